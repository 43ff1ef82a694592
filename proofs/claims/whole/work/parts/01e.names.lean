theorem dX7_copy_108 : decode cX7_copy 108 = .ok (.getfield 10, 3) := by decide +kernel
theorem dX7_copy_111 : decode cX7_copy 111 = .ok (.getfield 103, 3) := by decide +kernel
theorem dX7_copy_114 : decode cX7_copy 114 = .ok (.iload_n 1, 1) := by decide +kernel
theorem dX7_copy_115 : decode cX7_copy 115 = .ok (.aaload, 1) := by decide +kernel
theorem dX7_copy_116 : decode cX7_copy 116 = .ok (.iload_n 2, 1) := by decide +kernel
theorem dX7_copy_117 : decode cX7_copy 117 = .ok (.aload_n 0, 1) := by decide +kernel
theorem dX7_copy_118 : decode cX7_copy 118 = .ok (.getfield 10, 3) := by decide +kernel
theorem dX7_copy_121 : decode cX7_copy 121 = .ok (.getfield 103, 3) := by decide +kernel
theorem dX7_copy_124 : decode cX7_copy 124 = .ok (.iload_n 3, 1) := by decide +kernel
theorem dX7_copy_125 : decode cX7_copy 125 = .ok (.aaload, 1) := by decide +kernel
theorem dX7_copy_126 : decode cX7_copy 126 = .ok (.iload 4, 2) := by decide +kernel
theorem dX7_copy_128 : decode cX7_copy 128 = .ok (.iload 5, 2) := by decide +kernel
theorem dX7_copy_130 : decode cX7_copy 130 = .ok (.invokestatic 107, 3) := by decide +kernel
theorem dX7_copy_133 : decode cX7_copy 133 = .ok (.aload_n 0, 1) := by decide +kernel
theorem dX7_copy_134 : decode cX7_copy 134 = .ok (.iload 5, 2) := by decide +kernel
theorem dX7_copy_136 : decode cX7_copy 136 = .ok (.invokevirtual 85, 3) := by decide +kernel
theorem dX7_copy_139 : decode cX7_copy 139 = .ok (.ireturn, 1) := by decide +kernel
set_option maxRecDepth 20000 in
theorem ggX7_drop_X7_isRow : GoodIn wsX7_drop wsX7_isRow := goodIn_r _ [7] (by decide +kernel) (by decide +kernel)
set_option maxRecDepth 20000 in
theorem gX7_drop_X7_isRow : GoodIn wsX7_drop (va_wsS RX7 72 yX7_isRow wsX7_isRow) := goodIn_app (goodIn_of _ (by decide +kernel)) ggX7_drop_X7_isRow
set_option maxRecDepth 20000 in
theorem ggX7_drop_X4_isMissing : GoodIn wsX7_drop wsX4_isMissing := goodIn_r _ [12, 13, 35, 36, 37] (by decide +kernel) (by decide +kernel)
set_option maxRecDepth 20000 in
theorem gX7_drop_X4_isMissing : GoodIn wsX7_drop (wsV RX7 88 RX4 yX4_isMissing wsX4_isMissing) := goodIn_app (goodIn_of _ (by decide +kernel)) ggX7_drop_X4_isMissing
set_option maxRecDepth 20000 in
theorem ggX7_drop_X7_found : GoodIn wsX7_drop wsX7_found := goodIn_r _ [17, 18, 19, 24, 25, 26, 27, 28, 29, 30, 31, 32, 33, 34] (by decide +kernel) (by decide +kernel)
set_option maxRecDepth 20000 in
theorem gX7_drop_X7_found : GoodIn wsX7_drop (wsV RX7 77 RX7 yX7_found wsX7_found) := goodIn_app (goodIn_of _ (by decide +kernel)) ggX7_drop_X7_found
set_option maxRecDepth 20000 in
theorem ggX7_drop_X7_fine : GoodIn wsX7_drop wsX7_fine := goodIn_r _ [23, 18, 24, 25, 26, 27, 28, 29, 30, 31, 32, 33, 34] (by decide +kernel) (by decide +kernel)
set_option maxRecDepth 20000 in
theorem gX7_drop_X7_fine : GoodIn wsX7_drop (wsV RX7 85 RX7 yX7_fine wsX7_fine) := goodIn_app (goodIn_of _ (by decide +kernel)) ggX7_drop_X7_fine
theorem dX7_drop_0 : decode cX7_drop 0 = .ok (.iload_n 1, 1) := by decide +kernel
theorem dX7_drop_1 : decode cX7_drop 1 = .ok (.invokestatic 72, 3) := by decide +kernel
theorem dX7_drop_4 : decode cX7_drop 4 = .ok (.ifCond .ne 6, 3) := by decide +kernel
theorem dX7_drop_7 : decode cX7_drop 7 = .ok (.ldc 76, 2) := by decide +kernel
theorem dX7_drop_9 : decode cX7_drop 9 = .ok (.ireturn, 1) := by decide +kernel
theorem dX7_drop_10 : decode cX7_drop 10 = .ok (.aload_n 0, 1) := by decide +kernel
theorem dX7_drop_11 : decode cX7_drop 11 = .ok (.getfield 10, 3) := by decide +kernel
theorem dX7_drop_14 : decode cX7_drop 14 = .ok (.iload_n 1, 1) := by decide +kernel
theorem dX7_drop_15 : decode cX7_drop 15 = .ok (.invokevirtual 88, 3) := by decide +kernel
theorem dX7_drop_18 : decode cX7_drop 18 = .ok (.ifCond .eq 9, 3) := by decide +kernel
theorem dX7_drop_21 : decode cX7_drop 21 = .ok (.aload_n 0, 1) := by decide +kernel
theorem dX7_drop_22 : decode cX7_drop 22 = .ok (.iconst 1, 1) := by decide +kernel
theorem dX7_drop_23 : decode cX7_drop 23 = .ok (.invokevirtual 77, 3) := by decide +kernel
theorem dX7_drop_26 : decode cX7_drop 26 = .ok (.ireturn, 1) := by decide +kernel
theorem dX7_drop_27 : decode cX7_drop 27 = .ok (.aload_n 0, 1) := by decide +kernel
theorem dX7_drop_28 : decode cX7_drop 28 = .ok (.getfield 10, 3) := by decide +kernel
theorem dX7_drop_31 : decode cX7_drop 31 = .ok (.getfield 113, 3) := by decide +kernel
theorem dX7_drop_34 : decode cX7_drop 34 = .ok (.iload_n 1, 1) := by decide +kernel
theorem dX7_drop_35 : decode cX7_drop 35 = .ok (.iaload, 1) := by decide +kernel
theorem dX7_drop_36 : decode cX7_drop 36 = .ok (.istore_n 2, 1) := by decide +kernel
theorem dX7_drop_37 : decode cX7_drop 37 = .ok (.aload_n 0, 1) := by decide +kernel
theorem dX7_drop_38 : decode cX7_drop 38 = .ok (.getfield 10, 3) := by decide +kernel
theorem dX7_drop_41 : decode cX7_drop 41 = .ok (.getfield 113, 3) := by decide +kernel
theorem dX7_drop_44 : decode cX7_drop 44 = .ok (.iload_n 1, 1) := by decide +kernel
theorem dX7_drop_45 : decode cX7_drop 45 = .ok (.iconst (-1), 1) := by decide +kernel
theorem dX7_drop_46 : decode cX7_drop 46 = .ok (.iastore, 1) := by decide +kernel
theorem dX7_drop_47 : decode cX7_drop 47 = .ok (.aload_n 0, 1) := by decide +kernel
theorem dX7_drop_48 : decode cX7_drop 48 = .ok (.iload_n 2, 1) := by decide +kernel
theorem dX7_drop_49 : decode cX7_drop 49 = .ok (.invokevirtual 85, 3) := by decide +kernel
theorem dX7_drop_52 : decode cX7_drop 52 = .ok (.ireturn, 1) := by decide +kernel
set_option maxRecDepth 20000 in
theorem ggX7_feed_X6_append : GoodIn wsX7_feed wsX6_append := goodIn_r _ [9, 10, 11, 23, 24, 25, 26] (by decide +kernel) (by decide +kernel)
set_option maxRecDepth 20000 in
theorem gX7_feed_X6_append : GoodIn wsX7_feed (wsV RX7 119 RX6 yX6_append wsX6_append) := goodIn_app (goodIn_of _ (by decide +kernel)) ggX7_feed_X6_append
theorem dX7_feed_0 : decode cX7_feed 0 = .ok (.iload_n 1, 1) := by decide +kernel
theorem dX7_feed_1 : decode cX7_feed 1 = .ok (.ifCond .lt 10, 3) := by decide +kernel
theorem dX7_feed_4 : decode cX7_feed 4 = .ok (.iload_n 1, 1) := by decide +kernel
theorem dX7_feed_5 : decode cX7_feed 5 = .ok (.sipush 255, 3) := by decide +kernel
theorem dX7_feed_8 : decode cX7_feed 8 = .ok (.if_icmp .le 6, 3) := by decide +kernel
theorem dX7_feed_11 : decode cX7_feed 11 = .ok (.ldc 76, 2) := by decide +kernel
theorem dX7_feed_13 : decode cX7_feed 13 = .ok (.ireturn, 1) := by decide +kernel
theorem dX7_feed_14 : decode cX7_feed 14 = .ok (.aload_n 0, 1) := by decide +kernel
theorem dX7_feed_15 : decode cX7_feed 15 = .ok (.getfield 19, 3) := by decide +kernel
theorem dX7_feed_18 : decode cX7_feed 18 = .ok (.getfield 116, 3) := by decide +kernel
theorem dX7_feed_21 : decode cX7_feed 21 = .ok (.bipush 100, 2) := by decide +kernel
theorem dX7_feed_23 : decode cX7_feed 23 = .ok (.if_icmp .lt 6, 3) := by decide +kernel
theorem dX7_feed_26 : decode cX7_feed 26 = .ok (.ldc 118, 2) := by decide +kernel
theorem dX7_feed_28 : decode cX7_feed 28 = .ok (.ireturn, 1) := by decide +kernel
theorem dX7_feed_29 : decode cX7_feed 29 = .ok (.aload_n 0, 1) := by decide +kernel
theorem dX7_feed_30 : decode cX7_feed 30 = .ok (.getfield 19, 3) := by decide +kernel
theorem dX7_feed_33 : decode cX7_feed 33 = .ok (.iload_n 1, 1) := by decide +kernel
theorem dX7_feed_34 : decode cX7_feed 34 = .ok (.invokevirtual 119, 3) := by decide +kernel
theorem dX7_feed_37 : decode cX7_feed 37 = .ok (.aload_n 0, 1) := by decide +kernel
theorem dX7_feed_38 : decode cX7_feed 38 = .ok (.getfield 19, 3) := by decide +kernel
theorem dX7_feed_41 : decode cX7_feed 41 = .ok (.getfield 116, 3) := by decide +kernel
theorem dX7_feed_44 : decode cX7_feed 44 = .ok (.ireturn, 1) := by decide +kernel
set_option maxRecDepth 20000 in
theorem ggX7_mine_X6_readInto : GoodIn wsX7_mine wsX6_readInto := goodIn_r _ [14, 15, 16, 17, 18, 19, 20, 21, 22, 23, 24, 13, 25, 26, 27, 28, 29, 30, 31, 32, 33, 34, 35, 36, 37, 38, 39, 40, 41, 42, 43, 44, 45, 46, 47, 48, 49, 50, 51, 52, 53, 54, 55, 56, 57, 58, 59, 60, 61, 62, 63, 64, 98, 99, 100, 101, 102, 103, 104, 105, 106, 107, 108, 109, 110, 111, 112, 113] (by decide +kernel) (by decide +kernel)
set_option maxRecDepth 20000 in
theorem gX7_mine_X6_readInto : GoodIn wsX7_mine (wsV RX7 123 RX6 yX6_readInto wsX6_readInto) := goodIn_app (goodIn_of _ (by decide +kernel)) ggX7_mine_X6_readInto
set_option maxRecDepth 20000 in
theorem ggX7_mine_X3_become : GoodIn wsX7_mine wsX3_become := goodIn_r _ [69, 70, 71, 72, 73, 74, 75, 76, 77, 78, 79, 80, 102, 103, 104, 105, 106, 107, 108, 109, 110, 111, 112, 113] (by decide +kernel) (by decide +kernel)
set_option maxRecDepth 20000 in
theorem gX7_mine_X3_become : GoodIn wsX7_mine (wsV RX7 131 RX3 yX3_become wsX3_become) := goodIn_app (goodIn_of _ (by decide +kernel)) ggX7_mine_X3_become
set_option maxRecDepth 20000 in
theorem ggX7_mine_X0_forgetAll : GoodIn wsX7_mine wsX0_forgetAll := goodIn_r _ [85, 86, 114, 115, 116] (by decide +kernel) (by decide +kernel)
set_option maxRecDepth 20000 in
theorem gX7_mine_X0_forgetAll : GoodIn wsX7_mine (wsV RX7 135 RX0 yX0_forgetAll wsX0_forgetAll) := goodIn_app (goodIn_of _ (by decide +kernel)) ggX7_mine_X0_forgetAll
theorem dX7_mine_0 : decode cX7_mine 0 = .ok (.aload_n 0, 1) := by decide +kernel
theorem dX7_mine_1 : decode cX7_mine 1 = .ok (.getfield 19, 3) := by decide +kernel
theorem dX7_mine_4 : decode cX7_mine 4 = .ok (.aload_n 0, 1) := by decide +kernel
theorem dX7_mine_5 : decode cX7_mine 5 = .ok (.getfield 30, 3) := by decide +kernel
theorem dX7_mine_8 : decode cX7_mine 8 = .ok (.invokevirtual 123, 3) := by decide +kernel
theorem dX7_mine_11 : decode cX7_mine 11 = .ok (.istore_n 1, 1) := by decide +kernel
theorem dX7_mine_12 : decode cX7_mine 12 = .ok (.aload_n 0, 1) := by decide +kernel
theorem dX7_mine_13 : decode cX7_mine 13 = .ok (.getfield 19, 3) := by decide +kernel
theorem dX7_mine_16 : decode cX7_mine 16 = .ok (.iconst 0, 1) := by decide +kernel
theorem dX7_mine_17 : decode cX7_mine 17 = .ok (.putfield 116, 3) := by decide +kernel
theorem dX7_mine_20 : decode cX7_mine 20 = .ok (.iload_n 1, 1) := by decide +kernel
theorem dX7_mine_21 : decode cX7_mine 21 = .ok (.ifCond .eq 19, 3) := by decide +kernel
theorem dX7_mine_24 : decode cX7_mine 24 = .ok (.aload_n 0, 1) := by decide +kernel
theorem dX7_mine_25 : decode cX7_mine 25 = .ok (.iload_n 1, 1) := by decide +kernel
theorem dX7_mine_26 : decode cX7_mine 26 = .ok (.putfield 65, 3) := by decide +kernel
theorem dX7_mine_29 : decode cX7_mine 29 = .ok (.ldc 127, 2) := by decide +kernel
theorem dX7_mine_31 : decode cX7_mine 31 = .ok (.aload_n 0, 1) := by decide +kernel
theorem dX7_mine_32 : decode cX7_mine 32 = .ok (.getfield 19, 3) := by decide +kernel
theorem dX7_mine_35 : decode cX7_mine 35 = .ok (.getfield 128, 3) := by decide +kernel
theorem dX7_mine_38 : decode cX7_mine 38 = .ok (.isub, 1) := by decide +kernel
theorem dX7_mine_39 : decode cX7_mine 39 = .ok (.ireturn, 1) := by decide +kernel
theorem dX7_mine_40 : decode cX7_mine 40 = .ok (.aload_n 0, 1) := by decide +kernel
theorem dX7_mine_41 : decode cX7_mine 41 = .ok (.getfield 26, 3) := by decide +kernel
theorem dX7_mine_44 : decode cX7_mine 44 = .ok (.aload_n 0, 1) := by decide +kernel
theorem dX7_mine_45 : decode cX7_mine 45 = .ok (.getfield 30, 3) := by decide +kernel
theorem dX7_mine_48 : decode cX7_mine 48 = .ok (.invokevirtual 131, 3) := by decide +kernel
theorem dX7_mine_51 : decode cX7_mine 51 = .ok (.aload_n 0, 1) := by decide +kernel
theorem dX7_mine_52 : decode cX7_mine 52 = .ok (.getfield 36, 3) := by decide +kernel
theorem dX7_mine_55 : decode cX7_mine 55 = .ok (.invokevirtual 135, 3) := by decide +kernel
theorem dX7_mine_58 : decode cX7_mine 58 = .ok (.aload_n 0, 1) := by decide +kernel
theorem dX7_mine_59 : decode cX7_mine 59 = .ok (.getfield 26, 3) := by decide +kernel
theorem dX7_mine_62 : decode cX7_mine 62 = .ok (.getfield 138, 3) := by decide +kernel
theorem dX7_mine_65 : decode cX7_mine 65 = .ok (.ireturn, 1) := by decide +kernel
theorem dX7_fault_0 : decode cX7_fault 0 = .ok (.aload_n 0, 1) := by decide +kernel
theorem dX7_fault_1 : decode cX7_fault 1 = .ok (.getfield 65, 3) := by decide +kernel
theorem dX7_fault_4 : decode cX7_fault 4 = .ok (.ireturn, 1) := by decide +kernel
set_option maxRecDepth 20000 in
theorem ggX7_years_X0_keep : GoodIn wsX7_years wsX0_keep := goodIn_r _ [12, 13, 14, 15, 16, 17, 18, 19, 20, 21, 22, 23, 24, 25, 26, 27, 28, 29, 30, 31, 32, 33, 34, 35, 85, 86, 87, 73, 74, 75, 76, 77, 78, 79, 80, 81, 82, 83, 84] (by decide +kernel) (by decide +kernel)
set_option maxRecDepth 20000 in
theorem gX7_years_X0_keep : GoodIn wsX7_years (wsV RX7 149 RX0 yX0_keep wsX0_keep) := goodIn_app (goodIn_of _ (by decide +kernel)) ggX7_years_X0_keep
set_option maxRecDepth 20000 in
theorem ggX7_years_X3_passYear : GoodIn wsX7_years wsX3_passYear := goodIn_r _ [39, 26, 40, 32, 29, 41, 42, 43, 23, 44, 31, 45, 17, 18, 19, 46, 47, 48, 49, 50, 51, 52, 53, 34, 54, 55, 56, 57, 33, 73, 74, 75, 76, 77, 78, 79, 80, 81, 82, 83, 84] (by decide +kernel) (by decide +kernel)
set_option maxRecDepth 20000 in
theorem gX7_years_X3_passYear : GoodIn wsX7_years (wsV RX7 152 RX3 yX3_passYear wsX3_passYear) := goodIn_app (goodIn_of _ (by decide +kernel)) ggX7_years_X3_passYear
set_option maxRecDepth 20000 in
theorem ggX7_years_X3_allUp : GoodIn wsX7_years wsX3_allUp := goodIn_r _ [61, 26, 46, 47, 48, 23, 49, 32, 73, 74, 75, 76, 77, 78, 79, 80, 81, 82, 83, 84] (by decide +kernel) (by decide +kernel)
set_option maxRecDepth 20000 in
theorem gX7_years_X3_allUp : GoodIn wsX7_years (wsV RX7 156 RX3 yX3_allUp wsX3_allUp) := goodIn_app (goodIn_of _ (by decide +kernel)) ggX7_years_X3_allUp
theorem dX7_years_0 : decode cX7_years 0 = .ok (.aload_n 0, 1) := by decide +kernel
theorem dX7_years_1 : decode cX7_years 1 = .ok (.getfield 26, 3) := by decide +kernel
theorem dX7_years_4 : decode cX7_years 4 = .ok (.getfield 141, 3) := by decide +kernel
theorem dX7_years_7 : decode cX7_years 7 = .ok (.ifCond .ne 6, 3) := by decide +kernel
theorem dX7_years_10 : decode cX7_years 10 = .ok (.ldc 145, 2) := by decide +kernel
theorem dX7_years_12 : decode cX7_years 12 = .ok (.ireturn, 1) := by decide +kernel
theorem dX7_years_13 : decode cX7_years 13 = .ok (.iload_n 1, 1) := by decide +kernel
theorem dX7_years_14 : decode cX7_years 14 = .ok (.iconst 1, 1) := by decide +kernel
theorem dX7_years_15 : decode cX7_years 15 = .ok (.if_icmp .lt 9, 3) := by decide +kernel
theorem dX7_years_18 : decode cX7_years 18 = .ok (.iload_n 1, 1) := by decide +kernel
theorem dX7_years_19 : decode cX7_years 19 = .ok (.bipush 24, 2) := by decide +kernel
theorem dX7_years_21 : decode cX7_years 21 = .ok (.if_icmp .le 6, 3) := by decide +kernel
theorem dX7_years_24 : decode cX7_years 24 = .ok (.ldc 76, 2) := by decide +kernel
theorem dX7_years_26 : decode cX7_years 26 = .ok (.ireturn, 1) := by decide +kernel
theorem dX7_years_27 : decode cX7_years 27 = .ok (.aload_n 0, 1) := by decide +kernel
theorem dX7_years_28 : decode cX7_years 28 = .ok (.getfield 26, 3) := by decide +kernel
theorem dX7_years_31 : decode cX7_years 31 = .ok (.getfield 146, 3) := by decide +kernel
theorem dX7_years_34 : decode cX7_years 34 = .ok (.iload_n 1, 1) := by decide +kernel
theorem dX7_years_35 : decode cX7_years 35 = .ok (.iadd, 1) := by decide +kernel
theorem dX7_years_36 : decode cX7_years 36 = .ok (.sipush 999, 3) := by decide +kernel
theorem dX7_years_39 : decode cX7_years 39 = .ok (.if_icmp .le 6, 3) := by decide +kernel
theorem dX7_years_42 : decode cX7_years 42 = .ok (.ldc 118, 2) := by decide +kernel
theorem dX7_years_44 : decode cX7_years 44 = .ok (.ireturn, 1) := by decide +kernel
theorem dX7_years_45 : decode cX7_years 45 = .ok (.iconst 0, 1) := by decide +kernel
theorem dX7_years_46 : decode cX7_years 46 = .ok (.istore_n 2, 1) := by decide +kernel
theorem dX7_years_47 : decode cX7_years 47 = .ok (.iload_n 2, 1) := by decide +kernel
theorem dX7_years_48 : decode cX7_years 48 = .ok (.iload_n 1, 1) := by decide +kernel
theorem dX7_years_49 : decode cX7_years 49 = .ok (.if_icmp .ge 28, 3) := by decide +kernel
theorem dX7_years_52 : decode cX7_years 52 = .ok (.aload_n 0, 1) := by decide +kernel
theorem dX7_years_53 : decode cX7_years 53 = .ok (.getfield 36, 3) := by decide +kernel
theorem dX7_years_56 : decode cX7_years 56 = .ok (.aload_n 0, 1) := by decide +kernel
theorem dX7_years_57 : decode cX7_years 57 = .ok (.getfield 26, 3) := by decide +kernel
theorem dX7_years_60 : decode cX7_years 60 = .ok (.invokevirtual 149, 3) := by decide +kernel
theorem dX7_years_63 : decode cX7_years 63 = .ok (.aload_n 0, 1) := by decide +kernel
theorem dX7_years_64 : decode cX7_years 64 = .ok (.getfield 26, 3) := by decide +kernel
theorem dX7_years_67 : decode cX7_years 67 = .ok (.invokevirtual 152, 3) := by decide +kernel
theorem dX7_years_70 : decode cX7_years 70 = .ok (.pop, 1) := by decide +kernel
theorem dX7_years_71 : decode cX7_years 71 = .ok (.iinc 2 1, 3) := by decide +kernel
theorem dX7_years_74 : decode cX7_years 74 = .ok (.goto (-27), 3) := by decide +kernel
theorem dX7_years_77 : decode cX7_years 77 = .ok (.aload_n 0, 1) := by decide +kernel
theorem dX7_years_78 : decode cX7_years 78 = .ok (.getfield 26, 3) := by decide +kernel
theorem dX7_years_81 : decode cX7_years 81 = .ok (.invokevirtual 156, 3) := by decide +kernel
theorem dX7_years_84 : decode cX7_years 84 = .ok (.ireturn, 1) := by decide +kernel
set_option maxRecDepth 20000 in
theorem ggX7_bury_X7_isThing : GoodIn wsX7_bury wsX7_isThing := goodIn_r _ [11, 3, 12, 41, 42, 43, 44, 45, 46, 47, 48, 49, 50, 51, 52, 53, 54, 55, 56, 57, 58, 59, 60, 61, 62, 63] (by decide +kernel) (by decide +kernel)
set_option maxRecDepth 20000 in
theorem gX7_bury_X7_isThing : GoodIn wsX7_bury (wsV RX7 160 RX7 yX7_isThing wsX7_isThing) := goodIn_app (goodIn_of _ (by decide +kernel)) ggX7_bury_X7_isThing
set_option maxRecDepth 20000 in
theorem ggX7_bury_X0_keep : GoodIn wsX7_bury wsX0_keep := goodIn_r _ [17, 18, 19, 20, 21, 22, 23, 24, 25, 26, 27, 28, 29, 30, 31, 32, 33, 34, 35, 36, 37, 38, 39, 40, 64, 65, 66, 52, 53, 54, 55, 56, 57, 58, 59, 60, 61, 62, 63] (by decide +kernel) (by decide +kernel)
set_option maxRecDepth 20000 in
theorem gX7_bury_X0_keep : GoodIn wsX7_bury (wsV RX7 149 RX0 yX0_keep wsX0_keep) := goodIn_app (goodIn_of _ (by decide +kernel)) ggX7_bury_X0_keep
theorem dX7_bury_0 : decode cX7_bury 0 = .ok (.aload_n 0, 1) := by decide +kernel
theorem dX7_bury_1 : decode cX7_bury 1 = .ok (.iload_n 1, 1) := by decide +kernel
theorem dX7_bury_2 : decode cX7_bury 2 = .ok (.invokevirtual 160, 3) := by decide +kernel
theorem dX7_bury_5 : decode cX7_bury 5 = .ok (.ifCond .eq 23, 3) := by decide +kernel
theorem dX7_bury_8 : decode cX7_bury 8 = .ok (.iload_n 2, 1) := by decide +kernel
theorem dX7_bury_9 : decode cX7_bury 9 = .ok (.ifCond .lt 19, 3) := by decide +kernel
theorem dX7_bury_12 : decode cX7_bury 12 = .ok (.iload_n 2, 1) := by decide +kernel
theorem dX7_bury_13 : decode cX7_bury 13 = .ok (.iconst 4, 1) := by decide +kernel
theorem dX7_bury_14 : decode cX7_bury 14 = .ok (.if_icmp .ge 14, 3) := by decide +kernel
theorem dX7_bury_17 : decode cX7_bury 17 = .ok (.iload_n 3, 1) := by decide +kernel
theorem dX7_bury_18 : decode cX7_bury 18 = .ok (.iconst 1, 1) := by decide +kernel
theorem dX7_bury_19 : decode cX7_bury 19 = .ok (.if_icmp .lt 9, 3) := by decide +kernel
theorem dX7_bury_22 : decode cX7_bury 22 = .ok (.iload_n 3, 1) := by decide +kernel
theorem dX7_bury_23 : decode cX7_bury 23 = .ok (.bipush 40, 2) := by decide +kernel
theorem dX7_bury_25 : decode cX7_bury 25 = .ok (.if_icmp .le 6, 3) := by decide +kernel
theorem dX7_bury_28 : decode cX7_bury 28 = .ok (.ldc 76, 2) := by decide +kernel
theorem dX7_bury_30 : decode cX7_bury 30 = .ok (.ireturn, 1) := by decide +kernel
theorem dX7_bury_31 : decode cX7_bury 31 = .ok (.aload_n 0, 1) := by decide +kernel
theorem dX7_bury_32 : decode cX7_bury 32 = .ok (.getfield 36, 3) := by decide +kernel
theorem dX7_bury_35 : decode cX7_bury 35 = .ok (.aload_n 0, 1) := by decide +kernel
theorem dX7_bury_36 : decode cX7_bury 36 = .ok (.getfield 26, 3) := by decide +kernel
theorem dX7_bury_39 : decode cX7_bury 39 = .ok (.invokevirtual 149, 3) := by decide +kernel
theorem dX7_bury_42 : decode cX7_bury 42 = .ok (.aload_n 0, 1) := by decide +kernel
theorem dX7_bury_43 : decode cX7_bury 43 = .ok (.getfield 26, 3) := by decide +kernel
theorem dX7_bury_46 : decode cX7_bury 46 = .ok (.dup, 1) := by decide +kernel
theorem dX7_bury_47 : decode cX7_bury 47 = .ok (.getfield 163, 3) := by decide +kernel
theorem dX7_bury_50 : decode cX7_bury 50 = .ok (.aload_n 0, 1) := by decide +kernel
theorem dX7_bury_51 : decode cX7_bury 51 = .ok (.getfield 26, 3) := by decide +kernel
theorem dX7_bury_54 : decode cX7_bury 54 = .ok (.getfield 166, 3) := by decide +kernel
theorem dX7_bury_57 : decode cX7_bury 57 = .ok (.iload_n 1, 1) := by decide +kernel
theorem dX7_bury_58 : decode cX7_bury 58 = .ok (.iaload, 1) := by decide +kernel
theorem dX7_bury_59 : decode cX7_bury 59 = .ok (.iload_n 3, 1) := by decide +kernel
theorem dX7_bury_60 : decode cX7_bury 60 = .ok (.iadd, 1) := by decide +kernel
theorem dX7_bury_61 : decode cX7_bury 61 = .ok (.iadd, 1) := by decide +kernel
theorem dX7_bury_62 : decode cX7_bury 62 = .ok (.putfield 163, 3) := by decide +kernel
theorem dX7_bury_65 : decode cX7_bury 65 = .ok (.aload_n 0, 1) := by decide +kernel
theorem dX7_bury_66 : decode cX7_bury 66 = .ok (.getfield 26, 3) := by decide +kernel
theorem dX7_bury_69 : decode cX7_bury 69 = .ok (.getfield 169, 3) := by decide +kernel
theorem dX7_bury_72 : decode cX7_bury 72 = .ok (.iload_n 1, 1) := by decide +kernel
theorem dX7_bury_73 : decode cX7_bury 73 = .ok (.iload_n 2, 1) := by decide +kernel
theorem dX7_bury_74 : decode cX7_bury 74 = .ok (.iastore, 1) := by decide +kernel
theorem dX7_bury_75 : decode cX7_bury 75 = .ok (.aload_n 0, 1) := by decide +kernel
theorem dX7_bury_76 : decode cX7_bury 76 = .ok (.getfield 26, 3) := by decide +kernel
theorem dX7_bury_79 : decode cX7_bury 79 = .ok (.getfield 166, 3) := by decide +kernel
theorem dX7_bury_82 : decode cX7_bury 82 = .ok (.iload_n 1, 1) := by decide +kernel
theorem dX7_bury_83 : decode cX7_bury 83 = .ok (.iload_n 3, 1) := by decide +kernel
theorem dX7_bury_84 : decode cX7_bury 84 = .ok (.iastore, 1) := by decide +kernel
theorem dX7_bury_85 : decode cX7_bury 85 = .ok (.aload_n 0, 1) := by decide +kernel
theorem dX7_bury_86 : decode cX7_bury 86 = .ok (.getfield 26, 3) := by decide +kernel
theorem dX7_bury_89 : decode cX7_bury 89 = .ok (.getfield 163, 3) := by decide +kernel
theorem dX7_bury_92 : decode cX7_bury 92 = .ok (.ireturn, 1) := by decide +kernel
set_option maxRecDepth 20000 in
theorem ggX7_tell_X7_isThing : GoodIn wsX7_tell wsX7_isThing := goodIn_r _ [10, 2, 11, 45, 46, 47, 48, 49, 50, 51, 52, 53, 54, 55, 56, 57, 58, 59, 60, 61, 62, 63, 64, 65, 66, 67] (by decide +kernel) (by decide +kernel)
set_option maxRecDepth 20000 in
theorem gX7_tell_X7_isThing : GoodIn wsX7_tell (wsV RX7 160 RX7 yX7_isThing wsX7_isThing) := goodIn_app (goodIn_of _ (by decide +kernel)) ggX7_tell_X7_isThing
set_option maxRecDepth 20000 in
theorem ggX7_tell_X7_isMan : GoodIn wsX7_tell wsX7_isMan := goodIn_r _ [15, 2, 16, 45, 46, 47, 48, 49, 50, 51, 52, 53, 54, 55, 56, 57, 58, 59, 60, 61, 62, 63, 64, 65, 66, 67] (by decide +kernel) (by decide +kernel)
set_option maxRecDepth 20000 in
theorem gX7_tell_X7_isMan : GoodIn wsX7_tell (wsV RX7 172 RX7 yX7_isMan wsX7_isMan) := goodIn_app (goodIn_of _ (by decide +kernel)) ggX7_tell_X7_isMan
set_option maxRecDepth 20000 in
theorem ggX7_tell_X0_keep : GoodIn wsX7_tell wsX0_keep := goodIn_r _ [21, 22, 23, 24, 25, 26, 27, 28, 29, 30, 31, 32, 33, 34, 35, 36, 37, 38, 39, 40, 41, 42, 43, 44, 68, 69, 70, 56, 57, 58, 59, 60, 61, 62, 63, 64, 65, 66, 67] (by decide +kernel) (by decide +kernel)
set_option maxRecDepth 20000 in
theorem gX7_tell_X0_keep : GoodIn wsX7_tell (wsV RX7 149 RX0 yX0_keep wsX0_keep) := goodIn_app (goodIn_of _ (by decide +kernel)) ggX7_tell_X0_keep
theorem dX7_tell_0 : decode cX7_tell 0 = .ok (.aload_n 0, 1) := by decide +kernel
theorem dX7_tell_1 : decode cX7_tell 1 = .ok (.iload_n 1, 1) := by decide +kernel
theorem dX7_tell_2 : decode cX7_tell 2 = .ok (.invokevirtual 160, 3) := by decide +kernel
theorem dX7_tell_5 : decode cX7_tell 5 = .ok (.ifCond .eq 20, 3) := by decide +kernel
theorem dX7_tell_8 : decode cX7_tell 8 = .ok (.aload_n 0, 1) := by decide +kernel
theorem dX7_tell_9 : decode cX7_tell 9 = .ok (.iload_n 2, 1) := by decide +kernel
theorem dX7_tell_10 : decode cX7_tell 10 = .ok (.invokevirtual 172, 3) := by decide +kernel
theorem dX7_tell_13 : decode cX7_tell 13 = .ok (.ifCond .eq 12, 3) := by decide +kernel
theorem dX7_tell_16 : decode cX7_tell 16 = .ok (.iload_n 3, 1) := by decide +kernel
theorem dX7_tell_17 : decode cX7_tell 17 = .ok (.ifCond .lt 8, 3) := by decide +kernel
theorem dX7_tell_20 : decode cX7_tell 20 = .ok (.iload_n 3, 1) := by decide +kernel
theorem dX7_tell_21 : decode cX7_tell 21 = .ok (.iconst 1, 1) := by decide +kernel
theorem dX7_tell_22 : decode cX7_tell 22 = .ok (.if_icmp .le 6, 3) := by decide +kernel
theorem dX7_tell_25 : decode cX7_tell 25 = .ok (.ldc 76, 2) := by decide +kernel
theorem dX7_tell_27 : decode cX7_tell 27 = .ok (.ireturn, 1) := by decide +kernel
theorem dX7_tell_28 : decode cX7_tell 28 = .ok (.aload_n 0, 1) := by decide +kernel
theorem dX7_tell_29 : decode cX7_tell 29 = .ok (.getfield 26, 3) := by decide +kernel
theorem dX7_tell_32 : decode cX7_tell 32 = .ok (.getfield 175, 3) := by decide +kernel
theorem dX7_tell_35 : decode cX7_tell 35 = .ok (.iload_n 1, 1) := by decide +kernel
theorem dX7_tell_36 : decode cX7_tell 36 = .ok (.iaload, 1) := by decide +kernel
theorem dX7_tell_37 : decode cX7_tell 37 = .ok (.iload_n 2, 1) := by decide +kernel
theorem dX7_tell_38 : decode cX7_tell 38 = .ok (.ishr, 1) := by decide +kernel
theorem dX7_tell_39 : decode cX7_tell 39 = .ok (.iconst 1, 1) := by decide +kernel
theorem dX7_tell_40 : decode cX7_tell 40 = .ok (.iand, 1) := by decide +kernel
theorem dX7_tell_41 : decode cX7_tell 41 = .ok (.iload_n 3, 1) := by decide +kernel
theorem dX7_tell_42 : decode cX7_tell 42 = .ok (.if_icmp .ne 6, 3) := by decide +kernel
theorem dX7_tell_45 : decode cX7_tell 45 = .ok (.ldc 145, 2) := by decide +kernel
theorem dX7_tell_47 : decode cX7_tell 47 = .ok (.ireturn, 1) := by decide +kernel
theorem dX7_tell_48 : decode cX7_tell 48 = .ok (.aload_n 0, 1) := by decide +kernel
theorem dX7_tell_49 : decode cX7_tell 49 = .ok (.getfield 36, 3) := by decide +kernel
theorem dX7_tell_52 : decode cX7_tell 52 = .ok (.aload_n 0, 1) := by decide +kernel
theorem dX7_tell_53 : decode cX7_tell 53 = .ok (.getfield 26, 3) := by decide +kernel
theorem dX7_tell_56 : decode cX7_tell 56 = .ok (.invokevirtual 149, 3) := by decide +kernel
theorem dX7_tell_59 : decode cX7_tell 59 = .ok (.aload_n 0, 1) := by decide +kernel
theorem dX7_tell_60 : decode cX7_tell 60 = .ok (.getfield 26, 3) := by decide +kernel
theorem dX7_tell_63 : decode cX7_tell 63 = .ok (.getfield 175, 3) := by decide +kernel
theorem dX7_tell_66 : decode cX7_tell 66 = .ok (.iload_n 1, 1) := by decide +kernel
theorem dX7_tell_67 : decode cX7_tell 67 = .ok (.dup2, 1) := by decide +kernel
theorem dX7_tell_68 : decode cX7_tell 68 = .ok (.iaload, 1) := by decide +kernel
theorem dX7_tell_69 : decode cX7_tell 69 = .ok (.iconst 1, 1) := by decide +kernel
theorem dX7_tell_70 : decode cX7_tell 70 = .ok (.iload_n 2, 1) := by decide +kernel
theorem dX7_tell_71 : decode cX7_tell 71 = .ok (.ishl, 1) := by decide +kernel
theorem dX7_tell_72 : decode cX7_tell 72 = .ok (.ixor, 1) := by decide +kernel
theorem dX7_tell_73 : decode cX7_tell 73 = .ok (.iastore, 1) := by decide +kernel
theorem dX7_tell_74 : decode cX7_tell 74 = .ok (.aload_n 0, 1) := by decide +kernel
theorem dX7_tell_75 : decode cX7_tell 75 = .ok (.getfield 26, 3) := by decide +kernel
theorem dX7_tell_78 : decode cX7_tell 78 = .ok (.getfield 175, 3) := by decide +kernel
theorem dX7_tell_81 : decode cX7_tell 81 = .ok (.iload_n 1, 1) := by decide +kernel
theorem dX7_tell_82 : decode cX7_tell 82 = .ok (.iaload, 1) := by decide +kernel
theorem dX7_tell_83 : decode cX7_tell 83 = .ok (.ireturn, 1) := by decide +kernel
set_option maxRecDepth 20000 in
theorem ggX7_undo_X0_takeBack : GoodIn wsX7_undo wsX0_takeBack := goodIn_r _ [9, 10, 11, 12, 13, 14, 15, 16, 17, 18, 19, 20, 21, 22, 23, 24, 25, 26, 27, 28, 40, 41, 42, 43, 44, 45, 46, 47, 48, 49, 50, 51, 52, 53, 54] (by decide +kernel) (by decide +kernel)
set_option maxRecDepth 20000 in
theorem gX7_undo_X0_takeBack : GoodIn wsX7_undo (wsV RX7 181 RX0 yX0_takeBack wsX0_takeBack) := goodIn_app (goodIn_of _ (by decide +kernel)) ggX7_undo_X0_takeBack
theorem dX7_undo_0 : decode cX7_undo 0 = .ok (.aload_n 0, 1) := by decide +kernel
theorem dX7_undo_1 : decode cX7_undo 1 = .ok (.getfield 36, 3) := by decide +kernel
theorem dX7_undo_4 : decode cX7_undo 4 = .ok (.getfield 178, 3) := by decide +kernel
theorem dX7_undo_7 : decode cX7_undo 7 = .ok (.ifCond .ne 6, 3) := by decide +kernel
theorem dX7_undo_10 : decode cX7_undo 10 = .ok (.ldc 145, 2) := by decide +kernel
theorem dX7_undo_12 : decode cX7_undo 12 = .ok (.ireturn, 1) := by decide +kernel
theorem dX7_undo_13 : decode cX7_undo 13 = .ok (.aload_n 0, 1) := by decide +kernel
theorem dX7_undo_14 : decode cX7_undo 14 = .ok (.getfield 36, 3) := by decide +kernel
theorem dX7_undo_17 : decode cX7_undo 17 = .ok (.aload_n 0, 1) := by decide +kernel
theorem dX7_undo_18 : decode cX7_undo 18 = .ok (.getfield 26, 3) := by decide +kernel
theorem dX7_undo_21 : decode cX7_undo 21 = .ok (.invokevirtual 181, 3) := by decide +kernel
theorem dX7_undo_24 : decode cX7_undo 24 = .ok (.aload_n 0, 1) := by decide +kernel
theorem dX7_undo_25 : decode cX7_undo 25 = .ok (.getfield 36, 3) := by decide +kernel
theorem dX7_undo_28 : decode cX7_undo 28 = .ok (.getfield 178, 3) := by decide +kernel
theorem dX7_undo_31 : decode cX7_undo 31 = .ok (.ireturn, 1) := by decide +kernel
set_option maxRecDepth 20000 in
theorem ggX7_thing_X7_isThing : GoodIn wsX7_thing wsX7_isThing := goodIn_r _ [11, 2, 12, 52, 53, 54, 55, 56, 57, 58, 59, 60, 61, 62, 63, 64, 65, 66, 67, 68, 69, 70, 71, 72, 73, 74] (by decide +kernel) (by decide +kernel)
set_option maxRecDepth 20000 in
theorem gX7_thing_X7_isThing : GoodIn wsX7_thing (wsV RX7 160 RX7 yX7_isThing wsX7_isThing) := goodIn_app (goodIn_of _ (by decide +kernel)) ggX7_thing_X7_isThing
set_option maxRecDepth 20000 in
theorem ggX7_thing_X3_nearTo : GoodIn wsX7_thing wsX3_nearTo := goodIn_r _ [17, 18, 19, 20, 21, 16, 22, 23, 24, 25, 26, 27, 28, 29, 30, 31, 32, 33, 63, 64, 65, 66, 67, 68, 69, 70, 71, 72, 73, 74] (by decide +kernel) (by decide +kernel)
set_option maxRecDepth 20000 in
theorem gX7_thing_X3_nearTo : GoodIn wsX7_thing (wsV RX7 187 RX3 yX3_nearTo wsX3_nearTo) := goodIn_app (goodIn_of _ (by decide +kernel)) ggX7_thing_X3_nearTo
set_option maxRecDepth 20000 in
theorem ggX7_thing_X3_riseOf : GoodIn wsX7_thing wsX3_riseOf := goodIn_r _ [37, 38, 28, 39, 40, 26, 41, 42, 30, 31, 32, 16, 33, 43, 44, 45, 46, 47, 48, 49, 50, 51, 18, 23, 63, 64, 65, 66, 67, 68, 69, 70, 71, 72, 73, 74] (by decide +kernel) (by decide +kernel)
set_option maxRecDepth 20000 in
theorem gX7_thing_X3_riseOf : GoodIn wsX7_thing (wsV RX7 190 RX3 yX3_riseOf wsX3_riseOf) := goodIn_app (goodIn_of _ (by decide +kernel)) ggX7_thing_X3_riseOf
theorem dX7_thing_0 : decode cX7_thing 0 = .ok (.aload_n 0, 1) := by decide +kernel
theorem dX7_thing_1 : decode cX7_thing 1 = .ok (.iload_n 1, 1) := by decide +kernel
theorem dX7_thing_2 : decode cX7_thing 2 = .ok (.invokevirtual 160, 3) := by decide +kernel
theorem dX7_thing_5 : decode cX7_thing 5 = .ok (.ifCond .ne 6, 3) := by decide +kernel
theorem dX7_thing_8 : decode cX7_thing 8 = .ok (.ldc 76, 2) := by decide +kernel
theorem dX7_thing_10 : decode cX7_thing 10 = .ok (.ireturn, 1) := by decide +kernel
theorem dX7_thing_11 : decode cX7_thing 11 = .ok (.iload_n 2, 1) := by decide +kernel
theorem dX7_thing_12 : decode cX7_thing 12 = .ok (.tableswitch 98 0 5 #[40, 50, 60, 70, 80, 89], 40) := by decide +kernel
theorem dX7_thing_52 : decode cX7_thing 52 = .ok (.aload_n 0, 1) := by decide +kernel
theorem dX7_thing_53 : decode cX7_thing 53 = .ok (.getfield 26, 3) := by decide +kernel
theorem dX7_thing_56 : decode cX7_thing 56 = .ok (.getfield 166, 3) := by decide +kernel
theorem dX7_thing_59 : decode cX7_thing 59 = .ok (.iload_n 1, 1) := by decide +kernel
theorem dX7_thing_60 : decode cX7_thing 60 = .ok (.iaload, 1) := by decide +kernel
theorem dX7_thing_61 : decode cX7_thing 61 = .ok (.ireturn, 1) := by decide +kernel
theorem dX7_thing_62 : decode cX7_thing 62 = .ok (.aload_n 0, 1) := by decide +kernel
theorem dX7_thing_63 : decode cX7_thing 63 = .ok (.getfield 26, 3) := by decide +kernel
theorem dX7_thing_66 : decode cX7_thing 66 = .ok (.getfield 169, 3) := by decide +kernel
theorem dX7_thing_69 : decode cX7_thing 69 = .ok (.iload_n 1, 1) := by decide +kernel
theorem dX7_thing_70 : decode cX7_thing 70 = .ok (.iaload, 1) := by decide +kernel
theorem dX7_thing_71 : decode cX7_thing 71 = .ok (.ireturn, 1) := by decide +kernel
theorem dX7_thing_72 : decode cX7_thing 72 = .ok (.aload_n 0, 1) := by decide +kernel
theorem dX7_thing_73 : decode cX7_thing 73 = .ok (.getfield 26, 3) := by decide +kernel
theorem dX7_thing_76 : decode cX7_thing 76 = .ok (.getfield 184, 3) := by decide +kernel
theorem dX7_thing_79 : decode cX7_thing 79 = .ok (.iload_n 1, 1) := by decide +kernel
theorem dX7_thing_80 : decode cX7_thing 80 = .ok (.iaload, 1) := by decide +kernel
theorem dX7_thing_81 : decode cX7_thing 81 = .ok (.ireturn, 1) := by decide +kernel
theorem dX7_thing_82 : decode cX7_thing 82 = .ok (.aload_n 0, 1) := by decide +kernel
theorem dX7_thing_83 : decode cX7_thing 83 = .ok (.getfield 26, 3) := by decide +kernel
theorem dX7_thing_86 : decode cX7_thing 86 = .ok (.getfield 175, 3) := by decide +kernel
theorem dX7_thing_89 : decode cX7_thing 89 = .ok (.iload_n 1, 1) := by decide +kernel
theorem dX7_thing_90 : decode cX7_thing 90 = .ok (.iaload, 1) := by decide +kernel
theorem dX7_thing_91 : decode cX7_thing 91 = .ok (.ireturn, 1) := by decide +kernel
theorem dX7_thing_92 : decode cX7_thing 92 = .ok (.aload_n 0, 1) := by decide +kernel
theorem dX7_thing_93 : decode cX7_thing 93 = .ok (.getfield 26, 3) := by decide +kernel
theorem dX7_thing_96 : decode cX7_thing 96 = .ok (.iload_n 1, 1) := by decide +kernel
theorem dX7_thing_97 : decode cX7_thing 97 = .ok (.invokevirtual 187, 3) := by decide +kernel
theorem dX7_thing_100 : decode cX7_thing 100 = .ok (.ireturn, 1) := by decide +kernel
theorem dX7_thing_101 : decode cX7_thing 101 = .ok (.aload_n 0, 1) := by decide +kernel
theorem dX7_thing_102 : decode cX7_thing 102 = .ok (.getfield 26, 3) := by decide +kernel
theorem dX7_thing_105 : decode cX7_thing 105 = .ok (.iload_n 1, 1) := by decide +kernel
theorem dX7_thing_106 : decode cX7_thing 106 = .ok (.invokevirtual 190, 3) := by decide +kernel
theorem dX7_thing_109 : decode cX7_thing 109 = .ok (.ireturn, 1) := by decide +kernel
theorem dX7_thing_110 : decode cX7_thing 110 = .ok (.ldc 76, 2) := by decide +kernel
theorem dX7_thing_112 : decode cX7_thing 112 = .ok (.ireturn, 1) := by decide +kernel
set_option maxRecDepth 20000 in
theorem ggX7_knows_X7_isMan : GoodIn wsX7_knows wsX7_isMan := goodIn_r _ [7, 1, 8, 16, 17, 18, 19, 20, 21, 22, 23, 24, 25, 26, 27, 28, 29, 30, 31, 32, 33, 34, 35, 36, 37, 38] (by decide +kernel) (by decide +kernel)
set_option maxRecDepth 20000 in
theorem gX7_knows_X7_isMan : GoodIn wsX7_knows (wsV RX7 172 RX7 yX7_isMan wsX7_isMan) := goodIn_app (goodIn_of _ (by decide +kernel)) ggX7_knows_X7_isMan
set_option maxRecDepth 20000 in
theorem ggX7_knows_X3_knownTo : GoodIn wsX7_knows wsX3_knownTo := goodIn_r _ [13, 14, 15, 27, 28, 29, 30, 31, 32, 33, 34, 35, 36, 37, 38] (by decide +kernel) (by decide +kernel)
set_option maxRecDepth 20000 in
theorem gX7_knows_X3_knownTo : GoodIn wsX7_knows (wsV RX7 193 RX3 yX3_knownTo wsX3_knownTo) := goodIn_app (goodIn_of _ (by decide +kernel)) ggX7_knows_X3_knownTo
theorem dX7_knows_0 : decode cX7_knows 0 = .ok (.aload_n 0, 1) := by decide +kernel
theorem dX7_knows_1 : decode cX7_knows 1 = .ok (.iload_n 1, 1) := by decide +kernel
theorem dX7_knows_2 : decode cX7_knows 2 = .ok (.invokevirtual 172, 3) := by decide +kernel
theorem dX7_knows_5 : decode cX7_knows 5 = .ok (.ifCond .eq 14, 3) := by decide +kernel
theorem dX7_knows_8 : decode cX7_knows 8 = .ok (.aload_n 0, 1) := by decide +kernel
theorem dX7_knows_9 : decode cX7_knows 9 = .ok (.getfield 26, 3) := by decide +kernel
theorem dX7_knows_12 : decode cX7_knows 12 = .ok (.iload_n 1, 1) := by decide +kernel
theorem dX7_knows_13 : decode cX7_knows 13 = .ok (.invokevirtual 193, 3) := by decide +kernel
theorem dX7_knows_16 : decode cX7_knows 16 = .ok (.goto 5, 3) := by decide +kernel
theorem dX7_knows_19 : decode cX7_knows 19 = .ok (.ldc 76, 2) := by decide +kernel
theorem dX7_knows_21 : decode cX7_knows 21 = .ok (.ireturn, 1) := by decide +kernel
set_option maxRecDepth 20000 in
theorem ggX7_ahead_X7_isThing : GoodIn wsX7_ahead wsX7_isThing := goodIn_r _ [9, 3, 10, 65, 66, 67, 68, 69, 70, 71, 72, 73, 74, 75, 76, 77, 78, 79, 80, 81, 82, 83, 84, 85, 86, 87] (by decide +kernel) (by decide +kernel)
set_option maxRecDepth 20000 in
theorem gX7_ahead_X7_isThing : GoodIn wsX7_ahead (wsV RX7 160 RX7 yX7_isThing wsX7_isThing) := goodIn_app (goodIn_of _ (by decide +kernel)) ggX7_ahead_X7_isThing
set_option maxRecDepth 20000 in
theorem ggX7_ahead_X7_isForetold : GoodIn wsX7_ahead wsX7_isForetold := goodIn_r _ [13] (by decide +kernel) (by decide +kernel)
set_option maxRecDepth 20000 in
theorem gX7_ahead_X7_isForetold : GoodIn wsX7_ahead (va_wsS RX7 196 yX7_isForetold wsX7_isForetold) := goodIn_app (goodIn_of _ (by decide +kernel)) ggX7_ahead_X7_isForetold
set_option maxRecDepth 20000 in
theorem ggX7_ahead_X5_behind : GoodIn wsX7_ahead wsX5_behind := goodIn_r _ [18, 19, 20, 21, 22, 23, 24, 25, 26, 27, 28, 29, 30, 31, 32, 33, 34, 35, 36, 37, 38, 17, 39, 40, 41, 42, 43, 44, 45, 46, 47, 48, 49, 50, 51, 52, 53, 54, 55, 56, 57, 58, 59, 60, 61, 62, 63, 64, 88, 89, 76, 77, 78, 79, 80, 81, 82, 83, 84, 85, 86, 87] (by decide +kernel) (by decide +kernel)
set_option maxRecDepth 20000 in
theorem gX7_ahead_X5_behind : GoodIn wsX7_ahead (wsV RX7 199 RX5 yX5_behind wsX5_behind) := goodIn_app (goodIn_of _ (by decide +kernel)) ggX7_ahead_X5_behind
theorem dX7_ahead_0 : decode cX7_ahead 0 = .ok (.aload_n 0, 1) := by decide +kernel
theorem dX7_ahead_1 : decode cX7_ahead 1 = .ok (.iload_n 1, 1) := by decide +kernel
theorem dX7_ahead_2 : decode cX7_ahead 2 = .ok (.invokevirtual 160, 3) := by decide +kernel
theorem dX7_ahead_5 : decode cX7_ahead 5 = .ok (.ifCond .eq 10, 3) := by decide +kernel
theorem dX7_ahead_8 : decode cX7_ahead 8 = .ok (.iload_n 2, 1) := by decide +kernel
theorem dX7_ahead_9 : decode cX7_ahead 9 = .ok (.invokestatic 196, 3) := by decide +kernel
theorem dX7_ahead_12 : decode cX7_ahead 12 = .ok (.ifCond .ne 6, 3) := by decide +kernel
theorem dX7_ahead_15 : decode cX7_ahead 15 = .ok (.ldc 76, 2) := by decide +kernel
theorem dX7_ahead_17 : decode cX7_ahead 17 = .ok (.ireturn, 1) := by decide +kernel
theorem dX7_ahead_18 : decode cX7_ahead 18 = .ok (.aload_n 0, 1) := by decide +kernel
theorem dX7_ahead_19 : decode cX7_ahead 19 = .ok (.getfield 47, 3) := by decide +kernel
theorem dX7_ahead_22 : decode cX7_ahead 22 = .ok (.aload_n 0, 1) := by decide +kernel
theorem dX7_ahead_23 : decode cX7_ahead 23 = .ok (.getfield 26, 3) := by decide +kernel
theorem dX7_ahead_26 : decode cX7_ahead 26 = .ok (.iload_n 2, 1) := by decide +kernel
theorem dX7_ahead_27 : decode cX7_ahead 27 = .ok (.invokevirtual 199, 3) := by decide +kernel
theorem dX7_ahead_30 : decode cX7_ahead 30 = .ok (.getfield 166, 3) := by decide +kernel
theorem dX7_ahead_33 : decode cX7_ahead 33 = .ok (.iload_n 1, 1) := by decide +kernel
theorem dX7_ahead_34 : decode cX7_ahead 34 = .ok (.iaload, 1) := by decide +kernel
theorem dX7_ahead_35 : decode cX7_ahead 35 = .ok (.ireturn, 1) := by decide +kernel
set_option maxRecDepth 20000 in
theorem ggX7_up_X7_isForetold : GoodIn wsX7_up wsX7_isForetold := goodIn_r _ [9] (by decide +kernel) (by decide +kernel)
set_option maxRecDepth 20000 in
theorem gX7_up_X7_isForetold : GoodIn wsX7_up (va_wsS RX7 196 yX7_isForetold wsX7_isForetold) := goodIn_app (goodIn_of _ (by decide +kernel)) ggX7_up_X7_isForetold
set_option maxRecDepth 20000 in
theorem ggX7_up_X5_behind : GoodIn wsX7_up wsX5_behind := goodIn_r _ [14, 15, 16, 17, 18, 19, 20, 21, 22, 23, 24, 25, 26, 27, 28, 29, 30, 31, 32, 33, 34, 13, 35, 36, 37, 38, 39, 40, 41, 42, 43, 44, 45, 46, 47, 48, 49, 50, 51, 52, 53, 54, 55, 56, 57, 58, 59, 60, 88, 89, 76, 77, 78, 79, 80, 81, 82, 83, 84, 85, 86, 87] (by decide +kernel) (by decide +kernel)
set_option maxRecDepth 20000 in
theorem gX7_up_X5_behind : GoodIn wsX7_up (wsV RX7 199 RX5 yX5_behind wsX5_behind) := goodIn_app (goodIn_of _ (by decide +kernel)) ggX7_up_X5_behind
set_option maxRecDepth 20000 in
theorem ggX7_up_X3_allUp : GoodIn wsX7_up wsX3_allUp := goodIn_r _ [64, 22, 49, 50, 51, 19, 52, 28, 76, 77, 78, 79, 80, 81, 82, 83, 84, 85, 86, 87] (by decide +kernel) (by decide +kernel)
set_option maxRecDepth 20000 in
theorem gX7_up_X3_allUp : GoodIn wsX7_up (wsV RX7 156 RX3 yX3_allUp wsX3_allUp) := goodIn_app (goodIn_of _ (by decide +kernel)) ggX7_up_X3_allUp
theorem dX7_up_0 : decode cX7_up 0 = .ok (.aload_n 0, 1) := by decide +kernel
theorem dX7_up_1 : decode cX7_up 1 = .ok (.getfield 26, 3) := by decide +kernel
theorem dX7_up_4 : decode cX7_up 4 = .ok (.getfield 141, 3) := by decide +kernel
theorem dX7_up_7 : decode cX7_up 7 = .ok (.ifCond .ne 6, 3) := by decide +kernel
theorem dX7_up_10 : decode cX7_up 10 = .ok (.ldc 145, 2) := by decide +kernel
theorem dX7_up_12 : decode cX7_up 12 = .ok (.ireturn, 1) := by decide +kernel
theorem dX7_up_13 : decode cX7_up 13 = .ok (.iload_n 1, 1) := by decide +kernel
theorem dX7_up_14 : decode cX7_up 14 = .ok (.invokestatic 196, 3) := by decide +kernel
theorem dX7_up_17 : decode cX7_up 17 = .ok (.ifCond .eq 21, 3) := by decide +kernel
theorem dX7_up_20 : decode cX7_up 20 = .ok (.aload_n 0, 1) := by decide +kernel
theorem dX7_up_21 : decode cX7_up 21 = .ok (.getfield 47, 3) := by decide +kernel
theorem dX7_up_24 : decode cX7_up 24 = .ok (.aload_n 0, 1) := by decide +kernel
theorem dX7_up_25 : decode cX7_up 25 = .ok (.getfield 26, 3) := by decide +kernel
theorem dX7_up_28 : decode cX7_up 28 = .ok (.iload_n 1, 1) := by decide +kernel
theorem dX7_up_29 : decode cX7_up 29 = .ok (.invokevirtual 199, 3) := by decide +kernel
theorem dX7_up_32 : decode cX7_up 32 = .ok (.invokevirtual 156, 3) := by decide +kernel
theorem dX7_up_35 : decode cX7_up 35 = .ok (.goto 5, 3) := by decide +kernel
theorem dX7_up_38 : decode cX7_up 38 = .ok (.ldc 76, 2) := by decide +kernel
theorem dX7_up_40 : decode cX7_up 40 = .ok (.ireturn, 1) := by decide +kernel
set_option maxRecDepth 20000 in
theorem ggX7_comesUp_X7_isThing : GoodIn wsX7_comesUp wsX7_isThing := goodIn_r _ [8, 2, 9, 59, 60, 61, 62, 63, 64, 65, 66, 67, 68, 69, 70, 71, 72, 73, 74, 75, 76, 77, 78, 79, 80, 81] (by decide +kernel) (by decide +kernel)
set_option maxRecDepth 20000 in
theorem gX7_comesUp_X7_isThing : GoodIn wsX7_comesUp (wsV RX7 160 RX7 yX7_isThing wsX7_isThing) := goodIn_app (goodIn_of _ (by decide +kernel)) ggX7_comesUp_X7_isThing
set_option maxRecDepth 20000 in
theorem ggX7_comesUp_X5_yearsUntilUp : GoodIn wsX7_comesUp wsX5_yearsUntilUp := goodIn_r _ [14, 15, 16, 17, 18, 19, 20, 21, 22, 23, 24, 25, 26, 27, 28, 29, 30, 31, 32, 33, 34, 35, 36, 37, 38, 39, 40, 41, 42, 43, 44, 45, 46, 47, 48, 49, 50, 51, 52, 53, 54, 55, 56, 57, 58, 82, 83, 70, 71, 72, 73, 74, 75, 76, 77, 78, 79, 80, 81] (by decide +kernel) (by decide +kernel)
set_option maxRecDepth 20000 in
theorem gX7_comesUp_X5_yearsUntilUp : GoodIn wsX7_comesUp (wsV RX7 203 RX5 yX5_yearsUntilUp wsX5_yearsUntilUp) := goodIn_app (goodIn_of _ (by decide +kernel)) ggX7_comesUp_X5_yearsUntilUp
theorem dX7_comesUp_0 : decode cX7_comesUp 0 = .ok (.aload_n 0, 1) := by decide +kernel
theorem dX7_comesUp_1 : decode cX7_comesUp 1 = .ok (.iload_n 1, 1) := by decide +kernel
theorem dX7_comesUp_2 : decode cX7_comesUp 2 = .ok (.invokevirtual 160, 3) := by decide +kernel
theorem dX7_comesUp_5 : decode cX7_comesUp 5 = .ok (.ifCond .eq 18, 3) := by decide +kernel
theorem dX7_comesUp_8 : decode cX7_comesUp 8 = .ok (.aload_n 0, 1) := by decide +kernel
theorem dX7_comesUp_9 : decode cX7_comesUp 9 = .ok (.getfield 47, 3) := by decide +kernel
theorem dX7_comesUp_12 : decode cX7_comesUp 12 = .ok (.aload_n 0, 1) := by decide +kernel
theorem dX7_comesUp_13 : decode cX7_comesUp 13 = .ok (.getfield 26, 3) := by decide +kernel
theorem dX7_comesUp_16 : decode cX7_comesUp 16 = .ok (.iload_n 1, 1) := by decide +kernel
theorem dX7_comesUp_17 : decode cX7_comesUp 17 = .ok (.invokevirtual 203, 3) := by decide +kernel
theorem dX7_comesUp_20 : decode cX7_comesUp 20 = .ok (.goto 5, 3) := by decide +kernel
theorem dX7_comesUp_23 : decode cX7_comesUp 23 = .ok (.ldc 76, 2) := by decide +kernel
theorem dX7_comesUp_25 : decode cX7_comesUp 25 = .ok (.ireturn, 1) := by decide +kernel
set_option maxRecDepth 20000 in
theorem ggX7_first_X7_isOneOfTwo : GoodIn wsX7_first wsX7_isOneOfTwo := goodIn_r _ [9] (by decide +kernel) (by decide +kernel)
set_option maxRecDepth 20000 in
theorem gX7_first_X7_isOneOfTwo : GoodIn wsX7_first (va_wsS RX7 207 yX7_isOneOfTwo wsX7_isOneOfTwo) := goodIn_app (goodIn_of _ (by decide +kernel)) ggX7_first_X7_isOneOfTwo
set_option maxRecDepth 20000 in
theorem ggX7_first_X5_firstUp : GoodIn wsX7_first wsX5_firstUp := goodIn_r _ [14, 15, 16, 17, 18, 19, 20, 21, 22, 23, 24, 25, 26, 27, 28, 29, 30, 31, 32, 33, 34, 35, 36, 37, 38, 39, 40, 41, 42, 43, 44, 45, 46, 47, 48, 49, 50, 51, 52, 53, 54, 55, 56, 57, 58, 59, 60, 61, 62, 8, 63, 64, 88, 89, 76, 77, 78, 79, 80, 81, 82, 83, 84, 85, 86, 87] (by decide +kernel) (by decide +kernel)
set_option maxRecDepth 20000 in
theorem gX7_first_X5_firstUp : GoodIn wsX7_first (wsV RX7 210 RX5 yX5_firstUp wsX5_firstUp) := goodIn_app (goodIn_of _ (by decide +kernel)) ggX7_first_X5_firstUp
theorem dX7_first_0 : decode cX7_first 0 = .ok (.aload_n 0, 1) := by decide +kernel
theorem dX7_first_1 : decode cX7_first 1 = .ok (.getfield 26, 3) := by decide +kernel
theorem dX7_first_4 : decode cX7_first 4 = .ok (.getfield 141, 3) := by decide +kernel
theorem dX7_first_7 : decode cX7_first 7 = .ok (.ifCond .ne 6, 3) := by decide +kernel
theorem dX7_first_10 : decode cX7_first 10 = .ok (.ldc 145, 2) := by decide +kernel
theorem dX7_first_12 : decode cX7_first 12 = .ok (.ireturn, 1) := by decide +kernel
theorem dX7_first_13 : decode cX7_first 13 = .ok (.iload_n 1, 1) := by decide +kernel
theorem dX7_first_14 : decode cX7_first 14 = .ok (.invokestatic 207, 3) := by decide +kernel
theorem dX7_first_17 : decode cX7_first 17 = .ok (.ifCond .eq 26, 3) := by decide +kernel
theorem dX7_first_20 : decode cX7_first 20 = .ok (.aload_n 0, 1) := by decide +kernel
theorem dX7_first_21 : decode cX7_first 21 = .ok (.getfield 47, 3) := by decide +kernel
theorem dX7_first_24 : decode cX7_first 24 = .ok (.aload_n 0, 1) := by decide +kernel
theorem dX7_first_25 : decode cX7_first 25 = .ok (.getfield 26, 3) := by decide +kernel
theorem dX7_first_28 : decode cX7_first 28 = .ok (.iload_n 1, 1) := by decide +kernel
theorem dX7_first_29 : decode cX7_first 29 = .ok (.ifCond .ne 7, 3) := by decide +kernel
theorem dX7_first_32 : decode cX7_first 32 = .ok (.iconst 1, 1) := by decide +kernel
theorem dX7_first_33 : decode cX7_first 33 = .ok (.goto 4, 3) := by decide +kernel
theorem dX7_first_36 : decode cX7_first 36 = .ok (.iconst 0, 1) := by decide +kernel
theorem dX7_first_37 : decode cX7_first 37 = .ok (.invokevirtual 210, 3) := by decide +kernel
theorem dX7_first_40 : decode cX7_first 40 = .ok (.goto 5, 3) := by decide +kernel
theorem dX7_first_43 : decode cX7_first 43 = .ok (.ldc 76, 2) := by decide +kernel
theorem dX7_first_45 : decode cX7_first 45 = .ok (.ireturn, 1) := by decide +kernel
set_option maxRecDepth 20000 in
theorem ggX7_trouble_X7_isOneOfTwo : GoodIn wsX7_trouble wsX7_isOneOfTwo := goodIn_r _ [9] (by decide +kernel) (by decide +kernel)
set_option maxRecDepth 20000 in
theorem gX7_trouble_X7_isOneOfTwo : GoodIn wsX7_trouble (va_wsS RX7 207 yX7_isOneOfTwo wsX7_isOneOfTwo) := goodIn_app (goodIn_of _ (by decide +kernel)) ggX7_trouble_X7_isOneOfTwo
set_option maxRecDepth 20000 in
theorem ggX7_trouble_X5_firstTrouble : GoodIn wsX7_trouble wsX5_firstTrouble := goodIn_r _ [14, 15, 16, 17, 18, 19, 20, 21, 22, 23, 24, 25, 26, 27, 28, 29, 30, 31, 32, 33, 34, 35, 36, 37, 38, 39, 40, 41, 42, 43, 44, 45, 46, 47, 48, 49, 50, 51, 52, 53, 54, 55, 56, 57, 58, 59, 60, 61, 62, 63, 64, 65, 66, 67, 68, 69, 93, 94, 81, 82, 83, 84, 85, 86, 87, 88, 89, 90, 91, 92] (by decide +kernel) (by decide +kernel)
set_option maxRecDepth 20000 in
theorem gX7_trouble_X5_firstTrouble : GoodIn wsX7_trouble (wsV RX7 214 RX5 yX5_firstTrouble wsX5_firstTrouble) := goodIn_app (goodIn_of _ (by decide +kernel)) ggX7_trouble_X5_firstTrouble
theorem dX7_trouble_0 : decode cX7_trouble 0 = .ok (.aload_n 0, 1) := by decide +kernel
theorem dX7_trouble_1 : decode cX7_trouble 1 = .ok (.getfield 26, 3) := by decide +kernel
theorem dX7_trouble_4 : decode cX7_trouble 4 = .ok (.getfield 141, 3) := by decide +kernel
theorem dX7_trouble_7 : decode cX7_trouble 7 = .ok (.ifCond .ne 6, 3) := by decide +kernel
theorem dX7_trouble_10 : decode cX7_trouble 10 = .ok (.ldc 145, 2) := by decide +kernel
theorem dX7_trouble_12 : decode cX7_trouble 12 = .ok (.ireturn, 1) := by decide +kernel
theorem dX7_trouble_13 : decode cX7_trouble 13 = .ok (.iload_n 1, 1) := by decide +kernel
theorem dX7_trouble_14 : decode cX7_trouble 14 = .ok (.invokestatic 207, 3) := by decide +kernel
theorem dX7_trouble_17 : decode cX7_trouble 17 = .ok (.ifCond .eq 26, 3) := by decide +kernel
theorem dX7_trouble_20 : decode cX7_trouble 20 = .ok (.aload_n 0, 1) := by decide +kernel
theorem dX7_trouble_21 : decode cX7_trouble 21 = .ok (.getfield 47, 3) := by decide +kernel
theorem dX7_trouble_24 : decode cX7_trouble 24 = .ok (.aload_n 0, 1) := by decide +kernel
theorem dX7_trouble_25 : decode cX7_trouble 25 = .ok (.getfield 26, 3) := by decide +kernel
theorem dX7_trouble_28 : decode cX7_trouble 28 = .ok (.iload_n 1, 1) := by decide +kernel
theorem dX7_trouble_29 : decode cX7_trouble 29 = .ok (.ifCond .ne 7, 3) := by decide +kernel
theorem dX7_trouble_32 : decode cX7_trouble 32 = .ok (.iconst 1, 1) := by decide +kernel
theorem dX7_trouble_33 : decode cX7_trouble 33 = .ok (.goto 4, 3) := by decide +kernel
theorem dX7_trouble_36 : decode cX7_trouble 36 = .ok (.iconst 0, 1) := by decide +kernel
theorem dX7_trouble_37 : decode cX7_trouble 37 = .ok (.invokevirtual 214, 3) := by decide +kernel
theorem dX7_trouble_40 : decode cX7_trouble 40 = .ok (.goto 5, 3) := by decide +kernel
theorem dX7_trouble_43 : decode cX7_trouble 43 = .ok (.ldc 76, 2) := by decide +kernel
theorem dX7_trouble_45 : decode cX7_trouble 45 = .ok (.ireturn, 1) := by decide +kernel
set_option maxRecDepth 20000 in
theorem ggX7_lay_X7_isForetold : GoodIn wsX7_lay wsX7_isForetold := goodIn_r _ [13] (by decide +kernel) (by decide +kernel)
set_option maxRecDepth 20000 in
theorem gX7_lay_X7_isForetold : GoodIn wsX7_lay (va_wsS RX7 196 yX7_isForetold wsX7_isForetold) := goodIn_app (goodIn_of _ (by decide +kernel)) ggX7_lay_X7_isForetold
set_option maxRecDepth 20000 in
theorem ggX7_lay_X2_find : GoodIn wsX7_lay wsX2_find := goodIn_r _ [18, 19, 20, 21, 22, 23, 24, 25, 26, 27, 28, 29, 30, 31, 32, 33, 34, 35, 36, 37, 38, 39, 40, 41, 42, 43, 44, 45, 46, 17, 47, 48, 49, 50, 51, 52, 53, 54, 55, 56, 57, 58, 59, 60, 61, 62, 63, 64, 65, 66, 67, 68, 69, 70, 71, 72, 73, 74, 75, 76, 77, 78, 79, 80, 81, 82, 83, 84, 85, 86, 87, 88, 89, 90, 91, 92, 93, 94, 95, 96, 97, 98, 99, 100, 101, 102, 103, 104, 105, 129, 130, 131, 132, 133, 117, 118, 119, 120, 121, 122, 123, 124, 125, 126, 127, 128] (by decide +kernel) (by decide +kernel)
set_option maxRecDepth 20000 in
theorem gX7_lay_X2_find : GoodIn wsX7_lay (wsV RX7 217 RX2 yX2_find wsX2_find) := goodIn_app (goodIn_of _ (by decide +kernel)) ggX7_lay_X2_find
theorem dX7_lay_0 : decode cX7_lay 0 = .ok (.aload_n 0, 1) := by decide +kernel
theorem dX7_lay_1 : decode cX7_lay 1 = .ok (.getfield 26, 3) := by decide +kernel
theorem dX7_lay_4 : decode cX7_lay 4 = .ok (.getfield 141, 3) := by decide +kernel
theorem dX7_lay_7 : decode cX7_lay 7 = .ok (.ifCond .ne 6, 3) := by decide +kernel
theorem dX7_lay_10 : decode cX7_lay 10 = .ok (.ldc 145, 2) := by decide +kernel
theorem dX7_lay_12 : decode cX7_lay 12 = .ok (.ireturn, 1) := by decide +kernel
theorem dX7_lay_13 : decode cX7_lay 13 = .ok (.iload_n 1, 1) := by decide +kernel
theorem dX7_lay_14 : decode cX7_lay 14 = .ok (.invokestatic 196, 3) := by decide +kernel
theorem dX7_lay_17 : decode cX7_lay 17 = .ok (.ifCond .eq 13, 3) := by decide +kernel
theorem dX7_lay_20 : decode cX7_lay 20 = .ok (.iload_n 2, 1) := by decide +kernel
theorem dX7_lay_21 : decode cX7_lay 21 = .ok (.iconst (-1), 1) := by decide +kernel
theorem dX7_lay_22 : decode cX7_lay 22 = .ok (.if_icmp .lt 8, 3) := by decide +kernel
theorem dX7_lay_25 : decode cX7_lay 25 = .ok (.iload_n 2, 1) := by decide +kernel
theorem dX7_lay_26 : decode cX7_lay 26 = .ok (.iconst 5, 1) := by decide +kernel
theorem dX7_lay_27 : decode cX7_lay 27 = .ok (.if_icmp .lt 6, 3) := by decide +kernel
theorem dX7_lay_30 : decode cX7_lay 30 = .ok (.ldc 76, 2) := by decide +kernel
theorem dX7_lay_32 : decode cX7_lay 32 = .ok (.ireturn, 1) := by decide +kernel
theorem dX7_lay_33 : decode cX7_lay 33 = .ok (.aload_n 0, 1) := by decide +kernel
theorem dX7_lay_34 : decode cX7_lay 34 = .ok (.getfield 54, 3) := by decide +kernel
theorem dX7_lay_37 : decode cX7_lay 37 = .ok (.aload_n 0, 1) := by decide +kernel
theorem dX7_lay_38 : decode cX7_lay 38 = .ok (.getfield 26, 3) := by decide +kernel
theorem dX7_lay_41 : decode cX7_lay 41 = .ok (.iload_n 1, 1) := by decide +kernel
theorem dX7_lay_42 : decode cX7_lay 42 = .ok (.invokevirtual 217, 3) := by decide +kernel
theorem dX7_lay_45 : decode cX7_lay 45 = .ok (.aload_n 0, 1) := by decide +kernel
theorem dX7_lay_46 : decode cX7_lay 46 = .ok (.getfield 54, 3) := by decide +kernel
theorem dX7_lay_49 : decode cX7_lay 49 = .ok (.getfield 221, 3) := by decide +kernel
theorem dX7_lay_52 : decode cX7_lay 52 = .ok (.ldc 224, 2) := by decide +kernel
theorem dX7_lay_54 : decode cX7_lay 54 = .ok (.if_icmp .eq 14, 3) := by decide +kernel
theorem dX7_lay_57 : decode cX7_lay 57 = .ok (.iload_n 2, 1) := by decide +kernel
theorem dX7_lay_58 : decode cX7_lay 58 = .ok (.aload_n 0, 1) := by decide +kernel
theorem dX7_lay_59 : decode cX7_lay 59 = .ok (.getfield 26, 3) := by decide +kernel
theorem dX7_lay_62 : decode cX7_lay 62 = .ok (.getfield 138, 3) := by decide +kernel
theorem dX7_lay_65 : decode cX7_lay 65 = .ok (.if_icmp .lt 6, 3) := by decide +kernel
theorem dX7_lay_68 : decode cX7_lay 68 = .ok (.ldc 224, 2) := by decide +kernel
theorem dX7_lay_70 : decode cX7_lay 70 = .ok (.ireturn, 1) := by decide +kernel
theorem dX7_lay_71 : decode cX7_lay 71 = .ok (.iload_n 2, 1) := by decide +kernel
theorem dX7_lay_72 : decode cX7_lay 72 = .ok (.iconst (-1), 1) := by decide +kernel
theorem dX7_lay_73 : decode cX7_lay 73 = .ok (.if_icmp .ne 13, 3) := by decide +kernel
theorem dX7_lay_76 : decode cX7_lay 76 = .ok (.aload_n 0, 1) := by decide +kernel
theorem dX7_lay_77 : decode cX7_lay 77 = .ok (.getfield 54, 3) := by decide +kernel
theorem dX7_lay_80 : decode cX7_lay 80 = .ok (.getfield 221, 3) := by decide +kernel
theorem dX7_lay_83 : decode cX7_lay 83 = .ok (.goto 12, 3) := by decide +kernel
theorem dX7_lay_86 : decode cX7_lay 86 = .ok (.aload_n 0, 1) := by decide +kernel
theorem dX7_lay_87 : decode cX7_lay 87 = .ok (.getfield 54, 3) := by decide +kernel
theorem dX7_lay_90 : decode cX7_lay 90 = .ok (.getfield 225, 3) := by decide +kernel
theorem dX7_lay_93 : decode cX7_lay 93 = .ok (.iload_n 2, 1) := by decide +kernel
theorem dX7_lay_94 : decode cX7_lay 94 = .ok (.iaload, 1) := by decide +kernel
theorem dX7_lay_95 : decode cX7_lay 95 = .ok (.ireturn, 1) := by decide +kernel
set_option maxRecDepth 20000 in
theorem ggX7_dig_X7_isThing : GoodIn wsX7_dig wsX7_isThing := goodIn_r _ [8, 3, 9, 67, 68, 69, 70, 71, 72, 73, 74, 75, 76, 77, 78, 79, 80, 81, 82, 83, 84, 85, 86, 87, 88, 89] (by decide +kernel) (by decide +kernel)
set_option maxRecDepth 20000 in
theorem gX7_dig_X7_isThing : GoodIn wsX7_dig (wsV RX7 160 RX7 yX7_isThing wsX7_isThing) := goodIn_app (goodIn_of _ (by decide +kernel)) ggX7_dig_X7_isThing
set_option maxRecDepth 20000 in
theorem ggX7_dig_X7_isForetold : GoodIn wsX7_dig wsX7_isForetold := goodIn_r _ [12] (by decide +kernel) (by decide +kernel)
set_option maxRecDepth 20000 in
theorem gX7_dig_X7_isForetold : GoodIn wsX7_dig (va_wsS RX7 196 yX7_isForetold wsX7_isForetold) := goodIn_app (goodIn_of _ (by decide +kernel)) ggX7_dig_X7_isForetold
set_option maxRecDepth 20000 in
theorem ggX7_dig_X5_leastDepth : GoodIn wsX7_dig wsX5_leastDepth := goodIn_r _ [17, 18, 19, 20, 21, 22, 23, 24, 25, 26, 27, 28, 29, 30, 31, 32, 33, 34, 35, 36, 37, 38, 39, 16, 40, 41, 42, 43, 44, 45, 46, 47, 48, 49, 50, 51, 52, 53, 54, 55, 56, 57, 58, 59, 60, 61, 62, 63, 64, 65, 66, 90, 91, 78, 79, 80, 81, 82, 83, 84, 85, 86, 87, 88, 89] (by decide +kernel) (by decide +kernel)
set_option maxRecDepth 20000 in
theorem gX7_dig_X5_leastDepth : GoodIn wsX7_dig (wsV RX7 228 RX5 yX5_leastDepth wsX5_leastDepth) := goodIn_app (goodIn_of _ (by decide +kernel)) ggX7_dig_X5_leastDepth
theorem dX7_dig_0 : decode cX7_dig 0 = .ok (.aload_n 0, 1) := by decide +kernel
theorem dX7_dig_1 : decode cX7_dig 1 = .ok (.iload_n 1, 1) := by decide +kernel
theorem dX7_dig_2 : decode cX7_dig 2 = .ok (.invokevirtual 160, 3) := by decide +kernel
theorem dX7_dig_5 : decode cX7_dig 5 = .ok (.ifCond .eq 10, 3) := by decide +kernel
theorem dX7_dig_8 : decode cX7_dig 8 = .ok (.iload_n 2, 1) := by decide +kernel
theorem dX7_dig_9 : decode cX7_dig 9 = .ok (.invokestatic 196, 3) := by decide +kernel
theorem dX7_dig_12 : decode cX7_dig 12 = .ok (.ifCond .ne 6, 3) := by decide +kernel
theorem dX7_dig_15 : decode cX7_dig 15 = .ok (.ldc 76, 2) := by decide +kernel
theorem dX7_dig_17 : decode cX7_dig 17 = .ok (.ireturn, 1) := by decide +kernel
theorem dX7_dig_18 : decode cX7_dig 18 = .ok (.aload_n 0, 1) := by decide +kernel
theorem dX7_dig_19 : decode cX7_dig 19 = .ok (.getfield 47, 3) := by decide +kernel
theorem dX7_dig_22 : decode cX7_dig 22 = .ok (.aload_n 0, 1) := by decide +kernel
theorem dX7_dig_23 : decode cX7_dig 23 = .ok (.getfield 26, 3) := by decide +kernel
theorem dX7_dig_26 : decode cX7_dig 26 = .ok (.iload_n 1, 1) := by decide +kernel
theorem dX7_dig_27 : decode cX7_dig 27 = .ok (.iload_n 2, 1) := by decide +kernel
theorem dX7_dig_28 : decode cX7_dig 28 = .ok (.invokevirtual 228, 3) := by decide +kernel
theorem dX7_dig_31 : decode cX7_dig 31 = .ok (.ireturn, 1) := by decide +kernel
set_option maxRecDepth 20000 in
theorem ggX7_whom_X7_isOneOfTwo : GoodIn wsX7_whom wsX7_isOneOfTwo := goodIn_r _ [9] (by decide +kernel) (by decide +kernel)
set_option maxRecDepth 20000 in
theorem gX7_whom_X7_isOneOfTwo : GoodIn wsX7_whom (va_wsS RX7 207 yX7_isOneOfTwo wsX7_isOneOfTwo) := goodIn_app (goodIn_of _ (by decide +kernel)) ggX7_whom_X7_isOneOfTwo
set_option maxRecDepth 20000 in
theorem ggX7_whom_X3_fewestWhoKnowAll : GoodIn wsX7_whom wsX3_fewestWhoKnowAll := goodIn_r _ [14, 15, 16, 17, 18, 19, 13, 20, 21, 22, 23, 24, 25, 26, 27, 28, 29, 42, 43, 44, 45, 46, 47, 48, 49, 50, 51, 52, 53] (by decide +kernel) (by decide +kernel)
set_option maxRecDepth 20000 in
theorem gX7_whom_X3_fewestWhoKnowAll : GoodIn wsX7_whom (wsV RX7 232 RX3 yX3_fewestWhoKnowAll wsX3_fewestWhoKnowAll) := goodIn_app (goodIn_of _ (by decide +kernel)) ggX7_whom_X3_fewestWhoKnowAll
set_option maxRecDepth 20000 in
theorem ggX7_whom_J6_bitCount_0f7a4 : GoodIn wsX7_whom wsJ6_bitCount_0f7a4 := goodIn_r _ [26, 27, 28, 29] (by decide +kernel) (by decide +kernel)
set_option maxRecDepth 20000 in
theorem gX7_whom_J6_bitCount_0f7a4 : GoodIn wsX7_whom (va_wsS RX7 235 yJ6_bitCount_0f7a4 wsJ6_bitCount_0f7a4) := goodIn_app (goodIn_of _ (by decide +kernel)) ggX7_whom_J6_bitCount_0f7a4
theorem dX7_whom_0 : decode cX7_whom 0 = .ok (.aload_n 0, 1) := by decide +kernel
theorem dX7_whom_1 : decode cX7_whom 1 = .ok (.getfield 26, 3) := by decide +kernel
theorem dX7_whom_4 : decode cX7_whom 4 = .ok (.getfield 141, 3) := by decide +kernel
theorem dX7_whom_7 : decode cX7_whom 7 = .ok (.ifCond .ne 6, 3) := by decide +kernel
theorem dX7_whom_10 : decode cX7_whom 10 = .ok (.ldc 145, 2) := by decide +kernel
theorem dX7_whom_12 : decode cX7_whom 12 = .ok (.ireturn, 1) := by decide +kernel
theorem dX7_whom_13 : decode cX7_whom 13 = .ok (.iload_n 1, 1) := by decide +kernel
theorem dX7_whom_14 : decode cX7_whom 14 = .ok (.invokestatic 207, 3) := by decide +kernel
theorem dX7_whom_17 : decode cX7_whom 17 = .ok (.ifCond .ne 6, 3) := by decide +kernel
theorem dX7_whom_20 : decode cX7_whom 20 = .ok (.ldc 76, 2) := by decide +kernel
theorem dX7_whom_22 : decode cX7_whom 22 = .ok (.ireturn, 1) := by decide +kernel
theorem dX7_whom_23 : decode cX7_whom 23 = .ok (.aload_n 0, 1) := by decide +kernel
theorem dX7_whom_24 : decode cX7_whom 24 = .ok (.getfield 26, 3) := by decide +kernel
theorem dX7_whom_27 : decode cX7_whom 27 = .ok (.invokevirtual 232, 3) := by decide +kernel
theorem dX7_whom_30 : decode cX7_whom 30 = .ok (.istore_n 2, 1) := by decide +kernel
theorem dX7_whom_31 : decode cX7_whom 31 = .ok (.iload_n 2, 1) := by decide +kernel
theorem dX7_whom_32 : decode cX7_whom 32 = .ok (.ldc 224, 2) := by decide +kernel
theorem dX7_whom_34 : decode cX7_whom 34 = .ok (.if_icmp .ne 6, 3) := by decide +kernel
theorem dX7_whom_37 : decode cX7_whom 37 = .ok (.ldc 224, 2) := by decide +kernel
theorem dX7_whom_39 : decode cX7_whom 39 = .ok (.ireturn, 1) := by decide +kernel
theorem dX7_whom_40 : decode cX7_whom 40 = .ok (.iload_n 1, 1) := by decide +kernel
theorem dX7_whom_41 : decode cX7_whom 41 = .ok (.ifCond .ne 10, 3) := by decide +kernel
theorem dX7_whom_44 : decode cX7_whom 44 = .ok (.iload_n 2, 1) := by decide +kernel
theorem dX7_whom_45 : decode cX7_whom 45 = .ok (.invokestatic 235, 3) := by decide +kernel
theorem dX7_whom_48 : decode cX7_whom 48 = .ok (.goto 4, 3) := by decide +kernel
theorem dX7_whom_51 : decode cX7_whom 51 = .ok (.iload_n 2, 1) := by decide +kernel
theorem dX7_whom_52 : decode cX7_whom 52 = .ok (.ireturn, 1) := by decide +kernel
set_option maxRecDepth 20000 in
theorem ggX7_halves_X7_isOneOfTwo : GoodIn wsX7_halves wsX7_isOneOfTwo := goodIn_r _ [8] (by decide +kernel) (by decide +kernel)
set_option maxRecDepth 20000 in
theorem gX7_halves_X7_isOneOfTwo : GoodIn wsX7_halves (va_wsS RX7 207 yX7_isOneOfTwo wsX7_isOneOfTwo) := goodIn_app (goodIn_of _ (by decide +kernel)) ggX7_halves_X7_isOneOfTwo
set_option maxRecDepth 20000 in
theorem ggX7_halves_X3_countHalves : GoodIn wsX7_halves wsX3_countHalves := goodIn_r _ [13, 14, 15, 32, 33, 34, 35, 36, 37, 38, 39, 40, 41, 42, 43] (by decide +kernel) (by decide +kernel)
set_option maxRecDepth 20000 in
theorem gX7_halves_X3_countHalves : GoodIn wsX7_halves (wsV RX7 240 RX3 yX3_countHalves wsX3_countHalves) := goodIn_app (goodIn_of _ (by decide +kernel)) ggX7_halves_X3_countHalves
set_option maxRecDepth 20000 in
theorem ggX7_halves_X3_firstHalves : GoodIn wsX7_halves wsX3_firstHalves := goodIn_r _ [19, 14, 15, 20, 32, 33, 34, 35, 36, 37, 38, 39, 40, 41, 42, 43] (by decide +kernel) (by decide +kernel)
set_option maxRecDepth 20000 in
theorem gX7_halves_X3_firstHalves : GoodIn wsX7_halves (wsV RX7 243 RX3 yX3_firstHalves wsX3_firstHalves) := goodIn_app (goodIn_of _ (by decide +kernel)) ggX7_halves_X3_firstHalves
theorem dX7_halves_0 : decode cX7_halves 0 = .ok (.aload_n 0, 1) := by decide +kernel
theorem dX7_halves_1 : decode cX7_halves 1 = .ok (.getfield 26, 3) := by decide +kernel
theorem dX7_halves_4 : decode cX7_halves 4 = .ok (.getfield 141, 3) := by decide +kernel
theorem dX7_halves_7 : decode cX7_halves 7 = .ok (.ifCond .ne 6, 3) := by decide +kernel
theorem dX7_halves_10 : decode cX7_halves 10 = .ok (.ldc 145, 2) := by decide +kernel
theorem dX7_halves_12 : decode cX7_halves 12 = .ok (.ireturn, 1) := by decide +kernel
theorem dX7_halves_13 : decode cX7_halves 13 = .ok (.iload_n 1, 1) := by decide +kernel
theorem dX7_halves_14 : decode cX7_halves 14 = .ok (.invokestatic 207, 3) := by decide +kernel
theorem dX7_halves_17 : decode cX7_halves 17 = .ok (.ifCond .ne 6, 3) := by decide +kernel
theorem dX7_halves_20 : decode cX7_halves 20 = .ok (.ldc 76, 2) := by decide +kernel
theorem dX7_halves_22 : decode cX7_halves 22 = .ok (.ireturn, 1) := by decide +kernel
theorem dX7_halves_23 : decode cX7_halves 23 = .ok (.iload_n 1, 1) := by decide +kernel
theorem dX7_halves_24 : decode cX7_halves 24 = .ok (.ifCond .ne 13, 3) := by decide +kernel
theorem dX7_halves_27 : decode cX7_halves 27 = .ok (.aload_n 0, 1) := by decide +kernel
theorem dX7_halves_28 : decode cX7_halves 28 = .ok (.getfield 26, 3) := by decide +kernel
theorem dX7_halves_31 : decode cX7_halves 31 = .ok (.invokevirtual 240, 3) := by decide +kernel
theorem dX7_halves_34 : decode cX7_halves 34 = .ok (.goto 10, 3) := by decide +kernel
theorem dX7_halves_37 : decode cX7_halves 37 = .ok (.aload_n 0, 1) := by decide +kernel
theorem dX7_halves_38 : decode cX7_halves 38 = .ok (.getfield 26, 3) := by decide +kernel
theorem dX7_halves_41 : decode cX7_halves 41 = .ok (.invokevirtual 243, 3) := by decide +kernel
theorem dX7_halves_44 : decode cX7_halves 44 = .ok (.ireturn, 1) := by decide +kernel
set_option maxRecDepth 20000 in
theorem ggX7_fits_X7_isThing : GoodIn wsX7_fits wsX7_isThing := goodIn_r _ [10, 5, 11, 107, 108, 109, 110, 111, 112, 113, 114, 115, 116, 117, 120, 121, 122, 123, 124, 125, 126, 127, 128, 129, 130, 131] (by decide +kernel) (by decide +kernel)
set_option maxRecDepth 20000 in
theorem gX7_fits_X7_isThing : GoodIn wsX7_fits (wsV RX7 160 RX7 yX7_isThing wsX7_isThing) := goodIn_app (goodIn_of _ (by decide +kernel)) ggX7_fits_X7_isThing
set_option maxRecDepth 20000 in
theorem ggX7_fits_X7_isRow : GoodIn wsX7_fits wsX7_isRow := goodIn_r _ [14] (by decide +kernel) (by decide +kernel)
set_option maxRecDepth 20000 in
theorem gX7_fits_X7_isRow : GoodIn wsX7_fits (va_wsS RX7 72 yX7_isRow wsX7_isRow) := goodIn_app (goodIn_of _ (by decide +kernel)) ggX7_fits_X7_isRow
set_option maxRecDepth 20000 in
theorem ggX7_fits_X4_isMissing : GoodIn wsX7_fits wsX4_isMissing := goodIn_r _ [19, 20, 132, 133, 134] (by decide +kernel) (by decide +kernel)
set_option maxRecDepth 20000 in
theorem gX7_fits_X4_isMissing : GoodIn wsX7_fits (wsV RX7 88 RX4 yX4_isMissing wsX4_isMissing) := goodIn_app (goodIn_of _ (by decide +kernel)) ggX7_fits_X4_isMissing
set_option maxRecDepth 20000 in
theorem ggX7_fits_X7_found : GoodIn wsX7_fits wsX7_found := goodIn_r _ [24, 25, 26, 107, 108, 109, 110, 111, 112, 113, 114, 115, 116, 117] (by decide +kernel) (by decide +kernel)
set_option maxRecDepth 20000 in
theorem gX7_fits_X7_found : GoodIn wsX7_fits (wsV RX7 77 RX7 yX7_found wsX7_found) := goodIn_app (goodIn_of _ (by decide +kernel)) ggX7_fits_X7_found
set_option maxRecDepth 20000 in
theorem ggX7_fits_X4_hasRun : GoodIn wsX7_fits wsX4_hasRun := goodIn_r _ [30, 20, 132, 133, 134] (by decide +kernel) (by decide +kernel)
set_option maxRecDepth 20000 in
theorem gX7_fits_X4_hasRun : GoodIn wsX7_fits (wsV RX7 91 RX4 yX4_hasRun wsX4_hasRun) := goodIn_app (goodIn_of _ (by decide +kernel)) ggX7_fits_X4_hasRun
set_option maxRecDepth 20000 in
theorem ggX7_fits_X4_readRun : GoodIn wsX7_fits wsX4_readRun := goodIn_r _ [34, 35, 132, 133, 134] (by decide +kernel) (by decide +kernel)
set_option maxRecDepth 20000 in
theorem gX7_fits_X4_readRun : GoodIn wsX7_fits (wsV RX7 249 RX4 yX4_readRun wsX4_readRun) := goodIn_app (goodIn_of _ (by decide +kernel)) ggX7_fits_X4_readRun
set_option maxRecDepth 20000 in
theorem ggX7_fits_X5_thatFit : GoodIn wsX7_fits wsX5_thatFit := goodIn_r _ [40, 41, 42, 43, 44, 45, 46, 47, 48, 49, 50, 51, 52, 53, 54, 55, 56, 57, 58, 59, 60, 61, 62, 63, 39, 64, 65, 66, 67, 68, 69, 70, 71, 72, 73, 74, 75, 76, 77, 78, 79, 80, 81, 82, 83, 84, 85, 86, 87, 88, 89, 90, 91, 92, 93, 94, 95, 96, 97, 98, 99, 100, 101, 102, 118, 119, 120, 121, 122, 123, 124, 125, 126, 127, 128, 129, 130, 131] (by decide +kernel) (by decide +kernel)
set_option maxRecDepth 20000 in
theorem gX7_fits_X5_thatFit : GoodIn wsX7_fits (wsV RX7 253 RX5 yX5_thatFit wsX5_thatFit) := goodIn_app (goodIn_of _ (by decide +kernel)) ggX7_fits_X5_thatFit
set_option maxRecDepth 20000 in
theorem ggX7_fits_X7_fine : GoodIn wsX7_fits wsX7_fine := goodIn_r _ [106, 25, 107, 108, 109, 110, 111, 112, 113, 114, 115, 116, 117] (by decide +kernel) (by decide +kernel)
set_option maxRecDepth 20000 in
theorem gX7_fits_X7_fine : GoodIn wsX7_fits (wsV RX7 85 RX7 yX7_fine wsX7_fine) := goodIn_app (goodIn_of _ (by decide +kernel)) ggX7_fits_X7_fine
theorem dX7_fits_0 : decode cX7_fits 0 = .ok (.aload_n 0, 1) := by decide +kernel
theorem dX7_fits_1 : decode cX7_fits 1 = .ok (.iload_n 1, 1) := by decide +kernel
theorem dX7_fits_2 : decode cX7_fits 2 = .ok (.invokevirtual 160, 3) := by decide +kernel
theorem dX7_fits_5 : decode cX7_fits 5 = .ok (.ifCond .eq 34, 3) := by decide +kernel
theorem dX7_fits_8 : decode cX7_fits 8 = .ok (.iload_n 2, 1) := by decide +kernel
theorem dX7_fits_9 : decode cX7_fits 9 = .ok (.invokestatic 72, 3) := by decide +kernel
theorem dX7_fits_12 : decode cX7_fits 12 = .ok (.ifCond .eq 27, 3) := by decide +kernel
theorem dX7_fits_15 : decode cX7_fits 15 = .ok (.iload 4, 2) := by decide +kernel
theorem dX7_fits_17 : decode cX7_fits 17 = .ok (.iconst 1, 1) := by decide +kernel
theorem dX7_fits_18 : decode cX7_fits 18 = .ok (.if_icmp .lt 21, 3) := by decide +kernel
theorem dX7_fits_21 : decode cX7_fits 21 = .ok (.iload 4, 2) := by decide +kernel
theorem dX7_fits_23 : decode cX7_fits 23 = .ok (.bipush 16, 2) := by decide +kernel
theorem dX7_fits_25 : decode cX7_fits 25 = .ok (.if_icmp .gt 14, 3) := by decide +kernel
theorem dX7_fits_28 : decode cX7_fits 28 = .ok (.iload 5, 2) := by decide +kernel
theorem dX7_fits_30 : decode cX7_fits 30 = .ok (.ifCond .lt 9, 3) := by decide +kernel
theorem dX7_fits_33 : decode cX7_fits 33 = .ok (.iload 5, 2) := by decide +kernel
theorem dX7_fits_35 : decode cX7_fits 35 = .ok (.iconst 2, 1) := by decide +kernel
theorem dX7_fits_36 : decode cX7_fits 36 = .ok (.if_icmp .le 6, 3) := by decide +kernel
theorem dX7_fits_39 : decode cX7_fits 39 = .ok (.ldc 76, 2) := by decide +kernel
theorem dX7_fits_41 : decode cX7_fits 41 = .ok (.ireturn, 1) := by decide +kernel
theorem dX7_fits_42 : decode cX7_fits 42 = .ok (.aload_n 0, 1) := by decide +kernel
theorem dX7_fits_43 : decode cX7_fits 43 = .ok (.getfield 10, 3) := by decide +kernel
theorem dX7_fits_46 : decode cX7_fits 46 = .ok (.iload_n 2, 1) := by decide +kernel
theorem dX7_fits_47 : decode cX7_fits 47 = .ok (.invokevirtual 88, 3) := by decide +kernel
theorem dX7_fits_50 : decode cX7_fits 50 = .ok (.ifCond .eq 9, 3) := by decide +kernel
theorem dX7_fits_53 : decode cX7_fits 53 = .ok (.aload_n 0, 1) := by decide +kernel
theorem dX7_fits_54 : decode cX7_fits 54 = .ok (.iconst 1, 1) := by decide +kernel
theorem dX7_fits_55 : decode cX7_fits 55 = .ok (.invokevirtual 77, 3) := by decide +kernel
theorem dX7_fits_58 : decode cX7_fits 58 = .ok (.ireturn, 1) := by decide +kernel
theorem dX7_fits_59 : decode cX7_fits 59 = .ok (.aload_n 0, 1) := by decide +kernel
theorem dX7_fits_60 : decode cX7_fits 60 = .ok (.getfield 10, 3) := by decide +kernel
theorem dX7_fits_63 : decode cX7_fits 63 = .ok (.iload_n 2, 1) := by decide +kernel
theorem dX7_fits_64 : decode cX7_fits 64 = .ok (.iload_n 3, 1) := by decide +kernel
theorem dX7_fits_65 : decode cX7_fits 65 = .ok (.iload 4, 2) := by decide +kernel
theorem dX7_fits_67 : decode cX7_fits 67 = .ok (.invokevirtual 91, 3) := by decide +kernel
theorem dX7_fits_70 : decode cX7_fits 70 = .ok (.ifCond .ne 9, 3) := by decide +kernel
theorem dX7_fits_73 : decode cX7_fits 73 = .ok (.aload_n 0, 1) := by decide +kernel
theorem dX7_fits_74 : decode cX7_fits 74 = .ok (.iconst 2, 1) := by decide +kernel
theorem dX7_fits_75 : decode cX7_fits 75 = .ok (.invokevirtual 77, 3) := by decide +kernel
theorem dX7_fits_78 : decode cX7_fits 78 = .ok (.ireturn, 1) := by decide +kernel
theorem dX7_fits_79 : decode cX7_fits 79 = .ok (.aload_n 0, 1) := by decide +kernel
theorem dX7_fits_80 : decode cX7_fits 80 = .ok (.getfield 10, 3) := by decide +kernel
theorem dX7_fits_83 : decode cX7_fits 83 = .ok (.iload_n 2, 1) := by decide +kernel
theorem dX7_fits_84 : decode cX7_fits 84 = .ok (.iload_n 3, 1) := by decide +kernel
theorem dX7_fits_85 : decode cX7_fits 85 = .ok (.iload 4, 2) := by decide +kernel
theorem dX7_fits_87 : decode cX7_fits 87 = .ok (.aload_n 0, 1) := by decide +kernel
theorem dX7_fits_88 : decode cX7_fits 88 = .ok (.getfield 47, 3) := by decide +kernel
theorem dX7_fits_91 : decode cX7_fits 91 = .ok (.getfield 246, 3) := by decide +kernel
theorem dX7_fits_94 : decode cX7_fits 94 = .ok (.invokevirtual 249, 3) := by decide +kernel
theorem dX7_fits_97 : decode cX7_fits 97 = .ok (.aload_n 0, 1) := by decide +kernel
theorem dX7_fits_98 : decode cX7_fits 98 = .ok (.aload_n 0, 1) := by decide +kernel
theorem dX7_fits_99 : decode cX7_fits 99 = .ok (.getfield 47, 3) := by decide +kernel
theorem dX7_fits_102 : decode cX7_fits 102 = .ok (.aload_n 0, 1) := by decide +kernel
theorem dX7_fits_103 : decode cX7_fits 103 = .ok (.getfield 26, 3) := by decide +kernel
theorem dX7_fits_106 : decode cX7_fits 106 = .ok (.iload_n 1, 1) := by decide +kernel
theorem dX7_fits_107 : decode cX7_fits 107 = .ok (.iload 4, 2) := by decide +kernel
theorem dX7_fits_109 : decode cX7_fits 109 = .ok (.iload 5, 2) := by decide +kernel
theorem dX7_fits_111 : decode cX7_fits 111 = .ok (.invokevirtual 253, 3) := by decide +kernel
theorem dX7_fits_114 : decode cX7_fits 114 = .ok (.invokevirtual 85, 3) := by decide +kernel
theorem dX7_fits_117 : decode cX7_fits 117 = .ok (.ireturn, 1) := by decide +kernel
set_option maxRecDepth 20000 in
theorem ggX7_moles_X7_isForetold : GoodIn wsX7_moles wsX7_isForetold := goodIn_r _ [10] (by decide +kernel) (by decide +kernel)
set_option maxRecDepth 20000 in
theorem gX7_moles_X7_isForetold : GoodIn wsX7_moles (va_wsS RX7 196 yX7_isForetold wsX7_isForetold) := goodIn_app (goodIn_of _ (by decide +kernel)) ggX7_moles_X7_isForetold
set_option maxRecDepth 20000 in
theorem ggX7_moles_X7_isOneOfTwo : GoodIn wsX7_moles wsX7_isOneOfTwo := goodIn_r _ [13] (by decide +kernel) (by decide +kernel)
set_option maxRecDepth 20000 in
theorem gX7_moles_X7_isOneOfTwo : GoodIn wsX7_moles (va_wsS RX7 207 yX7_isOneOfTwo wsX7_isOneOfTwo) := goodIn_app (goodIn_of _ (by decide +kernel)) ggX7_moles_X7_isOneOfTwo
set_option maxRecDepth 20000 in
theorem ggX7_moles_X5_weightOfNoneUp : GoodIn wsX7_moles wsX5_weightOfNoneUp := goodIn_r _ [18, 19, 20, 21, 22, 23, 24, 25, 26, 27, 28, 29, 30, 31, 32, 33, 34, 17, 35, 36, 37, 38, 39, 40, 41, 42, 43, 44, 45, 46, 47, 48, 49, 50, 51, 52, 53, 54, 55, 56, 57, 58, 59, 60, 61, 62, 63, 64, 65, 66, 67, 68, 69, 70, 71, 72, 73, 74, 75, 76, 77, 78, 79, 98, 99, 100, 101, 102, 103, 104, 105, 106, 107, 108, 109, 110, 111] (by decide +kernel) (by decide +kernel)
set_option maxRecDepth 20000 in
theorem gX7_moles_X5_weightOfNoneUp : GoodIn wsX7_moles (wsV RX7 257 RX5 yX5_weightOfNoneUp wsX5_weightOfNoneUp) := goodIn_app (goodIn_of _ (by decide +kernel)) ggX7_moles_X5_weightOfNoneUp
set_option maxRecDepth 20000 in
theorem ggX7_moles_X5_weightOfAll : GoodIn wsX7_moles wsX5_weightOfAll := goodIn_r _ [83, 19, 36, 28, 29, 24, 30, 31, 98, 99, 100, 101, 102, 103, 104, 105, 106, 107, 108, 109] (by decide +kernel) (by decide +kernel)
set_option maxRecDepth 20000 in
theorem gX7_moles_X5_weightOfAll : GoodIn wsX7_moles (wsV RX7 260 RX5 yX5_weightOfAll wsX5_weightOfAll) := goodIn_app (goodIn_of _ (by decide +kernel)) ggX7_moles_X5_weightOfAll
set_option maxRecDepth 20000 in
theorem ggX7_moles_X7_commonDivisor : GoodIn wsX7_moles wsX7_commonDivisor := goodIn_r _ [86] (by decide +kernel) (by decide +kernel)
set_option maxRecDepth 20000 in
theorem gX7_moles_X7_commonDivisor : GoodIn wsX7_moles (va_wsS RX7 263 yX7_commonDivisor wsX7_commonDivisor) := goodIn_app (goodIn_of _ (by decide +kernel)) ggX7_moles_X7_commonDivisor
theorem dX7_moles_0 : decode cX7_moles 0 = .ok (.aload_n 0, 1) := by decide +kernel
theorem dX7_moles_1 : decode cX7_moles 1 = .ok (.getfield 26, 3) := by decide +kernel
theorem dX7_moles_4 : decode cX7_moles 4 = .ok (.getfield 141, 3) := by decide +kernel
theorem dX7_moles_7 : decode cX7_moles 7 = .ok (.ifCond .ne 6, 3) := by decide +kernel
theorem dX7_moles_10 : decode cX7_moles 10 = .ok (.ldc 145, 2) := by decide +kernel
theorem dX7_moles_12 : decode cX7_moles 12 = .ok (.ireturn, 1) := by decide +kernel
theorem dX7_moles_13 : decode cX7_moles 13 = .ok (.iload_n 1, 1) := by decide +kernel
theorem dX7_moles_14 : decode cX7_moles 14 = .ok (.invokestatic 196, 3) := by decide +kernel
theorem dX7_moles_17 : decode cX7_moles 17 = .ok (.ifCond .eq 20, 3) := by decide +kernel
theorem dX7_moles_20 : decode cX7_moles 20 = .ok (.iload_n 2, 1) := by decide +kernel
theorem dX7_moles_21 : decode cX7_moles 21 = .ok (.ifCond .lt 16, 3) := by decide +kernel
theorem dX7_moles_24 : decode cX7_moles 24 = .ok (.iload_n 2, 1) := by decide +kernel
theorem dX7_moles_25 : decode cX7_moles 25 = .ok (.bipush 10, 2) := by decide +kernel
theorem dX7_moles_27 : decode cX7_moles 27 = .ok (.if_icmp .gt 10, 3) := by decide +kernel
theorem dX7_moles_30 : decode cX7_moles 30 = .ok (.iload_n 3, 1) := by decide +kernel
theorem dX7_moles_31 : decode cX7_moles 31 = .ok (.invokestatic 207, 3) := by decide +kernel
theorem dX7_moles_34 : decode cX7_moles 34 = .ok (.ifCond .ne 6, 3) := by decide +kernel
theorem dX7_moles_37 : decode cX7_moles 37 = .ok (.ldc 76, 2) := by decide +kernel
theorem dX7_moles_39 : decode cX7_moles 39 = .ok (.ireturn, 1) := by decide +kernel
theorem dX7_moles_40 : decode cX7_moles 40 = .ok (.aload_n 0, 1) := by decide +kernel
theorem dX7_moles_41 : decode cX7_moles 41 = .ok (.getfield 47, 3) := by decide +kernel
theorem dX7_moles_44 : decode cX7_moles 44 = .ok (.aload_n 0, 1) := by decide +kernel
theorem dX7_moles_45 : decode cX7_moles 45 = .ok (.getfield 26, 3) := by decide +kernel
theorem dX7_moles_48 : decode cX7_moles 48 = .ok (.iload_n 1, 1) := by decide +kernel
theorem dX7_moles_49 : decode cX7_moles 49 = .ok (.iload_n 2, 1) := by decide +kernel
theorem dX7_moles_50 : decode cX7_moles 50 = .ok (.invokevirtual 257, 3) := by decide +kernel
theorem dX7_moles_53 : decode cX7_moles 53 = .ok (.istore 4, 2) := by decide +kernel
theorem dX7_moles_55 : decode cX7_moles 55 = .ok (.aload_n 0, 1) := by decide +kernel
theorem dX7_moles_56 : decode cX7_moles 56 = .ok (.getfield 47, 3) := by decide +kernel
theorem dX7_moles_59 : decode cX7_moles 59 = .ok (.aload_n 0, 1) := by decide +kernel
theorem dX7_moles_60 : decode cX7_moles 60 = .ok (.getfield 26, 3) := by decide +kernel
theorem dX7_moles_63 : decode cX7_moles 63 = .ok (.invokevirtual 260, 3) := by decide +kernel
theorem dX7_moles_66 : decode cX7_moles 66 = .ok (.istore 5, 2) := by decide +kernel
theorem dX7_moles_68 : decode cX7_moles 68 = .ok (.iload 4, 2) := by decide +kernel
theorem dX7_moles_70 : decode cX7_moles 70 = .ok (.iload 5, 2) := by decide +kernel
theorem dX7_moles_72 : decode cX7_moles 72 = .ok (.invokestatic 263, 3) := by decide +kernel
theorem dX7_moles_75 : decode cX7_moles 75 = .ok (.istore 6, 2) := by decide +kernel
theorem dX7_moles_77 : decode cX7_moles 77 = .ok (.iload 6, 2) := by decide +kernel
theorem dX7_moles_79 : decode cX7_moles 79 = .ok (.iconst 1, 1) := by decide +kernel
theorem dX7_moles_80 : decode cX7_moles 80 = .ok (.if_icmp .ge 6, 3) := by decide +kernel
theorem dX7_moles_83 : decode cX7_moles 83 = .ok (.ldc 224, 2) := by decide +kernel
theorem dX7_moles_85 : decode cX7_moles 85 = .ok (.ireturn, 1) := by decide +kernel
theorem dX7_moles_86 : decode cX7_moles 86 = .ok (.iload_n 3, 1) := by decide +kernel
theorem dX7_moles_87 : decode cX7_moles 87 = .ok (.ifCond .ne 8, 3) := by decide +kernel
theorem dX7_moles_90 : decode cX7_moles 90 = .ok (.iload 4, 2) := by decide +kernel
theorem dX7_moles_92 : decode cX7_moles 92 = .ok (.goto 5, 3) := by decide +kernel
theorem dX7_moles_95 : decode cX7_moles 95 = .ok (.iload 5, 2) := by decide +kernel
theorem dX7_moles_97 : decode cX7_moles 97 = .ok (.iload 6, 2) := by decide +kernel
theorem dX7_moles_99 : decode cX7_moles 99 = .ok (.idiv, 1) := by decide +kernel
theorem dX7_moles_100 : decode cX7_moles 100 = .ok (.ireturn, 1) := by decide +kernel
set_option maxRecDepth 20000 in
theorem ggX7_image_X7_isImage : GoodIn wsX7_image wsX7_isImage := goodIn_r _ [9] (by decide +kernel) (by decide +kernel)
set_option maxRecDepth 20000 in
theorem gX7_image_X7_isImage : GoodIn wsX7_image (va_wsS RX7 267 yX7_isImage wsX7_isImage) := goodIn_app (goodIn_of _ (by decide +kernel)) ggX7_image_X7_isImage
set_option maxRecDepth 20000 in
theorem ggX7_image_X3_become : GoodIn wsX7_image wsX3_become := goodIn_r _ [14, 15, 16, 17, 18, 19, 20, 21, 22, 23, 24, 25, 37, 38, 39, 40, 41, 42, 43, 44, 45, 46, 47, 48] (by decide +kernel) (by decide +kernel)
set_option maxRecDepth 20000 in
theorem gX7_image_X3_become : GoodIn wsX7_image (wsV RX7 131 RX3 yX3_become wsX3_become) := goodIn_app (goodIn_of _ (by decide +kernel)) ggX7_image_X3_become
theorem dX7_image_0 : decode cX7_image 0 = .ok (.iload_n 1, 1) := by decide +kernel
theorem dX7_image_1 : decode cX7_image 1 = .ok (.invokestatic 267, 3) := by decide +kernel
theorem dX7_image_4 : decode cX7_image 4 = .ok (.ifCond .ne 6, 3) := by decide +kernel
theorem dX7_image_7 : decode cX7_image 7 = .ok (.ldc 76, 2) := by decide +kernel
theorem dX7_image_9 : decode cX7_image 9 = .ok (.ireturn, 1) := by decide +kernel
theorem dX7_image_10 : decode cX7_image 10 = .ok (.aload_n 0, 1) := by decide +kernel
theorem dX7_image_11 : decode cX7_image 11 = .ok (.getfield 26, 3) := by decide +kernel
theorem dX7_image_14 : decode cX7_image 14 = .ok (.getfield 141, 3) := by decide +kernel
theorem dX7_image_17 : decode cX7_image 17 = .ok (.ifCond .ne 6, 3) := by decide +kernel
theorem dX7_image_20 : decode cX7_image 20 = .ok (.ldc 145, 2) := by decide +kernel
theorem dX7_image_22 : decode cX7_image 22 = .ok (.ireturn, 1) := by decide +kernel
theorem dX7_image_23 : decode cX7_image 23 = .ok (.aload_n 0, 1) := by decide +kernel
theorem dX7_image_24 : decode cX7_image 24 = .ok (.getfield 40, 3) := by decide +kernel
theorem dX7_image_27 : decode cX7_image 27 = .ok (.iload_n 1, 1) := by decide +kernel
theorem dX7_image_28 : decode cX7_image 28 = .ok (.aaload, 1) := by decide +kernel
theorem dX7_image_29 : decode cX7_image 29 = .ok (.aload_n 0, 1) := by decide +kernel
theorem dX7_image_30 : decode cX7_image 30 = .ok (.getfield 26, 3) := by decide +kernel
theorem dX7_image_33 : decode cX7_image 33 = .ok (.invokevirtual 131, 3) := by decide +kernel
theorem dX7_image_36 : decode cX7_image 36 = .ok (.iconst 1, 1) := by decide +kernel
theorem dX7_image_37 : decode cX7_image 37 = .ok (.ireturn, 1) := by decide +kernel
set_option maxRecDepth 20000 in
theorem ggX7_restore_X7_isImage : GoodIn wsX7_restore wsX7_isImage := goodIn_r _ [10] (by decide +kernel) (by decide +kernel)
set_option maxRecDepth 20000 in
theorem gX7_restore_X7_isImage : GoodIn wsX7_restore (va_wsS RX7 267 yX7_isImage wsX7_isImage) := goodIn_app (goodIn_of _ (by decide +kernel)) ggX7_restore_X7_isImage
set_option maxRecDepth 20000 in
theorem ggX7_restore_X3_become : GoodIn wsX7_restore wsX3_become := goodIn_r _ [15, 16, 17, 18, 19, 20, 21, 22, 23, 24, 25, 26, 44, 45, 46, 47, 48, 49, 50, 51, 52, 53, 54, 55] (by decide +kernel) (by decide +kernel)
set_option maxRecDepth 20000 in
theorem gX7_restore_X3_become : GoodIn wsX7_restore (wsV RX7 131 RX3 yX3_become wsX3_become) := goodIn_app (goodIn_of _ (by decide +kernel)) ggX7_restore_X3_become
set_option maxRecDepth 20000 in
theorem ggX7_restore_X0_forgetAll : GoodIn wsX7_restore wsX0_forgetAll := goodIn_r _ [31, 32, 56, 57, 58] (by decide +kernel) (by decide +kernel)
set_option maxRecDepth 20000 in
theorem gX7_restore_X0_forgetAll : GoodIn wsX7_restore (wsV RX7 135 RX0 yX0_forgetAll wsX0_forgetAll) := goodIn_app (goodIn_of _ (by decide +kernel)) ggX7_restore_X0_forgetAll
theorem dX7_restore_0 : decode cX7_restore 0 = .ok (.iload_n 1, 1) := by decide +kernel
theorem dX7_restore_1 : decode cX7_restore 1 = .ok (.invokestatic 267, 3) := by decide +kernel
theorem dX7_restore_4 : decode cX7_restore 4 = .ok (.ifCond .ne 6, 3) := by decide +kernel
theorem dX7_restore_7 : decode cX7_restore 7 = .ok (.ldc 76, 2) := by decide +kernel
theorem dX7_restore_9 : decode cX7_restore 9 = .ok (.ireturn, 1) := by decide +kernel
theorem dX7_restore_10 : decode cX7_restore 10 = .ok (.aload_n 0, 1) := by decide +kernel
theorem dX7_restore_11 : decode cX7_restore 11 = .ok (.getfield 40, 3) := by decide +kernel
theorem dX7_restore_14 : decode cX7_restore 14 = .ok (.iload_n 1, 1) := by decide +kernel
theorem dX7_restore_15 : decode cX7_restore 15 = .ok (.aaload, 1) := by decide +kernel
theorem dX7_restore_16 : decode cX7_restore 16 = .ok (.getfield 141, 3) := by decide +kernel
theorem dX7_restore_19 : decode cX7_restore 19 = .ok (.ifCond .ne 6, 3) := by decide +kernel
theorem dX7_restore_22 : decode cX7_restore 22 = .ok (.ldc 145, 2) := by decide +kernel
theorem dX7_restore_24 : decode cX7_restore 24 = .ok (.ireturn, 1) := by decide +kernel
theorem dX7_restore_25 : decode cX7_restore 25 = .ok (.aload_n 0, 1) := by decide +kernel
theorem dX7_restore_26 : decode cX7_restore 26 = .ok (.getfield 26, 3) := by decide +kernel
theorem dX7_restore_29 : decode cX7_restore 29 = .ok (.aload_n 0, 1) := by decide +kernel
theorem dX7_restore_30 : decode cX7_restore 30 = .ok (.getfield 40, 3) := by decide +kernel
theorem dX7_restore_33 : decode cX7_restore 33 = .ok (.iload_n 1, 1) := by decide +kernel
theorem dX7_restore_34 : decode cX7_restore 34 = .ok (.aaload, 1) := by decide +kernel
theorem dX7_restore_35 : decode cX7_restore 35 = .ok (.invokevirtual 131, 3) := by decide +kernel
theorem dX7_restore_38 : decode cX7_restore 38 = .ok (.aload_n 0, 1) := by decide +kernel
theorem dX7_restore_39 : decode cX7_restore 39 = .ok (.getfield 36, 3) := by decide +kernel
theorem dX7_restore_42 : decode cX7_restore 42 = .ok (.invokevirtual 135, 3) := by decide +kernel
theorem dX7_restore_45 : decode cX7_restore 45 = .ok (.iconst 1, 1) := by decide +kernel
theorem dX7_restore_46 : decode cX7_restore 46 = .ok (.ireturn, 1) := by decide +kernel
set_option maxRecDepth 20000 in
theorem ggX7_kind_X7_isThing : GoodIn wsX7_kind wsX7_isThing := goodIn_r _ [8, 1, 9, 10, 11, 12, 13, 14, 15, 16, 17, 18, 19, 20, 21, 22, 23, 24, 25, 26, 27, 28, 29, 30, 31, 32] (by decide +kernel) (by decide +kernel)
set_option maxRecDepth 20000 in
theorem gX7_kind_X7_isThing : GoodIn wsX7_kind (wsV RX7 160 RX7 yX7_isThing wsX7_isThing) := goodIn_app (goodIn_of _ (by decide +kernel)) ggX7_kind_X7_isThing
theorem dX7_kind_0 : decode cX7_kind 0 = .ok (.aload_n 0, 1) := by decide +kernel
theorem dX7_kind_1 : decode cX7_kind 1 = .ok (.iload_n 1, 1) := by decide +kernel
theorem dX7_kind_2 : decode cX7_kind 2 = .ok (.invokevirtual 160, 3) := by decide +kernel
theorem dX7_kind_5 : decode cX7_kind 5 = .ok (.ifCond .eq 15, 3) := by decide +kernel
theorem dX7_kind_8 : decode cX7_kind 8 = .ok (.aload_n 0, 1) := by decide +kernel
theorem dX7_kind_9 : decode cX7_kind 9 = .ok (.getfield 26, 3) := by decide +kernel
theorem dX7_kind_12 : decode cX7_kind 12 = .ok (.getfield 270, 3) := by decide +kernel
theorem dX7_kind_15 : decode cX7_kind 15 = .ok (.iload_n 1, 1) := by decide +kernel
theorem dX7_kind_16 : decode cX7_kind 16 = .ok (.iaload, 1) := by decide +kernel
theorem dX7_kind_17 : decode cX7_kind 17 = .ok (.goto 5, 3) := by decide +kernel
theorem dX7_kind_20 : decode cX7_kind 20 = .ok (.ldc 76, 2) := by decide +kernel
theorem dX7_kind_22 : decode cX7_kind 22 = .ok (.ireturn, 1) := by decide +kernel
set_option maxRecDepth 20000 in
theorem ggX7_as_X7_isThing : GoodIn wsX7_as wsX7_isThing := goodIn_r _ [8, 2, 9, 26, 27, 28, 29, 30, 31, 32, 33, 34, 35, 36, 37, 38, 39, 40, 41, 42, 43, 44, 45, 46, 47, 48] (by decide +kernel) (by decide +kernel)
set_option maxRecDepth 20000 in
theorem gX7_as_X7_isThing : GoodIn wsX7_as (wsV RX7 160 RX7 yX7_isThing wsX7_isThing) := goodIn_app (goodIn_of _ (by decide +kernel)) ggX7_as_X7_isThing
set_option maxRecDepth 20000 in
theorem ggX7_as_X7_isOfKind : GoodIn wsX7_as wsX7_isOfKind := goodIn_r _ [12, 13, 14, 7, 15] (by decide +kernel) (by decide +kernel)
set_option maxRecDepth 20000 in
theorem gX7_as_X7_isOfKind : GoodIn wsX7_as (va_wsS RX7 273 yX7_isOfKind wsX7_isOfKind) := goodIn_app (goodIn_of _ (by decide +kernel)) ggX7_as_X7_isOfKind
set_option maxRecDepth 20000 in
theorem ggX7_as_X7_fine : GoodIn wsX7_as wsX7_fine := goodIn_r _ [19, 20, 26, 27, 28, 29, 30, 31, 32, 33, 34, 35, 36] (by decide +kernel) (by decide +kernel)
set_option maxRecDepth 20000 in
theorem gX7_as_X7_fine : GoodIn wsX7_as (wsV RX7 85 RX7 yX7_fine wsX7_fine) := goodIn_app (goodIn_of _ (by decide +kernel)) ggX7_as_X7_fine
set_option maxRecDepth 20000 in
theorem ggX7_as_X7_found : GoodIn wsX7_as wsX7_found := goodIn_r _ [24, 20, 25, 26, 27, 28, 29, 30, 31, 32, 33, 34, 35, 36] (by decide +kernel) (by decide +kernel)
set_option maxRecDepth 20000 in
theorem gX7_as_X7_found : GoodIn wsX7_as (wsV RX7 77 RX7 yX7_found wsX7_found) := goodIn_app (goodIn_of _ (by decide +kernel)) ggX7_as_X7_found
theorem dX7_as_0 : decode cX7_as 0 = .ok (.aload_n 0, 1) := by decide +kernel
theorem dX7_as_1 : decode cX7_as 1 = .ok (.iload_n 1, 1) := by decide +kernel
theorem dX7_as_2 : decode cX7_as 2 = .ok (.invokevirtual 160, 3) := by decide +kernel
theorem dX7_as_5 : decode cX7_as 5 = .ok (.ifCond .eq 12, 3) := by decide +kernel
theorem dX7_as_8 : decode cX7_as 8 = .ok (.iload_n 2, 1) := by decide +kernel
theorem dX7_as_9 : decode cX7_as 9 = .ok (.ifCond .lt 8, 3) := by decide +kernel
theorem dX7_as_12 : decode cX7_as 12 = .ok (.iload_n 2, 1) := by decide +kernel
theorem dX7_as_13 : decode cX7_as 13 = .ok (.iconst 5, 1) := by decide +kernel
theorem dX7_as_14 : decode cX7_as 14 = .ok (.if_icmp .le 6, 3) := by decide +kernel
theorem dX7_as_17 : decode cX7_as 17 = .ok (.ldc 76, 2) := by decide +kernel
theorem dX7_as_19 : decode cX7_as 19 = .ok (.ireturn, 1) := by decide +kernel
theorem dX7_as_20 : decode cX7_as 20 = .ok (.aload_n 0, 1) := by decide +kernel
theorem dX7_as_21 : decode cX7_as 21 = .ok (.getfield 26, 3) := by decide +kernel
theorem dX7_as_24 : decode cX7_as 24 = .ok (.getfield 270, 3) := by decide +kernel
theorem dX7_as_27 : decode cX7_as 27 = .ok (.iload_n 1, 1) := by decide +kernel
theorem dX7_as_28 : decode cX7_as 28 = .ok (.iaload, 1) := by decide +kernel
theorem dX7_as_29 : decode cX7_as 29 = .ok (.iload_n 2, 1) := by decide +kernel
theorem dX7_as_30 : decode cX7_as 30 = .ok (.invokestatic 273, 3) := by decide +kernel
theorem dX7_as_33 : decode cX7_as 33 = .ok (.ifCond .eq 11, 3) := by decide +kernel
theorem dX7_as_36 : decode cX7_as 36 = .ok (.aload_n 0, 1) := by decide +kernel
theorem dX7_as_37 : decode cX7_as 37 = .ok (.iload_n 1, 1) := by decide +kernel
theorem dX7_as_38 : decode cX7_as 38 = .ok (.invokevirtual 85, 3) := by decide +kernel
theorem dX7_as_41 : decode cX7_as 41 = .ok (.goto 8, 3) := by decide +kernel
theorem dX7_as_44 : decode cX7_as 44 = .ok (.aload_n 0, 1) := by decide +kernel
theorem dX7_as_45 : decode cX7_as 45 = .ok (.iconst 3, 1) := by decide +kernel
theorem dX7_as_46 : decode cX7_as 46 = .ok (.invokevirtual 77, 3) := by decide +kernel
theorem dX7_as_49 : decode cX7_as 49 = .ok (.ireturn, 1) := by decide +kernel
set_option maxRecDepth 20000 in
theorem ggX7_ask_X7_isThing : GoodIn wsX7_ask wsX7_isThing := goodIn_r _ [8, 3, 9, 46, 47, 48, 49, 50, 51, 52, 53, 54, 55, 56, 57, 58, 59, 60, 61, 62, 63, 64, 65, 66, 67, 68] (by decide +kernel) (by decide +kernel)
set_option maxRecDepth 20000 in
theorem gX7_ask_X7_isThing : GoodIn wsX7_ask (wsV RX7 160 RX7 yX7_isThing wsX7_isThing) := goodIn_app (goodIn_of _ (by decide +kernel)) ggX7_ask_X7_isThing
set_option maxRecDepth 20000 in
theorem ggX7_ask_X7_isOneOfTwo : GoodIn wsX7_ask wsX7_isOneOfTwo := goodIn_r _ [12] (by decide +kernel) (by decide +kernel)
set_option maxRecDepth 20000 in
theorem gX7_ask_X7_isOneOfTwo : GoodIn wsX7_ask (va_wsS RX7 207 yX7_isOneOfTwo wsX7_isOneOfTwo) := goodIn_app (goodIn_of _ (by decide +kernel)) ggX7_ask_X7_isOneOfTwo
set_option maxRecDepth 20000 in
theorem ggX7_ask_X1_begin : GoodIn wsX7_ask wsX1_begin := goodIn_r _ [17, 18, 19, 20, 21, 16, 22, 23, 24, 25, 26, 27, 28, 29, 30, 31, 32, 33, 7, 34, 35, 36, 37, 38, 39, 40, 41, 42, 43, 44, 45, 69, 70, 57, 58, 59, 60, 61, 62, 63, 64, 65, 66, 67, 68] (by decide +kernel) (by decide +kernel)
set_option maxRecDepth 20000 in
theorem gX7_ask_X1_begin : GoodIn wsX7_ask (wsV RX7 277 RX1 yX1_begin wsX1_begin) := goodIn_app (goodIn_of _ (by decide +kernel)) ggX7_ask_X1_begin
theorem dX7_ask_0 : decode cX7_ask 0 = .ok (.aload_n 0, 1) := by decide +kernel
theorem dX7_ask_1 : decode cX7_ask 1 = .ok (.iload_n 1, 1) := by decide +kernel
theorem dX7_ask_2 : decode cX7_ask 2 = .ok (.invokevirtual 160, 3) := by decide +kernel
theorem dX7_ask_5 : decode cX7_ask 5 = .ok (.ifCond .eq 10, 3) := by decide +kernel
theorem dX7_ask_8 : decode cX7_ask 8 = .ok (.iload_n 2, 1) := by decide +kernel
theorem dX7_ask_9 : decode cX7_ask 9 = .ok (.invokestatic 207, 3) := by decide +kernel
theorem dX7_ask_12 : decode cX7_ask 12 = .ok (.ifCond .ne 6, 3) := by decide +kernel
theorem dX7_ask_15 : decode cX7_ask 15 = .ok (.ldc 76, 2) := by decide +kernel
theorem dX7_ask_17 : decode cX7_ask 17 = .ok (.ireturn, 1) := by decide +kernel
theorem dX7_ask_18 : decode cX7_ask 18 = .ok (.aload_n 0, 1) := by decide +kernel
theorem dX7_ask_19 : decode cX7_ask 19 = .ok (.getfield 61, 3) := by decide +kernel
theorem dX7_ask_22 : decode cX7_ask 22 = .ok (.aload_n 0, 1) := by decide +kernel
theorem dX7_ask_23 : decode cX7_ask 23 = .ok (.getfield 26, 3) := by decide +kernel
theorem dX7_ask_26 : decode cX7_ask 26 = .ok (.iload_n 1, 1) := by decide +kernel
theorem dX7_ask_27 : decode cX7_ask 27 = .ok (.iload_n 2, 1) := by decide +kernel
theorem dX7_ask_28 : decode cX7_ask 28 = .ok (.invokevirtual 277, 3) := by decide +kernel
theorem dX7_ask_31 : decode cX7_ask 31 = .ok (.ireturn, 1) := by decide +kernel
theorem dX7_trace_0 : decode cX7_trace 0 = .ok (.iload_n 1, 1) := by decide +kernel
theorem dX7_trace_1 : decode cX7_trace 1 = .ok (.ifCond .lt 26, 3) := by decide +kernel
theorem dX7_trace_4 : decode cX7_trace 4 = .ok (.iload_n 1, 1) := by decide +kernel
theorem dX7_trace_5 : decode cX7_trace 5 = .ok (.aload_n 0, 1) := by decide +kernel
theorem dX7_trace_6 : decode cX7_trace 6 = .ok (.getfield 61, 3) := by decide +kernel
theorem dX7_trace_9 : decode cX7_trace 9 = .ok (.getfield 280, 3) := by decide +kernel
theorem dX7_trace_12 : decode cX7_trace 12 = .ok (.if_icmp .ge 15, 3) := by decide +kernel
theorem dX7_trace_15 : decode cX7_trace 15 = .ok (.aload_n 0, 1) := by decide +kernel
theorem dX7_trace_16 : decode cX7_trace 16 = .ok (.getfield 61, 3) := by decide +kernel
theorem dX7_trace_19 : decode cX7_trace 19 = .ok (.getfield 283, 3) := by decide +kernel
theorem dX7_trace_22 : decode cX7_trace 22 = .ok (.iload_n 1, 1) := by decide +kernel
theorem dX7_trace_23 : decode cX7_trace 23 = .ok (.iaload, 1) := by decide +kernel
theorem dX7_trace_24 : decode cX7_trace 24 = .ok (.goto 5, 3) := by decide +kernel
theorem dX7_trace_27 : decode cX7_trace 27 = .ok (.ldc 224, 2) := by decide +kernel
theorem dX7_trace_29 : decode cX7_trace 29 = .ok (.ireturn, 1) := by decide +kernel
set_option maxRecDepth 20000 in
theorem ggX7_count_X4_countThere : GoodIn wsX7_count wsX4_countThere := goodIn_r _ [17, 18, 19, 20, 16, 21, 22, 53, 54, 55] (by decide +kernel) (by decide +kernel)
set_option maxRecDepth 20000 in
theorem gX7_count_X4_countThere : GoodIn wsX7_count (wsV RX7 286 RX4 yX4_countThere wsX4_countThere) := goodIn_app (goodIn_of _ (by decide +kernel)) ggX7_count_X4_countThere
theorem dX7_count_0 : decode cX7_count 0 = .ok (.iload_n 1, 1) := by decide +kernel
theorem dX7_count_1 : decode cX7_count 1 = .ok (.tableswitch 111 0 7 #[47, 55, 63, 71, 79, 87, 95, 103], 47) := by decide +kernel
theorem dX7_count_48 : decode cX7_count 48 = .ok (.aload_n 0, 1) := by decide +kernel
theorem dX7_count_49 : decode cX7_count 49 = .ok (.getfield 10, 3) := by decide +kernel
theorem dX7_count_52 : decode cX7_count 52 = .ok (.invokevirtual 286, 3) := by decide +kernel
theorem dX7_count_55 : decode cX7_count 55 = .ok (.ireturn, 1) := by decide +kernel
theorem dX7_count_56 : decode cX7_count 56 = .ok (.aload_n 0, 1) := by decide +kernel
theorem dX7_count_57 : decode cX7_count 57 = .ok (.getfield 26, 3) := by decide +kernel
theorem dX7_count_60 : decode cX7_count 60 = .ok (.getfield 138, 3) := by decide +kernel
theorem dX7_count_63 : decode cX7_count 63 = .ok (.ireturn, 1) := by decide +kernel
theorem dX7_count_64 : decode cX7_count 64 = .ok (.aload_n 0, 1) := by decide +kernel
theorem dX7_count_65 : decode cX7_count 65 = .ok (.getfield 26, 3) := by decide +kernel
theorem dX7_count_68 : decode cX7_count 68 = .ok (.getfield 289, 3) := by decide +kernel
theorem dX7_count_71 : decode cX7_count 71 = .ok (.ireturn, 1) := by decide +kernel
theorem dX7_count_72 : decode cX7_count 72 = .ok (.aload_n 0, 1) := by decide +kernel
theorem dX7_count_73 : decode cX7_count 73 = .ok (.getfield 26, 3) := by decide +kernel
theorem dX7_count_76 : decode cX7_count 76 = .ok (.getfield 146, 3) := by decide +kernel
theorem dX7_count_79 : decode cX7_count 79 = .ok (.ireturn, 1) := by decide +kernel
theorem dX7_count_80 : decode cX7_count 80 = .ok (.aload_n 0, 1) := by decide +kernel
theorem dX7_count_81 : decode cX7_count 81 = .ok (.getfield 26, 3) := by decide +kernel
theorem dX7_count_84 : decode cX7_count 84 = .ok (.getfield 292, 3) := by decide +kernel
theorem dX7_count_87 : decode cX7_count 87 = .ok (.ireturn, 1) := by decide +kernel
theorem dX7_count_88 : decode cX7_count 88 = .ok (.aload_n 0, 1) := by decide +kernel
theorem dX7_count_89 : decode cX7_count 89 = .ok (.getfield 26, 3) := by decide +kernel
theorem dX7_count_92 : decode cX7_count 92 = .ok (.getfield 163, 3) := by decide +kernel
theorem dX7_count_95 : decode cX7_count 95 = .ok (.ireturn, 1) := by decide +kernel
theorem dX7_count_96 : decode cX7_count 96 = .ok (.aload_n 0, 1) := by decide +kernel
theorem dX7_count_97 : decode cX7_count 97 = .ok (.getfield 36, 3) := by decide +kernel
theorem dX7_count_100 : decode cX7_count 100 = .ok (.getfield 178, 3) := by decide +kernel
theorem dX7_count_103 : decode cX7_count 103 = .ok (.ireturn, 1) := by decide +kernel
theorem dX7_count_104 : decode cX7_count 104 = .ok (.aload_n 0, 1) := by decide +kernel
theorem dX7_count_105 : decode cX7_count 105 = .ok (.getfield 19, 3) := by decide +kernel
theorem dX7_count_108 : decode cX7_count 108 = .ok (.getfield 116, 3) := by decide +kernel
theorem dX7_count_111 : decode cX7_count 111 = .ok (.ireturn, 1) := by decide +kernel
theorem dX7_count_112 : decode cX7_count 112 = .ok (.ldc 76, 2) := by decide +kernel
theorem dX7_count_114 : decode cX7_count 114 = .ok (.ireturn, 1) := by decide +kernel
theorem dX7_status_0 : decode cX7_status 0 = .ok (.aload_n 0, 1) := by decide +kernel
theorem dX7_status_1 : decode cX7_status 1 = .ok (.getfield 69, 3) := by decide +kernel
theorem dX7_status_4 : decode cX7_status 4 = .ok (.ireturn, 1) := by decide +kernel
theorem dX7_found_0 : decode cX7_found 0 = .ok (.aload_n 0, 1) := by decide +kernel
theorem dX7_found_1 : decode cX7_found 1 = .ok (.iload_n 1, 1) := by decide +kernel
theorem dX7_found_2 : decode cX7_found 2 = .ok (.putfield 69, 3) := by decide +kernel
theorem dX7_found_5 : decode cX7_found 5 = .ok (.ldc_w 295, 3) := by decide +kernel
theorem dX7_found_8 : decode cX7_found 8 = .ok (.iload_n 1, 1) := by decide +kernel
theorem dX7_found_9 : decode cX7_found 9 = .ok (.isub, 1) := by decide +kernel
theorem dX7_found_10 : decode cX7_found 10 = .ok (.ireturn, 1) := by decide +kernel
theorem dX7_fine_0 : decode cX7_fine 0 = .ok (.aload_n 0, 1) := by decide +kernel
theorem dX7_fine_1 : decode cX7_fine 1 = .ok (.iconst 0, 1) := by decide +kernel
theorem dX7_fine_2 : decode cX7_fine 2 = .ok (.putfield 69, 3) := by decide +kernel
theorem dX7_fine_5 : decode cX7_fine 5 = .ok (.iload_n 1, 1) := by decide +kernel
theorem dX7_fine_6 : decode cX7_fine 6 = .ok (.ireturn, 1) := by decide +kernel
theorem dX7_isThing_0 : decode cX7_isThing 0 = .ok (.iload_n 1, 1) := by decide +kernel
theorem dX7_isThing_1 : decode cX7_isThing 1 = .ok (.ifCond .lt 18, 3) := by decide +kernel
theorem dX7_isThing_4 : decode cX7_isThing 4 = .ok (.iload_n 1, 1) := by decide +kernel
theorem dX7_isThing_5 : decode cX7_isThing 5 = .ok (.aload_n 0, 1) := by decide +kernel
theorem dX7_isThing_6 : decode cX7_isThing 6 = .ok (.getfield 26, 3) := by decide +kernel
theorem dX7_isThing_9 : decode cX7_isThing 9 = .ok (.getfield 138, 3) := by decide +kernel
theorem dX7_isThing_12 : decode cX7_isThing 12 = .ok (.if_icmp .ge 7, 3) := by decide +kernel
theorem dX7_isThing_15 : decode cX7_isThing 15 = .ok (.iconst 1, 1) := by decide +kernel
theorem dX7_isThing_16 : decode cX7_isThing 16 = .ok (.goto 4, 3) := by decide +kernel
theorem dX7_isThing_19 : decode cX7_isThing 19 = .ok (.iconst 0, 1) := by decide +kernel
theorem dX7_isThing_20 : decode cX7_isThing 20 = .ok (.ireturn, 1) := by decide +kernel
theorem dX7_isMan_0 : decode cX7_isMan 0 = .ok (.iload_n 1, 1) := by decide +kernel
theorem dX7_isMan_1 : decode cX7_isMan 1 = .ok (.ifCond .lt 18, 3) := by decide +kernel
theorem dX7_isMan_4 : decode cX7_isMan 4 = .ok (.iload_n 1, 1) := by decide +kernel
theorem dX7_isMan_5 : decode cX7_isMan 5 = .ok (.aload_n 0, 1) := by decide +kernel
theorem dX7_isMan_6 : decode cX7_isMan 6 = .ok (.getfield 26, 3) := by decide +kernel
theorem dX7_isMan_9 : decode cX7_isMan 9 = .ok (.getfield 289, 3) := by decide +kernel
theorem dX7_isMan_12 : decode cX7_isMan 12 = .ok (.if_icmp .ge 7, 3) := by decide +kernel
theorem dX7_isMan_15 : decode cX7_isMan 15 = .ok (.iconst 1, 1) := by decide +kernel
theorem dX7_isMan_16 : decode cX7_isMan 16 = .ok (.goto 4, 3) := by decide +kernel
theorem dX7_isMan_19 : decode cX7_isMan 19 = .ok (.iconst 0, 1) := by decide +kernel
theorem dX7_isMan_20 : decode cX7_isMan 20 = .ok (.ireturn, 1) := by decide +kernel
theorem dX7_isRow_0 : decode cX7_isRow 0 = .ok (.iload_n 0, 1) := by decide +kernel
theorem dX7_isRow_1 : decode cX7_isRow 1 = .ok (.ifCond .lt 13, 3) := by decide +kernel
theorem dX7_isRow_4 : decode cX7_isRow 4 = .ok (.iload_n 0, 1) := by decide +kernel
theorem dX7_isRow_5 : decode cX7_isRow 5 = .ok (.bipush 8, 2) := by decide +kernel
theorem dX7_isRow_7 : decode cX7_isRow 7 = .ok (.if_icmp .ge 7, 3) := by decide +kernel
theorem dX7_isRow_10 : decode cX7_isRow 10 = .ok (.iconst 1, 1) := by decide +kernel
theorem dX7_isRow_11 : decode cX7_isRow 11 = .ok (.goto 4, 3) := by decide +kernel
theorem dX7_isRow_14 : decode cX7_isRow 14 = .ok (.iconst 0, 1) := by decide +kernel
theorem dX7_isRow_15 : decode cX7_isRow 15 = .ok (.ireturn, 1) := by decide +kernel
theorem dX7_isImage_0 : decode cX7_isImage 0 = .ok (.iload_n 0, 1) := by decide +kernel
theorem dX7_isImage_1 : decode cX7_isImage 1 = .ok (.ifCond .lt 12, 3) := by decide +kernel
theorem dX7_isImage_4 : decode cX7_isImage 4 = .ok (.iload_n 0, 1) := by decide +kernel
theorem dX7_isImage_5 : decode cX7_isImage 5 = .ok (.iconst 2, 1) := by decide +kernel
theorem dX7_isImage_6 : decode cX7_isImage 6 = .ok (.if_icmp .ge 7, 3) := by decide +kernel
theorem dX7_isImage_9 : decode cX7_isImage 9 = .ok (.iconst 1, 1) := by decide +kernel
theorem dX7_isImage_10 : decode cX7_isImage 10 = .ok (.goto 4, 3) := by decide +kernel
theorem dX7_isImage_13 : decode cX7_isImage 13 = .ok (.iconst 0, 1) := by decide +kernel
theorem dX7_isImage_14 : decode cX7_isImage 14 = .ok (.ireturn, 1) := by decide +kernel
theorem dX7_isForetold_0 : decode cX7_isForetold 0 = .ok (.iload_n 0, 1) := by decide +kernel
theorem dX7_isForetold_1 : decode cX7_isForetold 1 = .ok (.ifCond .lt 13, 3) := by decide +kernel
theorem dX7_isForetold_4 : decode cX7_isForetold 4 = .ok (.iload_n 0, 1) := by decide +kernel
theorem dX7_isForetold_5 : decode cX7_isForetold 5 = .ok (.bipush 60, 2) := by decide +kernel
theorem dX7_isForetold_7 : decode cX7_isForetold 7 = .ok (.if_icmp .gt 7, 3) := by decide +kernel
theorem dX7_isForetold_10 : decode cX7_isForetold 10 = .ok (.iconst 1, 1) := by decide +kernel
theorem dX7_isForetold_11 : decode cX7_isForetold 11 = .ok (.goto 4, 3) := by decide +kernel
theorem dX7_isForetold_14 : decode cX7_isForetold 14 = .ok (.iconst 0, 1) := by decide +kernel
theorem dX7_isForetold_15 : decode cX7_isForetold 15 = .ok (.ireturn, 1) := by decide +kernel
theorem dX7_isOneOfTwo_0 : decode cX7_isOneOfTwo 0 = .ok (.iload_n 0, 1) := by decide +kernel
theorem dX7_isOneOfTwo_1 : decode cX7_isOneOfTwo 1 = .ok (.ifCond .eq 8, 3) := by decide +kernel
theorem dX7_isOneOfTwo_4 : decode cX7_isOneOfTwo 4 = .ok (.iload_n 0, 1) := by decide +kernel
theorem dX7_isOneOfTwo_5 : decode cX7_isOneOfTwo 5 = .ok (.iconst 1, 1) := by decide +kernel
theorem dX7_isOneOfTwo_6 : decode cX7_isOneOfTwo 6 = .ok (.if_icmp .ne 7, 3) := by decide +kernel
theorem dX7_isOneOfTwo_9 : decode cX7_isOneOfTwo 9 = .ok (.iconst 1, 1) := by decide +kernel
theorem dX7_isOneOfTwo_10 : decode cX7_isOneOfTwo 10 = .ok (.goto 4, 3) := by decide +kernel
theorem dX7_isOneOfTwo_13 : decode cX7_isOneOfTwo 13 = .ok (.iconst 0, 1) := by decide +kernel
theorem dX7_isOneOfTwo_14 : decode cX7_isOneOfTwo 14 = .ok (.ireturn, 1) := by decide +kernel
theorem dX7_kindAbove_0 : decode cX7_kindAbove 0 = .ok (.iload_n 0, 1) := by decide +kernel
theorem dX7_kindAbove_1 : decode cX7_kindAbove 1 = .ok (.tableswitch 37 2 5 #[31, 33, 37, 35], 31) := by decide +kernel
theorem dX7_kindAbove_32 : decode cX7_kindAbove 32 = .ok (.iconst 1, 1) := by decide +kernel
theorem dX7_kindAbove_33 : decode cX7_kindAbove 33 = .ok (.ireturn, 1) := by decide +kernel
theorem dX7_kindAbove_34 : decode cX7_kindAbove 34 = .ok (.iconst 1, 1) := by decide +kernel
theorem dX7_kindAbove_35 : decode cX7_kindAbove 35 = .ok (.ireturn, 1) := by decide +kernel
theorem dX7_kindAbove_36 : decode cX7_kindAbove 36 = .ok (.iconst 4, 1) := by decide +kernel
theorem dX7_kindAbove_37 : decode cX7_kindAbove 37 = .ok (.ireturn, 1) := by decide +kernel
theorem dX7_kindAbove_38 : decode cX7_kindAbove 38 = .ok (.iconst 0, 1) := by decide +kernel
theorem dX7_kindAbove_39 : decode cX7_kindAbove 39 = .ok (.ireturn, 1) := by decide +kernel
set_option maxRecDepth 20000 in
theorem ggX7_isOfKind_X7_kindAbove : GoodIn wsX7_isOfKind wsX7_kindAbove := goodIn_r _ [4] (by decide +kernel) (by decide +kernel)
set_option maxRecDepth 20000 in
theorem gX7_isOfKind_X7_kindAbove : GoodIn wsX7_isOfKind (va_wsS RX7 296 yX7_kindAbove wsX7_kindAbove) := goodIn_app (goodIn_of _ (by decide +kernel)) ggX7_isOfKind_X7_kindAbove
theorem dX7_isOfKind_0 : decode cX7_isOfKind 0 = .ok (.iload_n 0, 1) := by decide +kernel
theorem dX7_isOfKind_1 : decode cX7_isOfKind 1 = .ok (.istore_n 2, 1) := by decide +kernel
theorem dX7_isOfKind_2 : decode cX7_isOfKind 2 = .ok (.iconst 0, 1) := by decide +kernel
theorem dX7_isOfKind_3 : decode cX7_isOfKind 3 = .ok (.istore_n 3, 1) := by decide +kernel
theorem dX7_isOfKind_4 : decode cX7_isOfKind 4 = .ok (.iload_n 3, 1) := by decide +kernel
theorem dX7_isOfKind_5 : decode cX7_isOfKind 5 = .ok (.iconst 5, 1) := by decide +kernel
theorem dX7_isOfKind_6 : decode cX7_isOfKind 6 = .ok (.if_icmp .ge 19, 3) := by decide +kernel
theorem dX7_isOfKind_9 : decode cX7_isOfKind 9 = .ok (.iload_n 2, 1) := by decide +kernel
theorem dX7_isOfKind_10 : decode cX7_isOfKind 10 = .ok (.iload_n 1, 1) := by decide +kernel
theorem dX7_isOfKind_11 : decode cX7_isOfKind 11 = .ok (.if_icmp .eq 14, 3) := by decide +kernel
theorem dX7_isOfKind_14 : decode cX7_isOfKind 14 = .ok (.iload_n 2, 1) := by decide +kernel
theorem dX7_isOfKind_15 : decode cX7_isOfKind 15 = .ok (.invokestatic 296, 3) := by decide +kernel
theorem dX7_isOfKind_18 : decode cX7_isOfKind 18 = .ok (.istore_n 2, 1) := by decide +kernel
theorem dX7_isOfKind_19 : decode cX7_isOfKind 19 = .ok (.iinc 3 1, 3) := by decide +kernel
theorem dX7_isOfKind_22 : decode cX7_isOfKind 22 = .ok (.goto (-18), 3) := by decide +kernel
theorem dX7_isOfKind_25 : decode cX7_isOfKind 25 = .ok (.iload_n 2, 1) := by decide +kernel
theorem dX7_isOfKind_26 : decode cX7_isOfKind 26 = .ok (.iload_n 1, 1) := by decide +kernel
theorem dX7_isOfKind_27 : decode cX7_isOfKind 27 = .ok (.if_icmp .ne 7, 3) := by decide +kernel
theorem dX7_isOfKind_30 : decode cX7_isOfKind 30 = .ok (.iconst 1, 1) := by decide +kernel
theorem dX7_isOfKind_31 : decode cX7_isOfKind 31 = .ok (.goto 4, 3) := by decide +kernel
theorem dX7_isOfKind_34 : decode cX7_isOfKind 34 = .ok (.iconst 0, 1) := by decide +kernel
theorem dX7_isOfKind_35 : decode cX7_isOfKind 35 = .ok (.ireturn, 1) := by decide +kernel
theorem dX7_leastOf_0 : decode cX7_leastOf 0 = .ok (.iconst 0, 1) := by decide +kernel
theorem dX7_leastOf_1 : decode cX7_leastOf 1 = .ok (.istore_n 1, 1) := by decide +kernel
theorem dX7_leastOf_2 : decode cX7_leastOf 2 = .ok (.iload_n 1, 1) := by decide +kernel
theorem dX7_leastOf_3 : decode cX7_leastOf 3 = .ok (.iconst 5, 1) := by decide +kernel
theorem dX7_leastOf_4 : decode cX7_leastOf 4 = .ok (.if_icmp .ge 20, 3) := by decide +kernel
theorem dX7_leastOf_7 : decode cX7_leastOf 7 = .ok (.iload_n 0, 1) := by decide +kernel
theorem dX7_leastOf_8 : decode cX7_leastOf 8 = .ok (.iload_n 1, 1) := by decide +kernel
theorem dX7_leastOf_9 : decode cX7_leastOf 9 = .ok (.ishr, 1) := by decide +kernel
theorem dX7_leastOf_10 : decode cX7_leastOf 10 = .ok (.iconst 1, 1) := by decide +kernel
theorem dX7_leastOf_11 : decode cX7_leastOf 11 = .ok (.iand, 1) := by decide +kernel
theorem dX7_leastOf_12 : decode cX7_leastOf 12 = .ok (.iconst 1, 1) := by decide +kernel
theorem dX7_leastOf_13 : decode cX7_leastOf 13 = .ok (.if_icmp .ne 5, 3) := by decide +kernel
theorem dX7_leastOf_16 : decode cX7_leastOf 16 = .ok (.iload_n 1, 1) := by decide +kernel
theorem dX7_leastOf_17 : decode cX7_leastOf 17 = .ok (.ireturn, 1) := by decide +kernel
theorem dX7_leastOf_18 : decode cX7_leastOf 18 = .ok (.iinc 1 1, 3) := by decide +kernel
theorem dX7_leastOf_21 : decode cX7_leastOf 21 = .ok (.goto (-19), 3) := by decide +kernel
theorem dX7_leastOf_24 : decode cX7_leastOf 24 = .ok (.ldc 224, 2) := by decide +kernel
theorem dX7_leastOf_26 : decode cX7_leastOf 26 = .ok (.ireturn, 1) := by decide +kernel
theorem dX7_commonDivisor_0 : decode cX7_commonDivisor 0 = .ok (.iload_n 0, 1) := by decide +kernel
theorem dX7_commonDivisor_1 : decode cX7_commonDivisor 1 = .ok (.istore_n 2, 1) := by decide +kernel
theorem dX7_commonDivisor_2 : decode cX7_commonDivisor 2 = .ok (.iload_n 1, 1) := by decide +kernel
theorem dX7_commonDivisor_3 : decode cX7_commonDivisor 3 = .ok (.istore_n 3, 1) := by decide +kernel
theorem dX7_commonDivisor_4 : decode cX7_commonDivisor 4 = .ok (.iconst 0, 1) := by decide +kernel
theorem dX7_commonDivisor_5 : decode cX7_commonDivisor 5 = .ok (.istore 4, 2) := by decide +kernel
theorem dX7_commonDivisor_7 : decode cX7_commonDivisor 7 = .ok (.iload 4, 2) := by decide +kernel
theorem dX7_commonDivisor_9 : decode cX7_commonDivisor 9 = .ok (.bipush 64, 2) := by decide +kernel
theorem dX7_commonDivisor_11 : decode cX7_commonDivisor 11 = .ok (.if_icmp .ge 23, 3) := by decide +kernel
theorem dX7_commonDivisor_14 : decode cX7_commonDivisor 14 = .ok (.iload_n 3, 1) := by decide +kernel
theorem dX7_commonDivisor_15 : decode cX7_commonDivisor 15 = .ok (.ifCond .eq 19, 3) := by decide +kernel
theorem dX7_commonDivisor_18 : decode cX7_commonDivisor 18 = .ok (.iload_n 2, 1) := by decide +kernel
theorem dX7_commonDivisor_19 : decode cX7_commonDivisor 19 = .ok (.iload_n 3, 1) := by decide +kernel
theorem dX7_commonDivisor_20 : decode cX7_commonDivisor 20 = .ok (.irem, 1) := by decide +kernel
theorem dX7_commonDivisor_21 : decode cX7_commonDivisor 21 = .ok (.istore 5, 2) := by decide +kernel
theorem dX7_commonDivisor_23 : decode cX7_commonDivisor 23 = .ok (.iload_n 3, 1) := by decide +kernel
theorem dX7_commonDivisor_24 : decode cX7_commonDivisor 24 = .ok (.istore_n 2, 1) := by decide +kernel
theorem dX7_commonDivisor_25 : decode cX7_commonDivisor 25 = .ok (.iload 5, 2) := by decide +kernel
theorem dX7_commonDivisor_27 : decode cX7_commonDivisor 27 = .ok (.istore_n 3, 1) := by decide +kernel
theorem dX7_commonDivisor_28 : decode cX7_commonDivisor 28 = .ok (.iinc 4 1, 3) := by decide +kernel
theorem dX7_commonDivisor_31 : decode cX7_commonDivisor 31 = .ok (.goto (-24), 3) := by decide +kernel
theorem dX7_commonDivisor_34 : decode cX7_commonDivisor 34 = .ok (.iload_n 2, 1) := by decide +kernel
theorem dX7_commonDivisor_35 : decode cX7_commonDivisor 35 = .ok (.ireturn, 1) := by decide +kernel
theorem dX8_init_0 : decode cX8_init 0 = .ok (.aload_n 0, 1) := by decide +kernel
theorem dX8_init_1 : decode cX8_init 1 = .ok (.invokespecial 1, 3) := by decide +kernel
theorem dX8_init_4 : decode cX8_init 4 = .ok (.aload_n 0, 1) := by decide +kernel
theorem dX8_init_5 : decode cX8_init 5 = .ok (.bipush 8, 2) := by decide +kernel
theorem dX8_init_7 : decode cX8_init 7 = .ok (.newarray .int, 2) := by decide +kernel
theorem dX8_init_9 : decode cX8_init 9 = .ok (.putfield 7, 3) := by decide +kernel
theorem dX8_init_12 : decode cX8_init 12 = .ok (.aload_n 0, 1) := by decide +kernel
theorem dX8_init_13 : decode cX8_init 13 = .ok (.bipush 8, 2) := by decide +kernel
theorem dX8_init_15 : decode cX8_init 15 = .ok (.newarray .int, 2) := by decide +kernel
theorem dX8_init_17 : decode cX8_init 17 = .ok (.putfield 13, 3) := by decide +kernel
theorem dX8_init_20 : decode cX8_init 20 = .ok (.aload_n 0, 1) := by decide +kernel
theorem dX8_init_21 : decode cX8_init 21 = .ok (.sipush 320, 3) := by decide +kernel
theorem dX8_init_24 : decode cX8_init 24 = .ok (.newarray .int, 2) := by decide +kernel
theorem dX8_init_26 : decode cX8_init 26 = .ok (.putfield 16, 3) := by decide +kernel
theorem dX8_init_29 : decode cX8_init 29 = .ok (.aload_n 0, 1) := by decide +kernel
theorem dX8_init_30 : decode cX8_init 30 = .ok (.bipush 30, 2) := by decide +kernel
theorem dX8_init_32 : decode cX8_init 32 = .ok (.newarray .int, 2) := by decide +kernel
theorem dX8_init_34 : decode cX8_init 34 = .ok (.putfield 19, 3) := by decide +kernel
theorem dX8_init_37 : decode cX8_init 37 = .ok (.aload_n 0, 1) := by decide +kernel
theorem dX8_init_38 : decode cX8_init 38 = .ok (.bipush 30, 2) := by decide +kernel
theorem dX8_init_40 : decode cX8_init 40 = .ok (.newarray .int, 2) := by decide +kernel
theorem dX8_init_42 : decode cX8_init 42 = .ok (.putfield 22, 3) := by decide +kernel
theorem dX8_init_45 : decode cX8_init 45 = .ok (.aload_n 0, 1) := by decide +kernel
theorem dX8_init_46 : decode cX8_init 46 = .ok (.bipush 30, 2) := by decide +kernel
theorem dX8_init_48 : decode cX8_init 48 = .ok (.newarray .int, 2) := by decide +kernel
theorem dX8_init_50 : decode cX8_init 50 = .ok (.putfield 25, 3) := by decide +kernel
theorem dX8_init_53 : decode cX8_init 53 = .ok (.aload_n 0, 1) := by decide +kernel
theorem dX8_init_54 : decode cX8_init 54 = .ok (.sipush 720, 3) := by decide +kernel
theorem dX8_init_57 : decode cX8_init 57 = .ok (.newarray .int, 2) := by decide +kernel
theorem dX8_init_59 : decode cX8_init 59 = .ok (.putfield 28, 3) := by decide +kernel
theorem dX8_init_62 : decode cX8_init 62 = .ok (.aload_n 0, 1) := by decide +kernel
theorem dX8_init_63 : decode cX8_init 63 = .ok (.bipush 60, 2) := by decide +kernel
theorem dX8_init_65 : decode cX8_init 65 = .ok (.newarray .int, 2) := by decide +kernel
theorem dX8_init_67 : decode cX8_init 67 = .ok (.putfield 31, 3) := by decide +kernel
theorem dX8_init_70 : decode cX8_init 70 = .ok (.aload_n 0, 1) := by decide +kernel
theorem dX8_init_71 : decode cX8_init 71 = .ok (.iconst 2, 1) := by decide +kernel
theorem dX8_init_72 : decode cX8_init 72 = .ok (.newarray .boolean, 2) := by decide +kernel
theorem dX8_init_74 : decode cX8_init 74 = .ok (.putfield 34, 3) := by decide +kernel
theorem dX8_init_77 : decode cX8_init 77 = .ok (.aload_n 0, 1) := by decide +kernel
theorem dX8_init_78 : decode cX8_init 78 = .ok (.bipush 100, 2) := by decide +kernel
theorem dX8_init_80 : decode cX8_init 80 = .ok (.newarray .int, 2) := by decide +kernel
theorem dX8_init_82 : decode cX8_init 82 = .ok (.putfield 38, 3) := by decide +kernel
theorem dX8_init_85 : decode cX8_init 85 = .ok (.aload_n 0, 1) := by decide +kernel
theorem dX8_init_86 : decode cX8_init 86 = .ok (.bipush 16, 2) := by decide +kernel
theorem dX8_init_88 : decode cX8_init 88 = .ok (.newarray .int, 2) := by decide +kernel
theorem dX8_init_90 : decode cX8_init 90 = .ok (.putfield 41, 3) := by decide +kernel
theorem dX8_init_93 : decode cX8_init 93 = .ok (.aload_n 0, 1) := by decide +kernel
theorem dX8_init_94 : decode cX8_init 94 = .ok (.iconst 5, 1) := by decide +kernel
theorem dX8_init_95 : decode cX8_init 95 = .ok (.newarray .int, 2) := by decide +kernel
theorem dX8_init_97 : decode cX8_init 97 = .ok (.putfield 44, 3) := by decide +kernel
theorem dX8_init_100 : decode cX8_init 100 = .ok (.aload_n 0, 1) := by decide +kernel
theorem dX8_init_101 : decode cX8_init 101 = .ok (.iconst 5, 1) := by decide +kernel
theorem dX8_init_102 : decode cX8_init 102 = .ok (.newarray .int, 2) := by decide +kernel
theorem dX8_init_104 : decode cX8_init 104 = .ok (.putfield 47, 3) := by decide +kernel
theorem dX8_init_107 : decode cX8_init 107 = .ok (.aload_n 0, 1) := by decide +kernel
theorem dX8_init_108 : decode cX8_init 108 = .ok (.iconst 5, 1) := by decide +kernel
theorem dX8_init_109 : decode cX8_init 109 = .ok (.newarray .int, 2) := by decide +kernel
theorem dX8_init_111 : decode cX8_init 111 = .ok (.putfield 50, 3) := by decide +kernel
theorem dX8_init_114 : decode cX8_init 114 = .ok (.iconst 0, 1) := by decide +kernel
theorem dX8_init_115 : decode cX8_init 115 = .ok (.istore_n 1, 1) := by decide +kernel
theorem dX8_init_116 : decode cX8_init 116 = .ok (.iload_n 1, 1) := by decide +kernel
theorem dX8_init_117 : decode cX8_init 117 = .ok (.bipush 8, 2) := by decide +kernel
theorem dX8_init_119 : decode cX8_init 119 = .ok (.if_icmp .ge 16, 3) := by decide +kernel
theorem dX8_init_122 : decode cX8_init 122 = .ok (.aload_n 0, 1) := by decide +kernel
theorem dX8_init_123 : decode cX8_init 123 = .ok (.getfield 13, 3) := by decide +kernel
theorem dX8_init_126 : decode cX8_init 126 = .ok (.iload_n 1, 1) := by decide +kernel
theorem dX8_init_127 : decode cX8_init 127 = .ok (.iconst (-1), 1) := by decide +kernel
theorem dX8_init_128 : decode cX8_init 128 = .ok (.iastore, 1) := by decide +kernel
theorem dX8_init_129 : decode cX8_init 129 = .ok (.iinc 1 1, 3) := by decide +kernel
theorem dX8_init_132 : decode cX8_init 132 = .ok (.goto (-16), 3) := by decide +kernel
theorem dX8_init_135 : decode cX8_init 135 = .ok (.return_, 1) := by decide +kernel
theorem dX8_in_0 : decode cX8_in 0 = .ok (.lload_n 0, 1) := by decide +kernel
theorem dX8_in_1 : decode cX8_in 1 = .ok (.lload_n 2, 1) := by decide +kernel
theorem dX8_in_2 : decode cX8_in 2 = .ok (.lcmp, 1) := by decide +kernel
theorem dX8_in_3 : decode cX8_in 3 = .ok (.ifCond .lt 14, 3) := by decide +kernel
theorem dX8_in_6 : decode cX8_in 6 = .ok (.lload_n 0, 1) := by decide +kernel
theorem dX8_in_7 : decode cX8_in 7 = .ok (.lload 4, 2) := by decide +kernel
theorem dX8_in_9 : decode cX8_in 9 = .ok (.lcmp, 1) := by decide +kernel
theorem dX8_in_10 : decode cX8_in 10 = .ok (.ifCond .gt 7, 3) := by decide +kernel
theorem dX8_in_13 : decode cX8_in 13 = .ok (.iconst 1, 1) := by decide +kernel
theorem dX8_in_14 : decode cX8_in 14 = .ok (.goto 4, 3) := by decide +kernel
theorem dX8_in_17 : decode cX8_in 17 = .ok (.iconst 0, 1) := by decide +kernel
theorem dX8_in_18 : decode cX8_in 18 = .ok (.ireturn, 1) := by decide +kernel
theorem dX8_found_0 : decode cX8_found 0 = .ok (.aload_n 0, 1) := by decide +kernel
theorem dX8_found_1 : decode cX8_found 1 = .ok (.iload_n 1, 1) := by decide +kernel
theorem dX8_found_2 : decode cX8_found 2 = .ok (.putfield 53, 3) := by decide +kernel
theorem dX8_found_5 : decode cX8_found 5 = .ok (.ldc 57, 2) := by decide +kernel
theorem dX8_found_7 : decode cX8_found 7 = .ok (.iload_n 1, 1) := by decide +kernel
theorem dX8_found_8 : decode cX8_found 8 = .ok (.isub, 1) := by decide +kernel
theorem dX8_found_9 : decode cX8_found 9 = .ok (.ireturn, 1) := by decide +kernel
theorem dX8_well_0 : decode cX8_well 0 = .ok (.aload_n 0, 1) := by decide +kernel
theorem dX8_well_1 : decode cX8_well 1 = .ok (.iconst 0, 1) := by decide +kernel
theorem dX8_well_2 : decode cX8_well 2 = .ok (.putfield 53, 3) := by decide +kernel
theorem dX8_well_5 : decode cX8_well 5 = .ok (.iload_n 1, 1) := by decide +kernel
theorem dX8_well_6 : decode cX8_well 6 = .ok (.ireturn, 1) := by decide +kernel
set_option maxRecDepth 20000 in
theorem ggX8_isRow_X8_in : GoodIn wsX8_isRow wsX8_in := goodIn_r _ [5] (by decide +kernel) (by decide +kernel)
set_option maxRecDepth 20000 in
theorem gX8_isRow_X8_in : GoodIn wsX8_isRow (va_wsS RX8 60 yX8_in wsX8_in) := goodIn_app (goodIn_of _ (by decide +kernel)) ggX8_isRow_X8_in
theorem dX8_isRow_0 : decode cX8_isRow 0 = .ok (.iload_n 0, 1) := by decide +kernel
theorem dX8_isRow_1 : decode cX8_isRow 1 = .ok (.i2l, 1) := by decide +kernel
theorem dX8_isRow_2 : decode cX8_isRow 2 = .ok (.lconst 0, 1) := by decide +kernel
theorem dX8_isRow_3 : decode cX8_isRow 3 = .ok (.ldc2_w 58, 3) := by decide +kernel
theorem dX8_isRow_6 : decode cX8_isRow 6 = .ok (.invokestatic 60, 3) := by decide +kernel
theorem dX8_isRow_9 : decode cX8_isRow 9 = .ok (.ireturn, 1) := by decide +kernel
set_option maxRecDepth 20000 in
theorem ggX8_row_X8_isRow : GoodIn wsX8_row wsX8_isRow := goodIn_r _ [9, 10, 11, 12, 8, 13] (by decide +kernel) (by decide +kernel)
set_option maxRecDepth 20000 in
theorem gX8_row_X8_isRow : GoodIn wsX8_row (va_wsS RX8 64 yX8_isRow wsX8_isRow) := goodIn_app (goodIn_of _ (by decide +kernel)) ggX8_row_X8_isRow
set_option maxRecDepth 20000 in
theorem ggX8_row_X8_in : GoodIn wsX8_row wsX8_in := goodIn_r _ [13] (by decide +kernel) (by decide +kernel)
set_option maxRecDepth 20000 in
theorem gX8_row_X8_in : GoodIn wsX8_row (va_wsS RX8 60 yX8_in wsX8_in) := goodIn_app (goodIn_of _ (by decide +kernel)) ggX8_row_X8_in
set_option maxRecDepth 20000 in
theorem ggX8_row_X8_found : GoodIn wsX8_row wsX8_found := goodIn_r _ [17, 18, 19, 24, 25, 26, 27, 28, 29, 30, 31, 32, 33, 34, 35, 36, 37, 38, 39, 40, 41, 42, 43, 44, 45, 46, 47] (by decide +kernel) (by decide +kernel)
set_option maxRecDepth 20000 in
theorem gX8_row_X8_found : GoodIn wsX8_row (wsV RX8 71 RX8 yX8_found wsX8_found) := goodIn_app (goodIn_of _ (by decide +kernel)) ggX8_row_X8_found
set_option maxRecDepth 20000 in
theorem ggX8_row_X8_well : GoodIn wsX8_row wsX8_well := goodIn_r _ [23, 18, 24, 25, 26, 27, 28, 29, 30, 31, 32, 33, 34, 35, 36, 37, 38, 39, 40, 41, 42, 43, 44, 45, 46, 47] (by decide +kernel) (by decide +kernel)
set_option maxRecDepth 20000 in
theorem gX8_row_X8_well : GoodIn wsX8_row (wsV RX8 75 RX8 yX8_well wsX8_well) := goodIn_app (goodIn_of _ (by decide +kernel)) ggX8_row_X8_well
theorem dX8_row_0 : decode cX8_row 0 = .ok (.iload_n 1, 1) := by decide +kernel
theorem dX8_row_1 : decode cX8_row 1 = .ok (.invokestatic 64, 3) := by decide +kernel
theorem dX8_row_4 : decode cX8_row 4 = .ok (.ifCond .eq 21, 3) := by decide +kernel
theorem dX8_row_7 : decode cX8_row 7 = .ok (.iload_n 2, 1) := by decide +kernel
theorem dX8_row_8 : decode cX8_row 8 = .ok (.i2l, 1) := by decide +kernel
theorem dX8_row_9 : decode cX8_row 9 = .ok (.lconst 0, 1) := by decide +kernel
theorem dX8_row_10 : decode cX8_row 10 = .ok (.ldc2_w 68, 3) := by decide +kernel
theorem dX8_row_13 : decode cX8_row 13 = .ok (.invokestatic 60, 3) := by decide +kernel
theorem dX8_row_16 : decode cX8_row 16 = .ok (.ifCond .eq 9, 3) := by decide +kernel
theorem dX8_row_19 : decode cX8_row 19 = .ok (.iload_n 3, 1) := by decide +kernel
theorem dX8_row_20 : decode cX8_row 20 = .ok (.bipush 40, 2) := by decide +kernel
theorem dX8_row_22 : decode cX8_row 22 = .ok (.if_icmp .le 6, 3) := by decide +kernel
theorem dX8_row_25 : decode cX8_row 25 = .ok (.ldc 70, 2) := by decide +kernel
theorem dX8_row_27 : decode cX8_row 27 = .ok (.ireturn, 1) := by decide +kernel
theorem dX8_row_28 : decode cX8_row 28 = .ok (.iload_n 3, 1) := by decide +kernel
theorem dX8_row_29 : decode cX8_row 29 = .ok (.ifCond .ge 9, 3) := by decide +kernel
theorem dX8_row_32 : decode cX8_row 32 = .ok (.aload_n 0, 1) := by decide +kernel
theorem dX8_row_33 : decode cX8_row 33 = .ok (.iconst 4, 1) := by decide +kernel
theorem dX8_row_34 : decode cX8_row 34 = .ok (.invokevirtual 71, 3) := by decide +kernel
theorem dX8_row_37 : decode cX8_row 37 = .ok (.ireturn, 1) := by decide +kernel
theorem dX8_row_38 : decode cX8_row 38 = .ok (.aload_n 0, 1) := by decide +kernel
theorem dX8_row_39 : decode cX8_row 39 = .ok (.getfield 7, 3) := by decide +kernel
theorem dX8_row_42 : decode cX8_row 42 = .ok (.iload_n 1, 1) := by decide +kernel
theorem dX8_row_43 : decode cX8_row 43 = .ok (.iload_n 2, 1) := by decide +kernel
theorem dX8_row_44 : decode cX8_row 44 = .ok (.iastore, 1) := by decide +kernel
theorem dX8_row_45 : decode cX8_row 45 = .ok (.aload_n 0, 1) := by decide +kernel
theorem dX8_row_46 : decode cX8_row 46 = .ok (.getfield 13, 3) := by decide +kernel
theorem dX8_row_49 : decode cX8_row 49 = .ok (.iload_n 1, 1) := by decide +kernel
theorem dX8_row_50 : decode cX8_row 50 = .ok (.iload_n 3, 1) := by decide +kernel
theorem dX8_row_51 : decode cX8_row 51 = .ok (.iastore, 1) := by decide +kernel
theorem dX8_row_52 : decode cX8_row 52 = .ok (.iconst 0, 1) := by decide +kernel
theorem dX8_row_53 : decode cX8_row 53 = .ok (.istore 4, 2) := by decide +kernel
theorem dX8_row_55 : decode cX8_row 55 = .ok (.iload 4, 2) := by decide +kernel
theorem dX8_row_57 : decode cX8_row 57 = .ok (.bipush 40, 2) := by decide +kernel
theorem dX8_row_59 : decode cX8_row 59 = .ok (.if_icmp .ge 22, 3) := by decide +kernel
theorem dX8_row_62 : decode cX8_row 62 = .ok (.aload_n 0, 1) := by decide +kernel
theorem dX8_row_63 : decode cX8_row 63 = .ok (.getfield 16, 3) := by decide +kernel
theorem dX8_row_66 : decode cX8_row 66 = .ok (.bipush 40, 2) := by decide +kernel
theorem dX8_row_68 : decode cX8_row 68 = .ok (.iload_n 1, 1) := by decide +kernel
theorem dX8_row_69 : decode cX8_row 69 = .ok (.imul, 1) := by decide +kernel
theorem dX8_row_70 : decode cX8_row 70 = .ok (.iload 4, 2) := by decide +kernel
theorem dX8_row_72 : decode cX8_row 72 = .ok (.iadd, 1) := by decide +kernel
theorem dX8_row_73 : decode cX8_row 73 = .ok (.iconst 0, 1) := by decide +kernel
theorem dX8_row_74 : decode cX8_row 74 = .ok (.iastore, 1) := by decide +kernel
theorem dX8_row_75 : decode cX8_row 75 = .ok (.iinc 4 1, 3) := by decide +kernel
theorem dX8_row_78 : decode cX8_row 78 = .ok (.goto (-23), 3) := by decide +kernel
theorem dX8_row_81 : decode cX8_row 81 = .ok (.aload_n 0, 1) := by decide +kernel
theorem dX8_row_82 : decode cX8_row 82 = .ok (.iload_n 3, 1) := by decide +kernel
theorem dX8_row_83 : decode cX8_row 83 = .ok (.invokevirtual 75, 3) := by decide +kernel
theorem dX8_row_86 : decode cX8_row 86 = .ok (.ireturn, 1) := by decide +kernel
set_option maxRecDepth 20000 in
theorem ggX8_set_X8_isRow : GoodIn wsX8_set wsX8_isRow := goodIn_r _ [8, 9, 10, 11, 7, 12] (by decide +kernel) (by decide +kernel)
set_option maxRecDepth 20000 in
theorem gX8_set_X8_isRow : GoodIn wsX8_set (va_wsS RX8 64 yX8_isRow wsX8_isRow) := goodIn_app (goodIn_of _ (by decide +kernel)) ggX8_set_X8_isRow
set_option maxRecDepth 20000 in
theorem ggX8_set_X8_found : GoodIn wsX8_set wsX8_found := goodIn_r _ [16, 17, 18, 23, 24, 25, 26, 27, 28, 29, 30, 31, 32, 33, 34, 35, 36, 37, 38, 39, 40, 41, 42, 43, 44, 45, 46] (by decide +kernel) (by decide +kernel)
set_option maxRecDepth 20000 in
theorem gX8_set_X8_found : GoodIn wsX8_set (wsV RX8 71 RX8 yX8_found wsX8_found) := goodIn_app (goodIn_of _ (by decide +kernel)) ggX8_set_X8_found
set_option maxRecDepth 20000 in
theorem ggX8_set_X8_in : GoodIn wsX8_set wsX8_in := goodIn_r _ [12] (by decide +kernel) (by decide +kernel)
set_option maxRecDepth 20000 in
theorem gX8_set_X8_in : GoodIn wsX8_set (va_wsS RX8 60 yX8_in wsX8_in) := goodIn_app (goodIn_of _ (by decide +kernel)) ggX8_set_X8_in
set_option maxRecDepth 20000 in
theorem ggX8_set_X8_well : GoodIn wsX8_set wsX8_well := goodIn_r _ [22, 17, 23, 24, 25, 26, 27, 28, 29, 30, 31, 32, 33, 34, 35, 36, 37, 38, 39, 40, 41, 42, 43, 44, 45, 46] (by decide +kernel) (by decide +kernel)
set_option maxRecDepth 20000 in
theorem gX8_set_X8_well : GoodIn wsX8_set (wsV RX8 75 RX8 yX8_well wsX8_well) := goodIn_app (goodIn_of _ (by decide +kernel)) ggX8_set_X8_well
theorem dX8_set_0 : decode cX8_set 0 = .ok (.iload_n 1, 1) := by decide +kernel
theorem dX8_set_1 : decode cX8_set 1 = .ok (.invokestatic 64, 3) := by decide +kernel
theorem dX8_set_4 : decode cX8_set 4 = .ok (.ifCond .ne 6, 3) := by decide +kernel
theorem dX8_set_7 : decode cX8_set 7 = .ok (.ldc 70, 2) := by decide +kernel
theorem dX8_set_9 : decode cX8_set 9 = .ok (.ireturn, 1) := by decide +kernel
theorem dX8_set_10 : decode cX8_set 10 = .ok (.aload_n 0, 1) := by decide +kernel
theorem dX8_set_11 : decode cX8_set 11 = .ok (.getfield 13, 3) := by decide +kernel
theorem dX8_set_14 : decode cX8_set 14 = .ok (.iload_n 1, 1) := by decide +kernel
theorem dX8_set_15 : decode cX8_set 15 = .ok (.iaload, 1) := by decide +kernel
theorem dX8_set_16 : decode cX8_set 16 = .ok (.ifCond .ge 9, 3) := by decide +kernel
theorem dX8_set_19 : decode cX8_set 19 = .ok (.aload_n 0, 1) := by decide +kernel
theorem dX8_set_20 : decode cX8_set 20 = .ok (.iconst 1, 1) := by decide +kernel
theorem dX8_set_21 : decode cX8_set 21 = .ok (.invokevirtual 71, 3) := by decide +kernel
theorem dX8_set_24 : decode cX8_set 24 = .ok (.ireturn, 1) := by decide +kernel
theorem dX8_set_25 : decode cX8_set 25 = .ok (.iload_n 2, 1) := by decide +kernel
theorem dX8_set_26 : decode cX8_set 26 = .ok (.i2l, 1) := by decide +kernel
theorem dX8_set_27 : decode cX8_set 27 = .ok (.lconst 0, 1) := by decide +kernel
theorem dX8_set_28 : decode cX8_set 28 = .ok (.aload_n 0, 1) := by decide +kernel
theorem dX8_set_29 : decode cX8_set 29 = .ok (.getfield 13, 3) := by decide +kernel
theorem dX8_set_32 : decode cX8_set 32 = .ok (.iload_n 1, 1) := by decide +kernel
theorem dX8_set_33 : decode cX8_set 33 = .ok (.iaload, 1) := by decide +kernel
theorem dX8_set_34 : decode cX8_set 34 = .ok (.iconst 1, 1) := by decide +kernel
theorem dX8_set_35 : decode cX8_set 35 = .ok (.isub, 1) := by decide +kernel
theorem dX8_set_36 : decode cX8_set 36 = .ok (.i2l, 1) := by decide +kernel
theorem dX8_set_37 : decode cX8_set 37 = .ok (.invokestatic 60, 3) := by decide +kernel
theorem dX8_set_40 : decode cX8_set 40 = .ok (.ifCond .ne 9, 3) := by decide +kernel
theorem dX8_set_43 : decode cX8_set 43 = .ok (.aload_n 0, 1) := by decide +kernel
theorem dX8_set_44 : decode cX8_set 44 = .ok (.iconst 2, 1) := by decide +kernel
theorem dX8_set_45 : decode cX8_set 45 = .ok (.invokevirtual 71, 3) := by decide +kernel
theorem dX8_set_48 : decode cX8_set 48 = .ok (.ireturn, 1) := by decide +kernel
theorem dX8_set_49 : decode cX8_set 49 = .ok (.aload_n 0, 1) := by decide +kernel
theorem dX8_set_50 : decode cX8_set 50 = .ok (.getfield 16, 3) := by decide +kernel
