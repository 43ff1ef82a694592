theorem dX8_knows_53 : decode cX8_knows 53 = .ok (.iload_n 3, 1) := by decide +kernel
theorem dX8_knows_54 : decode cX8_knows 54 = .ok (.ishl, 1) := by decide +kernel
theorem dX8_knows_55 : decode cX8_knows 55 = .ok (.goto 4, 3) := by decide +kernel
theorem dX8_knows_58 : decode cX8_knows 58 = .ok (.iconst 0, 1) := by decide +kernel
theorem dX8_knows_59 : decode cX8_knows 59 = .ok (.ior, 1) := by decide +kernel
theorem dX8_knows_60 : decode cX8_knows 60 = .ok (.istore_n 2, 1) := by decide +kernel
theorem dX8_knows_61 : decode cX8_knows 61 = .ok (.iinc 3 1, 3) := by decide +kernel
theorem dX8_knows_64 : decode cX8_knows 64 = .ok (.goto (-39), 3) := by decide +kernel
theorem dX8_knows_67 : decode cX8_knows 67 = .ok (.iload_n 2, 1) := by decide +kernel
theorem dX8_knows_68 : decode cX8_knows 68 = .ok (.ireturn, 1) := by decide +kernel
set_option maxRecDepth 20000 in
theorem ggX8_layAside_X8_copies : GoodIn wsX8_layAside wsX8_copies := goodIn_r _ [6] (by decide +kernel) (by decide +kernel)
set_option maxRecDepth 20000 in
theorem gX8_layAside_X8_copies : GoodIn wsX8_layAside (va_wsS RX8 135 yX8_copies wsX8_copies) := goodIn_app (goodIn_of _ (by decide +kernel)) ggX8_layAside_X8_copies
theorem dX8_layAside_0 : decode cX8_layAside 0 = .ok (.aload_n 0, 1) := by decide +kernel
theorem dX8_layAside_1 : decode cX8_layAside 1 = .ok (.getfield 19, 3) := by decide +kernel
theorem dX8_layAside_4 : decode cX8_layAside 4 = .ok (.iconst 0, 1) := by decide +kernel
theorem dX8_layAside_5 : decode cX8_layAside 5 = .ok (.aload_n 0, 1) := by decide +kernel
theorem dX8_layAside_6 : decode cX8_layAside 6 = .ok (.getfield 25, 3) := by decide +kernel
theorem dX8_layAside_9 : decode cX8_layAside 9 = .ok (.iconst 0, 1) := by decide +kernel
theorem dX8_layAside_10 : decode cX8_layAside 10 = .ok (.invokestatic 135, 3) := by decide +kernel
theorem dX8_layAside_13 : decode cX8_layAside 13 = .ok (.return_, 1) := by decide +kernel
set_option maxRecDepth 20000 in
theorem ggX8_go_X8_yearGoes : GoodIn wsX8_go wsX8_yearGoes := goodIn_r _ [6, 7, 8, 9, 5, 10, 11, 12, 13, 14, 15, 16, 17, 18, 19, 20, 21, 22, 23, 24, 25, 26, 27, 28, 29, 30, 31, 32, 33, 34, 35, 36, 37] (by decide +kernel) (by decide +kernel)
set_option maxRecDepth 20000 in
theorem gX8_go_X8_yearGoes : GoodIn wsX8_go (wsV RX8 169 RX8 yX8_yearGoes wsX8_yearGoes) := goodIn_app (goodIn_of _ (by decide +kernel)) ggX8_go_X8_yearGoes
theorem dX8_go_0 : decode cX8_go 0 = .ok (.iconst 0, 1) := by decide +kernel
theorem dX8_go_1 : decode cX8_go 1 = .ok (.istore_n 2, 1) := by decide +kernel
theorem dX8_go_2 : decode cX8_go 2 = .ok (.iload_n 2, 1) := by decide +kernel
theorem dX8_go_3 : decode cX8_go 3 = .ok (.iload_n 1, 1) := by decide +kernel
theorem dX8_go_4 : decode cX8_go 4 = .ok (.if_icmp .ge 17, 3) := by decide +kernel
theorem dX8_go_7 : decode cX8_go 7 = .ok (.aload_n 0, 1) := by decide +kernel
theorem dX8_go_8 : decode cX8_go 8 = .ok (.aload_n 0, 1) := by decide +kernel
theorem dX8_go_9 : decode cX8_go 9 = .ok (.getfield 25, 3) := by decide +kernel
theorem dX8_go_12 : decode cX8_go 12 = .ok (.invokevirtual 169, 3) := by decide +kernel
theorem dX8_go_15 : decode cX8_go 15 = .ok (.iinc 2 1, 3) := by decide +kernel
theorem dX8_go_18 : decode cX8_go 18 = .ok (.goto (-16), 3) := by decide +kernel
theorem dX8_go_21 : decode cX8_go 21 = .ok (.return_, 1) := by decide +kernel
set_option maxRecDepth 20000 in
theorem ggX8_ahead_X8_isThing : GoodIn wsX8_ahead wsX8_isThing := goodIn_r _ [7, 8, 9, 10, 6, 11, 38, 39, 40, 41, 42, 43, 44, 45, 46, 47, 48, 49, 50, 51, 52, 53, 54, 55, 56, 57, 58, 59, 60, 61] (by decide +kernel) (by decide +kernel)
set_option maxRecDepth 20000 in
theorem gX8_ahead_X8_isThing : GoodIn wsX8_ahead (wsV RX8 177 RX8 yX8_isThing wsX8_isThing) := goodIn_app (goodIn_of _ (by decide +kernel)) ggX8_ahead_X8_isThing
set_option maxRecDepth 20000 in
theorem ggX8_ahead_X8_isSpan : GoodIn wsX8_ahead wsX8_isSpan := goodIn_r _ [14, 15, 9, 10, 6, 11] (by decide +kernel) (by decide +kernel)
set_option maxRecDepth 20000 in
theorem gX8_ahead_X8_isSpan : GoodIn wsX8_ahead (va_wsS RX8 194 yX8_isSpan wsX8_isSpan) := goodIn_app (goodIn_of _ (by decide +kernel)) ggX8_ahead_X8_isSpan
set_option maxRecDepth 20000 in
theorem ggX8_ahead_X8_layAside : GoodIn wsX8_ahead wsX8_layAside := goodIn_r _ [19, 8, 2, 20, 21, 6, 22, 38, 39, 40, 41, 42, 43, 44, 45, 46, 47, 48, 49, 50, 51, 52, 53, 54, 55, 56, 57, 58, 59, 60, 61] (by decide +kernel) (by decide +kernel)
set_option maxRecDepth 20000 in
theorem gX8_ahead_X8_layAside : GoodIn wsX8_ahead (wsV RX8 197 RX8 yX8_layAside wsX8_layAside) := goodIn_app (goodIn_of _ (by decide +kernel)) ggX8_ahead_X8_layAside
set_option maxRecDepth 20000 in
theorem ggX8_ahead_X8_go : GoodIn wsX8_ahead wsX8_go := goodIn_r _ [26, 2, 27, 28, 29, 6, 30, 31, 32, 33, 34, 35, 36, 37, 38, 39, 40, 41, 42, 43, 44, 45, 46, 47, 48, 49, 50, 51, 52, 53, 54, 55, 56, 57, 58, 59, 60, 61] (by decide +kernel) (by decide +kernel)
set_option maxRecDepth 20000 in
theorem gX8_ahead_X8_go : GoodIn wsX8_ahead (wsV RX8 200 RX8 yX8_go wsX8_go) := goodIn_app (goodIn_of _ (by decide +kernel)) ggX8_ahead_X8_go
theorem dX8_ahead_0 : decode cX8_ahead 0 = .ok (.aload_n 0, 1) := by decide +kernel
theorem dX8_ahead_1 : decode cX8_ahead 1 = .ok (.iload_n 1, 1) := by decide +kernel
theorem dX8_ahead_2 : decode cX8_ahead 2 = .ok (.invokevirtual 177, 3) := by decide +kernel
theorem dX8_ahead_5 : decode cX8_ahead 5 = .ok (.ifCond .eq 10, 3) := by decide +kernel
theorem dX8_ahead_8 : decode cX8_ahead 8 = .ok (.iload_n 2, 1) := by decide +kernel
theorem dX8_ahead_9 : decode cX8_ahead 9 = .ok (.invokestatic 194, 3) := by decide +kernel
theorem dX8_ahead_12 : decode cX8_ahead 12 = .ok (.ifCond .ne 6, 3) := by decide +kernel
theorem dX8_ahead_15 : decode cX8_ahead 15 = .ok (.ldc 70, 2) := by decide +kernel
theorem dX8_ahead_17 : decode cX8_ahead 17 = .ok (.ireturn, 1) := by decide +kernel
theorem dX8_ahead_18 : decode cX8_ahead 18 = .ok (.aload_n 0, 1) := by decide +kernel
theorem dX8_ahead_19 : decode cX8_ahead 19 = .ok (.invokevirtual 197, 3) := by decide +kernel
theorem dX8_ahead_22 : decode cX8_ahead 22 = .ok (.aload_n 0, 1) := by decide +kernel
theorem dX8_ahead_23 : decode cX8_ahead 23 = .ok (.iload_n 2, 1) := by decide +kernel
theorem dX8_ahead_24 : decode cX8_ahead 24 = .ok (.invokevirtual 200, 3) := by decide +kernel
theorem dX8_ahead_27 : decode cX8_ahead 27 = .ok (.aload_n 0, 1) := by decide +kernel
theorem dX8_ahead_28 : decode cX8_ahead 28 = .ok (.getfield 25, 3) := by decide +kernel
theorem dX8_ahead_31 : decode cX8_ahead 31 = .ok (.bipush 13, 2) := by decide +kernel
theorem dX8_ahead_33 : decode cX8_ahead 33 = .ok (.iload_n 1, 1) := by decide +kernel
theorem dX8_ahead_34 : decode cX8_ahead 34 = .ok (.iadd, 1) := by decide +kernel
theorem dX8_ahead_35 : decode cX8_ahead 35 = .ok (.iaload, 1) := by decide +kernel
theorem dX8_ahead_36 : decode cX8_ahead 36 = .ok (.ireturn, 1) := by decide +kernel
set_option maxRecDepth 20000 in
theorem ggX8_up_X8_isMine : GoodIn wsX8_up wsX8_isMine := goodIn_r _ [8, 9, 42, 43, 44, 45, 46, 47, 48, 49, 50, 51, 52, 53, 54, 55, 56, 57, 58, 59, 60, 61, 62, 63, 64, 65] (by decide +kernel) (by decide +kernel)
set_option maxRecDepth 20000 in
theorem gX8_up_X8_isMine : GoodIn wsX8_up (wsV RX8 160 RX8 yX8_isMine wsX8_isMine) := goodIn_app (goodIn_of _ (by decide +kernel)) ggX8_up_X8_isMine
set_option maxRecDepth 20000 in
theorem ggX8_up_X8_isSpan : GoodIn wsX8_up wsX8_isSpan := goodIn_r _ [12, 13, 14, 15, 7, 16] (by decide +kernel) (by decide +kernel)
set_option maxRecDepth 20000 in
theorem gX8_up_X8_isSpan : GoodIn wsX8_up (va_wsS RX8 194 yX8_isSpan wsX8_isSpan) := goodIn_app (goodIn_of _ (by decide +kernel)) ggX8_up_X8_isSpan
set_option maxRecDepth 20000 in
theorem ggX8_up_X8_layAside : GoodIn wsX8_up wsX8_layAside := goodIn_r _ [20, 9, 3, 21, 22, 7, 23, 42, 43, 44, 45, 46, 47, 48, 49, 50, 51, 52, 53, 54, 55, 56, 57, 58, 59, 60, 61, 62, 63, 64, 65] (by decide +kernel) (by decide +kernel)
set_option maxRecDepth 20000 in
theorem gX8_up_X8_layAside : GoodIn wsX8_up (wsV RX8 197 RX8 yX8_layAside wsX8_layAside) := goodIn_app (goodIn_of _ (by decide +kernel)) ggX8_up_X8_layAside
set_option maxRecDepth 20000 in
theorem ggX8_up_X8_go : GoodIn wsX8_up wsX8_go := goodIn_r _ [27, 3, 28, 29, 30, 7, 31, 32, 33, 34, 35, 36, 37, 38, 42, 43, 44, 45, 46, 47, 48, 49, 50, 51, 52, 53, 54, 55, 56, 57, 58, 59, 60, 61, 62, 63, 64, 65] (by decide +kernel) (by decide +kernel)
set_option maxRecDepth 20000 in
theorem gX8_up_X8_go : GoodIn wsX8_up (wsV RX8 200 RX8 yX8_go wsX8_go) := goodIn_app (goodIn_of _ (by decide +kernel)) ggX8_up_X8_go
set_option maxRecDepth 20000 in
theorem ggX8_up_X8_upOf : GoodIn wsX8_up wsX8_upOf := goodIn_r _ [41, 36, 37, 7, 38] (by decide +kernel) (by decide +kernel)
set_option maxRecDepth 20000 in
theorem gX8_up_X8_upOf : GoodIn wsX8_up (va_wsS RX8 173 yX8_upOf wsX8_upOf) := goodIn_app (goodIn_of _ (by decide +kernel)) ggX8_up_X8_upOf
theorem dX8_up_0 : decode cX8_up 0 = .ok (.aload_n 0, 1) := by decide +kernel
theorem dX8_up_1 : decode cX8_up 1 = .ok (.invokevirtual 160, 3) := by decide +kernel
theorem dX8_up_4 : decode cX8_up 4 = .ok (.ifCond .ne 6, 3) := by decide +kernel
theorem dX8_up_7 : decode cX8_up 7 = .ok (.ldc 163, 2) := by decide +kernel
theorem dX8_up_9 : decode cX8_up 9 = .ok (.ireturn, 1) := by decide +kernel
theorem dX8_up_10 : decode cX8_up 10 = .ok (.iload_n 1, 1) := by decide +kernel
theorem dX8_up_11 : decode cX8_up 11 = .ok (.invokestatic 194, 3) := by decide +kernel
theorem dX8_up_14 : decode cX8_up 14 = .ok (.ifCond .ne 6, 3) := by decide +kernel
theorem dX8_up_17 : decode cX8_up 17 = .ok (.ldc 70, 2) := by decide +kernel
theorem dX8_up_19 : decode cX8_up 19 = .ok (.ireturn, 1) := by decide +kernel
theorem dX8_up_20 : decode cX8_up 20 = .ok (.aload_n 0, 1) := by decide +kernel
theorem dX8_up_21 : decode cX8_up 21 = .ok (.invokevirtual 197, 3) := by decide +kernel
theorem dX8_up_24 : decode cX8_up 24 = .ok (.aload_n 0, 1) := by decide +kernel
theorem dX8_up_25 : decode cX8_up 25 = .ok (.iload_n 1, 1) := by decide +kernel
theorem dX8_up_26 : decode cX8_up 26 = .ok (.invokevirtual 200, 3) := by decide +kernel
theorem dX8_up_29 : decode cX8_up 29 = .ok (.aload_n 0, 1) := by decide +kernel
theorem dX8_up_30 : decode cX8_up 30 = .ok (.getfield 25, 3) := by decide +kernel
theorem dX8_up_33 : decode cX8_up 33 = .ok (.invokestatic 173, 3) := by decide +kernel
theorem dX8_up_36 : decode cX8_up 36 = .ok (.ireturn, 1) := by decide +kernel
set_option maxRecDepth 20000 in
theorem ggX8_comesUp_X8_isThing : GoodIn wsX8_comesUp wsX8_isThing := goodIn_r _ [8, 9, 10, 11, 7, 12, 35, 36, 37, 38, 39, 40, 41, 42, 43, 44, 45, 46, 47, 48, 49, 50, 51, 52, 53, 54, 55, 56, 57, 58] (by decide +kernel) (by decide +kernel)
set_option maxRecDepth 20000 in
theorem gX8_comesUp_X8_isThing : GoodIn wsX8_comesUp (wsV RX8 177 RX8 yX8_isThing wsX8_isThing) := goodIn_app (goodIn_of _ (by decide +kernel)) ggX8_comesUp_X8_isThing
set_option maxRecDepth 20000 in
theorem ggX8_comesUp_X8_layAside : GoodIn wsX8_comesUp wsX8_layAside := goodIn_r _ [16, 9, 2, 17, 18, 7, 19, 35, 36, 37, 38, 39, 40, 41, 42, 43, 44, 45, 46, 47, 48, 49, 50, 51, 52, 53, 54, 55, 56, 57, 58] (by decide +kernel) (by decide +kernel)
set_option maxRecDepth 20000 in
theorem gX8_comesUp_X8_layAside : GoodIn wsX8_comesUp (wsV RX8 197 RX8 yX8_layAside wsX8_layAside) := goodIn_app (goodIn_of _ (by decide +kernel)) ggX8_comesUp_X8_layAside
set_option maxRecDepth 20000 in
theorem ggX8_comesUp_X8_lies : GoodIn wsX8_comesUp wsX8_lies := goodIn_r _ [22] (by decide +kernel) (by decide +kernel)
set_option maxRecDepth 20000 in
theorem gX8_comesUp_X8_lies : GoodIn wsX8_comesUp (va_wsS RX8 142 yX8_lies wsX8_lies) := goodIn_app (goodIn_of _ (by decide +kernel)) ggX8_comesUp_X8_lies
set_option maxRecDepth 20000 in
theorem ggX8_comesUp_X8_go : GoodIn wsX8_comesUp wsX8_go := goodIn_r _ [26, 2, 27, 28, 29, 7, 30, 31, 32, 33, 34, 20, 21, 22, 35, 36, 37, 38, 39, 40, 41, 42, 43, 44, 45, 46, 47, 48, 49, 50, 51, 52, 53, 54, 55, 56, 57, 58] (by decide +kernel) (by decide +kernel)
set_option maxRecDepth 20000 in
theorem gX8_comesUp_X8_go : GoodIn wsX8_comesUp (wsV RX8 200 RX8 yX8_go wsX8_go) := goodIn_app (goodIn_of _ (by decide +kernel)) ggX8_comesUp_X8_go
theorem dX8_comesUp_0 : decode cX8_comesUp 0 = .ok (.aload_n 0, 1) := by decide +kernel
theorem dX8_comesUp_1 : decode cX8_comesUp 1 = .ok (.iload_n 1, 1) := by decide +kernel
theorem dX8_comesUp_2 : decode cX8_comesUp 2 = .ok (.invokevirtual 177, 3) := by decide +kernel
theorem dX8_comesUp_5 : decode cX8_comesUp 5 = .ok (.ifCond .ne 6, 3) := by decide +kernel
theorem dX8_comesUp_8 : decode cX8_comesUp 8 = .ok (.ldc 70, 2) := by decide +kernel
theorem dX8_comesUp_10 : decode cX8_comesUp 10 = .ok (.ireturn, 1) := by decide +kernel
theorem dX8_comesUp_11 : decode cX8_comesUp 11 = .ok (.aload_n 0, 1) := by decide +kernel
theorem dX8_comesUp_12 : decode cX8_comesUp 12 = .ok (.invokevirtual 197, 3) := by decide +kernel
theorem dX8_comesUp_15 : decode cX8_comesUp 15 = .ok (.iconst 0, 1) := by decide +kernel
theorem dX8_comesUp_16 : decode cX8_comesUp 16 = .ok (.istore_n 2, 1) := by decide +kernel
theorem dX8_comesUp_17 : decode cX8_comesUp 17 = .ok (.iload_n 2, 1) := by decide +kernel
theorem dX8_comesUp_18 : decode cX8_comesUp 18 = .ok (.bipush 100, 2) := by decide +kernel
theorem dX8_comesUp_20 : decode cX8_comesUp 20 = .ok (.if_icmp .ge 27, 3) := by decide +kernel
theorem dX8_comesUp_23 : decode cX8_comesUp 23 = .ok (.aload_n 0, 1) := by decide +kernel
theorem dX8_comesUp_24 : decode cX8_comesUp 24 = .ok (.getfield 25, 3) := by decide +kernel
theorem dX8_comesUp_27 : decode cX8_comesUp 27 = .ok (.iload_n 1, 1) := by decide +kernel
theorem dX8_comesUp_28 : decode cX8_comesUp 28 = .ok (.invokestatic 142, 3) := by decide +kernel
theorem dX8_comesUp_31 : decode cX8_comesUp 31 = .ok (.ifCond .ne 5, 3) := by decide +kernel
theorem dX8_comesUp_34 : decode cX8_comesUp 34 = .ok (.iload_n 2, 1) := by decide +kernel
theorem dX8_comesUp_35 : decode cX8_comesUp 35 = .ok (.ireturn, 1) := by decide +kernel
theorem dX8_comesUp_36 : decode cX8_comesUp 36 = .ok (.aload_n 0, 1) := by decide +kernel
theorem dX8_comesUp_37 : decode cX8_comesUp 37 = .ok (.iconst 1, 1) := by decide +kernel
theorem dX8_comesUp_38 : decode cX8_comesUp 38 = .ok (.invokevirtual 200, 3) := by decide +kernel
theorem dX8_comesUp_41 : decode cX8_comesUp 41 = .ok (.iinc 2 1, 3) := by decide +kernel
theorem dX8_comesUp_44 : decode cX8_comesUp 44 = .ok (.goto (-27), 3) := by decide +kernel
theorem dX8_comesUp_47 : decode cX8_comesUp 47 = .ok (.ldc 157, 2) := by decide +kernel
theorem dX8_comesUp_49 : decode cX8_comesUp 49 = .ok (.ireturn, 1) := by decide +kernel
set_option maxRecDepth 20000 in
theorem ggX8_first_X8_isMine : GoodIn wsX8_first wsX8_isMine := goodIn_r _ [10, 3, 45, 46, 47, 48, 49, 50, 51, 52, 53, 54, 55, 56, 57, 58, 59, 60, 61, 62, 63, 64, 65, 66, 67, 68] (by decide +kernel) (by decide +kernel)
set_option maxRecDepth 20000 in
theorem gX8_first_X8_isMine : GoodIn wsX8_first (wsV RX8 160 RX8 yX8_isMine wsX8_isMine) := goodIn_app (goodIn_of _ (by decide +kernel)) ggX8_first_X8_isMine
set_option maxRecDepth 20000 in
theorem ggX8_first_X8_isTwo : GoodIn wsX8_first wsX8_isTwo := goodIn_r _ [13, 14, 15, 9, 16] (by decide +kernel) (by decide +kernel)
set_option maxRecDepth 20000 in
theorem gX8_first_X8_isTwo : GoodIn wsX8_first (va_wsS RX8 184 yX8_isTwo wsX8_isTwo) := goodIn_app (goodIn_of _ (by decide +kernel)) ggX8_first_X8_isTwo
set_option maxRecDepth 20000 in
theorem ggX8_first_X8_upOf : GoodIn wsX8_first wsX8_upOf := goodIn_r _ [19, 20, 21, 9, 22] (by decide +kernel) (by decide +kernel)
set_option maxRecDepth 20000 in
theorem gX8_first_X8_upOf : GoodIn wsX8_first (va_wsS RX8 173 yX8_upOf wsX8_upOf) := goodIn_app (goodIn_of _ (by decide +kernel)) ggX8_first_X8_upOf
set_option maxRecDepth 20000 in
theorem ggX8_first_X8_layAside : GoodIn wsX8_first wsX8_layAside := goodIn_r _ [26, 3, 4, 27, 28, 9, 29, 45, 46, 47, 48, 49, 50, 51, 52, 53, 54, 55, 56, 57, 58, 59, 60, 61, 62, 63, 64, 65, 66, 67, 68] (by decide +kernel) (by decide +kernel)
set_option maxRecDepth 20000 in
theorem gX8_first_X8_layAside : GoodIn wsX8_first (wsV RX8 197 RX8 yX8_layAside wsX8_layAside) := goodIn_app (goodIn_of _ (by decide +kernel)) ggX8_first_X8_layAside
set_option maxRecDepth 20000 in
theorem ggX8_first_X8_go : GoodIn wsX8_first wsX8_go := goodIn_r _ [33, 4, 34, 35, 36, 9, 37, 38, 39, 40, 41, 20, 21, 22, 45, 46, 47, 48, 49, 50, 51, 52, 53, 54, 55, 56, 57, 58, 59, 60, 61, 62, 63, 64, 65, 66, 67, 68] (by decide +kernel) (by decide +kernel)
set_option maxRecDepth 20000 in
theorem gX8_first_X8_go : GoodIn wsX8_first (wsV RX8 200 RX8 yX8_go wsX8_go) := goodIn_app (goodIn_of _ (by decide +kernel)) ggX8_first_X8_go
set_option maxRecDepth 20000 in
theorem ggX8_first_X8_has : GoodIn wsX8_first wsX8_has := goodIn_r _ [44] (by decide +kernel) (by decide +kernel)
set_option maxRecDepth 20000 in
theorem gX8_first_X8_has : GoodIn wsX8_first (va_wsS RX8 187 yX8_has wsX8_has) := goodIn_app (goodIn_of _ (by decide +kernel)) ggX8_first_X8_has
theorem dX8_first_0 : decode cX8_first 0 = .ok (.aload_n 0, 1) := by decide +kernel
theorem dX8_first_1 : decode cX8_first 1 = .ok (.invokevirtual 160, 3) := by decide +kernel
theorem dX8_first_4 : decode cX8_first 4 = .ok (.ifCond .ne 6, 3) := by decide +kernel
theorem dX8_first_7 : decode cX8_first 7 = .ok (.ldc 163, 2) := by decide +kernel
theorem dX8_first_9 : decode cX8_first 9 = .ok (.ireturn, 1) := by decide +kernel
theorem dX8_first_10 : decode cX8_first 10 = .ok (.iload_n 1, 1) := by decide +kernel
theorem dX8_first_11 : decode cX8_first 11 = .ok (.invokestatic 184, 3) := by decide +kernel
theorem dX8_first_14 : decode cX8_first 14 = .ok (.ifCond .ne 6, 3) := by decide +kernel
theorem dX8_first_17 : decode cX8_first 17 = .ok (.ldc 70, 2) := by decide +kernel
theorem dX8_first_19 : decode cX8_first 19 = .ok (.ireturn, 1) := by decide +kernel
theorem dX8_first_20 : decode cX8_first 20 = .ok (.aload_n 0, 1) := by decide +kernel
theorem dX8_first_21 : decode cX8_first 21 = .ok (.getfield 19, 3) := by decide +kernel
theorem dX8_first_24 : decode cX8_first 24 = .ok (.invokestatic 173, 3) := by decide +kernel
theorem dX8_first_27 : decode cX8_first 27 = .ok (.istore_n 2, 1) := by decide +kernel
theorem dX8_first_28 : decode cX8_first 28 = .ok (.aload_n 0, 1) := by decide +kernel
theorem dX8_first_29 : decode cX8_first 29 = .ok (.invokevirtual 197, 3) := by decide +kernel
theorem dX8_first_32 : decode cX8_first 32 = .ok (.iconst 1, 1) := by decide +kernel
theorem dX8_first_33 : decode cX8_first 33 = .ok (.istore_n 3, 1) := by decide +kernel
theorem dX8_first_34 : decode cX8_first 34 = .ok (.iload_n 3, 1) := by decide +kernel
theorem dX8_first_35 : decode cX8_first 35 = .ok (.bipush 100, 2) := by decide +kernel
theorem dX8_first_37 : decode cX8_first 37 = .ok (.if_icmp .ge 63, 3) := by decide +kernel
theorem dX8_first_40 : decode cX8_first 40 = .ok (.aload_n 0, 1) := by decide +kernel
theorem dX8_first_41 : decode cX8_first 41 = .ok (.iconst 1, 1) := by decide +kernel
theorem dX8_first_42 : decode cX8_first 42 = .ok (.invokevirtual 200, 3) := by decide +kernel
theorem dX8_first_45 : decode cX8_first 45 = .ok (.aload_n 0, 1) := by decide +kernel
theorem dX8_first_46 : decode cX8_first 46 = .ok (.getfield 25, 3) := by decide +kernel
theorem dX8_first_49 : decode cX8_first 49 = .ok (.invokestatic 173, 3) := by decide +kernel
theorem dX8_first_52 : decode cX8_first 52 = .ok (.iload_n 2, 1) := by decide +kernel
theorem dX8_first_53 : decode cX8_first 53 = .ok (.iconst (-1), 1) := by decide +kernel
theorem dX8_first_54 : decode cX8_first 54 = .ok (.ixor, 1) := by decide +kernel
theorem dX8_first_55 : decode cX8_first 55 = .ok (.iand, 1) := by decide +kernel
theorem dX8_first_56 : decode cX8_first 56 = .ok (.istore 4, 2) := by decide +kernel
theorem dX8_first_58 : decode cX8_first 58 = .ok (.iconst 0, 1) := by decide +kernel
theorem dX8_first_59 : decode cX8_first 59 = .ok (.istore 5, 2) := by decide +kernel
theorem dX8_first_61 : decode cX8_first 61 = .ok (.iload 5, 2) := by decide +kernel
theorem dX8_first_63 : decode cX8_first 63 = .ok (.iconst 5, 1) := by decide +kernel
theorem dX8_first_64 : decode cX8_first 64 = .ok (.if_icmp .ge 30, 3) := by decide +kernel
theorem dX8_first_67 : decode cX8_first 67 = .ok (.iload 4, 2) := by decide +kernel
theorem dX8_first_69 : decode cX8_first 69 = .ok (.iload 5, 2) := by decide +kernel
theorem dX8_first_71 : decode cX8_first 71 = .ok (.invokestatic 187, 3) := by decide +kernel
theorem dX8_first_74 : decode cX8_first 74 = .ok (.ifCond .eq 14, 3) := by decide +kernel
theorem dX8_first_77 : decode cX8_first 77 = .ok (.iload_n 1, 1) := by decide +kernel
theorem dX8_first_78 : decode cX8_first 78 = .ok (.ifCond .ne 8, 3) := by decide +kernel
theorem dX8_first_81 : decode cX8_first 81 = .ok (.iload 5, 2) := by decide +kernel
theorem dX8_first_83 : decode cX8_first 83 = .ok (.goto 4, 3) := by decide +kernel
theorem dX8_first_86 : decode cX8_first 86 = .ok (.iload_n 3, 1) := by decide +kernel
theorem dX8_first_87 : decode cX8_first 87 = .ok (.ireturn, 1) := by decide +kernel
theorem dX8_first_88 : decode cX8_first 88 = .ok (.iinc 5 1, 3) := by decide +kernel
theorem dX8_first_91 : decode cX8_first 91 = .ok (.goto (-30), 3) := by decide +kernel
theorem dX8_first_94 : decode cX8_first 94 = .ok (.iinc 3 1, 3) := by decide +kernel
theorem dX8_first_97 : decode cX8_first 97 = .ok (.goto (-63), 3) := by decide +kernel
theorem dX8_first_100 : decode cX8_first 100 = .ok (.ldc 157, 2) := by decide +kernel
theorem dX8_first_102 : decode cX8_first 102 = .ok (.ireturn, 1) := by decide +kernel
set_option maxRecDepth 20000 in
theorem ggX8_trouble_X8_isMine : GoodIn wsX8_trouble wsX8_isMine := goodIn_r _ [9, 10, 48, 49, 50, 51, 52, 53, 54, 55, 56, 57, 58, 59, 60, 61, 62, 63, 64, 65, 66, 67, 68, 69, 70, 71] (by decide +kernel) (by decide +kernel)
set_option maxRecDepth 20000 in
theorem gX8_trouble_X8_isMine : GoodIn wsX8_trouble (wsV RX8 160 RX8 yX8_isMine wsX8_isMine) := goodIn_app (goodIn_of _ (by decide +kernel)) ggX8_trouble_X8_isMine
set_option maxRecDepth 20000 in
theorem ggX8_trouble_X8_isTwo : GoodIn wsX8_trouble wsX8_isTwo := goodIn_r _ [13, 14, 15, 8, 16] (by decide +kernel) (by decide +kernel)
set_option maxRecDepth 20000 in
theorem gX8_trouble_X8_isTwo : GoodIn wsX8_trouble (va_wsS RX8 184 yX8_isTwo wsX8_isTwo) := goodIn_app (goodIn_of _ (by decide +kernel)) ggX8_trouble_X8_isTwo
set_option maxRecDepth 20000 in
theorem ggX8_trouble_X8_layAside : GoodIn wsX8_trouble wsX8_layAside := goodIn_r _ [20, 10, 3, 21, 22, 8, 23, 48, 49, 50, 51, 52, 53, 54, 55, 56, 57, 58, 59, 60, 61, 62, 63, 64, 65, 66, 67, 68, 69, 70, 71] (by decide +kernel) (by decide +kernel)
set_option maxRecDepth 20000 in
theorem gX8_trouble_X8_layAside : GoodIn wsX8_trouble (wsV RX8 197 RX8 yX8_layAside wsX8_layAside) := goodIn_app (goodIn_of _ (by decide +kernel)) ggX8_trouble_X8_layAside
set_option maxRecDepth 20000 in
theorem ggX8_trouble_X8_twoOf : GoodIn wsX8_trouble wsX8_twoOf := goodIn_r _ [26, 4, 27, 28, 8, 29, 30, 31, 32, 33, 34, 35] (by decide +kernel) (by decide +kernel)
set_option maxRecDepth 20000 in
theorem gX8_trouble_X8_twoOf : GoodIn wsX8_trouble (va_wsS RX8 204 yX8_twoOf wsX8_twoOf) := goodIn_app (goodIn_of _ (by decide +kernel)) ggX8_trouble_X8_twoOf
set_option maxRecDepth 20000 in
theorem ggX8_trouble_X8_go : GoodIn wsX8_trouble wsX8_go := goodIn_r _ [39, 3, 40, 41, 42, 8, 43, 44, 45, 46, 47, 30, 31, 32, 48, 49, 50, 51, 52, 53, 54, 55, 56, 57, 58, 59, 60, 61, 62, 63, 64, 65, 66, 67, 68, 69, 70, 71] (by decide +kernel) (by decide +kernel)
set_option maxRecDepth 20000 in
theorem gX8_trouble_X8_go : GoodIn wsX8_trouble (wsV RX8 200 RX8 yX8_go wsX8_go) := goodIn_app (goodIn_of _ (by decide +kernel)) ggX8_trouble_X8_go
theorem dX8_trouble_0 : decode cX8_trouble 0 = .ok (.aload_n 0, 1) := by decide +kernel
theorem dX8_trouble_1 : decode cX8_trouble 1 = .ok (.invokevirtual 160, 3) := by decide +kernel
theorem dX8_trouble_4 : decode cX8_trouble 4 = .ok (.ifCond .ne 6, 3) := by decide +kernel
theorem dX8_trouble_7 : decode cX8_trouble 7 = .ok (.ldc 163, 2) := by decide +kernel
theorem dX8_trouble_9 : decode cX8_trouble 9 = .ok (.ireturn, 1) := by decide +kernel
theorem dX8_trouble_10 : decode cX8_trouble 10 = .ok (.iload_n 1, 1) := by decide +kernel
theorem dX8_trouble_11 : decode cX8_trouble 11 = .ok (.invokestatic 184, 3) := by decide +kernel
theorem dX8_trouble_14 : decode cX8_trouble 14 = .ok (.ifCond .ne 6, 3) := by decide +kernel
theorem dX8_trouble_17 : decode cX8_trouble 17 = .ok (.ldc 70, 2) := by decide +kernel
theorem dX8_trouble_19 : decode cX8_trouble 19 = .ok (.ireturn, 1) := by decide +kernel
theorem dX8_trouble_20 : decode cX8_trouble 20 = .ok (.aload_n 0, 1) := by decide +kernel
theorem dX8_trouble_21 : decode cX8_trouble 21 = .ok (.invokevirtual 197, 3) := by decide +kernel
theorem dX8_trouble_24 : decode cX8_trouble 24 = .ok (.iconst 0, 1) := by decide +kernel
theorem dX8_trouble_25 : decode cX8_trouble 25 = .ok (.istore_n 2, 1) := by decide +kernel
theorem dX8_trouble_26 : decode cX8_trouble 26 = .ok (.iload_n 2, 1) := by decide +kernel
theorem dX8_trouble_27 : decode cX8_trouble 27 = .ok (.bipush 100, 2) := by decide +kernel
theorem dX8_trouble_29 : decode cX8_trouble 29 = .ok (.if_icmp .ge 38, 3) := by decide +kernel
theorem dX8_trouble_32 : decode cX8_trouble 32 = .ok (.aload_n 0, 1) := by decide +kernel
theorem dX8_trouble_33 : decode cX8_trouble 33 = .ok (.getfield 25, 3) := by decide +kernel
theorem dX8_trouble_36 : decode cX8_trouble 36 = .ok (.invokestatic 204, 3) := by decide +kernel
theorem dX8_trouble_39 : decode cX8_trouble 39 = .ok (.istore_n 3, 1) := by decide +kernel
theorem dX8_trouble_40 : decode cX8_trouble 40 = .ok (.iload_n 3, 1) := by decide +kernel
theorem dX8_trouble_41 : decode cX8_trouble 41 = .ok (.ldc 157, 2) := by decide +kernel
theorem dX8_trouble_43 : decode cX8_trouble 43 = .ok (.if_icmp .eq 13, 3) := by decide +kernel
theorem dX8_trouble_46 : decode cX8_trouble 46 = .ok (.iload_n 1, 1) := by decide +kernel
theorem dX8_trouble_47 : decode cX8_trouble 47 = .ok (.ifCond .ne 7, 3) := by decide +kernel
theorem dX8_trouble_50 : decode cX8_trouble 50 = .ok (.iload_n 2, 1) := by decide +kernel
theorem dX8_trouble_51 : decode cX8_trouble 51 = .ok (.goto 4, 3) := by decide +kernel
theorem dX8_trouble_54 : decode cX8_trouble 54 = .ok (.iload_n 3, 1) := by decide +kernel
theorem dX8_trouble_55 : decode cX8_trouble 55 = .ok (.ireturn, 1) := by decide +kernel
theorem dX8_trouble_56 : decode cX8_trouble 56 = .ok (.aload_n 0, 1) := by decide +kernel
theorem dX8_trouble_57 : decode cX8_trouble 57 = .ok (.iconst 1, 1) := by decide +kernel
theorem dX8_trouble_58 : decode cX8_trouble 58 = .ok (.invokevirtual 200, 3) := by decide +kernel
theorem dX8_trouble_61 : decode cX8_trouble 61 = .ok (.iinc 2 1, 3) := by decide +kernel
theorem dX8_trouble_64 : decode cX8_trouble 64 = .ok (.goto (-38), 3) := by decide +kernel
theorem dX8_trouble_67 : decode cX8_trouble 67 = .ok (.ldc 157, 2) := by decide +kernel
theorem dX8_trouble_69 : decode cX8_trouble 69 = .ok (.ireturn, 1) := by decide +kernel
set_option maxRecDepth 20000 in
theorem ggX8_rests_X8_upOf : GoodIn wsX8_rests wsX8_upOf := goodIn_r _ [7, 8, 9, 6, 10] (by decide +kernel) (by decide +kernel)
set_option maxRecDepth 20000 in
theorem gX8_rests_X8_upOf : GoodIn wsX8_rests (va_wsS RX8 173 yX8_upOf wsX8_upOf) := goodIn_app (goodIn_of _ (by decide +kernel)) ggX8_rests_X8_upOf
set_option maxRecDepth 20000 in
theorem ggX8_rests_X8_twoOf : GoodIn wsX8_rests wsX8_twoOf := goodIn_r _ [13, 3, 14, 15, 6, 16, 8, 9, 10, 17, 18, 19] (by decide +kernel) (by decide +kernel)
set_option maxRecDepth 20000 in
theorem gX8_rests_X8_twoOf : GoodIn wsX8_rests (va_wsS RX8 204 yX8_twoOf wsX8_twoOf) := goodIn_app (goodIn_of _ (by decide +kernel)) ggX8_rests_X8_twoOf
set_option maxRecDepth 20000 in
theorem ggX8_rests_X8_go : GoodIn wsX8_rests wsX8_go := goodIn_r _ [23, 2, 24, 25, 26, 6, 27, 28, 29, 30, 31, 8, 9, 10, 32, 33, 34, 35, 36, 37, 38, 39, 40, 41, 42, 43, 44, 45, 46, 47, 48, 49, 50, 51, 52, 53, 54, 55] (by decide +kernel) (by decide +kernel)
set_option maxRecDepth 20000 in
theorem gX8_rests_X8_go : GoodIn wsX8_rests (wsV RX8 200 RX8 yX8_go wsX8_go) := goodIn_app (goodIn_of _ (by decide +kernel)) ggX8_rests_X8_go
theorem dX8_rests_0 : decode cX8_rests 0 = .ok (.aload_n 0, 1) := by decide +kernel
theorem dX8_rests_1 : decode cX8_rests 1 = .ok (.getfield 19, 3) := by decide +kernel
theorem dX8_rests_4 : decode cX8_rests 4 = .ok (.invokestatic 173, 3) := by decide +kernel
theorem dX8_rests_7 : decode cX8_rests 7 = .ok (.istore_n 2, 1) := by decide +kernel
theorem dX8_rests_8 : decode cX8_rests 8 = .ok (.iconst 0, 1) := by decide +kernel
theorem dX8_rests_9 : decode cX8_rests 9 = .ok (.istore_n 3, 1) := by decide +kernel
theorem dX8_rests_10 : decode cX8_rests 10 = .ok (.iload_n 3, 1) := by decide +kernel
theorem dX8_rests_11 : decode cX8_rests 11 = .ok (.iload_n 1, 1) := by decide +kernel
theorem dX8_rests_12 : decode cX8_rests 12 = .ok (.if_icmp .gt 39, 3) := by decide +kernel
theorem dX8_rests_15 : decode cX8_rests 15 = .ok (.aload_n 0, 1) := by decide +kernel
theorem dX8_rests_16 : decode cX8_rests 16 = .ok (.getfield 25, 3) := by decide +kernel
theorem dX8_rests_19 : decode cX8_rests 19 = .ok (.invokestatic 204, 3) := by decide +kernel
theorem dX8_rests_22 : decode cX8_rests 22 = .ok (.ldc 157, 2) := by decide +kernel
theorem dX8_rests_24 : decode cX8_rests 24 = .ok (.if_icmp .ne 14, 3) := by decide +kernel
theorem dX8_rests_27 : decode cX8_rests 27 = .ok (.aload_n 0, 1) := by decide +kernel
theorem dX8_rests_28 : decode cX8_rests 28 = .ok (.getfield 25, 3) := by decide +kernel
theorem dX8_rests_31 : decode cX8_rests 31 = .ok (.invokestatic 173, 3) := by decide +kernel
theorem dX8_rests_34 : decode cX8_rests 34 = .ok (.iload_n 2, 1) := by decide +kernel
theorem dX8_rests_35 : decode cX8_rests 35 = .ok (.if_icmp .eq 5, 3) := by decide +kernel
theorem dX8_rests_38 : decode cX8_rests 38 = .ok (.iconst 0, 1) := by decide +kernel
theorem dX8_rests_39 : decode cX8_rests 39 = .ok (.ireturn, 1) := by decide +kernel
theorem dX8_rests_40 : decode cX8_rests 40 = .ok (.aload_n 0, 1) := by decide +kernel
theorem dX8_rests_41 : decode cX8_rests 41 = .ok (.iconst 1, 1) := by decide +kernel
theorem dX8_rests_42 : decode cX8_rests 42 = .ok (.invokevirtual 200, 3) := by decide +kernel
theorem dX8_rests_45 : decode cX8_rests 45 = .ok (.iinc 3 1, 3) := by decide +kernel
theorem dX8_rests_48 : decode cX8_rests 48 = .ok (.goto (-38), 3) := by decide +kernel
theorem dX8_rests_51 : decode cX8_rests 51 = .ok (.iconst 1, 1) := by decide +kernel
theorem dX8_rests_52 : decode cX8_rests 52 = .ok (.ireturn, 1) := by decide +kernel
set_option maxRecDepth 20000 in
theorem ggX8_layPlaces_X8_layAside : GoodIn wsX8_layPlaces wsX8_layAside := goodIn_r _ [9, 1, 4, 10, 11, 8, 12, 16, 17, 18, 19, 20, 21, 22, 23, 24, 25, 26, 27, 28, 29, 30, 31, 32, 33, 34, 35, 36, 37, 38, 39] (by decide +kernel) (by decide +kernel)
set_option maxRecDepth 20000 in
theorem gX8_layPlaces_X8_layAside : GoodIn wsX8_layPlaces (wsV RX8 197 RX8 yX8_layAside wsX8_layAside) := goodIn_app (goodIn_of _ (by decide +kernel)) ggX8_layPlaces_X8_layAside
set_option maxRecDepth 20000 in
theorem ggX8_layPlaces_X8_lies : GoodIn wsX8_layPlaces wsX8_lies := goodIn_r _ [15] (by decide +kernel) (by decide +kernel)
set_option maxRecDepth 20000 in
theorem gX8_layPlaces_X8_lies : GoodIn wsX8_layPlaces (va_wsS RX8 142 yX8_lies wsX8_lies) := goodIn_app (goodIn_of _ (by decide +kernel)) ggX8_layPlaces_X8_lies
theorem dX8_layPlaces_0 : decode cX8_layPlaces 0 = .ok (.iload_n 1, 1) := by decide +kernel
theorem dX8_layPlaces_1 : decode cX8_layPlaces 1 = .ok (.istore_n 2, 1) := by decide +kernel
theorem dX8_layPlaces_2 : decode cX8_layPlaces 2 = .ok (.iconst 0, 1) := by decide +kernel
theorem dX8_layPlaces_3 : decode cX8_layPlaces 3 = .ok (.istore_n 3, 1) := by decide +kernel
theorem dX8_layPlaces_4 : decode cX8_layPlaces 4 = .ok (.aload_n 0, 1) := by decide +kernel
theorem dX8_layPlaces_5 : decode cX8_layPlaces 5 = .ok (.invokevirtual 197, 3) := by decide +kernel
theorem dX8_layPlaces_8 : decode cX8_layPlaces 8 = .ok (.aload_n 0, 1) := by decide +kernel
theorem dX8_layPlaces_9 : decode cX8_layPlaces 9 = .ok (.getfield 19, 3) := by decide +kernel
theorem dX8_layPlaces_12 : decode cX8_layPlaces 12 = .ok (.iconst 0, 1) := by decide +kernel
theorem dX8_layPlaces_13 : decode cX8_layPlaces 13 = .ok (.iaload, 1) := by decide +kernel
theorem dX8_layPlaces_14 : decode cX8_layPlaces 14 = .ok (.iconst 1, 1) := by decide +kernel
theorem dX8_layPlaces_15 : decode cX8_layPlaces 15 = .ok (.isub, 1) := by decide +kernel
theorem dX8_layPlaces_16 : decode cX8_layPlaces 16 = .ok (.istore 4, 2) := by decide +kernel
theorem dX8_layPlaces_18 : decode cX8_layPlaces 18 = .ok (.iload 4, 2) := by decide +kernel
theorem dX8_layPlaces_20 : decode cX8_layPlaces 20 = .ok (.ifCond .lt 97, 3) := by decide +kernel
theorem dX8_layPlaces_23 : decode cX8_layPlaces 23 = .ok (.aload_n 0, 1) := by decide +kernel
theorem dX8_layPlaces_24 : decode cX8_layPlaces 24 = .ok (.getfield 47, 3) := by decide +kernel
theorem dX8_layPlaces_27 : decode cX8_layPlaces 27 = .ok (.iload 4, 2) := by decide +kernel
theorem dX8_layPlaces_29 : decode cX8_layPlaces 29 = .ok (.iload_n 2, 1) := by decide +kernel
theorem dX8_layPlaces_30 : decode cX8_layPlaces 30 = .ok (.iconst 4, 1) := by decide +kernel
theorem dX8_layPlaces_31 : decode cX8_layPlaces 31 = .ok (.irem, 1) := by decide +kernel
theorem dX8_layPlaces_32 : decode cX8_layPlaces 32 = .ok (.iastore, 1) := by decide +kernel
theorem dX8_layPlaces_33 : decode cX8_layPlaces 33 = .ok (.iload_n 2, 1) := by decide +kernel
theorem dX8_layPlaces_34 : decode cX8_layPlaces 34 = .ok (.iconst 4, 1) := by decide +kernel
theorem dX8_layPlaces_35 : decode cX8_layPlaces 35 = .ok (.idiv, 1) := by decide +kernel
theorem dX8_layPlaces_36 : decode cX8_layPlaces 36 = .ok (.istore_n 2, 1) := by decide +kernel
theorem dX8_layPlaces_37 : decode cX8_layPlaces 37 = .ok (.aload_n 0, 1) := by decide +kernel
theorem dX8_layPlaces_38 : decode cX8_layPlaces 38 = .ok (.getfield 47, 3) := by decide +kernel
theorem dX8_layPlaces_41 : decode cX8_layPlaces 41 = .ok (.iload 4, 2) := by decide +kernel
theorem dX8_layPlaces_43 : decode cX8_layPlaces 43 = .ok (.iaload, 1) := by decide +kernel
theorem dX8_layPlaces_44 : decode cX8_layPlaces 44 = .ok (.aload_n 0, 1) := by decide +kernel
theorem dX8_layPlaces_45 : decode cX8_layPlaces 45 = .ok (.getfield 19, 3) := by decide +kernel
theorem dX8_layPlaces_48 : decode cX8_layPlaces 48 = .ok (.bipush 18, 2) := by decide +kernel
theorem dX8_layPlaces_50 : decode cX8_layPlaces 50 = .ok (.iload 4, 2) := by decide +kernel
theorem dX8_layPlaces_52 : decode cX8_layPlaces 52 = .ok (.iadd, 1) := by decide +kernel
theorem dX8_layPlaces_53 : decode cX8_layPlaces 53 = .ok (.iaload, 1) := by decide +kernel
theorem dX8_layPlaces_54 : decode cX8_layPlaces 54 = .ok (.if_icmp .eq 7, 3) := by decide +kernel
theorem dX8_layPlaces_57 : decode cX8_layPlaces 57 = .ok (.iconst 1, 1) := by decide +kernel
theorem dX8_layPlaces_58 : decode cX8_layPlaces 58 = .ok (.goto 4, 3) := by decide +kernel
theorem dX8_layPlaces_61 : decode cX8_layPlaces 61 = .ok (.iconst 0, 1) := by decide +kernel
theorem dX8_layPlaces_62 : decode cX8_layPlaces 62 = .ok (.istore 5, 2) := by decide +kernel
theorem dX8_layPlaces_64 : decode cX8_layPlaces 64 = .ok (.iload_n 3, 1) := by decide +kernel
theorem dX8_layPlaces_65 : decode cX8_layPlaces 65 = .ok (.iload 5, 2) := by decide +kernel
theorem dX8_layPlaces_67 : decode cX8_layPlaces 67 = .ok (.ifCond .ne 7, 3) := by decide +kernel
theorem dX8_layPlaces_70 : decode cX8_layPlaces 70 = .ok (.iconst 0, 1) := by decide +kernel
theorem dX8_layPlaces_71 : decode cX8_layPlaces 71 = .ok (.goto 21, 3) := by decide +kernel
theorem dX8_layPlaces_74 : decode cX8_layPlaces 74 = .ok (.aload_n 0, 1) := by decide +kernel
theorem dX8_layPlaces_75 : decode cX8_layPlaces 75 = .ok (.getfield 19, 3) := by decide +kernel
theorem dX8_layPlaces_78 : decode cX8_layPlaces 78 = .ok (.iload 4, 2) := by decide +kernel
theorem dX8_layPlaces_80 : decode cX8_layPlaces 80 = .ok (.invokestatic 142, 3) := by decide +kernel
theorem dX8_layPlaces_83 : decode cX8_layPlaces 83 = .ok (.ifCond .eq 7, 3) := by decide +kernel
theorem dX8_layPlaces_86 : decode cX8_layPlaces 86 = .ok (.iconst 1, 1) := by decide +kernel
theorem dX8_layPlaces_87 : decode cX8_layPlaces 87 = .ok (.goto 5, 3) := by decide +kernel
theorem dX8_layPlaces_90 : decode cX8_layPlaces 90 = .ok (.ldc 207, 2) := by decide +kernel
theorem dX8_layPlaces_92 : decode cX8_layPlaces 92 = .ok (.iadd, 1) := by decide +kernel
theorem dX8_layPlaces_93 : decode cX8_layPlaces 93 = .ok (.istore_n 3, 1) := by decide +kernel
theorem dX8_layPlaces_94 : decode cX8_layPlaces 94 = .ok (.aload_n 0, 1) := by decide +kernel
theorem dX8_layPlaces_95 : decode cX8_layPlaces 95 = .ok (.getfield 25, 3) := by decide +kernel
theorem dX8_layPlaces_98 : decode cX8_layPlaces 98 = .ok (.bipush 18, 2) := by decide +kernel
theorem dX8_layPlaces_100 : decode cX8_layPlaces 100 = .ok (.iload 4, 2) := by decide +kernel
theorem dX8_layPlaces_102 : decode cX8_layPlaces 102 = .ok (.iadd, 1) := by decide +kernel
theorem dX8_layPlaces_103 : decode cX8_layPlaces 103 = .ok (.aload_n 0, 1) := by decide +kernel
theorem dX8_layPlaces_104 : decode cX8_layPlaces 104 = .ok (.getfield 47, 3) := by decide +kernel
theorem dX8_layPlaces_107 : decode cX8_layPlaces 107 = .ok (.iload 4, 2) := by decide +kernel
theorem dX8_layPlaces_109 : decode cX8_layPlaces 109 = .ok (.iaload, 1) := by decide +kernel
theorem dX8_layPlaces_110 : decode cX8_layPlaces 110 = .ok (.iastore, 1) := by decide +kernel
theorem dX8_layPlaces_111 : decode cX8_layPlaces 111 = .ok (.iinc 4 (-1), 3) := by decide +kernel
theorem dX8_layPlaces_114 : decode cX8_layPlaces 114 = .ok (.goto (-96), 3) := by decide +kernel
theorem dX8_layPlaces_117 : decode cX8_layPlaces 117 = .ok (.iload_n 3, 1) := by decide +kernel
theorem dX8_layPlaces_118 : decode cX8_layPlaces 118 = .ok (.ireturn, 1) := by decide +kernel
set_option maxRecDepth 20000 in
theorem ggX8_lay_X8_isMine : GoodIn wsX8_lay wsX8_isMine := goodIn_r _ [14, 6, 69, 70, 71, 72, 73, 74, 75, 76, 77, 78, 79, 80, 81, 82, 83, 84, 85, 86, 87, 88, 89, 90, 91, 92] (by decide +kernel) (by decide +kernel)
set_option maxRecDepth 20000 in
theorem gX8_lay_X8_isMine : GoodIn wsX8_lay (wsV RX8 160 RX8 yX8_isMine wsX8_isMine) := goodIn_app (goodIn_of _ (by decide +kernel)) ggX8_lay_X8_isMine
set_option maxRecDepth 20000 in
theorem ggX8_lay_X8_isSpan : GoodIn wsX8_lay wsX8_isSpan := goodIn_r _ [17, 18, 19, 20, 13, 21] (by decide +kernel) (by decide +kernel)
set_option maxRecDepth 20000 in
theorem gX8_lay_X8_isSpan : GoodIn wsX8_lay (va_wsS RX8 194 yX8_isSpan wsX8_isSpan) := goodIn_app (goodIn_of _ (by decide +kernel)) ggX8_lay_X8_isSpan
set_option maxRecDepth 20000 in
theorem ggX8_lay_X8_in : GoodIn wsX8_lay wsX8_in := goodIn_r _ [21] (by decide +kernel) (by decide +kernel)
set_option maxRecDepth 20000 in
theorem gX8_lay_X8_in : GoodIn wsX8_lay (va_wsS RX8 60 yX8_in wsX8_in) := goodIn_app (goodIn_of _ (by decide +kernel)) ggX8_lay_X8_in
set_option maxRecDepth 20000 in
theorem ggX8_lay_X8_layPlaces : GoodIn wsX8_lay wsX8_layPlaces := goodIn_r _ [25, 6, 8, 5, 26, 27, 28, 29, 13, 30, 31, 32, 33, 34, 35, 36, 69, 70, 71, 72, 73, 74, 75, 76, 77, 78, 79, 80, 81, 82, 83, 84, 85, 86, 87, 88, 89, 90, 91, 92] (by decide +kernel) (by decide +kernel)
set_option maxRecDepth 20000 in
theorem gX8_lay_X8_layPlaces : GoodIn wsX8_lay (wsV RX8 212 RX8 yX8_layPlaces wsX8_layPlaces) := goodIn_app (goodIn_of _ (by decide +kernel)) ggX8_lay_X8_layPlaces
set_option maxRecDepth 20000 in
theorem ggX8_lay_X8_rests : GoodIn wsX8_lay wsX8_rests := goodIn_r _ [40, 6, 26, 9, 41, 42, 13, 43, 34, 35, 36, 44, 45, 46, 47, 48, 49, 50, 51, 52, 53, 54, 55, 56, 57, 58, 59, 60, 61, 62, 63, 64, 69, 70, 71, 72, 73, 74, 75, 76, 77, 78, 79, 80, 81, 82, 83, 84, 85, 86, 87, 88, 89, 90, 91, 92] (by decide +kernel) (by decide +kernel)
set_option maxRecDepth 20000 in
theorem gX8_lay_X8_rests : GoodIn wsX8_lay (wsV RX8 215 RX8 yX8_rests wsX8_rests) := goodIn_app (goodIn_of _ (by decide +kernel)) ggX8_lay_X8_rests
set_option maxRecDepth 20000 in
theorem ggX8_lay_X8_isThing : GoodIn wsX8_lay wsX8_isThing := goodIn_r _ [68, 6, 19, 20, 13, 21, 69, 70, 71, 72, 73, 74, 75, 76, 77, 78, 79, 80, 81, 82, 83, 84, 85, 86, 87, 88, 89, 90, 91, 92] (by decide +kernel) (by decide +kernel)
set_option maxRecDepth 20000 in
theorem gX8_lay_X8_isThing : GoodIn wsX8_lay (wsV RX8 177 RX8 yX8_isThing wsX8_isThing) := goodIn_app (goodIn_of _ (by decide +kernel)) ggX8_lay_X8_isThing
theorem dX8_lay_0 : decode cX8_lay 0 = .ok (.aload_n 0, 1) := by decide +kernel
theorem dX8_lay_1 : decode cX8_lay 1 = .ok (.invokevirtual 160, 3) := by decide +kernel
theorem dX8_lay_4 : decode cX8_lay 4 = .ok (.ifCond .ne 6, 3) := by decide +kernel
theorem dX8_lay_7 : decode cX8_lay 7 = .ok (.ldc 163, 2) := by decide +kernel
theorem dX8_lay_9 : decode cX8_lay 9 = .ok (.ireturn, 1) := by decide +kernel
theorem dX8_lay_10 : decode cX8_lay 10 = .ok (.iload_n 1, 1) := by decide +kernel
theorem dX8_lay_11 : decode cX8_lay 11 = .ok (.invokestatic 194, 3) := by decide +kernel
theorem dX8_lay_14 : decode cX8_lay 14 = .ok (.ifCond .eq 17, 3) := by decide +kernel
theorem dX8_lay_17 : decode cX8_lay 17 = .ok (.iload_n 2, 1) := by decide +kernel
theorem dX8_lay_18 : decode cX8_lay 18 = .ok (.i2l, 1) := by decide +kernel
theorem dX8_lay_19 : decode cX8_lay 19 = .ok (.ldc2_w 208, 3) := by decide +kernel
theorem dX8_lay_22 : decode cX8_lay 22 = .ok (.ldc2_w 210, 3) := by decide +kernel
theorem dX8_lay_25 : decode cX8_lay 25 = .ok (.invokestatic 60, 3) := by decide +kernel
theorem dX8_lay_28 : decode cX8_lay 28 = .ok (.ifCond .ne 6, 3) := by decide +kernel
theorem dX8_lay_31 : decode cX8_lay 31 = .ok (.ldc 70, 2) := by decide +kernel
theorem dX8_lay_33 : decode cX8_lay 33 = .ok (.ireturn, 1) := by decide +kernel
theorem dX8_lay_34 : decode cX8_lay 34 = .ok (.ldc 207, 2) := by decide +kernel
theorem dX8_lay_36 : decode cX8_lay 36 = .ok (.istore_n 3, 1) := by decide +kernel
theorem dX8_lay_37 : decode cX8_lay 37 = .ok (.iconst 0, 1) := by decide +kernel
theorem dX8_lay_38 : decode cX8_lay 38 = .ok (.istore 4, 2) := by decide +kernel
theorem dX8_lay_40 : decode cX8_lay 40 = .ok (.iload 4, 2) := by decide +kernel
theorem dX8_lay_42 : decode cX8_lay 42 = .ok (.iconst 1, 1) := by decide +kernel
theorem dX8_lay_43 : decode cX8_lay 43 = .ok (.iconst 2, 1) := by decide +kernel
theorem dX8_lay_44 : decode cX8_lay 44 = .ok (.aload_n 0, 1) := by decide +kernel
theorem dX8_lay_45 : decode cX8_lay 45 = .ok (.getfield 19, 3) := by decide +kernel
theorem dX8_lay_48 : decode cX8_lay 48 = .ok (.iconst 0, 1) := by decide +kernel
theorem dX8_lay_49 : decode cX8_lay 49 = .ok (.iaload, 1) := by decide +kernel
theorem dX8_lay_50 : decode cX8_lay 50 = .ok (.imul, 1) := by decide +kernel
theorem dX8_lay_51 : decode cX8_lay 51 = .ok (.ishl, 1) := by decide +kernel
theorem dX8_lay_52 : decode cX8_lay 52 = .ok (.if_icmp .ge 63, 3) := by decide +kernel
theorem dX8_lay_55 : decode cX8_lay 55 = .ok (.aload_n 0, 1) := by decide +kernel
theorem dX8_lay_56 : decode cX8_lay 56 = .ok (.iload 4, 2) := by decide +kernel
theorem dX8_lay_58 : decode cX8_lay 58 = .ok (.invokevirtual 212, 3) := by decide +kernel
theorem dX8_lay_61 : decode cX8_lay 61 = .ok (.istore 5, 2) := by decide +kernel
theorem dX8_lay_63 : decode cX8_lay 63 = .ok (.iload 5, 2) := by decide +kernel
theorem dX8_lay_65 : decode cX8_lay 65 = .ok (.iload_n 3, 1) := by decide +kernel
theorem dX8_lay_66 : decode cX8_lay 66 = .ok (.if_icmp .ge 43, 3) := by decide +kernel
theorem dX8_lay_69 : decode cX8_lay 69 = .ok (.aload_n 0, 1) := by decide +kernel
theorem dX8_lay_70 : decode cX8_lay 70 = .ok (.iload_n 1, 1) := by decide +kernel
theorem dX8_lay_71 : decode cX8_lay 71 = .ok (.invokevirtual 215, 3) := by decide +kernel
theorem dX8_lay_74 : decode cX8_lay 74 = .ok (.ifCond .eq 35, 3) := by decide +kernel
theorem dX8_lay_77 : decode cX8_lay 77 = .ok (.iload 5, 2) := by decide +kernel
theorem dX8_lay_79 : decode cX8_lay 79 = .ok (.istore_n 3, 1) := by decide +kernel
theorem dX8_lay_80 : decode cX8_lay 80 = .ok (.iconst 0, 1) := by decide +kernel
theorem dX8_lay_81 : decode cX8_lay 81 = .ok (.istore 6, 2) := by decide +kernel
theorem dX8_lay_83 : decode cX8_lay 83 = .ok (.iload 6, 2) := by decide +kernel
theorem dX8_lay_85 : decode cX8_lay 85 = .ok (.iconst 5, 1) := by decide +kernel
theorem dX8_lay_86 : decode cX8_lay 86 = .ok (.if_icmp .ge 23, 3) := by decide +kernel
theorem dX8_lay_89 : decode cX8_lay 89 = .ok (.aload_n 0, 1) := by decide +kernel
theorem dX8_lay_90 : decode cX8_lay 90 = .ok (.getfield 50, 3) := by decide +kernel
theorem dX8_lay_93 : decode cX8_lay 93 = .ok (.iload 6, 2) := by decide +kernel
theorem dX8_lay_95 : decode cX8_lay 95 = .ok (.aload_n 0, 1) := by decide +kernel
theorem dX8_lay_96 : decode cX8_lay 96 = .ok (.getfield 47, 3) := by decide +kernel
theorem dX8_lay_99 : decode cX8_lay 99 = .ok (.iload 6, 2) := by decide +kernel
theorem dX8_lay_101 : decode cX8_lay 101 = .ok (.iaload, 1) := by decide +kernel
theorem dX8_lay_102 : decode cX8_lay 102 = .ok (.iastore, 1) := by decide +kernel
theorem dX8_lay_103 : decode cX8_lay 103 = .ok (.iinc 6 1, 3) := by decide +kernel
theorem dX8_lay_106 : decode cX8_lay 106 = .ok (.goto (-23), 3) := by decide +kernel
theorem dX8_lay_109 : decode cX8_lay 109 = .ok (.iinc 4 1, 3) := by decide +kernel
theorem dX8_lay_112 : decode cX8_lay 112 = .ok (.goto (-72), 3) := by decide +kernel
theorem dX8_lay_115 : decode cX8_lay 115 = .ok (.iload_n 3, 1) := by decide +kernel
theorem dX8_lay_116 : decode cX8_lay 116 = .ok (.ldc 207, 2) := by decide +kernel
theorem dX8_lay_118 : decode cX8_lay 118 = .ok (.if_icmp .ne 8, 3) := by decide +kernel
theorem dX8_lay_121 : decode cX8_lay 121 = .ok (.ldc 157, 2) := by decide +kernel
theorem dX8_lay_123 : decode cX8_lay 123 = .ok (.goto 31, 3) := by decide +kernel
theorem dX8_lay_126 : decode cX8_lay 126 = .ok (.iload_n 2, 1) := by decide +kernel
theorem dX8_lay_127 : decode cX8_lay 127 = .ok (.iconst (-1), 1) := by decide +kernel
theorem dX8_lay_128 : decode cX8_lay 128 = .ok (.if_icmp .ne 7, 3) := by decide +kernel
theorem dX8_lay_131 : decode cX8_lay 131 = .ok (.iload_n 3, 1) := by decide +kernel
theorem dX8_lay_132 : decode cX8_lay 132 = .ok (.goto 22, 3) := by decide +kernel
theorem dX8_lay_135 : decode cX8_lay 135 = .ok (.aload_n 0, 1) := by decide +kernel
theorem dX8_lay_136 : decode cX8_lay 136 = .ok (.iload_n 2, 1) := by decide +kernel
theorem dX8_lay_137 : decode cX8_lay 137 = .ok (.invokevirtual 177, 3) := by decide +kernel
theorem dX8_lay_140 : decode cX8_lay 140 = .ok (.ifCond .eq 12, 3) := by decide +kernel
theorem dX8_lay_143 : decode cX8_lay 143 = .ok (.aload_n 0, 1) := by decide +kernel
theorem dX8_lay_144 : decode cX8_lay 144 = .ok (.getfield 50, 3) := by decide +kernel
theorem dX8_lay_147 : decode cX8_lay 147 = .ok (.iload_n 2, 1) := by decide +kernel
theorem dX8_lay_148 : decode cX8_lay 148 = .ok (.iaload, 1) := by decide +kernel
theorem dX8_lay_149 : decode cX8_lay 149 = .ok (.goto 5, 3) := by decide +kernel
theorem dX8_lay_152 : decode cX8_lay 152 = .ok (.ldc 157, 2) := by decide +kernel
theorem dX8_lay_154 : decode cX8_lay 154 = .ok (.ireturn, 1) := by decide +kernel
set_option maxRecDepth 20000 in
theorem ggX8_dig_X8_isThing : GoodIn wsX8_dig wsX8_isThing := goodIn_r _ [8, 9, 10, 11, 7, 12, 39, 40, 41, 42, 43, 44, 45, 46, 47, 48, 49, 50, 51, 52, 53, 54, 55, 56, 57, 58, 59, 60, 61, 62] (by decide +kernel) (by decide +kernel)
set_option maxRecDepth 20000 in
theorem gX8_dig_X8_isThing : GoodIn wsX8_dig (wsV RX8 177 RX8 yX8_isThing wsX8_isThing) := goodIn_app (goodIn_of _ (by decide +kernel)) ggX8_dig_X8_isThing
set_option maxRecDepth 20000 in
theorem ggX8_dig_X8_isSpan : GoodIn wsX8_dig wsX8_isSpan := goodIn_r _ [15, 16, 10, 11, 7, 12] (by decide +kernel) (by decide +kernel)
set_option maxRecDepth 20000 in
theorem gX8_dig_X8_isSpan : GoodIn wsX8_dig (va_wsS RX8 194 yX8_isSpan wsX8_isSpan) := goodIn_app (goodIn_of _ (by decide +kernel)) ggX8_dig_X8_isSpan
set_option maxRecDepth 20000 in
theorem ggX8_dig_X8_layAside : GoodIn wsX8_dig wsX8_layAside := goodIn_r _ [20, 9, 2, 21, 22, 7, 23, 39, 40, 41, 42, 43, 44, 45, 46, 47, 48, 49, 50, 51, 52, 53, 54, 55, 56, 57, 58, 59, 60, 61, 62] (by decide +kernel) (by decide +kernel)
set_option maxRecDepth 20000 in
theorem gX8_dig_X8_layAside : GoodIn wsX8_dig (wsV RX8 197 RX8 yX8_layAside wsX8_layAside) := goodIn_app (goodIn_of _ (by decide +kernel)) ggX8_dig_X8_layAside
set_option maxRecDepth 20000 in
theorem ggX8_dig_X8_go : GoodIn wsX8_dig wsX8_go := goodIn_r _ [27, 2, 28, 29, 30, 7, 31, 32, 33, 34, 35, 36, 37, 38, 39, 40, 41, 42, 43, 44, 45, 46, 47, 48, 49, 50, 51, 52, 53, 54, 55, 56, 57, 58, 59, 60, 61, 62] (by decide +kernel) (by decide +kernel)
set_option maxRecDepth 20000 in
theorem gX8_dig_X8_go : GoodIn wsX8_dig (wsV RX8 200 RX8 yX8_go wsX8_go) := goodIn_app (goodIn_of _ (by decide +kernel)) ggX8_dig_X8_go
set_option maxRecDepth 20000 in
theorem ggX8_dig_X8_lies : GoodIn wsX8_dig wsX8_lies := goodIn_r _ [38] (by decide +kernel) (by decide +kernel)
set_option maxRecDepth 20000 in
theorem gX8_dig_X8_lies : GoodIn wsX8_dig (va_wsS RX8 142 yX8_lies wsX8_lies) := goodIn_app (goodIn_of _ (by decide +kernel)) ggX8_dig_X8_lies
theorem dX8_dig_0 : decode cX8_dig 0 = .ok (.aload_n 0, 1) := by decide +kernel
theorem dX8_dig_1 : decode cX8_dig 1 = .ok (.iload_n 1, 1) := by decide +kernel
theorem dX8_dig_2 : decode cX8_dig 2 = .ok (.invokevirtual 177, 3) := by decide +kernel
theorem dX8_dig_5 : decode cX8_dig 5 = .ok (.ifCond .eq 10, 3) := by decide +kernel
theorem dX8_dig_8 : decode cX8_dig 8 = .ok (.iload_n 2, 1) := by decide +kernel
theorem dX8_dig_9 : decode cX8_dig 9 = .ok (.invokestatic 194, 3) := by decide +kernel
theorem dX8_dig_12 : decode cX8_dig 12 = .ok (.ifCond .ne 6, 3) := by decide +kernel
theorem dX8_dig_15 : decode cX8_dig 15 = .ok (.ldc 70, 2) := by decide +kernel
theorem dX8_dig_17 : decode cX8_dig 17 = .ok (.ireturn, 1) := by decide +kernel
theorem dX8_dig_18 : decode cX8_dig 18 = .ok (.iconst 1, 1) := by decide +kernel
theorem dX8_dig_19 : decode cX8_dig 19 = .ok (.istore_n 3, 1) := by decide +kernel
theorem dX8_dig_20 : decode cX8_dig 20 = .ok (.iload_n 3, 1) := by decide +kernel
theorem dX8_dig_21 : decode cX8_dig 21 = .ok (.bipush 41, 2) := by decide +kernel
theorem dX8_dig_23 : decode cX8_dig 23 = .ok (.if_icmp .ge 41, 3) := by decide +kernel
theorem dX8_dig_26 : decode cX8_dig 26 = .ok (.aload_n 0, 1) := by decide +kernel
theorem dX8_dig_27 : decode cX8_dig 27 = .ok (.invokevirtual 197, 3) := by decide +kernel
theorem dX8_dig_30 : decode cX8_dig 30 = .ok (.aload_n 0, 1) := by decide +kernel
theorem dX8_dig_31 : decode cX8_dig 31 = .ok (.getfield 25, 3) := by decide +kernel
theorem dX8_dig_34 : decode cX8_dig 34 = .ok (.bipush 13, 2) := by decide +kernel
theorem dX8_dig_36 : decode cX8_dig 36 = .ok (.iload_n 1, 1) := by decide +kernel
theorem dX8_dig_37 : decode cX8_dig 37 = .ok (.iadd, 1) := by decide +kernel
theorem dX8_dig_38 : decode cX8_dig 38 = .ok (.iload_n 3, 1) := by decide +kernel
theorem dX8_dig_39 : decode cX8_dig 39 = .ok (.iastore, 1) := by decide +kernel
theorem dX8_dig_40 : decode cX8_dig 40 = .ok (.aload_n 0, 1) := by decide +kernel
theorem dX8_dig_41 : decode cX8_dig 41 = .ok (.iload_n 2, 1) := by decide +kernel
theorem dX8_dig_42 : decode cX8_dig 42 = .ok (.invokevirtual 200, 3) := by decide +kernel
theorem dX8_dig_45 : decode cX8_dig 45 = .ok (.aload_n 0, 1) := by decide +kernel
theorem dX8_dig_46 : decode cX8_dig 46 = .ok (.getfield 25, 3) := by decide +kernel
theorem dX8_dig_49 : decode cX8_dig 49 = .ok (.iload_n 1, 1) := by decide +kernel
theorem dX8_dig_50 : decode cX8_dig 50 = .ok (.invokestatic 142, 3) := by decide +kernel
theorem dX8_dig_53 : decode cX8_dig 53 = .ok (.ifCond .eq 5, 3) := by decide +kernel
theorem dX8_dig_56 : decode cX8_dig 56 = .ok (.iload_n 3, 1) := by decide +kernel
theorem dX8_dig_57 : decode cX8_dig 57 = .ok (.ireturn, 1) := by decide +kernel
theorem dX8_dig_58 : decode cX8_dig 58 = .ok (.iinc 3 1, 3) := by decide +kernel
theorem dX8_dig_61 : decode cX8_dig 61 = .ok (.goto (-41), 3) := by decide +kernel
theorem dX8_dig_64 : decode cX8_dig 64 = .ok (.ldc 157, 2) := by decide +kernel
theorem dX8_dig_66 : decode cX8_dig 66 = .ok (.ireturn, 1) := by decide +kernel
set_option maxRecDepth 20000 in
theorem ggX8_whom_X8_isMine : GoodIn wsX8_whom wsX8_isMine := goodIn_r _ [9, 4, 19, 20, 21, 22, 23, 24, 25, 26, 27, 28, 29, 30, 31, 32, 33, 34, 35, 36, 37, 38, 39, 40, 41, 42] (by decide +kernel) (by decide +kernel)
set_option maxRecDepth 20000 in
theorem gX8_whom_X8_isMine : GoodIn wsX8_whom (wsV RX8 160 RX8 yX8_isMine wsX8_isMine) := goodIn_app (goodIn_of _ (by decide +kernel)) ggX8_whom_X8_isMine
set_option maxRecDepth 20000 in
theorem ggX8_whom_X8_isTwo : GoodIn wsX8_whom wsX8_isTwo := goodIn_r _ [12, 13, 14, 8, 15] (by decide +kernel) (by decide +kernel)
set_option maxRecDepth 20000 in
theorem gX8_whom_X8_isTwo : GoodIn wsX8_whom (va_wsS RX8 184 yX8_isTwo wsX8_isTwo) := goodIn_app (goodIn_of _ (by decide +kernel)) ggX8_whom_X8_isTwo
set_option maxRecDepth 20000 in
theorem ggX8_whom_X8_bits : GoodIn wsX8_whom wsX8_bits := goodIn_r _ [18] (by decide +kernel) (by decide +kernel)
set_option maxRecDepth 20000 in
theorem gX8_whom_X8_bits : GoodIn wsX8_whom (va_wsS RX8 218 yX8_bits wsX8_bits) := goodIn_app (goodIn_of _ (by decide +kernel)) ggX8_whom_X8_bits
theorem dX8_whom_0 : decode cX8_whom 0 = .ok (.aload_n 0, 1) := by decide +kernel
theorem dX8_whom_1 : decode cX8_whom 1 = .ok (.invokevirtual 160, 3) := by decide +kernel
theorem dX8_whom_4 : decode cX8_whom 4 = .ok (.ifCond .ne 6, 3) := by decide +kernel
theorem dX8_whom_7 : decode cX8_whom 7 = .ok (.ldc 163, 2) := by decide +kernel
theorem dX8_whom_9 : decode cX8_whom 9 = .ok (.ireturn, 1) := by decide +kernel
theorem dX8_whom_10 : decode cX8_whom 10 = .ok (.iload_n 1, 1) := by decide +kernel
theorem dX8_whom_11 : decode cX8_whom 11 = .ok (.invokestatic 184, 3) := by decide +kernel
theorem dX8_whom_14 : decode cX8_whom 14 = .ok (.ifCond .ne 6, 3) := by decide +kernel
theorem dX8_whom_17 : decode cX8_whom 17 = .ok (.ldc 70, 2) := by decide +kernel
theorem dX8_whom_19 : decode cX8_whom 19 = .ok (.ireturn, 1) := by decide +kernel
theorem dX8_whom_20 : decode cX8_whom 20 = .ok (.ldc 157, 2) := by decide +kernel
theorem dX8_whom_22 : decode cX8_whom 22 = .ok (.istore_n 2, 1) := by decide +kernel
theorem dX8_whom_23 : decode cX8_whom 23 = .ok (.iconst 0, 1) := by decide +kernel
theorem dX8_whom_24 : decode cX8_whom 24 = .ok (.istore_n 3, 1) := by decide +kernel
theorem dX8_whom_25 : decode cX8_whom 25 = .ok (.iload_n 3, 1) := by decide +kernel
theorem dX8_whom_26 : decode cX8_whom 26 = .ok (.iconst 1, 1) := by decide +kernel
theorem dX8_whom_27 : decode cX8_whom 27 = .ok (.aload_n 0, 1) := by decide +kernel
theorem dX8_whom_28 : decode cX8_whom 28 = .ok (.getfield 19, 3) := by decide +kernel
theorem dX8_whom_31 : decode cX8_whom 31 = .ok (.iconst 2, 1) := by decide +kernel
theorem dX8_whom_32 : decode cX8_whom 32 = .ok (.iaload, 1) := by decide +kernel
theorem dX8_whom_33 : decode cX8_whom 33 = .ok (.ishl, 1) := by decide +kernel
theorem dX8_whom_34 : decode cX8_whom 34 = .ok (.if_icmp .ge 87, 3) := by decide +kernel
theorem dX8_whom_37 : decode cX8_whom 37 = .ok (.iconst 1, 1) := by decide +kernel
theorem dX8_whom_38 : decode cX8_whom 38 = .ok (.istore 4, 2) := by decide +kernel
theorem dX8_whom_40 : decode cX8_whom 40 = .ok (.iconst 0, 1) := by decide +kernel
theorem dX8_whom_41 : decode cX8_whom 41 = .ok (.istore 5, 2) := by decide +kernel
theorem dX8_whom_43 : decode cX8_whom 43 = .ok (.iload 5, 2) := by decide +kernel
theorem dX8_whom_45 : decode cX8_whom 45 = .ok (.aload_n 0, 1) := by decide +kernel
theorem dX8_whom_46 : decode cX8_whom 46 = .ok (.getfield 19, 3) := by decide +kernel
theorem dX8_whom_49 : decode cX8_whom 49 = .ok (.iconst 0, 1) := by decide +kernel
theorem dX8_whom_50 : decode cX8_whom 50 = .ok (.iaload, 1) := by decide +kernel
theorem dX8_whom_51 : decode cX8_whom 51 = .ok (.if_icmp .ge 36, 3) := by decide +kernel
theorem dX8_whom_54 : decode cX8_whom 54 = .ok (.iload 4, 2) := by decide +kernel
theorem dX8_whom_56 : decode cX8_whom 56 = .ok (.ifCond .eq 22, 3) := by decide +kernel
theorem dX8_whom_59 : decode cX8_whom 59 = .ok (.aload_n 0, 1) := by decide +kernel
theorem dX8_whom_60 : decode cX8_whom 60 = .ok (.getfield 19, 3) := by decide +kernel
theorem dX8_whom_63 : decode cX8_whom 63 = .ok (.bipush 23, 2) := by decide +kernel
theorem dX8_whom_65 : decode cX8_whom 65 = .ok (.iload 5, 2) := by decide +kernel
theorem dX8_whom_67 : decode cX8_whom 67 = .ok (.iadd, 1) := by decide +kernel
theorem dX8_whom_68 : decode cX8_whom 68 = .ok (.iaload, 1) := by decide +kernel
theorem dX8_whom_69 : decode cX8_whom 69 = .ok (.iload_n 3, 1) := by decide +kernel
theorem dX8_whom_70 : decode cX8_whom 70 = .ok (.iand, 1) := by decide +kernel
theorem dX8_whom_71 : decode cX8_whom 71 = .ok (.ifCond .eq 7, 3) := by decide +kernel
theorem dX8_whom_74 : decode cX8_whom 74 = .ok (.iconst 1, 1) := by decide +kernel
theorem dX8_whom_75 : decode cX8_whom 75 = .ok (.goto 4, 3) := by decide +kernel
theorem dX8_whom_78 : decode cX8_whom 78 = .ok (.iconst 0, 1) := by decide +kernel
theorem dX8_whom_79 : decode cX8_whom 79 = .ok (.istore 4, 2) := by decide +kernel
theorem dX8_whom_81 : decode cX8_whom 81 = .ok (.iinc 5 1, 3) := by decide +kernel
theorem dX8_whom_84 : decode cX8_whom 84 = .ok (.goto (-41), 3) := by decide +kernel
theorem dX8_whom_87 : decode cX8_whom 87 = .ok (.iload 4, 2) := by decide +kernel
theorem dX8_whom_89 : decode cX8_whom 89 = .ok (.ifCond .eq 24, 3) := by decide +kernel
theorem dX8_whom_92 : decode cX8_whom 92 = .ok (.iload_n 2, 1) := by decide +kernel
theorem dX8_whom_93 : decode cX8_whom 93 = .ok (.ldc 157, 2) := by decide +kernel
theorem dX8_whom_95 : decode cX8_whom 95 = .ok (.if_icmp .eq 14, 3) := by decide +kernel
theorem dX8_whom_98 : decode cX8_whom 98 = .ok (.iload_n 3, 1) := by decide +kernel
theorem dX8_whom_99 : decode cX8_whom 99 = .ok (.invokestatic 218, 3) := by decide +kernel
theorem dX8_whom_102 : decode cX8_whom 102 = .ok (.iload_n 2, 1) := by decide +kernel
theorem dX8_whom_103 : decode cX8_whom 103 = .ok (.invokestatic 218, 3) := by decide +kernel
theorem dX8_whom_106 : decode cX8_whom 106 = .ok (.if_icmp .ge 7, 3) := by decide +kernel
theorem dX8_whom_109 : decode cX8_whom 109 = .ok (.iload_n 3, 1) := by decide +kernel
theorem dX8_whom_110 : decode cX8_whom 110 = .ok (.goto 4, 3) := by decide +kernel
theorem dX8_whom_113 : decode cX8_whom 113 = .ok (.iload_n 2, 1) := by decide +kernel
theorem dX8_whom_114 : decode cX8_whom 114 = .ok (.istore_n 2, 1) := by decide +kernel
theorem dX8_whom_115 : decode cX8_whom 115 = .ok (.iinc 3 1, 3) := by decide +kernel
theorem dX8_whom_118 : decode cX8_whom 118 = .ok (.goto (-93), 3) := by decide +kernel
theorem dX8_whom_121 : decode cX8_whom 121 = .ok (.iload_n 2, 1) := by decide +kernel
theorem dX8_whom_122 : decode cX8_whom 122 = .ok (.ldc 157, 2) := by decide +kernel
theorem dX8_whom_124 : decode cX8_whom 124 = .ok (.if_icmp .eq 8, 3) := by decide +kernel
theorem dX8_whom_127 : decode cX8_whom 127 = .ok (.iload_n 1, 1) := by decide +kernel
theorem dX8_whom_128 : decode cX8_whom 128 = .ok (.iconst 1, 1) := by decide +kernel
theorem dX8_whom_129 : decode cX8_whom 129 = .ok (.if_icmp .ne 7, 3) := by decide +kernel
theorem dX8_whom_132 : decode cX8_whom 132 = .ok (.iload_n 2, 1) := by decide +kernel
theorem dX8_whom_133 : decode cX8_whom 133 = .ok (.goto 7, 3) := by decide +kernel
theorem dX8_whom_136 : decode cX8_whom 136 = .ok (.iload_n 2, 1) := by decide +kernel
theorem dX8_whom_137 : decode cX8_whom 137 = .ok (.invokestatic 218, 3) := by decide +kernel
theorem dX8_whom_140 : decode cX8_whom 140 = .ok (.ireturn, 1) := by decide +kernel
set_option maxRecDepth 20000 in
theorem ggX8_halves_X8_isMine : GoodIn wsX8_halves wsX8_isMine := goodIn_r _ [9, 4, 16, 17, 18, 19, 20, 21, 22, 23, 24, 25, 26, 27, 28, 29, 30, 31, 32, 33, 34, 35, 36, 37, 38, 39] (by decide +kernel) (by decide +kernel)
set_option maxRecDepth 20000 in
theorem gX8_halves_X8_isMine : GoodIn wsX8_halves (wsV RX8 160 RX8 yX8_isMine wsX8_isMine) := goodIn_app (goodIn_of _ (by decide +kernel)) ggX8_halves_X8_isMine
set_option maxRecDepth 20000 in
theorem ggX8_halves_X8_isTwo : GoodIn wsX8_halves wsX8_isTwo := goodIn_r _ [12, 13, 14, 8, 15] (by decide +kernel) (by decide +kernel)
set_option maxRecDepth 20000 in
theorem gX8_halves_X8_isTwo : GoodIn wsX8_halves (va_wsS RX8 184 yX8_isTwo wsX8_isTwo) := goodIn_app (goodIn_of _ (by decide +kernel)) ggX8_halves_X8_isTwo
theorem dX8_halves_0 : decode cX8_halves 0 = .ok (.aload_n 0, 1) := by decide +kernel
theorem dX8_halves_1 : decode cX8_halves 1 = .ok (.invokevirtual 160, 3) := by decide +kernel
theorem dX8_halves_4 : decode cX8_halves 4 = .ok (.ifCond .ne 6, 3) := by decide +kernel
theorem dX8_halves_7 : decode cX8_halves 7 = .ok (.ldc 163, 2) := by decide +kernel
theorem dX8_halves_9 : decode cX8_halves 9 = .ok (.ireturn, 1) := by decide +kernel
theorem dX8_halves_10 : decode cX8_halves 10 = .ok (.iload_n 1, 1) := by decide +kernel
theorem dX8_halves_11 : decode cX8_halves 11 = .ok (.invokestatic 184, 3) := by decide +kernel
theorem dX8_halves_14 : decode cX8_halves 14 = .ok (.ifCond .ne 6, 3) := by decide +kernel
theorem dX8_halves_17 : decode cX8_halves 17 = .ok (.ldc 70, 2) := by decide +kernel
theorem dX8_halves_19 : decode cX8_halves 19 = .ok (.ireturn, 1) := by decide +kernel
theorem dX8_halves_20 : decode cX8_halves 20 = .ok (.iconst 0, 1) := by decide +kernel
theorem dX8_halves_21 : decode cX8_halves 21 = .ok (.istore_n 2, 1) := by decide +kernel
theorem dX8_halves_22 : decode cX8_halves 22 = .ok (.ldc 157, 2) := by decide +kernel
theorem dX8_halves_24 : decode cX8_halves 24 = .ok (.istore_n 3, 1) := by decide +kernel
theorem dX8_halves_25 : decode cX8_halves 25 = .ok (.iconst 0, 1) := by decide +kernel
theorem dX8_halves_26 : decode cX8_halves 26 = .ok (.istore 4, 2) := by decide +kernel
theorem dX8_halves_28 : decode cX8_halves 28 = .ok (.iload 4, 2) := by decide +kernel
theorem dX8_halves_30 : decode cX8_halves 30 = .ok (.aload_n 0, 1) := by decide +kernel
theorem dX8_halves_31 : decode cX8_halves 31 = .ok (.getfield 19, 3) := by decide +kernel
theorem dX8_halves_34 : decode cX8_halves 34 = .ok (.iconst 0, 1) := by decide +kernel
theorem dX8_halves_35 : decode cX8_halves 35 = .ok (.iaload, 1) := by decide +kernel
theorem dX8_halves_36 : decode cX8_halves 36 = .ok (.if_icmp .ge 100, 3) := by decide +kernel
theorem dX8_halves_39 : decode cX8_halves 39 = .ok (.iload 4, 2) := by decide +kernel
theorem dX8_halves_41 : decode cX8_halves 41 = .ok (.iconst 1, 1) := by decide +kernel
theorem dX8_halves_42 : decode cX8_halves 42 = .ok (.iadd, 1) := by decide +kernel
theorem dX8_halves_43 : decode cX8_halves 43 = .ok (.istore 5, 2) := by decide +kernel
theorem dX8_halves_45 : decode cX8_halves 45 = .ok (.iload 5, 2) := by decide +kernel
theorem dX8_halves_47 : decode cX8_halves 47 = .ok (.aload_n 0, 1) := by decide +kernel
theorem dX8_halves_48 : decode cX8_halves 48 = .ok (.getfield 19, 3) := by decide +kernel
theorem dX8_halves_51 : decode cX8_halves 51 = .ok (.iconst 0, 1) := by decide +kernel
theorem dX8_halves_52 : decode cX8_halves 52 = .ok (.iaload, 1) := by decide +kernel
theorem dX8_halves_53 : decode cX8_halves 53 = .ok (.if_icmp .ge 77, 3) := by decide +kernel
theorem dX8_halves_56 : decode cX8_halves 56 = .ok (.aload_n 0, 1) := by decide +kernel
theorem dX8_halves_57 : decode cX8_halves 57 = .ok (.getfield 19, 3) := by decide +kernel
theorem dX8_halves_60 : decode cX8_halves 60 = .ok (.bipush 23, 2) := by decide +kernel
theorem dX8_halves_62 : decode cX8_halves 62 = .ok (.iload 4, 2) := by decide +kernel
theorem dX8_halves_64 : decode cX8_halves 64 = .ok (.iadd, 1) := by decide +kernel
theorem dX8_halves_65 : decode cX8_halves 65 = .ok (.iaload, 1) := by decide +kernel
theorem dX8_halves_66 : decode cX8_halves 66 = .ok (.aload_n 0, 1) := by decide +kernel
theorem dX8_halves_67 : decode cX8_halves 67 = .ok (.getfield 19, 3) := by decide +kernel
theorem dX8_halves_70 : decode cX8_halves 70 = .ok (.bipush 23, 2) := by decide +kernel
theorem dX8_halves_72 : decode cX8_halves 72 = .ok (.iload 5, 2) := by decide +kernel
theorem dX8_halves_74 : decode cX8_halves 74 = .ok (.iadd, 1) := by decide +kernel
theorem dX8_halves_75 : decode cX8_halves 75 = .ok (.iaload, 1) := by decide +kernel
theorem dX8_halves_76 : decode cX8_halves 76 = .ok (.iand, 1) := by decide +kernel
theorem dX8_halves_77 : decode cX8_halves 77 = .ok (.ifCond .eq 7, 3) := by decide +kernel
theorem dX8_halves_80 : decode cX8_halves 80 = .ok (.iconst 1, 1) := by decide +kernel
theorem dX8_halves_81 : decode cX8_halves 81 = .ok (.goto 4, 3) := by decide +kernel
theorem dX8_halves_84 : decode cX8_halves 84 = .ok (.iconst 0, 1) := by decide +kernel
theorem dX8_halves_85 : decode cX8_halves 85 = .ok (.istore 6, 2) := by decide +kernel
theorem dX8_halves_87 : decode cX8_halves 87 = .ok (.iload_n 2, 1) := by decide +kernel
theorem dX8_halves_88 : decode cX8_halves 88 = .ok (.iload 6, 2) := by decide +kernel
theorem dX8_halves_90 : decode cX8_halves 90 = .ok (.ifCond .eq 7, 3) := by decide +kernel
theorem dX8_halves_93 : decode cX8_halves 93 = .ok (.iconst 1, 1) := by decide +kernel
theorem dX8_halves_94 : decode cX8_halves 94 = .ok (.goto 4, 3) := by decide +kernel
theorem dX8_halves_97 : decode cX8_halves 97 = .ok (.iconst 0, 1) := by decide +kernel
theorem dX8_halves_98 : decode cX8_halves 98 = .ok (.iadd, 1) := by decide +kernel
theorem dX8_halves_99 : decode cX8_halves 99 = .ok (.istore_n 2, 1) := by decide +kernel
theorem dX8_halves_100 : decode cX8_halves 100 = .ok (.iload 6, 2) := by decide +kernel
theorem dX8_halves_102 : decode cX8_halves 102 = .ok (.ifCond .eq 20, 3) := by decide +kernel
theorem dX8_halves_105 : decode cX8_halves 105 = .ok (.iload_n 3, 1) := by decide +kernel
theorem dX8_halves_106 : decode cX8_halves 106 = .ok (.ldc 157, 2) := by decide +kernel
theorem dX8_halves_108 : decode cX8_halves 108 = .ok (.if_icmp .ne 14, 3) := by decide +kernel
theorem dX8_halves_111 : decode cX8_halves 111 = .ok (.bipush 10, 2) := by decide +kernel
theorem dX8_halves_113 : decode cX8_halves 113 = .ok (.iload 4, 2) := by decide +kernel
theorem dX8_halves_115 : decode cX8_halves 115 = .ok (.imul, 1) := by decide +kernel
theorem dX8_halves_116 : decode cX8_halves 116 = .ok (.iload 5, 2) := by decide +kernel
theorem dX8_halves_118 : decode cX8_halves 118 = .ok (.iadd, 1) := by decide +kernel
theorem dX8_halves_119 : decode cX8_halves 119 = .ok (.goto 4, 3) := by decide +kernel
theorem dX8_halves_122 : decode cX8_halves 122 = .ok (.iload_n 3, 1) := by decide +kernel
theorem dX8_halves_123 : decode cX8_halves 123 = .ok (.istore_n 3, 1) := by decide +kernel
theorem dX8_halves_124 : decode cX8_halves 124 = .ok (.iinc 5 1, 3) := by decide +kernel
theorem dX8_halves_127 : decode cX8_halves 127 = .ok (.goto (-82), 3) := by decide +kernel
theorem dX8_halves_130 : decode cX8_halves 130 = .ok (.iinc 4 1, 3) := by decide +kernel
theorem dX8_halves_133 : decode cX8_halves 133 = .ok (.goto (-105), 3) := by decide +kernel
theorem dX8_halves_136 : decode cX8_halves 136 = .ok (.iload_n 1, 1) := by decide +kernel
theorem dX8_halves_137 : decode cX8_halves 137 = .ok (.ifCond .ne 7, 3) := by decide +kernel
theorem dX8_halves_140 : decode cX8_halves 140 = .ok (.iload_n 2, 1) := by decide +kernel
theorem dX8_halves_141 : decode cX8_halves 141 = .ok (.goto 4, 3) := by decide +kernel
theorem dX8_halves_144 : decode cX8_halves 144 = .ok (.iload_n 3, 1) := by decide +kernel
theorem dX8_halves_145 : decode cX8_halves 145 = .ok (.ireturn, 1) := by decide +kernel
set_option maxRecDepth 20000 in
theorem ggX8_comes_X8_go : GoodIn wsX8_comes wsX8_go := goodIn_r _ [7, 2, 8, 9, 10, 6, 11, 12, 13, 14, 15, 16, 17, 18, 28, 29, 30, 31, 32, 33, 34, 35, 36, 37, 38, 39, 40, 41, 42, 43, 44, 45, 46, 47, 48, 49, 50, 51] (by decide +kernel) (by decide +kernel)
set_option maxRecDepth 20000 in
theorem gX8_comes_X8_go : GoodIn wsX8_comes (wsV RX8 200 RX8 yX8_go wsX8_go) := goodIn_app (goodIn_of _ (by decide +kernel)) ggX8_comes_X8_go
set_option maxRecDepth 20000 in
theorem ggX8_comes_X8_nearTo : GoodIn wsX8_comes wsX8_nearTo := goodIn_r _ [21, 22, 23, 6, 24, 16, 17, 18, 25, 26, 27] (by decide +kernel) (by decide +kernel)
set_option maxRecDepth 20000 in
theorem gX8_comes_X8_nearTo : GoodIn wsX8_comes (va_wsS RX8 191 yX8_nearTo wsX8_nearTo) := goodIn_app (goodIn_of _ (by decide +kernel)) ggX8_comes_X8_nearTo
theorem dX8_comes_0 : decode cX8_comes 0 = .ok (.iconst 1, 1) := by decide +kernel
theorem dX8_comes_1 : decode cX8_comes 1 = .ok (.istore 5, 2) := by decide +kernel
theorem dX8_comes_3 : decode cX8_comes 3 = .ok (.iconst 0, 1) := by decide +kernel
theorem dX8_comes_4 : decode cX8_comes 4 = .ok (.istore 6, 2) := by decide +kernel
theorem dX8_comes_6 : decode cX8_comes 6 = .ok (.iload 6, 2) := by decide +kernel
theorem dX8_comes_8 : decode cX8_comes 8 = .ok (.iload_n 3, 1) := by decide +kernel
theorem dX8_comes_9 : decode cX8_comes 9 = .ok (.if_icmp .ge 63, 3) := by decide +kernel
theorem dX8_comes_12 : decode cX8_comes 12 = .ok (.aload_n 0, 1) := by decide +kernel
theorem dX8_comes_13 : decode cX8_comes 13 = .ok (.iconst 1, 1) := by decide +kernel
theorem dX8_comes_14 : decode cX8_comes 14 = .ok (.invokevirtual 200, 3) := by decide +kernel
theorem dX8_comes_17 : decode cX8_comes 17 = .ok (.iload 5, 2) := by decide +kernel
theorem dX8_comes_19 : decode cX8_comes 19 = .ok (.ifCond .eq 44, 3) := by decide +kernel
theorem dX8_comes_22 : decode cX8_comes 22 = .ok (.aload_n 0, 1) := by decide +kernel
theorem dX8_comes_23 : decode cX8_comes 23 = .ok (.getfield 16, 3) := by decide +kernel
theorem dX8_comes_26 : decode cX8_comes 26 = .ok (.iload_n 2, 1) := by decide +kernel
theorem dX8_comes_27 : decode cX8_comes 27 = .ok (.iload 6, 2) := by decide +kernel
theorem dX8_comes_29 : decode cX8_comes 29 = .ok (.iadd, 1) := by decide +kernel
theorem dX8_comes_30 : decode cX8_comes 30 = .ok (.iaload, 1) := by decide +kernel
theorem dX8_comes_31 : decode cX8_comes 31 = .ok (.iload 4, 2) := by decide +kernel
theorem dX8_comes_33 : decode cX8_comes 33 = .ok (.ifCond .eq 14, 3) := by decide +kernel
theorem dX8_comes_36 : decode cX8_comes 36 = .ok (.aload_n 0, 1) := by decide +kernel
theorem dX8_comes_37 : decode cX8_comes 37 = .ok (.getfield 25, 3) := by decide +kernel
theorem dX8_comes_40 : decode cX8_comes 40 = .ok (.iload_n 1, 1) := by decide +kernel
theorem dX8_comes_41 : decode cX8_comes 41 = .ok (.invokestatic 191, 3) := by decide +kernel
theorem dX8_comes_44 : decode cX8_comes 44 = .ok (.goto 12, 3) := by decide +kernel
theorem dX8_comes_47 : decode cX8_comes 47 = .ok (.aload_n 0, 1) := by decide +kernel
theorem dX8_comes_48 : decode cX8_comes 48 = .ok (.getfield 25, 3) := by decide +kernel
theorem dX8_comes_51 : decode cX8_comes 51 = .ok (.bipush 13, 2) := by decide +kernel
theorem dX8_comes_53 : decode cX8_comes 53 = .ok (.iload_n 1, 1) := by decide +kernel
theorem dX8_comes_54 : decode cX8_comes 54 = .ok (.iadd, 1) := by decide +kernel
theorem dX8_comes_55 : decode cX8_comes 55 = .ok (.iaload, 1) := by decide +kernel
theorem dX8_comes_56 : decode cX8_comes 56 = .ok (.if_icmp .ne 7, 3) := by decide +kernel
theorem dX8_comes_59 : decode cX8_comes 59 = .ok (.iconst 1, 1) := by decide +kernel
theorem dX8_comes_60 : decode cX8_comes 60 = .ok (.goto 4, 3) := by decide +kernel
theorem dX8_comes_63 : decode cX8_comes 63 = .ok (.iconst 0, 1) := by decide +kernel
theorem dX8_comes_64 : decode cX8_comes 64 = .ok (.istore 5, 2) := by decide +kernel
theorem dX8_comes_66 : decode cX8_comes 66 = .ok (.iinc 6 1, 3) := by decide +kernel
theorem dX8_comes_69 : decode cX8_comes 69 = .ok (.goto (-63), 3) := by decide +kernel
theorem dX8_comes_72 : decode cX8_comes 72 = .ok (.iload 5, 2) := by decide +kernel
theorem dX8_comes_74 : decode cX8_comes 74 = .ok (.ireturn, 1) := by decide +kernel
set_option maxRecDepth 20000 in
theorem ggX8_fits_X8_isThing : GoodIn wsX8_fits wsX8_isThing := goodIn_r _ [10, 11, 12, 13, 9, 14, 65, 66, 67, 68, 69, 70, 71, 72, 73, 74, 75, 76, 77, 78, 79, 80, 81, 82, 83, 84, 85, 86, 87, 88] (by decide +kernel) (by decide +kernel)
set_option maxRecDepth 20000 in
theorem gX8_fits_X8_isThing : GoodIn wsX8_fits (wsV RX8 177 RX8 yX8_isThing wsX8_isThing) := goodIn_app (goodIn_of _ (by decide +kernel)) ggX8_fits_X8_isThing
set_option maxRecDepth 20000 in
theorem ggX8_fits_X8_isRow : GoodIn wsX8_fits wsX8_isRow := goodIn_r _ [17, 18, 12, 13, 9, 14] (by decide +kernel) (by decide +kernel)
set_option maxRecDepth 20000 in
theorem gX8_fits_X8_isRow : GoodIn wsX8_fits (va_wsS RX8 64 yX8_isRow wsX8_isRow) := goodIn_app (goodIn_of _ (by decide +kernel)) ggX8_fits_X8_isRow
set_option maxRecDepth 20000 in
theorem ggX8_fits_X8_in : GoodIn wsX8_fits wsX8_in := goodIn_r _ [14] (by decide +kernel) (by decide +kernel)
set_option maxRecDepth 20000 in
theorem gX8_fits_X8_in : GoodIn wsX8_fits (va_wsS RX8 60 yX8_in wsX8_in) := goodIn_app (goodIn_of _ (by decide +kernel)) ggX8_fits_X8_in
set_option maxRecDepth 20000 in
theorem ggX8_fits_X8_found : GoodIn wsX8_fits wsX8_found := goodIn_r _ [22, 23, 24, 65, 66, 67, 68, 69, 70, 71, 72, 73, 74, 75, 76, 77, 78, 79, 80, 81, 82, 83, 84, 85, 86, 87, 88] (by decide +kernel) (by decide +kernel)
set_option maxRecDepth 20000 in
theorem gX8_fits_X8_found : GoodIn wsX8_fits (wsV RX8 71 RX8 yX8_found wsX8_found) := goodIn_app (goodIn_of _ (by decide +kernel)) ggX8_fits_X8_found
set_option maxRecDepth 20000 in
theorem ggX8_fits_X8_layAside : GoodIn wsX8_fits wsX8_layAside := goodIn_r _ [28, 11, 5, 29, 30, 9, 31, 65, 66, 67, 68, 69, 70, 71, 72, 73, 74, 75, 76, 77, 78, 79, 80, 81, 82, 83, 84, 85, 86, 87, 88] (by decide +kernel) (by decide +kernel)
set_option maxRecDepth 20000 in
theorem gX8_fits_X8_layAside : GoodIn wsX8_fits (wsV RX8 197 RX8 yX8_layAside wsX8_layAside) := goodIn_app (goodIn_of _ (by decide +kernel)) ggX8_fits_X8_layAside
set_option maxRecDepth 20000 in
theorem ggX8_fits_X8_comes : GoodIn wsX8_fits wsX8_comes := goodIn_r _ [35, 36, 5, 37, 38, 39, 9, 40, 41, 42, 43, 44, 45, 46, 47, 48, 49, 50, 51, 52, 53, 54, 55, 56, 57, 58, 59, 60, 65, 66, 67, 68, 69, 70, 71, 72, 73, 74, 75, 76, 77, 78, 79, 80, 81, 82, 83, 84, 85, 86, 87, 88] (by decide +kernel) (by decide +kernel)
set_option maxRecDepth 20000 in
theorem gX8_fits_X8_comes : GoodIn wsX8_fits (wsV RX8 223 RX8 yX8_comes wsX8_comes) := goodIn_app (goodIn_of _ (by decide +kernel)) ggX8_fits_X8_comes
set_option maxRecDepth 20000 in
theorem ggX8_fits_X8_well : GoodIn wsX8_fits wsX8_well := goodIn_r _ [64, 23, 65, 66, 67, 68, 69, 70, 71, 72, 73, 74, 75, 76, 77, 78, 79, 80, 81, 82, 83, 84, 85, 86, 87, 88] (by decide +kernel) (by decide +kernel)
set_option maxRecDepth 20000 in
theorem gX8_fits_X8_well : GoodIn wsX8_fits (wsV RX8 75 RX8 yX8_well wsX8_well) := goodIn_app (goodIn_of _ (by decide +kernel)) ggX8_fits_X8_well
theorem dX8_fits_0 : decode cX8_fits 0 = .ok (.aload_n 0, 1) := by decide +kernel
theorem dX8_fits_1 : decode cX8_fits 1 = .ok (.iload_n 1, 1) := by decide +kernel
theorem dX8_fits_2 : decode cX8_fits 2 = .ok (.invokevirtual 177, 3) := by decide +kernel
theorem dX8_fits_5 : decode cX8_fits 5 = .ok (.ifCond .eq 36, 3) := by decide +kernel
theorem dX8_fits_8 : decode cX8_fits 8 = .ok (.iload_n 2, 1) := by decide +kernel
theorem dX8_fits_9 : decode cX8_fits 9 = .ok (.invokestatic 64, 3) := by decide +kernel
theorem dX8_fits_12 : decode cX8_fits 12 = .ok (.ifCond .eq 29, 3) := by decide +kernel
theorem dX8_fits_15 : decode cX8_fits 15 = .ok (.iload 4, 2) := by decide +kernel
theorem dX8_fits_17 : decode cX8_fits 17 = .ok (.i2l, 1) := by decide +kernel
theorem dX8_fits_18 : decode cX8_fits 18 = .ok (.lconst 1, 1) := by decide +kernel
theorem dX8_fits_19 : decode cX8_fits 19 = .ok (.ldc2_w 221, 3) := by decide +kernel
theorem dX8_fits_22 : decode cX8_fits 22 = .ok (.invokestatic 60, 3) := by decide +kernel
theorem dX8_fits_25 : decode cX8_fits 25 = .ok (.ifCond .eq 16, 3) := by decide +kernel
theorem dX8_fits_28 : decode cX8_fits 28 = .ok (.iload 5, 2) := by decide +kernel
theorem dX8_fits_30 : decode cX8_fits 30 = .ok (.i2l, 1) := by decide +kernel
theorem dX8_fits_31 : decode cX8_fits 31 = .ok (.lconst 0, 1) := by decide +kernel
theorem dX8_fits_32 : decode cX8_fits 32 = .ok (.ldc2_w 68, 3) := by decide +kernel
theorem dX8_fits_35 : decode cX8_fits 35 = .ok (.invokestatic 60, 3) := by decide +kernel
theorem dX8_fits_38 : decode cX8_fits 38 = .ok (.ifCond .ne 6, 3) := by decide +kernel
theorem dX8_fits_41 : decode cX8_fits 41 = .ok (.ldc 70, 2) := by decide +kernel
theorem dX8_fits_43 : decode cX8_fits 43 = .ok (.ireturn, 1) := by decide +kernel
theorem dX8_fits_44 : decode cX8_fits 44 = .ok (.aload_n 0, 1) := by decide +kernel
theorem dX8_fits_45 : decode cX8_fits 45 = .ok (.getfield 13, 3) := by decide +kernel
theorem dX8_fits_48 : decode cX8_fits 48 = .ok (.iload_n 2, 1) := by decide +kernel
theorem dX8_fits_49 : decode cX8_fits 49 = .ok (.iaload, 1) := by decide +kernel
theorem dX8_fits_50 : decode cX8_fits 50 = .ok (.ifCond .ge 9, 3) := by decide +kernel
theorem dX8_fits_53 : decode cX8_fits 53 = .ok (.aload_n 0, 1) := by decide +kernel
theorem dX8_fits_54 : decode cX8_fits 54 = .ok (.iconst 1, 1) := by decide +kernel
theorem dX8_fits_55 : decode cX8_fits 55 = .ok (.invokevirtual 71, 3) := by decide +kernel
theorem dX8_fits_58 : decode cX8_fits 58 = .ok (.ireturn, 1) := by decide +kernel
theorem dX8_fits_59 : decode cX8_fits 59 = .ok (.iload_n 3, 1) := by decide +kernel
theorem dX8_fits_60 : decode cX8_fits 60 = .ok (.ifCond .lt 20, 3) := by decide +kernel
theorem dX8_fits_63 : decode cX8_fits 63 = .ok (.iload_n 3, 1) := by decide +kernel
theorem dX8_fits_64 : decode cX8_fits 64 = .ok (.i2l, 1) := by decide +kernel
theorem dX8_fits_65 : decode cX8_fits 65 = .ok (.iload 4, 2) := by decide +kernel
theorem dX8_fits_67 : decode cX8_fits 67 = .ok (.i2l, 1) := by decide +kernel
theorem dX8_fits_68 : decode cX8_fits 68 = .ok (.ladd, 1) := by decide +kernel
theorem dX8_fits_69 : decode cX8_fits 69 = .ok (.aload_n 0, 1) := by decide +kernel
theorem dX8_fits_70 : decode cX8_fits 70 = .ok (.getfield 13, 3) := by decide +kernel
theorem dX8_fits_73 : decode cX8_fits 73 = .ok (.iload_n 2, 1) := by decide +kernel
theorem dX8_fits_74 : decode cX8_fits 74 = .ok (.iaload, 1) := by decide +kernel
theorem dX8_fits_75 : decode cX8_fits 75 = .ok (.i2l, 1) := by decide +kernel
theorem dX8_fits_76 : decode cX8_fits 76 = .ok (.lcmp, 1) := by decide +kernel
theorem dX8_fits_77 : decode cX8_fits 77 = .ok (.ifCond .le 9, 3) := by decide +kernel
theorem dX8_fits_80 : decode cX8_fits 80 = .ok (.aload_n 0, 1) := by decide +kernel
theorem dX8_fits_81 : decode cX8_fits 81 = .ok (.iconst 2, 1) := by decide +kernel
theorem dX8_fits_82 : decode cX8_fits 82 = .ok (.invokevirtual 71, 3) := by decide +kernel
theorem dX8_fits_85 : decode cX8_fits 85 = .ok (.ireturn, 1) := by decide +kernel
theorem dX8_fits_86 : decode cX8_fits 86 = .ok (.iconst 0, 1) := by decide +kernel
theorem dX8_fits_87 : decode cX8_fits 87 = .ok (.istore 6, 2) := by decide +kernel
theorem dX8_fits_89 : decode cX8_fits 89 = .ok (.iload 5, 2) := by decide +kernel
theorem dX8_fits_91 : decode cX8_fits 91 = .ok (.iconst 2, 1) := by decide +kernel
theorem dX8_fits_92 : decode cX8_fits 92 = .ok (.if_icmp .ne 7, 3) := by decide +kernel
theorem dX8_fits_95 : decode cX8_fits 95 = .ok (.iconst 0, 1) := by decide +kernel
theorem dX8_fits_96 : decode cX8_fits 96 = .ok (.goto 4, 3) := by decide +kernel
theorem dX8_fits_99 : decode cX8_fits 99 = .ok (.iconst 1, 1) := by decide +kernel
theorem dX8_fits_100 : decode cX8_fits 100 = .ok (.istore 7, 2) := by decide +kernel
theorem dX8_fits_102 : decode cX8_fits 102 = .ok (.iload 5, 2) := by decide +kernel
theorem dX8_fits_104 : decode cX8_fits 104 = .ok (.ifCond .ne 7, 3) := by decide +kernel
theorem dX8_fits_107 : decode cX8_fits 107 = .ok (.iconst 5, 1) := by decide +kernel
theorem dX8_fits_108 : decode cX8_fits 108 = .ok (.goto 15, 3) := by decide +kernel
theorem dX8_fits_111 : decode cX8_fits 111 = .ok (.iload 5, 2) := by decide +kernel
theorem dX8_fits_113 : decode cX8_fits 113 = .ok (.iconst 1, 1) := by decide +kernel
theorem dX8_fits_114 : decode cX8_fits 114 = .ok (.if_icmp .ne 8, 3) := by decide +kernel
theorem dX8_fits_117 : decode cX8_fits 117 = .ok (.bipush 9, 2) := by decide +kernel
theorem dX8_fits_119 : decode cX8_fits 119 = .ok (.goto 4, 3) := by decide +kernel
theorem dX8_fits_122 : decode cX8_fits 122 = .ok (.iconst 3, 1) := by decide +kernel
theorem dX8_fits_123 : decode cX8_fits 123 = .ok (.istore 8, 2) := by decide +kernel
theorem dX8_fits_125 : decode cX8_fits 125 = .ok (.iload 5, 2) := by decide +kernel
theorem dX8_fits_127 : decode cX8_fits 127 = .ok (.ifCond .ne 7, 3) := by decide +kernel
theorem dX8_fits_130 : decode cX8_fits 130 = .ok (.iconst 3, 1) := by decide +kernel
theorem dX8_fits_131 : decode cX8_fits 131 = .ok (.goto 16, 3) := by decide +kernel
theorem dX8_fits_134 : decode cX8_fits 134 = .ok (.iload 5, 2) := by decide +kernel
theorem dX8_fits_136 : decode cX8_fits 136 = .ok (.iconst 1, 1) := by decide +kernel
theorem dX8_fits_137 : decode cX8_fits 137 = .ok (.if_icmp .ne 8, 3) := by decide +kernel
theorem dX8_fits_140 : decode cX8_fits 140 = .ok (.bipush 8, 2) := by decide +kernel
theorem dX8_fits_142 : decode cX8_fits 142 = .ok (.goto 5, 3) := by decide +kernel
theorem dX8_fits_145 : decode cX8_fits 145 = .ok (.bipush 18, 2) := by decide +kernel
theorem dX8_fits_147 : decode cX8_fits 147 = .ok (.istore 9, 2) := by decide +kernel
theorem dX8_fits_149 : decode cX8_fits 149 = .ok (.iload 7, 2) := by decide +kernel
theorem dX8_fits_151 : decode cX8_fits 151 = .ok (.istore 10, 2) := by decide +kernel
theorem dX8_fits_153 : decode cX8_fits 153 = .ok (.iload 10, 2) := by decide +kernel
theorem dX8_fits_155 : decode cX8_fits 155 = .ok (.iload 8, 2) := by decide +kernel
theorem dX8_fits_157 : decode cX8_fits 157 = .ok (.if_icmp .gt 64, 3) := by decide +kernel
theorem dX8_fits_160 : decode cX8_fits 160 = .ok (.aload_n 0, 1) := by decide +kernel
theorem dX8_fits_161 : decode cX8_fits 161 = .ok (.invokevirtual 197, 3) := by decide +kernel
theorem dX8_fits_164 : decode cX8_fits 164 = .ok (.aload_n 0, 1) := by decide +kernel
theorem dX8_fits_165 : decode cX8_fits 165 = .ok (.getfield 25, 3) := by decide +kernel
theorem dX8_fits_168 : decode cX8_fits 168 = .ok (.iload 9, 2) := by decide +kernel
theorem dX8_fits_170 : decode cX8_fits 170 = .ok (.iload_n 1, 1) := by decide +kernel
theorem dX8_fits_171 : decode cX8_fits 171 = .ok (.iadd, 1) := by decide +kernel
theorem dX8_fits_172 : decode cX8_fits 172 = .ok (.iload 10, 2) := by decide +kernel
theorem dX8_fits_174 : decode cX8_fits 174 = .ok (.iastore, 1) := by decide +kernel
theorem dX8_fits_175 : decode cX8_fits 175 = .ok (.iload 6, 2) := by decide +kernel
theorem dX8_fits_177 : decode cX8_fits 177 = .ok (.aload_n 0, 1) := by decide +kernel
theorem dX8_fits_178 : decode cX8_fits 178 = .ok (.iload_n 1, 1) := by decide +kernel
theorem dX8_fits_179 : decode cX8_fits 179 = .ok (.bipush 40, 2) := by decide +kernel
theorem dX8_fits_181 : decode cX8_fits 181 = .ok (.iload_n 2, 1) := by decide +kernel
theorem dX8_fits_182 : decode cX8_fits 182 = .ok (.imul, 1) := by decide +kernel
theorem dX8_fits_183 : decode cX8_fits 183 = .ok (.iload_n 3, 1) := by decide +kernel
theorem dX8_fits_184 : decode cX8_fits 184 = .ok (.iadd, 1) := by decide +kernel
theorem dX8_fits_185 : decode cX8_fits 185 = .ok (.iload 4, 2) := by decide +kernel
theorem dX8_fits_187 : decode cX8_fits 187 = .ok (.iload 5, 2) := by decide +kernel
theorem dX8_fits_189 : decode cX8_fits 189 = .ok (.iconst 2, 1) := by decide +kernel
theorem dX8_fits_190 : decode cX8_fits 190 = .ok (.if_icmp .ne 7, 3) := by decide +kernel
theorem dX8_fits_193 : decode cX8_fits 193 = .ok (.iconst 1, 1) := by decide +kernel
theorem dX8_fits_194 : decode cX8_fits 194 = .ok (.goto 4, 3) := by decide +kernel
theorem dX8_fits_197 : decode cX8_fits 197 = .ok (.iconst 0, 1) := by decide +kernel
theorem dX8_fits_198 : decode cX8_fits 198 = .ok (.invokevirtual 223, 3) := by decide +kernel
theorem dX8_fits_201 : decode cX8_fits 201 = .ok (.ifCond .eq 10, 3) := by decide +kernel
theorem dX8_fits_204 : decode cX8_fits 204 = .ok (.iconst 1, 1) := by decide +kernel
theorem dX8_fits_205 : decode cX8_fits 205 = .ok (.iload 10, 2) := by decide +kernel
theorem dX8_fits_207 : decode cX8_fits 207 = .ok (.ishl, 1) := by decide +kernel
theorem dX8_fits_208 : decode cX8_fits 208 = .ok (.goto 4, 3) := by decide +kernel
theorem dX8_fits_211 : decode cX8_fits 211 = .ok (.iconst 0, 1) := by decide +kernel
theorem dX8_fits_212 : decode cX8_fits 212 = .ok (.ior, 1) := by decide +kernel
theorem dX8_fits_213 : decode cX8_fits 213 = .ok (.istore 6, 2) := by decide +kernel
theorem dX8_fits_215 : decode cX8_fits 215 = .ok (.iinc 10 1, 3) := by decide +kernel
theorem dX8_fits_218 : decode cX8_fits 218 = .ok (.goto (-65), 3) := by decide +kernel
theorem dX8_fits_221 : decode cX8_fits 221 = .ok (.aload_n 0, 1) := by decide +kernel
theorem dX8_fits_222 : decode cX8_fits 222 = .ok (.iload 6, 2) := by decide +kernel
theorem dX8_fits_224 : decode cX8_fits 224 = .ok (.invokevirtual 75, 3) := by decide +kernel
theorem dX8_fits_227 : decode cX8_fits 227 = .ok (.ireturn, 1) := by decide +kernel
set_option maxRecDepth 20000 in
theorem ggX8_moles_X8_isMine : GoodIn wsX8_moles wsX8_isMine := goodIn_r _ [10, 4, 49, 50, 51, 52, 53, 54, 55, 56, 57, 58, 59, 60, 61, 62, 63, 64, 65, 66, 67, 68, 69, 70, 71, 72] (by decide +kernel) (by decide +kernel)
set_option maxRecDepth 20000 in
theorem gX8_moles_X8_isMine : GoodIn wsX8_moles (wsV RX8 160 RX8 yX8_isMine wsX8_isMine) := goodIn_app (goodIn_of _ (by decide +kernel)) ggX8_moles_X8_isMine
set_option maxRecDepth 20000 in
theorem ggX8_moles_X8_isSpan : GoodIn wsX8_moles wsX8_isSpan := goodIn_r _ [13, 14, 15, 16, 9, 17] (by decide +kernel) (by decide +kernel)
set_option maxRecDepth 20000 in
theorem gX8_moles_X8_isSpan : GoodIn wsX8_moles (va_wsS RX8 194 yX8_isSpan wsX8_isSpan) := goodIn_app (goodIn_of _ (by decide +kernel)) ggX8_moles_X8_isSpan
set_option maxRecDepth 20000 in
theorem ggX8_moles_X8_in : GoodIn wsX8_moles wsX8_in := goodIn_r _ [17] (by decide +kernel) (by decide +kernel)
set_option maxRecDepth 20000 in
theorem gX8_moles_X8_in : GoodIn wsX8_moles (va_wsS RX8 60 yX8_in wsX8_in) := goodIn_app (goodIn_of _ (by decide +kernel)) ggX8_moles_X8_in
set_option maxRecDepth 20000 in
theorem ggX8_moles_X8_isTwo : GoodIn wsX8_moles wsX8_isTwo := goodIn_r _ [20, 15, 16, 9, 17] (by decide +kernel) (by decide +kernel)
set_option maxRecDepth 20000 in
theorem gX8_moles_X8_isTwo : GoodIn wsX8_moles (va_wsS RX8 184 yX8_isTwo wsX8_isTwo) := goodIn_app (goodIn_of _ (by decide +kernel)) ggX8_moles_X8_isTwo
set_option maxRecDepth 20000 in
theorem ggX8_moles_X8_upOf : GoodIn wsX8_moles wsX8_upOf := goodIn_r _ [23, 24, 25, 9, 26] (by decide +kernel) (by decide +kernel)
set_option maxRecDepth 20000 in
theorem gX8_moles_X8_upOf : GoodIn wsX8_moles (va_wsS RX8 173 yX8_upOf wsX8_upOf) := goodIn_app (goodIn_of _ (by decide +kernel)) ggX8_moles_X8_upOf
set_option maxRecDepth 20000 in
theorem ggX8_moles_X8_has : GoodIn wsX8_moles wsX8_has := goodIn_r _ [29] (by decide +kernel) (by decide +kernel)
set_option maxRecDepth 20000 in
theorem gX8_moles_X8_has : GoodIn wsX8_moles (va_wsS RX8 187 yX8_has wsX8_has) := goodIn_app (goodIn_of _ (by decide +kernel)) ggX8_moles_X8_has
set_option maxRecDepth 20000 in
theorem ggX8_moles_X8_layAside : GoodIn wsX8_moles wsX8_layAside := goodIn_r _ [33, 4, 5, 34, 35, 9, 36, 49, 50, 51, 52, 53, 54, 55, 56, 57, 58, 59, 60, 61, 62, 63, 64, 65, 66, 67, 68, 69, 70, 71, 72] (by decide +kernel) (by decide +kernel)
set_option maxRecDepth 20000 in
theorem gX8_moles_X8_layAside : GoodIn wsX8_moles (wsV RX8 197 RX8 yX8_layAside wsX8_layAside) := goodIn_app (goodIn_of _ (by decide +kernel)) ggX8_moles_X8_layAside
set_option maxRecDepth 20000 in
theorem ggX8_moles_X8_go : GoodIn wsX8_moles wsX8_go := goodIn_r _ [40, 5, 41, 42, 43, 9, 44, 45, 46, 47, 48, 24, 25, 26, 49, 50, 51, 52, 53, 54, 55, 56, 57, 58, 59, 60, 61, 62, 63, 64, 65, 66, 67, 68, 69, 70, 71, 72] (by decide +kernel) (by decide +kernel)
set_option maxRecDepth 20000 in
theorem gX8_moles_X8_go : GoodIn wsX8_moles (wsV RX8 200 RX8 yX8_go wsX8_go) := goodIn_app (goodIn_of _ (by decide +kernel)) ggX8_moles_X8_go
theorem dX8_moles_0 : decode cX8_moles 0 = .ok (.aload_n 0, 1) := by decide +kernel
theorem dX8_moles_1 : decode cX8_moles 1 = .ok (.invokevirtual 160, 3) := by decide +kernel
theorem dX8_moles_4 : decode cX8_moles 4 = .ok (.ifCond .ne 6, 3) := by decide +kernel
theorem dX8_moles_7 : decode cX8_moles 7 = .ok (.ldc 163, 2) := by decide +kernel
theorem dX8_moles_9 : decode cX8_moles 9 = .ok (.ireturn, 1) := by decide +kernel
theorem dX8_moles_10 : decode cX8_moles 10 = .ok (.iload_n 1, 1) := by decide +kernel
theorem dX8_moles_11 : decode cX8_moles 11 = .ok (.invokestatic 194, 3) := by decide +kernel
theorem dX8_moles_14 : decode cX8_moles 14 = .ok (.ifCond .eq 22, 3) := by decide +kernel
theorem dX8_moles_17 : decode cX8_moles 17 = .ok (.iload_n 2, 1) := by decide +kernel
theorem dX8_moles_18 : decode cX8_moles 18 = .ok (.i2l, 1) := by decide +kernel
theorem dX8_moles_19 : decode cX8_moles 19 = .ok (.lconst 0, 1) := by decide +kernel
theorem dX8_moles_20 : decode cX8_moles 20 = .ok (.ldc2_w 227, 3) := by decide +kernel
theorem dX8_moles_23 : decode cX8_moles 23 = .ok (.invokestatic 60, 3) := by decide +kernel
theorem dX8_moles_26 : decode cX8_moles 26 = .ok (.ifCond .eq 10, 3) := by decide +kernel
theorem dX8_moles_29 : decode cX8_moles 29 = .ok (.iload_n 3, 1) := by decide +kernel
theorem dX8_moles_30 : decode cX8_moles 30 = .ok (.invokestatic 184, 3) := by decide +kernel
theorem dX8_moles_33 : decode cX8_moles 33 = .ok (.ifCond .ne 6, 3) := by decide +kernel
theorem dX8_moles_36 : decode cX8_moles 36 = .ok (.ldc 70, 2) := by decide +kernel
theorem dX8_moles_38 : decode cX8_moles 38 = .ok (.ireturn, 1) := by decide +kernel
theorem dX8_moles_39 : decode cX8_moles 39 = .ok (.aload_n 0, 1) := by decide +kernel
theorem dX8_moles_40 : decode cX8_moles 40 = .ok (.getfield 19, 3) := by decide +kernel
theorem dX8_moles_43 : decode cX8_moles 43 = .ok (.invokestatic 173, 3) := by decide +kernel
theorem dX8_moles_46 : decode cX8_moles 46 = .ok (.istore 4, 2) := by decide +kernel
theorem dX8_moles_48 : decode cX8_moles 48 = .ok (.iconst 1, 1) := by decide +kernel
theorem dX8_moles_49 : decode cX8_moles 49 = .ok (.aload_n 0, 1) := by decide +kernel
theorem dX8_moles_50 : decode cX8_moles 50 = .ok (.getfield 19, 3) := by decide +kernel
theorem dX8_moles_53 : decode cX8_moles 53 = .ok (.iconst 0, 1) := by decide +kernel
theorem dX8_moles_54 : decode cX8_moles 54 = .ok (.iaload, 1) := by decide +kernel
theorem dX8_moles_55 : decode cX8_moles 55 = .ok (.ishl, 1) := by decide +kernel
theorem dX8_moles_56 : decode cX8_moles 56 = .ok (.iconst 1, 1) := by decide +kernel
theorem dX8_moles_57 : decode cX8_moles 57 = .ok (.isub, 1) := by decide +kernel
theorem dX8_moles_58 : decode cX8_moles 58 = .ok (.istore 5, 2) := by decide +kernel
theorem dX8_moles_60 : decode cX8_moles 60 = .ok (.lconst 0, 1) := by decide +kernel
theorem dX8_moles_61 : decode cX8_moles 61 = .ok (.lstore 6, 2) := by decide +kernel
theorem dX8_moles_63 : decode cX8_moles 63 = .ok (.lconst 1, 1) := by decide +kernel
theorem dX8_moles_64 : decode cX8_moles 64 = .ok (.lstore 8, 2) := by decide +kernel
theorem dX8_moles_66 : decode cX8_moles 66 = .ok (.iconst 0, 1) := by decide +kernel
theorem dX8_moles_67 : decode cX8_moles 67 = .ok (.istore 10, 2) := by decide +kernel
theorem dX8_moles_69 : decode cX8_moles 69 = .ok (.iload 10, 2) := by decide +kernel
theorem dX8_moles_71 : decode cX8_moles 71 = .ok (.aload_n 0, 1) := by decide +kernel
theorem dX8_moles_72 : decode cX8_moles 72 = .ok (.getfield 19, 3) := by decide +kernel
theorem dX8_moles_75 : decode cX8_moles 75 = .ok (.iconst 0, 1) := by decide +kernel
theorem dX8_moles_76 : decode cX8_moles 76 = .ok (.iaload, 1) := by decide +kernel
theorem dX8_moles_77 : decode cX8_moles 77 = .ok (.if_icmp .ge 31, 3) := by decide +kernel
theorem dX8_moles_80 : decode cX8_moles 80 = .ok (.lload 8, 2) := by decide +kernel
theorem dX8_moles_82 : decode cX8_moles 82 = .ok (.iload 4, 2) := by decide +kernel
theorem dX8_moles_84 : decode cX8_moles 84 = .ok (.iload 10, 2) := by decide +kernel
theorem dX8_moles_86 : decode cX8_moles 86 = .ok (.invokestatic 187, 3) := by decide +kernel
theorem dX8_moles_89 : decode cX8_moles 89 = .ok (.ifCond .eq 7, 3) := by decide +kernel
theorem dX8_moles_92 : decode cX8_moles 92 = .ok (.lconst 1, 1) := by decide +kernel
theorem dX8_moles_93 : decode cX8_moles 93 = .ok (.goto 6, 3) := by decide +kernel
theorem dX8_moles_96 : decode cX8_moles 96 = .ok (.ldc2_w 227, 3) := by decide +kernel
theorem dX8_moles_99 : decode cX8_moles 99 = .ok (.lmul, 1) := by decide +kernel
theorem dX8_moles_100 : decode cX8_moles 100 = .ok (.lstore 8, 2) := by decide +kernel
theorem dX8_moles_102 : decode cX8_moles 102 = .ok (.iinc 10 1, 3) := by decide +kernel
theorem dX8_moles_105 : decode cX8_moles 105 = .ok (.goto (-36), 3) := by decide +kernel
theorem dX8_moles_108 : decode cX8_moles 108 = .ok (.iconst 0, 1) := by decide +kernel
theorem dX8_moles_109 : decode cX8_moles 109 = .ok (.istore 10, 2) := by decide +kernel
theorem dX8_moles_111 : decode cX8_moles 111 = .ok (.iload 10, 2) := by decide +kernel
theorem dX8_moles_113 : decode cX8_moles 113 = .ok (.iload 5, 2) := by decide +kernel
theorem dX8_moles_115 : decode cX8_moles 115 = .ok (.if_icmp .gt 139, 3) := by decide +kernel
theorem dX8_moles_118 : decode cX8_moles 118 = .ok (.iload 10, 2) := by decide +kernel
theorem dX8_moles_120 : decode cX8_moles 120 = .ok (.iload 4, 2) := by decide +kernel
theorem dX8_moles_122 : decode cX8_moles 122 = .ok (.iand, 1) := by decide +kernel
theorem dX8_moles_123 : decode cX8_moles 123 = .ok (.ifCond .ne 125, 3) := by decide +kernel
theorem dX8_moles_126 : decode cX8_moles 126 = .ok (.aload_n 0, 1) := by decide +kernel
theorem dX8_moles_127 : decode cX8_moles 127 = .ok (.invokevirtual 197, 3) := by decide +kernel
theorem dX8_moles_130 : decode cX8_moles 130 = .ok (.lconst 1, 1) := by decide +kernel
theorem dX8_moles_131 : decode cX8_moles 131 = .ok (.lstore 11, 2) := by decide +kernel
theorem dX8_moles_133 : decode cX8_moles 133 = .ok (.iconst 0, 1) := by decide +kernel
theorem dX8_moles_134 : decode cX8_moles 134 = .ok (.istore 13, 2) := by decide +kernel
theorem dX8_moles_136 : decode cX8_moles 136 = .ok (.iload 13, 2) := by decide +kernel
theorem dX8_moles_138 : decode cX8_moles 138 = .ok (.aload_n 0, 1) := by decide +kernel
theorem dX8_moles_139 : decode cX8_moles 139 = .ok (.getfield 19, 3) := by decide +kernel
theorem dX8_moles_142 : decode cX8_moles 142 = .ok (.iconst 0, 1) := by decide +kernel
theorem dX8_moles_143 : decode cX8_moles 143 = .ok (.iaload, 1) := by decide +kernel
theorem dX8_moles_144 : decode cX8_moles 144 = .ok (.if_icmp .ge 76, 3) := by decide +kernel
theorem dX8_moles_147 : decode cX8_moles 147 = .ok (.lload 11, 2) := by decide +kernel
theorem dX8_moles_149 : decode cX8_moles 149 = .ok (.iload 4, 2) := by decide +kernel
theorem dX8_moles_151 : decode cX8_moles 151 = .ok (.iload 13, 2) := by decide +kernel
theorem dX8_moles_153 : decode cX8_moles 153 = .ok (.invokestatic 187, 3) := by decide +kernel
theorem dX8_moles_156 : decode cX8_moles 156 = .ok (.ifCond .eq 7, 3) := by decide +kernel
theorem dX8_moles_159 : decode cX8_moles 159 = .ok (.lconst 1, 1) := by decide +kernel
theorem dX8_moles_160 : decode cX8_moles 160 = .ok (.goto 23, 3) := by decide +kernel
theorem dX8_moles_163 : decode cX8_moles 163 = .ok (.iload 10, 2) := by decide +kernel
theorem dX8_moles_165 : decode cX8_moles 165 = .ok (.iload 13, 2) := by decide +kernel
theorem dX8_moles_167 : decode cX8_moles 167 = .ok (.invokestatic 187, 3) := by decide +kernel
theorem dX8_moles_170 : decode cX8_moles 170 = .ok (.ifCond .eq 8, 3) := by decide +kernel
theorem dX8_moles_173 : decode cX8_moles 173 = .ok (.iload_n 2, 1) := by decide +kernel
theorem dX8_moles_174 : decode cX8_moles 174 = .ok (.i2l, 1) := by decide +kernel
theorem dX8_moles_175 : decode cX8_moles 175 = .ok (.goto 8, 3) := by decide +kernel
theorem dX8_moles_178 : decode cX8_moles 178 = .ok (.bipush 10, 2) := by decide +kernel
theorem dX8_moles_180 : decode cX8_moles 180 = .ok (.iload_n 2, 1) := by decide +kernel
theorem dX8_moles_181 : decode cX8_moles 181 = .ok (.isub, 1) := by decide +kernel
theorem dX8_moles_182 : decode cX8_moles 182 = .ok (.i2l, 1) := by decide +kernel
theorem dX8_moles_183 : decode cX8_moles 183 = .ok (.lmul, 1) := by decide +kernel
theorem dX8_moles_184 : decode cX8_moles 184 = .ok (.lstore 11, 2) := by decide +kernel
theorem dX8_moles_186 : decode cX8_moles 186 = .ok (.aload_n 0, 1) := by decide +kernel
theorem dX8_moles_187 : decode cX8_moles 187 = .ok (.getfield 25, 3) := by decide +kernel
theorem dX8_moles_190 : decode cX8_moles 190 = .ok (.bipush 13, 2) := by decide +kernel
theorem dX8_moles_192 : decode cX8_moles 192 = .ok (.iload 13, 2) := by decide +kernel
theorem dX8_moles_194 : decode cX8_moles 194 = .ok (.iadd, 1) := by decide +kernel
theorem dX8_moles_195 : decode cX8_moles 195 = .ok (.dup2, 1) := by decide +kernel
theorem dX8_moles_196 : decode cX8_moles 196 = .ok (.iaload, 1) := by decide +kernel
theorem dX8_moles_197 : decode cX8_moles 197 = .ok (.iload 10, 2) := by decide +kernel
theorem dX8_moles_199 : decode cX8_moles 199 = .ok (.iload 13, 2) := by decide +kernel
theorem dX8_moles_201 : decode cX8_moles 201 = .ok (.invokestatic 187, 3) := by decide +kernel
theorem dX8_moles_204 : decode cX8_moles 204 = .ok (.ifCond .eq 7, 3) := by decide +kernel
theorem dX8_moles_207 : decode cX8_moles 207 = .ok (.iconst 1, 1) := by decide +kernel
theorem dX8_moles_208 : decode cX8_moles 208 = .ok (.goto 4, 3) := by decide +kernel
theorem dX8_moles_211 : decode cX8_moles 211 = .ok (.iconst 0, 1) := by decide +kernel
theorem dX8_moles_212 : decode cX8_moles 212 = .ok (.isub, 1) := by decide +kernel
theorem dX8_moles_213 : decode cX8_moles 213 = .ok (.iastore, 1) := by decide +kernel
theorem dX8_moles_214 : decode cX8_moles 214 = .ok (.iinc 13 1, 3) := by decide +kernel
theorem dX8_moles_217 : decode cX8_moles 217 = .ok (.goto (-81), 3) := by decide +kernel
theorem dX8_moles_220 : decode cX8_moles 220 = .ok (.aload_n 0, 1) := by decide +kernel
theorem dX8_moles_221 : decode cX8_moles 221 = .ok (.iload_n 1, 1) := by decide +kernel
theorem dX8_moles_222 : decode cX8_moles 222 = .ok (.invokevirtual 200, 3) := by decide +kernel
theorem dX8_moles_225 : decode cX8_moles 225 = .ok (.lload 6, 2) := by decide +kernel
theorem dX8_moles_227 : decode cX8_moles 227 = .ok (.aload_n 0, 1) := by decide +kernel
theorem dX8_moles_228 : decode cX8_moles 228 = .ok (.getfield 25, 3) := by decide +kernel
theorem dX8_moles_231 : decode cX8_moles 231 = .ok (.invokestatic 173, 3) := by decide +kernel
theorem dX8_moles_234 : decode cX8_moles 234 = .ok (.iload 4, 2) := by decide +kernel
theorem dX8_moles_236 : decode cX8_moles 236 = .ok (.if_icmp .ne 8, 3) := by decide +kernel
theorem dX8_moles_239 : decode cX8_moles 239 = .ok (.lload 11, 2) := by decide +kernel
theorem dX8_moles_241 : decode cX8_moles 241 = .ok (.goto 4, 3) := by decide +kernel
theorem dX8_moles_244 : decode cX8_moles 244 = .ok (.lconst 0, 1) := by decide +kernel
theorem dX8_moles_245 : decode cX8_moles 245 = .ok (.ladd, 1) := by decide +kernel
theorem dX8_moles_246 : decode cX8_moles 246 = .ok (.lstore 6, 2) := by decide +kernel
theorem dX8_moles_248 : decode cX8_moles 248 = .ok (.iinc 10 1, 3) := by decide +kernel
theorem dX8_moles_251 : decode cX8_moles 251 = .ok (.goto (-140), 3) := by decide +kernel
theorem dX8_moles_254 : decode cX8_moles 254 = .ok (.lload 6, 2) := by decide +kernel
theorem dX8_moles_256 : decode cX8_moles 256 = .ok (.lstore 10, 2) := by decide +kernel
theorem dX8_moles_258 : decode cX8_moles 258 = .ok (.lload 8, 2) := by decide +kernel
theorem dX8_moles_260 : decode cX8_moles 260 = .ok (.lstore 12, 2) := by decide +kernel
theorem dX8_moles_262 : decode cX8_moles 262 = .ok (.lload 12, 2) := by decide +kernel
theorem dX8_moles_264 : decode cX8_moles 264 = .ok (.lconst 0, 1) := by decide +kernel
theorem dX8_moles_265 : decode cX8_moles 265 = .ok (.lcmp, 1) := by decide +kernel
theorem dX8_moles_266 : decode cX8_moles 266 = .ok (.ifCond .eq 21, 3) := by decide +kernel
theorem dX8_moles_269 : decode cX8_moles 269 = .ok (.lload 10, 2) := by decide +kernel
theorem dX8_moles_271 : decode cX8_moles 271 = .ok (.lload 12, 2) := by decide +kernel
theorem dX8_moles_273 : decode cX8_moles 273 = .ok (.lrem, 1) := by decide +kernel
theorem dX8_moles_274 : decode cX8_moles 274 = .ok (.lstore 14, 2) := by decide +kernel
theorem dX8_moles_276 : decode cX8_moles 276 = .ok (.lload 12, 2) := by decide +kernel
theorem dX8_moles_278 : decode cX8_moles 278 = .ok (.lstore 10, 2) := by decide +kernel
theorem dX8_moles_280 : decode cX8_moles 280 = .ok (.lload 14, 2) := by decide +kernel
theorem dX8_moles_282 : decode cX8_moles 282 = .ok (.lstore 12, 2) := by decide +kernel
theorem dX8_moles_284 : decode cX8_moles 284 = .ok (.goto (-22), 3) := by decide +kernel
theorem dX8_moles_287 : decode cX8_moles 287 = .ok (.iload_n 3, 1) := by decide +kernel
theorem dX8_moles_288 : decode cX8_moles 288 = .ok (.ifCond .ne 11, 3) := by decide +kernel
theorem dX8_moles_291 : decode cX8_moles 291 = .ok (.lload 6, 2) := by decide +kernel
theorem dX8_moles_293 : decode cX8_moles 293 = .ok (.lload 10, 2) := by decide +kernel
theorem dX8_moles_295 : decode cX8_moles 295 = .ok (.ldiv, 1) := by decide +kernel
theorem dX8_moles_296 : decode cX8_moles 296 = .ok (.goto 8, 3) := by decide +kernel
theorem dX8_moles_299 : decode cX8_moles 299 = .ok (.lload 8, 2) := by decide +kernel
theorem dX8_moles_301 : decode cX8_moles 301 = .ok (.lload 10, 2) := by decide +kernel
theorem dX8_moles_303 : decode cX8_moles 303 = .ok (.ldiv, 1) := by decide +kernel
theorem dX8_moles_304 : decode cX8_moles 304 = .ok (.l2i, 1) := by decide +kernel
theorem dX8_moles_305 : decode cX8_moles 305 = .ok (.ireturn, 1) := by decide +kernel
set_option maxRecDepth 20000 in
theorem ggX8_image_X8_isTwo : GoodIn wsX8_image wsX8_isTwo := goodIn_r _ [9, 10, 11, 8, 12] (by decide +kernel) (by decide +kernel)
set_option maxRecDepth 20000 in
theorem gX8_image_X8_isTwo : GoodIn wsX8_image (va_wsS RX8 184 yX8_isTwo wsX8_isTwo) := goodIn_app (goodIn_of _ (by decide +kernel)) ggX8_image_X8_isTwo
set_option maxRecDepth 20000 in
theorem ggX8_image_X8_isMine : GoodIn wsX8_image wsX8_isMine := goodIn_r _ [16, 3, 20, 21, 22, 23, 24, 25, 26, 27, 28, 29, 30, 31, 32, 33, 34, 35, 36, 37, 38, 39, 40, 41, 42, 43] (by decide +kernel) (by decide +kernel)
set_option maxRecDepth 20000 in
theorem gX8_image_X8_isMine : GoodIn wsX8_image (wsV RX8 160 RX8 yX8_isMine wsX8_isMine) := goodIn_app (goodIn_of _ (by decide +kernel)) ggX8_image_X8_isMine
set_option maxRecDepth 20000 in
theorem ggX8_image_X8_copies : GoodIn wsX8_image wsX8_copies := goodIn_r _ [19] (by decide +kernel) (by decide +kernel)
set_option maxRecDepth 20000 in
theorem gX8_image_X8_copies : GoodIn wsX8_image (va_wsS RX8 135 yX8_copies wsX8_copies) := goodIn_app (goodIn_of _ (by decide +kernel)) ggX8_image_X8_copies
theorem dX8_image_0 : decode cX8_image 0 = .ok (.iload_n 1, 1) := by decide +kernel
theorem dX8_image_1 : decode cX8_image 1 = .ok (.invokestatic 184, 3) := by decide +kernel
theorem dX8_image_4 : decode cX8_image 4 = .ok (.ifCond .ne 6, 3) := by decide +kernel
theorem dX8_image_7 : decode cX8_image 7 = .ok (.ldc 70, 2) := by decide +kernel
theorem dX8_image_9 : decode cX8_image 9 = .ok (.ireturn, 1) := by decide +kernel
theorem dX8_image_10 : decode cX8_image 10 = .ok (.aload_n 0, 1) := by decide +kernel
theorem dX8_image_11 : decode cX8_image 11 = .ok (.invokevirtual 160, 3) := by decide +kernel
theorem dX8_image_14 : decode cX8_image 14 = .ok (.ifCond .ne 6, 3) := by decide +kernel
theorem dX8_image_17 : decode cX8_image 17 = .ok (.ldc 163, 2) := by decide +kernel
theorem dX8_image_19 : decode cX8_image 19 = .ok (.ireturn, 1) := by decide +kernel
theorem dX8_image_20 : decode cX8_image 20 = .ok (.aload_n 0, 1) := by decide +kernel
theorem dX8_image_21 : decode cX8_image 21 = .ok (.getfield 19, 3) := by decide +kernel
theorem dX8_image_24 : decode cX8_image 24 = .ok (.iconst 0, 1) := by decide +kernel
theorem dX8_image_25 : decode cX8_image 25 = .ok (.aload_n 0, 1) := by decide +kernel
theorem dX8_image_26 : decode cX8_image 26 = .ok (.getfield 31, 3) := by decide +kernel
theorem dX8_image_29 : decode cX8_image 29 = .ok (.bipush 30, 2) := by decide +kernel
theorem dX8_image_31 : decode cX8_image 31 = .ok (.iload_n 1, 1) := by decide +kernel
theorem dX8_image_32 : decode cX8_image 32 = .ok (.imul, 1) := by decide +kernel
theorem dX8_image_33 : decode cX8_image 33 = .ok (.invokestatic 135, 3) := by decide +kernel
theorem dX8_image_36 : decode cX8_image 36 = .ok (.aload_n 0, 1) := by decide +kernel
theorem dX8_image_37 : decode cX8_image 37 = .ok (.getfield 34, 3) := by decide +kernel
theorem dX8_image_40 : decode cX8_image 40 = .ok (.iload_n 1, 1) := by decide +kernel
theorem dX8_image_41 : decode cX8_image 41 = .ok (.iconst 1, 1) := by decide +kernel
theorem dX8_image_42 : decode cX8_image 42 = .ok (.bastore, 1) := by decide +kernel
theorem dX8_image_43 : decode cX8_image 43 = .ok (.iconst 1, 1) := by decide +kernel
theorem dX8_image_44 : decode cX8_image 44 = .ok (.ireturn, 1) := by decide +kernel
set_option maxRecDepth 20000 in
theorem ggX8_restore_X8_isTwo : GoodIn wsX8_restore wsX8_isTwo := goodIn_r _ [10, 11, 12, 9, 13] (by decide +kernel) (by decide +kernel)
set_option maxRecDepth 20000 in
theorem gX8_restore_X8_isTwo : GoodIn wsX8_restore (va_wsS RX8 184 yX8_isTwo wsX8_isTwo) := goodIn_app (goodIn_of _ (by decide +kernel)) ggX8_restore_X8_isTwo
set_option maxRecDepth 20000 in
theorem ggX8_restore_X8_copies : GoodIn wsX8_restore wsX8_copies := goodIn_r _ [16] (by decide +kernel) (by decide +kernel)
set_option maxRecDepth 20000 in
theorem gX8_restore_X8_copies : GoodIn wsX8_restore (va_wsS RX8 135 yX8_copies wsX8_copies) := goodIn_app (goodIn_of _ (by decide +kernel)) ggX8_restore_X8_copies
theorem dX8_restore_0 : decode cX8_restore 0 = .ok (.iload_n 1, 1) := by decide +kernel
theorem dX8_restore_1 : decode cX8_restore 1 = .ok (.invokestatic 184, 3) := by decide +kernel
theorem dX8_restore_4 : decode cX8_restore 4 = .ok (.ifCond .ne 6, 3) := by decide +kernel
theorem dX8_restore_7 : decode cX8_restore 7 = .ok (.ldc 70, 2) := by decide +kernel
theorem dX8_restore_9 : decode cX8_restore 9 = .ok (.ireturn, 1) := by decide +kernel
theorem dX8_restore_10 : decode cX8_restore 10 = .ok (.aload_n 0, 1) := by decide +kernel
theorem dX8_restore_11 : decode cX8_restore 11 = .ok (.getfield 34, 3) := by decide +kernel
theorem dX8_restore_14 : decode cX8_restore 14 = .ok (.iload_n 1, 1) := by decide +kernel
theorem dX8_restore_15 : decode cX8_restore 15 = .ok (.baload, 1) := by decide +kernel
theorem dX8_restore_16 : decode cX8_restore 16 = .ok (.ifCond .ne 6, 3) := by decide +kernel
theorem dX8_restore_19 : decode cX8_restore 19 = .ok (.ldc 163, 2) := by decide +kernel
theorem dX8_restore_21 : decode cX8_restore 21 = .ok (.ireturn, 1) := by decide +kernel
theorem dX8_restore_22 : decode cX8_restore 22 = .ok (.aload_n 0, 1) := by decide +kernel
theorem dX8_restore_23 : decode cX8_restore 23 = .ok (.getfield 31, 3) := by decide +kernel
theorem dX8_restore_26 : decode cX8_restore 26 = .ok (.bipush 30, 2) := by decide +kernel
theorem dX8_restore_28 : decode cX8_restore 28 = .ok (.iload_n 1, 1) := by decide +kernel
theorem dX8_restore_29 : decode cX8_restore 29 = .ok (.imul, 1) := by decide +kernel
theorem dX8_restore_30 : decode cX8_restore 30 = .ok (.aload_n 0, 1) := by decide +kernel
theorem dX8_restore_31 : decode cX8_restore 31 = .ok (.getfield 19, 3) := by decide +kernel
theorem dX8_restore_34 : decode cX8_restore 34 = .ok (.iconst 0, 1) := by decide +kernel
theorem dX8_restore_35 : decode cX8_restore 35 = .ok (.invokestatic 135, 3) := by decide +kernel
theorem dX8_restore_38 : decode cX8_restore 38 = .ok (.aload_n 0, 1) := by decide +kernel
theorem dX8_restore_39 : decode cX8_restore 39 = .ok (.iconst 0, 1) := by decide +kernel
theorem dX8_restore_40 : decode cX8_restore 40 = .ok (.putfield 139, 3) := by decide +kernel
theorem dX8_restore_43 : decode cX8_restore 43 = .ok (.iconst 1, 1) := by decide +kernel
theorem dX8_restore_44 : decode cX8_restore 44 = .ok (.ireturn, 1) := by decide +kernel
set_option maxRecDepth 20000 in
theorem ggX8_kind_X8_isThing : GoodIn wsX8_kind wsX8_isThing := goodIn_r _ [7, 1, 8, 9, 6, 10, 11, 12, 13, 14, 15, 16, 17, 18, 19, 20, 21, 22, 23, 24, 25, 26, 27, 28, 29, 30, 31, 32, 33, 34] (by decide +kernel) (by decide +kernel)
set_option maxRecDepth 20000 in
theorem gX8_kind_X8_isThing : GoodIn wsX8_kind (wsV RX8 177 RX8 yX8_isThing wsX8_isThing) := goodIn_app (goodIn_of _ (by decide +kernel)) ggX8_kind_X8_isThing
theorem dX8_kind_0 : decode cX8_kind 0 = .ok (.aload_n 0, 1) := by decide +kernel
theorem dX8_kind_1 : decode cX8_kind 1 = .ok (.iload_n 1, 1) := by decide +kernel
theorem dX8_kind_2 : decode cX8_kind 2 = .ok (.invokevirtual 177, 3) := by decide +kernel
theorem dX8_kind_5 : decode cX8_kind 5 = .ok (.ifCond .eq 14, 3) := by decide +kernel
theorem dX8_kind_8 : decode cX8_kind 8 = .ok (.aload_n 0, 1) := by decide +kernel
theorem dX8_kind_9 : decode cX8_kind 9 = .ok (.getfield 19, 3) := by decide +kernel
theorem dX8_kind_12 : decode cX8_kind 12 = .ok (.iconst 3, 1) := by decide +kernel
theorem dX8_kind_13 : decode cX8_kind 13 = .ok (.iload_n 1, 1) := by decide +kernel
theorem dX8_kind_14 : decode cX8_kind 14 = .ok (.iadd, 1) := by decide +kernel
theorem dX8_kind_15 : decode cX8_kind 15 = .ok (.iaload, 1) := by decide +kernel
theorem dX8_kind_16 : decode cX8_kind 16 = .ok (.goto 5, 3) := by decide +kernel
theorem dX8_kind_19 : decode cX8_kind 19 = .ok (.ldc 70, 2) := by decide +kernel
theorem dX8_kind_21 : decode cX8_kind 21 = .ok (.ireturn, 1) := by decide +kernel
theorem dX8_isOf_0 : decode cX8_isOf 0 = .ok (.iload_n 1, 1) := by decide +kernel
theorem dX8_isOf_1 : decode cX8_isOf 1 = .ok (.ifCond .eq 33, 3) := by decide +kernel
theorem dX8_isOf_4 : decode cX8_isOf 4 = .ok (.iload_n 0, 1) := by decide +kernel
theorem dX8_isOf_5 : decode cX8_isOf 5 = .ok (.iload_n 1, 1) := by decide +kernel
theorem dX8_isOf_6 : decode cX8_isOf 6 = .ok (.if_icmp .eq 28, 3) := by decide +kernel
theorem dX8_isOf_9 : decode cX8_isOf 9 = .ok (.iload_n 1, 1) := by decide +kernel
theorem dX8_isOf_10 : decode cX8_isOf 10 = .ok (.iconst 1, 1) := by decide +kernel
theorem dX8_isOf_11 : decode cX8_isOf 11 = .ok (.if_icmp .ne 13, 3) := by decide +kernel
theorem dX8_isOf_14 : decode cX8_isOf 14 = .ok (.iload_n 0, 1) := by decide +kernel
theorem dX8_isOf_15 : decode cX8_isOf 15 = .ok (.iconst 2, 1) := by decide +kernel
theorem dX8_isOf_16 : decode cX8_isOf 16 = .ok (.if_icmp .eq 18, 3) := by decide +kernel
theorem dX8_isOf_19 : decode cX8_isOf 19 = .ok (.iload_n 0, 1) := by decide +kernel
theorem dX8_isOf_20 : decode cX8_isOf 20 = .ok (.iconst 3, 1) := by decide +kernel
theorem dX8_isOf_21 : decode cX8_isOf 21 = .ok (.if_icmp .eq 13, 3) := by decide +kernel
theorem dX8_isOf_24 : decode cX8_isOf 24 = .ok (.iload_n 1, 1) := by decide +kernel
theorem dX8_isOf_25 : decode cX8_isOf 25 = .ok (.iconst 4, 1) := by decide +kernel
theorem dX8_isOf_26 : decode cX8_isOf 26 = .ok (.if_icmp .ne 12, 3) := by decide +kernel
theorem dX8_isOf_29 : decode cX8_isOf 29 = .ok (.iload_n 0, 1) := by decide +kernel
theorem dX8_isOf_30 : decode cX8_isOf 30 = .ok (.iconst 5, 1) := by decide +kernel
theorem dX8_isOf_31 : decode cX8_isOf 31 = .ok (.if_icmp .ne 7, 3) := by decide +kernel
theorem dX8_isOf_34 : decode cX8_isOf 34 = .ok (.iconst 1, 1) := by decide +kernel
theorem dX8_isOf_35 : decode cX8_isOf 35 = .ok (.goto 4, 3) := by decide +kernel
theorem dX8_isOf_38 : decode cX8_isOf 38 = .ok (.iconst 0, 1) := by decide +kernel
theorem dX8_isOf_39 : decode cX8_isOf 39 = .ok (.ireturn, 1) := by decide +kernel
set_option maxRecDepth 20000 in
theorem ggX8_as_X8_isThing : GoodIn wsX8_as wsX8_isThing := goodIn_r _ [8, 3, 9, 10, 7, 11, 25, 26, 27, 28, 29, 30, 31, 32, 33, 34, 35, 36, 37, 38, 39, 40, 41, 42, 43, 44, 45, 46, 47, 48] (by decide +kernel) (by decide +kernel)
set_option maxRecDepth 20000 in
theorem gX8_as_X8_isThing : GoodIn wsX8_as (wsV RX8 177 RX8 yX8_isThing wsX8_isThing) := goodIn_app (goodIn_of _ (by decide +kernel)) ggX8_as_X8_isThing
set_option maxRecDepth 20000 in
theorem ggX8_as_X8_in : GoodIn wsX8_as wsX8_in := goodIn_r _ [11] (by decide +kernel) (by decide +kernel)
set_option maxRecDepth 20000 in
theorem gX8_as_X8_in : GoodIn wsX8_as (va_wsS RX8 60 yX8_in wsX8_in) := goodIn_app (goodIn_of _ (by decide +kernel)) ggX8_as_X8_in
set_option maxRecDepth 20000 in
theorem ggX8_as_X8_isOf : GoodIn wsX8_as wsX8_isOf := goodIn_r _ [14] (by decide +kernel) (by decide +kernel)
set_option maxRecDepth 20000 in
theorem gX8_as_X8_isOf : GoodIn wsX8_as (va_wsS RX8 231 yX8_isOf wsX8_isOf) := goodIn_app (goodIn_of _ (by decide +kernel)) ggX8_as_X8_isOf
set_option maxRecDepth 20000 in
theorem ggX8_as_X8_well : GoodIn wsX8_as wsX8_well := goodIn_r _ [18, 19, 25, 26, 27, 28, 29, 30, 31, 32, 33, 34, 35, 36, 37, 38, 39, 40, 41, 42, 43, 44, 45, 46, 47, 48] (by decide +kernel) (by decide +kernel)
set_option maxRecDepth 20000 in
theorem gX8_as_X8_well : GoodIn wsX8_as (wsV RX8 75 RX8 yX8_well wsX8_well) := goodIn_app (goodIn_of _ (by decide +kernel)) ggX8_as_X8_well
set_option maxRecDepth 20000 in
theorem ggX8_as_X8_found : GoodIn wsX8_as wsX8_found := goodIn_r _ [23, 19, 24, 25, 26, 27, 28, 29, 30, 31, 32, 33, 34, 35, 36, 37, 38, 39, 40, 41, 42, 43, 44, 45, 46, 47, 48] (by decide +kernel) (by decide +kernel)
set_option maxRecDepth 20000 in
theorem gX8_as_X8_found : GoodIn wsX8_as (wsV RX8 71 RX8 yX8_found wsX8_found) := goodIn_app (goodIn_of _ (by decide +kernel)) ggX8_as_X8_found
theorem dX8_as_0 : decode cX8_as 0 = .ok (.aload_n 0, 1) := by decide +kernel
theorem dX8_as_1 : decode cX8_as 1 = .ok (.iload_n 1, 1) := by decide +kernel
theorem dX8_as_2 : decode cX8_as 2 = .ok (.invokevirtual 177, 3) := by decide +kernel
theorem dX8_as_5 : decode cX8_as 5 = .ok (.ifCond .eq 15, 3) := by decide +kernel
theorem dX8_as_8 : decode cX8_as 8 = .ok (.iload_n 2, 1) := by decide +kernel
theorem dX8_as_9 : decode cX8_as 9 = .ok (.i2l, 1) := by decide +kernel
theorem dX8_as_10 : decode cX8_as 10 = .ok (.lconst 0, 1) := by decide +kernel
theorem dX8_as_11 : decode cX8_as 11 = .ok (.ldc2_w 229, 3) := by decide +kernel
theorem dX8_as_14 : decode cX8_as 14 = .ok (.invokestatic 60, 3) := by decide +kernel
theorem dX8_as_17 : decode cX8_as 17 = .ok (.ifCond .ne 6, 3) := by decide +kernel
theorem dX8_as_20 : decode cX8_as 20 = .ok (.ldc 70, 2) := by decide +kernel
theorem dX8_as_22 : decode cX8_as 22 = .ok (.ireturn, 1) := by decide +kernel
theorem dX8_as_23 : decode cX8_as 23 = .ok (.aload_n 0, 1) := by decide +kernel
theorem dX8_as_24 : decode cX8_as 24 = .ok (.getfield 19, 3) := by decide +kernel
theorem dX8_as_27 : decode cX8_as 27 = .ok (.iconst 3, 1) := by decide +kernel
theorem dX8_as_28 : decode cX8_as 28 = .ok (.iload_n 1, 1) := by decide +kernel
theorem dX8_as_29 : decode cX8_as 29 = .ok (.iadd, 1) := by decide +kernel
theorem dX8_as_30 : decode cX8_as 30 = .ok (.iaload, 1) := by decide +kernel
theorem dX8_as_31 : decode cX8_as 31 = .ok (.iload_n 2, 1) := by decide +kernel
theorem dX8_as_32 : decode cX8_as 32 = .ok (.invokestatic 231, 3) := by decide +kernel
theorem dX8_as_35 : decode cX8_as 35 = .ok (.ifCond .eq 11, 3) := by decide +kernel
theorem dX8_as_38 : decode cX8_as 38 = .ok (.aload_n 0, 1) := by decide +kernel
theorem dX8_as_39 : decode cX8_as 39 = .ok (.iload_n 1, 1) := by decide +kernel
theorem dX8_as_40 : decode cX8_as 40 = .ok (.invokevirtual 75, 3) := by decide +kernel
theorem dX8_as_43 : decode cX8_as 43 = .ok (.goto 8, 3) := by decide +kernel
theorem dX8_as_46 : decode cX8_as 46 = .ok (.aload_n 0, 1) := by decide +kernel
theorem dX8_as_47 : decode cX8_as 47 = .ok (.iconst 3, 1) := by decide +kernel
theorem dX8_as_48 : decode cX8_as 48 = .ok (.invokevirtual 71, 3) := by decide +kernel
theorem dX8_as_51 : decode cX8_as 51 = .ok (.ireturn, 1) := by decide +kernel
theorem dX8_leave_0 : decode cX8_leave 0 = .ok (.lconst 1, 1) := by decide +kernel
theorem dX8_leave_1 : decode cX8_leave 1 = .ok (.lstore_n 3, 1) := by decide +kernel
theorem dX8_leave_2 : decode cX8_leave 2 = .ok (.lload_n 3, 1) := by decide +kernel
theorem dX8_leave_3 : decode cX8_leave 3 = .ok (.ldc2_w 234, 3) := by decide +kernel
theorem dX8_leave_6 : decode cX8_leave 6 = .ok (.lmul, 1) := by decide +kernel
theorem dX8_leave_7 : decode cX8_leave 7 = .ok (.lload_n 1, 1) := by decide +kernel
theorem dX8_leave_8 : decode cX8_leave 8 = .ok (.lcmp, 1) := by decide +kernel
theorem dX8_leave_9 : decode cX8_leave 9 = .ok (.ifCond .gt 12, 3) := by decide +kernel
theorem dX8_leave_12 : decode cX8_leave 12 = .ok (.lload_n 3, 1) := by decide +kernel
theorem dX8_leave_13 : decode cX8_leave 13 = .ok (.ldc2_w 234, 3) := by decide +kernel
theorem dX8_leave_16 : decode cX8_leave 16 = .ok (.lmul, 1) := by decide +kernel
theorem dX8_leave_17 : decode cX8_leave 17 = .ok (.lstore_n 3, 1) := by decide +kernel
theorem dX8_leave_18 : decode cX8_leave 18 = .ok (.goto (-16), 3) := by decide +kernel
theorem dX8_leave_21 : decode cX8_leave 21 = .ok (.lload_n 1, 1) := by decide +kernel
theorem dX8_leave_22 : decode cX8_leave 22 = .ok (.lstore 5, 2) := by decide +kernel
theorem dX8_leave_24 : decode cX8_leave 24 = .ok (.lload_n 3, 1) := by decide +kernel
theorem dX8_leave_25 : decode cX8_leave 25 = .ok (.lconst 0, 1) := by decide +kernel
theorem dX8_leave_26 : decode cX8_leave 26 = .ok (.lcmp, 1) := by decide +kernel
theorem dX8_leave_27 : decode cX8_leave 27 = .ok (.ifCond .le 42, 3) := by decide +kernel
theorem dX8_leave_30 : decode cX8_leave 30 = .ok (.aload_n 0, 1) := by decide +kernel
theorem dX8_leave_31 : decode cX8_leave 31 = .ok (.getfield 41, 3) := by decide +kernel
theorem dX8_leave_34 : decode cX8_leave 34 = .ok (.aload_n 0, 1) := by decide +kernel
theorem dX8_leave_35 : decode cX8_leave 35 = .ok (.getfield 236, 3) := by decide +kernel
theorem dX8_leave_38 : decode cX8_leave 38 = .ok (.lload 5, 2) := by decide +kernel
theorem dX8_leave_40 : decode cX8_leave 40 = .ok (.lload_n 3, 1) := by decide +kernel
theorem dX8_leave_41 : decode cX8_leave 41 = .ok (.ldiv, 1) := by decide +kernel
theorem dX8_leave_42 : decode cX8_leave 42 = .ok (.l2i, 1) := by decide +kernel
theorem dX8_leave_43 : decode cX8_leave 43 = .ok (.iastore, 1) := by decide +kernel
theorem dX8_leave_44 : decode cX8_leave 44 = .ok (.lload 5, 2) := by decide +kernel
theorem dX8_leave_46 : decode cX8_leave 46 = .ok (.lload_n 3, 1) := by decide +kernel
theorem dX8_leave_47 : decode cX8_leave 47 = .ok (.lrem, 1) := by decide +kernel
theorem dX8_leave_48 : decode cX8_leave 48 = .ok (.lstore 5, 2) := by decide +kernel
theorem dX8_leave_50 : decode cX8_leave 50 = .ok (.aload_n 0, 1) := by decide +kernel
theorem dX8_leave_51 : decode cX8_leave 51 = .ok (.dup, 1) := by decide +kernel
theorem dX8_leave_52 : decode cX8_leave 52 = .ok (.getfield 236, 3) := by decide +kernel
theorem dX8_leave_55 : decode cX8_leave 55 = .ok (.iconst 1, 1) := by decide +kernel
theorem dX8_leave_56 : decode cX8_leave 56 = .ok (.iadd, 1) := by decide +kernel
theorem dX8_leave_57 : decode cX8_leave 57 = .ok (.putfield 236, 3) := by decide +kernel
theorem dX8_leave_60 : decode cX8_leave 60 = .ok (.lload_n 3, 1) := by decide +kernel
theorem dX8_leave_61 : decode cX8_leave 61 = .ok (.ldc2_w 234, 3) := by decide +kernel
theorem dX8_leave_64 : decode cX8_leave 64 = .ok (.ldiv, 1) := by decide +kernel
theorem dX8_leave_65 : decode cX8_leave 65 = .ok (.lstore_n 3, 1) := by decide +kernel
theorem dX8_leave_66 : decode cX8_leave 66 = .ok (.goto (-42), 3) := by decide +kernel
theorem dX8_leave_69 : decode cX8_leave 69 = .ok (.return_, 1) := by decide +kernel
set_option maxRecDepth 20000 in
theorem ggX8_mark_X8_leave : GoodIn wsX8_mark wsX8_leave := goodIn_r _ [9, 10, 11, 12, 13, 14, 15, 16, 17, 18, 19, 20, 21, 22, 23, 24, 25, 26, 27, 28, 29, 30, 31, 32, 33, 34, 35, 36] (by decide +kernel) (by decide +kernel)
set_option maxRecDepth 20000 in
theorem gX8_mark_X8_leave : GoodIn wsX8_mark (wsV RX8 245 RX8 yX8_leave wsX8_leave) := goodIn_app (goodIn_of _ (by decide +kernel)) ggX8_mark_X8_leave
theorem dX8_mark_0 : decode cX8_mark 0 = .ok (.aload_n 0, 1) := by decide +kernel
theorem dX8_mark_1 : decode cX8_mark 1 = .ok (.getfield 19, 3) := by decide +kernel
theorem dX8_mark_4 : decode cX8_mark 4 = .ok (.iconst 3, 1) := by decide +kernel
theorem dX8_mark_5 : decode cX8_mark 5 = .ok (.iload_n 1, 1) := by decide +kernel
theorem dX8_mark_6 : decode cX8_mark 6 = .ok (.iadd, 1) := by decide +kernel
theorem dX8_mark_7 : decode cX8_mark 7 = .ok (.iaload, 1) := by decide +kernel
theorem dX8_mark_8 : decode cX8_mark 8 = .ok (.istore_n 2, 1) := by decide +kernel
theorem dX8_mark_9 : decode cX8_mark 9 = .ok (.iload_n 1, 1) := by decide +kernel
theorem dX8_mark_10 : decode cX8_mark 10 = .ok (.aload_n 0, 1) := by decide +kernel
theorem dX8_mark_11 : decode cX8_mark 11 = .ok (.getfield 19, 3) := by decide +kernel
theorem dX8_mark_14 : decode cX8_mark 14 = .ok (.bipush 13, 2) := by decide +kernel
theorem dX8_mark_16 : decode cX8_mark 16 = .ok (.iload_n 1, 1) := by decide +kernel
theorem dX8_mark_17 : decode cX8_mark 17 = .ok (.iadd, 1) := by decide +kernel
theorem dX8_mark_18 : decode cX8_mark 18 = .ok (.iaload, 1) := by decide +kernel
theorem dX8_mark_19 : decode cX8_mark 19 = .ok (.iadd, 1) := by decide +kernel
theorem dX8_mark_20 : decode cX8_mark 20 = .ok (.istore_n 3, 1) := by decide +kernel
theorem dX8_mark_21 : decode cX8_mark 21 = .ok (.aload_n 0, 1) := by decide +kernel
theorem dX8_mark_22 : decode cX8_mark 22 = .ok (.iload_n 2, 1) := by decide +kernel
theorem dX8_mark_23 : decode cX8_mark 23 = .ok (.iconst 2, 1) := by decide +kernel
theorem dX8_mark_24 : decode cX8_mark 24 = .ok (.if_icmp .ne 9, 3) := by decide +kernel
theorem dX8_mark_27 : decode cX8_mark 27 = .ok (.ldc2_w 239, 3) := by decide +kernel
theorem dX8_mark_30 : decode cX8_mark 30 = .ok (.goto 17, 3) := by decide +kernel
theorem dX8_mark_33 : decode cX8_mark 33 = .ok (.iload_n 2, 1) := by decide +kernel
theorem dX8_mark_34 : decode cX8_mark 34 = .ok (.iconst 3, 1) := by decide +kernel
theorem dX8_mark_35 : decode cX8_mark 35 = .ok (.if_icmp .ne 9, 3) := by decide +kernel
theorem dX8_mark_38 : decode cX8_mark 38 = .ok (.ldc2_w 241, 3) := by decide +kernel
theorem dX8_mark_41 : decode cX8_mark 41 = .ok (.goto 6, 3) := by decide +kernel
theorem dX8_mark_44 : decode cX8_mark 44 = .ok (.ldc2_w 243, 3) := by decide +kernel
theorem dX8_mark_47 : decode cX8_mark 47 = .ok (.invokevirtual 245, 3) := by decide +kernel
theorem dX8_mark_50 : decode cX8_mark 50 = .ok (.iload_n 2, 1) := by decide +kernel
theorem dX8_mark_51 : decode cX8_mark 51 = .ok (.iconst 2, 1) := by decide +kernel
theorem dX8_mark_52 : decode cX8_mark 52 = .ok (.if_icmp .ne 9, 3) := by decide +kernel
theorem dX8_mark_55 : decode cX8_mark 55 = .ok (.iconst 2, 1) := by decide +kernel
theorem dX8_mark_56 : decode cX8_mark 56 = .ok (.iload_n 3, 1) := by decide +kernel
theorem dX8_mark_57 : decode cX8_mark 57 = .ok (.imul, 1) := by decide +kernel
theorem dX8_mark_58 : decode cX8_mark 58 = .ok (.goto 17, 3) := by decide +kernel
theorem dX8_mark_61 : decode cX8_mark 61 = .ok (.iload_n 2, 1) := by decide +kernel
theorem dX8_mark_62 : decode cX8_mark 62 = .ok (.iconst 3, 1) := by decide +kernel
theorem dX8_mark_63 : decode cX8_mark 63 = .ok (.if_icmp .ne 11, 3) := by decide +kernel
theorem dX8_mark_66 : decode cX8_mark 66 = .ok (.iload_n 3, 1) := by decide +kernel
theorem dX8_mark_67 : decode cX8_mark 67 = .ok (.sipush 1000, 3) := by decide +kernel
theorem dX8_mark_70 : decode cX8_mark 70 = .ok (.isub, 1) := by decide +kernel
theorem dX8_mark_71 : decode cX8_mark 71 = .ok (.goto 4, 3) := by decide +kernel
theorem dX8_mark_74 : decode cX8_mark 74 = .ok (.iload_n 3, 1) := by decide +kernel
theorem dX8_mark_75 : decode cX8_mark 75 = .ok (.ireturn, 1) := by decide +kernel
set_option maxRecDepth 20000 in
theorem ggX8_sizeOf_X8_leave : GoodIn wsX8_sizeOf wsX8_leave := goodIn_r _ [8, 9, 10, 11, 12, 13, 14, 15, 16, 17, 18, 19, 20, 21, 22, 23, 24, 25, 26, 27, 28, 29, 30, 31, 32, 33, 34, 35] (by decide +kernel) (by decide +kernel)
set_option maxRecDepth 20000 in
theorem gX8_sizeOf_X8_leave : GoodIn wsX8_sizeOf (wsV RX8 245 RX8 yX8_leave wsX8_leave) := goodIn_app (goodIn_of _ (by decide +kernel)) ggX8_sizeOf_X8_leave
theorem dX8_sizeOf_0 : decode cX8_sizeOf 0 = .ok (.aload_n 0, 1) := by decide +kernel
theorem dX8_sizeOf_1 : decode cX8_sizeOf 1 = .ok (.getfield 19, 3) := by decide +kernel
theorem dX8_sizeOf_4 : decode cX8_sizeOf 4 = .ok (.bipush 8, 2) := by decide +kernel
theorem dX8_sizeOf_6 : decode cX8_sizeOf 6 = .ok (.iload_n 1, 1) := by decide +kernel
theorem dX8_sizeOf_7 : decode cX8_sizeOf 7 = .ok (.iadd, 1) := by decide +kernel
theorem dX8_sizeOf_8 : decode cX8_sizeOf 8 = .ok (.iaload, 1) := by decide +kernel
theorem dX8_sizeOf_9 : decode cX8_sizeOf 9 = .ok (.bipush 100, 2) := by decide +kernel
theorem dX8_sizeOf_11 : decode cX8_sizeOf 11 = .ok (.isub, 1) := by decide +kernel
theorem dX8_sizeOf_12 : decode cX8_sizeOf 12 = .ok (.istore_n 2, 1) := by decide +kernel
theorem dX8_sizeOf_13 : decode cX8_sizeOf 13 = .ok (.aload_n 0, 1) := by decide +kernel
theorem dX8_sizeOf_14 : decode cX8_sizeOf 14 = .ok (.getfield 19, 3) := by decide +kernel
theorem dX8_sizeOf_17 : decode cX8_sizeOf 17 = .ok (.iconst 3, 1) := by decide +kernel
theorem dX8_sizeOf_18 : decode cX8_sizeOf 18 = .ok (.iload_n 1, 1) := by decide +kernel
theorem dX8_sizeOf_19 : decode cX8_sizeOf 19 = .ok (.iadd, 1) := by decide +kernel
theorem dX8_sizeOf_20 : decode cX8_sizeOf 20 = .ok (.iaload, 1) := by decide +kernel
theorem dX8_sizeOf_21 : decode cX8_sizeOf 21 = .ok (.iconst 5, 1) := by decide +kernel
theorem dX8_sizeOf_22 : decode cX8_sizeOf 22 = .ok (.if_icmp .ne 7, 3) := by decide +kernel
theorem dX8_sizeOf_25 : decode cX8_sizeOf 25 = .ok (.iconst 1, 1) := by decide +kernel
theorem dX8_sizeOf_26 : decode cX8_sizeOf 26 = .ok (.goto 4, 3) := by decide +kernel
theorem dX8_sizeOf_29 : decode cX8_sizeOf 29 = .ok (.iconst 0, 1) := by decide +kernel
theorem dX8_sizeOf_30 : decode cX8_sizeOf 30 = .ok (.istore_n 3, 1) := by decide +kernel
theorem dX8_sizeOf_31 : decode cX8_sizeOf 31 = .ok (.aload_n 0, 1) := by decide +kernel
theorem dX8_sizeOf_32 : decode cX8_sizeOf 32 = .ok (.iload_n 3, 1) := by decide +kernel
theorem dX8_sizeOf_33 : decode cX8_sizeOf 33 = .ok (.ifCond .eq 9, 3) := by decide +kernel
theorem dX8_sizeOf_36 : decode cX8_sizeOf 36 = .ok (.ldc2_w 249, 3) := by decide +kernel
theorem dX8_sizeOf_39 : decode cX8_sizeOf 39 = .ok (.goto 6, 3) := by decide +kernel
theorem dX8_sizeOf_42 : decode cX8_sizeOf 42 = .ok (.ldc2_w 251, 3) := by decide +kernel
theorem dX8_sizeOf_45 : decode cX8_sizeOf 45 = .ok (.invokevirtual 245, 3) := by decide +kernel
theorem dX8_sizeOf_48 : decode cX8_sizeOf 48 = .ok (.iload_n 3, 1) := by decide +kernel
theorem dX8_sizeOf_49 : decode cX8_sizeOf 49 = .ok (.ifCond .eq 9, 3) := by decide +kernel
theorem dX8_sizeOf_52 : decode cX8_sizeOf 52 = .ok (.iconst 2, 1) := by decide +kernel
theorem dX8_sizeOf_53 : decode cX8_sizeOf 53 = .ok (.iload_n 2, 1) := by decide +kernel
theorem dX8_sizeOf_54 : decode cX8_sizeOf 54 = .ok (.imul, 1) := by decide +kernel
theorem dX8_sizeOf_55 : decode cX8_sizeOf 55 = .ok (.goto 4, 3) := by decide +kernel
theorem dX8_sizeOf_58 : decode cX8_sizeOf 58 = .ok (.iload_n 2, 1) := by decide +kernel
theorem dX8_sizeOf_59 : decode cX8_sizeOf 59 = .ok (.ireturn, 1) := by decide +kernel
set_option maxRecDepth 20000 in
theorem ggX8_ask_X8_isThing : GoodIn wsX8_ask wsX8_isThing := goodIn_r _ [11, 3, 12, 13, 10, 14, 37, 38, 39, 40, 41, 42, 43, 44, 45, 46, 47, 48, 49, 50, 51, 52, 53, 54, 55, 56, 57, 58, 59, 60] (by decide +kernel) (by decide +kernel)
set_option maxRecDepth 20000 in
theorem gX8_ask_X8_isThing : GoodIn wsX8_ask (wsV RX8 177 RX8 yX8_isThing wsX8_isThing) := goodIn_app (goodIn_of _ (by decide +kernel)) ggX8_ask_X8_isThing
set_option maxRecDepth 20000 in
theorem ggX8_ask_X8_isTwo : GoodIn wsX8_ask wsX8_isTwo := goodIn_r _ [17, 12, 13, 10, 14] (by decide +kernel) (by decide +kernel)
set_option maxRecDepth 20000 in
theorem gX8_ask_X8_isTwo : GoodIn wsX8_ask (va_wsS RX8 184 yX8_isTwo wsX8_isTwo) := goodIn_app (goodIn_of _ (by decide +kernel)) ggX8_ask_X8_isTwo
set_option maxRecDepth 20000 in
theorem ggX8_ask_X8_mark : GoodIn wsX8_ask wsX8_mark := goodIn_r _ [21, 3, 22, 23, 24, 25, 26, 27, 10, 28, 29, 30, 2, 37, 38, 39, 40, 41, 42, 43, 44, 45, 46, 47, 48, 49, 50, 51, 52, 53, 54, 55, 56, 57, 58, 59, 60] (by decide +kernel) (by decide +kernel)
set_option maxRecDepth 20000 in
theorem gX8_ask_X8_mark : GoodIn wsX8_ask (wsV RX8 253 RX8 yX8_mark wsX8_mark) := goodIn_app (goodIn_of _ (by decide +kernel)) ggX8_ask_X8_mark
set_option maxRecDepth 20000 in
theorem ggX8_ask_X8_leave : GoodIn wsX8_ask wsX8_leave := goodIn_r _ [28, 29, 30, 2, 37, 38, 39, 40, 41, 42, 43, 44, 45, 46, 47, 48, 49, 50, 51, 52, 53, 54, 55, 56, 57, 58, 59, 60] (by decide +kernel) (by decide +kernel)
set_option maxRecDepth 20000 in
theorem gX8_ask_X8_leave : GoodIn wsX8_ask (wsV RX8 245 RX8 yX8_leave wsX8_leave) := goodIn_app (goodIn_of _ (by decide +kernel)) ggX8_ask_X8_leave
set_option maxRecDepth 20000 in
theorem ggX8_ask_X8_sizeOf : GoodIn wsX8_ask wsX8_sizeOf := goodIn_r _ [34, 3, 35, 36, 25, 26, 27, 10, 28, 29, 30, 2, 37, 38, 39, 40, 41, 42, 43, 44, 45, 46, 47, 48, 49, 50, 51, 52, 53, 54, 55, 56, 57, 58, 59, 60] (by decide +kernel) (by decide +kernel)
set_option maxRecDepth 20000 in
theorem gX8_ask_X8_sizeOf : GoodIn wsX8_ask (wsV RX8 260 RX8 yX8_sizeOf wsX8_sizeOf) := goodIn_app (goodIn_of _ (by decide +kernel)) ggX8_ask_X8_sizeOf
theorem dX8_ask_0 : decode cX8_ask 0 = .ok (.aload_n 0, 1) := by decide +kernel
theorem dX8_ask_1 : decode cX8_ask 1 = .ok (.iload_n 1, 1) := by decide +kernel
theorem dX8_ask_2 : decode cX8_ask 2 = .ok (.invokevirtual 177, 3) := by decide +kernel
theorem dX8_ask_5 : decode cX8_ask 5 = .ok (.ifCond .eq 10, 3) := by decide +kernel
theorem dX8_ask_8 : decode cX8_ask 8 = .ok (.iload_n 2, 1) := by decide +kernel
theorem dX8_ask_9 : decode cX8_ask 9 = .ok (.invokestatic 184, 3) := by decide +kernel
theorem dX8_ask_12 : decode cX8_ask 12 = .ok (.ifCond .ne 6, 3) := by decide +kernel
theorem dX8_ask_15 : decode cX8_ask 15 = .ok (.ldc 70, 2) := by decide +kernel
theorem dX8_ask_17 : decode cX8_ask 17 = .ok (.ireturn, 1) := by decide +kernel
theorem dX8_ask_18 : decode cX8_ask 18 = .ok (.aload_n 0, 1) := by decide +kernel
theorem dX8_ask_19 : decode cX8_ask 19 = .ok (.iconst 0, 1) := by decide +kernel
theorem dX8_ask_20 : decode cX8_ask 20 = .ok (.putfield 236, 3) := by decide +kernel
