theorem dX8_set_53 : decode cX8_set 53 = .ok (.bipush 40, 2) := by decide +kernel
theorem dX8_set_55 : decode cX8_set 55 = .ok (.iload_n 1, 1) := by decide +kernel
theorem dX8_set_56 : decode cX8_set 56 = .ok (.imul, 1) := by decide +kernel
theorem dX8_set_57 : decode cX8_set 57 = .ok (.iload_n 2, 1) := by decide +kernel
theorem dX8_set_58 : decode cX8_set 58 = .ok (.iadd, 1) := by decide +kernel
theorem dX8_set_59 : decode cX8_set 59 = .ok (.aload_n 0, 1) := by decide +kernel
theorem dX8_set_60 : decode cX8_set 60 = .ok (.getfield 7, 3) := by decide +kernel
theorem dX8_set_63 : decode cX8_set 63 = .ok (.iload_n 1, 1) := by decide +kernel
theorem dX8_set_64 : decode cX8_set 64 = .ok (.iaload, 1) := by decide +kernel
theorem dX8_set_65 : decode cX8_set 65 = .ok (.ifCond .ne 8, 3) := by decide +kernel
theorem dX8_set_68 : decode cX8_set 68 = .ok (.iload_n 3, 1) := by decide +kernel
theorem dX8_set_69 : decode cX8_set 69 = .ok (.i2b, 1) := by decide +kernel
theorem dX8_set_70 : decode cX8_set 70 = .ok (.goto 19, 3) := by decide +kernel
theorem dX8_set_73 : decode cX8_set 73 = .ok (.aload_n 0, 1) := by decide +kernel
theorem dX8_set_74 : decode cX8_set 74 = .ok (.getfield 7, 3) := by decide +kernel
theorem dX8_set_77 : decode cX8_set 77 = .ok (.iload_n 1, 1) := by decide +kernel
theorem dX8_set_78 : decode cX8_set 78 = .ok (.iaload, 1) := by decide +kernel
theorem dX8_set_79 : decode cX8_set 79 = .ok (.iconst 1, 1) := by decide +kernel
theorem dX8_set_80 : decode cX8_set 80 = .ok (.if_icmp .ne 8, 3) := by decide +kernel
theorem dX8_set_83 : decode cX8_set 83 = .ok (.iload_n 3, 1) := by decide +kernel
theorem dX8_set_84 : decode cX8_set 84 = .ok (.i2s, 1) := by decide +kernel
theorem dX8_set_85 : decode cX8_set 85 = .ok (.goto 4, 3) := by decide +kernel
theorem dX8_set_88 : decode cX8_set 88 = .ok (.iload_n 3, 1) := by decide +kernel
theorem dX8_set_89 : decode cX8_set 89 = .ok (.iastore, 1) := by decide +kernel
theorem dX8_set_90 : decode cX8_set 90 = .ok (.aload_n 0, 1) := by decide +kernel
theorem dX8_set_91 : decode cX8_set 91 = .ok (.aload_n 0, 1) := by decide +kernel
theorem dX8_set_92 : decode cX8_set 92 = .ok (.getfield 16, 3) := by decide +kernel
theorem dX8_set_95 : decode cX8_set 95 = .ok (.bipush 40, 2) := by decide +kernel
theorem dX8_set_97 : decode cX8_set 97 = .ok (.iload_n 1, 1) := by decide +kernel
theorem dX8_set_98 : decode cX8_set 98 = .ok (.imul, 1) := by decide +kernel
theorem dX8_set_99 : decode cX8_set 99 = .ok (.iload_n 2, 1) := by decide +kernel
theorem dX8_set_100 : decode cX8_set 100 = .ok (.iadd, 1) := by decide +kernel
theorem dX8_set_101 : decode cX8_set 101 = .ok (.iaload, 1) := by decide +kernel
theorem dX8_set_102 : decode cX8_set 102 = .ok (.invokevirtual 75, 3) := by decide +kernel
theorem dX8_set_105 : decode cX8_set 105 = .ok (.ireturn, 1) := by decide +kernel
set_option maxRecDepth 20000 in
theorem ggX8_copy_X8_isRow : GoodIn wsX8_copy wsX8_isRow := goodIn_r _ [8, 9, 10, 11, 7, 12] (by decide +kernel) (by decide +kernel)
set_option maxRecDepth 20000 in
theorem gX8_copy_X8_isRow : GoodIn wsX8_copy (va_wsS RX8 64 yX8_isRow wsX8_isRow) := goodIn_app (goodIn_of _ (by decide +kernel)) ggX8_copy_X8_isRow
set_option maxRecDepth 20000 in
theorem ggX8_copy_X8_found : GoodIn wsX8_copy wsX8_found := goodIn_r _ [16, 17, 18, 23, 24, 25, 26, 27, 28, 29, 30, 31, 32, 33, 34, 35, 36, 37, 38, 39, 40, 41, 42, 43, 44, 45, 46] (by decide +kernel) (by decide +kernel)
set_option maxRecDepth 20000 in
theorem gX8_copy_X8_found : GoodIn wsX8_copy (wsV RX8 71 RX8 yX8_found wsX8_found) := goodIn_app (goodIn_of _ (by decide +kernel)) ggX8_copy_X8_found
set_option maxRecDepth 20000 in
theorem ggX8_copy_X8_well : GoodIn wsX8_copy wsX8_well := goodIn_r _ [22, 17, 23, 24, 25, 26, 27, 28, 29, 30, 31, 32, 33, 34, 35, 36, 37, 38, 39, 40, 41, 42, 43, 44, 45, 46] (by decide +kernel) (by decide +kernel)
set_option maxRecDepth 20000 in
theorem gX8_copy_X8_well : GoodIn wsX8_copy (wsV RX8 75 RX8 yX8_well wsX8_well) := goodIn_app (goodIn_of _ (by decide +kernel)) ggX8_copy_X8_well
theorem dX8_copy_0 : decode cX8_copy 0 = .ok (.iload_n 1, 1) := by decide +kernel
theorem dX8_copy_1 : decode cX8_copy 1 = .ok (.invokestatic 64, 3) := by decide +kernel
theorem dX8_copy_4 : decode cX8_copy 4 = .ok (.ifCond .eq 10, 3) := by decide +kernel
theorem dX8_copy_7 : decode cX8_copy 7 = .ok (.iload_n 3, 1) := by decide +kernel
theorem dX8_copy_8 : decode cX8_copy 8 = .ok (.invokestatic 64, 3) := by decide +kernel
theorem dX8_copy_11 : decode cX8_copy 11 = .ok (.ifCond .ne 6, 3) := by decide +kernel
theorem dX8_copy_14 : decode cX8_copy 14 = .ok (.ldc 70, 2) := by decide +kernel
theorem dX8_copy_16 : decode cX8_copy 16 = .ok (.ireturn, 1) := by decide +kernel
theorem dX8_copy_17 : decode cX8_copy 17 = .ok (.aload_n 0, 1) := by decide +kernel
theorem dX8_copy_18 : decode cX8_copy 18 = .ok (.getfield 13, 3) := by decide +kernel
theorem dX8_copy_21 : decode cX8_copy 21 = .ok (.iload_n 1, 1) := by decide +kernel
theorem dX8_copy_22 : decode cX8_copy 22 = .ok (.iaload, 1) := by decide +kernel
theorem dX8_copy_23 : decode cX8_copy 23 = .ok (.ifCond .lt 12, 3) := by decide +kernel
theorem dX8_copy_26 : decode cX8_copy 26 = .ok (.aload_n 0, 1) := by decide +kernel
theorem dX8_copy_27 : decode cX8_copy 27 = .ok (.getfield 13, 3) := by decide +kernel
theorem dX8_copy_30 : decode cX8_copy 30 = .ok (.iload_n 3, 1) := by decide +kernel
theorem dX8_copy_31 : decode cX8_copy 31 = .ok (.iaload, 1) := by decide +kernel
theorem dX8_copy_32 : decode cX8_copy 32 = .ok (.ifCond .ge 9, 3) := by decide +kernel
theorem dX8_copy_35 : decode cX8_copy 35 = .ok (.aload_n 0, 1) := by decide +kernel
theorem dX8_copy_36 : decode cX8_copy 36 = .ok (.iconst 1, 1) := by decide +kernel
theorem dX8_copy_37 : decode cX8_copy 37 = .ok (.invokevirtual 71, 3) := by decide +kernel
theorem dX8_copy_40 : decode cX8_copy 40 = .ok (.ireturn, 1) := by decide +kernel
theorem dX8_copy_41 : decode cX8_copy 41 = .ok (.aload_n 0, 1) := by decide +kernel
theorem dX8_copy_42 : decode cX8_copy 42 = .ok (.getfield 7, 3) := by decide +kernel
theorem dX8_copy_45 : decode cX8_copy 45 = .ok (.iload_n 1, 1) := by decide +kernel
theorem dX8_copy_46 : decode cX8_copy 46 = .ok (.iaload, 1) := by decide +kernel
theorem dX8_copy_47 : decode cX8_copy 47 = .ok (.aload_n 0, 1) := by decide +kernel
theorem dX8_copy_48 : decode cX8_copy 48 = .ok (.getfield 7, 3) := by decide +kernel
theorem dX8_copy_51 : decode cX8_copy 51 = .ok (.iload_n 3, 1) := by decide +kernel
theorem dX8_copy_52 : decode cX8_copy 52 = .ok (.iaload, 1) := by decide +kernel
theorem dX8_copy_53 : decode cX8_copy 53 = .ok (.if_icmp .eq 9, 3) := by decide +kernel
theorem dX8_copy_56 : decode cX8_copy 56 = .ok (.aload_n 0, 1) := by decide +kernel
theorem dX8_copy_57 : decode cX8_copy 57 = .ok (.iconst 5, 1) := by decide +kernel
theorem dX8_copy_58 : decode cX8_copy 58 = .ok (.invokevirtual 71, 3) := by decide +kernel
theorem dX8_copy_61 : decode cX8_copy 61 = .ok (.ireturn, 1) := by decide +kernel
theorem dX8_copy_62 : decode cX8_copy 62 = .ok (.iload_n 2, 1) := by decide +kernel
theorem dX8_copy_63 : decode cX8_copy 63 = .ok (.ifCond .lt 48, 3) := by decide +kernel
theorem dX8_copy_66 : decode cX8_copy 66 = .ok (.iload 4, 2) := by decide +kernel
theorem dX8_copy_68 : decode cX8_copy 68 = .ok (.ifCond .lt 43, 3) := by decide +kernel
theorem dX8_copy_71 : decode cX8_copy 71 = .ok (.iload 5, 2) := by decide +kernel
theorem dX8_copy_73 : decode cX8_copy 73 = .ok (.ifCond .lt 38, 3) := by decide +kernel
theorem dX8_copy_76 : decode cX8_copy 76 = .ok (.iload_n 2, 1) := by decide +kernel
theorem dX8_copy_77 : decode cX8_copy 77 = .ok (.i2l, 1) := by decide +kernel
theorem dX8_copy_78 : decode cX8_copy 78 = .ok (.iload 5, 2) := by decide +kernel
theorem dX8_copy_80 : decode cX8_copy 80 = .ok (.i2l, 1) := by decide +kernel
theorem dX8_copy_81 : decode cX8_copy 81 = .ok (.ladd, 1) := by decide +kernel
theorem dX8_copy_82 : decode cX8_copy 82 = .ok (.aload_n 0, 1) := by decide +kernel
theorem dX8_copy_83 : decode cX8_copy 83 = .ok (.getfield 13, 3) := by decide +kernel
theorem dX8_copy_86 : decode cX8_copy 86 = .ok (.iload_n 1, 1) := by decide +kernel
theorem dX8_copy_87 : decode cX8_copy 87 = .ok (.iaload, 1) := by decide +kernel
theorem dX8_copy_88 : decode cX8_copy 88 = .ok (.i2l, 1) := by decide +kernel
theorem dX8_copy_89 : decode cX8_copy 89 = .ok (.lcmp, 1) := by decide +kernel
theorem dX8_copy_90 : decode cX8_copy 90 = .ok (.ifCond .gt 21, 3) := by decide +kernel
theorem dX8_copy_93 : decode cX8_copy 93 = .ok (.iload 4, 2) := by decide +kernel
theorem dX8_copy_95 : decode cX8_copy 95 = .ok (.i2l, 1) := by decide +kernel
theorem dX8_copy_96 : decode cX8_copy 96 = .ok (.iload 5, 2) := by decide +kernel
theorem dX8_copy_98 : decode cX8_copy 98 = .ok (.i2l, 1) := by decide +kernel
theorem dX8_copy_99 : decode cX8_copy 99 = .ok (.ladd, 1) := by decide +kernel
theorem dX8_copy_100 : decode cX8_copy 100 = .ok (.aload_n 0, 1) := by decide +kernel
theorem dX8_copy_101 : decode cX8_copy 101 = .ok (.getfield 13, 3) := by decide +kernel
theorem dX8_copy_104 : decode cX8_copy 104 = .ok (.iload_n 3, 1) := by decide +kernel
theorem dX8_copy_105 : decode cX8_copy 105 = .ok (.iaload, 1) := by decide +kernel
theorem dX8_copy_106 : decode cX8_copy 106 = .ok (.i2l, 1) := by decide +kernel
theorem dX8_copy_107 : decode cX8_copy 107 = .ok (.lcmp, 1) := by decide +kernel
theorem dX8_copy_108 : decode cX8_copy 108 = .ok (.ifCond .le 9, 3) := by decide +kernel
theorem dX8_copy_111 : decode cX8_copy 111 = .ok (.aload_n 0, 1) := by decide +kernel
theorem dX8_copy_112 : decode cX8_copy 112 = .ok (.iconst 2, 1) := by decide +kernel
theorem dX8_copy_113 : decode cX8_copy 113 = .ok (.invokevirtual 71, 3) := by decide +kernel
theorem dX8_copy_116 : decode cX8_copy 116 = .ok (.ireturn, 1) := by decide +kernel
theorem dX8_copy_117 : decode cX8_copy 117 = .ok (.iconst 0, 1) := by decide +kernel
theorem dX8_copy_118 : decode cX8_copy 118 = .ok (.istore 6, 2) := by decide +kernel
theorem dX8_copy_120 : decode cX8_copy 120 = .ok (.iload 6, 2) := by decide +kernel
theorem dX8_copy_122 : decode cX8_copy 122 = .ok (.iload 5, 2) := by decide +kernel
theorem dX8_copy_124 : decode cX8_copy 124 = .ok (.if_icmp .ge 58, 3) := by decide +kernel
theorem dX8_copy_127 : decode cX8_copy 127 = .ok (.iload 4, 2) := by decide +kernel
theorem dX8_copy_129 : decode cX8_copy 129 = .ok (.iload_n 2, 1) := by decide +kernel
theorem dX8_copy_130 : decode cX8_copy 130 = .ok (.if_icmp .le 13, 3) := by decide +kernel
theorem dX8_copy_133 : decode cX8_copy 133 = .ok (.iload 5, 2) := by decide +kernel
theorem dX8_copy_135 : decode cX8_copy 135 = .ok (.iconst 1, 1) := by decide +kernel
theorem dX8_copy_136 : decode cX8_copy 136 = .ok (.isub, 1) := by decide +kernel
theorem dX8_copy_137 : decode cX8_copy 137 = .ok (.iload 6, 2) := by decide +kernel
theorem dX8_copy_139 : decode cX8_copy 139 = .ok (.isub, 1) := by decide +kernel
theorem dX8_copy_140 : decode cX8_copy 140 = .ok (.goto 5, 3) := by decide +kernel
theorem dX8_copy_143 : decode cX8_copy 143 = .ok (.iload 6, 2) := by decide +kernel
theorem dX8_copy_145 : decode cX8_copy 145 = .ok (.istore 7, 2) := by decide +kernel
theorem dX8_copy_147 : decode cX8_copy 147 = .ok (.aload_n 0, 1) := by decide +kernel
theorem dX8_copy_148 : decode cX8_copy 148 = .ok (.getfield 16, 3) := by decide +kernel
theorem dX8_copy_151 : decode cX8_copy 151 = .ok (.bipush 40, 2) := by decide +kernel
theorem dX8_copy_153 : decode cX8_copy 153 = .ok (.iload_n 3, 1) := by decide +kernel
theorem dX8_copy_154 : decode cX8_copy 154 = .ok (.imul, 1) := by decide +kernel
theorem dX8_copy_155 : decode cX8_copy 155 = .ok (.iload 4, 2) := by decide +kernel
theorem dX8_copy_157 : decode cX8_copy 157 = .ok (.iadd, 1) := by decide +kernel
theorem dX8_copy_158 : decode cX8_copy 158 = .ok (.iload 7, 2) := by decide +kernel
theorem dX8_copy_160 : decode cX8_copy 160 = .ok (.iadd, 1) := by decide +kernel
theorem dX8_copy_161 : decode cX8_copy 161 = .ok (.aload_n 0, 1) := by decide +kernel
theorem dX8_copy_162 : decode cX8_copy 162 = .ok (.getfield 16, 3) := by decide +kernel
theorem dX8_copy_165 : decode cX8_copy 165 = .ok (.bipush 40, 2) := by decide +kernel
theorem dX8_copy_167 : decode cX8_copy 167 = .ok (.iload_n 1, 1) := by decide +kernel
theorem dX8_copy_168 : decode cX8_copy 168 = .ok (.imul, 1) := by decide +kernel
theorem dX8_copy_169 : decode cX8_copy 169 = .ok (.iload_n 2, 1) := by decide +kernel
theorem dX8_copy_170 : decode cX8_copy 170 = .ok (.iadd, 1) := by decide +kernel
theorem dX8_copy_171 : decode cX8_copy 171 = .ok (.iload 7, 2) := by decide +kernel
theorem dX8_copy_173 : decode cX8_copy 173 = .ok (.iadd, 1) := by decide +kernel
theorem dX8_copy_174 : decode cX8_copy 174 = .ok (.iaload, 1) := by decide +kernel
theorem dX8_copy_175 : decode cX8_copy 175 = .ok (.iastore, 1) := by decide +kernel
theorem dX8_copy_176 : decode cX8_copy 176 = .ok (.iinc 6 1, 3) := by decide +kernel
theorem dX8_copy_179 : decode cX8_copy 179 = .ok (.goto (-59), 3) := by decide +kernel
theorem dX8_copy_182 : decode cX8_copy 182 = .ok (.aload_n 0, 1) := by decide +kernel
theorem dX8_copy_183 : decode cX8_copy 183 = .ok (.iload 5, 2) := by decide +kernel
theorem dX8_copy_185 : decode cX8_copy 185 = .ok (.invokevirtual 75, 3) := by decide +kernel
theorem dX8_copy_188 : decode cX8_copy 188 = .ok (.ireturn, 1) := by decide +kernel
set_option maxRecDepth 20000 in
theorem ggX8_drop_X8_isRow : GoodIn wsX8_drop wsX8_isRow := goodIn_r _ [6, 7, 8, 9, 5, 10] (by decide +kernel) (by decide +kernel)
set_option maxRecDepth 20000 in
theorem gX8_drop_X8_isRow : GoodIn wsX8_drop (va_wsS RX8 64 yX8_isRow wsX8_isRow) := goodIn_app (goodIn_of _ (by decide +kernel)) ggX8_drop_X8_isRow
set_option maxRecDepth 20000 in
theorem ggX8_drop_X8_found : GoodIn wsX8_drop wsX8_found := goodIn_r _ [14, 15, 16, 21, 22, 23, 24, 25, 26, 27, 28, 29, 30, 31, 32, 33, 34, 35, 36, 37, 38, 39, 40, 41, 42, 43, 44] (by decide +kernel) (by decide +kernel)
set_option maxRecDepth 20000 in
theorem gX8_drop_X8_found : GoodIn wsX8_drop (wsV RX8 71 RX8 yX8_found wsX8_found) := goodIn_app (goodIn_of _ (by decide +kernel)) ggX8_drop_X8_found
set_option maxRecDepth 20000 in
theorem ggX8_drop_X8_well : GoodIn wsX8_drop wsX8_well := goodIn_r _ [20, 15, 21, 22, 23, 24, 25, 26, 27, 28, 29, 30, 31, 32, 33, 34, 35, 36, 37, 38, 39, 40, 41, 42, 43, 44] (by decide +kernel) (by decide +kernel)
set_option maxRecDepth 20000 in
theorem gX8_drop_X8_well : GoodIn wsX8_drop (wsV RX8 75 RX8 yX8_well wsX8_well) := goodIn_app (goodIn_of _ (by decide +kernel)) ggX8_drop_X8_well
theorem dX8_drop_0 : decode cX8_drop 0 = .ok (.iload_n 1, 1) := by decide +kernel
theorem dX8_drop_1 : decode cX8_drop 1 = .ok (.invokestatic 64, 3) := by decide +kernel
theorem dX8_drop_4 : decode cX8_drop 4 = .ok (.ifCond .ne 6, 3) := by decide +kernel
theorem dX8_drop_7 : decode cX8_drop 7 = .ok (.ldc 70, 2) := by decide +kernel
theorem dX8_drop_9 : decode cX8_drop 9 = .ok (.ireturn, 1) := by decide +kernel
theorem dX8_drop_10 : decode cX8_drop 10 = .ok (.aload_n 0, 1) := by decide +kernel
theorem dX8_drop_11 : decode cX8_drop 11 = .ok (.getfield 13, 3) := by decide +kernel
theorem dX8_drop_14 : decode cX8_drop 14 = .ok (.iload_n 1, 1) := by decide +kernel
theorem dX8_drop_15 : decode cX8_drop 15 = .ok (.iaload, 1) := by decide +kernel
theorem dX8_drop_16 : decode cX8_drop 16 = .ok (.ifCond .ge 9, 3) := by decide +kernel
theorem dX8_drop_19 : decode cX8_drop 19 = .ok (.aload_n 0, 1) := by decide +kernel
theorem dX8_drop_20 : decode cX8_drop 20 = .ok (.iconst 1, 1) := by decide +kernel
theorem dX8_drop_21 : decode cX8_drop 21 = .ok (.invokevirtual 71, 3) := by decide +kernel
theorem dX8_drop_24 : decode cX8_drop 24 = .ok (.ireturn, 1) := by decide +kernel
theorem dX8_drop_25 : decode cX8_drop 25 = .ok (.aload_n 0, 1) := by decide +kernel
theorem dX8_drop_26 : decode cX8_drop 26 = .ok (.getfield 13, 3) := by decide +kernel
theorem dX8_drop_29 : decode cX8_drop 29 = .ok (.iload_n 1, 1) := by decide +kernel
theorem dX8_drop_30 : decode cX8_drop 30 = .ok (.iaload, 1) := by decide +kernel
theorem dX8_drop_31 : decode cX8_drop 31 = .ok (.istore_n 2, 1) := by decide +kernel
theorem dX8_drop_32 : decode cX8_drop 32 = .ok (.aload_n 0, 1) := by decide +kernel
theorem dX8_drop_33 : decode cX8_drop 33 = .ok (.getfield 13, 3) := by decide +kernel
theorem dX8_drop_36 : decode cX8_drop 36 = .ok (.iload_n 1, 1) := by decide +kernel
theorem dX8_drop_37 : decode cX8_drop 37 = .ok (.iconst (-1), 1) := by decide +kernel
theorem dX8_drop_38 : decode cX8_drop 38 = .ok (.iastore, 1) := by decide +kernel
theorem dX8_drop_39 : decode cX8_drop 39 = .ok (.aload_n 0, 1) := by decide +kernel
theorem dX8_drop_40 : decode cX8_drop 40 = .ok (.iload_n 2, 1) := by decide +kernel
theorem dX8_drop_41 : decode cX8_drop 41 = .ok (.invokevirtual 75, 3) := by decide +kernel
theorem dX8_drop_44 : decode cX8_drop 44 = .ok (.ireturn, 1) := by decide +kernel
set_option maxRecDepth 20000 in
theorem ggX8_feed_X8_in : GoodIn wsX8_feed wsX8_in := goodIn_r _ [9] (by decide +kernel) (by decide +kernel)
set_option maxRecDepth 20000 in
theorem gX8_feed_X8_in : GoodIn wsX8_feed (va_wsS RX8 60 yX8_in wsX8_in) := goodIn_app (goodIn_of _ (by decide +kernel)) ggX8_feed_X8_in
theorem dX8_feed_0 : decode cX8_feed 0 = .ok (.iload_n 1, 1) := by decide +kernel
theorem dX8_feed_1 : decode cX8_feed 1 = .ok (.i2l, 1) := by decide +kernel
theorem dX8_feed_2 : decode cX8_feed 2 = .ok (.lconst 0, 1) := by decide +kernel
theorem dX8_feed_3 : decode cX8_feed 3 = .ok (.ldc2_w 78, 3) := by decide +kernel
theorem dX8_feed_6 : decode cX8_feed 6 = .ok (.invokestatic 60, 3) := by decide +kernel
theorem dX8_feed_9 : decode cX8_feed 9 = .ok (.ifCond .ne 6, 3) := by decide +kernel
theorem dX8_feed_12 : decode cX8_feed 12 = .ok (.ldc 70, 2) := by decide +kernel
theorem dX8_feed_14 : decode cX8_feed 14 = .ok (.ireturn, 1) := by decide +kernel
theorem dX8_feed_15 : decode cX8_feed 15 = .ok (.aload_n 0, 1) := by decide +kernel
theorem dX8_feed_16 : decode cX8_feed 16 = .ok (.getfield 80, 3) := by decide +kernel
theorem dX8_feed_19 : decode cX8_feed 19 = .ok (.bipush 100, 2) := by decide +kernel
theorem dX8_feed_21 : decode cX8_feed 21 = .ok (.if_icmp .ne 6, 3) := by decide +kernel
theorem dX8_feed_24 : decode cX8_feed 24 = .ok (.ldc 83, 2) := by decide +kernel
theorem dX8_feed_26 : decode cX8_feed 26 = .ok (.ireturn, 1) := by decide +kernel
theorem dX8_feed_27 : decode cX8_feed 27 = .ok (.aload_n 0, 1) := by decide +kernel
theorem dX8_feed_28 : decode cX8_feed 28 = .ok (.getfield 38, 3) := by decide +kernel
theorem dX8_feed_31 : decode cX8_feed 31 = .ok (.aload_n 0, 1) := by decide +kernel
theorem dX8_feed_32 : decode cX8_feed 32 = .ok (.getfield 80, 3) := by decide +kernel
theorem dX8_feed_35 : decode cX8_feed 35 = .ok (.iload_n 1, 1) := by decide +kernel
theorem dX8_feed_36 : decode cX8_feed 36 = .ok (.iastore, 1) := by decide +kernel
theorem dX8_feed_37 : decode cX8_feed 37 = .ok (.aload_n 0, 1) := by decide +kernel
theorem dX8_feed_38 : decode cX8_feed 38 = .ok (.dup, 1) := by decide +kernel
theorem dX8_feed_39 : decode cX8_feed 39 = .ok (.getfield 80, 3) := by decide +kernel
theorem dX8_feed_42 : decode cX8_feed 42 = .ok (.iconst 1, 1) := by decide +kernel
theorem dX8_feed_43 : decode cX8_feed 43 = .ok (.iadd, 1) := by decide +kernel
theorem dX8_feed_44 : decode cX8_feed 44 = .ok (.putfield 80, 3) := by decide +kernel
theorem dX8_feed_47 : decode cX8_feed 47 = .ok (.aload_n 0, 1) := by decide +kernel
theorem dX8_feed_48 : decode cX8_feed 48 = .ok (.getfield 80, 3) := by decide +kernel
theorem dX8_feed_51 : decode cX8_feed 51 = .ok (.ireturn, 1) := by decide +kernel
theorem dX8_here_0 : decode cX8_here 0 = .ok (.aload_n 0, 1) := by decide +kernel
theorem dX8_here_1 : decode cX8_here 1 = .ok (.getfield 84, 3) := by decide +kernel
theorem dX8_here_4 : decode cX8_here 4 = .ok (.aload_n 0, 1) := by decide +kernel
theorem dX8_here_5 : decode cX8_here 5 = .ok (.getfield 80, 3) := by decide +kernel
theorem dX8_here_8 : decode cX8_here 8 = .ok (.if_icmp .ge 15, 3) := by decide +kernel
theorem dX8_here_11 : decode cX8_here 11 = .ok (.aload_n 0, 1) := by decide +kernel
theorem dX8_here_12 : decode cX8_here 12 = .ok (.getfield 38, 3) := by decide +kernel
theorem dX8_here_15 : decode cX8_here 15 = .ok (.aload_n 0, 1) := by decide +kernel
theorem dX8_here_16 : decode cX8_here 16 = .ok (.getfield 84, 3) := by decide +kernel
theorem dX8_here_19 : decode cX8_here 19 = .ok (.iaload, 1) := by decide +kernel
theorem dX8_here_20 : decode cX8_here 20 = .ok (.goto 4, 3) := by decide +kernel
theorem dX8_here_23 : decode cX8_here 23 = .ok (.iconst (-1), 1) := by decide +kernel
theorem dX8_here_24 : decode cX8_here 24 = .ok (.ireturn, 1) := by decide +kernel
set_option maxRecDepth 20000 in
theorem ggX8_step_X8_here : GoodIn wsX8_step wsX8_here := goodIn_r _ [13, 1, 14, 15, 19, 20, 21, 22, 23, 24, 25, 26, 27, 28, 29, 30, 31, 32, 33, 34, 35, 36, 37, 38, 39, 40, 41, 42] (by decide +kernel) (by decide +kernel)
set_option maxRecDepth 20000 in
theorem gX8_step_X8_here : GoodIn wsX8_step (wsV RX8 90 RX8 yX8_here wsX8_here) := goodIn_app (goodIn_of _ (by decide +kernel)) ggX8_step_X8_here
set_option maxRecDepth 20000 in
theorem ggX8_step_X8_in : GoodIn wsX8_step wsX8_in := goodIn_r _ [18] (by decide +kernel) (by decide +kernel)
set_option maxRecDepth 20000 in
theorem gX8_step_X8_in : GoodIn wsX8_step (va_wsS RX8 60 yX8_in wsX8_in) := goodIn_app (goodIn_of _ (by decide +kernel)) ggX8_step_X8_in
theorem dX8_step_0 : decode cX8_step 0 = .ok (.aload_n 0, 1) := by decide +kernel
theorem dX8_step_1 : decode cX8_step 1 = .ok (.aload_n 0, 1) := by decide +kernel
theorem dX8_step_2 : decode cX8_step 2 = .ok (.getfield 84, 3) := by decide +kernel
theorem dX8_step_5 : decode cX8_step 5 = .ok (.putfield 87, 3) := by decide +kernel
theorem dX8_step_8 : decode cX8_step 8 = .ok (.aload_n 0, 1) := by decide +kernel
theorem dX8_step_9 : decode cX8_step 9 = .ok (.aload_n 0, 1) := by decide +kernel
theorem dX8_step_10 : decode cX8_step 10 = .ok (.invokevirtual 90, 3) := by decide +kernel
theorem dX8_step_13 : decode cX8_step 13 = .ok (.putfield 94, 3) := by decide +kernel
theorem dX8_step_16 : decode cX8_step 16 = .ok (.aload_n 0, 1) := by decide +kernel
theorem dX8_step_17 : decode cX8_step 17 = .ok (.aload_n 0, 1) := by decide +kernel
theorem dX8_step_18 : decode cX8_step 18 = .ok (.getfield 94, 3) := by decide +kernel
theorem dX8_step_21 : decode cX8_step 21 = .ok (.ifCond .ge 7, 3) := by decide +kernel
theorem dX8_step_24 : decode cX8_step 24 = .ok (.iconst 0, 1) := by decide +kernel
theorem dX8_step_25 : decode cX8_step 25 = .ok (.goto 68, 3) := by decide +kernel
theorem dX8_step_28 : decode cX8_step 28 = .ok (.aload_n 0, 1) := by decide +kernel
theorem dX8_step_29 : decode cX8_step 29 = .ok (.getfield 94, 3) := by decide +kernel
theorem dX8_step_32 : decode cX8_step 32 = .ok (.i2l, 1) := by decide +kernel
theorem dX8_step_33 : decode cX8_step 33 = .ok (.ldc2_w 97, 3) := by decide +kernel
theorem dX8_step_36 : decode cX8_step 36 = .ok (.ldc2_w 99, 3) := by decide +kernel
theorem dX8_step_39 : decode cX8_step 39 = .ok (.invokestatic 60, 3) := by decide +kernel
theorem dX8_step_42 : decode cX8_step 42 = .ok (.ifCond .eq 7, 3) := by decide +kernel
theorem dX8_step_45 : decode cX8_step 45 = .ok (.iconst 1, 1) := by decide +kernel
theorem dX8_step_46 : decode cX8_step 46 = .ok (.goto 47, 3) := by decide +kernel
theorem dX8_step_49 : decode cX8_step 49 = .ok (.aload_n 0, 1) := by decide +kernel
theorem dX8_step_50 : decode cX8_step 50 = .ok (.getfield 94, 3) := by decide +kernel
theorem dX8_step_53 : decode cX8_step 53 = .ok (.i2l, 1) := by decide +kernel
theorem dX8_step_54 : decode cX8_step 54 = .ok (.ldc2_w 101, 3) := by decide +kernel
theorem dX8_step_57 : decode cX8_step 57 = .ok (.ldc2_w 103, 3) := by decide +kernel
theorem dX8_step_60 : decode cX8_step 60 = .ok (.invokestatic 60, 3) := by decide +kernel
theorem dX8_step_63 : decode cX8_step 63 = .ok (.ifCond .eq 7, 3) := by decide +kernel
theorem dX8_step_66 : decode cX8_step 66 = .ok (.iconst 2, 1) := by decide +kernel
theorem dX8_step_67 : decode cX8_step 67 = .ok (.goto 26, 3) := by decide +kernel
theorem dX8_step_70 : decode cX8_step 70 = .ok (.aload_n 0, 1) := by decide +kernel
theorem dX8_step_71 : decode cX8_step 71 = .ok (.getfield 94, 3) := by decide +kernel
theorem dX8_step_74 : decode cX8_step 74 = .ok (.bipush 44, 2) := by decide +kernel
theorem dX8_step_76 : decode cX8_step 76 = .ok (.if_icmp .eq 12, 3) := by decide +kernel
theorem dX8_step_79 : decode cX8_step 79 = .ok (.aload_n 0, 1) := by decide +kernel
theorem dX8_step_80 : decode cX8_step 80 = .ok (.getfield 94, 3) := by decide +kernel
theorem dX8_step_83 : decode cX8_step 83 = .ok (.bipush 59, 2) := by decide +kernel
theorem dX8_step_85 : decode cX8_step 85 = .ok (.if_icmp .ne 7, 3) := by decide +kernel
theorem dX8_step_88 : decode cX8_step 88 = .ok (.iconst 3, 1) := by decide +kernel
theorem dX8_step_89 : decode cX8_step 89 = .ok (.goto 4, 3) := by decide +kernel
theorem dX8_step_92 : decode cX8_step 92 = .ok (.iconst 4, 1) := by decide +kernel
theorem dX8_step_93 : decode cX8_step 93 = .ok (.putfield 105, 3) := by decide +kernel
theorem dX8_step_96 : decode cX8_step 96 = .ok (.aload_n 0, 1) := by decide +kernel
theorem dX8_step_97 : decode cX8_step 97 = .ok (.getfield 105, 3) := by decide +kernel
theorem dX8_step_100 : decode cX8_step 100 = .ok (.iconst 2, 1) := by decide +kernel
theorem dX8_step_101 : decode cX8_step 101 = .ok (.if_icmp .eq 25, 3) := by decide +kernel
theorem dX8_step_104 : decode cX8_step 104 = .ok (.aload_n 0, 1) := by decide +kernel
theorem dX8_step_105 : decode cX8_step 105 = .ok (.dup, 1) := by decide +kernel
theorem dX8_step_106 : decode cX8_step 106 = .ok (.getfield 84, 3) := by decide +kernel
theorem dX8_step_109 : decode cX8_step 109 = .ok (.aload_n 0, 1) := by decide +kernel
theorem dX8_step_110 : decode cX8_step 110 = .ok (.getfield 105, 3) := by decide +kernel
theorem dX8_step_113 : decode cX8_step 113 = .ok (.ifCond .ne 7, 3) := by decide +kernel
theorem dX8_step_116 : decode cX8_step 116 = .ok (.iconst 0, 1) := by decide +kernel
theorem dX8_step_117 : decode cX8_step 117 = .ok (.goto 4, 3) := by decide +kernel
theorem dX8_step_120 : decode cX8_step 120 = .ok (.iconst 1, 1) := by decide +kernel
theorem dX8_step_121 : decode cX8_step 121 = .ok (.iadd, 1) := by decide +kernel
theorem dX8_step_122 : decode cX8_step 122 = .ok (.putfield 84, 3) := by decide +kernel
theorem dX8_step_125 : decode cX8_step 125 = .ok (.return_, 1) := by decide +kernel
theorem dX8_step_126 : decode cX8_step 126 = .ok (.aload_n 0, 1) := by decide +kernel
theorem dX8_step_127 : decode cX8_step 127 = .ok (.iconst 0, 1) := by decide +kernel
theorem dX8_step_128 : decode cX8_step 128 = .ok (.putfield 94, 3) := by decide +kernel
theorem dX8_step_131 : decode cX8_step 131 = .ok (.aload_n 0, 1) := by decide +kernel
theorem dX8_step_132 : decode cX8_step 132 = .ok (.invokevirtual 90, 3) := by decide +kernel
theorem dX8_step_135 : decode cX8_step 135 = .ok (.i2l, 1) := by decide +kernel
theorem dX8_step_136 : decode cX8_step 136 = .ok (.ldc2_w 101, 3) := by decide +kernel
theorem dX8_step_139 : decode cX8_step 139 = .ok (.ldc2_w 103, 3) := by decide +kernel
theorem dX8_step_142 : decode cX8_step 142 = .ok (.invokestatic 60, 3) := by decide +kernel
theorem dX8_step_145 : decode cX8_step 145 = .ok (.ifCond .eq 55, 3) := by decide +kernel
theorem dX8_step_148 : decode cX8_step 148 = .ok (.aload_n 0, 1) := by decide +kernel
theorem dX8_step_149 : decode cX8_step 149 = .ok (.aload_n 0, 1) := by decide +kernel
theorem dX8_step_150 : decode cX8_step 150 = .ok (.getfield 84, 3) := by decide +kernel
theorem dX8_step_153 : decode cX8_step 153 = .ok (.aload_n 0, 1) := by decide +kernel
theorem dX8_step_154 : decode cX8_step 154 = .ok (.getfield 87, 3) := by decide +kernel
theorem dX8_step_157 : decode cX8_step 157 = .ok (.isub, 1) := by decide +kernel
theorem dX8_step_158 : decode cX8_step 158 = .ok (.iconst 2, 1) := by decide +kernel
theorem dX8_step_159 : decode cX8_step 159 = .ok (.if_icmp .ge 21, 3) := by decide +kernel
theorem dX8_step_162 : decode cX8_step 162 = .ok (.bipush 10, 2) := by decide +kernel
theorem dX8_step_164 : decode cX8_step 164 = .ok (.aload_n 0, 1) := by decide +kernel
theorem dX8_step_165 : decode cX8_step 165 = .ok (.getfield 94, 3) := by decide +kernel
theorem dX8_step_168 : decode cX8_step 168 = .ok (.imul, 1) := by decide +kernel
theorem dX8_step_169 : decode cX8_step 169 = .ok (.aload_n 0, 1) := by decide +kernel
theorem dX8_step_170 : decode cX8_step 170 = .ok (.invokevirtual 90, 3) := by decide +kernel
theorem dX8_step_173 : decode cX8_step 173 = .ok (.iadd, 1) := by decide +kernel
theorem dX8_step_174 : decode cX8_step 174 = .ok (.bipush 48, 2) := by decide +kernel
theorem dX8_step_176 : decode cX8_step 176 = .ok (.isub, 1) := by decide +kernel
theorem dX8_step_177 : decode cX8_step 177 = .ok (.goto 7, 3) := by decide +kernel
theorem dX8_step_180 : decode cX8_step 180 = .ok (.aload_n 0, 1) := by decide +kernel
theorem dX8_step_181 : decode cX8_step 181 = .ok (.getfield 94, 3) := by decide +kernel
theorem dX8_step_184 : decode cX8_step 184 = .ok (.putfield 94, 3) := by decide +kernel
theorem dX8_step_187 : decode cX8_step 187 = .ok (.aload_n 0, 1) := by decide +kernel
theorem dX8_step_188 : decode cX8_step 188 = .ok (.dup, 1) := by decide +kernel
theorem dX8_step_189 : decode cX8_step 189 = .ok (.getfield 84, 3) := by decide +kernel
theorem dX8_step_192 : decode cX8_step 192 = .ok (.iconst 1, 1) := by decide +kernel
theorem dX8_step_193 : decode cX8_step 193 = .ok (.iadd, 1) := by decide +kernel
theorem dX8_step_194 : decode cX8_step 194 = .ok (.putfield 84, 3) := by decide +kernel
theorem dX8_step_197 : decode cX8_step 197 = .ok (.goto (-66), 3) := by decide +kernel
theorem dX8_step_200 : decode cX8_step 200 = .ok (.aload_n 0, 1) := by decide +kernel
theorem dX8_step_201 : decode cX8_step 201 = .ok (.aload_n 0, 1) := by decide +kernel
theorem dX8_step_202 : decode cX8_step 202 = .ok (.getfield 84, 3) := by decide +kernel
theorem dX8_step_205 : decode cX8_step 205 = .ok (.aload_n 0, 1) := by decide +kernel
theorem dX8_step_206 : decode cX8_step 206 = .ok (.getfield 87, 3) := by decide +kernel
theorem dX8_step_209 : decode cX8_step 209 = .ok (.isub, 1) := by decide +kernel
theorem dX8_step_210 : decode cX8_step 210 = .ok (.iconst 2, 1) := by decide +kernel
theorem dX8_step_211 : decode cX8_step 211 = .ok (.if_icmp .le 7, 3) := by decide +kernel
theorem dX8_step_214 : decode cX8_step 214 = .ok (.iconst 4, 1) := by decide +kernel
theorem dX8_step_215 : decode cX8_step 215 = .ok (.goto 4, 3) := by decide +kernel
theorem dX8_step_218 : decode cX8_step 218 = .ok (.iconst 2, 1) := by decide +kernel
theorem dX8_step_219 : decode cX8_step 219 = .ok (.putfield 105, 3) := by decide +kernel
theorem dX8_step_222 : decode cX8_step 222 = .ok (.return_, 1) := by decide +kernel
theorem dX8_fails_0 : decode cX8_fails 0 = .ok (.aload_n 0, 1) := by decide +kernel
theorem dX8_fails_1 : decode cX8_fails 1 = .ok (.iload_n 1, 1) := by decide +kernel
theorem dX8_fails_2 : decode cX8_fails 2 = .ok (.putfield 108, 3) := by decide +kernel
theorem dX8_fails_5 : decode cX8_fails 5 = .ok (.iconst 0, 1) := by decide +kernel
theorem dX8_fails_6 : decode cX8_fails 6 = .ok (.ireturn, 1) := by decide +kernel
set_option maxRecDepth 20000 in
theorem ggX8_number_X8_step : GoodIn wsX8_number wsX8_step := goodIn_r _ [8, 9, 10, 2, 11, 12, 13, 14, 1, 15, 16, 17, 7, 18, 19, 20, 21, 22, 23, 29, 30, 31, 32, 33, 34, 35, 36, 37, 38, 39, 40, 41, 42, 43, 44, 45, 46, 47, 48, 49, 50, 51, 52] (by decide +kernel) (by decide +kernel)
set_option maxRecDepth 20000 in
theorem gX8_number_X8_step : GoodIn wsX8_number (wsV RX8 111 RX8 yX8_step wsX8_step) := goodIn_app (goodIn_of _ (by decide +kernel)) ggX8_number_X8_step
set_option maxRecDepth 20000 in
theorem ggX8_number_X8_fails : GoodIn wsX8_number wsX8_fails := goodIn_r _ [27, 28, 29, 30, 31, 32, 33, 34, 35, 36, 37, 38, 39, 40, 41, 42, 43, 44, 45, 46, 47, 48, 49, 50, 51, 52] (by decide +kernel) (by decide +kernel)
set_option maxRecDepth 20000 in
theorem gX8_number_X8_fails : GoodIn wsX8_number (wsV RX8 114 RX8 yX8_fails wsX8_fails) := goodIn_app (goodIn_of _ (by decide +kernel)) ggX8_number_X8_fails
set_option maxRecDepth 20000 in
theorem ggX8_number_X8_in : GoodIn wsX8_number wsX8_in := goodIn_r _ [23] (by decide +kernel) (by decide +kernel)
set_option maxRecDepth 20000 in
theorem gX8_number_X8_in : GoodIn wsX8_number (va_wsS RX8 60 yX8_in wsX8_in) := goodIn_app (goodIn_of _ (by decide +kernel)) ggX8_number_X8_in
theorem dX8_number_0 : decode cX8_number 0 = .ok (.aload_n 0, 1) := by decide +kernel
theorem dX8_number_1 : decode cX8_number 1 = .ok (.invokevirtual 111, 3) := by decide +kernel
theorem dX8_number_4 : decode cX8_number 4 = .ok (.aload_n 0, 1) := by decide +kernel
theorem dX8_number_5 : decode cX8_number 5 = .ok (.getfield 105, 3) := by decide +kernel
theorem dX8_number_8 : decode cX8_number 8 = .ok (.iconst 2, 1) := by decide +kernel
theorem dX8_number_9 : decode cX8_number 9 = .ok (.if_icmp .eq 9, 3) := by decide +kernel
theorem dX8_number_12 : decode cX8_number 12 = .ok (.aload_n 0, 1) := by decide +kernel
theorem dX8_number_13 : decode cX8_number 13 = .ok (.iconst 1, 1) := by decide +kernel
theorem dX8_number_14 : decode cX8_number 14 = .ok (.invokevirtual 114, 3) := by decide +kernel
theorem dX8_number_17 : decode cX8_number 17 = .ok (.ireturn, 1) := by decide +kernel
theorem dX8_number_18 : decode cX8_number 18 = .ok (.aload_n 0, 1) := by decide +kernel
theorem dX8_number_19 : decode cX8_number 19 = .ok (.getfield 94, 3) := by decide +kernel
theorem dX8_number_22 : decode cX8_number 22 = .ok (.i2l, 1) := by decide +kernel
theorem dX8_number_23 : decode cX8_number 23 = .ok (.iload_n 2, 1) := by decide +kernel
theorem dX8_number_24 : decode cX8_number 24 = .ok (.i2l, 1) := by decide +kernel
theorem dX8_number_25 : decode cX8_number 25 = .ok (.iload_n 3, 1) := by decide +kernel
theorem dX8_number_26 : decode cX8_number 26 = .ok (.i2l, 1) := by decide +kernel
theorem dX8_number_27 : decode cX8_number 27 = .ok (.invokestatic 60, 3) := by decide +kernel
theorem dX8_number_30 : decode cX8_number 30 = .ok (.ifCond .ne 9, 3) := by decide +kernel
theorem dX8_number_33 : decode cX8_number 33 = .ok (.aload_n 0, 1) := by decide +kernel
theorem dX8_number_34 : decode cX8_number 34 = .ok (.iconst 2, 1) := by decide +kernel
theorem dX8_number_35 : decode cX8_number 35 = .ok (.invokevirtual 114, 3) := by decide +kernel
theorem dX8_number_38 : decode cX8_number 38 = .ok (.ireturn, 1) := by decide +kernel
theorem dX8_number_39 : decode cX8_number 39 = .ok (.aload_n 0, 1) := by decide +kernel
theorem dX8_number_40 : decode cX8_number 40 = .ok (.getfield 22, 3) := by decide +kernel
theorem dX8_number_43 : decode cX8_number 43 = .ok (.iload_n 1, 1) := by decide +kernel
theorem dX8_number_44 : decode cX8_number 44 = .ok (.aload_n 0, 1) := by decide +kernel
theorem dX8_number_45 : decode cX8_number 45 = .ok (.getfield 94, 3) := by decide +kernel
theorem dX8_number_48 : decode cX8_number 48 = .ok (.iastore, 1) := by decide +kernel
theorem dX8_number_49 : decode cX8_number 49 = .ok (.aload_n 0, 1) := by decide +kernel
theorem dX8_number_50 : decode cX8_number 50 = .ok (.invokevirtual 111, 3) := by decide +kernel
theorem dX8_number_53 : decode cX8_number 53 = .ok (.aload_n 0, 1) := by decide +kernel
theorem dX8_number_54 : decode cX8_number 54 = .ok (.getfield 105, 3) := by decide +kernel
theorem dX8_number_57 : decode cX8_number 57 = .ok (.iconst 3, 1) := by decide +kernel
theorem dX8_number_58 : decode cX8_number 58 = .ok (.if_icmp .ne 12, 3) := by decide +kernel
theorem dX8_number_61 : decode cX8_number 61 = .ok (.aload_n 0, 1) := by decide +kernel
theorem dX8_number_62 : decode cX8_number 62 = .ok (.getfield 94, 3) := by decide +kernel
theorem dX8_number_65 : decode cX8_number 65 = .ok (.iload 4, 2) := by decide +kernel
theorem dX8_number_67 : decode cX8_number 67 = .ok (.if_icmp .eq 11, 3) := by decide +kernel
theorem dX8_number_70 : decode cX8_number 70 = .ok (.aload_n 0, 1) := by decide +kernel
theorem dX8_number_71 : decode cX8_number 71 = .ok (.iconst 1, 1) := by decide +kernel
theorem dX8_number_72 : decode cX8_number 72 = .ok (.invokevirtual 114, 3) := by decide +kernel
theorem dX8_number_75 : decode cX8_number 75 = .ok (.ifCond .eq 7, 3) := by decide +kernel
theorem dX8_number_78 : decode cX8_number 78 = .ok (.iconst 1, 1) := by decide +kernel
theorem dX8_number_79 : decode cX8_number 79 = .ok (.goto 4, 3) := by decide +kernel
theorem dX8_number_82 : decode cX8_number 82 = .ok (.iconst 0, 1) := by decide +kernel
theorem dX8_number_83 : decode cX8_number 83 = .ok (.ireturn, 1) := by decide +kernel
theorem dX8_sortOf_0 : decode cX8_sortOf 0 = .ok (.iload_n 0, 1) := by decide +kernel
theorem dX8_sortOf_1 : decode cX8_sortOf 1 = .ok (.bipush 105, 2) := by decide +kernel
theorem dX8_sortOf_3 : decode cX8_sortOf 3 = .ok (.if_icmp .ne 7, 3) := by decide +kernel
theorem dX8_sortOf_6 : decode cX8_sortOf 6 = .ok (.iconst 1, 1) := by decide +kernel
theorem dX8_sortOf_7 : decode cX8_sortOf 7 = .ok (.goto 44, 3) := by decide +kernel
theorem dX8_sortOf_10 : decode cX8_sortOf 10 = .ok (.iload_n 0, 1) := by decide +kernel
theorem dX8_sortOf_11 : decode cX8_sortOf 11 = .ok (.bipush 99, 2) := by decide +kernel
theorem dX8_sortOf_13 : decode cX8_sortOf 13 = .ok (.if_icmp .ne 7, 3) := by decide +kernel
theorem dX8_sortOf_16 : decode cX8_sortOf 16 = .ok (.iconst 2, 1) := by decide +kernel
theorem dX8_sortOf_17 : decode cX8_sortOf 17 = .ok (.goto 34, 3) := by decide +kernel
theorem dX8_sortOf_20 : decode cX8_sortOf 20 = .ok (.iload_n 0, 1) := by decide +kernel
theorem dX8_sortOf_21 : decode cX8_sortOf 21 = .ok (.bipush 119, 2) := by decide +kernel
theorem dX8_sortOf_23 : decode cX8_sortOf 23 = .ok (.if_icmp .ne 7, 3) := by decide +kernel
theorem dX8_sortOf_26 : decode cX8_sortOf 26 = .ok (.iconst 3, 1) := by decide +kernel
theorem dX8_sortOf_27 : decode cX8_sortOf 27 = .ok (.goto 24, 3) := by decide +kernel
theorem dX8_sortOf_30 : decode cX8_sortOf 30 = .ok (.iload_n 0, 1) := by decide +kernel
theorem dX8_sortOf_31 : decode cX8_sortOf 31 = .ok (.bipush 115, 2) := by decide +kernel
theorem dX8_sortOf_33 : decode cX8_sortOf 33 = .ok (.if_icmp .ne 7, 3) := by decide +kernel
theorem dX8_sortOf_36 : decode cX8_sortOf 36 = .ok (.iconst 4, 1) := by decide +kernel
theorem dX8_sortOf_37 : decode cX8_sortOf 37 = .ok (.goto 14, 3) := by decide +kernel
theorem dX8_sortOf_40 : decode cX8_sortOf 40 = .ok (.iload_n 0, 1) := by decide +kernel
theorem dX8_sortOf_41 : decode cX8_sortOf 41 = .ok (.bipush 103, 2) := by decide +kernel
theorem dX8_sortOf_43 : decode cX8_sortOf 43 = .ok (.if_icmp .ne 7, 3) := by decide +kernel
theorem dX8_sortOf_46 : decode cX8_sortOf 46 = .ok (.iconst 5, 1) := by decide +kernel
theorem dX8_sortOf_47 : decode cX8_sortOf 47 = .ok (.goto 4, 3) := by decide +kernel
theorem dX8_sortOf_50 : decode cX8_sortOf 50 = .ok (.iconst 0, 1) := by decide +kernel
theorem dX8_sortOf_51 : decode cX8_sortOf 51 = .ok (.ireturn, 1) := by decide +kernel
set_option maxRecDepth 20000 in
theorem ggX8_readsThing_X8_sortOf : GoodIn wsX8_readsThing wsX8_sortOf := goodIn_r _ [7] (by decide +kernel) (by decide +kernel)
set_option maxRecDepth 20000 in
theorem gX8_readsThing_X8_sortOf : GoodIn wsX8_readsThing (va_wsS RX8 117 yX8_sortOf wsX8_sortOf) := goodIn_app (goodIn_of _ (by decide +kernel)) ggX8_readsThing_X8_sortOf
set_option maxRecDepth 20000 in
theorem ggX8_readsThing_X8_fails : GoodIn wsX8_readsThing wsX8_fails := goodIn_r _ [11, 12, 36, 37, 38, 39, 40, 41, 42, 43, 44, 45, 46, 47, 48, 49, 50, 51, 52, 53, 54, 55, 56, 57, 58, 59] (by decide +kernel) (by decide +kernel)
set_option maxRecDepth 20000 in
theorem gX8_readsThing_X8_fails : GoodIn wsX8_readsThing (wsV RX8 114 RX8 yX8_fails wsX8_fails) := goodIn_app (goodIn_of _ (by decide +kernel)) ggX8_readsThing_X8_fails
set_option maxRecDepth 20000 in
theorem ggX8_readsThing_X8_number : GoodIn wsX8_readsThing wsX8_number := goodIn_r _ [16, 2, 3, 1, 17, 18, 19, 6, 20, 21, 22, 23, 24, 25, 26, 27, 28, 29, 30, 31, 32, 33, 34, 35, 8, 9, 10, 11, 12, 36, 37, 38, 39, 40, 41, 42, 43, 44, 45, 46, 47, 48, 49, 50, 51, 52, 53, 54, 55, 56, 57, 58, 59] (by decide +kernel) (by decide +kernel)
set_option maxRecDepth 20000 in
theorem gX8_readsThing_X8_number : GoodIn wsX8_readsThing (wsV RX8 120 RX8 yX8_number wsX8_number) := goodIn_app (goodIn_of _ (by decide +kernel)) ggX8_readsThing_X8_number
theorem dX8_readsThing_0 : decode cX8_readsThing 0 = .ok (.aload_n 0, 1) := by decide +kernel
theorem dX8_readsThing_1 : decode cX8_readsThing 1 = .ok (.getfield 22, 3) := by decide +kernel
theorem dX8_readsThing_4 : decode cX8_readsThing 4 = .ok (.iconst 0, 1) := by decide +kernel
theorem dX8_readsThing_5 : decode cX8_readsThing 5 = .ok (.iaload, 1) := by decide +kernel
theorem dX8_readsThing_6 : decode cX8_readsThing 6 = .ok (.istore_n 1, 1) := by decide +kernel
theorem dX8_readsThing_7 : decode cX8_readsThing 7 = .ok (.aload_n 0, 1) := by decide +kernel
theorem dX8_readsThing_8 : decode cX8_readsThing 8 = .ok (.getfield 105, 3) := by decide +kernel
theorem dX8_readsThing_11 : decode cX8_readsThing 11 = .ok (.iconst 1, 1) := by decide +kernel
theorem dX8_readsThing_12 : decode cX8_readsThing 12 = .ok (.if_icmp .ne 13, 3) := by decide +kernel
theorem dX8_readsThing_15 : decode cX8_readsThing 15 = .ok (.aload_n 0, 1) := by decide +kernel
theorem dX8_readsThing_16 : decode cX8_readsThing 16 = .ok (.getfield 94, 3) := by decide +kernel
theorem dX8_readsThing_19 : decode cX8_readsThing 19 = .ok (.invokestatic 117, 3) := by decide +kernel
theorem dX8_readsThing_22 : decode cX8_readsThing 22 = .ok (.goto 4, 3) := by decide +kernel
theorem dX8_readsThing_25 : decode cX8_readsThing 25 = .ok (.iconst 0, 1) := by decide +kernel
theorem dX8_readsThing_26 : decode cX8_readsThing 26 = .ok (.istore_n 2, 1) := by decide +kernel
theorem dX8_readsThing_27 : decode cX8_readsThing 27 = .ok (.iload_n 2, 1) := by decide +kernel
theorem dX8_readsThing_28 : decode cX8_readsThing 28 = .ok (.ifCond .ne 9, 3) := by decide +kernel
theorem dX8_readsThing_31 : decode cX8_readsThing 31 = .ok (.aload_n 0, 1) := by decide +kernel
theorem dX8_readsThing_32 : decode cX8_readsThing 32 = .ok (.iconst 1, 1) := by decide +kernel
theorem dX8_readsThing_33 : decode cX8_readsThing 33 = .ok (.invokevirtual 114, 3) := by decide +kernel
theorem dX8_readsThing_36 : decode cX8_readsThing 36 = .ok (.ireturn, 1) := by decide +kernel
theorem dX8_readsThing_37 : decode cX8_readsThing 37 = .ok (.iload_n 1, 1) := by decide +kernel
theorem dX8_readsThing_38 : decode cX8_readsThing 38 = .ok (.iconst 5, 1) := by decide +kernel
theorem dX8_readsThing_39 : decode cX8_readsThing 39 = .ok (.if_icmp .ne 9, 3) := by decide +kernel
theorem dX8_readsThing_42 : decode cX8_readsThing 42 = .ok (.aload_n 0, 1) := by decide +kernel
theorem dX8_readsThing_43 : decode cX8_readsThing 43 = .ok (.iconst 3, 1) := by decide +kernel
theorem dX8_readsThing_44 : decode cX8_readsThing 44 = .ok (.invokevirtual 114, 3) := by decide +kernel
theorem dX8_readsThing_47 : decode cX8_readsThing 47 = .ok (.ireturn, 1) := by decide +kernel
theorem dX8_readsThing_48 : decode cX8_readsThing 48 = .ok (.aload_n 0, 1) := by decide +kernel
theorem dX8_readsThing_49 : decode cX8_readsThing 49 = .ok (.getfield 22, 3) := by decide +kernel
theorem dX8_readsThing_52 : decode cX8_readsThing 52 = .ok (.iconst 3, 1) := by decide +kernel
theorem dX8_readsThing_53 : decode cX8_readsThing 53 = .ok (.iload_n 1, 1) := by decide +kernel
theorem dX8_readsThing_54 : decode cX8_readsThing 54 = .ok (.iadd, 1) := by decide +kernel
theorem dX8_readsThing_55 : decode cX8_readsThing 55 = .ok (.iload_n 2, 1) := by decide +kernel
theorem dX8_readsThing_56 : decode cX8_readsThing 56 = .ok (.iastore, 1) := by decide +kernel
theorem dX8_readsThing_57 : decode cX8_readsThing 57 = .ok (.aload_n 0, 1) := by decide +kernel
theorem dX8_readsThing_58 : decode cX8_readsThing 58 = .ok (.getfield 22, 3) := by decide +kernel
theorem dX8_readsThing_61 : decode cX8_readsThing 61 = .ok (.iconst 0, 1) := by decide +kernel
theorem dX8_readsThing_62 : decode cX8_readsThing 62 = .ok (.dup2, 1) := by decide +kernel
theorem dX8_readsThing_63 : decode cX8_readsThing 63 = .ok (.iaload, 1) := by decide +kernel
theorem dX8_readsThing_64 : decode cX8_readsThing 64 = .ok (.iconst 1, 1) := by decide +kernel
theorem dX8_readsThing_65 : decode cX8_readsThing 65 = .ok (.iadd, 1) := by decide +kernel
theorem dX8_readsThing_66 : decode cX8_readsThing 66 = .ok (.iastore, 1) := by decide +kernel
theorem dX8_readsThing_67 : decode cX8_readsThing 67 = .ok (.aload_n 0, 1) := by decide +kernel
theorem dX8_readsThing_68 : decode cX8_readsThing 68 = .ok (.bipush 13, 2) := by decide +kernel
theorem dX8_readsThing_70 : decode cX8_readsThing 70 = .ok (.iload_n 1, 1) := by decide +kernel
theorem dX8_readsThing_71 : decode cX8_readsThing 71 = .ok (.iadd, 1) := by decide +kernel
theorem dX8_readsThing_72 : decode cX8_readsThing 72 = .ok (.iconst 0, 1) := by decide +kernel
theorem dX8_readsThing_73 : decode cX8_readsThing 73 = .ok (.bipush 40, 2) := by decide +kernel
theorem dX8_readsThing_75 : decode cX8_readsThing 75 = .ok (.bipush 44, 2) := by decide +kernel
theorem dX8_readsThing_77 : decode cX8_readsThing 77 = .ok (.invokevirtual 120, 3) := by decide +kernel
theorem dX8_readsThing_80 : decode cX8_readsThing 80 = .ok (.ifCond .eq 62, 3) := by decide +kernel
theorem dX8_readsThing_83 : decode cX8_readsThing 83 = .ok (.aload_n 0, 1) := by decide +kernel
theorem dX8_readsThing_84 : decode cX8_readsThing 84 = .ok (.bipush 18, 2) := by decide +kernel
theorem dX8_readsThing_86 : decode cX8_readsThing 86 = .ok (.iload_n 1, 1) := by decide +kernel
theorem dX8_readsThing_87 : decode cX8_readsThing 87 = .ok (.iadd, 1) := by decide +kernel
theorem dX8_readsThing_88 : decode cX8_readsThing 88 = .ok (.iconst 0, 1) := by decide +kernel
theorem dX8_readsThing_89 : decode cX8_readsThing 89 = .ok (.iconst 3, 1) := by decide +kernel
theorem dX8_readsThing_90 : decode cX8_readsThing 90 = .ok (.bipush 44, 2) := by decide +kernel
theorem dX8_readsThing_92 : decode cX8_readsThing 92 = .ok (.invokevirtual 120, 3) := by decide +kernel
theorem dX8_readsThing_95 : decode cX8_readsThing 95 = .ok (.ifCond .eq 47, 3) := by decide +kernel
theorem dX8_readsThing_98 : decode cX8_readsThing 98 = .ok (.aload_n 0, 1) := by decide +kernel
theorem dX8_readsThing_99 : decode cX8_readsThing 99 = .ok (.bipush 8, 2) := by decide +kernel
theorem dX8_readsThing_101 : decode cX8_readsThing 101 = .ok (.iload_n 1, 1) := by decide +kernel
theorem dX8_readsThing_102 : decode cX8_readsThing 102 = .ok (.iadd, 1) := by decide +kernel
theorem dX8_readsThing_103 : decode cX8_readsThing 103 = .ok (.iconst 1, 1) := by decide +kernel
theorem dX8_readsThing_104 : decode cX8_readsThing 104 = .ok (.bipush 9, 2) := by decide +kernel
theorem dX8_readsThing_106 : decode cX8_readsThing 106 = .ok (.bipush 44, 2) := by decide +kernel
theorem dX8_readsThing_108 : decode cX8_readsThing 108 = .ok (.invokevirtual 120, 3) := by decide +kernel
theorem dX8_readsThing_111 : decode cX8_readsThing 111 = .ok (.ifCond .eq 31, 3) := by decide +kernel
theorem dX8_readsThing_114 : decode cX8_readsThing 114 = .ok (.aload_n 0, 1) := by decide +kernel
theorem dX8_readsThing_115 : decode cX8_readsThing 115 = .ok (.bipush 23, 2) := by decide +kernel
theorem dX8_readsThing_117 : decode cX8_readsThing 117 = .ok (.iload_n 1, 1) := by decide +kernel
theorem dX8_readsThing_118 : decode cX8_readsThing 118 = .ok (.iadd, 1) := by decide +kernel
theorem dX8_readsThing_119 : decode cX8_readsThing 119 = .ok (.iconst 0, 1) := by decide +kernel
theorem dX8_readsThing_120 : decode cX8_readsThing 120 = .ok (.iconst 1, 1) := by decide +kernel
theorem dX8_readsThing_121 : decode cX8_readsThing 121 = .ok (.aload_n 0, 1) := by decide +kernel
theorem dX8_readsThing_122 : decode cX8_readsThing 122 = .ok (.getfield 22, 3) := by decide +kernel
theorem dX8_readsThing_125 : decode cX8_readsThing 125 = .ok (.iconst 2, 1) := by decide +kernel
theorem dX8_readsThing_126 : decode cX8_readsThing 126 = .ok (.iaload, 1) := by decide +kernel
theorem dX8_readsThing_127 : decode cX8_readsThing 127 = .ok (.ishl, 1) := by decide +kernel
theorem dX8_readsThing_128 : decode cX8_readsThing 128 = .ok (.iconst 1, 1) := by decide +kernel
theorem dX8_readsThing_129 : decode cX8_readsThing 129 = .ok (.isub, 1) := by decide +kernel
theorem dX8_readsThing_130 : decode cX8_readsThing 130 = .ok (.bipush 59, 2) := by decide +kernel
theorem dX8_readsThing_132 : decode cX8_readsThing 132 = .ok (.invokevirtual 120, 3) := by decide +kernel
theorem dX8_readsThing_135 : decode cX8_readsThing 135 = .ok (.ifCond .eq 7, 3) := by decide +kernel
theorem dX8_readsThing_138 : decode cX8_readsThing 138 = .ok (.iconst 1, 1) := by decide +kernel
theorem dX8_readsThing_139 : decode cX8_readsThing 139 = .ok (.goto 4, 3) := by decide +kernel
theorem dX8_readsThing_142 : decode cX8_readsThing 142 = .ok (.iconst 0, 1) := by decide +kernel
theorem dX8_readsThing_143 : decode cX8_readsThing 143 = .ok (.ireturn, 1) := by decide +kernel
set_option maxRecDepth 20000 in
theorem ggX8_reads_X8_step : GoodIn wsX8_reads wsX8_step := goodIn_r _ [9, 2, 10, 4, 11, 12, 13, 14, 3, 15, 16, 17, 8, 18, 19, 20, 21, 22, 23, 40, 41, 42, 43, 44, 45, 46, 47, 48, 49, 50, 51, 52, 53, 54, 55, 56, 57, 58, 59, 60, 61, 62, 63] (by decide +kernel) (by decide +kernel)
set_option maxRecDepth 20000 in
theorem gX8_reads_X8_step : GoodIn wsX8_reads (wsV RX8 111 RX8 yX8_step wsX8_step) := goodIn_app (goodIn_of _ (by decide +kernel)) ggX8_reads_X8_step
set_option maxRecDepth 20000 in
theorem ggX8_reads_X8_fails : GoodIn wsX8_reads wsX8_fails := goodIn_r _ [27, 28, 40, 41, 42, 43, 44, 45, 46, 47, 48, 49, 50, 51, 52, 53, 54, 55, 56, 57, 58, 59, 60, 61, 62, 63] (by decide +kernel) (by decide +kernel)
set_option maxRecDepth 20000 in
theorem gX8_reads_X8_fails : GoodIn wsX8_reads (wsV RX8 114 RX8 yX8_fails wsX8_fails) := goodIn_app (goodIn_of _ (by decide +kernel)) ggX8_reads_X8_fails
set_option maxRecDepth 20000 in
theorem ggX8_reads_X8_number : GoodIn wsX8_reads wsX8_number := goodIn_r _ [32, 3, 4, 1, 5, 6, 7, 8, 9, 2, 10, 11, 12, 13, 14, 15, 16, 17, 18, 19, 20, 21, 22, 23, 24, 25, 26, 27, 28, 40, 41, 42, 43, 44, 45, 46, 47, 48, 49, 50, 51, 52, 53, 54, 55, 56, 57, 58, 59, 60, 61, 62, 63] (by decide +kernel) (by decide +kernel)
set_option maxRecDepth 20000 in
theorem gX8_reads_X8_number : GoodIn wsX8_reads (wsV RX8 120 RX8 yX8_number wsX8_number) := goodIn_app (goodIn_of _ (by decide +kernel)) ggX8_reads_X8_number
set_option maxRecDepth 20000 in
theorem ggX8_reads_X8_readsThing : GoodIn wsX8_reads wsX8_readsThing := goodIn_r _ [36, 1, 3, 4, 37, 38, 8, 39, 24, 25, 26, 27, 28, 29, 30, 31, 32, 5, 6, 7, 9, 2, 10, 11, 12, 13, 14, 15, 16, 17, 18, 19, 20, 21, 22, 23, 40, 41, 42, 43, 44, 45, 46, 47, 48, 49, 50, 51, 52, 53, 54, 55, 56, 57, 58, 59, 60, 61, 62, 63] (by decide +kernel) (by decide +kernel)
set_option maxRecDepth 20000 in
theorem gX8_reads_X8_readsThing : GoodIn wsX8_reads (wsV RX8 124 RX8 yX8_readsThing wsX8_readsThing) := goodIn_app (goodIn_of _ (by decide +kernel)) ggX8_reads_X8_readsThing
theorem dX8_reads_0 : decode cX8_reads 0 = .ok (.iconst 0, 1) := by decide +kernel
theorem dX8_reads_1 : decode cX8_reads 1 = .ok (.istore_n 1, 1) := by decide +kernel
theorem dX8_reads_2 : decode cX8_reads 2 = .ok (.iload_n 1, 1) := by decide +kernel
theorem dX8_reads_3 : decode cX8_reads 3 = .ok (.bipush 30, 2) := by decide +kernel
theorem dX8_reads_5 : decode cX8_reads 5 = .ok (.if_icmp .ge 16, 3) := by decide +kernel
theorem dX8_reads_8 : decode cX8_reads 8 = .ok (.aload_n 0, 1) := by decide +kernel
theorem dX8_reads_9 : decode cX8_reads 9 = .ok (.getfield 22, 3) := by decide +kernel
theorem dX8_reads_12 : decode cX8_reads 12 = .ok (.iload_n 1, 1) := by decide +kernel
theorem dX8_reads_13 : decode cX8_reads 13 = .ok (.iconst 0, 1) := by decide +kernel
theorem dX8_reads_14 : decode cX8_reads 14 = .ok (.iastore, 1) := by decide +kernel
theorem dX8_reads_15 : decode cX8_reads 15 = .ok (.iinc 1 1, 3) := by decide +kernel
theorem dX8_reads_18 : decode cX8_reads 18 = .ok (.goto (-16), 3) := by decide +kernel
theorem dX8_reads_21 : decode cX8_reads 21 = .ok (.aload_n 0, 1) := by decide +kernel
theorem dX8_reads_22 : decode cX8_reads 22 = .ok (.iconst 0, 1) := by decide +kernel
theorem dX8_reads_23 : decode cX8_reads 23 = .ok (.putfield 84, 3) := by decide +kernel
theorem dX8_reads_26 : decode cX8_reads 26 = .ok (.aload_n 0, 1) := by decide +kernel
theorem dX8_reads_27 : decode cX8_reads 27 = .ok (.invokevirtual 111, 3) := by decide +kernel
theorem dX8_reads_30 : decode cX8_reads 30 = .ok (.aload_n 0, 1) := by decide +kernel
theorem dX8_reads_31 : decode cX8_reads 31 = .ok (.getfield 105, 3) := by decide +kernel
theorem dX8_reads_34 : decode cX8_reads 34 = .ok (.iconst 1, 1) := by decide +kernel
theorem dX8_reads_35 : decode cX8_reads 35 = .ok (.if_icmp .ne 12, 3) := by decide +kernel
theorem dX8_reads_38 : decode cX8_reads 38 = .ok (.aload_n 0, 1) := by decide +kernel
theorem dX8_reads_39 : decode cX8_reads 39 = .ok (.getfield 94, 3) := by decide +kernel
theorem dX8_reads_42 : decode cX8_reads 42 = .ok (.bipush 109, 2) := by decide +kernel
theorem dX8_reads_44 : decode cX8_reads 44 = .ok (.if_icmp .eq 9, 3) := by decide +kernel
theorem dX8_reads_47 : decode cX8_reads 47 = .ok (.aload_n 0, 1) := by decide +kernel
theorem dX8_reads_48 : decode cX8_reads 48 = .ok (.iconst 1, 1) := by decide +kernel
theorem dX8_reads_49 : decode cX8_reads 49 = .ok (.invokevirtual 114, 3) := by decide +kernel
theorem dX8_reads_52 : decode cX8_reads 52 = .ok (.ireturn, 1) := by decide +kernel
theorem dX8_reads_53 : decode cX8_reads 53 = .ok (.aload_n 0, 1) := by decide +kernel
theorem dX8_reads_54 : decode cX8_reads 54 = .ok (.iconst 1, 1) := by decide +kernel
theorem dX8_reads_55 : decode cX8_reads 55 = .ok (.iconst 0, 1) := by decide +kernel
theorem dX8_reads_56 : decode cX8_reads 56 = .ok (.bipush 9, 2) := by decide +kernel
theorem dX8_reads_58 : decode cX8_reads 58 = .ok (.bipush 44, 2) := by decide +kernel
theorem dX8_reads_60 : decode cX8_reads 60 = .ok (.invokevirtual 120, 3) := by decide +kernel
theorem dX8_reads_63 : decode cX8_reads 63 = .ok (.ifCond .eq 16, 3) := by decide +kernel
theorem dX8_reads_66 : decode cX8_reads 66 = .ok (.aload_n 0, 1) := by decide +kernel
theorem dX8_reads_67 : decode cX8_reads 67 = .ok (.iconst 2, 1) := by decide +kernel
theorem dX8_reads_68 : decode cX8_reads 68 = .ok (.iconst 1, 1) := by decide +kernel
theorem dX8_reads_69 : decode cX8_reads 69 = .ok (.bipush 6, 2) := by decide +kernel
theorem dX8_reads_71 : decode cX8_reads 71 = .ok (.bipush 59, 2) := by decide +kernel
theorem dX8_reads_73 : decode cX8_reads 73 = .ok (.invokevirtual 120, 3) := by decide +kernel
theorem dX8_reads_76 : decode cX8_reads 76 = .ok (.ifCond .ne 5, 3) := by decide +kernel
theorem dX8_reads_79 : decode cX8_reads 79 = .ok (.iconst 0, 1) := by decide +kernel
theorem dX8_reads_80 : decode cX8_reads 80 = .ok (.ireturn, 1) := by decide +kernel
theorem dX8_reads_81 : decode cX8_reads 81 = .ok (.aload_n 0, 1) := by decide +kernel
theorem dX8_reads_82 : decode cX8_reads 82 = .ok (.invokevirtual 111, 3) := by decide +kernel
theorem dX8_reads_85 : decode cX8_reads 85 = .ok (.aload_n 0, 1) := by decide +kernel
theorem dX8_reads_86 : decode cX8_reads 86 = .ok (.getfield 105, 3) := by decide +kernel
theorem dX8_reads_89 : decode cX8_reads 89 = .ok (.ifCond .eq 19, 3) := by decide +kernel
theorem dX8_reads_92 : decode cX8_reads 92 = .ok (.aload_n 0, 1) := by decide +kernel
theorem dX8_reads_93 : decode cX8_reads 93 = .ok (.invokevirtual 124, 3) := by decide +kernel
theorem dX8_reads_96 : decode cX8_reads 96 = .ok (.ifCond .ne 5, 3) := by decide +kernel
theorem dX8_reads_99 : decode cX8_reads 99 = .ok (.iconst 0, 1) := by decide +kernel
theorem dX8_reads_100 : decode cX8_reads 100 = .ok (.ireturn, 1) := by decide +kernel
theorem dX8_reads_101 : decode cX8_reads 101 = .ok (.aload_n 0, 1) := by decide +kernel
theorem dX8_reads_102 : decode cX8_reads 102 = .ok (.invokevirtual 111, 3) := by decide +kernel
theorem dX8_reads_105 : decode cX8_reads 105 = .ok (.goto (-20), 3) := by decide +kernel
theorem dX8_reads_108 : decode cX8_reads 108 = .ok (.iconst 1, 1) := by decide +kernel
theorem dX8_reads_109 : decode cX8_reads 109 = .ok (.ireturn, 1) := by decide +kernel
set_option maxRecDepth 20000 in
theorem ggX8_mine_X8_reads : GoodIn wsX8_mine wsX8_reads := goodIn_r _ [13, 6, 14, 15, 16, 17, 18, 19, 12, 20, 5, 21, 22, 23, 24, 25, 26, 27, 28, 1, 29, 30, 31, 32, 33, 34, 35, 36, 2, 37, 38, 39, 40, 41, 42, 43, 44, 45, 46, 47, 51, 52, 53, 54, 55, 56, 57, 58, 59, 60, 61, 62, 63, 64, 65, 66, 67, 68, 69, 70, 71, 72, 73, 74] (by decide +kernel) (by decide +kernel)
set_option maxRecDepth 20000 in
theorem gX8_mine_X8_reads : GoodIn wsX8_mine (wsV RX8 128 RX8 yX8_reads wsX8_reads) := goodIn_app (goodIn_of _ (by decide +kernel)) ggX8_mine_X8_reads
set_option maxRecDepth 20000 in
theorem ggX8_mine_X8_copies : GoodIn wsX8_mine wsX8_copies := goodIn_r _ [50] (by decide +kernel) (by decide +kernel)
set_option maxRecDepth 20000 in
theorem gX8_mine_X8_copies : GoodIn wsX8_mine (va_wsS RX8 135 yX8_copies wsX8_copies) := goodIn_app (goodIn_of _ (by decide +kernel)) ggX8_mine_X8_copies
theorem dX8_mine_0 : decode cX8_mine 0 = .ok (.aload_n 0, 1) := by decide +kernel
theorem dX8_mine_1 : decode cX8_mine 1 = .ok (.invokevirtual 128, 3) := by decide +kernel
theorem dX8_mine_4 : decode cX8_mine 4 = .ok (.istore_n 1, 1) := by decide +kernel
theorem dX8_mine_5 : decode cX8_mine 5 = .ok (.aload_n 0, 1) := by decide +kernel
theorem dX8_mine_6 : decode cX8_mine 6 = .ok (.iconst 0, 1) := by decide +kernel
theorem dX8_mine_7 : decode cX8_mine 7 = .ok (.putfield 80, 3) := by decide +kernel
theorem dX8_mine_10 : decode cX8_mine 10 = .ok (.iload_n 1, 1) := by decide +kernel
theorem dX8_mine_11 : decode cX8_mine 11 = .ok (.ifCond .ne 19, 3) := by decide +kernel
theorem dX8_mine_14 : decode cX8_mine 14 = .ok (.aload_n 0, 1) := by decide +kernel
theorem dX8_mine_15 : decode cX8_mine 15 = .ok (.aload_n 0, 1) := by decide +kernel
theorem dX8_mine_16 : decode cX8_mine 16 = .ok (.getfield 108, 3) := by decide +kernel
theorem dX8_mine_19 : decode cX8_mine 19 = .ok (.putfield 131, 3) := by decide +kernel
theorem dX8_mine_22 : decode cX8_mine 22 = .ok (.ldc 134, 2) := by decide +kernel
theorem dX8_mine_24 : decode cX8_mine 24 = .ok (.aload_n 0, 1) := by decide +kernel
theorem dX8_mine_25 : decode cX8_mine 25 = .ok (.getfield 87, 3) := by decide +kernel
theorem dX8_mine_28 : decode cX8_mine 28 = .ok (.isub, 1) := by decide +kernel
theorem dX8_mine_29 : decode cX8_mine 29 = .ok (.ireturn, 1) := by decide +kernel
theorem dX8_mine_30 : decode cX8_mine 30 = .ok (.aload_n 0, 1) := by decide +kernel
theorem dX8_mine_31 : decode cX8_mine 31 = .ok (.getfield 22, 3) := by decide +kernel
theorem dX8_mine_34 : decode cX8_mine 34 = .ok (.iconst 0, 1) := by decide +kernel
theorem dX8_mine_35 : decode cX8_mine 35 = .ok (.aload_n 0, 1) := by decide +kernel
theorem dX8_mine_36 : decode cX8_mine 36 = .ok (.getfield 19, 3) := by decide +kernel
theorem dX8_mine_39 : decode cX8_mine 39 = .ok (.iconst 0, 1) := by decide +kernel
theorem dX8_mine_40 : decode cX8_mine 40 = .ok (.invokestatic 135, 3) := by decide +kernel
theorem dX8_mine_43 : decode cX8_mine 43 = .ok (.aload_n 0, 1) := by decide +kernel
theorem dX8_mine_44 : decode cX8_mine 44 = .ok (.iconst 0, 1) := by decide +kernel
theorem dX8_mine_45 : decode cX8_mine 45 = .ok (.putfield 139, 3) := by decide +kernel
theorem dX8_mine_48 : decode cX8_mine 48 = .ok (.aload_n 0, 1) := by decide +kernel
theorem dX8_mine_49 : decode cX8_mine 49 = .ok (.getfield 19, 3) := by decide +kernel
theorem dX8_mine_52 : decode cX8_mine 52 = .ok (.iconst 0, 1) := by decide +kernel
theorem dX8_mine_53 : decode cX8_mine 53 = .ok (.iaload, 1) := by decide +kernel
theorem dX8_mine_54 : decode cX8_mine 54 = .ok (.ireturn, 1) := by decide +kernel
theorem dX8_fault_0 : decode cX8_fault 0 = .ok (.aload_n 0, 1) := by decide +kernel
theorem dX8_fault_1 : decode cX8_fault 1 = .ok (.getfield 131, 3) := by decide +kernel
theorem dX8_fault_4 : decode cX8_fault 4 = .ok (.ireturn, 1) := by decide +kernel
theorem dX8_copies_0 : decode cX8_copies 0 = .ok (.iconst 0, 1) := by decide +kernel
theorem dX8_copies_1 : decode cX8_copies 1 = .ok (.istore 4, 2) := by decide +kernel
theorem dX8_copies_3 : decode cX8_copies 3 = .ok (.iload 4, 2) := by decide +kernel
theorem dX8_copies_5 : decode cX8_copies 5 = .ok (.bipush 30, 2) := by decide +kernel
theorem dX8_copies_7 : decode cX8_copies 7 = .ok (.if_icmp .ge 21, 3) := by decide +kernel
theorem dX8_copies_10 : decode cX8_copies 10 = .ok (.aload_n 2, 1) := by decide +kernel
theorem dX8_copies_11 : decode cX8_copies 11 = .ok (.iload_n 3, 1) := by decide +kernel
theorem dX8_copies_12 : decode cX8_copies 12 = .ok (.iload 4, 2) := by decide +kernel
theorem dX8_copies_14 : decode cX8_copies 14 = .ok (.iadd, 1) := by decide +kernel
theorem dX8_copies_15 : decode cX8_copies 15 = .ok (.aload_n 0, 1) := by decide +kernel
theorem dX8_copies_16 : decode cX8_copies 16 = .ok (.iload_n 1, 1) := by decide +kernel
theorem dX8_copies_17 : decode cX8_copies 17 = .ok (.iload 4, 2) := by decide +kernel
theorem dX8_copies_19 : decode cX8_copies 19 = .ok (.iadd, 1) := by decide +kernel
theorem dX8_copies_20 : decode cX8_copies 20 = .ok (.iaload, 1) := by decide +kernel
theorem dX8_copies_21 : decode cX8_copies 21 = .ok (.iastore, 1) := by decide +kernel
theorem dX8_copies_22 : decode cX8_copies 22 = .ok (.iinc 4 1, 3) := by decide +kernel
theorem dX8_copies_25 : decode cX8_copies 25 = .ok (.goto (-22), 3) := by decide +kernel
theorem dX8_copies_28 : decode cX8_copies 28 = .ok (.return_, 1) := by decide +kernel
theorem dX8_has_0 : decode cX8_has 0 = .ok (.iload_n 0, 1) := by decide +kernel
theorem dX8_has_1 : decode cX8_has 1 = .ok (.iload_n 1, 1) := by decide +kernel
theorem dX8_has_2 : decode cX8_has 2 = .ok (.ishr, 1) := by decide +kernel
theorem dX8_has_3 : decode cX8_has 3 = .ok (.iconst 1, 1) := by decide +kernel
theorem dX8_has_4 : decode cX8_has 4 = .ok (.iand, 1) := by decide +kernel
theorem dX8_has_5 : decode cX8_has 5 = .ok (.iconst 1, 1) := by decide +kernel
theorem dX8_has_6 : decode cX8_has 6 = .ok (.if_icmp .ne 7, 3) := by decide +kernel
theorem dX8_has_9 : decode cX8_has 9 = .ok (.iconst 1, 1) := by decide +kernel
theorem dX8_has_10 : decode cX8_has 10 = .ok (.goto 4, 3) := by decide +kernel
theorem dX8_has_13 : decode cX8_has 13 = .ok (.iconst 0, 1) := by decide +kernel
theorem dX8_has_14 : decode cX8_has 14 = .ok (.ireturn, 1) := by decide +kernel
theorem dX8_bits_0 : decode cX8_bits 0 = .ok (.iconst 0, 1) := by decide +kernel
theorem dX8_bits_1 : decode cX8_bits 1 = .ok (.istore_n 1, 1) := by decide +kernel
theorem dX8_bits_2 : decode cX8_bits 2 = .ok (.iload_n 0, 1) := by decide +kernel
theorem dX8_bits_3 : decode cX8_bits 3 = .ok (.istore_n 2, 1) := by decide +kernel
theorem dX8_bits_4 : decode cX8_bits 4 = .ok (.iload_n 2, 1) := by decide +kernel
theorem dX8_bits_5 : decode cX8_bits 5 = .ok (.ifCond .eq 15, 3) := by decide +kernel
theorem dX8_bits_8 : decode cX8_bits 8 = .ok (.iinc 1 1, 3) := by decide +kernel
theorem dX8_bits_11 : decode cX8_bits 11 = .ok (.iload_n 2, 1) := by decide +kernel
theorem dX8_bits_12 : decode cX8_bits 12 = .ok (.iload_n 2, 1) := by decide +kernel
theorem dX8_bits_13 : decode cX8_bits 13 = .ok (.iconst 1, 1) := by decide +kernel
theorem dX8_bits_14 : decode cX8_bits 14 = .ok (.isub, 1) := by decide +kernel
theorem dX8_bits_15 : decode cX8_bits 15 = .ok (.iand, 1) := by decide +kernel
theorem dX8_bits_16 : decode cX8_bits 16 = .ok (.istore_n 2, 1) := by decide +kernel
theorem dX8_bits_17 : decode cX8_bits 17 = .ok (.goto (-13), 3) := by decide +kernel
theorem dX8_bits_20 : decode cX8_bits 20 = .ok (.iload_n 1, 1) := by decide +kernel
theorem dX8_bits_21 : decode cX8_bits 21 = .ok (.ireturn, 1) := by decide +kernel
theorem dX8_lies_0 : decode cX8_lies 0 = .ok (.aload_n 0, 1) := by decide +kernel
theorem dX8_lies_1 : decode cX8_lies 1 = .ok (.bipush 13, 2) := by decide +kernel
theorem dX8_lies_3 : decode cX8_lies 3 = .ok (.iload_n 1, 1) := by decide +kernel
theorem dX8_lies_4 : decode cX8_lies 4 = .ok (.iadd, 1) := by decide +kernel
theorem dX8_lies_5 : decode cX8_lies 5 = .ok (.iaload, 1) := by decide +kernel
theorem dX8_lies_6 : decode cX8_lies 6 = .ok (.ifCond .le 7, 3) := by decide +kernel
theorem dX8_lies_9 : decode cX8_lies 9 = .ok (.iconst 1, 1) := by decide +kernel
theorem dX8_lies_10 : decode cX8_lies 10 = .ok (.goto 4, 3) := by decide +kernel
theorem dX8_lies_13 : decode cX8_lies 13 = .ok (.iconst 0, 1) := by decide +kernel
theorem dX8_lies_14 : decode cX8_lies 14 = .ok (.ireturn, 1) := by decide +kernel
set_option maxRecDepth 20000 in
theorem ggX8_rises_X8_lies : GoodIn wsX8_rises wsX8_lies := goodIn_r _ [4] (by decide +kernel) (by decide +kernel)
set_option maxRecDepth 20000 in
theorem gX8_rises_X8_lies : GoodIn wsX8_rises (va_wsS RX8 142 yX8_lies wsX8_lies) := goodIn_app (goodIn_of _ (by decide +kernel)) ggX8_rises_X8_lies
theorem dX8_rises_0 : decode cX8_rises 0 = .ok (.aload_n 0, 1) := by decide +kernel
theorem dX8_rises_1 : decode cX8_rises 1 = .ok (.iload_n 1, 1) := by decide +kernel
theorem dX8_rises_2 : decode cX8_rises 2 = .ok (.invokestatic 142, 3) := by decide +kernel
theorem dX8_rises_5 : decode cX8_rises 5 = .ok (.ifCond .ne 5, 3) := by decide +kernel
theorem dX8_rises_8 : decode cX8_rises 8 = .ok (.iconst 0, 1) := by decide +kernel
theorem dX8_rises_9 : decode cX8_rises 9 = .ok (.ireturn, 1) := by decide +kernel
theorem dX8_rises_10 : decode cX8_rises 10 = .ok (.aload_n 0, 1) := by decide +kernel
theorem dX8_rises_11 : decode cX8_rises 11 = .ok (.iconst 3, 1) := by decide +kernel
theorem dX8_rises_12 : decode cX8_rises 12 = .ok (.iload_n 1, 1) := by decide +kernel
theorem dX8_rises_13 : decode cX8_rises 13 = .ok (.iadd, 1) := by decide +kernel
theorem dX8_rises_14 : decode cX8_rises 14 = .ok (.iaload, 1) := by decide +kernel
theorem dX8_rises_15 : decode cX8_rises 15 = .ok (.istore_n 2, 1) := by decide +kernel
theorem dX8_rises_16 : decode cX8_rises 16 = .ok (.aload_n 0, 1) := by decide +kernel
theorem dX8_rises_17 : decode cX8_rises 17 = .ok (.bipush 28, 2) := by decide +kernel
theorem dX8_rises_19 : decode cX8_rises 19 = .ok (.iaload, 1) := by decide +kernel
theorem dX8_rises_20 : decode cX8_rises 20 = .ok (.aload_n 0, 1) := by decide +kernel
theorem dX8_rises_21 : decode cX8_rises 21 = .ok (.bipush 8, 2) := by decide +kernel
theorem dX8_rises_23 : decode cX8_rises 23 = .ok (.iload_n 1, 1) := by decide +kernel
theorem dX8_rises_24 : decode cX8_rises 24 = .ok (.iadd, 1) := by decide +kernel
theorem dX8_rises_25 : decode cX8_rises 25 = .ok (.iaload, 1) := by decide +kernel
theorem dX8_rises_26 : decode cX8_rises 26 = .ok (.irem, 1) := by decide +kernel
theorem dX8_rises_27 : decode cX8_rises 27 = .ok (.ifCond .ne 7, 3) := by decide +kernel
theorem dX8_rises_30 : decode cX8_rises 30 = .ok (.iconst 1, 1) := by decide +kernel
theorem dX8_rises_31 : decode cX8_rises 31 = .ok (.goto 4, 3) := by decide +kernel
theorem dX8_rises_34 : decode cX8_rises 34 = .ok (.iconst 0, 1) := by decide +kernel
theorem dX8_rises_35 : decode cX8_rises 35 = .ok (.istore_n 3, 1) := by decide +kernel
theorem dX8_rises_36 : decode cX8_rises 36 = .ok (.iconst 0, 1) := by decide +kernel
theorem dX8_rises_37 : decode cX8_rises 37 = .ok (.istore 4, 2) := by decide +kernel
theorem dX8_rises_39 : decode cX8_rises 39 = .ok (.iconst 0, 1) := by decide +kernel
theorem dX8_rises_40 : decode cX8_rises 40 = .ok (.istore 5, 2) := by decide +kernel
theorem dX8_rises_42 : decode cX8_rises 42 = .ok (.iload 5, 2) := by decide +kernel
theorem dX8_rises_44 : decode cX8_rises 44 = .ok (.aload_n 0, 1) := by decide +kernel
theorem dX8_rises_45 : decode cX8_rises 45 = .ok (.iconst 0, 1) := by decide +kernel
theorem dX8_rises_46 : decode cX8_rises 46 = .ok (.iaload, 1) := by decide +kernel
theorem dX8_rises_47 : decode cX8_rises 47 = .ok (.if_icmp .ge 68, 3) := by decide +kernel
theorem dX8_rises_50 : decode cX8_rises 50 = .ok (.iload 4, 2) := by decide +kernel
theorem dX8_rises_52 : decode cX8_rises 52 = .ok (.ifCond .ne 50, 3) := by decide +kernel
theorem dX8_rises_55 : decode cX8_rises 55 = .ok (.iload 5, 2) := by decide +kernel
theorem dX8_rises_57 : decode cX8_rises 57 = .ok (.iload_n 1, 1) := by decide +kernel
theorem dX8_rises_58 : decode cX8_rises 58 = .ok (.if_icmp .eq 48, 3) := by decide +kernel
theorem dX8_rises_61 : decode cX8_rises 61 = .ok (.aload_n 0, 1) := by decide +kernel
theorem dX8_rises_62 : decode cX8_rises 62 = .ok (.iload 5, 2) := by decide +kernel
theorem dX8_rises_64 : decode cX8_rises 64 = .ok (.invokestatic 142, 3) := by decide +kernel
theorem dX8_rises_67 : decode cX8_rises 67 = .ok (.ifCond .eq 39, 3) := by decide +kernel
theorem dX8_rises_70 : decode cX8_rises 70 = .ok (.aload_n 0, 1) := by decide +kernel
theorem dX8_rises_71 : decode cX8_rises 71 = .ok (.bipush 18, 2) := by decide +kernel
theorem dX8_rises_73 : decode cX8_rises 73 = .ok (.iload 5, 2) := by decide +kernel
theorem dX8_rises_75 : decode cX8_rises 75 = .ok (.iadd, 1) := by decide +kernel
theorem dX8_rises_76 : decode cX8_rises 76 = .ok (.iaload, 1) := by decide +kernel
theorem dX8_rises_77 : decode cX8_rises 77 = .ok (.aload_n 0, 1) := by decide +kernel
theorem dX8_rises_78 : decode cX8_rises 78 = .ok (.bipush 18, 2) := by decide +kernel
theorem dX8_rises_80 : decode cX8_rises 80 = .ok (.iload_n 1, 1) := by decide +kernel
theorem dX8_rises_81 : decode cX8_rises 81 = .ok (.iadd, 1) := by decide +kernel
theorem dX8_rises_82 : decode cX8_rises 82 = .ok (.iaload, 1) := by decide +kernel
theorem dX8_rises_83 : decode cX8_rises 83 = .ok (.if_icmp .ne 23, 3) := by decide +kernel
theorem dX8_rises_86 : decode cX8_rises 86 = .ok (.aload_n 0, 1) := by decide +kernel
theorem dX8_rises_87 : decode cX8_rises 87 = .ok (.bipush 13, 2) := by decide +kernel
theorem dX8_rises_89 : decode cX8_rises 89 = .ok (.iload 5, 2) := by decide +kernel
theorem dX8_rises_91 : decode cX8_rises 91 = .ok (.iadd, 1) := by decide +kernel
theorem dX8_rises_92 : decode cX8_rises 92 = .ok (.iaload, 1) := by decide +kernel
theorem dX8_rises_93 : decode cX8_rises 93 = .ok (.aload_n 0, 1) := by decide +kernel
theorem dX8_rises_94 : decode cX8_rises 94 = .ok (.bipush 13, 2) := by decide +kernel
theorem dX8_rises_96 : decode cX8_rises 96 = .ok (.iload_n 1, 1) := by decide +kernel
theorem dX8_rises_97 : decode cX8_rises 97 = .ok (.iadd, 1) := by decide +kernel
theorem dX8_rises_98 : decode cX8_rises 98 = .ok (.iaload, 1) := by decide +kernel
theorem dX8_rises_99 : decode cX8_rises 99 = .ok (.if_icmp .ge 7, 3) := by decide +kernel
theorem dX8_rises_102 : decode cX8_rises 102 = .ok (.iconst 1, 1) := by decide +kernel
theorem dX8_rises_103 : decode cX8_rises 103 = .ok (.goto 4, 3) := by decide +kernel
theorem dX8_rises_106 : decode cX8_rises 106 = .ok (.iconst 0, 1) := by decide +kernel
theorem dX8_rises_107 : decode cX8_rises 107 = .ok (.istore 4, 2) := by decide +kernel
theorem dX8_rises_109 : decode cX8_rises 109 = .ok (.iinc 5 1, 3) := by decide +kernel
theorem dX8_rises_112 : decode cX8_rises 112 = .ok (.goto (-70), 3) := by decide +kernel
theorem dX8_rises_115 : decode cX8_rises 115 = .ok (.iload_n 2, 1) := by decide +kernel
theorem dX8_rises_116 : decode cX8_rises 116 = .ok (.iconst 1, 1) := by decide +kernel
theorem dX8_rises_117 : decode cX8_rises 117 = .ok (.if_icmp .ne 7, 3) := by decide +kernel
theorem dX8_rises_120 : decode cX8_rises 120 = .ok (.iload_n 3, 1) := by decide +kernel
theorem dX8_rises_121 : decode cX8_rises 121 = .ok (.goto 56, 3) := by decide +kernel
theorem dX8_rises_124 : decode cX8_rises 124 = .ok (.iload_n 2, 1) := by decide +kernel
theorem dX8_rises_125 : decode cX8_rises 125 = .ok (.iconst 2, 1) := by decide +kernel
theorem dX8_rises_126 : decode cX8_rises 126 = .ok (.if_icmp .ne 16, 3) := by decide +kernel
theorem dX8_rises_129 : decode cX8_rises 129 = .ok (.iload 4, 2) := by decide +kernel
theorem dX8_rises_131 : decode cX8_rises 131 = .ok (.ifCond .eq 7, 3) := by decide +kernel
theorem dX8_rises_134 : decode cX8_rises 134 = .ok (.iconst 0, 1) := by decide +kernel
theorem dX8_rises_135 : decode cX8_rises 135 = .ok (.goto 42, 3) := by decide +kernel
theorem dX8_rises_138 : decode cX8_rises 138 = .ok (.iload_n 3, 1) := by decide +kernel
theorem dX8_rises_139 : decode cX8_rises 139 = .ok (.goto 38, 3) := by decide +kernel
theorem dX8_rises_142 : decode cX8_rises 142 = .ok (.iload_n 2, 1) := by decide +kernel
theorem dX8_rises_143 : decode cX8_rises 143 = .ok (.iconst 3, 1) := by decide +kernel
theorem dX8_rises_144 : decode cX8_rises 144 = .ok (.if_icmp .ne 9, 3) := by decide +kernel
theorem dX8_rises_147 : decode cX8_rises 147 = .ok (.iconst 2, 1) := by decide +kernel
theorem dX8_rises_148 : decode cX8_rises 148 = .ok (.iload_n 3, 1) := by decide +kernel
theorem dX8_rises_149 : decode cX8_rises 149 = .ok (.imul, 1) := by decide +kernel
theorem dX8_rises_150 : decode cX8_rises 150 = .ok (.goto 27, 3) := by decide +kernel
theorem dX8_rises_153 : decode cX8_rises 153 = .ok (.iload_n 2, 1) := by decide +kernel
theorem dX8_rises_154 : decode cX8_rises 154 = .ok (.iconst 4, 1) := by decide +kernel
theorem dX8_rises_155 : decode cX8_rises 155 = .ok (.if_icmp .ne 7, 3) := by decide +kernel
theorem dX8_rises_158 : decode cX8_rises 158 = .ok (.iconst 0, 1) := by decide +kernel
theorem dX8_rises_159 : decode cX8_rises 159 = .ok (.goto 18, 3) := by decide +kernel
theorem dX8_rises_162 : decode cX8_rises 162 = .ok (.aload_n 0, 1) := by decide +kernel
theorem dX8_rises_163 : decode cX8_rises 163 = .ok (.bipush 28, 2) := by decide +kernel
theorem dX8_rises_165 : decode cX8_rises 165 = .ok (.iaload, 1) := by decide +kernel
theorem dX8_rises_166 : decode cX8_rises 166 = .ok (.iconst 5, 1) := by decide +kernel
theorem dX8_rises_167 : decode cX8_rises 167 = .ok (.irem, 1) := by decide +kernel
theorem dX8_rises_168 : decode cX8_rises 168 = .ok (.iconst 4, 1) := by decide +kernel
theorem dX8_rises_169 : decode cX8_rises 169 = .ok (.if_icmp .ne 7, 3) := by decide +kernel
theorem dX8_rises_172 : decode cX8_rises 172 = .ok (.iconst 1, 1) := by decide +kernel
theorem dX8_rises_173 : decode cX8_rises 173 = .ok (.goto 4, 3) := by decide +kernel
theorem dX8_rises_176 : decode cX8_rises 176 = .ok (.iconst 0, 1) := by decide +kernel
theorem dX8_rises_177 : decode cX8_rises 177 = .ok (.istore 5, 2) := by decide +kernel
theorem dX8_rises_179 : decode cX8_rises 179 = .ok (.iload 5, 2) := by decide +kernel
theorem dX8_rises_181 : decode cX8_rises 181 = .ok (.aload_n 0, 1) := by decide +kernel
theorem dX8_rises_182 : decode cX8_rises 182 = .ok (.bipush 13, 2) := by decide +kernel
theorem dX8_rises_184 : decode cX8_rises 184 = .ok (.iload_n 1, 1) := by decide +kernel
theorem dX8_rises_185 : decode cX8_rises 185 = .ok (.iadd, 1) := by decide +kernel
theorem dX8_rises_186 : decode cX8_rises 186 = .ok (.iaload, 1) := by decide +kernel
theorem dX8_rises_187 : decode cX8_rises 187 = .ok (.if_icmp .le 12, 3) := by decide +kernel
theorem dX8_rises_190 : decode cX8_rises 190 = .ok (.aload_n 0, 1) := by decide +kernel
theorem dX8_rises_191 : decode cX8_rises 191 = .ok (.bipush 13, 2) := by decide +kernel
theorem dX8_rises_193 : decode cX8_rises 193 = .ok (.iload_n 1, 1) := by decide +kernel
theorem dX8_rises_194 : decode cX8_rises 194 = .ok (.iadd, 1) := by decide +kernel
theorem dX8_rises_195 : decode cX8_rises 195 = .ok (.iaload, 1) := by decide +kernel
theorem dX8_rises_196 : decode cX8_rises 196 = .ok (.goto 5, 3) := by decide +kernel
theorem dX8_rises_199 : decode cX8_rises 199 = .ok (.iload 5, 2) := by decide +kernel
theorem dX8_rises_201 : decode cX8_rises 201 = .ok (.ireturn, 1) := by decide +kernel
set_option maxRecDepth 20000 in
theorem ggX8_yearGoes_X8_rises : GoodIn wsX8_yearGoes wsX8_rises := goodIn_r _ [5, 6, 7, 4, 8] (by decide +kernel) (by decide +kernel)
set_option maxRecDepth 20000 in
theorem gX8_yearGoes_X8_rises : GoodIn wsX8_yearGoes (va_wsS RX8 146 yX8_rises wsX8_rises) := goodIn_app (goodIn_of _ (by decide +kernel)) ggX8_yearGoes_X8_rises
theorem dX8_yearGoes_0 : decode cX8_yearGoes 0 = .ok (.iconst 0, 1) := by decide +kernel
theorem dX8_yearGoes_1 : decode cX8_yearGoes 1 = .ok (.istore_n 2, 1) := by decide +kernel
theorem dX8_yearGoes_2 : decode cX8_yearGoes 2 = .ok (.iload_n 2, 1) := by decide +kernel
theorem dX8_yearGoes_3 : decode cX8_yearGoes 3 = .ok (.aload_n 1, 1) := by decide +kernel
theorem dX8_yearGoes_4 : decode cX8_yearGoes 4 = .ok (.iconst 0, 1) := by decide +kernel
theorem dX8_yearGoes_5 : decode cX8_yearGoes 5 = .ok (.iaload, 1) := by decide +kernel
theorem dX8_yearGoes_6 : decode cX8_yearGoes 6 = .ok (.if_icmp .ge 20, 3) := by decide +kernel
theorem dX8_yearGoes_9 : decode cX8_yearGoes 9 = .ok (.aload_n 0, 1) := by decide +kernel
theorem dX8_yearGoes_10 : decode cX8_yearGoes 10 = .ok (.getfield 44, 3) := by decide +kernel
theorem dX8_yearGoes_13 : decode cX8_yearGoes 13 = .ok (.iload_n 2, 1) := by decide +kernel
theorem dX8_yearGoes_14 : decode cX8_yearGoes 14 = .ok (.aload_n 1, 1) := by decide +kernel
theorem dX8_yearGoes_15 : decode cX8_yearGoes 15 = .ok (.iload_n 2, 1) := by decide +kernel
theorem dX8_yearGoes_16 : decode cX8_yearGoes 16 = .ok (.invokestatic 146, 3) := by decide +kernel
theorem dX8_yearGoes_19 : decode cX8_yearGoes 19 = .ok (.iastore, 1) := by decide +kernel
theorem dX8_yearGoes_20 : decode cX8_yearGoes 20 = .ok (.iinc 2 1, 3) := by decide +kernel
theorem dX8_yearGoes_23 : decode cX8_yearGoes 23 = .ok (.goto (-21), 3) := by decide +kernel
theorem dX8_yearGoes_26 : decode cX8_yearGoes 26 = .ok (.iconst 0, 1) := by decide +kernel
theorem dX8_yearGoes_27 : decode cX8_yearGoes 27 = .ok (.istore_n 2, 1) := by decide +kernel
theorem dX8_yearGoes_28 : decode cX8_yearGoes 28 = .ok (.iload_n 2, 1) := by decide +kernel
theorem dX8_yearGoes_29 : decode cX8_yearGoes 29 = .ok (.aload_n 1, 1) := by decide +kernel
theorem dX8_yearGoes_30 : decode cX8_yearGoes 30 = .ok (.iconst 0, 1) := by decide +kernel
theorem dX8_yearGoes_31 : decode cX8_yearGoes 31 = .ok (.iaload, 1) := by decide +kernel
theorem dX8_yearGoes_32 : decode cX8_yearGoes 32 = .ok (.if_icmp .ge 24, 3) := by decide +kernel
theorem dX8_yearGoes_35 : decode cX8_yearGoes 35 = .ok (.aload_n 1, 1) := by decide +kernel
theorem dX8_yearGoes_36 : decode cX8_yearGoes 36 = .ok (.bipush 13, 2) := by decide +kernel
theorem dX8_yearGoes_38 : decode cX8_yearGoes 38 = .ok (.iload_n 2, 1) := by decide +kernel
theorem dX8_yearGoes_39 : decode cX8_yearGoes 39 = .ok (.iadd, 1) := by decide +kernel
theorem dX8_yearGoes_40 : decode cX8_yearGoes 40 = .ok (.dup2, 1) := by decide +kernel
theorem dX8_yearGoes_41 : decode cX8_yearGoes 41 = .ok (.iaload, 1) := by decide +kernel
theorem dX8_yearGoes_42 : decode cX8_yearGoes 42 = .ok (.aload_n 0, 1) := by decide +kernel
theorem dX8_yearGoes_43 : decode cX8_yearGoes 43 = .ok (.getfield 44, 3) := by decide +kernel
theorem dX8_yearGoes_46 : decode cX8_yearGoes 46 = .ok (.iload_n 2, 1) := by decide +kernel
theorem dX8_yearGoes_47 : decode cX8_yearGoes 47 = .ok (.iaload, 1) := by decide +kernel
theorem dX8_yearGoes_48 : decode cX8_yearGoes 48 = .ok (.isub, 1) := by decide +kernel
theorem dX8_yearGoes_49 : decode cX8_yearGoes 49 = .ok (.iastore, 1) := by decide +kernel
theorem dX8_yearGoes_50 : decode cX8_yearGoes 50 = .ok (.iinc 2 1, 3) := by decide +kernel
theorem dX8_yearGoes_53 : decode cX8_yearGoes 53 = .ok (.goto (-25), 3) := by decide +kernel
theorem dX8_yearGoes_56 : decode cX8_yearGoes 56 = .ok (.aload_n 1, 1) := by decide +kernel
theorem dX8_yearGoes_57 : decode cX8_yearGoes 57 = .ok (.bipush 28, 2) := by decide +kernel
theorem dX8_yearGoes_59 : decode cX8_yearGoes 59 = .ok (.dup2, 1) := by decide +kernel
theorem dX8_yearGoes_60 : decode cX8_yearGoes 60 = .ok (.iaload, 1) := by decide +kernel
theorem dX8_yearGoes_61 : decode cX8_yearGoes 61 = .ok (.iconst 1, 1) := by decide +kernel
theorem dX8_yearGoes_62 : decode cX8_yearGoes 62 = .ok (.iadd, 1) := by decide +kernel
theorem dX8_yearGoes_63 : decode cX8_yearGoes 63 = .ok (.iastore, 1) := by decide +kernel
theorem dX8_yearGoes_64 : decode cX8_yearGoes 64 = .ok (.return_, 1) := by decide +kernel
set_option maxRecDepth 20000 in
theorem ggX8_upOf_X8_lies : GoodIn wsX8_upOf wsX8_lies := goodIn_r _ [4] (by decide +kernel) (by decide +kernel)
set_option maxRecDepth 20000 in
theorem gX8_upOf_X8_lies : GoodIn wsX8_upOf (va_wsS RX8 142 yX8_lies wsX8_lies) := goodIn_app (goodIn_of _ (by decide +kernel)) ggX8_upOf_X8_lies
theorem dX8_upOf_0 : decode cX8_upOf 0 = .ok (.iconst 0, 1) := by decide +kernel
theorem dX8_upOf_1 : decode cX8_upOf 1 = .ok (.istore_n 1, 1) := by decide +kernel
theorem dX8_upOf_2 : decode cX8_upOf 2 = .ok (.iconst 0, 1) := by decide +kernel
theorem dX8_upOf_3 : decode cX8_upOf 3 = .ok (.istore_n 2, 1) := by decide +kernel
theorem dX8_upOf_4 : decode cX8_upOf 4 = .ok (.iload_n 2, 1) := by decide +kernel
theorem dX8_upOf_5 : decode cX8_upOf 5 = .ok (.aload_n 0, 1) := by decide +kernel
theorem dX8_upOf_6 : decode cX8_upOf 6 = .ok (.iconst 0, 1) := by decide +kernel
theorem dX8_upOf_7 : decode cX8_upOf 7 = .ok (.iaload, 1) := by decide +kernel
theorem dX8_upOf_8 : decode cX8_upOf 8 = .ok (.if_icmp .ge 27, 3) := by decide +kernel
theorem dX8_upOf_11 : decode cX8_upOf 11 = .ok (.iload_n 1, 1) := by decide +kernel
theorem dX8_upOf_12 : decode cX8_upOf 12 = .ok (.aload_n 0, 1) := by decide +kernel
theorem dX8_upOf_13 : decode cX8_upOf 13 = .ok (.iload_n 2, 1) := by decide +kernel
theorem dX8_upOf_14 : decode cX8_upOf 14 = .ok (.invokestatic 142, 3) := by decide +kernel
theorem dX8_upOf_17 : decode cX8_upOf 17 = .ok (.ifCond .eq 7, 3) := by decide +kernel
theorem dX8_upOf_20 : decode cX8_upOf 20 = .ok (.iconst 0, 1) := by decide +kernel
theorem dX8_upOf_21 : decode cX8_upOf 21 = .ok (.goto 6, 3) := by decide +kernel
theorem dX8_upOf_24 : decode cX8_upOf 24 = .ok (.iconst 1, 1) := by decide +kernel
theorem dX8_upOf_25 : decode cX8_upOf 25 = .ok (.iload_n 2, 1) := by decide +kernel
theorem dX8_upOf_26 : decode cX8_upOf 26 = .ok (.ishl, 1) := by decide +kernel
theorem dX8_upOf_27 : decode cX8_upOf 27 = .ok (.ior, 1) := by decide +kernel
theorem dX8_upOf_28 : decode cX8_upOf 28 = .ok (.istore_n 1, 1) := by decide +kernel
theorem dX8_upOf_29 : decode cX8_upOf 29 = .ok (.iinc 2 1, 3) := by decide +kernel
theorem dX8_upOf_32 : decode cX8_upOf 32 = .ok (.goto (-28), 3) := by decide +kernel
theorem dX8_upOf_35 : decode cX8_upOf 35 = .ok (.iload_n 1, 1) := by decide +kernel
theorem dX8_upOf_36 : decode cX8_upOf 36 = .ok (.ireturn, 1) := by decide +kernel
theorem dX8_abs_0 : decode cX8_abs 0 = .ok (.iload_n 0, 1) := by decide +kernel
theorem dX8_abs_1 : decode cX8_abs 1 = .ok (.ifCond .ge 8, 3) := by decide +kernel
theorem dX8_abs_4 : decode cX8_abs 4 = .ok (.iload_n 0, 1) := by decide +kernel
theorem dX8_abs_5 : decode cX8_abs 5 = .ok (.ineg, 1) := by decide +kernel
theorem dX8_abs_6 : decode cX8_abs 6 = .ok (.goto 4, 3) := by decide +kernel
theorem dX8_abs_9 : decode cX8_abs 9 = .ok (.iload_n 0, 1) := by decide +kernel
theorem dX8_abs_10 : decode cX8_abs 10 = .ok (.ireturn, 1) := by decide +kernel
set_option maxRecDepth 20000 in
theorem ggX8_tooNear_X8_lies : GoodIn wsX8_tooNear wsX8_lies := goodIn_r _ [4] (by decide +kernel) (by decide +kernel)
set_option maxRecDepth 20000 in
theorem gX8_tooNear_X8_lies : GoodIn wsX8_tooNear (va_wsS RX8 142 yX8_lies wsX8_lies) := goodIn_app (goodIn_of _ (by decide +kernel)) ggX8_tooNear_X8_lies
set_option maxRecDepth 20000 in
theorem ggX8_tooNear_X8_abs : GoodIn wsX8_tooNear wsX8_abs := goodIn_r _ [7] (by decide +kernel) (by decide +kernel)
set_option maxRecDepth 20000 in
theorem gX8_tooNear_X8_abs : GoodIn wsX8_tooNear (va_wsS RX8 150 yX8_abs wsX8_abs) := goodIn_app (goodIn_of _ (by decide +kernel)) ggX8_tooNear_X8_abs
theorem dX8_tooNear_0 : decode cX8_tooNear 0 = .ok (.iload_n 1, 1) := by decide +kernel
theorem dX8_tooNear_1 : decode cX8_tooNear 1 = .ok (.iload_n 2, 1) := by decide +kernel
theorem dX8_tooNear_2 : decode cX8_tooNear 2 = .ok (.if_icmp .eq 65, 3) := by decide +kernel
theorem dX8_tooNear_5 : decode cX8_tooNear 5 = .ok (.aload_n 0, 1) := by decide +kernel
theorem dX8_tooNear_6 : decode cX8_tooNear 6 = .ok (.iload_n 1, 1) := by decide +kernel
theorem dX8_tooNear_7 : decode cX8_tooNear 7 = .ok (.invokestatic 142, 3) := by decide +kernel
theorem dX8_tooNear_10 : decode cX8_tooNear 10 = .ok (.ifCond .eq 57, 3) := by decide +kernel
theorem dX8_tooNear_13 : decode cX8_tooNear 13 = .ok (.aload_n 0, 1) := by decide +kernel
theorem dX8_tooNear_14 : decode cX8_tooNear 14 = .ok (.iload_n 2, 1) := by decide +kernel
theorem dX8_tooNear_15 : decode cX8_tooNear 15 = .ok (.invokestatic 142, 3) := by decide +kernel
theorem dX8_tooNear_18 : decode cX8_tooNear 18 = .ok (.ifCond .eq 49, 3) := by decide +kernel
theorem dX8_tooNear_21 : decode cX8_tooNear 21 = .ok (.aload_n 0, 1) := by decide +kernel
theorem dX8_tooNear_22 : decode cX8_tooNear 22 = .ok (.bipush 18, 2) := by decide +kernel
theorem dX8_tooNear_24 : decode cX8_tooNear 24 = .ok (.iload_n 1, 1) := by decide +kernel
theorem dX8_tooNear_25 : decode cX8_tooNear 25 = .ok (.iadd, 1) := by decide +kernel
theorem dX8_tooNear_26 : decode cX8_tooNear 26 = .ok (.iaload, 1) := by decide +kernel
theorem dX8_tooNear_27 : decode cX8_tooNear 27 = .ok (.aload_n 0, 1) := by decide +kernel
theorem dX8_tooNear_28 : decode cX8_tooNear 28 = .ok (.bipush 18, 2) := by decide +kernel
theorem dX8_tooNear_30 : decode cX8_tooNear 30 = .ok (.iload_n 2, 1) := by decide +kernel
theorem dX8_tooNear_31 : decode cX8_tooNear 31 = .ok (.iadd, 1) := by decide +kernel
theorem dX8_tooNear_32 : decode cX8_tooNear 32 = .ok (.iaload, 1) := by decide +kernel
theorem dX8_tooNear_33 : decode cX8_tooNear 33 = .ok (.isub, 1) := by decide +kernel
theorem dX8_tooNear_34 : decode cX8_tooNear 34 = .ok (.invokestatic 150, 3) := by decide +kernel
theorem dX8_tooNear_37 : decode cX8_tooNear 37 = .ok (.iconst 2, 1) := by decide +kernel
theorem dX8_tooNear_38 : decode cX8_tooNear 38 = .ok (.if_icmp .ge 29, 3) := by decide +kernel
theorem dX8_tooNear_41 : decode cX8_tooNear 41 = .ok (.aload_n 0, 1) := by decide +kernel
theorem dX8_tooNear_42 : decode cX8_tooNear 42 = .ok (.bipush 13, 2) := by decide +kernel
theorem dX8_tooNear_44 : decode cX8_tooNear 44 = .ok (.iload_n 1, 1) := by decide +kernel
theorem dX8_tooNear_45 : decode cX8_tooNear 45 = .ok (.iadd, 1) := by decide +kernel
theorem dX8_tooNear_46 : decode cX8_tooNear 46 = .ok (.iaload, 1) := by decide +kernel
theorem dX8_tooNear_47 : decode cX8_tooNear 47 = .ok (.aload_n 0, 1) := by decide +kernel
theorem dX8_tooNear_48 : decode cX8_tooNear 48 = .ok (.bipush 13, 2) := by decide +kernel
theorem dX8_tooNear_50 : decode cX8_tooNear 50 = .ok (.iload_n 2, 1) := by decide +kernel
theorem dX8_tooNear_51 : decode cX8_tooNear 51 = .ok (.iadd, 1) := by decide +kernel
theorem dX8_tooNear_52 : decode cX8_tooNear 52 = .ok (.iaload, 1) := by decide +kernel
theorem dX8_tooNear_53 : decode cX8_tooNear 53 = .ok (.isub, 1) := by decide +kernel
theorem dX8_tooNear_54 : decode cX8_tooNear 54 = .ok (.invokestatic 150, 3) := by decide +kernel
theorem dX8_tooNear_57 : decode cX8_tooNear 57 = .ok (.aload_n 0, 1) := by decide +kernel
theorem dX8_tooNear_58 : decode cX8_tooNear 58 = .ok (.iconst 1, 1) := by decide +kernel
theorem dX8_tooNear_59 : decode cX8_tooNear 59 = .ok (.iaload, 1) := by decide +kernel
theorem dX8_tooNear_60 : decode cX8_tooNear 60 = .ok (.if_icmp .gt 7, 3) := by decide +kernel
theorem dX8_tooNear_63 : decode cX8_tooNear 63 = .ok (.iconst 1, 1) := by decide +kernel
theorem dX8_tooNear_64 : decode cX8_tooNear 64 = .ok (.goto 4, 3) := by decide +kernel
theorem dX8_tooNear_67 : decode cX8_tooNear 67 = .ok (.iconst 0, 1) := by decide +kernel
theorem dX8_tooNear_68 : decode cX8_tooNear 68 = .ok (.ireturn, 1) := by decide +kernel
set_option maxRecDepth 20000 in
theorem ggX8_nearTo_X8_tooNear : GoodIn wsX8_nearTo wsX8_tooNear := goodIn_r _ [4, 5, 6, 3, 7, 8, 9, 10] (by decide +kernel) (by decide +kernel)
set_option maxRecDepth 20000 in
theorem gX8_nearTo_X8_tooNear : GoodIn wsX8_nearTo (va_wsS RX8 153 yX8_tooNear wsX8_tooNear) := goodIn_app (goodIn_of _ (by decide +kernel)) ggX8_nearTo_X8_tooNear
theorem dX8_nearTo_0 : decode cX8_nearTo 0 = .ok (.iconst 0, 1) := by decide +kernel
theorem dX8_nearTo_1 : decode cX8_nearTo 1 = .ok (.istore_n 2, 1) := by decide +kernel
theorem dX8_nearTo_2 : decode cX8_nearTo 2 = .ok (.iconst 0, 1) := by decide +kernel
theorem dX8_nearTo_3 : decode cX8_nearTo 3 = .ok (.istore_n 3, 1) := by decide +kernel
theorem dX8_nearTo_4 : decode cX8_nearTo 4 = .ok (.iload_n 3, 1) := by decide +kernel
theorem dX8_nearTo_5 : decode cX8_nearTo 5 = .ok (.aload_n 0, 1) := by decide +kernel
theorem dX8_nearTo_6 : decode cX8_nearTo 6 = .ok (.iconst 0, 1) := by decide +kernel
theorem dX8_nearTo_7 : decode cX8_nearTo 7 = .ok (.iaload, 1) := by decide +kernel
theorem dX8_nearTo_8 : decode cX8_nearTo 8 = .ok (.if_icmp .ge 28, 3) := by decide +kernel
theorem dX8_nearTo_11 : decode cX8_nearTo 11 = .ok (.iload_n 2, 1) := by decide +kernel
theorem dX8_nearTo_12 : decode cX8_nearTo 12 = .ok (.aload_n 0, 1) := by decide +kernel
theorem dX8_nearTo_13 : decode cX8_nearTo 13 = .ok (.iload_n 1, 1) := by decide +kernel
theorem dX8_nearTo_14 : decode cX8_nearTo 14 = .ok (.iload_n 3, 1) := by decide +kernel
theorem dX8_nearTo_15 : decode cX8_nearTo 15 = .ok (.invokestatic 153, 3) := by decide +kernel
theorem dX8_nearTo_18 : decode cX8_nearTo 18 = .ok (.ifCond .eq 9, 3) := by decide +kernel
theorem dX8_nearTo_21 : decode cX8_nearTo 21 = .ok (.iconst 1, 1) := by decide +kernel
theorem dX8_nearTo_22 : decode cX8_nearTo 22 = .ok (.iload_n 3, 1) := by decide +kernel
theorem dX8_nearTo_23 : decode cX8_nearTo 23 = .ok (.ishl, 1) := by decide +kernel
theorem dX8_nearTo_24 : decode cX8_nearTo 24 = .ok (.goto 4, 3) := by decide +kernel
theorem dX8_nearTo_27 : decode cX8_nearTo 27 = .ok (.iconst 0, 1) := by decide +kernel
theorem dX8_nearTo_28 : decode cX8_nearTo 28 = .ok (.ior, 1) := by decide +kernel
theorem dX8_nearTo_29 : decode cX8_nearTo 29 = .ok (.istore_n 2, 1) := by decide +kernel
theorem dX8_nearTo_30 : decode cX8_nearTo 30 = .ok (.iinc 3 1, 3) := by decide +kernel
theorem dX8_nearTo_33 : decode cX8_nearTo 33 = .ok (.goto (-29), 3) := by decide +kernel
theorem dX8_nearTo_36 : decode cX8_nearTo 36 = .ok (.iload_n 2, 1) := by decide +kernel
theorem dX8_nearTo_37 : decode cX8_nearTo 37 = .ok (.ireturn, 1) := by decide +kernel
set_option maxRecDepth 20000 in
theorem ggX8_twoOf_X8_tooNear : GoodIn wsX8_twoOf wsX8_tooNear := goodIn_r _ [5, 6, 7, 4, 8, 9, 10, 11] (by decide +kernel) (by decide +kernel)
set_option maxRecDepth 20000 in
theorem gX8_twoOf_X8_tooNear : GoodIn wsX8_twoOf (va_wsS RX8 153 yX8_tooNear wsX8_tooNear) := goodIn_app (goodIn_of _ (by decide +kernel)) ggX8_twoOf_X8_tooNear
theorem dX8_twoOf_0 : decode cX8_twoOf 0 = .ok (.iconst 0, 1) := by decide +kernel
theorem dX8_twoOf_1 : decode cX8_twoOf 1 = .ok (.istore_n 1, 1) := by decide +kernel
theorem dX8_twoOf_2 : decode cX8_twoOf 2 = .ok (.iload_n 1, 1) := by decide +kernel
theorem dX8_twoOf_3 : decode cX8_twoOf 3 = .ok (.aload_n 0, 1) := by decide +kernel
theorem dX8_twoOf_4 : decode cX8_twoOf 4 = .ok (.iconst 0, 1) := by decide +kernel
theorem dX8_twoOf_5 : decode cX8_twoOf 5 = .ok (.iaload, 1) := by decide +kernel
theorem dX8_twoOf_6 : decode cX8_twoOf 6 = .ok (.if_icmp .ge 42, 3) := by decide +kernel
theorem dX8_twoOf_9 : decode cX8_twoOf 9 = .ok (.iload_n 1, 1) := by decide +kernel
theorem dX8_twoOf_10 : decode cX8_twoOf 10 = .ok (.iconst 1, 1) := by decide +kernel
theorem dX8_twoOf_11 : decode cX8_twoOf 11 = .ok (.iadd, 1) := by decide +kernel
theorem dX8_twoOf_12 : decode cX8_twoOf 12 = .ok (.istore_n 2, 1) := by decide +kernel
theorem dX8_twoOf_13 : decode cX8_twoOf 13 = .ok (.iload_n 2, 1) := by decide +kernel
theorem dX8_twoOf_14 : decode cX8_twoOf 14 = .ok (.aload_n 0, 1) := by decide +kernel
theorem dX8_twoOf_15 : decode cX8_twoOf 15 = .ok (.iconst 0, 1) := by decide +kernel
theorem dX8_twoOf_16 : decode cX8_twoOf 16 = .ok (.iaload, 1) := by decide +kernel
theorem dX8_twoOf_17 : decode cX8_twoOf 17 = .ok (.if_icmp .ge 25, 3) := by decide +kernel
theorem dX8_twoOf_20 : decode cX8_twoOf 20 = .ok (.aload_n 0, 1) := by decide +kernel
theorem dX8_twoOf_21 : decode cX8_twoOf 21 = .ok (.iload_n 1, 1) := by decide +kernel
theorem dX8_twoOf_22 : decode cX8_twoOf 22 = .ok (.iload_n 2, 1) := by decide +kernel
theorem dX8_twoOf_23 : decode cX8_twoOf 23 = .ok (.invokestatic 153, 3) := by decide +kernel
theorem dX8_twoOf_26 : decode cX8_twoOf 26 = .ok (.ifCond .eq 10, 3) := by decide +kernel
theorem dX8_twoOf_29 : decode cX8_twoOf 29 = .ok (.bipush 10, 2) := by decide +kernel
theorem dX8_twoOf_31 : decode cX8_twoOf 31 = .ok (.iload_n 1, 1) := by decide +kernel
theorem dX8_twoOf_32 : decode cX8_twoOf 32 = .ok (.imul, 1) := by decide +kernel
theorem dX8_twoOf_33 : decode cX8_twoOf 33 = .ok (.iload_n 2, 1) := by decide +kernel
theorem dX8_twoOf_34 : decode cX8_twoOf 34 = .ok (.iadd, 1) := by decide +kernel
theorem dX8_twoOf_35 : decode cX8_twoOf 35 = .ok (.ireturn, 1) := by decide +kernel
theorem dX8_twoOf_36 : decode cX8_twoOf 36 = .ok (.iinc 2 1, 3) := by decide +kernel
theorem dX8_twoOf_39 : decode cX8_twoOf 39 = .ok (.goto (-26), 3) := by decide +kernel
theorem dX8_twoOf_42 : decode cX8_twoOf 42 = .ok (.iinc 1 1, 3) := by decide +kernel
theorem dX8_twoOf_45 : decode cX8_twoOf 45 = .ok (.goto (-43), 3) := by decide +kernel
theorem dX8_twoOf_48 : decode cX8_twoOf 48 = .ok (.ldc 157, 2) := by decide +kernel
theorem dX8_twoOf_50 : decode cX8_twoOf 50 = .ok (.ireturn, 1) := by decide +kernel
theorem dX8_isMine_0 : decode cX8_isMine 0 = .ok (.aload_n 0, 1) := by decide +kernel
theorem dX8_isMine_1 : decode cX8_isMine 1 = .ok (.getfield 19, 3) := by decide +kernel
theorem dX8_isMine_4 : decode cX8_isMine 4 = .ok (.iconst 2, 1) := by decide +kernel
theorem dX8_isMine_5 : decode cX8_isMine 5 = .ok (.iaload, 1) := by decide +kernel
theorem dX8_isMine_6 : decode cX8_isMine 6 = .ok (.ifCond .le 7, 3) := by decide +kernel
theorem dX8_isMine_9 : decode cX8_isMine 9 = .ok (.iconst 1, 1) := by decide +kernel
theorem dX8_isMine_10 : decode cX8_isMine 10 = .ok (.goto 4, 3) := by decide +kernel
theorem dX8_isMine_13 : decode cX8_isMine 13 = .ok (.iconst 0, 1) := by decide +kernel
theorem dX8_isMine_14 : decode cX8_isMine 14 = .ok (.ireturn, 1) := by decide +kernel
set_option maxRecDepth 20000 in
theorem ggX8_isThing_X8_in : GoodIn wsX8_isThing wsX8_in := goodIn_r _ [5] (by decide +kernel) (by decide +kernel)
set_option maxRecDepth 20000 in
theorem gX8_isThing_X8_in : GoodIn wsX8_isThing (va_wsS RX8 60 yX8_in wsX8_in) := goodIn_app (goodIn_of _ (by decide +kernel)) ggX8_isThing_X8_in
theorem dX8_isThing_0 : decode cX8_isThing 0 = .ok (.iload_n 1, 1) := by decide +kernel
theorem dX8_isThing_1 : decode cX8_isThing 1 = .ok (.i2l, 1) := by decide +kernel
theorem dX8_isThing_2 : decode cX8_isThing 2 = .ok (.lconst 0, 1) := by decide +kernel
theorem dX8_isThing_3 : decode cX8_isThing 3 = .ok (.aload_n 0, 1) := by decide +kernel
theorem dX8_isThing_4 : decode cX8_isThing 4 = .ok (.getfield 19, 3) := by decide +kernel
theorem dX8_isThing_7 : decode cX8_isThing 7 = .ok (.iconst 0, 1) := by decide +kernel
theorem dX8_isThing_8 : decode cX8_isThing 8 = .ok (.iaload, 1) := by decide +kernel
theorem dX8_isThing_9 : decode cX8_isThing 9 = .ok (.iconst 1, 1) := by decide +kernel
theorem dX8_isThing_10 : decode cX8_isThing 10 = .ok (.isub, 1) := by decide +kernel
theorem dX8_isThing_11 : decode cX8_isThing 11 = .ok (.i2l, 1) := by decide +kernel
theorem dX8_isThing_12 : decode cX8_isThing 12 = .ok (.invokestatic 60, 3) := by decide +kernel
theorem dX8_isThing_15 : decode cX8_isThing 15 = .ok (.ireturn, 1) := by decide +kernel
set_option maxRecDepth 20000 in
theorem ggX8_isTwo_X8_in : GoodIn wsX8_isTwo wsX8_in := goodIn_r _ [4] (by decide +kernel) (by decide +kernel)
set_option maxRecDepth 20000 in
theorem gX8_isTwo_X8_in : GoodIn wsX8_isTwo (va_wsS RX8 60 yX8_in wsX8_in) := goodIn_app (goodIn_of _ (by decide +kernel)) ggX8_isTwo_X8_in
theorem dX8_isTwo_0 : decode cX8_isTwo 0 = .ok (.iload_n 0, 1) := by decide +kernel
theorem dX8_isTwo_1 : decode cX8_isTwo 1 = .ok (.i2l, 1) := by decide +kernel
theorem dX8_isTwo_2 : decode cX8_isTwo 2 = .ok (.lconst 0, 1) := by decide +kernel
theorem dX8_isTwo_3 : decode cX8_isTwo 3 = .ok (.lconst 1, 1) := by decide +kernel
theorem dX8_isTwo_4 : decode cX8_isTwo 4 = .ok (.invokestatic 60, 3) := by decide +kernel
theorem dX8_isTwo_7 : decode cX8_isTwo 7 = .ok (.ireturn, 1) := by decide +kernel
set_option maxRecDepth 20000 in
theorem ggX8_isSpan_X8_in : GoodIn wsX8_isSpan wsX8_in := goodIn_r _ [5] (by decide +kernel) (by decide +kernel)
set_option maxRecDepth 20000 in
theorem gX8_isSpan_X8_in : GoodIn wsX8_isSpan (va_wsS RX8 60 yX8_in wsX8_in) := goodIn_app (goodIn_of _ (by decide +kernel)) ggX8_isSpan_X8_in
theorem dX8_isSpan_0 : decode cX8_isSpan 0 = .ok (.iload_n 0, 1) := by decide +kernel
theorem dX8_isSpan_1 : decode cX8_isSpan 1 = .ok (.i2l, 1) := by decide +kernel
theorem dX8_isSpan_2 : decode cX8_isSpan 2 = .ok (.lconst 0, 1) := by decide +kernel
theorem dX8_isSpan_3 : decode cX8_isSpan 3 = .ok (.ldc2_w 158, 3) := by decide +kernel
theorem dX8_isSpan_6 : decode cX8_isSpan 6 = .ok (.invokestatic 60, 3) := by decide +kernel
theorem dX8_isSpan_9 : decode cX8_isSpan 9 = .ok (.ireturn, 1) := by decide +kernel
set_option maxRecDepth 20000 in
theorem ggX8_remember_X8_copies : GoodIn wsX8_remember wsX8_copies := goodIn_r _ [7] (by decide +kernel) (by decide +kernel)
set_option maxRecDepth 20000 in
theorem gX8_remember_X8_copies : GoodIn wsX8_remember (va_wsS RX8 135 yX8_copies wsX8_copies) := goodIn_app (goodIn_of _ (by decide +kernel)) ggX8_remember_X8_copies
theorem dX8_remember_0 : decode cX8_remember 0 = .ok (.aload_n 0, 1) := by decide +kernel
theorem dX8_remember_1 : decode cX8_remember 1 = .ok (.getfield 139, 3) := by decide +kernel
theorem dX8_remember_4 : decode cX8_remember 4 = .ok (.bipush 24, 2) := by decide +kernel
theorem dX8_remember_6 : decode cX8_remember 6 = .ok (.if_icmp .ne 43, 3) := by decide +kernel
theorem dX8_remember_9 : decode cX8_remember 9 = .ok (.iconst 0, 1) := by decide +kernel
theorem dX8_remember_10 : decode cX8_remember 10 = .ok (.istore_n 1, 1) := by decide +kernel
theorem dX8_remember_11 : decode cX8_remember 11 = .ok (.iload_n 1, 1) := by decide +kernel
theorem dX8_remember_12 : decode cX8_remember 12 = .ok (.sipush 690, 3) := by decide +kernel
theorem dX8_remember_15 : decode cX8_remember 15 = .ok (.if_icmp .ge 24, 3) := by decide +kernel
theorem dX8_remember_18 : decode cX8_remember 18 = .ok (.aload_n 0, 1) := by decide +kernel
theorem dX8_remember_19 : decode cX8_remember 19 = .ok (.getfield 28, 3) := by decide +kernel
theorem dX8_remember_22 : decode cX8_remember 22 = .ok (.iload_n 1, 1) := by decide +kernel
theorem dX8_remember_23 : decode cX8_remember 23 = .ok (.aload_n 0, 1) := by decide +kernel
theorem dX8_remember_24 : decode cX8_remember 24 = .ok (.getfield 28, 3) := by decide +kernel
theorem dX8_remember_27 : decode cX8_remember 27 = .ok (.iload_n 1, 1) := by decide +kernel
theorem dX8_remember_28 : decode cX8_remember 28 = .ok (.bipush 30, 2) := by decide +kernel
theorem dX8_remember_30 : decode cX8_remember 30 = .ok (.iadd, 1) := by decide +kernel
theorem dX8_remember_31 : decode cX8_remember 31 = .ok (.iaload, 1) := by decide +kernel
theorem dX8_remember_32 : decode cX8_remember 32 = .ok (.iastore, 1) := by decide +kernel
theorem dX8_remember_33 : decode cX8_remember 33 = .ok (.iinc 1 1, 3) := by decide +kernel
theorem dX8_remember_36 : decode cX8_remember 36 = .ok (.goto (-25), 3) := by decide +kernel
theorem dX8_remember_39 : decode cX8_remember 39 = .ok (.aload_n 0, 1) := by decide +kernel
theorem dX8_remember_40 : decode cX8_remember 40 = .ok (.dup, 1) := by decide +kernel
theorem dX8_remember_41 : decode cX8_remember 41 = .ok (.getfield 139, 3) := by decide +kernel
theorem dX8_remember_44 : decode cX8_remember 44 = .ok (.iconst 1, 1) := by decide +kernel
theorem dX8_remember_45 : decode cX8_remember 45 = .ok (.isub, 1) := by decide +kernel
theorem dX8_remember_46 : decode cX8_remember 46 = .ok (.putfield 139, 3) := by decide +kernel
theorem dX8_remember_49 : decode cX8_remember 49 = .ok (.aload_n 0, 1) := by decide +kernel
theorem dX8_remember_50 : decode cX8_remember 50 = .ok (.getfield 19, 3) := by decide +kernel
theorem dX8_remember_53 : decode cX8_remember 53 = .ok (.iconst 0, 1) := by decide +kernel
theorem dX8_remember_54 : decode cX8_remember 54 = .ok (.aload_n 0, 1) := by decide +kernel
theorem dX8_remember_55 : decode cX8_remember 55 = .ok (.getfield 28, 3) := by decide +kernel
theorem dX8_remember_58 : decode cX8_remember 58 = .ok (.bipush 30, 2) := by decide +kernel
theorem dX8_remember_60 : decode cX8_remember 60 = .ok (.aload_n 0, 1) := by decide +kernel
theorem dX8_remember_61 : decode cX8_remember 61 = .ok (.getfield 139, 3) := by decide +kernel
theorem dX8_remember_64 : decode cX8_remember 64 = .ok (.imul, 1) := by decide +kernel
theorem dX8_remember_65 : decode cX8_remember 65 = .ok (.invokestatic 135, 3) := by decide +kernel
theorem dX8_remember_68 : decode cX8_remember 68 = .ok (.aload_n 0, 1) := by decide +kernel
theorem dX8_remember_69 : decode cX8_remember 69 = .ok (.dup, 1) := by decide +kernel
theorem dX8_remember_70 : decode cX8_remember 70 = .ok (.getfield 139, 3) := by decide +kernel
theorem dX8_remember_73 : decode cX8_remember 73 = .ok (.iconst 1, 1) := by decide +kernel
theorem dX8_remember_74 : decode cX8_remember 74 = .ok (.iadd, 1) := by decide +kernel
theorem dX8_remember_75 : decode cX8_remember 75 = .ok (.putfield 139, 3) := by decide +kernel
theorem dX8_remember_78 : decode cX8_remember 78 = .ok (.return_, 1) := by decide +kernel
set_option maxRecDepth 20000 in
theorem ggX8_years_X8_isMine : GoodIn wsX8_years wsX8_isMine := goodIn_r _ [10, 4, 37, 38, 39, 40, 41, 42, 43, 44, 45, 46, 47, 48, 49, 50, 51, 52, 53, 54, 55, 56, 57, 58, 59, 60] (by decide +kernel) (by decide +kernel)
set_option maxRecDepth 20000 in
theorem gX8_years_X8_isMine : GoodIn wsX8_years (wsV RX8 160 RX8 yX8_isMine wsX8_isMine) := goodIn_app (goodIn_of _ (by decide +kernel)) ggX8_years_X8_isMine
set_option maxRecDepth 20000 in
theorem ggX8_years_X8_in : GoodIn wsX8_years wsX8_in := goodIn_r _ [13] (by decide +kernel) (by decide +kernel)
set_option maxRecDepth 20000 in
theorem gX8_years_X8_in : GoodIn wsX8_years (va_wsS RX8 60 yX8_in wsX8_in) := goodIn_app (goodIn_of _ (by decide +kernel)) ggX8_years_X8_in
set_option maxRecDepth 20000 in
theorem ggX8_years_X8_remember : GoodIn wsX8_years wsX8_remember := goodIn_r _ [17, 18, 19, 4, 20, 21, 9, 22, 37, 38, 39, 40, 41, 42, 43, 44, 45, 46, 47, 48, 49, 50, 51, 52, 53, 54, 55, 56, 57, 58, 59, 60] (by decide +kernel) (by decide +kernel)
set_option maxRecDepth 20000 in
theorem gX8_years_X8_remember : GoodIn wsX8_years (wsV RX8 166 RX8 yX8_remember wsX8_remember) := goodIn_app (goodIn_of _ (by decide +kernel)) ggX8_years_X8_remember
set_option maxRecDepth 20000 in
theorem ggX8_years_X8_yearGoes : GoodIn wsX8_years wsX8_yearGoes := goodIn_r _ [26, 27, 28, 29, 9, 30, 31, 32, 33, 37, 38, 39, 40, 41, 42, 43, 44, 45, 46, 47, 48, 49, 50, 51, 52, 53, 54, 55, 56, 57, 58, 59, 60] (by decide +kernel) (by decide +kernel)
set_option maxRecDepth 20000 in
theorem gX8_years_X8_yearGoes : GoodIn wsX8_years (wsV RX8 169 RX8 yX8_yearGoes wsX8_yearGoes) := goodIn_app (goodIn_of _ (by decide +kernel)) ggX8_years_X8_yearGoes
set_option maxRecDepth 20000 in
theorem ggX8_years_X8_upOf : GoodIn wsX8_years wsX8_upOf := goodIn_r _ [36, 31, 32, 9, 33] (by decide +kernel) (by decide +kernel)
set_option maxRecDepth 20000 in
theorem gX8_years_X8_upOf : GoodIn wsX8_years (va_wsS RX8 173 yX8_upOf wsX8_upOf) := goodIn_app (goodIn_of _ (by decide +kernel)) ggX8_years_X8_upOf
theorem dX8_years_0 : decode cX8_years 0 = .ok (.aload_n 0, 1) := by decide +kernel
theorem dX8_years_1 : decode cX8_years 1 = .ok (.invokevirtual 160, 3) := by decide +kernel
theorem dX8_years_4 : decode cX8_years 4 = .ok (.ifCond .ne 6, 3) := by decide +kernel
theorem dX8_years_7 : decode cX8_years 7 = .ok (.ldc 163, 2) := by decide +kernel
theorem dX8_years_9 : decode cX8_years 9 = .ok (.ireturn, 1) := by decide +kernel
theorem dX8_years_10 : decode cX8_years 10 = .ok (.iload_n 1, 1) := by decide +kernel
theorem dX8_years_11 : decode cX8_years 11 = .ok (.i2l, 1) := by decide +kernel
theorem dX8_years_12 : decode cX8_years 12 = .ok (.lconst 1, 1) := by decide +kernel
theorem dX8_years_13 : decode cX8_years 13 = .ok (.ldc2_w 164, 3) := by decide +kernel
theorem dX8_years_16 : decode cX8_years 16 = .ok (.invokestatic 60, 3) := by decide +kernel
theorem dX8_years_19 : decode cX8_years 19 = .ok (.ifCond .ne 6, 3) := by decide +kernel
theorem dX8_years_22 : decode cX8_years 22 = .ok (.ldc 70, 2) := by decide +kernel
theorem dX8_years_24 : decode cX8_years 24 = .ok (.ireturn, 1) := by decide +kernel
theorem dX8_years_25 : decode cX8_years 25 = .ok (.aload_n 0, 1) := by decide +kernel
theorem dX8_years_26 : decode cX8_years 26 = .ok (.getfield 19, 3) := by decide +kernel
theorem dX8_years_29 : decode cX8_years 29 = .ok (.bipush 28, 2) := by decide +kernel
theorem dX8_years_31 : decode cX8_years 31 = .ok (.iaload, 1) := by decide +kernel
theorem dX8_years_32 : decode cX8_years 32 = .ok (.iload_n 1, 1) := by decide +kernel
theorem dX8_years_33 : decode cX8_years 33 = .ok (.iadd, 1) := by decide +kernel
theorem dX8_years_34 : decode cX8_years 34 = .ok (.sipush 999, 3) := by decide +kernel
theorem dX8_years_37 : decode cX8_years 37 = .ok (.if_icmp .le 6, 3) := by decide +kernel
theorem dX8_years_40 : decode cX8_years 40 = .ok (.ldc 83, 2) := by decide +kernel
theorem dX8_years_42 : decode cX8_years 42 = .ok (.ireturn, 1) := by decide +kernel
theorem dX8_years_43 : decode cX8_years 43 = .ok (.iconst 0, 1) := by decide +kernel
theorem dX8_years_44 : decode cX8_years 44 = .ok (.istore_n 2, 1) := by decide +kernel
theorem dX8_years_45 : decode cX8_years 45 = .ok (.iload_n 2, 1) := by decide +kernel
theorem dX8_years_46 : decode cX8_years 46 = .ok (.iload_n 1, 1) := by decide +kernel
theorem dX8_years_47 : decode cX8_years 47 = .ok (.if_icmp .ge 21, 3) := by decide +kernel
theorem dX8_years_50 : decode cX8_years 50 = .ok (.aload_n 0, 1) := by decide +kernel
theorem dX8_years_51 : decode cX8_years 51 = .ok (.invokevirtual 166, 3) := by decide +kernel
theorem dX8_years_54 : decode cX8_years 54 = .ok (.aload_n 0, 1) := by decide +kernel
theorem dX8_years_55 : decode cX8_years 55 = .ok (.aload_n 0, 1) := by decide +kernel
theorem dX8_years_56 : decode cX8_years 56 = .ok (.getfield 19, 3) := by decide +kernel
theorem dX8_years_59 : decode cX8_years 59 = .ok (.invokevirtual 169, 3) := by decide +kernel
theorem dX8_years_62 : decode cX8_years 62 = .ok (.iinc 2 1, 3) := by decide +kernel
theorem dX8_years_65 : decode cX8_years 65 = .ok (.goto (-20), 3) := by decide +kernel
theorem dX8_years_68 : decode cX8_years 68 = .ok (.aload_n 0, 1) := by decide +kernel
theorem dX8_years_69 : decode cX8_years 69 = .ok (.getfield 19, 3) := by decide +kernel
theorem dX8_years_72 : decode cX8_years 72 = .ok (.invokestatic 173, 3) := by decide +kernel
theorem dX8_years_75 : decode cX8_years 75 = .ok (.ireturn, 1) := by decide +kernel
set_option maxRecDepth 20000 in
theorem ggX8_bury_X8_isThing : GoodIn wsX8_bury wsX8_isThing := goodIn_r _ [9, 4, 10, 11, 8, 12, 22, 23, 24, 25, 26, 27, 28, 29, 30, 31, 32, 33, 34, 35, 36, 37, 38, 39, 40, 41, 42, 43, 44, 45] (by decide +kernel) (by decide +kernel)
set_option maxRecDepth 20000 in
theorem gX8_bury_X8_isThing : GoodIn wsX8_bury (wsV RX8 177 RX8 yX8_isThing wsX8_isThing) := goodIn_app (goodIn_of _ (by decide +kernel)) ggX8_bury_X8_isThing
set_option maxRecDepth 20000 in
theorem ggX8_bury_X8_in : GoodIn wsX8_bury wsX8_in := goodIn_r _ [12] (by decide +kernel) (by decide +kernel)
set_option maxRecDepth 20000 in
theorem gX8_bury_X8_in : GoodIn wsX8_bury (va_wsS RX8 60 yX8_in wsX8_in) := goodIn_app (goodIn_of _ (by decide +kernel)) ggX8_bury_X8_in
set_option maxRecDepth 20000 in
theorem ggX8_bury_X8_remember : GoodIn wsX8_bury wsX8_remember := goodIn_r _ [16, 17, 18, 4, 19, 20, 8, 21, 22, 23, 24, 25, 26, 27, 28, 29, 30, 31, 32, 33, 34, 35, 36, 37, 38, 39, 40, 41, 42, 43, 44, 45] (by decide +kernel) (by decide +kernel)
set_option maxRecDepth 20000 in
theorem gX8_bury_X8_remember : GoodIn wsX8_bury (wsV RX8 166 RX8 yX8_remember wsX8_remember) := goodIn_app (goodIn_of _ (by decide +kernel)) ggX8_bury_X8_remember
theorem dX8_bury_0 : decode cX8_bury 0 = .ok (.aload_n 0, 1) := by decide +kernel
theorem dX8_bury_1 : decode cX8_bury 1 = .ok (.iload_n 1, 1) := by decide +kernel
theorem dX8_bury_2 : decode cX8_bury 2 = .ok (.invokevirtual 177, 3) := by decide +kernel
theorem dX8_bury_5 : decode cX8_bury 5 = .ok (.ifCond .eq 27, 3) := by decide +kernel
theorem dX8_bury_8 : decode cX8_bury 8 = .ok (.iload_n 2, 1) := by decide +kernel
theorem dX8_bury_9 : decode cX8_bury 9 = .ok (.i2l, 1) := by decide +kernel
theorem dX8_bury_10 : decode cX8_bury 10 = .ok (.lconst 0, 1) := by decide +kernel
theorem dX8_bury_11 : decode cX8_bury 11 = .ok (.ldc2_w 180, 3) := by decide +kernel
theorem dX8_bury_14 : decode cX8_bury 14 = .ok (.invokestatic 60, 3) := by decide +kernel
theorem dX8_bury_17 : decode cX8_bury 17 = .ok (.ifCond .eq 15, 3) := by decide +kernel
theorem dX8_bury_20 : decode cX8_bury 20 = .ok (.iload_n 3, 1) := by decide +kernel
theorem dX8_bury_21 : decode cX8_bury 21 = .ok (.i2l, 1) := by decide +kernel
theorem dX8_bury_22 : decode cX8_bury 22 = .ok (.lconst 1, 1) := by decide +kernel
theorem dX8_bury_23 : decode cX8_bury 23 = .ok (.ldc2_w 182, 3) := by decide +kernel
theorem dX8_bury_26 : decode cX8_bury 26 = .ok (.invokestatic 60, 3) := by decide +kernel
theorem dX8_bury_29 : decode cX8_bury 29 = .ok (.ifCond .ne 6, 3) := by decide +kernel
theorem dX8_bury_32 : decode cX8_bury 32 = .ok (.ldc 70, 2) := by decide +kernel
theorem dX8_bury_34 : decode cX8_bury 34 = .ok (.ireturn, 1) := by decide +kernel
theorem dX8_bury_35 : decode cX8_bury 35 = .ok (.aload_n 0, 1) := by decide +kernel
theorem dX8_bury_36 : decode cX8_bury 36 = .ok (.invokevirtual 166, 3) := by decide +kernel
theorem dX8_bury_39 : decode cX8_bury 39 = .ok (.aload_n 0, 1) := by decide +kernel
theorem dX8_bury_40 : decode cX8_bury 40 = .ok (.getfield 19, 3) := by decide +kernel
theorem dX8_bury_43 : decode cX8_bury 43 = .ok (.bipush 29, 2) := by decide +kernel
theorem dX8_bury_45 : decode cX8_bury 45 = .ok (.dup2, 1) := by decide +kernel
theorem dX8_bury_46 : decode cX8_bury 46 = .ok (.iaload, 1) := by decide +kernel
theorem dX8_bury_47 : decode cX8_bury 47 = .ok (.aload_n 0, 1) := by decide +kernel
theorem dX8_bury_48 : decode cX8_bury 48 = .ok (.getfield 19, 3) := by decide +kernel
theorem dX8_bury_51 : decode cX8_bury 51 = .ok (.bipush 13, 2) := by decide +kernel
theorem dX8_bury_53 : decode cX8_bury 53 = .ok (.iload_n 1, 1) := by decide +kernel
theorem dX8_bury_54 : decode cX8_bury 54 = .ok (.iadd, 1) := by decide +kernel
theorem dX8_bury_55 : decode cX8_bury 55 = .ok (.iaload, 1) := by decide +kernel
theorem dX8_bury_56 : decode cX8_bury 56 = .ok (.iload_n 3, 1) := by decide +kernel
theorem dX8_bury_57 : decode cX8_bury 57 = .ok (.iadd, 1) := by decide +kernel
theorem dX8_bury_58 : decode cX8_bury 58 = .ok (.iadd, 1) := by decide +kernel
theorem dX8_bury_59 : decode cX8_bury 59 = .ok (.iastore, 1) := by decide +kernel
theorem dX8_bury_60 : decode cX8_bury 60 = .ok (.aload_n 0, 1) := by decide +kernel
theorem dX8_bury_61 : decode cX8_bury 61 = .ok (.getfield 19, 3) := by decide +kernel
theorem dX8_bury_64 : decode cX8_bury 64 = .ok (.bipush 13, 2) := by decide +kernel
theorem dX8_bury_66 : decode cX8_bury 66 = .ok (.iload_n 1, 1) := by decide +kernel
theorem dX8_bury_67 : decode cX8_bury 67 = .ok (.iadd, 1) := by decide +kernel
theorem dX8_bury_68 : decode cX8_bury 68 = .ok (.iload_n 3, 1) := by decide +kernel
theorem dX8_bury_69 : decode cX8_bury 69 = .ok (.iastore, 1) := by decide +kernel
theorem dX8_bury_70 : decode cX8_bury 70 = .ok (.aload_n 0, 1) := by decide +kernel
theorem dX8_bury_71 : decode cX8_bury 71 = .ok (.getfield 19, 3) := by decide +kernel
theorem dX8_bury_74 : decode cX8_bury 74 = .ok (.bipush 18, 2) := by decide +kernel
theorem dX8_bury_76 : decode cX8_bury 76 = .ok (.iload_n 1, 1) := by decide +kernel
theorem dX8_bury_77 : decode cX8_bury 77 = .ok (.iadd, 1) := by decide +kernel
theorem dX8_bury_78 : decode cX8_bury 78 = .ok (.iload_n 2, 1) := by decide +kernel
theorem dX8_bury_79 : decode cX8_bury 79 = .ok (.iastore, 1) := by decide +kernel
theorem dX8_bury_80 : decode cX8_bury 80 = .ok (.aload_n 0, 1) := by decide +kernel
theorem dX8_bury_81 : decode cX8_bury 81 = .ok (.getfield 19, 3) := by decide +kernel
theorem dX8_bury_84 : decode cX8_bury 84 = .ok (.bipush 29, 2) := by decide +kernel
theorem dX8_bury_86 : decode cX8_bury 86 = .ok (.iaload, 1) := by decide +kernel
theorem dX8_bury_87 : decode cX8_bury 87 = .ok (.ireturn, 1) := by decide +kernel
set_option maxRecDepth 20000 in
theorem ggX8_tell_X8_isThing : GoodIn wsX8_tell wsX8_isThing := goodIn_r _ [8, 1, 9, 10, 7, 11, 27, 28, 29, 30, 31, 32, 33, 34, 35, 36, 37, 38, 39, 40, 41, 42, 43, 44, 45, 46, 47, 48, 49, 50] (by decide +kernel) (by decide +kernel)
set_option maxRecDepth 20000 in
theorem gX8_tell_X8_isThing : GoodIn wsX8_tell (wsV RX8 177 RX8 yX8_isThing wsX8_isThing) := goodIn_app (goodIn_of _ (by decide +kernel)) ggX8_tell_X8_isThing
set_option maxRecDepth 20000 in
theorem ggX8_tell_X8_in : GoodIn wsX8_tell wsX8_in := goodIn_r _ [11] (by decide +kernel) (by decide +kernel)
set_option maxRecDepth 20000 in
theorem gX8_tell_X8_in : GoodIn wsX8_tell (va_wsS RX8 60 yX8_in wsX8_in) := goodIn_app (goodIn_of _ (by decide +kernel)) ggX8_tell_X8_in
set_option maxRecDepth 20000 in
theorem ggX8_tell_X8_isTwo : GoodIn wsX8_tell wsX8_isTwo := goodIn_r _ [14, 9, 10, 7, 11] (by decide +kernel) (by decide +kernel)
set_option maxRecDepth 20000 in
theorem gX8_tell_X8_isTwo : GoodIn wsX8_tell (va_wsS RX8 184 yX8_isTwo wsX8_isTwo) := goodIn_app (goodIn_of _ (by decide +kernel)) ggX8_tell_X8_isTwo
set_option maxRecDepth 20000 in
theorem ggX8_tell_X8_has : GoodIn wsX8_tell wsX8_has := goodIn_r _ [17] (by decide +kernel) (by decide +kernel)
set_option maxRecDepth 20000 in
theorem gX8_tell_X8_has : GoodIn wsX8_tell (va_wsS RX8 187 yX8_has wsX8_has) := goodIn_app (goodIn_of _ (by decide +kernel)) ggX8_tell_X8_has
set_option maxRecDepth 20000 in
theorem ggX8_tell_X8_remember : GoodIn wsX8_tell wsX8_remember := goodIn_r _ [21, 22, 23, 1, 24, 25, 7, 26, 27, 28, 29, 30, 31, 32, 33, 34, 35, 36, 37, 38, 39, 40, 41, 42, 43, 44, 45, 46, 47, 48, 49, 50] (by decide +kernel) (by decide +kernel)
set_option maxRecDepth 20000 in
theorem gX8_tell_X8_remember : GoodIn wsX8_tell (wsV RX8 166 RX8 yX8_remember wsX8_remember) := goodIn_app (goodIn_of _ (by decide +kernel)) ggX8_tell_X8_remember
theorem dX8_tell_0 : decode cX8_tell 0 = .ok (.aload_n 0, 1) := by decide +kernel
theorem dX8_tell_1 : decode cX8_tell 1 = .ok (.iload_n 1, 1) := by decide +kernel
theorem dX8_tell_2 : decode cX8_tell 2 = .ok (.invokevirtual 177, 3) := by decide +kernel
theorem dX8_tell_5 : decode cX8_tell 5 = .ok (.ifCond .eq 28, 3) := by decide +kernel
theorem dX8_tell_8 : decode cX8_tell 8 = .ok (.iload_n 2, 1) := by decide +kernel
theorem dX8_tell_9 : decode cX8_tell 9 = .ok (.i2l, 1) := by decide +kernel
theorem dX8_tell_10 : decode cX8_tell 10 = .ok (.lconst 0, 1) := by decide +kernel
theorem dX8_tell_11 : decode cX8_tell 11 = .ok (.aload_n 0, 1) := by decide +kernel
theorem dX8_tell_12 : decode cX8_tell 12 = .ok (.getfield 19, 3) := by decide +kernel
theorem dX8_tell_15 : decode cX8_tell 15 = .ok (.iconst 2, 1) := by decide +kernel
theorem dX8_tell_16 : decode cX8_tell 16 = .ok (.iaload, 1) := by decide +kernel
theorem dX8_tell_17 : decode cX8_tell 17 = .ok (.iconst 1, 1) := by decide +kernel
theorem dX8_tell_18 : decode cX8_tell 18 = .ok (.isub, 1) := by decide +kernel
theorem dX8_tell_19 : decode cX8_tell 19 = .ok (.i2l, 1) := by decide +kernel
theorem dX8_tell_20 : decode cX8_tell 20 = .ok (.invokestatic 60, 3) := by decide +kernel
theorem dX8_tell_23 : decode cX8_tell 23 = .ok (.ifCond .eq 10, 3) := by decide +kernel
theorem dX8_tell_26 : decode cX8_tell 26 = .ok (.iload_n 3, 1) := by decide +kernel
theorem dX8_tell_27 : decode cX8_tell 27 = .ok (.invokestatic 184, 3) := by decide +kernel
theorem dX8_tell_30 : decode cX8_tell 30 = .ok (.ifCond .ne 6, 3) := by decide +kernel
theorem dX8_tell_33 : decode cX8_tell 33 = .ok (.ldc 70, 2) := by decide +kernel
theorem dX8_tell_35 : decode cX8_tell 35 = .ok (.ireturn, 1) := by decide +kernel
theorem dX8_tell_36 : decode cX8_tell 36 = .ok (.aload_n 0, 1) := by decide +kernel
theorem dX8_tell_37 : decode cX8_tell 37 = .ok (.getfield 19, 3) := by decide +kernel
theorem dX8_tell_40 : decode cX8_tell 40 = .ok (.bipush 23, 2) := by decide +kernel
theorem dX8_tell_42 : decode cX8_tell 42 = .ok (.iload_n 1, 1) := by decide +kernel
theorem dX8_tell_43 : decode cX8_tell 43 = .ok (.iadd, 1) := by decide +kernel
theorem dX8_tell_44 : decode cX8_tell 44 = .ok (.iaload, 1) := by decide +kernel
theorem dX8_tell_45 : decode cX8_tell 45 = .ok (.iload_n 2, 1) := by decide +kernel
theorem dX8_tell_46 : decode cX8_tell 46 = .ok (.invokestatic 187, 3) := by decide +kernel
theorem dX8_tell_49 : decode cX8_tell 49 = .ok (.iload_n 3, 1) := by decide +kernel
theorem dX8_tell_50 : decode cX8_tell 50 = .ok (.iconst 1, 1) := by decide +kernel
theorem dX8_tell_51 : decode cX8_tell 51 = .ok (.if_icmp .ne 7, 3) := by decide +kernel
theorem dX8_tell_54 : decode cX8_tell 54 = .ok (.iconst 1, 1) := by decide +kernel
theorem dX8_tell_55 : decode cX8_tell 55 = .ok (.goto 4, 3) := by decide +kernel
theorem dX8_tell_58 : decode cX8_tell 58 = .ok (.iconst 0, 1) := by decide +kernel
theorem dX8_tell_59 : decode cX8_tell 59 = .ok (.if_icmp .ne 6, 3) := by decide +kernel
theorem dX8_tell_62 : decode cX8_tell 62 = .ok (.ldc 163, 2) := by decide +kernel
theorem dX8_tell_64 : decode cX8_tell 64 = .ok (.ireturn, 1) := by decide +kernel
theorem dX8_tell_65 : decode cX8_tell 65 = .ok (.aload_n 0, 1) := by decide +kernel
theorem dX8_tell_66 : decode cX8_tell 66 = .ok (.invokevirtual 166, 3) := by decide +kernel
theorem dX8_tell_69 : decode cX8_tell 69 = .ok (.aload_n 0, 1) := by decide +kernel
theorem dX8_tell_70 : decode cX8_tell 70 = .ok (.getfield 19, 3) := by decide +kernel
theorem dX8_tell_73 : decode cX8_tell 73 = .ok (.bipush 23, 2) := by decide +kernel
theorem dX8_tell_75 : decode cX8_tell 75 = .ok (.iload_n 1, 1) := by decide +kernel
theorem dX8_tell_76 : decode cX8_tell 76 = .ok (.iadd, 1) := by decide +kernel
theorem dX8_tell_77 : decode cX8_tell 77 = .ok (.dup2, 1) := by decide +kernel
theorem dX8_tell_78 : decode cX8_tell 78 = .ok (.iaload, 1) := by decide +kernel
theorem dX8_tell_79 : decode cX8_tell 79 = .ok (.iconst 1, 1) := by decide +kernel
theorem dX8_tell_80 : decode cX8_tell 80 = .ok (.iload_n 2, 1) := by decide +kernel
theorem dX8_tell_81 : decode cX8_tell 81 = .ok (.ishl, 1) := by decide +kernel
theorem dX8_tell_82 : decode cX8_tell 82 = .ok (.ixor, 1) := by decide +kernel
theorem dX8_tell_83 : decode cX8_tell 83 = .ok (.iastore, 1) := by decide +kernel
theorem dX8_tell_84 : decode cX8_tell 84 = .ok (.aload_n 0, 1) := by decide +kernel
theorem dX8_tell_85 : decode cX8_tell 85 = .ok (.getfield 19, 3) := by decide +kernel
theorem dX8_tell_88 : decode cX8_tell 88 = .ok (.bipush 23, 2) := by decide +kernel
theorem dX8_tell_90 : decode cX8_tell 90 = .ok (.iload_n 1, 1) := by decide +kernel
theorem dX8_tell_91 : decode cX8_tell 91 = .ok (.iadd, 1) := by decide +kernel
theorem dX8_tell_92 : decode cX8_tell 92 = .ok (.iaload, 1) := by decide +kernel
theorem dX8_tell_93 : decode cX8_tell 93 = .ok (.ireturn, 1) := by decide +kernel
set_option maxRecDepth 20000 in
theorem ggX8_undo_X8_copies : GoodIn wsX8_undo wsX8_copies := goodIn_r _ [8] (by decide +kernel) (by decide +kernel)
set_option maxRecDepth 20000 in
theorem gX8_undo_X8_copies : GoodIn wsX8_undo (va_wsS RX8 135 yX8_copies wsX8_copies) := goodIn_app (goodIn_of _ (by decide +kernel)) ggX8_undo_X8_copies
theorem dX8_undo_0 : decode cX8_undo 0 = .ok (.aload_n 0, 1) := by decide +kernel
theorem dX8_undo_1 : decode cX8_undo 1 = .ok (.getfield 139, 3) := by decide +kernel
theorem dX8_undo_4 : decode cX8_undo 4 = .ok (.ifCond .ne 6, 3) := by decide +kernel
theorem dX8_undo_7 : decode cX8_undo 7 = .ok (.ldc 163, 2) := by decide +kernel
theorem dX8_undo_9 : decode cX8_undo 9 = .ok (.ireturn, 1) := by decide +kernel
theorem dX8_undo_10 : decode cX8_undo 10 = .ok (.aload_n 0, 1) := by decide +kernel
theorem dX8_undo_11 : decode cX8_undo 11 = .ok (.dup, 1) := by decide +kernel
theorem dX8_undo_12 : decode cX8_undo 12 = .ok (.getfield 139, 3) := by decide +kernel
theorem dX8_undo_15 : decode cX8_undo 15 = .ok (.iconst 1, 1) := by decide +kernel
theorem dX8_undo_16 : decode cX8_undo 16 = .ok (.isub, 1) := by decide +kernel
theorem dX8_undo_17 : decode cX8_undo 17 = .ok (.putfield 139, 3) := by decide +kernel
theorem dX8_undo_20 : decode cX8_undo 20 = .ok (.aload_n 0, 1) := by decide +kernel
theorem dX8_undo_21 : decode cX8_undo 21 = .ok (.getfield 28, 3) := by decide +kernel
theorem dX8_undo_24 : decode cX8_undo 24 = .ok (.bipush 30, 2) := by decide +kernel
theorem dX8_undo_26 : decode cX8_undo 26 = .ok (.aload_n 0, 1) := by decide +kernel
theorem dX8_undo_27 : decode cX8_undo 27 = .ok (.getfield 139, 3) := by decide +kernel
theorem dX8_undo_30 : decode cX8_undo 30 = .ok (.imul, 1) := by decide +kernel
theorem dX8_undo_31 : decode cX8_undo 31 = .ok (.aload_n 0, 1) := by decide +kernel
theorem dX8_undo_32 : decode cX8_undo 32 = .ok (.getfield 19, 3) := by decide +kernel
theorem dX8_undo_35 : decode cX8_undo 35 = .ok (.iconst 0, 1) := by decide +kernel
theorem dX8_undo_36 : decode cX8_undo 36 = .ok (.invokestatic 135, 3) := by decide +kernel
theorem dX8_undo_39 : decode cX8_undo 39 = .ok (.aload_n 0, 1) := by decide +kernel
theorem dX8_undo_40 : decode cX8_undo 40 = .ok (.getfield 139, 3) := by decide +kernel
theorem dX8_undo_43 : decode cX8_undo 43 = .ok (.ireturn, 1) := by decide +kernel
set_option maxRecDepth 20000 in
theorem ggX8_thing_X8_isThing : GoodIn wsX8_thing wsX8_isThing := goodIn_r _ [7, 2, 8, 9, 6, 10, 26, 27, 28, 29, 30, 31, 32, 33, 34, 35, 36, 37, 38, 39, 40, 41, 42, 43, 44, 45, 46, 47, 48, 49] (by decide +kernel) (by decide +kernel)
set_option maxRecDepth 20000 in
theorem gX8_thing_X8_isThing : GoodIn wsX8_thing (wsV RX8 177 RX8 yX8_isThing wsX8_isThing) := goodIn_app (goodIn_of _ (by decide +kernel)) ggX8_thing_X8_isThing
set_option maxRecDepth 20000 in
theorem ggX8_thing_X8_nearTo : GoodIn wsX8_thing wsX8_nearTo := goodIn_r _ [13, 14, 15, 6, 16, 17, 18, 19, 20, 21, 22] (by decide +kernel) (by decide +kernel)
set_option maxRecDepth 20000 in
theorem gX8_thing_X8_nearTo : GoodIn wsX8_thing (va_wsS RX8 191 yX8_nearTo wsX8_nearTo) := goodIn_app (goodIn_of _ (by decide +kernel)) ggX8_thing_X8_nearTo
set_option maxRecDepth 20000 in
theorem ggX8_thing_X8_rises : GoodIn wsX8_thing wsX8_rises := goodIn_r _ [25, 17, 18, 6, 19] (by decide +kernel) (by decide +kernel)
set_option maxRecDepth 20000 in
theorem gX8_thing_X8_rises : GoodIn wsX8_thing (va_wsS RX8 146 yX8_rises wsX8_rises) := goodIn_app (goodIn_of _ (by decide +kernel)) ggX8_thing_X8_rises
theorem dX8_thing_0 : decode cX8_thing 0 = .ok (.aload_n 0, 1) := by decide +kernel
theorem dX8_thing_1 : decode cX8_thing 1 = .ok (.iload_n 1, 1) := by decide +kernel
theorem dX8_thing_2 : decode cX8_thing 2 = .ok (.invokevirtual 177, 3) := by decide +kernel
theorem dX8_thing_5 : decode cX8_thing 5 = .ok (.ifCond .ne 6, 3) := by decide +kernel
theorem dX8_thing_8 : decode cX8_thing 8 = .ok (.ldc 70, 2) := by decide +kernel
theorem dX8_thing_10 : decode cX8_thing 10 = .ok (.ireturn, 1) := by decide +kernel
theorem dX8_thing_11 : decode cX8_thing 11 = .ok (.iload_n 2, 1) := by decide +kernel
theorem dX8_thing_12 : decode cX8_thing 12 = .ok (.tableswitch 98 0 5 #[40, 50, 60, 70, 80, 89], 40) := by decide +kernel
theorem dX8_thing_52 : decode cX8_thing 52 = .ok (.aload_n 0, 1) := by decide +kernel
theorem dX8_thing_53 : decode cX8_thing 53 = .ok (.getfield 19, 3) := by decide +kernel
theorem dX8_thing_56 : decode cX8_thing 56 = .ok (.bipush 13, 2) := by decide +kernel
theorem dX8_thing_58 : decode cX8_thing 58 = .ok (.iload_n 1, 1) := by decide +kernel
theorem dX8_thing_59 : decode cX8_thing 59 = .ok (.iadd, 1) := by decide +kernel
theorem dX8_thing_60 : decode cX8_thing 60 = .ok (.iaload, 1) := by decide +kernel
theorem dX8_thing_61 : decode cX8_thing 61 = .ok (.ireturn, 1) := by decide +kernel
theorem dX8_thing_62 : decode cX8_thing 62 = .ok (.aload_n 0, 1) := by decide +kernel
theorem dX8_thing_63 : decode cX8_thing 63 = .ok (.getfield 19, 3) := by decide +kernel
theorem dX8_thing_66 : decode cX8_thing 66 = .ok (.bipush 18, 2) := by decide +kernel
theorem dX8_thing_68 : decode cX8_thing 68 = .ok (.iload_n 1, 1) := by decide +kernel
theorem dX8_thing_69 : decode cX8_thing 69 = .ok (.iadd, 1) := by decide +kernel
theorem dX8_thing_70 : decode cX8_thing 70 = .ok (.iaload, 1) := by decide +kernel
theorem dX8_thing_71 : decode cX8_thing 71 = .ok (.ireturn, 1) := by decide +kernel
theorem dX8_thing_72 : decode cX8_thing 72 = .ok (.aload_n 0, 1) := by decide +kernel
theorem dX8_thing_73 : decode cX8_thing 73 = .ok (.getfield 19, 3) := by decide +kernel
theorem dX8_thing_76 : decode cX8_thing 76 = .ok (.bipush 8, 2) := by decide +kernel
theorem dX8_thing_78 : decode cX8_thing 78 = .ok (.iload_n 1, 1) := by decide +kernel
theorem dX8_thing_79 : decode cX8_thing 79 = .ok (.iadd, 1) := by decide +kernel
theorem dX8_thing_80 : decode cX8_thing 80 = .ok (.iaload, 1) := by decide +kernel
theorem dX8_thing_81 : decode cX8_thing 81 = .ok (.ireturn, 1) := by decide +kernel
theorem dX8_thing_82 : decode cX8_thing 82 = .ok (.aload_n 0, 1) := by decide +kernel
theorem dX8_thing_83 : decode cX8_thing 83 = .ok (.getfield 19, 3) := by decide +kernel
theorem dX8_thing_86 : decode cX8_thing 86 = .ok (.bipush 23, 2) := by decide +kernel
theorem dX8_thing_88 : decode cX8_thing 88 = .ok (.iload_n 1, 1) := by decide +kernel
theorem dX8_thing_89 : decode cX8_thing 89 = .ok (.iadd, 1) := by decide +kernel
theorem dX8_thing_90 : decode cX8_thing 90 = .ok (.iaload, 1) := by decide +kernel
theorem dX8_thing_91 : decode cX8_thing 91 = .ok (.ireturn, 1) := by decide +kernel
theorem dX8_thing_92 : decode cX8_thing 92 = .ok (.aload_n 0, 1) := by decide +kernel
theorem dX8_thing_93 : decode cX8_thing 93 = .ok (.getfield 19, 3) := by decide +kernel
theorem dX8_thing_96 : decode cX8_thing 96 = .ok (.iload_n 1, 1) := by decide +kernel
theorem dX8_thing_97 : decode cX8_thing 97 = .ok (.invokestatic 191, 3) := by decide +kernel
theorem dX8_thing_100 : decode cX8_thing 100 = .ok (.ireturn, 1) := by decide +kernel
theorem dX8_thing_101 : decode cX8_thing 101 = .ok (.aload_n 0, 1) := by decide +kernel
theorem dX8_thing_102 : decode cX8_thing 102 = .ok (.getfield 19, 3) := by decide +kernel
theorem dX8_thing_105 : decode cX8_thing 105 = .ok (.iload_n 1, 1) := by decide +kernel
theorem dX8_thing_106 : decode cX8_thing 106 = .ok (.invokestatic 146, 3) := by decide +kernel
theorem dX8_thing_109 : decode cX8_thing 109 = .ok (.ireturn, 1) := by decide +kernel
theorem dX8_thing_110 : decode cX8_thing 110 = .ok (.ldc 70, 2) := by decide +kernel
theorem dX8_thing_112 : decode cX8_thing 112 = .ok (.ireturn, 1) := by decide +kernel
set_option maxRecDepth 20000 in
theorem ggX8_knows_X8_in : GoodIn wsX8_knows wsX8_in := goodIn_r _ [6] (by decide +kernel) (by decide +kernel)
set_option maxRecDepth 20000 in
theorem gX8_knows_X8_in : GoodIn wsX8_knows (va_wsS RX8 60 yX8_in wsX8_in) := goodIn_app (goodIn_of _ (by decide +kernel)) ggX8_knows_X8_in
set_option maxRecDepth 20000 in
theorem ggX8_knows_X8_has : GoodIn wsX8_knows wsX8_has := goodIn_r _ [9] (by decide +kernel) (by decide +kernel)
set_option maxRecDepth 20000 in
theorem gX8_knows_X8_has : GoodIn wsX8_knows (va_wsS RX8 187 yX8_has wsX8_has) := goodIn_app (goodIn_of _ (by decide +kernel)) ggX8_knows_X8_has
theorem dX8_knows_0 : decode cX8_knows 0 = .ok (.iload_n 1, 1) := by decide +kernel
theorem dX8_knows_1 : decode cX8_knows 1 = .ok (.i2l, 1) := by decide +kernel
theorem dX8_knows_2 : decode cX8_knows 2 = .ok (.lconst 0, 1) := by decide +kernel
theorem dX8_knows_3 : decode cX8_knows 3 = .ok (.aload_n 0, 1) := by decide +kernel
theorem dX8_knows_4 : decode cX8_knows 4 = .ok (.getfield 19, 3) := by decide +kernel
theorem dX8_knows_7 : decode cX8_knows 7 = .ok (.iconst 2, 1) := by decide +kernel
theorem dX8_knows_8 : decode cX8_knows 8 = .ok (.iaload, 1) := by decide +kernel
theorem dX8_knows_9 : decode cX8_knows 9 = .ok (.iconst 1, 1) := by decide +kernel
theorem dX8_knows_10 : decode cX8_knows 10 = .ok (.isub, 1) := by decide +kernel
theorem dX8_knows_11 : decode cX8_knows 11 = .ok (.i2l, 1) := by decide +kernel
theorem dX8_knows_12 : decode cX8_knows 12 = .ok (.invokestatic 60, 3) := by decide +kernel
theorem dX8_knows_15 : decode cX8_knows 15 = .ok (.ifCond .ne 6, 3) := by decide +kernel
theorem dX8_knows_18 : decode cX8_knows 18 = .ok (.ldc 70, 2) := by decide +kernel
theorem dX8_knows_20 : decode cX8_knows 20 = .ok (.ireturn, 1) := by decide +kernel
theorem dX8_knows_21 : decode cX8_knows 21 = .ok (.iconst 0, 1) := by decide +kernel
theorem dX8_knows_22 : decode cX8_knows 22 = .ok (.istore_n 2, 1) := by decide +kernel
theorem dX8_knows_23 : decode cX8_knows 23 = .ok (.iconst 0, 1) := by decide +kernel
theorem dX8_knows_24 : decode cX8_knows 24 = .ok (.istore_n 3, 1) := by decide +kernel
theorem dX8_knows_25 : decode cX8_knows 25 = .ok (.iload_n 3, 1) := by decide +kernel
theorem dX8_knows_26 : decode cX8_knows 26 = .ok (.aload_n 0, 1) := by decide +kernel
theorem dX8_knows_27 : decode cX8_knows 27 = .ok (.getfield 19, 3) := by decide +kernel
theorem dX8_knows_30 : decode cX8_knows 30 = .ok (.iconst 0, 1) := by decide +kernel
theorem dX8_knows_31 : decode cX8_knows 31 = .ok (.iaload, 1) := by decide +kernel
theorem dX8_knows_32 : decode cX8_knows 32 = .ok (.if_icmp .ge 35, 3) := by decide +kernel
theorem dX8_knows_35 : decode cX8_knows 35 = .ok (.iload_n 2, 1) := by decide +kernel
theorem dX8_knows_36 : decode cX8_knows 36 = .ok (.aload_n 0, 1) := by decide +kernel
theorem dX8_knows_37 : decode cX8_knows 37 = .ok (.getfield 19, 3) := by decide +kernel
theorem dX8_knows_40 : decode cX8_knows 40 = .ok (.bipush 23, 2) := by decide +kernel
theorem dX8_knows_42 : decode cX8_knows 42 = .ok (.iload_n 3, 1) := by decide +kernel
theorem dX8_knows_43 : decode cX8_knows 43 = .ok (.iadd, 1) := by decide +kernel
theorem dX8_knows_44 : decode cX8_knows 44 = .ok (.iaload, 1) := by decide +kernel
theorem dX8_knows_45 : decode cX8_knows 45 = .ok (.iload_n 1, 1) := by decide +kernel
theorem dX8_knows_46 : decode cX8_knows 46 = .ok (.invokestatic 187, 3) := by decide +kernel
theorem dX8_knows_49 : decode cX8_knows 49 = .ok (.ifCond .eq 9, 3) := by decide +kernel
theorem dX8_knows_52 : decode cX8_knows 52 = .ok (.iconst 1, 1) := by decide +kernel
