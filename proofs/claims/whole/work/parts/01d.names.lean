theorem dX3_fewestWhoKnowAll_42 : decode cX3_fewestWhoKnowAll 42 = .ok (.iinc 2 1, 3) := by decide +kernel
theorem dX3_fewestWhoKnowAll_45 : decode cX3_fewestWhoKnowAll 45 = .ok (.goto (-40), 3) := by decide +kernel
theorem dX3_fewestWhoKnowAll_48 : decode cX3_fewestWhoKnowAll 48 = .ok (.iload_n 1, 1) := by decide +kernel
theorem dX3_fewestWhoKnowAll_49 : decode cX3_fewestWhoKnowAll 49 = .ok (.ireturn, 1) := by decide +kernel
theorem dX3_allKnownTo_0 : decode cX3_allKnownTo 0 = .ok (.iconst 0, 1) := by decide +kernel
theorem dX3_allKnownTo_1 : decode cX3_allKnownTo 1 = .ok (.istore_n 2, 1) := by decide +kernel
theorem dX3_allKnownTo_2 : decode cX3_allKnownTo 2 = .ok (.iload_n 2, 1) := by decide +kernel
theorem dX3_allKnownTo_3 : decode cX3_allKnownTo 3 = .ok (.aload_n 0, 1) := by decide +kernel
theorem dX3_allKnownTo_4 : decode cX3_allKnownTo 4 = .ok (.getfield 15, 3) := by decide +kernel
theorem dX3_allKnownTo_7 : decode cX3_allKnownTo 7 = .ok (.if_icmp .ge 22, 3) := by decide +kernel
theorem dX3_allKnownTo_10 : decode cX3_allKnownTo 10 = .ok (.aload_n 0, 1) := by decide +kernel
theorem dX3_allKnownTo_11 : decode cX3_allKnownTo 11 = .ok (.getfield 44, 3) := by decide +kernel
theorem dX3_allKnownTo_14 : decode cX3_allKnownTo 14 = .ok (.iload_n 2, 1) := by decide +kernel
theorem dX3_allKnownTo_15 : decode cX3_allKnownTo 15 = .ok (.iaload, 1) := by decide +kernel
theorem dX3_allKnownTo_16 : decode cX3_allKnownTo 16 = .ok (.iload_n 1, 1) := by decide +kernel
theorem dX3_allKnownTo_17 : decode cX3_allKnownTo 17 = .ok (.iand, 1) := by decide +kernel
theorem dX3_allKnownTo_18 : decode cX3_allKnownTo 18 = .ok (.ifCond .ne 5, 3) := by decide +kernel
theorem dX3_allKnownTo_21 : decode cX3_allKnownTo 21 = .ok (.iconst 0, 1) := by decide +kernel
theorem dX3_allKnownTo_22 : decode cX3_allKnownTo 22 = .ok (.ireturn, 1) := by decide +kernel
theorem dX3_allKnownTo_23 : decode cX3_allKnownTo 23 = .ok (.iinc 2 1, 3) := by decide +kernel
theorem dX3_allKnownTo_26 : decode cX3_allKnownTo 26 = .ok (.goto (-24), 3) := by decide +kernel
theorem dX3_allKnownTo_29 : decode cX3_allKnownTo 29 = .ok (.iconst 1, 1) := by decide +kernel
theorem dX3_allKnownTo_30 : decode cX3_allKnownTo 30 = .ok (.ireturn, 1) := by decide +kernel
theorem dX3_countHalves_0 : decode cX3_countHalves 0 = .ok (.iconst 0, 1) := by decide +kernel
theorem dX3_countHalves_1 : decode cX3_countHalves 1 = .ok (.istore_n 1, 1) := by decide +kernel
theorem dX3_countHalves_2 : decode cX3_countHalves 2 = .ok (.iconst 0, 1) := by decide +kernel
theorem dX3_countHalves_3 : decode cX3_countHalves 3 = .ok (.istore_n 2, 1) := by decide +kernel
theorem dX3_countHalves_4 : decode cX3_countHalves 4 = .ok (.iload_n 2, 1) := by decide +kernel
theorem dX3_countHalves_5 : decode cX3_countHalves 5 = .ok (.aload_n 0, 1) := by decide +kernel
theorem dX3_countHalves_6 : decode cX3_countHalves 6 = .ok (.getfield 15, 3) := by decide +kernel
theorem dX3_countHalves_9 : decode cX3_countHalves 9 = .ok (.if_icmp .ge 46, 3) := by decide +kernel
theorem dX3_countHalves_12 : decode cX3_countHalves 12 = .ok (.iload_n 2, 1) := by decide +kernel
theorem dX3_countHalves_13 : decode cX3_countHalves 13 = .ok (.iconst 1, 1) := by decide +kernel
theorem dX3_countHalves_14 : decode cX3_countHalves 14 = .ok (.iadd, 1) := by decide +kernel
theorem dX3_countHalves_15 : decode cX3_countHalves 15 = .ok (.istore_n 3, 1) := by decide +kernel
theorem dX3_countHalves_16 : decode cX3_countHalves 16 = .ok (.iload_n 3, 1) := by decide +kernel
theorem dX3_countHalves_17 : decode cX3_countHalves 17 = .ok (.aload_n 0, 1) := by decide +kernel
theorem dX3_countHalves_18 : decode cX3_countHalves 18 = .ok (.getfield 15, 3) := by decide +kernel
theorem dX3_countHalves_21 : decode cX3_countHalves 21 = .ok (.if_icmp .ge 28, 3) := by decide +kernel
theorem dX3_countHalves_24 : decode cX3_countHalves 24 = .ok (.aload_n 0, 1) := by decide +kernel
theorem dX3_countHalves_25 : decode cX3_countHalves 25 = .ok (.getfield 44, 3) := by decide +kernel
theorem dX3_countHalves_28 : decode cX3_countHalves 28 = .ok (.iload_n 2, 1) := by decide +kernel
theorem dX3_countHalves_29 : decode cX3_countHalves 29 = .ok (.iaload, 1) := by decide +kernel
theorem dX3_countHalves_30 : decode cX3_countHalves 30 = .ok (.aload_n 0, 1) := by decide +kernel
theorem dX3_countHalves_31 : decode cX3_countHalves 31 = .ok (.getfield 44, 3) := by decide +kernel
theorem dX3_countHalves_34 : decode cX3_countHalves 34 = .ok (.iload_n 3, 1) := by decide +kernel
theorem dX3_countHalves_35 : decode cX3_countHalves 35 = .ok (.iaload, 1) := by decide +kernel
theorem dX3_countHalves_36 : decode cX3_countHalves 36 = .ok (.iand, 1) := by decide +kernel
theorem dX3_countHalves_37 : decode cX3_countHalves 37 = .ok (.ifCond .eq 6, 3) := by decide +kernel
theorem dX3_countHalves_40 : decode cX3_countHalves 40 = .ok (.iinc 1 1, 3) := by decide +kernel
theorem dX3_countHalves_43 : decode cX3_countHalves 43 = .ok (.iinc 3 1, 3) := by decide +kernel
theorem dX3_countHalves_46 : decode cX3_countHalves 46 = .ok (.goto (-30), 3) := by decide +kernel
theorem dX3_countHalves_49 : decode cX3_countHalves 49 = .ok (.iinc 2 1, 3) := by decide +kernel
theorem dX3_countHalves_52 : decode cX3_countHalves 52 = .ok (.goto (-48), 3) := by decide +kernel
theorem dX3_countHalves_55 : decode cX3_countHalves 55 = .ok (.iload_n 1, 1) := by decide +kernel
theorem dX3_countHalves_56 : decode cX3_countHalves 56 = .ok (.ireturn, 1) := by decide +kernel
theorem dX3_firstHalves_0 : decode cX3_firstHalves 0 = .ok (.iconst 0, 1) := by decide +kernel
theorem dX3_firstHalves_1 : decode cX3_firstHalves 1 = .ok (.istore_n 1, 1) := by decide +kernel
theorem dX3_firstHalves_2 : decode cX3_firstHalves 2 = .ok (.iload_n 1, 1) := by decide +kernel
theorem dX3_firstHalves_3 : decode cX3_firstHalves 3 = .ok (.aload_n 0, 1) := by decide +kernel
theorem dX3_firstHalves_4 : decode cX3_firstHalves 4 = .ok (.getfield 15, 3) := by decide +kernel
theorem dX3_firstHalves_7 : decode cX3_firstHalves 7 = .ok (.if_icmp .ge 50, 3) := by decide +kernel
theorem dX3_firstHalves_10 : decode cX3_firstHalves 10 = .ok (.iload_n 1, 1) := by decide +kernel
theorem dX3_firstHalves_11 : decode cX3_firstHalves 11 = .ok (.iconst 1, 1) := by decide +kernel
theorem dX3_firstHalves_12 : decode cX3_firstHalves 12 = .ok (.iadd, 1) := by decide +kernel
theorem dX3_firstHalves_13 : decode cX3_firstHalves 13 = .ok (.istore_n 2, 1) := by decide +kernel
theorem dX3_firstHalves_14 : decode cX3_firstHalves 14 = .ok (.iload_n 2, 1) := by decide +kernel
theorem dX3_firstHalves_15 : decode cX3_firstHalves 15 = .ok (.aload_n 0, 1) := by decide +kernel
theorem dX3_firstHalves_16 : decode cX3_firstHalves 16 = .ok (.getfield 15, 3) := by decide +kernel
theorem dX3_firstHalves_19 : decode cX3_firstHalves 19 = .ok (.if_icmp .ge 32, 3) := by decide +kernel
theorem dX3_firstHalves_22 : decode cX3_firstHalves 22 = .ok (.aload_n 0, 1) := by decide +kernel
theorem dX3_firstHalves_23 : decode cX3_firstHalves 23 = .ok (.getfield 44, 3) := by decide +kernel
theorem dX3_firstHalves_26 : decode cX3_firstHalves 26 = .ok (.iload_n 1, 1) := by decide +kernel
theorem dX3_firstHalves_27 : decode cX3_firstHalves 27 = .ok (.iaload, 1) := by decide +kernel
theorem dX3_firstHalves_28 : decode cX3_firstHalves 28 = .ok (.aload_n 0, 1) := by decide +kernel
theorem dX3_firstHalves_29 : decode cX3_firstHalves 29 = .ok (.getfield 44, 3) := by decide +kernel
theorem dX3_firstHalves_32 : decode cX3_firstHalves 32 = .ok (.iload_n 2, 1) := by decide +kernel
theorem dX3_firstHalves_33 : decode cX3_firstHalves 33 = .ok (.iaload, 1) := by decide +kernel
theorem dX3_firstHalves_34 : decode cX3_firstHalves 34 = .ok (.iand, 1) := by decide +kernel
theorem dX3_firstHalves_35 : decode cX3_firstHalves 35 = .ok (.ifCond .eq 10, 3) := by decide +kernel
theorem dX3_firstHalves_38 : decode cX3_firstHalves 38 = .ok (.bipush 10, 2) := by decide +kernel
theorem dX3_firstHalves_40 : decode cX3_firstHalves 40 = .ok (.iload_n 1, 1) := by decide +kernel
theorem dX3_firstHalves_41 : decode cX3_firstHalves 41 = .ok (.imul, 1) := by decide +kernel
theorem dX3_firstHalves_42 : decode cX3_firstHalves 42 = .ok (.iload_n 2, 1) := by decide +kernel
theorem dX3_firstHalves_43 : decode cX3_firstHalves 43 = .ok (.iadd, 1) := by decide +kernel
theorem dX3_firstHalves_44 : decode cX3_firstHalves 44 = .ok (.ireturn, 1) := by decide +kernel
theorem dX3_firstHalves_45 : decode cX3_firstHalves 45 = .ok (.iinc 2 1, 3) := by decide +kernel
theorem dX3_firstHalves_48 : decode cX3_firstHalves 48 = .ok (.goto (-34), 3) := by decide +kernel
theorem dX3_firstHalves_51 : decode cX3_firstHalves 51 = .ok (.iinc 1 1, 3) := by decide +kernel
theorem dX3_firstHalves_54 : decode cX3_firstHalves 54 = .ok (.goto (-52), 3) := by decide +kernel
theorem dX3_firstHalves_57 : decode cX3_firstHalves 57 = .ok (.ldc 64, 2) := by decide +kernel
theorem dX3_firstHalves_59 : decode cX3_firstHalves 59 = .ok (.ireturn, 1) := by decide +kernel
theorem dX4_init_0 : decode cX4_init 0 = .ok (.aload_n 0, 1) := by decide +kernel
theorem dX4_init_1 : decode cX4_init 1 = .ok (.invokespecial 3, 3) := by decide +kernel
theorem dX4_init_4 : decode cX4_init 4 = .ok (.aload_n 0, 1) := by decide +kernel
theorem dX4_init_5 : decode cX4_init 5 = .ok (.bipush 8, 2) := by decide +kernel
theorem dX4_init_7 : decode cX4_init 7 = .ok (.bipush 40, 2) := by decide +kernel
theorem dX4_init_9 : decode cX4_init 9 = .ok (.multianewarray 9 2, 4) := by decide +kernel
theorem dX4_init_13 : decode cX4_init 13 = .ok (.putfield 11, 3) := by decide +kernel
theorem dX4_init_16 : decode cX4_init 16 = .ok (.aload_n 0, 1) := by decide +kernel
theorem dX4_init_17 : decode cX4_init 17 = .ok (.bipush 8, 2) := by decide +kernel
theorem dX4_init_19 : decode cX4_init 19 = .ok (.newarray .int, 2) := by decide +kernel
theorem dX4_init_21 : decode cX4_init 21 = .ok (.putfield 16, 3) := by decide +kernel
theorem dX4_init_24 : decode cX4_init 24 = .ok (.aload_n 0, 1) := by decide +kernel
theorem dX4_init_25 : decode cX4_init 25 = .ok (.bipush 8, 2) := by decide +kernel
theorem dX4_init_27 : decode cX4_init 27 = .ok (.newarray .int, 2) := by decide +kernel
theorem dX4_init_29 : decode cX4_init 29 = .ok (.putfield 20, 3) := by decide +kernel
theorem dX4_init_32 : decode cX4_init 32 = .ok (.iconst 0, 1) := by decide +kernel
theorem dX4_init_33 : decode cX4_init 33 = .ok (.istore_n 1, 1) := by decide +kernel
theorem dX4_init_34 : decode cX4_init 34 = .ok (.iload_n 1, 1) := by decide +kernel
theorem dX4_init_35 : decode cX4_init 35 = .ok (.bipush 8, 2) := by decide +kernel
theorem dX4_init_37 : decode cX4_init 37 = .ok (.if_icmp .ge 16, 3) := by decide +kernel
theorem dX4_init_40 : decode cX4_init 40 = .ok (.aload_n 0, 1) := by decide +kernel
theorem dX4_init_41 : decode cX4_init 41 = .ok (.getfield 20, 3) := by decide +kernel
theorem dX4_init_44 : decode cX4_init 44 = .ok (.iload_n 1, 1) := by decide +kernel
theorem dX4_init_45 : decode cX4_init 45 = .ok (.iconst (-1), 1) := by decide +kernel
theorem dX4_init_46 : decode cX4_init 46 = .ok (.iastore, 1) := by decide +kernel
theorem dX4_init_47 : decode cX4_init 47 = .ok (.iinc 1 1, 3) := by decide +kernel
theorem dX4_init_50 : decode cX4_init 50 = .ok (.goto (-16), 3) := by decide +kernel
theorem dX4_init_53 : decode cX4_init 53 = .ok (.return_, 1) := by decide +kernel
theorem dX4_isMissing_0 : decode cX4_isMissing 0 = .ok (.aload_n 0, 1) := by decide +kernel
theorem dX4_isMissing_1 : decode cX4_isMissing 1 = .ok (.getfield 20, 3) := by decide +kernel
theorem dX4_isMissing_4 : decode cX4_isMissing 4 = .ok (.iload_n 1, 1) := by decide +kernel
theorem dX4_isMissing_5 : decode cX4_isMissing 5 = .ok (.iaload, 1) := by decide +kernel
theorem dX4_isMissing_6 : decode cX4_isMissing 6 = .ok (.iconst (-1), 1) := by decide +kernel
theorem dX4_isMissing_7 : decode cX4_isMissing 7 = .ok (.if_icmp .ne 7, 3) := by decide +kernel
theorem dX4_isMissing_10 : decode cX4_isMissing 10 = .ok (.iconst 1, 1) := by decide +kernel
theorem dX4_isMissing_11 : decode cX4_isMissing 11 = .ok (.goto 4, 3) := by decide +kernel
theorem dX4_isMissing_14 : decode cX4_isMissing 14 = .ok (.iconst 0, 1) := by decide +kernel
theorem dX4_isMissing_15 : decode cX4_isMissing 15 = .ok (.ireturn, 1) := by decide +kernel
theorem dX4_hasRun_0 : decode cX4_hasRun 0 = .ok (.iload_n 2, 1) := by decide +kernel
theorem dX4_hasRun_1 : decode cX4_hasRun 1 = .ok (.ifCond .lt 33, 3) := by decide +kernel
theorem dX4_hasRun_4 : decode cX4_hasRun 4 = .ok (.iload_n 3, 1) := by decide +kernel
theorem dX4_hasRun_5 : decode cX4_hasRun 5 = .ok (.ifCond .lt 29, 3) := by decide +kernel
theorem dX4_hasRun_8 : decode cX4_hasRun 8 = .ok (.iload_n 2, 1) := by decide +kernel
theorem dX4_hasRun_9 : decode cX4_hasRun 9 = .ok (.aload_n 0, 1) := by decide +kernel
theorem dX4_hasRun_10 : decode cX4_hasRun 10 = .ok (.getfield 20, 3) := by decide +kernel
theorem dX4_hasRun_13 : decode cX4_hasRun 13 = .ok (.iload_n 1, 1) := by decide +kernel
theorem dX4_hasRun_14 : decode cX4_hasRun 14 = .ok (.iaload, 1) := by decide +kernel
theorem dX4_hasRun_15 : decode cX4_hasRun 15 = .ok (.if_icmp .gt 19, 3) := by decide +kernel
theorem dX4_hasRun_18 : decode cX4_hasRun 18 = .ok (.iload_n 3, 1) := by decide +kernel
theorem dX4_hasRun_19 : decode cX4_hasRun 19 = .ok (.aload_n 0, 1) := by decide +kernel
theorem dX4_hasRun_20 : decode cX4_hasRun 20 = .ok (.getfield 20, 3) := by decide +kernel
theorem dX4_hasRun_23 : decode cX4_hasRun 23 = .ok (.iload_n 1, 1) := by decide +kernel
theorem dX4_hasRun_24 : decode cX4_hasRun 24 = .ok (.iaload, 1) := by decide +kernel
theorem dX4_hasRun_25 : decode cX4_hasRun 25 = .ok (.iload_n 2, 1) := by decide +kernel
theorem dX4_hasRun_26 : decode cX4_hasRun 26 = .ok (.isub, 1) := by decide +kernel
theorem dX4_hasRun_27 : decode cX4_hasRun 27 = .ok (.if_icmp .gt 7, 3) := by decide +kernel
theorem dX4_hasRun_30 : decode cX4_hasRun 30 = .ok (.iconst 1, 1) := by decide +kernel
theorem dX4_hasRun_31 : decode cX4_hasRun 31 = .ok (.goto 4, 3) := by decide +kernel
theorem dX4_hasRun_34 : decode cX4_hasRun 34 = .ok (.iconst 0, 1) := by decide +kernel
theorem dX4_hasRun_35 : decode cX4_hasRun 35 = .ok (.ireturn, 1) := by decide +kernel
theorem dX4_makeAnew_0 : decode cX4_makeAnew 0 = .ok (.aload_n 0, 1) := by decide +kernel
theorem dX4_makeAnew_1 : decode cX4_makeAnew 1 = .ok (.getfield 16, 3) := by decide +kernel
theorem dX4_makeAnew_4 : decode cX4_makeAnew 4 = .ok (.iload_n 1, 1) := by decide +kernel
theorem dX4_makeAnew_5 : decode cX4_makeAnew 5 = .ok (.iload_n 2, 1) := by decide +kernel
theorem dX4_makeAnew_6 : decode cX4_makeAnew 6 = .ok (.iastore, 1) := by decide +kernel
theorem dX4_makeAnew_7 : decode cX4_makeAnew 7 = .ok (.aload_n 0, 1) := by decide +kernel
theorem dX4_makeAnew_8 : decode cX4_makeAnew 8 = .ok (.getfield 20, 3) := by decide +kernel
theorem dX4_makeAnew_11 : decode cX4_makeAnew 11 = .ok (.iload_n 1, 1) := by decide +kernel
theorem dX4_makeAnew_12 : decode cX4_makeAnew 12 = .ok (.iload_n 3, 1) := by decide +kernel
theorem dX4_makeAnew_13 : decode cX4_makeAnew 13 = .ok (.iastore, 1) := by decide +kernel
theorem dX4_makeAnew_14 : decode cX4_makeAnew 14 = .ok (.iconst 0, 1) := by decide +kernel
theorem dX4_makeAnew_15 : decode cX4_makeAnew 15 = .ok (.istore 4, 2) := by decide +kernel
theorem dX4_makeAnew_17 : decode cX4_makeAnew 17 = .ok (.iload 4, 2) := by decide +kernel
theorem dX4_makeAnew_19 : decode cX4_makeAnew 19 = .ok (.iload_n 3, 1) := by decide +kernel
theorem dX4_makeAnew_20 : decode cX4_makeAnew 20 = .ok (.if_icmp .ge 19, 3) := by decide +kernel
theorem dX4_makeAnew_23 : decode cX4_makeAnew 23 = .ok (.aload_n 0, 1) := by decide +kernel
theorem dX4_makeAnew_24 : decode cX4_makeAnew 24 = .ok (.getfield 11, 3) := by decide +kernel
theorem dX4_makeAnew_27 : decode cX4_makeAnew 27 = .ok (.iload_n 1, 1) := by decide +kernel
theorem dX4_makeAnew_28 : decode cX4_makeAnew 28 = .ok (.aaload, 1) := by decide +kernel
theorem dX4_makeAnew_29 : decode cX4_makeAnew 29 = .ok (.iload 4, 2) := by decide +kernel
theorem dX4_makeAnew_31 : decode cX4_makeAnew 31 = .ok (.iconst 0, 1) := by decide +kernel
theorem dX4_makeAnew_32 : decode cX4_makeAnew 32 = .ok (.iastore, 1) := by decide +kernel
theorem dX4_makeAnew_33 : decode cX4_makeAnew 33 = .ok (.iinc 4 1, 3) := by decide +kernel
theorem dX4_makeAnew_36 : decode cX4_makeAnew 36 = .ok (.goto (-19), 3) := by decide +kernel
theorem dX4_makeAnew_39 : decode cX4_makeAnew 39 = .ok (.return_, 1) := by decide +kernel
theorem dX4_put_0 : decode cX4_put 0 = .ok (.iload_n 3, 1) := by decide +kernel
theorem dX4_put_1 : decode cX4_put 1 = .ok (.istore 4, 2) := by decide +kernel
theorem dX4_put_3 : decode cX4_put 3 = .ok (.aload_n 0, 1) := by decide +kernel
theorem dX4_put_4 : decode cX4_put 4 = .ok (.getfield 16, 3) := by decide +kernel
theorem dX4_put_7 : decode cX4_put 7 = .ok (.iload_n 1, 1) := by decide +kernel
theorem dX4_put_8 : decode cX4_put 8 = .ok (.iaload, 1) := by decide +kernel
theorem dX4_put_9 : decode cX4_put 9 = .ok (.ifCond .ne 10, 3) := by decide +kernel
theorem dX4_put_12 : decode cX4_put 12 = .ok (.iload_n 3, 1) := by decide +kernel
theorem dX4_put_13 : decode cX4_put 13 = .ok (.i2b, 1) := by decide +kernel
theorem dX4_put_14 : decode cX4_put 14 = .ok (.istore 4, 2) := by decide +kernel
theorem dX4_put_16 : decode cX4_put 16 = .ok (.goto 17, 3) := by decide +kernel
theorem dX4_put_19 : decode cX4_put 19 = .ok (.aload_n 0, 1) := by decide +kernel
theorem dX4_put_20 : decode cX4_put 20 = .ok (.getfield 16, 3) := by decide +kernel
theorem dX4_put_23 : decode cX4_put 23 = .ok (.iload_n 1, 1) := by decide +kernel
theorem dX4_put_24 : decode cX4_put 24 = .ok (.iaload, 1) := by decide +kernel
theorem dX4_put_25 : decode cX4_put 25 = .ok (.iconst 1, 1) := by decide +kernel
theorem dX4_put_26 : decode cX4_put 26 = .ok (.if_icmp .ne 7, 3) := by decide +kernel
theorem dX4_put_29 : decode cX4_put 29 = .ok (.iload_n 3, 1) := by decide +kernel
theorem dX4_put_30 : decode cX4_put 30 = .ok (.i2s, 1) := by decide +kernel
theorem dX4_put_31 : decode cX4_put 31 = .ok (.istore 4, 2) := by decide +kernel
theorem dX4_put_33 : decode cX4_put 33 = .ok (.aload_n 0, 1) := by decide +kernel
theorem dX4_put_34 : decode cX4_put 34 = .ok (.getfield 11, 3) := by decide +kernel
theorem dX4_put_37 : decode cX4_put 37 = .ok (.iload_n 1, 1) := by decide +kernel
theorem dX4_put_38 : decode cX4_put 38 = .ok (.aaload, 1) := by decide +kernel
theorem dX4_put_39 : decode cX4_put 39 = .ok (.iload_n 2, 1) := by decide +kernel
theorem dX4_put_40 : decode cX4_put 40 = .ok (.iload 4, 2) := by decide +kernel
theorem dX4_put_42 : decode cX4_put 42 = .ok (.iastore, 1) := by decide +kernel
theorem dX4_put_43 : decode cX4_put 43 = .ok (.iload 4, 2) := by decide +kernel
theorem dX4_put_45 : decode cX4_put 45 = .ok (.ireturn, 1) := by decide +kernel
theorem dX4_readRun_0 : decode cX4_readRun 0 = .ok (.iconst 0, 1) := by decide +kernel
theorem dX4_readRun_1 : decode cX4_readRun 1 = .ok (.istore 5, 2) := by decide +kernel
theorem dX4_readRun_3 : decode cX4_readRun 3 = .ok (.iload 5, 2) := by decide +kernel
theorem dX4_readRun_5 : decode cX4_readRun 5 = .ok (.iload_n 3, 1) := by decide +kernel
theorem dX4_readRun_6 : decode cX4_readRun 6 = .ok (.if_icmp .ge 25, 3) := by decide +kernel
theorem dX4_readRun_9 : decode cX4_readRun 9 = .ok (.aload 4, 2) := by decide +kernel
theorem dX4_readRun_11 : decode cX4_readRun 11 = .ok (.iload 5, 2) := by decide +kernel
theorem dX4_readRun_13 : decode cX4_readRun 13 = .ok (.aload_n 0, 1) := by decide +kernel
theorem dX4_readRun_14 : decode cX4_readRun 14 = .ok (.getfield 11, 3) := by decide +kernel
theorem dX4_readRun_17 : decode cX4_readRun 17 = .ok (.iload_n 1, 1) := by decide +kernel
theorem dX4_readRun_18 : decode cX4_readRun 18 = .ok (.aaload, 1) := by decide +kernel
theorem dX4_readRun_19 : decode cX4_readRun 19 = .ok (.iload_n 2, 1) := by decide +kernel
theorem dX4_readRun_20 : decode cX4_readRun 20 = .ok (.iload 5, 2) := by decide +kernel
theorem dX4_readRun_22 : decode cX4_readRun 22 = .ok (.iadd, 1) := by decide +kernel
theorem dX4_readRun_23 : decode cX4_readRun 23 = .ok (.iaload, 1) := by decide +kernel
theorem dX4_readRun_24 : decode cX4_readRun 24 = .ok (.iastore, 1) := by decide +kernel
theorem dX4_readRun_25 : decode cX4_readRun 25 = .ok (.iinc 5 1, 3) := by decide +kernel
theorem dX4_readRun_28 : decode cX4_readRun 28 = .ok (.goto (-25), 3) := by decide +kernel
theorem dX4_readRun_31 : decode cX4_readRun 31 = .ok (.return_, 1) := by decide +kernel
set_option maxRecDepth 20000 in
theorem ggX4_countThere_X4_isMissing : GoodIn wsX4_countThere wsX4_isMissing := goodIn_r _ [5, 6, 7, 8, 9] (by decide +kernel) (by decide +kernel)
set_option maxRecDepth 20000 in
theorem gX4_countThere_X4_isMissing : GoodIn wsX4_countThere (wsV RX4 23 RX4 yX4_isMissing wsX4_isMissing) := goodIn_app (goodIn_of _ (by decide +kernel)) ggX4_countThere_X4_isMissing
theorem dX4_countThere_0 : decode cX4_countThere 0 = .ok (.iconst 0, 1) := by decide +kernel
theorem dX4_countThere_1 : decode cX4_countThere 1 = .ok (.istore_n 1, 1) := by decide +kernel
theorem dX4_countThere_2 : decode cX4_countThere 2 = .ok (.iconst 0, 1) := by decide +kernel
theorem dX4_countThere_3 : decode cX4_countThere 3 = .ok (.istore_n 2, 1) := by decide +kernel
theorem dX4_countThere_4 : decode cX4_countThere 4 = .ok (.iload_n 2, 1) := by decide +kernel
theorem dX4_countThere_5 : decode cX4_countThere 5 = .ok (.bipush 8, 2) := by decide +kernel
theorem dX4_countThere_7 : decode cX4_countThere 7 = .ok (.if_icmp .ge 20, 3) := by decide +kernel
theorem dX4_countThere_10 : decode cX4_countThere 10 = .ok (.aload_n 0, 1) := by decide +kernel
theorem dX4_countThere_11 : decode cX4_countThere 11 = .ok (.iload_n 2, 1) := by decide +kernel
theorem dX4_countThere_12 : decode cX4_countThere 12 = .ok (.invokevirtual 23, 3) := by decide +kernel
theorem dX4_countThere_15 : decode cX4_countThere 15 = .ok (.ifCond .ne 6, 3) := by decide +kernel
theorem dX4_countThere_18 : decode cX4_countThere 18 = .ok (.iinc 1 1, 3) := by decide +kernel
theorem dX4_countThere_21 : decode cX4_countThere 21 = .ok (.iinc 2 1, 3) := by decide +kernel
theorem dX4_countThere_24 : decode cX4_countThere 24 = .ok (.goto (-20), 3) := by decide +kernel
theorem dX4_countThere_27 : decode cX4_countThere 27 = .ok (.iload_n 1, 1) := by decide +kernel
theorem dX4_countThere_28 : decode cX4_countThere 28 = .ok (.ireturn, 1) := by decide +kernel
set_option maxRecDepth 20000 in
theorem ggX5_init_X3_init : GoodIn wsX5_init wsX3_init := goodIn_r _ [11, 12, 2, 3, 13, 14, 15, 16, 17, 18, 8, 19, 20, 21, 22, 23, 24, 25, 26, 27, 28, 29, 30, 31, 32, 33, 34, 35, 36] (by decide +kernel) (by decide +kernel)
set_option maxRecDepth 20000 in
theorem gX5_init_X3_init_n11 : GoodIn wsX5_init (wsX3_init) := ggX5_init_X3_init
theorem dX5_init_0 : decode cX5_init 0 = .ok (.aload_n 0, 1) := by decide +kernel
theorem dX5_init_1 : decode cX5_init 1 = .ok (.invokespecial 3, 3) := by decide +kernel
theorem dX5_init_4 : decode cX5_init 4 = .ok (.aload_n 0, 1) := by decide +kernel
theorem dX5_init_5 : decode cX5_init 5 = .ok (.new 9, 3) := by decide +kernel
theorem dX5_init_8 : decode cX5_init 8 = .ok (.dup, 1) := by decide +kernel
theorem dX5_init_9 : decode cX5_init 9 = .ok (.invokespecial 11, 3) := by decide +kernel
theorem dX5_init_12 : decode cX5_init 12 = .ok (.putfield 12, 3) := by decide +kernel
theorem dX5_init_15 : decode cX5_init 15 = .ok (.aload_n 0, 1) := by decide +kernel
theorem dX5_init_16 : decode cX5_init 16 = .ok (.bipush 16, 2) := by decide +kernel
theorem dX5_init_18 : decode cX5_init 18 = .ok (.newarray .int, 2) := by decide +kernel
theorem dX5_init_20 : decode cX5_init 20 = .ok (.putfield 18, 3) := by decide +kernel
theorem dX5_init_23 : decode cX5_init 23 = .ok (.return_, 1) := by decide +kernel
set_option maxRecDepth 20000 in
theorem ggX5_behind_X3_become : GoodIn wsX5_behind wsX3_become := goodIn_r _ [6, 7, 8, 9, 10, 11, 12, 13, 14, 15, 16, 17, 50, 51, 52, 53, 54, 55, 56, 57, 58, 59, 60, 61] (by decide +kernel) (by decide +kernel)
set_option maxRecDepth 20000 in
theorem gX5_behind_X3_become : GoodIn wsX5_behind (wsV RX5 22 RX3 yX3_become wsX3_become) := goodIn_app (goodIn_of _ (by decide +kernel)) ggX5_behind_X3_become
set_option maxRecDepth 20000 in
theorem ggX5_behind_X5_passYears : GoodIn wsX5_behind wsX5_passYears := goodIn_r _ [22, 1, 23, 24, 25, 5, 26, 8, 27, 14, 11, 28, 29, 30, 31, 13, 32, 33, 34, 35, 36, 37, 38, 39, 40, 41, 42, 43, 16, 44, 45, 46, 47, 15, 48, 49, 50, 51, 52, 53, 54, 55, 56, 57, 58, 59, 60, 61] (by decide +kernel) (by decide +kernel)
set_option maxRecDepth 20000 in
theorem gX5_behind_X5_passYears : GoodIn wsX5_behind (wsV RX5 26 RX5 yX5_passYears wsX5_passYears) := goodIn_app (goodIn_of _ (by decide +kernel)) ggX5_behind_X5_passYears
theorem dX5_behind_0 : decode cX5_behind 0 = .ok (.aload_n 0, 1) := by decide +kernel
theorem dX5_behind_1 : decode cX5_behind 1 = .ok (.getfield 12, 3) := by decide +kernel
theorem dX5_behind_4 : decode cX5_behind 4 = .ok (.aload_n 1, 1) := by decide +kernel
theorem dX5_behind_5 : decode cX5_behind 5 = .ok (.invokevirtual 22, 3) := by decide +kernel
theorem dX5_behind_8 : decode cX5_behind 8 = .ok (.aload_n 0, 1) := by decide +kernel
theorem dX5_behind_9 : decode cX5_behind 9 = .ok (.iload_n 2, 1) := by decide +kernel
theorem dX5_behind_10 : decode cX5_behind 10 = .ok (.invokevirtual 26, 3) := by decide +kernel
theorem dX5_behind_13 : decode cX5_behind 13 = .ok (.aload_n 0, 1) := by decide +kernel
theorem dX5_behind_14 : decode cX5_behind 14 = .ok (.getfield 12, 3) := by decide +kernel
theorem dX5_behind_17 : decode cX5_behind 17 = .ok (.areturn, 1) := by decide +kernel
set_option maxRecDepth 20000 in
theorem ggX5_passYears_X3_passYear : GoodIn wsX5_passYears wsX3_passYear := goodIn_r _ [6, 7, 8, 9, 10, 11, 12, 13, 5, 14, 15, 16, 17, 18, 19, 20, 21, 22, 23, 24, 25, 26, 27, 28, 29, 30, 31, 32, 33, 36, 37, 38, 39, 40, 41, 42, 43, 44, 45, 46, 47] (by decide +kernel) (by decide +kernel)
set_option maxRecDepth 20000 in
theorem gX5_passYears_X3_passYear : GoodIn wsX5_passYears (wsV RX5 30 RX3 yX3_passYear wsX3_passYear) := goodIn_app (goodIn_of _ (by decide +kernel)) ggX5_passYears_X3_passYear
theorem dX5_passYears_0 : decode cX5_passYears 0 = .ok (.iconst 0, 1) := by decide +kernel
theorem dX5_passYears_1 : decode cX5_passYears 1 = .ok (.istore_n 2, 1) := by decide +kernel
theorem dX5_passYears_2 : decode cX5_passYears 2 = .ok (.iload_n 2, 1) := by decide +kernel
theorem dX5_passYears_3 : decode cX5_passYears 3 = .ok (.iload_n 1, 1) := by decide +kernel
theorem dX5_passYears_4 : decode cX5_passYears 4 = .ok (.if_icmp .ge 17, 3) := by decide +kernel
theorem dX5_passYears_7 : decode cX5_passYears 7 = .ok (.aload_n 0, 1) := by decide +kernel
theorem dX5_passYears_8 : decode cX5_passYears 8 = .ok (.getfield 12, 3) := by decide +kernel
theorem dX5_passYears_11 : decode cX5_passYears 11 = .ok (.invokevirtual 30, 3) := by decide +kernel
theorem dX5_passYears_14 : decode cX5_passYears 14 = .ok (.pop, 1) := by decide +kernel
theorem dX5_passYears_15 : decode cX5_passYears 15 = .ok (.iinc 2 1, 3) := by decide +kernel
theorem dX5_passYears_18 : decode cX5_passYears 18 = .ok (.goto (-16), 3) := by decide +kernel
theorem dX5_passYears_21 : decode cX5_passYears 21 = .ok (.return_, 1) := by decide +kernel
set_option maxRecDepth 20000 in
theorem ggX5_yearsUntilUp_X3_become : GoodIn wsX5_yearsUntilUp wsX3_become := goodIn_r _ [7, 8, 9, 10, 11, 12, 13, 14, 15, 16, 17, 18, 47, 48, 49, 50, 51, 52, 53, 54, 55, 56, 57, 58] (by decide +kernel) (by decide +kernel)
set_option maxRecDepth 20000 in
theorem gX5_yearsUntilUp_X3_become : GoodIn wsX5_yearsUntilUp (wsV RX5 22 RX3 yX3_become wsX3_become) := goodIn_app (goodIn_of _ (by decide +kernel)) ggX5_yearsUntilUp_X3_become
set_option maxRecDepth 20000 in
theorem ggX5_yearsUntilUp_X3_isUp : GoodIn wsX5_yearsUntilUp wsX3_isUp := goodIn_r _ [22, 15, 47, 48, 49, 50, 51, 52, 53, 54, 55, 56, 57, 58] (by decide +kernel) (by decide +kernel)
set_option maxRecDepth 20000 in
theorem gX5_yearsUntilUp_X3_isUp : GoodIn wsX5_yearsUntilUp (wsV RX5 34 RX3 yX3_isUp wsX3_isUp) := goodIn_app (goodIn_of _ (by decide +kernel)) ggX5_yearsUntilUp_X3_isUp
set_option maxRecDepth 20000 in
theorem ggX5_yearsUntilUp_X3_passYear : GoodIn wsX5_yearsUntilUp wsX3_passYear := goodIn_r _ [26, 9, 27, 15, 12, 28, 29, 30, 6, 31, 14, 32, 33, 34, 35, 36, 20, 21, 22, 37, 38, 39, 40, 17, 41, 42, 43, 44, 16, 47, 48, 49, 50, 51, 52, 53, 54, 55, 56, 57, 58] (by decide +kernel) (by decide +kernel)
set_option maxRecDepth 20000 in
theorem gX5_yearsUntilUp_X3_passYear : GoodIn wsX5_yearsUntilUp (wsV RX5 30 RX3 yX3_passYear wsX3_passYear) := goodIn_app (goodIn_of _ (by decide +kernel)) ggX5_yearsUntilUp_X3_passYear
theorem dX5_yearsUntilUp_0 : decode cX5_yearsUntilUp 0 = .ok (.aload_n 0, 1) := by decide +kernel
theorem dX5_yearsUntilUp_1 : decode cX5_yearsUntilUp 1 = .ok (.getfield 12, 3) := by decide +kernel
theorem dX5_yearsUntilUp_4 : decode cX5_yearsUntilUp 4 = .ok (.aload_n 1, 1) := by decide +kernel
theorem dX5_yearsUntilUp_5 : decode cX5_yearsUntilUp 5 = .ok (.invokevirtual 22, 3) := by decide +kernel
theorem dX5_yearsUntilUp_8 : decode cX5_yearsUntilUp 8 = .ok (.iconst 0, 1) := by decide +kernel
theorem dX5_yearsUntilUp_9 : decode cX5_yearsUntilUp 9 = .ok (.istore_n 3, 1) := by decide +kernel
theorem dX5_yearsUntilUp_10 : decode cX5_yearsUntilUp 10 = .ok (.iload_n 3, 1) := by decide +kernel
theorem dX5_yearsUntilUp_11 : decode cX5_yearsUntilUp 11 = .ok (.bipush 99, 2) := by decide +kernel
theorem dX5_yearsUntilUp_13 : decode cX5_yearsUntilUp 13 = .ok (.if_icmp .gt 30, 3) := by decide +kernel
theorem dX5_yearsUntilUp_16 : decode cX5_yearsUntilUp 16 = .ok (.aload_n 0, 1) := by decide +kernel
theorem dX5_yearsUntilUp_17 : decode cX5_yearsUntilUp 17 = .ok (.getfield 12, 3) := by decide +kernel
theorem dX5_yearsUntilUp_20 : decode cX5_yearsUntilUp 20 = .ok (.iload_n 2, 1) := by decide +kernel
theorem dX5_yearsUntilUp_21 : decode cX5_yearsUntilUp 21 = .ok (.invokevirtual 34, 3) := by decide +kernel
theorem dX5_yearsUntilUp_24 : decode cX5_yearsUntilUp 24 = .ok (.ifCond .eq 5, 3) := by decide +kernel
theorem dX5_yearsUntilUp_27 : decode cX5_yearsUntilUp 27 = .ok (.iload_n 3, 1) := by decide +kernel
theorem dX5_yearsUntilUp_28 : decode cX5_yearsUntilUp 28 = .ok (.ireturn, 1) := by decide +kernel
theorem dX5_yearsUntilUp_29 : decode cX5_yearsUntilUp 29 = .ok (.aload_n 0, 1) := by decide +kernel
theorem dX5_yearsUntilUp_30 : decode cX5_yearsUntilUp 30 = .ok (.getfield 12, 3) := by decide +kernel
theorem dX5_yearsUntilUp_33 : decode cX5_yearsUntilUp 33 = .ok (.invokevirtual 30, 3) := by decide +kernel
theorem dX5_yearsUntilUp_36 : decode cX5_yearsUntilUp 36 = .ok (.pop, 1) := by decide +kernel
theorem dX5_yearsUntilUp_37 : decode cX5_yearsUntilUp 37 = .ok (.iinc 3 1, 3) := by decide +kernel
theorem dX5_yearsUntilUp_40 : decode cX5_yearsUntilUp 40 = .ok (.goto (-30), 3) := by decide +kernel
theorem dX5_yearsUntilUp_43 : decode cX5_yearsUntilUp 43 = .ok (.ldc 38, 2) := by decide +kernel
theorem dX5_yearsUntilUp_45 : decode cX5_yearsUntilUp 45 = .ok (.ireturn, 1) := by decide +kernel
set_option maxRecDepth 20000 in
theorem ggX5_firstUp_X3_allUp : GoodIn wsX5_firstUp wsX3_allUp := goodIn_r _ [7, 8, 9, 10, 11, 6, 12, 13, 54, 55, 56, 57, 58, 59, 60, 61, 62, 63, 64, 65] (by decide +kernel) (by decide +kernel)
set_option maxRecDepth 20000 in
theorem gX5_firstUp_X3_allUp : GoodIn wsX5_firstUp (wsV RX5 39 RX3 yX3_allUp wsX3_allUp) := goodIn_app (goodIn_of _ (by decide +kernel)) ggX5_firstUp_X3_allUp
set_option maxRecDepth 20000 in
theorem ggX5_firstUp_X3_become : GoodIn wsX5_firstUp wsX3_become := goodIn_r _ [17, 18, 8, 19, 20, 21, 22, 23, 13, 24, 25, 26, 54, 55, 56, 57, 58, 59, 60, 61, 62, 63, 64, 65] (by decide +kernel) (by decide +kernel)
set_option maxRecDepth 20000 in
theorem gX5_firstUp_X3_become : GoodIn wsX5_firstUp (wsV RX5 22 RX3 yX3_become wsX3_become) := goodIn_app (goodIn_of _ (by decide +kernel)) ggX5_firstUp_X3_become
set_option maxRecDepth 20000 in
theorem ggX5_firstUp_X3_passYear : GoodIn wsX5_firstUp wsX3_passYear := goodIn_r _ [30, 8, 31, 13, 21, 32, 33, 34, 6, 35, 23, 36, 37, 38, 39, 9, 10, 11, 12, 40, 41, 42, 43, 25, 44, 45, 46, 47, 24, 54, 55, 56, 57, 58, 59, 60, 61, 62, 63, 64, 65] (by decide +kernel) (by decide +kernel)
set_option maxRecDepth 20000 in
theorem gX5_firstUp_X3_passYear : GoodIn wsX5_firstUp (wsV RX5 30 RX3 yX3_passYear wsX3_passYear) := goodIn_app (goodIn_of _ (by decide +kernel)) ggX5_firstUp_X3_passYear
set_option maxRecDepth 20000 in
theorem ggX5_firstUp_X7_leastOf : GoodIn wsX5_firstUp wsX7_leastOf := goodIn_r _ [50, 51] (by decide +kernel) (by decide +kernel)
set_option maxRecDepth 20000 in
theorem gX5_firstUp_X7_leastOf_n43 : GoodIn wsX5_firstUp (wsX7_leastOf) := ggX5_firstUp_X7_leastOf
theorem dX5_firstUp_0 : decode cX5_firstUp 0 = .ok (.aload_n 1, 1) := by decide +kernel
theorem dX5_firstUp_1 : decode cX5_firstUp 1 = .ok (.invokevirtual 39, 3) := by decide +kernel
theorem dX5_firstUp_4 : decode cX5_firstUp 4 = .ok (.istore_n 3, 1) := by decide +kernel
theorem dX5_firstUp_5 : decode cX5_firstUp 5 = .ok (.aload_n 0, 1) := by decide +kernel
theorem dX5_firstUp_6 : decode cX5_firstUp 6 = .ok (.getfield 12, 3) := by decide +kernel
theorem dX5_firstUp_9 : decode cX5_firstUp 9 = .ok (.aload_n 1, 1) := by decide +kernel
theorem dX5_firstUp_10 : decode cX5_firstUp 10 = .ok (.invokevirtual 22, 3) := by decide +kernel
theorem dX5_firstUp_13 : decode cX5_firstUp 13 = .ok (.iconst 1, 1) := by decide +kernel
theorem dX5_firstUp_14 : decode cX5_firstUp 14 = .ok (.istore 4, 2) := by decide +kernel
theorem dX5_firstUp_16 : decode cX5_firstUp 16 = .ok (.iload 4, 2) := by decide +kernel
theorem dX5_firstUp_18 : decode cX5_firstUp 18 = .ok (.bipush 99, 2) := by decide +kernel
theorem dX5_firstUp_20 : decode cX5_firstUp 20 = .ok (.if_icmp .gt 50, 3) := by decide +kernel
theorem dX5_firstUp_23 : decode cX5_firstUp 23 = .ok (.aload_n 0, 1) := by decide +kernel
theorem dX5_firstUp_24 : decode cX5_firstUp 24 = .ok (.getfield 12, 3) := by decide +kernel
theorem dX5_firstUp_27 : decode cX5_firstUp 27 = .ok (.invokevirtual 30, 3) := by decide +kernel
theorem dX5_firstUp_30 : decode cX5_firstUp 30 = .ok (.pop, 1) := by decide +kernel
theorem dX5_firstUp_31 : decode cX5_firstUp 31 = .ok (.aload_n 0, 1) := by decide +kernel
theorem dX5_firstUp_32 : decode cX5_firstUp 32 = .ok (.getfield 12, 3) := by decide +kernel
theorem dX5_firstUp_35 : decode cX5_firstUp 35 = .ok (.invokevirtual 39, 3) := by decide +kernel
theorem dX5_firstUp_38 : decode cX5_firstUp 38 = .ok (.iload_n 3, 1) := by decide +kernel
theorem dX5_firstUp_39 : decode cX5_firstUp 39 = .ok (.iconst (-1), 1) := by decide +kernel
theorem dX5_firstUp_40 : decode cX5_firstUp 40 = .ok (.ixor, 1) := by decide +kernel
theorem dX5_firstUp_41 : decode cX5_firstUp 41 = .ok (.iand, 1) := by decide +kernel
theorem dX5_firstUp_42 : decode cX5_firstUp 42 = .ok (.istore 5, 2) := by decide +kernel
theorem dX5_firstUp_44 : decode cX5_firstUp 44 = .ok (.iload 5, 2) := by decide +kernel
theorem dX5_firstUp_46 : decode cX5_firstUp 46 = .ok (.ifCond .eq 18, 3) := by decide +kernel
theorem dX5_firstUp_49 : decode cX5_firstUp 49 = .ok (.iload_n 2, 1) := by decide +kernel
theorem dX5_firstUp_50 : decode cX5_firstUp 50 = .ok (.ifCond .eq 11, 3) := by decide +kernel
theorem dX5_firstUp_53 : decode cX5_firstUp 53 = .ok (.iload 5, 2) := by decide +kernel
theorem dX5_firstUp_55 : decode cX5_firstUp 55 = .ok (.invokestatic 43, 3) := by decide +kernel
theorem dX5_firstUp_58 : decode cX5_firstUp 58 = .ok (.goto 5, 3) := by decide +kernel
theorem dX5_firstUp_61 : decode cX5_firstUp 61 = .ok (.iload 4, 2) := by decide +kernel
theorem dX5_firstUp_63 : decode cX5_firstUp 63 = .ok (.ireturn, 1) := by decide +kernel
theorem dX5_firstUp_64 : decode cX5_firstUp 64 = .ok (.iinc 4 1, 3) := by decide +kernel
theorem dX5_firstUp_67 : decode cX5_firstUp 67 = .ok (.goto (-51), 3) := by decide +kernel
theorem dX5_firstUp_70 : decode cX5_firstUp 70 = .ok (.ldc 38, 2) := by decide +kernel
theorem dX5_firstUp_72 : decode cX5_firstUp 72 = .ok (.ireturn, 1) := by decide +kernel
set_option maxRecDepth 20000 in
theorem ggX5_firstTrouble_X3_become : GoodIn wsX5_firstTrouble wsX3_become := goodIn_r _ [7, 8, 9, 10, 11, 12, 13, 14, 15, 16, 17, 18, 58, 59, 60, 61, 62, 63, 64, 65, 66, 67, 68, 69] (by decide +kernel) (by decide +kernel)
set_option maxRecDepth 20000 in
theorem gX5_firstTrouble_X3_become : GoodIn wsX5_firstTrouble (wsV RX5 22 RX3 yX3_become wsX3_become) := goodIn_app (goodIn_of _ (by decide +kernel)) ggX5_firstTrouble_X3_become
set_option maxRecDepth 20000 in
theorem ggX5_firstTrouble_X3_firstTooNear : GoodIn wsX5_firstTrouble wsX3_firstTooNear := goodIn_r _ [22, 9, 23, 24, 25, 26, 6, 27, 16, 28, 29, 30, 31, 15, 11, 32, 33, 34, 35, 58, 59, 60, 61, 62, 63, 64, 65, 66, 67, 68, 69] (by decide +kernel) (by decide +kernel)
set_option maxRecDepth 20000 in
theorem gX5_firstTrouble_X3_firstTooNear : GoodIn wsX5_firstTrouble (wsV RX5 47 RX3 yX3_firstTooNear wsX3_firstTooNear) := goodIn_app (goodIn_of _ (by decide +kernel)) ggX5_firstTrouble_X3_firstTooNear
set_option maxRecDepth 20000 in
theorem ggX5_firstTrouble_X3_passYear : GoodIn wsX5_firstTrouble wsX3_passYear := goodIn_r _ [39, 9, 40, 15, 12, 41, 42, 43, 6, 44, 14, 45, 46, 30, 47, 32, 33, 34, 35, 48, 49, 50, 51, 17, 52, 53, 54, 55, 16, 58, 59, 60, 61, 62, 63, 64, 65, 66, 67, 68, 69] (by decide +kernel) (by decide +kernel)
set_option maxRecDepth 20000 in
theorem gX5_firstTrouble_X3_passYear : GoodIn wsX5_firstTrouble (wsV RX5 30 RX3 yX3_passYear wsX3_passYear) := goodIn_app (goodIn_of _ (by decide +kernel)) ggX5_firstTrouble_X3_passYear
theorem dX5_firstTrouble_0 : decode cX5_firstTrouble 0 = .ok (.aload_n 0, 1) := by decide +kernel
theorem dX5_firstTrouble_1 : decode cX5_firstTrouble 1 = .ok (.getfield 12, 3) := by decide +kernel
theorem dX5_firstTrouble_4 : decode cX5_firstTrouble 4 = .ok (.aload_n 1, 1) := by decide +kernel
theorem dX5_firstTrouble_5 : decode cX5_firstTrouble 5 = .ok (.invokevirtual 22, 3) := by decide +kernel
theorem dX5_firstTrouble_8 : decode cX5_firstTrouble 8 = .ok (.iconst 0, 1) := by decide +kernel
theorem dX5_firstTrouble_9 : decode cX5_firstTrouble 9 = .ok (.istore_n 3, 1) := by decide +kernel
theorem dX5_firstTrouble_10 : decode cX5_firstTrouble 10 = .ok (.iload_n 3, 1) := by decide +kernel
theorem dX5_firstTrouble_11 : decode cX5_firstTrouble 11 = .ok (.bipush 99, 2) := by decide +kernel
theorem dX5_firstTrouble_13 : decode cX5_firstTrouble 13 = .ok (.if_icmp .gt 44, 3) := by decide +kernel
theorem dX5_firstTrouble_16 : decode cX5_firstTrouble 16 = .ok (.aload_n 0, 1) := by decide +kernel
theorem dX5_firstTrouble_17 : decode cX5_firstTrouble 17 = .ok (.getfield 12, 3) := by decide +kernel
theorem dX5_firstTrouble_20 : decode cX5_firstTrouble 20 = .ok (.invokevirtual 47, 3) := by decide +kernel
theorem dX5_firstTrouble_23 : decode cX5_firstTrouble 23 = .ok (.istore 4, 2) := by decide +kernel
theorem dX5_firstTrouble_25 : decode cX5_firstTrouble 25 = .ok (.iload 4, 2) := by decide +kernel
theorem dX5_firstTrouble_27 : decode cX5_firstTrouble 27 = .ok (.ldc 38, 2) := by decide +kernel
theorem dX5_firstTrouble_29 : decode cX5_firstTrouble 29 = .ok (.if_icmp .eq 14, 3) := by decide +kernel
theorem dX5_firstTrouble_32 : decode cX5_firstTrouble 32 = .ok (.iload_n 2, 1) := by decide +kernel
theorem dX5_firstTrouble_33 : decode cX5_firstTrouble 33 = .ok (.ifCond .eq 7, 3) := by decide +kernel
theorem dX5_firstTrouble_36 : decode cX5_firstTrouble 36 = .ok (.iload_n 3, 1) := by decide +kernel
theorem dX5_firstTrouble_37 : decode cX5_firstTrouble 37 = .ok (.goto 5, 3) := by decide +kernel
theorem dX5_firstTrouble_40 : decode cX5_firstTrouble 40 = .ok (.iload 4, 2) := by decide +kernel
theorem dX5_firstTrouble_42 : decode cX5_firstTrouble 42 = .ok (.ireturn, 1) := by decide +kernel
theorem dX5_firstTrouble_43 : decode cX5_firstTrouble 43 = .ok (.aload_n 0, 1) := by decide +kernel
theorem dX5_firstTrouble_44 : decode cX5_firstTrouble 44 = .ok (.getfield 12, 3) := by decide +kernel
theorem dX5_firstTrouble_47 : decode cX5_firstTrouble 47 = .ok (.invokevirtual 30, 3) := by decide +kernel
theorem dX5_firstTrouble_50 : decode cX5_firstTrouble 50 = .ok (.pop, 1) := by decide +kernel
theorem dX5_firstTrouble_51 : decode cX5_firstTrouble 51 = .ok (.iinc 3 1, 3) := by decide +kernel
theorem dX5_firstTrouble_54 : decode cX5_firstTrouble 54 = .ok (.goto (-44), 3) := by decide +kernel
theorem dX5_firstTrouble_57 : decode cX5_firstTrouble 57 = .ok (.ldc 38, 2) := by decide +kernel
theorem dX5_firstTrouble_59 : decode cX5_firstTrouble 59 = .ok (.ireturn, 1) := by decide +kernel
set_option maxRecDepth 20000 in
theorem ggX5_leastDepth_X3_become : GoodIn wsX5_leastDepth wsX3_become := goodIn_r _ [8, 9, 10, 11, 12, 13, 14, 15, 16, 17, 18, 19, 53, 54, 55, 56, 57, 58, 59, 60, 61, 62, 63, 64] (by decide +kernel) (by decide +kernel)
set_option maxRecDepth 20000 in
theorem gX5_leastDepth_X3_become : GoodIn wsX5_leastDepth (wsV RX5 22 RX3 yX3_become wsX3_become) := goodIn_app (goodIn_of _ (by decide +kernel)) ggX5_leastDepth_X3_become
set_option maxRecDepth 20000 in
theorem ggX5_leastDepth_X5_passYears : GoodIn wsX5_leastDepth wsX5_passYears := goodIn_r _ [24, 1, 25, 26, 27, 7, 28, 10, 29, 16, 13, 30, 31, 32, 33, 15, 34, 35, 36, 37, 38, 39, 40, 41, 42, 43, 44, 45, 18, 46, 47, 48, 49, 17, 51, 52, 53, 54, 55, 56, 57, 58, 59, 60, 61, 62, 63, 64] (by decide +kernel) (by decide +kernel)
set_option maxRecDepth 20000 in
theorem gX5_leastDepth_X5_passYears : GoodIn wsX5_leastDepth (wsV RX5 26 RX5 yX5_passYears wsX5_passYears) := goodIn_app (goodIn_of _ (by decide +kernel)) ggX5_leastDepth_X5_passYears
set_option maxRecDepth 20000 in
theorem ggX5_leastDepth_X3_isUp : GoodIn wsX5_leastDepth wsX3_isUp := goodIn_r _ [41, 16, 53, 54, 55, 56, 57, 58, 59, 60, 61, 62, 63, 64] (by decide +kernel) (by decide +kernel)
set_option maxRecDepth 20000 in
theorem gX5_leastDepth_X3_isUp : GoodIn wsX5_leastDepth (wsV RX5 34 RX3 yX3_isUp wsX3_isUp) := goodIn_app (goodIn_of _ (by decide +kernel)) ggX5_leastDepth_X3_isUp
theorem dX5_leastDepth_0 : decode cX5_leastDepth 0 = .ok (.iconst 1, 1) := by decide +kernel
theorem dX5_leastDepth_1 : decode cX5_leastDepth 1 = .ok (.istore 4, 2) := by decide +kernel
theorem dX5_leastDepth_3 : decode cX5_leastDepth 3 = .ok (.iload 4, 2) := by decide +kernel
theorem dX5_leastDepth_5 : decode cX5_leastDepth 5 = .ok (.bipush 40, 2) := by decide +kernel
theorem dX5_leastDepth_7 : decode cX5_leastDepth 7 = .ok (.if_icmp .gt 47, 3) := by decide +kernel
theorem dX5_leastDepth_10 : decode cX5_leastDepth 10 = .ok (.aload_n 0, 1) := by decide +kernel
theorem dX5_leastDepth_11 : decode cX5_leastDepth 11 = .ok (.getfield 12, 3) := by decide +kernel
theorem dX5_leastDepth_14 : decode cX5_leastDepth 14 = .ok (.aload_n 1, 1) := by decide +kernel
theorem dX5_leastDepth_15 : decode cX5_leastDepth 15 = .ok (.invokevirtual 22, 3) := by decide +kernel
theorem dX5_leastDepth_18 : decode cX5_leastDepth 18 = .ok (.aload_n 0, 1) := by decide +kernel
theorem dX5_leastDepth_19 : decode cX5_leastDepth 19 = .ok (.getfield 12, 3) := by decide +kernel
theorem dX5_leastDepth_22 : decode cX5_leastDepth 22 = .ok (.getfield 50, 3) := by decide +kernel
theorem dX5_leastDepth_25 : decode cX5_leastDepth 25 = .ok (.iload_n 2, 1) := by decide +kernel
theorem dX5_leastDepth_26 : decode cX5_leastDepth 26 = .ok (.iload 4, 2) := by decide +kernel
theorem dX5_leastDepth_28 : decode cX5_leastDepth 28 = .ok (.iastore, 1) := by decide +kernel
theorem dX5_leastDepth_29 : decode cX5_leastDepth 29 = .ok (.aload_n 0, 1) := by decide +kernel
theorem dX5_leastDepth_30 : decode cX5_leastDepth 30 = .ok (.iload_n 3, 1) := by decide +kernel
theorem dX5_leastDepth_31 : decode cX5_leastDepth 31 = .ok (.invokevirtual 26, 3) := by decide +kernel
theorem dX5_leastDepth_34 : decode cX5_leastDepth 34 = .ok (.aload_n 0, 1) := by decide +kernel
theorem dX5_leastDepth_35 : decode cX5_leastDepth 35 = .ok (.getfield 12, 3) := by decide +kernel
theorem dX5_leastDepth_38 : decode cX5_leastDepth 38 = .ok (.iload_n 2, 1) := by decide +kernel
theorem dX5_leastDepth_39 : decode cX5_leastDepth 39 = .ok (.invokevirtual 34, 3) := by decide +kernel
theorem dX5_leastDepth_42 : decode cX5_leastDepth 42 = .ok (.ifCond .ne 6, 3) := by decide +kernel
theorem dX5_leastDepth_45 : decode cX5_leastDepth 45 = .ok (.iload 4, 2) := by decide +kernel
theorem dX5_leastDepth_47 : decode cX5_leastDepth 47 = .ok (.ireturn, 1) := by decide +kernel
theorem dX5_leastDepth_48 : decode cX5_leastDepth 48 = .ok (.iinc 4 1, 3) := by decide +kernel
theorem dX5_leastDepth_51 : decode cX5_leastDepth 51 = .ok (.goto (-48), 3) := by decide +kernel
theorem dX5_leastDepth_54 : decode cX5_leastDepth 54 = .ok (.ldc 38, 2) := by decide +kernel
theorem dX5_leastDepth_56 : decode cX5_leastDepth 56 = .ok (.ireturn, 1) := by decide +kernel
set_option maxRecDepth 20000 in
theorem ggX5_thatFit_X3_become : GoodIn wsX5_thatFit wsX3_become := goodIn_r _ [9, 10, 11, 12, 13, 14, 15, 16, 17, 18, 19, 20, 66, 67, 68, 69, 70, 71, 72, 73, 74, 75, 76, 77] (by decide +kernel) (by decide +kernel)
set_option maxRecDepth 20000 in
theorem gX5_thatFit_X3_become : GoodIn wsX5_thatFit (wsV RX5 22 RX3 yX3_become wsX3_become) := goodIn_app (goodIn_of _ (by decide +kernel)) ggX5_thatFit_X3_become
set_option maxRecDepth 20000 in
theorem ggX5_thatFit_X5_goesAsTold : GoodIn wsX5_thatFit wsX5_goesAsTold := goodIn_r _ [25, 1, 26, 27, 28, 29, 30, 8, 31, 11, 32, 17, 14, 33, 34, 35, 36, 16, 37, 38, 39, 40, 41, 42, 43, 44, 45, 46, 47, 48, 19, 49, 50, 51, 52, 18, 53, 54, 55, 56, 57, 58, 59, 60, 61, 62, 63, 13, 64, 65, 66, 67, 68, 69, 70, 71, 72, 73, 74, 75, 76, 77] (by decide +kernel) (by decide +kernel)
set_option maxRecDepth 20000 in
theorem gX5_thatFit_X5_goesAsTold : GoodIn wsX5_thatFit (wsV RX5 62 RX5 yX5_goesAsTold wsX5_goesAsTold) := goodIn_app (goodIn_of _ (by decide +kernel)) ggX5_thatFit_X5_goesAsTold
theorem dX5_thatFit_0 : decode cX5_thatFit 0 = .ok (.iload 4, 2) := by decide +kernel
theorem dX5_thatFit_2 : decode cX5_thatFit 2 = .ok (.iconst 2, 1) := by decide +kernel
theorem dX5_thatFit_3 : decode cX5_thatFit 3 = .ok (.if_icmp .ne 7, 3) := by decide +kernel
theorem dX5_thatFit_6 : decode cX5_thatFit 6 = .ok (.iconst 0, 1) := by decide +kernel
theorem dX5_thatFit_7 : decode cX5_thatFit 7 = .ok (.goto 4, 3) := by decide +kernel
theorem dX5_thatFit_10 : decode cX5_thatFit 10 = .ok (.iconst 1, 1) := by decide +kernel
theorem dX5_thatFit_11 : decode cX5_thatFit 11 = .ok (.istore 5, 2) := by decide +kernel
theorem dX5_thatFit_13 : decode cX5_thatFit 13 = .ok (.iload 4, 2) := by decide +kernel
theorem dX5_thatFit_15 : decode cX5_thatFit 15 = .ok (.ifCond .ne 7, 3) := by decide +kernel
theorem dX5_thatFit_18 : decode cX5_thatFit 18 = .ok (.iconst 5, 1) := by decide +kernel
theorem dX5_thatFit_19 : decode cX5_thatFit 19 = .ok (.goto 15, 3) := by decide +kernel
theorem dX5_thatFit_22 : decode cX5_thatFit 22 = .ok (.iload 4, 2) := by decide +kernel
theorem dX5_thatFit_24 : decode cX5_thatFit 24 = .ok (.iconst 1, 1) := by decide +kernel
theorem dX5_thatFit_25 : decode cX5_thatFit 25 = .ok (.if_icmp .ne 8, 3) := by decide +kernel
theorem dX5_thatFit_28 : decode cX5_thatFit 28 = .ok (.bipush 9, 2) := by decide +kernel
theorem dX5_thatFit_30 : decode cX5_thatFit 30 = .ok (.goto 4, 3) := by decide +kernel
theorem dX5_thatFit_33 : decode cX5_thatFit 33 = .ok (.iconst 3, 1) := by decide +kernel
theorem dX5_thatFit_34 : decode cX5_thatFit 34 = .ok (.istore 6, 2) := by decide +kernel
theorem dX5_thatFit_36 : decode cX5_thatFit 36 = .ok (.iconst 0, 1) := by decide +kernel
theorem dX5_thatFit_37 : decode cX5_thatFit 37 = .ok (.istore 7, 2) := by decide +kernel
theorem dX5_thatFit_39 : decode cX5_thatFit 39 = .ok (.iload 5, 2) := by decide +kernel
theorem dX5_thatFit_41 : decode cX5_thatFit 41 = .ok (.istore 8, 2) := by decide +kernel
theorem dX5_thatFit_43 : decode cX5_thatFit 43 = .ok (.iload 8, 2) := by decide +kernel
theorem dX5_thatFit_45 : decode cX5_thatFit 45 = .ok (.iload 6, 2) := by decide +kernel
theorem dX5_thatFit_47 : decode cX5_thatFit 47 = .ok (.if_icmp .gt 87, 3) := by decide +kernel
theorem dX5_thatFit_50 : decode cX5_thatFit 50 = .ok (.aload_n 0, 1) := by decide +kernel
theorem dX5_thatFit_51 : decode cX5_thatFit 51 = .ok (.getfield 12, 3) := by decide +kernel
theorem dX5_thatFit_54 : decode cX5_thatFit 54 = .ok (.aload_n 1, 1) := by decide +kernel
theorem dX5_thatFit_55 : decode cX5_thatFit 55 = .ok (.invokevirtual 22, 3) := by decide +kernel
theorem dX5_thatFit_58 : decode cX5_thatFit 58 = .ok (.iload 4, 2) := by decide +kernel
theorem dX5_thatFit_60 : decode cX5_thatFit 60 = .ok (.ifCond .ne 17, 3) := by decide +kernel
theorem dX5_thatFit_63 : decode cX5_thatFit 63 = .ok (.aload_n 0, 1) := by decide +kernel
theorem dX5_thatFit_64 : decode cX5_thatFit 64 = .ok (.getfield 12, 3) := by decide +kernel
theorem dX5_thatFit_67 : decode cX5_thatFit 67 = .ok (.getfield 53, 3) := by decide +kernel
theorem dX5_thatFit_70 : decode cX5_thatFit 70 = .ok (.iload_n 2, 1) := by decide +kernel
theorem dX5_thatFit_71 : decode cX5_thatFit 71 = .ok (.iload 8, 2) := by decide +kernel
theorem dX5_thatFit_73 : decode cX5_thatFit 73 = .ok (.iastore, 1) := by decide +kernel
theorem dX5_thatFit_74 : decode cX5_thatFit 74 = .ok (.goto 34, 3) := by decide +kernel
theorem dX5_thatFit_77 : decode cX5_thatFit 77 = .ok (.iload 4, 2) := by decide +kernel
theorem dX5_thatFit_79 : decode cX5_thatFit 79 = .ok (.iconst 1, 1) := by decide +kernel
theorem dX5_thatFit_80 : decode cX5_thatFit 80 = .ok (.if_icmp .ne 17, 3) := by decide +kernel
theorem dX5_thatFit_83 : decode cX5_thatFit 83 = .ok (.aload_n 0, 1) := by decide +kernel
theorem dX5_thatFit_84 : decode cX5_thatFit 84 = .ok (.getfield 12, 3) := by decide +kernel
theorem dX5_thatFit_87 : decode cX5_thatFit 87 = .ok (.getfield 56, 3) := by decide +kernel
theorem dX5_thatFit_90 : decode cX5_thatFit 90 = .ok (.iload_n 2, 1) := by decide +kernel
theorem dX5_thatFit_91 : decode cX5_thatFit 91 = .ok (.iload 8, 2) := by decide +kernel
theorem dX5_thatFit_93 : decode cX5_thatFit 93 = .ok (.iastore, 1) := by decide +kernel
theorem dX5_thatFit_94 : decode cX5_thatFit 94 = .ok (.goto 14, 3) := by decide +kernel
theorem dX5_thatFit_97 : decode cX5_thatFit 97 = .ok (.aload_n 0, 1) := by decide +kernel
theorem dX5_thatFit_98 : decode cX5_thatFit 98 = .ok (.getfield 12, 3) := by decide +kernel
theorem dX5_thatFit_101 : decode cX5_thatFit 101 = .ok (.getfield 59, 3) := by decide +kernel
theorem dX5_thatFit_104 : decode cX5_thatFit 104 = .ok (.iload_n 2, 1) := by decide +kernel
theorem dX5_thatFit_105 : decode cX5_thatFit 105 = .ok (.iload 8, 2) := by decide +kernel
theorem dX5_thatFit_107 : decode cX5_thatFit 107 = .ok (.iastore, 1) := by decide +kernel
theorem dX5_thatFit_108 : decode cX5_thatFit 108 = .ok (.aload_n 0, 1) := by decide +kernel
theorem dX5_thatFit_109 : decode cX5_thatFit 109 = .ok (.iload_n 2, 1) := by decide +kernel
theorem dX5_thatFit_110 : decode cX5_thatFit 110 = .ok (.iload_n 3, 1) := by decide +kernel
theorem dX5_thatFit_111 : decode cX5_thatFit 111 = .ok (.iload 4, 2) := by decide +kernel
theorem dX5_thatFit_113 : decode cX5_thatFit 113 = .ok (.invokevirtual 62, 3) := by decide +kernel
theorem dX5_thatFit_116 : decode cX5_thatFit 116 = .ok (.ifCond .eq 12, 3) := by decide +kernel
theorem dX5_thatFit_119 : decode cX5_thatFit 119 = .ok (.iload 7, 2) := by decide +kernel
theorem dX5_thatFit_121 : decode cX5_thatFit 121 = .ok (.iconst 1, 1) := by decide +kernel
theorem dX5_thatFit_122 : decode cX5_thatFit 122 = .ok (.iload 8, 2) := by decide +kernel
theorem dX5_thatFit_124 : decode cX5_thatFit 124 = .ok (.ishl, 1) := by decide +kernel
theorem dX5_thatFit_125 : decode cX5_thatFit 125 = .ok (.ior, 1) := by decide +kernel
theorem dX5_thatFit_126 : decode cX5_thatFit 126 = .ok (.istore 7, 2) := by decide +kernel
theorem dX5_thatFit_128 : decode cX5_thatFit 128 = .ok (.iinc 8 1, 3) := by decide +kernel
theorem dX5_thatFit_131 : decode cX5_thatFit 131 = .ok (.goto (-88), 3) := by decide +kernel
theorem dX5_thatFit_134 : decode cX5_thatFit 134 = .ok (.iload 7, 2) := by decide +kernel
theorem dX5_thatFit_136 : decode cX5_thatFit 136 = .ok (.ireturn, 1) := by decide +kernel
set_option maxRecDepth 20000 in
theorem ggX5_goesAsTold_X3_passYear : GoodIn wsX5_goesAsTold wsX3_passYear := goodIn_r _ [8, 9, 10, 11, 12, 13, 14, 15, 7, 16, 17, 18, 19, 20, 21, 22, 23, 24, 25, 26, 27, 28, 29, 30, 31, 32, 33, 34, 35, 50, 51, 52, 53, 54, 55, 56, 57, 58, 59, 60, 61] (by decide +kernel) (by decide +kernel)
set_option maxRecDepth 20000 in
theorem gX5_goesAsTold_X3_passYear : GoodIn wsX5_goesAsTold (wsV RX5 30 RX3 yX3_passYear wsX3_passYear) := goodIn_app (goodIn_of _ (by decide +kernel)) ggX5_goesAsTold_X3_passYear
set_option maxRecDepth 20000 in
theorem ggX5_goesAsTold_X3_nearTo : GoodIn wsX5_goesAsTold wsX3_nearTo := goodIn_r _ [39, 9, 40, 41, 42, 7, 43, 35, 44, 45, 20, 46, 11, 47, 22, 23, 24, 25, 50, 51, 52, 53, 54, 55, 56, 57, 58, 59, 60, 61] (by decide +kernel) (by decide +kernel)
set_option maxRecDepth 20000 in
theorem gX5_goesAsTold_X3_nearTo : GoodIn wsX5_goesAsTold (wsV RX5 66 RX3 yX3_nearTo wsX3_nearTo) := goodIn_app (goodIn_of _ (by decide +kernel)) ggX5_goesAsTold_X3_nearTo
theorem dX5_goesAsTold_0 : decode cX5_goesAsTold 0 = .ok (.iconst 0, 1) := by decide +kernel
theorem dX5_goesAsTold_1 : decode cX5_goesAsTold 1 = .ok (.istore 4, 2) := by decide +kernel
theorem dX5_goesAsTold_3 : decode cX5_goesAsTold 3 = .ok (.iload 4, 2) := by decide +kernel
theorem dX5_goesAsTold_5 : decode cX5_goesAsTold 5 = .ok (.iload_n 2, 1) := by decide +kernel
theorem dX5_goesAsTold_6 : decode cX5_goesAsTold 6 = .ok (.if_icmp .ge 58, 3) := by decide +kernel
theorem dX5_goesAsTold_9 : decode cX5_goesAsTold 9 = .ok (.aload_n 0, 1) := by decide +kernel
theorem dX5_goesAsTold_10 : decode cX5_goesAsTold 10 = .ok (.getfield 12, 3) := by decide +kernel
theorem dX5_goesAsTold_13 : decode cX5_goesAsTold 13 = .ok (.invokevirtual 30, 3) := by decide +kernel
theorem dX5_goesAsTold_16 : decode cX5_goesAsTold 16 = .ok (.pop, 1) := by decide +kernel
theorem dX5_goesAsTold_17 : decode cX5_goesAsTold 17 = .ok (.iload_n 3, 1) := by decide +kernel
theorem dX5_goesAsTold_18 : decode cX5_goesAsTold 18 = .ok (.iconst 2, 1) := by decide +kernel
theorem dX5_goesAsTold_19 : decode cX5_goesAsTold 19 = .ok (.if_icmp .ne 14, 3) := by decide +kernel
theorem dX5_goesAsTold_22 : decode cX5_goesAsTold 22 = .ok (.aload_n 0, 1) := by decide +kernel
theorem dX5_goesAsTold_23 : decode cX5_goesAsTold 23 = .ok (.getfield 12, 3) := by decide +kernel
theorem dX5_goesAsTold_26 : decode cX5_goesAsTold 26 = .ok (.iload_n 1, 1) := by decide +kernel
theorem dX5_goesAsTold_27 : decode cX5_goesAsTold 27 = .ok (.invokevirtual 66, 3) := by decide +kernel
theorem dX5_goesAsTold_30 : decode cX5_goesAsTold 30 = .ok (.goto 12, 3) := by decide +kernel
theorem dX5_goesAsTold_33 : decode cX5_goesAsTold 33 = .ok (.aload_n 0, 1) := by decide +kernel
theorem dX5_goesAsTold_34 : decode cX5_goesAsTold 34 = .ok (.getfield 12, 3) := by decide +kernel
theorem dX5_goesAsTold_37 : decode cX5_goesAsTold 37 = .ok (.getfield 50, 3) := by decide +kernel
theorem dX5_goesAsTold_40 : decode cX5_goesAsTold 40 = .ok (.iload_n 1, 1) := by decide +kernel
theorem dX5_goesAsTold_41 : decode cX5_goesAsTold 41 = .ok (.iaload, 1) := by decide +kernel
theorem dX5_goesAsTold_42 : decode cX5_goesAsTold 42 = .ok (.istore 5, 2) := by decide +kernel
theorem dX5_goesAsTold_44 : decode cX5_goesAsTold 44 = .ok (.iload 5, 2) := by decide +kernel
theorem dX5_goesAsTold_46 : decode cX5_goesAsTold 46 = .ok (.aload_n 0, 1) := by decide +kernel
theorem dX5_goesAsTold_47 : decode cX5_goesAsTold 47 = .ok (.getfield 18, 3) := by decide +kernel
theorem dX5_goesAsTold_50 : decode cX5_goesAsTold 50 = .ok (.iload 4, 2) := by decide +kernel
theorem dX5_goesAsTold_52 : decode cX5_goesAsTold 52 = .ok (.iaload, 1) := by decide +kernel
theorem dX5_goesAsTold_53 : decode cX5_goesAsTold 53 = .ok (.if_icmp .eq 5, 3) := by decide +kernel
theorem dX5_goesAsTold_56 : decode cX5_goesAsTold 56 = .ok (.iconst 0, 1) := by decide +kernel
theorem dX5_goesAsTold_57 : decode cX5_goesAsTold 57 = .ok (.ireturn, 1) := by decide +kernel
theorem dX5_goesAsTold_58 : decode cX5_goesAsTold 58 = .ok (.iinc 4 1, 3) := by decide +kernel
theorem dX5_goesAsTold_61 : decode cX5_goesAsTold 61 = .ok (.goto (-58), 3) := by decide +kernel
theorem dX5_goesAsTold_64 : decode cX5_goesAsTold 64 = .ok (.iconst 1, 1) := by decide +kernel
theorem dX5_goesAsTold_65 : decode cX5_goesAsTold 65 = .ok (.ireturn, 1) := by decide +kernel
set_option maxRecDepth 20000 in
theorem ggX5_weightOfAll_X3_isUp : GoodIn wsX5_weightOfAll wsX3_isUp := goodIn_r _ [6, 7, 8, 9, 10, 11, 12, 13, 14, 15, 16, 17, 18, 19] (by decide +kernel) (by decide +kernel)
set_option maxRecDepth 20000 in
theorem gX5_weightOfAll_X3_isUp : GoodIn wsX5_weightOfAll (wsV RX5 34 RX3 yX3_isUp wsX3_isUp) := goodIn_app (goodIn_of _ (by decide +kernel)) ggX5_weightOfAll_X3_isUp
theorem dX5_weightOfAll_0 : decode cX5_weightOfAll 0 = .ok (.iconst 1, 1) := by decide +kernel
theorem dX5_weightOfAll_1 : decode cX5_weightOfAll 1 = .ok (.istore_n 2, 1) := by decide +kernel
theorem dX5_weightOfAll_2 : decode cX5_weightOfAll 2 = .ok (.iconst 0, 1) := by decide +kernel
theorem dX5_weightOfAll_3 : decode cX5_weightOfAll 3 = .ok (.istore_n 3, 1) := by decide +kernel
theorem dX5_weightOfAll_4 : decode cX5_weightOfAll 4 = .ok (.iload_n 3, 1) := by decide +kernel
theorem dX5_weightOfAll_5 : decode cX5_weightOfAll 5 = .ok (.aload_n 1, 1) := by decide +kernel
theorem dX5_weightOfAll_6 : decode cX5_weightOfAll 6 = .ok (.getfield 69, 3) := by decide +kernel
theorem dX5_weightOfAll_9 : decode cX5_weightOfAll 9 = .ok (.if_icmp .ge 22, 3) := by decide +kernel
theorem dX5_weightOfAll_12 : decode cX5_weightOfAll 12 = .ok (.aload_n 1, 1) := by decide +kernel
theorem dX5_weightOfAll_13 : decode cX5_weightOfAll 13 = .ok (.iload_n 3, 1) := by decide +kernel
theorem dX5_weightOfAll_14 : decode cX5_weightOfAll 14 = .ok (.invokevirtual 34, 3) := by decide +kernel
theorem dX5_weightOfAll_17 : decode cX5_weightOfAll 17 = .ok (.ifCond .ne 8, 3) := by decide +kernel
theorem dX5_weightOfAll_20 : decode cX5_weightOfAll 20 = .ok (.iload_n 2, 1) := by decide +kernel
theorem dX5_weightOfAll_21 : decode cX5_weightOfAll 21 = .ok (.bipush 10, 2) := by decide +kernel
theorem dX5_weightOfAll_23 : decode cX5_weightOfAll 23 = .ok (.imul, 1) := by decide +kernel
theorem dX5_weightOfAll_24 : decode cX5_weightOfAll 24 = .ok (.istore_n 2, 1) := by decide +kernel
theorem dX5_weightOfAll_25 : decode cX5_weightOfAll 25 = .ok (.iinc 3 1, 3) := by decide +kernel
theorem dX5_weightOfAll_28 : decode cX5_weightOfAll 28 = .ok (.goto (-24), 3) := by decide +kernel
theorem dX5_weightOfAll_31 : decode cX5_weightOfAll 31 = .ok (.iload_n 2, 1) := by decide +kernel
theorem dX5_weightOfAll_32 : decode cX5_weightOfAll 32 = .ok (.ireturn, 1) := by decide +kernel
set_option maxRecDepth 20000 in
theorem ggX5_weightOfNoneUp_X3_allUp : GoodIn wsX5_weightOfNoneUp wsX3_allUp := goodIn_r _ [7, 8, 9, 10, 11, 6, 12, 13, 63, 64, 65, 66, 67, 68, 69, 70, 71, 72, 73, 74] (by decide +kernel) (by decide +kernel)
set_option maxRecDepth 20000 in
theorem gX5_weightOfNoneUp_X3_allUp : GoodIn wsX5_weightOfNoneUp (wsV RX5 39 RX3 yX3_allUp wsX3_allUp) := goodIn_app (goodIn_of _ (by decide +kernel)) ggX5_weightOfNoneUp_X3_allUp
set_option maxRecDepth 20000 in
theorem ggX5_weightOfNoneUp_X5_weightOf : GoodIn wsX5_weightOfNoneUp wsX5_weightOf := goodIn_r _ [18, 1, 3, 4, 5, 6, 7, 8, 9, 10, 11, 12, 13, 19, 63, 64, 65, 66, 67, 68, 69, 70, 71, 72, 73, 74] (by decide +kernel) (by decide +kernel)
set_option maxRecDepth 20000 in
theorem gX5_weightOfNoneUp_X5_weightOf : GoodIn wsX5_weightOfNoneUp (wsV RX5 73 RX5 yX5_weightOf wsX5_weightOf) := goodIn_app (goodIn_of _ (by decide +kernel)) ggX5_weightOfNoneUp_X5_weightOf
set_option maxRecDepth 20000 in
theorem ggX5_weightOfNoneUp_X3_become : GoodIn wsX5_weightOfNoneUp wsX3_become := goodIn_r _ [23, 24, 8, 25, 26, 27, 28, 29, 13, 30, 31, 32, 63, 64, 65, 66, 67, 68, 69, 70, 71, 72, 73, 74] (by decide +kernel) (by decide +kernel)
set_option maxRecDepth 20000 in
theorem gX5_weightOfNoneUp_X3_become : GoodIn wsX5_weightOfNoneUp (wsV RX5 22 RX3 yX3_become wsX3_become) := goodIn_app (goodIn_of _ (by decide +kernel)) ggX5_weightOfNoneUp_X3_become
set_option maxRecDepth 20000 in
theorem ggX5_weightOfNoneUp_X5_letDig : GoodIn wsX5_weightOfNoneUp wsX5_letDig := goodIn_r _ [36, 2, 1, 37, 75, 76, 63, 64, 65, 66, 67, 68, 69, 70, 71, 72, 73, 74] (by decide +kernel) (by decide +kernel)
set_option maxRecDepth 20000 in
theorem gX5_weightOfNoneUp_X5_letDig : GoodIn wsX5_weightOfNoneUp (wsV RX5 77 RX5 yX5_letDig wsX5_letDig) := goodIn_app (goodIn_of _ (by decide +kernel)) ggX5_weightOfNoneUp_X5_letDig
set_option maxRecDepth 20000 in
theorem ggX5_weightOfNoneUp_X5_passYears : GoodIn wsX5_weightOfNoneUp wsX5_passYears := goodIn_r _ [41, 2, 42, 43, 44, 6, 45, 8, 46, 13, 27, 47, 48, 49, 50, 29, 51, 52, 53, 54, 9, 10, 11, 12, 55, 56, 57, 58, 31, 59, 60, 61, 62, 30, 75, 76, 63, 64, 65, 66, 67, 68, 69, 70, 71, 72, 73, 74] (by decide +kernel) (by decide +kernel)
set_option maxRecDepth 20000 in
theorem gX5_weightOfNoneUp_X5_passYears : GoodIn wsX5_weightOfNoneUp (wsV RX5 26 RX5 yX5_passYears wsX5_passYears) := goodIn_app (goodIn_of _ (by decide +kernel)) ggX5_weightOfNoneUp_X5_passYears
theorem dX5_weightOfNoneUp_0 : decode cX5_weightOfNoneUp 0 = .ok (.aload_n 1, 1) := by decide +kernel
theorem dX5_weightOfNoneUp_1 : decode cX5_weightOfNoneUp 1 = .ok (.invokevirtual 39, 3) := by decide +kernel
theorem dX5_weightOfNoneUp_4 : decode cX5_weightOfNoneUp 4 = .ok (.istore 4, 2) := by decide +kernel
theorem dX5_weightOfNoneUp_6 : decode cX5_weightOfNoneUp 6 = .ok (.iconst 0, 1) := by decide +kernel
theorem dX5_weightOfNoneUp_7 : decode cX5_weightOfNoneUp 7 = .ok (.istore 5, 2) := by decide +kernel
theorem dX5_weightOfNoneUp_9 : decode cX5_weightOfNoneUp 9 = .ok (.iconst 0, 1) := by decide +kernel
theorem dX5_weightOfNoneUp_10 : decode cX5_weightOfNoneUp 10 = .ok (.istore 6, 2) := by decide +kernel
theorem dX5_weightOfNoneUp_12 : decode cX5_weightOfNoneUp 12 = .ok (.iload 6, 2) := by decide +kernel
theorem dX5_weightOfNoneUp_14 : decode cX5_weightOfNoneUp 14 = .ok (.iconst 1, 1) := by decide +kernel
theorem dX5_weightOfNoneUp_15 : decode cX5_weightOfNoneUp 15 = .ok (.aload_n 1, 1) := by decide +kernel
theorem dX5_weightOfNoneUp_16 : decode cX5_weightOfNoneUp 16 = .ok (.getfield 69, 3) := by decide +kernel
theorem dX5_weightOfNoneUp_19 : decode cX5_weightOfNoneUp 19 = .ok (.ishl, 1) := by decide +kernel
theorem dX5_weightOfNoneUp_20 : decode cX5_weightOfNoneUp 20 = .ok (.if_icmp .ge 66, 3) := by decide +kernel
theorem dX5_weightOfNoneUp_23 : decode cX5_weightOfNoneUp 23 = .ok (.aload_n 0, 1) := by decide +kernel
theorem dX5_weightOfNoneUp_24 : decode cX5_weightOfNoneUp 24 = .ok (.aload_n 1, 1) := by decide +kernel
theorem dX5_weightOfNoneUp_25 : decode cX5_weightOfNoneUp 25 = .ok (.iload 6, 2) := by decide +kernel
theorem dX5_weightOfNoneUp_27 : decode cX5_weightOfNoneUp 27 = .ok (.iload_n 3, 1) := by decide +kernel
theorem dX5_weightOfNoneUp_28 : decode cX5_weightOfNoneUp 28 = .ok (.invokevirtual 73, 3) := by decide +kernel
theorem dX5_weightOfNoneUp_31 : decode cX5_weightOfNoneUp 31 = .ok (.istore 7, 2) := by decide +kernel
theorem dX5_weightOfNoneUp_33 : decode cX5_weightOfNoneUp 33 = .ok (.iload 7, 2) := by decide +kernel
theorem dX5_weightOfNoneUp_35 : decode cX5_weightOfNoneUp 35 = .ok (.ifCond .le 45, 3) := by decide +kernel
theorem dX5_weightOfNoneUp_38 : decode cX5_weightOfNoneUp 38 = .ok (.aload_n 0, 1) := by decide +kernel
theorem dX5_weightOfNoneUp_39 : decode cX5_weightOfNoneUp 39 = .ok (.getfield 12, 3) := by decide +kernel
theorem dX5_weightOfNoneUp_42 : decode cX5_weightOfNoneUp 42 = .ok (.aload_n 1, 1) := by decide +kernel
theorem dX5_weightOfNoneUp_43 : decode cX5_weightOfNoneUp 43 = .ok (.invokevirtual 22, 3) := by decide +kernel
theorem dX5_weightOfNoneUp_46 : decode cX5_weightOfNoneUp 46 = .ok (.aload_n 0, 1) := by decide +kernel
theorem dX5_weightOfNoneUp_47 : decode cX5_weightOfNoneUp 47 = .ok (.iload 6, 2) := by decide +kernel
theorem dX5_weightOfNoneUp_49 : decode cX5_weightOfNoneUp 49 = .ok (.invokevirtual 77, 3) := by decide +kernel
theorem dX5_weightOfNoneUp_52 : decode cX5_weightOfNoneUp 52 = .ok (.aload_n 0, 1) := by decide +kernel
theorem dX5_weightOfNoneUp_53 : decode cX5_weightOfNoneUp 53 = .ok (.iload_n 2, 1) := by decide +kernel
theorem dX5_weightOfNoneUp_54 : decode cX5_weightOfNoneUp 54 = .ok (.invokevirtual 26, 3) := by decide +kernel
theorem dX5_weightOfNoneUp_57 : decode cX5_weightOfNoneUp 57 = .ok (.iload 5, 2) := by decide +kernel
theorem dX5_weightOfNoneUp_59 : decode cX5_weightOfNoneUp 59 = .ok (.aload_n 0, 1) := by decide +kernel
theorem dX5_weightOfNoneUp_60 : decode cX5_weightOfNoneUp 60 = .ok (.getfield 12, 3) := by decide +kernel
theorem dX5_weightOfNoneUp_63 : decode cX5_weightOfNoneUp 63 = .ok (.invokevirtual 39, 3) := by decide +kernel
theorem dX5_weightOfNoneUp_66 : decode cX5_weightOfNoneUp 66 = .ok (.iload 4, 2) := by decide +kernel
theorem dX5_weightOfNoneUp_68 : decode cX5_weightOfNoneUp 68 = .ok (.if_icmp .ne 8, 3) := by decide +kernel
theorem dX5_weightOfNoneUp_71 : decode cX5_weightOfNoneUp 71 = .ok (.iload 7, 2) := by decide +kernel
theorem dX5_weightOfNoneUp_73 : decode cX5_weightOfNoneUp 73 = .ok (.goto 4, 3) := by decide +kernel
theorem dX5_weightOfNoneUp_76 : decode cX5_weightOfNoneUp 76 = .ok (.iconst 0, 1) := by decide +kernel
theorem dX5_weightOfNoneUp_77 : decode cX5_weightOfNoneUp 77 = .ok (.iadd, 1) := by decide +kernel
theorem dX5_weightOfNoneUp_78 : decode cX5_weightOfNoneUp 78 = .ok (.istore 5, 2) := by decide +kernel
theorem dX5_weightOfNoneUp_80 : decode cX5_weightOfNoneUp 80 = .ok (.iinc 6 1, 3) := by decide +kernel
theorem dX5_weightOfNoneUp_83 : decode cX5_weightOfNoneUp 83 = .ok (.goto (-71), 3) := by decide +kernel
theorem dX5_weightOfNoneUp_86 : decode cX5_weightOfNoneUp 86 = .ok (.iload 5, 2) := by decide +kernel
theorem dX5_weightOfNoneUp_88 : decode cX5_weightOfNoneUp 88 = .ok (.ireturn, 1) := by decide +kernel
theorem dX5_letDig_0 : decode cX5_letDig 0 = .ok (.iconst 0, 1) := by decide +kernel
theorem dX5_letDig_1 : decode cX5_letDig 1 = .ok (.istore_n 2, 1) := by decide +kernel
theorem dX5_letDig_2 : decode cX5_letDig 2 = .ok (.iload_n 2, 1) := by decide +kernel
theorem dX5_letDig_3 : decode cX5_letDig 3 = .ok (.aload_n 0, 1) := by decide +kernel
theorem dX5_letDig_4 : decode cX5_letDig 4 = .ok (.getfield 12, 3) := by decide +kernel
theorem dX5_letDig_7 : decode cX5_letDig 7 = .ok (.getfield 69, 3) := by decide +kernel
theorem dX5_letDig_10 : decode cX5_letDig 10 = .ok (.if_icmp .ge 26, 3) := by decide +kernel
theorem dX5_letDig_13 : decode cX5_letDig 13 = .ok (.aload_n 0, 1) := by decide +kernel
theorem dX5_letDig_14 : decode cX5_letDig 14 = .ok (.getfield 12, 3) := by decide +kernel
theorem dX5_letDig_17 : decode cX5_letDig 17 = .ok (.getfield 50, 3) := by decide +kernel
theorem dX5_letDig_20 : decode cX5_letDig 20 = .ok (.iload_n 2, 1) := by decide +kernel
theorem dX5_letDig_21 : decode cX5_letDig 21 = .ok (.dup2, 1) := by decide +kernel
theorem dX5_letDig_22 : decode cX5_letDig 22 = .ok (.iaload, 1) := by decide +kernel
theorem dX5_letDig_23 : decode cX5_letDig 23 = .ok (.iload_n 1, 1) := by decide +kernel
theorem dX5_letDig_24 : decode cX5_letDig 24 = .ok (.iload_n 2, 1) := by decide +kernel
theorem dX5_letDig_25 : decode cX5_letDig 25 = .ok (.ishr, 1) := by decide +kernel
theorem dX5_letDig_26 : decode cX5_letDig 26 = .ok (.iconst 1, 1) := by decide +kernel
theorem dX5_letDig_27 : decode cX5_letDig 27 = .ok (.iand, 1) := by decide +kernel
theorem dX5_letDig_28 : decode cX5_letDig 28 = .ok (.isub, 1) := by decide +kernel
theorem dX5_letDig_29 : decode cX5_letDig 29 = .ok (.iastore, 1) := by decide +kernel
theorem dX5_letDig_30 : decode cX5_letDig 30 = .ok (.iinc 2 1, 3) := by decide +kernel
theorem dX5_letDig_33 : decode cX5_letDig 33 = .ok (.goto (-31), 3) := by decide +kernel
theorem dX5_letDig_36 : decode cX5_letDig 36 = .ok (.return_, 1) := by decide +kernel
set_option maxRecDepth 20000 in
theorem ggX5_weightOf_X3_allUp : GoodIn wsX5_weightOf wsX3_allUp := goodIn_r _ [6, 7, 8, 9, 10, 5, 11, 12, 14, 15, 16, 17, 18, 19, 20, 21, 22, 23, 24, 25] (by decide +kernel) (by decide +kernel)
set_option maxRecDepth 20000 in
theorem gX5_weightOf_X3_allUp : GoodIn wsX5_weightOf (wsV RX5 39 RX3 yX3_allUp wsX3_allUp) := goodIn_app (goodIn_of _ (by decide +kernel)) ggX5_weightOf_X3_allUp
set_option maxRecDepth 20000 in
theorem ggX5_weightOf_X3_isUp : GoodIn wsX5_weightOf wsX3_isUp := goodIn_r _ [11, 12, 14, 15, 16, 17, 18, 19, 20, 21, 22, 23, 24, 25] (by decide +kernel) (by decide +kernel)
set_option maxRecDepth 20000 in
theorem gX5_weightOf_X3_isUp : GoodIn wsX5_weightOf (wsV RX5 34 RX3 yX3_isUp wsX3_isUp) := goodIn_app (goodIn_of _ (by decide +kernel)) ggX5_weightOf_X3_isUp
theorem dX5_weightOf_0 : decode cX5_weightOf 0 = .ok (.iload_n 2, 1) := by decide +kernel
theorem dX5_weightOf_1 : decode cX5_weightOf 1 = .ok (.aload_n 1, 1) := by decide +kernel
theorem dX5_weightOf_2 : decode cX5_weightOf 2 = .ok (.invokevirtual 39, 3) := by decide +kernel
theorem dX5_weightOf_5 : decode cX5_weightOf 5 = .ok (.iand, 1) := by decide +kernel
theorem dX5_weightOf_6 : decode cX5_weightOf 6 = .ok (.ifCond .eq 5, 3) := by decide +kernel
theorem dX5_weightOf_9 : decode cX5_weightOf 9 = .ok (.iconst 0, 1) := by decide +kernel
theorem dX5_weightOf_10 : decode cX5_weightOf 10 = .ok (.ireturn, 1) := by decide +kernel
theorem dX5_weightOf_11 : decode cX5_weightOf 11 = .ok (.iconst 1, 1) := by decide +kernel
theorem dX5_weightOf_12 : decode cX5_weightOf 12 = .ok (.istore 4, 2) := by decide +kernel
theorem dX5_weightOf_14 : decode cX5_weightOf 14 = .ok (.iconst 0, 1) := by decide +kernel
theorem dX5_weightOf_15 : decode cX5_weightOf 15 = .ok (.istore 5, 2) := by decide +kernel
theorem dX5_weightOf_17 : decode cX5_weightOf 17 = .ok (.iload 5, 2) := by decide +kernel
theorem dX5_weightOf_19 : decode cX5_weightOf 19 = .ok (.aload_n 1, 1) := by decide +kernel
theorem dX5_weightOf_20 : decode cX5_weightOf 20 = .ok (.getfield 69, 3) := by decide +kernel
theorem dX5_weightOf_23 : decode cX5_weightOf 23 = .ok (.if_icmp .ge 41, 3) := by decide +kernel
theorem dX5_weightOf_26 : decode cX5_weightOf 26 = .ok (.aload_n 1, 1) := by decide +kernel
theorem dX5_weightOf_27 : decode cX5_weightOf 27 = .ok (.iload 5, 2) := by decide +kernel
theorem dX5_weightOf_29 : decode cX5_weightOf 29 = .ok (.invokevirtual 34, 3) := by decide +kernel
theorem dX5_weightOf_32 : decode cX5_weightOf 32 = .ok (.ifCond .ne 26, 3) := by decide +kernel
theorem dX5_weightOf_35 : decode cX5_weightOf 35 = .ok (.iload 4, 2) := by decide +kernel
theorem dX5_weightOf_37 : decode cX5_weightOf 37 = .ok (.iload_n 2, 1) := by decide +kernel
theorem dX5_weightOf_38 : decode cX5_weightOf 38 = .ok (.iload 5, 2) := by decide +kernel
theorem dX5_weightOf_40 : decode cX5_weightOf 40 = .ok (.ishr, 1) := by decide +kernel
theorem dX5_weightOf_41 : decode cX5_weightOf 41 = .ok (.iconst 1, 1) := by decide +kernel
theorem dX5_weightOf_42 : decode cX5_weightOf 42 = .ok (.iand, 1) := by decide +kernel
theorem dX5_weightOf_43 : decode cX5_weightOf 43 = .ok (.iconst 1, 1) := by decide +kernel
theorem dX5_weightOf_44 : decode cX5_weightOf 44 = .ok (.if_icmp .ne 7, 3) := by decide +kernel
theorem dX5_weightOf_47 : decode cX5_weightOf 47 = .ok (.iload_n 3, 1) := by decide +kernel
theorem dX5_weightOf_48 : decode cX5_weightOf 48 = .ok (.goto 7, 3) := by decide +kernel
theorem dX5_weightOf_51 : decode cX5_weightOf 51 = .ok (.bipush 10, 2) := by decide +kernel
theorem dX5_weightOf_53 : decode cX5_weightOf 53 = .ok (.iload_n 3, 1) := by decide +kernel
theorem dX5_weightOf_54 : decode cX5_weightOf 54 = .ok (.isub, 1) := by decide +kernel
theorem dX5_weightOf_55 : decode cX5_weightOf 55 = .ok (.imul, 1) := by decide +kernel
theorem dX5_weightOf_56 : decode cX5_weightOf 56 = .ok (.istore 4, 2) := by decide +kernel
theorem dX5_weightOf_58 : decode cX5_weightOf 58 = .ok (.iinc 5 1, 3) := by decide +kernel
theorem dX5_weightOf_61 : decode cX5_weightOf 61 = .ok (.goto (-44), 3) := by decide +kernel
theorem dX5_weightOf_64 : decode cX5_weightOf 64 = .ok (.iload 4, 2) := by decide +kernel
theorem dX5_weightOf_66 : decode cX5_weightOf 66 = .ok (.ireturn, 1) := by decide +kernel
theorem dX6_init_0 : decode cX6_init 0 = .ok (.aload_n 0, 1) := by decide +kernel
theorem dX6_init_1 : decode cX6_init 1 = .ok (.invokespecial 3, 3) := by decide +kernel
theorem dX6_init_4 : decode cX6_init 4 = .ok (.aload_n 0, 1) := by decide +kernel
theorem dX6_init_5 : decode cX6_init 5 = .ok (.bipush 100, 2) := by decide +kernel
theorem dX6_init_7 : decode cX6_init 7 = .ok (.newarray .int, 2) := by decide +kernel
theorem dX6_init_9 : decode cX6_init 9 = .ok (.putfield 9, 3) := by decide +kernel
theorem dX6_init_12 : decode cX6_init 12 = .ok (.aload_n 0, 1) := by decide +kernel
theorem dX6_init_13 : decode cX6_init 13 = .ok (.iconst 0, 1) := by decide +kernel
theorem dX6_init_14 : decode cX6_init 14 = .ok (.putfield 15, 3) := by decide +kernel
theorem dX6_init_17 : decode cX6_init 17 = .ok (.aload_n 0, 1) := by decide +kernel
theorem dX6_init_18 : decode cX6_init 18 = .ok (.iconst 0, 1) := by decide +kernel
theorem dX6_init_19 : decode cX6_init 19 = .ok (.putfield 19, 3) := by decide +kernel
theorem dX6_init_22 : decode cX6_init 22 = .ok (.aload_n 0, 1) := by decide +kernel
theorem dX6_init_23 : decode cX6_init 23 = .ok (.iconst 0, 1) := by decide +kernel
theorem dX6_init_24 : decode cX6_init 24 = .ok (.putfield 22, 3) := by decide +kernel
theorem dX6_init_27 : decode cX6_init 27 = .ok (.return_, 1) := by decide +kernel
theorem dX6_append_0 : decode cX6_append 0 = .ok (.aload_n 0, 1) := by decide +kernel
theorem dX6_append_1 : decode cX6_append 1 = .ok (.getfield 15, 3) := by decide +kernel
theorem dX6_append_4 : decode cX6_append 4 = .ok (.bipush 100, 2) := by decide +kernel
theorem dX6_append_6 : decode cX6_append 6 = .ok (.if_icmp .ge 23, 3) := by decide +kernel
theorem dX6_append_9 : decode cX6_append 9 = .ok (.aload_n 0, 1) := by decide +kernel
theorem dX6_append_10 : decode cX6_append 10 = .ok (.getfield 9, 3) := by decide +kernel
theorem dX6_append_13 : decode cX6_append 13 = .ok (.aload_n 0, 1) := by decide +kernel
theorem dX6_append_14 : decode cX6_append 14 = .ok (.getfield 15, 3) := by decide +kernel
theorem dX6_append_17 : decode cX6_append 17 = .ok (.iload_n 1, 1) := by decide +kernel
theorem dX6_append_18 : decode cX6_append 18 = .ok (.iastore, 1) := by decide +kernel
theorem dX6_append_19 : decode cX6_append 19 = .ok (.aload_n 0, 1) := by decide +kernel
theorem dX6_append_20 : decode cX6_append 20 = .ok (.dup, 1) := by decide +kernel
theorem dX6_append_21 : decode cX6_append 21 = .ok (.getfield 15, 3) := by decide +kernel
theorem dX6_append_24 : decode cX6_append 24 = .ok (.iconst 1, 1) := by decide +kernel
theorem dX6_append_25 : decode cX6_append 25 = .ok (.iadd, 1) := by decide +kernel
theorem dX6_append_26 : decode cX6_append 26 = .ok (.putfield 15, 3) := by decide +kernel
theorem dX6_append_29 : decode cX6_append 29 = .ok (.return_, 1) := by decide +kernel
set_option maxRecDepth 20000 in
theorem ggX6_readInto_X6_readLaw : GoodIn wsX6_readInto wsX6_readLaw := goodIn_r _ [12, 13, 14, 15, 16, 17, 11, 18, 2, 1, 19, 20, 21, 22, 23, 24, 25, 26, 7, 27, 28, 29, 30, 31, 32, 33, 34, 35, 36, 37, 38, 39, 56, 57, 58, 59, 60, 61, 62, 63, 64, 65, 66, 67, 52, 53, 54, 55] (by decide +kernel) (by decide +kernel)
set_option maxRecDepth 20000 in
theorem gX6_readInto_X6_readLaw : GoodIn wsX6_readInto (wsV RX6 40 RX6 yX6_readLaw wsX6_readLaw) := goodIn_app (goodIn_of _ (by decide +kernel)) ggX6_readInto_X6_readLaw
set_option maxRecDepth 20000 in
theorem ggX6_readInto_X6_readThing : GoodIn wsX6_readInto wsX6_readThing := goodIn_r _ [43, 4, 1, 44, 45, 46, 47, 48, 14, 19, 20, 21, 11, 22, 23, 24, 25, 26, 7, 27, 49, 50, 51, 28, 29, 30, 31, 2, 32, 33, 34, 35, 36, 37, 38, 39, 15, 16, 17, 18, 56, 57, 58, 59, 60, 61, 62, 63, 64, 65, 66, 67, 52, 53, 54, 55] (by decide +kernel) (by decide +kernel)
set_option maxRecDepth 20000 in
theorem gX6_readInto_X6_readThing : GoodIn wsX6_readInto (wsV RX6 44 RX6 yX6_readThing wsX6_readThing) := goodIn_app (goodIn_of _ (by decide +kernel)) ggX6_readInto_X6_readThing
theorem dX6_readInto_0 : decode cX6_readInto 0 = .ok (.aload_n 0, 1) := by decide +kernel
theorem dX6_readInto_1 : decode cX6_readInto 1 = .ok (.iconst 0, 1) := by decide +kernel
theorem dX6_readInto_2 : decode cX6_readInto 2 = .ok (.putfield 19, 3) := by decide +kernel
theorem dX6_readInto_5 : decode cX6_readInto 5 = .ok (.aload_n 0, 1) := by decide +kernel
theorem dX6_readInto_6 : decode cX6_readInto 6 = .ok (.iconst 0, 1) := by decide +kernel
theorem dX6_readInto_7 : decode cX6_readInto 7 = .ok (.putfield 22, 3) := by decide +kernel
theorem dX6_readInto_10 : decode cX6_readInto 10 = .ok (.aload_n 1, 1) := by decide +kernel
theorem dX6_readInto_11 : decode cX6_readInto 11 = .ok (.iconst 1, 1) := by decide +kernel
theorem dX6_readInto_12 : decode cX6_readInto 12 = .ok (.putfield 25, 3) := by decide +kernel
theorem dX6_readInto_15 : decode cX6_readInto 15 = .ok (.aload_n 1, 1) := by decide +kernel
theorem dX6_readInto_16 : decode cX6_readInto 16 = .ok (.iconst 0, 1) := by decide +kernel
theorem dX6_readInto_17 : decode cX6_readInto 17 = .ok (.putfield 31, 3) := by decide +kernel
theorem dX6_readInto_20 : decode cX6_readInto 20 = .ok (.aload_n 1, 1) := by decide +kernel
theorem dX6_readInto_21 : decode cX6_readInto 21 = .ok (.iconst 0, 1) := by decide +kernel
theorem dX6_readInto_22 : decode cX6_readInto 22 = .ok (.putfield 34, 3) := by decide +kernel
theorem dX6_readInto_25 : decode cX6_readInto 25 = .ok (.aload_n 1, 1) := by decide +kernel
theorem dX6_readInto_26 : decode cX6_readInto 26 = .ok (.iconst 0, 1) := by decide +kernel
theorem dX6_readInto_27 : decode cX6_readInto 27 = .ok (.putfield 37, 3) := by decide +kernel
theorem dX6_readInto_30 : decode cX6_readInto 30 = .ok (.aload_n 0, 1) := by decide +kernel
theorem dX6_readInto_31 : decode cX6_readInto 31 = .ok (.aload_n 1, 1) := by decide +kernel
theorem dX6_readInto_32 : decode cX6_readInto 32 = .ok (.invokevirtual 40, 3) := by decide +kernel
theorem dX6_readInto_35 : decode cX6_readInto 35 = .ok (.iconst 0, 1) := by decide +kernel
theorem dX6_readInto_36 : decode cX6_readInto 36 = .ok (.istore_n 2, 1) := by decide +kernel
theorem dX6_readInto_37 : decode cX6_readInto 37 = .ok (.iload_n 2, 1) := by decide +kernel
theorem dX6_readInto_38 : decode cX6_readInto 38 = .ok (.bipush 100, 2) := by decide +kernel
theorem dX6_readInto_40 : decode cX6_readInto 40 = .ok (.if_icmp .ge 32, 3) := by decide +kernel
theorem dX6_readInto_43 : decode cX6_readInto 43 = .ok (.aload_n 0, 1) := by decide +kernel
theorem dX6_readInto_44 : decode cX6_readInto 44 = .ok (.getfield 22, 3) := by decide +kernel
theorem dX6_readInto_47 : decode cX6_readInto 47 = .ok (.ifCond .ne 25, 3) := by decide +kernel
theorem dX6_readInto_50 : decode cX6_readInto 50 = .ok (.aload_n 0, 1) := by decide +kernel
theorem dX6_readInto_51 : decode cX6_readInto 51 = .ok (.getfield 19, 3) := by decide +kernel
theorem dX6_readInto_54 : decode cX6_readInto 54 = .ok (.aload_n 0, 1) := by decide +kernel
theorem dX6_readInto_55 : decode cX6_readInto 55 = .ok (.getfield 15, 3) := by decide +kernel
theorem dX6_readInto_58 : decode cX6_readInto 58 = .ok (.if_icmp .ge 14, 3) := by decide +kernel
theorem dX6_readInto_61 : decode cX6_readInto 61 = .ok (.aload_n 0, 1) := by decide +kernel
theorem dX6_readInto_62 : decode cX6_readInto 62 = .ok (.aload_n 1, 1) := by decide +kernel
theorem dX6_readInto_63 : decode cX6_readInto 63 = .ok (.invokevirtual 44, 3) := by decide +kernel
theorem dX6_readInto_66 : decode cX6_readInto 66 = .ok (.iinc 2 1, 3) := by decide +kernel
theorem dX6_readInto_69 : decode cX6_readInto 69 = .ok (.goto (-32), 3) := by decide +kernel
theorem dX6_readInto_72 : decode cX6_readInto 72 = .ok (.aload_n 0, 1) := by decide +kernel
theorem dX6_readInto_73 : decode cX6_readInto 73 = .ok (.getfield 22, 3) := by decide +kernel
theorem dX6_readInto_76 : decode cX6_readInto 76 = .ok (.ireturn, 1) := by decide +kernel
set_option maxRecDepth 20000 in
theorem ggX6_readLaw_X6_pass : GoodIn wsX6_readLaw wsX6_pass := goodIn_r _ [7, 8, 9, 10, 11, 12, 6, 13, 14, 15, 16, 17, 18, 19, 20, 21, 22, 23, 44, 45, 46, 47] (by decide +kernel) (by decide +kernel)
set_option maxRecDepth 20000 in
theorem gX6_readLaw_X6_pass : GoodIn wsX6_readLaw (wsV RX6 47 RX6 yX6_pass wsX6_pass) := goodIn_app (goodIn_of _ (by decide +kernel)) ggX6_readLaw_X6_pass
set_option maxRecDepth 20000 in
theorem ggX6_readLaw_X6_number : GoodIn wsX6_readLaw wsX6_number := goodIn_r _ [27, 8, 9, 14, 15, 16, 6, 17, 18, 19, 28, 29, 30, 31, 20, 21, 22, 23, 44, 45, 46, 47] (by decide +kernel) (by decide +kernel)
set_option maxRecDepth 20000 in
theorem gX6_readLaw_X6_number : GoodIn wsX6_readLaw (wsV RX6 51 RX6 yX6_number wsX6_number) := goodIn_app (goodIn_of _ (by decide +kernel)) ggX6_readLaw_X6_number
theorem dX6_readLaw_0 : decode cX6_readLaw 0 = .ok (.aload_n 0, 1) := by decide +kernel
theorem dX6_readLaw_1 : decode cX6_readLaw 1 = .ok (.bipush 109, 2) := by decide +kernel
theorem dX6_readLaw_3 : decode cX6_readLaw 3 = .ok (.invokevirtual 47, 3) := by decide +kernel
theorem dX6_readLaw_6 : decode cX6_readLaw 6 = .ok (.aload_n 1, 1) := by decide +kernel
theorem dX6_readLaw_7 : decode cX6_readLaw 7 = .ok (.aload_n 0, 1) := by decide +kernel
theorem dX6_readLaw_8 : decode cX6_readLaw 8 = .ok (.iconst 0, 1) := by decide +kernel
theorem dX6_readLaw_9 : decode cX6_readLaw 9 = .ok (.bipush 9, 2) := by decide +kernel
theorem dX6_readLaw_11 : decode cX6_readLaw 11 = .ok (.invokevirtual 51, 3) := by decide +kernel
theorem dX6_readLaw_14 : decode cX6_readLaw 14 = .ok (.putfield 55, 3) := by decide +kernel
theorem dX6_readLaw_17 : decode cX6_readLaw 17 = .ok (.aload_n 0, 1) := by decide +kernel
theorem dX6_readLaw_18 : decode cX6_readLaw 18 = .ok (.bipush 44, 2) := by decide +kernel
theorem dX6_readLaw_20 : decode cX6_readLaw 20 = .ok (.invokevirtual 47, 3) := by decide +kernel
theorem dX6_readLaw_23 : decode cX6_readLaw 23 = .ok (.aload_n 1, 1) := by decide +kernel
theorem dX6_readLaw_24 : decode cX6_readLaw 24 = .ok (.aload_n 0, 1) := by decide +kernel
theorem dX6_readLaw_25 : decode cX6_readLaw 25 = .ok (.iconst 1, 1) := by decide +kernel
theorem dX6_readLaw_26 : decode cX6_readLaw 26 = .ok (.bipush 6, 2) := by decide +kernel
theorem dX6_readLaw_28 : decode cX6_readLaw 28 = .ok (.invokevirtual 51, 3) := by decide +kernel
theorem dX6_readLaw_31 : decode cX6_readLaw 31 = .ok (.putfield 58, 3) := by decide +kernel
theorem dX6_readLaw_34 : decode cX6_readLaw 34 = .ok (.aload_n 0, 1) := by decide +kernel
theorem dX6_readLaw_35 : decode cX6_readLaw 35 = .ok (.bipush 59, 2) := by decide +kernel
theorem dX6_readLaw_37 : decode cX6_readLaw 37 = .ok (.invokevirtual 47, 3) := by decide +kernel
theorem dX6_readLaw_40 : decode cX6_readLaw 40 = .ok (.return_, 1) := by decide +kernel
set_option maxRecDepth 20000 in
theorem ggX6_readThing_X6_next : GoodIn wsX6_readThing wsX6_next := goodIn_r _ [13, 2, 14, 15, 16, 12, 17, 18, 19, 52, 53, 54, 55] (by decide +kernel) (by decide +kernel)
set_option maxRecDepth 20000 in
theorem gX6_readThing_X6_next : GoodIn wsX6_readThing (wsV RX6 61 RX6 yX6_next wsX6_next) := goodIn_app (goodIn_of _ (by decide +kernel)) ggX6_readThing_X6_next
set_option maxRecDepth 20000 in
theorem ggX6_readThing_X6_sortOf : GoodIn wsX6_readThing wsX6_sortOf := goodIn_r _ [22] (by decide +kernel) (by decide +kernel)
set_option maxRecDepth 20000 in
theorem gX6_readThing_X6_sortOf : GoodIn wsX6_readThing (va_wsS RX6 65 yX6_sortOf wsX6_sortOf) := goodIn_app (goodIn_of _ (by decide +kernel)) ggX6_readThing_X6_sortOf
set_option maxRecDepth 20000 in
theorem ggX6_readThing_X6_fail : GoodIn wsX6_readThing wsX6_fail := goodIn_r _ [26, 27, 52, 53, 54, 55] (by decide +kernel) (by decide +kernel)
set_option maxRecDepth 20000 in
theorem gX6_readThing_X6_fail : GoodIn wsX6_readThing (wsV RX6 69 RX6 yX6_fail wsX6_fail) := goodIn_app (goodIn_of _ (by decide +kernel)) ggX6_readThing_X6_fail
set_option maxRecDepth 20000 in
theorem ggX6_readThing_X6_number : GoodIn wsX6_readThing wsX6_number := goodIn_r _ [31, 27, 2, 14, 15, 16, 12, 17, 18, 19, 32, 33, 34, 35, 23, 24, 25, 26, 52, 53, 54, 55] (by decide +kernel) (by decide +kernel)
set_option maxRecDepth 20000 in
theorem gX6_readThing_X6_number : GoodIn wsX6_readThing (wsV RX6 51 RX6 yX6_number wsX6_number) := goodIn_app (goodIn_of _ (by decide +kernel)) ggX6_readThing_X6_number
set_option maxRecDepth 20000 in
theorem ggX6_readThing_X6_pass : GoodIn wsX6_readThing wsX6_pass := goodIn_r _ [39, 27, 2, 9, 10, 11, 12, 13, 14, 15, 16, 17, 18, 19, 23, 24, 25, 26, 52, 53, 54, 55] (by decide +kernel) (by decide +kernel)
set_option maxRecDepth 20000 in
theorem gX6_readThing_X6_pass : GoodIn wsX6_readThing (wsV RX6 47 RX6 yX6_pass wsX6_pass) := goodIn_app (goodIn_of _ (by decide +kernel)) ggX6_readThing_X6_pass
theorem dX6_readThing_0 : decode cX6_readThing 0 = .ok (.aload_n 0, 1) := by decide +kernel
theorem dX6_readThing_1 : decode cX6_readThing 1 = .ok (.invokevirtual 61, 3) := by decide +kernel
theorem dX6_readThing_4 : decode cX6_readThing 4 = .ok (.invokestatic 65, 3) := by decide +kernel
theorem dX6_readThing_7 : decode cX6_readThing 7 = .ok (.istore_n 2, 1) := by decide +kernel
theorem dX6_readThing_8 : decode cX6_readThing 8 = .ok (.iload_n 2, 1) := by decide +kernel
theorem dX6_readThing_9 : decode cX6_readThing 9 = .ok (.ifCond .ne 9, 3) := by decide +kernel
theorem dX6_readThing_12 : decode cX6_readThing 12 = .ok (.aload_n 0, 1) := by decide +kernel
theorem dX6_readThing_13 : decode cX6_readThing 13 = .ok (.iconst 1, 1) := by decide +kernel
theorem dX6_readThing_14 : decode cX6_readThing 14 = .ok (.invokevirtual 69, 3) := by decide +kernel
theorem dX6_readThing_17 : decode cX6_readThing 17 = .ok (.return_, 1) := by decide +kernel
theorem dX6_readThing_18 : decode cX6_readThing 18 = .ok (.aload_n 1, 1) := by decide +kernel
theorem dX6_readThing_19 : decode cX6_readThing 19 = .ok (.getfield 31, 3) := by decide +kernel
theorem dX6_readThing_22 : decode cX6_readThing 22 = .ok (.istore_n 3, 1) := by decide +kernel
theorem dX6_readThing_23 : decode cX6_readThing 23 = .ok (.iload_n 3, 1) := by decide +kernel
theorem dX6_readThing_24 : decode cX6_readThing 24 = .ok (.iconst 5, 1) := by decide +kernel
theorem dX6_readThing_25 : decode cX6_readThing 25 = .ok (.if_icmp .lt 9, 3) := by decide +kernel
theorem dX6_readThing_28 : decode cX6_readThing 28 = .ok (.aload_n 0, 1) := by decide +kernel
theorem dX6_readThing_29 : decode cX6_readThing 29 = .ok (.iconst 3, 1) := by decide +kernel
theorem dX6_readThing_30 : decode cX6_readThing 30 = .ok (.invokevirtual 69, 3) := by decide +kernel
theorem dX6_readThing_33 : decode cX6_readThing 33 = .ok (.return_, 1) := by decide +kernel
theorem dX6_readThing_34 : decode cX6_readThing 34 = .ok (.aload_n 0, 1) := by decide +kernel
theorem dX6_readThing_35 : decode cX6_readThing 35 = .ok (.dup, 1) := by decide +kernel
theorem dX6_readThing_36 : decode cX6_readThing 36 = .ok (.getfield 19, 3) := by decide +kernel
theorem dX6_readThing_39 : decode cX6_readThing 39 = .ok (.iconst 1, 1) := by decide +kernel
theorem dX6_readThing_40 : decode cX6_readThing 40 = .ok (.iadd, 1) := by decide +kernel
theorem dX6_readThing_41 : decode cX6_readThing 41 = .ok (.putfield 19, 3) := by decide +kernel
theorem dX6_readThing_44 : decode cX6_readThing 44 = .ok (.aload_n 1, 1) := by decide +kernel
theorem dX6_readThing_45 : decode cX6_readThing 45 = .ok (.getfield 72, 3) := by decide +kernel
theorem dX6_readThing_48 : decode cX6_readThing 48 = .ok (.iload_n 3, 1) := by decide +kernel
theorem dX6_readThing_49 : decode cX6_readThing 49 = .ok (.iload_n 2, 1) := by decide +kernel
theorem dX6_readThing_50 : decode cX6_readThing 50 = .ok (.iastore, 1) := by decide +kernel
theorem dX6_readThing_51 : decode cX6_readThing 51 = .ok (.aload_n 1, 1) := by decide +kernel
theorem dX6_readThing_52 : decode cX6_readThing 52 = .ok (.getfield 75, 3) := by decide +kernel
theorem dX6_readThing_55 : decode cX6_readThing 55 = .ok (.iload_n 3, 1) := by decide +kernel
theorem dX6_readThing_56 : decode cX6_readThing 56 = .ok (.aload_n 0, 1) := by decide +kernel
theorem dX6_readThing_57 : decode cX6_readThing 57 = .ok (.iconst 0, 1) := by decide +kernel
theorem dX6_readThing_58 : decode cX6_readThing 58 = .ok (.bipush 40, 2) := by decide +kernel
theorem dX6_readThing_60 : decode cX6_readThing 60 = .ok (.invokevirtual 51, 3) := by decide +kernel
theorem dX6_readThing_63 : decode cX6_readThing 63 = .ok (.iastore, 1) := by decide +kernel
theorem dX6_readThing_64 : decode cX6_readThing 64 = .ok (.aload_n 0, 1) := by decide +kernel
theorem dX6_readThing_65 : decode cX6_readThing 65 = .ok (.bipush 44, 2) := by decide +kernel
theorem dX6_readThing_67 : decode cX6_readThing 67 = .ok (.invokevirtual 47, 3) := by decide +kernel
theorem dX6_readThing_70 : decode cX6_readThing 70 = .ok (.aload_n 1, 1) := by decide +kernel
theorem dX6_readThing_71 : decode cX6_readThing 71 = .ok (.getfield 78, 3) := by decide +kernel
theorem dX6_readThing_74 : decode cX6_readThing 74 = .ok (.iload_n 3, 1) := by decide +kernel
theorem dX6_readThing_75 : decode cX6_readThing 75 = .ok (.aload_n 0, 1) := by decide +kernel
theorem dX6_readThing_76 : decode cX6_readThing 76 = .ok (.iconst 0, 1) := by decide +kernel
theorem dX6_readThing_77 : decode cX6_readThing 77 = .ok (.iconst 3, 1) := by decide +kernel
theorem dX6_readThing_78 : decode cX6_readThing 78 = .ok (.invokevirtual 51, 3) := by decide +kernel
theorem dX6_readThing_81 : decode cX6_readThing 81 = .ok (.iastore, 1) := by decide +kernel
theorem dX6_readThing_82 : decode cX6_readThing 82 = .ok (.aload_n 0, 1) := by decide +kernel
theorem dX6_readThing_83 : decode cX6_readThing 83 = .ok (.bipush 44, 2) := by decide +kernel
theorem dX6_readThing_85 : decode cX6_readThing 85 = .ok (.invokevirtual 47, 3) := by decide +kernel
theorem dX6_readThing_88 : decode cX6_readThing 88 = .ok (.aload_n 1, 1) := by decide +kernel
theorem dX6_readThing_89 : decode cX6_readThing 89 = .ok (.getfield 81, 3) := by decide +kernel
theorem dX6_readThing_92 : decode cX6_readThing 92 = .ok (.iload_n 3, 1) := by decide +kernel
theorem dX6_readThing_93 : decode cX6_readThing 93 = .ok (.aload_n 0, 1) := by decide +kernel
theorem dX6_readThing_94 : decode cX6_readThing 94 = .ok (.iconst 1, 1) := by decide +kernel
theorem dX6_readThing_95 : decode cX6_readThing 95 = .ok (.bipush 9, 2) := by decide +kernel
theorem dX6_readThing_97 : decode cX6_readThing 97 = .ok (.invokevirtual 51, 3) := by decide +kernel
theorem dX6_readThing_100 : decode cX6_readThing 100 = .ok (.iastore, 1) := by decide +kernel
theorem dX6_readThing_101 : decode cX6_readThing 101 = .ok (.aload_n 0, 1) := by decide +kernel
theorem dX6_readThing_102 : decode cX6_readThing 102 = .ok (.bipush 44, 2) := by decide +kernel
theorem dX6_readThing_104 : decode cX6_readThing 104 = .ok (.invokevirtual 47, 3) := by decide +kernel
theorem dX6_readThing_107 : decode cX6_readThing 107 = .ok (.aload_n 1, 1) := by decide +kernel
theorem dX6_readThing_108 : decode cX6_readThing 108 = .ok (.getfield 84, 3) := by decide +kernel
theorem dX6_readThing_111 : decode cX6_readThing 111 = .ok (.iload_n 3, 1) := by decide +kernel
theorem dX6_readThing_112 : decode cX6_readThing 112 = .ok (.aload_n 0, 1) := by decide +kernel
theorem dX6_readThing_113 : decode cX6_readThing 113 = .ok (.iconst 0, 1) := by decide +kernel
theorem dX6_readThing_114 : decode cX6_readThing 114 = .ok (.iconst 1, 1) := by decide +kernel
theorem dX6_readThing_115 : decode cX6_readThing 115 = .ok (.aload_n 1, 1) := by decide +kernel
theorem dX6_readThing_116 : decode cX6_readThing 116 = .ok (.getfield 58, 3) := by decide +kernel
theorem dX6_readThing_119 : decode cX6_readThing 119 = .ok (.ishl, 1) := by decide +kernel
theorem dX6_readThing_120 : decode cX6_readThing 120 = .ok (.iconst 1, 1) := by decide +kernel
theorem dX6_readThing_121 : decode cX6_readThing 121 = .ok (.isub, 1) := by decide +kernel
theorem dX6_readThing_122 : decode cX6_readThing 122 = .ok (.invokevirtual 51, 3) := by decide +kernel
theorem dX6_readThing_125 : decode cX6_readThing 125 = .ok (.iastore, 1) := by decide +kernel
theorem dX6_readThing_126 : decode cX6_readThing 126 = .ok (.aload_n 0, 1) := by decide +kernel
theorem dX6_readThing_127 : decode cX6_readThing 127 = .ok (.bipush 59, 2) := by decide +kernel
theorem dX6_readThing_129 : decode cX6_readThing 129 = .ok (.invokevirtual 47, 3) := by decide +kernel
theorem dX6_readThing_132 : decode cX6_readThing 132 = .ok (.aload_n 1, 1) := by decide +kernel
theorem dX6_readThing_133 : decode cX6_readThing 133 = .ok (.iload_n 3, 1) := by decide +kernel
theorem dX6_readThing_134 : decode cX6_readThing 134 = .ok (.iconst 1, 1) := by decide +kernel
theorem dX6_readThing_135 : decode cX6_readThing 135 = .ok (.iadd, 1) := by decide +kernel
theorem dX6_readThing_136 : decode cX6_readThing 136 = .ok (.putfield 31, 3) := by decide +kernel
theorem dX6_readThing_139 : decode cX6_readThing 139 = .ok (.return_, 1) := by decide +kernel
theorem dX6_sortOf_0 : decode cX6_sortOf 0 = .ok (.iload_n 0, 1) := by decide +kernel
theorem dX6_sortOf_1 : decode cX6_sortOf 1 = .ok (.lookupswitch 61 #[(99, 53), (103, 59), (105, 51), (115, 57), (119, 55)], 51) := by decide +kernel
theorem dX6_sortOf_52 : decode cX6_sortOf 52 = .ok (.iconst 1, 1) := by decide +kernel
theorem dX6_sortOf_53 : decode cX6_sortOf 53 = .ok (.ireturn, 1) := by decide +kernel
theorem dX6_sortOf_54 : decode cX6_sortOf 54 = .ok (.iconst 2, 1) := by decide +kernel
theorem dX6_sortOf_55 : decode cX6_sortOf 55 = .ok (.ireturn, 1) := by decide +kernel
theorem dX6_sortOf_56 : decode cX6_sortOf 56 = .ok (.iconst 3, 1) := by decide +kernel
theorem dX6_sortOf_57 : decode cX6_sortOf 57 = .ok (.ireturn, 1) := by decide +kernel
theorem dX6_sortOf_58 : decode cX6_sortOf 58 = .ok (.iconst 4, 1) := by decide +kernel
theorem dX6_sortOf_59 : decode cX6_sortOf 59 = .ok (.ireturn, 1) := by decide +kernel
theorem dX6_sortOf_60 : decode cX6_sortOf 60 = .ok (.iconst 5, 1) := by decide +kernel
theorem dX6_sortOf_61 : decode cX6_sortOf 61 = .ok (.ireturn, 1) := by decide +kernel
theorem dX6_sortOf_62 : decode cX6_sortOf 62 = .ok (.iconst 0, 1) := by decide +kernel
theorem dX6_sortOf_63 : decode cX6_sortOf 63 = .ok (.ireturn, 1) := by decide +kernel
theorem dX6_fail_0 : decode cX6_fail 0 = .ok (.aload_n 0, 1) := by decide +kernel
theorem dX6_fail_1 : decode cX6_fail 1 = .ok (.getfield 22, 3) := by decide +kernel
theorem dX6_fail_4 : decode cX6_fail 4 = .ok (.ifCond .ne 8, 3) := by decide +kernel
theorem dX6_fail_7 : decode cX6_fail 7 = .ok (.aload_n 0, 1) := by decide +kernel
theorem dX6_fail_8 : decode cX6_fail 8 = .ok (.iload_n 1, 1) := by decide +kernel
theorem dX6_fail_9 : decode cX6_fail 9 = .ok (.putfield 22, 3) := by decide +kernel
theorem dX6_fail_12 : decode cX6_fail 12 = .ok (.return_, 1) := by decide +kernel
set_option maxRecDepth 20000 in
theorem ggX6_next_X6_byteAt : GoodIn wsX6_next wsX6_byteAt := goodIn_r _ [6, 7, 8, 9, 10, 11, 12] (by decide +kernel) (by decide +kernel)
set_option maxRecDepth 20000 in
theorem gX6_next_X6_byteAt : GoodIn wsX6_next (wsV RX6 87 RX6 yX6_byteAt wsX6_byteAt) := goodIn_app (goodIn_of _ (by decide +kernel)) ggX6_next_X6_byteAt
theorem dX6_next_0 : decode cX6_next 0 = .ok (.aload_n 0, 1) := by decide +kernel
theorem dX6_next_1 : decode cX6_next 1 = .ok (.aload_n 0, 1) := by decide +kernel
theorem dX6_next_2 : decode cX6_next 2 = .ok (.getfield 19, 3) := by decide +kernel
theorem dX6_next_5 : decode cX6_next 5 = .ok (.invokevirtual 87, 3) := by decide +kernel
theorem dX6_next_8 : decode cX6_next 8 = .ok (.ireturn, 1) := by decide +kernel
theorem dX6_byteAt_0 : decode cX6_byteAt 0 = .ok (.iload_n 1, 1) := by decide +kernel
theorem dX6_byteAt_1 : decode cX6_byteAt 1 = .ok (.ifCond .lt 26, 3) := by decide +kernel
theorem dX6_byteAt_4 : decode cX6_byteAt 4 = .ok (.iload_n 1, 1) := by decide +kernel
theorem dX6_byteAt_5 : decode cX6_byteAt 5 = .ok (.aload_n 0, 1) := by decide +kernel
theorem dX6_byteAt_6 : decode cX6_byteAt 6 = .ok (.getfield 15, 3) := by decide +kernel
theorem dX6_byteAt_9 : decode cX6_byteAt 9 = .ok (.if_icmp .ge 18, 3) := by decide +kernel
theorem dX6_byteAt_12 : decode cX6_byteAt 12 = .ok (.iload_n 1, 1) := by decide +kernel
theorem dX6_byteAt_13 : decode cX6_byteAt 13 = .ok (.bipush 100, 2) := by decide +kernel
theorem dX6_byteAt_15 : decode cX6_byteAt 15 = .ok (.if_icmp .ge 12, 3) := by decide +kernel
theorem dX6_byteAt_18 : decode cX6_byteAt 18 = .ok (.aload_n 0, 1) := by decide +kernel
theorem dX6_byteAt_19 : decode cX6_byteAt 19 = .ok (.getfield 9, 3) := by decide +kernel
theorem dX6_byteAt_22 : decode cX6_byteAt 22 = .ok (.iload_n 1, 1) := by decide +kernel
theorem dX6_byteAt_23 : decode cX6_byteAt 23 = .ok (.iaload, 1) := by decide +kernel
theorem dX6_byteAt_24 : decode cX6_byteAt 24 = .ok (.goto 4, 3) := by decide +kernel
theorem dX6_byteAt_27 : decode cX6_byteAt 27 = .ok (.iconst (-1), 1) := by decide +kernel
theorem dX6_byteAt_28 : decode cX6_byteAt 28 = .ok (.ireturn, 1) := by decide +kernel
set_option maxRecDepth 20000 in
theorem ggX6_pass_X6_next : GoodIn wsX6_pass wsX6_next := goodIn_r _ [7, 2, 8, 9, 10, 6, 11, 12, 13, 18, 19, 20, 21] (by decide +kernel) (by decide +kernel)
set_option maxRecDepth 20000 in
theorem gX6_pass_X6_next : GoodIn wsX6_pass (wsV RX6 61 RX6 yX6_next wsX6_next) := goodIn_app (goodIn_of _ (by decide +kernel)) ggX6_pass_X6_next
set_option maxRecDepth 20000 in
theorem ggX6_pass_X6_fail : GoodIn wsX6_pass wsX6_fail := goodIn_r _ [17, 1, 18, 19, 20, 21] (by decide +kernel) (by decide +kernel)
set_option maxRecDepth 20000 in
theorem gX6_pass_X6_fail : GoodIn wsX6_pass (wsV RX6 69 RX6 yX6_fail wsX6_fail) := goodIn_app (goodIn_of _ (by decide +kernel)) ggX6_pass_X6_fail
theorem dX6_pass_0 : decode cX6_pass 0 = .ok (.aload_n 0, 1) := by decide +kernel
theorem dX6_pass_1 : decode cX6_pass 1 = .ok (.getfield 22, 3) := by decide +kernel
theorem dX6_pass_4 : decode cX6_pass 4 = .ok (.ifCond .eq 4, 3) := by decide +kernel
theorem dX6_pass_7 : decode cX6_pass 7 = .ok (.return_, 1) := by decide +kernel
theorem dX6_pass_8 : decode cX6_pass 8 = .ok (.aload_n 0, 1) := by decide +kernel
theorem dX6_pass_9 : decode cX6_pass 9 = .ok (.invokevirtual 61, 3) := by decide +kernel
theorem dX6_pass_12 : decode cX6_pass 12 = .ok (.iload_n 1, 1) := by decide +kernel
theorem dX6_pass_13 : decode cX6_pass 13 = .ok (.if_icmp .ne 16, 3) := by decide +kernel
theorem dX6_pass_16 : decode cX6_pass 16 = .ok (.aload_n 0, 1) := by decide +kernel
theorem dX6_pass_17 : decode cX6_pass 17 = .ok (.dup, 1) := by decide +kernel
theorem dX6_pass_18 : decode cX6_pass 18 = .ok (.getfield 19, 3) := by decide +kernel
theorem dX6_pass_21 : decode cX6_pass 21 = .ok (.iconst 1, 1) := by decide +kernel
theorem dX6_pass_22 : decode cX6_pass 22 = .ok (.iadd, 1) := by decide +kernel
theorem dX6_pass_23 : decode cX6_pass 23 = .ok (.putfield 19, 3) := by decide +kernel
theorem dX6_pass_26 : decode cX6_pass 26 = .ok (.goto 8, 3) := by decide +kernel
theorem dX6_pass_29 : decode cX6_pass 29 = .ok (.aload_n 0, 1) := by decide +kernel
theorem dX6_pass_30 : decode cX6_pass 30 = .ok (.iconst 1, 1) := by decide +kernel
theorem dX6_pass_31 : decode cX6_pass 31 = .ok (.invokevirtual 69, 3) := by decide +kernel
theorem dX6_pass_34 : decode cX6_pass 34 = .ok (.return_, 1) := by decide +kernel
theorem dX6_isFigure_0 : decode cX6_isFigure 0 = .ok (.iload_n 1, 1) := by decide +kernel
theorem dX6_isFigure_1 : decode cX6_isFigure 1 = .ok (.bipush 48, 2) := by decide +kernel
theorem dX6_isFigure_3 : decode cX6_isFigure 3 = .ok (.if_icmp .lt 13, 3) := by decide +kernel
theorem dX6_isFigure_6 : decode cX6_isFigure 6 = .ok (.iload_n 1, 1) := by decide +kernel
theorem dX6_isFigure_7 : decode cX6_isFigure 7 = .ok (.bipush 57, 2) := by decide +kernel
theorem dX6_isFigure_9 : decode cX6_isFigure 9 = .ok (.if_icmp .gt 7, 3) := by decide +kernel
theorem dX6_isFigure_12 : decode cX6_isFigure 12 = .ok (.iconst 1, 1) := by decide +kernel
theorem dX6_isFigure_13 : decode cX6_isFigure 13 = .ok (.goto 4, 3) := by decide +kernel
theorem dX6_isFigure_16 : decode cX6_isFigure 16 = .ok (.iconst 0, 1) := by decide +kernel
theorem dX6_isFigure_17 : decode cX6_isFigure 17 = .ok (.ireturn, 1) := by decide +kernel
set_option maxRecDepth 20000 in
theorem ggX6_number_X6_byteAt : GoodIn wsX6_number wsX6_byteAt := goodIn_r _ [7, 8, 9, 18, 19, 20, 21] (by decide +kernel) (by decide +kernel)
set_option maxRecDepth 20000 in
theorem gX6_number_X6_byteAt : GoodIn wsX6_number (wsV RX6 87 RX6 yX6_byteAt wsX6_byteAt) := goodIn_app (goodIn_of _ (by decide +kernel)) ggX6_number_X6_byteAt
set_option maxRecDepth 20000 in
theorem ggX6_number_X6_isFigure : GoodIn wsX6_number wsX6_isFigure := goodIn_r _ [13] (by decide +kernel) (by decide +kernel)
set_option maxRecDepth 20000 in
theorem gX6_number_X6_isFigure : GoodIn wsX6_number (wsV RX6 90 RX6 yX6_isFigure wsX6_isFigure) := goodIn_app (goodIn_of _ (by decide +kernel)) ggX6_number_X6_isFigure
set_option maxRecDepth 20000 in
theorem ggX6_number_X6_fail : GoodIn wsX6_number wsX6_fail := goodIn_r _ [17, 1, 18, 19, 20, 21] (by decide +kernel) (by decide +kernel)
set_option maxRecDepth 20000 in
theorem gX6_number_X6_fail : GoodIn wsX6_number (wsV RX6 69 RX6 yX6_fail wsX6_fail) := goodIn_app (goodIn_of _ (by decide +kernel)) ggX6_number_X6_fail
theorem dX6_number_0 : decode cX6_number 0 = .ok (.aload_n 0, 1) := by decide +kernel
theorem dX6_number_1 : decode cX6_number 1 = .ok (.getfield 22, 3) := by decide +kernel
theorem dX6_number_4 : decode cX6_number 4 = .ok (.ifCond .eq 5, 3) := by decide +kernel
theorem dX6_number_7 : decode cX6_number 7 = .ok (.iload_n 1, 1) := by decide +kernel
theorem dX6_number_8 : decode cX6_number 8 = .ok (.ireturn, 1) := by decide +kernel
theorem dX6_number_9 : decode cX6_number 9 = .ok (.iconst 0, 1) := by decide +kernel
theorem dX6_number_10 : decode cX6_number 10 = .ok (.istore_n 3, 1) := by decide +kernel
theorem dX6_number_11 : decode cX6_number 11 = .ok (.iconst 0, 1) := by decide +kernel
theorem dX6_number_12 : decode cX6_number 12 = .ok (.istore 4, 2) := by decide +kernel
theorem dX6_number_14 : decode cX6_number 14 = .ok (.iconst 0, 1) := by decide +kernel
theorem dX6_number_15 : decode cX6_number 15 = .ok (.istore 5, 2) := by decide +kernel
theorem dX6_number_17 : decode cX6_number 17 = .ok (.iload 5, 2) := by decide +kernel
theorem dX6_number_19 : decode cX6_number 19 = .ok (.iconst 3, 1) := by decide +kernel
theorem dX6_number_20 : decode cX6_number 20 = .ok (.if_icmp .ge 52, 3) := by decide +kernel
theorem dX6_number_23 : decode cX6_number 23 = .ok (.aload_n 0, 1) := by decide +kernel
theorem dX6_number_24 : decode cX6_number 24 = .ok (.aload_n 0, 1) := by decide +kernel
theorem dX6_number_25 : decode cX6_number 25 = .ok (.aload_n 0, 1) := by decide +kernel
theorem dX6_number_26 : decode cX6_number 26 = .ok (.getfield 19, 3) := by decide +kernel
theorem dX6_number_29 : decode cX6_number 29 = .ok (.iload 5, 2) := by decide +kernel
theorem dX6_number_31 : decode cX6_number 31 = .ok (.iadd, 1) := by decide +kernel
theorem dX6_number_32 : decode cX6_number 32 = .ok (.invokevirtual 87, 3) := by decide +kernel
theorem dX6_number_35 : decode cX6_number 35 = .ok (.invokevirtual 90, 3) := by decide +kernel
theorem dX6_number_38 : decode cX6_number 38 = .ok (.ifCond .eq 34, 3) := by decide +kernel
theorem dX6_number_41 : decode cX6_number 41 = .ok (.bipush 10, 2) := by decide +kernel
theorem dX6_number_43 : decode cX6_number 43 = .ok (.iload 4, 2) := by decide +kernel
theorem dX6_number_45 : decode cX6_number 45 = .ok (.imul, 1) := by decide +kernel
theorem dX6_number_46 : decode cX6_number 46 = .ok (.aload_n 0, 1) := by decide +kernel
theorem dX6_number_47 : decode cX6_number 47 = .ok (.aload_n 0, 1) := by decide +kernel
theorem dX6_number_48 : decode cX6_number 48 = .ok (.getfield 19, 3) := by decide +kernel
theorem dX6_number_51 : decode cX6_number 51 = .ok (.iload 5, 2) := by decide +kernel
theorem dX6_number_53 : decode cX6_number 53 = .ok (.iadd, 1) := by decide +kernel
theorem dX6_number_54 : decode cX6_number 54 = .ok (.invokevirtual 87, 3) := by decide +kernel
theorem dX6_number_57 : decode cX6_number 57 = .ok (.iadd, 1) := by decide +kernel
theorem dX6_number_58 : decode cX6_number 58 = .ok (.bipush 48, 2) := by decide +kernel
theorem dX6_number_60 : decode cX6_number 60 = .ok (.isub, 1) := by decide +kernel
theorem dX6_number_61 : decode cX6_number 61 = .ok (.istore 4, 2) := by decide +kernel
theorem dX6_number_63 : decode cX6_number 63 = .ok (.iinc 3 1, 3) := by decide +kernel
theorem dX6_number_66 : decode cX6_number 66 = .ok (.iinc 5 1, 3) := by decide +kernel
theorem dX6_number_69 : decode cX6_number 69 = .ok (.goto (-52), 3) := by decide +kernel
theorem dX6_number_72 : decode cX6_number 72 = .ok (.iload_n 3, 1) := by decide +kernel
theorem dX6_number_73 : decode cX6_number 73 = .ok (.iconst 1, 1) := by decide +kernel
theorem dX6_number_74 : decode cX6_number 74 = .ok (.if_icmp .lt 8, 3) := by decide +kernel
theorem dX6_number_77 : decode cX6_number 77 = .ok (.iload_n 3, 1) := by decide +kernel
theorem dX6_number_78 : decode cX6_number 78 = .ok (.iconst 2, 1) := by decide +kernel
theorem dX6_number_79 : decode cX6_number 79 = .ok (.if_icmp .le 10, 3) := by decide +kernel
theorem dX6_number_82 : decode cX6_number 82 = .ok (.aload_n 0, 1) := by decide +kernel
theorem dX6_number_83 : decode cX6_number 83 = .ok (.iconst 1, 1) := by decide +kernel
theorem dX6_number_84 : decode cX6_number 84 = .ok (.invokevirtual 69, 3) := by decide +kernel
theorem dX6_number_87 : decode cX6_number 87 = .ok (.iload_n 1, 1) := by decide +kernel
theorem dX6_number_88 : decode cX6_number 88 = .ok (.ireturn, 1) := by decide +kernel
theorem dX6_number_89 : decode cX6_number 89 = .ok (.iload 4, 2) := by decide +kernel
theorem dX6_number_91 : decode cX6_number 91 = .ok (.iload_n 1, 1) := by decide +kernel
theorem dX6_number_92 : decode cX6_number 92 = .ok (.if_icmp .lt 9, 3) := by decide +kernel
theorem dX6_number_95 : decode cX6_number 95 = .ok (.iload 4, 2) := by decide +kernel
theorem dX6_number_97 : decode cX6_number 97 = .ok (.iload_n 2, 1) := by decide +kernel
theorem dX6_number_98 : decode cX6_number 98 = .ok (.if_icmp .le 10, 3) := by decide +kernel
theorem dX6_number_101 : decode cX6_number 101 = .ok (.aload_n 0, 1) := by decide +kernel
theorem dX6_number_102 : decode cX6_number 102 = .ok (.iconst 2, 1) := by decide +kernel
theorem dX6_number_103 : decode cX6_number 103 = .ok (.invokevirtual 69, 3) := by decide +kernel
theorem dX6_number_106 : decode cX6_number 106 = .ok (.iload_n 1, 1) := by decide +kernel
theorem dX6_number_107 : decode cX6_number 107 = .ok (.ireturn, 1) := by decide +kernel
theorem dX6_number_108 : decode cX6_number 108 = .ok (.aload_n 0, 1) := by decide +kernel
theorem dX6_number_109 : decode cX6_number 109 = .ok (.dup, 1) := by decide +kernel
theorem dX6_number_110 : decode cX6_number 110 = .ok (.getfield 19, 3) := by decide +kernel
theorem dX6_number_113 : decode cX6_number 113 = .ok (.iload_n 3, 1) := by decide +kernel
theorem dX6_number_114 : decode cX6_number 114 = .ok (.iadd, 1) := by decide +kernel
theorem dX6_number_115 : decode cX6_number 115 = .ok (.putfield 19, 3) := by decide +kernel
theorem dX6_number_118 : decode cX6_number 118 = .ok (.iload 4, 2) := by decide +kernel
theorem dX6_number_120 : decode cX6_number 120 = .ok (.ireturn, 1) := by decide +kernel
set_option maxRecDepth 20000 in
theorem ggX7_init_X4_init : GoodIn wsX7_init wsX4_init := goodIn_r _ [38, 39, 2, 3, 40, 41, 42, 43, 44, 96, 97, 98] (by decide +kernel) (by decide +kernel)
set_option maxRecDepth 20000 in
theorem gX7_init_X4_init : GoodIn wsX7_init (wsX4_init) := ggX7_init_X4_init
set_option maxRecDepth 20000 in
theorem ggX7_init_X6_init : GoodIn wsX7_init wsX6_init := goodIn_r _ [46, 47, 2, 3, 41, 48, 49, 50, 51, 110, 111, 112, 113] (by decide +kernel) (by decide +kernel)
set_option maxRecDepth 20000 in
theorem gX7_init_X6_init_n18 : GoodIn wsX7_init (wsX6_init) := ggX7_init_X6_init
set_option maxRecDepth 20000 in
theorem ggX7_init_X3_init : GoodIn wsX7_init wsX3_init := goodIn_r _ [53, 54, 2, 3, 55, 56, 57, 58, 59, 60, 41, 61, 62, 63, 64, 65, 66, 114, 115, 116, 117, 118, 119, 120, 121, 122, 123, 124, 125] (by decide +kernel) (by decide +kernel)
set_option maxRecDepth 20000 in
theorem gX7_init_X3_init_n25 : GoodIn wsX7_init (wsX3_init) := ggX7_init_X3_init
set_option maxRecDepth 20000 in
theorem ggX7_init_X0_init : GoodIn wsX7_init wsX0_init := goodIn_r _ [69, 70, 2, 3, 71, 72, 73, 74, 13, 14, 52, 53, 54, 55, 56, 57, 58, 59, 60, 41, 61, 62, 63, 64, 65, 66, 126, 127, 128, 114, 115, 116, 117, 118, 119, 120, 121, 122, 123, 124, 125] (by decide +kernel) (by decide +kernel)
set_option maxRecDepth 20000 in
theorem gX7_init_X0_init : GoodIn wsX7_init (wsX0_init) := ggX7_init_X0_init
set_option maxRecDepth 20000 in
theorem ggX7_init_X5_init : GoodIn wsX7_init wsX5_init := goodIn_r _ [76, 77, 2, 3, 78, 13, 14, 79, 41, 80, 52, 53, 54, 55, 56, 57, 58, 59, 60, 61, 62, 63, 64, 65, 66, 114, 115, 116, 117, 118, 119, 120, 121, 122, 123, 124, 125, 129, 130] (by decide +kernel) (by decide +kernel)
set_option maxRecDepth 20000 in
theorem gX7_init_X5_init_n46 : GoodIn wsX7_init (wsX5_init) := ggX7_init_X5_init
set_option maxRecDepth 20000 in
theorem ggX7_init_X2_init : GoodIn wsX7_init wsX2_init := goodIn_r _ [82, 83, 2, 3, 84, 13, 14, 85, 86, 87, 41, 88, 89, 90, 52, 53, 54, 55, 56, 57, 58, 59, 60, 61, 62, 63, 64, 65, 66, 114, 115, 116, 117, 118, 119, 120, 121, 122, 123, 124, 125, 131, 132, 133, 134, 135] (by decide +kernel) (by decide +kernel)
set_option maxRecDepth 20000 in
theorem gX7_init_X2_init_n53 : GoodIn wsX7_init (wsX2_init) := ggX7_init_X2_init
set_option maxRecDepth 20000 in
theorem ggX7_init_X1_init : GoodIn wsX7_init wsX1_init := goodIn_r _ [92, 93, 2, 3, 41, 94, 95, 136, 137] (by decide +kernel) (by decide +kernel)
set_option maxRecDepth 20000 in
theorem gX7_init_X1_init_n60 : GoodIn wsX7_init (wsX1_init) := ggX7_init_X1_init
theorem dX7_init_0 : decode cX7_init 0 = .ok (.aload_n 0, 1) := by decide +kernel
theorem dX7_init_1 : decode cX7_init 1 = .ok (.invokespecial 1, 3) := by decide +kernel
theorem dX7_init_4 : decode cX7_init 4 = .ok (.aload_n 0, 1) := by decide +kernel
theorem dX7_init_5 : decode cX7_init 5 = .ok (.new 7, 3) := by decide +kernel
theorem dX7_init_8 : decode cX7_init 8 = .ok (.dup, 1) := by decide +kernel
theorem dX7_init_9 : decode cX7_init 9 = .ok (.invokespecial 9, 3) := by decide +kernel
theorem dX7_init_12 : decode cX7_init 12 = .ok (.putfield 10, 3) := by decide +kernel
theorem dX7_init_15 : decode cX7_init 15 = .ok (.aload_n 0, 1) := by decide +kernel
theorem dX7_init_16 : decode cX7_init 16 = .ok (.new 16, 3) := by decide +kernel
theorem dX7_init_19 : decode cX7_init 19 = .ok (.dup, 1) := by decide +kernel
theorem dX7_init_20 : decode cX7_init 20 = .ok (.invokespecial 18, 3) := by decide +kernel
theorem dX7_init_23 : decode cX7_init 23 = .ok (.putfield 19, 3) := by decide +kernel
theorem dX7_init_26 : decode cX7_init 26 = .ok (.aload_n 0, 1) := by decide +kernel
theorem dX7_init_27 : decode cX7_init 27 = .ok (.new 23, 3) := by decide +kernel
theorem dX7_init_30 : decode cX7_init 30 = .ok (.dup, 1) := by decide +kernel
theorem dX7_init_31 : decode cX7_init 31 = .ok (.invokespecial 25, 3) := by decide +kernel
theorem dX7_init_34 : decode cX7_init 34 = .ok (.putfield 26, 3) := by decide +kernel
theorem dX7_init_37 : decode cX7_init 37 = .ok (.aload_n 0, 1) := by decide +kernel
theorem dX7_init_38 : decode cX7_init 38 = .ok (.new 23, 3) := by decide +kernel
theorem dX7_init_41 : decode cX7_init 41 = .ok (.dup, 1) := by decide +kernel
theorem dX7_init_42 : decode cX7_init 42 = .ok (.invokespecial 25, 3) := by decide +kernel
theorem dX7_init_45 : decode cX7_init 45 = .ok (.putfield 30, 3) := by decide +kernel
theorem dX7_init_48 : decode cX7_init 48 = .ok (.aload_n 0, 1) := by decide +kernel
theorem dX7_init_49 : decode cX7_init 49 = .ok (.new 33, 3) := by decide +kernel
theorem dX7_init_52 : decode cX7_init 52 = .ok (.dup, 1) := by decide +kernel
theorem dX7_init_53 : decode cX7_init 53 = .ok (.invokespecial 35, 3) := by decide +kernel
theorem dX7_init_56 : decode cX7_init 56 = .ok (.putfield 36, 3) := by decide +kernel
theorem dX7_init_59 : decode cX7_init 59 = .ok (.aload_n 0, 1) := by decide +kernel
theorem dX7_init_60 : decode cX7_init 60 = .ok (.iconst 2, 1) := by decide +kernel
theorem dX7_init_61 : decode cX7_init 61 = .ok (.anewarray 23, 3) := by decide +kernel
theorem dX7_init_64 : decode cX7_init 64 = .ok (.putfield 40, 3) := by decide +kernel
theorem dX7_init_67 : decode cX7_init 67 = .ok (.aload_n 0, 1) := by decide +kernel
theorem dX7_init_68 : decode cX7_init 68 = .ok (.new 44, 3) := by decide +kernel
theorem dX7_init_71 : decode cX7_init 71 = .ok (.dup, 1) := by decide +kernel
theorem dX7_init_72 : decode cX7_init 72 = .ok (.invokespecial 46, 3) := by decide +kernel
theorem dX7_init_75 : decode cX7_init 75 = .ok (.putfield 47, 3) := by decide +kernel
theorem dX7_init_78 : decode cX7_init 78 = .ok (.aload_n 0, 1) := by decide +kernel
theorem dX7_init_79 : decode cX7_init 79 = .ok (.new 51, 3) := by decide +kernel
theorem dX7_init_82 : decode cX7_init 82 = .ok (.dup, 1) := by decide +kernel
theorem dX7_init_83 : decode cX7_init 83 = .ok (.invokespecial 53, 3) := by decide +kernel
theorem dX7_init_86 : decode cX7_init 86 = .ok (.putfield 54, 3) := by decide +kernel
theorem dX7_init_89 : decode cX7_init 89 = .ok (.aload_n 0, 1) := by decide +kernel
theorem dX7_init_90 : decode cX7_init 90 = .ok (.new 58, 3) := by decide +kernel
theorem dX7_init_93 : decode cX7_init 93 = .ok (.dup, 1) := by decide +kernel
theorem dX7_init_94 : decode cX7_init 94 = .ok (.invokespecial 60, 3) := by decide +kernel
theorem dX7_init_97 : decode cX7_init 97 = .ok (.putfield 61, 3) := by decide +kernel
theorem dX7_init_100 : decode cX7_init 100 = .ok (.aload_n 0, 1) := by decide +kernel
theorem dX7_init_101 : decode cX7_init 101 = .ok (.iconst 0, 1) := by decide +kernel
theorem dX7_init_102 : decode cX7_init 102 = .ok (.putfield 65, 3) := by decide +kernel
theorem dX7_init_105 : decode cX7_init 105 = .ok (.aload_n 0, 1) := by decide +kernel
theorem dX7_init_106 : decode cX7_init 106 = .ok (.iconst 0, 1) := by decide +kernel
theorem dX7_init_107 : decode cX7_init 107 = .ok (.putfield 69, 3) := by decide +kernel
theorem dX7_init_110 : decode cX7_init 110 = .ok (.iconst 0, 1) := by decide +kernel
theorem dX7_init_111 : decode cX7_init 111 = .ok (.istore_n 1, 1) := by decide +kernel
theorem dX7_init_112 : decode cX7_init 112 = .ok (.iload_n 1, 1) := by decide +kernel
theorem dX7_init_113 : decode cX7_init 113 = .ok (.iconst 2, 1) := by decide +kernel
theorem dX7_init_114 : decode cX7_init 114 = .ok (.if_icmp .ge 22, 3) := by decide +kernel
theorem dX7_init_117 : decode cX7_init 117 = .ok (.aload_n 0, 1) := by decide +kernel
theorem dX7_init_118 : decode cX7_init 118 = .ok (.getfield 40, 3) := by decide +kernel
theorem dX7_init_121 : decode cX7_init 121 = .ok (.iload_n 1, 1) := by decide +kernel
theorem dX7_init_122 : decode cX7_init 122 = .ok (.new 23, 3) := by decide +kernel
theorem dX7_init_125 : decode cX7_init 125 = .ok (.dup, 1) := by decide +kernel
theorem dX7_init_126 : decode cX7_init 126 = .ok (.invokespecial 25, 3) := by decide +kernel
theorem dX7_init_129 : decode cX7_init 129 = .ok (.aastore, 1) := by decide +kernel
theorem dX7_init_130 : decode cX7_init 130 = .ok (.iinc 1 1, 3) := by decide +kernel
theorem dX7_init_133 : decode cX7_init 133 = .ok (.goto (-21), 3) := by decide +kernel
theorem dX7_init_136 : decode cX7_init 136 = .ok (.return_, 1) := by decide +kernel
set_option maxRecDepth 20000 in
theorem ggX7_row_X7_isRow : GoodIn wsX7_row wsX7_isRow := goodIn_r _ [6] (by decide +kernel) (by decide +kernel)
set_option maxRecDepth 20000 in
theorem gX7_row_X7_isRow : GoodIn wsX7_row (va_wsS RX7 72 yX7_isRow wsX7_isRow) := goodIn_app (goodIn_of _ (by decide +kernel)) ggX7_row_X7_isRow
set_option maxRecDepth 20000 in
theorem ggX7_row_X7_found : GoodIn wsX7_row wsX7_found := goodIn_r _ [10, 11, 12, 25, 26, 27, 28, 29, 30, 31, 32, 33, 34, 35] (by decide +kernel) (by decide +kernel)
set_option maxRecDepth 20000 in
theorem gX7_row_X7_found : GoodIn wsX7_row (wsV RX7 77 RX7 yX7_found wsX7_found) := goodIn_app (goodIn_of _ (by decide +kernel)) ggX7_row_X7_found
set_option maxRecDepth 20000 in
theorem ggX7_row_X4_makeAnew : GoodIn wsX7_row wsX4_makeAnew := goodIn_r _ [17, 18, 19, 20, 36, 37, 38] (by decide +kernel) (by decide +kernel)
set_option maxRecDepth 20000 in
theorem gX7_row_X4_makeAnew : GoodIn wsX7_row (wsV RX7 81 RX4 yX4_makeAnew wsX4_makeAnew) := goodIn_app (goodIn_of _ (by decide +kernel)) ggX7_row_X4_makeAnew
set_option maxRecDepth 20000 in
theorem ggX7_row_X7_fine : GoodIn wsX7_row wsX7_fine := goodIn_r _ [24, 11, 25, 26, 27, 28, 29, 30, 31, 32, 33, 34, 35] (by decide +kernel) (by decide +kernel)
set_option maxRecDepth 20000 in
theorem gX7_row_X7_fine : GoodIn wsX7_row (wsV RX7 85 RX7 yX7_fine wsX7_fine) := goodIn_app (goodIn_of _ (by decide +kernel)) ggX7_row_X7_fine
theorem dX7_row_0 : decode cX7_row 0 = .ok (.iload_n 1, 1) := by decide +kernel
theorem dX7_row_1 : decode cX7_row 1 = .ok (.invokestatic 72, 3) := by decide +kernel
theorem dX7_row_4 : decode cX7_row 4 = .ok (.ifCond .eq 18, 3) := by decide +kernel
theorem dX7_row_7 : decode cX7_row 7 = .ok (.iload_n 2, 1) := by decide +kernel
theorem dX7_row_8 : decode cX7_row 8 = .ok (.ifCond .lt 14, 3) := by decide +kernel
theorem dX7_row_11 : decode cX7_row 11 = .ok (.iload_n 2, 1) := by decide +kernel
theorem dX7_row_12 : decode cX7_row 12 = .ok (.iconst 3, 1) := by decide +kernel
theorem dX7_row_13 : decode cX7_row 13 = .ok (.if_icmp .ge 9, 3) := by decide +kernel
theorem dX7_row_16 : decode cX7_row 16 = .ok (.iload_n 3, 1) := by decide +kernel
theorem dX7_row_17 : decode cX7_row 17 = .ok (.bipush 40, 2) := by decide +kernel
theorem dX7_row_19 : decode cX7_row 19 = .ok (.if_icmp .le 6, 3) := by decide +kernel
theorem dX7_row_22 : decode cX7_row 22 = .ok (.ldc 76, 2) := by decide +kernel
theorem dX7_row_24 : decode cX7_row 24 = .ok (.ireturn, 1) := by decide +kernel
theorem dX7_row_25 : decode cX7_row 25 = .ok (.iload_n 3, 1) := by decide +kernel
theorem dX7_row_26 : decode cX7_row 26 = .ok (.ifCond .ge 9, 3) := by decide +kernel
theorem dX7_row_29 : decode cX7_row 29 = .ok (.aload_n 0, 1) := by decide +kernel
theorem dX7_row_30 : decode cX7_row 30 = .ok (.iconst 4, 1) := by decide +kernel
theorem dX7_row_31 : decode cX7_row 31 = .ok (.invokevirtual 77, 3) := by decide +kernel
theorem dX7_row_34 : decode cX7_row 34 = .ok (.ireturn, 1) := by decide +kernel
theorem dX7_row_35 : decode cX7_row 35 = .ok (.aload_n 0, 1) := by decide +kernel
theorem dX7_row_36 : decode cX7_row 36 = .ok (.getfield 10, 3) := by decide +kernel
theorem dX7_row_39 : decode cX7_row 39 = .ok (.iload_n 1, 1) := by decide +kernel
theorem dX7_row_40 : decode cX7_row 40 = .ok (.iload_n 2, 1) := by decide +kernel
theorem dX7_row_41 : decode cX7_row 41 = .ok (.iload_n 3, 1) := by decide +kernel
theorem dX7_row_42 : decode cX7_row 42 = .ok (.invokevirtual 81, 3) := by decide +kernel
theorem dX7_row_45 : decode cX7_row 45 = .ok (.aload_n 0, 1) := by decide +kernel
theorem dX7_row_46 : decode cX7_row 46 = .ok (.iload_n 3, 1) := by decide +kernel
theorem dX7_row_47 : decode cX7_row 47 = .ok (.invokevirtual 85, 3) := by decide +kernel
theorem dX7_row_50 : decode cX7_row 50 = .ok (.ireturn, 1) := by decide +kernel
set_option maxRecDepth 20000 in
theorem ggX7_set_X7_isRow : GoodIn wsX7_set wsX7_isRow := goodIn_r _ [6] (by decide +kernel) (by decide +kernel)
set_option maxRecDepth 20000 in
theorem gX7_set_X7_isRow : GoodIn wsX7_set (va_wsS RX7 72 yX7_isRow wsX7_isRow) := goodIn_app (goodIn_of _ (by decide +kernel)) ggX7_set_X7_isRow
set_option maxRecDepth 20000 in
theorem ggX7_set_X4_isMissing : GoodIn wsX7_set wsX4_isMissing := goodIn_r _ [11, 12, 44, 45, 46] (by decide +kernel) (by decide +kernel)
set_option maxRecDepth 20000 in
theorem gX7_set_X4_isMissing : GoodIn wsX7_set (wsV RX7 88 RX4 yX4_isMissing wsX4_isMissing) := goodIn_app (goodIn_of _ (by decide +kernel)) ggX7_set_X4_isMissing
set_option maxRecDepth 20000 in
theorem ggX7_set_X7_found : GoodIn wsX7_set wsX7_found := goodIn_r _ [16, 17, 18, 33, 34, 35, 36, 37, 38, 39, 40, 41, 42, 43] (by decide +kernel) (by decide +kernel)
set_option maxRecDepth 20000 in
theorem gX7_set_X7_found : GoodIn wsX7_set (wsV RX7 77 RX7 yX7_found wsX7_found) := goodIn_app (goodIn_of _ (by decide +kernel)) ggX7_set_X7_found
set_option maxRecDepth 20000 in
theorem ggX7_set_X4_hasRun : GoodIn wsX7_set wsX4_hasRun := goodIn_r _ [22, 12, 44, 45, 46] (by decide +kernel) (by decide +kernel)
set_option maxRecDepth 20000 in
theorem gX7_set_X4_hasRun : GoodIn wsX7_set (wsV RX7 91 RX4 yX4_hasRun wsX4_hasRun) := goodIn_app (goodIn_of _ (by decide +kernel)) ggX7_set_X4_hasRun
set_option maxRecDepth 20000 in
theorem ggX7_set_X4_put : GoodIn wsX7_set wsX4_put := goodIn_r _ [26, 27, 28, 44, 45, 46] (by decide +kernel) (by decide +kernel)
set_option maxRecDepth 20000 in
theorem gX7_set_X4_put : GoodIn wsX7_set (wsV RX7 95 RX4 yX4_put wsX4_put) := goodIn_app (goodIn_of _ (by decide +kernel)) ggX7_set_X4_put
set_option maxRecDepth 20000 in
theorem ggX7_set_X7_fine : GoodIn wsX7_set wsX7_fine := goodIn_r _ [32, 17, 33, 34, 35, 36, 37, 38, 39, 40, 41, 42, 43] (by decide +kernel) (by decide +kernel)
set_option maxRecDepth 20000 in
theorem gX7_set_X7_fine : GoodIn wsX7_set (wsV RX7 85 RX7 yX7_fine wsX7_fine) := goodIn_app (goodIn_of _ (by decide +kernel)) ggX7_set_X7_fine
theorem dX7_set_0 : decode cX7_set 0 = .ok (.iload_n 1, 1) := by decide +kernel
theorem dX7_set_1 : decode cX7_set 1 = .ok (.invokestatic 72, 3) := by decide +kernel
theorem dX7_set_4 : decode cX7_set 4 = .ok (.ifCond .ne 6, 3) := by decide +kernel
theorem dX7_set_7 : decode cX7_set 7 = .ok (.ldc 76, 2) := by decide +kernel
theorem dX7_set_9 : decode cX7_set 9 = .ok (.ireturn, 1) := by decide +kernel
theorem dX7_set_10 : decode cX7_set 10 = .ok (.aload_n 0, 1) := by decide +kernel
theorem dX7_set_11 : decode cX7_set 11 = .ok (.getfield 10, 3) := by decide +kernel
theorem dX7_set_14 : decode cX7_set 14 = .ok (.iload_n 1, 1) := by decide +kernel
theorem dX7_set_15 : decode cX7_set 15 = .ok (.invokevirtual 88, 3) := by decide +kernel
theorem dX7_set_18 : decode cX7_set 18 = .ok (.ifCond .eq 9, 3) := by decide +kernel
theorem dX7_set_21 : decode cX7_set 21 = .ok (.aload_n 0, 1) := by decide +kernel
theorem dX7_set_22 : decode cX7_set 22 = .ok (.iconst 1, 1) := by decide +kernel
theorem dX7_set_23 : decode cX7_set 23 = .ok (.invokevirtual 77, 3) := by decide +kernel
theorem dX7_set_26 : decode cX7_set 26 = .ok (.ireturn, 1) := by decide +kernel
theorem dX7_set_27 : decode cX7_set 27 = .ok (.aload_n 0, 1) := by decide +kernel
theorem dX7_set_28 : decode cX7_set 28 = .ok (.getfield 10, 3) := by decide +kernel
theorem dX7_set_31 : decode cX7_set 31 = .ok (.iload_n 1, 1) := by decide +kernel
theorem dX7_set_32 : decode cX7_set 32 = .ok (.iload_n 2, 1) := by decide +kernel
theorem dX7_set_33 : decode cX7_set 33 = .ok (.iconst 1, 1) := by decide +kernel
theorem dX7_set_34 : decode cX7_set 34 = .ok (.invokevirtual 91, 3) := by decide +kernel
theorem dX7_set_37 : decode cX7_set 37 = .ok (.ifCond .ne 9, 3) := by decide +kernel
theorem dX7_set_40 : decode cX7_set 40 = .ok (.aload_n 0, 1) := by decide +kernel
theorem dX7_set_41 : decode cX7_set 41 = .ok (.iconst 2, 1) := by decide +kernel
theorem dX7_set_42 : decode cX7_set 42 = .ok (.invokevirtual 77, 3) := by decide +kernel
theorem dX7_set_45 : decode cX7_set 45 = .ok (.ireturn, 1) := by decide +kernel
theorem dX7_set_46 : decode cX7_set 46 = .ok (.aload_n 0, 1) := by decide +kernel
theorem dX7_set_47 : decode cX7_set 47 = .ok (.aload_n 0, 1) := by decide +kernel
theorem dX7_set_48 : decode cX7_set 48 = .ok (.getfield 10, 3) := by decide +kernel
theorem dX7_set_51 : decode cX7_set 51 = .ok (.iload_n 1, 1) := by decide +kernel
theorem dX7_set_52 : decode cX7_set 52 = .ok (.iload_n 2, 1) := by decide +kernel
theorem dX7_set_53 : decode cX7_set 53 = .ok (.iload_n 3, 1) := by decide +kernel
theorem dX7_set_54 : decode cX7_set 54 = .ok (.invokevirtual 95, 3) := by decide +kernel
theorem dX7_set_57 : decode cX7_set 57 = .ok (.invokevirtual 85, 3) := by decide +kernel
theorem dX7_set_60 : decode cX7_set 60 = .ok (.ireturn, 1) := by decide +kernel
set_option maxRecDepth 20000 in
theorem ggX7_copy_X7_isRow : GoodIn wsX7_copy wsX7_isRow := goodIn_r _ [12] (by decide +kernel) (by decide +kernel)
set_option maxRecDepth 20000 in
theorem gX7_copy_X7_isRow : GoodIn wsX7_copy (va_wsS RX7 72 yX7_isRow wsX7_isRow) := goodIn_app (goodIn_of _ (by decide +kernel)) ggX7_copy_X7_isRow
set_option maxRecDepth 20000 in
theorem ggX7_copy_X4_isMissing : GoodIn wsX7_copy wsX4_isMissing := goodIn_r _ [17, 18, 44, 45, 46] (by decide +kernel) (by decide +kernel)
set_option maxRecDepth 20000 in
theorem gX7_copy_X4_isMissing : GoodIn wsX7_copy (wsV RX7 88 RX4 yX4_isMissing wsX4_isMissing) := goodIn_app (goodIn_of _ (by decide +kernel)) ggX7_copy_X4_isMissing
set_option maxRecDepth 20000 in
theorem ggX7_copy_X7_found : GoodIn wsX7_copy wsX7_found := goodIn_r _ [22, 23, 24, 33, 34, 35, 36, 37, 38, 39, 40, 41, 42, 43] (by decide +kernel) (by decide +kernel)
set_option maxRecDepth 20000 in
theorem gX7_copy_X7_found : GoodIn wsX7_copy (wsV RX7 77 RX7 yX7_found wsX7_found) := goodIn_app (goodIn_of _ (by decide +kernel)) ggX7_copy_X7_found
set_option maxRecDepth 20000 in
theorem ggX7_copy_X4_hasRun : GoodIn wsX7_copy wsX4_hasRun := goodIn_r _ [28, 18, 44, 45, 46] (by decide +kernel) (by decide +kernel)
set_option maxRecDepth 20000 in
theorem gX7_copy_X4_hasRun : GoodIn wsX7_copy (wsV RX7 91 RX4 yX4_hasRun wsX4_hasRun) := goodIn_app (goodIn_of _ (by decide +kernel)) ggX7_copy_X4_hasRun
set_option maxRecDepth 20000 in
theorem ggX7_copy_X7_fine : GoodIn wsX7_copy wsX7_fine := goodIn_r _ [32, 23, 33, 34, 35, 36, 37, 38, 39, 40, 41, 42, 43] (by decide +kernel) (by decide +kernel)
set_option maxRecDepth 20000 in
theorem gX7_copy_X7_fine : GoodIn wsX7_copy (wsV RX7 85 RX7 yX7_fine wsX7_fine) := goodIn_app (goodIn_of _ (by decide +kernel)) ggX7_copy_X7_fine
theorem dX7_copy_0 : decode cX7_copy 0 = .ok (.iload_n 1, 1) := by decide +kernel
theorem dX7_copy_1 : decode cX7_copy 1 = .ok (.invokestatic 72, 3) := by decide +kernel
theorem dX7_copy_4 : decode cX7_copy 4 = .ok (.ifCond .eq 10, 3) := by decide +kernel
theorem dX7_copy_7 : decode cX7_copy 7 = .ok (.iload_n 3, 1) := by decide +kernel
theorem dX7_copy_8 : decode cX7_copy 8 = .ok (.invokestatic 72, 3) := by decide +kernel
theorem dX7_copy_11 : decode cX7_copy 11 = .ok (.ifCond .ne 6, 3) := by decide +kernel
theorem dX7_copy_14 : decode cX7_copy 14 = .ok (.ldc 76, 2) := by decide +kernel
theorem dX7_copy_16 : decode cX7_copy 16 = .ok (.ireturn, 1) := by decide +kernel
theorem dX7_copy_17 : decode cX7_copy 17 = .ok (.aload_n 0, 1) := by decide +kernel
theorem dX7_copy_18 : decode cX7_copy 18 = .ok (.getfield 10, 3) := by decide +kernel
theorem dX7_copy_21 : decode cX7_copy 21 = .ok (.iload_n 1, 1) := by decide +kernel
theorem dX7_copy_22 : decode cX7_copy 22 = .ok (.invokevirtual 88, 3) := by decide +kernel
theorem dX7_copy_25 : decode cX7_copy 25 = .ok (.ifCond .ne 14, 3) := by decide +kernel
theorem dX7_copy_28 : decode cX7_copy 28 = .ok (.aload_n 0, 1) := by decide +kernel
theorem dX7_copy_29 : decode cX7_copy 29 = .ok (.getfield 10, 3) := by decide +kernel
theorem dX7_copy_32 : decode cX7_copy 32 = .ok (.iload_n 3, 1) := by decide +kernel
theorem dX7_copy_33 : decode cX7_copy 33 = .ok (.invokevirtual 88, 3) := by decide +kernel
theorem dX7_copy_36 : decode cX7_copy 36 = .ok (.ifCond .eq 9, 3) := by decide +kernel
theorem dX7_copy_39 : decode cX7_copy 39 = .ok (.aload_n 0, 1) := by decide +kernel
theorem dX7_copy_40 : decode cX7_copy 40 = .ok (.iconst 1, 1) := by decide +kernel
theorem dX7_copy_41 : decode cX7_copy 41 = .ok (.invokevirtual 77, 3) := by decide +kernel
theorem dX7_copy_44 : decode cX7_copy 44 = .ok (.ireturn, 1) := by decide +kernel
theorem dX7_copy_45 : decode cX7_copy 45 = .ok (.aload_n 0, 1) := by decide +kernel
theorem dX7_copy_46 : decode cX7_copy 46 = .ok (.getfield 10, 3) := by decide +kernel
theorem dX7_copy_49 : decode cX7_copy 49 = .ok (.getfield 99, 3) := by decide +kernel
theorem dX7_copy_52 : decode cX7_copy 52 = .ok (.iload_n 1, 1) := by decide +kernel
theorem dX7_copy_53 : decode cX7_copy 53 = .ok (.iaload, 1) := by decide +kernel
theorem dX7_copy_54 : decode cX7_copy 54 = .ok (.aload_n 0, 1) := by decide +kernel
theorem dX7_copy_55 : decode cX7_copy 55 = .ok (.getfield 10, 3) := by decide +kernel
theorem dX7_copy_58 : decode cX7_copy 58 = .ok (.getfield 99, 3) := by decide +kernel
theorem dX7_copy_61 : decode cX7_copy 61 = .ok (.iload_n 3, 1) := by decide +kernel
theorem dX7_copy_62 : decode cX7_copy 62 = .ok (.iaload, 1) := by decide +kernel
theorem dX7_copy_63 : decode cX7_copy 63 = .ok (.if_icmp .eq 9, 3) := by decide +kernel
theorem dX7_copy_66 : decode cX7_copy 66 = .ok (.aload_n 0, 1) := by decide +kernel
theorem dX7_copy_67 : decode cX7_copy 67 = .ok (.iconst 5, 1) := by decide +kernel
theorem dX7_copy_68 : decode cX7_copy 68 = .ok (.invokevirtual 77, 3) := by decide +kernel
theorem dX7_copy_71 : decode cX7_copy 71 = .ok (.ireturn, 1) := by decide +kernel
theorem dX7_copy_72 : decode cX7_copy 72 = .ok (.aload_n 0, 1) := by decide +kernel
theorem dX7_copy_73 : decode cX7_copy 73 = .ok (.getfield 10, 3) := by decide +kernel
theorem dX7_copy_76 : decode cX7_copy 76 = .ok (.iload_n 1, 1) := by decide +kernel
theorem dX7_copy_77 : decode cX7_copy 77 = .ok (.iload_n 2, 1) := by decide +kernel
theorem dX7_copy_78 : decode cX7_copy 78 = .ok (.iload 5, 2) := by decide +kernel
theorem dX7_copy_80 : decode cX7_copy 80 = .ok (.invokevirtual 91, 3) := by decide +kernel
theorem dX7_copy_83 : decode cX7_copy 83 = .ok (.ifCond .eq 18, 3) := by decide +kernel
theorem dX7_copy_86 : decode cX7_copy 86 = .ok (.aload_n 0, 1) := by decide +kernel
theorem dX7_copy_87 : decode cX7_copy 87 = .ok (.getfield 10, 3) := by decide +kernel
theorem dX7_copy_90 : decode cX7_copy 90 = .ok (.iload_n 3, 1) := by decide +kernel
theorem dX7_copy_91 : decode cX7_copy 91 = .ok (.iload 4, 2) := by decide +kernel
theorem dX7_copy_93 : decode cX7_copy 93 = .ok (.iload 5, 2) := by decide +kernel
theorem dX7_copy_95 : decode cX7_copy 95 = .ok (.invokevirtual 91, 3) := by decide +kernel
theorem dX7_copy_98 : decode cX7_copy 98 = .ok (.ifCond .ne 9, 3) := by decide +kernel
theorem dX7_copy_101 : decode cX7_copy 101 = .ok (.aload_n 0, 1) := by decide +kernel
theorem dX7_copy_102 : decode cX7_copy 102 = .ok (.iconst 2, 1) := by decide +kernel
theorem dX7_copy_103 : decode cX7_copy 103 = .ok (.invokevirtual 77, 3) := by decide +kernel
theorem dX7_copy_106 : decode cX7_copy 106 = .ok (.ireturn, 1) := by decide +kernel
theorem dX7_copy_107 : decode cX7_copy 107 = .ok (.aload_n 0, 1) := by decide +kernel
