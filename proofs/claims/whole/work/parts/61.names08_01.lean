theorem dX10_read_21 : decode cX10_read 21 = .ok (.invokevirtual 247, 3) := by decide +kernel
theorem dX10_read_24 : decode cX10_read 24 = .ok (.ireturn, 1) := by decide +kernel
theorem dX10_read_25 : decode cX10_read 25 = .ok (.iconst 0, 1) := by decide +kernel
theorem dX10_read_26 : decode cX10_read 26 = .ok (.istore_n 2, 1) := by decide +kernel
theorem dX10_read_27 : decode cX10_read 27 = .ok (.iconst 2, 1) := by decide +kernel
theorem dX10_read_28 : decode cX10_read 28 = .ok (.iload_n 2, 1) := by decide +kernel
theorem dX10_read_29 : decode cX10_read 29 = .ok (.imul, 1) := by decide +kernel
theorem dX10_read_30 : decode cX10_read 30 = .ok (.iconst 1, 1) := by decide +kernel
theorem dX10_read_31 : decode cX10_read 31 = .ok (.iadd, 1) := by decide +kernel
theorem dX10_read_32 : decode cX10_read 32 = .ok (.aload_n 0, 1) := by decide +kernel
theorem dX10_read_33 : decode cX10_read 33 = .ok (.getfield 62, 3) := by decide +kernel
theorem dX10_read_36 : decode cX10_read 36 = .ok (.iload_n 1, 1) := by decide +kernel
theorem dX10_read_37 : decode cX10_read 37 = .ok (.iaload, 1) := by decide +kernel
theorem dX10_read_38 : decode cX10_read 38 = .ok (.if_icmp .ge 44, 3) := by decide +kernel
theorem dX10_read_41 : decode cX10_read 41 = .ok (.aload_n 0, 1) := by decide +kernel
theorem dX10_read_42 : decode cX10_read 42 = .ok (.aload_n 0, 1) := by decide +kernel
theorem dX10_read_43 : decode cX10_read 43 = .ok (.getfield 65, 3) := by decide +kernel
theorem dX10_read_46 : decode cX10_read 46 = .ok (.bipush 60, 2) := by decide +kernel
theorem dX10_read_48 : decode cX10_read 48 = .ok (.iload_n 1, 1) := by decide +kernel
theorem dX10_read_49 : decode cX10_read 49 = .ok (.imul, 1) := by decide +kernel
theorem dX10_read_50 : decode cX10_read 50 = .ok (.iconst 2, 1) := by decide +kernel
theorem dX10_read_51 : decode cX10_read 51 = .ok (.iload_n 2, 1) := by decide +kernel
theorem dX10_read_52 : decode cX10_read 52 = .ok (.imul, 1) := by decide +kernel
theorem dX10_read_53 : decode cX10_read 53 = .ok (.iadd, 1) := by decide +kernel
theorem dX10_read_54 : decode cX10_read 54 = .ok (.iaload, 1) := by decide +kernel
theorem dX10_read_55 : decode cX10_read 55 = .ok (.aload_n 0, 1) := by decide +kernel
theorem dX10_read_56 : decode cX10_read 56 = .ok (.getfield 65, 3) := by decide +kernel
theorem dX10_read_59 : decode cX10_read 59 = .ok (.bipush 60, 2) := by decide +kernel
theorem dX10_read_61 : decode cX10_read 61 = .ok (.iload_n 1, 1) := by decide +kernel
theorem dX10_read_62 : decode cX10_read 62 = .ok (.imul, 1) := by decide +kernel
theorem dX10_read_63 : decode cX10_read 63 = .ok (.iconst 2, 1) := by decide +kernel
theorem dX10_read_64 : decode cX10_read 64 = .ok (.iload_n 2, 1) := by decide +kernel
theorem dX10_read_65 : decode cX10_read 65 = .ok (.imul, 1) := by decide +kernel
theorem dX10_read_66 : decode cX10_read 66 = .ok (.iadd, 1) := by decide +kernel
theorem dX10_read_67 : decode cX10_read 67 = .ok (.iconst 1, 1) := by decide +kernel
theorem dX10_read_68 : decode cX10_read 68 = .ok (.iadd, 1) := by decide +kernel
theorem dX10_read_69 : decode cX10_read 69 = .ok (.iaload, 1) := by decide +kernel
theorem dX10_read_70 : decode cX10_read 70 = .ok (.invokevirtual 250, 3) := by decide +kernel
theorem dX10_read_73 : decode cX10_read 73 = .ok (.ifCond .le 9, 3) := by decide +kernel
theorem dX10_read_76 : decode cX10_read 76 = .ok (.iinc 2 1, 3) := by decide +kernel
theorem dX10_read_79 : decode cX10_read 79 = .ok (.goto (-52), 3) := by decide +kernel
theorem dX10_read_82 : decode cX10_read 82 = .ok (.iload_n 2, 1) := by decide +kernel
theorem dX10_read_83 : decode cX10_read 83 = .ok (.ireturn, 1) := by decide +kernel
set_option maxRecDepth 20000 in
theorem ggX10_isMissed_X10_isTaken : GoodIn wsX10_isMissed wsX10_isTaken := qw_e qk_X10_isMissed qk_X10_isTaken (by decide +kernel)
set_option maxRecDepth 20000 in
theorem gX10_isMissed_X10_isTaken : GoodIn wsX10_isMissed (wsV RX10 205 RX10 yX10_isTaken wsX10_isTaken) := goodIn_app (qw_e qk_X10_isMissed (QK_cons qw_478 (QK_cons qw_479 (QK_cons qw_480 (QK_cons qw_996 QK_nil)))) (by decide +kernel)) ggX10_isMissed_X10_isTaken
theorem dX10_isMissed_0 : decode cX10_isMissed 0 = .ok (.iconst 1, 1) := by decide +kernel
theorem dX10_isMissed_1 : decode cX10_isMissed 1 = .ok (.istore_n 1, 1) := by decide +kernel
theorem dX10_isMissed_2 : decode cX10_isMissed 2 = .ok (.iconst 0, 1) := by decide +kernel
theorem dX10_isMissed_3 : decode cX10_isMissed 3 = .ok (.istore_n 2, 1) := by decide +kernel
theorem dX10_isMissed_4 : decode cX10_isMissed 4 = .ok (.iload_n 2, 1) := by decide +kernel
theorem dX10_isMissed_5 : decode cX10_isMissed 5 = .ok (.aload_n 0, 1) := by decide +kernel
theorem dX10_isMissed_6 : decode cX10_isMissed 6 = .ok (.getfield 241, 3) := by decide +kernel
theorem dX10_isMissed_9 : decode cX10_isMissed 9 = .ok (.if_icmp .ge 47, 3) := by decide +kernel
theorem dX10_isMissed_12 : decode cX10_isMissed 12 = .ok (.iload_n 1, 1) := by decide +kernel
theorem dX10_isMissed_13 : decode cX10_isMissed 13 = .ok (.ifCond .eq 43, 3) := by decide +kernel
theorem dX10_isMissed_16 : decode cX10_isMissed 16 = .ok (.aload_n 0, 1) := by decide +kernel
theorem dX10_isMissed_17 : decode cX10_isMissed 17 = .ok (.aload_n 0, 1) := by decide +kernel
theorem dX10_isMissed_18 : decode cX10_isMissed 18 = .ok (.getfield 47, 3) := by decide +kernel
theorem dX10_isMissed_21 : decode cX10_isMissed 21 = .ok (.iload_n 2, 1) := by decide +kernel
theorem dX10_isMissed_22 : decode cX10_isMissed 22 = .ok (.iaload, 1) := by decide +kernel
theorem dX10_isMissed_23 : decode cX10_isMissed 23 = .ok (.invokevirtual 205, 3) := by decide +kernel
theorem dX10_isMissed_26 : decode cX10_isMissed 26 = .ok (.aload_n 0, 1) := by decide +kernel
theorem dX10_isMissed_27 : decode cX10_isMissed 27 = .ok (.getfield 50, 3) := by decide +kernel
theorem dX10_isMissed_30 : decode cX10_isMissed 30 = .ok (.iload_n 2, 1) := by decide +kernel
theorem dX10_isMissed_31 : decode cX10_isMissed 31 = .ok (.iaload, 1) := by decide +kernel
theorem dX10_isMissed_32 : decode cX10_isMissed 32 = .ok (.iconst 1, 1) := by decide +kernel
theorem dX10_isMissed_33 : decode cX10_isMissed 33 = .ok (.if_icmp .ne 7, 3) := by decide +kernel
theorem dX10_isMissed_36 : decode cX10_isMissed 36 = .ok (.iconst 1, 1) := by decide +kernel
theorem dX10_isMissed_37 : decode cX10_isMissed 37 = .ok (.goto 4, 3) := by decide +kernel
theorem dX10_isMissed_40 : decode cX10_isMissed 40 = .ok (.iconst 0, 1) := by decide +kernel
theorem dX10_isMissed_41 : decode cX10_isMissed 41 = .ok (.if_icmp .ne 7, 3) := by decide +kernel
theorem dX10_isMissed_44 : decode cX10_isMissed 44 = .ok (.iconst 1, 1) := by decide +kernel
theorem dX10_isMissed_45 : decode cX10_isMissed 45 = .ok (.goto 4, 3) := by decide +kernel
theorem dX10_isMissed_48 : decode cX10_isMissed 48 = .ok (.iconst 0, 1) := by decide +kernel
theorem dX10_isMissed_49 : decode cX10_isMissed 49 = .ok (.istore_n 1, 1) := by decide +kernel
theorem dX10_isMissed_50 : decode cX10_isMissed 50 = .ok (.iinc 2 1, 3) := by decide +kernel
theorem dX10_isMissed_53 : decode cX10_isMissed 53 = .ok (.goto (-49), 3) := by decide +kernel
theorem dX10_isMissed_56 : decode cX10_isMissed 56 = .ok (.iload_n 1, 1) := by decide +kernel
theorem dX10_isMissed_57 : decode cX10_isMissed 57 = .ok (.ireturn, 1) := by decide +kernel
set_option maxRecDepth 20000 in
theorem ggX10_omittedNow_X10_reads : GoodIn wsX10_omittedNow wsX10_reads := qw_e qk_X10_omittedNow qk_X10_reads (by decide +kernel)
set_option maxRecDepth 20000 in
theorem gX10_omittedNow_X10_reads : GoodIn wsX10_omittedNow (wsV RX10 130 RX10 yX10_reads wsX10_reads) := goodIn_app (qw_e qk_X10_omittedNow (QK_cons qw_711 (QK_cons qw_712 (QK_cons qw_713 (QK_cons qw_996 QK_nil)))) (by decide +kernel)) ggX10_omittedNow_X10_reads
set_option maxRecDepth 20000 in
theorem ggX10_omittedNow_X10_without : GoodIn wsX10_omittedNow wsX10_without := qw_e qk_X10_omittedNow qk_X10_without (by decide +kernel)
set_option maxRecDepth 20000 in
theorem gX10_omittedNow_X10_without : GoodIn wsX10_omittedNow (wsV RX10 220 RX10 yX10_without wsX10_without) := goodIn_app (qw_e qk_X10_omittedNow (QK_cons qw_395 (QK_cons qw_396 (QK_cons qw_397 (QK_cons qw_996 QK_nil)))) (by decide +kernel)) ggX10_omittedNow_X10_without
set_option maxRecDepth 20000 in
theorem ggX10_omittedNow_X10_walks : GoodIn wsX10_omittedNow wsX10_walks := qw_e qk_X10_omittedNow qk_X10_walks (by decide +kernel)
set_option maxRecDepth 20000 in
theorem gX10_omittedNow_X10_walks : GoodIn wsX10_omittedNow (wsV RX10 174 RX10 yX10_walks wsX10_walks) := goodIn_app (qw_e qk_X10_omittedNow (QK_cons qw_603 (QK_cons qw_604 (QK_cons qw_605 (QK_cons qw_996 QK_nil)))) (by decide +kernel)) ggX10_omittedNow_X10_walks
set_option maxRecDepth 20000 in
theorem ggX10_omittedNow_X10_isMissed : GoodIn wsX10_omittedNow wsX10_isMissed := qw_e qk_X10_omittedNow qk_X10_isMissed (by decide +kernel)
set_option maxRecDepth 20000 in
theorem gX10_omittedNow_X10_isMissed : GoodIn wsX10_omittedNow (wsV RX10 253 RX10 yX10_isMissed wsX10_isMissed) := goodIn_app (qw_e qk_X10_omittedNow (QK_cons qw_293 (QK_cons qw_294 (QK_cons qw_247 (QK_cons qw_996 QK_nil)))) (by decide +kernel)) ggX10_omittedNow_X10_isMissed
theorem dX10_omittedNow_0 : decode cX10_omittedNow 0 = .ok (.aload_n 0, 1) := by decide +kernel
theorem dX10_omittedNow_1 : decode cX10_omittedNow 1 = .ok (.invokevirtual 130, 3) := by decide +kernel
theorem dX10_omittedNow_4 : decode cX10_omittedNow 4 = .ok (.iconst 0, 1) := by decide +kernel
theorem dX10_omittedNow_5 : decode cX10_omittedNow 5 = .ok (.istore_n 1, 1) := by decide +kernel
theorem dX10_omittedNow_6 : decode cX10_omittedNow 6 = .ok (.iconst 0, 1) := by decide +kernel
theorem dX10_omittedNow_7 : decode cX10_omittedNow 7 = .ok (.istore_n 2, 1) := by decide +kernel
theorem dX10_omittedNow_8 : decode cX10_omittedNow 8 = .ok (.iload_n 2, 1) := by decide +kernel
theorem dX10_omittedNow_9 : decode cX10_omittedNow 9 = .ok (.aload_n 0, 1) := by decide +kernel
theorem dX10_omittedNow_10 : decode cX10_omittedNow 10 = .ok (.getfield 101, 3) := by decide +kernel
theorem dX10_omittedNow_13 : decode cX10_omittedNow 13 = .ok (.if_icmp .ge 36, 3) := by decide +kernel
theorem dX10_omittedNow_16 : decode cX10_omittedNow 16 = .ok (.aload_n 0, 1) := by decide +kernel
theorem dX10_omittedNow_17 : decode cX10_omittedNow 17 = .ok (.iload_n 2, 1) := by decide +kernel
theorem dX10_omittedNow_18 : decode cX10_omittedNow 18 = .ok (.iconst (-1), 1) := by decide +kernel
theorem dX10_omittedNow_19 : decode cX10_omittedNow 19 = .ok (.invokevirtual 220, 3) := by decide +kernel
theorem dX10_omittedNow_22 : decode cX10_omittedNow 22 = .ok (.aload_n 0, 1) := by decide +kernel
theorem dX10_omittedNow_23 : decode cX10_omittedNow 23 = .ok (.invokevirtual 174, 3) := by decide +kernel
theorem dX10_omittedNow_26 : decode cX10_omittedNow 26 = .ok (.iload_n 1, 1) := by decide +kernel
theorem dX10_omittedNow_27 : decode cX10_omittedNow 27 = .ok (.aload_n 0, 1) := by decide +kernel
theorem dX10_omittedNow_28 : decode cX10_omittedNow 28 = .ok (.invokevirtual 253, 3) := by decide +kernel
theorem dX10_omittedNow_31 : decode cX10_omittedNow 31 = .ok (.ifCond .eq 9, 3) := by decide +kernel
theorem dX10_omittedNow_34 : decode cX10_omittedNow 34 = .ok (.iconst 1, 1) := by decide +kernel
theorem dX10_omittedNow_35 : decode cX10_omittedNow 35 = .ok (.iload_n 2, 1) := by decide +kernel
theorem dX10_omittedNow_36 : decode cX10_omittedNow 36 = .ok (.ishl, 1) := by decide +kernel
theorem dX10_omittedNow_37 : decode cX10_omittedNow 37 = .ok (.goto 4, 3) := by decide +kernel
theorem dX10_omittedNow_40 : decode cX10_omittedNow 40 = .ok (.iconst 0, 1) := by decide +kernel
theorem dX10_omittedNow_41 : decode cX10_omittedNow 41 = .ok (.ior, 1) := by decide +kernel
theorem dX10_omittedNow_42 : decode cX10_omittedNow 42 = .ok (.istore_n 1, 1) := by decide +kernel
theorem dX10_omittedNow_43 : decode cX10_omittedNow 43 = .ok (.iinc 2 1, 3) := by decide +kernel
theorem dX10_omittedNow_46 : decode cX10_omittedNow 46 = .ok (.goto (-38), 3) := by decide +kernel
theorem dX10_omittedNow_49 : decode cX10_omittedNow 49 = .ok (.iload_n 1, 1) := by decide +kernel
theorem dX10_omittedNow_50 : decode cX10_omittedNow 50 = .ok (.ireturn, 1) := by decide +kernel
set_option maxRecDepth 20000 in
theorem ggX10_omitted_X10_omittedNow : GoodIn wsX10_omitted wsX10_omittedNow := qw_e qk_X10_omitted qk_X10_omittedNow (by decide +kernel)
set_option maxRecDepth 20000 in
theorem gX10_omitted_X10_omittedNow : GoodIn wsX10_omitted (wsV RX10 257 RX10 yX10_omittedNow wsX10_omittedNow) := goodIn_app (qw_e qk_X10_omitted (QK_cons qw_289 (QK_cons qw_290 (QK_cons qw_291 (QK_cons qw_996 QK_nil)))) (by decide +kernel)) ggX10_omitted_X10_omittedNow
theorem dX10_omitted_0 : decode cX10_omitted 0 = .ok (.aload_n 0, 1) := by decide +kernel
theorem dX10_omitted_1 : decode cX10_omitted 1 = .ok (.invokevirtual 257, 3) := by decide +kernel
theorem dX10_omitted_4 : decode cX10_omitted 4 = .ok (.ireturn, 1) := by decide +kernel
set_option maxRecDepth 20000 in
theorem ggX10_meantOf_X10_walksTold : GoodIn wsX10_meantOf wsX10_walksTold := qw_e qk_X10_meantOf qk_X10_walksTold (by decide +kernel)
set_option maxRecDepth 20000 in
theorem gX10_meantOf_X10_walksTold : GoodIn wsX10_meantOf (wsV RX10 181 RX10 yX10_walksTold wsX10_walksTold) := goodIn_app (qw_e qk_X10_meantOf (QK_cons qw_594 (QK_cons qw_595 (QK_cons qw_596 (QK_cons qw_996 QK_nil)))) (by decide +kernel)) ggX10_meantOf_X10_walksTold
set_option maxRecDepth 20000 in
theorem ggX10_meantOf_X10_isMissed : GoodIn wsX10_meantOf wsX10_isMissed := qw_e qk_X10_meantOf qk_X10_isMissed (by decide +kernel)
set_option maxRecDepth 20000 in
theorem gX10_meantOf_X10_isMissed : GoodIn wsX10_meantOf (wsV RX10 253 RX10 yX10_isMissed wsX10_isMissed) := goodIn_app (qw_e qk_X10_meantOf (QK_cons qw_293 (QK_cons qw_294 (QK_cons qw_247 (QK_cons qw_996 QK_nil)))) (by decide +kernel)) ggX10_meantOf_X10_isMissed
theorem dX10_meantOf_0 : decode cX10_meantOf 0 = .ok (.aload_n 0, 1) := by decide +kernel
theorem dX10_meantOf_1 : decode cX10_meantOf 1 = .ok (.invokevirtual 181, 3) := by decide +kernel
theorem dX10_meantOf_4 : decode cX10_meantOf 4 = .ok (.aload_n 0, 1) := by decide +kernel
theorem dX10_meantOf_5 : decode cX10_meantOf 5 = .ok (.getfield 22, 3) := by decide +kernel
theorem dX10_meantOf_8 : decode cX10_meantOf 8 = .ok (.iload_n 1, 1) := by decide +kernel
theorem dX10_meantOf_9 : decode cX10_meantOf 9 = .ok (.iaload, 1) := by decide +kernel
theorem dX10_meantOf_10 : decode cX10_meantOf 10 = .ok (.istore_n 3, 1) := by decide +kernel
theorem dX10_meantOf_11 : decode cX10_meantOf 11 = .ok (.iconst 0, 1) := by decide +kernel
theorem dX10_meantOf_12 : decode cX10_meantOf 12 = .ok (.istore 4, 2) := by decide +kernel
theorem dX10_meantOf_14 : decode cX10_meantOf 14 = .ok (.iconst (-1), 1) := by decide +kernel
theorem dX10_meantOf_15 : decode cX10_meantOf 15 = .ok (.istore 5, 2) := by decide +kernel
theorem dX10_meantOf_17 : decode cX10_meantOf 17 = .ok (.iconst 0, 1) := by decide +kernel
theorem dX10_meantOf_18 : decode cX10_meantOf 18 = .ok (.istore 6, 2) := by decide +kernel
theorem dX10_meantOf_20 : decode cX10_meantOf 20 = .ok (.iload 6, 2) := by decide +kernel
theorem dX10_meantOf_22 : decode cX10_meantOf 22 = .ok (.aload_n 0, 1) := by decide +kernel
theorem dX10_meantOf_23 : decode cX10_meantOf 23 = .ok (.getfield 88, 3) := by decide +kernel
theorem dX10_meantOf_26 : decode cX10_meantOf 26 = .ok (.if_icmp .ge 58, 3) := by decide +kernel
theorem dX10_meantOf_29 : decode cX10_meantOf 29 = .ok (.aload_n 0, 1) := by decide +kernel
theorem dX10_meantOf_30 : decode cX10_meantOf 30 = .ok (.getfield 22, 3) := by decide +kernel
theorem dX10_meantOf_33 : decode cX10_meantOf 33 = .ok (.iload_n 1, 1) := by decide +kernel
theorem dX10_meantOf_34 : decode cX10_meantOf 34 = .ok (.iload 6, 2) := by decide +kernel
theorem dX10_meantOf_36 : decode cX10_meantOf 36 = .ok (.iastore, 1) := by decide +kernel
theorem dX10_meantOf_37 : decode cX10_meantOf 37 = .ok (.aload_n 0, 1) := by decide +kernel
theorem dX10_meantOf_38 : decode cX10_meantOf 38 = .ok (.invokevirtual 253, 3) := by decide +kernel
theorem dX10_meantOf_41 : decode cX10_meantOf 41 = .ok (.istore 7, 2) := by decide +kernel
theorem dX10_meantOf_43 : decode cX10_meantOf 43 = .ok (.iload 7, 2) := by decide +kernel
theorem dX10_meantOf_45 : decode cX10_meantOf 45 = .ok (.ifCond .eq 14, 3) := by decide +kernel
theorem dX10_meantOf_48 : decode cX10_meantOf 48 = .ok (.iload 4, 2) := by decide +kernel
theorem dX10_meantOf_50 : decode cX10_meantOf 50 = .ok (.iload_n 2, 1) := by decide +kernel
theorem dX10_meantOf_51 : decode cX10_meantOf 51 = .ok (.if_icmp .ne 8, 3) := by decide +kernel
theorem dX10_meantOf_54 : decode cX10_meantOf 54 = .ok (.iload 6, 2) := by decide +kernel
theorem dX10_meantOf_56 : decode cX10_meantOf 56 = .ok (.goto 5, 3) := by decide +kernel
theorem dX10_meantOf_59 : decode cX10_meantOf 59 = .ok (.iload 5, 2) := by decide +kernel
theorem dX10_meantOf_61 : decode cX10_meantOf 61 = .ok (.istore 5, 2) := by decide +kernel
theorem dX10_meantOf_63 : decode cX10_meantOf 63 = .ok (.iload 4, 2) := by decide +kernel
theorem dX10_meantOf_65 : decode cX10_meantOf 65 = .ok (.iload 7, 2) := by decide +kernel
theorem dX10_meantOf_67 : decode cX10_meantOf 67 = .ok (.ifCond .eq 7, 3) := by decide +kernel
theorem dX10_meantOf_70 : decode cX10_meantOf 70 = .ok (.iconst 1, 1) := by decide +kernel
theorem dX10_meantOf_71 : decode cX10_meantOf 71 = .ok (.goto 4, 3) := by decide +kernel
theorem dX10_meantOf_74 : decode cX10_meantOf 74 = .ok (.iconst 0, 1) := by decide +kernel
theorem dX10_meantOf_75 : decode cX10_meantOf 75 = .ok (.iadd, 1) := by decide +kernel
theorem dX10_meantOf_76 : decode cX10_meantOf 76 = .ok (.istore 4, 2) := by decide +kernel
theorem dX10_meantOf_78 : decode cX10_meantOf 78 = .ok (.iinc 6 1, 3) := by decide +kernel
theorem dX10_meantOf_81 : decode cX10_meantOf 81 = .ok (.goto (-61), 3) := by decide +kernel
theorem dX10_meantOf_84 : decode cX10_meantOf 84 = .ok (.aload_n 0, 1) := by decide +kernel
theorem dX10_meantOf_85 : decode cX10_meantOf 85 = .ok (.getfield 22, 3) := by decide +kernel
theorem dX10_meantOf_88 : decode cX10_meantOf 88 = .ok (.iload_n 1, 1) := by decide +kernel
theorem dX10_meantOf_89 : decode cX10_meantOf 89 = .ok (.iload_n 3, 1) := by decide +kernel
theorem dX10_meantOf_90 : decode cX10_meantOf 90 = .ok (.iastore, 1) := by decide +kernel
theorem dX10_meantOf_91 : decode cX10_meantOf 91 = .ok (.iload_n 2, 1) := by decide +kernel
theorem dX10_meantOf_92 : decode cX10_meantOf 92 = .ok (.iconst (-1), 1) := by decide +kernel
theorem dX10_meantOf_93 : decode cX10_meantOf 93 = .ok (.if_icmp .ne 8, 3) := by decide +kernel
theorem dX10_meantOf_96 : decode cX10_meantOf 96 = .ok (.iload 4, 2) := by decide +kernel
theorem dX10_meantOf_98 : decode cX10_meantOf 98 = .ok (.goto 5, 3) := by decide +kernel
theorem dX10_meantOf_101 : decode cX10_meantOf 101 = .ok (.iload 5, 2) := by decide +kernel
theorem dX10_meantOf_103 : decode cX10_meantOf 103 = .ok (.ireturn, 1) := by decide +kernel
set_option maxRecDepth 20000 in
theorem ggX10_meant_X10_isThief : GoodIn wsX10_meant wsX10_isThief := qw_e qk_X10_meant qk_X10_isThief (by decide +kernel)
set_option maxRecDepth 20000 in
theorem gX10_meant_X10_isThief : GoodIn wsX10_meant (wsV RX10 139 RX10 yX10_isThief wsX10_isThief) := goodIn_app (qw_e qk_X10_meant (QK_cons qw_699 (QK_cons qw_700 (QK_cons qw_701 (QK_cons qw_996 QK_nil)))) (by decide +kernel)) ggX10_meant_X10_isThief
set_option maxRecDepth 20000 in
theorem ggX10_meant_X10_in : GoodIn wsX10_meant wsX10_in := qw_e qk_X10_meant qk_X10_in (by decide +kernel)
set_option maxRecDepth 20000 in
theorem gX10_meant_X10_in : GoodIn wsX10_meant (va_wsS RX10 80 yX10_in wsX10_in) := goodIn_app (qw_e qk_X10_meant (QK_cons qw_779 (QK_cons qw_780 (QK_cons qw_996 QK_nil))) (by decide +kernel)) ggX10_meant_X10_in
set_option maxRecDepth 20000 in
theorem ggX10_meant_X10_meantOf : GoodIn wsX10_meant wsX10_meantOf := qw_e qk_X10_meant qk_X10_meantOf (by decide +kernel)
set_option maxRecDepth 20000 in
theorem gX10_meant_X10_meantOf : GoodIn wsX10_meant (wsV RX10 260 RX10 yX10_meantOf wsX10_meantOf) := goodIn_app (qw_e qk_X10_meant (QK_cons qw_270 (QK_cons qw_223 (QK_cons qw_224 (QK_cons qw_996 QK_nil)))) (by decide +kernel)) ggX10_meant_X10_meantOf
theorem dX10_meant_0 : decode cX10_meant 0 = .ok (.aload_n 0, 1) := by decide +kernel
theorem dX10_meant_1 : decode cX10_meant 1 = .ok (.iload_n 1, 1) := by decide +kernel
theorem dX10_meant_2 : decode cX10_meant 2 = .ok (.invokevirtual 139, 3) := by decide +kernel
theorem dX10_meant_5 : decode cX10_meant 5 = .ok (.ifCond .eq 22, 3) := by decide +kernel
theorem dX10_meant_8 : decode cX10_meant 8 = .ok (.iload_n 2, 1) := by decide +kernel
theorem dX10_meant_9 : decode cX10_meant 9 = .ok (.iconst (-1), 1) := by decide +kernel
theorem dX10_meant_10 : decode cX10_meant 10 = .ok (.bipush 35, 2) := by decide +kernel
theorem dX10_meant_12 : decode cX10_meant 12 = .ok (.invokestatic 80, 3) := by decide +kernel
theorem dX10_meant_15 : decode cX10_meant 15 = .ok (.ifCond .eq 12, 3) := by decide +kernel
theorem dX10_meant_18 : decode cX10_meant 18 = .ok (.aload_n 0, 1) := by decide +kernel
theorem dX10_meant_19 : decode cX10_meant 19 = .ok (.iload_n 1, 1) := by decide +kernel
theorem dX10_meant_20 : decode cX10_meant 20 = .ok (.iload_n 2, 1) := by decide +kernel
theorem dX10_meant_21 : decode cX10_meant 21 = .ok (.invokevirtual 260, 3) := by decide +kernel
theorem dX10_meant_24 : decode cX10_meant 24 = .ok (.goto 5, 3) := by decide +kernel
theorem dX10_meant_27 : decode cX10_meant 27 = .ok (.bipush (-2), 2) := by decide +kernel
theorem dX10_meant_29 : decode cX10_meant 29 = .ok (.ireturn, 1) := by decide +kernel
set_option maxRecDepth 20000 in
theorem ggX10_askNow_X10_omittedNow : GoodIn wsX10_askNow wsX10_omittedNow := qw_e qk_X10_askNow qk_X10_omittedNow (by decide +kernel)
set_option maxRecDepth 20000 in
theorem gX10_askNow_X10_omittedNow : GoodIn wsX10_askNow (wsV RX10 257 RX10 yX10_omittedNow wsX10_omittedNow) := goodIn_app (qw_e qk_X10_askNow (QK_cons qw_289 (QK_cons qw_290 (QK_cons qw_291 (QK_cons qw_996 QK_nil)))) (by decide +kernel)) ggX10_askNow_X10_omittedNow
set_option maxRecDepth 20000 in
theorem ggX10_askNow_X10_reads : GoodIn wsX10_askNow wsX10_reads := qw_e qk_X10_askNow qk_X10_reads (by decide +kernel)
set_option maxRecDepth 20000 in
theorem gX10_askNow_X10_reads : GoodIn wsX10_askNow (wsV RX10 130 RX10 yX10_reads wsX10_reads) := goodIn_app (qw_e qk_X10_askNow (QK_cons qw_711 (QK_cons qw_712 (QK_cons qw_713 (QK_cons qw_996 QK_nil)))) (by decide +kernel)) ggX10_askNow_X10_reads
set_option maxRecDepth 20000 in
theorem ggX10_askNow_X10_isIn : GoodIn wsX10_askNow wsX10_isIn := qw_e qk_X10_askNow qk_X10_isIn (by decide +kernel)
set_option maxRecDepth 20000 in
theorem gX10_askNow_X10_isIn : GoodIn wsX10_askNow (va_wsS RX10 177 yX10_isIn wsX10_isIn) := goodIn_app (qw_e qk_X10_askNow (QK_cons qw_524 (QK_cons qw_525 (QK_cons qw_996 QK_nil))) (by decide +kernel)) ggX10_askNow_X10_isIn
set_option maxRecDepth 20000 in
theorem ggX10_askNow_X10_without : GoodIn wsX10_askNow wsX10_without := qw_e qk_X10_askNow qk_X10_without (by decide +kernel)
set_option maxRecDepth 20000 in
theorem gX10_askNow_X10_without : GoodIn wsX10_askNow (wsV RX10 220 RX10 yX10_without wsX10_without) := goodIn_app (qw_e qk_X10_askNow (QK_cons qw_395 (QK_cons qw_396 (QK_cons qw_397 (QK_cons qw_996 QK_nil)))) (by decide +kernel)) ggX10_askNow_X10_without
set_option maxRecDepth 20000 in
theorem ggX10_askNow_X10_walks : GoodIn wsX10_askNow wsX10_walks := qw_e qk_X10_askNow qk_X10_walks (by decide +kernel)
set_option maxRecDepth 20000 in
theorem gX10_askNow_X10_walks : GoodIn wsX10_askNow (wsV RX10 174 RX10 yX10_walks wsX10_walks) := goodIn_app (qw_e qk_X10_askNow (QK_cons qw_603 (QK_cons qw_604 (QK_cons qw_605 (QK_cons qw_996 QK_nil)))) (by decide +kernel)) ggX10_askNow_X10_walks
set_option maxRecDepth 20000 in
theorem ggX10_askNow_X10_isTaken : GoodIn wsX10_askNow wsX10_isTaken := qw_e qk_X10_askNow qk_X10_isTaken (by decide +kernel)
set_option maxRecDepth 20000 in
theorem gX10_askNow_X10_isTaken : GoodIn wsX10_askNow (wsV RX10 205 RX10 yX10_isTaken wsX10_isTaken) := goodIn_app (qw_e qk_X10_askNow (QK_cons qw_478 (QK_cons qw_479 (QK_cons qw_480 (QK_cons qw_996 QK_nil)))) (by decide +kernel)) ggX10_askNow_X10_isTaken
theorem dX10_askNow_0 : decode cX10_askNow 0 = .ok (.aload_n 0, 1) := by decide +kernel
theorem dX10_askNow_1 : decode cX10_askNow 1 = .ok (.invokevirtual 257, 3) := by decide +kernel
theorem dX10_askNow_4 : decode cX10_askNow 4 = .ok (.istore_n 1, 1) := by decide +kernel
theorem dX10_askNow_5 : decode cX10_askNow 5 = .ok (.iconst 0, 1) := by decide +kernel
theorem dX10_askNow_6 : decode cX10_askNow 6 = .ok (.istore_n 2, 1) := by decide +kernel
theorem dX10_askNow_7 : decode cX10_askNow 7 = .ok (.iconst 0, 1) := by decide +kernel
theorem dX10_askNow_8 : decode cX10_askNow 8 = .ok (.istore_n 3, 1) := by decide +kernel
theorem dX10_askNow_9 : decode cX10_askNow 9 = .ok (.iload_n 3, 1) := by decide +kernel
theorem dX10_askNow_10 : decode cX10_askNow 10 = .ok (.bipush 36, 2) := by decide +kernel
theorem dX10_askNow_12 : decode cX10_askNow 12 = .ok (.if_icmp .ge 16, 3) := by decide +kernel
theorem dX10_askNow_15 : decode cX10_askNow 15 = .ok (.aload_n 0, 1) := by decide +kernel
theorem dX10_askNow_16 : decode cX10_askNow 16 = .ok (.getfield 53, 3) := by decide +kernel
theorem dX10_askNow_19 : decode cX10_askNow 19 = .ok (.iload_n 3, 1) := by decide +kernel
theorem dX10_askNow_20 : decode cX10_askNow 20 = .ok (.iconst 0, 1) := by decide +kernel
theorem dX10_askNow_21 : decode cX10_askNow 21 = .ok (.iastore, 1) := by decide +kernel
theorem dX10_askNow_22 : decode cX10_askNow 22 = .ok (.iinc 3 1, 3) := by decide +kernel
theorem dX10_askNow_25 : decode cX10_askNow 25 = .ok (.goto (-16), 3) := by decide +kernel
theorem dX10_askNow_28 : decode cX10_askNow 28 = .ok (.aload_n 0, 1) := by decide +kernel
theorem dX10_askNow_29 : decode cX10_askNow 29 = .ok (.invokevirtual 130, 3) := by decide +kernel
theorem dX10_askNow_32 : decode cX10_askNow 32 = .ok (.iconst 0, 1) := by decide +kernel
theorem dX10_askNow_33 : decode cX10_askNow 33 = .ok (.istore_n 3, 1) := by decide +kernel
theorem dX10_askNow_34 : decode cX10_askNow 34 = .ok (.iload_n 3, 1) := by decide +kernel
theorem dX10_askNow_35 : decode cX10_askNow 35 = .ok (.aload_n 0, 1) := by decide +kernel
theorem dX10_askNow_36 : decode cX10_askNow 36 = .ok (.getfield 101, 3) := by decide +kernel
theorem dX10_askNow_39 : decode cX10_askNow 39 = .ok (.if_icmp .ge 72, 3) := by decide +kernel
theorem dX10_askNow_42 : decode cX10_askNow 42 = .ok (.iload_n 1, 1) := by decide +kernel
theorem dX10_askNow_43 : decode cX10_askNow 43 = .ok (.iload_n 3, 1) := by decide +kernel
theorem dX10_askNow_44 : decode cX10_askNow 44 = .ok (.invokestatic 177, 3) := by decide +kernel
theorem dX10_askNow_47 : decode cX10_askNow 47 = .ok (.ifCond .eq 58, 3) := by decide +kernel
theorem dX10_askNow_50 : decode cX10_askNow 50 = .ok (.aload_n 0, 1) := by decide +kernel
theorem dX10_askNow_51 : decode cX10_askNow 51 = .ok (.iload_n 3, 1) := by decide +kernel
theorem dX10_askNow_52 : decode cX10_askNow 52 = .ok (.iconst (-1), 1) := by decide +kernel
theorem dX10_askNow_53 : decode cX10_askNow 53 = .ok (.invokevirtual 220, 3) := by decide +kernel
theorem dX10_askNow_56 : decode cX10_askNow 56 = .ok (.aload_n 0, 1) := by decide +kernel
theorem dX10_askNow_57 : decode cX10_askNow 57 = .ok (.invokevirtual 174, 3) := by decide +kernel
theorem dX10_askNow_60 : decode cX10_askNow 60 = .ok (.iinc 2 1, 3) := by decide +kernel
theorem dX10_askNow_63 : decode cX10_askNow 63 = .ok (.iconst 0, 1) := by decide +kernel
theorem dX10_askNow_64 : decode cX10_askNow 64 = .ok (.istore 4, 2) := by decide +kernel
theorem dX10_askNow_66 : decode cX10_askNow 66 = .ok (.iload 4, 2) := by decide +kernel
theorem dX10_askNow_68 : decode cX10_askNow 68 = .ok (.aload_n 0, 1) := by decide +kernel
theorem dX10_askNow_69 : decode cX10_askNow 69 = .ok (.getfield 88, 3) := by decide +kernel
theorem dX10_askNow_72 : decode cX10_askNow 72 = .ok (.if_icmp .ge 33, 3) := by decide +kernel
theorem dX10_askNow_75 : decode cX10_askNow 75 = .ok (.aload_n 0, 1) := by decide +kernel
theorem dX10_askNow_76 : decode cX10_askNow 76 = .ok (.getfield 53, 3) := by decide +kernel
theorem dX10_askNow_79 : decode cX10_askNow 79 = .ok (.iload 4, 2) := by decide +kernel
theorem dX10_askNow_81 : decode cX10_askNow 81 = .ok (.dup2, 1) := by decide +kernel
theorem dX10_askNow_82 : decode cX10_askNow 82 = .ok (.iaload, 1) := by decide +kernel
theorem dX10_askNow_83 : decode cX10_askNow 83 = .ok (.aload_n 0, 1) := by decide +kernel
theorem dX10_askNow_84 : decode cX10_askNow 84 = .ok (.iload 4, 2) := by decide +kernel

theorem dX10_askNow_86 : decode cX10_askNow 86 = .ok (.invokevirtual 205, 3) := by decide +kernel
theorem dX10_askNow_89 : decode cX10_askNow 89 = .ok (.ifCond .eq 7, 3) := by decide +kernel
theorem dX10_askNow_92 : decode cX10_askNow 92 = .ok (.iconst 1, 1) := by decide +kernel
theorem dX10_askNow_93 : decode cX10_askNow 93 = .ok (.goto 4, 3) := by decide +kernel
theorem dX10_askNow_96 : decode cX10_askNow 96 = .ok (.iconst 0, 1) := by decide +kernel
theorem dX10_askNow_97 : decode cX10_askNow 97 = .ok (.iadd, 1) := by decide +kernel
theorem dX10_askNow_98 : decode cX10_askNow 98 = .ok (.iastore, 1) := by decide +kernel
theorem dX10_askNow_99 : decode cX10_askNow 99 = .ok (.iinc 4 1, 3) := by decide +kernel
theorem dX10_askNow_102 : decode cX10_askNow 102 = .ok (.goto (-36), 3) := by decide +kernel
theorem dX10_askNow_105 : decode cX10_askNow 105 = .ok (.iinc 3 1, 3) := by decide +kernel
theorem dX10_askNow_108 : decode cX10_askNow 108 = .ok (.goto (-74), 3) := by decide +kernel
theorem dX10_askNow_111 : decode cX10_askNow 111 = .ok (.iconst (-1), 1) := by decide +kernel
theorem dX10_askNow_112 : decode cX10_askNow 112 = .ok (.istore_n 3, 1) := by decide +kernel
theorem dX10_askNow_113 : decode cX10_askNow 113 = .ok (.iconst 0, 1) := by decide +kernel
theorem dX10_askNow_114 : decode cX10_askNow 114 = .ok (.istore 4, 2) := by decide +kernel
theorem dX10_askNow_116 : decode cX10_askNow 116 = .ok (.iconst 0, 1) := by decide +kernel
theorem dX10_askNow_117 : decode cX10_askNow 117 = .ok (.istore 5, 2) := by decide +kernel
theorem dX10_askNow_119 : decode cX10_askNow 119 = .ok (.iload 5, 2) := by decide +kernel
theorem dX10_askNow_121 : decode cX10_askNow 121 = .ok (.aload_n 0, 1) := by decide +kernel
theorem dX10_askNow_122 : decode cX10_askNow 122 = .ok (.getfield 88, 3) := by decide +kernel
theorem dX10_askNow_125 : decode cX10_askNow 125 = .ok (.if_icmp .ge 105, 3) := by decide +kernel
theorem dX10_askNow_128 : decode cX10_askNow 128 = .ok (.aload_n 0, 1) := by decide +kernel
theorem dX10_askNow_129 : decode cX10_askNow 129 = .ok (.getfield 16, 3) := by decide +kernel
theorem dX10_askNow_132 : decode cX10_askNow 132 = .ok (.iload 5, 2) := by decide +kernel
theorem dX10_askNow_134 : decode cX10_askNow 134 = .ok (.iaload, 1) := by decide +kernel
theorem dX10_askNow_135 : decode cX10_askNow 135 = .ok (.iconst 2, 1) := by decide +kernel
theorem dX10_askNow_136 : decode cX10_askNow 136 = .ok (.if_icmp .ne 88, 3) := by decide +kernel
theorem dX10_askNow_139 : decode cX10_askNow 139 = .ok (.aload_n 0, 1) := by decide +kernel
theorem dX10_askNow_140 : decode cX10_askNow 140 = .ok (.getfield 53, 3) := by decide +kernel
theorem dX10_askNow_143 : decode cX10_askNow 143 = .ok (.iload 5, 2) := by decide +kernel
theorem dX10_askNow_145 : decode cX10_askNow 145 = .ok (.iaload, 1) := by decide +kernel
theorem dX10_askNow_146 : decode cX10_askNow 146 = .ok (.iload_n 2, 1) := by decide +kernel
theorem dX10_askNow_147 : decode cX10_askNow 147 = .ok (.aload_n 0, 1) := by decide +kernel
theorem dX10_askNow_148 : decode cX10_askNow 148 = .ok (.getfield 53, 3) := by decide +kernel
theorem dX10_askNow_151 : decode cX10_askNow 151 = .ok (.iload 5, 2) := by decide +kernel
theorem dX10_askNow_153 : decode cX10_askNow 153 = .ok (.iaload, 1) := by decide +kernel
theorem dX10_askNow_154 : decode cX10_askNow 154 = .ok (.isub, 1) := by decide +kernel
theorem dX10_askNow_155 : decode cX10_askNow 155 = .ok (.if_icmp .le 13, 3) := by decide +kernel
theorem dX10_askNow_158 : decode cX10_askNow 158 = .ok (.aload_n 0, 1) := by decide +kernel
theorem dX10_askNow_159 : decode cX10_askNow 159 = .ok (.getfield 53, 3) := by decide +kernel
theorem dX10_askNow_162 : decode cX10_askNow 162 = .ok (.iload 5, 2) := by decide +kernel
theorem dX10_askNow_164 : decode cX10_askNow 164 = .ok (.iaload, 1) := by decide +kernel
theorem dX10_askNow_165 : decode cX10_askNow 165 = .ok (.goto 12, 3) := by decide +kernel
theorem dX10_askNow_168 : decode cX10_askNow 168 = .ok (.iload_n 2, 1) := by decide +kernel
theorem dX10_askNow_169 : decode cX10_askNow 169 = .ok (.aload_n 0, 1) := by decide +kernel
theorem dX10_askNow_170 : decode cX10_askNow 170 = .ok (.getfield 53, 3) := by decide +kernel
theorem dX10_askNow_173 : decode cX10_askNow 173 = .ok (.iload 5, 2) := by decide +kernel
theorem dX10_askNow_175 : decode cX10_askNow 175 = .ok (.iaload, 1) := by decide +kernel
theorem dX10_askNow_176 : decode cX10_askNow 176 = .ok (.isub, 1) := by decide +kernel
theorem dX10_askNow_177 : decode cX10_askNow 177 = .ok (.istore 6, 2) := by decide +kernel
theorem dX10_askNow_179 : decode cX10_askNow 179 = .ok (.iload_n 3, 1) := by decide +kernel
theorem dX10_askNow_180 : decode cX10_askNow 180 = .ok (.iconst (-1), 1) := by decide +kernel
theorem dX10_askNow_181 : decode cX10_askNow 181 = .ok (.if_icmp .eq 10, 3) := by decide +kernel
theorem dX10_askNow_184 : decode cX10_askNow 184 = .ok (.iload 6, 2) := by decide +kernel
theorem dX10_askNow_186 : decode cX10_askNow 186 = .ok (.iload 4, 2) := by decide +kernel
theorem dX10_askNow_188 : decode cX10_askNow 188 = .ok (.if_icmp .ge 7, 3) := by decide +kernel
theorem dX10_askNow_191 : decode cX10_askNow 191 = .ok (.iconst 1, 1) := by decide +kernel
theorem dX10_askNow_192 : decode cX10_askNow 192 = .ok (.goto 4, 3) := by decide +kernel
theorem dX10_askNow_195 : decode cX10_askNow 195 = .ok (.iconst 0, 1) := by decide +kernel
theorem dX10_askNow_196 : decode cX10_askNow 196 = .ok (.istore 7, 2) := by decide +kernel
theorem dX10_askNow_198 : decode cX10_askNow 198 = .ok (.iload 7, 2) := by decide +kernel
theorem dX10_askNow_200 : decode cX10_askNow 200 = .ok (.ifCond .eq 8, 3) := by decide +kernel
theorem dX10_askNow_203 : decode cX10_askNow 203 = .ok (.iload 5, 2) := by decide +kernel
theorem dX10_askNow_205 : decode cX10_askNow 205 = .ok (.goto 4, 3) := by decide +kernel
theorem dX10_askNow_208 : decode cX10_askNow 208 = .ok (.iload_n 3, 1) := by decide +kernel
theorem dX10_askNow_209 : decode cX10_askNow 209 = .ok (.istore_n 3, 1) := by decide +kernel
theorem dX10_askNow_210 : decode cX10_askNow 210 = .ok (.iload 7, 2) := by decide +kernel
theorem dX10_askNow_212 : decode cX10_askNow 212 = .ok (.ifCond .eq 8, 3) := by decide +kernel
theorem dX10_askNow_215 : decode cX10_askNow 215 = .ok (.iload 6, 2) := by decide +kernel
theorem dX10_askNow_217 : decode cX10_askNow 217 = .ok (.goto 5, 3) := by decide +kernel
theorem dX10_askNow_220 : decode cX10_askNow 220 = .ok (.iload 4, 2) := by decide +kernel
theorem dX10_askNow_222 : decode cX10_askNow 222 = .ok (.istore 4, 2) := by decide +kernel
theorem dX10_askNow_224 : decode cX10_askNow 224 = .ok (.iinc 5 1, 3) := by decide +kernel
theorem dX10_askNow_227 : decode cX10_askNow 227 = .ok (.goto (-108), 3) := by decide +kernel
theorem dX10_askNow_230 : decode cX10_askNow 230 = .ok (.iload_n 3, 1) := by decide +kernel
theorem dX10_askNow_231 : decode cX10_askNow 231 = .ok (.ireturn, 1) := by decide +kernel
set_option maxRecDepth 20000 in
theorem ggX10_ask_X10_askNow : GoodIn wsX10_ask wsX10_askNow := qw_e qk_X10_ask qk_X10_askNow (by decide +kernel)
set_option maxRecDepth 20000 in
theorem gX10_ask_X10_askNow : GoodIn wsX10_ask (wsV RX10 263 RX10 yX10_askNow wsX10_askNow) := goodIn_app (qw_e qk_X10_ask (QK_cons qw_199 (QK_cons qw_200 (QK_cons qw_201 (QK_cons qw_996 QK_nil)))) (by decide +kernel)) ggX10_ask_X10_askNow
theorem dX10_ask_0 : decode cX10_ask 0 = .ok (.aload_n 0, 1) := by decide +kernel
theorem dX10_ask_1 : decode cX10_ask 1 = .ok (.invokevirtual 263, 3) := by decide +kernel
theorem dX10_ask_4 : decode cX10_ask 4 = .ok (.ireturn, 1) := by decide +kernel
set_option maxRecDepth 20000 in
theorem ggX10_foggedOf_X10_asTold : GoodIn wsX10_foggedOf wsX10_asTold := qw_e qk_X10_foggedOf qk_X10_asTold (by decide +kernel)
set_option maxRecDepth 20000 in
theorem gX10_foggedOf_X10_asTold : GoodIn wsX10_foggedOf (wsV RX10 171 RX10 yX10_asTold wsX10_asTold) := goodIn_app (qw_e qk_X10_foggedOf (QK_cons qw_598 (QK_cons qw_599 (QK_cons qw_600 (QK_cons qw_996 QK_nil)))) (by decide +kernel)) ggX10_foggedOf_X10_asTold
set_option maxRecDepth 20000 in
theorem ggX10_foggedOf_X10_isIn : GoodIn wsX10_foggedOf wsX10_isIn := qw_e qk_X10_foggedOf qk_X10_isIn (by decide +kernel)
set_option maxRecDepth 20000 in
theorem gX10_foggedOf_X10_isIn : GoodIn wsX10_foggedOf (va_wsS RX10 177 yX10_isIn wsX10_isIn) := goodIn_app (qw_e qk_X10_foggedOf (QK_cons qw_524 (QK_cons qw_525 (QK_cons qw_996 QK_nil))) (by decide +kernel)) ggX10_foggedOf_X10_isIn
set_option maxRecDepth 20000 in
theorem ggX10_foggedOf_X10_walks : GoodIn wsX10_foggedOf wsX10_walks := qw_e qk_X10_foggedOf qk_X10_walks (by decide +kernel)
set_option maxRecDepth 20000 in
theorem gX10_foggedOf_X10_walks : GoodIn wsX10_foggedOf (wsV RX10 174 RX10 yX10_walks wsX10_walks) := goodIn_app (qw_e qk_X10_foggedOf (QK_cons qw_603 (QK_cons qw_604 (QK_cons qw_605 (QK_cons qw_996 QK_nil)))) (by decide +kernel)) ggX10_foggedOf_X10_walks
set_option maxRecDepth 20000 in
theorem ggX10_foggedOf_X10_takesNow : GoodIn wsX10_foggedOf wsX10_takesNow := qw_e qk_X10_foggedOf qk_X10_takesNow (by decide +kernel)
set_option maxRecDepth 20000 in
theorem gX10_foggedOf_X10_takesNow : GoodIn wsX10_foggedOf (wsV RX10 199 RX10 yX10_takesNow wsX10_takesNow) := goodIn_app (qw_e qk_X10_foggedOf (QK_cons qw_503 (QK_cons qw_504 (QK_cons qw_505 (QK_cons qw_996 QK_nil)))) (by decide +kernel)) ggX10_foggedOf_X10_takesNow
set_option maxRecDepth 20000 in
theorem ggX10_foggedOf_X10_lowest : GoodIn wsX10_foggedOf wsX10_lowest := qw_e qk_X10_foggedOf qk_X10_lowest (by decide +kernel)
set_option maxRecDepth 20000 in
theorem gX10_foggedOf_X10_lowest : GoodIn wsX10_foggedOf (va_wsS RX10 266 yX10_lowest wsX10_lowest) := goodIn_app (qw_e qk_X10_foggedOf (QK_cons qw_196 (QK_cons qw_197 (QK_cons qw_996 QK_nil))) (by decide +kernel)) ggX10_foggedOf_X10_lowest
theorem dX10_foggedOf_0 : decode cX10_foggedOf 0 = .ok (.aload_n 0, 1) := by decide +kernel
theorem dX10_foggedOf_1 : decode cX10_foggedOf 1 = .ok (.invokevirtual 171, 3) := by decide +kernel
theorem dX10_foggedOf_4 : decode cX10_foggedOf 4 = .ok (.lconst 0, 1) := by decide +kernel
theorem dX10_foggedOf_5 : decode cX10_foggedOf 5 = .ok (.lstore 5, 2) := by decide +kernel
theorem dX10_foggedOf_7 : decode cX10_foggedOf 7 = .ok (.iconst 0, 1) := by decide +kernel
theorem dX10_foggedOf_8 : decode cX10_foggedOf 8 = .ok (.istore 7, 2) := by decide +kernel
theorem dX10_foggedOf_10 : decode cX10_foggedOf 10 = .ok (.iload 7, 2) := by decide +kernel
theorem dX10_foggedOf_12 : decode cX10_foggedOf 12 = .ok (.bipush 96, 2) := by decide +kernel
theorem dX10_foggedOf_14 : decode cX10_foggedOf 14 = .ok (.if_icmp .ge 17, 3) := by decide +kernel
theorem dX10_foggedOf_17 : decode cX10_foggedOf 17 = .ok (.aload_n 0, 1) := by decide +kernel
theorem dX10_foggedOf_18 : decode cX10_foggedOf 18 = .ok (.getfield 31, 3) := by decide +kernel
theorem dX10_foggedOf_21 : decode cX10_foggedOf 21 = .ok (.iload 7, 2) := by decide +kernel
theorem dX10_foggedOf_23 : decode cX10_foggedOf 23 = .ok (.iconst 0, 1) := by decide +kernel
theorem dX10_foggedOf_24 : decode cX10_foggedOf 24 = .ok (.bastore, 1) := by decide +kernel
theorem dX10_foggedOf_25 : decode cX10_foggedOf 25 = .ok (.iinc 7 1, 3) := by decide +kernel
theorem dX10_foggedOf_28 : decode cX10_foggedOf 28 = .ok (.goto (-18), 3) := by decide +kernel
theorem dX10_foggedOf_31 : decode cX10_foggedOf 31 = .ok (.iconst 0, 1) := by decide +kernel
theorem dX10_foggedOf_32 : decode cX10_foggedOf 32 = .ok (.istore 7, 2) := by decide +kernel
theorem dX10_foggedOf_34 : decode cX10_foggedOf 34 = .ok (.iload 7, 2) := by decide +kernel
theorem dX10_foggedOf_36 : decode cX10_foggedOf 36 = .ok (.iconst 1, 1) := by decide +kernel
theorem dX10_foggedOf_37 : decode cX10_foggedOf 37 = .ok (.iload_n 2, 1) := by decide +kernel
theorem dX10_foggedOf_38 : decode cX10_foggedOf 38 = .ok (.iconst 1, 1) := by decide +kernel
theorem dX10_foggedOf_39 : decode cX10_foggedOf 39 = .ok (.iadd, 1) := by decide +kernel
theorem dX10_foggedOf_40 : decode cX10_foggedOf 40 = .ok (.ishl, 1) := by decide +kernel
theorem dX10_foggedOf_41 : decode cX10_foggedOf 41 = .ok (.if_icmp .ge 90, 3) := by decide +kernel
theorem dX10_foggedOf_44 : decode cX10_foggedOf 44 = .ok (.lconst 1, 1) := by decide +kernel
theorem dX10_foggedOf_45 : decode cX10_foggedOf 45 = .ok (.lstore 8, 2) := by decide +kernel
theorem dX10_foggedOf_47 : decode cX10_foggedOf 47 = .ok (.iconst 0, 1) := by decide +kernel
theorem dX10_foggedOf_48 : decode cX10_foggedOf 48 = .ok (.istore 10, 2) := by decide +kernel
theorem dX10_foggedOf_50 : decode cX10_foggedOf 50 = .ok (.iload 10, 2) := by decide +kernel
theorem dX10_foggedOf_52 : decode cX10_foggedOf 52 = .ok (.iload_n 2, 1) := by decide +kernel
theorem dX10_foggedOf_53 : decode cX10_foggedOf 53 = .ok (.if_icmp .gt 48, 3) := by decide +kernel
theorem dX10_foggedOf_56 : decode cX10_foggedOf 56 = .ok (.aload_n 0, 1) := by decide +kernel
theorem dX10_foggedOf_57 : decode cX10_foggedOf 57 = .ok (.getfield 31, 3) := by decide +kernel
theorem dX10_foggedOf_60 : decode cX10_foggedOf 60 = .ok (.iload 10, 2) := by decide +kernel
theorem dX10_foggedOf_62 : decode cX10_foggedOf 62 = .ok (.iload 7, 2) := by decide +kernel
theorem dX10_foggedOf_64 : decode cX10_foggedOf 64 = .ok (.iload 10, 2) := by decide +kernel
theorem dX10_foggedOf_66 : decode cX10_foggedOf 66 = .ok (.invokestatic 177, 3) := by decide +kernel
theorem dX10_foggedOf_69 : decode cX10_foggedOf 69 = .ok (.bastore, 1) := by decide +kernel
theorem dX10_foggedOf_70 : decode cX10_foggedOf 70 = .ok (.lload 8, 2) := by decide +kernel
theorem dX10_foggedOf_72 : decode cX10_foggedOf 72 = .ok (.aload_n 0, 1) := by decide +kernel
theorem dX10_foggedOf_73 : decode cX10_foggedOf 73 = .ok (.getfield 31, 3) := by decide +kernel
theorem dX10_foggedOf_76 : decode cX10_foggedOf 76 = .ok (.iload 10, 2) := by decide +kernel
theorem dX10_foggedOf_78 : decode cX10_foggedOf 78 = .ok (.baload, 1) := by decide +kernel
theorem dX10_foggedOf_79 : decode cX10_foggedOf 79 = .ok (.ifCond .eq 8, 3) := by decide +kernel
theorem dX10_foggedOf_82 : decode cX10_foggedOf 82 = .ok (.iload_n 1, 1) := by decide +kernel
theorem dX10_foggedOf_83 : decode cX10_foggedOf 83 = .ok (.i2l, 1) := by decide +kernel
theorem dX10_foggedOf_84 : decode cX10_foggedOf 84 = .ok (.goto 8, 3) := by decide +kernel
theorem dX10_foggedOf_87 : decode cX10_foggedOf 87 = .ok (.bipush 16, 2) := by decide +kernel
theorem dX10_foggedOf_89 : decode cX10_foggedOf 89 = .ok (.iload_n 1, 1) := by decide +kernel
theorem dX10_foggedOf_90 : decode cX10_foggedOf 90 = .ok (.isub, 1) := by decide +kernel
theorem dX10_foggedOf_91 : decode cX10_foggedOf 91 = .ok (.i2l, 1) := by decide +kernel
theorem dX10_foggedOf_92 : decode cX10_foggedOf 92 = .ok (.lmul, 1) := by decide +kernel
theorem dX10_foggedOf_93 : decode cX10_foggedOf 93 = .ok (.lstore 8, 2) := by decide +kernel
theorem dX10_foggedOf_95 : decode cX10_foggedOf 95 = .ok (.iinc 10 1, 3) := by decide +kernel
theorem dX10_foggedOf_98 : decode cX10_foggedOf 98 = .ok (.goto (-48), 3) := by decide +kernel
theorem dX10_foggedOf_101 : decode cX10_foggedOf 101 = .ok (.aload_n 0, 1) := by decide +kernel
theorem dX10_foggedOf_102 : decode cX10_foggedOf 102 = .ok (.invokevirtual 174, 3) := by decide +kernel
theorem dX10_foggedOf_105 : decode cX10_foggedOf 105 = .ok (.lload 5, 2) := by decide +kernel
theorem dX10_foggedOf_107 : decode cX10_foggedOf 107 = .ok (.aload_n 0, 1) := by decide +kernel
theorem dX10_foggedOf_108 : decode cX10_foggedOf 108 = .ok (.iload_n 3, 1) := by decide +kernel
theorem dX10_foggedOf_109 : decode cX10_foggedOf 109 = .ok (.invokevirtual 199, 3) := by decide +kernel
theorem dX10_foggedOf_112 : decode cX10_foggedOf 112 = .ok (.iconst (-1), 1) := by decide +kernel
theorem dX10_foggedOf_113 : decode cX10_foggedOf 113 = .ok (.if_icmp .eq 8, 3) := by decide +kernel
theorem dX10_foggedOf_116 : decode cX10_foggedOf 116 = .ok (.lload 8, 2) := by decide +kernel
theorem dX10_foggedOf_118 : decode cX10_foggedOf 118 = .ok (.goto 4, 3) := by decide +kernel
theorem dX10_foggedOf_121 : decode cX10_foggedOf 121 = .ok (.lconst 0, 1) := by decide +kernel
theorem dX10_foggedOf_122 : decode cX10_foggedOf 122 = .ok (.ladd, 1) := by decide +kernel
theorem dX10_foggedOf_123 : decode cX10_foggedOf 123 = .ok (.lstore 5, 2) := by decide +kernel
theorem dX10_foggedOf_125 : decode cX10_foggedOf 125 = .ok (.iinc 7 1, 3) := by decide +kernel
theorem dX10_foggedOf_128 : decode cX10_foggedOf 128 = .ok (.goto (-94), 3) := by decide +kernel
theorem dX10_foggedOf_131 : decode cX10_foggedOf 131 = .ok (.lload 5, 2) := by decide +kernel
theorem dX10_foggedOf_133 : decode cX10_foggedOf 133 = .ok (.lconst 1, 1) := by decide +kernel
theorem dX10_foggedOf_134 : decode cX10_foggedOf 134 = .ok (.iconst 4, 1) := by decide +kernel
theorem dX10_foggedOf_135 : decode cX10_foggedOf 135 = .ok (.iload_n 2, 1) := by decide +kernel
theorem dX10_foggedOf_136 : decode cX10_foggedOf 136 = .ok (.iconst 1, 1) := by decide +kernel
theorem dX10_foggedOf_137 : decode cX10_foggedOf 137 = .ok (.iadd, 1) := by decide +kernel
theorem dX10_foggedOf_138 : decode cX10_foggedOf 138 = .ok (.imul, 1) := by decide +kernel
theorem dX10_foggedOf_139 : decode cX10_foggedOf 139 = .ok (.lshl, 1) := by decide +kernel
theorem dX10_foggedOf_140 : decode cX10_foggedOf 140 = .ok (.iload 4, 2) := by decide +kernel
theorem dX10_foggedOf_142 : decode cX10_foggedOf 142 = .ok (.invokestatic 266, 3) := by decide +kernel
theorem dX10_foggedOf_145 : decode cX10_foggedOf 145 = .ok (.lreturn, 1) := by decide +kernel
set_option maxRecDepth 20000 in
theorem ggX10_fogged_X10_in : GoodIn wsX10_fogged wsX10_in := qw_e qk_X10_fogged qk_X10_in (by decide +kernel)
set_option maxRecDepth 20000 in
theorem gX10_fogged_X10_in : GoodIn wsX10_fogged (va_wsS RX10 80 yX10_in wsX10_in) := goodIn_app (qw_e qk_X10_fogged (QK_cons qw_779 (QK_cons qw_780 (QK_cons qw_996 QK_nil))) (by decide +kernel)) ggX10_fogged_X10_in
set_option maxRecDepth 20000 in
theorem ggX10_fogged_X10_isThief : GoodIn wsX10_fogged wsX10_isThief := qw_e qk_X10_fogged qk_X10_isThief (by decide +kernel)
set_option maxRecDepth 20000 in
theorem gX10_fogged_X10_isThief : GoodIn wsX10_fogged (wsV RX10 139 RX10 yX10_isThief wsX10_isThief) := goodIn_app (qw_e qk_X10_fogged (QK_cons qw_699 (QK_cons qw_700 (QK_cons qw_701 (QK_cons qw_996 QK_nil)))) (by decide +kernel)) ggX10_fogged_X10_isThief
set_option maxRecDepth 20000 in
theorem ggX10_fogged_X10_foggedOf : GoodIn wsX10_fogged wsX10_foggedOf := qw_e qk_X10_fogged qk_X10_foggedOf (by decide +kernel)
set_option maxRecDepth 20000 in
theorem gX10_fogged_X10_foggedOf : GoodIn wsX10_fogged (wsV RX10 270 RX10 yX10_foggedOf wsX10_foggedOf) := goodIn_app (qw_e qk_X10_fogged (QK_cons qw_192 (QK_cons qw_193 (QK_cons qw_194 (QK_cons qw_996 QK_nil)))) (by decide +kernel)) ggX10_fogged_X10_foggedOf
set_option maxRecDepth 20000 in
theorem ggX10_fogged_X10_no : GoodIn wsX10_fogged wsX10_no := qw_e qk_X10_fogged qk_X10_no (by decide +kernel)
set_option maxRecDepth 20000 in
theorem gX10_fogged_X10_no : GoodIn wsX10_fogged (va_wsS RX10 274 yX10_no wsX10_no) := goodIn_app (qw_e qk_X10_fogged (QK_cons qw_151 (QK_cons qw_152 (QK_cons qw_996 QK_nil))) (by decide +kernel)) ggX10_fogged_X10_no
theorem dX10_fogged_0 : decode cX10_fogged 0 = .ok (.iload_n 1, 1) := by decide +kernel
theorem dX10_fogged_1 : decode cX10_fogged 1 = .ok (.iconst 0, 1) := by decide +kernel
theorem dX10_fogged_2 : decode cX10_fogged 2 = .ok (.bipush 16, 2) := by decide +kernel
theorem dX10_fogged_4 : decode cX10_fogged 4 = .ok (.invokestatic 80, 3) := by decide +kernel
theorem dX10_fogged_7 : decode cX10_fogged 7 = .ok (.ifCond .eq 43, 3) := by decide +kernel
theorem dX10_fogged_10 : decode cX10_fogged 10 = .ok (.iload_n 2, 1) := by decide +kernel
theorem dX10_fogged_11 : decode cX10_fogged 11 = .ok (.iconst 0, 1) := by decide +kernel
theorem dX10_fogged_12 : decode cX10_fogged 12 = .ok (.bipush 9, 2) := by decide +kernel
theorem dX10_fogged_14 : decode cX10_fogged 14 = .ok (.invokestatic 80, 3) := by decide +kernel
theorem dX10_fogged_17 : decode cX10_fogged 17 = .ok (.ifCond .eq 33, 3) := by decide +kernel
theorem dX10_fogged_20 : decode cX10_fogged 20 = .ok (.aload_n 0, 1) := by decide +kernel
theorem dX10_fogged_21 : decode cX10_fogged 21 = .ok (.iload_n 3, 1) := by decide +kernel
theorem dX10_fogged_22 : decode cX10_fogged 22 = .ok (.invokevirtual 139, 3) := by decide +kernel
theorem dX10_fogged_25 : decode cX10_fogged 25 = .ok (.ifCond .eq 25, 3) := by decide +kernel
theorem dX10_fogged_28 : decode cX10_fogged 28 = .ok (.iload 4, 2) := by decide +kernel
theorem dX10_fogged_30 : decode cX10_fogged 30 = .ok (.iconst 0, 1) := by decide +kernel
theorem dX10_fogged_31 : decode cX10_fogged 31 = .ok (.iconst 1, 1) := by decide +kernel
theorem dX10_fogged_32 : decode cX10_fogged 32 = .ok (.invokestatic 80, 3) := by decide +kernel
theorem dX10_fogged_35 : decode cX10_fogged 35 = .ok (.ifCond .eq 15, 3) := by decide +kernel
theorem dX10_fogged_38 : decode cX10_fogged 38 = .ok (.aload_n 0, 1) := by decide +kernel
theorem dX10_fogged_39 : decode cX10_fogged 39 = .ok (.iload_n 1, 1) := by decide +kernel
theorem dX10_fogged_40 : decode cX10_fogged 40 = .ok (.iload_n 2, 1) := by decide +kernel
theorem dX10_fogged_41 : decode cX10_fogged 41 = .ok (.iload_n 3, 1) := by decide +kernel
theorem dX10_fogged_42 : decode cX10_fogged 42 = .ok (.iload 4, 2) := by decide +kernel
theorem dX10_fogged_44 : decode cX10_fogged 44 = .ok (.invokevirtual 270, 3) := by decide +kernel
theorem dX10_fogged_47 : decode cX10_fogged 47 = .ok (.goto 8, 3) := by decide +kernel
theorem dX10_fogged_50 : decode cX10_fogged 50 = .ok (.bipush (-2), 2) := by decide +kernel
theorem dX10_fogged_52 : decode cX10_fogged 52 = .ok (.invokestatic 274, 3) := by decide +kernel
theorem dX10_fogged_55 : decode cX10_fogged 55 = .ok (.lreturn, 1) := by decide +kernel
set_option maxRecDepth 20000 in
theorem ggX10_nightsOf_X10_asTold : GoodIn wsX10_nightsOf wsX10_asTold := qw_e qk_X10_nightsOf qk_X10_asTold (by decide +kernel)
set_option maxRecDepth 20000 in
theorem gX10_nightsOf_X10_asTold : GoodIn wsX10_nightsOf (wsV RX10 171 RX10 yX10_asTold wsX10_asTold) := goodIn_app (qw_e qk_X10_nightsOf (QK_cons qw_598 (QK_cons qw_599 (QK_cons qw_600 (QK_cons qw_996 QK_nil)))) (by decide +kernel)) ggX10_nightsOf_X10_asTold
set_option maxRecDepth 20000 in
theorem ggX10_nightsOf_X10_lostNow : GoodIn wsX10_nightsOf wsX10_lostNow := qw_e qk_X10_nightsOf qk_X10_lostNow (by decide +kernel)
set_option maxRecDepth 20000 in
theorem gX10_nightsOf_X10_lostNow : GoodIn wsX10_nightsOf (wsV RX10 211 RX10 yX10_lostNow wsX10_lostNow) := goodIn_app (qw_e qk_X10_nightsOf (QK_cons qw_450 (QK_cons qw_451 (QK_cons qw_452 (QK_cons qw_996 QK_nil)))) (by decide +kernel)) ggX10_nightsOf_X10_lostNow
theorem dX10_nightsOf_0 : decode cX10_nightsOf 0 = .ok (.aload_n 0, 1) := by decide +kernel
theorem dX10_nightsOf_1 : decode cX10_nightsOf 1 = .ok (.invokevirtual 171, 3) := by decide +kernel
theorem dX10_nightsOf_4 : decode cX10_nightsOf 4 = .ok (.iload_n 1, 1) := by decide +kernel
theorem dX10_nightsOf_5 : decode cX10_nightsOf 5 = .ok (.istore 4, 2) := by decide +kernel
theorem dX10_nightsOf_7 : decode cX10_nightsOf 7 = .ok (.aload_n 0, 1) := by decide +kernel
theorem dX10_nightsOf_8 : decode cX10_nightsOf 8 = .ok (.iload_n 2, 1) := by decide +kernel
theorem dX10_nightsOf_9 : decode cX10_nightsOf 9 = .ok (.putfield 168, 3) := by decide +kernel
theorem dX10_nightsOf_12 : decode cX10_nightsOf 12 = .ok (.iconst 0, 1) := by decide +kernel
theorem dX10_nightsOf_13 : decode cX10_nightsOf 13 = .ok (.istore 5, 2) := by decide +kernel
theorem dX10_nightsOf_15 : decode cX10_nightsOf 15 = .ok (.iload 5, 2) := by decide +kernel
theorem dX10_nightsOf_17 : decode cX10_nightsOf 17 = .ok (.iload_n 2, 1) := by decide +kernel
theorem dX10_nightsOf_18 : decode cX10_nightsOf 18 = .ok (.if_icmp .ge 35, 3) := by decide +kernel
theorem dX10_nightsOf_21 : decode cX10_nightsOf 21 = .ok (.ldc_w 278, 3) := by decide +kernel
theorem dX10_nightsOf_24 : decode cX10_nightsOf 24 = .ok (.iload 4, 2) := by decide +kernel
theorem dX10_nightsOf_26 : decode cX10_nightsOf 26 = .ok (.imul, 1) := by decide +kernel
theorem dX10_nightsOf_27 : decode cX10_nightsOf 27 = .ok (.sipush 12345, 3) := by decide +kernel
theorem dX10_nightsOf_30 : decode cX10_nightsOf 30 = .ok (.iadd, 1) := by decide +kernel
theorem dX10_nightsOf_31 : decode cX10_nightsOf 31 = .ok (.istore 4, 2) := by decide +kernel
theorem dX10_nightsOf_33 : decode cX10_nightsOf 33 = .ok (.aload_n 0, 1) := by decide +kernel
theorem dX10_nightsOf_34 : decode cX10_nightsOf 34 = .ok (.getfield 28, 3) := by decide +kernel
theorem dX10_nightsOf_37 : decode cX10_nightsOf 37 = .ok (.iload 5, 2) := by decide +kernel
theorem dX10_nightsOf_39 : decode cX10_nightsOf 39 = .ok (.iload 4, 2) := by decide +kernel
theorem dX10_nightsOf_41 : decode cX10_nightsOf 41 = .ok (.bipush 16, 2) := by decide +kernel
theorem dX10_nightsOf_43 : decode cX10_nightsOf 43 = .ok (.iushr, 1) := by decide +kernel
theorem dX10_nightsOf_44 : decode cX10_nightsOf 44 = .ok (.iconst 5, 1) := by decide +kernel
theorem dX10_nightsOf_45 : decode cX10_nightsOf 45 = .ok (.irem, 1) := by decide +kernel
theorem dX10_nightsOf_46 : decode cX10_nightsOf 46 = .ok (.iastore, 1) := by decide +kernel
theorem dX10_nightsOf_47 : decode cX10_nightsOf 47 = .ok (.iinc 5 1, 3) := by decide +kernel
theorem dX10_nightsOf_50 : decode cX10_nightsOf 50 = .ok (.goto (-35), 3) := by decide +kernel
theorem dX10_nightsOf_53 : decode cX10_nightsOf 53 = .ok (.aload_n 0, 1) := by decide +kernel
theorem dX10_nightsOf_54 : decode cX10_nightsOf 54 = .ok (.invokevirtual 211, 3) := by decide +kernel
theorem dX10_nightsOf_57 : decode cX10_nightsOf 57 = .ok (.istore 5, 2) := by decide +kernel
theorem dX10_nightsOf_59 : decode cX10_nightsOf 59 = .ok (.iload_n 3, 1) := by decide +kernel
theorem dX10_nightsOf_60 : decode cX10_nightsOf 60 = .ok (.ifCond .ne 8, 3) := by decide +kernel
theorem dX10_nightsOf_63 : decode cX10_nightsOf 63 = .ok (.iload 5, 2) := by decide +kernel
theorem dX10_nightsOf_65 : decode cX10_nightsOf 65 = .ok (.goto 9, 3) := by decide +kernel
theorem dX10_nightsOf_68 : decode cX10_nightsOf 68 = .ok (.aload_n 0, 1) := by decide +kernel
theorem dX10_nightsOf_69 : decode cX10_nightsOf 69 = .ok (.getfield 35, 3) := by decide +kernel
theorem dX10_nightsOf_72 : decode cX10_nightsOf 72 = .ok (.iload_n 2, 1) := by decide +kernel
theorem dX10_nightsOf_73 : decode cX10_nightsOf 73 = .ok (.iaload, 1) := by decide +kernel
theorem dX10_nightsOf_74 : decode cX10_nightsOf 74 = .ok (.ireturn, 1) := by decide +kernel
set_option maxRecDepth 20000 in
theorem ggX10_nights_X10_in : GoodIn wsX10_nights wsX10_in := qw_e qk_X10_nights qk_X10_in (by decide +kernel)
set_option maxRecDepth 20000 in
theorem gX10_nights_X10_in : GoodIn wsX10_nights (va_wsS RX10 80 yX10_in wsX10_in) := goodIn_app (qw_e qk_X10_nights (QK_cons qw_779 (QK_cons qw_780 (QK_cons qw_996 QK_nil))) (by decide +kernel)) ggX10_nights_X10_in
set_option maxRecDepth 20000 in
theorem ggX10_nights_X10_nightsOf : GoodIn wsX10_nights wsX10_nightsOf := qw_e qk_X10_nights qk_X10_nightsOf (by decide +kernel)
set_option maxRecDepth 20000 in
theorem gX10_nights_X10_nightsOf : GoodIn wsX10_nights (wsV RX10 279 RX10 yX10_nightsOf wsX10_nightsOf) := goodIn_app (qw_e qk_X10_nights (QK_cons qw_168 (QK_cons qw_169 (QK_cons qw_170 (QK_cons qw_996 QK_nil)))) (by decide +kernel)) ggX10_nights_X10_nightsOf
theorem dX10_nights_0 : decode cX10_nights 0 = .ok (.iload_n 2, 1) := by decide +kernel
theorem dX10_nights_1 : decode cX10_nights 1 = .ok (.iconst 1, 1) := by decide +kernel
theorem dX10_nights_2 : decode cX10_nights 2 = .ok (.bipush 24, 2) := by decide +kernel
theorem dX10_nights_4 : decode cX10_nights 4 = .ok (.invokestatic 80, 3) := by decide +kernel
theorem dX10_nights_7 : decode cX10_nights 7 = .ok (.ifCond .eq 22, 3) := by decide +kernel
theorem dX10_nights_10 : decode cX10_nights 10 = .ok (.iload_n 3, 1) := by decide +kernel
theorem dX10_nights_11 : decode cX10_nights 11 = .ok (.iconst 0, 1) := by decide +kernel
theorem dX10_nights_12 : decode cX10_nights 12 = .ok (.iconst 1, 1) := by decide +kernel
theorem dX10_nights_13 : decode cX10_nights 13 = .ok (.invokestatic 80, 3) := by decide +kernel
theorem dX10_nights_16 : decode cX10_nights 16 = .ok (.ifCond .eq 13, 3) := by decide +kernel
theorem dX10_nights_19 : decode cX10_nights 19 = .ok (.aload_n 0, 1) := by decide +kernel
theorem dX10_nights_20 : decode cX10_nights 20 = .ok (.iload_n 1, 1) := by decide +kernel
theorem dX10_nights_21 : decode cX10_nights 21 = .ok (.iload_n 2, 1) := by decide +kernel
theorem dX10_nights_22 : decode cX10_nights 22 = .ok (.iload_n 3, 1) := by decide +kernel
theorem dX10_nights_23 : decode cX10_nights 23 = .ok (.invokevirtual 279, 3) := by decide +kernel
theorem dX10_nights_26 : decode cX10_nights 26 = .ok (.goto 5, 3) := by decide +kernel
theorem dX10_nights_29 : decode cX10_nights 29 = .ok (.bipush (-2), 2) := by decide +kernel
theorem dX10_nights_31 : decode cX10_nights 31 = .ok (.ireturn, 1) := by decide +kernel
theorem dX10_meets_0 : decode cX10_meets 0 = .ok (.aload_n 0, 1) := by decide +kernel
theorem dX10_meets_1 : decode cX10_meets 1 = .ok (.iload_n 1, 1) := by decide +kernel
theorem dX10_meets_2 : decode cX10_meets 2 = .ok (.putfield 283, 3) := by decide +kernel
theorem dX10_meets_5 : decode cX10_meets 5 = .ok (.bipush (-10), 2) := by decide +kernel
theorem dX10_meets_7 : decode cX10_meets 7 = .ok (.iload_n 1, 1) := by decide +kernel
theorem dX10_meets_8 : decode cX10_meets 8 = .ok (.isub, 1) := by decide +kernel
theorem dX10_meets_9 : decode cX10_meets 9 = .ok (.ireturn, 1) := by decide +kernel
set_option maxRecDepth 20000 in
theorem ggX10_isSheet_X10_in : GoodIn wsX10_isSheet wsX10_in := qw_e qk_X10_isSheet qk_X10_in (by decide +kernel)
set_option maxRecDepth 20000 in
theorem gX10_isSheet_X10_in : GoodIn wsX10_isSheet (va_wsS RX10 80 yX10_in wsX10_in) := goodIn_app (qw_e qk_X10_isSheet (QK_cons qw_779 (QK_cons qw_780 (QK_cons qw_996 QK_nil))) (by decide +kernel)) ggX10_isSheet_X10_in
theorem dX10_isSheet_0 : decode cX10_isSheet 0 = .ok (.iload_n 0, 1) := by decide +kernel
theorem dX10_isSheet_1 : decode cX10_isSheet 1 = .ok (.iconst 0, 1) := by decide +kernel
theorem dX10_isSheet_2 : decode cX10_isSheet 2 = .ok (.iconst 3, 1) := by decide +kernel
theorem dX10_isSheet_3 : decode cX10_isSheet 3 = .ok (.invokestatic 80, 3) := by decide +kernel
theorem dX10_isSheet_6 : decode cX10_isSheet 6 = .ok (.ireturn, 1) := by decide +kernel
set_option maxRecDepth 20000 in
theorem ggX10_sheet_X10_isSheet : GoodIn wsX10_sheet wsX10_isSheet := qw_e qk_X10_sheet qk_X10_isSheet (by decide +kernel)
set_option maxRecDepth 20000 in
theorem gX10_sheet_X10_isSheet : GoodIn wsX10_sheet (va_wsS RX10 244 yX10_isSheet wsX10_isSheet) := goodIn_app (qw_e qk_X10_sheet (QK_cons qw_312 (QK_cons qw_313 (QK_cons qw_996 QK_nil))) (by decide +kernel)) ggX10_sheet_X10_isSheet
set_option maxRecDepth 20000 in
theorem ggX10_sheet_X10_in : GoodIn wsX10_sheet wsX10_in := qw_e qk_X10_sheet qk_X10_in (by decide +kernel)
set_option maxRecDepth 20000 in
theorem gX10_sheet_X10_in : GoodIn wsX10_sheet (va_wsS RX10 80 yX10_in wsX10_in) := goodIn_app (qw_e qk_X10_sheet (QK_cons qw_779 (QK_cons qw_780 (QK_cons qw_996 QK_nil))) (by decide +kernel)) ggX10_sheet_X10_in
set_option maxRecDepth 20000 in
theorem ggX10_sheet_X10_meets : GoodIn wsX10_sheet wsX10_meets := qw_e qk_X10_sheet qk_X10_meets (by decide +kernel)
set_option maxRecDepth 20000 in
theorem gX10_sheet_X10_meets : GoodIn wsX10_sheet (wsV RX10 247 RX10 yX10_meets wsX10_meets) := goodIn_app (qw_e qk_X10_sheet (QK_cons qw_315 (QK_cons qw_316 (QK_cons qw_317 (QK_cons qw_996 QK_nil)))) (by decide +kernel)) ggX10_sheet_X10_meets
theorem dX10_sheet_0 : decode cX10_sheet 0 = .ok (.iload_n 1, 1) := by decide +kernel
theorem dX10_sheet_1 : decode cX10_sheet 1 = .ok (.invokestatic 244, 3) := by decide +kernel
theorem dX10_sheet_4 : decode cX10_sheet 4 = .ok (.ifCond .eq 18, 3) := by decide +kernel
theorem dX10_sheet_7 : decode cX10_sheet 7 = .ok (.iload_n 2, 1) := by decide +kernel
theorem dX10_sheet_8 : decode cX10_sheet 8 = .ok (.iconst 0, 1) := by decide +kernel
theorem dX10_sheet_9 : decode cX10_sheet 9 = .ok (.iconst 2, 1) := by decide +kernel
theorem dX10_sheet_10 : decode cX10_sheet 10 = .ok (.invokestatic 80, 3) := by decide +kernel
theorem dX10_sheet_13 : decode cX10_sheet 13 = .ok (.ifCond .eq 9, 3) := by decide +kernel
theorem dX10_sheet_16 : decode cX10_sheet 16 = .ok (.iload_n 3, 1) := by decide +kernel
theorem dX10_sheet_17 : decode cX10_sheet 17 = .ok (.bipush 60, 2) := by decide +kernel
theorem dX10_sheet_19 : decode cX10_sheet 19 = .ok (.if_icmp .le 6, 3) := by decide +kernel
theorem dX10_sheet_22 : decode cX10_sheet 22 = .ok (.bipush (-2), 2) := by decide +kernel
theorem dX10_sheet_24 : decode cX10_sheet 24 = .ok (.ireturn, 1) := by decide +kernel
theorem dX10_sheet_25 : decode cX10_sheet 25 = .ok (.iload_n 3, 1) := by decide +kernel
theorem dX10_sheet_26 : decode cX10_sheet 26 = .ok (.ifCond .ge 9, 3) := by decide +kernel
theorem dX10_sheet_29 : decode cX10_sheet 29 = .ok (.aload_n 0, 1) := by decide +kernel
theorem dX10_sheet_30 : decode cX10_sheet 30 = .ok (.iconst 5, 1) := by decide +kernel
theorem dX10_sheet_31 : decode cX10_sheet 31 = .ok (.invokevirtual 247, 3) := by decide +kernel
theorem dX10_sheet_34 : decode cX10_sheet 34 = .ok (.ireturn, 1) := by decide +kernel
theorem dX10_sheet_35 : decode cX10_sheet 35 = .ok (.aload_n 0, 1) := by decide +kernel
theorem dX10_sheet_36 : decode cX10_sheet 36 = .ok (.getfield 56, 3) := by decide +kernel
theorem dX10_sheet_39 : decode cX10_sheet 39 = .ok (.iload_n 1, 1) := by decide +kernel
theorem dX10_sheet_40 : decode cX10_sheet 40 = .ok (.iconst 1, 1) := by decide +kernel
theorem dX10_sheet_41 : decode cX10_sheet 41 = .ok (.bastore, 1) := by decide +kernel
theorem dX10_sheet_42 : decode cX10_sheet 42 = .ok (.aload_n 0, 1) := by decide +kernel
theorem dX10_sheet_43 : decode cX10_sheet 43 = .ok (.getfield 59, 3) := by decide +kernel
theorem dX10_sheet_46 : decode cX10_sheet 46 = .ok (.iload_n 1, 1) := by decide +kernel
theorem dX10_sheet_47 : decode cX10_sheet 47 = .ok (.iload_n 2, 1) := by decide +kernel
theorem dX10_sheet_48 : decode cX10_sheet 48 = .ok (.iastore, 1) := by decide +kernel
theorem dX10_sheet_49 : decode cX10_sheet 49 = .ok (.aload_n 0, 1) := by decide +kernel
theorem dX10_sheet_50 : decode cX10_sheet 50 = .ok (.getfield 62, 3) := by decide +kernel
theorem dX10_sheet_53 : decode cX10_sheet 53 = .ok (.iload_n 1, 1) := by decide +kernel
theorem dX10_sheet_54 : decode cX10_sheet 54 = .ok (.iload_n 3, 1) := by decide +kernel
theorem dX10_sheet_55 : decode cX10_sheet 55 = .ok (.iastore, 1) := by decide +kernel
theorem dX10_sheet_56 : decode cX10_sheet 56 = .ok (.iconst 0, 1) := by decide +kernel
theorem dX10_sheet_57 : decode cX10_sheet 57 = .ok (.istore 4, 2) := by decide +kernel
theorem dX10_sheet_59 : decode cX10_sheet 59 = .ok (.iload 4, 2) := by decide +kernel
theorem dX10_sheet_61 : decode cX10_sheet 61 = .ok (.bipush 60, 2) := by decide +kernel
theorem dX10_sheet_63 : decode cX10_sheet 63 = .ok (.if_icmp .ge 22, 3) := by decide +kernel
theorem dX10_sheet_66 : decode cX10_sheet 66 = .ok (.aload_n 0, 1) := by decide +kernel
theorem dX10_sheet_67 : decode cX10_sheet 67 = .ok (.getfield 65, 3) := by decide +kernel
theorem dX10_sheet_70 : decode cX10_sheet 70 = .ok (.bipush 60, 2) := by decide +kernel
theorem dX10_sheet_72 : decode cX10_sheet 72 = .ok (.iload_n 1, 1) := by decide +kernel
theorem dX10_sheet_73 : decode cX10_sheet 73 = .ok (.imul, 1) := by decide +kernel
theorem dX10_sheet_74 : decode cX10_sheet 74 = .ok (.iload 4, 2) := by decide +kernel
theorem dX10_sheet_76 : decode cX10_sheet 76 = .ok (.iadd, 1) := by decide +kernel
theorem dX10_sheet_77 : decode cX10_sheet 77 = .ok (.iconst 0, 1) := by decide +kernel
theorem dX10_sheet_78 : decode cX10_sheet 78 = .ok (.iastore, 1) := by decide +kernel
theorem dX10_sheet_79 : decode cX10_sheet 79 = .ok (.iinc 4 1, 3) := by decide +kernel
theorem dX10_sheet_82 : decode cX10_sheet 82 = .ok (.goto (-23), 3) := by decide +kernel
theorem dX10_sheet_85 : decode cX10_sheet 85 = .ok (.iload_n 3, 1) := by decide +kernel
theorem dX10_sheet_86 : decode cX10_sheet 86 = .ok (.ireturn, 1) := by decide +kernel
set_option maxRecDepth 20000 in
theorem ggX10_lose_X10_isSheet : GoodIn wsX10_lose wsX10_isSheet := qw_e qk_X10_lose qk_X10_isSheet (by decide +kernel)
set_option maxRecDepth 20000 in
theorem gX10_lose_X10_isSheet : GoodIn wsX10_lose (va_wsS RX10 244 yX10_isSheet wsX10_isSheet) := goodIn_app (qw_e qk_X10_lose (QK_cons qw_312 (QK_cons qw_313 (QK_cons qw_996 QK_nil))) (by decide +kernel)) ggX10_lose_X10_isSheet
set_option maxRecDepth 20000 in
theorem ggX10_lose_X10_meets : GoodIn wsX10_lose wsX10_meets := qw_e qk_X10_lose qk_X10_meets (by decide +kernel)
set_option maxRecDepth 20000 in
theorem gX10_lose_X10_meets : GoodIn wsX10_lose (wsV RX10 247 RX10 yX10_meets wsX10_meets) := goodIn_app (qw_e qk_X10_lose (QK_cons qw_315 (QK_cons qw_316 (QK_cons qw_317 (QK_cons qw_996 QK_nil)))) (by decide +kernel)) ggX10_lose_X10_meets
theorem dX10_lose_0 : decode cX10_lose 0 = .ok (.iload_n 1, 1) := by decide +kernel
theorem dX10_lose_1 : decode cX10_lose 1 = .ok (.invokestatic 244, 3) := by decide +kernel
theorem dX10_lose_4 : decode cX10_lose 4 = .ok (.ifCond .ne 6, 3) := by decide +kernel
theorem dX10_lose_7 : decode cX10_lose 7 = .ok (.bipush (-2), 2) := by decide +kernel
theorem dX10_lose_9 : decode cX10_lose 9 = .ok (.ireturn, 1) := by decide +kernel
theorem dX10_lose_10 : decode cX10_lose 10 = .ok (.aload_n 0, 1) := by decide +kernel
