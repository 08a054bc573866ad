theorem dX10_takesNow_53 : decode cX10_takesNow 53 = .ok (.iload_n 3, 1) := by decide +kernel
theorem dX10_takesNow_54 : decode cX10_takesNow 54 = .ok (.iconst 1, 1) := by decide +kernel
theorem dX10_takesNow_55 : decode cX10_takesNow 55 = .ok (.iadd, 1) := by decide +kernel
theorem dX10_takesNow_56 : decode cX10_takesNow 56 = .ok (.istore_n 3, 1) := by decide +kernel
theorem dX10_takesNow_57 : decode cX10_takesNow 57 = .ok (.iload_n 3, 1) := by decide +kernel
theorem dX10_takesNow_58 : decode cX10_takesNow 58 = .ok (.aload_n 0, 1) := by decide +kernel
theorem dX10_takesNow_59 : decode cX10_takesNow 59 = .ok (.getfield 25, 3) := by decide +kernel
theorem dX10_takesNow_62 : decode cX10_takesNow 62 = .ok (.iload_n 1, 1) := by decide +kernel
theorem dX10_takesNow_63 : decode cX10_takesNow 63 = .ok (.iaload, 1) := by decide +kernel
theorem dX10_takesNow_64 : decode cX10_takesNow 64 = .ok (.if_icmp .ne 6, 3) := by decide +kernel
theorem dX10_takesNow_67 : decode cX10_takesNow 67 = .ok (.iload 4, 2) := by decide +kernel
theorem dX10_takesNow_69 : decode cX10_takesNow 69 = .ok (.ireturn, 1) := by decide +kernel
theorem dX10_takesNow_70 : decode cX10_takesNow 70 = .ok (.iinc 4 1, 3) := by decide +kernel
theorem dX10_takesNow_73 : decode cX10_takesNow 73 = .ok (.goto (-41), 3) := by decide +kernel
theorem dX10_takesNow_76 : decode cX10_takesNow 76 = .ok (.iconst (-1), 1) := by decide +kernel
theorem dX10_takesNow_77 : decode cX10_takesNow 77 = .ok (.ireturn, 1) := by decide +kernel
set_option maxRecDepth 20000 in
theorem ggX10_takesOf_X10_walksTold : GoodIn wsX10_takesOf wsX10_walksTold := qw_e qk_X10_takesOf qk_X10_walksTold (by decide +kernel)
set_option maxRecDepth 20000 in
theorem gX10_takesOf_X10_walksTold : GoodIn wsX10_takesOf (wsV RX10 181 RX10 yX10_walksTold wsX10_walksTold) := goodIn_app (qw_e qk_X10_takesOf (QK_cons qw_594 (QK_cons qw_595 (QK_cons qw_596 (QK_cons qw_996 QK_nil)))) (by decide +kernel)) ggX10_takesOf_X10_walksTold
set_option maxRecDepth 20000 in
theorem ggX10_takesOf_X10_takesNow : GoodIn wsX10_takesOf wsX10_takesNow := qw_e qk_X10_takesOf qk_X10_takesNow (by decide +kernel)
set_option maxRecDepth 20000 in
theorem gX10_takesOf_X10_takesNow : GoodIn wsX10_takesOf (wsV RX10 199 RX10 yX10_takesNow wsX10_takesNow) := goodIn_app (qw_e qk_X10_takesOf (QK_cons qw_503 (QK_cons qw_504 (QK_cons qw_505 (QK_cons qw_996 QK_nil)))) (by decide +kernel)) ggX10_takesOf_X10_takesNow
theorem dX10_takesOf_0 : decode cX10_takesOf 0 = .ok (.aload_n 0, 1) := by decide +kernel
theorem dX10_takesOf_1 : decode cX10_takesOf 1 = .ok (.invokevirtual 181, 3) := by decide +kernel
theorem dX10_takesOf_4 : decode cX10_takesOf 4 = .ok (.aload_n 0, 1) := by decide +kernel
theorem dX10_takesOf_5 : decode cX10_takesOf 5 = .ok (.iload_n 1, 1) := by decide +kernel
theorem dX10_takesOf_6 : decode cX10_takesOf 6 = .ok (.invokevirtual 199, 3) := by decide +kernel
theorem dX10_takesOf_9 : decode cX10_takesOf 9 = .ok (.ireturn, 1) := by decide +kernel
set_option maxRecDepth 20000 in
theorem ggX10_takes_X10_isThief : GoodIn wsX10_takes wsX10_isThief := qw_e qk_X10_takes qk_X10_isThief (by decide +kernel)
set_option maxRecDepth 20000 in
theorem gX10_takes_X10_isThief : GoodIn wsX10_takes (wsV RX10 139 RX10 yX10_isThief wsX10_isThief) := goodIn_app (qw_e qk_X10_takes (QK_cons qw_699 (QK_cons qw_700 (QK_cons qw_701 (QK_cons qw_996 QK_nil)))) (by decide +kernel)) ggX10_takes_X10_isThief
set_option maxRecDepth 20000 in
theorem ggX10_takes_X10_takesOf : GoodIn wsX10_takes wsX10_takesOf := qw_e qk_X10_takes qk_X10_takesOf (by decide +kernel)
set_option maxRecDepth 20000 in
theorem gX10_takes_X10_takesOf : GoodIn wsX10_takes (wsV RX10 202 RX10 yX10_takesOf wsX10_takesOf) := goodIn_app (qw_e qk_X10_takes (QK_cons qw_499 (QK_cons qw_500 (QK_cons qw_501 (QK_cons qw_996 QK_nil)))) (by decide +kernel)) ggX10_takes_X10_takesOf
theorem dX10_takes_0 : decode cX10_takes 0 = .ok (.aload_n 0, 1) := by decide +kernel
theorem dX10_takes_1 : decode cX10_takes 1 = .ok (.iload_n 1, 1) := by decide +kernel
theorem dX10_takes_2 : decode cX10_takes 2 = .ok (.invokevirtual 139, 3) := by decide +kernel
theorem dX10_takes_5 : decode cX10_takes 5 = .ok (.ifCond .eq 11, 3) := by decide +kernel
theorem dX10_takes_8 : decode cX10_takes 8 = .ok (.aload_n 0, 1) := by decide +kernel
theorem dX10_takes_9 : decode cX10_takes 9 = .ok (.iload_n 1, 1) := by decide +kernel
theorem dX10_takes_10 : decode cX10_takes 10 = .ok (.invokevirtual 202, 3) := by decide +kernel
theorem dX10_takes_13 : decode cX10_takes 13 = .ok (.goto 5, 3) := by decide +kernel
theorem dX10_takes_16 : decode cX10_takes 16 = .ok (.bipush (-2), 2) := by decide +kernel
theorem dX10_takes_18 : decode cX10_takes 18 = .ok (.ireturn, 1) := by decide +kernel
set_option maxRecDepth 20000 in
theorem ggX10_isTaken_X10_takesNow : GoodIn wsX10_isTaken wsX10_takesNow := qw_e qk_X10_isTaken qk_X10_takesNow (by decide +kernel)
set_option maxRecDepth 20000 in
theorem gX10_isTaken_X10_takesNow : GoodIn wsX10_isTaken (wsV RX10 199 RX10 yX10_takesNow wsX10_takesNow) := goodIn_app (qw_e qk_X10_isTaken (QK_cons qw_503 (QK_cons qw_504 (QK_cons qw_505 (QK_cons qw_996 QK_nil)))) (by decide +kernel)) ggX10_isTaken_X10_takesNow
theorem dX10_isTaken_0 : decode cX10_isTaken 0 = .ok (.iconst 0, 1) := by decide +kernel
theorem dX10_isTaken_1 : decode cX10_isTaken 1 = .ok (.istore_n 2, 1) := by decide +kernel
theorem dX10_isTaken_2 : decode cX10_isTaken 2 = .ok (.iconst 0, 1) := by decide +kernel
theorem dX10_isTaken_3 : decode cX10_isTaken 3 = .ok (.istore_n 3, 1) := by decide +kernel
theorem dX10_isTaken_4 : decode cX10_isTaken 4 = .ok (.iload_n 3, 1) := by decide +kernel
theorem dX10_isTaken_5 : decode cX10_isTaken 5 = .ok (.aload_n 0, 1) := by decide +kernel
theorem dX10_isTaken_6 : decode cX10_isTaken 6 = .ok (.getfield 111, 3) := by decide +kernel
theorem dX10_isTaken_9 : decode cX10_isTaken 9 = .ok (.if_icmp .ge 38, 3) := by decide +kernel
theorem dX10_isTaken_12 : decode cX10_isTaken 12 = .ok (.iload_n 2, 1) := by decide +kernel
theorem dX10_isTaken_13 : decode cX10_isTaken 13 = .ok (.ifCond .ne 22, 3) := by decide +kernel
theorem dX10_isTaken_16 : decode cX10_isTaken 16 = .ok (.aload_n 0, 1) := by decide +kernel
theorem dX10_isTaken_17 : decode cX10_isTaken 17 = .ok (.getfield 22, 3) := by decide +kernel
theorem dX10_isTaken_20 : decode cX10_isTaken 20 = .ok (.iload_n 3, 1) := by decide +kernel
theorem dX10_isTaken_21 : decode cX10_isTaken 21 = .ok (.iaload, 1) := by decide +kernel
theorem dX10_isTaken_22 : decode cX10_isTaken 22 = .ok (.iload_n 1, 1) := by decide +kernel
theorem dX10_isTaken_23 : decode cX10_isTaken 23 = .ok (.if_icmp .ne 16, 3) := by decide +kernel
theorem dX10_isTaken_26 : decode cX10_isTaken 26 = .ok (.aload_n 0, 1) := by decide +kernel
theorem dX10_isTaken_27 : decode cX10_isTaken 27 = .ok (.iload_n 3, 1) := by decide +kernel
theorem dX10_isTaken_28 : decode cX10_isTaken 28 = .ok (.invokevirtual 199, 3) := by decide +kernel
theorem dX10_isTaken_31 : decode cX10_isTaken 31 = .ok (.iconst (-1), 1) := by decide +kernel
theorem dX10_isTaken_32 : decode cX10_isTaken 32 = .ok (.if_icmp .eq 7, 3) := by decide +kernel
theorem dX10_isTaken_35 : decode cX10_isTaken 35 = .ok (.iconst 1, 1) := by decide +kernel
theorem dX10_isTaken_36 : decode cX10_isTaken 36 = .ok (.goto 4, 3) := by decide +kernel
theorem dX10_isTaken_39 : decode cX10_isTaken 39 = .ok (.iconst 0, 1) := by decide +kernel
theorem dX10_isTaken_40 : decode cX10_isTaken 40 = .ok (.istore_n 2, 1) := by decide +kernel
theorem dX10_isTaken_41 : decode cX10_isTaken 41 = .ok (.iinc 3 1, 3) := by decide +kernel
theorem dX10_isTaken_44 : decode cX10_isTaken 44 = .ok (.goto (-40), 3) := by decide +kernel
theorem dX10_isTaken_47 : decode cX10_isTaken 47 = .ok (.iload_n 2, 1) := by decide +kernel
theorem dX10_isTaken_48 : decode cX10_isTaken 48 = .ok (.ireturn, 1) := by decide +kernel
set_option maxRecDepth 20000 in
theorem ggX10_safeOf_X10_walksTold : GoodIn wsX10_safeOf wsX10_walksTold := qw_e qk_X10_safeOf qk_X10_walksTold (by decide +kernel)
set_option maxRecDepth 20000 in
theorem gX10_safeOf_X10_walksTold : GoodIn wsX10_safeOf (wsV RX10 181 RX10 yX10_walksTold wsX10_walksTold) := goodIn_app (qw_e qk_X10_safeOf (QK_cons qw_594 (QK_cons qw_595 (QK_cons qw_596 (QK_cons qw_996 QK_nil)))) (by decide +kernel)) ggX10_safeOf_X10_walksTold
set_option maxRecDepth 20000 in
theorem ggX10_safeOf_X10_isTaken : GoodIn wsX10_safeOf wsX10_isTaken := qw_e qk_X10_safeOf qk_X10_isTaken (by decide +kernel)
set_option maxRecDepth 20000 in
theorem gX10_safeOf_X10_isTaken : GoodIn wsX10_safeOf (wsV RX10 205 RX10 yX10_isTaken wsX10_isTaken) := goodIn_app (qw_e qk_X10_safeOf (QK_cons qw_478 (QK_cons qw_479 (QK_cons qw_480 (QK_cons qw_996 QK_nil)))) (by decide +kernel)) ggX10_safeOf_X10_isTaken
theorem dX10_safeOf_0 : decode cX10_safeOf 0 = .ok (.aload_n 0, 1) := by decide +kernel
theorem dX10_safeOf_1 : decode cX10_safeOf 1 = .ok (.invokevirtual 181, 3) := by decide +kernel
theorem dX10_safeOf_4 : decode cX10_safeOf 4 = .ok (.iconst 0, 1) := by decide +kernel
theorem dX10_safeOf_5 : decode cX10_safeOf 5 = .ok (.istore_n 2, 1) := by decide +kernel
theorem dX10_safeOf_6 : decode cX10_safeOf 6 = .ok (.iconst 0, 1) := by decide +kernel
theorem dX10_safeOf_7 : decode cX10_safeOf 7 = .ok (.istore_n 3, 1) := by decide +kernel
theorem dX10_safeOf_8 : decode cX10_safeOf 8 = .ok (.iload_n 3, 1) := by decide +kernel
theorem dX10_safeOf_9 : decode cX10_safeOf 9 = .ok (.aload_n 0, 1) := by decide +kernel
theorem dX10_safeOf_10 : decode cX10_safeOf 10 = .ok (.getfield 88, 3) := by decide +kernel
theorem dX10_safeOf_13 : decode cX10_safeOf 13 = .ok (.if_icmp .ge 48, 3) := by decide +kernel
theorem dX10_safeOf_16 : decode cX10_safeOf 16 = .ok (.iload_n 2, 1) := by decide +kernel
theorem dX10_safeOf_17 : decode cX10_safeOf 17 = .ok (.aload_n 0, 1) := by decide +kernel
theorem dX10_safeOf_18 : decode cX10_safeOf 18 = .ok (.getfield 16, 3) := by decide +kernel
theorem dX10_safeOf_21 : decode cX10_safeOf 21 = .ok (.iload_n 3, 1) := by decide +kernel
theorem dX10_safeOf_22 : decode cX10_safeOf 22 = .ok (.iaload, 1) := by decide +kernel
theorem dX10_safeOf_23 : decode cX10_safeOf 23 = .ok (.iconst 2, 1) := by decide +kernel
theorem dX10_safeOf_24 : decode cX10_safeOf 24 = .ok (.if_icmp .ne 28, 3) := by decide +kernel
theorem dX10_safeOf_27 : decode cX10_safeOf 27 = .ok (.aload_n 0, 1) := by decide +kernel
theorem dX10_safeOf_28 : decode cX10_safeOf 28 = .ok (.iload_n 3, 1) := by decide +kernel
theorem dX10_safeOf_29 : decode cX10_safeOf 29 = .ok (.invokevirtual 205, 3) := by decide +kernel
theorem dX10_safeOf_32 : decode cX10_safeOf 32 = .ok (.ifCond .ne 20, 3) := by decide +kernel
theorem dX10_safeOf_35 : decode cX10_safeOf 35 = .ok (.iload_n 3, 1) := by decide +kernel
theorem dX10_safeOf_36 : decode cX10_safeOf 36 = .ok (.bipush 18, 2) := by decide +kernel
theorem dX10_safeOf_38 : decode cX10_safeOf 38 = .ok (.idiv, 1) := by decide +kernel
theorem dX10_safeOf_39 : decode cX10_safeOf 39 = .ok (.iload_n 1, 1) := by decide +kernel
theorem dX10_safeOf_40 : decode cX10_safeOf 40 = .ok (.if_icmp .ne 12, 3) := by decide +kernel
theorem dX10_safeOf_43 : decode cX10_safeOf 43 = .ok (.iconst 1, 1) := by decide +kernel
theorem dX10_safeOf_44 : decode cX10_safeOf 44 = .ok (.iload_n 3, 1) := by decide +kernel
theorem dX10_safeOf_45 : decode cX10_safeOf 45 = .ok (.bipush 18, 2) := by decide +kernel
theorem dX10_safeOf_47 : decode cX10_safeOf 47 = .ok (.irem, 1) := by decide +kernel
theorem dX10_safeOf_48 : decode cX10_safeOf 48 = .ok (.ishl, 1) := by decide +kernel
theorem dX10_safeOf_49 : decode cX10_safeOf 49 = .ok (.goto 4, 3) := by decide +kernel
theorem dX10_safeOf_52 : decode cX10_safeOf 52 = .ok (.iconst 0, 1) := by decide +kernel
theorem dX10_safeOf_53 : decode cX10_safeOf 53 = .ok (.ior, 1) := by decide +kernel
theorem dX10_safeOf_54 : decode cX10_safeOf 54 = .ok (.istore_n 2, 1) := by decide +kernel
theorem dX10_safeOf_55 : decode cX10_safeOf 55 = .ok (.iinc 3 1, 3) := by decide +kernel
theorem dX10_safeOf_58 : decode cX10_safeOf 58 = .ok (.goto (-50), 3) := by decide +kernel
theorem dX10_safeOf_61 : decode cX10_safeOf 61 = .ok (.iload_n 2, 1) := by decide +kernel
theorem dX10_safeOf_62 : decode cX10_safeOf 62 = .ok (.ireturn, 1) := by decide +kernel
set_option maxRecDepth 20000 in
theorem ggX10_safe_X10_in : GoodIn wsX10_safe wsX10_in := qw_e qk_X10_safe qk_X10_in (by decide +kernel)
set_option maxRecDepth 20000 in
theorem gX10_safe_X10_in : GoodIn wsX10_safe (va_wsS RX10 80 yX10_in wsX10_in) := goodIn_app (qw_e qk_X10_safe (QK_cons qw_779 (QK_cons qw_780 (QK_cons qw_996 QK_nil))) (by decide +kernel)) ggX10_safe_X10_in
set_option maxRecDepth 20000 in
theorem ggX10_safe_X10_safeOf : GoodIn wsX10_safe wsX10_safeOf := qw_e qk_X10_safe qk_X10_safeOf (by decide +kernel)
set_option maxRecDepth 20000 in
theorem gX10_safe_X10_safeOf : GoodIn wsX10_safe (wsV RX10 208 RX10 yX10_safeOf wsX10_safeOf) := goodIn_app (qw_e qk_X10_safe (QK_cons qw_474 (QK_cons qw_475 (QK_cons qw_476 (QK_cons qw_996 QK_nil)))) (by decide +kernel)) ggX10_safe_X10_safeOf
theorem dX10_safe_0 : decode cX10_safe 0 = .ok (.iload_n 1, 1) := by decide +kernel
theorem dX10_safe_1 : decode cX10_safe 1 = .ok (.iconst 0, 1) := by decide +kernel
theorem dX10_safe_2 : decode cX10_safe 2 = .ok (.iconst 1, 1) := by decide +kernel
theorem dX10_safe_3 : decode cX10_safe 3 = .ok (.invokestatic 80, 3) := by decide +kernel
theorem dX10_safe_6 : decode cX10_safe 6 = .ok (.ifCond .eq 11, 3) := by decide +kernel
theorem dX10_safe_9 : decode cX10_safe 9 = .ok (.aload_n 0, 1) := by decide +kernel
theorem dX10_safe_10 : decode cX10_safe 10 = .ok (.iload_n 1, 1) := by decide +kernel
theorem dX10_safe_11 : decode cX10_safe 11 = .ok (.invokevirtual 208, 3) := by decide +kernel
theorem dX10_safe_14 : decode cX10_safe 14 = .ok (.goto 5, 3) := by decide +kernel
theorem dX10_safe_17 : decode cX10_safe 17 = .ok (.bipush (-2), 2) := by decide +kernel
theorem dX10_safe_19 : decode cX10_safe 19 = .ok (.ireturn, 1) := by decide +kernel
set_option maxRecDepth 20000 in
theorem ggX10_lostNow_X10_walks : GoodIn wsX10_lostNow wsX10_walks := qw_e qk_X10_lostNow qk_X10_walks (by decide +kernel)
set_option maxRecDepth 20000 in
theorem gX10_lostNow_X10_walks : GoodIn wsX10_lostNow (wsV RX10 174 RX10 yX10_walks wsX10_walks) := goodIn_app (qw_e qk_X10_lostNow (QK_cons qw_603 (QK_cons qw_604 (QK_cons qw_605 (QK_cons qw_996 QK_nil)))) (by decide +kernel)) ggX10_lostNow_X10_walks
set_option maxRecDepth 20000 in
theorem ggX10_lostNow_X10_takesNow : GoodIn wsX10_lostNow wsX10_takesNow := qw_e qk_X10_lostNow qk_X10_takesNow (by decide +kernel)
set_option maxRecDepth 20000 in
theorem gX10_lostNow_X10_takesNow : GoodIn wsX10_lostNow (wsV RX10 199 RX10 yX10_takesNow wsX10_takesNow) := goodIn_app (qw_e qk_X10_lostNow (QK_cons qw_503 (QK_cons qw_504 (QK_cons qw_505 (QK_cons qw_996 QK_nil)))) (by decide +kernel)) ggX10_lostNow_X10_takesNow
theorem dX10_lostNow_0 : decode cX10_lostNow 0 = .ok (.aload_n 0, 1) := by decide +kernel
theorem dX10_lostNow_1 : decode cX10_lostNow 1 = .ok (.invokevirtual 174, 3) := by decide +kernel
theorem dX10_lostNow_4 : decode cX10_lostNow 4 = .ok (.iconst 0, 1) := by decide +kernel
theorem dX10_lostNow_5 : decode cX10_lostNow 5 = .ok (.istore_n 1, 1) := by decide +kernel
theorem dX10_lostNow_6 : decode cX10_lostNow 6 = .ok (.iconst 0, 1) := by decide +kernel
theorem dX10_lostNow_7 : decode cX10_lostNow 7 = .ok (.istore_n 2, 1) := by decide +kernel
theorem dX10_lostNow_8 : decode cX10_lostNow 8 = .ok (.iload_n 2, 1) := by decide +kernel
theorem dX10_lostNow_9 : decode cX10_lostNow 9 = .ok (.aload_n 0, 1) := by decide +kernel
theorem dX10_lostNow_10 : decode cX10_lostNow 10 = .ok (.getfield 111, 3) := by decide +kernel
theorem dX10_lostNow_13 : decode cX10_lostNow 13 = .ok (.if_icmp .ge 26, 3) := by decide +kernel
theorem dX10_lostNow_16 : decode cX10_lostNow 16 = .ok (.iload_n 1, 1) := by decide +kernel
theorem dX10_lostNow_17 : decode cX10_lostNow 17 = .ok (.aload_n 0, 1) := by decide +kernel
theorem dX10_lostNow_18 : decode cX10_lostNow 18 = .ok (.iload_n 2, 1) := by decide +kernel
theorem dX10_lostNow_19 : decode cX10_lostNow 19 = .ok (.invokevirtual 199, 3) := by decide +kernel
theorem dX10_lostNow_22 : decode cX10_lostNow 22 = .ok (.iconst (-1), 1) := by decide +kernel
theorem dX10_lostNow_23 : decode cX10_lostNow 23 = .ok (.if_icmp .eq 7, 3) := by decide +kernel
theorem dX10_lostNow_26 : decode cX10_lostNow 26 = .ok (.iconst 1, 1) := by decide +kernel
theorem dX10_lostNow_27 : decode cX10_lostNow 27 = .ok (.goto 4, 3) := by decide +kernel
theorem dX10_lostNow_30 : decode cX10_lostNow 30 = .ok (.iconst 0, 1) := by decide +kernel
theorem dX10_lostNow_31 : decode cX10_lostNow 31 = .ok (.iadd, 1) := by decide +kernel
theorem dX10_lostNow_32 : decode cX10_lostNow 32 = .ok (.istore_n 1, 1) := by decide +kernel
theorem dX10_lostNow_33 : decode cX10_lostNow 33 = .ok (.iinc 2 1, 3) := by decide +kernel
theorem dX10_lostNow_36 : decode cX10_lostNow 36 = .ok (.goto (-28), 3) := by decide +kernel
theorem dX10_lostNow_39 : decode cX10_lostNow 39 = .ok (.iload_n 1, 1) := by decide +kernel
theorem dX10_lostNow_40 : decode cX10_lostNow 40 = .ok (.ireturn, 1) := by decide +kernel
set_option maxRecDepth 20000 in
theorem ggX10_lostTold_X10_asTold : GoodIn wsX10_lostTold wsX10_asTold := qw_e qk_X10_lostTold qk_X10_asTold (by decide +kernel)
set_option maxRecDepth 20000 in
theorem gX10_lostTold_X10_asTold : GoodIn wsX10_lostTold (wsV RX10 171 RX10 yX10_asTold wsX10_asTold) := goodIn_app (qw_e qk_X10_lostTold (QK_cons qw_598 (QK_cons qw_599 (QK_cons qw_600 (QK_cons qw_996 QK_nil)))) (by decide +kernel)) ggX10_lostTold_X10_asTold
set_option maxRecDepth 20000 in
theorem ggX10_lostTold_X10_lostNow : GoodIn wsX10_lostTold wsX10_lostNow := qw_e qk_X10_lostTold qk_X10_lostNow (by decide +kernel)
set_option maxRecDepth 20000 in
theorem gX10_lostTold_X10_lostNow : GoodIn wsX10_lostTold (wsV RX10 211 RX10 yX10_lostNow wsX10_lostNow) := goodIn_app (qw_e qk_X10_lostTold (QK_cons qw_450 (QK_cons qw_451 (QK_cons qw_452 (QK_cons qw_996 QK_nil)))) (by decide +kernel)) ggX10_lostTold_X10_lostNow
theorem dX10_lostTold_0 : decode cX10_lostTold 0 = .ok (.aload_n 0, 1) := by decide +kernel
theorem dX10_lostTold_1 : decode cX10_lostTold 1 = .ok (.invokevirtual 171, 3) := by decide +kernel
theorem dX10_lostTold_4 : decode cX10_lostTold 4 = .ok (.aload_n 0, 1) := by decide +kernel
theorem dX10_lostTold_5 : decode cX10_lostTold 5 = .ok (.invokevirtual 211, 3) := by decide +kernel
theorem dX10_lostTold_8 : decode cX10_lostTold 8 = .ok (.ireturn, 1) := by decide +kernel
set_option maxRecDepth 20000 in
theorem ggX10_lost_X10_lostTold : GoodIn wsX10_lost wsX10_lostTold := qw_e qk_X10_lost qk_X10_lostTold (by decide +kernel)
set_option maxRecDepth 20000 in
theorem gX10_lost_X10_lostTold : GoodIn wsX10_lost (wsV RX10 214 RX10 yX10_lostTold wsX10_lostTold) := goodIn_app (qw_e qk_X10_lost (QK_cons qw_446 (QK_cons qw_447 (QK_cons qw_448 (QK_cons qw_996 QK_nil)))) (by decide +kernel)) ggX10_lost_X10_lostTold
theorem dX10_lost_0 : decode cX10_lost 0 = .ok (.aload_n 0, 1) := by decide +kernel
theorem dX10_lost_1 : decode cX10_lost 1 = .ok (.invokevirtual 214, 3) := by decide +kernel
theorem dX10_lost_4 : decode cX10_lost 4 = .ok (.ireturn, 1) := by decide +kernel
set_option maxRecDepth 20000 in
theorem ggX10_firstNow_X10_walksTold : GoodIn wsX10_firstNow wsX10_walksTold := qw_e qk_X10_firstNow qk_X10_walksTold (by decide +kernel)
set_option maxRecDepth 20000 in
theorem gX10_firstNow_X10_walksTold : GoodIn wsX10_firstNow (wsV RX10 181 RX10 yX10_walksTold wsX10_walksTold) := goodIn_app (qw_e qk_X10_firstNow (QK_cons qw_594 (QK_cons qw_595 (QK_cons qw_596 (QK_cons qw_996 QK_nil)))) (by decide +kernel)) ggX10_firstNow_X10_walksTold
set_option maxRecDepth 20000 in
theorem ggX10_firstNow_X10_takesNow : GoodIn wsX10_firstNow wsX10_takesNow := qw_e qk_X10_firstNow qk_X10_takesNow (by decide +kernel)
set_option maxRecDepth 20000 in
theorem gX10_firstNow_X10_takesNow : GoodIn wsX10_firstNow (wsV RX10 199 RX10 yX10_takesNow wsX10_takesNow) := goodIn_app (qw_e qk_X10_firstNow (QK_cons qw_503 (QK_cons qw_504 (QK_cons qw_505 (QK_cons qw_996 QK_nil)))) (by decide +kernel)) ggX10_firstNow_X10_takesNow
theorem dX10_firstNow_0 : decode cX10_firstNow 0 = .ok (.aload_n 0, 1) := by decide +kernel
theorem dX10_firstNow_1 : decode cX10_firstNow 1 = .ok (.invokevirtual 181, 3) := by decide +kernel
theorem dX10_firstNow_4 : decode cX10_firstNow 4 = .ok (.iconst (-1), 1) := by decide +kernel
theorem dX10_firstNow_5 : decode cX10_firstNow 5 = .ok (.istore_n 1, 1) := by decide +kernel
theorem dX10_firstNow_6 : decode cX10_firstNow 6 = .ok (.iconst 0, 1) := by decide +kernel
theorem dX10_firstNow_7 : decode cX10_firstNow 7 = .ok (.istore_n 2, 1) := by decide +kernel
theorem dX10_firstNow_8 : decode cX10_firstNow 8 = .ok (.iload_n 2, 1) := by decide +kernel
theorem dX10_firstNow_9 : decode cX10_firstNow 9 = .ok (.aload_n 0, 1) := by decide +kernel
theorem dX10_firstNow_10 : decode cX10_firstNow 10 = .ok (.getfield 111, 3) := by decide +kernel
theorem dX10_firstNow_13 : decode cX10_firstNow 13 = .ok (.if_icmp .ge 40, 3) := by decide +kernel
theorem dX10_firstNow_16 : decode cX10_firstNow 16 = .ok (.aload_n 0, 1) := by decide +kernel
theorem dX10_firstNow_17 : decode cX10_firstNow 17 = .ok (.iload_n 2, 1) := by decide +kernel
theorem dX10_firstNow_18 : decode cX10_firstNow 18 = .ok (.invokevirtual 199, 3) := by decide +kernel
theorem dX10_firstNow_21 : decode cX10_firstNow 21 = .ok (.istore_n 3, 1) := by decide +kernel
theorem dX10_firstNow_22 : decode cX10_firstNow 22 = .ok (.iload_n 3, 1) := by decide +kernel
theorem dX10_firstNow_23 : decode cX10_firstNow 23 = .ok (.iconst (-1), 1) := by decide +kernel
theorem dX10_firstNow_24 : decode cX10_firstNow 24 = .ok (.if_icmp .eq 21, 3) := by decide +kernel
theorem dX10_firstNow_27 : decode cX10_firstNow 27 = .ok (.iload_n 1, 1) := by decide +kernel
theorem dX10_firstNow_28 : decode cX10_firstNow 28 = .ok (.iconst (-1), 1) := by decide +kernel
theorem dX10_firstNow_29 : decode cX10_firstNow 29 = .ok (.if_icmp .eq 12, 3) := by decide +kernel
theorem dX10_firstNow_32 : decode cX10_firstNow 32 = .ok (.iload_n 3, 1) := by decide +kernel
theorem dX10_firstNow_33 : decode cX10_firstNow 33 = .ok (.aload_n 0, 1) := by decide +kernel
theorem dX10_firstNow_34 : decode cX10_firstNow 34 = .ok (.iload_n 1, 1) := by decide +kernel
theorem dX10_firstNow_35 : decode cX10_firstNow 35 = .ok (.invokevirtual 199, 3) := by decide +kernel
theorem dX10_firstNow_38 : decode cX10_firstNow 38 = .ok (.if_icmp .ge 7, 3) := by decide +kernel
theorem dX10_firstNow_41 : decode cX10_firstNow 41 = .ok (.iload_n 2, 1) := by decide +kernel
theorem dX10_firstNow_42 : decode cX10_firstNow 42 = .ok (.goto 4, 3) := by decide +kernel
theorem dX10_firstNow_45 : decode cX10_firstNow 45 = .ok (.iload_n 1, 1) := by decide +kernel
theorem dX10_firstNow_46 : decode cX10_firstNow 46 = .ok (.istore_n 1, 1) := by decide +kernel
theorem dX10_firstNow_47 : decode cX10_firstNow 47 = .ok (.iinc 2 1, 3) := by decide +kernel
theorem dX10_firstNow_50 : decode cX10_firstNow 50 = .ok (.goto (-42), 3) := by decide +kernel
theorem dX10_firstNow_53 : decode cX10_firstNow 53 = .ok (.iload_n 1, 1) := by decide +kernel
theorem dX10_firstNow_54 : decode cX10_firstNow 54 = .ok (.ireturn, 1) := by decide +kernel
set_option maxRecDepth 20000 in
theorem ggX10_first_X10_firstNow : GoodIn wsX10_first wsX10_firstNow := qw_e qk_X10_first qk_X10_firstNow (by decide +kernel)
set_option maxRecDepth 20000 in
theorem gX10_first_X10_firstNow : GoodIn wsX10_first (wsV RX10 217 RX10 yX10_firstNow wsX10_firstNow) := goodIn_app (qw_e qk_X10_first (QK_cons qw_462 (QK_cons qw_415 (QK_cons qw_416 (QK_cons qw_996 QK_nil)))) (by decide +kernel)) ggX10_first_X10_firstNow
theorem dX10_first_0 : decode cX10_first 0 = .ok (.aload_n 0, 1) := by decide +kernel
theorem dX10_first_1 : decode cX10_first 1 = .ok (.invokevirtual 217, 3) := by decide +kernel
theorem dX10_first_4 : decode cX10_first 4 = .ok (.ireturn, 1) := by decide +kernel
set_option maxRecDepth 20000 in
theorem ggX10_without_X10_asTold : GoodIn wsX10_without wsX10_asTold := qw_e qk_X10_without qk_X10_asTold (by decide +kernel)
set_option maxRecDepth 20000 in
theorem gX10_without_X10_asTold : GoodIn wsX10_without (wsV RX10 171 RX10 yX10_asTold wsX10_asTold) := goodIn_app (qw_e qk_X10_without (QK_cons qw_598 (QK_cons qw_599 (QK_cons qw_600 (QK_cons qw_996 QK_nil)))) (by decide +kernel)) ggX10_without_X10_asTold
theorem dX10_without_0 : decode cX10_without 0 = .ok (.aload_n 0, 1) := by decide +kernel
theorem dX10_without_1 : decode cX10_without 1 = .ok (.invokevirtual 171, 3) := by decide +kernel
theorem dX10_without_4 : decode cX10_without 4 = .ok (.aload_n 0, 1) := by decide +kernel
theorem dX10_without_5 : decode cX10_without 5 = .ok (.iconst 0, 1) := by decide +kernel
theorem dX10_without_6 : decode cX10_without 6 = .ok (.putfield 168, 3) := by decide +kernel
theorem dX10_without_9 : decode cX10_without 9 = .ok (.iconst 0, 1) := by decide +kernel
theorem dX10_without_10 : decode cX10_without 10 = .ok (.istore_n 3, 1) := by decide +kernel
theorem dX10_without_11 : decode cX10_without 11 = .ok (.iload_n 3, 1) := by decide +kernel
theorem dX10_without_12 : decode cX10_without 12 = .ok (.aload_n 0, 1) := by decide +kernel
theorem dX10_without_13 : decode cX10_without 13 = .ok (.getfield 101, 3) := by decide +kernel
theorem dX10_without_16 : decode cX10_without 16 = .ok (.if_icmp .ge 44, 3) := by decide +kernel
theorem dX10_without_19 : decode cX10_without 19 = .ok (.iload_n 3, 1) := by decide +kernel
theorem dX10_without_20 : decode cX10_without 20 = .ok (.iload_n 1, 1) := by decide +kernel
theorem dX10_without_21 : decode cX10_without 21 = .ok (.if_icmp .eq 33, 3) := by decide +kernel
theorem dX10_without_24 : decode cX10_without 24 = .ok (.iload_n 3, 1) := by decide +kernel
theorem dX10_without_25 : decode cX10_without 25 = .ok (.iload_n 2, 1) := by decide +kernel
theorem dX10_without_26 : decode cX10_without 26 = .ok (.if_icmp .eq 28, 3) := by decide +kernel
theorem dX10_without_29 : decode cX10_without 29 = .ok (.aload_n 0, 1) := by decide +kernel
theorem dX10_without_30 : decode cX10_without 30 = .ok (.getfield 28, 3) := by decide +kernel
theorem dX10_without_33 : decode cX10_without 33 = .ok (.aload_n 0, 1) := by decide +kernel
theorem dX10_without_34 : decode cX10_without 34 = .ok (.getfield 168, 3) := by decide +kernel
theorem dX10_without_37 : decode cX10_without 37 = .ok (.aload_n 0, 1) := by decide +kernel
theorem dX10_without_38 : decode cX10_without 38 = .ok (.getfield 19, 3) := by decide +kernel
theorem dX10_without_41 : decode cX10_without 41 = .ok (.iload_n 3, 1) := by decide +kernel
theorem dX10_without_42 : decode cX10_without 42 = .ok (.iaload, 1) := by decide +kernel
theorem dX10_without_43 : decode cX10_without 43 = .ok (.iastore, 1) := by decide +kernel
theorem dX10_without_44 : decode cX10_without 44 = .ok (.aload_n 0, 1) := by decide +kernel
theorem dX10_without_45 : decode cX10_without 45 = .ok (.dup, 1) := by decide +kernel
theorem dX10_without_46 : decode cX10_without 46 = .ok (.getfield 168, 3) := by decide +kernel
theorem dX10_without_49 : decode cX10_without 49 = .ok (.iconst 1, 1) := by decide +kernel
theorem dX10_without_50 : decode cX10_without 50 = .ok (.iadd, 1) := by decide +kernel
theorem dX10_without_51 : decode cX10_without 51 = .ok (.putfield 168, 3) := by decide +kernel
theorem dX10_without_54 : decode cX10_without 54 = .ok (.iinc 3 1, 3) := by decide +kernel
theorem dX10_without_57 : decode cX10_without 57 = .ok (.goto (-46), 3) := by decide +kernel
theorem dX10_without_60 : decode cX10_without 60 = .ok (.return_, 1) := by decide +kernel
set_option maxRecDepth 20000 in
theorem ggX10_lostWithout_X10_without : GoodIn wsX10_lostWithout wsX10_without := qw_e qk_X10_lostWithout qk_X10_without (by decide +kernel)
set_option maxRecDepth 20000 in
theorem gX10_lostWithout_X10_without : GoodIn wsX10_lostWithout (wsV RX10 220 RX10 yX10_without wsX10_without) := goodIn_app (qw_e qk_X10_lostWithout (QK_cons qw_395 (QK_cons qw_396 (QK_cons qw_397 (QK_cons qw_996 QK_nil)))) (by decide +kernel)) ggX10_lostWithout_X10_without
set_option maxRecDepth 20000 in
theorem ggX10_lostWithout_X10_lostNow : GoodIn wsX10_lostWithout wsX10_lostNow := qw_e qk_X10_lostWithout qk_X10_lostNow (by decide +kernel)
set_option maxRecDepth 20000 in
theorem gX10_lostWithout_X10_lostNow : GoodIn wsX10_lostWithout (wsV RX10 211 RX10 yX10_lostNow wsX10_lostNow) := goodIn_app (qw_e qk_X10_lostWithout (QK_cons qw_450 (QK_cons qw_451 (QK_cons qw_452 (QK_cons qw_996 QK_nil)))) (by decide +kernel)) ggX10_lostWithout_X10_lostNow
theorem dX10_lostWithout_0 : decode cX10_lostWithout 0 = .ok (.aload_n 0, 1) := by decide +kernel
theorem dX10_lostWithout_1 : decode cX10_lostWithout 1 = .ok (.iload_n 1, 1) := by decide +kernel
theorem dX10_lostWithout_2 : decode cX10_lostWithout 2 = .ok (.iload_n 2, 1) := by decide +kernel
theorem dX10_lostWithout_3 : decode cX10_lostWithout 3 = .ok (.invokevirtual 220, 3) := by decide +kernel
theorem dX10_lostWithout_6 : decode cX10_lostWithout 6 = .ok (.aload_n 0, 1) := by decide +kernel
theorem dX10_lostWithout_7 : decode cX10_lostWithout 7 = .ok (.invokevirtual 211, 3) := by decide +kernel
theorem dX10_lostWithout_10 : decode cX10_lostWithout 10 = .ok (.ireturn, 1) := by decide +kernel
set_option maxRecDepth 20000 in
theorem ggX10_spareNow_X10_lostTold : GoodIn wsX10_spareNow wsX10_lostTold := qw_e qk_X10_spareNow qk_X10_lostTold (by decide +kernel)
set_option maxRecDepth 20000 in
theorem gX10_spareNow_X10_lostTold : GoodIn wsX10_spareNow (wsV RX10 214 RX10 yX10_lostTold wsX10_lostTold) := goodIn_app (qw_e qk_X10_spareNow (QK_cons qw_446 (QK_cons qw_447 (QK_cons qw_448 (QK_cons qw_996 QK_nil)))) (by decide +kernel)) ggX10_spareNow_X10_lostTold
set_option maxRecDepth 20000 in
theorem ggX10_spareNow_X10_lostWithout : GoodIn wsX10_spareNow wsX10_lostWithout := qw_e qk_X10_spareNow qk_X10_lostWithout (by decide +kernel)
set_option maxRecDepth 20000 in
theorem gX10_spareNow_X10_lostWithout : GoodIn wsX10_spareNow (wsV RX10 223 RX10 yX10_lostWithout wsX10_lostWithout) := goodIn_app (qw_e qk_X10_spareNow (QK_cons qw_391 (QK_cons qw_392 (QK_cons qw_393 (QK_cons qw_996 QK_nil)))) (by decide +kernel)) ggX10_spareNow_X10_lostWithout
theorem dX10_spareNow_0 : decode cX10_spareNow 0 = .ok (.aload_n 0, 1) := by decide +kernel
theorem dX10_spareNow_1 : decode cX10_spareNow 1 = .ok (.invokevirtual 214, 3) := by decide +kernel
theorem dX10_spareNow_4 : decode cX10_spareNow 4 = .ok (.istore_n 1, 1) := by decide +kernel
theorem dX10_spareNow_5 : decode cX10_spareNow 5 = .ok (.iconst 0, 1) := by decide +kernel
theorem dX10_spareNow_6 : decode cX10_spareNow 6 = .ok (.istore_n 2, 1) := by decide +kernel
theorem dX10_spareNow_7 : decode cX10_spareNow 7 = .ok (.iconst 0, 1) := by decide +kernel
theorem dX10_spareNow_8 : decode cX10_spareNow 8 = .ok (.istore_n 3, 1) := by decide +kernel
theorem dX10_spareNow_9 : decode cX10_spareNow 9 = .ok (.iload_n 3, 1) := by decide +kernel
theorem dX10_spareNow_10 : decode cX10_spareNow 10 = .ok (.aload_n 0, 1) := by decide +kernel
theorem dX10_spareNow_11 : decode cX10_spareNow 11 = .ok (.getfield 101, 3) := by decide +kernel
theorem dX10_spareNow_14 : decode cX10_spareNow 14 = .ok (.if_icmp .ge 29, 3) := by decide +kernel
theorem dX10_spareNow_17 : decode cX10_spareNow 17 = .ok (.iload_n 2, 1) := by decide +kernel
theorem dX10_spareNow_18 : decode cX10_spareNow 18 = .ok (.aload_n 0, 1) := by decide +kernel
theorem dX10_spareNow_19 : decode cX10_spareNow 19 = .ok (.iload_n 3, 1) := by decide +kernel
theorem dX10_spareNow_20 : decode cX10_spareNow 20 = .ok (.iconst (-1), 1) := by decide +kernel
theorem dX10_spareNow_21 : decode cX10_spareNow 21 = .ok (.invokevirtual 223, 3) := by decide +kernel
theorem dX10_spareNow_24 : decode cX10_spareNow 24 = .ok (.iload_n 1, 1) := by decide +kernel
theorem dX10_spareNow_25 : decode cX10_spareNow 25 = .ok (.if_icmp .gt 9, 3) := by decide +kernel
theorem dX10_spareNow_28 : decode cX10_spareNow 28 = .ok (.iconst 1, 1) := by decide +kernel
theorem dX10_spareNow_29 : decode cX10_spareNow 29 = .ok (.iload_n 3, 1) := by decide +kernel
theorem dX10_spareNow_30 : decode cX10_spareNow 30 = .ok (.ishl, 1) := by decide +kernel
theorem dX10_spareNow_31 : decode cX10_spareNow 31 = .ok (.goto 4, 3) := by decide +kernel
theorem dX10_spareNow_34 : decode cX10_spareNow 34 = .ok (.iconst 0, 1) := by decide +kernel
theorem dX10_spareNow_35 : decode cX10_spareNow 35 = .ok (.ior, 1) := by decide +kernel
theorem dX10_spareNow_36 : decode cX10_spareNow 36 = .ok (.istore_n 2, 1) := by decide +kernel
theorem dX10_spareNow_37 : decode cX10_spareNow 37 = .ok (.iinc 3 1, 3) := by decide +kernel
theorem dX10_spareNow_40 : decode cX10_spareNow 40 = .ok (.goto (-31), 3) := by decide +kernel
theorem dX10_spareNow_43 : decode cX10_spareNow 43 = .ok (.iload_n 2, 1) := by decide +kernel
theorem dX10_spareNow_44 : decode cX10_spareNow 44 = .ok (.ireturn, 1) := by decide +kernel
set_option maxRecDepth 20000 in
theorem ggX10_spare_X10_spareNow : GoodIn wsX10_spare wsX10_spareNow := qw_e qk_X10_spare qk_X10_spareNow (by decide +kernel)
set_option maxRecDepth 20000 in
theorem gX10_spare_X10_spareNow : GoodIn wsX10_spare (wsV RX10 226 RX10 yX10_spareNow wsX10_spareNow) := goodIn_app (qw_e qk_X10_spare (QK_cons qw_435 (QK_cons qw_436 (QK_cons qw_437 (QK_cons qw_996 QK_nil)))) (by decide +kernel)) ggX10_spare_X10_spareNow
theorem dX10_spare_0 : decode cX10_spare 0 = .ok (.aload_n 0, 1) := by decide +kernel
theorem dX10_spare_1 : decode cX10_spare 1 = .ok (.invokevirtual 226, 3) := by decide +kernel
theorem dX10_spare_4 : decode cX10_spare 4 = .ok (.ireturn, 1) := by decide +kernel
set_option maxRecDepth 20000 in
theorem ggX10_trimBy_X10_lostTold : GoodIn wsX10_trimBy wsX10_lostTold := qw_e qk_X10_trimBy qk_X10_lostTold (by decide +kernel)
set_option maxRecDepth 20000 in
theorem gX10_trimBy_X10_lostTold : GoodIn wsX10_trimBy (wsV RX10 214 RX10 yX10_lostTold wsX10_lostTold) := goodIn_app (qw_e qk_X10_trimBy (QK_cons qw_446 (QK_cons qw_447 (QK_cons qw_448 (QK_cons qw_996 QK_nil)))) (by decide +kernel)) ggX10_trimBy_X10_lostTold
set_option maxRecDepth 20000 in
theorem ggX10_trimBy_X10_lostWithout : GoodIn wsX10_trimBy wsX10_lostWithout := qw_e qk_X10_trimBy qk_X10_lostWithout (by decide +kernel)
set_option maxRecDepth 20000 in
theorem gX10_trimBy_X10_lostWithout : GoodIn wsX10_trimBy (wsV RX10 223 RX10 yX10_lostWithout wsX10_lostWithout) := goodIn_app (qw_e qk_X10_trimBy (QK_cons qw_391 (QK_cons qw_392 (QK_cons qw_393 (QK_cons qw_996 QK_nil)))) (by decide +kernel)) ggX10_trimBy_X10_lostWithout
theorem dX10_trimBy_0 : decode cX10_trimBy 0 = .ok (.aload_n 0, 1) := by decide +kernel
theorem dX10_trimBy_1 : decode cX10_trimBy 1 = .ok (.invokevirtual 214, 3) := by decide +kernel
theorem dX10_trimBy_4 : decode cX10_trimBy 4 = .ok (.istore_n 1, 1) := by decide +kernel
theorem dX10_trimBy_5 : decode cX10_trimBy 5 = .ok (.iconst 0, 1) := by decide +kernel
theorem dX10_trimBy_6 : decode cX10_trimBy 6 = .ok (.istore_n 2, 1) := by decide +kernel
theorem dX10_trimBy_7 : decode cX10_trimBy 7 = .ok (.iload_n 2, 1) := by decide +kernel
theorem dX10_trimBy_8 : decode cX10_trimBy 8 = .ok (.aload_n 0, 1) := by decide +kernel
theorem dX10_trimBy_9 : decode cX10_trimBy 9 = .ok (.getfield 101, 3) := by decide +kernel
theorem dX10_trimBy_12 : decode cX10_trimBy 12 = .ok (.if_icmp .ge 28, 3) := by decide +kernel
theorem dX10_trimBy_15 : decode cX10_trimBy 15 = .ok (.aload_n 0, 1) := by decide +kernel
theorem dX10_trimBy_16 : decode cX10_trimBy 16 = .ok (.iload_n 2, 1) := by decide +kernel
theorem dX10_trimBy_17 : decode cX10_trimBy 17 = .ok (.iconst (-1), 1) := by decide +kernel
theorem dX10_trimBy_18 : decode cX10_trimBy 18 = .ok (.invokevirtual 223, 3) := by decide +kernel
theorem dX10_trimBy_21 : decode cX10_trimBy 21 = .ok (.iload_n 1, 1) := by decide +kernel
theorem dX10_trimBy_22 : decode cX10_trimBy 22 = .ok (.if_icmp .ge 12, 3) := by decide +kernel
theorem dX10_trimBy_25 : decode cX10_trimBy 25 = .ok (.aload_n 0, 1) := by decide +kernel
theorem dX10_trimBy_26 : decode cX10_trimBy 26 = .ok (.getfield 44, 3) := by decide +kernel
theorem dX10_trimBy_29 : decode cX10_trimBy 29 = .ok (.iconst 0, 1) := by decide +kernel
theorem dX10_trimBy_30 : decode cX10_trimBy 30 = .ok (.iload_n 2, 1) := by decide +kernel
theorem dX10_trimBy_31 : decode cX10_trimBy 31 = .ok (.iastore, 1) := by decide +kernel
theorem dX10_trimBy_32 : decode cX10_trimBy 32 = .ok (.iconst 1, 1) := by decide +kernel
theorem dX10_trimBy_33 : decode cX10_trimBy 33 = .ok (.ireturn, 1) := by decide +kernel
theorem dX10_trimBy_34 : decode cX10_trimBy 34 = .ok (.iinc 2 1, 3) := by decide +kernel
theorem dX10_trimBy_37 : decode cX10_trimBy 37 = .ok (.goto (-30), 3) := by decide +kernel
theorem dX10_trimBy_40 : decode cX10_trimBy 40 = .ok (.iconst 0, 1) := by decide +kernel
theorem dX10_trimBy_41 : decode cX10_trimBy 41 = .ok (.istore_n 2, 1) := by decide +kernel
theorem dX10_trimBy_42 : decode cX10_trimBy 42 = .ok (.iload_n 2, 1) := by decide +kernel
theorem dX10_trimBy_43 : decode cX10_trimBy 43 = .ok (.aload_n 0, 1) := by decide +kernel
theorem dX10_trimBy_44 : decode cX10_trimBy 44 = .ok (.getfield 101, 3) := by decide +kernel
theorem dX10_trimBy_47 : decode cX10_trimBy 47 = .ok (.if_icmp .ge 53, 3) := by decide +kernel
theorem dX10_trimBy_50 : decode cX10_trimBy 50 = .ok (.iload_n 2, 1) := by decide +kernel
theorem dX10_trimBy_51 : decode cX10_trimBy 51 = .ok (.iconst 1, 1) := by decide +kernel
theorem dX10_trimBy_52 : decode cX10_trimBy 52 = .ok (.iadd, 1) := by decide +kernel
theorem dX10_trimBy_53 : decode cX10_trimBy 53 = .ok (.istore_n 3, 1) := by decide +kernel
theorem dX10_trimBy_54 : decode cX10_trimBy 54 = .ok (.iload_n 3, 1) := by decide +kernel
theorem dX10_trimBy_55 : decode cX10_trimBy 55 = .ok (.aload_n 0, 1) := by decide +kernel
theorem dX10_trimBy_56 : decode cX10_trimBy 56 = .ok (.getfield 101, 3) := by decide +kernel
theorem dX10_trimBy_59 : decode cX10_trimBy 59 = .ok (.if_icmp .ge 35, 3) := by decide +kernel
theorem dX10_trimBy_62 : decode cX10_trimBy 62 = .ok (.aload_n 0, 1) := by decide +kernel
theorem dX10_trimBy_63 : decode cX10_trimBy 63 = .ok (.iload_n 2, 1) := by decide +kernel
theorem dX10_trimBy_64 : decode cX10_trimBy 64 = .ok (.iload_n 3, 1) := by decide +kernel
theorem dX10_trimBy_65 : decode cX10_trimBy 65 = .ok (.invokevirtual 223, 3) := by decide +kernel
theorem dX10_trimBy_68 : decode cX10_trimBy 68 = .ok (.iload_n 1, 1) := by decide +kernel
theorem dX10_trimBy_69 : decode cX10_trimBy 69 = .ok (.if_icmp .ge 19, 3) := by decide +kernel
theorem dX10_trimBy_72 : decode cX10_trimBy 72 = .ok (.aload_n 0, 1) := by decide +kernel
theorem dX10_trimBy_73 : decode cX10_trimBy 73 = .ok (.getfield 44, 3) := by decide +kernel
theorem dX10_trimBy_76 : decode cX10_trimBy 76 = .ok (.iconst 0, 1) := by decide +kernel
theorem dX10_trimBy_77 : decode cX10_trimBy 77 = .ok (.iload_n 2, 1) := by decide +kernel
theorem dX10_trimBy_78 : decode cX10_trimBy 78 = .ok (.iastore, 1) := by decide +kernel
theorem dX10_trimBy_79 : decode cX10_trimBy 79 = .ok (.aload_n 0, 1) := by decide +kernel
theorem dX10_trimBy_80 : decode cX10_trimBy 80 = .ok (.getfield 44, 3) := by decide +kernel
theorem dX10_trimBy_83 : decode cX10_trimBy 83 = .ok (.iconst 1, 1) := by decide +kernel
theorem dX10_trimBy_84 : decode cX10_trimBy 84 = .ok (.iload_n 3, 1) := by decide +kernel
theorem dX10_trimBy_85 : decode cX10_trimBy 85 = .ok (.iastore, 1) := by decide +kernel
theorem dX10_trimBy_86 : decode cX10_trimBy 86 = .ok (.iconst 2, 1) := by decide +kernel
theorem dX10_trimBy_87 : decode cX10_trimBy 87 = .ok (.ireturn, 1) := by decide +kernel
theorem dX10_trimBy_88 : decode cX10_trimBy 88 = .ok (.iinc 3 1, 3) := by decide +kernel
theorem dX10_trimBy_91 : decode cX10_trimBy 91 = .ok (.goto (-37), 3) := by decide +kernel
theorem dX10_trimBy_94 : decode cX10_trimBy 94 = .ok (.iinc 2 1, 3) := by decide +kernel
theorem dX10_trimBy_97 : decode cX10_trimBy 97 = .ok (.goto (-55), 3) := by decide +kernel
theorem dX10_trimBy_100 : decode cX10_trimBy 100 = .ok (.iconst (-1), 1) := by decide +kernel
theorem dX10_trimBy_101 : decode cX10_trimBy 101 = .ok (.ireturn, 1) := by decide +kernel
theorem dX10_ofRow_0 : decode cX10_ofRow 0 = .ok (.iload_n 2, 1) := by decide +kernel
theorem dX10_ofRow_1 : decode cX10_ofRow 1 = .ok (.iconst (-1), 1) := by decide +kernel
theorem dX10_ofRow_2 : decode cX10_ofRow 2 = .ok (.if_icmp .ne 7, 3) := by decide +kernel
theorem dX10_ofRow_5 : decode cX10_ofRow 5 = .ok (.iload_n 1, 1) := by decide +kernel
theorem dX10_ofRow_6 : decode cX10_ofRow 6 = .ok (.goto 18, 3) := by decide +kernel
theorem dX10_ofRow_9 : decode cX10_ofRow 9 = .ok (.iload_n 2, 1) := by decide +kernel
theorem dX10_ofRow_10 : decode cX10_ofRow 10 = .ok (.iload_n 1, 1) := by decide +kernel
theorem dX10_ofRow_11 : decode cX10_ofRow 11 = .ok (.if_icmp .ge 12, 3) := by decide +kernel
theorem dX10_ofRow_14 : decode cX10_ofRow 14 = .ok (.aload_n 0, 1) := by decide +kernel
theorem dX10_ofRow_15 : decode cX10_ofRow 15 = .ok (.getfield 44, 3) := by decide +kernel
theorem dX10_ofRow_18 : decode cX10_ofRow 18 = .ok (.iload_n 2, 1) := by decide +kernel
theorem dX10_ofRow_19 : decode cX10_ofRow 19 = .ok (.iaload, 1) := by decide +kernel
theorem dX10_ofRow_20 : decode cX10_ofRow 20 = .ok (.goto 4, 3) := by decide +kernel
theorem dX10_ofRow_23 : decode cX10_ofRow 23 = .ok (.iconst (-1), 1) := by decide +kernel
theorem dX10_ofRow_24 : decode cX10_ofRow 24 = .ok (.ireturn, 1) := by decide +kernel
set_option maxRecDepth 20000 in
theorem ggX10_trim_X10_in : GoodIn wsX10_trim wsX10_in := qw_e qk_X10_trim qk_X10_in (by decide +kernel)
set_option maxRecDepth 20000 in
theorem gX10_trim_X10_in : GoodIn wsX10_trim (va_wsS RX10 80 yX10_in wsX10_in) := goodIn_app (qw_e qk_X10_trim (QK_cons qw_779 (QK_cons qw_780 (QK_cons qw_996 QK_nil))) (by decide +kernel)) ggX10_trim_X10_in
set_option maxRecDepth 20000 in
theorem ggX10_trim_X10_trimBy : GoodIn wsX10_trim wsX10_trimBy := qw_e qk_X10_trim qk_X10_trimBy (by decide +kernel)
set_option maxRecDepth 20000 in
theorem gX10_trim_X10_trimBy : GoodIn wsX10_trim (wsV RX10 229 RX10 yX10_trimBy wsX10_trimBy) := goodIn_app (qw_e qk_X10_trim (QK_cons qw_373 (QK_cons qw_374 (QK_cons qw_375 (QK_cons qw_996 QK_nil)))) (by decide +kernel)) ggX10_trim_X10_trimBy
set_option maxRecDepth 20000 in
theorem ggX10_trim_X10_ofRow : GoodIn wsX10_trim wsX10_ofRow := qw_e qk_X10_trim qk_X10_ofRow (by decide +kernel)
set_option maxRecDepth 20000 in
theorem gX10_trim_X10_ofRow : GoodIn wsX10_trim (wsV RX10 232 RX10 yX10_ofRow wsX10_ofRow) := goodIn_app (qw_e qk_X10_trim (QK_cons qw_377 (QK_cons qw_378 (QK_cons qw_379 (QK_cons qw_996 QK_nil)))) (by decide +kernel)) ggX10_trim_X10_ofRow
theorem dX10_trim_0 : decode cX10_trim 0 = .ok (.iload_n 1, 1) := by decide +kernel
theorem dX10_trim_1 : decode cX10_trim 1 = .ok (.iconst (-1), 1) := by decide +kernel
theorem dX10_trim_2 : decode cX10_trim 2 = .ok (.iconst 1, 1) := by decide +kernel
theorem dX10_trim_3 : decode cX10_trim 3 = .ok (.invokestatic 80, 3) := by decide +kernel
theorem dX10_trim_6 : decode cX10_trim 6 = .ok (.ifCond .eq 15, 3) := by decide +kernel
theorem dX10_trim_9 : decode cX10_trim 9 = .ok (.aload_n 0, 1) := by decide +kernel
theorem dX10_trim_10 : decode cX10_trim 10 = .ok (.aload_n 0, 1) := by decide +kernel
theorem dX10_trim_11 : decode cX10_trim 11 = .ok (.invokevirtual 229, 3) := by decide +kernel
theorem dX10_trim_14 : decode cX10_trim 14 = .ok (.iload_n 1, 1) := by decide +kernel
theorem dX10_trim_15 : decode cX10_trim 15 = .ok (.invokevirtual 232, 3) := by decide +kernel
theorem dX10_trim_18 : decode cX10_trim 18 = .ok (.goto 5, 3) := by decide +kernel
theorem dX10_trim_21 : decode cX10_trim 21 = .ok (.bipush (-2), 2) := by decide +kernel
theorem dX10_trim_23 : decode cX10_trim 23 = .ok (.ireturn, 1) := by decide +kernel
set_option maxRecDepth 20000 in
theorem ggX10_beginOf_X10_asTold : GoodIn wsX10_beginOf wsX10_asTold := qw_e qk_X10_beginOf qk_X10_asTold (by decide +kernel)
set_option maxRecDepth 20000 in
theorem gX10_beginOf_X10_asTold : GoodIn wsX10_beginOf (wsV RX10 171 RX10 yX10_asTold wsX10_asTold) := goodIn_app (qw_e qk_X10_beginOf (QK_cons qw_598 (QK_cons qw_599 (QK_cons qw_600 (QK_cons qw_996 QK_nil)))) (by decide +kernel)) ggX10_beginOf_X10_asTold
set_option maxRecDepth 20000 in
theorem ggX10_beginOf_X10_isFor : GoodIn wsX10_beginOf wsX10_isFor := qw_e qk_X10_beginOf qk_X10_isFor (by decide +kernel)
set_option maxRecDepth 20000 in
theorem gX10_beginOf_X10_isFor : GoodIn wsX10_beginOf (wsV RX10 161 RX10 yX10_isFor wsX10_isFor) := goodIn_app (qw_e qk_X10_beginOf (QK_cons qw_561 (QK_cons qw_562 (QK_cons qw_563 (QK_cons qw_996 QK_nil)))) (by decide +kernel)) ggX10_beginOf_X10_isFor
set_option maxRecDepth 20000 in
theorem ggX10_beginOf_X10_lostNow : GoodIn wsX10_beginOf wsX10_lostNow := qw_e qk_X10_beginOf qk_X10_lostNow (by decide +kernel)
set_option maxRecDepth 20000 in
theorem gX10_beginOf_X10_lostNow : GoodIn wsX10_beginOf (wsV RX10 211 RX10 yX10_lostNow wsX10_lostNow) := goodIn_app (qw_e qk_X10_beginOf (QK_cons qw_450 (QK_cons qw_451 (QK_cons qw_452 (QK_cons qw_996 QK_nil)))) (by decide +kernel)) ggX10_beginOf_X10_lostNow
theorem dX10_beginOf_0 : decode cX10_beginOf 0 = .ok (.aload_n 0, 1) := by decide +kernel
theorem dX10_beginOf_1 : decode cX10_beginOf 1 = .ok (.invokevirtual 171, 3) := by decide +kernel
theorem dX10_beginOf_4 : decode cX10_beginOf 4 = .ok (.aload_n 0, 1) := by decide +kernel
theorem dX10_beginOf_5 : decode cX10_beginOf 5 = .ok (.getfield 142, 3) := by decide +kernel
theorem dX10_beginOf_8 : decode cX10_beginOf 8 = .ok (.istore_n 2, 1) := by decide +kernel
theorem dX10_beginOf_9 : decode cX10_beginOf 9 = .ok (.iconst (-1), 1) := by decide +kernel
theorem dX10_beginOf_10 : decode cX10_beginOf 10 = .ok (.istore_n 3, 1) := by decide +kernel
theorem dX10_beginOf_11 : decode cX10_beginOf 11 = .ok (.iconst (-1), 1) := by decide +kernel
theorem dX10_beginOf_12 : decode cX10_beginOf 12 = .ok (.istore 4, 2) := by decide +kernel
theorem dX10_beginOf_14 : decode cX10_beginOf 14 = .ok (.iconst 0, 1) := by decide +kernel
theorem dX10_beginOf_15 : decode cX10_beginOf 15 = .ok (.istore 5, 2) := by decide +kernel
theorem dX10_beginOf_17 : decode cX10_beginOf 17 = .ok (.iload 5, 2) := by decide +kernel
theorem dX10_beginOf_19 : decode cX10_beginOf 19 = .ok (.aload_n 0, 1) := by decide +kernel
theorem dX10_beginOf_20 : decode cX10_beginOf 20 = .ok (.getfield 88, 3) := by decide +kernel
theorem dX10_beginOf_23 : decode cX10_beginOf 23 = .ok (.if_icmp .ge 75, 3) := by decide +kernel
theorem dX10_beginOf_26 : decode cX10_beginOf 26 = .ok (.aload_n 0, 1) := by decide +kernel
theorem dX10_beginOf_27 : decode cX10_beginOf 27 = .ok (.iload 5, 2) := by decide +kernel
theorem dX10_beginOf_29 : decode cX10_beginOf 29 = .ok (.invokevirtual 161, 3) := by decide +kernel
theorem dX10_beginOf_32 : decode cX10_beginOf 32 = .ok (.ifCond .eq 60, 3) := by decide +kernel
theorem dX10_beginOf_35 : decode cX10_beginOf 35 = .ok (.aload_n 0, 1) := by decide +kernel
theorem dX10_beginOf_36 : decode cX10_beginOf 36 = .ok (.iload 5, 2) := by decide +kernel
theorem dX10_beginOf_38 : decode cX10_beginOf 38 = .ok (.putfield 142, 3) := by decide +kernel
theorem dX10_beginOf_41 : decode cX10_beginOf 41 = .ok (.aload_n 0, 1) := by decide +kernel
theorem dX10_beginOf_42 : decode cX10_beginOf 42 = .ok (.invokevirtual 211, 3) := by decide +kernel
theorem dX10_beginOf_45 : decode cX10_beginOf 45 = .ok (.istore 6, 2) := by decide +kernel
theorem dX10_beginOf_47 : decode cX10_beginOf 47 = .ok (.iload_n 3, 1) := by decide +kernel
theorem dX10_beginOf_48 : decode cX10_beginOf 48 = .ok (.iconst (-1), 1) := by decide +kernel
theorem dX10_beginOf_49 : decode cX10_beginOf 49 = .ok (.if_icmp .eq 10, 3) := by decide +kernel
theorem dX10_beginOf_52 : decode cX10_beginOf 52 = .ok (.iload 6, 2) := by decide +kernel
theorem dX10_beginOf_54 : decode cX10_beginOf 54 = .ok (.iload 4, 2) := by decide +kernel
theorem dX10_beginOf_56 : decode cX10_beginOf 56 = .ok (.if_icmp .ge 7, 3) := by decide +kernel
theorem dX10_beginOf_59 : decode cX10_beginOf 59 = .ok (.iconst 1, 1) := by decide +kernel
theorem dX10_beginOf_60 : decode cX10_beginOf 60 = .ok (.goto 4, 3) := by decide +kernel
theorem dX10_beginOf_63 : decode cX10_beginOf 63 = .ok (.iconst 0, 1) := by decide +kernel
theorem dX10_beginOf_64 : decode cX10_beginOf 64 = .ok (.istore 7, 2) := by decide +kernel
theorem dX10_beginOf_66 : decode cX10_beginOf 66 = .ok (.iload 7, 2) := by decide +kernel
theorem dX10_beginOf_68 : decode cX10_beginOf 68 = .ok (.ifCond .eq 8, 3) := by decide +kernel
theorem dX10_beginOf_71 : decode cX10_beginOf 71 = .ok (.iload 5, 2) := by decide +kernel
theorem dX10_beginOf_73 : decode cX10_beginOf 73 = .ok (.goto 4, 3) := by decide +kernel
theorem dX10_beginOf_76 : decode cX10_beginOf 76 = .ok (.iload_n 3, 1) := by decide +kernel
theorem dX10_beginOf_77 : decode cX10_beginOf 77 = .ok (.istore_n 3, 1) := by decide +kernel
theorem dX10_beginOf_78 : decode cX10_beginOf 78 = .ok (.iload 7, 2) := by decide +kernel
theorem dX10_beginOf_80 : decode cX10_beginOf 80 = .ok (.ifCond .eq 8, 3) := by decide +kernel
theorem dX10_beginOf_83 : decode cX10_beginOf 83 = .ok (.iload 6, 2) := by decide +kernel
theorem dX10_beginOf_85 : decode cX10_beginOf 85 = .ok (.goto 5, 3) := by decide +kernel
theorem dX10_beginOf_88 : decode cX10_beginOf 88 = .ok (.iload 4, 2) := by decide +kernel
theorem dX10_beginOf_90 : decode cX10_beginOf 90 = .ok (.istore 4, 2) := by decide +kernel
theorem dX10_beginOf_92 : decode cX10_beginOf 92 = .ok (.iinc 5 1, 3) := by decide +kernel
theorem dX10_beginOf_95 : decode cX10_beginOf 95 = .ok (.goto (-78), 3) := by decide +kernel
theorem dX10_beginOf_98 : decode cX10_beginOf 98 = .ok (.aload_n 0, 1) := by decide +kernel
theorem dX10_beginOf_99 : decode cX10_beginOf 99 = .ok (.iload_n 2, 1) := by decide +kernel
theorem dX10_beginOf_100 : decode cX10_beginOf 100 = .ok (.putfield 142, 3) := by decide +kernel
theorem dX10_beginOf_103 : decode cX10_beginOf 103 = .ok (.iload_n 1, 1) := by decide +kernel
theorem dX10_beginOf_104 : decode cX10_beginOf 104 = .ok (.ifCond .ne 7, 3) := by decide +kernel
theorem dX10_beginOf_107 : decode cX10_beginOf 107 = .ok (.iload_n 3, 1) := by decide +kernel
theorem dX10_beginOf_108 : decode cX10_beginOf 108 = .ok (.goto 5, 3) := by decide +kernel
theorem dX10_beginOf_111 : decode cX10_beginOf 111 = .ok (.iload 4, 2) := by decide +kernel
theorem dX10_beginOf_113 : decode cX10_beginOf 113 = .ok (.ireturn, 1) := by decide +kernel
set_option maxRecDepth 20000 in
theorem ggX10_begin_X10_in : GoodIn wsX10_begin wsX10_in := qw_e qk_X10_begin qk_X10_in (by decide +kernel)
set_option maxRecDepth 20000 in
theorem gX10_begin_X10_in : GoodIn wsX10_begin (va_wsS RX10 80 yX10_in wsX10_in) := goodIn_app (qw_e qk_X10_begin (QK_cons qw_779 (QK_cons qw_780 (QK_cons qw_996 QK_nil))) (by decide +kernel)) ggX10_begin_X10_in
set_option maxRecDepth 20000 in
theorem ggX10_begin_X10_beginOf : GoodIn wsX10_begin wsX10_beginOf := qw_e qk_X10_begin qk_X10_beginOf (by decide +kernel)
set_option maxRecDepth 20000 in
theorem gX10_begin_X10_beginOf : GoodIn wsX10_begin (wsV RX10 235 RX10 yX10_beginOf wsX10_beginOf) := goodIn_app (qw_e qk_X10_begin (QK_cons qw_390 (QK_cons qw_343 (QK_cons qw_344 (QK_cons qw_996 QK_nil)))) (by decide +kernel)) ggX10_begin_X10_beginOf
theorem dX10_begin_0 : decode cX10_begin 0 = .ok (.iload_n 1, 1) := by decide +kernel
theorem dX10_begin_1 : decode cX10_begin 1 = .ok (.iconst 0, 1) := by decide +kernel
theorem dX10_begin_2 : decode cX10_begin 2 = .ok (.iconst 1, 1) := by decide +kernel
theorem dX10_begin_3 : decode cX10_begin 3 = .ok (.invokestatic 80, 3) := by decide +kernel
theorem dX10_begin_6 : decode cX10_begin 6 = .ok (.ifCond .eq 11, 3) := by decide +kernel
theorem dX10_begin_9 : decode cX10_begin 9 = .ok (.aload_n 0, 1) := by decide +kernel
theorem dX10_begin_10 : decode cX10_begin 10 = .ok (.iload_n 1, 1) := by decide +kernel
theorem dX10_begin_11 : decode cX10_begin 11 = .ok (.invokevirtual 235, 3) := by decide +kernel
theorem dX10_begin_14 : decode cX10_begin 14 = .ok (.goto 5, 3) := by decide +kernel
theorem dX10_begin_17 : decode cX10_begin 17 = .ok (.bipush (-2), 2) := by decide +kernel
theorem dX10_begin_19 : decode cX10_begin 19 = .ok (.ireturn, 1) := by decide +kernel
set_option maxRecDepth 20000 in
theorem ggX10_recruitOf_X10_asTold : GoodIn wsX10_recruitOf wsX10_asTold := qw_e qk_X10_recruitOf qk_X10_asTold (by decide +kernel)
set_option maxRecDepth 20000 in
theorem gX10_recruitOf_X10_asTold : GoodIn wsX10_recruitOf (wsV RX10 171 RX10 yX10_asTold wsX10_asTold) := goodIn_app (qw_e qk_X10_recruitOf (QK_cons qw_598 (QK_cons qw_599 (QK_cons qw_600 (QK_cons qw_996 QK_nil)))) (by decide +kernel)) ggX10_recruitOf_X10_asTold
set_option maxRecDepth 20000 in
theorem ggX10_recruitOf_X10_lostNow : GoodIn wsX10_recruitOf wsX10_lostNow := qw_e qk_X10_recruitOf qk_X10_lostNow (by decide +kernel)
set_option maxRecDepth 20000 in
theorem gX10_recruitOf_X10_lostNow : GoodIn wsX10_recruitOf (wsV RX10 211 RX10 yX10_lostNow wsX10_lostNow) := goodIn_app (qw_e qk_X10_recruitOf (QK_cons qw_450 (QK_cons qw_451 (QK_cons qw_452 (QK_cons qw_996 QK_nil)))) (by decide +kernel)) ggX10_recruitOf_X10_lostNow
theorem dX10_recruitOf_0 : decode cX10_recruitOf 0 = .ok (.aload_n 0, 1) := by decide +kernel
theorem dX10_recruitOf_1 : decode cX10_recruitOf 1 = .ok (.invokevirtual 171, 3) := by decide +kernel
theorem dX10_recruitOf_4 : decode cX10_recruitOf 4 = .ok (.aload_n 0, 1) := by decide +kernel
theorem dX10_recruitOf_5 : decode cX10_recruitOf 5 = .ok (.getfield 71, 3) := by decide +kernel
theorem dX10_recruitOf_8 : decode cX10_recruitOf 8 = .ok (.istore_n 2, 1) := by decide +kernel
theorem dX10_recruitOf_9 : decode cX10_recruitOf 9 = .ok (.iconst (-1), 1) := by decide +kernel
theorem dX10_recruitOf_10 : decode cX10_recruitOf 10 = .ok (.istore_n 3, 1) := by decide +kernel
theorem dX10_recruitOf_11 : decode cX10_recruitOf 11 = .ok (.iconst (-1), 1) := by decide +kernel
theorem dX10_recruitOf_12 : decode cX10_recruitOf 12 = .ok (.istore 4, 2) := by decide +kernel
theorem dX10_recruitOf_14 : decode cX10_recruitOf 14 = .ok (.iconst 0, 1) := by decide +kernel
theorem dX10_recruitOf_15 : decode cX10_recruitOf 15 = .ok (.istore 5, 2) := by decide +kernel
theorem dX10_recruitOf_17 : decode cX10_recruitOf 17 = .ok (.iload 5, 2) := by decide +kernel
theorem dX10_recruitOf_19 : decode cX10_recruitOf 19 = .ok (.bipush 10, 2) := by decide +kernel
theorem dX10_recruitOf_21 : decode cX10_recruitOf 21 = .ok (.if_icmp .ge 66, 3) := by decide +kernel
theorem dX10_recruitOf_24 : decode cX10_recruitOf 24 = .ok (.aload_n 0, 1) := by decide +kernel
theorem dX10_recruitOf_25 : decode cX10_recruitOf 25 = .ok (.iload 5, 2) := by decide +kernel
theorem dX10_recruitOf_27 : decode cX10_recruitOf 27 = .ok (.putfield 71, 3) := by decide +kernel
theorem dX10_recruitOf_30 : decode cX10_recruitOf 30 = .ok (.aload_n 0, 1) := by decide +kernel
theorem dX10_recruitOf_31 : decode cX10_recruitOf 31 = .ok (.invokevirtual 211, 3) := by decide +kernel
theorem dX10_recruitOf_34 : decode cX10_recruitOf 34 = .ok (.istore 6, 2) := by decide +kernel
theorem dX10_recruitOf_36 : decode cX10_recruitOf 36 = .ok (.iload_n 3, 1) := by decide +kernel
theorem dX10_recruitOf_37 : decode cX10_recruitOf 37 = .ok (.iconst (-1), 1) := by decide +kernel
theorem dX10_recruitOf_38 : decode cX10_recruitOf 38 = .ok (.if_icmp .eq 10, 3) := by decide +kernel
theorem dX10_recruitOf_41 : decode cX10_recruitOf 41 = .ok (.iload 6, 2) := by decide +kernel
theorem dX10_recruitOf_43 : decode cX10_recruitOf 43 = .ok (.iload 4, 2) := by decide +kernel
theorem dX10_recruitOf_45 : decode cX10_recruitOf 45 = .ok (.if_icmp .ge 7, 3) := by decide +kernel
theorem dX10_recruitOf_48 : decode cX10_recruitOf 48 = .ok (.iconst 1, 1) := by decide +kernel
theorem dX10_recruitOf_49 : decode cX10_recruitOf 49 = .ok (.goto 4, 3) := by decide +kernel
theorem dX10_recruitOf_52 : decode cX10_recruitOf 52 = .ok (.iconst 0, 1) := by decide +kernel
theorem dX10_recruitOf_53 : decode cX10_recruitOf 53 = .ok (.istore 7, 2) := by decide +kernel
theorem dX10_recruitOf_55 : decode cX10_recruitOf 55 = .ok (.iload 7, 2) := by decide +kernel
theorem dX10_recruitOf_57 : decode cX10_recruitOf 57 = .ok (.ifCond .eq 8, 3) := by decide +kernel
theorem dX10_recruitOf_60 : decode cX10_recruitOf 60 = .ok (.iload 5, 2) := by decide +kernel
theorem dX10_recruitOf_62 : decode cX10_recruitOf 62 = .ok (.goto 4, 3) := by decide +kernel
theorem dX10_recruitOf_65 : decode cX10_recruitOf 65 = .ok (.iload_n 3, 1) := by decide +kernel
theorem dX10_recruitOf_66 : decode cX10_recruitOf 66 = .ok (.istore_n 3, 1) := by decide +kernel
theorem dX10_recruitOf_67 : decode cX10_recruitOf 67 = .ok (.iload 7, 2) := by decide +kernel
theorem dX10_recruitOf_69 : decode cX10_recruitOf 69 = .ok (.ifCond .eq 8, 3) := by decide +kernel
theorem dX10_recruitOf_72 : decode cX10_recruitOf 72 = .ok (.iload 6, 2) := by decide +kernel
theorem dX10_recruitOf_74 : decode cX10_recruitOf 74 = .ok (.goto 5, 3) := by decide +kernel
theorem dX10_recruitOf_77 : decode cX10_recruitOf 77 = .ok (.iload 4, 2) := by decide +kernel
theorem dX10_recruitOf_79 : decode cX10_recruitOf 79 = .ok (.istore 4, 2) := by decide +kernel
theorem dX10_recruitOf_81 : decode cX10_recruitOf 81 = .ok (.iinc 5 1, 3) := by decide +kernel
theorem dX10_recruitOf_84 : decode cX10_recruitOf 84 = .ok (.goto (-67), 3) := by decide +kernel
theorem dX10_recruitOf_87 : decode cX10_recruitOf 87 = .ok (.aload_n 0, 1) := by decide +kernel
theorem dX10_recruitOf_88 : decode cX10_recruitOf 88 = .ok (.iload_n 2, 1) := by decide +kernel
theorem dX10_recruitOf_89 : decode cX10_recruitOf 89 = .ok (.putfield 71, 3) := by decide +kernel
theorem dX10_recruitOf_92 : decode cX10_recruitOf 92 = .ok (.iload_n 1, 1) := by decide +kernel
theorem dX10_recruitOf_93 : decode cX10_recruitOf 93 = .ok (.ifCond .ne 7, 3) := by decide +kernel
theorem dX10_recruitOf_96 : decode cX10_recruitOf 96 = .ok (.iload_n 3, 1) := by decide +kernel
theorem dX10_recruitOf_97 : decode cX10_recruitOf 97 = .ok (.goto 5, 3) := by decide +kernel
theorem dX10_recruitOf_100 : decode cX10_recruitOf 100 = .ok (.iload 4, 2) := by decide +kernel
theorem dX10_recruitOf_102 : decode cX10_recruitOf 102 = .ok (.ireturn, 1) := by decide +kernel
set_option maxRecDepth 20000 in
theorem ggX10_recruit_X10_in : GoodIn wsX10_recruit wsX10_in := qw_e qk_X10_recruit qk_X10_in (by decide +kernel)
set_option maxRecDepth 20000 in
theorem gX10_recruit_X10_in : GoodIn wsX10_recruit (va_wsS RX10 80 yX10_in wsX10_in) := goodIn_app (qw_e qk_X10_recruit (QK_cons qw_779 (QK_cons qw_780 (QK_cons qw_996 QK_nil))) (by decide +kernel)) ggX10_recruit_X10_in
set_option maxRecDepth 20000 in
theorem ggX10_recruit_X10_recruitOf : GoodIn wsX10_recruit wsX10_recruitOf := qw_e qk_X10_recruit qk_X10_recruitOf (by decide +kernel)
set_option maxRecDepth 20000 in
theorem gX10_recruit_X10_recruitOf : GoodIn wsX10_recruit (wsV RX10 238 RX10 yX10_recruitOf wsX10_recruitOf) := goodIn_app (qw_e qk_X10_recruit (QK_cons qw_354 (QK_cons qw_355 (QK_cons qw_356 (QK_cons qw_996 QK_nil)))) (by decide +kernel)) ggX10_recruit_X10_recruitOf
theorem dX10_recruit_0 : decode cX10_recruit 0 = .ok (.iload_n 1, 1) := by decide +kernel
theorem dX10_recruit_1 : decode cX10_recruit 1 = .ok (.iconst 0, 1) := by decide +kernel
theorem dX10_recruit_2 : decode cX10_recruit 2 = .ok (.iconst 1, 1) := by decide +kernel
theorem dX10_recruit_3 : decode cX10_recruit 3 = .ok (.invokestatic 80, 3) := by decide +kernel
theorem dX10_recruit_6 : decode cX10_recruit 6 = .ok (.ifCond .eq 11, 3) := by decide +kernel
theorem dX10_recruit_9 : decode cX10_recruit 9 = .ok (.aload_n 0, 1) := by decide +kernel
theorem dX10_recruit_10 : decode cX10_recruit 10 = .ok (.iload_n 1, 1) := by decide +kernel
theorem dX10_recruit_11 : decode cX10_recruit 11 = .ok (.invokevirtual 238, 3) := by decide +kernel
theorem dX10_recruit_14 : decode cX10_recruit 14 = .ok (.goto 5, 3) := by decide +kernel
theorem dX10_recruit_17 : decode cX10_recruit 17 = .ok (.bipush (-2), 2) := by decide +kernel
theorem dX10_recruit_19 : decode cX10_recruit 19 = .ok (.ireturn, 1) := by decide +kernel
set_option maxRecDepth 20000 in
theorem ggX10_missed_X10_in : GoodIn wsX10_missed wsX10_in := qw_e qk_X10_missed qk_X10_in (by decide +kernel)
set_option maxRecDepth 20000 in
theorem gX10_missed_X10_in : GoodIn wsX10_missed (va_wsS RX10 80 yX10_in wsX10_in) := goodIn_app (qw_e qk_X10_missed (QK_cons qw_779 (QK_cons qw_780 (QK_cons qw_996 QK_nil))) (by decide +kernel)) ggX10_missed_X10_in
theorem dX10_missed_0 : decode cX10_missed 0 = .ok (.iload_n 1, 1) := by decide +kernel
theorem dX10_missed_1 : decode cX10_missed 1 = .ok (.iconst 0, 1) := by decide +kernel
theorem dX10_missed_2 : decode cX10_missed 2 = .ok (.bipush 35, 2) := by decide +kernel
theorem dX10_missed_4 : decode cX10_missed 4 = .ok (.invokestatic 80, 3) := by decide +kernel
theorem dX10_missed_7 : decode cX10_missed 7 = .ok (.ifCond .eq 12, 3) := by decide +kernel
theorem dX10_missed_10 : decode cX10_missed 10 = .ok (.iload_n 2, 1) := by decide +kernel
theorem dX10_missed_11 : decode cX10_missed 11 = .ok (.iconst 0, 1) := by decide +kernel
theorem dX10_missed_12 : decode cX10_missed 12 = .ok (.iconst 1, 1) := by decide +kernel
theorem dX10_missed_13 : decode cX10_missed 13 = .ok (.invokestatic 80, 3) := by decide +kernel
theorem dX10_missed_16 : decode cX10_missed 16 = .ok (.ifCond .ne 6, 3) := by decide +kernel
theorem dX10_missed_19 : decode cX10_missed 19 = .ok (.bipush (-2), 2) := by decide +kernel
theorem dX10_missed_21 : decode cX10_missed 21 = .ok (.ireturn, 1) := by decide +kernel
theorem dX10_missed_22 : decode cX10_missed 22 = .ok (.aload_n 0, 1) := by decide +kernel
theorem dX10_missed_23 : decode cX10_missed 23 = .ok (.getfield 241, 3) := by decide +kernel
theorem dX10_missed_26 : decode cX10_missed 26 = .ok (.bipush 8, 2) := by decide +kernel
theorem dX10_missed_28 : decode cX10_missed 28 = .ok (.if_icmp .ne 6, 3) := by decide +kernel
theorem dX10_missed_31 : decode cX10_missed 31 = .ok (.bipush (-4), 2) := by decide +kernel
theorem dX10_missed_33 : decode cX10_missed 33 = .ok (.ireturn, 1) := by decide +kernel
theorem dX10_missed_34 : decode cX10_missed 34 = .ok (.aload_n 0, 1) := by decide +kernel
theorem dX10_missed_35 : decode cX10_missed 35 = .ok (.getfield 47, 3) := by decide +kernel
theorem dX10_missed_38 : decode cX10_missed 38 = .ok (.aload_n 0, 1) := by decide +kernel
theorem dX10_missed_39 : decode cX10_missed 39 = .ok (.getfield 241, 3) := by decide +kernel
theorem dX10_missed_42 : decode cX10_missed 42 = .ok (.iload_n 1, 1) := by decide +kernel
theorem dX10_missed_43 : decode cX10_missed 43 = .ok (.iastore, 1) := by decide +kernel
theorem dX10_missed_44 : decode cX10_missed 44 = .ok (.aload_n 0, 1) := by decide +kernel
theorem dX10_missed_45 : decode cX10_missed 45 = .ok (.getfield 50, 3) := by decide +kernel
theorem dX10_missed_48 : decode cX10_missed 48 = .ok (.aload_n 0, 1) := by decide +kernel
theorem dX10_missed_49 : decode cX10_missed 49 = .ok (.getfield 241, 3) := by decide +kernel
theorem dX10_missed_52 : decode cX10_missed 52 = .ok (.iload_n 2, 1) := by decide +kernel
theorem dX10_missed_53 : decode cX10_missed 53 = .ok (.iastore, 1) := by decide +kernel
theorem dX10_missed_54 : decode cX10_missed 54 = .ok (.aload_n 0, 1) := by decide +kernel
theorem dX10_missed_55 : decode cX10_missed 55 = .ok (.dup, 1) := by decide +kernel
theorem dX10_missed_56 : decode cX10_missed 56 = .ok (.getfield 241, 3) := by decide +kernel
theorem dX10_missed_59 : decode cX10_missed 59 = .ok (.iconst 1, 1) := by decide +kernel
theorem dX10_missed_60 : decode cX10_missed 60 = .ok (.iadd, 1) := by decide +kernel
theorem dX10_missed_61 : decode cX10_missed 61 = .ok (.putfield 241, 3) := by decide +kernel
theorem dX10_missed_64 : decode cX10_missed 64 = .ok (.aload_n 0, 1) := by decide +kernel
theorem dX10_missed_65 : decode cX10_missed 65 = .ok (.getfield 241, 3) := by decide +kernel
theorem dX10_missed_68 : decode cX10_missed 68 = .ok (.ireturn, 1) := by decide +kernel
theorem dX10_forget_0 : decode cX10_forget 0 = .ok (.aload_n 0, 1) := by decide +kernel
theorem dX10_forget_1 : decode cX10_forget 1 = .ok (.getfield 241, 3) := by decide +kernel
theorem dX10_forget_4 : decode cX10_forget 4 = .ok (.istore_n 1, 1) := by decide +kernel
theorem dX10_forget_5 : decode cX10_forget 5 = .ok (.aload_n 0, 1) := by decide +kernel
theorem dX10_forget_6 : decode cX10_forget 6 = .ok (.iconst 0, 1) := by decide +kernel
theorem dX10_forget_7 : decode cX10_forget 7 = .ok (.putfield 241, 3) := by decide +kernel
theorem dX10_forget_10 : decode cX10_forget 10 = .ok (.iload_n 1, 1) := by decide +kernel
theorem dX10_forget_11 : decode cX10_forget 11 = .ok (.ireturn, 1) := by decide +kernel
set_option maxRecDepth 20000 in
theorem ggX10_read_X10_isSheet : GoodIn wsX10_read wsX10_isSheet := qw_e qk_X10_read qk_X10_isSheet (by decide +kernel)
set_option maxRecDepth 20000 in
theorem gX10_read_X10_isSheet : GoodIn wsX10_read (va_wsS RX10 244 yX10_isSheet wsX10_isSheet) := goodIn_app (qw_e qk_X10_read (QK_cons qw_312 (QK_cons qw_313 (QK_cons qw_996 QK_nil))) (by decide +kernel)) ggX10_read_X10_isSheet
set_option maxRecDepth 20000 in
theorem ggX10_read_X10_meets : GoodIn wsX10_read wsX10_meets := qw_e qk_X10_read qk_X10_meets (by decide +kernel)
set_option maxRecDepth 20000 in
theorem gX10_read_X10_meets : GoodIn wsX10_read (wsV RX10 247 RX10 yX10_meets wsX10_meets) := goodIn_app (qw_e qk_X10_read (QK_cons qw_315 (QK_cons qw_316 (QK_cons qw_317 (QK_cons qw_996 QK_nil)))) (by decide +kernel)) ggX10_read_X10_meets
set_option maxRecDepth 20000 in
theorem ggX10_read_X10_missed : GoodIn wsX10_read wsX10_missed := qw_e qk_X10_read qk_X10_missed (by decide +kernel)
set_option maxRecDepth 20000 in
theorem gX10_read_X10_missed : GoodIn wsX10_read (wsV RX10 250 RX10 yX10_missed wsX10_missed) := goodIn_app (qw_e qk_X10_read (QK_cons qw_272 (QK_cons qw_323 (QK_cons qw_324 (QK_cons qw_996 QK_nil)))) (by decide +kernel)) ggX10_read_X10_missed
theorem dX10_read_0 : decode cX10_read 0 = .ok (.iload_n 1, 1) := by decide +kernel
theorem dX10_read_1 : decode cX10_read 1 = .ok (.invokestatic 244, 3) := by decide +kernel
theorem dX10_read_4 : decode cX10_read 4 = .ok (.ifCond .ne 6, 3) := by decide +kernel
theorem dX10_read_7 : decode cX10_read 7 = .ok (.bipush (-2), 2) := by decide +kernel
theorem dX10_read_9 : decode cX10_read 9 = .ok (.ireturn, 1) := by decide +kernel
theorem dX10_read_10 : decode cX10_read 10 = .ok (.aload_n 0, 1) := by decide +kernel
theorem dX10_read_11 : decode cX10_read 11 = .ok (.getfield 56, 3) := by decide +kernel
theorem dX10_read_14 : decode cX10_read 14 = .ok (.iload_n 1, 1) := by decide +kernel
theorem dX10_read_15 : decode cX10_read 15 = .ok (.baload, 1) := by decide +kernel
theorem dX10_read_16 : decode cX10_read 16 = .ok (.ifCond .ne 9, 3) := by decide +kernel
theorem dX10_read_19 : decode cX10_read 19 = .ok (.aload_n 0, 1) := by decide +kernel
theorem dX10_read_20 : decode cX10_read 20 = .ok (.iconst 1, 1) := by decide +kernel
