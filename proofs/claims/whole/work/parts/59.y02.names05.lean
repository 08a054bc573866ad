theorem dX9_readAgain_69 : decode cX9_readAgain 69 = .ok (.goto 25, 3) := by decide +kernel
theorem dX9_readAgain_72 : decode cX9_readAgain 72 = .ok (.aload_n 0, 1) := by decide +kernel
theorem dX9_readAgain_73 : decode cX9_readAgain 73 = .ok (.getfield 15, 3) := by decide +kernel
theorem dX9_readAgain_76 : decode cX9_readAgain 76 = .ok (.iconst 2, 1) := by decide +kernel
theorem dX9_readAgain_77 : decode cX9_readAgain 77 = .ok (.aload_n 0, 1) := by decide +kernel
theorem dX9_readAgain_78 : decode cX9_readAgain 78 = .ok (.getfield 39, 3) := by decide +kernel
theorem dX9_readAgain_81 : decode cX9_readAgain 81 = .ok (.aload_n 0, 1) := by decide +kernel
theorem dX9_readAgain_82 : decode cX9_readAgain 82 = .ok (.getfield 11, 3) := by decide +kernel
theorem dX9_readAgain_85 : decode cX9_readAgain 85 = .ok (.iconst 2, 1) := by decide +kernel
theorem dX9_readAgain_86 : decode cX9_readAgain 86 = .ok (.aaload, 1) := by decide +kernel
theorem dX9_readAgain_87 : decode cX9_readAgain 87 = .ok (.invokevirtual 400, 3) := by decide +kernel
theorem dX9_readAgain_90 : decode cX9_readAgain 90 = .ok (.iastore, 1) := by decide +kernel
theorem dX9_readAgain_91 : decode cX9_readAgain 91 = .ok (.goto 3, 3) := by decide +kernel
theorem dX9_readAgain_94 : decode cX9_readAgain 94 = .ok (.aload_n 0, 1) := by decide +kernel
theorem dX9_readAgain_95 : decode cX9_readAgain 95 = .ok (.iconst 1, 1) := by decide +kernel
theorem dX9_readAgain_96 : decode cX9_readAgain 96 = .ok (.putfield 93, 3) := by decide +kernel
theorem dX9_readAgain_99 : decode cX9_readAgain 99 = .ok (.return_, 1) := by decide +kernel
set_option maxRecDepth 20000 in
theorem ggX9_settle_X9_presentSight : GoodIn wsX9_settle wsX9_presentSight := qw_e qk_X9_settle qk_X9_presentSight (by decide +kernel)
set_option maxRecDepth 20000 in
theorem gX9_settle_X9_presentSight : GoodIn wsX9_settle (wsV RX9 217 RX9 yX9_presentSight wsX9_presentSight) := goodIn_app (qw_e qk_X9_settle (QK_cons qw_678 (QK_cons qw_631 (QK_cons qw_632 (QK_cons qw_993 QK_nil)))) (by decide +kernel)) ggX9_settle_X9_presentSight
set_option maxRecDepth 20000 in
theorem ggX9_settle_X0_lay : GoodIn wsX9_settle wsX0_lay := qw_e qk_X9_settle qk_X0_lay (by decide +kernel)
set_option maxRecDepth 20000 in
theorem gX9_settle_X0_lay : GoodIn wsX9_settle (wsV RX9 220 RX0 yX0_lay wsX0_lay) := goodIn_app (qw_e qk_X9_settle (QK_cons qw_641 (QK_cons qw_642 (QK_cons qw_643 (QK_cons qw_980 QK_nil)))) (by decide +kernel)) ggX9_settle_X0_lay
set_option maxRecDepth 20000 in
theorem ggX9_settle_X2_walk : GoodIn wsX9_settle wsX2_walk := qw_e qk_X9_settle qk_X2_walk (by decide +kernel)
set_option maxRecDepth 20000 in
theorem gX9_settle_X2_walk : GoodIn wsX9_settle (wsV RX9 213 RX2 yX2_walk wsX2_walk) := goodIn_app (qw_e qk_X9_settle (QK_cons qw_616 (QK_cons qw_617 (QK_cons qw_618 (QK_cons qw_984 QK_nil)))) (by decide +kernel)) ggX9_settle_X2_walk
theorem dX9_settle_0 : decode cX9_settle 0 = .ok (.aload_n 0, 1) := by decide +kernel
theorem dX9_settle_1 : decode cX9_settle 1 = .ok (.getfield 93, 3) := by decide +kernel
theorem dX9_settle_4 : decode cX9_settle 4 = .ok (.ifCond .eq 55, 3) := by decide +kernel
theorem dX9_settle_7 : decode cX9_settle 7 = .ok (.aload_n 0, 1) := by decide +kernel
theorem dX9_settle_8 : decode cX9_settle 8 = .ok (.getfield 59, 3) := by decide +kernel
theorem dX9_settle_11 : decode cX9_settle 11 = .ok (.aload_n 0, 1) := by decide +kernel
theorem dX9_settle_12 : decode cX9_settle 12 = .ok (.getfield 25, 3) := by decide +kernel
theorem dX9_settle_15 : decode cX9_settle 15 = .ok (.aload_n 0, 1) := by decide +kernel
theorem dX9_settle_16 : decode cX9_settle 16 = .ok (.getfield 19, 3) := by decide +kernel
theorem dX9_settle_19 : decode cX9_settle 19 = .ok (.iconst 1, 1) := by decide +kernel
theorem dX9_settle_20 : decode cX9_settle 20 = .ok (.iaload, 1) := by decide +kernel
theorem dX9_settle_21 : decode cX9_settle 21 = .ok (.aload_n 0, 1) := by decide +kernel
theorem dX9_settle_22 : decode cX9_settle 22 = .ok (.invokevirtual 217, 3) := by decide +kernel
theorem dX9_settle_25 : decode cX9_settle 25 = .ok (.invokevirtual 220, 3) := by decide +kernel
theorem dX9_settle_28 : decode cX9_settle 28 = .ok (.aload_n 0, 1) := by decide +kernel
theorem dX9_settle_29 : decode cX9_settle 29 = .ok (.getfield 66, 3) := by decide +kernel
theorem dX9_settle_32 : decode cX9_settle 32 = .ok (.aload_n 0, 1) := by decide +kernel
theorem dX9_settle_33 : decode cX9_settle 33 = .ok (.getfield 59, 3) := by decide +kernel
theorem dX9_settle_36 : decode cX9_settle 36 = .ok (.aload_n 0, 1) := by decide +kernel
theorem dX9_settle_37 : decode cX9_settle 37 = .ok (.getfield 19, 3) := by decide +kernel
theorem dX9_settle_40 : decode cX9_settle 40 = .ok (.iconst 0, 1) := by decide +kernel
theorem dX9_settle_41 : decode cX9_settle 41 = .ok (.iaload, 1) := by decide +kernel
theorem dX9_settle_42 : decode cX9_settle 42 = .ok (.aload_n 0, 1) := by decide +kernel
theorem dX9_settle_43 : decode cX9_settle 43 = .ok (.getfield 32, 3) := by decide +kernel
theorem dX9_settle_46 : decode cX9_settle 46 = .ok (.invokevirtual 213, 3) := by decide +kernel
theorem dX9_settle_49 : decode cX9_settle 49 = .ok (.aload_n 0, 1) := by decide +kernel
theorem dX9_settle_50 : decode cX9_settle 50 = .ok (.iconst (-1), 1) := by decide +kernel
theorem dX9_settle_51 : decode cX9_settle 51 = .ok (.putfield 97, 3) := by decide +kernel
theorem dX9_settle_54 : decode cX9_settle 54 = .ok (.aload_n 0, 1) := by decide +kernel
theorem dX9_settle_55 : decode cX9_settle 55 = .ok (.iconst 0, 1) := by decide +kernel
theorem dX9_settle_56 : decode cX9_settle 56 = .ok (.putfield 93, 3) := by decide +kernel
theorem dX9_settle_59 : decode cX9_settle 59 = .ok (.return_, 1) := by decide +kernel
set_option maxRecDepth 20000 in
theorem ggX9_presentSight_X9_foggySight : GoodIn wsX9_presentSight wsX9_foggySight := qw_e qk_X9_presentSight qk_X9_foggySight (by decide +kernel)
set_option maxRecDepth 20000 in
theorem gX9_presentSight_X9_foggySight : GoodIn wsX9_presentSight (wsV RX9 401 RX9 yX9_foggySight wsX9_foggySight) := goodIn_app (qw_e qk_X9_presentSight (QK_cons qw_634 (QK_cons qw_635 (QK_cons qw_636 (QK_cons qw_993 QK_nil)))) (by decide +kernel)) ggX9_presentSight_X9_foggySight
theorem dX9_presentSight_0 : decode cX9_presentSight 0 = .ok (.aload_n 0, 1) := by decide +kernel
theorem dX9_presentSight_1 : decode cX9_presentSight 1 = .ok (.getfield 19, 3) := by decide +kernel
theorem dX9_presentSight_4 : decode cX9_presentSight 4 = .ok (.iconst 3, 1) := by decide +kernel
theorem dX9_presentSight_5 : decode cX9_presentSight 5 = .ok (.iaload, 1) := by decide +kernel
theorem dX9_presentSight_6 : decode cX9_presentSight 6 = .ok (.iconst 1, 1) := by decide +kernel
theorem dX9_presentSight_7 : decode cX9_presentSight 7 = .ok (.if_icmp .ne 10, 3) := by decide +kernel
theorem dX9_presentSight_10 : decode cX9_presentSight 10 = .ok (.aload_n 0, 1) := by decide +kernel
theorem dX9_presentSight_11 : decode cX9_presentSight 11 = .ok (.invokevirtual 401, 3) := by decide +kernel
theorem dX9_presentSight_14 : decode cX9_presentSight 14 = .ok (.goto 9, 3) := by decide +kernel
theorem dX9_presentSight_17 : decode cX9_presentSight 17 = .ok (.aload_n 0, 1) := by decide +kernel
theorem dX9_presentSight_18 : decode cX9_presentSight 18 = .ok (.getfield 19, 3) := by decide +kernel
theorem dX9_presentSight_21 : decode cX9_presentSight 21 = .ok (.iconst 2, 1) := by decide +kernel
theorem dX9_presentSight_22 : decode cX9_presentSight 22 = .ok (.iaload, 1) := by decide +kernel
theorem dX9_presentSight_23 : decode cX9_presentSight 23 = .ok (.ireturn, 1) := by decide +kernel
theorem dX9_foggySight_0 : decode cX9_foggySight 0 = .ok (.aload_n 0, 1) := by decide +kernel
theorem dX9_foggySight_1 : decode cX9_foggySight 1 = .ok (.getfield 19, 3) := by decide +kernel
theorem dX9_foggySight_4 : decode cX9_foggySight 4 = .ok (.iconst 2, 1) := by decide +kernel
theorem dX9_foggySight_5 : decode cX9_foggySight 5 = .ok (.iaload, 1) := by decide +kernel
theorem dX9_foggySight_6 : decode cX9_foggySight 6 = .ok (.iconst 1, 1) := by decide +kernel
theorem dX9_foggySight_7 : decode cX9_foggySight 7 = .ok (.invokestatic 404, 3) := by decide +kernel
theorem dX9_foggySight_10 : decode cX9_foggySight 10 = .ok (.ireturn, 1) := by decide +kernel
set_option maxRecDepth 20000 in
theorem ggX9_lostWithout_X4_takeAllBut : GoodIn wsX9_lostWithout wsX4_takeAllBut := qw_e qk_X9_lostWithout qk_X4_takeAllBut (by decide +kernel)
set_option maxRecDepth 20000 in
theorem gX9_lostWithout_X4_takeAllBut : GoodIn wsX9_lostWithout (wsV RX9 409 RX4 yX4_takeAllBut wsX4_takeAllBut) := goodIn_app (qw_e qk_X9_lostWithout (QK_cons qw_427 (QK_cons qw_428 (QK_cons qw_429 (QK_cons qw_1014 QK_nil)))) (by decide +kernel)) ggX9_lostWithout_X4_takeAllBut
set_option maxRecDepth 20000 in
theorem ggX9_lostWithout_X2_walk : GoodIn wsX9_lostWithout wsX2_walk := qw_e qk_X9_lostWithout qk_X2_walk (by decide +kernel)
set_option maxRecDepth 20000 in
theorem gX9_lostWithout_X2_walk : GoodIn wsX9_lostWithout (wsV RX9 213 RX2 yX2_walk wsX2_walk) := goodIn_app (qw_e qk_X9_lostWithout (QK_cons qw_616 (QK_cons qw_617 (QK_cons qw_618 (QK_cons qw_984 QK_nil)))) (by decide +kernel)) ggX9_lostWithout_X2_walk
set_option maxRecDepth 20000 in
theorem ggX9_lostWithout_X7_howManyTake : GoodIn wsX9_lostWithout wsX7_howManyTake := qw_e qk_X9_lostWithout qk_X7_howManyTake (by decide +kernel)
set_option maxRecDepth 20000 in
theorem gX9_lostWithout_X7_howManyTake : GoodIn wsX9_lostWithout (wsV RX9 186 RX7 yX7_howManyTake wsX7_howManyTake) := goodIn_app (qw_e qk_X9_lostWithout (QK_cons qw_486 (QK_cons qw_439 (QK_cons qw_440 (QK_cons qw_970 QK_nil)))) (by decide +kernel)) ggX9_lostWithout_X7_howManyTake
theorem dX9_lostWithout_0 : decode cX9_lostWithout 0 = .ok (.aload_n 0, 1) := by decide +kernel
theorem dX9_lostWithout_1 : decode cX9_lostWithout 1 = .ok (.getfield 70, 3) := by decide +kernel
theorem dX9_lostWithout_4 : decode cX9_lostWithout 4 = .ok (.aload_n 0, 1) := by decide +kernel
theorem dX9_lostWithout_5 : decode cX9_lostWithout 5 = .ok (.getfield 32, 3) := by decide +kernel
theorem dX9_lostWithout_8 : decode cX9_lostWithout 8 = .ok (.iload_n 1, 1) := by decide +kernel
theorem dX9_lostWithout_9 : decode cX9_lostWithout 9 = .ok (.iload_n 2, 1) := by decide +kernel
theorem dX9_lostWithout_10 : decode cX9_lostWithout 10 = .ok (.invokevirtual 409, 3) := by decide +kernel
theorem dX9_lostWithout_13 : decode cX9_lostWithout 13 = .ok (.aload_n 0, 1) := by decide +kernel
theorem dX9_lostWithout_14 : decode cX9_lostWithout 14 = .ok (.getfield 76, 3) := by decide +kernel
theorem dX9_lostWithout_17 : decode cX9_lostWithout 17 = .ok (.aload_n 0, 1) := by decide +kernel
theorem dX9_lostWithout_18 : decode cX9_lostWithout 18 = .ok (.getfield 59, 3) := by decide +kernel
theorem dX9_lostWithout_21 : decode cX9_lostWithout 21 = .ok (.aload_n 0, 1) := by decide +kernel
theorem dX9_lostWithout_22 : decode cX9_lostWithout 22 = .ok (.getfield 19, 3) := by decide +kernel
theorem dX9_lostWithout_25 : decode cX9_lostWithout 25 = .ok (.iconst 0, 1) := by decide +kernel
theorem dX9_lostWithout_26 : decode cX9_lostWithout 26 = .ok (.iaload, 1) := by decide +kernel
theorem dX9_lostWithout_27 : decode cX9_lostWithout 27 = .ok (.aload_n 0, 1) := by decide +kernel
theorem dX9_lostWithout_28 : decode cX9_lostWithout 28 = .ok (.getfield 70, 3) := by decide +kernel
theorem dX9_lostWithout_31 : decode cX9_lostWithout 31 = .ok (.invokevirtual 213, 3) := by decide +kernel
theorem dX9_lostWithout_34 : decode cX9_lostWithout 34 = .ok (.aload_n 0, 1) := by decide +kernel
theorem dX9_lostWithout_35 : decode cX9_lostWithout 35 = .ok (.getfield 39, 3) := by decide +kernel
theorem dX9_lostWithout_38 : decode cX9_lostWithout 38 = .ok (.aload_n 0, 1) := by decide +kernel
theorem dX9_lostWithout_39 : decode cX9_lostWithout 39 = .ok (.getfield 25, 3) := by decide +kernel
theorem dX9_lostWithout_42 : decode cX9_lostWithout 42 = .ok (.aload_n 0, 1) := by decide +kernel
theorem dX9_lostWithout_43 : decode cX9_lostWithout 43 = .ok (.getfield 76, 3) := by decide +kernel
theorem dX9_lostWithout_46 : decode cX9_lostWithout 46 = .ok (.invokevirtual 186, 3) := by decide +kernel
theorem dX9_lostWithout_49 : decode cX9_lostWithout 49 = .ok (.ireturn, 1) := by decide +kernel
set_option maxRecDepth 20000 in
theorem ggX9_takenFromWithout_X4_takeAllBut : GoodIn wsX9_takenFromWithout wsX4_takeAllBut := qw_e qk_X9_takenFromWithout qk_X4_takeAllBut (by decide +kernel)
set_option maxRecDepth 20000 in
theorem gX9_takenFromWithout_X4_takeAllBut : GoodIn wsX9_takenFromWithout (wsV RX9 409 RX4 yX4_takeAllBut wsX4_takeAllBut) := goodIn_app (qw_e qk_X9_takenFromWithout (QK_cons qw_427 (QK_cons qw_428 (QK_cons qw_429 (QK_cons qw_1014 QK_nil)))) (by decide +kernel)) ggX9_takenFromWithout_X4_takeAllBut
set_option maxRecDepth 20000 in
theorem ggX9_takenFromWithout_X2_walk : GoodIn wsX9_takenFromWithout wsX2_walk := qw_e qk_X9_takenFromWithout qk_X2_walk (by decide +kernel)
set_option maxRecDepth 20000 in
theorem gX9_takenFromWithout_X2_walk : GoodIn wsX9_takenFromWithout (wsV RX9 213 RX2 yX2_walk wsX2_walk) := goodIn_app (qw_e qk_X9_takenFromWithout (QK_cons qw_616 (QK_cons qw_617 (QK_cons qw_618 (QK_cons qw_984 QK_nil)))) (by decide +kernel)) ggX9_takenFromWithout_X2_walk
set_option maxRecDepth 20000 in
theorem ggX9_takenFromWithout_X7_takenFrom : GoodIn wsX9_takenFromWithout wsX7_takenFrom := qw_e qk_X9_takenFromWithout qk_X7_takenFrom (by decide +kernel)
set_option maxRecDepth 20000 in
theorem gX9_takenFromWithout_X7_takenFrom : GoodIn wsX9_takenFromWithout (wsV RX9 180 RX7 yX7_takenFrom wsX7_takenFrom) := goodIn_app (qw_e qk_X9_takenFromWithout (QK_cons qw_465 (QK_cons qw_466 (QK_cons qw_467 (QK_cons qw_970 QK_nil)))) (by decide +kernel)) ggX9_takenFromWithout_X7_takenFrom
theorem dX9_takenFromWithout_0 : decode cX9_takenFromWithout 0 = .ok (.aload_n 0, 1) := by decide +kernel
theorem dX9_takenFromWithout_1 : decode cX9_takenFromWithout 1 = .ok (.getfield 70, 3) := by decide +kernel
theorem dX9_takenFromWithout_4 : decode cX9_takenFromWithout 4 = .ok (.aload_n 0, 1) := by decide +kernel
theorem dX9_takenFromWithout_5 : decode cX9_takenFromWithout 5 = .ok (.getfield 32, 3) := by decide +kernel
theorem dX9_takenFromWithout_8 : decode cX9_takenFromWithout 8 = .ok (.iload_n 1, 1) := by decide +kernel
theorem dX9_takenFromWithout_9 : decode cX9_takenFromWithout 9 = .ok (.iconst (-1), 1) := by decide +kernel
theorem dX9_takenFromWithout_10 : decode cX9_takenFromWithout 10 = .ok (.invokevirtual 409, 3) := by decide +kernel
theorem dX9_takenFromWithout_13 : decode cX9_takenFromWithout 13 = .ok (.aload_n 0, 1) := by decide +kernel
theorem dX9_takenFromWithout_14 : decode cX9_takenFromWithout 14 = .ok (.getfield 76, 3) := by decide +kernel
theorem dX9_takenFromWithout_17 : decode cX9_takenFromWithout 17 = .ok (.aload_n 0, 1) := by decide +kernel
theorem dX9_takenFromWithout_18 : decode cX9_takenFromWithout 18 = .ok (.getfield 59, 3) := by decide +kernel
theorem dX9_takenFromWithout_21 : decode cX9_takenFromWithout 21 = .ok (.aload_n 0, 1) := by decide +kernel
theorem dX9_takenFromWithout_22 : decode cX9_takenFromWithout 22 = .ok (.getfield 19, 3) := by decide +kernel
theorem dX9_takenFromWithout_25 : decode cX9_takenFromWithout 25 = .ok (.iconst 0, 1) := by decide +kernel
theorem dX9_takenFromWithout_26 : decode cX9_takenFromWithout 26 = .ok (.iaload, 1) := by decide +kernel
theorem dX9_takenFromWithout_27 : decode cX9_takenFromWithout 27 = .ok (.aload_n 0, 1) := by decide +kernel
theorem dX9_takenFromWithout_28 : decode cX9_takenFromWithout 28 = .ok (.getfield 70, 3) := by decide +kernel
theorem dX9_takenFromWithout_31 : decode cX9_takenFromWithout 31 = .ok (.invokevirtual 213, 3) := by decide +kernel
theorem dX9_takenFromWithout_34 : decode cX9_takenFromWithout 34 = .ok (.aload_n 0, 1) := by decide +kernel
theorem dX9_takenFromWithout_35 : decode cX9_takenFromWithout 35 = .ok (.getfield 39, 3) := by decide +kernel
theorem dX9_takenFromWithout_38 : decode cX9_takenFromWithout 38 = .ok (.aload_n 0, 1) := by decide +kernel
theorem dX9_takenFromWithout_39 : decode cX9_takenFromWithout 39 = .ok (.getfield 25, 3) := by decide +kernel
theorem dX9_takenFromWithout_42 : decode cX9_takenFromWithout 42 = .ok (.aload_n 0, 1) := by decide +kernel
theorem dX9_takenFromWithout_43 : decode cX9_takenFromWithout 43 = .ok (.getfield 76, 3) := by decide +kernel
theorem dX9_takenFromWithout_46 : decode cX9_takenFromWithout 46 = .ok (.iconst (-1), 1) := by decide +kernel
theorem dX9_takenFromWithout_47 : decode cX9_takenFromWithout 47 = .ok (.invokevirtual 180, 3) := by decide +kernel
theorem dX9_takenFromWithout_50 : decode cX9_takenFromWithout 50 = .ok (.lreturn, 1) := by decide +kernel
set_option maxRecDepth 20000 in
theorem ggX9_fewestLeftOut_X7_howManyTake : GoodIn wsX9_fewestLeftOut wsX7_howManyTake := qw_e qk_X9_fewestLeftOut qk_X7_howManyTake (by decide +kernel)
set_option maxRecDepth 20000 in
theorem gX9_fewestLeftOut_X7_howManyTake : GoodIn wsX9_fewestLeftOut (wsV RX9 186 RX7 yX7_howManyTake wsX7_howManyTake) := goodIn_app (qw_e qk_X9_fewestLeftOut (QK_cons qw_486 (QK_cons qw_439 (QK_cons qw_440 (QK_cons qw_970 QK_nil)))) (by decide +kernel)) ggX9_fewestLeftOut_X7_howManyTake
set_option maxRecDepth 20000 in
theorem ggX9_fewestLeftOut_X9_lostWithout : GoodIn wsX9_fewestLeftOut wsX9_lostWithout := qw_e qk_X9_fewestLeftOut qk_X9_lostWithout (by decide +kernel)
set_option maxRecDepth 20000 in
theorem gX9_fewestLeftOut_X9_lostWithout : GoodIn wsX9_fewestLeftOut (wsV RX9 195 RX9 yX9_lostWithout wsX9_lostWithout) := goodIn_app (qw_e qk_X9_fewestLeftOut (QK_cons qw_423 (QK_cons qw_424 (QK_cons qw_425 (QK_cons qw_993 QK_nil)))) (by decide +kernel)) ggX9_fewestLeftOut_X9_lostWithout
theorem dX9_fewestLeftOut_0 : decode cX9_fewestLeftOut 0 = .ok (.aload_n 0, 1) := by decide +kernel
theorem dX9_fewestLeftOut_1 : decode cX9_fewestLeftOut 1 = .ok (.getfield 39, 3) := by decide +kernel
theorem dX9_fewestLeftOut_4 : decode cX9_fewestLeftOut 4 = .ok (.aload_n 0, 1) := by decide +kernel
theorem dX9_fewestLeftOut_5 : decode cX9_fewestLeftOut 5 = .ok (.getfield 25, 3) := by decide +kernel
theorem dX9_fewestLeftOut_8 : decode cX9_fewestLeftOut 8 = .ok (.aload_n 0, 1) := by decide +kernel
theorem dX9_fewestLeftOut_9 : decode cX9_fewestLeftOut 9 = .ok (.getfield 66, 3) := by decide +kernel
theorem dX9_fewestLeftOut_12 : decode cX9_fewestLeftOut 12 = .ok (.invokevirtual 186, 3) := by decide +kernel
theorem dX9_fewestLeftOut_15 : decode cX9_fewestLeftOut 15 = .ok (.istore_n 1, 1) := by decide +kernel
theorem dX9_fewestLeftOut_16 : decode cX9_fewestLeftOut 16 = .ok (.iload_n 1, 1) := by decide +kernel
theorem dX9_fewestLeftOut_17 : decode cX9_fewestLeftOut 17 = .ok (.ifCond .ne 5, 3) := by decide +kernel
theorem dX9_fewestLeftOut_20 : decode cX9_fewestLeftOut 20 = .ok (.iconst 0, 1) := by decide +kernel
theorem dX9_fewestLeftOut_21 : decode cX9_fewestLeftOut 21 = .ok (.ireturn, 1) := by decide +kernel
theorem dX9_fewestLeftOut_22 : decode cX9_fewestLeftOut 22 = .ok (.iconst 0, 1) := by decide +kernel
theorem dX9_fewestLeftOut_23 : decode cX9_fewestLeftOut 23 = .ok (.istore_n 2, 1) := by decide +kernel
theorem dX9_fewestLeftOut_24 : decode cX9_fewestLeftOut 24 = .ok (.iload_n 2, 1) := by decide +kernel
theorem dX9_fewestLeftOut_25 : decode cX9_fewestLeftOut 25 = .ok (.aload_n 0, 1) := by decide +kernel
theorem dX9_fewestLeftOut_26 : decode cX9_fewestLeftOut 26 = .ok (.getfield 32, 3) := by decide +kernel
theorem dX9_fewestLeftOut_29 : decode cX9_fewestLeftOut 29 = .ok (.getfield 126, 3) := by decide +kernel
theorem dX9_fewestLeftOut_32 : decode cX9_fewestLeftOut 32 = .ok (.if_icmp .ge 23, 3) := by decide +kernel
theorem dX9_fewestLeftOut_35 : decode cX9_fewestLeftOut 35 = .ok (.aload_n 0, 1) := by decide +kernel
theorem dX9_fewestLeftOut_36 : decode cX9_fewestLeftOut 36 = .ok (.iload_n 2, 1) := by decide +kernel
theorem dX9_fewestLeftOut_37 : decode cX9_fewestLeftOut 37 = .ok (.iconst (-1), 1) := by decide +kernel
theorem dX9_fewestLeftOut_38 : decode cX9_fewestLeftOut 38 = .ok (.invokevirtual 195, 3) := by decide +kernel
theorem dX9_fewestLeftOut_41 : decode cX9_fewestLeftOut 41 = .ok (.iload_n 1, 1) := by decide +kernel
theorem dX9_fewestLeftOut_42 : decode cX9_fewestLeftOut 42 = .ok (.if_icmp .ge 7, 3) := by decide +kernel
theorem dX9_fewestLeftOut_45 : decode cX9_fewestLeftOut 45 = .ok (.iconst 1, 1) := by decide +kernel
theorem dX9_fewestLeftOut_46 : decode cX9_fewestLeftOut 46 = .ok (.iload_n 2, 1) := by decide +kernel
theorem dX9_fewestLeftOut_47 : decode cX9_fewestLeftOut 47 = .ok (.ishl, 1) := by decide +kernel
theorem dX9_fewestLeftOut_48 : decode cX9_fewestLeftOut 48 = .ok (.ireturn, 1) := by decide +kernel
theorem dX9_fewestLeftOut_49 : decode cX9_fewestLeftOut 49 = .ok (.iinc 2 1, 3) := by decide +kernel
theorem dX9_fewestLeftOut_52 : decode cX9_fewestLeftOut 52 = .ok (.goto (-28), 3) := by decide +kernel
theorem dX9_fewestLeftOut_55 : decode cX9_fewestLeftOut 55 = .ok (.iconst 0, 1) := by decide +kernel
theorem dX9_fewestLeftOut_56 : decode cX9_fewestLeftOut 56 = .ok (.istore_n 2, 1) := by decide +kernel
theorem dX9_fewestLeftOut_57 : decode cX9_fewestLeftOut 57 = .ok (.iload_n 2, 1) := by decide +kernel
theorem dX9_fewestLeftOut_58 : decode cX9_fewestLeftOut 58 = .ok (.aload_n 0, 1) := by decide +kernel
theorem dX9_fewestLeftOut_59 : decode cX9_fewestLeftOut 59 = .ok (.getfield 32, 3) := by decide +kernel
theorem dX9_fewestLeftOut_62 : decode cX9_fewestLeftOut 62 = .ok (.getfield 126, 3) := by decide +kernel
theorem dX9_fewestLeftOut_65 : decode cX9_fewestLeftOut 65 = .ok (.if_icmp .ge 48, 3) := by decide +kernel
theorem dX9_fewestLeftOut_68 : decode cX9_fewestLeftOut 68 = .ok (.iload_n 2, 1) := by decide +kernel
theorem dX9_fewestLeftOut_69 : decode cX9_fewestLeftOut 69 = .ok (.iconst 1, 1) := by decide +kernel
theorem dX9_fewestLeftOut_70 : decode cX9_fewestLeftOut 70 = .ok (.iadd, 1) := by decide +kernel
theorem dX9_fewestLeftOut_71 : decode cX9_fewestLeftOut 71 = .ok (.istore_n 3, 1) := by decide +kernel
theorem dX9_fewestLeftOut_72 : decode cX9_fewestLeftOut 72 = .ok (.iload_n 3, 1) := by decide +kernel
theorem dX9_fewestLeftOut_73 : decode cX9_fewestLeftOut 73 = .ok (.aload_n 0, 1) := by decide +kernel
theorem dX9_fewestLeftOut_74 : decode cX9_fewestLeftOut 74 = .ok (.getfield 32, 3) := by decide +kernel
theorem dX9_fewestLeftOut_77 : decode cX9_fewestLeftOut 77 = .ok (.getfield 126, 3) := by decide +kernel
theorem dX9_fewestLeftOut_80 : decode cX9_fewestLeftOut 80 = .ok (.if_icmp .ge 27, 3) := by decide +kernel
theorem dX9_fewestLeftOut_83 : decode cX9_fewestLeftOut 83 = .ok (.aload_n 0, 1) := by decide +kernel
theorem dX9_fewestLeftOut_84 : decode cX9_fewestLeftOut 84 = .ok (.iload_n 2, 1) := by decide +kernel
theorem dX9_fewestLeftOut_85 : decode cX9_fewestLeftOut 85 = .ok (.iload_n 3, 1) := by decide +kernel
theorem dX9_fewestLeftOut_86 : decode cX9_fewestLeftOut 86 = .ok (.invokevirtual 195, 3) := by decide +kernel
theorem dX9_fewestLeftOut_89 : decode cX9_fewestLeftOut 89 = .ok (.iload_n 1, 1) := by decide +kernel
theorem dX9_fewestLeftOut_90 : decode cX9_fewestLeftOut 90 = .ok (.if_icmp .ge 11, 3) := by decide +kernel
theorem dX9_fewestLeftOut_93 : decode cX9_fewestLeftOut 93 = .ok (.iconst 1, 1) := by decide +kernel
theorem dX9_fewestLeftOut_94 : decode cX9_fewestLeftOut 94 = .ok (.iload_n 2, 1) := by decide +kernel
theorem dX9_fewestLeftOut_95 : decode cX9_fewestLeftOut 95 = .ok (.ishl, 1) := by decide +kernel
theorem dX9_fewestLeftOut_96 : decode cX9_fewestLeftOut 96 = .ok (.iconst 1, 1) := by decide +kernel
theorem dX9_fewestLeftOut_97 : decode cX9_fewestLeftOut 97 = .ok (.iload_n 3, 1) := by decide +kernel
theorem dX9_fewestLeftOut_98 : decode cX9_fewestLeftOut 98 = .ok (.ishl, 1) := by decide +kernel
theorem dX9_fewestLeftOut_99 : decode cX9_fewestLeftOut 99 = .ok (.ior, 1) := by decide +kernel
theorem dX9_fewestLeftOut_100 : decode cX9_fewestLeftOut 100 = .ok (.ireturn, 1) := by decide +kernel
theorem dX9_fewestLeftOut_101 : decode cX9_fewestLeftOut 101 = .ok (.iinc 3 1, 3) := by decide +kernel
theorem dX9_fewestLeftOut_104 : decode cX9_fewestLeftOut 104 = .ok (.goto (-32), 3) := by decide +kernel
theorem dX9_fewestLeftOut_107 : decode cX9_fewestLeftOut 107 = .ok (.iinc 2 1, 3) := by decide +kernel
theorem dX9_fewestLeftOut_110 : decode cX9_fewestLeftOut 110 = .ok (.goto (-53), 3) := by decide +kernel
theorem dX9_fewestLeftOut_113 : decode cX9_fewestLeftOut 113 = .ok (.iconst 0, 1) := by decide +kernel
theorem dX9_fewestLeftOut_114 : decode cX9_fewestLeftOut 114 = .ok (.ireturn, 1) := by decide +kernel
theorem dX9_placeOfBit_0 : decode cX9_placeOfBit 0 = .ok (.iload_n 2, 1) := by decide +kernel
theorem dX9_placeOfBit_1 : decode cX9_placeOfBit 1 = .ok (.istore_n 3, 1) := by decide +kernel
theorem dX9_placeOfBit_2 : decode cX9_placeOfBit 2 = .ok (.iconst 0, 1) := by decide +kernel
theorem dX9_placeOfBit_3 : decode cX9_placeOfBit 3 = .ok (.istore 4, 2) := by decide +kernel
theorem dX9_placeOfBit_5 : decode cX9_placeOfBit 5 = .ok (.iload 4, 2) := by decide +kernel
theorem dX9_placeOfBit_7 : decode cX9_placeOfBit 7 = .ok (.bipush 36, 2) := by decide +kernel
theorem dX9_placeOfBit_9 : decode cX9_placeOfBit 9 = .ok (.if_icmp .ge 30, 3) := by decide +kernel
theorem dX9_placeOfBit_12 : decode cX9_placeOfBit 12 = .ok (.lload_n 0, 1) := by decide +kernel
theorem dX9_placeOfBit_13 : decode cX9_placeOfBit 13 = .ok (.iload 4, 2) := by decide +kernel
theorem dX9_placeOfBit_15 : decode cX9_placeOfBit 15 = .ok (.lushr, 1) := by decide +kernel
theorem dX9_placeOfBit_16 : decode cX9_placeOfBit 16 = .ok (.lconst 1, 1) := by decide +kernel
theorem dX9_placeOfBit_17 : decode cX9_placeOfBit 17 = .ok (.land, 1) := by decide +kernel
theorem dX9_placeOfBit_18 : decode cX9_placeOfBit 18 = .ok (.lconst 0, 1) := by decide +kernel
theorem dX9_placeOfBit_19 : decode cX9_placeOfBit 19 = .ok (.lcmp, 1) := by decide +kernel
theorem dX9_placeOfBit_20 : decode cX9_placeOfBit 20 = .ok (.ifCond .eq 13, 3) := by decide +kernel
theorem dX9_placeOfBit_23 : decode cX9_placeOfBit 23 = .ok (.iload_n 3, 1) := by decide +kernel
theorem dX9_placeOfBit_24 : decode cX9_placeOfBit 24 = .ok (.ifCond .ne 6, 3) := by decide +kernel
theorem dX9_placeOfBit_27 : decode cX9_placeOfBit 27 = .ok (.iload 4, 2) := by decide +kernel
theorem dX9_placeOfBit_29 : decode cX9_placeOfBit 29 = .ok (.ireturn, 1) := by decide +kernel
theorem dX9_placeOfBit_30 : decode cX9_placeOfBit 30 = .ok (.iinc 3 (-1), 3) := by decide +kernel
theorem dX9_placeOfBit_33 : decode cX9_placeOfBit 33 = .ok (.iinc 4 1, 3) := by decide +kernel
theorem dX9_placeOfBit_36 : decode cX9_placeOfBit 36 = .ok (.goto (-31), 3) := by decide +kernel
theorem dX9_placeOfBit_39 : decode cX9_placeOfBit 39 = .ok (.iconst (-1), 1) := by decide +kernel
theorem dX9_placeOfBit_40 : decode cX9_placeOfBit 40 = .ok (.ireturn, 1) := by decide +kernel
theorem dX9_halfOf_0 : decode cX9_halfOf 0 = .ok (.lload_n 0, 1) := by decide +kernel
theorem dX9_halfOf_1 : decode cX9_halfOf 1 = .ok (.iload_n 2, 1) := by decide +kernel
theorem dX9_halfOf_2 : decode cX9_halfOf 2 = .ok (.bipush 18, 2) := by decide +kernel
theorem dX9_halfOf_4 : decode cX9_halfOf 4 = .ok (.imul, 1) := by decide +kernel
theorem dX9_halfOf_5 : decode cX9_halfOf 5 = .ok (.lushr, 1) := by decide +kernel
theorem dX9_halfOf_6 : decode cX9_halfOf 6 = .ok (.l2i, 1) := by decide +kernel
theorem dX9_halfOf_7 : decode cX9_halfOf 7 = .ok (.ldc_w 413, 3) := by decide +kernel
theorem dX9_halfOf_10 : decode cX9_halfOf 10 = .ok (.iand, 1) := by decide +kernel
theorem dX9_halfOf_11 : decode cX9_halfOf 11 = .ok (.ireturn, 1) := by decide +kernel
set_option maxRecDepth 20000 in
theorem ggX9_cellsMeant_X7_takenFrom : GoodIn wsX9_cellsMeant wsX7_takenFrom := qw_e qk_X9_cellsMeant qk_X7_takenFrom (by decide +kernel)
set_option maxRecDepth 20000 in
theorem gX9_cellsMeant_X7_takenFrom : GoodIn wsX9_cellsMeant (wsV RX9 180 RX7 yX7_takenFrom wsX7_takenFrom) := goodIn_app (qw_e qk_X9_cellsMeant (QK_cons qw_465 (QK_cons qw_466 (QK_cons qw_467 (QK_cons qw_970 QK_nil)))) (by decide +kernel)) ggX9_cellsMeant_X7_takenFrom
set_option maxRecDepth 20000 in
theorem ggX9_cellsMeant_X8_isShop : GoodIn wsX9_cellsMeant wsX8_isShop := qw_e qk_X9_cellsMeant qk_X8_isShop (by decide +kernel)
set_option maxRecDepth 20000 in
theorem gX9_cellsMeant_X8_isShop : GoodIn wsX9_cellsMeant (wsV RX9 414 RX8 yX8_isShop wsX8_isShop) := goodIn_app (qw_e qk_X9_cellsMeant (QK_cons qw_257 (QK_cons qw_488 (QK_cons qw_489 (QK_cons qw_1010 QK_nil)))) (by decide +kernel)) ggX9_cellsMeant_X8_isShop
set_option maxRecDepth 20000 in
theorem ggX9_cellsMeant_X2_endOfUnseen : GoodIn wsX9_cellsMeant wsX2_endOfUnseen := qw_e qk_X9_cellsMeant qk_X2_endOfUnseen (by decide +kernel)
set_option maxRecDepth 20000 in
theorem gX9_cellsMeant_X2_endOfUnseen : GoodIn wsX9_cellsMeant (wsV RX9 417 RX2 yX2_endOfUnseen wsX2_endOfUnseen) := goodIn_app (qw_e qk_X9_cellsMeant (QK_cons qw_258 (QK_cons qw_492 (QK_cons qw_493 (QK_cons qw_984 QK_nil)))) (by decide +kernel)) ggX9_cellsMeant_X2_endOfUnseen
set_option maxRecDepth 20000 in
theorem ggX9_cellsMeant_X1_agreesWith : GoodIn wsX9_cellsMeant wsX1_agreesWith := qw_e qk_X9_cellsMeant qk_X1_agreesWith (by decide +kernel)
set_option maxRecDepth 20000 in
theorem gX9_cellsMeant_X1_agreesWith : GoodIn wsX9_cellsMeant (wsV RX9 248 RX1 yX1_agreesWith wsX1_agreesWith) := goodIn_app (qw_e qk_X9_cellsMeant (QK_cons qw_281 (QK_cons qw_282 (QK_cons qw_283 (QK_cons qw_974 QK_nil)))) (by decide +kernel)) ggX9_cellsMeant_X1_agreesWith
theorem dX9_cellsMeant_0 : decode cX9_cellsMeant 0 = .ok (.aload_n 0, 1) := by decide +kernel
theorem dX9_cellsMeant_1 : decode cX9_cellsMeant 1 = .ok (.getfield 39, 3) := by decide +kernel
theorem dX9_cellsMeant_4 : decode cX9_cellsMeant 4 = .ok (.aload_n 0, 1) := by decide +kernel
theorem dX9_cellsMeant_5 : decode cX9_cellsMeant 5 = .ok (.getfield 25, 3) := by decide +kernel
theorem dX9_cellsMeant_8 : decode cX9_cellsMeant 8 = .ok (.aload_n 0, 1) := by decide +kernel
theorem dX9_cellsMeant_9 : decode cX9_cellsMeant 9 = .ok (.getfield 66, 3) := by decide +kernel
theorem dX9_cellsMeant_12 : decode cX9_cellsMeant 12 = .ok (.iload_n 1, 1) := by decide +kernel
theorem dX9_cellsMeant_13 : decode cX9_cellsMeant 13 = .ok (.invokevirtual 180, 3) := by decide +kernel
theorem dX9_cellsMeant_16 : decode cX9_cellsMeant 16 = .ok (.lstore_n 2, 1) := by decide +kernel
theorem dX9_cellsMeant_17 : decode cX9_cellsMeant 17 = .ok (.lconst 0, 1) := by decide +kernel
theorem dX9_cellsMeant_18 : decode cX9_cellsMeant 18 = .ok (.lstore 4, 2) := by decide +kernel
theorem dX9_cellsMeant_20 : decode cX9_cellsMeant 20 = .ok (.iconst 0, 1) := by decide +kernel
theorem dX9_cellsMeant_21 : decode cX9_cellsMeant 21 = .ok (.istore 6, 2) := by decide +kernel
theorem dX9_cellsMeant_23 : decode cX9_cellsMeant 23 = .ok (.iload 6, 2) := by decide +kernel
theorem dX9_cellsMeant_25 : decode cX9_cellsMeant 25 = .ok (.aload_n 0, 1) := by decide +kernel
theorem dX9_cellsMeant_26 : decode cX9_cellsMeant 26 = .ok (.getfield 25, 3) := by decide +kernel
theorem dX9_cellsMeant_29 : decode cX9_cellsMeant 29 = .ok (.getfield 120, 3) := by decide +kernel
theorem dX9_cellsMeant_32 : decode cX9_cellsMeant 32 = .ok (.if_icmp .ge 84, 3) := by decide +kernel
theorem dX9_cellsMeant_35 : decode cX9_cellsMeant 35 = .ok (.aload_n 0, 1) := by decide +kernel
theorem dX9_cellsMeant_36 : decode cX9_cellsMeant 36 = .ok (.getfield 25, 3) := by decide +kernel
theorem dX9_cellsMeant_39 : decode cX9_cellsMeant 39 = .ok (.iload 6, 2) := by decide +kernel
theorem dX9_cellsMeant_41 : decode cX9_cellsMeant 41 = .ok (.invokevirtual 414, 3) := by decide +kernel
theorem dX9_cellsMeant_44 : decode cX9_cellsMeant 44 = .ok (.ifCond .eq 29, 3) := by decide +kernel
theorem dX9_cellsMeant_47 : decode cX9_cellsMeant 47 = .ok (.aload_n 0, 1) := by decide +kernel
theorem dX9_cellsMeant_48 : decode cX9_cellsMeant 48 = .ok (.getfield 66, 3) := by decide +kernel
theorem dX9_cellsMeant_51 : decode cX9_cellsMeant 51 = .ok (.iload 6, 2) := by decide +kernel
theorem dX9_cellsMeant_53 : decode cX9_cellsMeant 53 = .ok (.aload_n 0, 1) := by decide +kernel
theorem dX9_cellsMeant_54 : decode cX9_cellsMeant 54 = .ok (.getfield 39, 3) := by decide +kernel
theorem dX9_cellsMeant_57 : decode cX9_cellsMeant 57 = .ok (.getfield 139, 3) := by decide +kernel
theorem dX9_cellsMeant_60 : decode cX9_cellsMeant 60 = .ok (.iload_n 1, 1) := by decide +kernel
theorem dX9_cellsMeant_61 : decode cX9_cellsMeant 61 = .ok (.iaload, 1) := by decide +kernel
theorem dX9_cellsMeant_62 : decode cX9_cellsMeant 62 = .ok (.invokevirtual 417, 3) := by decide +kernel
theorem dX9_cellsMeant_65 : decode cX9_cellsMeant 65 = .ok (.iconst (-1), 1) := by decide +kernel
theorem dX9_cellsMeant_66 : decode cX9_cellsMeant 66 = .ok (.if_icmp .eq 7, 3) := by decide +kernel
theorem dX9_cellsMeant_69 : decode cX9_cellsMeant 69 = .ok (.iconst 1, 1) := by decide +kernel
theorem dX9_cellsMeant_70 : decode cX9_cellsMeant 70 = .ok (.goto 4, 3) := by decide +kernel
theorem dX9_cellsMeant_73 : decode cX9_cellsMeant 73 = .ok (.iconst 0, 1) := by decide +kernel
theorem dX9_cellsMeant_74 : decode cX9_cellsMeant 74 = .ok (.istore 7, 2) := by decide +kernel
theorem dX9_cellsMeant_76 : decode cX9_cellsMeant 76 = .ok (.aload_n 0, 1) := by decide +kernel
theorem dX9_cellsMeant_77 : decode cX9_cellsMeant 77 = .ok (.getfield 46, 3) := by decide +kernel
theorem dX9_cellsMeant_80 : decode cX9_cellsMeant 80 = .ok (.iload 7, 2) := by decide +kernel
theorem dX9_cellsMeant_82 : decode cX9_cellsMeant 82 = .ok (.ifCond .eq 12, 3) := by decide +kernel
theorem dX9_cellsMeant_85 : decode cX9_cellsMeant 85 = .ok (.lload_n 2, 1) := by decide +kernel
theorem dX9_cellsMeant_86 : decode cX9_cellsMeant 86 = .ok (.lconst 1, 1) := by decide +kernel
theorem dX9_cellsMeant_87 : decode cX9_cellsMeant 87 = .ok (.iload 6, 2) := by decide +kernel
theorem dX9_cellsMeant_89 : decode cX9_cellsMeant 89 = .ok (.lshl, 1) := by decide +kernel
theorem dX9_cellsMeant_90 : decode cX9_cellsMeant 90 = .ok (.lor, 1) := by decide +kernel
theorem dX9_cellsMeant_91 : decode cX9_cellsMeant 91 = .ok (.goto 4, 3) := by decide +kernel
theorem dX9_cellsMeant_94 : decode cX9_cellsMeant 94 = .ok (.lload_n 2, 1) := by decide +kernel
theorem dX9_cellsMeant_95 : decode cX9_cellsMeant 95 = .ok (.invokevirtual 248, 3) := by decide +kernel
theorem dX9_cellsMeant_98 : decode cX9_cellsMeant 98 = .ok (.ifCond .eq 12, 3) := by decide +kernel
theorem dX9_cellsMeant_101 : decode cX9_cellsMeant 101 = .ok (.lload 4, 2) := by decide +kernel
theorem dX9_cellsMeant_103 : decode cX9_cellsMeant 103 = .ok (.lconst 1, 1) := by decide +kernel
theorem dX9_cellsMeant_104 : decode cX9_cellsMeant 104 = .ok (.iload 6, 2) := by decide +kernel
theorem dX9_cellsMeant_106 : decode cX9_cellsMeant 106 = .ok (.lshl, 1) := by decide +kernel
theorem dX9_cellsMeant_107 : decode cX9_cellsMeant 107 = .ok (.lor, 1) := by decide +kernel
theorem dX9_cellsMeant_108 : decode cX9_cellsMeant 108 = .ok (.lstore 4, 2) := by decide +kernel
theorem dX9_cellsMeant_110 : decode cX9_cellsMeant 110 = .ok (.iinc 6 1, 3) := by decide +kernel
theorem dX9_cellsMeant_113 : decode cX9_cellsMeant 113 = .ok (.goto (-90), 3) := by decide +kernel
theorem dX9_cellsMeant_116 : decode cX9_cellsMeant 116 = .ok (.lload 4, 2) := by decide +kernel
theorem dX9_cellsMeant_118 : decode cX9_cellsMeant 118 = .ok (.lreturn, 1) := by decide +kernel
theorem dX9_countTakings_0 : decode cX9_countTakings 0 = .ok (.iconst 0, 1) := by decide +kernel
theorem dX9_countTakings_1 : decode cX9_countTakings 1 = .ok (.istore_n 3, 1) := by decide +kernel
theorem dX9_countTakings_2 : decode cX9_countTakings 2 = .ok (.iload_n 3, 1) := by decide +kernel
theorem dX9_countTakings_3 : decode cX9_countTakings 3 = .ok (.aload_n 0, 1) := by decide +kernel
theorem dX9_countTakings_4 : decode cX9_countTakings 4 = .ok (.getfield 86, 3) := by decide +kernel
theorem dX9_countTakings_7 : decode cX9_countTakings 7 = .ok (.arraylength, 1) := by decide +kernel
theorem dX9_countTakings_8 : decode cX9_countTakings 8 = .ok (.if_icmp .ge 24, 3) := by decide +kernel
theorem dX9_countTakings_11 : decode cX9_countTakings 11 = .ok (.aload_n 0, 1) := by decide +kernel
theorem dX9_countTakings_12 : decode cX9_countTakings 12 = .ok (.getfield 86, 3) := by decide +kernel
theorem dX9_countTakings_15 : decode cX9_countTakings 15 = .ok (.iload_n 3, 1) := by decide +kernel
theorem dX9_countTakings_16 : decode cX9_countTakings 16 = .ok (.dup2, 1) := by decide +kernel
theorem dX9_countTakings_17 : decode cX9_countTakings 17 = .ok (.iaload, 1) := by decide +kernel
theorem dX9_countTakings_18 : decode cX9_countTakings 18 = .ok (.lload_n 1, 1) := by decide +kernel
theorem dX9_countTakings_19 : decode cX9_countTakings 19 = .ok (.iload_n 3, 1) := by decide +kernel
theorem dX9_countTakings_20 : decode cX9_countTakings 20 = .ok (.lushr, 1) := by decide +kernel
theorem dX9_countTakings_21 : decode cX9_countTakings 21 = .ok (.lconst 1, 1) := by decide +kernel
theorem dX9_countTakings_22 : decode cX9_countTakings 22 = .ok (.land, 1) := by decide +kernel
theorem dX9_countTakings_23 : decode cX9_countTakings 23 = .ok (.l2i, 1) := by decide +kernel
theorem dX9_countTakings_24 : decode cX9_countTakings 24 = .ok (.iadd, 1) := by decide +kernel
theorem dX9_countTakings_25 : decode cX9_countTakings 25 = .ok (.iastore, 1) := by decide +kernel
theorem dX9_countTakings_26 : decode cX9_countTakings 26 = .ok (.iinc 3 1, 3) := by decide +kernel
theorem dX9_countTakings_29 : decode cX9_countTakings 29 = .ok (.goto (-27), 3) := by decide +kernel
theorem dX9_countTakings_32 : decode cX9_countTakings 32 = .ok (.return_, 1) := by decide +kernel
set_option maxRecDepth 20000 in
theorem ggX9_mostTellingShop_X8_isShop : GoodIn wsX9_mostTellingShop wsX8_isShop := qw_e qk_X9_mostTellingShop qk_X8_isShop (by decide +kernel)
set_option maxRecDepth 20000 in
theorem gX9_mostTellingShop_X8_isShop : GoodIn wsX9_mostTellingShop (wsV RX9 414 RX8 yX8_isShop wsX8_isShop) := goodIn_app (qw_e qk_X9_mostTellingShop (QK_cons qw_257 (QK_cons qw_488 (QK_cons qw_489 (QK_cons qw_1010 QK_nil)))) (by decide +kernel)) ggX9_mostTellingShop_X8_isShop
theorem dX9_mostTellingShop_0 : decode cX9_mostTellingShop 0 = .ok (.iconst (-1), 1) := by decide +kernel
theorem dX9_mostTellingShop_1 : decode cX9_mostTellingShop 1 = .ok (.istore_n 2, 1) := by decide +kernel
theorem dX9_mostTellingShop_2 : decode cX9_mostTellingShop 2 = .ok (.iconst 0, 1) := by decide +kernel
theorem dX9_mostTellingShop_3 : decode cX9_mostTellingShop 3 = .ok (.istore_n 3, 1) := by decide +kernel
theorem dX9_mostTellingShop_4 : decode cX9_mostTellingShop 4 = .ok (.iconst 0, 1) := by decide +kernel
theorem dX9_mostTellingShop_5 : decode cX9_mostTellingShop 5 = .ok (.istore 4, 2) := by decide +kernel
theorem dX9_mostTellingShop_7 : decode cX9_mostTellingShop 7 = .ok (.iload 4, 2) := by decide +kernel
theorem dX9_mostTellingShop_9 : decode cX9_mostTellingShop 9 = .ok (.aload_n 0, 1) := by decide +kernel
theorem dX9_mostTellingShop_10 : decode cX9_mostTellingShop 10 = .ok (.getfield 25, 3) := by decide +kernel
theorem dX9_mostTellingShop_13 : decode cX9_mostTellingShop 13 = .ok (.getfield 120, 3) := by decide +kernel
theorem dX9_mostTellingShop_16 : decode cX9_mostTellingShop 16 = .ok (.if_icmp .ge 59, 3) := by decide +kernel
theorem dX9_mostTellingShop_19 : decode cX9_mostTellingShop 19 = .ok (.aload_n 0, 1) := by decide +kernel
theorem dX9_mostTellingShop_20 : decode cX9_mostTellingShop 20 = .ok (.getfield 25, 3) := by decide +kernel
theorem dX9_mostTellingShop_23 : decode cX9_mostTellingShop 23 = .ok (.iload 4, 2) := by decide +kernel
theorem dX9_mostTellingShop_25 : decode cX9_mostTellingShop 25 = .ok (.invokevirtual 414, 3) := by decide +kernel
theorem dX9_mostTellingShop_28 : decode cX9_mostTellingShop 28 = .ok (.ifCond .eq 41, 3) := by decide +kernel
theorem dX9_mostTellingShop_31 : decode cX9_mostTellingShop 31 = .ok (.aload_n 0, 1) := by decide +kernel
theorem dX9_mostTellingShop_32 : decode cX9_mostTellingShop 32 = .ok (.getfield 86, 3) := by decide +kernel
theorem dX9_mostTellingShop_35 : decode cX9_mostTellingShop 35 = .ok (.iload 4, 2) := by decide +kernel
theorem dX9_mostTellingShop_37 : decode cX9_mostTellingShop 37 = .ok (.iaload, 1) := by decide +kernel
theorem dX9_mostTellingShop_38 : decode cX9_mostTellingShop 38 = .ok (.iload_n 1, 1) := by decide +kernel
theorem dX9_mostTellingShop_39 : decode cX9_mostTellingShop 39 = .ok (.aload_n 0, 1) := by decide +kernel
theorem dX9_mostTellingShop_40 : decode cX9_mostTellingShop 40 = .ok (.getfield 86, 3) := by decide +kernel
theorem dX9_mostTellingShop_43 : decode cX9_mostTellingShop 43 = .ok (.iload 4, 2) := by decide +kernel
theorem dX9_mostTellingShop_45 : decode cX9_mostTellingShop 45 = .ok (.iaload, 1) := by decide +kernel
theorem dX9_mostTellingShop_46 : decode cX9_mostTellingShop 46 = .ok (.isub, 1) := by decide +kernel
theorem dX9_mostTellingShop_47 : decode cX9_mostTellingShop 47 = .ok (.invokestatic 420, 3) := by decide +kernel
theorem dX9_mostTellingShop_50 : decode cX9_mostTellingShop 50 = .ok (.istore 5, 2) := by decide +kernel
theorem dX9_mostTellingShop_52 : decode cX9_mostTellingShop 52 = .ok (.iload_n 2, 1) := by decide +kernel
theorem dX9_mostTellingShop_53 : decode cX9_mostTellingShop 53 = .ok (.iconst (-1), 1) := by decide +kernel
theorem dX9_mostTellingShop_54 : decode cX9_mostTellingShop 54 = .ok (.if_icmp .eq 9, 3) := by decide +kernel
theorem dX9_mostTellingShop_57 : decode cX9_mostTellingShop 57 = .ok (.iload 5, 2) := by decide +kernel
theorem dX9_mostTellingShop_59 : decode cX9_mostTellingShop 59 = .ok (.iload_n 3, 1) := by decide +kernel
theorem dX9_mostTellingShop_60 : decode cX9_mostTellingShop 60 = .ok (.if_icmp .ge 9, 3) := by decide +kernel
theorem dX9_mostTellingShop_63 : decode cX9_mostTellingShop 63 = .ok (.iload 4, 2) := by decide +kernel
theorem dX9_mostTellingShop_65 : decode cX9_mostTellingShop 65 = .ok (.istore_n 2, 1) := by decide +kernel
theorem dX9_mostTellingShop_66 : decode cX9_mostTellingShop 66 = .ok (.iload 5, 2) := by decide +kernel
theorem dX9_mostTellingShop_68 : decode cX9_mostTellingShop 68 = .ok (.istore_n 3, 1) := by decide +kernel
theorem dX9_mostTellingShop_69 : decode cX9_mostTellingShop 69 = .ok (.iinc 4 1, 3) := by decide +kernel
theorem dX9_mostTellingShop_72 : decode cX9_mostTellingShop 72 = .ok (.goto (-65), 3) := by decide +kernel
theorem dX9_mostTellingShop_75 : decode cX9_mostTellingShop 75 = .ok (.iload_n 2, 1) := by decide +kernel
theorem dX9_mostTellingShop_76 : decode cX9_mostTellingShop 76 = .ok (.ireturn, 1) := by decide +kernel
set_option maxRecDepth 20000 in
theorem ggX9_waysToTake_X8_isShop : GoodIn wsX9_waysToTake wsX8_isShop := qw_e qk_X9_waysToTake qk_X8_isShop (by decide +kernel)
set_option maxRecDepth 20000 in
theorem gX9_waysToTake_X8_isShop : GoodIn wsX9_waysToTake (wsV RX9 414 RX8 yX8_isShop wsX8_isShop) := goodIn_app (qw_e qk_X9_waysToTake (QK_cons qw_257 (QK_cons qw_488 (QK_cons qw_489 (QK_cons qw_1010 QK_nil)))) (by decide +kernel)) ggX9_waysToTake_X8_isShop
set_option maxRecDepth 20000 in
theorem ggX9_waysToTake_X3_startFor : GoodIn wsX9_waysToTake wsX3_startFor := qw_e qk_X9_waysToTake qk_X3_startFor (by decide +kernel)
set_option maxRecDepth 20000 in
theorem gX9_waysToTake_X3_startFor : GoodIn wsX9_waysToTake (wsV RX9 423 RX3 yX3_startFor wsX3_startFor) := goodIn_app (qw_e qk_X9_waysToTake (QK_cons qw_214 (QK_cons qw_215 (QK_cons qw_216 (QK_cons qw_943 QK_nil)))) (by decide +kernel)) ggX9_waysToTake_X3_startFor
set_option maxRecDepth 20000 in
theorem ggX9_waysToTake_X8_isInView : GoodIn wsX9_waysToTake wsX8_isInView := qw_e qk_X9_waysToTake qk_X8_isInView (by decide +kernel)
set_option maxRecDepth 20000 in
theorem gX9_waysToTake_X8_isInView : GoodIn wsX9_waysToTake (wsV RX9 426 RX8 yX8_isInView wsX8_isInView) := goodIn_app (qw_e qk_X9_waysToTake (QK_cons qw_175 (QK_cons qw_176 (QK_cons qw_177 (QK_cons qw_1010 QK_nil)))) (by decide +kernel)) ggX9_waysToTake_X8_isInView
set_option maxRecDepth 20000 in
theorem ggX9_waysToTake_X9_foggySight : GoodIn wsX9_waysToTake wsX9_foggySight := qw_e qk_X9_waysToTake qk_X9_foggySight (by decide +kernel)
set_option maxRecDepth 20000 in
theorem gX9_waysToTake_X9_foggySight : GoodIn wsX9_waysToTake (wsV RX9 401 RX9 yX9_foggySight wsX9_foggySight) := goodIn_app (qw_e qk_X9_waysToTake (QK_cons qw_634 (QK_cons qw_635 (QK_cons qw_636 (QK_cons qw_993 QK_nil)))) (by decide +kernel)) ggX9_waysToTake_X9_foggySight
set_option maxRecDepth 20000 in
theorem ggX9_waysToTake_X3_goOn : GoodIn wsX9_waysToTake wsX3_goOn := qw_e qk_X9_waysToTake qk_X3_goOn (by decide +kernel)
set_option maxRecDepth 20000 in
theorem gX9_waysToTake_X3_goOn : GoodIn wsX9_waysToTake (wsV RX9 432 RX3 yX3_goOn wsX3_goOn) := goodIn_app (qw_e qk_X9_waysToTake (QK_cons qw_180 (QK_cons qw_181 (QK_cons qw_182 (QK_cons qw_943 QK_nil)))) (by decide +kernel)) ggX9_waysToTake_X3_goOn
set_option maxRecDepth 20000 in
theorem ggX9_waysToTake_X3_taken : GoodIn wsX9_waysToTake wsX3_taken := qw_e qk_X9_waysToTake qk_X3_taken (by decide +kernel)
set_option maxRecDepth 20000 in
theorem gX9_waysToTake_X3_taken : GoodIn wsX9_waysToTake (wsV RX9 436 RX3 yX3_taken wsX3_taken) := goodIn_app (qw_e qk_X9_waysToTake (QK_cons qw_184 (QK_cons qw_185 (QK_cons qw_186 (QK_cons qw_943 QK_nil)))) (by decide +kernel)) ggX9_waysToTake_X3_taken
theorem dX9_waysToTake_0 : decode cX9_waysToTake 0 = .ok (.aload_n 0, 1) := by decide +kernel
theorem dX9_waysToTake_1 : decode cX9_waysToTake 1 = .ok (.getfield 39, 3) := by decide +kernel
theorem dX9_waysToTake_4 : decode cX9_waysToTake 4 = .ok (.getfield 136, 3) := by decide +kernel
theorem dX9_waysToTake_7 : decode cX9_waysToTake 7 = .ok (.iload_n 3, 1) := by decide +kernel
theorem dX9_waysToTake_8 : decode cX9_waysToTake 8 = .ok (.iaload, 1) := by decide +kernel
theorem dX9_waysToTake_9 : decode cX9_waysToTake 9 = .ok (.istore 4, 2) := by decide +kernel
theorem dX9_waysToTake_11 : decode cX9_waysToTake 11 = .ok (.aload_n 0, 1) := by decide +kernel
theorem dX9_waysToTake_12 : decode cX9_waysToTake 12 = .ok (.getfield 25, 3) := by decide +kernel
theorem dX9_waysToTake_15 : decode cX9_waysToTake 15 = .ok (.iload 4, 2) := by decide +kernel
theorem dX9_waysToTake_17 : decode cX9_waysToTake 17 = .ok (.invokevirtual 414, 3) := by decide +kernel
theorem dX9_waysToTake_20 : decode cX9_waysToTake 20 = .ok (.ifCond .ne 5, 3) := by decide +kernel
theorem dX9_waysToTake_23 : decode cX9_waysToTake 23 = .ok (.lconst 0, 1) := by decide +kernel
theorem dX9_waysToTake_24 : decode cX9_waysToTake 24 = .ok (.lreturn, 1) := by decide +kernel
theorem dX9_waysToTake_25 : decode cX9_waysToTake 25 = .ok (.aload_n 0, 1) := by decide +kernel
theorem dX9_waysToTake_26 : decode cX9_waysToTake 26 = .ok (.getfield 82, 3) := by decide +kernel
theorem dX9_waysToTake_29 : decode cX9_waysToTake 29 = .ok (.aload_n 0, 1) := by decide +kernel
theorem dX9_waysToTake_30 : decode cX9_waysToTake 30 = .ok (.getfield 39, 3) := by decide +kernel
theorem dX9_waysToTake_33 : decode cX9_waysToTake 33 = .ok (.getfield 139, 3) := by decide +kernel
theorem dX9_waysToTake_36 : decode cX9_waysToTake 36 = .ok (.iload_n 3, 1) := by decide +kernel
theorem dX9_waysToTake_37 : decode cX9_waysToTake 37 = .ok (.iaload, 1) := by decide +kernel
theorem dX9_waysToTake_38 : decode cX9_waysToTake 38 = .ok (.invokevirtual 423, 3) := by decide +kernel
theorem dX9_waysToTake_41 : decode cX9_waysToTake 41 = .ok (.iconst 0, 1) := by decide +kernel
theorem dX9_waysToTake_42 : decode cX9_waysToTake 42 = .ok (.istore 5, 2) := by decide +kernel
theorem dX9_waysToTake_44 : decode cX9_waysToTake 44 = .ok (.iload 5, 2) := by decide +kernel
theorem dX9_waysToTake_46 : decode cX9_waysToTake 46 = .ok (.bipush 96, 2) := by decide +kernel
theorem dX9_waysToTake_48 : decode cX9_waysToTake 48 = .ok (.if_icmp .ge 116, 3) := by decide +kernel
theorem dX9_waysToTake_51 : decode cX9_waysToTake 51 = .ok (.aload_n 0, 1) := by decide +kernel
theorem dX9_waysToTake_52 : decode cX9_waysToTake 52 = .ok (.getfield 66, 3) := by decide +kernel
theorem dX9_waysToTake_55 : decode cX9_waysToTake 55 = .ok (.getfield 151, 3) := by decide +kernel
theorem dX9_waysToTake_58 : decode cX9_waysToTake 58 = .ok (.iload 5, 2) := by decide +kernel
theorem dX9_waysToTake_60 : decode cX9_waysToTake 60 = .ok (.iaload, 1) := by decide +kernel
theorem dX9_waysToTake_61 : decode cX9_waysToTake 61 = .ok (.istore 6, 2) := by decide +kernel
theorem dX9_waysToTake_63 : decode cX9_waysToTake 63 = .ok (.aload_n 0, 1) := by decide +kernel
theorem dX9_waysToTake_64 : decode cX9_waysToTake 64 = .ok (.getfield 25, 3) := by decide +kernel
theorem dX9_waysToTake_67 : decode cX9_waysToTake 67 = .ok (.iload 6, 2) := by decide +kernel
theorem dX9_waysToTake_69 : decode cX9_waysToTake 69 = .ok (.iload 4, 2) := by decide +kernel
theorem dX9_waysToTake_71 : decode cX9_waysToTake 71 = .ok (.aload_n 0, 1) := by decide +kernel
theorem dX9_waysToTake_72 : decode cX9_waysToTake 72 = .ok (.getfield 19, 3) := by decide +kernel
theorem dX9_waysToTake_75 : decode cX9_waysToTake 75 = .ok (.iconst 2, 1) := by decide +kernel
theorem dX9_waysToTake_76 : decode cX9_waysToTake 76 = .ok (.iaload, 1) := by decide +kernel
theorem dX9_waysToTake_77 : decode cX9_waysToTake 77 = .ok (.invokevirtual 426, 3) := by decide +kernel
theorem dX9_waysToTake_80 : decode cX9_waysToTake 80 = .ok (.ifCond .eq 7, 3) := by decide +kernel
theorem dX9_waysToTake_83 : decode cX9_waysToTake 83 = .ok (.iconst 0, 1) := by decide +kernel
theorem dX9_waysToTake_84 : decode cX9_waysToTake 84 = .ok (.goto 4, 3) := by decide +kernel
theorem dX9_waysToTake_87 : decode cX9_waysToTake 87 = .ok (.iconst 1, 1) := by decide +kernel
theorem dX9_waysToTake_88 : decode cX9_waysToTake 88 = .ok (.istore 7, 2) := by decide +kernel
theorem dX9_waysToTake_90 : decode cX9_waysToTake 90 = .ok (.iload 5, 2) := by decide +kernel
theorem dX9_waysToTake_92 : decode cX9_waysToTake 92 = .ok (.iload_n 2, 1) := by decide +kernel
theorem dX9_waysToTake_93 : decode cX9_waysToTake 93 = .ok (.if_icmp .gt 54, 3) := by decide +kernel
theorem dX9_waysToTake_96 : decode cX9_waysToTake 96 = .ok (.aload_n 0, 1) := by decide +kernel
theorem dX9_waysToTake_97 : decode cX9_waysToTake 97 = .ok (.getfield 25, 3) := by decide +kernel
theorem dX9_waysToTake_100 : decode cX9_waysToTake 100 = .ok (.iload 6, 2) := by decide +kernel
theorem dX9_waysToTake_102 : decode cX9_waysToTake 102 = .ok (.iload 4, 2) := by decide +kernel
theorem dX9_waysToTake_104 : decode cX9_waysToTake 104 = .ok (.aload_n 0, 1) := by decide +kernel
theorem dX9_waysToTake_105 : decode cX9_waysToTake 105 = .ok (.invokevirtual 401, 3) := by decide +kernel
theorem dX9_waysToTake_108 : decode cX9_waysToTake 108 = .ok (.invokevirtual 426, 3) := by decide +kernel
theorem dX9_waysToTake_111 : decode cX9_waysToTake 111 = .ok (.ifCond .eq 7, 3) := by decide +kernel
theorem dX9_waysToTake_114 : decode cX9_waysToTake 114 = .ok (.iconst 0, 1) := by decide +kernel
theorem dX9_waysToTake_115 : decode cX9_waysToTake 115 = .ok (.goto 4, 3) := by decide +kernel
theorem dX9_waysToTake_118 : decode cX9_waysToTake 118 = .ok (.iconst 1, 1) := by decide +kernel
theorem dX9_waysToTake_119 : decode cX9_waysToTake 119 = .ok (.istore 8, 2) := by decide +kernel
theorem dX9_waysToTake_121 : decode cX9_waysToTake 121 = .ok (.aload_n 0, 1) := by decide +kernel
theorem dX9_waysToTake_122 : decode cX9_waysToTake 122 = .ok (.getfield 82, 3) := by decide +kernel
theorem dX9_waysToTake_125 : decode cX9_waysToTake 125 = .ok (.iload 7, 2) := by decide +kernel
theorem dX9_waysToTake_127 : decode cX9_waysToTake 127 = .ok (.bipush 16, 2) := by decide +kernel
theorem dX9_waysToTake_129 : decode cX9_waysToTake 129 = .ok (.iload_n 1, 1) := by decide +kernel
theorem dX9_waysToTake_130 : decode cX9_waysToTake 130 = .ok (.isub, 1) := by decide +kernel
theorem dX9_waysToTake_131 : decode cX9_waysToTake 131 = .ok (.imul, 1) := by decide +kernel
theorem dX9_waysToTake_132 : decode cX9_waysToTake 132 = .ok (.iload 8, 2) := by decide +kernel
theorem dX9_waysToTake_134 : decode cX9_waysToTake 134 = .ok (.iload_n 1, 1) := by decide +kernel
theorem dX9_waysToTake_135 : decode cX9_waysToTake 135 = .ok (.imul, 1) := by decide +kernel
theorem dX9_waysToTake_136 : decode cX9_waysToTake 136 = .ok (.iadd, 1) := by decide +kernel
theorem dX9_waysToTake_137 : decode cX9_waysToTake 137 = .ok (.i2l, 1) := by decide +kernel
theorem dX9_waysToTake_138 : decode cX9_waysToTake 138 = .ok (.ldc2_w 430, 3) := by decide +kernel
theorem dX9_waysToTake_141 : decode cX9_waysToTake 141 = .ok (.invokevirtual 432, 3) := by decide +kernel
theorem dX9_waysToTake_144 : decode cX9_waysToTake 144 = .ok (.goto 14, 3) := by decide +kernel
theorem dX9_waysToTake_147 : decode cX9_waysToTake 147 = .ok (.aload_n 0, 1) := by decide +kernel
theorem dX9_waysToTake_148 : decode cX9_waysToTake 148 = .ok (.getfield 82, 3) := by decide +kernel
theorem dX9_waysToTake_151 : decode cX9_waysToTake 151 = .ok (.iload 7, 2) := by decide +kernel
theorem dX9_waysToTake_153 : decode cX9_waysToTake 153 = .ok (.i2l, 1) := by decide +kernel
theorem dX9_waysToTake_154 : decode cX9_waysToTake 154 = .ok (.lconst 1, 1) := by decide +kernel
theorem dX9_waysToTake_155 : decode cX9_waysToTake 155 = .ok (.invokevirtual 432, 3) := by decide +kernel
theorem dX9_waysToTake_158 : decode cX9_waysToTake 158 = .ok (.iinc 5 1, 3) := by decide +kernel
theorem dX9_waysToTake_161 : decode cX9_waysToTake 161 = .ok (.goto (-117), 3) := by decide +kernel
theorem dX9_waysToTake_164 : decode cX9_waysToTake 164 = .ok (.aload_n 0, 1) := by decide +kernel
theorem dX9_waysToTake_165 : decode cX9_waysToTake 165 = .ok (.getfield 82, 3) := by decide +kernel
theorem dX9_waysToTake_168 : decode cX9_waysToTake 168 = .ok (.invokevirtual 436, 3) := by decide +kernel
theorem dX9_waysToTake_171 : decode cX9_waysToTake 171 = .ok (.lreturn, 1) := by decide +kernel
theorem dX10_init_0 : decode cX10_init 0 = .ok (.aload_n 0, 1) := by decide +kernel
theorem dX10_init_1 : decode cX10_init 1 = .ok (.invokespecial 1, 3) := by decide +kernel
theorem dX10_init_4 : decode cX10_init 4 = .ok (.aload_n 0, 1) := by decide +kernel
theorem dX10_init_5 : decode cX10_init 5 = .ok (.iconst 3, 1) := by decide +kernel
theorem dX10_init_6 : decode cX10_init 6 = .ok (.newarray .int, 2) := by decide +kernel
theorem dX10_init_8 : decode cX10_init 8 = .ok (.putfield 7, 3) := by decide +kernel
theorem dX10_init_11 : decode cX10_init 11 = .ok (.aload_n 0, 1) := by decide +kernel
theorem dX10_init_12 : decode cX10_init 12 = .ok (.bipush 123, 2) := by decide +kernel
theorem dX10_init_14 : decode cX10_init 14 = .ok (.newarray .int, 2) := by decide +kernel
theorem dX10_init_16 : decode cX10_init 16 = .ok (.putfield 13, 3) := by decide +kernel
theorem dX10_init_19 : decode cX10_init 19 = .ok (.aload_n 0, 1) := by decide +kernel
theorem dX10_init_20 : decode cX10_init 20 = .ok (.bipush 37, 2) := by decide +kernel
theorem dX10_init_22 : decode cX10_init 22 = .ok (.newarray .int, 2) := by decide +kernel
theorem dX10_init_24 : decode cX10_init 24 = .ok (.putfield 16, 3) := by decide +kernel
theorem dX10_init_27 : decode cX10_init 27 = .ok (.aload_n 0, 1) := by decide +kernel
theorem dX10_init_28 : decode cX10_init 28 = .ok (.bipush 24, 2) := by decide +kernel
theorem dX10_init_30 : decode cX10_init 30 = .ok (.newarray .int, 2) := by decide +kernel
theorem dX10_init_32 : decode cX10_init 32 = .ok (.putfield 19, 3) := by decide +kernel
theorem dX10_init_35 : decode cX10_init 35 = .ok (.aload_n 0, 1) := by decide +kernel
theorem dX10_init_36 : decode cX10_init 36 = .ok (.bipush 9, 2) := by decide +kernel
theorem dX10_init_38 : decode cX10_init 38 = .ok (.newarray .int, 2) := by decide +kernel
theorem dX10_init_40 : decode cX10_init 40 = .ok (.putfield 22, 3) := by decide +kernel
theorem dX10_init_43 : decode cX10_init 43 = .ok (.aload_n 0, 1) := by decide +kernel
theorem dX10_init_44 : decode cX10_init 44 = .ok (.bipush 9, 2) := by decide +kernel
theorem dX10_init_46 : decode cX10_init 46 = .ok (.newarray .int, 2) := by decide +kernel
theorem dX10_init_48 : decode cX10_init 48 = .ok (.putfield 25, 3) := by decide +kernel
theorem dX10_init_51 : decode cX10_init 51 = .ok (.aload_n 0, 1) := by decide +kernel
theorem dX10_init_52 : decode cX10_init 52 = .ok (.bipush 24, 2) := by decide +kernel
theorem dX10_init_54 : decode cX10_init 54 = .ok (.newarray .int, 2) := by decide +kernel
theorem dX10_init_56 : decode cX10_init 56 = .ok (.putfield 28, 3) := by decide +kernel
theorem dX10_init_59 : decode cX10_init 59 = .ok (.aload_n 0, 1) := by decide +kernel
theorem dX10_init_60 : decode cX10_init 60 = .ok (.bipush 96, 2) := by decide +kernel
theorem dX10_init_62 : decode cX10_init 62 = .ok (.newarray .boolean, 2) := by decide +kernel
theorem dX10_init_64 : decode cX10_init 64 = .ok (.putfield 31, 3) := by decide +kernel
theorem dX10_init_67 : decode cX10_init 67 = .ok (.aload_n 0, 1) := by decide +kernel
theorem dX10_init_68 : decode cX10_init 68 = .ok (.bipush 97, 2) := by decide +kernel
theorem dX10_init_70 : decode cX10_init 70 = .ok (.newarray .int, 2) := by decide +kernel
theorem dX10_init_72 : decode cX10_init 72 = .ok (.putfield 35, 3) := by decide +kernel
theorem dX10_init_75 : decode cX10_init 75 = .ok (.aload_n 0, 1) := by decide +kernel
theorem dX10_init_76 : decode cX10_init 76 = .ok (.bipush 96, 2) := by decide +kernel
theorem dX10_init_78 : decode cX10_init 78 = .ok (.newarray .int, 2) := by decide +kernel
theorem dX10_init_80 : decode cX10_init 80 = .ok (.putfield 38, 3) := by decide +kernel
theorem dX10_init_83 : decode cX10_init 83 = .ok (.aload_n 0, 1) := by decide +kernel
theorem dX10_init_84 : decode cX10_init 84 = .ok (.bipush 96, 2) := by decide +kernel
theorem dX10_init_86 : decode cX10_init 86 = .ok (.newarray .int, 2) := by decide +kernel
theorem dX10_init_88 : decode cX10_init 88 = .ok (.putfield 41, 3) := by decide +kernel
theorem dX10_init_91 : decode cX10_init 91 = .ok (.aload_n 0, 1) := by decide +kernel
theorem dX10_init_92 : decode cX10_init 92 = .ok (.iconst 2, 1) := by decide +kernel
theorem dX10_init_93 : decode cX10_init 93 = .ok (.newarray .int, 2) := by decide +kernel
theorem dX10_init_95 : decode cX10_init 95 = .ok (.putfield 44, 3) := by decide +kernel
theorem dX10_init_98 : decode cX10_init 98 = .ok (.aload_n 0, 1) := by decide +kernel
theorem dX10_init_99 : decode cX10_init 99 = .ok (.bipush 8, 2) := by decide +kernel
theorem dX10_init_101 : decode cX10_init 101 = .ok (.newarray .int, 2) := by decide +kernel
theorem dX10_init_103 : decode cX10_init 103 = .ok (.putfield 47, 3) := by decide +kernel
theorem dX10_init_106 : decode cX10_init 106 = .ok (.aload_n 0, 1) := by decide +kernel
theorem dX10_init_107 : decode cX10_init 107 = .ok (.bipush 8, 2) := by decide +kernel
theorem dX10_init_109 : decode cX10_init 109 = .ok (.newarray .int, 2) := by decide +kernel
theorem dX10_init_111 : decode cX10_init 111 = .ok (.putfield 50, 3) := by decide +kernel
theorem dX10_init_114 : decode cX10_init 114 = .ok (.aload_n 0, 1) := by decide +kernel
theorem dX10_init_115 : decode cX10_init 115 = .ok (.bipush 36, 2) := by decide +kernel
theorem dX10_init_117 : decode cX10_init 117 = .ok (.newarray .int, 2) := by decide +kernel
theorem dX10_init_119 : decode cX10_init 119 = .ok (.putfield 53, 3) := by decide +kernel
theorem dX10_init_122 : decode cX10_init 122 = .ok (.aload_n 0, 1) := by decide +kernel
theorem dX10_init_123 : decode cX10_init 123 = .ok (.iconst 4, 1) := by decide +kernel
theorem dX10_init_124 : decode cX10_init 124 = .ok (.newarray .boolean, 2) := by decide +kernel
theorem dX10_init_126 : decode cX10_init 126 = .ok (.putfield 56, 3) := by decide +kernel
theorem dX10_init_129 : decode cX10_init 129 = .ok (.aload_n 0, 1) := by decide +kernel
theorem dX10_init_130 : decode cX10_init 130 = .ok (.iconst 4, 1) := by decide +kernel
theorem dX10_init_131 : decode cX10_init 131 = .ok (.newarray .int, 2) := by decide +kernel
theorem dX10_init_133 : decode cX10_init 133 = .ok (.putfield 59, 3) := by decide +kernel
theorem dX10_init_136 : decode cX10_init 136 = .ok (.aload_n 0, 1) := by decide +kernel
theorem dX10_init_137 : decode cX10_init 137 = .ok (.iconst 4, 1) := by decide +kernel
theorem dX10_init_138 : decode cX10_init 138 = .ok (.newarray .int, 2) := by decide +kernel
theorem dX10_init_140 : decode cX10_init 140 = .ok (.putfield 62, 3) := by decide +kernel
theorem dX10_init_143 : decode cX10_init 143 = .ok (.aload_n 0, 1) := by decide +kernel
theorem dX10_init_144 : decode cX10_init 144 = .ok (.sipush 240, 3) := by decide +kernel
theorem dX10_init_147 : decode cX10_init 147 = .ok (.newarray .int, 2) := by decide +kernel
theorem dX10_init_149 : decode cX10_init 149 = .ok (.putfield 65, 3) := by decide +kernel
theorem dX10_init_152 : decode cX10_init 152 = .ok (.aload_n 0, 1) := by decide +kernel
theorem dX10_init_153 : decode cX10_init 153 = .ok (.bipush 60, 2) := by decide +kernel
theorem dX10_init_155 : decode cX10_init 155 = .ok (.newarray .int, 2) := by decide +kernel
theorem dX10_init_157 : decode cX10_init 157 = .ok (.putfield 68, 3) := by decide +kernel
theorem dX10_init_160 : decode cX10_init 160 = .ok (.aload_n 0, 1) := by decide +kernel
theorem dX10_init_161 : decode cX10_init 161 = .ok (.iconst 5, 1) := by decide +kernel
theorem dX10_init_162 : decode cX10_init 162 = .ok (.putfield 71, 3) := by decide +kernel
theorem dX10_init_165 : decode cX10_init 165 = .ok (.aload_n 0, 1) := by decide +kernel
theorem dX10_init_166 : decode cX10_init 166 = .ok (.iconst 3, 1) := by decide +kernel
theorem dX10_init_167 : decode cX10_init 167 = .ok (.putfield 75, 3) := by decide +kernel
theorem dX10_init_170 : decode cX10_init 170 = .ok (.return_, 1) := by decide +kernel
theorem dX10_in_0 : decode cX10_in 0 = .ok (.iload_n 0, 1) := by decide +kernel
theorem dX10_in_1 : decode cX10_in 1 = .ok (.iload_n 1, 1) := by decide +kernel
theorem dX10_in_2 : decode cX10_in 2 = .ok (.if_icmp .lt 12, 3) := by decide +kernel
theorem dX10_in_5 : decode cX10_in 5 = .ok (.iload_n 0, 1) := by decide +kernel
theorem dX10_in_6 : decode cX10_in 6 = .ok (.iload_n 2, 1) := by decide +kernel
theorem dX10_in_7 : decode cX10_in 7 = .ok (.if_icmp .gt 7, 3) := by decide +kernel
theorem dX10_in_10 : decode cX10_in 10 = .ok (.iconst 1, 1) := by decide +kernel
theorem dX10_in_11 : decode cX10_in 11 = .ok (.goto 4, 3) := by decide +kernel
theorem dX10_in_14 : decode cX10_in 14 = .ok (.iconst 0, 1) := by decide +kernel
theorem dX10_in_15 : decode cX10_in 15 = .ok (.ireturn, 1) := by decide +kernel
theorem dX10_isIn_0 : decode cX10_isIn 0 = .ok (.iload_n 0, 1) := by decide +kernel
theorem dX10_isIn_1 : decode cX10_isIn 1 = .ok (.iload_n 1, 1) := by decide +kernel
theorem dX10_isIn_2 : decode cX10_isIn 2 = .ok (.ishr, 1) := by decide +kernel
theorem dX10_isIn_3 : decode cX10_isIn 3 = .ok (.iconst 1, 1) := by decide +kernel
theorem dX10_isIn_4 : decode cX10_isIn 4 = .ok (.iand, 1) := by decide +kernel
theorem dX10_isIn_5 : decode cX10_isIn 5 = .ok (.iconst 1, 1) := by decide +kernel
theorem dX10_isIn_6 : decode cX10_isIn 6 = .ok (.if_icmp .ne 7, 3) := by decide +kernel
theorem dX10_isIn_9 : decode cX10_isIn 9 = .ok (.iconst 1, 1) := by decide +kernel
theorem dX10_isIn_10 : decode cX10_isIn 10 = .ok (.goto 4, 3) := by decide +kernel
theorem dX10_isIn_13 : decode cX10_isIn 13 = .ok (.iconst 0, 1) := by decide +kernel
theorem dX10_isIn_14 : decode cX10_isIn 14 = .ok (.ireturn, 1) := by decide +kernel
theorem dX10_no_0 : decode cX10_no 0 = .ok (.ldc2_w 78, 3) := by decide +kernel
theorem dX10_no_3 : decode cX10_no 3 = .ok (.iload_n 0, 1) := by decide +kernel
theorem dX10_no_4 : decode cX10_no 4 = .ok (.i2l, 1) := by decide +kernel
theorem dX10_no_5 : decode cX10_no 5 = .ok (.lsub, 1) := by decide +kernel
theorem dX10_no_6 : decode cX10_no 6 = .ok (.lreturn, 1) := by decide +kernel
theorem dX10_lowest_0 : decode cX10_lowest 0 = .ok (.lload_n 0, 1) := by decide +kernel
theorem dX10_lowest_1 : decode cX10_lowest 1 = .ok (.lstore 5, 2) := by decide +kernel
theorem dX10_lowest_3 : decode cX10_lowest 3 = .ok (.lload_n 2, 1) := by decide +kernel
theorem dX10_lowest_4 : decode cX10_lowest 4 = .ok (.lstore 7, 2) := by decide +kernel
theorem dX10_lowest_6 : decode cX10_lowest 6 = .ok (.lload 7, 2) := by decide +kernel
theorem dX10_lowest_8 : decode cX10_lowest 8 = .ok (.lconst 0, 1) := by decide +kernel
theorem dX10_lowest_9 : decode cX10_lowest 9 = .ok (.lcmp, 1) := by decide +kernel
theorem dX10_lowest_10 : decode cX10_lowest 10 = .ok (.ifCond .eq 21, 3) := by decide +kernel
theorem dX10_lowest_13 : decode cX10_lowest 13 = .ok (.lload 5, 2) := by decide +kernel
theorem dX10_lowest_15 : decode cX10_lowest 15 = .ok (.lload 7, 2) := by decide +kernel
theorem dX10_lowest_17 : decode cX10_lowest 17 = .ok (.lrem, 1) := by decide +kernel
theorem dX10_lowest_18 : decode cX10_lowest 18 = .ok (.lstore 9, 2) := by decide +kernel
theorem dX10_lowest_20 : decode cX10_lowest 20 = .ok (.lload 7, 2) := by decide +kernel
theorem dX10_lowest_22 : decode cX10_lowest 22 = .ok (.lstore 5, 2) := by decide +kernel
theorem dX10_lowest_24 : decode cX10_lowest 24 = .ok (.lload 9, 2) := by decide +kernel
theorem dX10_lowest_26 : decode cX10_lowest 26 = .ok (.lstore 7, 2) := by decide +kernel
theorem dX10_lowest_28 : decode cX10_lowest 28 = .ok (.goto (-22), 3) := by decide +kernel
theorem dX10_lowest_31 : decode cX10_lowest 31 = .ok (.iload 4, 2) := by decide +kernel
theorem dX10_lowest_33 : decode cX10_lowest 33 = .ok (.ifCond .ne 10, 3) := by decide +kernel
theorem dX10_lowest_36 : decode cX10_lowest 36 = .ok (.lload_n 0, 1) := by decide +kernel
theorem dX10_lowest_37 : decode cX10_lowest 37 = .ok (.lload 5, 2) := by decide +kernel
theorem dX10_lowest_39 : decode cX10_lowest 39 = .ok (.ldiv, 1) := by decide +kernel
theorem dX10_lowest_40 : decode cX10_lowest 40 = .ok (.goto 7, 3) := by decide +kernel
theorem dX10_lowest_43 : decode cX10_lowest 43 = .ok (.lload_n 2, 1) := by decide +kernel
theorem dX10_lowest_44 : decode cX10_lowest 44 = .ok (.lload 5, 2) := by decide +kernel
theorem dX10_lowest_46 : decode cX10_lowest 46 = .ok (.ldiv, 1) := by decide +kernel
theorem dX10_lowest_47 : decode cX10_lowest 47 = .ok (.lreturn, 1) := by decide +kernel
set_option maxRecDepth 20000 in
theorem ggX10_isText_X10_in : GoodIn wsX10_isText wsX10_in := qw_e qk_X10_isText qk_X10_in (by decide +kernel)
set_option maxRecDepth 20000 in
theorem gX10_isText_X10_in : GoodIn wsX10_isText (va_wsS RX10 80 yX10_in wsX10_in) := goodIn_app (qw_e qk_X10_isText (QK_cons qw_779 (QK_cons qw_780 (QK_cons qw_996 QK_nil))) (by decide +kernel)) ggX10_isText_X10_in
theorem dX10_isText_0 : decode cX10_isText 0 = .ok (.iload_n 0, 1) := by decide +kernel
theorem dX10_isText_1 : decode cX10_isText 1 = .ok (.iconst 0, 1) := by decide +kernel
theorem dX10_isText_2 : decode cX10_isText 2 = .ok (.iconst 2, 1) := by decide +kernel
theorem dX10_isText_3 : decode cX10_isText 3 = .ok (.invokestatic 80, 3) := by decide +kernel
theorem dX10_isText_6 : decode cX10_isText 6 = .ok (.ireturn, 1) := by decide +kernel
set_option maxRecDepth 20000 in
theorem ggX10_isNumber_X10_in : GoodIn wsX10_isNumber wsX10_in := qw_e qk_X10_isNumber qk_X10_in (by decide +kernel)
set_option maxRecDepth 20000 in
theorem gX10_isNumber_X10_in : GoodIn wsX10_isNumber (va_wsS RX10 80 yX10_in wsX10_in) := goodIn_app (qw_e qk_X10_isNumber (QK_cons qw_779 (QK_cons qw_780 (QK_cons qw_996 QK_nil))) (by decide +kernel)) ggX10_isNumber_X10_in
theorem dX10_isNumber_0 : decode cX10_isNumber 0 = .ok (.iload_n 0, 1) := by decide +kernel
theorem dX10_isNumber_1 : decode cX10_isNumber 1 = .ok (.iconst 0, 1) := by decide +kernel
theorem dX10_isNumber_2 : decode cX10_isNumber 2 = .ok (.bipush 95, 2) := by decide +kernel
theorem dX10_isNumber_4 : decode cX10_isNumber 4 = .ok (.invokestatic 80, 3) := by decide +kernel
theorem dX10_isNumber_7 : decode cX10_isNumber 7 = .ok (.ireturn, 1) := by decide +kernel
set_option maxRecDepth 20000 in
theorem ggX10_type_X10_isText : GoodIn wsX10_type wsX10_isText := qw_e qk_X10_type qk_X10_isText (by decide +kernel)
set_option maxRecDepth 20000 in
theorem gX10_type_X10_isText : GoodIn wsX10_type (va_wsS RX10 84 yX10_isText wsX10_isText) := goodIn_app (qw_e qk_X10_type (QK_cons qw_776 (QK_cons qw_777 (QK_cons qw_996 QK_nil))) (by decide +kernel)) ggX10_type_X10_isText
set_option maxRecDepth 20000 in
theorem ggX10_type_X10_in : GoodIn wsX10_type wsX10_in := qw_e qk_X10_type qk_X10_in (by decide +kernel)
set_option maxRecDepth 20000 in
theorem gX10_type_X10_in : GoodIn wsX10_type (va_wsS RX10 80 yX10_in wsX10_in) := goodIn_app (qw_e qk_X10_type (QK_cons qw_779 (QK_cons qw_780 (QK_cons qw_996 QK_nil))) (by decide +kernel)) ggX10_type_X10_in
theorem dX10_type_0 : decode cX10_type 0 = .ok (.iload_n 1, 1) := by decide +kernel
theorem dX10_type_1 : decode cX10_type 1 = .ok (.invokestatic 84, 3) := by decide +kernel
theorem dX10_type_4 : decode cX10_type 4 = .ok (.ifCond .eq 14, 3) := by decide +kernel
theorem dX10_type_7 : decode cX10_type 7 = .ok (.iload_n 2, 1) := by decide +kernel
theorem dX10_type_8 : decode cX10_type 8 = .ok (.iconst 0, 1) := by decide +kernel
theorem dX10_type_9 : decode cX10_type 9 = .ok (.sipush 255, 3) := by decide +kernel
theorem dX10_type_12 : decode cX10_type 12 = .ok (.invokestatic 80, 3) := by decide +kernel
theorem dX10_type_15 : decode cX10_type 15 = .ok (.ifCond .ne 6, 3) := by decide +kernel
theorem dX10_type_18 : decode cX10_type 18 = .ok (.bipush (-2), 2) := by decide +kernel
theorem dX10_type_20 : decode cX10_type 20 = .ok (.ireturn, 1) := by decide +kernel
theorem dX10_type_21 : decode cX10_type 21 = .ok (.aload_n 0, 1) := by decide +kernel
theorem dX10_type_22 : decode cX10_type 22 = .ok (.getfield 7, 3) := by decide +kernel
theorem dX10_type_25 : decode cX10_type 25 = .ok (.iload_n 1, 1) := by decide +kernel
theorem dX10_type_26 : decode cX10_type 26 = .ok (.iaload, 1) := by decide +kernel
theorem dX10_type_27 : decode cX10_type 27 = .ok (.iload_n 1, 1) := by decide +kernel
theorem dX10_type_28 : decode cX10_type 28 = .ok (.ifCond .ne 8, 3) := by decide +kernel
theorem dX10_type_31 : decode cX10_type 31 = .ok (.bipush 41, 2) := by decide +kernel
theorem dX10_type_33 : decode cX10_type 33 = .ok (.goto 15, 3) := by decide +kernel
theorem dX10_type_36 : decode cX10_type 36 = .ok (.iload_n 1, 1) := by decide +kernel
theorem dX10_type_37 : decode cX10_type 37 = .ok (.iconst 1, 1) := by decide +kernel
theorem dX10_type_38 : decode cX10_type 38 = .ok (.if_icmp .ne 8, 3) := by decide +kernel
theorem dX10_type_41 : decode cX10_type 41 = .ok (.bipush 24, 2) := by decide +kernel
theorem dX10_type_43 : decode cX10_type 43 = .ok (.goto 5, 3) := by decide +kernel
theorem dX10_type_46 : decode cX10_type 46 = .ok (.bipush 31, 2) := by decide +kernel
theorem dX10_type_48 : decode cX10_type 48 = .ok (.if_icmp .ne 6, 3) := by decide +kernel
theorem dX10_type_51 : decode cX10_type 51 = .ok (.bipush (-4), 2) := by decide +kernel
theorem dX10_type_53 : decode cX10_type 53 = .ok (.ireturn, 1) := by decide +kernel
theorem dX10_type_54 : decode cX10_type 54 = .ok (.aload_n 0, 1) := by decide +kernel
theorem dX10_type_55 : decode cX10_type 55 = .ok (.getfield 13, 3) := by decide +kernel
theorem dX10_type_58 : decode cX10_type 58 = .ok (.bipush 41, 2) := by decide +kernel
theorem dX10_type_60 : decode cX10_type 60 = .ok (.iload_n 1, 1) := by decide +kernel
theorem dX10_type_61 : decode cX10_type 61 = .ok (.imul, 1) := by decide +kernel
theorem dX10_type_62 : decode cX10_type 62 = .ok (.aload_n 0, 1) := by decide +kernel
theorem dX10_type_63 : decode cX10_type 63 = .ok (.getfield 7, 3) := by decide +kernel
theorem dX10_type_66 : decode cX10_type 66 = .ok (.iload_n 1, 1) := by decide +kernel
theorem dX10_type_67 : decode cX10_type 67 = .ok (.iaload, 1) := by decide +kernel
theorem dX10_type_68 : decode cX10_type 68 = .ok (.iadd, 1) := by decide +kernel
theorem dX10_type_69 : decode cX10_type 69 = .ok (.iload_n 2, 1) := by decide +kernel
theorem dX10_type_70 : decode cX10_type 70 = .ok (.iastore, 1) := by decide +kernel
theorem dX10_type_71 : decode cX10_type 71 = .ok (.aload_n 0, 1) := by decide +kernel
theorem dX10_type_72 : decode cX10_type 72 = .ok (.getfield 7, 3) := by decide +kernel
theorem dX10_type_75 : decode cX10_type 75 = .ok (.iload_n 1, 1) := by decide +kernel
theorem dX10_type_76 : decode cX10_type 76 = .ok (.dup2, 1) := by decide +kernel
theorem dX10_type_77 : decode cX10_type 77 = .ok (.iaload, 1) := by decide +kernel
theorem dX10_type_78 : decode cX10_type 78 = .ok (.iconst 1, 1) := by decide +kernel
theorem dX10_type_79 : decode cX10_type 79 = .ok (.iadd, 1) := by decide +kernel
theorem dX10_type_80 : decode cX10_type 80 = .ok (.iastore, 1) := by decide +kernel
theorem dX10_type_81 : decode cX10_type 81 = .ok (.aload_n 0, 1) := by decide +kernel
theorem dX10_type_82 : decode cX10_type 82 = .ok (.getfield 7, 3) := by decide +kernel
theorem dX10_type_85 : decode cX10_type 85 = .ok (.iload_n 1, 1) := by decide +kernel
theorem dX10_type_86 : decode cX10_type 86 = .ok (.iaload, 1) := by decide +kernel
theorem dX10_type_87 : decode cX10_type 87 = .ok (.ireturn, 1) := by decide +kernel
set_option maxRecDepth 20000 in
theorem ggX10_wipe_X10_isText : GoodIn wsX10_wipe wsX10_isText := qw_e qk_X10_wipe qk_X10_isText (by decide +kernel)
set_option maxRecDepth 20000 in
theorem gX10_wipe_X10_isText : GoodIn wsX10_wipe (va_wsS RX10 84 yX10_isText wsX10_isText) := goodIn_app (qw_e qk_X10_wipe (QK_cons qw_776 (QK_cons qw_777 (QK_cons qw_996 QK_nil))) (by decide +kernel)) ggX10_wipe_X10_isText
theorem dX10_wipe_0 : decode cX10_wipe 0 = .ok (.iload_n 1, 1) := by decide +kernel
theorem dX10_wipe_1 : decode cX10_wipe 1 = .ok (.invokestatic 84, 3) := by decide +kernel
theorem dX10_wipe_4 : decode cX10_wipe 4 = .ok (.ifCond .ne 6, 3) := by decide +kernel
theorem dX10_wipe_7 : decode cX10_wipe 7 = .ok (.bipush (-2), 2) := by decide +kernel
theorem dX10_wipe_9 : decode cX10_wipe 9 = .ok (.ireturn, 1) := by decide +kernel
theorem dX10_wipe_10 : decode cX10_wipe 10 = .ok (.aload_n 0, 1) := by decide +kernel
theorem dX10_wipe_11 : decode cX10_wipe 11 = .ok (.getfield 7, 3) := by decide +kernel
theorem dX10_wipe_14 : decode cX10_wipe 14 = .ok (.iload_n 1, 1) := by decide +kernel
theorem dX10_wipe_15 : decode cX10_wipe 15 = .ok (.iaload, 1) := by decide +kernel
theorem dX10_wipe_16 : decode cX10_wipe 16 = .ok (.istore_n 2, 1) := by decide +kernel
theorem dX10_wipe_17 : decode cX10_wipe 17 = .ok (.aload_n 0, 1) := by decide +kernel
theorem dX10_wipe_18 : decode cX10_wipe 18 = .ok (.getfield 7, 3) := by decide +kernel
theorem dX10_wipe_21 : decode cX10_wipe 21 = .ok (.iload_n 1, 1) := by decide +kernel
theorem dX10_wipe_22 : decode cX10_wipe 22 = .ok (.iconst 0, 1) := by decide +kernel
theorem dX10_wipe_23 : decode cX10_wipe 23 = .ok (.iastore, 1) := by decide +kernel
theorem dX10_wipe_24 : decode cX10_wipe 24 = .ok (.iload_n 2, 1) := by decide +kernel
theorem dX10_wipe_25 : decode cX10_wipe 25 = .ok (.ireturn, 1) := by decide +kernel
set_option maxRecDepth 20000 in
theorem ggX10_undo_X10_isText : GoodIn wsX10_undo wsX10_isText := qw_e qk_X10_undo qk_X10_isText (by decide +kernel)
set_option maxRecDepth 20000 in
theorem gX10_undo_X10_isText : GoodIn wsX10_undo (va_wsS RX10 84 yX10_isText wsX10_isText) := goodIn_app (qw_e qk_X10_undo (QK_cons qw_776 (QK_cons qw_777 (QK_cons qw_996 QK_nil))) (by decide +kernel)) ggX10_undo_X10_isText
theorem dX10_undo_0 : decode cX10_undo 0 = .ok (.iload_n 1, 1) := by decide +kernel
theorem dX10_undo_1 : decode cX10_undo 1 = .ok (.invokestatic 84, 3) := by decide +kernel
theorem dX10_undo_4 : decode cX10_undo 4 = .ok (.ifCond .ne 6, 3) := by decide +kernel
theorem dX10_undo_7 : decode cX10_undo 7 = .ok (.bipush (-2), 2) := by decide +kernel
theorem dX10_undo_9 : decode cX10_undo 9 = .ok (.ireturn, 1) := by decide +kernel
theorem dX10_undo_10 : decode cX10_undo 10 = .ok (.aload_n 0, 1) := by decide +kernel
theorem dX10_undo_11 : decode cX10_undo 11 = .ok (.getfield 7, 3) := by decide +kernel
theorem dX10_undo_14 : decode cX10_undo 14 = .ok (.iload_n 1, 1) := by decide +kernel
theorem dX10_undo_15 : decode cX10_undo 15 = .ok (.iaload, 1) := by decide +kernel
theorem dX10_undo_16 : decode cX10_undo 16 = .ok (.ifCond .ne 6, 3) := by decide +kernel
theorem dX10_undo_19 : decode cX10_undo 19 = .ok (.bipush (-3), 2) := by decide +kernel
theorem dX10_undo_21 : decode cX10_undo 21 = .ok (.ireturn, 1) := by decide +kernel
theorem dX10_undo_22 : decode cX10_undo 22 = .ok (.aload_n 0, 1) := by decide +kernel
theorem dX10_undo_23 : decode cX10_undo 23 = .ok (.getfield 7, 3) := by decide +kernel
theorem dX10_undo_26 : decode cX10_undo 26 = .ok (.iload_n 1, 1) := by decide +kernel
theorem dX10_undo_27 : decode cX10_undo 27 = .ok (.dup2, 1) := by decide +kernel
theorem dX10_undo_28 : decode cX10_undo 28 = .ok (.iaload, 1) := by decide +kernel
theorem dX10_undo_29 : decode cX10_undo 29 = .ok (.iconst 1, 1) := by decide +kernel
theorem dX10_undo_30 : decode cX10_undo 30 = .ok (.isub, 1) := by decide +kernel
theorem dX10_undo_31 : decode cX10_undo 31 = .ok (.iastore, 1) := by decide +kernel
theorem dX10_undo_32 : decode cX10_undo 32 = .ok (.aload_n 0, 1) := by decide +kernel
theorem dX10_undo_33 : decode cX10_undo 33 = .ok (.getfield 7, 3) := by decide +kernel
theorem dX10_undo_36 : decode cX10_undo 36 = .ok (.iload_n 1, 1) := by decide +kernel
theorem dX10_undo_37 : decode cX10_undo 37 = .ok (.iaload, 1) := by decide +kernel
theorem dX10_undo_38 : decode cX10_undo 38 = .ok (.ireturn, 1) := by decide +kernel
theorem dX10_kindOf_0 : decode cX10_kindOf 0 = .ok (.iload_n 0, 1) := by decide +kernel
theorem dX10_kindOf_1 : decode cX10_kindOf 1 = .ok (.bipush 46, 2) := by decide +kernel
theorem dX10_kindOf_3 : decode cX10_kindOf 3 = .ok (.if_icmp .ne 7, 3) := by decide +kernel
theorem dX10_kindOf_6 : decode cX10_kindOf 6 = .ok (.iconst 0, 1) := by decide +kernel
theorem dX10_kindOf_7 : decode cX10_kindOf 7 = .ok (.goto 44, 3) := by decide +kernel
theorem dX10_kindOf_10 : decode cX10_kindOf 10 = .ok (.iload_n 0, 1) := by decide +kernel
theorem dX10_kindOf_11 : decode cX10_kindOf 11 = .ok (.bipush 35, 2) := by decide +kernel
theorem dX10_kindOf_13 : decode cX10_kindOf 13 = .ok (.if_icmp .ne 7, 3) := by decide +kernel
theorem dX10_kindOf_16 : decode cX10_kindOf 16 = .ok (.iconst 1, 1) := by decide +kernel
theorem dX10_kindOf_17 : decode cX10_kindOf 17 = .ok (.goto 34, 3) := by decide +kernel
theorem dX10_kindOf_20 : decode cX10_kindOf 20 = .ok (.iload_n 0, 1) := by decide +kernel
theorem dX10_kindOf_21 : decode cX10_kindOf 21 = .ok (.bipush 115, 2) := by decide +kernel
theorem dX10_kindOf_23 : decode cX10_kindOf 23 = .ok (.if_icmp .ne 7, 3) := by decide +kernel
theorem dX10_kindOf_26 : decode cX10_kindOf 26 = .ok (.iconst 2, 1) := by decide +kernel
theorem dX10_kindOf_27 : decode cX10_kindOf 27 = .ok (.goto 24, 3) := by decide +kernel
theorem dX10_kindOf_30 : decode cX10_kindOf 30 = .ok (.iload_n 0, 1) := by decide +kernel
theorem dX10_kindOf_31 : decode cX10_kindOf 31 = .ok (.bipush 108, 2) := by decide +kernel
theorem dX10_kindOf_33 : decode cX10_kindOf 33 = .ok (.if_icmp .ne 7, 3) := by decide +kernel
theorem dX10_kindOf_36 : decode cX10_kindOf 36 = .ok (.iconst 3, 1) := by decide +kernel
theorem dX10_kindOf_37 : decode cX10_kindOf 37 = .ok (.goto 14, 3) := by decide +kernel
theorem dX10_kindOf_40 : decode cX10_kindOf 40 = .ok (.iload_n 0, 1) := by decide +kernel
theorem dX10_kindOf_41 : decode cX10_kindOf 41 = .ok (.bipush 100, 2) := by decide +kernel
theorem dX10_kindOf_43 : decode cX10_kindOf 43 = .ok (.if_icmp .ne 7, 3) := by decide +kernel
theorem dX10_kindOf_46 : decode cX10_kindOf 46 = .ok (.iconst 4, 1) := by decide +kernel
theorem dX10_kindOf_47 : decode cX10_kindOf 47 = .ok (.goto 4, 3) := by decide +kernel
theorem dX10_kindOf_50 : decode cX10_kindOf 50 = .ok (.iconst (-1), 1) := by decide +kernel
theorem dX10_kindOf_51 : decode cX10_kindOf 51 = .ok (.ireturn, 1) := by decide +kernel
set_option maxRecDepth 20000 in
theorem ggX10_readsWard_X10_kindOf : GoodIn wsX10_readsWard wsX10_kindOf := qw_e qk_X10_readsWard qk_X10_kindOf (by decide +kernel)
set_option maxRecDepth 20000 in
theorem gX10_readsWard_X10_kindOf : GoodIn wsX10_readsWard (va_wsS RX10 97 yX10_kindOf wsX10_kindOf) := goodIn_app (qw_e qk_X10_readsWard (QK_cons qw_769 (QK_cons qw_770 (QK_cons qw_996 QK_nil))) (by decide +kernel)) ggX10_readsWard_X10_kindOf
theorem dX10_readsWard_0 : decode cX10_readsWard 0 = .ok (.iconst 0, 1) := by decide +kernel
theorem dX10_readsWard_1 : decode cX10_readsWard 1 = .ok (.istore_n 1, 1) := by decide +kernel
theorem dX10_readsWard_2 : decode cX10_readsWard 2 = .ok (.iconst 0, 1) := by decide +kernel
theorem dX10_readsWard_3 : decode cX10_readsWard 3 = .ok (.istore_n 2, 1) := by decide +kernel
theorem dX10_readsWard_4 : decode cX10_readsWard 4 = .ok (.iconst 0, 1) := by decide +kernel
theorem dX10_readsWard_5 : decode cX10_readsWard 5 = .ok (.istore_n 3, 1) := by decide +kernel
theorem dX10_readsWard_6 : decode cX10_readsWard 6 = .ok (.aload_n 0, 1) := by decide +kernel
theorem dX10_readsWard_7 : decode cX10_readsWard 7 = .ok (.iconst 0, 1) := by decide +kernel
theorem dX10_readsWard_8 : decode cX10_readsWard 8 = .ok (.putfield 88, 3) := by decide +kernel
theorem dX10_readsWard_11 : decode cX10_readsWard 11 = .ok (.aload_n 0, 1) := by decide +kernel
theorem dX10_readsWard_12 : decode cX10_readsWard 12 = .ok (.iconst 0, 1) := by decide +kernel
theorem dX10_readsWard_13 : decode cX10_readsWard 13 = .ok (.putfield 91, 3) := by decide +kernel
theorem dX10_readsWard_16 : decode cX10_readsWard 16 = .ok (.aload_n 0, 1) := by decide +kernel
theorem dX10_readsWard_17 : decode cX10_readsWard 17 = .ok (.bipush 6, 2) := by decide +kernel
theorem dX10_readsWard_19 : decode cX10_readsWard 19 = .ok (.putfield 94, 3) := by decide +kernel
theorem dX10_readsWard_22 : decode cX10_readsWard 22 = .ok (.iconst 0, 1) := by decide +kernel
theorem dX10_readsWard_23 : decode cX10_readsWard 23 = .ok (.istore 4, 2) := by decide +kernel
theorem dX10_readsWard_25 : decode cX10_readsWard 25 = .ok (.iload 4, 2) := by decide +kernel
theorem dX10_readsWard_27 : decode cX10_readsWard 27 = .ok (.aload_n 0, 1) := by decide +kernel
theorem dX10_readsWard_28 : decode cX10_readsWard 28 = .ok (.getfield 7, 3) := by decide +kernel
theorem dX10_readsWard_31 : decode cX10_readsWard 31 = .ok (.iconst 0, 1) := by decide +kernel
theorem dX10_readsWard_32 : decode cX10_readsWard 32 = .ok (.iaload, 1) := by decide +kernel
theorem dX10_readsWard_33 : decode cX10_readsWard 33 = .ok (.if_icmp .ge 116, 3) := by decide +kernel
theorem dX10_readsWard_36 : decode cX10_readsWard 36 = .ok (.iload_n 1, 1) := by decide +kernel
theorem dX10_readsWard_37 : decode cX10_readsWard 37 = .ok (.bipush 6, 2) := by decide +kernel
theorem dX10_readsWard_39 : decode cX10_readsWard 39 = .ok (.if_icmp .ne 6, 3) := by decide +kernel
theorem dX10_readsWard_42 : decode cX10_readsWard 42 = .ok (.iload 4, 2) := by decide +kernel
theorem dX10_readsWard_44 : decode cX10_readsWard 44 = .ok (.ireturn, 1) := by decide +kernel
theorem dX10_readsWard_45 : decode cX10_readsWard 45 = .ok (.aload_n 0, 1) := by decide +kernel
theorem dX10_readsWard_46 : decode cX10_readsWard 46 = .ok (.getfield 13, 3) := by decide +kernel
theorem dX10_readsWard_49 : decode cX10_readsWard 49 = .ok (.iload 4, 2) := by decide +kernel
theorem dX10_readsWard_51 : decode cX10_readsWard 51 = .ok (.iaload, 1) := by decide +kernel
theorem dX10_readsWard_52 : decode cX10_readsWard 52 = .ok (.bipush 59, 2) := by decide +kernel
theorem dX10_readsWard_54 : decode cX10_readsWard 54 = .ok (.if_icmp .ne 46, 3) := by decide +kernel
theorem dX10_readsWard_57 : decode cX10_readsWard 57 = .ok (.iload_n 2, 1) := by decide +kernel
theorem dX10_readsWard_58 : decode cX10_readsWard 58 = .ok (.ifCond .eq 15, 3) := by decide +kernel
theorem dX10_readsWard_61 : decode cX10_readsWard 61 = .ok (.iload_n 1, 1) := by decide +kernel
theorem dX10_readsWard_62 : decode cX10_readsWard 62 = .ok (.ifCond .le 14, 3) := by decide +kernel
theorem dX10_readsWard_65 : decode cX10_readsWard 65 = .ok (.iload_n 2, 1) := by decide +kernel
theorem dX10_readsWard_66 : decode cX10_readsWard 66 = .ok (.aload_n 0, 1) := by decide +kernel
theorem dX10_readsWard_67 : decode cX10_readsWard 67 = .ok (.getfield 94, 3) := by decide +kernel
theorem dX10_readsWard_70 : decode cX10_readsWard 70 = .ok (.if_icmp .ge 6, 3) := by decide +kernel
theorem dX10_readsWard_73 : decode cX10_readsWard 73 = .ok (.iload 4, 2) := by decide +kernel
theorem dX10_readsWard_75 : decode cX10_readsWard 75 = .ok (.ireturn, 1) := by decide +kernel
theorem dX10_readsWard_76 : decode cX10_readsWard 76 = .ok (.aload_n 0, 1) := by decide +kernel
theorem dX10_readsWard_77 : decode cX10_readsWard 77 = .ok (.iload_n 1, 1) := by decide +kernel
theorem dX10_readsWard_78 : decode cX10_readsWard 78 = .ok (.ifCond .ne 7, 3) := by decide +kernel
theorem dX10_readsWard_81 : decode cX10_readsWard 81 = .ok (.iload_n 2, 1) := by decide +kernel
theorem dX10_readsWard_82 : decode cX10_readsWard 82 = .ok (.goto 7, 3) := by decide +kernel
theorem dX10_readsWard_85 : decode cX10_readsWard 85 = .ok (.aload_n 0, 1) := by decide +kernel
theorem dX10_readsWard_86 : decode cX10_readsWard 86 = .ok (.getfield 94, 3) := by decide +kernel
theorem dX10_readsWard_89 : decode cX10_readsWard 89 = .ok (.putfield 94, 3) := by decide +kernel
theorem dX10_readsWard_92 : decode cX10_readsWard 92 = .ok (.iinc 1 1, 3) := by decide +kernel
theorem dX10_readsWard_95 : decode cX10_readsWard 95 = .ok (.iconst 0, 1) := by decide +kernel
theorem dX10_readsWard_96 : decode cX10_readsWard 96 = .ok (.istore_n 2, 1) := by decide +kernel
theorem dX10_readsWard_97 : decode cX10_readsWard 97 = .ok (.goto 46, 3) := by decide +kernel
theorem dX10_readsWard_100 : decode cX10_readsWard 100 = .ok (.aload_n 0, 1) := by decide +kernel
theorem dX10_readsWard_101 : decode cX10_readsWard 101 = .ok (.getfield 13, 3) := by decide +kernel
theorem dX10_readsWard_104 : decode cX10_readsWard 104 = .ok (.iload 4, 2) := by decide +kernel
theorem dX10_readsWard_106 : decode cX10_readsWard 106 = .ok (.iaload, 1) := by decide +kernel
theorem dX10_readsWard_107 : decode cX10_readsWard 107 = .ok (.invokestatic 97, 3) := by decide +kernel
theorem dX10_readsWard_110 : decode cX10_readsWard 110 = .ok (.istore 5, 2) := by decide +kernel
theorem dX10_readsWard_112 : decode cX10_readsWard 112 = .ok (.iload 5, 2) := by decide +kernel
theorem dX10_readsWard_114 : decode cX10_readsWard 114 = .ok (.iconst (-1), 1) := by decide +kernel
theorem dX10_readsWard_115 : decode cX10_readsWard 115 = .ok (.if_icmp .eq 11, 3) := by decide +kernel
theorem dX10_readsWard_118 : decode cX10_readsWard 118 = .ok (.iload_n 2, 1) := by decide +kernel
theorem dX10_readsWard_119 : decode cX10_readsWard 119 = .ok (.aload_n 0, 1) := by decide +kernel
theorem dX10_readsWard_120 : decode cX10_readsWard 120 = .ok (.getfield 94, 3) := by decide +kernel
theorem dX10_readsWard_123 : decode cX10_readsWard 123 = .ok (.if_icmp .ne 6, 3) := by decide +kernel
theorem dX10_readsWard_126 : decode cX10_readsWard 126 = .ok (.iload 4, 2) := by decide +kernel
theorem dX10_readsWard_128 : decode cX10_readsWard 128 = .ok (.ireturn, 1) := by decide +kernel
theorem dX10_readsWard_129 : decode cX10_readsWard 129 = .ok (.aload_n 0, 1) := by decide +kernel
theorem dX10_readsWard_130 : decode cX10_readsWard 130 = .ok (.getfield 16, 3) := by decide +kernel
theorem dX10_readsWard_133 : decode cX10_readsWard 133 = .ok (.iload_n 3, 1) := by decide +kernel
theorem dX10_readsWard_134 : decode cX10_readsWard 134 = .ok (.iload 5, 2) := by decide +kernel
theorem dX10_readsWard_136 : decode cX10_readsWard 136 = .ok (.iastore, 1) := by decide +kernel
theorem dX10_readsWard_137 : decode cX10_readsWard 137 = .ok (.iinc 3 1, 3) := by decide +kernel
theorem dX10_readsWard_140 : decode cX10_readsWard 140 = .ok (.iinc 2 1, 3) := by decide +kernel
theorem dX10_readsWard_143 : decode cX10_readsWard 143 = .ok (.iinc 4 1, 3) := by decide +kernel
theorem dX10_readsWard_146 : decode cX10_readsWard 146 = .ok (.goto (-121), 3) := by decide +kernel
theorem dX10_readsWard_149 : decode cX10_readsWard 149 = .ok (.aload_n 0, 1) := by decide +kernel
theorem dX10_readsWard_150 : decode cX10_readsWard 150 = .ok (.getfield 7, 3) := by decide +kernel
theorem dX10_readsWard_153 : decode cX10_readsWard 153 = .ok (.iconst 0, 1) := by decide +kernel
theorem dX10_readsWard_154 : decode cX10_readsWard 154 = .ok (.iaload, 1) := by decide +kernel
theorem dX10_readsWard_155 : decode cX10_readsWard 155 = .ok (.ifCond .le 26, 3) := by decide +kernel
theorem dX10_readsWard_158 : decode cX10_readsWard 158 = .ok (.iload_n 2, 1) := by decide +kernel
theorem dX10_readsWard_159 : decode cX10_readsWard 159 = .ok (.ifCond .eq 15, 3) := by decide +kernel
theorem dX10_readsWard_162 : decode cX10_readsWard 162 = .ok (.iload_n 1, 1) := by decide +kernel
theorem dX10_readsWard_163 : decode cX10_readsWard 163 = .ok (.ifCond .le 18, 3) := by decide +kernel
theorem dX10_readsWard_166 : decode cX10_readsWard 166 = .ok (.iload_n 2, 1) := by decide +kernel
theorem dX10_readsWard_167 : decode cX10_readsWard 167 = .ok (.aload_n 0, 1) := by decide +kernel
theorem dX10_readsWard_168 : decode cX10_readsWard 168 = .ok (.getfield 94, 3) := by decide +kernel
theorem dX10_readsWard_171 : decode cX10_readsWard 171 = .ok (.if_icmp .ge 10, 3) := by decide +kernel
theorem dX10_readsWard_174 : decode cX10_readsWard 174 = .ok (.aload_n 0, 1) := by decide +kernel
theorem dX10_readsWard_175 : decode cX10_readsWard 175 = .ok (.getfield 7, 3) := by decide +kernel
theorem dX10_readsWard_178 : decode cX10_readsWard 178 = .ok (.iconst 0, 1) := by decide +kernel
theorem dX10_readsWard_179 : decode cX10_readsWard 179 = .ok (.iaload, 1) := by decide +kernel
theorem dX10_readsWard_180 : decode cX10_readsWard 180 = .ok (.ireturn, 1) := by decide +kernel
theorem dX10_readsWard_181 : decode cX10_readsWard 181 = .ok (.aload_n 0, 1) := by decide +kernel
theorem dX10_readsWard_182 : decode cX10_readsWard 182 = .ok (.iload_n 1, 1) := by decide +kernel
theorem dX10_readsWard_183 : decode cX10_readsWard 183 = .ok (.ifCond .ne 7, 3) := by decide +kernel
theorem dX10_readsWard_186 : decode cX10_readsWard 186 = .ok (.iload_n 2, 1) := by decide +kernel
theorem dX10_readsWard_187 : decode cX10_readsWard 187 = .ok (.goto 7, 3) := by decide +kernel
theorem dX10_readsWard_190 : decode cX10_readsWard 190 = .ok (.aload_n 0, 1) := by decide +kernel
theorem dX10_readsWard_191 : decode cX10_readsWard 191 = .ok (.getfield 94, 3) := by decide +kernel
theorem dX10_readsWard_194 : decode cX10_readsWard 194 = .ok (.putfield 94, 3) := by decide +kernel
theorem dX10_readsWard_197 : decode cX10_readsWard 197 = .ok (.aload_n 0, 1) := by decide +kernel
theorem dX10_readsWard_198 : decode cX10_readsWard 198 = .ok (.aload_n 0, 1) := by decide +kernel
theorem dX10_readsWard_199 : decode cX10_readsWard 199 = .ok (.getfield 7, 3) := by decide +kernel
theorem dX10_readsWard_202 : decode cX10_readsWard 202 = .ok (.iconst 0, 1) := by decide +kernel
theorem dX10_readsWard_203 : decode cX10_readsWard 203 = .ok (.iaload, 1) := by decide +kernel
theorem dX10_readsWard_204 : decode cX10_readsWard 204 = .ok (.ifCond .ne 7, 3) := by decide +kernel
theorem dX10_readsWard_207 : decode cX10_readsWard 207 = .ok (.iconst 0, 1) := by decide +kernel
theorem dX10_readsWard_208 : decode cX10_readsWard 208 = .ok (.goto 6, 3) := by decide +kernel
theorem dX10_readsWard_211 : decode cX10_readsWard 211 = .ok (.iload_n 1, 1) := by decide +kernel
theorem dX10_readsWard_212 : decode cX10_readsWard 212 = .ok (.iconst 1, 1) := by decide +kernel
theorem dX10_readsWard_213 : decode cX10_readsWard 213 = .ok (.iadd, 1) := by decide +kernel
theorem dX10_readsWard_214 : decode cX10_readsWard 214 = .ok (.putfield 91, 3) := by decide +kernel
theorem dX10_readsWard_217 : decode cX10_readsWard 217 = .ok (.aload_n 0, 1) := by decide +kernel
theorem dX10_readsWard_218 : decode cX10_readsWard 218 = .ok (.iload_n 3, 1) := by decide +kernel
theorem dX10_readsWard_219 : decode cX10_readsWard 219 = .ok (.putfield 88, 3) := by decide +kernel
theorem dX10_readsWard_222 : decode cX10_readsWard 222 = .ok (.iconst (-1), 1) := by decide +kernel
theorem dX10_readsWard_223 : decode cX10_readsWard 223 = .ok (.ireturn, 1) := by decide +kernel
theorem dX10_byteAt_0 : decode cX10_byteAt 0 = .ok (.iload_n 2, 1) := by decide +kernel
theorem dX10_byteAt_1 : decode cX10_byteAt 1 = .ok (.aload_n 0, 1) := by decide +kernel
theorem dX10_byteAt_2 : decode cX10_byteAt 2 = .ok (.getfield 7, 3) := by decide +kernel
theorem dX10_byteAt_5 : decode cX10_byteAt 5 = .ok (.iload_n 1, 1) := by decide +kernel
theorem dX10_byteAt_6 : decode cX10_byteAt 6 = .ok (.iaload, 1) := by decide +kernel
theorem dX10_byteAt_7 : decode cX10_byteAt 7 = .ok (.if_icmp .ge 17, 3) := by decide +kernel
theorem dX10_byteAt_10 : decode cX10_byteAt 10 = .ok (.aload_n 0, 1) := by decide +kernel
theorem dX10_byteAt_11 : decode cX10_byteAt 11 = .ok (.getfield 13, 3) := by decide +kernel
theorem dX10_byteAt_14 : decode cX10_byteAt 14 = .ok (.bipush 41, 2) := by decide +kernel
theorem dX10_byteAt_16 : decode cX10_byteAt 16 = .ok (.iload_n 1, 1) := by decide +kernel
theorem dX10_byteAt_17 : decode cX10_byteAt 17 = .ok (.imul, 1) := by decide +kernel
theorem dX10_byteAt_18 : decode cX10_byteAt 18 = .ok (.iload_n 2, 1) := by decide +kernel
theorem dX10_byteAt_19 : decode cX10_byteAt 19 = .ok (.iadd, 1) := by decide +kernel
theorem dX10_byteAt_20 : decode cX10_byteAt 20 = .ok (.iaload, 1) := by decide +kernel
theorem dX10_byteAt_21 : decode cX10_byteAt 21 = .ok (.goto 4, 3) := by decide +kernel
theorem dX10_byteAt_24 : decode cX10_byteAt 24 = .ok (.iconst (-1), 1) := by decide +kernel
theorem dX10_byteAt_25 : decode cX10_byteAt 25 = .ok (.ireturn, 1) := by decide +kernel
theorem dX10_wayOf_0 : decode cX10_wayOf 0 = .ok (.iload_n 0, 1) := by decide +kernel
theorem dX10_wayOf_1 : decode cX10_wayOf 1 = .ok (.bipush 110, 2) := by decide +kernel
theorem dX10_wayOf_3 : decode cX10_wayOf 3 = .ok (.if_icmp .ne 7, 3) := by decide +kernel
theorem dX10_wayOf_6 : decode cX10_wayOf 6 = .ok (.iconst 0, 1) := by decide +kernel
theorem dX10_wayOf_7 : decode cX10_wayOf 7 = .ok (.goto 44, 3) := by decide +kernel
theorem dX10_wayOf_10 : decode cX10_wayOf 10 = .ok (.iload_n 0, 1) := by decide +kernel
theorem dX10_wayOf_11 : decode cX10_wayOf 11 = .ok (.bipush 101, 2) := by decide +kernel
theorem dX10_wayOf_13 : decode cX10_wayOf 13 = .ok (.if_icmp .ne 7, 3) := by decide +kernel
theorem dX10_wayOf_16 : decode cX10_wayOf 16 = .ok (.iconst 1, 1) := by decide +kernel
theorem dX10_wayOf_17 : decode cX10_wayOf 17 = .ok (.goto 34, 3) := by decide +kernel
theorem dX10_wayOf_20 : decode cX10_wayOf 20 = .ok (.iload_n 0, 1) := by decide +kernel
theorem dX10_wayOf_21 : decode cX10_wayOf 21 = .ok (.bipush 115, 2) := by decide +kernel
theorem dX10_wayOf_23 : decode cX10_wayOf 23 = .ok (.if_icmp .ne 7, 3) := by decide +kernel
theorem dX10_wayOf_26 : decode cX10_wayOf 26 = .ok (.iconst 2, 1) := by decide +kernel
theorem dX10_wayOf_27 : decode cX10_wayOf 27 = .ok (.goto 24, 3) := by decide +kernel
theorem dX10_wayOf_30 : decode cX10_wayOf 30 = .ok (.iload_n 0, 1) := by decide +kernel
theorem dX10_wayOf_31 : decode cX10_wayOf 31 = .ok (.bipush 119, 2) := by decide +kernel
theorem dX10_wayOf_33 : decode cX10_wayOf 33 = .ok (.if_icmp .ne 7, 3) := by decide +kernel
theorem dX10_wayOf_36 : decode cX10_wayOf 36 = .ok (.iconst 3, 1) := by decide +kernel
theorem dX10_wayOf_37 : decode cX10_wayOf 37 = .ok (.goto 14, 3) := by decide +kernel
theorem dX10_wayOf_40 : decode cX10_wayOf 40 = .ok (.iload_n 0, 1) := by decide +kernel
theorem dX10_wayOf_41 : decode cX10_wayOf 41 = .ok (.bipush 46, 2) := by decide +kernel
theorem dX10_wayOf_43 : decode cX10_wayOf 43 = .ok (.if_icmp .ne 7, 3) := by decide +kernel
theorem dX10_wayOf_46 : decode cX10_wayOf 46 = .ok (.iconst 4, 1) := by decide +kernel
theorem dX10_wayOf_47 : decode cX10_wayOf 47 = .ok (.goto 4, 3) := by decide +kernel
theorem dX10_wayOf_50 : decode cX10_wayOf 50 = .ok (.iconst (-1), 1) := by decide +kernel
theorem dX10_wayOf_51 : decode cX10_wayOf 51 = .ok (.ireturn, 1) := by decide +kernel
set_option maxRecDepth 20000 in
theorem ggX10_readsBeat_X10_byteAt : GoodIn wsX10_readsBeat wsX10_byteAt := qw_e qk_X10_readsBeat qk_X10_byteAt (by decide +kernel)
set_option maxRecDepth 20000 in
theorem gX10_readsBeat_X10_byteAt : GoodIn wsX10_readsBeat (wsV RX10 104 RX10 yX10_byteAt wsX10_byteAt) := goodIn_app (qw_e qk_X10_readsBeat (QK_cons qw_729 (QK_cons qw_730 (QK_cons qw_731 (QK_cons qw_996 QK_nil)))) (by decide +kernel)) ggX10_readsBeat_X10_byteAt
