theorem dX0_init_0 : decode cX0_init 0 = .ok (.aload_n 0, 1) := by decide +kernel
theorem dX0_init_1 : decode cX0_init 1 = .ok (.invokespecial 3, 3) := by decide +kernel
theorem dX0_init_4 : decode cX0_init 4 = .ok (.aload_n 0, 1) := by decide +kernel
theorem dX0_init_5 : decode cX0_init 5 = .ok (.sipush 180, 3) := by decide +kernel
theorem dX0_init_8 : decode cX0_init 8 = .ok (.newarray .int, 2) := by decide +kernel
theorem dX0_init_10 : decode cX0_init 10 = .ok (.putfield 9, 3) := by decide +kernel
theorem dX0_init_13 : decode cX0_init 13 = .ok (.aload_n 0, 1) := by decide +kernel
theorem dX0_init_14 : decode cX0_init 14 = .ok (.bipush 36, 2) := by decide +kernel
theorem dX0_init_16 : decode cX0_init 16 = .ok (.newarray .long, 2) := by decide +kernel
theorem dX0_init_18 : decode cX0_init 18 = .ok (.putfield 15, 3) := by decide +kernel
theorem dX0_init_21 : decode cX0_init 21 = .ok (.aload_n 0, 1) := by decide +kernel
theorem dX0_init_22 : decode cX0_init 22 = .ok (.bipush 36, 2) := by decide +kernel
theorem dX0_init_24 : decode cX0_init 24 = .ok (.newarray .boolean, 2) := by decide +kernel
theorem dX0_init_26 : decode cX0_init 26 = .ok (.putfield 19, 3) := by decide +kernel
theorem dX0_init_29 : decode cX0_init 29 = .ok (.aload_n 0, 1) := by decide +kernel
theorem dX0_init_30 : decode cX0_init 30 = .ok (.iconst 0, 1) := by decide +kernel
theorem dX0_init_31 : decode cX0_init 31 = .ok (.putfield 23, 3) := by decide +kernel
theorem dX0_init_34 : decode cX0_init 34 = .ok (.return_, 1) := by decide +kernel
set_option maxRecDepth 20000 in
theorem ggX0_lay_X8_isFor : GoodIn wsX0_lay wsX8_isFor := qw_e qk_X0_lay qk_X8_isFor (by decide +kernel)
set_option maxRecDepth 20000 in
theorem gX0_lay_X8_isFor : GoodIn wsX0_lay (wsV RX0 36 RX8 yX8_isFor wsX8_isFor) := goodIn_app (qw_e qk_X0_lay (QK_cons qw_647 (QK_cons qw_648 (QK_cons qw_649 (QK_cons qw_1010 QK_nil)))) (by decide +kernel)) ggX0_lay_X8_isFor
set_option maxRecDepth 20000 in
theorem ggX0_lay_X8_viewFrom : GoodIn wsX0_lay wsX8_viewFrom := qw_e qk_X0_lay qk_X8_viewFrom (by decide +kernel)
set_option maxRecDepth 20000 in
theorem gX0_lay_X8_viewFrom : GoodIn wsX0_lay (wsV RX0 40 RX8 yX8_viewFrom wsX8_viewFrom) := goodIn_app (qw_e qk_X0_lay (QK_cons qw_607 (QK_cons qw_608 (QK_cons qw_609 (QK_cons qw_1010 QK_nil)))) (by decide +kernel)) ggX0_lay_X8_viewFrom
set_option maxRecDepth 20000 in
theorem ggX0_lay_X8_neighbour : GoodIn wsX0_lay wsX8_neighbour := qw_e qk_X0_lay qk_X8_neighbour (by decide +kernel)
set_option maxRecDepth 20000 in
theorem gX0_lay_X8_neighbour : GoodIn wsX0_lay (wsV RX0 44 RX8 yX8_neighbour wsX8_neighbour) := goodIn_app (qw_e qk_X0_lay (QK_cons qw_615 (QK_cons qw_612 (QK_cons qw_613 (QK_cons qw_1010 QK_nil)))) (by decide +kernel)) ggX0_lay_X8_neighbour
theorem dX0_lay_0 : decode cX0_lay 0 = .ok (.aload_n 0, 1) := by decide +kernel
theorem dX0_lay_1 : decode cX0_lay 1 = .ok (.aload_n 1, 1) := by decide +kernel
theorem dX0_lay_2 : decode cX0_lay 2 = .ok (.getfield 27, 3) := by decide +kernel
theorem dX0_lay_5 : decode cX0_lay 5 = .ok (.bipush 36, 2) := by decide +kernel
theorem dX0_lay_7 : decode cX0_lay 7 = .ok (.invokestatic 30, 3) := by decide +kernel
theorem dX0_lay_10 : decode cX0_lay 10 = .ok (.putfield 23, 3) := by decide +kernel
theorem dX0_lay_13 : decode cX0_lay 13 = .ok (.iconst 0, 1) := by decide +kernel
theorem dX0_lay_14 : decode cX0_lay 14 = .ok (.istore 4, 2) := by decide +kernel
theorem dX0_lay_16 : decode cX0_lay 16 = .ok (.iload 4, 2) := by decide +kernel
theorem dX0_lay_18 : decode cX0_lay 18 = .ok (.aload_n 0, 1) := by decide +kernel
theorem dX0_lay_19 : decode cX0_lay 19 = .ok (.getfield 23, 3) := by decide +kernel
theorem dX0_lay_22 : decode cX0_lay 22 = .ok (.if_icmp .ge 91, 3) := by decide +kernel
theorem dX0_lay_25 : decode cX0_lay 25 = .ok (.aload_n 0, 1) := by decide +kernel
theorem dX0_lay_26 : decode cX0_lay 26 = .ok (.getfield 19, 3) := by decide +kernel
theorem dX0_lay_29 : decode cX0_lay 29 = .ok (.iload 4, 2) := by decide +kernel
theorem dX0_lay_31 : decode cX0_lay 31 = .ok (.aload_n 1, 1) := by decide +kernel
theorem dX0_lay_32 : decode cX0_lay 32 = .ok (.iload_n 2, 1) := by decide +kernel
theorem dX0_lay_33 : decode cX0_lay 33 = .ok (.iload 4, 2) := by decide +kernel
theorem dX0_lay_35 : decode cX0_lay 35 = .ok (.invokevirtual 36, 3) := by decide +kernel
theorem dX0_lay_38 : decode cX0_lay 38 = .ok (.bastore, 1) := by decide +kernel
theorem dX0_lay_39 : decode cX0_lay 39 = .ok (.aload_n 0, 1) := by decide +kernel
theorem dX0_lay_40 : decode cX0_lay 40 = .ok (.getfield 15, 3) := by decide +kernel
theorem dX0_lay_43 : decode cX0_lay 43 = .ok (.iload 4, 2) := by decide +kernel
theorem dX0_lay_45 : decode cX0_lay 45 = .ok (.aload_n 1, 1) := by decide +kernel
theorem dX0_lay_46 : decode cX0_lay 46 = .ok (.iload 4, 2) := by decide +kernel
theorem dX0_lay_48 : decode cX0_lay 48 = .ok (.iload_n 3, 1) := by decide +kernel
theorem dX0_lay_49 : decode cX0_lay 49 = .ok (.invokevirtual 40, 3) := by decide +kernel
theorem dX0_lay_52 : decode cX0_lay 52 = .ok (.lastore, 1) := by decide +kernel
theorem dX0_lay_53 : decode cX0_lay 53 = .ok (.iconst 0, 1) := by decide +kernel
theorem dX0_lay_54 : decode cX0_lay 54 = .ok (.istore 5, 2) := by decide +kernel
theorem dX0_lay_56 : decode cX0_lay 56 = .ok (.iload 5, 2) := by decide +kernel
theorem dX0_lay_58 : decode cX0_lay 58 = .ok (.iconst 5, 1) := by decide +kernel
theorem dX0_lay_59 : decode cX0_lay 59 = .ok (.if_icmp .ge 48, 3) := by decide +kernel
theorem dX0_lay_62 : decode cX0_lay 62 = .ok (.aload_n 1, 1) := by decide +kernel
theorem dX0_lay_63 : decode cX0_lay 63 = .ok (.iload 4, 2) := by decide +kernel
theorem dX0_lay_65 : decode cX0_lay 65 = .ok (.iload 5, 2) := by decide +kernel
theorem dX0_lay_67 : decode cX0_lay 67 = .ok (.invokevirtual 44, 3) := by decide +kernel
theorem dX0_lay_70 : decode cX0_lay 70 = .ok (.istore 6, 2) := by decide +kernel
theorem dX0_lay_72 : decode cX0_lay 72 = .ok (.aload_n 0, 1) := by decide +kernel
theorem dX0_lay_73 : decode cX0_lay 73 = .ok (.getfield 9, 3) := by decide +kernel
theorem dX0_lay_76 : decode cX0_lay 76 = .ok (.iload 4, 2) := by decide +kernel
theorem dX0_lay_78 : decode cX0_lay 78 = .ok (.iconst 5, 1) := by decide +kernel
theorem dX0_lay_79 : decode cX0_lay 79 = .ok (.imul, 1) := by decide +kernel
theorem dX0_lay_80 : decode cX0_lay 80 = .ok (.iload 5, 2) := by decide +kernel
theorem dX0_lay_82 : decode cX0_lay 82 = .ok (.iadd, 1) := by decide +kernel
theorem dX0_lay_83 : decode cX0_lay 83 = .ok (.aload_n 1, 1) := by decide +kernel
theorem dX0_lay_84 : decode cX0_lay 84 = .ok (.iload_n 2, 1) := by decide +kernel
theorem dX0_lay_85 : decode cX0_lay 85 = .ok (.iload 6, 2) := by decide +kernel
theorem dX0_lay_87 : decode cX0_lay 87 = .ok (.invokevirtual 36, 3) := by decide +kernel
theorem dX0_lay_90 : decode cX0_lay 90 = .ok (.ifCond .eq 8, 3) := by decide +kernel
theorem dX0_lay_93 : decode cX0_lay 93 = .ok (.iload 6, 2) := by decide +kernel
theorem dX0_lay_95 : decode cX0_lay 95 = .ok (.goto 5, 3) := by decide +kernel
theorem dX0_lay_98 : decode cX0_lay 98 = .ok (.iload 4, 2) := by decide +kernel
theorem dX0_lay_100 : decode cX0_lay 100 = .ok (.iastore, 1) := by decide +kernel
theorem dX0_lay_101 : decode cX0_lay 101 = .ok (.iinc 5 1, 3) := by decide +kernel
theorem dX0_lay_104 : decode cX0_lay 104 = .ok (.goto (-48), 3) := by decide +kernel
theorem dX0_lay_107 : decode cX0_lay 107 = .ok (.iinc 4 1, 3) := by decide +kernel
theorem dX0_lay_110 : decode cX0_lay 110 = .ok (.goto (-94), 3) := by decide +kernel
theorem dX0_lay_113 : decode cX0_lay 113 = .ok (.return_, 1) := by decide +kernel
theorem dX0_holds_0 : decode cX0_holds 0 = .ok (.iload_n 1, 1) := by decide +kernel
theorem dX0_holds_1 : decode cX0_holds 1 = .ok (.ifCond .lt 24, 3) := by decide +kernel
theorem dX0_holds_4 : decode cX0_holds 4 = .ok (.iload_n 1, 1) := by decide +kernel
theorem dX0_holds_5 : decode cX0_holds 5 = .ok (.aload_n 0, 1) := by decide +kernel
theorem dX0_holds_6 : decode cX0_holds 6 = .ok (.getfield 23, 3) := by decide +kernel
theorem dX0_holds_9 : decode cX0_holds 9 = .ok (.if_icmp .ge 16, 3) := by decide +kernel
theorem dX0_holds_12 : decode cX0_holds 12 = .ok (.aload_n 0, 1) := by decide +kernel
theorem dX0_holds_13 : decode cX0_holds 13 = .ok (.getfield 19, 3) := by decide +kernel
theorem dX0_holds_16 : decode cX0_holds 16 = .ok (.iload_n 1, 1) := by decide +kernel
theorem dX0_holds_17 : decode cX0_holds 17 = .ok (.baload, 1) := by decide +kernel
theorem dX0_holds_18 : decode cX0_holds 18 = .ok (.ifCond .eq 7, 3) := by decide +kernel
theorem dX0_holds_21 : decode cX0_holds 21 = .ok (.iconst 1, 1) := by decide +kernel
theorem dX0_holds_22 : decode cX0_holds 22 = .ok (.goto 4, 3) := by decide +kernel
theorem dX0_holds_25 : decode cX0_holds 25 = .ok (.iconst 0, 1) := by decide +kernel
theorem dX0_holds_26 : decode cX0_holds 26 = .ok (.ireturn, 1) := by decide +kernel
theorem dX0_stepFrom_0 : decode cX0_stepFrom 0 = .ok (.iload_n 1, 1) := by decide +kernel
theorem dX0_stepFrom_1 : decode cX0_stepFrom 1 = .ok (.ifCond .lt 20, 3) := by decide +kernel
theorem dX0_stepFrom_4 : decode cX0_stepFrom 4 = .ok (.iload_n 1, 1) := by decide +kernel
theorem dX0_stepFrom_5 : decode cX0_stepFrom 5 = .ok (.aload_n 0, 1) := by decide +kernel
theorem dX0_stepFrom_6 : decode cX0_stepFrom 6 = .ok (.getfield 23, 3) := by decide +kernel
theorem dX0_stepFrom_9 : decode cX0_stepFrom 9 = .ok (.if_icmp .ge 12, 3) := by decide +kernel
theorem dX0_stepFrom_12 : decode cX0_stepFrom 12 = .ok (.iload_n 2, 1) := by decide +kernel
theorem dX0_stepFrom_13 : decode cX0_stepFrom 13 = .ok (.ifCond .lt 8, 3) := by decide +kernel
theorem dX0_stepFrom_16 : decode cX0_stepFrom 16 = .ok (.iload_n 2, 1) := by decide +kernel
theorem dX0_stepFrom_17 : decode cX0_stepFrom 17 = .ok (.iconst 5, 1) := by decide +kernel
theorem dX0_stepFrom_18 : decode cX0_stepFrom 18 = .ok (.if_icmp .lt 5, 3) := by decide +kernel
theorem dX0_stepFrom_21 : decode cX0_stepFrom 21 = .ok (.iload_n 1, 1) := by decide +kernel
theorem dX0_stepFrom_22 : decode cX0_stepFrom 22 = .ok (.ireturn, 1) := by decide +kernel
theorem dX0_stepFrom_23 : decode cX0_stepFrom 23 = .ok (.aload_n 0, 1) := by decide +kernel
theorem dX0_stepFrom_24 : decode cX0_stepFrom 24 = .ok (.getfield 9, 3) := by decide +kernel
theorem dX0_stepFrom_27 : decode cX0_stepFrom 27 = .ok (.iload_n 1, 1) := by decide +kernel
theorem dX0_stepFrom_28 : decode cX0_stepFrom 28 = .ok (.iconst 5, 1) := by decide +kernel
theorem dX0_stepFrom_29 : decode cX0_stepFrom 29 = .ok (.imul, 1) := by decide +kernel
theorem dX0_stepFrom_30 : decode cX0_stepFrom 30 = .ok (.iload_n 2, 1) := by decide +kernel
theorem dX0_stepFrom_31 : decode cX0_stepFrom 31 = .ok (.iadd, 1) := by decide +kernel
theorem dX0_stepFrom_32 : decode cX0_stepFrom 32 = .ok (.iaload, 1) := by decide +kernel
theorem dX0_stepFrom_33 : decode cX0_stepFrom 33 = .ok (.ireturn, 1) := by decide +kernel
theorem dX1_init_0 : decode cX1_init 0 = .ok (.aload_n 0, 1) := by decide +kernel
theorem dX1_init_1 : decode cX1_init 1 = .ok (.invokespecial 3, 3) := by decide +kernel
theorem dX1_init_4 : decode cX1_init 4 = .ok (.aload_n 0, 1) := by decide +kernel
theorem dX1_init_5 : decode cX1_init 5 = .ok (.bipush 8, 2) := by decide +kernel
theorem dX1_init_7 : decode cX1_init 7 = .ok (.newarray .int, 2) := by decide +kernel
theorem dX1_init_9 : decode cX1_init 9 = .ok (.putfield 9, 3) := by decide +kernel
theorem dX1_init_12 : decode cX1_init 12 = .ok (.aload_n 0, 1) := by decide +kernel
theorem dX1_init_13 : decode cX1_init 13 = .ok (.bipush 8, 2) := by decide +kernel
theorem dX1_init_15 : decode cX1_init 15 = .ok (.newarray .int, 2) := by decide +kernel
theorem dX1_init_17 : decode cX1_init 17 = .ok (.putfield 15, 3) := by decide +kernel
theorem dX1_init_20 : decode cX1_init 20 = .ok (.aload_n 0, 1) := by decide +kernel
theorem dX1_init_21 : decode cX1_init 21 = .ok (.iconst 0, 1) := by decide +kernel
theorem dX1_init_22 : decode cX1_init 22 = .ok (.putfield 18, 3) := by decide +kernel
theorem dX1_init_25 : decode cX1_init 25 = .ok (.return_, 1) := by decide +kernel
set_option maxRecDepth 20000 in
theorem ggX1_mayBe_X9_isEither : GoodIn wsX1_mayBe wsX9_isEither := qw_e qk_X1_mayBe qk_X9_isEither (by decide +kernel)
set_option maxRecDepth 20000 in
theorem gX1_mayBe_X9_isEither_n22 : GoodIn wsX1_mayBe (wsX9_isEither) := ggX1_mayBe_X9_isEither
theorem dX1_mayBe_0 : decode cX1_mayBe 0 = .ok (.iload_n 0, 1) := by decide +kernel
theorem dX1_mayBe_1 : decode cX1_mayBe 1 = .ok (.ifCond .lt 20, 3) := by decide +kernel
theorem dX1_mayBe_4 : decode cX1_mayBe 4 = .ok (.iload_n 0, 1) := by decide +kernel
theorem dX1_mayBe_5 : decode cX1_mayBe 5 = .ok (.bipush 36, 2) := by decide +kernel
theorem dX1_mayBe_7 : decode cX1_mayBe 7 = .ok (.if_icmp .ge 14, 3) := by decide +kernel
theorem dX1_mayBe_10 : decode cX1_mayBe 10 = .ok (.iload_n 1, 1) := by decide +kernel
theorem dX1_mayBe_11 : decode cX1_mayBe 11 = .ok (.invokestatic 22, 3) := by decide +kernel
theorem dX1_mayBe_14 : decode cX1_mayBe 14 = .ok (.ifCond .eq 7, 3) := by decide +kernel
theorem dX1_mayBe_17 : decode cX1_mayBe 17 = .ok (.iconst 1, 1) := by decide +kernel
theorem dX1_mayBe_18 : decode cX1_mayBe 18 = .ok (.goto 4, 3) := by decide +kernel
theorem dX1_mayBe_21 : decode cX1_mayBe 21 = .ok (.iconst 0, 1) := by decide +kernel
theorem dX1_mayBe_22 : decode cX1_mayBe 22 = .ok (.ireturn, 1) := by decide +kernel
theorem dX1_add_0 : decode cX1_add 0 = .ok (.aload_n 0, 1) := by decide +kernel
theorem dX1_add_1 : decode cX1_add 1 = .ok (.getfield 18, 3) := by decide +kernel
theorem dX1_add_4 : decode cX1_add 4 = .ok (.aload_n 0, 1) := by decide +kernel
theorem dX1_add_5 : decode cX1_add 5 = .ok (.getfield 9, 3) := by decide +kernel
theorem dX1_add_8 : decode cX1_add 8 = .ok (.arraylength, 1) := by decide +kernel
theorem dX1_add_9 : decode cX1_add 9 = .ok (.if_icmp .lt 5, 3) := by decide +kernel
theorem dX1_add_12 : decode cX1_add 12 = .ok (.iconst 0, 1) := by decide +kernel
theorem dX1_add_13 : decode cX1_add 13 = .ok (.ireturn, 1) := by decide +kernel
theorem dX1_add_14 : decode cX1_add 14 = .ok (.aload_n 0, 1) := by decide +kernel
theorem dX1_add_15 : decode cX1_add 15 = .ok (.getfield 9, 3) := by decide +kernel
theorem dX1_add_18 : decode cX1_add 18 = .ok (.aload_n 0, 1) := by decide +kernel
theorem dX1_add_19 : decode cX1_add 19 = .ok (.getfield 18, 3) := by decide +kernel
theorem dX1_add_22 : decode cX1_add 22 = .ok (.iload_n 1, 1) := by decide +kernel
theorem dX1_add_23 : decode cX1_add 23 = .ok (.iastore, 1) := by decide +kernel
theorem dX1_add_24 : decode cX1_add 24 = .ok (.aload_n 0, 1) := by decide +kernel
theorem dX1_add_25 : decode cX1_add 25 = .ok (.getfield 15, 3) := by decide +kernel
theorem dX1_add_28 : decode cX1_add 28 = .ok (.aload_n 0, 1) := by decide +kernel
theorem dX1_add_29 : decode cX1_add 29 = .ok (.getfield 18, 3) := by decide +kernel
theorem dX1_add_32 : decode cX1_add 32 = .ok (.iload_n 2, 1) := by decide +kernel
theorem dX1_add_33 : decode cX1_add 33 = .ok (.iastore, 1) := by decide +kernel
theorem dX1_add_34 : decode cX1_add 34 = .ok (.aload_n 0, 1) := by decide +kernel
theorem dX1_add_35 : decode cX1_add 35 = .ok (.dup, 1) := by decide +kernel
theorem dX1_add_36 : decode cX1_add 36 = .ok (.getfield 18, 3) := by decide +kernel
theorem dX1_add_39 : decode cX1_add 39 = .ok (.iconst 1, 1) := by decide +kernel
theorem dX1_add_40 : decode cX1_add 40 = .ok (.iadd, 1) := by decide +kernel
theorem dX1_add_41 : decode cX1_add 41 = .ok (.putfield 18, 3) := by decide +kernel
theorem dX1_add_44 : decode cX1_add 44 = .ok (.iconst 1, 1) := by decide +kernel
theorem dX1_add_45 : decode cX1_add 45 = .ok (.ireturn, 1) := by decide +kernel
set_option maxRecDepth 20000 in
theorem ggX1_addFrom_X1_mayBe : GoodIn wsX1_addFrom wsX1_mayBe := qw_e qk_X1_addFrom qk_X1_mayBe (by decide +kernel)
set_option maxRecDepth 20000 in
theorem gX1_addFrom_X1_mayBe : GoodIn wsX1_addFrom (va_wsS RX1 34 yX1_mayBe wsX1_mayBe) := goodIn_app (qw_e qk_X1_addFrom (QK_cons qw_306 (QK_cons qw_364 (QK_cons qw_974 QK_nil))) (by decide +kernel)) ggX1_addFrom_X1_mayBe
set_option maxRecDepth 20000 in
theorem ggX1_addFrom_X1_add : GoodIn wsX1_addFrom wsX1_add := qw_e qk_X1_addFrom qk_X1_add (by decide +kernel)
set_option maxRecDepth 20000 in
theorem gX1_addFrom_X1_add : GoodIn wsX1_addFrom (wsV RX1 38 RX1 yX1_add wsX1_add) := goodIn_app (qw_e qk_X1_addFrom (QK_cons qw_307 (QK_cons qw_319 (QK_cons qw_320 (QK_cons qw_974 QK_nil)))) (by decide +kernel)) ggX1_addFrom_X1_add
theorem dX1_addFrom_0 : decode cX1_addFrom 0 = .ok (.iconst 0, 1) := by decide +kernel
theorem dX1_addFrom_1 : decode cX1_addFrom 1 = .ok (.istore_n 2, 1) := by decide +kernel
theorem dX1_addFrom_2 : decode cX1_addFrom 2 = .ok (.iconst 0, 1) := by decide +kernel
theorem dX1_addFrom_3 : decode cX1_addFrom 3 = .ok (.istore_n 3, 1) := by decide +kernel
theorem dX1_addFrom_4 : decode cX1_addFrom 4 = .ok (.iload_n 3, 1) := by decide +kernel
theorem dX1_addFrom_5 : decode cX1_addFrom 5 = .ok (.iconst 1, 1) := by decide +kernel
theorem dX1_addFrom_6 : decode cX1_addFrom 6 = .ok (.iadd, 1) := by decide +kernel
theorem dX1_addFrom_7 : decode cX1_addFrom 7 = .ok (.aload_n 1, 1) := by decide +kernel
theorem dX1_addFrom_8 : decode cX1_addFrom 8 = .ok (.getfield 26, 3) := by decide +kernel
theorem dX1_addFrom_11 : decode cX1_addFrom 11 = .ok (.if_icmp .ge 53, 3) := by decide +kernel
theorem dX1_addFrom_14 : decode cX1_addFrom 14 = .ok (.aload_n 1, 1) := by decide +kernel
theorem dX1_addFrom_15 : decode cX1_addFrom 15 = .ok (.getfield 31, 3) := by decide +kernel
theorem dX1_addFrom_18 : decode cX1_addFrom 18 = .ok (.iload_n 3, 1) := by decide +kernel
theorem dX1_addFrom_19 : decode cX1_addFrom 19 = .ok (.iaload, 1) := by decide +kernel
theorem dX1_addFrom_20 : decode cX1_addFrom 20 = .ok (.istore 4, 2) := by decide +kernel
theorem dX1_addFrom_22 : decode cX1_addFrom 22 = .ok (.aload_n 1, 1) := by decide +kernel
theorem dX1_addFrom_23 : decode cX1_addFrom 23 = .ok (.getfield 31, 3) := by decide +kernel
theorem dX1_addFrom_26 : decode cX1_addFrom 26 = .ok (.iload_n 3, 1) := by decide +kernel
theorem dX1_addFrom_27 : decode cX1_addFrom 27 = .ok (.iconst 1, 1) := by decide +kernel
theorem dX1_addFrom_28 : decode cX1_addFrom 28 = .ok (.iadd, 1) := by decide +kernel
theorem dX1_addFrom_29 : decode cX1_addFrom 29 = .ok (.iaload, 1) := by decide +kernel
theorem dX1_addFrom_30 : decode cX1_addFrom 30 = .ok (.istore 5, 2) := by decide +kernel
theorem dX1_addFrom_32 : decode cX1_addFrom 32 = .ok (.iload 4, 2) := by decide +kernel
theorem dX1_addFrom_34 : decode cX1_addFrom 34 = .ok (.iload 5, 2) := by decide +kernel
theorem dX1_addFrom_36 : decode cX1_addFrom 36 = .ok (.invokestatic 34, 3) := by decide +kernel
theorem dX1_addFrom_39 : decode cX1_addFrom 39 = .ok (.ifCond .eq 14, 3) := by decide +kernel
theorem dX1_addFrom_42 : decode cX1_addFrom 42 = .ok (.aload_n 0, 1) := by decide +kernel
theorem dX1_addFrom_43 : decode cX1_addFrom 43 = .ok (.iload 4, 2) := by decide +kernel
theorem dX1_addFrom_45 : decode cX1_addFrom 45 = .ok (.iload 5, 2) := by decide +kernel
theorem dX1_addFrom_47 : decode cX1_addFrom 47 = .ok (.invokevirtual 38, 3) := by decide +kernel
theorem dX1_addFrom_50 : decode cX1_addFrom 50 = .ok (.ifCond .ne 5, 3) := by decide +kernel
theorem dX1_addFrom_53 : decode cX1_addFrom 53 = .ok (.iload_n 2, 1) := by decide +kernel
theorem dX1_addFrom_54 : decode cX1_addFrom 54 = .ok (.ireturn, 1) := by decide +kernel
theorem dX1_addFrom_55 : decode cX1_addFrom 55 = .ok (.iinc 2 1, 3) := by decide +kernel
theorem dX1_addFrom_58 : decode cX1_addFrom 58 = .ok (.iinc 3 2, 3) := by decide +kernel
theorem dX1_addFrom_61 : decode cX1_addFrom 61 = .ok (.goto (-57), 3) := by decide +kernel
theorem dX1_addFrom_64 : decode cX1_addFrom 64 = .ok (.iload_n 2, 1) := by decide +kernel
theorem dX1_addFrom_65 : decode cX1_addFrom 65 = .ok (.ireturn, 1) := by decide +kernel
theorem dX1_agreesWith_0 : decode cX1_agreesWith 0 = .ok (.iconst 0, 1) := by decide +kernel
theorem dX1_agreesWith_1 : decode cX1_agreesWith 1 = .ok (.istore_n 3, 1) := by decide +kernel
theorem dX1_agreesWith_2 : decode cX1_agreesWith 2 = .ok (.iload_n 3, 1) := by decide +kernel
theorem dX1_agreesWith_3 : decode cX1_agreesWith 3 = .ok (.aload_n 0, 1) := by decide +kernel
theorem dX1_agreesWith_4 : decode cX1_agreesWith 4 = .ok (.getfield 18, 3) := by decide +kernel
theorem dX1_agreesWith_7 : decode cX1_agreesWith 7 = .ok (.if_icmp .ge 32, 3) := by decide +kernel
theorem dX1_agreesWith_10 : decode cX1_agreesWith 10 = .ok (.lload_n 1, 1) := by decide +kernel
theorem dX1_agreesWith_11 : decode cX1_agreesWith 11 = .ok (.aload_n 0, 1) := by decide +kernel
theorem dX1_agreesWith_12 : decode cX1_agreesWith 12 = .ok (.getfield 9, 3) := by decide +kernel
theorem dX1_agreesWith_15 : decode cX1_agreesWith 15 = .ok (.iload_n 3, 1) := by decide +kernel
theorem dX1_agreesWith_16 : decode cX1_agreesWith 16 = .ok (.iaload, 1) := by decide +kernel
theorem dX1_agreesWith_17 : decode cX1_agreesWith 17 = .ok (.lushr, 1) := by decide +kernel
theorem dX1_agreesWith_18 : decode cX1_agreesWith 18 = .ok (.lconst 1, 1) := by decide +kernel
theorem dX1_agreesWith_19 : decode cX1_agreesWith 19 = .ok (.land, 1) := by decide +kernel
theorem dX1_agreesWith_20 : decode cX1_agreesWith 20 = .ok (.aload_n 0, 1) := by decide +kernel
theorem dX1_agreesWith_21 : decode cX1_agreesWith 21 = .ok (.getfield 15, 3) := by decide +kernel
theorem dX1_agreesWith_24 : decode cX1_agreesWith 24 = .ok (.iload_n 3, 1) := by decide +kernel
theorem dX1_agreesWith_25 : decode cX1_agreesWith 25 = .ok (.iaload, 1) := by decide +kernel
theorem dX1_agreesWith_26 : decode cX1_agreesWith 26 = .ok (.i2l, 1) := by decide +kernel
theorem dX1_agreesWith_27 : decode cX1_agreesWith 27 = .ok (.lcmp, 1) := by decide +kernel
theorem dX1_agreesWith_28 : decode cX1_agreesWith 28 = .ok (.ifCond .eq 5, 3) := by decide +kernel
theorem dX1_agreesWith_31 : decode cX1_agreesWith 31 = .ok (.iconst 0, 1) := by decide +kernel
theorem dX1_agreesWith_32 : decode cX1_agreesWith 32 = .ok (.ireturn, 1) := by decide +kernel
theorem dX1_agreesWith_33 : decode cX1_agreesWith 33 = .ok (.iinc 3 1, 3) := by decide +kernel
theorem dX1_agreesWith_36 : decode cX1_agreesWith 36 = .ok (.goto (-34), 3) := by decide +kernel
theorem dX1_agreesWith_39 : decode cX1_agreesWith 39 = .ok (.iconst 1, 1) := by decide +kernel
theorem dX1_agreesWith_40 : decode cX1_agreesWith 40 = .ok (.ireturn, 1) := by decide +kernel
theorem dX2_init_0 : decode cX2_init 0 = .ok (.aload_n 0, 1) := by decide +kernel
theorem dX2_init_1 : decode cX2_init 1 = .ok (.invokespecial 3, 3) := by decide +kernel
theorem dX2_init_4 : decode cX2_init 4 = .ok (.aload_n 0, 1) := by decide +kernel
theorem dX2_init_5 : decode cX2_init 5 = .ok (.bipush 96, 2) := by decide +kernel
theorem dX2_init_7 : decode cX2_init 7 = .ok (.newarray .int, 2) := by decide +kernel
theorem dX2_init_9 : decode cX2_init 9 = .ok (.putfield 9, 3) := by decide +kernel
theorem dX2_init_12 : decode cX2_init 12 = .ok (.aload_n 0, 1) := by decide +kernel
theorem dX2_init_13 : decode cX2_init 13 = .ok (.bipush 96, 2) := by decide +kernel
theorem dX2_init_15 : decode cX2_init 15 = .ok (.newarray .long, 2) := by decide +kernel
theorem dX2_init_17 : decode cX2_init 17 = .ok (.putfield 15, 3) := by decide +kernel
theorem dX2_init_20 : decode cX2_init 20 = .ok (.return_, 1) := by decide +kernel
set_option maxRecDepth 20000 in
theorem ggX2_walk_X0_holds : GoodIn wsX2_walk wsX0_holds := qw_e qk_X2_walk qk_X0_holds (by decide +kernel)
set_option maxRecDepth 20000 in
theorem gX2_walk_X0_holds : GoodIn wsX2_walk (wsV RX2 19 RX0 yX0_holds wsX0_holds) := goodIn_app (qw_e qk_X2_walk (QK_cons qw_623 (QK_cons qw_624 (QK_cons qw_625 (QK_cons qw_980 QK_nil)))) (by decide +kernel)) ggX2_walk_X0_holds
set_option maxRecDepth 20000 in
theorem ggX2_walk_X0_stepFrom : GoodIn wsX2_walk wsX0_stepFrom := qw_e qk_X2_walk qk_X0_stepFrom (by decide +kernel)
set_option maxRecDepth 20000 in
theorem gX2_walk_X0_stepFrom : GoodIn wsX2_walk (wsV RX2 35 RX0 yX0_stepFrom wsX0_stepFrom) := goodIn_app (qw_e qk_X2_walk (QK_cons qw_627 (QK_cons qw_628 (QK_cons qw_629 (QK_cons qw_980 QK_nil)))) (by decide +kernel)) ggX2_walk_X0_stepFrom
theorem dX2_walk_0 : decode cX2_walk 0 = .ok (.aload_n 1, 1) := by decide +kernel
theorem dX2_walk_1 : decode cX2_walk 1 = .ok (.iload_n 2, 1) := by decide +kernel
theorem dX2_walk_2 : decode cX2_walk 2 = .ok (.invokevirtual 19, 3) := by decide +kernel
theorem dX2_walk_5 : decode cX2_walk 5 = .ok (.ifCond .eq 7, 3) := by decide +kernel
theorem dX2_walk_8 : decode cX2_walk 8 = .ok (.iload_n 2, 1) := by decide +kernel
theorem dX2_walk_9 : decode cX2_walk 9 = .ok (.goto 4, 3) := by decide +kernel
theorem dX2_walk_12 : decode cX2_walk 12 = .ok (.iconst (-1), 1) := by decide +kernel
theorem dX2_walk_13 : decode cX2_walk 13 = .ok (.istore 4, 2) := by decide +kernel
theorem dX2_walk_15 : decode cX2_walk 15 = .ok (.iconst 0, 1) := by decide +kernel
theorem dX2_walk_16 : decode cX2_walk 16 = .ok (.istore 5, 2) := by decide +kernel
theorem dX2_walk_18 : decode cX2_walk 18 = .ok (.iconst 0, 1) := by decide +kernel
theorem dX2_walk_19 : decode cX2_walk 19 = .ok (.istore 6, 2) := by decide +kernel
theorem dX2_walk_21 : decode cX2_walk 21 = .ok (.iload 6, 2) := by decide +kernel
theorem dX2_walk_23 : decode cX2_walk 23 = .ok (.bipush 96, 2) := by decide +kernel
theorem dX2_walk_25 : decode cX2_walk 25 = .ok (.if_icmp .ge 90, 3) := by decide +kernel
theorem dX2_walk_28 : decode cX2_walk 28 = .ok (.aload_n 0, 1) := by decide +kernel
theorem dX2_walk_29 : decode cX2_walk 29 = .ok (.getfield 9, 3) := by decide +kernel
theorem dX2_walk_32 : decode cX2_walk 32 = .ok (.iload 6, 2) := by decide +kernel
theorem dX2_walk_34 : decode cX2_walk 34 = .ok (.iload 4, 2) := by decide +kernel
theorem dX2_walk_36 : decode cX2_walk 36 = .ok (.iastore, 1) := by decide +kernel
theorem dX2_walk_37 : decode cX2_walk 37 = .ok (.aload_n 0, 1) := by decide +kernel
theorem dX2_walk_38 : decode cX2_walk 38 = .ok (.getfield 15, 3) := by decide +kernel
theorem dX2_walk_41 : decode cX2_walk 41 = .ok (.iload 6, 2) := by decide +kernel
theorem dX2_walk_43 : decode cX2_walk 43 = .ok (.aload_n 1, 1) := by decide +kernel
theorem dX2_walk_44 : decode cX2_walk 44 = .ok (.iload 4, 2) := by decide +kernel
theorem dX2_walk_46 : decode cX2_walk 46 = .ok (.invokevirtual 19, 3) := by decide +kernel
theorem dX2_walk_49 : decode cX2_walk 49 = .ok (.ifCond .eq 13, 3) := by decide +kernel
theorem dX2_walk_52 : decode cX2_walk 52 = .ok (.aload_n 1, 1) := by decide +kernel
theorem dX2_walk_53 : decode cX2_walk 53 = .ok (.getfield 25, 3) := by decide +kernel
theorem dX2_walk_56 : decode cX2_walk 56 = .ok (.iload 4, 2) := by decide +kernel
theorem dX2_walk_58 : decode cX2_walk 58 = .ok (.laload, 1) := by decide +kernel
theorem dX2_walk_59 : decode cX2_walk 59 = .ok (.goto 4, 3) := by decide +kernel
theorem dX2_walk_62 : decode cX2_walk 62 = .ok (.lconst 0, 1) := by decide +kernel
theorem dX2_walk_63 : decode cX2_walk 63 = .ok (.lastore, 1) := by decide +kernel
theorem dX2_walk_64 : decode cX2_walk 64 = .ok (.iload 5, 2) := by decide +kernel
theorem dX2_walk_66 : decode cX2_walk 66 = .ok (.aload_n 3, 1) := by decide +kernel
theorem dX2_walk_67 : decode cX2_walk 67 = .ok (.getfield 26, 3) := by decide +kernel
theorem dX2_walk_70 : decode cX2_walk 70 = .ok (.if_icmp .ge 18, 3) := by decide +kernel
theorem dX2_walk_73 : decode cX2_walk 73 = .ok (.aload_n 1, 1) := by decide +kernel
theorem dX2_walk_74 : decode cX2_walk 74 = .ok (.iload 4, 2) := by decide +kernel
theorem dX2_walk_76 : decode cX2_walk 76 = .ok (.aload_n 3, 1) := by decide +kernel
theorem dX2_walk_77 : decode cX2_walk 77 = .ok (.getfield 32, 3) := by decide +kernel
theorem dX2_walk_80 : decode cX2_walk 80 = .ok (.iload 5, 2) := by decide +kernel
theorem dX2_walk_82 : decode cX2_walk 82 = .ok (.iaload, 1) := by decide +kernel
theorem dX2_walk_83 : decode cX2_walk 83 = .ok (.invokevirtual 35, 3) := by decide +kernel
theorem dX2_walk_86 : decode cX2_walk 86 = .ok (.istore 4, 2) := by decide +kernel
theorem dX2_walk_88 : decode cX2_walk 88 = .ok (.iload 5, 2) := by decide +kernel
theorem dX2_walk_90 : decode cX2_walk 90 = .ok (.iconst 1, 1) := by decide +kernel
theorem dX2_walk_91 : decode cX2_walk 91 = .ok (.iadd, 1) := by decide +kernel
theorem dX2_walk_92 : decode cX2_walk 92 = .ok (.aload_n 3, 1) := by decide +kernel
theorem dX2_walk_93 : decode cX2_walk 93 = .ok (.getfield 26, 3) := by decide +kernel
theorem dX2_walk_96 : decode cX2_walk 96 = .ok (.if_icmp .ge 10, 3) := by decide +kernel
theorem dX2_walk_99 : decode cX2_walk 99 = .ok (.iload 5, 2) := by decide +kernel
theorem dX2_walk_101 : decode cX2_walk 101 = .ok (.iconst 1, 1) := by decide +kernel
theorem dX2_walk_102 : decode cX2_walk 102 = .ok (.iadd, 1) := by decide +kernel
theorem dX2_walk_103 : decode cX2_walk 103 = .ok (.goto 4, 3) := by decide +kernel
theorem dX2_walk_106 : decode cX2_walk 106 = .ok (.iconst 0, 1) := by decide +kernel
theorem dX2_walk_107 : decode cX2_walk 107 = .ok (.istore 5, 2) := by decide +kernel
theorem dX2_walk_109 : decode cX2_walk 109 = .ok (.iinc 6 1, 3) := by decide +kernel
theorem dX2_walk_112 : decode cX2_walk 112 = .ok (.goto (-91), 3) := by decide +kernel
theorem dX2_walk_115 : decode cX2_walk 115 = .ok (.return_, 1) := by decide +kernel
theorem dX2_momentsSeen_0 : decode cX2_momentsSeen 0 = .ok (.lconst 1, 1) := by decide +kernel
theorem dX2_momentsSeen_1 : decode cX2_momentsSeen 1 = .ok (.iload_n 1, 1) := by decide +kernel
theorem dX2_momentsSeen_2 : decode cX2_momentsSeen 2 = .ok (.lshl, 1) := by decide +kernel
theorem dX2_momentsSeen_3 : decode cX2_momentsSeen 3 = .ok (.lstore_n 2, 1) := by decide +kernel
theorem dX2_momentsSeen_4 : decode cX2_momentsSeen 4 = .ok (.iconst 0, 1) := by decide +kernel
theorem dX2_momentsSeen_5 : decode cX2_momentsSeen 5 = .ok (.istore 4, 2) := by decide +kernel
theorem dX2_momentsSeen_7 : decode cX2_momentsSeen 7 = .ok (.iconst 0, 1) := by decide +kernel
theorem dX2_momentsSeen_8 : decode cX2_momentsSeen 8 = .ok (.istore 5, 2) := by decide +kernel
theorem dX2_momentsSeen_10 : decode cX2_momentsSeen 10 = .ok (.iload 5, 2) := by decide +kernel
theorem dX2_momentsSeen_12 : decode cX2_momentsSeen 12 = .ok (.bipush 96, 2) := by decide +kernel
theorem dX2_momentsSeen_14 : decode cX2_momentsSeen 14 = .ok (.if_icmp .ge 26, 3) := by decide +kernel
theorem dX2_momentsSeen_17 : decode cX2_momentsSeen 17 = .ok (.aload_n 0, 1) := by decide +kernel
theorem dX2_momentsSeen_18 : decode cX2_momentsSeen 18 = .ok (.getfield 15, 3) := by decide +kernel
theorem dX2_momentsSeen_21 : decode cX2_momentsSeen 21 = .ok (.iload 5, 2) := by decide +kernel
theorem dX2_momentsSeen_23 : decode cX2_momentsSeen 23 = .ok (.laload, 1) := by decide +kernel
theorem dX2_momentsSeen_24 : decode cX2_momentsSeen 24 = .ok (.lload_n 2, 1) := by decide +kernel
theorem dX2_momentsSeen_25 : decode cX2_momentsSeen 25 = .ok (.land, 1) := by decide +kernel
theorem dX2_momentsSeen_26 : decode cX2_momentsSeen 26 = .ok (.lconst 0, 1) := by decide +kernel
theorem dX2_momentsSeen_27 : decode cX2_momentsSeen 27 = .ok (.lcmp, 1) := by decide +kernel
theorem dX2_momentsSeen_28 : decode cX2_momentsSeen 28 = .ok (.ifCond .eq 6, 3) := by decide +kernel
theorem dX2_momentsSeen_31 : decode cX2_momentsSeen 31 = .ok (.iinc 4 1, 3) := by decide +kernel
theorem dX2_momentsSeen_34 : decode cX2_momentsSeen 34 = .ok (.iinc 5 1, 3) := by decide +kernel
theorem dX2_momentsSeen_37 : decode cX2_momentsSeen 37 = .ok (.goto (-27), 3) := by decide +kernel
theorem dX2_momentsSeen_40 : decode cX2_momentsSeen 40 = .ok (.iload 4, 2) := by decide +kernel
theorem dX2_momentsSeen_42 : decode cX2_momentsSeen 42 = .ok (.ireturn, 1) := by decide +kernel
theorem dX2_longestUnseen_0 : decode cX2_longestUnseen 0 = .ok (.lconst 1, 1) := by decide +kernel
theorem dX2_longestUnseen_1 : decode cX2_longestUnseen 1 = .ok (.iload_n 1, 1) := by decide +kernel
theorem dX2_longestUnseen_2 : decode cX2_longestUnseen 2 = .ok (.lshl, 1) := by decide +kernel
theorem dX2_longestUnseen_3 : decode cX2_longestUnseen 3 = .ok (.lstore_n 2, 1) := by decide +kernel
theorem dX2_longestUnseen_4 : decode cX2_longestUnseen 4 = .ok (.iconst 0, 1) := by decide +kernel
theorem dX2_longestUnseen_5 : decode cX2_longestUnseen 5 = .ok (.istore 4, 2) := by decide +kernel
theorem dX2_longestUnseen_7 : decode cX2_longestUnseen 7 = .ok (.iconst 0, 1) := by decide +kernel
theorem dX2_longestUnseen_8 : decode cX2_longestUnseen 8 = .ok (.istore 5, 2) := by decide +kernel
theorem dX2_longestUnseen_10 : decode cX2_longestUnseen 10 = .ok (.iconst 0, 1) := by decide +kernel
theorem dX2_longestUnseen_11 : decode cX2_longestUnseen 11 = .ok (.istore 6, 2) := by decide +kernel
theorem dX2_longestUnseen_13 : decode cX2_longestUnseen 13 = .ok (.iload 6, 2) := by decide +kernel
theorem dX2_longestUnseen_15 : decode cX2_longestUnseen 15 = .ok (.bipush 96, 2) := by decide +kernel
theorem dX2_longestUnseen_17 : decode cX2_longestUnseen 17 = .ok (.if_icmp .ge 42, 3) := by decide +kernel
theorem dX2_longestUnseen_20 : decode cX2_longestUnseen 20 = .ok (.aload_n 0, 1) := by decide +kernel
theorem dX2_longestUnseen_21 : decode cX2_longestUnseen 21 = .ok (.getfield 15, 3) := by decide +kernel
theorem dX2_longestUnseen_24 : decode cX2_longestUnseen 24 = .ok (.iload 6, 2) := by decide +kernel
theorem dX2_longestUnseen_26 : decode cX2_longestUnseen 26 = .ok (.laload, 1) := by decide +kernel
theorem dX2_longestUnseen_27 : decode cX2_longestUnseen 27 = .ok (.lload_n 2, 1) := by decide +kernel
theorem dX2_longestUnseen_28 : decode cX2_longestUnseen 28 = .ok (.land, 1) := by decide +kernel
theorem dX2_longestUnseen_29 : decode cX2_longestUnseen 29 = .ok (.lconst 0, 1) := by decide +kernel
theorem dX2_longestUnseen_30 : decode cX2_longestUnseen 30 = .ok (.lcmp, 1) := by decide +kernel
theorem dX2_longestUnseen_31 : decode cX2_longestUnseen 31 = .ok (.ifCond .eq 7, 3) := by decide +kernel
theorem dX2_longestUnseen_34 : decode cX2_longestUnseen 34 = .ok (.iconst 0, 1) := by decide +kernel
theorem dX2_longestUnseen_35 : decode cX2_longestUnseen 35 = .ok (.goto 7, 3) := by decide +kernel
theorem dX2_longestUnseen_38 : decode cX2_longestUnseen 38 = .ok (.iload 5, 2) := by decide +kernel
theorem dX2_longestUnseen_40 : decode cX2_longestUnseen 40 = .ok (.iconst 1, 1) := by decide +kernel
theorem dX2_longestUnseen_41 : decode cX2_longestUnseen 41 = .ok (.iadd, 1) := by decide +kernel
theorem dX2_longestUnseen_42 : decode cX2_longestUnseen 42 = .ok (.istore 5, 2) := by decide +kernel
theorem dX2_longestUnseen_44 : decode cX2_longestUnseen 44 = .ok (.iload 4, 2) := by decide +kernel
theorem dX2_longestUnseen_46 : decode cX2_longestUnseen 46 = .ok (.iload 5, 2) := by decide +kernel
theorem dX2_longestUnseen_48 : decode cX2_longestUnseen 48 = .ok (.invokestatic 39, 3) := by decide +kernel
theorem dX2_longestUnseen_51 : decode cX2_longestUnseen 51 = .ok (.istore 4, 2) := by decide +kernel
theorem dX2_longestUnseen_53 : decode cX2_longestUnseen 53 = .ok (.iinc 6 1, 3) := by decide +kernel
theorem dX2_longestUnseen_56 : decode cX2_longestUnseen 56 = .ok (.goto (-43), 3) := by decide +kernel
theorem dX2_longestUnseen_59 : decode cX2_longestUnseen 59 = .ok (.iload 4, 2) := by decide +kernel
theorem dX2_longestUnseen_61 : decode cX2_longestUnseen 61 = .ok (.ireturn, 1) := by decide +kernel
theorem dX2_endOfUnseen_0 : decode cX2_endOfUnseen 0 = .ok (.lconst 1, 1) := by decide +kernel
theorem dX2_endOfUnseen_1 : decode cX2_endOfUnseen 1 = .ok (.iload_n 1, 1) := by decide +kernel
theorem dX2_endOfUnseen_2 : decode cX2_endOfUnseen 2 = .ok (.lshl, 1) := by decide +kernel
theorem dX2_endOfUnseen_3 : decode cX2_endOfUnseen 3 = .ok (.lstore_n 3, 1) := by decide +kernel
theorem dX2_endOfUnseen_4 : decode cX2_endOfUnseen 4 = .ok (.iconst 0, 1) := by decide +kernel
theorem dX2_endOfUnseen_5 : decode cX2_endOfUnseen 5 = .ok (.istore 5, 2) := by decide +kernel
theorem dX2_endOfUnseen_7 : decode cX2_endOfUnseen 7 = .ok (.iconst 0, 1) := by decide +kernel
theorem dX2_endOfUnseen_8 : decode cX2_endOfUnseen 8 = .ok (.istore 6, 2) := by decide +kernel
theorem dX2_endOfUnseen_10 : decode cX2_endOfUnseen 10 = .ok (.iload 6, 2) := by decide +kernel
theorem dX2_endOfUnseen_12 : decode cX2_endOfUnseen 12 = .ok (.bipush 96, 2) := by decide +kernel
theorem dX2_endOfUnseen_14 : decode cX2_endOfUnseen 14 = .ok (.if_icmp .ge 42, 3) := by decide +kernel
theorem dX2_endOfUnseen_17 : decode cX2_endOfUnseen 17 = .ok (.aload_n 0, 1) := by decide +kernel
theorem dX2_endOfUnseen_18 : decode cX2_endOfUnseen 18 = .ok (.getfield 15, 3) := by decide +kernel
theorem dX2_endOfUnseen_21 : decode cX2_endOfUnseen 21 = .ok (.iload 6, 2) := by decide +kernel
theorem dX2_endOfUnseen_23 : decode cX2_endOfUnseen 23 = .ok (.laload, 1) := by decide +kernel
theorem dX2_endOfUnseen_24 : decode cX2_endOfUnseen 24 = .ok (.lload_n 3, 1) := by decide +kernel
theorem dX2_endOfUnseen_25 : decode cX2_endOfUnseen 25 = .ok (.land, 1) := by decide +kernel
theorem dX2_endOfUnseen_26 : decode cX2_endOfUnseen 26 = .ok (.lconst 0, 1) := by decide +kernel
theorem dX2_endOfUnseen_27 : decode cX2_endOfUnseen 27 = .ok (.lcmp, 1) := by decide +kernel
theorem dX2_endOfUnseen_28 : decode cX2_endOfUnseen 28 = .ok (.ifCond .eq 7, 3) := by decide +kernel
theorem dX2_endOfUnseen_31 : decode cX2_endOfUnseen 31 = .ok (.iconst 0, 1) := by decide +kernel
theorem dX2_endOfUnseen_32 : decode cX2_endOfUnseen 32 = .ok (.goto 7, 3) := by decide +kernel
theorem dX2_endOfUnseen_35 : decode cX2_endOfUnseen 35 = .ok (.iload 5, 2) := by decide +kernel
theorem dX2_endOfUnseen_37 : decode cX2_endOfUnseen 37 = .ok (.iconst 1, 1) := by decide +kernel
theorem dX2_endOfUnseen_38 : decode cX2_endOfUnseen 38 = .ok (.iadd, 1) := by decide +kernel
theorem dX2_endOfUnseen_39 : decode cX2_endOfUnseen 39 = .ok (.istore 5, 2) := by decide +kernel
theorem dX2_endOfUnseen_41 : decode cX2_endOfUnseen 41 = .ok (.iload 5, 2) := by decide +kernel
theorem dX2_endOfUnseen_43 : decode cX2_endOfUnseen 43 = .ok (.iload_n 2, 1) := by decide +kernel
theorem dX2_endOfUnseen_44 : decode cX2_endOfUnseen 44 = .ok (.if_icmp .lt 6, 3) := by decide +kernel
theorem dX2_endOfUnseen_47 : decode cX2_endOfUnseen 47 = .ok (.iload 6, 2) := by decide +kernel
theorem dX2_endOfUnseen_49 : decode cX2_endOfUnseen 49 = .ok (.ireturn, 1) := by decide +kernel
theorem dX2_endOfUnseen_50 : decode cX2_endOfUnseen 50 = .ok (.iinc 6 1, 3) := by decide +kernel
theorem dX2_endOfUnseen_53 : decode cX2_endOfUnseen 53 = .ok (.goto (-43), 3) := by decide +kernel
theorem dX2_endOfUnseen_56 : decode cX2_endOfUnseen 56 = .ok (.iconst (-1), 1) := by decide +kernel
theorem dX2_endOfUnseen_57 : decode cX2_endOfUnseen 57 = .ok (.ireturn, 1) := by decide +kernel
theorem dX3_init_0 : decode cX3_init 0 = .ok (.aload_n 0, 1) := by decide +kernel
theorem dX3_init_1 : decode cX3_init 1 = .ok (.invokespecial 3, 3) := by decide +kernel
theorem dX3_init_4 : decode cX3_init 4 = .ok (.aload_n 0, 1) := by decide +kernel
theorem dX3_init_5 : decode cX3_init 5 = .ok (.bipush 10, 2) := by decide +kernel
theorem dX3_init_7 : decode cX3_init 7 = .ok (.newarray .long, 2) := by decide +kernel
theorem dX3_init_9 : decode cX3_init 9 = .ok (.putfield 9, 3) := by decide +kernel
theorem dX3_init_12 : decode cX3_init 12 = .ok (.aload_n 0, 1) := by decide +kernel
theorem dX3_init_13 : decode cX3_init 13 = .ok (.iconst 1, 1) := by decide +kernel
theorem dX3_init_14 : decode cX3_init 14 = .ok (.putfield 15, 3) := by decide +kernel
theorem dX3_init_17 : decode cX3_init 17 = .ok (.return_, 1) := by decide +kernel
set_option maxRecDepth 20000 in
theorem ggX3_startFor_J7_fill_d0a16 : GoodIn wsX3_startFor wsJ7_fill_d0a16 := qw_e qk_X3_startFor qk_J7_fill_d0a16 (by decide +kernel)
set_option maxRecDepth 20000 in
theorem gX3_startFor_J7_fill_d0a16 : GoodIn wsX3_startFor (va_wsS RX3 28 yJ7_fill_d0a16 wsJ7_fill_d0a16) := goodIn_app (qw_e qk_X3_startFor (QK_cons qw_220 (QK_cons qw_221 (QK_cons qw_232 QK_nil))) (by decide +kernel)) ggX3_startFor_J7_fill_d0a16
theorem dX3_startFor_0 : decode cX3_startFor 0 = .ok (.aload_n 0, 1) := by decide +kernel
theorem dX3_startFor_1 : decode cX3_startFor 1 = .ok (.iconst 1, 1) := by decide +kernel
theorem dX3_startFor_2 : decode cX3_startFor 2 = .ok (.iload_n 1, 1) := by decide +kernel
theorem dX3_startFor_3 : decode cX3_startFor 3 = .ok (.bipush 9, 2) := by decide +kernel
theorem dX3_startFor_5 : decode cX3_startFor 5 = .ok (.invokestatic 19, 3) := by decide +kernel
theorem dX3_startFor_8 : decode cX3_startFor 8 = .ok (.invokestatic 25, 3) := by decide +kernel
theorem dX3_startFor_11 : decode cX3_startFor 11 = .ok (.putfield 15, 3) := by decide +kernel
theorem dX3_startFor_14 : decode cX3_startFor 14 = .ok (.aload_n 0, 1) := by decide +kernel
theorem dX3_startFor_15 : decode cX3_startFor 15 = .ok (.getfield 9, 3) := by decide +kernel
theorem dX3_startFor_18 : decode cX3_startFor 18 = .ok (.lconst 0, 1) := by decide +kernel
theorem dX3_startFor_19 : decode cX3_startFor 19 = .ok (.invokestatic 28, 3) := by decide +kernel
theorem dX3_startFor_22 : decode cX3_startFor 22 = .ok (.aload_n 0, 1) := by decide +kernel
theorem dX3_startFor_23 : decode cX3_startFor 23 = .ok (.getfield 9, 3) := by decide +kernel
theorem dX3_startFor_26 : decode cX3_startFor 26 = .ok (.iconst 0, 1) := by decide +kernel
theorem dX3_startFor_27 : decode cX3_startFor 27 = .ok (.lconst 1, 1) := by decide +kernel
theorem dX3_startFor_28 : decode cX3_startFor 28 = .ok (.lastore, 1) := by decide +kernel
theorem dX3_startFor_29 : decode cX3_startFor 29 = .ok (.return_, 1) := by decide +kernel
theorem dX3_goOn_0 : decode cX3_goOn 0 = .ok (.lconst 0, 1) := by decide +kernel
theorem dX3_goOn_1 : decode cX3_goOn 1 = .ok (.lstore 5, 2) := by decide +kernel
theorem dX3_goOn_3 : decode cX3_goOn 3 = .ok (.aload_n 0, 1) := by decide +kernel
theorem dX3_goOn_4 : decode cX3_goOn 4 = .ok (.getfield 9, 3) := by decide +kernel
theorem dX3_goOn_7 : decode cX3_goOn 7 = .ok (.aload_n 0, 1) := by decide +kernel
theorem dX3_goOn_8 : decode cX3_goOn 8 = .ok (.getfield 15, 3) := by decide +kernel
theorem dX3_goOn_11 : decode cX3_goOn 11 = .ok (.aload_n 0, 1) := by decide +kernel
theorem dX3_goOn_12 : decode cX3_goOn 12 = .ok (.getfield 9, 3) := by decide +kernel
theorem dX3_goOn_15 : decode cX3_goOn 15 = .ok (.aload_n 0, 1) := by decide +kernel
theorem dX3_goOn_16 : decode cX3_goOn 16 = .ok (.getfield 15, 3) := by decide +kernel
theorem dX3_goOn_19 : decode cX3_goOn 19 = .ok (.laload, 1) := by decide +kernel
theorem dX3_goOn_20 : decode cX3_goOn 20 = .ok (.lload_n 3, 1) := by decide +kernel
theorem dX3_goOn_21 : decode cX3_goOn 21 = .ok (.lmul, 1) := by decide +kernel
theorem dX3_goOn_22 : decode cX3_goOn 22 = .ok (.aload_n 0, 1) := by decide +kernel
theorem dX3_goOn_23 : decode cX3_goOn 23 = .ok (.getfield 9, 3) := by decide +kernel
theorem dX3_goOn_26 : decode cX3_goOn 26 = .ok (.aload_n 0, 1) := by decide +kernel
theorem dX3_goOn_27 : decode cX3_goOn 27 = .ok (.getfield 15, 3) := by decide +kernel
theorem dX3_goOn_30 : decode cX3_goOn 30 = .ok (.iconst 1, 1) := by decide +kernel
theorem dX3_goOn_31 : decode cX3_goOn 31 = .ok (.isub, 1) := by decide +kernel
theorem dX3_goOn_32 : decode cX3_goOn 32 = .ok (.laload, 1) := by decide +kernel
theorem dX3_goOn_33 : decode cX3_goOn 33 = .ok (.lload_n 1, 1) := by decide +kernel
theorem dX3_goOn_34 : decode cX3_goOn 34 = .ok (.lmul, 1) := by decide +kernel
theorem dX3_goOn_35 : decode cX3_goOn 35 = .ok (.ladd, 1) := by decide +kernel
theorem dX3_goOn_36 : decode cX3_goOn 36 = .ok (.lastore, 1) := by decide +kernel
theorem dX3_goOn_37 : decode cX3_goOn 37 = .ok (.aload_n 0, 1) := by decide +kernel
theorem dX3_goOn_38 : decode cX3_goOn 38 = .ok (.getfield 15, 3) := by decide +kernel
theorem dX3_goOn_41 : decode cX3_goOn 41 = .ok (.iconst 1, 1) := by decide +kernel
theorem dX3_goOn_42 : decode cX3_goOn 42 = .ok (.isub, 1) := by decide +kernel
theorem dX3_goOn_43 : decode cX3_goOn 43 = .ok (.istore 7, 2) := by decide +kernel
theorem dX3_goOn_45 : decode cX3_goOn 45 = .ok (.iload 7, 2) := by decide +kernel
theorem dX3_goOn_47 : decode cX3_goOn 47 = .ok (.ifCond .lt 53, 3) := by decide +kernel
theorem dX3_goOn_50 : decode cX3_goOn 50 = .ok (.lload 5, 2) := by decide +kernel
theorem dX3_goOn_52 : decode cX3_goOn 52 = .ok (.aload_n 0, 1) := by decide +kernel
theorem dX3_goOn_53 : decode cX3_goOn 53 = .ok (.getfield 9, 3) := by decide +kernel
theorem dX3_goOn_56 : decode cX3_goOn 56 = .ok (.iload 7, 2) := by decide +kernel
theorem dX3_goOn_58 : decode cX3_goOn 58 = .ok (.laload, 1) := by decide +kernel
theorem dX3_goOn_59 : decode cX3_goOn 59 = .ok (.lload_n 3, 1) := by decide +kernel
theorem dX3_goOn_60 : decode cX3_goOn 60 = .ok (.lload_n 1, 1) := by decide +kernel
theorem dX3_goOn_61 : decode cX3_goOn 61 = .ok (.lsub, 1) := by decide +kernel
theorem dX3_goOn_62 : decode cX3_goOn 62 = .ok (.lmul, 1) := by decide +kernel
theorem dX3_goOn_63 : decode cX3_goOn 63 = .ok (.ladd, 1) := by decide +kernel
theorem dX3_goOn_64 : decode cX3_goOn 64 = .ok (.lstore 5, 2) := by decide +kernel
theorem dX3_goOn_66 : decode cX3_goOn 66 = .ok (.aload_n 0, 1) := by decide +kernel
theorem dX3_goOn_67 : decode cX3_goOn 67 = .ok (.getfield 9, 3) := by decide +kernel
theorem dX3_goOn_70 : decode cX3_goOn 70 = .ok (.iload 7, 2) := by decide +kernel
theorem dX3_goOn_72 : decode cX3_goOn 72 = .ok (.iload 7, 2) := by decide +kernel
theorem dX3_goOn_74 : decode cX3_goOn 74 = .ok (.ifCond .ne 8, 3) := by decide +kernel
theorem dX3_goOn_77 : decode cX3_goOn 77 = .ok (.lload 5, 2) := by decide +kernel
theorem dX3_goOn_79 : decode cX3_goOn 79 = .ok (.goto 14, 3) := by decide +kernel
theorem dX3_goOn_82 : decode cX3_goOn 82 = .ok (.aload_n 0, 1) := by decide +kernel
theorem dX3_goOn_83 : decode cX3_goOn 83 = .ok (.getfield 9, 3) := by decide +kernel
theorem dX3_goOn_86 : decode cX3_goOn 86 = .ok (.iload 7, 2) := by decide +kernel
theorem dX3_goOn_88 : decode cX3_goOn 88 = .ok (.iconst 1, 1) := by decide +kernel
theorem dX3_goOn_89 : decode cX3_goOn 89 = .ok (.isub, 1) := by decide +kernel
theorem dX3_goOn_90 : decode cX3_goOn 90 = .ok (.laload, 1) := by decide +kernel
theorem dX3_goOn_91 : decode cX3_goOn 91 = .ok (.lload_n 1, 1) := by decide +kernel
theorem dX3_goOn_92 : decode cX3_goOn 92 = .ok (.lmul, 1) := by decide +kernel
theorem dX3_goOn_93 : decode cX3_goOn 93 = .ok (.lastore, 1) := by decide +kernel
theorem dX3_goOn_94 : decode cX3_goOn 94 = .ok (.iinc 7 (-1), 3) := by decide +kernel
theorem dX3_goOn_97 : decode cX3_goOn 97 = .ok (.goto (-52), 3) := by decide +kernel
theorem dX3_goOn_100 : decode cX3_goOn 100 = .ok (.return_, 1) := by decide +kernel
theorem dX3_taken_0 : decode cX3_taken 0 = .ok (.aload_n 0, 1) := by decide +kernel
theorem dX3_taken_1 : decode cX3_taken 1 = .ok (.getfield 9, 3) := by decide +kernel
theorem dX3_taken_4 : decode cX3_taken 4 = .ok (.aload_n 0, 1) := by decide +kernel
theorem dX3_taken_5 : decode cX3_taken 5 = .ok (.getfield 15, 3) := by decide +kernel
theorem dX3_taken_8 : decode cX3_taken 8 = .ok (.laload, 1) := by decide +kernel
theorem dX3_taken_9 : decode cX3_taken 9 = .ok (.lreturn, 1) := by decide +kernel
theorem dX4_init_0 : decode cX4_init 0 = .ok (.aload_n 0, 1) := by decide +kernel
theorem dX4_init_1 : decode cX4_init 1 = .ok (.invokespecial 3, 3) := by decide +kernel
theorem dX4_init_4 : decode cX4_init 4 = .ok (.aload_n 0, 1) := by decide +kernel
theorem dX4_init_5 : decode cX4_init 5 = .ok (.bipush 24, 2) := by decide +kernel
theorem dX4_init_7 : decode cX4_init 7 = .ok (.newarray .int, 2) := by decide +kernel
theorem dX4_init_9 : decode cX4_init 9 = .ok (.putfield 9, 3) := by decide +kernel
theorem dX4_init_12 : decode cX4_init 12 = .ok (.aload_n 0, 1) := by decide +kernel
theorem dX4_init_13 : decode cX4_init 13 = .ok (.iconst 0, 1) := by decide +kernel
theorem dX4_init_14 : decode cX4_init 14 = .ok (.putfield 15, 3) := by decide +kernel
theorem dX4_init_17 : decode cX4_init 17 = .ok (.return_, 1) := by decide +kernel
set_option maxRecDepth 20000 in
theorem ggX4_parse_X4_stepOf : GoodIn wsX4_parse wsX4_stepOf := qw_e qk_X4_parse qk_X4_stepOf (by decide +kernel)
set_option maxRecDepth 20000 in
theorem gX4_parse_X4_stepOf : GoodIn wsX4_parse (va_wsS RX4 27 yX4_stepOf wsX4_stepOf) := goodIn_app (qw_e qk_X4_parse (QK_cons qw_844 (QK_cons qw_845 (QK_cons qw_1014 QK_nil))) (by decide +kernel)) ggX4_parse_X4_stepOf
set_option maxRecDepth 20000 in
theorem ggX4_parse_X4_add : GoodIn wsX4_parse wsX4_add := qw_e qk_X4_parse qk_X4_add (by decide +kernel)
set_option maxRecDepth 20000 in
theorem gX4_parse_X4_add : GoodIn wsX4_parse (wsV RX4 31 RX4 yX4_add wsX4_add) := goodIn_app (qw_e qk_X4_parse (QK_cons qw_799 (QK_cons qw_800 (QK_cons qw_801 (QK_cons qw_1014 QK_nil)))) (by decide +kernel)) ggX4_parse_X4_add
theorem dX4_parse_0 : decode cX4_parse 0 = .ok (.aload_n 0, 1) := by decide +kernel
theorem dX4_parse_1 : decode cX4_parse 1 = .ok (.iconst 0, 1) := by decide +kernel
theorem dX4_parse_2 : decode cX4_parse 2 = .ok (.putfield 15, 3) := by decide +kernel
theorem dX4_parse_5 : decode cX4_parse 5 = .ok (.iconst 0, 1) := by decide +kernel
theorem dX4_parse_6 : decode cX4_parse 6 = .ok (.istore_n 2, 1) := by decide +kernel
theorem dX4_parse_7 : decode cX4_parse 7 = .ok (.iload_n 2, 1) := by decide +kernel
theorem dX4_parse_8 : decode cX4_parse 8 = .ok (.aload_n 1, 1) := by decide +kernel
theorem dX4_parse_9 : decode cX4_parse 9 = .ok (.getfield 19, 3) := by decide +kernel
theorem dX4_parse_12 : decode cX4_parse 12 = .ok (.if_icmp .ge 36, 3) := by decide +kernel
theorem dX4_parse_15 : decode cX4_parse 15 = .ok (.aload_n 1, 1) := by decide +kernel
theorem dX4_parse_16 : decode cX4_parse 16 = .ok (.getfield 24, 3) := by decide +kernel
theorem dX4_parse_19 : decode cX4_parse 19 = .ok (.iload_n 2, 1) := by decide +kernel
theorem dX4_parse_20 : decode cX4_parse 20 = .ok (.iaload, 1) := by decide +kernel
theorem dX4_parse_21 : decode cX4_parse 21 = .ok (.invokestatic 27, 3) := by decide +kernel
theorem dX4_parse_24 : decode cX4_parse 24 = .ok (.istore_n 3, 1) := by decide +kernel
theorem dX4_parse_25 : decode cX4_parse 25 = .ok (.iload_n 3, 1) := by decide +kernel
theorem dX4_parse_26 : decode cX4_parse 26 = .ok (.iconst (-1), 1) := by decide +kernel
theorem dX4_parse_27 : decode cX4_parse 27 = .ok (.if_icmp .ne 10, 3) := by decide +kernel
theorem dX4_parse_30 : decode cX4_parse 30 = .ok (.aload_n 0, 1) := by decide +kernel
theorem dX4_parse_31 : decode cX4_parse 31 = .ok (.iconst 0, 1) := by decide +kernel
theorem dX4_parse_32 : decode cX4_parse 32 = .ok (.putfield 15, 3) := by decide +kernel
theorem dX4_parse_35 : decode cX4_parse 35 = .ok (.iload_n 2, 1) := by decide +kernel
theorem dX4_parse_36 : decode cX4_parse 36 = .ok (.ireturn, 1) := by decide +kernel
theorem dX4_parse_37 : decode cX4_parse 37 = .ok (.aload_n 0, 1) := by decide +kernel
theorem dX4_parse_38 : decode cX4_parse 38 = .ok (.iload_n 3, 1) := by decide +kernel
theorem dX4_parse_39 : decode cX4_parse 39 = .ok (.invokevirtual 31, 3) := by decide +kernel
theorem dX4_parse_42 : decode cX4_parse 42 = .ok (.iinc 2 1, 3) := by decide +kernel
theorem dX4_parse_45 : decode cX4_parse 45 = .ok (.goto (-38), 3) := by decide +kernel
theorem dX4_parse_48 : decode cX4_parse 48 = .ok (.iconst (-1), 1) := by decide +kernel
theorem dX4_parse_49 : decode cX4_parse 49 = .ok (.ireturn, 1) := by decide +kernel
theorem dX4_stepOf_0 : decode cX4_stepOf 0 = .ok (.iload_n 0, 1) := by decide +kernel
theorem dX4_stepOf_1 : decode cX4_stepOf 1 = .ok (.lookupswitch 61 #[(46, 59), (101, 53), (110, 51), (115, 55), (119, 57)], 51) := by decide +kernel
theorem dX4_stepOf_52 : decode cX4_stepOf 52 = .ok (.iconst 0, 1) := by decide +kernel
theorem dX4_stepOf_53 : decode cX4_stepOf 53 = .ok (.ireturn, 1) := by decide +kernel
theorem dX4_stepOf_54 : decode cX4_stepOf 54 = .ok (.iconst 1, 1) := by decide +kernel
theorem dX4_stepOf_55 : decode cX4_stepOf 55 = .ok (.ireturn, 1) := by decide +kernel
theorem dX4_stepOf_56 : decode cX4_stepOf 56 = .ok (.iconst 2, 1) := by decide +kernel
theorem dX4_stepOf_57 : decode cX4_stepOf 57 = .ok (.ireturn, 1) := by decide +kernel
theorem dX4_stepOf_58 : decode cX4_stepOf 58 = .ok (.iconst 3, 1) := by decide +kernel
theorem dX4_stepOf_59 : decode cX4_stepOf 59 = .ok (.ireturn, 1) := by decide +kernel
theorem dX4_stepOf_60 : decode cX4_stepOf 60 = .ok (.iconst 4, 1) := by decide +kernel
theorem dX4_stepOf_61 : decode cX4_stepOf 61 = .ok (.ireturn, 1) := by decide +kernel
theorem dX4_stepOf_62 : decode cX4_stepOf 62 = .ok (.iconst (-1), 1) := by decide +kernel
theorem dX4_stepOf_63 : decode cX4_stepOf 63 = .ok (.ireturn, 1) := by decide +kernel
theorem dX4_add_0 : decode cX4_add 0 = .ok (.aload_n 0, 1) := by decide +kernel
theorem dX4_add_1 : decode cX4_add 1 = .ok (.getfield 15, 3) := by decide +kernel
theorem dX4_add_4 : decode cX4_add 4 = .ok (.aload_n 0, 1) := by decide +kernel
theorem dX4_add_5 : decode cX4_add 5 = .ok (.getfield 9, 3) := by decide +kernel
theorem dX4_add_8 : decode cX4_add 8 = .ok (.arraylength, 1) := by decide +kernel
theorem dX4_add_9 : decode cX4_add 9 = .ok (.if_icmp .ge 23, 3) := by decide +kernel
theorem dX4_add_12 : decode cX4_add 12 = .ok (.aload_n 0, 1) := by decide +kernel
theorem dX4_add_13 : decode cX4_add 13 = .ok (.getfield 9, 3) := by decide +kernel
theorem dX4_add_16 : decode cX4_add 16 = .ok (.aload_n 0, 1) := by decide +kernel
theorem dX4_add_17 : decode cX4_add 17 = .ok (.getfield 15, 3) := by decide +kernel
theorem dX4_add_20 : decode cX4_add 20 = .ok (.iload_n 1, 1) := by decide +kernel
theorem dX4_add_21 : decode cX4_add 21 = .ok (.iastore, 1) := by decide +kernel
theorem dX4_add_22 : decode cX4_add 22 = .ok (.aload_n 0, 1) := by decide +kernel
theorem dX4_add_23 : decode cX4_add 23 = .ok (.dup, 1) := by decide +kernel
theorem dX4_add_24 : decode cX4_add 24 = .ok (.getfield 15, 3) := by decide +kernel
theorem dX4_add_27 : decode cX4_add 27 = .ok (.iconst 1, 1) := by decide +kernel
theorem dX4_add_28 : decode cX4_add 28 = .ok (.iadd, 1) := by decide +kernel
theorem dX4_add_29 : decode cX4_add 29 = .ok (.putfield 15, 3) := by decide +kernel
theorem dX4_add_32 : decode cX4_add 32 = .ok (.return_, 1) := by decide +kernel
set_option maxRecDepth 20000 in
theorem ggX4_takeAllBut_X4_add : GoodIn wsX4_takeAllBut wsX4_add := qw_e qk_X4_takeAllBut qk_X4_add (by decide +kernel)
set_option maxRecDepth 20000 in
theorem gX4_takeAllBut_X4_add : GoodIn wsX4_takeAllBut (wsV RX4 31 RX4 yX4_add wsX4_add) := goodIn_app (qw_e qk_X4_takeAllBut (QK_cons qw_799 (QK_cons qw_800 (QK_cons qw_801 (QK_cons qw_1014 QK_nil)))) (by decide +kernel)) ggX4_takeAllBut_X4_add
theorem dX4_takeAllBut_0 : decode cX4_takeAllBut 0 = .ok (.aload_n 0, 1) := by decide +kernel
theorem dX4_takeAllBut_1 : decode cX4_takeAllBut 1 = .ok (.iconst 0, 1) := by decide +kernel
theorem dX4_takeAllBut_2 : decode cX4_takeAllBut 2 = .ok (.putfield 15, 3) := by decide +kernel
theorem dX4_takeAllBut_5 : decode cX4_takeAllBut 5 = .ok (.iconst 0, 1) := by decide +kernel
theorem dX4_takeAllBut_6 : decode cX4_takeAllBut 6 = .ok (.istore 4, 2) := by decide +kernel
theorem dX4_takeAllBut_8 : decode cX4_takeAllBut 8 = .ok (.iload 4, 2) := by decide +kernel
theorem dX4_takeAllBut_10 : decode cX4_takeAllBut 10 = .ok (.aload_n 1, 1) := by decide +kernel
theorem dX4_takeAllBut_11 : decode cX4_takeAllBut 11 = .ok (.getfield 15, 3) := by decide +kernel
theorem dX4_takeAllBut_14 : decode cX4_takeAllBut 14 = .ok (.if_icmp .ge 32, 3) := by decide +kernel
theorem dX4_takeAllBut_17 : decode cX4_takeAllBut 17 = .ok (.iload 4, 2) := by decide +kernel
theorem dX4_takeAllBut_19 : decode cX4_takeAllBut 19 = .ok (.iload_n 2, 1) := by decide +kernel
theorem dX4_takeAllBut_20 : decode cX4_takeAllBut 20 = .ok (.if_icmp .eq 20, 3) := by decide +kernel
theorem dX4_takeAllBut_23 : decode cX4_takeAllBut 23 = .ok (.iload 4, 2) := by decide +kernel
theorem dX4_takeAllBut_25 : decode cX4_takeAllBut 25 = .ok (.iload_n 3, 1) := by decide +kernel
theorem dX4_takeAllBut_26 : decode cX4_takeAllBut 26 = .ok (.if_icmp .eq 14, 3) := by decide +kernel
theorem dX4_takeAllBut_29 : decode cX4_takeAllBut 29 = .ok (.aload_n 0, 1) := by decide +kernel
theorem dX4_takeAllBut_30 : decode cX4_takeAllBut 30 = .ok (.aload_n 1, 1) := by decide +kernel
theorem dX4_takeAllBut_31 : decode cX4_takeAllBut 31 = .ok (.getfield 9, 3) := by decide +kernel
theorem dX4_takeAllBut_34 : decode cX4_takeAllBut 34 = .ok (.iload 4, 2) := by decide +kernel
theorem dX4_takeAllBut_36 : decode cX4_takeAllBut 36 = .ok (.iaload, 1) := by decide +kernel
theorem dX4_takeAllBut_37 : decode cX4_takeAllBut 37 = .ok (.invokevirtual 31, 3) := by decide +kernel
theorem dX4_takeAllBut_40 : decode cX4_takeAllBut 40 = .ok (.iinc 4 1, 3) := by decide +kernel
theorem dX4_takeAllBut_43 : decode cX4_takeAllBut 43 = .ok (.goto (-35), 3) := by decide +kernel
theorem dX4_takeAllBut_46 : decode cX4_takeAllBut 46 = .ok (.return_, 1) := by decide +kernel
set_option maxRecDepth 20000 in
theorem ggX4_drawLots_X4_add : GoodIn wsX4_drawLots wsX4_add := qw_e qk_X4_drawLots qk_X4_add (by decide +kernel)
set_option maxRecDepth 20000 in
theorem gX4_drawLots_X4_add : GoodIn wsX4_drawLots (wsV RX4 31 RX4 yX4_add wsX4_add) := goodIn_app (qw_e qk_X4_drawLots (QK_cons qw_799 (QK_cons qw_800 (QK_cons qw_801 (QK_cons qw_1014 QK_nil)))) (by decide +kernel)) ggX4_drawLots_X4_add
theorem dX4_drawLots_0 : decode cX4_drawLots 0 = .ok (.aload_n 0, 1) := by decide +kernel
theorem dX4_drawLots_1 : decode cX4_drawLots 1 = .ok (.iconst 0, 1) := by decide +kernel
theorem dX4_drawLots_2 : decode cX4_drawLots 2 = .ok (.putfield 15, 3) := by decide +kernel
theorem dX4_drawLots_5 : decode cX4_drawLots 5 = .ok (.iload_n 1, 1) := by decide +kernel
theorem dX4_drawLots_6 : decode cX4_drawLots 6 = .ok (.istore_n 3, 1) := by decide +kernel
theorem dX4_drawLots_7 : decode cX4_drawLots 7 = .ok (.iconst 0, 1) := by decide +kernel
theorem dX4_drawLots_8 : decode cX4_drawLots 8 = .ok (.istore 4, 2) := by decide +kernel
theorem dX4_drawLots_10 : decode cX4_drawLots 10 = .ok (.iload 4, 2) := by decide +kernel
theorem dX4_drawLots_12 : decode cX4_drawLots 12 = .ok (.iload_n 2, 1) := by decide +kernel
theorem dX4_drawLots_13 : decode cX4_drawLots 13 = .ok (.if_icmp .ge 28, 3) := by decide +kernel
theorem dX4_drawLots_16 : decode cX4_drawLots 16 = .ok (.ldc 35, 2) := by decide +kernel
theorem dX4_drawLots_18 : decode cX4_drawLots 18 = .ok (.iload_n 3, 1) := by decide +kernel
theorem dX4_drawLots_19 : decode cX4_drawLots 19 = .ok (.imul, 1) := by decide +kernel
theorem dX4_drawLots_20 : decode cX4_drawLots 20 = .ok (.sipush 12345, 3) := by decide +kernel
