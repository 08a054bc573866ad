theorem dX9_fogged_103 : decode cX9_fogged 103 = .ok (.iinc 10 1, 3) := by decide +kernel
theorem dX9_fogged_106 : decode cX9_fogged 106 = .ok (.goto (-37), 3) := by decide +kernel
theorem dX9_fogged_109 : decode cX9_fogged 109 = .ok (.iload 4, 2) := by decide +kernel
theorem dX9_fogged_111 : decode cX9_fogged 111 = .ok (.ifCond .ne 8, 3) := by decide +kernel
theorem dX9_fogged_114 : decode cX9_fogged 114 = .ok (.lload 5, 2) := by decide +kernel
theorem dX9_fogged_116 : decode cX9_fogged 116 = .ok (.goto 5, 3) := by decide +kernel
theorem dX9_fogged_119 : decode cX9_fogged 119 = .ok (.lload 8, 2) := by decide +kernel
theorem dX9_fogged_121 : decode cX9_fogged 121 = .ok (.lreturn, 1) := by decide +kernel
set_option maxRecDepth 20000 in
theorem ggX9_nights_X9_isEither : GoodIn wsX9_nights wsX9_isEither := qw_e qk_X9_nights qk_X9_isEither (by decide +kernel)
set_option maxRecDepth 20000 in
theorem gX9_nights_X9_isEither : GoodIn wsX9_nights (va_wsS RX9 133 yX9_isEither wsX9_isEither) := goodIn_app (qw_e qk_X9_nights (QK_cons qw_692 (QK_cons qw_693 (QK_cons qw_993 QK_nil))) (by decide +kernel)) ggX9_nights_X9_isEither
set_option maxRecDepth 20000 in
theorem ggX9_nights_X9_settle : GoodIn wsX9_nights wsX9_settle := qw_e qk_X9_nights qk_X9_settle (by decide +kernel)
set_option maxRecDepth 20000 in
theorem gX9_nights_X9_settle : GoodIn wsX9_nights (wsV RX9 148 RX9 yX9_settle wsX9_settle) := goodIn_app (qw_e qk_X9_nights (QK_cons qw_674 (QK_cons qw_675 (QK_cons qw_676 (QK_cons qw_993 QK_nil)))) (by decide +kernel)) ggX9_nights_X9_settle
set_option maxRecDepth 20000 in
theorem ggX9_nights_X4_drawLots : GoodIn wsX9_nights wsX4_drawLots := qw_e qk_X9_nights qk_X4_drawLots (by decide +kernel)
set_option maxRecDepth 20000 in
theorem gX9_nights_X4_drawLots : GoodIn wsX9_nights (wsV RX9 281 RX4 yX4_drawLots wsX4_drawLots) := goodIn_app (qw_e qk_X9_nights (QK_cons qw_159 (QK_cons qw_160 (QK_cons qw_161 (QK_cons qw_1014 QK_nil)))) (by decide +kernel)) ggX9_nights_X4_drawLots
set_option maxRecDepth 20000 in
theorem ggX9_nights_X2_walk : GoodIn wsX9_nights wsX2_walk := qw_e qk_X9_nights qk_X2_walk (by decide +kernel)
set_option maxRecDepth 20000 in
theorem gX9_nights_X2_walk : GoodIn wsX9_nights (wsV RX9 213 RX2 yX2_walk wsX2_walk) := goodIn_app (qw_e qk_X9_nights (QK_cons qw_616 (QK_cons qw_617 (QK_cons qw_618 (QK_cons qw_984 QK_nil)))) (by decide +kernel)) ggX9_nights_X2_walk
set_option maxRecDepth 20000 in
theorem ggX9_nights_X7_howManyTake : GoodIn wsX9_nights wsX7_howManyTake := qw_e qk_X9_nights qk_X7_howManyTake (by decide +kernel)
set_option maxRecDepth 20000 in
theorem gX9_nights_X7_howManyTake : GoodIn wsX9_nights (wsV RX9 186 RX7 yX7_howManyTake wsX7_howManyTake) := goodIn_app (qw_e qk_X9_nights (QK_cons qw_486 (QK_cons qw_439 (QK_cons qw_440 (QK_cons qw_970 QK_nil)))) (by decide +kernel)) ggX9_nights_X7_howManyTake
theorem dX9_nights_0 : decode cX9_nights 0 = .ok (.iload_n 2, 1) := by decide +kernel
theorem dX9_nights_1 : decode cX9_nights 1 = .ok (.iconst 1, 1) := by decide +kernel
theorem dX9_nights_2 : decode cX9_nights 2 = .ok (.if_icmp .lt 16, 3) := by decide +kernel
theorem dX9_nights_5 : decode cX9_nights 5 = .ok (.iload_n 2, 1) := by decide +kernel
theorem dX9_nights_6 : decode cX9_nights 6 = .ok (.bipush 24, 2) := by decide +kernel
theorem dX9_nights_8 : decode cX9_nights 8 = .ok (.if_icmp .gt 10, 3) := by decide +kernel
theorem dX9_nights_11 : decode cX9_nights 11 = .ok (.iload_n 3, 1) := by decide +kernel
theorem dX9_nights_12 : decode cX9_nights 12 = .ok (.invokestatic 133, 3) := by decide +kernel
theorem dX9_nights_15 : decode cX9_nights 15 = .ok (.ifCond .ne 6, 3) := by decide +kernel
theorem dX9_nights_18 : decode cX9_nights 18 = .ok (.bipush (-2), 2) := by decide +kernel
theorem dX9_nights_20 : decode cX9_nights 20 = .ok (.ireturn, 1) := by decide +kernel
theorem dX9_nights_21 : decode cX9_nights 21 = .ok (.aload_n 0, 1) := by decide +kernel
theorem dX9_nights_22 : decode cX9_nights 22 = .ok (.invokevirtual 148, 3) := by decide +kernel
theorem dX9_nights_25 : decode cX9_nights 25 = .ok (.aload_n 0, 1) := by decide +kernel
theorem dX9_nights_26 : decode cX9_nights 26 = .ok (.getfield 70, 3) := by decide +kernel
theorem dX9_nights_29 : decode cX9_nights 29 = .ok (.iload_n 1, 1) := by decide +kernel
theorem dX9_nights_30 : decode cX9_nights 30 = .ok (.iload_n 2, 1) := by decide +kernel
theorem dX9_nights_31 : decode cX9_nights 31 = .ok (.invokevirtual 281, 3) := by decide +kernel
theorem dX9_nights_34 : decode cX9_nights 34 = .ok (.aload_n 0, 1) := by decide +kernel
theorem dX9_nights_35 : decode cX9_nights 35 = .ok (.getfield 76, 3) := by decide +kernel
theorem dX9_nights_38 : decode cX9_nights 38 = .ok (.aload_n 0, 1) := by decide +kernel
theorem dX9_nights_39 : decode cX9_nights 39 = .ok (.getfield 59, 3) := by decide +kernel
theorem dX9_nights_42 : decode cX9_nights 42 = .ok (.aload_n 0, 1) := by decide +kernel
theorem dX9_nights_43 : decode cX9_nights 43 = .ok (.getfield 19, 3) := by decide +kernel
theorem dX9_nights_46 : decode cX9_nights 46 = .ok (.iconst 0, 1) := by decide +kernel
theorem dX9_nights_47 : decode cX9_nights 47 = .ok (.iaload, 1) := by decide +kernel
theorem dX9_nights_48 : decode cX9_nights 48 = .ok (.aload_n 0, 1) := by decide +kernel
theorem dX9_nights_49 : decode cX9_nights 49 = .ok (.getfield 70, 3) := by decide +kernel
theorem dX9_nights_52 : decode cX9_nights 52 = .ok (.invokevirtual 213, 3) := by decide +kernel
theorem dX9_nights_55 : decode cX9_nights 55 = .ok (.iload_n 3, 1) := by decide +kernel
theorem dX9_nights_56 : decode cX9_nights 56 = .ok (.ifCond .ne 21, 3) := by decide +kernel
theorem dX9_nights_59 : decode cX9_nights 59 = .ok (.aload_n 0, 1) := by decide +kernel
theorem dX9_nights_60 : decode cX9_nights 60 = .ok (.getfield 39, 3) := by decide +kernel
theorem dX9_nights_63 : decode cX9_nights 63 = .ok (.aload_n 0, 1) := by decide +kernel
theorem dX9_nights_64 : decode cX9_nights 64 = .ok (.getfield 25, 3) := by decide +kernel
theorem dX9_nights_67 : decode cX9_nights 67 = .ok (.aload_n 0, 1) := by decide +kernel
theorem dX9_nights_68 : decode cX9_nights 68 = .ok (.getfield 76, 3) := by decide +kernel
theorem dX9_nights_71 : decode cX9_nights 71 = .ok (.invokevirtual 186, 3) := by decide +kernel
theorem dX9_nights_74 : decode cX9_nights 74 = .ok (.goto 12, 3) := by decide +kernel
theorem dX9_nights_77 : decode cX9_nights 77 = .ok (.aload_n 0, 1) := by decide +kernel
theorem dX9_nights_78 : decode cX9_nights 78 = .ok (.getfield 76, 3) := by decide +kernel
theorem dX9_nights_81 : decode cX9_nights 81 = .ok (.getfield 151, 3) := by decide +kernel
theorem dX9_nights_84 : decode cX9_nights 84 = .ok (.iload_n 2, 1) := by decide +kernel
theorem dX9_nights_85 : decode cX9_nights 85 = .ok (.iaload, 1) := by decide +kernel
theorem dX9_nights_86 : decode cX9_nights 86 = .ok (.ireturn, 1) := by decide +kernel
set_option maxRecDepth 20000 in
theorem ggX9_sheet_X9_isSheet : GoodIn wsX9_sheet wsX9_isSheet := qw_e qk_X9_sheet qk_X9_isSheet (by decide +kernel)
set_option maxRecDepth 20000 in
theorem gX9_sheet_X9_isSheet : GoodIn wsX9_sheet (wsV RX9 232 RX9 yX9_isSheet wsX9_isSheet) := goodIn_app (qw_e qk_X9_sheet (QK_cons qw_340 (QK_cons qw_341 (QK_cons qw_342 (QK_cons qw_993 QK_nil)))) (by decide +kernel)) ggX9_sheet_X9_isSheet
set_option maxRecDepth 20000 in
theorem ggX9_sheet_X5_isForm : GoodIn wsX9_sheet wsX5_isForm := qw_e qk_X9_sheet qk_X5_isForm (by decide +kernel)
set_option maxRecDepth 20000 in
theorem gX9_sheet_X5_isForm : GoodIn wsX9_sheet (va_wsS RX9 285 yX5_isForm wsX5_isForm) := goodIn_app (qw_e qk_X9_sheet (QK_cons qw_129 (QK_cons qw_130 (QK_cons qw_953 QK_nil))) (by decide +kernel)) ggX9_sheet_X5_isForm
set_option maxRecDepth 20000 in
theorem ggX9_sheet_X9_found : GoodIn wsX9_sheet wsX9_found := qw_e qk_X9_sheet qk_X9_found (by decide +kernel)
set_option maxRecDepth 20000 in
theorem gX9_sheet_X9_found : GoodIn wsX9_sheet (wsV RX9 237 RX9 yX9_found wsX9_found) := goodIn_app (qw_e qk_X9_sheet (QK_cons qw_296 (QK_cons qw_297 (QK_cons qw_298 (QK_cons qw_993 QK_nil)))) (by decide +kernel)) ggX9_sheet_X9_found
set_option maxRecDepth 20000 in
theorem ggX9_sheet_X5_renew : GoodIn wsX9_sheet wsX5_renew := qw_e qk_X9_sheet qk_X5_renew (by decide +kernel)
set_option maxRecDepth 20000 in
theorem gX9_sheet_X5_renew : GoodIn wsX9_sheet (wsV RX9 288 RX5 yX5_renew wsX5_renew) := goodIn_app (qw_e qk_X9_sheet (QK_cons qw_132 (QK_cons qw_133 (QK_cons qw_134 (QK_cons qw_953 QK_nil)))) (by decide +kernel)) ggX9_sheet_X5_renew
theorem dX9_sheet_0 : decode cX9_sheet 0 = .ok (.aload_n 0, 1) := by decide +kernel
theorem dX9_sheet_1 : decode cX9_sheet 1 = .ok (.iload_n 1, 1) := by decide +kernel
theorem dX9_sheet_2 : decode cX9_sheet 2 = .ok (.invokevirtual 232, 3) := by decide +kernel
theorem dX9_sheet_5 : decode cX9_sheet 5 = .ok (.ifCond .eq 16, 3) := by decide +kernel
theorem dX9_sheet_8 : decode cX9_sheet 8 = .ok (.iload_n 2, 1) := by decide +kernel
theorem dX9_sheet_9 : decode cX9_sheet 9 = .ok (.invokestatic 285, 3) := by decide +kernel
theorem dX9_sheet_12 : decode cX9_sheet 12 = .ok (.ifCond .eq 9, 3) := by decide +kernel
theorem dX9_sheet_15 : decode cX9_sheet 15 = .ok (.iload_n 3, 1) := by decide +kernel
theorem dX9_sheet_16 : decode cX9_sheet 16 = .ok (.bipush 60, 2) := by decide +kernel
theorem dX9_sheet_18 : decode cX9_sheet 18 = .ok (.if_icmp .le 6, 3) := by decide +kernel
theorem dX9_sheet_21 : decode cX9_sheet 21 = .ok (.bipush (-2), 2) := by decide +kernel
theorem dX9_sheet_23 : decode cX9_sheet 23 = .ok (.ireturn, 1) := by decide +kernel
theorem dX9_sheet_24 : decode cX9_sheet 24 = .ok (.iload_n 3, 1) := by decide +kernel
theorem dX9_sheet_25 : decode cX9_sheet 25 = .ok (.ifCond .ge 9, 3) := by decide +kernel
theorem dX9_sheet_28 : decode cX9_sheet 28 = .ok (.aload_n 0, 1) := by decide +kernel
theorem dX9_sheet_29 : decode cX9_sheet 29 = .ok (.iconst 5, 1) := by decide +kernel
theorem dX9_sheet_30 : decode cX9_sheet 30 = .ok (.invokevirtual 237, 3) := by decide +kernel
theorem dX9_sheet_33 : decode cX9_sheet 33 = .ok (.ireturn, 1) := by decide +kernel
theorem dX9_sheet_34 : decode cX9_sheet 34 = .ok (.aload_n 0, 1) := by decide +kernel
theorem dX9_sheet_35 : decode cX9_sheet 35 = .ok (.getfield 52, 3) := by decide +kernel
theorem dX9_sheet_38 : decode cX9_sheet 38 = .ok (.iload_n 1, 1) := by decide +kernel
theorem dX9_sheet_39 : decode cX9_sheet 39 = .ok (.aaload, 1) := by decide +kernel
theorem dX9_sheet_40 : decode cX9_sheet 40 = .ok (.iload_n 2, 1) := by decide +kernel
theorem dX9_sheet_41 : decode cX9_sheet 41 = .ok (.iload_n 3, 1) := by decide +kernel
theorem dX9_sheet_42 : decode cX9_sheet 42 = .ok (.invokevirtual 288, 3) := by decide +kernel
theorem dX9_sheet_45 : decode cX9_sheet 45 = .ok (.iload_n 3, 1) := by decide +kernel
theorem dX9_sheet_46 : decode cX9_sheet 46 = .ok (.ireturn, 1) := by decide +kernel
set_option maxRecDepth 20000 in
theorem ggX9_lose_X9_isSheet : GoodIn wsX9_lose wsX9_isSheet := qw_e qk_X9_lose qk_X9_isSheet (by decide +kernel)
set_option maxRecDepth 20000 in
theorem gX9_lose_X9_isSheet : GoodIn wsX9_lose (wsV RX9 232 RX9 yX9_isSheet wsX9_isSheet) := goodIn_app (qw_e qk_X9_lose (QK_cons qw_340 (QK_cons qw_341 (QK_cons qw_342 (QK_cons qw_993 QK_nil)))) (by decide +kernel)) ggX9_lose_X9_isSheet
set_option maxRecDepth 20000 in
theorem ggX9_lose_X9_found : GoodIn wsX9_lose wsX9_found := qw_e qk_X9_lose qk_X9_found (by decide +kernel)
set_option maxRecDepth 20000 in
theorem gX9_lose_X9_found : GoodIn wsX9_lose (wsV RX9 237 RX9 yX9_found wsX9_found) := goodIn_app (qw_e qk_X9_lose (QK_cons qw_296 (QK_cons qw_297 (QK_cons qw_298 (QK_cons qw_993 QK_nil)))) (by decide +kernel)) ggX9_lose_X9_found
theorem dX9_lose_0 : decode cX9_lose 0 = .ok (.aload_n 0, 1) := by decide +kernel
theorem dX9_lose_1 : decode cX9_lose 1 = .ok (.iload_n 1, 1) := by decide +kernel
theorem dX9_lose_2 : decode cX9_lose 2 = .ok (.invokevirtual 232, 3) := by decide +kernel
theorem dX9_lose_5 : decode cX9_lose 5 = .ok (.ifCond .ne 6, 3) := by decide +kernel
theorem dX9_lose_8 : decode cX9_lose 8 = .ok (.bipush (-2), 2) := by decide +kernel
theorem dX9_lose_10 : decode cX9_lose 10 = .ok (.ireturn, 1) := by decide +kernel
theorem dX9_lose_11 : decode cX9_lose 11 = .ok (.aload_n 0, 1) := by decide +kernel
theorem dX9_lose_12 : decode cX9_lose 12 = .ok (.getfield 52, 3) := by decide +kernel
theorem dX9_lose_15 : decode cX9_lose 15 = .ok (.iload_n 1, 1) := by decide +kernel
theorem dX9_lose_16 : decode cX9_lose 16 = .ok (.aaload, 1) := by decide +kernel
theorem dX9_lose_17 : decode cX9_lose 17 = .ok (.getfield 235, 3) := by decide +kernel
theorem dX9_lose_20 : decode cX9_lose 20 = .ok (.ifCond .eq 9, 3) := by decide +kernel
theorem dX9_lose_23 : decode cX9_lose 23 = .ok (.aload_n 0, 1) := by decide +kernel
theorem dX9_lose_24 : decode cX9_lose 24 = .ok (.iconst 1, 1) := by decide +kernel
theorem dX9_lose_25 : decode cX9_lose 25 = .ok (.invokevirtual 237, 3) := by decide +kernel
theorem dX9_lose_28 : decode cX9_lose 28 = .ok (.ireturn, 1) := by decide +kernel
theorem dX9_lose_29 : decode cX9_lose 29 = .ok (.aload_n 0, 1) := by decide +kernel
theorem dX9_lose_30 : decode cX9_lose 30 = .ok (.getfield 52, 3) := by decide +kernel
theorem dX9_lose_33 : decode cX9_lose 33 = .ok (.iload_n 1, 1) := by decide +kernel
theorem dX9_lose_34 : decode cX9_lose 34 = .ok (.aaload, 1) := by decide +kernel
theorem dX9_lose_35 : decode cX9_lose 35 = .ok (.iconst 1, 1) := by decide +kernel
theorem dX9_lose_36 : decode cX9_lose 36 = .ok (.putfield 235, 3) := by decide +kernel
theorem dX9_lose_39 : decode cX9_lose 39 = .ok (.aload_n 0, 1) := by decide +kernel
theorem dX9_lose_40 : decode cX9_lose 40 = .ok (.getfield 52, 3) := by decide +kernel
theorem dX9_lose_43 : decode cX9_lose 43 = .ok (.iload_n 1, 1) := by decide +kernel
theorem dX9_lose_44 : decode cX9_lose 44 = .ok (.aaload, 1) := by decide +kernel
theorem dX9_lose_45 : decode cX9_lose 45 = .ok (.getfield 291, 3) := by decide +kernel
theorem dX9_lose_48 : decode cX9_lose 48 = .ok (.ireturn, 1) := by decide +kernel
set_option maxRecDepth 20000 in
theorem ggX9_put_X9_isSheet : GoodIn wsX9_put wsX9_isSheet := qw_e qk_X9_put qk_X9_isSheet (by decide +kernel)
set_option maxRecDepth 20000 in
theorem gX9_put_X9_isSheet : GoodIn wsX9_put (wsV RX9 232 RX9 yX9_isSheet wsX9_isSheet) := goodIn_app (qw_e qk_X9_put (QK_cons qw_340 (QK_cons qw_341 (QK_cons qw_342 (QK_cons qw_993 QK_nil)))) (by decide +kernel)) ggX9_put_X9_isSheet
set_option maxRecDepth 20000 in
theorem ggX9_put_X5_isForm : GoodIn wsX9_put wsX5_isForm := qw_e qk_X9_put qk_X5_isForm (by decide +kernel)
set_option maxRecDepth 20000 in
theorem gX9_put_X5_isForm : GoodIn wsX9_put (va_wsS RX9 285 yX5_isForm wsX5_isForm) := goodIn_app (qw_e qk_X9_put (QK_cons qw_129 (QK_cons qw_130 (QK_cons qw_953 QK_nil))) (by decide +kernel)) ggX9_put_X5_isForm
set_option maxRecDepth 20000 in
theorem ggX9_put_X5_findingOf : GoodIn wsX9_put wsX5_findingOf := qw_e qk_X9_put qk_X5_findingOf (by decide +kernel)
set_option maxRecDepth 20000 in
theorem gX9_put_X5_findingOf : GoodIn wsX9_put (wsV RX9 294 RX5 yX5_findingOf wsX5_findingOf) := goodIn_app (qw_e qk_X9_put (QK_cons qw_107 (QK_cons qw_108 (QK_cons qw_109 (QK_cons qw_953 QK_nil)))) (by decide +kernel)) ggX9_put_X5_findingOf
set_option maxRecDepth 20000 in
theorem ggX9_put_X9_found : GoodIn wsX9_put wsX9_found := qw_e qk_X9_put qk_X9_found (by decide +kernel)
set_option maxRecDepth 20000 in
theorem gX9_put_X9_found : GoodIn wsX9_put (wsV RX9 237 RX9 yX9_found wsX9_found) := goodIn_app (qw_e qk_X9_put (QK_cons qw_296 (QK_cons qw_297 (QK_cons qw_298 (QK_cons qw_993 QK_nil)))) (by decide +kernel)) ggX9_put_X9_found
set_option maxRecDepth 20000 in
theorem ggX9_put_X5_store : GoodIn wsX9_put wsX5_store := qw_e qk_X9_put qk_X5_store (by decide +kernel)
set_option maxRecDepth 20000 in
theorem gX9_put_X5_store : GoodIn wsX9_put (wsV RX9 297 RX5 yX5_store wsX5_store) := goodIn_app (qw_e qk_X9_put (QK_cons qw_115 (QK_cons qw_116 (QK_cons qw_117 (QK_cons qw_953 QK_nil)))) (by decide +kernel)) ggX9_put_X5_store
theorem dX9_put_0 : decode cX9_put 0 = .ok (.aload_n 0, 1) := by decide +kernel
theorem dX9_put_1 : decode cX9_put 1 = .ok (.iload_n 1, 1) := by decide +kernel
theorem dX9_put_2 : decode cX9_put 2 = .ok (.invokevirtual 232, 3) := by decide +kernel
theorem dX9_put_5 : decode cX9_put 5 = .ok (.ifCond .eq 10, 3) := by decide +kernel
theorem dX9_put_8 : decode cX9_put 8 = .ok (.iload_n 2, 1) := by decide +kernel
theorem dX9_put_9 : decode cX9_put 9 = .ok (.invokestatic 285, 3) := by decide +kernel
theorem dX9_put_12 : decode cX9_put 12 = .ok (.ifCond .ne 6, 3) := by decide +kernel
theorem dX9_put_15 : decode cX9_put 15 = .ok (.bipush (-2), 2) := by decide +kernel
theorem dX9_put_17 : decode cX9_put 17 = .ok (.ireturn, 1) := by decide +kernel
theorem dX9_put_18 : decode cX9_put 18 = .ok (.aload_n 0, 1) := by decide +kernel
theorem dX9_put_19 : decode cX9_put 19 = .ok (.getfield 52, 3) := by decide +kernel
theorem dX9_put_22 : decode cX9_put 22 = .ok (.iload_n 1, 1) := by decide +kernel
theorem dX9_put_23 : decode cX9_put 23 = .ok (.aaload, 1) := by decide +kernel
theorem dX9_put_24 : decode cX9_put 24 = .ok (.iload_n 2, 1) := by decide +kernel
theorem dX9_put_25 : decode cX9_put 25 = .ok (.iload_n 3, 1) := by decide +kernel
theorem dX9_put_26 : decode cX9_put 26 = .ok (.invokevirtual 294, 3) := by decide +kernel
theorem dX9_put_29 : decode cX9_put 29 = .ok (.istore 5, 2) := by decide +kernel
theorem dX9_put_31 : decode cX9_put 31 = .ok (.iload 5, 2) := by decide +kernel
theorem dX9_put_33 : decode cX9_put 33 = .ok (.ifCond .eq 10, 3) := by decide +kernel
theorem dX9_put_36 : decode cX9_put 36 = .ok (.aload_n 0, 1) := by decide +kernel
theorem dX9_put_37 : decode cX9_put 37 = .ok (.iload 5, 2) := by decide +kernel
theorem dX9_put_39 : decode cX9_put 39 = .ok (.invokevirtual 237, 3) := by decide +kernel
theorem dX9_put_42 : decode cX9_put 42 = .ok (.ireturn, 1) := by decide +kernel
theorem dX9_put_43 : decode cX9_put 43 = .ok (.aload_n 0, 1) := by decide +kernel
theorem dX9_put_44 : decode cX9_put 44 = .ok (.getfield 52, 3) := by decide +kernel
theorem dX9_put_47 : decode cX9_put 47 = .ok (.iload_n 1, 1) := by decide +kernel
theorem dX9_put_48 : decode cX9_put 48 = .ok (.aaload, 1) := by decide +kernel
theorem dX9_put_49 : decode cX9_put 49 = .ok (.iload_n 3, 1) := by decide +kernel
theorem dX9_put_50 : decode cX9_put 50 = .ok (.iload 4, 2) := by decide +kernel
theorem dX9_put_52 : decode cX9_put 52 = .ok (.invokevirtual 297, 3) := by decide +kernel
theorem dX9_put_55 : decode cX9_put 55 = .ok (.iconst 1, 1) := by decide +kernel
theorem dX9_put_56 : decode cX9_put 56 = .ok (.ireturn, 1) := by decide +kernel
set_option maxRecDepth 20000 in
theorem ggX9_get_X9_isSheet : GoodIn wsX9_get wsX9_isSheet := qw_e qk_X9_get qk_X9_isSheet (by decide +kernel)
set_option maxRecDepth 20000 in
theorem gX9_get_X9_isSheet : GoodIn wsX9_get (wsV RX9 232 RX9 yX9_isSheet wsX9_isSheet) := goodIn_app (qw_e qk_X9_get (QK_cons qw_340 (QK_cons qw_341 (QK_cons qw_342 (QK_cons qw_993 QK_nil)))) (by decide +kernel)) ggX9_get_X9_isSheet
set_option maxRecDepth 20000 in
theorem ggX9_get_X5_isForm : GoodIn wsX9_get wsX5_isForm := qw_e qk_X9_get qk_X5_isForm (by decide +kernel)
set_option maxRecDepth 20000 in
theorem gX9_get_X5_isForm : GoodIn wsX9_get (va_wsS RX9 285 yX5_isForm wsX5_isForm) := goodIn_app (qw_e qk_X9_get (QK_cons qw_129 (QK_cons qw_130 (QK_cons qw_953 QK_nil))) (by decide +kernel)) ggX9_get_X5_isForm
set_option maxRecDepth 20000 in
theorem ggX9_get_X5_findingOf : GoodIn wsX9_get wsX5_findingOf := qw_e qk_X9_get qk_X5_findingOf (by decide +kernel)
set_option maxRecDepth 20000 in
theorem gX9_get_X5_findingOf : GoodIn wsX9_get (wsV RX9 294 RX5 yX5_findingOf wsX5_findingOf) := goodIn_app (qw_e qk_X9_get (QK_cons qw_107 (QK_cons qw_108 (QK_cons qw_109 (QK_cons qw_953 QK_nil)))) (by decide +kernel)) ggX9_get_X5_findingOf
theorem dX9_get_0 : decode cX9_get 0 = .ok (.aload_n 0, 1) := by decide +kernel
theorem dX9_get_1 : decode cX9_get 1 = .ok (.iload_n 1, 1) := by decide +kernel
theorem dX9_get_2 : decode cX9_get 2 = .ok (.invokevirtual 232, 3) := by decide +kernel
theorem dX9_get_5 : decode cX9_get 5 = .ok (.ifCond .eq 10, 3) := by decide +kernel
theorem dX9_get_8 : decode cX9_get 8 = .ok (.iload_n 2, 1) := by decide +kernel
theorem dX9_get_9 : decode cX9_get 9 = .ok (.invokestatic 285, 3) := by decide +kernel
theorem dX9_get_12 : decode cX9_get 12 = .ok (.ifCond .ne 7, 3) := by decide +kernel
theorem dX9_get_15 : decode cX9_get 15 = .ok (.ldc_w 300, 3) := by decide +kernel
theorem dX9_get_18 : decode cX9_get 18 = .ok (.ireturn, 1) := by decide +kernel
theorem dX9_get_19 : decode cX9_get 19 = .ok (.aload_n 0, 1) := by decide +kernel
theorem dX9_get_20 : decode cX9_get 20 = .ok (.getfield 52, 3) := by decide +kernel
theorem dX9_get_23 : decode cX9_get 23 = .ok (.iload_n 1, 1) := by decide +kernel
theorem dX9_get_24 : decode cX9_get 24 = .ok (.aaload, 1) := by decide +kernel
theorem dX9_get_25 : decode cX9_get 25 = .ok (.iload_n 2, 1) := by decide +kernel
theorem dX9_get_26 : decode cX9_get 26 = .ok (.iload_n 3, 1) := by decide +kernel
theorem dX9_get_27 : decode cX9_get 27 = .ok (.invokevirtual 294, 3) := by decide +kernel
theorem dX9_get_30 : decode cX9_get 30 = .ok (.istore 4, 2) := by decide +kernel
theorem dX9_get_32 : decode cX9_get 32 = .ok (.iload 4, 2) := by decide +kernel
theorem dX9_get_34 : decode cX9_get 34 = .ok (.ifCond .eq 13, 3) := by decide +kernel
theorem dX9_get_37 : decode cX9_get 37 = .ok (.aload_n 0, 1) := by decide +kernel
theorem dX9_get_38 : decode cX9_get 38 = .ok (.iload 4, 2) := by decide +kernel
theorem dX9_get_40 : decode cX9_get 40 = .ok (.putfield 89, 3) := by decide +kernel
theorem dX9_get_43 : decode cX9_get 43 = .ok (.ldc_w 300, 3) := by decide +kernel
theorem dX9_get_46 : decode cX9_get 46 = .ok (.ireturn, 1) := by decide +kernel
theorem dX9_get_47 : decode cX9_get 47 = .ok (.aload_n 0, 1) := by decide +kernel
theorem dX9_get_48 : decode cX9_get 48 = .ok (.getfield 52, 3) := by decide +kernel
theorem dX9_get_51 : decode cX9_get 51 = .ok (.iload_n 1, 1) := by decide +kernel
theorem dX9_get_52 : decode cX9_get 52 = .ok (.aaload, 1) := by decide +kernel
theorem dX9_get_53 : decode cX9_get 53 = .ok (.getfield 301, 3) := by decide +kernel
theorem dX9_get_56 : decode cX9_get 56 = .ok (.iload_n 3, 1) := by decide +kernel
theorem dX9_get_57 : decode cX9_get 57 = .ok (.iaload, 1) := by decide +kernel
theorem dX9_get_58 : decode cX9_get 58 = .ok (.ireturn, 1) := by decide +kernel
set_option maxRecDepth 20000 in
theorem ggX9_copy_X9_isSheet : GoodIn wsX9_copy wsX9_isSheet := qw_e qk_X9_copy qk_X9_isSheet (by decide +kernel)
set_option maxRecDepth 20000 in
theorem gX9_copy_X9_isSheet : GoodIn wsX9_copy (wsV RX9 232 RX9 yX9_isSheet wsX9_isSheet) := goodIn_app (qw_e qk_X9_copy (QK_cons qw_340 (QK_cons qw_341 (QK_cons qw_342 (QK_cons qw_993 QK_nil)))) (by decide +kernel)) ggX9_copy_X9_isSheet
set_option maxRecDepth 20000 in
theorem ggX9_copy_X9_found : GoodIn wsX9_copy wsX9_found := qw_e qk_X9_copy qk_X9_found (by decide +kernel)
set_option maxRecDepth 20000 in
theorem gX9_copy_X9_found : GoodIn wsX9_copy (wsV RX9 237 RX9 yX9_found wsX9_found) := goodIn_app (qw_e qk_X9_copy (QK_cons qw_296 (QK_cons qw_297 (QK_cons qw_298 (QK_cons qw_993 QK_nil)))) (by decide +kernel)) ggX9_copy_X9_found
set_option maxRecDepth 20000 in
theorem ggX9_copy_X5_hasItems : GoodIn wsX9_copy wsX5_hasItems := qw_e qk_X9_copy qk_X5_hasItems (by decide +kernel)
set_option maxRecDepth 20000 in
theorem gX9_copy_X5_hasItems : GoodIn wsX9_copy (wsV RX9 307 RX5 yX5_hasItems wsX5_hasItems) := goodIn_app (qw_e qk_X9_copy (QK_cons qw_55 (QK_cons qw_112 (QK_cons qw_113 (QK_cons qw_953 QK_nil)))) (by decide +kernel)) ggX9_copy_X5_hasItems
theorem dX9_copy_0 : decode cX9_copy 0 = .ok (.aload_n 0, 1) := by decide +kernel
theorem dX9_copy_1 : decode cX9_copy 1 = .ok (.iload_n 1, 1) := by decide +kernel
theorem dX9_copy_2 : decode cX9_copy 2 = .ok (.invokevirtual 232, 3) := by decide +kernel
theorem dX9_copy_5 : decode cX9_copy 5 = .ok (.ifCond .eq 11, 3) := by decide +kernel
theorem dX9_copy_8 : decode cX9_copy 8 = .ok (.aload_n 0, 1) := by decide +kernel
theorem dX9_copy_9 : decode cX9_copy 9 = .ok (.iload_n 3, 1) := by decide +kernel
theorem dX9_copy_10 : decode cX9_copy 10 = .ok (.invokevirtual 232, 3) := by decide +kernel
theorem dX9_copy_13 : decode cX9_copy 13 = .ok (.ifCond .ne 6, 3) := by decide +kernel
theorem dX9_copy_16 : decode cX9_copy 16 = .ok (.bipush (-2), 2) := by decide +kernel
theorem dX9_copy_18 : decode cX9_copy 18 = .ok (.ireturn, 1) := by decide +kernel
theorem dX9_copy_19 : decode cX9_copy 19 = .ok (.aload_n 0, 1) := by decide +kernel
theorem dX9_copy_20 : decode cX9_copy 20 = .ok (.getfield 52, 3) := by decide +kernel
theorem dX9_copy_23 : decode cX9_copy 23 = .ok (.iload_n 1, 1) := by decide +kernel
theorem dX9_copy_24 : decode cX9_copy 24 = .ok (.aaload, 1) := by decide +kernel
theorem dX9_copy_25 : decode cX9_copy 25 = .ok (.astore 6, 2) := by decide +kernel
theorem dX9_copy_27 : decode cX9_copy 27 = .ok (.aload_n 0, 1) := by decide +kernel
theorem dX9_copy_28 : decode cX9_copy 28 = .ok (.getfield 52, 3) := by decide +kernel
theorem dX9_copy_31 : decode cX9_copy 31 = .ok (.iload_n 3, 1) := by decide +kernel
theorem dX9_copy_32 : decode cX9_copy 32 = .ok (.aaload, 1) := by decide +kernel
theorem dX9_copy_33 : decode cX9_copy 33 = .ok (.astore 7, 2) := by decide +kernel
theorem dX9_copy_35 : decode cX9_copy 35 = .ok (.aload 6, 2) := by decide +kernel
theorem dX9_copy_37 : decode cX9_copy 37 = .ok (.getfield 235, 3) := by decide +kernel
theorem dX9_copy_40 : decode cX9_copy 40 = .ok (.ifCond .ne 11, 3) := by decide +kernel
theorem dX9_copy_43 : decode cX9_copy 43 = .ok (.aload 7, 2) := by decide +kernel
theorem dX9_copy_45 : decode cX9_copy 45 = .ok (.getfield 235, 3) := by decide +kernel
theorem dX9_copy_48 : decode cX9_copy 48 = .ok (.ifCond .eq 9, 3) := by decide +kernel
theorem dX9_copy_51 : decode cX9_copy 51 = .ok (.aload_n 0, 1) := by decide +kernel
theorem dX9_copy_52 : decode cX9_copy 52 = .ok (.iconst 1, 1) := by decide +kernel
theorem dX9_copy_53 : decode cX9_copy 53 = .ok (.invokevirtual 237, 3) := by decide +kernel
theorem dX9_copy_56 : decode cX9_copy 56 = .ok (.ireturn, 1) := by decide +kernel
theorem dX9_copy_57 : decode cX9_copy 57 = .ok (.aload 6, 2) := by decide +kernel
theorem dX9_copy_59 : decode cX9_copy 59 = .ok (.getfield 304, 3) := by decide +kernel
theorem dX9_copy_62 : decode cX9_copy 62 = .ok (.aload 7, 2) := by decide +kernel
theorem dX9_copy_64 : decode cX9_copy 64 = .ok (.getfield 304, 3) := by decide +kernel
theorem dX9_copy_67 : decode cX9_copy 67 = .ok (.if_icmp .eq 9, 3) := by decide +kernel
theorem dX9_copy_70 : decode cX9_copy 70 = .ok (.aload_n 0, 1) := by decide +kernel
theorem dX9_copy_71 : decode cX9_copy 71 = .ok (.iconst 4, 1) := by decide +kernel
theorem dX9_copy_72 : decode cX9_copy 72 = .ok (.invokevirtual 237, 3) := by decide +kernel
theorem dX9_copy_75 : decode cX9_copy 75 = .ok (.ireturn, 1) := by decide +kernel
theorem dX9_copy_76 : decode cX9_copy 76 = .ok (.aload 6, 2) := by decide +kernel
theorem dX9_copy_78 : decode cX9_copy 78 = .ok (.iload_n 2, 1) := by decide +kernel
theorem dX9_copy_79 : decode cX9_copy 79 = .ok (.iload 5, 2) := by decide +kernel
theorem dX9_copy_81 : decode cX9_copy 81 = .ok (.invokevirtual 307, 3) := by decide +kernel
theorem dX9_copy_84 : decode cX9_copy 84 = .ok (.ifCond .eq 15, 3) := by decide +kernel
theorem dX9_copy_87 : decode cX9_copy 87 = .ok (.aload 7, 2) := by decide +kernel
theorem dX9_copy_89 : decode cX9_copy 89 = .ok (.iload 4, 2) := by decide +kernel
theorem dX9_copy_91 : decode cX9_copy 91 = .ok (.iload 5, 2) := by decide +kernel
theorem dX9_copy_93 : decode cX9_copy 93 = .ok (.invokevirtual 307, 3) := by decide +kernel
theorem dX9_copy_96 : decode cX9_copy 96 = .ok (.ifCond .ne 9, 3) := by decide +kernel
theorem dX9_copy_99 : decode cX9_copy 99 = .ok (.aload_n 0, 1) := by decide +kernel
theorem dX9_copy_100 : decode cX9_copy 100 = .ok (.iconst 2, 1) := by decide +kernel
theorem dX9_copy_101 : decode cX9_copy 101 = .ok (.invokevirtual 237, 3) := by decide +kernel
theorem dX9_copy_104 : decode cX9_copy 104 = .ok (.ireturn, 1) := by decide +kernel
theorem dX9_copy_105 : decode cX9_copy 105 = .ok (.aload 6, 2) := by decide +kernel
theorem dX9_copy_107 : decode cX9_copy 107 = .ok (.getfield 301, 3) := by decide +kernel
theorem dX9_copy_110 : decode cX9_copy 110 = .ok (.iload_n 2, 1) := by decide +kernel
theorem dX9_copy_111 : decode cX9_copy 111 = .ok (.aload 7, 2) := by decide +kernel
theorem dX9_copy_113 : decode cX9_copy 113 = .ok (.getfield 301, 3) := by decide +kernel
theorem dX9_copy_116 : decode cX9_copy 116 = .ok (.iload 4, 2) := by decide +kernel
theorem dX9_copy_118 : decode cX9_copy 118 = .ok (.iload 5, 2) := by decide +kernel
theorem dX9_copy_120 : decode cX9_copy 120 = .ok (.invokestatic 310, 3) := by decide +kernel
theorem dX9_copy_123 : decode cX9_copy 123 = .ok (.iconst 1, 1) := by decide +kernel
theorem dX9_copy_124 : decode cX9_copy 124 = .ok (.ireturn, 1) := by decide +kernel
set_option maxRecDepth 20000 in
theorem ggX9_write_X9_isSheet : GoodIn wsX9_write wsX9_isSheet := qw_e qk_X9_write qk_X9_isSheet (by decide +kernel)
set_option maxRecDepth 20000 in
theorem gX9_write_X9_isSheet : GoodIn wsX9_write (wsV RX9 232 RX9 yX9_isSheet wsX9_isSheet) := goodIn_app (qw_e qk_X9_write (QK_cons qw_340 (QK_cons qw_341 (QK_cons qw_342 (QK_cons qw_993 QK_nil)))) (by decide +kernel)) ggX9_write_X9_isSheet
set_option maxRecDepth 20000 in
theorem ggX9_write_X9_found : GoodIn wsX9_write wsX9_found := qw_e qk_X9_write qk_X9_found (by decide +kernel)
set_option maxRecDepth 20000 in
theorem gX9_write_X9_found : GoodIn wsX9_write (wsV RX9 237 RX9 yX9_found wsX9_found) := goodIn_app (qw_e qk_X9_write (QK_cons qw_296 (QK_cons qw_297 (QK_cons qw_298 (QK_cons qw_993 QK_nil)))) (by decide +kernel)) ggX9_write_X9_found
set_option maxRecDepth 20000 in
theorem ggX9_write_X9_settle : GoodIn wsX9_write wsX9_settle := qw_e qk_X9_write qk_X9_settle (by decide +kernel)
set_option maxRecDepth 20000 in
theorem gX9_write_X9_settle : GoodIn wsX9_write (wsV RX9 148 RX9 yX9_settle wsX9_settle) := goodIn_app (qw_e qk_X9_write (QK_cons qw_674 (QK_cons qw_675 (QK_cons qw_676 (QK_cons qw_993 QK_nil)))) (by decide +kernel)) ggX9_write_X9_settle
set_option maxRecDepth 20000 in
theorem ggX9_write_X5_store : GoodIn wsX9_write wsX5_store := qw_e qk_X9_write qk_X5_store (by decide +kernel)
set_option maxRecDepth 20000 in
theorem gX9_write_X5_store : GoodIn wsX9_write (wsV RX9 297 RX5 yX5_store wsX5_store) := goodIn_app (qw_e qk_X9_write (QK_cons qw_115 (QK_cons qw_116 (QK_cons qw_117 (QK_cons qw_953 QK_nil)))) (by decide +kernel)) ggX9_write_X5_store
theorem dX9_write_0 : decode cX9_write 0 = .ok (.aload_n 0, 1) := by decide +kernel
theorem dX9_write_1 : decode cX9_write 1 = .ok (.iload_n 1, 1) := by decide +kernel
theorem dX9_write_2 : decode cX9_write 2 = .ok (.invokevirtual 232, 3) := by decide +kernel
theorem dX9_write_5 : decode cX9_write 5 = .ok (.ifCond .ne 6, 3) := by decide +kernel
theorem dX9_write_8 : decode cX9_write 8 = .ok (.bipush (-2), 2) := by decide +kernel
theorem dX9_write_10 : decode cX9_write 10 = .ok (.ireturn, 1) := by decide +kernel
theorem dX9_write_11 : decode cX9_write 11 = .ok (.aload_n 0, 1) := by decide +kernel
theorem dX9_write_12 : decode cX9_write 12 = .ok (.getfield 52, 3) := by decide +kernel
theorem dX9_write_15 : decode cX9_write 15 = .ok (.iload_n 1, 1) := by decide +kernel
theorem dX9_write_16 : decode cX9_write 16 = .ok (.aaload, 1) := by decide +kernel
theorem dX9_write_17 : decode cX9_write 17 = .ok (.astore_n 2, 1) := by decide +kernel
theorem dX9_write_18 : decode cX9_write 18 = .ok (.aload_n 2, 1) := by decide +kernel
theorem dX9_write_19 : decode cX9_write 19 = .ok (.getfield 235, 3) := by decide +kernel
theorem dX9_write_22 : decode cX9_write 22 = .ok (.ifCond .eq 9, 3) := by decide +kernel
theorem dX9_write_25 : decode cX9_write 25 = .ok (.aload_n 0, 1) := by decide +kernel
theorem dX9_write_26 : decode cX9_write 26 = .ok (.iconst 1, 1) := by decide +kernel
theorem dX9_write_27 : decode cX9_write 27 = .ok (.invokevirtual 237, 3) := by decide +kernel
theorem dX9_write_30 : decode cX9_write 30 = .ok (.ireturn, 1) := by decide +kernel
theorem dX9_write_31 : decode cX9_write 31 = .ok (.aload_n 0, 1) := by decide +kernel
theorem dX9_write_32 : decode cX9_write 32 = .ok (.invokevirtual 148, 3) := by decide +kernel
theorem dX9_write_35 : decode cX9_write 35 = .ok (.iconst 0, 1) := by decide +kernel
theorem dX9_write_36 : decode cX9_write 36 = .ok (.istore_n 3, 1) := by decide +kernel
theorem dX9_write_37 : decode cX9_write 37 = .ok (.iload_n 3, 1) := by decide +kernel
theorem dX9_write_38 : decode cX9_write 38 = .ok (.aload_n 2, 1) := by decide +kernel
theorem dX9_write_39 : decode cX9_write 39 = .ok (.getfield 291, 3) := by decide +kernel
theorem dX9_write_42 : decode cX9_write 42 = .ok (.if_icmp .ge 29, 3) := by decide +kernel
theorem dX9_write_45 : decode cX9_write 45 = .ok (.iload_n 3, 1) := by decide +kernel
theorem dX9_write_46 : decode cX9_write 46 = .ok (.bipush 96, 2) := by decide +kernel
theorem dX9_write_48 : decode cX9_write 48 = .ok (.if_icmp .ge 23, 3) := by decide +kernel
theorem dX9_write_51 : decode cX9_write 51 = .ok (.aload_n 2, 1) := by decide +kernel
theorem dX9_write_52 : decode cX9_write 52 = .ok (.iload_n 3, 1) := by decide +kernel
theorem dX9_write_53 : decode cX9_write 53 = .ok (.aload_n 0, 1) := by decide +kernel
theorem dX9_write_54 : decode cX9_write 54 = .ok (.getfield 66, 3) := by decide +kernel
theorem dX9_write_57 : decode cX9_write 57 = .ok (.getfield 151, 3) := by decide +kernel
theorem dX9_write_60 : decode cX9_write 60 = .ok (.iload_n 3, 1) := by decide +kernel
theorem dX9_write_61 : decode cX9_write 61 = .ok (.iaload, 1) := by decide +kernel
theorem dX9_write_62 : decode cX9_write 62 = .ok (.invokevirtual 297, 3) := by decide +kernel
theorem dX9_write_65 : decode cX9_write 65 = .ok (.iinc 3 1, 3) := by decide +kernel
theorem dX9_write_68 : decode cX9_write 68 = .ok (.goto (-31), 3) := by decide +kernel
theorem dX9_write_71 : decode cX9_write 71 = .ok (.aload_n 2, 1) := by decide +kernel
theorem dX9_write_72 : decode cX9_write 72 = .ok (.getfield 291, 3) := by decide +kernel
theorem dX9_write_75 : decode cX9_write 75 = .ok (.ireturn, 1) := by decide +kernel
set_option maxRecDepth 20000 in
theorem ggX9_count_J13_bitCount_95d88 : GoodIn wsX9_count wsJ13_bitCount_95d88 := qw_e qk_X9_count qk_J13_bitCount_95d88 (by decide +kernel)
set_option maxRecDepth 20000 in
theorem gX9_count_J13_bitCount_95d88 : GoodIn wsX9_count (va_wsS RX9 255 yJ13_bitCount_95d88 wsJ13_bitCount_95d88) := goodIn_app (qw_e qk_X9_count (QK_cons qw_259 (QK_cons qw_260 (QK_cons qw_261 QK_nil))) (by decide +kernel)) ggX9_count_J13_bitCount_95d88
theorem dX9_count_0 : decode cX9_count 0 = .ok (.iload_n 1, 1) := by decide +kernel
theorem dX9_count_1 : decode cX9_count 1 = .ok (.tableswitch 129 0 8 #[51, 59, 67, 75, 85, 95, 105, 116, 124], 51) := by decide +kernel
theorem dX9_count_52 : decode cX9_count 52 = .ok (.aload_n 0, 1) := by decide +kernel
theorem dX9_count_53 : decode cX9_count 53 = .ok (.getfield 25, 3) := by decide +kernel
theorem dX9_count_56 : decode cX9_count 56 = .ok (.getfield 120, 3) := by decide +kernel
theorem dX9_count_59 : decode cX9_count 59 = .ok (.ireturn, 1) := by decide +kernel
theorem dX9_count_60 : decode cX9_count 60 = .ok (.aload_n 0, 1) := by decide +kernel
theorem dX9_count_61 : decode cX9_count 61 = .ok (.getfield 32, 3) := by decide +kernel
theorem dX9_count_64 : decode cX9_count 64 = .ok (.getfield 126, 3) := by decide +kernel
theorem dX9_count_67 : decode cX9_count 67 = .ok (.ireturn, 1) := by decide +kernel
theorem dX9_count_68 : decode cX9_count 68 = .ok (.aload_n 0, 1) := by decide +kernel
theorem dX9_count_69 : decode cX9_count 69 = .ok (.getfield 39, 3) := by decide +kernel
theorem dX9_count_72 : decode cX9_count 72 = .ok (.getfield 190, 3) := by decide +kernel
theorem dX9_count_75 : decode cX9_count 75 = .ok (.ireturn, 1) := by decide +kernel
theorem dX9_count_76 : decode cX9_count 76 = .ok (.aload_n 0, 1) := by decide +kernel
theorem dX9_count_77 : decode cX9_count 77 = .ok (.getfield 11, 3) := by decide +kernel
theorem dX9_count_80 : decode cX9_count 80 = .ok (.iconst 0, 1) := by decide +kernel
theorem dX9_count_81 : decode cX9_count 81 = .ok (.aaload, 1) := by decide +kernel
theorem dX9_count_82 : decode cX9_count 82 = .ok (.getfield 117, 3) := by decide +kernel
theorem dX9_count_85 : decode cX9_count 85 = .ok (.ireturn, 1) := by decide +kernel
theorem dX9_count_86 : decode cX9_count 86 = .ok (.aload_n 0, 1) := by decide +kernel
theorem dX9_count_87 : decode cX9_count 87 = .ok (.getfield 11, 3) := by decide +kernel
theorem dX9_count_90 : decode cX9_count 90 = .ok (.iconst 1, 1) := by decide +kernel
theorem dX9_count_91 : decode cX9_count 91 = .ok (.aaload, 1) := by decide +kernel
theorem dX9_count_92 : decode cX9_count 92 = .ok (.getfield 117, 3) := by decide +kernel
theorem dX9_count_95 : decode cX9_count 95 = .ok (.ireturn, 1) := by decide +kernel
theorem dX9_count_96 : decode cX9_count 96 = .ok (.aload_n 0, 1) := by decide +kernel
theorem dX9_count_97 : decode cX9_count 97 = .ok (.getfield 11, 3) := by decide +kernel
theorem dX9_count_100 : decode cX9_count 100 = .ok (.iconst 2, 1) := by decide +kernel
theorem dX9_count_101 : decode cX9_count 101 = .ok (.aaload, 1) := by decide +kernel
theorem dX9_count_102 : decode cX9_count 102 = .ok (.getfield 117, 3) := by decide +kernel
theorem dX9_count_105 : decode cX9_count 105 = .ok (.ireturn, 1) := by decide +kernel
theorem dX9_count_106 : decode cX9_count 106 = .ok (.aload_n 0, 1) := by decide +kernel
theorem dX9_count_107 : decode cX9_count 107 = .ok (.getfield 25, 3) := by decide +kernel
theorem dX9_count_110 : decode cX9_count 110 = .ok (.getfield 176, 3) := by decide +kernel
theorem dX9_count_113 : decode cX9_count 113 = .ok (.invokestatic 255, 3) := by decide +kernel
theorem dX9_count_116 : decode cX9_count 116 = .ok (.ireturn, 1) := by decide +kernel
theorem dX9_count_117 : decode cX9_count 117 = .ok (.aload_n 0, 1) := by decide +kernel
theorem dX9_count_118 : decode cX9_count 118 = .ok (.getfield 46, 3) := by decide +kernel
theorem dX9_count_121 : decode cX9_count 121 = .ok (.getfield 231, 3) := by decide +kernel
theorem dX9_count_124 : decode cX9_count 124 = .ok (.ireturn, 1) := by decide +kernel
theorem dX9_count_125 : decode cX9_count 125 = .ok (.aload_n 0, 1) := by decide +kernel
theorem dX9_count_126 : decode cX9_count 126 = .ok (.getfield 89, 3) := by decide +kernel
theorem dX9_count_129 : decode cX9_count 129 = .ok (.ireturn, 1) := by decide +kernel
theorem dX9_count_130 : decode cX9_count 130 = .ok (.bipush (-2), 2) := by decide +kernel
theorem dX9_count_132 : decode cX9_count 132 = .ok (.ireturn, 1) := by decide +kernel
set_option maxRecDepth 20000 in
theorem ggX9_digest_X9_count : GoodIn wsX9_digest wsX9_count := qw_e qk_X9_digest qk_X9_count (by decide +kernel)
set_option maxRecDepth 20000 in
theorem gX9_digest_X9_count : GoodIn wsX9_digest (wsV RX9 320 RX9 yX9_count wsX9_count) := goodIn_app (qw_e qk_X9_digest (QK_cons qw_38 (QK_cons qw_69 (QK_cons qw_70 (QK_cons qw_993 QK_nil)))) (by decide +kernel)) ggX9_digest_X9_count
set_option maxRecDepth 20000 in
theorem ggX9_digest_X9_fault : GoodIn wsX9_digest wsX9_fault := qw_e qk_X9_digest qk_X9_fault (by decide +kernel)
set_option maxRecDepth 20000 in
theorem gX9_digest_X9_fault : GoodIn wsX9_digest (wsV RX9 322 RX9 yX9_fault wsX9_fault) := goodIn_app (qw_e qk_X9_digest (QK_cons qw_39 (QK_cons qw_751 (QK_cons qw_752 (QK_cons qw_993 QK_nil)))) (by decide +kernel)) ggX9_digest_X9_fault
set_option maxRecDepth 20000 in
theorem ggX9_digest_X9_digestCells : GoodIn wsX9_digest wsX9_digestCells := qw_e qk_X9_digest qk_X9_digestCells (by decide +kernel)
set_option maxRecDepth 20000 in
theorem gX9_digest_X9_digestCells : GoodIn wsX9_digest (wsV RX9 325 RX9 yX9_digestCells wsX9_digestCells) := goodIn_app (qw_e qk_X9_digest (QK_cons qw_40 (QK_cons qw_41 (QK_cons qw_42 (QK_cons qw_993 QK_nil)))) (by decide +kernel)) ggX9_digest_X9_digestCells
set_option maxRecDepth 20000 in
theorem ggX9_digest_X9_beat : GoodIn wsX9_digest wsX9_beat := qw_e qk_X9_digest qk_X9_beat (by decide +kernel)
set_option maxRecDepth 20000 in
theorem gX9_digest_X9_beat : GoodIn wsX9_digest (wsV RX9 329 RX9 yX9_beat wsX9_beat) := goodIn_app (qw_e qk_X9_digest (QK_cons qw_46 (QK_cons qw_716 (QK_cons qw_717 (QK_cons qw_993 QK_nil)))) (by decide +kernel)) ggX9_digest_X9_beat
set_option maxRecDepth 20000 in
theorem ggX9_digest_X9_digestThief : GoodIn wsX9_digest wsX9_digestThief := qw_e qk_X9_digest qk_X9_digestThief (by decide +kernel)
set_option maxRecDepth 20000 in
theorem gX9_digest_X9_digestThief : GoodIn wsX9_digest (wsV RX9 332 RX9 yX9_digestThief wsX9_digestThief) := goodIn_app (qw_e qk_X9_digest (QK_cons qw_47 (QK_cons qw_48 (QK_cons qw_49 (QK_cons qw_993 QK_nil)))) (by decide +kernel)) ggX9_digest_X9_digestThief
set_option maxRecDepth 20000 in
theorem ggX9_digest_X9_digestMoments : GoodIn wsX9_digest wsX9_digestMoments := qw_e qk_X9_digest qk_X9_digestMoments (by decide +kernel)
set_option maxRecDepth 20000 in
theorem gX9_digest_X9_digestMoments : GoodIn wsX9_digest (wsV RX9 336 RX9 yX9_digestMoments wsX9_digestMoments) := goodIn_app (qw_e qk_X9_digest (QK_cons qw_7 (QK_cons qw_8 (QK_cons qw_9 (QK_cons qw_993 QK_nil)))) (by decide +kernel)) ggX9_digest_X9_digestMoments
set_option maxRecDepth 20000 in
theorem ggX9_digest_X9_safe : GoodIn wsX9_digest wsX9_safe := qw_e qk_X9_digest qk_X9_safe (by decide +kernel)
set_option maxRecDepth 20000 in
theorem gX9_digest_X9_safe : GoodIn wsX9_digest (wsV RX9 339 RX9 yX9_safe wsX9_safe) := goodIn_app (qw_e qk_X9_digest (QK_cons qw_14 (QK_cons qw_508 (QK_cons qw_509 (QK_cons qw_993 QK_nil)))) (by decide +kernel)) ggX9_digest_X9_safe
set_option maxRecDepth 20000 in
theorem ggX9_digest_X9_lost : GoodIn wsX9_digest wsX9_lost := qw_e qk_X9_digest qk_X9_lost (by decide +kernel)
set_option maxRecDepth 20000 in
theorem gX9_digest_X9_lost : GoodIn wsX9_digest (wsV RX9 191 RX9 yX9_lost wsX9_lost) := goodIn_app (qw_e qk_X9_digest (QK_cons qw_422 (QK_cons qw_483 (QK_cons qw_484 (QK_cons qw_993 QK_nil)))) (by decide +kernel)) ggX9_digest_X9_lost
set_option maxRecDepth 20000 in
theorem ggX9_digest_X9_first : GoodIn wsX9_digest wsX9_first := qw_e qk_X9_digest qk_X9_first (by decide +kernel)
set_option maxRecDepth 20000 in
theorem gX9_digest_X9_first : GoodIn wsX9_digest (wsV RX9 342 RX9 yX9_first wsX9_first) := goodIn_app (qw_e qk_X9_digest (QK_cons qw_15 (QK_cons qw_455 (QK_cons qw_456 (QK_cons qw_993 QK_nil)))) (by decide +kernel)) ggX9_digest_X9_first
set_option maxRecDepth 20000 in
theorem ggX9_digest_X9_spare : GoodIn wsX9_digest wsX9_spare := qw_e qk_X9_digest qk_X9_spare (by decide +kernel)
set_option maxRecDepth 20000 in
theorem gX9_digest_X9_spare : GoodIn wsX9_digest (wsV RX9 345 RX9 yX9_spare wsX9_spare) := goodIn_app (qw_e qk_X9_digest (QK_cons qw_16 (QK_cons qw_419 (QK_cons qw_420 (QK_cons qw_993 QK_nil)))) (by decide +kernel)) ggX9_digest_X9_spare
set_option maxRecDepth 20000 in
theorem ggX9_digest_X9_trim : GoodIn wsX9_digest wsX9_trim := qw_e qk_X9_digest qk_X9_trim (by decide +kernel)
set_option maxRecDepth 20000 in
theorem gX9_digest_X9_trim : GoodIn wsX9_digest (wsV RX9 348 RX9 yX9_trim wsX9_trim) := goodIn_app (qw_e qk_X9_digest (QK_cons qw_17 (QK_cons qw_400 (QK_cons qw_401 (QK_cons qw_993 QK_nil)))) (by decide +kernel)) ggX9_digest_X9_trim
set_option maxRecDepth 20000 in
theorem ggX9_digest_X9_begin : GoodIn wsX9_digest wsX9_begin := qw_e qk_X9_digest qk_X9_begin (by decide +kernel)
set_option maxRecDepth 20000 in
theorem gX9_digest_X9_begin : GoodIn wsX9_digest (wsV RX9 351 RX9 yX9_begin wsX9_begin) := goodIn_app (qw_e qk_X9_digest (QK_cons qw_18 (QK_cons qw_382 (QK_cons qw_383 (QK_cons qw_993 QK_nil)))) (by decide +kernel)) ggX9_digest_X9_begin
set_option maxRecDepth 20000 in
theorem ggX9_digest_X9_recruit : GoodIn wsX9_digest wsX9_recruit := qw_e qk_X9_digest qk_X9_recruit (by decide +kernel)
set_option maxRecDepth 20000 in
theorem gX9_digest_X9_recruit : GoodIn wsX9_digest (wsV RX9 354 RX9 yX9_recruit wsX9_recruit) := goodIn_app (qw_e qk_X9_digest (QK_cons qw_19 (QK_cons qw_347 (QK_cons qw_348 (QK_cons qw_993 QK_nil)))) (by decide +kernel)) ggX9_digest_X9_recruit
set_option maxRecDepth 20000 in
theorem ggX9_digest_X9_omitted : GoodIn wsX9_digest wsX9_omitted := qw_e qk_X9_digest qk_X9_omitted (by decide +kernel)
set_option maxRecDepth 20000 in
theorem gX9_digest_X9_omitted : GoodIn wsX9_digest (wsV RX9 357 RX9 yX9_omitted wsX9_omitted) := goodIn_app (qw_e qk_X9_digest (QK_cons qw_20 (QK_cons qw_274 (QK_cons qw_275 (QK_cons qw_993 QK_nil)))) (by decide +kernel)) ggX9_digest_X9_omitted
set_option maxRecDepth 20000 in
theorem ggX9_digest_X9_ask : GoodIn wsX9_digest wsX9_ask := qw_e qk_X9_digest qk_X9_ask (by decide +kernel)
set_option maxRecDepth 20000 in
theorem gX9_digest_X9_ask : GoodIn wsX9_digest (wsV RX9 360 RX9 yX9_ask wsX9_ask) := goodIn_app (qw_e qk_X9_digest (QK_cons qw_21 (QK_cons qw_227 (QK_cons qw_228 (QK_cons qw_993 QK_nil)))) (by decide +kernel)) ggX9_digest_X9_ask
set_option maxRecDepth 20000 in
theorem ggX9_digest_X9_nights : GoodIn wsX9_digest wsX9_nights := qw_e qk_X9_digest qk_X9_nights (by decide +kernel)
set_option maxRecDepth 20000 in
theorem gX9_digest_X9_nights : GoodIn wsX9_digest (wsV RX9 363 RX9 yX9_nights wsX9_nights) := goodIn_app (qw_e qk_X9_digest (QK_cons qw_22 (QK_cons qw_156 (QK_cons qw_157 (QK_cons qw_993 QK_nil)))) (by decide +kernel)) ggX9_digest_X9_nights
theorem dX9_digest_0 : decode cX9_digest 0 = .ok (.ldc2_w 316, 3) := by decide +kernel
theorem dX9_digest_3 : decode cX9_digest 3 = .ok (.lstore_n 1, 1) := by decide +kernel
theorem dX9_digest_4 : decode cX9_digest 4 = .ok (.iconst 0, 1) := by decide +kernel
theorem dX9_digest_5 : decode cX9_digest 5 = .ok (.istore_n 3, 1) := by decide +kernel
theorem dX9_digest_6 : decode cX9_digest 6 = .ok (.iload_n 3, 1) := by decide +kernel
theorem dX9_digest_7 : decode cX9_digest 7 = .ok (.bipush 7, 2) := by decide +kernel
theorem dX9_digest_9 : decode cX9_digest 9 = .ok (.if_icmp .gt 22, 3) := by decide +kernel
theorem dX9_digest_12 : decode cX9_digest 12 = .ok (.ldc2_w 318, 3) := by decide +kernel
theorem dX9_digest_15 : decode cX9_digest 15 = .ok (.lload_n 1, 1) := by decide +kernel
theorem dX9_digest_16 : decode cX9_digest 16 = .ok (.lmul, 1) := by decide +kernel
theorem dX9_digest_17 : decode cX9_digest 17 = .ok (.aload_n 0, 1) := by decide +kernel
theorem dX9_digest_18 : decode cX9_digest 18 = .ok (.iload_n 3, 1) := by decide +kernel
theorem dX9_digest_19 : decode cX9_digest 19 = .ok (.invokevirtual 320, 3) := by decide +kernel
theorem dX9_digest_22 : decode cX9_digest 22 = .ok (.i2l, 1) := by decide +kernel
theorem dX9_digest_23 : decode cX9_digest 23 = .ok (.ladd, 1) := by decide +kernel
theorem dX9_digest_24 : decode cX9_digest 24 = .ok (.lstore_n 1, 1) := by decide +kernel
theorem dX9_digest_25 : decode cX9_digest 25 = .ok (.iinc 3 1, 3) := by decide +kernel
theorem dX9_digest_28 : decode cX9_digest 28 = .ok (.goto (-22), 3) := by decide +kernel
theorem dX9_digest_31 : decode cX9_digest 31 = .ok (.iconst 0, 1) := by decide +kernel
theorem dX9_digest_32 : decode cX9_digest 32 = .ok (.istore_n 3, 1) := by decide +kernel
theorem dX9_digest_33 : decode cX9_digest 33 = .ok (.iload_n 3, 1) := by decide +kernel
theorem dX9_digest_34 : decode cX9_digest 34 = .ok (.aload_n 0, 1) := by decide +kernel
theorem dX9_digest_35 : decode cX9_digest 35 = .ok (.getfield 11, 3) := by decide +kernel
theorem dX9_digest_38 : decode cX9_digest 38 = .ok (.arraylength, 1) := by decide +kernel
theorem dX9_digest_39 : decode cX9_digest 39 = .ok (.if_icmp .ge 22, 3) := by decide +kernel
theorem dX9_digest_42 : decode cX9_digest 42 = .ok (.ldc2_w 318, 3) := by decide +kernel
theorem dX9_digest_45 : decode cX9_digest 45 = .ok (.lload_n 1, 1) := by decide +kernel
theorem dX9_digest_46 : decode cX9_digest 46 = .ok (.lmul, 1) := by decide +kernel
theorem dX9_digest_47 : decode cX9_digest 47 = .ok (.aload_n 0, 1) := by decide +kernel
theorem dX9_digest_48 : decode cX9_digest 48 = .ok (.iload_n 3, 1) := by decide +kernel
theorem dX9_digest_49 : decode cX9_digest 49 = .ok (.invokevirtual 322, 3) := by decide +kernel
theorem dX9_digest_52 : decode cX9_digest 52 = .ok (.i2l, 1) := by decide +kernel
theorem dX9_digest_53 : decode cX9_digest 53 = .ok (.ladd, 1) := by decide +kernel
theorem dX9_digest_54 : decode cX9_digest 54 = .ok (.lstore_n 1, 1) := by decide +kernel
theorem dX9_digest_55 : decode cX9_digest 55 = .ok (.iinc 3 1, 3) := by decide +kernel
theorem dX9_digest_58 : decode cX9_digest 58 = .ok (.goto (-25), 3) := by decide +kernel
theorem dX9_digest_61 : decode cX9_digest 61 = .ok (.aload_n 0, 1) := by decide +kernel
theorem dX9_digest_62 : decode cX9_digest 62 = .ok (.lload_n 1, 1) := by decide +kernel
theorem dX9_digest_63 : decode cX9_digest 63 = .ok (.invokevirtual 325, 3) := by decide +kernel
theorem dX9_digest_66 : decode cX9_digest 66 = .ok (.lstore_n 1, 1) := by decide +kernel
theorem dX9_digest_67 : decode cX9_digest 67 = .ok (.iconst 0, 1) := by decide +kernel
theorem dX9_digest_68 : decode cX9_digest 68 = .ok (.istore_n 3, 1) := by decide +kernel
theorem dX9_digest_69 : decode cX9_digest 69 = .ok (.iload_n 3, 1) := by decide +kernel
theorem dX9_digest_70 : decode cX9_digest 70 = .ok (.aload_n 0, 1) := by decide +kernel
theorem dX9_digest_71 : decode cX9_digest 71 = .ok (.getfield 32, 3) := by decide +kernel
theorem dX9_digest_74 : decode cX9_digest 74 = .ok (.getfield 126, 3) := by decide +kernel
theorem dX9_digest_77 : decode cX9_digest 77 = .ok (.if_icmp .ge 22, 3) := by decide +kernel
theorem dX9_digest_80 : decode cX9_digest 80 = .ok (.ldc2_w 318, 3) := by decide +kernel
theorem dX9_digest_83 : decode cX9_digest 83 = .ok (.lload_n 1, 1) := by decide +kernel
theorem dX9_digest_84 : decode cX9_digest 84 = .ok (.lmul, 1) := by decide +kernel
theorem dX9_digest_85 : decode cX9_digest 85 = .ok (.aload_n 0, 1) := by decide +kernel
theorem dX9_digest_86 : decode cX9_digest 86 = .ok (.iload_n 3, 1) := by decide +kernel
theorem dX9_digest_87 : decode cX9_digest 87 = .ok (.invokevirtual 329, 3) := by decide +kernel
theorem dX9_digest_90 : decode cX9_digest 90 = .ok (.i2l, 1) := by decide +kernel
theorem dX9_digest_91 : decode cX9_digest 91 = .ok (.ladd, 1) := by decide +kernel
theorem dX9_digest_92 : decode cX9_digest 92 = .ok (.lstore_n 1, 1) := by decide +kernel
theorem dX9_digest_93 : decode cX9_digest 93 = .ok (.iinc 3 1, 3) := by decide +kernel
theorem dX9_digest_96 : decode cX9_digest 96 = .ok (.goto (-27), 3) := by decide +kernel
theorem dX9_digest_99 : decode cX9_digest 99 = .ok (.iconst 0, 1) := by decide +kernel
theorem dX9_digest_100 : decode cX9_digest 100 = .ok (.istore_n 3, 1) := by decide +kernel
theorem dX9_digest_101 : decode cX9_digest 101 = .ok (.iload_n 3, 1) := by decide +kernel
theorem dX9_digest_102 : decode cX9_digest 102 = .ok (.aload_n 0, 1) := by decide +kernel
theorem dX9_digest_103 : decode cX9_digest 103 = .ok (.getfield 39, 3) := by decide +kernel
theorem dX9_digest_106 : decode cX9_digest 106 = .ok (.getfield 190, 3) := by decide +kernel
theorem dX9_digest_109 : decode cX9_digest 109 = .ok (.if_icmp .ge 16, 3) := by decide +kernel
theorem dX9_digest_112 : decode cX9_digest 112 = .ok (.aload_n 0, 1) := by decide +kernel
theorem dX9_digest_113 : decode cX9_digest 113 = .ok (.lload_n 1, 1) := by decide +kernel
theorem dX9_digest_114 : decode cX9_digest 114 = .ok (.iload_n 3, 1) := by decide +kernel
theorem dX9_digest_115 : decode cX9_digest 115 = .ok (.invokevirtual 332, 3) := by decide +kernel
theorem dX9_digest_118 : decode cX9_digest 118 = .ok (.lstore_n 1, 1) := by decide +kernel
theorem dX9_digest_119 : decode cX9_digest 119 = .ok (.iinc 3 1, 3) := by decide +kernel
theorem dX9_digest_122 : decode cX9_digest 122 = .ok (.goto (-21), 3) := by decide +kernel
theorem dX9_digest_125 : decode cX9_digest 125 = .ok (.aload_n 0, 1) := by decide +kernel
theorem dX9_digest_126 : decode cX9_digest 126 = .ok (.lload_n 1, 1) := by decide +kernel
theorem dX9_digest_127 : decode cX9_digest 127 = .ok (.invokevirtual 336, 3) := by decide +kernel
theorem dX9_digest_130 : decode cX9_digest 130 = .ok (.lstore_n 1, 1) := by decide +kernel
theorem dX9_digest_131 : decode cX9_digest 131 = .ok (.ldc2_w 318, 3) := by decide +kernel
theorem dX9_digest_134 : decode cX9_digest 134 = .ok (.lload_n 1, 1) := by decide +kernel
theorem dX9_digest_135 : decode cX9_digest 135 = .ok (.lmul, 1) := by decide +kernel
theorem dX9_digest_136 : decode cX9_digest 136 = .ok (.aload_n 0, 1) := by decide +kernel
theorem dX9_digest_137 : decode cX9_digest 137 = .ok (.iconst 0, 1) := by decide +kernel
theorem dX9_digest_138 : decode cX9_digest 138 = .ok (.invokevirtual 339, 3) := by decide +kernel
theorem dX9_digest_141 : decode cX9_digest 141 = .ok (.i2l, 1) := by decide +kernel
theorem dX9_digest_142 : decode cX9_digest 142 = .ok (.ladd, 1) := by decide +kernel
theorem dX9_digest_143 : decode cX9_digest 143 = .ok (.lstore_n 1, 1) := by decide +kernel
theorem dX9_digest_144 : decode cX9_digest 144 = .ok (.ldc2_w 318, 3) := by decide +kernel
theorem dX9_digest_147 : decode cX9_digest 147 = .ok (.lload_n 1, 1) := by decide +kernel
theorem dX9_digest_148 : decode cX9_digest 148 = .ok (.lmul, 1) := by decide +kernel
theorem dX9_digest_149 : decode cX9_digest 149 = .ok (.aload_n 0, 1) := by decide +kernel
theorem dX9_digest_150 : decode cX9_digest 150 = .ok (.iconst 1, 1) := by decide +kernel
theorem dX9_digest_151 : decode cX9_digest 151 = .ok (.invokevirtual 339, 3) := by decide +kernel
theorem dX9_digest_154 : decode cX9_digest 154 = .ok (.i2l, 1) := by decide +kernel
theorem dX9_digest_155 : decode cX9_digest 155 = .ok (.ladd, 1) := by decide +kernel
theorem dX9_digest_156 : decode cX9_digest 156 = .ok (.lstore_n 1, 1) := by decide +kernel
theorem dX9_digest_157 : decode cX9_digest 157 = .ok (.ldc2_w 318, 3) := by decide +kernel
theorem dX9_digest_160 : decode cX9_digest 160 = .ok (.lload_n 1, 1) := by decide +kernel
theorem dX9_digest_161 : decode cX9_digest 161 = .ok (.lmul, 1) := by decide +kernel
theorem dX9_digest_162 : decode cX9_digest 162 = .ok (.aload_n 0, 1) := by decide +kernel
theorem dX9_digest_163 : decode cX9_digest 163 = .ok (.invokevirtual 191, 3) := by decide +kernel
theorem dX9_digest_166 : decode cX9_digest 166 = .ok (.i2l, 1) := by decide +kernel
theorem dX9_digest_167 : decode cX9_digest 167 = .ok (.ladd, 1) := by decide +kernel
theorem dX9_digest_168 : decode cX9_digest 168 = .ok (.lstore_n 1, 1) := by decide +kernel
theorem dX9_digest_169 : decode cX9_digest 169 = .ok (.ldc2_w 318, 3) := by decide +kernel
theorem dX9_digest_172 : decode cX9_digest 172 = .ok (.lload_n 1, 1) := by decide +kernel
theorem dX9_digest_173 : decode cX9_digest 173 = .ok (.lmul, 1) := by decide +kernel
theorem dX9_digest_174 : decode cX9_digest 174 = .ok (.aload_n 0, 1) := by decide +kernel
theorem dX9_digest_175 : decode cX9_digest 175 = .ok (.invokevirtual 342, 3) := by decide +kernel
theorem dX9_digest_178 : decode cX9_digest 178 = .ok (.i2l, 1) := by decide +kernel
theorem dX9_digest_179 : decode cX9_digest 179 = .ok (.ladd, 1) := by decide +kernel
theorem dX9_digest_180 : decode cX9_digest 180 = .ok (.lstore_n 1, 1) := by decide +kernel
theorem dX9_digest_181 : decode cX9_digest 181 = .ok (.ldc2_w 318, 3) := by decide +kernel
theorem dX9_digest_184 : decode cX9_digest 184 = .ok (.lload_n 1, 1) := by decide +kernel
theorem dX9_digest_185 : decode cX9_digest 185 = .ok (.lmul, 1) := by decide +kernel
theorem dX9_digest_186 : decode cX9_digest 186 = .ok (.aload_n 0, 1) := by decide +kernel
theorem dX9_digest_187 : decode cX9_digest 187 = .ok (.invokevirtual 345, 3) := by decide +kernel
theorem dX9_digest_190 : decode cX9_digest 190 = .ok (.i2l, 1) := by decide +kernel
theorem dX9_digest_191 : decode cX9_digest 191 = .ok (.ladd, 1) := by decide +kernel
theorem dX9_digest_192 : decode cX9_digest 192 = .ok (.lstore_n 1, 1) := by decide +kernel
theorem dX9_digest_193 : decode cX9_digest 193 = .ok (.ldc2_w 318, 3) := by decide +kernel
theorem dX9_digest_196 : decode cX9_digest 196 = .ok (.lload_n 1, 1) := by decide +kernel
theorem dX9_digest_197 : decode cX9_digest 197 = .ok (.lmul, 1) := by decide +kernel
theorem dX9_digest_198 : decode cX9_digest 198 = .ok (.aload_n 0, 1) := by decide +kernel
theorem dX9_digest_199 : decode cX9_digest 199 = .ok (.iconst (-1), 1) := by decide +kernel
theorem dX9_digest_200 : decode cX9_digest 200 = .ok (.invokevirtual 348, 3) := by decide +kernel
theorem dX9_digest_203 : decode cX9_digest 203 = .ok (.i2l, 1) := by decide +kernel
theorem dX9_digest_204 : decode cX9_digest 204 = .ok (.ladd, 1) := by decide +kernel
theorem dX9_digest_205 : decode cX9_digest 205 = .ok (.lstore_n 1, 1) := by decide +kernel
theorem dX9_digest_206 : decode cX9_digest 206 = .ok (.ldc2_w 318, 3) := by decide +kernel
theorem dX9_digest_209 : decode cX9_digest 209 = .ok (.lload_n 1, 1) := by decide +kernel
theorem dX9_digest_210 : decode cX9_digest 210 = .ok (.lmul, 1) := by decide +kernel
theorem dX9_digest_211 : decode cX9_digest 211 = .ok (.aload_n 0, 1) := by decide +kernel
theorem dX9_digest_212 : decode cX9_digest 212 = .ok (.iconst 0, 1) := by decide +kernel
theorem dX9_digest_213 : decode cX9_digest 213 = .ok (.invokevirtual 348, 3) := by decide +kernel
theorem dX9_digest_216 : decode cX9_digest 216 = .ok (.i2l, 1) := by decide +kernel
theorem dX9_digest_217 : decode cX9_digest 217 = .ok (.ladd, 1) := by decide +kernel
theorem dX9_digest_218 : decode cX9_digest 218 = .ok (.lstore_n 1, 1) := by decide +kernel
theorem dX9_digest_219 : decode cX9_digest 219 = .ok (.ldc2_w 318, 3) := by decide +kernel
theorem dX9_digest_222 : decode cX9_digest 222 = .ok (.lload_n 1, 1) := by decide +kernel
theorem dX9_digest_223 : decode cX9_digest 223 = .ok (.lmul, 1) := by decide +kernel
theorem dX9_digest_224 : decode cX9_digest 224 = .ok (.aload_n 0, 1) := by decide +kernel
theorem dX9_digest_225 : decode cX9_digest 225 = .ok (.iconst 0, 1) := by decide +kernel
theorem dX9_digest_226 : decode cX9_digest 226 = .ok (.invokevirtual 351, 3) := by decide +kernel
theorem dX9_digest_229 : decode cX9_digest 229 = .ok (.i2l, 1) := by decide +kernel
theorem dX9_digest_230 : decode cX9_digest 230 = .ok (.ladd, 1) := by decide +kernel
theorem dX9_digest_231 : decode cX9_digest 231 = .ok (.lstore_n 1, 1) := by decide +kernel
theorem dX9_digest_232 : decode cX9_digest 232 = .ok (.ldc2_w 318, 3) := by decide +kernel
theorem dX9_digest_235 : decode cX9_digest 235 = .ok (.lload_n 1, 1) := by decide +kernel
theorem dX9_digest_236 : decode cX9_digest 236 = .ok (.lmul, 1) := by decide +kernel
theorem dX9_digest_237 : decode cX9_digest 237 = .ok (.aload_n 0, 1) := by decide +kernel
theorem dX9_digest_238 : decode cX9_digest 238 = .ok (.iconst 1, 1) := by decide +kernel
theorem dX9_digest_239 : decode cX9_digest 239 = .ok (.invokevirtual 351, 3) := by decide +kernel
theorem dX9_digest_242 : decode cX9_digest 242 = .ok (.i2l, 1) := by decide +kernel
theorem dX9_digest_243 : decode cX9_digest 243 = .ok (.ladd, 1) := by decide +kernel
theorem dX9_digest_244 : decode cX9_digest 244 = .ok (.lstore_n 1, 1) := by decide +kernel
theorem dX9_digest_245 : decode cX9_digest 245 = .ok (.ldc2_w 318, 3) := by decide +kernel
theorem dX9_digest_248 : decode cX9_digest 248 = .ok (.lload_n 1, 1) := by decide +kernel
theorem dX9_digest_249 : decode cX9_digest 249 = .ok (.lmul, 1) := by decide +kernel
theorem dX9_digest_250 : decode cX9_digest 250 = .ok (.aload_n 0, 1) := by decide +kernel
theorem dX9_digest_251 : decode cX9_digest 251 = .ok (.iconst 0, 1) := by decide +kernel
theorem dX9_digest_252 : decode cX9_digest 252 = .ok (.invokevirtual 354, 3) := by decide +kernel
theorem dX9_digest_255 : decode cX9_digest 255 = .ok (.i2l, 1) := by decide +kernel
theorem dX9_digest_256 : decode cX9_digest 256 = .ok (.ladd, 1) := by decide +kernel
theorem dX9_digest_257 : decode cX9_digest 257 = .ok (.lstore_n 1, 1) := by decide +kernel
theorem dX9_digest_258 : decode cX9_digest 258 = .ok (.ldc2_w 318, 3) := by decide +kernel
theorem dX9_digest_261 : decode cX9_digest 261 = .ok (.lload_n 1, 1) := by decide +kernel
theorem dX9_digest_262 : decode cX9_digest 262 = .ok (.lmul, 1) := by decide +kernel
theorem dX9_digest_263 : decode cX9_digest 263 = .ok (.aload_n 0, 1) := by decide +kernel
theorem dX9_digest_264 : decode cX9_digest 264 = .ok (.iconst 1, 1) := by decide +kernel
theorem dX9_digest_265 : decode cX9_digest 265 = .ok (.invokevirtual 354, 3) := by decide +kernel
theorem dX9_digest_268 : decode cX9_digest 268 = .ok (.i2l, 1) := by decide +kernel
theorem dX9_digest_269 : decode cX9_digest 269 = .ok (.ladd, 1) := by decide +kernel
theorem dX9_digest_270 : decode cX9_digest 270 = .ok (.lstore_n 1, 1) := by decide +kernel
theorem dX9_digest_271 : decode cX9_digest 271 = .ok (.ldc2_w 318, 3) := by decide +kernel
theorem dX9_digest_274 : decode cX9_digest 274 = .ok (.lload_n 1, 1) := by decide +kernel
theorem dX9_digest_275 : decode cX9_digest 275 = .ok (.lmul, 1) := by decide +kernel
theorem dX9_digest_276 : decode cX9_digest 276 = .ok (.aload_n 0, 1) := by decide +kernel
theorem dX9_digest_277 : decode cX9_digest 277 = .ok (.invokevirtual 357, 3) := by decide +kernel
theorem dX9_digest_280 : decode cX9_digest 280 = .ok (.i2l, 1) := by decide +kernel
theorem dX9_digest_281 : decode cX9_digest 281 = .ok (.ladd, 1) := by decide +kernel
theorem dX9_digest_282 : decode cX9_digest 282 = .ok (.lstore_n 1, 1) := by decide +kernel
theorem dX9_digest_283 : decode cX9_digest 283 = .ok (.ldc2_w 318, 3) := by decide +kernel
theorem dX9_digest_286 : decode cX9_digest 286 = .ok (.lload_n 1, 1) := by decide +kernel
theorem dX9_digest_287 : decode cX9_digest 287 = .ok (.lmul, 1) := by decide +kernel
theorem dX9_digest_288 : decode cX9_digest 288 = .ok (.aload_n 0, 1) := by decide +kernel
theorem dX9_digest_289 : decode cX9_digest 289 = .ok (.invokevirtual 360, 3) := by decide +kernel
theorem dX9_digest_292 : decode cX9_digest 292 = .ok (.i2l, 1) := by decide +kernel
theorem dX9_digest_293 : decode cX9_digest 293 = .ok (.ladd, 1) := by decide +kernel
theorem dX9_digest_294 : decode cX9_digest 294 = .ok (.lstore_n 1, 1) := by decide +kernel
theorem dX9_digest_295 : decode cX9_digest 295 = .ok (.ldc2_w 318, 3) := by decide +kernel
theorem dX9_digest_298 : decode cX9_digest 298 = .ok (.lload_n 1, 1) := by decide +kernel
theorem dX9_digest_299 : decode cX9_digest 299 = .ok (.lmul, 1) := by decide +kernel
theorem dX9_digest_300 : decode cX9_digest 300 = .ok (.aload_n 0, 1) := by decide +kernel
theorem dX9_digest_301 : decode cX9_digest 301 = .ok (.bipush 7, 2) := by decide +kernel
theorem dX9_digest_303 : decode cX9_digest 303 = .ok (.bipush 12, 2) := by decide +kernel
theorem dX9_digest_305 : decode cX9_digest 305 = .ok (.iconst 0, 1) := by decide +kernel
theorem dX9_digest_306 : decode cX9_digest 306 = .ok (.invokevirtual 363, 3) := by decide +kernel
theorem dX9_digest_309 : decode cX9_digest 309 = .ok (.i2l, 1) := by decide +kernel
theorem dX9_digest_310 : decode cX9_digest 310 = .ok (.ladd, 1) := by decide +kernel
theorem dX9_digest_311 : decode cX9_digest 311 = .ok (.lstore_n 1, 1) := by decide +kernel
theorem dX9_digest_312 : decode cX9_digest 312 = .ok (.ldc2_w 318, 3) := by decide +kernel
theorem dX9_digest_315 : decode cX9_digest 315 = .ok (.lload_n 1, 1) := by decide +kernel
theorem dX9_digest_316 : decode cX9_digest 316 = .ok (.lmul, 1) := by decide +kernel
theorem dX9_digest_317 : decode cX9_digest 317 = .ok (.aload_n 0, 1) := by decide +kernel
theorem dX9_digest_318 : decode cX9_digest 318 = .ok (.bipush 7, 2) := by decide +kernel
theorem dX9_digest_320 : decode cX9_digest 320 = .ok (.bipush 12, 2) := by decide +kernel
theorem dX9_digest_322 : decode cX9_digest 322 = .ok (.iconst 1, 1) := by decide +kernel
theorem dX9_digest_323 : decode cX9_digest 323 = .ok (.invokevirtual 363, 3) := by decide +kernel
theorem dX9_digest_326 : decode cX9_digest 326 = .ok (.i2l, 1) := by decide +kernel
theorem dX9_digest_327 : decode cX9_digest 327 = .ok (.ladd, 1) := by decide +kernel
theorem dX9_digest_328 : decode cX9_digest 328 = .ok (.lstore_n 1, 1) := by decide +kernel
theorem dX9_digest_329 : decode cX9_digest 329 = .ok (.lload_n 1, 1) := by decide +kernel
theorem dX9_digest_330 : decode cX9_digest 330 = .ok (.lreturn, 1) := by decide +kernel
set_option maxRecDepth 20000 in
theorem ggX9_digestCells_X9_cell : GoodIn wsX9_digestCells wsX9_cell := qw_e qk_X9_digestCells qk_X9_cell (by decide +kernel)
set_option maxRecDepth 20000 in
theorem gX9_digestCells_X9_cell : GoodIn wsX9_digestCells (wsV RX9 367 RX9 yX9_cell wsX9_cell) := goodIn_app (qw_e qk_X9_digestCells (QK_cons qw_44 (QK_cons qw_746 (QK_cons qw_747 (QK_cons qw_993 QK_nil)))) (by decide +kernel)) ggX9_digestCells_X9_cell
set_option maxRecDepth 20000 in
theorem ggX9_digestCells_X9_seen : GoodIn wsX9_digestCells wsX9_seen := qw_e qk_X9_digestCells qk_X9_seen (by decide +kernel)
set_option maxRecDepth 20000 in
theorem gX9_digestCells_X9_seen : GoodIn wsX9_digestCells (wsV RX9 370 RX9 yX9_seen wsX9_seen) := goodIn_app (qw_e qk_X9_digestCells (QK_cons qw_45 (QK_cons qw_547 (QK_cons qw_548 (QK_cons qw_993 QK_nil)))) (by decide +kernel)) ggX9_digestCells_X9_seen
theorem dX9_digestCells_0 : decode cX9_digestCells 0 = .ok (.lload_n 1, 1) := by decide +kernel
theorem dX9_digestCells_1 : decode cX9_digestCells 1 = .ok (.lstore_n 3, 1) := by decide +kernel
theorem dX9_digestCells_2 : decode cX9_digestCells 2 = .ok (.iconst 0, 1) := by decide +kernel
theorem dX9_digestCells_3 : decode cX9_digestCells 3 = .ok (.istore 5, 2) := by decide +kernel
theorem dX9_digestCells_5 : decode cX9_digestCells 5 = .ok (.iload 5, 2) := by decide +kernel
theorem dX9_digestCells_7 : decode cX9_digestCells 7 = .ok (.aload_n 0, 1) := by decide +kernel
theorem dX9_digestCells_8 : decode cX9_digestCells 8 = .ok (.getfield 25, 3) := by decide +kernel
theorem dX9_digestCells_11 : decode cX9_digestCells 11 = .ok (.getfield 120, 3) := by decide +kernel
theorem dX9_digestCells_14 : decode cX9_digestCells 14 = .ok (.if_icmp .ge 53, 3) := by decide +kernel
theorem dX9_digestCells_17 : decode cX9_digestCells 17 = .ok (.ldc2_w 318, 3) := by decide +kernel
theorem dX9_digestCells_20 : decode cX9_digestCells 20 = .ok (.lload_n 3, 1) := by decide +kernel
theorem dX9_digestCells_21 : decode cX9_digestCells 21 = .ok (.lmul, 1) := by decide +kernel
theorem dX9_digestCells_22 : decode cX9_digestCells 22 = .ok (.aload_n 0, 1) := by decide +kernel
theorem dX9_digestCells_23 : decode cX9_digestCells 23 = .ok (.iload 5, 2) := by decide +kernel
theorem dX9_digestCells_25 : decode cX9_digestCells 25 = .ok (.invokevirtual 367, 3) := by decide +kernel
theorem dX9_digestCells_28 : decode cX9_digestCells 28 = .ok (.i2l, 1) := by decide +kernel
theorem dX9_digestCells_29 : decode cX9_digestCells 29 = .ok (.ladd, 1) := by decide +kernel
theorem dX9_digestCells_30 : decode cX9_digestCells 30 = .ok (.lstore_n 3, 1) := by decide +kernel
theorem dX9_digestCells_31 : decode cX9_digestCells 31 = .ok (.ldc2_w 318, 3) := by decide +kernel
theorem dX9_digestCells_34 : decode cX9_digestCells 34 = .ok (.lload_n 3, 1) := by decide +kernel
theorem dX9_digestCells_35 : decode cX9_digestCells 35 = .ok (.lmul, 1) := by decide +kernel
theorem dX9_digestCells_36 : decode cX9_digestCells 36 = .ok (.aload_n 0, 1) := by decide +kernel
theorem dX9_digestCells_37 : decode cX9_digestCells 37 = .ok (.iload 5, 2) := by decide +kernel
theorem dX9_digestCells_39 : decode cX9_digestCells 39 = .ok (.iconst 0, 1) := by decide +kernel
theorem dX9_digestCells_40 : decode cX9_digestCells 40 = .ok (.invokevirtual 370, 3) := by decide +kernel
theorem dX9_digestCells_43 : decode cX9_digestCells 43 = .ok (.i2l, 1) := by decide +kernel
theorem dX9_digestCells_44 : decode cX9_digestCells 44 = .ok (.ladd, 1) := by decide +kernel
theorem dX9_digestCells_45 : decode cX9_digestCells 45 = .ok (.lstore_n 3, 1) := by decide +kernel
theorem dX9_digestCells_46 : decode cX9_digestCells 46 = .ok (.ldc2_w 318, 3) := by decide +kernel
theorem dX9_digestCells_49 : decode cX9_digestCells 49 = .ok (.lload_n 3, 1) := by decide +kernel
theorem dX9_digestCells_50 : decode cX9_digestCells 50 = .ok (.lmul, 1) := by decide +kernel
theorem dX9_digestCells_51 : decode cX9_digestCells 51 = .ok (.aload_n 0, 1) := by decide +kernel
theorem dX9_digestCells_52 : decode cX9_digestCells 52 = .ok (.iload 5, 2) := by decide +kernel
theorem dX9_digestCells_54 : decode cX9_digestCells 54 = .ok (.iconst 1, 1) := by decide +kernel
theorem dX9_digestCells_55 : decode cX9_digestCells 55 = .ok (.invokevirtual 370, 3) := by decide +kernel
theorem dX9_digestCells_58 : decode cX9_digestCells 58 = .ok (.i2l, 1) := by decide +kernel
theorem dX9_digestCells_59 : decode cX9_digestCells 59 = .ok (.ladd, 1) := by decide +kernel
theorem dX9_digestCells_60 : decode cX9_digestCells 60 = .ok (.lstore_n 3, 1) := by decide +kernel
theorem dX9_digestCells_61 : decode cX9_digestCells 61 = .ok (.iinc 5 1, 3) := by decide +kernel
theorem dX9_digestCells_64 : decode cX9_digestCells 64 = .ok (.goto (-59), 3) := by decide +kernel
theorem dX9_digestCells_67 : decode cX9_digestCells 67 = .ok (.lload_n 3, 1) := by decide +kernel
theorem dX9_digestCells_68 : decode cX9_digestCells 68 = .ok (.lreturn, 1) := by decide +kernel
set_option maxRecDepth 20000 in
theorem ggX9_digestThief_X9_thief : GoodIn wsX9_digestThief wsX9_thief := qw_e qk_X9_digestThief qk_X9_thief (by decide +kernel)
set_option maxRecDepth 20000 in
theorem gX9_digestThief_X9_thief : GoodIn wsX9_digestThief (wsV RX9 373 RX9 yX9_thief wsX9_thief) := goodIn_app (qw_e qk_X9_digestThief (QK_cons qw_51 (QK_cons qw_682 (QK_cons qw_683 (QK_cons qw_993 QK_nil)))) (by decide +kernel)) ggX9_digestThief_X9_thief
set_option maxRecDepth 20000 in
theorem ggX9_digestThief_X9_takes : GoodIn wsX9_digestThief wsX9_takes := qw_e qk_X9_digestThief qk_X9_takes (by decide +kernel)
set_option maxRecDepth 20000 in
theorem gX9_digestThief_X9_takes : GoodIn wsX9_digestThief (wsV RX9 376 RX9 yX9_takes wsX9_takes) := goodIn_app (qw_e qk_X9_digestThief (QK_cons qw_52 (QK_cons qw_528 (QK_cons qw_529 (QK_cons qw_993 QK_nil)))) (by decide +kernel)) ggX9_digestThief_X9_takes
set_option maxRecDepth 20000 in
theorem ggX9_digestThief_X9_meant : GoodIn wsX9_digestThief wsX9_meant := qw_e qk_X9_digestThief qk_X9_meant (by decide +kernel)
set_option maxRecDepth 20000 in
theorem gX9_digestThief_X9_meant : GoodIn wsX9_digestThief (wsV RX9 379 RX9 yX9_meant wsX9_meant) := goodIn_app (qw_e qk_X9_digestThief (QK_cons qw_53 (QK_cons qw_250 (QK_cons qw_251 (QK_cons qw_993 QK_nil)))) (by decide +kernel)) ggX9_digestThief_X9_meant
set_option maxRecDepth 20000 in
theorem ggX9_digestThief_X9_fogged : GoodIn wsX9_digestThief wsX9_fogged := qw_e qk_X9_digestThief qk_X9_fogged (by decide +kernel)
set_option maxRecDepth 20000 in
theorem gX9_digestThief_X9_fogged : GoodIn wsX9_digestThief (wsV RX9 382 RX9 yX9_fogged wsX9_fogged) := goodIn_app (qw_e qk_X9_digestThief (QK_cons qw_54 (QK_cons qw_204 (QK_cons qw_205 (QK_cons qw_993 QK_nil)))) (by decide +kernel)) ggX9_digestThief_X9_fogged
theorem dX9_digestThief_0 : decode cX9_digestThief 0 = .ok (.lload_n 1, 1) := by decide +kernel
theorem dX9_digestThief_1 : decode cX9_digestThief 1 = .ok (.lstore 4, 2) := by decide +kernel
theorem dX9_digestThief_3 : decode cX9_digestThief 3 = .ok (.ldc2_w 318, 3) := by decide +kernel
theorem dX9_digestThief_6 : decode cX9_digestThief 6 = .ok (.lload 4, 2) := by decide +kernel
theorem dX9_digestThief_8 : decode cX9_digestThief 8 = .ok (.lmul, 1) := by decide +kernel
theorem dX9_digestThief_9 : decode cX9_digestThief 9 = .ok (.aload_n 0, 1) := by decide +kernel
theorem dX9_digestThief_10 : decode cX9_digestThief 10 = .ok (.iload_n 3, 1) := by decide +kernel
theorem dX9_digestThief_11 : decode cX9_digestThief 11 = .ok (.iconst 0, 1) := by decide +kernel
theorem dX9_digestThief_12 : decode cX9_digestThief 12 = .ok (.invokevirtual 373, 3) := by decide +kernel
theorem dX9_digestThief_15 : decode cX9_digestThief 15 = .ok (.i2l, 1) := by decide +kernel
theorem dX9_digestThief_16 : decode cX9_digestThief 16 = .ok (.ladd, 1) := by decide +kernel
theorem dX9_digestThief_17 : decode cX9_digestThief 17 = .ok (.lstore 4, 2) := by decide +kernel
theorem dX9_digestThief_19 : decode cX9_digestThief 19 = .ok (.ldc2_w 318, 3) := by decide +kernel
theorem dX9_digestThief_22 : decode cX9_digestThief 22 = .ok (.lload 4, 2) := by decide +kernel
theorem dX9_digestThief_24 : decode cX9_digestThief 24 = .ok (.lmul, 1) := by decide +kernel
theorem dX9_digestThief_25 : decode cX9_digestThief 25 = .ok (.aload_n 0, 1) := by decide +kernel
theorem dX9_digestThief_26 : decode cX9_digestThief 26 = .ok (.iload_n 3, 1) := by decide +kernel
theorem dX9_digestThief_27 : decode cX9_digestThief 27 = .ok (.iconst 1, 1) := by decide +kernel
theorem dX9_digestThief_28 : decode cX9_digestThief 28 = .ok (.invokevirtual 373, 3) := by decide +kernel
theorem dX9_digestThief_31 : decode cX9_digestThief 31 = .ok (.i2l, 1) := by decide +kernel
theorem dX9_digestThief_32 : decode cX9_digestThief 32 = .ok (.ladd, 1) := by decide +kernel
theorem dX9_digestThief_33 : decode cX9_digestThief 33 = .ok (.lstore 4, 2) := by decide +kernel
theorem dX9_digestThief_35 : decode cX9_digestThief 35 = .ok (.ldc2_w 318, 3) := by decide +kernel
theorem dX9_digestThief_38 : decode cX9_digestThief 38 = .ok (.lload 4, 2) := by decide +kernel
theorem dX9_digestThief_40 : decode cX9_digestThief 40 = .ok (.lmul, 1) := by decide +kernel
theorem dX9_digestThief_41 : decode cX9_digestThief 41 = .ok (.aload_n 0, 1) := by decide +kernel
theorem dX9_digestThief_42 : decode cX9_digestThief 42 = .ok (.iload_n 3, 1) := by decide +kernel
theorem dX9_digestThief_43 : decode cX9_digestThief 43 = .ok (.invokevirtual 376, 3) := by decide +kernel
theorem dX9_digestThief_46 : decode cX9_digestThief 46 = .ok (.i2l, 1) := by decide +kernel
theorem dX9_digestThief_47 : decode cX9_digestThief 47 = .ok (.ladd, 1) := by decide +kernel
theorem dX9_digestThief_48 : decode cX9_digestThief 48 = .ok (.lstore 4, 2) := by decide +kernel
theorem dX9_digestThief_50 : decode cX9_digestThief 50 = .ok (.ldc2_w 318, 3) := by decide +kernel
theorem dX9_digestThief_53 : decode cX9_digestThief 53 = .ok (.lload 4, 2) := by decide +kernel
theorem dX9_digestThief_55 : decode cX9_digestThief 55 = .ok (.lmul, 1) := by decide +kernel
theorem dX9_digestThief_56 : decode cX9_digestThief 56 = .ok (.aload_n 0, 1) := by decide +kernel
theorem dX9_digestThief_57 : decode cX9_digestThief 57 = .ok (.iload_n 3, 1) := by decide +kernel
theorem dX9_digestThief_58 : decode cX9_digestThief 58 = .ok (.iconst (-1), 1) := by decide +kernel
theorem dX9_digestThief_59 : decode cX9_digestThief 59 = .ok (.invokevirtual 379, 3) := by decide +kernel
theorem dX9_digestThief_62 : decode cX9_digestThief 62 = .ok (.i2l, 1) := by decide +kernel
theorem dX9_digestThief_63 : decode cX9_digestThief 63 = .ok (.ladd, 1) := by decide +kernel
theorem dX9_digestThief_64 : decode cX9_digestThief 64 = .ok (.lstore 4, 2) := by decide +kernel
theorem dX9_digestThief_66 : decode cX9_digestThief 66 = .ok (.ldc2_w 318, 3) := by decide +kernel
theorem dX9_digestThief_69 : decode cX9_digestThief 69 = .ok (.lload 4, 2) := by decide +kernel
theorem dX9_digestThief_71 : decode cX9_digestThief 71 = .ok (.lmul, 1) := by decide +kernel
theorem dX9_digestThief_72 : decode cX9_digestThief 72 = .ok (.aload_n 0, 1) := by decide +kernel
theorem dX9_digestThief_73 : decode cX9_digestThief 73 = .ok (.iload_n 3, 1) := by decide +kernel
theorem dX9_digestThief_74 : decode cX9_digestThief 74 = .ok (.iconst 0, 1) := by decide +kernel
theorem dX9_digestThief_75 : decode cX9_digestThief 75 = .ok (.invokevirtual 379, 3) := by decide +kernel
theorem dX9_digestThief_78 : decode cX9_digestThief 78 = .ok (.i2l, 1) := by decide +kernel
theorem dX9_digestThief_79 : decode cX9_digestThief 79 = .ok (.ladd, 1) := by decide +kernel
theorem dX9_digestThief_80 : decode cX9_digestThief 80 = .ok (.lstore 4, 2) := by decide +kernel
theorem dX9_digestThief_82 : decode cX9_digestThief 82 = .ok (.ldc2_w 318, 3) := by decide +kernel
theorem dX9_digestThief_85 : decode cX9_digestThief 85 = .ok (.lload 4, 2) := by decide +kernel
theorem dX9_digestThief_87 : decode cX9_digestThief 87 = .ok (.lmul, 1) := by decide +kernel
theorem dX9_digestThief_88 : decode cX9_digestThief 88 = .ok (.aload_n 0, 1) := by decide +kernel
theorem dX9_digestThief_89 : decode cX9_digestThief 89 = .ok (.iconst 5, 1) := by decide +kernel
theorem dX9_digestThief_90 : decode cX9_digestThief 90 = .ok (.iconst 5, 1) := by decide +kernel
theorem dX9_digestThief_91 : decode cX9_digestThief 91 = .ok (.iload_n 3, 1) := by decide +kernel
theorem dX9_digestThief_92 : decode cX9_digestThief 92 = .ok (.iconst 0, 1) := by decide +kernel
theorem dX9_digestThief_93 : decode cX9_digestThief 93 = .ok (.invokevirtual 382, 3) := by decide +kernel
theorem dX9_digestThief_96 : decode cX9_digestThief 96 = .ok (.ladd, 1) := by decide +kernel
theorem dX9_digestThief_97 : decode cX9_digestThief 97 = .ok (.lstore 4, 2) := by decide +kernel
theorem dX9_digestThief_99 : decode cX9_digestThief 99 = .ok (.ldc2_w 318, 3) := by decide +kernel
theorem dX9_digestThief_102 : decode cX9_digestThief 102 = .ok (.lload 4, 2) := by decide +kernel
theorem dX9_digestThief_104 : decode cX9_digestThief 104 = .ok (.lmul, 1) := by decide +kernel
theorem dX9_digestThief_105 : decode cX9_digestThief 105 = .ok (.aload_n 0, 1) := by decide +kernel
theorem dX9_digestThief_106 : decode cX9_digestThief 106 = .ok (.iconst 5, 1) := by decide +kernel
theorem dX9_digestThief_107 : decode cX9_digestThief 107 = .ok (.iconst 5, 1) := by decide +kernel
theorem dX9_digestThief_108 : decode cX9_digestThief 108 = .ok (.iload_n 3, 1) := by decide +kernel
theorem dX9_digestThief_109 : decode cX9_digestThief 109 = .ok (.iconst 1, 1) := by decide +kernel
theorem dX9_digestThief_110 : decode cX9_digestThief 110 = .ok (.invokevirtual 382, 3) := by decide +kernel
theorem dX9_digestThief_113 : decode cX9_digestThief 113 = .ok (.ladd, 1) := by decide +kernel
theorem dX9_digestThief_114 : decode cX9_digestThief 114 = .ok (.lstore 4, 2) := by decide +kernel
theorem dX9_digestThief_116 : decode cX9_digestThief 116 = .ok (.lload 4, 2) := by decide +kernel
theorem dX9_digestThief_118 : decode cX9_digestThief 118 = .ok (.lreturn, 1) := by decide +kernel
set_option maxRecDepth 20000 in
theorem ggX9_digestMoments_X9_at : GoodIn wsX9_digestMoments wsX9_at := qw_e qk_X9_digestMoments qk_X9_at (by decide +kernel)
set_option maxRecDepth 20000 in
theorem gX9_digestMoments_X9_at : GoodIn wsX9_digestMoments (wsV RX9 389 RX9 yX9_at wsX9_at) := goodIn_app (qw_e qk_X9_digestMoments (QK_cons qw_12 (QK_cons qw_667 (QK_cons qw_668 (QK_cons qw_993 QK_nil)))) (by decide +kernel)) ggX9_digestMoments_X9_at
set_option maxRecDepth 20000 in
theorem ggX9_digestMoments_X9_sees : GoodIn wsX9_digestMoments wsX9_sees := qw_e qk_X9_digestMoments qk_X9_sees (by decide +kernel)
set_option maxRecDepth 20000 in
theorem gX9_digestMoments_X9_sees : GoodIn wsX9_digestMoments (wsV RX9 392 RX9 yX9_sees wsX9_sees) := goodIn_app (qw_e qk_X9_digestMoments (QK_cons qw_13 (QK_cons qw_578 (QK_cons qw_579 (QK_cons qw_993 QK_nil)))) (by decide +kernel)) ggX9_digestMoments_X9_sees
theorem dX9_digestMoments_0 : decode cX9_digestMoments 0 = .ok (.lload_n 1, 1) := by decide +kernel
theorem dX9_digestMoments_1 : decode cX9_digestMoments 1 = .ok (.lstore_n 3, 1) := by decide +kernel
theorem dX9_digestMoments_2 : decode cX9_digestMoments 2 = .ok (.getstatic 386, 3) := by decide +kernel
theorem dX9_digestMoments_5 : decode cX9_digestMoments 5 = .ok (.astore 5, 2) := by decide +kernel
theorem dX9_digestMoments_7 : decode cX9_digestMoments 7 = .ok (.aload 5, 2) := by decide +kernel
theorem dX9_digestMoments_9 : decode cX9_digestMoments 9 = .ok (.arraylength, 1) := by decide +kernel
theorem dX9_digestMoments_10 : decode cX9_digestMoments 10 = .ok (.istore 6, 2) := by decide +kernel
theorem dX9_digestMoments_12 : decode cX9_digestMoments 12 = .ok (.iconst 0, 1) := by decide +kernel
theorem dX9_digestMoments_13 : decode cX9_digestMoments 13 = .ok (.istore 7, 2) := by decide +kernel
theorem dX9_digestMoments_15 : decode cX9_digestMoments 15 = .ok (.iload 7, 2) := by decide +kernel
theorem dX9_digestMoments_17 : decode cX9_digestMoments 17 = .ok (.iload 6, 2) := by decide +kernel
theorem dX9_digestMoments_19 : decode cX9_digestMoments 19 = .ok (.if_icmp .ge 60, 3) := by decide +kernel
theorem dX9_digestMoments_22 : decode cX9_digestMoments 22 = .ok (.aload 5, 2) := by decide +kernel
theorem dX9_digestMoments_24 : decode cX9_digestMoments 24 = .ok (.iload 7, 2) := by decide +kernel
theorem dX9_digestMoments_26 : decode cX9_digestMoments 26 = .ok (.iaload, 1) := by decide +kernel
theorem dX9_digestMoments_27 : decode cX9_digestMoments 27 = .ok (.istore 8, 2) := by decide +kernel
theorem dX9_digestMoments_29 : decode cX9_digestMoments 29 = .ok (.ldc2_w 318, 3) := by decide +kernel
theorem dX9_digestMoments_32 : decode cX9_digestMoments 32 = .ok (.lload_n 3, 1) := by decide +kernel
theorem dX9_digestMoments_33 : decode cX9_digestMoments 33 = .ok (.lmul, 1) := by decide +kernel
theorem dX9_digestMoments_34 : decode cX9_digestMoments 34 = .ok (.aload_n 0, 1) := by decide +kernel
theorem dX9_digestMoments_35 : decode cX9_digestMoments 35 = .ok (.iload 8, 2) := by decide +kernel
theorem dX9_digestMoments_37 : decode cX9_digestMoments 37 = .ok (.invokevirtual 389, 3) := by decide +kernel
theorem dX9_digestMoments_40 : decode cX9_digestMoments 40 = .ok (.i2l, 1) := by decide +kernel
theorem dX9_digestMoments_41 : decode cX9_digestMoments 41 = .ok (.ladd, 1) := by decide +kernel
theorem dX9_digestMoments_42 : decode cX9_digestMoments 42 = .ok (.lstore_n 3, 1) := by decide +kernel
theorem dX9_digestMoments_43 : decode cX9_digestMoments 43 = .ok (.ldc2_w 318, 3) := by decide +kernel
theorem dX9_digestMoments_46 : decode cX9_digestMoments 46 = .ok (.lload_n 3, 1) := by decide +kernel
theorem dX9_digestMoments_47 : decode cX9_digestMoments 47 = .ok (.lmul, 1) := by decide +kernel
theorem dX9_digestMoments_48 : decode cX9_digestMoments 48 = .ok (.aload_n 0, 1) := by decide +kernel
theorem dX9_digestMoments_49 : decode cX9_digestMoments 49 = .ok (.iload 8, 2) := by decide +kernel
theorem dX9_digestMoments_51 : decode cX9_digestMoments 51 = .ok (.iconst 0, 1) := by decide +kernel
theorem dX9_digestMoments_52 : decode cX9_digestMoments 52 = .ok (.invokevirtual 392, 3) := by decide +kernel
theorem dX9_digestMoments_55 : decode cX9_digestMoments 55 = .ok (.i2l, 1) := by decide +kernel
theorem dX9_digestMoments_56 : decode cX9_digestMoments 56 = .ok (.ladd, 1) := by decide +kernel
theorem dX9_digestMoments_57 : decode cX9_digestMoments 57 = .ok (.lstore_n 3, 1) := by decide +kernel
theorem dX9_digestMoments_58 : decode cX9_digestMoments 58 = .ok (.ldc2_w 318, 3) := by decide +kernel
theorem dX9_digestMoments_61 : decode cX9_digestMoments 61 = .ok (.lload_n 3, 1) := by decide +kernel
theorem dX9_digestMoments_62 : decode cX9_digestMoments 62 = .ok (.lmul, 1) := by decide +kernel
theorem dX9_digestMoments_63 : decode cX9_digestMoments 63 = .ok (.aload_n 0, 1) := by decide +kernel
theorem dX9_digestMoments_64 : decode cX9_digestMoments 64 = .ok (.iload 8, 2) := by decide +kernel
theorem dX9_digestMoments_66 : decode cX9_digestMoments 66 = .ok (.iconst 1, 1) := by decide +kernel
theorem dX9_digestMoments_67 : decode cX9_digestMoments 67 = .ok (.invokevirtual 392, 3) := by decide +kernel
theorem dX9_digestMoments_70 : decode cX9_digestMoments 70 = .ok (.i2l, 1) := by decide +kernel
theorem dX9_digestMoments_71 : decode cX9_digestMoments 71 = .ok (.ladd, 1) := by decide +kernel
theorem dX9_digestMoments_72 : decode cX9_digestMoments 72 = .ok (.lstore_n 3, 1) := by decide +kernel
theorem dX9_digestMoments_73 : decode cX9_digestMoments 73 = .ok (.iinc 7 1, 3) := by decide +kernel
theorem dX9_digestMoments_76 : decode cX9_digestMoments 76 = .ok (.goto (-61), 3) := by decide +kernel
theorem dX9_digestMoments_79 : decode cX9_digestMoments 79 = .ok (.lload_n 3, 1) := by decide +kernel
theorem dX9_digestMoments_80 : decode cX9_digestMoments 80 = .ok (.lreturn, 1) := by decide +kernel
theorem dX9_isText_0 : decode cX9_isText 0 = .ok (.iload_n 1, 1) := by decide +kernel
theorem dX9_isText_1 : decode cX9_isText 1 = .ok (.ifCond .lt 16, 3) := by decide +kernel
theorem dX9_isText_4 : decode cX9_isText 4 = .ok (.iload_n 1, 1) := by decide +kernel
theorem dX9_isText_5 : decode cX9_isText 5 = .ok (.aload_n 0, 1) := by decide +kernel
theorem dX9_isText_6 : decode cX9_isText 6 = .ok (.getfield 11, 3) := by decide +kernel
theorem dX9_isText_9 : decode cX9_isText 9 = .ok (.arraylength, 1) := by decide +kernel
theorem dX9_isText_10 : decode cX9_isText 10 = .ok (.if_icmp .ge 7, 3) := by decide +kernel
theorem dX9_isText_13 : decode cX9_isText 13 = .ok (.iconst 1, 1) := by decide +kernel
theorem dX9_isText_14 : decode cX9_isText 14 = .ok (.goto 4, 3) := by decide +kernel
theorem dX9_isText_17 : decode cX9_isText 17 = .ok (.iconst 0, 1) := by decide +kernel
theorem dX9_isText_18 : decode cX9_isText 18 = .ok (.ireturn, 1) := by decide +kernel
theorem dX9_isThief_0 : decode cX9_isThief 0 = .ok (.iload_n 1, 1) := by decide +kernel
theorem dX9_isThief_1 : decode cX9_isThief 1 = .ok (.ifCond .lt 18, 3) := by decide +kernel
theorem dX9_isThief_4 : decode cX9_isThief 4 = .ok (.iload_n 1, 1) := by decide +kernel
theorem dX9_isThief_5 : decode cX9_isThief 5 = .ok (.aload_n 0, 1) := by decide +kernel
theorem dX9_isThief_6 : decode cX9_isThief 6 = .ok (.getfield 39, 3) := by decide +kernel
theorem dX9_isThief_9 : decode cX9_isThief 9 = .ok (.getfield 190, 3) := by decide +kernel
theorem dX9_isThief_12 : decode cX9_isThief 12 = .ok (.if_icmp .ge 7, 3) := by decide +kernel
theorem dX9_isThief_15 : decode cX9_isThief 15 = .ok (.iconst 1, 1) := by decide +kernel
theorem dX9_isThief_16 : decode cX9_isThief 16 = .ok (.goto 4, 3) := by decide +kernel
theorem dX9_isThief_19 : decode cX9_isThief 19 = .ok (.iconst 0, 1) := by decide +kernel
theorem dX9_isThief_20 : decode cX9_isThief 20 = .ok (.ireturn, 1) := by decide +kernel
theorem dX9_isSheet_0 : decode cX9_isSheet 0 = .ok (.iload_n 1, 1) := by decide +kernel
theorem dX9_isSheet_1 : decode cX9_isSheet 1 = .ok (.ifCond .lt 16, 3) := by decide +kernel
theorem dX9_isSheet_4 : decode cX9_isSheet 4 = .ok (.iload_n 1, 1) := by decide +kernel
theorem dX9_isSheet_5 : decode cX9_isSheet 5 = .ok (.aload_n 0, 1) := by decide +kernel
theorem dX9_isSheet_6 : decode cX9_isSheet 6 = .ok (.getfield 52, 3) := by decide +kernel
theorem dX9_isSheet_9 : decode cX9_isSheet 9 = .ok (.arraylength, 1) := by decide +kernel
theorem dX9_isSheet_10 : decode cX9_isSheet 10 = .ok (.if_icmp .ge 7, 3) := by decide +kernel
theorem dX9_isSheet_13 : decode cX9_isSheet 13 = .ok (.iconst 1, 1) := by decide +kernel
theorem dX9_isSheet_14 : decode cX9_isSheet 14 = .ok (.goto 4, 3) := by decide +kernel
theorem dX9_isSheet_17 : decode cX9_isSheet 17 = .ok (.iconst 0, 1) := by decide +kernel
theorem dX9_isSheet_18 : decode cX9_isSheet 18 = .ok (.ireturn, 1) := by decide +kernel
theorem dX9_isMoment_0 : decode cX9_isMoment 0 = .ok (.iload_n 0, 1) := by decide +kernel
theorem dX9_isMoment_1 : decode cX9_isMoment 1 = .ok (.ifCond .lt 13, 3) := by decide +kernel
theorem dX9_isMoment_4 : decode cX9_isMoment 4 = .ok (.iload_n 0, 1) := by decide +kernel
theorem dX9_isMoment_5 : decode cX9_isMoment 5 = .ok (.bipush 96, 2) := by decide +kernel
theorem dX9_isMoment_7 : decode cX9_isMoment 7 = .ok (.if_icmp .ge 7, 3) := by decide +kernel
theorem dX9_isMoment_10 : decode cX9_isMoment 10 = .ok (.iconst 1, 1) := by decide +kernel
theorem dX9_isMoment_11 : decode cX9_isMoment 11 = .ok (.goto 4, 3) := by decide +kernel
theorem dX9_isMoment_14 : decode cX9_isMoment 14 = .ok (.iconst 0, 1) := by decide +kernel
theorem dX9_isMoment_15 : decode cX9_isMoment 15 = .ok (.ireturn, 1) := by decide +kernel
theorem dX9_isEither_0 : decode cX9_isEither 0 = .ok (.iload_n 0, 1) := by decide +kernel
theorem dX9_isEither_1 : decode cX9_isEither 1 = .ok (.ifCond .eq 8, 3) := by decide +kernel
theorem dX9_isEither_4 : decode cX9_isEither 4 = .ok (.iload_n 0, 1) := by decide +kernel
theorem dX9_isEither_5 : decode cX9_isEither 5 = .ok (.iconst 1, 1) := by decide +kernel
theorem dX9_isEither_6 : decode cX9_isEither 6 = .ok (.if_icmp .ne 7, 3) := by decide +kernel
theorem dX9_isEither_9 : decode cX9_isEither 9 = .ok (.iconst 1, 1) := by decide +kernel
theorem dX9_isEither_10 : decode cX9_isEither 10 = .ok (.goto 4, 3) := by decide +kernel
theorem dX9_isEither_13 : decode cX9_isEither 13 = .ok (.iconst 0, 1) := by decide +kernel
theorem dX9_isEither_14 : decode cX9_isEither 14 = .ok (.ireturn, 1) := by decide +kernel
theorem dX9_found_0 : decode cX9_found 0 = .ok (.aload_n 0, 1) := by decide +kernel
theorem dX9_found_1 : decode cX9_found 1 = .ok (.iload_n 1, 1) := by decide +kernel
theorem dX9_found_2 : decode cX9_found 2 = .ok (.putfield 89, 3) := by decide +kernel
theorem dX9_found_5 : decode cX9_found 5 = .ok (.bipush (-10), 2) := by decide +kernel
theorem dX9_found_7 : decode cX9_found 7 = .ok (.iload_n 1, 1) := by decide +kernel
theorem dX9_found_8 : decode cX9_found 8 = .ok (.isub, 1) := by decide +kernel
theorem dX9_found_9 : decode cX9_found 9 = .ok (.ireturn, 1) := by decide +kernel
set_option maxRecDepth 20000 in
theorem ggX9_readAgain_X8_parse : GoodIn wsX9_readAgain wsX8_parse := qw_e qk_X9_readAgain qk_X8_parse (by decide +kernel)
set_option maxRecDepth 20000 in
theorem gX9_readAgain_X8_parse : GoodIn wsX9_readAgain (wsV RX9 395 RX8 yX8_parse wsX8_parse) := goodIn_app (qw_e qk_X9_readAgain (QK_cons qw_865 (QK_cons qw_866 (QK_cons qw_867 (QK_cons qw_1010 QK_nil)))) (by decide +kernel)) ggX9_readAgain_X8_parse
set_option maxRecDepth 20000 in
theorem ggX9_readAgain_X4_parse : GoodIn wsX9_readAgain wsX4_parse := qw_e qk_X9_readAgain qk_X4_parse (by decide +kernel)
set_option maxRecDepth 20000 in
theorem gX9_readAgain_X4_parse : GoodIn wsX9_readAgain (wsV RX9 399 RX4 yX4_parse wsX4_parse) := goodIn_app (qw_e qk_X9_readAgain (QK_cons qw_838 (QK_cons qw_839 (QK_cons qw_840 (QK_cons qw_1014 QK_nil)))) (by decide +kernel)) ggX9_readAgain_X4_parse
set_option maxRecDepth 20000 in
theorem ggX9_readAgain_X7_parse : GoodIn wsX9_readAgain wsX7_parse := qw_e qk_X9_readAgain qk_X7_parse (by decide +kernel)
set_option maxRecDepth 20000 in
theorem gX9_readAgain_X7_parse : GoodIn wsX9_readAgain (wsV RX9 400 RX7 yX7_parse wsX7_parse) := goodIn_app (qw_e qk_X9_readAgain (QK_cons qw_803 (QK_cons qw_804 (QK_cons qw_805 (QK_cons qw_970 QK_nil)))) (by decide +kernel)) ggX9_readAgain_X7_parse
theorem dX9_readAgain_0 : decode cX9_readAgain 0 = .ok (.iload_n 1, 1) := by decide +kernel
theorem dX9_readAgain_1 : decode cX9_readAgain 1 = .ok (.tableswitch 93 0 2 #[27, 49, 71], 27) := by decide +kernel
theorem dX9_readAgain_28 : decode cX9_readAgain 28 = .ok (.aload_n 0, 1) := by decide +kernel
theorem dX9_readAgain_29 : decode cX9_readAgain 29 = .ok (.getfield 15, 3) := by decide +kernel
theorem dX9_readAgain_32 : decode cX9_readAgain 32 = .ok (.iconst 0, 1) := by decide +kernel
theorem dX9_readAgain_33 : decode cX9_readAgain 33 = .ok (.aload_n 0, 1) := by decide +kernel
theorem dX9_readAgain_34 : decode cX9_readAgain 34 = .ok (.getfield 25, 3) := by decide +kernel
theorem dX9_readAgain_37 : decode cX9_readAgain 37 = .ok (.aload_n 0, 1) := by decide +kernel
theorem dX9_readAgain_38 : decode cX9_readAgain 38 = .ok (.getfield 11, 3) := by decide +kernel
theorem dX9_readAgain_41 : decode cX9_readAgain 41 = .ok (.iconst 0, 1) := by decide +kernel
theorem dX9_readAgain_42 : decode cX9_readAgain 42 = .ok (.aaload, 1) := by decide +kernel
theorem dX9_readAgain_43 : decode cX9_readAgain 43 = .ok (.invokevirtual 395, 3) := by decide +kernel
theorem dX9_readAgain_46 : decode cX9_readAgain 46 = .ok (.iastore, 1) := by decide +kernel
theorem dX9_readAgain_47 : decode cX9_readAgain 47 = .ok (.goto 47, 3) := by decide +kernel
theorem dX9_readAgain_50 : decode cX9_readAgain 50 = .ok (.aload_n 0, 1) := by decide +kernel
theorem dX9_readAgain_51 : decode cX9_readAgain 51 = .ok (.getfield 15, 3) := by decide +kernel
theorem dX9_readAgain_54 : decode cX9_readAgain 54 = .ok (.iconst 1, 1) := by decide +kernel
theorem dX9_readAgain_55 : decode cX9_readAgain 55 = .ok (.aload_n 0, 1) := by decide +kernel
theorem dX9_readAgain_56 : decode cX9_readAgain 56 = .ok (.getfield 32, 3) := by decide +kernel
theorem dX9_readAgain_59 : decode cX9_readAgain 59 = .ok (.aload_n 0, 1) := by decide +kernel
theorem dX9_readAgain_60 : decode cX9_readAgain 60 = .ok (.getfield 11, 3) := by decide +kernel
theorem dX9_readAgain_63 : decode cX9_readAgain 63 = .ok (.iconst 1, 1) := by decide +kernel
theorem dX9_readAgain_64 : decode cX9_readAgain 64 = .ok (.aaload, 1) := by decide +kernel
theorem dX9_readAgain_65 : decode cX9_readAgain 65 = .ok (.invokevirtual 399, 3) := by decide +kernel
theorem dX9_readAgain_68 : decode cX9_readAgain 68 = .ok (.iastore, 1) := by decide +kernel
