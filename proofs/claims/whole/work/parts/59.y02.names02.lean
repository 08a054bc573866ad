theorem dX4_drawLots_23 : decode cX4_drawLots 23 = .ok (.iadd, 1) := by decide +kernel
theorem dX4_drawLots_24 : decode cX4_drawLots 24 = .ok (.istore_n 3, 1) := by decide +kernel
theorem dX4_drawLots_25 : decode cX4_drawLots 25 = .ok (.aload_n 0, 1) := by decide +kernel
theorem dX4_drawLots_26 : decode cX4_drawLots 26 = .ok (.iload_n 3, 1) := by decide +kernel
theorem dX4_drawLots_27 : decode cX4_drawLots 27 = .ok (.bipush 16, 2) := by decide +kernel
theorem dX4_drawLots_29 : decode cX4_drawLots 29 = .ok (.iushr, 1) := by decide +kernel
theorem dX4_drawLots_30 : decode cX4_drawLots 30 = .ok (.iconst 5, 1) := by decide +kernel
theorem dX4_drawLots_31 : decode cX4_drawLots 31 = .ok (.irem, 1) := by decide +kernel
theorem dX4_drawLots_32 : decode cX4_drawLots 32 = .ok (.invokevirtual 31, 3) := by decide +kernel
theorem dX4_drawLots_35 : decode cX4_drawLots 35 = .ok (.iinc 4 1, 3) := by decide +kernel
theorem dX4_drawLots_38 : decode cX4_drawLots 38 = .ok (.goto (-28), 3) := by decide +kernel
theorem dX4_drawLots_41 : decode cX4_drawLots 41 = .ok (.return_, 1) := by decide +kernel
theorem dX5_init_0 : decode cX5_init 0 = .ok (.aload_n 0, 1) := by decide +kernel
theorem dX5_init_1 : decode cX5_init 1 = .ok (.invokespecial 3, 3) := by decide +kernel
theorem dX5_init_4 : decode cX5_init 4 = .ok (.aload_n 0, 1) := by decide +kernel
theorem dX5_init_5 : decode cX5_init 5 = .ok (.bipush 60, 2) := by decide +kernel
theorem dX5_init_7 : decode cX5_init 7 = .ok (.newarray .int, 2) := by decide +kernel
theorem dX5_init_9 : decode cX5_init 9 = .ok (.putfield 9, 3) := by decide +kernel
theorem dX5_init_12 : decode cX5_init 12 = .ok (.aload_n 0, 1) := by decide +kernel
theorem dX5_init_13 : decode cX5_init 13 = .ok (.iconst 1, 1) := by decide +kernel
theorem dX5_init_14 : decode cX5_init 14 = .ok (.putfield 15, 3) := by decide +kernel
theorem dX5_init_17 : decode cX5_init 17 = .ok (.aload_n 0, 1) := by decide +kernel
theorem dX5_init_18 : decode cX5_init 18 = .ok (.iconst 0, 1) := by decide +kernel
theorem dX5_init_19 : decode cX5_init 19 = .ok (.putfield 19, 3) := by decide +kernel
theorem dX5_init_22 : decode cX5_init 22 = .ok (.aload_n 0, 1) := by decide +kernel
theorem dX5_init_23 : decode cX5_init 23 = .ok (.iconst 0, 1) := by decide +kernel
theorem dX5_init_24 : decode cX5_init 24 = .ok (.putfield 23, 3) := by decide +kernel
theorem dX5_init_27 : decode cX5_init 27 = .ok (.return_, 1) := by decide +kernel
theorem dX5_isForm_0 : decode cX5_isForm 0 = .ok (.iload_n 0, 1) := by decide +kernel
theorem dX5_isForm_1 : decode cX5_isForm 1 = .ok (.ifCond .lt 12, 3) := by decide +kernel
theorem dX5_isForm_4 : decode cX5_isForm 4 = .ok (.iload_n 0, 1) := by decide +kernel
theorem dX5_isForm_5 : decode cX5_isForm 5 = .ok (.iconst 2, 1) := by decide +kernel
theorem dX5_isForm_6 : decode cX5_isForm 6 = .ok (.if_icmp .gt 7, 3) := by decide +kernel
theorem dX5_isForm_9 : decode cX5_isForm 9 = .ok (.iconst 1, 1) := by decide +kernel
theorem dX5_isForm_10 : decode cX5_isForm 10 = .ok (.goto 4, 3) := by decide +kernel
theorem dX5_isForm_13 : decode cX5_isForm 13 = .ok (.iconst 0, 1) := by decide +kernel
theorem dX5_isForm_14 : decode cX5_isForm 14 = .ok (.ireturn, 1) := by decide +kernel
set_option maxRecDepth 20000 in
theorem ggX5_renew_J7_fill_53178 : GoodIn wsX5_renew wsJ7_fill_53178 := qw_e qk_X5_renew qk_J7_fill_53178 (by decide +kernel)
set_option maxRecDepth 20000 in
theorem gX5_renew_J7_fill_53178 : GoodIn wsX5_renew (va_wsS RX5 32 yJ7_fill_53178 wsJ7_fill_53178) := goodIn_app (qw_e qk_X5_renew (QK_cons qw_137 (QK_cons qw_231 (QK_cons qw_232 QK_nil))) (by decide +kernel)) ggX5_renew_J7_fill_53178
theorem dX5_renew_0 : decode cX5_renew 0 = .ok (.aload_n 0, 1) := by decide +kernel
theorem dX5_renew_1 : decode cX5_renew 1 = .ok (.iconst 0, 1) := by decide +kernel
theorem dX5_renew_2 : decode cX5_renew 2 = .ok (.putfield 15, 3) := by decide +kernel
theorem dX5_renew_5 : decode cX5_renew 5 = .ok (.aload_n 0, 1) := by decide +kernel
theorem dX5_renew_6 : decode cX5_renew 6 = .ok (.iload_n 1, 1) := by decide +kernel
theorem dX5_renew_7 : decode cX5_renew 7 = .ok (.putfield 19, 3) := by decide +kernel
theorem dX5_renew_10 : decode cX5_renew 10 = .ok (.aload_n 0, 1) := by decide +kernel
theorem dX5_renew_11 : decode cX5_renew 11 = .ok (.iload_n 2, 1) := by decide +kernel
theorem dX5_renew_12 : decode cX5_renew 12 = .ok (.aload_n 0, 1) := by decide +kernel
theorem dX5_renew_13 : decode cX5_renew 13 = .ok (.getfield 9, 3) := by decide +kernel
theorem dX5_renew_16 : decode cX5_renew 16 = .ok (.arraylength, 1) := by decide +kernel
theorem dX5_renew_17 : decode cX5_renew 17 = .ok (.invokestatic 26, 3) := by decide +kernel
theorem dX5_renew_20 : decode cX5_renew 20 = .ok (.putfield 23, 3) := by decide +kernel
theorem dX5_renew_23 : decode cX5_renew 23 = .ok (.aload_n 0, 1) := by decide +kernel
theorem dX5_renew_24 : decode cX5_renew 24 = .ok (.getfield 9, 3) := by decide +kernel
theorem dX5_renew_27 : decode cX5_renew 27 = .ok (.iconst 0, 1) := by decide +kernel
theorem dX5_renew_28 : decode cX5_renew 28 = .ok (.invokestatic 32, 3) := by decide +kernel
theorem dX5_renew_31 : decode cX5_renew 31 = .ok (.return_, 1) := by decide +kernel
set_option maxRecDepth 20000 in
theorem ggX5_findingOf_X5_hasItems : GoodIn wsX5_findingOf wsX5_hasItems := qw_e qk_X5_findingOf qk_X5_hasItems (by decide +kernel)
set_option maxRecDepth 20000 in
theorem gX5_findingOf_X5_hasItems : GoodIn wsX5_findingOf (wsV RX5 38 RX5 yX5_hasItems wsX5_hasItems) := goodIn_app (qw_e qk_X5_findingOf (QK_cons qw_111 (QK_cons qw_112 (QK_cons qw_113 (QK_cons qw_953 QK_nil)))) (by decide +kernel)) ggX5_findingOf_X5_hasItems
theorem dX5_findingOf_0 : decode cX5_findingOf 0 = .ok (.aload_n 0, 1) := by decide +kernel
theorem dX5_findingOf_1 : decode cX5_findingOf 1 = .ok (.getfield 15, 3) := by decide +kernel
theorem dX5_findingOf_4 : decode cX5_findingOf 4 = .ok (.ifCond .eq 5, 3) := by decide +kernel
theorem dX5_findingOf_7 : decode cX5_findingOf 7 = .ok (.iconst 1, 1) := by decide +kernel
theorem dX5_findingOf_8 : decode cX5_findingOf 8 = .ok (.ireturn, 1) := by decide +kernel
theorem dX5_findingOf_9 : decode cX5_findingOf 9 = .ok (.iload_n 1, 1) := by decide +kernel
theorem dX5_findingOf_10 : decode cX5_findingOf 10 = .ok (.aload_n 0, 1) := by decide +kernel
theorem dX5_findingOf_11 : decode cX5_findingOf 11 = .ok (.getfield 19, 3) := by decide +kernel
theorem dX5_findingOf_14 : decode cX5_findingOf 14 = .ok (.if_icmp .eq 5, 3) := by decide +kernel
theorem dX5_findingOf_17 : decode cX5_findingOf 17 = .ok (.iconst 3, 1) := by decide +kernel
theorem dX5_findingOf_18 : decode cX5_findingOf 18 = .ok (.ireturn, 1) := by decide +kernel
theorem dX5_findingOf_19 : decode cX5_findingOf 19 = .ok (.aload_n 0, 1) := by decide +kernel
theorem dX5_findingOf_20 : decode cX5_findingOf 20 = .ok (.iload_n 2, 1) := by decide +kernel
theorem dX5_findingOf_21 : decode cX5_findingOf 21 = .ok (.iconst 1, 1) := by decide +kernel
theorem dX5_findingOf_22 : decode cX5_findingOf 22 = .ok (.invokevirtual 38, 3) := by decide +kernel
theorem dX5_findingOf_25 : decode cX5_findingOf 25 = .ok (.ifCond .eq 7, 3) := by decide +kernel
theorem dX5_findingOf_28 : decode cX5_findingOf 28 = .ok (.iconst 0, 1) := by decide +kernel
theorem dX5_findingOf_29 : decode cX5_findingOf 29 = .ok (.goto 4, 3) := by decide +kernel
theorem dX5_findingOf_32 : decode cX5_findingOf 32 = .ok (.iconst 2, 1) := by decide +kernel
theorem dX5_findingOf_33 : decode cX5_findingOf 33 = .ok (.ireturn, 1) := by decide +kernel
theorem dX5_hasItems_0 : decode cX5_hasItems 0 = .ok (.iload_n 1, 1) := by decide +kernel
theorem dX5_hasItems_1 : decode cX5_hasItems 1 = .ok (.ifCond .lt 29, 3) := by decide +kernel
theorem dX5_hasItems_4 : decode cX5_hasItems 4 = .ok (.iload_n 2, 1) := by decide +kernel
theorem dX5_hasItems_5 : decode cX5_hasItems 5 = .ok (.ifCond .lt 25, 3) := by decide +kernel
theorem dX5_hasItems_8 : decode cX5_hasItems 8 = .ok (.iload_n 1, 1) := by decide +kernel
theorem dX5_hasItems_9 : decode cX5_hasItems 9 = .ok (.aload_n 0, 1) := by decide +kernel
theorem dX5_hasItems_10 : decode cX5_hasItems 10 = .ok (.getfield 23, 3) := by decide +kernel
theorem dX5_hasItems_13 : decode cX5_hasItems 13 = .ok (.if_icmp .gt 17, 3) := by decide +kernel
theorem dX5_hasItems_16 : decode cX5_hasItems 16 = .ok (.iload_n 2, 1) := by decide +kernel
theorem dX5_hasItems_17 : decode cX5_hasItems 17 = .ok (.aload_n 0, 1) := by decide +kernel
theorem dX5_hasItems_18 : decode cX5_hasItems 18 = .ok (.getfield 23, 3) := by decide +kernel
theorem dX5_hasItems_21 : decode cX5_hasItems 21 = .ok (.iload_n 1, 1) := by decide +kernel
theorem dX5_hasItems_22 : decode cX5_hasItems 22 = .ok (.isub, 1) := by decide +kernel
theorem dX5_hasItems_23 : decode cX5_hasItems 23 = .ok (.if_icmp .gt 7, 3) := by decide +kernel
theorem dX5_hasItems_26 : decode cX5_hasItems 26 = .ok (.iconst 1, 1) := by decide +kernel
theorem dX5_hasItems_27 : decode cX5_hasItems 27 = .ok (.goto 4, 3) := by decide +kernel
theorem dX5_hasItems_30 : decode cX5_hasItems 30 = .ok (.iconst 0, 1) := by decide +kernel
theorem dX5_hasItems_31 : decode cX5_hasItems 31 = .ok (.ireturn, 1) := by decide +kernel
set_option maxRecDepth 20000 in
theorem ggX5_store_X5_hasItems : GoodIn wsX5_store wsX5_hasItems := qw_e qk_X5_store qk_X5_hasItems (by decide +kernel)
set_option maxRecDepth 20000 in
theorem gX5_store_X5_hasItems : GoodIn wsX5_store (wsV RX5 38 RX5 yX5_hasItems wsX5_hasItems) := goodIn_app (qw_e qk_X5_store (QK_cons qw_111 (QK_cons qw_112 (QK_cons qw_113 (QK_cons qw_953 QK_nil)))) (by decide +kernel)) ggX5_store_X5_hasItems
theorem dX5_store_0 : decode cX5_store 0 = .ok (.aload_n 0, 1) := by decide +kernel
theorem dX5_store_1 : decode cX5_store 1 = .ok (.iload_n 1, 1) := by decide +kernel
theorem dX5_store_2 : decode cX5_store 2 = .ok (.iconst 1, 1) := by decide +kernel
theorem dX5_store_3 : decode cX5_store 3 = .ok (.invokevirtual 38, 3) := by decide +kernel
theorem dX5_store_6 : decode cX5_store 6 = .ok (.ifCond .eq 35, 3) := by decide +kernel
theorem dX5_store_9 : decode cX5_store 9 = .ok (.aload_n 0, 1) := by decide +kernel
theorem dX5_store_10 : decode cX5_store 10 = .ok (.getfield 9, 3) := by decide +kernel
theorem dX5_store_13 : decode cX5_store 13 = .ok (.iload_n 1, 1) := by decide +kernel
theorem dX5_store_14 : decode cX5_store 14 = .ok (.aload_n 0, 1) := by decide +kernel
theorem dX5_store_15 : decode cX5_store 15 = .ok (.getfield 19, 3) := by decide +kernel
theorem dX5_store_18 : decode cX5_store 18 = .ok (.ifCond .ne 8, 3) := by decide +kernel
theorem dX5_store_21 : decode cX5_store 21 = .ok (.iload_n 2, 1) := by decide +kernel
theorem dX5_store_22 : decode cX5_store 22 = .ok (.i2b, 1) := by decide +kernel
theorem dX5_store_23 : decode cX5_store 23 = .ok (.goto 17, 3) := by decide +kernel
theorem dX5_store_26 : decode cX5_store 26 = .ok (.aload_n 0, 1) := by decide +kernel
theorem dX5_store_27 : decode cX5_store 27 = .ok (.getfield 19, 3) := by decide +kernel
theorem dX5_store_30 : decode cX5_store 30 = .ok (.iconst 1, 1) := by decide +kernel
theorem dX5_store_31 : decode cX5_store 31 = .ok (.if_icmp .ne 8, 3) := by decide +kernel
theorem dX5_store_34 : decode cX5_store 34 = .ok (.iload_n 2, 1) := by decide +kernel
theorem dX5_store_35 : decode cX5_store 35 = .ok (.i2s, 1) := by decide +kernel
theorem dX5_store_36 : decode cX5_store 36 = .ok (.goto 4, 3) := by decide +kernel
theorem dX5_store_39 : decode cX5_store 39 = .ok (.iload_n 2, 1) := by decide +kernel
theorem dX5_store_40 : decode cX5_store 40 = .ok (.iastore, 1) := by decide +kernel
theorem dX5_store_41 : decode cX5_store 41 = .ok (.return_, 1) := by decide +kernel
theorem dX6_init_0 : decode cX6_init 0 = .ok (.aload_n 0, 1) := by decide +kernel
theorem dX6_init_1 : decode cX6_init 1 = .ok (.invokespecial 1, 3) := by decide +kernel
theorem dX6_init_4 : decode cX6_init 4 = .ok (.aload_n 0, 1) := by decide +kernel
theorem dX6_init_5 : decode cX6_init 5 = .ok (.iconst 0, 1) := by decide +kernel
theorem dX6_init_6 : decode cX6_init 6 = .ok (.putfield 7, 3) := by decide +kernel
theorem dX6_init_9 : decode cX6_init 9 = .ok (.aload_n 0, 1) := by decide +kernel
theorem dX6_init_10 : decode cX6_init 10 = .ok (.iload_n 1, 1) := by decide +kernel
theorem dX6_init_11 : decode cX6_init 11 = .ok (.iconst 0, 1) := by decide +kernel
theorem dX6_init_12 : decode cX6_init 12 = .ok (.invokestatic 13, 3) := by decide +kernel
theorem dX6_init_15 : decode cX6_init 15 = .ok (.newarray .int, 2) := by decide +kernel
theorem dX6_init_17 : decode cX6_init 17 = .ok (.putfield 19, 3) := by decide +kernel
theorem dX6_init_20 : decode cX6_init 20 = .ok (.return_, 1) := by decide +kernel
theorem dX6_append_0 : decode cX6_append 0 = .ok (.aload_n 0, 1) := by decide +kernel
theorem dX6_append_1 : decode cX6_append 1 = .ok (.getfield 7, 3) := by decide +kernel
theorem dX6_append_4 : decode cX6_append 4 = .ok (.aload_n 0, 1) := by decide +kernel
theorem dX6_append_5 : decode cX6_append 5 = .ok (.getfield 19, 3) := by decide +kernel
theorem dX6_append_8 : decode cX6_append 8 = .ok (.arraylength, 1) := by decide +kernel
theorem dX6_append_9 : decode cX6_append 9 = .ok (.if_icmp .lt 5, 3) := by decide +kernel
theorem dX6_append_12 : decode cX6_append 12 = .ok (.iconst 0, 1) := by decide +kernel
theorem dX6_append_13 : decode cX6_append 13 = .ok (.ireturn, 1) := by decide +kernel
theorem dX6_append_14 : decode cX6_append 14 = .ok (.aload_n 0, 1) := by decide +kernel
theorem dX6_append_15 : decode cX6_append 15 = .ok (.getfield 19, 3) := by decide +kernel
theorem dX6_append_18 : decode cX6_append 18 = .ok (.aload_n 0, 1) := by decide +kernel
theorem dX6_append_19 : decode cX6_append 19 = .ok (.getfield 7, 3) := by decide +kernel
theorem dX6_append_22 : decode cX6_append 22 = .ok (.iload_n 1, 1) := by decide +kernel
theorem dX6_append_23 : decode cX6_append 23 = .ok (.iastore, 1) := by decide +kernel
theorem dX6_append_24 : decode cX6_append 24 = .ok (.aload_n 0, 1) := by decide +kernel
theorem dX6_append_25 : decode cX6_append 25 = .ok (.dup, 1) := by decide +kernel
theorem dX6_append_26 : decode cX6_append 26 = .ok (.getfield 7, 3) := by decide +kernel
theorem dX6_append_29 : decode cX6_append 29 = .ok (.iconst 1, 1) := by decide +kernel
theorem dX6_append_30 : decode cX6_append 30 = .ok (.iadd, 1) := by decide +kernel
theorem dX6_append_31 : decode cX6_append 31 = .ok (.putfield 7, 3) := by decide +kernel
theorem dX6_append_34 : decode cX6_append 34 = .ok (.iconst 1, 1) := by decide +kernel
theorem dX6_append_35 : decode cX6_append 35 = .ok (.ireturn, 1) := by decide +kernel
theorem dX7_init_0 : decode cX7_init 0 = .ok (.aload_n 0, 1) := by decide +kernel
theorem dX7_init_1 : decode cX7_init 1 = .ok (.invokespecial 3, 3) := by decide +kernel
theorem dX7_init_4 : decode cX7_init 4 = .ok (.aload_n 0, 1) := by decide +kernel
theorem dX7_init_5 : decode cX7_init 5 = .ok (.bipush 8, 2) := by decide +kernel
theorem dX7_init_7 : decode cX7_init 7 = .ok (.newarray .int, 2) := by decide +kernel
theorem dX7_init_9 : decode cX7_init 9 = .ok (.putfield 9, 3) := by decide +kernel
theorem dX7_init_12 : decode cX7_init 12 = .ok (.aload_n 0, 1) := by decide +kernel
theorem dX7_init_13 : decode cX7_init 13 = .ok (.bipush 8, 2) := by decide +kernel
theorem dX7_init_15 : decode cX7_init 15 = .ok (.newarray .int, 2) := by decide +kernel
theorem dX7_init_17 : decode cX7_init 17 = .ok (.putfield 15, 3) := by decide +kernel
theorem dX7_init_20 : decode cX7_init 20 = .ok (.aload_n 0, 1) := by decide +kernel
theorem dX7_init_21 : decode cX7_init 21 = .ok (.iconst 0, 1) := by decide +kernel
theorem dX7_init_22 : decode cX7_init 22 = .ok (.putfield 18, 3) := by decide +kernel
theorem dX7_init_25 : decode cX7_init 25 = .ok (.return_, 1) := by decide +kernel
set_option maxRecDepth 20000 in
theorem ggX7_parse_X7_mayStandAt : GoodIn wsX7_parse wsX7_mayStandAt := qw_e qk_X7_parse qk_X7_mayStandAt (by decide +kernel)
set_option maxRecDepth 20000 in
theorem gX7_parse_X7_mayStandAt : GoodIn wsX7_parse (va_wsS RX7 30 yX7_mayStandAt wsX7_mayStandAt) := goodIn_app (qw_e qk_X7_parse (QK_cons qw_809 (QK_cons qw_810 (QK_cons qw_970 QK_nil))) (by decide +kernel)) ggX7_parse_X7_mayStandAt
set_option maxRecDepth 20000 in
theorem ggX7_parse_X7_fail : GoodIn wsX7_parse wsX7_fail := qw_e qk_X7_parse qk_X7_fail (by decide +kernel)
set_option maxRecDepth 20000 in
theorem gX7_parse_X7_fail : GoodIn wsX7_parse (wsV RX7 34 RX7 yX7_fail wsX7_fail) := goodIn_app (qw_e qk_X7_parse (QK_cons qw_812 (QK_cons qw_813 (QK_cons qw_814 (QK_cons qw_970 QK_nil)))) (by decide +kernel)) ggX7_parse_X7_fail
set_option maxRecDepth 20000 in
theorem ggX7_parse_X7_add : GoodIn wsX7_parse wsX7_add := qw_e qk_X7_parse qk_X7_add (by decide +kernel)
set_option maxRecDepth 20000 in
theorem gX7_parse_X7_add : GoodIn wsX7_parse (wsV RX7 38 RX7 yX7_add wsX7_add) := goodIn_app (qw_e qk_X7_parse (QK_cons qw_816 (QK_cons qw_817 (QK_cons qw_818 (QK_cons qw_970 QK_nil)))) (by decide +kernel)) ggX7_parse_X7_add
theorem dX7_parse_0 : decode cX7_parse 0 = .ok (.aload_n 0, 1) := by decide +kernel
theorem dX7_parse_1 : decode cX7_parse 1 = .ok (.iconst 0, 1) := by decide +kernel
theorem dX7_parse_2 : decode cX7_parse 2 = .ok (.putfield 18, 3) := by decide +kernel
theorem dX7_parse_5 : decode cX7_parse 5 = .ok (.iconst 0, 1) := by decide +kernel
theorem dX7_parse_6 : decode cX7_parse 6 = .ok (.istore_n 2, 1) := by decide +kernel
theorem dX7_parse_7 : decode cX7_parse 7 = .ok (.iload_n 2, 1) := by decide +kernel
theorem dX7_parse_8 : decode cX7_parse 8 = .ok (.aload_n 1, 1) := by decide +kernel
theorem dX7_parse_9 : decode cX7_parse 9 = .ok (.getfield 22, 3) := by decide +kernel
theorem dX7_parse_12 : decode cX7_parse 12 = .ok (.if_icmp .ge 56, 3) := by decide +kernel
theorem dX7_parse_15 : decode cX7_parse 15 = .ok (.iload_n 2, 1) := by decide +kernel
theorem dX7_parse_16 : decode cX7_parse 16 = .ok (.iconst 4, 1) := by decide +kernel
theorem dX7_parse_17 : decode cX7_parse 17 = .ok (.irem, 1) := by decide +kernel
theorem dX7_parse_18 : decode cX7_parse 18 = .ok (.aload_n 1, 1) := by decide +kernel
theorem dX7_parse_19 : decode cX7_parse 19 = .ok (.getfield 27, 3) := by decide +kernel
theorem dX7_parse_22 : decode cX7_parse 22 = .ok (.iload_n 2, 1) := by decide +kernel
theorem dX7_parse_23 : decode cX7_parse 23 = .ok (.iaload, 1) := by decide +kernel
theorem dX7_parse_24 : decode cX7_parse 24 = .ok (.invokestatic 30, 3) := by decide +kernel
theorem dX7_parse_27 : decode cX7_parse 27 = .ok (.ifCond .ne 9, 3) := by decide +kernel
theorem dX7_parse_30 : decode cX7_parse 30 = .ok (.aload_n 0, 1) := by decide +kernel
theorem dX7_parse_31 : decode cX7_parse 31 = .ok (.iload_n 2, 1) := by decide +kernel
theorem dX7_parse_32 : decode cX7_parse 32 = .ok (.invokevirtual 34, 3) := by decide +kernel
theorem dX7_parse_35 : decode cX7_parse 35 = .ok (.ireturn, 1) := by decide +kernel
theorem dX7_parse_36 : decode cX7_parse 36 = .ok (.iload_n 2, 1) := by decide +kernel
theorem dX7_parse_37 : decode cX7_parse 37 = .ok (.iconst 4, 1) := by decide +kernel
theorem dX7_parse_38 : decode cX7_parse 38 = .ok (.irem, 1) := by decide +kernel
theorem dX7_parse_39 : decode cX7_parse 39 = .ok (.iconst 2, 1) := by decide +kernel
theorem dX7_parse_40 : decode cX7_parse 40 = .ok (.if_icmp .ne 22, 3) := by decide +kernel
theorem dX7_parse_43 : decode cX7_parse 43 = .ok (.aload_n 0, 1) := by decide +kernel
theorem dX7_parse_44 : decode cX7_parse 44 = .ok (.aload_n 1, 1) := by decide +kernel
theorem dX7_parse_45 : decode cX7_parse 45 = .ok (.iload_n 2, 1) := by decide +kernel
theorem dX7_parse_46 : decode cX7_parse 46 = .ok (.iconst 2, 1) := by decide +kernel
theorem dX7_parse_47 : decode cX7_parse 47 = .ok (.isub, 1) := by decide +kernel
theorem dX7_parse_48 : decode cX7_parse 48 = .ok (.invokevirtual 38, 3) := by decide +kernel
theorem dX7_parse_51 : decode cX7_parse 51 = .ok (.ifCond .ne 11, 3) := by decide +kernel
theorem dX7_parse_54 : decode cX7_parse 54 = .ok (.aload_n 0, 1) := by decide +kernel
theorem dX7_parse_55 : decode cX7_parse 55 = .ok (.iload_n 2, 1) := by decide +kernel
theorem dX7_parse_56 : decode cX7_parse 56 = .ok (.iconst 2, 1) := by decide +kernel
theorem dX7_parse_57 : decode cX7_parse 57 = .ok (.isub, 1) := by decide +kernel
theorem dX7_parse_58 : decode cX7_parse 58 = .ok (.invokevirtual 34, 3) := by decide +kernel
theorem dX7_parse_61 : decode cX7_parse 61 = .ok (.ireturn, 1) := by decide +kernel
theorem dX7_parse_62 : decode cX7_parse 62 = .ok (.iinc 2 1, 3) := by decide +kernel
theorem dX7_parse_65 : decode cX7_parse 65 = .ok (.goto (-58), 3) := by decide +kernel
theorem dX7_parse_68 : decode cX7_parse 68 = .ok (.aload_n 1, 1) := by decide +kernel
theorem dX7_parse_69 : decode cX7_parse 69 = .ok (.getfield 22, 3) := by decide +kernel
theorem dX7_parse_72 : decode cX7_parse 72 = .ok (.ifCond .eq 13, 3) := by decide +kernel
theorem dX7_parse_75 : decode cX7_parse 75 = .ok (.aload_n 1, 1) := by decide +kernel
theorem dX7_parse_76 : decode cX7_parse 76 = .ok (.getfield 22, 3) := by decide +kernel
theorem dX7_parse_79 : decode cX7_parse 79 = .ok (.iconst 4, 1) := by decide +kernel
theorem dX7_parse_80 : decode cX7_parse 80 = .ok (.irem, 1) := by decide +kernel
theorem dX7_parse_81 : decode cX7_parse 81 = .ok (.iconst 3, 1) := by decide +kernel
theorem dX7_parse_82 : decode cX7_parse 82 = .ok (.if_icmp .ne 7, 3) := by decide +kernel
theorem dX7_parse_85 : decode cX7_parse 85 = .ok (.iconst (-1), 1) := by decide +kernel
theorem dX7_parse_86 : decode cX7_parse 86 = .ok (.goto 11, 3) := by decide +kernel
theorem dX7_parse_89 : decode cX7_parse 89 = .ok (.aload_n 0, 1) := by decide +kernel
theorem dX7_parse_90 : decode cX7_parse 90 = .ok (.aload_n 1, 1) := by decide +kernel
theorem dX7_parse_91 : decode cX7_parse 91 = .ok (.getfield 22, 3) := by decide +kernel
theorem dX7_parse_94 : decode cX7_parse 94 = .ok (.invokevirtual 34, 3) := by decide +kernel
theorem dX7_parse_97 : decode cX7_parse 97 = .ok (.ireturn, 1) := by decide +kernel
theorem dX7_mayStandAt_0 : decode cX7_mayStandAt 0 = .ok (.iload_n 0, 1) := by decide +kernel
theorem dX7_mayStandAt_1 : decode cX7_mayStandAt 1 = .ok (.tableswitch 81 0 2 #[27, 45, 63], 27) := by decide +kernel
theorem dX7_mayStandAt_28 : decode cX7_mayStandAt 28 = .ok (.iload_n 1, 1) := by decide +kernel
theorem dX7_mayStandAt_29 : decode cX7_mayStandAt 29 = .ok (.bipush 48, 2) := by decide +kernel
theorem dX7_mayStandAt_31 : decode cX7_mayStandAt 31 = .ok (.if_icmp .lt 13, 3) := by decide +kernel
theorem dX7_mayStandAt_34 : decode cX7_mayStandAt 34 = .ok (.iload_n 1, 1) := by decide +kernel
theorem dX7_mayStandAt_35 : decode cX7_mayStandAt 35 = .ok (.bipush 51, 2) := by decide +kernel
theorem dX7_mayStandAt_37 : decode cX7_mayStandAt 37 = .ok (.if_icmp .gt 7, 3) := by decide +kernel
theorem dX7_mayStandAt_40 : decode cX7_mayStandAt 40 = .ok (.iconst 1, 1) := by decide +kernel
theorem dX7_mayStandAt_41 : decode cX7_mayStandAt 41 = .ok (.goto 4, 3) := by decide +kernel
theorem dX7_mayStandAt_44 : decode cX7_mayStandAt 44 = .ok (.iconst 0, 1) := by decide +kernel
theorem dX7_mayStandAt_45 : decode cX7_mayStandAt 45 = .ok (.ireturn, 1) := by decide +kernel
theorem dX7_mayStandAt_46 : decode cX7_mayStandAt 46 = .ok (.iload_n 1, 1) := by decide +kernel
theorem dX7_mayStandAt_47 : decode cX7_mayStandAt 47 = .ok (.bipush 48, 2) := by decide +kernel
theorem dX7_mayStandAt_49 : decode cX7_mayStandAt 49 = .ok (.if_icmp .lt 13, 3) := by decide +kernel
theorem dX7_mayStandAt_52 : decode cX7_mayStandAt 52 = .ok (.iload_n 1, 1) := by decide +kernel
theorem dX7_mayStandAt_53 : decode cX7_mayStandAt 53 = .ok (.bipush 57, 2) := by decide +kernel
theorem dX7_mayStandAt_55 : decode cX7_mayStandAt 55 = .ok (.if_icmp .gt 7, 3) := by decide +kernel
theorem dX7_mayStandAt_58 : decode cX7_mayStandAt 58 = .ok (.iconst 1, 1) := by decide +kernel
theorem dX7_mayStandAt_59 : decode cX7_mayStandAt 59 = .ok (.goto 4, 3) := by decide +kernel
theorem dX7_mayStandAt_62 : decode cX7_mayStandAt 62 = .ok (.iconst 0, 1) := by decide +kernel
theorem dX7_mayStandAt_63 : decode cX7_mayStandAt 63 = .ok (.ireturn, 1) := by decide +kernel
theorem dX7_mayStandAt_64 : decode cX7_mayStandAt 64 = .ok (.iload_n 1, 1) := by decide +kernel
theorem dX7_mayStandAt_65 : decode cX7_mayStandAt 65 = .ok (.bipush 49, 2) := by decide +kernel
theorem dX7_mayStandAt_67 : decode cX7_mayStandAt 67 = .ok (.if_icmp .lt 13, 3) := by decide +kernel
theorem dX7_mayStandAt_70 : decode cX7_mayStandAt 70 = .ok (.iload_n 1, 1) := by decide +kernel
theorem dX7_mayStandAt_71 : decode cX7_mayStandAt 71 = .ok (.bipush 57, 2) := by decide +kernel
theorem dX7_mayStandAt_73 : decode cX7_mayStandAt 73 = .ok (.if_icmp .gt 7, 3) := by decide +kernel
theorem dX7_mayStandAt_76 : decode cX7_mayStandAt 76 = .ok (.iconst 1, 1) := by decide +kernel
theorem dX7_mayStandAt_77 : decode cX7_mayStandAt 77 = .ok (.goto 4, 3) := by decide +kernel
theorem dX7_mayStandAt_80 : decode cX7_mayStandAt 80 = .ok (.iconst 0, 1) := by decide +kernel
theorem dX7_mayStandAt_81 : decode cX7_mayStandAt 81 = .ok (.ireturn, 1) := by decide +kernel
theorem dX7_mayStandAt_82 : decode cX7_mayStandAt 82 = .ok (.iload_n 1, 1) := by decide +kernel
theorem dX7_mayStandAt_83 : decode cX7_mayStandAt 83 = .ok (.bipush 59, 2) := by decide +kernel
theorem dX7_mayStandAt_85 : decode cX7_mayStandAt 85 = .ok (.if_icmp .ne 7, 3) := by decide +kernel
theorem dX7_mayStandAt_88 : decode cX7_mayStandAt 88 = .ok (.iconst 1, 1) := by decide +kernel
theorem dX7_mayStandAt_89 : decode cX7_mayStandAt 89 = .ok (.goto 4, 3) := by decide +kernel
theorem dX7_mayStandAt_92 : decode cX7_mayStandAt 92 = .ok (.iconst 0, 1) := by decide +kernel
theorem dX7_mayStandAt_93 : decode cX7_mayStandAt 93 = .ok (.ireturn, 1) := by decide +kernel
theorem dX7_add_0 : decode cX7_add 0 = .ok (.aload_n 0, 1) := by decide +kernel
theorem dX7_add_1 : decode cX7_add 1 = .ok (.getfield 18, 3) := by decide +kernel
theorem dX7_add_4 : decode cX7_add 4 = .ok (.aload_n 0, 1) := by decide +kernel
theorem dX7_add_5 : decode cX7_add 5 = .ok (.getfield 9, 3) := by decide +kernel
theorem dX7_add_8 : decode cX7_add 8 = .ok (.arraylength, 1) := by decide +kernel
theorem dX7_add_9 : decode cX7_add 9 = .ok (.if_icmp .ge 17, 3) := by decide +kernel
theorem dX7_add_12 : decode cX7_add 12 = .ok (.iload_n 2, 1) := by decide +kernel
theorem dX7_add_13 : decode cX7_add 13 = .ok (.ifCond .lt 13, 3) := by decide +kernel
theorem dX7_add_16 : decode cX7_add 16 = .ok (.iload_n 2, 1) := by decide +kernel
theorem dX7_add_17 : decode cX7_add 17 = .ok (.iconst 2, 1) := by decide +kernel
theorem dX7_add_18 : decode cX7_add 18 = .ok (.iadd, 1) := by decide +kernel
theorem dX7_add_19 : decode cX7_add 19 = .ok (.aload_n 1, 1) := by decide +kernel
theorem dX7_add_20 : decode cX7_add 20 = .ok (.getfield 22, 3) := by decide +kernel
theorem dX7_add_23 : decode cX7_add 23 = .ok (.if_icmp .lt 5, 3) := by decide +kernel
theorem dX7_add_26 : decode cX7_add 26 = .ok (.iconst 0, 1) := by decide +kernel
theorem dX7_add_27 : decode cX7_add 27 = .ok (.ireturn, 1) := by decide +kernel
theorem dX7_add_28 : decode cX7_add 28 = .ok (.aload_n 0, 1) := by decide +kernel
theorem dX7_add_29 : decode cX7_add 29 = .ok (.getfield 9, 3) := by decide +kernel
theorem dX7_add_32 : decode cX7_add 32 = .ok (.aload_n 0, 1) := by decide +kernel
theorem dX7_add_33 : decode cX7_add 33 = .ok (.getfield 18, 3) := by decide +kernel
theorem dX7_add_36 : decode cX7_add 36 = .ok (.bipush 10, 2) := by decide +kernel
theorem dX7_add_38 : decode cX7_add 38 = .ok (.aload_n 1, 1) := by decide +kernel
theorem dX7_add_39 : decode cX7_add 39 = .ok (.getfield 27, 3) := by decide +kernel
theorem dX7_add_42 : decode cX7_add 42 = .ok (.iload_n 2, 1) := by decide +kernel
theorem dX7_add_43 : decode cX7_add 43 = .ok (.iaload, 1) := by decide +kernel
theorem dX7_add_44 : decode cX7_add 44 = .ok (.bipush 48, 2) := by decide +kernel
theorem dX7_add_46 : decode cX7_add 46 = .ok (.isub, 1) := by decide +kernel
theorem dX7_add_47 : decode cX7_add 47 = .ok (.imul, 1) := by decide +kernel
theorem dX7_add_48 : decode cX7_add 48 = .ok (.aload_n 1, 1) := by decide +kernel
theorem dX7_add_49 : decode cX7_add 49 = .ok (.getfield 27, 3) := by decide +kernel
theorem dX7_add_52 : decode cX7_add 52 = .ok (.iload_n 2, 1) := by decide +kernel
theorem dX7_add_53 : decode cX7_add 53 = .ok (.iconst 1, 1) := by decide +kernel
theorem dX7_add_54 : decode cX7_add 54 = .ok (.iadd, 1) := by decide +kernel
theorem dX7_add_55 : decode cX7_add 55 = .ok (.iaload, 1) := by decide +kernel
theorem dX7_add_56 : decode cX7_add 56 = .ok (.iadd, 1) := by decide +kernel
theorem dX7_add_57 : decode cX7_add 57 = .ok (.bipush 48, 2) := by decide +kernel
theorem dX7_add_59 : decode cX7_add 59 = .ok (.isub, 1) := by decide +kernel
theorem dX7_add_60 : decode cX7_add 60 = .ok (.iastore, 1) := by decide +kernel
theorem dX7_add_61 : decode cX7_add 61 = .ok (.aload_n 0, 1) := by decide +kernel
theorem dX7_add_62 : decode cX7_add 62 = .ok (.getfield 15, 3) := by decide +kernel
theorem dX7_add_65 : decode cX7_add 65 = .ok (.aload_n 0, 1) := by decide +kernel
theorem dX7_add_66 : decode cX7_add 66 = .ok (.getfield 18, 3) := by decide +kernel
theorem dX7_add_69 : decode cX7_add 69 = .ok (.aload_n 1, 1) := by decide +kernel
theorem dX7_add_70 : decode cX7_add 70 = .ok (.getfield 27, 3) := by decide +kernel
theorem dX7_add_73 : decode cX7_add 73 = .ok (.iload_n 2, 1) := by decide +kernel
theorem dX7_add_74 : decode cX7_add 74 = .ok (.iconst 2, 1) := by decide +kernel
theorem dX7_add_75 : decode cX7_add 75 = .ok (.iadd, 1) := by decide +kernel
theorem dX7_add_76 : decode cX7_add 76 = .ok (.iaload, 1) := by decide +kernel
theorem dX7_add_77 : decode cX7_add 77 = .ok (.bipush 48, 2) := by decide +kernel
theorem dX7_add_79 : decode cX7_add 79 = .ok (.isub, 1) := by decide +kernel
theorem dX7_add_80 : decode cX7_add 80 = .ok (.iastore, 1) := by decide +kernel
theorem dX7_add_81 : decode cX7_add 81 = .ok (.aload_n 0, 1) := by decide +kernel
theorem dX7_add_82 : decode cX7_add 82 = .ok (.dup, 1) := by decide +kernel
theorem dX7_add_83 : decode cX7_add 83 = .ok (.getfield 18, 3) := by decide +kernel
theorem dX7_add_86 : decode cX7_add 86 = .ok (.iconst 1, 1) := by decide +kernel
theorem dX7_add_87 : decode cX7_add 87 = .ok (.iadd, 1) := by decide +kernel
theorem dX7_add_88 : decode cX7_add 88 = .ok (.putfield 18, 3) := by decide +kernel
theorem dX7_add_91 : decode cX7_add 91 = .ok (.iconst 1, 1) := by decide +kernel
theorem dX7_add_92 : decode cX7_add 92 = .ok (.ireturn, 1) := by decide +kernel
theorem dX7_fail_0 : decode cX7_fail 0 = .ok (.aload_n 0, 1) := by decide +kernel
theorem dX7_fail_1 : decode cX7_fail 1 = .ok (.iconst 0, 1) := by decide +kernel
theorem dX7_fail_2 : decode cX7_fail 2 = .ok (.putfield 18, 3) := by decide +kernel
theorem dX7_fail_5 : decode cX7_fail 5 = .ok (.iload_n 1, 1) := by decide +kernel
theorem dX7_fail_6 : decode cX7_fail 6 = .ok (.ireturn, 1) := by decide +kernel
set_option maxRecDepth 20000 in
theorem ggX7_takesBehind_X8_isShop : GoodIn wsX7_takesBehind wsX8_isShop := qw_e qk_X7_takesBehind qk_X8_isShop (by decide +kernel)
set_option maxRecDepth 20000 in
theorem gX7_takesBehind_X8_isShop : GoodIn wsX7_takesBehind (wsV RX7 42 RX8 yX8_isShop wsX8_isShop) := goodIn_app (qw_e qk_X7_takesBehind (QK_cons qw_487 (QK_cons qw_488 (QK_cons qw_489 (QK_cons qw_1010 QK_nil)))) (by decide +kernel)) ggX7_takesBehind_X8_isShop
set_option maxRecDepth 20000 in
theorem ggX7_takesBehind_X2_endOfUnseen : GoodIn wsX7_takesBehind wsX2_endOfUnseen := qw_e qk_X7_takesBehind qk_X2_endOfUnseen (by decide +kernel)
set_option maxRecDepth 20000 in
theorem gX7_takesBehind_X2_endOfUnseen : GoodIn wsX7_takesBehind (wsV RX7 48 RX2 yX2_endOfUnseen wsX2_endOfUnseen) := goodIn_app (qw_e qk_X7_takesBehind (QK_cons qw_491 (QK_cons qw_492 (QK_cons qw_493 (QK_cons qw_984 QK_nil)))) (by decide +kernel)) ggX7_takesBehind_X2_endOfUnseen
theorem dX7_takesBehind_0 : decode cX7_takesBehind 0 = .ok (.iload_n 1, 1) := by decide +kernel
theorem dX7_takesBehind_1 : decode cX7_takesBehind 1 = .ok (.ifCond .lt 24, 3) := by decide +kernel
theorem dX7_takesBehind_4 : decode cX7_takesBehind 4 = .ok (.iload_n 1, 1) := by decide +kernel
theorem dX7_takesBehind_5 : decode cX7_takesBehind 5 = .ok (.aload_n 0, 1) := by decide +kernel
theorem dX7_takesBehind_6 : decode cX7_takesBehind 6 = .ok (.getfield 18, 3) := by decide +kernel
theorem dX7_takesBehind_9 : decode cX7_takesBehind 9 = .ok (.if_icmp .ge 16, 3) := by decide +kernel
theorem dX7_takesBehind_12 : decode cX7_takesBehind 12 = .ok (.aload_n 2, 1) := by decide +kernel
theorem dX7_takesBehind_13 : decode cX7_takesBehind 13 = .ok (.aload_n 0, 1) := by decide +kernel
theorem dX7_takesBehind_14 : decode cX7_takesBehind 14 = .ok (.getfield 9, 3) := by decide +kernel
theorem dX7_takesBehind_17 : decode cX7_takesBehind 17 = .ok (.iload_n 1, 1) := by decide +kernel
theorem dX7_takesBehind_18 : decode cX7_takesBehind 18 = .ok (.iaload, 1) := by decide +kernel
theorem dX7_takesBehind_19 : decode cX7_takesBehind 19 = .ok (.invokevirtual 42, 3) := by decide +kernel
theorem dX7_takesBehind_22 : decode cX7_takesBehind 22 = .ok (.ifCond .ne 5, 3) := by decide +kernel
theorem dX7_takesBehind_25 : decode cX7_takesBehind 25 = .ok (.iconst (-1), 1) := by decide +kernel
theorem dX7_takesBehind_26 : decode cX7_takesBehind 26 = .ok (.ireturn, 1) := by decide +kernel
theorem dX7_takesBehind_27 : decode cX7_takesBehind 27 = .ok (.aload_n 3, 1) := by decide +kernel
theorem dX7_takesBehind_28 : decode cX7_takesBehind 28 = .ok (.aload_n 0, 1) := by decide +kernel
theorem dX7_takesBehind_29 : decode cX7_takesBehind 29 = .ok (.getfield 9, 3) := by decide +kernel
theorem dX7_takesBehind_32 : decode cX7_takesBehind 32 = .ok (.iload_n 1, 1) := by decide +kernel
theorem dX7_takesBehind_33 : decode cX7_takesBehind 33 = .ok (.iaload, 1) := by decide +kernel
theorem dX7_takesBehind_34 : decode cX7_takesBehind 34 = .ok (.aload_n 0, 1) := by decide +kernel
theorem dX7_takesBehind_35 : decode cX7_takesBehind 35 = .ok (.getfield 15, 3) := by decide +kernel
theorem dX7_takesBehind_38 : decode cX7_takesBehind 38 = .ok (.iload_n 1, 1) := by decide +kernel
theorem dX7_takesBehind_39 : decode cX7_takesBehind 39 = .ok (.iaload, 1) := by decide +kernel
theorem dX7_takesBehind_40 : decode cX7_takesBehind 40 = .ok (.invokevirtual 48, 3) := by decide +kernel
theorem dX7_takesBehind_43 : decode cX7_takesBehind 43 = .ok (.ireturn, 1) := by decide +kernel
set_option maxRecDepth 20000 in
theorem ggX7_howManyTake_X7_takesBehind : GoodIn wsX7_howManyTake wsX7_takesBehind := qw_e qk_X7_howManyTake qk_X7_takesBehind (by decide +kernel)
set_option maxRecDepth 20000 in
theorem gX7_howManyTake_X7_takesBehind : GoodIn wsX7_howManyTake (wsV RX7 54 RX7 yX7_takesBehind wsX7_takesBehind) := goodIn_app (qw_e qk_X7_howManyTake (QK_cons qw_469 (QK_cons qw_532 (QK_cons qw_533 (QK_cons qw_970 QK_nil)))) (by decide +kernel)) ggX7_howManyTake_X7_takesBehind
theorem dX7_howManyTake_0 : decode cX7_howManyTake 0 = .ok (.iconst 0, 1) := by decide +kernel
theorem dX7_howManyTake_1 : decode cX7_howManyTake 1 = .ok (.istore_n 3, 1) := by decide +kernel
theorem dX7_howManyTake_2 : decode cX7_howManyTake 2 = .ok (.iconst 0, 1) := by decide +kernel
theorem dX7_howManyTake_3 : decode cX7_howManyTake 3 = .ok (.istore 4, 2) := by decide +kernel
theorem dX7_howManyTake_5 : decode cX7_howManyTake 5 = .ok (.iload 4, 2) := by decide +kernel
theorem dX7_howManyTake_7 : decode cX7_howManyTake 7 = .ok (.aload_n 0, 1) := by decide +kernel
theorem dX7_howManyTake_8 : decode cX7_howManyTake 8 = .ok (.getfield 18, 3) := by decide +kernel
theorem dX7_howManyTake_11 : decode cX7_howManyTake 11 = .ok (.if_icmp .ge 24, 3) := by decide +kernel
theorem dX7_howManyTake_14 : decode cX7_howManyTake 14 = .ok (.aload_n 0, 1) := by decide +kernel
theorem dX7_howManyTake_15 : decode cX7_howManyTake 15 = .ok (.iload 4, 2) := by decide +kernel
theorem dX7_howManyTake_17 : decode cX7_howManyTake 17 = .ok (.aload_n 1, 1) := by decide +kernel
theorem dX7_howManyTake_18 : decode cX7_howManyTake 18 = .ok (.aload_n 2, 1) := by decide +kernel
theorem dX7_howManyTake_19 : decode cX7_howManyTake 19 = .ok (.invokevirtual 54, 3) := by decide +kernel
theorem dX7_howManyTake_22 : decode cX7_howManyTake 22 = .ok (.iconst (-1), 1) := by decide +kernel
theorem dX7_howManyTake_23 : decode cX7_howManyTake 23 = .ok (.if_icmp .eq 6, 3) := by decide +kernel
theorem dX7_howManyTake_26 : decode cX7_howManyTake 26 = .ok (.iinc 3 1, 3) := by decide +kernel
theorem dX7_howManyTake_29 : decode cX7_howManyTake 29 = .ok (.iinc 4 1, 3) := by decide +kernel
theorem dX7_howManyTake_32 : decode cX7_howManyTake 32 = .ok (.goto (-27), 3) := by decide +kernel
theorem dX7_howManyTake_35 : decode cX7_howManyTake 35 = .ok (.iload_n 3, 1) := by decide +kernel
theorem dX7_howManyTake_36 : decode cX7_howManyTake 36 = .ok (.ireturn, 1) := by decide +kernel
set_option maxRecDepth 20000 in
theorem ggX7_takenFrom_X7_takesBehind : GoodIn wsX7_takenFrom wsX7_takesBehind := qw_e qk_X7_takenFrom qk_X7_takesBehind (by decide +kernel)
set_option maxRecDepth 20000 in
theorem gX7_takenFrom_X7_takesBehind : GoodIn wsX7_takenFrom (wsV RX7 54 RX7 yX7_takesBehind wsX7_takesBehind) := goodIn_app (qw_e qk_X7_takenFrom (QK_cons qw_469 (QK_cons qw_532 (QK_cons qw_533 (QK_cons qw_970 QK_nil)))) (by decide +kernel)) ggX7_takenFrom_X7_takesBehind
theorem dX7_takenFrom_0 : decode cX7_takenFrom 0 = .ok (.lconst 0, 1) := by decide +kernel
theorem dX7_takenFrom_1 : decode cX7_takenFrom 1 = .ok (.lstore 4, 2) := by decide +kernel
theorem dX7_takenFrom_3 : decode cX7_takenFrom 3 = .ok (.iconst 0, 1) := by decide +kernel
theorem dX7_takenFrom_4 : decode cX7_takenFrom 4 = .ok (.istore 6, 2) := by decide +kernel
theorem dX7_takenFrom_6 : decode cX7_takenFrom 6 = .ok (.iload 6, 2) := by decide +kernel
theorem dX7_takenFrom_8 : decode cX7_takenFrom 8 = .ok (.aload_n 0, 1) := by decide +kernel
theorem dX7_takenFrom_9 : decode cX7_takenFrom 9 = .ok (.getfield 18, 3) := by decide +kernel
theorem dX7_takenFrom_12 : decode cX7_takenFrom 12 = .ok (.if_icmp .ge 41, 3) := by decide +kernel
theorem dX7_takenFrom_15 : decode cX7_takenFrom 15 = .ok (.iload 6, 2) := by decide +kernel
theorem dX7_takenFrom_17 : decode cX7_takenFrom 17 = .ok (.iload_n 3, 1) := by decide +kernel
theorem dX7_takenFrom_18 : decode cX7_takenFrom 18 = .ok (.if_icmp .eq 29, 3) := by decide +kernel
theorem dX7_takenFrom_21 : decode cX7_takenFrom 21 = .ok (.aload_n 0, 1) := by decide +kernel
theorem dX7_takenFrom_22 : decode cX7_takenFrom 22 = .ok (.iload 6, 2) := by decide +kernel
theorem dX7_takenFrom_24 : decode cX7_takenFrom 24 = .ok (.aload_n 1, 1) := by decide +kernel
theorem dX7_takenFrom_25 : decode cX7_takenFrom 25 = .ok (.aload_n 2, 1) := by decide +kernel
theorem dX7_takenFrom_26 : decode cX7_takenFrom 26 = .ok (.invokevirtual 54, 3) := by decide +kernel
theorem dX7_takenFrom_29 : decode cX7_takenFrom 29 = .ok (.iconst (-1), 1) := by decide +kernel
theorem dX7_takenFrom_30 : decode cX7_takenFrom 30 = .ok (.if_icmp .eq 17, 3) := by decide +kernel
theorem dX7_takenFrom_33 : decode cX7_takenFrom 33 = .ok (.lload 4, 2) := by decide +kernel
theorem dX7_takenFrom_35 : decode cX7_takenFrom 35 = .ok (.lconst 1, 1) := by decide +kernel
theorem dX7_takenFrom_36 : decode cX7_takenFrom 36 = .ok (.aload_n 0, 1) := by decide +kernel
theorem dX7_takenFrom_37 : decode cX7_takenFrom 37 = .ok (.getfield 9, 3) := by decide +kernel
theorem dX7_takenFrom_40 : decode cX7_takenFrom 40 = .ok (.iload 6, 2) := by decide +kernel
theorem dX7_takenFrom_42 : decode cX7_takenFrom 42 = .ok (.iaload, 1) := by decide +kernel
theorem dX7_takenFrom_43 : decode cX7_takenFrom 43 = .ok (.lshl, 1) := by decide +kernel
theorem dX7_takenFrom_44 : decode cX7_takenFrom 44 = .ok (.lor, 1) := by decide +kernel
theorem dX7_takenFrom_45 : decode cX7_takenFrom 45 = .ok (.lstore 4, 2) := by decide +kernel
theorem dX7_takenFrom_47 : decode cX7_takenFrom 47 = .ok (.iinc 6 1, 3) := by decide +kernel
theorem dX7_takenFrom_50 : decode cX7_takenFrom 50 = .ok (.goto (-44), 3) := by decide +kernel
theorem dX7_takenFrom_53 : decode cX7_takenFrom 53 = .ok (.lload 4, 2) := by decide +kernel
theorem dX7_takenFrom_55 : decode cX7_takenFrom 55 = .ok (.lreturn, 1) := by decide +kernel
theorem dX8_init_0 : decode cX8_init 0 = .ok (.aload_n 0, 1) := by decide +kernel
theorem dX8_init_1 : decode cX8_init 1 = .ok (.invokespecial 3, 3) := by decide +kernel
theorem dX8_init_4 : decode cX8_init 4 = .ok (.aload_n 0, 1) := by decide +kernel
theorem dX8_init_5 : decode cX8_init 5 = .ok (.bipush 36, 2) := by decide +kernel
theorem dX8_init_7 : decode cX8_init 7 = .ok (.newarray .int, 2) := by decide +kernel
theorem dX8_init_9 : decode cX8_init 9 = .ok (.putfield 9, 3) := by decide +kernel
theorem dX8_init_12 : decode cX8_init 12 = .ok (.aload_n 0, 1) := by decide +kernel
theorem dX8_init_13 : decode cX8_init 13 = .ok (.iconst 0, 1) := by decide +kernel
theorem dX8_init_14 : decode cX8_init 14 = .ok (.putfield 15, 3) := by decide +kernel
theorem dX8_init_17 : decode cX8_init 17 = .ok (.aload_n 0, 1) := by decide +kernel
theorem dX8_init_18 : decode cX8_init 18 = .ok (.iconst 0, 1) := by decide +kernel
theorem dX8_init_19 : decode cX8_init 19 = .ok (.putfield 19, 3) := by decide +kernel
theorem dX8_init_22 : decode cX8_init 22 = .ok (.aload_n 0, 1) := by decide +kernel
theorem dX8_init_23 : decode cX8_init 23 = .ok (.lconst 0, 1) := by decide +kernel
theorem dX8_init_24 : decode cX8_init 24 = .ok (.putfield 22, 3) := by decide +kernel
theorem dX8_init_27 : decode cX8_init 27 = .ok (.return_, 1) := by decide +kernel
set_option maxRecDepth 20000 in
theorem ggX8_parse_X8_clear : GoodIn wsX8_parse wsX8_clear := qw_e qk_X8_parse qk_X8_clear (by decide +kernel)
set_option maxRecDepth 20000 in
theorem gX8_parse_X8_clear : GoodIn wsX8_parse (wsV RX8 26 RX8 yX8_clear wsX8_clear) := goodIn_app (qw_e qk_X8_parse (QK_cons qw_823 (QK_cons qw_824 (QK_cons qw_825 (QK_cons qw_1010 QK_nil)))) (by decide +kernel)) ggX8_parse_X8_clear
set_option maxRecDepth 20000 in
theorem ggX8_parse_X8_kindOf : GoodIn wsX8_parse wsX8_kindOf := qw_e qk_X8_parse qk_X8_kindOf (by decide +kernel)
set_option maxRecDepth 20000 in
theorem gX8_parse_X8_kindOf : GoodIn wsX8_parse (va_wsS RX8 37 yX8_kindOf wsX8_kindOf) := goodIn_app (qw_e qk_X8_parse (QK_cons qw_827 (QK_cons qw_828 (QK_cons qw_1010 QK_nil))) (by decide +kernel)) ggX8_parse_X8_kindOf
set_option maxRecDepth 20000 in
theorem ggX8_parse_X8_fail : GoodIn wsX8_parse wsX8_fail := qw_e qk_X8_parse qk_X8_fail (by decide +kernel)
set_option maxRecDepth 20000 in
theorem gX8_parse_X8_fail : GoodIn wsX8_parse (wsV RX8 41 RX8 yX8_fail wsX8_fail) := goodIn_app (qw_e qk_X8_parse (QK_cons qw_830 (QK_cons qw_831 (QK_cons qw_832 (QK_cons qw_1010 QK_nil)))) (by decide +kernel)) ggX8_parse_X8_fail
set_option maxRecDepth 20000 in
theorem ggX8_parse_X8_addCell : GoodIn wsX8_parse wsX8_addCell := qw_e qk_X8_parse qk_X8_addCell (by decide +kernel)
set_option maxRecDepth 20000 in
theorem gX8_parse_X8_addCell : GoodIn wsX8_parse (wsV RX8 44 RX8 yX8_addCell wsX8_addCell) := goodIn_app (qw_e qk_X8_parse (QK_cons qw_834 (QK_cons qw_835 (QK_cons qw_836 (QK_cons qw_1010 QK_nil)))) (by decide +kernel)) ggX8_parse_X8_addCell
theorem dX8_parse_0 : decode cX8_parse 0 = .ok (.aload_n 0, 1) := by decide +kernel
theorem dX8_parse_1 : decode cX8_parse 1 = .ok (.invokevirtual 26, 3) := by decide +kernel
theorem dX8_parse_4 : decode cX8_parse 4 = .ok (.iconst 0, 1) := by decide +kernel
theorem dX8_parse_5 : decode cX8_parse 5 = .ok (.istore_n 2, 1) := by decide +kernel
theorem dX8_parse_6 : decode cX8_parse 6 = .ok (.iconst 0, 1) := by decide +kernel
theorem dX8_parse_7 : decode cX8_parse 7 = .ok (.istore_n 3, 1) := by decide +kernel
theorem dX8_parse_8 : decode cX8_parse 8 = .ok (.iconst 0, 1) := by decide +kernel
theorem dX8_parse_9 : decode cX8_parse 9 = .ok (.istore 4, 2) := by decide +kernel
theorem dX8_parse_11 : decode cX8_parse 11 = .ok (.iload 4, 2) := by decide +kernel
theorem dX8_parse_13 : decode cX8_parse 13 = .ok (.aload_n 1, 1) := by decide +kernel
theorem dX8_parse_14 : decode cX8_parse 14 = .ok (.getfield 29, 3) := by decide +kernel
theorem dX8_parse_17 : decode cX8_parse 17 = .ok (.if_icmp .ge 117, 3) := by decide +kernel
theorem dX8_parse_20 : decode cX8_parse 20 = .ok (.aload_n 1, 1) := by decide +kernel
theorem dX8_parse_21 : decode cX8_parse 21 = .ok (.getfield 34, 3) := by decide +kernel
theorem dX8_parse_24 : decode cX8_parse 24 = .ok (.iload 4, 2) := by decide +kernel
theorem dX8_parse_26 : decode cX8_parse 26 = .ok (.iaload, 1) := by decide +kernel
theorem dX8_parse_27 : decode cX8_parse 27 = .ok (.invokestatic 37, 3) := by decide +kernel
theorem dX8_parse_30 : decode cX8_parse 30 = .ok (.istore 5, 2) := by decide +kernel
theorem dX8_parse_32 : decode cX8_parse 32 = .ok (.iload_n 2, 1) := by decide +kernel
theorem dX8_parse_33 : decode cX8_parse 33 = .ok (.bipush 6, 2) := by decide +kernel
theorem dX8_parse_35 : decode cX8_parse 35 = .ok (.if_icmp .ne 10, 3) := by decide +kernel
theorem dX8_parse_38 : decode cX8_parse 38 = .ok (.aload_n 0, 1) := by decide +kernel
theorem dX8_parse_39 : decode cX8_parse 39 = .ok (.iload 4, 2) := by decide +kernel
theorem dX8_parse_41 : decode cX8_parse 41 = .ok (.invokevirtual 41, 3) := by decide +kernel
theorem dX8_parse_44 : decode cX8_parse 44 = .ok (.ireturn, 1) := by decide +kernel
theorem dX8_parse_45 : decode cX8_parse 45 = .ok (.iload 5, 2) := by decide +kernel
theorem dX8_parse_47 : decode cX8_parse 47 = .ok (.iconst (-1), 1) := by decide +kernel
theorem dX8_parse_48 : decode cX8_parse 48 = .ok (.if_icmp .eq 32, 3) := by decide +kernel
theorem dX8_parse_51 : decode cX8_parse 51 = .ok (.iload_n 3, 1) := by decide +kernel
theorem dX8_parse_52 : decode cX8_parse 52 = .ok (.iload_n 2, 1) := by decide +kernel
theorem dX8_parse_53 : decode cX8_parse 53 = .ok (.ifCond .ne 8, 3) := by decide +kernel
theorem dX8_parse_56 : decode cX8_parse 56 = .ok (.bipush 6, 2) := by decide +kernel
theorem dX8_parse_58 : decode cX8_parse 58 = .ok (.goto 7, 3) := by decide +kernel
theorem dX8_parse_61 : decode cX8_parse 61 = .ok (.aload_n 0, 1) := by decide +kernel
theorem dX8_parse_62 : decode cX8_parse 62 = .ok (.getfield 19, 3) := by decide +kernel
theorem dX8_parse_65 : decode cX8_parse 65 = .ok (.if_icmp .ge 15, 3) := by decide +kernel
theorem dX8_parse_68 : decode cX8_parse 68 = .ok (.aload_n 0, 1) := by decide +kernel
theorem dX8_parse_69 : decode cX8_parse 69 = .ok (.iload 5, 2) := by decide +kernel
theorem dX8_parse_71 : decode cX8_parse 71 = .ok (.invokevirtual 44, 3) := by decide +kernel
theorem dX8_parse_74 : decode cX8_parse 74 = .ok (.iinc 3 1, 3) := by decide +kernel
theorem dX8_parse_77 : decode cX8_parse 77 = .ok (.goto 51, 3) := by decide +kernel
theorem dX8_parse_80 : decode cX8_parse 80 = .ok (.aload_n 1, 1) := by decide +kernel
theorem dX8_parse_81 : decode cX8_parse 81 = .ok (.getfield 34, 3) := by decide +kernel
theorem dX8_parse_84 : decode cX8_parse 84 = .ok (.iload 4, 2) := by decide +kernel
theorem dX8_parse_86 : decode cX8_parse 86 = .ok (.iaload, 1) := by decide +kernel
theorem dX8_parse_87 : decode cX8_parse 87 = .ok (.bipush 59, 2) := by decide +kernel
theorem dX8_parse_89 : decode cX8_parse 89 = .ok (.if_icmp .ne 32, 3) := by decide +kernel
theorem dX8_parse_92 : decode cX8_parse 92 = .ok (.iload_n 3, 1) := by decide +kernel
theorem dX8_parse_93 : decode cX8_parse 93 = .ok (.ifCond .le 28, 3) := by decide +kernel
theorem dX8_parse_96 : decode cX8_parse 96 = .ok (.iload_n 2, 1) := by decide +kernel
theorem dX8_parse_97 : decode cX8_parse 97 = .ok (.ifCond .eq 11, 3) := by decide +kernel
theorem dX8_parse_100 : decode cX8_parse 100 = .ok (.iload_n 3, 1) := by decide +kernel
theorem dX8_parse_101 : decode cX8_parse 101 = .ok (.aload_n 0, 1) := by decide +kernel
theorem dX8_parse_102 : decode cX8_parse 102 = .ok (.getfield 19, 3) := by decide +kernel
theorem dX8_parse_105 : decode cX8_parse 105 = .ok (.if_icmp .ne 16, 3) := by decide +kernel
theorem dX8_parse_108 : decode cX8_parse 108 = .ok (.aload_n 0, 1) := by decide +kernel
theorem dX8_parse_109 : decode cX8_parse 109 = .ok (.iload_n 3, 1) := by decide +kernel
theorem dX8_parse_110 : decode cX8_parse 110 = .ok (.putfield 19, 3) := by decide +kernel
theorem dX8_parse_113 : decode cX8_parse 113 = .ok (.iinc 2 1, 3) := by decide +kernel
theorem dX8_parse_116 : decode cX8_parse 116 = .ok (.iconst 0, 1) := by decide +kernel
theorem dX8_parse_117 : decode cX8_parse 117 = .ok (.istore_n 3, 1) := by decide +kernel
theorem dX8_parse_118 : decode cX8_parse 118 = .ok (.goto 10, 3) := by decide +kernel
theorem dX8_parse_121 : decode cX8_parse 121 = .ok (.aload_n 0, 1) := by decide +kernel
theorem dX8_parse_122 : decode cX8_parse 122 = .ok (.iload 4, 2) := by decide +kernel
theorem dX8_parse_124 : decode cX8_parse 124 = .ok (.invokevirtual 41, 3) := by decide +kernel
theorem dX8_parse_127 : decode cX8_parse 127 = .ok (.ireturn, 1) := by decide +kernel
theorem dX8_parse_128 : decode cX8_parse 128 = .ok (.iinc 4 1, 3) := by decide +kernel
theorem dX8_parse_131 : decode cX8_parse 131 = .ok (.goto (-120), 3) := by decide +kernel
theorem dX8_parse_134 : decode cX8_parse 134 = .ok (.aload_n 1, 1) := by decide +kernel
theorem dX8_parse_135 : decode cX8_parse 135 = .ok (.getfield 29, 3) := by decide +kernel
theorem dX8_parse_138 : decode cX8_parse 138 = .ok (.ifCond .le 28, 3) := by decide +kernel
theorem dX8_parse_141 : decode cX8_parse 141 = .ok (.iload_n 3, 1) := by decide +kernel
theorem dX8_parse_142 : decode cX8_parse 142 = .ok (.ifCond .eq 15, 3) := by decide +kernel
theorem dX8_parse_145 : decode cX8_parse 145 = .ok (.iload_n 2, 1) := by decide +kernel
theorem dX8_parse_146 : decode cX8_parse 146 = .ok (.ifCond .le 20, 3) := by decide +kernel
theorem dX8_parse_149 : decode cX8_parse 149 = .ok (.iload_n 3, 1) := by decide +kernel
theorem dX8_parse_150 : decode cX8_parse 150 = .ok (.aload_n 0, 1) := by decide +kernel
theorem dX8_parse_151 : decode cX8_parse 151 = .ok (.getfield 19, 3) := by decide +kernel
theorem dX8_parse_154 : decode cX8_parse 154 = .ok (.if_icmp .ge 12, 3) := by decide +kernel
theorem dX8_parse_157 : decode cX8_parse 157 = .ok (.aload_n 0, 1) := by decide +kernel
theorem dX8_parse_158 : decode cX8_parse 158 = .ok (.aload_n 1, 1) := by decide +kernel
theorem dX8_parse_159 : decode cX8_parse 159 = .ok (.getfield 29, 3) := by decide +kernel
theorem dX8_parse_162 : decode cX8_parse 162 = .ok (.invokevirtual 41, 3) := by decide +kernel
theorem dX8_parse_165 : decode cX8_parse 165 = .ok (.ireturn, 1) := by decide +kernel
theorem dX8_parse_166 : decode cX8_parse 166 = .ok (.aload_n 0, 1) := by decide +kernel
theorem dX8_parse_167 : decode cX8_parse 167 = .ok (.iload_n 3, 1) := by decide +kernel
theorem dX8_parse_168 : decode cX8_parse 168 = .ok (.putfield 19, 3) := by decide +kernel
theorem dX8_parse_171 : decode cX8_parse 171 = .ok (.iconst (-1), 1) := by decide +kernel
theorem dX8_parse_172 : decode cX8_parse 172 = .ok (.ireturn, 1) := by decide +kernel
set_option maxRecDepth 20000 in
theorem ggX8_fail_X8_clear : GoodIn wsX8_fail wsX8_clear := qw_e qk_X8_fail qk_X8_clear (by decide +kernel)
set_option maxRecDepth 20000 in
theorem gX8_fail_X8_clear : GoodIn wsX8_fail (wsV RX8 26 RX8 yX8_clear wsX8_clear) := goodIn_app (qw_e qk_X8_fail (QK_cons qw_823 (QK_cons qw_824 (QK_cons qw_825 (QK_cons qw_1010 QK_nil)))) (by decide +kernel)) ggX8_fail_X8_clear
theorem dX8_fail_0 : decode cX8_fail 0 = .ok (.aload_n 0, 1) := by decide +kernel
theorem dX8_fail_1 : decode cX8_fail 1 = .ok (.invokevirtual 26, 3) := by decide +kernel
theorem dX8_fail_4 : decode cX8_fail 4 = .ok (.iload_n 1, 1) := by decide +kernel
theorem dX8_fail_5 : decode cX8_fail 5 = .ok (.ireturn, 1) := by decide +kernel
theorem dX8_clear_0 : decode cX8_clear 0 = .ok (.aload_n 0, 1) := by decide +kernel
theorem dX8_clear_1 : decode cX8_clear 1 = .ok (.iconst 0, 1) := by decide +kernel
theorem dX8_clear_2 : decode cX8_clear 2 = .ok (.putfield 15, 3) := by decide +kernel
theorem dX8_clear_5 : decode cX8_clear 5 = .ok (.aload_n 0, 1) := by decide +kernel
theorem dX8_clear_6 : decode cX8_clear 6 = .ok (.iconst 0, 1) := by decide +kernel
theorem dX8_clear_7 : decode cX8_clear 7 = .ok (.putfield 19, 3) := by decide +kernel
theorem dX8_clear_10 : decode cX8_clear 10 = .ok (.aload_n 0, 1) := by decide +kernel
theorem dX8_clear_11 : decode cX8_clear 11 = .ok (.lconst 0, 1) := by decide +kernel
theorem dX8_clear_12 : decode cX8_clear 12 = .ok (.putfield 22, 3) := by decide +kernel
theorem dX8_clear_15 : decode cX8_clear 15 = .ok (.return_, 1) := by decide +kernel
theorem dX8_addCell_0 : decode cX8_addCell 0 = .ok (.aload_n 0, 1) := by decide +kernel
theorem dX8_addCell_1 : decode cX8_addCell 1 = .ok (.getfield 15, 3) := by decide +kernel
theorem dX8_addCell_4 : decode cX8_addCell 4 = .ok (.aload_n 0, 1) := by decide +kernel
theorem dX8_addCell_5 : decode cX8_addCell 5 = .ok (.getfield 9, 3) := by decide +kernel
theorem dX8_addCell_8 : decode cX8_addCell 8 = .ok (.arraylength, 1) := by decide +kernel
theorem dX8_addCell_9 : decode cX8_addCell 9 = .ok (.if_icmp .ge 47, 3) := by decide +kernel
theorem dX8_addCell_12 : decode cX8_addCell 12 = .ok (.aload_n 0, 1) := by decide +kernel
theorem dX8_addCell_13 : decode cX8_addCell 13 = .ok (.getfield 9, 3) := by decide +kernel
theorem dX8_addCell_16 : decode cX8_addCell 16 = .ok (.aload_n 0, 1) := by decide +kernel
theorem dX8_addCell_17 : decode cX8_addCell 17 = .ok (.getfield 15, 3) := by decide +kernel
theorem dX8_addCell_20 : decode cX8_addCell 20 = .ok (.iload_n 1, 1) := by decide +kernel
theorem dX8_addCell_21 : decode cX8_addCell 21 = .ok (.iastore, 1) := by decide +kernel
theorem dX8_addCell_22 : decode cX8_addCell 22 = .ok (.aload_n 0, 1) := by decide +kernel
theorem dX8_addCell_23 : decode cX8_addCell 23 = .ok (.dup, 1) := by decide +kernel
theorem dX8_addCell_24 : decode cX8_addCell 24 = .ok (.getfield 22, 3) := by decide +kernel
theorem dX8_addCell_27 : decode cX8_addCell 27 = .ok (.iload_n 1, 1) := by decide +kernel
theorem dX8_addCell_28 : decode cX8_addCell 28 = .ok (.iconst 2, 1) := by decide +kernel
theorem dX8_addCell_29 : decode cX8_addCell 29 = .ok (.if_icmp .ne 12, 3) := by decide +kernel
theorem dX8_addCell_32 : decode cX8_addCell 32 = .ok (.lconst 1, 1) := by decide +kernel
theorem dX8_addCell_33 : decode cX8_addCell 33 = .ok (.aload_n 0, 1) := by decide +kernel
theorem dX8_addCell_34 : decode cX8_addCell 34 = .ok (.getfield 15, 3) := by decide +kernel
theorem dX8_addCell_37 : decode cX8_addCell 37 = .ok (.lshl, 1) := by decide +kernel
theorem dX8_addCell_38 : decode cX8_addCell 38 = .ok (.goto 4, 3) := by decide +kernel
theorem dX8_addCell_41 : decode cX8_addCell 41 = .ok (.lconst 0, 1) := by decide +kernel
theorem dX8_addCell_42 : decode cX8_addCell 42 = .ok (.lor, 1) := by decide +kernel
theorem dX8_addCell_43 : decode cX8_addCell 43 = .ok (.putfield 22, 3) := by decide +kernel
theorem dX8_addCell_46 : decode cX8_addCell 46 = .ok (.aload_n 0, 1) := by decide +kernel
theorem dX8_addCell_47 : decode cX8_addCell 47 = .ok (.dup, 1) := by decide +kernel
theorem dX8_addCell_48 : decode cX8_addCell 48 = .ok (.getfield 15, 3) := by decide +kernel
theorem dX8_addCell_51 : decode cX8_addCell 51 = .ok (.iconst 1, 1) := by decide +kernel
theorem dX8_addCell_52 : decode cX8_addCell 52 = .ok (.iadd, 1) := by decide +kernel
theorem dX8_addCell_53 : decode cX8_addCell 53 = .ok (.putfield 15, 3) := by decide +kernel
theorem dX8_addCell_56 : decode cX8_addCell 56 = .ok (.return_, 1) := by decide +kernel
theorem dX8_kindOf_0 : decode cX8_kindOf 0 = .ok (.iload_n 0, 1) := by decide +kernel
theorem dX8_kindOf_1 : decode cX8_kindOf 1 = .ok (.lookupswitch 61 #[(35, 53), (46, 51), (100, 59), (108, 57), (115, 55)], 51) := by decide +kernel
theorem dX8_kindOf_52 : decode cX8_kindOf 52 = .ok (.iconst 0, 1) := by decide +kernel
theorem dX8_kindOf_53 : decode cX8_kindOf 53 = .ok (.ireturn, 1) := by decide +kernel
theorem dX8_kindOf_54 : decode cX8_kindOf 54 = .ok (.iconst 1, 1) := by decide +kernel
theorem dX8_kindOf_55 : decode cX8_kindOf 55 = .ok (.ireturn, 1) := by decide +kernel
theorem dX8_kindOf_56 : decode cX8_kindOf 56 = .ok (.iconst 2, 1) := by decide +kernel
theorem dX8_kindOf_57 : decode cX8_kindOf 57 = .ok (.ireturn, 1) := by decide +kernel
theorem dX8_kindOf_58 : decode cX8_kindOf 58 = .ok (.iconst 3, 1) := by decide +kernel
theorem dX8_kindOf_59 : decode cX8_kindOf 59 = .ok (.ireturn, 1) := by decide +kernel
theorem dX8_kindOf_60 : decode cX8_kindOf 60 = .ok (.iconst 4, 1) := by decide +kernel
theorem dX8_kindOf_61 : decode cX8_kindOf 61 = .ok (.ireturn, 1) := by decide +kernel
theorem dX8_kindOf_62 : decode cX8_kindOf 62 = .ok (.iconst (-1), 1) := by decide +kernel
theorem dX8_kindOf_63 : decode cX8_kindOf 63 = .ok (.ireturn, 1) := by decide +kernel
theorem dX8_has_0 : decode cX8_has 0 = .ok (.iload_n 1, 1) := by decide +kernel
theorem dX8_has_1 : decode cX8_has 1 = .ok (.ifCond .lt 15, 3) := by decide +kernel
theorem dX8_has_4 : decode cX8_has 4 = .ok (.iload_n 1, 1) := by decide +kernel
theorem dX8_has_5 : decode cX8_has 5 = .ok (.aload_n 0, 1) := by decide +kernel
theorem dX8_has_6 : decode cX8_has 6 = .ok (.getfield 15, 3) := by decide +kernel
theorem dX8_has_9 : decode cX8_has 9 = .ok (.if_icmp .ge 7, 3) := by decide +kernel
theorem dX8_has_12 : decode cX8_has 12 = .ok (.iconst 1, 1) := by decide +kernel
theorem dX8_has_13 : decode cX8_has 13 = .ok (.goto 4, 3) := by decide +kernel
theorem dX8_has_16 : decode cX8_has 16 = .ok (.iconst 0, 1) := by decide +kernel
theorem dX8_has_17 : decode cX8_has 17 = .ok (.ireturn, 1) := by decide +kernel
theorem dX8_isShop_0 : decode cX8_isShop 0 = .ok (.iload_n 1, 1) := by decide +kernel
theorem dX8_isShop_1 : decode cX8_isShop 1 = .ok (.ifCond .lt 25, 3) := by decide +kernel
theorem dX8_isShop_4 : decode cX8_isShop 4 = .ok (.iload_n 1, 1) := by decide +kernel
theorem dX8_isShop_5 : decode cX8_isShop 5 = .ok (.aload_n 0, 1) := by decide +kernel
theorem dX8_isShop_6 : decode cX8_isShop 6 = .ok (.getfield 15, 3) := by decide +kernel
theorem dX8_isShop_9 : decode cX8_isShop 9 = .ok (.if_icmp .ge 17, 3) := by decide +kernel
theorem dX8_isShop_12 : decode cX8_isShop 12 = .ok (.aload_n 0, 1) := by decide +kernel
theorem dX8_isShop_13 : decode cX8_isShop 13 = .ok (.getfield 9, 3) := by decide +kernel
theorem dX8_isShop_16 : decode cX8_isShop 16 = .ok (.iload_n 1, 1) := by decide +kernel
theorem dX8_isShop_17 : decode cX8_isShop 17 = .ok (.iaload, 1) := by decide +kernel
theorem dX8_isShop_18 : decode cX8_isShop 18 = .ok (.iconst 2, 1) := by decide +kernel
theorem dX8_isShop_19 : decode cX8_isShop 19 = .ok (.if_icmp .ne 7, 3) := by decide +kernel
theorem dX8_isShop_22 : decode cX8_isShop 22 = .ok (.iconst 1, 1) := by decide +kernel
theorem dX8_isShop_23 : decode cX8_isShop 23 = .ok (.goto 4, 3) := by decide +kernel
theorem dX8_isShop_26 : decode cX8_isShop 26 = .ok (.iconst 0, 1) := by decide +kernel
theorem dX8_isShop_27 : decode cX8_isShop 27 = .ok (.ireturn, 1) := by decide +kernel
set_option maxRecDepth 20000 in
theorem ggX8_isFor_X8_has : GoodIn wsX8_isFor wsX8_has := qw_e qk_X8_isFor qk_X8_has (by decide +kernel)
set_option maxRecDepth 20000 in
theorem gX8_isFor_X8_has : GoodIn wsX8_isFor (wsV RX8 48 RX8 yX8_has wsX8_has) := goodIn_app (qw_e qk_X8_isFor (QK_cons qw_651 (QK_cons qw_652 (QK_cons qw_653 (QK_cons qw_1010 QK_nil)))) (by decide +kernel)) ggX8_isFor_X8_has
theorem dX8_isFor_0 : decode cX8_isFor 0 = .ok (.aload_n 0, 1) := by decide +kernel
theorem dX8_isFor_1 : decode cX8_isFor 1 = .ok (.iload_n 2, 1) := by decide +kernel
theorem dX8_isFor_2 : decode cX8_isFor 2 = .ok (.invokevirtual 48, 3) := by decide +kernel
theorem dX8_isFor_5 : decode cX8_isFor 5 = .ok (.ifCond .ne 5, 3) := by decide +kernel
theorem dX8_isFor_8 : decode cX8_isFor 8 = .ok (.iconst 0, 1) := by decide +kernel
theorem dX8_isFor_9 : decode cX8_isFor 9 = .ok (.ireturn, 1) := by decide +kernel
theorem dX8_isFor_10 : decode cX8_isFor 10 = .ok (.aload_n 0, 1) := by decide +kernel
theorem dX8_isFor_11 : decode cX8_isFor 11 = .ok (.getfield 9, 3) := by decide +kernel
theorem dX8_isFor_14 : decode cX8_isFor 14 = .ok (.iload_n 2, 1) := by decide +kernel
theorem dX8_isFor_15 : decode cX8_isFor 15 = .ok (.iaload, 1) := by decide +kernel
theorem dX8_isFor_16 : decode cX8_isFor 16 = .ok (.tableswitch 57 1 4 #[32, 57, 34, 46], 32) := by decide +kernel
theorem dX8_isFor_48 : decode cX8_isFor 48 = .ok (.iconst 0, 1) := by decide +kernel
theorem dX8_isFor_49 : decode cX8_isFor 49 = .ok (.ireturn, 1) := by decide +kernel
theorem dX8_isFor_50 : decode cX8_isFor 50 = .ok (.iload_n 1, 1) := by decide +kernel
theorem dX8_isFor_51 : decode cX8_isFor 51 = .ok (.bipush 7, 2) := by decide +kernel
theorem dX8_isFor_53 : decode cX8_isFor 53 = .ok (.if_icmp .gt 7, 3) := by decide +kernel
theorem dX8_isFor_56 : decode cX8_isFor 56 = .ok (.iconst 1, 1) := by decide +kernel
theorem dX8_isFor_57 : decode cX8_isFor 57 = .ok (.goto 4, 3) := by decide +kernel
theorem dX8_isFor_60 : decode cX8_isFor 60 = .ok (.iconst 0, 1) := by decide +kernel
theorem dX8_isFor_61 : decode cX8_isFor 61 = .ok (.ireturn, 1) := by decide +kernel
theorem dX8_isFor_62 : decode cX8_isFor 62 = .ok (.iload_n 1, 1) := by decide +kernel
theorem dX8_isFor_63 : decode cX8_isFor 63 = .ok (.iconst 2, 1) := by decide +kernel
theorem dX8_isFor_64 : decode cX8_isFor 64 = .ok (.if_icmp .gt 7, 3) := by decide +kernel
theorem dX8_isFor_67 : decode cX8_isFor 67 = .ok (.iconst 1, 1) := by decide +kernel
theorem dX8_isFor_68 : decode cX8_isFor 68 = .ok (.goto 4, 3) := by decide +kernel
theorem dX8_isFor_71 : decode cX8_isFor 71 = .ok (.iconst 0, 1) := by decide +kernel
theorem dX8_isFor_72 : decode cX8_isFor 72 = .ok (.ireturn, 1) := by decide +kernel
theorem dX8_isFor_73 : decode cX8_isFor 73 = .ok (.iconst 1, 1) := by decide +kernel
theorem dX8_isFor_74 : decode cX8_isFor 74 = .ok (.ireturn, 1) := by decide +kernel
theorem dX8_neighbour_0 : decode cX8_neighbour 0 = .ok (.aload_n 0, 1) := by decide +kernel
theorem dX8_neighbour_1 : decode cX8_neighbour 1 = .ok (.getfield 19, 3) := by decide +kernel
theorem dX8_neighbour_4 : decode cX8_neighbour 4 = .ok (.ifCond .ne 7, 3) := by decide +kernel
theorem dX8_neighbour_7 : decode cX8_neighbour 7 = .ok (.iconst 0, 1) := by decide +kernel
theorem dX8_neighbour_8 : decode cX8_neighbour 8 = .ok (.goto 9, 3) := by decide +kernel
theorem dX8_neighbour_11 : decode cX8_neighbour 11 = .ok (.iload_n 1, 1) := by decide +kernel
theorem dX8_neighbour_12 : decode cX8_neighbour 12 = .ok (.aload_n 0, 1) := by decide +kernel
theorem dX8_neighbour_13 : decode cX8_neighbour 13 = .ok (.getfield 19, 3) := by decide +kernel
theorem dX8_neighbour_16 : decode cX8_neighbour 16 = .ok (.irem, 1) := by decide +kernel
theorem dX8_neighbour_17 : decode cX8_neighbour 17 = .ok (.istore_n 3, 1) := by decide +kernel
theorem dX8_neighbour_18 : decode cX8_neighbour 18 = .ok (.iload_n 2, 1) := by decide +kernel
theorem dX8_neighbour_19 : decode cX8_neighbour 19 = .ok (.tableswitch 102 0 3 #[29, 48, 66, 90], 29) := by decide +kernel
theorem dX8_neighbour_48 : decode cX8_neighbour 48 = .ok (.iload_n 1, 1) := by decide +kernel
theorem dX8_neighbour_49 : decode cX8_neighbour 49 = .ok (.aload_n 0, 1) := by decide +kernel
theorem dX8_neighbour_50 : decode cX8_neighbour 50 = .ok (.getfield 19, 3) := by decide +kernel
theorem dX8_neighbour_53 : decode cX8_neighbour 53 = .ok (.if_icmp .lt 12, 3) := by decide +kernel
theorem dX8_neighbour_56 : decode cX8_neighbour 56 = .ok (.iload_n 1, 1) := by decide +kernel
theorem dX8_neighbour_57 : decode cX8_neighbour 57 = .ok (.aload_n 0, 1) := by decide +kernel
theorem dX8_neighbour_58 : decode cX8_neighbour 58 = .ok (.getfield 19, 3) := by decide +kernel
theorem dX8_neighbour_61 : decode cX8_neighbour 61 = .ok (.isub, 1) := by decide +kernel
theorem dX8_neighbour_62 : decode cX8_neighbour 62 = .ok (.goto 4, 3) := by decide +kernel
theorem dX8_neighbour_65 : decode cX8_neighbour 65 = .ok (.iconst (-1), 1) := by decide +kernel
theorem dX8_neighbour_66 : decode cX8_neighbour 66 = .ok (.ireturn, 1) := by decide +kernel
theorem dX8_neighbour_67 : decode cX8_neighbour 67 = .ok (.iload_n 3, 1) := by decide +kernel
theorem dX8_neighbour_68 : decode cX8_neighbour 68 = .ok (.iconst 1, 1) := by decide +kernel
theorem dX8_neighbour_69 : decode cX8_neighbour 69 = .ok (.iadd, 1) := by decide +kernel
theorem dX8_neighbour_70 : decode cX8_neighbour 70 = .ok (.aload_n 0, 1) := by decide +kernel
theorem dX8_neighbour_71 : decode cX8_neighbour 71 = .ok (.getfield 19, 3) := by decide +kernel
theorem dX8_neighbour_74 : decode cX8_neighbour 74 = .ok (.if_icmp .ge 9, 3) := by decide +kernel
theorem dX8_neighbour_77 : decode cX8_neighbour 77 = .ok (.iload_n 1, 1) := by decide +kernel
theorem dX8_neighbour_78 : decode cX8_neighbour 78 = .ok (.iconst 1, 1) := by decide +kernel
theorem dX8_neighbour_79 : decode cX8_neighbour 79 = .ok (.iadd, 1) := by decide +kernel
theorem dX8_neighbour_80 : decode cX8_neighbour 80 = .ok (.goto 4, 3) := by decide +kernel
theorem dX8_neighbour_83 : decode cX8_neighbour 83 = .ok (.iconst (-1), 1) := by decide +kernel
theorem dX8_neighbour_84 : decode cX8_neighbour 84 = .ok (.ireturn, 1) := by decide +kernel
theorem dX8_neighbour_85 : decode cX8_neighbour 85 = .ok (.iload_n 1, 1) := by decide +kernel
theorem dX8_neighbour_86 : decode cX8_neighbour 86 = .ok (.aload_n 0, 1) := by decide +kernel
theorem dX8_neighbour_87 : decode cX8_neighbour 87 = .ok (.getfield 19, 3) := by decide +kernel
theorem dX8_neighbour_90 : decode cX8_neighbour 90 = .ok (.iadd, 1) := by decide +kernel
theorem dX8_neighbour_91 : decode cX8_neighbour 91 = .ok (.aload_n 0, 1) := by decide +kernel
theorem dX8_neighbour_92 : decode cX8_neighbour 92 = .ok (.getfield 15, 3) := by decide +kernel
theorem dX8_neighbour_95 : decode cX8_neighbour 95 = .ok (.if_icmp .ge 12, 3) := by decide +kernel
theorem dX8_neighbour_98 : decode cX8_neighbour 98 = .ok (.iload_n 1, 1) := by decide +kernel
theorem dX8_neighbour_99 : decode cX8_neighbour 99 = .ok (.aload_n 0, 1) := by decide +kernel
theorem dX8_neighbour_100 : decode cX8_neighbour 100 = .ok (.getfield 19, 3) := by decide +kernel
theorem dX8_neighbour_103 : decode cX8_neighbour 103 = .ok (.iadd, 1) := by decide +kernel
theorem dX8_neighbour_104 : decode cX8_neighbour 104 = .ok (.goto 4, 3) := by decide +kernel
theorem dX8_neighbour_107 : decode cX8_neighbour 107 = .ok (.iconst (-1), 1) := by decide +kernel
theorem dX8_neighbour_108 : decode cX8_neighbour 108 = .ok (.ireturn, 1) := by decide +kernel
theorem dX8_neighbour_109 : decode cX8_neighbour 109 = .ok (.iload_n 3, 1) := by decide +kernel
theorem dX8_neighbour_110 : decode cX8_neighbour 110 = .ok (.ifCond .le 9, 3) := by decide +kernel
theorem dX8_neighbour_113 : decode cX8_neighbour 113 = .ok (.iload_n 1, 1) := by decide +kernel
theorem dX8_neighbour_114 : decode cX8_neighbour 114 = .ok (.iconst 1, 1) := by decide +kernel
theorem dX8_neighbour_115 : decode cX8_neighbour 115 = .ok (.isub, 1) := by decide +kernel
theorem dX8_neighbour_116 : decode cX8_neighbour 116 = .ok (.goto 4, 3) := by decide +kernel
theorem dX8_neighbour_119 : decode cX8_neighbour 119 = .ok (.iconst (-1), 1) := by decide +kernel
theorem dX8_neighbour_120 : decode cX8_neighbour 120 = .ok (.ireturn, 1) := by decide +kernel
theorem dX8_neighbour_121 : decode cX8_neighbour 121 = .ok (.iload_n 1, 1) := by decide +kernel
theorem dX8_neighbour_122 : decode cX8_neighbour 122 = .ok (.ireturn, 1) := by decide +kernel
set_option maxRecDepth 20000 in
theorem ggX8_viewFrom_X8_has : GoodIn wsX8_viewFrom wsX8_has := qw_e qk_X8_viewFrom qk_X8_has (by decide +kernel)
set_option maxRecDepth 20000 in
theorem gX8_viewFrom_X8_has : GoodIn wsX8_viewFrom (wsV RX8 48 RX8 yX8_has wsX8_has) := goodIn_app (qw_e qk_X8_viewFrom (QK_cons qw_651 (QK_cons qw_652 (QK_cons qw_653 (QK_cons qw_1010 QK_nil)))) (by decide +kernel)) ggX8_viewFrom_X8_has
set_option maxRecDepth 20000 in
theorem ggX8_viewFrom_X8_neighbour : GoodIn wsX8_viewFrom wsX8_neighbour := qw_e qk_X8_viewFrom qk_X8_neighbour (by decide +kernel)
set_option maxRecDepth 20000 in
theorem gX8_viewFrom_X8_neighbour : GoodIn wsX8_viewFrom (wsV RX8 52 RX8 yX8_neighbour wsX8_neighbour) := goodIn_app (qw_e qk_X8_viewFrom (QK_cons qw_611 (QK_cons qw_612 (QK_cons qw_613 (QK_cons qw_1010 QK_nil)))) (by decide +kernel)) ggX8_viewFrom_X8_neighbour
theorem dX8_viewFrom_0 : decode cX8_viewFrom 0 = .ok (.aload_n 0, 1) := by decide +kernel
theorem dX8_viewFrom_1 : decode cX8_viewFrom 1 = .ok (.iload_n 1, 1) := by decide +kernel
theorem dX8_viewFrom_2 : decode cX8_viewFrom 2 = .ok (.invokevirtual 48, 3) := by decide +kernel
theorem dX8_viewFrom_5 : decode cX8_viewFrom 5 = .ok (.ifCond .ne 5, 3) := by decide +kernel
theorem dX8_viewFrom_8 : decode cX8_viewFrom 8 = .ok (.lconst 0, 1) := by decide +kernel
theorem dX8_viewFrom_9 : decode cX8_viewFrom 9 = .ok (.lreturn, 1) := by decide +kernel
theorem dX8_viewFrom_10 : decode cX8_viewFrom 10 = .ok (.lconst 1, 1) := by decide +kernel
theorem dX8_viewFrom_11 : decode cX8_viewFrom 11 = .ok (.iload_n 1, 1) := by decide +kernel
theorem dX8_viewFrom_12 : decode cX8_viewFrom 12 = .ok (.lshl, 1) := by decide +kernel
theorem dX8_viewFrom_13 : decode cX8_viewFrom 13 = .ok (.lstore_n 3, 1) := by decide +kernel
theorem dX8_viewFrom_14 : decode cX8_viewFrom 14 = .ok (.iconst 0, 1) := by decide +kernel
theorem dX8_viewFrom_15 : decode cX8_viewFrom 15 = .ok (.istore 5, 2) := by decide +kernel
theorem dX8_viewFrom_17 : decode cX8_viewFrom 17 = .ok (.iload 5, 2) := by decide +kernel
theorem dX8_viewFrom_19 : decode cX8_viewFrom 19 = .ok (.iconst 4, 1) := by decide +kernel
theorem dX8_viewFrom_20 : decode cX8_viewFrom 20 = .ok (.if_icmp .ge 70, 3) := by decide +kernel
theorem dX8_viewFrom_23 : decode cX8_viewFrom 23 = .ok (.aload_n 0, 1) := by decide +kernel
theorem dX8_viewFrom_24 : decode cX8_viewFrom 24 = .ok (.iload_n 1, 1) := by decide +kernel
theorem dX8_viewFrom_25 : decode cX8_viewFrom 25 = .ok (.iload 5, 2) := by decide +kernel
theorem dX8_viewFrom_27 : decode cX8_viewFrom 27 = .ok (.invokevirtual 52, 3) := by decide +kernel
theorem dX8_viewFrom_30 : decode cX8_viewFrom 30 = .ok (.istore 6, 2) := by decide +kernel
theorem dX8_viewFrom_32 : decode cX8_viewFrom 32 = .ok (.iconst 1, 1) := by decide +kernel
theorem dX8_viewFrom_33 : decode cX8_viewFrom 33 = .ok (.istore 7, 2) := by decide +kernel
theorem dX8_viewFrom_35 : decode cX8_viewFrom 35 = .ok (.iload 7, 2) := by decide +kernel
theorem dX8_viewFrom_37 : decode cX8_viewFrom 37 = .ok (.iload_n 2, 1) := by decide +kernel
theorem dX8_viewFrom_38 : decode cX8_viewFrom 38 = .ok (.if_icmp .gt 46, 3) := by decide +kernel
theorem dX8_viewFrom_41 : decode cX8_viewFrom 41 = .ok (.aload_n 0, 1) := by decide +kernel
theorem dX8_viewFrom_42 : decode cX8_viewFrom 42 = .ok (.iload 6, 2) := by decide +kernel
theorem dX8_viewFrom_44 : decode cX8_viewFrom 44 = .ok (.invokevirtual 48, 3) := by decide +kernel
theorem dX8_viewFrom_47 : decode cX8_viewFrom 47 = .ok (.ifCond .eq 37, 3) := by decide +kernel
theorem dX8_viewFrom_50 : decode cX8_viewFrom 50 = .ok (.aload_n 0, 1) := by decide +kernel
theorem dX8_viewFrom_51 : decode cX8_viewFrom 51 = .ok (.getfield 9, 3) := by decide +kernel
theorem dX8_viewFrom_54 : decode cX8_viewFrom 54 = .ok (.iload 6, 2) := by decide +kernel
theorem dX8_viewFrom_56 : decode cX8_viewFrom 56 = .ok (.iaload, 1) := by decide +kernel
theorem dX8_viewFrom_57 : decode cX8_viewFrom 57 = .ok (.iconst 1, 1) := by decide +kernel
theorem dX8_viewFrom_58 : decode cX8_viewFrom 58 = .ok (.if_icmp .eq 26, 3) := by decide +kernel
theorem dX8_viewFrom_61 : decode cX8_viewFrom 61 = .ok (.lload_n 3, 1) := by decide +kernel
theorem dX8_viewFrom_62 : decode cX8_viewFrom 62 = .ok (.lconst 1, 1) := by decide +kernel
theorem dX8_viewFrom_63 : decode cX8_viewFrom 63 = .ok (.iload 6, 2) := by decide +kernel
theorem dX8_viewFrom_65 : decode cX8_viewFrom 65 = .ok (.lshl, 1) := by decide +kernel
theorem dX8_viewFrom_66 : decode cX8_viewFrom 66 = .ok (.lor, 1) := by decide +kernel
theorem dX8_viewFrom_67 : decode cX8_viewFrom 67 = .ok (.lstore_n 3, 1) := by decide +kernel
theorem dX8_viewFrom_68 : decode cX8_viewFrom 68 = .ok (.aload_n 0, 1) := by decide +kernel
theorem dX8_viewFrom_69 : decode cX8_viewFrom 69 = .ok (.iload 6, 2) := by decide +kernel
theorem dX8_viewFrom_71 : decode cX8_viewFrom 71 = .ok (.iload 5, 2) := by decide +kernel
theorem dX8_viewFrom_73 : decode cX8_viewFrom 73 = .ok (.invokevirtual 52, 3) := by decide +kernel
theorem dX8_viewFrom_76 : decode cX8_viewFrom 76 = .ok (.istore 6, 2) := by decide +kernel
theorem dX8_viewFrom_78 : decode cX8_viewFrom 78 = .ok (.iinc 7 1, 3) := by decide +kernel
theorem dX8_viewFrom_81 : decode cX8_viewFrom 81 = .ok (.goto (-46), 3) := by decide +kernel
theorem dX8_viewFrom_84 : decode cX8_viewFrom 84 = .ok (.iinc 5 1, 3) := by decide +kernel
theorem dX8_viewFrom_87 : decode cX8_viewFrom 87 = .ok (.goto (-70), 3) := by decide +kernel
theorem dX8_viewFrom_90 : decode cX8_viewFrom 90 = .ok (.lload_n 3, 1) := by decide +kernel
theorem dX8_viewFrom_91 : decode cX8_viewFrom 91 = .ok (.lreturn, 1) := by decide +kernel
set_option maxRecDepth 20000 in
theorem ggX8_isInView_X8_viewFrom : GoodIn wsX8_isInView wsX8_viewFrom := qw_e qk_X8_isInView qk_X8_viewFrom (by decide +kernel)
set_option maxRecDepth 20000 in
theorem gX8_isInView_X8_viewFrom : GoodIn wsX8_isInView (wsV RX8 56 RX8 yX8_viewFrom wsX8_viewFrom) := goodIn_app (qw_e qk_X8_isInView (QK_cons qw_179 (QK_cons qw_608 (QK_cons qw_609 (QK_cons qw_1010 QK_nil)))) (by decide +kernel)) ggX8_isInView_X8_viewFrom
theorem dX8_isInView_0 : decode cX8_isInView 0 = .ok (.aload_n 0, 1) := by decide +kernel
theorem dX8_isInView_1 : decode cX8_isInView 1 = .ok (.iload_n 1, 1) := by decide +kernel
theorem dX8_isInView_2 : decode cX8_isInView 2 = .ok (.iload_n 3, 1) := by decide +kernel
theorem dX8_isInView_3 : decode cX8_isInView 3 = .ok (.invokevirtual 56, 3) := by decide +kernel
theorem dX8_isInView_6 : decode cX8_isInView 6 = .ok (.iload_n 2, 1) := by decide +kernel
theorem dX8_isInView_7 : decode cX8_isInView 7 = .ok (.lushr, 1) := by decide +kernel
theorem dX8_isInView_8 : decode cX8_isInView 8 = .ok (.lconst 1, 1) := by decide +kernel
theorem dX8_isInView_9 : decode cX8_isInView 9 = .ok (.land, 1) := by decide +kernel
theorem dX8_isInView_10 : decode cX8_isInView 10 = .ok (.lconst 0, 1) := by decide +kernel
theorem dX8_isInView_11 : decode cX8_isInView 11 = .ok (.lcmp, 1) := by decide +kernel
theorem dX8_isInView_12 : decode cX8_isInView 12 = .ok (.ifCond .eq 7, 3) := by decide +kernel
theorem dX8_isInView_15 : decode cX8_isInView 15 = .ok (.iconst 1, 1) := by decide +kernel
theorem dX8_isInView_16 : decode cX8_isInView 16 = .ok (.goto 4, 3) := by decide +kernel
theorem dX8_isInView_19 : decode cX8_isInView 19 = .ok (.iconst 0, 1) := by decide +kernel
theorem dX8_isInView_20 : decode cX8_isInView 20 = .ok (.ireturn, 1) := by decide +kernel
set_option maxRecDepth 20000 in
theorem ggX9_init_X8_init : GoodIn wsX9_init wsX8_init := qw_e qk_X9_init qk_X8_init (by decide +kernel)
set_option maxRecDepth 20000 in
theorem gX9_init_X8_init_n24 : GoodIn wsX9_init (wsX8_init) := ggX9_init_X8_init
set_option maxRecDepth 20000 in
theorem ggX9_init_X4_init : GoodIn wsX9_init wsX4_init := qw_e qk_X9_init qk_X4_init (by decide +kernel)
set_option maxRecDepth 20000 in
theorem gX9_init_X4_init_n31 : GoodIn wsX9_init (wsX4_init) := ggX9_init_X4_init
set_option maxRecDepth 20000 in
theorem ggX9_init_X7_init : GoodIn wsX9_init wsX7_init := qw_e qk_X9_init qk_X7_init (by decide +kernel)
set_option maxRecDepth 20000 in
theorem gX9_init_X7_init_n38 : GoodIn wsX9_init (wsX7_init) := ggX9_init_X7_init
set_option maxRecDepth 20000 in
theorem ggX9_init_X1_init : GoodIn wsX9_init wsX1_init := qw_e qk_X9_init qk_X1_init (by decide +kernel)
set_option maxRecDepth 20000 in
theorem gX9_init_X1_init_n45 : GoodIn wsX9_init (wsX1_init) := ggX9_init_X1_init
set_option maxRecDepth 20000 in
theorem ggX9_init_X0_init : GoodIn wsX9_init wsX0_init := qw_e qk_X9_init qk_X0_init (by decide +kernel)
set_option maxRecDepth 20000 in
theorem gX9_init_X0_init_n58 : GoodIn wsX9_init (wsX0_init) := ggX9_init_X0_init
set_option maxRecDepth 20000 in
theorem ggX9_init_X2_init : GoodIn wsX9_init wsX2_init := qw_e qk_X9_init qk_X2_init (by decide +kernel)
set_option maxRecDepth 20000 in
theorem gX9_init_X2_init_n65 : GoodIn wsX9_init (wsX2_init) := ggX9_init_X2_init
set_option maxRecDepth 20000 in
theorem ggX9_init_X3_init : GoodIn wsX9_init wsX3_init := qw_e qk_X9_init qk_X3_init (by decide +kernel)
set_option maxRecDepth 20000 in
theorem gX9_init_X3_init_n81 : GoodIn wsX9_init (wsX3_init) := ggX9_init_X3_init
set_option maxRecDepth 20000 in
theorem ggX9_init_X6_init : GoodIn wsX9_init wsX6_init := qw_e qk_X9_init qk_X6_init (by decide +kernel)
set_option maxRecDepth 20000 in
theorem gX9_init_X6_init : GoodIn wsX9_init (wsX6_init) := ggX9_init_X6_init
set_option maxRecDepth 20000 in
theorem ggX9_init_X5_init : GoodIn wsX9_init wsX5_init := qw_e qk_X9_init qk_X5_init (by decide +kernel)
set_option maxRecDepth 20000 in
theorem gX9_init_X5_init_n106 : GoodIn wsX9_init (wsX5_init) := ggX9_init_X5_init
theorem dX9_init_0 : decode cX9_init 0 = .ok (.aload_n 0, 1) := by decide +kernel
theorem dX9_init_1 : decode cX9_init 1 = .ok (.invokespecial 3, 3) := by decide +kernel
theorem dX9_init_4 : decode cX9_init 4 = .ok (.aload_n 0, 1) := by decide +kernel
theorem dX9_init_5 : decode cX9_init 5 = .ok (.iconst 3, 1) := by decide +kernel
theorem dX9_init_6 : decode cX9_init 6 = .ok (.anewarray 9, 3) := by decide +kernel
theorem dX9_init_9 : decode cX9_init 9 = .ok (.putfield 11, 3) := by decide +kernel
theorem dX9_init_12 : decode cX9_init 12 = .ok (.aload_n 0, 1) := by decide +kernel
theorem dX9_init_13 : decode cX9_init 13 = .ok (.iconst 3, 1) := by decide +kernel
theorem dX9_init_14 : decode cX9_init 14 = .ok (.newarray .int, 2) := by decide +kernel
theorem dX9_init_16 : decode cX9_init 16 = .ok (.dup, 1) := by decide +kernel
theorem dX9_init_17 : decode cX9_init 17 = .ok (.iconst 0, 1) := by decide +kernel
theorem dX9_init_18 : decode cX9_init 18 = .ok (.iconst (-1), 1) := by decide +kernel
theorem dX9_init_19 : decode cX9_init 19 = .ok (.iastore, 1) := by decide +kernel
theorem dX9_init_20 : decode cX9_init 20 = .ok (.dup, 1) := by decide +kernel
theorem dX9_init_21 : decode cX9_init 21 = .ok (.iconst 1, 1) := by decide +kernel
theorem dX9_init_22 : decode cX9_init 22 = .ok (.iconst (-1), 1) := by decide +kernel
theorem dX9_init_23 : decode cX9_init 23 = .ok (.iastore, 1) := by decide +kernel
theorem dX9_init_24 : decode cX9_init 24 = .ok (.dup, 1) := by decide +kernel
theorem dX9_init_25 : decode cX9_init 25 = .ok (.iconst 2, 1) := by decide +kernel
theorem dX9_init_26 : decode cX9_init 26 = .ok (.iconst (-1), 1) := by decide +kernel
theorem dX9_init_27 : decode cX9_init 27 = .ok (.iastore, 1) := by decide +kernel
theorem dX9_init_28 : decode cX9_init 28 = .ok (.putfield 15, 3) := by decide +kernel
theorem dX9_init_31 : decode cX9_init 31 = .ok (.aload_n 0, 1) := by decide +kernel
theorem dX9_init_32 : decode cX9_init 32 = .ok (.iconst 4, 1) := by decide +kernel
theorem dX9_init_33 : decode cX9_init 33 = .ok (.newarray .int, 2) := by decide +kernel
theorem dX9_init_35 : decode cX9_init 35 = .ok (.dup, 1) := by decide +kernel
theorem dX9_init_36 : decode cX9_init 36 = .ok (.iconst 0, 1) := by decide +kernel
theorem dX9_init_37 : decode cX9_init 37 = .ok (.iconst 0, 1) := by decide +kernel
theorem dX9_init_38 : decode cX9_init 38 = .ok (.iastore, 1) := by decide +kernel
theorem dX9_init_39 : decode cX9_init 39 = .ok (.dup, 1) := by decide +kernel
theorem dX9_init_40 : decode cX9_init 40 = .ok (.iconst 1, 1) := by decide +kernel
theorem dX9_init_41 : decode cX9_init 41 = .ok (.iconst 5, 1) := by decide +kernel
theorem dX9_init_42 : decode cX9_init 42 = .ok (.iastore, 1) := by decide +kernel
theorem dX9_init_43 : decode cX9_init 43 = .ok (.dup, 1) := by decide +kernel
theorem dX9_init_44 : decode cX9_init 44 = .ok (.iconst 2, 1) := by decide +kernel
theorem dX9_init_45 : decode cX9_init 45 = .ok (.iconst 3, 1) := by decide +kernel
theorem dX9_init_46 : decode cX9_init 46 = .ok (.iastore, 1) := by decide +kernel
theorem dX9_init_47 : decode cX9_init 47 = .ok (.dup, 1) := by decide +kernel
theorem dX9_init_48 : decode cX9_init 48 = .ok (.iconst 3, 1) := by decide +kernel
theorem dX9_init_49 : decode cX9_init 49 = .ok (.iconst 0, 1) := by decide +kernel
theorem dX9_init_50 : decode cX9_init 50 = .ok (.iastore, 1) := by decide +kernel
theorem dX9_init_51 : decode cX9_init 51 = .ok (.putfield 19, 3) := by decide +kernel
theorem dX9_init_54 : decode cX9_init 54 = .ok (.aload_n 0, 1) := by decide +kernel
theorem dX9_init_55 : decode cX9_init 55 = .ok (.new 22, 3) := by decide +kernel
theorem dX9_init_58 : decode cX9_init 58 = .ok (.dup, 1) := by decide +kernel
theorem dX9_init_59 : decode cX9_init 59 = .ok (.invokespecial 24, 3) := by decide +kernel
theorem dX9_init_62 : decode cX9_init 62 = .ok (.putfield 25, 3) := by decide +kernel
theorem dX9_init_65 : decode cX9_init 65 = .ok (.aload_n 0, 1) := by decide +kernel
theorem dX9_init_66 : decode cX9_init 66 = .ok (.new 29, 3) := by decide +kernel
theorem dX9_init_69 : decode cX9_init 69 = .ok (.dup, 1) := by decide +kernel
theorem dX9_init_70 : decode cX9_init 70 = .ok (.invokespecial 31, 3) := by decide +kernel
theorem dX9_init_73 : decode cX9_init 73 = .ok (.putfield 32, 3) := by decide +kernel
theorem dX9_init_76 : decode cX9_init 76 = .ok (.aload_n 0, 1) := by decide +kernel
theorem dX9_init_77 : decode cX9_init 77 = .ok (.new 36, 3) := by decide +kernel
theorem dX9_init_80 : decode cX9_init 80 = .ok (.dup, 1) := by decide +kernel
theorem dX9_init_81 : decode cX9_init 81 = .ok (.invokespecial 38, 3) := by decide +kernel
theorem dX9_init_84 : decode cX9_init 84 = .ok (.putfield 39, 3) := by decide +kernel
theorem dX9_init_87 : decode cX9_init 87 = .ok (.aload_n 0, 1) := by decide +kernel
theorem dX9_init_88 : decode cX9_init 88 = .ok (.new 43, 3) := by decide +kernel
theorem dX9_init_91 : decode cX9_init 91 = .ok (.dup, 1) := by decide +kernel
theorem dX9_init_92 : decode cX9_init 92 = .ok (.invokespecial 45, 3) := by decide +kernel
theorem dX9_init_95 : decode cX9_init 95 = .ok (.putfield 46, 3) := by decide +kernel
theorem dX9_init_98 : decode cX9_init 98 = .ok (.aload_n 0, 1) := by decide +kernel
theorem dX9_init_99 : decode cX9_init 99 = .ok (.iconst 4, 1) := by decide +kernel
theorem dX9_init_100 : decode cX9_init 100 = .ok (.anewarray 50, 3) := by decide +kernel
theorem dX9_init_103 : decode cX9_init 103 = .ok (.putfield 52, 3) := by decide +kernel
theorem dX9_init_106 : decode cX9_init 106 = .ok (.aload_n 0, 1) := by decide +kernel
theorem dX9_init_107 : decode cX9_init 107 = .ok (.new 56, 3) := by decide +kernel
theorem dX9_init_110 : decode cX9_init 110 = .ok (.dup, 1) := by decide +kernel
theorem dX9_init_111 : decode cX9_init 111 = .ok (.invokespecial 58, 3) := by decide +kernel
theorem dX9_init_114 : decode cX9_init 114 = .ok (.putfield 59, 3) := by decide +kernel
theorem dX9_init_117 : decode cX9_init 117 = .ok (.aload_n 0, 1) := by decide +kernel
theorem dX9_init_118 : decode cX9_init 118 = .ok (.new 63, 3) := by decide +kernel
theorem dX9_init_121 : decode cX9_init 121 = .ok (.dup, 1) := by decide +kernel
theorem dX9_init_122 : decode cX9_init 122 = .ok (.invokespecial 65, 3) := by decide +kernel
theorem dX9_init_125 : decode cX9_init 125 = .ok (.putfield 66, 3) := by decide +kernel
theorem dX9_init_128 : decode cX9_init 128 = .ok (.aload_n 0, 1) := by decide +kernel
theorem dX9_init_129 : decode cX9_init 129 = .ok (.new 29, 3) := by decide +kernel
theorem dX9_init_132 : decode cX9_init 132 = .ok (.dup, 1) := by decide +kernel
theorem dX9_init_133 : decode cX9_init 133 = .ok (.invokespecial 31, 3) := by decide +kernel
theorem dX9_init_136 : decode cX9_init 136 = .ok (.putfield 70, 3) := by decide +kernel
theorem dX9_init_139 : decode cX9_init 139 = .ok (.aload_n 0, 1) := by decide +kernel
theorem dX9_init_140 : decode cX9_init 140 = .ok (.new 56, 3) := by decide +kernel
theorem dX9_init_143 : decode cX9_init 143 = .ok (.dup, 1) := by decide +kernel
theorem dX9_init_144 : decode cX9_init 144 = .ok (.invokespecial 58, 3) := by decide +kernel
theorem dX9_init_147 : decode cX9_init 147 = .ok (.putfield 73, 3) := by decide +kernel
theorem dX9_init_150 : decode cX9_init 150 = .ok (.aload_n 0, 1) := by decide +kernel
theorem dX9_init_151 : decode cX9_init 151 = .ok (.new 63, 3) := by decide +kernel
theorem dX9_init_154 : decode cX9_init 154 = .ok (.dup, 1) := by decide +kernel
theorem dX9_init_155 : decode cX9_init 155 = .ok (.invokespecial 65, 3) := by decide +kernel
theorem dX9_init_158 : decode cX9_init 158 = .ok (.putfield 76, 3) := by decide +kernel
theorem dX9_init_161 : decode cX9_init 161 = .ok (.aload_n 0, 1) := by decide +kernel
theorem dX9_init_162 : decode cX9_init 162 = .ok (.new 79, 3) := by decide +kernel
theorem dX9_init_165 : decode cX9_init 165 = .ok (.dup, 1) := by decide +kernel
theorem dX9_init_166 : decode cX9_init 166 = .ok (.invokespecial 81, 3) := by decide +kernel
theorem dX9_init_169 : decode cX9_init 169 = .ok (.putfield 82, 3) := by decide +kernel
theorem dX9_init_172 : decode cX9_init 172 = .ok (.aload_n 0, 1) := by decide +kernel
theorem dX9_init_173 : decode cX9_init 173 = .ok (.bipush 36, 2) := by decide +kernel
theorem dX9_init_175 : decode cX9_init 175 = .ok (.newarray .int, 2) := by decide +kernel
theorem dX9_init_177 : decode cX9_init 177 = .ok (.putfield 86, 3) := by decide +kernel
theorem dX9_init_180 : decode cX9_init 180 = .ok (.aload_n 0, 1) := by decide +kernel
theorem dX9_init_181 : decode cX9_init 181 = .ok (.iconst 0, 1) := by decide +kernel
theorem dX9_init_182 : decode cX9_init 182 = .ok (.putfield 89, 3) := by decide +kernel
theorem dX9_init_185 : decode cX9_init 185 = .ok (.aload_n 0, 1) := by decide +kernel
theorem dX9_init_186 : decode cX9_init 186 = .ok (.iconst 1, 1) := by decide +kernel
theorem dX9_init_187 : decode cX9_init 187 = .ok (.putfield 93, 3) := by decide +kernel
theorem dX9_init_190 : decode cX9_init 190 = .ok (.aload_n 0, 1) := by decide +kernel
theorem dX9_init_191 : decode cX9_init 191 = .ok (.iconst (-1), 1) := by decide +kernel
theorem dX9_init_192 : decode cX9_init 192 = .ok (.putfield 97, 3) := by decide +kernel
theorem dX9_init_195 : decode cX9_init 195 = .ok (.iconst 0, 1) := by decide +kernel
theorem dX9_init_196 : decode cX9_init 196 = .ok (.istore_n 1, 1) := by decide +kernel
theorem dX9_init_197 : decode cX9_init 197 = .ok (.iload_n 1, 1) := by decide +kernel
theorem dX9_init_198 : decode cX9_init 198 = .ok (.aload_n 0, 1) := by decide +kernel
theorem dX9_init_199 : decode cX9_init 199 = .ok (.getfield 11, 3) := by decide +kernel
theorem dX9_init_202 : decode cX9_init 202 = .ok (.arraylength, 1) := by decide +kernel
theorem dX9_init_203 : decode cX9_init 203 = .ok (.if_icmp .ge 27, 3) := by decide +kernel
theorem dX9_init_206 : decode cX9_init 206 = .ok (.aload_n 0, 1) := by decide +kernel
theorem dX9_init_207 : decode cX9_init 207 = .ok (.getfield 11, 3) := by decide +kernel
theorem dX9_init_210 : decode cX9_init 210 = .ok (.iload_n 1, 1) := by decide +kernel
theorem dX9_init_211 : decode cX9_init 211 = .ok (.new 9, 3) := by decide +kernel
theorem dX9_init_214 : decode cX9_init 214 = .ok (.dup, 1) := by decide +kernel
theorem dX9_init_215 : decode cX9_init 215 = .ok (.getstatic 100, 3) := by decide +kernel
theorem dX9_init_218 : decode cX9_init 218 = .ok (.iload_n 1, 1) := by decide +kernel
theorem dX9_init_219 : decode cX9_init 219 = .ok (.iaload, 1) := by decide +kernel
theorem dX9_init_220 : decode cX9_init 220 = .ok (.invokespecial 103, 3) := by decide +kernel
theorem dX9_init_223 : decode cX9_init 223 = .ok (.aastore, 1) := by decide +kernel
theorem dX9_init_224 : decode cX9_init 224 = .ok (.iinc 1 1, 3) := by decide +kernel
theorem dX9_init_227 : decode cX9_init 227 = .ok (.goto (-30), 3) := by decide +kernel
theorem dX9_init_230 : decode cX9_init 230 = .ok (.iconst 0, 1) := by decide +kernel
theorem dX9_init_231 : decode cX9_init 231 = .ok (.istore_n 1, 1) := by decide +kernel
theorem dX9_init_232 : decode cX9_init 232 = .ok (.iload_n 1, 1) := by decide +kernel
theorem dX9_init_233 : decode cX9_init 233 = .ok (.aload_n 0, 1) := by decide +kernel
theorem dX9_init_234 : decode cX9_init 234 = .ok (.getfield 52, 3) := by decide +kernel
theorem dX9_init_237 : decode cX9_init 237 = .ok (.arraylength, 1) := by decide +kernel
theorem dX9_init_238 : decode cX9_init 238 = .ok (.if_icmp .ge 22, 3) := by decide +kernel
theorem dX9_init_241 : decode cX9_init 241 = .ok (.aload_n 0, 1) := by decide +kernel
theorem dX9_init_242 : decode cX9_init 242 = .ok (.getfield 52, 3) := by decide +kernel
theorem dX9_init_245 : decode cX9_init 245 = .ok (.iload_n 1, 1) := by decide +kernel
