theorem dX10_lose_11 : decode cX10_lose 11 = .ok (.getfield 56, 3) := by decide +kernel
theorem dX10_lose_14 : decode cX10_lose 14 = .ok (.iload_n 1, 1) := by decide +kernel
theorem dX10_lose_15 : decode cX10_lose 15 = .ok (.baload, 1) := by decide +kernel
theorem dX10_lose_16 : decode cX10_lose 16 = .ok (.ifCond .ne 9, 3) := by decide +kernel
theorem dX10_lose_19 : decode cX10_lose 19 = .ok (.aload_n 0, 1) := by decide +kernel
theorem dX10_lose_20 : decode cX10_lose 20 = .ok (.iconst 1, 1) := by decide +kernel
theorem dX10_lose_21 : decode cX10_lose 21 = .ok (.invokevirtual 247, 3) := by decide +kernel
theorem dX10_lose_24 : decode cX10_lose 24 = .ok (.ireturn, 1) := by decide +kernel
theorem dX10_lose_25 : decode cX10_lose 25 = .ok (.aload_n 0, 1) := by decide +kernel
theorem dX10_lose_26 : decode cX10_lose 26 = .ok (.getfield 56, 3) := by decide +kernel
theorem dX10_lose_29 : decode cX10_lose 29 = .ok (.iload_n 1, 1) := by decide +kernel
theorem dX10_lose_30 : decode cX10_lose 30 = .ok (.iconst 0, 1) := by decide +kernel
theorem dX10_lose_31 : decode cX10_lose 31 = .ok (.bastore, 1) := by decide +kernel
theorem dX10_lose_32 : decode cX10_lose 32 = .ok (.aload_n 0, 1) := by decide +kernel
theorem dX10_lose_33 : decode cX10_lose 33 = .ok (.getfield 62, 3) := by decide +kernel
theorem dX10_lose_36 : decode cX10_lose 36 = .ok (.iload_n 1, 1) := by decide +kernel
theorem dX10_lose_37 : decode cX10_lose 37 = .ok (.iaload, 1) := by decide +kernel
theorem dX10_lose_38 : decode cX10_lose 38 = .ok (.ireturn, 1) := by decide +kernel
set_option maxRecDepth 20000 in
theorem ggX10_lacks_X10_in : GoodIn wsX10_lacks wsX10_in := qw_e qk_X10_lacks qk_X10_in (by decide +kernel)
set_option maxRecDepth 20000 in
theorem gX10_lacks_X10_in : GoodIn wsX10_lacks (va_wsS RX10 80 yX10_in wsX10_in) := goodIn_app (qw_e qk_X10_lacks (QK_cons qw_779 (QK_cons qw_780 (QK_cons qw_996 QK_nil))) (by decide +kernel)) ggX10_lacks_X10_in
theorem dX10_lacks_0 : decode cX10_lacks 0 = .ok (.aload_n 0, 1) := by decide +kernel
theorem dX10_lacks_1 : decode cX10_lacks 1 = .ok (.getfield 56, 3) := by decide +kernel
theorem dX10_lacks_4 : decode cX10_lacks 4 = .ok (.iload_n 1, 1) := by decide +kernel
theorem dX10_lacks_5 : decode cX10_lacks 5 = .ok (.baload, 1) := by decide +kernel
theorem dX10_lacks_6 : decode cX10_lacks 6 = .ok (.ifCond .ne 7, 3) := by decide +kernel
theorem dX10_lacks_9 : decode cX10_lacks 9 = .ok (.iconst 1, 1) := by decide +kernel
theorem dX10_lacks_10 : decode cX10_lacks 10 = .ok (.goto 38, 3) := by decide +kernel
theorem dX10_lacks_13 : decode cX10_lacks 13 = .ok (.aload_n 0, 1) := by decide +kernel
theorem dX10_lacks_14 : decode cX10_lacks 14 = .ok (.getfield 59, 3) := by decide +kernel
theorem dX10_lacks_17 : decode cX10_lacks 17 = .ok (.iload_n 1, 1) := by decide +kernel
theorem dX10_lacks_18 : decode cX10_lacks 18 = .ok (.iaload, 1) := by decide +kernel
theorem dX10_lacks_19 : decode cX10_lacks 19 = .ok (.iload_n 2, 1) := by decide +kernel
theorem dX10_lacks_20 : decode cX10_lacks 20 = .ok (.if_icmp .eq 7, 3) := by decide +kernel
theorem dX10_lacks_23 : decode cX10_lacks 23 = .ok (.iconst 3, 1) := by decide +kernel
theorem dX10_lacks_24 : decode cX10_lacks 24 = .ok (.goto 24, 3) := by decide +kernel
theorem dX10_lacks_27 : decode cX10_lacks 27 = .ok (.iload_n 3, 1) := by decide +kernel
theorem dX10_lacks_28 : decode cX10_lacks 28 = .ok (.iconst 0, 1) := by decide +kernel
theorem dX10_lacks_29 : decode cX10_lacks 29 = .ok (.aload_n 0, 1) := by decide +kernel
theorem dX10_lacks_30 : decode cX10_lacks 30 = .ok (.getfield 62, 3) := by decide +kernel
theorem dX10_lacks_33 : decode cX10_lacks 33 = .ok (.iload_n 1, 1) := by decide +kernel
theorem dX10_lacks_34 : decode cX10_lacks 34 = .ok (.iaload, 1) := by decide +kernel
theorem dX10_lacks_35 : decode cX10_lacks 35 = .ok (.iconst 1, 1) := by decide +kernel
theorem dX10_lacks_36 : decode cX10_lacks 36 = .ok (.isub, 1) := by decide +kernel
theorem dX10_lacks_37 : decode cX10_lacks 37 = .ok (.invokestatic 80, 3) := by decide +kernel
theorem dX10_lacks_40 : decode cX10_lacks 40 = .ok (.ifCond .eq 7, 3) := by decide +kernel
theorem dX10_lacks_43 : decode cX10_lacks 43 = .ok (.iconst 0, 1) := by decide +kernel
theorem dX10_lacks_44 : decode cX10_lacks 44 = .ok (.goto 4, 3) := by decide +kernel
theorem dX10_lacks_47 : decode cX10_lacks 47 = .ok (.iconst 2, 1) := by decide +kernel
theorem dX10_lacks_48 : decode cX10_lacks 48 = .ok (.ireturn, 1) := by decide +kernel
theorem dX10_keep_0 : decode cX10_keep 0 = .ok (.aload_n 0, 1) := by decide +kernel
theorem dX10_keep_1 : decode cX10_keep 1 = .ok (.getfield 65, 3) := by decide +kernel
theorem dX10_keep_4 : decode cX10_keep 4 = .ok (.bipush 60, 2) := by decide +kernel
theorem dX10_keep_6 : decode cX10_keep 6 = .ok (.iload_n 1, 1) := by decide +kernel
theorem dX10_keep_7 : decode cX10_keep 7 = .ok (.imul, 1) := by decide +kernel
theorem dX10_keep_8 : decode cX10_keep 8 = .ok (.iload_n 2, 1) := by decide +kernel
theorem dX10_keep_9 : decode cX10_keep 9 = .ok (.iadd, 1) := by decide +kernel
theorem dX10_keep_10 : decode cX10_keep 10 = .ok (.aload_n 0, 1) := by decide +kernel
theorem dX10_keep_11 : decode cX10_keep 11 = .ok (.getfield 59, 3) := by decide +kernel
theorem dX10_keep_14 : decode cX10_keep 14 = .ok (.iload_n 1, 1) := by decide +kernel
theorem dX10_keep_15 : decode cX10_keep 15 = .ok (.iaload, 1) := by decide +kernel
theorem dX10_keep_16 : decode cX10_keep 16 = .ok (.ifCond .ne 8, 3) := by decide +kernel
theorem dX10_keep_19 : decode cX10_keep 19 = .ok (.iload_n 3, 1) := by decide +kernel
theorem dX10_keep_20 : decode cX10_keep 20 = .ok (.i2b, 1) := by decide +kernel
theorem dX10_keep_21 : decode cX10_keep 21 = .ok (.goto 19, 3) := by decide +kernel
theorem dX10_keep_24 : decode cX10_keep 24 = .ok (.aload_n 0, 1) := by decide +kernel
theorem dX10_keep_25 : decode cX10_keep 25 = .ok (.getfield 59, 3) := by decide +kernel
theorem dX10_keep_28 : decode cX10_keep 28 = .ok (.iload_n 1, 1) := by decide +kernel
theorem dX10_keep_29 : decode cX10_keep 29 = .ok (.iaload, 1) := by decide +kernel
theorem dX10_keep_30 : decode cX10_keep 30 = .ok (.iconst 1, 1) := by decide +kernel
theorem dX10_keep_31 : decode cX10_keep 31 = .ok (.if_icmp .ne 8, 3) := by decide +kernel
theorem dX10_keep_34 : decode cX10_keep 34 = .ok (.iload_n 3, 1) := by decide +kernel
theorem dX10_keep_35 : decode cX10_keep 35 = .ok (.i2s, 1) := by decide +kernel
theorem dX10_keep_36 : decode cX10_keep 36 = .ok (.goto 4, 3) := by decide +kernel
theorem dX10_keep_39 : decode cX10_keep 39 = .ok (.iload_n 3, 1) := by decide +kernel
theorem dX10_keep_40 : decode cX10_keep 40 = .ok (.iastore, 1) := by decide +kernel
theorem dX10_keep_41 : decode cX10_keep 41 = .ok (.return_, 1) := by decide +kernel
set_option maxRecDepth 20000 in
theorem ggX10_put_X10_isSheet : GoodIn wsX10_put wsX10_isSheet := qw_e qk_X10_put qk_X10_isSheet (by decide +kernel)
set_option maxRecDepth 20000 in
theorem gX10_put_X10_isSheet : GoodIn wsX10_put (va_wsS RX10 244 yX10_isSheet wsX10_isSheet) := goodIn_app (qw_e qk_X10_put (QK_cons qw_312 (QK_cons qw_313 (QK_cons qw_996 QK_nil))) (by decide +kernel)) ggX10_put_X10_isSheet
set_option maxRecDepth 20000 in
theorem ggX10_put_X10_in : GoodIn wsX10_put wsX10_in := qw_e qk_X10_put qk_X10_in (by decide +kernel)
set_option maxRecDepth 20000 in
theorem gX10_put_X10_in : GoodIn wsX10_put (va_wsS RX10 80 yX10_in wsX10_in) := goodIn_app (qw_e qk_X10_put (QK_cons qw_779 (QK_cons qw_780 (QK_cons qw_996 QK_nil))) (by decide +kernel)) ggX10_put_X10_in
set_option maxRecDepth 20000 in
theorem ggX10_put_X10_lacks : GoodIn wsX10_put wsX10_lacks := qw_e qk_X10_put qk_X10_lacks (by decide +kernel)
set_option maxRecDepth 20000 in
theorem gX10_put_X10_lacks : GoodIn wsX10_put (wsV RX10 286 RX10 yX10_lacks wsX10_lacks) := goodIn_app (qw_e qk_X10_put (QK_cons qw_123 (QK_cons qw_124 (QK_cons qw_125 (QK_cons qw_996 QK_nil)))) (by decide +kernel)) ggX10_put_X10_lacks
set_option maxRecDepth 20000 in
theorem ggX10_put_X10_meets : GoodIn wsX10_put wsX10_meets := qw_e qk_X10_put qk_X10_meets (by decide +kernel)
set_option maxRecDepth 20000 in
theorem gX10_put_X10_meets : GoodIn wsX10_put (wsV RX10 247 RX10 yX10_meets wsX10_meets) := goodIn_app (qw_e qk_X10_put (QK_cons qw_315 (QK_cons qw_316 (QK_cons qw_317 (QK_cons qw_996 QK_nil)))) (by decide +kernel)) ggX10_put_X10_meets
set_option maxRecDepth 20000 in
theorem ggX10_put_X10_keep : GoodIn wsX10_put wsX10_keep := qw_e qk_X10_put qk_X10_keep (by decide +kernel)
set_option maxRecDepth 20000 in
theorem gX10_put_X10_keep : GoodIn wsX10_put (wsV RX10 289 RX10 yX10_keep wsX10_keep) := goodIn_app (qw_e qk_X10_put (QK_cons qw_79 (QK_cons qw_80 (QK_cons qw_81 (QK_cons qw_996 QK_nil)))) (by decide +kernel)) ggX10_put_X10_keep
theorem dX10_put_0 : decode cX10_put 0 = .ok (.iload_n 1, 1) := by decide +kernel
theorem dX10_put_1 : decode cX10_put 1 = .ok (.invokestatic 244, 3) := by decide +kernel
theorem dX10_put_4 : decode cX10_put 4 = .ok (.ifCond .eq 12, 3) := by decide +kernel
theorem dX10_put_7 : decode cX10_put 7 = .ok (.iload_n 2, 1) := by decide +kernel
theorem dX10_put_8 : decode cX10_put 8 = .ok (.iconst 0, 1) := by decide +kernel
theorem dX10_put_9 : decode cX10_put 9 = .ok (.iconst 2, 1) := by decide +kernel
theorem dX10_put_10 : decode cX10_put 10 = .ok (.invokestatic 80, 3) := by decide +kernel
theorem dX10_put_13 : decode cX10_put 13 = .ok (.ifCond .ne 6, 3) := by decide +kernel
theorem dX10_put_16 : decode cX10_put 16 = .ok (.bipush (-2), 2) := by decide +kernel
theorem dX10_put_18 : decode cX10_put 18 = .ok (.ireturn, 1) := by decide +kernel
theorem dX10_put_19 : decode cX10_put 19 = .ok (.aload_n 0, 1) := by decide +kernel
theorem dX10_put_20 : decode cX10_put 20 = .ok (.iload_n 1, 1) := by decide +kernel
theorem dX10_put_21 : decode cX10_put 21 = .ok (.iload_n 2, 1) := by decide +kernel
theorem dX10_put_22 : decode cX10_put 22 = .ok (.iload_n 3, 1) := by decide +kernel
theorem dX10_put_23 : decode cX10_put 23 = .ok (.invokevirtual 286, 3) := by decide +kernel
theorem dX10_put_26 : decode cX10_put 26 = .ok (.istore 5, 2) := by decide +kernel
theorem dX10_put_28 : decode cX10_put 28 = .ok (.iload 5, 2) := by decide +kernel
theorem dX10_put_30 : decode cX10_put 30 = .ok (.ifCond .le 10, 3) := by decide +kernel
theorem dX10_put_33 : decode cX10_put 33 = .ok (.aload_n 0, 1) := by decide +kernel
theorem dX10_put_34 : decode cX10_put 34 = .ok (.iload 5, 2) := by decide +kernel
theorem dX10_put_36 : decode cX10_put 36 = .ok (.invokevirtual 247, 3) := by decide +kernel
theorem dX10_put_39 : decode cX10_put 39 = .ok (.ireturn, 1) := by decide +kernel
theorem dX10_put_40 : decode cX10_put 40 = .ok (.aload_n 0, 1) := by decide +kernel
theorem dX10_put_41 : decode cX10_put 41 = .ok (.iload_n 1, 1) := by decide +kernel
theorem dX10_put_42 : decode cX10_put 42 = .ok (.iload_n 3, 1) := by decide +kernel
theorem dX10_put_43 : decode cX10_put 43 = .ok (.iload 4, 2) := by decide +kernel
theorem dX10_put_45 : decode cX10_put 45 = .ok (.invokevirtual 289, 3) := by decide +kernel
theorem dX10_put_48 : decode cX10_put 48 = .ok (.iconst 1, 1) := by decide +kernel
theorem dX10_put_49 : decode cX10_put 49 = .ok (.ireturn, 1) := by decide +kernel
set_option maxRecDepth 20000 in
theorem ggX10_get_X10_isSheet : GoodIn wsX10_get wsX10_isSheet := qw_e qk_X10_get qk_X10_isSheet (by decide +kernel)
set_option maxRecDepth 20000 in
theorem gX10_get_X10_isSheet : GoodIn wsX10_get (va_wsS RX10 244 yX10_isSheet wsX10_isSheet) := goodIn_app (qw_e qk_X10_get (QK_cons qw_312 (QK_cons qw_313 (QK_cons qw_996 QK_nil))) (by decide +kernel)) ggX10_get_X10_isSheet
set_option maxRecDepth 20000 in
theorem ggX10_get_X10_in : GoodIn wsX10_get wsX10_in := qw_e qk_X10_get qk_X10_in (by decide +kernel)
set_option maxRecDepth 20000 in
theorem gX10_get_X10_in : GoodIn wsX10_get (va_wsS RX10 80 yX10_in wsX10_in) := goodIn_app (qw_e qk_X10_get (QK_cons qw_779 (QK_cons qw_780 (QK_cons qw_996 QK_nil))) (by decide +kernel)) ggX10_get_X10_in
set_option maxRecDepth 20000 in
theorem ggX10_get_X10_lacks : GoodIn wsX10_get wsX10_lacks := qw_e qk_X10_get qk_X10_lacks (by decide +kernel)
set_option maxRecDepth 20000 in
theorem gX10_get_X10_lacks : GoodIn wsX10_get (wsV RX10 286 RX10 yX10_lacks wsX10_lacks) := goodIn_app (qw_e qk_X10_get (QK_cons qw_123 (QK_cons qw_124 (QK_cons qw_125 (QK_cons qw_996 QK_nil)))) (by decide +kernel)) ggX10_get_X10_lacks
theorem dX10_get_0 : decode cX10_get 0 = .ok (.iload_n 1, 1) := by decide +kernel
theorem dX10_get_1 : decode cX10_get 1 = .ok (.invokestatic 244, 3) := by decide +kernel
theorem dX10_get_4 : decode cX10_get 4 = .ok (.ifCond .eq 12, 3) := by decide +kernel
theorem dX10_get_7 : decode cX10_get 7 = .ok (.iload_n 2, 1) := by decide +kernel
theorem dX10_get_8 : decode cX10_get 8 = .ok (.iconst 0, 1) := by decide +kernel
theorem dX10_get_9 : decode cX10_get 9 = .ok (.iconst 2, 1) := by decide +kernel
theorem dX10_get_10 : decode cX10_get 10 = .ok (.invokestatic 80, 3) := by decide +kernel
theorem dX10_get_13 : decode cX10_get 13 = .ok (.ifCond .ne 7, 3) := by decide +kernel
theorem dX10_get_16 : decode cX10_get 16 = .ok (.ldc_w 293, 3) := by decide +kernel
theorem dX10_get_19 : decode cX10_get 19 = .ok (.ireturn, 1) := by decide +kernel
theorem dX10_get_20 : decode cX10_get 20 = .ok (.aload_n 0, 1) := by decide +kernel
theorem dX10_get_21 : decode cX10_get 21 = .ok (.iload_n 1, 1) := by decide +kernel
theorem dX10_get_22 : decode cX10_get 22 = .ok (.iload_n 2, 1) := by decide +kernel
theorem dX10_get_23 : decode cX10_get 23 = .ok (.iload_n 3, 1) := by decide +kernel
theorem dX10_get_24 : decode cX10_get 24 = .ok (.invokevirtual 286, 3) := by decide +kernel
theorem dX10_get_27 : decode cX10_get 27 = .ok (.istore 4, 2) := by decide +kernel
theorem dX10_get_29 : decode cX10_get 29 = .ok (.iload 4, 2) := by decide +kernel
theorem dX10_get_31 : decode cX10_get 31 = .ok (.ifCond .le 13, 3) := by decide +kernel
theorem dX10_get_34 : decode cX10_get 34 = .ok (.aload_n 0, 1) := by decide +kernel
theorem dX10_get_35 : decode cX10_get 35 = .ok (.iload 4, 2) := by decide +kernel
theorem dX10_get_37 : decode cX10_get 37 = .ok (.putfield 283, 3) := by decide +kernel
theorem dX10_get_40 : decode cX10_get 40 = .ok (.ldc_w 293, 3) := by decide +kernel
theorem dX10_get_43 : decode cX10_get 43 = .ok (.ireturn, 1) := by decide +kernel
theorem dX10_get_44 : decode cX10_get 44 = .ok (.aload_n 0, 1) := by decide +kernel
theorem dX10_get_45 : decode cX10_get 45 = .ok (.getfield 65, 3) := by decide +kernel
theorem dX10_get_48 : decode cX10_get 48 = .ok (.bipush 60, 2) := by decide +kernel
theorem dX10_get_50 : decode cX10_get 50 = .ok (.iload_n 1, 1) := by decide +kernel
theorem dX10_get_51 : decode cX10_get 51 = .ok (.imul, 1) := by decide +kernel
theorem dX10_get_52 : decode cX10_get 52 = .ok (.iload_n 3, 1) := by decide +kernel
theorem dX10_get_53 : decode cX10_get 53 = .ok (.iadd, 1) := by decide +kernel
theorem dX10_get_54 : decode cX10_get 54 = .ok (.iaload, 1) := by decide +kernel
theorem dX10_get_55 : decode cX10_get 55 = .ok (.ireturn, 1) := by decide +kernel
set_option maxRecDepth 20000 in
theorem ggX10_copy_X10_isSheet : GoodIn wsX10_copy wsX10_isSheet := qw_e qk_X10_copy qk_X10_isSheet (by decide +kernel)
set_option maxRecDepth 20000 in
theorem gX10_copy_X10_isSheet : GoodIn wsX10_copy (va_wsS RX10 244 yX10_isSheet wsX10_isSheet) := goodIn_app (qw_e qk_X10_copy (QK_cons qw_312 (QK_cons qw_313 (QK_cons qw_996 QK_nil))) (by decide +kernel)) ggX10_copy_X10_isSheet
set_option maxRecDepth 20000 in
theorem ggX10_copy_X10_meets : GoodIn wsX10_copy wsX10_meets := qw_e qk_X10_copy qk_X10_meets (by decide +kernel)
set_option maxRecDepth 20000 in
theorem gX10_copy_X10_meets : GoodIn wsX10_copy (wsV RX10 247 RX10 yX10_meets wsX10_meets) := goodIn_app (qw_e qk_X10_copy (QK_cons qw_315 (QK_cons qw_316 (QK_cons qw_317 (QK_cons qw_996 QK_nil)))) (by decide +kernel)) ggX10_copy_X10_meets
theorem dX10_copy_0 : decode cX10_copy 0 = .ok (.iload_n 1, 1) := by decide +kernel
theorem dX10_copy_1 : decode cX10_copy 1 = .ok (.invokestatic 244, 3) := by decide +kernel
theorem dX10_copy_4 : decode cX10_copy 4 = .ok (.ifCond .eq 10, 3) := by decide +kernel
theorem dX10_copy_7 : decode cX10_copy 7 = .ok (.iload_n 3, 1) := by decide +kernel
theorem dX10_copy_8 : decode cX10_copy 8 = .ok (.invokestatic 244, 3) := by decide +kernel
theorem dX10_copy_11 : decode cX10_copy 11 = .ok (.ifCond .ne 6, 3) := by decide +kernel
theorem dX10_copy_14 : decode cX10_copy 14 = .ok (.bipush (-2), 2) := by decide +kernel
theorem dX10_copy_16 : decode cX10_copy 16 = .ok (.ireturn, 1) := by decide +kernel
theorem dX10_copy_17 : decode cX10_copy 17 = .ok (.aload_n 0, 1) := by decide +kernel
theorem dX10_copy_18 : decode cX10_copy 18 = .ok (.getfield 56, 3) := by decide +kernel
theorem dX10_copy_21 : decode cX10_copy 21 = .ok (.iload_n 1, 1) := by decide +kernel
theorem dX10_copy_22 : decode cX10_copy 22 = .ok (.baload, 1) := by decide +kernel
theorem dX10_copy_23 : decode cX10_copy 23 = .ok (.ifCond .eq 12, 3) := by decide +kernel
theorem dX10_copy_26 : decode cX10_copy 26 = .ok (.aload_n 0, 1) := by decide +kernel
theorem dX10_copy_27 : decode cX10_copy 27 = .ok (.getfield 56, 3) := by decide +kernel
theorem dX10_copy_30 : decode cX10_copy 30 = .ok (.iload_n 3, 1) := by decide +kernel
theorem dX10_copy_31 : decode cX10_copy 31 = .ok (.baload, 1) := by decide +kernel
theorem dX10_copy_32 : decode cX10_copy 32 = .ok (.ifCond .ne 9, 3) := by decide +kernel
theorem dX10_copy_35 : decode cX10_copy 35 = .ok (.aload_n 0, 1) := by decide +kernel
theorem dX10_copy_36 : decode cX10_copy 36 = .ok (.iconst 1, 1) := by decide +kernel
theorem dX10_copy_37 : decode cX10_copy 37 = .ok (.invokevirtual 247, 3) := by decide +kernel
theorem dX10_copy_40 : decode cX10_copy 40 = .ok (.ireturn, 1) := by decide +kernel
theorem dX10_copy_41 : decode cX10_copy 41 = .ok (.aload_n 0, 1) := by decide +kernel
theorem dX10_copy_42 : decode cX10_copy 42 = .ok (.getfield 59, 3) := by decide +kernel
theorem dX10_copy_45 : decode cX10_copy 45 = .ok (.iload_n 1, 1) := by decide +kernel
theorem dX10_copy_46 : decode cX10_copy 46 = .ok (.iaload, 1) := by decide +kernel
theorem dX10_copy_47 : decode cX10_copy 47 = .ok (.aload_n 0, 1) := by decide +kernel
theorem dX10_copy_48 : decode cX10_copy 48 = .ok (.getfield 59, 3) := by decide +kernel
theorem dX10_copy_51 : decode cX10_copy 51 = .ok (.iload_n 3, 1) := by decide +kernel
theorem dX10_copy_52 : decode cX10_copy 52 = .ok (.iaload, 1) := by decide +kernel
theorem dX10_copy_53 : decode cX10_copy 53 = .ok (.if_icmp .eq 9, 3) := by decide +kernel
theorem dX10_copy_56 : decode cX10_copy 56 = .ok (.aload_n 0, 1) := by decide +kernel
theorem dX10_copy_57 : decode cX10_copy 57 = .ok (.iconst 4, 1) := by decide +kernel
theorem dX10_copy_58 : decode cX10_copy 58 = .ok (.invokevirtual 247, 3) := by decide +kernel
theorem dX10_copy_61 : decode cX10_copy 61 = .ok (.ireturn, 1) := by decide +kernel
theorem dX10_copy_62 : decode cX10_copy 62 = .ok (.iload_n 2, 1) := by decide +kernel
theorem dX10_copy_63 : decode cX10_copy 63 = .ok (.ifCond .lt 48, 3) := by decide +kernel
theorem dX10_copy_66 : decode cX10_copy 66 = .ok (.iload 4, 2) := by decide +kernel
theorem dX10_copy_68 : decode cX10_copy 68 = .ok (.ifCond .lt 43, 3) := by decide +kernel
theorem dX10_copy_71 : decode cX10_copy 71 = .ok (.iload 5, 2) := by decide +kernel
theorem dX10_copy_73 : decode cX10_copy 73 = .ok (.ifCond .lt 38, 3) := by decide +kernel
theorem dX10_copy_76 : decode cX10_copy 76 = .ok (.iload_n 2, 1) := by decide +kernel
theorem dX10_copy_77 : decode cX10_copy 77 = .ok (.i2l, 1) := by decide +kernel
theorem dX10_copy_78 : decode cX10_copy 78 = .ok (.iload 5, 2) := by decide +kernel
theorem dX10_copy_80 : decode cX10_copy 80 = .ok (.i2l, 1) := by decide +kernel
theorem dX10_copy_81 : decode cX10_copy 81 = .ok (.ladd, 1) := by decide +kernel
theorem dX10_copy_82 : decode cX10_copy 82 = .ok (.aload_n 0, 1) := by decide +kernel
theorem dX10_copy_83 : decode cX10_copy 83 = .ok (.getfield 62, 3) := by decide +kernel
theorem dX10_copy_86 : decode cX10_copy 86 = .ok (.iload_n 1, 1) := by decide +kernel
theorem dX10_copy_87 : decode cX10_copy 87 = .ok (.iaload, 1) := by decide +kernel
theorem dX10_copy_88 : decode cX10_copy 88 = .ok (.i2l, 1) := by decide +kernel
theorem dX10_copy_89 : decode cX10_copy 89 = .ok (.lcmp, 1) := by decide +kernel
theorem dX10_copy_90 : decode cX10_copy 90 = .ok (.ifCond .gt 21, 3) := by decide +kernel
theorem dX10_copy_93 : decode cX10_copy 93 = .ok (.iload 4, 2) := by decide +kernel
theorem dX10_copy_95 : decode cX10_copy 95 = .ok (.i2l, 1) := by decide +kernel
theorem dX10_copy_96 : decode cX10_copy 96 = .ok (.iload 5, 2) := by decide +kernel
theorem dX10_copy_98 : decode cX10_copy 98 = .ok (.i2l, 1) := by decide +kernel
theorem dX10_copy_99 : decode cX10_copy 99 = .ok (.ladd, 1) := by decide +kernel
theorem dX10_copy_100 : decode cX10_copy 100 = .ok (.aload_n 0, 1) := by decide +kernel
theorem dX10_copy_101 : decode cX10_copy 101 = .ok (.getfield 62, 3) := by decide +kernel
theorem dX10_copy_104 : decode cX10_copy 104 = .ok (.iload_n 3, 1) := by decide +kernel
theorem dX10_copy_105 : decode cX10_copy 105 = .ok (.iaload, 1) := by decide +kernel
theorem dX10_copy_106 : decode cX10_copy 106 = .ok (.i2l, 1) := by decide +kernel
theorem dX10_copy_107 : decode cX10_copy 107 = .ok (.lcmp, 1) := by decide +kernel
theorem dX10_copy_108 : decode cX10_copy 108 = .ok (.ifCond .le 9, 3) := by decide +kernel
theorem dX10_copy_111 : decode cX10_copy 111 = .ok (.aload_n 0, 1) := by decide +kernel
theorem dX10_copy_112 : decode cX10_copy 112 = .ok (.iconst 2, 1) := by decide +kernel
theorem dX10_copy_113 : decode cX10_copy 113 = .ok (.invokevirtual 247, 3) := by decide +kernel
theorem dX10_copy_116 : decode cX10_copy 116 = .ok (.ireturn, 1) := by decide +kernel
theorem dX10_copy_117 : decode cX10_copy 117 = .ok (.iconst 0, 1) := by decide +kernel
theorem dX10_copy_118 : decode cX10_copy 118 = .ok (.istore 6, 2) := by decide +kernel
theorem dX10_copy_120 : decode cX10_copy 120 = .ok (.iload 6, 2) := by decide +kernel
theorem dX10_copy_122 : decode cX10_copy 122 = .ok (.iload 5, 2) := by decide +kernel
theorem dX10_copy_124 : decode cX10_copy 124 = .ok (.if_icmp .ge 30, 3) := by decide +kernel
theorem dX10_copy_127 : decode cX10_copy 127 = .ok (.aload_n 0, 1) := by decide +kernel
theorem dX10_copy_128 : decode cX10_copy 128 = .ok (.getfield 68, 3) := by decide +kernel
theorem dX10_copy_131 : decode cX10_copy 131 = .ok (.iload 6, 2) := by decide +kernel
theorem dX10_copy_133 : decode cX10_copy 133 = .ok (.aload_n 0, 1) := by decide +kernel
theorem dX10_copy_134 : decode cX10_copy 134 = .ok (.getfield 65, 3) := by decide +kernel
theorem dX10_copy_137 : decode cX10_copy 137 = .ok (.bipush 60, 2) := by decide +kernel
theorem dX10_copy_139 : decode cX10_copy 139 = .ok (.iload_n 1, 1) := by decide +kernel
theorem dX10_copy_140 : decode cX10_copy 140 = .ok (.imul, 1) := by decide +kernel
theorem dX10_copy_141 : decode cX10_copy 141 = .ok (.iload_n 2, 1) := by decide +kernel
theorem dX10_copy_142 : decode cX10_copy 142 = .ok (.iadd, 1) := by decide +kernel
theorem dX10_copy_143 : decode cX10_copy 143 = .ok (.iload 6, 2) := by decide +kernel
theorem dX10_copy_145 : decode cX10_copy 145 = .ok (.iadd, 1) := by decide +kernel
theorem dX10_copy_146 : decode cX10_copy 146 = .ok (.iaload, 1) := by decide +kernel
theorem dX10_copy_147 : decode cX10_copy 147 = .ok (.iastore, 1) := by decide +kernel
theorem dX10_copy_148 : decode cX10_copy 148 = .ok (.iinc 6 1, 3) := by decide +kernel
theorem dX10_copy_151 : decode cX10_copy 151 = .ok (.goto (-31), 3) := by decide +kernel
theorem dX10_copy_154 : decode cX10_copy 154 = .ok (.iconst 0, 1) := by decide +kernel
theorem dX10_copy_155 : decode cX10_copy 155 = .ok (.istore 6, 2) := by decide +kernel
theorem dX10_copy_157 : decode cX10_copy 157 = .ok (.iload 6, 2) := by decide +kernel
theorem dX10_copy_159 : decode cX10_copy 159 = .ok (.iload 5, 2) := by decide +kernel
theorem dX10_copy_161 : decode cX10_copy 161 = .ok (.if_icmp .ge 31, 3) := by decide +kernel
theorem dX10_copy_164 : decode cX10_copy 164 = .ok (.aload_n 0, 1) := by decide +kernel
theorem dX10_copy_165 : decode cX10_copy 165 = .ok (.getfield 65, 3) := by decide +kernel
theorem dX10_copy_168 : decode cX10_copy 168 = .ok (.bipush 60, 2) := by decide +kernel
theorem dX10_copy_170 : decode cX10_copy 170 = .ok (.iload_n 3, 1) := by decide +kernel
theorem dX10_copy_171 : decode cX10_copy 171 = .ok (.imul, 1) := by decide +kernel
theorem dX10_copy_172 : decode cX10_copy 172 = .ok (.iload 4, 2) := by decide +kernel
theorem dX10_copy_174 : decode cX10_copy 174 = .ok (.iadd, 1) := by decide +kernel
theorem dX10_copy_175 : decode cX10_copy 175 = .ok (.iload 6, 2) := by decide +kernel
theorem dX10_copy_177 : decode cX10_copy 177 = .ok (.iadd, 1) := by decide +kernel
theorem dX10_copy_178 : decode cX10_copy 178 = .ok (.aload_n 0, 1) := by decide +kernel
theorem dX10_copy_179 : decode cX10_copy 179 = .ok (.getfield 68, 3) := by decide +kernel
theorem dX10_copy_182 : decode cX10_copy 182 = .ok (.iload 6, 2) := by decide +kernel
theorem dX10_copy_184 : decode cX10_copy 184 = .ok (.iaload, 1) := by decide +kernel
theorem dX10_copy_185 : decode cX10_copy 185 = .ok (.iastore, 1) := by decide +kernel
theorem dX10_copy_186 : decode cX10_copy 186 = .ok (.iinc 6 1, 3) := by decide +kernel
theorem dX10_copy_189 : decode cX10_copy 189 = .ok (.goto (-32), 3) := by decide +kernel
theorem dX10_copy_192 : decode cX10_copy 192 = .ok (.iconst 1, 1) := by decide +kernel
theorem dX10_copy_193 : decode cX10_copy 193 = .ok (.ireturn, 1) := by decide +kernel
set_option maxRecDepth 20000 in
theorem ggX10_write_X10_isSheet : GoodIn wsX10_write wsX10_isSheet := qw_e qk_X10_write qk_X10_isSheet (by decide +kernel)
set_option maxRecDepth 20000 in
theorem gX10_write_X10_isSheet : GoodIn wsX10_write (va_wsS RX10 244 yX10_isSheet wsX10_isSheet) := goodIn_app (qw_e qk_X10_write (QK_cons qw_312 (QK_cons qw_313 (QK_cons qw_996 QK_nil))) (by decide +kernel)) ggX10_write_X10_isSheet
set_option maxRecDepth 20000 in
theorem ggX10_write_X10_meets : GoodIn wsX10_write wsX10_meets := qw_e qk_X10_write qk_X10_meets (by decide +kernel)
set_option maxRecDepth 20000 in
theorem gX10_write_X10_meets : GoodIn wsX10_write (wsV RX10 247 RX10 yX10_meets wsX10_meets) := goodIn_app (qw_e qk_X10_write (QK_cons qw_315 (QK_cons qw_316 (QK_cons qw_317 (QK_cons qw_996 QK_nil)))) (by decide +kernel)) ggX10_write_X10_meets
set_option maxRecDepth 20000 in
theorem ggX10_write_X10_atOf : GoodIn wsX10_write wsX10_atOf := qw_e qk_X10_write qk_X10_atOf (by decide +kernel)
set_option maxRecDepth 20000 in
theorem gX10_write_X10_atOf : GoodIn wsX10_write (wsV RX10 187 RX10 yX10_atOf wsX10_atOf) := goodIn_app (qw_e qk_X10_write (QK_cons qw_590 (QK_cons qw_591 (QK_cons qw_592 (QK_cons qw_996 QK_nil)))) (by decide +kernel)) ggX10_write_X10_atOf
set_option maxRecDepth 20000 in
theorem ggX10_write_X10_keep : GoodIn wsX10_write wsX10_keep := qw_e qk_X10_write qk_X10_keep (by decide +kernel)
set_option maxRecDepth 20000 in
theorem gX10_write_X10_keep : GoodIn wsX10_write (wsV RX10 289 RX10 yX10_keep wsX10_keep) := goodIn_app (qw_e qk_X10_write (QK_cons qw_79 (QK_cons qw_80 (QK_cons qw_81 (QK_cons qw_996 QK_nil)))) (by decide +kernel)) ggX10_write_X10_keep
theorem dX10_write_0 : decode cX10_write 0 = .ok (.iload_n 1, 1) := by decide +kernel
theorem dX10_write_1 : decode cX10_write 1 = .ok (.invokestatic 244, 3) := by decide +kernel
theorem dX10_write_4 : decode cX10_write 4 = .ok (.ifCond .ne 6, 3) := by decide +kernel
theorem dX10_write_7 : decode cX10_write 7 = .ok (.bipush (-2), 2) := by decide +kernel
theorem dX10_write_9 : decode cX10_write 9 = .ok (.ireturn, 1) := by decide +kernel
theorem dX10_write_10 : decode cX10_write 10 = .ok (.aload_n 0, 1) := by decide +kernel
theorem dX10_write_11 : decode cX10_write 11 = .ok (.getfield 56, 3) := by decide +kernel
theorem dX10_write_14 : decode cX10_write 14 = .ok (.iload_n 1, 1) := by decide +kernel
theorem dX10_write_15 : decode cX10_write 15 = .ok (.baload, 1) := by decide +kernel
theorem dX10_write_16 : decode cX10_write 16 = .ok (.ifCond .ne 9, 3) := by decide +kernel
theorem dX10_write_19 : decode cX10_write 19 = .ok (.aload_n 0, 1) := by decide +kernel
theorem dX10_write_20 : decode cX10_write 20 = .ok (.iconst 1, 1) := by decide +kernel
theorem dX10_write_21 : decode cX10_write 21 = .ok (.invokevirtual 247, 3) := by decide +kernel
theorem dX10_write_24 : decode cX10_write 24 = .ok (.ireturn, 1) := by decide +kernel
theorem dX10_write_25 : decode cX10_write 25 = .ok (.iconst 0, 1) := by decide +kernel
theorem dX10_write_26 : decode cX10_write 26 = .ok (.istore_n 2, 1) := by decide +kernel
theorem dX10_write_27 : decode cX10_write 27 = .ok (.iload_n 2, 1) := by decide +kernel
theorem dX10_write_28 : decode cX10_write 28 = .ok (.aload_n 0, 1) := by decide +kernel
theorem dX10_write_29 : decode cX10_write 29 = .ok (.getfield 62, 3) := by decide +kernel
theorem dX10_write_32 : decode cX10_write 32 = .ok (.iload_n 1, 1) := by decide +kernel
theorem dX10_write_33 : decode cX10_write 33 = .ok (.iaload, 1) := by decide +kernel
theorem dX10_write_34 : decode cX10_write 34 = .ok (.if_icmp .ge 20, 3) := by decide +kernel
theorem dX10_write_37 : decode cX10_write 37 = .ok (.aload_n 0, 1) := by decide +kernel
theorem dX10_write_38 : decode cX10_write 38 = .ok (.iload_n 1, 1) := by decide +kernel
theorem dX10_write_39 : decode cX10_write 39 = .ok (.iload_n 2, 1) := by decide +kernel
theorem dX10_write_40 : decode cX10_write 40 = .ok (.aload_n 0, 1) := by decide +kernel
theorem dX10_write_41 : decode cX10_write 41 = .ok (.iload_n 2, 1) := by decide +kernel
theorem dX10_write_42 : decode cX10_write 42 = .ok (.invokevirtual 187, 3) := by decide +kernel
theorem dX10_write_45 : decode cX10_write 45 = .ok (.invokevirtual 289, 3) := by decide +kernel
theorem dX10_write_48 : decode cX10_write 48 = .ok (.iinc 2 1, 3) := by decide +kernel
theorem dX10_write_51 : decode cX10_write 51 = .ok (.goto (-24), 3) := by decide +kernel
theorem dX10_write_54 : decode cX10_write 54 = .ok (.iload_n 2, 1) := by decide +kernel
theorem dX10_write_55 : decode cX10_write 55 = .ok (.ireturn, 1) := by decide +kernel
set_option maxRecDepth 20000 in
theorem ggX10_sumOf_X10_reads : GoodIn wsX10_sumOf wsX10_reads := qw_e qk_X10_sumOf qk_X10_reads (by decide +kernel)
set_option maxRecDepth 20000 in
theorem gX10_sumOf_X10_reads : GoodIn wsX10_sumOf (wsV RX10 130 RX10 yX10_reads wsX10_reads) := goodIn_app (qw_e qk_X10_sumOf (QK_cons qw_711 (QK_cons qw_712 (QK_cons qw_713 (QK_cons qw_996 QK_nil)))) (by decide +kernel)) ggX10_sumOf_X10_reads
theorem dX10_sumOf_0 : decode cX10_sumOf 0 = .ok (.aload_n 0, 1) := by decide +kernel
theorem dX10_sumOf_1 : decode cX10_sumOf 1 = .ok (.invokevirtual 130, 3) := by decide +kernel
theorem dX10_sumOf_4 : decode cX10_sumOf 4 = .ok (.iconst 0, 1) := by decide +kernel
theorem dX10_sumOf_5 : decode cX10_sumOf 5 = .ok (.istore_n 2, 1) := by decide +kernel
theorem dX10_sumOf_6 : decode cX10_sumOf 6 = .ok (.iconst 0, 1) := by decide +kernel
theorem dX10_sumOf_7 : decode cX10_sumOf 7 = .ok (.istore_n 3, 1) := by decide +kernel
theorem dX10_sumOf_8 : decode cX10_sumOf 8 = .ok (.iload_n 3, 1) := by decide +kernel
theorem dX10_sumOf_9 : decode cX10_sumOf 9 = .ok (.aload_n 0, 1) := by decide +kernel
theorem dX10_sumOf_10 : decode cX10_sumOf 10 = .ok (.getfield 88, 3) := by decide +kernel
theorem dX10_sumOf_13 : decode cX10_sumOf 13 = .ok (.if_icmp .ge 27, 3) := by decide +kernel
theorem dX10_sumOf_16 : decode cX10_sumOf 16 = .ok (.iload_n 2, 1) := by decide +kernel
theorem dX10_sumOf_17 : decode cX10_sumOf 17 = .ok (.aload_n 0, 1) := by decide +kernel
theorem dX10_sumOf_18 : decode cX10_sumOf 18 = .ok (.getfield 16, 3) := by decide +kernel
theorem dX10_sumOf_21 : decode cX10_sumOf 21 = .ok (.iload_n 3, 1) := by decide +kernel
theorem dX10_sumOf_22 : decode cX10_sumOf 22 = .ok (.iaload, 1) := by decide +kernel
theorem dX10_sumOf_23 : decode cX10_sumOf 23 = .ok (.iconst 2, 1) := by decide +kernel
theorem dX10_sumOf_24 : decode cX10_sumOf 24 = .ok (.if_icmp .ne 7, 3) := by decide +kernel
theorem dX10_sumOf_27 : decode cX10_sumOf 27 = .ok (.iconst 1, 1) := by decide +kernel
theorem dX10_sumOf_28 : decode cX10_sumOf 28 = .ok (.goto 4, 3) := by decide +kernel
theorem dX10_sumOf_31 : decode cX10_sumOf 31 = .ok (.iconst 0, 1) := by decide +kernel
theorem dX10_sumOf_32 : decode cX10_sumOf 32 = .ok (.iadd, 1) := by decide +kernel
theorem dX10_sumOf_33 : decode cX10_sumOf 33 = .ok (.istore_n 2, 1) := by decide +kernel
theorem dX10_sumOf_34 : decode cX10_sumOf 34 = .ok (.iinc 3 1, 3) := by decide +kernel
theorem dX10_sumOf_37 : decode cX10_sumOf 37 = .ok (.goto (-29), 3) := by decide +kernel
theorem dX10_sumOf_40 : decode cX10_sumOf 40 = .ok (.iload_n 1, 1) := by decide +kernel
theorem dX10_sumOf_41 : decode cX10_sumOf 41 = .ok (.ifCond .ne 10, 3) := by decide +kernel
theorem dX10_sumOf_44 : decode cX10_sumOf 44 = .ok (.aload_n 0, 1) := by decide +kernel
theorem dX10_sumOf_45 : decode cX10_sumOf 45 = .ok (.getfield 88, 3) := by decide +kernel
theorem dX10_sumOf_48 : decode cX10_sumOf 48 = .ok (.goto 28, 3) := by decide +kernel
theorem dX10_sumOf_51 : decode cX10_sumOf 51 = .ok (.iload_n 1, 1) := by decide +kernel
theorem dX10_sumOf_52 : decode cX10_sumOf 52 = .ok (.iconst 1, 1) := by decide +kernel
theorem dX10_sumOf_53 : decode cX10_sumOf 53 = .ok (.if_icmp .ne 10, 3) := by decide +kernel
theorem dX10_sumOf_56 : decode cX10_sumOf 56 = .ok (.aload_n 0, 1) := by decide +kernel
theorem dX10_sumOf_57 : decode cX10_sumOf 57 = .ok (.getfield 101, 3) := by decide +kernel
theorem dX10_sumOf_60 : decode cX10_sumOf 60 = .ok (.goto 16, 3) := by decide +kernel
theorem dX10_sumOf_63 : decode cX10_sumOf 63 = .ok (.iload_n 1, 1) := by decide +kernel
theorem dX10_sumOf_64 : decode cX10_sumOf 64 = .ok (.iconst 2, 1) := by decide +kernel
theorem dX10_sumOf_65 : decode cX10_sumOf 65 = .ok (.if_icmp .ne 10, 3) := by decide +kernel
theorem dX10_sumOf_68 : decode cX10_sumOf 68 = .ok (.aload_n 0, 1) := by decide +kernel
theorem dX10_sumOf_69 : decode cX10_sumOf 69 = .ok (.getfield 111, 3) := by decide +kernel
theorem dX10_sumOf_72 : decode cX10_sumOf 72 = .ok (.goto 4, 3) := by decide +kernel
theorem dX10_sumOf_75 : decode cX10_sumOf 75 = .ok (.iload_n 2, 1) := by decide +kernel
theorem dX10_sumOf_76 : decode cX10_sumOf 76 = .ok (.ireturn, 1) := by decide +kernel
set_option maxRecDepth 20000 in
theorem ggX10_count_X10_sumOf : GoodIn wsX10_count wsX10_sumOf := qw_e qk_X10_count qk_X10_sumOf (by decide +kernel)
set_option maxRecDepth 20000 in
theorem gX10_count_X10_sumOf : GoodIn wsX10_count (wsV RX10 294 RX10 yX10_sumOf wsX10_sumOf) := goodIn_app (qw_e qk_X10_count (QK_cons qw_76 (QK_cons qw_77 (QK_cons qw_78 (QK_cons qw_996 QK_nil)))) (by decide +kernel)) ggX10_count_X10_sumOf
theorem dX10_count_0 : decode cX10_count 0 = .ok (.iload_n 1, 1) := by decide +kernel
theorem dX10_count_1 : decode cX10_count 1 = .ok (.tableswitch 76 0 8 #[51, 51, 51, 57, 57, 57, 51, 66, 71], 51) := by decide +kernel
theorem dX10_count_52 : decode cX10_count 52 = .ok (.aload_n 0, 1) := by decide +kernel
theorem dX10_count_53 : decode cX10_count 53 = .ok (.iload_n 1, 1) := by decide +kernel
theorem dX10_count_54 : decode cX10_count 54 = .ok (.invokevirtual 294, 3) := by decide +kernel
theorem dX10_count_57 : decode cX10_count 57 = .ok (.ireturn, 1) := by decide +kernel
theorem dX10_count_58 : decode cX10_count 58 = .ok (.aload_n 0, 1) := by decide +kernel
theorem dX10_count_59 : decode cX10_count 59 = .ok (.getfield 7, 3) := by decide +kernel
theorem dX10_count_62 : decode cX10_count 62 = .ok (.iload_n 1, 1) := by decide +kernel
theorem dX10_count_63 : decode cX10_count 63 = .ok (.iconst 3, 1) := by decide +kernel
theorem dX10_count_64 : decode cX10_count 64 = .ok (.isub, 1) := by decide +kernel
theorem dX10_count_65 : decode cX10_count 65 = .ok (.iaload, 1) := by decide +kernel
theorem dX10_count_66 : decode cX10_count 66 = .ok (.ireturn, 1) := by decide +kernel
theorem dX10_count_67 : decode cX10_count 67 = .ok (.aload_n 0, 1) := by decide +kernel
theorem dX10_count_68 : decode cX10_count 68 = .ok (.getfield 241, 3) := by decide +kernel
theorem dX10_count_71 : decode cX10_count 71 = .ok (.ireturn, 1) := by decide +kernel
theorem dX10_count_72 : decode cX10_count 72 = .ok (.aload_n 0, 1) := by decide +kernel
theorem dX10_count_73 : decode cX10_count 73 = .ok (.getfield 283, 3) := by decide +kernel
theorem dX10_count_76 : decode cX10_count 76 = .ok (.ireturn, 1) := by decide +kernel
theorem dX10_count_77 : decode cX10_count 77 = .ok (.bipush (-2), 2) := by decide +kernel
theorem dX10_count_79 : decode cX10_count 79 = .ok (.ireturn, 1) := by decide +kernel
set_option maxRecDepth 20000 in
theorem ggX10_thiefDigest_X10_takesOf : GoodIn wsX10_thiefDigest wsX10_takesOf := qw_e qk_X10_thiefDigest qk_X10_takesOf (by decide +kernel)
set_option maxRecDepth 20000 in
theorem gX10_thiefDigest_X10_takesOf : GoodIn wsX10_thiefDigest (wsV RX10 202 RX10 yX10_takesOf wsX10_takesOf) := goodIn_app (qw_e qk_X10_thiefDigest (QK_cons qw_499 (QK_cons qw_500 (QK_cons qw_501 (QK_cons qw_996 QK_nil)))) (by decide +kernel)) ggX10_thiefDigest_X10_takesOf
set_option maxRecDepth 20000 in
theorem ggX10_thiefDigest_X10_meantOf : GoodIn wsX10_thiefDigest wsX10_meantOf := qw_e qk_X10_thiefDigest qk_X10_meantOf (by decide +kernel)
set_option maxRecDepth 20000 in
theorem gX10_thiefDigest_X10_meantOf : GoodIn wsX10_thiefDigest (wsV RX10 260 RX10 yX10_meantOf wsX10_meantOf) := goodIn_app (qw_e qk_X10_thiefDigest (QK_cons qw_270 (QK_cons qw_223 (QK_cons qw_224 (QK_cons qw_996 QK_nil)))) (by decide +kernel)) ggX10_thiefDigest_X10_meantOf
set_option maxRecDepth 20000 in
theorem ggX10_thiefDigest_X10_foggedOf : GoodIn wsX10_thiefDigest wsX10_foggedOf := qw_e qk_X10_thiefDigest qk_X10_foggedOf (by decide +kernel)
set_option maxRecDepth 20000 in
theorem gX10_thiefDigest_X10_foggedOf : GoodIn wsX10_thiefDigest (wsV RX10 270 RX10 yX10_foggedOf wsX10_foggedOf) := goodIn_app (qw_e qk_X10_thiefDigest (QK_cons qw_192 (QK_cons qw_193 (QK_cons qw_194 (QK_cons qw_996 QK_nil)))) (by decide +kernel)) ggX10_thiefDigest_X10_foggedOf
theorem dX10_thiefDigest_0 : decode cX10_thiefDigest 0 = .ok (.ldc2_w 297, 3) := by decide +kernel
theorem dX10_thiefDigest_3 : decode cX10_thiefDigest 3 = .ok (.lload_n 1, 1) := by decide +kernel
theorem dX10_thiefDigest_4 : decode cX10_thiefDigest 4 = .ok (.lmul, 1) := by decide +kernel
theorem dX10_thiefDigest_5 : decode cX10_thiefDigest 5 = .ok (.aload_n 0, 1) := by decide +kernel
theorem dX10_thiefDigest_6 : decode cX10_thiefDigest 6 = .ok (.getfield 22, 3) := by decide +kernel
theorem dX10_thiefDigest_9 : decode cX10_thiefDigest 9 = .ok (.iload_n 3, 1) := by decide +kernel
theorem dX10_thiefDigest_10 : decode cX10_thiefDigest 10 = .ok (.iaload, 1) := by decide +kernel
theorem dX10_thiefDigest_11 : decode cX10_thiefDigest 11 = .ok (.i2l, 1) := by decide +kernel
theorem dX10_thiefDigest_12 : decode cX10_thiefDigest 12 = .ok (.ladd, 1) := by decide +kernel
theorem dX10_thiefDigest_13 : decode cX10_thiefDigest 13 = .ok (.lstore 4, 2) := by decide +kernel
theorem dX10_thiefDigest_15 : decode cX10_thiefDigest 15 = .ok (.ldc2_w 297, 3) := by decide +kernel
theorem dX10_thiefDigest_18 : decode cX10_thiefDigest 18 = .ok (.lload 4, 2) := by decide +kernel
theorem dX10_thiefDigest_20 : decode cX10_thiefDigest 20 = .ok (.lmul, 1) := by decide +kernel
theorem dX10_thiefDigest_21 : decode cX10_thiefDigest 21 = .ok (.aload_n 0, 1) := by decide +kernel
theorem dX10_thiefDigest_22 : decode cX10_thiefDigest 22 = .ok (.getfield 25, 3) := by decide +kernel
theorem dX10_thiefDigest_25 : decode cX10_thiefDigest 25 = .ok (.iload_n 3, 1) := by decide +kernel
theorem dX10_thiefDigest_26 : decode cX10_thiefDigest 26 = .ok (.iaload, 1) := by decide +kernel
theorem dX10_thiefDigest_27 : decode cX10_thiefDigest 27 = .ok (.i2l, 1) := by decide +kernel
theorem dX10_thiefDigest_28 : decode cX10_thiefDigest 28 = .ok (.ladd, 1) := by decide +kernel
theorem dX10_thiefDigest_29 : decode cX10_thiefDigest 29 = .ok (.lstore 4, 2) := by decide +kernel
theorem dX10_thiefDigest_31 : decode cX10_thiefDigest 31 = .ok (.ldc2_w 297, 3) := by decide +kernel
theorem dX10_thiefDigest_34 : decode cX10_thiefDigest 34 = .ok (.lload 4, 2) := by decide +kernel
theorem dX10_thiefDigest_36 : decode cX10_thiefDigest 36 = .ok (.lmul, 1) := by decide +kernel
theorem dX10_thiefDigest_37 : decode cX10_thiefDigest 37 = .ok (.aload_n 0, 1) := by decide +kernel
theorem dX10_thiefDigest_38 : decode cX10_thiefDigest 38 = .ok (.iload_n 3, 1) := by decide +kernel
theorem dX10_thiefDigest_39 : decode cX10_thiefDigest 39 = .ok (.invokevirtual 202, 3) := by decide +kernel
theorem dX10_thiefDigest_42 : decode cX10_thiefDigest 42 = .ok (.i2l, 1) := by decide +kernel
theorem dX10_thiefDigest_43 : decode cX10_thiefDigest 43 = .ok (.ladd, 1) := by decide +kernel
theorem dX10_thiefDigest_44 : decode cX10_thiefDigest 44 = .ok (.lstore 4, 2) := by decide +kernel
theorem dX10_thiefDigest_46 : decode cX10_thiefDigest 46 = .ok (.ldc2_w 297, 3) := by decide +kernel
theorem dX10_thiefDigest_49 : decode cX10_thiefDigest 49 = .ok (.lload 4, 2) := by decide +kernel
theorem dX10_thiefDigest_51 : decode cX10_thiefDigest 51 = .ok (.lmul, 1) := by decide +kernel
theorem dX10_thiefDigest_52 : decode cX10_thiefDigest 52 = .ok (.aload_n 0, 1) := by decide +kernel
theorem dX10_thiefDigest_53 : decode cX10_thiefDigest 53 = .ok (.iload_n 3, 1) := by decide +kernel
theorem dX10_thiefDigest_54 : decode cX10_thiefDigest 54 = .ok (.iconst (-1), 1) := by decide +kernel
theorem dX10_thiefDigest_55 : decode cX10_thiefDigest 55 = .ok (.invokevirtual 260, 3) := by decide +kernel
theorem dX10_thiefDigest_58 : decode cX10_thiefDigest 58 = .ok (.i2l, 1) := by decide +kernel
theorem dX10_thiefDigest_59 : decode cX10_thiefDigest 59 = .ok (.ladd, 1) := by decide +kernel
theorem dX10_thiefDigest_60 : decode cX10_thiefDigest 60 = .ok (.lstore 4, 2) := by decide +kernel
theorem dX10_thiefDigest_62 : decode cX10_thiefDigest 62 = .ok (.ldc2_w 297, 3) := by decide +kernel
theorem dX10_thiefDigest_65 : decode cX10_thiefDigest 65 = .ok (.lload 4, 2) := by decide +kernel
theorem dX10_thiefDigest_67 : decode cX10_thiefDigest 67 = .ok (.lmul, 1) := by decide +kernel
theorem dX10_thiefDigest_68 : decode cX10_thiefDigest 68 = .ok (.aload_n 0, 1) := by decide +kernel
theorem dX10_thiefDigest_69 : decode cX10_thiefDigest 69 = .ok (.iload_n 3, 1) := by decide +kernel
theorem dX10_thiefDigest_70 : decode cX10_thiefDigest 70 = .ok (.iconst 0, 1) := by decide +kernel
theorem dX10_thiefDigest_71 : decode cX10_thiefDigest 71 = .ok (.invokevirtual 260, 3) := by decide +kernel
theorem dX10_thiefDigest_74 : decode cX10_thiefDigest 74 = .ok (.i2l, 1) := by decide +kernel
theorem dX10_thiefDigest_75 : decode cX10_thiefDigest 75 = .ok (.ladd, 1) := by decide +kernel
theorem dX10_thiefDigest_76 : decode cX10_thiefDigest 76 = .ok (.lstore 4, 2) := by decide +kernel
theorem dX10_thiefDigest_78 : decode cX10_thiefDigest 78 = .ok (.ldc2_w 297, 3) := by decide +kernel
theorem dX10_thiefDigest_81 : decode cX10_thiefDigest 81 = .ok (.lload 4, 2) := by decide +kernel
theorem dX10_thiefDigest_83 : decode cX10_thiefDigest 83 = .ok (.lmul, 1) := by decide +kernel
theorem dX10_thiefDigest_84 : decode cX10_thiefDigest 84 = .ok (.aload_n 0, 1) := by decide +kernel
theorem dX10_thiefDigest_85 : decode cX10_thiefDigest 85 = .ok (.iconst 5, 1) := by decide +kernel
theorem dX10_thiefDigest_86 : decode cX10_thiefDigest 86 = .ok (.iconst 5, 1) := by decide +kernel
theorem dX10_thiefDigest_87 : decode cX10_thiefDigest 87 = .ok (.iload_n 3, 1) := by decide +kernel
theorem dX10_thiefDigest_88 : decode cX10_thiefDigest 88 = .ok (.iconst 0, 1) := by decide +kernel
theorem dX10_thiefDigest_89 : decode cX10_thiefDigest 89 = .ok (.invokevirtual 270, 3) := by decide +kernel
theorem dX10_thiefDigest_92 : decode cX10_thiefDigest 92 = .ok (.ladd, 1) := by decide +kernel
theorem dX10_thiefDigest_93 : decode cX10_thiefDigest 93 = .ok (.lstore 4, 2) := by decide +kernel
theorem dX10_thiefDigest_95 : decode cX10_thiefDigest 95 = .ok (.ldc2_w 297, 3) := by decide +kernel
theorem dX10_thiefDigest_98 : decode cX10_thiefDigest 98 = .ok (.lload 4, 2) := by decide +kernel
theorem dX10_thiefDigest_100 : decode cX10_thiefDigest 100 = .ok (.lmul, 1) := by decide +kernel
theorem dX10_thiefDigest_101 : decode cX10_thiefDigest 101 = .ok (.aload_n 0, 1) := by decide +kernel
theorem dX10_thiefDigest_102 : decode cX10_thiefDigest 102 = .ok (.iconst 5, 1) := by decide +kernel
theorem dX10_thiefDigest_103 : decode cX10_thiefDigest 103 = .ok (.iconst 5, 1) := by decide +kernel
theorem dX10_thiefDigest_104 : decode cX10_thiefDigest 104 = .ok (.iload_n 3, 1) := by decide +kernel
theorem dX10_thiefDigest_105 : decode cX10_thiefDigest 105 = .ok (.iconst 1, 1) := by decide +kernel
theorem dX10_thiefDigest_106 : decode cX10_thiefDigest 106 = .ok (.invokevirtual 270, 3) := by decide +kernel
theorem dX10_thiefDigest_109 : decode cX10_thiefDigest 109 = .ok (.ladd, 1) := by decide +kernel
theorem dX10_thiefDigest_110 : decode cX10_thiefDigest 110 = .ok (.lreturn, 1) := by decide +kernel
set_option maxRecDepth 20000 in
theorem ggX10_numberDigest_X10_atOf : GoodIn wsX10_numberDigest wsX10_atOf := qw_e qk_X10_numberDigest qk_X10_atOf (by decide +kernel)
set_option maxRecDepth 20000 in
theorem gX10_numberDigest_X10_atOf : GoodIn wsX10_numberDigest (wsV RX10 187 RX10 yX10_atOf wsX10_atOf) := goodIn_app (qw_e qk_X10_numberDigest (QK_cons qw_590 (QK_cons qw_591 (QK_cons qw_592 (QK_cons qw_996 QK_nil)))) (by decide +kernel)) ggX10_numberDigest_X10_atOf
set_option maxRecDepth 20000 in
theorem ggX10_numberDigest_X10_seesOf : GoodIn wsX10_numberDigest wsX10_seesOf := qw_e qk_X10_numberDigest qk_X10_seesOf (by decide +kernel)
set_option maxRecDepth 20000 in
theorem gX10_numberDigest_X10_seesOf : GoodIn wsX10_numberDigest (wsV RX10 190 RX10 yX10_seesOf wsX10_seesOf) := goodIn_app (qw_e qk_X10_numberDigest (QK_cons qw_542 (QK_cons qw_543 (QK_cons qw_544 (QK_cons qw_996 QK_nil)))) (by decide +kernel)) ggX10_numberDigest_X10_seesOf
theorem dX10_numberDigest_0 : decode cX10_numberDigest 0 = .ok (.ldc2_w 297, 3) := by decide +kernel
theorem dX10_numberDigest_3 : decode cX10_numberDigest 3 = .ok (.lload_n 1, 1) := by decide +kernel
theorem dX10_numberDigest_4 : decode cX10_numberDigest 4 = .ok (.lmul, 1) := by decide +kernel
theorem dX10_numberDigest_5 : decode cX10_numberDigest 5 = .ok (.aload_n 0, 1) := by decide +kernel
theorem dX10_numberDigest_6 : decode cX10_numberDigest 6 = .ok (.iload_n 3, 1) := by decide +kernel
theorem dX10_numberDigest_7 : decode cX10_numberDigest 7 = .ok (.invokevirtual 187, 3) := by decide +kernel
theorem dX10_numberDigest_10 : decode cX10_numberDigest 10 = .ok (.i2l, 1) := by decide +kernel
theorem dX10_numberDigest_11 : decode cX10_numberDigest 11 = .ok (.ladd, 1) := by decide +kernel
theorem dX10_numberDigest_12 : decode cX10_numberDigest 12 = .ok (.lstore 4, 2) := by decide +kernel
theorem dX10_numberDigest_14 : decode cX10_numberDigest 14 = .ok (.ldc2_w 297, 3) := by decide +kernel
theorem dX10_numberDigest_17 : decode cX10_numberDigest 17 = .ok (.lload 4, 2) := by decide +kernel
theorem dX10_numberDigest_19 : decode cX10_numberDigest 19 = .ok (.lmul, 1) := by decide +kernel
theorem dX10_numberDigest_20 : decode cX10_numberDigest 20 = .ok (.aload_n 0, 1) := by decide +kernel
theorem dX10_numberDigest_21 : decode cX10_numberDigest 21 = .ok (.iload_n 3, 1) := by decide +kernel
theorem dX10_numberDigest_22 : decode cX10_numberDigest 22 = .ok (.iconst 0, 1) := by decide +kernel
theorem dX10_numberDigest_23 : decode cX10_numberDigest 23 = .ok (.invokevirtual 190, 3) := by decide +kernel
theorem dX10_numberDigest_26 : decode cX10_numberDigest 26 = .ok (.i2l, 1) := by decide +kernel
theorem dX10_numberDigest_27 : decode cX10_numberDigest 27 = .ok (.ladd, 1) := by decide +kernel
theorem dX10_numberDigest_28 : decode cX10_numberDigest 28 = .ok (.lstore 4, 2) := by decide +kernel
theorem dX10_numberDigest_30 : decode cX10_numberDigest 30 = .ok (.ldc2_w 297, 3) := by decide +kernel
theorem dX10_numberDigest_33 : decode cX10_numberDigest 33 = .ok (.lload 4, 2) := by decide +kernel
theorem dX10_numberDigest_35 : decode cX10_numberDigest 35 = .ok (.lmul, 1) := by decide +kernel
theorem dX10_numberDigest_36 : decode cX10_numberDigest 36 = .ok (.aload_n 0, 1) := by decide +kernel
theorem dX10_numberDigest_37 : decode cX10_numberDigest 37 = .ok (.iload_n 3, 1) := by decide +kernel
theorem dX10_numberDigest_38 : decode cX10_numberDigest 38 = .ok (.iconst 1, 1) := by decide +kernel
theorem dX10_numberDigest_39 : decode cX10_numberDigest 39 = .ok (.invokevirtual 190, 3) := by decide +kernel
theorem dX10_numberDigest_42 : decode cX10_numberDigest 42 = .ok (.i2l, 1) := by decide +kernel
theorem dX10_numberDigest_43 : decode cX10_numberDigest 43 = .ok (.ladd, 1) := by decide +kernel
theorem dX10_numberDigest_44 : decode cX10_numberDigest 44 = .ok (.lreturn, 1) := by decide +kernel
set_option maxRecDepth 20000 in
theorem ggX10_digest_X10_count : GoodIn wsX10_digest wsX10_count := qw_e qk_X10_digest qk_X10_count (by decide +kernel)
set_option maxRecDepth 20000 in
theorem gX10_digest_X10_count : GoodIn wsX10_digest (wsV RX10 301 RX10 yX10_count wsX10_count) := goodIn_app (qw_e qk_X10_digest (QK_cons qw_29 (QK_cons qw_73 (QK_cons qw_74 (QK_cons qw_996 QK_nil)))) (by decide +kernel)) ggX10_digest_X10_count
set_option maxRecDepth 20000 in
theorem ggX10_digest_X10_faultOf : GoodIn wsX10_digest wsX10_faultOf := qw_e qk_X10_digest qk_X10_faultOf (by decide +kernel)
set_option maxRecDepth 20000 in
theorem gX10_digest_X10_faultOf : GoodIn wsX10_digest (wsV RX10 127 RX10 yX10_faultOf wsX10_faultOf) := goodIn_app (qw_e qk_X10_digest (QK_cons qw_758 (QK_cons qw_759 (QK_cons qw_760 (QK_cons qw_996 QK_nil)))) (by decide +kernel)) ggX10_digest_X10_faultOf
set_option maxRecDepth 20000 in
theorem ggX10_digest_X10_seenOf : GoodIn wsX10_digest wsX10_seenOf := qw_e qk_X10_digest qk_X10_seenOf (by decide +kernel)
set_option maxRecDepth 20000 in
theorem gX10_digest_X10_seenOf : GoodIn wsX10_digest (wsV RX10 196 RX10 yX10_seenOf wsX10_seenOf) := goodIn_app (qw_e qk_X10_digest (QK_cons qw_516 (QK_cons qw_517 (QK_cons qw_518 (QK_cons qw_996 QK_nil)))) (by decide +kernel)) ggX10_digest_X10_seenOf
set_option maxRecDepth 20000 in
theorem ggX10_digest_X10_thiefDigest : GoodIn wsX10_digest wsX10_thiefDigest := qw_e qk_X10_digest qk_X10_thiefDigest (by decide +kernel)
set_option maxRecDepth 20000 in
theorem gX10_digest_X10_thiefDigest : GoodIn wsX10_digest (wsV RX10 304 RX10 yX10_thiefDigest wsX10_thiefDigest) := goodIn_app (qw_e qk_X10_digest (QK_cons qw_30 (QK_cons qw_0 (QK_cons qw_1 (QK_cons qw_996 QK_nil)))) (by decide +kernel)) ggX10_digest_X10_thiefDigest
set_option maxRecDepth 20000 in
theorem ggX10_digest_X10_numberDigest : GoodIn wsX10_digest wsX10_numberDigest := qw_e qk_X10_digest qk_X10_numberDigest (by decide +kernel)
set_option maxRecDepth 20000 in
theorem gX10_digest_X10_numberDigest : GoodIn wsX10_digest (wsV RX10 308 RX10 yX10_numberDigest wsX10_numberDigest) := goodIn_app (qw_e qk_X10_digest (QK_cons qw_3 (QK_cons qw_4 (QK_cons qw_5 (QK_cons qw_996 QK_nil)))) (by decide +kernel)) ggX10_digest_X10_numberDigest
set_option maxRecDepth 20000 in
theorem ggX10_digest_X10_safeOf : GoodIn wsX10_digest wsX10_safeOf := qw_e qk_X10_digest qk_X10_safeOf (by decide +kernel)
set_option maxRecDepth 20000 in
theorem gX10_digest_X10_safeOf : GoodIn wsX10_digest (wsV RX10 208 RX10 yX10_safeOf wsX10_safeOf) := goodIn_app (qw_e qk_X10_digest (QK_cons qw_474 (QK_cons qw_475 (QK_cons qw_476 (QK_cons qw_996 QK_nil)))) (by decide +kernel)) ggX10_digest_X10_safeOf
set_option maxRecDepth 20000 in
theorem ggX10_digest_X10_lostTold : GoodIn wsX10_digest wsX10_lostTold := qw_e qk_X10_digest qk_X10_lostTold (by decide +kernel)
set_option maxRecDepth 20000 in
theorem gX10_digest_X10_lostTold : GoodIn wsX10_digest (wsV RX10 214 RX10 yX10_lostTold wsX10_lostTold) := goodIn_app (qw_e qk_X10_digest (QK_cons qw_446 (QK_cons qw_447 (QK_cons qw_448 (QK_cons qw_996 QK_nil)))) (by decide +kernel)) ggX10_digest_X10_lostTold
set_option maxRecDepth 20000 in
theorem ggX10_digest_X10_firstNow : GoodIn wsX10_digest wsX10_firstNow := qw_e qk_X10_digest qk_X10_firstNow (by decide +kernel)
set_option maxRecDepth 20000 in
theorem gX10_digest_X10_firstNow : GoodIn wsX10_digest (wsV RX10 217 RX10 yX10_firstNow wsX10_firstNow) := goodIn_app (qw_e qk_X10_digest (QK_cons qw_462 (QK_cons qw_415 (QK_cons qw_416 (QK_cons qw_996 QK_nil)))) (by decide +kernel)) ggX10_digest_X10_firstNow
set_option maxRecDepth 20000 in
theorem ggX10_digest_X10_spareNow : GoodIn wsX10_digest wsX10_spareNow := qw_e qk_X10_digest qk_X10_spareNow (by decide +kernel)
set_option maxRecDepth 20000 in
theorem gX10_digest_X10_spareNow : GoodIn wsX10_digest (wsV RX10 226 RX10 yX10_spareNow wsX10_spareNow) := goodIn_app (qw_e qk_X10_digest (QK_cons qw_435 (QK_cons qw_436 (QK_cons qw_437 (QK_cons qw_996 QK_nil)))) (by decide +kernel)) ggX10_digest_X10_spareNow
set_option maxRecDepth 20000 in
theorem ggX10_digest_X10_trimBy : GoodIn wsX10_digest wsX10_trimBy := qw_e qk_X10_digest qk_X10_trimBy (by decide +kernel)
set_option maxRecDepth 20000 in
theorem gX10_digest_X10_trimBy : GoodIn wsX10_digest (wsV RX10 229 RX10 yX10_trimBy wsX10_trimBy) := goodIn_app (qw_e qk_X10_digest (QK_cons qw_373 (QK_cons qw_374 (QK_cons qw_375 (QK_cons qw_996 QK_nil)))) (by decide +kernel)) ggX10_digest_X10_trimBy
set_option maxRecDepth 20000 in
theorem ggX10_digest_X10_ofRow : GoodIn wsX10_digest wsX10_ofRow := qw_e qk_X10_digest qk_X10_ofRow (by decide +kernel)
set_option maxRecDepth 20000 in
theorem gX10_digest_X10_ofRow : GoodIn wsX10_digest (wsV RX10 232 RX10 yX10_ofRow wsX10_ofRow) := goodIn_app (qw_e qk_X10_digest (QK_cons qw_377 (QK_cons qw_378 (QK_cons qw_379 (QK_cons qw_996 QK_nil)))) (by decide +kernel)) ggX10_digest_X10_ofRow
set_option maxRecDepth 20000 in
theorem ggX10_digest_X10_beginOf : GoodIn wsX10_digest wsX10_beginOf := qw_e qk_X10_digest qk_X10_beginOf (by decide +kernel)
set_option maxRecDepth 20000 in
theorem gX10_digest_X10_beginOf : GoodIn wsX10_digest (wsV RX10 235 RX10 yX10_beginOf wsX10_beginOf) := goodIn_app (qw_e qk_X10_digest (QK_cons qw_390 (QK_cons qw_343 (QK_cons qw_344 (QK_cons qw_996 QK_nil)))) (by decide +kernel)) ggX10_digest_X10_beginOf
set_option maxRecDepth 20000 in
theorem ggX10_digest_X10_recruitOf : GoodIn wsX10_digest wsX10_recruitOf := qw_e qk_X10_digest qk_X10_recruitOf (by decide +kernel)
set_option maxRecDepth 20000 in
theorem gX10_digest_X10_recruitOf : GoodIn wsX10_digest (wsV RX10 238 RX10 yX10_recruitOf wsX10_recruitOf) := goodIn_app (qw_e qk_X10_digest (QK_cons qw_354 (QK_cons qw_355 (QK_cons qw_356 (QK_cons qw_996 QK_nil)))) (by decide +kernel)) ggX10_digest_X10_recruitOf
set_option maxRecDepth 20000 in
theorem ggX10_digest_X10_omittedNow : GoodIn wsX10_digest wsX10_omittedNow := qw_e qk_X10_digest qk_X10_omittedNow (by decide +kernel)
set_option maxRecDepth 20000 in
theorem gX10_digest_X10_omittedNow : GoodIn wsX10_digest (wsV RX10 257 RX10 yX10_omittedNow wsX10_omittedNow) := goodIn_app (qw_e qk_X10_digest (QK_cons qw_289 (QK_cons qw_290 (QK_cons qw_291 (QK_cons qw_996 QK_nil)))) (by decide +kernel)) ggX10_digest_X10_omittedNow
set_option maxRecDepth 20000 in
theorem ggX10_digest_X10_askNow : GoodIn wsX10_digest wsX10_askNow := qw_e qk_X10_digest qk_X10_askNow (by decide +kernel)
set_option maxRecDepth 20000 in
theorem gX10_digest_X10_askNow : GoodIn wsX10_digest (wsV RX10 263 RX10 yX10_askNow wsX10_askNow) := goodIn_app (qw_e qk_X10_digest (QK_cons qw_199 (QK_cons qw_200 (QK_cons qw_201 (QK_cons qw_996 QK_nil)))) (by decide +kernel)) ggX10_digest_X10_askNow
set_option maxRecDepth 20000 in
theorem ggX10_digest_X10_nightsOf : GoodIn wsX10_digest wsX10_nightsOf := qw_e qk_X10_digest qk_X10_nightsOf (by decide +kernel)
set_option maxRecDepth 20000 in
theorem gX10_digest_X10_nightsOf : GoodIn wsX10_digest (wsV RX10 279 RX10 yX10_nightsOf wsX10_nightsOf) := goodIn_app (qw_e qk_X10_digest (QK_cons qw_168 (QK_cons qw_169 (QK_cons qw_170 (QK_cons qw_996 QK_nil)))) (by decide +kernel)) ggX10_digest_X10_nightsOf
theorem dX10_digest_0 : decode cX10_digest 0 = .ok (.ldc2_w 299, 3) := by decide +kernel
theorem dX10_digest_3 : decode cX10_digest 3 = .ok (.lstore_n 1, 1) := by decide +kernel
theorem dX10_digest_4 : decode cX10_digest 4 = .ok (.iconst 0, 1) := by decide +kernel
theorem dX10_digest_5 : decode cX10_digest 5 = .ok (.istore_n 3, 1) := by decide +kernel

theorem dX10_digest_6 : decode cX10_digest 6 = .ok (.iload_n 3, 1) := by decide +kernel
theorem dX10_digest_7 : decode cX10_digest 7 = .ok (.bipush 8, 2) := by decide +kernel
theorem dX10_digest_9 : decode cX10_digest 9 = .ok (.if_icmp .ge 22, 3) := by decide +kernel
theorem dX10_digest_12 : decode cX10_digest 12 = .ok (.ldc2_w 297, 3) := by decide +kernel
theorem dX10_digest_15 : decode cX10_digest 15 = .ok (.lload_n 1, 1) := by decide +kernel
theorem dX10_digest_16 : decode cX10_digest 16 = .ok (.lmul, 1) := by decide +kernel
theorem dX10_digest_17 : decode cX10_digest 17 = .ok (.aload_n 0, 1) := by decide +kernel
theorem dX10_digest_18 : decode cX10_digest 18 = .ok (.iload_n 3, 1) := by decide +kernel
theorem dX10_digest_19 : decode cX10_digest 19 = .ok (.invokevirtual 301, 3) := by decide +kernel
theorem dX10_digest_22 : decode cX10_digest 22 = .ok (.i2l, 1) := by decide +kernel
theorem dX10_digest_23 : decode cX10_digest 23 = .ok (.ladd, 1) := by decide +kernel
theorem dX10_digest_24 : decode cX10_digest 24 = .ok (.lstore_n 1, 1) := by decide +kernel
theorem dX10_digest_25 : decode cX10_digest 25 = .ok (.iinc 3 1, 3) := by decide +kernel
theorem dX10_digest_28 : decode cX10_digest 28 = .ok (.goto (-22), 3) := by decide +kernel
theorem dX10_digest_31 : decode cX10_digest 31 = .ok (.iconst 0, 1) := by decide +kernel
theorem dX10_digest_32 : decode cX10_digest 32 = .ok (.istore_n 3, 1) := by decide +kernel
theorem dX10_digest_33 : decode cX10_digest 33 = .ok (.iload_n 3, 1) := by decide +kernel
theorem dX10_digest_34 : decode cX10_digest 34 = .ok (.iconst 3, 1) := by decide +kernel
theorem dX10_digest_35 : decode cX10_digest 35 = .ok (.if_icmp .ge 22, 3) := by decide +kernel
theorem dX10_digest_38 : decode cX10_digest 38 = .ok (.ldc2_w 297, 3) := by decide +kernel
theorem dX10_digest_41 : decode cX10_digest 41 = .ok (.lload_n 1, 1) := by decide +kernel
theorem dX10_digest_42 : decode cX10_digest 42 = .ok (.lmul, 1) := by decide +kernel
theorem dX10_digest_43 : decode cX10_digest 43 = .ok (.aload_n 0, 1) := by decide +kernel
theorem dX10_digest_44 : decode cX10_digest 44 = .ok (.iload_n 3, 1) := by decide +kernel
theorem dX10_digest_45 : decode cX10_digest 45 = .ok (.invokevirtual 127, 3) := by decide +kernel
theorem dX10_digest_48 : decode cX10_digest 48 = .ok (.i2l, 1) := by decide +kernel
theorem dX10_digest_49 : decode cX10_digest 49 = .ok (.ladd, 1) := by decide +kernel
theorem dX10_digest_50 : decode cX10_digest 50 = .ok (.lstore_n 1, 1) := by decide +kernel
theorem dX10_digest_51 : decode cX10_digest 51 = .ok (.iinc 3 1, 3) := by decide +kernel
theorem dX10_digest_54 : decode cX10_digest 54 = .ok (.goto (-21), 3) := by decide +kernel
theorem dX10_digest_57 : decode cX10_digest 57 = .ok (.iconst 0, 1) := by decide +kernel
theorem dX10_digest_58 : decode cX10_digest 58 = .ok (.istore_n 3, 1) := by decide +kernel
theorem dX10_digest_59 : decode cX10_digest 59 = .ok (.iload_n 3, 1) := by decide +kernel
theorem dX10_digest_60 : decode cX10_digest 60 = .ok (.aload_n 0, 1) := by decide +kernel
theorem dX10_digest_61 : decode cX10_digest 61 = .ok (.getfield 88, 3) := by decide +kernel
theorem dX10_digest_64 : decode cX10_digest 64 = .ok (.if_icmp .ge 51, 3) := by decide +kernel
theorem dX10_digest_67 : decode cX10_digest 67 = .ok (.ldc2_w 297, 3) := by decide +kernel
theorem dX10_digest_70 : decode cX10_digest 70 = .ok (.lload_n 1, 1) := by decide +kernel
theorem dX10_digest_71 : decode cX10_digest 71 = .ok (.lmul, 1) := by decide +kernel
theorem dX10_digest_72 : decode cX10_digest 72 = .ok (.aload_n 0, 1) := by decide +kernel
theorem dX10_digest_73 : decode cX10_digest 73 = .ok (.getfield 16, 3) := by decide +kernel
theorem dX10_digest_76 : decode cX10_digest 76 = .ok (.iload_n 3, 1) := by decide +kernel
theorem dX10_digest_77 : decode cX10_digest 77 = .ok (.iaload, 1) := by decide +kernel
theorem dX10_digest_78 : decode cX10_digest 78 = .ok (.i2l, 1) := by decide +kernel
theorem dX10_digest_79 : decode cX10_digest 79 = .ok (.ladd, 1) := by decide +kernel
theorem dX10_digest_80 : decode cX10_digest 80 = .ok (.lstore_n 1, 1) := by decide +kernel
theorem dX10_digest_81 : decode cX10_digest 81 = .ok (.ldc2_w 297, 3) := by decide +kernel
theorem dX10_digest_84 : decode cX10_digest 84 = .ok (.lload_n 1, 1) := by decide +kernel
theorem dX10_digest_85 : decode cX10_digest 85 = .ok (.lmul, 1) := by decide +kernel
theorem dX10_digest_86 : decode cX10_digest 86 = .ok (.aload_n 0, 1) := by decide +kernel
theorem dX10_digest_87 : decode cX10_digest 87 = .ok (.iload_n 3, 1) := by decide +kernel
theorem dX10_digest_88 : decode cX10_digest 88 = .ok (.iconst 0, 1) := by decide +kernel
theorem dX10_digest_89 : decode cX10_digest 89 = .ok (.invokevirtual 196, 3) := by decide +kernel
theorem dX10_digest_92 : decode cX10_digest 92 = .ok (.i2l, 1) := by decide +kernel
theorem dX10_digest_93 : decode cX10_digest 93 = .ok (.ladd, 1) := by decide +kernel
theorem dX10_digest_94 : decode cX10_digest 94 = .ok (.lstore_n 1, 1) := by decide +kernel
theorem dX10_digest_95 : decode cX10_digest 95 = .ok (.ldc2_w 297, 3) := by decide +kernel
theorem dX10_digest_98 : decode cX10_digest 98 = .ok (.lload_n 1, 1) := by decide +kernel
theorem dX10_digest_99 : decode cX10_digest 99 = .ok (.lmul, 1) := by decide +kernel
theorem dX10_digest_100 : decode cX10_digest 100 = .ok (.aload_n 0, 1) := by decide +kernel
theorem dX10_digest_101 : decode cX10_digest 101 = .ok (.iload_n 3, 1) := by decide +kernel
theorem dX10_digest_102 : decode cX10_digest 102 = .ok (.iconst 1, 1) := by decide +kernel
theorem dX10_digest_103 : decode cX10_digest 103 = .ok (.invokevirtual 196, 3) := by decide +kernel
theorem dX10_digest_106 : decode cX10_digest 106 = .ok (.i2l, 1) := by decide +kernel
theorem dX10_digest_107 : decode cX10_digest 107 = .ok (.ladd, 1) := by decide +kernel
theorem dX10_digest_108 : decode cX10_digest 108 = .ok (.lstore_n 1, 1) := by decide +kernel
theorem dX10_digest_109 : decode cX10_digest 109 = .ok (.iinc 3 1, 3) := by decide +kernel
theorem dX10_digest_112 : decode cX10_digest 112 = .ok (.goto (-53), 3) := by decide +kernel
theorem dX10_digest_115 : decode cX10_digest 115 = .ok (.iconst 0, 1) := by decide +kernel
theorem dX10_digest_116 : decode cX10_digest 116 = .ok (.istore_n 3, 1) := by decide +kernel
theorem dX10_digest_117 : decode cX10_digest 117 = .ok (.iload_n 3, 1) := by decide +kernel
theorem dX10_digest_118 : decode cX10_digest 118 = .ok (.aload_n 0, 1) := by decide +kernel
theorem dX10_digest_119 : decode cX10_digest 119 = .ok (.getfield 101, 3) := by decide +kernel
theorem dX10_digest_122 : decode cX10_digest 122 = .ok (.if_icmp .ge 23, 3) := by decide +kernel
theorem dX10_digest_125 : decode cX10_digest 125 = .ok (.ldc2_w 297, 3) := by decide +kernel
theorem dX10_digest_128 : decode cX10_digest 128 = .ok (.lload_n 1, 1) := by decide +kernel
theorem dX10_digest_129 : decode cX10_digest 129 = .ok (.lmul, 1) := by decide +kernel
theorem dX10_digest_130 : decode cX10_digest 130 = .ok (.aload_n 0, 1) := by decide +kernel
theorem dX10_digest_131 : decode cX10_digest 131 = .ok (.getfield 19, 3) := by decide +kernel
theorem dX10_digest_134 : decode cX10_digest 134 = .ok (.iload_n 3, 1) := by decide +kernel
theorem dX10_digest_135 : decode cX10_digest 135 = .ok (.iaload, 1) := by decide +kernel
theorem dX10_digest_136 : decode cX10_digest 136 = .ok (.i2l, 1) := by decide +kernel
theorem dX10_digest_137 : decode cX10_digest 137 = .ok (.ladd, 1) := by decide +kernel
theorem dX10_digest_138 : decode cX10_digest 138 = .ok (.lstore_n 1, 1) := by decide +kernel
theorem dX10_digest_139 : decode cX10_digest 139 = .ok (.iinc 3 1, 3) := by decide +kernel
theorem dX10_digest_142 : decode cX10_digest 142 = .ok (.goto (-25), 3) := by decide +kernel
theorem dX10_digest_145 : decode cX10_digest 145 = .ok (.iconst 0, 1) := by decide +kernel
theorem dX10_digest_146 : decode cX10_digest 146 = .ok (.istore_n 3, 1) := by decide +kernel
theorem dX10_digest_147 : decode cX10_digest 147 = .ok (.iload_n 3, 1) := by decide +kernel
theorem dX10_digest_148 : decode cX10_digest 148 = .ok (.aload_n 0, 1) := by decide +kernel
theorem dX10_digest_149 : decode cX10_digest 149 = .ok (.getfield 111, 3) := by decide +kernel
theorem dX10_digest_152 : decode cX10_digest 152 = .ok (.if_icmp .ge 16, 3) := by decide +kernel
theorem dX10_digest_155 : decode cX10_digest 155 = .ok (.aload_n 0, 1) := by decide +kernel
theorem dX10_digest_156 : decode cX10_digest 156 = .ok (.lload_n 1, 1) := by decide +kernel
theorem dX10_digest_157 : decode cX10_digest 157 = .ok (.iload_n 3, 1) := by decide +kernel
theorem dX10_digest_158 : decode cX10_digest 158 = .ok (.invokevirtual 304, 3) := by decide +kernel
theorem dX10_digest_161 : decode cX10_digest 161 = .ok (.lstore_n 1, 1) := by decide +kernel
theorem dX10_digest_162 : decode cX10_digest 162 = .ok (.iinc 3 1, 3) := by decide +kernel
