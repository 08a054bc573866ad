set_option maxRecDepth 20000 in
theorem ggX10_readsBeat_X10_wayOf : GoodIn wsX10_readsBeat wsX10_wayOf := qw_e qk_X10_readsBeat qk_X10_wayOf (by decide +kernel)
set_option maxRecDepth 20000 in
theorem gX10_readsBeat_X10_wayOf : GoodIn wsX10_readsBeat (va_wsS RX10 108 yX10_wayOf wsX10_wayOf) := goodIn_app (qw_e qk_X10_readsBeat (QK_cons qw_733 (QK_cons qw_734 (QK_cons qw_996 QK_nil))) (by decide +kernel)) ggX10_readsBeat_X10_wayOf
theorem dX10_readsBeat_0 : decode cX10_readsBeat 0 = .ok (.aload_n 0, 1) := by decide +kernel
theorem dX10_readsBeat_1 : decode cX10_readsBeat 1 = .ok (.iconst 0, 1) := by decide +kernel
theorem dX10_readsBeat_2 : decode cX10_readsBeat 2 = .ok (.putfield 101, 3) := by decide +kernel
theorem dX10_readsBeat_5 : decode cX10_readsBeat 5 = .ok (.iconst 0, 1) := by decide +kernel
theorem dX10_readsBeat_6 : decode cX10_readsBeat 6 = .ok (.istore_n 1, 1) := by decide +kernel
theorem dX10_readsBeat_7 : decode cX10_readsBeat 7 = .ok (.iload_n 1, 1) := by decide +kernel
theorem dX10_readsBeat_8 : decode cX10_readsBeat 8 = .ok (.aload_n 0, 1) := by decide +kernel
theorem dX10_readsBeat_9 : decode cX10_readsBeat 9 = .ok (.getfield 7, 3) := by decide +kernel
theorem dX10_readsBeat_12 : decode cX10_readsBeat 12 = .ok (.iconst 1, 1) := by decide +kernel
theorem dX10_readsBeat_13 : decode cX10_readsBeat 13 = .ok (.iaload, 1) := by decide +kernel
theorem dX10_readsBeat_14 : decode cX10_readsBeat 14 = .ok (.if_icmp .ge 33, 3) := by decide +kernel
theorem dX10_readsBeat_17 : decode cX10_readsBeat 17 = .ok (.aload_n 0, 1) := by decide +kernel
theorem dX10_readsBeat_18 : decode cX10_readsBeat 18 = .ok (.iconst 1, 1) := by decide +kernel
theorem dX10_readsBeat_19 : decode cX10_readsBeat 19 = .ok (.iload_n 1, 1) := by decide +kernel
theorem dX10_readsBeat_20 : decode cX10_readsBeat 20 = .ok (.invokevirtual 104, 3) := by decide +kernel
theorem dX10_readsBeat_23 : decode cX10_readsBeat 23 = .ok (.invokestatic 108, 3) := by decide +kernel
theorem dX10_readsBeat_26 : decode cX10_readsBeat 26 = .ok (.istore_n 2, 1) := by decide +kernel
theorem dX10_readsBeat_27 : decode cX10_readsBeat 27 = .ok (.iload_n 2, 1) := by decide +kernel
theorem dX10_readsBeat_28 : decode cX10_readsBeat 28 = .ok (.iconst (-1), 1) := by decide +kernel
theorem dX10_readsBeat_29 : decode cX10_readsBeat 29 = .ok (.if_icmp .ne 5, 3) := by decide +kernel
theorem dX10_readsBeat_32 : decode cX10_readsBeat 32 = .ok (.iload_n 1, 1) := by decide +kernel
theorem dX10_readsBeat_33 : decode cX10_readsBeat 33 = .ok (.ireturn, 1) := by decide +kernel
theorem dX10_readsBeat_34 : decode cX10_readsBeat 34 = .ok (.aload_n 0, 1) := by decide +kernel
theorem dX10_readsBeat_35 : decode cX10_readsBeat 35 = .ok (.getfield 19, 3) := by decide +kernel
theorem dX10_readsBeat_38 : decode cX10_readsBeat 38 = .ok (.iload_n 1, 1) := by decide +kernel
theorem dX10_readsBeat_39 : decode cX10_readsBeat 39 = .ok (.iload_n 2, 1) := by decide +kernel
theorem dX10_readsBeat_40 : decode cX10_readsBeat 40 = .ok (.iastore, 1) := by decide +kernel
theorem dX10_readsBeat_41 : decode cX10_readsBeat 41 = .ok (.iinc 1 1, 3) := by decide +kernel
theorem dX10_readsBeat_44 : decode cX10_readsBeat 44 = .ok (.goto (-37), 3) := by decide +kernel
theorem dX10_readsBeat_47 : decode cX10_readsBeat 47 = .ok (.aload_n 0, 1) := by decide +kernel
theorem dX10_readsBeat_48 : decode cX10_readsBeat 48 = .ok (.aload_n 0, 1) := by decide +kernel
theorem dX10_readsBeat_49 : decode cX10_readsBeat 49 = .ok (.getfield 7, 3) := by decide +kernel
theorem dX10_readsBeat_52 : decode cX10_readsBeat 52 = .ok (.iconst 1, 1) := by decide +kernel
theorem dX10_readsBeat_53 : decode cX10_readsBeat 53 = .ok (.iaload, 1) := by decide +kernel
theorem dX10_readsBeat_54 : decode cX10_readsBeat 54 = .ok (.putfield 101, 3) := by decide +kernel
theorem dX10_readsBeat_57 : decode cX10_readsBeat 57 = .ok (.iconst (-1), 1) := by decide +kernel
theorem dX10_readsBeat_58 : decode cX10_readsBeat 58 = .ok (.ireturn, 1) := by decide +kernel
set_option maxRecDepth 20000 in
theorem ggX10_readsThief_X10_byteAt : GoodIn wsX10_readsThief wsX10_byteAt := qw_e qk_X10_readsThief qk_X10_byteAt (by decide +kernel)
set_option maxRecDepth 20000 in
theorem gX10_readsThief_X10_byteAt : GoodIn wsX10_readsThief (wsV RX10 104 RX10 yX10_byteAt wsX10_byteAt) := goodIn_app (qw_e qk_X10_readsThief (QK_cons qw_729 (QK_cons qw_730 (QK_cons qw_731 (QK_cons qw_996 QK_nil)))) (by decide +kernel)) ggX10_readsThief_X10_byteAt
set_option maxRecDepth 20000 in
theorem ggX10_readsThief_X10_in : GoodIn wsX10_readsThief wsX10_in := qw_e qk_X10_readsThief qk_X10_in (by decide +kernel)
set_option maxRecDepth 20000 in
theorem gX10_readsThief_X10_in : GoodIn wsX10_readsThief (va_wsS RX10 80 yX10_in wsX10_in) := goodIn_app (qw_e qk_X10_readsThief (QK_cons qw_779 (QK_cons qw_780 (QK_cons qw_996 QK_nil))) (by decide +kernel)) ggX10_readsThief_X10_in
theorem dX10_readsThief_0 : decode cX10_readsThief 0 = .ok (.aload_n 0, 1) := by decide +kernel
theorem dX10_readsThief_1 : decode cX10_readsThief 1 = .ok (.iconst 2, 1) := by decide +kernel
theorem dX10_readsThief_2 : decode cX10_readsThief 2 = .ok (.iload_n 2, 1) := by decide +kernel
theorem dX10_readsThief_3 : decode cX10_readsThief 3 = .ok (.invokevirtual 104, 3) := by decide +kernel
theorem dX10_readsThief_6 : decode cX10_readsThief 6 = .ok (.bipush 48, 2) := by decide +kernel
theorem dX10_readsThief_8 : decode cX10_readsThief 8 = .ok (.isub, 1) := by decide +kernel
theorem dX10_readsThief_9 : decode cX10_readsThief 9 = .ok (.istore_n 3, 1) := by decide +kernel
theorem dX10_readsThief_10 : decode cX10_readsThief 10 = .ok (.aload_n 0, 1) := by decide +kernel
theorem dX10_readsThief_11 : decode cX10_readsThief 11 = .ok (.iconst 2, 1) := by decide +kernel
theorem dX10_readsThief_12 : decode cX10_readsThief 12 = .ok (.iload_n 2, 1) := by decide +kernel
theorem dX10_readsThief_13 : decode cX10_readsThief 13 = .ok (.iconst 1, 1) := by decide +kernel
theorem dX10_readsThief_14 : decode cX10_readsThief 14 = .ok (.iadd, 1) := by decide +kernel
theorem dX10_readsThief_15 : decode cX10_readsThief 15 = .ok (.invokevirtual 104, 3) := by decide +kernel
theorem dX10_readsThief_18 : decode cX10_readsThief 18 = .ok (.bipush 48, 2) := by decide +kernel
theorem dX10_readsThief_20 : decode cX10_readsThief 20 = .ok (.isub, 1) := by decide +kernel
theorem dX10_readsThief_21 : decode cX10_readsThief 21 = .ok (.istore 4, 2) := by decide +kernel
theorem dX10_readsThief_23 : decode cX10_readsThief 23 = .ok (.aload_n 0, 1) := by decide +kernel
theorem dX10_readsThief_24 : decode cX10_readsThief 24 = .ok (.iconst 2, 1) := by decide +kernel
theorem dX10_readsThief_25 : decode cX10_readsThief 25 = .ok (.iload_n 2, 1) := by decide +kernel
theorem dX10_readsThief_26 : decode cX10_readsThief 26 = .ok (.iconst 2, 1) := by decide +kernel
theorem dX10_readsThief_27 : decode cX10_readsThief 27 = .ok (.iadd, 1) := by decide +kernel
theorem dX10_readsThief_28 : decode cX10_readsThief 28 = .ok (.invokevirtual 104, 3) := by decide +kernel
theorem dX10_readsThief_31 : decode cX10_readsThief 31 = .ok (.bipush 48, 2) := by decide +kernel
theorem dX10_readsThief_33 : decode cX10_readsThief 33 = .ok (.isub, 1) := by decide +kernel
theorem dX10_readsThief_34 : decode cX10_readsThief 34 = .ok (.istore 5, 2) := by decide +kernel
theorem dX10_readsThief_36 : decode cX10_readsThief 36 = .ok (.iload_n 3, 1) := by decide +kernel
theorem dX10_readsThief_37 : decode cX10_readsThief 37 = .ok (.iconst 0, 1) := by decide +kernel
theorem dX10_readsThief_38 : decode cX10_readsThief 38 = .ok (.iconst 3, 1) := by decide +kernel
theorem dX10_readsThief_39 : decode cX10_readsThief 39 = .ok (.invokestatic 80, 3) := by decide +kernel
theorem dX10_readsThief_42 : decode cX10_readsThief 42 = .ok (.ifCond .ne 5, 3) := by decide +kernel
theorem dX10_readsThief_45 : decode cX10_readsThief 45 = .ok (.iconst 0, 1) := by decide +kernel
theorem dX10_readsThief_46 : decode cX10_readsThief 46 = .ok (.ireturn, 1) := by decide +kernel
theorem dX10_readsThief_47 : decode cX10_readsThief 47 = .ok (.iload 4, 2) := by decide +kernel
theorem dX10_readsThief_49 : decode cX10_readsThief 49 = .ok (.iconst 0, 1) := by decide +kernel
theorem dX10_readsThief_50 : decode cX10_readsThief 50 = .ok (.bipush 9, 2) := by decide +kernel
theorem dX10_readsThief_52 : decode cX10_readsThief 52 = .ok (.invokestatic 80, 3) := by decide +kernel
theorem dX10_readsThief_55 : decode cX10_readsThief 55 = .ok (.ifCond .ne 5, 3) := by decide +kernel
theorem dX10_readsThief_58 : decode cX10_readsThief 58 = .ok (.iconst 1, 1) := by decide +kernel
theorem dX10_readsThief_59 : decode cX10_readsThief 59 = .ok (.ireturn, 1) := by decide +kernel
theorem dX10_readsThief_60 : decode cX10_readsThief 60 = .ok (.iload 5, 2) := by decide +kernel
theorem dX10_readsThief_62 : decode cX10_readsThief 62 = .ok (.iconst 1, 1) := by decide +kernel
theorem dX10_readsThief_63 : decode cX10_readsThief 63 = .ok (.bipush 9, 2) := by decide +kernel
theorem dX10_readsThief_65 : decode cX10_readsThief 65 = .ok (.invokestatic 80, 3) := by decide +kernel
theorem dX10_readsThief_68 : decode cX10_readsThief 68 = .ok (.ifCond .ne 5, 3) := by decide +kernel
theorem dX10_readsThief_71 : decode cX10_readsThief 71 = .ok (.iconst 2, 1) := by decide +kernel
theorem dX10_readsThief_72 : decode cX10_readsThief 72 = .ok (.ireturn, 1) := by decide +kernel
theorem dX10_readsThief_73 : decode cX10_readsThief 73 = .ok (.aload_n 0, 1) := by decide +kernel
theorem dX10_readsThief_74 : decode cX10_readsThief 74 = .ok (.getfield 22, 3) := by decide +kernel
theorem dX10_readsThief_77 : decode cX10_readsThief 77 = .ok (.iload_n 1, 1) := by decide +kernel
theorem dX10_readsThief_78 : decode cX10_readsThief 78 = .ok (.bipush 10, 2) := by decide +kernel
theorem dX10_readsThief_80 : decode cX10_readsThief 80 = .ok (.iload_n 3, 1) := by decide +kernel
theorem dX10_readsThief_81 : decode cX10_readsThief 81 = .ok (.imul, 1) := by decide +kernel
theorem dX10_readsThief_82 : decode cX10_readsThief 82 = .ok (.iload 4, 2) := by decide +kernel
theorem dX10_readsThief_84 : decode cX10_readsThief 84 = .ok (.iadd, 1) := by decide +kernel
theorem dX10_readsThief_85 : decode cX10_readsThief 85 = .ok (.iastore, 1) := by decide +kernel
theorem dX10_readsThief_86 : decode cX10_readsThief 86 = .ok (.aload_n 0, 1) := by decide +kernel
theorem dX10_readsThief_87 : decode cX10_readsThief 87 = .ok (.getfield 25, 3) := by decide +kernel
theorem dX10_readsThief_90 : decode cX10_readsThief 90 = .ok (.iload_n 1, 1) := by decide +kernel
theorem dX10_readsThief_91 : decode cX10_readsThief 91 = .ok (.iload 5, 2) := by decide +kernel
theorem dX10_readsThief_93 : decode cX10_readsThief 93 = .ok (.iastore, 1) := by decide +kernel
theorem dX10_readsThief_94 : decode cX10_readsThief 94 = .ok (.iconst 3, 1) := by decide +kernel
theorem dX10_readsThief_95 : decode cX10_readsThief 95 = .ok (.ireturn, 1) := by decide +kernel
set_option maxRecDepth 20000 in
theorem ggX10_readsThieves_X10_readsThief : GoodIn wsX10_readsThieves wsX10_readsThief := qw_e qk_X10_readsThieves qk_X10_readsThief (by decide +kernel)
set_option maxRecDepth 20000 in
theorem gX10_readsThieves_X10_readsThief : GoodIn wsX10_readsThieves (wsV RX10 114 RX10 yX10_readsThief wsX10_readsThief) := goodIn_app (qw_e qk_X10_readsThieves (QK_cons qw_741 (QK_cons qw_742 (QK_cons qw_743 (QK_cons qw_996 QK_nil)))) (by decide +kernel)) ggX10_readsThieves_X10_readsThief
set_option maxRecDepth 20000 in
theorem ggX10_readsThieves_X10_byteAt : GoodIn wsX10_readsThieves wsX10_byteAt := qw_e qk_X10_readsThieves qk_X10_byteAt (by decide +kernel)
set_option maxRecDepth 20000 in
theorem gX10_readsThieves_X10_byteAt : GoodIn wsX10_readsThieves (wsV RX10 104 RX10 yX10_byteAt wsX10_byteAt) := goodIn_app (qw_e qk_X10_readsThieves (QK_cons qw_729 (QK_cons qw_730 (QK_cons qw_731 (QK_cons qw_996 QK_nil)))) (by decide +kernel)) ggX10_readsThieves_X10_byteAt
theorem dX10_readsThieves_0 : decode cX10_readsThieves 0 = .ok (.iconst 0, 1) := by decide +kernel
theorem dX10_readsThieves_1 : decode cX10_readsThieves 1 = .ok (.istore_n 1, 1) := by decide +kernel
theorem dX10_readsThieves_2 : decode cX10_readsThieves 2 = .ok (.iconst 0, 1) := by decide +kernel
theorem dX10_readsThieves_3 : decode cX10_readsThieves 3 = .ok (.istore_n 2, 1) := by decide +kernel
theorem dX10_readsThieves_4 : decode cX10_readsThieves 4 = .ok (.aload_n 0, 1) := by decide +kernel
theorem dX10_readsThieves_5 : decode cX10_readsThieves 5 = .ok (.iconst 0, 1) := by decide +kernel
theorem dX10_readsThieves_6 : decode cX10_readsThieves 6 = .ok (.putfield 111, 3) := by decide +kernel
theorem dX10_readsThieves_9 : decode cX10_readsThieves 9 = .ok (.iload_n 2, 1) := by decide +kernel
theorem dX10_readsThieves_10 : decode cX10_readsThieves 10 = .ok (.aload_n 0, 1) := by decide +kernel
theorem dX10_readsThieves_11 : decode cX10_readsThieves 11 = .ok (.getfield 7, 3) := by decide +kernel
theorem dX10_readsThieves_14 : decode cX10_readsThieves 14 = .ok (.iconst 2, 1) := by decide +kernel
theorem dX10_readsThieves_15 : decode cX10_readsThieves 15 = .ok (.iaload, 1) := by decide +kernel
theorem dX10_readsThieves_16 : decode cX10_readsThieves 16 = .ok (.if_icmp .lt 7, 3) := by decide +kernel
theorem dX10_readsThieves_19 : decode cX10_readsThieves 19 = .ok (.iload_n 2, 1) := by decide +kernel
theorem dX10_readsThieves_20 : decode cX10_readsThieves 20 = .ok (.ifCond .le 71, 3) := by decide +kernel
theorem dX10_readsThieves_23 : decode cX10_readsThieves 23 = .ok (.iload_n 1, 1) := by decide +kernel
theorem dX10_readsThieves_24 : decode cX10_readsThieves 24 = .ok (.bipush 8, 2) := by decide +kernel
theorem dX10_readsThieves_26 : decode cX10_readsThieves 26 = .ok (.if_icmp .ne 7, 3) := by decide +kernel
theorem dX10_readsThieves_29 : decode cX10_readsThieves 29 = .ok (.iconst 0, 1) := by decide +kernel
theorem dX10_readsThieves_30 : decode cX10_readsThieves 30 = .ok (.goto 9, 3) := by decide +kernel
theorem dX10_readsThieves_33 : decode cX10_readsThieves 33 = .ok (.aload_n 0, 1) := by decide +kernel
theorem dX10_readsThieves_34 : decode cX10_readsThieves 34 = .ok (.iload_n 1, 1) := by decide +kernel
theorem dX10_readsThieves_35 : decode cX10_readsThieves 35 = .ok (.iload_n 2, 1) := by decide +kernel
theorem dX10_readsThieves_36 : decode cX10_readsThieves 36 = .ok (.invokevirtual 114, 3) := by decide +kernel
theorem dX10_readsThieves_39 : decode cX10_readsThieves 39 = .ok (.istore_n 3, 1) := by decide +kernel
theorem dX10_readsThieves_40 : decode cX10_readsThieves 40 = .ok (.iload_n 3, 1) := by decide +kernel
theorem dX10_readsThieves_41 : decode cX10_readsThieves 41 = .ok (.iconst 3, 1) := by decide +kernel
theorem dX10_readsThieves_42 : decode cX10_readsThieves 42 = .ok (.if_icmp .ge 7, 3) := by decide +kernel
theorem dX10_readsThieves_45 : decode cX10_readsThieves 45 = .ok (.iload_n 2, 1) := by decide +kernel
theorem dX10_readsThieves_46 : decode cX10_readsThieves 46 = .ok (.iload_n 3, 1) := by decide +kernel
theorem dX10_readsThieves_47 : decode cX10_readsThieves 47 = .ok (.iadd, 1) := by decide +kernel
theorem dX10_readsThieves_48 : decode cX10_readsThieves 48 = .ok (.ireturn, 1) := by decide +kernel
theorem dX10_readsThieves_49 : decode cX10_readsThieves 49 = .ok (.iinc 1 1, 3) := by decide +kernel
theorem dX10_readsThieves_52 : decode cX10_readsThieves 52 = .ok (.iinc 2 3, 3) := by decide +kernel
theorem dX10_readsThieves_55 : decode cX10_readsThieves 55 = .ok (.iload_n 2, 1) := by decide +kernel
theorem dX10_readsThieves_56 : decode cX10_readsThieves 56 = .ok (.aload_n 0, 1) := by decide +kernel
theorem dX10_readsThieves_57 : decode cX10_readsThieves 57 = .ok (.getfield 7, 3) := by decide +kernel
theorem dX10_readsThieves_60 : decode cX10_readsThieves 60 = .ok (.iconst 2, 1) := by decide +kernel
theorem dX10_readsThieves_61 : decode cX10_readsThieves 61 = .ok (.iaload, 1) := by decide +kernel
theorem dX10_readsThieves_62 : decode cX10_readsThieves 62 = .ok (.if_icmp .ne 10, 3) := by decide +kernel
theorem dX10_readsThieves_65 : decode cX10_readsThieves 65 = .ok (.aload_n 0, 1) := by decide +kernel
theorem dX10_readsThieves_66 : decode cX10_readsThieves 66 = .ok (.iload_n 1, 1) := by decide +kernel
theorem dX10_readsThieves_67 : decode cX10_readsThieves 67 = .ok (.putfield 111, 3) := by decide +kernel
theorem dX10_readsThieves_70 : decode cX10_readsThieves 70 = .ok (.iconst (-1), 1) := by decide +kernel
theorem dX10_readsThieves_71 : decode cX10_readsThieves 71 = .ok (.ireturn, 1) := by decide +kernel
theorem dX10_readsThieves_72 : decode cX10_readsThieves 72 = .ok (.aload_n 0, 1) := by decide +kernel
theorem dX10_readsThieves_73 : decode cX10_readsThieves 73 = .ok (.iconst 2, 1) := by decide +kernel
theorem dX10_readsThieves_74 : decode cX10_readsThieves 74 = .ok (.iload_n 2, 1) := by decide +kernel
theorem dX10_readsThieves_75 : decode cX10_readsThieves 75 = .ok (.invokevirtual 104, 3) := by decide +kernel
theorem dX10_readsThieves_78 : decode cX10_readsThieves 78 = .ok (.bipush 59, 2) := by decide +kernel
theorem dX10_readsThieves_80 : decode cX10_readsThieves 80 = .ok (.if_icmp .eq 5, 3) := by decide +kernel
theorem dX10_readsThieves_83 : decode cX10_readsThieves 83 = .ok (.iload_n 2, 1) := by decide +kernel
theorem dX10_readsThieves_84 : decode cX10_readsThieves 84 = .ok (.ireturn, 1) := by decide +kernel
theorem dX10_readsThieves_85 : decode cX10_readsThieves 85 = .ok (.iinc 2 1, 3) := by decide +kernel
theorem dX10_readsThieves_88 : decode cX10_readsThieves 88 = .ok (.goto (-79), 3) := by decide +kernel
theorem dX10_readsThieves_91 : decode cX10_readsThieves 91 = .ok (.iconst (-1), 1) := by decide +kernel
theorem dX10_readsThieves_92 : decode cX10_readsThieves 92 = .ok (.ireturn, 1) := by decide +kernel
set_option maxRecDepth 20000 in
theorem ggX10_faultOf_X10_readsWard : GoodIn wsX10_faultOf wsX10_readsWard := qw_e qk_X10_faultOf qk_X10_readsWard (by decide +kernel)
set_option maxRecDepth 20000 in
theorem gX10_faultOf_X10_readsWard : GoodIn wsX10_faultOf (wsV RX10 117 RX10 yX10_readsWard wsX10_readsWard) := goodIn_app (qw_e qk_X10_faultOf (QK_cons qw_762 (QK_cons qw_763 (QK_cons qw_764 (QK_cons qw_996 QK_nil)))) (by decide +kernel)) ggX10_faultOf_X10_readsWard
set_option maxRecDepth 20000 in
theorem ggX10_faultOf_X10_readsBeat : GoodIn wsX10_faultOf wsX10_readsBeat := qw_e qk_X10_faultOf qk_X10_readsBeat (by decide +kernel)
set_option maxRecDepth 20000 in
theorem gX10_faultOf_X10_readsBeat : GoodIn wsX10_faultOf (wsV RX10 121 RX10 yX10_readsBeat wsX10_readsBeat) := goodIn_app (qw_e qk_X10_faultOf (QK_cons qw_772 (QK_cons qw_773 (QK_cons qw_774 (QK_cons qw_996 QK_nil)))) (by decide +kernel)) ggX10_faultOf_X10_readsBeat
set_option maxRecDepth 20000 in
theorem ggX10_faultOf_X10_readsThieves : GoodIn wsX10_faultOf wsX10_readsThieves := qw_e qk_X10_faultOf qk_X10_readsThieves (by decide +kernel)
set_option maxRecDepth 20000 in
theorem gX10_faultOf_X10_readsThieves : GoodIn wsX10_faultOf (wsV RX10 124 RX10 yX10_readsThieves wsX10_readsThieves) := goodIn_app (qw_e qk_X10_faultOf (QK_cons qw_736 (QK_cons qw_737 (QK_cons qw_738 (QK_cons qw_996 QK_nil)))) (by decide +kernel)) ggX10_faultOf_X10_readsThieves
theorem dX10_faultOf_0 : decode cX10_faultOf 0 = .ok (.aload_n 0, 1) := by decide +kernel
theorem dX10_faultOf_1 : decode cX10_faultOf 1 = .ok (.invokevirtual 117, 3) := by decide +kernel
theorem dX10_faultOf_4 : decode cX10_faultOf 4 = .ok (.istore_n 2, 1) := by decide +kernel
theorem dX10_faultOf_5 : decode cX10_faultOf 5 = .ok (.aload_n 0, 1) := by decide +kernel
theorem dX10_faultOf_6 : decode cX10_faultOf 6 = .ok (.invokevirtual 121, 3) := by decide +kernel
theorem dX10_faultOf_9 : decode cX10_faultOf 9 = .ok (.istore_n 3, 1) := by decide +kernel
theorem dX10_faultOf_10 : decode cX10_faultOf 10 = .ok (.aload_n 0, 1) := by decide +kernel
theorem dX10_faultOf_11 : decode cX10_faultOf 11 = .ok (.invokevirtual 124, 3) := by decide +kernel
theorem dX10_faultOf_14 : decode cX10_faultOf 14 = .ok (.istore 4, 2) := by decide +kernel
theorem dX10_faultOf_16 : decode cX10_faultOf 16 = .ok (.iload_n 1, 1) := by decide +kernel
theorem dX10_faultOf_17 : decode cX10_faultOf 17 = .ok (.ifCond .ne 7, 3) := by decide +kernel
theorem dX10_faultOf_20 : decode cX10_faultOf 20 = .ok (.iload_n 2, 1) := by decide +kernel
theorem dX10_faultOf_21 : decode cX10_faultOf 21 = .ok (.goto 14, 3) := by decide +kernel
theorem dX10_faultOf_24 : decode cX10_faultOf 24 = .ok (.iload_n 1, 1) := by decide +kernel
theorem dX10_faultOf_25 : decode cX10_faultOf 25 = .ok (.iconst 1, 1) := by decide +kernel
theorem dX10_faultOf_26 : decode cX10_faultOf 26 = .ok (.if_icmp .ne 7, 3) := by decide +kernel
theorem dX10_faultOf_29 : decode cX10_faultOf 29 = .ok (.iload_n 3, 1) := by decide +kernel
theorem dX10_faultOf_30 : decode cX10_faultOf 30 = .ok (.goto 5, 3) := by decide +kernel
theorem dX10_faultOf_33 : decode cX10_faultOf 33 = .ok (.iload 4, 2) := by decide +kernel
theorem dX10_faultOf_35 : decode cX10_faultOf 35 = .ok (.ireturn, 1) := by decide +kernel
set_option maxRecDepth 20000 in
theorem ggX10_reads_X10_faultOf : GoodIn wsX10_reads wsX10_faultOf := qw_e qk_X10_reads qk_X10_faultOf (by decide +kernel)
set_option maxRecDepth 20000 in
theorem gX10_reads_X10_faultOf : GoodIn wsX10_reads (wsV RX10 127 RX10 yX10_faultOf wsX10_faultOf) := goodIn_app (qw_e qk_X10_reads (QK_cons qw_758 (QK_cons qw_759 (QK_cons qw_760 (QK_cons qw_996 QK_nil)))) (by decide +kernel)) ggX10_reads_X10_faultOf
theorem dX10_reads_0 : decode cX10_reads 0 = .ok (.aload_n 0, 1) := by decide +kernel
theorem dX10_reads_1 : decode cX10_reads 1 = .ok (.iconst 0, 1) := by decide +kernel
theorem dX10_reads_2 : decode cX10_reads 2 = .ok (.invokevirtual 127, 3) := by decide +kernel
theorem dX10_reads_5 : decode cX10_reads 5 = .ok (.istore_n 1, 1) := by decide +kernel
theorem dX10_reads_6 : decode cX10_reads 6 = .ok (.return_, 1) := by decide +kernel
set_option maxRecDepth 20000 in
theorem ggX10_fault_X10_isText : GoodIn wsX10_fault wsX10_isText := qw_e qk_X10_fault qk_X10_isText (by decide +kernel)
set_option maxRecDepth 20000 in
theorem gX10_fault_X10_isText : GoodIn wsX10_fault (va_wsS RX10 84 yX10_isText wsX10_isText) := goodIn_app (qw_e qk_X10_fault (QK_cons qw_776 (QK_cons qw_777 (QK_cons qw_996 QK_nil))) (by decide +kernel)) ggX10_fault_X10_isText
set_option maxRecDepth 20000 in
theorem ggX10_fault_X10_faultOf : GoodIn wsX10_fault wsX10_faultOf := qw_e qk_X10_fault qk_X10_faultOf (by decide +kernel)
set_option maxRecDepth 20000 in
theorem gX10_fault_X10_faultOf : GoodIn wsX10_fault (wsV RX10 127 RX10 yX10_faultOf wsX10_faultOf) := goodIn_app (qw_e qk_X10_fault (QK_cons qw_758 (QK_cons qw_759 (QK_cons qw_760 (QK_cons qw_996 QK_nil)))) (by decide +kernel)) ggX10_fault_X10_faultOf
theorem dX10_fault_0 : decode cX10_fault 0 = .ok (.iload_n 1, 1) := by decide +kernel
theorem dX10_fault_1 : decode cX10_fault 1 = .ok (.invokestatic 84, 3) := by decide +kernel
theorem dX10_fault_4 : decode cX10_fault 4 = .ok (.ifCond .eq 11, 3) := by decide +kernel
theorem dX10_fault_7 : decode cX10_fault 7 = .ok (.aload_n 0, 1) := by decide +kernel
theorem dX10_fault_8 : decode cX10_fault 8 = .ok (.iload_n 1, 1) := by decide +kernel
theorem dX10_fault_9 : decode cX10_fault 9 = .ok (.invokevirtual 127, 3) := by decide +kernel
theorem dX10_fault_12 : decode cX10_fault 12 = .ok (.goto 5, 3) := by decide +kernel
theorem dX10_fault_15 : decode cX10_fault 15 = .ok (.bipush (-2), 2) := by decide +kernel
theorem dX10_fault_17 : decode cX10_fault 17 = .ok (.ireturn, 1) := by decide +kernel
set_option maxRecDepth 20000 in
theorem ggX10_isCell_X10_reads : GoodIn wsX10_isCell wsX10_reads := qw_e qk_X10_isCell qk_X10_reads (by decide +kernel)
set_option maxRecDepth 20000 in
theorem gX10_isCell_X10_reads : GoodIn wsX10_isCell (wsV RX10 130 RX10 yX10_reads wsX10_reads) := goodIn_app (qw_e qk_X10_isCell (QK_cons qw_711 (QK_cons qw_712 (QK_cons qw_713 (QK_cons qw_996 QK_nil)))) (by decide +kernel)) ggX10_isCell_X10_reads
set_option maxRecDepth 20000 in
theorem ggX10_isCell_X10_in : GoodIn wsX10_isCell wsX10_in := qw_e qk_X10_isCell qk_X10_in (by decide +kernel)
set_option maxRecDepth 20000 in
theorem gX10_isCell_X10_in : GoodIn wsX10_isCell (va_wsS RX10 80 yX10_in wsX10_in) := goodIn_app (qw_e qk_X10_isCell (QK_cons qw_779 (QK_cons qw_780 (QK_cons qw_996 QK_nil))) (by decide +kernel)) ggX10_isCell_X10_in
theorem dX10_isCell_0 : decode cX10_isCell 0 = .ok (.aload_n 0, 1) := by decide +kernel
theorem dX10_isCell_1 : decode cX10_isCell 1 = .ok (.invokevirtual 130, 3) := by decide +kernel
theorem dX10_isCell_4 : decode cX10_isCell 4 = .ok (.iload_n 1, 1) := by decide +kernel
theorem dX10_isCell_5 : decode cX10_isCell 5 = .ok (.iconst 0, 1) := by decide +kernel
theorem dX10_isCell_6 : decode cX10_isCell 6 = .ok (.aload_n 0, 1) := by decide +kernel
theorem dX10_isCell_7 : decode cX10_isCell 7 = .ok (.getfield 88, 3) := by decide +kernel
theorem dX10_isCell_10 : decode cX10_isCell 10 = .ok (.iconst 1, 1) := by decide +kernel
theorem dX10_isCell_11 : decode cX10_isCell 11 = .ok (.isub, 1) := by decide +kernel
theorem dX10_isCell_12 : decode cX10_isCell 12 = .ok (.invokestatic 80, 3) := by decide +kernel
theorem dX10_isCell_15 : decode cX10_isCell 15 = .ok (.ireturn, 1) := by decide +kernel
set_option maxRecDepth 20000 in
theorem ggX10_isThief_X10_reads : GoodIn wsX10_isThief wsX10_reads := qw_e qk_X10_isThief qk_X10_reads (by decide +kernel)
set_option maxRecDepth 20000 in
theorem gX10_isThief_X10_reads : GoodIn wsX10_isThief (wsV RX10 130 RX10 yX10_reads wsX10_reads) := goodIn_app (qw_e qk_X10_isThief (QK_cons qw_711 (QK_cons qw_712 (QK_cons qw_713 (QK_cons qw_996 QK_nil)))) (by decide +kernel)) ggX10_isThief_X10_reads
set_option maxRecDepth 20000 in
theorem ggX10_isThief_X10_in : GoodIn wsX10_isThief wsX10_in := qw_e qk_X10_isThief qk_X10_in (by decide +kernel)
set_option maxRecDepth 20000 in
theorem gX10_isThief_X10_in : GoodIn wsX10_isThief (va_wsS RX10 80 yX10_in wsX10_in) := goodIn_app (qw_e qk_X10_isThief (QK_cons qw_779 (QK_cons qw_780 (QK_cons qw_996 QK_nil))) (by decide +kernel)) ggX10_isThief_X10_in
theorem dX10_isThief_0 : decode cX10_isThief 0 = .ok (.aload_n 0, 1) := by decide +kernel
theorem dX10_isThief_1 : decode cX10_isThief 1 = .ok (.invokevirtual 130, 3) := by decide +kernel
theorem dX10_isThief_4 : decode cX10_isThief 4 = .ok (.iload_n 1, 1) := by decide +kernel
theorem dX10_isThief_5 : decode cX10_isThief 5 = .ok (.iconst 0, 1) := by decide +kernel
theorem dX10_isThief_6 : decode cX10_isThief 6 = .ok (.aload_n 0, 1) := by decide +kernel
theorem dX10_isThief_7 : decode cX10_isThief 7 = .ok (.getfield 111, 3) := by decide +kernel
theorem dX10_isThief_10 : decode cX10_isThief 10 = .ok (.iconst 1, 1) := by decide +kernel
theorem dX10_isThief_11 : decode cX10_isThief 11 = .ok (.isub, 1) := by decide +kernel
theorem dX10_isThief_12 : decode cX10_isThief 12 = .ok (.invokestatic 80, 3) := by decide +kernel
theorem dX10_isThief_15 : decode cX10_isThief 15 = .ok (.ireturn, 1) := by decide +kernel
set_option maxRecDepth 20000 in
theorem ggX10_cell_X10_in : GoodIn wsX10_cell wsX10_in := qw_e qk_X10_cell qk_X10_in (by decide +kernel)
set_option maxRecDepth 20000 in
theorem gX10_cell_X10_in : GoodIn wsX10_cell (va_wsS RX10 80 yX10_in wsX10_in) := goodIn_app (qw_e qk_X10_cell (QK_cons qw_779 (QK_cons qw_780 (QK_cons qw_996 QK_nil))) (by decide +kernel)) ggX10_cell_X10_in
set_option maxRecDepth 20000 in
theorem ggX10_cell_X10_isCell : GoodIn wsX10_cell wsX10_isCell := qw_e qk_X10_cell qk_X10_isCell (by decide +kernel)
set_option maxRecDepth 20000 in
theorem gX10_cell_X10_isCell : GoodIn wsX10_cell (wsV RX10 133 RX10 yX10_isCell wsX10_isCell) := goodIn_app (qw_e qk_X10_cell (QK_cons qw_707 (QK_cons qw_708 (QK_cons qw_709 (QK_cons qw_996 QK_nil)))) (by decide +kernel)) ggX10_cell_X10_isCell
theorem dX10_cell_0 : decode cX10_cell 0 = .ok (.iload_n 1, 1) := by decide +kernel
theorem dX10_cell_1 : decode cX10_cell 1 = .ok (.iconst 0, 1) := by decide +kernel
theorem dX10_cell_2 : decode cX10_cell 2 = .ok (.bipush 35, 2) := by decide +kernel
theorem dX10_cell_4 : decode cX10_cell 4 = .ok (.invokestatic 80, 3) := by decide +kernel
theorem dX10_cell_7 : decode cX10_cell 7 = .ok (.ifCond .eq 24, 3) := by decide +kernel
theorem dX10_cell_10 : decode cX10_cell 10 = .ok (.aload_n 0, 1) := by decide +kernel
theorem dX10_cell_11 : decode cX10_cell 11 = .ok (.iload_n 1, 1) := by decide +kernel
theorem dX10_cell_12 : decode cX10_cell 12 = .ok (.invokevirtual 133, 3) := by decide +kernel
theorem dX10_cell_15 : decode cX10_cell 15 = .ok (.ifCond .eq 12, 3) := by decide +kernel
theorem dX10_cell_18 : decode cX10_cell 18 = .ok (.aload_n 0, 1) := by decide +kernel
theorem dX10_cell_19 : decode cX10_cell 19 = .ok (.getfield 16, 3) := by decide +kernel
theorem dX10_cell_22 : decode cX10_cell 22 = .ok (.iload_n 1, 1) := by decide +kernel
theorem dX10_cell_23 : decode cX10_cell 23 = .ok (.iaload, 1) := by decide +kernel
theorem dX10_cell_24 : decode cX10_cell 24 = .ok (.goto 9, 3) := by decide +kernel
theorem dX10_cell_27 : decode cX10_cell 27 = .ok (.iconst (-1), 1) := by decide +kernel
theorem dX10_cell_28 : decode cX10_cell 28 = .ok (.goto 5, 3) := by decide +kernel
theorem dX10_cell_31 : decode cX10_cell 31 = .ok (.bipush (-2), 2) := by decide +kernel
theorem dX10_cell_33 : decode cX10_cell 33 = .ok (.ireturn, 1) := by decide +kernel
set_option maxRecDepth 20000 in
theorem ggX10_beatOf_X10_reads : GoodIn wsX10_beatOf wsX10_reads := qw_e qk_X10_beatOf qk_X10_reads (by decide +kernel)
set_option maxRecDepth 20000 in
theorem gX10_beatOf_X10_reads : GoodIn wsX10_beatOf (wsV RX10 130 RX10 yX10_reads wsX10_reads) := goodIn_app (qw_e qk_X10_beatOf (QK_cons qw_711 (QK_cons qw_712 (QK_cons qw_713 (QK_cons qw_996 QK_nil)))) (by decide +kernel)) ggX10_beatOf_X10_reads
theorem dX10_beatOf_0 : decode cX10_beatOf 0 = .ok (.aload_n 0, 1) := by decide +kernel
theorem dX10_beatOf_1 : decode cX10_beatOf 1 = .ok (.invokevirtual 130, 3) := by decide +kernel
theorem dX10_beatOf_4 : decode cX10_beatOf 4 = .ok (.iload_n 1, 1) := by decide +kernel
theorem dX10_beatOf_5 : decode cX10_beatOf 5 = .ok (.aload_n 0, 1) := by decide +kernel
theorem dX10_beatOf_6 : decode cX10_beatOf 6 = .ok (.getfield 101, 3) := by decide +kernel
theorem dX10_beatOf_9 : decode cX10_beatOf 9 = .ok (.if_icmp .ge 12, 3) := by decide +kernel
theorem dX10_beatOf_12 : decode cX10_beatOf 12 = .ok (.aload_n 0, 1) := by decide +kernel
theorem dX10_beatOf_13 : decode cX10_beatOf 13 = .ok (.getfield 19, 3) := by decide +kernel
theorem dX10_beatOf_16 : decode cX10_beatOf 16 = .ok (.iload_n 1, 1) := by decide +kernel
theorem dX10_beatOf_17 : decode cX10_beatOf 17 = .ok (.iaload, 1) := by decide +kernel
theorem dX10_beatOf_18 : decode cX10_beatOf 18 = .ok (.goto 4, 3) := by decide +kernel
theorem dX10_beatOf_21 : decode cX10_beatOf 21 = .ok (.iconst (-1), 1) := by decide +kernel
theorem dX10_beatOf_22 : decode cX10_beatOf 22 = .ok (.ireturn, 1) := by decide +kernel
set_option maxRecDepth 20000 in
theorem ggX10_beat_X10_in : GoodIn wsX10_beat wsX10_in := qw_e qk_X10_beat qk_X10_in (by decide +kernel)
set_option maxRecDepth 20000 in
theorem gX10_beat_X10_in : GoodIn wsX10_beat (va_wsS RX10 80 yX10_in wsX10_in) := goodIn_app (qw_e qk_X10_beat (QK_cons qw_779 (QK_cons qw_780 (QK_cons qw_996 QK_nil))) (by decide +kernel)) ggX10_beat_X10_in
set_option maxRecDepth 20000 in
theorem ggX10_beat_X10_beatOf : GoodIn wsX10_beat wsX10_beatOf := qw_e qk_X10_beat qk_X10_beatOf (by decide +kernel)
set_option maxRecDepth 20000 in
theorem gX10_beat_X10_beatOf : GoodIn wsX10_beat (wsV RX10 136 RX10 yX10_beatOf wsX10_beatOf) := goodIn_app (qw_e qk_X10_beat (QK_cons qw_725 (QK_cons qw_726 (QK_cons qw_679 (QK_cons qw_996 QK_nil)))) (by decide +kernel)) ggX10_beat_X10_beatOf
theorem dX10_beat_0 : decode cX10_beat 0 = .ok (.iload_n 1, 1) := by decide +kernel
theorem dX10_beat_1 : decode cX10_beat 1 = .ok (.iconst 0, 1) := by decide +kernel
theorem dX10_beat_2 : decode cX10_beat 2 = .ok (.bipush 23, 2) := by decide +kernel
theorem dX10_beat_4 : decode cX10_beat 4 = .ok (.invokestatic 80, 3) := by decide +kernel
theorem dX10_beat_7 : decode cX10_beat 7 = .ok (.ifCond .eq 11, 3) := by decide +kernel
theorem dX10_beat_10 : decode cX10_beat 10 = .ok (.aload_n 0, 1) := by decide +kernel
theorem dX10_beat_11 : decode cX10_beat 11 = .ok (.iload_n 1, 1) := by decide +kernel
theorem dX10_beat_12 : decode cX10_beat 12 = .ok (.invokevirtual 136, 3) := by decide +kernel
theorem dX10_beat_15 : decode cX10_beat 15 = .ok (.goto 5, 3) := by decide +kernel
theorem dX10_beat_18 : decode cX10_beat 18 = .ok (.bipush (-2), 2) := by decide +kernel
theorem dX10_beat_20 : decode cX10_beat 20 = .ok (.ireturn, 1) := by decide +kernel
set_option maxRecDepth 20000 in
theorem ggX10_thief_X10_isThief : GoodIn wsX10_thief wsX10_isThief := qw_e qk_X10_thief qk_X10_isThief (by decide +kernel)
set_option maxRecDepth 20000 in
theorem gX10_thief_X10_isThief : GoodIn wsX10_thief (wsV RX10 139 RX10 yX10_isThief wsX10_isThief) := goodIn_app (qw_e qk_X10_thief (QK_cons qw_699 (QK_cons qw_700 (QK_cons qw_701 (QK_cons qw_996 QK_nil)))) (by decide +kernel)) ggX10_thief_X10_isThief
set_option maxRecDepth 20000 in
theorem ggX10_thief_X10_in : GoodIn wsX10_thief wsX10_in := qw_e qk_X10_thief qk_X10_in (by decide +kernel)
set_option maxRecDepth 20000 in
theorem gX10_thief_X10_in : GoodIn wsX10_thief (va_wsS RX10 80 yX10_in wsX10_in) := goodIn_app (qw_e qk_X10_thief (QK_cons qw_779 (QK_cons qw_780 (QK_cons qw_996 QK_nil))) (by decide +kernel)) ggX10_thief_X10_in
theorem dX10_thief_0 : decode cX10_thief 0 = .ok (.aload_n 0, 1) := by decide +kernel
theorem dX10_thief_1 : decode cX10_thief 1 = .ok (.iload_n 1, 1) := by decide +kernel
theorem dX10_thief_2 : decode cX10_thief 2 = .ok (.invokevirtual 139, 3) := by decide +kernel
theorem dX10_thief_5 : decode cX10_thief 5 = .ok (.ifCond .eq 34, 3) := by decide +kernel
theorem dX10_thief_8 : decode cX10_thief 8 = .ok (.iload_n 2, 1) := by decide +kernel
theorem dX10_thief_9 : decode cX10_thief 9 = .ok (.iconst 0, 1) := by decide +kernel
theorem dX10_thief_10 : decode cX10_thief 10 = .ok (.iconst 1, 1) := by decide +kernel
theorem dX10_thief_11 : decode cX10_thief 11 = .ok (.invokestatic 80, 3) := by decide +kernel
theorem dX10_thief_14 : decode cX10_thief 14 = .ok (.ifCond .eq 25, 3) := by decide +kernel
theorem dX10_thief_17 : decode cX10_thief 17 = .ok (.iload_n 2, 1) := by decide +kernel
theorem dX10_thief_18 : decode cX10_thief 18 = .ok (.ifCond .ne 12, 3) := by decide +kernel
theorem dX10_thief_21 : decode cX10_thief 21 = .ok (.aload_n 0, 1) := by decide +kernel
theorem dX10_thief_22 : decode cX10_thief 22 = .ok (.getfield 22, 3) := by decide +kernel
theorem dX10_thief_25 : decode cX10_thief 25 = .ok (.iload_n 1, 1) := by decide +kernel
theorem dX10_thief_26 : decode cX10_thief 26 = .ok (.iaload, 1) := by decide +kernel
theorem dX10_thief_27 : decode cX10_thief 27 = .ok (.goto 14, 3) := by decide +kernel
theorem dX10_thief_30 : decode cX10_thief 30 = .ok (.aload_n 0, 1) := by decide +kernel
theorem dX10_thief_31 : decode cX10_thief 31 = .ok (.getfield 25, 3) := by decide +kernel
theorem dX10_thief_34 : decode cX10_thief 34 = .ok (.iload_n 1, 1) := by decide +kernel
theorem dX10_thief_35 : decode cX10_thief 35 = .ok (.iaload, 1) := by decide +kernel
theorem dX10_thief_36 : decode cX10_thief 36 = .ok (.goto 5, 3) := by decide +kernel
theorem dX10_thief_39 : decode cX10_thief 39 = .ok (.bipush (-2), 2) := by decide +kernel
theorem dX10_thief_41 : decode cX10_thief 41 = .ok (.ireturn, 1) := by decide +kernel
set_option maxRecDepth 20000 in
theorem ggX10_set_X10_in : GoodIn wsX10_set wsX10_in := qw_e qk_X10_set qk_X10_in (by decide +kernel)
set_option maxRecDepth 20000 in
theorem gX10_set_X10_in : GoodIn wsX10_set (va_wsS RX10 80 yX10_in wsX10_in) := goodIn_app (qw_e qk_X10_set (QK_cons qw_779 (QK_cons qw_780 (QK_cons qw_996 QK_nil))) (by decide +kernel)) ggX10_set_X10_in
theorem dX10_set_0 : decode cX10_set 0 = .ok (.iload_n 1, 1) := by decide +kernel
theorem dX10_set_1 : decode cX10_set 1 = .ok (.iconst 0, 1) := by decide +kernel
theorem dX10_set_2 : decode cX10_set 2 = .ok (.iconst 3, 1) := by decide +kernel
theorem dX10_set_3 : decode cX10_set 3 = .ok (.invokestatic 80, 3) := by decide +kernel
theorem dX10_set_6 : decode cX10_set 6 = .ok (.ifCond .eq 31, 3) := by decide +kernel
theorem dX10_set_9 : decode cX10_set 9 = .ok (.iload_n 2, 1) := by decide +kernel
theorem dX10_set_10 : decode cX10_set 10 = .ok (.iconst 0, 1) := by decide +kernel
theorem dX10_set_11 : decode cX10_set 11 = .ok (.iload_n 1, 1) := by decide +kernel
theorem dX10_set_12 : decode cX10_set 12 = .ok (.ifCond .ne 8, 3) := by decide +kernel
theorem dX10_set_15 : decode cX10_set 15 = .ok (.bipush 35, 2) := by decide +kernel
theorem dX10_set_17 : decode cX10_set 17 = .ok (.goto 14, 3) := by decide +kernel
theorem dX10_set_20 : decode cX10_set 20 = .ok (.iload_n 1, 1) := by decide +kernel
theorem dX10_set_21 : decode cX10_set 21 = .ok (.iconst 3, 1) := by decide +kernel
theorem dX10_set_22 : decode cX10_set 22 = .ok (.if_icmp .ne 7, 3) := by decide +kernel
theorem dX10_set_25 : decode cX10_set 25 = .ok (.iconst 1, 1) := by decide +kernel
theorem dX10_set_26 : decode cX10_set 26 = .ok (.goto 5, 3) := by decide +kernel
theorem dX10_set_29 : decode cX10_set 29 = .ok (.bipush 9, 2) := by decide +kernel
theorem dX10_set_31 : decode cX10_set 31 = .ok (.invokestatic 80, 3) := by decide +kernel
theorem dX10_set_34 : decode cX10_set 34 = .ok (.ifCond .ne 6, 3) := by decide +kernel
theorem dX10_set_37 : decode cX10_set 37 = .ok (.bipush (-2), 2) := by decide +kernel
theorem dX10_set_39 : decode cX10_set 39 = .ok (.ireturn, 1) := by decide +kernel
theorem dX10_set_40 : decode cX10_set 40 = .ok (.iload_n 1, 1) := by decide +kernel
theorem dX10_set_41 : decode cX10_set 41 = .ok (.ifCond .ne 10, 3) := by decide +kernel
theorem dX10_set_44 : decode cX10_set 44 = .ok (.aload_n 0, 1) := by decide +kernel
theorem dX10_set_45 : decode cX10_set 45 = .ok (.getfield 142, 3) := by decide +kernel
theorem dX10_set_48 : decode cX10_set 48 = .ok (.goto 31, 3) := by decide +kernel
theorem dX10_set_51 : decode cX10_set 51 = .ok (.iload_n 1, 1) := by decide +kernel
theorem dX10_set_52 : decode cX10_set 52 = .ok (.iconst 1, 1) := by decide +kernel
theorem dX10_set_53 : decode cX10_set 53 = .ok (.if_icmp .ne 10, 3) := by decide +kernel
theorem dX10_set_56 : decode cX10_set 56 = .ok (.aload_n 0, 1) := by decide +kernel
theorem dX10_set_57 : decode cX10_set 57 = .ok (.getfield 71, 3) := by decide +kernel
theorem dX10_set_60 : decode cX10_set 60 = .ok (.goto 19, 3) := by decide +kernel
theorem dX10_set_63 : decode cX10_set 63 = .ok (.iload_n 1, 1) := by decide +kernel
theorem dX10_set_64 : decode cX10_set 64 = .ok (.iconst 2, 1) := by decide +kernel
theorem dX10_set_65 : decode cX10_set 65 = .ok (.if_icmp .ne 10, 3) := by decide +kernel
theorem dX10_set_68 : decode cX10_set 68 = .ok (.aload_n 0, 1) := by decide +kernel
theorem dX10_set_69 : decode cX10_set 69 = .ok (.getfield 75, 3) := by decide +kernel
theorem dX10_set_72 : decode cX10_set 72 = .ok (.goto 7, 3) := by decide +kernel
theorem dX10_set_75 : decode cX10_set 75 = .ok (.aload_n 0, 1) := by decide +kernel
theorem dX10_set_76 : decode cX10_set 76 = .ok (.getfield 145, 3) := by decide +kernel
theorem dX10_set_79 : decode cX10_set 79 = .ok (.istore_n 3, 1) := by decide +kernel
theorem dX10_set_80 : decode cX10_set 80 = .ok (.aload_n 0, 1) := by decide +kernel
theorem dX10_set_81 : decode cX10_set 81 = .ok (.iload_n 1, 1) := by decide +kernel
theorem dX10_set_82 : decode cX10_set 82 = .ok (.ifCond .ne 7, 3) := by decide +kernel
theorem dX10_set_85 : decode cX10_set 85 = .ok (.iload_n 2, 1) := by decide +kernel
theorem dX10_set_86 : decode cX10_set 86 = .ok (.goto 7, 3) := by decide +kernel
theorem dX10_set_89 : decode cX10_set 89 = .ok (.aload_n 0, 1) := by decide +kernel
theorem dX10_set_90 : decode cX10_set 90 = .ok (.getfield 142, 3) := by decide +kernel
theorem dX10_set_93 : decode cX10_set 93 = .ok (.putfield 142, 3) := by decide +kernel
theorem dX10_set_96 : decode cX10_set 96 = .ok (.aload_n 0, 1) := by decide +kernel
theorem dX10_set_97 : decode cX10_set 97 = .ok (.iload_n 1, 1) := by decide +kernel
theorem dX10_set_98 : decode cX10_set 98 = .ok (.iconst 1, 1) := by decide +kernel
theorem dX10_set_99 : decode cX10_set 99 = .ok (.if_icmp .ne 7, 3) := by decide +kernel
theorem dX10_set_102 : decode cX10_set 102 = .ok (.iload_n 2, 1) := by decide +kernel
theorem dX10_set_103 : decode cX10_set 103 = .ok (.goto 7, 3) := by decide +kernel
theorem dX10_set_106 : decode cX10_set 106 = .ok (.aload_n 0, 1) := by decide +kernel
theorem dX10_set_107 : decode cX10_set 107 = .ok (.getfield 71, 3) := by decide +kernel
theorem dX10_set_110 : decode cX10_set 110 = .ok (.putfield 71, 3) := by decide +kernel
theorem dX10_set_113 : decode cX10_set 113 = .ok (.aload_n 0, 1) := by decide +kernel
theorem dX10_set_114 : decode cX10_set 114 = .ok (.iload_n 1, 1) := by decide +kernel
theorem dX10_set_115 : decode cX10_set 115 = .ok (.iconst 2, 1) := by decide +kernel
theorem dX10_set_116 : decode cX10_set 116 = .ok (.if_icmp .ne 7, 3) := by decide +kernel
theorem dX10_set_119 : decode cX10_set 119 = .ok (.iload_n 2, 1) := by decide +kernel
theorem dX10_set_120 : decode cX10_set 120 = .ok (.goto 7, 3) := by decide +kernel
theorem dX10_set_123 : decode cX10_set 123 = .ok (.aload_n 0, 1) := by decide +kernel
theorem dX10_set_124 : decode cX10_set 124 = .ok (.getfield 75, 3) := by decide +kernel
theorem dX10_set_127 : decode cX10_set 127 = .ok (.putfield 75, 3) := by decide +kernel
theorem dX10_set_130 : decode cX10_set 130 = .ok (.aload_n 0, 1) := by decide +kernel
theorem dX10_set_131 : decode cX10_set 131 = .ok (.iload_n 1, 1) := by decide +kernel
theorem dX10_set_132 : decode cX10_set 132 = .ok (.iconst 3, 1) := by decide +kernel
theorem dX10_set_133 : decode cX10_set 133 = .ok (.if_icmp .ne 7, 3) := by decide +kernel
theorem dX10_set_136 : decode cX10_set 136 = .ok (.iload_n 2, 1) := by decide +kernel
theorem dX10_set_137 : decode cX10_set 137 = .ok (.goto 7, 3) := by decide +kernel
theorem dX10_set_140 : decode cX10_set 140 = .ok (.aload_n 0, 1) := by decide +kernel
theorem dX10_set_141 : decode cX10_set 141 = .ok (.getfield 145, 3) := by decide +kernel
theorem dX10_set_144 : decode cX10_set 144 = .ok (.putfield 145, 3) := by decide +kernel
theorem dX10_set_147 : decode cX10_set 147 = .ok (.iload_n 3, 1) := by decide +kernel
theorem dX10_set_148 : decode cX10_set 148 = .ok (.ireturn, 1) := by decide +kernel
theorem dX10_isFor_0 : decode cX10_isFor 0 = .ok (.aload_n 0, 1) := by decide +kernel
theorem dX10_isFor_1 : decode cX10_isFor 1 = .ok (.getfield 16, 3) := by decide +kernel
theorem dX10_isFor_4 : decode cX10_isFor 4 = .ok (.iload_n 1, 1) := by decide +kernel
theorem dX10_isFor_5 : decode cX10_isFor 5 = .ok (.iaload, 1) := by decide +kernel
theorem dX10_isFor_6 : decode cX10_isFor 6 = .ok (.istore_n 2, 1) := by decide +kernel
theorem dX10_isFor_7 : decode cX10_isFor 7 = .ok (.iload_n 2, 1) := by decide +kernel
theorem dX10_isFor_8 : decode cX10_isFor 8 = .ok (.ifCond .eq 35, 3) := by decide +kernel
theorem dX10_isFor_11 : decode cX10_isFor 11 = .ok (.iload_n 2, 1) := by decide +kernel
theorem dX10_isFor_12 : decode cX10_isFor 12 = .ok (.iconst 2, 1) := by decide +kernel
theorem dX10_isFor_13 : decode cX10_isFor 13 = .ok (.if_icmp .eq 30, 3) := by decide +kernel
theorem dX10_isFor_16 : decode cX10_isFor 16 = .ok (.iload_n 2, 1) := by decide +kernel
theorem dX10_isFor_17 : decode cX10_isFor 17 = .ok (.iconst 3, 1) := by decide +kernel
theorem dX10_isFor_18 : decode cX10_isFor 18 = .ok (.if_icmp .ne 12, 3) := by decide +kernel
theorem dX10_isFor_21 : decode cX10_isFor 21 = .ok (.aload_n 0, 1) := by decide +kernel
theorem dX10_isFor_22 : decode cX10_isFor 22 = .ok (.getfield 71, 3) := by decide +kernel
theorem dX10_isFor_25 : decode cX10_isFor 25 = .ok (.bipush 8, 2) := by decide +kernel
theorem dX10_isFor_27 : decode cX10_isFor 27 = .ok (.if_icmp .lt 16, 3) := by decide +kernel
theorem dX10_isFor_30 : decode cX10_isFor 30 = .ok (.iload_n 2, 1) := by decide +kernel
theorem dX10_isFor_31 : decode cX10_isFor 31 = .ok (.iconst 4, 1) := by decide +kernel
theorem dX10_isFor_32 : decode cX10_isFor 32 = .ok (.if_icmp .ne 15, 3) := by decide +kernel
theorem dX10_isFor_35 : decode cX10_isFor 35 = .ok (.aload_n 0, 1) := by decide +kernel
theorem dX10_isFor_36 : decode cX10_isFor 36 = .ok (.getfield 71, 3) := by decide +kernel
theorem dX10_isFor_39 : decode cX10_isFor 39 = .ok (.iconst 3, 1) := by decide +kernel
theorem dX10_isFor_40 : decode cX10_isFor 40 = .ok (.if_icmp .ge 7, 3) := by decide +kernel
theorem dX10_isFor_43 : decode cX10_isFor 43 = .ok (.iconst 1, 1) := by decide +kernel
theorem dX10_isFor_44 : decode cX10_isFor 44 = .ok (.goto 4, 3) := by decide +kernel
theorem dX10_isFor_47 : decode cX10_isFor 47 = .ok (.iconst 0, 1) := by decide +kernel
theorem dX10_isFor_48 : decode cX10_isFor 48 = .ok (.ireturn, 1) := by decide +kernel
set_option maxRecDepth 20000 in
theorem ggX10_beside_X10_in : GoodIn wsX10_beside wsX10_in := qw_e qk_X10_beside qk_X10_in (by decide +kernel)
set_option maxRecDepth 20000 in
theorem gX10_beside_X10_in : GoodIn wsX10_beside (va_wsS RX10 80 yX10_in wsX10_in) := goodIn_app (qw_e qk_X10_beside (QK_cons qw_779 (QK_cons qw_780 (QK_cons qw_996 QK_nil))) (by decide +kernel)) ggX10_beside_X10_in
theorem dX10_beside_0 : decode cX10_beside 0 = .ok (.iload_n 2, 1) := by decide +kernel
theorem dX10_beside_1 : decode cX10_beside 1 = .ok (.ifCond .ne 12, 3) := by decide +kernel
theorem dX10_beside_4 : decode cX10_beside 4 = .ok (.iload_n 1, 1) := by decide +kernel
theorem dX10_beside_5 : decode cX10_beside 5 = .ok (.aload_n 0, 1) := by decide +kernel
theorem dX10_beside_6 : decode cX10_beside 6 = .ok (.getfield 94, 3) := by decide +kernel
theorem dX10_beside_9 : decode cX10_beside 9 = .ok (.isub, 1) := by decide +kernel
theorem dX10_beside_10 : decode cX10_beside 10 = .ok (.goto 72, 3) := by decide +kernel
theorem dX10_beside_13 : decode cX10_beside 13 = .ok (.iload_n 2, 1) := by decide +kernel
theorem dX10_beside_14 : decode cX10_beside 14 = .ok (.iconst 1, 1) := by decide +kernel
theorem dX10_beside_15 : decode cX10_beside 15 = .ok (.if_icmp .ne 28, 3) := by decide +kernel
theorem dX10_beside_18 : decode cX10_beside 18 = .ok (.iload_n 1, 1) := by decide +kernel
theorem dX10_beside_19 : decode cX10_beside 19 = .ok (.aload_n 0, 1) := by decide +kernel
theorem dX10_beside_20 : decode cX10_beside 20 = .ok (.getfield 94, 3) := by decide +kernel
theorem dX10_beside_23 : decode cX10_beside 23 = .ok (.irem, 1) := by decide +kernel
theorem dX10_beside_24 : decode cX10_beside 24 = .ok (.aload_n 0, 1) := by decide +kernel
theorem dX10_beside_25 : decode cX10_beside 25 = .ok (.getfield 94, 3) := by decide +kernel
theorem dX10_beside_28 : decode cX10_beside 28 = .ok (.iconst 1, 1) := by decide +kernel
theorem dX10_beside_29 : decode cX10_beside 29 = .ok (.isub, 1) := by decide +kernel
theorem dX10_beside_30 : decode cX10_beside 30 = .ok (.if_icmp .ge 9, 3) := by decide +kernel
theorem dX10_beside_33 : decode cX10_beside 33 = .ok (.iload_n 1, 1) := by decide +kernel
theorem dX10_beside_34 : decode cX10_beside 34 = .ok (.iconst 1, 1) := by decide +kernel
theorem dX10_beside_35 : decode cX10_beside 35 = .ok (.iadd, 1) := by decide +kernel
theorem dX10_beside_36 : decode cX10_beside 36 = .ok (.goto 46, 3) := by decide +kernel
theorem dX10_beside_39 : decode cX10_beside 39 = .ok (.iconst (-1), 1) := by decide +kernel
theorem dX10_beside_40 : decode cX10_beside 40 = .ok (.goto 42, 3) := by decide +kernel
theorem dX10_beside_43 : decode cX10_beside 43 = .ok (.iload_n 2, 1) := by decide +kernel
theorem dX10_beside_44 : decode cX10_beside 44 = .ok (.iconst 2, 1) := by decide +kernel
theorem dX10_beside_45 : decode cX10_beside 45 = .ok (.if_icmp .ne 12, 3) := by decide +kernel
theorem dX10_beside_48 : decode cX10_beside 48 = .ok (.iload_n 1, 1) := by decide +kernel
theorem dX10_beside_49 : decode cX10_beside 49 = .ok (.aload_n 0, 1) := by decide +kernel
theorem dX10_beside_50 : decode cX10_beside 50 = .ok (.getfield 94, 3) := by decide +kernel
theorem dX10_beside_53 : decode cX10_beside 53 = .ok (.iadd, 1) := by decide +kernel
theorem dX10_beside_54 : decode cX10_beside 54 = .ok (.goto 28, 3) := by decide +kernel
theorem dX10_beside_57 : decode cX10_beside 57 = .ok (.iload_n 2, 1) := by decide +kernel
theorem dX10_beside_58 : decode cX10_beside 58 = .ok (.iconst 3, 1) := by decide +kernel
theorem dX10_beside_59 : decode cX10_beside 59 = .ok (.if_icmp .ne 22, 3) := by decide +kernel
theorem dX10_beside_62 : decode cX10_beside 62 = .ok (.iload_n 1, 1) := by decide +kernel
theorem dX10_beside_63 : decode cX10_beside 63 = .ok (.aload_n 0, 1) := by decide +kernel
theorem dX10_beside_64 : decode cX10_beside 64 = .ok (.getfield 94, 3) := by decide +kernel
theorem dX10_beside_67 : decode cX10_beside 67 = .ok (.irem, 1) := by decide +kernel
theorem dX10_beside_68 : decode cX10_beside 68 = .ok (.ifCond .le 9, 3) := by decide +kernel
theorem dX10_beside_71 : decode cX10_beside 71 = .ok (.iload_n 1, 1) := by decide +kernel
theorem dX10_beside_72 : decode cX10_beside 72 = .ok (.iconst 1, 1) := by decide +kernel
theorem dX10_beside_73 : decode cX10_beside 73 = .ok (.isub, 1) := by decide +kernel
theorem dX10_beside_74 : decode cX10_beside 74 = .ok (.goto 8, 3) := by decide +kernel
theorem dX10_beside_77 : decode cX10_beside 77 = .ok (.iconst (-1), 1) := by decide +kernel
theorem dX10_beside_78 : decode cX10_beside 78 = .ok (.goto 4, 3) := by decide +kernel
theorem dX10_beside_81 : decode cX10_beside 81 = .ok (.iconst (-1), 1) := by decide +kernel
theorem dX10_beside_82 : decode cX10_beside 82 = .ok (.istore_n 3, 1) := by decide +kernel
theorem dX10_beside_83 : decode cX10_beside 83 = .ok (.iload_n 3, 1) := by decide +kernel
theorem dX10_beside_84 : decode cX10_beside 84 = .ok (.iconst 0, 1) := by decide +kernel
theorem dX10_beside_85 : decode cX10_beside 85 = .ok (.aload_n 0, 1) := by decide +kernel
theorem dX10_beside_86 : decode cX10_beside 86 = .ok (.getfield 88, 3) := by decide +kernel
theorem dX10_beside_89 : decode cX10_beside 89 = .ok (.iconst 1, 1) := by decide +kernel
theorem dX10_beside_90 : decode cX10_beside 90 = .ok (.isub, 1) := by decide +kernel
theorem dX10_beside_91 : decode cX10_beside 91 = .ok (.invokestatic 80, 3) := by decide +kernel
theorem dX10_beside_94 : decode cX10_beside 94 = .ok (.ifCond .eq 7, 3) := by decide +kernel
theorem dX10_beside_97 : decode cX10_beside 97 = .ok (.iload_n 3, 1) := by decide +kernel
theorem dX10_beside_98 : decode cX10_beside 98 = .ok (.goto 4, 3) := by decide +kernel
theorem dX10_beside_101 : decode cX10_beside 101 = .ok (.iconst (-1), 1) := by decide +kernel
theorem dX10_beside_102 : decode cX10_beside 102 = .ok (.ireturn, 1) := by decide +kernel
theorem dX10_marks_0 : decode cX10_marks 0 = .ok (.aload_n 0, 1) := by decide +kernel
theorem dX10_marks_1 : decode cX10_marks 1 = .ok (.dup, 1) := by decide +kernel
theorem dX10_marks_2 : decode cX10_marks 2 = .ok (.getfield 148, 3) := by decide +kernel
theorem dX10_marks_5 : decode cX10_marks 5 = .ok (.iload_n 1, 1) := by decide +kernel
theorem dX10_marks_6 : decode cX10_marks 6 = .ok (.bipush 18, 2) := by decide +kernel
theorem dX10_marks_8 : decode cX10_marks 8 = .ok (.if_icmp .ge 9, 3) := by decide +kernel
theorem dX10_marks_11 : decode cX10_marks 11 = .ok (.iconst 1, 1) := by decide +kernel
theorem dX10_marks_12 : decode cX10_marks 12 = .ok (.iload_n 1, 1) := by decide +kernel
theorem dX10_marks_13 : decode cX10_marks 13 = .ok (.ishl, 1) := by decide +kernel
theorem dX10_marks_14 : decode cX10_marks 14 = .ok (.goto 4, 3) := by decide +kernel
theorem dX10_marks_17 : decode cX10_marks 17 = .ok (.iconst 0, 1) := by decide +kernel
theorem dX10_marks_18 : decode cX10_marks 18 = .ok (.ior, 1) := by decide +kernel
theorem dX10_marks_19 : decode cX10_marks 19 = .ok (.putfield 148, 3) := by decide +kernel
theorem dX10_marks_22 : decode cX10_marks 22 = .ok (.aload_n 0, 1) := by decide +kernel
theorem dX10_marks_23 : decode cX10_marks 23 = .ok (.dup, 1) := by decide +kernel
theorem dX10_marks_24 : decode cX10_marks 24 = .ok (.getfield 151, 3) := by decide +kernel
theorem dX10_marks_27 : decode cX10_marks 27 = .ok (.iload_n 1, 1) := by decide +kernel
theorem dX10_marks_28 : decode cX10_marks 28 = .ok (.bipush 18, 2) := by decide +kernel
theorem dX10_marks_30 : decode cX10_marks 30 = .ok (.if_icmp .ge 7, 3) := by decide +kernel
theorem dX10_marks_33 : decode cX10_marks 33 = .ok (.iconst 0, 1) := by decide +kernel
theorem dX10_marks_34 : decode cX10_marks 34 = .ok (.goto 9, 3) := by decide +kernel
theorem dX10_marks_37 : decode cX10_marks 37 = .ok (.iconst 1, 1) := by decide +kernel
theorem dX10_marks_38 : decode cX10_marks 38 = .ok (.iload_n 1, 1) := by decide +kernel
theorem dX10_marks_39 : decode cX10_marks 39 = .ok (.bipush 18, 2) := by decide +kernel
theorem dX10_marks_41 : decode cX10_marks 41 = .ok (.isub, 1) := by decide +kernel
theorem dX10_marks_42 : decode cX10_marks 42 = .ok (.ishl, 1) := by decide +kernel
theorem dX10_marks_43 : decode cX10_marks 43 = .ok (.ior, 1) := by decide +kernel
theorem dX10_marks_44 : decode cX10_marks 44 = .ok (.putfield 151, 3) := by decide +kernel
theorem dX10_marks_47 : decode cX10_marks 47 = .ok (.return_, 1) := by decide +kernel
set_option maxRecDepth 20000 in
theorem ggX10_looks_X10_marks : GoodIn wsX10_looks wsX10_marks := qw_e qk_X10_looks qk_X10_marks (by decide +kernel)
set_option maxRecDepth 20000 in
theorem gX10_looks_X10_marks : GoodIn wsX10_looks (wsV RX10 154 RX10 yX10_marks wsX10_marks) := goodIn_app (qw_e qk_X10_looks (QK_cons qw_569 (QK_cons qw_570 (QK_cons qw_571 (QK_cons qw_996 QK_nil)))) (by decide +kernel)) ggX10_looks_X10_marks
set_option maxRecDepth 20000 in
theorem ggX10_looks_X10_beside : GoodIn wsX10_looks wsX10_beside := qw_e qk_X10_looks qk_X10_beside (by decide +kernel)
set_option maxRecDepth 20000 in
theorem gX10_looks_X10_beside : GoodIn wsX10_looks (wsV RX10 158 RX10 yX10_beside wsX10_beside) := goodIn_app (qw_e qk_X10_looks (QK_cons qw_573 (QK_cons qw_574 (QK_cons qw_575 (QK_cons qw_996 QK_nil)))) (by decide +kernel)) ggX10_looks_X10_beside
theorem dX10_looks_0 : decode cX10_looks 0 = .ok (.aload_n 0, 1) := by decide +kernel
theorem dX10_looks_1 : decode cX10_looks 1 = .ok (.iconst 0, 1) := by decide +kernel
theorem dX10_looks_2 : decode cX10_looks 2 = .ok (.putfield 148, 3) := by decide +kernel
theorem dX10_looks_5 : decode cX10_looks 5 = .ok (.aload_n 0, 1) := by decide +kernel
theorem dX10_looks_6 : decode cX10_looks 6 = .ok (.iconst 0, 1) := by decide +kernel
theorem dX10_looks_7 : decode cX10_looks 7 = .ok (.putfield 151, 3) := by decide +kernel
theorem dX10_looks_10 : decode cX10_looks 10 = .ok (.iload_n 1, 1) := by decide +kernel
theorem dX10_looks_11 : decode cX10_looks 11 = .ok (.iconst (-1), 1) := by decide +kernel
theorem dX10_looks_12 : decode cX10_looks 12 = .ok (.if_icmp .ne 4, 3) := by decide +kernel
theorem dX10_looks_15 : decode cX10_looks 15 = .ok (.return_, 1) := by decide +kernel
theorem dX10_looks_16 : decode cX10_looks 16 = .ok (.aload_n 0, 1) := by decide +kernel
theorem dX10_looks_17 : decode cX10_looks 17 = .ok (.iload_n 1, 1) := by decide +kernel
theorem dX10_looks_18 : decode cX10_looks 18 = .ok (.invokevirtual 154, 3) := by decide +kernel
theorem dX10_looks_21 : decode cX10_looks 21 = .ok (.iconst 0, 1) := by decide +kernel
theorem dX10_looks_22 : decode cX10_looks 22 = .ok (.istore_n 3, 1) := by decide +kernel
theorem dX10_looks_23 : decode cX10_looks 23 = .ok (.iload_n 3, 1) := by decide +kernel
theorem dX10_looks_24 : decode cX10_looks 24 = .ok (.iconst 4, 1) := by decide +kernel
theorem dX10_looks_25 : decode cX10_looks 25 = .ok (.if_icmp .ge 64, 3) := by decide +kernel
theorem dX10_looks_28 : decode cX10_looks 28 = .ok (.aload_n 0, 1) := by decide +kernel
theorem dX10_looks_29 : decode cX10_looks 29 = .ok (.iload_n 1, 1) := by decide +kernel
theorem dX10_looks_30 : decode cX10_looks 30 = .ok (.iload_n 3, 1) := by decide +kernel
theorem dX10_looks_31 : decode cX10_looks 31 = .ok (.invokevirtual 158, 3) := by decide +kernel
theorem dX10_looks_34 : decode cX10_looks 34 = .ok (.istore 4, 2) := by decide +kernel
theorem dX10_looks_36 : decode cX10_looks 36 = .ok (.iconst 0, 1) := by decide +kernel
theorem dX10_looks_37 : decode cX10_looks 37 = .ok (.istore 5, 2) := by decide +kernel
theorem dX10_looks_39 : decode cX10_looks 39 = .ok (.iload 5, 2) := by decide +kernel
theorem dX10_looks_41 : decode cX10_looks 41 = .ok (.iload_n 2, 1) := by decide +kernel
theorem dX10_looks_42 : decode cX10_looks 42 = .ok (.if_icmp .ge 41, 3) := by decide +kernel
theorem dX10_looks_45 : decode cX10_looks 45 = .ok (.iload 4, 2) := by decide +kernel
theorem dX10_looks_47 : decode cX10_looks 47 = .ok (.iconst (-1), 1) := by decide +kernel
theorem dX10_looks_48 : decode cX10_looks 48 = .ok (.if_icmp .eq 35, 3) := by decide +kernel
theorem dX10_looks_51 : decode cX10_looks 51 = .ok (.aload_n 0, 1) := by decide +kernel
theorem dX10_looks_52 : decode cX10_looks 52 = .ok (.getfield 16, 3) := by decide +kernel
theorem dX10_looks_55 : decode cX10_looks 55 = .ok (.iload 4, 2) := by decide +kernel
theorem dX10_looks_57 : decode cX10_looks 57 = .ok (.iaload, 1) := by decide +kernel
theorem dX10_looks_58 : decode cX10_looks 58 = .ok (.iconst 1, 1) := by decide +kernel
theorem dX10_looks_59 : decode cX10_looks 59 = .ok (.if_icmp .eq 24, 3) := by decide +kernel
theorem dX10_looks_62 : decode cX10_looks 62 = .ok (.aload_n 0, 1) := by decide +kernel
theorem dX10_looks_63 : decode cX10_looks 63 = .ok (.iload 4, 2) := by decide +kernel
theorem dX10_looks_65 : decode cX10_looks 65 = .ok (.invokevirtual 154, 3) := by decide +kernel
theorem dX10_looks_68 : decode cX10_looks 68 = .ok (.aload_n 0, 1) := by decide +kernel
theorem dX10_looks_69 : decode cX10_looks 69 = .ok (.iload 4, 2) := by decide +kernel
theorem dX10_looks_71 : decode cX10_looks 71 = .ok (.iload_n 3, 1) := by decide +kernel
theorem dX10_looks_72 : decode cX10_looks 72 = .ok (.invokevirtual 158, 3) := by decide +kernel
theorem dX10_looks_75 : decode cX10_looks 75 = .ok (.istore 4, 2) := by decide +kernel
theorem dX10_looks_77 : decode cX10_looks 77 = .ok (.iinc 5 1, 3) := by decide +kernel
theorem dX10_looks_80 : decode cX10_looks 80 = .ok (.goto (-41), 3) := by decide +kernel
theorem dX10_looks_83 : decode cX10_looks 83 = .ok (.iinc 3 1, 3) := by decide +kernel
theorem dX10_looks_86 : decode cX10_looks 86 = .ok (.goto (-63), 3) := by decide +kernel
theorem dX10_looks_89 : decode cX10_looks 89 = .ok (.return_, 1) := by decide +kernel
set_option maxRecDepth 20000 in
theorem ggX10_walks_X10_isFor : GoodIn wsX10_walks wsX10_isFor := qw_e qk_X10_walks qk_X10_isFor (by decide +kernel)
set_option maxRecDepth 20000 in
theorem gX10_walks_X10_isFor : GoodIn wsX10_walks (wsV RX10 161 RX10 yX10_isFor wsX10_isFor) := goodIn_app (qw_e qk_X10_walks (QK_cons qw_561 (QK_cons qw_562 (QK_cons qw_563 (QK_cons qw_996 QK_nil)))) (by decide +kernel)) ggX10_walks_X10_isFor
set_option maxRecDepth 20000 in
theorem ggX10_walks_X10_looks : GoodIn wsX10_walks wsX10_looks := qw_e qk_X10_walks qk_X10_looks (by decide +kernel)
set_option maxRecDepth 20000 in
theorem gX10_walks_X10_looks : GoodIn wsX10_walks (wsV RX10 164 RX10 yX10_looks wsX10_looks) := goodIn_app (qw_e qk_X10_walks (QK_cons qw_565 (QK_cons qw_566 (QK_cons qw_567 (QK_cons qw_996 QK_nil)))) (by decide +kernel)) ggX10_walks_X10_looks
set_option maxRecDepth 20000 in
theorem ggX10_walks_X10_beside : GoodIn wsX10_walks wsX10_beside := qw_e qk_X10_walks qk_X10_beside (by decide +kernel)
set_option maxRecDepth 20000 in
theorem gX10_walks_X10_beside : GoodIn wsX10_walks (wsV RX10 158 RX10 yX10_beside wsX10_beside) := goodIn_app (qw_e qk_X10_walks (QK_cons qw_573 (QK_cons qw_574 (QK_cons qw_575 (QK_cons qw_996 QK_nil)))) (by decide +kernel)) ggX10_walks_X10_beside
theorem dX10_walks_0 : decode cX10_walks 0 = .ok (.aload_n 0, 1) := by decide +kernel
theorem dX10_walks_1 : decode cX10_walks 1 = .ok (.getfield 142, 3) := by decide +kernel
theorem dX10_walks_4 : decode cX10_walks 4 = .ok (.aload_n 0, 1) := by decide +kernel
theorem dX10_walks_5 : decode cX10_walks 5 = .ok (.getfield 88, 3) := by decide +kernel
theorem dX10_walks_8 : decode cX10_walks 8 = .ok (.if_icmp .ge 21, 3) := by decide +kernel
theorem dX10_walks_11 : decode cX10_walks 11 = .ok (.aload_n 0, 1) := by decide +kernel
theorem dX10_walks_12 : decode cX10_walks 12 = .ok (.aload_n 0, 1) := by decide +kernel
theorem dX10_walks_13 : decode cX10_walks 13 = .ok (.getfield 142, 3) := by decide +kernel
theorem dX10_walks_16 : decode cX10_walks 16 = .ok (.invokevirtual 161, 3) := by decide +kernel
theorem dX10_walks_19 : decode cX10_walks 19 = .ok (.ifCond .eq 10, 3) := by decide +kernel
theorem dX10_walks_22 : decode cX10_walks 22 = .ok (.aload_n 0, 1) := by decide +kernel
theorem dX10_walks_23 : decode cX10_walks 23 = .ok (.getfield 142, 3) := by decide +kernel
theorem dX10_walks_26 : decode cX10_walks 26 = .ok (.goto 4, 3) := by decide +kernel
theorem dX10_walks_29 : decode cX10_walks 29 = .ok (.iconst (-1), 1) := by decide +kernel
theorem dX10_walks_30 : decode cX10_walks 30 = .ok (.istore_n 1, 1) := by decide +kernel
theorem dX10_walks_31 : decode cX10_walks 31 = .ok (.iconst 0, 1) := by decide +kernel
theorem dX10_walks_32 : decode cX10_walks 32 = .ok (.istore_n 2, 1) := by decide +kernel
theorem dX10_walks_33 : decode cX10_walks 33 = .ok (.iload_n 2, 1) := by decide +kernel
theorem dX10_walks_34 : decode cX10_walks 34 = .ok (.bipush 96, 2) := by decide +kernel
theorem dX10_walks_36 : decode cX10_walks 36 = .ok (.if_icmp .ge 114, 3) := by decide +kernel
theorem dX10_walks_39 : decode cX10_walks 39 = .ok (.aload_n 0, 1) := by decide +kernel
theorem dX10_walks_40 : decode cX10_walks 40 = .ok (.getfield 35, 3) := by decide +kernel
theorem dX10_walks_43 : decode cX10_walks 43 = .ok (.iload_n 2, 1) := by decide +kernel
theorem dX10_walks_44 : decode cX10_walks 44 = .ok (.iload_n 1, 1) := by decide +kernel
theorem dX10_walks_45 : decode cX10_walks 45 = .ok (.iastore, 1) := by decide +kernel
theorem dX10_walks_46 : decode cX10_walks 46 = .ok (.aload_n 0, 1) := by decide +kernel
theorem dX10_walks_47 : decode cX10_walks 47 = .ok (.iload_n 1, 1) := by decide +kernel
theorem dX10_walks_48 : decode cX10_walks 48 = .ok (.aload_n 0, 1) := by decide +kernel
theorem dX10_walks_49 : decode cX10_walks 49 = .ok (.getfield 31, 3) := by decide +kernel
theorem dX10_walks_52 : decode cX10_walks 52 = .ok (.iload_n 2, 1) := by decide +kernel
theorem dX10_walks_53 : decode cX10_walks 53 = .ok (.baload, 1) := by decide +kernel
theorem dX10_walks_54 : decode cX10_walks 54 = .ok (.ifCond .eq 15, 3) := by decide +kernel
theorem dX10_walks_57 : decode cX10_walks 57 = .ok (.aload_n 0, 1) := by decide +kernel
theorem dX10_walks_58 : decode cX10_walks 58 = .ok (.getfield 75, 3) := by decide +kernel
theorem dX10_walks_61 : decode cX10_walks 61 = .ok (.iconst 1, 1) := by decide +kernel
theorem dX10_walks_62 : decode cX10_walks 62 = .ok (.if_icmp .le 7, 3) := by decide +kernel
theorem dX10_walks_65 : decode cX10_walks 65 = .ok (.iconst 1, 1) := by decide +kernel
theorem dX10_walks_66 : decode cX10_walks 66 = .ok (.goto 7, 3) := by decide +kernel
theorem dX10_walks_69 : decode cX10_walks 69 = .ok (.aload_n 0, 1) := by decide +kernel
theorem dX10_walks_70 : decode cX10_walks 70 = .ok (.getfield 75, 3) := by decide +kernel
theorem dX10_walks_73 : decode cX10_walks 73 = .ok (.invokevirtual 164, 3) := by decide +kernel
theorem dX10_walks_76 : decode cX10_walks 76 = .ok (.aload_n 0, 1) := by decide +kernel
theorem dX10_walks_77 : decode cX10_walks 77 = .ok (.getfield 38, 3) := by decide +kernel
theorem dX10_walks_80 : decode cX10_walks 80 = .ok (.iload_n 2, 1) := by decide +kernel
theorem dX10_walks_81 : decode cX10_walks 81 = .ok (.aload_n 0, 1) := by decide +kernel
theorem dX10_walks_82 : decode cX10_walks 82 = .ok (.getfield 148, 3) := by decide +kernel
theorem dX10_walks_85 : decode cX10_walks 85 = .ok (.iastore, 1) := by decide +kernel
theorem dX10_walks_86 : decode cX10_walks 86 = .ok (.aload_n 0, 1) := by decide +kernel
theorem dX10_walks_87 : decode cX10_walks 87 = .ok (.getfield 41, 3) := by decide +kernel
theorem dX10_walks_90 : decode cX10_walks 90 = .ok (.iload_n 2, 1) := by decide +kernel
theorem dX10_walks_91 : decode cX10_walks 91 = .ok (.aload_n 0, 1) := by decide +kernel
theorem dX10_walks_92 : decode cX10_walks 92 = .ok (.getfield 151, 3) := by decide +kernel
theorem dX10_walks_95 : decode cX10_walks 95 = .ok (.iastore, 1) := by decide +kernel
theorem dX10_walks_96 : decode cX10_walks 96 = .ok (.iload_n 1, 1) := by decide +kernel
theorem dX10_walks_97 : decode cX10_walks 97 = .ok (.iconst (-1), 1) := by decide +kernel
theorem dX10_walks_98 : decode cX10_walks 98 = .ok (.if_icmp .eq 46, 3) := by decide +kernel
theorem dX10_walks_101 : decode cX10_walks 101 = .ok (.aload_n 0, 1) := by decide +kernel
theorem dX10_walks_102 : decode cX10_walks 102 = .ok (.getfield 168, 3) := by decide +kernel
theorem dX10_walks_105 : decode cX10_walks 105 = .ok (.ifCond .le 39, 3) := by decide +kernel
theorem dX10_walks_108 : decode cX10_walks 108 = .ok (.aload_n 0, 1) := by decide +kernel
theorem dX10_walks_109 : decode cX10_walks 109 = .ok (.iload_n 1, 1) := by decide +kernel
theorem dX10_walks_110 : decode cX10_walks 110 = .ok (.aload_n 0, 1) := by decide +kernel
theorem dX10_walks_111 : decode cX10_walks 111 = .ok (.getfield 28, 3) := by decide +kernel
theorem dX10_walks_114 : decode cX10_walks 114 = .ok (.iload_n 2, 1) := by decide +kernel
theorem dX10_walks_115 : decode cX10_walks 115 = .ok (.aload_n 0, 1) := by decide +kernel
theorem dX10_walks_116 : decode cX10_walks 116 = .ok (.getfield 168, 3) := by decide +kernel
theorem dX10_walks_119 : decode cX10_walks 119 = .ok (.irem, 1) := by decide +kernel
theorem dX10_walks_120 : decode cX10_walks 120 = .ok (.iaload, 1) := by decide +kernel
theorem dX10_walks_121 : decode cX10_walks 121 = .ok (.invokevirtual 158, 3) := by decide +kernel
theorem dX10_walks_124 : decode cX10_walks 124 = .ok (.istore_n 3, 1) := by decide +kernel
theorem dX10_walks_125 : decode cX10_walks 125 = .ok (.iload_n 3, 1) := by decide +kernel
theorem dX10_walks_126 : decode cX10_walks 126 = .ok (.iconst (-1), 1) := by decide +kernel
theorem dX10_walks_127 : decode cX10_walks 127 = .ok (.if_icmp .eq 15, 3) := by decide +kernel
theorem dX10_walks_130 : decode cX10_walks 130 = .ok (.aload_n 0, 1) := by decide +kernel
theorem dX10_walks_131 : decode cX10_walks 131 = .ok (.iload_n 3, 1) := by decide +kernel
theorem dX10_walks_132 : decode cX10_walks 132 = .ok (.invokevirtual 161, 3) := by decide +kernel
theorem dX10_walks_135 : decode cX10_walks 135 = .ok (.ifCond .eq 7, 3) := by decide +kernel
theorem dX10_walks_138 : decode cX10_walks 138 = .ok (.iload_n 3, 1) := by decide +kernel
theorem dX10_walks_139 : decode cX10_walks 139 = .ok (.goto 4, 3) := by decide +kernel
theorem dX10_walks_142 : decode cX10_walks 142 = .ok (.iload_n 1, 1) := by decide +kernel
theorem dX10_walks_143 : decode cX10_walks 143 = .ok (.istore_n 1, 1) := by decide +kernel
theorem dX10_walks_144 : decode cX10_walks 144 = .ok (.iinc 2 1, 3) := by decide +kernel
theorem dX10_walks_147 : decode cX10_walks 147 = .ok (.goto (-114), 3) := by decide +kernel
theorem dX10_walks_150 : decode cX10_walks 150 = .ok (.aload_n 0, 1) := by decide +kernel
theorem dX10_walks_151 : decode cX10_walks 151 = .ok (.getfield 35, 3) := by decide +kernel
theorem dX10_walks_154 : decode cX10_walks 154 = .ok (.bipush 96, 2) := by decide +kernel
theorem dX10_walks_156 : decode cX10_walks 156 = .ok (.iload_n 1, 1) := by decide +kernel
theorem dX10_walks_157 : decode cX10_walks 157 = .ok (.iastore, 1) := by decide +kernel
theorem dX10_walks_158 : decode cX10_walks 158 = .ok (.return_, 1) := by decide +kernel
set_option maxRecDepth 20000 in
theorem ggX10_asTold_X10_reads : GoodIn wsX10_asTold wsX10_reads := qw_e qk_X10_asTold qk_X10_reads (by decide +kernel)
set_option maxRecDepth 20000 in
theorem gX10_asTold_X10_reads : GoodIn wsX10_asTold (wsV RX10 130 RX10 yX10_reads wsX10_reads) := goodIn_app (qw_e qk_X10_asTold (QK_cons qw_711 (QK_cons qw_712 (QK_cons qw_713 (QK_cons qw_996 QK_nil)))) (by decide +kernel)) ggX10_asTold_X10_reads
theorem dX10_asTold_0 : decode cX10_asTold 0 = .ok (.aload_n 0, 1) := by decide +kernel
theorem dX10_asTold_1 : decode cX10_asTold 1 = .ok (.invokevirtual 130, 3) := by decide +kernel
theorem dX10_asTold_4 : decode cX10_asTold 4 = .ok (.aload_n 0, 1) := by decide +kernel
theorem dX10_asTold_5 : decode cX10_asTold 5 = .ok (.aload_n 0, 1) := by decide +kernel
theorem dX10_asTold_6 : decode cX10_asTold 6 = .ok (.getfield 101, 3) := by decide +kernel
theorem dX10_asTold_9 : decode cX10_asTold 9 = .ok (.putfield 168, 3) := by decide +kernel
theorem dX10_asTold_12 : decode cX10_asTold 12 = .ok (.iconst 0, 1) := by decide +kernel
theorem dX10_asTold_13 : decode cX10_asTold 13 = .ok (.istore_n 1, 1) := by decide +kernel
theorem dX10_asTold_14 : decode cX10_asTold 14 = .ok (.iload_n 1, 1) := by decide +kernel
theorem dX10_asTold_15 : decode cX10_asTold 15 = .ok (.aload_n 0, 1) := by decide +kernel
theorem dX10_asTold_16 : decode cX10_asTold 16 = .ok (.getfield 101, 3) := by decide +kernel
theorem dX10_asTold_19 : decode cX10_asTold 19 = .ok (.if_icmp .ge 21, 3) := by decide +kernel
theorem dX10_asTold_22 : decode cX10_asTold 22 = .ok (.aload_n 0, 1) := by decide +kernel
theorem dX10_asTold_23 : decode cX10_asTold 23 = .ok (.getfield 28, 3) := by decide +kernel
theorem dX10_asTold_26 : decode cX10_asTold 26 = .ok (.iload_n 1, 1) := by decide +kernel
theorem dX10_asTold_27 : decode cX10_asTold 27 = .ok (.aload_n 0, 1) := by decide +kernel
theorem dX10_asTold_28 : decode cX10_asTold 28 = .ok (.getfield 19, 3) := by decide +kernel
theorem dX10_asTold_31 : decode cX10_asTold 31 = .ok (.iload_n 1, 1) := by decide +kernel
theorem dX10_asTold_32 : decode cX10_asTold 32 = .ok (.iaload, 1) := by decide +kernel
theorem dX10_asTold_33 : decode cX10_asTold 33 = .ok (.iastore, 1) := by decide +kernel
theorem dX10_asTold_34 : decode cX10_asTold 34 = .ok (.iinc 1 1, 3) := by decide +kernel
theorem dX10_asTold_37 : decode cX10_asTold 37 = .ok (.goto (-23), 3) := by decide +kernel
theorem dX10_asTold_40 : decode cX10_asTold 40 = .ok (.iconst 0, 1) := by decide +kernel
theorem dX10_asTold_41 : decode cX10_asTold 41 = .ok (.istore_n 1, 1) := by decide +kernel
theorem dX10_asTold_42 : decode cX10_asTold 42 = .ok (.iload_n 1, 1) := by decide +kernel
theorem dX10_asTold_43 : decode cX10_asTold 43 = .ok (.bipush 96, 2) := by decide +kernel
theorem dX10_asTold_45 : decode cX10_asTold 45 = .ok (.if_icmp .ge 28, 3) := by decide +kernel
theorem dX10_asTold_48 : decode cX10_asTold 48 = .ok (.aload_n 0, 1) := by decide +kernel
theorem dX10_asTold_49 : decode cX10_asTold 49 = .ok (.getfield 31, 3) := by decide +kernel
theorem dX10_asTold_52 : decode cX10_asTold 52 = .ok (.iload_n 1, 1) := by decide +kernel
theorem dX10_asTold_53 : decode cX10_asTold 53 = .ok (.aload_n 0, 1) := by decide +kernel
theorem dX10_asTold_54 : decode cX10_asTold 54 = .ok (.getfield 145, 3) := by decide +kernel
theorem dX10_asTold_57 : decode cX10_asTold 57 = .ok (.iconst 1, 1) := by decide +kernel
theorem dX10_asTold_58 : decode cX10_asTold 58 = .ok (.if_icmp .ne 7, 3) := by decide +kernel
theorem dX10_asTold_61 : decode cX10_asTold 61 = .ok (.iconst 1, 1) := by decide +kernel
theorem dX10_asTold_62 : decode cX10_asTold 62 = .ok (.goto 4, 3) := by decide +kernel
theorem dX10_asTold_65 : decode cX10_asTold 65 = .ok (.iconst 0, 1) := by decide +kernel
theorem dX10_asTold_66 : decode cX10_asTold 66 = .ok (.bastore, 1) := by decide +kernel
theorem dX10_asTold_67 : decode cX10_asTold 67 = .ok (.iinc 1 1, 3) := by decide +kernel
theorem dX10_asTold_70 : decode cX10_asTold 70 = .ok (.goto (-28), 3) := by decide +kernel
theorem dX10_asTold_73 : decode cX10_asTold 73 = .ok (.return_, 1) := by decide +kernel
set_option maxRecDepth 20000 in
theorem ggX10_walksTold_X10_asTold : GoodIn wsX10_walksTold wsX10_asTold := qw_e qk_X10_walksTold qk_X10_asTold (by decide +kernel)
set_option maxRecDepth 20000 in
theorem gX10_walksTold_X10_asTold : GoodIn wsX10_walksTold (wsV RX10 171 RX10 yX10_asTold wsX10_asTold) := goodIn_app (qw_e qk_X10_walksTold (QK_cons qw_598 (QK_cons qw_599 (QK_cons qw_600 (QK_cons qw_996 QK_nil)))) (by decide +kernel)) ggX10_walksTold_X10_asTold
set_option maxRecDepth 20000 in
theorem ggX10_walksTold_X10_walks : GoodIn wsX10_walksTold wsX10_walks := qw_e qk_X10_walksTold qk_X10_walks (by decide +kernel)
set_option maxRecDepth 20000 in
theorem gX10_walksTold_X10_walks : GoodIn wsX10_walksTold (wsV RX10 174 RX10 yX10_walks wsX10_walks) := goodIn_app (qw_e qk_X10_walksTold (QK_cons qw_603 (QK_cons qw_604 (QK_cons qw_605 (QK_cons qw_996 QK_nil)))) (by decide +kernel)) ggX10_walksTold_X10_walks
theorem dX10_walksTold_0 : decode cX10_walksTold 0 = .ok (.aload_n 0, 1) := by decide +kernel
theorem dX10_walksTold_1 : decode cX10_walksTold 1 = .ok (.invokevirtual 171, 3) := by decide +kernel
theorem dX10_walksTold_4 : decode cX10_walksTold 4 = .ok (.aload_n 0, 1) := by decide +kernel
theorem dX10_walksTold_5 : decode cX10_walksTold 5 = .ok (.invokevirtual 174, 3) := by decide +kernel
theorem dX10_walksTold_8 : decode cX10_walksTold 8 = .ok (.return_, 1) := by decide +kernel
set_option maxRecDepth 20000 in
theorem ggX10_isSeenAt_X10_isIn : GoodIn wsX10_isSeenAt wsX10_isIn := qw_e qk_X10_isSeenAt qk_X10_isIn (by decide +kernel)
set_option maxRecDepth 20000 in
theorem gX10_isSeenAt_X10_isIn : GoodIn wsX10_isSeenAt (va_wsS RX10 177 yX10_isIn wsX10_isIn) := goodIn_app (qw_e qk_X10_isSeenAt (QK_cons qw_524 (QK_cons qw_525 (QK_cons qw_996 QK_nil))) (by decide +kernel)) ggX10_isSeenAt_X10_isIn
theorem dX10_isSeenAt_0 : decode cX10_isSeenAt 0 = .ok (.iload_n 2, 1) := by decide +kernel
theorem dX10_isSeenAt_1 : decode cX10_isSeenAt 1 = .ok (.bipush 18, 2) := by decide +kernel
theorem dX10_isSeenAt_3 : decode cX10_isSeenAt 3 = .ok (.if_icmp .ge 16, 3) := by decide +kernel
theorem dX10_isSeenAt_6 : decode cX10_isSeenAt 6 = .ok (.aload_n 0, 1) := by decide +kernel
theorem dX10_isSeenAt_7 : decode cX10_isSeenAt 7 = .ok (.getfield 38, 3) := by decide +kernel
theorem dX10_isSeenAt_10 : decode cX10_isSeenAt 10 = .ok (.iload_n 1, 1) := by decide +kernel
theorem dX10_isSeenAt_11 : decode cX10_isSeenAt 11 = .ok (.iaload, 1) := by decide +kernel
theorem dX10_isSeenAt_12 : decode cX10_isSeenAt 12 = .ok (.iload_n 2, 1) := by decide +kernel
theorem dX10_isSeenAt_13 : decode cX10_isSeenAt 13 = .ok (.invokestatic 177, 3) := by decide +kernel
theorem dX10_isSeenAt_16 : decode cX10_isSeenAt 16 = .ok (.goto 16, 3) := by decide +kernel
theorem dX10_isSeenAt_19 : decode cX10_isSeenAt 19 = .ok (.aload_n 0, 1) := by decide +kernel
theorem dX10_isSeenAt_20 : decode cX10_isSeenAt 20 = .ok (.getfield 41, 3) := by decide +kernel
theorem dX10_isSeenAt_23 : decode cX10_isSeenAt 23 = .ok (.iload_n 1, 1) := by decide +kernel
theorem dX10_isSeenAt_24 : decode cX10_isSeenAt 24 = .ok (.iaload, 1) := by decide +kernel
theorem dX10_isSeenAt_25 : decode cX10_isSeenAt 25 = .ok (.iload_n 2, 1) := by decide +kernel
theorem dX10_isSeenAt_26 : decode cX10_isSeenAt 26 = .ok (.bipush 18, 2) := by decide +kernel
theorem dX10_isSeenAt_28 : decode cX10_isSeenAt 28 = .ok (.isub, 1) := by decide +kernel
theorem dX10_isSeenAt_29 : decode cX10_isSeenAt 29 = .ok (.invokestatic 177, 3) := by decide +kernel
theorem dX10_isSeenAt_32 : decode cX10_isSeenAt 32 = .ok (.ireturn, 1) := by decide +kernel
set_option maxRecDepth 20000 in
theorem ggX10_atOf_X10_walksTold : GoodIn wsX10_atOf wsX10_walksTold := qw_e qk_X10_atOf qk_X10_walksTold (by decide +kernel)
set_option maxRecDepth 20000 in
theorem gX10_atOf_X10_walksTold : GoodIn wsX10_atOf (wsV RX10 181 RX10 yX10_walksTold wsX10_walksTold) := goodIn_app (qw_e qk_X10_atOf (QK_cons qw_594 (QK_cons qw_595 (QK_cons qw_596 (QK_cons qw_996 QK_nil)))) (by decide +kernel)) ggX10_atOf_X10_walksTold
theorem dX10_atOf_0 : decode cX10_atOf 0 = .ok (.aload_n 0, 1) := by decide +kernel
theorem dX10_atOf_1 : decode cX10_atOf 1 = .ok (.invokevirtual 181, 3) := by decide +kernel
theorem dX10_atOf_4 : decode cX10_atOf 4 = .ok (.aload_n 0, 1) := by decide +kernel
theorem dX10_atOf_5 : decode cX10_atOf 5 = .ok (.getfield 35, 3) := by decide +kernel
theorem dX10_atOf_8 : decode cX10_atOf 8 = .ok (.iload_n 1, 1) := by decide +kernel
theorem dX10_atOf_9 : decode cX10_atOf 9 = .ok (.iaload, 1) := by decide +kernel
theorem dX10_atOf_10 : decode cX10_atOf 10 = .ok (.ireturn, 1) := by decide +kernel
set_option maxRecDepth 20000 in
theorem ggX10_at_X10_isNumber : GoodIn wsX10_at wsX10_isNumber := qw_e qk_X10_at qk_X10_isNumber (by decide +kernel)
set_option maxRecDepth 20000 in
theorem gX10_at_X10_isNumber : GoodIn wsX10_at (va_wsS RX10 184 yX10_isNumber wsX10_isNumber) := goodIn_app (qw_e qk_X10_at (QK_cons qw_587 (QK_cons qw_588 (QK_cons qw_996 QK_nil))) (by decide +kernel)) ggX10_at_X10_isNumber
set_option maxRecDepth 20000 in
theorem ggX10_at_X10_atOf : GoodIn wsX10_at wsX10_atOf := qw_e qk_X10_at qk_X10_atOf (by decide +kernel)
set_option maxRecDepth 20000 in
theorem gX10_at_X10_atOf : GoodIn wsX10_at (wsV RX10 187 RX10 yX10_atOf wsX10_atOf) := goodIn_app (qw_e qk_X10_at (QK_cons qw_590 (QK_cons qw_591 (QK_cons qw_592 (QK_cons qw_996 QK_nil)))) (by decide +kernel)) ggX10_at_X10_atOf
theorem dX10_at_0 : decode cX10_at 0 = .ok (.iload_n 1, 1) := by decide +kernel
theorem dX10_at_1 : decode cX10_at 1 = .ok (.invokestatic 184, 3) := by decide +kernel
theorem dX10_at_4 : decode cX10_at 4 = .ok (.ifCond .eq 11, 3) := by decide +kernel
theorem dX10_at_7 : decode cX10_at 7 = .ok (.aload_n 0, 1) := by decide +kernel
theorem dX10_at_8 : decode cX10_at 8 = .ok (.iload_n 1, 1) := by decide +kernel
theorem dX10_at_9 : decode cX10_at 9 = .ok (.invokevirtual 187, 3) := by decide +kernel
theorem dX10_at_12 : decode cX10_at 12 = .ok (.goto 5, 3) := by decide +kernel
theorem dX10_at_15 : decode cX10_at 15 = .ok (.bipush (-2), 2) := by decide +kernel
theorem dX10_at_17 : decode cX10_at 17 = .ok (.ireturn, 1) := by decide +kernel
set_option maxRecDepth 20000 in
theorem ggX10_seesOf_X10_walksTold : GoodIn wsX10_seesOf wsX10_walksTold := qw_e qk_X10_seesOf qk_X10_walksTold (by decide +kernel)
set_option maxRecDepth 20000 in
theorem gX10_seesOf_X10_walksTold : GoodIn wsX10_seesOf (wsV RX10 181 RX10 yX10_walksTold wsX10_walksTold) := goodIn_app (qw_e qk_X10_seesOf (QK_cons qw_594 (QK_cons qw_595 (QK_cons qw_596 (QK_cons qw_996 QK_nil)))) (by decide +kernel)) ggX10_seesOf_X10_walksTold
theorem dX10_seesOf_0 : decode cX10_seesOf 0 = .ok (.aload_n 0, 1) := by decide +kernel
theorem dX10_seesOf_1 : decode cX10_seesOf 1 = .ok (.invokevirtual 181, 3) := by decide +kernel
theorem dX10_seesOf_4 : decode cX10_seesOf 4 = .ok (.iload_n 2, 1) := by decide +kernel
theorem dX10_seesOf_5 : decode cX10_seesOf 5 = .ok (.ifCond .ne 12, 3) := by decide +kernel
theorem dX10_seesOf_8 : decode cX10_seesOf 8 = .ok (.aload_n 0, 1) := by decide +kernel
theorem dX10_seesOf_9 : decode cX10_seesOf 9 = .ok (.getfield 38, 3) := by decide +kernel
theorem dX10_seesOf_12 : decode cX10_seesOf 12 = .ok (.iload_n 1, 1) := by decide +kernel
theorem dX10_seesOf_13 : decode cX10_seesOf 13 = .ok (.iaload, 1) := by decide +kernel
theorem dX10_seesOf_14 : decode cX10_seesOf 14 = .ok (.goto 9, 3) := by decide +kernel
theorem dX10_seesOf_17 : decode cX10_seesOf 17 = .ok (.aload_n 0, 1) := by decide +kernel
theorem dX10_seesOf_18 : decode cX10_seesOf 18 = .ok (.getfield 41, 3) := by decide +kernel
theorem dX10_seesOf_21 : decode cX10_seesOf 21 = .ok (.iload_n 1, 1) := by decide +kernel
theorem dX10_seesOf_22 : decode cX10_seesOf 22 = .ok (.iaload, 1) := by decide +kernel
theorem dX10_seesOf_23 : decode cX10_seesOf 23 = .ok (.ireturn, 1) := by decide +kernel
set_option maxRecDepth 20000 in
theorem ggX10_sees_X10_isNumber : GoodIn wsX10_sees wsX10_isNumber := qw_e qk_X10_sees qk_X10_isNumber (by decide +kernel)
set_option maxRecDepth 20000 in
theorem gX10_sees_X10_isNumber : GoodIn wsX10_sees (va_wsS RX10 184 yX10_isNumber wsX10_isNumber) := goodIn_app (qw_e qk_X10_sees (QK_cons qw_587 (QK_cons qw_588 (QK_cons qw_996 QK_nil))) (by decide +kernel)) ggX10_sees_X10_isNumber
set_option maxRecDepth 20000 in
theorem ggX10_sees_X10_in : GoodIn wsX10_sees wsX10_in := qw_e qk_X10_sees qk_X10_in (by decide +kernel)
set_option maxRecDepth 20000 in
theorem gX10_sees_X10_in : GoodIn wsX10_sees (va_wsS RX10 80 yX10_in wsX10_in) := goodIn_app (qw_e qk_X10_sees (QK_cons qw_779 (QK_cons qw_780 (QK_cons qw_996 QK_nil))) (by decide +kernel)) ggX10_sees_X10_in
set_option maxRecDepth 20000 in
theorem ggX10_sees_X10_seesOf : GoodIn wsX10_sees wsX10_seesOf := qw_e qk_X10_sees qk_X10_seesOf (by decide +kernel)
set_option maxRecDepth 20000 in
theorem gX10_sees_X10_seesOf : GoodIn wsX10_sees (wsV RX10 190 RX10 yX10_seesOf wsX10_seesOf) := goodIn_app (qw_e qk_X10_sees (QK_cons qw_542 (QK_cons qw_543 (QK_cons qw_544 (QK_cons qw_996 QK_nil)))) (by decide +kernel)) ggX10_sees_X10_seesOf
theorem dX10_sees_0 : decode cX10_sees 0 = .ok (.iload_n 1, 1) := by decide +kernel
theorem dX10_sees_1 : decode cX10_sees 1 = .ok (.invokestatic 184, 3) := by decide +kernel
theorem dX10_sees_4 : decode cX10_sees 4 = .ok (.ifCond .eq 21, 3) := by decide +kernel
theorem dX10_sees_7 : decode cX10_sees 7 = .ok (.iload_n 2, 1) := by decide +kernel
theorem dX10_sees_8 : decode cX10_sees 8 = .ok (.iconst 0, 1) := by decide +kernel
theorem dX10_sees_9 : decode cX10_sees 9 = .ok (.iconst 1, 1) := by decide +kernel
theorem dX10_sees_10 : decode cX10_sees 10 = .ok (.invokestatic 80, 3) := by decide +kernel
theorem dX10_sees_13 : decode cX10_sees 13 = .ok (.ifCond .eq 12, 3) := by decide +kernel
theorem dX10_sees_16 : decode cX10_sees 16 = .ok (.aload_n 0, 1) := by decide +kernel
theorem dX10_sees_17 : decode cX10_sees 17 = .ok (.iload_n 1, 1) := by decide +kernel
theorem dX10_sees_18 : decode cX10_sees 18 = .ok (.iload_n 2, 1) := by decide +kernel
theorem dX10_sees_19 : decode cX10_sees 19 = .ok (.invokevirtual 190, 3) := by decide +kernel
theorem dX10_sees_22 : decode cX10_sees 22 = .ok (.goto 5, 3) := by decide +kernel
theorem dX10_sees_25 : decode cX10_sees 25 = .ok (.bipush (-2), 2) := by decide +kernel
theorem dX10_sees_27 : decode cX10_sees 27 = .ok (.ireturn, 1) := by decide +kernel
set_option maxRecDepth 20000 in
theorem ggX10_seenOf_X10_walksTold : GoodIn wsX10_seenOf wsX10_walksTold := qw_e qk_X10_seenOf qk_X10_walksTold (by decide +kernel)
set_option maxRecDepth 20000 in
theorem gX10_seenOf_X10_walksTold : GoodIn wsX10_seenOf (wsV RX10 181 RX10 yX10_walksTold wsX10_walksTold) := goodIn_app (qw_e qk_X10_seenOf (QK_cons qw_594 (QK_cons qw_595 (QK_cons qw_596 (QK_cons qw_996 QK_nil)))) (by decide +kernel)) ggX10_seenOf_X10_walksTold
set_option maxRecDepth 20000 in
theorem ggX10_seenOf_X10_isSeenAt : GoodIn wsX10_seenOf wsX10_isSeenAt := qw_e qk_X10_seenOf qk_X10_isSeenAt (by decide +kernel)
set_option maxRecDepth 20000 in
theorem gX10_seenOf_X10_isSeenAt : GoodIn wsX10_seenOf (wsV RX10 193 RX10 yX10_isSeenAt wsX10_isSeenAt) := goodIn_app (qw_e qk_X10_seenOf (QK_cons qw_520 (QK_cons qw_521 (QK_cons qw_522 (QK_cons qw_996 QK_nil)))) (by decide +kernel)) ggX10_seenOf_X10_isSeenAt
theorem dX10_seenOf_0 : decode cX10_seenOf 0 = .ok (.aload_n 0, 1) := by decide +kernel
theorem dX10_seenOf_1 : decode cX10_seenOf 1 = .ok (.invokevirtual 181, 3) := by decide +kernel
theorem dX10_seenOf_4 : decode cX10_seenOf 4 = .ok (.iconst 0, 1) := by decide +kernel
theorem dX10_seenOf_5 : decode cX10_seenOf 5 = .ok (.istore_n 3, 1) := by decide +kernel
theorem dX10_seenOf_6 : decode cX10_seenOf 6 = .ok (.iconst 0, 1) := by decide +kernel
theorem dX10_seenOf_7 : decode cX10_seenOf 7 = .ok (.istore 4, 2) := by decide +kernel
theorem dX10_seenOf_9 : decode cX10_seenOf 9 = .ok (.iconst 0, 1) := by decide +kernel
theorem dX10_seenOf_10 : decode cX10_seenOf 10 = .ok (.istore 5, 2) := by decide +kernel
theorem dX10_seenOf_12 : decode cX10_seenOf 12 = .ok (.iconst 0, 1) := by decide +kernel
theorem dX10_seenOf_13 : decode cX10_seenOf 13 = .ok (.istore 6, 2) := by decide +kernel
theorem dX10_seenOf_15 : decode cX10_seenOf 15 = .ok (.iload 6, 2) := by decide +kernel
theorem dX10_seenOf_17 : decode cX10_seenOf 17 = .ok (.bipush 96, 2) := by decide +kernel
theorem dX10_seenOf_19 : decode cX10_seenOf 19 = .ok (.if_icmp .ge 62, 3) := by decide +kernel
theorem dX10_seenOf_22 : decode cX10_seenOf 22 = .ok (.aload_n 0, 1) := by decide +kernel
theorem dX10_seenOf_23 : decode cX10_seenOf 23 = .ok (.iload 6, 2) := by decide +kernel
theorem dX10_seenOf_25 : decode cX10_seenOf 25 = .ok (.iload_n 1, 1) := by decide +kernel
theorem dX10_seenOf_26 : decode cX10_seenOf 26 = .ok (.invokevirtual 193, 3) := by decide +kernel
theorem dX10_seenOf_29 : decode cX10_seenOf 29 = .ok (.istore 7, 2) := by decide +kernel
theorem dX10_seenOf_31 : decode cX10_seenOf 31 = .ok (.iload_n 3, 1) := by decide +kernel
theorem dX10_seenOf_32 : decode cX10_seenOf 32 = .ok (.iload 7, 2) := by decide +kernel
theorem dX10_seenOf_34 : decode cX10_seenOf 34 = .ok (.ifCond .eq 7, 3) := by decide +kernel
theorem dX10_seenOf_37 : decode cX10_seenOf 37 = .ok (.iconst 1, 1) := by decide +kernel
theorem dX10_seenOf_38 : decode cX10_seenOf 38 = .ok (.goto 4, 3) := by decide +kernel
theorem dX10_seenOf_41 : decode cX10_seenOf 41 = .ok (.iconst 0, 1) := by decide +kernel
theorem dX10_seenOf_42 : decode cX10_seenOf 42 = .ok (.iadd, 1) := by decide +kernel
theorem dX10_seenOf_43 : decode cX10_seenOf 43 = .ok (.istore_n 3, 1) := by decide +kernel
theorem dX10_seenOf_44 : decode cX10_seenOf 44 = .ok (.iload 7, 2) := by decide +kernel
theorem dX10_seenOf_46 : decode cX10_seenOf 46 = .ok (.ifCond .eq 7, 3) := by decide +kernel
theorem dX10_seenOf_49 : decode cX10_seenOf 49 = .ok (.iconst 0, 1) := by decide +kernel
theorem dX10_seenOf_50 : decode cX10_seenOf 50 = .ok (.goto 7, 3) := by decide +kernel
theorem dX10_seenOf_53 : decode cX10_seenOf 53 = .ok (.iload 4, 2) := by decide +kernel
theorem dX10_seenOf_55 : decode cX10_seenOf 55 = .ok (.iconst 1, 1) := by decide +kernel
theorem dX10_seenOf_56 : decode cX10_seenOf 56 = .ok (.iadd, 1) := by decide +kernel
theorem dX10_seenOf_57 : decode cX10_seenOf 57 = .ok (.istore 4, 2) := by decide +kernel
theorem dX10_seenOf_59 : decode cX10_seenOf 59 = .ok (.iload 4, 2) := by decide +kernel
theorem dX10_seenOf_61 : decode cX10_seenOf 61 = .ok (.iload 5, 2) := by decide +kernel
theorem dX10_seenOf_63 : decode cX10_seenOf 63 = .ok (.if_icmp .le 8, 3) := by decide +kernel
theorem dX10_seenOf_66 : decode cX10_seenOf 66 = .ok (.iload 4, 2) := by decide +kernel
theorem dX10_seenOf_68 : decode cX10_seenOf 68 = .ok (.goto 5, 3) := by decide +kernel
theorem dX10_seenOf_71 : decode cX10_seenOf 71 = .ok (.iload 5, 2) := by decide +kernel
theorem dX10_seenOf_73 : decode cX10_seenOf 73 = .ok (.istore 5, 2) := by decide +kernel
theorem dX10_seenOf_75 : decode cX10_seenOf 75 = .ok (.iinc 6 1, 3) := by decide +kernel
theorem dX10_seenOf_78 : decode cX10_seenOf 78 = .ok (.goto (-63), 3) := by decide +kernel
theorem dX10_seenOf_81 : decode cX10_seenOf 81 = .ok (.iload_n 2, 1) := by decide +kernel
theorem dX10_seenOf_82 : decode cX10_seenOf 82 = .ok (.ifCond .ne 7, 3) := by decide +kernel
theorem dX10_seenOf_85 : decode cX10_seenOf 85 = .ok (.iload_n 3, 1) := by decide +kernel
theorem dX10_seenOf_86 : decode cX10_seenOf 86 = .ok (.goto 5, 3) := by decide +kernel
theorem dX10_seenOf_89 : decode cX10_seenOf 89 = .ok (.iload 5, 2) := by decide +kernel
theorem dX10_seenOf_91 : decode cX10_seenOf 91 = .ok (.ireturn, 1) := by decide +kernel
set_option maxRecDepth 20000 in
theorem ggX10_seen_X10_isCell : GoodIn wsX10_seen wsX10_isCell := qw_e qk_X10_seen qk_X10_isCell (by decide +kernel)
set_option maxRecDepth 20000 in
theorem gX10_seen_X10_isCell : GoodIn wsX10_seen (wsV RX10 133 RX10 yX10_isCell wsX10_isCell) := goodIn_app (qw_e qk_X10_seen (QK_cons qw_707 (QK_cons qw_708 (QK_cons qw_709 (QK_cons qw_996 QK_nil)))) (by decide +kernel)) ggX10_seen_X10_isCell
set_option maxRecDepth 20000 in
theorem ggX10_seen_X10_in : GoodIn wsX10_seen wsX10_in := qw_e qk_X10_seen qk_X10_in (by decide +kernel)
set_option maxRecDepth 20000 in
theorem gX10_seen_X10_in : GoodIn wsX10_seen (va_wsS RX10 80 yX10_in wsX10_in) := goodIn_app (qw_e qk_X10_seen (QK_cons qw_779 (QK_cons qw_780 (QK_cons qw_996 QK_nil))) (by decide +kernel)) ggX10_seen_X10_in
set_option maxRecDepth 20000 in
theorem ggX10_seen_X10_seenOf : GoodIn wsX10_seen wsX10_seenOf := qw_e qk_X10_seen qk_X10_seenOf (by decide +kernel)
set_option maxRecDepth 20000 in
theorem gX10_seen_X10_seenOf : GoodIn wsX10_seen (wsV RX10 196 RX10 yX10_seenOf wsX10_seenOf) := goodIn_app (qw_e qk_X10_seen (QK_cons qw_516 (QK_cons qw_517 (QK_cons qw_518 (QK_cons qw_996 QK_nil)))) (by decide +kernel)) ggX10_seen_X10_seenOf
theorem dX10_seen_0 : decode cX10_seen 0 = .ok (.aload_n 0, 1) := by decide +kernel
theorem dX10_seen_1 : decode cX10_seen 1 = .ok (.iload_n 1, 1) := by decide +kernel
theorem dX10_seen_2 : decode cX10_seen 2 = .ok (.invokevirtual 133, 3) := by decide +kernel
theorem dX10_seen_5 : decode cX10_seen 5 = .ok (.ifCond .eq 21, 3) := by decide +kernel
theorem dX10_seen_8 : decode cX10_seen 8 = .ok (.iload_n 2, 1) := by decide +kernel
theorem dX10_seen_9 : decode cX10_seen 9 = .ok (.iconst 0, 1) := by decide +kernel
theorem dX10_seen_10 : decode cX10_seen 10 = .ok (.iconst 1, 1) := by decide +kernel
theorem dX10_seen_11 : decode cX10_seen 11 = .ok (.invokestatic 80, 3) := by decide +kernel
theorem dX10_seen_14 : decode cX10_seen 14 = .ok (.ifCond .eq 12, 3) := by decide +kernel
theorem dX10_seen_17 : decode cX10_seen 17 = .ok (.aload_n 0, 1) := by decide +kernel
theorem dX10_seen_18 : decode cX10_seen 18 = .ok (.iload_n 1, 1) := by decide +kernel
theorem dX10_seen_19 : decode cX10_seen 19 = .ok (.iload_n 2, 1) := by decide +kernel
theorem dX10_seen_20 : decode cX10_seen 20 = .ok (.invokevirtual 196, 3) := by decide +kernel
theorem dX10_seen_23 : decode cX10_seen 23 = .ok (.goto 5, 3) := by decide +kernel
theorem dX10_seen_26 : decode cX10_seen 26 = .ok (.bipush (-2), 2) := by decide +kernel
theorem dX10_seen_28 : decode cX10_seen 28 = .ok (.ireturn, 1) := by decide +kernel
set_option maxRecDepth 20000 in
theorem ggX10_takesNow_X10_isSeenAt : GoodIn wsX10_takesNow wsX10_isSeenAt := qw_e qk_X10_takesNow qk_X10_isSeenAt (by decide +kernel)
set_option maxRecDepth 20000 in
theorem gX10_takesNow_X10_isSeenAt : GoodIn wsX10_takesNow (wsV RX10 193 RX10 yX10_isSeenAt wsX10_isSeenAt) := goodIn_app (qw_e qk_X10_takesNow (QK_cons qw_520 (QK_cons qw_521 (QK_cons qw_522 (QK_cons qw_996 QK_nil)))) (by decide +kernel)) ggX10_takesNow_X10_isSeenAt
theorem dX10_takesNow_0 : decode cX10_takesNow 0 = .ok (.aload_n 0, 1) := by decide +kernel
theorem dX10_takesNow_1 : decode cX10_takesNow 1 = .ok (.getfield 22, 3) := by decide +kernel
theorem dX10_takesNow_4 : decode cX10_takesNow 4 = .ok (.iload_n 1, 1) := by decide +kernel
theorem dX10_takesNow_5 : decode cX10_takesNow 5 = .ok (.iaload, 1) := by decide +kernel
theorem dX10_takesNow_6 : decode cX10_takesNow 6 = .ok (.istore_n 2, 1) := by decide +kernel
theorem dX10_takesNow_7 : decode cX10_takesNow 7 = .ok (.iload_n 2, 1) := by decide +kernel
theorem dX10_takesNow_8 : decode cX10_takesNow 8 = .ok (.aload_n 0, 1) := by decide +kernel
theorem dX10_takesNow_9 : decode cX10_takesNow 9 = .ok (.getfield 88, 3) := by decide +kernel
theorem dX10_takesNow_12 : decode cX10_takesNow 12 = .ok (.if_icmp .ge 13, 3) := by decide +kernel
theorem dX10_takesNow_15 : decode cX10_takesNow 15 = .ok (.aload_n 0, 1) := by decide +kernel
theorem dX10_takesNow_16 : decode cX10_takesNow 16 = .ok (.getfield 16, 3) := by decide +kernel
theorem dX10_takesNow_19 : decode cX10_takesNow 19 = .ok (.iload_n 2, 1) := by decide +kernel
theorem dX10_takesNow_20 : decode cX10_takesNow 20 = .ok (.iaload, 1) := by decide +kernel
theorem dX10_takesNow_21 : decode cX10_takesNow 21 = .ok (.iconst 2, 1) := by decide +kernel
theorem dX10_takesNow_22 : decode cX10_takesNow 22 = .ok (.if_icmp .eq 5, 3) := by decide +kernel
theorem dX10_takesNow_25 : decode cX10_takesNow 25 = .ok (.iconst (-1), 1) := by decide +kernel
theorem dX10_takesNow_26 : decode cX10_takesNow 26 = .ok (.ireturn, 1) := by decide +kernel
theorem dX10_takesNow_27 : decode cX10_takesNow 27 = .ok (.iconst 0, 1) := by decide +kernel
theorem dX10_takesNow_28 : decode cX10_takesNow 28 = .ok (.istore_n 3, 1) := by decide +kernel
theorem dX10_takesNow_29 : decode cX10_takesNow 29 = .ok (.iconst 0, 1) := by decide +kernel
theorem dX10_takesNow_30 : decode cX10_takesNow 30 = .ok (.istore 4, 2) := by decide +kernel
theorem dX10_takesNow_32 : decode cX10_takesNow 32 = .ok (.iload 4, 2) := by decide +kernel
theorem dX10_takesNow_34 : decode cX10_takesNow 34 = .ok (.bipush 96, 2) := by decide +kernel
theorem dX10_takesNow_36 : decode cX10_takesNow 36 = .ok (.if_icmp .ge 40, 3) := by decide +kernel
theorem dX10_takesNow_39 : decode cX10_takesNow 39 = .ok (.aload_n 0, 1) := by decide +kernel
theorem dX10_takesNow_40 : decode cX10_takesNow 40 = .ok (.iload 4, 2) := by decide +kernel
theorem dX10_takesNow_42 : decode cX10_takesNow 42 = .ok (.iload_n 2, 1) := by decide +kernel
theorem dX10_takesNow_43 : decode cX10_takesNow 43 = .ok (.invokevirtual 193, 3) := by decide +kernel
theorem dX10_takesNow_46 : decode cX10_takesNow 46 = .ok (.ifCond .eq 7, 3) := by decide +kernel
theorem dX10_takesNow_49 : decode cX10_takesNow 49 = .ok (.iconst 0, 1) := by decide +kernel
theorem dX10_takesNow_50 : decode cX10_takesNow 50 = .ok (.goto 6, 3) := by decide +kernel
