theorem dX9_init_246 : decode cX9_init 246 = .ok (.new 50, 3) := by decide +kernel
theorem dX9_init_249 : decode cX9_init 249 = .ok (.dup, 1) := by decide +kernel
theorem dX9_init_250 : decode cX9_init 250 = .ok (.invokespecial 106, 3) := by decide +kernel
theorem dX9_init_253 : decode cX9_init 253 = .ok (.aastore, 1) := by decide +kernel
theorem dX9_init_254 : decode cX9_init 254 = .ok (.iinc 1 1, 3) := by decide +kernel
theorem dX9_init_257 : decode cX9_init 257 = .ok (.goto (-25), 3) := by decide +kernel
theorem dX9_init_260 : decode cX9_init 260 = .ok (.return_, 1) := by decide +kernel
set_option maxRecDepth 20000 in
theorem ggX9_type_X9_isText : GoodIn wsX9_type wsX9_isText := qw_e qk_X9_type qk_X9_isText (by decide +kernel)
set_option maxRecDepth 20000 in
theorem gX9_type_X9_isText : GoodIn wsX9_type (wsV RX9 107 RX9 yX9_isText wsX9_isText) := goodIn_app (qw_e qk_X9_type (QK_cons qw_853 (QK_cons qw_854 (QK_cons qw_855 (QK_cons qw_993 QK_nil)))) (by decide +kernel)) ggX9_type_X9_isText
set_option maxRecDepth 20000 in
theorem ggX9_type_X6_append : GoodIn wsX9_type wsX6_append := qw_e qk_X9_type qk_X6_append (by decide +kernel)
set_option maxRecDepth 20000 in
theorem gX9_type_X6_append : GoodIn wsX9_type (wsV RX9 111 RX6 yX6_append wsX6_append) := goodIn_app (qw_e qk_X9_type (QK_cons qw_857 (QK_cons qw_858 (QK_cons qw_859 (QK_cons qw_950 QK_nil)))) (by decide +kernel)) ggX9_type_X6_append
set_option maxRecDepth 20000 in
theorem ggX9_type_X9_readAgain : GoodIn wsX9_type wsX9_readAgain := qw_e qk_X9_type qk_X9_readAgain (by decide +kernel)
set_option maxRecDepth 20000 in
theorem gX9_type_X9_readAgain : GoodIn wsX9_type (wsV RX9 114 RX9 yX9_readAgain wsX9_readAgain) := goodIn_app (qw_e qk_X9_type (QK_cons qw_861 (QK_cons qw_862 (QK_cons qw_863 (QK_cons qw_993 QK_nil)))) (by decide +kernel)) ggX9_type_X9_readAgain
theorem dX9_type_0 : decode cX9_type 0 = .ok (.aload_n 0, 1) := by decide +kernel
theorem dX9_type_1 : decode cX9_type 1 = .ok (.iload_n 1, 1) := by decide +kernel
theorem dX9_type_2 : decode cX9_type 2 = .ok (.invokevirtual 107, 3) := by decide +kernel
theorem dX9_type_5 : decode cX9_type 5 = .ok (.ifCond .eq 14, 3) := by decide +kernel
theorem dX9_type_8 : decode cX9_type 8 = .ok (.iload_n 2, 1) := by decide +kernel
theorem dX9_type_9 : decode cX9_type 9 = .ok (.ifCond .lt 10, 3) := by decide +kernel
theorem dX9_type_12 : decode cX9_type 12 = .ok (.iload_n 2, 1) := by decide +kernel
theorem dX9_type_13 : decode cX9_type 13 = .ok (.sipush 255, 3) := by decide +kernel
theorem dX9_type_16 : decode cX9_type 16 = .ok (.if_icmp .le 6, 3) := by decide +kernel
theorem dX9_type_19 : decode cX9_type 19 = .ok (.bipush (-2), 2) := by decide +kernel
theorem dX9_type_21 : decode cX9_type 21 = .ok (.ireturn, 1) := by decide +kernel
theorem dX9_type_22 : decode cX9_type 22 = .ok (.aload_n 0, 1) := by decide +kernel
theorem dX9_type_23 : decode cX9_type 23 = .ok (.getfield 11, 3) := by decide +kernel
theorem dX9_type_26 : decode cX9_type 26 = .ok (.iload_n 1, 1) := by decide +kernel
theorem dX9_type_27 : decode cX9_type 27 = .ok (.aaload, 1) := by decide +kernel
theorem dX9_type_28 : decode cX9_type 28 = .ok (.iload_n 2, 1) := by decide +kernel
theorem dX9_type_29 : decode cX9_type 29 = .ok (.invokevirtual 111, 3) := by decide +kernel
theorem dX9_type_32 : decode cX9_type 32 = .ok (.ifCond .ne 6, 3) := by decide +kernel
theorem dX9_type_35 : decode cX9_type 35 = .ok (.bipush (-4), 2) := by decide +kernel
theorem dX9_type_37 : decode cX9_type 37 = .ok (.ireturn, 1) := by decide +kernel
theorem dX9_type_38 : decode cX9_type 38 = .ok (.aload_n 0, 1) := by decide +kernel
theorem dX9_type_39 : decode cX9_type 39 = .ok (.iload_n 1, 1) := by decide +kernel
theorem dX9_type_40 : decode cX9_type 40 = .ok (.invokevirtual 114, 3) := by decide +kernel
theorem dX9_type_43 : decode cX9_type 43 = .ok (.aload_n 0, 1) := by decide +kernel
theorem dX9_type_44 : decode cX9_type 44 = .ok (.getfield 11, 3) := by decide +kernel
theorem dX9_type_47 : decode cX9_type 47 = .ok (.iload_n 1, 1) := by decide +kernel
theorem dX9_type_48 : decode cX9_type 48 = .ok (.aaload, 1) := by decide +kernel
theorem dX9_type_49 : decode cX9_type 49 = .ok (.getfield 117, 3) := by decide +kernel
theorem dX9_type_52 : decode cX9_type 52 = .ok (.ireturn, 1) := by decide +kernel
set_option maxRecDepth 20000 in
theorem ggX9_wipe_X9_isText : GoodIn wsX9_wipe wsX9_isText := qw_e qk_X9_wipe qk_X9_isText (by decide +kernel)
set_option maxRecDepth 20000 in
theorem gX9_wipe_X9_isText : GoodIn wsX9_wipe (wsV RX9 107 RX9 yX9_isText wsX9_isText) := goodIn_app (qw_e qk_X9_wipe (QK_cons qw_853 (QK_cons qw_854 (QK_cons qw_855 (QK_cons qw_993 QK_nil)))) (by decide +kernel)) ggX9_wipe_X9_isText
set_option maxRecDepth 20000 in
theorem ggX9_wipe_X9_readAgain : GoodIn wsX9_wipe wsX9_readAgain := qw_e qk_X9_wipe qk_X9_readAgain (by decide +kernel)
set_option maxRecDepth 20000 in
theorem gX9_wipe_X9_readAgain : GoodIn wsX9_wipe (wsV RX9 114 RX9 yX9_readAgain wsX9_readAgain) := goodIn_app (qw_e qk_X9_wipe (QK_cons qw_861 (QK_cons qw_862 (QK_cons qw_863 (QK_cons qw_993 QK_nil)))) (by decide +kernel)) ggX9_wipe_X9_readAgain
theorem dX9_wipe_0 : decode cX9_wipe 0 = .ok (.aload_n 0, 1) := by decide +kernel
theorem dX9_wipe_1 : decode cX9_wipe 1 = .ok (.iload_n 1, 1) := by decide +kernel
theorem dX9_wipe_2 : decode cX9_wipe 2 = .ok (.invokevirtual 107, 3) := by decide +kernel
theorem dX9_wipe_5 : decode cX9_wipe 5 = .ok (.ifCond .ne 6, 3) := by decide +kernel
theorem dX9_wipe_8 : decode cX9_wipe 8 = .ok (.bipush (-2), 2) := by decide +kernel
theorem dX9_wipe_10 : decode cX9_wipe 10 = .ok (.ireturn, 1) := by decide +kernel
theorem dX9_wipe_11 : decode cX9_wipe 11 = .ok (.aload_n 0, 1) := by decide +kernel
theorem dX9_wipe_12 : decode cX9_wipe 12 = .ok (.getfield 11, 3) := by decide +kernel
theorem dX9_wipe_15 : decode cX9_wipe 15 = .ok (.iload_n 1, 1) := by decide +kernel
theorem dX9_wipe_16 : decode cX9_wipe 16 = .ok (.aaload, 1) := by decide +kernel
theorem dX9_wipe_17 : decode cX9_wipe 17 = .ok (.getfield 117, 3) := by decide +kernel
theorem dX9_wipe_20 : decode cX9_wipe 20 = .ok (.istore_n 2, 1) := by decide +kernel
theorem dX9_wipe_21 : decode cX9_wipe 21 = .ok (.aload_n 0, 1) := by decide +kernel
theorem dX9_wipe_22 : decode cX9_wipe 22 = .ok (.getfield 11, 3) := by decide +kernel
theorem dX9_wipe_25 : decode cX9_wipe 25 = .ok (.iload_n 1, 1) := by decide +kernel
theorem dX9_wipe_26 : decode cX9_wipe 26 = .ok (.aaload, 1) := by decide +kernel
theorem dX9_wipe_27 : decode cX9_wipe 27 = .ok (.iconst 0, 1) := by decide +kernel
theorem dX9_wipe_28 : decode cX9_wipe 28 = .ok (.putfield 117, 3) := by decide +kernel
theorem dX9_wipe_31 : decode cX9_wipe 31 = .ok (.aload_n 0, 1) := by decide +kernel
theorem dX9_wipe_32 : decode cX9_wipe 32 = .ok (.iload_n 1, 1) := by decide +kernel
theorem dX9_wipe_33 : decode cX9_wipe 33 = .ok (.invokevirtual 114, 3) := by decide +kernel
theorem dX9_wipe_36 : decode cX9_wipe 36 = .ok (.iload_n 2, 1) := by decide +kernel
theorem dX9_wipe_37 : decode cX9_wipe 37 = .ok (.ireturn, 1) := by decide +kernel
set_option maxRecDepth 20000 in
theorem ggX9_undo_X9_isText : GoodIn wsX9_undo wsX9_isText := qw_e qk_X9_undo qk_X9_isText (by decide +kernel)
set_option maxRecDepth 20000 in
theorem gX9_undo_X9_isText : GoodIn wsX9_undo (wsV RX9 107 RX9 yX9_isText wsX9_isText) := goodIn_app (qw_e qk_X9_undo (QK_cons qw_853 (QK_cons qw_854 (QK_cons qw_855 (QK_cons qw_993 QK_nil)))) (by decide +kernel)) ggX9_undo_X9_isText
set_option maxRecDepth 20000 in
theorem ggX9_undo_X9_readAgain : GoodIn wsX9_undo wsX9_readAgain := qw_e qk_X9_undo qk_X9_readAgain (by decide +kernel)
set_option maxRecDepth 20000 in
theorem gX9_undo_X9_readAgain : GoodIn wsX9_undo (wsV RX9 114 RX9 yX9_readAgain wsX9_readAgain) := goodIn_app (qw_e qk_X9_undo (QK_cons qw_861 (QK_cons qw_862 (QK_cons qw_863 (QK_cons qw_993 QK_nil)))) (by decide +kernel)) ggX9_undo_X9_readAgain
theorem dX9_undo_0 : decode cX9_undo 0 = .ok (.aload_n 0, 1) := by decide +kernel
theorem dX9_undo_1 : decode cX9_undo 1 = .ok (.iload_n 1, 1) := by decide +kernel
theorem dX9_undo_2 : decode cX9_undo 2 = .ok (.invokevirtual 107, 3) := by decide +kernel
theorem dX9_undo_5 : decode cX9_undo 5 = .ok (.ifCond .ne 6, 3) := by decide +kernel
theorem dX9_undo_8 : decode cX9_undo 8 = .ok (.bipush (-2), 2) := by decide +kernel
theorem dX9_undo_10 : decode cX9_undo 10 = .ok (.ireturn, 1) := by decide +kernel
theorem dX9_undo_11 : decode cX9_undo 11 = .ok (.aload_n 0, 1) := by decide +kernel
theorem dX9_undo_12 : decode cX9_undo 12 = .ok (.getfield 11, 3) := by decide +kernel
theorem dX9_undo_15 : decode cX9_undo 15 = .ok (.iload_n 1, 1) := by decide +kernel
theorem dX9_undo_16 : decode cX9_undo 16 = .ok (.aaload, 1) := by decide +kernel
theorem dX9_undo_17 : decode cX9_undo 17 = .ok (.getfield 117, 3) := by decide +kernel
theorem dX9_undo_20 : decode cX9_undo 20 = .ok (.ifCond .ne 6, 3) := by decide +kernel
theorem dX9_undo_23 : decode cX9_undo 23 = .ok (.bipush (-3), 2) := by decide +kernel
theorem dX9_undo_25 : decode cX9_undo 25 = .ok (.ireturn, 1) := by decide +kernel
theorem dX9_undo_26 : decode cX9_undo 26 = .ok (.aload_n 0, 1) := by decide +kernel
theorem dX9_undo_27 : decode cX9_undo 27 = .ok (.getfield 11, 3) := by decide +kernel
theorem dX9_undo_30 : decode cX9_undo 30 = .ok (.iload_n 1, 1) := by decide +kernel
theorem dX9_undo_31 : decode cX9_undo 31 = .ok (.aaload, 1) := by decide +kernel
theorem dX9_undo_32 : decode cX9_undo 32 = .ok (.dup, 1) := by decide +kernel
theorem dX9_undo_33 : decode cX9_undo 33 = .ok (.getfield 117, 3) := by decide +kernel
theorem dX9_undo_36 : decode cX9_undo 36 = .ok (.iconst 1, 1) := by decide +kernel
theorem dX9_undo_37 : decode cX9_undo 37 = .ok (.isub, 1) := by decide +kernel
theorem dX9_undo_38 : decode cX9_undo 38 = .ok (.putfield 117, 3) := by decide +kernel
theorem dX9_undo_41 : decode cX9_undo 41 = .ok (.aload_n 0, 1) := by decide +kernel
theorem dX9_undo_42 : decode cX9_undo 42 = .ok (.iload_n 1, 1) := by decide +kernel
theorem dX9_undo_43 : decode cX9_undo 43 = .ok (.invokevirtual 114, 3) := by decide +kernel
theorem dX9_undo_46 : decode cX9_undo 46 = .ok (.aload_n 0, 1) := by decide +kernel
theorem dX9_undo_47 : decode cX9_undo 47 = .ok (.getfield 11, 3) := by decide +kernel
theorem dX9_undo_50 : decode cX9_undo 50 = .ok (.iload_n 1, 1) := by decide +kernel
theorem dX9_undo_51 : decode cX9_undo 51 = .ok (.aaload, 1) := by decide +kernel
theorem dX9_undo_52 : decode cX9_undo 52 = .ok (.getfield 117, 3) := by decide +kernel
theorem dX9_undo_55 : decode cX9_undo 55 = .ok (.ireturn, 1) := by decide +kernel
set_option maxRecDepth 20000 in
theorem ggX9_fault_X9_isText : GoodIn wsX9_fault wsX9_isText := qw_e qk_X9_fault qk_X9_isText (by decide +kernel)
set_option maxRecDepth 20000 in
theorem gX9_fault_X9_isText : GoodIn wsX9_fault (wsV RX9 107 RX9 yX9_isText wsX9_isText) := goodIn_app (qw_e qk_X9_fault (QK_cons qw_853 (QK_cons qw_854 (QK_cons qw_855 (QK_cons qw_993 QK_nil)))) (by decide +kernel)) ggX9_fault_X9_isText
theorem dX9_fault_0 : decode cX9_fault 0 = .ok (.aload_n 0, 1) := by decide +kernel
theorem dX9_fault_1 : decode cX9_fault 1 = .ok (.iload_n 1, 1) := by decide +kernel
theorem dX9_fault_2 : decode cX9_fault 2 = .ok (.invokevirtual 107, 3) := by decide +kernel
theorem dX9_fault_5 : decode cX9_fault 5 = .ok (.ifCond .eq 12, 3) := by decide +kernel
theorem dX9_fault_8 : decode cX9_fault 8 = .ok (.aload_n 0, 1) := by decide +kernel
theorem dX9_fault_9 : decode cX9_fault 9 = .ok (.getfield 15, 3) := by decide +kernel
theorem dX9_fault_12 : decode cX9_fault 12 = .ok (.iload_n 1, 1) := by decide +kernel
theorem dX9_fault_13 : decode cX9_fault 13 = .ok (.iaload, 1) := by decide +kernel
theorem dX9_fault_14 : decode cX9_fault 14 = .ok (.goto 5, 3) := by decide +kernel
theorem dX9_fault_17 : decode cX9_fault 17 = .ok (.bipush (-2), 2) := by decide +kernel
theorem dX9_fault_19 : decode cX9_fault 19 = .ok (.ireturn, 1) := by decide +kernel
theorem dX9_cell_0 : decode cX9_cell 0 = .ok (.iload_n 1, 1) := by decide +kernel
theorem dX9_cell_1 : decode cX9_cell 1 = .ok (.ifCond .lt 9, 3) := by decide +kernel
theorem dX9_cell_4 : decode cX9_cell 4 = .ok (.iload_n 1, 1) := by decide +kernel
theorem dX9_cell_5 : decode cX9_cell 5 = .ok (.bipush 36, 2) := by decide +kernel
theorem dX9_cell_7 : decode cX9_cell 7 = .ok (.if_icmp .lt 6, 3) := by decide +kernel
theorem dX9_cell_10 : decode cX9_cell 10 = .ok (.bipush (-2), 2) := by decide +kernel
theorem dX9_cell_12 : decode cX9_cell 12 = .ok (.ireturn, 1) := by decide +kernel
theorem dX9_cell_13 : decode cX9_cell 13 = .ok (.iload_n 1, 1) := by decide +kernel
theorem dX9_cell_14 : decode cX9_cell 14 = .ok (.aload_n 0, 1) := by decide +kernel
theorem dX9_cell_15 : decode cX9_cell 15 = .ok (.getfield 25, 3) := by decide +kernel
theorem dX9_cell_18 : decode cX9_cell 18 = .ok (.getfield 120, 3) := by decide +kernel
theorem dX9_cell_21 : decode cX9_cell 21 = .ok (.if_icmp .ge 15, 3) := by decide +kernel
theorem dX9_cell_24 : decode cX9_cell 24 = .ok (.aload_n 0, 1) := by decide +kernel
theorem dX9_cell_25 : decode cX9_cell 25 = .ok (.getfield 25, 3) := by decide +kernel
theorem dX9_cell_28 : decode cX9_cell 28 = .ok (.getfield 123, 3) := by decide +kernel
theorem dX9_cell_31 : decode cX9_cell 31 = .ok (.iload_n 1, 1) := by decide +kernel
theorem dX9_cell_32 : decode cX9_cell 32 = .ok (.iaload, 1) := by decide +kernel
theorem dX9_cell_33 : decode cX9_cell 33 = .ok (.goto 4, 3) := by decide +kernel
theorem dX9_cell_36 : decode cX9_cell 36 = .ok (.iconst (-1), 1) := by decide +kernel
theorem dX9_cell_37 : decode cX9_cell 37 = .ok (.ireturn, 1) := by decide +kernel
theorem dX9_beat_0 : decode cX9_beat 0 = .ok (.iload_n 1, 1) := by decide +kernel
theorem dX9_beat_1 : decode cX9_beat 1 = .ok (.ifCond .lt 9, 3) := by decide +kernel
theorem dX9_beat_4 : decode cX9_beat 4 = .ok (.iload_n 1, 1) := by decide +kernel
theorem dX9_beat_5 : decode cX9_beat 5 = .ok (.bipush 24, 2) := by decide +kernel
theorem dX9_beat_7 : decode cX9_beat 7 = .ok (.if_icmp .lt 6, 3) := by decide +kernel
theorem dX9_beat_10 : decode cX9_beat 10 = .ok (.bipush (-2), 2) := by decide +kernel
theorem dX9_beat_12 : decode cX9_beat 12 = .ok (.ireturn, 1) := by decide +kernel
theorem dX9_beat_13 : decode cX9_beat 13 = .ok (.iload_n 1, 1) := by decide +kernel
theorem dX9_beat_14 : decode cX9_beat 14 = .ok (.aload_n 0, 1) := by decide +kernel
theorem dX9_beat_15 : decode cX9_beat 15 = .ok (.getfield 32, 3) := by decide +kernel
theorem dX9_beat_18 : decode cX9_beat 18 = .ok (.getfield 126, 3) := by decide +kernel
theorem dX9_beat_21 : decode cX9_beat 21 = .ok (.if_icmp .ge 15, 3) := by decide +kernel
theorem dX9_beat_24 : decode cX9_beat 24 = .ok (.aload_n 0, 1) := by decide +kernel
theorem dX9_beat_25 : decode cX9_beat 25 = .ok (.getfield 32, 3) := by decide +kernel
theorem dX9_beat_28 : decode cX9_beat 28 = .ok (.getfield 127, 3) := by decide +kernel
theorem dX9_beat_31 : decode cX9_beat 31 = .ok (.iload_n 1, 1) := by decide +kernel
theorem dX9_beat_32 : decode cX9_beat 32 = .ok (.iaload, 1) := by decide +kernel
theorem dX9_beat_33 : decode cX9_beat 33 = .ok (.goto 4, 3) := by decide +kernel
theorem dX9_beat_36 : decode cX9_beat 36 = .ok (.iconst (-1), 1) := by decide +kernel
theorem dX9_beat_37 : decode cX9_beat 37 = .ok (.ireturn, 1) := by decide +kernel
set_option maxRecDepth 20000 in
theorem ggX9_thief_X9_isThief : GoodIn wsX9_thief wsX9_isThief := qw_e qk_X9_thief qk_X9_isThief (by decide +kernel)
set_option maxRecDepth 20000 in
theorem gX9_thief_X9_isThief : GoodIn wsX9_thief (wsV RX9 130 RX9 yX9_isThief wsX9_isThief) := goodIn_app (qw_e qk_X9_thief (QK_cons qw_687 (QK_cons qw_688 (QK_cons qw_689 (QK_cons qw_993 QK_nil)))) (by decide +kernel)) ggX9_thief_X9_isThief
set_option maxRecDepth 20000 in
theorem ggX9_thief_X9_isEither : GoodIn wsX9_thief wsX9_isEither := qw_e qk_X9_thief qk_X9_isEither (by decide +kernel)
set_option maxRecDepth 20000 in
theorem gX9_thief_X9_isEither : GoodIn wsX9_thief (va_wsS RX9 133 yX9_isEither wsX9_isEither) := goodIn_app (qw_e qk_X9_thief (QK_cons qw_692 (QK_cons qw_693 (QK_cons qw_993 QK_nil))) (by decide +kernel)) ggX9_thief_X9_isEither
theorem dX9_thief_0 : decode cX9_thief 0 = .ok (.aload_n 0, 1) := by decide +kernel
theorem dX9_thief_1 : decode cX9_thief 1 = .ok (.iload_n 1, 1) := by decide +kernel
theorem dX9_thief_2 : decode cX9_thief 2 = .ok (.invokevirtual 130, 3) := by decide +kernel
theorem dX9_thief_5 : decode cX9_thief 5 = .ok (.ifCond .eq 10, 3) := by decide +kernel
theorem dX9_thief_8 : decode cX9_thief 8 = .ok (.iload_n 2, 1) := by decide +kernel
theorem dX9_thief_9 : decode cX9_thief 9 = .ok (.invokestatic 133, 3) := by decide +kernel
theorem dX9_thief_12 : decode cX9_thief 12 = .ok (.ifCond .ne 6, 3) := by decide +kernel
theorem dX9_thief_15 : decode cX9_thief 15 = .ok (.bipush (-2), 2) := by decide +kernel
theorem dX9_thief_17 : decode cX9_thief 17 = .ok (.ireturn, 1) := by decide +kernel
theorem dX9_thief_18 : decode cX9_thief 18 = .ok (.iload_n 2, 1) := by decide +kernel
theorem dX9_thief_19 : decode cX9_thief 19 = .ok (.ifCond .ne 15, 3) := by decide +kernel
theorem dX9_thief_22 : decode cX9_thief 22 = .ok (.aload_n 0, 1) := by decide +kernel
theorem dX9_thief_23 : decode cX9_thief 23 = .ok (.getfield 39, 3) := by decide +kernel
theorem dX9_thief_26 : decode cX9_thief 26 = .ok (.getfield 136, 3) := by decide +kernel
theorem dX9_thief_29 : decode cX9_thief 29 = .ok (.iload_n 1, 1) := by decide +kernel
theorem dX9_thief_30 : decode cX9_thief 30 = .ok (.iaload, 1) := by decide +kernel
theorem dX9_thief_31 : decode cX9_thief 31 = .ok (.goto 12, 3) := by decide +kernel
theorem dX9_thief_34 : decode cX9_thief 34 = .ok (.aload_n 0, 1) := by decide +kernel
theorem dX9_thief_35 : decode cX9_thief 35 = .ok (.getfield 39, 3) := by decide +kernel
theorem dX9_thief_38 : decode cX9_thief 38 = .ok (.getfield 139, 3) := by decide +kernel
theorem dX9_thief_41 : decode cX9_thief 41 = .ok (.iload_n 1, 1) := by decide +kernel
theorem dX9_thief_42 : decode cX9_thief 42 = .ok (.iaload, 1) := by decide +kernel
theorem dX9_thief_43 : decode cX9_thief 43 = .ok (.ireturn, 1) := by decide +kernel
theorem dX9_set_0 : decode cX9_set 0 = .ok (.iload_n 1, 1) := by decide +kernel
theorem dX9_set_1 : decode cX9_set 1 = .ok (.ifCond .lt 25, 3) := by decide +kernel
theorem dX9_set_4 : decode cX9_set 4 = .ok (.iload_n 1, 1) := by decide +kernel
theorem dX9_set_5 : decode cX9_set 5 = .ok (.aload_n 0, 1) := by decide +kernel
theorem dX9_set_6 : decode cX9_set 6 = .ok (.getfield 19, 3) := by decide +kernel
theorem dX9_set_9 : decode cX9_set 9 = .ok (.arraylength, 1) := by decide +kernel
theorem dX9_set_10 : decode cX9_set 10 = .ok (.if_icmp .ge 16, 3) := by decide +kernel
theorem dX9_set_13 : decode cX9_set 13 = .ok (.iload_n 2, 1) := by decide +kernel
theorem dX9_set_14 : decode cX9_set 14 = .ok (.ifCond .lt 12, 3) := by decide +kernel
theorem dX9_set_17 : decode cX9_set 17 = .ok (.iload_n 2, 1) := by decide +kernel
theorem dX9_set_18 : decode cX9_set 18 = .ok (.getstatic 142, 3) := by decide +kernel
theorem dX9_set_21 : decode cX9_set 21 = .ok (.iload_n 1, 1) := by decide +kernel
theorem dX9_set_22 : decode cX9_set 22 = .ok (.iaload, 1) := by decide +kernel
theorem dX9_set_23 : decode cX9_set 23 = .ok (.if_icmp .le 6, 3) := by decide +kernel
theorem dX9_set_26 : decode cX9_set 26 = .ok (.bipush (-2), 2) := by decide +kernel
theorem dX9_set_28 : decode cX9_set 28 = .ok (.ireturn, 1) := by decide +kernel
theorem dX9_set_29 : decode cX9_set 29 = .ok (.aload_n 0, 1) := by decide +kernel
theorem dX9_set_30 : decode cX9_set 30 = .ok (.getfield 19, 3) := by decide +kernel
theorem dX9_set_33 : decode cX9_set 33 = .ok (.iload_n 1, 1) := by decide +kernel
theorem dX9_set_34 : decode cX9_set 34 = .ok (.iaload, 1) := by decide +kernel
theorem dX9_set_35 : decode cX9_set 35 = .ok (.istore_n 3, 1) := by decide +kernel
theorem dX9_set_36 : decode cX9_set 36 = .ok (.aload_n 0, 1) := by decide +kernel
theorem dX9_set_37 : decode cX9_set 37 = .ok (.getfield 19, 3) := by decide +kernel
theorem dX9_set_40 : decode cX9_set 40 = .ok (.iload_n 1, 1) := by decide +kernel
theorem dX9_set_41 : decode cX9_set 41 = .ok (.iload_n 2, 1) := by decide +kernel
theorem dX9_set_42 : decode cX9_set 42 = .ok (.iastore, 1) := by decide +kernel
theorem dX9_set_43 : decode cX9_set 43 = .ok (.aload_n 0, 1) := by decide +kernel
theorem dX9_set_44 : decode cX9_set 44 = .ok (.iconst 1, 1) := by decide +kernel
theorem dX9_set_45 : decode cX9_set 45 = .ok (.putfield 93, 3) := by decide +kernel
theorem dX9_set_48 : decode cX9_set 48 = .ok (.iload_n 3, 1) := by decide +kernel
theorem dX9_set_49 : decode cX9_set 49 = .ok (.ireturn, 1) := by decide +kernel
set_option maxRecDepth 20000 in
theorem ggX9_at_X9_isMoment : GoodIn wsX9_at wsX9_isMoment := qw_e qk_X9_at qk_X9_isMoment (by decide +kernel)
set_option maxRecDepth 20000 in
theorem gX9_at_X9_isMoment : GoodIn wsX9_at (va_wsS RX9 145 yX9_isMoment wsX9_isMoment) := goodIn_app (qw_e qk_X9_at (QK_cons qw_671 (QK_cons qw_672 (QK_cons qw_993 QK_nil))) (by decide +kernel)) ggX9_at_X9_isMoment
set_option maxRecDepth 20000 in
theorem ggX9_at_X9_settle : GoodIn wsX9_at wsX9_settle := qw_e qk_X9_at qk_X9_settle (by decide +kernel)
set_option maxRecDepth 20000 in
theorem gX9_at_X9_settle : GoodIn wsX9_at (wsV RX9 148 RX9 yX9_settle wsX9_settle) := goodIn_app (qw_e qk_X9_at (QK_cons qw_674 (QK_cons qw_675 (QK_cons qw_676 (QK_cons qw_993 QK_nil)))) (by decide +kernel)) ggX9_at_X9_settle
theorem dX9_at_0 : decode cX9_at 0 = .ok (.iload_n 1, 1) := by decide +kernel
theorem dX9_at_1 : decode cX9_at 1 = .ok (.invokestatic 145, 3) := by decide +kernel
theorem dX9_at_4 : decode cX9_at 4 = .ok (.ifCond .ne 6, 3) := by decide +kernel
theorem dX9_at_7 : decode cX9_at 7 = .ok (.bipush (-2), 2) := by decide +kernel
theorem dX9_at_9 : decode cX9_at 9 = .ok (.ireturn, 1) := by decide +kernel
theorem dX9_at_10 : decode cX9_at 10 = .ok (.aload_n 0, 1) := by decide +kernel
theorem dX9_at_11 : decode cX9_at 11 = .ok (.invokevirtual 148, 3) := by decide +kernel
theorem dX9_at_14 : decode cX9_at 14 = .ok (.aload_n 0, 1) := by decide +kernel
theorem dX9_at_15 : decode cX9_at 15 = .ok (.getfield 66, 3) := by decide +kernel
theorem dX9_at_18 : decode cX9_at 18 = .ok (.getfield 151, 3) := by decide +kernel
theorem dX9_at_21 : decode cX9_at 21 = .ok (.iload_n 1, 1) := by decide +kernel
theorem dX9_at_22 : decode cX9_at 22 = .ok (.iaload, 1) := by decide +kernel
theorem dX9_at_23 : decode cX9_at 23 = .ok (.ireturn, 1) := by decide +kernel
set_option maxRecDepth 20000 in
theorem ggX9_sees_X9_isMoment : GoodIn wsX9_sees wsX9_isMoment := qw_e qk_X9_sees qk_X9_isMoment (by decide +kernel)
set_option maxRecDepth 20000 in
theorem gX9_sees_X9_isMoment : GoodIn wsX9_sees (va_wsS RX9 145 yX9_isMoment wsX9_isMoment) := goodIn_app (qw_e qk_X9_sees (QK_cons qw_671 (QK_cons qw_672 (QK_cons qw_993 QK_nil))) (by decide +kernel)) ggX9_sees_X9_isMoment
set_option maxRecDepth 20000 in
theorem ggX9_sees_X9_isEither : GoodIn wsX9_sees wsX9_isEither := qw_e qk_X9_sees qk_X9_isEither (by decide +kernel)
set_option maxRecDepth 20000 in
theorem gX9_sees_X9_isEither : GoodIn wsX9_sees (va_wsS RX9 133 yX9_isEither wsX9_isEither) := goodIn_app (qw_e qk_X9_sees (QK_cons qw_692 (QK_cons qw_693 (QK_cons qw_993 QK_nil))) (by decide +kernel)) ggX9_sees_X9_isEither
set_option maxRecDepth 20000 in
theorem ggX9_sees_X9_settle : GoodIn wsX9_sees wsX9_settle := qw_e qk_X9_sees qk_X9_settle (by decide +kernel)
set_option maxRecDepth 20000 in
theorem gX9_sees_X9_settle : GoodIn wsX9_sees (wsV RX9 148 RX9 yX9_settle wsX9_settle) := goodIn_app (qw_e qk_X9_sees (QK_cons qw_674 (QK_cons qw_675 (QK_cons qw_676 (QK_cons qw_993 QK_nil)))) (by decide +kernel)) ggX9_sees_X9_settle
set_option maxRecDepth 20000 in
theorem ggX9_sees_X9_halfOf : GoodIn wsX9_sees wsX9_halfOf := qw_e qk_X9_sees qk_X9_halfOf (by decide +kernel)
set_option maxRecDepth 20000 in
theorem gX9_sees_X9_halfOf : GoodIn wsX9_sees (va_wsS RX9 158 yX9_halfOf wsX9_halfOf) := goodIn_app (qw_e qk_X9_sees (QK_cons qw_582 (QK_cons qw_535 (QK_cons qw_993 QK_nil))) (by decide +kernel)) ggX9_sees_X9_halfOf
theorem dX9_sees_0 : decode cX9_sees 0 = .ok (.iload_n 1, 1) := by decide +kernel
theorem dX9_sees_1 : decode cX9_sees 1 = .ok (.invokestatic 145, 3) := by decide +kernel
theorem dX9_sees_4 : decode cX9_sees 4 = .ok (.ifCond .eq 10, 3) := by decide +kernel
theorem dX9_sees_7 : decode cX9_sees 7 = .ok (.iload_n 2, 1) := by decide +kernel
theorem dX9_sees_8 : decode cX9_sees 8 = .ok (.invokestatic 133, 3) := by decide +kernel
theorem dX9_sees_11 : decode cX9_sees 11 = .ok (.ifCond .ne 6, 3) := by decide +kernel
theorem dX9_sees_14 : decode cX9_sees 14 = .ok (.bipush (-2), 2) := by decide +kernel
theorem dX9_sees_16 : decode cX9_sees 16 = .ok (.ireturn, 1) := by decide +kernel
theorem dX9_sees_17 : decode cX9_sees 17 = .ok (.aload_n 0, 1) := by decide +kernel
theorem dX9_sees_18 : decode cX9_sees 18 = .ok (.invokevirtual 148, 3) := by decide +kernel
theorem dX9_sees_21 : decode cX9_sees 21 = .ok (.aload_n 0, 1) := by decide +kernel
theorem dX9_sees_22 : decode cX9_sees 22 = .ok (.getfield 66, 3) := by decide +kernel
theorem dX9_sees_25 : decode cX9_sees 25 = .ok (.getfield 154, 3) := by decide +kernel
theorem dX9_sees_28 : decode cX9_sees 28 = .ok (.iload_n 1, 1) := by decide +kernel
theorem dX9_sees_29 : decode cX9_sees 29 = .ok (.laload, 1) := by decide +kernel
theorem dX9_sees_30 : decode cX9_sees 30 = .ok (.iload_n 2, 1) := by decide +kernel
theorem dX9_sees_31 : decode cX9_sees 31 = .ok (.invokestatic 158, 3) := by decide +kernel
theorem dX9_sees_34 : decode cX9_sees 34 = .ok (.ireturn, 1) := by decide +kernel
set_option maxRecDepth 20000 in
theorem ggX9_seen_X8_has : GoodIn wsX9_seen wsX8_has := qw_e qk_X9_seen qk_X8_has (by decide +kernel)
set_option maxRecDepth 20000 in
theorem gX9_seen_X8_has : GoodIn wsX9_seen (wsV RX9 162 RX8 yX8_has wsX8_has) := goodIn_app (qw_e qk_X9_seen (QK_cons qw_550 (QK_cons qw_652 (QK_cons qw_653 (QK_cons qw_1010 QK_nil)))) (by decide +kernel)) ggX9_seen_X8_has
set_option maxRecDepth 20000 in
theorem ggX9_seen_X9_isEither : GoodIn wsX9_seen wsX9_isEither := qw_e qk_X9_seen qk_X9_isEither (by decide +kernel)
set_option maxRecDepth 20000 in
theorem gX9_seen_X9_isEither : GoodIn wsX9_seen (va_wsS RX9 133 yX9_isEither wsX9_isEither) := goodIn_app (qw_e qk_X9_seen (QK_cons qw_692 (QK_cons qw_693 (QK_cons qw_993 QK_nil))) (by decide +kernel)) ggX9_seen_X9_isEither
set_option maxRecDepth 20000 in
theorem ggX9_seen_X9_settle : GoodIn wsX9_seen wsX9_settle := qw_e qk_X9_seen qk_X9_settle (by decide +kernel)
set_option maxRecDepth 20000 in
theorem gX9_seen_X9_settle : GoodIn wsX9_seen (wsV RX9 148 RX9 yX9_settle wsX9_settle) := goodIn_app (qw_e qk_X9_seen (QK_cons qw_674 (QK_cons qw_675 (QK_cons qw_676 (QK_cons qw_993 QK_nil)))) (by decide +kernel)) ggX9_seen_X9_settle
set_option maxRecDepth 20000 in
theorem ggX9_seen_X2_momentsSeen : GoodIn wsX9_seen wsX2_momentsSeen := qw_e qk_X9_seen qk_X2_momentsSeen (by decide +kernel)
set_option maxRecDepth 20000 in
theorem gX9_seen_X2_momentsSeen : GoodIn wsX9_seen (wsV RX9 165 RX2 yX2_momentsSeen wsX2_momentsSeen) := goodIn_app (qw_e qk_X9_seen (QK_cons qw_551 (QK_cons qw_552 (QK_cons qw_553 (QK_cons qw_984 QK_nil)))) (by decide +kernel)) ggX9_seen_X2_momentsSeen
set_option maxRecDepth 20000 in
theorem ggX9_seen_X2_longestUnseen : GoodIn wsX9_seen wsX2_longestUnseen := qw_e qk_X9_seen qk_X2_longestUnseen (by decide +kernel)
set_option maxRecDepth 20000 in
theorem gX9_seen_X2_longestUnseen : GoodIn wsX9_seen (wsV RX9 169 RX2 yX2_longestUnseen wsX2_longestUnseen) := goodIn_app (qw_e qk_X9_seen (QK_cons qw_555 (QK_cons qw_556 (QK_cons qw_557 (QK_cons qw_984 QK_nil)))) (by decide +kernel)) ggX9_seen_X2_longestUnseen
theorem dX9_seen_0 : decode cX9_seen 0 = .ok (.aload_n 0, 1) := by decide +kernel
theorem dX9_seen_1 : decode cX9_seen 1 = .ok (.getfield 25, 3) := by decide +kernel
theorem dX9_seen_4 : decode cX9_seen 4 = .ok (.iload_n 1, 1) := by decide +kernel
theorem dX9_seen_5 : decode cX9_seen 5 = .ok (.invokevirtual 162, 3) := by decide +kernel
theorem dX9_seen_8 : decode cX9_seen 8 = .ok (.ifCond .eq 10, 3) := by decide +kernel
theorem dX9_seen_11 : decode cX9_seen 11 = .ok (.iload_n 2, 1) := by decide +kernel
theorem dX9_seen_12 : decode cX9_seen 12 = .ok (.invokestatic 133, 3) := by decide +kernel
theorem dX9_seen_15 : decode cX9_seen 15 = .ok (.ifCond .ne 6, 3) := by decide +kernel
theorem dX9_seen_18 : decode cX9_seen 18 = .ok (.bipush (-2), 2) := by decide +kernel
theorem dX9_seen_20 : decode cX9_seen 20 = .ok (.ireturn, 1) := by decide +kernel
theorem dX9_seen_21 : decode cX9_seen 21 = .ok (.aload_n 0, 1) := by decide +kernel
theorem dX9_seen_22 : decode cX9_seen 22 = .ok (.invokevirtual 148, 3) := by decide +kernel
theorem dX9_seen_25 : decode cX9_seen 25 = .ok (.iload_n 2, 1) := by decide +kernel
theorem dX9_seen_26 : decode cX9_seen 26 = .ok (.ifCond .ne 14, 3) := by decide +kernel
theorem dX9_seen_29 : decode cX9_seen 29 = .ok (.aload_n 0, 1) := by decide +kernel
theorem dX9_seen_30 : decode cX9_seen 30 = .ok (.getfield 66, 3) := by decide +kernel
theorem dX9_seen_33 : decode cX9_seen 33 = .ok (.iload_n 1, 1) := by decide +kernel
theorem dX9_seen_34 : decode cX9_seen 34 = .ok (.invokevirtual 165, 3) := by decide +kernel
theorem dX9_seen_37 : decode cX9_seen 37 = .ok (.goto 11, 3) := by decide +kernel
theorem dX9_seen_40 : decode cX9_seen 40 = .ok (.aload_n 0, 1) := by decide +kernel
theorem dX9_seen_41 : decode cX9_seen 41 = .ok (.getfield 66, 3) := by decide +kernel
theorem dX9_seen_44 : decode cX9_seen 44 = .ok (.iload_n 1, 1) := by decide +kernel
theorem dX9_seen_45 : decode cX9_seen 45 = .ok (.invokevirtual 169, 3) := by decide +kernel
theorem dX9_seen_48 : decode cX9_seen 48 = .ok (.ireturn, 1) := by decide +kernel
set_option maxRecDepth 20000 in
theorem ggX9_takes_X9_isThief : GoodIn wsX9_takes wsX9_isThief := qw_e qk_X9_takes qk_X9_isThief (by decide +kernel)
set_option maxRecDepth 20000 in
theorem gX9_takes_X9_isThief : GoodIn wsX9_takes (wsV RX9 130 RX9 yX9_isThief wsX9_isThief) := goodIn_app (qw_e qk_X9_takes (QK_cons qw_687 (QK_cons qw_688 (QK_cons qw_689 (QK_cons qw_993 QK_nil)))) (by decide +kernel)) ggX9_takes_X9_isThief
set_option maxRecDepth 20000 in
theorem ggX9_takes_X9_settle : GoodIn wsX9_takes wsX9_settle := qw_e qk_X9_takes qk_X9_settle (by decide +kernel)
set_option maxRecDepth 20000 in
theorem gX9_takes_X9_settle : GoodIn wsX9_takes (wsV RX9 148 RX9 yX9_settle wsX9_settle) := goodIn_app (qw_e qk_X9_takes (QK_cons qw_674 (QK_cons qw_675 (QK_cons qw_676 (QK_cons qw_993 QK_nil)))) (by decide +kernel)) ggX9_takes_X9_settle
set_option maxRecDepth 20000 in
theorem ggX9_takes_X7_takesBehind : GoodIn wsX9_takes wsX7_takesBehind := qw_e qk_X9_takes qk_X7_takesBehind (by decide +kernel)
set_option maxRecDepth 20000 in
theorem gX9_takes_X7_takesBehind : GoodIn wsX9_takes (wsV RX9 172 RX7 yX7_takesBehind wsX7_takesBehind) := goodIn_app (qw_e qk_X9_takes (QK_cons qw_531 (QK_cons qw_532 (QK_cons qw_533 (QK_cons qw_970 QK_nil)))) (by decide +kernel)) ggX9_takes_X7_takesBehind
theorem dX9_takes_0 : decode cX9_takes 0 = .ok (.aload_n 0, 1) := by decide +kernel
theorem dX9_takes_1 : decode cX9_takes 1 = .ok (.iload_n 1, 1) := by decide +kernel
theorem dX9_takes_2 : decode cX9_takes 2 = .ok (.invokevirtual 130, 3) := by decide +kernel
theorem dX9_takes_5 : decode cX9_takes 5 = .ok (.ifCond .ne 6, 3) := by decide +kernel
theorem dX9_takes_8 : decode cX9_takes 8 = .ok (.bipush (-2), 2) := by decide +kernel
theorem dX9_takes_10 : decode cX9_takes 10 = .ok (.ireturn, 1) := by decide +kernel
theorem dX9_takes_11 : decode cX9_takes 11 = .ok (.aload_n 0, 1) := by decide +kernel
theorem dX9_takes_12 : decode cX9_takes 12 = .ok (.invokevirtual 148, 3) := by decide +kernel
theorem dX9_takes_15 : decode cX9_takes 15 = .ok (.aload_n 0, 1) := by decide +kernel
theorem dX9_takes_16 : decode cX9_takes 16 = .ok (.getfield 39, 3) := by decide +kernel
theorem dX9_takes_19 : decode cX9_takes 19 = .ok (.iload_n 1, 1) := by decide +kernel
theorem dX9_takes_20 : decode cX9_takes 20 = .ok (.aload_n 0, 1) := by decide +kernel
theorem dX9_takes_21 : decode cX9_takes 21 = .ok (.getfield 25, 3) := by decide +kernel
theorem dX9_takes_24 : decode cX9_takes 24 = .ok (.aload_n 0, 1) := by decide +kernel
theorem dX9_takes_25 : decode cX9_takes 25 = .ok (.getfield 66, 3) := by decide +kernel
theorem dX9_takes_28 : decode cX9_takes 28 = .ok (.invokevirtual 172, 3) := by decide +kernel
theorem dX9_takes_31 : decode cX9_takes 31 = .ok (.ireturn, 1) := by decide +kernel
set_option maxRecDepth 20000 in
theorem ggX9_safe_X9_isEither : GoodIn wsX9_safe wsX9_isEither := qw_e qk_X9_safe qk_X9_isEither (by decide +kernel)
set_option maxRecDepth 20000 in
theorem gX9_safe_X9_isEither : GoodIn wsX9_safe (va_wsS RX9 133 yX9_isEither wsX9_isEither) := goodIn_app (qw_e qk_X9_safe (QK_cons qw_692 (QK_cons qw_693 (QK_cons qw_993 QK_nil))) (by decide +kernel)) ggX9_safe_X9_isEither
set_option maxRecDepth 20000 in
theorem ggX9_safe_X9_settle : GoodIn wsX9_safe wsX9_settle := qw_e qk_X9_safe qk_X9_settle (by decide +kernel)
set_option maxRecDepth 20000 in
theorem gX9_safe_X9_settle : GoodIn wsX9_safe (wsV RX9 148 RX9 yX9_settle wsX9_settle) := goodIn_app (qw_e qk_X9_safe (QK_cons qw_674 (QK_cons qw_675 (QK_cons qw_676 (QK_cons qw_993 QK_nil)))) (by decide +kernel)) ggX9_safe_X9_settle
set_option maxRecDepth 20000 in
theorem ggX9_safe_X7_takenFrom : GoodIn wsX9_safe wsX7_takenFrom := qw_e qk_X9_safe qk_X7_takenFrom (by decide +kernel)
set_option maxRecDepth 20000 in
theorem gX9_safe_X7_takenFrom : GoodIn wsX9_safe (wsV RX9 180 RX7 yX7_takenFrom wsX7_takenFrom) := goodIn_app (qw_e qk_X9_safe (QK_cons qw_465 (QK_cons qw_466 (QK_cons qw_467 (QK_cons qw_970 QK_nil)))) (by decide +kernel)) ggX9_safe_X7_takenFrom
set_option maxRecDepth 20000 in
theorem ggX9_safe_X9_halfOf : GoodIn wsX9_safe wsX9_halfOf := qw_e qk_X9_safe qk_X9_halfOf (by decide +kernel)
set_option maxRecDepth 20000 in
theorem gX9_safe_X9_halfOf : GoodIn wsX9_safe (va_wsS RX9 158 yX9_halfOf wsX9_halfOf) := goodIn_app (qw_e qk_X9_safe (QK_cons qw_582 (QK_cons qw_535 (QK_cons qw_993 QK_nil))) (by decide +kernel)) ggX9_safe_X9_halfOf
theorem dX9_safe_0 : decode cX9_safe 0 = .ok (.iload_n 1, 1) := by decide +kernel
theorem dX9_safe_1 : decode cX9_safe 1 = .ok (.invokestatic 133, 3) := by decide +kernel
theorem dX9_safe_4 : decode cX9_safe 4 = .ok (.ifCond .ne 6, 3) := by decide +kernel
theorem dX9_safe_7 : decode cX9_safe 7 = .ok (.bipush (-2), 2) := by decide +kernel
theorem dX9_safe_9 : decode cX9_safe 9 = .ok (.ireturn, 1) := by decide +kernel
theorem dX9_safe_10 : decode cX9_safe 10 = .ok (.aload_n 0, 1) := by decide +kernel
theorem dX9_safe_11 : decode cX9_safe 11 = .ok (.invokevirtual 148, 3) := by decide +kernel
theorem dX9_safe_14 : decode cX9_safe 14 = .ok (.aload_n 0, 1) := by decide +kernel
theorem dX9_safe_15 : decode cX9_safe 15 = .ok (.getfield 25, 3) := by decide +kernel
theorem dX9_safe_18 : decode cX9_safe 18 = .ok (.getfield 176, 3) := by decide +kernel
theorem dX9_safe_21 : decode cX9_safe 21 = .ok (.aload_n 0, 1) := by decide +kernel
theorem dX9_safe_22 : decode cX9_safe 22 = .ok (.getfield 39, 3) := by decide +kernel
theorem dX9_safe_25 : decode cX9_safe 25 = .ok (.aload_n 0, 1) := by decide +kernel
theorem dX9_safe_26 : decode cX9_safe 26 = .ok (.getfield 25, 3) := by decide +kernel
theorem dX9_safe_29 : decode cX9_safe 29 = .ok (.aload_n 0, 1) := by decide +kernel
theorem dX9_safe_30 : decode cX9_safe 30 = .ok (.getfield 66, 3) := by decide +kernel
theorem dX9_safe_33 : decode cX9_safe 33 = .ok (.iconst (-1), 1) := by decide +kernel
theorem dX9_safe_34 : decode cX9_safe 34 = .ok (.invokevirtual 180, 3) := by decide +kernel
theorem dX9_safe_37 : decode cX9_safe 37 = .ok (.ldc2_w 184, 3) := by decide +kernel
theorem dX9_safe_40 : decode cX9_safe 40 = .ok (.lxor, 1) := by decide +kernel
theorem dX9_safe_41 : decode cX9_safe 41 = .ok (.land, 1) := by decide +kernel
theorem dX9_safe_42 : decode cX9_safe 42 = .ok (.iload_n 1, 1) := by decide +kernel
theorem dX9_safe_43 : decode cX9_safe 43 = .ok (.invokestatic 158, 3) := by decide +kernel
theorem dX9_safe_46 : decode cX9_safe 46 = .ok (.ireturn, 1) := by decide +kernel
set_option maxRecDepth 20000 in
theorem ggX9_lost_X9_settle : GoodIn wsX9_lost wsX9_settle := qw_e qk_X9_lost qk_X9_settle (by decide +kernel)
set_option maxRecDepth 20000 in
theorem gX9_lost_X9_settle : GoodIn wsX9_lost (wsV RX9 148 RX9 yX9_settle wsX9_settle) := goodIn_app (qw_e qk_X9_lost (QK_cons qw_674 (QK_cons qw_675 (QK_cons qw_676 (QK_cons qw_993 QK_nil)))) (by decide +kernel)) ggX9_lost_X9_settle
set_option maxRecDepth 20000 in
theorem ggX9_lost_X7_howManyTake : GoodIn wsX9_lost wsX7_howManyTake := qw_e qk_X9_lost qk_X7_howManyTake (by decide +kernel)
set_option maxRecDepth 20000 in
theorem gX9_lost_X7_howManyTake : GoodIn wsX9_lost (wsV RX9 186 RX7 yX7_howManyTake wsX7_howManyTake) := goodIn_app (qw_e qk_X9_lost (QK_cons qw_486 (QK_cons qw_439 (QK_cons qw_440 (QK_cons qw_970 QK_nil)))) (by decide +kernel)) ggX9_lost_X7_howManyTake
theorem dX9_lost_0 : decode cX9_lost 0 = .ok (.aload_n 0, 1) := by decide +kernel
theorem dX9_lost_1 : decode cX9_lost 1 = .ok (.invokevirtual 148, 3) := by decide +kernel
theorem dX9_lost_4 : decode cX9_lost 4 = .ok (.aload_n 0, 1) := by decide +kernel
theorem dX9_lost_5 : decode cX9_lost 5 = .ok (.getfield 39, 3) := by decide +kernel
theorem dX9_lost_8 : decode cX9_lost 8 = .ok (.aload_n 0, 1) := by decide +kernel
theorem dX9_lost_9 : decode cX9_lost 9 = .ok (.getfield 25, 3) := by decide +kernel
theorem dX9_lost_12 : decode cX9_lost 12 = .ok (.aload_n 0, 1) := by decide +kernel
theorem dX9_lost_13 : decode cX9_lost 13 = .ok (.getfield 66, 3) := by decide +kernel
theorem dX9_lost_16 : decode cX9_lost 16 = .ok (.invokevirtual 186, 3) := by decide +kernel
theorem dX9_lost_19 : decode cX9_lost 19 = .ok (.ireturn, 1) := by decide +kernel
set_option maxRecDepth 20000 in
theorem ggX9_first_X9_settle : GoodIn wsX9_first wsX9_settle := qw_e qk_X9_first qk_X9_settle (by decide +kernel)
set_option maxRecDepth 20000 in
theorem gX9_first_X9_settle : GoodIn wsX9_first (wsV RX9 148 RX9 yX9_settle wsX9_settle) := goodIn_app (qw_e qk_X9_first (QK_cons qw_674 (QK_cons qw_675 (QK_cons qw_676 (QK_cons qw_993 QK_nil)))) (by decide +kernel)) ggX9_first_X9_settle
set_option maxRecDepth 20000 in
theorem ggX9_first_X7_takesBehind : GoodIn wsX9_first wsX7_takesBehind := qw_e qk_X9_first qk_X7_takesBehind (by decide +kernel)
set_option maxRecDepth 20000 in
theorem gX9_first_X7_takesBehind : GoodIn wsX9_first (wsV RX9 172 RX7 yX7_takesBehind wsX7_takesBehind) := goodIn_app (qw_e qk_X9_first (QK_cons qw_531 (QK_cons qw_532 (QK_cons qw_533 (QK_cons qw_970 QK_nil)))) (by decide +kernel)) ggX9_first_X7_takesBehind
theorem dX9_first_0 : decode cX9_first 0 = .ok (.aload_n 0, 1) := by decide +kernel
theorem dX9_first_1 : decode cX9_first 1 = .ok (.invokevirtual 148, 3) := by decide +kernel
theorem dX9_first_4 : decode cX9_first 4 = .ok (.iconst (-1), 1) := by decide +kernel
theorem dX9_first_5 : decode cX9_first 5 = .ok (.istore_n 1, 1) := by decide +kernel
theorem dX9_first_6 : decode cX9_first 6 = .ok (.bipush 96, 2) := by decide +kernel
theorem dX9_first_8 : decode cX9_first 8 = .ok (.istore_n 2, 1) := by decide +kernel
theorem dX9_first_9 : decode cX9_first 9 = .ok (.iconst 0, 1) := by decide +kernel
theorem dX9_first_10 : decode cX9_first 10 = .ok (.istore_n 3, 1) := by decide +kernel
theorem dX9_first_11 : decode cX9_first 11 = .ok (.iload_n 3, 1) := by decide +kernel
theorem dX9_first_12 : decode cX9_first 12 = .ok (.aload_n 0, 1) := by decide +kernel
theorem dX9_first_13 : decode cX9_first 13 = .ok (.getfield 39, 3) := by decide +kernel
theorem dX9_first_16 : decode cX9_first 16 = .ok (.getfield 190, 3) := by decide +kernel
theorem dX9_first_19 : decode cX9_first 19 = .ok (.if_icmp .ge 44, 3) := by decide +kernel
theorem dX9_first_22 : decode cX9_first 22 = .ok (.aload_n 0, 1) := by decide +kernel
theorem dX9_first_23 : decode cX9_first 23 = .ok (.getfield 39, 3) := by decide +kernel
theorem dX9_first_26 : decode cX9_first 26 = .ok (.iload_n 3, 1) := by decide +kernel
theorem dX9_first_27 : decode cX9_first 27 = .ok (.aload_n 0, 1) := by decide +kernel
theorem dX9_first_28 : decode cX9_first 28 = .ok (.getfield 25, 3) := by decide +kernel
theorem dX9_first_31 : decode cX9_first 31 = .ok (.aload_n 0, 1) := by decide +kernel
theorem dX9_first_32 : decode cX9_first 32 = .ok (.getfield 66, 3) := by decide +kernel
theorem dX9_first_35 : decode cX9_first 35 = .ok (.invokevirtual 172, 3) := by decide +kernel
theorem dX9_first_38 : decode cX9_first 38 = .ok (.istore 4, 2) := by decide +kernel
theorem dX9_first_40 : decode cX9_first 40 = .ok (.iload 4, 2) := by decide +kernel
theorem dX9_first_42 : decode cX9_first 42 = .ok (.iconst (-1), 1) := by decide +kernel
theorem dX9_first_43 : decode cX9_first 43 = .ok (.if_icmp .eq 14, 3) := by decide +kernel
theorem dX9_first_46 : decode cX9_first 46 = .ok (.iload 4, 2) := by decide +kernel
theorem dX9_first_48 : decode cX9_first 48 = .ok (.iload_n 2, 1) := by decide +kernel
theorem dX9_first_49 : decode cX9_first 49 = .ok (.if_icmp .ge 8, 3) := by decide +kernel
theorem dX9_first_52 : decode cX9_first 52 = .ok (.iload_n 3, 1) := by decide +kernel
theorem dX9_first_53 : decode cX9_first 53 = .ok (.istore_n 1, 1) := by decide +kernel
theorem dX9_first_54 : decode cX9_first 54 = .ok (.iload 4, 2) := by decide +kernel
theorem dX9_first_56 : decode cX9_first 56 = .ok (.istore_n 2, 1) := by decide +kernel
theorem dX9_first_57 : decode cX9_first 57 = .ok (.iinc 3 1, 3) := by decide +kernel
theorem dX9_first_60 : decode cX9_first 60 = .ok (.goto (-49), 3) := by decide +kernel
theorem dX9_first_63 : decode cX9_first 63 = .ok (.iload_n 1, 1) := by decide +kernel
theorem dX9_first_64 : decode cX9_first 64 = .ok (.ireturn, 1) := by decide +kernel
set_option maxRecDepth 20000 in
theorem ggX9_spare_X9_lost : GoodIn wsX9_spare wsX9_lost := qw_e qk_X9_spare qk_X9_lost (by decide +kernel)
set_option maxRecDepth 20000 in
theorem gX9_spare_X9_lost : GoodIn wsX9_spare (wsV RX9 191 RX9 yX9_lost wsX9_lost) := goodIn_app (qw_e qk_X9_spare (QK_cons qw_422 (QK_cons qw_483 (QK_cons qw_484 (QK_cons qw_993 QK_nil)))) (by decide +kernel)) ggX9_spare_X9_lost
set_option maxRecDepth 20000 in
theorem ggX9_spare_X9_lostWithout : GoodIn wsX9_spare wsX9_lostWithout := qw_e qk_X9_spare qk_X9_lostWithout (by decide +kernel)
set_option maxRecDepth 20000 in
theorem gX9_spare_X9_lostWithout : GoodIn wsX9_spare (wsV RX9 195 RX9 yX9_lostWithout wsX9_lostWithout) := goodIn_app (qw_e qk_X9_spare (QK_cons qw_423 (QK_cons qw_424 (QK_cons qw_425 (QK_cons qw_993 QK_nil)))) (by decide +kernel)) ggX9_spare_X9_lostWithout
theorem dX9_spare_0 : decode cX9_spare 0 = .ok (.aload_n 0, 1) := by decide +kernel
theorem dX9_spare_1 : decode cX9_spare 1 = .ok (.invokevirtual 191, 3) := by decide +kernel
theorem dX9_spare_4 : decode cX9_spare 4 = .ok (.istore_n 1, 1) := by decide +kernel
theorem dX9_spare_5 : decode cX9_spare 5 = .ok (.iconst 0, 1) := by decide +kernel
theorem dX9_spare_6 : decode cX9_spare 6 = .ok (.istore_n 2, 1) := by decide +kernel
theorem dX9_spare_7 : decode cX9_spare 7 = .ok (.iconst 0, 1) := by decide +kernel
theorem dX9_spare_8 : decode cX9_spare 8 = .ok (.istore_n 3, 1) := by decide +kernel
theorem dX9_spare_9 : decode cX9_spare 9 = .ok (.iload_n 3, 1) := by decide +kernel
theorem dX9_spare_10 : decode cX9_spare 10 = .ok (.aload_n 0, 1) := by decide +kernel
theorem dX9_spare_11 : decode cX9_spare 11 = .ok (.getfield 32, 3) := by decide +kernel
theorem dX9_spare_14 : decode cX9_spare 14 = .ok (.getfield 126, 3) := by decide +kernel
theorem dX9_spare_17 : decode cX9_spare 17 = .ok (.if_icmp .ge 25, 3) := by decide +kernel
theorem dX9_spare_20 : decode cX9_spare 20 = .ok (.aload_n 0, 1) := by decide +kernel
theorem dX9_spare_21 : decode cX9_spare 21 = .ok (.iload_n 3, 1) := by decide +kernel
theorem dX9_spare_22 : decode cX9_spare 22 = .ok (.iconst (-1), 1) := by decide +kernel
theorem dX9_spare_23 : decode cX9_spare 23 = .ok (.invokevirtual 195, 3) := by decide +kernel
theorem dX9_spare_26 : decode cX9_spare 26 = .ok (.iload_n 1, 1) := by decide +kernel
theorem dX9_spare_27 : decode cX9_spare 27 = .ok (.if_icmp .gt 9, 3) := by decide +kernel
theorem dX9_spare_30 : decode cX9_spare 30 = .ok (.iload_n 2, 1) := by decide +kernel
theorem dX9_spare_31 : decode cX9_spare 31 = .ok (.iconst 1, 1) := by decide +kernel
theorem dX9_spare_32 : decode cX9_spare 32 = .ok (.iload_n 3, 1) := by decide +kernel
theorem dX9_spare_33 : decode cX9_spare 33 = .ok (.ishl, 1) := by decide +kernel
theorem dX9_spare_34 : decode cX9_spare 34 = .ok (.ior, 1) := by decide +kernel
theorem dX9_spare_35 : decode cX9_spare 35 = .ok (.istore_n 2, 1) := by decide +kernel
theorem dX9_spare_36 : decode cX9_spare 36 = .ok (.iinc 3 1, 3) := by decide +kernel
theorem dX9_spare_39 : decode cX9_spare 39 = .ok (.goto (-30), 3) := by decide +kernel
theorem dX9_spare_42 : decode cX9_spare 42 = .ok (.iload_n 2, 1) := by decide +kernel
theorem dX9_spare_43 : decode cX9_spare 43 = .ok (.ireturn, 1) := by decide +kernel
set_option maxRecDepth 20000 in
theorem ggX9_trim_X9_settle : GoodIn wsX9_trim wsX9_settle := qw_e qk_X9_trim qk_X9_settle (by decide +kernel)
set_option maxRecDepth 20000 in
theorem gX9_trim_X9_settle : GoodIn wsX9_trim (wsV RX9 148 RX9 yX9_settle wsX9_settle) := goodIn_app (qw_e qk_X9_trim (QK_cons qw_674 (QK_cons qw_675 (QK_cons qw_676 (QK_cons qw_993 QK_nil)))) (by decide +kernel)) ggX9_trim_X9_settle
set_option maxRecDepth 20000 in
theorem ggX9_trim_X9_fewestLeftOut : GoodIn wsX9_trim wsX9_fewestLeftOut := qw_e qk_X9_trim qk_X9_fewestLeftOut (by decide +kernel)
set_option maxRecDepth 20000 in
theorem gX9_trim_X9_fewestLeftOut : GoodIn wsX9_trim (wsV RX9 199 RX9 yX9_fewestLeftOut wsX9_fewestLeftOut) := goodIn_app (qw_e qk_X9_trim (QK_cons qw_403 (QK_cons qw_404 (QK_cons qw_405 (QK_cons qw_993 QK_nil)))) (by decide +kernel)) ggX9_trim_X9_fewestLeftOut
set_option maxRecDepth 20000 in
theorem ggX9_trim_J6_bitCount_0f7a4 : GoodIn wsX9_trim wsJ6_bitCount_0f7a4 := qw_e qk_X9_trim qk_J6_bitCount_0f7a4 (by decide +kernel)
set_option maxRecDepth 20000 in
theorem gX9_trim_J6_bitCount_0f7a4 : GoodIn wsX9_trim (va_wsS RX9 202 yJ6_bitCount_0f7a4 wsJ6_bitCount_0f7a4) := goodIn_app (qw_e qk_X9_trim (QK_cons qw_407 (QK_cons qw_408 (QK_cons qw_409 QK_nil))) (by decide +kernel)) ggX9_trim_J6_bitCount_0f7a4
set_option maxRecDepth 20000 in
theorem ggX9_trim_X9_placeOfBit : GoodIn wsX9_trim wsX9_placeOfBit := qw_e qk_X9_trim qk_X9_placeOfBit (by decide +kernel)
set_option maxRecDepth 20000 in
theorem gX9_trim_X9_placeOfBit : GoodIn wsX9_trim (va_wsS RX9 207 yX9_placeOfBit wsX9_placeOfBit) := goodIn_app (qw_e qk_X9_trim (QK_cons qw_414 (QK_cons qw_367 (QK_cons qw_993 QK_nil))) (by decide +kernel)) ggX9_trim_X9_placeOfBit
theorem dX9_trim_0 : decode cX9_trim 0 = .ok (.iload_n 1, 1) := by decide +kernel
theorem dX9_trim_1 : decode cX9_trim 1 = .ok (.iconst (-1), 1) := by decide +kernel
theorem dX9_trim_2 : decode cX9_trim 2 = .ok (.if_icmp .lt 8, 3) := by decide +kernel
theorem dX9_trim_5 : decode cX9_trim 5 = .ok (.iload_n 1, 1) := by decide +kernel
theorem dX9_trim_6 : decode cX9_trim 6 = .ok (.iconst 1, 1) := by decide +kernel
theorem dX9_trim_7 : decode cX9_trim 7 = .ok (.if_icmp .le 6, 3) := by decide +kernel
theorem dX9_trim_10 : decode cX9_trim 10 = .ok (.bipush (-2), 2) := by decide +kernel
theorem dX9_trim_12 : decode cX9_trim 12 = .ok (.ireturn, 1) := by decide +kernel
theorem dX9_trim_13 : decode cX9_trim 13 = .ok (.aload_n 0, 1) := by decide +kernel
theorem dX9_trim_14 : decode cX9_trim 14 = .ok (.invokevirtual 148, 3) := by decide +kernel
theorem dX9_trim_17 : decode cX9_trim 17 = .ok (.aload_n 0, 1) := by decide +kernel
theorem dX9_trim_18 : decode cX9_trim 18 = .ok (.getfield 97, 3) := by decide +kernel
theorem dX9_trim_21 : decode cX9_trim 21 = .ok (.iconst (-1), 1) := by decide +kernel
theorem dX9_trim_22 : decode cX9_trim 22 = .ok (.if_icmp .ne 11, 3) := by decide +kernel
theorem dX9_trim_25 : decode cX9_trim 25 = .ok (.aload_n 0, 1) := by decide +kernel
theorem dX9_trim_26 : decode cX9_trim 26 = .ok (.aload_n 0, 1) := by decide +kernel
theorem dX9_trim_27 : decode cX9_trim 27 = .ok (.invokevirtual 199, 3) := by decide +kernel
theorem dX9_trim_30 : decode cX9_trim 30 = .ok (.putfield 97, 3) := by decide +kernel
theorem dX9_trim_33 : decode cX9_trim 33 = .ok (.iload_n 1, 1) := by decide +kernel
theorem dX9_trim_34 : decode cX9_trim 34 = .ok (.iconst (-1), 1) := by decide +kernel
theorem dX9_trim_35 : decode cX9_trim 35 = .ok (.if_icmp .ne 22, 3) := by decide +kernel
theorem dX9_trim_38 : decode cX9_trim 38 = .ok (.aload_n 0, 1) := by decide +kernel
theorem dX9_trim_39 : decode cX9_trim 39 = .ok (.getfield 97, 3) := by decide +kernel
theorem dX9_trim_42 : decode cX9_trim 42 = .ok (.ifCond .ne 7, 3) := by decide +kernel
theorem dX9_trim_45 : decode cX9_trim 45 = .ok (.iconst (-1), 1) := by decide +kernel
theorem dX9_trim_46 : decode cX9_trim 46 = .ok (.goto 10, 3) := by decide +kernel
theorem dX9_trim_49 : decode cX9_trim 49 = .ok (.aload_n 0, 1) := by decide +kernel
theorem dX9_trim_50 : decode cX9_trim 50 = .ok (.getfield 97, 3) := by decide +kernel
theorem dX9_trim_53 : decode cX9_trim 53 = .ok (.invokestatic 202, 3) := by decide +kernel
theorem dX9_trim_56 : decode cX9_trim 56 = .ok (.ireturn, 1) := by decide +kernel
theorem dX9_trim_57 : decode cX9_trim 57 = .ok (.aload_n 0, 1) := by decide +kernel
theorem dX9_trim_58 : decode cX9_trim 58 = .ok (.getfield 97, 3) := by decide +kernel
theorem dX9_trim_61 : decode cX9_trim 61 = .ok (.i2l, 1) := by decide +kernel
theorem dX9_trim_62 : decode cX9_trim 62 = .ok (.iload_n 1, 1) := by decide +kernel
theorem dX9_trim_63 : decode cX9_trim 63 = .ok (.invokestatic 207, 3) := by decide +kernel
theorem dX9_trim_66 : decode cX9_trim 66 = .ok (.ireturn, 1) := by decide +kernel
set_option maxRecDepth 20000 in
theorem ggX9_begin_X9_isEither : GoodIn wsX9_begin wsX9_isEither := qw_e qk_X9_begin qk_X9_isEither (by decide +kernel)
set_option maxRecDepth 20000 in
theorem gX9_begin_X9_isEither : GoodIn wsX9_begin (va_wsS RX9 133 yX9_isEither wsX9_isEither) := goodIn_app (qw_e qk_X9_begin (QK_cons qw_692 (QK_cons qw_693 (QK_cons qw_993 QK_nil))) (by decide +kernel)) ggX9_begin_X9_isEither
set_option maxRecDepth 20000 in
theorem ggX9_begin_X9_settle : GoodIn wsX9_begin wsX9_settle := qw_e qk_X9_begin qk_X9_settle (by decide +kernel)
set_option maxRecDepth 20000 in
theorem gX9_begin_X9_settle : GoodIn wsX9_begin (wsV RX9 148 RX9 yX9_settle wsX9_settle) := goodIn_app (qw_e qk_X9_begin (QK_cons qw_674 (QK_cons qw_675 (QK_cons qw_676 (QK_cons qw_993 QK_nil)))) (by decide +kernel)) ggX9_begin_X9_settle
set_option maxRecDepth 20000 in
theorem ggX9_begin_X0_holds : GoodIn wsX9_begin wsX0_holds := qw_e qk_X9_begin qk_X0_holds (by decide +kernel)
set_option maxRecDepth 20000 in
theorem gX9_begin_X0_holds : GoodIn wsX9_begin (wsV RX9 210 RX0 yX0_holds wsX0_holds) := goodIn_app (qw_e qk_X9_begin (QK_cons qw_385 (QK_cons qw_624 (QK_cons qw_625 (QK_cons qw_980 QK_nil)))) (by decide +kernel)) ggX9_begin_X0_holds
set_option maxRecDepth 20000 in
theorem ggX9_begin_X2_walk : GoodIn wsX9_begin wsX2_walk := qw_e qk_X9_begin qk_X2_walk (by decide +kernel)
set_option maxRecDepth 20000 in
theorem gX9_begin_X2_walk : GoodIn wsX9_begin (wsV RX9 213 RX2 yX2_walk wsX2_walk) := goodIn_app (qw_e qk_X9_begin (QK_cons qw_616 (QK_cons qw_617 (QK_cons qw_618 (QK_cons qw_984 QK_nil)))) (by decide +kernel)) ggX9_begin_X2_walk
set_option maxRecDepth 20000 in
theorem ggX9_begin_X7_howManyTake : GoodIn wsX9_begin wsX7_howManyTake := qw_e qk_X9_begin qk_X7_howManyTake (by decide +kernel)
set_option maxRecDepth 20000 in
theorem gX9_begin_X7_howManyTake : GoodIn wsX9_begin (wsV RX9 186 RX7 yX7_howManyTake wsX7_howManyTake) := goodIn_app (qw_e qk_X9_begin (QK_cons qw_486 (QK_cons qw_439 (QK_cons qw_440 (QK_cons qw_970 QK_nil)))) (by decide +kernel)) ggX9_begin_X7_howManyTake
theorem dX9_begin_0 : decode cX9_begin 0 = .ok (.iload_n 1, 1) := by decide +kernel
theorem dX9_begin_1 : decode cX9_begin 1 = .ok (.invokestatic 133, 3) := by decide +kernel
theorem dX9_begin_4 : decode cX9_begin 4 = .ok (.ifCond .ne 6, 3) := by decide +kernel
theorem dX9_begin_7 : decode cX9_begin 7 = .ok (.bipush (-2), 2) := by decide +kernel
theorem dX9_begin_9 : decode cX9_begin 9 = .ok (.ireturn, 1) := by decide +kernel
theorem dX9_begin_10 : decode cX9_begin 10 = .ok (.aload_n 0, 1) := by decide +kernel
theorem dX9_begin_11 : decode cX9_begin 11 = .ok (.invokevirtual 148, 3) := by decide +kernel
theorem dX9_begin_14 : decode cX9_begin 14 = .ok (.iconst (-1), 1) := by decide +kernel
theorem dX9_begin_15 : decode cX9_begin 15 = .ok (.istore_n 2, 1) := by decide +kernel
theorem dX9_begin_16 : decode cX9_begin 16 = .ok (.iconst (-1), 1) := by decide +kernel
theorem dX9_begin_17 : decode cX9_begin 17 = .ok (.istore_n 3, 1) := by decide +kernel
theorem dX9_begin_18 : decode cX9_begin 18 = .ok (.iconst 0, 1) := by decide +kernel
theorem dX9_begin_19 : decode cX9_begin 19 = .ok (.istore 4, 2) := by decide +kernel
theorem dX9_begin_21 : decode cX9_begin 21 = .ok (.iload 4, 2) := by decide +kernel
theorem dX9_begin_23 : decode cX9_begin 23 = .ok (.aload_n 0, 1) := by decide +kernel
theorem dX9_begin_24 : decode cX9_begin 24 = .ok (.getfield 25, 3) := by decide +kernel
theorem dX9_begin_27 : decode cX9_begin 27 = .ok (.getfield 120, 3) := by decide +kernel
theorem dX9_begin_30 : decode cX9_begin 30 = .ok (.if_icmp .ge 72, 3) := by decide +kernel
theorem dX9_begin_33 : decode cX9_begin 33 = .ok (.aload_n 0, 1) := by decide +kernel
theorem dX9_begin_34 : decode cX9_begin 34 = .ok (.getfield 59, 3) := by decide +kernel
theorem dX9_begin_37 : decode cX9_begin 37 = .ok (.iload 4, 2) := by decide +kernel
theorem dX9_begin_39 : decode cX9_begin 39 = .ok (.invokevirtual 210, 3) := by decide +kernel
theorem dX9_begin_42 : decode cX9_begin 42 = .ok (.ifCond .eq 54, 3) := by decide +kernel
theorem dX9_begin_45 : decode cX9_begin 45 = .ok (.aload_n 0, 1) := by decide +kernel
theorem dX9_begin_46 : decode cX9_begin 46 = .ok (.getfield 76, 3) := by decide +kernel
theorem dX9_begin_49 : decode cX9_begin 49 = .ok (.aload_n 0, 1) := by decide +kernel
theorem dX9_begin_50 : decode cX9_begin 50 = .ok (.getfield 59, 3) := by decide +kernel
theorem dX9_begin_53 : decode cX9_begin 53 = .ok (.iload 4, 2) := by decide +kernel
theorem dX9_begin_55 : decode cX9_begin 55 = .ok (.aload_n 0, 1) := by decide +kernel
theorem dX9_begin_56 : decode cX9_begin 56 = .ok (.getfield 32, 3) := by decide +kernel
theorem dX9_begin_59 : decode cX9_begin 59 = .ok (.invokevirtual 213, 3) := by decide +kernel
theorem dX9_begin_62 : decode cX9_begin 62 = .ok (.aload_n 0, 1) := by decide +kernel
theorem dX9_begin_63 : decode cX9_begin 63 = .ok (.getfield 39, 3) := by decide +kernel
theorem dX9_begin_66 : decode cX9_begin 66 = .ok (.aload_n 0, 1) := by decide +kernel
theorem dX9_begin_67 : decode cX9_begin 67 = .ok (.getfield 25, 3) := by decide +kernel
theorem dX9_begin_70 : decode cX9_begin 70 = .ok (.aload_n 0, 1) := by decide +kernel
theorem dX9_begin_71 : decode cX9_begin 71 = .ok (.getfield 76, 3) := by decide +kernel
theorem dX9_begin_74 : decode cX9_begin 74 = .ok (.invokevirtual 186, 3) := by decide +kernel
theorem dX9_begin_77 : decode cX9_begin 77 = .ok (.istore 5, 2) := by decide +kernel
theorem dX9_begin_79 : decode cX9_begin 79 = .ok (.iload_n 2, 1) := by decide +kernel
theorem dX9_begin_80 : decode cX9_begin 80 = .ok (.iconst (-1), 1) := by decide +kernel
theorem dX9_begin_81 : decode cX9_begin 81 = .ok (.if_icmp .eq 9, 3) := by decide +kernel
theorem dX9_begin_84 : decode cX9_begin 84 = .ok (.iload 5, 2) := by decide +kernel
theorem dX9_begin_86 : decode cX9_begin 86 = .ok (.iload_n 3, 1) := by decide +kernel
theorem dX9_begin_87 : decode cX9_begin 87 = .ok (.if_icmp .ge 9, 3) := by decide +kernel
theorem dX9_begin_90 : decode cX9_begin 90 = .ok (.iload 4, 2) := by decide +kernel
theorem dX9_begin_92 : decode cX9_begin 92 = .ok (.istore_n 2, 1) := by decide +kernel
theorem dX9_begin_93 : decode cX9_begin 93 = .ok (.iload 5, 2) := by decide +kernel
theorem dX9_begin_95 : decode cX9_begin 95 = .ok (.istore_n 3, 1) := by decide +kernel
theorem dX9_begin_96 : decode cX9_begin 96 = .ok (.iinc 4 1, 3) := by decide +kernel
theorem dX9_begin_99 : decode cX9_begin 99 = .ok (.goto (-78), 3) := by decide +kernel
theorem dX9_begin_102 : decode cX9_begin 102 = .ok (.iload_n 1, 1) := by decide +kernel
theorem dX9_begin_103 : decode cX9_begin 103 = .ok (.ifCond .ne 7, 3) := by decide +kernel
theorem dX9_begin_106 : decode cX9_begin 106 = .ok (.iload_n 2, 1) := by decide +kernel
theorem dX9_begin_107 : decode cX9_begin 107 = .ok (.goto 4, 3) := by decide +kernel
theorem dX9_begin_110 : decode cX9_begin 110 = .ok (.iload_n 3, 1) := by decide +kernel
theorem dX9_begin_111 : decode cX9_begin 111 = .ok (.ireturn, 1) := by decide +kernel
set_option maxRecDepth 20000 in
theorem ggX9_recruit_X9_isEither : GoodIn wsX9_recruit wsX9_isEither := qw_e qk_X9_recruit qk_X9_isEither (by decide +kernel)
set_option maxRecDepth 20000 in
theorem gX9_recruit_X9_isEither : GoodIn wsX9_recruit (va_wsS RX9 133 yX9_isEither wsX9_isEither) := goodIn_app (qw_e qk_X9_recruit (QK_cons qw_692 (QK_cons qw_693 (QK_cons qw_993 QK_nil))) (by decide +kernel)) ggX9_recruit_X9_isEither
set_option maxRecDepth 20000 in
theorem ggX9_recruit_X9_presentSight : GoodIn wsX9_recruit wsX9_presentSight := qw_e qk_X9_recruit qk_X9_presentSight (by decide +kernel)
set_option maxRecDepth 20000 in
theorem gX9_recruit_X9_presentSight : GoodIn wsX9_recruit (wsV RX9 217 RX9 yX9_presentSight wsX9_presentSight) := goodIn_app (qw_e qk_X9_recruit (QK_cons qw_678 (QK_cons qw_631 (QK_cons qw_632 (QK_cons qw_993 QK_nil)))) (by decide +kernel)) ggX9_recruit_X9_presentSight
set_option maxRecDepth 20000 in
theorem ggX9_recruit_X0_lay : GoodIn wsX9_recruit wsX0_lay := qw_e qk_X9_recruit qk_X0_lay (by decide +kernel)
set_option maxRecDepth 20000 in
theorem gX9_recruit_X0_lay : GoodIn wsX9_recruit (wsV RX9 220 RX0 yX0_lay wsX0_lay) := goodIn_app (qw_e qk_X9_recruit (QK_cons qw_641 (QK_cons qw_642 (QK_cons qw_643 (QK_cons qw_980 QK_nil)))) (by decide +kernel)) ggX9_recruit_X0_lay
set_option maxRecDepth 20000 in
theorem ggX9_recruit_X2_walk : GoodIn wsX9_recruit wsX2_walk := qw_e qk_X9_recruit qk_X2_walk (by decide +kernel)
set_option maxRecDepth 20000 in
theorem gX9_recruit_X2_walk : GoodIn wsX9_recruit (wsV RX9 213 RX2 yX2_walk wsX2_walk) := goodIn_app (qw_e qk_X9_recruit (QK_cons qw_616 (QK_cons qw_617 (QK_cons qw_618 (QK_cons qw_984 QK_nil)))) (by decide +kernel)) ggX9_recruit_X2_walk
set_option maxRecDepth 20000 in
theorem ggX9_recruit_X7_howManyTake : GoodIn wsX9_recruit wsX7_howManyTake := qw_e qk_X9_recruit qk_X7_howManyTake (by decide +kernel)
set_option maxRecDepth 20000 in
theorem gX9_recruit_X7_howManyTake : GoodIn wsX9_recruit (wsV RX9 186 RX7 yX7_howManyTake wsX7_howManyTake) := goodIn_app (qw_e qk_X9_recruit (QK_cons qw_486 (QK_cons qw_439 (QK_cons qw_440 (QK_cons qw_970 QK_nil)))) (by decide +kernel)) ggX9_recruit_X7_howManyTake
theorem dX9_recruit_0 : decode cX9_recruit 0 = .ok (.iload_n 1, 1) := by decide +kernel
theorem dX9_recruit_1 : decode cX9_recruit 1 = .ok (.invokestatic 133, 3) := by decide +kernel
theorem dX9_recruit_4 : decode cX9_recruit 4 = .ok (.ifCond .ne 6, 3) := by decide +kernel
theorem dX9_recruit_7 : decode cX9_recruit 7 = .ok (.bipush (-2), 2) := by decide +kernel
theorem dX9_recruit_9 : decode cX9_recruit 9 = .ok (.ireturn, 1) := by decide +kernel
theorem dX9_recruit_10 : decode cX9_recruit 10 = .ok (.iconst (-1), 1) := by decide +kernel
theorem dX9_recruit_11 : decode cX9_recruit 11 = .ok (.istore_n 2, 1) := by decide +kernel
theorem dX9_recruit_12 : decode cX9_recruit 12 = .ok (.iconst (-1), 1) := by decide +kernel
theorem dX9_recruit_13 : decode cX9_recruit 13 = .ok (.istore_n 3, 1) := by decide +kernel
theorem dX9_recruit_14 : decode cX9_recruit 14 = .ok (.iconst 0, 1) := by decide +kernel
theorem dX9_recruit_15 : decode cX9_recruit 15 = .ok (.istore 4, 2) := by decide +kernel
theorem dX9_recruit_17 : decode cX9_recruit 17 = .ok (.iload 4, 2) := by decide +kernel
theorem dX9_recruit_19 : decode cX9_recruit 19 = .ok (.bipush 9, 2) := by decide +kernel
theorem dX9_recruit_21 : decode cX9_recruit 21 = .ok (.if_icmp .gt 81, 3) := by decide +kernel
theorem dX9_recruit_24 : decode cX9_recruit 24 = .ok (.aload_n 0, 1) := by decide +kernel
theorem dX9_recruit_25 : decode cX9_recruit 25 = .ok (.getfield 73, 3) := by decide +kernel
theorem dX9_recruit_28 : decode cX9_recruit 28 = .ok (.aload_n 0, 1) := by decide +kernel
theorem dX9_recruit_29 : decode cX9_recruit 29 = .ok (.getfield 25, 3) := by decide +kernel
theorem dX9_recruit_32 : decode cX9_recruit 32 = .ok (.iload 4, 2) := by decide +kernel
theorem dX9_recruit_34 : decode cX9_recruit 34 = .ok (.aload_n 0, 1) := by decide +kernel
theorem dX9_recruit_35 : decode cX9_recruit 35 = .ok (.invokevirtual 217, 3) := by decide +kernel
theorem dX9_recruit_38 : decode cX9_recruit 38 = .ok (.invokevirtual 220, 3) := by decide +kernel
theorem dX9_recruit_41 : decode cX9_recruit 41 = .ok (.aload_n 0, 1) := by decide +kernel
theorem dX9_recruit_42 : decode cX9_recruit 42 = .ok (.getfield 76, 3) := by decide +kernel
theorem dX9_recruit_45 : decode cX9_recruit 45 = .ok (.aload_n 0, 1) := by decide +kernel
theorem dX9_recruit_46 : decode cX9_recruit 46 = .ok (.getfield 73, 3) := by decide +kernel
theorem dX9_recruit_49 : decode cX9_recruit 49 = .ok (.aload_n 0, 1) := by decide +kernel
theorem dX9_recruit_50 : decode cX9_recruit 50 = .ok (.getfield 19, 3) := by decide +kernel
theorem dX9_recruit_53 : decode cX9_recruit 53 = .ok (.iconst 0, 1) := by decide +kernel
theorem dX9_recruit_54 : decode cX9_recruit 54 = .ok (.iaload, 1) := by decide +kernel
theorem dX9_recruit_55 : decode cX9_recruit 55 = .ok (.aload_n 0, 1) := by decide +kernel
theorem dX9_recruit_56 : decode cX9_recruit 56 = .ok (.getfield 32, 3) := by decide +kernel
theorem dX9_recruit_59 : decode cX9_recruit 59 = .ok (.invokevirtual 213, 3) := by decide +kernel
theorem dX9_recruit_62 : decode cX9_recruit 62 = .ok (.aload_n 0, 1) := by decide +kernel
theorem dX9_recruit_63 : decode cX9_recruit 63 = .ok (.getfield 39, 3) := by decide +kernel
theorem dX9_recruit_66 : decode cX9_recruit 66 = .ok (.aload_n 0, 1) := by decide +kernel
theorem dX9_recruit_67 : decode cX9_recruit 67 = .ok (.getfield 25, 3) := by decide +kernel
theorem dX9_recruit_70 : decode cX9_recruit 70 = .ok (.aload_n 0, 1) := by decide +kernel
theorem dX9_recruit_71 : decode cX9_recruit 71 = .ok (.getfield 76, 3) := by decide +kernel
theorem dX9_recruit_74 : decode cX9_recruit 74 = .ok (.invokevirtual 186, 3) := by decide +kernel
theorem dX9_recruit_77 : decode cX9_recruit 77 = .ok (.istore 5, 2) := by decide +kernel
theorem dX9_recruit_79 : decode cX9_recruit 79 = .ok (.iload_n 2, 1) := by decide +kernel
theorem dX9_recruit_80 : decode cX9_recruit 80 = .ok (.iconst (-1), 1) := by decide +kernel
theorem dX9_recruit_81 : decode cX9_recruit 81 = .ok (.if_icmp .eq 9, 3) := by decide +kernel
theorem dX9_recruit_84 : decode cX9_recruit 84 = .ok (.iload 5, 2) := by decide +kernel
theorem dX9_recruit_86 : decode cX9_recruit 86 = .ok (.iload_n 3, 1) := by decide +kernel
theorem dX9_recruit_87 : decode cX9_recruit 87 = .ok (.if_icmp .ge 9, 3) := by decide +kernel
theorem dX9_recruit_90 : decode cX9_recruit 90 = .ok (.iload 4, 2) := by decide +kernel
theorem dX9_recruit_92 : decode cX9_recruit 92 = .ok (.istore_n 2, 1) := by decide +kernel
theorem dX9_recruit_93 : decode cX9_recruit 93 = .ok (.iload 5, 2) := by decide +kernel
theorem dX9_recruit_95 : decode cX9_recruit 95 = .ok (.istore_n 3, 1) := by decide +kernel
theorem dX9_recruit_96 : decode cX9_recruit 96 = .ok (.iinc 4 1, 3) := by decide +kernel
theorem dX9_recruit_99 : decode cX9_recruit 99 = .ok (.goto (-82), 3) := by decide +kernel
theorem dX9_recruit_102 : decode cX9_recruit 102 = .ok (.iload_n 1, 1) := by decide +kernel
theorem dX9_recruit_103 : decode cX9_recruit 103 = .ok (.ifCond .ne 7, 3) := by decide +kernel
theorem dX9_recruit_106 : decode cX9_recruit 106 = .ok (.iload_n 2, 1) := by decide +kernel
theorem dX9_recruit_107 : decode cX9_recruit 107 = .ok (.goto 4, 3) := by decide +kernel
theorem dX9_recruit_110 : decode cX9_recruit 110 = .ok (.iload_n 3, 1) := by decide +kernel
theorem dX9_recruit_111 : decode cX9_recruit 111 = .ok (.ireturn, 1) := by decide +kernel
set_option maxRecDepth 20000 in
theorem ggX9_missed_X1_mayBe : GoodIn wsX9_missed wsX1_mayBe := qw_e qk_X9_missed qk_X1_mayBe (by decide +kernel)
set_option maxRecDepth 20000 in
theorem gX9_missed_X1_mayBe : GoodIn wsX9_missed (va_wsS RX9 224 yX1_mayBe wsX1_mayBe) := goodIn_app (qw_e qk_X9_missed (QK_cons qw_363 (QK_cons qw_364 (QK_cons qw_974 QK_nil))) (by decide +kernel)) ggX9_missed_X1_mayBe
set_option maxRecDepth 20000 in
theorem ggX9_missed_X1_add : GoodIn wsX9_missed wsX1_add := qw_e qk_X9_missed qk_X1_add (by decide +kernel)
set_option maxRecDepth 20000 in
theorem gX9_missed_X1_add : GoodIn wsX9_missed (wsV RX9 228 RX1 yX1_add wsX1_add) := goodIn_app (qw_e qk_X9_missed (QK_cons qw_366 (QK_cons qw_319 (QK_cons qw_320 (QK_cons qw_974 QK_nil)))) (by decide +kernel)) ggX9_missed_X1_add
theorem dX9_missed_0 : decode cX9_missed 0 = .ok (.iload_n 1, 1) := by decide +kernel
theorem dX9_missed_1 : decode cX9_missed 1 = .ok (.iload_n 2, 1) := by decide +kernel
theorem dX9_missed_2 : decode cX9_missed 2 = .ok (.invokestatic 224, 3) := by decide +kernel
theorem dX9_missed_5 : decode cX9_missed 5 = .ok (.ifCond .ne 6, 3) := by decide +kernel
theorem dX9_missed_8 : decode cX9_missed 8 = .ok (.bipush (-2), 2) := by decide +kernel
theorem dX9_missed_10 : decode cX9_missed 10 = .ok (.ireturn, 1) := by decide +kernel
theorem dX9_missed_11 : decode cX9_missed 11 = .ok (.aload_n 0, 1) := by decide +kernel
theorem dX9_missed_12 : decode cX9_missed 12 = .ok (.getfield 46, 3) := by decide +kernel
theorem dX9_missed_15 : decode cX9_missed 15 = .ok (.iload_n 1, 1) := by decide +kernel
theorem dX9_missed_16 : decode cX9_missed 16 = .ok (.iload_n 2, 1) := by decide +kernel
theorem dX9_missed_17 : decode cX9_missed 17 = .ok (.invokevirtual 228, 3) := by decide +kernel
theorem dX9_missed_20 : decode cX9_missed 20 = .ok (.ifCond .eq 13, 3) := by decide +kernel
theorem dX9_missed_23 : decode cX9_missed 23 = .ok (.aload_n 0, 1) := by decide +kernel
theorem dX9_missed_24 : decode cX9_missed 24 = .ok (.getfield 46, 3) := by decide +kernel
theorem dX9_missed_27 : decode cX9_missed 27 = .ok (.getfield 231, 3) := by decide +kernel
theorem dX9_missed_30 : decode cX9_missed 30 = .ok (.goto 5, 3) := by decide +kernel
theorem dX9_missed_33 : decode cX9_missed 33 = .ok (.bipush (-4), 2) := by decide +kernel
theorem dX9_missed_35 : decode cX9_missed 35 = .ok (.ireturn, 1) := by decide +kernel
theorem dX9_forget_0 : decode cX9_forget 0 = .ok (.aload_n 0, 1) := by decide +kernel
theorem dX9_forget_1 : decode cX9_forget 1 = .ok (.getfield 46, 3) := by decide +kernel
theorem dX9_forget_4 : decode cX9_forget 4 = .ok (.getfield 231, 3) := by decide +kernel
theorem dX9_forget_7 : decode cX9_forget 7 = .ok (.istore_n 1, 1) := by decide +kernel
theorem dX9_forget_8 : decode cX9_forget 8 = .ok (.aload_n 0, 1) := by decide +kernel
theorem dX9_forget_9 : decode cX9_forget 9 = .ok (.getfield 46, 3) := by decide +kernel
theorem dX9_forget_12 : decode cX9_forget 12 = .ok (.iconst 0, 1) := by decide +kernel
theorem dX9_forget_13 : decode cX9_forget 13 = .ok (.putfield 231, 3) := by decide +kernel
theorem dX9_forget_16 : decode cX9_forget 16 = .ok (.iload_n 1, 1) := by decide +kernel
theorem dX9_forget_17 : decode cX9_forget 17 = .ok (.ireturn, 1) := by decide +kernel
set_option maxRecDepth 20000 in
theorem ggX9_read_X9_isSheet : GoodIn wsX9_read wsX9_isSheet := qw_e qk_X9_read qk_X9_isSheet (by decide +kernel)
set_option maxRecDepth 20000 in
theorem gX9_read_X9_isSheet : GoodIn wsX9_read (wsV RX9 232 RX9 yX9_isSheet wsX9_isSheet) := goodIn_app (qw_e qk_X9_read (QK_cons qw_340 (QK_cons qw_341 (QK_cons qw_342 (QK_cons qw_993 QK_nil)))) (by decide +kernel)) ggX9_read_X9_isSheet
set_option maxRecDepth 20000 in
theorem ggX9_read_X9_found : GoodIn wsX9_read wsX9_found := qw_e qk_X9_read qk_X9_found (by decide +kernel)
set_option maxRecDepth 20000 in
theorem gX9_read_X9_found : GoodIn wsX9_read (wsV RX9 237 RX9 yX9_found wsX9_found) := goodIn_app (qw_e qk_X9_read (QK_cons qw_296 (QK_cons qw_297 (QK_cons qw_298 (QK_cons qw_993 QK_nil)))) (by decide +kernel)) ggX9_read_X9_found
set_option maxRecDepth 20000 in
theorem ggX9_read_X1_addFrom : GoodIn wsX9_read wsX1_addFrom := qw_e qk_X9_read qk_X1_addFrom (by decide +kernel)
set_option maxRecDepth 20000 in
theorem gX9_read_X1_addFrom : GoodIn wsX9_read (wsV RX9 240 RX1 yX1_addFrom wsX1_addFrom) := goodIn_app (qw_e qk_X9_read (QK_cons qw_300 (QK_cons qw_301 (QK_cons qw_302 (QK_cons qw_974 QK_nil)))) (by decide +kernel)) ggX9_read_X1_addFrom
theorem dX9_read_0 : decode cX9_read 0 = .ok (.aload_n 0, 1) := by decide +kernel
theorem dX9_read_1 : decode cX9_read 1 = .ok (.iload_n 1, 1) := by decide +kernel
theorem dX9_read_2 : decode cX9_read 2 = .ok (.invokevirtual 232, 3) := by decide +kernel
theorem dX9_read_5 : decode cX9_read 5 = .ok (.ifCond .ne 6, 3) := by decide +kernel
theorem dX9_read_8 : decode cX9_read 8 = .ok (.bipush (-2), 2) := by decide +kernel
theorem dX9_read_10 : decode cX9_read 10 = .ok (.ireturn, 1) := by decide +kernel
theorem dX9_read_11 : decode cX9_read 11 = .ok (.aload_n 0, 1) := by decide +kernel
theorem dX9_read_12 : decode cX9_read 12 = .ok (.getfield 52, 3) := by decide +kernel
theorem dX9_read_15 : decode cX9_read 15 = .ok (.iload_n 1, 1) := by decide +kernel
theorem dX9_read_16 : decode cX9_read 16 = .ok (.aaload, 1) := by decide +kernel
theorem dX9_read_17 : decode cX9_read 17 = .ok (.getfield 235, 3) := by decide +kernel
theorem dX9_read_20 : decode cX9_read 20 = .ok (.ifCond .eq 9, 3) := by decide +kernel
theorem dX9_read_23 : decode cX9_read 23 = .ok (.aload_n 0, 1) := by decide +kernel
theorem dX9_read_24 : decode cX9_read 24 = .ok (.iconst 1, 1) := by decide +kernel
theorem dX9_read_25 : decode cX9_read 25 = .ok (.invokevirtual 237, 3) := by decide +kernel
theorem dX9_read_28 : decode cX9_read 28 = .ok (.ireturn, 1) := by decide +kernel
theorem dX9_read_29 : decode cX9_read 29 = .ok (.aload_n 0, 1) := by decide +kernel
theorem dX9_read_30 : decode cX9_read 30 = .ok (.getfield 46, 3) := by decide +kernel
theorem dX9_read_33 : decode cX9_read 33 = .ok (.aload_n 0, 1) := by decide +kernel
theorem dX9_read_34 : decode cX9_read 34 = .ok (.getfield 52, 3) := by decide +kernel
theorem dX9_read_37 : decode cX9_read 37 = .ok (.iload_n 1, 1) := by decide +kernel
theorem dX9_read_38 : decode cX9_read 38 = .ok (.aaload, 1) := by decide +kernel
theorem dX9_read_39 : decode cX9_read 39 = .ok (.invokevirtual 240, 3) := by decide +kernel
theorem dX9_read_42 : decode cX9_read 42 = .ok (.ireturn, 1) := by decide +kernel
set_option maxRecDepth 20000 in
theorem ggX9_omitted_X9_settle : GoodIn wsX9_omitted wsX9_settle := qw_e qk_X9_omitted qk_X9_settle (by decide +kernel)
set_option maxRecDepth 20000 in
theorem gX9_omitted_X9_settle : GoodIn wsX9_omitted (wsV RX9 148 RX9 yX9_settle wsX9_settle) := goodIn_app (qw_e qk_X9_omitted (QK_cons qw_674 (QK_cons qw_675 (QK_cons qw_676 (QK_cons qw_993 QK_nil)))) (by decide +kernel)) ggX9_omitted_X9_settle
set_option maxRecDepth 20000 in
theorem ggX9_omitted_X9_takenFromWithout : GoodIn wsX9_omitted wsX9_takenFromWithout := qw_e qk_X9_omitted qk_X9_takenFromWithout (by decide +kernel)
set_option maxRecDepth 20000 in
theorem gX9_omitted_X9_takenFromWithout : GoodIn wsX9_omitted (wsV RX9 244 RX9 yX9_takenFromWithout wsX9_takenFromWithout) := goodIn_app (qw_e qk_X9_omitted (QK_cons qw_277 (QK_cons qw_278 (QK_cons qw_279 (QK_cons qw_993 QK_nil)))) (by decide +kernel)) ggX9_omitted_X9_takenFromWithout
set_option maxRecDepth 20000 in
theorem ggX9_omitted_X1_agreesWith : GoodIn wsX9_omitted wsX1_agreesWith := qw_e qk_X9_omitted qk_X1_agreesWith (by decide +kernel)
set_option maxRecDepth 20000 in
theorem gX9_omitted_X1_agreesWith : GoodIn wsX9_omitted (wsV RX9 248 RX1 yX1_agreesWith wsX1_agreesWith) := goodIn_app (qw_e qk_X9_omitted (QK_cons qw_281 (QK_cons qw_282 (QK_cons qw_283 (QK_cons qw_974 QK_nil)))) (by decide +kernel)) ggX9_omitted_X1_agreesWith
theorem dX9_omitted_0 : decode cX9_omitted 0 = .ok (.aload_n 0, 1) := by decide +kernel
theorem dX9_omitted_1 : decode cX9_omitted 1 = .ok (.invokevirtual 148, 3) := by decide +kernel
theorem dX9_omitted_4 : decode cX9_omitted 4 = .ok (.iconst 0, 1) := by decide +kernel
theorem dX9_omitted_5 : decode cX9_omitted 5 = .ok (.istore_n 1, 1) := by decide +kernel
theorem dX9_omitted_6 : decode cX9_omitted 6 = .ok (.iconst 0, 1) := by decide +kernel
theorem dX9_omitted_7 : decode cX9_omitted 7 = .ok (.istore_n 2, 1) := by decide +kernel
theorem dX9_omitted_8 : decode cX9_omitted 8 = .ok (.iload_n 2, 1) := by decide +kernel
theorem dX9_omitted_9 : decode cX9_omitted 9 = .ok (.aload_n 0, 1) := by decide +kernel
theorem dX9_omitted_10 : decode cX9_omitted 10 = .ok (.getfield 32, 3) := by decide +kernel
theorem dX9_omitted_13 : decode cX9_omitted 13 = .ok (.getfield 126, 3) := by decide +kernel
theorem dX9_omitted_16 : decode cX9_omitted 16 = .ok (.if_icmp .ge 30, 3) := by decide +kernel
theorem dX9_omitted_19 : decode cX9_omitted 19 = .ok (.aload_n 0, 1) := by decide +kernel
theorem dX9_omitted_20 : decode cX9_omitted 20 = .ok (.getfield 46, 3) := by decide +kernel
theorem dX9_omitted_23 : decode cX9_omitted 23 = .ok (.aload_n 0, 1) := by decide +kernel
theorem dX9_omitted_24 : decode cX9_omitted 24 = .ok (.iload_n 2, 1) := by decide +kernel
theorem dX9_omitted_25 : decode cX9_omitted 25 = .ok (.invokevirtual 244, 3) := by decide +kernel
theorem dX9_omitted_28 : decode cX9_omitted 28 = .ok (.invokevirtual 248, 3) := by decide +kernel
theorem dX9_omitted_31 : decode cX9_omitted 31 = .ok (.ifCond .eq 9, 3) := by decide +kernel
theorem dX9_omitted_34 : decode cX9_omitted 34 = .ok (.iload_n 1, 1) := by decide +kernel
theorem dX9_omitted_35 : decode cX9_omitted 35 = .ok (.iconst 1, 1) := by decide +kernel
theorem dX9_omitted_36 : decode cX9_omitted 36 = .ok (.iload_n 2, 1) := by decide +kernel
theorem dX9_omitted_37 : decode cX9_omitted 37 = .ok (.ishl, 1) := by decide +kernel
theorem dX9_omitted_38 : decode cX9_omitted 38 = .ok (.ior, 1) := by decide +kernel
theorem dX9_omitted_39 : decode cX9_omitted 39 = .ok (.istore_n 1, 1) := by decide +kernel
theorem dX9_omitted_40 : decode cX9_omitted 40 = .ok (.iinc 2 1, 3) := by decide +kernel
theorem dX9_omitted_43 : decode cX9_omitted 43 = .ok (.goto (-35), 3) := by decide +kernel
theorem dX9_omitted_46 : decode cX9_omitted 46 = .ok (.iload_n 1, 1) := by decide +kernel
theorem dX9_omitted_47 : decode cX9_omitted 47 = .ok (.ireturn, 1) := by decide +kernel
set_option maxRecDepth 20000 in
theorem ggX9_meant_X9_isThief : GoodIn wsX9_meant wsX9_isThief := qw_e qk_X9_meant qk_X9_isThief (by decide +kernel)
set_option maxRecDepth 20000 in
theorem gX9_meant_X9_isThief : GoodIn wsX9_meant (wsV RX9 130 RX9 yX9_isThief wsX9_isThief) := goodIn_app (qw_e qk_X9_meant (QK_cons qw_687 (QK_cons qw_688 (QK_cons qw_689 (QK_cons qw_993 QK_nil)))) (by decide +kernel)) ggX9_meant_X9_isThief
set_option maxRecDepth 20000 in
theorem ggX9_meant_X9_settle : GoodIn wsX9_meant wsX9_settle := qw_e qk_X9_meant qk_X9_settle (by decide +kernel)
set_option maxRecDepth 20000 in
theorem gX9_meant_X9_settle : GoodIn wsX9_meant (wsV RX9 148 RX9 yX9_settle wsX9_settle) := goodIn_app (qw_e qk_X9_meant (QK_cons qw_674 (QK_cons qw_675 (QK_cons qw_676 (QK_cons qw_993 QK_nil)))) (by decide +kernel)) ggX9_meant_X9_settle
set_option maxRecDepth 20000 in
theorem ggX9_meant_X9_cellsMeant : GoodIn wsX9_meant wsX9_cellsMeant := qw_e qk_X9_meant qk_X9_cellsMeant (by decide +kernel)
set_option maxRecDepth 20000 in
theorem gX9_meant_X9_cellsMeant : GoodIn wsX9_meant (wsV RX9 252 RX9 yX9_cellsMeant wsX9_cellsMeant) := goodIn_app (qw_e qk_X9_meant (QK_cons qw_253 (QK_cons qw_254 (QK_cons qw_255 (QK_cons qw_993 QK_nil)))) (by decide +kernel)) ggX9_meant_X9_cellsMeant
set_option maxRecDepth 20000 in
theorem ggX9_meant_J13_bitCount_95d88 : GoodIn wsX9_meant wsJ13_bitCount_95d88 := qw_e qk_X9_meant qk_J13_bitCount_95d88 (by decide +kernel)
set_option maxRecDepth 20000 in
theorem gX9_meant_J13_bitCount_95d88 : GoodIn wsX9_meant (va_wsS RX9 255 yJ13_bitCount_95d88 wsJ13_bitCount_95d88) := goodIn_app (qw_e qk_X9_meant (QK_cons qw_259 (QK_cons qw_260 (QK_cons qw_261 QK_nil))) (by decide +kernel)) ggX9_meant_J13_bitCount_95d88
set_option maxRecDepth 20000 in
theorem ggX9_meant_X9_placeOfBit : GoodIn wsX9_meant wsX9_placeOfBit := qw_e qk_X9_meant qk_X9_placeOfBit (by decide +kernel)
set_option maxRecDepth 20000 in
theorem gX9_meant_X9_placeOfBit : GoodIn wsX9_meant (va_wsS RX9 207 yX9_placeOfBit wsX9_placeOfBit) := goodIn_app (qw_e qk_X9_meant (QK_cons qw_414 (QK_cons qw_367 (QK_cons qw_993 QK_nil))) (by decide +kernel)) ggX9_meant_X9_placeOfBit
theorem dX9_meant_0 : decode cX9_meant 0 = .ok (.aload_n 0, 1) := by decide +kernel
theorem dX9_meant_1 : decode cX9_meant 1 = .ok (.iload_n 1, 1) := by decide +kernel
theorem dX9_meant_2 : decode cX9_meant 2 = .ok (.invokevirtual 130, 3) := by decide +kernel
theorem dX9_meant_5 : decode cX9_meant 5 = .ok (.ifCond .eq 14, 3) := by decide +kernel
theorem dX9_meant_8 : decode cX9_meant 8 = .ok (.iload_n 2, 1) := by decide +kernel
theorem dX9_meant_9 : decode cX9_meant 9 = .ok (.iconst (-1), 1) := by decide +kernel
theorem dX9_meant_10 : decode cX9_meant 10 = .ok (.if_icmp .lt 9, 3) := by decide +kernel
theorem dX9_meant_13 : decode cX9_meant 13 = .ok (.iload_n 2, 1) := by decide +kernel
theorem dX9_meant_14 : decode cX9_meant 14 = .ok (.bipush 36, 2) := by decide +kernel
theorem dX9_meant_16 : decode cX9_meant 16 = .ok (.if_icmp .lt 6, 3) := by decide +kernel
theorem dX9_meant_19 : decode cX9_meant 19 = .ok (.bipush (-2), 2) := by decide +kernel
theorem dX9_meant_21 : decode cX9_meant 21 = .ok (.ireturn, 1) := by decide +kernel
theorem dX9_meant_22 : decode cX9_meant 22 = .ok (.aload_n 0, 1) := by decide +kernel
theorem dX9_meant_23 : decode cX9_meant 23 = .ok (.invokevirtual 148, 3) := by decide +kernel
theorem dX9_meant_26 : decode cX9_meant 26 = .ok (.aload_n 0, 1) := by decide +kernel
theorem dX9_meant_27 : decode cX9_meant 27 = .ok (.iload_n 1, 1) := by decide +kernel
theorem dX9_meant_28 : decode cX9_meant 28 = .ok (.invokevirtual 252, 3) := by decide +kernel
theorem dX9_meant_31 : decode cX9_meant 31 = .ok (.lstore_n 3, 1) := by decide +kernel
theorem dX9_meant_32 : decode cX9_meant 32 = .ok (.iload_n 2, 1) := by decide +kernel
theorem dX9_meant_33 : decode cX9_meant 33 = .ok (.iconst (-1), 1) := by decide +kernel
theorem dX9_meant_34 : decode cX9_meant 34 = .ok (.if_icmp .ne 10, 3) := by decide +kernel
theorem dX9_meant_37 : decode cX9_meant 37 = .ok (.lload_n 3, 1) := by decide +kernel
theorem dX9_meant_38 : decode cX9_meant 38 = .ok (.invokestatic 255, 3) := by decide +kernel
theorem dX9_meant_41 : decode cX9_meant 41 = .ok (.goto 8, 3) := by decide +kernel
theorem dX9_meant_44 : decode cX9_meant 44 = .ok (.lload_n 3, 1) := by decide +kernel
theorem dX9_meant_45 : decode cX9_meant 45 = .ok (.iload_n 2, 1) := by decide +kernel
theorem dX9_meant_46 : decode cX9_meant 46 = .ok (.invokestatic 207, 3) := by decide +kernel
theorem dX9_meant_49 : decode cX9_meant 49 = .ok (.ireturn, 1) := by decide +kernel
set_option maxRecDepth 20000 in
theorem ggX9_ask_X9_settle : GoodIn wsX9_ask wsX9_settle := qw_e qk_X9_ask qk_X9_settle (by decide +kernel)
set_option maxRecDepth 20000 in
theorem gX9_ask_X9_settle : GoodIn wsX9_ask (wsV RX9 148 RX9 yX9_settle wsX9_settle) := goodIn_app (qw_e qk_X9_ask (QK_cons qw_674 (QK_cons qw_675 (QK_cons qw_676 (QK_cons qw_993 QK_nil)))) (by decide +kernel)) ggX9_ask_X9_settle
set_option maxRecDepth 20000 in
theorem ggX9_ask_J7_fill_53178 : GoodIn wsX9_ask wsJ7_fill_53178 := qw_e qk_X9_ask qk_J7_fill_53178 (by decide +kernel)
set_option maxRecDepth 20000 in
theorem gX9_ask_J7_fill_53178 : GoodIn wsX9_ask (va_wsS RX9 260 yJ7_fill_53178 wsJ7_fill_53178) := goodIn_app (qw_e qk_X9_ask (QK_cons qw_230 (QK_cons qw_231 (QK_cons qw_232 QK_nil))) (by decide +kernel)) ggX9_ask_J7_fill_53178
set_option maxRecDepth 20000 in
theorem ggX9_ask_X9_takenFromWithout : GoodIn wsX9_ask wsX9_takenFromWithout := qw_e qk_X9_ask qk_X9_takenFromWithout (by decide +kernel)
set_option maxRecDepth 20000 in
theorem gX9_ask_X9_takenFromWithout : GoodIn wsX9_ask (wsV RX9 244 RX9 yX9_takenFromWithout wsX9_takenFromWithout) := goodIn_app (qw_e qk_X9_ask (QK_cons qw_277 (QK_cons qw_278 (QK_cons qw_279 (QK_cons qw_993 QK_nil)))) (by decide +kernel)) ggX9_ask_X9_takenFromWithout
set_option maxRecDepth 20000 in
theorem ggX9_ask_X1_agreesWith : GoodIn wsX9_ask wsX1_agreesWith := qw_e qk_X9_ask qk_X1_agreesWith (by decide +kernel)
set_option maxRecDepth 20000 in
theorem gX9_ask_X1_agreesWith : GoodIn wsX9_ask (wsV RX9 248 RX1 yX1_agreesWith wsX1_agreesWith) := goodIn_app (qw_e qk_X9_ask (QK_cons qw_281 (QK_cons qw_282 (QK_cons qw_283 (QK_cons qw_974 QK_nil)))) (by decide +kernel)) ggX9_ask_X1_agreesWith
set_option maxRecDepth 20000 in
theorem ggX9_ask_X9_countTakings : GoodIn wsX9_ask wsX9_countTakings := qw_e qk_X9_ask qk_X9_countTakings (by decide +kernel)
set_option maxRecDepth 20000 in
theorem gX9_ask_X9_countTakings : GoodIn wsX9_ask (wsV RX9 266 RX9 yX9_countTakings wsX9_countTakings) := goodIn_app (qw_e qk_X9_ask (QK_cons qw_234 (QK_cons qw_235 (QK_cons qw_236 (QK_cons qw_993 QK_nil)))) (by decide +kernel)) ggX9_ask_X9_countTakings
set_option maxRecDepth 20000 in
theorem ggX9_ask_X9_mostTellingShop : GoodIn wsX9_ask wsX9_mostTellingShop := qw_e qk_X9_ask qk_X9_mostTellingShop (by decide +kernel)
set_option maxRecDepth 20000 in
theorem gX9_ask_X9_mostTellingShop : GoodIn wsX9_ask (wsV RX9 270 RX9 yX9_mostTellingShop wsX9_mostTellingShop) := goodIn_app (qw_e qk_X9_ask (QK_cons qw_238 (QK_cons qw_239 (QK_cons qw_240 (QK_cons qw_993 QK_nil)))) (by decide +kernel)) ggX9_ask_X9_mostTellingShop
theorem dX9_ask_0 : decode cX9_ask 0 = .ok (.aload_n 0, 1) := by decide +kernel
theorem dX9_ask_1 : decode cX9_ask 1 = .ok (.invokevirtual 148, 3) := by decide +kernel
theorem dX9_ask_4 : decode cX9_ask 4 = .ok (.aload_n 0, 1) := by decide +kernel
theorem dX9_ask_5 : decode cX9_ask 5 = .ok (.getfield 86, 3) := by decide +kernel
theorem dX9_ask_8 : decode cX9_ask 8 = .ok (.iconst 0, 1) := by decide +kernel
theorem dX9_ask_9 : decode cX9_ask 9 = .ok (.invokestatic 260, 3) := by decide +kernel
theorem dX9_ask_12 : decode cX9_ask 12 = .ok (.iconst 0, 1) := by decide +kernel
theorem dX9_ask_13 : decode cX9_ask 13 = .ok (.istore_n 1, 1) := by decide +kernel
theorem dX9_ask_14 : decode cX9_ask 14 = .ok (.iconst 0, 1) := by decide +kernel
theorem dX9_ask_15 : decode cX9_ask 15 = .ok (.istore_n 2, 1) := by decide +kernel
theorem dX9_ask_16 : decode cX9_ask 16 = .ok (.iload_n 2, 1) := by decide +kernel
theorem dX9_ask_17 : decode cX9_ask 17 = .ok (.aload_n 0, 1) := by decide +kernel
theorem dX9_ask_18 : decode cX9_ask 18 = .ok (.getfield 32, 3) := by decide +kernel
theorem dX9_ask_21 : decode cX9_ask 21 = .ok (.getfield 126, 3) := by decide +kernel
theorem dX9_ask_24 : decode cX9_ask 24 = .ok (.if_icmp .ge 34, 3) := by decide +kernel
theorem dX9_ask_27 : decode cX9_ask 27 = .ok (.aload_n 0, 1) := by decide +kernel
theorem dX9_ask_28 : decode cX9_ask 28 = .ok (.iload_n 2, 1) := by decide +kernel
theorem dX9_ask_29 : decode cX9_ask 29 = .ok (.invokevirtual 244, 3) := by decide +kernel
theorem dX9_ask_32 : decode cX9_ask 32 = .ok (.lstore_n 3, 1) := by decide +kernel
theorem dX9_ask_33 : decode cX9_ask 33 = .ok (.aload_n 0, 1) := by decide +kernel
theorem dX9_ask_34 : decode cX9_ask 34 = .ok (.getfield 46, 3) := by decide +kernel
theorem dX9_ask_37 : decode cX9_ask 37 = .ok (.lload_n 3, 1) := by decide +kernel
theorem dX9_ask_38 : decode cX9_ask 38 = .ok (.invokevirtual 248, 3) := by decide +kernel
theorem dX9_ask_41 : decode cX9_ask 41 = .ok (.ifCond .eq 11, 3) := by decide +kernel
theorem dX9_ask_44 : decode cX9_ask 44 = .ok (.iinc 1 1, 3) := by decide +kernel
theorem dX9_ask_47 : decode cX9_ask 47 = .ok (.aload_n 0, 1) := by decide +kernel
theorem dX9_ask_48 : decode cX9_ask 48 = .ok (.lload_n 3, 1) := by decide +kernel
theorem dX9_ask_49 : decode cX9_ask 49 = .ok (.invokevirtual 266, 3) := by decide +kernel
theorem dX9_ask_52 : decode cX9_ask 52 = .ok (.iinc 2 1, 3) := by decide +kernel
theorem dX9_ask_55 : decode cX9_ask 55 = .ok (.goto (-39), 3) := by decide +kernel
theorem dX9_ask_58 : decode cX9_ask 58 = .ok (.aload_n 0, 1) := by decide +kernel
theorem dX9_ask_59 : decode cX9_ask 59 = .ok (.iload_n 1, 1) := by decide +kernel
theorem dX9_ask_60 : decode cX9_ask 60 = .ok (.invokevirtual 270, 3) := by decide +kernel
theorem dX9_ask_63 : decode cX9_ask 63 = .ok (.ireturn, 1) := by decide +kernel
set_option maxRecDepth 20000 in
theorem ggX9_fogged_X9_isThief : GoodIn wsX9_fogged wsX9_isThief := qw_e qk_X9_fogged qk_X9_isThief (by decide +kernel)
set_option maxRecDepth 20000 in
theorem gX9_fogged_X9_isThief : GoodIn wsX9_fogged (wsV RX9 130 RX9 yX9_isThief wsX9_isThief) := goodIn_app (qw_e qk_X9_fogged (QK_cons qw_687 (QK_cons qw_688 (QK_cons qw_689 (QK_cons qw_993 QK_nil)))) (by decide +kernel)) ggX9_fogged_X9_isThief
set_option maxRecDepth 20000 in
theorem ggX9_fogged_X9_isEither : GoodIn wsX9_fogged wsX9_isEither := qw_e qk_X9_fogged qk_X9_isEither (by decide +kernel)
set_option maxRecDepth 20000 in
theorem gX9_fogged_X9_isEither : GoodIn wsX9_fogged (va_wsS RX9 133 yX9_isEither wsX9_isEither) := goodIn_app (qw_e qk_X9_fogged (QK_cons qw_692 (QK_cons qw_693 (QK_cons qw_993 QK_nil))) (by decide +kernel)) ggX9_fogged_X9_isEither
set_option maxRecDepth 20000 in
theorem ggX9_fogged_X9_settle : GoodIn wsX9_fogged wsX9_settle := qw_e qk_X9_fogged qk_X9_settle (by decide +kernel)
set_option maxRecDepth 20000 in
theorem gX9_fogged_X9_settle : GoodIn wsX9_fogged (wsV RX9 148 RX9 yX9_settle wsX9_settle) := goodIn_app (qw_e qk_X9_fogged (QK_cons qw_674 (QK_cons qw_675 (QK_cons qw_676 (QK_cons qw_993 QK_nil)))) (by decide +kernel)) ggX9_fogged_X9_settle
set_option maxRecDepth 20000 in
theorem ggX9_fogged_X9_waysToTake : GoodIn wsX9_fogged wsX9_waysToTake := qw_e qk_X9_fogged qk_X9_waysToTake (by decide +kernel)
set_option maxRecDepth 20000 in
theorem gX9_fogged_X9_waysToTake : GoodIn wsX9_fogged (wsV RX9 275 RX9 yX9_waysToTake wsX9_waysToTake) := goodIn_app (qw_e qk_X9_fogged (QK_cons qw_209 (QK_cons qw_210 (QK_cons qw_211 (QK_cons qw_993 QK_nil)))) (by decide +kernel)) ggX9_fogged_X9_waysToTake
theorem dX9_fogged_0 : decode cX9_fogged 0 = .ok (.iload_n 1, 1) := by decide +kernel
theorem dX9_fogged_1 : decode cX9_fogged 1 = .ok (.ifCond .lt 35, 3) := by decide +kernel
theorem dX9_fogged_4 : decode cX9_fogged 4 = .ok (.iload_n 1, 1) := by decide +kernel
theorem dX9_fogged_5 : decode cX9_fogged 5 = .ok (.bipush 16, 2) := by decide +kernel
theorem dX9_fogged_7 : decode cX9_fogged 7 = .ok (.if_icmp .gt 29, 3) := by decide +kernel
theorem dX9_fogged_10 : decode cX9_fogged 10 = .ok (.iload_n 2, 1) := by decide +kernel
theorem dX9_fogged_11 : decode cX9_fogged 11 = .ok (.ifCond .lt 25, 3) := by decide +kernel
theorem dX9_fogged_14 : decode cX9_fogged 14 = .ok (.iload_n 2, 1) := by decide +kernel
theorem dX9_fogged_15 : decode cX9_fogged 15 = .ok (.bipush 9, 2) := by decide +kernel
theorem dX9_fogged_17 : decode cX9_fogged 17 = .ok (.if_icmp .gt 19, 3) := by decide +kernel
theorem dX9_fogged_20 : decode cX9_fogged 20 = .ok (.aload_n 0, 1) := by decide +kernel
theorem dX9_fogged_21 : decode cX9_fogged 21 = .ok (.iload_n 3, 1) := by decide +kernel
theorem dX9_fogged_22 : decode cX9_fogged 22 = .ok (.invokevirtual 130, 3) := by decide +kernel
theorem dX9_fogged_25 : decode cX9_fogged 25 = .ok (.ifCond .eq 11, 3) := by decide +kernel
theorem dX9_fogged_28 : decode cX9_fogged 28 = .ok (.iload 4, 2) := by decide +kernel
theorem dX9_fogged_30 : decode cX9_fogged 30 = .ok (.invokestatic 133, 3) := by decide +kernel
theorem dX9_fogged_33 : decode cX9_fogged 33 = .ok (.ifCond .ne 7, 3) := by decide +kernel
theorem dX9_fogged_36 : decode cX9_fogged 36 = .ok (.ldc2_w 273, 3) := by decide +kernel
theorem dX9_fogged_39 : decode cX9_fogged 39 = .ok (.lreturn, 1) := by decide +kernel
theorem dX9_fogged_40 : decode cX9_fogged 40 = .ok (.aload_n 0, 1) := by decide +kernel
theorem dX9_fogged_41 : decode cX9_fogged 41 = .ok (.invokevirtual 148, 3) := by decide +kernel
theorem dX9_fogged_44 : decode cX9_fogged 44 = .ok (.aload_n 0, 1) := by decide +kernel
theorem dX9_fogged_45 : decode cX9_fogged 45 = .ok (.iload_n 1, 1) := by decide +kernel
theorem dX9_fogged_46 : decode cX9_fogged 46 = .ok (.iload_n 2, 1) := by decide +kernel
theorem dX9_fogged_47 : decode cX9_fogged 47 = .ok (.iload_n 3, 1) := by decide +kernel
theorem dX9_fogged_48 : decode cX9_fogged 48 = .ok (.invokevirtual 275, 3) := by decide +kernel
theorem dX9_fogged_51 : decode cX9_fogged 51 = .ok (.lstore 5, 2) := by decide +kernel
theorem dX9_fogged_53 : decode cX9_fogged 53 = .ok (.iconst 4, 1) := by decide +kernel
theorem dX9_fogged_54 : decode cX9_fogged 54 = .ok (.iload_n 2, 1) := by decide +kernel
theorem dX9_fogged_55 : decode cX9_fogged 55 = .ok (.iconst 1, 1) := by decide +kernel
theorem dX9_fogged_56 : decode cX9_fogged 56 = .ok (.iadd, 1) := by decide +kernel
theorem dX9_fogged_57 : decode cX9_fogged 57 = .ok (.imul, 1) := by decide +kernel
theorem dX9_fogged_58 : decode cX9_fogged 58 = .ok (.istore 7, 2) := by decide +kernel
theorem dX9_fogged_60 : decode cX9_fogged 60 = .ok (.lconst 1, 1) := by decide +kernel
theorem dX9_fogged_61 : decode cX9_fogged 61 = .ok (.iload 7, 2) := by decide +kernel
theorem dX9_fogged_63 : decode cX9_fogged 63 = .ok (.lshl, 1) := by decide +kernel
theorem dX9_fogged_64 : decode cX9_fogged 64 = .ok (.lstore 8, 2) := by decide +kernel
theorem dX9_fogged_66 : decode cX9_fogged 66 = .ok (.iconst 0, 1) := by decide +kernel
theorem dX9_fogged_67 : decode cX9_fogged 67 = .ok (.istore 10, 2) := by decide +kernel
theorem dX9_fogged_69 : decode cX9_fogged 69 = .ok (.iload 10, 2) := by decide +kernel
theorem dX9_fogged_71 : decode cX9_fogged 71 = .ok (.iload 7, 2) := by decide +kernel
theorem dX9_fogged_73 : decode cX9_fogged 73 = .ok (.if_icmp .ge 36, 3) := by decide +kernel
theorem dX9_fogged_76 : decode cX9_fogged 76 = .ok (.lload 5, 2) := by decide +kernel
theorem dX9_fogged_78 : decode cX9_fogged 78 = .ok (.ldc2_w 279, 3) := by decide +kernel
theorem dX9_fogged_81 : decode cX9_fogged 81 = .ok (.lrem, 1) := by decide +kernel
theorem dX9_fogged_82 : decode cX9_fogged 82 = .ok (.lconst 0, 1) := by decide +kernel
theorem dX9_fogged_83 : decode cX9_fogged 83 = .ok (.lcmp, 1) := by decide +kernel
theorem dX9_fogged_84 : decode cX9_fogged 84 = .ok (.ifCond .ne 25, 3) := by decide +kernel
theorem dX9_fogged_87 : decode cX9_fogged 87 = .ok (.lload 5, 2) := by decide +kernel
theorem dX9_fogged_89 : decode cX9_fogged 89 = .ok (.ldc2_w 279, 3) := by decide +kernel
theorem dX9_fogged_92 : decode cX9_fogged 92 = .ok (.ldiv, 1) := by decide +kernel
theorem dX9_fogged_93 : decode cX9_fogged 93 = .ok (.lstore 5, 2) := by decide +kernel
theorem dX9_fogged_95 : decode cX9_fogged 95 = .ok (.lload 8, 2) := by decide +kernel
theorem dX9_fogged_97 : decode cX9_fogged 97 = .ok (.ldc2_w 279, 3) := by decide +kernel
theorem dX9_fogged_100 : decode cX9_fogged 100 = .ok (.ldiv, 1) := by decide +kernel
theorem dX9_fogged_101 : decode cX9_fogged 101 = .ok (.lstore 8, 2) := by decide +kernel
