theorem inlX0 : ∀ w ∈ wsX00, w ∈ wsL_law := fun _ h => List.mem_append_left _ (List.mem_append_left _ (List.mem_append_left _ (List.mem_append_left _ (List.mem_append_left _ (List.mem_append_right _ h)))))
theorem inlX1 : ∀ w ∈ wsX10, w ∈ wsL_law := fun _ h => List.mem_append_left _ (List.mem_append_left _ (List.mem_append_left _ (List.mem_append_left _ (List.mem_append_left _ (List.mem_append_left _ (List.mem_append_right _ h))))))
theorem inlX2 : ∀ w ∈ wsX20, w ∈ wsL_law := fun _ h => List.mem_append_left _ (List.mem_append_left _ (List.mem_append_left _ (List.mem_append_left _ (List.mem_append_right _ h))))
theorem inlX3 : ∀ w ∈ wsX30, w ∈ wsL_law := fun _ h => List.mem_append_left _ (List.mem_append_left _ (List.mem_append_left _ (List.mem_append_right _ h)))
theorem inlX4 : ∀ w ∈ wsX40, w ∈ wsL_law := fun _ h => List.mem_append_left _ (List.mem_append_left _ (List.mem_append_left _ (List.mem_append_left _ (List.mem_append_left _ (List.mem_append_left _ (List.mem_append_left _ (List.mem_append_left _ (List.mem_append_right _ h))))))))
theorem inlX5 : ∀ w ∈ wsX50, w ∈ wsL_law := fun _ h => List.mem_append_left _ (List.mem_append_right _ h)
theorem inlX6 : ∀ w ∈ wsX60, w ∈ wsL_law := fun _ h => List.mem_append_left _ (List.mem_append_left _ (List.mem_append_right _ h))
theorem inlX7 : ∀ w ∈ wsX70, w ∈ wsL_law := fun _ h => List.mem_append_left _ (List.mem_append_left _ (List.mem_append_left _ (List.mem_append_left _ (List.mem_append_left _ (List.mem_append_left _ (List.mem_append_left _ (List.mem_append_right _ h)))))))
theorem inlX8 : ∀ w ∈ wsX80, w ∈ wsL_law := fun _ h => List.mem_append_left _ (List.mem_append_left _ (List.mem_append_left _ (List.mem_append_left _ (List.mem_append_left _ (List.mem_append_left _ (List.mem_append_left _ (List.mem_append_left _ (List.mem_append_left _ (List.mem_append_right _ h)))))))))
theorem inlX9 : ∀ w ∈ wsX90, w ∈ wsL_law := fun _ h => List.mem_append_left _ (List.mem_append_left _ (List.mem_append_left _ (List.mem_append_left _ (List.mem_append_left _ (List.mem_append_left _ (List.mem_append_left _ (List.mem_append_left _ (List.mem_append_left _ (List.mem_append_left _ (List.mem_append_left _ (List.mem_append_right _ h)))))))))))
theorem inlX10 : ∀ w ∈ wsX100, w ∈ wsL_law := fun _ h => List.mem_append_left _ (List.mem_append_left _ (List.mem_append_left _ (List.mem_append_left _ (List.mem_append_left _ (List.mem_append_left _ (List.mem_append_left _ (List.mem_append_left _ (List.mem_append_left _ (List.mem_append_left _ (List.mem_append_right _ h))))))))))
set_option maxRecDepth 20000 in
theorem ggL_law_X9_init : GoodIn wsL_law wsX9_init := qw_e qk_L_law qk_X9_init (by decide +kernel)
set_option maxRecDepth 20000 in
theorem gL_law_X9_init : GoodIn wsL_law (wsX9_init) := ggL_law_X9_init
set_option maxRecDepth 20000 in
theorem ggL_law_X10_init : GoodIn wsL_law wsX10_init := qw_e qk_L_law qk_X10_init (by decide +kernel)
set_option maxRecDepth 20000 in
theorem gL_law_X10_init : GoodIn wsL_law (wsX10_init) := ggL_law_X10_init
set_option maxRecDepth 20000 in
theorem ggL_law_X9_type : GoodIn wsL_law wsX9_type := qw_e qk_L_law qk_X9_type (by decide +kernel)
set_option maxRecDepth 20000 in
theorem gL_law_X9_type : GoodIn wsL_law (wsV RL 13 RX9 yX9_type wsX9_type) := goodIn_app (qw_e qk_L_law (QK_cons qw_848 (QK_cons qw_849 (QK_cons qw_850 (QK_cons qw_993 QK_nil)))) (by decide +kernel)) ggL_law_X9_type
set_option maxRecDepth 20000 in
theorem ggL_law_X10_type : GoodIn wsL_law wsX10_type := qw_e qk_L_law qk_X10_type (by decide +kernel)
set_option maxRecDepth 20000 in
theorem gL_law_X10_type : GoodIn wsL_law (wsV RL 17 RX10 yX10_type wsX10_type) := goodIn_app (qw_e qk_L_law (QK_cons qw_820 (QK_cons qw_821 (QK_cons qw_822 (QK_cons qw_996 QK_nil)))) (by decide +kernel)) ggL_law_X10_type
set_option maxRecDepth 20000 in
theorem ggL_law_X9_wipe : GoodIn wsL_law wsX9_wipe := qw_e qk_L_law qk_X9_wipe (by decide +kernel)
set_option maxRecDepth 20000 in
theorem gL_law_X9_wipe : GoodIn wsL_law (wsV RL 18 RX9 yX9_wipe wsX9_wipe) := goodIn_app (qw_e qk_L_law (QK_cons qw_782 (QK_cons qw_783 (QK_cons qw_784 (QK_cons qw_993 QK_nil)))) (by decide +kernel)) ggL_law_X9_wipe
set_option maxRecDepth 20000 in
theorem ggL_law_X10_wipe : GoodIn wsL_law wsX10_wipe := qw_e qk_L_law qk_X10_wipe (by decide +kernel)
set_option maxRecDepth 20000 in
theorem gL_law_X10_wipe : GoodIn wsL_law (wsV RL 22 RX10 yX10_wipe wsX10_wipe) := goodIn_app (qw_e qk_L_law (QK_cons qw_786 (QK_cons qw_787 (QK_cons qw_788 (QK_cons qw_996 QK_nil)))) (by decide +kernel)) ggL_law_X10_wipe
set_option maxRecDepth 20000 in
theorem ggL_law_X9_undo : GoodIn wsL_law wsX9_undo := qw_e qk_L_law qk_X9_undo (by decide +kernel)
set_option maxRecDepth 20000 in
theorem gL_law_X9_undo : GoodIn wsL_law (wsV RL 23 RX9 yX9_undo wsX9_undo) := goodIn_app (qw_e qk_L_law (QK_cons qw_790 (QK_cons qw_791 (QK_cons qw_792 (QK_cons qw_993 QK_nil)))) (by decide +kernel)) ggL_law_X9_undo
set_option maxRecDepth 20000 in
theorem ggL_law_X10_undo : GoodIn wsL_law wsX10_undo := qw_e qk_L_law qk_X10_undo (by decide +kernel)
set_option maxRecDepth 20000 in
theorem gL_law_X10_undo : GoodIn wsL_law (wsV RL 26 RX10 yX10_undo wsX10_undo) := goodIn_app (qw_e qk_L_law (QK_cons qw_794 (QK_cons qw_795 (QK_cons qw_796 (QK_cons qw_996 QK_nil)))) (by decide +kernel)) ggL_law_X10_undo
set_option maxRecDepth 20000 in
theorem ggL_law_X9_fault : GoodIn wsL_law wsX9_fault := qw_e qk_L_law qk_X9_fault (by decide +kernel)
set_option maxRecDepth 20000 in
theorem gL_law_X9_fault : GoodIn wsL_law (wsV RL 27 RX9 yX9_fault wsX9_fault) := goodIn_app (qw_e qk_L_law (QK_cons qw_798 (QK_cons qw_751 (QK_cons qw_752 (QK_cons qw_993 QK_nil)))) (by decide +kernel)) ggL_law_X9_fault
set_option maxRecDepth 20000 in
theorem ggL_law_X10_fault : GoodIn wsL_law wsX10_fault := qw_e qk_L_law qk_X10_fault (by decide +kernel)
set_option maxRecDepth 20000 in
theorem gL_law_X10_fault : GoodIn wsL_law (wsV RL 30 RX10 yX10_fault wsX10_fault) := goodIn_app (qw_e qk_L_law (QK_cons qw_754 (QK_cons qw_755 (QK_cons qw_756 (QK_cons qw_996 QK_nil)))) (by decide +kernel)) ggL_law_X10_fault
set_option maxRecDepth 20000 in
theorem ggL_law_X9_cell : GoodIn wsL_law wsX9_cell := qw_e qk_L_law qk_X9_cell (by decide +kernel)
set_option maxRecDepth 20000 in
theorem gL_law_X9_cell : GoodIn wsL_law (wsV RL 31 RX9 yX9_cell wsX9_cell) := goodIn_app (qw_e qk_L_law (QK_cons qw_745 (QK_cons qw_746 (QK_cons qw_747 (QK_cons qw_993 QK_nil)))) (by decide +kernel)) ggL_law_X9_cell
set_option maxRecDepth 20000 in
theorem ggL_law_X10_cell : GoodIn wsL_law wsX10_cell := qw_e qk_L_law qk_X10_cell (by decide +kernel)
set_option maxRecDepth 20000 in
theorem gL_law_X10_cell : GoodIn wsL_law (wsV RL 34 RX10 yX10_cell wsX10_cell) := goodIn_app (qw_e qk_L_law (QK_cons qw_703 (QK_cons qw_704 (QK_cons qw_705 (QK_cons qw_996 QK_nil)))) (by decide +kernel)) ggL_law_X10_cell
set_option maxRecDepth 20000 in
theorem ggL_law_X9_beat : GoodIn wsL_law wsX9_beat := qw_e qk_L_law qk_X9_beat (by decide +kernel)
