set_option maxRecDepth 20000 in
theorem gL_law_X9_beat : GoodIn wsL_law (wsV RL 35 RX9 yX9_beat wsX9_beat) := goodIn_app (qw_e qk_L_law (QK_cons qw_715 (QK_cons qw_716 (QK_cons qw_717 (QK_cons qw_993 QK_nil)))) (by decide +kernel)) ggL_law_X9_beat
set_option maxRecDepth 20000 in
theorem ggL_law_X10_beat : GoodIn wsL_law wsX10_beat := qw_e qk_L_law qk_X10_beat (by decide +kernel)
set_option maxRecDepth 20000 in
theorem gL_law_X10_beat : GoodIn wsL_law (wsV RL 38 RX10 yX10_beat wsX10_beat) := goodIn_app (qw_e qk_L_law (QK_cons qw_721 (QK_cons qw_722 (QK_cons qw_723 (QK_cons qw_996 QK_nil)))) (by decide +kernel)) ggL_law_X10_beat
set_option maxRecDepth 20000 in
theorem ggL_law_X9_thief : GoodIn wsL_law wsX9_thief := qw_e qk_L_law qk_X9_thief (by decide +kernel)
set_option maxRecDepth 20000 in
theorem gL_law_X9_thief : GoodIn wsL_law (wsV RL 39 RX9 yX9_thief wsX9_thief) := goodIn_app (qw_e qk_L_law (QK_cons qw_681 (QK_cons qw_682 (QK_cons qw_683 (QK_cons qw_993 QK_nil)))) (by decide +kernel)) ggL_law_X9_thief
set_option maxRecDepth 20000 in
theorem ggL_law_X10_thief : GoodIn wsL_law wsX10_thief := qw_e qk_L_law qk_X10_thief (by decide +kernel)
set_option maxRecDepth 20000 in
theorem gL_law_X10_thief : GoodIn wsL_law (wsV RL 42 RX10 yX10_thief wsX10_thief) := goodIn_app (qw_e qk_L_law (QK_cons qw_695 (QK_cons qw_696 (QK_cons qw_697 (QK_cons qw_996 QK_nil)))) (by decide +kernel)) ggL_law_X10_thief
set_option maxRecDepth 20000 in
theorem ggL_law_X9_set : GoodIn wsL_law wsX9_set := qw_e qk_L_law qk_X9_set (by decide +kernel)
set_option maxRecDepth 20000 in
theorem gL_law_X9_set : GoodIn wsL_law (wsV RL 43 RX9 yX9_set wsX9_set) := goodIn_app (qw_e qk_L_law (QK_cons qw_655 (QK_cons qw_656 (QK_cons qw_657 (QK_cons qw_993 QK_nil)))) (by decide +kernel)) ggL_law_X9_set
set_option maxRecDepth 20000 in
theorem ggL_law_X10_set : GoodIn wsL_law wsX10_set := qw_e qk_L_law qk_X10_set (by decide +kernel)
set_option maxRecDepth 20000 in
theorem gL_law_X10_set : GoodIn wsL_law (wsV RL 46 RX10 yX10_set wsX10_set) := goodIn_app (qw_e qk_L_law (QK_cons qw_660 (QK_cons qw_661 (QK_cons qw_662 (QK_cons qw_996 QK_nil)))) (by decide +kernel)) ggL_law_X10_set
set_option maxRecDepth 20000 in
theorem ggL_law_X9_at : GoodIn wsL_law wsX9_at := qw_e qk_L_law qk_X9_at (by decide +kernel)
set_option maxRecDepth 20000 in
theorem gL_law_X9_at : GoodIn wsL_law (wsV RL 47 RX9 yX9_at wsX9_at) := goodIn_app (qw_e qk_L_law (QK_cons qw_666 (QK_cons qw_667 (QK_cons qw_668 (QK_cons qw_993 QK_nil)))) (by decide +kernel)) ggL_law_X9_at
set_option maxRecDepth 20000 in
theorem ggL_law_X10_at : GoodIn wsL_law wsX10_at := qw_e qk_L_law qk_X10_at (by decide +kernel)
set_option maxRecDepth 20000 in
theorem gL_law_X10_at : GoodIn wsL_law (wsV RL 50 RX10 yX10_at wsX10_at) := goodIn_app (qw_e qk_L_law (QK_cons qw_583 (QK_cons qw_584 (QK_cons qw_585 (QK_cons qw_996 QK_nil)))) (by decide +kernel)) ggL_law_X10_at
set_option maxRecDepth 20000 in
theorem ggL_law_X9_sees : GoodIn wsL_law wsX9_sees := qw_e qk_L_law qk_X9_sees (by decide +kernel)
set_option maxRecDepth 20000 in
theorem gL_law_X9_sees : GoodIn wsL_law (wsV RL 51 RX9 yX9_sees wsX9_sees) := goodIn_app (qw_e qk_L_law (QK_cons qw_577 (QK_cons qw_578 (QK_cons qw_579 (QK_cons qw_993 QK_nil)))) (by decide +kernel)) ggL_law_X9_sees
set_option maxRecDepth 20000 in
theorem ggL_law_X10_sees : GoodIn wsL_law wsX10_sees := qw_e qk_L_law qk_X10_sees (by decide +kernel)
set_option maxRecDepth 20000 in
theorem gL_law_X10_sees : GoodIn wsL_law (wsV RL 54 RX10 yX10_sees wsX10_sees) := goodIn_app (qw_e qk_L_law (QK_cons qw_538 (QK_cons qw_539 (QK_cons qw_540 (QK_cons qw_996 QK_nil)))) (by decide +kernel)) ggL_law_X10_sees
set_option maxRecDepth 20000 in
theorem ggL_law_X9_seen : GoodIn wsL_law wsX9_seen := qw_e qk_L_law qk_X9_seen (by decide +kernel)
set_option maxRecDepth 20000 in
theorem gL_law_X9_seen : GoodIn wsL_law (wsV RL 55 RX9 yX9_seen wsX9_seen) := goodIn_app (qw_e qk_L_law (QK_cons qw_546 (QK_cons qw_547 (QK_cons qw_548 (QK_cons qw_993 QK_nil)))) (by decide +kernel)) ggL_law_X9_seen
set_option maxRecDepth 20000 in
theorem ggL_law_X10_seen : GoodIn wsL_law wsX10_seen := qw_e qk_L_law qk_X10_seen (by decide +kernel)
set_option maxRecDepth 20000 in
theorem gL_law_X10_seen : GoodIn wsL_law (wsV RL 58 RX10 yX10_seen wsX10_seen) := goodIn_app (qw_e qk_L_law (QK_cons qw_512 (QK_cons qw_513 (QK_cons qw_514 (QK_cons qw_996 QK_nil)))) (by decide +kernel)) ggL_law_X10_seen
set_option maxRecDepth 20000 in
theorem ggL_law_X9_takes : GoodIn wsL_law wsX9_takes := qw_e qk_L_law qk_X9_takes (by decide +kernel)
set_option maxRecDepth 20000 in
theorem gL_law_X9_takes : GoodIn wsL_law (wsV RL 59 RX9 yX9_takes wsX9_takes) := goodIn_app (qw_e qk_L_law (QK_cons qw_527 (QK_cons qw_528 (QK_cons qw_529 (QK_cons qw_993 QK_nil)))) (by decide +kernel)) ggL_law_X9_takes
set_option maxRecDepth 20000 in
theorem ggL_law_X10_takes : GoodIn wsL_law wsX10_takes := qw_e qk_L_law qk_X10_takes (by decide +kernel)
set_option maxRecDepth 20000 in
theorem gL_law_X10_takes : GoodIn wsL_law (wsV RL 62 RX10 yX10_takes wsX10_takes) := goodIn_app (qw_e qk_L_law (QK_cons qw_495 (QK_cons qw_496 (QK_cons qw_497 (QK_cons qw_996 QK_nil)))) (by decide +kernel)) ggL_law_X10_takes
set_option maxRecDepth 20000 in
theorem ggL_law_X9_safe : GoodIn wsL_law wsX9_safe := qw_e qk_L_law qk_X9_safe (by decide +kernel)
set_option maxRecDepth 20000 in
theorem gL_law_X9_safe : GoodIn wsL_law (wsV RL 63 RX9 yX9_safe wsX9_safe) := goodIn_app (qw_e qk_L_law (QK_cons qw_507 (QK_cons qw_508 (QK_cons qw_509 (QK_cons qw_993 QK_nil)))) (by decide +kernel)) ggL_law_X9_safe
set_option maxRecDepth 20000 in
theorem ggL_law_X10_safe : GoodIn wsL_law wsX10_safe := qw_e qk_L_law qk_X10_safe (by decide +kernel)
