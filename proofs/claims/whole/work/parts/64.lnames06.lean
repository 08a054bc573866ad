theorem ggL_law_X10_digest : GoodIn wsL_law wsX10_digest := qw_e qk_L_law qk_X10_digest (by decide +kernel)
theorem gL_law_X10_digest : GoodIn wsL_law (wsV RL 160 RX10 yX10_digest wsX10_digest) := goodIn_app (qw_e qk_L_law (QK_cons qw_23 (QK_cons qw_24 (QK_cons qw_25 (QK_cons qw_996 QK_nil)))) (by decide +kernel)) ggL_law_X10_digest
