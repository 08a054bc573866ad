theorem ggL_law_X9_digest : GoodIn wsL_law wsX9_digest := qw_e qk_L_law qk_X9_digest (by decide +kernel)
theorem gL_law_X9_digest : GoodIn wsL_law (wsV RL 156 RX9 yX9_digest wsX9_digest) := goodIn_app (qw_e qk_L_law (QK_cons qw_32 (QK_cons qw_33 (QK_cons qw_34 (QK_cons qw_993 QK_nil)))) (by decide +kernel)) ggL_law_X9_digest
