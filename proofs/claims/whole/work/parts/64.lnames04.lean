set_option maxRecDepth 20000 in
theorem gL_law_X10_sheet : GoodIn wsL_law (wsV RL 129 RX10 yX10_sheet wsX10_sheet) := goodIn_app (qw_e qk_L_law (QK_cons qw_138 (QK_cons qw_139 (QK_cons qw_140 (QK_cons qw_996 QK_nil)))) (by decide +kernel)) ggL_law_X10_sheet
set_option maxRecDepth 20000 in
theorem ggL_law_X9_lose : GoodIn wsL_law wsX9_lose := qw_e qk_L_law qk_X9_lose (by decide +kernel)
set_option maxRecDepth 20000 in
theorem gL_law_X9_lose : GoodIn wsL_law (wsV RL 130 RX9 yX9_lose wsX9_lose) := goodIn_app (qw_e qk_L_law (QK_cons qw_142 (QK_cons qw_143 (QK_cons qw_144 (QK_cons qw_993 QK_nil)))) (by decide +kernel)) ggL_law_X9_lose
set_option maxRecDepth 20000 in
theorem ggL_law_X10_lose : GoodIn wsL_law wsX10_lose := qw_e qk_L_law qk_X10_lose (by decide +kernel)
set_option maxRecDepth 20000 in
theorem gL_law_X10_lose : GoodIn wsL_law (wsV RL 133 RX10 yX10_lose wsX10_lose) := goodIn_app (qw_e qk_L_law (QK_cons qw_147 (QK_cons qw_148 (QK_cons qw_149 (QK_cons qw_996 QK_nil)))) (by decide +kernel)) ggL_law_X10_lose
set_option maxRecDepth 20000 in
theorem ggL_law_X9_put : GoodIn wsL_law wsX9_put := qw_e qk_L_law qk_X9_put (by decide +kernel)
set_option maxRecDepth 20000 in
theorem gL_law_X9_put : GoodIn wsL_law (wsV RL 134 RX9 yX9_put wsX9_put) := goodIn_app (qw_e qk_L_law (QK_cons qw_103 (QK_cons qw_104 (QK_cons qw_105 (QK_cons qw_993 QK_nil)))) (by decide +kernel)) ggL_law_X9_put
set_option maxRecDepth 20000 in
theorem ggL_law_X10_put : GoodIn wsL_law wsX10_put := qw_e qk_L_law qk_X10_put (by decide +kernel)
set_option maxRecDepth 20000 in
theorem gL_law_X10_put : GoodIn wsL_law (wsV RL 138 RX10 yX10_put wsX10_put) := goodIn_app (qw_e qk_L_law (QK_cons qw_119 (QK_cons qw_120 (QK_cons qw_121 (QK_cons qw_996 QK_nil)))) (by decide +kernel)) ggL_law_X10_put
set_option maxRecDepth 20000 in
theorem ggL_law_X9_get : GoodIn wsL_law wsX9_get := qw_e qk_L_law qk_X9_get (by decide +kernel)
set_option maxRecDepth 20000 in
theorem gL_law_X9_get : GoodIn wsL_law (wsV RL 139 RX9 yX9_get wsX9_get) := goodIn_app (qw_e qk_L_law (QK_cons qw_83 (QK_cons qw_84 (QK_cons qw_85 (QK_cons qw_993 QK_nil)))) (by decide +kernel)) ggL_law_X9_get
set_option maxRecDepth 20000 in
theorem ggL_law_X10_get : GoodIn wsL_law wsX10_get := qw_e qk_L_law qk_X10_get (by decide +kernel)
set_option maxRecDepth 20000 in
theorem gL_law_X10_get : GoodIn wsL_law (wsV RL 142 RX10 yX10_get wsX10_get) := goodIn_app (qw_e qk_L_law (QK_cons qw_89 (QK_cons qw_90 (QK_cons qw_91 (QK_cons qw_996 QK_nil)))) (by decide +kernel)) ggL_law_X10_get
set_option maxRecDepth 20000 in
theorem ggL_law_X9_copy : GoodIn wsL_law wsX9_copy := qw_e qk_L_law qk_X9_copy (by decide +kernel)
set_option maxRecDepth 20000 in
theorem gL_law_X9_copy : GoodIn wsL_law (wsV RL 143 RX9 yX9_copy wsX9_copy) := goodIn_app (qw_e qk_L_law (QK_cons qw_94 (QK_cons qw_95 (QK_cons qw_96 (QK_cons qw_993 QK_nil)))) (by decide +kernel)) ggL_law_X9_copy
set_option maxRecDepth 20000 in
theorem ggL_law_X10_copy : GoodIn wsL_law wsX10_copy := qw_e qk_L_law qk_X10_copy (by decide +kernel)
set_option maxRecDepth 20000 in
theorem gL_law_X10_copy : GoodIn wsL_law (wsV RL 147 RX10 yX10_copy wsX10_copy) := goodIn_app (qw_e qk_L_law (QK_cons qw_56 (QK_cons qw_57 (QK_cons qw_58 (QK_cons qw_996 QK_nil)))) (by decide +kernel)) ggL_law_X10_copy
set_option maxRecDepth 20000 in
theorem ggL_law_X9_write : GoodIn wsL_law wsX9_write := qw_e qk_L_law qk_X9_write (by decide +kernel)
set_option maxRecDepth 20000 in
theorem gL_law_X9_write : GoodIn wsL_law (wsV RL 148 RX9 yX9_write wsX9_write) := goodIn_app (qw_e qk_L_law (QK_cons qw_60 (QK_cons qw_61 (QK_cons qw_62 (QK_cons qw_993 QK_nil)))) (by decide +kernel)) ggL_law_X9_write
set_option maxRecDepth 20000 in
theorem ggL_law_X10_write : GoodIn wsL_law wsX10_write := qw_e qk_L_law qk_X10_write (by decide +kernel)
set_option maxRecDepth 20000 in
theorem gL_law_X10_write : GoodIn wsL_law (wsV RL 151 RX10 yX10_write wsX10_write) := goodIn_app (qw_e qk_L_law (QK_cons qw_64 (QK_cons qw_65 (QK_cons qw_66 (QK_cons qw_996 QK_nil)))) (by decide +kernel)) ggL_law_X10_write
set_option maxRecDepth 20000 in
theorem ggL_law_X9_count : GoodIn wsL_law wsX9_count := qw_e qk_L_law qk_X9_count (by decide +kernel)
set_option maxRecDepth 20000 in
theorem gL_law_X9_count : GoodIn wsL_law (wsV RL 152 RX9 yX9_count wsX9_count) := goodIn_app (qw_e qk_L_law (QK_cons qw_68 (QK_cons qw_69 (QK_cons qw_70 (QK_cons qw_993 QK_nil)))) (by decide +kernel)) ggL_law_X9_count
set_option maxRecDepth 20000 in
theorem ggL_law_X10_count : GoodIn wsL_law wsX10_count := qw_e qk_L_law qk_X10_count (by decide +kernel)
set_option maxRecDepth 20000 in
theorem gL_law_X10_count : GoodIn wsL_law (wsV RL 155 RX10 yX10_count wsX10_count) := goodIn_app (qw_e qk_L_law (QK_cons qw_72 (QK_cons qw_73 (QK_cons qw_74 (QK_cons qw_996 QK_nil)))) (by decide +kernel)) ggL_law_X10_count
