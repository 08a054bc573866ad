set_option maxRecDepth 20000 in
theorem gL_law_X9_forget : GoodIn wsL_law (wsV RL 96 RX9 yX9_forget wsX9_forget) := goodIn_app (qw_e qk_L_law (QK_cons qw_327 (QK_cons qw_328 (QK_cons qw_329 (QK_cons qw_993 QK_nil)))) (by decide +kernel)) ggL_law_X9_forget
set_option maxRecDepth 20000 in
theorem ggL_law_X10_forget : GoodIn wsL_law wsX10_forget := qw_e qk_L_law qk_X10_forget (by decide +kernel)
set_option maxRecDepth 20000 in
theorem gL_law_X10_forget : GoodIn wsL_law (wsV RL 99 RX10 yX10_forget wsX10_forget) := goodIn_app (qw_e qk_L_law (QK_cons qw_331 (QK_cons qw_332 (QK_cons qw_333 (QK_cons qw_996 QK_nil)))) (by decide +kernel)) ggL_law_X10_forget
set_option maxRecDepth 20000 in
theorem ggL_law_X9_read : GoodIn wsL_law wsX9_read := qw_e qk_L_law qk_X9_read (by decide +kernel)
set_option maxRecDepth 20000 in
theorem gL_law_X9_read : GoodIn wsL_law (wsV RL 100 RX9 yX9_read wsX9_read) := goodIn_app (qw_e qk_L_law (QK_cons qw_335 (QK_cons qw_336 (QK_cons qw_337 (QK_cons qw_993 QK_nil)))) (by decide +kernel)) ggL_law_X9_read
set_option maxRecDepth 20000 in
theorem ggL_law_X10_read : GoodIn wsL_law wsX10_read := qw_e qk_L_law qk_X10_read (by decide +kernel)
set_option maxRecDepth 20000 in
theorem gL_law_X10_read : GoodIn wsL_law (wsV RL 103 RX10 yX10_read wsX10_read) := goodIn_app (qw_e qk_L_law (QK_cons qw_308 (QK_cons qw_309 (QK_cons qw_310 (QK_cons qw_996 QK_nil)))) (by decide +kernel)) ggL_law_X10_read
set_option maxRecDepth 20000 in
theorem ggL_law_X9_omitted : GoodIn wsL_law wsX9_omitted := qw_e qk_L_law qk_X9_omitted (by decide +kernel)
set_option maxRecDepth 20000 in
theorem gL_law_X9_omitted : GoodIn wsL_law (wsV RL 104 RX9 yX9_omitted wsX9_omitted) := goodIn_app (qw_e qk_L_law (QK_cons qw_273 (QK_cons qw_274 (QK_cons qw_275 (QK_cons qw_993 QK_nil)))) (by decide +kernel)) ggL_law_X9_omitted
set_option maxRecDepth 20000 in
theorem ggL_law_X10_omitted : GoodIn wsL_law wsX10_omitted := qw_e qk_L_law qk_X10_omitted (by decide +kernel)
set_option maxRecDepth 20000 in
theorem gL_law_X10_omitted : GoodIn wsL_law (wsV RL 107 RX10 yX10_omitted wsX10_omitted) := goodIn_app (qw_e qk_L_law (QK_cons qw_285 (QK_cons qw_286 (QK_cons qw_287 (QK_cons qw_996 QK_nil)))) (by decide +kernel)) ggL_law_X10_omitted
set_option maxRecDepth 20000 in
theorem ggL_law_X9_meant : GoodIn wsL_law wsX9_meant := qw_e qk_L_law qk_X9_meant (by decide +kernel)
set_option maxRecDepth 20000 in
theorem gL_law_X9_meant : GoodIn wsL_law (wsV RL 108 RX9 yX9_meant wsX9_meant) := goodIn_app (qw_e qk_L_law (QK_cons qw_249 (QK_cons qw_250 (QK_cons qw_251 (QK_cons qw_993 QK_nil)))) (by decide +kernel)) ggL_law_X9_meant
set_option maxRecDepth 20000 in
theorem ggL_law_X10_meant : GoodIn wsL_law wsX10_meant := qw_e qk_L_law qk_X10_meant (by decide +kernel)
set_option maxRecDepth 20000 in
theorem gL_law_X10_meant : GoodIn wsL_law (wsV RL 111 RX10 yX10_meant wsX10_meant) := goodIn_app (qw_e qk_L_law (QK_cons qw_266 (QK_cons qw_267 (QK_cons qw_268 (QK_cons qw_996 QK_nil)))) (by decide +kernel)) ggL_law_X10_meant
set_option maxRecDepth 20000 in
theorem ggL_law_X9_ask : GoodIn wsL_law wsX9_ask := qw_e qk_L_law qk_X9_ask (by decide +kernel)
set_option maxRecDepth 20000 in
theorem gL_law_X9_ask : GoodIn wsL_law (wsV RL 112 RX9 yX9_ask wsX9_ask) := goodIn_app (qw_e qk_L_law (QK_cons qw_226 (QK_cons qw_227 (QK_cons qw_228 (QK_cons qw_993 QK_nil)))) (by decide +kernel)) ggL_law_X9_ask
set_option maxRecDepth 20000 in
theorem ggL_law_X10_ask : GoodIn wsL_law wsX10_ask := qw_e qk_L_law qk_X10_ask (by decide +kernel)
set_option maxRecDepth 20000 in
theorem gL_law_X10_ask : GoodIn wsL_law (wsV RL 115 RX10 yX10_ask wsX10_ask) := goodIn_app (qw_e qk_L_law (QK_cons qw_243 (QK_cons qw_244 (QK_cons qw_245 (QK_cons qw_996 QK_nil)))) (by decide +kernel)) ggL_law_X10_ask
set_option maxRecDepth 20000 in
theorem ggL_law_X9_fogged : GoodIn wsL_law wsX9_fogged := qw_e qk_L_law qk_X9_fogged (by decide +kernel)
set_option maxRecDepth 20000 in
theorem gL_law_X9_fogged : GoodIn wsL_law (wsV RL 116 RX9 yX9_fogged wsX9_fogged) := goodIn_app (qw_e qk_L_law (QK_cons qw_203 (QK_cons qw_204 (QK_cons qw_205 (QK_cons qw_993 QK_nil)))) (by decide +kernel)) ggL_law_X9_fogged
set_option maxRecDepth 20000 in
theorem ggL_law_X10_fogged : GoodIn wsL_law wsX10_fogged := qw_e qk_L_law qk_X10_fogged (by decide +kernel)
set_option maxRecDepth 20000 in
theorem gL_law_X10_fogged : GoodIn wsL_law (wsV RL 120 RX10 yX10_fogged wsX10_fogged) := goodIn_app (qw_e qk_L_law (QK_cons qw_188 (QK_cons qw_189 (QK_cons qw_190 (QK_cons qw_996 QK_nil)))) (by decide +kernel)) ggL_law_X10_fogged
set_option maxRecDepth 20000 in
theorem ggL_law_X9_nights : GoodIn wsL_law wsX9_nights := qw_e qk_L_law qk_X9_nights (by decide +kernel)
set_option maxRecDepth 20000 in
theorem gL_law_X9_nights : GoodIn wsL_law (wsV RL 121 RX9 yX9_nights wsX9_nights) := goodIn_app (qw_e qk_L_law (QK_cons qw_155 (QK_cons qw_156 (QK_cons qw_157 (QK_cons qw_993 QK_nil)))) (by decide +kernel)) ggL_law_X9_nights
set_option maxRecDepth 20000 in
theorem ggL_law_X10_nights : GoodIn wsL_law wsX10_nights := qw_e qk_L_law qk_X10_nights (by decide +kernel)
set_option maxRecDepth 20000 in
theorem gL_law_X10_nights : GoodIn wsL_law (wsV RL 125 RX10 yX10_nights wsX10_nights) := goodIn_app (qw_e qk_L_law (QK_cons qw_164 (QK_cons qw_165 (QK_cons qw_166 (QK_cons qw_996 QK_nil)))) (by decide +kernel)) ggL_law_X10_nights
set_option maxRecDepth 20000 in
theorem ggL_law_X9_sheet : GoodIn wsL_law wsX9_sheet := qw_e qk_L_law qk_X9_sheet (by decide +kernel)
set_option maxRecDepth 20000 in
theorem gL_law_X9_sheet : GoodIn wsL_law (wsV RL 126 RX9 yX9_sheet wsX9_sheet) := goodIn_app (qw_e qk_L_law (QK_cons qw_173 (QK_cons qw_174 (QK_cons qw_127 (QK_cons qw_993 QK_nil)))) (by decide +kernel)) ggL_law_X9_sheet
set_option maxRecDepth 20000 in
theorem ggL_law_X10_sheet : GoodIn wsL_law wsX10_sheet := qw_e qk_L_law qk_X10_sheet (by decide +kernel)
