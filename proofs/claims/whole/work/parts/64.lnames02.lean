set_option maxRecDepth 20000 in
theorem gL_law_X10_safe : GoodIn wsL_law (wsV RL 66 RX10 yX10_safe wsX10_safe) := goodIn_app (qw_e qk_L_law (QK_cons qw_470 (QK_cons qw_471 (QK_cons qw_472 (QK_cons qw_996 QK_nil)))) (by decide +kernel)) ggL_law_X10_safe
set_option maxRecDepth 20000 in
theorem ggL_law_X9_lost : GoodIn wsL_law wsX9_lost := qw_e qk_L_law qk_X9_lost (by decide +kernel)
set_option maxRecDepth 20000 in
theorem gL_law_X9_lost : GoodIn wsL_law (wsV RL 67 RX9 yX9_lost wsX9_lost) := goodIn_app (qw_e qk_L_law (QK_cons qw_482 (QK_cons qw_483 (QK_cons qw_484 (QK_cons qw_993 QK_nil)))) (by decide +kernel)) ggL_law_X9_lost
set_option maxRecDepth 20000 in
theorem ggL_law_X10_lost : GoodIn wsL_law wsX10_lost := qw_e qk_L_law qk_X10_lost (by decide +kernel)
set_option maxRecDepth 20000 in
theorem gL_law_X10_lost : GoodIn wsL_law (wsV RL 71 RX10 yX10_lost wsX10_lost) := goodIn_app (qw_e qk_L_law (QK_cons qw_442 (QK_cons qw_443 (QK_cons qw_444 (QK_cons qw_996 QK_nil)))) (by decide +kernel)) ggL_law_X10_lost
set_option maxRecDepth 20000 in
theorem ggL_law_X9_first : GoodIn wsL_law wsX9_first := qw_e qk_L_law qk_X9_first (by decide +kernel)
set_option maxRecDepth 20000 in
theorem gL_law_X9_first : GoodIn wsL_law (wsV RL 72 RX9 yX9_first wsX9_first) := goodIn_app (qw_e qk_L_law (QK_cons qw_454 (QK_cons qw_455 (QK_cons qw_456 (QK_cons qw_993 QK_nil)))) (by decide +kernel)) ggL_law_X9_first
set_option maxRecDepth 20000 in
theorem ggL_law_X10_first : GoodIn wsL_law wsX10_first := qw_e qk_L_law qk_X10_first (by decide +kernel)
set_option maxRecDepth 20000 in
theorem gL_law_X10_first : GoodIn wsL_law (wsV RL 75 RX10 yX10_first wsX10_first) := goodIn_app (qw_e qk_L_law (QK_cons qw_458 (QK_cons qw_459 (QK_cons qw_460 (QK_cons qw_996 QK_nil)))) (by decide +kernel)) ggL_law_X10_first
set_option maxRecDepth 20000 in
theorem ggL_law_X9_spare : GoodIn wsL_law wsX9_spare := qw_e qk_L_law qk_X9_spare (by decide +kernel)
set_option maxRecDepth 20000 in
theorem gL_law_X9_spare : GoodIn wsL_law (wsV RL 76 RX9 yX9_spare wsX9_spare) := goodIn_app (qw_e qk_L_law (QK_cons qw_418 (QK_cons qw_419 (QK_cons qw_420 (QK_cons qw_993 QK_nil)))) (by decide +kernel)) ggL_law_X9_spare
set_option maxRecDepth 20000 in
theorem ggL_law_X10_spare : GoodIn wsL_law wsX10_spare := qw_e qk_L_law qk_X10_spare (by decide +kernel)
set_option maxRecDepth 20000 in
theorem gL_law_X10_spare : GoodIn wsL_law (wsV RL 79 RX10 yX10_spare wsX10_spare) := goodIn_app (qw_e qk_L_law (QK_cons qw_431 (QK_cons qw_432 (QK_cons qw_433 (QK_cons qw_996 QK_nil)))) (by decide +kernel)) ggL_law_X10_spare
set_option maxRecDepth 20000 in
theorem ggL_law_X9_trim : GoodIn wsL_law wsX9_trim := qw_e qk_L_law qk_X9_trim (by decide +kernel)
set_option maxRecDepth 20000 in
theorem gL_law_X9_trim : GoodIn wsL_law (wsV RL 80 RX9 yX9_trim wsX9_trim) := goodIn_app (qw_e qk_L_law (QK_cons qw_399 (QK_cons qw_400 (QK_cons qw_401 (QK_cons qw_993 QK_nil)))) (by decide +kernel)) ggL_law_X9_trim
set_option maxRecDepth 20000 in
theorem ggL_law_X10_trim : GoodIn wsL_law wsX10_trim := qw_e qk_L_law qk_X10_trim (by decide +kernel)
set_option maxRecDepth 20000 in
theorem gL_law_X10_trim : GoodIn wsL_law (wsV RL 83 RX10 yX10_trim wsX10_trim) := goodIn_app (qw_e qk_L_law (QK_cons qw_369 (QK_cons qw_370 (QK_cons qw_371 (QK_cons qw_996 QK_nil)))) (by decide +kernel)) ggL_law_X10_trim
set_option maxRecDepth 20000 in
theorem ggL_law_X9_begin : GoodIn wsL_law wsX9_begin := qw_e qk_L_law qk_X9_begin (by decide +kernel)
set_option maxRecDepth 20000 in
theorem gL_law_X9_begin : GoodIn wsL_law (wsV RL 84 RX9 yX9_begin wsX9_begin) := goodIn_app (qw_e qk_L_law (QK_cons qw_381 (QK_cons qw_382 (QK_cons qw_383 (QK_cons qw_993 QK_nil)))) (by decide +kernel)) ggL_law_X9_begin
set_option maxRecDepth 20000 in
theorem ggL_law_X10_begin : GoodIn wsL_law wsX10_begin := qw_e qk_L_law qk_X10_begin (by decide +kernel)
set_option maxRecDepth 20000 in
theorem gL_law_X10_begin : GoodIn wsL_law (wsV RL 87 RX10 yX10_begin wsX10_begin) := goodIn_app (qw_e qk_L_law (QK_cons qw_386 (QK_cons qw_387 (QK_cons qw_388 (QK_cons qw_996 QK_nil)))) (by decide +kernel)) ggL_law_X10_begin
set_option maxRecDepth 20000 in
theorem ggL_law_X9_recruit : GoodIn wsL_law wsX9_recruit := qw_e qk_L_law qk_X9_recruit (by decide +kernel)
set_option maxRecDepth 20000 in
theorem gL_law_X9_recruit : GoodIn wsL_law (wsV RL 88 RX9 yX9_recruit wsX9_recruit) := goodIn_app (qw_e qk_L_law (QK_cons qw_346 (QK_cons qw_347 (QK_cons qw_348 (QK_cons qw_993 QK_nil)))) (by decide +kernel)) ggL_law_X9_recruit
set_option maxRecDepth 20000 in
theorem ggL_law_X10_recruit : GoodIn wsL_law wsX10_recruit := qw_e qk_L_law qk_X10_recruit (by decide +kernel)
set_option maxRecDepth 20000 in
theorem gL_law_X10_recruit : GoodIn wsL_law (wsV RL 91 RX10 yX10_recruit wsX10_recruit) := goodIn_app (qw_e qk_L_law (QK_cons qw_350 (QK_cons qw_351 (QK_cons qw_352 (QK_cons qw_996 QK_nil)))) (by decide +kernel)) ggL_law_X10_recruit
set_option maxRecDepth 20000 in
theorem ggL_law_X9_missed : GoodIn wsL_law wsX9_missed := qw_e qk_L_law qk_X9_missed (by decide +kernel)
set_option maxRecDepth 20000 in
theorem gL_law_X9_missed : GoodIn wsL_law (wsV RL 92 RX9 yX9_missed wsX9_missed) := goodIn_app (qw_e qk_L_law (QK_cons qw_358 (QK_cons qw_359 (QK_cons qw_360 (QK_cons qw_993 QK_nil)))) (by decide +kernel)) ggL_law_X9_missed
set_option maxRecDepth 20000 in
theorem ggL_law_X10_missed : GoodIn wsL_law wsX10_missed := qw_e qk_L_law qk_X10_missed (by decide +kernel)
set_option maxRecDepth 20000 in
theorem gL_law_X10_missed : GoodIn wsL_law (wsV RL 95 RX10 yX10_missed wsX10_missed) := goodIn_app (qw_e qk_L_law (QK_cons qw_322 (QK_cons qw_323 (QK_cons qw_324 (QK_cons qw_996 QK_nil)))) (by decide +kernel)) ggL_law_X10_missed
set_option maxRecDepth 20000 in
theorem ggL_law_X9_forget : GoodIn wsL_law wsX9_forget := qw_e qk_L_law qk_X9_forget (by decide +kernel)
