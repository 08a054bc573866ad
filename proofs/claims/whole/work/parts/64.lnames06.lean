set_option maxRecDepth 20000 in
theorem ggd_X10_k00 : GoodIn wsL_law [Cond.code yX10_digest cX10_digest 4 (some .long)] := goodIn_r _ [1003] (by decide +kernel) (by decide +kernel)
set_option maxRecDepth 20000 in
theorem ggd_X10_k01 : GoodIn wsL_law wsX10_digest_r1 := goodIn_r _ [1004, 1005, 255, 125, 265, 126, 277, 1006, 954, 955, 5, 956, 123, 679, 720, 957, 958, 959, 960, 296, 297, 298, 299, 247] (by decide +kernel) (by decide +kernel)
set_option maxRecDepth 20000 in
theorem ggd_X10_k02 : GoodIn wsL_law wsX10_digest_r2 := goodIn_r _ [248, 249, 250, 251, 252, 253, 254, 256, 257, 124, 258, 259, 260, 261, 262, 263, 264, 266, 267, 268, 269, 270, 271, 272] (by decide +kernel) (by decide +kernel)
set_option maxRecDepth 20000 in
theorem ggd_X10_k03 : GoodIn wsL_law wsX10_digest_r3 := goodIn_r _ [273, 274, 275, 276, 278, 279, 280, 281, 127, 128, 220, 221, 222, 485, 486, 487, 488, 419, 420, 421, 422, 423, 424, 425] (by decide +kernel) (by decide +kernel)
set_option maxRecDepth 20000 in
theorem ggd_X10_k04 : GoodIn wsL_law wsX10_digest_r4 := goodIn_r _ [426, 427, 129, 130, 346, 428, 429, 430, 431, 345, 131, 144, 132, 432, 133, 433, 434, 435, 436, 437, 143, 438, 439, 440] (by decide +kernel) (by decide +kernel)
set_option maxRecDepth 20000 in
theorem ggd_X10_k05 : GoodIn wsL_law wsX10_digest_r5 := goodIn_r _ [441, 442, 443, 444, 445, 446, 447, 448, 449, 489, 490, 491, 492, 493, 494, 495, 1007, 1008, 1009, 1010, 516, 517, 518, 519] (by decide +kernel) (by decide +kernel)
set_option maxRecDepth 20000 in
theorem ggd_X10_k06 : GoodIn wsL_law wsX10_digest_r6 := goodIn_r _ [520, 521, 522, 523, 767, 768, 769, 770, 742, 743, 744, 745, 135, 136, 543, 544, 545, 546, 833, 834, 835, 836, 837, 838] (by decide +kernel) (by decide +kernel)
set_option maxRecDepth 20000 in
theorem ggd_X10_k07 : GoodIn wsL_law wsX10_digest_r7 := goodIn_r _ [839, 1011, 1012, 1013, 1014, 415, 416, 417, 418, 463, 464, 465, 466, 539, 540, 541, 542, 559, 560, 561, 562, 563, 564, 565] (by decide +kernel) (by decide +kernel)
set_option maxRecDepth 20000 in
theorem ggd_X10_k08 : GoodIn wsL_law wsX10_digest_r8 := goodIn_r _ [566, 575, 576, 577, 578, 596, 597, 598, 599, 600, 601, 602, 603, 604, 605, 606, 607, 630, 631, 632, 633, 134, 634, 635] (by decide +kernel) (by decide +kernel)
set_option maxRecDepth 20000 in
theorem ggd_X10_k09 : GoodIn wsL_law wsX10_digest_r9 := goodIn_r _ [636, 637, 647, 648, 649, 650, 659, 660, 661, 662, 738, 739, 740, 741, 792, 793, 794, 795, 137, 857, 858, 859, 860, 861] (by decide +kernel) (by decide +kernel)
set_option maxRecDepth 20000 in
theorem ggd_X10_k10 : GoodIn wsL_law wsX100 := goodIn_r _ [1033, 1034, 1035, 1036, 1037, 1038, 1039, 1040, 1041, 1042, 1043, 1044, 1045, 1046, 1047, 1048, 1049, 1050, 1051, 1052, 1053, 1054, 1055, 1056, 1057, 1058, 1059, 1060, 1061, 1062, 1063, 1064, 1065, 1066] (by decide +kernel) (by decide +kernel)
theorem ggL_law_X10_digest : GoodIn wsL_law wsX10_digest := by
  have h := gg_cons ggd_X10_k00 (goodIn_app (goodIn_app ggd_X10_k01 (goodIn_app ggd_X10_k02 (goodIn_app ggd_X10_k03 (goodIn_app ggd_X10_k04 (goodIn_app ggd_X10_k05 (goodIn_app ggd_X10_k06 (goodIn_app ggd_X10_k07 (goodIn_app ggd_X10_k08 ggd_X10_k09)))))))) ggd_X10_k10)
  exact h
set_option maxRecDepth 20000 in
theorem gL_law_X10_digest : GoodIn wsL_law (wsV RL 160 RX10 yX10_digest wsX10_digest) := goodIn_app (goodIn_of _ (by decide +kernel)) ggL_law_X10_digest
