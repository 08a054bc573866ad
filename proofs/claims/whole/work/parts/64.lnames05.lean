theorem gg_cons {big : List Cond} {c : Cond} {l : List Cond} (h1 : GoodIn big [c]) (h2 : GoodIn big l) : GoodIn big (c :: l) := fun w h => (List.mem_cons.mp h).elim (fun e => h1 w (by rw [e]; exact List.mem_cons_self)) (h2 w)
set_option maxRecDepth 20000 in
theorem ggd_X9_k00 : GoodIn wsL_law [Cond.code yX9_digest cX9_digest 4 (some .long)] := goodIn_r _ [964] (by decide +kernel) (by decide +kernel)
set_option maxRecDepth 20000 in
theorem ggd_X9_k01 : GoodIn wsL_law wsX9_digest_r1 := goodIn_r _ [965, 966, 13, 24, 304, 28, 324, 967, 950, 951, 2, 952, 20, 286, 149, 528, 32, 667, 51, 756, 757, 758, 759, 760] (by decide +kernel) (by decide +kernel)
set_option maxRecDepth 20000 in
theorem ggd_X9_k02 : GoodIn wsL_law wsX9_digest_r2 := goodIn_r _ [761, 762, 968, 240, 241, 242, 15, 150, 151, 152, 153, 969, 970, 971, 972, 973, 283, 284, 285, 287, 974, 468, 469, 470] (by decide +kernel) (by decide +kernel)
set_option maxRecDepth 20000 in
theorem ggd_X9_k03 : GoodIn wsL_law wsX9_digest_r3 := goodIn_r _ [42, 471, 381, 382, 19, 383, 63, 325, 326, 327, 355, 356, 357, 358, 52, 38, 16, 53, 359, 360, 361, 362, 363, 364] (by decide +kernel) (by decide +kernel)
set_option maxRecDepth 20000 in
theorem ggd_X9_k04 : GoodIn wsL_law wsX9_digest_r4 := goodIn_r _ [365, 366, 367, 368, 109, 369, 370, 371, 372, 37, 373, 374, 375, 91, 90, 88, 86, 376, 377, 378, 379, 62, 380, 384] (by decide +kernel) (by decide +kernel)
set_option maxRecDepth 20000 in
theorem ggd_X9_k05 : GoodIn wsL_law wsX9_digest_r5 := goodIn_r _ [385, 386, 387, 388, 389, 390, 391, 64, 392, 393, 394, 395, 41, 396, 95, 96, 397, 398, 399, 400, 401, 402, 403, 404] (by decide +kernel) (by decide +kernel)
set_option maxRecDepth 20000 in
theorem ggd_X9_k06 : GoodIn wsL_law wsX9_digest_r6 := goodIn_r _ [405, 406, 407, 472, 473, 474, 475, 476, 477, 478, 479, 480, 108, 110, 975, 301, 302, 303, 305, 976, 977, 978, 979, 980] (by decide +kernel) (by decide +kernel)
set_option maxRecDepth 20000 in
theorem ggd_X9_k07 : GoodIn wsL_law wsX9_digest_r7 := goodIn_r _ [315, 316, 317, 318, 319, 320, 321, 322, 323, 981, 497, 498, 499, 500, 501, 502, 27, 503, 76, 74, 75, 504, 505, 506] (by decide +kernel) (by decide +kernel)
set_option maxRecDepth 20000 in
theorem ggd_X9_k08 : GoodIn wsL_law wsX9_digest_r8 := goodIn_r _ [507, 508, 509, 510, 511, 982, 747, 748, 749, 750, 751, 752, 753, 530, 531, 532, 533, 534, 754, 755, 730, 731, 732, 31] (by decide +kernel) (by decide +kernel)
set_option maxRecDepth 20000 in
theorem ggd_X9_k09 : GoodIn wsL_law wsX9_digest_r9 := goodIn_r _ [733, 82, 80, 81, 623, 624, 625, 983, 797, 798, 799, 800, 801, 802, 803, 804, 805, 49, 351, 806, 807, 808, 809, 48] (by decide +kernel) (by decide +kernel)
set_option maxRecDepth 20000 in
theorem ggd_X9_k10 : GoodIn wsL_law wsX9_digest_r10 := goodIn_r _ [810, 811, 812, 101, 100, 813, 814, 777, 815, 816, 817, 818, 819, 820, 821, 822, 823, 824, 825, 826, 827, 828, 984, 985] (by decide +kernel) (by decide +kernel)
set_option maxRecDepth 20000 in
theorem ggd_X9_k11 : GoodIn wsL_law wsX9_digest_r11 := goodIn_r _ [986, 987, 988, 989, 348, 349, 350, 352, 353, 354, 990, 451, 452, 453, 454, 455, 456, 457, 458, 991, 525, 526, 527, 529] (by decide +kernel) (by decide +kernel)
set_option maxRecDepth 20000 in
theorem ggd_X9_k12 : GoodIn wsL_law wsX9_digest_r12 := goodIn_r _ [583, 548, 549, 550, 551, 552, 553, 554, 992, 568, 569, 570, 993, 580, 581, 582, 584, 585, 586, 587, 43, 45, 588, 589] (by decide +kernel) (by decide +kernel)
set_option maxRecDepth 20000 in
theorem ggd_X9_k13 : GoodIn wsL_law wsX9_digest_r13 := goodIn_r _ [590, 23, 591, 70, 69, 192, 193, 194, 195, 994, 609, 610, 611, 612, 613, 614, 615, 616, 617, 618, 619, 620, 621, 622] (by decide +kernel) (by decide +kernel)
set_option maxRecDepth 20000 in
theorem ggd_X9_k14 : GoodIn wsL_law wsX9_digest_r14 := goodIn_r _ [995, 639, 640, 641, 642, 996, 652, 653, 654, 44, 997, 723, 724, 725, 726, 727, 728, 729, 998, 772, 773, 774, 50, 775] (by decide +kernel) (by decide +kernel)
set_option maxRecDepth 20000 in
theorem ggd_X9_k15 : GoodIn wsL_law wsX9_digest_r15 := goodIn_r _ [776, 778, 779, 780, 781, 782, 783, 784, 785, 786, 787, 999, 845, 846, 847, 848, 849, 850, 851, 852] (by decide +kernel) (by decide +kernel)
set_option maxRecDepth 20000 in
theorem ggd_X9_k16 : GoodIn wsL_law wsX90 := goodIn_r _ [1015, 1016, 1017, 1018, 1019, 1020, 1021, 1022, 1023, 1024, 1025, 1026, 1027, 1028, 1029, 1030, 1031, 1032] (by decide +kernel) (by decide +kernel)
set_option maxRecDepth 20000 in
theorem ggd_X9_k17 : GoodIn wsL_law wsX40 := goodIn_r _ [1071, 1072] (by decide +kernel) (by decide +kernel)
set_option maxRecDepth 20000 in
theorem ggd_X9_k18 : GoodIn wsL_law wsX70 := goodIn_r _ [1073, 1074, 1075] (by decide +kernel) (by decide +kernel)
set_option maxRecDepth 20000 in
theorem ggd_X9_k19 : GoodIn wsL_law wsX80 := goodIn_r _ [1067, 1068, 1069, 1070] (by decide +kernel) (by decide +kernel)
set_option maxRecDepth 20000 in
theorem ggd_X9_k20 : GoodIn wsL_law wsX60 := goodIn_r _ [1087, 1088] (by decide +kernel) (by decide +kernel)
set_option maxRecDepth 20000 in
theorem ggd_X9_k21 : GoodIn wsL_law wsX10 := goodIn_r _ [1076, 1077, 1078] (by decide +kernel) (by decide +kernel)
set_option maxRecDepth 20000 in
theorem ggd_X9_k22 : GoodIn wsL_law wsX00 := goodIn_r _ [1079, 1080, 1081, 1082] (by decide +kernel) (by decide +kernel)
set_option maxRecDepth 20000 in
theorem ggd_X9_k23 : GoodIn wsL_law wsX20 := goodIn_r _ [1083, 1084] (by decide +kernel) (by decide +kernel)
set_option maxRecDepth 20000 in
theorem ggd_X9_k24 : GoodIn wsL_law wsX30 := goodIn_r _ [1085, 1086] (by decide +kernel) (by decide +kernel)
theorem ggL_law_X9_digest : GoodIn wsL_law wsX9_digest := by
  have h := gg_cons ggd_X9_k00 (goodIn_app (goodIn_app (goodIn_app (goodIn_app (goodIn_app (goodIn_app (goodIn_app (goodIn_app (goodIn_app (goodIn_app ggd_X9_k01 (goodIn_app ggd_X9_k02 (goodIn_app ggd_X9_k03 (goodIn_app ggd_X9_k04 (goodIn_app ggd_X9_k05 (goodIn_app ggd_X9_k06 (goodIn_app ggd_X9_k07 (goodIn_app ggd_X9_k08 (goodIn_app ggd_X9_k09 (goodIn_app ggd_X9_k10 (goodIn_app ggd_X9_k11 (goodIn_app ggd_X9_k12 (goodIn_app ggd_X9_k13 (goodIn_app ggd_X9_k14 ggd_X9_k15)))))))))))))) ggd_X9_k16) ggd_X9_k17) ggd_X9_k18) ggd_X9_k19) ggd_X9_k20) ggd_X9_k21) ggd_X9_k22) ggd_X9_k23) ggd_X9_k24)
  exact h
set_option maxRecDepth 20000 in
theorem gL_law_X9_digest : GoodIn wsL_law (wsV RL 156 RX9 yX9_digest wsX9_digest) := goodIn_app (goodIn_of _ (by decide +kernel)) ggL_law_X9_digest
