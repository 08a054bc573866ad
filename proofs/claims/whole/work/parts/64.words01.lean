set_option maxRecDepth 20000 in
theorem gl_r13 : GoodIn lw_tbl wsL_law_r13 := goodIn_r _ [958, 959, 960, 961, 962, 964, 30, 965, 966, 968, 31, 969, 407, 408, 409, 410, 133, 130, 970, 971, 972, 973, 974, 976] (by decide +kernel) (by decide +kernel)
set_option maxRecDepth 20000 in
theorem gl_r14 : GoodIn lw_tbl wsL_law_r14 := goodIn_r _ [32, 977, 411, 412, 413, 414, 146, 148, 415, 417, 8, 418, 150, 419, 420, 421, 978, 979, 980, 981, 982, 984, 33, 985] (by decide +kernel) (by decide +kernel)
set_option maxRecDepth 20000 in
theorem gl_r15 : GoodIn lw_tbl wsL_law_r15 := goodIn_r _ [422, 423, 424, 425, 426, 986, 987, 988, 989, 814, 817, 428, 429, 430, 431, 206, 432, 433, 434, 435, 437, 9, 438, 439] (by decide +kernel) (by decide +kernel)
set_option maxRecDepth 20000 in
theorem gl_r16 : GoodIn lw_tbl wsL_law_r16 := goodIn_r _ [441, 10, 442, 443, 445, 11, 446, 447, 448, 449, 450, 451, 452, 453, 107, 454, 455, 456, 457, 458, 459, 460, 461, 462] (by decide +kernel) (by decide +kernel)
set_option maxRecDepth 20000 in
theorem gl_r17 : GoodIn lw_tbl wsL_law_r17 := goodIn_r _ [463, 464, 465, 466, 467, 468, 469, 470, 471, 472, 473, 474, 475, 185, 132, 129, 476, 477, 478, 479, 480, 481, 482, 483] (by decide +kernel) (by decide +kernel)
set_option maxRecDepth 20000 in
theorem gl_r18 : GoodIn lw_tbl wsL_law_r18 := goodIn_r _ [990, 991, 992, 993, 994, 995, 996, 997, 999, 34, 1000, 1001, 1003, 35, 1004, 1005, 1007, 36, 1008, 818, 1009, 1011, 37, 1012] (by decide +kernel) (by decide +kernel)
set_option maxRecDepth 20000 in
theorem gl_r19 : GoodIn lw_tbl wsL_law_r19 := goodIn_r _ [824, 825, 1013, 1015, 38, 1016, 1017, 1019, 39, 1020, 1021, 1023, 40, 1024, 1025, 1027, 41, 1028, 484, 485, 486, 487, 208, 488] (by decide +kernel) (by decide +kernel)
set_option maxRecDepth 20000 in
theorem gl_r20 : GoodIn lw_tbl wsL_law_r20 := goodIn_r _ [489, 490, 491, 1029, 1030, 1031, 1032, 1033, 1035, 42, 1036, 492, 493, 494, 495, 496, 497, 498, 499, 500, 501, 502, 503, 504] (by decide +kernel) (by decide +kernel)
set_option maxRecDepth 20000 in
theorem gl_r21 : GoodIn lw_tbl wsL_law_r21 := goodIn_r _ [505, 1037, 1038, 1039, 1040, 1041, 1043, 43, 1044, 1045, 1047, 44, 1048, 1049, 1050, 1051, 506, 507, 508, 509, 510, 511, 512, 513] (by decide +kernel) (by decide +kernel)
set_option maxRecDepth 20000 in
theorem gl_r22 : GoodIn lw_tbl wsL_law_r22 := goodIn_r _ [514, 515, 516, 517, 518, 519, 520, 521, 1052, 1053, 1054, 1055, 1056, 1058, 45, 1059, 1060, 1062, 46, 1063, 522, 523, 524, 525] (by decide +kernel) (by decide +kernel)
set_option maxRecDepth 20000 in
theorem gl_r23 : GoodIn lw_tbl wsL_law_r23 := goodIn_r _ [111, 531, 526, 527, 528, 529, 530, 1064, 1065, 1066, 1067, 1068, 1070, 47, 1071, 1072, 1074, 48, 1075, 532, 533, 534, 535, 536] (by decide +kernel) (by decide +kernel)
set_option maxRecDepth 20000 in
theorem gl_r24 : GoodIn lw_tbl wsL_law_r24 := goodIn_r _ [537, 538, 539, 1076, 1077, 1078, 1079, 1080, 1082, 49, 1083, 1084, 1086, 50, 1087, 540, 541, 542, 543, 1088, 1089, 1090, 1091, 1092] (by decide +kernel) (by decide +kernel)
