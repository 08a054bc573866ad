set_option maxRecDepth 20000 in
theorem gL_law_X10_sheet : GoodIn wsL_law (wsV RL 129 RX10 yX10_sheet wsX10_sheet) := goodIn_app (goodIn_of _ (by decide +kernel)) ggL_law_X10_sheet
set_option maxRecDepth 20000 in
theorem ggL_law_X9_lose : GoodIn wsL_law wsX9_lose := goodIn_r _ [882, 34, 692, 883, 693, 694, 695, 2, 696, 697, 698, 699, 700, 51, 1015, 1016, 1017, 1018, 1019, 1020, 1021, 1022, 1023, 1024, 1025, 1026, 1027, 1028, 1029, 1030, 1031, 1032, 1089, 1090, 1091, 1092] (by decide +kernel) (by decide +kernel)
set_option maxRecDepth 20000 in
theorem gL_law_X9_lose : GoodIn wsL_law (wsV RL 130 RX9 yX9_lose wsX9_lose) := goodIn_app (goodIn_of _ (by decide +kernel)) ggL_law_X9_lose
set_option maxRecDepth 20000 in
theorem ggL_law_X10_lose : GoodIn wsL_law wsX10_lose := goodIn_r _ [887, 138, 140, 713, 714, 5, 715, 220, 221, 222, 716, 717, 718, 719, 720, 1033, 1034, 1035, 1036, 1037, 1038, 1039, 1040, 1041, 1042, 1043, 1044, 1045, 1046, 1047, 1048, 1049, 1050, 1051, 1052, 1053, 1054, 1055, 1056, 1057, 1058, 1059, 1060, 1061, 1062, 1063, 1064, 1065, 1066] (by decide +kernel) (by decide +kernel)
set_option maxRecDepth 20000 in
theorem gL_law_X10_lose : GoodIn wsL_law (wsV RL 133 RX10 yX10_lose wsX10_lose) := goodIn_app (goodIn_of _ (by decide +kernel)) ggL_law_X10_lose
set_option maxRecDepth 20000 in
theorem ggL_law_X9_put : GoodIn wsL_law wsX9_put := goodIn_r _ [891, 34, 693, 694, 695, 2, 696, 866, 867, 58, 868, 892, 893, 894, 895, 116, 117, 896, 897, 898, 899, 118, 697, 698, 699, 700, 51, 900, 901, 902, 903, 115, 1015, 1016, 1017, 1018, 1019, 1020, 1021, 1022, 1023, 1024, 1025, 1026, 1027, 1028, 1029, 1030, 1031, 1032, 1089, 1090, 1091, 1092] (by decide +kernel) (by decide +kernel)
set_option maxRecDepth 20000 in
theorem gL_law_X9_put : GoodIn wsL_law (wsV RL 134 RX9 yX9_put wsX9_put) := goodIn_app (goodIn_of _ (by decide +kernel)) ggL_law_X9_put
set_option maxRecDepth 20000 in
theorem ggL_law_X10_put : GoodIn wsL_law wsX10_put := goodIn_r _ [907, 713, 714, 5, 715, 220, 221, 222, 908, 909, 910, 911, 138, 139, 140, 716, 717, 718, 719, 720, 912, 913, 914, 915, 141, 1033, 1034, 1035, 1036, 1037, 1038, 1039, 1040, 1041, 1042, 1043, 1044, 1045, 1046, 1047, 1048, 1049, 1050, 1051, 1052, 1053, 1054, 1055, 1056, 1057, 1058, 1059, 1060, 1061, 1062, 1063, 1064, 1065, 1066] (by decide +kernel) (by decide +kernel)
set_option maxRecDepth 20000 in
theorem gL_law_X10_put : GoodIn wsL_law (wsV RL 138 RX10 yX10_put wsX10_put) := goodIn_app (goodIn_of _ (by decide +kernel)) ggL_law_X10_put
set_option maxRecDepth 20000 in
theorem ggL_law_X9_get : GoodIn wsL_law wsX9_get := goodIn_r _ [919, 920, 34, 51, 921, 693, 694, 695, 2, 696, 866, 867, 58, 868, 892, 893, 894, 895, 116, 117, 896, 897, 898, 899, 118, 1015, 1016, 1017, 1018, 1019, 1020, 1021, 1022, 1023, 1024, 1025, 1026, 1027, 1028, 1029, 1030, 1031, 1032, 1089, 1090, 1091, 1092] (by decide +kernel) (by decide +kernel)
set_option maxRecDepth 20000 in
theorem gL_law_X9_get : GoodIn wsL_law (wsV RL 139 RX9 yX9_get wsX9_get) := goodIn_app (goodIn_of _ (by decide +kernel)) ggL_law_X9_get
set_option maxRecDepth 20000 in
theorem ggL_law_X10_get : GoodIn wsL_law wsX10_get := goodIn_r _ [925, 926, 720, 141, 713, 714, 5, 715, 220, 221, 222, 908, 909, 910, 911, 138, 139, 140, 1033, 1034, 1035, 1036, 1037, 1038, 1039, 1040, 1041, 1042, 1043, 1044, 1045, 1046, 1047, 1048, 1049, 1050, 1051, 1052, 1053, 1054, 1055, 1056, 1057, 1058, 1059, 1060, 1061, 1062, 1063, 1064, 1065, 1066] (by decide +kernel) (by decide +kernel)
set_option maxRecDepth 20000 in
theorem gL_law_X10_get : GoodIn wsL_law (wsV RL 142 RX10 yX10_get wsX10_get) := goodIn_app (goodIn_of _ (by decide +kernel)) ggL_law_X10_get
set_option maxRecDepth 20000 in
theorem ggL_law_X9_copy : GoodIn wsL_law wsX9_copy := goodIn_r _ [930, 34, 692, 931, 921, 932, 933, 934, 935, 693, 694, 695, 2, 696, 697, 698, 699, 700, 51, 936, 897, 898, 58, 899, 118, 1015, 1016, 1017, 1018, 1019, 1020, 1021, 1022, 1023, 1024, 1025, 1026, 1027, 1028, 1029, 1030, 1031, 1032, 1089, 1090, 1091, 1092] (by decide +kernel) (by decide +kernel)
set_option maxRecDepth 20000 in
theorem gL_law_X9_copy : GoodIn wsL_law (wsV RL 143 RX9 yX9_copy wsX9_copy) := goodIn_app (goodIn_of _ (by decide +kernel)) ggL_law_X9_copy
set_option maxRecDepth 20000 in
theorem ggL_law_X10_copy : GoodIn wsL_law wsX10_copy := goodIn_r _ [940, 138, 139, 140, 142, 141, 713, 714, 5, 715, 220, 221, 222, 716, 717, 718, 719, 720, 1033, 1034, 1035, 1036, 1037, 1038, 1039, 1040, 1041, 1042, 1043, 1044, 1045, 1046, 1047, 1048, 1049, 1050, 1051, 1052, 1053, 1054, 1055, 1056, 1057, 1058, 1059, 1060, 1061, 1062, 1063, 1064, 1065, 1066] (by decide +kernel) (by decide +kernel)
set_option maxRecDepth 20000 in
theorem gL_law_X10_copy : GoodIn wsL_law (wsV RL 147 RX10 yX10_copy wsX10_copy) := goodIn_app (goodIn_of _ (by decide +kernel)) ggL_law_X10_copy
set_option maxRecDepth 20000 in
theorem ggL_law_X9_write : GoodIn wsL_law wsX9_write := goodIn_r _ [944, 34, 692, 883, 42, 351, 693, 694, 695, 2, 696, 697, 698, 699, 700, 51, 355, 356, 357, 358, 52, 38, 20, 16, 24, 53, 359, 360, 361, 362, 363, 364, 365, 366, 367, 368, 109, 369, 370, 371, 372, 37, 373, 374, 375, 91, 90, 88, 86, 376, 377, 378, 19, 379, 62, 380, 381, 382, 383, 63, 384, 385, 386, 387, 388, 389, 390, 391, 64, 392, 393, 394, 395, 41, 396, 95, 96, 397, 398, 399, 400, 401, 402, 403, 404, 405, 406, 407, 900, 901, 902, 58, 903, 115, 117, 896, 897, 898, 899, 118, 1015, 1016, 1017, 1018, 1019, 1020, 1021, 1022, 1023, 1024, 1025, 1026, 1027, 1028, 1029, 1030, 1031, 1032, 1089, 1090, 1091, 1092, 1083, 1084, 1067, 1068, 1069, 1070, 1079, 1080, 1081, 1082, 1071, 1072] (by decide +kernel) (by decide +kernel)
set_option maxRecDepth 20000 in
theorem gL_law_X9_write : GoodIn wsL_law (wsV RL 148 RX9 yX9_write wsX9_write) := goodIn_app (goodIn_of _ (by decide +kernel)) ggL_law_X9_write
set_option maxRecDepth 20000 in
theorem ggL_law_X10_write : GoodIn wsL_law wsX10_write := goodIn_r _ [948, 138, 140, 713, 714, 5, 715, 220, 221, 222, 716, 717, 718, 719, 720, 415, 416, 417, 418, 131, 419, 420, 421, 422, 423, 424, 425, 426, 265, 427, 129, 126, 130, 346, 296, 297, 298, 299, 247, 248, 249, 250, 251, 252, 253, 254, 255, 256, 257, 123, 124, 125, 258, 259, 260, 261, 262, 263, 264, 266, 267, 268, 269, 270, 271, 272, 273, 274, 275, 276, 277, 278, 279, 280, 281, 127, 128, 428, 429, 430, 431, 345, 144, 132, 432, 133, 433, 434, 435, 436, 437, 143, 438, 439, 440, 441, 442, 443, 444, 445, 446, 447, 448, 449, 912, 913, 914, 915, 141, 139, 1033, 1034, 1035, 1036, 1037, 1038, 1039, 1040, 1041, 1042, 1043, 1044, 1045, 1046, 1047, 1048, 1049, 1050, 1051, 1052, 1053, 1054, 1055, 1056, 1057, 1058, 1059, 1060, 1061, 1062, 1063, 1064, 1065, 1066] (by decide +kernel) (by decide +kernel)
set_option maxRecDepth 20000 in
theorem gL_law_X10_write : GoodIn wsL_law (wsV RL 151 RX10 yX10_write wsX10_write) := goodIn_app (goodIn_of _ (by decide +kernel)) ggL_law_X10_write
set_option maxRecDepth 20000 in
theorem ggL_law_X9_count : GoodIn wsL_law wsX9_count := goodIn_r _ [952, 20, 286, 24, 304, 28, 324, 13, 149, 528, 32, 667, 51, 756, 757, 758, 759, 760, 761, 762, 1015, 1016, 1017, 1018, 1019, 1020, 1021, 1022, 1023, 1024, 1025, 1026, 1027, 1028, 1029, 1030, 1031, 1032, 1067, 1068, 1069, 1070, 1071, 1072, 1073, 1074, 1075, 1087, 1088, 1076, 1077, 1078] (by decide +kernel) (by decide +kernel)
set_option maxRecDepth 20000 in
theorem gL_law_X9_count : GoodIn wsL_law (wsV RL 152 RX9 yX9_count wsX9_count) := goodIn_app (goodIn_of _ (by decide +kernel)) ggL_law_X9_count
set_option maxRecDepth 20000 in
theorem ggL_law_X10_count : GoodIn wsL_law wsX10_count := goodIn_r _ [956, 123, 679, 720, 957, 958, 959, 5, 960, 255, 125, 265, 277, 296, 297, 298, 299, 247, 248, 249, 250, 251, 252, 253, 254, 256, 257, 124, 258, 259, 260, 261, 262, 263, 264, 126, 266, 267, 268, 269, 270, 271, 272, 273, 274, 275, 276, 278, 279, 280, 281, 127, 128, 220, 221, 222, 1033, 1034, 1035, 1036, 1037, 1038, 1039, 1040, 1041, 1042, 1043, 1044, 1045, 1046, 1047, 1048, 1049, 1050, 1051, 1052, 1053, 1054, 1055, 1056, 1057, 1058, 1059, 1060, 1061, 1062, 1063, 1064, 1065, 1066] (by decide +kernel) (by decide +kernel)
set_option maxRecDepth 20000 in
theorem gL_law_X10_count : GoodIn wsL_law (wsV RL 155 RX10 yX10_count wsX10_count) := goodIn_app (goodIn_of _ (by decide +kernel)) ggL_law_X10_count
