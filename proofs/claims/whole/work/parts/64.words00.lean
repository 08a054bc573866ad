set_option maxRecDepth 20000 in
theorem gl_r1 : GoodIn lw_tbl wsL_law_r1 := goodIn_r _ [88, 89, 72, 797, 798, 83, 90, 91, 92, 93, 94, 95, 96, 275, 121, 276, 277, 98, 99, 73, 278, 122, 123, 74] (by decide +kernel) (by decide +kernel)
set_option maxRecDepth 20000 in
theorem gl_r2 : GoodIn lw_tbl wsL_law_r2 := goodIn_r _ [279, 139, 140, 75, 280, 158, 159, 76, 281, 175, 282, 177, 178, 77, 283, 199, 200, 78, 284, 285, 286, 287, 214, 215] (by decide +kernel) (by decide +kernel)
set_option maxRecDepth 20000 in
theorem gl_r3 : GoodIn lw_tbl wsL_law_r3 := goodIn_r _ [79, 288, 289, 290, 291, 292, 227, 80, 228, 251, 82, 101, 102, 103, 104, 106, 109, 110, 125, 126, 127, 128, 131, 142] (by decide +kernel) (by decide +kernel)
set_option maxRecDepth 20000 in
theorem gl_r4 : GoodIn lw_tbl wsL_law_r4 := goodIn_r _ [143, 144, 145, 147, 149, 161, 162, 163, 164, 165, 166, 180, 181, 182, 183, 197, 184, 198, 186, 187, 202, 203, 204, 205] (by decide +kernel) (by decide +kernel)
set_option maxRecDepth 20000 in
theorem gl_r5 : GoodIn lw_tbl wsL_law_r5 := goodIn_r _ [207, 217, 218, 219, 220, 221, 230, 231, 232, 233, 241, 234, 235, 81, 236, 237, 253, 254, 255, 256, 259, 261, 263, 799] (by decide +kernel) (by decide +kernel)
set_option maxRecDepth 20000 in
theorem gl_r6 : GoodIn lw_tbl wsL_law_r6 := goodIn_r _ [800, 801, 802, 803, 804, 808, 810, 812, 813, 819, 820, 821, 822, 823, 826, 828, 829, 830, 831, 832, 833, 834, 835, 815] (by decide +kernel) (by decide +kernel)
set_option maxRecDepth 20000 in
theorem gl_r7 : GoodIn lw_tbl wsL_law_r7 := goodIn_r _ [816, 330, 331, 332, 333, 245, 334, 336, 0, 337, 338, 339, 340, 341, 342, 344, 1, 345, 346, 347, 348, 349, 244, 240] (by decide +kernel) (by decide +kernel)
set_option maxRecDepth 20000 in
theorem gl_r8 : GoodIn lw_tbl wsL_law_r8 := goodIn_r _ [350, 352, 2, 353, 354, 355, 356, 357, 359, 3, 360, 361, 363, 4, 364, 365, 366, 367, 368, 242, 238, 369, 370, 371] (by decide +kernel) (by decide +kernel)
set_option maxRecDepth 20000 in
theorem gl_r9 : GoodIn lw_tbl wsL_law_r9 := goodIn_r _ [372, 374, 5, 375, 376, 377, 378, 379, 243, 239, 380, 381, 382, 383, 385, 6, 386, 387, 389, 7, 390, 906, 907, 908] (by decide +kernel) (by decide +kernel)
set_option maxRecDepth 20000 in
theorem gl_r10 : GoodIn lw_tbl wsL_law_r10 := goodIn_r _ [909, 910, 911, 912, 913, 914, 915, 391, 392, 393, 394, 916, 917, 918, 919, 395, 396, 397, 398, 920, 921, 922, 923, 399] (by decide +kernel) (by decide +kernel)
set_option maxRecDepth 20000 in
theorem gl_r11 : GoodIn lw_tbl wsL_law_r11 := goodIn_r _ [400, 401, 402, 924, 925, 926, 927, 928, 930, 24, 931, 932, 934, 25, 935, 807, 806, 805, 936, 937, 938, 939, 941, 26] (by decide +kernel) (by decide +kernel)
set_option maxRecDepth 20000 in
theorem gl_r12 : GoodIn lw_tbl wsL_law_r12 := goodIn_r _ [942, 809, 943, 945, 27, 946, 947, 948, 949, 950, 952, 28, 953, 811, 954, 956, 29, 957, 403, 404, 405, 406, 108, 105] (by decide +kernel) (by decide +kernel)
