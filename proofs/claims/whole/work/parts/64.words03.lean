set_option maxRecDepth 20000 in
theorem gl_r37 : GoodIn lw_tbl wsL_law_r37 := goodIn_r _ [705, 706, 707, 708, 709, 710, 711, 712, 713, 714, 715, 1212, 1213, 1214, 1215, 716, 717, 718, 719, 265, 1216, 1217, 1218, 1219] (by decide +kernel) (by decide +kernel)
set_option maxRecDepth 20000 in
theorem gl_r38 : GoodIn lw_tbl wsL_law_r38 := goodIn_r _ [720, 721, 722, 723, 724, 725, 726, 727, 728, 729, 730, 731, 732, 733, 734, 735, 1220, 1221, 1222, 1223, 1224, 1226, 66, 1227] (by decide +kernel) (by decide +kernel)
set_option maxRecDepth 20000 in
theorem gl_r39 : GoodIn lw_tbl wsL_law_r39 := goodIn_r _ [1228, 1230, 67, 1231, 736, 737, 738, 739, 740, 258, 1232, 1233, 1234, 1235, 1236, 741, 742, 743, 744, 262, 746, 748, 747, 87] (by decide +kernel) (by decide +kernel)
set_option maxRecDepth 20000 in
theorem gl_r40 : GoodIn lw_tbl wsL_law_r40 := goodIn_r _ [745, 1237, 1238, 1239, 1240, 749, 750, 751, 752, 1241, 1242, 1243, 1244, 753, 754, 755, 756, 1245, 1246, 1247, 1248, 1249, 1251, 68] (by decide +kernel) (by decide +kernel)
set_option maxRecDepth 20000 in
theorem gl_r41 : GoodIn lw_tbl wsL_law_r41 := goodIn_r _ [1252, 757, 758, 759, 760, 761, 762, 763, 764, 765, 767, 21, 768, 769, 770, 771, 772, 774, 22, 775, 776, 777, 778, 779] (by decide +kernel) (by decide +kernel)
set_option maxRecDepth 20000 in
theorem gl_r42 : GoodIn lw_tbl wsL_law_r42 := goodIn_r _ [780, 782, 23, 783, 784, 786, 787, 788, 789, 790, 791, 792, 793, 794, 795, 796, 1253, 1254, 1255, 1256, 1257, 1258, 1259, 1260] (by decide +kernel) (by decide +kernel)
set_option maxRecDepth 20000 in
theorem gl_r43 : GoodIn lw_tbl wsL_law_r43 := goodIn_r _ [1262, 69, 1263, 1264, 1266, 70, 1267] (by decide +kernel) (by decide +kernel)
set_option maxRecDepth 20000 in
theorem gl_wsX90 : GoodIn lw_tbl wsX90 := goodIn_of _ (by decide +kernel)
set_option maxRecDepth 20000 in
theorem gl_wsX100 : GoodIn lw_tbl wsX100 := goodIn_of _ (by decide +kernel)
set_option maxRecDepth 20000 in
theorem gl_wsX80 : GoodIn lw_tbl wsX80 := goodIn_of _ (by decide +kernel)
set_option maxRecDepth 20000 in
theorem gl_wsX40 : GoodIn lw_tbl wsX40 := goodIn_of _ (by decide +kernel)
set_option maxRecDepth 20000 in
theorem gl_wsX70 : GoodIn lw_tbl wsX70 := goodIn_of _ (by decide +kernel)
