set_option maxRecDepth 20000 in
theorem gl_r25 : GoodIn lw_tbl wsL_law_r25 := goodIn_r _ [1094, 51, 1095, 544, 545, 546, 547, 548, 549, 551, 12, 552, 553, 554, 555, 556, 1096, 1097, 1098, 1099, 1100, 1102, 52, 1103] (by decide +kernel) (by decide +kernel)
set_option maxRecDepth 20000 in
theorem gl_r26 : GoodIn lw_tbl wsL_law_r26 := goodIn_r _ [1104, 1106, 53, 1107, 1108, 1110, 54, 1111, 557, 558, 559, 560, 561, 563, 13, 564, 565, 566, 84, 567, 568, 569, 570, 571] (by decide +kernel) (by decide +kernel)
set_option maxRecDepth 20000 in
theorem gl_r27 : GoodIn lw_tbl wsL_law_r27 := goodIn_r _ [572, 573, 1112, 1113, 1114, 1115, 1116, 1118, 55, 1119, 1120, 1122, 56, 1123, 574, 575, 576, 577, 578, 1124, 1125, 1126, 1127, 1128] (by decide +kernel) (by decide +kernel)
set_option maxRecDepth 20000 in
theorem gl_r28 : GoodIn lw_tbl wsL_law_r28 := goodIn_r _ [1130, 57, 1131, 579, 580, 581, 582, 1132, 1133, 1134, 1135, 1136, 1138, 58, 1139, 583, 584, 585, 586, 167, 587, 588, 589, 591] (by decide +kernel) (by decide +kernel)
set_option maxRecDepth 20000 in
theorem gl_r29 : GoodIn lw_tbl wsL_law_r29 := goodIn_r _ [592, 593, 594, 1140, 1141, 1142, 1143, 827, 595, 596, 597, 598, 1144, 1145, 1146, 1147, 599, 600, 601, 602, 260, 603, 605, 14] (by decide +kernel) (by decide +kernel)
set_option maxRecDepth 20000 in
theorem gl_r30 : GoodIn lw_tbl wsL_law_r30 := goodIn_r _ [606, 607, 609, 15, 610, 611, 612, 613, 614, 264, 257, 615, 616, 1148, 1149, 1150, 1151, 1152, 1153, 1154, 1155, 1157, 59, 1158] (by decide +kernel) (by decide +kernel)
set_option maxRecDepth 20000 in
theorem gl_r31 : GoodIn lw_tbl wsL_law_r31 := goodIn_r _ [836, 1159, 617, 618, 619, 620, 621, 623, 16, 624, 625, 626, 627, 628, 1160, 1161, 1162, 1163, 1164, 1166, 60, 1167, 1168, 1170] (by decide +kernel) (by decide +kernel)
set_option maxRecDepth 20000 in
theorem gl_r32 : GoodIn lw_tbl wsL_law_r32 := goodIn_r _ [61, 1171, 629, 630, 631, 632, 633, 635, 17, 636, 637, 638, 639, 640, 85, 641, 642, 643, 644, 1172, 1173, 1174, 1175, 1176] (by decide +kernel) (by decide +kernel)
set_option maxRecDepth 20000 in
theorem gl_r33 : GoodIn lw_tbl wsL_law_r33 := goodIn_r _ [1178, 62, 1179, 645, 646, 647, 648, 649, 650, 86, 651, 652, 654, 18, 655, 656, 658, 19, 659, 660, 1180, 1181, 1182, 1183] (by decide +kernel) (by decide +kernel)
set_option maxRecDepth 20000 in
theorem gl_r34 : GoodIn lw_tbl wsL_law_r34 := goodIn_r _ [1184, 1186, 63, 1187, 661, 662, 663, 664, 665, 693, 666, 668, 20, 669, 684, 670, 671, 672, 673, 674, 675, 676, 677, 678] (by decide +kernel) (by decide +kernel)
set_option maxRecDepth 20000 in
theorem gl_r35 : GoodIn lw_tbl wsL_law_r35 := goodIn_r _ [679, 680, 681, 682, 683, 685, 686, 687, 688, 689, 690, 691, 692, 1188, 1189, 1190, 1191, 1192, 1194, 64, 1195, 1196, 1197, 1198] (by decide +kernel) (by decide +kernel)
set_option maxRecDepth 20000 in
theorem gl_r36 : GoodIn lw_tbl wsL_law_r36 := goodIn_r _ [1199, 1200, 1201, 1202, 694, 695, 696, 697, 698, 699, 700, 701, 702, 1203, 1204, 1205, 1206, 1207, 1209, 65, 1210, 1211, 703, 704] (by decide +kernel) (by decide +kernel)
