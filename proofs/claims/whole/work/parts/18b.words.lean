set_option maxRecDepth 20000 in
theorem inr_27 : ∀ w ∈ wsL_law0_r27, w ∈ lw_tbl := mem_r _ [637, 646, 648, 24, 649, 1176, 1177, 1178, 1179, 1180, 1182, 57, 1183, 1184, 1186, 58, 1187, 1188, 1190, 59, 1191, 650, 651, 652] (by decide +kernel)
set_option maxRecDepth 20000 in
theorem inr_28 : ∀ w ∈ wsL_law0_r28, w ∈ lw_tbl := mem_r _ [653, 654, 655, 656, 657, 1192, 1193, 1194, 1195, 658, 659, 660, 661, 662, 663, 664, 665, 1196, 1197, 1198, 1199, 666, 667, 668] (by decide +kernel)
set_option maxRecDepth 20000 in
theorem inr_29 : ∀ w ∈ wsL_law0_r29, w ∈ lw_tbl := mem_r _ [669, 1200, 1201, 1202, 1203, 1204, 1206, 60, 1207, 670, 671, 672, 673, 674, 676, 25, 677, 678, 679, 680, 681, 682, 684, 26] (by decide +kernel)
set_option maxRecDepth 20000 in
theorem inr_30 : ∀ w ∈ wsL_law0_r30, w ∈ lw_tbl := mem_r _ [685, 1208, 1209, 1210, 1211, 1212, 1214, 61, 1215, 1216, 686, 687, 688, 689, 690, 692, 27, 693, 1217, 1218, 1219, 1220, 694, 695] (by decide +kernel)
set_option maxRecDepth 20000 in
theorem inr_31 : ∀ w ∈ wsL_law0_r31, w ∈ lw_tbl := mem_r _ [696, 697, 1221, 1222, 1223, 1224, 1225, 1226, 698, 699, 700, 701, 702, 703, 704, 705, 1227, 1228, 1229, 1230, 706, 707, 708, 709] (by decide +kernel)
set_option maxRecDepth 20000 in
theorem inr_32 : ∀ w ∈ wsL_law0_r32, w ∈ lw_tbl := mem_r _ [710, 711, 712, 713, 1231, 1232, 1233, 1234, 1235, 1237, 62, 1238, 714, 715, 716, 717, 718, 719, 720, 721, 722, 723, 1239, 1240] (by decide +kernel)
set_option maxRecDepth 20000 in
theorem inr_33 : ∀ w ∈ wsL_law0_r33, w ∈ lw_tbl := mem_r _ [1241, 1242, 1243, 1245, 63, 1246, 724, 725, 726, 727, 1247, 1248, 1249, 1250, 728, 729, 730, 731, 732, 733, 734, 735, 736, 738] (by decide +kernel)
set_option maxRecDepth 20000 in
theorem inr_34 : ∀ w ∈ wsL_law0_r34, w ∈ lw_tbl := mem_r _ [28, 739, 740, 741, 743, 29, 744, 745, 746, 748, 30, 749, 750, 752, 31, 753, 754, 756, 32, 757, 758, 760, 33, 761] (by decide +kernel)
set_option maxRecDepth 20000 in
theorem inr_35 : ∀ w ∈ wsL_law0_r35, w ∈ lw_tbl := mem_r _ [1251, 1252, 1253, 1254, 1255, 1257, 64, 1258, 1259, 1261, 65, 1262, 762, 763, 764, 765, 1263, 1264, 1265, 1266, 766, 767, 768, 769] (by decide +kernel)
set_option maxRecDepth 20000 in
theorem inr_36 : ∀ w ∈ wsL_law0_r36, w ∈ lw_tbl := mem_r _ [770, 771, 772, 773, 1267, 1268, 1269, 1270, 774, 775, 776, 777, 778, 779, 780, 781, 782, 783, 785, 34, 786, 787, 789, 35] (by decide +kernel)
set_option maxRecDepth 20000 in
theorem inr_37 : ∀ w ∈ wsL_law0_r37, w ∈ lw_tbl := mem_r _ [790, 791, 792, 793, 795, 36, 796, 797, 799, 37, 800, 801, 802, 803, 804, 805, 1271, 1272, 1273, 1274, 1275, 1277, 66, 1278] (by decide +kernel)
set_option maxRecDepth 20000 in
theorem inr_38 : ∀ w ∈ wsL_law0_r38, w ∈ lw_tbl := mem_r _ [1279, 1281, 67, 1282, 1283, 1284, 1285, 806, 807, 808, 809, 1286, 1287, 1288, 1289, 810, 811, 812, 813, 814, 815, 816, 817, 818] (by decide +kernel)
set_option maxRecDepth 20000 in
theorem inr_39 : ∀ w ∈ wsL_law0_r39, w ∈ lw_tbl := mem_r _ [819, 820, 821, 823, 38, 824, 825, 826, 828, 39, 829, 830, 832, 833, 834, 836, 40, 837, 838, 839, 840, 841, 842, 843] (by decide +kernel)
set_option maxRecDepth 20000 in
theorem inr_40 : ∀ w ∈ wsL_law0_r40, w ∈ lw_tbl := mem_r _ [1290, 1291, 1292, 1293, 972, 1294, 1295, 1296, 1297, 1299, 68, 1300, 973, 974, 1301, 1303, 69, 1304, 844, 845, 846, 847, 848, 849] (by decide +kernel)
set_option maxRecDepth 20000 in
theorem inr_41 : ∀ w ∈ wsL_law0_r41, w ∈ lw_tbl := mem_r _ [850, 851, 852, 853, 854, 855, 1305, 1306, 1307, 1308, 930, 931, 932, 933, 934, 935, 936, 1309, 1310, 1311, 1312] (by decide +kernel)
set_option maxRecDepth 20000 in
theorem inu_X10 : ∀ w ∈ wsX100, w ∈ lw_tbl := mem_r _ [302, 304, 306, 308, 310, 312, 314, 316, 318, 320, 322, 324, 326, 328, 330] (by decide +kernel)
set_option maxRecDepth 20000 in
theorem inu_X11 : ∀ w ∈ wsX110, w ∈ lw_tbl := mem_r _ [975, 977, 979, 981, 983, 985, 987, 989, 991, 993, 995, 997, 999, 1001, 1003, 1005, 1007, 1009, 1011, 1013, 1015, 1017, 1019, 1021, 1023, 1025, 1027, 1029, 1031] (by decide +kernel)
set_option maxRecDepth 20000 in
theorem inu_X7 : ∀ w ∈ wsX70, w ∈ lw_tbl := mem_r _ [114, 116] (by decide +kernel)
set_option maxRecDepth 20000 in
theorem inu_X9 : ∀ w ∈ wsX90, w ∈ lw_tbl := mem_r _ [131, 133] (by decide +kernel)
set_option maxRecDepth 20000 in
theorem inu_X0 : ∀ w ∈ wsX00, w ∈ lw_tbl := mem_r _ [150, 152, 154, 156, 158, 160] (by decide +kernel)
set_option maxRecDepth 20000 in
theorem inu_X1 : ∀ w ∈ wsX10, w ∈ lw_tbl := mem_r _ [172, 174, 176] (by decide +kernel)
set_option maxRecDepth 20000 in
theorem inu_X3 : ∀ w ∈ wsX30, w ∈ lw_tbl := mem_r _ [189, 191, 193, 195] (by decide +kernel)
set_option maxRecDepth 20000 in
theorem inu_X4 : ∀ w ∈ wsX40, w ∈ lw_tbl := mem_r _ [213, 215, 217, 219, 221, 223] (by decide +kernel)
set_option maxRecDepth 20000 in
theorem inu_X8 : ∀ w ∈ wsX80, w ∈ lw_tbl := mem_r _ [235, 237, 239] (by decide +kernel)
set_option maxRecDepth 20000 in
theorem inu_X6 : ∀ w ∈ wsX60, w ∈ lw_tbl := mem_r _ [254, 256, 258, 260, 262, 264] (by decide +kernel)
set_option maxRecDepth 20000 in
theorem inu_X2 : ∀ w ∈ wsX20, w ∈ lw_tbl := mem_r _ [280, 282, 284] (by decide +kernel)
theorem wsL_law_in0 : ∀ w ∈ wsL_law0, w ∈ lw_tbl := by
  unfold wsL_law0
  exact mem_app (mem_app (mem_app (mem_app (mem_app (mem_app (mem_app (mem_app (mem_app (mem_app (mem_app (mem_app (mem_app inr_1 (mem_app inr_2 (mem_app inr_3 (mem_app inr_4 (mem_app inr_5 (mem_app inr_6 (mem_app inr_7 (mem_app inr_8 (mem_app inr_9 (mem_app inr_10 (mem_app inr_11 (mem_app inr_12 (mem_app inr_13 (mem_app inr_14 (mem_app inr_15 (mem_app inr_16 (mem_app inr_17 (mem_app inr_18 (mem_app inr_19 (mem_app inr_20 (mem_app inr_21 (mem_app inr_22 (mem_app inr_23 (mem_app inr_24 (mem_app inr_25 (mem_app inr_26 (mem_app inr_27 (mem_app inr_28 (mem_app inr_29 (mem_app inr_30 (mem_app inr_31 (mem_app inr_32 (mem_app inr_33 (mem_app inr_34 (mem_app inr_35 (mem_app inr_36 (mem_app inr_37 (mem_app inr_38 (mem_app inr_39 (mem_app inr_40 inr_41)))))))))))))))))))))))))))))))))))))))) inu_X10) inu_X11) inu_X7) inu_X9) inu_X0) inu_X1) inu_X3) inu_X4) inu_X8) inu_X6) inu_X2) (fun _ h => nomatch h)
/-- the words of a throw; the class's constructor has its own number for its super's (JvmDerived/Shelf42/F29a: ownAtomsX) -/
def vy_atS (own : String) (ic : Nat) (X : String) (ix : Nat) (rx : ByteArray) (names : List String) : List Cond := (Bundle.ownAtomsX own ic X ix rx names).filter vx_no
def nyW : List Cond := (vy_atS RX10 111 "java/util/NoSuchElementException" 13 prog_21_method_4_code ["java/lang/RuntimeException", "java/lang/Exception"]).filter goodWord
set_option maxRecDepth 20000 in
theorem nyW_in : ∀ w ∈ nyW, w ∈ lw_tbl := mem_r _ [85, 886, 895, 897, 900, 902, 887, 888, 96, 97, 889, 894, 898, 918, 876, 919, 878, 920, 880, 890, 892, 882, 914, 915, 917, 882, 905, 906, 907, 908, 908, 909, 910, 911, 911, 912, 913, 914, 904, 865, 873, 874, 875, 877, 879, 881, 885, 884, 883] (by decide +kernel)
def wsN_law : List Cond := wsL_law0 ++ nyW
def wsY_at : List Cond := .code yX10_at cX10_at 3 (some .int) :: ([.classLink RX10 107 "java/util/NoSuchElementException", .initialized "java/util/NoSuchElementException", .fieldLink RX10 14 "RackBench" "current" "LRackBench$Table;", .methodLink RX10 99 yX7_has, .instanceMethod yX7_has, .selects RX7 yX7_has yX7_has, .initialized RX7, .code yX7_has cX7_has 2 (some .boolean), .fieldLink RX7 15 "RackBench$Table" "n" "I", .methodLink RX10 114 yX7_turned, .instanceMethod yX7_turned, .selects RX7 yX7_turned yX7_turned, .code yX7_turned cX7_turned 3 (some .int), .fieldLink RX7 9 "RackBench$Table" "cells" "[I"] ++ wsX100 ++ wsX70 ++ nyW)
def wsY_row : List Cond := .code yX10_row cX10_row 2 (some .int) :: ([.classLink RX10 107 "java/util/NoSuchElementException", .initialized "java/util/NoSuchElementException", .fieldLink RX10 91 "RackBench" "toldCount" "I", .fieldLink RX10 88 "RackBench" "told" "[I"] ++ wsX100 ++ nyW)
def wsYL_at : List Cond := .codeWith yL_at cL_at 5 (some .int) [(0, 10, 13, 13)] :: ([.classLink RL 13 "java/util/NoSuchElementException", .methodLink RL 7 yX10_at, .instanceMethod yX10_at, .selects RX10 yX10_at yX10_at, .initialized RX10, .code yX10_at cX10_at 3 (some .int), .classLink RX10 107 "java/util/NoSuchElementException", .initialized "java/util/NoSuchElementException", .fieldLink RX10 14 "RackBench" "current" "LRackBench$Table;", .methodLink RX10 99 yX7_has, .instanceMethod yX7_has, .selects RX7 yX7_has yX7_has, .initialized RX7, .code yX7_has cX7_has 2 (some .boolean), .fieldLink RX7 15 "RackBench$Table" "n" "I", .methodLink RX10 114 yX7_turned, .instanceMethod yX7_turned, .selects RX7 yX7_turned yX7_turned, .code yX7_turned cX7_turned 3 (some .int), .fieldLink RX7 9 "RackBench$Table" "cells" "[I"] ++ wsX100 ++ wsX70 ++ nyW)
def wsYL_row : List Cond := .codeWith yL_row cL_row 4 (some .int) [(0, 9, 12, 13)] :: ([.classLink RL 13 "java/util/NoSuchElementException", .methodLink RL 15 yX10_row, .instanceMethod yX10_row, .selects RX10 yX10_row yX10_row, .initialized RX10, .code yX10_row cX10_row 2 (some .int), .classLink RX10 107 "java/util/NoSuchElementException", .initialized "java/util/NoSuchElementException", .fieldLink RX10 91 "RackBench" "toldCount" "I", .fieldLink RX10 88 "RackBench" "told" "[I"] ++ wsX100 ++ nyW)
set_option maxRecDepth 20000 in
theorem ggY_at_X7_has : GoodIn wsY_at wsX7_has := goodIn_r _ [8, 9, 30, 31] (by decide +kernel) (by decide +kernel)
set_option maxRecDepth 20000 in
theorem gY_at_X7_has : GoodIn wsY_at (wsV RX10 99 RX7 yX7_has wsX7_has) := goodIn_app (goodIn_of _ (by decide +kernel)) ggY_at_X7_has
set_option maxRecDepth 20000 in
theorem ggY_at_X7_turned : GoodIn wsY_at wsX7_turned := goodIn_r _ [13, 14, 30, 31] (by decide +kernel) (by decide +kernel)
set_option maxRecDepth 20000 in
theorem gY_at_X7_turned : GoodIn wsY_at (wsV RX10 114 RX7 yX7_turned wsX7_turned) := goodIn_app (goodIn_of _ (by decide +kernel)) ggY_at_X7_turned
