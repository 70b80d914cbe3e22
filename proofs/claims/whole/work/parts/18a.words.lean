/-! The law's words stand among the tables' words: by their places, some two dozen at a time. -/
theorem mem_r {big : List Cond} (ws : List Cond) (ps : List Nat) (hp : ws = ps.filterMap (fun i => big[i]?)) : ∀ w ∈ ws, w ∈ big := by
  intro w hw
  rw [hp] at hw
  obtain ⟨i, -, hi⟩ := List.mem_filterMap.mp hw
  exact List.mem_of_getElem? hi
theorem mem_app {big a b : List Cond} (ha : ∀ w ∈ a, w ∈ big) (hb : ∀ w ∈ b, w ∈ big) : ∀ w ∈ a ++ b, w ∈ big := fun w h => (List.mem_append.mp h).elim (ha w) (hb w)
set_option maxRecDepth 20000 in
theorem inr_1 : ∀ w ∈ wsL_law0_r1, w ∈ lw_tbl := mem_r _ [90, 91, 71, 938, 939, 81, 1313, 92, 93, 94, 95, 96, 97, 98, 99, 72, 287, 288, 289, 290, 121, 122, 73, 291] (by decide +kernel)
set_option maxRecDepth 20000 in
theorem inr_2 : ∀ w ∈ wsL_law0_r2, w ∈ lw_tbl := mem_r _ [136, 137, 74, 292, 163, 164, 75, 293, 179, 180, 76, 294, 198, 199, 77, 295, 226, 227, 78, 296, 242, 243, 79, 297] (by decide +kernel)
set_option maxRecDepth 20000 in
theorem inr_3 : ∀ w ∈ wsL_law0_r3, w ∈ lw_tbl := mem_r _ [267, 268, 80, 298, 119, 299, 300, 301, 100, 101, 102, 103, 104, 105, 124, 125, 126, 127, 128, 139, 140, 141, 142, 143] (by decide +kernel)
set_option maxRecDepth 20000 in
theorem inr_4 : ∀ w ∈ wsL_law0_r4, w ∈ lw_tbl := mem_r _ [144, 145, 146, 148, 166, 167, 168, 169, 170, 171, 182, 183, 184, 185, 186, 187, 188, 201, 202, 203, 204, 206, 208, 209] (by decide +kernel)
set_option maxRecDepth 20000 in
theorem inr_5 : ∀ w ∈ wsL_law0_r5, w ∈ lw_tbl := mem_r _ [210, 211, 212, 205, 229, 230, 231, 232, 233, 234, 245, 246, 247, 248, 249, 250, 251, 252, 253, 270, 271, 272, 273, 277] (by decide +kernel)
set_option maxRecDepth 20000 in
theorem inr_6 : ∀ w ∈ wsL_law0_r6, w ∈ lw_tbl := mem_r _ [278, 275, 279, 276, 940, 941, 942, 943, 947, 948, 949, 950, 951, 952, 953, 954, 955, 956, 958, 959, 944, 1034, 960, 961] (by decide +kernel)
set_option maxRecDepth 20000 in
theorem inr_7 : ∀ w ∈ wsL_law0_r7, w ∈ lw_tbl := mem_r _ [962, 963, 964, 945, 965, 966, 968, 969, 970, 971, 333, 334, 335, 336, 337, 338, 339, 340, 344, 341, 342, 343, 346, 347] (by decide +kernel)
set_option maxRecDepth 20000 in
theorem inr_8 : ∀ w ∈ wsL_law0_r8, w ∈ lw_tbl := mem_r _ [82, 348, 350, 351, 352, 353, 354, 355, 356, 357, 358, 359, 360, 361, 362, 363, 364, 365, 366, 367, 369, 0, 370, 371] (by decide +kernel)
set_option maxRecDepth 20000 in
theorem inr_9 : ∀ w ∈ wsL_law0_r9, w ∈ lw_tbl := mem_r _ [372, 373, 374, 375, 377, 376, 83, 378, 379, 380, 381, 382, 383, 84, 384, 1039, 1040, 1041, 1042, 946, 1043, 1044, 1045, 1046] (by decide +kernel)
set_option maxRecDepth 20000 in
theorem inr_10 : ∀ w ∈ wsL_law0_r10, w ∈ lw_tbl := mem_r _ [1047, 1049, 42, 1050, 385, 386, 387, 388, 389, 390, 391, 392, 393, 1051, 1052, 1053, 1054, 1055, 1057, 43, 1058, 856, 857, 70] (by decide +kernel)
set_option maxRecDepth 20000 in
theorem inr_11 : ∀ w ∈ wsL_law0_r11, w ∈ lw_tbl := mem_r _ [858, 859, 860, 861, 862, 863, 864, 88, 501, 456, 457, 458, 1059, 1060, 1061, 1062, 1063, 1065, 44, 1066, 1067, 1069, 45, 1070] (by decide +kernel)
set_option maxRecDepth 20000 in
theorem inr_12 : ∀ w ∈ wsL_law0_r12, w ∈ lw_tbl := mem_r _ [1035, 1036, 1037, 1038, 394, 395, 396, 397, 398, 399, 400, 401, 402, 89, 403, 1071, 1072, 1073, 1074, 1075, 1076, 1077, 1078, 1080] (by decide +kernel)
set_option maxRecDepth 20000 in
theorem inr_13 : ∀ w ∈ wsL_law0_r13, w ∈ lw_tbl := mem_r _ [46, 1081, 1082, 404, 1083, 1084, 1085, 1086, 1087, 1088, 1089, 1090, 1091, 1092, 405, 406, 407, 408, 409, 411, 1, 412, 413, 414] (by decide +kernel)
set_option maxRecDepth 20000 in
theorem inr_14 : ∀ w ∈ wsL_law0_r14, w ∈ lw_tbl := mem_r _ [415, 416, 417, 418, 419, 420, 421, 422, 423, 424, 426, 2, 427, 1093, 1094, 1095, 1096, 1097, 1098, 1100, 47, 1101, 1102, 1103] (by decide +kernel)
set_option maxRecDepth 20000 in
theorem inr_15 : ∀ w ∈ wsL_law0_r15, w ∈ lw_tbl := mem_r _ [1104, 428, 429, 430, 431, 432, 433, 434, 1105, 1106, 1107, 1108, 1109, 435, 436, 437, 438, 439, 441, 3, 442, 1110, 1111, 1112] (by decide +kernel)
set_option maxRecDepth 20000 in
theorem inr_16 : ∀ w ∈ wsL_law0_r16, w ∈ lw_tbl := mem_r _ [1113, 1114, 1116, 48, 1117, 443, 444, 445, 446, 1118, 1119, 1120, 1121, 967, 957, 447, 448, 449, 450, 451, 452, 453, 454, 455] (by decide +kernel)
set_option maxRecDepth 20000 in
theorem inr_17 : ∀ w ∈ wsL_law0_r17, w ∈ lw_tbl := mem_r _ [459, 461, 4, 462, 463, 464, 465, 466, 467, 469, 5, 470, 1122, 1123, 1124, 1125, 1126, 1128, 49, 1129, 1130, 1132, 50, 1133] (by decide +kernel)
set_option maxRecDepth 20000 in
theorem inr_18 : ∀ w ∈ wsL_law0_r18, w ∈ lw_tbl := mem_r _ [1134, 1136, 51, 1137, 471, 472, 473, 474, 475, 476, 477, 478, 479, 480, 481, 483, 6, 484, 485, 486, 487, 488, 489, 490] (by decide +kernel)
set_option maxRecDepth 20000 in
theorem inr_19 : ∀ w ∈ wsL_law0_r19, w ∈ lw_tbl := mem_r _ [491, 492, 493, 495, 7, 496, 497, 498, 499, 500, 502, 503, 504, 505, 506, 507, 89, 508, 509, 510, 511, 512, 513, 514] (by decide +kernel)
set_option maxRecDepth 20000 in
theorem inr_20 : ∀ w ∈ wsL_law0_r20, w ∈ lw_tbl := mem_r _ [515, 516, 517, 518, 519, 520, 522, 8, 523, 524, 525, 526, 527, 1138, 1139, 1140, 1141, 1142, 1143, 1145, 52, 1146, 1147, 1149] (by decide +kernel)
set_option maxRecDepth 20000 in
theorem inr_21 : ∀ w ∈ wsL_law0_r21, w ∈ lw_tbl := mem_r _ [53, 1150, 1151, 1153, 54, 1154, 1155, 1156, 1158, 55, 1159, 528, 529, 530, 531, 532, 533, 534, 535, 1160, 1161, 1162, 1163, 536] (by decide +kernel)
set_option maxRecDepth 20000 in
theorem inr_22 : ∀ w ∈ wsL_law0_r22, w ∈ lw_tbl := mem_r _ [537, 538, 539, 540, 541, 542, 543, 544, 545, 546, 547, 549, 9, 550, 551, 552, 553, 554, 556, 10, 557, 558, 559, 560] (by decide +kernel)
set_option maxRecDepth 20000 in
theorem inr_23 : ∀ w ∈ wsL_law0_r23, w ∈ lw_tbl := mem_r _ [561, 562, 564, 11, 565, 1164, 1165, 1166, 1167, 566, 567, 568, 569, 570, 571, 572, 573, 574, 575, 576, 579, 577, 578, 580] (by decide +kernel)
set_option maxRecDepth 20000 in
theorem inr_24 : ∀ w ∈ wsL_law0_r24, w ∈ lw_tbl := mem_r _ [582, 12, 583, 584, 586, 13, 587, 588, 590, 14, 591, 1168, 1169, 1170, 1171, 1172, 1174, 56, 1175, 592, 593, 594, 595, 596] (by decide +kernel)
set_option maxRecDepth 20000 in
theorem inr_25 : ∀ w ∈ wsL_law0_r25, w ∈ lw_tbl := mem_r _ [597, 598, 599, 600, 601, 602, 604, 15, 605, 606, 607, 608, 609, 610, 611, 612, 613, 615, 16, 616, 617, 619, 17, 620] (by decide +kernel)
set_option maxRecDepth 20000 in
theorem inr_26 : ∀ w ∈ wsL_law0_r26, w ∈ lw_tbl := mem_r _ [621, 623, 18, 624, 625, 626, 628, 19, 642, 644, 23, 645, 630, 632, 20, 633, 638, 640, 22, 641, 629, 634, 636, 21] (by decide +kernel)
