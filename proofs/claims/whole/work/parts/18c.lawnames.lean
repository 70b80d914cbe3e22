theorem wsN_law_in : ∀ w ∈ wsN_law, w ∈ lw_tbl := fun w h => (List.mem_append.mp h).elim (fun h => wsL_law_in0 w h) (fun h => nyW_in w h)
theorem inlX0 : ∀ w ∈ wsX00, w ∈ wsN_law := fun _ h => List.mem_append_left _ (List.mem_append_left _ (List.mem_append_left _ (List.mem_append_left _ (List.mem_append_left _ (List.mem_append_left _ (List.mem_append_left _ (List.mem_append_left _ (List.mem_append_right _ h))))))))
theorem inX0 : ∀ w ∈ wsX00, w ∈ lw_tbl := fun w h => wsN_law_in w (inlX0 w h)
theorem inlX1 : ∀ w ∈ wsX10, w ∈ wsN_law := fun _ h => List.mem_append_left _ (List.mem_append_left _ (List.mem_append_left _ (List.mem_append_left _ (List.mem_append_left _ (List.mem_append_left _ (List.mem_append_left _ (List.mem_append_right _ h)))))))
theorem inX1 : ∀ w ∈ wsX10, w ∈ lw_tbl := fun w h => wsN_law_in w (inlX1 w h)
theorem inlX2 : ∀ w ∈ wsX20, w ∈ wsN_law := fun _ h => List.mem_append_left _ (List.mem_append_left _ (List.mem_append_right _ h))
theorem inX2 : ∀ w ∈ wsX20, w ∈ lw_tbl := fun w h => wsN_law_in w (inlX2 w h)
theorem inlX3 : ∀ w ∈ wsX30, w ∈ wsN_law := fun _ h => List.mem_append_left _ (List.mem_append_left _ (List.mem_append_left _ (List.mem_append_left _ (List.mem_append_left _ (List.mem_append_left _ (List.mem_append_right _ h))))))
theorem inX3 : ∀ w ∈ wsX30, w ∈ lw_tbl := fun w h => wsN_law_in w (inlX3 w h)
theorem inlX4 : ∀ w ∈ wsX40, w ∈ wsN_law := fun _ h => List.mem_append_left _ (List.mem_append_left _ (List.mem_append_left _ (List.mem_append_left _ (List.mem_append_left _ (List.mem_append_right _ h)))))
theorem inX4 : ∀ w ∈ wsX40, w ∈ lw_tbl := fun w h => wsN_law_in w (inlX4 w h)
theorem inX5 : ∀ w ∈ wsX50, w ∈ lw_tbl := by decide +kernel
theorem inlX6 : ∀ w ∈ wsX60, w ∈ wsN_law := fun _ h => List.mem_append_left _ (List.mem_append_left _ (List.mem_append_left _ (List.mem_append_right _ h)))
theorem inX6 : ∀ w ∈ wsX60, w ∈ lw_tbl := fun w h => wsN_law_in w (inlX6 w h)
theorem inlX7 : ∀ w ∈ wsX70, w ∈ wsN_law := fun _ h => List.mem_append_left _ (List.mem_append_left _ (List.mem_append_left _ (List.mem_append_left _ (List.mem_append_left _ (List.mem_append_left _ (List.mem_append_left _ (List.mem_append_left _ (List.mem_append_left _ (List.mem_append_left _ (List.mem_append_right _ h))))))))))
theorem inX7 : ∀ w ∈ wsX70, w ∈ lw_tbl := fun w h => wsN_law_in w (inlX7 w h)
theorem inlX8 : ∀ w ∈ wsX80, w ∈ wsN_law := fun _ h => List.mem_append_left _ (List.mem_append_left _ (List.mem_append_left _ (List.mem_append_left _ (List.mem_append_right _ h))))
theorem inX8 : ∀ w ∈ wsX80, w ∈ lw_tbl := fun w h => wsN_law_in w (inlX8 w h)
theorem inlX9 : ∀ w ∈ wsX90, w ∈ wsN_law := fun _ h => List.mem_append_left _ (List.mem_append_left _ (List.mem_append_left _ (List.mem_append_left _ (List.mem_append_left _ (List.mem_append_left _ (List.mem_append_left _ (List.mem_append_left _ (List.mem_append_left _ (List.mem_append_right _ h)))))))))
theorem inX9 : ∀ w ∈ wsX90, w ∈ lw_tbl := fun w h => wsN_law_in w (inlX9 w h)
theorem inlX10 : ∀ w ∈ wsX100, w ∈ wsN_law := fun _ h => List.mem_append_left _ (List.mem_append_left _ (List.mem_append_left _ (List.mem_append_left _ (List.mem_append_left _ (List.mem_append_left _ (List.mem_append_left _ (List.mem_append_left _ (List.mem_append_left _ (List.mem_append_left _ (List.mem_append_left _ (List.mem_append_left _ (List.mem_append_right _ h))))))))))))
theorem inX10 : ∀ w ∈ wsX100, w ∈ lw_tbl := fun w h => wsN_law_in w (inlX10 w h)
theorem inlX11 : ∀ w ∈ wsX110, w ∈ wsN_law := fun _ h => List.mem_append_left _ (List.mem_append_left _ (List.mem_append_left _ (List.mem_append_left _ (List.mem_append_left _ (List.mem_append_left _ (List.mem_append_left _ (List.mem_append_left _ (List.mem_append_left _ (List.mem_append_left _ (List.mem_append_left _ (List.mem_append_right _ h)))))))))))
theorem inX11 : ∀ w ∈ wsX110, w ∈ lw_tbl := fun w h => wsN_law_in w (inlX11 w h)
theorem inJ9 : ∀ w ∈ wsJ90, w ∈ lw_tbl := by decide +kernel
theorem inJ0 : ∀ w ∈ wsJ00, w ∈ lw_tbl := by decide +kernel
theorem inJ10 : ∀ w ∈ wsJ100, w ∈ lw_tbl := by decide +kernel
theorem inJ7 : ∀ w ∈ wsJ70, w ∈ lw_tbl := by decide +kernel
set_option maxRecDepth 20000 in
theorem ggL_at_X10_at : GoodIn wsYL_at wsY_at := goodIn_ca (goodIn_r _ [6, 7, 8, 9, 10, 11, 12, 13, 14, 15, 16, 17, 18, 19, 20, 21, 22, 23, 24, 25, 26, 27, 28, 29, 30, 31, 32, 33, 34, 35, 36, 37] (by decide +kernel) (by decide +kernel)) (goodIn_sub (fun _ h => List.mem_cons_of_mem _ (List.mem_append_right _ h)) (by decide +kernel))
set_option maxRecDepth 20000 in
theorem gL_at_X10_at : GoodIn wsYL_at (wsV RL 7 RX10 yX10_at wsY_at) := goodIn_app (goodIn_of _ (by decide +kernel)) ggL_at_X10_at
theorem dL_at_0 : decode cL_at 0 = .ok (.aload_n 3, 1) := by decide +kernel
theorem dL_at_1 : decode cL_at 1 = .ok (.iconst 0, 1) := by decide +kernel
theorem dL_at_2 : decode cL_at 2 = .ok (.aload_n 0, 1) := by decide +kernel
theorem dL_at_3 : decode cL_at 3 = .ok (.iload_n 1, 1) := by decide +kernel
theorem dL_at_4 : decode cL_at 4 = .ok (.iload_n 2, 1) := by decide +kernel
theorem dL_at_5 : decode cL_at 5 = .ok (.invokevirtual 7, 3) := by decide +kernel
theorem dL_at_8 : decode cL_at 8 = .ok (.i2l, 1) := by decide +kernel
theorem dL_at_9 : decode cL_at 9 = .ok (.lastore, 1) := by decide +kernel
theorem dL_at_10 : decode cL_at 10 = .ok (.goto 7, 3) := by decide +kernel
theorem dL_at_13 : decode cL_at 13 = .ok (.astore 4, 2) := by decide +kernel
theorem dL_at_15 : decode cL_at 15 = .ok (.iconst 1, 1) := by decide +kernel
theorem dL_at_16 : decode cL_at 16 = .ok (.ireturn, 1) := by decide +kernel
theorem dL_at_17 : decode cL_at 17 = .ok (.iconst 0, 1) := by decide +kernel
theorem dL_at_18 : decode cL_at 18 = .ok (.ireturn, 1) := by decide +kernel
set_option maxRecDepth 20000 in
theorem ggL_row_X10_row : GoodIn wsYL_row wsY_row := goodIn_ca (goodIn_r _ [6, 7, 8, 9, 10, 11, 12, 13, 14, 15, 16, 17, 18, 19, 20, 21, 22, 23, 24, 25] (by decide +kernel) (by decide +kernel)) (goodIn_sub (fun _ h => List.mem_cons_of_mem _ (List.mem_append_right _ h)) (by decide +kernel))
set_option maxRecDepth 20000 in
theorem gL_row_X10_row : GoodIn wsYL_row (wsV RL 15 RX10 yX10_row wsY_row) := goodIn_app (goodIn_of _ (by decide +kernel)) ggL_row_X10_row
theorem dL_row_0 : decode cL_row 0 = .ok (.aload_n 2, 1) := by decide +kernel
theorem dL_row_1 : decode cL_row 1 = .ok (.iconst 0, 1) := by decide +kernel
theorem dL_row_2 : decode cL_row 2 = .ok (.aload_n 0, 1) := by decide +kernel
theorem dL_row_3 : decode cL_row 3 = .ok (.iload_n 1, 1) := by decide +kernel
theorem dL_row_4 : decode cL_row 4 = .ok (.invokevirtual 15, 3) := by decide +kernel
theorem dL_row_7 : decode cL_row 7 = .ok (.i2l, 1) := by decide +kernel
theorem dL_row_8 : decode cL_row 8 = .ok (.lastore, 1) := by decide +kernel
theorem dL_row_9 : decode cL_row 9 = .ok (.goto 6, 3) := by decide +kernel
theorem dL_row_12 : decode cL_row 12 = .ok (.astore_n 3, 1) := by decide +kernel
theorem dL_row_13 : decode cL_row 13 = .ok (.iconst 1, 1) := by decide +kernel
theorem dL_row_14 : decode cL_row 14 = .ok (.ireturn, 1) := by decide +kernel
theorem dL_row_15 : decode cL_row 15 = .ok (.iconst 0, 1) := by decide +kernel
theorem dL_row_16 : decode cL_row 16 = .ok (.ireturn, 1) := by decide +kernel
set_option maxRecDepth 20000 in
theorem ggL_law_X10_init : GoodIn wsN_law wsX10_init := goodIn_r _ [9, 10, 11, 12, 13, 14, 15, 16, 17, 18, 19, 20, 21, 22, 23, 24, 25, 26, 27, 28, 29, 30, 31, 32, 33, 34, 35, 36, 37, 38, 39, 40, 41, 42, 43, 44, 45, 46, 47, 48, 49, 50, 51, 52, 53, 54, 55, 56, 57, 58, 59, 60, 61, 62, 63, 64, 65, 66, 67, 68, 69, 70, 71, 72, 73, 74, 75, 76, 77, 78, 79, 80, 81, 82, 83, 84, 85, 86, 87, 88, 89, 90, 91, 92, 93, 94, 95, 96, 97, 98, 99, 100, 101, 102, 103, 104, 105, 106, 107, 108, 109, 110, 111, 112, 113, 114, 115, 116, 117, 118, 119, 120, 121, 122, 123, 1025, 1026, 981, 982, 983, 984, 985, 986, 987, 988, 989, 990, 991, 992, 993, 994, 995, 1027, 1028, 1029, 1030, 1031, 1032, 1033, 1034, 1035, 1036, 1037, 1038, 1039, 1040, 1041, 1042, 1043, 1044, 1045, 1046, 1047, 1048, 1049, 1050, 1051, 1052, 1053, 1054, 1055, 1056, 1057, 1058, 1059] (by decide +kernel) (by decide +kernel)
set_option maxRecDepth 20000 in
theorem gL_law_X10_init : GoodIn wsN_law (wsX10_init) := ggL_law_X10_init
set_option maxRecDepth 20000 in
theorem ggL_law_X11_init : GoodIn wsN_law wsX11_init := goodIn_r _ [126, 127, 11, 12, 128, 52, 129, 130, 131, 132, 133, 134, 135, 136, 137, 138, 139, 140, 141, 142, 143, 144, 145, 146, 147, 148, 149, 150, 151, 152, 153, 996, 997, 998, 999, 1000, 1001, 1002, 1003, 1004, 1005, 1006, 1007, 1008, 1009, 1010, 1011, 1012, 1013, 1014, 1015, 1016, 1017, 1018, 1019, 1020, 1021, 1022, 1023, 1024] (by decide +kernel) (by decide +kernel)
set_option maxRecDepth 20000 in
theorem gL_law_X11_init : GoodIn wsN_law (wsX11_init) := ggL_law_X11_init
set_option maxRecDepth 20000 in
theorem ggL_law_X10_table : GoodIn wsN_law wsX10_table := goodIn_r _ [157, 158, 159, 160, 2, 161, 162, 17, 163, 164, 165, 166, 167, 168, 169, 170, 171, 172, 173, 174, 175, 176, 177, 178, 15, 179, 61, 180, 181, 182, 183, 184, 185, 186, 60, 187, 188, 189, 190, 16, 23, 191, 192, 193, 194, 195, 196, 197, 198, 199, 200, 201, 22, 202, 65, 203, 204, 205, 206, 981, 982, 983, 984, 985, 986, 987, 988, 989, 990, 991, 992, 993, 994, 995, 1025, 1026, 1027, 1028] (by decide +kernel) (by decide +kernel)
set_option maxRecDepth 20000 in
theorem gL_law_X10_table : GoodIn wsN_law (wsV RL 23 RX10 yX10_table wsX10_table) := goodIn_app (goodIn_of _ (by decide +kernel)) ggL_law_X10_table
set_option maxRecDepth 20000 in
theorem ggL_law_X11_table : GoodIn wsN_law wsX11_table := goodIn_r _ [210, 211, 212, 128, 129, 213, 214, 5, 215, 216, 217, 218, 219, 131, 996, 997, 998, 999, 1000, 1001, 1002, 1003, 1004, 1005, 1006, 1007, 1008, 1009, 1010, 1011, 1012, 1013, 1014, 1015, 1016, 1017, 1018, 1019, 1020, 1021, 1022, 1023, 1024] (by decide +kernel) (by decide +kernel)
set_option maxRecDepth 20000 in
theorem gL_law_X11_table : GoodIn wsN_law (wsV RL 27 RX11 yX11_table wsX11_table) := goodIn_app (goodIn_of _ (by decide +kernel)) ggL_law_X11_table
set_option maxRecDepth 20000 in
theorem ggL_law_X10_set : GoodIn wsN_law wsX10_set := goodIn_r _ [223, 16, 224, 225, 226, 15, 227, 61, 228, 184, 185, 186, 60, 981, 982, 983, 984, 985, 986, 987, 988, 989, 990, 991, 992, 993, 994, 995, 1025, 1026] (by decide +kernel) (by decide +kernel)
set_option maxRecDepth 20000 in
theorem gL_law_X10_set : GoodIn wsN_law (wsV RL 28 RX10 yX10_set wsX10_set) := goodIn_app (goodIn_of _ (by decide +kernel)) ggL_law_X10_set
set_option maxRecDepth 20000 in
theorem ggL_law_X11_set : GoodIn wsN_law wsX11_set := goodIn_r _ [232, 211, 129, 233, 234, 235, 5, 236, 128, 213, 214, 215, 996, 997, 998, 999, 1000, 1001, 1002, 1003, 1004, 1005, 1006, 1007, 1008, 1009, 1010, 1011, 1012, 1013, 1014, 1015, 1016, 1017, 1018, 1019, 1020, 1021, 1022, 1023, 1024] (by decide +kernel) (by decide +kernel)
set_option maxRecDepth 20000 in
theorem gL_law_X11_set : GoodIn wsN_law (wsV RL 32 RX11 yX11_set wsX11_set) := goodIn_app (goodIn_of _ (by decide +kernel)) ggL_law_X11_set
set_option maxRecDepth 20000 in
theorem ggL_law_L_at : GoodIn wsN_law wsYL_at := goodIn_ca (goodIn_r _ [240, 241, 242, 243, 244, 2, 245, 246, 247, 16, 224, 225, 226, 15, 227, 61, 248, 249, 250, 251, 60, 981, 982, 983, 984, 985, 986, 987, 988, 989, 990, 991, 992, 993, 994, 995, 1025, 1026] (by decide +kernel) (by decide +kernel)) (goodIn_sub (fun _ h => List.mem_append_right _ h) (by decide +kernel))
set_option maxRecDepth 20000 in
theorem gL_law_L_at : GoodIn wsN_law (va_wsS RL 33 yL_at wsYL_at) := goodIn_app (goodIn_of _ (by decide +kernel)) ggL_law_L_at
set_option maxRecDepth 20000 in
theorem ggL_law_X11_at : GoodIn wsN_law wsX11_at := goodIn_r _ [255, 211, 233, 234, 235, 5, 236, 128, 213, 214, 215, 256, 257, 258, 259, 129, 260, 261, 262, 263, 996, 997, 998, 999, 1000, 1001, 1002, 1003, 1004, 1005, 1006, 1007, 1008, 1009, 1010, 1011, 1012, 1013, 1014, 1015, 1016, 1017, 1018, 1019, 1020, 1021, 1022, 1023, 1024] (by decide +kernel) (by decide +kernel)
set_option maxRecDepth 20000 in
theorem gL_law_X11_at : GoodIn wsN_law (wsV RL 38 RX11 yX11_at wsX11_at) := goodIn_app (goodIn_of _ (by decide +kernel)) ggL_law_X11_at
set_option maxRecDepth 20000 in
theorem ggL_law_X11_thrown : GoodIn wsN_law wsX11_thrown := goodIn_r _ [267, 211, 996, 997, 998, 999, 1000, 1001, 1002, 1003, 1004, 1005, 1006, 1007, 1008, 1009, 1010, 1011, 1012, 1013, 1014, 1015, 1016, 1017, 1018, 1019, 1020, 1021, 1022, 1023, 1024] (by decide +kernel) (by decide +kernel)
set_option maxRecDepth 20000 in
theorem gL_law_X11_thrown : GoodIn wsN_law (wsV RL 39 RX11 yX11_thrown wsX11_thrown) := goodIn_app (goodIn_of _ (by decide +kernel)) ggL_law_X11_thrown
set_option maxRecDepth 20000 in
theorem ggL_law_X10_line : GoodIn wsN_law wsX10_line := goodIn_r _ [271, 17, 163, 164, 2, 165, 272, 273, 274, 275, 276, 277, 278, 228, 184, 185, 15, 186, 60, 187, 188, 189, 190, 16, 23, 191, 192, 193, 194, 61, 195, 196, 197, 198, 199, 200, 201, 22, 202, 65, 203, 204, 205, 206, 981, 982, 983, 984, 985, 986, 987, 988, 989, 990, 991, 992, 993, 994, 995, 1025, 1026, 1027, 1028] (by decide +kernel) (by decide +kernel)
set_option maxRecDepth 20000 in
theorem gL_law_X10_line : GoodIn wsN_law (wsV RL 43 RX10 yX10_line wsX10_line) := goodIn_app (goodIn_of _ (by decide +kernel)) ggL_law_X10_line
set_option maxRecDepth 20000 in
theorem ggL_law_X11_line : GoodIn wsN_law wsX11_line := goodIn_r _ [282, 211, 212, 129, 213, 214, 5, 215, 283, 284, 285, 286, 287, 288, 289, 128, 216, 217, 218, 219, 131, 290, 276, 277, 278, 996, 997, 998, 999, 1000, 1001, 1002, 1003, 1004, 1005, 1006, 1007, 1008, 1009, 1010, 1011, 1012, 1013, 1014, 1015, 1016, 1017, 1018, 1019, 1020, 1021, 1022, 1023, 1024] (by decide +kernel) (by decide +kernel)
set_option maxRecDepth 20000 in
theorem gL_law_X11_line : GoodIn wsN_law (wsV RL 47 RX11 yX11_line wsX11_line) := goodIn_app (goodIn_of _ (by decide +kernel)) ggL_law_X11_line
set_option maxRecDepth 20000 in
theorem ggL_law_X10_turn : GoodIn wsN_law wsX10_turn := goodIn_r _ [161, 162, 17, 163, 164, 2, 165, 166, 167, 168, 169, 170, 171, 172, 173, 174, 175, 176, 177, 178, 15, 179, 61, 180, 181, 182, 183, 184, 185, 186, 60, 187, 188, 189, 190, 16, 23, 191, 192, 193, 194, 195, 196, 197, 198, 199, 200, 201, 22, 202, 65, 203, 204, 205, 206, 981, 982, 983, 984, 985, 986, 987, 988, 989, 990, 991, 992, 993, 994, 995, 1025, 1026, 1027, 1028] (by decide +kernel) (by decide +kernel)
set_option maxRecDepth 20000 in
theorem gL_law_X10_turn : GoodIn wsN_law (wsV RL 48 RX10 yX10_turn wsX10_turn) := goodIn_app (goodIn_of _ (by decide +kernel)) ggL_law_X10_turn
set_option maxRecDepth 20000 in
theorem ggL_law_X11_turn : GoodIn wsN_law wsX11_turn := goodIn_r _ [295, 211, 212, 132, 129, 213, 214, 5, 215, 296, 297, 298, 286, 287, 288, 289, 128, 216, 217, 218, 219, 131, 299, 300, 301, 996, 997, 998, 999, 1000, 1001, 1002, 1003, 1004, 1005, 1006, 1007, 1008, 1009, 1010, 1011, 1012, 1013, 1014, 1015, 1016, 1017, 1018, 1019, 1020, 1021, 1022, 1023, 1024] (by decide +kernel) (by decide +kernel)
set_option maxRecDepth 20000 in
theorem gL_law_X11_turn : GoodIn wsN_law (wsV RL 51 RX11 yX11_turn wsX11_turn) := goodIn_app (goodIn_of _ (by decide +kernel)) ggL_law_X11_turn
set_option maxRecDepth 20000 in
theorem ggL_law_X10_group : GoodIn wsN_law wsX10_group := goodIn_r _ [305, 162, 17, 53, 306, 307, 308, 2, 309, 166, 167, 168, 169, 170, 171, 172, 173, 174, 175, 310, 311, 312, 313, 181, 182, 314, 315, 316, 317, 318, 319, 320, 321, 322, 323, 324, 228, 184, 185, 15, 186, 60, 187, 188, 189, 190, 16, 23, 191, 192, 193, 194, 61, 195, 196, 197, 198, 199, 200, 201, 22, 202, 65, 203, 204, 205, 206, 981, 982, 983, 984, 985, 986, 987, 988, 989, 990, 991, 992, 993, 994, 995, 1025, 1026, 1027, 1028] (by decide +kernel) (by decide +kernel)
set_option maxRecDepth 20000 in
theorem gL_law_X10_group : GoodIn wsN_law (wsV RL 52 RX10 yX10_group wsX10_group) := goodIn_app (goodIn_of _ (by decide +kernel)) ggL_law_X10_group
set_option maxRecDepth 20000 in
theorem ggL_law_X11_group : GoodIn wsN_law wsX11_group := goodIn_r _ [328, 211, 329, 135, 129, 128, 213, 214, 5, 215, 330, 331, 332, 333, 132, 133, 134, 299, 300, 301, 296, 297, 298, 334, 335, 336, 286, 287, 288, 289, 216, 217, 218, 219, 131, 996, 997, 998, 999, 1000, 1001, 1002, 1003, 1004, 1005, 1006, 1007, 1008, 1009, 1010, 1011, 1012, 1013, 1014, 1015, 1016, 1017, 1018, 1019, 1020, 1021, 1022, 1023, 1024] (by decide +kernel) (by decide +kernel)
set_option maxRecDepth 20000 in
theorem gL_law_X11_group : GoodIn wsN_law (wsV RL 55 RX11 yX11_group wsX11_group) := goodIn_app (goodIn_of _ (by decide +kernel)) ggL_law_X11_group
set_option maxRecDepth 20000 in
theorem ggL_law_X10_keep : GoodIn wsN_law wsX10_keep := goodIn_r _ [340, 19, 16, 341, 342, 2, 343, 191, 192, 193, 15, 194, 61, 60, 195, 196, 197, 198, 981, 982, 983, 984, 985, 986, 987, 988, 989, 990, 991, 992, 993, 994, 995, 1025, 1026] (by decide +kernel) (by decide +kernel)
set_option maxRecDepth 20000 in
theorem gL_law_X10_keep : GoodIn wsN_law (wsV RL 56 RX10 yX10_keep wsX10_keep) := goodIn_app (goodIn_of _ (by decide +kernel)) ggL_law_X10_keep
set_option maxRecDepth 20000 in
theorem ggL_law_X11_keep : GoodIn wsN_law wsX11_keep := goodIn_r _ [347, 211, 348, 136, 128, 137, 129, 213, 214, 5, 215, 996, 997, 998, 999, 1000, 1001, 1002, 1003, 1004, 1005, 1006, 1007, 1008, 1009, 1010, 1011, 1012, 1013, 1014, 1015, 1016, 1017, 1018, 1019, 1020, 1021, 1022, 1023, 1024] (by decide +kernel) (by decide +kernel)
set_option maxRecDepth 20000 in
theorem gL_law_X11_keep : GoodIn wsN_law (wsV RL 59 RX11 yX11_keep wsX11_keep) := goodIn_app (goodIn_of _ (by decide +kernel)) ggL_law_X11_keep
set_option maxRecDepth 20000 in
theorem ggL_law_X10_fetch : GoodIn wsN_law wsX10_fetch := goodIn_r _ [352, 17, 19, 353, 354, 355, 2, 356, 341, 342, 343, 191, 192, 193, 15, 194, 61, 60, 195, 196, 197, 198, 187, 188, 189, 190, 16, 23, 199, 200, 201, 22, 202, 65, 203, 204, 205, 206, 981, 982, 983, 984, 985, 986, 987, 988, 989, 990, 991, 992, 993, 994, 995, 1025, 1026, 1027, 1028] (by decide +kernel) (by decide +kernel)
set_option maxRecDepth 20000 in
theorem gL_law_X10_fetch : GoodIn wsN_law (wsV RL 60 RX10 yX10_fetch wsX10_fetch) := goodIn_app (goodIn_of _ (by decide +kernel)) ggL_law_X10_fetch
set_option maxRecDepth 20000 in
theorem ggL_law_X11_fetch : GoodIn wsN_law wsX11_fetch := goodIn_r _ [360, 211, 136, 129, 137, 128, 361, 362, 363, 5, 364, 348, 213, 214, 215, 286, 287, 288, 289, 216, 217, 218, 219, 131, 996, 997, 998, 999, 1000, 1001, 1002, 1003, 1004, 1005, 1006, 1007, 1008, 1009, 1010, 1011, 1012, 1013, 1014, 1015, 1016, 1017, 1018, 1019, 1020, 1021, 1022, 1023, 1024] (by decide +kernel) (by decide +kernel)
set_option maxRecDepth 20000 in
theorem gL_law_X11_fetch : GoodIn wsN_law (wsV RL 63 RX11 yX11_fetch wsX11_fetch) := goodIn_app (goodIn_of _ (by decide +kernel)) ggL_law_X11_fetch
set_option maxRecDepth 20000 in
theorem ggL_law_X10_count : GoodIn wsN_law wsX10_count := goodIn_r _ [368, 16, 23, 27, 55, 981, 982, 983, 984, 985, 986, 987, 988, 989, 990, 991, 992, 993, 994, 995, 1025, 1026, 1027, 1028, 1029, 1030, 1031, 1032, 1033, 1034] (by decide +kernel) (by decide +kernel)
set_option maxRecDepth 20000 in
theorem gL_law_X10_count : GoodIn wsN_law (wsV RL 64 RX10 yX10_count wsX10_count) := goodIn_app (goodIn_of _ (by decide +kernel)) ggL_law_X10_count
set_option maxRecDepth 20000 in
theorem ggL_law_X11_count : GoodIn wsN_law wsX11_count := goodIn_r _ [372, 211, 128, 130, 149, 373, 374, 996, 997, 998, 999, 1000, 1001, 1002, 1003, 1004, 1005, 1006, 1007, 1008, 1009, 1010, 1011, 1012, 1013, 1014, 1015, 1016, 1017, 1018, 1019, 1020, 1021, 1022, 1023, 1024] (by decide +kernel) (by decide +kernel)
set_option maxRecDepth 20000 in
theorem gL_law_X11_count : GoodIn wsN_law (wsV RL 67 RX11 yX11_count wsX11_count) := goodIn_app (goodIn_of _ (by decide +kernel)) ggL_law_X11_count
set_option maxRecDepth 20000 in
theorem ggL_law_X10_wrong : GoodIn wsN_law wsX10_wrong := goodIn_r _ [378, 16, 55, 379, 380, 381, 15, 382, 61, 383, 249, 250, 251, 60, 384, 385, 386, 2, 387, 54, 388, 389, 390, 391, 392, 393, 394, 395, 981, 982, 983, 984, 985, 986, 987, 988, 989, 990, 991, 992, 993, 994, 995, 1025, 1026] (by decide +kernel) (by decide +kernel)
set_option maxRecDepth 20000 in
theorem gL_law_X10_wrong : GoodIn wsN_law (wsV RL 68 RX10 yX10_wrong wsX10_wrong) := goodIn_app (goodIn_of _ (by decide +kernel)) ggL_law_X10_wrong
set_option maxRecDepth 20000 in
theorem ggL_law_X11_wrong : GoodIn wsN_law wsX11_wrong := goodIn_r _ [399, 211, 374, 138, 400, 401, 402, 5, 403, 128, 256, 257, 258, 259, 129, 404, 405, 406, 407, 408, 409, 410, 411, 996, 997, 998, 999, 1000, 1001, 1002, 1003, 1004, 1005, 1006, 1007, 1008, 1009, 1010, 1011, 1012, 1013, 1014, 1015, 1016, 1017, 1018, 1019, 1020, 1021, 1022, 1023, 1024] (by decide +kernel) (by decide +kernel)
set_option maxRecDepth 20000 in
theorem gL_law_X11_wrong : GoodIn wsN_law (wsV RL 71 RX11 yX11_wrong wsX11_wrong) := goodIn_app (goodIn_of _ (by decide +kernel)) ggL_law_X11_wrong
set_option maxRecDepth 20000 in
theorem ggL_law_X10_is : GoodIn wsN_law wsX10_is := goodIn_r _ [415, 16, 416, 417, 418, 15, 419, 420, 380, 381, 382, 61, 383, 249, 250, 251, 60, 421, 389, 390, 391, 422, 423, 424, 2, 425, 426, 427, 428, 429, 430, 431, 432, 433, 434, 435, 436, 437, 31, 438, 439, 440, 30, 441, 81, 79, 248, 442, 443, 444, 445, 446, 447, 448, 449, 450, 451, 452, 453, 454, 455, 456, 80, 457, 458, 459, 460, 461, 462, 463, 464, 465, 466, 467, 468, 981, 982, 983, 984, 985, 986, 987, 988, 989, 990, 991, 992, 993, 994, 995, 1025, 1026, 1035, 1036, 1037] (by decide +kernel) (by decide +kernel)
set_option maxRecDepth 20000 in
theorem gL_law_X10_is : GoodIn wsN_law (wsV RL 72 RX10 yX10_is wsX10_is) := goodIn_app (goodIn_of _ (by decide +kernel)) ggL_law_X10_is
set_option maxRecDepth 20000 in
theorem ggL_law_X11_is : GoodIn wsN_law wsX11_is := goodIn_r _ [472, 211, 473, 128, 213, 214, 5, 215, 474, 475, 476, 477, 400, 401, 402, 403, 256, 257, 258, 259, 129, 404, 405, 406, 407, 478, 479, 480, 481, 482, 483, 484, 485, 139, 486, 447, 448, 449, 487, 488, 489, 490, 134, 996, 997, 998, 999, 1000, 1001, 1002, 1003, 1004, 1005, 1006, 1007, 1008, 1009, 1010, 1011, 1012, 1013, 1014, 1015, 1016, 1017, 1018, 1019, 1020, 1021, 1022, 1023, 1024] (by decide +kernel) (by decide +kernel)
set_option maxRecDepth 20000 in
theorem gL_law_X11_is : GoodIn wsN_law (wsV RL 75 RX11 yX11_is wsX11_is) := goodIn_app (goodIn_of _ (by decide +kernel)) ggL_law_X11_is
set_option maxRecDepth 20000 in
theorem ggL_law_X10_orbits : GoodIn wsN_law wsX10_orbits := goodIn_r _ [494, 16, 55, 31, 416, 417, 418, 15, 419, 420, 380, 381, 382, 61, 383, 249, 250, 251, 60, 421, 389, 390, 391, 434, 435, 436, 2, 437, 438, 439, 440, 30, 441, 81, 79, 248, 442, 443, 444, 445, 446, 447, 448, 449, 450, 451, 452, 453, 454, 455, 456, 80, 495, 496, 497, 498, 384, 385, 386, 387, 54, 981, 982, 983, 984, 985, 986, 987, 988, 989, 990, 991, 992, 993, 994, 995, 1025, 1026, 1035, 1036, 1037] (by decide +kernel) (by decide +kernel)
set_option maxRecDepth 20000 in
theorem gL_law_X10_orbits : GoodIn wsN_law (wsV RL 76 RX10 yX10_orbits wsX10_orbits) := goodIn_app (goodIn_of _ (by decide +kernel)) ggL_law_X10_orbits
set_option maxRecDepth 20000 in
theorem ggL_law_X11_orbits : GoodIn wsN_law wsX11_orbits := goodIn_r _ [502, 211, 128, 374, 138, 139, 474, 475, 476, 5, 477, 400, 401, 402, 403, 256, 257, 258, 259, 129, 404, 405, 406, 407, 482, 483, 484, 485, 486, 447, 448, 449, 487, 488, 489, 490, 134, 996, 997, 998, 999, 1000, 1001, 1002, 1003, 1004, 1005, 1006, 1007, 1008, 1009, 1010, 1011, 1012, 1013, 1014, 1015, 1016, 1017, 1018, 1019, 1020, 1021, 1022, 1023, 1024] (by decide +kernel) (by decide +kernel)
set_option maxRecDepth 20000 in
theorem gL_law_X11_orbits : GoodIn wsN_law (wsV RL 79 RX11 yX11_orbits wsX11_orbits) := goodIn_app (goodIn_of _ (by decide +kernel)) ggL_law_X11_orbits
set_option maxRecDepth 20000 in
theorem ggL_law_X10_moves : GoodIn wsN_law wsX10_moves := goodIn_r _ [506, 16, 43, 416, 417, 418, 15, 419, 420, 380, 381, 382, 61, 383, 249, 250, 251, 60, 421, 389, 390, 391, 507, 508, 509, 42, 510, 103, 511, 204, 205, 206, 512, 513, 174, 168, 175, 514, 515, 516, 517, 518, 181, 182, 519, 315, 316, 317, 173, 520, 319, 320, 521, 522, 523, 524, 104, 105, 525, 526, 527, 528, 167, 169, 170, 171, 172, 529, 530, 531, 532, 981, 982, 983, 984, 985, 986, 987, 988, 989, 990, 991, 992, 993, 994, 995, 1025, 1026, 1048, 1049, 1050] (by decide +kernel) (by decide +kernel)
set_option maxRecDepth 20000 in
theorem gL_law_X10_moves : GoodIn wsN_law (wsV RL 80 RX10 yX10_moves wsX10_moves) := goodIn_app (goodIn_of _ (by decide +kernel)) ggL_law_X10_moves
set_option maxRecDepth 20000 in
theorem ggL_law_X11_moves : GoodIn wsN_law wsX11_moves := goodIn_r _ [536, 211, 128, 142, 143, 132, 133, 474, 475, 476, 5, 477, 400, 401, 402, 403, 256, 257, 258, 259, 129, 404, 405, 406, 407, 296, 297, 298, 299, 300, 301, 334, 335, 336, 996, 997, 998, 999, 1000, 1001, 1002, 1003, 1004, 1005, 1006, 1007, 1008, 1009, 1010, 1011, 1012, 1013, 1014, 1015, 1016, 1017, 1018, 1019, 1020, 1021, 1022, 1023, 1024] (by decide +kernel) (by decide +kernel)
set_option maxRecDepth 20000 in
theorem gL_law_X11_moves : GoodIn wsN_law (wsV RL 83 RX11 yX11_moves wsX11_moves) := goodIn_app (goodIn_of _ (by decide +kernel)) ggL_law_X11_moves
set_option maxRecDepth 20000 in
theorem ggL_law_X10_keepers : GoodIn wsN_law wsX10_keepers := goodIn_r _ [540, 35, 16, 541, 542, 543, 34, 544, 88, 85, 86, 87, 545, 546, 547, 548, 549, 204, 205, 206, 550, 249, 250, 15, 251, 60, 551, 552, 553, 554, 555, 556, 557, 558, 559, 560, 561, 562, 981, 982, 983, 984, 985, 986, 987, 988, 989, 990, 991, 992, 993, 994, 995, 1038, 1039, 1040, 1041, 1025, 1026] (by decide +kernel) (by decide +kernel)
set_option maxRecDepth 20000 in
theorem gL_law_X10_keepers : GoodIn wsN_law (wsV RL 84 RX10 yX10_keepers wsX10_keepers) := goodIn_app (goodIn_of _ (by decide +kernel)) ggL_law_X10_keepers
set_option maxRecDepth 20000 in
theorem ggL_law_X11_keepers : GoodIn wsN_law wsX11_keepers := goodIn_r _ [566, 211, 128, 132, 129, 296, 297, 5, 298, 299, 300, 301, 567, 568, 569, 570, 256, 257, 258, 259, 996, 997, 998, 999, 1000, 1001, 1002, 1003, 1004, 1005, 1006, 1007, 1008, 1009, 1010, 1011, 1012, 1013, 1014, 1015, 1016, 1017, 1018, 1019, 1020, 1021, 1022, 1023, 1024] (by decide +kernel) (by decide +kernel)
set_option maxRecDepth 20000 in
theorem gL_law_X11_keepers : GoodIn wsN_law (wsV RL 87 RX11 yX11_keepers wsX11_keepers) := goodIn_app (goodIn_of _ (by decide +kernel)) ggL_law_X11_keepers
set_option maxRecDepth 20000 in
theorem ggL_law_X10_least : GoodIn wsN_law wsX10_least := goodIn_r _ [574, 39, 16, 17, 575, 576, 577, 38, 578, 93, 98, 95, 579, 192, 193, 15, 194, 61, 60, 195, 196, 197, 198, 580, 204, 205, 206, 581, 582, 583, 584, 96, 585, 586, 587, 588, 589, 590, 591, 249, 250, 251, 592, 593, 594, 595, 596, 597, 598, 599, 94, 600, 601, 602, 603, 604, 184, 185, 186, 605, 606, 607, 608, 609, 610, 611, 612, 613, 614, 615, 616, 617, 618, 619, 620, 97, 621, 622, 623, 624, 625, 626, 627, 628, 191, 187, 188, 189, 2, 190, 23, 199, 200, 201, 22, 202, 65, 203, 981, 982, 983, 984, 985, 986, 987, 988, 989, 990, 991, 992, 993, 994, 995, 1042, 1043, 1044, 1045, 1046, 1047, 1025, 1026, 1027, 1028] (by decide +kernel) (by decide +kernel)
set_option maxRecDepth 20000 in
theorem gL_law_X10_least : GoodIn wsN_law (wsV RL 88 RX10 yX10_least wsX10_least) := goodIn_app (goodIn_of _ (by decide +kernel)) ggL_law_X10_least
set_option maxRecDepth 20000 in
theorem ggL_law_X11_least : GoodIn wsN_law wsX11_least := goodIn_r _ [632, 211, 129, 144, 633, 634, 635, 5, 636, 128, 132, 145, 296, 297, 298, 299, 300, 301, 256, 257, 258, 259, 637, 638, 639, 640, 216, 217, 218, 219, 131, 641, 642, 643, 644, 996, 997, 998, 999, 1000, 1001, 1002, 1003, 1004, 1005, 1006, 1007, 1008, 1009, 1010, 1011, 1012, 1013, 1014, 1015, 1016, 1017, 1018, 1019, 1020, 1021, 1022, 1023, 1024] (by decide +kernel) (by decide +kernel)
set_option maxRecDepth 20000 in
theorem gL_law_X11_least : GoodIn wsN_law (wsV RL 92 RX11 yX11_least wsX11_least) := goodIn_app (goodIn_of _ (by decide +kernel)) ggL_law_X11_least
set_option maxRecDepth 20000 in
theorem ggL_law_X10_like : GoodIn wsN_law wsX10_like := goodIn_r _ [648, 35, 16, 19, 353, 354, 355, 2, 356, 341, 342, 343, 649, 650, 651, 34, 652, 88, 85, 86, 545, 546, 547, 548, 549, 204, 205, 206, 550, 249, 250, 15, 251, 60, 559, 560, 561, 562, 551, 552, 553, 554, 87, 555, 556, 557, 558, 981, 982, 983, 984, 985, 986, 987, 988, 989, 990, 991, 992, 993, 994, 995, 1025, 1026, 1038, 1039, 1040, 1041] (by decide +kernel) (by decide +kernel)
set_option maxRecDepth 20000 in
theorem gL_law_X10_like : GoodIn wsN_law (wsV RL 93 RX10 yX10_like wsX10_like) := goodIn_app (goodIn_of _ (by decide +kernel)) ggL_law_X10_like
set_option maxRecDepth 20000 in
theorem ggL_law_X11_like : GoodIn wsN_law wsX11_like := goodIn_r _ [656, 211, 128, 136, 132, 137, 361, 362, 363, 5, 364, 348, 213, 214, 215, 296, 297, 298, 299, 300, 301, 567, 568, 569, 570, 256, 257, 258, 259, 129, 996, 997, 998, 999, 1000, 1001, 1002, 1003, 1004, 1005, 1006, 1007, 1008, 1009, 1010, 1011, 1012, 1013, 1014, 1015, 1016, 1017, 1018, 1019, 1020, 1021, 1022, 1023, 1024] (by decide +kernel) (by decide +kernel)
set_option maxRecDepth 20000 in
theorem gL_law_X11_like : GoodIn wsN_law (wsV RL 96 RX11 yX11_like wsX11_like) := goodIn_app (goodIn_of _ (by decide +kernel)) ggL_law_X11_like
set_option maxRecDepth 20000 in
theorem ggL_law_X10_dual : GoodIn wsN_law wsX10_dual := goodIn_r _ [660, 16, 17, 379, 380, 381, 15, 382, 61, 383, 249, 250, 251, 60, 661, 662, 663, 664, 183, 184, 185, 186, 187, 188, 189, 2, 190, 23, 191, 192, 193, 194, 195, 196, 197, 198, 199, 200, 201, 22, 202, 65, 203, 204, 205, 206, 981, 982, 983, 984, 985, 986, 987, 988, 989, 990, 991, 992, 993, 994, 995, 1025, 1026, 1027, 1028] (by decide +kernel) (by decide +kernel)
set_option maxRecDepth 20000 in
theorem gL_law_X10_dual : GoodIn wsN_law (wsV RL 97 RX10 yX10_dual wsX10_dual) := goodIn_app (goodIn_of _ (by decide +kernel)) ggL_law_X10_dual
set_option maxRecDepth 20000 in
theorem ggL_law_X11_dual : GoodIn wsN_law wsX11_dual := goodIn_r _ [668, 211, 128, 133, 129, 400, 401, 402, 5, 403, 256, 257, 258, 259, 216, 217, 218, 219, 131, 996, 997, 998, 999, 1000, 1001, 1002, 1003, 1004, 1005, 1006, 1007, 1008, 1009, 1010, 1011, 1012, 1013, 1014, 1015, 1016, 1017, 1018, 1019, 1020, 1021, 1022, 1023, 1024] (by decide +kernel) (by decide +kernel)
set_option maxRecDepth 20000 in
theorem gL_law_X11_dual : GoodIn wsN_law (wsV RL 100 RX11 yX11_dual wsX11_dual) := goodIn_app (goodIn_of _ (by decide +kernel)) ggL_law_X11_dual
set_option maxRecDepth 20000 in
theorem ggL_law_X10_times : GoodIn wsN_law wsX10_times := goodIn_r _ [672, 16, 19, 17, 353, 354, 355, 2, 356, 341, 342, 343, 248, 249, 250, 15, 251, 60, 228, 184, 185, 186, 187, 188, 189, 190, 23, 191, 192, 193, 194, 61, 195, 196, 197, 198, 199, 200, 201, 22, 202, 65, 203, 204, 205, 206, 981, 982, 983, 984, 985, 986, 987, 988, 989, 990, 991, 992, 993, 994, 995, 1025, 1026, 1027, 1028] (by decide +kernel) (by decide +kernel)
set_option maxRecDepth 20000 in
theorem gL_law_X10_times : GoodIn wsN_law (wsV RL 101 RX10 yX10_times wsX10_times) := goodIn_app (goodIn_of _ (by decide +kernel)) ggL_law_X10_times
set_option maxRecDepth 20000 in
theorem ggL_law_X11_times : GoodIn wsN_law wsX11_times := goodIn_r _ [676, 211, 128, 136, 145, 137, 361, 362, 363, 5, 364, 348, 213, 214, 215, 256, 257, 258, 259, 129, 677, 678, 679, 680, 216, 217, 218, 219, 131, 996, 997, 998, 999, 1000, 1001, 1002, 1003, 1004, 1005, 1006, 1007, 1008, 1009, 1010, 1011, 1012, 1013, 1014, 1015, 1016, 1017, 1018, 1019, 1020, 1021, 1022, 1023, 1024] (by decide +kernel) (by decide +kernel)
set_option maxRecDepth 20000 in
theorem gL_law_X11_times : GoodIn wsN_law (wsV RL 104 RX11 yX11_times wsX11_times) := goodIn_app (goodIn_of _ (by decide +kernel)) ggL_law_X11_times
set_option maxRecDepth 20000 in
theorem ggL_law_X10_part : GoodIn wsN_law wsX10_part := goodIn_r _ [684, 16, 31, 17, 224, 225, 226, 15, 227, 61, 416, 417, 418, 419, 420, 380, 381, 382, 383, 249, 250, 251, 60, 421, 389, 390, 391, 438, 439, 440, 30, 441, 81, 79, 442, 443, 444, 445, 446, 447, 448, 449, 450, 451, 452, 685, 686, 687, 2, 688, 689, 690, 691, 692, 693, 694, 695, 696, 248, 453, 454, 455, 456, 80, 495, 496, 497, 498, 228, 184, 185, 186, 187, 188, 189, 190, 23, 191, 192, 193, 194, 195, 196, 197, 198, 199, 200, 201, 22, 202, 65, 203, 204, 205, 206, 981, 982, 983, 984, 985, 986, 987, 988, 989, 990, 991, 992, 993, 994, 995, 1025, 1026, 1035, 1036, 1037, 1027, 1028] (by decide +kernel) (by decide +kernel)
set_option maxRecDepth 20000 in
theorem gL_law_X10_part : GoodIn wsN_law (wsV RL 105 RX10 yX10_part wsX10_part) := goodIn_app (goodIn_of _ (by decide +kernel)) ggL_law_X10_part
set_option maxRecDepth 20000 in
theorem ggL_law_X11_part : GoodIn wsN_law wsX11_part := goodIn_r _ [700, 211, 128, 146, 145, 233, 234, 235, 5, 236, 213, 214, 215, 474, 475, 476, 477, 400, 401, 402, 403, 256, 257, 258, 259, 129, 404, 405, 406, 407, 701, 702, 703, 704, 486, 447, 448, 449, 705, 451, 452, 487, 488, 489, 490, 134, 677, 678, 679, 680, 216, 217, 218, 219, 131, 996, 997, 998, 999, 1000, 1001, 1002, 1003, 1004, 1005, 1006, 1007, 1008, 1009, 1010, 1011, 1012, 1013, 1014, 1015, 1016, 1017, 1018, 1019, 1020, 1021, 1022, 1023, 1024] (by decide +kernel) (by decide +kernel)
set_option maxRecDepth 20000 in
theorem gL_law_X11_part : GoodIn wsN_law (wsV RL 108 RX11 yX11_part wsX11_part) := goodIn_app (goodIn_of _ (by decide +kernel)) ggL_law_X11_part
set_option maxRecDepth 20000 in
theorem ggL_law_X10_within : GoodIn wsN_law wsX10_within := goodIn_r _ [709, 16, 55, 710, 711, 712, 2, 713, 248, 249, 250, 15, 251, 60, 384, 385, 386, 387, 54, 981, 982, 983, 984, 985, 986, 987, 988, 989, 990, 991, 992, 993, 994, 995, 1025, 1026] (by decide +kernel) (by decide +kernel)
set_option maxRecDepth 20000 in
theorem gL_law_X10_within : GoodIn wsN_law (wsV RL 109 RX10 yX10_within wsX10_within) := goodIn_app (goodIn_of _ (by decide +kernel)) ggL_law_X10_within
set_option maxRecDepth 20000 in
theorem ggL_law_X11_within : GoodIn wsN_law wsX11_within := goodIn_r _ [717, 211, 128, 374, 138, 213, 214, 5, 215, 256, 257, 258, 259, 129, 996, 997, 998, 999, 1000, 1001, 1002, 1003, 1004, 1005, 1006, 1007, 1008, 1009, 1010, 1011, 1012, 1013, 1014, 1015, 1016, 1017, 1018, 1019, 1020, 1021, 1022, 1023, 1024] (by decide +kernel) (by decide +kernel)
set_option maxRecDepth 20000 in
theorem gL_law_X11_within : GoodIn wsN_law (wsV RL 112 RX11 yX11_within wsX11_within) := goodIn_app (goodIn_of _ (by decide +kernel)) ggL_law_X11_within
set_option maxRecDepth 20000 in
theorem ggL_law_X10_modulus : GoodIn wsN_law wsX10_modulus := goodIn_r _ [721, 23, 199, 200, 201, 22, 202, 65, 203, 204, 205, 206, 981, 982, 983, 984, 985, 986, 987, 988, 989, 990, 991, 992, 993, 994, 995, 1027, 1028] (by decide +kernel) (by decide +kernel)
set_option maxRecDepth 20000 in
theorem gL_law_X10_modulus : GoodIn wsN_law (wsV RL 113 RX10 yX10_modulus wsX10_modulus) := goodIn_app (goodIn_of _ (by decide +kernel)) ggL_law_X10_modulus
set_option maxRecDepth 20000 in
theorem ggL_law_X11_modulus : GoodIn wsN_law wsX11_modulus := goodIn_r _ [725, 211, 726, 727, 130, 213, 214, 5, 215, 216, 217, 218, 219, 131, 996, 997, 998, 999, 1000, 1001, 1002, 1003, 1004, 1005, 1006, 1007, 1008, 1009, 1010, 1011, 1012, 1013, 1014, 1015, 1016, 1017, 1018, 1019, 1020, 1021, 1022, 1023, 1024] (by decide +kernel) (by decide +kernel)
set_option maxRecDepth 20000 in
theorem gL_law_X11_modulus : GoodIn wsN_law (wsV RL 116 RX11 yX11_modulus wsX11_modulus) := goodIn_app (goodIn_of _ (by decide +kernel)) ggL_law_X11_modulus
set_option maxRecDepth 20000 in
theorem ggL_law_X10_twist : GoodIn wsN_law wsX10_twist := goodIn_r _ [731, 16, 23, 224, 225, 226, 15, 227, 61, 732, 733, 734, 22, 735, 65, 981, 982, 983, 984, 985, 986, 987, 988, 989, 990, 991, 992, 993, 994, 995, 1027, 1028, 1025, 1026] (by decide +kernel) (by decide +kernel)
set_option maxRecDepth 20000 in
theorem gL_law_X10_twist : GoodIn wsN_law (wsV RL 117 RX10 yX10_twist wsX10_twist) := goodIn_app (goodIn_of _ (by decide +kernel)) ggL_law_X10_twist
set_option maxRecDepth 20000 in
theorem ggL_law_X11_twist : GoodIn wsN_law wsX11_twist := goodIn_r _ [739, 211, 130, 131, 233, 234, 235, 5, 236, 128, 213, 214, 215, 996, 997, 998, 999, 1000, 1001, 1002, 1003, 1004, 1005, 1006, 1007, 1008, 1009, 1010, 1011, 1012, 1013, 1014, 1015, 1016, 1017, 1018, 1019, 1020, 1021, 1022, 1023, 1024] (by decide +kernel) (by decide +kernel)
set_option maxRecDepth 20000 in
theorem gL_law_X11_twist : GoodIn wsN_law (wsV RL 120 RX11 yX11_twist wsX11_twist) := goodIn_app (goodIn_of _ (by decide +kernel)) ggL_law_X11_twist
set_option maxRecDepth 20000 in
theorem ggL_law_X10_twisted : GoodIn wsN_law wsX10_twisted := goodIn_r _ [743, 16, 23, 224, 225, 226, 15, 227, 61, 744, 745, 746, 22, 747, 65, 981, 982, 983, 984, 985, 986, 987, 988, 989, 990, 991, 992, 993, 994, 995, 1025, 1026, 1027, 1028] (by decide +kernel) (by decide +kernel)
set_option maxRecDepth 20000 in
theorem gL_law_X10_twisted : GoodIn wsN_law (wsV RL 121 RX10 yX10_twisted wsX10_twisted) := goodIn_app (goodIn_of _ (by decide +kernel)) ggL_law_X10_twisted
set_option maxRecDepth 20000 in
theorem ggL_law_X11_twisted : GoodIn wsN_law wsX11_twisted := goodIn_r _ [751, 211, 233, 234, 235, 5, 236, 128, 213, 214, 215, 752, 753, 754, 755, 131, 996, 997, 998, 999, 1000, 1001, 1002, 1003, 1004, 1005, 1006, 1007, 1008, 1009, 1010, 1011, 1012, 1013, 1014, 1015, 1016, 1017, 1018, 1019, 1020, 1021, 1022, 1023, 1024] (by decide +kernel) (by decide +kernel)
set_option maxRecDepth 20000 in
theorem gL_law_X11_twisted : GoodIn wsN_law (wsV RL 124 RX11 yX11_twisted wsX11_twisted) := goodIn_app (goodIn_of _ (by decide +kernel)) ggL_law_X11_twisted
set_option maxRecDepth 20000 in
theorem ggL_law_X10_closed : GoodIn wsN_law wsX10_closed := goodIn_r _ [759, 16, 23, 416, 417, 418, 15, 419, 420, 380, 381, 382, 61, 383, 249, 250, 251, 60, 421, 389, 390, 391, 760, 761, 762, 22, 763, 66, 764, 745, 746, 747, 65, 765, 392, 393, 394, 2, 395, 55, 384, 385, 386, 387, 54, 981, 982, 983, 984, 985, 986, 987, 988, 989, 990, 991, 992, 993, 994, 995, 1025, 1026, 1027, 1028] (by decide +kernel) (by decide +kernel)
set_option maxRecDepth 20000 in
theorem gL_law_X10_closed : GoodIn wsN_law (wsV RL 125 RX10 yX10_closed wsX10_closed) := goodIn_app (goodIn_of _ (by decide +kernel)) ggL_law_X10_closed
set_option maxRecDepth 20000 in
theorem ggL_law_X11_closed : GoodIn wsN_law wsX11_closed := goodIn_r _ [769, 211, 474, 475, 476, 5, 477, 400, 401, 402, 403, 128, 256, 257, 258, 259, 129, 404, 405, 406, 407, 770, 771, 772, 773, 130, 752, 753, 754, 755, 131, 408, 409, 410, 411, 374, 138, 996, 997, 998, 999, 1000, 1001, 1002, 1003, 1004, 1005, 1006, 1007, 1008, 1009, 1010, 1011, 1012, 1013, 1014, 1015, 1016, 1017, 1018, 1019, 1020, 1021, 1022, 1023, 1024] (by decide +kernel) (by decide +kernel)
set_option maxRecDepth 20000 in
theorem gL_law_X11_closed : GoodIn wsN_law (wsV RL 128 RX11 yX11_closed wsX11_closed) := goodIn_app (goodIn_of _ (by decide +kernel)) ggL_law_X11_closed
set_option maxRecDepth 20000 in
theorem ggL_law_X10_cover : GoodIn wsN_law wsX10_cover := goodIn_r _ [777, 23, 16, 17, 416, 417, 418, 15, 419, 420, 380, 381, 382, 61, 383, 249, 250, 251, 60, 421, 389, 390, 391, 760, 761, 762, 22, 763, 66, 764, 745, 746, 747, 65, 765, 248, 744, 228, 184, 185, 186, 187, 188, 189, 2, 190, 191, 192, 193, 194, 195, 196, 197, 198, 199, 200, 201, 202, 203, 204, 205, 206, 981, 982, 983, 984, 985, 986, 987, 988, 989, 990, 991, 992, 993, 994, 995, 1027, 1028, 1025, 1026] (by decide +kernel) (by decide +kernel)
set_option maxRecDepth 20000 in
theorem gL_law_X10_cover : GoodIn wsN_law (wsV RL 129 RX10 yX10_cover wsX10_cover) := goodIn_app (goodIn_of _ (by decide +kernel)) ggL_law_X10_cover
set_option maxRecDepth 20000 in
theorem ggL_law_X11_cover : GoodIn wsN_law wsX11_cover := goodIn_r _ [781, 211, 128, 130, 145, 474, 475, 476, 5, 477, 400, 401, 402, 403, 256, 257, 258, 259, 129, 404, 405, 406, 407, 770, 771, 772, 773, 752, 753, 754, 755, 131, 677, 678, 679, 680, 216, 217, 218, 219, 996, 997, 998, 999, 1000, 1001, 1002, 1003, 1004, 1005, 1006, 1007, 1008, 1009, 1010, 1011, 1012, 1013, 1014, 1015, 1016, 1017, 1018, 1019, 1020, 1021, 1022, 1023, 1024] (by decide +kernel) (by decide +kernel)
set_option maxRecDepth 20000 in
theorem gL_law_X11_cover : GoodIn wsN_law (wsV RL 132 RX11 yX11_cover wsX11_cover) := goodIn_app (goodIn_of _ (by decide +kernel)) ggL_law_X11_cover
set_option maxRecDepth 20000 in
theorem ggL_law_X10_power : GoodIn wsN_law wsX10_power := goodIn_r _ [785, 16, 47, 416, 417, 418, 15, 419, 420, 380, 381, 382, 61, 383, 249, 250, 251, 60, 421, 389, 390, 391, 786, 787, 788, 46, 789, 113, 111, 112, 114, 790, 791, 792, 793, 110, 794, 204, 205, 206, 795, 796, 797, 798, 799, 800, 801, 802, 803, 804, 805, 806, 807, 109, 808, 809, 810, 811, 812, 813, 814, 815, 434, 435, 436, 2, 437, 31, 438, 439, 440, 30, 441, 81, 79, 248, 442, 443, 444, 445, 446, 447, 448, 449, 450, 451, 452, 453, 454, 455, 456, 80, 981, 982, 983, 984, 985, 986, 987, 988, 989, 990, 991, 992, 993, 994, 995, 1025, 1026, 1051, 1052, 1053, 1054, 1055, 1056, 1035, 1036, 1037] (by decide +kernel) (by decide +kernel)
set_option maxRecDepth 20000 in
theorem gL_law_X10_power : GoodIn wsN_law (wsV RL 133 RX10 yX10_power wsX10_power) := goodIn_app (goodIn_of _ (by decide +kernel)) ggL_law_X10_power
set_option maxRecDepth 20000 in
theorem ggL_law_X11_power : GoodIn wsN_law wsX11_power := goodIn_r _ [819, 211, 128, 148, 213, 214, 5, 215, 474, 475, 476, 477, 400, 401, 402, 403, 256, 257, 258, 259, 129, 404, 405, 406, 407, 482, 483, 484, 485, 139, 486, 447, 448, 449, 487, 488, 489, 490, 134, 820, 821, 822, 823, 290, 276, 277, 278, 824, 825, 826, 827, 996, 997, 998, 999, 1000, 1001, 1002, 1003, 1004, 1005, 1006, 1007, 1008, 1009, 1010, 1011, 1012, 1013, 1014, 1015, 1016, 1017, 1018, 1019, 1020, 1021, 1022, 1023, 1024] (by decide +kernel) (by decide +kernel)
set_option maxRecDepth 20000 in
theorem gL_law_X11_power : GoodIn wsN_law (wsV RL 136 RX11 yX11_power wsX11_power) := goodIn_app (goodIn_of _ (by decide +kernel)) ggL_law_X11_power
set_option maxRecDepth 20000 in
theorem ggL_law_X10_strands : GoodIn wsN_law wsX10_strands := goodIn_r _ [831, 27, 981, 982, 983, 984, 985, 986, 987, 988, 989, 990, 991, 992, 993, 994, 995, 1029, 1030, 1031, 1032, 1033, 1034] (by decide +kernel) (by decide +kernel)
set_option maxRecDepth 20000 in
theorem gL_law_X10_strands : GoodIn wsN_law (wsV RL 137 RX10 yX10_strands wsX10_strands) := goodIn_app (goodIn_of _ (by decide +kernel)) ggL_law_X10_strands
set_option maxRecDepth 20000 in
theorem ggL_law_X11_strands : GoodIn wsN_law wsX11_strands := goodIn_r _ [835, 211, 726, 473, 149, 373, 213, 214, 5, 215, 996, 997, 998, 999, 1000, 1001, 1002, 1003, 1004, 1005, 1006, 1007, 1008, 1009, 1010, 1011, 1012, 1013, 1014, 1015, 1016, 1017, 1018, 1019, 1020, 1021, 1022, 1023, 1024] (by decide +kernel) (by decide +kernel)
set_option maxRecDepth 20000 in
theorem gL_law_X11_strands : GoodIn wsN_law (wsV RL 140 RX11 yX11_strands wsX11_strands) := goodIn_app (goodIn_of _ (by decide +kernel)) ggL_law_X11_strands
set_option maxRecDepth 20000 in
theorem ggL_law_X10_letter : GoodIn wsN_law wsX10_letter := goodIn_r _ [839, 27, 840, 841, 842, 26, 843, 75, 70, 981, 982, 983, 984, 985, 986, 987, 988, 989, 990, 991, 992, 993, 994, 995, 1029, 1030, 1031, 1032, 1033, 1034] (by decide +kernel) (by decide +kernel)
set_option maxRecDepth 20000 in
theorem gL_law_X10_letter : GoodIn wsN_law (wsV RL 141 RX10 yX10_letter wsX10_letter) := goodIn_app (goodIn_of _ (by decide +kernel)) ggL_law_X10_letter
set_option maxRecDepth 20000 in
theorem ggL_law_X11_letter : GoodIn wsN_law wsX11_letter := goodIn_r _ [847, 211, 149, 373, 150, 213, 214, 5, 215, 996, 997, 998, 999, 1000, 1001, 1002, 1003, 1004, 1005, 1006, 1007, 1008, 1009, 1010, 1011, 1012, 1013, 1014, 1015, 1016, 1017, 1018, 1019, 1020, 1021, 1022, 1023, 1024] (by decide +kernel) (by decide +kernel)
set_option maxRecDepth 20000 in
theorem gL_law_X11_letter : GoodIn wsN_law (wsV RL 144 RX11 yX11_letter wsX11_letter) := goodIn_app (goodIn_of _ (by decide +kernel)) ggL_law_X11_letter
set_option maxRecDepth 20000 in
theorem ggL_law_X10_colours : GoodIn wsN_law wsX10_colours := goodIn_r _ [851, 16, 18, 27, 23, 416, 417, 418, 15, 419, 420, 380, 381, 382, 61, 383, 249, 250, 251, 60, 421, 389, 390, 391, 661, 662, 663, 664, 183, 184, 185, 186, 852, 853, 854, 26, 855, 73, 74, 75, 70, 856, 204, 205, 206, 857, 858, 859, 860, 71, 72, 861, 862, 863, 864, 865, 866, 745, 746, 22, 747, 65, 867, 868, 869, 870, 871, 872, 873, 874, 875, 276, 277, 278, 876, 877, 878, 879, 981, 982, 983, 984, 985, 986, 987, 988, 989, 990, 991, 992, 993, 994, 995, 1027, 1028, 1025, 1026, 1029, 1030, 1031, 1032, 1033, 1034] (by decide +kernel) (by decide +kernel)
set_option maxRecDepth 20000 in
theorem gL_law_X10_colours : GoodIn wsN_law (wsV RL 145 RX10 yX10_colours wsX10_colours) := goodIn_app (goodIn_of _ (by decide +kernel)) ggL_law_X10_colours
set_option maxRecDepth 20000 in
theorem ggL_law_X11_colours : GoodIn wsN_law wsX11_colours := goodIn_r _ [883, 211, 474, 475, 476, 5, 477, 400, 401, 402, 403, 128, 256, 257, 258, 259, 129, 404, 405, 406, 407, 884, 885, 886, 887, 149, 888, 889, 890, 891, 151, 373, 150, 892, 893, 448, 894, 130, 752, 753, 754, 755, 131, 290, 276, 277, 278, 996, 997, 998, 999, 1000, 1001, 1002, 1003, 1004, 1005, 1006, 1007, 1008, 1009, 1010, 1011, 1012, 1013, 1014, 1015, 1016, 1017, 1018, 1019, 1020, 1021, 1022, 1023, 1024] (by decide +kernel) (by decide +kernel)
set_option maxRecDepth 20000 in
theorem gL_law_X11_colours : GoodIn wsN_law (wsV RL 148 RX11 yX11_colours wsX11_colours) := goodIn_app (goodIn_of _ (by decide +kernel)) ggL_law_X11_colours
set_option maxRecDepth 20000 in
theorem ggL_law_X10_sums : GoodIn wsN_law wsX10_sums := goodIn_r _ [898, 23, 16, 18, 27, 416, 417, 418, 15, 419, 420, 380, 381, 382, 61, 383, 249, 250, 251, 60, 421, 389, 390, 391, 661, 662, 663, 664, 183, 184, 185, 186, 852, 853, 854, 26, 855, 73, 74, 75, 70, 856, 204, 205, 206, 857, 858, 859, 860, 71, 72, 861, 862, 863, 864, 865, 866, 745, 746, 22, 747, 65, 867, 868, 869, 870, 871, 872, 873, 874, 875, 276, 277, 278, 876, 877, 878, 879, 981, 982, 983, 984, 985, 986, 987, 988, 989, 990, 991, 992, 993, 994, 995, 1027, 1028, 1025, 1026, 1029, 1030, 1031, 1032, 1033, 1034] (by decide +kernel) (by decide +kernel)
set_option maxRecDepth 20000 in
theorem gL_law_X10_sums : GoodIn wsN_law (wsV RL 149 RX10 yX10_sums wsX10_sums) := goodIn_app (goodIn_of _ (by decide +kernel)) ggL_law_X10_sums
set_option maxRecDepth 20000 in
theorem ggL_law_X11_sums : GoodIn wsN_law wsX11_sums := goodIn_r _ [902, 211, 130, 213, 214, 5, 215, 474, 475, 476, 477, 400, 401, 402, 403, 128, 256, 257, 258, 259, 129, 404, 405, 406, 407, 884, 885, 886, 887, 149, 888, 889, 890, 891, 151, 373, 150, 892, 893, 448, 894, 752, 753, 754, 755, 131, 290, 276, 277, 278, 996, 997, 998, 999, 1000, 1001, 1002, 1003, 1004, 1005, 1006, 1007, 1008, 1009, 1010, 1011, 1012, 1013, 1014, 1015, 1016, 1017, 1018, 1019, 1020, 1021, 1022, 1023, 1024] (by decide +kernel) (by decide +kernel)
set_option maxRecDepth 20000 in
theorem gL_law_X11_sums : GoodIn wsN_law (wsV RL 152 RX11 yX11_sums wsX11_sums) := goodIn_app (goodIn_of _ (by decide +kernel)) ggL_law_X11_sums
set_option maxRecDepth 20000 in
theorem ggL_law_X10_listed : GoodIn wsN_law wsX10_listed := goodIn_r _ [906, 51, 39, 907, 908, 2, 909, 910, 911, 912, 50, 913, 120, 122, 119, 914, 915, 916, 917, 918, 576, 577, 38, 578, 93, 98, 95, 579, 192, 193, 15, 194, 61, 60, 195, 196, 197, 198, 580, 204, 205, 206, 581, 582, 583, 584, 96, 585, 586, 587, 588, 589, 590, 591, 249, 250, 251, 592, 593, 594, 595, 596, 597, 598, 599, 94, 600, 601, 602, 603, 604, 184, 185, 186, 605, 606, 607, 608, 609, 610, 611, 612, 613, 614, 615, 616, 617, 618, 619, 620, 97, 621, 622, 623, 624, 625, 626, 627, 628, 919, 920, 921, 922, 923, 924, 167, 168, 169, 170, 171, 172, 173, 174, 175, 925, 177, 178, 179, 180, 181, 182, 183, 926, 927, 928, 929, 930, 931, 932, 933, 934, 935, 981, 982, 983, 984, 985, 986, 987, 988, 989, 990, 991, 992, 993, 994, 995, 1057, 1058, 1059, 1025, 1026, 1042, 1043, 1044, 1045, 1046, 1047] (by decide +kernel) (by decide +kernel)
set_option maxRecDepth 20000 in
theorem gL_law_X10_listed : GoodIn wsN_law (wsV RL 153 RX10 yX10_listed wsX10_listed) := goodIn_app (goodIn_of _ (by decide +kernel)) ggL_law_X10_listed
set_option maxRecDepth 20000 in
theorem ggL_law_X11_listed : GoodIn wsN_law wsX11_listed := goodIn_r _ [939, 211, 940, 941, 942, 5, 943, 473, 213, 214, 215, 944, 945, 946, 947, 948, 949, 128, 152, 129, 950, 951, 952, 953, 153, 133, 404, 405, 406, 407, 256, 257, 258, 259, 633, 634, 635, 636, 144, 132, 145, 296, 297, 298, 299, 300, 301, 637, 638, 639, 640, 641, 642, 643, 644, 996, 997, 998, 999, 1000, 1001, 1002, 1003, 1004, 1005, 1006, 1007, 1008, 1009, 1010, 1011, 1012, 1013, 1014, 1015, 1016, 1017, 1018, 1019, 1020, 1021, 1022, 1023, 1024] (by decide +kernel) (by decide +kernel)
set_option maxRecDepth 20000 in
theorem gL_law_X11_listed : GoodIn wsN_law (wsV RL 156 RX11 yX11_listed wsX11_listed) := goodIn_app (goodIn_of _ (by decide +kernel)) ggL_law_X11_listed
set_option maxRecDepth 20000 in
theorem ggL_law_X10_pick : GoodIn wsN_law wsX10_pick := goodIn_r _ [957, 51, 39, 17, 907, 908, 2, 909, 910, 911, 912, 50, 913, 120, 122, 119, 914, 915, 916, 917, 918, 576, 577, 38, 578, 93, 98, 95, 579, 192, 193, 15, 194, 61, 60, 195, 196, 197, 198, 580, 204, 205, 206, 581, 582, 583, 584, 96, 585, 586, 587, 588, 589, 590, 591, 249, 250, 251, 592, 593, 594, 595, 596, 597, 598, 599, 94, 600, 601, 602, 603, 604, 184, 185, 186, 605, 606, 607, 608, 609, 610, 611, 612, 613, 614, 615, 616, 617, 618, 619, 620, 97, 621, 622, 623, 624, 625, 626, 627, 628, 919, 920, 921, 922, 923, 924, 167, 168, 169, 170, 171, 172, 173, 174, 175, 925, 177, 178, 179, 180, 181, 182, 183, 926, 927, 928, 929, 930, 931, 932, 933, 934, 935, 958, 959, 960, 961, 962, 963, 964, 965, 187, 188, 189, 190, 16, 23, 191, 199, 200, 201, 22, 202, 65, 203, 981, 982, 983, 984, 985, 986, 987, 988, 989, 990, 991, 992, 993, 994, 995, 1057, 1058, 1059, 1025, 1026, 1042, 1043, 1044, 1045, 1046, 1047, 1027, 1028] (by decide +kernel) (by decide +kernel)
set_option maxRecDepth 20000 in
theorem gL_law_X10_pick : GoodIn wsN_law (wsV RL 157 RX10 yX10_pick wsX10_pick) := goodIn_app (goodIn_of _ (by decide +kernel)) ggL_law_X10_pick
set_option maxRecDepth 20000 in
theorem ggL_law_X11_pick : GoodIn wsN_law wsX11_pick := goodIn_r _ [969, 211, 940, 129, 153, 941, 942, 5, 943, 473, 213, 214, 215, 944, 945, 946, 947, 948, 949, 128, 152, 950, 951, 952, 953, 133, 404, 405, 406, 407, 256, 257, 258, 259, 633, 634, 635, 636, 144, 132, 145, 296, 297, 298, 299, 300, 301, 637, 638, 639, 640, 641, 642, 643, 644, 286, 287, 288, 289, 216, 217, 218, 219, 131, 996, 997, 998, 999, 1000, 1001, 1002, 1003, 1004, 1005, 1006, 1007, 1008, 1009, 1010, 1011, 1012, 1013, 1014, 1015, 1016, 1017, 1018, 1019, 1020, 1021, 1022, 1023, 1024] (by decide +kernel) (by decide +kernel)
set_option maxRecDepth 20000 in
theorem gL_law_X11_pick : GoodIn wsN_law (wsV RL 160 RX11 yX11_pick wsX11_pick) := goodIn_app (goodIn_of _ (by decide +kernel)) ggL_law_X11_pick
set_option maxRecDepth 20000 in
theorem ggL_law_L_row : GoodIn wsN_law wsYL_row := goodIn_ca (goodIn_r _ [972, 241, 973, 974, 975, 2, 976, 246, 247, 55, 54, 981, 982, 983, 984, 985, 986, 987, 988, 989, 990, 991, 992, 993, 994, 995] (by decide +kernel) (by decide +kernel)) (goodIn_sub (fun _ h => List.mem_append_right _ h) (by decide +kernel))
set_option maxRecDepth 20000 in
theorem gL_law_L_row : GoodIn wsN_law (va_wsS RL 161 yL_row wsYL_row) := goodIn_app (goodIn_of _ (by decide +kernel)) ggL_law_L_row
set_option maxRecDepth 20000 in
theorem ggL_law_X11_row : GoodIn wsN_law wsX11_row := goodIn_r _ [980, 211, 374, 138, 213, 214, 5, 215, 260, 261, 262, 263, 996, 997, 998, 999, 1000, 1001, 1002, 1003, 1004, 1005, 1006, 1007, 1008, 1009, 1010, 1011, 1012, 1013, 1014, 1015, 1016, 1017, 1018, 1019, 1020, 1021, 1022, 1023, 1024] (by decide +kernel) (by decide +kernel)
set_option maxRecDepth 20000 in
theorem gL_law_X11_row : GoodIn wsN_law (wsV RL 164 RX11 yX11_row wsX11_row) := goodIn_app (goodIn_of _ (by decide +kernel)) ggL_law_X11_row
