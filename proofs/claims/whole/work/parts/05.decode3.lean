theorem dX10_listed_21 : decode cX10_listed 21 = .ok (.goto 4, 3) := by decide +kernel
theorem dX10_listed_24 : decode cX10_listed 24 = .ok (.iconst 0, 1) := by decide +kernel
theorem dX10_listed_25 : decode cX10_listed 25 = .ok (.aload_n 0, 1) := by decide +kernel
theorem dX10_listed_26 : decode cX10_listed 26 = .ok (.getfield 59, 3) := by decide +kernel
theorem dX10_listed_29 : decode cX10_listed 29 = .ok (.invokevirtual 268, 3) := by decide +kernel
theorem dX10_listed_32 : decode cX10_listed 32 = .ok (.ireturn, 1) := by decide +kernel
set_option maxRecDepth 20000 in
theorem ggX10_pick_X10_isList : GoodIn wsX10_pick wsX10_isList := goodIn_r _ [7] (by decide +kernel) (by decide +kernel)
set_option maxRecDepth 20000 in
theorem gX10_pick_X10_isList : GoodIn wsX10_pick (va_wsS RX10 265 yX10_isList wsX10_isList) := goodIn_app (goodIn_of _ (by decide +kernel)) ggX10_pick_X10_isList
set_option maxRecDepth 20000 in
theorem ggX10_pick_X2_sizeOf : GoodIn wsX10_pick wsX2_sizeOf := goodIn_r _ [12, 13, 14, 15, 16, 17, 18, 11, 19, 20, 21, 22, 23, 24, 25, 26, 27, 28, 29, 30, 31, 32, 33, 34, 35, 36, 37, 38, 39, 40, 41, 42, 43, 44, 45, 46, 47, 48, 49, 50, 51, 52, 53, 54, 55, 56, 57, 58, 59, 60, 61, 62, 63, 64, 65, 66, 67, 68, 69, 70, 71, 72, 73, 74, 75, 76, 77, 78, 79, 80, 81, 82, 83, 84, 85, 86, 87, 88, 89, 90, 91, 92, 93, 94, 95, 96, 97, 98, 99, 100, 101, 102, 103, 104, 105, 106, 107, 108, 109, 110, 111, 112, 113, 114, 115, 116, 117, 118, 119, 120, 121, 122, 123, 124, 125, 126, 127, 128, 129, 130, 131, 132, 170, 171, 172, 173, 174, 175, 176, 177, 178, 179, 180] (by decide +kernel) (by decide +kernel)
set_option maxRecDepth 20000 in
theorem gX10_pick_X2_sizeOf : GoodIn wsX10_pick (wsV RX10 268 RX2 yX2_sizeOf wsX2_sizeOf) := goodIn_app (goodIn_of _ (by decide +kernel)) ggX10_pick_X2_sizeOf
set_option maxRecDepth 20000 in
theorem ggX10_pick_X2_unpack : GoodIn wsX10_pick wsX2_unpack := goodIn_r _ [136, 13, 15, 127, 128, 11, 129, 130, 131, 132, 137, 138, 139, 140, 72, 73, 31, 74, 34, 170, 171, 172, 173, 174] (by decide +kernel) (by decide +kernel)
set_option maxRecDepth 20000 in
theorem gX10_pick_X2_unpack : GoodIn wsX10_pick (wsV RX10 272 RX2 yX2_unpack wsX2_unpack) := goodIn_app (goodIn_of _ (by decide +kernel)) ggX10_pick_X2_unpack
set_option maxRecDepth 20000 in
theorem ggX10_pick_X10_adoptDraft : GoodIn wsX10_pick wsX10_adoptDraft := goodIn_r _ [144, 145, 3, 146, 147, 29, 30, 31, 32, 33, 34, 35, 36, 37, 38, 148, 149, 150, 151, 152, 153, 154, 40, 41, 42, 155, 156, 157, 158, 159, 160, 161, 162, 163, 164, 165, 166, 167, 168, 169, 173, 174, 181, 182] (by decide +kernel) (by decide +kernel)
set_option maxRecDepth 20000 in
theorem gX10_pick_X10_adoptDraft : GoodIn wsX10_pick (wsV RX10 132 RX10 yX10_adoptDraft wsX10_adoptDraft) := goodIn_app (goodIn_of _ (by decide +kernel)) ggX10_pick_X10_adoptDraft
theorem dX10_pick_0 : decode cX10_pick 0 = .ok (.iload_n 1, 1) := by decide +kernel
theorem dX10_pick_1 : decode cX10_pick 1 = .ok (.iload_n 2, 1) := by decide +kernel
theorem dX10_pick_2 : decode cX10_pick 2 = .ok (.invokestatic 265, 3) := by decide +kernel
theorem dX10_pick_5 : decode cX10_pick 5 = .ok (.ifCond .eq 33, 3) := by decide +kernel
theorem dX10_pick_8 : decode cX10_pick 8 = .ok (.iload_n 3, 1) := by decide +kernel
theorem dX10_pick_9 : decode cX10_pick 9 = .ok (.ifCond .lt 29, 3) := by decide +kernel
theorem dX10_pick_12 : decode cX10_pick 12 = .ok (.iload_n 3, 1) := by decide +kernel
theorem dX10_pick_13 : decode cX10_pick 13 = .ok (.aload_n 0, 1) := by decide +kernel
theorem dX10_pick_14 : decode cX10_pick 14 = .ok (.getfield 80, 3) := by decide +kernel
theorem dX10_pick_17 : decode cX10_pick 17 = .ok (.iload_n 1, 1) := by decide +kernel
theorem dX10_pick_18 : decode cX10_pick 18 = .ok (.iload_n 2, 1) := by decide +kernel
theorem dX10_pick_19 : decode cX10_pick 19 = .ok (.iconst 1, 1) := by decide +kernel
theorem dX10_pick_20 : decode cX10_pick 20 = .ok (.if_icmp .ne 7, 3) := by decide +kernel
theorem dX10_pick_23 : decode cX10_pick 23 = .ok (.iconst 1, 1) := by decide +kernel
theorem dX10_pick_24 : decode cX10_pick 24 = .ok (.goto 4, 3) := by decide +kernel
theorem dX10_pick_27 : decode cX10_pick 27 = .ok (.iconst 0, 1) := by decide +kernel
theorem dX10_pick_28 : decode cX10_pick 28 = .ok (.aload_n 0, 1) := by decide +kernel
theorem dX10_pick_29 : decode cX10_pick 29 = .ok (.getfield 59, 3) := by decide +kernel
theorem dX10_pick_32 : decode cX10_pick 32 = .ok (.invokevirtual 268, 3) := by decide +kernel
theorem dX10_pick_35 : decode cX10_pick 35 = .ok (.if_icmp .lt 5, 3) := by decide +kernel
theorem dX10_pick_38 : decode cX10_pick 38 = .ok (.iconst 0, 1) := by decide +kernel
theorem dX10_pick_39 : decode cX10_pick 39 = .ok (.ireturn, 1) := by decide +kernel
theorem dX10_pick_40 : decode cX10_pick 40 = .ok (.aload_n 0, 1) := by decide +kernel
theorem dX10_pick_41 : decode cX10_pick 41 = .ok (.getfield 80, 3) := by decide +kernel
theorem dX10_pick_44 : decode cX10_pick 44 = .ok (.iload_n 1, 1) := by decide +kernel
theorem dX10_pick_45 : decode cX10_pick 45 = .ok (.iload_n 2, 1) := by decide +kernel
theorem dX10_pick_46 : decode cX10_pick 46 = .ok (.iconst 1, 1) := by decide +kernel
theorem dX10_pick_47 : decode cX10_pick 47 = .ok (.if_icmp .ne 7, 3) := by decide +kernel
theorem dX10_pick_50 : decode cX10_pick 50 = .ok (.iconst 1, 1) := by decide +kernel
theorem dX10_pick_51 : decode cX10_pick 51 = .ok (.goto 4, 3) := by decide +kernel
theorem dX10_pick_54 : decode cX10_pick 54 = .ok (.iconst 0, 1) := by decide +kernel
theorem dX10_pick_55 : decode cX10_pick 55 = .ok (.iload_n 3, 1) := by decide +kernel
theorem dX10_pick_56 : decode cX10_pick 56 = .ok (.aload_n 0, 1) := by decide +kernel
theorem dX10_pick_57 : decode cX10_pick 57 = .ok (.getfield 18, 3) := by decide +kernel
theorem dX10_pick_60 : decode cX10_pick 60 = .ok (.invokevirtual 272, 3) := by decide +kernel
theorem dX10_pick_63 : decode cX10_pick 63 = .ok (.aload_n 0, 1) := by decide +kernel
theorem dX10_pick_64 : decode cX10_pick 64 = .ok (.invokevirtual 132, 3) := by decide +kernel
theorem dX10_pick_67 : decode cX10_pick 67 = .ok (.pop, 1) := by decide +kernel
theorem dX10_pick_68 : decode cX10_pick 68 = .ok (.iconst 1, 1) := by decide +kernel
theorem dX10_pick_69 : decode cX10_pick 69 = .ok (.ireturn, 1) := by decide +kernel
theorem dX10_row_0 : decode cX10_row 0 = .ok (.iload_n 1, 1) := by decide +kernel
theorem dX10_row_1 : decode cX10_row 1 = .ok (.ifCond .lt 11, 3) := by decide +kernel
theorem dX10_row_4 : decode cX10_row 4 = .ok (.iload_n 1, 1) := by decide +kernel
theorem dX10_row_5 : decode cX10_row 5 = .ok (.aload_n 0, 1) := by decide +kernel
theorem dX10_row_6 : decode cX10_row 6 = .ok (.getfield 91, 3) := by decide +kernel
theorem dX10_row_9 : decode cX10_row 9 = .ok (.if_icmp .lt 14, 3) := by decide +kernel
theorem dX10_row_12 : decode cX10_row 12 = .ok (.new 107, 3) := by decide +kernel
theorem dX10_row_15 : decode cX10_row 15 = .ok (.dup, 1) := by decide +kernel
theorem dX10_row_16 : decode cX10_row 16 = .ok (.ldc_w 276, 3) := by decide +kernel
theorem dX10_row_19 : decode cX10_row 19 = .ok (.invokespecial 111, 3) := by decide +kernel
theorem dX10_row_22 : decode cX10_row 22 = .ok (.athrow, 1) := by decide +kernel
theorem dX10_row_23 : decode cX10_row 23 = .ok (.aload_n 0, 1) := by decide +kernel
theorem dX10_row_24 : decode cX10_row 24 = .ok (.getfield 88, 3) := by decide +kernel
theorem dX10_row_27 : decode cX10_row 27 = .ok (.iload_n 1, 1) := by decide +kernel
theorem dX10_row_28 : decode cX10_row 28 = .ok (.iaload, 1) := by decide +kernel
theorem dX10_row_29 : decode cX10_row 29 = .ok (.ireturn, 1) := by decide +kernel
theorem dX10_isSize_0 : decode cX10_isSize 0 = .ok (.iload_n 0, 1) := by decide +kernel
theorem dX10_isSize_1 : decode cX10_isSize 1 = .ok (.iconst 1, 1) := by decide +kernel
theorem dX10_isSize_2 : decode cX10_isSize 2 = .ok (.if_icmp .lt 13, 3) := by decide +kernel
theorem dX10_isSize_5 : decode cX10_isSize 5 = .ok (.iload_n 0, 1) := by decide +kernel
theorem dX10_isSize_6 : decode cX10_isSize 6 = .ok (.bipush 8, 2) := by decide +kernel
theorem dX10_isSize_8 : decode cX10_isSize 8 = .ok (.if_icmp .gt 7, 3) := by decide +kernel
theorem dX10_isSize_11 : decode cX10_isSize 11 = .ok (.iconst 1, 1) := by decide +kernel
theorem dX10_isSize_12 : decode cX10_isSize 12 = .ok (.goto 4, 3) := by decide +kernel
theorem dX10_isSize_15 : decode cX10_isSize 15 = .ok (.iconst 0, 1) := by decide +kernel
theorem dX10_isSize_16 : decode cX10_isSize 16 = .ok (.ireturn, 1) := by decide +kernel
theorem dX10_isKeep_0 : decode cX10_isKeep 0 = .ok (.iload_n 0, 1) := by decide +kernel
theorem dX10_isKeep_1 : decode cX10_isKeep 1 = .ok (.ifCond .lt 12, 3) := by decide +kernel
theorem dX10_isKeep_4 : decode cX10_isKeep 4 = .ok (.iload_n 0, 1) := by decide +kernel
theorem dX10_isKeep_5 : decode cX10_isKeep 5 = .ok (.iconst 4, 1) := by decide +kernel
theorem dX10_isKeep_6 : decode cX10_isKeep 6 = .ok (.if_icmp .ge 7, 3) := by decide +kernel
theorem dX10_isKeep_9 : decode cX10_isKeep 9 = .ok (.iconst 1, 1) := by decide +kernel
theorem dX10_isKeep_10 : decode cX10_isKeep 10 = .ok (.goto 4, 3) := by decide +kernel
theorem dX10_isKeep_13 : decode cX10_isKeep 13 = .ok (.iconst 0, 1) := by decide +kernel
theorem dX10_isKeep_14 : decode cX10_isKeep 14 = .ok (.ireturn, 1) := by decide +kernel
set_option maxRecDepth 20000 in
theorem ggX10_isFilled_X10_isKeep : GoodIn wsX10_isFilled wsX10_isKeep := goodIn_r _ [5] (by decide +kernel) (by decide +kernel)
set_option maxRecDepth 20000 in
theorem gX10_isFilled_X10_isKeep : GoodIn wsX10_isFilled (va_wsS RX10 161 yX10_isKeep wsX10_isKeep) := goodIn_app (goodIn_of _ (by decide +kernel)) ggX10_isFilled_X10_isKeep
theorem dX10_isFilled_0 : decode cX10_isFilled 0 = .ok (.iload_n 1, 1) := by decide +kernel
theorem dX10_isFilled_1 : decode cX10_isFilled 1 = .ok (.invokestatic 161, 3) := by decide +kernel
theorem dX10_isFilled_4 : decode cX10_isFilled 4 = .ok (.ifCond .eq 19, 3) := by decide +kernel
theorem dX10_isFilled_7 : decode cX10_isFilled 7 = .ok (.aload_n 0, 1) := by decide +kernel
theorem dX10_isFilled_8 : decode cX10_isFilled 8 = .ok (.getfield 24, 3) := by decide +kernel
theorem dX10_isFilled_11 : decode cX10_isFilled 11 = .ok (.iload_n 1, 1) := by decide +kernel
theorem dX10_isFilled_12 : decode cX10_isFilled 12 = .ok (.aaload, 1) := by decide +kernel
theorem dX10_isFilled_13 : decode cX10_isFilled 13 = .ok (.getfield 124, 3) := by decide +kernel
theorem dX10_isFilled_16 : decode cX10_isFilled 16 = .ok (.ifCond .le 7, 3) := by decide +kernel
theorem dX10_isFilled_19 : decode cX10_isFilled 19 = .ok (.iconst 1, 1) := by decide +kernel
theorem dX10_isFilled_20 : decode cX10_isFilled 20 = .ok (.goto 4, 3) := by decide +kernel
theorem dX10_isFilled_23 : decode cX10_isFilled 23 = .ok (.iconst 0, 1) := by decide +kernel
theorem dX10_isFilled_24 : decode cX10_isFilled 24 = .ok (.ireturn, 1) := by decide +kernel
theorem dX10_isList_0 : decode cX10_isList 0 = .ok (.iload_n 0, 1) := by decide +kernel
theorem dX10_isList_1 : decode cX10_isList 1 = .ok (.iconst 1, 1) := by decide +kernel
theorem dX10_isList_2 : decode cX10_isList 2 = .ok (.if_icmp .lt 21, 3) := by decide +kernel
theorem dX10_isList_5 : decode cX10_isList 5 = .ok (.iload_n 0, 1) := by decide +kernel
theorem dX10_isList_6 : decode cX10_isList 6 = .ok (.iconst 4, 1) := by decide +kernel
theorem dX10_isList_7 : decode cX10_isList 7 = .ok (.if_icmp .gt 16, 3) := by decide +kernel
theorem dX10_isList_10 : decode cX10_isList 10 = .ok (.iload_n 1, 1) := by decide +kernel
theorem dX10_isList_11 : decode cX10_isList 11 = .ok (.ifCond .eq 8, 3) := by decide +kernel
theorem dX10_isList_14 : decode cX10_isList 14 = .ok (.iload_n 1, 1) := by decide +kernel
theorem dX10_isList_15 : decode cX10_isList 15 = .ok (.iconst 1, 1) := by decide +kernel
theorem dX10_isList_16 : decode cX10_isList 16 = .ok (.if_icmp .ne 7, 3) := by decide +kernel
theorem dX10_isList_19 : decode cX10_isList 19 = .ok (.iconst 1, 1) := by decide +kernel
theorem dX10_isList_20 : decode cX10_isList 20 = .ok (.goto 4, 3) := by decide +kernel
theorem dX10_isList_23 : decode cX10_isList 23 = .ok (.iconst 0, 1) := by decide +kernel
theorem dX10_isList_24 : decode cX10_isList 24 = .ok (.ireturn, 1) := by decide +kernel
theorem dX10_commonPart_0 : decode cX10_commonPart 0 = .ok (.iload_n 1, 1) := by decide +kernel
theorem dX10_commonPart_1 : decode cX10_commonPart 1 = .ok (.istore_n 2, 1) := by decide +kernel
theorem dX10_commonPart_2 : decode cX10_commonPart 2 = .ok (.iload_n 2, 1) := by decide +kernel
theorem dX10_commonPart_3 : decode cX10_commonPart 3 = .ok (.iconst 1, 1) := by decide +kernel
theorem dX10_commonPart_4 : decode cX10_commonPart 4 = .ok (.if_icmp .le 23, 3) := by decide +kernel
theorem dX10_commonPart_7 : decode cX10_commonPart 7 = .ok (.iload_n 1, 1) := by decide +kernel
theorem dX10_commonPart_8 : decode cX10_commonPart 8 = .ok (.iload_n 2, 1) := by decide +kernel
theorem dX10_commonPart_9 : decode cX10_commonPart 9 = .ok (.irem, 1) := by decide +kernel
theorem dX10_commonPart_10 : decode cX10_commonPart 10 = .ok (.ifCond .ne 11, 3) := by decide +kernel
theorem dX10_commonPart_13 : decode cX10_commonPart 13 = .ok (.iload_n 0, 1) := by decide +kernel
theorem dX10_commonPart_14 : decode cX10_commonPart 14 = .ok (.iload_n 2, 1) := by decide +kernel
theorem dX10_commonPart_15 : decode cX10_commonPart 15 = .ok (.irem, 1) := by decide +kernel
theorem dX10_commonPart_16 : decode cX10_commonPart 16 = .ok (.ifCond .ne 5, 3) := by decide +kernel
theorem dX10_commonPart_19 : decode cX10_commonPart 19 = .ok (.iload_n 2, 1) := by decide +kernel
theorem dX10_commonPart_20 : decode cX10_commonPart 20 = .ok (.ireturn, 1) := by decide +kernel
theorem dX10_commonPart_21 : decode cX10_commonPart 21 = .ok (.iinc 2 (-1), 3) := by decide +kernel
theorem dX10_commonPart_24 : decode cX10_commonPart 24 = .ok (.goto (-22), 3) := by decide +kernel
theorem dX10_commonPart_27 : decode cX10_commonPart 27 = .ok (.iconst 1, 1) := by decide +kernel
theorem dX10_commonPart_28 : decode cX10_commonPart 28 = .ok (.ireturn, 1) := by decide +kernel
set_option maxRecDepth 20000 in
theorem ggX10_adoptDraft_X7_copy : GoodIn wsX10_adoptDraft wsX7_copy := goodIn_r _ [8, 9, 10, 11, 12, 13, 14, 40, 41] (by decide +kernel) (by decide +kernel)
set_option maxRecDepth 20000 in
theorem gX10_adoptDraft_X7_copy : GoodIn wsX10_adoptDraft (wsV RX10 164 RX7 yX7_copy wsX7_copy) := goodIn_app (goodIn_of _ (by decide +kernel)) ggX10_adoptDraft_X7_copy
set_option maxRecDepth 20000 in
theorem ggX10_adoptDraft_X9_flatten : GoodIn wsX10_adoptDraft wsX9_flatten := goodIn_r _ [19, 20, 21, 22, 23, 24, 42, 43] (by decide +kernel) (by decide +kernel)
set_option maxRecDepth 20000 in
theorem gX10_adoptDraft_X9_flatten : GoodIn wsX10_adoptDraft (wsV RX10 241 RX9 yX9_flatten wsX9_flatten) := goodIn_app (goodIn_of _ (by decide +kernel)) ggX10_adoptDraft_X9_flatten
theorem dX10_adoptDraft_0 : decode cX10_adoptDraft 0 = .ok (.aload_n 0, 1) := by decide +kernel
theorem dX10_adoptDraft_1 : decode cX10_adoptDraft 1 = .ok (.getfield 14, 3) := by decide +kernel
theorem dX10_adoptDraft_4 : decode cX10_adoptDraft 4 = .ok (.aload_n 0, 1) := by decide +kernel
theorem dX10_adoptDraft_5 : decode cX10_adoptDraft 5 = .ok (.getfield 18, 3) := by decide +kernel
theorem dX10_adoptDraft_8 : decode cX10_adoptDraft 8 = .ok (.invokevirtual 164, 3) := by decide +kernel
theorem dX10_adoptDraft_11 : decode cX10_adoptDraft 11 = .ok (.aload_n 0, 1) := by decide +kernel
theorem dX10_adoptDraft_12 : decode cX10_adoptDraft 12 = .ok (.getfield 31, 3) := by decide +kernel
theorem dX10_adoptDraft_15 : decode cX10_adoptDraft 15 = .ok (.invokevirtual 241, 3) := by decide +kernel
theorem dX10_adoptDraft_18 : decode cX10_adoptDraft 18 = .ok (.aload_n 0, 1) := by decide +kernel
theorem dX10_adoptDraft_19 : decode cX10_adoptDraft 19 = .ok (.getfield 14, 3) := by decide +kernel
theorem dX10_adoptDraft_22 : decode cX10_adoptDraft 22 = .ok (.getfield 124, 3) := by decide +kernel
theorem dX10_adoptDraft_25 : decode cX10_adoptDraft 25 = .ok (.ireturn, 1) := by decide +kernel
theorem dX10_tell_0 : decode cX10_tell 0 = .ok (.aload_n 0, 1) := by decide +kernel
theorem dX10_tell_1 : decode cX10_tell 1 = .ok (.getfield 91, 3) := by decide +kernel
theorem dX10_tell_4 : decode cX10_tell 4 = .ok (.aload_n 0, 1) := by decide +kernel
theorem dX10_tell_5 : decode cX10_tell 5 = .ok (.getfield 88, 3) := by decide +kernel
theorem dX10_tell_8 : decode cX10_tell 8 = .ok (.arraylength, 1) := by decide +kernel
theorem dX10_tell_9 : decode cX10_tell 9 = .ok (.if_icmp .ge 23, 3) := by decide +kernel
theorem dX10_tell_12 : decode cX10_tell 12 = .ok (.aload_n 0, 1) := by decide +kernel
theorem dX10_tell_13 : decode cX10_tell 13 = .ok (.getfield 88, 3) := by decide +kernel
theorem dX10_tell_16 : decode cX10_tell 16 = .ok (.aload_n 0, 1) := by decide +kernel
theorem dX10_tell_17 : decode cX10_tell 17 = .ok (.getfield 91, 3) := by decide +kernel
theorem dX10_tell_20 : decode cX10_tell 20 = .ok (.iload_n 1, 1) := by decide +kernel
theorem dX10_tell_21 : decode cX10_tell 21 = .ok (.iastore, 1) := by decide +kernel
theorem dX10_tell_22 : decode cX10_tell 22 = .ok (.aload_n 0, 1) := by decide +kernel
theorem dX10_tell_23 : decode cX10_tell 23 = .ok (.dup, 1) := by decide +kernel
theorem dX10_tell_24 : decode cX10_tell 24 = .ok (.getfield 91, 3) := by decide +kernel
theorem dX10_tell_27 : decode cX10_tell 27 = .ok (.iconst 1, 1) := by decide +kernel
theorem dX10_tell_28 : decode cX10_tell 28 = .ok (.iadd, 1) := by decide +kernel
theorem dX10_tell_29 : decode cX10_tell 29 = .ok (.putfield 91, 3) := by decide +kernel
theorem dX10_tell_32 : decode cX10_tell 32 = .ok (.return_, 1) := by decide +kernel
set_option maxRecDepth 20000 in
theorem ggX10_tellTriple_X10_tell : GoodIn wsX10_tellTriple wsX10_tell := goodIn_r _ [6, 1, 7, 8, 9, 10, 11, 12, 13, 14, 15, 16, 17, 18, 19, 20, 21, 22] (by decide +kernel) (by decide +kernel)
set_option maxRecDepth 20000 in
theorem gX10_tellTriple_X10_tell : GoodIn wsX10_tellTriple (wsV RX10 183 RX10 yX10_tell wsX10_tell) := goodIn_app (goodIn_of _ (by decide +kernel)) ggX10_tellTriple_X10_tell
theorem dX10_tellTriple_0 : decode cX10_tellTriple 0 = .ok (.aload_n 0, 1) := by decide +kernel
theorem dX10_tellTriple_1 : decode cX10_tellTriple 1 = .ok (.iconst 0, 1) := by decide +kernel
theorem dX10_tellTriple_2 : decode cX10_tellTriple 2 = .ok (.putfield 91, 3) := by decide +kernel
theorem dX10_tellTriple_5 : decode cX10_tellTriple 5 = .ok (.aload_n 0, 1) := by decide +kernel
theorem dX10_tellTriple_6 : decode cX10_tellTriple 6 = .ok (.iload_n 1, 1) := by decide +kernel
theorem dX10_tellTriple_7 : decode cX10_tellTriple 7 = .ok (.bipush 64, 2) := by decide +kernel
theorem dX10_tellTriple_9 : decode cX10_tellTriple 9 = .ok (.idiv, 1) := by decide +kernel
theorem dX10_tellTriple_10 : decode cX10_tellTriple 10 = .ok (.invokevirtual 183, 3) := by decide +kernel
theorem dX10_tellTriple_13 : decode cX10_tellTriple 13 = .ok (.aload_n 0, 1) := by decide +kernel
theorem dX10_tellTriple_14 : decode cX10_tellTriple 14 = .ok (.iload_n 1, 1) := by decide +kernel
theorem dX10_tellTriple_15 : decode cX10_tellTriple 15 = .ok (.bipush 8, 2) := by decide +kernel
theorem dX10_tellTriple_17 : decode cX10_tellTriple 17 = .ok (.idiv, 1) := by decide +kernel
theorem dX10_tellTriple_18 : decode cX10_tellTriple 18 = .ok (.bipush 8, 2) := by decide +kernel
theorem dX10_tellTriple_20 : decode cX10_tellTriple 20 = .ok (.irem, 1) := by decide +kernel
theorem dX10_tellTriple_21 : decode cX10_tellTriple 21 = .ok (.invokevirtual 183, 3) := by decide +kernel
theorem dX10_tellTriple_24 : decode cX10_tellTriple 24 = .ok (.aload_n 0, 1) := by decide +kernel
theorem dX10_tellTriple_25 : decode cX10_tellTriple 25 = .ok (.iload_n 1, 1) := by decide +kernel
theorem dX10_tellTriple_26 : decode cX10_tellTriple 26 = .ok (.bipush 8, 2) := by decide +kernel
theorem dX10_tellTriple_28 : decode cX10_tellTriple 28 = .ok (.irem, 1) := by decide +kernel
theorem dX10_tellTriple_29 : decode cX10_tellTriple 29 = .ok (.invokevirtual 183, 3) := by decide +kernel
theorem dX10_tellTriple_32 : decode cX10_tellTriple 32 = .ok (.return_, 1) := by decide +kernel
set_option maxRecDepth 20000 in
theorem ggX10_gatherPeers_X5_numbered : GoodIn wsX10_gatherPeers wsX5_numbered := goodIn_r _ [6, 7, 8, 5, 9, 10, 11, 12] (by decide +kernel) (by decide +kernel)
set_option maxRecDepth 20000 in
theorem gX10_gatherPeers_X5_numbered : GoodIn wsX10_gatherPeers (va_wsS RX10 139 yX5_numbered wsX5_numbered) := goodIn_app (goodIn_of _ (by decide +kernel)) ggX10_gatherPeers_X5_numbered
set_option maxRecDepth 20000 in
theorem ggX10_gatherPeers_X10_cycleSum : GoodIn wsX10_gatherPeers wsX10_cycleSum := goodIn_r _ [16, 17, 18, 5, 19] (by decide +kernel) (by decide +kernel)
set_option maxRecDepth 20000 in
theorem gX10_gatherPeers_X10_cycleSum : GoodIn wsX10_gatherPeers (va_wsS RX10 278 yX10_cycleSum wsX10_cycleSum) := goodIn_app (goodIn_of _ (by decide +kernel)) ggX10_gatherPeers_X10_cycleSum
theorem dX10_gatherPeers_0 : decode cX10_gatherPeers 0 = .ok (.iconst 4, 1) := by decide +kernel
theorem dX10_gatherPeers_1 : decode cX10_gatherPeers 1 = .ok (.iload_n 1, 1) := by decide +kernel
theorem dX10_gatherPeers_2 : decode cX10_gatherPeers 2 = .ok (.invokestatic 139, 3) := by decide +kernel
theorem dX10_gatherPeers_5 : decode cX10_gatherPeers 5 = .ok (.invokestatic 278, 3) := by decide +kernel
theorem dX10_gatherPeers_8 : decode cX10_gatherPeers 8 = .ok (.istore_n 2, 1) := by decide +kernel
theorem dX10_gatherPeers_9 : decode cX10_gatherPeers 9 = .ok (.iconst 0, 1) := by decide +kernel
theorem dX10_gatherPeers_10 : decode cX10_gatherPeers 10 = .ok (.istore_n 3, 1) := by decide +kernel
theorem dX10_gatherPeers_11 : decode cX10_gatherPeers 11 = .ok (.iconst 0, 1) := by decide +kernel
theorem dX10_gatherPeers_12 : decode cX10_gatherPeers 12 = .ok (.istore 4, 2) := by decide +kernel
theorem dX10_gatherPeers_14 : decode cX10_gatherPeers 14 = .ok (.iload 4, 2) := by decide +kernel
theorem dX10_gatherPeers_16 : decode cX10_gatherPeers 16 = .ok (.getstatic 136, 3) := by decide +kernel
theorem dX10_gatherPeers_19 : decode cX10_gatherPeers 19 = .ok (.iconst 4, 1) := by decide +kernel
theorem dX10_gatherPeers_20 : decode cX10_gatherPeers 20 = .ok (.iaload, 1) := by decide +kernel
theorem dX10_gatherPeers_21 : decode cX10_gatherPeers 21 = .ok (.if_icmp .ge 46, 3) := by decide +kernel
theorem dX10_gatherPeers_24 : decode cX10_gatherPeers 24 = .ok (.iconst 4, 1) := by decide +kernel
theorem dX10_gatherPeers_25 : decode cX10_gatherPeers 25 = .ok (.iload 4, 2) := by decide +kernel
theorem dX10_gatherPeers_27 : decode cX10_gatherPeers 27 = .ok (.invokestatic 139, 3) := by decide +kernel
theorem dX10_gatherPeers_30 : decode cX10_gatherPeers 30 = .ok (.istore 5, 2) := by decide +kernel
theorem dX10_gatherPeers_32 : decode cX10_gatherPeers 32 = .ok (.iload 5, 2) := by decide +kernel
theorem dX10_gatherPeers_34 : decode cX10_gatherPeers 34 = .ok (.invokestatic 278, 3) := by decide +kernel
theorem dX10_gatherPeers_37 : decode cX10_gatherPeers 37 = .ok (.iload_n 2, 1) := by decide +kernel
theorem dX10_gatherPeers_38 : decode cX10_gatherPeers 38 = .ok (.if_icmp .ne 23, 3) := by decide +kernel
theorem dX10_gatherPeers_41 : decode cX10_gatherPeers 41 = .ok (.iload_n 3, 1) := by decide +kernel
theorem dX10_gatherPeers_42 : decode cX10_gatherPeers 42 = .ok (.aload_n 0, 1) := by decide +kernel
theorem dX10_gatherPeers_43 : decode cX10_gatherPeers 43 = .ok (.getfield 84, 3) := by decide +kernel
theorem dX10_gatherPeers_46 : decode cX10_gatherPeers 46 = .ok (.arraylength, 1) := by decide +kernel
theorem dX10_gatherPeers_47 : decode cX10_gatherPeers 47 = .ok (.if_icmp .ge 14, 3) := by decide +kernel
theorem dX10_gatherPeers_50 : decode cX10_gatherPeers 50 = .ok (.aload_n 0, 1) := by decide +kernel
theorem dX10_gatherPeers_51 : decode cX10_gatherPeers 51 = .ok (.getfield 84, 3) := by decide +kernel
theorem dX10_gatherPeers_54 : decode cX10_gatherPeers 54 = .ok (.iload_n 3, 1) := by decide +kernel
theorem dX10_gatherPeers_55 : decode cX10_gatherPeers 55 = .ok (.iload 5, 2) := by decide +kernel
theorem dX10_gatherPeers_57 : decode cX10_gatherPeers 57 = .ok (.iastore, 1) := by decide +kernel
theorem dX10_gatherPeers_58 : decode cX10_gatherPeers 58 = .ok (.iinc 3 1, 3) := by decide +kernel
theorem dX10_gatherPeers_61 : decode cX10_gatherPeers 61 = .ok (.iinc 4 1, 3) := by decide +kernel
theorem dX10_gatherPeers_64 : decode cX10_gatherPeers 64 = .ok (.goto (-50), 3) := by decide +kernel
theorem dX10_gatherPeers_67 : decode cX10_gatherPeers 67 = .ok (.iload_n 3, 1) := by decide +kernel
theorem dX10_gatherPeers_68 : decode cX10_gatherPeers 68 = .ok (.ireturn, 1) := by decide +kernel
set_option maxRecDepth 20000 in
theorem ggX10_cycleSum_X5_image : GoodIn wsX10_cycleSum wsX5_image := goodIn_r _ [4] (by decide +kernel) (by decide +kernel)
set_option maxRecDepth 20000 in
theorem gX10_cycleSum_X5_image : GoodIn wsX10_cycleSum (va_wsS RX10 281 yX5_image wsX5_image) := goodIn_app (goodIn_of _ (by decide +kernel)) ggX10_cycleSum_X5_image
theorem dX10_cycleSum_0 : decode cX10_cycleSum 0 = .ok (.iconst 0, 1) := by decide +kernel
theorem dX10_cycleSum_1 : decode cX10_cycleSum 1 = .ok (.istore_n 1, 1) := by decide +kernel
theorem dX10_cycleSum_2 : decode cX10_cycleSum 2 = .ok (.iconst 0, 1) := by decide +kernel
theorem dX10_cycleSum_3 : decode cX10_cycleSum 3 = .ok (.istore_n 2, 1) := by decide +kernel
theorem dX10_cycleSum_4 : decode cX10_cycleSum 4 = .ok (.iload_n 2, 1) := by decide +kernel
theorem dX10_cycleSum_5 : decode cX10_cycleSum 5 = .ok (.iconst 4, 1) := by decide +kernel
theorem dX10_cycleSum_6 : decode cX10_cycleSum 6 = .ok (.if_icmp .ge 47, 3) := by decide +kernel
theorem dX10_cycleSum_9 : decode cX10_cycleSum 9 = .ok (.iconst 1, 1) := by decide +kernel
theorem dX10_cycleSum_10 : decode cX10_cycleSum 10 = .ok (.istore_n 3, 1) := by decide +kernel
theorem dX10_cycleSum_11 : decode cX10_cycleSum 11 = .ok (.iload_n 0, 1) := by decide +kernel
theorem dX10_cycleSum_12 : decode cX10_cycleSum 12 = .ok (.iload_n 2, 1) := by decide +kernel
theorem dX10_cycleSum_13 : decode cX10_cycleSum 13 = .ok (.invokestatic 281, 3) := by decide +kernel
theorem dX10_cycleSum_16 : decode cX10_cycleSum 16 = .ok (.istore 4, 2) := by decide +kernel
theorem dX10_cycleSum_18 : decode cX10_cycleSum 18 = .ok (.iload 4, 2) := by decide +kernel
theorem dX10_cycleSum_20 : decode cX10_cycleSum 20 = .ok (.iload_n 2, 1) := by decide +kernel
theorem dX10_cycleSum_21 : decode cX10_cycleSum 21 = .ok (.if_icmp .eq 22, 3) := by decide +kernel
theorem dX10_cycleSum_24 : decode cX10_cycleSum 24 = .ok (.iload_n 3, 1) := by decide +kernel
theorem dX10_cycleSum_25 : decode cX10_cycleSum 25 = .ok (.iconst 4, 1) := by decide +kernel
theorem dX10_cycleSum_26 : decode cX10_cycleSum 26 = .ok (.if_icmp .ge 17, 3) := by decide +kernel
theorem dX10_cycleSum_29 : decode cX10_cycleSum 29 = .ok (.iload_n 0, 1) := by decide +kernel
theorem dX10_cycleSum_30 : decode cX10_cycleSum 30 = .ok (.iload 4, 2) := by decide +kernel
theorem dX10_cycleSum_32 : decode cX10_cycleSum 32 = .ok (.invokestatic 281, 3) := by decide +kernel
theorem dX10_cycleSum_35 : decode cX10_cycleSum 35 = .ok (.istore 4, 2) := by decide +kernel
theorem dX10_cycleSum_37 : decode cX10_cycleSum 37 = .ok (.iinc 3 1, 3) := by decide +kernel
theorem dX10_cycleSum_40 : decode cX10_cycleSum 40 = .ok (.goto (-22), 3) := by decide +kernel
theorem dX10_cycleSum_43 : decode cX10_cycleSum 43 = .ok (.iload_n 1, 1) := by decide +kernel
theorem dX10_cycleSum_44 : decode cX10_cycleSum 44 = .ok (.iload_n 3, 1) := by decide +kernel
theorem dX10_cycleSum_45 : decode cX10_cycleSum 45 = .ok (.iadd, 1) := by decide +kernel
theorem dX10_cycleSum_46 : decode cX10_cycleSum 46 = .ok (.istore_n 1, 1) := by decide +kernel
theorem dX10_cycleSum_47 : decode cX10_cycleSum 47 = .ok (.iinc 2 1, 3) := by decide +kernel
theorem dX10_cycleSum_50 : decode cX10_cycleSum 50 = .ok (.goto (-46), 3) := by decide +kernel
theorem dX10_cycleSum_53 : decode cX10_cycleSum 53 = .ok (.iload_n 1, 1) := by decide +kernel
theorem dX10_cycleSum_54 : decode cX10_cycleSum 54 = .ok (.ireturn, 1) := by decide +kernel
theorem dX10_peerOf_0 : decode cX10_peerOf 0 = .ok (.iconst 0, 1) := by decide +kernel
theorem dX10_peerOf_1 : decode cX10_peerOf 1 = .ok (.istore_n 3, 1) := by decide +kernel
theorem dX10_peerOf_2 : decode cX10_peerOf 2 = .ok (.iconst 0, 1) := by decide +kernel
theorem dX10_peerOf_3 : decode cX10_peerOf 3 = .ok (.istore 4, 2) := by decide +kernel
theorem dX10_peerOf_5 : decode cX10_peerOf 5 = .ok (.iload 4, 2) := by decide +kernel
theorem dX10_peerOf_7 : decode cX10_peerOf 7 = .ok (.iload_n 2, 1) := by decide +kernel
theorem dX10_peerOf_8 : decode cX10_peerOf 8 = .ok (.if_icmp .ge 23, 3) := by decide +kernel
theorem dX10_peerOf_11 : decode cX10_peerOf 11 = .ok (.aload_n 0, 1) := by decide +kernel
theorem dX10_peerOf_12 : decode cX10_peerOf 12 = .ok (.getfield 84, 3) := by decide +kernel
theorem dX10_peerOf_15 : decode cX10_peerOf 15 = .ok (.iload 4, 2) := by decide +kernel
theorem dX10_peerOf_17 : decode cX10_peerOf 17 = .ok (.iaload, 1) := by decide +kernel
theorem dX10_peerOf_18 : decode cX10_peerOf 18 = .ok (.iload_n 1, 1) := by decide +kernel
theorem dX10_peerOf_19 : decode cX10_peerOf 19 = .ok (.if_icmp .ne 6, 3) := by decide +kernel
theorem dX10_peerOf_22 : decode cX10_peerOf 22 = .ok (.iload 4, 2) := by decide +kernel
theorem dX10_peerOf_24 : decode cX10_peerOf 24 = .ok (.istore_n 3, 1) := by decide +kernel
theorem dX10_peerOf_25 : decode cX10_peerOf 25 = .ok (.iinc 4 1, 3) := by decide +kernel
theorem dX10_peerOf_28 : decode cX10_peerOf 28 = .ok (.goto (-23), 3) := by decide +kernel
theorem dX10_peerOf_31 : decode cX10_peerOf 31 = .ok (.iload_n 3, 1) := by decide +kernel
theorem dX10_peerOf_32 : decode cX10_peerOf 32 = .ok (.ireturn, 1) := by decide +kernel
set_option maxRecDepth 20000 in
theorem ggX10_holds_X7_isIdempotent : GoodIn wsX10_holds wsX7_isIdempotent := goodIn_r _ [6, 7, 8, 9, 10, 5, 11, 12, 74, 75] (by decide +kernel) (by decide +kernel)
set_option maxRecDepth 20000 in
theorem gX10_holds_X7_isIdempotent : GoodIn wsX10_holds (wsV RX10 284 RX7 yX7_isIdempotent wsX7_isIdempotent) := goodIn_app (goodIn_of _ (by decide +kernel)) ggX10_holds_X7_isIdempotent
set_option maxRecDepth 20000 in
theorem ggX10_holds_X7_isInvolutory : GoodIn wsX10_holds wsX7_isInvolutory := goodIn_r _ [16, 7, 8, 9, 10, 5, 11, 12, 74, 75] (by decide +kernel) (by decide +kernel)
set_option maxRecDepth 20000 in
theorem gX10_holds_X7_isInvolutory : GoodIn wsX10_holds (wsV RX10 287 RX7 yX7_isInvolutory wsX7_isInvolutory) := goodIn_app (goodIn_of _ (by decide +kernel)) ggX10_holds_X7_isInvolutory
set_option maxRecDepth 20000 in
theorem ggX10_holds_X10_splitIntoOrbits : GoodIn wsX10_holds wsX10_splitIntoOrbits := goodIn_r _ [21, 22, 1, 23, 24, 25, 26, 27, 28, 29, 30, 9, 10, 5, 11, 12, 31, 32, 33, 34, 35, 36, 37, 38, 39, 40, 41, 42, 43, 44, 45, 46, 59, 60, 61, 62, 63, 64, 65, 66, 67, 68, 69, 70, 71, 72, 73, 74, 75, 76, 77, 78] (by decide +kernel) (by decide +kernel)
set_option maxRecDepth 20000 in
theorem gX10_holds_X10_splitIntoOrbits : GoodIn wsX10_holds (wsV RX10 199 RX10 yX10_splitIntoOrbits wsX10_splitIntoOrbits) := goodIn_app (goodIn_of _ (by decide +kernel)) ggX10_holds_X10_splitIntoOrbits
set_option maxRecDepth 20000 in
theorem ggX10_holds_X7_rowsDiffer : GoodIn wsX10_holds wsX7_rowsDiffer := goodIn_r _ [50, 7, 51, 52, 53, 5, 54, 8, 9, 10, 11, 12, 74, 75] (by decide +kernel) (by decide +kernel)
set_option maxRecDepth 20000 in
theorem gX10_holds_X7_rowsDiffer : GoodIn wsX10_holds (wsV RX10 290 RX7 yX7_rowsDiffer wsX7_rowsDiffer) := goodIn_app (goodIn_of _ (by decide +kernel)) ggX10_holds_X7_rowsDiffer
set_option maxRecDepth 20000 in
theorem ggX10_holds_X7_columnsHaveAll : GoodIn wsX10_holds wsX7_columnsHaveAll := goodIn_r _ [58, 7, 8, 9, 10, 5, 11, 12, 74, 75] (by decide +kernel) (by decide +kernel)
set_option maxRecDepth 20000 in
theorem gX10_holds_X7_columnsHaveAll : GoodIn wsX10_holds (wsV RX10 293 RX7 yX7_columnsHaveAll wsX7_columnsHaveAll) := goodIn_app (goodIn_of _ (by decide +kernel)) ggX10_holds_X7_columnsHaveAll
theorem dX10_holds_0 : decode cX10_holds 0 = .ok (.iload_n 1, 1) := by decide +kernel
theorem dX10_holds_1 : decode cX10_holds 1 = .ok (.tableswitch 69 0 3 #[31, 39, 47, 61], 31) := by decide +kernel
theorem dX10_holds_32 : decode cX10_holds 32 = .ok (.aload_n 0, 1) := by decide +kernel
theorem dX10_holds_33 : decode cX10_holds 33 = .ok (.getfield 14, 3) := by decide +kernel
theorem dX10_holds_36 : decode cX10_holds 36 = .ok (.invokevirtual 284, 3) := by decide +kernel
theorem dX10_holds_39 : decode cX10_holds 39 = .ok (.ireturn, 1) := by decide +kernel
theorem dX10_holds_40 : decode cX10_holds 40 = .ok (.aload_n 0, 1) := by decide +kernel
theorem dX10_holds_41 : decode cX10_holds 41 = .ok (.getfield 14, 3) := by decide +kernel
theorem dX10_holds_44 : decode cX10_holds 44 = .ok (.invokevirtual 287, 3) := by decide +kernel
theorem dX10_holds_47 : decode cX10_holds 47 = .ok (.ireturn, 1) := by decide +kernel
theorem dX10_holds_48 : decode cX10_holds 48 = .ok (.aload_n 0, 1) := by decide +kernel
theorem dX10_holds_49 : decode cX10_holds 49 = .ok (.invokevirtual 199, 3) := by decide +kernel
theorem dX10_holds_52 : decode cX10_holds 52 = .ok (.iconst 1, 1) := by decide +kernel
theorem dX10_holds_53 : decode cX10_holds 53 = .ok (.if_icmp .ne 7, 3) := by decide +kernel
theorem dX10_holds_56 : decode cX10_holds 56 = .ok (.iconst 1, 1) := by decide +kernel
theorem dX10_holds_57 : decode cX10_holds 57 = .ok (.goto 4, 3) := by decide +kernel
theorem dX10_holds_60 : decode cX10_holds 60 = .ok (.iconst 0, 1) := by decide +kernel
theorem dX10_holds_61 : decode cX10_holds 61 = .ok (.ireturn, 1) := by decide +kernel
theorem dX10_holds_62 : decode cX10_holds 62 = .ok (.aload_n 0, 1) := by decide +kernel
theorem dX10_holds_63 : decode cX10_holds 63 = .ok (.getfield 14, 3) := by decide +kernel
theorem dX10_holds_66 : decode cX10_holds 66 = .ok (.invokevirtual 290, 3) := by decide +kernel
theorem dX10_holds_69 : decode cX10_holds 69 = .ok (.ireturn, 1) := by decide +kernel
theorem dX10_holds_70 : decode cX10_holds 70 = .ok (.aload_n 0, 1) := by decide +kernel
theorem dX10_holds_71 : decode cX10_holds 71 = .ok (.getfield 14, 3) := by decide +kernel
theorem dX10_holds_74 : decode cX10_holds 74 = .ok (.invokevirtual 293, 3) := by decide +kernel
theorem dX10_holds_77 : decode cX10_holds 77 = .ok (.ireturn, 1) := by decide +kernel
set_option maxRecDepth 20000 in
theorem ggX10_splitIntoOrbits_X1_split : GoodIn wsX10_splitIntoOrbits wsX1_split := goodIn_r _ [7, 8, 9, 49, 50, 51] (by decide +kernel) (by decide +kernel)
set_option maxRecDepth 20000 in
theorem gX10_splitIntoOrbits_X1_split : GoodIn wsX10_splitIntoOrbits (wsV RX10 226 RX1 yX1_split wsX1_split) := goodIn_app (goodIn_of _ (by decide +kernel)) ggX10_splitIntoOrbits_X1_split
set_option maxRecDepth 20000 in
theorem ggX10_splitIntoOrbits_X7_turned : GoodIn wsX10_splitIntoOrbits wsX7_turned := goodIn_r _ [14, 15, 47, 48] (by decide +kernel) (by decide +kernel)
set_option maxRecDepth 20000 in
theorem gX10_splitIntoOrbits_X7_turned : GoodIn wsX10_splitIntoOrbits (wsV RX10 114 RX7 yX7_turned wsX7_turned) := goodIn_app (goodIn_of _ (by decide +kernel)) ggX10_splitIntoOrbits_X7_turned
set_option maxRecDepth 20000 in
theorem ggX10_splitIntoOrbits_X1_join : GoodIn wsX10_splitIntoOrbits wsX1_join := goodIn_r _ [19, 9, 20, 21, 22, 23, 24, 25, 26, 8, 49, 50, 51] (by decide +kernel) (by decide +kernel)
set_option maxRecDepth 20000 in
theorem gX10_splitIntoOrbits_X1_join : GoodIn wsX10_splitIntoOrbits (wsV RX10 229 RX1 yX1_join wsX1_join) := goodIn_app (goodIn_of _ (by decide +kernel)) ggX10_splitIntoOrbits_X1_join
set_option maxRecDepth 20000 in
theorem ggX10_splitIntoOrbits_X1_number : GoodIn wsX10_splitIntoOrbits wsX1_number := goodIn_r _ [30, 8, 9, 31, 49, 50, 51] (by decide +kernel) (by decide +kernel)
set_option maxRecDepth 20000 in
theorem gX10_splitIntoOrbits_X1_number : GoodIn wsX10_splitIntoOrbits (wsV RX10 235 RX1 yX1_number wsX1_number) := goodIn_app (goodIn_of _ (by decide +kernel)) ggX10_splitIntoOrbits_X1_number
theorem dX10_splitIntoOrbits_0 : decode cX10_splitIntoOrbits 0 = .ok (.aload_n 0, 1) := by decide +kernel
theorem dX10_splitIntoOrbits_1 : decode cX10_splitIntoOrbits 1 = .ok (.getfield 45, 3) := by decide +kernel
theorem dX10_splitIntoOrbits_4 : decode cX10_splitIntoOrbits 4 = .ok (.aload_n 0, 1) := by decide +kernel
theorem dX10_splitIntoOrbits_5 : decode cX10_splitIntoOrbits 5 = .ok (.getfield 14, 3) := by decide +kernel
theorem dX10_splitIntoOrbits_8 : decode cX10_splitIntoOrbits 8 = .ok (.getfield 124, 3) := by decide +kernel
theorem dX10_splitIntoOrbits_11 : decode cX10_splitIntoOrbits 11 = .ok (.invokevirtual 226, 3) := by decide +kernel
theorem dX10_splitIntoOrbits_14 : decode cX10_splitIntoOrbits 14 = .ok (.iconst 0, 1) := by decide +kernel
theorem dX10_splitIntoOrbits_15 : decode cX10_splitIntoOrbits 15 = .ok (.istore_n 1, 1) := by decide +kernel
theorem dX10_splitIntoOrbits_16 : decode cX10_splitIntoOrbits 16 = .ok (.iload_n 1, 1) := by decide +kernel
theorem dX10_splitIntoOrbits_17 : decode cX10_splitIntoOrbits 17 = .ok (.aload_n 0, 1) := by decide +kernel
theorem dX10_splitIntoOrbits_18 : decode cX10_splitIntoOrbits 18 = .ok (.getfield 14, 3) := by decide +kernel
theorem dX10_splitIntoOrbits_21 : decode cX10_splitIntoOrbits 21 = .ok (.getfield 124, 3) := by decide +kernel
theorem dX10_splitIntoOrbits_24 : decode cX10_splitIntoOrbits 24 = .ok (.if_icmp .ge 46, 3) := by decide +kernel
theorem dX10_splitIntoOrbits_27 : decode cX10_splitIntoOrbits 27 = .ok (.iconst 0, 1) := by decide +kernel
theorem dX10_splitIntoOrbits_28 : decode cX10_splitIntoOrbits 28 = .ok (.istore_n 2, 1) := by decide +kernel
theorem dX10_splitIntoOrbits_29 : decode cX10_splitIntoOrbits 29 = .ok (.iload_n 2, 1) := by decide +kernel
theorem dX10_splitIntoOrbits_30 : decode cX10_splitIntoOrbits 30 = .ok (.aload_n 0, 1) := by decide +kernel
theorem dX10_splitIntoOrbits_31 : decode cX10_splitIntoOrbits 31 = .ok (.getfield 14, 3) := by decide +kernel
theorem dX10_splitIntoOrbits_34 : decode cX10_splitIntoOrbits 34 = .ok (.getfield 124, 3) := by decide +kernel
theorem dX10_splitIntoOrbits_37 : decode cX10_splitIntoOrbits 37 = .ok (.if_icmp .ge 27, 3) := by decide +kernel
theorem dX10_splitIntoOrbits_40 : decode cX10_splitIntoOrbits 40 = .ok (.aload_n 0, 1) := by decide +kernel
theorem dX10_splitIntoOrbits_41 : decode cX10_splitIntoOrbits 41 = .ok (.getfield 45, 3) := by decide +kernel
theorem dX10_splitIntoOrbits_44 : decode cX10_splitIntoOrbits 44 = .ok (.iload_n 2, 1) := by decide +kernel
theorem dX10_splitIntoOrbits_45 : decode cX10_splitIntoOrbits 45 = .ok (.aload_n 0, 1) := by decide +kernel
theorem dX10_splitIntoOrbits_46 : decode cX10_splitIntoOrbits 46 = .ok (.getfield 14, 3) := by decide +kernel
theorem dX10_splitIntoOrbits_49 : decode cX10_splitIntoOrbits 49 = .ok (.iload_n 1, 1) := by decide +kernel
theorem dX10_splitIntoOrbits_50 : decode cX10_splitIntoOrbits 50 = .ok (.iload_n 2, 1) := by decide +kernel
theorem dX10_splitIntoOrbits_51 : decode cX10_splitIntoOrbits 51 = .ok (.invokevirtual 114, 3) := by decide +kernel
theorem dX10_splitIntoOrbits_54 : decode cX10_splitIntoOrbits 54 = .ok (.invokevirtual 229, 3) := by decide +kernel
theorem dX10_splitIntoOrbits_57 : decode cX10_splitIntoOrbits 57 = .ok (.pop, 1) := by decide +kernel
theorem dX10_splitIntoOrbits_58 : decode cX10_splitIntoOrbits 58 = .ok (.iinc 2 1, 3) := by decide +kernel
theorem dX10_splitIntoOrbits_61 : decode cX10_splitIntoOrbits 61 = .ok (.goto (-32), 3) := by decide +kernel
theorem dX10_splitIntoOrbits_64 : decode cX10_splitIntoOrbits 64 = .ok (.iinc 1 1, 3) := by decide +kernel
theorem dX10_splitIntoOrbits_67 : decode cX10_splitIntoOrbits 67 = .ok (.goto (-51), 3) := by decide +kernel
theorem dX10_splitIntoOrbits_70 : decode cX10_splitIntoOrbits 70 = .ok (.aload_n 0, 1) := by decide +kernel
theorem dX10_splitIntoOrbits_71 : decode cX10_splitIntoOrbits 71 = .ok (.getfield 45, 3) := by decide +kernel
theorem dX10_splitIntoOrbits_74 : decode cX10_splitIntoOrbits 74 = .ok (.invokevirtual 235, 3) := by decide +kernel
theorem dX10_splitIntoOrbits_77 : decode cX10_splitIntoOrbits 77 = .ok (.ireturn, 1) := by decide +kernel
set_option maxRecDepth 20000 in
theorem ggX10_joinWhatMustBeOne_X1_areOne : GoodIn wsX10_joinWhatMustBeOne wsX1_areOne := goodIn_r _ [7, 8, 49, 50, 51] (by decide +kernel) (by decide +kernel)
set_option maxRecDepth 20000 in
theorem gX10_joinWhatMustBeOne_X1_areOne : GoodIn wsX10_joinWhatMustBeOne (wsV RX10 296 RX1 yX1_areOne wsX1_areOne) := goodIn_app (goodIn_of _ (by decide +kernel)) ggX10_joinWhatMustBeOne_X1_areOne
set_option maxRecDepth 20000 in
theorem ggX10_joinWhatMustBeOne_X10_joinTurnsOf : GoodIn wsX10_joinWhatMustBeOne wsX10_joinTurnsOf := goodIn_r _ [13, 1, 2, 14, 15, 16, 17, 18, 19, 20, 21, 22, 6, 23, 8, 24, 25, 26, 27, 28, 29, 30, 31, 32, 33, 34, 35, 36, 37, 38, 39, 40, 41, 42, 43, 44, 45, 46, 47, 48, 49, 50, 51] (by decide +kernel) (by decide +kernel)
set_option maxRecDepth 20000 in
theorem gX10_joinWhatMustBeOne_X10_joinTurnsOf : GoodIn wsX10_joinWhatMustBeOne (wsV RX10 299 RX10 yX10_joinTurnsOf wsX10_joinTurnsOf) := goodIn_app (goodIn_of _ (by decide +kernel)) ggX10_joinWhatMustBeOne_X10_joinTurnsOf
theorem dX10_joinWhatMustBeOne_0 : decode cX10_joinWhatMustBeOne 0 = .ok (.iconst 1, 1) := by decide +kernel
theorem dX10_joinWhatMustBeOne_1 : decode cX10_joinWhatMustBeOne 1 = .ok (.istore_n 1, 1) := by decide +kernel
theorem dX10_joinWhatMustBeOne_2 : decode cX10_joinWhatMustBeOne 2 = .ok (.iconst 0, 1) := by decide +kernel
theorem dX10_joinWhatMustBeOne_3 : decode cX10_joinWhatMustBeOne 3 = .ok (.istore_n 2, 1) := by decide +kernel
theorem dX10_joinWhatMustBeOne_4 : decode cX10_joinWhatMustBeOne 4 = .ok (.iload_n 2, 1) := by decide +kernel
theorem dX10_joinWhatMustBeOne_5 : decode cX10_joinWhatMustBeOne 5 = .ok (.aload_n 0, 1) := by decide +kernel
theorem dX10_joinWhatMustBeOne_6 : decode cX10_joinWhatMustBeOne 6 = .ok (.getfield 14, 3) := by decide +kernel
theorem dX10_joinWhatMustBeOne_9 : decode cX10_joinWhatMustBeOne 9 = .ok (.getfield 124, 3) := by decide +kernel
theorem dX10_joinWhatMustBeOne_12 : decode cX10_joinWhatMustBeOne 12 = .ok (.if_icmp .ge 82, 3) := by decide +kernel
theorem dX10_joinWhatMustBeOne_15 : decode cX10_joinWhatMustBeOne 15 = .ok (.iload_n 1, 1) := by decide +kernel
theorem dX10_joinWhatMustBeOne_16 : decode cX10_joinWhatMustBeOne 16 = .ok (.ifCond .eq 78, 3) := by decide +kernel
theorem dX10_joinWhatMustBeOne_19 : decode cX10_joinWhatMustBeOne 19 = .ok (.iconst 0, 1) := by decide +kernel
theorem dX10_joinWhatMustBeOne_20 : decode cX10_joinWhatMustBeOne 20 = .ok (.istore_n 1, 1) := by decide +kernel
theorem dX10_joinWhatMustBeOne_21 : decode cX10_joinWhatMustBeOne 21 = .ok (.iconst 0, 1) := by decide +kernel
theorem dX10_joinWhatMustBeOne_22 : decode cX10_joinWhatMustBeOne 22 = .ok (.istore_n 3, 1) := by decide +kernel
theorem dX10_joinWhatMustBeOne_23 : decode cX10_joinWhatMustBeOne 23 = .ok (.iload_n 3, 1) := by decide +kernel
theorem dX10_joinWhatMustBeOne_24 : decode cX10_joinWhatMustBeOne 24 = .ok (.aload_n 0, 1) := by decide +kernel
theorem dX10_joinWhatMustBeOne_25 : decode cX10_joinWhatMustBeOne 25 = .ok (.getfield 14, 3) := by decide +kernel
theorem dX10_joinWhatMustBeOne_28 : decode cX10_joinWhatMustBeOne 28 = .ok (.getfield 124, 3) := by decide +kernel
theorem dX10_joinWhatMustBeOne_31 : decode cX10_joinWhatMustBeOne 31 = .ok (.if_icmp .ge 57, 3) := by decide +kernel
theorem dX10_joinWhatMustBeOne_34 : decode cX10_joinWhatMustBeOne 34 = .ok (.iload_n 3, 1) := by decide +kernel
theorem dX10_joinWhatMustBeOne_35 : decode cX10_joinWhatMustBeOne 35 = .ok (.iconst 1, 1) := by decide +kernel
theorem dX10_joinWhatMustBeOne_36 : decode cX10_joinWhatMustBeOne 36 = .ok (.iadd, 1) := by decide +kernel
theorem dX10_joinWhatMustBeOne_37 : decode cX10_joinWhatMustBeOne 37 = .ok (.istore 4, 2) := by decide +kernel
theorem dX10_joinWhatMustBeOne_39 : decode cX10_joinWhatMustBeOne 39 = .ok (.iload 4, 2) := by decide +kernel
theorem dX10_joinWhatMustBeOne_41 : decode cX10_joinWhatMustBeOne 41 = .ok (.aload_n 0, 1) := by decide +kernel
theorem dX10_joinWhatMustBeOne_42 : decode cX10_joinWhatMustBeOne 42 = .ok (.getfield 14, 3) := by decide +kernel
theorem dX10_joinWhatMustBeOne_45 : decode cX10_joinWhatMustBeOne 45 = .ok (.getfield 124, 3) := by decide +kernel
theorem dX10_joinWhatMustBeOne_48 : decode cX10_joinWhatMustBeOne 48 = .ok (.if_icmp .ge 34, 3) := by decide +kernel
theorem dX10_joinWhatMustBeOne_51 : decode cX10_joinWhatMustBeOne 51 = .ok (.aload_n 0, 1) := by decide +kernel
theorem dX10_joinWhatMustBeOne_52 : decode cX10_joinWhatMustBeOne 52 = .ok (.getfield 45, 3) := by decide +kernel
theorem dX10_joinWhatMustBeOne_55 : decode cX10_joinWhatMustBeOne 55 = .ok (.iload_n 3, 1) := by decide +kernel
theorem dX10_joinWhatMustBeOne_56 : decode cX10_joinWhatMustBeOne 56 = .ok (.iload 4, 2) := by decide +kernel
theorem dX10_joinWhatMustBeOne_58 : decode cX10_joinWhatMustBeOne 58 = .ok (.invokevirtual 296, 3) := by decide +kernel
theorem dX10_joinWhatMustBeOne_61 : decode cX10_joinWhatMustBeOne 61 = .ok (.ifCond .eq 15, 3) := by decide +kernel
theorem dX10_joinWhatMustBeOne_64 : decode cX10_joinWhatMustBeOne 64 = .ok (.aload_n 0, 1) := by decide +kernel
theorem dX10_joinWhatMustBeOne_65 : decode cX10_joinWhatMustBeOne 65 = .ok (.iload_n 3, 1) := by decide +kernel
theorem dX10_joinWhatMustBeOne_66 : decode cX10_joinWhatMustBeOne 66 = .ok (.iload 4, 2) := by decide +kernel
theorem dX10_joinWhatMustBeOne_68 : decode cX10_joinWhatMustBeOne 68 = .ok (.invokevirtual 299, 3) := by decide +kernel
theorem dX10_joinWhatMustBeOne_71 : decode cX10_joinWhatMustBeOne 71 = .ok (.ifCond .eq 5, 3) := by decide +kernel
theorem dX10_joinWhatMustBeOne_74 : decode cX10_joinWhatMustBeOne 74 = .ok (.iconst 1, 1) := by decide +kernel
theorem dX10_joinWhatMustBeOne_75 : decode cX10_joinWhatMustBeOne 75 = .ok (.istore_n 1, 1) := by decide +kernel
theorem dX10_joinWhatMustBeOne_76 : decode cX10_joinWhatMustBeOne 76 = .ok (.iinc 4 1, 3) := by decide +kernel
theorem dX10_joinWhatMustBeOne_79 : decode cX10_joinWhatMustBeOne 79 = .ok (.goto (-40), 3) := by decide +kernel
theorem dX10_joinWhatMustBeOne_82 : decode cX10_joinWhatMustBeOne 82 = .ok (.iinc 3 1, 3) := by decide +kernel
theorem dX10_joinWhatMustBeOne_85 : decode cX10_joinWhatMustBeOne 85 = .ok (.goto (-62), 3) := by decide +kernel
theorem dX10_joinWhatMustBeOne_88 : decode cX10_joinWhatMustBeOne 88 = .ok (.iinc 2 1, 3) := by decide +kernel
theorem dX10_joinWhatMustBeOne_91 : decode cX10_joinWhatMustBeOne 91 = .ok (.goto (-87), 3) := by decide +kernel
theorem dX10_joinWhatMustBeOne_94 : decode cX10_joinWhatMustBeOne 94 = .ok (.return_, 1) := by decide +kernel
set_option maxRecDepth 20000 in
theorem ggX10_joinTurnsOf_X7_turned : GoodIn wsX10_joinTurnsOf wsX7_turned := goodIn_r _ [7, 8, 38, 39] (by decide +kernel) (by decide +kernel)
set_option maxRecDepth 20000 in
theorem gX10_joinTurnsOf_X7_turned : GoodIn wsX10_joinTurnsOf (wsV RX10 114 RX7 yX7_turned wsX7_turned) := goodIn_app (goodIn_of _ (by decide +kernel)) ggX10_joinTurnsOf_X7_turned
set_option maxRecDepth 20000 in
theorem ggX10_joinTurnsOf_X1_join : GoodIn wsX10_joinTurnsOf wsX1_join := goodIn_r _ [13, 14, 15, 16, 17, 18, 19, 20, 21, 22, 40, 41, 42] (by decide +kernel) (by decide +kernel)
set_option maxRecDepth 20000 in
theorem gX10_joinTurnsOf_X1_join : GoodIn wsX10_joinTurnsOf (wsV RX10 229 RX1 yX1_join wsX1_join) := goodIn_app (goodIn_of _ (by decide +kernel)) ggX10_joinTurnsOf_X1_join
theorem dX10_joinTurnsOf_0 : decode cX10_joinTurnsOf 0 = .ok (.iconst 0, 1) := by decide +kernel
theorem dX10_joinTurnsOf_1 : decode cX10_joinTurnsOf 1 = .ok (.istore_n 3, 1) := by decide +kernel
theorem dX10_joinTurnsOf_2 : decode cX10_joinTurnsOf 2 = .ok (.iconst 0, 1) := by decide +kernel
theorem dX10_joinTurnsOf_3 : decode cX10_joinTurnsOf 3 = .ok (.istore 4, 2) := by decide +kernel
theorem dX10_joinTurnsOf_5 : decode cX10_joinTurnsOf 5 = .ok (.iload 4, 2) := by decide +kernel
theorem dX10_joinTurnsOf_7 : decode cX10_joinTurnsOf 7 = .ok (.aload_n 0, 1) := by decide +kernel
theorem dX10_joinTurnsOf_8 : decode cX10_joinTurnsOf 8 = .ok (.getfield 14, 3) := by decide +kernel
theorem dX10_joinTurnsOf_11 : decode cX10_joinTurnsOf 11 = .ok (.getfield 124, 3) := by decide +kernel
theorem dX10_joinTurnsOf_14 : decode cX10_joinTurnsOf 14 = .ok (.if_icmp .ge 87, 3) := by decide +kernel
theorem dX10_joinTurnsOf_17 : decode cX10_joinTurnsOf 17 = .ok (.aload_n 0, 1) := by decide +kernel
theorem dX10_joinTurnsOf_18 : decode cX10_joinTurnsOf 18 = .ok (.getfield 45, 3) := by decide +kernel
theorem dX10_joinTurnsOf_21 : decode cX10_joinTurnsOf 21 = .ok (.aload_n 0, 1) := by decide +kernel
theorem dX10_joinTurnsOf_22 : decode cX10_joinTurnsOf 22 = .ok (.getfield 14, 3) := by decide +kernel
theorem dX10_joinTurnsOf_25 : decode cX10_joinTurnsOf 25 = .ok (.iload_n 1, 1) := by decide +kernel
theorem dX10_joinTurnsOf_26 : decode cX10_joinTurnsOf 26 = .ok (.iload 4, 2) := by decide +kernel
theorem dX10_joinTurnsOf_28 : decode cX10_joinTurnsOf 28 = .ok (.invokevirtual 114, 3) := by decide +kernel
theorem dX10_joinTurnsOf_31 : decode cX10_joinTurnsOf 31 = .ok (.aload_n 0, 1) := by decide +kernel
theorem dX10_joinTurnsOf_32 : decode cX10_joinTurnsOf 32 = .ok (.getfield 14, 3) := by decide +kernel
theorem dX10_joinTurnsOf_35 : decode cX10_joinTurnsOf 35 = .ok (.iload_n 2, 1) := by decide +kernel
theorem dX10_joinTurnsOf_36 : decode cX10_joinTurnsOf 36 = .ok (.iload 4, 2) := by decide +kernel
theorem dX10_joinTurnsOf_38 : decode cX10_joinTurnsOf 38 = .ok (.invokevirtual 114, 3) := by decide +kernel
theorem dX10_joinTurnsOf_41 : decode cX10_joinTurnsOf 41 = .ok (.invokevirtual 229, 3) := by decide +kernel
theorem dX10_joinTurnsOf_44 : decode cX10_joinTurnsOf 44 = .ok (.istore 5, 2) := by decide +kernel
theorem dX10_joinTurnsOf_46 : decode cX10_joinTurnsOf 46 = .ok (.aload_n 0, 1) := by decide +kernel
theorem dX10_joinTurnsOf_47 : decode cX10_joinTurnsOf 47 = .ok (.getfield 45, 3) := by decide +kernel
theorem dX10_joinTurnsOf_50 : decode cX10_joinTurnsOf 50 = .ok (.aload_n 0, 1) := by decide +kernel
theorem dX10_joinTurnsOf_51 : decode cX10_joinTurnsOf 51 = .ok (.getfield 14, 3) := by decide +kernel
theorem dX10_joinTurnsOf_54 : decode cX10_joinTurnsOf 54 = .ok (.iload 4, 2) := by decide +kernel
theorem dX10_joinTurnsOf_56 : decode cX10_joinTurnsOf 56 = .ok (.iload_n 1, 1) := by decide +kernel
theorem dX10_joinTurnsOf_57 : decode cX10_joinTurnsOf 57 = .ok (.invokevirtual 114, 3) := by decide +kernel
theorem dX10_joinTurnsOf_60 : decode cX10_joinTurnsOf 60 = .ok (.aload_n 0, 1) := by decide +kernel
theorem dX10_joinTurnsOf_61 : decode cX10_joinTurnsOf 61 = .ok (.getfield 14, 3) := by decide +kernel
theorem dX10_joinTurnsOf_64 : decode cX10_joinTurnsOf 64 = .ok (.iload 4, 2) := by decide +kernel
theorem dX10_joinTurnsOf_66 : decode cX10_joinTurnsOf 66 = .ok (.iload_n 2, 1) := by decide +kernel
theorem dX10_joinTurnsOf_67 : decode cX10_joinTurnsOf 67 = .ok (.invokevirtual 114, 3) := by decide +kernel
theorem dX10_joinTurnsOf_70 : decode cX10_joinTurnsOf 70 = .ok (.invokevirtual 229, 3) := by decide +kernel
theorem dX10_joinTurnsOf_73 : decode cX10_joinTurnsOf 73 = .ok (.istore 6, 2) := by decide +kernel
theorem dX10_joinTurnsOf_75 : decode cX10_joinTurnsOf 75 = .ok (.iload_n 3, 1) := by decide +kernel
theorem dX10_joinTurnsOf_76 : decode cX10_joinTurnsOf 76 = .ok (.ifCond .ne 13, 3) := by decide +kernel
theorem dX10_joinTurnsOf_79 : decode cX10_joinTurnsOf 79 = .ok (.iload 5, 2) := by decide +kernel
theorem dX10_joinTurnsOf_81 : decode cX10_joinTurnsOf 81 = .ok (.ifCond .ne 8, 3) := by decide +kernel
theorem dX10_joinTurnsOf_84 : decode cX10_joinTurnsOf 84 = .ok (.iload 6, 2) := by decide +kernel
theorem dX10_joinTurnsOf_86 : decode cX10_joinTurnsOf 86 = .ok (.ifCond .eq 7, 3) := by decide +kernel
theorem dX10_joinTurnsOf_89 : decode cX10_joinTurnsOf 89 = .ok (.iconst 1, 1) := by decide +kernel
theorem dX10_joinTurnsOf_90 : decode cX10_joinTurnsOf 90 = .ok (.goto 4, 3) := by decide +kernel
theorem dX10_joinTurnsOf_93 : decode cX10_joinTurnsOf 93 = .ok (.iconst 0, 1) := by decide +kernel
theorem dX10_joinTurnsOf_94 : decode cX10_joinTurnsOf 94 = .ok (.istore_n 3, 1) := by decide +kernel
theorem dX10_joinTurnsOf_95 : decode cX10_joinTurnsOf 95 = .ok (.iinc 4 1, 3) := by decide +kernel
theorem dX10_joinTurnsOf_98 : decode cX10_joinTurnsOf 98 = .ok (.goto (-93), 3) := by decide +kernel
theorem dX10_joinTurnsOf_101 : decode cX10_joinTurnsOf 101 = .ok (.iload_n 3, 1) := by decide +kernel
theorem dX10_joinTurnsOf_102 : decode cX10_joinTurnsOf 102 = .ok (.ireturn, 1) := by decide +kernel
set_option maxRecDepth 20000 in
theorem ggX10_closedSet_X7_turned : GoodIn wsX10_closedSet wsX7_turned := goodIn_r _ [6, 7, 23, 24] (by decide +kernel) (by decide +kernel)
set_option maxRecDepth 20000 in
theorem gX10_closedSet_X7_turned : GoodIn wsX10_closedSet (wsV RX10 114 RX7 yX7_turned wsX7_turned) := goodIn_app (goodIn_of _ (by decide +kernel)) ggX10_closedSet_X7_turned
theorem dX10_closedSet_0 : decode cX10_closedSet 0 = .ok (.iload_n 1, 1) := by decide +kernel
theorem dX10_closedSet_1 : decode cX10_closedSet 1 = .ok (.istore_n 2, 1) := by decide +kernel
theorem dX10_closedSet_2 : decode cX10_closedSet 2 = .ok (.iconst 0, 1) := by decide +kernel
theorem dX10_closedSet_3 : decode cX10_closedSet 3 = .ok (.istore_n 3, 1) := by decide +kernel
theorem dX10_closedSet_4 : decode cX10_closedSet 4 = .ok (.iconst 0, 1) := by decide +kernel
theorem dX10_closedSet_5 : decode cX10_closedSet 5 = .ok (.istore 4, 2) := by decide +kernel
theorem dX10_closedSet_7 : decode cX10_closedSet 7 = .ok (.iload 4, 2) := by decide +kernel
theorem dX10_closedSet_9 : decode cX10_closedSet 9 = .ok (.aload_n 0, 1) := by decide +kernel
theorem dX10_closedSet_10 : decode cX10_closedSet 10 = .ok (.getfield 14, 3) := by decide +kernel
theorem dX10_closedSet_13 : decode cX10_closedSet 13 = .ok (.getfield 124, 3) := by decide +kernel
theorem dX10_closedSet_16 : decode cX10_closedSet 16 = .ok (.if_icmp .ge 89, 3) := by decide +kernel
theorem dX10_closedSet_19 : decode cX10_closedSet 19 = .ok (.iload_n 2, 1) := by decide +kernel
theorem dX10_closedSet_20 : decode cX10_closedSet 20 = .ok (.iload_n 3, 1) := by decide +kernel
theorem dX10_closedSet_21 : decode cX10_closedSet 21 = .ok (.if_icmp .eq 84, 3) := by decide +kernel
theorem dX10_closedSet_24 : decode cX10_closedSet 24 = .ok (.iload_n 2, 1) := by decide +kernel
theorem dX10_closedSet_25 : decode cX10_closedSet 25 = .ok (.istore_n 3, 1) := by decide +kernel
theorem dX10_closedSet_26 : decode cX10_closedSet 26 = .ok (.iconst 0, 1) := by decide +kernel
theorem dX10_closedSet_27 : decode cX10_closedSet 27 = .ok (.istore 5, 2) := by decide +kernel
theorem dX10_closedSet_29 : decode cX10_closedSet 29 = .ok (.iload 5, 2) := by decide +kernel
theorem dX10_closedSet_31 : decode cX10_closedSet 31 = .ok (.aload_n 0, 1) := by decide +kernel
theorem dX10_closedSet_32 : decode cX10_closedSet 32 = .ok (.getfield 14, 3) := by decide +kernel
theorem dX10_closedSet_35 : decode cX10_closedSet 35 = .ok (.getfield 124, 3) := by decide +kernel
theorem dX10_closedSet_38 : decode cX10_closedSet 38 = .ok (.if_icmp .ge 61, 3) := by decide +kernel
theorem dX10_closedSet_41 : decode cX10_closedSet 41 = .ok (.iconst 0, 1) := by decide +kernel
theorem dX10_closedSet_42 : decode cX10_closedSet 42 = .ok (.istore 6, 2) := by decide +kernel
theorem dX10_closedSet_44 : decode cX10_closedSet 44 = .ok (.iload 6, 2) := by decide +kernel
theorem dX10_closedSet_46 : decode cX10_closedSet 46 = .ok (.aload_n 0, 1) := by decide +kernel
theorem dX10_closedSet_47 : decode cX10_closedSet 47 = .ok (.getfield 14, 3) := by decide +kernel
theorem dX10_closedSet_50 : decode cX10_closedSet 50 = .ok (.getfield 124, 3) := by decide +kernel
theorem dX10_closedSet_53 : decode cX10_closedSet 53 = .ok (.if_icmp .ge 40, 3) := by decide +kernel
theorem dX10_closedSet_56 : decode cX10_closedSet 56 = .ok (.iload_n 2, 1) := by decide +kernel
theorem dX10_closedSet_57 : decode cX10_closedSet 57 = .ok (.iload 5, 2) := by decide +kernel
theorem dX10_closedSet_59 : decode cX10_closedSet 59 = .ok (.ishr, 1) := by decide +kernel
theorem dX10_closedSet_60 : decode cX10_closedSet 60 = .ok (.iload_n 2, 1) := by decide +kernel
theorem dX10_closedSet_61 : decode cX10_closedSet 61 = .ok (.iload 6, 2) := by decide +kernel
theorem dX10_closedSet_63 : decode cX10_closedSet 63 = .ok (.ishr, 1) := by decide +kernel
theorem dX10_closedSet_64 : decode cX10_closedSet 64 = .ok (.iand, 1) := by decide +kernel
theorem dX10_closedSet_65 : decode cX10_closedSet 65 = .ok (.iconst 1, 1) := by decide +kernel
theorem dX10_closedSet_66 : decode cX10_closedSet 66 = .ok (.iand, 1) := by decide +kernel
theorem dX10_closedSet_67 : decode cX10_closedSet 67 = .ok (.iconst 1, 1) := by decide +kernel
theorem dX10_closedSet_68 : decode cX10_closedSet 68 = .ok (.if_icmp .ne 19, 3) := by decide +kernel
theorem dX10_closedSet_71 : decode cX10_closedSet 71 = .ok (.iload_n 2, 1) := by decide +kernel
theorem dX10_closedSet_72 : decode cX10_closedSet 72 = .ok (.iconst 1, 1) := by decide +kernel
theorem dX10_closedSet_73 : decode cX10_closedSet 73 = .ok (.aload_n 0, 1) := by decide +kernel
theorem dX10_closedSet_74 : decode cX10_closedSet 74 = .ok (.getfield 14, 3) := by decide +kernel
theorem dX10_closedSet_77 : decode cX10_closedSet 77 = .ok (.iload 5, 2) := by decide +kernel
theorem dX10_closedSet_79 : decode cX10_closedSet 79 = .ok (.iload 6, 2) := by decide +kernel
theorem dX10_closedSet_81 : decode cX10_closedSet 81 = .ok (.invokevirtual 114, 3) := by decide +kernel
theorem dX10_closedSet_84 : decode cX10_closedSet 84 = .ok (.ishl, 1) := by decide +kernel
theorem dX10_closedSet_85 : decode cX10_closedSet 85 = .ok (.ior, 1) := by decide +kernel
theorem dX10_closedSet_86 : decode cX10_closedSet 86 = .ok (.istore_n 2, 1) := by decide +kernel
theorem dX10_closedSet_87 : decode cX10_closedSet 87 = .ok (.iinc 6 1, 3) := by decide +kernel
theorem dX10_closedSet_90 : decode cX10_closedSet 90 = .ok (.goto (-46), 3) := by decide +kernel
theorem dX10_closedSet_93 : decode cX10_closedSet 93 = .ok (.iinc 5 1, 3) := by decide +kernel
theorem dX10_closedSet_96 : decode cX10_closedSet 96 = .ok (.goto (-67), 3) := by decide +kernel
theorem dX10_closedSet_99 : decode cX10_closedSet 99 = .ok (.iinc 4 1, 3) := by decide +kernel
theorem dX10_closedSet_102 : decode cX10_closedSet 102 = .ok (.goto (-95), 3) := by decide +kernel
theorem dX10_closedSet_105 : decode cX10_closedSet 105 = .ok (.iload_n 2, 1) := by decide +kernel
theorem dX10_closedSet_106 : decode cX10_closedSet 106 = .ok (.ireturn, 1) := by decide +kernel
theorem dX11_init_0 : decode cX11_init 0 = .ok (.aload_n 0, 1) := by decide +kernel
theorem dX11_init_1 : decode cX11_init 1 = .ok (.invokespecial 3, 3) := by decide +kernel
theorem dX11_init_4 : decode cX11_init 4 = .ok (.aload_n 0, 1) := by decide +kernel
theorem dX11_init_5 : decode cX11_init 5 = .ok (.iconst 1, 1) := by decide +kernel
theorem dX11_init_6 : decode cX11_init 6 = .ok (.putfield 9, 3) := by decide +kernel
theorem dX11_init_9 : decode cX11_init 9 = .ok (.aload_n 0, 1) := by decide +kernel
theorem dX11_init_10 : decode cX11_init 10 = .ok (.bipush 64, 2) := by decide +kernel
theorem dX11_init_12 : decode cX11_init 12 = .ok (.newarray .int, 2) := by decide +kernel
theorem dX11_init_14 : decode cX11_init 14 = .ok (.putfield 13, 3) := by decide +kernel
theorem dX11_init_17 : decode cX11_init 17 = .ok (.aload_n 0, 1) := by decide +kernel
theorem dX11_init_18 : decode cX11_init 18 = .ok (.iconst 2, 1) := by decide +kernel
theorem dX11_init_19 : decode cX11_init 19 = .ok (.putfield 17, 3) := by decide +kernel
theorem dX11_init_22 : decode cX11_init 22 = .ok (.aload_n 0, 1) := by decide +kernel
theorem dX11_init_23 : decode cX11_init 23 = .ok (.bipush 64, 2) := by decide +kernel
theorem dX11_init_25 : decode cX11_init 25 = .ok (.newarray .int, 2) := by decide +kernel
theorem dX11_init_27 : decode cX11_init 27 = .ok (.putfield 20, 3) := by decide +kernel
theorem dX11_init_30 : decode cX11_init 30 = .ok (.aload_n 0, 1) := by decide +kernel
theorem dX11_init_31 : decode cX11_init 31 = .ok (.bipush 8, 2) := by decide +kernel
theorem dX11_init_33 : decode cX11_init 33 = .ok (.newarray .int, 2) := by decide +kernel
theorem dX11_init_35 : decode cX11_init 35 = .ok (.putfield 23, 3) := by decide +kernel
theorem dX11_init_38 : decode cX11_init 38 = .ok (.aload_n 0, 1) := by decide +kernel
theorem dX11_init_39 : decode cX11_init 39 = .ok (.bipush 8, 2) := by decide +kernel
theorem dX11_init_41 : decode cX11_init 41 = .ok (.newarray .int, 2) := by decide +kernel
theorem dX11_init_43 : decode cX11_init 43 = .ok (.putfield 26, 3) := by decide +kernel
theorem dX11_init_46 : decode cX11_init 46 = .ok (.aload_n 0, 1) := by decide +kernel
theorem dX11_init_47 : decode cX11_init 47 = .ok (.bipush 8, 2) := by decide +kernel
theorem dX11_init_49 : decode cX11_init 49 = .ok (.newarray .int, 2) := by decide +kernel
theorem dX11_init_51 : decode cX11_init 51 = .ok (.putfield 29, 3) := by decide +kernel
theorem dX11_init_54 : decode cX11_init 54 = .ok (.aload_n 0, 1) := by decide +kernel
theorem dX11_init_55 : decode cX11_init 55 = .ok (.bipush 8, 2) := by decide +kernel
theorem dX11_init_57 : decode cX11_init 57 = .ok (.newarray .int, 2) := by decide +kernel
theorem dX11_init_59 : decode cX11_init 59 = .ok (.putfield 32, 3) := by decide +kernel
theorem dX11_init_62 : decode cX11_init 62 = .ok (.aload_n 0, 1) := by decide +kernel
theorem dX11_init_63 : decode cX11_init 63 = .ok (.iconst 4, 1) := by decide +kernel
theorem dX11_init_64 : decode cX11_init 64 = .ok (.newarray .int, 2) := by decide +kernel
theorem dX11_init_66 : decode cX11_init 66 = .ok (.putfield 35, 3) := by decide +kernel
theorem dX11_init_69 : decode cX11_init 69 = .ok (.aload_n 0, 1) := by decide +kernel
theorem dX11_init_70 : decode cX11_init 70 = .ok (.sipush 256, 3) := by decide +kernel
theorem dX11_init_73 : decode cX11_init 73 = .ok (.newarray .int, 2) := by decide +kernel
theorem dX11_init_75 : decode cX11_init 75 = .ok (.putfield 38, 3) := by decide +kernel
theorem dX11_init_78 : decode cX11_init 78 = .ok (.aload_n 0, 1) := by decide +kernel
theorem dX11_init_79 : decode cX11_init 79 = .ok (.bipush 8, 2) := by decide +kernel
theorem dX11_init_81 : decode cX11_init 81 = .ok (.newarray .int, 2) := by decide +kernel
theorem dX11_init_83 : decode cX11_init 83 = .ok (.putfield 41, 3) := by decide +kernel
theorem dX11_init_86 : decode cX11_init 86 = .ok (.aload_n 0, 1) := by decide +kernel
theorem dX11_init_87 : decode cX11_init 87 = .ok (.bipush 8, 2) := by decide +kernel
theorem dX11_init_89 : decode cX11_init 89 = .ok (.newarray .int, 2) := by decide +kernel
theorem dX11_init_91 : decode cX11_init 91 = .ok (.putfield 44, 3) := by decide +kernel
theorem dX11_init_94 : decode cX11_init 94 = .ok (.aload_n 0, 1) := by decide +kernel
theorem dX11_init_95 : decode cX11_init 95 = .ok (.ldc 47, 2) := by decide +kernel
theorem dX11_init_97 : decode cX11_init 97 = .ok (.newarray .boolean, 2) := by decide +kernel
theorem dX11_init_99 : decode cX11_init 99 = .ok (.putfield 48, 3) := by decide +kernel
theorem dX11_init_102 : decode cX11_init 102 = .ok (.aload_n 0, 1) := by decide +kernel
theorem dX11_init_103 : decode cX11_init 103 = .ok (.ldc 47, 2) := by decide +kernel
theorem dX11_init_105 : decode cX11_init 105 = .ok (.newarray .int, 2) := by decide +kernel
theorem dX11_init_107 : decode cX11_init 107 = .ok (.putfield 52, 3) := by decide +kernel
theorem dX11_init_110 : decode cX11_init 110 = .ok (.aload_n 0, 1) := by decide +kernel
theorem dX11_init_111 : decode cX11_init 111 = .ok (.bipush 64, 2) := by decide +kernel
theorem dX11_init_113 : decode cX11_init 113 = .ok (.newarray .int, 2) := by decide +kernel
theorem dX11_init_115 : decode cX11_init 115 = .ok (.putfield 55, 3) := by decide +kernel
theorem dX11_init_118 : decode cX11_init 118 = .ok (.aload_n 0, 1) := by decide +kernel
theorem dX11_init_119 : decode cX11_init 119 = .ok (.bipush 64, 2) := by decide +kernel
theorem dX11_init_121 : decode cX11_init 121 = .ok (.newarray .int, 2) := by decide +kernel
theorem dX11_init_123 : decode cX11_init 123 = .ok (.putfield 58, 3) := by decide +kernel
theorem dX11_init_126 : decode cX11_init 126 = .ok (.aload_n 0, 1) := by decide +kernel
theorem dX11_init_127 : decode cX11_init 127 = .ok (.bipush 8, 2) := by decide +kernel
theorem dX11_init_129 : decode cX11_init 129 = .ok (.newarray .int, 2) := by decide +kernel
theorem dX11_init_131 : decode cX11_init 131 = .ok (.putfield 61, 3) := by decide +kernel
theorem dX11_init_134 : decode cX11_init 134 = .ok (.aload_n 0, 1) := by decide +kernel
theorem dX11_init_135 : decode cX11_init 135 = .ok (.ldc 64, 2) := by decide +kernel
theorem dX11_init_137 : decode cX11_init 137 = .ok (.newarray .int, 2) := by decide +kernel
theorem dX11_init_139 : decode cX11_init 139 = .ok (.putfield 65, 3) := by decide +kernel
theorem dX11_init_142 : decode cX11_init 142 = .ok (.aload_n 0, 1) := by decide +kernel
theorem dX11_init_143 : decode cX11_init 143 = .ok (.iconst 2, 1) := by decide +kernel
theorem dX11_init_144 : decode cX11_init 144 = .ok (.putfield 68, 3) := by decide +kernel
theorem dX11_init_147 : decode cX11_init 147 = .ok (.aload_n 0, 1) := by decide +kernel
theorem dX11_init_148 : decode cX11_init 148 = .ok (.bipush 24, 2) := by decide +kernel
theorem dX11_init_150 : decode cX11_init 150 = .ok (.newarray .int, 2) := by decide +kernel
theorem dX11_init_152 : decode cX11_init 152 = .ok (.putfield 71, 3) := by decide +kernel
theorem dX11_init_155 : decode cX11_init 155 = .ok (.aload_n 0, 1) := by decide +kernel
theorem dX11_init_156 : decode cX11_init 156 = .ok (.iconst 4, 1) := by decide +kernel
theorem dX11_init_157 : decode cX11_init 157 = .ok (.newarray .int, 2) := by decide +kernel
theorem dX11_init_159 : decode cX11_init 159 = .ok (.putfield 74, 3) := by decide +kernel
theorem dX11_init_162 : decode cX11_init 162 = .ok (.aload_n 0, 1) := by decide +kernel
theorem dX11_init_163 : decode cX11_init 163 = .ok (.bipush 64, 2) := by decide +kernel
theorem dX11_init_165 : decode cX11_init 165 = .ok (.newarray .int, 2) := by decide +kernel
theorem dX11_init_167 : decode cX11_init 167 = .ok (.putfield 77, 3) := by decide +kernel
theorem dX11_init_170 : decode cX11_init 170 = .ok (.aload_n 0, 1) := by decide +kernel
theorem dX11_init_171 : decode cX11_init 171 = .ok (.sipush 2560, 3) := by decide +kernel
theorem dX11_init_174 : decode cX11_init 174 = .ok (.newarray .int, 2) := by decide +kernel
theorem dX11_init_176 : decode cX11_init 176 = .ok (.putfield 80, 3) := by decide +kernel
theorem dX11_init_179 : decode cX11_init 179 = .ok (.return_, 1) := by decide +kernel
theorem dX11_thrown_0 : decode cX11_thrown 0 = .ok (.aload_n 0, 1) := by decide +kernel
theorem dX11_thrown_1 : decode cX11_thrown 1 = .ok (.getfield 83, 3) := by decide +kernel
theorem dX11_thrown_4 : decode cX11_thrown 4 = .ok (.ireturn, 1) := by decide +kernel
theorem dX11_in_0 : decode cX11_in 0 = .ok (.lload_n 0, 1) := by decide +kernel
theorem dX11_in_1 : decode cX11_in 1 = .ok (.lload_n 2, 1) := by decide +kernel
theorem dX11_in_2 : decode cX11_in 2 = .ok (.lcmp, 1) := by decide +kernel
theorem dX11_in_3 : decode cX11_in 3 = .ok (.ifCond .lt 14, 3) := by decide +kernel
theorem dX11_in_6 : decode cX11_in 6 = .ok (.lload_n 0, 1) := by decide +kernel
theorem dX11_in_7 : decode cX11_in 7 = .ok (.lload 4, 2) := by decide +kernel
theorem dX11_in_9 : decode cX11_in 9 = .ok (.lcmp, 1) := by decide +kernel
theorem dX11_in_10 : decode cX11_in 10 = .ok (.ifCond .gt 7, 3) := by decide +kernel
theorem dX11_in_13 : decode cX11_in 13 = .ok (.iconst 1, 1) := by decide +kernel
theorem dX11_in_14 : decode cX11_in 14 = .ok (.goto 4, 3) := by decide +kernel
theorem dX11_in_17 : decode cX11_in 17 = .ok (.iconst 0, 1) := by decide +kernel
theorem dX11_in_18 : decode cX11_in 18 = .ok (.ireturn, 1) := by decide +kernel
theorem dX11_refuse_0 : decode cX11_refuse 0 = .ok (.aload_n 0, 1) := by decide +kernel
theorem dX11_refuse_1 : decode cX11_refuse 1 = .ok (.iconst 1, 1) := by decide +kernel
theorem dX11_refuse_2 : decode cX11_refuse 2 = .ok (.putfield 83, 3) := by decide +kernel
theorem dX11_refuse_5 : decode cX11_refuse 5 = .ok (.iconst 0, 1) := by decide +kernel
theorem dX11_refuse_6 : decode cX11_refuse 6 = .ok (.ireturn, 1) := by decide +kernel
set_option maxRecDepth 20000 in
theorem ggX11_isThing_X11_in : GoodIn wsX11_isThing wsX11_in := goodIn_r _ [5] (by decide +kernel) (by decide +kernel)
set_option maxRecDepth 20000 in
theorem gX11_isThing_X11_in : GoodIn wsX11_isThing (va_wsS RX11 86 yX11_in wsX11_in) := goodIn_app (goodIn_of _ (by decide +kernel)) ggX11_isThing_X11_in
theorem dX11_isThing_0 : decode cX11_isThing 0 = .ok (.iload_n 1, 1) := by decide +kernel
theorem dX11_isThing_1 : decode cX11_isThing 1 = .ok (.i2l, 1) := by decide +kernel
theorem dX11_isThing_2 : decode cX11_isThing 2 = .ok (.lconst 0, 1) := by decide +kernel
theorem dX11_isThing_3 : decode cX11_isThing 3 = .ok (.aload_n 0, 1) := by decide +kernel
theorem dX11_isThing_4 : decode cX11_isThing 4 = .ok (.getfield 9, 3) := by decide +kernel
theorem dX11_isThing_7 : decode cX11_isThing 7 = .ok (.iconst 1, 1) := by decide +kernel
theorem dX11_isThing_8 : decode cX11_isThing 8 = .ok (.isub, 1) := by decide +kernel
theorem dX11_isThing_9 : decode cX11_isThing 9 = .ok (.i2l, 1) := by decide +kernel
theorem dX11_isThing_10 : decode cX11_isThing 10 = .ok (.invokestatic 86, 3) := by decide +kernel
theorem dX11_isThing_13 : decode cX11_isThing 13 = .ok (.ireturn, 1) := by decide +kernel
theorem dX11_by_0 : decode cX11_by 0 = .ok (.aload_n 0, 1) := by decide +kernel
theorem dX11_by_1 : decode cX11_by 1 = .ok (.getfield 13, 3) := by decide +kernel
theorem dX11_by_4 : decode cX11_by 4 = .ok (.bipush 8, 2) := by decide +kernel
theorem dX11_by_6 : decode cX11_by 6 = .ok (.iload_n 1, 1) := by decide +kernel
theorem dX11_by_7 : decode cX11_by 7 = .ok (.imul, 1) := by decide +kernel
theorem dX11_by_8 : decode cX11_by 8 = .ok (.iload_n 2, 1) := by decide +kernel
theorem dX11_by_9 : decode cX11_by 9 = .ok (.iadd, 1) := by decide +kernel
theorem dX11_by_10 : decode cX11_by 10 = .ok (.iaload, 1) := by decide +kernel
theorem dX11_by_11 : decode cX11_by 11 = .ok (.ireturn, 1) := by decide +kernel
theorem dX11_straight_0 : decode cX11_straight 0 = .ok (.iconst 0, 1) := by decide +kernel
theorem dX11_straight_1 : decode cX11_straight 1 = .ok (.istore_n 1, 1) := by decide +kernel
theorem dX11_straight_2 : decode cX11_straight 2 = .ok (.iload_n 1, 1) := by decide +kernel
theorem dX11_straight_3 : decode cX11_straight 3 = .ok (.bipush 64, 2) := by decide +kernel
theorem dX11_straight_5 : decode cX11_straight 5 = .ok (.if_icmp .ge 16, 3) := by decide +kernel
theorem dX11_straight_8 : decode cX11_straight 8 = .ok (.aload_n 0, 1) := by decide +kernel
theorem dX11_straight_9 : decode cX11_straight 9 = .ok (.getfield 20, 3) := by decide +kernel
theorem dX11_straight_12 : decode cX11_straight 12 = .ok (.iload_n 1, 1) := by decide +kernel
theorem dX11_straight_13 : decode cX11_straight 13 = .ok (.iconst 0, 1) := by decide +kernel
theorem dX11_straight_14 : decode cX11_straight 14 = .ok (.iastore, 1) := by decide +kernel
theorem dX11_straight_15 : decode cX11_straight 15 = .ok (.iinc 1 1, 3) := by decide +kernel
theorem dX11_straight_18 : decode cX11_straight 18 = .ok (.goto (-16), 3) := by decide +kernel
theorem dX11_straight_21 : decode cX11_straight 21 = .ok (.return_, 1) := by decide +kernel
set_option maxRecDepth 20000 in
theorem ggX11_sized_X11_straight : GoodIn wsX11_sized wsX11_straight := goodIn_r _ [6, 7, 8, 9, 10, 11, 12, 13, 14, 15, 16, 17, 18, 19, 20, 21, 22, 23, 24, 25, 26, 27, 28, 29, 30, 31, 32, 33, 34, 35, 36] (by decide +kernel) (by decide +kernel)
set_option maxRecDepth 20000 in
theorem gX11_sized_X11_straight : GoodIn wsX11_sized (wsV RX11 90 RX11 yX11_straight wsX11_straight) := goodIn_app (goodIn_of _ (by decide +kernel)) ggX11_sized_X11_straight
theorem dX11_sized_0 : decode cX11_sized 0 = .ok (.aload_n 0, 1) := by decide +kernel
theorem dX11_sized_1 : decode cX11_sized 1 = .ok (.invokevirtual 90, 3) := by decide +kernel
theorem dX11_sized_4 : decode cX11_sized 4 = .ok (.aload_n 0, 1) := by decide +kernel
theorem dX11_sized_5 : decode cX11_sized 5 = .ok (.iload_n 1, 1) := by decide +kernel
theorem dX11_sized_6 : decode cX11_sized 6 = .ok (.putfield 9, 3) := by decide +kernel
theorem dX11_sized_9 : decode cX11_sized 9 = .ok (.return_, 1) := by decide +kernel
set_option maxRecDepth 20000 in
theorem ggX11_table_X11_in : GoodIn wsX11_table wsX11_in := goodIn_r _ [8] (by decide +kernel) (by decide +kernel)
set_option maxRecDepth 20000 in
theorem gX11_table_X11_in : GoodIn wsX11_table (va_wsS RX11 86 yX11_in wsX11_in) := goodIn_app (goodIn_of _ (by decide +kernel)) ggX11_table_X11_in
set_option maxRecDepth 20000 in
theorem ggX11_table_X11_straight : GoodIn wsX11_table wsX11_straight := goodIn_r _ [12, 13, 14, 15, 16, 17, 18, 19, 20, 21, 22, 23, 24, 25, 26, 27, 28, 29, 30, 31, 32, 33, 34, 35, 36, 37, 38, 39, 40, 41, 42] (by decide +kernel) (by decide +kernel)
set_option maxRecDepth 20000 in
theorem gX11_table_X11_straight : GoodIn wsX11_table (wsV RX11 90 RX11 yX11_straight wsX11_straight) := goodIn_app (goodIn_of _ (by decide +kernel)) ggX11_table_X11_straight
theorem dX11_table_0 : decode cX11_table 0 = .ok (.aload_n 0, 1) := by decide +kernel
theorem dX11_table_1 : decode cX11_table 1 = .ok (.iconst 0, 1) := by decide +kernel
theorem dX11_table_2 : decode cX11_table 2 = .ok (.putfield 83, 3) := by decide +kernel
theorem dX11_table_5 : decode cX11_table 5 = .ok (.iload_n 1, 1) := by decide +kernel
theorem dX11_table_6 : decode cX11_table 6 = .ok (.i2l, 1) := by decide +kernel
theorem dX11_table_7 : decode cX11_table 7 = .ok (.lconst 1, 1) := by decide +kernel
theorem dX11_table_8 : decode cX11_table 8 = .ok (.ldc2_w 93, 3) := by decide +kernel
theorem dX11_table_11 : decode cX11_table 11 = .ok (.invokestatic 86, 3) := by decide +kernel
theorem dX11_table_14 : decode cX11_table 14 = .ok (.ifCond .ne 5, 3) := by decide +kernel
theorem dX11_table_17 : decode cX11_table 17 = .ok (.iconst 0, 1) := by decide +kernel
theorem dX11_table_18 : decode cX11_table 18 = .ok (.ireturn, 1) := by decide +kernel
theorem dX11_table_19 : decode cX11_table 19 = .ok (.aload_n 0, 1) := by decide +kernel
theorem dX11_table_20 : decode cX11_table 20 = .ok (.iload_n 1, 1) := by decide +kernel
theorem dX11_table_21 : decode cX11_table 21 = .ok (.putfield 9, 3) := by decide +kernel
theorem dX11_table_24 : decode cX11_table 24 = .ok (.aload_n 0, 1) := by decide +kernel
theorem dX11_table_25 : decode cX11_table 25 = .ok (.invokevirtual 90, 3) := by decide +kernel
theorem dX11_table_28 : decode cX11_table 28 = .ok (.iconst 0, 1) := by decide +kernel
theorem dX11_table_29 : decode cX11_table 29 = .ok (.istore_n 2, 1) := by decide +kernel
theorem dX11_table_30 : decode cX11_table 30 = .ok (.iload_n 2, 1) := by decide +kernel
theorem dX11_table_31 : decode cX11_table 31 = .ok (.iload_n 1, 1) := by decide +kernel
theorem dX11_table_32 : decode cX11_table 32 = .ok (.if_icmp .ge 34, 3) := by decide +kernel
theorem dX11_table_35 : decode cX11_table 35 = .ok (.iconst 0, 1) := by decide +kernel
theorem dX11_table_36 : decode cX11_table 36 = .ok (.istore_n 3, 1) := by decide +kernel
theorem dX11_table_37 : decode cX11_table 37 = .ok (.iload_n 3, 1) := by decide +kernel
theorem dX11_table_38 : decode cX11_table 38 = .ok (.iload_n 1, 1) := by decide +kernel
theorem dX11_table_39 : decode cX11_table 39 = .ok (.if_icmp .ge 21, 3) := by decide +kernel
theorem dX11_table_42 : decode cX11_table 42 = .ok (.aload_n 0, 1) := by decide +kernel
theorem dX11_table_43 : decode cX11_table 43 = .ok (.getfield 13, 3) := by decide +kernel
theorem dX11_table_46 : decode cX11_table 46 = .ok (.bipush 8, 2) := by decide +kernel
theorem dX11_table_48 : decode cX11_table 48 = .ok (.iload_n 2, 1) := by decide +kernel
theorem dX11_table_49 : decode cX11_table 49 = .ok (.imul, 1) := by decide +kernel
theorem dX11_table_50 : decode cX11_table 50 = .ok (.iload_n 3, 1) := by decide +kernel
theorem dX11_table_51 : decode cX11_table 51 = .ok (.iadd, 1) := by decide +kernel
theorem dX11_table_52 : decode cX11_table 52 = .ok (.iload_n 3, 1) := by decide +kernel
theorem dX11_table_53 : decode cX11_table 53 = .ok (.iastore, 1) := by decide +kernel
theorem dX11_table_54 : decode cX11_table 54 = .ok (.iinc 3 1, 3) := by decide +kernel
theorem dX11_table_57 : decode cX11_table 57 = .ok (.goto (-20), 3) := by decide +kernel
theorem dX11_table_60 : decode cX11_table 60 = .ok (.iinc 2 1, 3) := by decide +kernel
theorem dX11_table_63 : decode cX11_table 63 = .ok (.goto (-33), 3) := by decide +kernel
theorem dX11_table_66 : decode cX11_table 66 = .ok (.iconst 1, 1) := by decide +kernel
theorem dX11_table_67 : decode cX11_table 67 = .ok (.ireturn, 1) := by decide +kernel
set_option maxRecDepth 20000 in
theorem ggX11_set_X11_isThing : GoodIn wsX11_set wsX11_isThing := goodIn_r _ [7, 8, 9, 10, 6, 11, 12, 13, 14, 15, 16, 17, 18, 19, 20, 21, 22, 23, 24, 25, 26, 27, 28, 29, 30, 31, 32, 33, 34, 35, 36, 37, 38, 39, 40] (by decide +kernel) (by decide +kernel)
set_option maxRecDepth 20000 in
theorem gX11_set_X11_isThing : GoodIn wsX11_set (wsV RX11 95 RX11 yX11_isThing wsX11_isThing) := goodIn_app (goodIn_of _ (by decide +kernel)) ggX11_set_X11_isThing
theorem dX11_set_0 : decode cX11_set 0 = .ok (.aload_n 0, 1) := by decide +kernel
theorem dX11_set_1 : decode cX11_set 1 = .ok (.iconst 0, 1) := by decide +kernel
theorem dX11_set_2 : decode cX11_set 2 = .ok (.putfield 83, 3) := by decide +kernel
theorem dX11_set_5 : decode cX11_set 5 = .ok (.aload_n 0, 1) := by decide +kernel
theorem dX11_set_6 : decode cX11_set 6 = .ok (.iload_n 1, 1) := by decide +kernel
theorem dX11_set_7 : decode cX11_set 7 = .ok (.invokevirtual 95, 3) := by decide +kernel
theorem dX11_set_10 : decode cX11_set 10 = .ok (.ifCond .eq 19, 3) := by decide +kernel
theorem dX11_set_13 : decode cX11_set 13 = .ok (.aload_n 0, 1) := by decide +kernel
theorem dX11_set_14 : decode cX11_set 14 = .ok (.iload_n 2, 1) := by decide +kernel
theorem dX11_set_15 : decode cX11_set 15 = .ok (.invokevirtual 95, 3) := by decide +kernel
theorem dX11_set_18 : decode cX11_set 18 = .ok (.ifCond .eq 11, 3) := by decide +kernel
theorem dX11_set_21 : decode cX11_set 21 = .ok (.aload_n 0, 1) := by decide +kernel
theorem dX11_set_22 : decode cX11_set 22 = .ok (.iload_n 3, 1) := by decide +kernel
theorem dX11_set_23 : decode cX11_set 23 = .ok (.invokevirtual 95, 3) := by decide +kernel
theorem dX11_set_26 : decode cX11_set 26 = .ok (.ifCond .ne 5, 3) := by decide +kernel
theorem dX11_set_29 : decode cX11_set 29 = .ok (.iconst 0, 1) := by decide +kernel
theorem dX11_set_30 : decode cX11_set 30 = .ok (.ireturn, 1) := by decide +kernel
theorem dX11_set_31 : decode cX11_set 31 = .ok (.aload_n 0, 1) := by decide +kernel
theorem dX11_set_32 : decode cX11_set 32 = .ok (.getfield 13, 3) := by decide +kernel
theorem dX11_set_35 : decode cX11_set 35 = .ok (.bipush 8, 2) := by decide +kernel
theorem dX11_set_37 : decode cX11_set 37 = .ok (.iload_n 1, 1) := by decide +kernel
theorem dX11_set_38 : decode cX11_set 38 = .ok (.imul, 1) := by decide +kernel
theorem dX11_set_39 : decode cX11_set 39 = .ok (.iload_n 2, 1) := by decide +kernel
theorem dX11_set_40 : decode cX11_set 40 = .ok (.iadd, 1) := by decide +kernel
theorem dX11_set_41 : decode cX11_set 41 = .ok (.iload_n 3, 1) := by decide +kernel
theorem dX11_set_42 : decode cX11_set 42 = .ok (.iastore, 1) := by decide +kernel
theorem dX11_set_43 : decode cX11_set 43 = .ok (.iconst 1, 1) := by decide +kernel
theorem dX11_set_44 : decode cX11_set 44 = .ok (.ireturn, 1) := by decide +kernel
set_option maxRecDepth 20000 in
theorem ggX11_at_X11_isThing : GoodIn wsX11_at wsX11_isThing := goodIn_r _ [6, 7, 8, 9, 5, 10, 20, 21, 22, 23, 24, 25, 26, 27, 28, 29, 30, 31, 32, 33, 34, 35, 36, 37, 38, 39, 40, 41, 42, 43, 44, 45, 46, 47, 48] (by decide +kernel) (by decide +kernel)
set_option maxRecDepth 20000 in
theorem gX11_at_X11_isThing : GoodIn wsX11_at (wsV RX11 95 RX11 yX11_isThing wsX11_isThing) := goodIn_app (goodIn_of _ (by decide +kernel)) ggX11_at_X11_isThing
set_option maxRecDepth 20000 in
theorem ggX11_at_X11_by : GoodIn wsX11_at wsX11_by := goodIn_r _ [14, 15, 20, 21, 22, 23, 24, 25, 26, 27, 28, 29, 30, 31, 32, 33, 34, 35, 36, 37, 38, 39, 40, 41, 42, 43, 44, 45, 46, 47, 48] (by decide +kernel) (by decide +kernel)
set_option maxRecDepth 20000 in
theorem gX11_at_X11_by : GoodIn wsX11_at (wsV RX11 99 RX11 yX11_by wsX11_by) := goodIn_app (goodIn_of _ (by decide +kernel)) ggX11_at_X11_by
set_option maxRecDepth 20000 in
theorem ggX11_at_X11_refuse : GoodIn wsX11_at wsX11_refuse := goodIn_r _ [19, 1, 20, 21, 22, 23, 24, 25, 26, 27, 28, 29, 30, 31, 32, 33, 34, 35, 36, 37, 38, 39, 40, 41, 42, 43, 44, 45, 46, 47, 48] (by decide +kernel) (by decide +kernel)
set_option maxRecDepth 20000 in
theorem gX11_at_X11_refuse : GoodIn wsX11_at (wsV RX11 103 RX11 yX11_refuse wsX11_refuse) := goodIn_app (goodIn_of _ (by decide +kernel)) ggX11_at_X11_refuse
theorem dX11_at_0 : decode cX11_at 0 = .ok (.aload_n 0, 1) := by decide +kernel
theorem dX11_at_1 : decode cX11_at 1 = .ok (.iconst 0, 1) := by decide +kernel
theorem dX11_at_2 : decode cX11_at 2 = .ok (.putfield 83, 3) := by decide +kernel
theorem dX11_at_5 : decode cX11_at 5 = .ok (.aload_n 0, 1) := by decide +kernel
theorem dX11_at_6 : decode cX11_at 6 = .ok (.iload_n 1, 1) := by decide +kernel
theorem dX11_at_7 : decode cX11_at 7 = .ok (.invokevirtual 95, 3) := by decide +kernel
theorem dX11_at_10 : decode cX11_at 10 = .ok (.ifCond .eq 20, 3) := by decide +kernel
theorem dX11_at_13 : decode cX11_at 13 = .ok (.aload_n 0, 1) := by decide +kernel
theorem dX11_at_14 : decode cX11_at 14 = .ok (.iload_n 2, 1) := by decide +kernel
theorem dX11_at_15 : decode cX11_at 15 = .ok (.invokevirtual 95, 3) := by decide +kernel
theorem dX11_at_18 : decode cX11_at 18 = .ok (.ifCond .eq 12, 3) := by decide +kernel
theorem dX11_at_21 : decode cX11_at 21 = .ok (.aload_n 0, 1) := by decide +kernel
theorem dX11_at_22 : decode cX11_at 22 = .ok (.iload_n 1, 1) := by decide +kernel
theorem dX11_at_23 : decode cX11_at 23 = .ok (.iload_n 2, 1) := by decide +kernel
theorem dX11_at_24 : decode cX11_at 24 = .ok (.invokevirtual 99, 3) := by decide +kernel
theorem dX11_at_27 : decode cX11_at 27 = .ok (.goto 7, 3) := by decide +kernel
theorem dX11_at_30 : decode cX11_at 30 = .ok (.aload_n 0, 1) := by decide +kernel
theorem dX11_at_31 : decode cX11_at 31 = .ok (.invokevirtual 103, 3) := by decide +kernel
theorem dX11_at_34 : decode cX11_at 34 = .ok (.ireturn, 1) := by decide +kernel
set_option maxRecDepth 20000 in
theorem ggX11_common_X11_common : GoodIn wsX11_common wsX11_common := goodIn_r _ [0, 1, 2, 3] (by decide +kernel) (by decide +kernel)
set_option maxRecDepth 20000 in
theorem gX11_common_X11_common : GoodIn wsX11_common (va_wsS RX11 107 yX11_common wsX11_common) := goodIn_app (goodIn_of _ (by decide +kernel)) ggX11_common_X11_common
theorem dX11_common_0 : decode cX11_common 0 = .ok (.iload_n 1, 1) := by decide +kernel
theorem dX11_common_1 : decode cX11_common 1 = .ok (.ifCond .ne 7, 3) := by decide +kernel
theorem dX11_common_4 : decode cX11_common 4 = .ok (.iload_n 0, 1) := by decide +kernel
theorem dX11_common_5 : decode cX11_common 5 = .ok (.goto 10, 3) := by decide +kernel
theorem dX11_common_8 : decode cX11_common 8 = .ok (.iload_n 1, 1) := by decide +kernel
theorem dX11_common_9 : decode cX11_common 9 = .ok (.iload_n 0, 1) := by decide +kernel
theorem dX11_common_10 : decode cX11_common 10 = .ok (.iload_n 1, 1) := by decide +kernel
theorem dX11_common_11 : decode cX11_common 11 = .ok (.irem, 1) := by decide +kernel
theorem dX11_common_12 : decode cX11_common 12 = .ok (.invokestatic 107, 3) := by decide +kernel
theorem dX11_common_15 : decode cX11_common 15 = .ok (.ireturn, 1) := by decide +kernel
set_option maxRecDepth 20000 in
theorem ggX11_line_X11_in : GoodIn wsX11_line wsX11_in := goodIn_r _ [7] (by decide +kernel) (by decide +kernel)
set_option maxRecDepth 20000 in
theorem gX11_line_X11_in : GoodIn wsX11_line (va_wsS RX11 86 yX11_in wsX11_in) := goodIn_app (goodIn_of _ (by decide +kernel)) ggX11_line_X11_in
set_option maxRecDepth 20000 in
theorem ggX11_line_X11_common : GoodIn wsX11_line wsX11_common := goodIn_r _ [10, 8, 9, 6] (by decide +kernel) (by decide +kernel)
set_option maxRecDepth 20000 in
theorem gX11_line_X11_common : GoodIn wsX11_line (va_wsS RX11 107 yX11_common wsX11_common) := goodIn_app (goodIn_of _ (by decide +kernel)) ggX11_line_X11_common
set_option maxRecDepth 20000 in
theorem ggX11_line_X11_sized : GoodIn wsX11_line wsX11_sized := goodIn_r _ [14, 15, 16, 17, 18, 6, 19, 20, 25, 26, 27, 28, 29, 30, 31, 32, 33, 34, 35, 36, 37, 38, 39, 40, 41, 42, 43, 44, 45, 46, 47, 48, 49, 50, 51, 52, 53] (by decide +kernel) (by decide +kernel)
set_option maxRecDepth 20000 in
theorem gX11_line_X11_sized : GoodIn wsX11_line (wsV RX11 110 RX11 yX11_sized wsX11_sized) := goodIn_app (goodIn_of _ (by decide +kernel)) ggX11_line_X11_sized
set_option maxRecDepth 20000 in
theorem ggX11_line_J9_floorMod_7cf53 : GoodIn wsX11_line wsJ9_floorMod_7cf53 := goodIn_r _ [24] (by decide +kernel) (by decide +kernel)
set_option maxRecDepth 20000 in
theorem gX11_line_J9_floorMod_7cf53 : GoodIn wsX11_line (va_wsS RX11 114 yJ9_floorMod_7cf53 wsJ9_floorMod_7cf53) := goodIn_app (goodIn_of _ (by decide +kernel)) ggX11_line_J9_floorMod_7cf53
theorem dX11_line_0 : decode cX11_line 0 = .ok (.aload_n 0, 1) := by decide +kernel
theorem dX11_line_1 : decode cX11_line 1 = .ok (.iconst 0, 1) := by decide +kernel
theorem dX11_line_2 : decode cX11_line 2 = .ok (.putfield 83, 3) := by decide +kernel
theorem dX11_line_5 : decode cX11_line 5 = .ok (.iload_n 1, 1) := by decide +kernel
theorem dX11_line_6 : decode cX11_line 6 = .ok (.i2l, 1) := by decide +kernel
theorem dX11_line_7 : decode cX11_line 7 = .ok (.lconst 1, 1) := by decide +kernel
theorem dX11_line_8 : decode cX11_line 8 = .ok (.ldc2_w 93, 3) := by decide +kernel
theorem dX11_line_11 : decode cX11_line 11 = .ok (.invokestatic 86, 3) := by decide +kernel
theorem dX11_line_14 : decode cX11_line 14 = .ok (.ifCond .eq 30, 3) := by decide +kernel
theorem dX11_line_17 : decode cX11_line 17 = .ok (.iload_n 2, 1) := by decide +kernel
theorem dX11_line_18 : decode cX11_line 18 = .ok (.i2l, 1) := by decide +kernel
theorem dX11_line_19 : decode cX11_line 19 = .ok (.lconst 0, 1) := by decide +kernel
theorem dX11_line_20 : decode cX11_line 20 = .ok (.iload_n 1, 1) := by decide +kernel
theorem dX11_line_21 : decode cX11_line 21 = .ok (.iconst 1, 1) := by decide +kernel
theorem dX11_line_22 : decode cX11_line 22 = .ok (.isub, 1) := by decide +kernel
theorem dX11_line_23 : decode cX11_line 23 = .ok (.i2l, 1) := by decide +kernel
theorem dX11_line_24 : decode cX11_line 24 = .ok (.invokestatic 86, 3) := by decide +kernel
theorem dX11_line_27 : decode cX11_line 27 = .ok (.ifCond .eq 17, 3) := by decide +kernel
theorem dX11_line_30 : decode cX11_line 30 = .ok (.iload_n 1, 1) := by decide +kernel
theorem dX11_line_31 : decode cX11_line 31 = .ok (.iconst 1, 1) := by decide +kernel
theorem dX11_line_32 : decode cX11_line 32 = .ok (.if_icmp .le 14, 3) := by decide +kernel
theorem dX11_line_35 : decode cX11_line 35 = .ok (.iload_n 1, 1) := by decide +kernel
theorem dX11_line_36 : decode cX11_line 36 = .ok (.iload_n 2, 1) := by decide +kernel
theorem dX11_line_37 : decode cX11_line 37 = .ok (.invokestatic 107, 3) := by decide +kernel
theorem dX11_line_40 : decode cX11_line 40 = .ok (.iconst 1, 1) := by decide +kernel
theorem dX11_line_41 : decode cX11_line 41 = .ok (.if_icmp .le 5, 3) := by decide +kernel
theorem dX11_line_44 : decode cX11_line 44 = .ok (.iconst 0, 1) := by decide +kernel
theorem dX11_line_45 : decode cX11_line 45 = .ok (.ireturn, 1) := by decide +kernel
theorem dX11_line_46 : decode cX11_line 46 = .ok (.aload_n 0, 1) := by decide +kernel
theorem dX11_line_47 : decode cX11_line 47 = .ok (.iload_n 1, 1) := by decide +kernel
theorem dX11_line_48 : decode cX11_line 48 = .ok (.invokevirtual 110, 3) := by decide +kernel
theorem dX11_line_51 : decode cX11_line 51 = .ok (.iconst 0, 1) := by decide +kernel
theorem dX11_line_52 : decode cX11_line 52 = .ok (.istore_n 3, 1) := by decide +kernel
theorem dX11_line_53 : decode cX11_line 53 = .ok (.iload_n 3, 1) := by decide +kernel
theorem dX11_line_54 : decode cX11_line 54 = .ok (.iload_n 1, 1) := by decide +kernel
theorem dX11_line_55 : decode cX11_line 55 = .ok (.if_icmp .ge 50, 3) := by decide +kernel
theorem dX11_line_58 : decode cX11_line 58 = .ok (.iconst 0, 1) := by decide +kernel
theorem dX11_line_59 : decode cX11_line 59 = .ok (.istore 4, 2) := by decide +kernel
theorem dX11_line_61 : decode cX11_line 61 = .ok (.iload 4, 2) := by decide +kernel
theorem dX11_line_63 : decode cX11_line 63 = .ok (.iload_n 1, 1) := by decide +kernel
theorem dX11_line_64 : decode cX11_line 64 = .ok (.if_icmp .ge 35, 3) := by decide +kernel
theorem dX11_line_67 : decode cX11_line 67 = .ok (.aload_n 0, 1) := by decide +kernel
theorem dX11_line_68 : decode cX11_line 68 = .ok (.getfield 13, 3) := by decide +kernel
theorem dX11_line_71 : decode cX11_line 71 = .ok (.bipush 8, 2) := by decide +kernel
theorem dX11_line_73 : decode cX11_line 73 = .ok (.iload_n 3, 1) := by decide +kernel
theorem dX11_line_74 : decode cX11_line 74 = .ok (.imul, 1) := by decide +kernel
theorem dX11_line_75 : decode cX11_line 75 = .ok (.iload 4, 2) := by decide +kernel
theorem dX11_line_77 : decode cX11_line 77 = .ok (.iadd, 1) := by decide +kernel
theorem dX11_line_78 : decode cX11_line 78 = .ok (.iconst 1, 1) := by decide +kernel
theorem dX11_line_79 : decode cX11_line 79 = .ok (.iload_n 2, 1) := by decide +kernel
theorem dX11_line_80 : decode cX11_line 80 = .ok (.isub, 1) := by decide +kernel
theorem dX11_line_81 : decode cX11_line 81 = .ok (.iload_n 3, 1) := by decide +kernel
theorem dX11_line_82 : decode cX11_line 82 = .ok (.imul, 1) := by decide +kernel
theorem dX11_line_83 : decode cX11_line 83 = .ok (.iload_n 2, 1) := by decide +kernel
theorem dX11_line_84 : decode cX11_line 84 = .ok (.iload 4, 2) := by decide +kernel
theorem dX11_line_86 : decode cX11_line 86 = .ok (.imul, 1) := by decide +kernel
theorem dX11_line_87 : decode cX11_line 87 = .ok (.iadd, 1) := by decide +kernel
theorem dX11_line_88 : decode cX11_line 88 = .ok (.iload_n 1, 1) := by decide +kernel
theorem dX11_line_89 : decode cX11_line 89 = .ok (.invokestatic 114, 3) := by decide +kernel
theorem dX11_line_92 : decode cX11_line 92 = .ok (.iastore, 1) := by decide +kernel
theorem dX11_line_93 : decode cX11_line 93 = .ok (.iinc 4 1, 3) := by decide +kernel
theorem dX11_line_96 : decode cX11_line 96 = .ok (.goto (-35), 3) := by decide +kernel
theorem dX11_line_99 : decode cX11_line 99 = .ok (.iinc 3 1, 3) := by decide +kernel
theorem dX11_line_102 : decode cX11_line 102 = .ok (.goto (-49), 3) := by decide +kernel
theorem dX11_line_105 : decode cX11_line 105 = .ok (.iconst 1, 1) := by decide +kernel
theorem dX11_line_106 : decode cX11_line 106 = .ok (.ireturn, 1) := by decide +kernel
set_option maxRecDepth 20000 in
theorem ggX11_factorial_X11_factorial : GoodIn wsX11_factorial wsX11_factorial := goodIn_r _ [0, 1, 2, 3] (by decide +kernel) (by decide +kernel)
set_option maxRecDepth 20000 in
theorem gX11_factorial_X11_factorial : GoodIn wsX11_factorial (va_wsS RX11 119 yX11_factorial wsX11_factorial) := goodIn_app (goodIn_of _ (by decide +kernel)) ggX11_factorial_X11_factorial
theorem dX11_factorial_0 : decode cX11_factorial 0 = .ok (.iload_n 0, 1) := by decide +kernel
theorem dX11_factorial_1 : decode cX11_factorial 1 = .ok (.iconst 2, 1) := by decide +kernel
theorem dX11_factorial_2 : decode cX11_factorial 2 = .ok (.if_icmp .ge 7, 3) := by decide +kernel
theorem dX11_factorial_5 : decode cX11_factorial 5 = .ok (.iconst 1, 1) := by decide +kernel
theorem dX11_factorial_6 : decode cX11_factorial 6 = .ok (.goto 11, 3) := by decide +kernel
theorem dX11_factorial_9 : decode cX11_factorial 9 = .ok (.iload_n 0, 1) := by decide +kernel
theorem dX11_factorial_10 : decode cX11_factorial 10 = .ok (.iload_n 0, 1) := by decide +kernel
theorem dX11_factorial_11 : decode cX11_factorial 11 = .ok (.iconst 1, 1) := by decide +kernel
theorem dX11_factorial_12 : decode cX11_factorial 12 = .ok (.isub, 1) := by decide +kernel
theorem dX11_factorial_13 : decode cX11_factorial 13 = .ok (.invokestatic 119, 3) := by decide +kernel
theorem dX11_factorial_16 : decode cX11_factorial 16 = .ok (.imul, 1) := by decide +kernel
theorem dX11_factorial_17 : decode cX11_factorial 17 = .ok (.ireturn, 1) := by decide +kernel
set_option maxRecDepth 20000 in
theorem ggX11_permutation_X11_factorial : GoodIn wsX11_permutation wsX11_factorial := goodIn_r _ [4, 1, 2, 3] (by decide +kernel) (by decide +kernel)
set_option maxRecDepth 20000 in
theorem gX11_permutation_X11_factorial : GoodIn wsX11_permutation (va_wsS RX11 119 yX11_factorial wsX11_factorial) := goodIn_app (goodIn_of _ (by decide +kernel)) ggX11_permutation_X11_factorial
theorem dX11_permutation_0 : decode cX11_permutation 0 = .ok (.iload_n 1, 1) := by decide +kernel
theorem dX11_permutation_1 : decode cX11_permutation 1 = .ok (.istore_n 3, 1) := by decide +kernel
theorem dX11_permutation_2 : decode cX11_permutation 2 = .ok (.iconst 0, 1) := by decide +kernel
theorem dX11_permutation_3 : decode cX11_permutation 3 = .ok (.istore 4, 2) := by decide +kernel
theorem dX11_permutation_5 : decode cX11_permutation 5 = .ok (.iconst 0, 1) := by decide +kernel
theorem dX11_permutation_6 : decode cX11_permutation 6 = .ok (.istore 5, 2) := by decide +kernel
theorem dX11_permutation_8 : decode cX11_permutation 8 = .ok (.iload 5, 2) := by decide +kernel
theorem dX11_permutation_10 : decode cX11_permutation 10 = .ok (.iload_n 0, 1) := by decide +kernel
theorem dX11_permutation_11 : decode cX11_permutation 11 = .ok (.if_icmp .ge 92, 3) := by decide +kernel
theorem dX11_permutation_14 : decode cX11_permutation 14 = .ok (.iload_n 0, 1) := by decide +kernel
theorem dX11_permutation_15 : decode cX11_permutation 15 = .ok (.iconst 1, 1) := by decide +kernel
theorem dX11_permutation_16 : decode cX11_permutation 16 = .ok (.isub, 1) := by decide +kernel
theorem dX11_permutation_17 : decode cX11_permutation 17 = .ok (.iload 5, 2) := by decide +kernel
theorem dX11_permutation_19 : decode cX11_permutation 19 = .ok (.isub, 1) := by decide +kernel
theorem dX11_permutation_20 : decode cX11_permutation 20 = .ok (.invokestatic 119, 3) := by decide +kernel
theorem dX11_permutation_23 : decode cX11_permutation 23 = .ok (.istore 6, 2) := by decide +kernel
theorem dX11_permutation_25 : decode cX11_permutation 25 = .ok (.iload_n 3, 1) := by decide +kernel
theorem dX11_permutation_26 : decode cX11_permutation 26 = .ok (.iload 6, 2) := by decide +kernel
theorem dX11_permutation_28 : decode cX11_permutation 28 = .ok (.idiv, 1) := by decide +kernel
theorem dX11_permutation_29 : decode cX11_permutation 29 = .ok (.istore 7, 2) := by decide +kernel
theorem dX11_permutation_31 : decode cX11_permutation 31 = .ok (.iload_n 3, 1) := by decide +kernel
theorem dX11_permutation_32 : decode cX11_permutation 32 = .ok (.iload 6, 2) := by decide +kernel
theorem dX11_permutation_34 : decode cX11_permutation 34 = .ok (.irem, 1) := by decide +kernel
theorem dX11_permutation_35 : decode cX11_permutation 35 = .ok (.istore_n 3, 1) := by decide +kernel
theorem dX11_permutation_36 : decode cX11_permutation 36 = .ok (.iconst 0, 1) := by decide +kernel
theorem dX11_permutation_37 : decode cX11_permutation 37 = .ok (.istore 8, 2) := by decide +kernel
theorem dX11_permutation_39 : decode cX11_permutation 39 = .ok (.iload 4, 2) := by decide +kernel
theorem dX11_permutation_41 : decode cX11_permutation 41 = .ok (.iload 8, 2) := by decide +kernel
theorem dX11_permutation_43 : decode cX11_permutation 43 = .ok (.ishr, 1) := by decide +kernel
theorem dX11_permutation_44 : decode cX11_permutation 44 = .ok (.iconst 1, 1) := by decide +kernel
theorem dX11_permutation_45 : decode cX11_permutation 45 = .ok (.iand, 1) := by decide +kernel
theorem dX11_permutation_46 : decode cX11_permutation 46 = .ok (.iconst 1, 1) := by decide +kernel
theorem dX11_permutation_47 : decode cX11_permutation 47 = .ok (.if_icmp .eq 8, 3) := by decide +kernel
theorem dX11_permutation_50 : decode cX11_permutation 50 = .ok (.iload 7, 2) := by decide +kernel
theorem dX11_permutation_52 : decode cX11_permutation 52 = .ok (.ifCond .le 30, 3) := by decide +kernel
theorem dX11_permutation_55 : decode cX11_permutation 55 = .ok (.iload 7, 2) := by decide +kernel
theorem dX11_permutation_57 : decode cX11_permutation 57 = .ok (.iload 4, 2) := by decide +kernel
theorem dX11_permutation_59 : decode cX11_permutation 59 = .ok (.iload 8, 2) := by decide +kernel
theorem dX11_permutation_61 : decode cX11_permutation 61 = .ok (.ishr, 1) := by decide +kernel
theorem dX11_permutation_62 : decode cX11_permutation 62 = .ok (.iconst 1, 1) := by decide +kernel
theorem dX11_permutation_63 : decode cX11_permutation 63 = .ok (.iand, 1) := by decide +kernel
theorem dX11_permutation_64 : decode cX11_permutation 64 = .ok (.iconst 1, 1) := by decide +kernel
theorem dX11_permutation_65 : decode cX11_permutation 65 = .ok (.if_icmp .ne 7, 3) := by decide +kernel
theorem dX11_permutation_68 : decode cX11_permutation 68 = .ok (.iconst 0, 1) := by decide +kernel
theorem dX11_permutation_69 : decode cX11_permutation 69 = .ok (.goto 4, 3) := by decide +kernel
theorem dX11_permutation_72 : decode cX11_permutation 72 = .ok (.iconst 1, 1) := by decide +kernel
theorem dX11_permutation_73 : decode cX11_permutation 73 = .ok (.isub, 1) := by decide +kernel
theorem dX11_permutation_74 : decode cX11_permutation 74 = .ok (.istore 7, 2) := by decide +kernel
theorem dX11_permutation_76 : decode cX11_permutation 76 = .ok (.iinc 8 1, 3) := by decide +kernel
theorem dX11_permutation_79 : decode cX11_permutation 79 = .ok (.goto (-40), 3) := by decide +kernel
theorem dX11_permutation_82 : decode cX11_permutation 82 = .ok (.aload_n 2, 1) := by decide +kernel
theorem dX11_permutation_83 : decode cX11_permutation 83 = .ok (.iload 5, 2) := by decide +kernel
theorem dX11_permutation_85 : decode cX11_permutation 85 = .ok (.iload 8, 2) := by decide +kernel
theorem dX11_permutation_87 : decode cX11_permutation 87 = .ok (.iastore, 1) := by decide +kernel
theorem dX11_permutation_88 : decode cX11_permutation 88 = .ok (.iload 4, 2) := by decide +kernel
theorem dX11_permutation_90 : decode cX11_permutation 90 = .ok (.iconst 1, 1) := by decide +kernel
theorem dX11_permutation_91 : decode cX11_permutation 91 = .ok (.iload 8, 2) := by decide +kernel
theorem dX11_permutation_93 : decode cX11_permutation 93 = .ok (.ishl, 1) := by decide +kernel
theorem dX11_permutation_94 : decode cX11_permutation 94 = .ok (.ior, 1) := by decide +kernel
theorem dX11_permutation_95 : decode cX11_permutation 95 = .ok (.istore 4, 2) := by decide +kernel
theorem dX11_permutation_97 : decode cX11_permutation 97 = .ok (.iinc 5 1, 3) := by decide +kernel
theorem dX11_permutation_100 : decode cX11_permutation 100 = .ok (.goto (-92), 3) := by decide +kernel
theorem dX11_permutation_103 : decode cX11_permutation 103 = .ok (.return_, 1) := by decide +kernel
set_option maxRecDepth 20000 in
theorem ggX11_numberOf_X11_factorial : GoodIn wsX11_numberOf wsX11_factorial := goodIn_r _ [4, 1, 2, 3] (by decide +kernel) (by decide +kernel)
set_option maxRecDepth 20000 in
theorem gX11_numberOf_X11_factorial : GoodIn wsX11_numberOf (va_wsS RX11 119 yX11_factorial wsX11_factorial) := goodIn_app (goodIn_of _ (by decide +kernel)) ggX11_numberOf_X11_factorial
theorem dX11_numberOf_0 : decode cX11_numberOf 0 = .ok (.iconst 0, 1) := by decide +kernel
theorem dX11_numberOf_1 : decode cX11_numberOf 1 = .ok (.istore_n 2, 1) := by decide +kernel
theorem dX11_numberOf_2 : decode cX11_numberOf 2 = .ok (.iconst 0, 1) := by decide +kernel
theorem dX11_numberOf_3 : decode cX11_numberOf 3 = .ok (.istore_n 3, 1) := by decide +kernel
theorem dX11_numberOf_4 : decode cX11_numberOf 4 = .ok (.iload_n 3, 1) := by decide +kernel
theorem dX11_numberOf_5 : decode cX11_numberOf 5 = .ok (.iload_n 0, 1) := by decide +kernel
theorem dX11_numberOf_6 : decode cX11_numberOf 6 = .ok (.if_icmp .ge 63, 3) := by decide +kernel
theorem dX11_numberOf_9 : decode cX11_numberOf 9 = .ok (.iconst 0, 1) := by decide +kernel
theorem dX11_numberOf_10 : decode cX11_numberOf 10 = .ok (.istore 4, 2) := by decide +kernel
theorem dX11_numberOf_12 : decode cX11_numberOf 12 = .ok (.iload_n 3, 1) := by decide +kernel
theorem dX11_numberOf_13 : decode cX11_numberOf 13 = .ok (.iconst 1, 1) := by decide +kernel
theorem dX11_numberOf_14 : decode cX11_numberOf 14 = .ok (.iadd, 1) := by decide +kernel
theorem dX11_numberOf_15 : decode cX11_numberOf 15 = .ok (.istore 5, 2) := by decide +kernel
theorem dX11_numberOf_17 : decode cX11_numberOf 17 = .ok (.iload 5, 2) := by decide +kernel
theorem dX11_numberOf_19 : decode cX11_numberOf 19 = .ok (.iload_n 0, 1) := by decide +kernel
theorem dX11_numberOf_20 : decode cX11_numberOf 20 = .ok (.if_icmp .ge 29, 3) := by decide +kernel
theorem dX11_numberOf_23 : decode cX11_numberOf 23 = .ok (.iload 4, 2) := by decide +kernel
theorem dX11_numberOf_25 : decode cX11_numberOf 25 = .ok (.aload_n 1, 1) := by decide +kernel
theorem dX11_numberOf_26 : decode cX11_numberOf 26 = .ok (.iload 5, 2) := by decide +kernel
theorem dX11_numberOf_28 : decode cX11_numberOf 28 = .ok (.iaload, 1) := by decide +kernel
theorem dX11_numberOf_29 : decode cX11_numberOf 29 = .ok (.aload_n 1, 1) := by decide +kernel
theorem dX11_numberOf_30 : decode cX11_numberOf 30 = .ok (.iload_n 3, 1) := by decide +kernel
theorem dX11_numberOf_31 : decode cX11_numberOf 31 = .ok (.iaload, 1) := by decide +kernel
theorem dX11_numberOf_32 : decode cX11_numberOf 32 = .ok (.if_icmp .ge 7, 3) := by decide +kernel
theorem dX11_numberOf_35 : decode cX11_numberOf 35 = .ok (.iconst 1, 1) := by decide +kernel
theorem dX11_numberOf_36 : decode cX11_numberOf 36 = .ok (.goto 4, 3) := by decide +kernel
theorem dX11_numberOf_39 : decode cX11_numberOf 39 = .ok (.iconst 0, 1) := by decide +kernel
theorem dX11_numberOf_40 : decode cX11_numberOf 40 = .ok (.iadd, 1) := by decide +kernel
theorem dX11_numberOf_41 : decode cX11_numberOf 41 = .ok (.istore 4, 2) := by decide +kernel
theorem dX11_numberOf_43 : decode cX11_numberOf 43 = .ok (.iinc 5 1, 3) := by decide +kernel
theorem dX11_numberOf_46 : decode cX11_numberOf 46 = .ok (.goto (-29), 3) := by decide +kernel
theorem dX11_numberOf_49 : decode cX11_numberOf 49 = .ok (.iload_n 2, 1) := by decide +kernel
theorem dX11_numberOf_50 : decode cX11_numberOf 50 = .ok (.iload 4, 2) := by decide +kernel
theorem dX11_numberOf_52 : decode cX11_numberOf 52 = .ok (.iload_n 0, 1) := by decide +kernel
theorem dX11_numberOf_53 : decode cX11_numberOf 53 = .ok (.iconst 1, 1) := by decide +kernel
theorem dX11_numberOf_54 : decode cX11_numberOf 54 = .ok (.isub, 1) := by decide +kernel
theorem dX11_numberOf_55 : decode cX11_numberOf 55 = .ok (.iload_n 3, 1) := by decide +kernel
theorem dX11_numberOf_56 : decode cX11_numberOf 56 = .ok (.isub, 1) := by decide +kernel
theorem dX11_numberOf_57 : decode cX11_numberOf 57 = .ok (.invokestatic 119, 3) := by decide +kernel
theorem dX11_numberOf_60 : decode cX11_numberOf 60 = .ok (.imul, 1) := by decide +kernel
theorem dX11_numberOf_61 : decode cX11_numberOf 61 = .ok (.iadd, 1) := by decide +kernel
theorem dX11_numberOf_62 : decode cX11_numberOf 62 = .ok (.istore_n 2, 1) := by decide +kernel
theorem dX11_numberOf_63 : decode cX11_numberOf 63 = .ok (.iinc 3 1, 3) := by decide +kernel
theorem dX11_numberOf_66 : decode cX11_numberOf 66 = .ok (.goto (-62), 3) := by decide +kernel
theorem dX11_numberOf_69 : decode cX11_numberOf 69 = .ok (.iload_n 2, 1) := by decide +kernel
theorem dX11_numberOf_70 : decode cX11_numberOf 70 = .ok (.ireturn, 1) := by decide +kernel
set_option maxRecDepth 20000 in
theorem ggX11_turn_X11_in : GoodIn wsX11_turn wsX11_in := goodIn_r _ [8] (by decide +kernel) (by decide +kernel)
set_option maxRecDepth 20000 in
theorem gX11_turn_X11_in : GoodIn wsX11_turn (va_wsS RX11 86 yX11_in wsX11_in) := goodIn_app (goodIn_of _ (by decide +kernel)) ggX11_turn_X11_in
set_option maxRecDepth 20000 in
theorem ggX11_turn_X11_factorial : GoodIn wsX11_turn wsX11_factorial := goodIn_r _ [11, 9, 10, 7] (by decide +kernel) (by decide +kernel)
set_option maxRecDepth 20000 in
theorem gX11_turn_X11_factorial : GoodIn wsX11_turn (va_wsS RX11 119 yX11_factorial wsX11_factorial) := goodIn_app (goodIn_of _ (by decide +kernel)) ggX11_turn_X11_factorial
set_option maxRecDepth 20000 in
theorem ggX11_turn_X11_sized : GoodIn wsX11_turn wsX11_sized := goodIn_r _ [15, 16, 17, 18, 19, 7, 20, 21, 25, 26, 27, 28, 29, 30, 31, 32, 33, 34, 35, 36, 37, 38, 39, 40, 41, 42, 43, 44, 45, 46, 47, 48, 49, 50, 51, 52, 53] (by decide +kernel) (by decide +kernel)
set_option maxRecDepth 20000 in
theorem gX11_turn_X11_sized : GoodIn wsX11_turn (wsV RX11 110 RX11 yX11_sized wsX11_sized) := goodIn_app (goodIn_of _ (by decide +kernel)) ggX11_turn_X11_sized
set_option maxRecDepth 20000 in
theorem ggX11_turn_X11_permutation : GoodIn wsX11_turn wsX11_permutation := goodIn_r _ [24, 9, 10, 7, 11] (by decide +kernel) (by decide +kernel)
set_option maxRecDepth 20000 in
theorem gX11_turn_X11_permutation : GoodIn wsX11_turn (va_wsS RX11 123 yX11_permutation wsX11_permutation) := goodIn_app (goodIn_of _ (by decide +kernel)) ggX11_turn_X11_permutation
theorem dX11_turn_0 : decode cX11_turn 0 = .ok (.aload_n 0, 1) := by decide +kernel
theorem dX11_turn_1 : decode cX11_turn 1 = .ok (.iconst 0, 1) := by decide +kernel
theorem dX11_turn_2 : decode cX11_turn 2 = .ok (.putfield 83, 3) := by decide +kernel
theorem dX11_turn_5 : decode cX11_turn 5 = .ok (.iload_n 1, 1) := by decide +kernel
theorem dX11_turn_6 : decode cX11_turn 6 = .ok (.i2l, 1) := by decide +kernel
theorem dX11_turn_7 : decode cX11_turn 7 = .ok (.lconst 1, 1) := by decide +kernel
theorem dX11_turn_8 : decode cX11_turn 8 = .ok (.ldc2_w 93, 3) := by decide +kernel
theorem dX11_turn_11 : decode cX11_turn 11 = .ok (.invokestatic 86, 3) := by decide +kernel
theorem dX11_turn_14 : decode cX11_turn 14 = .ok (.ifCond .eq 19, 3) := by decide +kernel
theorem dX11_turn_17 : decode cX11_turn 17 = .ok (.iload_n 2, 1) := by decide +kernel
theorem dX11_turn_18 : decode cX11_turn 18 = .ok (.i2l, 1) := by decide +kernel
theorem dX11_turn_19 : decode cX11_turn 19 = .ok (.lconst 0, 1) := by decide +kernel
theorem dX11_turn_20 : decode cX11_turn 20 = .ok (.iload_n 1, 1) := by decide +kernel
theorem dX11_turn_21 : decode cX11_turn 21 = .ok (.invokestatic 119, 3) := by decide +kernel
theorem dX11_turn_24 : decode cX11_turn 24 = .ok (.iconst 1, 1) := by decide +kernel
theorem dX11_turn_25 : decode cX11_turn 25 = .ok (.isub, 1) := by decide +kernel
theorem dX11_turn_26 : decode cX11_turn 26 = .ok (.i2l, 1) := by decide +kernel
theorem dX11_turn_27 : decode cX11_turn 27 = .ok (.invokestatic 86, 3) := by decide +kernel
theorem dX11_turn_30 : decode cX11_turn 30 = .ok (.ifCond .ne 5, 3) := by decide +kernel
theorem dX11_turn_33 : decode cX11_turn 33 = .ok (.iconst 0, 1) := by decide +kernel
theorem dX11_turn_34 : decode cX11_turn 34 = .ok (.ireturn, 1) := by decide +kernel
theorem dX11_turn_35 : decode cX11_turn 35 = .ok (.aload_n 0, 1) := by decide +kernel
theorem dX11_turn_36 : decode cX11_turn 36 = .ok (.iload_n 1, 1) := by decide +kernel
theorem dX11_turn_37 : decode cX11_turn 37 = .ok (.invokevirtual 110, 3) := by decide +kernel
theorem dX11_turn_40 : decode cX11_turn 40 = .ok (.iload_n 1, 1) := by decide +kernel
theorem dX11_turn_41 : decode cX11_turn 41 = .ok (.iload_n 2, 1) := by decide +kernel
theorem dX11_turn_42 : decode cX11_turn 42 = .ok (.aload_n 0, 1) := by decide +kernel
theorem dX11_turn_43 : decode cX11_turn 43 = .ok (.getfield 23, 3) := by decide +kernel
theorem dX11_turn_46 : decode cX11_turn 46 = .ok (.invokestatic 123, 3) := by decide +kernel
theorem dX11_turn_49 : decode cX11_turn 49 = .ok (.iconst 0, 1) := by decide +kernel
theorem dX11_turn_50 : decode cX11_turn 50 = .ok (.istore_n 3, 1) := by decide +kernel
theorem dX11_turn_51 : decode cX11_turn 51 = .ok (.iload_n 3, 1) := by decide +kernel
theorem dX11_turn_52 : decode cX11_turn 52 = .ok (.iload_n 1, 1) := by decide +kernel
theorem dX11_turn_53 : decode cX11_turn 53 = .ok (.if_icmp .ge 43, 3) := by decide +kernel
theorem dX11_turn_56 : decode cX11_turn 56 = .ok (.iconst 0, 1) := by decide +kernel
theorem dX11_turn_57 : decode cX11_turn 57 = .ok (.istore 4, 2) := by decide +kernel
theorem dX11_turn_59 : decode cX11_turn 59 = .ok (.iload 4, 2) := by decide +kernel
theorem dX11_turn_61 : decode cX11_turn 61 = .ok (.iload_n 1, 1) := by decide +kernel
theorem dX11_turn_62 : decode cX11_turn 62 = .ok (.if_icmp .ge 28, 3) := by decide +kernel
theorem dX11_turn_65 : decode cX11_turn 65 = .ok (.aload_n 0, 1) := by decide +kernel
theorem dX11_turn_66 : decode cX11_turn 66 = .ok (.getfield 13, 3) := by decide +kernel
theorem dX11_turn_69 : decode cX11_turn 69 = .ok (.bipush 8, 2) := by decide +kernel
theorem dX11_turn_71 : decode cX11_turn 71 = .ok (.iload_n 3, 1) := by decide +kernel
theorem dX11_turn_72 : decode cX11_turn 72 = .ok (.imul, 1) := by decide +kernel
theorem dX11_turn_73 : decode cX11_turn 73 = .ok (.iload 4, 2) := by decide +kernel
theorem dX11_turn_75 : decode cX11_turn 75 = .ok (.iadd, 1) := by decide +kernel
theorem dX11_turn_76 : decode cX11_turn 76 = .ok (.aload_n 0, 1) := by decide +kernel
theorem dX11_turn_77 : decode cX11_turn 77 = .ok (.getfield 23, 3) := by decide +kernel
theorem dX11_turn_80 : decode cX11_turn 80 = .ok (.iload 4, 2) := by decide +kernel
theorem dX11_turn_82 : decode cX11_turn 82 = .ok (.iaload, 1) := by decide +kernel
theorem dX11_turn_83 : decode cX11_turn 83 = .ok (.iastore, 1) := by decide +kernel
theorem dX11_turn_84 : decode cX11_turn 84 = .ok (.iinc 4 1, 3) := by decide +kernel
theorem dX11_turn_87 : decode cX11_turn 87 = .ok (.goto (-28), 3) := by decide +kernel
theorem dX11_turn_90 : decode cX11_turn 90 = .ok (.iinc 3 1, 3) := by decide +kernel
theorem dX11_turn_93 : decode cX11_turn 93 = .ok (.goto (-42), 3) := by decide +kernel
theorem dX11_turn_96 : decode cX11_turn 96 = .ok (.iconst 1, 1) := by decide +kernel
theorem dX11_turn_97 : decode cX11_turn 97 = .ok (.ireturn, 1) := by decide +kernel
set_option maxRecDepth 20000 in
theorem ggX11_turnedBy_X11_permutation : GoodIn wsX11_turnedBy wsX11_permutation := goodIn_r _ [7, 8, 9, 6, 10] (by decide +kernel) (by decide +kernel)
set_option maxRecDepth 20000 in
theorem gX11_turnedBy_X11_permutation : GoodIn wsX11_turnedBy (va_wsS RX11 123 yX11_permutation wsX11_permutation) := goodIn_app (goodIn_of _ (by decide +kernel)) ggX11_turnedBy_X11_permutation
set_option maxRecDepth 20000 in
theorem ggX11_turnedBy_X11_numberOf : GoodIn wsX11_turnedBy wsX11_numberOf := goodIn_r _ [13, 8, 9, 6, 10] (by decide +kernel) (by decide +kernel)
set_option maxRecDepth 20000 in
theorem gX11_turnedBy_X11_numberOf : GoodIn wsX11_turnedBy (va_wsS RX11 127 yX11_numberOf wsX11_numberOf) := goodIn_app (goodIn_of _ (by decide +kernel)) ggX11_turnedBy_X11_numberOf
theorem dX11_turnedBy_0 : decode cX11_turnedBy 0 = .ok (.iconst 4, 1) := by decide +kernel
theorem dX11_turnedBy_1 : decode cX11_turnedBy 1 = .ok (.iload_n 1, 1) := by decide +kernel
theorem dX11_turnedBy_2 : decode cX11_turnedBy 2 = .ok (.aload_n 0, 1) := by decide +kernel
theorem dX11_turnedBy_3 : decode cX11_turnedBy 3 = .ok (.getfield 23, 3) := by decide +kernel
theorem dX11_turnedBy_6 : decode cX11_turnedBy 6 = .ok (.invokestatic 123, 3) := by decide +kernel
theorem dX11_turnedBy_9 : decode cX11_turnedBy 9 = .ok (.iconst 4, 1) := by decide +kernel
theorem dX11_turnedBy_10 : decode cX11_turnedBy 10 = .ok (.iload_n 2, 1) := by decide +kernel
theorem dX11_turnedBy_11 : decode cX11_turnedBy 11 = .ok (.aload_n 0, 1) := by decide +kernel
theorem dX11_turnedBy_12 : decode cX11_turnedBy 12 = .ok (.getfield 26, 3) := by decide +kernel
theorem dX11_turnedBy_15 : decode cX11_turnedBy 15 = .ok (.invokestatic 123, 3) := by decide +kernel
theorem dX11_turnedBy_18 : decode cX11_turnedBy 18 = .ok (.iconst 0, 1) := by decide +kernel
theorem dX11_turnedBy_19 : decode cX11_turnedBy 19 = .ok (.istore_n 3, 1) := by decide +kernel
theorem dX11_turnedBy_20 : decode cX11_turnedBy 20 = .ok (.iload_n 3, 1) := by decide +kernel
theorem dX11_turnedBy_21 : decode cX11_turnedBy 21 = .ok (.iconst 4, 1) := by decide +kernel
theorem dX11_turnedBy_22 : decode cX11_turnedBy 22 = .ok (.if_icmp .ge 31, 3) := by decide +kernel
theorem dX11_turnedBy_25 : decode cX11_turnedBy 25 = .ok (.aload_n 0, 1) := by decide +kernel
theorem dX11_turnedBy_26 : decode cX11_turnedBy 26 = .ok (.getfield 29, 3) := by decide +kernel
theorem dX11_turnedBy_29 : decode cX11_turnedBy 29 = .ok (.aload_n 0, 1) := by decide +kernel
theorem dX11_turnedBy_30 : decode cX11_turnedBy 30 = .ok (.getfield 23, 3) := by decide +kernel
theorem dX11_turnedBy_33 : decode cX11_turnedBy 33 = .ok (.iload_n 3, 1) := by decide +kernel
theorem dX11_turnedBy_34 : decode cX11_turnedBy 34 = .ok (.iaload, 1) := by decide +kernel
theorem dX11_turnedBy_35 : decode cX11_turnedBy 35 = .ok (.aload_n 0, 1) := by decide +kernel
theorem dX11_turnedBy_36 : decode cX11_turnedBy 36 = .ok (.getfield 23, 3) := by decide +kernel
theorem dX11_turnedBy_39 : decode cX11_turnedBy 39 = .ok (.aload_n 0, 1) := by decide +kernel
theorem dX11_turnedBy_40 : decode cX11_turnedBy 40 = .ok (.getfield 26, 3) := by decide +kernel
theorem dX11_turnedBy_43 : decode cX11_turnedBy 43 = .ok (.iload_n 3, 1) := by decide +kernel
theorem dX11_turnedBy_44 : decode cX11_turnedBy 44 = .ok (.iaload, 1) := by decide +kernel
theorem dX11_turnedBy_45 : decode cX11_turnedBy 45 = .ok (.iaload, 1) := by decide +kernel
theorem dX11_turnedBy_46 : decode cX11_turnedBy 46 = .ok (.iastore, 1) := by decide +kernel
theorem dX11_turnedBy_47 : decode cX11_turnedBy 47 = .ok (.iinc 3 1, 3) := by decide +kernel
theorem dX11_turnedBy_50 : decode cX11_turnedBy 50 = .ok (.goto (-30), 3) := by decide +kernel
theorem dX11_turnedBy_53 : decode cX11_turnedBy 53 = .ok (.iconst 4, 1) := by decide +kernel
theorem dX11_turnedBy_54 : decode cX11_turnedBy 54 = .ok (.aload_n 0, 1) := by decide +kernel
theorem dX11_turnedBy_55 : decode cX11_turnedBy 55 = .ok (.getfield 29, 3) := by decide +kernel
theorem dX11_turnedBy_58 : decode cX11_turnedBy 58 = .ok (.invokestatic 127, 3) := by decide +kernel
theorem dX11_turnedBy_61 : decode cX11_turnedBy 61 = .ok (.ireturn, 1) := by decide +kernel
set_option maxRecDepth 20000 in
theorem ggX11_group_X11_in : GoodIn wsX11_group wsX11_in := goodIn_r _ [9] (by decide +kernel) (by decide +kernel)
set_option maxRecDepth 20000 in
theorem gX11_group_X11_in : GoodIn wsX11_group (va_wsS RX11 86 yX11_in wsX11_in) := goodIn_app (goodIn_of _ (by decide +kernel)) ggX11_group_X11_in
set_option maxRecDepth 20000 in
theorem ggX11_group_X11_turnedBy : GoodIn wsX11_group wsX11_turnedBy := goodIn_r _ [13, 14, 15, 16, 17, 18, 8, 19, 20, 21, 22, 23, 24, 25, 35, 36, 37, 38, 39, 40, 41, 42, 43, 44, 45, 46, 47, 48, 49, 50, 51, 52, 53, 54, 55, 56, 57, 58, 59, 60, 61, 62, 63] (by decide +kernel) (by decide +kernel)
set_option maxRecDepth 20000 in
theorem gX11_group_X11_turnedBy : GoodIn wsX11_group (wsV RX11 133 RX11 yX11_turnedBy wsX11_turnedBy) := goodIn_app (goodIn_of _ (by decide +kernel)) ggX11_group_X11_turnedBy
set_option maxRecDepth 20000 in
theorem ggX11_group_X11_sized : GoodIn wsX11_group wsX11_sized := goodIn_r _ [29, 5, 30, 31, 32, 8, 33, 34, 35, 36, 37, 38, 39, 40, 41, 42, 43, 44, 45, 46, 47, 48, 49, 50, 51, 52, 53, 54, 55, 56, 57, 58, 59, 60, 61, 62, 63] (by decide +kernel) (by decide +kernel)
set_option maxRecDepth 20000 in
theorem gX11_group_X11_sized : GoodIn wsX11_group (wsV RX11 110 RX11 yX11_sized wsX11_sized) := goodIn_app (goodIn_of _ (by decide +kernel)) ggX11_group_X11_sized
theorem dX11_group_0 : decode cX11_group 0 = .ok (.aload_n 0, 1) := by decide +kernel
theorem dX11_group_1 : decode cX11_group 1 = .ok (.iconst 0, 1) := by decide +kernel
theorem dX11_group_2 : decode cX11_group 2 = .ok (.putfield 83, 3) := by decide +kernel
theorem dX11_group_5 : decode cX11_group 5 = .ok (.iload_n 1, 1) := by decide +kernel
theorem dX11_group_6 : decode cX11_group 6 = .ok (.i2l, 1) := by decide +kernel
theorem dX11_group_7 : decode cX11_group 7 = .ok (.lconst 0, 1) := by decide +kernel
theorem dX11_group_8 : decode cX11_group 8 = .ok (.ldc2_w 131, 3) := by decide +kernel
theorem dX11_group_11 : decode cX11_group 11 = .ok (.invokestatic 86, 3) := by decide +kernel
theorem dX11_group_14 : decode cX11_group 14 = .ok (.ifCond .ne 5, 3) := by decide +kernel
theorem dX11_group_17 : decode cX11_group 17 = .ok (.iconst (-1), 1) := by decide +kernel
theorem dX11_group_18 : decode cX11_group 18 = .ok (.ireturn, 1) := by decide +kernel
theorem dX11_group_19 : decode cX11_group 19 = .ok (.iconst 0, 1) := by decide +kernel
theorem dX11_group_20 : decode cX11_group 20 = .ok (.istore_n 2, 1) := by decide +kernel
theorem dX11_group_21 : decode cX11_group 21 = .ok (.iconst 0, 1) := by decide +kernel
theorem dX11_group_22 : decode cX11_group 22 = .ok (.istore_n 3, 1) := by decide +kernel
theorem dX11_group_23 : decode cX11_group 23 = .ok (.iload_n 3, 1) := by decide +kernel
theorem dX11_group_24 : decode cX11_group 24 = .ok (.bipush 24, 2) := by decide +kernel
theorem dX11_group_26 : decode cX11_group 26 = .ok (.if_icmp .ge 20, 3) := by decide +kernel
theorem dX11_group_29 : decode cX11_group 29 = .ok (.iload_n 2, 1) := by decide +kernel
theorem dX11_group_30 : decode cX11_group 30 = .ok (.iconst 1, 1) := by decide +kernel
theorem dX11_group_31 : decode cX11_group 31 = .ok (.aload_n 0, 1) := by decide +kernel
theorem dX11_group_32 : decode cX11_group 32 = .ok (.iload_n 3, 1) := by decide +kernel
theorem dX11_group_33 : decode cX11_group 33 = .ok (.iload_n 1, 1) := by decide +kernel
theorem dX11_group_34 : decode cX11_group 34 = .ok (.invokevirtual 133, 3) := by decide +kernel
theorem dX11_group_37 : decode cX11_group 37 = .ok (.ishl, 1) := by decide +kernel
theorem dX11_group_38 : decode cX11_group 38 = .ok (.ior, 1) := by decide +kernel
theorem dX11_group_39 : decode cX11_group 39 = .ok (.istore_n 2, 1) := by decide +kernel
theorem dX11_group_40 : decode cX11_group 40 = .ok (.iinc 3 1, 3) := by decide +kernel
theorem dX11_group_43 : decode cX11_group 43 = .ok (.goto (-20), 3) := by decide +kernel
theorem dX11_group_46 : decode cX11_group 46 = .ok (.iconst 0, 1) := by decide +kernel
theorem dX11_group_47 : decode cX11_group 47 = .ok (.istore_n 3, 1) := by decide +kernel
theorem dX11_group_48 : decode cX11_group 48 = .ok (.iconst 0, 1) := by decide +kernel
theorem dX11_group_49 : decode cX11_group 49 = .ok (.istore 4, 2) := by decide +kernel
theorem dX11_group_51 : decode cX11_group 51 = .ok (.iload 4, 2) := by decide +kernel
theorem dX11_group_53 : decode cX11_group 53 = .ok (.bipush 24, 2) := by decide +kernel
theorem dX11_group_55 : decode cX11_group 55 = .ok (.if_icmp .ge 30, 3) := by decide +kernel
theorem dX11_group_58 : decode cX11_group 58 = .ok (.iload_n 2, 1) := by decide +kernel
theorem dX11_group_59 : decode cX11_group 59 = .ok (.iload 4, 2) := by decide +kernel
theorem dX11_group_61 : decode cX11_group 61 = .ok (.ishr, 1) := by decide +kernel
theorem dX11_group_62 : decode cX11_group 62 = .ok (.iconst 1, 1) := by decide +kernel
theorem dX11_group_63 : decode cX11_group 63 = .ok (.iand, 1) := by decide +kernel
theorem dX11_group_64 : decode cX11_group 64 = .ok (.iconst 1, 1) := by decide +kernel
theorem dX11_group_65 : decode cX11_group 65 = .ok (.if_icmp .ne 14, 3) := by decide +kernel
theorem dX11_group_68 : decode cX11_group 68 = .ok (.aload_n 0, 1) := by decide +kernel
theorem dX11_group_69 : decode cX11_group 69 = .ok (.getfield 32, 3) := by decide +kernel
theorem dX11_group_72 : decode cX11_group 72 = .ok (.iload_n 3, 1) := by decide +kernel
theorem dX11_group_73 : decode cX11_group 73 = .ok (.iload 4, 2) := by decide +kernel
theorem dX11_group_75 : decode cX11_group 75 = .ok (.iastore, 1) := by decide +kernel
theorem dX11_group_76 : decode cX11_group 76 = .ok (.iinc 3 1, 3) := by decide +kernel
theorem dX11_group_79 : decode cX11_group 79 = .ok (.iinc 4 1, 3) := by decide +kernel
theorem dX11_group_82 : decode cX11_group 82 = .ok (.goto (-31), 3) := by decide +kernel
theorem dX11_group_85 : decode cX11_group 85 = .ok (.aload_n 0, 1) := by decide +kernel
theorem dX11_group_86 : decode cX11_group 86 = .ok (.iload_n 3, 1) := by decide +kernel
theorem dX11_group_87 : decode cX11_group 87 = .ok (.invokevirtual 110, 3) := by decide +kernel
theorem dX11_group_90 : decode cX11_group 90 = .ok (.iconst 0, 1) := by decide +kernel
theorem dX11_group_91 : decode cX11_group 91 = .ok (.istore 4, 2) := by decide +kernel
theorem dX11_group_93 : decode cX11_group 93 = .ok (.iload 4, 2) := by decide +kernel
theorem dX11_group_95 : decode cX11_group 95 = .ok (.iload_n 3, 1) := by decide +kernel
theorem dX11_group_96 : decode cX11_group 96 = .ok (.if_icmp .ge 86, 3) := by decide +kernel
theorem dX11_group_99 : decode cX11_group 99 = .ok (.iconst 0, 1) := by decide +kernel
theorem dX11_group_100 : decode cX11_group 100 = .ok (.istore 5, 2) := by decide +kernel
theorem dX11_group_102 : decode cX11_group 102 = .ok (.iload 5, 2) := by decide +kernel
theorem dX11_group_104 : decode cX11_group 104 = .ok (.iload_n 3, 1) := by decide +kernel
theorem dX11_group_105 : decode cX11_group 105 = .ok (.if_icmp .ge 71, 3) := by decide +kernel
theorem dX11_group_108 : decode cX11_group 108 = .ok (.aload_n 0, 1) := by decide +kernel
theorem dX11_group_109 : decode cX11_group 109 = .ok (.aload_n 0, 1) := by decide +kernel
theorem dX11_group_110 : decode cX11_group 110 = .ok (.getfield 32, 3) := by decide +kernel
theorem dX11_group_113 : decode cX11_group 113 = .ok (.iload 4, 2) := by decide +kernel
theorem dX11_group_115 : decode cX11_group 115 = .ok (.iaload, 1) := by decide +kernel
theorem dX11_group_116 : decode cX11_group 116 = .ok (.aload_n 0, 1) := by decide +kernel
theorem dX11_group_117 : decode cX11_group 117 = .ok (.getfield 32, 3) := by decide +kernel
theorem dX11_group_120 : decode cX11_group 120 = .ok (.iload 5, 2) := by decide +kernel
theorem dX11_group_122 : decode cX11_group 122 = .ok (.iaload, 1) := by decide +kernel
theorem dX11_group_123 : decode cX11_group 123 = .ok (.invokevirtual 133, 3) := by decide +kernel
theorem dX11_group_126 : decode cX11_group 126 = .ok (.istore 6, 2) := by decide +kernel
theorem dX11_group_128 : decode cX11_group 128 = .ok (.iconst 0, 1) := by decide +kernel
theorem dX11_group_129 : decode cX11_group 129 = .ok (.istore 7, 2) := by decide +kernel
theorem dX11_group_131 : decode cX11_group 131 = .ok (.iload 7, 2) := by decide +kernel
theorem dX11_group_133 : decode cX11_group 133 = .ok (.iload_n 3, 1) := by decide +kernel
theorem dX11_group_134 : decode cX11_group 134 = .ok (.if_icmp .ge 36, 3) := by decide +kernel
theorem dX11_group_137 : decode cX11_group 137 = .ok (.aload_n 0, 1) := by decide +kernel
theorem dX11_group_138 : decode cX11_group 138 = .ok (.getfield 32, 3) := by decide +kernel
theorem dX11_group_141 : decode cX11_group 141 = .ok (.iload 7, 2) := by decide +kernel
theorem dX11_group_143 : decode cX11_group 143 = .ok (.iaload, 1) := by decide +kernel
theorem dX11_group_144 : decode cX11_group 144 = .ok (.iload 6, 2) := by decide +kernel
theorem dX11_group_146 : decode cX11_group 146 = .ok (.if_icmp .ne 18, 3) := by decide +kernel
theorem dX11_group_149 : decode cX11_group 149 = .ok (.aload_n 0, 1) := by decide +kernel
theorem dX11_group_150 : decode cX11_group 150 = .ok (.getfield 13, 3) := by decide +kernel
theorem dX11_group_153 : decode cX11_group 153 = .ok (.bipush 8, 2) := by decide +kernel
theorem dX11_group_155 : decode cX11_group 155 = .ok (.iload 4, 2) := by decide +kernel
theorem dX11_group_157 : decode cX11_group 157 = .ok (.imul, 1) := by decide +kernel
theorem dX11_group_158 : decode cX11_group 158 = .ok (.iload 5, 2) := by decide +kernel
theorem dX11_group_160 : decode cX11_group 160 = .ok (.iadd, 1) := by decide +kernel
theorem dX11_group_161 : decode cX11_group 161 = .ok (.iload 7, 2) := by decide +kernel
theorem dX11_group_163 : decode cX11_group 163 = .ok (.iastore, 1) := by decide +kernel
theorem dX11_group_164 : decode cX11_group 164 = .ok (.iinc 7 1, 3) := by decide +kernel
theorem dX11_group_167 : decode cX11_group 167 = .ok (.goto (-36), 3) := by decide +kernel
theorem dX11_group_170 : decode cX11_group 170 = .ok (.iinc 5 1, 3) := by decide +kernel
theorem dX11_group_173 : decode cX11_group 173 = .ok (.goto (-71), 3) := by decide +kernel
theorem dX11_group_176 : decode cX11_group 176 = .ok (.iinc 4 1, 3) := by decide +kernel
theorem dX11_group_179 : decode cX11_group 179 = .ok (.goto (-86), 3) := by decide +kernel
theorem dX11_group_182 : decode cX11_group 182 = .ok (.aload_n 0, 1) := by decide +kernel
theorem dX11_group_183 : decode cX11_group 183 = .ok (.getfield 9, 3) := by decide +kernel
theorem dX11_group_186 : decode cX11_group 186 = .ok (.ireturn, 1) := by decide +kernel
set_option maxRecDepth 20000 in
theorem ggX11_isKept_X11_in : GoodIn wsX11_isKept wsX11_in := goodIn_r _ [6] (by decide +kernel) (by decide +kernel)
set_option maxRecDepth 20000 in
theorem gX11_isKept_X11_in : GoodIn wsX11_isKept (va_wsS RX11 86 yX11_in wsX11_in) := goodIn_app (goodIn_of _ (by decide +kernel)) ggX11_isKept_X11_in
theorem dX11_isKept_0 : decode cX11_isKept 0 = .ok (.iload_n 1, 1) := by decide +kernel
theorem dX11_isKept_1 : decode cX11_isKept 1 = .ok (.i2l, 1) := by decide +kernel
theorem dX11_isKept_2 : decode cX11_isKept 2 = .ok (.lconst 0, 1) := by decide +kernel
theorem dX11_isKept_3 : decode cX11_isKept 3 = .ok (.ldc2_w 136, 3) := by decide +kernel
theorem dX11_isKept_6 : decode cX11_isKept 6 = .ok (.invokestatic 86, 3) := by decide +kernel
theorem dX11_isKept_9 : decode cX11_isKept 9 = .ok (.ifCond .eq 16, 3) := by decide +kernel
theorem dX11_isKept_12 : decode cX11_isKept 12 = .ok (.aload_n 0, 1) := by decide +kernel
theorem dX11_isKept_13 : decode cX11_isKept 13 = .ok (.getfield 35, 3) := by decide +kernel
theorem dX11_isKept_16 : decode cX11_isKept 16 = .ok (.iload_n 1, 1) := by decide +kernel
theorem dX11_isKept_17 : decode cX11_isKept 17 = .ok (.iaload, 1) := by decide +kernel
theorem dX11_isKept_18 : decode cX11_isKept 18 = .ok (.ifCond .le 7, 3) := by decide +kernel
theorem dX11_isKept_21 : decode cX11_isKept 21 = .ok (.iconst 1, 1) := by decide +kernel
theorem dX11_isKept_22 : decode cX11_isKept 22 = .ok (.goto 4, 3) := by decide +kernel
theorem dX11_isKept_25 : decode cX11_isKept 25 = .ok (.iconst 0, 1) := by decide +kernel
theorem dX11_isKept_26 : decode cX11_isKept 26 = .ok (.ireturn, 1) := by decide +kernel
set_option maxRecDepth 20000 in
theorem ggX11_keep_X11_in : GoodIn wsX11_keep wsX11_in := goodIn_r _ [10] (by decide +kernel) (by decide +kernel)
set_option maxRecDepth 20000 in
theorem gX11_keep_X11_in : GoodIn wsX11_keep (va_wsS RX11 86 yX11_in wsX11_in) := goodIn_app (goodIn_of _ (by decide +kernel)) ggX11_keep_X11_in
theorem dX11_keep_0 : decode cX11_keep 0 = .ok (.aload_n 0, 1) := by decide +kernel
theorem dX11_keep_1 : decode cX11_keep 1 = .ok (.iconst 0, 1) := by decide +kernel
theorem dX11_keep_2 : decode cX11_keep 2 = .ok (.putfield 83, 3) := by decide +kernel
theorem dX11_keep_5 : decode cX11_keep 5 = .ok (.iload_n 1, 1) := by decide +kernel
theorem dX11_keep_6 : decode cX11_keep 6 = .ok (.i2l, 1) := by decide +kernel
theorem dX11_keep_7 : decode cX11_keep 7 = .ok (.lconst 0, 1) := by decide +kernel
theorem dX11_keep_8 : decode cX11_keep 8 = .ok (.ldc2_w 136, 3) := by decide +kernel
theorem dX11_keep_11 : decode cX11_keep 11 = .ok (.invokestatic 86, 3) := by decide +kernel
theorem dX11_keep_14 : decode cX11_keep 14 = .ok (.ifCond .ne 5, 3) := by decide +kernel
theorem dX11_keep_17 : decode cX11_keep 17 = .ok (.iconst 0, 1) := by decide +kernel
theorem dX11_keep_18 : decode cX11_keep 18 = .ok (.ireturn, 1) := by decide +kernel
theorem dX11_keep_19 : decode cX11_keep 19 = .ok (.aload_n 0, 1) := by decide +kernel
theorem dX11_keep_20 : decode cX11_keep 20 = .ok (.getfield 35, 3) := by decide +kernel
theorem dX11_keep_23 : decode cX11_keep 23 = .ok (.iload_n 1, 1) := by decide +kernel
theorem dX11_keep_24 : decode cX11_keep 24 = .ok (.aload_n 0, 1) := by decide +kernel
theorem dX11_keep_25 : decode cX11_keep 25 = .ok (.getfield 9, 3) := by decide +kernel
theorem dX11_keep_28 : decode cX11_keep 28 = .ok (.iastore, 1) := by decide +kernel
theorem dX11_keep_29 : decode cX11_keep 29 = .ok (.iconst 0, 1) := by decide +kernel
theorem dX11_keep_30 : decode cX11_keep 30 = .ok (.istore_n 2, 1) := by decide +kernel
theorem dX11_keep_31 : decode cX11_keep 31 = .ok (.iload_n 2, 1) := by decide +kernel
theorem dX11_keep_32 : decode cX11_keep 32 = .ok (.bipush 64, 2) := by decide +kernel
theorem dX11_keep_34 : decode cX11_keep 34 = .ok (.if_icmp .ge 26, 3) := by decide +kernel
theorem dX11_keep_37 : decode cX11_keep 37 = .ok (.aload_n 0, 1) := by decide +kernel
theorem dX11_keep_38 : decode cX11_keep 38 = .ok (.getfield 38, 3) := by decide +kernel
theorem dX11_keep_41 : decode cX11_keep 41 = .ok (.bipush 64, 2) := by decide +kernel
theorem dX11_keep_43 : decode cX11_keep 43 = .ok (.iload_n 1, 1) := by decide +kernel
theorem dX11_keep_44 : decode cX11_keep 44 = .ok (.imul, 1) := by decide +kernel
theorem dX11_keep_45 : decode cX11_keep 45 = .ok (.iload_n 2, 1) := by decide +kernel
theorem dX11_keep_46 : decode cX11_keep 46 = .ok (.iadd, 1) := by decide +kernel
theorem dX11_keep_47 : decode cX11_keep 47 = .ok (.aload_n 0, 1) := by decide +kernel
theorem dX11_keep_48 : decode cX11_keep 48 = .ok (.getfield 13, 3) := by decide +kernel
theorem dX11_keep_51 : decode cX11_keep 51 = .ok (.iload_n 2, 1) := by decide +kernel
theorem dX11_keep_52 : decode cX11_keep 52 = .ok (.iaload, 1) := by decide +kernel
theorem dX11_keep_53 : decode cX11_keep 53 = .ok (.iastore, 1) := by decide +kernel
theorem dX11_keep_54 : decode cX11_keep 54 = .ok (.iinc 2 1, 3) := by decide +kernel
theorem dX11_keep_57 : decode cX11_keep 57 = .ok (.goto (-26), 3) := by decide +kernel
theorem dX11_keep_60 : decode cX11_keep 60 = .ok (.iconst 1, 1) := by decide +kernel
theorem dX11_keep_61 : decode cX11_keep 61 = .ok (.ireturn, 1) := by decide +kernel
set_option maxRecDepth 20000 in
theorem ggX11_fetch_X11_isKept : GoodIn wsX11_fetch wsX11_isKept := goodIn_r _ [10, 11, 2, 12, 13, 9, 14, 24, 25, 26, 27, 28, 29, 30, 31, 32, 33, 34, 35, 36, 37, 38, 39, 40, 41, 42, 43, 44, 45, 46, 47, 48, 49, 50, 51, 52] (by decide +kernel) (by decide +kernel)
set_option maxRecDepth 20000 in
theorem gX11_fetch_X11_isKept : GoodIn wsX11_fetch (wsV RX11 138 RX11 yX11_isKept wsX11_isKept) := goodIn_app (goodIn_of _ (by decide +kernel)) ggX11_fetch_X11_isKept
set_option maxRecDepth 20000 in
theorem ggX11_fetch_X11_sized : GoodIn wsX11_fetch wsX11_sized := goodIn_r _ [18, 5, 19, 20, 21, 9, 22, 23, 24, 25, 26, 27, 28, 29, 30, 31, 32, 33, 34, 35, 36, 37, 38, 39, 40, 41, 42, 43, 44, 45, 46, 47, 48, 49, 50, 51, 52] (by decide +kernel) (by decide +kernel)
set_option maxRecDepth 20000 in
theorem gX11_fetch_X11_sized : GoodIn wsX11_fetch (wsV RX11 110 RX11 yX11_sized wsX11_sized) := goodIn_app (goodIn_of _ (by decide +kernel)) ggX11_fetch_X11_sized
theorem dX11_fetch_0 : decode cX11_fetch 0 = .ok (.aload_n 0, 1) := by decide +kernel
theorem dX11_fetch_1 : decode cX11_fetch 1 = .ok (.iconst 0, 1) := by decide +kernel
theorem dX11_fetch_2 : decode cX11_fetch 2 = .ok (.putfield 83, 3) := by decide +kernel
theorem dX11_fetch_5 : decode cX11_fetch 5 = .ok (.aload_n 0, 1) := by decide +kernel
theorem dX11_fetch_6 : decode cX11_fetch 6 = .ok (.iload_n 1, 1) := by decide +kernel
theorem dX11_fetch_7 : decode cX11_fetch 7 = .ok (.invokevirtual 138, 3) := by decide +kernel
theorem dX11_fetch_10 : decode cX11_fetch 10 = .ok (.ifCond .ne 5, 3) := by decide +kernel
theorem dX11_fetch_13 : decode cX11_fetch 13 = .ok (.iconst (-1), 1) := by decide +kernel
theorem dX11_fetch_14 : decode cX11_fetch 14 = .ok (.ireturn, 1) := by decide +kernel
theorem dX11_fetch_15 : decode cX11_fetch 15 = .ok (.aload_n 0, 1) := by decide +kernel
theorem dX11_fetch_16 : decode cX11_fetch 16 = .ok (.aload_n 0, 1) := by decide +kernel
theorem dX11_fetch_17 : decode cX11_fetch 17 = .ok (.getfield 35, 3) := by decide +kernel
theorem dX11_fetch_20 : decode cX11_fetch 20 = .ok (.iload_n 1, 1) := by decide +kernel
theorem dX11_fetch_21 : decode cX11_fetch 21 = .ok (.iaload, 1) := by decide +kernel
theorem dX11_fetch_22 : decode cX11_fetch 22 = .ok (.invokevirtual 110, 3) := by decide +kernel
theorem dX11_fetch_25 : decode cX11_fetch 25 = .ok (.iconst 0, 1) := by decide +kernel
theorem dX11_fetch_26 : decode cX11_fetch 26 = .ok (.istore_n 2, 1) := by decide +kernel
theorem dX11_fetch_27 : decode cX11_fetch 27 = .ok (.iload_n 2, 1) := by decide +kernel
theorem dX11_fetch_28 : decode cX11_fetch 28 = .ok (.bipush 64, 2) := by decide +kernel
theorem dX11_fetch_30 : decode cX11_fetch 30 = .ok (.if_icmp .ge 26, 3) := by decide +kernel
theorem dX11_fetch_33 : decode cX11_fetch 33 = .ok (.aload_n 0, 1) := by decide +kernel
theorem dX11_fetch_34 : decode cX11_fetch 34 = .ok (.getfield 13, 3) := by decide +kernel
theorem dX11_fetch_37 : decode cX11_fetch 37 = .ok (.iload_n 2, 1) := by decide +kernel
theorem dX11_fetch_38 : decode cX11_fetch 38 = .ok (.aload_n 0, 1) := by decide +kernel
theorem dX11_fetch_39 : decode cX11_fetch 39 = .ok (.getfield 38, 3) := by decide +kernel
theorem dX11_fetch_42 : decode cX11_fetch 42 = .ok (.bipush 64, 2) := by decide +kernel
theorem dX11_fetch_44 : decode cX11_fetch 44 = .ok (.iload_n 1, 1) := by decide +kernel
theorem dX11_fetch_45 : decode cX11_fetch 45 = .ok (.imul, 1) := by decide +kernel
theorem dX11_fetch_46 : decode cX11_fetch 46 = .ok (.iload_n 2, 1) := by decide +kernel
theorem dX11_fetch_47 : decode cX11_fetch 47 = .ok (.iadd, 1) := by decide +kernel
theorem dX11_fetch_48 : decode cX11_fetch 48 = .ok (.iaload, 1) := by decide +kernel
theorem dX11_fetch_49 : decode cX11_fetch 49 = .ok (.iastore, 1) := by decide +kernel
theorem dX11_fetch_50 : decode cX11_fetch 50 = .ok (.iinc 2 1, 3) := by decide +kernel
theorem dX11_fetch_53 : decode cX11_fetch 53 = .ok (.goto (-26), 3) := by decide +kernel
theorem dX11_fetch_56 : decode cX11_fetch 56 = .ok (.aload_n 0, 1) := by decide +kernel
theorem dX11_fetch_57 : decode cX11_fetch 57 = .ok (.getfield 9, 3) := by decide +kernel
theorem dX11_fetch_60 : decode cX11_fetch 60 = .ok (.ireturn, 1) := by decide +kernel
theorem dX11_count_0 : decode cX11_count 0 = .ok (.aload_n 0, 1) := by decide +kernel
theorem dX11_count_1 : decode cX11_count 1 = .ok (.iconst 0, 1) := by decide +kernel
theorem dX11_count_2 : decode cX11_count 2 = .ok (.putfield 83, 3) := by decide +kernel
theorem dX11_count_5 : decode cX11_count 5 = .ok (.iload_n 1, 1) := by decide +kernel
theorem dX11_count_6 : decode cX11_count 6 = .ok (.tableswitch 59 0 4 #[34, 39, 44, 49, 54], 34) := by decide +kernel
theorem dX11_count_40 : decode cX11_count 40 = .ok (.aload_n 0, 1) := by decide +kernel
theorem dX11_count_41 : decode cX11_count 41 = .ok (.getfield 9, 3) := by decide +kernel
theorem dX11_count_44 : decode cX11_count 44 = .ok (.ireturn, 1) := by decide +kernel
theorem dX11_count_45 : decode cX11_count 45 = .ok (.aload_n 0, 1) := by decide +kernel
theorem dX11_count_46 : decode cX11_count 46 = .ok (.getfield 17, 3) := by decide +kernel
theorem dX11_count_49 : decode cX11_count 49 = .ok (.ireturn, 1) := by decide +kernel
theorem dX11_count_50 : decode cX11_count 50 = .ok (.aload_n 0, 1) := by decide +kernel
theorem dX11_count_51 : decode cX11_count 51 = .ok (.getfield 68, 3) := by decide +kernel
theorem dX11_count_54 : decode cX11_count 54 = .ok (.ireturn, 1) := by decide +kernel
theorem dX11_count_55 : decode cX11_count 55 = .ok (.aload_n 0, 1) := by decide +kernel
theorem dX11_count_56 : decode cX11_count 56 = .ok (.getfield 141, 3) := by decide +kernel
theorem dX11_count_59 : decode cX11_count 59 = .ok (.ireturn, 1) := by decide +kernel
theorem dX11_count_60 : decode cX11_count 60 = .ok (.aload_n 0, 1) := by decide +kernel
theorem dX11_count_61 : decode cX11_count 61 = .ok (.getfield 144, 3) := by decide +kernel
theorem dX11_count_64 : decode cX11_count 64 = .ok (.ireturn, 1) := by decide +kernel
theorem dX11_count_65 : decode cX11_count 65 = .ok (.iconst (-1), 1) := by decide +kernel
theorem dX11_count_66 : decode cX11_count 66 = .ok (.ireturn, 1) := by decide +kernel
set_option maxRecDepth 20000 in
theorem ggX11_unevenRow_X11_by : GoodIn wsX11_unevenRow wsX11_by := goodIn_r _ [6, 7, 8, 9, 10, 11, 12, 13, 14, 15, 16, 17, 18, 19, 20, 21, 22, 23, 24, 25, 26, 27, 28, 29, 30, 31, 32, 33, 34, 35, 36] (by decide +kernel) (by decide +kernel)
set_option maxRecDepth 20000 in
theorem gX11_unevenRow_X11_by : GoodIn wsX11_unevenRow (wsV RX11 99 RX11 yX11_by wsX11_by) := goodIn_app (goodIn_of _ (by decide +kernel)) ggX11_unevenRow_X11_by
theorem dX11_unevenRow_0 : decode cX11_unevenRow 0 = .ok (.iconst 0, 1) := by decide +kernel
theorem dX11_unevenRow_1 : decode cX11_unevenRow 1 = .ok (.istore_n 1, 1) := by decide +kernel
theorem dX11_unevenRow_2 : decode cX11_unevenRow 2 = .ok (.iload_n 1, 1) := by decide +kernel
theorem dX11_unevenRow_3 : decode cX11_unevenRow 3 = .ok (.aload_n 0, 1) := by decide +kernel
theorem dX11_unevenRow_4 : decode cX11_unevenRow 4 = .ok (.getfield 9, 3) := by decide +kernel
theorem dX11_unevenRow_7 : decode cX11_unevenRow 7 = .ok (.if_icmp .ge 52, 3) := by decide +kernel
theorem dX11_unevenRow_10 : decode cX11_unevenRow 10 = .ok (.iconst 0, 1) := by decide +kernel
theorem dX11_unevenRow_11 : decode cX11_unevenRow 11 = .ok (.istore_n 2, 1) := by decide +kernel
theorem dX11_unevenRow_12 : decode cX11_unevenRow 12 = .ok (.iconst 0, 1) := by decide +kernel
theorem dX11_unevenRow_13 : decode cX11_unevenRow 13 = .ok (.istore_n 3, 1) := by decide +kernel
theorem dX11_unevenRow_14 : decode cX11_unevenRow 14 = .ok (.iload_n 3, 1) := by decide +kernel
theorem dX11_unevenRow_15 : decode cX11_unevenRow 15 = .ok (.aload_n 0, 1) := by decide +kernel
theorem dX11_unevenRow_16 : decode cX11_unevenRow 16 = .ok (.getfield 9, 3) := by decide +kernel
theorem dX11_unevenRow_19 : decode cX11_unevenRow 19 = .ok (.if_icmp .ge 20, 3) := by decide +kernel
theorem dX11_unevenRow_22 : decode cX11_unevenRow 22 = .ok (.iload_n 2, 1) := by decide +kernel
theorem dX11_unevenRow_23 : decode cX11_unevenRow 23 = .ok (.iconst 1, 1) := by decide +kernel
theorem dX11_unevenRow_24 : decode cX11_unevenRow 24 = .ok (.aload_n 0, 1) := by decide +kernel
theorem dX11_unevenRow_25 : decode cX11_unevenRow 25 = .ok (.iload_n 1, 1) := by decide +kernel
theorem dX11_unevenRow_26 : decode cX11_unevenRow 26 = .ok (.iload_n 3, 1) := by decide +kernel
theorem dX11_unevenRow_27 : decode cX11_unevenRow 27 = .ok (.invokevirtual 99, 3) := by decide +kernel
theorem dX11_unevenRow_30 : decode cX11_unevenRow 30 = .ok (.ishl, 1) := by decide +kernel
theorem dX11_unevenRow_31 : decode cX11_unevenRow 31 = .ok (.ior, 1) := by decide +kernel
theorem dX11_unevenRow_32 : decode cX11_unevenRow 32 = .ok (.istore_n 2, 1) := by decide +kernel
theorem dX11_unevenRow_33 : decode cX11_unevenRow 33 = .ok (.iinc 3 1, 3) := by decide +kernel
theorem dX11_unevenRow_36 : decode cX11_unevenRow 36 = .ok (.goto (-22), 3) := by decide +kernel
theorem dX11_unevenRow_39 : decode cX11_unevenRow 39 = .ok (.iload_n 2, 1) := by decide +kernel
theorem dX11_unevenRow_40 : decode cX11_unevenRow 40 = .ok (.iconst 1, 1) := by decide +kernel
theorem dX11_unevenRow_41 : decode cX11_unevenRow 41 = .ok (.aload_n 0, 1) := by decide +kernel
theorem dX11_unevenRow_42 : decode cX11_unevenRow 42 = .ok (.getfield 9, 3) := by decide +kernel
theorem dX11_unevenRow_45 : decode cX11_unevenRow 45 = .ok (.ishl, 1) := by decide +kernel
theorem dX11_unevenRow_46 : decode cX11_unevenRow 46 = .ok (.iconst 1, 1) := by decide +kernel
theorem dX11_unevenRow_47 : decode cX11_unevenRow 47 = .ok (.isub, 1) := by decide +kernel
theorem dX11_unevenRow_48 : decode cX11_unevenRow 48 = .ok (.if_icmp .eq 5, 3) := by decide +kernel
theorem dX11_unevenRow_51 : decode cX11_unevenRow 51 = .ok (.iload_n 1, 1) := by decide +kernel
theorem dX11_unevenRow_52 : decode cX11_unevenRow 52 = .ok (.ireturn, 1) := by decide +kernel
theorem dX11_unevenRow_53 : decode cX11_unevenRow 53 = .ok (.iinc 1 1, 3) := by decide +kernel
theorem dX11_unevenRow_56 : decode cX11_unevenRow 56 = .ok (.goto (-54), 3) := by decide +kernel
theorem dX11_unevenRow_59 : decode cX11_unevenRow 59 = .ok (.iconst (-1), 1) := by decide +kernel
theorem dX11_unevenRow_60 : decode cX11_unevenRow 60 = .ok (.ireturn, 1) := by decide +kernel
set_option maxRecDepth 20000 in
theorem ggX11_unruly_X11_by : GoodIn wsX11_unruly wsX11_by := goodIn_r _ [6, 7, 8, 9, 10, 11, 12, 13, 14, 15, 16, 17, 18, 19, 20, 21, 22, 23, 24, 25, 26, 27, 28, 29, 30, 31, 32, 33, 34, 35, 36] (by decide +kernel) (by decide +kernel)
set_option maxRecDepth 20000 in
theorem gX11_unruly_X11_by : GoodIn wsX11_unruly (wsV RX11 99 RX11 yX11_by wsX11_by) := goodIn_app (goodIn_of _ (by decide +kernel)) ggX11_unruly_X11_by
theorem dX11_unruly_0 : decode cX11_unruly 0 = .ok (.iconst 0, 1) := by decide +kernel
theorem dX11_unruly_1 : decode cX11_unruly 1 = .ok (.istore_n 1, 1) := by decide +kernel
theorem dX11_unruly_2 : decode cX11_unruly 2 = .ok (.iload_n 1, 1) := by decide +kernel
theorem dX11_unruly_3 : decode cX11_unruly 3 = .ok (.aload_n 0, 1) := by decide +kernel
theorem dX11_unruly_4 : decode cX11_unruly 4 = .ok (.getfield 9, 3) := by decide +kernel
theorem dX11_unruly_7 : decode cX11_unruly 7 = .ok (.if_icmp .ge 83, 3) := by decide +kernel
theorem dX11_unruly_10 : decode cX11_unruly 10 = .ok (.iconst 0, 1) := by decide +kernel
theorem dX11_unruly_11 : decode cX11_unruly 11 = .ok (.istore_n 2, 1) := by decide +kernel
theorem dX11_unruly_12 : decode cX11_unruly 12 = .ok (.iload_n 2, 1) := by decide +kernel
theorem dX11_unruly_13 : decode cX11_unruly 13 = .ok (.aload_n 0, 1) := by decide +kernel
theorem dX11_unruly_14 : decode cX11_unruly 14 = .ok (.getfield 9, 3) := by decide +kernel
theorem dX11_unruly_17 : decode cX11_unruly 17 = .ok (.if_icmp .ge 67, 3) := by decide +kernel
theorem dX11_unruly_20 : decode cX11_unruly 20 = .ok (.iconst 0, 1) := by decide +kernel
theorem dX11_unruly_21 : decode cX11_unruly 21 = .ok (.istore_n 3, 1) := by decide +kernel
theorem dX11_unruly_22 : decode cX11_unruly 22 = .ok (.iload_n 3, 1) := by decide +kernel
theorem dX11_unruly_23 : decode cX11_unruly 23 = .ok (.aload_n 0, 1) := by decide +kernel
theorem dX11_unruly_24 : decode cX11_unruly 24 = .ok (.getfield 9, 3) := by decide +kernel
theorem dX11_unruly_27 : decode cX11_unruly 27 = .ok (.if_icmp .ge 51, 3) := by decide +kernel
theorem dX11_unruly_30 : decode cX11_unruly 30 = .ok (.aload_n 0, 1) := by decide +kernel
theorem dX11_unruly_31 : decode cX11_unruly 31 = .ok (.iload_n 1, 1) := by decide +kernel
theorem dX11_unruly_32 : decode cX11_unruly 32 = .ok (.aload_n 0, 1) := by decide +kernel
theorem dX11_unruly_33 : decode cX11_unruly 33 = .ok (.iload_n 2, 1) := by decide +kernel
theorem dX11_unruly_34 : decode cX11_unruly 34 = .ok (.iload_n 3, 1) := by decide +kernel
theorem dX11_unruly_35 : decode cX11_unruly 35 = .ok (.invokevirtual 99, 3) := by decide +kernel
theorem dX11_unruly_38 : decode cX11_unruly 38 = .ok (.invokevirtual 99, 3) := by decide +kernel
theorem dX11_unruly_41 : decode cX11_unruly 41 = .ok (.aload_n 0, 1) := by decide +kernel
theorem dX11_unruly_42 : decode cX11_unruly 42 = .ok (.aload_n 0, 1) := by decide +kernel
theorem dX11_unruly_43 : decode cX11_unruly 43 = .ok (.iload_n 1, 1) := by decide +kernel
theorem dX11_unruly_44 : decode cX11_unruly 44 = .ok (.iload_n 2, 1) := by decide +kernel
theorem dX11_unruly_45 : decode cX11_unruly 45 = .ok (.invokevirtual 99, 3) := by decide +kernel
theorem dX11_unruly_48 : decode cX11_unruly 48 = .ok (.aload_n 0, 1) := by decide +kernel
theorem dX11_unruly_49 : decode cX11_unruly 49 = .ok (.iload_n 1, 1) := by decide +kernel
theorem dX11_unruly_50 : decode cX11_unruly 50 = .ok (.iload_n 3, 1) := by decide +kernel
theorem dX11_unruly_51 : decode cX11_unruly 51 = .ok (.invokevirtual 99, 3) := by decide +kernel
theorem dX11_unruly_54 : decode cX11_unruly 54 = .ok (.invokevirtual 99, 3) := by decide +kernel
theorem dX11_unruly_57 : decode cX11_unruly 57 = .ok (.if_icmp .eq 15, 3) := by decide +kernel
theorem dX11_unruly_60 : decode cX11_unruly 60 = .ok (.iload_n 1, 1) := by decide +kernel
theorem dX11_unruly_61 : decode cX11_unruly 61 = .ok (.bipush 8, 2) := by decide +kernel
theorem dX11_unruly_63 : decode cX11_unruly 63 = .ok (.imul, 1) := by decide +kernel
theorem dX11_unruly_64 : decode cX11_unruly 64 = .ok (.iload_n 2, 1) := by decide +kernel
theorem dX11_unruly_65 : decode cX11_unruly 65 = .ok (.iadd, 1) := by decide +kernel
theorem dX11_unruly_66 : decode cX11_unruly 66 = .ok (.bipush 8, 2) := by decide +kernel
theorem dX11_unruly_68 : decode cX11_unruly 68 = .ok (.imul, 1) := by decide +kernel
theorem dX11_unruly_69 : decode cX11_unruly 69 = .ok (.iload_n 3, 1) := by decide +kernel
theorem dX11_unruly_70 : decode cX11_unruly 70 = .ok (.iadd, 1) := by decide +kernel
theorem dX11_unruly_71 : decode cX11_unruly 71 = .ok (.ireturn, 1) := by decide +kernel
theorem dX11_unruly_72 : decode cX11_unruly 72 = .ok (.iinc 3 1, 3) := by decide +kernel
theorem dX11_unruly_75 : decode cX11_unruly 75 = .ok (.goto (-53), 3) := by decide +kernel
theorem dX11_unruly_78 : decode cX11_unruly 78 = .ok (.iinc 2 1, 3) := by decide +kernel
theorem dX11_unruly_81 : decode cX11_unruly 81 = .ok (.goto (-69), 3) := by decide +kernel
theorem dX11_unruly_84 : decode cX11_unruly 84 = .ok (.iinc 1 1, 3) := by decide +kernel
theorem dX11_unruly_87 : decode cX11_unruly 87 = .ok (.goto (-85), 3) := by decide +kernel
theorem dX11_unruly_90 : decode cX11_unruly 90 = .ok (.iconst (-1), 1) := by decide +kernel
theorem dX11_unruly_91 : decode cX11_unruly 91 = .ok (.ireturn, 1) := by decide +kernel
set_option maxRecDepth 20000 in
theorem ggX11_isRack_X11_unevenRow : GoodIn wsX11_isRack wsX11_unevenRow := goodIn_r _ [5, 6, 7, 8, 9, 4, 10, 11, 16, 17, 18, 19, 20, 21, 22, 23, 24, 25, 26, 27, 28, 29, 30, 31, 32, 33, 34, 35, 36, 37, 38, 39, 40, 41, 42, 43, 44] (by decide +kernel) (by decide +kernel)
set_option maxRecDepth 20000 in
theorem gX11_isRack_X11_unevenRow : GoodIn wsX11_isRack (wsV RX11 147 RX11 yX11_unevenRow wsX11_unevenRow) := goodIn_app (goodIn_of _ (by decide +kernel)) ggX11_isRack_X11_unevenRow
set_option maxRecDepth 20000 in
theorem ggX11_isRack_X11_unruly : GoodIn wsX11_isRack wsX11_unruly := goodIn_r _ [15, 6, 7, 8, 9, 4, 10, 11, 16, 17, 18, 19, 20, 21, 22, 23, 24, 25, 26, 27, 28, 29, 30, 31, 32, 33, 34, 35, 36, 37, 38, 39, 40, 41, 42, 43, 44] (by decide +kernel) (by decide +kernel)
set_option maxRecDepth 20000 in
theorem gX11_isRack_X11_unruly : GoodIn wsX11_isRack (wsV RX11 150 RX11 yX11_unruly wsX11_unruly) := goodIn_app (goodIn_of _ (by decide +kernel)) ggX11_isRack_X11_unruly
theorem dX11_isRack_0 : decode cX11_isRack 0 = .ok (.aload_n 0, 1) := by decide +kernel
theorem dX11_isRack_1 : decode cX11_isRack 1 = .ok (.invokevirtual 147, 3) := by decide +kernel
theorem dX11_isRack_4 : decode cX11_isRack 4 = .ok (.ifCond .ge 14, 3) := by decide +kernel
theorem dX11_isRack_7 : decode cX11_isRack 7 = .ok (.aload_n 0, 1) := by decide +kernel
theorem dX11_isRack_8 : decode cX11_isRack 8 = .ok (.invokevirtual 150, 3) := by decide +kernel
theorem dX11_isRack_11 : decode cX11_isRack 11 = .ok (.ifCond .ge 7, 3) := by decide +kernel
theorem dX11_isRack_14 : decode cX11_isRack 14 = .ok (.iconst 1, 1) := by decide +kernel
theorem dX11_isRack_15 : decode cX11_isRack 15 = .ok (.goto 4, 3) := by decide +kernel
theorem dX11_isRack_18 : decode cX11_isRack 18 = .ok (.iconst 0, 1) := by decide +kernel
theorem dX11_isRack_19 : decode cX11_isRack 19 = .ok (.ireturn, 1) := by decide +kernel
theorem dX11_tells_0 : decode cX11_tells 0 = .ok (.aload_n 0, 1) := by decide +kernel
theorem dX11_tells_1 : decode cX11_tells 1 = .ok (.iconst 3, 1) := by decide +kernel
theorem dX11_tells_2 : decode cX11_tells 2 = .ok (.putfield 144, 3) := by decide +kernel
theorem dX11_tells_5 : decode cX11_tells 5 = .ok (.aload_n 0, 1) := by decide +kernel
theorem dX11_tells_6 : decode cX11_tells 6 = .ok (.getfield 41, 3) := by decide +kernel
theorem dX11_tells_9 : decode cX11_tells 9 = .ok (.iconst 0, 1) := by decide +kernel
theorem dX11_tells_10 : decode cX11_tells 10 = .ok (.iload_n 1, 1) := by decide +kernel
theorem dX11_tells_11 : decode cX11_tells 11 = .ok (.bipush 64, 2) := by decide +kernel
theorem dX11_tells_13 : decode cX11_tells 13 = .ok (.idiv, 1) := by decide +kernel
theorem dX11_tells_14 : decode cX11_tells 14 = .ok (.iastore, 1) := by decide +kernel
theorem dX11_tells_15 : decode cX11_tells 15 = .ok (.aload_n 0, 1) := by decide +kernel
theorem dX11_tells_16 : decode cX11_tells 16 = .ok (.getfield 41, 3) := by decide +kernel
theorem dX11_tells_19 : decode cX11_tells 19 = .ok (.iconst 1, 1) := by decide +kernel
theorem dX11_tells_20 : decode cX11_tells 20 = .ok (.iload_n 1, 1) := by decide +kernel
theorem dX11_tells_21 : decode cX11_tells 21 = .ok (.bipush 8, 2) := by decide +kernel
theorem dX11_tells_23 : decode cX11_tells 23 = .ok (.idiv, 1) := by decide +kernel
theorem dX11_tells_24 : decode cX11_tells 24 = .ok (.bipush 8, 2) := by decide +kernel
theorem dX11_tells_26 : decode cX11_tells 26 = .ok (.irem, 1) := by decide +kernel
theorem dX11_tells_27 : decode cX11_tells 27 = .ok (.iastore, 1) := by decide +kernel
theorem dX11_tells_28 : decode cX11_tells 28 = .ok (.aload_n 0, 1) := by decide +kernel
theorem dX11_tells_29 : decode cX11_tells 29 = .ok (.getfield 41, 3) := by decide +kernel
theorem dX11_tells_32 : decode cX11_tells 32 = .ok (.iconst 2, 1) := by decide +kernel
theorem dX11_tells_33 : decode cX11_tells 33 = .ok (.iload_n 1, 1) := by decide +kernel
theorem dX11_tells_34 : decode cX11_tells 34 = .ok (.bipush 8, 2) := by decide +kernel
theorem dX11_tells_36 : decode cX11_tells 36 = .ok (.irem, 1) := by decide +kernel
theorem dX11_tells_37 : decode cX11_tells 37 = .ok (.iastore, 1) := by decide +kernel
theorem dX11_tells_38 : decode cX11_tells 38 = .ok (.return_, 1) := by decide +kernel
set_option maxRecDepth 20000 in
theorem ggX11_wrong_X11_unevenRow : GoodIn wsX11_wrong wsX11_unevenRow := goodIn_r _ [8, 9, 10, 11, 12, 7, 13, 14, 23, 24, 25, 26, 27, 28, 29, 30, 31, 32, 33, 34, 35, 36, 37, 38, 39, 40, 41, 42, 43, 44, 45, 46, 47, 48, 49, 50, 51] (by decide +kernel) (by decide +kernel)
set_option maxRecDepth 20000 in
theorem gX11_wrong_X11_unevenRow : GoodIn wsX11_wrong (wsV RX11 147 RX11 yX11_unevenRow wsX11_unevenRow) := goodIn_app (goodIn_of _ (by decide +kernel)) ggX11_wrong_X11_unevenRow
set_option maxRecDepth 20000 in
theorem ggX11_wrong_X11_unruly : GoodIn wsX11_wrong wsX11_unruly := goodIn_r _ [18, 9, 10, 11, 12, 7, 13, 14, 23, 24, 25, 26, 27, 28, 29, 30, 31, 32, 33, 34, 35, 36, 37, 38, 39, 40, 41, 42, 43, 44, 45, 46, 47, 48, 49, 50, 51] (by decide +kernel) (by decide +kernel)
set_option maxRecDepth 20000 in
theorem gX11_wrong_X11_unruly : GoodIn wsX11_wrong (wsV RX11 150 RX11 yX11_unruly wsX11_unruly) := goodIn_app (goodIn_of _ (by decide +kernel)) ggX11_wrong_X11_unruly
set_option maxRecDepth 20000 in
theorem ggX11_wrong_X11_tells : GoodIn wsX11_wrong wsX11_tells := goodIn_r _ [22, 2, 3, 23, 24, 25, 26, 27, 28, 29, 30, 31, 32, 33, 34, 35, 36, 37, 38, 39, 40, 41, 42, 43, 44, 45, 46, 47, 48, 49, 50, 51] (by decide +kernel) (by decide +kernel)
set_option maxRecDepth 20000 in
theorem gX11_wrong_X11_tells : GoodIn wsX11_wrong (wsV RX11 153 RX11 yX11_tells wsX11_tells) := goodIn_app (goodIn_of _ (by decide +kernel)) ggX11_wrong_X11_tells
theorem dX11_wrong_0 : decode cX11_wrong 0 = .ok (.aload_n 0, 1) := by decide +kernel
theorem dX11_wrong_1 : decode cX11_wrong 1 = .ok (.iconst 0, 1) := by decide +kernel
theorem dX11_wrong_2 : decode cX11_wrong 2 = .ok (.putfield 83, 3) := by decide +kernel
theorem dX11_wrong_5 : decode cX11_wrong 5 = .ok (.aload_n 0, 1) := by decide +kernel
theorem dX11_wrong_6 : decode cX11_wrong 6 = .ok (.invokevirtual 147, 3) := by decide +kernel
theorem dX11_wrong_9 : decode cX11_wrong 9 = .ok (.istore_n 1, 1) := by decide +kernel
theorem dX11_wrong_10 : decode cX11_wrong 10 = .ok (.iload_n 1, 1) := by decide +kernel
theorem dX11_wrong_11 : decode cX11_wrong 11 = .ok (.ifCond .lt 17, 3) := by decide +kernel
theorem dX11_wrong_14 : decode cX11_wrong 14 = .ok (.aload_n 0, 1) := by decide +kernel
theorem dX11_wrong_15 : decode cX11_wrong 15 = .ok (.iconst 1, 1) := by decide +kernel
theorem dX11_wrong_16 : decode cX11_wrong 16 = .ok (.putfield 144, 3) := by decide +kernel
theorem dX11_wrong_19 : decode cX11_wrong 19 = .ok (.aload_n 0, 1) := by decide +kernel
theorem dX11_wrong_20 : decode cX11_wrong 20 = .ok (.getfield 41, 3) := by decide +kernel
theorem dX11_wrong_23 : decode cX11_wrong 23 = .ok (.iconst 0, 1) := by decide +kernel
theorem dX11_wrong_24 : decode cX11_wrong 24 = .ok (.iload_n 1, 1) := by decide +kernel
theorem dX11_wrong_25 : decode cX11_wrong 25 = .ok (.iastore, 1) := by decide +kernel
theorem dX11_wrong_26 : decode cX11_wrong 26 = .ok (.iconst 1, 1) := by decide +kernel
theorem dX11_wrong_27 : decode cX11_wrong 27 = .ok (.ireturn, 1) := by decide +kernel
theorem dX11_wrong_28 : decode cX11_wrong 28 = .ok (.aload_n 0, 1) := by decide +kernel
theorem dX11_wrong_29 : decode cX11_wrong 29 = .ok (.invokevirtual 150, 3) := by decide +kernel
theorem dX11_wrong_32 : decode cX11_wrong 32 = .ok (.istore_n 2, 1) := by decide +kernel
theorem dX11_wrong_33 : decode cX11_wrong 33 = .ok (.iload_n 2, 1) := by decide +kernel
theorem dX11_wrong_34 : decode cX11_wrong 34 = .ok (.ifCond .lt 10, 3) := by decide +kernel
theorem dX11_wrong_37 : decode cX11_wrong 37 = .ok (.aload_n 0, 1) := by decide +kernel
theorem dX11_wrong_38 : decode cX11_wrong 38 = .ok (.iload_n 2, 1) := by decide +kernel
theorem dX11_wrong_39 : decode cX11_wrong 39 = .ok (.invokevirtual 153, 3) := by decide +kernel
theorem dX11_wrong_42 : decode cX11_wrong 42 = .ok (.iconst 2, 1) := by decide +kernel
theorem dX11_wrong_43 : decode cX11_wrong 43 = .ok (.ireturn, 1) := by decide +kernel
theorem dX11_wrong_44 : decode cX11_wrong 44 = .ok (.iconst 0, 1) := by decide +kernel
theorem dX11_wrong_45 : decode cX11_wrong 45 = .ok (.ireturn, 1) := by decide +kernel
set_option maxRecDepth 20000 in
theorem ggX11_findsOrbits_X11_by : GoodIn wsX11_findsOrbits wsX11_by := goodIn_r _ [11, 12, 18, 19, 20, 21, 22, 23, 24, 25, 26, 27, 28, 29, 30, 31, 32, 33, 34, 35, 36, 37, 38, 39, 40, 41, 42, 43, 44, 45, 46] (by decide +kernel) (by decide +kernel)
set_option maxRecDepth 20000 in
theorem gX11_findsOrbits_X11_by : GoodIn wsX11_findsOrbits (wsV RX11 99 RX11 yX11_by wsX11_by) := goodIn_app (goodIn_of _ (by decide +kernel)) ggX11_findsOrbits_X11_by
set_option maxRecDepth 20000 in
theorem ggX11_findsOrbits_X11_numbered : GoodIn wsX11_findsOrbits wsX11_numbered := goodIn_r _ [16, 1, 17, 18, 19, 20, 21, 22, 23, 24, 25, 26, 27, 28, 29, 30, 31, 32, 33, 34, 35, 36, 37, 38, 39, 40, 41, 42, 43, 44, 45, 46] (by decide +kernel) (by decide +kernel)
set_option maxRecDepth 20000 in
theorem gX11_findsOrbits_X11_numbered : GoodIn wsX11_findsOrbits (wsV RX11 159 RX11 yX11_numbered wsX11_numbered) := goodIn_app (goodIn_of _ (by decide +kernel)) ggX11_findsOrbits_X11_numbered
theorem dX11_findsOrbits_0 : decode cX11_findsOrbits 0 = .ok (.iconst 0, 1) := by decide +kernel
theorem dX11_findsOrbits_1 : decode cX11_findsOrbits 1 = .ok (.istore_n 1, 1) := by decide +kernel
theorem dX11_findsOrbits_2 : decode cX11_findsOrbits 2 = .ok (.iload_n 1, 1) := by decide +kernel
theorem dX11_findsOrbits_3 : decode cX11_findsOrbits 3 = .ok (.aload_n 0, 1) := by decide +kernel
theorem dX11_findsOrbits_4 : decode cX11_findsOrbits 4 = .ok (.getfield 9, 3) := by decide +kernel
theorem dX11_findsOrbits_7 : decode cX11_findsOrbits 7 = .ok (.if_icmp .ge 16, 3) := by decide +kernel
theorem dX11_findsOrbits_10 : decode cX11_findsOrbits 10 = .ok (.aload_n 0, 1) := by decide +kernel
theorem dX11_findsOrbits_11 : decode cX11_findsOrbits 11 = .ok (.getfield 44, 3) := by decide +kernel
theorem dX11_findsOrbits_14 : decode cX11_findsOrbits 14 = .ok (.iload_n 1, 1) := by decide +kernel
theorem dX11_findsOrbits_15 : decode cX11_findsOrbits 15 = .ok (.iload_n 1, 1) := by decide +kernel
theorem dX11_findsOrbits_16 : decode cX11_findsOrbits 16 = .ok (.iastore, 1) := by decide +kernel
theorem dX11_findsOrbits_17 : decode cX11_findsOrbits 17 = .ok (.iinc 1 1, 3) := by decide +kernel
theorem dX11_findsOrbits_20 : decode cX11_findsOrbits 20 = .ok (.goto (-18), 3) := by decide +kernel
theorem dX11_findsOrbits_23 : decode cX11_findsOrbits 23 = .ok (.iconst 0, 1) := by decide +kernel
theorem dX11_findsOrbits_24 : decode cX11_findsOrbits 24 = .ok (.istore_n 1, 1) := by decide +kernel
theorem dX11_findsOrbits_25 : decode cX11_findsOrbits 25 = .ok (.iload_n 1, 1) := by decide +kernel
theorem dX11_findsOrbits_26 : decode cX11_findsOrbits 26 = .ok (.aload_n 0, 1) := by decide +kernel
theorem dX11_findsOrbits_27 : decode cX11_findsOrbits 27 = .ok (.getfield 9, 3) := by decide +kernel
theorem dX11_findsOrbits_30 : decode cX11_findsOrbits 30 = .ok (.if_icmp .ge 84, 3) := by decide +kernel
theorem dX11_findsOrbits_33 : decode cX11_findsOrbits 33 = .ok (.iconst 0, 1) := by decide +kernel
theorem dX11_findsOrbits_34 : decode cX11_findsOrbits 34 = .ok (.istore_n 2, 1) := by decide +kernel
theorem dX11_findsOrbits_35 : decode cX11_findsOrbits 35 = .ok (.iload_n 2, 1) := by decide +kernel
theorem dX11_findsOrbits_36 : decode cX11_findsOrbits 36 = .ok (.aload_n 0, 1) := by decide +kernel
theorem dX11_findsOrbits_37 : decode cX11_findsOrbits 37 = .ok (.getfield 9, 3) := by decide +kernel
theorem dX11_findsOrbits_40 : decode cX11_findsOrbits 40 = .ok (.if_icmp .ge 68, 3) := by decide +kernel
theorem dX11_findsOrbits_43 : decode cX11_findsOrbits 43 = .ok (.iconst 0, 1) := by decide +kernel
theorem dX11_findsOrbits_44 : decode cX11_findsOrbits 44 = .ok (.istore_n 3, 1) := by decide +kernel
theorem dX11_findsOrbits_45 : decode cX11_findsOrbits 45 = .ok (.iload_n 3, 1) := by decide +kernel
theorem dX11_findsOrbits_46 : decode cX11_findsOrbits 46 = .ok (.aload_n 0, 1) := by decide +kernel
theorem dX11_findsOrbits_47 : decode cX11_findsOrbits 47 = .ok (.getfield 9, 3) := by decide +kernel
theorem dX11_findsOrbits_50 : decode cX11_findsOrbits 50 = .ok (.if_icmp .ge 52, 3) := by decide +kernel
theorem dX11_findsOrbits_53 : decode cX11_findsOrbits 53 = .ok (.aload_n 0, 1) := by decide +kernel
theorem dX11_findsOrbits_54 : decode cX11_findsOrbits 54 = .ok (.getfield 44, 3) := by decide +kernel
theorem dX11_findsOrbits_57 : decode cX11_findsOrbits 57 = .ok (.iload_n 3, 1) := by decide +kernel
theorem dX11_findsOrbits_58 : decode cX11_findsOrbits 58 = .ok (.iaload, 1) := by decide +kernel
theorem dX11_findsOrbits_59 : decode cX11_findsOrbits 59 = .ok (.aload_n 0, 1) := by decide +kernel
theorem dX11_findsOrbits_60 : decode cX11_findsOrbits 60 = .ok (.getfield 44, 3) := by decide +kernel
theorem dX11_findsOrbits_63 : decode cX11_findsOrbits 63 = .ok (.aload_n 0, 1) := by decide +kernel
theorem dX11_findsOrbits_64 : decode cX11_findsOrbits 64 = .ok (.iload_n 2, 1) := by decide +kernel
theorem dX11_findsOrbits_65 : decode cX11_findsOrbits 65 = .ok (.iload_n 3, 1) := by decide +kernel
theorem dX11_findsOrbits_66 : decode cX11_findsOrbits 66 = .ok (.invokevirtual 99, 3) := by decide +kernel
theorem dX11_findsOrbits_69 : decode cX11_findsOrbits 69 = .ok (.iaload, 1) := by decide +kernel
theorem dX11_findsOrbits_70 : decode cX11_findsOrbits 70 = .ok (.invokestatic 156, 3) := by decide +kernel
theorem dX11_findsOrbits_73 : decode cX11_findsOrbits 73 = .ok (.istore 4, 2) := by decide +kernel
theorem dX11_findsOrbits_75 : decode cX11_findsOrbits 75 = .ok (.aload_n 0, 1) := by decide +kernel
theorem dX11_findsOrbits_76 : decode cX11_findsOrbits 76 = .ok (.getfield 44, 3) := by decide +kernel
theorem dX11_findsOrbits_79 : decode cX11_findsOrbits 79 = .ok (.iload_n 3, 1) := by decide +kernel
theorem dX11_findsOrbits_80 : decode cX11_findsOrbits 80 = .ok (.iload 4, 2) := by decide +kernel
theorem dX11_findsOrbits_82 : decode cX11_findsOrbits 82 = .ok (.iastore, 1) := by decide +kernel
theorem dX11_findsOrbits_83 : decode cX11_findsOrbits 83 = .ok (.aload_n 0, 1) := by decide +kernel
theorem dX11_findsOrbits_84 : decode cX11_findsOrbits 84 = .ok (.getfield 44, 3) := by decide +kernel
theorem dX11_findsOrbits_87 : decode cX11_findsOrbits 87 = .ok (.aload_n 0, 1) := by decide +kernel
theorem dX11_findsOrbits_88 : decode cX11_findsOrbits 88 = .ok (.iload_n 2, 1) := by decide +kernel
theorem dX11_findsOrbits_89 : decode cX11_findsOrbits 89 = .ok (.iload_n 3, 1) := by decide +kernel
theorem dX11_findsOrbits_90 : decode cX11_findsOrbits 90 = .ok (.invokevirtual 99, 3) := by decide +kernel
theorem dX11_findsOrbits_93 : decode cX11_findsOrbits 93 = .ok (.iload 4, 2) := by decide +kernel
theorem dX11_findsOrbits_95 : decode cX11_findsOrbits 95 = .ok (.iastore, 1) := by decide +kernel
theorem dX11_findsOrbits_96 : decode cX11_findsOrbits 96 = .ok (.iinc 3 1, 3) := by decide +kernel
theorem dX11_findsOrbits_99 : decode cX11_findsOrbits 99 = .ok (.goto (-54), 3) := by decide +kernel
theorem dX11_findsOrbits_102 : decode cX11_findsOrbits 102 = .ok (.iinc 2 1, 3) := by decide +kernel
theorem dX11_findsOrbits_105 : decode cX11_findsOrbits 105 = .ok (.goto (-70), 3) := by decide +kernel
theorem dX11_findsOrbits_108 : decode cX11_findsOrbits 108 = .ok (.iinc 1 1, 3) := by decide +kernel
theorem dX11_findsOrbits_111 : decode cX11_findsOrbits 111 = .ok (.goto (-86), 3) := by decide +kernel
theorem dX11_findsOrbits_114 : decode cX11_findsOrbits 114 = .ok (.aload_n 0, 1) := by decide +kernel
theorem dX11_findsOrbits_115 : decode cX11_findsOrbits 115 = .ok (.aload_n 0, 1) := by decide +kernel
theorem dX11_findsOrbits_116 : decode cX11_findsOrbits 116 = .ok (.getfield 44, 3) := by decide +kernel
theorem dX11_findsOrbits_119 : decode cX11_findsOrbits 119 = .ok (.invokevirtual 159, 3) := by decide +kernel
theorem dX11_findsOrbits_122 : decode cX11_findsOrbits 122 = .ok (.ireturn, 1) := by decide +kernel
theorem dX11_numbered_0 : decode cX11_numbered 0 = .ok (.iconst 0, 1) := by decide +kernel
theorem dX11_numbered_1 : decode cX11_numbered 1 = .ok (.istore_n 2, 1) := by decide +kernel
theorem dX11_numbered_2 : decode cX11_numbered 2 = .ok (.iconst 0, 1) := by decide +kernel
theorem dX11_numbered_3 : decode cX11_numbered 3 = .ok (.istore_n 3, 1) := by decide +kernel
theorem dX11_numbered_4 : decode cX11_numbered 4 = .ok (.iload_n 3, 1) := by decide +kernel
theorem dX11_numbered_5 : decode cX11_numbered 5 = .ok (.aload_n 0, 1) := by decide +kernel
theorem dX11_numbered_6 : decode cX11_numbered 6 = .ok (.getfield 9, 3) := by decide +kernel
theorem dX11_numbered_9 : decode cX11_numbered 9 = .ok (.if_icmp .ge 26, 3) := by decide +kernel
theorem dX11_numbered_12 : decode cX11_numbered 12 = .ok (.aload_n 1, 1) := by decide +kernel
theorem dX11_numbered_13 : decode cX11_numbered 13 = .ok (.iload_n 3, 1) := by decide +kernel
theorem dX11_numbered_14 : decode cX11_numbered 14 = .ok (.iaload, 1) := by decide +kernel
theorem dX11_numbered_15 : decode cX11_numbered 15 = .ok (.iload_n 3, 1) := by decide +kernel
theorem dX11_numbered_16 : decode cX11_numbered 16 = .ok (.if_icmp .ne 13, 3) := by decide +kernel
theorem dX11_numbered_19 : decode cX11_numbered 19 = .ok (.aload_n 0, 1) := by decide +kernel
theorem dX11_numbered_20 : decode cX11_numbered 20 = .ok (.getfield 29, 3) := by decide +kernel
theorem dX11_numbered_23 : decode cX11_numbered 23 = .ok (.iload_n 3, 1) := by decide +kernel
theorem dX11_numbered_24 : decode cX11_numbered 24 = .ok (.iload_n 2, 1) := by decide +kernel
theorem dX11_numbered_25 : decode cX11_numbered 25 = .ok (.iastore, 1) := by decide +kernel
theorem dX11_numbered_26 : decode cX11_numbered 26 = .ok (.iinc 2 1, 3) := by decide +kernel
theorem dX11_numbered_29 : decode cX11_numbered 29 = .ok (.iinc 3 1, 3) := by decide +kernel
theorem dX11_numbered_32 : decode cX11_numbered 32 = .ok (.goto (-28), 3) := by decide +kernel
theorem dX11_numbered_35 : decode cX11_numbered 35 = .ok (.iconst 0, 1) := by decide +kernel
theorem dX11_numbered_36 : decode cX11_numbered 36 = .ok (.istore_n 3, 1) := by decide +kernel
theorem dX11_numbered_37 : decode cX11_numbered 37 = .ok (.iload_n 3, 1) := by decide +kernel
theorem dX11_numbered_38 : decode cX11_numbered 38 = .ok (.aload_n 0, 1) := by decide +kernel
theorem dX11_numbered_39 : decode cX11_numbered 39 = .ok (.getfield 9, 3) := by decide +kernel
theorem dX11_numbered_42 : decode cX11_numbered 42 = .ok (.if_icmp .ge 20, 3) := by decide +kernel
theorem dX11_numbered_45 : decode cX11_numbered 45 = .ok (.aload_n 1, 1) := by decide +kernel
theorem dX11_numbered_46 : decode cX11_numbered 46 = .ok (.iload_n 3, 1) := by decide +kernel
theorem dX11_numbered_47 : decode cX11_numbered 47 = .ok (.aload_n 0, 1) := by decide +kernel
theorem dX11_numbered_48 : decode cX11_numbered 48 = .ok (.getfield 29, 3) := by decide +kernel
theorem dX11_numbered_51 : decode cX11_numbered 51 = .ok (.aload_n 1, 1) := by decide +kernel
theorem dX11_numbered_52 : decode cX11_numbered 52 = .ok (.iload_n 3, 1) := by decide +kernel
theorem dX11_numbered_53 : decode cX11_numbered 53 = .ok (.iaload, 1) := by decide +kernel
theorem dX11_numbered_54 : decode cX11_numbered 54 = .ok (.iaload, 1) := by decide +kernel
theorem dX11_numbered_55 : decode cX11_numbered 55 = .ok (.iastore, 1) := by decide +kernel
theorem dX11_numbered_56 : decode cX11_numbered 56 = .ok (.iinc 3 1, 3) := by decide +kernel
theorem dX11_numbered_59 : decode cX11_numbered 59 = .ok (.goto (-22), 3) := by decide +kernel
theorem dX11_numbered_62 : decode cX11_numbered 62 = .ok (.iload_n 2, 1) := by decide +kernel
theorem dX11_numbered_63 : decode cX11_numbered 63 = .ok (.ireturn, 1) := by decide +kernel
set_option maxRecDepth 20000 in
theorem ggX11_is_X11_in : GoodIn wsX11_is wsX11_in := goodIn_r _ [7] (by decide +kernel) (by decide +kernel)
set_option maxRecDepth 20000 in
theorem gX11_is_X11_in : GoodIn wsX11_is (va_wsS RX11 86 yX11_in wsX11_in) := goodIn_app (goodIn_of _ (by decide +kernel)) ggX11_is_X11_in
set_option maxRecDepth 20000 in
theorem ggX11_is_X11_isRack : GoodIn wsX11_is wsX11_isRack := goodIn_r _ [11, 12, 13, 14, 6, 15, 3, 16, 17, 18, 19, 20, 21, 22, 23, 24, 43, 44, 45, 46, 47, 48, 49, 50, 51, 52, 53, 54, 55, 56, 57, 58, 59, 60, 61, 62, 63, 64, 65, 66, 67, 68, 69, 70, 71] (by decide +kernel) (by decide +kernel)
set_option maxRecDepth 20000 in
theorem gX11_is_X11_isRack : GoodIn wsX11_is (wsV RX11 165 RX11 yX11_isRack wsX11_isRack) := goodIn_app (goodIn_of _ (by decide +kernel)) ggX11_is_X11_isRack
set_option maxRecDepth 20000 in
theorem ggX11_is_X11_by : GoodIn wsX11_is wsX11_by := goodIn_r _ [19, 20, 43, 44, 45, 46, 47, 48, 49, 50, 51, 52, 53, 54, 55, 56, 57, 58, 59, 60, 61, 62, 63, 64, 65, 66, 67, 68, 69, 70, 71] (by decide +kernel) (by decide +kernel)
set_option maxRecDepth 20000 in
theorem gX11_is_X11_by : GoodIn wsX11_is (wsV RX11 99 RX11 yX11_by wsX11_by) := goodIn_app (goodIn_of _ (by decide +kernel)) ggX11_is_X11_by
set_option maxRecDepth 20000 in
theorem ggX11_is_X11_sameRows : GoodIn wsX11_is wsX11_sameRows := goodIn_r _ [28, 3, 16, 17, 18, 6, 19, 20, 43, 44, 45, 46, 47, 48, 49, 50, 51, 52, 53, 54, 55, 56, 57, 58, 59, 60, 61, 62, 63, 64, 65, 66, 67, 68, 69, 70, 71] (by decide +kernel) (by decide +kernel)
set_option maxRecDepth 20000 in
theorem gX11_is_X11_sameRows : GoodIn wsX11_is (wsV RX11 169 RX11 yX11_sameRows wsX11_sameRows) := goodIn_app (goodIn_of _ (by decide +kernel)) ggX11_is_X11_sameRows
set_option maxRecDepth 20000 in
theorem ggX11_is_X11_findsOrbits : GoodIn wsX11_is wsX11_findsOrbits := goodIn_r _ [32, 3, 33, 34, 35, 36, 37, 16, 17, 18, 6, 19, 20, 38, 39, 40, 41, 42, 43, 44, 45, 46, 47, 48, 49, 50, 51, 52, 53, 54, 55, 56, 57, 58, 59, 60, 61, 62, 63, 64, 65, 66, 67, 68, 69, 70, 71] (by decide +kernel) (by decide +kernel)
set_option maxRecDepth 20000 in
theorem gX11_is_X11_findsOrbits : GoodIn wsX11_is (wsV RX11 173 RX11 yX11_findsOrbits wsX11_findsOrbits) := goodIn_app (goodIn_of _ (by decide +kernel)) ggX11_is_X11_findsOrbits
theorem dX11_is_0 : decode cX11_is 0 = .ok (.aload_n 0, 1) := by decide +kernel
theorem dX11_is_1 : decode cX11_is 1 = .ok (.iconst 0, 1) := by decide +kernel
theorem dX11_is_2 : decode cX11_is 2 = .ok (.putfield 83, 3) := by decide +kernel
theorem dX11_is_5 : decode cX11_is 5 = .ok (.iload_n 1, 1) := by decide +kernel
theorem dX11_is_6 : decode cX11_is 6 = .ok (.i2l, 1) := by decide +kernel
theorem dX11_is_7 : decode cX11_is 7 = .ok (.lconst 0, 1) := by decide +kernel
theorem dX11_is_8 : decode cX11_is 8 = .ok (.ldc2_w 163, 3) := by decide +kernel
theorem dX11_is_11 : decode cX11_is 11 = .ok (.invokestatic 86, 3) := by decide +kernel
theorem dX11_is_14 : decode cX11_is 14 = .ok (.ifCond .eq 10, 3) := by decide +kernel
theorem dX11_is_17 : decode cX11_is 17 = .ok (.aload_n 0, 1) := by decide +kernel
theorem dX11_is_18 : decode cX11_is 18 = .ok (.invokevirtual 165, 3) := by decide +kernel
theorem dX11_is_21 : decode cX11_is 21 = .ok (.ifCond .ne 5, 3) := by decide +kernel
theorem dX11_is_24 : decode cX11_is 24 = .ok (.iconst (-1), 1) := by decide +kernel
theorem dX11_is_25 : decode cX11_is 25 = .ok (.ireturn, 1) := by decide +kernel
theorem dX11_is_26 : decode cX11_is 26 = .ok (.iconst 1, 1) := by decide +kernel
theorem dX11_is_27 : decode cX11_is 27 = .ok (.istore_n 2, 1) := by decide +kernel
theorem dX11_is_28 : decode cX11_is 28 = .ok (.iconst 1, 1) := by decide +kernel
theorem dX11_is_29 : decode cX11_is 29 = .ok (.istore_n 3, 1) := by decide +kernel
theorem dX11_is_30 : decode cX11_is 30 = .ok (.iconst 1, 1) := by decide +kernel
theorem dX11_is_31 : decode cX11_is 31 = .ok (.istore 4, 2) := by decide +kernel
theorem dX11_is_33 : decode cX11_is 33 = .ok (.iconst 1, 1) := by decide +kernel
theorem dX11_is_34 : decode cX11_is 34 = .ok (.istore 5, 2) := by decide +kernel
theorem dX11_is_36 : decode cX11_is 36 = .ok (.iconst 0, 1) := by decide +kernel
theorem dX11_is_37 : decode cX11_is 37 = .ok (.istore 6, 2) := by decide +kernel
theorem dX11_is_39 : decode cX11_is 39 = .ok (.iload 6, 2) := by decide +kernel
theorem dX11_is_41 : decode cX11_is 41 = .ok (.aload_n 0, 1) := by decide +kernel
theorem dX11_is_42 : decode cX11_is 42 = .ok (.getfield 9, 3) := by decide +kernel
theorem dX11_is_45 : decode cX11_is 45 = .ok (.if_icmp .ge 152, 3) := by decide +kernel
theorem dX11_is_48 : decode cX11_is 48 = .ok (.iload_n 2, 1) := by decide +kernel
theorem dX11_is_49 : decode cX11_is 49 = .ok (.ifCond .eq 20, 3) := by decide +kernel
theorem dX11_is_52 : decode cX11_is 52 = .ok (.aload_n 0, 1) := by decide +kernel
theorem dX11_is_53 : decode cX11_is 53 = .ok (.iload 6, 2) := by decide +kernel
theorem dX11_is_55 : decode cX11_is 55 = .ok (.iload 6, 2) := by decide +kernel
theorem dX11_is_57 : decode cX11_is 57 = .ok (.invokevirtual 99, 3) := by decide +kernel
theorem dX11_is_60 : decode cX11_is 60 = .ok (.iload 6, 2) := by decide +kernel
theorem dX11_is_62 : decode cX11_is 62 = .ok (.if_icmp .ne 7, 3) := by decide +kernel
theorem dX11_is_65 : decode cX11_is 65 = .ok (.iconst 1, 1) := by decide +kernel
theorem dX11_is_66 : decode cX11_is 66 = .ok (.goto 4, 3) := by decide +kernel
theorem dX11_is_69 : decode cX11_is 69 = .ok (.iconst 0, 1) := by decide +kernel
theorem dX11_is_70 : decode cX11_is 70 = .ok (.istore_n 2, 1) := by decide +kernel
theorem dX11_is_71 : decode cX11_is 71 = .ok (.iconst 0, 1) := by decide +kernel
theorem dX11_is_72 : decode cX11_is 72 = .ok (.istore 7, 2) := by decide +kernel
theorem dX11_is_74 : decode cX11_is 74 = .ok (.iconst 0, 1) := by decide +kernel
theorem dX11_is_75 : decode cX11_is 75 = .ok (.istore 8, 2) := by decide +kernel
theorem dX11_is_77 : decode cX11_is 77 = .ok (.iload 8, 2) := by decide +kernel
theorem dX11_is_79 : decode cX11_is 79 = .ok (.aload_n 0, 1) := by decide +kernel
theorem dX11_is_80 : decode cX11_is 80 = .ok (.getfield 9, 3) := by decide +kernel
theorem dX11_is_83 : decode cX11_is 83 = .ok (.if_icmp .ge 83, 3) := by decide +kernel
theorem dX11_is_86 : decode cX11_is 86 = .ok (.iload_n 3, 1) := by decide +kernel
theorem dX11_is_87 : decode cX11_is 87 = .ok (.ifCond .eq 26, 3) := by decide +kernel
theorem dX11_is_90 : decode cX11_is 90 = .ok (.aload_n 0, 1) := by decide +kernel
theorem dX11_is_91 : decode cX11_is 91 = .ok (.iload 6, 2) := by decide +kernel
theorem dX11_is_93 : decode cX11_is 93 = .ok (.aload_n 0, 1) := by decide +kernel
theorem dX11_is_94 : decode cX11_is 94 = .ok (.iload 6, 2) := by decide +kernel
theorem dX11_is_96 : decode cX11_is 96 = .ok (.iload 8, 2) := by decide +kernel
theorem dX11_is_98 : decode cX11_is 98 = .ok (.invokevirtual 99, 3) := by decide +kernel
theorem dX11_is_101 : decode cX11_is 101 = .ok (.invokevirtual 99, 3) := by decide +kernel
theorem dX11_is_104 : decode cX11_is 104 = .ok (.iload 8, 2) := by decide +kernel
theorem dX11_is_106 : decode cX11_is 106 = .ok (.if_icmp .ne 7, 3) := by decide +kernel
theorem dX11_is_109 : decode cX11_is 109 = .ok (.iconst 1, 1) := by decide +kernel
theorem dX11_is_110 : decode cX11_is 110 = .ok (.goto 4, 3) := by decide +kernel
theorem dX11_is_113 : decode cX11_is 113 = .ok (.iconst 0, 1) := by decide +kernel
theorem dX11_is_114 : decode cX11_is 114 = .ok (.istore_n 3, 1) := by decide +kernel
theorem dX11_is_115 : decode cX11_is 115 = .ok (.iload 7, 2) := by decide +kernel
theorem dX11_is_117 : decode cX11_is 117 = .ok (.iconst 1, 1) := by decide +kernel
theorem dX11_is_118 : decode cX11_is 118 = .ok (.aload_n 0, 1) := by decide +kernel
theorem dX11_is_119 : decode cX11_is 119 = .ok (.iload 8, 2) := by decide +kernel
theorem dX11_is_121 : decode cX11_is 121 = .ok (.iload 6, 2) := by decide +kernel
theorem dX11_is_123 : decode cX11_is 123 = .ok (.invokevirtual 99, 3) := by decide +kernel
theorem dX11_is_126 : decode cX11_is 126 = .ok (.ishl, 1) := by decide +kernel
theorem dX11_is_127 : decode cX11_is 127 = .ok (.ior, 1) := by decide +kernel
theorem dX11_is_128 : decode cX11_is 128 = .ok (.istore 7, 2) := by decide +kernel
theorem dX11_is_130 : decode cX11_is 130 = .ok (.iload 4, 2) := by decide +kernel
theorem dX11_is_132 : decode cX11_is 132 = .ok (.ifCond .eq 25, 3) := by decide +kernel
theorem dX11_is_135 : decode cX11_is 135 = .ok (.iload 8, 2) := by decide +kernel
theorem dX11_is_137 : decode cX11_is 137 = .ok (.iload 6, 2) := by decide +kernel
theorem dX11_is_139 : decode cX11_is 139 = .ok (.if_icmp .le 14, 3) := by decide +kernel
theorem dX11_is_142 : decode cX11_is 142 = .ok (.aload_n 0, 1) := by decide +kernel
theorem dX11_is_143 : decode cX11_is 143 = .ok (.iload 6, 2) := by decide +kernel
theorem dX11_is_145 : decode cX11_is 145 = .ok (.iload 8, 2) := by decide +kernel
theorem dX11_is_147 : decode cX11_is 147 = .ok (.invokevirtual 169, 3) := by decide +kernel
theorem dX11_is_150 : decode cX11_is 150 = .ok (.ifCond .ne 7, 3) := by decide +kernel
theorem dX11_is_153 : decode cX11_is 153 = .ok (.iconst 1, 1) := by decide +kernel
theorem dX11_is_154 : decode cX11_is 154 = .ok (.goto 4, 3) := by decide +kernel
theorem dX11_is_157 : decode cX11_is 157 = .ok (.iconst 0, 1) := by decide +kernel
theorem dX11_is_158 : decode cX11_is 158 = .ok (.istore 4, 2) := by decide +kernel
theorem dX11_is_160 : decode cX11_is 160 = .ok (.iinc 8 1, 3) := by decide +kernel
theorem dX11_is_163 : decode cX11_is 163 = .ok (.goto (-86), 3) := by decide +kernel
theorem dX11_is_166 : decode cX11_is 166 = .ok (.iload 5, 2) := by decide +kernel
theorem dX11_is_168 : decode cX11_is 168 = .ok (.ifCond .eq 20, 3) := by decide +kernel
theorem dX11_is_171 : decode cX11_is 171 = .ok (.iload 7, 2) := by decide +kernel
theorem dX11_is_173 : decode cX11_is 173 = .ok (.iconst 1, 1) := by decide +kernel
theorem dX11_is_174 : decode cX11_is 174 = .ok (.aload_n 0, 1) := by decide +kernel
theorem dX11_is_175 : decode cX11_is 175 = .ok (.getfield 9, 3) := by decide +kernel
theorem dX11_is_178 : decode cX11_is 178 = .ok (.ishl, 1) := by decide +kernel
theorem dX11_is_179 : decode cX11_is 179 = .ok (.iconst 1, 1) := by decide +kernel
theorem dX11_is_180 : decode cX11_is 180 = .ok (.isub, 1) := by decide +kernel
theorem dX11_is_181 : decode cX11_is 181 = .ok (.if_icmp .ne 7, 3) := by decide +kernel
theorem dX11_is_184 : decode cX11_is 184 = .ok (.iconst 1, 1) := by decide +kernel
theorem dX11_is_185 : decode cX11_is 185 = .ok (.goto 4, 3) := by decide +kernel
theorem dX11_is_188 : decode cX11_is 188 = .ok (.iconst 0, 1) := by decide +kernel
theorem dX11_is_189 : decode cX11_is 189 = .ok (.istore 5, 2) := by decide +kernel
theorem dX11_is_191 : decode cX11_is 191 = .ok (.iinc 6 1, 3) := by decide +kernel
theorem dX11_is_194 : decode cX11_is 194 = .ok (.goto (-155), 3) := by decide +kernel
theorem dX11_is_197 : decode cX11_is 197 = .ok (.aload_n 0, 1) := by decide +kernel
theorem dX11_is_198 : decode cX11_is 198 = .ok (.invokevirtual 173, 3) := by decide +kernel
theorem dX11_is_201 : decode cX11_is 201 = .ok (.iconst 1, 1) := by decide +kernel
theorem dX11_is_202 : decode cX11_is 202 = .ok (.if_icmp .ne 7, 3) := by decide +kernel
theorem dX11_is_205 : decode cX11_is 205 = .ok (.iconst 1, 1) := by decide +kernel
theorem dX11_is_206 : decode cX11_is 206 = .ok (.goto 4, 3) := by decide +kernel
theorem dX11_is_209 : decode cX11_is 209 = .ok (.iconst 0, 1) := by decide +kernel
theorem dX11_is_210 : decode cX11_is 210 = .ok (.istore 6, 2) := by decide +kernel
theorem dX11_is_212 : decode cX11_is 212 = .ok (.iload_n 1, 1) := by decide +kernel
theorem dX11_is_213 : decode cX11_is 213 = .ok (.ifCond .ne 7, 3) := by decide +kernel
theorem dX11_is_216 : decode cX11_is 216 = .ok (.iload_n 2, 1) := by decide +kernel
theorem dX11_is_217 : decode cX11_is 217 = .ok (.goto 34, 3) := by decide +kernel
theorem dX11_is_220 : decode cX11_is 220 = .ok (.iload_n 1, 1) := by decide +kernel
theorem dX11_is_221 : decode cX11_is 221 = .ok (.iconst 1, 1) := by decide +kernel
theorem dX11_is_222 : decode cX11_is 222 = .ok (.if_icmp .ne 7, 3) := by decide +kernel
theorem dX11_is_225 : decode cX11_is 225 = .ok (.iload_n 3, 1) := by decide +kernel
theorem dX11_is_226 : decode cX11_is 226 = .ok (.goto 25, 3) := by decide +kernel
theorem dX11_is_229 : decode cX11_is 229 = .ok (.iload_n 1, 1) := by decide +kernel
theorem dX11_is_230 : decode cX11_is 230 = .ok (.iconst 2, 1) := by decide +kernel
theorem dX11_is_231 : decode cX11_is 231 = .ok (.if_icmp .ne 8, 3) := by decide +kernel
theorem dX11_is_234 : decode cX11_is 234 = .ok (.iload 6, 2) := by decide +kernel
theorem dX11_is_236 : decode cX11_is 236 = .ok (.goto 15, 3) := by decide +kernel
theorem dX11_is_239 : decode cX11_is 239 = .ok (.iload_n 1, 1) := by decide +kernel
theorem dX11_is_240 : decode cX11_is 240 = .ok (.iconst 3, 1) := by decide +kernel
theorem dX11_is_241 : decode cX11_is 241 = .ok (.if_icmp .ne 8, 3) := by decide +kernel
theorem dX11_is_244 : decode cX11_is 244 = .ok (.iload 4, 2) := by decide +kernel
theorem dX11_is_246 : decode cX11_is 246 = .ok (.goto 5, 3) := by decide +kernel
theorem dX11_is_249 : decode cX11_is 249 = .ok (.iload 5, 2) := by decide +kernel
theorem dX11_is_251 : decode cX11_is 251 = .ok (.istore 7, 2) := by decide +kernel
theorem dX11_is_253 : decode cX11_is 253 = .ok (.iload 7, 2) := by decide +kernel
theorem dX11_is_255 : decode cX11_is 255 = .ok (.ifCond .eq 7, 3) := by decide +kernel
theorem dX11_is_258 : decode cX11_is 258 = .ok (.iconst 1, 1) := by decide +kernel
theorem dX11_is_259 : decode cX11_is 259 = .ok (.goto 4, 3) := by decide +kernel
theorem dX11_is_262 : decode cX11_is 262 = .ok (.iconst 0, 1) := by decide +kernel
theorem dX11_is_263 : decode cX11_is 263 = .ok (.ireturn, 1) := by decide +kernel
set_option maxRecDepth 20000 in
theorem ggX11_sameRows_X11_by : GoodIn wsX11_sameRows wsX11_by := goodIn_r _ [6, 7, 8, 9, 10, 11, 12, 13, 14, 15, 16, 17, 18, 19, 20, 21, 22, 23, 24, 25, 26, 27, 28, 29, 30, 31, 32, 33, 34, 35, 36] (by decide +kernel) (by decide +kernel)
set_option maxRecDepth 20000 in
theorem gX11_sameRows_X11_by : GoodIn wsX11_sameRows (wsV RX11 99 RX11 yX11_by wsX11_by) := goodIn_app (goodIn_of _ (by decide +kernel)) ggX11_sameRows_X11_by
theorem dX11_sameRows_0 : decode cX11_sameRows 0 = .ok (.iconst 1, 1) := by decide +kernel
theorem dX11_sameRows_1 : decode cX11_sameRows 1 = .ok (.istore_n 3, 1) := by decide +kernel
theorem dX11_sameRows_2 : decode cX11_sameRows 2 = .ok (.iconst 0, 1) := by decide +kernel
theorem dX11_sameRows_3 : decode cX11_sameRows 3 = .ok (.istore 4, 2) := by decide +kernel
theorem dX11_sameRows_5 : decode cX11_sameRows 5 = .ok (.iload 4, 2) := by decide +kernel
theorem dX11_sameRows_7 : decode cX11_sameRows 7 = .ok (.aload_n 0, 1) := by decide +kernel
theorem dX11_sameRows_8 : decode cX11_sameRows 8 = .ok (.getfield 9, 3) := by decide +kernel
theorem dX11_sameRows_11 : decode cX11_sameRows 11 = .ok (.if_icmp .ge 36, 3) := by decide +kernel
theorem dX11_sameRows_14 : decode cX11_sameRows 14 = .ok (.iload_n 3, 1) := by decide +kernel
theorem dX11_sameRows_15 : decode cX11_sameRows 15 = .ok (.ifCond .eq 24, 3) := by decide +kernel
theorem dX11_sameRows_18 : decode cX11_sameRows 18 = .ok (.aload_n 0, 1) := by decide +kernel
theorem dX11_sameRows_19 : decode cX11_sameRows 19 = .ok (.iload_n 1, 1) := by decide +kernel
theorem dX11_sameRows_20 : decode cX11_sameRows 20 = .ok (.iload 4, 2) := by decide +kernel
theorem dX11_sameRows_22 : decode cX11_sameRows 22 = .ok (.invokevirtual 99, 3) := by decide +kernel
theorem dX11_sameRows_25 : decode cX11_sameRows 25 = .ok (.aload_n 0, 1) := by decide +kernel
theorem dX11_sameRows_26 : decode cX11_sameRows 26 = .ok (.iload_n 2, 1) := by decide +kernel
theorem dX11_sameRows_27 : decode cX11_sameRows 27 = .ok (.iload 4, 2) := by decide +kernel
theorem dX11_sameRows_29 : decode cX11_sameRows 29 = .ok (.invokevirtual 99, 3) := by decide +kernel
theorem dX11_sameRows_32 : decode cX11_sameRows 32 = .ok (.if_icmp .ne 7, 3) := by decide +kernel
theorem dX11_sameRows_35 : decode cX11_sameRows 35 = .ok (.iconst 1, 1) := by decide +kernel
theorem dX11_sameRows_36 : decode cX11_sameRows 36 = .ok (.goto 4, 3) := by decide +kernel
theorem dX11_sameRows_39 : decode cX11_sameRows 39 = .ok (.iconst 0, 1) := by decide +kernel
theorem dX11_sameRows_40 : decode cX11_sameRows 40 = .ok (.istore_n 3, 1) := by decide +kernel
theorem dX11_sameRows_41 : decode cX11_sameRows 41 = .ok (.iinc 4 1, 3) := by decide +kernel
theorem dX11_sameRows_44 : decode cX11_sameRows 44 = .ok (.goto (-39), 3) := by decide +kernel
theorem dX11_sameRows_47 : decode cX11_sameRows 47 = .ok (.iload_n 3, 1) := by decide +kernel
theorem dX11_sameRows_48 : decode cX11_sameRows 48 = .ok (.ireturn, 1) := by decide +kernel
set_option maxRecDepth 20000 in
theorem ggX11_orbits_X11_isRack : GoodIn wsX11_orbits wsX11_isRack := goodIn_r _ [10, 11, 12, 13, 9, 14, 2, 15, 16, 17, 18, 19, 20, 21, 22, 23, 37, 38, 39, 40, 41, 42, 43, 44, 45, 46, 47, 48, 49, 50, 51, 52, 53, 54, 55, 56, 57, 58, 59, 60, 61, 62, 63, 64, 65] (by decide +kernel) (by decide +kernel)
set_option maxRecDepth 20000 in
theorem gX11_orbits_X11_isRack : GoodIn wsX11_orbits (wsV RX11 165 RX11 yX11_isRack wsX11_isRack) := goodIn_app (goodIn_of _ (by decide +kernel)) ggX11_orbits_X11_isRack
set_option maxRecDepth 20000 in
theorem ggX11_orbits_X11_findsOrbits : GoodIn wsX11_orbits wsX11_findsOrbits := goodIn_r _ [27, 2, 5, 28, 29, 30, 31, 15, 16, 17, 9, 18, 19, 32, 33, 34, 35, 36, 37, 38, 39, 40, 41, 42, 43, 44, 45, 46, 47, 48, 49, 50, 51, 52, 53, 54, 55, 56, 57, 58, 59, 60, 61, 62, 63, 64, 65] (by decide +kernel) (by decide +kernel)
set_option maxRecDepth 20000 in
theorem gX11_orbits_X11_findsOrbits : GoodIn wsX11_orbits (wsV RX11 173 RX11 yX11_findsOrbits wsX11_findsOrbits) := goodIn_app (goodIn_of _ (by decide +kernel)) ggX11_orbits_X11_findsOrbits
theorem dX11_orbits_0 : decode cX11_orbits 0 = .ok (.aload_n 0, 1) := by decide +kernel
theorem dX11_orbits_1 : decode cX11_orbits 1 = .ok (.iconst 0, 1) := by decide +kernel
theorem dX11_orbits_2 : decode cX11_orbits 2 = .ok (.putfield 83, 3) := by decide +kernel
theorem dX11_orbits_5 : decode cX11_orbits 5 = .ok (.aload_n 0, 1) := by decide +kernel
theorem dX11_orbits_6 : decode cX11_orbits 6 = .ok (.invokevirtual 165, 3) := by decide +kernel
theorem dX11_orbits_9 : decode cX11_orbits 9 = .ok (.ifCond .ne 5, 3) := by decide +kernel
theorem dX11_orbits_12 : decode cX11_orbits 12 = .ok (.iconst (-1), 1) := by decide +kernel
theorem dX11_orbits_13 : decode cX11_orbits 13 = .ok (.ireturn, 1) := by decide +kernel
theorem dX11_orbits_14 : decode cX11_orbits 14 = .ok (.aload_n 0, 1) := by decide +kernel
theorem dX11_orbits_15 : decode cX11_orbits 15 = .ok (.invokevirtual 173, 3) := by decide +kernel
theorem dX11_orbits_18 : decode cX11_orbits 18 = .ok (.istore_n 1, 1) := by decide +kernel
theorem dX11_orbits_19 : decode cX11_orbits 19 = .ok (.aload_n 0, 1) := by decide +kernel
theorem dX11_orbits_20 : decode cX11_orbits 20 = .ok (.aload_n 0, 1) := by decide +kernel
theorem dX11_orbits_21 : decode cX11_orbits 21 = .ok (.getfield 9, 3) := by decide +kernel
theorem dX11_orbits_24 : decode cX11_orbits 24 = .ok (.putfield 144, 3) := by decide +kernel
theorem dX11_orbits_27 : decode cX11_orbits 27 = .ok (.iconst 0, 1) := by decide +kernel
theorem dX11_orbits_28 : decode cX11_orbits 28 = .ok (.istore_n 2, 1) := by decide +kernel
theorem dX11_orbits_29 : decode cX11_orbits 29 = .ok (.iload_n 2, 1) := by decide +kernel
theorem dX11_orbits_30 : decode cX11_orbits 30 = .ok (.aload_n 0, 1) := by decide +kernel
theorem dX11_orbits_31 : decode cX11_orbits 31 = .ok (.getfield 9, 3) := by decide +kernel
theorem dX11_orbits_34 : decode cX11_orbits 34 = .ok (.if_icmp .ge 21, 3) := by decide +kernel
theorem dX11_orbits_37 : decode cX11_orbits 37 = .ok (.aload_n 0, 1) := by decide +kernel
theorem dX11_orbits_38 : decode cX11_orbits 38 = .ok (.getfield 41, 3) := by decide +kernel
theorem dX11_orbits_41 : decode cX11_orbits 41 = .ok (.iload_n 2, 1) := by decide +kernel
theorem dX11_orbits_42 : decode cX11_orbits 42 = .ok (.aload_n 0, 1) := by decide +kernel
theorem dX11_orbits_43 : decode cX11_orbits 43 = .ok (.getfield 44, 3) := by decide +kernel
theorem dX11_orbits_46 : decode cX11_orbits 46 = .ok (.iload_n 2, 1) := by decide +kernel
theorem dX11_orbits_47 : decode cX11_orbits 47 = .ok (.iaload, 1) := by decide +kernel
theorem dX11_orbits_48 : decode cX11_orbits 48 = .ok (.iastore, 1) := by decide +kernel
theorem dX11_orbits_49 : decode cX11_orbits 49 = .ok (.iinc 2 1, 3) := by decide +kernel
theorem dX11_orbits_52 : decode cX11_orbits 52 = .ok (.goto (-23), 3) := by decide +kernel
theorem dX11_orbits_55 : decode cX11_orbits 55 = .ok (.iload_n 1, 1) := by decide +kernel
theorem dX11_orbits_56 : decode cX11_orbits 56 = .ok (.ireturn, 1) := by decide +kernel
set_option maxRecDepth 20000 in
theorem ggX11_moves_X11_isRack : GoodIn wsX11_moves wsX11_isRack := goodIn_r _ [11, 12, 13, 14, 10, 15, 2, 16, 17, 18, 19, 20, 21, 22, 23, 24, 34, 35, 36, 37, 38, 39, 40, 41, 42, 43, 44, 45, 46, 47, 48, 49, 50, 51, 52, 53, 54, 55, 56, 57, 58, 59, 60, 61, 62] (by decide +kernel) (by decide +kernel)
set_option maxRecDepth 20000 in
theorem gX11_moves_X11_isRack : GoodIn wsX11_moves (wsV RX11 165 RX11 yX11_isRack wsX11_isRack) := goodIn_app (goodIn_of _ (by decide +kernel)) ggX11_moves_X11_isRack
set_option maxRecDepth 20000 in
theorem ggX11_moves_X11_factorial : GoodIn wsX11_moves wsX11_factorial := goodIn_r _ [27, 25, 26, 10] (by decide +kernel) (by decide +kernel)
set_option maxRecDepth 20000 in
theorem gX11_moves_X11_factorial : GoodIn wsX11_moves (va_wsS RX11 119 yX11_factorial wsX11_factorial) := goodIn_app (goodIn_of _ (by decide +kernel)) ggX11_moves_X11_factorial
set_option maxRecDepth 20000 in
theorem ggX11_moves_X11_permutation : GoodIn wsX11_moves wsX11_permutation := goodIn_r _ [30, 25, 26, 10, 27] (by decide +kernel) (by decide +kernel)
set_option maxRecDepth 20000 in
theorem gX11_moves_X11_permutation : GoodIn wsX11_moves (va_wsS RX11 123 yX11_permutation wsX11_permutation) := goodIn_app (goodIn_of _ (by decide +kernel)) ggX11_moves_X11_permutation
set_option maxRecDepth 20000 in
theorem ggX11_moves_X11_by : GoodIn wsX11_moves wsX11_by := goodIn_r _ [19, 20, 34, 35, 36, 37, 38, 39, 40, 41, 42, 43, 44, 45, 46, 47, 48, 49, 50, 51, 52, 53, 54, 55, 56, 57, 58, 59, 60, 61, 62] (by decide +kernel) (by decide +kernel)
set_option maxRecDepth 20000 in
theorem gX11_moves_X11_by : GoodIn wsX11_moves (wsV RX11 99 RX11 yX11_by wsX11_by) := goodIn_app (goodIn_of _ (by decide +kernel)) ggX11_moves_X11_by
set_option maxRecDepth 20000 in
theorem ggX11_moves_X11_numberOf : GoodIn wsX11_moves wsX11_numberOf := goodIn_r _ [33, 25, 26, 10, 27] (by decide +kernel) (by decide +kernel)
set_option maxRecDepth 20000 in
theorem gX11_moves_X11_numberOf : GoodIn wsX11_moves (va_wsS RX11 127 yX11_numberOf wsX11_numberOf) := goodIn_app (goodIn_of _ (by decide +kernel)) ggX11_moves_X11_numberOf
theorem dX11_moves_0 : decode cX11_moves 0 = .ok (.aload_n 0, 1) := by decide +kernel
theorem dX11_moves_1 : decode cX11_moves 1 = .ok (.iconst 0, 1) := by decide +kernel
theorem dX11_moves_2 : decode cX11_moves 2 = .ok (.putfield 83, 3) := by decide +kernel
theorem dX11_moves_5 : decode cX11_moves 5 = .ok (.aload_n 0, 1) := by decide +kernel
theorem dX11_moves_6 : decode cX11_moves 6 = .ok (.invokevirtual 165, 3) := by decide +kernel
theorem dX11_moves_9 : decode cX11_moves 9 = .ok (.ifCond .ne 5, 3) := by decide +kernel
theorem dX11_moves_12 : decode cX11_moves 12 = .ok (.iconst (-1), 1) := by decide +kernel
theorem dX11_moves_13 : decode cX11_moves 13 = .ok (.ireturn, 1) := by decide +kernel
theorem dX11_moves_14 : decode cX11_moves 14 = .ok (.aload_n 0, 1) := by decide +kernel
theorem dX11_moves_15 : decode cX11_moves 15 = .ok (.getfield 9, 3) := by decide +kernel
theorem dX11_moves_18 : decode cX11_moves 18 = .ok (.invokestatic 119, 3) := by decide +kernel
theorem dX11_moves_21 : decode cX11_moves 21 = .ok (.istore_n 1, 1) := by decide +kernel
theorem dX11_moves_22 : decode cX11_moves 22 = .ok (.iconst 0, 1) := by decide +kernel
theorem dX11_moves_23 : decode cX11_moves 23 = .ok (.istore_n 2, 1) := by decide +kernel
theorem dX11_moves_24 : decode cX11_moves 24 = .ok (.iload_n 2, 1) := by decide +kernel
theorem dX11_moves_25 : decode cX11_moves 25 = .ok (.iload_n 1, 1) := by decide +kernel
theorem dX11_moves_26 : decode cX11_moves 26 = .ok (.if_icmp .ge 16, 3) := by decide +kernel
theorem dX11_moves_29 : decode cX11_moves 29 = .ok (.aload_n 0, 1) := by decide +kernel
theorem dX11_moves_30 : decode cX11_moves 30 = .ok (.getfield 48, 3) := by decide +kernel
theorem dX11_moves_33 : decode cX11_moves 33 = .ok (.iload_n 2, 1) := by decide +kernel
theorem dX11_moves_34 : decode cX11_moves 34 = .ok (.iconst 0, 1) := by decide +kernel
theorem dX11_moves_35 : decode cX11_moves 35 = .ok (.bastore, 1) := by decide +kernel
theorem dX11_moves_36 : decode cX11_moves 36 = .ok (.iinc 2 1, 3) := by decide +kernel
theorem dX11_moves_39 : decode cX11_moves 39 = .ok (.goto (-15), 3) := by decide +kernel
theorem dX11_moves_42 : decode cX11_moves 42 = .ok (.aload_n 0, 1) := by decide +kernel
theorem dX11_moves_43 : decode cX11_moves 43 = .ok (.getfield 48, 3) := by decide +kernel
theorem dX11_moves_46 : decode cX11_moves 46 = .ok (.iconst 0, 1) := by decide +kernel
theorem dX11_moves_47 : decode cX11_moves 47 = .ok (.iconst 1, 1) := by decide +kernel
theorem dX11_moves_48 : decode cX11_moves 48 = .ok (.bastore, 1) := by decide +kernel
theorem dX11_moves_49 : decode cX11_moves 49 = .ok (.aload_n 0, 1) := by decide +kernel
theorem dX11_moves_50 : decode cX11_moves 50 = .ok (.getfield 52, 3) := by decide +kernel
theorem dX11_moves_53 : decode cX11_moves 53 = .ok (.iconst 0, 1) := by decide +kernel
theorem dX11_moves_54 : decode cX11_moves 54 = .ok (.iconst 0, 1) := by decide +kernel
theorem dX11_moves_55 : decode cX11_moves 55 = .ok (.iastore, 1) := by decide +kernel
theorem dX11_moves_56 : decode cX11_moves 56 = .ok (.iconst 1, 1) := by decide +kernel
theorem dX11_moves_57 : decode cX11_moves 57 = .ok (.istore_n 2, 1) := by decide +kernel
theorem dX11_moves_58 : decode cX11_moves 58 = .ok (.iconst 0, 1) := by decide +kernel
theorem dX11_moves_59 : decode cX11_moves 59 = .ok (.istore_n 3, 1) := by decide +kernel
theorem dX11_moves_60 : decode cX11_moves 60 = .ok (.iload_n 3, 1) := by decide +kernel
theorem dX11_moves_61 : decode cX11_moves 61 = .ok (.iload_n 2, 1) := by decide +kernel
theorem dX11_moves_62 : decode cX11_moves 62 = .ok (.if_icmp .ge 124, 3) := by decide +kernel
theorem dX11_moves_65 : decode cX11_moves 65 = .ok (.aload_n 0, 1) := by decide +kernel
theorem dX11_moves_66 : decode cX11_moves 66 = .ok (.getfield 9, 3) := by decide +kernel
theorem dX11_moves_69 : decode cX11_moves 69 = .ok (.aload_n 0, 1) := by decide +kernel
theorem dX11_moves_70 : decode cX11_moves 70 = .ok (.getfield 52, 3) := by decide +kernel
theorem dX11_moves_73 : decode cX11_moves 73 = .ok (.iload_n 3, 1) := by decide +kernel
theorem dX11_moves_74 : decode cX11_moves 74 = .ok (.iaload, 1) := by decide +kernel
theorem dX11_moves_75 : decode cX11_moves 75 = .ok (.aload_n 0, 1) := by decide +kernel
theorem dX11_moves_76 : decode cX11_moves 76 = .ok (.getfield 23, 3) := by decide +kernel
theorem dX11_moves_79 : decode cX11_moves 79 = .ok (.invokestatic 123, 3) := by decide +kernel
theorem dX11_moves_82 : decode cX11_moves 82 = .ok (.iconst 0, 1) := by decide +kernel
theorem dX11_moves_83 : decode cX11_moves 83 = .ok (.istore 4, 2) := by decide +kernel
theorem dX11_moves_85 : decode cX11_moves 85 = .ok (.iload 4, 2) := by decide +kernel
theorem dX11_moves_87 : decode cX11_moves 87 = .ok (.aload_n 0, 1) := by decide +kernel
theorem dX11_moves_88 : decode cX11_moves 88 = .ok (.getfield 9, 3) := by decide +kernel
theorem dX11_moves_91 : decode cX11_moves 91 = .ok (.if_icmp .ge 89, 3) := by decide +kernel
theorem dX11_moves_94 : decode cX11_moves 94 = .ok (.iconst 0, 1) := by decide +kernel
theorem dX11_moves_95 : decode cX11_moves 95 = .ok (.istore 5, 2) := by decide +kernel
theorem dX11_moves_97 : decode cX11_moves 97 = .ok (.iload 5, 2) := by decide +kernel
theorem dX11_moves_99 : decode cX11_moves 99 = .ok (.aload_n 0, 1) := by decide +kernel
theorem dX11_moves_100 : decode cX11_moves 100 = .ok (.getfield 9, 3) := by decide +kernel
theorem dX11_moves_103 : decode cX11_moves 103 = .ok (.if_icmp .ge 29, 3) := by decide +kernel
theorem dX11_moves_106 : decode cX11_moves 106 = .ok (.aload_n 0, 1) := by decide +kernel
theorem dX11_moves_107 : decode cX11_moves 107 = .ok (.getfield 26, 3) := by decide +kernel
theorem dX11_moves_110 : decode cX11_moves 110 = .ok (.iload 5, 2) := by decide +kernel
theorem dX11_moves_112 : decode cX11_moves 112 = .ok (.aload_n 0, 1) := by decide +kernel
theorem dX11_moves_113 : decode cX11_moves 113 = .ok (.iload 4, 2) := by decide +kernel
theorem dX11_moves_115 : decode cX11_moves 115 = .ok (.aload_n 0, 1) := by decide +kernel
theorem dX11_moves_116 : decode cX11_moves 116 = .ok (.getfield 23, 3) := by decide +kernel
theorem dX11_moves_119 : decode cX11_moves 119 = .ok (.iload 5, 2) := by decide +kernel
theorem dX11_moves_121 : decode cX11_moves 121 = .ok (.iaload, 1) := by decide +kernel
theorem dX11_moves_122 : decode cX11_moves 122 = .ok (.invokevirtual 99, 3) := by decide +kernel
theorem dX11_moves_125 : decode cX11_moves 125 = .ok (.iastore, 1) := by decide +kernel
theorem dX11_moves_126 : decode cX11_moves 126 = .ok (.iinc 5 1, 3) := by decide +kernel
theorem dX11_moves_129 : decode cX11_moves 129 = .ok (.goto (-32), 3) := by decide +kernel
theorem dX11_moves_132 : decode cX11_moves 132 = .ok (.aload_n 0, 1) := by decide +kernel
theorem dX11_moves_133 : decode cX11_moves 133 = .ok (.getfield 9, 3) := by decide +kernel
theorem dX11_moves_136 : decode cX11_moves 136 = .ok (.aload_n 0, 1) := by decide +kernel
theorem dX11_moves_137 : decode cX11_moves 137 = .ok (.getfield 26, 3) := by decide +kernel
theorem dX11_moves_140 : decode cX11_moves 140 = .ok (.invokestatic 127, 3) := by decide +kernel
theorem dX11_moves_143 : decode cX11_moves 143 = .ok (.istore 5, 2) := by decide +kernel
theorem dX11_moves_145 : decode cX11_moves 145 = .ok (.aload_n 0, 1) := by decide +kernel
theorem dX11_moves_146 : decode cX11_moves 146 = .ok (.getfield 48, 3) := by decide +kernel
theorem dX11_moves_149 : decode cX11_moves 149 = .ok (.iload 5, 2) := by decide +kernel
theorem dX11_moves_151 : decode cX11_moves 151 = .ok (.baload, 1) := by decide +kernel
theorem dX11_moves_152 : decode cX11_moves 152 = .ok (.ifCond .ne 22, 3) := by decide +kernel
theorem dX11_moves_155 : decode cX11_moves 155 = .ok (.aload_n 0, 1) := by decide +kernel
theorem dX11_moves_156 : decode cX11_moves 156 = .ok (.getfield 48, 3) := by decide +kernel
theorem dX11_moves_159 : decode cX11_moves 159 = .ok (.iload 5, 2) := by decide +kernel
theorem dX11_moves_161 : decode cX11_moves 161 = .ok (.iconst 1, 1) := by decide +kernel
theorem dX11_moves_162 : decode cX11_moves 162 = .ok (.bastore, 1) := by decide +kernel
theorem dX11_moves_163 : decode cX11_moves 163 = .ok (.aload_n 0, 1) := by decide +kernel
theorem dX11_moves_164 : decode cX11_moves 164 = .ok (.getfield 52, 3) := by decide +kernel
theorem dX11_moves_167 : decode cX11_moves 167 = .ok (.iload_n 2, 1) := by decide +kernel
theorem dX11_moves_168 : decode cX11_moves 168 = .ok (.iload 5, 2) := by decide +kernel
theorem dX11_moves_170 : decode cX11_moves 170 = .ok (.iastore, 1) := by decide +kernel
theorem dX11_moves_171 : decode cX11_moves 171 = .ok (.iinc 2 1, 3) := by decide +kernel
theorem dX11_moves_174 : decode cX11_moves 174 = .ok (.iinc 4 1, 3) := by decide +kernel
theorem dX11_moves_177 : decode cX11_moves 177 = .ok (.goto (-92), 3) := by decide +kernel
theorem dX11_moves_180 : decode cX11_moves 180 = .ok (.iinc 3 1, 3) := by decide +kernel
theorem dX11_moves_183 : decode cX11_moves 183 = .ok (.goto (-123), 3) := by decide +kernel
theorem dX11_moves_186 : decode cX11_moves 186 = .ok (.iload_n 2, 1) := by decide +kernel
theorem dX11_moves_187 : decode cX11_moves 187 = .ok (.ireturn, 1) := by decide +kernel
set_option maxRecDepth 20000 in
theorem ggX11_makes_X11_by : GoodIn wsX11_makes wsX11_by := goodIn_r _ [7, 8, 9, 10, 11, 12, 13, 14, 15, 16, 17, 18, 19, 20, 21, 22, 23, 24, 25, 26, 27, 28, 29, 30, 31, 32, 33, 34, 35, 36, 37] (by decide +kernel) (by decide +kernel)
set_option maxRecDepth 20000 in
theorem gX11_makes_X11_by : GoodIn wsX11_makes (wsV RX11 99 RX11 yX11_by wsX11_by) := goodIn_app (goodIn_of _ (by decide +kernel)) ggX11_makes_X11_by
theorem dX11_makes_0 : decode cX11_makes 0 = .ok (.iconst 0, 1) := by decide +kernel
theorem dX11_makes_1 : decode cX11_makes 1 = .ok (.istore_n 3, 1) := by decide +kernel
theorem dX11_makes_2 : decode cX11_makes 2 = .ok (.iload_n 3, 1) := by decide +kernel
theorem dX11_makes_3 : decode cX11_makes 3 = .ok (.aload_n 0, 1) := by decide +kernel
theorem dX11_makes_4 : decode cX11_makes 4 = .ok (.getfield 9, 3) := by decide +kernel
theorem dX11_makes_7 : decode cX11_makes 7 = .ok (.if_icmp .ge 65, 3) := by decide +kernel
theorem dX11_makes_10 : decode cX11_makes 10 = .ok (.iconst 0, 1) := by decide +kernel
theorem dX11_makes_11 : decode cX11_makes 11 = .ok (.istore 4, 2) := by decide +kernel
theorem dX11_makes_13 : decode cX11_makes 13 = .ok (.iload 4, 2) := by decide +kernel
theorem dX11_makes_15 : decode cX11_makes 15 = .ok (.aload_n 0, 1) := by decide +kernel
theorem dX11_makes_16 : decode cX11_makes 16 = .ok (.getfield 9, 3) := by decide +kernel
theorem dX11_makes_19 : decode cX11_makes 19 = .ok (.if_icmp .ge 47, 3) := by decide +kernel
theorem dX11_makes_22 : decode cX11_makes 22 = .ok (.aload_n 1, 1) := by decide +kernel
theorem dX11_makes_23 : decode cX11_makes 23 = .ok (.iload_n 2, 1) := by decide +kernel
theorem dX11_makes_24 : decode cX11_makes 24 = .ok (.bipush 8, 2) := by decide +kernel
theorem dX11_makes_26 : decode cX11_makes 26 = .ok (.aload_n 0, 1) := by decide +kernel
theorem dX11_makes_27 : decode cX11_makes 27 = .ok (.getfield 23, 3) := by decide +kernel
theorem dX11_makes_30 : decode cX11_makes 30 = .ok (.iload_n 3, 1) := by decide +kernel
theorem dX11_makes_31 : decode cX11_makes 31 = .ok (.iaload, 1) := by decide +kernel
theorem dX11_makes_32 : decode cX11_makes 32 = .ok (.imul, 1) := by decide +kernel
theorem dX11_makes_33 : decode cX11_makes 33 = .ok (.iadd, 1) := by decide +kernel
theorem dX11_makes_34 : decode cX11_makes 34 = .ok (.aload_n 0, 1) := by decide +kernel
theorem dX11_makes_35 : decode cX11_makes 35 = .ok (.getfield 23, 3) := by decide +kernel
theorem dX11_makes_38 : decode cX11_makes 38 = .ok (.iload 4, 2) := by decide +kernel
theorem dX11_makes_40 : decode cX11_makes 40 = .ok (.iaload, 1) := by decide +kernel
theorem dX11_makes_41 : decode cX11_makes 41 = .ok (.iadd, 1) := by decide +kernel
theorem dX11_makes_42 : decode cX11_makes 42 = .ok (.iaload, 1) := by decide +kernel
theorem dX11_makes_43 : decode cX11_makes 43 = .ok (.aload_n 0, 1) := by decide +kernel
theorem dX11_makes_44 : decode cX11_makes 44 = .ok (.getfield 23, 3) := by decide +kernel
theorem dX11_makes_47 : decode cX11_makes 47 = .ok (.aload_n 0, 1) := by decide +kernel
theorem dX11_makes_48 : decode cX11_makes 48 = .ok (.iload_n 3, 1) := by decide +kernel
theorem dX11_makes_49 : decode cX11_makes 49 = .ok (.iload 4, 2) := by decide +kernel
theorem dX11_makes_51 : decode cX11_makes 51 = .ok (.invokevirtual 99, 3) := by decide +kernel
theorem dX11_makes_54 : decode cX11_makes 54 = .ok (.iaload, 1) := by decide +kernel
theorem dX11_makes_55 : decode cX11_makes 55 = .ok (.if_icmp .eq 5, 3) := by decide +kernel
theorem dX11_makes_58 : decode cX11_makes 58 = .ok (.iconst 0, 1) := by decide +kernel
theorem dX11_makes_59 : decode cX11_makes 59 = .ok (.ireturn, 1) := by decide +kernel
theorem dX11_makes_60 : decode cX11_makes 60 = .ok (.iinc 4 1, 3) := by decide +kernel
theorem dX11_makes_63 : decode cX11_makes 63 = .ok (.goto (-50), 3) := by decide +kernel
theorem dX11_makes_66 : decode cX11_makes 66 = .ok (.iinc 3 1, 3) := by decide +kernel
theorem dX11_makes_69 : decode cX11_makes 69 = .ok (.goto (-67), 3) := by decide +kernel
theorem dX11_makes_72 : decode cX11_makes 72 = .ok (.iconst 1, 1) := by decide +kernel
theorem dX11_makes_73 : decode cX11_makes 73 = .ok (.ireturn, 1) := by decide +kernel
set_option maxRecDepth 20000 in
theorem ggX11_keepers_X11_factorial : GoodIn wsX11_keepers wsX11_factorial := goodIn_r _ [8, 5, 6, 7] (by decide +kernel) (by decide +kernel)
set_option maxRecDepth 20000 in
theorem gX11_keepers_X11_factorial : GoodIn wsX11_keepers (va_wsS RX11 119 yX11_factorial wsX11_factorial) := goodIn_app (goodIn_of _ (by decide +kernel)) ggX11_keepers_X11_factorial
set_option maxRecDepth 20000 in
theorem ggX11_keepers_X11_permutation : GoodIn wsX11_keepers wsX11_permutation := goodIn_r _ [11, 5, 6, 7, 8] (by decide +kernel) (by decide +kernel)
set_option maxRecDepth 20000 in
theorem gX11_keepers_X11_permutation : GoodIn wsX11_keepers (va_wsS RX11 123 yX11_permutation wsX11_permutation) := goodIn_app (goodIn_of _ (by decide +kernel)) ggX11_keepers_X11_permutation
set_option maxRecDepth 20000 in
theorem ggX11_keepers_X11_makes : GoodIn wsX11_keepers wsX11_makes := goodIn_r _ [15, 2, 3, 16, 17, 18, 7, 19, 4, 20, 21, 22, 23, 24, 25, 26, 27, 28, 29, 30, 31, 32, 33, 34, 35, 36, 37, 38, 39, 40, 41, 42, 43, 44, 45, 46, 47, 48] (by decide +kernel) (by decide +kernel)
set_option maxRecDepth 20000 in
theorem gX11_keepers_X11_makes : GoodIn wsX11_keepers (wsV RX11 176 RX11 yX11_makes wsX11_makes) := goodIn_app (goodIn_of _ (by decide +kernel)) ggX11_keepers_X11_makes
theorem dX11_keepers_0 : decode cX11_keepers 0 = .ok (.aload_n 0, 1) := by decide +kernel
theorem dX11_keepers_1 : decode cX11_keepers 1 = .ok (.iconst 0, 1) := by decide +kernel
theorem dX11_keepers_2 : decode cX11_keepers 2 = .ok (.putfield 83, 3) := by decide +kernel
theorem dX11_keepers_5 : decode cX11_keepers 5 = .ok (.iconst 0, 1) := by decide +kernel
theorem dX11_keepers_6 : decode cX11_keepers 6 = .ok (.istore_n 1, 1) := by decide +kernel
theorem dX11_keepers_7 : decode cX11_keepers 7 = .ok (.iconst 0, 1) := by decide +kernel
theorem dX11_keepers_8 : decode cX11_keepers 8 = .ok (.istore_n 2, 1) := by decide +kernel
theorem dX11_keepers_9 : decode cX11_keepers 9 = .ok (.iload_n 2, 1) := by decide +kernel
theorem dX11_keepers_10 : decode cX11_keepers 10 = .ok (.aload_n 0, 1) := by decide +kernel
