theorem dX11_keepers_11 : decode cX11_keepers 11 = .ok (.getfield 9, 3) := by decide +kernel
theorem dX11_keepers_14 : decode cX11_keepers 14 = .ok (.invokestatic 119, 3) := by decide +kernel
theorem dX11_keepers_17 : decode cX11_keepers 17 = .ok (.if_icmp .ge 41, 3) := by decide +kernel
theorem dX11_keepers_20 : decode cX11_keepers 20 = .ok (.aload_n 0, 1) := by decide +kernel
theorem dX11_keepers_21 : decode cX11_keepers 21 = .ok (.getfield 9, 3) := by decide +kernel
theorem dX11_keepers_24 : decode cX11_keepers 24 = .ok (.iload_n 2, 1) := by decide +kernel
theorem dX11_keepers_25 : decode cX11_keepers 25 = .ok (.aload_n 0, 1) := by decide +kernel
theorem dX11_keepers_26 : decode cX11_keepers 26 = .ok (.getfield 23, 3) := by decide +kernel
theorem dX11_keepers_29 : decode cX11_keepers 29 = .ok (.invokestatic 123, 3) := by decide +kernel
theorem dX11_keepers_32 : decode cX11_keepers 32 = .ok (.iload_n 1, 1) := by decide +kernel
theorem dX11_keepers_33 : decode cX11_keepers 33 = .ok (.aload_n 0, 1) := by decide +kernel
theorem dX11_keepers_34 : decode cX11_keepers 34 = .ok (.aload_n 0, 1) := by decide +kernel
theorem dX11_keepers_35 : decode cX11_keepers 35 = .ok (.getfield 13, 3) := by decide +kernel
theorem dX11_keepers_38 : decode cX11_keepers 38 = .ok (.iconst 0, 1) := by decide +kernel
theorem dX11_keepers_39 : decode cX11_keepers 39 = .ok (.invokevirtual 176, 3) := by decide +kernel
theorem dX11_keepers_42 : decode cX11_keepers 42 = .ok (.ifCond .eq 7, 3) := by decide +kernel
theorem dX11_keepers_45 : decode cX11_keepers 45 = .ok (.iconst 1, 1) := by decide +kernel
theorem dX11_keepers_46 : decode cX11_keepers 46 = .ok (.goto 4, 3) := by decide +kernel
theorem dX11_keepers_49 : decode cX11_keepers 49 = .ok (.iconst 0, 1) := by decide +kernel
theorem dX11_keepers_50 : decode cX11_keepers 50 = .ok (.iadd, 1) := by decide +kernel
theorem dX11_keepers_51 : decode cX11_keepers 51 = .ok (.istore_n 1, 1) := by decide +kernel
theorem dX11_keepers_52 : decode cX11_keepers 52 = .ok (.iinc 2 1, 3) := by decide +kernel
theorem dX11_keepers_55 : decode cX11_keepers 55 = .ok (.goto (-46), 3) := by decide +kernel
theorem dX11_keepers_58 : decode cX11_keepers 58 = .ok (.iload_n 1, 1) := by decide +kernel
theorem dX11_keepers_59 : decode cX11_keepers 59 = .ok (.ireturn, 1) := by decide +kernel
set_option maxRecDepth 20000 in
theorem ggX11_leastOf_X11_factorial : GoodIn wsX11_leastOf wsX11_factorial := goodIn_r _ [9, 6, 7, 8] (by decide +kernel) (by decide +kernel)
set_option maxRecDepth 20000 in
theorem gX11_leastOf_X11_factorial : GoodIn wsX11_leastOf (va_wsS RX11 119 yX11_factorial wsX11_factorial) := goodIn_app (goodIn_of _ (by decide +kernel)) ggX11_leastOf_X11_factorial
set_option maxRecDepth 20000 in
theorem ggX11_leastOf_X11_permutation : GoodIn wsX11_leastOf wsX11_permutation := goodIn_r _ [12, 6, 7, 8, 9] (by decide +kernel) (by decide +kernel)
set_option maxRecDepth 20000 in
theorem gX11_leastOf_X11_permutation : GoodIn wsX11_leastOf (va_wsS RX11 123 yX11_permutation wsX11_permutation) := goodIn_app (goodIn_of _ (by decide +kernel)) ggX11_leastOf_X11_permutation
set_option maxRecDepth 20000 in
theorem ggX11_leastOf_X11_by : GoodIn wsX11_leastOf wsX11_by := goodIn_r _ [16, 2, 21, 22, 23, 24, 25, 26, 27, 28, 29, 30, 31, 32, 33, 34, 35, 36, 37, 38, 39, 40, 41, 42, 43, 44, 45, 46, 47, 48, 49] (by decide +kernel) (by decide +kernel)
set_option maxRecDepth 20000 in
theorem gX11_leastOf_X11_by : GoodIn wsX11_leastOf (wsV RX11 99 RX11 yX11_by wsX11_by) := goodIn_app (goodIn_of _ (by decide +kernel)) ggX11_leastOf_X11_by
set_option maxRecDepth 20000 in
theorem ggX11_leastOf_X11_isMadeAhead : GoodIn wsX11_leastOf wsX11_isMadeAhead := goodIn_r _ [20, 3, 5, 1, 21, 22, 23, 24, 25, 26, 27, 28, 29, 30, 31, 32, 33, 34, 35, 36, 37, 38, 39, 40, 41, 42, 43, 44, 45, 46, 47, 48, 49] (by decide +kernel) (by decide +kernel)
set_option maxRecDepth 20000 in
theorem gX11_leastOf_X11_isMadeAhead : GoodIn wsX11_leastOf (wsV RX11 180 RX11 yX11_isMadeAhead wsX11_isMadeAhead) := goodIn_app (goodIn_of _ (by decide +kernel)) ggX11_leastOf_X11_isMadeAhead
theorem dX11_leastOf_0 : decode cX11_leastOf 0 = .ok (.iconst 0, 1) := by decide +kernel
theorem dX11_leastOf_1 : decode cX11_leastOf 1 = .ok (.istore_n 1, 1) := by decide +kernel
theorem dX11_leastOf_2 : decode cX11_leastOf 2 = .ok (.iload_n 1, 1) := by decide +kernel
theorem dX11_leastOf_3 : decode cX11_leastOf 3 = .ok (.bipush 64, 2) := by decide +kernel
theorem dX11_leastOf_5 : decode cX11_leastOf 5 = .ok (.if_icmp .ge 21, 3) := by decide +kernel
theorem dX11_leastOf_8 : decode cX11_leastOf 8 = .ok (.aload_n 0, 1) := by decide +kernel
theorem dX11_leastOf_9 : decode cX11_leastOf 9 = .ok (.getfield 55, 3) := by decide +kernel
theorem dX11_leastOf_12 : decode cX11_leastOf 12 = .ok (.iload_n 1, 1) := by decide +kernel
theorem dX11_leastOf_13 : decode cX11_leastOf 13 = .ok (.aload_n 0, 1) := by decide +kernel
theorem dX11_leastOf_14 : decode cX11_leastOf 14 = .ok (.getfield 13, 3) := by decide +kernel
theorem dX11_leastOf_17 : decode cX11_leastOf 17 = .ok (.iload_n 1, 1) := by decide +kernel
theorem dX11_leastOf_18 : decode cX11_leastOf 18 = .ok (.iaload, 1) := by decide +kernel
theorem dX11_leastOf_19 : decode cX11_leastOf 19 = .ok (.iastore, 1) := by decide +kernel
theorem dX11_leastOf_20 : decode cX11_leastOf 20 = .ok (.iinc 1 1, 3) := by decide +kernel
theorem dX11_leastOf_23 : decode cX11_leastOf 23 = .ok (.goto (-21), 3) := by decide +kernel
theorem dX11_leastOf_26 : decode cX11_leastOf 26 = .ok (.iconst 1, 1) := by decide +kernel
theorem dX11_leastOf_27 : decode cX11_leastOf 27 = .ok (.istore_n 1, 1) := by decide +kernel
theorem dX11_leastOf_28 : decode cX11_leastOf 28 = .ok (.iload_n 1, 1) := by decide +kernel
theorem dX11_leastOf_29 : decode cX11_leastOf 29 = .ok (.aload_n 0, 1) := by decide +kernel
theorem dX11_leastOf_30 : decode cX11_leastOf 30 = .ok (.getfield 9, 3) := by decide +kernel
theorem dX11_leastOf_33 : decode cX11_leastOf 33 = .ok (.invokestatic 119, 3) := by decide +kernel
theorem dX11_leastOf_36 : decode cX11_leastOf 36 = .ok (.if_icmp .ge 118, 3) := by decide +kernel
theorem dX11_leastOf_39 : decode cX11_leastOf 39 = .ok (.aload_n 0, 1) := by decide +kernel
theorem dX11_leastOf_40 : decode cX11_leastOf 40 = .ok (.getfield 9, 3) := by decide +kernel
theorem dX11_leastOf_43 : decode cX11_leastOf 43 = .ok (.iload_n 1, 1) := by decide +kernel
theorem dX11_leastOf_44 : decode cX11_leastOf 44 = .ok (.aload_n 0, 1) := by decide +kernel
theorem dX11_leastOf_45 : decode cX11_leastOf 45 = .ok (.getfield 23, 3) := by decide +kernel
theorem dX11_leastOf_48 : decode cX11_leastOf 48 = .ok (.invokestatic 123, 3) := by decide +kernel
theorem dX11_leastOf_51 : decode cX11_leastOf 51 = .ok (.iconst 0, 1) := by decide +kernel
theorem dX11_leastOf_52 : decode cX11_leastOf 52 = .ok (.istore_n 2, 1) := by decide +kernel
theorem dX11_leastOf_53 : decode cX11_leastOf 53 = .ok (.iload_n 2, 1) := by decide +kernel
theorem dX11_leastOf_54 : decode cX11_leastOf 54 = .ok (.aload_n 0, 1) := by decide +kernel
theorem dX11_leastOf_55 : decode cX11_leastOf 55 = .ok (.getfield 9, 3) := by decide +kernel
theorem dX11_leastOf_58 : decode cX11_leastOf 58 = .ok (.if_icmp .ge 57, 3) := by decide +kernel
theorem dX11_leastOf_61 : decode cX11_leastOf 61 = .ok (.iconst 0, 1) := by decide +kernel
theorem dX11_leastOf_62 : decode cX11_leastOf 62 = .ok (.istore_n 3, 1) := by decide +kernel
theorem dX11_leastOf_63 : decode cX11_leastOf 63 = .ok (.iload_n 3, 1) := by decide +kernel
theorem dX11_leastOf_64 : decode cX11_leastOf 64 = .ok (.aload_n 0, 1) := by decide +kernel
theorem dX11_leastOf_65 : decode cX11_leastOf 65 = .ok (.getfield 9, 3) := by decide +kernel
theorem dX11_leastOf_68 : decode cX11_leastOf 68 = .ok (.if_icmp .ge 41, 3) := by decide +kernel
theorem dX11_leastOf_71 : decode cX11_leastOf 71 = .ok (.aload_n 0, 1) := by decide +kernel
theorem dX11_leastOf_72 : decode cX11_leastOf 72 = .ok (.getfield 58, 3) := by decide +kernel
theorem dX11_leastOf_75 : decode cX11_leastOf 75 = .ok (.bipush 8, 2) := by decide +kernel
theorem dX11_leastOf_77 : decode cX11_leastOf 77 = .ok (.aload_n 0, 1) := by decide +kernel
theorem dX11_leastOf_78 : decode cX11_leastOf 78 = .ok (.getfield 23, 3) := by decide +kernel
theorem dX11_leastOf_81 : decode cX11_leastOf 81 = .ok (.iload_n 2, 1) := by decide +kernel
theorem dX11_leastOf_82 : decode cX11_leastOf 82 = .ok (.iaload, 1) := by decide +kernel
theorem dX11_leastOf_83 : decode cX11_leastOf 83 = .ok (.imul, 1) := by decide +kernel
theorem dX11_leastOf_84 : decode cX11_leastOf 84 = .ok (.aload_n 0, 1) := by decide +kernel
theorem dX11_leastOf_85 : decode cX11_leastOf 85 = .ok (.getfield 23, 3) := by decide +kernel
theorem dX11_leastOf_88 : decode cX11_leastOf 88 = .ok (.iload_n 3, 1) := by decide +kernel
theorem dX11_leastOf_89 : decode cX11_leastOf 89 = .ok (.iaload, 1) := by decide +kernel
theorem dX11_leastOf_90 : decode cX11_leastOf 90 = .ok (.iadd, 1) := by decide +kernel
theorem dX11_leastOf_91 : decode cX11_leastOf 91 = .ok (.aload_n 0, 1) := by decide +kernel
theorem dX11_leastOf_92 : decode cX11_leastOf 92 = .ok (.getfield 23, 3) := by decide +kernel
theorem dX11_leastOf_95 : decode cX11_leastOf 95 = .ok (.aload_n 0, 1) := by decide +kernel
theorem dX11_leastOf_96 : decode cX11_leastOf 96 = .ok (.iload_n 2, 1) := by decide +kernel
theorem dX11_leastOf_97 : decode cX11_leastOf 97 = .ok (.iload_n 3, 1) := by decide +kernel
theorem dX11_leastOf_98 : decode cX11_leastOf 98 = .ok (.invokevirtual 99, 3) := by decide +kernel
theorem dX11_leastOf_101 : decode cX11_leastOf 101 = .ok (.iaload, 1) := by decide +kernel
theorem dX11_leastOf_102 : decode cX11_leastOf 102 = .ok (.iastore, 1) := by decide +kernel
theorem dX11_leastOf_103 : decode cX11_leastOf 103 = .ok (.iinc 3 1, 3) := by decide +kernel
theorem dX11_leastOf_106 : decode cX11_leastOf 106 = .ok (.goto (-43), 3) := by decide +kernel
theorem dX11_leastOf_109 : decode cX11_leastOf 109 = .ok (.iinc 2 1, 3) := by decide +kernel
theorem dX11_leastOf_112 : decode cX11_leastOf 112 = .ok (.goto (-59), 3) := by decide +kernel
theorem dX11_leastOf_115 : decode cX11_leastOf 115 = .ok (.aload_n 0, 1) := by decide +kernel
theorem dX11_leastOf_116 : decode cX11_leastOf 116 = .ok (.invokevirtual 180, 3) := by decide +kernel
theorem dX11_leastOf_119 : decode cX11_leastOf 119 = .ok (.ifCond .eq 29, 3) := by decide +kernel
theorem dX11_leastOf_122 : decode cX11_leastOf 122 = .ok (.iconst 0, 1) := by decide +kernel
theorem dX11_leastOf_123 : decode cX11_leastOf 123 = .ok (.istore_n 2, 1) := by decide +kernel
theorem dX11_leastOf_124 : decode cX11_leastOf 124 = .ok (.iload_n 2, 1) := by decide +kernel
theorem dX11_leastOf_125 : decode cX11_leastOf 125 = .ok (.bipush 64, 2) := by decide +kernel
theorem dX11_leastOf_127 : decode cX11_leastOf 127 = .ok (.if_icmp .ge 21, 3) := by decide +kernel
theorem dX11_leastOf_130 : decode cX11_leastOf 130 = .ok (.aload_n 0, 1) := by decide +kernel
theorem dX11_leastOf_131 : decode cX11_leastOf 131 = .ok (.getfield 55, 3) := by decide +kernel
theorem dX11_leastOf_134 : decode cX11_leastOf 134 = .ok (.iload_n 2, 1) := by decide +kernel
theorem dX11_leastOf_135 : decode cX11_leastOf 135 = .ok (.aload_n 0, 1) := by decide +kernel
theorem dX11_leastOf_136 : decode cX11_leastOf 136 = .ok (.getfield 58, 3) := by decide +kernel
theorem dX11_leastOf_139 : decode cX11_leastOf 139 = .ok (.iload_n 2, 1) := by decide +kernel
theorem dX11_leastOf_140 : decode cX11_leastOf 140 = .ok (.iaload, 1) := by decide +kernel
theorem dX11_leastOf_141 : decode cX11_leastOf 141 = .ok (.iastore, 1) := by decide +kernel
theorem dX11_leastOf_142 : decode cX11_leastOf 142 = .ok (.iinc 2 1, 3) := by decide +kernel
theorem dX11_leastOf_145 : decode cX11_leastOf 145 = .ok (.goto (-21), 3) := by decide +kernel
theorem dX11_leastOf_148 : decode cX11_leastOf 148 = .ok (.iinc 1 1, 3) := by decide +kernel
theorem dX11_leastOf_151 : decode cX11_leastOf 151 = .ok (.goto (-123), 3) := by decide +kernel
theorem dX11_leastOf_154 : decode cX11_leastOf 154 = .ok (.return_, 1) := by decide +kernel
theorem dX11_isMadeAhead_0 : decode cX11_isMadeAhead 0 = .ok (.iconst 0, 1) := by decide +kernel
theorem dX11_isMadeAhead_1 : decode cX11_isMadeAhead 1 = .ok (.istore_n 1, 1) := by decide +kernel
theorem dX11_isMadeAhead_2 : decode cX11_isMadeAhead 2 = .ok (.iload_n 1, 1) := by decide +kernel
theorem dX11_isMadeAhead_3 : decode cX11_isMadeAhead 3 = .ok (.aload_n 0, 1) := by decide +kernel
theorem dX11_isMadeAhead_4 : decode cX11_isMadeAhead 4 = .ok (.getfield 9, 3) := by decide +kernel
theorem dX11_isMadeAhead_7 : decode cX11_isMadeAhead 7 = .ok (.if_icmp .ge 68, 3) := by decide +kernel
theorem dX11_isMadeAhead_10 : decode cX11_isMadeAhead 10 = .ok (.iconst 0, 1) := by decide +kernel
theorem dX11_isMadeAhead_11 : decode cX11_isMadeAhead 11 = .ok (.istore_n 2, 1) := by decide +kernel
theorem dX11_isMadeAhead_12 : decode cX11_isMadeAhead 12 = .ok (.iload_n 2, 1) := by decide +kernel
theorem dX11_isMadeAhead_13 : decode cX11_isMadeAhead 13 = .ok (.aload_n 0, 1) := by decide +kernel
theorem dX11_isMadeAhead_14 : decode cX11_isMadeAhead 14 = .ok (.getfield 9, 3) := by decide +kernel
theorem dX11_isMadeAhead_17 : decode cX11_isMadeAhead 17 = .ok (.if_icmp .ge 52, 3) := by decide +kernel
theorem dX11_isMadeAhead_20 : decode cX11_isMadeAhead 20 = .ok (.bipush 8, 2) := by decide +kernel
theorem dX11_isMadeAhead_22 : decode cX11_isMadeAhead 22 = .ok (.iload_n 1, 1) := by decide +kernel
theorem dX11_isMadeAhead_23 : decode cX11_isMadeAhead 23 = .ok (.imul, 1) := by decide +kernel
theorem dX11_isMadeAhead_24 : decode cX11_isMadeAhead 24 = .ok (.iload_n 2, 1) := by decide +kernel
theorem dX11_isMadeAhead_25 : decode cX11_isMadeAhead 25 = .ok (.iadd, 1) := by decide +kernel
theorem dX11_isMadeAhead_26 : decode cX11_isMadeAhead 26 = .ok (.istore_n 3, 1) := by decide +kernel
theorem dX11_isMadeAhead_27 : decode cX11_isMadeAhead 27 = .ok (.aload_n 0, 1) := by decide +kernel
theorem dX11_isMadeAhead_28 : decode cX11_isMadeAhead 28 = .ok (.getfield 58, 3) := by decide +kernel
theorem dX11_isMadeAhead_31 : decode cX11_isMadeAhead 31 = .ok (.iload_n 3, 1) := by decide +kernel
theorem dX11_isMadeAhead_32 : decode cX11_isMadeAhead 32 = .ok (.iaload, 1) := by decide +kernel
theorem dX11_isMadeAhead_33 : decode cX11_isMadeAhead 33 = .ok (.aload_n 0, 1) := by decide +kernel
theorem dX11_isMadeAhead_34 : decode cX11_isMadeAhead 34 = .ok (.getfield 55, 3) := by decide +kernel
theorem dX11_isMadeAhead_37 : decode cX11_isMadeAhead 37 = .ok (.iload_n 3, 1) := by decide +kernel
theorem dX11_isMadeAhead_38 : decode cX11_isMadeAhead 38 = .ok (.iaload, 1) := by decide +kernel
theorem dX11_isMadeAhead_39 : decode cX11_isMadeAhead 39 = .ok (.if_icmp .eq 24, 3) := by decide +kernel
theorem dX11_isMadeAhead_42 : decode cX11_isMadeAhead 42 = .ok (.aload_n 0, 1) := by decide +kernel
theorem dX11_isMadeAhead_43 : decode cX11_isMadeAhead 43 = .ok (.getfield 58, 3) := by decide +kernel
theorem dX11_isMadeAhead_46 : decode cX11_isMadeAhead 46 = .ok (.iload_n 3, 1) := by decide +kernel
theorem dX11_isMadeAhead_47 : decode cX11_isMadeAhead 47 = .ok (.iaload, 1) := by decide +kernel
theorem dX11_isMadeAhead_48 : decode cX11_isMadeAhead 48 = .ok (.aload_n 0, 1) := by decide +kernel
theorem dX11_isMadeAhead_49 : decode cX11_isMadeAhead 49 = .ok (.getfield 55, 3) := by decide +kernel
theorem dX11_isMadeAhead_52 : decode cX11_isMadeAhead 52 = .ok (.iload_n 3, 1) := by decide +kernel
theorem dX11_isMadeAhead_53 : decode cX11_isMadeAhead 53 = .ok (.iaload, 1) := by decide +kernel
theorem dX11_isMadeAhead_54 : decode cX11_isMadeAhead 54 = .ok (.if_icmp .ge 7, 3) := by decide +kernel
theorem dX11_isMadeAhead_57 : decode cX11_isMadeAhead 57 = .ok (.iconst 1, 1) := by decide +kernel
theorem dX11_isMadeAhead_58 : decode cX11_isMadeAhead 58 = .ok (.goto 4, 3) := by decide +kernel
theorem dX11_isMadeAhead_61 : decode cX11_isMadeAhead 61 = .ok (.iconst 0, 1) := by decide +kernel
theorem dX11_isMadeAhead_62 : decode cX11_isMadeAhead 62 = .ok (.ireturn, 1) := by decide +kernel
theorem dX11_isMadeAhead_63 : decode cX11_isMadeAhead 63 = .ok (.iinc 2 1, 3) := by decide +kernel
theorem dX11_isMadeAhead_66 : decode cX11_isMadeAhead 66 = .ok (.goto (-54), 3) := by decide +kernel
theorem dX11_isMadeAhead_69 : decode cX11_isMadeAhead 69 = .ok (.iinc 1 1, 3) := by decide +kernel
theorem dX11_isMadeAhead_72 : decode cX11_isMadeAhead 72 = .ok (.goto (-70), 3) := by decide +kernel
theorem dX11_isMadeAhead_75 : decode cX11_isMadeAhead 75 = .ok (.iconst 0, 1) := by decide +kernel
theorem dX11_isMadeAhead_76 : decode cX11_isMadeAhead 76 = .ok (.ireturn, 1) := by decide +kernel
set_option maxRecDepth 20000 in
theorem ggX11_isBest_X11_by : GoodIn wsX11_isBest wsX11_by := goodIn_r _ [7, 8, 9, 10, 11, 12, 13, 14, 15, 16, 17, 18, 19, 20, 21, 22, 23, 24, 25, 26, 27, 28, 29, 30, 31, 32, 33, 34, 35, 36, 37] (by decide +kernel) (by decide +kernel)
set_option maxRecDepth 20000 in
theorem gX11_isBest_X11_by : GoodIn wsX11_isBest (wsV RX11 99 RX11 yX11_by wsX11_by) := goodIn_app (goodIn_of _ (by decide +kernel)) ggX11_isBest_X11_by
theorem dX11_isBest_0 : decode cX11_isBest 0 = .ok (.iconst 1, 1) := by decide +kernel
theorem dX11_isBest_1 : decode cX11_isBest 1 = .ok (.istore_n 1, 1) := by decide +kernel
theorem dX11_isBest_2 : decode cX11_isBest 2 = .ok (.iconst 0, 1) := by decide +kernel
theorem dX11_isBest_3 : decode cX11_isBest 3 = .ok (.istore_n 2, 1) := by decide +kernel
theorem dX11_isBest_4 : decode cX11_isBest 4 = .ok (.iload_n 2, 1) := by decide +kernel
theorem dX11_isBest_5 : decode cX11_isBest 5 = .ok (.aload_n 0, 1) := by decide +kernel
theorem dX11_isBest_6 : decode cX11_isBest 6 = .ok (.getfield 9, 3) := by decide +kernel
theorem dX11_isBest_9 : decode cX11_isBest 9 = .ok (.if_icmp .ge 55, 3) := by decide +kernel
theorem dX11_isBest_12 : decode cX11_isBest 12 = .ok (.iconst 0, 1) := by decide +kernel
theorem dX11_isBest_13 : decode cX11_isBest 13 = .ok (.istore_n 3, 1) := by decide +kernel
theorem dX11_isBest_14 : decode cX11_isBest 14 = .ok (.iload_n 3, 1) := by decide +kernel
theorem dX11_isBest_15 : decode cX11_isBest 15 = .ok (.aload_n 0, 1) := by decide +kernel
theorem dX11_isBest_16 : decode cX11_isBest 16 = .ok (.getfield 9, 3) := by decide +kernel
theorem dX11_isBest_19 : decode cX11_isBest 19 = .ok (.if_icmp .ge 39, 3) := by decide +kernel
theorem dX11_isBest_22 : decode cX11_isBest 22 = .ok (.iload_n 1, 1) := by decide +kernel
theorem dX11_isBest_23 : decode cX11_isBest 23 = .ok (.ifCond .eq 27, 3) := by decide +kernel
theorem dX11_isBest_26 : decode cX11_isBest 26 = .ok (.aload_n 0, 1) := by decide +kernel
theorem dX11_isBest_27 : decode cX11_isBest 27 = .ok (.getfield 55, 3) := by decide +kernel
theorem dX11_isBest_30 : decode cX11_isBest 30 = .ok (.bipush 8, 2) := by decide +kernel
theorem dX11_isBest_32 : decode cX11_isBest 32 = .ok (.iload_n 2, 1) := by decide +kernel
theorem dX11_isBest_33 : decode cX11_isBest 33 = .ok (.imul, 1) := by decide +kernel
theorem dX11_isBest_34 : decode cX11_isBest 34 = .ok (.iload_n 3, 1) := by decide +kernel
theorem dX11_isBest_35 : decode cX11_isBest 35 = .ok (.iadd, 1) := by decide +kernel
theorem dX11_isBest_36 : decode cX11_isBest 36 = .ok (.iaload, 1) := by decide +kernel
theorem dX11_isBest_37 : decode cX11_isBest 37 = .ok (.aload_n 0, 1) := by decide +kernel
theorem dX11_isBest_38 : decode cX11_isBest 38 = .ok (.iload_n 2, 1) := by decide +kernel
theorem dX11_isBest_39 : decode cX11_isBest 39 = .ok (.iload_n 3, 1) := by decide +kernel
theorem dX11_isBest_40 : decode cX11_isBest 40 = .ok (.invokevirtual 99, 3) := by decide +kernel
theorem dX11_isBest_43 : decode cX11_isBest 43 = .ok (.if_icmp .ne 7, 3) := by decide +kernel
theorem dX11_isBest_46 : decode cX11_isBest 46 = .ok (.iconst 1, 1) := by decide +kernel
theorem dX11_isBest_47 : decode cX11_isBest 47 = .ok (.goto 4, 3) := by decide +kernel
theorem dX11_isBest_50 : decode cX11_isBest 50 = .ok (.iconst 0, 1) := by decide +kernel
theorem dX11_isBest_51 : decode cX11_isBest 51 = .ok (.istore_n 1, 1) := by decide +kernel
theorem dX11_isBest_52 : decode cX11_isBest 52 = .ok (.iinc 3 1, 3) := by decide +kernel
theorem dX11_isBest_55 : decode cX11_isBest 55 = .ok (.goto (-41), 3) := by decide +kernel
theorem dX11_isBest_58 : decode cX11_isBest 58 = .ok (.iinc 2 1, 3) := by decide +kernel
theorem dX11_isBest_61 : decode cX11_isBest 61 = .ok (.goto (-57), 3) := by decide +kernel
theorem dX11_isBest_64 : decode cX11_isBest 64 = .ok (.iload_n 1, 1) := by decide +kernel
theorem dX11_isBest_65 : decode cX11_isBest 65 = .ok (.ireturn, 1) := by decide +kernel
set_option maxRecDepth 20000 in
theorem ggX11_least_X11_leastOf : GoodIn wsX11_least wsX11_leastOf := goodIn_r _ [8, 3, 2, 9, 10, 11, 12, 13, 7, 14, 15, 16, 17, 18, 19, 20, 21, 22, 23, 24, 25, 35, 36, 37, 38, 39, 40, 41, 42, 43, 44, 45, 46, 47, 48, 49, 50, 51, 52, 53, 54, 55, 56, 57, 58, 59, 60, 61, 62, 63] (by decide +kernel) (by decide +kernel)
set_option maxRecDepth 20000 in
theorem gX11_least_X11_leastOf : GoodIn wsX11_least (wsV RX11 183 RX11 yX11_leastOf wsX11_leastOf) := goodIn_app (goodIn_of _ (by decide +kernel)) ggX11_least_X11_leastOf
set_option maxRecDepth 20000 in
theorem ggX11_least_X11_straight : GoodIn wsX11_least wsX11_straight := goodIn_r _ [29, 30, 35, 36, 37, 38, 39, 40, 41, 42, 43, 44, 45, 46, 47, 48, 49, 50, 51, 52, 53, 54, 55, 56, 57, 58, 59, 60, 61, 62, 63] (by decide +kernel) (by decide +kernel)
set_option maxRecDepth 20000 in
theorem gX11_least_X11_straight : GoodIn wsX11_least (wsV RX11 90 RX11 yX11_straight wsX11_straight) := goodIn_app (goodIn_of _ (by decide +kernel)) ggX11_least_X11_straight
set_option maxRecDepth 20000 in
theorem ggX11_least_X11_isBest : GoodIn wsX11_least wsX11_isBest := goodIn_r _ [34, 9, 3, 18, 19, 20, 7, 21, 2, 35, 36, 37, 38, 39, 40, 41, 42, 43, 44, 45, 46, 47, 48, 49, 50, 51, 52, 53, 54, 55, 56, 57, 58, 59, 60, 61, 62, 63] (by decide +kernel) (by decide +kernel)
set_option maxRecDepth 20000 in
theorem gX11_least_X11_isBest : GoodIn wsX11_least (wsV RX11 186 RX11 yX11_isBest wsX11_isBest) := goodIn_app (goodIn_of _ (by decide +kernel)) ggX11_least_X11_isBest
theorem dX11_least_0 : decode cX11_least 0 = .ok (.aload_n 0, 1) := by decide +kernel
theorem dX11_least_1 : decode cX11_least 1 = .ok (.iconst 0, 1) := by decide +kernel
theorem dX11_least_2 : decode cX11_least 2 = .ok (.putfield 83, 3) := by decide +kernel
theorem dX11_least_5 : decode cX11_least 5 = .ok (.aload_n 0, 1) := by decide +kernel
theorem dX11_least_6 : decode cX11_least 6 = .ok (.invokevirtual 183, 3) := by decide +kernel
theorem dX11_least_9 : decode cX11_least 9 = .ok (.aload_n 0, 1) := by decide +kernel
theorem dX11_least_10 : decode cX11_least 10 = .ok (.invokevirtual 90, 3) := by decide +kernel
theorem dX11_least_13 : decode cX11_least 13 = .ok (.aload_n 0, 1) := by decide +kernel
theorem dX11_least_14 : decode cX11_least 14 = .ok (.invokevirtual 186, 3) := by decide +kernel
theorem dX11_least_17 : decode cX11_least 17 = .ok (.ifCond .eq 5, 3) := by decide +kernel
theorem dX11_least_20 : decode cX11_least 20 = .ok (.iconst 0, 1) := by decide +kernel
theorem dX11_least_21 : decode cX11_least 21 = .ok (.ireturn, 1) := by decide +kernel
theorem dX11_least_22 : decode cX11_least 22 = .ok (.iconst 0, 1) := by decide +kernel
theorem dX11_least_23 : decode cX11_least 23 = .ok (.istore_n 1, 1) := by decide +kernel
theorem dX11_least_24 : decode cX11_least 24 = .ok (.iload_n 1, 1) := by decide +kernel
theorem dX11_least_25 : decode cX11_least 25 = .ok (.bipush 64, 2) := by decide +kernel
theorem dX11_least_27 : decode cX11_least 27 = .ok (.if_icmp .ge 21, 3) := by decide +kernel
theorem dX11_least_30 : decode cX11_least 30 = .ok (.aload_n 0, 1) := by decide +kernel
theorem dX11_least_31 : decode cX11_least 31 = .ok (.getfield 13, 3) := by decide +kernel
theorem dX11_least_34 : decode cX11_least 34 = .ok (.iload_n 1, 1) := by decide +kernel
theorem dX11_least_35 : decode cX11_least 35 = .ok (.aload_n 0, 1) := by decide +kernel
theorem dX11_least_36 : decode cX11_least 36 = .ok (.getfield 55, 3) := by decide +kernel
theorem dX11_least_39 : decode cX11_least 39 = .ok (.iload_n 1, 1) := by decide +kernel
theorem dX11_least_40 : decode cX11_least 40 = .ok (.iaload, 1) := by decide +kernel
theorem dX11_least_41 : decode cX11_least 41 = .ok (.iastore, 1) := by decide +kernel
theorem dX11_least_42 : decode cX11_least 42 = .ok (.iinc 1 1, 3) := by decide +kernel
theorem dX11_least_45 : decode cX11_least 45 = .ok (.goto (-21), 3) := by decide +kernel
theorem dX11_least_48 : decode cX11_least 48 = .ok (.iconst 1, 1) := by decide +kernel
theorem dX11_least_49 : decode cX11_least 49 = .ok (.ireturn, 1) := by decide +kernel
set_option maxRecDepth 20000 in
theorem ggX11_like_X11_isKept : GoodIn wsX11_like wsX11_isKept := goodIn_r _ [10, 11, 3, 12, 13, 9, 14, 30, 31, 32, 33, 34, 35, 36, 37, 38, 39, 40, 41, 42, 43, 44, 45, 46, 47, 48, 49, 50, 51, 52, 53, 54, 55, 56, 57, 58] (by decide +kernel) (by decide +kernel)
set_option maxRecDepth 20000 in
theorem gX11_like_X11_isKept : GoodIn wsX11_like (wsV RX11 138 RX11 yX11_isKept wsX11_isKept) := goodIn_app (goodIn_of _ (by decide +kernel)) ggX11_like_X11_isKept
set_option maxRecDepth 20000 in
theorem ggX11_like_X11_factorial : GoodIn wsX11_like wsX11_factorial := goodIn_r _ [17, 15, 16, 9] (by decide +kernel) (by decide +kernel)
set_option maxRecDepth 20000 in
theorem gX11_like_X11_factorial : GoodIn wsX11_like (va_wsS RX11 119 yX11_factorial wsX11_factorial) := goodIn_app (goodIn_of _ (by decide +kernel)) ggX11_like_X11_factorial
set_option maxRecDepth 20000 in
theorem ggX11_like_X11_permutation : GoodIn wsX11_like wsX11_permutation := goodIn_r _ [20, 15, 16, 9, 17] (by decide +kernel) (by decide +kernel)
set_option maxRecDepth 20000 in
theorem gX11_like_X11_permutation : GoodIn wsX11_like (va_wsS RX11 123 yX11_permutation wsX11_permutation) := goodIn_app (goodIn_of _ (by decide +kernel)) ggX11_like_X11_permutation
set_option maxRecDepth 20000 in
theorem ggX11_like_X11_makes : GoodIn wsX11_like wsX11_makes := goodIn_r _ [24, 2, 4, 25, 26, 27, 9, 28, 29, 30, 31, 32, 33, 34, 35, 36, 37, 38, 39, 40, 41, 42, 43, 44, 45, 46, 47, 48, 49, 50, 51, 52, 53, 54, 55, 56, 57, 58] (by decide +kernel) (by decide +kernel)
set_option maxRecDepth 20000 in
theorem gX11_like_X11_makes : GoodIn wsX11_like (wsV RX11 176 RX11 yX11_makes wsX11_makes) := goodIn_app (goodIn_of _ (by decide +kernel)) ggX11_like_X11_makes
theorem dX11_like_0 : decode cX11_like 0 = .ok (.aload_n 0, 1) := by decide +kernel
theorem dX11_like_1 : decode cX11_like 1 = .ok (.iconst 0, 1) := by decide +kernel
theorem dX11_like_2 : decode cX11_like 2 = .ok (.putfield 83, 3) := by decide +kernel
theorem dX11_like_5 : decode cX11_like 5 = .ok (.aload_n 0, 1) := by decide +kernel
theorem dX11_like_6 : decode cX11_like 6 = .ok (.iload_n 1, 1) := by decide +kernel
theorem dX11_like_7 : decode cX11_like 7 = .ok (.invokevirtual 138, 3) := by decide +kernel
theorem dX11_like_10 : decode cX11_like 10 = .ok (.ifCond .ne 5, 3) := by decide +kernel
theorem dX11_like_13 : decode cX11_like 13 = .ok (.iconst (-1), 1) := by decide +kernel
theorem dX11_like_14 : decode cX11_like 14 = .ok (.ireturn, 1) := by decide +kernel
theorem dX11_like_15 : decode cX11_like 15 = .ok (.iconst 0, 1) := by decide +kernel
theorem dX11_like_16 : decode cX11_like 16 = .ok (.istore_n 2, 1) := by decide +kernel
theorem dX11_like_17 : decode cX11_like 17 = .ok (.iload_n 2, 1) := by decide +kernel
theorem dX11_like_18 : decode cX11_like 18 = .ok (.aload_n 0, 1) := by decide +kernel
theorem dX11_like_19 : decode cX11_like 19 = .ok (.getfield 9, 3) := by decide +kernel
theorem dX11_like_22 : decode cX11_like 22 = .ok (.invokestatic 119, 3) := by decide +kernel
theorem dX11_like_25 : decode cX11_like 25 = .ok (.if_icmp .ge 51, 3) := by decide +kernel
theorem dX11_like_28 : decode cX11_like 28 = .ok (.aload_n 0, 1) := by decide +kernel
theorem dX11_like_29 : decode cX11_like 29 = .ok (.getfield 35, 3) := by decide +kernel
theorem dX11_like_32 : decode cX11_like 32 = .ok (.iload_n 1, 1) := by decide +kernel
theorem dX11_like_33 : decode cX11_like 33 = .ok (.iaload, 1) := by decide +kernel
theorem dX11_like_34 : decode cX11_like 34 = .ok (.aload_n 0, 1) := by decide +kernel
theorem dX11_like_35 : decode cX11_like 35 = .ok (.getfield 9, 3) := by decide +kernel
theorem dX11_like_38 : decode cX11_like 38 = .ok (.if_icmp .ne 38, 3) := by decide +kernel
theorem dX11_like_41 : decode cX11_like 41 = .ok (.aload_n 0, 1) := by decide +kernel
theorem dX11_like_42 : decode cX11_like 42 = .ok (.getfield 9, 3) := by decide +kernel
theorem dX11_like_45 : decode cX11_like 45 = .ok (.iload_n 2, 1) := by decide +kernel
theorem dX11_like_46 : decode cX11_like 46 = .ok (.aload_n 0, 1) := by decide +kernel
theorem dX11_like_47 : decode cX11_like 47 = .ok (.getfield 23, 3) := by decide +kernel
theorem dX11_like_50 : decode cX11_like 50 = .ok (.invokestatic 123, 3) := by decide +kernel
theorem dX11_like_53 : decode cX11_like 53 = .ok (.aload_n 0, 1) := by decide +kernel
theorem dX11_like_54 : decode cX11_like 54 = .ok (.aload_n 0, 1) := by decide +kernel
theorem dX11_like_55 : decode cX11_like 55 = .ok (.getfield 38, 3) := by decide +kernel
theorem dX11_like_58 : decode cX11_like 58 = .ok (.bipush 64, 2) := by decide +kernel
theorem dX11_like_60 : decode cX11_like 60 = .ok (.iload_n 1, 1) := by decide +kernel
theorem dX11_like_61 : decode cX11_like 61 = .ok (.imul, 1) := by decide +kernel
theorem dX11_like_62 : decode cX11_like 62 = .ok (.invokevirtual 176, 3) := by decide +kernel
theorem dX11_like_65 : decode cX11_like 65 = .ok (.ifCond .eq 5, 3) := by decide +kernel
theorem dX11_like_68 : decode cX11_like 68 = .ok (.iconst 1, 1) := by decide +kernel
theorem dX11_like_69 : decode cX11_like 69 = .ok (.ireturn, 1) := by decide +kernel
theorem dX11_like_70 : decode cX11_like 70 = .ok (.iinc 2 1, 3) := by decide +kernel
theorem dX11_like_73 : decode cX11_like 73 = .ok (.goto (-56), 3) := by decide +kernel
theorem dX11_like_76 : decode cX11_like 76 = .ok (.iconst 0, 1) := by decide +kernel
theorem dX11_like_77 : decode cX11_like 77 = .ok (.ireturn, 1) := by decide +kernel
set_option maxRecDepth 20000 in
theorem ggX11_dual_X11_unevenRow : GoodIn wsX11_dual wsX11_unevenRow := goodIn_r _ [9, 2, 10, 11, 12, 8, 13, 4, 19, 20, 21, 22, 23, 24, 25, 26, 27, 28, 29, 30, 31, 32, 33, 34, 35, 36, 37, 38, 39, 40, 41, 42, 43, 44, 45, 46, 47] (by decide +kernel) (by decide +kernel)
set_option maxRecDepth 20000 in
theorem gX11_dual_X11_unevenRow : GoodIn wsX11_dual (wsV RX11 147 RX11 yX11_unevenRow wsX11_unevenRow) := goodIn_app (goodIn_of _ (by decide +kernel)) ggX11_dual_X11_unevenRow
set_option maxRecDepth 20000 in
theorem ggX11_dual_X11_straight : GoodIn wsX11_dual wsX11_straight := goodIn_r _ [17, 18, 19, 20, 21, 22, 23, 24, 25, 26, 27, 28, 29, 30, 31, 32, 33, 34, 35, 36, 37, 38, 39, 40, 41, 42, 43, 44, 45, 46, 47] (by decide +kernel) (by decide +kernel)
set_option maxRecDepth 20000 in
theorem gX11_dual_X11_straight : GoodIn wsX11_dual (wsV RX11 90 RX11 yX11_straight wsX11_straight) := goodIn_app (goodIn_of _ (by decide +kernel)) ggX11_dual_X11_straight
set_option maxRecDepth 20000 in
theorem ggX11_dual_X11_by : GoodIn wsX11_dual wsX11_by := goodIn_r _ [13, 4, 19, 20, 21, 22, 23, 24, 25, 26, 27, 28, 29, 30, 31, 32, 33, 34, 35, 36, 37, 38, 39, 40, 41, 42, 43, 44, 45, 46, 47] (by decide +kernel) (by decide +kernel)
set_option maxRecDepth 20000 in
theorem gX11_dual_X11_by : GoodIn wsX11_dual (wsV RX11 99 RX11 yX11_by wsX11_by) := goodIn_app (goodIn_of _ (by decide +kernel)) ggX11_dual_X11_by
theorem dX11_dual_0 : decode cX11_dual 0 = .ok (.aload_n 0, 1) := by decide +kernel
theorem dX11_dual_1 : decode cX11_dual 1 = .ok (.iconst 0, 1) := by decide +kernel
theorem dX11_dual_2 : decode cX11_dual 2 = .ok (.putfield 83, 3) := by decide +kernel
theorem dX11_dual_5 : decode cX11_dual 5 = .ok (.aload_n 0, 1) := by decide +kernel
theorem dX11_dual_6 : decode cX11_dual 6 = .ok (.invokevirtual 147, 3) := by decide +kernel
theorem dX11_dual_9 : decode cX11_dual 9 = .ok (.ifCond .lt 5, 3) := by decide +kernel
theorem dX11_dual_12 : decode cX11_dual 12 = .ok (.iconst 0, 1) := by decide +kernel
theorem dX11_dual_13 : decode cX11_dual 13 = .ok (.ireturn, 1) := by decide +kernel
theorem dX11_dual_14 : decode cX11_dual 14 = .ok (.aload_n 0, 1) := by decide +kernel
theorem dX11_dual_15 : decode cX11_dual 15 = .ok (.invokevirtual 90, 3) := by decide +kernel
theorem dX11_dual_18 : decode cX11_dual 18 = .ok (.iconst 0, 1) := by decide +kernel
theorem dX11_dual_19 : decode cX11_dual 19 = .ok (.istore_n 1, 1) := by decide +kernel
theorem dX11_dual_20 : decode cX11_dual 20 = .ok (.iload_n 1, 1) := by decide +kernel
theorem dX11_dual_21 : decode cX11_dual 21 = .ok (.aload_n 0, 1) := by decide +kernel
theorem dX11_dual_22 : decode cX11_dual 22 = .ok (.getfield 9, 3) := by decide +kernel
theorem dX11_dual_25 : decode cX11_dual 25 = .ok (.if_icmp .ge 70, 3) := by decide +kernel
theorem dX11_dual_28 : decode cX11_dual 28 = .ok (.iconst 0, 1) := by decide +kernel
theorem dX11_dual_29 : decode cX11_dual 29 = .ok (.istore_n 2, 1) := by decide +kernel
theorem dX11_dual_30 : decode cX11_dual 30 = .ok (.iload_n 2, 1) := by decide +kernel
theorem dX11_dual_31 : decode cX11_dual 31 = .ok (.aload_n 0, 1) := by decide +kernel
theorem dX11_dual_32 : decode cX11_dual 32 = .ok (.getfield 9, 3) := by decide +kernel
theorem dX11_dual_35 : decode cX11_dual 35 = .ok (.if_icmp .ge 21, 3) := by decide +kernel
theorem dX11_dual_38 : decode cX11_dual 38 = .ok (.aload_n 0, 1) := by decide +kernel
theorem dX11_dual_39 : decode cX11_dual 39 = .ok (.getfield 26, 3) := by decide +kernel
theorem dX11_dual_42 : decode cX11_dual 42 = .ok (.aload_n 0, 1) := by decide +kernel
theorem dX11_dual_43 : decode cX11_dual 43 = .ok (.iload_n 1, 1) := by decide +kernel
theorem dX11_dual_44 : decode cX11_dual 44 = .ok (.iload_n 2, 1) := by decide +kernel
theorem dX11_dual_45 : decode cX11_dual 45 = .ok (.invokevirtual 99, 3) := by decide +kernel
theorem dX11_dual_48 : decode cX11_dual 48 = .ok (.iload_n 2, 1) := by decide +kernel
theorem dX11_dual_49 : decode cX11_dual 49 = .ok (.iastore, 1) := by decide +kernel
theorem dX11_dual_50 : decode cX11_dual 50 = .ok (.iinc 2 1, 3) := by decide +kernel
theorem dX11_dual_53 : decode cX11_dual 53 = .ok (.goto (-23), 3) := by decide +kernel
theorem dX11_dual_56 : decode cX11_dual 56 = .ok (.iconst 0, 1) := by decide +kernel
theorem dX11_dual_57 : decode cX11_dual 57 = .ok (.istore_n 2, 1) := by decide +kernel
theorem dX11_dual_58 : decode cX11_dual 58 = .ok (.iload_n 2, 1) := by decide +kernel
theorem dX11_dual_59 : decode cX11_dual 59 = .ok (.aload_n 0, 1) := by decide +kernel
theorem dX11_dual_60 : decode cX11_dual 60 = .ok (.getfield 9, 3) := by decide +kernel
theorem dX11_dual_63 : decode cX11_dual 63 = .ok (.if_icmp .ge 26, 3) := by decide +kernel
theorem dX11_dual_66 : decode cX11_dual 66 = .ok (.aload_n 0, 1) := by decide +kernel
theorem dX11_dual_67 : decode cX11_dual 67 = .ok (.getfield 13, 3) := by decide +kernel
theorem dX11_dual_70 : decode cX11_dual 70 = .ok (.bipush 8, 2) := by decide +kernel
theorem dX11_dual_72 : decode cX11_dual 72 = .ok (.iload_n 1, 1) := by decide +kernel
theorem dX11_dual_73 : decode cX11_dual 73 = .ok (.imul, 1) := by decide +kernel
theorem dX11_dual_74 : decode cX11_dual 74 = .ok (.iload_n 2, 1) := by decide +kernel
theorem dX11_dual_75 : decode cX11_dual 75 = .ok (.iadd, 1) := by decide +kernel
theorem dX11_dual_76 : decode cX11_dual 76 = .ok (.aload_n 0, 1) := by decide +kernel
theorem dX11_dual_77 : decode cX11_dual 77 = .ok (.getfield 26, 3) := by decide +kernel
theorem dX11_dual_80 : decode cX11_dual 80 = .ok (.iload_n 2, 1) := by decide +kernel
theorem dX11_dual_81 : decode cX11_dual 81 = .ok (.iaload, 1) := by decide +kernel
theorem dX11_dual_82 : decode cX11_dual 82 = .ok (.iastore, 1) := by decide +kernel
theorem dX11_dual_83 : decode cX11_dual 83 = .ok (.iinc 2 1, 3) := by decide +kernel
theorem dX11_dual_86 : decode cX11_dual 86 = .ok (.goto (-28), 3) := by decide +kernel
theorem dX11_dual_89 : decode cX11_dual 89 = .ok (.iinc 1 1, 3) := by decide +kernel
theorem dX11_dual_92 : decode cX11_dual 92 = .ok (.goto (-72), 3) := by decide +kernel
theorem dX11_dual_95 : decode cX11_dual 95 = .ok (.iconst 1, 1) := by decide +kernel
theorem dX11_dual_96 : decode cX11_dual 96 = .ok (.ireturn, 1) := by decide +kernel
set_option maxRecDepth 20000 in
theorem ggX11_becomes_X11_straight : GoodIn wsX11_becomes wsX11_straight := goodIn_r _ [8, 9, 10, 11, 12, 13, 14, 15, 16, 17, 18, 19, 20, 21, 22, 23, 24, 25, 26, 27, 28, 29, 30, 31, 32, 33, 34, 35, 36, 37, 38] (by decide +kernel) (by decide +kernel)
set_option maxRecDepth 20000 in
theorem gX11_becomes_X11_straight : GoodIn wsX11_becomes (wsV RX11 90 RX11 yX11_straight wsX11_straight) := goodIn_app (goodIn_of _ (by decide +kernel)) ggX11_becomes_X11_straight
theorem dX11_becomes_0 : decode cX11_becomes 0 = .ok (.aload_n 0, 1) := by decide +kernel
theorem dX11_becomes_1 : decode cX11_becomes 1 = .ok (.iload_n 1, 1) := by decide +kernel
theorem dX11_becomes_2 : decode cX11_becomes 2 = .ok (.putfield 9, 3) := by decide +kernel
theorem dX11_becomes_5 : decode cX11_becomes 5 = .ok (.aload_n 0, 1) := by decide +kernel
theorem dX11_becomes_6 : decode cX11_becomes 6 = .ok (.invokevirtual 90, 3) := by decide +kernel
theorem dX11_becomes_9 : decode cX11_becomes 9 = .ok (.iconst 0, 1) := by decide +kernel
theorem dX11_becomes_10 : decode cX11_becomes 10 = .ok (.istore_n 2, 1) := by decide +kernel
theorem dX11_becomes_11 : decode cX11_becomes 11 = .ok (.iload_n 2, 1) := by decide +kernel
theorem dX11_becomes_12 : decode cX11_becomes 12 = .ok (.bipush 64, 2) := by decide +kernel
theorem dX11_becomes_14 : decode cX11_becomes 14 = .ok (.if_icmp .ge 21, 3) := by decide +kernel
theorem dX11_becomes_17 : decode cX11_becomes 17 = .ok (.aload_n 0, 1) := by decide +kernel
theorem dX11_becomes_18 : decode cX11_becomes 18 = .ok (.getfield 13, 3) := by decide +kernel
theorem dX11_becomes_21 : decode cX11_becomes 21 = .ok (.iload_n 2, 1) := by decide +kernel
theorem dX11_becomes_22 : decode cX11_becomes 22 = .ok (.aload_n 0, 1) := by decide +kernel
theorem dX11_becomes_23 : decode cX11_becomes 23 = .ok (.getfield 58, 3) := by decide +kernel
theorem dX11_becomes_26 : decode cX11_becomes 26 = .ok (.iload_n 2, 1) := by decide +kernel
theorem dX11_becomes_27 : decode cX11_becomes 27 = .ok (.iaload, 1) := by decide +kernel
theorem dX11_becomes_28 : decode cX11_becomes 28 = .ok (.iastore, 1) := by decide +kernel
theorem dX11_becomes_29 : decode cX11_becomes 29 = .ok (.iinc 2 1, 3) := by decide +kernel
theorem dX11_becomes_32 : decode cX11_becomes 32 = .ok (.goto (-21), 3) := by decide +kernel
theorem dX11_becomes_35 : decode cX11_becomes 35 = .ok (.return_, 1) := by decide +kernel
set_option maxRecDepth 20000 in
theorem ggX11_times_X11_isKept : GoodIn wsX11_times wsX11_isKept := goodIn_r _ [10, 11, 3, 12, 13, 9, 14, 29, 30, 31, 32, 33, 34, 35, 36, 37, 38, 39, 40, 41, 42, 43, 44, 45, 46, 47, 48, 49, 50, 51, 52, 53, 54, 55, 56, 57] (by decide +kernel) (by decide +kernel)
set_option maxRecDepth 20000 in
theorem gX11_times_X11_isKept : GoodIn wsX11_times (wsV RX11 138 RX11 yX11_isKept wsX11_isKept) := goodIn_app (goodIn_of _ (by decide +kernel)) ggX11_times_X11_isKept
set_option maxRecDepth 20000 in
theorem ggX11_times_X11_by : GoodIn wsX11_times wsX11_by := goodIn_r _ [18, 19, 29, 30, 31, 32, 33, 34, 35, 36, 37, 38, 39, 40, 41, 42, 43, 44, 45, 46, 47, 48, 49, 50, 51, 52, 53, 54, 55, 56, 57] (by decide +kernel) (by decide +kernel)
set_option maxRecDepth 20000 in
theorem gX11_times_X11_by : GoodIn wsX11_times (wsV RX11 99 RX11 yX11_by wsX11_by) := goodIn_app (goodIn_of _ (by decide +kernel)) ggX11_times_X11_by
set_option maxRecDepth 20000 in
theorem ggX11_times_X11_becomes : GoodIn wsX11_times wsX11_becomes := goodIn_r _ [23, 2, 19, 4, 24, 25, 26, 9, 27, 28, 29, 30, 31, 32, 33, 34, 35, 36, 37, 38, 39, 40, 41, 42, 43, 44, 45, 46, 47, 48, 49, 50, 51, 52, 53, 54, 55, 56, 57] (by decide +kernel) (by decide +kernel)
set_option maxRecDepth 20000 in
theorem gX11_times_X11_becomes : GoodIn wsX11_times (wsV RX11 189 RX11 yX11_becomes wsX11_becomes) := goodIn_app (goodIn_of _ (by decide +kernel)) ggX11_times_X11_becomes
theorem dX11_times_0 : decode cX11_times 0 = .ok (.aload_n 0, 1) := by decide +kernel
theorem dX11_times_1 : decode cX11_times 1 = .ok (.iconst 0, 1) := by decide +kernel
theorem dX11_times_2 : decode cX11_times 2 = .ok (.putfield 83, 3) := by decide +kernel
theorem dX11_times_5 : decode cX11_times 5 = .ok (.aload_n 0, 1) := by decide +kernel
theorem dX11_times_6 : decode cX11_times 6 = .ok (.iload_n 1, 1) := by decide +kernel
theorem dX11_times_7 : decode cX11_times 7 = .ok (.invokevirtual 138, 3) := by decide +kernel
theorem dX11_times_10 : decode cX11_times 10 = .ok (.ifCond .eq 19, 3) := by decide +kernel
theorem dX11_times_13 : decode cX11_times 13 = .ok (.aload_n 0, 1) := by decide +kernel
theorem dX11_times_14 : decode cX11_times 14 = .ok (.getfield 9, 3) := by decide +kernel
theorem dX11_times_17 : decode cX11_times 17 = .ok (.aload_n 0, 1) := by decide +kernel
theorem dX11_times_18 : decode cX11_times 18 = .ok (.getfield 35, 3) := by decide +kernel
theorem dX11_times_21 : decode cX11_times 21 = .ok (.iload_n 1, 1) := by decide +kernel
theorem dX11_times_22 : decode cX11_times 22 = .ok (.iaload, 1) := by decide +kernel
theorem dX11_times_23 : decode cX11_times 23 = .ok (.imul, 1) := by decide +kernel
theorem dX11_times_24 : decode cX11_times 24 = .ok (.bipush 8, 2) := by decide +kernel
theorem dX11_times_26 : decode cX11_times 26 = .ok (.if_icmp .le 5, 3) := by decide +kernel
theorem dX11_times_29 : decode cX11_times 29 = .ok (.iconst (-1), 1) := by decide +kernel
theorem dX11_times_30 : decode cX11_times 30 = .ok (.ireturn, 1) := by decide +kernel
theorem dX11_times_31 : decode cX11_times 31 = .ok (.aload_n 0, 1) := by decide +kernel
theorem dX11_times_32 : decode cX11_times 32 = .ok (.getfield 35, 3) := by decide +kernel
theorem dX11_times_35 : decode cX11_times 35 = .ok (.iload_n 1, 1) := by decide +kernel
theorem dX11_times_36 : decode cX11_times 36 = .ok (.iaload, 1) := by decide +kernel
theorem dX11_times_37 : decode cX11_times 37 = .ok (.istore_n 2, 1) := by decide +kernel
theorem dX11_times_38 : decode cX11_times 38 = .ok (.aload_n 0, 1) := by decide +kernel
theorem dX11_times_39 : decode cX11_times 39 = .ok (.getfield 9, 3) := by decide +kernel
theorem dX11_times_42 : decode cX11_times 42 = .ok (.iload_n 2, 1) := by decide +kernel
theorem dX11_times_43 : decode cX11_times 43 = .ok (.imul, 1) := by decide +kernel
theorem dX11_times_44 : decode cX11_times 44 = .ok (.istore_n 3, 1) := by decide +kernel
theorem dX11_times_45 : decode cX11_times 45 = .ok (.iconst 0, 1) := by decide +kernel
theorem dX11_times_46 : decode cX11_times 46 = .ok (.istore 4, 2) := by decide +kernel
theorem dX11_times_48 : decode cX11_times 48 = .ok (.iload 4, 2) := by decide +kernel
theorem dX11_times_50 : decode cX11_times 50 = .ok (.iload_n 3, 1) := by decide +kernel
theorem dX11_times_51 : decode cX11_times 51 = .ok (.if_icmp .ge 74, 3) := by decide +kernel
theorem dX11_times_54 : decode cX11_times 54 = .ok (.iconst 0, 1) := by decide +kernel
theorem dX11_times_55 : decode cX11_times 55 = .ok (.istore 5, 2) := by decide +kernel
theorem dX11_times_57 : decode cX11_times 57 = .ok (.iload 5, 2) := by decide +kernel
theorem dX11_times_59 : decode cX11_times 59 = .ok (.iload_n 3, 1) := by decide +kernel
theorem dX11_times_60 : decode cX11_times 60 = .ok (.if_icmp .ge 59, 3) := by decide +kernel
theorem dX11_times_63 : decode cX11_times 63 = .ok (.aload_n 0, 1) := by decide +kernel
theorem dX11_times_64 : decode cX11_times 64 = .ok (.getfield 58, 3) := by decide +kernel
theorem dX11_times_67 : decode cX11_times 67 = .ok (.bipush 8, 2) := by decide +kernel
theorem dX11_times_69 : decode cX11_times 69 = .ok (.iload 4, 2) := by decide +kernel
theorem dX11_times_71 : decode cX11_times 71 = .ok (.imul, 1) := by decide +kernel
theorem dX11_times_72 : decode cX11_times 72 = .ok (.iload 5, 2) := by decide +kernel
theorem dX11_times_74 : decode cX11_times 74 = .ok (.iadd, 1) := by decide +kernel
theorem dX11_times_75 : decode cX11_times 75 = .ok (.iload_n 2, 1) := by decide +kernel
theorem dX11_times_76 : decode cX11_times 76 = .ok (.aload_n 0, 1) := by decide +kernel
theorem dX11_times_77 : decode cX11_times 77 = .ok (.iload 4, 2) := by decide +kernel
theorem dX11_times_79 : decode cX11_times 79 = .ok (.iload_n 2, 1) := by decide +kernel
theorem dX11_times_80 : decode cX11_times 80 = .ok (.idiv, 1) := by decide +kernel
theorem dX11_times_81 : decode cX11_times 81 = .ok (.iload 5, 2) := by decide +kernel
theorem dX11_times_83 : decode cX11_times 83 = .ok (.iload_n 2, 1) := by decide +kernel
theorem dX11_times_84 : decode cX11_times 84 = .ok (.idiv, 1) := by decide +kernel
theorem dX11_times_85 : decode cX11_times 85 = .ok (.invokevirtual 99, 3) := by decide +kernel
theorem dX11_times_88 : decode cX11_times 88 = .ok (.imul, 1) := by decide +kernel
theorem dX11_times_89 : decode cX11_times 89 = .ok (.aload_n 0, 1) := by decide +kernel
theorem dX11_times_90 : decode cX11_times 90 = .ok (.getfield 38, 3) := by decide +kernel
theorem dX11_times_93 : decode cX11_times 93 = .ok (.bipush 64, 2) := by decide +kernel
theorem dX11_times_95 : decode cX11_times 95 = .ok (.iload_n 1, 1) := by decide +kernel
theorem dX11_times_96 : decode cX11_times 96 = .ok (.imul, 1) := by decide +kernel
theorem dX11_times_97 : decode cX11_times 97 = .ok (.bipush 8, 2) := by decide +kernel
theorem dX11_times_99 : decode cX11_times 99 = .ok (.iload 4, 2) := by decide +kernel
theorem dX11_times_101 : decode cX11_times 101 = .ok (.iload_n 2, 1) := by decide +kernel
theorem dX11_times_102 : decode cX11_times 102 = .ok (.irem, 1) := by decide +kernel
theorem dX11_times_103 : decode cX11_times 103 = .ok (.imul, 1) := by decide +kernel
theorem dX11_times_104 : decode cX11_times 104 = .ok (.iadd, 1) := by decide +kernel
theorem dX11_times_105 : decode cX11_times 105 = .ok (.iload 5, 2) := by decide +kernel
theorem dX11_times_107 : decode cX11_times 107 = .ok (.iload_n 2, 1) := by decide +kernel
theorem dX11_times_108 : decode cX11_times 108 = .ok (.irem, 1) := by decide +kernel
theorem dX11_times_109 : decode cX11_times 109 = .ok (.iadd, 1) := by decide +kernel
theorem dX11_times_110 : decode cX11_times 110 = .ok (.iaload, 1) := by decide +kernel
theorem dX11_times_111 : decode cX11_times 111 = .ok (.iadd, 1) := by decide +kernel
theorem dX11_times_112 : decode cX11_times 112 = .ok (.iastore, 1) := by decide +kernel
theorem dX11_times_113 : decode cX11_times 113 = .ok (.iinc 5 1, 3) := by decide +kernel
theorem dX11_times_116 : decode cX11_times 116 = .ok (.goto (-59), 3) := by decide +kernel
theorem dX11_times_119 : decode cX11_times 119 = .ok (.iinc 4 1, 3) := by decide +kernel
theorem dX11_times_122 : decode cX11_times 122 = .ok (.goto (-74), 3) := by decide +kernel
theorem dX11_times_125 : decode cX11_times 125 = .ok (.aload_n 0, 1) := by decide +kernel
theorem dX11_times_126 : decode cX11_times 126 = .ok (.iload_n 3, 1) := by decide +kernel
theorem dX11_times_127 : decode cX11_times 127 = .ok (.invokevirtual 189, 3) := by decide +kernel
theorem dX11_times_130 : decode cX11_times 130 = .ok (.aload_n 0, 1) := by decide +kernel
theorem dX11_times_131 : decode cX11_times 131 = .ok (.getfield 9, 3) := by decide +kernel
theorem dX11_times_134 : decode cX11_times 134 = .ok (.ireturn, 1) := by decide +kernel
theorem dX11_melts_0 : decode cX11_melts 0 = .ok (.aload_n 0, 1) := by decide +kernel
theorem dX11_melts_1 : decode cX11_melts 1 = .ok (.getfield 61, 3) := by decide +kernel
theorem dX11_melts_4 : decode cX11_melts 4 = .ok (.iload_n 1, 1) := by decide +kernel
theorem dX11_melts_5 : decode cX11_melts 5 = .ok (.iaload, 1) := by decide +kernel
theorem dX11_melts_6 : decode cX11_melts 6 = .ok (.aload_n 0, 1) := by decide +kernel
theorem dX11_melts_7 : decode cX11_melts 7 = .ok (.getfield 61, 3) := by decide +kernel
theorem dX11_melts_10 : decode cX11_melts 10 = .ok (.iload_n 2, 1) := by decide +kernel
theorem dX11_melts_11 : decode cX11_melts 11 = .ok (.iaload, 1) := by decide +kernel
theorem dX11_melts_12 : decode cX11_melts 12 = .ok (.invokestatic 156, 3) := by decide +kernel
theorem dX11_melts_15 : decode cX11_melts 15 = .ok (.istore_n 3, 1) := by decide +kernel
theorem dX11_melts_16 : decode cX11_melts 16 = .ok (.aload_n 0, 1) := by decide +kernel
theorem dX11_melts_17 : decode cX11_melts 17 = .ok (.getfield 61, 3) := by decide +kernel
theorem dX11_melts_20 : decode cX11_melts 20 = .ok (.iload_n 1, 1) := by decide +kernel
theorem dX11_melts_21 : decode cX11_melts 21 = .ok (.iaload, 1) := by decide +kernel
theorem dX11_melts_22 : decode cX11_melts 22 = .ok (.aload_n 0, 1) := by decide +kernel
theorem dX11_melts_23 : decode cX11_melts 23 = .ok (.getfield 61, 3) := by decide +kernel
theorem dX11_melts_26 : decode cX11_melts 26 = .ok (.iload_n 2, 1) := by decide +kernel
theorem dX11_melts_27 : decode cX11_melts 27 = .ok (.iaload, 1) := by decide +kernel
theorem dX11_melts_28 : decode cX11_melts 28 = .ok (.invokestatic 192, 3) := by decide +kernel
theorem dX11_melts_31 : decode cX11_melts 31 = .ok (.istore 4, 2) := by decide +kernel
theorem dX11_melts_33 : decode cX11_melts 33 = .ok (.iconst 0, 1) := by decide +kernel
theorem dX11_melts_34 : decode cX11_melts 34 = .ok (.istore 5, 2) := by decide +kernel
theorem dX11_melts_36 : decode cX11_melts 36 = .ok (.iload 5, 2) := by decide +kernel
theorem dX11_melts_38 : decode cX11_melts 38 = .ok (.aload_n 0, 1) := by decide +kernel
theorem dX11_melts_39 : decode cX11_melts 39 = .ok (.getfield 9, 3) := by decide +kernel
theorem dX11_melts_42 : decode cX11_melts 42 = .ok (.if_icmp .ge 39, 3) := by decide +kernel
theorem dX11_melts_45 : decode cX11_melts 45 = .ok (.aload_n 0, 1) := by decide +kernel
theorem dX11_melts_46 : decode cX11_melts 46 = .ok (.getfield 61, 3) := by decide +kernel
theorem dX11_melts_49 : decode cX11_melts 49 = .ok (.iload 5, 2) := by decide +kernel
theorem dX11_melts_51 : decode cX11_melts 51 = .ok (.aload_n 0, 1) := by decide +kernel
theorem dX11_melts_52 : decode cX11_melts 52 = .ok (.getfield 61, 3) := by decide +kernel
theorem dX11_melts_55 : decode cX11_melts 55 = .ok (.iload 5, 2) := by decide +kernel
theorem dX11_melts_57 : decode cX11_melts 57 = .ok (.iaload, 1) := by decide +kernel
theorem dX11_melts_58 : decode cX11_melts 58 = .ok (.iload 4, 2) := by decide +kernel
theorem dX11_melts_60 : decode cX11_melts 60 = .ok (.if_icmp .ne 7, 3) := by decide +kernel
theorem dX11_melts_63 : decode cX11_melts 63 = .ok (.iload_n 3, 1) := by decide +kernel
theorem dX11_melts_64 : decode cX11_melts 64 = .ok (.goto 10, 3) := by decide +kernel
theorem dX11_melts_67 : decode cX11_melts 67 = .ok (.aload_n 0, 1) := by decide +kernel
theorem dX11_melts_68 : decode cX11_melts 68 = .ok (.getfield 61, 3) := by decide +kernel
theorem dX11_melts_71 : decode cX11_melts 71 = .ok (.iload 5, 2) := by decide +kernel
theorem dX11_melts_73 : decode cX11_melts 73 = .ok (.iaload, 1) := by decide +kernel
theorem dX11_melts_74 : decode cX11_melts 74 = .ok (.iastore, 1) := by decide +kernel
theorem dX11_melts_75 : decode cX11_melts 75 = .ok (.iinc 5 1, 3) := by decide +kernel
theorem dX11_melts_78 : decode cX11_melts 78 = .ok (.goto (-42), 3) := by decide +kernel
theorem dX11_melts_81 : decode cX11_melts 81 = .ok (.iload_n 3, 1) := by decide +kernel
theorem dX11_melts_82 : decode cX11_melts 82 = .ok (.iload 4, 2) := by decide +kernel
theorem dX11_melts_84 : decode cX11_melts 84 = .ok (.if_icmp .eq 7, 3) := by decide +kernel
theorem dX11_melts_87 : decode cX11_melts 87 = .ok (.iconst 1, 1) := by decide +kernel
theorem dX11_melts_88 : decode cX11_melts 88 = .ok (.goto 4, 3) := by decide +kernel
theorem dX11_melts_91 : decode cX11_melts 91 = .ok (.iconst 0, 1) := by decide +kernel
theorem dX11_melts_92 : decode cX11_melts 92 = .ok (.ireturn, 1) := by decide +kernel
set_option maxRecDepth 20000 in
theorem ggX11_part_X11_isThing : GoodIn wsX11_part wsX11_isThing := goodIn_r _ [9, 2, 10, 11, 8, 12, 55, 56, 57, 58, 59, 60, 61, 62, 63, 64, 65, 66, 67, 68, 69, 70, 71, 72, 73, 74, 75, 76, 77, 78, 79, 80, 81, 82, 83] (by decide +kernel) (by decide +kernel)
set_option maxRecDepth 20000 in
theorem gX11_part_X11_isThing : GoodIn wsX11_part (wsV RX11 95 RX11 yX11_isThing wsX11_isThing) := goodIn_app (goodIn_of _ (by decide +kernel)) ggX11_part_X11_isThing
set_option maxRecDepth 20000 in
theorem ggX11_part_X11_isRack : GoodIn wsX11_part wsX11_isRack := goodIn_r _ [16, 17, 18, 19, 8, 20, 2, 21, 22, 23, 24, 25, 26, 27, 28, 29, 55, 56, 57, 58, 59, 60, 61, 62, 63, 64, 65, 66, 67, 68, 69, 70, 71, 72, 73, 74, 75, 76, 77, 78, 79, 80, 81, 82, 83] (by decide +kernel) (by decide +kernel)
set_option maxRecDepth 20000 in
theorem gX11_part_X11_isRack : GoodIn wsX11_part (wsV RX11 165 RX11 yX11_isRack wsX11_isRack) := goodIn_app (goodIn_of _ (by decide +kernel)) ggX11_part_X11_isRack
set_option maxRecDepth 20000 in
theorem ggX11_part_X11_melts : GoodIn wsX11_part wsX11_melts := goodIn_r _ [33, 3, 34, 35, 36, 37, 38, 39, 40, 2, 55, 56, 57, 58, 59, 60, 61, 62, 63, 64, 65, 66, 67, 68, 69, 70, 71, 72, 73, 74, 75, 76, 77, 78, 79, 80, 81, 82, 83] (by decide +kernel) (by decide +kernel)
set_option maxRecDepth 20000 in
theorem gX11_part_X11_melts : GoodIn wsX11_part (wsV RX11 195 RX11 yX11_melts wsX11_melts) := goodIn_app (goodIn_of _ (by decide +kernel)) ggX11_part_X11_melts
set_option maxRecDepth 20000 in
theorem ggX11_part_X11_by : GoodIn wsX11_part wsX11_by := goodIn_r _ [24, 25, 55, 56, 57, 58, 59, 60, 61, 62, 63, 64, 65, 66, 67, 68, 69, 70, 71, 72, 73, 74, 75, 76, 77, 78, 79, 80, 81, 82, 83] (by decide +kernel) (by decide +kernel)
set_option maxRecDepth 20000 in
theorem gX11_part_X11_by : GoodIn wsX11_part (wsV RX11 99 RX11 yX11_by wsX11_by) := goodIn_app (goodIn_of _ (by decide +kernel)) ggX11_part_X11_by
set_option maxRecDepth 20000 in
theorem ggX11_part_X11_numbered : GoodIn wsX11_part wsX11_numbered := goodIn_r _ [44, 2, 45, 55, 56, 57, 58, 59, 60, 61, 62, 63, 64, 65, 66, 67, 68, 69, 70, 71, 72, 73, 74, 75, 76, 77, 78, 79, 80, 81, 82, 83] (by decide +kernel) (by decide +kernel)
set_option maxRecDepth 20000 in
theorem gX11_part_X11_numbered : GoodIn wsX11_part (wsV RX11 159 RX11 yX11_numbered wsX11_numbered) := goodIn_app (goodIn_of _ (by decide +kernel)) ggX11_part_X11_numbered
set_option maxRecDepth 20000 in
theorem ggX11_part_X11_becomes : GoodIn wsX11_part wsX11_becomes := goodIn_r _ [49, 2, 25, 4, 50, 51, 52, 8, 53, 54, 55, 56, 57, 58, 59, 60, 61, 62, 63, 64, 65, 66, 67, 68, 69, 70, 71, 72, 73, 74, 75, 76, 77, 78, 79, 80, 81, 82, 83] (by decide +kernel) (by decide +kernel)
set_option maxRecDepth 20000 in
theorem gX11_part_X11_becomes : GoodIn wsX11_part (wsV RX11 189 RX11 yX11_becomes wsX11_becomes) := goodIn_app (goodIn_of _ (by decide +kernel)) ggX11_part_X11_becomes
theorem dX11_part_0 : decode cX11_part 0 = .ok (.aload_n 0, 1) := by decide +kernel
theorem dX11_part_1 : decode cX11_part 1 = .ok (.iconst 0, 1) := by decide +kernel
theorem dX11_part_2 : decode cX11_part 2 = .ok (.putfield 83, 3) := by decide +kernel
theorem dX11_part_5 : decode cX11_part 5 = .ok (.aload_n 0, 1) := by decide +kernel
theorem dX11_part_6 : decode cX11_part 6 = .ok (.iload_n 1, 1) := by decide +kernel
theorem dX11_part_7 : decode cX11_part 7 = .ok (.invokevirtual 95, 3) := by decide +kernel
theorem dX11_part_10 : decode cX11_part 10 = .ok (.ifCond .eq 18, 3) := by decide +kernel
theorem dX11_part_13 : decode cX11_part 13 = .ok (.aload_n 0, 1) := by decide +kernel
theorem dX11_part_14 : decode cX11_part 14 = .ok (.iload_n 2, 1) := by decide +kernel
theorem dX11_part_15 : decode cX11_part 15 = .ok (.invokevirtual 95, 3) := by decide +kernel
theorem dX11_part_18 : decode cX11_part 18 = .ok (.ifCond .eq 10, 3) := by decide +kernel
theorem dX11_part_21 : decode cX11_part 21 = .ok (.aload_n 0, 1) := by decide +kernel
theorem dX11_part_22 : decode cX11_part 22 = .ok (.invokevirtual 165, 3) := by decide +kernel
theorem dX11_part_25 : decode cX11_part 25 = .ok (.ifCond .ne 5, 3) := by decide +kernel
theorem dX11_part_28 : decode cX11_part 28 = .ok (.iconst (-1), 1) := by decide +kernel
theorem dX11_part_29 : decode cX11_part 29 = .ok (.ireturn, 1) := by decide +kernel
theorem dX11_part_30 : decode cX11_part 30 = .ok (.iconst 0, 1) := by decide +kernel
theorem dX11_part_31 : decode cX11_part 31 = .ok (.istore_n 3, 1) := by decide +kernel
theorem dX11_part_32 : decode cX11_part 32 = .ok (.iload_n 3, 1) := by decide +kernel
theorem dX11_part_33 : decode cX11_part 33 = .ok (.aload_n 0, 1) := by decide +kernel
theorem dX11_part_34 : decode cX11_part 34 = .ok (.getfield 9, 3) := by decide +kernel
theorem dX11_part_37 : decode cX11_part 37 = .ok (.if_icmp .ge 16, 3) := by decide +kernel
theorem dX11_part_40 : decode cX11_part 40 = .ok (.aload_n 0, 1) := by decide +kernel
theorem dX11_part_41 : decode cX11_part 41 = .ok (.getfield 61, 3) := by decide +kernel
theorem dX11_part_44 : decode cX11_part 44 = .ok (.iload_n 3, 1) := by decide +kernel
theorem dX11_part_45 : decode cX11_part 45 = .ok (.iload_n 3, 1) := by decide +kernel
theorem dX11_part_46 : decode cX11_part 46 = .ok (.iastore, 1) := by decide +kernel
theorem dX11_part_47 : decode cX11_part 47 = .ok (.iinc 3 1, 3) := by decide +kernel
theorem dX11_part_50 : decode cX11_part 50 = .ok (.goto (-18), 3) := by decide +kernel
theorem dX11_part_53 : decode cX11_part 53 = .ok (.aload_n 0, 1) := by decide +kernel
theorem dX11_part_54 : decode cX11_part 54 = .ok (.iload_n 1, 1) := by decide +kernel
theorem dX11_part_55 : decode cX11_part 55 = .ok (.iload_n 2, 1) := by decide +kernel
theorem dX11_part_56 : decode cX11_part 56 = .ok (.invokevirtual 195, 3) := by decide +kernel
theorem dX11_part_59 : decode cX11_part 59 = .ok (.istore_n 3, 1) := by decide +kernel
theorem dX11_part_60 : decode cX11_part 60 = .ok (.iload_n 3, 1) := by decide +kernel
theorem dX11_part_61 : decode cX11_part 61 = .ok (.ifCond .eq 145, 3) := by decide +kernel
theorem dX11_part_64 : decode cX11_part 64 = .ok (.iconst 0, 1) := by decide +kernel
theorem dX11_part_65 : decode cX11_part 65 = .ok (.istore_n 3, 1) := by decide +kernel
theorem dX11_part_66 : decode cX11_part 66 = .ok (.iconst 0, 1) := by decide +kernel
theorem dX11_part_67 : decode cX11_part 67 = .ok (.istore 4, 2) := by decide +kernel
theorem dX11_part_69 : decode cX11_part 69 = .ok (.iload 4, 2) := by decide +kernel
theorem dX11_part_71 : decode cX11_part 71 = .ok (.aload_n 0, 1) := by decide +kernel
theorem dX11_part_72 : decode cX11_part 72 = .ok (.getfield 9, 3) := by decide +kernel
theorem dX11_part_75 : decode cX11_part 75 = .ok (.if_icmp .ge 128, 3) := by decide +kernel
theorem dX11_part_78 : decode cX11_part 78 = .ok (.iconst 0, 1) := by decide +kernel
theorem dX11_part_79 : decode cX11_part 79 = .ok (.istore 5, 2) := by decide +kernel
theorem dX11_part_81 : decode cX11_part 81 = .ok (.iload 5, 2) := by decide +kernel
theorem dX11_part_83 : decode cX11_part 83 = .ok (.aload_n 0, 1) := by decide +kernel
theorem dX11_part_84 : decode cX11_part 84 = .ok (.getfield 9, 3) := by decide +kernel
theorem dX11_part_87 : decode cX11_part 87 = .ok (.if_icmp .ge 110, 3) := by decide +kernel
theorem dX11_part_90 : decode cX11_part 90 = .ok (.iconst 0, 1) := by decide +kernel
theorem dX11_part_91 : decode cX11_part 91 = .ok (.istore 6, 2) := by decide +kernel
theorem dX11_part_93 : decode cX11_part 93 = .ok (.iload 6, 2) := by decide +kernel
theorem dX11_part_95 : decode cX11_part 95 = .ok (.aload_n 0, 1) := by decide +kernel
theorem dX11_part_96 : decode cX11_part 96 = .ok (.getfield 9, 3) := by decide +kernel
theorem dX11_part_99 : decode cX11_part 99 = .ok (.if_icmp .ge 92, 3) := by decide +kernel
theorem dX11_part_102 : decode cX11_part 102 = .ok (.aload_n 0, 1) := by decide +kernel
theorem dX11_part_103 : decode cX11_part 103 = .ok (.getfield 61, 3) := by decide +kernel
theorem dX11_part_106 : decode cX11_part 106 = .ok (.iload 4, 2) := by decide +kernel
theorem dX11_part_108 : decode cX11_part 108 = .ok (.iaload, 1) := by decide +kernel
theorem dX11_part_109 : decode cX11_part 109 = .ok (.aload_n 0, 1) := by decide +kernel
theorem dX11_part_110 : decode cX11_part 110 = .ok (.getfield 61, 3) := by decide +kernel
theorem dX11_part_113 : decode cX11_part 113 = .ok (.iload 5, 2) := by decide +kernel
theorem dX11_part_115 : decode cX11_part 115 = .ok (.iaload, 1) := by decide +kernel
theorem dX11_part_116 : decode cX11_part 116 = .ok (.if_icmp .ne 75, 3) := by decide +kernel
theorem dX11_part_119 : decode cX11_part 119 = .ok (.aload_n 0, 1) := by decide +kernel
theorem dX11_part_120 : decode cX11_part 120 = .ok (.aload_n 0, 1) := by decide +kernel
theorem dX11_part_121 : decode cX11_part 121 = .ok (.iload 4, 2) := by decide +kernel
theorem dX11_part_123 : decode cX11_part 123 = .ok (.iload 6, 2) := by decide +kernel
theorem dX11_part_125 : decode cX11_part 125 = .ok (.invokevirtual 99, 3) := by decide +kernel
theorem dX11_part_128 : decode cX11_part 128 = .ok (.aload_n 0, 1) := by decide +kernel
theorem dX11_part_129 : decode cX11_part 129 = .ok (.iload 5, 2) := by decide +kernel
theorem dX11_part_131 : decode cX11_part 131 = .ok (.iload 6, 2) := by decide +kernel
theorem dX11_part_133 : decode cX11_part 133 = .ok (.invokevirtual 99, 3) := by decide +kernel
theorem dX11_part_136 : decode cX11_part 136 = .ok (.invokevirtual 195, 3) := by decide +kernel
theorem dX11_part_139 : decode cX11_part 139 = .ok (.ifCond .ne 7, 3) := by decide +kernel
theorem dX11_part_142 : decode cX11_part 142 = .ok (.iload_n 3, 1) := by decide +kernel
theorem dX11_part_143 : decode cX11_part 143 = .ok (.ifCond .eq 7, 3) := by decide +kernel
theorem dX11_part_146 : decode cX11_part 146 = .ok (.iconst 1, 1) := by decide +kernel
theorem dX11_part_147 : decode cX11_part 147 = .ok (.goto 4, 3) := by decide +kernel
theorem dX11_part_150 : decode cX11_part 150 = .ok (.iconst 0, 1) := by decide +kernel
theorem dX11_part_151 : decode cX11_part 151 = .ok (.istore_n 3, 1) := by decide +kernel
theorem dX11_part_152 : decode cX11_part 152 = .ok (.aload_n 0, 1) := by decide +kernel
theorem dX11_part_153 : decode cX11_part 153 = .ok (.aload_n 0, 1) := by decide +kernel
theorem dX11_part_154 : decode cX11_part 154 = .ok (.iload 6, 2) := by decide +kernel
theorem dX11_part_156 : decode cX11_part 156 = .ok (.iload 4, 2) := by decide +kernel
theorem dX11_part_158 : decode cX11_part 158 = .ok (.invokevirtual 99, 3) := by decide +kernel
theorem dX11_part_161 : decode cX11_part 161 = .ok (.aload_n 0, 1) := by decide +kernel
theorem dX11_part_162 : decode cX11_part 162 = .ok (.iload 6, 2) := by decide +kernel
theorem dX11_part_164 : decode cX11_part 164 = .ok (.iload 5, 2) := by decide +kernel
theorem dX11_part_166 : decode cX11_part 166 = .ok (.invokevirtual 99, 3) := by decide +kernel
theorem dX11_part_169 : decode cX11_part 169 = .ok (.invokevirtual 195, 3) := by decide +kernel
theorem dX11_part_172 : decode cX11_part 172 = .ok (.ifCond .ne 7, 3) := by decide +kernel
theorem dX11_part_175 : decode cX11_part 175 = .ok (.iload_n 3, 1) := by decide +kernel
theorem dX11_part_176 : decode cX11_part 176 = .ok (.ifCond .eq 7, 3) := by decide +kernel
theorem dX11_part_179 : decode cX11_part 179 = .ok (.iconst 1, 1) := by decide +kernel
theorem dX11_part_180 : decode cX11_part 180 = .ok (.goto 4, 3) := by decide +kernel
theorem dX11_part_183 : decode cX11_part 183 = .ok (.iconst 0, 1) := by decide +kernel
theorem dX11_part_184 : decode cX11_part 184 = .ok (.istore_n 3, 1) := by decide +kernel
theorem dX11_part_185 : decode cX11_part 185 = .ok (.iinc 6 1, 3) := by decide +kernel
theorem dX11_part_188 : decode cX11_part 188 = .ok (.goto (-95), 3) := by decide +kernel
theorem dX11_part_191 : decode cX11_part 191 = .ok (.iinc 5 1, 3) := by decide +kernel
theorem dX11_part_194 : decode cX11_part 194 = .ok (.goto (-113), 3) := by decide +kernel
theorem dX11_part_197 : decode cX11_part 197 = .ok (.iinc 4 1, 3) := by decide +kernel
theorem dX11_part_200 : decode cX11_part 200 = .ok (.goto (-131), 3) := by decide +kernel
theorem dX11_part_203 : decode cX11_part 203 = .ok (.goto (-143), 3) := by decide +kernel
theorem dX11_part_206 : decode cX11_part 206 = .ok (.aload_n 0, 1) := by decide +kernel
theorem dX11_part_207 : decode cX11_part 207 = .ok (.aload_n 0, 1) := by decide +kernel
theorem dX11_part_208 : decode cX11_part 208 = .ok (.getfield 61, 3) := by decide +kernel
theorem dX11_part_211 : decode cX11_part 211 = .ok (.invokevirtual 159, 3) := by decide +kernel
theorem dX11_part_214 : decode cX11_part 214 = .ok (.istore 4, 2) := by decide +kernel
theorem dX11_part_216 : decode cX11_part 216 = .ok (.iconst 0, 1) := by decide +kernel
theorem dX11_part_217 : decode cX11_part 217 = .ok (.istore 5, 2) := by decide +kernel
theorem dX11_part_219 : decode cX11_part 219 = .ok (.iload 5, 2) := by decide +kernel
theorem dX11_part_221 : decode cX11_part 221 = .ok (.aload_n 0, 1) := by decide +kernel
theorem dX11_part_222 : decode cX11_part 222 = .ok (.getfield 9, 3) := by decide +kernel
theorem dX11_part_225 : decode cX11_part 225 = .ok (.if_icmp .ge 63, 3) := by decide +kernel
theorem dX11_part_228 : decode cX11_part 228 = .ok (.iconst 0, 1) := by decide +kernel
theorem dX11_part_229 : decode cX11_part 229 = .ok (.istore 6, 2) := by decide +kernel
theorem dX11_part_231 : decode cX11_part 231 = .ok (.iload 6, 2) := by decide +kernel
theorem dX11_part_233 : decode cX11_part 233 = .ok (.aload_n 0, 1) := by decide +kernel
theorem dX11_part_234 : decode cX11_part 234 = .ok (.getfield 9, 3) := by decide +kernel
theorem dX11_part_237 : decode cX11_part 237 = .ok (.if_icmp .ge 45, 3) := by decide +kernel
theorem dX11_part_240 : decode cX11_part 240 = .ok (.aload_n 0, 1) := by decide +kernel
theorem dX11_part_241 : decode cX11_part 241 = .ok (.getfield 58, 3) := by decide +kernel
theorem dX11_part_244 : decode cX11_part 244 = .ok (.bipush 8, 2) := by decide +kernel
theorem dX11_part_246 : decode cX11_part 246 = .ok (.aload_n 0, 1) := by decide +kernel
theorem dX11_part_247 : decode cX11_part 247 = .ok (.getfield 61, 3) := by decide +kernel
theorem dX11_part_250 : decode cX11_part 250 = .ok (.iload 5, 2) := by decide +kernel
theorem dX11_part_252 : decode cX11_part 252 = .ok (.iaload, 1) := by decide +kernel
theorem dX11_part_253 : decode cX11_part 253 = .ok (.imul, 1) := by decide +kernel
theorem dX11_part_254 : decode cX11_part 254 = .ok (.aload_n 0, 1) := by decide +kernel
theorem dX11_part_255 : decode cX11_part 255 = .ok (.getfield 61, 3) := by decide +kernel
theorem dX11_part_258 : decode cX11_part 258 = .ok (.iload 6, 2) := by decide +kernel
theorem dX11_part_260 : decode cX11_part 260 = .ok (.iaload, 1) := by decide +kernel
theorem dX11_part_261 : decode cX11_part 261 = .ok (.iadd, 1) := by decide +kernel
theorem dX11_part_262 : decode cX11_part 262 = .ok (.aload_n 0, 1) := by decide +kernel
theorem dX11_part_263 : decode cX11_part 263 = .ok (.getfield 61, 3) := by decide +kernel
theorem dX11_part_266 : decode cX11_part 266 = .ok (.aload_n 0, 1) := by decide +kernel
theorem dX11_part_267 : decode cX11_part 267 = .ok (.iload 5, 2) := by decide +kernel
theorem dX11_part_269 : decode cX11_part 269 = .ok (.iload 6, 2) := by decide +kernel
theorem dX11_part_271 : decode cX11_part 271 = .ok (.invokevirtual 99, 3) := by decide +kernel
theorem dX11_part_274 : decode cX11_part 274 = .ok (.iaload, 1) := by decide +kernel
theorem dX11_part_275 : decode cX11_part 275 = .ok (.iastore, 1) := by decide +kernel
theorem dX11_part_276 : decode cX11_part 276 = .ok (.iinc 6 1, 3) := by decide +kernel
theorem dX11_part_279 : decode cX11_part 279 = .ok (.goto (-48), 3) := by decide +kernel
theorem dX11_part_282 : decode cX11_part 282 = .ok (.iinc 5 1, 3) := by decide +kernel
theorem dX11_part_285 : decode cX11_part 285 = .ok (.goto (-66), 3) := by decide +kernel
theorem dX11_part_288 : decode cX11_part 288 = .ok (.aload_n 0, 1) := by decide +kernel
theorem dX11_part_289 : decode cX11_part 289 = .ok (.iload 4, 2) := by decide +kernel
theorem dX11_part_291 : decode cX11_part 291 = .ok (.invokevirtual 189, 3) := by decide +kernel
theorem dX11_part_294 : decode cX11_part 294 = .ok (.aload_n 0, 1) := by decide +kernel
theorem dX11_part_295 : decode cX11_part 295 = .ok (.getfield 9, 3) := by decide +kernel
theorem dX11_part_298 : decode cX11_part 298 = .ok (.ireturn, 1) := by decide +kernel
set_option maxRecDepth 20000 in
theorem ggX11_within_X11_in : GoodIn wsX11_within wsX11_in := goodIn_r _ [8] (by decide +kernel) (by decide +kernel)
set_option maxRecDepth 20000 in
theorem gX11_within_X11_in : GoodIn wsX11_within (va_wsS RX11 86 yX11_in wsX11_in) := goodIn_app (goodIn_of _ (by decide +kernel)) ggX11_within_X11_in
set_option maxRecDepth 20000 in
theorem ggX11_within_X11_by : GoodIn wsX11_within wsX11_by := goodIn_r _ [12, 13, 14, 15, 16, 17, 18, 19, 20, 21, 22, 23, 24, 25, 26, 27, 28, 29, 30, 31, 32, 33, 34, 35, 36, 37, 38, 39, 40, 41, 42] (by decide +kernel) (by decide +kernel)
set_option maxRecDepth 20000 in
theorem gX11_within_X11_by : GoodIn wsX11_within (wsV RX11 99 RX11 yX11_by wsX11_by) := goodIn_app (goodIn_of _ (by decide +kernel)) ggX11_within_X11_by
theorem dX11_within_0 : decode cX11_within 0 = .ok (.aload_n 0, 1) := by decide +kernel
theorem dX11_within_1 : decode cX11_within 1 = .ok (.iconst 0, 1) := by decide +kernel
theorem dX11_within_2 : decode cX11_within 2 = .ok (.putfield 83, 3) := by decide +kernel
theorem dX11_within_5 : decode cX11_within 5 = .ok (.iload_n 1, 1) := by decide +kernel
theorem dX11_within_6 : decode cX11_within 6 = .ok (.i2l, 1) := by decide +kernel
theorem dX11_within_7 : decode cX11_within 7 = .ok (.lconst 1, 1) := by decide +kernel
theorem dX11_within_8 : decode cX11_within 8 = .ok (.iconst 1, 1) := by decide +kernel
theorem dX11_within_9 : decode cX11_within 9 = .ok (.aload_n 0, 1) := by decide +kernel
theorem dX11_within_10 : decode cX11_within 10 = .ok (.getfield 9, 3) := by decide +kernel
theorem dX11_within_13 : decode cX11_within 13 = .ok (.ishl, 1) := by decide +kernel
theorem dX11_within_14 : decode cX11_within 14 = .ok (.iconst 1, 1) := by decide +kernel
theorem dX11_within_15 : decode cX11_within 15 = .ok (.isub, 1) := by decide +kernel
theorem dX11_within_16 : decode cX11_within 16 = .ok (.i2l, 1) := by decide +kernel
theorem dX11_within_17 : decode cX11_within 17 = .ok (.invokestatic 86, 3) := by decide +kernel
theorem dX11_within_20 : decode cX11_within 20 = .ok (.ifCond .ne 5, 3) := by decide +kernel
theorem dX11_within_23 : decode cX11_within 23 = .ok (.iconst (-1), 1) := by decide +kernel
theorem dX11_within_24 : decode cX11_within 24 = .ok (.ireturn, 1) := by decide +kernel
theorem dX11_within_25 : decode cX11_within 25 = .ok (.iload_n 1, 1) := by decide +kernel
theorem dX11_within_26 : decode cX11_within 26 = .ok (.istore_n 2, 1) := by decide +kernel
theorem dX11_within_27 : decode cX11_within 27 = .ok (.iconst 0, 1) := by decide +kernel
theorem dX11_within_28 : decode cX11_within 28 = .ok (.istore_n 3, 1) := by decide +kernel
theorem dX11_within_29 : decode cX11_within 29 = .ok (.iload_n 3, 1) := by decide +kernel
theorem dX11_within_30 : decode cX11_within 30 = .ok (.aload_n 0, 1) := by decide +kernel
theorem dX11_within_31 : decode cX11_within 31 = .ok (.getfield 9, 3) := by decide +kernel
theorem dX11_within_34 : decode cX11_within 34 = .ok (.if_icmp .ge 77, 3) := by decide +kernel
theorem dX11_within_37 : decode cX11_within 37 = .ok (.iconst 0, 1) := by decide +kernel
theorem dX11_within_38 : decode cX11_within 38 = .ok (.istore 4, 2) := by decide +kernel
theorem dX11_within_40 : decode cX11_within 40 = .ok (.iload 4, 2) := by decide +kernel
theorem dX11_within_42 : decode cX11_within 42 = .ok (.aload_n 0, 1) := by decide +kernel
theorem dX11_within_43 : decode cX11_within 43 = .ok (.getfield 9, 3) := by decide +kernel
theorem dX11_within_46 : decode cX11_within 46 = .ok (.if_icmp .ge 59, 3) := by decide +kernel
theorem dX11_within_49 : decode cX11_within 49 = .ok (.iconst 0, 1) := by decide +kernel
theorem dX11_within_50 : decode cX11_within 50 = .ok (.istore 5, 2) := by decide +kernel
theorem dX11_within_52 : decode cX11_within 52 = .ok (.iload 5, 2) := by decide +kernel
theorem dX11_within_54 : decode cX11_within 54 = .ok (.aload_n 0, 1) := by decide +kernel
theorem dX11_within_55 : decode cX11_within 55 = .ok (.getfield 9, 3) := by decide +kernel
theorem dX11_within_58 : decode cX11_within 58 = .ok (.if_icmp .ge 41, 3) := by decide +kernel
theorem dX11_within_61 : decode cX11_within 61 = .ok (.iload_n 2, 1) := by decide +kernel
theorem dX11_within_62 : decode cX11_within 62 = .ok (.iload_n 2, 1) := by decide +kernel
theorem dX11_within_63 : decode cX11_within 63 = .ok (.iload 4, 2) := by decide +kernel
theorem dX11_within_65 : decode cX11_within 65 = .ok (.ishr, 1) := by decide +kernel
theorem dX11_within_66 : decode cX11_within 66 = .ok (.iload_n 2, 1) := by decide +kernel
theorem dX11_within_67 : decode cX11_within 67 = .ok (.iload 5, 2) := by decide +kernel
theorem dX11_within_69 : decode cX11_within 69 = .ok (.ishr, 1) := by decide +kernel
theorem dX11_within_70 : decode cX11_within 70 = .ok (.iand, 1) := by decide +kernel
theorem dX11_within_71 : decode cX11_within 71 = .ok (.iconst 1, 1) := by decide +kernel
theorem dX11_within_72 : decode cX11_within 72 = .ok (.iand, 1) := by decide +kernel
theorem dX11_within_73 : decode cX11_within 73 = .ok (.iconst 1, 1) := by decide +kernel
theorem dX11_within_74 : decode cX11_within 74 = .ok (.if_icmp .ne 16, 3) := by decide +kernel
theorem dX11_within_77 : decode cX11_within 77 = .ok (.iconst 1, 1) := by decide +kernel
theorem dX11_within_78 : decode cX11_within 78 = .ok (.aload_n 0, 1) := by decide +kernel
theorem dX11_within_79 : decode cX11_within 79 = .ok (.iload 4, 2) := by decide +kernel
theorem dX11_within_81 : decode cX11_within 81 = .ok (.iload 5, 2) := by decide +kernel
theorem dX11_within_83 : decode cX11_within 83 = .ok (.invokevirtual 99, 3) := by decide +kernel
theorem dX11_within_86 : decode cX11_within 86 = .ok (.ishl, 1) := by decide +kernel
theorem dX11_within_87 : decode cX11_within 87 = .ok (.goto 4, 3) := by decide +kernel
theorem dX11_within_90 : decode cX11_within 90 = .ok (.iconst 0, 1) := by decide +kernel
theorem dX11_within_91 : decode cX11_within 91 = .ok (.ior, 1) := by decide +kernel
theorem dX11_within_92 : decode cX11_within 92 = .ok (.istore_n 2, 1) := by decide +kernel
theorem dX11_within_93 : decode cX11_within 93 = .ok (.iinc 5 1, 3) := by decide +kernel
theorem dX11_within_96 : decode cX11_within 96 = .ok (.goto (-44), 3) := by decide +kernel
theorem dX11_within_99 : decode cX11_within 99 = .ok (.iinc 4 1, 3) := by decide +kernel
theorem dX11_within_102 : decode cX11_within 102 = .ok (.goto (-62), 3) := by decide +kernel
theorem dX11_within_105 : decode cX11_within 105 = .ok (.iinc 3 1, 3) := by decide +kernel
theorem dX11_within_108 : decode cX11_within 108 = .ok (.goto (-79), 3) := by decide +kernel
theorem dX11_within_111 : decode cX11_within 111 = .ok (.aload_n 0, 1) := by decide +kernel
theorem dX11_within_112 : decode cX11_within 112 = .ok (.iconst 0, 1) := by decide +kernel
theorem dX11_within_113 : decode cX11_within 113 = .ok (.putfield 144, 3) := by decide +kernel
theorem dX11_within_116 : decode cX11_within 116 = .ok (.iconst 0, 1) := by decide +kernel
theorem dX11_within_117 : decode cX11_within 117 = .ok (.istore_n 3, 1) := by decide +kernel
theorem dX11_within_118 : decode cX11_within 118 = .ok (.iload_n 3, 1) := by decide +kernel
theorem dX11_within_119 : decode cX11_within 119 = .ok (.aload_n 0, 1) := by decide +kernel
theorem dX11_within_120 : decode cX11_within 120 = .ok (.getfield 9, 3) := by decide +kernel
theorem dX11_within_123 : decode cX11_within 123 = .ok (.if_icmp .ge 38, 3) := by decide +kernel
theorem dX11_within_126 : decode cX11_within 126 = .ok (.iload_n 2, 1) := by decide +kernel
theorem dX11_within_127 : decode cX11_within 127 = .ok (.iload_n 3, 1) := by decide +kernel
theorem dX11_within_128 : decode cX11_within 128 = .ok (.ishr, 1) := by decide +kernel
theorem dX11_within_129 : decode cX11_within 129 = .ok (.iconst 1, 1) := by decide +kernel
theorem dX11_within_130 : decode cX11_within 130 = .ok (.iand, 1) := by decide +kernel
theorem dX11_within_131 : decode cX11_within 131 = .ok (.iconst 1, 1) := by decide +kernel
theorem dX11_within_132 : decode cX11_within 132 = .ok (.if_icmp .ne 23, 3) := by decide +kernel
theorem dX11_within_135 : decode cX11_within 135 = .ok (.aload_n 0, 1) := by decide +kernel
theorem dX11_within_136 : decode cX11_within 136 = .ok (.getfield 41, 3) := by decide +kernel
theorem dX11_within_139 : decode cX11_within 139 = .ok (.aload_n 0, 1) := by decide +kernel
theorem dX11_within_140 : decode cX11_within 140 = .ok (.getfield 144, 3) := by decide +kernel
theorem dX11_within_143 : decode cX11_within 143 = .ok (.iload_n 3, 1) := by decide +kernel
theorem dX11_within_144 : decode cX11_within 144 = .ok (.iastore, 1) := by decide +kernel
theorem dX11_within_145 : decode cX11_within 145 = .ok (.aload_n 0, 1) := by decide +kernel
theorem dX11_within_146 : decode cX11_within 146 = .ok (.dup, 1) := by decide +kernel
theorem dX11_within_147 : decode cX11_within 147 = .ok (.getfield 144, 3) := by decide +kernel
theorem dX11_within_150 : decode cX11_within 150 = .ok (.iconst 1, 1) := by decide +kernel
theorem dX11_within_151 : decode cX11_within 151 = .ok (.iadd, 1) := by decide +kernel
theorem dX11_within_152 : decode cX11_within 152 = .ok (.putfield 144, 3) := by decide +kernel
theorem dX11_within_155 : decode cX11_within 155 = .ok (.iinc 3 1, 3) := by decide +kernel
theorem dX11_within_158 : decode cX11_within 158 = .ok (.goto (-40), 3) := by decide +kernel
theorem dX11_within_161 : decode cX11_within 161 = .ok (.aload_n 0, 1) := by decide +kernel
theorem dX11_within_162 : decode cX11_within 162 = .ok (.getfield 144, 3) := by decide +kernel
theorem dX11_within_165 : decode cX11_within 165 = .ok (.ireturn, 1) := by decide +kernel
set_option maxRecDepth 20000 in
theorem ggX11_modulus_X11_in : GoodIn wsX11_modulus wsX11_in := goodIn_r _ [8] (by decide +kernel) (by decide +kernel)
set_option maxRecDepth 20000 in
theorem gX11_modulus_X11_in : GoodIn wsX11_modulus (va_wsS RX11 86 yX11_in wsX11_in) := goodIn_app (goodIn_of _ (by decide +kernel)) ggX11_modulus_X11_in
set_option maxRecDepth 20000 in
theorem ggX11_modulus_X11_straight : GoodIn wsX11_modulus wsX11_straight := goodIn_r _ [12, 13, 14, 15, 16, 17, 18, 19, 20, 21, 22, 23, 24, 25, 26, 27, 28, 29, 30, 31, 32, 33, 34, 35, 36, 37, 38, 39, 40, 41, 42] (by decide +kernel) (by decide +kernel)
set_option maxRecDepth 20000 in
theorem gX11_modulus_X11_straight : GoodIn wsX11_modulus (wsV RX11 90 RX11 yX11_straight wsX11_straight) := goodIn_app (goodIn_of _ (by decide +kernel)) ggX11_modulus_X11_straight
theorem dX11_modulus_0 : decode cX11_modulus 0 = .ok (.aload_n 0, 1) := by decide +kernel
theorem dX11_modulus_1 : decode cX11_modulus 1 = .ok (.iconst 0, 1) := by decide +kernel
theorem dX11_modulus_2 : decode cX11_modulus 2 = .ok (.putfield 83, 3) := by decide +kernel
theorem dX11_modulus_5 : decode cX11_modulus 5 = .ok (.iload_n 1, 1) := by decide +kernel
theorem dX11_modulus_6 : decode cX11_modulus 6 = .ok (.i2l, 1) := by decide +kernel
theorem dX11_modulus_7 : decode cX11_modulus 7 = .ok (.ldc2_w 198, 3) := by decide +kernel
theorem dX11_modulus_10 : decode cX11_modulus 10 = .ok (.ldc2_w 200, 3) := by decide +kernel
theorem dX11_modulus_13 : decode cX11_modulus 13 = .ok (.invokestatic 86, 3) := by decide +kernel
theorem dX11_modulus_16 : decode cX11_modulus 16 = .ok (.ifCond .ne 5, 3) := by decide +kernel
theorem dX11_modulus_19 : decode cX11_modulus 19 = .ok (.iconst 0, 1) := by decide +kernel
theorem dX11_modulus_20 : decode cX11_modulus 20 = .ok (.ireturn, 1) := by decide +kernel
theorem dX11_modulus_21 : decode cX11_modulus 21 = .ok (.aload_n 0, 1) := by decide +kernel
theorem dX11_modulus_22 : decode cX11_modulus 22 = .ok (.iload_n 1, 1) := by decide +kernel
theorem dX11_modulus_23 : decode cX11_modulus 23 = .ok (.putfield 17, 3) := by decide +kernel
theorem dX11_modulus_26 : decode cX11_modulus 26 = .ok (.aload_n 0, 1) := by decide +kernel
theorem dX11_modulus_27 : decode cX11_modulus 27 = .ok (.invokevirtual 90, 3) := by decide +kernel
theorem dX11_modulus_30 : decode cX11_modulus 30 = .ok (.iconst 1, 1) := by decide +kernel
theorem dX11_modulus_31 : decode cX11_modulus 31 = .ok (.ireturn, 1) := by decide +kernel
set_option maxRecDepth 20000 in
theorem ggX11_twist_X11_isThing : GoodIn wsX11_twist wsX11_isThing := goodIn_r _ [8, 9, 10, 11, 7, 12, 13, 14, 15, 16, 17, 18, 19, 20, 21, 22, 23, 24, 25, 26, 27, 28, 29, 30, 31, 32, 33, 34, 35, 36, 37, 38, 39, 40, 41] (by decide +kernel) (by decide +kernel)
set_option maxRecDepth 20000 in
theorem gX11_twist_X11_isThing : GoodIn wsX11_twist (wsV RX11 95 RX11 yX11_isThing wsX11_isThing) := goodIn_app (goodIn_of _ (by decide +kernel)) ggX11_twist_X11_isThing
set_option maxRecDepth 20000 in
theorem ggX11_twist_X11_in : GoodIn wsX11_twist wsX11_in := goodIn_r _ [12] (by decide +kernel) (by decide +kernel)
set_option maxRecDepth 20000 in
theorem gX11_twist_X11_in : GoodIn wsX11_twist (va_wsS RX11 86 yX11_in wsX11_in) := goodIn_app (goodIn_of _ (by decide +kernel)) ggX11_twist_X11_in
theorem dX11_twist_0 : decode cX11_twist 0 = .ok (.aload_n 0, 1) := by decide +kernel
theorem dX11_twist_1 : decode cX11_twist 1 = .ok (.iconst 0, 1) := by decide +kernel
theorem dX11_twist_2 : decode cX11_twist 2 = .ok (.putfield 83, 3) := by decide +kernel
theorem dX11_twist_5 : decode cX11_twist 5 = .ok (.aload_n 0, 1) := by decide +kernel
theorem dX11_twist_6 : decode cX11_twist 6 = .ok (.iload_n 1, 1) := by decide +kernel
theorem dX11_twist_7 : decode cX11_twist 7 = .ok (.invokevirtual 95, 3) := by decide +kernel
theorem dX11_twist_10 : decode cX11_twist 10 = .ok (.ifCond .eq 27, 3) := by decide +kernel
theorem dX11_twist_13 : decode cX11_twist 13 = .ok (.aload_n 0, 1) := by decide +kernel
theorem dX11_twist_14 : decode cX11_twist 14 = .ok (.iload_n 2, 1) := by decide +kernel
theorem dX11_twist_15 : decode cX11_twist 15 = .ok (.invokevirtual 95, 3) := by decide +kernel
theorem dX11_twist_18 : decode cX11_twist 18 = .ok (.ifCond .eq 19, 3) := by decide +kernel
theorem dX11_twist_21 : decode cX11_twist 21 = .ok (.iload_n 3, 1) := by decide +kernel
theorem dX11_twist_22 : decode cX11_twist 22 = .ok (.i2l, 1) := by decide +kernel
theorem dX11_twist_23 : decode cX11_twist 23 = .ok (.lconst 0, 1) := by decide +kernel
theorem dX11_twist_24 : decode cX11_twist 24 = .ok (.aload_n 0, 1) := by decide +kernel
theorem dX11_twist_25 : decode cX11_twist 25 = .ok (.getfield 17, 3) := by decide +kernel
theorem dX11_twist_28 : decode cX11_twist 28 = .ok (.iconst 1, 1) := by decide +kernel
theorem dX11_twist_29 : decode cX11_twist 29 = .ok (.isub, 1) := by decide +kernel
theorem dX11_twist_30 : decode cX11_twist 30 = .ok (.i2l, 1) := by decide +kernel
theorem dX11_twist_31 : decode cX11_twist 31 = .ok (.invokestatic 86, 3) := by decide +kernel
theorem dX11_twist_34 : decode cX11_twist 34 = .ok (.ifCond .ne 5, 3) := by decide +kernel
theorem dX11_twist_37 : decode cX11_twist 37 = .ok (.iconst 0, 1) := by decide +kernel
theorem dX11_twist_38 : decode cX11_twist 38 = .ok (.ireturn, 1) := by decide +kernel
theorem dX11_twist_39 : decode cX11_twist 39 = .ok (.aload_n 0, 1) := by decide +kernel
theorem dX11_twist_40 : decode cX11_twist 40 = .ok (.getfield 20, 3) := by decide +kernel
theorem dX11_twist_43 : decode cX11_twist 43 = .ok (.bipush 8, 2) := by decide +kernel
theorem dX11_twist_45 : decode cX11_twist 45 = .ok (.iload_n 1, 1) := by decide +kernel
theorem dX11_twist_46 : decode cX11_twist 46 = .ok (.imul, 1) := by decide +kernel
theorem dX11_twist_47 : decode cX11_twist 47 = .ok (.iload_n 2, 1) := by decide +kernel
theorem dX11_twist_48 : decode cX11_twist 48 = .ok (.iadd, 1) := by decide +kernel
theorem dX11_twist_49 : decode cX11_twist 49 = .ok (.iload_n 3, 1) := by decide +kernel
theorem dX11_twist_50 : decode cX11_twist 50 = .ok (.iastore, 1) := by decide +kernel
theorem dX11_twist_51 : decode cX11_twist 51 = .ok (.iconst 1, 1) := by decide +kernel
theorem dX11_twist_52 : decode cX11_twist 52 = .ok (.ireturn, 1) := by decide +kernel
theorem dX11_twistOf_0 : decode cX11_twistOf 0 = .ok (.aload_n 0, 1) := by decide +kernel
theorem dX11_twistOf_1 : decode cX11_twistOf 1 = .ok (.getfield 20, 3) := by decide +kernel
theorem dX11_twistOf_4 : decode cX11_twistOf 4 = .ok (.bipush 8, 2) := by decide +kernel
theorem dX11_twistOf_6 : decode cX11_twistOf 6 = .ok (.iload_n 1, 1) := by decide +kernel
theorem dX11_twistOf_7 : decode cX11_twistOf 7 = .ok (.imul, 1) := by decide +kernel
theorem dX11_twistOf_8 : decode cX11_twistOf 8 = .ok (.iload_n 2, 1) := by decide +kernel
theorem dX11_twistOf_9 : decode cX11_twistOf 9 = .ok (.iadd, 1) := by decide +kernel
theorem dX11_twistOf_10 : decode cX11_twistOf 10 = .ok (.iaload, 1) := by decide +kernel
theorem dX11_twistOf_11 : decode cX11_twistOf 11 = .ok (.ireturn, 1) := by decide +kernel
set_option maxRecDepth 20000 in
theorem ggX11_twisted_X11_isThing : GoodIn wsX11_twisted wsX11_isThing := goodIn_r _ [6, 7, 8, 9, 5, 10, 16, 17, 18, 19, 20, 21, 22, 23, 24, 25, 26, 27, 28, 29, 30, 31, 32, 33, 34, 35, 36, 37, 38, 39, 40, 41, 42, 43, 44] (by decide +kernel) (by decide +kernel)
set_option maxRecDepth 20000 in
theorem gX11_twisted_X11_isThing : GoodIn wsX11_twisted (wsV RX11 95 RX11 yX11_isThing wsX11_isThing) := goodIn_app (goodIn_of _ (by decide +kernel)) ggX11_twisted_X11_isThing
set_option maxRecDepth 20000 in
theorem ggX11_twisted_X11_twistOf : GoodIn wsX11_twisted wsX11_twistOf := goodIn_r _ [14, 15, 16, 17, 18, 19, 20, 21, 22, 23, 24, 25, 26, 27, 28, 29, 30, 31, 32, 33, 34, 35, 36, 37, 38, 39, 40, 41, 42, 43, 44] (by decide +kernel) (by decide +kernel)
set_option maxRecDepth 20000 in
theorem gX11_twisted_X11_twistOf : GoodIn wsX11_twisted (wsV RX11 202 RX11 yX11_twistOf wsX11_twistOf) := goodIn_app (goodIn_of _ (by decide +kernel)) ggX11_twisted_X11_twistOf
theorem dX11_twisted_0 : decode cX11_twisted 0 = .ok (.aload_n 0, 1) := by decide +kernel
theorem dX11_twisted_1 : decode cX11_twisted 1 = .ok (.iconst 0, 1) := by decide +kernel
theorem dX11_twisted_2 : decode cX11_twisted 2 = .ok (.putfield 83, 3) := by decide +kernel
theorem dX11_twisted_5 : decode cX11_twisted 5 = .ok (.aload_n 0, 1) := by decide +kernel
theorem dX11_twisted_6 : decode cX11_twisted 6 = .ok (.iload_n 1, 1) := by decide +kernel
theorem dX11_twisted_7 : decode cX11_twisted 7 = .ok (.invokevirtual 95, 3) := by decide +kernel
theorem dX11_twisted_10 : decode cX11_twisted 10 = .ok (.ifCond .eq 20, 3) := by decide +kernel
theorem dX11_twisted_13 : decode cX11_twisted 13 = .ok (.aload_n 0, 1) := by decide +kernel
theorem dX11_twisted_14 : decode cX11_twisted 14 = .ok (.iload_n 2, 1) := by decide +kernel
theorem dX11_twisted_15 : decode cX11_twisted 15 = .ok (.invokevirtual 95, 3) := by decide +kernel
theorem dX11_twisted_18 : decode cX11_twisted 18 = .ok (.ifCond .eq 12, 3) := by decide +kernel
theorem dX11_twisted_21 : decode cX11_twisted 21 = .ok (.aload_n 0, 1) := by decide +kernel
theorem dX11_twisted_22 : decode cX11_twisted 22 = .ok (.iload_n 1, 1) := by decide +kernel
theorem dX11_twisted_23 : decode cX11_twisted 23 = .ok (.iload_n 2, 1) := by decide +kernel
theorem dX11_twisted_24 : decode cX11_twisted 24 = .ok (.invokevirtual 202, 3) := by decide +kernel
theorem dX11_twisted_27 : decode cX11_twisted 27 = .ok (.goto 4, 3) := by decide +kernel
theorem dX11_twisted_30 : decode cX11_twisted 30 = .ok (.iconst (-1), 1) := by decide +kernel
theorem dX11_twisted_31 : decode cX11_twisted 31 = .ok (.ireturn, 1) := by decide +kernel
set_option maxRecDepth 20000 in
theorem ggX11_open_X11_twistOf : GoodIn wsX11_open wsX11_twistOf := goodIn_r _ [7, 8, 14, 15, 16, 17, 18, 19, 20, 21, 22, 23, 24, 25, 26, 27, 28, 29, 30, 31, 32, 33, 34, 35, 36, 37, 38, 39, 40, 41, 42] (by decide +kernel) (by decide +kernel)
set_option maxRecDepth 20000 in
theorem gX11_open_X11_twistOf : GoodIn wsX11_open (wsV RX11 202 RX11 yX11_twistOf wsX11_twistOf) := goodIn_app (goodIn_of _ (by decide +kernel)) ggX11_open_X11_twistOf
set_option maxRecDepth 20000 in
theorem ggX11_open_X11_by : GoodIn wsX11_open wsX11_by := goodIn_r _ [12, 13, 14, 15, 16, 17, 18, 19, 20, 21, 22, 23, 24, 25, 26, 27, 28, 29, 30, 31, 32, 33, 34, 35, 36, 37, 38, 39, 40, 41, 42] (by decide +kernel) (by decide +kernel)
set_option maxRecDepth 20000 in
theorem gX11_open_X11_by : GoodIn wsX11_open (wsV RX11 99 RX11 yX11_by wsX11_by) := goodIn_app (goodIn_of _ (by decide +kernel)) ggX11_open_X11_by
theorem dX11_open_0 : decode cX11_open 0 = .ok (.iconst 0, 1) := by decide +kernel
theorem dX11_open_1 : decode cX11_open 1 = .ok (.istore_n 1, 1) := by decide +kernel
theorem dX11_open_2 : decode cX11_open 2 = .ok (.iload_n 1, 1) := by decide +kernel
theorem dX11_open_3 : decode cX11_open 3 = .ok (.aload_n 0, 1) := by decide +kernel
theorem dX11_open_4 : decode cX11_open 4 = .ok (.getfield 9, 3) := by decide +kernel
theorem dX11_open_7 : decode cX11_open 7 = .ok (.if_icmp .ge 111, 3) := by decide +kernel
theorem dX11_open_10 : decode cX11_open 10 = .ok (.iconst 0, 1) := by decide +kernel
theorem dX11_open_11 : decode cX11_open 11 = .ok (.istore_n 2, 1) := by decide +kernel
theorem dX11_open_12 : decode cX11_open 12 = .ok (.iload_n 2, 1) := by decide +kernel
theorem dX11_open_13 : decode cX11_open 13 = .ok (.aload_n 0, 1) := by decide +kernel
theorem dX11_open_14 : decode cX11_open 14 = .ok (.getfield 9, 3) := by decide +kernel
theorem dX11_open_17 : decode cX11_open 17 = .ok (.if_icmp .ge 95, 3) := by decide +kernel
theorem dX11_open_20 : decode cX11_open 20 = .ok (.iconst 0, 1) := by decide +kernel
theorem dX11_open_21 : decode cX11_open 21 = .ok (.istore_n 3, 1) := by decide +kernel
theorem dX11_open_22 : decode cX11_open 22 = .ok (.iload_n 3, 1) := by decide +kernel
theorem dX11_open_23 : decode cX11_open 23 = .ok (.aload_n 0, 1) := by decide +kernel
theorem dX11_open_24 : decode cX11_open 24 = .ok (.getfield 9, 3) := by decide +kernel
theorem dX11_open_27 : decode cX11_open 27 = .ok (.if_icmp .ge 79, 3) := by decide +kernel
theorem dX11_open_30 : decode cX11_open 30 = .ok (.aload_n 0, 1) := by decide +kernel
theorem dX11_open_31 : decode cX11_open 31 = .ok (.iload_n 2, 1) := by decide +kernel
theorem dX11_open_32 : decode cX11_open 32 = .ok (.iload_n 3, 1) := by decide +kernel
theorem dX11_open_33 : decode cX11_open 33 = .ok (.invokevirtual 202, 3) := by decide +kernel
theorem dX11_open_36 : decode cX11_open 36 = .ok (.aload_n 0, 1) := by decide +kernel
theorem dX11_open_37 : decode cX11_open 37 = .ok (.iload_n 1, 1) := by decide +kernel
theorem dX11_open_38 : decode cX11_open 38 = .ok (.aload_n 0, 1) := by decide +kernel
theorem dX11_open_39 : decode cX11_open 39 = .ok (.iload_n 2, 1) := by decide +kernel
theorem dX11_open_40 : decode cX11_open 40 = .ok (.iload_n 3, 1) := by decide +kernel
theorem dX11_open_41 : decode cX11_open 41 = .ok (.invokevirtual 99, 3) := by decide +kernel
theorem dX11_open_44 : decode cX11_open 44 = .ok (.invokevirtual 202, 3) := by decide +kernel
theorem dX11_open_47 : decode cX11_open 47 = .ok (.iadd, 1) := by decide +kernel
theorem dX11_open_48 : decode cX11_open 48 = .ok (.istore 4, 2) := by decide +kernel
theorem dX11_open_50 : decode cX11_open 50 = .ok (.aload_n 0, 1) := by decide +kernel
theorem dX11_open_51 : decode cX11_open 51 = .ok (.iload_n 1, 1) := by decide +kernel
theorem dX11_open_52 : decode cX11_open 52 = .ok (.iload_n 3, 1) := by decide +kernel
theorem dX11_open_53 : decode cX11_open 53 = .ok (.invokevirtual 202, 3) := by decide +kernel
theorem dX11_open_56 : decode cX11_open 56 = .ok (.aload_n 0, 1) := by decide +kernel
theorem dX11_open_57 : decode cX11_open 57 = .ok (.aload_n 0, 1) := by decide +kernel
theorem dX11_open_58 : decode cX11_open 58 = .ok (.iload_n 1, 1) := by decide +kernel
theorem dX11_open_59 : decode cX11_open 59 = .ok (.iload_n 2, 1) := by decide +kernel
theorem dX11_open_60 : decode cX11_open 60 = .ok (.invokevirtual 99, 3) := by decide +kernel
theorem dX11_open_63 : decode cX11_open 63 = .ok (.aload_n 0, 1) := by decide +kernel
theorem dX11_open_64 : decode cX11_open 64 = .ok (.iload_n 1, 1) := by decide +kernel
theorem dX11_open_65 : decode cX11_open 65 = .ok (.iload_n 3, 1) := by decide +kernel
theorem dX11_open_66 : decode cX11_open 66 = .ok (.invokevirtual 99, 3) := by decide +kernel
theorem dX11_open_69 : decode cX11_open 69 = .ok (.invokevirtual 202, 3) := by decide +kernel
theorem dX11_open_72 : decode cX11_open 72 = .ok (.iadd, 1) := by decide +kernel
theorem dX11_open_73 : decode cX11_open 73 = .ok (.istore 5, 2) := by decide +kernel
theorem dX11_open_75 : decode cX11_open 75 = .ok (.iload 4, 2) := by decide +kernel
theorem dX11_open_77 : decode cX11_open 77 = .ok (.iload 5, 2) := by decide +kernel
theorem dX11_open_79 : decode cX11_open 79 = .ok (.isub, 1) := by decide +kernel
theorem dX11_open_80 : decode cX11_open 80 = .ok (.aload_n 0, 1) := by decide +kernel
theorem dX11_open_81 : decode cX11_open 81 = .ok (.getfield 17, 3) := by decide +kernel
theorem dX11_open_84 : decode cX11_open 84 = .ok (.irem, 1) := by decide +kernel
theorem dX11_open_85 : decode cX11_open 85 = .ok (.ifCond .eq 15, 3) := by decide +kernel
theorem dX11_open_88 : decode cX11_open 88 = .ok (.iload_n 1, 1) := by decide +kernel
theorem dX11_open_89 : decode cX11_open 89 = .ok (.bipush 8, 2) := by decide +kernel
theorem dX11_open_91 : decode cX11_open 91 = .ok (.imul, 1) := by decide +kernel
theorem dX11_open_92 : decode cX11_open 92 = .ok (.iload_n 2, 1) := by decide +kernel
theorem dX11_open_93 : decode cX11_open 93 = .ok (.iadd, 1) := by decide +kernel
theorem dX11_open_94 : decode cX11_open 94 = .ok (.bipush 8, 2) := by decide +kernel
theorem dX11_open_96 : decode cX11_open 96 = .ok (.imul, 1) := by decide +kernel
theorem dX11_open_97 : decode cX11_open 97 = .ok (.iload_n 3, 1) := by decide +kernel
theorem dX11_open_98 : decode cX11_open 98 = .ok (.iadd, 1) := by decide +kernel
theorem dX11_open_99 : decode cX11_open 99 = .ok (.ireturn, 1) := by decide +kernel
theorem dX11_open_100 : decode cX11_open 100 = .ok (.iinc 3 1, 3) := by decide +kernel
theorem dX11_open_103 : decode cX11_open 103 = .ok (.goto (-81), 3) := by decide +kernel
theorem dX11_open_106 : decode cX11_open 106 = .ok (.iinc 2 1, 3) := by decide +kernel
theorem dX11_open_109 : decode cX11_open 109 = .ok (.goto (-97), 3) := by decide +kernel
theorem dX11_open_112 : decode cX11_open 112 = .ok (.iinc 1 1, 3) := by decide +kernel
theorem dX11_open_115 : decode cX11_open 115 = .ok (.goto (-113), 3) := by decide +kernel
theorem dX11_open_118 : decode cX11_open 118 = .ok (.iconst (-1), 1) := by decide +kernel
theorem dX11_open_119 : decode cX11_open 119 = .ok (.ireturn, 1) := by decide +kernel
set_option maxRecDepth 20000 in
theorem ggX11_closed_X11_isRack : GoodIn wsX11_closed wsX11_isRack := goodIn_r _ [6, 7, 8, 9, 5, 10, 11, 12, 13, 14, 15, 16, 17, 18, 19, 20, 37, 38, 39, 40, 41, 42, 43, 44, 45, 46, 47, 48, 49, 50, 51, 52, 53, 54, 55, 56, 57, 58, 59, 60, 61, 62, 63, 64, 65] (by decide +kernel) (by decide +kernel)
set_option maxRecDepth 20000 in
theorem gX11_closed_X11_isRack : GoodIn wsX11_closed (wsV RX11 165 RX11 yX11_isRack wsX11_isRack) := goodIn_app (goodIn_of _ (by decide +kernel)) ggX11_closed_X11_isRack
set_option maxRecDepth 20000 in
theorem ggX11_closed_X11_open : GoodIn wsX11_closed wsX11_open := goodIn_r _ [24, 11, 25, 26, 27, 28, 5, 29, 30, 12, 13, 14, 15, 16, 37, 38, 39, 40, 41, 42, 43, 44, 45, 46, 47, 48, 49, 50, 51, 52, 53, 54, 55, 56, 57, 58, 59, 60, 61, 62, 63, 64, 65] (by decide +kernel) (by decide +kernel)
set_option maxRecDepth 20000 in
theorem gX11_closed_X11_open : GoodIn wsX11_closed (wsV RX11 205 RX11 yX11_open wsX11_open) := goodIn_app (goodIn_of _ (by decide +kernel)) ggX11_closed_X11_open
set_option maxRecDepth 20000 in
theorem ggX11_closed_X11_tells : GoodIn wsX11_closed wsX11_tells := goodIn_r _ [34, 35, 36, 37, 38, 39, 40, 41, 42, 43, 44, 45, 46, 47, 48, 49, 50, 51, 52, 53, 54, 55, 56, 57, 58, 59, 60, 61, 62, 63, 64, 65] (by decide +kernel) (by decide +kernel)
set_option maxRecDepth 20000 in
theorem gX11_closed_X11_tells : GoodIn wsX11_closed (wsV RX11 153 RX11 yX11_tells wsX11_tells) := goodIn_app (goodIn_of _ (by decide +kernel)) ggX11_closed_X11_tells
theorem dX11_closed_0 : decode cX11_closed 0 = .ok (.aload_n 0, 1) := by decide +kernel
theorem dX11_closed_1 : decode cX11_closed 1 = .ok (.iconst 0, 1) := by decide +kernel
theorem dX11_closed_2 : decode cX11_closed 2 = .ok (.putfield 83, 3) := by decide +kernel
theorem dX11_closed_5 : decode cX11_closed 5 = .ok (.aload_n 0, 1) := by decide +kernel
theorem dX11_closed_6 : decode cX11_closed 6 = .ok (.invokevirtual 165, 3) := by decide +kernel
theorem dX11_closed_9 : decode cX11_closed 9 = .ok (.ifCond .ne 5, 3) := by decide +kernel
theorem dX11_closed_12 : decode cX11_closed 12 = .ok (.iconst (-1), 1) := by decide +kernel
theorem dX11_closed_13 : decode cX11_closed 13 = .ok (.ireturn, 1) := by decide +kernel
theorem dX11_closed_14 : decode cX11_closed 14 = .ok (.aload_n 0, 1) := by decide +kernel
theorem dX11_closed_15 : decode cX11_closed 15 = .ok (.invokevirtual 205, 3) := by decide +kernel
theorem dX11_closed_18 : decode cX11_closed 18 = .ok (.istore_n 1, 1) := by decide +kernel
theorem dX11_closed_19 : decode cX11_closed 19 = .ok (.iload_n 1, 1) := by decide +kernel
theorem dX11_closed_20 : decode cX11_closed 20 = .ok (.ifCond .ge 5, 3) := by decide +kernel
theorem dX11_closed_23 : decode cX11_closed 23 = .ok (.iconst 0, 1) := by decide +kernel
theorem dX11_closed_24 : decode cX11_closed 24 = .ok (.ireturn, 1) := by decide +kernel
theorem dX11_closed_25 : decode cX11_closed 25 = .ok (.aload_n 0, 1) := by decide +kernel
theorem dX11_closed_26 : decode cX11_closed 26 = .ok (.iload_n 1, 1) := by decide +kernel
theorem dX11_closed_27 : decode cX11_closed 27 = .ok (.invokevirtual 153, 3) := by decide +kernel
theorem dX11_closed_30 : decode cX11_closed 30 = .ok (.iconst 1, 1) := by decide +kernel
theorem dX11_closed_31 : decode cX11_closed 31 = .ok (.ireturn, 1) := by decide +kernel
set_option maxRecDepth 20000 in
theorem ggX11_cover_X11_isRack : GoodIn wsX11_cover wsX11_isRack := goodIn_r _ [9, 10, 11, 12, 8, 13, 2, 14, 15, 16, 17, 18, 19, 20, 21, 22, 40, 41, 42, 43, 44, 45, 46, 47, 48, 49, 50, 51, 52, 53, 54, 55, 56, 57, 58, 59, 60, 61, 62, 63, 64, 65, 66, 67, 68] (by decide +kernel) (by decide +kernel)
set_option maxRecDepth 20000 in
theorem gX11_cover_X11_isRack : GoodIn wsX11_cover (wsV RX11 165 RX11 yX11_isRack wsX11_isRack) := goodIn_app (goodIn_of _ (by decide +kernel)) ggX11_cover_X11_isRack
set_option maxRecDepth 20000 in
theorem ggX11_cover_X11_open : GoodIn wsX11_cover wsX11_open := goodIn_r _ [26, 2, 3, 27, 28, 29, 8, 30, 31, 14, 15, 16, 17, 18, 40, 41, 42, 43, 44, 45, 46, 47, 48, 49, 50, 51, 52, 53, 54, 55, 56, 57, 58, 59, 60, 61, 62, 63, 64, 65, 66, 67, 68] (by decide +kernel) (by decide +kernel)
set_option maxRecDepth 20000 in
theorem gX11_cover_X11_open : GoodIn wsX11_cover (wsV RX11 205 RX11 yX11_open wsX11_open) := goodIn_app (goodIn_of _ (by decide +kernel)) ggX11_cover_X11_open
set_option maxRecDepth 20000 in
theorem ggX11_cover_X11_by : GoodIn wsX11_cover wsX11_by := goodIn_r _ [17, 18, 40, 41, 42, 43, 44, 45, 46, 47, 48, 49, 50, 51, 52, 53, 54, 55, 56, 57, 58, 59, 60, 61, 62, 63, 64, 65, 66, 67, 68] (by decide +kernel) (by decide +kernel)
set_option maxRecDepth 20000 in
theorem gX11_cover_X11_by : GoodIn wsX11_cover (wsV RX11 99 RX11 yX11_by wsX11_by) := goodIn_app (goodIn_of _ (by decide +kernel)) ggX11_cover_X11_by
set_option maxRecDepth 20000 in
theorem ggX11_cover_X11_twistOf : GoodIn wsX11_cover wsX11_twistOf := goodIn_r _ [30, 31, 40, 41, 42, 43, 44, 45, 46, 47, 48, 49, 50, 51, 52, 53, 54, 55, 56, 57, 58, 59, 60, 61, 62, 63, 64, 65, 66, 67, 68] (by decide +kernel) (by decide +kernel)
set_option maxRecDepth 20000 in
theorem gX11_cover_X11_twistOf : GoodIn wsX11_cover (wsV RX11 202 RX11 yX11_twistOf wsX11_twistOf) := goodIn_app (goodIn_of _ (by decide +kernel)) ggX11_cover_X11_twistOf
set_option maxRecDepth 20000 in
theorem ggX11_cover_X11_becomes : GoodIn wsX11_cover wsX11_becomes := goodIn_r _ [35, 2, 18, 4, 36, 37, 38, 8, 39, 31, 40, 41, 42, 43, 44, 45, 46, 47, 48, 49, 50, 51, 52, 53, 54, 55, 56, 57, 58, 59, 60, 61, 62, 63, 64, 65, 66, 67, 68] (by decide +kernel) (by decide +kernel)
set_option maxRecDepth 20000 in
theorem gX11_cover_X11_becomes : GoodIn wsX11_cover (wsV RX11 189 RX11 yX11_becomes wsX11_becomes) := goodIn_app (goodIn_of _ (by decide +kernel)) ggX11_cover_X11_becomes
theorem dX11_cover_0 : decode cX11_cover 0 = .ok (.aload_n 0, 1) := by decide +kernel
theorem dX11_cover_1 : decode cX11_cover 1 = .ok (.iconst 0, 1) := by decide +kernel
theorem dX11_cover_2 : decode cX11_cover 2 = .ok (.putfield 83, 3) := by decide +kernel
theorem dX11_cover_5 : decode cX11_cover 5 = .ok (.aload_n 0, 1) := by decide +kernel
theorem dX11_cover_6 : decode cX11_cover 6 = .ok (.getfield 9, 3) := by decide +kernel
theorem dX11_cover_9 : decode cX11_cover 9 = .ok (.aload_n 0, 1) := by decide +kernel
theorem dX11_cover_10 : decode cX11_cover 10 = .ok (.getfield 17, 3) := by decide +kernel
theorem dX11_cover_13 : decode cX11_cover 13 = .ok (.imul, 1) := by decide +kernel
theorem dX11_cover_14 : decode cX11_cover 14 = .ok (.bipush 8, 2) := by decide +kernel
theorem dX11_cover_16 : decode cX11_cover 16 = .ok (.if_icmp .gt 17, 3) := by decide +kernel
theorem dX11_cover_19 : decode cX11_cover 19 = .ok (.aload_n 0, 1) := by decide +kernel
theorem dX11_cover_20 : decode cX11_cover 20 = .ok (.invokevirtual 165, 3) := by decide +kernel
theorem dX11_cover_23 : decode cX11_cover 23 = .ok (.ifCond .eq 10, 3) := by decide +kernel
theorem dX11_cover_26 : decode cX11_cover 26 = .ok (.aload_n 0, 1) := by decide +kernel
theorem dX11_cover_27 : decode cX11_cover 27 = .ok (.invokevirtual 205, 3) := by decide +kernel
theorem dX11_cover_30 : decode cX11_cover 30 = .ok (.ifCond .lt 5, 3) := by decide +kernel
theorem dX11_cover_33 : decode cX11_cover 33 = .ok (.iconst (-1), 1) := by decide +kernel
theorem dX11_cover_34 : decode cX11_cover 34 = .ok (.ireturn, 1) := by decide +kernel
theorem dX11_cover_35 : decode cX11_cover 35 = .ok (.aload_n 0, 1) := by decide +kernel
theorem dX11_cover_36 : decode cX11_cover 36 = .ok (.getfield 17, 3) := by decide +kernel
theorem dX11_cover_39 : decode cX11_cover 39 = .ok (.istore_n 1, 1) := by decide +kernel
theorem dX11_cover_40 : decode cX11_cover 40 = .ok (.aload_n 0, 1) := by decide +kernel
theorem dX11_cover_41 : decode cX11_cover 41 = .ok (.getfield 9, 3) := by decide +kernel
theorem dX11_cover_44 : decode cX11_cover 44 = .ok (.iload_n 1, 1) := by decide +kernel
theorem dX11_cover_45 : decode cX11_cover 45 = .ok (.imul, 1) := by decide +kernel
theorem dX11_cover_46 : decode cX11_cover 46 = .ok (.istore_n 2, 1) := by decide +kernel
theorem dX11_cover_47 : decode cX11_cover 47 = .ok (.iconst 0, 1) := by decide +kernel
theorem dX11_cover_48 : decode cX11_cover 48 = .ok (.istore_n 3, 1) := by decide +kernel
theorem dX11_cover_49 : decode cX11_cover 49 = .ok (.iload_n 3, 1) := by decide +kernel
theorem dX11_cover_50 : decode cX11_cover 50 = .ok (.iload_n 2, 1) := by decide +kernel
theorem dX11_cover_51 : decode cX11_cover 51 = .ok (.if_icmp .ge 68, 3) := by decide +kernel
theorem dX11_cover_54 : decode cX11_cover 54 = .ok (.iconst 0, 1) := by decide +kernel
theorem dX11_cover_55 : decode cX11_cover 55 = .ok (.istore 4, 2) := by decide +kernel
theorem dX11_cover_57 : decode cX11_cover 57 = .ok (.iload 4, 2) := by decide +kernel
theorem dX11_cover_59 : decode cX11_cover 59 = .ok (.iload_n 2, 1) := by decide +kernel
theorem dX11_cover_60 : decode cX11_cover 60 = .ok (.if_icmp .ge 53, 3) := by decide +kernel
theorem dX11_cover_63 : decode cX11_cover 63 = .ok (.aload_n 0, 1) := by decide +kernel
theorem dX11_cover_64 : decode cX11_cover 64 = .ok (.getfield 58, 3) := by decide +kernel
theorem dX11_cover_67 : decode cX11_cover 67 = .ok (.bipush 8, 2) := by decide +kernel
theorem dX11_cover_69 : decode cX11_cover 69 = .ok (.iload_n 3, 1) := by decide +kernel
theorem dX11_cover_70 : decode cX11_cover 70 = .ok (.imul, 1) := by decide +kernel
theorem dX11_cover_71 : decode cX11_cover 71 = .ok (.iload 4, 2) := by decide +kernel
theorem dX11_cover_73 : decode cX11_cover 73 = .ok (.iadd, 1) := by decide +kernel
theorem dX11_cover_74 : decode cX11_cover 74 = .ok (.iload_n 1, 1) := by decide +kernel
theorem dX11_cover_75 : decode cX11_cover 75 = .ok (.aload_n 0, 1) := by decide +kernel
theorem dX11_cover_76 : decode cX11_cover 76 = .ok (.iload_n 3, 1) := by decide +kernel
theorem dX11_cover_77 : decode cX11_cover 77 = .ok (.iload_n 1, 1) := by decide +kernel
theorem dX11_cover_78 : decode cX11_cover 78 = .ok (.idiv, 1) := by decide +kernel
theorem dX11_cover_79 : decode cX11_cover 79 = .ok (.iload 4, 2) := by decide +kernel
theorem dX11_cover_81 : decode cX11_cover 81 = .ok (.iload_n 1, 1) := by decide +kernel
theorem dX11_cover_82 : decode cX11_cover 82 = .ok (.idiv, 1) := by decide +kernel
theorem dX11_cover_83 : decode cX11_cover 83 = .ok (.invokevirtual 99, 3) := by decide +kernel
theorem dX11_cover_86 : decode cX11_cover 86 = .ok (.imul, 1) := by decide +kernel
theorem dX11_cover_87 : decode cX11_cover 87 = .ok (.iload 4, 2) := by decide +kernel
theorem dX11_cover_89 : decode cX11_cover 89 = .ok (.iload_n 1, 1) := by decide +kernel
theorem dX11_cover_90 : decode cX11_cover 90 = .ok (.irem, 1) := by decide +kernel
theorem dX11_cover_91 : decode cX11_cover 91 = .ok (.aload_n 0, 1) := by decide +kernel
theorem dX11_cover_92 : decode cX11_cover 92 = .ok (.iload_n 3, 1) := by decide +kernel
theorem dX11_cover_93 : decode cX11_cover 93 = .ok (.iload_n 1, 1) := by decide +kernel
theorem dX11_cover_94 : decode cX11_cover 94 = .ok (.idiv, 1) := by decide +kernel
theorem dX11_cover_95 : decode cX11_cover 95 = .ok (.iload 4, 2) := by decide +kernel
theorem dX11_cover_97 : decode cX11_cover 97 = .ok (.iload_n 1, 1) := by decide +kernel
theorem dX11_cover_98 : decode cX11_cover 98 = .ok (.idiv, 1) := by decide +kernel
theorem dX11_cover_99 : decode cX11_cover 99 = .ok (.invokevirtual 202, 3) := by decide +kernel
theorem dX11_cover_102 : decode cX11_cover 102 = .ok (.iadd, 1) := by decide +kernel
theorem dX11_cover_103 : decode cX11_cover 103 = .ok (.iload_n 1, 1) := by decide +kernel
theorem dX11_cover_104 : decode cX11_cover 104 = .ok (.irem, 1) := by decide +kernel
theorem dX11_cover_105 : decode cX11_cover 105 = .ok (.iadd, 1) := by decide +kernel
theorem dX11_cover_106 : decode cX11_cover 106 = .ok (.iastore, 1) := by decide +kernel
theorem dX11_cover_107 : decode cX11_cover 107 = .ok (.iinc 4 1, 3) := by decide +kernel
theorem dX11_cover_110 : decode cX11_cover 110 = .ok (.goto (-53), 3) := by decide +kernel
theorem dX11_cover_113 : decode cX11_cover 113 = .ok (.iinc 3 1, 3) := by decide +kernel
theorem dX11_cover_116 : decode cX11_cover 116 = .ok (.goto (-67), 3) := by decide +kernel
theorem dX11_cover_119 : decode cX11_cover 119 = .ok (.aload_n 0, 1) := by decide +kernel
theorem dX11_cover_120 : decode cX11_cover 120 = .ok (.iload_n 2, 1) := by decide +kernel
theorem dX11_cover_121 : decode cX11_cover 121 = .ok (.invokevirtual 189, 3) := by decide +kernel
theorem dX11_cover_124 : decode cX11_cover 124 = .ok (.aload_n 0, 1) := by decide +kernel
theorem dX11_cover_125 : decode cX11_cover 125 = .ok (.getfield 9, 3) := by decide +kernel
theorem dX11_cover_128 : decode cX11_cover 128 = .ok (.ireturn, 1) := by decide +kernel
set_option maxRecDepth 20000 in
theorem ggX11_rank_J9_floorMod_7cf53 : GoodIn wsX11_rank wsJ9_floorMod_7cf53 := goodIn_r _ [5] (by decide +kernel) (by decide +kernel)
set_option maxRecDepth 20000 in
theorem gX11_rank_J9_floorMod_7cf53 : GoodIn wsX11_rank (va_wsS RX11 114 yJ9_floorMod_7cf53 wsJ9_floorMod_7cf53) := goodIn_app (goodIn_of _ (by decide +kernel)) ggX11_rank_J9_floorMod_7cf53
theorem dX11_rank_0 : decode cX11_rank 0 = .ok (.iconst 0, 1) := by decide +kernel
theorem dX11_rank_1 : decode cX11_rank 1 = .ok (.istore_n 3, 1) := by decide +kernel
theorem dX11_rank_2 : decode cX11_rank 2 = .ok (.iconst 0, 1) := by decide +kernel
theorem dX11_rank_3 : decode cX11_rank 3 = .ok (.istore 4, 2) := by decide +kernel
theorem dX11_rank_5 : decode cX11_rank 5 = .ok (.iload 4, 2) := by decide +kernel
theorem dX11_rank_7 : decode cX11_rank 7 = .ok (.bipush 64, 2) := by decide +kernel
theorem dX11_rank_9 : decode cX11_rank 9 = .ok (.if_icmp .ge 257, 3) := by decide +kernel
theorem dX11_rank_12 : decode cX11_rank 12 = .ok (.iload_n 3, 1) := by decide +kernel
theorem dX11_rank_13 : decode cX11_rank 13 = .ok (.istore 5, 2) := by decide +kernel
theorem dX11_rank_15 : decode cX11_rank 15 = .ok (.iload 5, 2) := by decide +kernel
theorem dX11_rank_17 : decode cX11_rank 17 = .ok (.iload_n 1, 1) := by decide +kernel
theorem dX11_rank_18 : decode cX11_rank 18 = .ok (.if_icmp .ge 25, 3) := by decide +kernel
theorem dX11_rank_21 : decode cX11_rank 21 = .ok (.aload_n 0, 1) := by decide +kernel
theorem dX11_rank_22 : decode cX11_rank 22 = .ok (.getfield 65, 3) := by decide +kernel
theorem dX11_rank_25 : decode cX11_rank 25 = .ok (.bipush 64, 2) := by decide +kernel
theorem dX11_rank_27 : decode cX11_rank 27 = .ok (.iload 5, 2) := by decide +kernel
theorem dX11_rank_29 : decode cX11_rank 29 = .ok (.imul, 1) := by decide +kernel
theorem dX11_rank_30 : decode cX11_rank 30 = .ok (.iload 4, 2) := by decide +kernel
theorem dX11_rank_32 : decode cX11_rank 32 = .ok (.iadd, 1) := by decide +kernel
theorem dX11_rank_33 : decode cX11_rank 33 = .ok (.iaload, 1) := by decide +kernel
theorem dX11_rank_34 : decode cX11_rank 34 = .ok (.ifCond .ne 9, 3) := by decide +kernel
theorem dX11_rank_37 : decode cX11_rank 37 = .ok (.iinc 5 1, 3) := by decide +kernel
theorem dX11_rank_40 : decode cX11_rank 40 = .ok (.goto (-25), 3) := by decide +kernel
theorem dX11_rank_43 : decode cX11_rank 43 = .ok (.iload 5, 2) := by decide +kernel
theorem dX11_rank_45 : decode cX11_rank 45 = .ok (.iload_n 1, 1) := by decide +kernel
theorem dX11_rank_46 : decode cX11_rank 46 = .ok (.if_icmp .ne 6, 3) := by decide +kernel
theorem dX11_rank_49 : decode cX11_rank 49 = .ok (.goto 211, 3) := by decide +kernel
theorem dX11_rank_52 : decode cX11_rank 52 = .ok (.iconst 1, 1) := by decide +kernel
theorem dX11_rank_53 : decode cX11_rank 53 = .ok (.istore 6, 2) := by decide +kernel
theorem dX11_rank_55 : decode cX11_rank 55 = .ok (.iload 6, 2) := by decide +kernel
theorem dX11_rank_57 : decode cX11_rank 57 = .ok (.aload_n 0, 1) := by decide +kernel
theorem dX11_rank_58 : decode cX11_rank 58 = .ok (.getfield 65, 3) := by decide +kernel
theorem dX11_rank_61 : decode cX11_rank 61 = .ok (.bipush 64, 2) := by decide +kernel
theorem dX11_rank_63 : decode cX11_rank 63 = .ok (.iload 5, 2) := by decide +kernel
theorem dX11_rank_65 : decode cX11_rank 65 = .ok (.imul, 1) := by decide +kernel
theorem dX11_rank_66 : decode cX11_rank 66 = .ok (.iload 4, 2) := by decide +kernel
theorem dX11_rank_68 : decode cX11_rank 68 = .ok (.iadd, 1) := by decide +kernel
theorem dX11_rank_69 : decode cX11_rank 69 = .ok (.iaload, 1) := by decide +kernel
theorem dX11_rank_70 : decode cX11_rank 70 = .ok (.imul, 1) := by decide +kernel
theorem dX11_rank_71 : decode cX11_rank 71 = .ok (.iload_n 2, 1) := by decide +kernel
theorem dX11_rank_72 : decode cX11_rank 72 = .ok (.irem, 1) := by decide +kernel
theorem dX11_rank_73 : decode cX11_rank 73 = .ok (.iconst 1, 1) := by decide +kernel
theorem dX11_rank_74 : decode cX11_rank 74 = .ok (.if_icmp .eq 9, 3) := by decide +kernel
theorem dX11_rank_77 : decode cX11_rank 77 = .ok (.iinc 6 1, 3) := by decide +kernel
theorem dX11_rank_80 : decode cX11_rank 80 = .ok (.goto (-25), 3) := by decide +kernel
theorem dX11_rank_83 : decode cX11_rank 83 = .ok (.iconst 0, 1) := by decide +kernel
theorem dX11_rank_84 : decode cX11_rank 84 = .ok (.istore 7, 2) := by decide +kernel
theorem dX11_rank_86 : decode cX11_rank 86 = .ok (.iload 7, 2) := by decide +kernel
theorem dX11_rank_88 : decode cX11_rank 88 = .ok (.bipush 64, 2) := by decide +kernel
theorem dX11_rank_90 : decode cX11_rank 90 = .ok (.if_icmp .ge 68, 3) := by decide +kernel
theorem dX11_rank_93 : decode cX11_rank 93 = .ok (.aload_n 0, 1) := by decide +kernel
theorem dX11_rank_94 : decode cX11_rank 94 = .ok (.getfield 65, 3) := by decide +kernel
theorem dX11_rank_97 : decode cX11_rank 97 = .ok (.bipush 64, 2) := by decide +kernel
theorem dX11_rank_99 : decode cX11_rank 99 = .ok (.iload 5, 2) := by decide +kernel
theorem dX11_rank_101 : decode cX11_rank 101 = .ok (.imul, 1) := by decide +kernel
theorem dX11_rank_102 : decode cX11_rank 102 = .ok (.iload 7, 2) := by decide +kernel
theorem dX11_rank_104 : decode cX11_rank 104 = .ok (.iadd, 1) := by decide +kernel
theorem dX11_rank_105 : decode cX11_rank 105 = .ok (.iaload, 1) := by decide +kernel
theorem dX11_rank_106 : decode cX11_rank 106 = .ok (.iload 6, 2) := by decide +kernel
theorem dX11_rank_108 : decode cX11_rank 108 = .ok (.imul, 1) := by decide +kernel
theorem dX11_rank_109 : decode cX11_rank 109 = .ok (.iload_n 2, 1) := by decide +kernel
theorem dX11_rank_110 : decode cX11_rank 110 = .ok (.irem, 1) := by decide +kernel
theorem dX11_rank_111 : decode cX11_rank 111 = .ok (.istore 8, 2) := by decide +kernel
theorem dX11_rank_113 : decode cX11_rank 113 = .ok (.aload_n 0, 1) := by decide +kernel
theorem dX11_rank_114 : decode cX11_rank 114 = .ok (.getfield 65, 3) := by decide +kernel
theorem dX11_rank_117 : decode cX11_rank 117 = .ok (.bipush 64, 2) := by decide +kernel
theorem dX11_rank_119 : decode cX11_rank 119 = .ok (.iload 5, 2) := by decide +kernel
theorem dX11_rank_121 : decode cX11_rank 121 = .ok (.imul, 1) := by decide +kernel
theorem dX11_rank_122 : decode cX11_rank 122 = .ok (.iload 7, 2) := by decide +kernel
theorem dX11_rank_124 : decode cX11_rank 124 = .ok (.iadd, 1) := by decide +kernel
theorem dX11_rank_125 : decode cX11_rank 125 = .ok (.aload_n 0, 1) := by decide +kernel
theorem dX11_rank_126 : decode cX11_rank 126 = .ok (.getfield 65, 3) := by decide +kernel
theorem dX11_rank_129 : decode cX11_rank 129 = .ok (.bipush 64, 2) := by decide +kernel
theorem dX11_rank_131 : decode cX11_rank 131 = .ok (.iload_n 3, 1) := by decide +kernel
theorem dX11_rank_132 : decode cX11_rank 132 = .ok (.imul, 1) := by decide +kernel
theorem dX11_rank_133 : decode cX11_rank 133 = .ok (.iload 7, 2) := by decide +kernel
theorem dX11_rank_135 : decode cX11_rank 135 = .ok (.iadd, 1) := by decide +kernel
theorem dX11_rank_136 : decode cX11_rank 136 = .ok (.iaload, 1) := by decide +kernel
theorem dX11_rank_137 : decode cX11_rank 137 = .ok (.iastore, 1) := by decide +kernel
theorem dX11_rank_138 : decode cX11_rank 138 = .ok (.aload_n 0, 1) := by decide +kernel
theorem dX11_rank_139 : decode cX11_rank 139 = .ok (.getfield 65, 3) := by decide +kernel
theorem dX11_rank_142 : decode cX11_rank 142 = .ok (.bipush 64, 2) := by decide +kernel
theorem dX11_rank_144 : decode cX11_rank 144 = .ok (.iload_n 3, 1) := by decide +kernel
theorem dX11_rank_145 : decode cX11_rank 145 = .ok (.imul, 1) := by decide +kernel
theorem dX11_rank_146 : decode cX11_rank 146 = .ok (.iload 7, 2) := by decide +kernel
theorem dX11_rank_148 : decode cX11_rank 148 = .ok (.iadd, 1) := by decide +kernel
theorem dX11_rank_149 : decode cX11_rank 149 = .ok (.iload 8, 2) := by decide +kernel
theorem dX11_rank_151 : decode cX11_rank 151 = .ok (.iastore, 1) := by decide +kernel
theorem dX11_rank_152 : decode cX11_rank 152 = .ok (.iinc 7 1, 3) := by decide +kernel
theorem dX11_rank_155 : decode cX11_rank 155 = .ok (.goto (-69), 3) := by decide +kernel
theorem dX11_rank_158 : decode cX11_rank 158 = .ok (.iload_n 3, 1) := by decide +kernel
theorem dX11_rank_159 : decode cX11_rank 159 = .ok (.iconst 1, 1) := by decide +kernel
theorem dX11_rank_160 : decode cX11_rank 160 = .ok (.iadd, 1) := by decide +kernel
theorem dX11_rank_161 : decode cX11_rank 161 = .ok (.istore 7, 2) := by decide +kernel
theorem dX11_rank_163 : decode cX11_rank 163 = .ok (.iload 7, 2) := by decide +kernel
theorem dX11_rank_165 : decode cX11_rank 165 = .ok (.iload_n 1, 1) := by decide +kernel
theorem dX11_rank_166 : decode cX11_rank 166 = .ok (.if_icmp .ge 91, 3) := by decide +kernel
theorem dX11_rank_169 : decode cX11_rank 169 = .ok (.aload_n 0, 1) := by decide +kernel
theorem dX11_rank_170 : decode cX11_rank 170 = .ok (.getfield 65, 3) := by decide +kernel
theorem dX11_rank_173 : decode cX11_rank 173 = .ok (.bipush 64, 2) := by decide +kernel
theorem dX11_rank_175 : decode cX11_rank 175 = .ok (.iload 7, 2) := by decide +kernel
theorem dX11_rank_177 : decode cX11_rank 177 = .ok (.imul, 1) := by decide +kernel
theorem dX11_rank_178 : decode cX11_rank 178 = .ok (.iload 4, 2) := by decide +kernel
theorem dX11_rank_180 : decode cX11_rank 180 = .ok (.iadd, 1) := by decide +kernel
theorem dX11_rank_181 : decode cX11_rank 181 = .ok (.iaload, 1) := by decide +kernel
theorem dX11_rank_182 : decode cX11_rank 182 = .ok (.istore 8, 2) := by decide +kernel
theorem dX11_rank_184 : decode cX11_rank 184 = .ok (.iconst 0, 1) := by decide +kernel
theorem dX11_rank_185 : decode cX11_rank 185 = .ok (.istore 9, 2) := by decide +kernel
theorem dX11_rank_187 : decode cX11_rank 187 = .ok (.iload 9, 2) := by decide +kernel
theorem dX11_rank_189 : decode cX11_rank 189 = .ok (.bipush 64, 2) := by decide +kernel
theorem dX11_rank_191 : decode cX11_rank 191 = .ok (.if_icmp .ge 60, 3) := by decide +kernel
theorem dX11_rank_194 : decode cX11_rank 194 = .ok (.iload 8, 2) := by decide +kernel
theorem dX11_rank_196 : decode cX11_rank 196 = .ok (.ifCond .eq 55, 3) := by decide +kernel
theorem dX11_rank_199 : decode cX11_rank 199 = .ok (.aload_n 0, 1) := by decide +kernel
theorem dX11_rank_200 : decode cX11_rank 200 = .ok (.getfield 65, 3) := by decide +kernel
theorem dX11_rank_203 : decode cX11_rank 203 = .ok (.bipush 64, 2) := by decide +kernel
theorem dX11_rank_205 : decode cX11_rank 205 = .ok (.iload 7, 2) := by decide +kernel
theorem dX11_rank_207 : decode cX11_rank 207 = .ok (.imul, 1) := by decide +kernel
theorem dX11_rank_208 : decode cX11_rank 208 = .ok (.iload 9, 2) := by decide +kernel
theorem dX11_rank_210 : decode cX11_rank 210 = .ok (.iadd, 1) := by decide +kernel
theorem dX11_rank_211 : decode cX11_rank 211 = .ok (.aload_n 0, 1) := by decide +kernel
theorem dX11_rank_212 : decode cX11_rank 212 = .ok (.getfield 65, 3) := by decide +kernel
theorem dX11_rank_215 : decode cX11_rank 215 = .ok (.bipush 64, 2) := by decide +kernel
theorem dX11_rank_217 : decode cX11_rank 217 = .ok (.iload 7, 2) := by decide +kernel
theorem dX11_rank_219 : decode cX11_rank 219 = .ok (.imul, 1) := by decide +kernel
theorem dX11_rank_220 : decode cX11_rank 220 = .ok (.iload 9, 2) := by decide +kernel
theorem dX11_rank_222 : decode cX11_rank 222 = .ok (.iadd, 1) := by decide +kernel
theorem dX11_rank_223 : decode cX11_rank 223 = .ok (.iaload, 1) := by decide +kernel
theorem dX11_rank_224 : decode cX11_rank 224 = .ok (.iload 8, 2) := by decide +kernel
theorem dX11_rank_226 : decode cX11_rank 226 = .ok (.aload_n 0, 1) := by decide +kernel
theorem dX11_rank_227 : decode cX11_rank 227 = .ok (.getfield 65, 3) := by decide +kernel
theorem dX11_rank_230 : decode cX11_rank 230 = .ok (.bipush 64, 2) := by decide +kernel
theorem dX11_rank_232 : decode cX11_rank 232 = .ok (.iload_n 3, 1) := by decide +kernel
theorem dX11_rank_233 : decode cX11_rank 233 = .ok (.imul, 1) := by decide +kernel
theorem dX11_rank_234 : decode cX11_rank 234 = .ok (.iload 9, 2) := by decide +kernel
theorem dX11_rank_236 : decode cX11_rank 236 = .ok (.iadd, 1) := by decide +kernel
theorem dX11_rank_237 : decode cX11_rank 237 = .ok (.iaload, 1) := by decide +kernel
theorem dX11_rank_238 : decode cX11_rank 238 = .ok (.imul, 1) := by decide +kernel
theorem dX11_rank_239 : decode cX11_rank 239 = .ok (.isub, 1) := by decide +kernel
theorem dX11_rank_240 : decode cX11_rank 240 = .ok (.iload_n 2, 1) := by decide +kernel
theorem dX11_rank_241 : decode cX11_rank 241 = .ok (.invokestatic 114, 3) := by decide +kernel
theorem dX11_rank_244 : decode cX11_rank 244 = .ok (.iastore, 1) := by decide +kernel
theorem dX11_rank_245 : decode cX11_rank 245 = .ok (.iinc 9 1, 3) := by decide +kernel
theorem dX11_rank_248 : decode cX11_rank 248 = .ok (.goto (-61), 3) := by decide +kernel
theorem dX11_rank_251 : decode cX11_rank 251 = .ok (.iinc 7 1, 3) := by decide +kernel
theorem dX11_rank_254 : decode cX11_rank 254 = .ok (.goto (-91), 3) := by decide +kernel
theorem dX11_rank_257 : decode cX11_rank 257 = .ok (.iinc 3 1, 3) := by decide +kernel
theorem dX11_rank_260 : decode cX11_rank 260 = .ok (.iinc 4 1, 3) := by decide +kernel
theorem dX11_rank_263 : decode cX11_rank 263 = .ok (.goto (-258), 3) := by decide +kernel
theorem dX11_rank_266 : decode cX11_rank 266 = .ok (.iload_n 3, 1) := by decide +kernel
theorem dX11_rank_267 : decode cX11_rank 267 = .ok (.ireturn, 1) := by decide +kernel
set_option maxRecDepth 20000 in
theorem ggX11_adds_J9_floorMod_7cf53 : GoodIn wsX11_adds wsJ9_floorMod_7cf53 := goodIn_r _ [5] (by decide +kernel) (by decide +kernel)
set_option maxRecDepth 20000 in
theorem gX11_adds_J9_floorMod_7cf53 : GoodIn wsX11_adds (va_wsS RX11 114 yJ9_floorMod_7cf53 wsJ9_floorMod_7cf53) := goodIn_app (goodIn_of _ (by decide +kernel)) ggX11_adds_J9_floorMod_7cf53
theorem dX11_adds_0 : decode cX11_adds 0 = .ok (.bipush 64, 2) := by decide +kernel
theorem dX11_adds_2 : decode cX11_adds 2 = .ok (.iload_n 1, 1) := by decide +kernel
theorem dX11_adds_3 : decode cX11_adds 3 = .ok (.imul, 1) := by decide +kernel
theorem dX11_adds_4 : decode cX11_adds 4 = .ok (.bipush 8, 2) := by decide +kernel
theorem dX11_adds_6 : decode cX11_adds 6 = .ok (.iload_n 2, 1) := by decide +kernel
theorem dX11_adds_7 : decode cX11_adds 7 = .ok (.imul, 1) := by decide +kernel
theorem dX11_adds_8 : decode cX11_adds 8 = .ok (.iadd, 1) := by decide +kernel
theorem dX11_adds_9 : decode cX11_adds 9 = .ok (.iload_n 3, 1) := by decide +kernel
theorem dX11_adds_10 : decode cX11_adds 10 = .ok (.iadd, 1) := by decide +kernel
theorem dX11_adds_11 : decode cX11_adds 11 = .ok (.istore 6, 2) := by decide +kernel
theorem dX11_adds_13 : decode cX11_adds 13 = .ok (.aload_n 0, 1) := by decide +kernel
theorem dX11_adds_14 : decode cX11_adds 14 = .ok (.getfield 65, 3) := by decide +kernel
theorem dX11_adds_17 : decode cX11_adds 17 = .ok (.iload 6, 2) := by decide +kernel
theorem dX11_adds_19 : decode cX11_adds 19 = .ok (.aload_n 0, 1) := by decide +kernel
theorem dX11_adds_20 : decode cX11_adds 20 = .ok (.getfield 65, 3) := by decide +kernel
theorem dX11_adds_23 : decode cX11_adds 23 = .ok (.iload 6, 2) := by decide +kernel
theorem dX11_adds_25 : decode cX11_adds 25 = .ok (.iaload, 1) := by decide +kernel
theorem dX11_adds_26 : decode cX11_adds 26 = .ok (.iload 4, 2) := by decide +kernel
theorem dX11_adds_28 : decode cX11_adds 28 = .ok (.iadd, 1) := by decide +kernel
theorem dX11_adds_29 : decode cX11_adds 29 = .ok (.iload 5, 2) := by decide +kernel
theorem dX11_adds_31 : decode cX11_adds 31 = .ok (.invokestatic 114, 3) := by decide +kernel
theorem dX11_adds_34 : decode cX11_adds 34 = .ok (.iastore, 1) := by decide +kernel
theorem dX11_adds_35 : decode cX11_adds 35 = .ok (.return_, 1) := by decide +kernel
set_option maxRecDepth 20000 in
theorem ggX11_power_X11_in : GoodIn wsX11_power wsX11_in := goodIn_r _ [7] (by decide +kernel) (by decide +kernel)
set_option maxRecDepth 20000 in
theorem gX11_power_X11_in : GoodIn wsX11_power (va_wsS RX11 86 yX11_in wsX11_in) := goodIn_app (goodIn_of _ (by decide +kernel)) ggX11_power_X11_in
set_option maxRecDepth 20000 in
theorem ggX11_power_X11_isRack : GoodIn wsX11_power wsX11_isRack := goodIn_r _ [11, 12, 13, 14, 6, 15, 2, 16, 17, 18, 19, 20, 21, 22, 23, 24, 51, 52, 53, 54, 55, 56, 57, 58, 59, 60, 61, 62, 63, 64, 65, 66, 67, 68, 69, 70, 71, 72, 73, 74, 75, 76, 77, 78, 79] (by decide +kernel) (by decide +kernel)
set_option maxRecDepth 20000 in
theorem gX11_power_X11_isRack : GoodIn wsX11_power (wsV RX11 165 RX11 yX11_isRack wsX11_isRack) := goodIn_app (goodIn_of _ (by decide +kernel)) ggX11_power_X11_isRack
set_option maxRecDepth 20000 in
theorem ggX11_power_X11_findsOrbits : GoodIn wsX11_power wsX11_findsOrbits := goodIn_r _ [28, 2, 29, 30, 31, 32, 33, 16, 17, 18, 6, 19, 20, 34, 35, 36, 37, 38, 51, 52, 53, 54, 55, 56, 57, 58, 59, 60, 61, 62, 63, 64, 65, 66, 67, 68, 69, 70, 71, 72, 73, 74, 75, 76, 77, 78, 79] (by decide +kernel) (by decide +kernel)
set_option maxRecDepth 20000 in
theorem gX11_power_X11_findsOrbits : GoodIn wsX11_power (wsV RX11 173 RX11 yX11_findsOrbits wsX11_findsOrbits) := goodIn_app (goodIn_of _ (by decide +kernel)) ggX11_power_X11_findsOrbits
set_option maxRecDepth 20000 in
theorem ggX11_power_X11_adds : GoodIn wsX11_power wsX11_adds := goodIn_r _ [42, 3, 43, 44, 45, 46, 51, 52, 53, 54, 55, 56, 57, 58, 59, 60, 61, 62, 63, 64, 65, 66, 67, 68, 69, 70, 71, 72, 73, 74, 75, 76, 77, 78, 79] (by decide +kernel) (by decide +kernel)
set_option maxRecDepth 20000 in
theorem gX11_power_X11_adds : GoodIn wsX11_power (wsV RX11 208 RX11 yX11_adds wsX11_adds) := goodIn_app (goodIn_of _ (by decide +kernel)) ggX11_power_X11_adds
set_option maxRecDepth 20000 in
theorem ggX11_power_X11_by : GoodIn wsX11_power wsX11_by := goodIn_r _ [19, 20, 51, 52, 53, 54, 55, 56, 57, 58, 59, 60, 61, 62, 63, 64, 65, 66, 67, 68, 69, 70, 71, 72, 73, 74, 75, 76, 77, 78, 79] (by decide +kernel) (by decide +kernel)
set_option maxRecDepth 20000 in
theorem gX11_power_X11_by : GoodIn wsX11_power (wsV RX11 99 RX11 yX11_by wsX11_by) := goodIn_app (goodIn_of _ (by decide +kernel)) ggX11_power_X11_by
set_option maxRecDepth 20000 in
theorem ggX11_power_X11_rank : GoodIn wsX11_power wsX11_rank := goodIn_r _ [50, 3, 43, 44, 45, 46, 51, 52, 53, 54, 55, 56, 57, 58, 59, 60, 61, 62, 63, 64, 65, 66, 67, 68, 69, 70, 71, 72, 73, 74, 75, 76, 77, 78, 79] (by decide +kernel) (by decide +kernel)
set_option maxRecDepth 20000 in
theorem gX11_power_X11_rank : GoodIn wsX11_power (wsV RX11 212 RX11 yX11_rank wsX11_rank) := goodIn_app (goodIn_of _ (by decide +kernel)) ggX11_power_X11_rank
theorem dX11_power_0 : decode cX11_power 0 = .ok (.aload_n 0, 1) := by decide +kernel
theorem dX11_power_1 : decode cX11_power 1 = .ok (.iconst 0, 1) := by decide +kernel
theorem dX11_power_2 : decode cX11_power 2 = .ok (.putfield 83, 3) := by decide +kernel
theorem dX11_power_5 : decode cX11_power 5 = .ok (.iload_n 1, 1) := by decide +kernel
theorem dX11_power_6 : decode cX11_power 6 = .ok (.iconst 2, 1) := by decide +kernel
theorem dX11_power_7 : decode cX11_power 7 = .ok (.if_icmp .eq 19, 3) := by decide +kernel
theorem dX11_power_10 : decode cX11_power 10 = .ok (.iload_n 1, 1) := by decide +kernel
theorem dX11_power_11 : decode cX11_power 11 = .ok (.iconst 3, 1) := by decide +kernel
theorem dX11_power_12 : decode cX11_power 12 = .ok (.if_icmp .eq 14, 3) := by decide +kernel
theorem dX11_power_15 : decode cX11_power 15 = .ok (.iload_n 1, 1) := by decide +kernel
theorem dX11_power_16 : decode cX11_power 16 = .ok (.iconst 5, 1) := by decide +kernel
theorem dX11_power_17 : decode cX11_power 17 = .ok (.if_icmp .eq 9, 3) := by decide +kernel
theorem dX11_power_20 : decode cX11_power 20 = .ok (.iload_n 1, 1) := by decide +kernel
theorem dX11_power_21 : decode cX11_power 21 = .ok (.bipush 7, 2) := by decide +kernel
theorem dX11_power_23 : decode cX11_power 23 = .ok (.if_icmp .ne 20, 3) := by decide +kernel
theorem dX11_power_26 : decode cX11_power 26 = .ok (.iload_n 2, 1) := by decide +kernel
theorem dX11_power_27 : decode cX11_power 27 = .ok (.i2l, 1) := by decide +kernel
theorem dX11_power_28 : decode cX11_power 28 = .ok (.lconst 0, 1) := by decide +kernel
theorem dX11_power_29 : decode cX11_power 29 = .ok (.lconst 1, 1) := by decide +kernel
theorem dX11_power_30 : decode cX11_power 30 = .ok (.invokestatic 86, 3) := by decide +kernel
theorem dX11_power_33 : decode cX11_power 33 = .ok (.ifCond .eq 10, 3) := by decide +kernel
theorem dX11_power_36 : decode cX11_power 36 = .ok (.aload_n 0, 1) := by decide +kernel
theorem dX11_power_37 : decode cX11_power 37 = .ok (.invokevirtual 165, 3) := by decide +kernel
theorem dX11_power_40 : decode cX11_power 40 = .ok (.ifCond .ne 5, 3) := by decide +kernel
theorem dX11_power_43 : decode cX11_power 43 = .ok (.iconst (-1), 1) := by decide +kernel
theorem dX11_power_44 : decode cX11_power 44 = .ok (.ireturn, 1) := by decide +kernel
theorem dX11_power_45 : decode cX11_power 45 = .ok (.iload_n 2, 1) := by decide +kernel
theorem dX11_power_46 : decode cX11_power 46 = .ok (.iconst 1, 1) := by decide +kernel
theorem dX11_power_47 : decode cX11_power 47 = .ok (.if_icmp .ne 13, 3) := by decide +kernel
theorem dX11_power_50 : decode cX11_power 50 = .ok (.aload_n 0, 1) := by decide +kernel
theorem dX11_power_51 : decode cX11_power 51 = .ok (.getfield 9, 3) := by decide +kernel
theorem dX11_power_54 : decode cX11_power 54 = .ok (.aload_n 0, 1) := by decide +kernel
theorem dX11_power_55 : decode cX11_power 55 = .ok (.invokevirtual 173, 3) := by decide +kernel
theorem dX11_power_58 : decode cX11_power 58 = .ok (.isub, 1) := by decide +kernel
theorem dX11_power_59 : decode cX11_power 59 = .ok (.ireturn, 1) := by decide +kernel
theorem dX11_power_60 : decode cX11_power 60 = .ok (.iconst 0, 1) := by decide +kernel
theorem dX11_power_61 : decode cX11_power 61 = .ok (.istore_n 3, 1) := by decide +kernel
theorem dX11_power_62 : decode cX11_power 62 = .ok (.iload_n 3, 1) := by decide +kernel
theorem dX11_power_63 : decode cX11_power 63 = .ok (.aload_n 0, 1) := by decide +kernel
theorem dX11_power_64 : decode cX11_power 64 = .ok (.getfield 65, 3) := by decide +kernel
theorem dX11_power_67 : decode cX11_power 67 = .ok (.arraylength, 1) := by decide +kernel
theorem dX11_power_68 : decode cX11_power 68 = .ok (.if_icmp .ge 16, 3) := by decide +kernel
theorem dX11_power_71 : decode cX11_power 71 = .ok (.aload_n 0, 1) := by decide +kernel
theorem dX11_power_72 : decode cX11_power 72 = .ok (.getfield 65, 3) := by decide +kernel
theorem dX11_power_75 : decode cX11_power 75 = .ok (.iload_n 3, 1) := by decide +kernel
theorem dX11_power_76 : decode cX11_power 76 = .ok (.iconst 0, 1) := by decide +kernel
theorem dX11_power_77 : decode cX11_power 77 = .ok (.iastore, 1) := by decide +kernel
theorem dX11_power_78 : decode cX11_power 78 = .ok (.iinc 3 1, 3) := by decide +kernel
theorem dX11_power_81 : decode cX11_power 81 = .ok (.goto (-19), 3) := by decide +kernel
theorem dX11_power_84 : decode cX11_power 84 = .ok (.iconst 0, 1) := by decide +kernel
theorem dX11_power_85 : decode cX11_power 85 = .ok (.istore_n 3, 1) := by decide +kernel
theorem dX11_power_86 : decode cX11_power 86 = .ok (.iconst 0, 1) := by decide +kernel
theorem dX11_power_87 : decode cX11_power 87 = .ok (.istore 4, 2) := by decide +kernel
theorem dX11_power_89 : decode cX11_power 89 = .ok (.iload 4, 2) := by decide +kernel
theorem dX11_power_91 : decode cX11_power 91 = .ok (.aload_n 0, 1) := by decide +kernel
theorem dX11_power_92 : decode cX11_power 92 = .ok (.getfield 9, 3) := by decide +kernel
theorem dX11_power_95 : decode cX11_power 95 = .ok (.if_icmp .ge 110, 3) := by decide +kernel
theorem dX11_power_98 : decode cX11_power 98 = .ok (.iconst 0, 1) := by decide +kernel
theorem dX11_power_99 : decode cX11_power 99 = .ok (.istore 5, 2) := by decide +kernel
theorem dX11_power_101 : decode cX11_power 101 = .ok (.iload 5, 2) := by decide +kernel
theorem dX11_power_103 : decode cX11_power 103 = .ok (.aload_n 0, 1) := by decide +kernel
theorem dX11_power_104 : decode cX11_power 104 = .ok (.getfield 9, 3) := by decide +kernel
theorem dX11_power_107 : decode cX11_power 107 = .ok (.if_icmp .ge 92, 3) := by decide +kernel
theorem dX11_power_110 : decode cX11_power 110 = .ok (.iconst 0, 1) := by decide +kernel
theorem dX11_power_111 : decode cX11_power 111 = .ok (.istore 6, 2) := by decide +kernel
theorem dX11_power_113 : decode cX11_power 113 = .ok (.iload 6, 2) := by decide +kernel
theorem dX11_power_115 : decode cX11_power 115 = .ok (.aload_n 0, 1) := by decide +kernel
theorem dX11_power_116 : decode cX11_power 116 = .ok (.getfield 9, 3) := by decide +kernel
theorem dX11_power_119 : decode cX11_power 119 = .ok (.if_icmp .ge 74, 3) := by decide +kernel
theorem dX11_power_122 : decode cX11_power 122 = .ok (.aload_n 0, 1) := by decide +kernel
theorem dX11_power_123 : decode cX11_power 123 = .ok (.iload_n 3, 1) := by decide +kernel
theorem dX11_power_124 : decode cX11_power 124 = .ok (.iload 5, 2) := by decide +kernel
theorem dX11_power_126 : decode cX11_power 126 = .ok (.iload 6, 2) := by decide +kernel
theorem dX11_power_128 : decode cX11_power 128 = .ok (.iconst 1, 1) := by decide +kernel
theorem dX11_power_129 : decode cX11_power 129 = .ok (.iload_n 1, 1) := by decide +kernel
theorem dX11_power_130 : decode cX11_power 130 = .ok (.invokevirtual 208, 3) := by decide +kernel
theorem dX11_power_133 : decode cX11_power 133 = .ok (.aload_n 0, 1) := by decide +kernel
theorem dX11_power_134 : decode cX11_power 134 = .ok (.iload_n 3, 1) := by decide +kernel
theorem dX11_power_135 : decode cX11_power 135 = .ok (.iload 4, 2) := by decide +kernel
theorem dX11_power_137 : decode cX11_power 137 = .ok (.aload_n 0, 1) := by decide +kernel
theorem dX11_power_138 : decode cX11_power 138 = .ok (.iload 5, 2) := by decide +kernel
theorem dX11_power_140 : decode cX11_power 140 = .ok (.iload 6, 2) := by decide +kernel
theorem dX11_power_142 : decode cX11_power 142 = .ok (.invokevirtual 99, 3) := by decide +kernel
theorem dX11_power_145 : decode cX11_power 145 = .ok (.iconst 1, 1) := by decide +kernel
theorem dX11_power_146 : decode cX11_power 146 = .ok (.iload_n 1, 1) := by decide +kernel
theorem dX11_power_147 : decode cX11_power 147 = .ok (.invokevirtual 208, 3) := by decide +kernel
theorem dX11_power_150 : decode cX11_power 150 = .ok (.aload_n 0, 1) := by decide +kernel
theorem dX11_power_151 : decode cX11_power 151 = .ok (.iload_n 3, 1) := by decide +kernel
theorem dX11_power_152 : decode cX11_power 152 = .ok (.iload 4, 2) := by decide +kernel
theorem dX11_power_154 : decode cX11_power 154 = .ok (.iload 6, 2) := by decide +kernel
theorem dX11_power_156 : decode cX11_power 156 = .ok (.iconst (-1), 1) := by decide +kernel
theorem dX11_power_157 : decode cX11_power 157 = .ok (.iload_n 1, 1) := by decide +kernel
theorem dX11_power_158 : decode cX11_power 158 = .ok (.invokevirtual 208, 3) := by decide +kernel
theorem dX11_power_161 : decode cX11_power 161 = .ok (.aload_n 0, 1) := by decide +kernel
theorem dX11_power_162 : decode cX11_power 162 = .ok (.iload_n 3, 1) := by decide +kernel
theorem dX11_power_163 : decode cX11_power 163 = .ok (.aload_n 0, 1) := by decide +kernel
theorem dX11_power_164 : decode cX11_power 164 = .ok (.iload 4, 2) := by decide +kernel
theorem dX11_power_166 : decode cX11_power 166 = .ok (.iload 5, 2) := by decide +kernel
theorem dX11_power_168 : decode cX11_power 168 = .ok (.invokevirtual 99, 3) := by decide +kernel
theorem dX11_power_171 : decode cX11_power 171 = .ok (.aload_n 0, 1) := by decide +kernel
theorem dX11_power_172 : decode cX11_power 172 = .ok (.iload 4, 2) := by decide +kernel
theorem dX11_power_174 : decode cX11_power 174 = .ok (.iload 6, 2) := by decide +kernel
theorem dX11_power_176 : decode cX11_power 176 = .ok (.invokevirtual 99, 3) := by decide +kernel
theorem dX11_power_179 : decode cX11_power 179 = .ok (.iconst (-1), 1) := by decide +kernel
theorem dX11_power_180 : decode cX11_power 180 = .ok (.iload_n 1, 1) := by decide +kernel
theorem dX11_power_181 : decode cX11_power 181 = .ok (.invokevirtual 208, 3) := by decide +kernel
theorem dX11_power_184 : decode cX11_power 184 = .ok (.iinc 3 1, 3) := by decide +kernel
theorem dX11_power_187 : decode cX11_power 187 = .ok (.iinc 6 1, 3) := by decide +kernel
theorem dX11_power_190 : decode cX11_power 190 = .ok (.goto (-77), 3) := by decide +kernel
theorem dX11_power_193 : decode cX11_power 193 = .ok (.iinc 5 1, 3) := by decide +kernel
theorem dX11_power_196 : decode cX11_power 196 = .ok (.goto (-95), 3) := by decide +kernel
theorem dX11_power_199 : decode cX11_power 199 = .ok (.iinc 4 1, 3) := by decide +kernel
theorem dX11_power_202 : decode cX11_power 202 = .ok (.goto (-113), 3) := by decide +kernel
theorem dX11_power_205 : decode cX11_power 205 = .ok (.aload_n 0, 1) := by decide +kernel
theorem dX11_power_206 : decode cX11_power 206 = .ok (.getfield 9, 3) := by decide +kernel
theorem dX11_power_209 : decode cX11_power 209 = .ok (.aload_n 0, 1) := by decide +kernel
theorem dX11_power_210 : decode cX11_power 210 = .ok (.getfield 9, 3) := by decide +kernel
theorem dX11_power_213 : decode cX11_power 213 = .ok (.imul, 1) := by decide +kernel
theorem dX11_power_214 : decode cX11_power 214 = .ok (.aload_n 0, 1) := by decide +kernel
theorem dX11_power_215 : decode cX11_power 215 = .ok (.iload_n 3, 1) := by decide +kernel
theorem dX11_power_216 : decode cX11_power 216 = .ok (.iload_n 1, 1) := by decide +kernel
theorem dX11_power_217 : decode cX11_power 217 = .ok (.invokevirtual 212, 3) := by decide +kernel
theorem dX11_power_220 : decode cX11_power 220 = .ok (.isub, 1) := by decide +kernel
theorem dX11_power_221 : decode cX11_power 221 = .ok (.ireturn, 1) := by decide +kernel
set_option maxRecDepth 20000 in
theorem ggX11_strands_X11_in : GoodIn wsX11_strands wsX11_in := goodIn_r _ [9] (by decide +kernel) (by decide +kernel)
set_option maxRecDepth 20000 in
theorem gX11_strands_X11_in : GoodIn wsX11_strands (va_wsS RX11 86 yX11_in wsX11_in) := goodIn_app (goodIn_of _ (by decide +kernel)) ggX11_strands_X11_in
theorem dX11_strands_0 : decode cX11_strands 0 = .ok (.aload_n 0, 1) := by decide +kernel
theorem dX11_strands_1 : decode cX11_strands 1 = .ok (.iconst 0, 1) := by decide +kernel
theorem dX11_strands_2 : decode cX11_strands 2 = .ok (.putfield 83, 3) := by decide +kernel
theorem dX11_strands_5 : decode cX11_strands 5 = .ok (.iload_n 1, 1) := by decide +kernel
theorem dX11_strands_6 : decode cX11_strands 6 = .ok (.i2l, 1) := by decide +kernel
theorem dX11_strands_7 : decode cX11_strands 7 = .ok (.ldc2_w 198, 3) := by decide +kernel
theorem dX11_strands_10 : decode cX11_strands 10 = .ok (.ldc2_w 163, 3) := by decide +kernel
theorem dX11_strands_13 : decode cX11_strands 13 = .ok (.invokestatic 86, 3) := by decide +kernel
theorem dX11_strands_16 : decode cX11_strands 16 = .ok (.ifCond .ne 5, 3) := by decide +kernel
theorem dX11_strands_19 : decode cX11_strands 19 = .ok (.iconst 0, 1) := by decide +kernel
theorem dX11_strands_20 : decode cX11_strands 20 = .ok (.ireturn, 1) := by decide +kernel
theorem dX11_strands_21 : decode cX11_strands 21 = .ok (.aload_n 0, 1) := by decide +kernel
theorem dX11_strands_22 : decode cX11_strands 22 = .ok (.iload_n 1, 1) := by decide +kernel
theorem dX11_strands_23 : decode cX11_strands 23 = .ok (.putfield 68, 3) := by decide +kernel
theorem dX11_strands_26 : decode cX11_strands 26 = .ok (.aload_n 0, 1) := by decide +kernel
theorem dX11_strands_27 : decode cX11_strands 27 = .ok (.iconst 0, 1) := by decide +kernel
theorem dX11_strands_28 : decode cX11_strands 28 = .ok (.putfield 141, 3) := by decide +kernel
theorem dX11_strands_31 : decode cX11_strands 31 = .ok (.iconst 1, 1) := by decide +kernel
theorem dX11_strands_32 : decode cX11_strands 32 = .ok (.ireturn, 1) := by decide +kernel
set_option maxRecDepth 20000 in
theorem ggX11_letter_X11_in : GoodIn wsX11_letter wsX11_in := goodIn_r _ [8] (by decide +kernel) (by decide +kernel)
set_option maxRecDepth 20000 in
theorem gX11_letter_X11_in : GoodIn wsX11_letter (va_wsS RX11 86 yX11_in wsX11_in) := goodIn_app (goodIn_of _ (by decide +kernel)) ggX11_letter_X11_in
theorem dX11_letter_0 : decode cX11_letter 0 = .ok (.aload_n 0, 1) := by decide +kernel
theorem dX11_letter_1 : decode cX11_letter 1 = .ok (.iconst 0, 1) := by decide +kernel
theorem dX11_letter_2 : decode cX11_letter 2 = .ok (.putfield 83, 3) := by decide +kernel
theorem dX11_letter_5 : decode cX11_letter 5 = .ok (.iload_n 1, 1) := by decide +kernel
theorem dX11_letter_6 : decode cX11_letter 6 = .ok (.ifCond .eq 34, 3) := by decide +kernel
theorem dX11_letter_9 : decode cX11_letter 9 = .ok (.iload_n 1, 1) := by decide +kernel
theorem dX11_letter_10 : decode cX11_letter 10 = .ok (.i2l, 1) := by decide +kernel
theorem dX11_letter_11 : decode cX11_letter 11 = .ok (.iconst 1, 1) := by decide +kernel
theorem dX11_letter_12 : decode cX11_letter 12 = .ok (.aload_n 0, 1) := by decide +kernel
theorem dX11_letter_13 : decode cX11_letter 13 = .ok (.getfield 68, 3) := by decide +kernel
theorem dX11_letter_16 : decode cX11_letter 16 = .ok (.isub, 1) := by decide +kernel
theorem dX11_letter_17 : decode cX11_letter 17 = .ok (.i2l, 1) := by decide +kernel
theorem dX11_letter_18 : decode cX11_letter 18 = .ok (.aload_n 0, 1) := by decide +kernel
theorem dX11_letter_19 : decode cX11_letter 19 = .ok (.getfield 68, 3) := by decide +kernel
theorem dX11_letter_22 : decode cX11_letter 22 = .ok (.iconst 1, 1) := by decide +kernel
theorem dX11_letter_23 : decode cX11_letter 23 = .ok (.isub, 1) := by decide +kernel
theorem dX11_letter_24 : decode cX11_letter 24 = .ok (.i2l, 1) := by decide +kernel
theorem dX11_letter_25 : decode cX11_letter 25 = .ok (.invokestatic 86, 3) := by decide +kernel
theorem dX11_letter_28 : decode cX11_letter 28 = .ok (.ifCond .eq 12, 3) := by decide +kernel
theorem dX11_letter_31 : decode cX11_letter 31 = .ok (.aload_n 0, 1) := by decide +kernel
theorem dX11_letter_32 : decode cX11_letter 32 = .ok (.getfield 141, 3) := by decide +kernel
theorem dX11_letter_35 : decode cX11_letter 35 = .ok (.bipush 24, 2) := by decide +kernel
theorem dX11_letter_37 : decode cX11_letter 37 = .ok (.if_icmp .ne 5, 3) := by decide +kernel
theorem dX11_letter_40 : decode cX11_letter 40 = .ok (.iconst (-1), 1) := by decide +kernel
theorem dX11_letter_41 : decode cX11_letter 41 = .ok (.ireturn, 1) := by decide +kernel
theorem dX11_letter_42 : decode cX11_letter 42 = .ok (.aload_n 0, 1) := by decide +kernel
theorem dX11_letter_43 : decode cX11_letter 43 = .ok (.getfield 71, 3) := by decide +kernel
theorem dX11_letter_46 : decode cX11_letter 46 = .ok (.aload_n 0, 1) := by decide +kernel
theorem dX11_letter_47 : decode cX11_letter 47 = .ok (.getfield 141, 3) := by decide +kernel
theorem dX11_letter_50 : decode cX11_letter 50 = .ok (.iload_n 1, 1) := by decide +kernel
theorem dX11_letter_51 : decode cX11_letter 51 = .ok (.iastore, 1) := by decide +kernel
theorem dX11_letter_52 : decode cX11_letter 52 = .ok (.aload_n 0, 1) := by decide +kernel
theorem dX11_letter_53 : decode cX11_letter 53 = .ok (.dup, 1) := by decide +kernel
theorem dX11_letter_54 : decode cX11_letter 54 = .ok (.getfield 141, 3) := by decide +kernel
theorem dX11_letter_57 : decode cX11_letter 57 = .ok (.iconst 1, 1) := by decide +kernel
theorem dX11_letter_58 : decode cX11_letter 58 = .ok (.iadd, 1) := by decide +kernel
theorem dX11_letter_59 : decode cX11_letter 59 = .ok (.putfield 141, 3) := by decide +kernel
theorem dX11_letter_62 : decode cX11_letter 62 = .ok (.aload_n 0, 1) := by decide +kernel
theorem dX11_letter_63 : decode cX11_letter 63 = .ok (.getfield 141, 3) := by decide +kernel
theorem dX11_letter_66 : decode cX11_letter 66 = .ok (.ireturn, 1) := by decide +kernel
set_option maxRecDepth 20000 in
theorem ggX11_sumOf_X11_twistOf : GoodIn wsX11_sumOf wsX11_twistOf := goodIn_r _ [15, 16, 26, 27, 28, 29, 30, 31, 32, 33, 34, 35, 36, 37, 38, 39, 40, 41, 42, 43, 44, 45, 46, 47, 48, 49, 50, 51, 52, 53, 54] (by decide +kernel) (by decide +kernel)
set_option maxRecDepth 20000 in
theorem gX11_sumOf_X11_twistOf : GoodIn wsX11_sumOf (wsV RX11 202 RX11 yX11_twistOf wsX11_twistOf) := goodIn_app (goodIn_of _ (by decide +kernel)) ggX11_sumOf_X11_twistOf
set_option maxRecDepth 20000 in
theorem ggX11_sumOf_X11_by : GoodIn wsX11_sumOf wsX11_by := goodIn_r _ [20, 21, 26, 27, 28, 29, 30, 31, 32, 33, 34, 35, 36, 37, 38, 39, 40, 41, 42, 43, 44, 45, 46, 47, 48, 49, 50, 51, 52, 53, 54] (by decide +kernel) (by decide +kernel)
set_option maxRecDepth 20000 in
theorem gX11_sumOf_X11_by : GoodIn wsX11_sumOf (wsV RX11 99 RX11 yX11_by wsX11_by) := goodIn_app (goodIn_of _ (by decide +kernel)) ggX11_sumOf_X11_by
set_option maxRecDepth 20000 in
theorem ggX11_sumOf_J9_floorMod_7cf53 : GoodIn wsX11_sumOf wsJ9_floorMod_7cf53 := goodIn_r _ [25] (by decide +kernel) (by decide +kernel)
set_option maxRecDepth 20000 in
theorem gX11_sumOf_J9_floorMod_7cf53 : GoodIn wsX11_sumOf (va_wsS RX11 114 yJ9_floorMod_7cf53 wsJ9_floorMod_7cf53) := goodIn_app (goodIn_of _ (by decide +kernel)) ggX11_sumOf_J9_floorMod_7cf53
theorem dX11_sumOf_0 : decode cX11_sumOf 0 = .ok (.iload_n 1, 1) := by decide +kernel
theorem dX11_sumOf_1 : decode cX11_sumOf 1 = .ok (.istore_n 2, 1) := by decide +kernel
theorem dX11_sumOf_2 : decode cX11_sumOf 2 = .ok (.iconst 0, 1) := by decide +kernel
theorem dX11_sumOf_3 : decode cX11_sumOf 3 = .ok (.istore_n 3, 1) := by decide +kernel
theorem dX11_sumOf_4 : decode cX11_sumOf 4 = .ok (.iload_n 3, 1) := by decide +kernel
theorem dX11_sumOf_5 : decode cX11_sumOf 5 = .ok (.aload_n 0, 1) := by decide +kernel
theorem dX11_sumOf_6 : decode cX11_sumOf 6 = .ok (.getfield 68, 3) := by decide +kernel
theorem dX11_sumOf_9 : decode cX11_sumOf 9 = .ok (.if_icmp .ge 28, 3) := by decide +kernel
theorem dX11_sumOf_12 : decode cX11_sumOf 12 = .ok (.aload_n 0, 1) := by decide +kernel
theorem dX11_sumOf_13 : decode cX11_sumOf 13 = .ok (.getfield 74, 3) := by decide +kernel
theorem dX11_sumOf_16 : decode cX11_sumOf 16 = .ok (.iload_n 3, 1) := by decide +kernel
theorem dX11_sumOf_17 : decode cX11_sumOf 17 = .ok (.iload_n 2, 1) := by decide +kernel
theorem dX11_sumOf_18 : decode cX11_sumOf 18 = .ok (.aload_n 0, 1) := by decide +kernel
theorem dX11_sumOf_19 : decode cX11_sumOf 19 = .ok (.getfield 9, 3) := by decide +kernel
theorem dX11_sumOf_22 : decode cX11_sumOf 22 = .ok (.irem, 1) := by decide +kernel
theorem dX11_sumOf_23 : decode cX11_sumOf 23 = .ok (.iastore, 1) := by decide +kernel
theorem dX11_sumOf_24 : decode cX11_sumOf 24 = .ok (.iload_n 2, 1) := by decide +kernel
theorem dX11_sumOf_25 : decode cX11_sumOf 25 = .ok (.aload_n 0, 1) := by decide +kernel
theorem dX11_sumOf_26 : decode cX11_sumOf 26 = .ok (.getfield 9, 3) := by decide +kernel
theorem dX11_sumOf_29 : decode cX11_sumOf 29 = .ok (.idiv, 1) := by decide +kernel
theorem dX11_sumOf_30 : decode cX11_sumOf 30 = .ok (.istore_n 2, 1) := by decide +kernel
theorem dX11_sumOf_31 : decode cX11_sumOf 31 = .ok (.iinc 3 1, 3) := by decide +kernel
theorem dX11_sumOf_34 : decode cX11_sumOf 34 = .ok (.goto (-30), 3) := by decide +kernel
theorem dX11_sumOf_37 : decode cX11_sumOf 37 = .ok (.iconst 0, 1) := by decide +kernel
theorem dX11_sumOf_38 : decode cX11_sumOf 38 = .ok (.istore_n 3, 1) := by decide +kernel
theorem dX11_sumOf_39 : decode cX11_sumOf 39 = .ok (.iconst 0, 1) := by decide +kernel
theorem dX11_sumOf_40 : decode cX11_sumOf 40 = .ok (.istore 4, 2) := by decide +kernel
theorem dX11_sumOf_42 : decode cX11_sumOf 42 = .ok (.iload 4, 2) := by decide +kernel
theorem dX11_sumOf_44 : decode cX11_sumOf 44 = .ok (.aload_n 0, 1) := by decide +kernel
theorem dX11_sumOf_45 : decode cX11_sumOf 45 = .ok (.getfield 141, 3) := by decide +kernel
theorem dX11_sumOf_48 : decode cX11_sumOf 48 = .ok (.if_icmp .ge 146, 3) := by decide +kernel
theorem dX11_sumOf_51 : decode cX11_sumOf 51 = .ok (.aload_n 0, 1) := by decide +kernel
theorem dX11_sumOf_52 : decode cX11_sumOf 52 = .ok (.getfield 71, 3) := by decide +kernel
theorem dX11_sumOf_55 : decode cX11_sumOf 55 = .ok (.iload 4, 2) := by decide +kernel
theorem dX11_sumOf_57 : decode cX11_sumOf 57 = .ok (.iaload, 1) := by decide +kernel
theorem dX11_sumOf_58 : decode cX11_sumOf 58 = .ok (.invokestatic 215, 3) := by decide +kernel
theorem dX11_sumOf_61 : decode cX11_sumOf 61 = .ok (.iconst 1, 1) := by decide +kernel
theorem dX11_sumOf_62 : decode cX11_sumOf 62 = .ok (.isub, 1) := by decide +kernel
theorem dX11_sumOf_63 : decode cX11_sumOf 63 = .ok (.istore 5, 2) := by decide +kernel
theorem dX11_sumOf_65 : decode cX11_sumOf 65 = .ok (.aload_n 0, 1) := by decide +kernel
theorem dX11_sumOf_66 : decode cX11_sumOf 66 = .ok (.getfield 74, 3) := by decide +kernel
theorem dX11_sumOf_69 : decode cX11_sumOf 69 = .ok (.iload 5, 2) := by decide +kernel
theorem dX11_sumOf_71 : decode cX11_sumOf 71 = .ok (.iaload, 1) := by decide +kernel
theorem dX11_sumOf_72 : decode cX11_sumOf 72 = .ok (.istore 6, 2) := by decide +kernel
theorem dX11_sumOf_74 : decode cX11_sumOf 74 = .ok (.aload_n 0, 1) := by decide +kernel
theorem dX11_sumOf_75 : decode cX11_sumOf 75 = .ok (.getfield 74, 3) := by decide +kernel
theorem dX11_sumOf_78 : decode cX11_sumOf 78 = .ok (.iload 5, 2) := by decide +kernel
theorem dX11_sumOf_80 : decode cX11_sumOf 80 = .ok (.iconst 1, 1) := by decide +kernel
theorem dX11_sumOf_81 : decode cX11_sumOf 81 = .ok (.iadd, 1) := by decide +kernel
theorem dX11_sumOf_82 : decode cX11_sumOf 82 = .ok (.iaload, 1) := by decide +kernel
theorem dX11_sumOf_83 : decode cX11_sumOf 83 = .ok (.istore 7, 2) := by decide +kernel
theorem dX11_sumOf_85 : decode cX11_sumOf 85 = .ok (.aload_n 0, 1) := by decide +kernel
theorem dX11_sumOf_86 : decode cX11_sumOf 86 = .ok (.getfield 71, 3) := by decide +kernel
theorem dX11_sumOf_89 : decode cX11_sumOf 89 = .ok (.iload 4, 2) := by decide +kernel
theorem dX11_sumOf_91 : decode cX11_sumOf 91 = .ok (.iaload, 1) := by decide +kernel
theorem dX11_sumOf_92 : decode cX11_sumOf 92 = .ok (.ifCond .le 43, 3) := by decide +kernel
theorem dX11_sumOf_95 : decode cX11_sumOf 95 = .ok (.iload_n 3, 1) := by decide +kernel
theorem dX11_sumOf_96 : decode cX11_sumOf 96 = .ok (.aload_n 0, 1) := by decide +kernel
theorem dX11_sumOf_97 : decode cX11_sumOf 97 = .ok (.iload 6, 2) := by decide +kernel
theorem dX11_sumOf_99 : decode cX11_sumOf 99 = .ok (.iload 7, 2) := by decide +kernel
theorem dX11_sumOf_101 : decode cX11_sumOf 101 = .ok (.invokevirtual 202, 3) := by decide +kernel
theorem dX11_sumOf_104 : decode cX11_sumOf 104 = .ok (.iadd, 1) := by decide +kernel
theorem dX11_sumOf_105 : decode cX11_sumOf 105 = .ok (.istore_n 3, 1) := by decide +kernel
theorem dX11_sumOf_106 : decode cX11_sumOf 106 = .ok (.aload_n 0, 1) := by decide +kernel
theorem dX11_sumOf_107 : decode cX11_sumOf 107 = .ok (.getfield 74, 3) := by decide +kernel
theorem dX11_sumOf_110 : decode cX11_sumOf 110 = .ok (.iload 5, 2) := by decide +kernel
theorem dX11_sumOf_112 : decode cX11_sumOf 112 = .ok (.aload_n 0, 1) := by decide +kernel
theorem dX11_sumOf_113 : decode cX11_sumOf 113 = .ok (.iload 6, 2) := by decide +kernel
theorem dX11_sumOf_115 : decode cX11_sumOf 115 = .ok (.iload 7, 2) := by decide +kernel
theorem dX11_sumOf_117 : decode cX11_sumOf 117 = .ok (.invokevirtual 99, 3) := by decide +kernel
theorem dX11_sumOf_120 : decode cX11_sumOf 120 = .ok (.iastore, 1) := by decide +kernel
theorem dX11_sumOf_121 : decode cX11_sumOf 121 = .ok (.aload_n 0, 1) := by decide +kernel
theorem dX11_sumOf_122 : decode cX11_sumOf 122 = .ok (.getfield 74, 3) := by decide +kernel
theorem dX11_sumOf_125 : decode cX11_sumOf 125 = .ok (.iload 5, 2) := by decide +kernel
theorem dX11_sumOf_127 : decode cX11_sumOf 127 = .ok (.iconst 1, 1) := by decide +kernel
theorem dX11_sumOf_128 : decode cX11_sumOf 128 = .ok (.iadd, 1) := by decide +kernel
theorem dX11_sumOf_129 : decode cX11_sumOf 129 = .ok (.iload 6, 2) := by decide +kernel
theorem dX11_sumOf_131 : decode cX11_sumOf 131 = .ok (.iastore, 1) := by decide +kernel
theorem dX11_sumOf_132 : decode cX11_sumOf 132 = .ok (.goto 56, 3) := by decide +kernel
theorem dX11_sumOf_135 : decode cX11_sumOf 135 = .ok (.iconst 0, 1) := by decide +kernel
theorem dX11_sumOf_136 : decode cX11_sumOf 136 = .ok (.istore 8, 2) := by decide +kernel
theorem dX11_sumOf_138 : decode cX11_sumOf 138 = .ok (.aload_n 0, 1) := by decide +kernel
theorem dX11_sumOf_139 : decode cX11_sumOf 139 = .ok (.iload 7, 2) := by decide +kernel
theorem dX11_sumOf_141 : decode cX11_sumOf 141 = .ok (.iload 8, 2) := by decide +kernel
theorem dX11_sumOf_143 : decode cX11_sumOf 143 = .ok (.invokevirtual 99, 3) := by decide +kernel
theorem dX11_sumOf_146 : decode cX11_sumOf 146 = .ok (.iload 6, 2) := by decide +kernel
theorem dX11_sumOf_148 : decode cX11_sumOf 148 = .ok (.if_icmp .eq 9, 3) := by decide +kernel
theorem dX11_sumOf_151 : decode cX11_sumOf 151 = .ok (.iinc 8 1, 3) := by decide +kernel
theorem dX11_sumOf_154 : decode cX11_sumOf 154 = .ok (.goto (-16), 3) := by decide +kernel
theorem dX11_sumOf_157 : decode cX11_sumOf 157 = .ok (.iload_n 3, 1) := by decide +kernel
theorem dX11_sumOf_158 : decode cX11_sumOf 158 = .ok (.aload_n 0, 1) := by decide +kernel
theorem dX11_sumOf_159 : decode cX11_sumOf 159 = .ok (.iload 7, 2) := by decide +kernel
theorem dX11_sumOf_161 : decode cX11_sumOf 161 = .ok (.iload 8, 2) := by decide +kernel
theorem dX11_sumOf_163 : decode cX11_sumOf 163 = .ok (.invokevirtual 202, 3) := by decide +kernel
theorem dX11_sumOf_166 : decode cX11_sumOf 166 = .ok (.isub, 1) := by decide +kernel
theorem dX11_sumOf_167 : decode cX11_sumOf 167 = .ok (.istore_n 3, 1) := by decide +kernel
theorem dX11_sumOf_168 : decode cX11_sumOf 168 = .ok (.aload_n 0, 1) := by decide +kernel
theorem dX11_sumOf_169 : decode cX11_sumOf 169 = .ok (.getfield 74, 3) := by decide +kernel
theorem dX11_sumOf_172 : decode cX11_sumOf 172 = .ok (.iload 5, 2) := by decide +kernel
theorem dX11_sumOf_174 : decode cX11_sumOf 174 = .ok (.iload 7, 2) := by decide +kernel
theorem dX11_sumOf_176 : decode cX11_sumOf 176 = .ok (.iastore, 1) := by decide +kernel
theorem dX11_sumOf_177 : decode cX11_sumOf 177 = .ok (.aload_n 0, 1) := by decide +kernel
theorem dX11_sumOf_178 : decode cX11_sumOf 178 = .ok (.getfield 74, 3) := by decide +kernel
theorem dX11_sumOf_181 : decode cX11_sumOf 181 = .ok (.iload 5, 2) := by decide +kernel
theorem dX11_sumOf_183 : decode cX11_sumOf 183 = .ok (.iconst 1, 1) := by decide +kernel
theorem dX11_sumOf_184 : decode cX11_sumOf 184 = .ok (.iadd, 1) := by decide +kernel
theorem dX11_sumOf_185 : decode cX11_sumOf 185 = .ok (.iload 8, 2) := by decide +kernel
theorem dX11_sumOf_187 : decode cX11_sumOf 187 = .ok (.iastore, 1) := by decide +kernel
theorem dX11_sumOf_188 : decode cX11_sumOf 188 = .ok (.iinc 4 1, 3) := by decide +kernel
theorem dX11_sumOf_191 : decode cX11_sumOf 191 = .ok (.goto (-149), 3) := by decide +kernel
theorem dX11_sumOf_194 : decode cX11_sumOf 194 = .ok (.iload_n 1, 1) := by decide +kernel
theorem dX11_sumOf_195 : decode cX11_sumOf 195 = .ok (.istore_n 2, 1) := by decide +kernel
theorem dX11_sumOf_196 : decode cX11_sumOf 196 = .ok (.iconst 0, 1) := by decide +kernel
theorem dX11_sumOf_197 : decode cX11_sumOf 197 = .ok (.istore 4, 2) := by decide +kernel
theorem dX11_sumOf_199 : decode cX11_sumOf 199 = .ok (.iload 4, 2) := by decide +kernel
theorem dX11_sumOf_201 : decode cX11_sumOf 201 = .ok (.aload_n 0, 1) := by decide +kernel
theorem dX11_sumOf_202 : decode cX11_sumOf 202 = .ok (.getfield 68, 3) := by decide +kernel
theorem dX11_sumOf_205 : decode cX11_sumOf 205 = .ok (.if_icmp .ge 34, 3) := by decide +kernel
theorem dX11_sumOf_208 : decode cX11_sumOf 208 = .ok (.aload_n 0, 1) := by decide +kernel
theorem dX11_sumOf_209 : decode cX11_sumOf 209 = .ok (.getfield 74, 3) := by decide +kernel
theorem dX11_sumOf_212 : decode cX11_sumOf 212 = .ok (.iload 4, 2) := by decide +kernel
theorem dX11_sumOf_214 : decode cX11_sumOf 214 = .ok (.iaload, 1) := by decide +kernel
theorem dX11_sumOf_215 : decode cX11_sumOf 215 = .ok (.iload_n 2, 1) := by decide +kernel
theorem dX11_sumOf_216 : decode cX11_sumOf 216 = .ok (.aload_n 0, 1) := by decide +kernel
theorem dX11_sumOf_217 : decode cX11_sumOf 217 = .ok (.getfield 9, 3) := by decide +kernel
theorem dX11_sumOf_220 : decode cX11_sumOf 220 = .ok (.irem, 1) := by decide +kernel
theorem dX11_sumOf_221 : decode cX11_sumOf 221 = .ok (.if_icmp .eq 5, 3) := by decide +kernel
theorem dX11_sumOf_224 : decode cX11_sumOf 224 = .ok (.iconst (-1), 1) := by decide +kernel
theorem dX11_sumOf_225 : decode cX11_sumOf 225 = .ok (.ireturn, 1) := by decide +kernel
theorem dX11_sumOf_226 : decode cX11_sumOf 226 = .ok (.iload_n 2, 1) := by decide +kernel
theorem dX11_sumOf_227 : decode cX11_sumOf 227 = .ok (.aload_n 0, 1) := by decide +kernel
theorem dX11_sumOf_228 : decode cX11_sumOf 228 = .ok (.getfield 9, 3) := by decide +kernel
theorem dX11_sumOf_231 : decode cX11_sumOf 231 = .ok (.idiv, 1) := by decide +kernel
theorem dX11_sumOf_232 : decode cX11_sumOf 232 = .ok (.istore_n 2, 1) := by decide +kernel
theorem dX11_sumOf_233 : decode cX11_sumOf 233 = .ok (.iinc 4 1, 3) := by decide +kernel
theorem dX11_sumOf_236 : decode cX11_sumOf 236 = .ok (.goto (-37), 3) := by decide +kernel
theorem dX11_sumOf_239 : decode cX11_sumOf 239 = .ok (.iload_n 3, 1) := by decide +kernel
theorem dX11_sumOf_240 : decode cX11_sumOf 240 = .ok (.aload_n 0, 1) := by decide +kernel
theorem dX11_sumOf_241 : decode cX11_sumOf 241 = .ok (.getfield 17, 3) := by decide +kernel
theorem dX11_sumOf_244 : decode cX11_sumOf 244 = .ok (.invokestatic 114, 3) := by decide +kernel
theorem dX11_sumOf_247 : decode cX11_sumOf 247 = .ok (.ireturn, 1) := by decide +kernel
set_option maxRecDepth 20000 in
theorem ggX11_colourings_X11_sumOf : GoodIn wsX11_colourings wsX11_sumOf := goodIn_r _ [7, 1, 8, 2, 9, 10, 11, 12, 13, 14, 15, 16, 17, 18, 6, 19, 20, 21, 22, 23, 24, 25, 26, 27, 28, 29, 30, 31, 32, 33, 34, 35, 36, 37, 38, 39, 40, 41, 42, 43, 44, 45, 46, 47, 48, 49, 50, 51, 52, 53, 54, 55, 56, 57, 58] (by decide +kernel) (by decide +kernel)
set_option maxRecDepth 20000 in
theorem gX11_colourings_X11_sumOf : GoodIn wsX11_colourings (wsV RX11 218 RX11 yX11_sumOf wsX11_sumOf) := goodIn_app (goodIn_of _ (by decide +kernel)) ggX11_colourings_X11_sumOf
theorem dX11_colourings_0 : decode cX11_colourings 0 = .ok (.iconst 1, 1) := by decide +kernel
theorem dX11_colourings_1 : decode cX11_colourings 1 = .ok (.istore_n 2, 1) := by decide +kernel
theorem dX11_colourings_2 : decode cX11_colourings 2 = .ok (.iconst 0, 1) := by decide +kernel
theorem dX11_colourings_3 : decode cX11_colourings 3 = .ok (.istore_n 3, 1) := by decide +kernel
theorem dX11_colourings_4 : decode cX11_colourings 4 = .ok (.iload_n 3, 1) := by decide +kernel
theorem dX11_colourings_5 : decode cX11_colourings 5 = .ok (.aload_n 0, 1) := by decide +kernel
theorem dX11_colourings_6 : decode cX11_colourings 6 = .ok (.getfield 68, 3) := by decide +kernel
theorem dX11_colourings_9 : decode cX11_colourings 9 = .ok (.if_icmp .ge 16, 3) := by decide +kernel
theorem dX11_colourings_12 : decode cX11_colourings 12 = .ok (.iload_n 2, 1) := by decide +kernel
theorem dX11_colourings_13 : decode cX11_colourings 13 = .ok (.aload_n 0, 1) := by decide +kernel
theorem dX11_colourings_14 : decode cX11_colourings 14 = .ok (.getfield 9, 3) := by decide +kernel
theorem dX11_colourings_17 : decode cX11_colourings 17 = .ok (.imul, 1) := by decide +kernel
theorem dX11_colourings_18 : decode cX11_colourings 18 = .ok (.istore_n 2, 1) := by decide +kernel
theorem dX11_colourings_19 : decode cX11_colourings 19 = .ok (.iinc 3 1, 3) := by decide +kernel
theorem dX11_colourings_22 : decode cX11_colourings 22 = .ok (.goto (-18), 3) := by decide +kernel
theorem dX11_colourings_25 : decode cX11_colourings 25 = .ok (.iconst 0, 1) := by decide +kernel
theorem dX11_colourings_26 : decode cX11_colourings 26 = .ok (.istore_n 3, 1) := by decide +kernel
theorem dX11_colourings_27 : decode cX11_colourings 27 = .ok (.iconst 0, 1) := by decide +kernel
theorem dX11_colourings_28 : decode cX11_colourings 28 = .ok (.istore 4, 2) := by decide +kernel
theorem dX11_colourings_30 : decode cX11_colourings 30 = .ok (.iload 4, 2) := by decide +kernel
theorem dX11_colourings_32 : decode cX11_colourings 32 = .ok (.iload_n 2, 1) := by decide +kernel
theorem dX11_colourings_33 : decode cX11_colourings 33 = .ok (.if_icmp .ge 40, 3) := by decide +kernel
theorem dX11_colourings_36 : decode cX11_colourings 36 = .ok (.aload_n 0, 1) := by decide +kernel
theorem dX11_colourings_37 : decode cX11_colourings 37 = .ok (.iload 4, 2) := by decide +kernel
theorem dX11_colourings_39 : decode cX11_colourings 39 = .ok (.invokevirtual 218, 3) := by decide +kernel
theorem dX11_colourings_42 : decode cX11_colourings 42 = .ok (.istore 5, 2) := by decide +kernel
theorem dX11_colourings_44 : decode cX11_colourings 44 = .ok (.iload_n 3, 1) := by decide +kernel
theorem dX11_colourings_45 : decode cX11_colourings 45 = .ok (.iload 5, 2) := by decide +kernel
theorem dX11_colourings_47 : decode cX11_colourings 47 = .ok (.ifCond .lt 17, 3) := by decide +kernel
theorem dX11_colourings_50 : decode cX11_colourings 50 = .ok (.iload_n 1, 1) := by decide +kernel
theorem dX11_colourings_51 : decode cX11_colourings 51 = .ok (.ifCond .lt 9, 3) := by decide +kernel
theorem dX11_colourings_54 : decode cX11_colourings 54 = .ok (.iload 5, 2) := by decide +kernel
theorem dX11_colourings_56 : decode cX11_colourings 56 = .ok (.iload_n 1, 1) := by decide +kernel
theorem dX11_colourings_57 : decode cX11_colourings 57 = .ok (.if_icmp .ne 7, 3) := by decide +kernel
theorem dX11_colourings_60 : decode cX11_colourings 60 = .ok (.iconst 1, 1) := by decide +kernel
theorem dX11_colourings_61 : decode cX11_colourings 61 = .ok (.goto 4, 3) := by decide +kernel
theorem dX11_colourings_64 : decode cX11_colourings 64 = .ok (.iconst 0, 1) := by decide +kernel
theorem dX11_colourings_65 : decode cX11_colourings 65 = .ok (.iadd, 1) := by decide +kernel
theorem dX11_colourings_66 : decode cX11_colourings 66 = .ok (.istore_n 3, 1) := by decide +kernel
theorem dX11_colourings_67 : decode cX11_colourings 67 = .ok (.iinc 4 1, 3) := by decide +kernel
theorem dX11_colourings_70 : decode cX11_colourings 70 = .ok (.goto (-40), 3) := by decide +kernel
theorem dX11_colourings_73 : decode cX11_colourings 73 = .ok (.iload_n 3, 1) := by decide +kernel
theorem dX11_colourings_74 : decode cX11_colourings 74 = .ok (.ireturn, 1) := by decide +kernel
set_option maxRecDepth 20000 in
theorem ggX11_colours_X11_isRack : GoodIn wsX11_colours wsX11_isRack := goodIn_r _ [6, 7, 8, 9, 5, 10, 11, 12, 13, 14, 15, 16, 17, 18, 19, 20, 47, 48, 49, 50, 51, 52, 53, 54, 55, 56, 57, 58, 59, 60, 61, 62, 63, 64, 65, 66, 67, 68, 69, 70, 71, 72, 73, 74, 75] (by decide +kernel) (by decide +kernel)
set_option maxRecDepth 20000 in
theorem gX11_colours_X11_isRack : GoodIn wsX11_colours (wsV RX11 165 RX11 yX11_isRack wsX11_isRack) := goodIn_app (goodIn_of _ (by decide +kernel)) ggX11_colours_X11_isRack
set_option maxRecDepth 20000 in
theorem ggX11_colours_X11_colourings : GoodIn wsX11_colours wsX11_colourings := goodIn_r _ [24, 25, 11, 26, 27, 28, 5, 29, 30, 31, 32, 33, 34, 35, 36, 37, 38, 39, 40, 41, 42, 12, 13, 14, 15, 16, 43, 44, 45, 46, 47, 48, 49, 50, 51, 52, 53, 54, 55, 56, 57, 58, 59, 60, 61, 62, 63, 64, 65, 66, 67, 68, 69, 70, 71, 72, 73, 74, 75] (by decide +kernel) (by decide +kernel)
set_option maxRecDepth 20000 in
theorem gX11_colours_X11_colourings : GoodIn wsX11_colours (wsV RX11 221 RX11 yX11_colourings wsX11_colourings) := goodIn_app (goodIn_of _ (by decide +kernel)) ggX11_colours_X11_colourings
theorem dX11_colours_0 : decode cX11_colours 0 = .ok (.aload_n 0, 1) := by decide +kernel
theorem dX11_colours_1 : decode cX11_colours 1 = .ok (.iconst 0, 1) := by decide +kernel
theorem dX11_colours_2 : decode cX11_colours 2 = .ok (.putfield 83, 3) := by decide +kernel
theorem dX11_colours_5 : decode cX11_colours 5 = .ok (.aload_n 0, 1) := by decide +kernel
theorem dX11_colours_6 : decode cX11_colours 6 = .ok (.invokevirtual 165, 3) := by decide +kernel
theorem dX11_colours_9 : decode cX11_colours 9 = .ok (.ifCond .eq 11, 3) := by decide +kernel
theorem dX11_colours_12 : decode cX11_colours 12 = .ok (.aload_n 0, 1) := by decide +kernel
theorem dX11_colours_13 : decode cX11_colours 13 = .ok (.iconst (-1), 1) := by decide +kernel
theorem dX11_colours_14 : decode cX11_colours 14 = .ok (.invokevirtual 221, 3) := by decide +kernel
theorem dX11_colours_17 : decode cX11_colours 17 = .ok (.goto 4, 3) := by decide +kernel
theorem dX11_colours_20 : decode cX11_colours 20 = .ok (.iconst (-1), 1) := by decide +kernel
theorem dX11_colours_21 : decode cX11_colours 21 = .ok (.ireturn, 1) := by decide +kernel
set_option maxRecDepth 20000 in
theorem ggX11_sums_X11_in : GoodIn wsX11_sums wsX11_in := goodIn_r _ [6] (by decide +kernel) (by decide +kernel)
set_option maxRecDepth 20000 in
theorem gX11_sums_X11_in : GoodIn wsX11_sums (va_wsS RX11 86 yX11_in wsX11_in) := goodIn_app (goodIn_of _ (by decide +kernel)) ggX11_sums_X11_in
set_option maxRecDepth 20000 in
theorem ggX11_sums_X11_isRack : GoodIn wsX11_sums wsX11_isRack := goodIn_r _ [10, 11, 12, 13, 5, 14, 15, 16, 17, 18, 19, 20, 21, 22, 23, 24, 50, 51, 52, 53, 54, 55, 56, 57, 58, 59, 60, 61, 62, 63, 64, 65, 66, 67, 68, 69, 70, 71, 72, 73, 74, 75, 76, 77, 78] (by decide +kernel) (by decide +kernel)
set_option maxRecDepth 20000 in
theorem gX11_sums_X11_isRack : GoodIn wsX11_sums (wsV RX11 165 RX11 yX11_isRack wsX11_isRack) := goodIn_app (goodIn_of _ (by decide +kernel)) ggX11_sums_X11_isRack
set_option maxRecDepth 20000 in
theorem ggX11_sums_X11_colourings : GoodIn wsX11_sums wsX11_colourings := goodIn_r _ [28, 29, 15, 30, 31, 32, 5, 33, 34, 35, 36, 37, 38, 39, 40, 2, 41, 42, 43, 44, 45, 16, 17, 18, 19, 20, 46, 47, 48, 49, 50, 51, 52, 53, 54, 55, 56, 57, 58, 59, 60, 61, 62, 63, 64, 65, 66, 67, 68, 69, 70, 71, 72, 73, 74, 75, 76, 77, 78] (by decide +kernel) (by decide +kernel)
set_option maxRecDepth 20000 in
theorem gX11_sums_X11_colourings : GoodIn wsX11_sums (wsV RX11 221 RX11 yX11_colourings wsX11_colourings) := goodIn_app (goodIn_of _ (by decide +kernel)) ggX11_sums_X11_colourings
theorem dX11_sums_0 : decode cX11_sums 0 = .ok (.aload_n 0, 1) := by decide +kernel
theorem dX11_sums_1 : decode cX11_sums 1 = .ok (.iconst 0, 1) := by decide +kernel
theorem dX11_sums_2 : decode cX11_sums 2 = .ok (.putfield 83, 3) := by decide +kernel
theorem dX11_sums_5 : decode cX11_sums 5 = .ok (.iload_n 1, 1) := by decide +kernel
theorem dX11_sums_6 : decode cX11_sums 6 = .ok (.i2l, 1) := by decide +kernel
theorem dX11_sums_7 : decode cX11_sums 7 = .ok (.lconst 0, 1) := by decide +kernel
theorem dX11_sums_8 : decode cX11_sums 8 = .ok (.aload_n 0, 1) := by decide +kernel
theorem dX11_sums_9 : decode cX11_sums 9 = .ok (.getfield 17, 3) := by decide +kernel
theorem dX11_sums_12 : decode cX11_sums 12 = .ok (.iconst 1, 1) := by decide +kernel
theorem dX11_sums_13 : decode cX11_sums 13 = .ok (.isub, 1) := by decide +kernel
theorem dX11_sums_14 : decode cX11_sums 14 = .ok (.i2l, 1) := by decide +kernel
theorem dX11_sums_15 : decode cX11_sums 15 = .ok (.invokestatic 86, 3) := by decide +kernel
theorem dX11_sums_18 : decode cX11_sums 18 = .ok (.ifCond .eq 18, 3) := by decide +kernel
theorem dX11_sums_21 : decode cX11_sums 21 = .ok (.aload_n 0, 1) := by decide +kernel
theorem dX11_sums_22 : decode cX11_sums 22 = .ok (.invokevirtual 165, 3) := by decide +kernel
theorem dX11_sums_25 : decode cX11_sums 25 = .ok (.ifCond .eq 11, 3) := by decide +kernel
theorem dX11_sums_28 : decode cX11_sums 28 = .ok (.aload_n 0, 1) := by decide +kernel
theorem dX11_sums_29 : decode cX11_sums 29 = .ok (.iload_n 1, 1) := by decide +kernel
theorem dX11_sums_30 : decode cX11_sums 30 = .ok (.invokevirtual 221, 3) := by decide +kernel
theorem dX11_sums_33 : decode cX11_sums 33 = .ok (.goto 4, 3) := by decide +kernel
theorem dX11_sums_36 : decode cX11_sums 36 = .ok (.iconst (-1), 1) := by decide +kernel
theorem dX11_sums_37 : decode cX11_sums 37 = .ok (.ireturn, 1) := by decide +kernel
set_option maxRecDepth 20000 in
theorem ggX11_lists_X11_rowsOf : GoodIn wsX11_lists wsX11_rowsOf := goodIn_r _ [11, 3, 12, 6, 5, 13, 14, 15, 16, 10, 17, 18, 19, 20, 21, 22, 23, 24, 25, 26, 27, 28, 29, 30, 31, 32, 33, 34, 35, 36, 37, 38, 39, 40, 41, 42, 7, 8, 9, 43, 44, 45, 46, 47, 48, 49, 50, 51, 52, 53, 54, 55, 56, 57, 58, 59, 60, 61, 62, 63, 64, 65, 66, 67, 68, 69, 70, 71] (by decide +kernel) (by decide +kernel)
set_option maxRecDepth 20000 in
theorem gX11_lists_X11_rowsOf : GoodIn wsX11_lists (wsV RX11 233 RX11 yX11_rowsOf wsX11_rowsOf) := goodIn_app (goodIn_of _ (by decide +kernel)) ggX11_lists_X11_rowsOf
theorem dX11_lists_0 : decode cX11_lists 0 = .ok (.iload_n 1, 1) := by decide +kernel
theorem dX11_lists_1 : decode cX11_lists 1 = .ok (.aload_n 0, 1) := by decide +kernel
theorem dX11_lists_2 : decode cX11_lists 2 = .ok (.getfield 224, 3) := by decide +kernel
theorem dX11_lists_5 : decode cX11_lists 5 = .ok (.if_icmp .ne 12, 3) := by decide +kernel
theorem dX11_lists_8 : decode cX11_lists 8 = .ok (.iload_n 2, 1) := by decide +kernel
theorem dX11_lists_9 : decode cX11_lists 9 = .ok (.aload_n 0, 1) := by decide +kernel
theorem dX11_lists_10 : decode cX11_lists 10 = .ok (.getfield 227, 3) := by decide +kernel
theorem dX11_lists_13 : decode cX11_lists 13 = .ok (.if_icmp .ne 4, 3) := by decide +kernel
theorem dX11_lists_16 : decode cX11_lists 16 = .ok (.return_, 1) := by decide +kernel
theorem dX11_lists_17 : decode cX11_lists 17 = .ok (.aload_n 0, 1) := by decide +kernel
theorem dX11_lists_18 : decode cX11_lists 18 = .ok (.iload_n 1, 1) := by decide +kernel
theorem dX11_lists_19 : decode cX11_lists 19 = .ok (.putfield 224, 3) := by decide +kernel
theorem dX11_lists_22 : decode cX11_lists 22 = .ok (.aload_n 0, 1) := by decide +kernel
theorem dX11_lists_23 : decode cX11_lists 23 = .ok (.iload_n 2, 1) := by decide +kernel
theorem dX11_lists_24 : decode cX11_lists 24 = .ok (.putfield 227, 3) := by decide +kernel
theorem dX11_lists_27 : decode cX11_lists 27 = .ok (.aload_n 0, 1) := by decide +kernel
theorem dX11_lists_28 : decode cX11_lists 28 = .ok (.getfield 9, 3) := by decide +kernel
theorem dX11_lists_31 : decode cX11_lists 31 = .ok (.istore_n 3, 1) := by decide +kernel
theorem dX11_lists_32 : decode cX11_lists 32 = .ok (.iconst 0, 1) := by decide +kernel
theorem dX11_lists_33 : decode cX11_lists 33 = .ok (.istore 4, 2) := by decide +kernel
theorem dX11_lists_35 : decode cX11_lists 35 = .ok (.iload 4, 2) := by decide +kernel
theorem dX11_lists_37 : decode cX11_lists 37 = .ok (.bipush 64, 2) := by decide +kernel
theorem dX11_lists_39 : decode cX11_lists 39 = .ok (.if_icmp .ge 23, 3) := by decide +kernel
theorem dX11_lists_42 : decode cX11_lists 42 = .ok (.aload_n 0, 1) := by decide +kernel
theorem dX11_lists_43 : decode cX11_lists 43 = .ok (.getfield 77, 3) := by decide +kernel
theorem dX11_lists_46 : decode cX11_lists 46 = .ok (.iload 4, 2) := by decide +kernel
theorem dX11_lists_48 : decode cX11_lists 48 = .ok (.aload_n 0, 1) := by decide +kernel
theorem dX11_lists_49 : decode cX11_lists 49 = .ok (.getfield 13, 3) := by decide +kernel
theorem dX11_lists_52 : decode cX11_lists 52 = .ok (.iload 4, 2) := by decide +kernel
theorem dX11_lists_54 : decode cX11_lists 54 = .ok (.iaload, 1) := by decide +kernel
theorem dX11_lists_55 : decode cX11_lists 55 = .ok (.iastore, 1) := by decide +kernel
theorem dX11_lists_56 : decode cX11_lists 56 = .ok (.iinc 4 1, 3) := by decide +kernel
theorem dX11_lists_59 : decode cX11_lists 59 = .ok (.goto (-24), 3) := by decide +kernel
theorem dX11_lists_62 : decode cX11_lists 62 = .ok (.aload_n 0, 1) := by decide +kernel
theorem dX11_lists_63 : decode cX11_lists 63 = .ok (.iload_n 1, 1) := by decide +kernel
theorem dX11_lists_64 : decode cX11_lists 64 = .ok (.putfield 9, 3) := by decide +kernel
theorem dX11_lists_67 : decode cX11_lists 67 = .ok (.aload_n 0, 1) := by decide +kernel
theorem dX11_lists_68 : decode cX11_lists 68 = .ok (.iconst 0, 1) := by decide +kernel
theorem dX11_lists_69 : decode cX11_lists 69 = .ok (.putfield 230, 3) := by decide +kernel
theorem dX11_lists_72 : decode cX11_lists 72 = .ok (.aload_n 0, 1) := by decide +kernel
theorem dX11_lists_73 : decode cX11_lists 73 = .ok (.iconst 0, 1) := by decide +kernel
theorem dX11_lists_74 : decode cX11_lists 74 = .ok (.iload_n 2, 1) := by decide +kernel
theorem dX11_lists_75 : decode cX11_lists 75 = .ok (.invokevirtual 233, 3) := by decide +kernel
theorem dX11_lists_78 : decode cX11_lists 78 = .ok (.aload_n 0, 1) := by decide +kernel
theorem dX11_lists_79 : decode cX11_lists 79 = .ok (.iload_n 3, 1) := by decide +kernel
theorem dX11_lists_80 : decode cX11_lists 80 = .ok (.putfield 9, 3) := by decide +kernel
theorem dX11_lists_83 : decode cX11_lists 83 = .ok (.iconst 0, 1) := by decide +kernel
theorem dX11_lists_84 : decode cX11_lists 84 = .ok (.istore 4, 2) := by decide +kernel
theorem dX11_lists_86 : decode cX11_lists 86 = .ok (.iload 4, 2) := by decide +kernel
theorem dX11_lists_88 : decode cX11_lists 88 = .ok (.bipush 64, 2) := by decide +kernel
theorem dX11_lists_90 : decode cX11_lists 90 = .ok (.if_icmp .ge 23, 3) := by decide +kernel
theorem dX11_lists_93 : decode cX11_lists 93 = .ok (.aload_n 0, 1) := by decide +kernel
theorem dX11_lists_94 : decode cX11_lists 94 = .ok (.getfield 13, 3) := by decide +kernel
theorem dX11_lists_97 : decode cX11_lists 97 = .ok (.iload 4, 2) := by decide +kernel
theorem dX11_lists_99 : decode cX11_lists 99 = .ok (.aload_n 0, 1) := by decide +kernel
theorem dX11_lists_100 : decode cX11_lists 100 = .ok (.getfield 77, 3) := by decide +kernel
theorem dX11_lists_103 : decode cX11_lists 103 = .ok (.iload 4, 2) := by decide +kernel
theorem dX11_lists_105 : decode cX11_lists 105 = .ok (.iaload, 1) := by decide +kernel
theorem dX11_lists_106 : decode cX11_lists 106 = .ok (.iastore, 1) := by decide +kernel
theorem dX11_lists_107 : decode cX11_lists 107 = .ok (.iinc 4 1, 3) := by decide +kernel
theorem dX11_lists_110 : decode cX11_lists 110 = .ok (.goto (-24), 3) := by decide +kernel
theorem dX11_lists_113 : decode cX11_lists 113 = .ok (.return_, 1) := by decide +kernel
set_option maxRecDepth 20000 in
theorem ggX11_rowsOf_X11_unruly : GoodIn wsX11_rowsOf wsX11_unruly := goodIn_r _ [10, 1, 11, 12, 13, 9, 14, 4, 39, 40, 41, 42, 43, 44, 45, 46, 47, 48, 49, 50, 51, 52, 53, 54, 55, 56, 57, 58, 59, 60, 61, 62, 63, 64, 65, 66, 67] (by decide +kernel) (by decide +kernel)
set_option maxRecDepth 20000 in
theorem gX11_rowsOf_X11_unruly : GoodIn wsX11_rowsOf (wsV RX11 150 RX11 yX11_unruly wsX11_unruly) := goodIn_app (goodIn_of _ (by decide +kernel)) ggX11_rowsOf_X11_unruly
set_option maxRecDepth 20000 in
theorem ggX11_rowsOf_X11_leastOf : GoodIn wsX11_rowsOf wsX11_leastOf := goodIn_r _ [18, 19, 4, 1, 20, 21, 22, 23, 9, 24, 25, 26, 27, 11, 12, 13, 14, 28, 29, 30, 31, 39, 40, 41, 42, 43, 44, 45, 46, 47, 48, 49, 50, 51, 52, 53, 54, 55, 56, 57, 58, 59, 60, 61, 62, 63, 64, 65, 66, 67] (by decide +kernel) (by decide +kernel)
set_option maxRecDepth 20000 in
theorem gX11_rowsOf_X11_leastOf : GoodIn wsX11_rowsOf (wsV RX11 183 RX11 yX11_leastOf wsX11_leastOf) := goodIn_app (goodIn_of _ (by decide +kernel)) ggX11_rowsOf_X11_leastOf
set_option maxRecDepth 20000 in
theorem ggX11_rowsOf_X11_isBest : GoodIn wsX11_rowsOf wsX11_isBest := goodIn_r _ [35, 1, 19, 11, 12, 13, 9, 14, 4, 39, 40, 41, 42, 43, 44, 45, 46, 47, 48, 49, 50, 51, 52, 53, 54, 55, 56, 57, 58, 59, 60, 61, 62, 63, 64, 65, 66, 67] (by decide +kernel) (by decide +kernel)
set_option maxRecDepth 20000 in
theorem gX11_rowsOf_X11_isBest : GoodIn wsX11_rowsOf (wsV RX11 186 RX11 yX11_isBest wsX11_isBest) := goodIn_app (goodIn_of _ (by decide +kernel)) ggX11_rowsOf_X11_isBest
set_option maxRecDepth 20000 in
theorem ggX11_rowsOf_X11_factorial : GoodIn wsX11_rowsOf wsX11_factorial := goodIn_r _ [24, 22, 23, 9] (by decide +kernel) (by decide +kernel)
set_option maxRecDepth 20000 in
theorem gX11_rowsOf_X11_factorial : GoodIn wsX11_rowsOf (va_wsS RX11 119 yX11_factorial wsX11_factorial) := goodIn_app (goodIn_of _ (by decide +kernel)) ggX11_rowsOf_X11_factorial
set_option maxRecDepth 20000 in
theorem ggX11_rowsOf_X11_permutation : GoodIn wsX11_rowsOf wsX11_permutation := goodIn_r _ [27, 22, 23, 9, 24] (by decide +kernel) (by decide +kernel)
set_option maxRecDepth 20000 in
theorem gX11_rowsOf_X11_permutation : GoodIn wsX11_rowsOf (va_wsS RX11 123 yX11_permutation wsX11_permutation) := goodIn_app (goodIn_of _ (by decide +kernel)) ggX11_rowsOf_X11_permutation
set_option maxRecDepth 20000 in
theorem ggX11_rowsOf_X11_rowsOf : GoodIn wsX11_rowsOf wsX11_rowsOf := goodIn_r _ [0, 1, 2, 3, 4, 5, 6, 7, 8, 9, 10, 11, 12, 13, 14, 15, 16, 17, 18, 19, 20, 21, 22, 23, 24, 25, 26, 27, 28, 29, 30, 31, 32, 33, 34, 35, 36, 37, 38, 39, 40, 41, 42, 43, 44, 45, 46, 47, 48, 49, 50, 51, 52, 53, 54, 55, 56, 57, 58, 59, 60, 61, 62, 63, 64, 65, 66, 67] (by decide +kernel) (by decide +kernel)
set_option maxRecDepth 20000 in
theorem gX11_rowsOf_X11_rowsOf : GoodIn wsX11_rowsOf (wsV RX11 233 RX11 yX11_rowsOf wsX11_rowsOf) := goodIn_app (goodIn_of _ (by decide +kernel)) ggX11_rowsOf_X11_rowsOf
theorem dX11_rowsOf_0 : decode cX11_rowsOf 0 = .ok (.iload_n 1, 1) := by decide +kernel
theorem dX11_rowsOf_1 : decode cX11_rowsOf 1 = .ok (.aload_n 0, 1) := by decide +kernel
theorem dX11_rowsOf_2 : decode cX11_rowsOf 2 = .ok (.getfield 9, 3) := by decide +kernel
theorem dX11_rowsOf_5 : decode cX11_rowsOf 5 = .ok (.if_icmp .ne 66, 3) := by decide +kernel
theorem dX11_rowsOf_8 : decode cX11_rowsOf 8 = .ok (.aload_n 0, 1) := by decide +kernel
theorem dX11_rowsOf_9 : decode cX11_rowsOf 9 = .ok (.invokevirtual 150, 3) := by decide +kernel
theorem dX11_rowsOf_12 : decode cX11_rowsOf 12 = .ok (.ifCond .ge 58, 3) := by decide +kernel
theorem dX11_rowsOf_15 : decode cX11_rowsOf 15 = .ok (.aload_n 0, 1) := by decide +kernel
theorem dX11_rowsOf_16 : decode cX11_rowsOf 16 = .ok (.invokevirtual 183, 3) := by decide +kernel
theorem dX11_rowsOf_19 : decode cX11_rowsOf 19 = .ok (.aload_n 0, 1) := by decide +kernel
theorem dX11_rowsOf_20 : decode cX11_rowsOf 20 = .ok (.invokevirtual 186, 3) := by decide +kernel
theorem dX11_rowsOf_23 : decode cX11_rowsOf 23 = .ok (.ifCond .eq 47, 3) := by decide +kernel
theorem dX11_rowsOf_26 : decode cX11_rowsOf 26 = .ok (.iconst 0, 1) := by decide +kernel
theorem dX11_rowsOf_27 : decode cX11_rowsOf 27 = .ok (.istore_n 3, 1) := by decide +kernel
theorem dX11_rowsOf_28 : decode cX11_rowsOf 28 = .ok (.iload_n 3, 1) := by decide +kernel
theorem dX11_rowsOf_29 : decode cX11_rowsOf 29 = .ok (.bipush 64, 2) := by decide +kernel
theorem dX11_rowsOf_31 : decode cX11_rowsOf 31 = .ok (.if_icmp .ge 29, 3) := by decide +kernel
theorem dX11_rowsOf_34 : decode cX11_rowsOf 34 = .ok (.aload_n 0, 1) := by decide +kernel
theorem dX11_rowsOf_35 : decode cX11_rowsOf 35 = .ok (.getfield 80, 3) := by decide +kernel
theorem dX11_rowsOf_38 : decode cX11_rowsOf 38 = .ok (.bipush 64, 2) := by decide +kernel
theorem dX11_rowsOf_40 : decode cX11_rowsOf 40 = .ok (.aload_n 0, 1) := by decide +kernel
theorem dX11_rowsOf_41 : decode cX11_rowsOf 41 = .ok (.getfield 230, 3) := by decide +kernel
theorem dX11_rowsOf_44 : decode cX11_rowsOf 44 = .ok (.imul, 1) := by decide +kernel
theorem dX11_rowsOf_45 : decode cX11_rowsOf 45 = .ok (.iload_n 3, 1) := by decide +kernel
theorem dX11_rowsOf_46 : decode cX11_rowsOf 46 = .ok (.iadd, 1) := by decide +kernel
theorem dX11_rowsOf_47 : decode cX11_rowsOf 47 = .ok (.aload_n 0, 1) := by decide +kernel
theorem dX11_rowsOf_48 : decode cX11_rowsOf 48 = .ok (.getfield 13, 3) := by decide +kernel
theorem dX11_rowsOf_51 : decode cX11_rowsOf 51 = .ok (.iload_n 3, 1) := by decide +kernel
theorem dX11_rowsOf_52 : decode cX11_rowsOf 52 = .ok (.iaload, 1) := by decide +kernel
theorem dX11_rowsOf_53 : decode cX11_rowsOf 53 = .ok (.iastore, 1) := by decide +kernel
theorem dX11_rowsOf_54 : decode cX11_rowsOf 54 = .ok (.iinc 3 1, 3) := by decide +kernel
theorem dX11_rowsOf_57 : decode cX11_rowsOf 57 = .ok (.goto (-29), 3) := by decide +kernel
theorem dX11_rowsOf_60 : decode cX11_rowsOf 60 = .ok (.aload_n 0, 1) := by decide +kernel
theorem dX11_rowsOf_61 : decode cX11_rowsOf 61 = .ok (.dup, 1) := by decide +kernel
theorem dX11_rowsOf_62 : decode cX11_rowsOf 62 = .ok (.getfield 230, 3) := by decide +kernel
theorem dX11_rowsOf_65 : decode cX11_rowsOf 65 = .ok (.iconst 1, 1) := by decide +kernel
theorem dX11_rowsOf_66 : decode cX11_rowsOf 66 = .ok (.iadd, 1) := by decide +kernel
theorem dX11_rowsOf_67 : decode cX11_rowsOf 67 = .ok (.putfield 230, 3) := by decide +kernel
theorem dX11_rowsOf_70 : decode cX11_rowsOf 70 = .ok (.return_, 1) := by decide +kernel
theorem dX11_rowsOf_71 : decode cX11_rowsOf 71 = .ok (.iconst 0, 1) := by decide +kernel
theorem dX11_rowsOf_72 : decode cX11_rowsOf 72 = .ok (.istore_n 3, 1) := by decide +kernel
theorem dX11_rowsOf_73 : decode cX11_rowsOf 73 = .ok (.iload_n 3, 1) := by decide +kernel
theorem dX11_rowsOf_74 : decode cX11_rowsOf 74 = .ok (.aload_n 0, 1) := by decide +kernel
theorem dX11_rowsOf_75 : decode cX11_rowsOf 75 = .ok (.getfield 9, 3) := by decide +kernel
theorem dX11_rowsOf_78 : decode cX11_rowsOf 78 = .ok (.invokestatic 119, 3) := by decide +kernel
theorem dX11_rowsOf_81 : decode cX11_rowsOf 81 = .ok (.if_icmp .ge 80, 3) := by decide +kernel
theorem dX11_rowsOf_84 : decode cX11_rowsOf 84 = .ok (.aload_n 0, 1) := by decide +kernel
theorem dX11_rowsOf_85 : decode cX11_rowsOf 85 = .ok (.getfield 9, 3) := by decide +kernel
theorem dX11_rowsOf_88 : decode cX11_rowsOf 88 = .ok (.iload_n 3, 1) := by decide +kernel
theorem dX11_rowsOf_89 : decode cX11_rowsOf 89 = .ok (.aload_n 0, 1) := by decide +kernel
theorem dX11_rowsOf_90 : decode cX11_rowsOf 90 = .ok (.getfield 26, 3) := by decide +kernel
theorem dX11_rowsOf_93 : decode cX11_rowsOf 93 = .ok (.invokestatic 123, 3) := by decide +kernel
theorem dX11_rowsOf_96 : decode cX11_rowsOf 96 = .ok (.iload_n 2, 1) := by decide +kernel
theorem dX11_rowsOf_97 : decode cX11_rowsOf 97 = .ok (.ifCond .eq 13, 3) := by decide +kernel
theorem dX11_rowsOf_100 : decode cX11_rowsOf 100 = .ok (.aload_n 0, 1) := by decide +kernel
theorem dX11_rowsOf_101 : decode cX11_rowsOf 101 = .ok (.getfield 26, 3) := by decide +kernel
theorem dX11_rowsOf_104 : decode cX11_rowsOf 104 = .ok (.iload_n 1, 1) := by decide +kernel
theorem dX11_rowsOf_105 : decode cX11_rowsOf 105 = .ok (.iaload, 1) := by decide +kernel
theorem dX11_rowsOf_106 : decode cX11_rowsOf 106 = .ok (.iload_n 1, 1) := by decide +kernel
theorem dX11_rowsOf_107 : decode cX11_rowsOf 107 = .ok (.if_icmp .ne 48, 3) := by decide +kernel
theorem dX11_rowsOf_110 : decode cX11_rowsOf 110 = .ok (.iconst 0, 1) := by decide +kernel
theorem dX11_rowsOf_111 : decode cX11_rowsOf 111 = .ok (.istore 4, 2) := by decide +kernel
theorem dX11_rowsOf_113 : decode cX11_rowsOf 113 = .ok (.iload 4, 2) := by decide +kernel
theorem dX11_rowsOf_115 : decode cX11_rowsOf 115 = .ok (.aload_n 0, 1) := by decide +kernel
theorem dX11_rowsOf_116 : decode cX11_rowsOf 116 = .ok (.getfield 9, 3) := by decide +kernel
theorem dX11_rowsOf_119 : decode cX11_rowsOf 119 = .ok (.if_icmp .ge 28, 3) := by decide +kernel
theorem dX11_rowsOf_122 : decode cX11_rowsOf 122 = .ok (.aload_n 0, 1) := by decide +kernel
theorem dX11_rowsOf_123 : decode cX11_rowsOf 123 = .ok (.getfield 13, 3) := by decide +kernel
theorem dX11_rowsOf_126 : decode cX11_rowsOf 126 = .ok (.bipush 8, 2) := by decide +kernel
theorem dX11_rowsOf_128 : decode cX11_rowsOf 128 = .ok (.iload_n 1, 1) := by decide +kernel
theorem dX11_rowsOf_129 : decode cX11_rowsOf 129 = .ok (.imul, 1) := by decide +kernel
theorem dX11_rowsOf_130 : decode cX11_rowsOf 130 = .ok (.iload 4, 2) := by decide +kernel
theorem dX11_rowsOf_132 : decode cX11_rowsOf 132 = .ok (.iadd, 1) := by decide +kernel
theorem dX11_rowsOf_133 : decode cX11_rowsOf 133 = .ok (.aload_n 0, 1) := by decide +kernel
theorem dX11_rowsOf_134 : decode cX11_rowsOf 134 = .ok (.getfield 26, 3) := by decide +kernel
theorem dX11_rowsOf_137 : decode cX11_rowsOf 137 = .ok (.iload 4, 2) := by decide +kernel
theorem dX11_rowsOf_139 : decode cX11_rowsOf 139 = .ok (.iaload, 1) := by decide +kernel
theorem dX11_rowsOf_140 : decode cX11_rowsOf 140 = .ok (.iastore, 1) := by decide +kernel
theorem dX11_rowsOf_141 : decode cX11_rowsOf 141 = .ok (.iinc 4 1, 3) := by decide +kernel
theorem dX11_rowsOf_144 : decode cX11_rowsOf 144 = .ok (.goto (-31), 3) := by decide +kernel
theorem dX11_rowsOf_147 : decode cX11_rowsOf 147 = .ok (.aload_n 0, 1) := by decide +kernel
theorem dX11_rowsOf_148 : decode cX11_rowsOf 148 = .ok (.iload_n 1, 1) := by decide +kernel
theorem dX11_rowsOf_149 : decode cX11_rowsOf 149 = .ok (.iconst 1, 1) := by decide +kernel
theorem dX11_rowsOf_150 : decode cX11_rowsOf 150 = .ok (.iadd, 1) := by decide +kernel
theorem dX11_rowsOf_151 : decode cX11_rowsOf 151 = .ok (.iload_n 2, 1) := by decide +kernel
theorem dX11_rowsOf_152 : decode cX11_rowsOf 152 = .ok (.invokevirtual 233, 3) := by decide +kernel
theorem dX11_rowsOf_155 : decode cX11_rowsOf 155 = .ok (.iinc 3 1, 3) := by decide +kernel
theorem dX11_rowsOf_158 : decode cX11_rowsOf 158 = .ok (.goto (-85), 3) := by decide +kernel
theorem dX11_rowsOf_161 : decode cX11_rowsOf 161 = .ok (.return_, 1) := by decide +kernel
set_option maxRecDepth 20000 in
theorem ggX11_isList_X11_in : GoodIn wsX11_isList wsX11_in := goodIn_r _ [5] (by decide +kernel) (by decide +kernel)
set_option maxRecDepth 20000 in
theorem gX11_isList_X11_in : GoodIn wsX11_isList (va_wsS RX11 86 yX11_in wsX11_in) := goodIn_app (goodIn_of _ (by decide +kernel)) ggX11_isList_X11_in
theorem dX11_isList_0 : decode cX11_isList 0 = .ok (.iload_n 0, 1) := by decide +kernel
theorem dX11_isList_1 : decode cX11_isList 1 = .ok (.i2l, 1) := by decide +kernel
theorem dX11_isList_2 : decode cX11_isList 2 = .ok (.lconst 1, 1) := by decide +kernel
theorem dX11_isList_3 : decode cX11_isList 3 = .ok (.ldc2_w 163, 3) := by decide +kernel
theorem dX11_isList_6 : decode cX11_isList 6 = .ok (.invokestatic 86, 3) := by decide +kernel
theorem dX11_isList_9 : decode cX11_isList 9 = .ok (.ifCond .eq 17, 3) := by decide +kernel
theorem dX11_isList_12 : decode cX11_isList 12 = .ok (.iload_n 1, 1) := by decide +kernel
theorem dX11_isList_13 : decode cX11_isList 13 = .ok (.i2l, 1) := by decide +kernel
theorem dX11_isList_14 : decode cX11_isList 14 = .ok (.lconst 0, 1) := by decide +kernel
theorem dX11_isList_15 : decode cX11_isList 15 = .ok (.lconst 1, 1) := by decide +kernel
theorem dX11_isList_16 : decode cX11_isList 16 = .ok (.invokestatic 86, 3) := by decide +kernel
theorem dX11_isList_19 : decode cX11_isList 19 = .ok (.ifCond .eq 7, 3) := by decide +kernel
theorem dX11_isList_22 : decode cX11_isList 22 = .ok (.iconst 1, 1) := by decide +kernel
theorem dX11_isList_23 : decode cX11_isList 23 = .ok (.goto 4, 3) := by decide +kernel
theorem dX11_isList_26 : decode cX11_isList 26 = .ok (.iconst 0, 1) := by decide +kernel
theorem dX11_isList_27 : decode cX11_isList 27 = .ok (.ireturn, 1) := by decide +kernel
set_option maxRecDepth 20000 in
theorem ggX11_listed_X11_isList : GoodIn wsX11_listed wsX11_isList := goodIn_r _ [6, 7, 8, 9, 5, 10] (by decide +kernel) (by decide +kernel)
set_option maxRecDepth 20000 in
theorem gX11_listed_X11_isList : GoodIn wsX11_listed (va_wsS RX11 237 yX11_isList wsX11_isList) := goodIn_app (goodIn_of _ (by decide +kernel)) ggX11_listed_X11_isList
set_option maxRecDepth 20000 in
theorem ggX11_listed_X11_lists : GoodIn wsX11_listed wsX11_lists := goodIn_r _ [14, 15, 16, 17, 18, 19, 2, 20, 21, 22, 5, 23, 24, 25, 26, 27, 28, 29, 30, 31, 32, 33, 34, 35, 36, 37, 38, 39, 40, 41, 42, 43, 44, 45, 46, 47, 48, 49, 50, 51, 52, 53, 54, 55, 56, 57, 58, 59, 60, 61, 62, 63, 64, 65, 66, 67, 68, 69, 70, 71, 72, 73, 74, 75, 76, 77, 78, 79, 80, 81, 82, 83] (by decide +kernel) (by decide +kernel)
set_option maxRecDepth 20000 in
theorem gX11_listed_X11_lists : GoodIn wsX11_listed (wsV RX11 240 RX11 yX11_lists wsX11_lists) := goodIn_app (goodIn_of _ (by decide +kernel)) ggX11_listed_X11_lists
theorem dX11_listed_0 : decode cX11_listed 0 = .ok (.aload_n 0, 1) := by decide +kernel
theorem dX11_listed_1 : decode cX11_listed 1 = .ok (.iconst 0, 1) := by decide +kernel
theorem dX11_listed_2 : decode cX11_listed 2 = .ok (.putfield 83, 3) := by decide +kernel
theorem dX11_listed_5 : decode cX11_listed 5 = .ok (.iload_n 1, 1) := by decide +kernel
theorem dX11_listed_6 : decode cX11_listed 6 = .ok (.iload_n 2, 1) := by decide +kernel
theorem dX11_listed_7 : decode cX11_listed 7 = .ok (.invokestatic 237, 3) := by decide +kernel
theorem dX11_listed_10 : decode cX11_listed 10 = .ok (.ifCond .ne 5, 3) := by decide +kernel
theorem dX11_listed_13 : decode cX11_listed 13 = .ok (.iconst (-1), 1) := by decide +kernel
theorem dX11_listed_14 : decode cX11_listed 14 = .ok (.ireturn, 1) := by decide +kernel
theorem dX11_listed_15 : decode cX11_listed 15 = .ok (.aload_n 0, 1) := by decide +kernel
theorem dX11_listed_16 : decode cX11_listed 16 = .ok (.iload_n 1, 1) := by decide +kernel
theorem dX11_listed_17 : decode cX11_listed 17 = .ok (.iload_n 2, 1) := by decide +kernel
theorem dX11_listed_18 : decode cX11_listed 18 = .ok (.invokevirtual 240, 3) := by decide +kernel
theorem dX11_listed_21 : decode cX11_listed 21 = .ok (.aload_n 0, 1) := by decide +kernel
theorem dX11_listed_22 : decode cX11_listed 22 = .ok (.getfield 230, 3) := by decide +kernel
theorem dX11_listed_25 : decode cX11_listed 25 = .ok (.ireturn, 1) := by decide +kernel
set_option maxRecDepth 20000 in
theorem ggX11_pick_X11_isList : GoodIn wsX11_pick wsX11_isList := goodIn_r _ [8, 9, 10, 11, 7, 12] (by decide +kernel) (by decide +kernel)
set_option maxRecDepth 20000 in
theorem gX11_pick_X11_isList : GoodIn wsX11_pick (va_wsS RX11 237 yX11_isList wsX11_isList) := goodIn_app (goodIn_of _ (by decide +kernel)) ggX11_pick_X11_isList
set_option maxRecDepth 20000 in
theorem ggX11_pick_X11_lists : GoodIn wsX11_pick wsX11_lists := goodIn_r _ [16, 17, 18, 19, 20, 3, 2, 21, 22, 23, 7, 24, 4, 25, 26, 27, 28, 29, 30, 31, 32, 33, 34, 35, 36, 37, 38, 39, 40, 41, 42, 43, 44, 45, 46, 47, 48, 49, 50, 51, 52, 53, 54, 64, 65, 66, 67, 68, 69, 70, 71, 72, 73, 74, 75, 76, 77, 78, 79, 80, 81, 82, 83, 84, 85, 86, 87, 88, 89, 90, 91, 92] (by decide +kernel) (by decide +kernel)
set_option maxRecDepth 20000 in
theorem gX11_pick_X11_lists : GoodIn wsX11_pick (wsV RX11 240 RX11 yX11_lists wsX11_lists) := goodIn_app (goodIn_of _ (by decide +kernel)) ggX11_pick_X11_lists
set_option maxRecDepth 20000 in
theorem ggX11_pick_X11_in : GoodIn wsX11_pick wsX11_in := goodIn_r _ [12] (by decide +kernel) (by decide +kernel)
set_option maxRecDepth 20000 in
theorem gX11_pick_X11_in : GoodIn wsX11_pick (va_wsS RX11 86 yX11_in wsX11_in) := goodIn_app (goodIn_of _ (by decide +kernel)) ggX11_pick_X11_in
set_option maxRecDepth 20000 in
theorem ggX11_pick_X11_sized : GoodIn wsX11_pick wsX11_sized := goodIn_r _ [58, 19, 59, 60, 61, 7, 62, 63, 64, 65, 66, 67, 68, 69, 70, 71, 72, 73, 74, 75, 76, 77, 78, 79, 80, 81, 82, 83, 84, 85, 86, 87, 88, 89, 90, 91, 92] (by decide +kernel) (by decide +kernel)
set_option maxRecDepth 20000 in
theorem gX11_pick_X11_sized : GoodIn wsX11_pick (wsV RX11 110 RX11 yX11_sized wsX11_sized) := goodIn_app (goodIn_of _ (by decide +kernel)) ggX11_pick_X11_sized
theorem dX11_pick_0 : decode cX11_pick 0 = .ok (.aload_n 0, 1) := by decide +kernel
theorem dX11_pick_1 : decode cX11_pick 1 = .ok (.iconst 0, 1) := by decide +kernel
theorem dX11_pick_2 : decode cX11_pick 2 = .ok (.putfield 83, 3) := by decide +kernel
theorem dX11_pick_5 : decode cX11_pick 5 = .ok (.iload_n 1, 1) := by decide +kernel
theorem dX11_pick_6 : decode cX11_pick 6 = .ok (.iload_n 2, 1) := by decide +kernel
theorem dX11_pick_7 : decode cX11_pick 7 = .ok (.invokestatic 237, 3) := by decide +kernel
theorem dX11_pick_10 : decode cX11_pick 10 = .ok (.ifCond .ne 5, 3) := by decide +kernel
theorem dX11_pick_13 : decode cX11_pick 13 = .ok (.iconst 0, 1) := by decide +kernel
theorem dX11_pick_14 : decode cX11_pick 14 = .ok (.ireturn, 1) := by decide +kernel
theorem dX11_pick_15 : decode cX11_pick 15 = .ok (.aload_n 0, 1) := by decide +kernel
theorem dX11_pick_16 : decode cX11_pick 16 = .ok (.iload_n 1, 1) := by decide +kernel
theorem dX11_pick_17 : decode cX11_pick 17 = .ok (.iload_n 2, 1) := by decide +kernel
theorem dX11_pick_18 : decode cX11_pick 18 = .ok (.invokevirtual 240, 3) := by decide +kernel
theorem dX11_pick_21 : decode cX11_pick 21 = .ok (.iload_n 3, 1) := by decide +kernel
theorem dX11_pick_22 : decode cX11_pick 22 = .ok (.i2l, 1) := by decide +kernel
theorem dX11_pick_23 : decode cX11_pick 23 = .ok (.lconst 0, 1) := by decide +kernel
theorem dX11_pick_24 : decode cX11_pick 24 = .ok (.aload_n 0, 1) := by decide +kernel
theorem dX11_pick_25 : decode cX11_pick 25 = .ok (.getfield 230, 3) := by decide +kernel
theorem dX11_pick_28 : decode cX11_pick 28 = .ok (.iconst 1, 1) := by decide +kernel
theorem dX11_pick_29 : decode cX11_pick 29 = .ok (.isub, 1) := by decide +kernel
theorem dX11_pick_30 : decode cX11_pick 30 = .ok (.i2l, 1) := by decide +kernel
theorem dX11_pick_31 : decode cX11_pick 31 = .ok (.invokestatic 86, 3) := by decide +kernel
theorem dX11_pick_34 : decode cX11_pick 34 = .ok (.ifCond .ne 5, 3) := by decide +kernel
theorem dX11_pick_37 : decode cX11_pick 37 = .ok (.iconst 0, 1) := by decide +kernel
theorem dX11_pick_38 : decode cX11_pick 38 = .ok (.ireturn, 1) := by decide +kernel
theorem dX11_pick_39 : decode cX11_pick 39 = .ok (.aload_n 0, 1) := by decide +kernel
theorem dX11_pick_40 : decode cX11_pick 40 = .ok (.iload_n 1, 1) := by decide +kernel
theorem dX11_pick_41 : decode cX11_pick 41 = .ok (.invokevirtual 110, 3) := by decide +kernel
theorem dX11_pick_44 : decode cX11_pick 44 = .ok (.iconst 0, 1) := by decide +kernel
theorem dX11_pick_45 : decode cX11_pick 45 = .ok (.istore 4, 2) := by decide +kernel
theorem dX11_pick_47 : decode cX11_pick 47 = .ok (.iload 4, 2) := by decide +kernel
theorem dX11_pick_49 : decode cX11_pick 49 = .ok (.bipush 64, 2) := by decide +kernel
theorem dX11_pick_51 : decode cX11_pick 51 = .ok (.if_icmp .ge 28, 3) := by decide +kernel
theorem dX11_pick_54 : decode cX11_pick 54 = .ok (.aload_n 0, 1) := by decide +kernel
theorem dX11_pick_55 : decode cX11_pick 55 = .ok (.getfield 13, 3) := by decide +kernel
theorem dX11_pick_58 : decode cX11_pick 58 = .ok (.iload 4, 2) := by decide +kernel
theorem dX11_pick_60 : decode cX11_pick 60 = .ok (.aload_n 0, 1) := by decide +kernel
theorem dX11_pick_61 : decode cX11_pick 61 = .ok (.getfield 80, 3) := by decide +kernel
theorem dX11_pick_64 : decode cX11_pick 64 = .ok (.bipush 64, 2) := by decide +kernel
theorem dX11_pick_66 : decode cX11_pick 66 = .ok (.iload_n 3, 1) := by decide +kernel
theorem dX11_pick_67 : decode cX11_pick 67 = .ok (.imul, 1) := by decide +kernel
theorem dX11_pick_68 : decode cX11_pick 68 = .ok (.iload 4, 2) := by decide +kernel
theorem dX11_pick_70 : decode cX11_pick 70 = .ok (.iadd, 1) := by decide +kernel
theorem dX11_pick_71 : decode cX11_pick 71 = .ok (.iaload, 1) := by decide +kernel
theorem dX11_pick_72 : decode cX11_pick 72 = .ok (.iastore, 1) := by decide +kernel
theorem dX11_pick_73 : decode cX11_pick 73 = .ok (.iinc 4 1, 3) := by decide +kernel
theorem dX11_pick_76 : decode cX11_pick 76 = .ok (.goto (-29), 3) := by decide +kernel
theorem dX11_pick_79 : decode cX11_pick 79 = .ok (.iconst 1, 1) := by decide +kernel
theorem dX11_pick_80 : decode cX11_pick 80 = .ok (.ireturn, 1) := by decide +kernel
set_option maxRecDepth 20000 in
theorem ggX11_row_X11_in : GoodIn wsX11_row wsX11_in := goodIn_r _ [7] (by decide +kernel) (by decide +kernel)
set_option maxRecDepth 20000 in
theorem gX11_row_X11_in : GoodIn wsX11_row (va_wsS RX11 86 yX11_in wsX11_in) := goodIn_app (goodIn_of _ (by decide +kernel)) ggX11_row_X11_in
set_option maxRecDepth 20000 in
theorem ggX11_row_X11_refuse : GoodIn wsX11_row wsX11_refuse := goodIn_r _ [11, 1, 12, 13, 14, 15, 16, 17, 18, 19, 20, 21, 22, 23, 24, 25, 26, 27, 28, 29, 30, 31, 32, 33, 34, 35, 36, 37, 38, 39, 40] (by decide +kernel) (by decide +kernel)
set_option maxRecDepth 20000 in
theorem gX11_row_X11_refuse : GoodIn wsX11_row (wsV RX11 103 RX11 yX11_refuse wsX11_refuse) := goodIn_app (goodIn_of _ (by decide +kernel)) ggX11_row_X11_refuse
theorem dX11_row_0 : decode cX11_row 0 = .ok (.aload_n 0, 1) := by decide +kernel
theorem dX11_row_1 : decode cX11_row 1 = .ok (.iconst 0, 1) := by decide +kernel
theorem dX11_row_2 : decode cX11_row 2 = .ok (.putfield 83, 3) := by decide +kernel
theorem dX11_row_5 : decode cX11_row 5 = .ok (.iload_n 1, 1) := by decide +kernel
theorem dX11_row_6 : decode cX11_row 6 = .ok (.i2l, 1) := by decide +kernel
theorem dX11_row_7 : decode cX11_row 7 = .ok (.lconst 0, 1) := by decide +kernel
theorem dX11_row_8 : decode cX11_row 8 = .ok (.aload_n 0, 1) := by decide +kernel
theorem dX11_row_9 : decode cX11_row 9 = .ok (.getfield 144, 3) := by decide +kernel
theorem dX11_row_12 : decode cX11_row 12 = .ok (.iconst 1, 1) := by decide +kernel
theorem dX11_row_13 : decode cX11_row 13 = .ok (.isub, 1) := by decide +kernel
theorem dX11_row_14 : decode cX11_row 14 = .ok (.i2l, 1) := by decide +kernel
theorem dX11_row_15 : decode cX11_row 15 = .ok (.invokestatic 86, 3) := by decide +kernel
theorem dX11_row_18 : decode cX11_row 18 = .ok (.ifCond .eq 12, 3) := by decide +kernel
theorem dX11_row_21 : decode cX11_row 21 = .ok (.aload_n 0, 1) := by decide +kernel
theorem dX11_row_22 : decode cX11_row 22 = .ok (.getfield 41, 3) := by decide +kernel
theorem dX11_row_25 : decode cX11_row 25 = .ok (.iload_n 1, 1) := by decide +kernel
theorem dX11_row_26 : decode cX11_row 26 = .ok (.iaload, 1) := by decide +kernel
theorem dX11_row_27 : decode cX11_row 27 = .ok (.goto 7, 3) := by decide +kernel
theorem dX11_row_30 : decode cX11_row 30 = .ok (.aload_n 0, 1) := by decide +kernel
theorem dX11_row_31 : decode cX11_row 31 = .ok (.invokevirtual 103, 3) := by decide +kernel
theorem dX11_row_34 : decode cX11_row 34 = .ok (.ireturn, 1) := by decide +kernel
theorem dJ9_floorMod_7cf53_0 : decode cJ9_floorMod_7cf53 0 = .ok (.iload_n 0, 1) := by decide +kernel
theorem dJ9_floorMod_7cf53_1 : decode cJ9_floorMod_7cf53 1 = .ok (.iload_n 1, 1) := by decide +kernel
theorem dJ9_floorMod_7cf53_2 : decode cJ9_floorMod_7cf53 2 = .ok (.irem, 1) := by decide +kernel
theorem dJ9_floorMod_7cf53_3 : decode cJ9_floorMod_7cf53 3 = .ok (.istore_n 2, 1) := by decide +kernel
theorem dJ9_floorMod_7cf53_4 : decode cJ9_floorMod_7cf53 4 = .ok (.iload_n 0, 1) := by decide +kernel
theorem dJ9_floorMod_7cf53_5 : decode cJ9_floorMod_7cf53 5 = .ok (.iload_n 1, 1) := by decide +kernel
theorem dJ9_floorMod_7cf53_6 : decode cJ9_floorMod_7cf53 6 = .ok (.ixor, 1) := by decide +kernel
theorem dJ9_floorMod_7cf53_7 : decode cJ9_floorMod_7cf53 7 = .ok (.ifCond .ge 11, 3) := by decide +kernel
theorem dJ9_floorMod_7cf53_10 : decode cJ9_floorMod_7cf53 10 = .ok (.iload_n 2, 1) := by decide +kernel
theorem dJ9_floorMod_7cf53_11 : decode cJ9_floorMod_7cf53 11 = .ok (.ifCond .eq 7, 3) := by decide +kernel
theorem dJ9_floorMod_7cf53_14 : decode cJ9_floorMod_7cf53 14 = .ok (.iload_n 2, 1) := by decide +kernel
theorem dJ9_floorMod_7cf53_15 : decode cJ9_floorMod_7cf53 15 = .ok (.iload_n 1, 1) := by decide +kernel
theorem dJ9_floorMod_7cf53_16 : decode cJ9_floorMod_7cf53 16 = .ok (.iadd, 1) := by decide +kernel
theorem dJ9_floorMod_7cf53_17 : decode cJ9_floorMod_7cf53 17 = .ok (.ireturn, 1) := by decide +kernel
theorem dJ9_floorMod_7cf53_18 : decode cJ9_floorMod_7cf53 18 = .ok (.iload_n 2, 1) := by decide +kernel
theorem dJ9_floorMod_7cf53_19 : decode cJ9_floorMod_7cf53 19 = .ok (.ireturn, 1) := by decide +kernel
theorem dJ9_abs_0f7a4_0 : decode cJ9_abs_0f7a4 0 = .ok (.iload_n 0, 1) := by decide +kernel
theorem dJ9_abs_0f7a4_1 : decode cJ9_abs_0f7a4 1 = .ok (.ifCond .ge 8, 3) := by decide +kernel
theorem dJ9_abs_0f7a4_4 : decode cJ9_abs_0f7a4 4 = .ok (.iload_n 0, 1) := by decide +kernel
theorem dJ9_abs_0f7a4_5 : decode cJ9_abs_0f7a4 5 = .ok (.ineg, 1) := by decide +kernel
theorem dJ9_abs_0f7a4_6 : decode cJ9_abs_0f7a4 6 = .ok (.goto 4, 3) := by decide +kernel
theorem dJ9_abs_0f7a4_9 : decode cJ9_abs_0f7a4 9 = .ok (.iload_n 0, 1) := by decide +kernel
theorem dJ9_abs_0f7a4_10 : decode cJ9_abs_0f7a4 10 = .ok (.ireturn, 1) := by decide +kernel
theorem dJ9_max_7cf53_0 : decode cJ9_max_7cf53 0 = .ok (.iload_n 0, 1) := by decide +kernel
theorem dJ9_max_7cf53_1 : decode cJ9_max_7cf53 1 = .ok (.iload_n 1, 1) := by decide +kernel
theorem dJ9_max_7cf53_2 : decode cJ9_max_7cf53 2 = .ok (.if_icmp .lt 7, 3) := by decide +kernel
theorem dJ9_max_7cf53_5 : decode cJ9_max_7cf53 5 = .ok (.iload_n 0, 1) := by decide +kernel
theorem dJ9_max_7cf53_6 : decode cJ9_max_7cf53 6 = .ok (.goto 4, 3) := by decide +kernel
theorem dJ9_max_7cf53_9 : decode cJ9_max_7cf53 9 = .ok (.iload_n 1, 1) := by decide +kernel
theorem dJ9_max_7cf53_10 : decode cJ9_max_7cf53 10 = .ok (.ireturn, 1) := by decide +kernel
theorem dJ9_min_7cf53_0 : decode cJ9_min_7cf53 0 = .ok (.iload_n 0, 1) := by decide +kernel
theorem dJ9_min_7cf53_1 : decode cJ9_min_7cf53 1 = .ok (.iload_n 1, 1) := by decide +kernel
theorem dJ9_min_7cf53_2 : decode cJ9_min_7cf53 2 = .ok (.if_icmp .gt 7, 3) := by decide +kernel
theorem dJ9_min_7cf53_5 : decode cJ9_min_7cf53 5 = .ok (.iload_n 0, 1) := by decide +kernel
theorem dJ9_min_7cf53_6 : decode cJ9_min_7cf53 6 = .ok (.goto 4, 3) := by decide +kernel
theorem dJ9_min_7cf53_9 : decode cJ9_min_7cf53 9 = .ok (.iload_n 1, 1) := by decide +kernel
theorem dJ9_min_7cf53_10 : decode cJ9_min_7cf53 10 = .ok (.ireturn, 1) := by decide +kernel
theorem dJ7_fill_53178_0 : decode cJ7_fill_53178 0 = .ok (.iconst 0, 1) := by decide +kernel
theorem dJ7_fill_53178_1 : decode cJ7_fill_53178 1 = .ok (.istore_n 2, 1) := by decide +kernel
theorem dJ7_fill_53178_2 : decode cJ7_fill_53178 2 = .ok (.aload_n 0, 1) := by decide +kernel
theorem dJ7_fill_53178_3 : decode cJ7_fill_53178 3 = .ok (.arraylength, 1) := by decide +kernel
theorem dJ7_fill_53178_4 : decode cJ7_fill_53178 4 = .ok (.istore_n 3, 1) := by decide +kernel
theorem dJ7_fill_53178_5 : decode cJ7_fill_53178 5 = .ok (.iload_n 2, 1) := by decide +kernel
theorem dJ7_fill_53178_6 : decode cJ7_fill_53178 6 = .ok (.iload_n 3, 1) := by decide +kernel
theorem dJ7_fill_53178_7 : decode cJ7_fill_53178 7 = .ok (.if_icmp .ge 13, 3) := by decide +kernel
theorem dJ7_fill_53178_10 : decode cJ7_fill_53178 10 = .ok (.aload_n 0, 1) := by decide +kernel
theorem dJ7_fill_53178_11 : decode cJ7_fill_53178 11 = .ok (.iload_n 2, 1) := by decide +kernel
theorem dJ7_fill_53178_12 : decode cJ7_fill_53178 12 = .ok (.iload_n 1, 1) := by decide +kernel
theorem dJ7_fill_53178_13 : decode cJ7_fill_53178 13 = .ok (.iastore, 1) := by decide +kernel
theorem dJ7_fill_53178_14 : decode cJ7_fill_53178 14 = .ok (.iinc 2 1, 3) := by decide +kernel
theorem dJ7_fill_53178_17 : decode cJ7_fill_53178 17 = .ok (.goto (-12), 3) := by decide +kernel
theorem dJ7_fill_53178_20 : decode cJ7_fill_53178 20 = .ok (.return_, 1) := by decide +kernel
