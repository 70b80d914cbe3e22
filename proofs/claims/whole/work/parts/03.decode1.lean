theorem dX0_init_0 : decode cX0_init 0 = .ok (.aload_n 0, 1) := by decide +kernel
theorem dX0_init_1 : decode cX0_init 1 = .ok (.invokespecial 3, 3) := by decide +kernel
theorem dX0_init_4 : decode cX0_init 4 = .ok (.aload_n 0, 1) := by decide +kernel
theorem dX0_init_5 : decode cX0_init 5 = .ok (.bipush 24, 2) := by decide +kernel
theorem dX0_init_7 : decode cX0_init 7 = .ok (.newarray .int, 2) := by decide +kernel
theorem dX0_init_9 : decode cX0_init 9 = .ok (.putfield 9, 3) := by decide +kernel
theorem dX0_init_12 : decode cX0_init 12 = .ok (.aload_n 0, 1) := by decide +kernel
theorem dX0_init_13 : decode cX0_init 13 = .ok (.iconst 4, 1) := by decide +kernel
theorem dX0_init_14 : decode cX0_init 14 = .ok (.newarray .int, 2) := by decide +kernel
theorem dX0_init_16 : decode cX0_init 16 = .ok (.putfield 15, 3) := by decide +kernel
theorem dX0_init_19 : decode cX0_init 19 = .ok (.aload_n 0, 1) := by decide +kernel
theorem dX0_init_20 : decode cX0_init 20 = .ok (.iconst 4, 1) := by decide +kernel
theorem dX0_init_21 : decode cX0_init 21 = .ok (.newarray .int, 2) := by decide +kernel
theorem dX0_init_23 : decode cX0_init 23 = .ok (.putfield 18, 3) := by decide +kernel
theorem dX0_init_26 : decode cX0_init 26 = .ok (.aload_n 0, 1) := by decide +kernel
theorem dX0_init_27 : decode cX0_init 27 = .ok (.bipush 7, 2) := by decide +kernel
theorem dX0_init_29 : decode cX0_init 29 = .ok (.newarray .int, 2) := by decide +kernel
theorem dX0_init_31 : decode cX0_init 31 = .ok (.putfield 21, 3) := by decide +kernel
theorem dX0_init_34 : decode cX0_init 34 = .ok (.aload_n 0, 1) := by decide +kernel
theorem dX0_init_35 : decode cX0_init 35 = .ok (.iconst 2, 1) := by decide +kernel
theorem dX0_init_36 : decode cX0_init 36 = .ok (.putfield 24, 3) := by decide +kernel
theorem dX0_init_39 : decode cX0_init 39 = .ok (.aload_n 0, 1) := by decide +kernel
theorem dX0_init_40 : decode cX0_init 40 = .ok (.iconst 0, 1) := by decide +kernel
theorem dX0_init_41 : decode cX0_init 41 = .ok (.putfield 28, 3) := by decide +kernel
theorem dX0_init_44 : decode cX0_init 44 = .ok (.return_, 1) := by decide +kernel
theorem dX0_add_0 : decode cX0_add 0 = .ok (.aload_n 0, 1) := by decide +kernel
theorem dX0_add_1 : decode cX0_add 1 = .ok (.getfield 28, 3) := by decide +kernel
theorem dX0_add_4 : decode cX0_add 4 = .ok (.bipush 24, 2) := by decide +kernel
theorem dX0_add_6 : decode cX0_add 6 = .ok (.if_icmp .ge 23, 3) := by decide +kernel
theorem dX0_add_9 : decode cX0_add 9 = .ok (.aload_n 0, 1) := by decide +kernel
theorem dX0_add_10 : decode cX0_add 10 = .ok (.getfield 9, 3) := by decide +kernel
theorem dX0_add_13 : decode cX0_add 13 = .ok (.aload_n 0, 1) := by decide +kernel
theorem dX0_add_14 : decode cX0_add 14 = .ok (.getfield 28, 3) := by decide +kernel
theorem dX0_add_17 : decode cX0_add 17 = .ok (.iload_n 1, 1) := by decide +kernel
theorem dX0_add_18 : decode cX0_add 18 = .ok (.iastore, 1) := by decide +kernel
theorem dX0_add_19 : decode cX0_add 19 = .ok (.aload_n 0, 1) := by decide +kernel
theorem dX0_add_20 : decode cX0_add 20 = .ok (.dup, 1) := by decide +kernel
theorem dX0_add_21 : decode cX0_add 21 = .ok (.getfield 28, 3) := by decide +kernel
theorem dX0_add_24 : decode cX0_add 24 = .ok (.iconst 1, 1) := by decide +kernel
theorem dX0_add_25 : decode cX0_add 25 = .ok (.iadd, 1) := by decide +kernel
theorem dX0_add_26 : decode cX0_add 26 = .ok (.putfield 28, 3) := by decide +kernel
theorem dX0_add_29 : decode cX0_add 29 = .ok (.return_, 1) := by decide +kernel
theorem dX0_tallied_0 : decode cX0_tallied 0 = .ok (.aload_n 0, 1) := by decide +kernel
theorem dX0_tallied_1 : decode cX0_tallied 1 = .ok (.getfield 21, 3) := by decide +kernel
theorem dX0_tallied_4 : decode cX0_tallied 4 = .ok (.iload_n 1, 1) := by decide +kernel
theorem dX0_tallied_5 : decode cX0_tallied 5 = .ok (.iaload, 1) := by decide +kernel
theorem dX0_tallied_6 : decode cX0_tallied 6 = .ok (.ireturn, 1) := by decide +kernel
set_option maxRecDepth 20000 in
theorem ggX0_tally_J7_fill_53178 : GoodIn wsX0_tally wsJ7_fill_53178 := goodIn_r _ [8] (by decide +kernel) (by decide +kernel)
set_option maxRecDepth 20000 in
theorem gX0_tally_J7_fill_53178 : GoodIn wsX0_tally (va_wsS RX0 31 yJ7_fill_53178 wsJ7_fill_53178) := goodIn_app (goodIn_of _ (by decide +kernel)) ggX0_tally_J7_fill_53178
set_option maxRecDepth 20000 in
theorem ggX0_tally_X0_spread : GoodIn wsX0_tally wsX0_spread := goodIn_r _ [13, 2, 14, 15, 44, 45, 46, 47, 48, 49] (by decide +kernel) (by decide +kernel)
set_option maxRecDepth 20000 in
theorem gX0_tally_X0_spread : GoodIn wsX0_tally (wsV RX0 42 RX0 yX0_spread wsX0_spread) := goodIn_app (goodIn_of _ (by decide +kernel)) ggX0_tally_X0_spread
set_option maxRecDepth 20000 in
theorem ggX0_tally_X0_cross : GoodIn wsX0_tally wsX0_cross := goodIn_r _ [19, 15, 20, 21, 22, 23, 24, 25, 26, 27, 28, 29, 30, 31, 44, 45, 46, 47, 48, 49, 50, 51, 52, 53] (by decide +kernel) (by decide +kernel)
set_option maxRecDepth 20000 in
theorem gX0_tally_X0_cross : GoodIn wsX0_tally (wsV RX0 46 RX0 yX0_cross wsX0_cross) := goodIn_app (goodIn_of _ (by decide +kernel)) ggX0_tally_X0_cross
set_option maxRecDepth 20000 in
theorem ggX0_tally_X0_uncross : GoodIn wsX0_tally wsX0_uncross := goodIn_r _ [35, 15, 20, 21, 22, 23, 24, 25, 26, 27, 28, 29, 30, 31, 44, 45, 46, 47, 48, 49, 50, 51, 52, 53] (by decide +kernel) (by decide +kernel)
set_option maxRecDepth 20000 in
theorem gX0_tally_X0_uncross : GoodIn wsX0_tally (wsV RX0 50 RX0 yX0_uncross wsX0_uncross) := goodIn_app (goodIn_of _ (by decide +kernel)) ggX0_tally_X0_uncross
set_option maxRecDepth 20000 in
theorem ggX0_tally_X0_isAsAhead : GoodIn wsX0_tally wsX0_isAsAhead := goodIn_r _ [39, 2, 15, 14, 44, 45, 46, 47, 48, 49] (by decide +kernel) (by decide +kernel)
set_option maxRecDepth 20000 in
theorem gX0_tally_X0_isAsAhead : GoodIn wsX0_tally (wsV RX0 53 RX0 yX0_isAsAhead wsX0_isAsAhead) := goodIn_app (goodIn_of _ (by decide +kernel)) ggX0_tally_X0_isAsAhead
set_option maxRecDepth 20000 in
theorem ggX0_tally_J9_floorMod_7cf53 : GoodIn wsX0_tally wsJ9_floorMod_7cf53 := goodIn_r _ [43] (by decide +kernel) (by decide +kernel)
set_option maxRecDepth 20000 in
theorem gX0_tally_J9_floorMod_7cf53 : GoodIn wsX0_tally (va_wsS RX0 62 yJ9_floorMod_7cf53 wsJ9_floorMod_7cf53) := goodIn_app (goodIn_of _ (by decide +kernel)) ggX0_tally_J9_floorMod_7cf53
theorem dX0_tally_0 : decode cX0_tally 0 = .ok (.aload_n 0, 1) := by decide +kernel
theorem dX0_tally_1 : decode cX0_tally 1 = .ok (.getfield 21, 3) := by decide +kernel
theorem dX0_tally_4 : decode cX0_tally 4 = .ok (.iconst 0, 1) := by decide +kernel
theorem dX0_tally_5 : decode cX0_tally 5 = .ok (.invokestatic 31, 3) := by decide +kernel
theorem dX0_tally_8 : decode cX0_tally 8 = .ok (.iconst 1, 1) := by decide +kernel
theorem dX0_tally_9 : decode cX0_tally 9 = .ok (.istore 4, 2) := by decide +kernel
theorem dX0_tally_11 : decode cX0_tally 11 = .ok (.iconst 0, 1) := by decide +kernel
theorem dX0_tally_12 : decode cX0_tally 12 = .ok (.istore 5, 2) := by decide +kernel
theorem dX0_tally_14 : decode cX0_tally 14 = .ok (.iload 5, 2) := by decide +kernel
theorem dX0_tally_16 : decode cX0_tally 16 = .ok (.aload_n 0, 1) := by decide +kernel
theorem dX0_tally_17 : decode cX0_tally 17 = .ok (.getfield 24, 3) := by decide +kernel
theorem dX0_tally_20 : decode cX0_tally 20 = .ok (.if_icmp .ge 18, 3) := by decide +kernel
theorem dX0_tally_23 : decode cX0_tally 23 = .ok (.iload 4, 2) := by decide +kernel
theorem dX0_tally_25 : decode cX0_tally 25 = .ok (.aload_n 1, 1) := by decide +kernel
theorem dX0_tally_26 : decode cX0_tally 26 = .ok (.getfield 37, 3) := by decide +kernel
theorem dX0_tally_29 : decode cX0_tally 29 = .ok (.imul, 1) := by decide +kernel
theorem dX0_tally_30 : decode cX0_tally 30 = .ok (.istore 4, 2) := by decide +kernel
theorem dX0_tally_32 : decode cX0_tally 32 = .ok (.iinc 5 1, 3) := by decide +kernel
theorem dX0_tally_35 : decode cX0_tally 35 = .ok (.goto (-21), 3) := by decide +kernel
theorem dX0_tally_38 : decode cX0_tally 38 = .ok (.iconst 0, 1) := by decide +kernel
theorem dX0_tally_39 : decode cX0_tally 39 = .ok (.istore 5, 2) := by decide +kernel
theorem dX0_tally_41 : decode cX0_tally 41 = .ok (.iload 5, 2) := by decide +kernel
theorem dX0_tally_43 : decode cX0_tally 43 = .ok (.iload 4, 2) := by decide +kernel
theorem dX0_tally_45 : decode cX0_tally 45 = .ok (.if_icmp .ge 110, 3) := by decide +kernel
theorem dX0_tally_48 : decode cX0_tally 48 = .ok (.aload_n 0, 1) := by decide +kernel
theorem dX0_tally_49 : decode cX0_tally 49 = .ok (.iload 5, 2) := by decide +kernel
theorem dX0_tally_51 : decode cX0_tally 51 = .ok (.aload_n 1, 1) := by decide +kernel
theorem dX0_tally_52 : decode cX0_tally 52 = .ok (.getfield 37, 3) := by decide +kernel
theorem dX0_tally_55 : decode cX0_tally 55 = .ok (.invokevirtual 42, 3) := by decide +kernel
theorem dX0_tally_58 : decode cX0_tally 58 = .ok (.iconst 0, 1) := by decide +kernel
theorem dX0_tally_59 : decode cX0_tally 59 = .ok (.istore 6, 2) := by decide +kernel
theorem dX0_tally_61 : decode cX0_tally 61 = .ok (.iconst 0, 1) := by decide +kernel
theorem dX0_tally_62 : decode cX0_tally 62 = .ok (.istore 7, 2) := by decide +kernel
theorem dX0_tally_64 : decode cX0_tally 64 = .ok (.iload 7, 2) := by decide +kernel
theorem dX0_tally_66 : decode cX0_tally 66 = .ok (.aload_n 0, 1) := by decide +kernel
theorem dX0_tally_67 : decode cX0_tally 67 = .ok (.getfield 28, 3) := by decide +kernel
theorem dX0_tally_70 : decode cX0_tally 70 = .ok (.if_icmp .ge 54, 3) := by decide +kernel
theorem dX0_tally_73 : decode cX0_tally 73 = .ok (.iload 6, 2) := by decide +kernel
theorem dX0_tally_75 : decode cX0_tally 75 = .ok (.aload_n 0, 1) := by decide +kernel
theorem dX0_tally_76 : decode cX0_tally 76 = .ok (.getfield 9, 3) := by decide +kernel
theorem dX0_tally_79 : decode cX0_tally 79 = .ok (.iload 7, 2) := by decide +kernel
theorem dX0_tally_81 : decode cX0_tally 81 = .ok (.iaload, 1) := by decide +kernel
theorem dX0_tally_82 : decode cX0_tally 82 = .ok (.ifCond .le 19, 3) := by decide +kernel
theorem dX0_tally_85 : decode cX0_tally 85 = .ok (.aload_n 0, 1) := by decide +kernel
theorem dX0_tally_86 : decode cX0_tally 86 = .ok (.aload_n 0, 1) := by decide +kernel
theorem dX0_tally_87 : decode cX0_tally 87 = .ok (.getfield 9, 3) := by decide +kernel
theorem dX0_tally_90 : decode cX0_tally 90 = .ok (.iload 7, 2) := by decide +kernel
theorem dX0_tally_92 : decode cX0_tally 92 = .ok (.iaload, 1) := by decide +kernel
theorem dX0_tally_93 : decode cX0_tally 93 = .ok (.aload_n 1, 1) := by decide +kernel
theorem dX0_tally_94 : decode cX0_tally 94 = .ok (.aload_n 3, 1) := by decide +kernel
theorem dX0_tally_95 : decode cX0_tally 95 = .ok (.invokevirtual 46, 3) := by decide +kernel
theorem dX0_tally_98 : decode cX0_tally 98 = .ok (.goto 17, 3) := by decide +kernel
theorem dX0_tally_101 : decode cX0_tally 101 = .ok (.aload_n 0, 1) := by decide +kernel
theorem dX0_tally_102 : decode cX0_tally 102 = .ok (.aload_n 0, 1) := by decide +kernel
theorem dX0_tally_103 : decode cX0_tally 103 = .ok (.getfield 9, 3) := by decide +kernel
theorem dX0_tally_106 : decode cX0_tally 106 = .ok (.iload 7, 2) := by decide +kernel
theorem dX0_tally_108 : decode cX0_tally 108 = .ok (.iaload, 1) := by decide +kernel
theorem dX0_tally_109 : decode cX0_tally 109 = .ok (.ineg, 1) := by decide +kernel
theorem dX0_tally_110 : decode cX0_tally 110 = .ok (.aload_n 2, 1) := by decide +kernel
theorem dX0_tally_111 : decode cX0_tally 111 = .ok (.aload_n 3, 1) := by decide +kernel
theorem dX0_tally_112 : decode cX0_tally 112 = .ok (.invokevirtual 50, 3) := by decide +kernel
theorem dX0_tally_115 : decode cX0_tally 115 = .ok (.iadd, 1) := by decide +kernel
theorem dX0_tally_116 : decode cX0_tally 116 = .ok (.istore 6, 2) := by decide +kernel
theorem dX0_tally_118 : decode cX0_tally 118 = .ok (.iinc 7 1, 3) := by decide +kernel
theorem dX0_tally_121 : decode cX0_tally 121 = .ok (.goto (-57), 3) := by decide +kernel
theorem dX0_tally_124 : decode cX0_tally 124 = .ok (.aload_n 0, 1) := by decide +kernel
theorem dX0_tally_125 : decode cX0_tally 125 = .ok (.invokevirtual 53, 3) := by decide +kernel
theorem dX0_tally_128 : decode cX0_tally 128 = .ok (.ifCond .eq 21, 3) := by decide +kernel
theorem dX0_tally_131 : decode cX0_tally 131 = .ok (.aload_n 0, 1) := by decide +kernel
theorem dX0_tally_132 : decode cX0_tally 132 = .ok (.getfield 21, 3) := by decide +kernel
theorem dX0_tally_135 : decode cX0_tally 135 = .ok (.iload 6, 2) := by decide +kernel
theorem dX0_tally_137 : decode cX0_tally 137 = .ok (.aload_n 3, 1) := by decide +kernel
theorem dX0_tally_138 : decode cX0_tally 138 = .ok (.getfield 57, 3) := by decide +kernel
theorem dX0_tally_141 : decode cX0_tally 141 = .ok (.invokestatic 62, 3) := by decide +kernel
theorem dX0_tally_144 : decode cX0_tally 144 = .ok (.dup2, 1) := by decide +kernel
theorem dX0_tally_145 : decode cX0_tally 145 = .ok (.iaload, 1) := by decide +kernel
theorem dX0_tally_146 : decode cX0_tally 146 = .ok (.iconst 1, 1) := by decide +kernel
theorem dX0_tally_147 : decode cX0_tally 147 = .ok (.iadd, 1) := by decide +kernel
theorem dX0_tally_148 : decode cX0_tally 148 = .ok (.iastore, 1) := by decide +kernel
theorem dX0_tally_149 : decode cX0_tally 149 = .ok (.iinc 5 1, 3) := by decide +kernel
theorem dX0_tally_152 : decode cX0_tally 152 = .ok (.goto (-111), 3) := by decide +kernel
theorem dX0_tally_155 : decode cX0_tally 155 = .ok (.return_, 1) := by decide +kernel
theorem dX0_spread_0 : decode cX0_spread 0 = .ok (.iload_n 1, 1) := by decide +kernel
theorem dX0_spread_1 : decode cX0_spread 1 = .ok (.istore_n 3, 1) := by decide +kernel
theorem dX0_spread_2 : decode cX0_spread 2 = .ok (.iconst 0, 1) := by decide +kernel
theorem dX0_spread_3 : decode cX0_spread 3 = .ok (.istore 4, 2) := by decide +kernel
theorem dX0_spread_5 : decode cX0_spread 5 = .ok (.iload 4, 2) := by decide +kernel
theorem dX0_spread_7 : decode cX0_spread 7 = .ok (.aload_n 0, 1) := by decide +kernel
theorem dX0_spread_8 : decode cX0_spread 8 = .ok (.getfield 24, 3) := by decide +kernel
theorem dX0_spread_11 : decode cX0_spread 11 = .ok (.if_icmp .ge 37, 3) := by decide +kernel
theorem dX0_spread_14 : decode cX0_spread 14 = .ok (.aload_n 0, 1) := by decide +kernel
theorem dX0_spread_15 : decode cX0_spread 15 = .ok (.getfield 15, 3) := by decide +kernel
theorem dX0_spread_18 : decode cX0_spread 18 = .ok (.iload 4, 2) := by decide +kernel
theorem dX0_spread_20 : decode cX0_spread 20 = .ok (.iload_n 3, 1) := by decide +kernel
theorem dX0_spread_21 : decode cX0_spread 21 = .ok (.iload_n 2, 1) := by decide +kernel
theorem dX0_spread_22 : decode cX0_spread 22 = .ok (.irem, 1) := by decide +kernel
theorem dX0_spread_23 : decode cX0_spread 23 = .ok (.iastore, 1) := by decide +kernel
theorem dX0_spread_24 : decode cX0_spread 24 = .ok (.aload_n 0, 1) := by decide +kernel
theorem dX0_spread_25 : decode cX0_spread 25 = .ok (.getfield 18, 3) := by decide +kernel
theorem dX0_spread_28 : decode cX0_spread 28 = .ok (.iload 4, 2) := by decide +kernel
theorem dX0_spread_30 : decode cX0_spread 30 = .ok (.aload_n 0, 1) := by decide +kernel
theorem dX0_spread_31 : decode cX0_spread 31 = .ok (.getfield 15, 3) := by decide +kernel
theorem dX0_spread_34 : decode cX0_spread 34 = .ok (.iload 4, 2) := by decide +kernel
theorem dX0_spread_36 : decode cX0_spread 36 = .ok (.iaload, 1) := by decide +kernel
theorem dX0_spread_37 : decode cX0_spread 37 = .ok (.iastore, 1) := by decide +kernel
theorem dX0_spread_38 : decode cX0_spread 38 = .ok (.iload_n 3, 1) := by decide +kernel
theorem dX0_spread_39 : decode cX0_spread 39 = .ok (.iload_n 2, 1) := by decide +kernel
theorem dX0_spread_40 : decode cX0_spread 40 = .ok (.idiv, 1) := by decide +kernel
theorem dX0_spread_41 : decode cX0_spread 41 = .ok (.istore_n 3, 1) := by decide +kernel
theorem dX0_spread_42 : decode cX0_spread 42 = .ok (.iinc 4 1, 3) := by decide +kernel
theorem dX0_spread_45 : decode cX0_spread 45 = .ok (.goto (-40), 3) := by decide +kernel
theorem dX0_spread_48 : decode cX0_spread 48 = .ok (.return_, 1) := by decide +kernel
set_option maxRecDepth 20000 in
theorem ggX0_cross_X7_turned : GoodIn wsX0_cross wsX7_turned := goodIn_r _ [6, 7, 20, 21] (by decide +kernel) (by decide +kernel)
set_option maxRecDepth 20000 in
theorem gX0_cross_X7_turned : GoodIn wsX0_cross (wsV RX0 68 RX7 yX7_turned wsX7_turned) := goodIn_app (goodIn_of _ (by decide +kernel)) ggX0_cross_X7_turned
set_option maxRecDepth 20000 in
theorem ggX0_cross_X9_value : GoodIn wsX0_cross wsX9_value := goodIn_r _ [12, 13, 22, 23] (by decide +kernel) (by decide +kernel)
set_option maxRecDepth 20000 in
theorem gX0_cross_X9_value : GoodIn wsX0_cross (wsV RX0 71 RX9 yX9_value wsX9_value) := goodIn_app (goodIn_of _ (by decide +kernel)) ggX0_cross_X9_value
theorem dX0_cross_0 : decode cX0_cross 0 = .ok (.aload_n 0, 1) := by decide +kernel
theorem dX0_cross_1 : decode cX0_cross 1 = .ok (.getfield 18, 3) := by decide +kernel
theorem dX0_cross_4 : decode cX0_cross 4 = .ok (.iload_n 1, 1) := by decide +kernel
theorem dX0_cross_5 : decode cX0_cross 5 = .ok (.iconst 1, 1) := by decide +kernel
theorem dX0_cross_6 : decode cX0_cross 6 = .ok (.isub, 1) := by decide +kernel
theorem dX0_cross_7 : decode cX0_cross 7 = .ok (.iaload, 1) := by decide +kernel
theorem dX0_cross_8 : decode cX0_cross 8 = .ok (.istore 4, 2) := by decide +kernel
theorem dX0_cross_10 : decode cX0_cross 10 = .ok (.aload_n 0, 1) := by decide +kernel
theorem dX0_cross_11 : decode cX0_cross 11 = .ok (.getfield 18, 3) := by decide +kernel
theorem dX0_cross_14 : decode cX0_cross 14 = .ok (.iload_n 1, 1) := by decide +kernel
theorem dX0_cross_15 : decode cX0_cross 15 = .ok (.iaload, 1) := by decide +kernel
theorem dX0_cross_16 : decode cX0_cross 16 = .ok (.istore 5, 2) := by decide +kernel
theorem dX0_cross_18 : decode cX0_cross 18 = .ok (.aload_n 0, 1) := by decide +kernel
theorem dX0_cross_19 : decode cX0_cross 19 = .ok (.getfield 18, 3) := by decide +kernel
theorem dX0_cross_22 : decode cX0_cross 22 = .ok (.iload_n 1, 1) := by decide +kernel
theorem dX0_cross_23 : decode cX0_cross 23 = .ok (.iconst 1, 1) := by decide +kernel
theorem dX0_cross_24 : decode cX0_cross 24 = .ok (.isub, 1) := by decide +kernel
theorem dX0_cross_25 : decode cX0_cross 25 = .ok (.aload_n 2, 1) := by decide +kernel
theorem dX0_cross_26 : decode cX0_cross 26 = .ok (.iload 4, 2) := by decide +kernel
theorem dX0_cross_28 : decode cX0_cross 28 = .ok (.iload 5, 2) := by decide +kernel
theorem dX0_cross_30 : decode cX0_cross 30 = .ok (.invokevirtual 68, 3) := by decide +kernel
theorem dX0_cross_33 : decode cX0_cross 33 = .ok (.iastore, 1) := by decide +kernel
theorem dX0_cross_34 : decode cX0_cross 34 = .ok (.aload_n 0, 1) := by decide +kernel
theorem dX0_cross_35 : decode cX0_cross 35 = .ok (.getfield 18, 3) := by decide +kernel
theorem dX0_cross_38 : decode cX0_cross 38 = .ok (.iload_n 1, 1) := by decide +kernel
theorem dX0_cross_39 : decode cX0_cross 39 = .ok (.iload 4, 2) := by decide +kernel
theorem dX0_cross_41 : decode cX0_cross 41 = .ok (.iastore, 1) := by decide +kernel
theorem dX0_cross_42 : decode cX0_cross 42 = .ok (.aload_n 3, 1) := by decide +kernel
theorem dX0_cross_43 : decode cX0_cross 43 = .ok (.iload 4, 2) := by decide +kernel
theorem dX0_cross_45 : decode cX0_cross 45 = .ok (.iload 5, 2) := by decide +kernel
theorem dX0_cross_47 : decode cX0_cross 47 = .ok (.invokevirtual 71, 3) := by decide +kernel
theorem dX0_cross_50 : decode cX0_cross 50 = .ok (.ireturn, 1) := by decide +kernel
set_option maxRecDepth 20000 in
theorem ggX0_uncross_X7_turned : GoodIn wsX0_uncross wsX7_turned := goodIn_r _ [6, 7, 20, 21] (by decide +kernel) (by decide +kernel)
set_option maxRecDepth 20000 in
theorem gX0_uncross_X7_turned : GoodIn wsX0_uncross (wsV RX0 68 RX7 yX7_turned wsX7_turned) := goodIn_app (goodIn_of _ (by decide +kernel)) ggX0_uncross_X7_turned
set_option maxRecDepth 20000 in
theorem ggX0_uncross_X9_value : GoodIn wsX0_uncross wsX9_value := goodIn_r _ [12, 13, 22, 23] (by decide +kernel) (by decide +kernel)
set_option maxRecDepth 20000 in
theorem gX0_uncross_X9_value : GoodIn wsX0_uncross (wsV RX0 71 RX9 yX9_value wsX9_value) := goodIn_app (goodIn_of _ (by decide +kernel)) ggX0_uncross_X9_value
theorem dX0_uncross_0 : decode cX0_uncross 0 = .ok (.aload_n 0, 1) := by decide +kernel
theorem dX0_uncross_1 : decode cX0_uncross 1 = .ok (.getfield 18, 3) := by decide +kernel
theorem dX0_uncross_4 : decode cX0_uncross 4 = .ok (.iload_n 1, 1) := by decide +kernel
theorem dX0_uncross_5 : decode cX0_uncross 5 = .ok (.iconst 1, 1) := by decide +kernel
theorem dX0_uncross_6 : decode cX0_uncross 6 = .ok (.isub, 1) := by decide +kernel
theorem dX0_uncross_7 : decode cX0_uncross 7 = .ok (.iaload, 1) := by decide +kernel
theorem dX0_uncross_8 : decode cX0_uncross 8 = .ok (.istore 4, 2) := by decide +kernel
theorem dX0_uncross_10 : decode cX0_uncross 10 = .ok (.aload_n 0, 1) := by decide +kernel
theorem dX0_uncross_11 : decode cX0_uncross 11 = .ok (.getfield 18, 3) := by decide +kernel
theorem dX0_uncross_14 : decode cX0_uncross 14 = .ok (.iload_n 1, 1) := by decide +kernel
theorem dX0_uncross_15 : decode cX0_uncross 15 = .ok (.iaload, 1) := by decide +kernel
theorem dX0_uncross_16 : decode cX0_uncross 16 = .ok (.istore 5, 2) := by decide +kernel
theorem dX0_uncross_18 : decode cX0_uncross 18 = .ok (.aload_n 2, 1) := by decide +kernel
theorem dX0_uncross_19 : decode cX0_uncross 19 = .ok (.iload 5, 2) := by decide +kernel
theorem dX0_uncross_21 : decode cX0_uncross 21 = .ok (.iload 4, 2) := by decide +kernel
theorem dX0_uncross_23 : decode cX0_uncross 23 = .ok (.invokevirtual 68, 3) := by decide +kernel
theorem dX0_uncross_26 : decode cX0_uncross 26 = .ok (.istore 6, 2) := by decide +kernel
theorem dX0_uncross_28 : decode cX0_uncross 28 = .ok (.aload_n 0, 1) := by decide +kernel
theorem dX0_uncross_29 : decode cX0_uncross 29 = .ok (.getfield 18, 3) := by decide +kernel
theorem dX0_uncross_32 : decode cX0_uncross 32 = .ok (.iload_n 1, 1) := by decide +kernel
theorem dX0_uncross_33 : decode cX0_uncross 33 = .ok (.iconst 1, 1) := by decide +kernel
theorem dX0_uncross_34 : decode cX0_uncross 34 = .ok (.isub, 1) := by decide +kernel
theorem dX0_uncross_35 : decode cX0_uncross 35 = .ok (.iload 5, 2) := by decide +kernel
theorem dX0_uncross_37 : decode cX0_uncross 37 = .ok (.iastore, 1) := by decide +kernel
theorem dX0_uncross_38 : decode cX0_uncross 38 = .ok (.aload_n 0, 1) := by decide +kernel
theorem dX0_uncross_39 : decode cX0_uncross 39 = .ok (.getfield 18, 3) := by decide +kernel
theorem dX0_uncross_42 : decode cX0_uncross 42 = .ok (.iload_n 1, 1) := by decide +kernel
theorem dX0_uncross_43 : decode cX0_uncross 43 = .ok (.iload 6, 2) := by decide +kernel
theorem dX0_uncross_45 : decode cX0_uncross 45 = .ok (.iastore, 1) := by decide +kernel
theorem dX0_uncross_46 : decode cX0_uncross 46 = .ok (.aload_n 3, 1) := by decide +kernel
theorem dX0_uncross_47 : decode cX0_uncross 47 = .ok (.iload 5, 2) := by decide +kernel
theorem dX0_uncross_49 : decode cX0_uncross 49 = .ok (.iload 6, 2) := by decide +kernel
theorem dX0_uncross_51 : decode cX0_uncross 51 = .ok (.invokevirtual 71, 3) := by decide +kernel
theorem dX0_uncross_54 : decode cX0_uncross 54 = .ok (.ineg, 1) := by decide +kernel
theorem dX0_uncross_55 : decode cX0_uncross 55 = .ok (.ireturn, 1) := by decide +kernel
theorem dX0_isAsAhead_0 : decode cX0_isAsAhead 0 = .ok (.iconst 0, 1) := by decide +kernel
theorem dX0_isAsAhead_1 : decode cX0_isAsAhead 1 = .ok (.istore_n 1, 1) := by decide +kernel
theorem dX0_isAsAhead_2 : decode cX0_isAsAhead 2 = .ok (.iload_n 1, 1) := by decide +kernel
theorem dX0_isAsAhead_3 : decode cX0_isAsAhead 3 = .ok (.aload_n 0, 1) := by decide +kernel
theorem dX0_isAsAhead_4 : decode cX0_isAsAhead 4 = .ok (.getfield 24, 3) := by decide +kernel
theorem dX0_isAsAhead_7 : decode cX0_isAsAhead 7 = .ok (.if_icmp .ge 26, 3) := by decide +kernel
theorem dX0_isAsAhead_10 : decode cX0_isAsAhead 10 = .ok (.aload_n 0, 1) := by decide +kernel
theorem dX0_isAsAhead_11 : decode cX0_isAsAhead 11 = .ok (.getfield 18, 3) := by decide +kernel
theorem dX0_isAsAhead_14 : decode cX0_isAsAhead 14 = .ok (.iload_n 1, 1) := by decide +kernel
theorem dX0_isAsAhead_15 : decode cX0_isAsAhead 15 = .ok (.iaload, 1) := by decide +kernel
theorem dX0_isAsAhead_16 : decode cX0_isAsAhead 16 = .ok (.aload_n 0, 1) := by decide +kernel
theorem dX0_isAsAhead_17 : decode cX0_isAsAhead 17 = .ok (.getfield 15, 3) := by decide +kernel
theorem dX0_isAsAhead_20 : decode cX0_isAsAhead 20 = .ok (.iload_n 1, 1) := by decide +kernel
theorem dX0_isAsAhead_21 : decode cX0_isAsAhead 21 = .ok (.iaload, 1) := by decide +kernel
theorem dX0_isAsAhead_22 : decode cX0_isAsAhead 22 = .ok (.if_icmp .eq 5, 3) := by decide +kernel
theorem dX0_isAsAhead_25 : decode cX0_isAsAhead 25 = .ok (.iconst 0, 1) := by decide +kernel
theorem dX0_isAsAhead_26 : decode cX0_isAsAhead 26 = .ok (.ireturn, 1) := by decide +kernel
theorem dX0_isAsAhead_27 : decode cX0_isAsAhead 27 = .ok (.iinc 1 1, 3) := by decide +kernel
theorem dX0_isAsAhead_30 : decode cX0_isAsAhead 30 = .ok (.goto (-28), 3) := by decide +kernel
theorem dX0_isAsAhead_33 : decode cX0_isAsAhead 33 = .ok (.iconst 1, 1) := by decide +kernel
theorem dX0_isAsAhead_34 : decode cX0_isAsAhead 34 = .ok (.ireturn, 1) := by decide +kernel
theorem dX1_init_0 : decode cX1_init 0 = .ok (.aload_n 0, 1) := by decide +kernel
theorem dX1_init_1 : decode cX1_init 1 = .ok (.invokespecial 3, 3) := by decide +kernel
theorem dX1_init_4 : decode cX1_init 4 = .ok (.aload_n 0, 1) := by decide +kernel
theorem dX1_init_5 : decode cX1_init 5 = .ok (.bipush 8, 2) := by decide +kernel
theorem dX1_init_7 : decode cX1_init 7 = .ok (.newarray .int, 2) := by decide +kernel
theorem dX1_init_9 : decode cX1_init 9 = .ok (.putfield 9, 3) := by decide +kernel
theorem dX1_init_12 : decode cX1_init 12 = .ok (.aload_n 0, 1) := by decide +kernel
theorem dX1_init_13 : decode cX1_init 13 = .ok (.bipush 8, 2) := by decide +kernel
theorem dX1_init_15 : decode cX1_init 15 = .ok (.newarray .int, 2) := by decide +kernel
theorem dX1_init_17 : decode cX1_init 17 = .ok (.putfield 15, 3) := by decide +kernel
theorem dX1_init_20 : decode cX1_init 20 = .ok (.aload_n 0, 1) := by decide +kernel
theorem dX1_init_21 : decode cX1_init 21 = .ok (.iconst 1, 1) := by decide +kernel
theorem dX1_init_22 : decode cX1_init 22 = .ok (.putfield 18, 3) := by decide +kernel
theorem dX1_init_25 : decode cX1_init 25 = .ok (.return_, 1) := by decide +kernel
theorem dX1_split_0 : decode cX1_split 0 = .ok (.aload_n 0, 1) := by decide +kernel
theorem dX1_split_1 : decode cX1_split 1 = .ok (.iload_n 1, 1) := by decide +kernel
theorem dX1_split_2 : decode cX1_split 2 = .ok (.putfield 18, 3) := by decide +kernel
theorem dX1_split_5 : decode cX1_split 5 = .ok (.iconst 0, 1) := by decide +kernel
theorem dX1_split_6 : decode cX1_split 6 = .ok (.istore_n 2, 1) := by decide +kernel
theorem dX1_split_7 : decode cX1_split 7 = .ok (.iload_n 2, 1) := by decide +kernel
theorem dX1_split_8 : decode cX1_split 8 = .ok (.aload_n 0, 1) := by decide +kernel
theorem dX1_split_9 : decode cX1_split 9 = .ok (.getfield 18, 3) := by decide +kernel
theorem dX1_split_12 : decode cX1_split 12 = .ok (.if_icmp .ge 16, 3) := by decide +kernel
theorem dX1_split_15 : decode cX1_split 15 = .ok (.aload_n 0, 1) := by decide +kernel
theorem dX1_split_16 : decode cX1_split 16 = .ok (.getfield 9, 3) := by decide +kernel
theorem dX1_split_19 : decode cX1_split 19 = .ok (.iload_n 2, 1) := by decide +kernel
theorem dX1_split_20 : decode cX1_split 20 = .ok (.iload_n 2, 1) := by decide +kernel
theorem dX1_split_21 : decode cX1_split 21 = .ok (.iastore, 1) := by decide +kernel
theorem dX1_split_22 : decode cX1_split 22 = .ok (.iinc 2 1, 3) := by decide +kernel
theorem dX1_split_25 : decode cX1_split 25 = .ok (.goto (-18), 3) := by decide +kernel
theorem dX1_split_28 : decode cX1_split 28 = .ok (.return_, 1) := by decide +kernel
theorem dX1_areOne_0 : decode cX1_areOne 0 = .ok (.aload_n 0, 1) := by decide +kernel
theorem dX1_areOne_1 : decode cX1_areOne 1 = .ok (.getfield 9, 3) := by decide +kernel
theorem dX1_areOne_4 : decode cX1_areOne 4 = .ok (.iload_n 1, 1) := by decide +kernel
theorem dX1_areOne_5 : decode cX1_areOne 5 = .ok (.iaload, 1) := by decide +kernel
theorem dX1_areOne_6 : decode cX1_areOne 6 = .ok (.aload_n 0, 1) := by decide +kernel
theorem dX1_areOne_7 : decode cX1_areOne 7 = .ok (.getfield 9, 3) := by decide +kernel
theorem dX1_areOne_10 : decode cX1_areOne 10 = .ok (.iload_n 2, 1) := by decide +kernel
theorem dX1_areOne_11 : decode cX1_areOne 11 = .ok (.iaload, 1) := by decide +kernel
theorem dX1_areOne_12 : decode cX1_areOne 12 = .ok (.if_icmp .ne 7, 3) := by decide +kernel
theorem dX1_areOne_15 : decode cX1_areOne 15 = .ok (.iconst 1, 1) := by decide +kernel
theorem dX1_areOne_16 : decode cX1_areOne 16 = .ok (.goto 4, 3) := by decide +kernel
theorem dX1_areOne_19 : decode cX1_areOne 19 = .ok (.iconst 0, 1) := by decide +kernel
theorem dX1_areOne_20 : decode cX1_areOne 20 = .ok (.ireturn, 1) := by decide +kernel
theorem dX1_join_0 : decode cX1_join 0 = .ok (.aload_n 0, 1) := by decide +kernel
theorem dX1_join_1 : decode cX1_join 1 = .ok (.getfield 9, 3) := by decide +kernel
theorem dX1_join_4 : decode cX1_join 4 = .ok (.iload_n 1, 1) := by decide +kernel
theorem dX1_join_5 : decode cX1_join 5 = .ok (.iaload, 1) := by decide +kernel
theorem dX1_join_6 : decode cX1_join 6 = .ok (.aload_n 0, 1) := by decide +kernel
theorem dX1_join_7 : decode cX1_join 7 = .ok (.getfield 9, 3) := by decide +kernel
theorem dX1_join_10 : decode cX1_join 10 = .ok (.iload_n 2, 1) := by decide +kernel
theorem dX1_join_11 : decode cX1_join 11 = .ok (.iaload, 1) := by decide +kernel
theorem dX1_join_12 : decode cX1_join 12 = .ok (.invokestatic 22, 3) := by decide +kernel
theorem dX1_join_15 : decode cX1_join 15 = .ok (.istore_n 3, 1) := by decide +kernel
theorem dX1_join_16 : decode cX1_join 16 = .ok (.aload_n 0, 1) := by decide +kernel
theorem dX1_join_17 : decode cX1_join 17 = .ok (.getfield 9, 3) := by decide +kernel
theorem dX1_join_20 : decode cX1_join 20 = .ok (.iload_n 1, 1) := by decide +kernel
theorem dX1_join_21 : decode cX1_join 21 = .ok (.iaload, 1) := by decide +kernel
theorem dX1_join_22 : decode cX1_join 22 = .ok (.aload_n 0, 1) := by decide +kernel
theorem dX1_join_23 : decode cX1_join 23 = .ok (.getfield 9, 3) := by decide +kernel
theorem dX1_join_26 : decode cX1_join 26 = .ok (.iload_n 2, 1) := by decide +kernel
theorem dX1_join_27 : decode cX1_join 27 = .ok (.iaload, 1) := by decide +kernel
theorem dX1_join_28 : decode cX1_join 28 = .ok (.invokestatic 28, 3) := by decide +kernel
theorem dX1_join_31 : decode cX1_join 31 = .ok (.istore 4, 2) := by decide +kernel
theorem dX1_join_33 : decode cX1_join 33 = .ok (.iconst 0, 1) := by decide +kernel
theorem dX1_join_34 : decode cX1_join 34 = .ok (.istore 5, 2) := by decide +kernel
theorem dX1_join_36 : decode cX1_join 36 = .ok (.iload 5, 2) := by decide +kernel
theorem dX1_join_38 : decode cX1_join 38 = .ok (.aload_n 0, 1) := by decide +kernel
theorem dX1_join_39 : decode cX1_join 39 = .ok (.getfield 18, 3) := by decide +kernel
theorem dX1_join_42 : decode cX1_join 42 = .ok (.if_icmp .ge 29, 3) := by decide +kernel
theorem dX1_join_45 : decode cX1_join 45 = .ok (.aload_n 0, 1) := by decide +kernel
theorem dX1_join_46 : decode cX1_join 46 = .ok (.getfield 9, 3) := by decide +kernel
theorem dX1_join_49 : decode cX1_join 49 = .ok (.iload 5, 2) := by decide +kernel
theorem dX1_join_51 : decode cX1_join 51 = .ok (.iaload, 1) := by decide +kernel
theorem dX1_join_52 : decode cX1_join 52 = .ok (.iload 4, 2) := by decide +kernel
theorem dX1_join_54 : decode cX1_join 54 = .ok (.if_icmp .ne 11, 3) := by decide +kernel
theorem dX1_join_57 : decode cX1_join 57 = .ok (.aload_n 0, 1) := by decide +kernel
theorem dX1_join_58 : decode cX1_join 58 = .ok (.getfield 9, 3) := by decide +kernel
theorem dX1_join_61 : decode cX1_join 61 = .ok (.iload 5, 2) := by decide +kernel
theorem dX1_join_63 : decode cX1_join 63 = .ok (.iload_n 3, 1) := by decide +kernel
theorem dX1_join_64 : decode cX1_join 64 = .ok (.iastore, 1) := by decide +kernel
theorem dX1_join_65 : decode cX1_join 65 = .ok (.iinc 5 1, 3) := by decide +kernel
theorem dX1_join_68 : decode cX1_join 68 = .ok (.goto (-32), 3) := by decide +kernel
theorem dX1_join_71 : decode cX1_join 71 = .ok (.iload_n 3, 1) := by decide +kernel
theorem dX1_join_72 : decode cX1_join 72 = .ok (.iload 4, 2) := by decide +kernel
theorem dX1_join_74 : decode cX1_join 74 = .ok (.if_icmp .eq 7, 3) := by decide +kernel
theorem dX1_join_77 : decode cX1_join 77 = .ok (.iconst 1, 1) := by decide +kernel
theorem dX1_join_78 : decode cX1_join 78 = .ok (.goto 4, 3) := by decide +kernel
theorem dX1_join_81 : decode cX1_join 81 = .ok (.iconst 0, 1) := by decide +kernel
theorem dX1_join_82 : decode cX1_join 82 = .ok (.ireturn, 1) := by decide +kernel
theorem dX1_number_0 : decode cX1_number 0 = .ok (.iconst 0, 1) := by decide +kernel
theorem dX1_number_1 : decode cX1_number 1 = .ok (.istore_n 1, 1) := by decide +kernel
theorem dX1_number_2 : decode cX1_number 2 = .ok (.iconst 0, 1) := by decide +kernel
theorem dX1_number_3 : decode cX1_number 3 = .ok (.istore_n 2, 1) := by decide +kernel
theorem dX1_number_4 : decode cX1_number 4 = .ok (.iload_n 2, 1) := by decide +kernel
theorem dX1_number_5 : decode cX1_number 5 = .ok (.aload_n 0, 1) := by decide +kernel
theorem dX1_number_6 : decode cX1_number 6 = .ok (.getfield 18, 3) := by decide +kernel
theorem dX1_number_9 : decode cX1_number 9 = .ok (.if_icmp .ge 49, 3) := by decide +kernel
theorem dX1_number_12 : decode cX1_number 12 = .ok (.aload_n 0, 1) := by decide +kernel
theorem dX1_number_13 : decode cX1_number 13 = .ok (.getfield 9, 3) := by decide +kernel
theorem dX1_number_16 : decode cX1_number 16 = .ok (.iload_n 2, 1) := by decide +kernel
theorem dX1_number_17 : decode cX1_number 17 = .ok (.iaload, 1) := by decide +kernel
theorem dX1_number_18 : decode cX1_number 18 = .ok (.iload_n 2, 1) := by decide +kernel
theorem dX1_number_19 : decode cX1_number 19 = .ok (.if_icmp .ne 16, 3) := by decide +kernel
theorem dX1_number_22 : decode cX1_number 22 = .ok (.aload_n 0, 1) := by decide +kernel
theorem dX1_number_23 : decode cX1_number 23 = .ok (.getfield 15, 3) := by decide +kernel
theorem dX1_number_26 : decode cX1_number 26 = .ok (.iload_n 2, 1) := by decide +kernel
theorem dX1_number_27 : decode cX1_number 27 = .ok (.iload_n 1, 1) := by decide +kernel
theorem dX1_number_28 : decode cX1_number 28 = .ok (.iastore, 1) := by decide +kernel
theorem dX1_number_29 : decode cX1_number 29 = .ok (.iinc 1 1, 3) := by decide +kernel
theorem dX1_number_32 : decode cX1_number 32 = .ok (.goto 20, 3) := by decide +kernel
theorem dX1_number_35 : decode cX1_number 35 = .ok (.aload_n 0, 1) := by decide +kernel
theorem dX1_number_36 : decode cX1_number 36 = .ok (.getfield 15, 3) := by decide +kernel
theorem dX1_number_39 : decode cX1_number 39 = .ok (.iload_n 2, 1) := by decide +kernel
theorem dX1_number_40 : decode cX1_number 40 = .ok (.aload_n 0, 1) := by decide +kernel
theorem dX1_number_41 : decode cX1_number 41 = .ok (.getfield 15, 3) := by decide +kernel
theorem dX1_number_44 : decode cX1_number 44 = .ok (.aload_n 0, 1) := by decide +kernel
theorem dX1_number_45 : decode cX1_number 45 = .ok (.getfield 9, 3) := by decide +kernel
theorem dX1_number_48 : decode cX1_number 48 = .ok (.iload_n 2, 1) := by decide +kernel
theorem dX1_number_49 : decode cX1_number 49 = .ok (.iaload, 1) := by decide +kernel
theorem dX1_number_50 : decode cX1_number 50 = .ok (.iaload, 1) := by decide +kernel
theorem dX1_number_51 : decode cX1_number 51 = .ok (.iastore, 1) := by decide +kernel
theorem dX1_number_52 : decode cX1_number 52 = .ok (.iinc 2 1, 3) := by decide +kernel
theorem dX1_number_55 : decode cX1_number 55 = .ok (.goto (-51), 3) := by decide +kernel
theorem dX1_number_58 : decode cX1_number 58 = .ok (.iload_n 1, 1) := by decide +kernel
theorem dX1_number_59 : decode cX1_number 59 = .ok (.ireturn, 1) := by decide +kernel
theorem dX1_numberOf_0 : decode cX1_numberOf 0 = .ok (.aload_n 0, 1) := by decide +kernel
theorem dX1_numberOf_1 : decode cX1_numberOf 1 = .ok (.getfield 15, 3) := by decide +kernel
theorem dX1_numberOf_4 : decode cX1_numberOf 4 = .ok (.iload_n 1, 1) := by decide +kernel
theorem dX1_numberOf_5 : decode cX1_numberOf 5 = .ok (.iaload, 1) := by decide +kernel
theorem dX1_numberOf_6 : decode cX1_numberOf 6 = .ok (.ireturn, 1) := by decide +kernel
set_option maxRecDepth 20000 in
theorem ggX2_init_X7_init : GoodIn wsX2_init wsX7_init := goodIn_r _ [14, 15, 2, 3, 5, 16, 17, 21, 22] (by decide +kernel) (by decide +kernel)
set_option maxRecDepth 20000 in
theorem gX2_init_X7_init : GoodIn wsX2_init (wsX7_init) := ggX2_init_X7_init
theorem dX2_init_0 : decode cX2_init 0 = .ok (.aload_n 0, 1) := by decide +kernel
theorem dX2_init_1 : decode cX2_init 1 = .ok (.invokespecial 3, 3) := by decide +kernel
theorem dX2_init_4 : decode cX2_init 4 = .ok (.aload_n 0, 1) := by decide +kernel
theorem dX2_init_5 : decode cX2_init 5 = .ok (.iconst 5, 1) := by decide +kernel
theorem dX2_init_6 : decode cX2_init 6 = .ok (.bipush 19, 2) := by decide +kernel
theorem dX2_init_8 : decode cX2_init 8 = .ok (.multianewarray 11 2, 4) := by decide +kernel
theorem dX2_init_12 : decode cX2_init 12 = .ok (.putfield 13, 3) := by decide +kernel
theorem dX2_init_15 : decode cX2_init 15 = .ok (.aload_n 0, 1) := by decide +kernel
theorem dX2_init_16 : decode cX2_init 16 = .ok (.iconst 5, 1) := by decide +kernel
theorem dX2_init_17 : decode cX2_init 17 = .ok (.newarray .int, 2) := by decide +kernel
theorem dX2_init_19 : decode cX2_init 19 = .ok (.putfield 16, 3) := by decide +kernel
theorem dX2_init_22 : decode cX2_init 22 = .ok (.aload_n 0, 1) := by decide +kernel
theorem dX2_init_23 : decode cX2_init 23 = .ok (.new 20, 3) := by decide +kernel
theorem dX2_init_26 : decode cX2_init 26 = .ok (.dup, 1) := by decide +kernel
theorem dX2_init_27 : decode cX2_init 27 = .ok (.iconst 1, 1) := by decide +kernel
theorem dX2_init_28 : decode cX2_init 28 = .ok (.invokespecial 22, 3) := by decide +kernel
theorem dX2_init_31 : decode cX2_init 31 = .ok (.putfield 25, 3) := by decide +kernel
theorem dX2_init_34 : decode cX2_init 34 = .ok (.return_, 1) := by decide +kernel
set_option maxRecDepth 20000 in
theorem ggX2_sizeOf_X2_fillRow : GoodIn wsX2_sizeOf wsX2_fillRow := goodIn_r _ [8, 2, 9, 10, 11, 12, 13, 14, 15, 16, 17, 18, 19, 20, 21, 22, 23, 24, 25, 26, 27, 28, 29, 30, 31, 32, 33, 34, 35, 36, 37, 38, 39, 40, 41, 42, 43, 44, 45, 46, 47, 48, 49, 50, 51, 52, 53, 54, 55, 56, 57, 58, 59, 60, 61, 62, 63, 64, 65, 66, 67, 68, 69, 70, 71, 72, 73, 74, 75, 76, 77, 78, 79, 80, 81, 82, 83, 84, 85, 86, 87, 88, 89, 90, 91, 7, 92, 1, 3, 93, 94, 95, 96, 97, 98, 99, 100, 101, 102, 103, 104, 105, 106, 107, 108, 109, 110, 111, 112, 113, 114, 115, 4, 5, 6, 122, 123, 124, 125, 126, 127, 128, 129, 130, 131, 132] (by decide +kernel) (by decide +kernel)
set_option maxRecDepth 20000 in
theorem gX2_sizeOf_X2_fillRow : GoodIn wsX2_sizeOf (wsV RX2 33 RX2 yX2_fillRow wsX2_fillRow) := goodIn_app (goodIn_of _ (by decide +kernel)) ggX2_sizeOf_X2_fillRow
set_option maxRecDepth 20000 in
theorem ggX2_sizeOf_X2_isQuandle : GoodIn wsX2_sizeOf wsX2_isQuandle := goodIn_r _ [118, 119, 120, 7, 121] (by decide +kernel) (by decide +kernel)
set_option maxRecDepth 20000 in
theorem gX2_sizeOf_X2_isQuandle : GoodIn wsX2_sizeOf (va_wsS RX2 37 yX2_isQuandle wsX2_isQuandle) := goodIn_app (goodIn_of _ (by decide +kernel)) ggX2_sizeOf_X2_isQuandle
theorem dX2_sizeOf_0 : decode cX2_sizeOf 0 = .ok (.aload_n 0, 1) := by decide +kernel
theorem dX2_sizeOf_1 : decode cX2_sizeOf 1 = .ok (.getfield 16, 3) := by decide +kernel
theorem dX2_sizeOf_4 : decode cX2_sizeOf 4 = .ok (.iload_n 1, 1) := by decide +kernel
theorem dX2_sizeOf_5 : decode cX2_sizeOf 5 = .ok (.iaload, 1) := by decide +kernel
theorem dX2_sizeOf_6 : decode cX2_sizeOf 6 = .ok (.ifCond .ne 17, 3) := by decide +kernel
theorem dX2_sizeOf_9 : decode cX2_sizeOf 9 = .ok (.aload_n 0, 1) := by decide +kernel
theorem dX2_sizeOf_10 : decode cX2_sizeOf 10 = .ok (.getfield 25, 3) := by decide +kernel
theorem dX2_sizeOf_13 : decode cX2_sizeOf 13 = .ok (.iload_n 1, 1) := by decide +kernel
theorem dX2_sizeOf_14 : decode cX2_sizeOf 14 = .ok (.putfield 29, 3) := by decide +kernel
theorem dX2_sizeOf_17 : decode cX2_sizeOf 17 = .ok (.aload_n 0, 1) := by decide +kernel
theorem dX2_sizeOf_18 : decode cX2_sizeOf 18 = .ok (.iconst 0, 1) := by decide +kernel
theorem dX2_sizeOf_19 : decode cX2_sizeOf 19 = .ok (.aload_n 3, 1) := by decide +kernel
theorem dX2_sizeOf_20 : decode cX2_sizeOf 20 = .ok (.invokevirtual 33, 3) := by decide +kernel
theorem dX2_sizeOf_23 : decode cX2_sizeOf 23 = .ok (.iconst 0, 1) := by decide +kernel
theorem dX2_sizeOf_24 : decode cX2_sizeOf 24 = .ok (.istore 4, 2) := by decide +kernel
theorem dX2_sizeOf_26 : decode cX2_sizeOf 26 = .ok (.iconst 0, 1) := by decide +kernel
theorem dX2_sizeOf_27 : decode cX2_sizeOf 27 = .ok (.istore 5, 2) := by decide +kernel
theorem dX2_sizeOf_29 : decode cX2_sizeOf 29 = .ok (.iload 5, 2) := by decide +kernel
theorem dX2_sizeOf_31 : decode cX2_sizeOf 31 = .ok (.aload_n 0, 1) := by decide +kernel
theorem dX2_sizeOf_32 : decode cX2_sizeOf 32 = .ok (.getfield 16, 3) := by decide +kernel
theorem dX2_sizeOf_35 : decode cX2_sizeOf 35 = .ok (.iload_n 1, 1) := by decide +kernel
theorem dX2_sizeOf_36 : decode cX2_sizeOf 36 = .ok (.iaload, 1) := by decide +kernel
theorem dX2_sizeOf_37 : decode cX2_sizeOf 37 = .ok (.if_icmp .ge 32, 3) := by decide +kernel
theorem dX2_sizeOf_40 : decode cX2_sizeOf 40 = .ok (.iload_n 2, 1) := by decide +kernel
theorem dX2_sizeOf_41 : decode cX2_sizeOf 41 = .ok (.ifCond .eq 19, 3) := by decide +kernel
theorem dX2_sizeOf_44 : decode cX2_sizeOf 44 = .ok (.iload_n 1, 1) := by decide +kernel
theorem dX2_sizeOf_45 : decode cX2_sizeOf 45 = .ok (.aload_n 0, 1) := by decide +kernel
theorem dX2_sizeOf_46 : decode cX2_sizeOf 46 = .ok (.getfield 13, 3) := by decide +kernel
theorem dX2_sizeOf_49 : decode cX2_sizeOf 49 = .ok (.iload_n 1, 1) := by decide +kernel
theorem dX2_sizeOf_50 : decode cX2_sizeOf 50 = .ok (.aaload, 1) := by decide +kernel
theorem dX2_sizeOf_51 : decode cX2_sizeOf 51 = .ok (.iload 5, 2) := by decide +kernel
theorem dX2_sizeOf_53 : decode cX2_sizeOf 53 = .ok (.iaload, 1) := by decide +kernel
theorem dX2_sizeOf_54 : decode cX2_sizeOf 54 = .ok (.invokestatic 37, 3) := by decide +kernel
theorem dX2_sizeOf_57 : decode cX2_sizeOf 57 = .ok (.ifCond .eq 6, 3) := by decide +kernel
theorem dX2_sizeOf_60 : decode cX2_sizeOf 60 = .ok (.iinc 4 1, 3) := by decide +kernel
theorem dX2_sizeOf_63 : decode cX2_sizeOf 63 = .ok (.iinc 5 1, 3) := by decide +kernel
theorem dX2_sizeOf_66 : decode cX2_sizeOf 66 = .ok (.goto (-37), 3) := by decide +kernel
theorem dX2_sizeOf_69 : decode cX2_sizeOf 69 = .ok (.iload 4, 2) := by decide +kernel
theorem dX2_sizeOf_71 : decode cX2_sizeOf 71 = .ok (.ireturn, 1) := by decide +kernel
set_option maxRecDepth 20000 in
theorem ggX2_unpack_X2_isQuandle : GoodIn wsX2_unpack wsX2_isQuandle := goodIn_r _ [6, 7, 8, 5, 9] (by decide +kernel) (by decide +kernel)
set_option maxRecDepth 20000 in
theorem gX2_unpack_X2_isQuandle : GoodIn wsX2_unpack (va_wsS RX2 37 yX2_isQuandle wsX2_isQuandle) := goodIn_app (goodIn_of _ (by decide +kernel)) ggX2_unpack_X2_isQuandle
set_option maxRecDepth 20000 in
theorem ggX2_unpack_X2_unpackCells : GoodIn wsX2_unpack wsX2_unpackCells := goodIn_r _ [12, 7, 8, 5, 9, 13, 14, 15, 16, 17, 18, 22, 23] (by decide +kernel) (by decide +kernel)
set_option maxRecDepth 20000 in
theorem gX2_unpack_X2_unpackCells : GoodIn wsX2_unpack (va_wsS RX2 41 yX2_unpackCells wsX2_unpackCells) := goodIn_app (goodIn_of _ (by decide +kernel)) ggX2_unpack_X2_unpackCells
theorem dX2_unpack_0 : decode cX2_unpack 0 = .ok (.iload_n 3, 1) := by decide +kernel
theorem dX2_unpack_1 : decode cX2_unpack 1 = .ok (.istore 5, 2) := by decide +kernel
theorem dX2_unpack_3 : decode cX2_unpack 3 = .ok (.iconst 0, 1) := by decide +kernel
theorem dX2_unpack_4 : decode cX2_unpack 4 = .ok (.istore 6, 2) := by decide +kernel
theorem dX2_unpack_6 : decode cX2_unpack 6 = .ok (.iload 6, 2) := by decide +kernel
theorem dX2_unpack_8 : decode cX2_unpack 8 = .ok (.aload_n 0, 1) := by decide +kernel
theorem dX2_unpack_9 : decode cX2_unpack 9 = .ok (.getfield 16, 3) := by decide +kernel
theorem dX2_unpack_12 : decode cX2_unpack 12 = .ok (.iload_n 1, 1) := by decide +kernel
theorem dX2_unpack_13 : decode cX2_unpack 13 = .ok (.iaload, 1) := by decide +kernel
theorem dX2_unpack_14 : decode cX2_unpack 14 = .ok (.if_icmp .ge 52, 3) := by decide +kernel
theorem dX2_unpack_17 : decode cX2_unpack 17 = .ok (.iload_n 2, 1) := by decide +kernel
theorem dX2_unpack_18 : decode cX2_unpack 18 = .ok (.ifCond .eq 19, 3) := by decide +kernel
theorem dX2_unpack_21 : decode cX2_unpack 21 = .ok (.iload_n 1, 1) := by decide +kernel
theorem dX2_unpack_22 : decode cX2_unpack 22 = .ok (.aload_n 0, 1) := by decide +kernel
theorem dX2_unpack_23 : decode cX2_unpack 23 = .ok (.getfield 13, 3) := by decide +kernel
theorem dX2_unpack_26 : decode cX2_unpack 26 = .ok (.iload_n 1, 1) := by decide +kernel
theorem dX2_unpack_27 : decode cX2_unpack 27 = .ok (.aaload, 1) := by decide +kernel
theorem dX2_unpack_28 : decode cX2_unpack 28 = .ok (.iload 6, 2) := by decide +kernel
theorem dX2_unpack_30 : decode cX2_unpack 30 = .ok (.iaload, 1) := by decide +kernel
theorem dX2_unpack_31 : decode cX2_unpack 31 = .ok (.invokestatic 37, 3) := by decide +kernel
theorem dX2_unpack_34 : decode cX2_unpack 34 = .ok (.ifCond .eq 26, 3) := by decide +kernel
theorem dX2_unpack_37 : decode cX2_unpack 37 = .ok (.iload 5, 2) := by decide +kernel
theorem dX2_unpack_39 : decode cX2_unpack 39 = .ok (.ifCond .ne 18, 3) := by decide +kernel
theorem dX2_unpack_42 : decode cX2_unpack 42 = .ok (.iload_n 1, 1) := by decide +kernel
theorem dX2_unpack_43 : decode cX2_unpack 43 = .ok (.aload_n 0, 1) := by decide +kernel
theorem dX2_unpack_44 : decode cX2_unpack 44 = .ok (.getfield 13, 3) := by decide +kernel
theorem dX2_unpack_47 : decode cX2_unpack 47 = .ok (.iload_n 1, 1) := by decide +kernel
theorem dX2_unpack_48 : decode cX2_unpack 48 = .ok (.aaload, 1) := by decide +kernel
theorem dX2_unpack_49 : decode cX2_unpack 49 = .ok (.iload 6, 2) := by decide +kernel
theorem dX2_unpack_51 : decode cX2_unpack 51 = .ok (.iaload, 1) := by decide +kernel
theorem dX2_unpack_52 : decode cX2_unpack 52 = .ok (.aload 4, 2) := by decide +kernel
theorem dX2_unpack_54 : decode cX2_unpack 54 = .ok (.invokestatic 41, 3) := by decide +kernel
theorem dX2_unpack_57 : decode cX2_unpack 57 = .ok (.iinc 5 (-1), 3) := by decide +kernel
theorem dX2_unpack_60 : decode cX2_unpack 60 = .ok (.iinc 6 1, 3) := by decide +kernel
theorem dX2_unpack_63 : decode cX2_unpack 63 = .ok (.goto (-57), 3) := by decide +kernel
theorem dX2_unpack_66 : decode cX2_unpack 66 = .ok (.return_, 1) := by decide +kernel
set_option maxRecDepth 20000 in
theorem ggX2_unpackCells_X2_cell : GoodIn wsX2_unpackCells wsX2_cell := goodIn_r _ [4] (by decide +kernel) (by decide +kernel)
set_option maxRecDepth 20000 in
theorem gX2_unpackCells_X2_cell : GoodIn wsX2_unpackCells (va_wsS RX2 45 yX2_cell wsX2_cell) := goodIn_app (goodIn_of _ (by decide +kernel)) ggX2_unpackCells_X2_cell
set_option maxRecDepth 20000 in
theorem ggX2_unpackCells_X7_put : GoodIn wsX2_unpackCells wsX7_put := goodIn_r _ [9, 10, 11, 12] (by decide +kernel) (by decide +kernel)
set_option maxRecDepth 20000 in
theorem gX2_unpackCells_X7_put : GoodIn wsX2_unpackCells (wsV RX2 49 RX7 yX7_put wsX7_put) := goodIn_app (goodIn_of _ (by decide +kernel)) ggX2_unpackCells_X7_put
theorem dX2_unpackCells_0 : decode cX2_unpackCells 0 = .ok (.aload_n 2, 1) := by decide +kernel
theorem dX2_unpackCells_1 : decode cX2_unpackCells 1 = .ok (.iload_n 0, 1) := by decide +kernel
theorem dX2_unpackCells_2 : decode cX2_unpackCells 2 = .ok (.putfield 29, 3) := by decide +kernel
theorem dX2_unpackCells_5 : decode cX2_unpackCells 5 = .ok (.iconst 0, 1) := by decide +kernel
theorem dX2_unpackCells_6 : decode cX2_unpackCells 6 = .ok (.istore_n 3, 1) := by decide +kernel
theorem dX2_unpackCells_7 : decode cX2_unpackCells 7 = .ok (.iload_n 3, 1) := by decide +kernel
theorem dX2_unpackCells_8 : decode cX2_unpackCells 8 = .ok (.iload_n 0, 1) := by decide +kernel
theorem dX2_unpackCells_9 : decode cX2_unpackCells 9 = .ok (.if_icmp .ge 39, 3) := by decide +kernel
theorem dX2_unpackCells_12 : decode cX2_unpackCells 12 = .ok (.iconst 0, 1) := by decide +kernel
theorem dX2_unpackCells_13 : decode cX2_unpackCells 13 = .ok (.istore 4, 2) := by decide +kernel
theorem dX2_unpackCells_15 : decode cX2_unpackCells 15 = .ok (.iload 4, 2) := by decide +kernel
theorem dX2_unpackCells_17 : decode cX2_unpackCells 17 = .ok (.iload_n 0, 1) := by decide +kernel
theorem dX2_unpackCells_18 : decode cX2_unpackCells 18 = .ok (.if_icmp .ge 24, 3) := by decide +kernel
theorem dX2_unpackCells_21 : decode cX2_unpackCells 21 = .ok (.aload_n 2, 1) := by decide +kernel
theorem dX2_unpackCells_22 : decode cX2_unpackCells 22 = .ok (.iload_n 3, 1) := by decide +kernel
theorem dX2_unpackCells_23 : decode cX2_unpackCells 23 = .ok (.iload 4, 2) := by decide +kernel
theorem dX2_unpackCells_25 : decode cX2_unpackCells 25 = .ok (.iload_n 0, 1) := by decide +kernel
theorem dX2_unpackCells_26 : decode cX2_unpackCells 26 = .ok (.iload_n 1, 1) := by decide +kernel
theorem dX2_unpackCells_27 : decode cX2_unpackCells 27 = .ok (.iload_n 3, 1) := by decide +kernel
theorem dX2_unpackCells_28 : decode cX2_unpackCells 28 = .ok (.iload 4, 2) := by decide +kernel
theorem dX2_unpackCells_30 : decode cX2_unpackCells 30 = .ok (.invokestatic 45, 3) := by decide +kernel
theorem dX2_unpackCells_33 : decode cX2_unpackCells 33 = .ok (.invokevirtual 49, 3) := by decide +kernel
theorem dX2_unpackCells_36 : decode cX2_unpackCells 36 = .ok (.iinc 4 1, 3) := by decide +kernel
theorem dX2_unpackCells_39 : decode cX2_unpackCells 39 = .ok (.goto (-24), 3) := by decide +kernel
theorem dX2_unpackCells_42 : decode cX2_unpackCells 42 = .ok (.iinc 3 1, 3) := by decide +kernel
theorem dX2_unpackCells_45 : decode cX2_unpackCells 45 = .ok (.goto (-38), 3) := by decide +kernel
theorem dX2_unpackCells_48 : decode cX2_unpackCells 48 = .ok (.return_, 1) := by decide +kernel
theorem dX2_cell_0 : decode cX2_cell 0 = .ok (.iload_n 1, 1) := by decide +kernel
theorem dX2_cell_1 : decode cX2_cell 1 = .ok (.iconst 2, 1) := by decide +kernel
theorem dX2_cell_2 : decode cX2_cell 2 = .ok (.iload_n 2, 1) := by decide +kernel
theorem dX2_cell_3 : decode cX2_cell 3 = .ok (.iload_n 0, 1) := by decide +kernel
theorem dX2_cell_4 : decode cX2_cell 4 = .ok (.imul, 1) := by decide +kernel
theorem dX2_cell_5 : decode cX2_cell 5 = .ok (.iload_n 3, 1) := by decide +kernel
theorem dX2_cell_6 : decode cX2_cell 6 = .ok (.iadd, 1) := by decide +kernel
theorem dX2_cell_7 : decode cX2_cell 7 = .ok (.imul, 1) := by decide +kernel
theorem dX2_cell_8 : decode cX2_cell 8 = .ok (.iushr, 1) := by decide +kernel
theorem dX2_cell_9 : decode cX2_cell 9 = .ok (.iconst 3, 1) := by decide +kernel
theorem dX2_cell_10 : decode cX2_cell 10 = .ok (.iand, 1) := by decide +kernel
theorem dX2_cell_11 : decode cX2_cell 11 = .ok (.ireturn, 1) := by decide +kernel
set_option maxRecDepth 20000 in
theorem ggX2_isQuandle_X2_cell : GoodIn wsX2_isQuandle wsX2_cell := goodIn_r _ [4] (by decide +kernel) (by decide +kernel)
set_option maxRecDepth 20000 in
theorem gX2_isQuandle_X2_cell : GoodIn wsX2_isQuandle (va_wsS RX2 45 yX2_cell wsX2_cell) := goodIn_app (goodIn_of _ (by decide +kernel)) ggX2_isQuandle_X2_cell
theorem dX2_isQuandle_0 : decode cX2_isQuandle 0 = .ok (.iconst 0, 1) := by decide +kernel
theorem dX2_isQuandle_1 : decode cX2_isQuandle 1 = .ok (.istore_n 2, 1) := by decide +kernel
theorem dX2_isQuandle_2 : decode cX2_isQuandle 2 = .ok (.iload_n 2, 1) := by decide +kernel
theorem dX2_isQuandle_3 : decode cX2_isQuandle 3 = .ok (.iload_n 0, 1) := by decide +kernel
theorem dX2_isQuandle_4 : decode cX2_isQuandle 4 = .ok (.if_icmp .ge 22, 3) := by decide +kernel
theorem dX2_isQuandle_7 : decode cX2_isQuandle 7 = .ok (.iload_n 0, 1) := by decide +kernel
theorem dX2_isQuandle_8 : decode cX2_isQuandle 8 = .ok (.iload_n 1, 1) := by decide +kernel
theorem dX2_isQuandle_9 : decode cX2_isQuandle 9 = .ok (.iload_n 2, 1) := by decide +kernel
theorem dX2_isQuandle_10 : decode cX2_isQuandle 10 = .ok (.iload_n 2, 1) := by decide +kernel
theorem dX2_isQuandle_11 : decode cX2_isQuandle 11 = .ok (.invokestatic 45, 3) := by decide +kernel
theorem dX2_isQuandle_14 : decode cX2_isQuandle 14 = .ok (.iload_n 2, 1) := by decide +kernel
theorem dX2_isQuandle_15 : decode cX2_isQuandle 15 = .ok (.if_icmp .eq 5, 3) := by decide +kernel
theorem dX2_isQuandle_18 : decode cX2_isQuandle 18 = .ok (.iconst 0, 1) := by decide +kernel
theorem dX2_isQuandle_19 : decode cX2_isQuandle 19 = .ok (.ireturn, 1) := by decide +kernel
theorem dX2_isQuandle_20 : decode cX2_isQuandle 20 = .ok (.iinc 2 1, 3) := by decide +kernel
theorem dX2_isQuandle_23 : decode cX2_isQuandle 23 = .ok (.goto (-21), 3) := by decide +kernel
theorem dX2_isQuandle_26 : decode cX2_isQuandle 26 = .ok (.iconst 1, 1) := by decide +kernel
theorem dX2_isQuandle_27 : decode cX2_isQuandle 27 = .ok (.ireturn, 1) := by decide +kernel
set_option maxRecDepth 20000 in
theorem ggX2_fillRow_X4_lessen : GoodIn wsX2_fillRow wsX4_lessen := goodIn_r _ [6, 7, 8, 9, 10, 11, 12, 13, 14, 15, 16, 17, 18, 19, 20, 21, 22, 23, 24, 25, 26, 27, 5, 28, 29, 30, 31, 32, 33, 34, 35, 36, 37, 38, 39, 40, 41, 42, 43, 44, 45, 46, 47, 48, 49, 50, 51, 52, 53, 54, 55, 56, 57, 58, 59, 60, 61, 62, 63, 64, 65, 66, 67, 68, 69, 70, 71, 72, 73, 74, 75, 76, 77, 78, 79, 80, 81, 120, 121, 122, 123, 124, 125, 118, 119] (by decide +kernel) (by decide +kernel)
set_option maxRecDepth 20000 in
theorem gX2_fillRow_X4_lessen : GoodIn wsX2_fillRow (wsV RX2 53 RX4 yX4_lessen wsX4_lessen) := goodIn_app (goodIn_of _ (by decide +kernel)) ggX2_fillRow_X4_lessen
set_option maxRecDepth 20000 in
theorem ggX2_fillRow_X2_keepTrial : GoodIn wsX2_fillRow wsX2_keepTrial := goodIn_r _ [86, 1, 87, 88, 89, 37, 38, 13, 39, 16, 115, 116, 117, 118, 119] (by decide +kernel) (by decide +kernel)
set_option maxRecDepth 20000 in
theorem gX2_fillRow_X2_keepTrial : GoodIn wsX2_fillRow (wsV RX2 59 RX2 yX2_keepTrial wsX2_keepTrial) := goodIn_app (goodIn_of _ (by decide +kernel)) ggX2_fillRow_X2_keepTrial
set_option maxRecDepth 20000 in
theorem ggX2_fillRow_X5_numbered : GoodIn wsX2_fillRow wsX5_numbered := goodIn_r _ [93, 94, 95, 92, 96, 97, 98, 99] (by decide +kernel) (by decide +kernel)
set_option maxRecDepth 20000 in
theorem gX2_fillRow_X5_numbered : GoodIn wsX2_fillRow (va_wsS RX2 65 yX5_numbered wsX5_numbered) := goodIn_app (goodIn_of _ (by decide +kernel)) ggX2_fillRow_X5_numbered
set_option maxRecDepth 20000 in
theorem ggX2_fillRow_X7_putRow : GoodIn wsX2_fillRow wsX7_putRow := goodIn_r _ [103, 15, 104, 105, 92, 106, 107, 54, 55, 13, 56, 16, 118, 119] (by decide +kernel) (by decide +kernel)
set_option maxRecDepth 20000 in
theorem gX2_fillRow_X7_putRow : GoodIn wsX2_fillRow (wsV RX2 71 RX7 yX7_putRow wsX7_putRow) := goodIn_app (goodIn_of _ (by decide +kernel)) ggX2_fillRow_X7_putRow
set_option maxRecDepth 20000 in
theorem ggX2_fillRow_X2_agreesUpTo : GoodIn wsX2_fillRow wsX2_agreesUpTo := goodIn_r _ [111, 1, 89, 37, 38, 13, 39, 16, 115, 116, 117, 118, 119] (by decide +kernel) (by decide +kernel)
set_option maxRecDepth 20000 in
theorem gX2_fillRow_X2_agreesUpTo : GoodIn wsX2_fillRow (wsV RX2 75 RX2 yX2_agreesUpTo wsX2_agreesUpTo) := goodIn_app (goodIn_of _ (by decide +kernel)) ggX2_fillRow_X2_agreesUpTo
set_option maxRecDepth 20000 in
theorem ggX2_fillRow_X2_fillRow : GoodIn wsX2_fillRow wsX2_fillRow := goodIn_r _ [0, 1, 2, 3, 4, 5, 6, 7, 8, 9, 10, 11, 12, 13, 14, 15, 16, 17, 18, 19, 20, 21, 22, 23, 24, 25, 26, 27, 28, 29, 30, 31, 32, 33, 34, 35, 36, 37, 38, 39, 40, 41, 42, 43, 44, 45, 46, 47, 48, 49, 50, 51, 52, 53, 54, 55, 56, 57, 58, 59, 60, 61, 62, 63, 64, 65, 66, 67, 68, 69, 70, 71, 72, 73, 74, 75, 76, 77, 78, 79, 80, 81, 82, 83, 84, 85, 86, 87, 88, 89, 90, 91, 92, 93, 94, 95, 96, 97, 98, 99, 100, 101, 102, 103, 104, 105, 106, 107, 108, 109, 110, 111, 112, 113, 114, 115, 116, 117, 118, 119, 120, 121, 122, 123, 124, 125] (by decide +kernel) (by decide +kernel)
set_option maxRecDepth 20000 in
theorem gX2_fillRow_X2_fillRow : GoodIn wsX2_fillRow (wsV RX2 33 RX2 yX2_fillRow wsX2_fillRow) := goodIn_app (goodIn_of _ (by decide +kernel)) ggX2_fillRow_X2_fillRow
theorem dX2_fillRow_0 : decode cX2_fillRow 0 = .ok (.iload_n 1, 1) := by decide +kernel
theorem dX2_fillRow_1 : decode cX2_fillRow 1 = .ok (.aload_n 0, 1) := by decide +kernel
theorem dX2_fillRow_2 : decode cX2_fillRow 2 = .ok (.getfield 25, 3) := by decide +kernel
theorem dX2_fillRow_5 : decode cX2_fillRow 5 = .ok (.getfield 29, 3) := by decide +kernel
theorem dX2_fillRow_8 : decode cX2_fillRow 8 = .ok (.if_icmp .lt 19, 3) := by decide +kernel
theorem dX2_fillRow_11 : decode cX2_fillRow 11 = .ok (.aload_n 2, 1) := by decide +kernel
theorem dX2_fillRow_12 : decode cX2_fillRow 12 = .ok (.aload_n 0, 1) := by decide +kernel
theorem dX2_fillRow_13 : decode cX2_fillRow 13 = .ok (.getfield 25, 3) := by decide +kernel
theorem dX2_fillRow_16 : decode cX2_fillRow 16 = .ok (.invokevirtual 53, 3) := by decide +kernel
theorem dX2_fillRow_19 : decode cX2_fillRow 19 = .ok (.ifCond .ne 7, 3) := by decide +kernel
theorem dX2_fillRow_22 : decode cX2_fillRow 22 = .ok (.aload_n 0, 1) := by decide +kernel
theorem dX2_fillRow_23 : decode cX2_fillRow 23 = .ok (.invokevirtual 59, 3) := by decide +kernel
theorem dX2_fillRow_26 : decode cX2_fillRow 26 = .ok (.return_, 1) := by decide +kernel
theorem dX2_fillRow_27 : decode cX2_fillRow 27 = .ok (.iconst 0, 1) := by decide +kernel
theorem dX2_fillRow_28 : decode cX2_fillRow 28 = .ok (.istore_n 3, 1) := by decide +kernel
theorem dX2_fillRow_29 : decode cX2_fillRow 29 = .ok (.iload_n 3, 1) := by decide +kernel
theorem dX2_fillRow_30 : decode cX2_fillRow 30 = .ok (.getstatic 62, 3) := by decide +kernel
theorem dX2_fillRow_33 : decode cX2_fillRow 33 = .ok (.aload_n 0, 1) := by decide +kernel
theorem dX2_fillRow_34 : decode cX2_fillRow 34 = .ok (.getfield 25, 3) := by decide +kernel
theorem dX2_fillRow_37 : decode cX2_fillRow 37 = .ok (.getfield 29, 3) := by decide +kernel
theorem dX2_fillRow_40 : decode cX2_fillRow 40 = .ok (.iaload, 1) := by decide +kernel
theorem dX2_fillRow_41 : decode cX2_fillRow 41 = .ok (.if_icmp .ge 44, 3) := by decide +kernel
theorem dX2_fillRow_44 : decode cX2_fillRow 44 = .ok (.aload_n 0, 1) := by decide +kernel
theorem dX2_fillRow_45 : decode cX2_fillRow 45 = .ok (.getfield 25, 3) := by decide +kernel
theorem dX2_fillRow_48 : decode cX2_fillRow 48 = .ok (.iload_n 1, 1) := by decide +kernel
theorem dX2_fillRow_49 : decode cX2_fillRow 49 = .ok (.aload_n 0, 1) := by decide +kernel
theorem dX2_fillRow_50 : decode cX2_fillRow 50 = .ok (.getfield 25, 3) := by decide +kernel
theorem dX2_fillRow_53 : decode cX2_fillRow 53 = .ok (.getfield 29, 3) := by decide +kernel
theorem dX2_fillRow_56 : decode cX2_fillRow 56 = .ok (.iload_n 3, 1) := by decide +kernel
theorem dX2_fillRow_57 : decode cX2_fillRow 57 = .ok (.invokestatic 65, 3) := by decide +kernel
theorem dX2_fillRow_60 : decode cX2_fillRow 60 = .ok (.invokevirtual 71, 3) := by decide +kernel
theorem dX2_fillRow_63 : decode cX2_fillRow 63 = .ok (.aload_n 0, 1) := by decide +kernel
theorem dX2_fillRow_64 : decode cX2_fillRow 64 = .ok (.iload_n 1, 1) := by decide +kernel
theorem dX2_fillRow_65 : decode cX2_fillRow 65 = .ok (.invokevirtual 75, 3) := by decide +kernel
theorem dX2_fillRow_68 : decode cX2_fillRow 68 = .ok (.ifCond .eq 11, 3) := by decide +kernel
theorem dX2_fillRow_71 : decode cX2_fillRow 71 = .ok (.aload_n 0, 1) := by decide +kernel
theorem dX2_fillRow_72 : decode cX2_fillRow 72 = .ok (.iload_n 1, 1) := by decide +kernel
theorem dX2_fillRow_73 : decode cX2_fillRow 73 = .ok (.iconst 1, 1) := by decide +kernel
theorem dX2_fillRow_74 : decode cX2_fillRow 74 = .ok (.iadd, 1) := by decide +kernel
theorem dX2_fillRow_75 : decode cX2_fillRow 75 = .ok (.aload_n 2, 1) := by decide +kernel
theorem dX2_fillRow_76 : decode cX2_fillRow 76 = .ok (.invokevirtual 33, 3) := by decide +kernel
theorem dX2_fillRow_79 : decode cX2_fillRow 79 = .ok (.iinc 3 1, 3) := by decide +kernel
theorem dX2_fillRow_82 : decode cX2_fillRow 82 = .ok (.goto (-53), 3) := by decide +kernel
theorem dX2_fillRow_85 : decode cX2_fillRow 85 = .ok (.return_, 1) := by decide +kernel
set_option maxRecDepth 20000 in
theorem ggX2_agreesUpTo_X7_turned : GoodIn wsX2_agreesUpTo wsX7_turned := goodIn_r _ [6, 7, 11, 12] (by decide +kernel) (by decide +kernel)
set_option maxRecDepth 20000 in
theorem gX2_agreesUpTo_X7_turned : GoodIn wsX2_agreesUpTo (wsV RX2 79 RX7 yX7_turned wsX7_turned) := goodIn_app (goodIn_of _ (by decide +kernel)) ggX2_agreesUpTo_X7_turned
theorem dX2_agreesUpTo_0 : decode cX2_agreesUpTo 0 = .ok (.iconst 0, 1) := by decide +kernel
theorem dX2_agreesUpTo_1 : decode cX2_agreesUpTo 1 = .ok (.istore_n 2, 1) := by decide +kernel
theorem dX2_agreesUpTo_2 : decode cX2_agreesUpTo 2 = .ok (.iload_n 2, 1) := by decide +kernel
theorem dX2_agreesUpTo_3 : decode cX2_agreesUpTo 3 = .ok (.iload_n 1, 1) := by decide +kernel
theorem dX2_agreesUpTo_4 : decode cX2_agreesUpTo 4 = .ok (.if_icmp .gt 102, 3) := by decide +kernel
theorem dX2_agreesUpTo_7 : decode cX2_agreesUpTo 7 = .ok (.iconst 0, 1) := by decide +kernel
theorem dX2_agreesUpTo_8 : decode cX2_agreesUpTo 8 = .ok (.istore_n 3, 1) := by decide +kernel
theorem dX2_agreesUpTo_9 : decode cX2_agreesUpTo 9 = .ok (.iload_n 3, 1) := by decide +kernel
theorem dX2_agreesUpTo_10 : decode cX2_agreesUpTo 10 = .ok (.iload_n 1, 1) := by decide +kernel
theorem dX2_agreesUpTo_11 : decode cX2_agreesUpTo 11 = .ok (.if_icmp .gt 89, 3) := by decide +kernel
theorem dX2_agreesUpTo_14 : decode cX2_agreesUpTo 14 = .ok (.aload_n 0, 1) := by decide +kernel
theorem dX2_agreesUpTo_15 : decode cX2_agreesUpTo 15 = .ok (.getfield 25, 3) := by decide +kernel
theorem dX2_agreesUpTo_18 : decode cX2_agreesUpTo 18 = .ok (.iload_n 2, 1) := by decide +kernel
theorem dX2_agreesUpTo_19 : decode cX2_agreesUpTo 19 = .ok (.iload_n 3, 1) := by decide +kernel
theorem dX2_agreesUpTo_20 : decode cX2_agreesUpTo 20 = .ok (.invokevirtual 79, 3) := by decide +kernel
theorem dX2_agreesUpTo_23 : decode cX2_agreesUpTo 23 = .ok (.istore 4, 2) := by decide +kernel
theorem dX2_agreesUpTo_25 : decode cX2_agreesUpTo 25 = .ok (.iconst 0, 1) := by decide +kernel
theorem dX2_agreesUpTo_26 : decode cX2_agreesUpTo 26 = .ok (.istore 5, 2) := by decide +kernel
theorem dX2_agreesUpTo_28 : decode cX2_agreesUpTo 28 = .ok (.iload 5, 2) := by decide +kernel
theorem dX2_agreesUpTo_30 : decode cX2_agreesUpTo 30 = .ok (.aload_n 0, 1) := by decide +kernel
theorem dX2_agreesUpTo_31 : decode cX2_agreesUpTo 31 = .ok (.getfield 25, 3) := by decide +kernel
theorem dX2_agreesUpTo_34 : decode cX2_agreesUpTo 34 = .ok (.getfield 29, 3) := by decide +kernel
theorem dX2_agreesUpTo_37 : decode cX2_agreesUpTo 37 = .ok (.if_icmp .ge 57, 3) := by decide +kernel
theorem dX2_agreesUpTo_40 : decode cX2_agreesUpTo 40 = .ok (.iload 4, 2) := by decide +kernel
theorem dX2_agreesUpTo_42 : decode cX2_agreesUpTo 42 = .ok (.iload_n 1, 1) := by decide +kernel
theorem dX2_agreesUpTo_43 : decode cX2_agreesUpTo 43 = .ok (.if_icmp .gt 51, 3) := by decide +kernel
theorem dX2_agreesUpTo_46 : decode cX2_agreesUpTo 46 = .ok (.aload_n 0, 1) := by decide +kernel
theorem dX2_agreesUpTo_47 : decode cX2_agreesUpTo 47 = .ok (.getfield 25, 3) := by decide +kernel
theorem dX2_agreesUpTo_50 : decode cX2_agreesUpTo 50 = .ok (.iload_n 2, 1) := by decide +kernel
theorem dX2_agreesUpTo_51 : decode cX2_agreesUpTo 51 = .ok (.aload_n 0, 1) := by decide +kernel
theorem dX2_agreesUpTo_52 : decode cX2_agreesUpTo 52 = .ok (.getfield 25, 3) := by decide +kernel
theorem dX2_agreesUpTo_55 : decode cX2_agreesUpTo 55 = .ok (.iload_n 3, 1) := by decide +kernel
theorem dX2_agreesUpTo_56 : decode cX2_agreesUpTo 56 = .ok (.iload 5, 2) := by decide +kernel
theorem dX2_agreesUpTo_58 : decode cX2_agreesUpTo 58 = .ok (.invokevirtual 79, 3) := by decide +kernel
theorem dX2_agreesUpTo_61 : decode cX2_agreesUpTo 61 = .ok (.invokevirtual 79, 3) := by decide +kernel
theorem dX2_agreesUpTo_64 : decode cX2_agreesUpTo 64 = .ok (.aload_n 0, 1) := by decide +kernel
theorem dX2_agreesUpTo_65 : decode cX2_agreesUpTo 65 = .ok (.getfield 25, 3) := by decide +kernel
theorem dX2_agreesUpTo_68 : decode cX2_agreesUpTo 68 = .ok (.iload 4, 2) := by decide +kernel
theorem dX2_agreesUpTo_70 : decode cX2_agreesUpTo 70 = .ok (.aload_n 0, 1) := by decide +kernel
theorem dX2_agreesUpTo_71 : decode cX2_agreesUpTo 71 = .ok (.getfield 25, 3) := by decide +kernel
theorem dX2_agreesUpTo_74 : decode cX2_agreesUpTo 74 = .ok (.iload_n 2, 1) := by decide +kernel
theorem dX2_agreesUpTo_75 : decode cX2_agreesUpTo 75 = .ok (.iload 5, 2) := by decide +kernel
theorem dX2_agreesUpTo_77 : decode cX2_agreesUpTo 77 = .ok (.invokevirtual 79, 3) := by decide +kernel
theorem dX2_agreesUpTo_80 : decode cX2_agreesUpTo 80 = .ok (.invokevirtual 79, 3) := by decide +kernel
theorem dX2_agreesUpTo_83 : decode cX2_agreesUpTo 83 = .ok (.if_icmp .eq 5, 3) := by decide +kernel
theorem dX2_agreesUpTo_86 : decode cX2_agreesUpTo 86 = .ok (.iconst 0, 1) := by decide +kernel
theorem dX2_agreesUpTo_87 : decode cX2_agreesUpTo 87 = .ok (.ireturn, 1) := by decide +kernel
theorem dX2_agreesUpTo_88 : decode cX2_agreesUpTo 88 = .ok (.iinc 5 1, 3) := by decide +kernel
theorem dX2_agreesUpTo_91 : decode cX2_agreesUpTo 91 = .ok (.goto (-63), 3) := by decide +kernel
theorem dX2_agreesUpTo_94 : decode cX2_agreesUpTo 94 = .ok (.iinc 3 1, 3) := by decide +kernel
theorem dX2_agreesUpTo_97 : decode cX2_agreesUpTo 97 = .ok (.goto (-88), 3) := by decide +kernel
theorem dX2_agreesUpTo_100 : decode cX2_agreesUpTo 100 = .ok (.iinc 2 1, 3) := by decide +kernel
theorem dX2_agreesUpTo_103 : decode cX2_agreesUpTo 103 = .ok (.goto (-101), 3) := by decide +kernel
theorem dX2_agreesUpTo_106 : decode cX2_agreesUpTo 106 = .ok (.iconst 1, 1) := by decide +kernel
theorem dX2_agreesUpTo_107 : decode cX2_agreesUpTo 107 = .ok (.ireturn, 1) := by decide +kernel
set_option maxRecDepth 20000 in
theorem ggX2_keepTrial_X7_turned : GoodIn wsX2_keepTrial wsX7_turned := goodIn_r _ [8, 9, 13, 14] (by decide +kernel) (by decide +kernel)
set_option maxRecDepth 20000 in
theorem gX2_keepTrial_X7_turned : GoodIn wsX2_keepTrial (wsV RX2 79 RX7 yX7_turned wsX7_turned) := goodIn_app (goodIn_of _ (by decide +kernel)) ggX2_keepTrial_X7_turned
theorem dX2_keepTrial_0 : decode cX2_keepTrial 0 = .ok (.aload_n 0, 1) := by decide +kernel
theorem dX2_keepTrial_1 : decode cX2_keepTrial 1 = .ok (.getfield 25, 3) := by decide +kernel
theorem dX2_keepTrial_4 : decode cX2_keepTrial 4 = .ok (.getfield 29, 3) := by decide +kernel
theorem dX2_keepTrial_7 : decode cX2_keepTrial 7 = .ok (.istore_n 1, 1) := by decide +kernel
theorem dX2_keepTrial_8 : decode cX2_keepTrial 8 = .ok (.iconst 0, 1) := by decide +kernel
theorem dX2_keepTrial_9 : decode cX2_keepTrial 9 = .ok (.istore_n 2, 1) := by decide +kernel
theorem dX2_keepTrial_10 : decode cX2_keepTrial 10 = .ok (.iconst 0, 1) := by decide +kernel
theorem dX2_keepTrial_11 : decode cX2_keepTrial 11 = .ok (.istore_n 3, 1) := by decide +kernel
theorem dX2_keepTrial_12 : decode cX2_keepTrial 12 = .ok (.iload_n 3, 1) := by decide +kernel
theorem dX2_keepTrial_13 : decode cX2_keepTrial 13 = .ok (.iload_n 1, 1) := by decide +kernel
theorem dX2_keepTrial_14 : decode cX2_keepTrial 14 = .ok (.if_icmp .ge 46, 3) := by decide +kernel
theorem dX2_keepTrial_17 : decode cX2_keepTrial 17 = .ok (.iconst 0, 1) := by decide +kernel
theorem dX2_keepTrial_18 : decode cX2_keepTrial 18 = .ok (.istore 4, 2) := by decide +kernel
theorem dX2_keepTrial_20 : decode cX2_keepTrial 20 = .ok (.iload 4, 2) := by decide +kernel
theorem dX2_keepTrial_22 : decode cX2_keepTrial 22 = .ok (.iload_n 1, 1) := by decide +kernel
theorem dX2_keepTrial_23 : decode cX2_keepTrial 23 = .ok (.if_icmp .ge 31, 3) := by decide +kernel
theorem dX2_keepTrial_26 : decode cX2_keepTrial 26 = .ok (.iload_n 2, 1) := by decide +kernel
theorem dX2_keepTrial_27 : decode cX2_keepTrial 27 = .ok (.aload_n 0, 1) := by decide +kernel
theorem dX2_keepTrial_28 : decode cX2_keepTrial 28 = .ok (.getfield 25, 3) := by decide +kernel
theorem dX2_keepTrial_31 : decode cX2_keepTrial 31 = .ok (.iload_n 3, 1) := by decide +kernel
theorem dX2_keepTrial_32 : decode cX2_keepTrial 32 = .ok (.iload 4, 2) := by decide +kernel
theorem dX2_keepTrial_34 : decode cX2_keepTrial 34 = .ok (.invokevirtual 79, 3) := by decide +kernel
theorem dX2_keepTrial_37 : decode cX2_keepTrial 37 = .ok (.iconst 2, 1) := by decide +kernel
theorem dX2_keepTrial_38 : decode cX2_keepTrial 38 = .ok (.iload_n 3, 1) := by decide +kernel
theorem dX2_keepTrial_39 : decode cX2_keepTrial 39 = .ok (.iload_n 1, 1) := by decide +kernel
theorem dX2_keepTrial_40 : decode cX2_keepTrial 40 = .ok (.imul, 1) := by decide +kernel
theorem dX2_keepTrial_41 : decode cX2_keepTrial 41 = .ok (.iload 4, 2) := by decide +kernel
theorem dX2_keepTrial_43 : decode cX2_keepTrial 43 = .ok (.iadd, 1) := by decide +kernel
theorem dX2_keepTrial_44 : decode cX2_keepTrial 44 = .ok (.imul, 1) := by decide +kernel
theorem dX2_keepTrial_45 : decode cX2_keepTrial 45 = .ok (.ishl, 1) := by decide +kernel
theorem dX2_keepTrial_46 : decode cX2_keepTrial 46 = .ok (.ior, 1) := by decide +kernel
theorem dX2_keepTrial_47 : decode cX2_keepTrial 47 = .ok (.istore_n 2, 1) := by decide +kernel
theorem dX2_keepTrial_48 : decode cX2_keepTrial 48 = .ok (.iinc 4 1, 3) := by decide +kernel
theorem dX2_keepTrial_51 : decode cX2_keepTrial 51 = .ok (.goto (-31), 3) := by decide +kernel
theorem dX2_keepTrial_54 : decode cX2_keepTrial 54 = .ok (.iinc 3 1, 3) := by decide +kernel
theorem dX2_keepTrial_57 : decode cX2_keepTrial 57 = .ok (.goto (-45), 3) := by decide +kernel
theorem dX2_keepTrial_60 : decode cX2_keepTrial 60 = .ok (.aload_n 0, 1) := by decide +kernel
theorem dX2_keepTrial_61 : decode cX2_keepTrial 61 = .ok (.getfield 16, 3) := by decide +kernel
theorem dX2_keepTrial_64 : decode cX2_keepTrial 64 = .ok (.iload_n 1, 1) := by decide +kernel
theorem dX2_keepTrial_65 : decode cX2_keepTrial 65 = .ok (.iaload, 1) := by decide +kernel
theorem dX2_keepTrial_66 : decode cX2_keepTrial 66 = .ok (.bipush 19, 2) := by decide +kernel
theorem dX2_keepTrial_68 : decode cX2_keepTrial 68 = .ok (.if_icmp .ge 27, 3) := by decide +kernel
theorem dX2_keepTrial_71 : decode cX2_keepTrial 71 = .ok (.aload_n 0, 1) := by decide +kernel
theorem dX2_keepTrial_72 : decode cX2_keepTrial 72 = .ok (.getfield 13, 3) := by decide +kernel
theorem dX2_keepTrial_75 : decode cX2_keepTrial 75 = .ok (.iload_n 1, 1) := by decide +kernel
theorem dX2_keepTrial_76 : decode cX2_keepTrial 76 = .ok (.aaload, 1) := by decide +kernel
theorem dX2_keepTrial_77 : decode cX2_keepTrial 77 = .ok (.aload_n 0, 1) := by decide +kernel
theorem dX2_keepTrial_78 : decode cX2_keepTrial 78 = .ok (.getfield 16, 3) := by decide +kernel
theorem dX2_keepTrial_81 : decode cX2_keepTrial 81 = .ok (.iload_n 1, 1) := by decide +kernel
theorem dX2_keepTrial_82 : decode cX2_keepTrial 82 = .ok (.iaload, 1) := by decide +kernel
theorem dX2_keepTrial_83 : decode cX2_keepTrial 83 = .ok (.iload_n 2, 1) := by decide +kernel
theorem dX2_keepTrial_84 : decode cX2_keepTrial 84 = .ok (.iastore, 1) := by decide +kernel
theorem dX2_keepTrial_85 : decode cX2_keepTrial 85 = .ok (.aload_n 0, 1) := by decide +kernel
theorem dX2_keepTrial_86 : decode cX2_keepTrial 86 = .ok (.getfield 16, 3) := by decide +kernel
theorem dX2_keepTrial_89 : decode cX2_keepTrial 89 = .ok (.iload_n 1, 1) := by decide +kernel
theorem dX2_keepTrial_90 : decode cX2_keepTrial 90 = .ok (.dup2, 1) := by decide +kernel
theorem dX2_keepTrial_91 : decode cX2_keepTrial 91 = .ok (.iaload, 1) := by decide +kernel
theorem dX2_keepTrial_92 : decode cX2_keepTrial 92 = .ok (.iconst 1, 1) := by decide +kernel
theorem dX2_keepTrial_93 : decode cX2_keepTrial 93 = .ok (.iadd, 1) := by decide +kernel
theorem dX2_keepTrial_94 : decode cX2_keepTrial 94 = .ok (.iastore, 1) := by decide +kernel
theorem dX2_keepTrial_95 : decode cX2_keepTrial 95 = .ok (.return_, 1) := by decide +kernel
theorem dX3_init_0 : decode cX3_init 0 = .ok (.aload_n 0, 1) := by decide +kernel
theorem dX3_init_1 : decode cX3_init 1 = .ok (.invokespecial 3, 3) := by decide +kernel
theorem dX3_init_4 : decode cX3_init 4 = .ok (.aload_n 0, 1) := by decide +kernel
theorem dX3_init_5 : decode cX3_init 5 = .ok (.bipush 8, 2) := by decide +kernel
theorem dX3_init_7 : decode cX3_init 7 = .ok (.newarray .int, 2) := by decide +kernel
theorem dX3_init_9 : decode cX3_init 9 = .ok (.putfield 9, 3) := by decide +kernel
theorem dX3_init_12 : decode cX3_init 12 = .ok (.aload_n 0, 1) := by decide +kernel
theorem dX3_init_13 : decode cX3_init 13 = .ok (.bipush 8, 2) := by decide +kernel
theorem dX3_init_15 : decode cX3_init 15 = .ok (.newarray .int, 2) := by decide +kernel
theorem dX3_init_17 : decode cX3_init 17 = .ok (.putfield 15, 3) := by decide +kernel
theorem dX3_init_20 : decode cX3_init 20 = .ok (.aload_n 0, 1) := by decide +kernel
theorem dX3_init_21 : decode cX3_init 21 = .ok (.bipush 8, 2) := by decide +kernel
theorem dX3_init_23 : decode cX3_init 23 = .ok (.newarray .int, 2) := by decide +kernel
theorem dX3_init_25 : decode cX3_init 25 = .ok (.putfield 18, 3) := by decide +kernel
theorem dX3_init_28 : decode cX3_init 28 = .ok (.aload_n 0, 1) := by decide +kernel
theorem dX3_init_29 : decode cX3_init 29 = .ok (.iconst 0, 1) := by decide +kernel
theorem dX3_init_30 : decode cX3_init 30 = .ok (.putfield 21, 3) := by decide +kernel
theorem dX3_init_33 : decode cX3_init 33 = .ok (.return_, 1) := by decide +kernel
set_option maxRecDepth 20000 in
theorem ggX3_matches_X3_tellSigns : GoodIn wsX3_matches wsX3_tellSigns := goodIn_r _ [7, 8, 9, 10, 11, 12, 13, 14, 15, 16, 17, 18, 36, 37] (by decide +kernel) (by decide +kernel)
set_option maxRecDepth 20000 in
theorem gX3_matches_X3_tellSigns : GoodIn wsX3_matches (va_wsS RX3 25 yX3_tellSigns wsX3_tellSigns) := goodIn_app (goodIn_of _ (by decide +kernel)) ggX3_matches_X3_tellSigns
set_option maxRecDepth 20000 in
theorem ggX3_matches_X3_canGoOn : GoodIn wsX3_matches wsX3_canGoOn := goodIn_r _ [22, 1, 23, 24, 25, 6, 26, 2, 3, 27, 13, 14, 15, 16, 17, 18, 28, 29, 30, 31, 19, 20, 21, 36, 37, 32, 33, 34, 35] (by decide +kernel) (by decide +kernel)
set_option maxRecDepth 20000 in
theorem gX3_matches_X3_canGoOn : GoodIn wsX3_matches (wsV RX3 34 RX3 yX3_canGoOn wsX3_canGoOn) := goodIn_app (goodIn_of _ (by decide +kernel)) ggX3_matches_X3_canGoOn
theorem dX3_matches_0 : decode cX3_matches 0 = .ok (.aload_n 0, 1) := by decide +kernel
theorem dX3_matches_1 : decode cX3_matches 1 = .ok (.iconst 0, 1) := by decide +kernel
theorem dX3_matches_2 : decode cX3_matches 2 = .ok (.putfield 21, 3) := by decide +kernel
theorem dX3_matches_5 : decode cX3_matches 5 = .ok (.aload_n 1, 1) := by decide +kernel
theorem dX3_matches_6 : decode cX3_matches 6 = .ok (.aload_n 0, 1) := by decide +kernel
theorem dX3_matches_7 : decode cX3_matches 7 = .ok (.getfield 9, 3) := by decide +kernel
theorem dX3_matches_10 : decode cX3_matches 10 = .ok (.invokestatic 25, 3) := by decide +kernel
theorem dX3_matches_13 : decode cX3_matches 13 = .ok (.aload_n 2, 1) := by decide +kernel
theorem dX3_matches_14 : decode cX3_matches 14 = .ok (.aload_n 0, 1) := by decide +kernel
theorem dX3_matches_15 : decode cX3_matches 15 = .ok (.getfield 15, 3) := by decide +kernel
theorem dX3_matches_18 : decode cX3_matches 18 = .ok (.invokestatic 25, 3) := by decide +kernel
theorem dX3_matches_21 : decode cX3_matches 21 = .ok (.aload_n 1, 1) := by decide +kernel
theorem dX3_matches_22 : decode cX3_matches 22 = .ok (.getfield 29, 3) := by decide +kernel
theorem dX3_matches_25 : decode cX3_matches 25 = .ok (.aload_n 2, 1) := by decide +kernel
theorem dX3_matches_26 : decode cX3_matches 26 = .ok (.getfield 29, 3) := by decide +kernel
theorem dX3_matches_29 : decode cX3_matches 29 = .ok (.if_icmp .ne 17, 3) := by decide +kernel
theorem dX3_matches_32 : decode cX3_matches 32 = .ok (.aload_n 0, 1) := by decide +kernel
theorem dX3_matches_33 : decode cX3_matches 33 = .ok (.aload_n 1, 1) := by decide +kernel
theorem dX3_matches_34 : decode cX3_matches 34 = .ok (.aload_n 2, 1) := by decide +kernel
theorem dX3_matches_35 : decode cX3_matches 35 = .ok (.iconst 0, 1) := by decide +kernel
theorem dX3_matches_36 : decode cX3_matches 36 = .ok (.invokevirtual 34, 3) := by decide +kernel
theorem dX3_matches_39 : decode cX3_matches 39 = .ok (.ifCond .eq 7, 3) := by decide +kernel
theorem dX3_matches_42 : decode cX3_matches 42 = .ok (.iconst 1, 1) := by decide +kernel
theorem dX3_matches_43 : decode cX3_matches 43 = .ok (.goto 4, 3) := by decide +kernel
theorem dX3_matches_46 : decode cX3_matches 46 = .ok (.iconst 0, 1) := by decide +kernel
theorem dX3_matches_47 : decode cX3_matches 47 = .ok (.ireturn, 1) := by decide +kernel
set_option maxRecDepth 20000 in
theorem ggX3_countKeepers_X3_tellSigns : GoodIn wsX3_countKeepers wsX3_tellSigns := goodIn_r _ [8, 9, 10, 11, 12, 13, 14, 15, 16, 17, 18, 19, 36, 37] (by decide +kernel) (by decide +kernel)
set_option maxRecDepth 20000 in
theorem gX3_countKeepers_X3_tellSigns : GoodIn wsX3_countKeepers (va_wsS RX3 25 yX3_tellSigns wsX3_tellSigns) := goodIn_app (goodIn_of _ (by decide +kernel)) ggX3_countKeepers_X3_tellSigns
set_option maxRecDepth 20000 in
theorem ggX3_countKeepers_X3_fits : GoodIn wsX3_countKeepers wsX3_fits := goodIn_r _ [23, 2, 3, 4, 1, 14, 15, 16, 17, 18, 19, 32, 33, 34, 35, 36, 37] (by decide +kernel) (by decide +kernel)
set_option maxRecDepth 20000 in
theorem gX3_countKeepers_X3_fits : GoodIn wsX3_countKeepers (wsV RX3 38 RX3 yX3_fits wsX3_fits) := goodIn_app (goodIn_of _ (by decide +kernel)) ggX3_countKeepers_X3_fits
set_option maxRecDepth 20000 in
theorem ggX3_countKeepers_X3_canGoOnWith : GoodIn wsX3_countKeepers wsX3_canGoOnWith := goodIn_r _ [27, 4, 1, 28, 29, 30, 7, 31, 20, 21, 22, 23, 2, 3, 14, 15, 16, 17, 18, 19, 24, 25, 26, 36, 37, 32, 33, 34, 35] (by decide +kernel) (by decide +kernel)
set_option maxRecDepth 20000 in
theorem gX3_countKeepers_X3_canGoOnWith : GoodIn wsX3_countKeepers (wsV RX3 42 RX3 yX3_canGoOnWith wsX3_canGoOnWith) := goodIn_app (goodIn_of _ (by decide +kernel)) ggX3_countKeepers_X3_canGoOnWith
theorem dX3_countKeepers_0 : decode cX3_countKeepers 0 = .ok (.aload_n 0, 1) := by decide +kernel
theorem dX3_countKeepers_1 : decode cX3_countKeepers 1 = .ok (.iconst 0, 1) := by decide +kernel
theorem dX3_countKeepers_2 : decode cX3_countKeepers 2 = .ok (.putfield 21, 3) := by decide +kernel
theorem dX3_countKeepers_5 : decode cX3_countKeepers 5 = .ok (.aload_n 1, 1) := by decide +kernel
theorem dX3_countKeepers_6 : decode cX3_countKeepers 6 = .ok (.aload_n 0, 1) := by decide +kernel
theorem dX3_countKeepers_7 : decode cX3_countKeepers 7 = .ok (.getfield 9, 3) := by decide +kernel
theorem dX3_countKeepers_10 : decode cX3_countKeepers 10 = .ok (.invokestatic 25, 3) := by decide +kernel
theorem dX3_countKeepers_13 : decode cX3_countKeepers 13 = .ok (.aload_n 1, 1) := by decide +kernel
theorem dX3_countKeepers_14 : decode cX3_countKeepers 14 = .ok (.aload_n 0, 1) := by decide +kernel
theorem dX3_countKeepers_15 : decode cX3_countKeepers 15 = .ok (.getfield 15, 3) := by decide +kernel
theorem dX3_countKeepers_18 : decode cX3_countKeepers 18 = .ok (.invokestatic 25, 3) := by decide +kernel
theorem dX3_countKeepers_21 : decode cX3_countKeepers 21 = .ok (.iconst 1, 1) := by decide +kernel
theorem dX3_countKeepers_22 : decode cX3_countKeepers 22 = .ok (.istore_n 2, 1) := by decide +kernel
theorem dX3_countKeepers_23 : decode cX3_countKeepers 23 = .ok (.iconst 0, 1) := by decide +kernel
theorem dX3_countKeepers_24 : decode cX3_countKeepers 24 = .ok (.istore_n 3, 1) := by decide +kernel
theorem dX3_countKeepers_25 : decode cX3_countKeepers 25 = .ok (.iload_n 3, 1) := by decide +kernel
theorem dX3_countKeepers_26 : decode cX3_countKeepers 26 = .ok (.aload_n 1, 1) := by decide +kernel
theorem dX3_countKeepers_27 : decode cX3_countKeepers 27 = .ok (.getfield 29, 3) := by decide +kernel
theorem dX3_countKeepers_30 : decode cX3_countKeepers 30 = .ok (.if_icmp .ge 81, 3) := by decide +kernel
theorem dX3_countKeepers_33 : decode cX3_countKeepers 33 = .ok (.iconst 0, 1) := by decide +kernel
theorem dX3_countKeepers_34 : decode cX3_countKeepers 34 = .ok (.istore 4, 2) := by decide +kernel
theorem dX3_countKeepers_36 : decode cX3_countKeepers 36 = .ok (.iload_n 3, 1) := by decide +kernel
theorem dX3_countKeepers_37 : decode cX3_countKeepers 37 = .ok (.istore 5, 2) := by decide +kernel
theorem dX3_countKeepers_39 : decode cX3_countKeepers 39 = .ok (.iload 5, 2) := by decide +kernel
theorem dX3_countKeepers_41 : decode cX3_countKeepers 41 = .ok (.aload_n 1, 1) := by decide +kernel
theorem dX3_countKeepers_42 : decode cX3_countKeepers 42 = .ok (.getfield 29, 3) := by decide +kernel
theorem dX3_countKeepers_45 : decode cX3_countKeepers 45 = .ok (.if_icmp .ge 36, 3) := by decide +kernel
theorem dX3_countKeepers_48 : decode cX3_countKeepers 48 = .ok (.aload_n 0, 1) := by decide +kernel
theorem dX3_countKeepers_49 : decode cX3_countKeepers 49 = .ok (.aload_n 1, 1) := by decide +kernel
theorem dX3_countKeepers_50 : decode cX3_countKeepers 50 = .ok (.aload_n 1, 1) := by decide +kernel
theorem dX3_countKeepers_51 : decode cX3_countKeepers 51 = .ok (.iload_n 3, 1) := by decide +kernel
theorem dX3_countKeepers_52 : decode cX3_countKeepers 52 = .ok (.iload 5, 2) := by decide +kernel
theorem dX3_countKeepers_54 : decode cX3_countKeepers 54 = .ok (.invokevirtual 38, 3) := by decide +kernel
theorem dX3_countKeepers_57 : decode cX3_countKeepers 57 = .ok (.ifCond .eq 18, 3) := by decide +kernel
theorem dX3_countKeepers_60 : decode cX3_countKeepers 60 = .ok (.aload_n 0, 1) := by decide +kernel
theorem dX3_countKeepers_61 : decode cX3_countKeepers 61 = .ok (.aload_n 1, 1) := by decide +kernel
theorem dX3_countKeepers_62 : decode cX3_countKeepers 62 = .ok (.aload_n 1, 1) := by decide +kernel
theorem dX3_countKeepers_63 : decode cX3_countKeepers 63 = .ok (.iload_n 3, 1) := by decide +kernel
theorem dX3_countKeepers_64 : decode cX3_countKeepers 64 = .ok (.iload 5, 2) := by decide +kernel
theorem dX3_countKeepers_66 : decode cX3_countKeepers 66 = .ok (.invokevirtual 42, 3) := by decide +kernel
theorem dX3_countKeepers_69 : decode cX3_countKeepers 69 = .ok (.ifCond .eq 6, 3) := by decide +kernel
theorem dX3_countKeepers_72 : decode cX3_countKeepers 72 = .ok (.iinc 4 1, 3) := by decide +kernel
theorem dX3_countKeepers_75 : decode cX3_countKeepers 75 = .ok (.iinc 5 1, 3) := by decide +kernel
theorem dX3_countKeepers_78 : decode cX3_countKeepers 78 = .ok (.goto (-39), 3) := by decide +kernel
theorem dX3_countKeepers_81 : decode cX3_countKeepers 81 = .ok (.iload_n 2, 1) := by decide +kernel
theorem dX3_countKeepers_82 : decode cX3_countKeepers 82 = .ok (.iload 4, 2) := by decide +kernel
theorem dX3_countKeepers_84 : decode cX3_countKeepers 84 = .ok (.imul, 1) := by decide +kernel
theorem dX3_countKeepers_85 : decode cX3_countKeepers 85 = .ok (.istore_n 2, 1) := by decide +kernel
theorem dX3_countKeepers_86 : decode cX3_countKeepers 86 = .ok (.aload_n 0, 1) := by decide +kernel
theorem dX3_countKeepers_87 : decode cX3_countKeepers 87 = .ok (.getfield 18, 3) := by decide +kernel
theorem dX3_countKeepers_90 : decode cX3_countKeepers 90 = .ok (.iload_n 3, 1) := by decide +kernel
theorem dX3_countKeepers_91 : decode cX3_countKeepers 91 = .ok (.iload_n 3, 1) := by decide +kernel
theorem dX3_countKeepers_92 : decode cX3_countKeepers 92 = .ok (.iastore, 1) := by decide +kernel
theorem dX3_countKeepers_93 : decode cX3_countKeepers 93 = .ok (.aload_n 0, 1) := by decide +kernel
theorem dX3_countKeepers_94 : decode cX3_countKeepers 94 = .ok (.dup, 1) := by decide +kernel
theorem dX3_countKeepers_95 : decode cX3_countKeepers 95 = .ok (.getfield 21, 3) := by decide +kernel
theorem dX3_countKeepers_98 : decode cX3_countKeepers 98 = .ok (.iconst 1, 1) := by decide +kernel
theorem dX3_countKeepers_99 : decode cX3_countKeepers 99 = .ok (.iload_n 3, 1) := by decide +kernel
theorem dX3_countKeepers_100 : decode cX3_countKeepers 100 = .ok (.ishl, 1) := by decide +kernel
theorem dX3_countKeepers_101 : decode cX3_countKeepers 101 = .ok (.ior, 1) := by decide +kernel
theorem dX3_countKeepers_102 : decode cX3_countKeepers 102 = .ok (.putfield 21, 3) := by decide +kernel
theorem dX3_countKeepers_105 : decode cX3_countKeepers 105 = .ok (.iinc 3 1, 3) := by decide +kernel
theorem dX3_countKeepers_108 : decode cX3_countKeepers 108 = .ok (.goto (-83), 3) := by decide +kernel
theorem dX3_countKeepers_111 : decode cX3_countKeepers 111 = .ok (.iload_n 2, 1) := by decide +kernel
theorem dX3_countKeepers_112 : decode cX3_countKeepers 112 = .ok (.ireturn, 1) := by decide +kernel
set_option maxRecDepth 20000 in
theorem ggX3_tellSigns_J7_fill_53178 : GoodIn wsX3_tellSigns wsJ7_fill_53178 := goodIn_r _ [5] (by decide +kernel) (by decide +kernel)
set_option maxRecDepth 20000 in
theorem gX3_tellSigns_J7_fill_53178 : GoodIn wsX3_tellSigns (va_wsS RX3 45 yJ7_fill_53178 wsJ7_fill_53178) := goodIn_app (goodIn_of _ (by decide +kernel)) ggX3_tellSigns_J7_fill_53178
set_option maxRecDepth 20000 in
theorem ggX3_tellSigns_X7_turned : GoodIn wsX3_tellSigns wsX7_turned := goodIn_r _ [10, 11, 12, 13] (by decide +kernel) (by decide +kernel)
set_option maxRecDepth 20000 in
theorem gX3_tellSigns_X7_turned : GoodIn wsX3_tellSigns (wsV RX3 51 RX7 yX7_turned wsX7_turned) := goodIn_app (goodIn_of _ (by decide +kernel)) ggX3_tellSigns_X7_turned
theorem dX3_tellSigns_0 : decode cX3_tellSigns 0 = .ok (.aload_n 1, 1) := by decide +kernel
theorem dX3_tellSigns_1 : decode cX3_tellSigns 1 = .ok (.iconst 0, 1) := by decide +kernel
theorem dX3_tellSigns_2 : decode cX3_tellSigns 2 = .ok (.invokestatic 45, 3) := by decide +kernel
theorem dX3_tellSigns_5 : decode cX3_tellSigns 5 = .ok (.iconst 0, 1) := by decide +kernel
theorem dX3_tellSigns_6 : decode cX3_tellSigns 6 = .ok (.istore_n 2, 1) := by decide +kernel
theorem dX3_tellSigns_7 : decode cX3_tellSigns 7 = .ok (.iload_n 2, 1) := by decide +kernel
theorem dX3_tellSigns_8 : decode cX3_tellSigns 8 = .ok (.aload_n 0, 1) := by decide +kernel
theorem dX3_tellSigns_9 : decode cX3_tellSigns 9 = .ok (.getfield 29, 3) := by decide +kernel
theorem dX3_tellSigns_12 : decode cX3_tellSigns 12 = .ok (.if_icmp .ge 84, 3) := by decide +kernel
theorem dX3_tellSigns_15 : decode cX3_tellSigns 15 = .ok (.iconst 0, 1) := by decide +kernel
theorem dX3_tellSigns_16 : decode cX3_tellSigns 16 = .ok (.istore_n 3, 1) := by decide +kernel
theorem dX3_tellSigns_17 : decode cX3_tellSigns 17 = .ok (.iload_n 3, 1) := by decide +kernel
theorem dX3_tellSigns_18 : decode cX3_tellSigns 18 = .ok (.aload_n 0, 1) := by decide +kernel
theorem dX3_tellSigns_19 : decode cX3_tellSigns 19 = .ok (.getfield 29, 3) := by decide +kernel
theorem dX3_tellSigns_22 : decode cX3_tellSigns 22 = .ok (.if_icmp .ge 68, 3) := by decide +kernel
theorem dX3_tellSigns_25 : decode cX3_tellSigns 25 = .ok (.aload_n 0, 1) := by decide +kernel
theorem dX3_tellSigns_26 : decode cX3_tellSigns 26 = .ok (.iload_n 2, 1) := by decide +kernel
theorem dX3_tellSigns_27 : decode cX3_tellSigns 27 = .ok (.iload_n 3, 1) := by decide +kernel
theorem dX3_tellSigns_28 : decode cX3_tellSigns 28 = .ok (.invokevirtual 51, 3) := by decide +kernel
theorem dX3_tellSigns_31 : decode cX3_tellSigns 31 = .ok (.istore 4, 2) := by decide +kernel
theorem dX3_tellSigns_33 : decode cX3_tellSigns 33 = .ok (.aload_n 1, 1) := by decide +kernel
theorem dX3_tellSigns_34 : decode cX3_tellSigns 34 = .ok (.iload 4, 2) := by decide +kernel
theorem dX3_tellSigns_36 : decode cX3_tellSigns 36 = .ok (.dup2, 1) := by decide +kernel
theorem dX3_tellSigns_37 : decode cX3_tellSigns 37 = .ok (.iaload, 1) := by decide +kernel
theorem dX3_tellSigns_38 : decode cX3_tellSigns 38 = .ok (.iconst 1, 1) := by decide +kernel
theorem dX3_tellSigns_39 : decode cX3_tellSigns 39 = .ok (.iadd, 1) := by decide +kernel
theorem dX3_tellSigns_40 : decode cX3_tellSigns 40 = .ok (.iastore, 1) := by decide +kernel
theorem dX3_tellSigns_41 : decode cX3_tellSigns 41 = .ok (.iload 4, 2) := by decide +kernel
theorem dX3_tellSigns_43 : decode cX3_tellSigns 43 = .ok (.iload_n 3, 1) := by decide +kernel
theorem dX3_tellSigns_44 : decode cX3_tellSigns 44 = .ok (.if_icmp .ne 21, 3) := by decide +kernel
theorem dX3_tellSigns_47 : decode cX3_tellSigns 47 = .ok (.aload_n 1, 1) := by decide +kernel
theorem dX3_tellSigns_48 : decode cX3_tellSigns 48 = .ok (.iload_n 2, 1) := by decide +kernel
theorem dX3_tellSigns_49 : decode cX3_tellSigns 49 = .ok (.dup2, 1) := by decide +kernel
theorem dX3_tellSigns_50 : decode cX3_tellSigns 50 = .ok (.iaload, 1) := by decide +kernel
theorem dX3_tellSigns_51 : decode cX3_tellSigns 51 = .ok (.sipush 128, 3) := by decide +kernel
theorem dX3_tellSigns_54 : decode cX3_tellSigns 54 = .ok (.iadd, 1) := by decide +kernel
theorem dX3_tellSigns_55 : decode cX3_tellSigns 55 = .ok (.iastore, 1) := by decide +kernel
theorem dX3_tellSigns_56 : decode cX3_tellSigns 56 = .ok (.aload_n 1, 1) := by decide +kernel
theorem dX3_tellSigns_57 : decode cX3_tellSigns 57 = .ok (.iload_n 3, 1) := by decide +kernel
theorem dX3_tellSigns_58 : decode cX3_tellSigns 58 = .ok (.dup2, 1) := by decide +kernel
theorem dX3_tellSigns_59 : decode cX3_tellSigns 59 = .ok (.iaload, 1) := by decide +kernel
theorem dX3_tellSigns_60 : decode cX3_tellSigns 60 = .ok (.sipush 2048, 3) := by decide +kernel
theorem dX3_tellSigns_63 : decode cX3_tellSigns 63 = .ok (.iadd, 1) := by decide +kernel
theorem dX3_tellSigns_64 : decode cX3_tellSigns 64 = .ok (.iastore, 1) := by decide +kernel
theorem dX3_tellSigns_65 : decode cX3_tellSigns 65 = .ok (.iload 4, 2) := by decide +kernel
theorem dX3_tellSigns_67 : decode cX3_tellSigns 67 = .ok (.iload_n 3, 1) := by decide +kernel
theorem dX3_tellSigns_68 : decode cX3_tellSigns 68 = .ok (.if_icmp .ne 16, 3) := by decide +kernel
theorem dX3_tellSigns_71 : decode cX3_tellSigns 71 = .ok (.iload_n 2, 1) := by decide +kernel
theorem dX3_tellSigns_72 : decode cX3_tellSigns 72 = .ok (.iload_n 3, 1) := by decide +kernel
theorem dX3_tellSigns_73 : decode cX3_tellSigns 73 = .ok (.if_icmp .ne 11, 3) := by decide +kernel
theorem dX3_tellSigns_76 : decode cX3_tellSigns 76 = .ok (.aload_n 1, 1) := by decide +kernel
theorem dX3_tellSigns_77 : decode cX3_tellSigns 77 = .ok (.iload_n 2, 1) := by decide +kernel
theorem dX3_tellSigns_78 : decode cX3_tellSigns 78 = .ok (.dup2, 1) := by decide +kernel
theorem dX3_tellSigns_79 : decode cX3_tellSigns 79 = .ok (.iaload, 1) := by decide +kernel
theorem dX3_tellSigns_80 : decode cX3_tellSigns 80 = .ok (.ldc 55, 2) := by decide +kernel
theorem dX3_tellSigns_82 : decode cX3_tellSigns 82 = .ok (.iadd, 1) := by decide +kernel
theorem dX3_tellSigns_83 : decode cX3_tellSigns 83 = .ok (.iastore, 1) := by decide +kernel
theorem dX3_tellSigns_84 : decode cX3_tellSigns 84 = .ok (.iinc 3 1, 3) := by decide +kernel
theorem dX3_tellSigns_87 : decode cX3_tellSigns 87 = .ok (.goto (-70), 3) := by decide +kernel
theorem dX3_tellSigns_90 : decode cX3_tellSigns 90 = .ok (.iinc 2 1, 3) := by decide +kernel
theorem dX3_tellSigns_93 : decode cX3_tellSigns 93 = .ok (.goto (-86), 3) := by decide +kernel
theorem dX3_tellSigns_96 : decode cX3_tellSigns 96 = .ok (.return_, 1) := by decide +kernel
set_option maxRecDepth 20000 in
theorem ggX3_canGoOn_X3_fits : GoodIn wsX3_canGoOn wsX3_fits := goodIn_r _ [6, 7, 8, 9, 1, 10, 11, 12, 13, 14, 15, 25, 26, 27, 28, 23, 24] (by decide +kernel) (by decide +kernel)
set_option maxRecDepth 20000 in
theorem gX3_canGoOn_X3_fits : GoodIn wsX3_canGoOn (wsV RX3 38 RX3 yX3_fits wsX3_fits) := goodIn_app (goodIn_of _ (by decide +kernel)) ggX3_canGoOn_X3_fits
set_option maxRecDepth 20000 in
theorem ggX3_canGoOn_X3_canGoOnWith : GoodIn wsX3_canGoOn wsX3_canGoOnWith := goodIn_r _ [19, 9, 1, 20, 21, 22, 5, 0, 2, 3, 4, 6, 7, 8, 10, 11, 12, 13, 14, 15, 16, 17, 18, 23, 24, 25, 26, 27, 28] (by decide +kernel) (by decide +kernel)
set_option maxRecDepth 20000 in
theorem gX3_canGoOn_X3_canGoOnWith : GoodIn wsX3_canGoOn (wsV RX3 42 RX3 yX3_canGoOnWith wsX3_canGoOnWith) := goodIn_app (goodIn_of _ (by decide +kernel)) ggX3_canGoOn_X3_canGoOnWith
theorem dX3_canGoOn_0 : decode cX3_canGoOn 0 = .ok (.iload_n 3, 1) := by decide +kernel
theorem dX3_canGoOn_1 : decode cX3_canGoOn 1 = .ok (.aload_n 1, 1) := by decide +kernel
theorem dX3_canGoOn_2 : decode cX3_canGoOn 2 = .ok (.getfield 29, 3) := by decide +kernel
theorem dX3_canGoOn_5 : decode cX3_canGoOn 5 = .ok (.if_icmp .lt 5, 3) := by decide +kernel
theorem dX3_canGoOn_8 : decode cX3_canGoOn 8 = .ok (.iconst 1, 1) := by decide +kernel
theorem dX3_canGoOn_9 : decode cX3_canGoOn 9 = .ok (.ireturn, 1) := by decide +kernel
theorem dX3_canGoOn_10 : decode cX3_canGoOn 10 = .ok (.iconst 0, 1) := by decide +kernel
theorem dX3_canGoOn_11 : decode cX3_canGoOn 11 = .ok (.istore 4, 2) := by decide +kernel
theorem dX3_canGoOn_13 : decode cX3_canGoOn 13 = .ok (.iload 4, 2) := by decide +kernel
theorem dX3_canGoOn_15 : decode cX3_canGoOn 15 = .ok (.aload_n 2, 1) := by decide +kernel
theorem dX3_canGoOn_16 : decode cX3_canGoOn 16 = .ok (.getfield 29, 3) := by decide +kernel
theorem dX3_canGoOn_19 : decode cX3_canGoOn 19 = .ok (.if_icmp .ge 47, 3) := by decide +kernel
theorem dX3_canGoOn_22 : decode cX3_canGoOn 22 = .ok (.aload_n 0, 1) := by decide +kernel
theorem dX3_canGoOn_23 : decode cX3_canGoOn 23 = .ok (.getfield 21, 3) := by decide +kernel
theorem dX3_canGoOn_26 : decode cX3_canGoOn 26 = .ok (.iload 4, 2) := by decide +kernel
theorem dX3_canGoOn_28 : decode cX3_canGoOn 28 = .ok (.ishr, 1) := by decide +kernel
theorem dX3_canGoOn_29 : decode cX3_canGoOn 29 = .ok (.iconst 1, 1) := by decide +kernel
theorem dX3_canGoOn_30 : decode cX3_canGoOn 30 = .ok (.iand, 1) := by decide +kernel
theorem dX3_canGoOn_31 : decode cX3_canGoOn 31 = .ok (.ifCond .ne 29, 3) := by decide +kernel
theorem dX3_canGoOn_34 : decode cX3_canGoOn 34 = .ok (.aload_n 0, 1) := by decide +kernel
theorem dX3_canGoOn_35 : decode cX3_canGoOn 35 = .ok (.aload_n 1, 1) := by decide +kernel
theorem dX3_canGoOn_36 : decode cX3_canGoOn 36 = .ok (.aload_n 2, 1) := by decide +kernel
theorem dX3_canGoOn_37 : decode cX3_canGoOn 37 = .ok (.iload_n 3, 1) := by decide +kernel
theorem dX3_canGoOn_38 : decode cX3_canGoOn 38 = .ok (.iload 4, 2) := by decide +kernel
theorem dX3_canGoOn_40 : decode cX3_canGoOn 40 = .ok (.invokevirtual 38, 3) := by decide +kernel
theorem dX3_canGoOn_43 : decode cX3_canGoOn 43 = .ok (.ifCond .eq 17, 3) := by decide +kernel
theorem dX3_canGoOn_46 : decode cX3_canGoOn 46 = .ok (.aload_n 0, 1) := by decide +kernel
theorem dX3_canGoOn_47 : decode cX3_canGoOn 47 = .ok (.aload_n 1, 1) := by decide +kernel
theorem dX3_canGoOn_48 : decode cX3_canGoOn 48 = .ok (.aload_n 2, 1) := by decide +kernel
theorem dX3_canGoOn_49 : decode cX3_canGoOn 49 = .ok (.iload_n 3, 1) := by decide +kernel
theorem dX3_canGoOn_50 : decode cX3_canGoOn 50 = .ok (.iload 4, 2) := by decide +kernel
theorem dX3_canGoOn_52 : decode cX3_canGoOn 52 = .ok (.invokevirtual 42, 3) := by decide +kernel
theorem dX3_canGoOn_55 : decode cX3_canGoOn 55 = .ok (.ifCond .eq 5, 3) := by decide +kernel
theorem dX3_canGoOn_58 : decode cX3_canGoOn 58 = .ok (.iconst 1, 1) := by decide +kernel
theorem dX3_canGoOn_59 : decode cX3_canGoOn 59 = .ok (.ireturn, 1) := by decide +kernel
theorem dX3_canGoOn_60 : decode cX3_canGoOn 60 = .ok (.iinc 4 1, 3) := by decide +kernel
theorem dX3_canGoOn_63 : decode cX3_canGoOn 63 = .ok (.goto (-50), 3) := by decide +kernel
theorem dX3_canGoOn_66 : decode cX3_canGoOn 66 = .ok (.iconst 0, 1) := by decide +kernel
theorem dX3_canGoOn_67 : decode cX3_canGoOn 67 = .ok (.ireturn, 1) := by decide +kernel
set_option maxRecDepth 20000 in
theorem ggX3_canGoOnWith_X3_canGoOn : GoodIn wsX3_canGoOnWith wsX3_canGoOn := goodIn_r _ [7, 2, 8, 9, 10, 6, 11, 12, 13, 1, 14, 15, 16, 17, 18, 19, 20, 21, 22, 0, 3, 4, 5, 23, 24, 25, 26, 27, 28] (by decide +kernel) (by decide +kernel)
set_option maxRecDepth 20000 in
theorem gX3_canGoOnWith_X3_canGoOn : GoodIn wsX3_canGoOnWith (wsV RX3 34 RX3 yX3_canGoOn wsX3_canGoOn) := goodIn_app (goodIn_of _ (by decide +kernel)) ggX3_canGoOnWith_X3_canGoOn
theorem dX3_canGoOnWith_0 : decode cX3_canGoOnWith 0 = .ok (.aload_n 0, 1) := by decide +kernel
theorem dX3_canGoOnWith_1 : decode cX3_canGoOnWith 1 = .ok (.getfield 18, 3) := by decide +kernel
theorem dX3_canGoOnWith_4 : decode cX3_canGoOnWith 4 = .ok (.iload_n 3, 1) := by decide +kernel
theorem dX3_canGoOnWith_5 : decode cX3_canGoOnWith 5 = .ok (.iload 4, 2) := by decide +kernel
theorem dX3_canGoOnWith_7 : decode cX3_canGoOnWith 7 = .ok (.iastore, 1) := by decide +kernel
theorem dX3_canGoOnWith_8 : decode cX3_canGoOnWith 8 = .ok (.aload_n 0, 1) := by decide +kernel
theorem dX3_canGoOnWith_9 : decode cX3_canGoOnWith 9 = .ok (.dup, 1) := by decide +kernel
theorem dX3_canGoOnWith_10 : decode cX3_canGoOnWith 10 = .ok (.getfield 21, 3) := by decide +kernel
theorem dX3_canGoOnWith_13 : decode cX3_canGoOnWith 13 = .ok (.iconst 1, 1) := by decide +kernel
theorem dX3_canGoOnWith_14 : decode cX3_canGoOnWith 14 = .ok (.iload 4, 2) := by decide +kernel
theorem dX3_canGoOnWith_16 : decode cX3_canGoOnWith 16 = .ok (.ishl, 1) := by decide +kernel
theorem dX3_canGoOnWith_17 : decode cX3_canGoOnWith 17 = .ok (.ior, 1) := by decide +kernel
theorem dX3_canGoOnWith_18 : decode cX3_canGoOnWith 18 = .ok (.putfield 21, 3) := by decide +kernel
theorem dX3_canGoOnWith_21 : decode cX3_canGoOnWith 21 = .ok (.aload_n 0, 1) := by decide +kernel
theorem dX3_canGoOnWith_22 : decode cX3_canGoOnWith 22 = .ok (.aload_n 1, 1) := by decide +kernel
theorem dX3_canGoOnWith_23 : decode cX3_canGoOnWith 23 = .ok (.aload_n 2, 1) := by decide +kernel
theorem dX3_canGoOnWith_24 : decode cX3_canGoOnWith 24 = .ok (.iload_n 3, 1) := by decide +kernel
theorem dX3_canGoOnWith_25 : decode cX3_canGoOnWith 25 = .ok (.iconst 1, 1) := by decide +kernel
theorem dX3_canGoOnWith_26 : decode cX3_canGoOnWith 26 = .ok (.iadd, 1) := by decide +kernel
theorem dX3_canGoOnWith_27 : decode cX3_canGoOnWith 27 = .ok (.invokevirtual 34, 3) := by decide +kernel
theorem dX3_canGoOnWith_30 : decode cX3_canGoOnWith 30 = .ok (.istore 5, 2) := by decide +kernel
theorem dX3_canGoOnWith_32 : decode cX3_canGoOnWith 32 = .ok (.aload_n 0, 1) := by decide +kernel
theorem dX3_canGoOnWith_33 : decode cX3_canGoOnWith 33 = .ok (.dup, 1) := by decide +kernel
theorem dX3_canGoOnWith_34 : decode cX3_canGoOnWith 34 = .ok (.getfield 21, 3) := by decide +kernel
theorem dX3_canGoOnWith_37 : decode cX3_canGoOnWith 37 = .ok (.iconst 1, 1) := by decide +kernel
theorem dX3_canGoOnWith_38 : decode cX3_canGoOnWith 38 = .ok (.iload 4, 2) := by decide +kernel
theorem dX3_canGoOnWith_40 : decode cX3_canGoOnWith 40 = .ok (.ishl, 1) := by decide +kernel
theorem dX3_canGoOnWith_41 : decode cX3_canGoOnWith 41 = .ok (.iconst (-1), 1) := by decide +kernel
theorem dX3_canGoOnWith_42 : decode cX3_canGoOnWith 42 = .ok (.ixor, 1) := by decide +kernel
theorem dX3_canGoOnWith_43 : decode cX3_canGoOnWith 43 = .ok (.iand, 1) := by decide +kernel
theorem dX3_canGoOnWith_44 : decode cX3_canGoOnWith 44 = .ok (.putfield 21, 3) := by decide +kernel
theorem dX3_canGoOnWith_47 : decode cX3_canGoOnWith 47 = .ok (.iload 5, 2) := by decide +kernel
theorem dX3_canGoOnWith_49 : decode cX3_canGoOnWith 49 = .ok (.ireturn, 1) := by decide +kernel
set_option maxRecDepth 20000 in
theorem ggX3_fits_X7_turned : GoodIn wsX3_fits wsX7_turned := goodIn_r _ [9, 10, 15, 16] (by decide +kernel) (by decide +kernel)
set_option maxRecDepth 20000 in
theorem gX3_fits_X7_turned : GoodIn wsX3_fits (wsV RX3 51 RX7 yX7_turned wsX7_turned) := goodIn_app (goodIn_of _ (by decide +kernel)) ggX3_fits_X7_turned
theorem dX3_fits_0 : decode cX3_fits 0 = .ok (.aload_n 0, 1) := by decide +kernel
theorem dX3_fits_1 : decode cX3_fits 1 = .ok (.getfield 9, 3) := by decide +kernel
theorem dX3_fits_4 : decode cX3_fits 4 = .ok (.iload_n 3, 1) := by decide +kernel
theorem dX3_fits_5 : decode cX3_fits 5 = .ok (.iaload, 1) := by decide +kernel
theorem dX3_fits_6 : decode cX3_fits 6 = .ok (.aload_n 0, 1) := by decide +kernel
theorem dX3_fits_7 : decode cX3_fits 7 = .ok (.getfield 15, 3) := by decide +kernel
theorem dX3_fits_10 : decode cX3_fits 10 = .ok (.iload 4, 2) := by decide +kernel
theorem dX3_fits_12 : decode cX3_fits 12 = .ok (.iaload, 1) := by decide +kernel
theorem dX3_fits_13 : decode cX3_fits 13 = .ok (.if_icmp .eq 5, 3) := by decide +kernel
theorem dX3_fits_16 : decode cX3_fits 16 = .ok (.iconst 0, 1) := by decide +kernel
theorem dX3_fits_17 : decode cX3_fits 17 = .ok (.ireturn, 1) := by decide +kernel
theorem dX3_fits_18 : decode cX3_fits 18 = .ok (.aload_n 0, 1) := by decide +kernel
theorem dX3_fits_19 : decode cX3_fits 19 = .ok (.getfield 18, 3) := by decide +kernel
theorem dX3_fits_22 : decode cX3_fits 22 = .ok (.iload_n 3, 1) := by decide +kernel
theorem dX3_fits_23 : decode cX3_fits 23 = .ok (.iload 4, 2) := by decide +kernel
theorem dX3_fits_25 : decode cX3_fits 25 = .ok (.iastore, 1) := by decide +kernel
theorem dX3_fits_26 : decode cX3_fits 26 = .ok (.aload_n 0, 1) := by decide +kernel
theorem dX3_fits_27 : decode cX3_fits 27 = .ok (.getfield 21, 3) := by decide +kernel
theorem dX3_fits_30 : decode cX3_fits 30 = .ok (.iconst 1, 1) := by decide +kernel
theorem dX3_fits_31 : decode cX3_fits 31 = .ok (.iload 4, 2) := by decide +kernel
theorem dX3_fits_33 : decode cX3_fits 33 = .ok (.ishl, 1) := by decide +kernel
theorem dX3_fits_34 : decode cX3_fits 34 = .ok (.ior, 1) := by decide +kernel
theorem dX3_fits_35 : decode cX3_fits 35 = .ok (.istore 5, 2) := by decide +kernel
theorem dX3_fits_37 : decode cX3_fits 37 = .ok (.iconst 0, 1) := by decide +kernel
theorem dX3_fits_38 : decode cX3_fits 38 = .ok (.istore 6, 2) := by decide +kernel
theorem dX3_fits_40 : decode cX3_fits 40 = .ok (.iload 6, 2) := by decide +kernel
theorem dX3_fits_42 : decode cX3_fits 42 = .ok (.iload_n 3, 1) := by decide +kernel
theorem dX3_fits_43 : decode cX3_fits 43 = .ok (.if_icmp .gt 104, 3) := by decide +kernel
theorem dX3_fits_46 : decode cX3_fits 46 = .ok (.iconst 0, 1) := by decide +kernel
theorem dX3_fits_47 : decode cX3_fits 47 = .ok (.istore 7, 2) := by decide +kernel
theorem dX3_fits_49 : decode cX3_fits 49 = .ok (.iload 7, 2) := by decide +kernel
theorem dX3_fits_51 : decode cX3_fits 51 = .ok (.iload_n 3, 1) := by decide +kernel
theorem dX3_fits_52 : decode cX3_fits 52 = .ok (.if_icmp .gt 89, 3) := by decide +kernel
theorem dX3_fits_55 : decode cX3_fits 55 = .ok (.aload_n 1, 1) := by decide +kernel
theorem dX3_fits_56 : decode cX3_fits 56 = .ok (.iload 6, 2) := by decide +kernel
theorem dX3_fits_58 : decode cX3_fits 58 = .ok (.iload 7, 2) := by decide +kernel
theorem dX3_fits_60 : decode cX3_fits 60 = .ok (.invokevirtual 51, 3) := by decide +kernel
theorem dX3_fits_63 : decode cX3_fits 63 = .ok (.istore 8, 2) := by decide +kernel
theorem dX3_fits_65 : decode cX3_fits 65 = .ok (.aload_n 2, 1) := by decide +kernel
theorem dX3_fits_66 : decode cX3_fits 66 = .ok (.aload_n 0, 1) := by decide +kernel
theorem dX3_fits_67 : decode cX3_fits 67 = .ok (.getfield 18, 3) := by decide +kernel
theorem dX3_fits_70 : decode cX3_fits 70 = .ok (.iload 6, 2) := by decide +kernel
theorem dX3_fits_72 : decode cX3_fits 72 = .ok (.iaload, 1) := by decide +kernel
theorem dX3_fits_73 : decode cX3_fits 73 = .ok (.aload_n 0, 1) := by decide +kernel
theorem dX3_fits_74 : decode cX3_fits 74 = .ok (.getfield 18, 3) := by decide +kernel
theorem dX3_fits_77 : decode cX3_fits 77 = .ok (.iload 7, 2) := by decide +kernel
theorem dX3_fits_79 : decode cX3_fits 79 = .ok (.iaload, 1) := by decide +kernel
theorem dX3_fits_80 : decode cX3_fits 80 = .ok (.invokevirtual 51, 3) := by decide +kernel
theorem dX3_fits_83 : decode cX3_fits 83 = .ok (.istore 9, 2) := by decide +kernel
theorem dX3_fits_85 : decode cX3_fits 85 = .ok (.iload 8, 2) := by decide +kernel
theorem dX3_fits_87 : decode cX3_fits 87 = .ok (.iload_n 3, 1) := by decide +kernel
theorem dX3_fits_88 : decode cX3_fits 88 = .ok (.if_icmp .gt 23, 3) := by decide +kernel
theorem dX3_fits_91 : decode cX3_fits 91 = .ok (.aload_n 0, 1) := by decide +kernel
theorem dX3_fits_92 : decode cX3_fits 92 = .ok (.getfield 18, 3) := by decide +kernel
theorem dX3_fits_95 : decode cX3_fits 95 = .ok (.iload 8, 2) := by decide +kernel
theorem dX3_fits_97 : decode cX3_fits 97 = .ok (.iaload, 1) := by decide +kernel
theorem dX3_fits_98 : decode cX3_fits 98 = .ok (.iload 9, 2) := by decide +kernel
theorem dX3_fits_100 : decode cX3_fits 100 = .ok (.if_icmp .ne 7, 3) := by decide +kernel
theorem dX3_fits_103 : decode cX3_fits 103 = .ok (.iconst 1, 1) := by decide +kernel
theorem dX3_fits_104 : decode cX3_fits 104 = .ok (.goto 22, 3) := by decide +kernel
theorem dX3_fits_107 : decode cX3_fits 107 = .ok (.iconst 0, 1) := by decide +kernel
theorem dX3_fits_108 : decode cX3_fits 108 = .ok (.goto 18, 3) := by decide +kernel
theorem dX3_fits_111 : decode cX3_fits 111 = .ok (.iload 5, 2) := by decide +kernel
theorem dX3_fits_113 : decode cX3_fits 113 = .ok (.iload 9, 2) := by decide +kernel
theorem dX3_fits_115 : decode cX3_fits 115 = .ok (.ishr, 1) := by decide +kernel
theorem dX3_fits_116 : decode cX3_fits 116 = .ok (.iconst 1, 1) := by decide +kernel
theorem dX3_fits_117 : decode cX3_fits 117 = .ok (.iand, 1) := by decide +kernel
theorem dX3_fits_118 : decode cX3_fits 118 = .ok (.ifCond .ne 7, 3) := by decide +kernel
theorem dX3_fits_121 : decode cX3_fits 121 = .ok (.iconst 1, 1) := by decide +kernel
theorem dX3_fits_122 : decode cX3_fits 122 = .ok (.goto 4, 3) := by decide +kernel
theorem dX3_fits_125 : decode cX3_fits 125 = .ok (.iconst 0, 1) := by decide +kernel
theorem dX3_fits_126 : decode cX3_fits 126 = .ok (.istore 10, 2) := by decide +kernel
theorem dX3_fits_128 : decode cX3_fits 128 = .ok (.iload 10, 2) := by decide +kernel
theorem dX3_fits_130 : decode cX3_fits 130 = .ok (.ifCond .ne 5, 3) := by decide +kernel
theorem dX3_fits_133 : decode cX3_fits 133 = .ok (.iconst 0, 1) := by decide +kernel
theorem dX3_fits_134 : decode cX3_fits 134 = .ok (.ireturn, 1) := by decide +kernel
theorem dX3_fits_135 : decode cX3_fits 135 = .ok (.iinc 7 1, 3) := by decide +kernel
theorem dX3_fits_138 : decode cX3_fits 138 = .ok (.goto (-89), 3) := by decide +kernel
theorem dX3_fits_141 : decode cX3_fits 141 = .ok (.iinc 6 1, 3) := by decide +kernel
theorem dX3_fits_144 : decode cX3_fits 144 = .ok (.goto (-104), 3) := by decide +kernel
theorem dX3_fits_147 : decode cX3_fits 147 = .ok (.iconst 1, 1) := by decide +kernel
theorem dX3_fits_148 : decode cX3_fits 148 = .ok (.ireturn, 1) := by decide +kernel
set_option maxRecDepth 20000 in
theorem ggX4_init_X7_init : GoodIn wsX4_init wsX7_init := goodIn_r _ [16, 17, 2, 3, 8, 18, 19, 20, 21] (by decide +kernel) (by decide +kernel)
set_option maxRecDepth 20000 in
theorem gX4_init_X7_init : GoodIn wsX4_init (wsX7_init) := ggX4_init_X7_init
theorem dX4_init_0 : decode cX4_init 0 = .ok (.aload_n 0, 1) := by decide +kernel
theorem dX4_init_1 : decode cX4_init 1 = .ok (.invokespecial 3, 3) := by decide +kernel
theorem dX4_init_4 : decode cX4_init 4 = .ok (.aload_n 0, 1) := by decide +kernel
theorem dX4_init_5 : decode cX4_init 5 = .ok (.new 9, 3) := by decide +kernel
theorem dX4_init_8 : decode cX4_init 8 = .ok (.dup, 1) := by decide +kernel
theorem dX4_init_9 : decode cX4_init 9 = .ok (.iconst 1, 1) := by decide +kernel
theorem dX4_init_10 : decode cX4_init 10 = .ok (.invokespecial 11, 3) := by decide +kernel
theorem dX4_init_13 : decode cX4_init 13 = .ok (.putfield 14, 3) := by decide +kernel
theorem dX4_init_16 : decode cX4_init 16 = .ok (.aload_n 0, 1) := by decide +kernel
theorem dX4_init_17 : decode cX4_init 17 = .ok (.bipush 8, 2) := by decide +kernel
theorem dX4_init_19 : decode cX4_init 19 = .ok (.newarray .int, 2) := by decide +kernel
theorem dX4_init_21 : decode cX4_init 21 = .ok (.putfield 20, 3) := by decide +kernel
theorem dX4_init_24 : decode cX4_init 24 = .ok (.aload_n 0, 1) := by decide +kernel
theorem dX4_init_25 : decode cX4_init 25 = .ok (.bipush 8, 2) := by decide +kernel
theorem dX4_init_27 : decode cX4_init 27 = .ok (.newarray .int, 2) := by decide +kernel
theorem dX4_init_29 : decode cX4_init 29 = .ok (.putfield 24, 3) := by decide +kernel
theorem dX4_init_32 : decode cX4_init 32 = .ok (.aload_n 0, 1) := by decide +kernel
theorem dX4_init_33 : decode cX4_init 33 = .ok (.bipush 8, 2) := by decide +kernel
theorem dX4_init_35 : decode cX4_init 35 = .ok (.newarray .int, 2) := by decide +kernel
theorem dX4_init_37 : decode cX4_init 37 = .ok (.putfield 27, 3) := by decide +kernel
theorem dX4_init_40 : decode cX4_init 40 = .ok (.aload_n 0, 1) := by decide +kernel
theorem dX4_init_41 : decode cX4_init 41 = .ok (.bipush 8, 2) := by decide +kernel
theorem dX4_init_43 : decode cX4_init 43 = .ok (.newarray .int, 2) := by decide +kernel
theorem dX4_init_45 : decode cX4_init 45 = .ok (.putfield 30, 3) := by decide +kernel
theorem dX4_init_48 : decode cX4_init 48 = .ok (.aload_n 0, 1) := by decide +kernel
theorem dX4_init_49 : decode cX4_init 49 = .ok (.iconst 0, 1) := by decide +kernel
theorem dX4_init_50 : decode cX4_init 50 = .ok (.putfield 33, 3) := by decide +kernel
theorem dX4_init_53 : decode cX4_init 53 = .ok (.return_, 1) := by decide +kernel
set_option maxRecDepth 20000 in
theorem ggX4_lessen_X7_copy : GoodIn wsX4_lessen wsX7_copy := goodIn_r _ [8, 9, 10, 11, 12, 13, 14, 83, 84] (by decide +kernel) (by decide +kernel)
set_option maxRecDepth 20000 in
theorem gX4_lessen_X7_copy : GoodIn wsX4_lessen (wsV RX4 37 RX7 yX7_copy wsX7_copy) := goodIn_app (goodIn_of _ (by decide +kernel)) ggX4_lessen_X7_copy
set_option maxRecDepth 20000 in
theorem ggX4_lessen_J7_fill_53178 : GoodIn wsX4_lessen wsJ7_fill_53178 := goodIn_r _ [18] (by decide +kernel) (by decide +kernel)
set_option maxRecDepth 20000 in
theorem gX4_lessen_J7_fill_53178 : GoodIn wsX4_lessen (va_wsS RX4 41 yJ7_fill_53178 wsJ7_fill_53178) := goodIn_app (goodIn_of _ (by decide +kernel)) ggX4_lessen_J7_fill_53178
set_option maxRecDepth 20000 in
theorem ggX4_lessen_X4_findTwins : GoodIn wsX4_lessen wsX4_findTwins := goodIn_r _ [23, 24, 25, 26, 22, 27, 28, 29, 30, 31, 32, 33, 7, 34, 10, 83, 84, 77, 78, 79, 80, 81, 82] (by decide +kernel) (by decide +kernel)
set_option maxRecDepth 20000 in
theorem gX4_lessen_X4_findTwins : GoodIn wsX4_lessen (wsV RX4 47 RX4 yX4_findTwins wsX4_findTwins) := goodIn_app (goodIn_of _ (by decide +kernel)) ggX4_lessen_X4_findTwins
set_option maxRecDepth 20000 in
theorem ggX4_lessen_X4_nameColumn : GoodIn wsX4_lessen wsX4_nameColumn := goodIn_r _ [38, 2, 3, 39, 40, 41, 22, 42, 43, 1, 31, 32, 33, 7, 34, 10, 44, 45, 46, 47, 48, 49, 50, 51, 52, 53, 54, 55, 56, 57, 58, 24, 59, 60, 61, 62, 63, 64, 65, 66, 67, 68, 69, 70, 71, 72, 35, 36, 37, 77, 78, 79, 80, 81, 82, 83, 84] (by decide +kernel) (by decide +kernel)
set_option maxRecDepth 20000 in
theorem gX4_lessen_X4_nameColumn : GoodIn wsX4_lessen (wsV RX4 50 RX4 yX4_nameColumn wsX4_nameColumn) := goodIn_app (goodIn_of _ (by decide +kernel)) ggX4_lessen_X4_nameColumn
set_option maxRecDepth 20000 in
theorem ggX4_lessen_X4_isBest : GoodIn wsX4_lessen wsX4_isBest := goodIn_r _ [76, 1, 31, 32, 33, 7, 34, 10, 83, 84, 77, 78, 79, 80, 81, 82] (by decide +kernel) (by decide +kernel)
set_option maxRecDepth 20000 in
theorem gX4_lessen_X4_isBest : GoodIn wsX4_lessen (wsV RX4 54 RX4 yX4_isBest wsX4_isBest) := goodIn_app (goodIn_of _ (by decide +kernel)) ggX4_lessen_X4_isBest
theorem dX4_lessen_0 : decode cX4_lessen 0 = .ok (.aload_n 0, 1) := by decide +kernel
theorem dX4_lessen_1 : decode cX4_lessen 1 = .ok (.getfield 14, 3) := by decide +kernel
theorem dX4_lessen_4 : decode cX4_lessen 4 = .ok (.aload_n 1, 1) := by decide +kernel
theorem dX4_lessen_5 : decode cX4_lessen 5 = .ok (.invokevirtual 37, 3) := by decide +kernel
theorem dX4_lessen_8 : decode cX4_lessen 8 = .ok (.aload_n 0, 1) := by decide +kernel
theorem dX4_lessen_9 : decode cX4_lessen 9 = .ok (.iconst 0, 1) := by decide +kernel
theorem dX4_lessen_10 : decode cX4_lessen 10 = .ok (.putfield 33, 3) := by decide +kernel
theorem dX4_lessen_13 : decode cX4_lessen 13 = .ok (.aload_n 0, 1) := by decide +kernel
theorem dX4_lessen_14 : decode cX4_lessen 14 = .ok (.getfield 24, 3) := by decide +kernel
theorem dX4_lessen_17 : decode cX4_lessen 17 = .ok (.iconst (-1), 1) := by decide +kernel
theorem dX4_lessen_18 : decode cX4_lessen 18 = .ok (.invokestatic 41, 3) := by decide +kernel
theorem dX4_lessen_21 : decode cX4_lessen 21 = .ok (.aload_n 0, 1) := by decide +kernel
theorem dX4_lessen_22 : decode cX4_lessen 22 = .ok (.aload_n 1, 1) := by decide +kernel
theorem dX4_lessen_23 : decode cX4_lessen 23 = .ok (.invokevirtual 47, 3) := by decide +kernel
theorem dX4_lessen_26 : decode cX4_lessen 26 = .ok (.aload_n 0, 1) := by decide +kernel
theorem dX4_lessen_27 : decode cX4_lessen 27 = .ok (.aload_n 1, 1) := by decide +kernel
theorem dX4_lessen_28 : decode cX4_lessen 28 = .ok (.iconst 0, 1) := by decide +kernel
theorem dX4_lessen_29 : decode cX4_lessen 29 = .ok (.invokevirtual 50, 3) := by decide +kernel
theorem dX4_lessen_32 : decode cX4_lessen 32 = .ok (.aload_n 0, 1) := by decide +kernel
theorem dX4_lessen_33 : decode cX4_lessen 33 = .ok (.aload_n 1, 1) := by decide +kernel
theorem dX4_lessen_34 : decode cX4_lessen 34 = .ok (.invokevirtual 54, 3) := by decide +kernel
theorem dX4_lessen_37 : decode cX4_lessen 37 = .ok (.ifCond .ne 7, 3) := by decide +kernel
theorem dX4_lessen_40 : decode cX4_lessen 40 = .ok (.iconst 1, 1) := by decide +kernel
theorem dX4_lessen_41 : decode cX4_lessen 41 = .ok (.goto 4, 3) := by decide +kernel
theorem dX4_lessen_44 : decode cX4_lessen 44 = .ok (.iconst 0, 1) := by decide +kernel
theorem dX4_lessen_45 : decode cX4_lessen 45 = .ok (.ireturn, 1) := by decide +kernel
set_option maxRecDepth 20000 in
theorem ggX4_isBest_X7_turned : GoodIn wsX4_isBest wsX7_turned := goodIn_r _ [6, 7, 8, 9] (by decide +kernel) (by decide +kernel)
set_option maxRecDepth 20000 in
theorem gX4_isBest_X7_turned : GoodIn wsX4_isBest (wsV RX4 61 RX7 yX7_turned wsX7_turned) := goodIn_app (goodIn_of _ (by decide +kernel)) ggX4_isBest_X7_turned
theorem dX4_isBest_0 : decode cX4_isBest 0 = .ok (.iconst 0, 1) := by decide +kernel
theorem dX4_isBest_1 : decode cX4_isBest 1 = .ok (.istore_n 2, 1) := by decide +kernel
theorem dX4_isBest_2 : decode cX4_isBest 2 = .ok (.iload_n 2, 1) := by decide +kernel
theorem dX4_isBest_3 : decode cX4_isBest 3 = .ok (.aload_n 1, 1) := by decide +kernel
theorem dX4_isBest_4 : decode cX4_isBest 4 = .ok (.getfield 58, 3) := by decide +kernel
theorem dX4_isBest_7 : decode cX4_isBest 7 = .ok (.if_icmp .ge 45, 3) := by decide +kernel
theorem dX4_isBest_10 : decode cX4_isBest 10 = .ok (.iconst 0, 1) := by decide +kernel
theorem dX4_isBest_11 : decode cX4_isBest 11 = .ok (.istore_n 3, 1) := by decide +kernel
theorem dX4_isBest_12 : decode cX4_isBest 12 = .ok (.iload_n 3, 1) := by decide +kernel
theorem dX4_isBest_13 : decode cX4_isBest 13 = .ok (.aload_n 1, 1) := by decide +kernel
theorem dX4_isBest_14 : decode cX4_isBest 14 = .ok (.getfield 58, 3) := by decide +kernel
theorem dX4_isBest_17 : decode cX4_isBest 17 = .ok (.if_icmp .ge 29, 3) := by decide +kernel
theorem dX4_isBest_20 : decode cX4_isBest 20 = .ok (.aload_n 1, 1) := by decide +kernel
theorem dX4_isBest_21 : decode cX4_isBest 21 = .ok (.iload_n 2, 1) := by decide +kernel
theorem dX4_isBest_22 : decode cX4_isBest 22 = .ok (.iload_n 3, 1) := by decide +kernel
theorem dX4_isBest_23 : decode cX4_isBest 23 = .ok (.invokevirtual 61, 3) := by decide +kernel
theorem dX4_isBest_26 : decode cX4_isBest 26 = .ok (.aload_n 0, 1) := by decide +kernel
theorem dX4_isBest_27 : decode cX4_isBest 27 = .ok (.getfield 14, 3) := by decide +kernel
theorem dX4_isBest_30 : decode cX4_isBest 30 = .ok (.iload_n 2, 1) := by decide +kernel
theorem dX4_isBest_31 : decode cX4_isBest 31 = .ok (.iload_n 3, 1) := by decide +kernel
theorem dX4_isBest_32 : decode cX4_isBest 32 = .ok (.invokevirtual 61, 3) := by decide +kernel
theorem dX4_isBest_35 : decode cX4_isBest 35 = .ok (.if_icmp .eq 5, 3) := by decide +kernel
theorem dX4_isBest_38 : decode cX4_isBest 38 = .ok (.iconst 0, 1) := by decide +kernel
theorem dX4_isBest_39 : decode cX4_isBest 39 = .ok (.ireturn, 1) := by decide +kernel
theorem dX4_isBest_40 : decode cX4_isBest 40 = .ok (.iinc 3 1, 3) := by decide +kernel
theorem dX4_isBest_43 : decode cX4_isBest 43 = .ok (.goto (-31), 3) := by decide +kernel
theorem dX4_isBest_46 : decode cX4_isBest 46 = .ok (.iinc 2 1, 3) := by decide +kernel
theorem dX4_isBest_49 : decode cX4_isBest 49 = .ok (.goto (-47), 3) := by decide +kernel
theorem dX4_isBest_52 : decode cX4_isBest 52 = .ok (.iconst 1, 1) := by decide +kernel
theorem dX4_isBest_53 : decode cX4_isBest 53 = .ok (.ireturn, 1) := by decide +kernel
set_option maxRecDepth 20000 in
theorem ggX4_findTwins_X4_areTwins : GoodIn wsX4_findTwins wsX4_areTwins := goodIn_r _ [5, 6, 7, 4, 8, 9, 10, 11, 12, 13, 14, 15, 16] (by decide +kernel) (by decide +kernel)
set_option maxRecDepth 20000 in
theorem gX4_findTwins_X4_areTwins : GoodIn wsX4_findTwins (va_wsS RX4 65 yX4_areTwins wsX4_areTwins) := goodIn_app (goodIn_of _ (by decide +kernel)) ggX4_findTwins_X4_areTwins
theorem dX4_findTwins_0 : decode cX4_findTwins 0 = .ok (.iconst 0, 1) := by decide +kernel
theorem dX4_findTwins_1 : decode cX4_findTwins 1 = .ok (.istore_n 2, 1) := by decide +kernel
theorem dX4_findTwins_2 : decode cX4_findTwins 2 = .ok (.iload_n 2, 1) := by decide +kernel
theorem dX4_findTwins_3 : decode cX4_findTwins 3 = .ok (.aload_n 1, 1) := by decide +kernel
theorem dX4_findTwins_4 : decode cX4_findTwins 4 = .ok (.getfield 58, 3) := by decide +kernel
theorem dX4_findTwins_7 : decode cX4_findTwins 7 = .ok (.if_icmp .ge 50, 3) := by decide +kernel
theorem dX4_findTwins_10 : decode cX4_findTwins 10 = .ok (.aload_n 0, 1) := by decide +kernel
theorem dX4_findTwins_11 : decode cX4_findTwins 11 = .ok (.getfield 27, 3) := by decide +kernel
theorem dX4_findTwins_14 : decode cX4_findTwins 14 = .ok (.iload_n 2, 1) := by decide +kernel
theorem dX4_findTwins_15 : decode cX4_findTwins 15 = .ok (.iconst 0, 1) := by decide +kernel
theorem dX4_findTwins_16 : decode cX4_findTwins 16 = .ok (.iastore, 1) := by decide +kernel
theorem dX4_findTwins_17 : decode cX4_findTwins 17 = .ok (.iconst 0, 1) := by decide +kernel
theorem dX4_findTwins_18 : decode cX4_findTwins 18 = .ok (.istore_n 3, 1) := by decide +kernel
theorem dX4_findTwins_19 : decode cX4_findTwins 19 = .ok (.iload_n 3, 1) := by decide +kernel
theorem dX4_findTwins_20 : decode cX4_findTwins 20 = .ok (.iload_n 2, 1) := by decide +kernel
theorem dX4_findTwins_21 : decode cX4_findTwins 21 = .ok (.if_icmp .ge 30, 3) := by decide +kernel
theorem dX4_findTwins_24 : decode cX4_findTwins 24 = .ok (.aload_n 1, 1) := by decide +kernel
theorem dX4_findTwins_25 : decode cX4_findTwins 25 = .ok (.iload_n 2, 1) := by decide +kernel
theorem dX4_findTwins_26 : decode cX4_findTwins 26 = .ok (.iload_n 3, 1) := by decide +kernel
theorem dX4_findTwins_27 : decode cX4_findTwins 27 = .ok (.invokestatic 65, 3) := by decide +kernel
theorem dX4_findTwins_30 : decode cX4_findTwins 30 = .ok (.ifCond .eq 15, 3) := by decide +kernel
theorem dX4_findTwins_33 : decode cX4_findTwins 33 = .ok (.aload_n 0, 1) := by decide +kernel
theorem dX4_findTwins_34 : decode cX4_findTwins 34 = .ok (.getfield 27, 3) := by decide +kernel
theorem dX4_findTwins_37 : decode cX4_findTwins 37 = .ok (.iload_n 2, 1) := by decide +kernel
theorem dX4_findTwins_38 : decode cX4_findTwins 38 = .ok (.dup2, 1) := by decide +kernel
theorem dX4_findTwins_39 : decode cX4_findTwins 39 = .ok (.iaload, 1) := by decide +kernel
theorem dX4_findTwins_40 : decode cX4_findTwins 40 = .ok (.iconst 1, 1) := by decide +kernel
theorem dX4_findTwins_41 : decode cX4_findTwins 41 = .ok (.iload_n 3, 1) := by decide +kernel
theorem dX4_findTwins_42 : decode cX4_findTwins 42 = .ok (.ishl, 1) := by decide +kernel
theorem dX4_findTwins_43 : decode cX4_findTwins 43 = .ok (.ior, 1) := by decide +kernel
theorem dX4_findTwins_44 : decode cX4_findTwins 44 = .ok (.iastore, 1) := by decide +kernel
theorem dX4_findTwins_45 : decode cX4_findTwins 45 = .ok (.iinc 3 1, 3) := by decide +kernel
theorem dX4_findTwins_48 : decode cX4_findTwins 48 = .ok (.goto (-29), 3) := by decide +kernel
theorem dX4_findTwins_51 : decode cX4_findTwins 51 = .ok (.iinc 2 1, 3) := by decide +kernel
theorem dX4_findTwins_54 : decode cX4_findTwins 54 = .ok (.goto (-52), 3) := by decide +kernel
theorem dX4_findTwins_57 : decode cX4_findTwins 57 = .ok (.return_, 1) := by decide +kernel
set_option maxRecDepth 20000 in
theorem ggX4_areTwins_X4_swapped : GoodIn wsX4_areTwins wsX4_swapped := goodIn_r _ [4] (by decide +kernel) (by decide +kernel)
set_option maxRecDepth 20000 in
theorem gX4_areTwins_X4_swapped : GoodIn wsX4_areTwins (va_wsS RX4 69 yX4_swapped wsX4_swapped) := goodIn_app (goodIn_of _ (by decide +kernel)) ggX4_areTwins_X4_swapped
set_option maxRecDepth 20000 in
theorem ggX4_areTwins_X7_turned : GoodIn wsX4_areTwins wsX7_turned := goodIn_r _ [9, 10, 11, 12] (by decide +kernel) (by decide +kernel)
set_option maxRecDepth 20000 in
theorem gX4_areTwins_X7_turned : GoodIn wsX4_areTwins (wsV RX4 61 RX7 yX7_turned wsX7_turned) := goodIn_app (goodIn_of _ (by decide +kernel)) ggX4_areTwins_X7_turned
theorem dX4_areTwins_0 : decode cX4_areTwins 0 = .ok (.iconst 0, 1) := by decide +kernel
theorem dX4_areTwins_1 : decode cX4_areTwins 1 = .ok (.istore_n 3, 1) := by decide +kernel
theorem dX4_areTwins_2 : decode cX4_areTwins 2 = .ok (.iload_n 3, 1) := by decide +kernel
theorem dX4_areTwins_3 : decode cX4_areTwins 3 = .ok (.aload_n 0, 1) := by decide +kernel
theorem dX4_areTwins_4 : decode cX4_areTwins 4 = .ok (.getfield 58, 3) := by decide +kernel
theorem dX4_areTwins_7 : decode cX4_areTwins 7 = .ok (.if_icmp .ge 65, 3) := by decide +kernel
theorem dX4_areTwins_10 : decode cX4_areTwins 10 = .ok (.iconst 0, 1) := by decide +kernel
theorem dX4_areTwins_11 : decode cX4_areTwins 11 = .ok (.istore 4, 2) := by decide +kernel
theorem dX4_areTwins_13 : decode cX4_areTwins 13 = .ok (.iload 4, 2) := by decide +kernel
theorem dX4_areTwins_15 : decode cX4_areTwins 15 = .ok (.aload_n 0, 1) := by decide +kernel
theorem dX4_areTwins_16 : decode cX4_areTwins 16 = .ok (.getfield 58, 3) := by decide +kernel
theorem dX4_areTwins_19 : decode cX4_areTwins 19 = .ok (.if_icmp .ge 47, 3) := by decide +kernel
theorem dX4_areTwins_22 : decode cX4_areTwins 22 = .ok (.aload_n 0, 1) := by decide +kernel
theorem dX4_areTwins_23 : decode cX4_areTwins 23 = .ok (.iload_n 3, 1) := by decide +kernel
theorem dX4_areTwins_24 : decode cX4_areTwins 24 = .ok (.iload_n 1, 1) := by decide +kernel
theorem dX4_areTwins_25 : decode cX4_areTwins 25 = .ok (.iload_n 2, 1) := by decide +kernel
theorem dX4_areTwins_26 : decode cX4_areTwins 26 = .ok (.invokestatic 69, 3) := by decide +kernel
theorem dX4_areTwins_29 : decode cX4_areTwins 29 = .ok (.iload 4, 2) := by decide +kernel
theorem dX4_areTwins_31 : decode cX4_areTwins 31 = .ok (.iload_n 1, 1) := by decide +kernel
theorem dX4_areTwins_32 : decode cX4_areTwins 32 = .ok (.iload_n 2, 1) := by decide +kernel
theorem dX4_areTwins_33 : decode cX4_areTwins 33 = .ok (.invokestatic 69, 3) := by decide +kernel
theorem dX4_areTwins_36 : decode cX4_areTwins 36 = .ok (.invokevirtual 61, 3) := by decide +kernel
theorem dX4_areTwins_39 : decode cX4_areTwins 39 = .ok (.istore 5, 2) := by decide +kernel
theorem dX4_areTwins_41 : decode cX4_areTwins 41 = .ok (.iload 5, 2) := by decide +kernel
theorem dX4_areTwins_43 : decode cX4_areTwins 43 = .ok (.aload_n 0, 1) := by decide +kernel
theorem dX4_areTwins_44 : decode cX4_areTwins 44 = .ok (.iload_n 3, 1) := by decide +kernel
theorem dX4_areTwins_45 : decode cX4_areTwins 45 = .ok (.iload 4, 2) := by decide +kernel
theorem dX4_areTwins_47 : decode cX4_areTwins 47 = .ok (.invokevirtual 61, 3) := by decide +kernel
theorem dX4_areTwins_50 : decode cX4_areTwins 50 = .ok (.iload_n 1, 1) := by decide +kernel
theorem dX4_areTwins_51 : decode cX4_areTwins 51 = .ok (.iload_n 2, 1) := by decide +kernel
theorem dX4_areTwins_52 : decode cX4_areTwins 52 = .ok (.invokestatic 69, 3) := by decide +kernel
theorem dX4_areTwins_55 : decode cX4_areTwins 55 = .ok (.if_icmp .eq 5, 3) := by decide +kernel
theorem dX4_areTwins_58 : decode cX4_areTwins 58 = .ok (.iconst 0, 1) := by decide +kernel
theorem dX4_areTwins_59 : decode cX4_areTwins 59 = .ok (.ireturn, 1) := by decide +kernel
theorem dX4_areTwins_60 : decode cX4_areTwins 60 = .ok (.iinc 4 1, 3) := by decide +kernel
theorem dX4_areTwins_63 : decode cX4_areTwins 63 = .ok (.goto (-50), 3) := by decide +kernel
theorem dX4_areTwins_66 : decode cX4_areTwins 66 = .ok (.iinc 3 1, 3) := by decide +kernel
theorem dX4_areTwins_69 : decode cX4_areTwins 69 = .ok (.goto (-67), 3) := by decide +kernel
theorem dX4_areTwins_72 : decode cX4_areTwins 72 = .ok (.iconst 1, 1) := by decide +kernel
theorem dX4_areTwins_73 : decode cX4_areTwins 73 = .ok (.ireturn, 1) := by decide +kernel
theorem dX4_swapped_0 : decode cX4_swapped 0 = .ok (.iload_n 0, 1) := by decide +kernel
theorem dX4_swapped_1 : decode cX4_swapped 1 = .ok (.iload_n 1, 1) := by decide +kernel
theorem dX4_swapped_2 : decode cX4_swapped 2 = .ok (.if_icmp .ne 5, 3) := by decide +kernel
theorem dX4_swapped_5 : decode cX4_swapped 5 = .ok (.iload_n 2, 1) := by decide +kernel
theorem dX4_swapped_6 : decode cX4_swapped 6 = .ok (.ireturn, 1) := by decide +kernel
theorem dX4_swapped_7 : decode cX4_swapped 7 = .ok (.iload_n 0, 1) := by decide +kernel
theorem dX4_swapped_8 : decode cX4_swapped 8 = .ok (.iload_n 2, 1) := by decide +kernel
theorem dX4_swapped_9 : decode cX4_swapped 9 = .ok (.if_icmp .ne 7, 3) := by decide +kernel
theorem dX4_swapped_12 : decode cX4_swapped 12 = .ok (.iload_n 1, 1) := by decide +kernel
theorem dX4_swapped_13 : decode cX4_swapped 13 = .ok (.goto 4, 3) := by decide +kernel
theorem dX4_swapped_16 : decode cX4_swapped 16 = .ok (.iload_n 0, 1) := by decide +kernel
theorem dX4_swapped_17 : decode cX4_swapped 17 = .ok (.ireturn, 1) := by decide +kernel
set_option maxRecDepth 20000 in
theorem ggX4_nameColumn_X4_isLess : GoodIn wsX4_nameColumn wsX4_isLess := goodIn_r _ [7, 2, 8, 9, 10, 11, 12, 13, 14, 15, 55, 56, 49, 50, 51, 52, 53, 54] (by decide +kernel) (by decide +kernel)
set_option maxRecDepth 20000 in
theorem gX4_nameColumn_X4_isLess : GoodIn wsX4_nameColumn (wsV RX4 73 RX4 yX4_isLess wsX4_isLess) := goodIn_app (goodIn_of _ (by decide +kernel)) ggX4_nameColumn_X4_isLess
set_option maxRecDepth 20000 in
theorem ggX4_nameColumn_X4_makeBest : GoodIn wsX4_nameColumn wsX4_makeBest := goodIn_r _ [19, 9, 2, 8, 10, 11, 12, 13, 14, 15, 20, 21, 22, 23, 55, 56, 49, 50, 51, 52, 53, 54] (by decide +kernel) (by decide +kernel)
set_option maxRecDepth 20000 in
theorem gX4_nameColumn_X4_makeBest : GoodIn wsX4_nameColumn (wsV RX4 76 RX4 yX4_makeBest wsX4_makeBest) := goodIn_app (goodIn_of _ (by decide +kernel)) ggX4_nameColumn_X4_makeBest
set_option maxRecDepth 20000 in
theorem ggX4_nameColumn_X4_goThrough : GoodIn wsX4_nameColumn wsX4_goThrough := goodIn_r _ [40, 8, 2, 41, 10, 11, 12, 13, 14, 15, 32, 33, 34, 6, 35, 1, 42, 43, 44, 45, 9, 46, 47, 48, 36, 37, 38, 39, 0, 3, 4, 5, 7, 16, 17, 18, 19, 20, 21, 22, 23, 24, 25, 26, 27, 28, 29, 30, 31, 49, 50, 51, 52, 53, 54, 55, 56] (by decide +kernel) (by decide +kernel)
set_option maxRecDepth 20000 in
theorem gX4_nameColumn_X4_goThrough : GoodIn wsX4_nameColumn (wsV RX4 79 RX4 yX4_goThrough wsX4_goThrough) := goodIn_app (goodIn_of _ (by decide +kernel)) ggX4_nameColumn_X4_goThrough
set_option maxRecDepth 20000 in
theorem ggX4_nameColumn_X4_hasOpenTwin : GoodIn wsX4_nameColumn wsX4_hasOpenTwin := goodIn_r _ [30, 31, 2, 49, 50, 51, 52, 53, 54] (by decide +kernel) (by decide +kernel)
set_option maxRecDepth 20000 in
theorem gX4_nameColumn_X4_hasOpenTwin : GoodIn wsX4_nameColumn (wsV RX4 82 RX4 yX4_hasOpenTwin wsX4_hasOpenTwin) := goodIn_app (goodIn_of _ (by decide +kernel)) ggX4_nameColumn_X4_hasOpenTwin
set_option maxRecDepth 20000 in
theorem ggX4_nameColumn_X4_give : GoodIn wsX4_nameColumn wsX4_give := goodIn_r _ [35, 8, 1, 2, 49, 50, 51, 52, 53, 54] (by decide +kernel) (by decide +kernel)
set_option maxRecDepth 20000 in
theorem gX4_nameColumn_X4_give : GoodIn wsX4_nameColumn (wsV RX4 86 RX4 yX4_give wsX4_give) := goodIn_app (goodIn_of _ (by decide +kernel)) ggX4_nameColumn_X4_give
set_option maxRecDepth 20000 in
theorem ggX4_nameColumn_X4_takeBack : GoodIn wsX4_nameColumn wsX4_takeBack := goodIn_r _ [39, 1, 2, 49, 50, 51, 52, 53, 54] (by decide +kernel) (by decide +kernel)
set_option maxRecDepth 20000 in
theorem gX4_nameColumn_X4_takeBack : GoodIn wsX4_nameColumn (wsV RX4 89 RX4 yX4_takeBack wsX4_takeBack) := goodIn_app (goodIn_of _ (by decide +kernel)) ggX4_nameColumn_X4_takeBack
theorem dX4_nameColumn_0 : decode cX4_nameColumn 0 = .ok (.iload_n 2, 1) := by decide +kernel
theorem dX4_nameColumn_1 : decode cX4_nameColumn 1 = .ok (.aload_n 1, 1) := by decide +kernel
theorem dX4_nameColumn_2 : decode cX4_nameColumn 2 = .ok (.getfield 58, 3) := by decide +kernel
theorem dX4_nameColumn_5 : decode cX4_nameColumn 5 = .ok (.if_icmp .lt 17, 3) := by decide +kernel
theorem dX4_nameColumn_8 : decode cX4_nameColumn 8 = .ok (.aload_n 0, 1) := by decide +kernel
theorem dX4_nameColumn_9 : decode cX4_nameColumn 9 = .ok (.aload_n 1, 1) := by decide +kernel
theorem dX4_nameColumn_10 : decode cX4_nameColumn 10 = .ok (.invokevirtual 73, 3) := by decide +kernel
theorem dX4_nameColumn_13 : decode cX4_nameColumn 13 = .ok (.ifCond .eq 8, 3) := by decide +kernel
theorem dX4_nameColumn_16 : decode cX4_nameColumn 16 = .ok (.aload_n 0, 1) := by decide +kernel
theorem dX4_nameColumn_17 : decode cX4_nameColumn 17 = .ok (.aload_n 1, 1) := by decide +kernel
theorem dX4_nameColumn_18 : decode cX4_nameColumn 18 = .ok (.invokevirtual 76, 3) := by decide +kernel
theorem dX4_nameColumn_21 : decode cX4_nameColumn 21 = .ok (.return_, 1) := by decide +kernel
theorem dX4_nameColumn_22 : decode cX4_nameColumn 22 = .ok (.aload_n 0, 1) := by decide +kernel
theorem dX4_nameColumn_23 : decode cX4_nameColumn 23 = .ok (.getfield 33, 3) := by decide +kernel
theorem dX4_nameColumn_26 : decode cX4_nameColumn 26 = .ok (.iload_n 2, 1) := by decide +kernel
theorem dX4_nameColumn_27 : decode cX4_nameColumn 27 = .ok (.if_icmp .le 10, 3) := by decide +kernel
theorem dX4_nameColumn_30 : decode cX4_nameColumn 30 = .ok (.aload_n 0, 1) := by decide +kernel
theorem dX4_nameColumn_31 : decode cX4_nameColumn 31 = .ok (.aload_n 1, 1) := by decide +kernel
theorem dX4_nameColumn_32 : decode cX4_nameColumn 32 = .ok (.iload_n 2, 1) := by decide +kernel
theorem dX4_nameColumn_33 : decode cX4_nameColumn 33 = .ok (.invokevirtual 79, 3) := by decide +kernel
theorem dX4_nameColumn_36 : decode cX4_nameColumn 36 = .ok (.return_, 1) := by decide +kernel
theorem dX4_nameColumn_37 : decode cX4_nameColumn 37 = .ok (.iconst 0, 1) := by decide +kernel
theorem dX4_nameColumn_38 : decode cX4_nameColumn 38 = .ok (.istore_n 3, 1) := by decide +kernel
theorem dX4_nameColumn_39 : decode cX4_nameColumn 39 = .ok (.iload_n 3, 1) := by decide +kernel
theorem dX4_nameColumn_40 : decode cX4_nameColumn 40 = .ok (.aload_n 1, 1) := by decide +kernel
theorem dX4_nameColumn_41 : decode cX4_nameColumn 41 = .ok (.getfield 58, 3) := by decide +kernel
theorem dX4_nameColumn_44 : decode cX4_nameColumn 44 = .ok (.if_icmp .ge 47, 3) := by decide +kernel
theorem dX4_nameColumn_47 : decode cX4_nameColumn 47 = .ok (.aload_n 0, 1) := by decide +kernel
theorem dX4_nameColumn_48 : decode cX4_nameColumn 48 = .ok (.getfield 24, 3) := by decide +kernel
theorem dX4_nameColumn_51 : decode cX4_nameColumn 51 = .ok (.iload_n 3, 1) := by decide +kernel
theorem dX4_nameColumn_52 : decode cX4_nameColumn 52 = .ok (.iaload, 1) := by decide +kernel
theorem dX4_nameColumn_53 : decode cX4_nameColumn 53 = .ok (.iconst (-1), 1) := by decide +kernel
theorem dX4_nameColumn_54 : decode cX4_nameColumn 54 = .ok (.if_icmp .ne 31, 3) := by decide +kernel
theorem dX4_nameColumn_57 : decode cX4_nameColumn 57 = .ok (.aload_n 0, 1) := by decide +kernel
theorem dX4_nameColumn_58 : decode cX4_nameColumn 58 = .ok (.aload_n 1, 1) := by decide +kernel
theorem dX4_nameColumn_59 : decode cX4_nameColumn 59 = .ok (.getfield 58, 3) := by decide +kernel
theorem dX4_nameColumn_62 : decode cX4_nameColumn 62 = .ok (.iload_n 3, 1) := by decide +kernel
theorem dX4_nameColumn_63 : decode cX4_nameColumn 63 = .ok (.invokevirtual 82, 3) := by decide +kernel
theorem dX4_nameColumn_66 : decode cX4_nameColumn 66 = .ok (.ifCond .ne 19, 3) := by decide +kernel
theorem dX4_nameColumn_69 : decode cX4_nameColumn 69 = .ok (.aload_n 0, 1) := by decide +kernel
theorem dX4_nameColumn_70 : decode cX4_nameColumn 70 = .ok (.iload_n 3, 1) := by decide +kernel
theorem dX4_nameColumn_71 : decode cX4_nameColumn 71 = .ok (.invokevirtual 86, 3) := by decide +kernel
theorem dX4_nameColumn_74 : decode cX4_nameColumn 74 = .ok (.aload_n 0, 1) := by decide +kernel
theorem dX4_nameColumn_75 : decode cX4_nameColumn 75 = .ok (.aload_n 1, 1) := by decide +kernel
theorem dX4_nameColumn_76 : decode cX4_nameColumn 76 = .ok (.iload_n 2, 1) := by decide +kernel
theorem dX4_nameColumn_77 : decode cX4_nameColumn 77 = .ok (.invokevirtual 79, 3) := by decide +kernel
theorem dX4_nameColumn_80 : decode cX4_nameColumn 80 = .ok (.aload_n 0, 1) := by decide +kernel
theorem dX4_nameColumn_81 : decode cX4_nameColumn 81 = .ok (.iload_n 3, 1) := by decide +kernel
theorem dX4_nameColumn_82 : decode cX4_nameColumn 82 = .ok (.invokevirtual 89, 3) := by decide +kernel
theorem dX4_nameColumn_85 : decode cX4_nameColumn 85 = .ok (.iinc 3 1, 3) := by decide +kernel
theorem dX4_nameColumn_88 : decode cX4_nameColumn 88 = .ok (.goto (-49), 3) := by decide +kernel
theorem dX4_nameColumn_91 : decode cX4_nameColumn 91 = .ok (.return_, 1) := by decide +kernel
theorem dX4_hasOpenTwin_0 : decode cX4_hasOpenTwin 0 = .ok (.iconst 0, 1) := by decide +kernel
theorem dX4_hasOpenTwin_1 : decode cX4_hasOpenTwin 1 = .ok (.istore_n 3, 1) := by decide +kernel
theorem dX4_hasOpenTwin_2 : decode cX4_hasOpenTwin 2 = .ok (.iload_n 3, 1) := by decide +kernel
theorem dX4_hasOpenTwin_3 : decode cX4_hasOpenTwin 3 = .ok (.iload_n 2, 1) := by decide +kernel
theorem dX4_hasOpenTwin_4 : decode cX4_hasOpenTwin 4 = .ok (.if_icmp .ge 40, 3) := by decide +kernel
theorem dX4_hasOpenTwin_7 : decode cX4_hasOpenTwin 7 = .ok (.iload_n 3, 1) := by decide +kernel
theorem dX4_hasOpenTwin_8 : decode cX4_hasOpenTwin 8 = .ok (.iload_n 1, 1) := by decide +kernel
theorem dX4_hasOpenTwin_9 : decode cX4_hasOpenTwin 9 = .ok (.if_icmp .ge 35, 3) := by decide +kernel
theorem dX4_hasOpenTwin_12 : decode cX4_hasOpenTwin 12 = .ok (.aload_n 0, 1) := by decide +kernel
theorem dX4_hasOpenTwin_13 : decode cX4_hasOpenTwin 13 = .ok (.getfield 27, 3) := by decide +kernel
theorem dX4_hasOpenTwin_16 : decode cX4_hasOpenTwin 16 = .ok (.iload_n 2, 1) := by decide +kernel
theorem dX4_hasOpenTwin_17 : decode cX4_hasOpenTwin 17 = .ok (.iaload, 1) := by decide +kernel
theorem dX4_hasOpenTwin_18 : decode cX4_hasOpenTwin 18 = .ok (.iload_n 3, 1) := by decide +kernel
theorem dX4_hasOpenTwin_19 : decode cX4_hasOpenTwin 19 = .ok (.ishr, 1) := by decide +kernel
theorem dX4_hasOpenTwin_20 : decode cX4_hasOpenTwin 20 = .ok (.iconst 1, 1) := by decide +kernel
theorem dX4_hasOpenTwin_21 : decode cX4_hasOpenTwin 21 = .ok (.iand, 1) := by decide +kernel
theorem dX4_hasOpenTwin_22 : decode cX4_hasOpenTwin 22 = .ok (.iconst 1, 1) := by decide +kernel
theorem dX4_hasOpenTwin_23 : decode cX4_hasOpenTwin 23 = .ok (.if_icmp .ne 15, 3) := by decide +kernel
theorem dX4_hasOpenTwin_26 : decode cX4_hasOpenTwin 26 = .ok (.aload_n 0, 1) := by decide +kernel
theorem dX4_hasOpenTwin_27 : decode cX4_hasOpenTwin 27 = .ok (.getfield 24, 3) := by decide +kernel
theorem dX4_hasOpenTwin_30 : decode cX4_hasOpenTwin 30 = .ok (.iload_n 3, 1) := by decide +kernel
theorem dX4_hasOpenTwin_31 : decode cX4_hasOpenTwin 31 = .ok (.iaload, 1) := by decide +kernel
theorem dX4_hasOpenTwin_32 : decode cX4_hasOpenTwin 32 = .ok (.iconst (-1), 1) := by decide +kernel
theorem dX4_hasOpenTwin_33 : decode cX4_hasOpenTwin 33 = .ok (.if_icmp .ne 5, 3) := by decide +kernel
theorem dX4_hasOpenTwin_36 : decode cX4_hasOpenTwin 36 = .ok (.iconst 1, 1) := by decide +kernel
theorem dX4_hasOpenTwin_37 : decode cX4_hasOpenTwin 37 = .ok (.ireturn, 1) := by decide +kernel
theorem dX4_hasOpenTwin_38 : decode cX4_hasOpenTwin 38 = .ok (.iinc 3 1, 3) := by decide +kernel
theorem dX4_hasOpenTwin_41 : decode cX4_hasOpenTwin 41 = .ok (.goto (-39), 3) := by decide +kernel
theorem dX4_hasOpenTwin_44 : decode cX4_hasOpenTwin 44 = .ok (.iconst 0, 1) := by decide +kernel
theorem dX4_hasOpenTwin_45 : decode cX4_hasOpenTwin 45 = .ok (.ireturn, 1) := by decide +kernel
set_option maxRecDepth 20000 in
theorem ggX4_goThrough_X7_turned : GoodIn wsX4_goThrough wsX7_turned := goodIn_r _ [8, 9, 55, 56] (by decide +kernel) (by decide +kernel)
set_option maxRecDepth 20000 in
theorem gX4_goThrough_X7_turned : GoodIn wsX4_goThrough (wsV RX4 61 RX7 yX7_turned wsX7_turned) := goodIn_app (goodIn_of _ (by decide +kernel)) ggX4_goThrough_X7_turned
set_option maxRecDepth 20000 in
theorem ggX4_goThrough_X4_give : GoodIn wsX4_goThrough wsX4_give := goodIn_r _ [14, 1, 15, 2, 49, 50, 51, 52, 53, 54] (by decide +kernel) (by decide +kernel)
set_option maxRecDepth 20000 in
theorem gX4_goThrough_X4_give : GoodIn wsX4_goThrough (wsV RX4 86 RX4 yX4_give wsX4_give) := goodIn_app (goodIn_of _ (by decide +kernel)) ggX4_goThrough_X4_give
set_option maxRecDepth 20000 in
theorem ggX4_goThrough_X4_isAboveBest : GoodIn wsX4_goThrough wsX4_isAboveBest := goodIn_r _ [19, 3, 20, 4, 5, 6, 7, 8, 9, 49, 50, 51, 52, 53, 54, 55, 56] (by decide +kernel) (by decide +kernel)
set_option maxRecDepth 20000 in
theorem gX4_goThrough_X4_isAboveBest : GoodIn wsX4_goThrough (wsV RX4 92 RX4 yX4_isAboveBest wsX4_isAboveBest) := goodIn_app (goodIn_of _ (by decide +kernel)) ggX4_goThrough_X4_isAboveBest
set_option maxRecDepth 20000 in
theorem ggX4_goThrough_X4_nameColumn : GoodIn wsX4_goThrough wsX4_nameColumn := goodIn_r _ [28, 15, 2, 29, 30, 31, 13, 32, 1, 20, 4, 5, 6, 7, 8, 9, 33, 34, 35, 36, 37, 38, 39, 40, 41, 42, 43, 44, 45, 46, 47, 48, 10, 11, 12, 14, 24, 25, 26, 27, 0, 3, 16, 17, 18, 19, 21, 22, 23, 49, 50, 51, 52, 53, 54, 55, 56] (by decide +kernel) (by decide +kernel)
set_option maxRecDepth 20000 in
theorem gX4_goThrough_X4_nameColumn : GoodIn wsX4_goThrough (wsV RX4 50 RX4 yX4_nameColumn wsX4_nameColumn) := goodIn_app (goodIn_of _ (by decide +kernel)) ggX4_goThrough_X4_nameColumn
set_option maxRecDepth 20000 in
theorem ggX4_goThrough_X4_takeBack : GoodIn wsX4_goThrough wsX4_takeBack := goodIn_r _ [27, 15, 2, 49, 50, 51, 52, 53, 54] (by decide +kernel) (by decide +kernel)
set_option maxRecDepth 20000 in
theorem gX4_goThrough_X4_takeBack : GoodIn wsX4_goThrough (wsV RX4 89 RX4 yX4_takeBack wsX4_takeBack) := goodIn_app (goodIn_of _ (by decide +kernel)) ggX4_goThrough_X4_takeBack
theorem dX4_goThrough_0 : decode cX4_goThrough 0 = .ok (.aload_n 1, 1) := by decide +kernel
theorem dX4_goThrough_1 : decode cX4_goThrough 1 = .ok (.aload_n 0, 1) := by decide +kernel
theorem dX4_goThrough_2 : decode cX4_goThrough 2 = .ok (.getfield 20, 3) := by decide +kernel
theorem dX4_goThrough_5 : decode cX4_goThrough 5 = .ok (.iconst 0, 1) := by decide +kernel
theorem dX4_goThrough_6 : decode cX4_goThrough 6 = .ok (.iaload, 1) := by decide +kernel
theorem dX4_goThrough_7 : decode cX4_goThrough 7 = .ok (.aload_n 0, 1) := by decide +kernel
theorem dX4_goThrough_8 : decode cX4_goThrough 8 = .ok (.getfield 20, 3) := by decide +kernel
theorem dX4_goThrough_11 : decode cX4_goThrough 11 = .ok (.iload_n 2, 1) := by decide +kernel
theorem dX4_goThrough_12 : decode cX4_goThrough 12 = .ok (.iaload, 1) := by decide +kernel
theorem dX4_goThrough_13 : decode cX4_goThrough 13 = .ok (.invokevirtual 61, 3) := by decide +kernel
theorem dX4_goThrough_16 : decode cX4_goThrough 16 = .ok (.istore_n 3, 1) := by decide +kernel
theorem dX4_goThrough_17 : decode cX4_goThrough 17 = .ok (.aload_n 0, 1) := by decide +kernel
theorem dX4_goThrough_18 : decode cX4_goThrough 18 = .ok (.getfield 24, 3) := by decide +kernel
theorem dX4_goThrough_21 : decode cX4_goThrough 21 = .ok (.iload_n 3, 1) := by decide +kernel
theorem dX4_goThrough_22 : decode cX4_goThrough 22 = .ok (.iaload, 1) := by decide +kernel
theorem dX4_goThrough_23 : decode cX4_goThrough 23 = .ok (.iconst (-1), 1) := by decide +kernel
theorem dX4_goThrough_24 : decode cX4_goThrough 24 = .ok (.if_icmp .ne 7, 3) := by decide +kernel
theorem dX4_goThrough_27 : decode cX4_goThrough 27 = .ok (.iconst 1, 1) := by decide +kernel
theorem dX4_goThrough_28 : decode cX4_goThrough 28 = .ok (.goto 4, 3) := by decide +kernel
theorem dX4_goThrough_31 : decode cX4_goThrough 31 = .ok (.iconst 0, 1) := by decide +kernel
theorem dX4_goThrough_32 : decode cX4_goThrough 32 = .ok (.istore 4, 2) := by decide +kernel
theorem dX4_goThrough_34 : decode cX4_goThrough 34 = .ok (.iload 4, 2) := by decide +kernel
theorem dX4_goThrough_36 : decode cX4_goThrough 36 = .ok (.ifCond .eq 8, 3) := by decide +kernel
theorem dX4_goThrough_39 : decode cX4_goThrough 39 = .ok (.aload_n 0, 1) := by decide +kernel
theorem dX4_goThrough_40 : decode cX4_goThrough 40 = .ok (.iload_n 3, 1) := by decide +kernel
theorem dX4_goThrough_41 : decode cX4_goThrough 41 = .ok (.invokevirtual 86, 3) := by decide +kernel
theorem dX4_goThrough_44 : decode cX4_goThrough 44 = .ok (.aload_n 0, 1) := by decide +kernel
theorem dX4_goThrough_45 : decode cX4_goThrough 45 = .ok (.getfield 30, 3) := by decide +kernel
theorem dX4_goThrough_48 : decode cX4_goThrough 48 = .ok (.iload_n 2, 1) := by decide +kernel
theorem dX4_goThrough_49 : decode cX4_goThrough 49 = .ok (.aload_n 0, 1) := by decide +kernel
theorem dX4_goThrough_50 : decode cX4_goThrough 50 = .ok (.getfield 24, 3) := by decide +kernel
theorem dX4_goThrough_53 : decode cX4_goThrough 53 = .ok (.iload_n 3, 1) := by decide +kernel
theorem dX4_goThrough_54 : decode cX4_goThrough 54 = .ok (.iaload, 1) := by decide +kernel
theorem dX4_goThrough_55 : decode cX4_goThrough 55 = .ok (.iastore, 1) := by decide +kernel
theorem dX4_goThrough_56 : decode cX4_goThrough 56 = .ok (.aload_n 0, 1) := by decide +kernel
theorem dX4_goThrough_57 : decode cX4_goThrough 57 = .ok (.iload_n 2, 1) := by decide +kernel
theorem dX4_goThrough_58 : decode cX4_goThrough 58 = .ok (.invokevirtual 92, 3) := by decide +kernel
theorem dX4_goThrough_61 : decode cX4_goThrough 61 = .ok (.ifCond .ne 11, 3) := by decide +kernel
theorem dX4_goThrough_64 : decode cX4_goThrough 64 = .ok (.aload_n 0, 1) := by decide +kernel
theorem dX4_goThrough_65 : decode cX4_goThrough 65 = .ok (.aload_n 1, 1) := by decide +kernel
theorem dX4_goThrough_66 : decode cX4_goThrough 66 = .ok (.iload_n 2, 1) := by decide +kernel
theorem dX4_goThrough_67 : decode cX4_goThrough 67 = .ok (.iconst 1, 1) := by decide +kernel
theorem dX4_goThrough_68 : decode cX4_goThrough 68 = .ok (.iadd, 1) := by decide +kernel
theorem dX4_goThrough_69 : decode cX4_goThrough 69 = .ok (.invokevirtual 50, 3) := by decide +kernel
theorem dX4_goThrough_72 : decode cX4_goThrough 72 = .ok (.iload 4, 2) := by decide +kernel
theorem dX4_goThrough_74 : decode cX4_goThrough 74 = .ok (.ifCond .eq 8, 3) := by decide +kernel
theorem dX4_goThrough_77 : decode cX4_goThrough 77 = .ok (.aload_n 0, 1) := by decide +kernel
theorem dX4_goThrough_78 : decode cX4_goThrough 78 = .ok (.iload_n 3, 1) := by decide +kernel
theorem dX4_goThrough_79 : decode cX4_goThrough 79 = .ok (.invokevirtual 89, 3) := by decide +kernel
theorem dX4_goThrough_82 : decode cX4_goThrough 82 = .ok (.return_, 1) := by decide +kernel
theorem dX4_give_0 : decode cX4_give 0 = .ok (.aload_n 0, 1) := by decide +kernel
theorem dX4_give_1 : decode cX4_give 1 = .ok (.getfield 20, 3) := by decide +kernel
theorem dX4_give_4 : decode cX4_give 4 = .ok (.aload_n 0, 1) := by decide +kernel
theorem dX4_give_5 : decode cX4_give 5 = .ok (.getfield 33, 3) := by decide +kernel
theorem dX4_give_8 : decode cX4_give 8 = .ok (.iload_n 1, 1) := by decide +kernel
theorem dX4_give_9 : decode cX4_give 9 = .ok (.iastore, 1) := by decide +kernel
theorem dX4_give_10 : decode cX4_give 10 = .ok (.aload_n 0, 1) := by decide +kernel
theorem dX4_give_11 : decode cX4_give 11 = .ok (.getfield 24, 3) := by decide +kernel
theorem dX4_give_14 : decode cX4_give 14 = .ok (.iload_n 1, 1) := by decide +kernel
theorem dX4_give_15 : decode cX4_give 15 = .ok (.aload_n 0, 1) := by decide +kernel
theorem dX4_give_16 : decode cX4_give 16 = .ok (.getfield 33, 3) := by decide +kernel
theorem dX4_give_19 : decode cX4_give 19 = .ok (.iastore, 1) := by decide +kernel
theorem dX4_give_20 : decode cX4_give 20 = .ok (.aload_n 0, 1) := by decide +kernel
theorem dX4_give_21 : decode cX4_give 21 = .ok (.dup, 1) := by decide +kernel
theorem dX4_give_22 : decode cX4_give 22 = .ok (.getfield 33, 3) := by decide +kernel
theorem dX4_give_25 : decode cX4_give 25 = .ok (.iconst 1, 1) := by decide +kernel
theorem dX4_give_26 : decode cX4_give 26 = .ok (.iadd, 1) := by decide +kernel
theorem dX4_give_27 : decode cX4_give 27 = .ok (.putfield 33, 3) := by decide +kernel
theorem dX4_give_30 : decode cX4_give 30 = .ok (.return_, 1) := by decide +kernel
theorem dX4_takeBack_0 : decode cX4_takeBack 0 = .ok (.aload_n 0, 1) := by decide +kernel
theorem dX4_takeBack_1 : decode cX4_takeBack 1 = .ok (.dup, 1) := by decide +kernel
theorem dX4_takeBack_2 : decode cX4_takeBack 2 = .ok (.getfield 33, 3) := by decide +kernel
theorem dX4_takeBack_5 : decode cX4_takeBack 5 = .ok (.iconst 1, 1) := by decide +kernel
theorem dX4_takeBack_6 : decode cX4_takeBack 6 = .ok (.isub, 1) := by decide +kernel
theorem dX4_takeBack_7 : decode cX4_takeBack 7 = .ok (.putfield 33, 3) := by decide +kernel
theorem dX4_takeBack_10 : decode cX4_takeBack 10 = .ok (.aload_n 0, 1) := by decide +kernel
theorem dX4_takeBack_11 : decode cX4_takeBack 11 = .ok (.getfield 24, 3) := by decide +kernel
theorem dX4_takeBack_14 : decode cX4_takeBack 14 = .ok (.iload_n 1, 1) := by decide +kernel
theorem dX4_takeBack_15 : decode cX4_takeBack 15 = .ok (.iconst (-1), 1) := by decide +kernel
theorem dX4_takeBack_16 : decode cX4_takeBack 16 = .ok (.iastore, 1) := by decide +kernel
theorem dX4_takeBack_17 : decode cX4_takeBack 17 = .ok (.return_, 1) := by decide +kernel
set_option maxRecDepth 20000 in
theorem ggX4_isAboveBest_X7_turned : GoodIn wsX4_isAboveBest wsX7_turned := goodIn_r _ [7, 8, 15, 16] (by decide +kernel) (by decide +kernel)
set_option maxRecDepth 20000 in
theorem gX4_isAboveBest_X7_turned : GoodIn wsX4_isAboveBest (wsV RX4 61 RX7 yX7_turned wsX7_turned) := goodIn_app (goodIn_of _ (by decide +kernel)) ggX4_isAboveBest_X7_turned
theorem dX4_isAboveBest_0 : decode cX4_isAboveBest 0 = .ok (.iconst 0, 1) := by decide +kernel
theorem dX4_isAboveBest_1 : decode cX4_isAboveBest 1 = .ok (.istore_n 2, 1) := by decide +kernel
theorem dX4_isAboveBest_2 : decode cX4_isAboveBest 2 = .ok (.iload_n 2, 1) := by decide +kernel
theorem dX4_isAboveBest_3 : decode cX4_isAboveBest 3 = .ok (.iload_n 1, 1) := by decide +kernel
theorem dX4_isAboveBest_4 : decode cX4_isAboveBest 4 = .ok (.if_icmp .gt 51, 3) := by decide +kernel
theorem dX4_isAboveBest_7 : decode cX4_isAboveBest 7 = .ok (.aload_n 0, 1) := by decide +kernel
theorem dX4_isAboveBest_8 : decode cX4_isAboveBest 8 = .ok (.getfield 30, 3) := by decide +kernel
theorem dX4_isAboveBest_11 : decode cX4_isAboveBest 11 = .ok (.iload_n 2, 1) := by decide +kernel
theorem dX4_isAboveBest_12 : decode cX4_isAboveBest 12 = .ok (.iaload, 1) := by decide +kernel
theorem dX4_isAboveBest_13 : decode cX4_isAboveBest 13 = .ok (.aload_n 0, 1) := by decide +kernel
theorem dX4_isAboveBest_14 : decode cX4_isAboveBest 14 = .ok (.getfield 14, 3) := by decide +kernel
theorem dX4_isAboveBest_17 : decode cX4_isAboveBest 17 = .ok (.iconst 0, 1) := by decide +kernel
theorem dX4_isAboveBest_18 : decode cX4_isAboveBest 18 = .ok (.iload_n 2, 1) := by decide +kernel
theorem dX4_isAboveBest_19 : decode cX4_isAboveBest 19 = .ok (.invokevirtual 61, 3) := by decide +kernel
theorem dX4_isAboveBest_22 : decode cX4_isAboveBest 22 = .ok (.if_icmp .eq 27, 3) := by decide +kernel
theorem dX4_isAboveBest_25 : decode cX4_isAboveBest 25 = .ok (.aload_n 0, 1) := by decide +kernel
theorem dX4_isAboveBest_26 : decode cX4_isAboveBest 26 = .ok (.getfield 30, 3) := by decide +kernel
theorem dX4_isAboveBest_29 : decode cX4_isAboveBest 29 = .ok (.iload_n 2, 1) := by decide +kernel
theorem dX4_isAboveBest_30 : decode cX4_isAboveBest 30 = .ok (.iaload, 1) := by decide +kernel
theorem dX4_isAboveBest_31 : decode cX4_isAboveBest 31 = .ok (.aload_n 0, 1) := by decide +kernel
theorem dX4_isAboveBest_32 : decode cX4_isAboveBest 32 = .ok (.getfield 14, 3) := by decide +kernel
theorem dX4_isAboveBest_35 : decode cX4_isAboveBest 35 = .ok (.iconst 0, 1) := by decide +kernel
theorem dX4_isAboveBest_36 : decode cX4_isAboveBest 36 = .ok (.iload_n 2, 1) := by decide +kernel
theorem dX4_isAboveBest_37 : decode cX4_isAboveBest 37 = .ok (.invokevirtual 61, 3) := by decide +kernel
theorem dX4_isAboveBest_40 : decode cX4_isAboveBest 40 = .ok (.if_icmp .le 7, 3) := by decide +kernel
theorem dX4_isAboveBest_43 : decode cX4_isAboveBest 43 = .ok (.iconst 1, 1) := by decide +kernel
theorem dX4_isAboveBest_44 : decode cX4_isAboveBest 44 = .ok (.goto 4, 3) := by decide +kernel
theorem dX4_isAboveBest_47 : decode cX4_isAboveBest 47 = .ok (.iconst 0, 1) := by decide +kernel
theorem dX4_isAboveBest_48 : decode cX4_isAboveBest 48 = .ok (.ireturn, 1) := by decide +kernel
theorem dX4_isAboveBest_49 : decode cX4_isAboveBest 49 = .ok (.iinc 2 1, 3) := by decide +kernel
theorem dX4_isAboveBest_52 : decode cX4_isAboveBest 52 = .ok (.goto (-50), 3) := by decide +kernel
theorem dX4_isAboveBest_55 : decode cX4_isAboveBest 55 = .ok (.iconst 0, 1) := by decide +kernel
theorem dX4_isAboveBest_56 : decode cX4_isAboveBest 56 = .ok (.ireturn, 1) := by decide +kernel
set_option maxRecDepth 20000 in
theorem ggX4_makeBest_X7_turned : GoodIn wsX4_makeBest wsX7_turned := goodIn_r _ [8, 9, 14, 15] (by decide +kernel) (by decide +kernel)
set_option maxRecDepth 20000 in
theorem gX4_makeBest_X7_turned : GoodIn wsX4_makeBest (wsV RX4 61 RX7 yX7_turned wsX7_turned) := goodIn_app (goodIn_of _ (by decide +kernel)) ggX4_makeBest_X7_turned
set_option maxRecDepth 20000 in
theorem ggX4_makeBest_X7_put : GoodIn wsX4_makeBest wsX7_put := goodIn_r _ [13, 9, 14, 15] (by decide +kernel) (by decide +kernel)
set_option maxRecDepth 20000 in
theorem gX4_makeBest_X7_put : GoodIn wsX4_makeBest (wsV RX4 96 RX7 yX7_put wsX7_put) := goodIn_app (goodIn_of _ (by decide +kernel)) ggX4_makeBest_X7_put
theorem dX4_makeBest_0 : decode cX4_makeBest 0 = .ok (.iconst 0, 1) := by decide +kernel
theorem dX4_makeBest_1 : decode cX4_makeBest 1 = .ok (.istore_n 2, 1) := by decide +kernel
theorem dX4_makeBest_2 : decode cX4_makeBest 2 = .ok (.iload_n 2, 1) := by decide +kernel
theorem dX4_makeBest_3 : decode cX4_makeBest 3 = .ok (.aload_n 1, 1) := by decide +kernel
theorem dX4_makeBest_4 : decode cX4_makeBest 4 = .ok (.getfield 58, 3) := by decide +kernel
theorem dX4_makeBest_7 : decode cX4_makeBest 7 = .ok (.if_icmp .ge 55, 3) := by decide +kernel
theorem dX4_makeBest_10 : decode cX4_makeBest 10 = .ok (.iconst 0, 1) := by decide +kernel
theorem dX4_makeBest_11 : decode cX4_makeBest 11 = .ok (.istore_n 3, 1) := by decide +kernel
theorem dX4_makeBest_12 : decode cX4_makeBest 12 = .ok (.iload_n 3, 1) := by decide +kernel
theorem dX4_makeBest_13 : decode cX4_makeBest 13 = .ok (.aload_n 1, 1) := by decide +kernel
theorem dX4_makeBest_14 : decode cX4_makeBest 14 = .ok (.getfield 58, 3) := by decide +kernel
theorem dX4_makeBest_17 : decode cX4_makeBest 17 = .ok (.if_icmp .ge 39, 3) := by decide +kernel
theorem dX4_makeBest_20 : decode cX4_makeBest 20 = .ok (.aload_n 0, 1) := by decide +kernel
theorem dX4_makeBest_21 : decode cX4_makeBest 21 = .ok (.getfield 14, 3) := by decide +kernel
theorem dX4_makeBest_24 : decode cX4_makeBest 24 = .ok (.iload_n 2, 1) := by decide +kernel
theorem dX4_makeBest_25 : decode cX4_makeBest 25 = .ok (.iload_n 3, 1) := by decide +kernel
theorem dX4_makeBest_26 : decode cX4_makeBest 26 = .ok (.aload_n 0, 1) := by decide +kernel
theorem dX4_makeBest_27 : decode cX4_makeBest 27 = .ok (.getfield 24, 3) := by decide +kernel
theorem dX4_makeBest_30 : decode cX4_makeBest 30 = .ok (.aload_n 1, 1) := by decide +kernel
theorem dX4_makeBest_31 : decode cX4_makeBest 31 = .ok (.aload_n 0, 1) := by decide +kernel
theorem dX4_makeBest_32 : decode cX4_makeBest 32 = .ok (.getfield 20, 3) := by decide +kernel
theorem dX4_makeBest_35 : decode cX4_makeBest 35 = .ok (.iload_n 2, 1) := by decide +kernel
theorem dX4_makeBest_36 : decode cX4_makeBest 36 = .ok (.iaload, 1) := by decide +kernel
theorem dX4_makeBest_37 : decode cX4_makeBest 37 = .ok (.aload_n 0, 1) := by decide +kernel
theorem dX4_makeBest_38 : decode cX4_makeBest 38 = .ok (.getfield 20, 3) := by decide +kernel
theorem dX4_makeBest_41 : decode cX4_makeBest 41 = .ok (.iload_n 3, 1) := by decide +kernel
theorem dX4_makeBest_42 : decode cX4_makeBest 42 = .ok (.iaload, 1) := by decide +kernel
theorem dX4_makeBest_43 : decode cX4_makeBest 43 = .ok (.invokevirtual 61, 3) := by decide +kernel
theorem dX4_makeBest_46 : decode cX4_makeBest 46 = .ok (.iaload, 1) := by decide +kernel
theorem dX4_makeBest_47 : decode cX4_makeBest 47 = .ok (.invokevirtual 96, 3) := by decide +kernel
theorem dX4_makeBest_50 : decode cX4_makeBest 50 = .ok (.iinc 3 1, 3) := by decide +kernel
theorem dX4_makeBest_53 : decode cX4_makeBest 53 = .ok (.goto (-41), 3) := by decide +kernel
theorem dX4_makeBest_56 : decode cX4_makeBest 56 = .ok (.iinc 2 1, 3) := by decide +kernel
theorem dX4_makeBest_59 : decode cX4_makeBest 59 = .ok (.goto (-57), 3) := by decide +kernel
theorem dX4_makeBest_62 : decode cX4_makeBest 62 = .ok (.return_, 1) := by decide +kernel
set_option maxRecDepth 20000 in
theorem ggX4_isLess_X7_turned : GoodIn wsX4_isLess wsX7_turned := goodIn_r _ [8, 9, 10, 11] (by decide +kernel) (by decide +kernel)
set_option maxRecDepth 20000 in
theorem gX4_isLess_X7_turned : GoodIn wsX4_isLess (wsV RX4 61 RX7 yX7_turned wsX7_turned) := goodIn_app (goodIn_of _ (by decide +kernel)) ggX4_isLess_X7_turned
theorem dX4_isLess_0 : decode cX4_isLess 0 = .ok (.iconst 0, 1) := by decide +kernel
theorem dX4_isLess_1 : decode cX4_isLess 1 = .ok (.istore_n 2, 1) := by decide +kernel
theorem dX4_isLess_2 : decode cX4_isLess 2 = .ok (.iload_n 2, 1) := by decide +kernel
theorem dX4_isLess_3 : decode cX4_isLess 3 = .ok (.aload_n 1, 1) := by decide +kernel
theorem dX4_isLess_4 : decode cX4_isLess 4 = .ok (.getfield 58, 3) := by decide +kernel
theorem dX4_isLess_7 : decode cX4_isLess 7 = .ok (.if_icmp .ge 82, 3) := by decide +kernel
theorem dX4_isLess_10 : decode cX4_isLess 10 = .ok (.iconst 0, 1) := by decide +kernel
theorem dX4_isLess_11 : decode cX4_isLess 11 = .ok (.istore_n 3, 1) := by decide +kernel
theorem dX4_isLess_12 : decode cX4_isLess 12 = .ok (.iload_n 3, 1) := by decide +kernel
theorem dX4_isLess_13 : decode cX4_isLess 13 = .ok (.aload_n 1, 1) := by decide +kernel
theorem dX4_isLess_14 : decode cX4_isLess 14 = .ok (.getfield 58, 3) := by decide +kernel
theorem dX4_isLess_17 : decode cX4_isLess 17 = .ok (.if_icmp .ge 66, 3) := by decide +kernel
theorem dX4_isLess_20 : decode cX4_isLess 20 = .ok (.aload_n 0, 1) := by decide +kernel
theorem dX4_isLess_21 : decode cX4_isLess 21 = .ok (.getfield 24, 3) := by decide +kernel
theorem dX4_isLess_24 : decode cX4_isLess 24 = .ok (.aload_n 1, 1) := by decide +kernel
theorem dX4_isLess_25 : decode cX4_isLess 25 = .ok (.aload_n 0, 1) := by decide +kernel
theorem dX4_isLess_26 : decode cX4_isLess 26 = .ok (.getfield 20, 3) := by decide +kernel
theorem dX4_isLess_29 : decode cX4_isLess 29 = .ok (.iload_n 2, 1) := by decide +kernel
theorem dX4_isLess_30 : decode cX4_isLess 30 = .ok (.iaload, 1) := by decide +kernel
theorem dX4_isLess_31 : decode cX4_isLess 31 = .ok (.aload_n 0, 1) := by decide +kernel
theorem dX4_isLess_32 : decode cX4_isLess 32 = .ok (.getfield 20, 3) := by decide +kernel
theorem dX4_isLess_35 : decode cX4_isLess 35 = .ok (.iload_n 3, 1) := by decide +kernel
theorem dX4_isLess_36 : decode cX4_isLess 36 = .ok (.iaload, 1) := by decide +kernel
theorem dX4_isLess_37 : decode cX4_isLess 37 = .ok (.invokevirtual 61, 3) := by decide +kernel
theorem dX4_isLess_40 : decode cX4_isLess 40 = .ok (.iaload, 1) := by decide +kernel
theorem dX4_isLess_41 : decode cX4_isLess 41 = .ok (.istore 4, 2) := by decide +kernel
theorem dX4_isLess_43 : decode cX4_isLess 43 = .ok (.iload 4, 2) := by decide +kernel
theorem dX4_isLess_45 : decode cX4_isLess 45 = .ok (.aload_n 0, 1) := by decide +kernel
theorem dX4_isLess_46 : decode cX4_isLess 46 = .ok (.getfield 14, 3) := by decide +kernel
theorem dX4_isLess_49 : decode cX4_isLess 49 = .ok (.iload_n 2, 1) := by decide +kernel
theorem dX4_isLess_50 : decode cX4_isLess 50 = .ok (.iload_n 3, 1) := by decide +kernel
theorem dX4_isLess_51 : decode cX4_isLess 51 = .ok (.invokevirtual 61, 3) := by decide +kernel
theorem dX4_isLess_54 : decode cX4_isLess 54 = .ok (.if_icmp .eq 23, 3) := by decide +kernel
theorem dX4_isLess_57 : decode cX4_isLess 57 = .ok (.iload 4, 2) := by decide +kernel
theorem dX4_isLess_59 : decode cX4_isLess 59 = .ok (.aload_n 0, 1) := by decide +kernel
theorem dX4_isLess_60 : decode cX4_isLess 60 = .ok (.getfield 14, 3) := by decide +kernel
theorem dX4_isLess_63 : decode cX4_isLess 63 = .ok (.iload_n 2, 1) := by decide +kernel
theorem dX4_isLess_64 : decode cX4_isLess 64 = .ok (.iload_n 3, 1) := by decide +kernel
theorem dX4_isLess_65 : decode cX4_isLess 65 = .ok (.invokevirtual 61, 3) := by decide +kernel
theorem dX4_isLess_68 : decode cX4_isLess 68 = .ok (.if_icmp .ge 7, 3) := by decide +kernel
theorem dX4_isLess_71 : decode cX4_isLess 71 = .ok (.iconst 1, 1) := by decide +kernel
theorem dX4_isLess_72 : decode cX4_isLess 72 = .ok (.goto 4, 3) := by decide +kernel
theorem dX4_isLess_75 : decode cX4_isLess 75 = .ok (.iconst 0, 1) := by decide +kernel
theorem dX4_isLess_76 : decode cX4_isLess 76 = .ok (.ireturn, 1) := by decide +kernel
theorem dX4_isLess_77 : decode cX4_isLess 77 = .ok (.iinc 3 1, 3) := by decide +kernel
theorem dX4_isLess_80 : decode cX4_isLess 80 = .ok (.goto (-68), 3) := by decide +kernel
theorem dX4_isLess_83 : decode cX4_isLess 83 = .ok (.iinc 2 1, 3) := by decide +kernel
theorem dX4_isLess_86 : decode cX4_isLess 86 = .ok (.goto (-84), 3) := by decide +kernel
theorem dX4_isLess_89 : decode cX4_isLess 89 = .ok (.iconst 0, 1) := by decide +kernel
theorem dX4_isLess_90 : decode cX4_isLess 90 = .ok (.ireturn, 1) := by decide +kernel
theorem dX5_image_0 : decode cX5_image 0 = .ok (.iload_n 0, 1) := by decide +kernel
theorem dX5_image_1 : decode cX5_image 1 = .ok (.iconst 3, 1) := by decide +kernel
theorem dX5_image_2 : decode cX5_image 2 = .ok (.iload_n 1, 1) := by decide +kernel
theorem dX5_image_3 : decode cX5_image 3 = .ok (.imul, 1) := by decide +kernel
theorem dX5_image_4 : decode cX5_image 4 = .ok (.ishr, 1) := by decide +kernel
theorem dX5_image_5 : decode cX5_image 5 = .ok (.bipush 7, 2) := by decide +kernel
theorem dX5_image_7 : decode cX5_image 7 = .ok (.iand, 1) := by decide +kernel
theorem dX5_image_8 : decode cX5_image 8 = .ok (.ireturn, 1) := by decide +kernel
theorem dX5_with_0 : decode cX5_with 0 = .ok (.iload_n 0, 1) := by decide +kernel
theorem dX5_with_1 : decode cX5_with 1 = .ok (.iload_n 2, 1) := by decide +kernel
theorem dX5_with_2 : decode cX5_with 2 = .ok (.iconst 3, 1) := by decide +kernel
theorem dX5_with_3 : decode cX5_with 3 = .ok (.iload_n 1, 1) := by decide +kernel
theorem dX5_with_4 : decode cX5_with 4 = .ok (.imul, 1) := by decide +kernel
theorem dX5_with_5 : decode cX5_with 5 = .ok (.ishl, 1) := by decide +kernel
theorem dX5_with_6 : decode cX5_with 6 = .ok (.ior, 1) := by decide +kernel
theorem dX5_with_7 : decode cX5_with 7 = .ok (.ireturn, 1) := by decide +kernel
set_option maxRecDepth 20000 in
theorem ggX5_identity_X5_numbered : GoodIn wsX5_identity wsX5_numbered := goodIn_r _ [4, 5, 6, 3, 7, 8, 9, 10] (by decide +kernel) (by decide +kernel)
set_option maxRecDepth 20000 in
theorem gX5_identity_X5_numbered : GoodIn wsX5_identity (va_wsS RX5 11 yX5_numbered wsX5_numbered) := goodIn_app (goodIn_of _ (by decide +kernel)) ggX5_identity_X5_numbered
theorem dX5_identity_0 : decode cX5_identity 0 = .ok (.iload_n 0, 1) := by decide +kernel
theorem dX5_identity_1 : decode cX5_identity 1 = .ok (.iconst 0, 1) := by decide +kernel
theorem dX5_identity_2 : decode cX5_identity 2 = .ok (.invokestatic 11, 3) := by decide +kernel
theorem dX5_identity_5 : decode cX5_identity 5 = .ok (.ireturn, 1) := by decide +kernel
set_option maxRecDepth 20000 in
theorem ggX5_numbered_X5_unusedNumber : GoodIn wsX5_numbered wsX5_unusedNumber := goodIn_r _ [4] (by decide +kernel) (by decide +kernel)
set_option maxRecDepth 20000 in
theorem gX5_numbered_X5_unusedNumber : GoodIn wsX5_numbered (va_wsS RX5 19 yX5_unusedNumber wsX5_unusedNumber) := goodIn_app (goodIn_of _ (by decide +kernel)) ggX5_numbered_X5_unusedNumber
set_option maxRecDepth 20000 in
theorem ggX5_numbered_X5_with : GoodIn wsX5_numbered wsX5_with := goodIn_r _ [7] (by decide +kernel) (by decide +kernel)
set_option maxRecDepth 20000 in
theorem gX5_numbered_X5_with : GoodIn wsX5_numbered (va_wsS RX5 22 yX5_with wsX5_with) := goodIn_app (goodIn_of _ (by decide +kernel)) ggX5_numbered_X5_with
theorem dX5_numbered_0 : decode cX5_numbered 0 = .ok (.iconst 0, 1) := by decide +kernel
theorem dX5_numbered_1 : decode cX5_numbered 1 = .ok (.istore_n 2, 1) := by decide +kernel
theorem dX5_numbered_2 : decode cX5_numbered 2 = .ok (.iconst 0, 1) := by decide +kernel
theorem dX5_numbered_3 : decode cX5_numbered 3 = .ok (.istore_n 3, 1) := by decide +kernel
theorem dX5_numbered_4 : decode cX5_numbered 4 = .ok (.iload_n 1, 1) := by decide +kernel
theorem dX5_numbered_5 : decode cX5_numbered 5 = .ok (.istore 4, 2) := by decide +kernel
theorem dX5_numbered_7 : decode cX5_numbered 7 = .ok (.iconst 0, 1) := by decide +kernel
theorem dX5_numbered_8 : decode cX5_numbered 8 = .ok (.istore 5, 2) := by decide +kernel
theorem dX5_numbered_10 : decode cX5_numbered 10 = .ok (.iload 5, 2) := by decide +kernel
theorem dX5_numbered_12 : decode cX5_numbered 12 = .ok (.iload_n 0, 1) := by decide +kernel
theorem dX5_numbered_13 : decode cX5_numbered 13 = .ok (.if_icmp .ge 55, 3) := by decide +kernel
theorem dX5_numbered_16 : decode cX5_numbered 16 = .ok (.getstatic 15, 3) := by decide +kernel
theorem dX5_numbered_19 : decode cX5_numbered 19 = .ok (.iload_n 0, 1) := by decide +kernel
theorem dX5_numbered_20 : decode cX5_numbered 20 = .ok (.iconst 1, 1) := by decide +kernel
theorem dX5_numbered_21 : decode cX5_numbered 21 = .ok (.isub, 1) := by decide +kernel
theorem dX5_numbered_22 : decode cX5_numbered 22 = .ok (.iload 5, 2) := by decide +kernel
theorem dX5_numbered_24 : decode cX5_numbered 24 = .ok (.isub, 1) := by decide +kernel
theorem dX5_numbered_25 : decode cX5_numbered 25 = .ok (.iaload, 1) := by decide +kernel
theorem dX5_numbered_26 : decode cX5_numbered 26 = .ok (.istore 6, 2) := by decide +kernel
theorem dX5_numbered_28 : decode cX5_numbered 28 = .ok (.iload_n 3, 1) := by decide +kernel
theorem dX5_numbered_29 : decode cX5_numbered 29 = .ok (.iload 4, 2) := by decide +kernel
theorem dX5_numbered_31 : decode cX5_numbered 31 = .ok (.iload 6, 2) := by decide +kernel
theorem dX5_numbered_33 : decode cX5_numbered 33 = .ok (.idiv, 1) := by decide +kernel
theorem dX5_numbered_34 : decode cX5_numbered 34 = .ok (.invokestatic 19, 3) := by decide +kernel
theorem dX5_numbered_37 : decode cX5_numbered 37 = .ok (.istore 7, 2) := by decide +kernel
theorem dX5_numbered_39 : decode cX5_numbered 39 = .ok (.iload 4, 2) := by decide +kernel
theorem dX5_numbered_41 : decode cX5_numbered 41 = .ok (.iload 6, 2) := by decide +kernel
theorem dX5_numbered_43 : decode cX5_numbered 43 = .ok (.irem, 1) := by decide +kernel
theorem dX5_numbered_44 : decode cX5_numbered 44 = .ok (.istore 4, 2) := by decide +kernel
theorem dX5_numbered_46 : decode cX5_numbered 46 = .ok (.iload_n 3, 1) := by decide +kernel
theorem dX5_numbered_47 : decode cX5_numbered 47 = .ok (.iconst 1, 1) := by decide +kernel
theorem dX5_numbered_48 : decode cX5_numbered 48 = .ok (.iload 7, 2) := by decide +kernel
theorem dX5_numbered_50 : decode cX5_numbered 50 = .ok (.ishl, 1) := by decide +kernel
theorem dX5_numbered_51 : decode cX5_numbered 51 = .ok (.ior, 1) := by decide +kernel
theorem dX5_numbered_52 : decode cX5_numbered 52 = .ok (.istore_n 3, 1) := by decide +kernel
theorem dX5_numbered_53 : decode cX5_numbered 53 = .ok (.iload_n 2, 1) := by decide +kernel
theorem dX5_numbered_54 : decode cX5_numbered 54 = .ok (.iload 5, 2) := by decide +kernel
theorem dX5_numbered_56 : decode cX5_numbered 56 = .ok (.iload 7, 2) := by decide +kernel
theorem dX5_numbered_58 : decode cX5_numbered 58 = .ok (.invokestatic 22, 3) := by decide +kernel
theorem dX5_numbered_61 : decode cX5_numbered 61 = .ok (.istore_n 2, 1) := by decide +kernel
theorem dX5_numbered_62 : decode cX5_numbered 62 = .ok (.iinc 5 1, 3) := by decide +kernel
theorem dX5_numbered_65 : decode cX5_numbered 65 = .ok (.goto (-55), 3) := by decide +kernel
theorem dX5_numbered_68 : decode cX5_numbered 68 = .ok (.iload_n 2, 1) := by decide +kernel
theorem dX5_numbered_69 : decode cX5_numbered 69 = .ok (.ireturn, 1) := by decide +kernel
theorem dX5_unusedNumber_0 : decode cX5_unusedNumber 0 = .ok (.iload_n 1, 1) := by decide +kernel
theorem dX5_unusedNumber_1 : decode cX5_unusedNumber 1 = .ok (.istore_n 2, 1) := by decide +kernel
theorem dX5_unusedNumber_2 : decode cX5_unusedNumber 2 = .ok (.iconst 0, 1) := by decide +kernel
theorem dX5_unusedNumber_3 : decode cX5_unusedNumber 3 = .ok (.istore_n 3, 1) := by decide +kernel
theorem dX5_unusedNumber_4 : decode cX5_unusedNumber 4 = .ok (.iload_n 3, 1) := by decide +kernel
theorem dX5_unusedNumber_5 : decode cX5_unusedNumber 5 = .ok (.bipush 8, 2) := by decide +kernel
theorem dX5_unusedNumber_7 : decode cX5_unusedNumber 7 = .ok (.if_icmp .ge 26, 3) := by decide +kernel
theorem dX5_unusedNumber_10 : decode cX5_unusedNumber 10 = .ok (.iload_n 0, 1) := by decide +kernel
theorem dX5_unusedNumber_11 : decode cX5_unusedNumber 11 = .ok (.iload_n 3, 1) := by decide +kernel
theorem dX5_unusedNumber_12 : decode cX5_unusedNumber 12 = .ok (.ishr, 1) := by decide +kernel
theorem dX5_unusedNumber_13 : decode cX5_unusedNumber 13 = .ok (.iconst 1, 1) := by decide +kernel
theorem dX5_unusedNumber_14 : decode cX5_unusedNumber 14 = .ok (.iand, 1) := by decide +kernel
theorem dX5_unusedNumber_15 : decode cX5_unusedNumber 15 = .ok (.ifCond .ne 12, 3) := by decide +kernel
theorem dX5_unusedNumber_18 : decode cX5_unusedNumber 18 = .ok (.iload_n 2, 1) := by decide +kernel
theorem dX5_unusedNumber_19 : decode cX5_unusedNumber 19 = .ok (.ifCond .ne 5, 3) := by decide +kernel
theorem dX5_unusedNumber_22 : decode cX5_unusedNumber 22 = .ok (.iload_n 3, 1) := by decide +kernel
theorem dX5_unusedNumber_23 : decode cX5_unusedNumber 23 = .ok (.ireturn, 1) := by decide +kernel
theorem dX5_unusedNumber_24 : decode cX5_unusedNumber 24 = .ok (.iinc 2 (-1), 3) := by decide +kernel
theorem dX5_unusedNumber_27 : decode cX5_unusedNumber 27 = .ok (.iinc 3 1, 3) := by decide +kernel
theorem dX5_unusedNumber_30 : decode cX5_unusedNumber 30 = .ok (.goto (-26), 3) := by decide +kernel
theorem dX5_unusedNumber_33 : decode cX5_unusedNumber 33 = .ok (.iconst 0, 1) := by decide +kernel
theorem dX5_unusedNumber_34 : decode cX5_unusedNumber 34 = .ok (.ireturn, 1) := by decide +kernel
set_option maxRecDepth 20000 in
theorem ggX5_after_X5_image : GoodIn wsX5_after wsX5_image := goodIn_r _ [4] (by decide +kernel) (by decide +kernel)
set_option maxRecDepth 20000 in
theorem gX5_after_X5_image : GoodIn wsX5_after (va_wsS RX5 26 yX5_image wsX5_image) := goodIn_app (goodIn_of _ (by decide +kernel)) ggX5_after_X5_image
set_option maxRecDepth 20000 in
theorem ggX5_after_X5_with : GoodIn wsX5_after wsX5_with := goodIn_r _ [7] (by decide +kernel) (by decide +kernel)
set_option maxRecDepth 20000 in
theorem gX5_after_X5_with : GoodIn wsX5_after (va_wsS RX5 22 yX5_with wsX5_with) := goodIn_app (goodIn_of _ (by decide +kernel)) ggX5_after_X5_with
theorem dX5_after_0 : decode cX5_after 0 = .ok (.iconst 0, 1) := by decide +kernel
theorem dX5_after_1 : decode cX5_after 1 = .ok (.istore_n 3, 1) := by decide +kernel
theorem dX5_after_2 : decode cX5_after 2 = .ok (.iconst 0, 1) := by decide +kernel
theorem dX5_after_3 : decode cX5_after 3 = .ok (.istore 4, 2) := by decide +kernel
theorem dX5_after_5 : decode cX5_after 5 = .ok (.iload 4, 2) := by decide +kernel
theorem dX5_after_7 : decode cX5_after 7 = .ok (.iload_n 2, 1) := by decide +kernel
theorem dX5_after_8 : decode cX5_after 8 = .ok (.if_icmp .ge 26, 3) := by decide +kernel
theorem dX5_after_11 : decode cX5_after 11 = .ok (.iload_n 3, 1) := by decide +kernel
theorem dX5_after_12 : decode cX5_after 12 = .ok (.iload 4, 2) := by decide +kernel
theorem dX5_after_14 : decode cX5_after 14 = .ok (.iload_n 0, 1) := by decide +kernel
theorem dX5_after_15 : decode cX5_after 15 = .ok (.iload_n 1, 1) := by decide +kernel
theorem dX5_after_16 : decode cX5_after 16 = .ok (.iload 4, 2) := by decide +kernel
theorem dX5_after_18 : decode cX5_after 18 = .ok (.invokestatic 26, 3) := by decide +kernel
theorem dX5_after_21 : decode cX5_after 21 = .ok (.invokestatic 26, 3) := by decide +kernel
theorem dX5_after_24 : decode cX5_after 24 = .ok (.invokestatic 22, 3) := by decide +kernel
theorem dX5_after_27 : decode cX5_after 27 = .ok (.istore_n 3, 1) := by decide +kernel
theorem dX5_after_28 : decode cX5_after 28 = .ok (.iinc 4 1, 3) := by decide +kernel
theorem dX5_after_31 : decode cX5_after 31 = .ok (.goto (-26), 3) := by decide +kernel
theorem dX5_after_34 : decode cX5_after 34 = .ok (.iload_n 3, 1) := by decide +kernel
theorem dX5_after_35 : decode cX5_after 35 = .ok (.ireturn, 1) := by decide +kernel
set_option maxRecDepth 20000 in
theorem ggX5_contrary_X5_image : GoodIn wsX5_contrary wsX5_image := goodIn_r _ [4] (by decide +kernel) (by decide +kernel)
set_option maxRecDepth 20000 in
theorem gX5_contrary_X5_image : GoodIn wsX5_contrary (va_wsS RX5 26 yX5_image wsX5_image) := goodIn_app (goodIn_of _ (by decide +kernel)) ggX5_contrary_X5_image
set_option maxRecDepth 20000 in
theorem ggX5_contrary_X5_with : GoodIn wsX5_contrary wsX5_with := goodIn_r _ [7] (by decide +kernel) (by decide +kernel)
set_option maxRecDepth 20000 in
theorem gX5_contrary_X5_with : GoodIn wsX5_contrary (va_wsS RX5 22 yX5_with wsX5_with) := goodIn_app (goodIn_of _ (by decide +kernel)) ggX5_contrary_X5_with
theorem dX5_contrary_0 : decode cX5_contrary 0 = .ok (.iconst 0, 1) := by decide +kernel
theorem dX5_contrary_1 : decode cX5_contrary 1 = .ok (.istore_n 2, 1) := by decide +kernel
theorem dX5_contrary_2 : decode cX5_contrary 2 = .ok (.iconst 0, 1) := by decide +kernel
theorem dX5_contrary_3 : decode cX5_contrary 3 = .ok (.istore_n 3, 1) := by decide +kernel
theorem dX5_contrary_4 : decode cX5_contrary 4 = .ok (.iload_n 3, 1) := by decide +kernel
theorem dX5_contrary_5 : decode cX5_contrary 5 = .ok (.iload_n 1, 1) := by decide +kernel
theorem dX5_contrary_6 : decode cX5_contrary 6 = .ok (.if_icmp .ge 20, 3) := by decide +kernel
theorem dX5_contrary_9 : decode cX5_contrary 9 = .ok (.iload_n 2, 1) := by decide +kernel
theorem dX5_contrary_10 : decode cX5_contrary 10 = .ok (.iload_n 0, 1) := by decide +kernel
theorem dX5_contrary_11 : decode cX5_contrary 11 = .ok (.iload_n 3, 1) := by decide +kernel
theorem dX5_contrary_12 : decode cX5_contrary 12 = .ok (.invokestatic 26, 3) := by decide +kernel
theorem dX5_contrary_15 : decode cX5_contrary 15 = .ok (.iload_n 3, 1) := by decide +kernel
theorem dX5_contrary_16 : decode cX5_contrary 16 = .ok (.invokestatic 22, 3) := by decide +kernel
theorem dX5_contrary_19 : decode cX5_contrary 19 = .ok (.istore_n 2, 1) := by decide +kernel
theorem dX5_contrary_20 : decode cX5_contrary 20 = .ok (.iinc 3 1, 3) := by decide +kernel
theorem dX5_contrary_23 : decode cX5_contrary 23 = .ok (.goto (-19), 3) := by decide +kernel
theorem dX5_contrary_26 : decode cX5_contrary 26 = .ok (.iload_n 2, 1) := by decide +kernel
theorem dX5_contrary_27 : decode cX5_contrary 27 = .ok (.ireturn, 1) := by decide +kernel
theorem dX6_init_0 : decode cX6_init 0 = .ok (.aload_n 0, 1) := by decide +kernel
theorem dX6_init_1 : decode cX6_init 1 = .ok (.invokespecial 3, 3) := by decide +kernel
theorem dX6_init_4 : decode cX6_init 4 = .ok (.aload_n 0, 1) := by decide +kernel
theorem dX6_init_5 : decode cX6_init 5 = .ok (.sipush 4096, 3) := by decide +kernel
theorem dX6_init_8 : decode cX6_init 8 = .ok (.newarray .int, 2) := by decide +kernel
theorem dX6_init_10 : decode cX6_init 10 = .ok (.putfield 9, 3) := by decide +kernel
theorem dX6_init_13 : decode cX6_init 13 = .ok (.aload_n 0, 1) := by decide +kernel
theorem dX6_init_14 : decode cX6_init 14 = .ok (.bipush 64, 2) := by decide +kernel
theorem dX6_init_16 : decode cX6_init 16 = .ok (.newarray .int, 2) := by decide +kernel
theorem dX6_init_18 : decode cX6_init 18 = .ok (.putfield 15, 3) := by decide +kernel
theorem dX6_init_21 : decode cX6_init 21 = .ok (.aload_n 0, 1) := by decide +kernel
theorem dX6_init_22 : decode cX6_init 22 = .ok (.iconst 1, 1) := by decide +kernel
theorem dX6_init_23 : decode cX6_init 23 = .ok (.putfield 18, 3) := by decide +kernel
theorem dX6_init_26 : decode cX6_init 26 = .ok (.aload_n 0, 1) := by decide +kernel
theorem dX6_init_27 : decode cX6_init 27 = .ok (.iconst 1, 1) := by decide +kernel
theorem dX6_init_28 : decode cX6_init 28 = .ok (.putfield 22, 3) := by decide +kernel
theorem dX6_init_31 : decode cX6_init 31 = .ok (.aload_n 0, 1) := by decide +kernel
theorem dX6_init_32 : decode cX6_init 32 = .ok (.iconst 2, 1) := by decide +kernel
theorem dX6_init_33 : decode cX6_init 33 = .ok (.putfield 25, 3) := by decide +kernel
theorem dX6_init_36 : decode cX6_init 36 = .ok (.aload_n 0, 1) := by decide +kernel
theorem dX6_init_37 : decode cX6_init 37 = .ok (.lconst 0, 1) := by decide +kernel
theorem dX6_init_38 : decode cX6_init 38 = .ok (.putfield 28, 3) := by decide +kernel
theorem dX6_init_41 : decode cX6_init 41 = .ok (.return_, 1) := by decide +kernel
set_option maxRecDepth 20000 in
theorem ggX6_closedPower_X6_tellEquation : GoodIn wsX6_closedPower wsX6_tellEquation := goodIn_r _ [9, 10, 1, 11, 12, 13, 14, 15, 16, 17, 8, 18, 2, 19, 20, 21, 22, 23, 24, 42, 43, 44, 45, 46, 47, 48, 49] (by decide +kernel) (by decide +kernel)
set_option maxRecDepth 20000 in
theorem gX6_closedPower_X6_tellEquation : GoodIn wsX6_closedPower (wsV RX6 37 RX6 yX6_tellEquation wsX6_tellEquation) := goodIn_app (goodIn_of _ (by decide +kernel)) ggX6_closedPower_X6_tellEquation
set_option maxRecDepth 20000 in
theorem ggX6_closedPower_X6_bindsOne : GoodIn wsX6_closedPower wsX6_bindsOne := goodIn_r _ [28, 3, 10, 4, 29, 30, 31, 8, 32, 33, 1, 34, 35, 36, 37, 38, 39, 40, 41, 42, 43, 44, 45, 46, 47] (by decide +kernel) (by decide +kernel)
set_option maxRecDepth 20000 in
theorem gX6_closedPower_X6_bindsOne : GoodIn wsX6_closedPower (wsV RX6 41 RX6 yX6_bindsOne wsX6_bindsOne) := goodIn_app (goodIn_of _ (by decide +kernel)) ggX6_closedPower_X6_bindsOne
theorem dX6_closedPower_0 : decode cX6_closedPower 0 = .ok (.aload_n 0, 1) := by decide +kernel
theorem dX6_closedPower_1 : decode cX6_closedPower 1 = .ok (.iload_n 2, 1) := by decide +kernel
theorem dX6_closedPower_2 : decode cX6_closedPower 2 = .ok (.putfield 25, 3) := by decide +kernel
theorem dX6_closedPower_5 : decode cX6_closedPower 5 = .ok (.aload_n 0, 1) := by decide +kernel
theorem dX6_closedPower_6 : decode cX6_closedPower 6 = .ok (.aload_n 1, 1) := by decide +kernel
theorem dX6_closedPower_7 : decode cX6_closedPower 7 = .ok (.getfield 32, 3) := by decide +kernel
theorem dX6_closedPower_10 : decode cX6_closedPower 10 = .ok (.putfield 18, 3) := by decide +kernel
theorem dX6_closedPower_13 : decode cX6_closedPower 13 = .ok (.aload_n 0, 1) := by decide +kernel
theorem dX6_closedPower_14 : decode cX6_closedPower 14 = .ok (.aload_n 0, 1) := by decide +kernel
theorem dX6_closedPower_15 : decode cX6_closedPower 15 = .ok (.getfield 18, 3) := by decide +kernel
theorem dX6_closedPower_18 : decode cX6_closedPower 18 = .ok (.aload_n 0, 1) := by decide +kernel
theorem dX6_closedPower_19 : decode cX6_closedPower 19 = .ok (.getfield 18, 3) := by decide +kernel
theorem dX6_closedPower_22 : decode cX6_closedPower 22 = .ok (.imul, 1) := by decide +kernel
theorem dX6_closedPower_23 : decode cX6_closedPower 23 = .ok (.putfield 22, 3) := by decide +kernel
theorem dX6_closedPower_26 : decode cX6_closedPower 26 = .ok (.aload_n 0, 1) := by decide +kernel
theorem dX6_closedPower_27 : decode cX6_closedPower 27 = .ok (.lconst 0, 1) := by decide +kernel
theorem dX6_closedPower_28 : decode cX6_closedPower 28 = .ok (.putfield 28, 3) := by decide +kernel
theorem dX6_closedPower_31 : decode cX6_closedPower 31 = .ok (.aload_n 0, 1) := by decide +kernel
theorem dX6_closedPower_32 : decode cX6_closedPower 32 = .ok (.getfield 22, 3) := by decide +kernel
theorem dX6_closedPower_35 : decode cX6_closedPower 35 = .ok (.istore_n 3, 1) := by decide +kernel
theorem dX6_closedPower_36 : decode cX6_closedPower 36 = .ok (.iconst 0, 1) := by decide +kernel
theorem dX6_closedPower_37 : decode cX6_closedPower 37 = .ok (.istore 4, 2) := by decide +kernel
theorem dX6_closedPower_39 : decode cX6_closedPower 39 = .ok (.iload 4, 2) := by decide +kernel
theorem dX6_closedPower_41 : decode cX6_closedPower 41 = .ok (.aload_n 1, 1) := by decide +kernel
theorem dX6_closedPower_42 : decode cX6_closedPower 42 = .ok (.getfield 32, 3) := by decide +kernel
theorem dX6_closedPower_45 : decode cX6_closedPower 45 = .ok (.if_icmp .ge 66, 3) := by decide +kernel
theorem dX6_closedPower_48 : decode cX6_closedPower 48 = .ok (.iconst 0, 1) := by decide +kernel
theorem dX6_closedPower_49 : decode cX6_closedPower 49 = .ok (.istore 5, 2) := by decide +kernel
theorem dX6_closedPower_51 : decode cX6_closedPower 51 = .ok (.iload 5, 2) := by decide +kernel
theorem dX6_closedPower_53 : decode cX6_closedPower 53 = .ok (.aload_n 1, 1) := by decide +kernel
theorem dX6_closedPower_54 : decode cX6_closedPower 54 = .ok (.getfield 32, 3) := by decide +kernel
theorem dX6_closedPower_57 : decode cX6_closedPower 57 = .ok (.if_icmp .ge 48, 3) := by decide +kernel
theorem dX6_closedPower_60 : decode cX6_closedPower 60 = .ok (.iconst 0, 1) := by decide +kernel
theorem dX6_closedPower_61 : decode cX6_closedPower 61 = .ok (.istore 6, 2) := by decide +kernel
theorem dX6_closedPower_63 : decode cX6_closedPower 63 = .ok (.iload 6, 2) := by decide +kernel
theorem dX6_closedPower_65 : decode cX6_closedPower 65 = .ok (.aload_n 1, 1) := by decide +kernel
theorem dX6_closedPower_66 : decode cX6_closedPower 66 = .ok (.getfield 32, 3) := by decide +kernel
theorem dX6_closedPower_69 : decode cX6_closedPower 69 = .ok (.if_icmp .ge 30, 3) := by decide +kernel
theorem dX6_closedPower_72 : decode cX6_closedPower 72 = .ok (.aload_n 0, 1) := by decide +kernel
theorem dX6_closedPower_73 : decode cX6_closedPower 73 = .ok (.aload_n 1, 1) := by decide +kernel
theorem dX6_closedPower_74 : decode cX6_closedPower 74 = .ok (.iload 4, 2) := by decide +kernel
theorem dX6_closedPower_76 : decode cX6_closedPower 76 = .ok (.iload 5, 2) := by decide +kernel
theorem dX6_closedPower_78 : decode cX6_closedPower 78 = .ok (.iload 6, 2) := by decide +kernel
theorem dX6_closedPower_80 : decode cX6_closedPower 80 = .ok (.invokevirtual 37, 3) := by decide +kernel
theorem dX6_closedPower_83 : decode cX6_closedPower 83 = .ok (.aload_n 0, 1) := by decide +kernel
theorem dX6_closedPower_84 : decode cX6_closedPower 84 = .ok (.invokevirtual 41, 3) := by decide +kernel
theorem dX6_closedPower_87 : decode cX6_closedPower 87 = .ok (.ifCond .eq 6, 3) := by decide +kernel
theorem dX6_closedPower_90 : decode cX6_closedPower 90 = .ok (.iinc 3 (-1), 3) := by decide +kernel
theorem dX6_closedPower_93 : decode cX6_closedPower 93 = .ok (.iinc 6 1, 3) := by decide +kernel
theorem dX6_closedPower_96 : decode cX6_closedPower 96 = .ok (.goto (-33), 3) := by decide +kernel
theorem dX6_closedPower_99 : decode cX6_closedPower 99 = .ok (.iinc 5 1, 3) := by decide +kernel
theorem dX6_closedPower_102 : decode cX6_closedPower 102 = .ok (.goto (-51), 3) := by decide +kernel
theorem dX6_closedPower_105 : decode cX6_closedPower 105 = .ok (.iinc 4 1, 3) := by decide +kernel
theorem dX6_closedPower_108 : decode cX6_closedPower 108 = .ok (.goto (-69), 3) := by decide +kernel
theorem dX6_closedPower_111 : decode cX6_closedPower 111 = .ok (.iload_n 3, 1) := by decide +kernel
theorem dX6_closedPower_112 : decode cX6_closedPower 112 = .ok (.ireturn, 1) := by decide +kernel
set_option maxRecDepth 20000 in
theorem ggX6_tellEquation_J7_fill_53178 : GoodIn wsX6_tellEquation wsJ7_fill_53178 := goodIn_r _ [6] (by decide +kernel) (by decide +kernel)
set_option maxRecDepth 20000 in
theorem gX6_tellEquation_J7_fill_53178 : GoodIn wsX6_tellEquation (va_wsS RX6 45 yJ7_fill_53178 wsJ7_fill_53178) := goodIn_app (goodIn_of _ (by decide +kernel)) ggX6_tellEquation_J7_fill_53178
set_option maxRecDepth 20000 in
theorem ggX6_tellEquation_X6_addTerm : GoodIn wsX6_tellEquation wsX6_addTerm := goodIn_r _ [11, 12, 1, 2, 19, 20, 21, 22, 23, 24] (by decide +kernel) (by decide +kernel)
set_option maxRecDepth 20000 in
theorem gX6_tellEquation_X6_addTerm : GoodIn wsX6_tellEquation (wsV RX6 51 RX6 yX6_addTerm wsX6_addTerm) := goodIn_app (goodIn_of _ (by decide +kernel)) ggX6_tellEquation_X6_addTerm
set_option maxRecDepth 20000 in
theorem ggX6_tellEquation_X7_turned : GoodIn wsX6_tellEquation wsX7_turned := goodIn_r _ [17, 18, 25, 26] (by decide +kernel) (by decide +kernel)
set_option maxRecDepth 20000 in
theorem gX6_tellEquation_X7_turned : GoodIn wsX6_tellEquation (wsV RX6 55 RX7 yX7_turned wsX7_turned) := goodIn_app (goodIn_of _ (by decide +kernel)) ggX6_tellEquation_X7_turned
theorem dX6_tellEquation_0 : decode cX6_tellEquation 0 = .ok (.aload_n 0, 1) := by decide +kernel
theorem dX6_tellEquation_1 : decode cX6_tellEquation 1 = .ok (.getfield 15, 3) := by decide +kernel
theorem dX6_tellEquation_4 : decode cX6_tellEquation 4 = .ok (.iconst 0, 1) := by decide +kernel
theorem dX6_tellEquation_5 : decode cX6_tellEquation 5 = .ok (.invokestatic 45, 3) := by decide +kernel
theorem dX6_tellEquation_8 : decode cX6_tellEquation 8 = .ok (.aload_n 0, 1) := by decide +kernel
theorem dX6_tellEquation_9 : decode cX6_tellEquation 9 = .ok (.iload_n 3, 1) := by decide +kernel
theorem dX6_tellEquation_10 : decode cX6_tellEquation 10 = .ok (.iload 4, 2) := by decide +kernel
theorem dX6_tellEquation_12 : decode cX6_tellEquation 12 = .ok (.iconst 1, 1) := by decide +kernel
theorem dX6_tellEquation_13 : decode cX6_tellEquation 13 = .ok (.invokevirtual 51, 3) := by decide +kernel
theorem dX6_tellEquation_16 : decode cX6_tellEquation 16 = .ok (.aload_n 0, 1) := by decide +kernel
theorem dX6_tellEquation_17 : decode cX6_tellEquation 17 = .ok (.iload_n 2, 1) := by decide +kernel
theorem dX6_tellEquation_18 : decode cX6_tellEquation 18 = .ok (.aload_n 1, 1) := by decide +kernel
theorem dX6_tellEquation_19 : decode cX6_tellEquation 19 = .ok (.iload_n 3, 1) := by decide +kernel
theorem dX6_tellEquation_20 : decode cX6_tellEquation 20 = .ok (.iload 4, 2) := by decide +kernel
theorem dX6_tellEquation_22 : decode cX6_tellEquation 22 = .ok (.invokevirtual 55, 3) := by decide +kernel
theorem dX6_tellEquation_25 : decode cX6_tellEquation 25 = .ok (.iconst 1, 1) := by decide +kernel
theorem dX6_tellEquation_26 : decode cX6_tellEquation 26 = .ok (.invokevirtual 51, 3) := by decide +kernel
theorem dX6_tellEquation_29 : decode cX6_tellEquation 29 = .ok (.aload_n 0, 1) := by decide +kernel
theorem dX6_tellEquation_30 : decode cX6_tellEquation 30 = .ok (.iload_n 2, 1) := by decide +kernel
theorem dX6_tellEquation_31 : decode cX6_tellEquation 31 = .ok (.iload 4, 2) := by decide +kernel
theorem dX6_tellEquation_33 : decode cX6_tellEquation 33 = .ok (.aload_n 0, 1) := by decide +kernel
theorem dX6_tellEquation_34 : decode cX6_tellEquation 34 = .ok (.getfield 25, 3) := by decide +kernel
theorem dX6_tellEquation_37 : decode cX6_tellEquation 37 = .ok (.iconst 1, 1) := by decide +kernel
theorem dX6_tellEquation_38 : decode cX6_tellEquation 38 = .ok (.isub, 1) := by decide +kernel
theorem dX6_tellEquation_39 : decode cX6_tellEquation 39 = .ok (.invokevirtual 51, 3) := by decide +kernel
theorem dX6_tellEquation_42 : decode cX6_tellEquation 42 = .ok (.aload_n 0, 1) := by decide +kernel
theorem dX6_tellEquation_43 : decode cX6_tellEquation 43 = .ok (.aload_n 1, 1) := by decide +kernel
theorem dX6_tellEquation_44 : decode cX6_tellEquation 44 = .ok (.iload_n 2, 1) := by decide +kernel
theorem dX6_tellEquation_45 : decode cX6_tellEquation 45 = .ok (.iload_n 3, 1) := by decide +kernel
theorem dX6_tellEquation_46 : decode cX6_tellEquation 46 = .ok (.invokevirtual 55, 3) := by decide +kernel
theorem dX6_tellEquation_49 : decode cX6_tellEquation 49 = .ok (.aload_n 1, 1) := by decide +kernel
theorem dX6_tellEquation_50 : decode cX6_tellEquation 50 = .ok (.iload_n 2, 1) := by decide +kernel
theorem dX6_tellEquation_51 : decode cX6_tellEquation 51 = .ok (.iload 4, 2) := by decide +kernel
theorem dX6_tellEquation_53 : decode cX6_tellEquation 53 = .ok (.invokevirtual 55, 3) := by decide +kernel
theorem dX6_tellEquation_56 : decode cX6_tellEquation 56 = .ok (.aload_n 0, 1) := by decide +kernel
theorem dX6_tellEquation_57 : decode cX6_tellEquation 57 = .ok (.getfield 25, 3) := by decide +kernel
theorem dX6_tellEquation_60 : decode cX6_tellEquation 60 = .ok (.iconst 1, 1) := by decide +kernel
theorem dX6_tellEquation_61 : decode cX6_tellEquation 61 = .ok (.isub, 1) := by decide +kernel
theorem dX6_tellEquation_62 : decode cX6_tellEquation 62 = .ok (.invokevirtual 51, 3) := by decide +kernel
theorem dX6_tellEquation_65 : decode cX6_tellEquation 65 = .ok (.return_, 1) := by decide +kernel
theorem dX6_addTerm_0 : decode cX6_addTerm 0 = .ok (.iload_n 1, 1) := by decide +kernel
theorem dX6_addTerm_1 : decode cX6_addTerm 1 = .ok (.aload_n 0, 1) := by decide +kernel
theorem dX6_addTerm_2 : decode cX6_addTerm 2 = .ok (.getfield 18, 3) := by decide +kernel
theorem dX6_addTerm_5 : decode cX6_addTerm 5 = .ok (.imul, 1) := by decide +kernel
theorem dX6_addTerm_6 : decode cX6_addTerm 6 = .ok (.iload_n 2, 1) := by decide +kernel
theorem dX6_addTerm_7 : decode cX6_addTerm 7 = .ok (.iadd, 1) := by decide +kernel
theorem dX6_addTerm_8 : decode cX6_addTerm 8 = .ok (.istore 4, 2) := by decide +kernel
theorem dX6_addTerm_10 : decode cX6_addTerm 10 = .ok (.aload_n 0, 1) := by decide +kernel
theorem dX6_addTerm_11 : decode cX6_addTerm 11 = .ok (.getfield 15, 3) := by decide +kernel
theorem dX6_addTerm_14 : decode cX6_addTerm 14 = .ok (.iload 4, 2) := by decide +kernel
theorem dX6_addTerm_16 : decode cX6_addTerm 16 = .ok (.aload_n 0, 1) := by decide +kernel
theorem dX6_addTerm_17 : decode cX6_addTerm 17 = .ok (.getfield 15, 3) := by decide +kernel
theorem dX6_addTerm_20 : decode cX6_addTerm 20 = .ok (.iload 4, 2) := by decide +kernel
theorem dX6_addTerm_22 : decode cX6_addTerm 22 = .ok (.iaload, 1) := by decide +kernel
theorem dX6_addTerm_23 : decode cX6_addTerm 23 = .ok (.iload_n 3, 1) := by decide +kernel
theorem dX6_addTerm_24 : decode cX6_addTerm 24 = .ok (.iadd, 1) := by decide +kernel
theorem dX6_addTerm_25 : decode cX6_addTerm 25 = .ok (.aload_n 0, 1) := by decide +kernel
theorem dX6_addTerm_26 : decode cX6_addTerm 26 = .ok (.getfield 25, 3) := by decide +kernel
theorem dX6_addTerm_29 : decode cX6_addTerm 29 = .ok (.irem, 1) := by decide +kernel
theorem dX6_addTerm_30 : decode cX6_addTerm 30 = .ok (.iastore, 1) := by decide +kernel
theorem dX6_addTerm_31 : decode cX6_addTerm 31 = .ok (.return_, 1) := by decide +kernel
set_option maxRecDepth 20000 in
theorem ggX6_bindsOne_X6_keepStep : GoodIn wsX6_bindsOne wsX6_keepStep := goodIn_r _ [8, 2, 1, 9, 10, 11, 12, 13, 7, 14, 19, 20, 21, 22, 23, 24] (by decide +kernel) (by decide +kernel)
set_option maxRecDepth 20000 in
theorem gX6_bindsOne_X6_keepStep : GoodIn wsX6_bindsOne (wsV RX6 59 RX6 yX6_keepStep wsX6_keepStep) := goodIn_app (goodIn_of _ (by decide +kernel)) ggX6_bindsOne_X6_keepStep
set_option maxRecDepth 20000 in
theorem ggX6_bindsOne_X6_clearLead : GoodIn wsX6_bindsOne wsX6_clearLead := goodIn_r _ [18, 10, 2, 1, 9, 19, 20, 21, 22, 23, 24] (by decide +kernel) (by decide +kernel)
set_option maxRecDepth 20000 in
theorem gX6_bindsOne_X6_clearLead : GoodIn wsX6_bindsOne (wsV RX6 63 RX6 yX6_clearLead wsX6_clearLead) := goodIn_app (goodIn_of _ (by decide +kernel)) ggX6_bindsOne_X6_clearLead
theorem dX6_bindsOne_0 : decode cX6_bindsOne 0 = .ok (.iconst 0, 1) := by decide +kernel
theorem dX6_bindsOne_1 : decode cX6_bindsOne 1 = .ok (.istore_n 1, 1) := by decide +kernel
theorem dX6_bindsOne_2 : decode cX6_bindsOne 2 = .ok (.iload_n 1, 1) := by decide +kernel
theorem dX6_bindsOne_3 : decode cX6_bindsOne 3 = .ok (.aload_n 0, 1) := by decide +kernel
theorem dX6_bindsOne_4 : decode cX6_bindsOne 4 = .ok (.getfield 22, 3) := by decide +kernel
theorem dX6_bindsOne_7 : decode cX6_bindsOne 7 = .ok (.if_icmp .ge 55, 3) := by decide +kernel
theorem dX6_bindsOne_10 : decode cX6_bindsOne 10 = .ok (.aload_n 0, 1) := by decide +kernel
theorem dX6_bindsOne_11 : decode cX6_bindsOne 11 = .ok (.getfield 15, 3) := by decide +kernel
theorem dX6_bindsOne_14 : decode cX6_bindsOne 14 = .ok (.iload_n 1, 1) := by decide +kernel
theorem dX6_bindsOne_15 : decode cX6_bindsOne 15 = .ok (.iaload, 1) := by decide +kernel
theorem dX6_bindsOne_16 : decode cX6_bindsOne 16 = .ok (.ifCond .eq 40, 3) := by decide +kernel
theorem dX6_bindsOne_19 : decode cX6_bindsOne 19 = .ok (.aload_n 0, 1) := by decide +kernel
theorem dX6_bindsOne_20 : decode cX6_bindsOne 20 = .ok (.getfield 28, 3) := by decide +kernel
theorem dX6_bindsOne_23 : decode cX6_bindsOne 23 = .ok (.iload_n 1, 1) := by decide +kernel
theorem dX6_bindsOne_24 : decode cX6_bindsOne 24 = .ok (.lshr, 1) := by decide +kernel
theorem dX6_bindsOne_25 : decode cX6_bindsOne 25 = .ok (.lconst 1, 1) := by decide +kernel
theorem dX6_bindsOne_26 : decode cX6_bindsOne 26 = .ok (.land, 1) := by decide +kernel
theorem dX6_bindsOne_27 : decode cX6_bindsOne 27 = .ok (.lconst 0, 1) := by decide +kernel
theorem dX6_bindsOne_28 : decode cX6_bindsOne 28 = .ok (.lcmp, 1) := by decide +kernel
theorem dX6_bindsOne_29 : decode cX6_bindsOne 29 = .ok (.ifCond .ne 22, 3) := by decide +kernel
theorem dX6_bindsOne_32 : decode cX6_bindsOne 32 = .ok (.aload_n 0, 1) := by decide +kernel
theorem dX6_bindsOne_33 : decode cX6_bindsOne 33 = .ok (.dup, 1) := by decide +kernel
theorem dX6_bindsOne_34 : decode cX6_bindsOne 34 = .ok (.getfield 28, 3) := by decide +kernel
theorem dX6_bindsOne_37 : decode cX6_bindsOne 37 = .ok (.lconst 1, 1) := by decide +kernel
theorem dX6_bindsOne_38 : decode cX6_bindsOne 38 = .ok (.iload_n 1, 1) := by decide +kernel
theorem dX6_bindsOne_39 : decode cX6_bindsOne 39 = .ok (.lshl, 1) := by decide +kernel
theorem dX6_bindsOne_40 : decode cX6_bindsOne 40 = .ok (.lor, 1) := by decide +kernel
theorem dX6_bindsOne_41 : decode cX6_bindsOne 41 = .ok (.putfield 28, 3) := by decide +kernel
theorem dX6_bindsOne_44 : decode cX6_bindsOne 44 = .ok (.aload_n 0, 1) := by decide +kernel
theorem dX6_bindsOne_45 : decode cX6_bindsOne 45 = .ok (.iload_n 1, 1) := by decide +kernel
theorem dX6_bindsOne_46 : decode cX6_bindsOne 46 = .ok (.invokevirtual 59, 3) := by decide +kernel
theorem dX6_bindsOne_49 : decode cX6_bindsOne 49 = .ok (.iconst 1, 1) := by decide +kernel
theorem dX6_bindsOne_50 : decode cX6_bindsOne 50 = .ok (.ireturn, 1) := by decide +kernel
theorem dX6_bindsOne_51 : decode cX6_bindsOne 51 = .ok (.aload_n 0, 1) := by decide +kernel
theorem dX6_bindsOne_52 : decode cX6_bindsOne 52 = .ok (.iload_n 1, 1) := by decide +kernel
theorem dX6_bindsOne_53 : decode cX6_bindsOne 53 = .ok (.invokevirtual 63, 3) := by decide +kernel
theorem dX6_bindsOne_56 : decode cX6_bindsOne 56 = .ok (.iinc 1 1, 3) := by decide +kernel
theorem dX6_bindsOne_59 : decode cX6_bindsOne 59 = .ok (.goto (-57), 3) := by decide +kernel
theorem dX6_bindsOne_62 : decode cX6_bindsOne 62 = .ok (.iconst 0, 1) := by decide +kernel
theorem dX6_bindsOne_63 : decode cX6_bindsOne 63 = .ok (.ireturn, 1) := by decide +kernel
set_option maxRecDepth 20000 in
theorem ggX6_keepStep_X6_inverse : GoodIn wsX6_keepStep wsX6_inverse := goodIn_r _ [9, 4, 10, 11, 12, 13, 14, 15] (by decide +kernel) (by decide +kernel)
set_option maxRecDepth 20000 in
theorem gX6_keepStep_X6_inverse : GoodIn wsX6_keepStep (wsV RX6 66 RX6 yX6_inverse wsX6_inverse) := goodIn_app (goodIn_of _ (by decide +kernel)) ggX6_keepStep_X6_inverse
theorem dX6_keepStep_0 : decode cX6_keepStep 0 = .ok (.aload_n 0, 1) := by decide +kernel
theorem dX6_keepStep_1 : decode cX6_keepStep 1 = .ok (.aload_n 0, 1) := by decide +kernel
theorem dX6_keepStep_2 : decode cX6_keepStep 2 = .ok (.getfield 15, 3) := by decide +kernel
theorem dX6_keepStep_5 : decode cX6_keepStep 5 = .ok (.iload_n 1, 1) := by decide +kernel
theorem dX6_keepStep_6 : decode cX6_keepStep 6 = .ok (.iaload, 1) := by decide +kernel
theorem dX6_keepStep_7 : decode cX6_keepStep 7 = .ok (.invokevirtual 66, 3) := by decide +kernel
theorem dX6_keepStep_10 : decode cX6_keepStep 10 = .ok (.istore_n 2, 1) := by decide +kernel
theorem dX6_keepStep_11 : decode cX6_keepStep 11 = .ok (.iload_n 1, 1) := by decide +kernel
theorem dX6_keepStep_12 : decode cX6_keepStep 12 = .ok (.istore_n 3, 1) := by decide +kernel
theorem dX6_keepStep_13 : decode cX6_keepStep 13 = .ok (.iload_n 3, 1) := by decide +kernel
theorem dX6_keepStep_14 : decode cX6_keepStep 14 = .ok (.aload_n 0, 1) := by decide +kernel
theorem dX6_keepStep_15 : decode cX6_keepStep 15 = .ok (.getfield 22, 3) := by decide +kernel
theorem dX6_keepStep_18 : decode cX6_keepStep 18 = .ok (.if_icmp .ge 33, 3) := by decide +kernel
theorem dX6_keepStep_21 : decode cX6_keepStep 21 = .ok (.aload_n 0, 1) := by decide +kernel
theorem dX6_keepStep_22 : decode cX6_keepStep 22 = .ok (.getfield 9, 3) := by decide +kernel
theorem dX6_keepStep_25 : decode cX6_keepStep 25 = .ok (.iload_n 1, 1) := by decide +kernel
theorem dX6_keepStep_26 : decode cX6_keepStep 26 = .ok (.bipush 64, 2) := by decide +kernel
theorem dX6_keepStep_28 : decode cX6_keepStep 28 = .ok (.imul, 1) := by decide +kernel
theorem dX6_keepStep_29 : decode cX6_keepStep 29 = .ok (.iload_n 3, 1) := by decide +kernel
theorem dX6_keepStep_30 : decode cX6_keepStep 30 = .ok (.iadd, 1) := by decide +kernel
theorem dX6_keepStep_31 : decode cX6_keepStep 31 = .ok (.aload_n 0, 1) := by decide +kernel
theorem dX6_keepStep_32 : decode cX6_keepStep 32 = .ok (.getfield 15, 3) := by decide +kernel
theorem dX6_keepStep_35 : decode cX6_keepStep 35 = .ok (.iload_n 3, 1) := by decide +kernel
theorem dX6_keepStep_36 : decode cX6_keepStep 36 = .ok (.iaload, 1) := by decide +kernel
theorem dX6_keepStep_37 : decode cX6_keepStep 37 = .ok (.iload_n 2, 1) := by decide +kernel
theorem dX6_keepStep_38 : decode cX6_keepStep 38 = .ok (.imul, 1) := by decide +kernel
theorem dX6_keepStep_39 : decode cX6_keepStep 39 = .ok (.aload_n 0, 1) := by decide +kernel
theorem dX6_keepStep_40 : decode cX6_keepStep 40 = .ok (.getfield 25, 3) := by decide +kernel
theorem dX6_keepStep_43 : decode cX6_keepStep 43 = .ok (.irem, 1) := by decide +kernel
theorem dX6_keepStep_44 : decode cX6_keepStep 44 = .ok (.iastore, 1) := by decide +kernel
theorem dX6_keepStep_45 : decode cX6_keepStep 45 = .ok (.iinc 3 1, 3) := by decide +kernel
theorem dX6_keepStep_48 : decode cX6_keepStep 48 = .ok (.goto (-35), 3) := by decide +kernel
theorem dX6_keepStep_51 : decode cX6_keepStep 51 = .ok (.return_, 1) := by decide +kernel
theorem dX6_clearLead_0 : decode cX6_clearLead 0 = .ok (.aload_n 0, 1) := by decide +kernel
theorem dX6_clearLead_1 : decode cX6_clearLead 1 = .ok (.getfield 25, 3) := by decide +kernel
theorem dX6_clearLead_4 : decode cX6_clearLead 4 = .ok (.aload_n 0, 1) := by decide +kernel
theorem dX6_clearLead_5 : decode cX6_clearLead 5 = .ok (.getfield 15, 3) := by decide +kernel
theorem dX6_clearLead_8 : decode cX6_clearLead 8 = .ok (.iload_n 1, 1) := by decide +kernel
theorem dX6_clearLead_9 : decode cX6_clearLead 9 = .ok (.iaload, 1) := by decide +kernel
theorem dX6_clearLead_10 : decode cX6_clearLead 10 = .ok (.isub, 1) := by decide +kernel
theorem dX6_clearLead_11 : decode cX6_clearLead 11 = .ok (.istore_n 2, 1) := by decide +kernel
theorem dX6_clearLead_12 : decode cX6_clearLead 12 = .ok (.iload_n 1, 1) := by decide +kernel
theorem dX6_clearLead_13 : decode cX6_clearLead 13 = .ok (.istore_n 3, 1) := by decide +kernel
theorem dX6_clearLead_14 : decode cX6_clearLead 14 = .ok (.iload_n 3, 1) := by decide +kernel
theorem dX6_clearLead_15 : decode cX6_clearLead 15 = .ok (.aload_n 0, 1) := by decide +kernel
theorem dX6_clearLead_16 : decode cX6_clearLead 16 = .ok (.getfield 22, 3) := by decide +kernel
theorem dX6_clearLead_19 : decode cX6_clearLead 19 = .ok (.if_icmp .ge 40, 3) := by decide +kernel
theorem dX6_clearLead_22 : decode cX6_clearLead 22 = .ok (.aload_n 0, 1) := by decide +kernel
theorem dX6_clearLead_23 : decode cX6_clearLead 23 = .ok (.getfield 15, 3) := by decide +kernel
theorem dX6_clearLead_26 : decode cX6_clearLead 26 = .ok (.iload_n 3, 1) := by decide +kernel
theorem dX6_clearLead_27 : decode cX6_clearLead 27 = .ok (.aload_n 0, 1) := by decide +kernel
theorem dX6_clearLead_28 : decode cX6_clearLead 28 = .ok (.getfield 15, 3) := by decide +kernel
theorem dX6_clearLead_31 : decode cX6_clearLead 31 = .ok (.iload_n 3, 1) := by decide +kernel
theorem dX6_clearLead_32 : decode cX6_clearLead 32 = .ok (.iaload, 1) := by decide +kernel
theorem dX6_clearLead_33 : decode cX6_clearLead 33 = .ok (.iload_n 2, 1) := by decide +kernel
theorem dX6_clearLead_34 : decode cX6_clearLead 34 = .ok (.aload_n 0, 1) := by decide +kernel
theorem dX6_clearLead_35 : decode cX6_clearLead 35 = .ok (.getfield 9, 3) := by decide +kernel
theorem dX6_clearLead_38 : decode cX6_clearLead 38 = .ok (.iload_n 1, 1) := by decide +kernel
theorem dX6_clearLead_39 : decode cX6_clearLead 39 = .ok (.bipush 64, 2) := by decide +kernel
theorem dX6_clearLead_41 : decode cX6_clearLead 41 = .ok (.imul, 1) := by decide +kernel
theorem dX6_clearLead_42 : decode cX6_clearLead 42 = .ok (.iload_n 3, 1) := by decide +kernel
theorem dX6_clearLead_43 : decode cX6_clearLead 43 = .ok (.iadd, 1) := by decide +kernel
theorem dX6_clearLead_44 : decode cX6_clearLead 44 = .ok (.iaload, 1) := by decide +kernel
theorem dX6_clearLead_45 : decode cX6_clearLead 45 = .ok (.imul, 1) := by decide +kernel
theorem dX6_clearLead_46 : decode cX6_clearLead 46 = .ok (.iadd, 1) := by decide +kernel
theorem dX6_clearLead_47 : decode cX6_clearLead 47 = .ok (.aload_n 0, 1) := by decide +kernel
theorem dX6_clearLead_48 : decode cX6_clearLead 48 = .ok (.getfield 25, 3) := by decide +kernel
theorem dX6_clearLead_51 : decode cX6_clearLead 51 = .ok (.irem, 1) := by decide +kernel
theorem dX6_clearLead_52 : decode cX6_clearLead 52 = .ok (.iastore, 1) := by decide +kernel
theorem dX6_clearLead_53 : decode cX6_clearLead 53 = .ok (.iinc 3 1, 3) := by decide +kernel
theorem dX6_clearLead_56 : decode cX6_clearLead 56 = .ok (.goto (-42), 3) := by decide +kernel
theorem dX6_clearLead_59 : decode cX6_clearLead 59 = .ok (.return_, 1) := by decide +kernel
theorem dX6_inverse_0 : decode cX6_inverse 0 = .ok (.iconst 1, 1) := by decide +kernel
theorem dX6_inverse_1 : decode cX6_inverse 1 = .ok (.istore_n 2, 1) := by decide +kernel
theorem dX6_inverse_2 : decode cX6_inverse 2 = .ok (.iload_n 2, 1) := by decide +kernel
theorem dX6_inverse_3 : decode cX6_inverse 3 = .ok (.aload_n 0, 1) := by decide +kernel
theorem dX6_inverse_4 : decode cX6_inverse 4 = .ok (.getfield 25, 3) := by decide +kernel
theorem dX6_inverse_7 : decode cX6_inverse 7 = .ok (.if_icmp .ge 23, 3) := by decide +kernel
theorem dX6_inverse_10 : decode cX6_inverse 10 = .ok (.iload_n 1, 1) := by decide +kernel
theorem dX6_inverse_11 : decode cX6_inverse 11 = .ok (.iload_n 2, 1) := by decide +kernel
theorem dX6_inverse_12 : decode cX6_inverse 12 = .ok (.imul, 1) := by decide +kernel
theorem dX6_inverse_13 : decode cX6_inverse 13 = .ok (.aload_n 0, 1) := by decide +kernel
theorem dX6_inverse_14 : decode cX6_inverse 14 = .ok (.getfield 25, 3) := by decide +kernel
theorem dX6_inverse_17 : decode cX6_inverse 17 = .ok (.irem, 1) := by decide +kernel
theorem dX6_inverse_18 : decode cX6_inverse 18 = .ok (.iconst 1, 1) := by decide +kernel
theorem dX6_inverse_19 : decode cX6_inverse 19 = .ok (.if_icmp .ne 5, 3) := by decide +kernel
theorem dX6_inverse_22 : decode cX6_inverse 22 = .ok (.iload_n 2, 1) := by decide +kernel
theorem dX6_inverse_23 : decode cX6_inverse 23 = .ok (.ireturn, 1) := by decide +kernel
theorem dX6_inverse_24 : decode cX6_inverse 24 = .ok (.iinc 2 1, 3) := by decide +kernel
theorem dX6_inverse_27 : decode cX6_inverse 27 = .ok (.goto (-25), 3) := by decide +kernel
theorem dX6_inverse_30 : decode cX6_inverse 30 = .ok (.iconst 1, 1) := by decide +kernel
theorem dX6_inverse_31 : decode cX6_inverse 31 = .ok (.ireturn, 1) := by decide +kernel
theorem dX7_init_0 : decode cX7_init 0 = .ok (.aload_n 0, 1) := by decide +kernel
theorem dX7_init_1 : decode cX7_init 1 = .ok (.invokespecial 3, 3) := by decide +kernel
