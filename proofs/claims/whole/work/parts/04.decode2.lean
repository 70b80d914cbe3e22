theorem dX7_init_4 : decode cX7_init 4 = .ok (.aload_n 0, 1) := by decide +kernel
theorem dX7_init_5 : decode cX7_init 5 = .ok (.bipush 64, 2) := by decide +kernel
theorem dX7_init_7 : decode cX7_init 7 = .ok (.newarray .int, 2) := by decide +kernel
theorem dX7_init_9 : decode cX7_init 9 = .ok (.putfield 9, 3) := by decide +kernel
theorem dX7_init_12 : decode cX7_init 12 = .ok (.aload_n 0, 1) := by decide +kernel
theorem dX7_init_13 : decode cX7_init 13 = .ok (.iload_n 1, 1) := by decide +kernel
theorem dX7_init_14 : decode cX7_init 14 = .ok (.putfield 15, 3) := by decide +kernel
theorem dX7_init_17 : decode cX7_init 17 = .ok (.return_, 1) := by decide +kernel
theorem dX7_has_0 : decode cX7_has 0 = .ok (.iload_n 1, 1) := by decide +kernel
theorem dX7_has_1 : decode cX7_has 1 = .ok (.ifCond .lt 15, 3) := by decide +kernel
theorem dX7_has_4 : decode cX7_has 4 = .ok (.iload_n 1, 1) := by decide +kernel
theorem dX7_has_5 : decode cX7_has 5 = .ok (.aload_n 0, 1) := by decide +kernel
theorem dX7_has_6 : decode cX7_has 6 = .ok (.getfield 15, 3) := by decide +kernel
theorem dX7_has_9 : decode cX7_has 9 = .ok (.if_icmp .ge 7, 3) := by decide +kernel
theorem dX7_has_12 : decode cX7_has 12 = .ok (.iconst 1, 1) := by decide +kernel
theorem dX7_has_13 : decode cX7_has 13 = .ok (.goto 4, 3) := by decide +kernel
theorem dX7_has_16 : decode cX7_has 16 = .ok (.iconst 0, 1) := by decide +kernel
theorem dX7_has_17 : decode cX7_has 17 = .ok (.ireturn, 1) := by decide +kernel
theorem dX7_turned_0 : decode cX7_turned 0 = .ok (.aload_n 0, 1) := by decide +kernel
theorem dX7_turned_1 : decode cX7_turned 1 = .ok (.getfield 9, 3) := by decide +kernel
theorem dX7_turned_4 : decode cX7_turned 4 = .ok (.iload_n 1, 1) := by decide +kernel
theorem dX7_turned_5 : decode cX7_turned 5 = .ok (.bipush 8, 2) := by decide +kernel
theorem dX7_turned_7 : decode cX7_turned 7 = .ok (.imul, 1) := by decide +kernel
theorem dX7_turned_8 : decode cX7_turned 8 = .ok (.iload_n 2, 1) := by decide +kernel
theorem dX7_turned_9 : decode cX7_turned 9 = .ok (.iadd, 1) := by decide +kernel
theorem dX7_turned_10 : decode cX7_turned 10 = .ok (.iaload, 1) := by decide +kernel
theorem dX7_turned_11 : decode cX7_turned 11 = .ok (.ireturn, 1) := by decide +kernel
theorem dX7_put_0 : decode cX7_put 0 = .ok (.aload_n 0, 1) := by decide +kernel
theorem dX7_put_1 : decode cX7_put 1 = .ok (.getfield 9, 3) := by decide +kernel
theorem dX7_put_4 : decode cX7_put 4 = .ok (.iload_n 1, 1) := by decide +kernel
theorem dX7_put_5 : decode cX7_put 5 = .ok (.bipush 8, 2) := by decide +kernel
theorem dX7_put_7 : decode cX7_put 7 = .ok (.imul, 1) := by decide +kernel
theorem dX7_put_8 : decode cX7_put 8 = .ok (.iload_n 2, 1) := by decide +kernel
theorem dX7_put_9 : decode cX7_put 9 = .ok (.iadd, 1) := by decide +kernel
theorem dX7_put_10 : decode cX7_put 10 = .ok (.iload_n 3, 1) := by decide +kernel
theorem dX7_put_11 : decode cX7_put 11 = .ok (.iastore, 1) := by decide +kernel
theorem dX7_put_12 : decode cX7_put 12 = .ok (.return_, 1) := by decide +kernel
set_option maxRecDepth 20000 in
theorem ggX7_putRow_X5_image : GoodIn wsX7_putRow wsX5_image := goodIn_r _ [5] (by decide +kernel) (by decide +kernel)
set_option maxRecDepth 20000 in
theorem gX7_putRow_X5_image : GoodIn wsX7_putRow (va_wsS RX7 19 yX5_image wsX5_image) := goodIn_app (goodIn_of _ (by decide +kernel)) ggX7_putRow_X5_image
set_option maxRecDepth 20000 in
theorem ggX7_putRow_X7_put : GoodIn wsX7_putRow wsX7_put := goodIn_r _ [10, 11, 12, 13] (by decide +kernel) (by decide +kernel)
set_option maxRecDepth 20000 in
theorem gX7_putRow_X7_put : GoodIn wsX7_putRow (wsV RX7 25 RX7 yX7_put wsX7_put) := goodIn_app (goodIn_of _ (by decide +kernel)) ggX7_putRow_X7_put
theorem dX7_putRow_0 : decode cX7_putRow 0 = .ok (.iconst 0, 1) := by decide +kernel
theorem dX7_putRow_1 : decode cX7_putRow 1 = .ok (.istore_n 3, 1) := by decide +kernel
theorem dX7_putRow_2 : decode cX7_putRow 2 = .ok (.iload_n 3, 1) := by decide +kernel
theorem dX7_putRow_3 : decode cX7_putRow 3 = .ok (.aload_n 0, 1) := by decide +kernel
theorem dX7_putRow_4 : decode cX7_putRow 4 = .ok (.getfield 15, 3) := by decide +kernel
theorem dX7_putRow_7 : decode cX7_putRow 7 = .ok (.if_icmp .ge 20, 3) := by decide +kernel
theorem dX7_putRow_10 : decode cX7_putRow 10 = .ok (.aload_n 0, 1) := by decide +kernel
theorem dX7_putRow_11 : decode cX7_putRow 11 = .ok (.iload_n 1, 1) := by decide +kernel
theorem dX7_putRow_12 : decode cX7_putRow 12 = .ok (.iload_n 3, 1) := by decide +kernel
theorem dX7_putRow_13 : decode cX7_putRow 13 = .ok (.iload_n 2, 1) := by decide +kernel
theorem dX7_putRow_14 : decode cX7_putRow 14 = .ok (.iload_n 3, 1) := by decide +kernel
theorem dX7_putRow_15 : decode cX7_putRow 15 = .ok (.invokestatic 19, 3) := by decide +kernel
theorem dX7_putRow_18 : decode cX7_putRow 18 = .ok (.invokevirtual 25, 3) := by decide +kernel
theorem dX7_putRow_21 : decode cX7_putRow 21 = .ok (.iinc 3 1, 3) := by decide +kernel
theorem dX7_putRow_24 : decode cX7_putRow 24 = .ok (.goto (-22), 3) := by decide +kernel
theorem dX7_putRow_27 : decode cX7_putRow 27 = .ok (.return_, 1) := by decide +kernel
theorem dX7_copy_0 : decode cX7_copy 0 = .ok (.aload_n 0, 1) := by decide +kernel
theorem dX7_copy_1 : decode cX7_copy 1 = .ok (.aload_n 1, 1) := by decide +kernel
theorem dX7_copy_2 : decode cX7_copy 2 = .ok (.getfield 15, 3) := by decide +kernel
theorem dX7_copy_5 : decode cX7_copy 5 = .ok (.putfield 15, 3) := by decide +kernel
theorem dX7_copy_8 : decode cX7_copy 8 = .ok (.aload_n 1, 1) := by decide +kernel
theorem dX7_copy_9 : decode cX7_copy 9 = .ok (.getfield 9, 3) := by decide +kernel
theorem dX7_copy_12 : decode cX7_copy 12 = .ok (.iconst 0, 1) := by decide +kernel
theorem dX7_copy_13 : decode cX7_copy 13 = .ok (.aload_n 0, 1) := by decide +kernel
theorem dX7_copy_14 : decode cX7_copy 14 = .ok (.getfield 9, 3) := by decide +kernel
theorem dX7_copy_17 : decode cX7_copy 17 = .ok (.iconst 0, 1) := by decide +kernel
theorem dX7_copy_18 : decode cX7_copy 18 = .ok (.bipush 64, 2) := by decide +kernel
theorem dX7_copy_20 : decode cX7_copy 20 = .ok (.invokestatic 29, 3) := by decide +kernel
theorem dX7_copy_23 : decode cX7_copy 23 = .ok (.return_, 1) := by decide +kernel
set_option maxRecDepth 20000 in
theorem ggX7_makeContrary_X7_turned : GoodIn wsX7_makeContrary wsX7_turned := goodIn_r _ [6, 7, 12, 13] (by decide +kernel) (by decide +kernel)
set_option maxRecDepth 20000 in
theorem gX7_makeContrary_X7_turned : GoodIn wsX7_makeContrary (wsV RX7 35 RX7 yX7_turned wsX7_turned) := goodIn_app (goodIn_of _ (by decide +kernel)) ggX7_makeContrary_X7_turned
set_option maxRecDepth 20000 in
theorem ggX7_makeContrary_X7_put : GoodIn wsX7_makeContrary wsX7_put := goodIn_r _ [11, 7, 12, 13] (by decide +kernel) (by decide +kernel)
set_option maxRecDepth 20000 in
theorem gX7_makeContrary_X7_put : GoodIn wsX7_makeContrary (wsV RX7 25 RX7 yX7_put wsX7_put) := goodIn_app (goodIn_of _ (by decide +kernel)) ggX7_makeContrary_X7_put
theorem dX7_makeContrary_0 : decode cX7_makeContrary 0 = .ok (.aload_n 0, 1) := by decide +kernel
theorem dX7_makeContrary_1 : decode cX7_makeContrary 1 = .ok (.aload_n 1, 1) := by decide +kernel
theorem dX7_makeContrary_2 : decode cX7_makeContrary 2 = .ok (.getfield 15, 3) := by decide +kernel
theorem dX7_makeContrary_5 : decode cX7_makeContrary 5 = .ok (.putfield 15, 3) := by decide +kernel
theorem dX7_makeContrary_8 : decode cX7_makeContrary 8 = .ok (.iconst 0, 1) := by decide +kernel
theorem dX7_makeContrary_9 : decode cX7_makeContrary 9 = .ok (.istore_n 2, 1) := by decide +kernel
theorem dX7_makeContrary_10 : decode cX7_makeContrary 10 = .ok (.iload_n 2, 1) := by decide +kernel
theorem dX7_makeContrary_11 : decode cX7_makeContrary 11 = .ok (.aload_n 0, 1) := by decide +kernel
theorem dX7_makeContrary_12 : decode cX7_makeContrary 12 = .ok (.getfield 15, 3) := by decide +kernel
theorem dX7_makeContrary_15 : decode cX7_makeContrary 15 = .ok (.if_icmp .ge 37, 3) := by decide +kernel
theorem dX7_makeContrary_18 : decode cX7_makeContrary 18 = .ok (.iconst 0, 1) := by decide +kernel
theorem dX7_makeContrary_19 : decode cX7_makeContrary 19 = .ok (.istore_n 3, 1) := by decide +kernel
theorem dX7_makeContrary_20 : decode cX7_makeContrary 20 = .ok (.iload_n 3, 1) := by decide +kernel
theorem dX7_makeContrary_21 : decode cX7_makeContrary 21 = .ok (.aload_n 0, 1) := by decide +kernel
theorem dX7_makeContrary_22 : decode cX7_makeContrary 22 = .ok (.getfield 15, 3) := by decide +kernel
theorem dX7_makeContrary_25 : decode cX7_makeContrary 25 = .ok (.if_icmp .ge 21, 3) := by decide +kernel
theorem dX7_makeContrary_28 : decode cX7_makeContrary 28 = .ok (.aload_n 0, 1) := by decide +kernel
theorem dX7_makeContrary_29 : decode cX7_makeContrary 29 = .ok (.iload_n 2, 1) := by decide +kernel
theorem dX7_makeContrary_30 : decode cX7_makeContrary 30 = .ok (.aload_n 1, 1) := by decide +kernel
theorem dX7_makeContrary_31 : decode cX7_makeContrary 31 = .ok (.iload_n 2, 1) := by decide +kernel
theorem dX7_makeContrary_32 : decode cX7_makeContrary 32 = .ok (.iload_n 3, 1) := by decide +kernel
theorem dX7_makeContrary_33 : decode cX7_makeContrary 33 = .ok (.invokevirtual 35, 3) := by decide +kernel
theorem dX7_makeContrary_36 : decode cX7_makeContrary 36 = .ok (.iload_n 3, 1) := by decide +kernel
theorem dX7_makeContrary_37 : decode cX7_makeContrary 37 = .ok (.invokevirtual 25, 3) := by decide +kernel
theorem dX7_makeContrary_40 : decode cX7_makeContrary 40 = .ok (.iinc 3 1, 3) := by decide +kernel
theorem dX7_makeContrary_43 : decode cX7_makeContrary 43 = .ok (.goto (-23), 3) := by decide +kernel
theorem dX7_makeContrary_46 : decode cX7_makeContrary 46 = .ok (.iinc 2 1, 3) := by decide +kernel
theorem dX7_makeContrary_49 : decode cX7_makeContrary 49 = .ok (.goto (-39), 3) := by decide +kernel
theorem dX7_makeContrary_52 : decode cX7_makeContrary 52 = .ok (.return_, 1) := by decide +kernel
set_option maxRecDepth 20000 in
theorem ggX7_firstTornRow_X7_turned : GoodIn wsX7_firstTornRow wsX7_turned := goodIn_r _ [6, 7, 8, 9] (by decide +kernel) (by decide +kernel)
set_option maxRecDepth 20000 in
theorem gX7_firstTornRow_X7_turned : GoodIn wsX7_firstTornRow (wsV RX7 35 RX7 yX7_turned wsX7_turned) := goodIn_app (goodIn_of _ (by decide +kernel)) ggX7_firstTornRow_X7_turned
theorem dX7_firstTornRow_0 : decode cX7_firstTornRow 0 = .ok (.iconst 1, 1) := by decide +kernel
theorem dX7_firstTornRow_1 : decode cX7_firstTornRow 1 = .ok (.aload_n 0, 1) := by decide +kernel
theorem dX7_firstTornRow_2 : decode cX7_firstTornRow 2 = .ok (.getfield 15, 3) := by decide +kernel
theorem dX7_firstTornRow_5 : decode cX7_firstTornRow 5 = .ok (.ishl, 1) := by decide +kernel
theorem dX7_firstTornRow_6 : decode cX7_firstTornRow 6 = .ok (.iconst 1, 1) := by decide +kernel
theorem dX7_firstTornRow_7 : decode cX7_firstTornRow 7 = .ok (.isub, 1) := by decide +kernel
theorem dX7_firstTornRow_8 : decode cX7_firstTornRow 8 = .ok (.istore_n 1, 1) := by decide +kernel
theorem dX7_firstTornRow_9 : decode cX7_firstTornRow 9 = .ok (.iconst 0, 1) := by decide +kernel
theorem dX7_firstTornRow_10 : decode cX7_firstTornRow 10 = .ok (.istore_n 2, 1) := by decide +kernel
theorem dX7_firstTornRow_11 : decode cX7_firstTornRow 11 = .ok (.iload_n 2, 1) := by decide +kernel
theorem dX7_firstTornRow_12 : decode cX7_firstTornRow 12 = .ok (.aload_n 0, 1) := by decide +kernel
theorem dX7_firstTornRow_13 : decode cX7_firstTornRow 13 = .ok (.getfield 15, 3) := by decide +kernel
theorem dX7_firstTornRow_16 : decode cX7_firstTornRow 16 = .ok (.if_icmp .ge 48, 3) := by decide +kernel
theorem dX7_firstTornRow_19 : decode cX7_firstTornRow 19 = .ok (.iconst 0, 1) := by decide +kernel
theorem dX7_firstTornRow_20 : decode cX7_firstTornRow 20 = .ok (.istore_n 3, 1) := by decide +kernel
theorem dX7_firstTornRow_21 : decode cX7_firstTornRow 21 = .ok (.iconst 0, 1) := by decide +kernel
theorem dX7_firstTornRow_22 : decode cX7_firstTornRow 22 = .ok (.istore 4, 2) := by decide +kernel
theorem dX7_firstTornRow_24 : decode cX7_firstTornRow 24 = .ok (.iload 4, 2) := by decide +kernel
theorem dX7_firstTornRow_26 : decode cX7_firstTornRow 26 = .ok (.aload_n 0, 1) := by decide +kernel
theorem dX7_firstTornRow_27 : decode cX7_firstTornRow 27 = .ok (.getfield 15, 3) := by decide +kernel
theorem dX7_firstTornRow_30 : decode cX7_firstTornRow 30 = .ok (.if_icmp .ge 21, 3) := by decide +kernel
theorem dX7_firstTornRow_33 : decode cX7_firstTornRow 33 = .ok (.iload_n 3, 1) := by decide +kernel
theorem dX7_firstTornRow_34 : decode cX7_firstTornRow 34 = .ok (.iconst 1, 1) := by decide +kernel
theorem dX7_firstTornRow_35 : decode cX7_firstTornRow 35 = .ok (.aload_n 0, 1) := by decide +kernel
theorem dX7_firstTornRow_36 : decode cX7_firstTornRow 36 = .ok (.iload_n 2, 1) := by decide +kernel
theorem dX7_firstTornRow_37 : decode cX7_firstTornRow 37 = .ok (.iload 4, 2) := by decide +kernel
theorem dX7_firstTornRow_39 : decode cX7_firstTornRow 39 = .ok (.invokevirtual 35, 3) := by decide +kernel
theorem dX7_firstTornRow_42 : decode cX7_firstTornRow 42 = .ok (.ishl, 1) := by decide +kernel
theorem dX7_firstTornRow_43 : decode cX7_firstTornRow 43 = .ok (.ior, 1) := by decide +kernel
theorem dX7_firstTornRow_44 : decode cX7_firstTornRow 44 = .ok (.istore_n 3, 1) := by decide +kernel
theorem dX7_firstTornRow_45 : decode cX7_firstTornRow 45 = .ok (.iinc 4 1, 3) := by decide +kernel
theorem dX7_firstTornRow_48 : decode cX7_firstTornRow 48 = .ok (.goto (-24), 3) := by decide +kernel
theorem dX7_firstTornRow_51 : decode cX7_firstTornRow 51 = .ok (.iload_n 3, 1) := by decide +kernel
theorem dX7_firstTornRow_52 : decode cX7_firstTornRow 52 = .ok (.iload_n 1, 1) := by decide +kernel
theorem dX7_firstTornRow_53 : decode cX7_firstTornRow 53 = .ok (.if_icmp .eq 5, 3) := by decide +kernel
theorem dX7_firstTornRow_56 : decode cX7_firstTornRow 56 = .ok (.iload_n 2, 1) := by decide +kernel
theorem dX7_firstTornRow_57 : decode cX7_firstTornRow 57 = .ok (.ireturn, 1) := by decide +kernel
theorem dX7_firstTornRow_58 : decode cX7_firstTornRow 58 = .ok (.iinc 2 1, 3) := by decide +kernel
theorem dX7_firstTornRow_61 : decode cX7_firstTornRow 61 = .ok (.goto (-50), 3) := by decide +kernel
theorem dX7_firstTornRow_64 : decode cX7_firstTornRow 64 = .ok (.iconst (-1), 1) := by decide +kernel
theorem dX7_firstTornRow_65 : decode cX7_firstTornRow 65 = .ok (.ireturn, 1) := by decide +kernel
set_option maxRecDepth 20000 in
theorem ggX7_firstBrokenTriple_X7_turned : GoodIn wsX7_firstBrokenTriple wsX7_turned := goodIn_r _ [6, 7, 8, 9] (by decide +kernel) (by decide +kernel)
set_option maxRecDepth 20000 in
theorem gX7_firstBrokenTriple_X7_turned : GoodIn wsX7_firstBrokenTriple (wsV RX7 35 RX7 yX7_turned wsX7_turned) := goodIn_app (goodIn_of _ (by decide +kernel)) ggX7_firstBrokenTriple_X7_turned
theorem dX7_firstBrokenTriple_0 : decode cX7_firstBrokenTriple 0 = .ok (.iconst 0, 1) := by decide +kernel
theorem dX7_firstBrokenTriple_1 : decode cX7_firstBrokenTriple 1 = .ok (.istore_n 1, 1) := by decide +kernel
theorem dX7_firstBrokenTriple_2 : decode cX7_firstBrokenTriple 2 = .ok (.iload_n 1, 1) := by decide +kernel
theorem dX7_firstBrokenTriple_3 : decode cX7_firstBrokenTriple 3 = .ok (.aload_n 0, 1) := by decide +kernel
theorem dX7_firstBrokenTriple_4 : decode cX7_firstBrokenTriple 4 = .ok (.getfield 15, 3) := by decide +kernel
theorem dX7_firstBrokenTriple_7 : decode cX7_firstBrokenTriple 7 = .ok (.if_icmp .ge 83, 3) := by decide +kernel
theorem dX7_firstBrokenTriple_10 : decode cX7_firstBrokenTriple 10 = .ok (.iconst 0, 1) := by decide +kernel
theorem dX7_firstBrokenTriple_11 : decode cX7_firstBrokenTriple 11 = .ok (.istore_n 2, 1) := by decide +kernel
theorem dX7_firstBrokenTriple_12 : decode cX7_firstBrokenTriple 12 = .ok (.iload_n 2, 1) := by decide +kernel
theorem dX7_firstBrokenTriple_13 : decode cX7_firstBrokenTriple 13 = .ok (.aload_n 0, 1) := by decide +kernel
theorem dX7_firstBrokenTriple_14 : decode cX7_firstBrokenTriple 14 = .ok (.getfield 15, 3) := by decide +kernel
theorem dX7_firstBrokenTriple_17 : decode cX7_firstBrokenTriple 17 = .ok (.if_icmp .ge 67, 3) := by decide +kernel
theorem dX7_firstBrokenTriple_20 : decode cX7_firstBrokenTriple 20 = .ok (.iconst 0, 1) := by decide +kernel
theorem dX7_firstBrokenTriple_21 : decode cX7_firstBrokenTriple 21 = .ok (.istore_n 3, 1) := by decide +kernel
theorem dX7_firstBrokenTriple_22 : decode cX7_firstBrokenTriple 22 = .ok (.iload_n 3, 1) := by decide +kernel
theorem dX7_firstBrokenTriple_23 : decode cX7_firstBrokenTriple 23 = .ok (.aload_n 0, 1) := by decide +kernel
theorem dX7_firstBrokenTriple_24 : decode cX7_firstBrokenTriple 24 = .ok (.getfield 15, 3) := by decide +kernel
theorem dX7_firstBrokenTriple_27 : decode cX7_firstBrokenTriple 27 = .ok (.if_icmp .ge 51, 3) := by decide +kernel
theorem dX7_firstBrokenTriple_30 : decode cX7_firstBrokenTriple 30 = .ok (.aload_n 0, 1) := by decide +kernel
theorem dX7_firstBrokenTriple_31 : decode cX7_firstBrokenTriple 31 = .ok (.iload_n 1, 1) := by decide +kernel
theorem dX7_firstBrokenTriple_32 : decode cX7_firstBrokenTriple 32 = .ok (.aload_n 0, 1) := by decide +kernel
theorem dX7_firstBrokenTriple_33 : decode cX7_firstBrokenTriple 33 = .ok (.iload_n 2, 1) := by decide +kernel
theorem dX7_firstBrokenTriple_34 : decode cX7_firstBrokenTriple 34 = .ok (.iload_n 3, 1) := by decide +kernel
theorem dX7_firstBrokenTriple_35 : decode cX7_firstBrokenTriple 35 = .ok (.invokevirtual 35, 3) := by decide +kernel
theorem dX7_firstBrokenTriple_38 : decode cX7_firstBrokenTriple 38 = .ok (.invokevirtual 35, 3) := by decide +kernel
theorem dX7_firstBrokenTriple_41 : decode cX7_firstBrokenTriple 41 = .ok (.aload_n 0, 1) := by decide +kernel
theorem dX7_firstBrokenTriple_42 : decode cX7_firstBrokenTriple 42 = .ok (.aload_n 0, 1) := by decide +kernel
theorem dX7_firstBrokenTriple_43 : decode cX7_firstBrokenTriple 43 = .ok (.iload_n 1, 1) := by decide +kernel
theorem dX7_firstBrokenTriple_44 : decode cX7_firstBrokenTriple 44 = .ok (.iload_n 2, 1) := by decide +kernel
theorem dX7_firstBrokenTriple_45 : decode cX7_firstBrokenTriple 45 = .ok (.invokevirtual 35, 3) := by decide +kernel
theorem dX7_firstBrokenTriple_48 : decode cX7_firstBrokenTriple 48 = .ok (.aload_n 0, 1) := by decide +kernel
theorem dX7_firstBrokenTriple_49 : decode cX7_firstBrokenTriple 49 = .ok (.iload_n 1, 1) := by decide +kernel
theorem dX7_firstBrokenTriple_50 : decode cX7_firstBrokenTriple 50 = .ok (.iload_n 3, 1) := by decide +kernel
theorem dX7_firstBrokenTriple_51 : decode cX7_firstBrokenTriple 51 = .ok (.invokevirtual 35, 3) := by decide +kernel
theorem dX7_firstBrokenTriple_54 : decode cX7_firstBrokenTriple 54 = .ok (.invokevirtual 35, 3) := by decide +kernel
theorem dX7_firstBrokenTriple_57 : decode cX7_firstBrokenTriple 57 = .ok (.if_icmp .eq 15, 3) := by decide +kernel
theorem dX7_firstBrokenTriple_60 : decode cX7_firstBrokenTriple 60 = .ok (.iload_n 1, 1) := by decide +kernel
theorem dX7_firstBrokenTriple_61 : decode cX7_firstBrokenTriple 61 = .ok (.bipush 8, 2) := by decide +kernel
theorem dX7_firstBrokenTriple_63 : decode cX7_firstBrokenTriple 63 = .ok (.imul, 1) := by decide +kernel
theorem dX7_firstBrokenTriple_64 : decode cX7_firstBrokenTriple 64 = .ok (.iload_n 2, 1) := by decide +kernel
theorem dX7_firstBrokenTriple_65 : decode cX7_firstBrokenTriple 65 = .ok (.iadd, 1) := by decide +kernel
theorem dX7_firstBrokenTriple_66 : decode cX7_firstBrokenTriple 66 = .ok (.bipush 8, 2) := by decide +kernel
theorem dX7_firstBrokenTriple_68 : decode cX7_firstBrokenTriple 68 = .ok (.imul, 1) := by decide +kernel
theorem dX7_firstBrokenTriple_69 : decode cX7_firstBrokenTriple 69 = .ok (.iload_n 3, 1) := by decide +kernel
theorem dX7_firstBrokenTriple_70 : decode cX7_firstBrokenTriple 70 = .ok (.iadd, 1) := by decide +kernel
theorem dX7_firstBrokenTriple_71 : decode cX7_firstBrokenTriple 71 = .ok (.ireturn, 1) := by decide +kernel
theorem dX7_firstBrokenTriple_72 : decode cX7_firstBrokenTriple 72 = .ok (.iinc 3 1, 3) := by decide +kernel
theorem dX7_firstBrokenTriple_75 : decode cX7_firstBrokenTriple 75 = .ok (.goto (-53), 3) := by decide +kernel
theorem dX7_firstBrokenTriple_78 : decode cX7_firstBrokenTriple 78 = .ok (.iinc 2 1, 3) := by decide +kernel
theorem dX7_firstBrokenTriple_81 : decode cX7_firstBrokenTriple 81 = .ok (.goto (-69), 3) := by decide +kernel
theorem dX7_firstBrokenTriple_84 : decode cX7_firstBrokenTriple 84 = .ok (.iinc 1 1, 3) := by decide +kernel
theorem dX7_firstBrokenTriple_87 : decode cX7_firstBrokenTriple 87 = .ok (.goto (-85), 3) := by decide +kernel
theorem dX7_firstBrokenTriple_90 : decode cX7_firstBrokenTriple 90 = .ok (.iconst (-1), 1) := by decide +kernel
theorem dX7_firstBrokenTriple_91 : decode cX7_firstBrokenTriple 91 = .ok (.ireturn, 1) := by decide +kernel
set_option maxRecDepth 20000 in
theorem ggX7_isRack_X7_firstTornRow : GoodIn wsX7_isRack wsX7_firstTornRow := goodIn_r _ [5, 6, 7, 8, 9, 4, 10, 11, 16, 17] (by decide +kernel) (by decide +kernel)
set_option maxRecDepth 20000 in
theorem gX7_isRack_X7_firstTornRow : GoodIn wsX7_isRack (wsV RX7 38 RX7 yX7_firstTornRow wsX7_firstTornRow) := goodIn_app (goodIn_of _ (by decide +kernel)) ggX7_isRack_X7_firstTornRow
set_option maxRecDepth 20000 in
theorem ggX7_isRack_X7_firstBrokenTriple : GoodIn wsX7_isRack wsX7_firstBrokenTriple := goodIn_r _ [15, 6, 7, 8, 9, 4, 10, 11, 16, 17] (by decide +kernel) (by decide +kernel)
set_option maxRecDepth 20000 in
theorem gX7_isRack_X7_firstBrokenTriple : GoodIn wsX7_isRack (wsV RX7 42 RX7 yX7_firstBrokenTriple wsX7_firstBrokenTriple) := goodIn_app (goodIn_of _ (by decide +kernel)) ggX7_isRack_X7_firstBrokenTriple
theorem dX7_isRack_0 : decode cX7_isRack 0 = .ok (.aload_n 0, 1) := by decide +kernel
theorem dX7_isRack_1 : decode cX7_isRack 1 = .ok (.invokevirtual 38, 3) := by decide +kernel
theorem dX7_isRack_4 : decode cX7_isRack 4 = .ok (.iconst (-1), 1) := by decide +kernel
theorem dX7_isRack_5 : decode cX7_isRack 5 = .ok (.if_icmp .ne 15, 3) := by decide +kernel
theorem dX7_isRack_8 : decode cX7_isRack 8 = .ok (.aload_n 0, 1) := by decide +kernel
theorem dX7_isRack_9 : decode cX7_isRack 9 = .ok (.invokevirtual 42, 3) := by decide +kernel
theorem dX7_isRack_12 : decode cX7_isRack 12 = .ok (.iconst (-1), 1) := by decide +kernel
theorem dX7_isRack_13 : decode cX7_isRack 13 = .ok (.if_icmp .ne 7, 3) := by decide +kernel
theorem dX7_isRack_16 : decode cX7_isRack 16 = .ok (.iconst 1, 1) := by decide +kernel
theorem dX7_isRack_17 : decode cX7_isRack 17 = .ok (.goto 4, 3) := by decide +kernel
theorem dX7_isRack_20 : decode cX7_isRack 20 = .ok (.iconst 0, 1) := by decide +kernel
theorem dX7_isRack_21 : decode cX7_isRack 21 = .ok (.ireturn, 1) := by decide +kernel
set_option maxRecDepth 20000 in
theorem ggX7_isIdempotent_X7_turned : GoodIn wsX7_isIdempotent wsX7_turned := goodIn_r _ [6, 7, 8, 9] (by decide +kernel) (by decide +kernel)
set_option maxRecDepth 20000 in
theorem gX7_isIdempotent_X7_turned : GoodIn wsX7_isIdempotent (wsV RX7 35 RX7 yX7_turned wsX7_turned) := goodIn_app (goodIn_of _ (by decide +kernel)) ggX7_isIdempotent_X7_turned
theorem dX7_isIdempotent_0 : decode cX7_isIdempotent 0 = .ok (.iconst 0, 1) := by decide +kernel
theorem dX7_isIdempotent_1 : decode cX7_isIdempotent 1 = .ok (.istore_n 1, 1) := by decide +kernel
theorem dX7_isIdempotent_2 : decode cX7_isIdempotent 2 = .ok (.iload_n 1, 1) := by decide +kernel
theorem dX7_isIdempotent_3 : decode cX7_isIdempotent 3 = .ok (.aload_n 0, 1) := by decide +kernel
theorem dX7_isIdempotent_4 : decode cX7_isIdempotent 4 = .ok (.getfield 15, 3) := by decide +kernel
theorem dX7_isIdempotent_7 : decode cX7_isIdempotent 7 = .ok (.if_icmp .ge 21, 3) := by decide +kernel
theorem dX7_isIdempotent_10 : decode cX7_isIdempotent 10 = .ok (.aload_n 0, 1) := by decide +kernel
theorem dX7_isIdempotent_11 : decode cX7_isIdempotent 11 = .ok (.iload_n 1, 1) := by decide +kernel
theorem dX7_isIdempotent_12 : decode cX7_isIdempotent 12 = .ok (.iload_n 1, 1) := by decide +kernel
theorem dX7_isIdempotent_13 : decode cX7_isIdempotent 13 = .ok (.invokevirtual 35, 3) := by decide +kernel
theorem dX7_isIdempotent_16 : decode cX7_isIdempotent 16 = .ok (.iload_n 1, 1) := by decide +kernel
theorem dX7_isIdempotent_17 : decode cX7_isIdempotent 17 = .ok (.if_icmp .eq 5, 3) := by decide +kernel
theorem dX7_isIdempotent_20 : decode cX7_isIdempotent 20 = .ok (.iconst 0, 1) := by decide +kernel
theorem dX7_isIdempotent_21 : decode cX7_isIdempotent 21 = .ok (.ireturn, 1) := by decide +kernel
theorem dX7_isIdempotent_22 : decode cX7_isIdempotent 22 = .ok (.iinc 1 1, 3) := by decide +kernel
theorem dX7_isIdempotent_25 : decode cX7_isIdempotent 25 = .ok (.goto (-23), 3) := by decide +kernel
theorem dX7_isIdempotent_28 : decode cX7_isIdempotent 28 = .ok (.iconst 1, 1) := by decide +kernel
theorem dX7_isIdempotent_29 : decode cX7_isIdempotent 29 = .ok (.ireturn, 1) := by decide +kernel
set_option maxRecDepth 20000 in
theorem ggX7_isInvolutory_X7_turned : GoodIn wsX7_isInvolutory wsX7_turned := goodIn_r _ [6, 7, 8, 9] (by decide +kernel) (by decide +kernel)
set_option maxRecDepth 20000 in
theorem gX7_isInvolutory_X7_turned : GoodIn wsX7_isInvolutory (wsV RX7 35 RX7 yX7_turned wsX7_turned) := goodIn_app (goodIn_of _ (by decide +kernel)) ggX7_isInvolutory_X7_turned
theorem dX7_isInvolutory_0 : decode cX7_isInvolutory 0 = .ok (.iconst 0, 1) := by decide +kernel
theorem dX7_isInvolutory_1 : decode cX7_isInvolutory 1 = .ok (.istore_n 1, 1) := by decide +kernel
theorem dX7_isInvolutory_2 : decode cX7_isInvolutory 2 = .ok (.iload_n 1, 1) := by decide +kernel
theorem dX7_isInvolutory_3 : decode cX7_isInvolutory 3 = .ok (.aload_n 0, 1) := by decide +kernel
theorem dX7_isInvolutory_4 : decode cX7_isInvolutory 4 = .ok (.getfield 15, 3) := by decide +kernel
theorem dX7_isInvolutory_7 : decode cX7_isInvolutory 7 = .ok (.if_icmp .ge 42, 3) := by decide +kernel
theorem dX7_isInvolutory_10 : decode cX7_isInvolutory 10 = .ok (.iconst 0, 1) := by decide +kernel
theorem dX7_isInvolutory_11 : decode cX7_isInvolutory 11 = .ok (.istore_n 2, 1) := by decide +kernel
theorem dX7_isInvolutory_12 : decode cX7_isInvolutory 12 = .ok (.iload_n 2, 1) := by decide +kernel
theorem dX7_isInvolutory_13 : decode cX7_isInvolutory 13 = .ok (.aload_n 0, 1) := by decide +kernel
theorem dX7_isInvolutory_14 : decode cX7_isInvolutory 14 = .ok (.getfield 15, 3) := by decide +kernel
theorem dX7_isInvolutory_17 : decode cX7_isInvolutory 17 = .ok (.if_icmp .ge 26, 3) := by decide +kernel
theorem dX7_isInvolutory_20 : decode cX7_isInvolutory 20 = .ok (.aload_n 0, 1) := by decide +kernel
theorem dX7_isInvolutory_21 : decode cX7_isInvolutory 21 = .ok (.iload_n 1, 1) := by decide +kernel
theorem dX7_isInvolutory_22 : decode cX7_isInvolutory 22 = .ok (.aload_n 0, 1) := by decide +kernel
theorem dX7_isInvolutory_23 : decode cX7_isInvolutory 23 = .ok (.iload_n 1, 1) := by decide +kernel
theorem dX7_isInvolutory_24 : decode cX7_isInvolutory 24 = .ok (.iload_n 2, 1) := by decide +kernel
theorem dX7_isInvolutory_25 : decode cX7_isInvolutory 25 = .ok (.invokevirtual 35, 3) := by decide +kernel
theorem dX7_isInvolutory_28 : decode cX7_isInvolutory 28 = .ok (.invokevirtual 35, 3) := by decide +kernel
theorem dX7_isInvolutory_31 : decode cX7_isInvolutory 31 = .ok (.iload_n 2, 1) := by decide +kernel
theorem dX7_isInvolutory_32 : decode cX7_isInvolutory 32 = .ok (.if_icmp .eq 5, 3) := by decide +kernel
theorem dX7_isInvolutory_35 : decode cX7_isInvolutory 35 = .ok (.iconst 0, 1) := by decide +kernel
theorem dX7_isInvolutory_36 : decode cX7_isInvolutory 36 = .ok (.ireturn, 1) := by decide +kernel
theorem dX7_isInvolutory_37 : decode cX7_isInvolutory 37 = .ok (.iinc 2 1, 3) := by decide +kernel
theorem dX7_isInvolutory_40 : decode cX7_isInvolutory 40 = .ok (.goto (-28), 3) := by decide +kernel
theorem dX7_isInvolutory_43 : decode cX7_isInvolutory 43 = .ok (.iinc 1 1, 3) := by decide +kernel
theorem dX7_isInvolutory_46 : decode cX7_isInvolutory 46 = .ok (.goto (-44), 3) := by decide +kernel
theorem dX7_isInvolutory_49 : decode cX7_isInvolutory 49 = .ok (.iconst 1, 1) := by decide +kernel
theorem dX7_isInvolutory_50 : decode cX7_isInvolutory 50 = .ok (.ireturn, 1) := by decide +kernel
set_option maxRecDepth 20000 in
theorem ggX7_rowsDiffer_X7_rowsAreAlike : GoodIn wsX7_rowsDiffer wsX7_rowsAreAlike := goodIn_r _ [6, 1, 7, 8, 9, 5, 10, 11, 12, 13] (by decide +kernel) (by decide +kernel)
set_option maxRecDepth 20000 in
theorem gX7_rowsDiffer_X7_rowsAreAlike : GoodIn wsX7_rowsDiffer (wsV RX7 45 RX7 yX7_rowsAreAlike wsX7_rowsAreAlike) := goodIn_app (goodIn_of _ (by decide +kernel)) ggX7_rowsDiffer_X7_rowsAreAlike
theorem dX7_rowsDiffer_0 : decode cX7_rowsDiffer 0 = .ok (.iconst 0, 1) := by decide +kernel
theorem dX7_rowsDiffer_1 : decode cX7_rowsDiffer 1 = .ok (.istore_n 1, 1) := by decide +kernel
theorem dX7_rowsDiffer_2 : decode cX7_rowsDiffer 2 = .ok (.iload_n 1, 1) := by decide +kernel
theorem dX7_rowsDiffer_3 : decode cX7_rowsDiffer 3 = .ok (.aload_n 0, 1) := by decide +kernel
theorem dX7_rowsDiffer_4 : decode cX7_rowsDiffer 4 = .ok (.getfield 15, 3) := by decide +kernel
theorem dX7_rowsDiffer_7 : decode cX7_rowsDiffer 7 = .ok (.if_icmp .ge 38, 3) := by decide +kernel
theorem dX7_rowsDiffer_10 : decode cX7_rowsDiffer 10 = .ok (.iload_n 1, 1) := by decide +kernel
theorem dX7_rowsDiffer_11 : decode cX7_rowsDiffer 11 = .ok (.iconst 1, 1) := by decide +kernel
theorem dX7_rowsDiffer_12 : decode cX7_rowsDiffer 12 = .ok (.iadd, 1) := by decide +kernel
theorem dX7_rowsDiffer_13 : decode cX7_rowsDiffer 13 = .ok (.istore_n 2, 1) := by decide +kernel
theorem dX7_rowsDiffer_14 : decode cX7_rowsDiffer 14 = .ok (.iload_n 2, 1) := by decide +kernel
theorem dX7_rowsDiffer_15 : decode cX7_rowsDiffer 15 = .ok (.aload_n 0, 1) := by decide +kernel
theorem dX7_rowsDiffer_16 : decode cX7_rowsDiffer 16 = .ok (.getfield 15, 3) := by decide +kernel
theorem dX7_rowsDiffer_19 : decode cX7_rowsDiffer 19 = .ok (.if_icmp .ge 20, 3) := by decide +kernel
theorem dX7_rowsDiffer_22 : decode cX7_rowsDiffer 22 = .ok (.aload_n 0, 1) := by decide +kernel
theorem dX7_rowsDiffer_23 : decode cX7_rowsDiffer 23 = .ok (.iload_n 1, 1) := by decide +kernel
theorem dX7_rowsDiffer_24 : decode cX7_rowsDiffer 24 = .ok (.iload_n 2, 1) := by decide +kernel
theorem dX7_rowsDiffer_25 : decode cX7_rowsDiffer 25 = .ok (.invokevirtual 45, 3) := by decide +kernel
theorem dX7_rowsDiffer_28 : decode cX7_rowsDiffer 28 = .ok (.ifCond .eq 5, 3) := by decide +kernel
theorem dX7_rowsDiffer_31 : decode cX7_rowsDiffer 31 = .ok (.iconst 0, 1) := by decide +kernel
theorem dX7_rowsDiffer_32 : decode cX7_rowsDiffer 32 = .ok (.ireturn, 1) := by decide +kernel
theorem dX7_rowsDiffer_33 : decode cX7_rowsDiffer 33 = .ok (.iinc 2 1, 3) := by decide +kernel
theorem dX7_rowsDiffer_36 : decode cX7_rowsDiffer 36 = .ok (.goto (-22), 3) := by decide +kernel
theorem dX7_rowsDiffer_39 : decode cX7_rowsDiffer 39 = .ok (.iinc 1 1, 3) := by decide +kernel
theorem dX7_rowsDiffer_42 : decode cX7_rowsDiffer 42 = .ok (.goto (-40), 3) := by decide +kernel
theorem dX7_rowsDiffer_45 : decode cX7_rowsDiffer 45 = .ok (.iconst 1, 1) := by decide +kernel
theorem dX7_rowsDiffer_46 : decode cX7_rowsDiffer 46 = .ok (.ireturn, 1) := by decide +kernel
set_option maxRecDepth 20000 in
theorem ggX7_rowsAreAlike_X7_turned : GoodIn wsX7_rowsAreAlike wsX7_turned := goodIn_r _ [6, 7, 8, 9] (by decide +kernel) (by decide +kernel)
set_option maxRecDepth 20000 in
theorem gX7_rowsAreAlike_X7_turned : GoodIn wsX7_rowsAreAlike (wsV RX7 35 RX7 yX7_turned wsX7_turned) := goodIn_app (goodIn_of _ (by decide +kernel)) ggX7_rowsAreAlike_X7_turned
theorem dX7_rowsAreAlike_0 : decode cX7_rowsAreAlike 0 = .ok (.iconst 0, 1) := by decide +kernel
theorem dX7_rowsAreAlike_1 : decode cX7_rowsAreAlike 1 = .ok (.istore_n 3, 1) := by decide +kernel
theorem dX7_rowsAreAlike_2 : decode cX7_rowsAreAlike 2 = .ok (.iload_n 3, 1) := by decide +kernel
theorem dX7_rowsAreAlike_3 : decode cX7_rowsAreAlike 3 = .ok (.aload_n 0, 1) := by decide +kernel
theorem dX7_rowsAreAlike_4 : decode cX7_rowsAreAlike 4 = .ok (.getfield 15, 3) := by decide +kernel
theorem dX7_rowsAreAlike_7 : decode cX7_rowsAreAlike 7 = .ok (.if_icmp .ge 26, 3) := by decide +kernel
theorem dX7_rowsAreAlike_10 : decode cX7_rowsAreAlike 10 = .ok (.aload_n 0, 1) := by decide +kernel
theorem dX7_rowsAreAlike_11 : decode cX7_rowsAreAlike 11 = .ok (.iload_n 1, 1) := by decide +kernel
theorem dX7_rowsAreAlike_12 : decode cX7_rowsAreAlike 12 = .ok (.iload_n 3, 1) := by decide +kernel
theorem dX7_rowsAreAlike_13 : decode cX7_rowsAreAlike 13 = .ok (.invokevirtual 35, 3) := by decide +kernel
theorem dX7_rowsAreAlike_16 : decode cX7_rowsAreAlike 16 = .ok (.aload_n 0, 1) := by decide +kernel
theorem dX7_rowsAreAlike_17 : decode cX7_rowsAreAlike 17 = .ok (.iload_n 2, 1) := by decide +kernel
theorem dX7_rowsAreAlike_18 : decode cX7_rowsAreAlike 18 = .ok (.iload_n 3, 1) := by decide +kernel
theorem dX7_rowsAreAlike_19 : decode cX7_rowsAreAlike 19 = .ok (.invokevirtual 35, 3) := by decide +kernel
theorem dX7_rowsAreAlike_22 : decode cX7_rowsAreAlike 22 = .ok (.if_icmp .eq 5, 3) := by decide +kernel
theorem dX7_rowsAreAlike_25 : decode cX7_rowsAreAlike 25 = .ok (.iconst 0, 1) := by decide +kernel
theorem dX7_rowsAreAlike_26 : decode cX7_rowsAreAlike 26 = .ok (.ireturn, 1) := by decide +kernel
theorem dX7_rowsAreAlike_27 : decode cX7_rowsAreAlike 27 = .ok (.iinc 3 1, 3) := by decide +kernel
theorem dX7_rowsAreAlike_30 : decode cX7_rowsAreAlike 30 = .ok (.goto (-28), 3) := by decide +kernel
theorem dX7_rowsAreAlike_33 : decode cX7_rowsAreAlike 33 = .ok (.iconst 1, 1) := by decide +kernel
theorem dX7_rowsAreAlike_34 : decode cX7_rowsAreAlike 34 = .ok (.ireturn, 1) := by decide +kernel
set_option maxRecDepth 20000 in
theorem ggX7_columnsHaveAll_X7_turned : GoodIn wsX7_columnsHaveAll wsX7_turned := goodIn_r _ [6, 7, 8, 9] (by decide +kernel) (by decide +kernel)
set_option maxRecDepth 20000 in
theorem gX7_columnsHaveAll_X7_turned : GoodIn wsX7_columnsHaveAll (wsV RX7 35 RX7 yX7_turned wsX7_turned) := goodIn_app (goodIn_of _ (by decide +kernel)) ggX7_columnsHaveAll_X7_turned
theorem dX7_columnsHaveAll_0 : decode cX7_columnsHaveAll 0 = .ok (.iconst 1, 1) := by decide +kernel
theorem dX7_columnsHaveAll_1 : decode cX7_columnsHaveAll 1 = .ok (.aload_n 0, 1) := by decide +kernel
theorem dX7_columnsHaveAll_2 : decode cX7_columnsHaveAll 2 = .ok (.getfield 15, 3) := by decide +kernel
theorem dX7_columnsHaveAll_5 : decode cX7_columnsHaveAll 5 = .ok (.ishl, 1) := by decide +kernel
theorem dX7_columnsHaveAll_6 : decode cX7_columnsHaveAll 6 = .ok (.iconst 1, 1) := by decide +kernel
theorem dX7_columnsHaveAll_7 : decode cX7_columnsHaveAll 7 = .ok (.isub, 1) := by decide +kernel
theorem dX7_columnsHaveAll_8 : decode cX7_columnsHaveAll 8 = .ok (.istore_n 1, 1) := by decide +kernel
theorem dX7_columnsHaveAll_9 : decode cX7_columnsHaveAll 9 = .ok (.iconst 0, 1) := by decide +kernel
theorem dX7_columnsHaveAll_10 : decode cX7_columnsHaveAll 10 = .ok (.istore_n 2, 1) := by decide +kernel
theorem dX7_columnsHaveAll_11 : decode cX7_columnsHaveAll 11 = .ok (.iload_n 2, 1) := by decide +kernel
theorem dX7_columnsHaveAll_12 : decode cX7_columnsHaveAll 12 = .ok (.aload_n 0, 1) := by decide +kernel
theorem dX7_columnsHaveAll_13 : decode cX7_columnsHaveAll 13 = .ok (.getfield 15, 3) := by decide +kernel
theorem dX7_columnsHaveAll_16 : decode cX7_columnsHaveAll 16 = .ok (.if_icmp .ge 48, 3) := by decide +kernel
theorem dX7_columnsHaveAll_19 : decode cX7_columnsHaveAll 19 = .ok (.iconst 0, 1) := by decide +kernel
theorem dX7_columnsHaveAll_20 : decode cX7_columnsHaveAll 20 = .ok (.istore_n 3, 1) := by decide +kernel
theorem dX7_columnsHaveAll_21 : decode cX7_columnsHaveAll 21 = .ok (.iconst 0, 1) := by decide +kernel
theorem dX7_columnsHaveAll_22 : decode cX7_columnsHaveAll 22 = .ok (.istore 4, 2) := by decide +kernel
theorem dX7_columnsHaveAll_24 : decode cX7_columnsHaveAll 24 = .ok (.iload 4, 2) := by decide +kernel
theorem dX7_columnsHaveAll_26 : decode cX7_columnsHaveAll 26 = .ok (.aload_n 0, 1) := by decide +kernel
theorem dX7_columnsHaveAll_27 : decode cX7_columnsHaveAll 27 = .ok (.getfield 15, 3) := by decide +kernel
theorem dX7_columnsHaveAll_30 : decode cX7_columnsHaveAll 30 = .ok (.if_icmp .ge 21, 3) := by decide +kernel
theorem dX7_columnsHaveAll_33 : decode cX7_columnsHaveAll 33 = .ok (.iload_n 3, 1) := by decide +kernel
theorem dX7_columnsHaveAll_34 : decode cX7_columnsHaveAll 34 = .ok (.iconst 1, 1) := by decide +kernel
theorem dX7_columnsHaveAll_35 : decode cX7_columnsHaveAll 35 = .ok (.aload_n 0, 1) := by decide +kernel
theorem dX7_columnsHaveAll_36 : decode cX7_columnsHaveAll 36 = .ok (.iload 4, 2) := by decide +kernel
theorem dX7_columnsHaveAll_38 : decode cX7_columnsHaveAll 38 = .ok (.iload_n 2, 1) := by decide +kernel
theorem dX7_columnsHaveAll_39 : decode cX7_columnsHaveAll 39 = .ok (.invokevirtual 35, 3) := by decide +kernel
theorem dX7_columnsHaveAll_42 : decode cX7_columnsHaveAll 42 = .ok (.ishl, 1) := by decide +kernel
theorem dX7_columnsHaveAll_43 : decode cX7_columnsHaveAll 43 = .ok (.ior, 1) := by decide +kernel
theorem dX7_columnsHaveAll_44 : decode cX7_columnsHaveAll 44 = .ok (.istore_n 3, 1) := by decide +kernel
theorem dX7_columnsHaveAll_45 : decode cX7_columnsHaveAll 45 = .ok (.iinc 4 1, 3) := by decide +kernel
theorem dX7_columnsHaveAll_48 : decode cX7_columnsHaveAll 48 = .ok (.goto (-24), 3) := by decide +kernel
theorem dX7_columnsHaveAll_51 : decode cX7_columnsHaveAll 51 = .ok (.iload_n 3, 1) := by decide +kernel
theorem dX7_columnsHaveAll_52 : decode cX7_columnsHaveAll 52 = .ok (.iload_n 1, 1) := by decide +kernel
theorem dX7_columnsHaveAll_53 : decode cX7_columnsHaveAll 53 = .ok (.if_icmp .eq 5, 3) := by decide +kernel
theorem dX7_columnsHaveAll_56 : decode cX7_columnsHaveAll 56 = .ok (.iconst 0, 1) := by decide +kernel
theorem dX7_columnsHaveAll_57 : decode cX7_columnsHaveAll 57 = .ok (.ireturn, 1) := by decide +kernel
theorem dX7_columnsHaveAll_58 : decode cX7_columnsHaveAll 58 = .ok (.iinc 2 1, 3) := by decide +kernel
theorem dX7_columnsHaveAll_61 : decode cX7_columnsHaveAll 61 = .ok (.goto (-50), 3) := by decide +kernel
theorem dX7_columnsHaveAll_64 : decode cX7_columnsHaveAll 64 = .ok (.iconst 1, 1) := by decide +kernel
theorem dX7_columnsHaveAll_65 : decode cX7_columnsHaveAll 65 = .ok (.ireturn, 1) := by decide +kernel
theorem dX8_init_0 : decode cX8_init 0 = .ok (.aload_n 0, 1) := by decide +kernel
theorem dX8_init_1 : decode cX8_init 1 = .ok (.invokespecial 3, 3) := by decide +kernel
theorem dX8_init_4 : decode cX8_init 4 = .ok (.aload_n 0, 1) := by decide +kernel
theorem dX8_init_5 : decode cX8_init 5 = .ok (.bipush 64, 2) := by decide +kernel
theorem dX8_init_7 : decode cX8_init 7 = .ok (.newarray .int, 2) := by decide +kernel
theorem dX8_init_9 : decode cX8_init 9 = .ok (.putfield 9, 3) := by decide +kernel
theorem dX8_init_12 : decode cX8_init 12 = .ok (.aload_n 0, 1) := by decide +kernel
theorem dX8_init_13 : decode cX8_init 13 = .ok (.bipush 8, 2) := by decide +kernel
theorem dX8_init_15 : decode cX8_init 15 = .ok (.newarray .int, 2) := by decide +kernel
theorem dX8_init_17 : decode cX8_init 17 = .ok (.putfield 15, 3) := by decide +kernel
theorem dX8_init_20 : decode cX8_init 20 = .ok (.aload_n 0, 1) := by decide +kernel
theorem dX8_init_21 : decode cX8_init 21 = .ok (.bipush 8, 2) := by decide +kernel
theorem dX8_init_23 : decode cX8_init 23 = .ok (.newarray .int, 2) := by decide +kernel
theorem dX8_init_25 : decode cX8_init 25 = .ok (.putfield 18, 3) := by decide +kernel
theorem dX8_init_28 : decode cX8_init 28 = .ok (.return_, 1) := by decide +kernel
set_option maxRecDepth 20000 in
theorem ggX8_orderOf_J7_fill_53178 : GoodIn wsX8_orderOf wsJ7_fill_53178 := goodIn_r _ [5] (by decide +kernel) (by decide +kernel)
set_option maxRecDepth 20000 in
theorem gX8_orderOf_J7_fill_53178 : GoodIn wsX8_orderOf (va_wsS RX8 21 yJ7_fill_53178 wsJ7_fill_53178) := goodIn_app (goodIn_of _ (by decide +kernel)) ggX8_orderOf_J7_fill_53178
set_option maxRecDepth 20000 in
theorem ggX8_orderOf_X7_turned : GoodIn wsX8_orderOf wsX7_turned := goodIn_r _ [10, 11, 54, 55] (by decide +kernel) (by decide +kernel)
set_option maxRecDepth 20000 in
theorem gX8_orderOf_X7_turned : GoodIn wsX8_orderOf (wsV RX8 33 RX7 yX7_turned wsX7_turned) := goodIn_app (goodIn_of _ (by decide +kernel)) ggX8_orderOf_X7_turned
set_option maxRecDepth 20000 in
theorem ggX8_orderOf_X5_with : GoodIn wsX8_orderOf wsX5_with := goodIn_r _ [15] (by decide +kernel) (by decide +kernel)
set_option maxRecDepth 20000 in
theorem gX8_orderOf_X5_with : GoodIn wsX8_orderOf (va_wsS RX8 37 yX5_with wsX5_with) := goodIn_app (goodIn_of _ (by decide +kernel)) ggX8_orderOf_X5_with
set_option maxRecDepth 20000 in
theorem ggX8_orderOf_X8_sift : GoodIn wsX8_orderOf wsX8_sift := goodIn_r _ [20, 1, 21, 22, 14, 23, 24, 25, 26, 27, 28, 13, 15, 29, 30, 31, 51, 52, 53] (by decide +kernel) (by decide +kernel)
set_option maxRecDepth 20000 in
theorem gX8_orderOf_X8_sift : GoodIn wsX8_orderOf (wsV RX8 43 RX8 yX8_sift wsX8_sift) := goodIn_app (goodIn_of _ (by decide +kernel)) ggX8_orderOf_X8_sift
set_option maxRecDepth 20000 in
theorem ggX8_orderOf_X8_reachFrom : GoodIn wsX8_orderOf wsX8_reachFrom := goodIn_r _ [35, 36, 37, 1, 2, 3, 4, 5, 38, 39, 14, 40, 41, 42, 43, 44, 45, 46, 28, 13, 15, 21, 22, 23, 29, 30, 31, 27, 51, 52, 53] (by decide +kernel) (by decide +kernel)
set_option maxRecDepth 20000 in
theorem gX8_orderOf_X8_reachFrom : GoodIn wsX8_orderOf (wsV RX8 47 RX8 yX8_reachFrom wsX8_reachFrom) := goodIn_app (goodIn_of _ (by decide +kernel)) ggX8_orderOf_X8_reachFrom
set_option maxRecDepth 20000 in
theorem ggX8_orderOf_X8_siftProducts : GoodIn wsX8_orderOf wsX8_siftProducts := goodIn_r _ [50, 37, 1, 36, 29, 30, 14, 31, 27, 22, 23, 28, 13, 15, 21, 24, 25, 26, 16, 17, 18, 19, 20, 51, 52, 53] (by decide +kernel) (by decide +kernel)
set_option maxRecDepth 20000 in
theorem gX8_orderOf_X8_siftProducts : GoodIn wsX8_orderOf (wsV RX8 50 RX8 yX8_siftProducts wsX8_siftProducts) := goodIn_app (goodIn_of _ (by decide +kernel)) ggX8_orderOf_X8_siftProducts
theorem dX8_orderOf_0 : decode cX8_orderOf 0 = .ok (.aload_n 0, 1) := by decide +kernel
theorem dX8_orderOf_1 : decode cX8_orderOf 1 = .ok (.getfield 9, 3) := by decide +kernel
theorem dX8_orderOf_4 : decode cX8_orderOf 4 = .ok (.iconst (-1), 1) := by decide +kernel
theorem dX8_orderOf_5 : decode cX8_orderOf 5 = .ok (.invokestatic 21, 3) := by decide +kernel
theorem dX8_orderOf_8 : decode cX8_orderOf 8 = .ok (.iconst 0, 1) := by decide +kernel
theorem dX8_orderOf_9 : decode cX8_orderOf 9 = .ok (.istore_n 2, 1) := by decide +kernel
theorem dX8_orderOf_10 : decode cX8_orderOf 10 = .ok (.iload_n 2, 1) := by decide +kernel
theorem dX8_orderOf_11 : decode cX8_orderOf 11 = .ok (.aload_n 1, 1) := by decide +kernel
theorem dX8_orderOf_12 : decode cX8_orderOf 12 = .ok (.getfield 27, 3) := by decide +kernel
theorem dX8_orderOf_15 : decode cX8_orderOf 15 = .ok (.if_icmp .ge 52, 3) := by decide +kernel
theorem dX8_orderOf_18 : decode cX8_orderOf 18 = .ok (.iconst 0, 1) := by decide +kernel
theorem dX8_orderOf_19 : decode cX8_orderOf 19 = .ok (.istore_n 3, 1) := by decide +kernel
theorem dX8_orderOf_20 : decode cX8_orderOf 20 = .ok (.iconst 0, 1) := by decide +kernel
theorem dX8_orderOf_21 : decode cX8_orderOf 21 = .ok (.istore 4, 2) := by decide +kernel
theorem dX8_orderOf_23 : decode cX8_orderOf 23 = .ok (.iload 4, 2) := by decide +kernel
theorem dX8_orderOf_25 : decode cX8_orderOf 25 = .ok (.aload_n 1, 1) := by decide +kernel
theorem dX8_orderOf_26 : decode cX8_orderOf 26 = .ok (.getfield 27, 3) := by decide +kernel
theorem dX8_orderOf_29 : decode cX8_orderOf 29 = .ok (.if_icmp .ge 23, 3) := by decide +kernel
theorem dX8_orderOf_32 : decode cX8_orderOf 32 = .ok (.iload_n 3, 1) := by decide +kernel
theorem dX8_orderOf_33 : decode cX8_orderOf 33 = .ok (.iload 4, 2) := by decide +kernel
theorem dX8_orderOf_35 : decode cX8_orderOf 35 = .ok (.aload_n 1, 1) := by decide +kernel
theorem dX8_orderOf_36 : decode cX8_orderOf 36 = .ok (.iload_n 2, 1) := by decide +kernel
theorem dX8_orderOf_37 : decode cX8_orderOf 37 = .ok (.iload 4, 2) := by decide +kernel
theorem dX8_orderOf_39 : decode cX8_orderOf 39 = .ok (.invokevirtual 33, 3) := by decide +kernel
theorem dX8_orderOf_42 : decode cX8_orderOf 42 = .ok (.invokestatic 37, 3) := by decide +kernel
theorem dX8_orderOf_45 : decode cX8_orderOf 45 = .ok (.istore_n 3, 1) := by decide +kernel
theorem dX8_orderOf_46 : decode cX8_orderOf 46 = .ok (.iinc 4 1, 3) := by decide +kernel
theorem dX8_orderOf_49 : decode cX8_orderOf 49 = .ok (.goto (-26), 3) := by decide +kernel
theorem dX8_orderOf_52 : decode cX8_orderOf 52 = .ok (.aload_n 0, 1) := by decide +kernel
theorem dX8_orderOf_53 : decode cX8_orderOf 53 = .ok (.iload_n 3, 1) := by decide +kernel
theorem dX8_orderOf_54 : decode cX8_orderOf 54 = .ok (.aload_n 1, 1) := by decide +kernel
theorem dX8_orderOf_55 : decode cX8_orderOf 55 = .ok (.getfield 27, 3) := by decide +kernel
theorem dX8_orderOf_58 : decode cX8_orderOf 58 = .ok (.invokevirtual 43, 3) := by decide +kernel
theorem dX8_orderOf_61 : decode cX8_orderOf 61 = .ok (.iinc 2 1, 3) := by decide +kernel
theorem dX8_orderOf_64 : decode cX8_orderOf 64 = .ok (.goto (-54), 3) := by decide +kernel
theorem dX8_orderOf_67 : decode cX8_orderOf 67 = .ok (.iconst 1, 1) := by decide +kernel
theorem dX8_orderOf_68 : decode cX8_orderOf 68 = .ok (.istore_n 2, 1) := by decide +kernel
theorem dX8_orderOf_69 : decode cX8_orderOf 69 = .ok (.iconst 0, 1) := by decide +kernel
theorem dX8_orderOf_70 : decode cX8_orderOf 70 = .ok (.istore_n 3, 1) := by decide +kernel
theorem dX8_orderOf_71 : decode cX8_orderOf 71 = .ok (.iload_n 3, 1) := by decide +kernel
theorem dX8_orderOf_72 : decode cX8_orderOf 72 = .ok (.aload_n 1, 1) := by decide +kernel
theorem dX8_orderOf_73 : decode cX8_orderOf 73 = .ok (.getfield 27, 3) := by decide +kernel
theorem dX8_orderOf_76 : decode cX8_orderOf 76 = .ok (.if_icmp .ge 36, 3) := by decide +kernel
theorem dX8_orderOf_79 : decode cX8_orderOf 79 = .ok (.aload_n 0, 1) := by decide +kernel
theorem dX8_orderOf_80 : decode cX8_orderOf 80 = .ok (.iload_n 3, 1) := by decide +kernel
theorem dX8_orderOf_81 : decode cX8_orderOf 81 = .ok (.aload_n 1, 1) := by decide +kernel
theorem dX8_orderOf_82 : decode cX8_orderOf 82 = .ok (.getfield 27, 3) := by decide +kernel
theorem dX8_orderOf_85 : decode cX8_orderOf 85 = .ok (.invokevirtual 47, 3) := by decide +kernel
theorem dX8_orderOf_88 : decode cX8_orderOf 88 = .ok (.istore 4, 2) := by decide +kernel
theorem dX8_orderOf_90 : decode cX8_orderOf 90 = .ok (.iload_n 2, 1) := by decide +kernel
theorem dX8_orderOf_91 : decode cX8_orderOf 91 = .ok (.iload 4, 2) := by decide +kernel
theorem dX8_orderOf_93 : decode cX8_orderOf 93 = .ok (.imul, 1) := by decide +kernel
theorem dX8_orderOf_94 : decode cX8_orderOf 94 = .ok (.istore_n 2, 1) := by decide +kernel
theorem dX8_orderOf_95 : decode cX8_orderOf 95 = .ok (.aload_n 0, 1) := by decide +kernel
theorem dX8_orderOf_96 : decode cX8_orderOf 96 = .ok (.iload_n 3, 1) := by decide +kernel
theorem dX8_orderOf_97 : decode cX8_orderOf 97 = .ok (.iload 4, 2) := by decide +kernel
theorem dX8_orderOf_99 : decode cX8_orderOf 99 = .ok (.aload_n 1, 1) := by decide +kernel
theorem dX8_orderOf_100 : decode cX8_orderOf 100 = .ok (.getfield 27, 3) := by decide +kernel
theorem dX8_orderOf_103 : decode cX8_orderOf 103 = .ok (.invokevirtual 50, 3) := by decide +kernel
theorem dX8_orderOf_106 : decode cX8_orderOf 106 = .ok (.iinc 3 1, 3) := by decide +kernel
theorem dX8_orderOf_109 : decode cX8_orderOf 109 = .ok (.goto (-38), 3) := by decide +kernel
theorem dX8_orderOf_112 : decode cX8_orderOf 112 = .ok (.iload_n 2, 1) := by decide +kernel
theorem dX8_orderOf_113 : decode cX8_orderOf 113 = .ok (.ireturn, 1) := by decide +kernel
set_option maxRecDepth 20000 in
theorem ggX8_sift_X5_image : GoodIn wsX8_sift wsX5_image := goodIn_r _ [5] (by decide +kernel) (by decide +kernel)
set_option maxRecDepth 20000 in
theorem gX8_sift_X5_image : GoodIn wsX8_sift (va_wsS RX8 54 yX5_image wsX5_image) := goodIn_app (goodIn_of _ (by decide +kernel)) ggX8_sift_X5_image
set_option maxRecDepth 20000 in
theorem ggX8_sift_X5_contrary : GoodIn wsX8_sift wsX5_contrary := goodIn_r _ [8, 9, 3, 4, 5, 10, 11, 12] (by decide +kernel) (by decide +kernel)
set_option maxRecDepth 20000 in
theorem gX8_sift_X5_contrary : GoodIn wsX8_sift (va_wsS RX8 57 yX5_contrary wsX5_contrary) := goodIn_app (goodIn_of _ (by decide +kernel)) ggX8_sift_X5_contrary
set_option maxRecDepth 20000 in
theorem ggX8_sift_X5_after : GoodIn wsX8_sift wsX5_after := goodIn_r _ [15, 9, 3, 4, 5, 10, 11, 12] (by decide +kernel) (by decide +kernel)
set_option maxRecDepth 20000 in
theorem gX8_sift_X5_after : GoodIn wsX8_sift (va_wsS RX8 60 yX5_after wsX5_after) := goodIn_app (goodIn_of _ (by decide +kernel)) ggX8_sift_X5_after
theorem dX8_sift_0 : decode cX8_sift 0 = .ok (.iload_n 1, 1) := by decide +kernel
theorem dX8_sift_1 : decode cX8_sift 1 = .ok (.istore_n 3, 1) := by decide +kernel
theorem dX8_sift_2 : decode cX8_sift 2 = .ok (.iconst 0, 1) := by decide +kernel
theorem dX8_sift_3 : decode cX8_sift 3 = .ok (.istore 4, 2) := by decide +kernel
theorem dX8_sift_5 : decode cX8_sift 5 = .ok (.iload 4, 2) := by decide +kernel
theorem dX8_sift_7 : decode cX8_sift 7 = .ok (.iload_n 2, 1) := by decide +kernel
theorem dX8_sift_8 : decode cX8_sift 8 = .ok (.if_icmp .ge 71, 3) := by decide +kernel
theorem dX8_sift_11 : decode cX8_sift 11 = .ok (.iload_n 3, 1) := by decide +kernel
theorem dX8_sift_12 : decode cX8_sift 12 = .ok (.iload 4, 2) := by decide +kernel
theorem dX8_sift_14 : decode cX8_sift 14 = .ok (.invokestatic 54, 3) := by decide +kernel
theorem dX8_sift_17 : decode cX8_sift 17 = .ok (.istore 5, 2) := by decide +kernel
theorem dX8_sift_19 : decode cX8_sift 19 = .ok (.iload 5, 2) := by decide +kernel
theorem dX8_sift_21 : decode cX8_sift 21 = .ok (.iload 4, 2) := by decide +kernel
theorem dX8_sift_23 : decode cX8_sift 23 = .ok (.if_icmp .eq 50, 3) := by decide +kernel
theorem dX8_sift_26 : decode cX8_sift 26 = .ok (.iload 4, 2) := by decide +kernel
theorem dX8_sift_28 : decode cX8_sift 28 = .ok (.bipush 8, 2) := by decide +kernel
theorem dX8_sift_30 : decode cX8_sift 30 = .ok (.imul, 1) := by decide +kernel
theorem dX8_sift_31 : decode cX8_sift 31 = .ok (.iload 5, 2) := by decide +kernel
theorem dX8_sift_33 : decode cX8_sift 33 = .ok (.iadd, 1) := by decide +kernel
theorem dX8_sift_34 : decode cX8_sift 34 = .ok (.istore 6, 2) := by decide +kernel
theorem dX8_sift_36 : decode cX8_sift 36 = .ok (.aload_n 0, 1) := by decide +kernel
theorem dX8_sift_37 : decode cX8_sift 37 = .ok (.getfield 9, 3) := by decide +kernel
theorem dX8_sift_40 : decode cX8_sift 40 = .ok (.iload 6, 2) := by decide +kernel
theorem dX8_sift_42 : decode cX8_sift 42 = .ok (.iaload, 1) := by decide +kernel
theorem dX8_sift_43 : decode cX8_sift 43 = .ok (.iconst (-1), 1) := by decide +kernel
theorem dX8_sift_44 : decode cX8_sift 44 = .ok (.if_icmp .ne 12, 3) := by decide +kernel
theorem dX8_sift_47 : decode cX8_sift 47 = .ok (.aload_n 0, 1) := by decide +kernel
theorem dX8_sift_48 : decode cX8_sift 48 = .ok (.getfield 9, 3) := by decide +kernel
theorem dX8_sift_51 : decode cX8_sift 51 = .ok (.iload 6, 2) := by decide +kernel
theorem dX8_sift_53 : decode cX8_sift 53 = .ok (.iload_n 3, 1) := by decide +kernel
theorem dX8_sift_54 : decode cX8_sift 54 = .ok (.iastore, 1) := by decide +kernel
theorem dX8_sift_55 : decode cX8_sift 55 = .ok (.return_, 1) := by decide +kernel
theorem dX8_sift_56 : decode cX8_sift 56 = .ok (.aload_n 0, 1) := by decide +kernel
theorem dX8_sift_57 : decode cX8_sift 57 = .ok (.getfield 9, 3) := by decide +kernel
theorem dX8_sift_60 : decode cX8_sift 60 = .ok (.iload 6, 2) := by decide +kernel
theorem dX8_sift_62 : decode cX8_sift 62 = .ok (.iaload, 1) := by decide +kernel
theorem dX8_sift_63 : decode cX8_sift 63 = .ok (.iload_n 2, 1) := by decide +kernel
theorem dX8_sift_64 : decode cX8_sift 64 = .ok (.invokestatic 57, 3) := by decide +kernel
theorem dX8_sift_67 : decode cX8_sift 67 = .ok (.iload_n 3, 1) := by decide +kernel
theorem dX8_sift_68 : decode cX8_sift 68 = .ok (.iload_n 2, 1) := by decide +kernel
theorem dX8_sift_69 : decode cX8_sift 69 = .ok (.invokestatic 60, 3) := by decide +kernel
theorem dX8_sift_72 : decode cX8_sift 72 = .ok (.istore_n 3, 1) := by decide +kernel
theorem dX8_sift_73 : decode cX8_sift 73 = .ok (.iinc 4 1, 3) := by decide +kernel
theorem dX8_sift_76 : decode cX8_sift 76 = .ok (.goto (-71), 3) := by decide +kernel
theorem dX8_sift_79 : decode cX8_sift 79 = .ok (.return_, 1) := by decide +kernel
set_option maxRecDepth 20000 in
theorem ggX8_reachFrom_J7_fill_53178 : GoodIn wsX8_reachFrom wsJ7_fill_53178 := goodIn_r _ [7] (by decide +kernel) (by decide +kernel)
set_option maxRecDepth 20000 in
theorem gX8_reachFrom_J7_fill_53178 : GoodIn wsX8_reachFrom (va_wsS RX8 21 yJ7_fill_53178 wsJ7_fill_53178) := goodIn_app (goodIn_of _ (by decide +kernel)) ggX8_reachFrom_J7_fill_53178
set_option maxRecDepth 20000 in
theorem ggX8_reachFrom_X5_identity : GoodIn wsX8_reachFrom wsX5_identity := goodIn_r _ [11, 12, 13, 10, 14, 15, 16, 17, 18, 19, 20] (by decide +kernel) (by decide +kernel)
set_option maxRecDepth 20000 in
theorem gX8_reachFrom_X5_identity : GoodIn wsX8_reachFrom (va_wsS RX8 63 yX5_identity wsX5_identity) := goodIn_app (goodIn_of _ (by decide +kernel)) ggX8_reachFrom_X5_identity
set_option maxRecDepth 20000 in
theorem ggX8_reachFrom_X5_image : GoodIn wsX8_reachFrom wsX5_image := goodIn_r _ [23] (by decide +kernel) (by decide +kernel)
set_option maxRecDepth 20000 in
theorem gX8_reachFrom_X5_image : GoodIn wsX8_reachFrom (va_wsS RX8 54 yX5_image wsX5_image) := goodIn_app (goodIn_of _ (by decide +kernel)) ggX8_reachFrom_X5_image
set_option maxRecDepth 20000 in
theorem ggX8_reachFrom_X5_after : GoodIn wsX8_reachFrom wsX5_after := goodIn_r _ [26, 27, 22, 10, 23, 18, 19, 20] (by decide +kernel) (by decide +kernel)
set_option maxRecDepth 20000 in
theorem gX8_reachFrom_X5_after : GoodIn wsX8_reachFrom (va_wsS RX8 60 yX5_after wsX5_after) := goodIn_app (goodIn_of _ (by decide +kernel)) ggX8_reachFrom_X5_after
theorem dX8_reachFrom_0 : decode cX8_reachFrom 0 = .ok (.aload_n 0, 1) := by decide +kernel
theorem dX8_reachFrom_1 : decode cX8_reachFrom 1 = .ok (.getfield 15, 3) := by decide +kernel
theorem dX8_reachFrom_4 : decode cX8_reachFrom 4 = .ok (.iconst (-1), 1) := by decide +kernel
theorem dX8_reachFrom_5 : decode cX8_reachFrom 5 = .ok (.invokestatic 21, 3) := by decide +kernel
theorem dX8_reachFrom_8 : decode cX8_reachFrom 8 = .ok (.aload_n 0, 1) := by decide +kernel
theorem dX8_reachFrom_9 : decode cX8_reachFrom 9 = .ok (.getfield 15, 3) := by decide +kernel
theorem dX8_reachFrom_12 : decode cX8_reachFrom 12 = .ok (.iload_n 1, 1) := by decide +kernel
theorem dX8_reachFrom_13 : decode cX8_reachFrom 13 = .ok (.iload_n 2, 1) := by decide +kernel
theorem dX8_reachFrom_14 : decode cX8_reachFrom 14 = .ok (.invokestatic 63, 3) := by decide +kernel
theorem dX8_reachFrom_17 : decode cX8_reachFrom 17 = .ok (.iastore, 1) := by decide +kernel
theorem dX8_reachFrom_18 : decode cX8_reachFrom 18 = .ok (.aload_n 0, 1) := by decide +kernel
theorem dX8_reachFrom_19 : decode cX8_reachFrom 19 = .ok (.getfield 18, 3) := by decide +kernel
theorem dX8_reachFrom_22 : decode cX8_reachFrom 22 = .ok (.iconst 0, 1) := by decide +kernel
theorem dX8_reachFrom_23 : decode cX8_reachFrom 23 = .ok (.iload_n 1, 1) := by decide +kernel
theorem dX8_reachFrom_24 : decode cX8_reachFrom 24 = .ok (.iastore, 1) := by decide +kernel
theorem dX8_reachFrom_25 : decode cX8_reachFrom 25 = .ok (.iconst 1, 1) := by decide +kernel
theorem dX8_reachFrom_26 : decode cX8_reachFrom 26 = .ok (.istore_n 3, 1) := by decide +kernel
theorem dX8_reachFrom_27 : decode cX8_reachFrom 27 = .ok (.iconst 0, 1) := by decide +kernel
theorem dX8_reachFrom_28 : decode cX8_reachFrom 28 = .ok (.istore 4, 2) := by decide +kernel
theorem dX8_reachFrom_30 : decode cX8_reachFrom 30 = .ok (.iload 4, 2) := by decide +kernel
theorem dX8_reachFrom_32 : decode cX8_reachFrom 32 = .ok (.iload_n 3, 1) := by decide +kernel
theorem dX8_reachFrom_33 : decode cX8_reachFrom 33 = .ok (.if_icmp .ge 125, 3) := by decide +kernel
theorem dX8_reachFrom_36 : decode cX8_reachFrom 36 = .ok (.iload 4, 2) := by decide +kernel
theorem dX8_reachFrom_38 : decode cX8_reachFrom 38 = .ok (.iload_n 2, 1) := by decide +kernel
theorem dX8_reachFrom_39 : decode cX8_reachFrom 39 = .ok (.if_icmp .ge 119, 3) := by decide +kernel
theorem dX8_reachFrom_42 : decode cX8_reachFrom 42 = .ok (.aload_n 0, 1) := by decide +kernel
theorem dX8_reachFrom_43 : decode cX8_reachFrom 43 = .ok (.getfield 18, 3) := by decide +kernel
theorem dX8_reachFrom_46 : decode cX8_reachFrom 46 = .ok (.iload 4, 2) := by decide +kernel
theorem dX8_reachFrom_48 : decode cX8_reachFrom 48 = .ok (.iaload, 1) := by decide +kernel
theorem dX8_reachFrom_49 : decode cX8_reachFrom 49 = .ok (.istore 5, 2) := by decide +kernel
theorem dX8_reachFrom_51 : decode cX8_reachFrom 51 = .ok (.iload_n 1, 1) := by decide +kernel
theorem dX8_reachFrom_52 : decode cX8_reachFrom 52 = .ok (.bipush 8, 2) := by decide +kernel
theorem dX8_reachFrom_54 : decode cX8_reachFrom 54 = .ok (.imul, 1) := by decide +kernel
theorem dX8_reachFrom_55 : decode cX8_reachFrom 55 = .ok (.istore 6, 2) := by decide +kernel
theorem dX8_reachFrom_57 : decode cX8_reachFrom 57 = .ok (.iload 6, 2) := by decide +kernel
theorem dX8_reachFrom_59 : decode cX8_reachFrom 59 = .ok (.bipush 64, 2) := by decide +kernel
theorem dX8_reachFrom_61 : decode cX8_reachFrom 61 = .ok (.if_icmp .ge 91, 3) := by decide +kernel
theorem dX8_reachFrom_64 : decode cX8_reachFrom 64 = .ok (.aload_n 0, 1) := by decide +kernel
theorem dX8_reachFrom_65 : decode cX8_reachFrom 65 = .ok (.getfield 9, 3) := by decide +kernel
theorem dX8_reachFrom_68 : decode cX8_reachFrom 68 = .ok (.iload 6, 2) := by decide +kernel
theorem dX8_reachFrom_70 : decode cX8_reachFrom 70 = .ok (.iaload, 1) := by decide +kernel
theorem dX8_reachFrom_71 : decode cX8_reachFrom 71 = .ok (.iconst (-1), 1) := by decide +kernel
theorem dX8_reachFrom_72 : decode cX8_reachFrom 72 = .ok (.if_icmp .ne 8, 3) := by decide +kernel
theorem dX8_reachFrom_75 : decode cX8_reachFrom 75 = .ok (.iload 5, 2) := by decide +kernel
theorem dX8_reachFrom_77 : decode cX8_reachFrom 77 = .ok (.goto 15, 3) := by decide +kernel
theorem dX8_reachFrom_80 : decode cX8_reachFrom 80 = .ok (.aload_n 0, 1) := by decide +kernel
theorem dX8_reachFrom_81 : decode cX8_reachFrom 81 = .ok (.getfield 9, 3) := by decide +kernel
theorem dX8_reachFrom_84 : decode cX8_reachFrom 84 = .ok (.iload 6, 2) := by decide +kernel
theorem dX8_reachFrom_86 : decode cX8_reachFrom 86 = .ok (.iaload, 1) := by decide +kernel
theorem dX8_reachFrom_87 : decode cX8_reachFrom 87 = .ok (.iload 5, 2) := by decide +kernel
theorem dX8_reachFrom_89 : decode cX8_reachFrom 89 = .ok (.invokestatic 54, 3) := by decide +kernel
theorem dX8_reachFrom_92 : decode cX8_reachFrom 92 = .ok (.istore 7, 2) := by decide +kernel
theorem dX8_reachFrom_94 : decode cX8_reachFrom 94 = .ok (.aload_n 0, 1) := by decide +kernel
theorem dX8_reachFrom_95 : decode cX8_reachFrom 95 = .ok (.getfield 15, 3) := by decide +kernel
theorem dX8_reachFrom_98 : decode cX8_reachFrom 98 = .ok (.iload 7, 2) := by decide +kernel
theorem dX8_reachFrom_100 : decode cX8_reachFrom 100 = .ok (.iaload, 1) := by decide +kernel
theorem dX8_reachFrom_101 : decode cX8_reachFrom 101 = .ok (.iconst (-1), 1) := by decide +kernel
theorem dX8_reachFrom_102 : decode cX8_reachFrom 102 = .ok (.if_icmp .ne 44, 3) := by decide +kernel
theorem dX8_reachFrom_105 : decode cX8_reachFrom 105 = .ok (.iload_n 3, 1) := by decide +kernel
theorem dX8_reachFrom_106 : decode cX8_reachFrom 106 = .ok (.iload_n 2, 1) := by decide +kernel
theorem dX8_reachFrom_107 : decode cX8_reachFrom 107 = .ok (.if_icmp .ge 39, 3) := by decide +kernel
theorem dX8_reachFrom_110 : decode cX8_reachFrom 110 = .ok (.aload_n 0, 1) := by decide +kernel
theorem dX8_reachFrom_111 : decode cX8_reachFrom 111 = .ok (.getfield 15, 3) := by decide +kernel
theorem dX8_reachFrom_114 : decode cX8_reachFrom 114 = .ok (.iload 7, 2) := by decide +kernel
theorem dX8_reachFrom_116 : decode cX8_reachFrom 116 = .ok (.aload_n 0, 1) := by decide +kernel
theorem dX8_reachFrom_117 : decode cX8_reachFrom 117 = .ok (.getfield 9, 3) := by decide +kernel
theorem dX8_reachFrom_120 : decode cX8_reachFrom 120 = .ok (.iload 6, 2) := by decide +kernel
theorem dX8_reachFrom_122 : decode cX8_reachFrom 122 = .ok (.iaload, 1) := by decide +kernel
theorem dX8_reachFrom_123 : decode cX8_reachFrom 123 = .ok (.aload_n 0, 1) := by decide +kernel
theorem dX8_reachFrom_124 : decode cX8_reachFrom 124 = .ok (.getfield 15, 3) := by decide +kernel
theorem dX8_reachFrom_127 : decode cX8_reachFrom 127 = .ok (.iload 5, 2) := by decide +kernel
theorem dX8_reachFrom_129 : decode cX8_reachFrom 129 = .ok (.iaload, 1) := by decide +kernel
theorem dX8_reachFrom_130 : decode cX8_reachFrom 130 = .ok (.iload_n 2, 1) := by decide +kernel
theorem dX8_reachFrom_131 : decode cX8_reachFrom 131 = .ok (.invokestatic 60, 3) := by decide +kernel
theorem dX8_reachFrom_134 : decode cX8_reachFrom 134 = .ok (.iastore, 1) := by decide +kernel
theorem dX8_reachFrom_135 : decode cX8_reachFrom 135 = .ok (.aload_n 0, 1) := by decide +kernel
theorem dX8_reachFrom_136 : decode cX8_reachFrom 136 = .ok (.getfield 18, 3) := by decide +kernel
theorem dX8_reachFrom_139 : decode cX8_reachFrom 139 = .ok (.iload_n 3, 1) := by decide +kernel
theorem dX8_reachFrom_140 : decode cX8_reachFrom 140 = .ok (.iload 7, 2) := by decide +kernel
theorem dX8_reachFrom_142 : decode cX8_reachFrom 142 = .ok (.iastore, 1) := by decide +kernel
theorem dX8_reachFrom_143 : decode cX8_reachFrom 143 = .ok (.iinc 3 1, 3) := by decide +kernel
theorem dX8_reachFrom_146 : decode cX8_reachFrom 146 = .ok (.iinc 6 1, 3) := by decide +kernel
theorem dX8_reachFrom_149 : decode cX8_reachFrom 149 = .ok (.goto (-92), 3) := by decide +kernel
theorem dX8_reachFrom_152 : decode cX8_reachFrom 152 = .ok (.iinc 4 1, 3) := by decide +kernel
theorem dX8_reachFrom_155 : decode cX8_reachFrom 155 = .ok (.goto (-125), 3) := by decide +kernel
theorem dX8_reachFrom_158 : decode cX8_reachFrom 158 = .ok (.iload_n 3, 1) := by decide +kernel
theorem dX8_reachFrom_159 : decode cX8_reachFrom 159 = .ok (.ireturn, 1) := by decide +kernel
set_option maxRecDepth 20000 in
theorem ggX8_siftProducts_X5_after : GoodIn wsX8_siftProducts wsX5_after := goodIn_r _ [7, 8, 9, 6, 10, 11, 12, 13] (by decide +kernel) (by decide +kernel)
set_option maxRecDepth 20000 in
theorem gX8_siftProducts_X5_after : GoodIn wsX8_siftProducts (va_wsS RX8 60 yX5_after wsX5_after) := goodIn_app (goodIn_of _ (by decide +kernel)) ggX8_siftProducts_X5_after
set_option maxRecDepth 20000 in
theorem ggX8_siftProducts_X5_image : GoodIn wsX8_siftProducts wsX5_image := goodIn_r _ [10] (by decide +kernel) (by decide +kernel)
set_option maxRecDepth 20000 in
theorem gX8_siftProducts_X5_image : GoodIn wsX8_siftProducts (va_wsS RX8 54 yX5_image wsX5_image) := goodIn_app (goodIn_of _ (by decide +kernel)) ggX8_siftProducts_X5_image
set_option maxRecDepth 20000 in
theorem ggX8_siftProducts_X5_contrary : GoodIn wsX8_siftProducts wsX5_contrary := goodIn_r _ [17, 8, 9, 6, 10, 11, 12, 13] (by decide +kernel) (by decide +kernel)
set_option maxRecDepth 20000 in
theorem gX8_siftProducts_X5_contrary : GoodIn wsX8_siftProducts (va_wsS RX8 57 yX5_contrary wsX5_contrary) := goodIn_app (goodIn_of _ (by decide +kernel)) ggX8_siftProducts_X5_contrary
set_option maxRecDepth 20000 in
theorem ggX8_siftProducts_X8_sift : GoodIn wsX8_siftProducts wsX8_sift := goodIn_r _ [22, 2, 14, 9, 6, 10, 15, 16, 17, 8, 11, 12, 13, 4, 5, 7, 23, 24, 25] (by decide +kernel) (by decide +kernel)
set_option maxRecDepth 20000 in
theorem gX8_siftProducts_X8_sift : GoodIn wsX8_siftProducts (wsV RX8 43 RX8 yX8_sift wsX8_sift) := goodIn_app (goodIn_of _ (by decide +kernel)) ggX8_siftProducts_X8_sift
theorem dX8_siftProducts_0 : decode cX8_siftProducts 0 = .ok (.iconst 0, 1) := by decide +kernel
theorem dX8_siftProducts_1 : decode cX8_siftProducts 1 = .ok (.istore 4, 2) := by decide +kernel
theorem dX8_siftProducts_3 : decode cX8_siftProducts 3 = .ok (.iload 4, 2) := by decide +kernel
theorem dX8_siftProducts_5 : decode cX8_siftProducts 5 = .ok (.iload_n 2, 1) := by decide +kernel
theorem dX8_siftProducts_6 : decode cX8_siftProducts 6 = .ok (.if_icmp .ge 98, 3) := by decide +kernel
theorem dX8_siftProducts_9 : decode cX8_siftProducts 9 = .ok (.aload_n 0, 1) := by decide +kernel
theorem dX8_siftProducts_10 : decode cX8_siftProducts 10 = .ok (.getfield 18, 3) := by decide +kernel
theorem dX8_siftProducts_13 : decode cX8_siftProducts 13 = .ok (.iload 4, 2) := by decide +kernel
theorem dX8_siftProducts_15 : decode cX8_siftProducts 15 = .ok (.iaload, 1) := by decide +kernel
theorem dX8_siftProducts_16 : decode cX8_siftProducts 16 = .ok (.istore 5, 2) := by decide +kernel
theorem dX8_siftProducts_18 : decode cX8_siftProducts 18 = .ok (.iload_n 1, 1) := by decide +kernel
theorem dX8_siftProducts_19 : decode cX8_siftProducts 19 = .ok (.bipush 8, 2) := by decide +kernel
theorem dX8_siftProducts_21 : decode cX8_siftProducts 21 = .ok (.imul, 1) := by decide +kernel
theorem dX8_siftProducts_22 : decode cX8_siftProducts 22 = .ok (.istore 6, 2) := by decide +kernel
theorem dX8_siftProducts_24 : decode cX8_siftProducts 24 = .ok (.iload 6, 2) := by decide +kernel
theorem dX8_siftProducts_26 : decode cX8_siftProducts 26 = .ok (.bipush 64, 2) := by decide +kernel
theorem dX8_siftProducts_28 : decode cX8_siftProducts 28 = .ok (.if_icmp .ge 70, 3) := by decide +kernel
theorem dX8_siftProducts_31 : decode cX8_siftProducts 31 = .ok (.aload_n 0, 1) := by decide +kernel
theorem dX8_siftProducts_32 : decode cX8_siftProducts 32 = .ok (.getfield 9, 3) := by decide +kernel
theorem dX8_siftProducts_35 : decode cX8_siftProducts 35 = .ok (.iload 6, 2) := by decide +kernel
theorem dX8_siftProducts_37 : decode cX8_siftProducts 37 = .ok (.iaload, 1) := by decide +kernel
theorem dX8_siftProducts_38 : decode cX8_siftProducts 38 = .ok (.iconst (-1), 1) := by decide +kernel
theorem dX8_siftProducts_39 : decode cX8_siftProducts 39 = .ok (.if_icmp .eq 53, 3) := by decide +kernel
theorem dX8_siftProducts_42 : decode cX8_siftProducts 42 = .ok (.aload_n 0, 1) := by decide +kernel
theorem dX8_siftProducts_43 : decode cX8_siftProducts 43 = .ok (.getfield 9, 3) := by decide +kernel
theorem dX8_siftProducts_46 : decode cX8_siftProducts 46 = .ok (.iload 6, 2) := by decide +kernel
theorem dX8_siftProducts_48 : decode cX8_siftProducts 48 = .ok (.iaload, 1) := by decide +kernel
theorem dX8_siftProducts_49 : decode cX8_siftProducts 49 = .ok (.aload_n 0, 1) := by decide +kernel
theorem dX8_siftProducts_50 : decode cX8_siftProducts 50 = .ok (.getfield 15, 3) := by decide +kernel
theorem dX8_siftProducts_53 : decode cX8_siftProducts 53 = .ok (.iload 5, 2) := by decide +kernel
theorem dX8_siftProducts_55 : decode cX8_siftProducts 55 = .ok (.iaload, 1) := by decide +kernel
theorem dX8_siftProducts_56 : decode cX8_siftProducts 56 = .ok (.iload_n 3, 1) := by decide +kernel
theorem dX8_siftProducts_57 : decode cX8_siftProducts 57 = .ok (.invokestatic 60, 3) := by decide +kernel
theorem dX8_siftProducts_60 : decode cX8_siftProducts 60 = .ok (.istore 7, 2) := by decide +kernel
theorem dX8_siftProducts_62 : decode cX8_siftProducts 62 = .ok (.aload_n 0, 1) := by decide +kernel
theorem dX8_siftProducts_63 : decode cX8_siftProducts 63 = .ok (.getfield 15, 3) := by decide +kernel
theorem dX8_siftProducts_66 : decode cX8_siftProducts 66 = .ok (.iload 7, 2) := by decide +kernel
theorem dX8_siftProducts_68 : decode cX8_siftProducts 68 = .ok (.iload_n 1, 1) := by decide +kernel
theorem dX8_siftProducts_69 : decode cX8_siftProducts 69 = .ok (.invokestatic 54, 3) := by decide +kernel
theorem dX8_siftProducts_72 : decode cX8_siftProducts 72 = .ok (.iaload, 1) := by decide +kernel
theorem dX8_siftProducts_73 : decode cX8_siftProducts 73 = .ok (.iload_n 3, 1) := by decide +kernel
theorem dX8_siftProducts_74 : decode cX8_siftProducts 74 = .ok (.invokestatic 57, 3) := by decide +kernel
theorem dX8_siftProducts_77 : decode cX8_siftProducts 77 = .ok (.istore 8, 2) := by decide +kernel
theorem dX8_siftProducts_79 : decode cX8_siftProducts 79 = .ok (.aload_n 0, 1) := by decide +kernel
theorem dX8_siftProducts_80 : decode cX8_siftProducts 80 = .ok (.iload 8, 2) := by decide +kernel
theorem dX8_siftProducts_82 : decode cX8_siftProducts 82 = .ok (.iload 7, 2) := by decide +kernel
theorem dX8_siftProducts_84 : decode cX8_siftProducts 84 = .ok (.iload_n 3, 1) := by decide +kernel
theorem dX8_siftProducts_85 : decode cX8_siftProducts 85 = .ok (.invokestatic 60, 3) := by decide +kernel
theorem dX8_siftProducts_88 : decode cX8_siftProducts 88 = .ok (.iload_n 3, 1) := by decide +kernel
theorem dX8_siftProducts_89 : decode cX8_siftProducts 89 = .ok (.invokevirtual 43, 3) := by decide +kernel
theorem dX8_siftProducts_92 : decode cX8_siftProducts 92 = .ok (.iinc 6 1, 3) := by decide +kernel
theorem dX8_siftProducts_95 : decode cX8_siftProducts 95 = .ok (.goto (-71), 3) := by decide +kernel
theorem dX8_siftProducts_98 : decode cX8_siftProducts 98 = .ok (.iinc 4 1, 3) := by decide +kernel
theorem dX8_siftProducts_101 : decode cX8_siftProducts 101 = .ok (.goto (-98), 3) := by decide +kernel
theorem dX8_siftProducts_104 : decode cX8_siftProducts 104 = .ok (.return_, 1) := by decide +kernel
theorem dX9_init_0 : decode cX9_init 0 = .ok (.aload_n 0, 1) := by decide +kernel
theorem dX9_init_1 : decode cX9_init 1 = .ok (.invokespecial 3, 3) := by decide +kernel
theorem dX9_init_4 : decode cX9_init 4 = .ok (.aload_n 0, 1) := by decide +kernel
theorem dX9_init_5 : decode cX9_init 5 = .ok (.bipush 64, 2) := by decide +kernel
theorem dX9_init_7 : decode cX9_init 7 = .ok (.newarray .int, 2) := by decide +kernel
theorem dX9_init_9 : decode cX9_init 9 = .ok (.putfield 9, 3) := by decide +kernel
theorem dX9_init_12 : decode cX9_init 12 = .ok (.aload_n 0, 1) := by decide +kernel
theorem dX9_init_13 : decode cX9_init 13 = .ok (.iconst 2, 1) := by decide +kernel
theorem dX9_init_14 : decode cX9_init 14 = .ok (.putfield 15, 3) := by decide +kernel
theorem dX9_init_17 : decode cX9_init 17 = .ok (.return_, 1) := by decide +kernel
set_option maxRecDepth 20000 in
theorem ggX9_flatten_J7_fill_53178 : GoodIn wsX9_flatten wsJ7_fill_53178 := goodIn_r _ [5] (by decide +kernel) (by decide +kernel)
set_option maxRecDepth 20000 in
theorem gX9_flatten_J7_fill_53178 : GoodIn wsX9_flatten (va_wsS RX9 19 yJ7_fill_53178 wsJ7_fill_53178) := goodIn_app (goodIn_of _ (by decide +kernel)) ggX9_flatten_J7_fill_53178
theorem dX9_flatten_0 : decode cX9_flatten 0 = .ok (.aload_n 0, 1) := by decide +kernel
theorem dX9_flatten_1 : decode cX9_flatten 1 = .ok (.getfield 9, 3) := by decide +kernel
theorem dX9_flatten_4 : decode cX9_flatten 4 = .ok (.iconst 0, 1) := by decide +kernel
theorem dX9_flatten_5 : decode cX9_flatten 5 = .ok (.invokestatic 19, 3) := by decide +kernel
theorem dX9_flatten_8 : decode cX9_flatten 8 = .ok (.return_, 1) := by decide +kernel
theorem dX9_value_0 : decode cX9_value 0 = .ok (.aload_n 0, 1) := by decide +kernel
theorem dX9_value_1 : decode cX9_value 1 = .ok (.getfield 9, 3) := by decide +kernel
theorem dX9_value_4 : decode cX9_value 4 = .ok (.iload_n 1, 1) := by decide +kernel
theorem dX9_value_5 : decode cX9_value 5 = .ok (.bipush 8, 2) := by decide +kernel
theorem dX9_value_7 : decode cX9_value 7 = .ok (.imul, 1) := by decide +kernel
theorem dX9_value_8 : decode cX9_value 8 = .ok (.iload_n 2, 1) := by decide +kernel
theorem dX9_value_9 : decode cX9_value 9 = .ok (.iadd, 1) := by decide +kernel
theorem dX9_value_10 : decode cX9_value 10 = .ok (.iaload, 1) := by decide +kernel
theorem dX9_value_11 : decode cX9_value 11 = .ok (.ireturn, 1) := by decide +kernel
theorem dX9_put_0 : decode cX9_put 0 = .ok (.aload_n 0, 1) := by decide +kernel
theorem dX9_put_1 : decode cX9_put 1 = .ok (.getfield 9, 3) := by decide +kernel
theorem dX9_put_4 : decode cX9_put 4 = .ok (.iload_n 1, 1) := by decide +kernel
theorem dX9_put_5 : decode cX9_put 5 = .ok (.bipush 8, 2) := by decide +kernel
theorem dX9_put_7 : decode cX9_put 7 = .ok (.imul, 1) := by decide +kernel
theorem dX9_put_8 : decode cX9_put 8 = .ok (.iload_n 2, 1) := by decide +kernel
theorem dX9_put_9 : decode cX9_put 9 = .ok (.iadd, 1) := by decide +kernel
theorem dX9_put_10 : decode cX9_put 10 = .ok (.iload_n 3, 1) := by decide +kernel
theorem dX9_put_11 : decode cX9_put 11 = .ok (.iastore, 1) := by decide +kernel
theorem dX9_put_12 : decode cX9_put 12 = .ok (.return_, 1) := by decide +kernel
set_option maxRecDepth 20000 in
theorem ggX9_firstOpenTriple_X9_value : GoodIn wsX9_firstOpenTriple wsX9_value := goodIn_r _ [6, 7, 16, 17] (by decide +kernel) (by decide +kernel)
set_option maxRecDepth 20000 in
theorem gX9_firstOpenTriple_X9_value : GoodIn wsX9_firstOpenTriple (wsV RX9 30 RX9 yX9_value wsX9_value) := goodIn_app (goodIn_of _ (by decide +kernel)) ggX9_firstOpenTriple_X9_value
set_option maxRecDepth 20000 in
theorem ggX9_firstOpenTriple_X7_turned : GoodIn wsX9_firstOpenTriple wsX7_turned := goodIn_r _ [12, 13, 14, 15] (by decide +kernel) (by decide +kernel)
set_option maxRecDepth 20000 in
theorem gX9_firstOpenTriple_X7_turned : GoodIn wsX9_firstOpenTriple (wsV RX9 34 RX7 yX7_turned wsX7_turned) := goodIn_app (goodIn_of _ (by decide +kernel)) ggX9_firstOpenTriple_X7_turned
theorem dX9_firstOpenTriple_0 : decode cX9_firstOpenTriple 0 = .ok (.iconst 0, 1) := by decide +kernel
theorem dX9_firstOpenTriple_1 : decode cX9_firstOpenTriple 1 = .ok (.istore_n 2, 1) := by decide +kernel
theorem dX9_firstOpenTriple_2 : decode cX9_firstOpenTriple 2 = .ok (.iload_n 2, 1) := by decide +kernel
theorem dX9_firstOpenTriple_3 : decode cX9_firstOpenTriple 3 = .ok (.aload_n 1, 1) := by decide +kernel
theorem dX9_firstOpenTriple_4 : decode cX9_firstOpenTriple 4 = .ok (.getfield 25, 3) := by decide +kernel
theorem dX9_firstOpenTriple_7 : decode cX9_firstOpenTriple 7 = .ok (.if_icmp .ge 118, 3) := by decide +kernel
theorem dX9_firstOpenTriple_10 : decode cX9_firstOpenTriple 10 = .ok (.iconst 0, 1) := by decide +kernel
theorem dX9_firstOpenTriple_11 : decode cX9_firstOpenTriple 11 = .ok (.istore_n 3, 1) := by decide +kernel
theorem dX9_firstOpenTriple_12 : decode cX9_firstOpenTriple 12 = .ok (.iload_n 3, 1) := by decide +kernel
theorem dX9_firstOpenTriple_13 : decode cX9_firstOpenTriple 13 = .ok (.aload_n 1, 1) := by decide +kernel
theorem dX9_firstOpenTriple_14 : decode cX9_firstOpenTriple 14 = .ok (.getfield 25, 3) := by decide +kernel
theorem dX9_firstOpenTriple_17 : decode cX9_firstOpenTriple 17 = .ok (.if_icmp .ge 102, 3) := by decide +kernel
theorem dX9_firstOpenTriple_20 : decode cX9_firstOpenTriple 20 = .ok (.iconst 0, 1) := by decide +kernel
theorem dX9_firstOpenTriple_21 : decode cX9_firstOpenTriple 21 = .ok (.istore 4, 2) := by decide +kernel
theorem dX9_firstOpenTriple_23 : decode cX9_firstOpenTriple 23 = .ok (.iload 4, 2) := by decide +kernel
theorem dX9_firstOpenTriple_25 : decode cX9_firstOpenTriple 25 = .ok (.aload_n 1, 1) := by decide +kernel
theorem dX9_firstOpenTriple_26 : decode cX9_firstOpenTriple 26 = .ok (.getfield 25, 3) := by decide +kernel
theorem dX9_firstOpenTriple_29 : decode cX9_firstOpenTriple 29 = .ok (.if_icmp .ge 84, 3) := by decide +kernel
theorem dX9_firstOpenTriple_32 : decode cX9_firstOpenTriple 32 = .ok (.aload_n 0, 1) := by decide +kernel
theorem dX9_firstOpenTriple_33 : decode cX9_firstOpenTriple 33 = .ok (.iload_n 3, 1) := by decide +kernel
theorem dX9_firstOpenTriple_34 : decode cX9_firstOpenTriple 34 = .ok (.iload 4, 2) := by decide +kernel
theorem dX9_firstOpenTriple_36 : decode cX9_firstOpenTriple 36 = .ok (.invokevirtual 30, 3) := by decide +kernel
theorem dX9_firstOpenTriple_39 : decode cX9_firstOpenTriple 39 = .ok (.aload_n 0, 1) := by decide +kernel
theorem dX9_firstOpenTriple_40 : decode cX9_firstOpenTriple 40 = .ok (.iload_n 2, 1) := by decide +kernel
theorem dX9_firstOpenTriple_41 : decode cX9_firstOpenTriple 41 = .ok (.aload_n 1, 1) := by decide +kernel
theorem dX9_firstOpenTriple_42 : decode cX9_firstOpenTriple 42 = .ok (.iload_n 3, 1) := by decide +kernel
theorem dX9_firstOpenTriple_43 : decode cX9_firstOpenTriple 43 = .ok (.iload 4, 2) := by decide +kernel
theorem dX9_firstOpenTriple_45 : decode cX9_firstOpenTriple 45 = .ok (.invokevirtual 34, 3) := by decide +kernel
theorem dX9_firstOpenTriple_48 : decode cX9_firstOpenTriple 48 = .ok (.invokevirtual 30, 3) := by decide +kernel
theorem dX9_firstOpenTriple_51 : decode cX9_firstOpenTriple 51 = .ok (.iadd, 1) := by decide +kernel
theorem dX9_firstOpenTriple_52 : decode cX9_firstOpenTriple 52 = .ok (.istore 5, 2) := by decide +kernel
theorem dX9_firstOpenTriple_54 : decode cX9_firstOpenTriple 54 = .ok (.aload_n 0, 1) := by decide +kernel
theorem dX9_firstOpenTriple_55 : decode cX9_firstOpenTriple 55 = .ok (.iload_n 2, 1) := by decide +kernel
theorem dX9_firstOpenTriple_56 : decode cX9_firstOpenTriple 56 = .ok (.iload 4, 2) := by decide +kernel
theorem dX9_firstOpenTriple_58 : decode cX9_firstOpenTriple 58 = .ok (.invokevirtual 30, 3) := by decide +kernel
theorem dX9_firstOpenTriple_61 : decode cX9_firstOpenTriple 61 = .ok (.aload_n 0, 1) := by decide +kernel
theorem dX9_firstOpenTriple_62 : decode cX9_firstOpenTriple 62 = .ok (.aload_n 1, 1) := by decide +kernel
theorem dX9_firstOpenTriple_63 : decode cX9_firstOpenTriple 63 = .ok (.iload_n 2, 1) := by decide +kernel
theorem dX9_firstOpenTriple_64 : decode cX9_firstOpenTriple 64 = .ok (.iload_n 3, 1) := by decide +kernel
theorem dX9_firstOpenTriple_65 : decode cX9_firstOpenTriple 65 = .ok (.invokevirtual 34, 3) := by decide +kernel
theorem dX9_firstOpenTriple_68 : decode cX9_firstOpenTriple 68 = .ok (.aload_n 1, 1) := by decide +kernel
theorem dX9_firstOpenTriple_69 : decode cX9_firstOpenTriple 69 = .ok (.iload_n 2, 1) := by decide +kernel
theorem dX9_firstOpenTriple_70 : decode cX9_firstOpenTriple 70 = .ok (.iload 4, 2) := by decide +kernel
theorem dX9_firstOpenTriple_72 : decode cX9_firstOpenTriple 72 = .ok (.invokevirtual 34, 3) := by decide +kernel
theorem dX9_firstOpenTriple_75 : decode cX9_firstOpenTriple 75 = .ok (.invokevirtual 30, 3) := by decide +kernel
theorem dX9_firstOpenTriple_78 : decode cX9_firstOpenTriple 78 = .ok (.iadd, 1) := by decide +kernel
theorem dX9_firstOpenTriple_79 : decode cX9_firstOpenTriple 79 = .ok (.istore 6, 2) := by decide +kernel
theorem dX9_firstOpenTriple_81 : decode cX9_firstOpenTriple 81 = .ok (.iload 5, 2) := by decide +kernel
theorem dX9_firstOpenTriple_83 : decode cX9_firstOpenTriple 83 = .ok (.iload 6, 2) := by decide +kernel
theorem dX9_firstOpenTriple_85 : decode cX9_firstOpenTriple 85 = .ok (.isub, 1) := by decide +kernel
theorem dX9_firstOpenTriple_86 : decode cX9_firstOpenTriple 86 = .ok (.aload_n 0, 1) := by decide +kernel
theorem dX9_firstOpenTriple_87 : decode cX9_firstOpenTriple 87 = .ok (.getfield 15, 3) := by decide +kernel
theorem dX9_firstOpenTriple_90 : decode cX9_firstOpenTriple 90 = .ok (.irem, 1) := by decide +kernel
theorem dX9_firstOpenTriple_91 : decode cX9_firstOpenTriple 91 = .ok (.ifCond .eq 16, 3) := by decide +kernel
theorem dX9_firstOpenTriple_94 : decode cX9_firstOpenTriple 94 = .ok (.iload_n 2, 1) := by decide +kernel
theorem dX9_firstOpenTriple_95 : decode cX9_firstOpenTriple 95 = .ok (.bipush 8, 2) := by decide +kernel
theorem dX9_firstOpenTriple_97 : decode cX9_firstOpenTriple 97 = .ok (.imul, 1) := by decide +kernel
theorem dX9_firstOpenTriple_98 : decode cX9_firstOpenTriple 98 = .ok (.iload_n 3, 1) := by decide +kernel
theorem dX9_firstOpenTriple_99 : decode cX9_firstOpenTriple 99 = .ok (.iadd, 1) := by decide +kernel
theorem dX9_firstOpenTriple_100 : decode cX9_firstOpenTriple 100 = .ok (.bipush 8, 2) := by decide +kernel
theorem dX9_firstOpenTriple_102 : decode cX9_firstOpenTriple 102 = .ok (.imul, 1) := by decide +kernel
theorem dX9_firstOpenTriple_103 : decode cX9_firstOpenTriple 103 = .ok (.iload 4, 2) := by decide +kernel
theorem dX9_firstOpenTriple_105 : decode cX9_firstOpenTriple 105 = .ok (.iadd, 1) := by decide +kernel
theorem dX9_firstOpenTriple_106 : decode cX9_firstOpenTriple 106 = .ok (.ireturn, 1) := by decide +kernel
theorem dX9_firstOpenTriple_107 : decode cX9_firstOpenTriple 107 = .ok (.iinc 4 1, 3) := by decide +kernel
theorem dX9_firstOpenTriple_110 : decode cX9_firstOpenTriple 110 = .ok (.goto (-87), 3) := by decide +kernel
theorem dX9_firstOpenTriple_113 : decode cX9_firstOpenTriple 113 = .ok (.iinc 3 1, 3) := by decide +kernel
theorem dX9_firstOpenTriple_116 : decode cX9_firstOpenTriple 116 = .ok (.goto (-104), 3) := by decide +kernel
theorem dX9_firstOpenTriple_119 : decode cX9_firstOpenTriple 119 = .ok (.iinc 2 1, 3) := by decide +kernel
theorem dX9_firstOpenTriple_122 : decode cX9_firstOpenTriple 122 = .ok (.goto (-120), 3) := by decide +kernel
theorem dX9_firstOpenTriple_125 : decode cX9_firstOpenTriple 125 = .ok (.iconst (-1), 1) := by decide +kernel
theorem dX9_firstOpenTriple_126 : decode cX9_firstOpenTriple 126 = .ok (.ireturn, 1) := by decide +kernel
set_option maxRecDepth 20000 in
theorem ggX10_init_X7_init : GoodIn wsX10_init wsX7_init := goodIn_r _ [49, 50, 2, 3, 43, 51, 52, 115, 116] (by decide +kernel) (by decide +kernel)
set_option maxRecDepth 20000 in
theorem gX10_init_X7_init : GoodIn wsX10_init (wsX7_init) := ggX10_init_X7_init
set_option maxRecDepth 20000 in
theorem ggX10_init_X9_init : GoodIn wsX10_init wsX9_init := goodIn_r _ [54, 55, 2, 3, 43, 56, 57, 132, 133] (by decide +kernel) (by decide +kernel)
set_option maxRecDepth 20000 in
theorem gX10_init_X9_init_n30 : GoodIn wsX10_init (wsX9_init) := ggX10_init_X9_init
set_option maxRecDepth 20000 in
theorem ggX10_init_X0_init : GoodIn wsX10_init wsX0_init := goodIn_r _ [59, 60, 2, 3, 43, 61, 62, 63, 64, 65, 66, 134, 135, 136, 137, 138, 139] (by decide +kernel) (by decide +kernel)
set_option maxRecDepth 20000 in
theorem gX10_init_X0_init_n37 : GoodIn wsX10_init (wsX0_init) := ggX10_init_X0_init
set_option maxRecDepth 20000 in
theorem ggX10_init_X1_init : GoodIn wsX10_init wsX1_init := goodIn_r _ [68, 69, 2, 3, 43, 70, 71, 72, 140, 141, 142] (by decide +kernel) (by decide +kernel)
set_option maxRecDepth 20000 in
theorem gX10_init_X1_init_n44 : GoodIn wsX10_init (wsX1_init) := ggX10_init_X1_init
set_option maxRecDepth 20000 in
theorem ggX10_init_X3_init : GoodIn wsX10_init wsX3_init := goodIn_r _ [74, 75, 2, 3, 43, 76, 77, 78, 79, 143, 144, 145, 146] (by decide +kernel) (by decide +kernel)
set_option maxRecDepth 20000 in
theorem gX10_init_X3_init_n51 : GoodIn wsX10_init (wsX3_init) := ggX10_init_X3_init
set_option maxRecDepth 20000 in
theorem ggX10_init_X4_init : GoodIn wsX10_init wsX4_init := goodIn_r _ [81, 82, 2, 3, 83, 5, 6, 84, 43, 85, 86, 87, 88, 89, 90, 48, 49, 50, 51, 52, 115, 116, 147, 148, 149, 150, 151, 152] (by decide +kernel) (by decide +kernel)
set_option maxRecDepth 20000 in
theorem gX10_init_X4_init_n58 : GoodIn wsX10_init (wsX4_init) := ggX10_init_X4_init
set_option maxRecDepth 20000 in
theorem ggX10_init_X8_init : GoodIn wsX10_init wsX8_init := goodIn_r _ [92, 93, 2, 3, 43, 94, 95, 96, 153, 154, 155] (by decide +kernel) (by decide +kernel)
set_option maxRecDepth 20000 in
theorem gX10_init_X8_init_n65 : GoodIn wsX10_init (wsX8_init) := ggX10_init_X8_init
set_option maxRecDepth 20000 in
theorem ggX10_init_X6_init : GoodIn wsX10_init wsX6_init := goodIn_r _ [98, 99, 2, 3, 43, 100, 101, 102, 103, 104, 105, 156, 157, 158, 159, 160, 161] (by decide +kernel) (by decide +kernel)
set_option maxRecDepth 20000 in
theorem gX10_init_X6_init_n72 : GoodIn wsX10_init (wsX6_init) := ggX10_init_X6_init
set_option maxRecDepth 20000 in
theorem ggX10_init_X2_init : GoodIn wsX10_init wsX2_init := goodIn_r _ [107, 108, 2, 3, 109, 43, 110, 111, 112, 5, 6, 113, 114, 48, 49, 50, 51, 52, 162, 163, 164, 115, 116] (by decide +kernel) (by decide +kernel)
set_option maxRecDepth 20000 in
theorem gX10_init_X2_init_n79 : GoodIn wsX10_init (wsX2_init) := ggX10_init_X2_init
theorem dX10_init_0 : decode cX10_init 0 = .ok (.aload_n 0, 1) := by decide +kernel
theorem dX10_init_1 : decode cX10_init 1 = .ok (.invokespecial 3, 3) := by decide +kernel
theorem dX10_init_4 : decode cX10_init 4 = .ok (.aload_n 0, 1) := by decide +kernel
theorem dX10_init_5 : decode cX10_init 5 = .ok (.new 9, 3) := by decide +kernel
theorem dX10_init_8 : decode cX10_init 8 = .ok (.dup, 1) := by decide +kernel
theorem dX10_init_9 : decode cX10_init 9 = .ok (.iconst 1, 1) := by decide +kernel
theorem dX10_init_10 : decode cX10_init 10 = .ok (.invokespecial 11, 3) := by decide +kernel
theorem dX10_init_13 : decode cX10_init 13 = .ok (.putfield 14, 3) := by decide +kernel
theorem dX10_init_16 : decode cX10_init 16 = .ok (.aload_n 0, 1) := by decide +kernel
theorem dX10_init_17 : decode cX10_init 17 = .ok (.new 9, 3) := by decide +kernel
theorem dX10_init_20 : decode cX10_init 20 = .ok (.dup, 1) := by decide +kernel
theorem dX10_init_21 : decode cX10_init 21 = .ok (.iconst 1, 1) := by decide +kernel
theorem dX10_init_22 : decode cX10_init 22 = .ok (.invokespecial 11, 3) := by decide +kernel
theorem dX10_init_25 : decode cX10_init 25 = .ok (.putfield 18, 3) := by decide +kernel
theorem dX10_init_28 : decode cX10_init 28 = .ok (.aload_n 0, 1) := by decide +kernel
theorem dX10_init_29 : decode cX10_init 29 = .ok (.new 9, 3) := by decide +kernel
theorem dX10_init_32 : decode cX10_init 32 = .ok (.dup, 1) := by decide +kernel
theorem dX10_init_33 : decode cX10_init 33 = .ok (.iconst 1, 1) := by decide +kernel
theorem dX10_init_34 : decode cX10_init 34 = .ok (.invokespecial 11, 3) := by decide +kernel
theorem dX10_init_37 : decode cX10_init 37 = .ok (.putfield 21, 3) := by decide +kernel
theorem dX10_init_40 : decode cX10_init 40 = .ok (.aload_n 0, 1) := by decide +kernel
theorem dX10_init_41 : decode cX10_init 41 = .ok (.iconst 4, 1) := by decide +kernel
theorem dX10_init_42 : decode cX10_init 42 = .ok (.anewarray 9, 3) := by decide +kernel
theorem dX10_init_45 : decode cX10_init 45 = .ok (.putfield 24, 3) := by decide +kernel
theorem dX10_init_48 : decode cX10_init 48 = .ok (.aload_n 0, 1) := by decide +kernel
theorem dX10_init_49 : decode cX10_init 49 = .ok (.new 28, 3) := by decide +kernel
theorem dX10_init_52 : decode cX10_init 52 = .ok (.dup, 1) := by decide +kernel
theorem dX10_init_53 : decode cX10_init 53 = .ok (.invokespecial 30, 3) := by decide +kernel
theorem dX10_init_56 : decode cX10_init 56 = .ok (.putfield 31, 3) := by decide +kernel
theorem dX10_init_59 : decode cX10_init 59 = .ok (.aload_n 0, 1) := by decide +kernel
theorem dX10_init_60 : decode cX10_init 60 = .ok (.new 35, 3) := by decide +kernel
theorem dX10_init_63 : decode cX10_init 63 = .ok (.dup, 1) := by decide +kernel
theorem dX10_init_64 : decode cX10_init 64 = .ok (.invokespecial 37, 3) := by decide +kernel
theorem dX10_init_67 : decode cX10_init 67 = .ok (.putfield 38, 3) := by decide +kernel
theorem dX10_init_70 : decode cX10_init 70 = .ok (.aload_n 0, 1) := by decide +kernel
theorem dX10_init_71 : decode cX10_init 71 = .ok (.new 42, 3) := by decide +kernel
theorem dX10_init_74 : decode cX10_init 74 = .ok (.dup, 1) := by decide +kernel
theorem dX10_init_75 : decode cX10_init 75 = .ok (.invokespecial 44, 3) := by decide +kernel
theorem dX10_init_78 : decode cX10_init 78 = .ok (.putfield 45, 3) := by decide +kernel
theorem dX10_init_81 : decode cX10_init 81 = .ok (.aload_n 0, 1) := by decide +kernel
theorem dX10_init_82 : decode cX10_init 82 = .ok (.new 49, 3) := by decide +kernel
theorem dX10_init_85 : decode cX10_init 85 = .ok (.dup, 1) := by decide +kernel
theorem dX10_init_86 : decode cX10_init 86 = .ok (.invokespecial 51, 3) := by decide +kernel
theorem dX10_init_89 : decode cX10_init 89 = .ok (.putfield 52, 3) := by decide +kernel
theorem dX10_init_92 : decode cX10_init 92 = .ok (.aload_n 0, 1) := by decide +kernel
theorem dX10_init_93 : decode cX10_init 93 = .ok (.new 56, 3) := by decide +kernel
theorem dX10_init_96 : decode cX10_init 96 = .ok (.dup, 1) := by decide +kernel
theorem dX10_init_97 : decode cX10_init 97 = .ok (.invokespecial 58, 3) := by decide +kernel
theorem dX10_init_100 : decode cX10_init 100 = .ok (.putfield 59, 3) := by decide +kernel
theorem dX10_init_103 : decode cX10_init 103 = .ok (.aload_n 0, 1) := by decide +kernel
theorem dX10_init_104 : decode cX10_init 104 = .ok (.new 63, 3) := by decide +kernel
theorem dX10_init_107 : decode cX10_init 107 = .ok (.dup, 1) := by decide +kernel
theorem dX10_init_108 : decode cX10_init 108 = .ok (.invokespecial 65, 3) := by decide +kernel
theorem dX10_init_111 : decode cX10_init 111 = .ok (.putfield 66, 3) := by decide +kernel
theorem dX10_init_114 : decode cX10_init 114 = .ok (.aload_n 0, 1) := by decide +kernel
theorem dX10_init_115 : decode cX10_init 115 = .ok (.new 70, 3) := by decide +kernel
theorem dX10_init_118 : decode cX10_init 118 = .ok (.dup, 1) := by decide +kernel
theorem dX10_init_119 : decode cX10_init 119 = .ok (.invokespecial 72, 3) := by decide +kernel
theorem dX10_init_122 : decode cX10_init 122 = .ok (.putfield 73, 3) := by decide +kernel
theorem dX10_init_125 : decode cX10_init 125 = .ok (.aload_n 0, 1) := by decide +kernel
theorem dX10_init_126 : decode cX10_init 126 = .ok (.new 77, 3) := by decide +kernel
theorem dX10_init_129 : decode cX10_init 129 = .ok (.dup, 1) := by decide +kernel
theorem dX10_init_130 : decode cX10_init 130 = .ok (.invokespecial 79, 3) := by decide +kernel
theorem dX10_init_133 : decode cX10_init 133 = .ok (.putfield 80, 3) := by decide +kernel
theorem dX10_init_136 : decode cX10_init 136 = .ok (.aload_n 0, 1) := by decide +kernel
theorem dX10_init_137 : decode cX10_init 137 = .ok (.bipush 8, 2) := by decide +kernel
theorem dX10_init_139 : decode cX10_init 139 = .ok (.newarray .int, 2) := by decide +kernel
theorem dX10_init_141 : decode cX10_init 141 = .ok (.putfield 84, 3) := by decide +kernel
theorem dX10_init_144 : decode cX10_init 144 = .ok (.aload_n 0, 1) := by decide +kernel
theorem dX10_init_145 : decode cX10_init 145 = .ok (.bipush 8, 2) := by decide +kernel
theorem dX10_init_147 : decode cX10_init 147 = .ok (.newarray .int, 2) := by decide +kernel
theorem dX10_init_149 : decode cX10_init 149 = .ok (.putfield 88, 3) := by decide +kernel
theorem dX10_init_152 : decode cX10_init 152 = .ok (.aload_n 0, 1) := by decide +kernel
theorem dX10_init_153 : decode cX10_init 153 = .ok (.iconst 0, 1) := by decide +kernel
theorem dX10_init_154 : decode cX10_init 154 = .ok (.putfield 91, 3) := by decide +kernel
theorem dX10_init_157 : decode cX10_init 157 = .ok (.iconst 0, 1) := by decide +kernel
theorem dX10_init_158 : decode cX10_init 158 = .ok (.istore_n 1, 1) := by decide +kernel
theorem dX10_init_159 : decode cX10_init 159 = .ok (.iload_n 1, 1) := by decide +kernel
theorem dX10_init_160 : decode cX10_init 160 = .ok (.iconst 4, 1) := by decide +kernel
theorem dX10_init_161 : decode cX10_init 161 = .ok (.if_icmp .ge 23, 3) := by decide +kernel
theorem dX10_init_164 : decode cX10_init 164 = .ok (.aload_n 0, 1) := by decide +kernel
theorem dX10_init_165 : decode cX10_init 165 = .ok (.getfield 24, 3) := by decide +kernel
theorem dX10_init_168 : decode cX10_init 168 = .ok (.iload_n 1, 1) := by decide +kernel
theorem dX10_init_169 : decode cX10_init 169 = .ok (.new 9, 3) := by decide +kernel
theorem dX10_init_172 : decode cX10_init 172 = .ok (.dup, 1) := by decide +kernel
theorem dX10_init_173 : decode cX10_init 173 = .ok (.iconst 0, 1) := by decide +kernel
theorem dX10_init_174 : decode cX10_init 174 = .ok (.invokespecial 11, 3) := by decide +kernel
theorem dX10_init_177 : decode cX10_init 177 = .ok (.aastore, 1) := by decide +kernel
theorem dX10_init_178 : decode cX10_init 178 = .ok (.iinc 1 1, 3) := by decide +kernel
theorem dX10_init_181 : decode cX10_init 181 = .ok (.goto (-22), 3) := by decide +kernel
theorem dX10_init_184 : decode cX10_init 184 = .ok (.return_, 1) := by decide +kernel
set_option maxRecDepth 20000 in
theorem ggX10_table_X10_turn : GoodIn wsX10_table wsX10_turn := goodIn_r _ [5, 6, 7, 8, 9, 4, 10, 11, 12, 13, 14, 15, 16, 17, 18, 19, 20, 21, 22, 23, 24, 25, 26, 27, 28, 29, 30, 31, 32, 33, 34, 35, 36, 37, 38, 39, 40, 41, 42, 43, 44, 45, 46, 47, 48, 49, 50, 51, 52, 53, 54, 55, 56, 57, 58, 59, 60, 61, 62, 63, 64, 65, 66, 67, 68, 69, 70, 71, 72, 73, 74, 75, 76, 77] (by decide +kernel) (by decide +kernel)
set_option maxRecDepth 20000 in
theorem gX10_table_X10_turn : GoodIn wsX10_table (wsV RX10 95 RX10 yX10_turn wsX10_turn) := goodIn_app (goodIn_of _ (by decide +kernel)) ggX10_table_X10_turn
theorem dX10_table_0 : decode cX10_table 0 = .ok (.aload_n 0, 1) := by decide +kernel
theorem dX10_table_1 : decode cX10_table 1 = .ok (.iload_n 1, 1) := by decide +kernel
theorem dX10_table_2 : decode cX10_table 2 = .ok (.iconst 0, 1) := by decide +kernel
theorem dX10_table_3 : decode cX10_table 3 = .ok (.invokevirtual 95, 3) := by decide +kernel
theorem dX10_table_6 : decode cX10_table 6 = .ok (.ireturn, 1) := by decide +kernel
set_option maxRecDepth 20000 in
theorem ggX10_set_X7_has : GoodIn wsX10_set wsX7_has := goodIn_r _ [6, 7, 28, 29] (by decide +kernel) (by decide +kernel)
set_option maxRecDepth 20000 in
theorem gX10_set_X7_has : GoodIn wsX10_set (wsV RX10 99 RX7 yX7_has wsX7_has) := goodIn_app (goodIn_of _ (by decide +kernel)) ggX10_set_X7_has
set_option maxRecDepth 20000 in
theorem ggX10_set_X7_put : GoodIn wsX10_set wsX7_put := goodIn_r _ [11, 12, 28, 29] (by decide +kernel) (by decide +kernel)
set_option maxRecDepth 20000 in
theorem gX10_set_X7_put : GoodIn wsX10_set (wsV RX10 103 RX7 yX7_put wsX7_put) := goodIn_app (goodIn_of _ (by decide +kernel)) ggX10_set_X7_put
theorem dX10_set_0 : decode cX10_set 0 = .ok (.aload_n 0, 1) := by decide +kernel
theorem dX10_set_1 : decode cX10_set 1 = .ok (.getfield 14, 3) := by decide +kernel
theorem dX10_set_4 : decode cX10_set 4 = .ok (.iload_n 1, 1) := by decide +kernel
theorem dX10_set_5 : decode cX10_set 5 = .ok (.invokevirtual 99, 3) := by decide +kernel
theorem dX10_set_8 : decode cX10_set 8 = .ok (.ifCond .eq 25, 3) := by decide +kernel
theorem dX10_set_11 : decode cX10_set 11 = .ok (.aload_n 0, 1) := by decide +kernel
theorem dX10_set_12 : decode cX10_set 12 = .ok (.getfield 14, 3) := by decide +kernel
theorem dX10_set_15 : decode cX10_set 15 = .ok (.iload_n 2, 1) := by decide +kernel
theorem dX10_set_16 : decode cX10_set 16 = .ok (.invokevirtual 99, 3) := by decide +kernel
theorem dX10_set_19 : decode cX10_set 19 = .ok (.ifCond .eq 14, 3) := by decide +kernel
theorem dX10_set_22 : decode cX10_set 22 = .ok (.aload_n 0, 1) := by decide +kernel
theorem dX10_set_23 : decode cX10_set 23 = .ok (.getfield 14, 3) := by decide +kernel
theorem dX10_set_26 : decode cX10_set 26 = .ok (.iload_n 3, 1) := by decide +kernel
theorem dX10_set_27 : decode cX10_set 27 = .ok (.invokevirtual 99, 3) := by decide +kernel
theorem dX10_set_30 : decode cX10_set 30 = .ok (.ifCond .ne 5, 3) := by decide +kernel
theorem dX10_set_33 : decode cX10_set 33 = .ok (.iconst 0, 1) := by decide +kernel
theorem dX10_set_34 : decode cX10_set 34 = .ok (.ireturn, 1) := by decide +kernel
theorem dX10_set_35 : decode cX10_set 35 = .ok (.aload_n 0, 1) := by decide +kernel
theorem dX10_set_36 : decode cX10_set 36 = .ok (.getfield 14, 3) := by decide +kernel
theorem dX10_set_39 : decode cX10_set 39 = .ok (.iload_n 1, 1) := by decide +kernel
theorem dX10_set_40 : decode cX10_set 40 = .ok (.iload_n 2, 1) := by decide +kernel
theorem dX10_set_41 : decode cX10_set 41 = .ok (.iload_n 3, 1) := by decide +kernel
theorem dX10_set_42 : decode cX10_set 42 = .ok (.invokevirtual 103, 3) := by decide +kernel
theorem dX10_set_45 : decode cX10_set 45 = .ok (.iconst 1, 1) := by decide +kernel
theorem dX10_set_46 : decode cX10_set 46 = .ok (.ireturn, 1) := by decide +kernel
set_option maxRecDepth 20000 in
theorem ggX10_at_X7_has : GoodIn wsX10_at wsX7_has := goodIn_r _ [8, 9, 30, 31] (by decide +kernel) (by decide +kernel)
set_option maxRecDepth 20000 in
theorem gX10_at_X7_has : GoodIn wsX10_at (wsV RX10 99 RX7 yX7_has wsX7_has) := goodIn_app (goodIn_of _ (by decide +kernel)) ggX10_at_X7_has
set_option maxRecDepth 20000 in
theorem ggX10_at_X7_turned : GoodIn wsX10_at wsX7_turned := goodIn_r _ [13, 14, 30, 31] (by decide +kernel) (by decide +kernel)
set_option maxRecDepth 20000 in
theorem gX10_at_X7_turned : GoodIn wsX10_at (wsV RX10 114 RX7 yX7_turned wsX7_turned) := goodIn_app (goodIn_of _ (by decide +kernel)) ggX10_at_X7_turned
theorem dX10_at_0 : decode cX10_at 0 = .ok (.aload_n 0, 1) := by decide +kernel
theorem dX10_at_1 : decode cX10_at 1 = .ok (.getfield 14, 3) := by decide +kernel
theorem dX10_at_4 : decode cX10_at 4 = .ok (.iload_n 1, 1) := by decide +kernel
theorem dX10_at_5 : decode cX10_at 5 = .ok (.invokevirtual 99, 3) := by decide +kernel
theorem dX10_at_8 : decode cX10_at 8 = .ok (.ifCond .eq 14, 3) := by decide +kernel
theorem dX10_at_11 : decode cX10_at 11 = .ok (.aload_n 0, 1) := by decide +kernel
theorem dX10_at_12 : decode cX10_at 12 = .ok (.getfield 14, 3) := by decide +kernel
theorem dX10_at_15 : decode cX10_at 15 = .ok (.iload_n 2, 1) := by decide +kernel
theorem dX10_at_16 : decode cX10_at 16 = .ok (.invokevirtual 99, 3) := by decide +kernel
theorem dX10_at_19 : decode cX10_at 19 = .ok (.ifCond .ne 13, 3) := by decide +kernel
theorem dX10_at_22 : decode cX10_at 22 = .ok (.new 107, 3) := by decide +kernel
theorem dX10_at_25 : decode cX10_at 25 = .ok (.dup, 1) := by decide +kernel
theorem dX10_at_26 : decode cX10_at 26 = .ok (.ldc 109, 2) := by decide +kernel
theorem dX10_at_28 : decode cX10_at 28 = .ok (.invokespecial 111, 3) := by decide +kernel
theorem dX10_at_31 : decode cX10_at 31 = .ok (.athrow, 1) := by decide +kernel
theorem dX10_at_32 : decode cX10_at 32 = .ok (.aload_n 0, 1) := by decide +kernel
theorem dX10_at_33 : decode cX10_at 33 = .ok (.getfield 14, 3) := by decide +kernel
theorem dX10_at_36 : decode cX10_at 36 = .ok (.iload_n 1, 1) := by decide +kernel
theorem dX10_at_37 : decode cX10_at 37 = .ok (.iload_n 2, 1) := by decide +kernel
theorem dX10_at_38 : decode cX10_at 38 = .ok (.invokevirtual 114, 3) := by decide +kernel
theorem dX10_at_41 : decode cX10_at 41 = .ok (.ireturn, 1) := by decide +kernel
set_option maxRecDepth 20000 in
theorem ggX10_line_X10_isSize : GoodIn wsX10_line wsX10_isSize := goodIn_r _ [5] (by decide +kernel) (by decide +kernel)
set_option maxRecDepth 20000 in
theorem gX10_line_X10_isSize : GoodIn wsX10_line (va_wsS RX10 118 yX10_isSize wsX10_isSize) := goodIn_app (goodIn_of _ (by decide +kernel)) ggX10_line_X10_isSize
set_option maxRecDepth 20000 in
theorem ggX10_line_X10_commonPart : GoodIn wsX10_line wsX10_commonPart := goodIn_r _ [8] (by decide +kernel) (by decide +kernel)
set_option maxRecDepth 20000 in
theorem gX10_line_X10_commonPart : GoodIn wsX10_line (va_wsS RX10 121 yX10_commonPart wsX10_commonPart) := goodIn_app (goodIn_of _ (by decide +kernel)) ggX10_line_X10_commonPart
set_option maxRecDepth 20000 in
theorem ggX10_line_J9_floorMod_7cf53 : GoodIn wsX10_line wsJ9_floorMod_7cf53 := goodIn_r _ [12] (by decide +kernel) (by decide +kernel)
set_option maxRecDepth 20000 in
theorem gX10_line_J9_floorMod_7cf53 : GoodIn wsX10_line (va_wsS RX10 127 yJ9_floorMod_7cf53 wsJ9_floorMod_7cf53) := goodIn_app (goodIn_of _ (by decide +kernel)) ggX10_line_J9_floorMod_7cf53
set_option maxRecDepth 20000 in
theorem ggX10_line_X7_put : GoodIn wsX10_line wsX7_put := goodIn_r _ [17, 18, 59, 60] (by decide +kernel) (by decide +kernel)
set_option maxRecDepth 20000 in
theorem gX10_line_X7_put : GoodIn wsX10_line (wsV RX10 103 RX7 yX7_put wsX7_put) := goodIn_app (goodIn_of _ (by decide +kernel)) ggX10_line_X7_put
set_option maxRecDepth 20000 in
theorem ggX10_line_X10_adoptDraft : GoodIn wsX10_line wsX10_adoptDraft := goodIn_r _ [22, 23, 1, 24, 25, 26, 27, 16, 28, 29, 18, 30, 31, 32, 33, 34, 35, 36, 37, 38, 39, 40, 41, 42, 43, 44, 45, 46, 47, 48, 49, 50, 51, 52, 53, 54, 55, 56, 57, 58, 59, 60, 61, 62] (by decide +kernel) (by decide +kernel)
set_option maxRecDepth 20000 in
theorem gX10_line_X10_adoptDraft : GoodIn wsX10_line (wsV RX10 132 RX10 yX10_adoptDraft wsX10_adoptDraft) := goodIn_app (goodIn_of _ (by decide +kernel)) ggX10_line_X10_adoptDraft
theorem dX10_line_0 : decode cX10_line 0 = .ok (.iload_n 1, 1) := by decide +kernel
theorem dX10_line_1 : decode cX10_line 1 = .ok (.invokestatic 118, 3) := by decide +kernel
theorem dX10_line_4 : decode cX10_line 4 = .ok (.ifCond .eq 21, 3) := by decide +kernel
theorem dX10_line_7 : decode cX10_line 7 = .ok (.iload_n 2, 1) := by decide +kernel
theorem dX10_line_8 : decode cX10_line 8 = .ok (.ifCond .lt 17, 3) := by decide +kernel
theorem dX10_line_11 : decode cX10_line 11 = .ok (.iload_n 2, 1) := by decide +kernel
theorem dX10_line_12 : decode cX10_line 12 = .ok (.iload_n 1, 1) := by decide +kernel
theorem dX10_line_13 : decode cX10_line 13 = .ok (.if_icmp .ge 12, 3) := by decide +kernel
theorem dX10_line_16 : decode cX10_line 16 = .ok (.iload_n 2, 1) := by decide +kernel
theorem dX10_line_17 : decode cX10_line 17 = .ok (.iload_n 1, 1) := by decide +kernel
theorem dX10_line_18 : decode cX10_line 18 = .ok (.invokestatic 121, 3) := by decide +kernel
theorem dX10_line_21 : decode cX10_line 21 = .ok (.iconst 1, 1) := by decide +kernel
theorem dX10_line_22 : decode cX10_line 22 = .ok (.if_icmp .le 5, 3) := by decide +kernel
theorem dX10_line_25 : decode cX10_line 25 = .ok (.iconst 0, 1) := by decide +kernel
theorem dX10_line_26 : decode cX10_line 26 = .ok (.ireturn, 1) := by decide +kernel
theorem dX10_line_27 : decode cX10_line 27 = .ok (.aload_n 0, 1) := by decide +kernel
theorem dX10_line_28 : decode cX10_line 28 = .ok (.getfield 18, 3) := by decide +kernel
theorem dX10_line_31 : decode cX10_line 31 = .ok (.iload_n 1, 1) := by decide +kernel
theorem dX10_line_32 : decode cX10_line 32 = .ok (.putfield 124, 3) := by decide +kernel
theorem dX10_line_35 : decode cX10_line 35 = .ok (.iconst 0, 1) := by decide +kernel
theorem dX10_line_36 : decode cX10_line 36 = .ok (.istore_n 3, 1) := by decide +kernel
theorem dX10_line_37 : decode cX10_line 37 = .ok (.iload_n 3, 1) := by decide +kernel
theorem dX10_line_38 : decode cX10_line 38 = .ok (.iload_n 1, 1) := by decide +kernel
theorem dX10_line_39 : decode cX10_line 39 = .ok (.if_icmp .ge 48, 3) := by decide +kernel
theorem dX10_line_42 : decode cX10_line 42 = .ok (.iconst 0, 1) := by decide +kernel
theorem dX10_line_43 : decode cX10_line 43 = .ok (.istore 4, 2) := by decide +kernel
theorem dX10_line_45 : decode cX10_line 45 = .ok (.iload 4, 2) := by decide +kernel
theorem dX10_line_47 : decode cX10_line 47 = .ok (.iload_n 1, 1) := by decide +kernel
theorem dX10_line_48 : decode cX10_line 48 = .ok (.if_icmp .ge 33, 3) := by decide +kernel
theorem dX10_line_51 : decode cX10_line 51 = .ok (.aload_n 0, 1) := by decide +kernel
theorem dX10_line_52 : decode cX10_line 52 = .ok (.getfield 18, 3) := by decide +kernel
theorem dX10_line_55 : decode cX10_line 55 = .ok (.iload_n 3, 1) := by decide +kernel
theorem dX10_line_56 : decode cX10_line 56 = .ok (.iload 4, 2) := by decide +kernel
theorem dX10_line_58 : decode cX10_line 58 = .ok (.iconst 1, 1) := by decide +kernel
theorem dX10_line_59 : decode cX10_line 59 = .ok (.iload_n 2, 1) := by decide +kernel
theorem dX10_line_60 : decode cX10_line 60 = .ok (.isub, 1) := by decide +kernel
theorem dX10_line_61 : decode cX10_line 61 = .ok (.iload_n 3, 1) := by decide +kernel
theorem dX10_line_62 : decode cX10_line 62 = .ok (.imul, 1) := by decide +kernel
theorem dX10_line_63 : decode cX10_line 63 = .ok (.iload_n 2, 1) := by decide +kernel
theorem dX10_line_64 : decode cX10_line 64 = .ok (.iload 4, 2) := by decide +kernel
theorem dX10_line_66 : decode cX10_line 66 = .ok (.imul, 1) := by decide +kernel
theorem dX10_line_67 : decode cX10_line 67 = .ok (.iadd, 1) := by decide +kernel
theorem dX10_line_68 : decode cX10_line 68 = .ok (.iload_n 1, 1) := by decide +kernel
theorem dX10_line_69 : decode cX10_line 69 = .ok (.invokestatic 127, 3) := by decide +kernel
theorem dX10_line_72 : decode cX10_line 72 = .ok (.invokevirtual 103, 3) := by decide +kernel
theorem dX10_line_75 : decode cX10_line 75 = .ok (.iinc 4 1, 3) := by decide +kernel
theorem dX10_line_78 : decode cX10_line 78 = .ok (.goto (-33), 3) := by decide +kernel
theorem dX10_line_81 : decode cX10_line 81 = .ok (.iinc 3 1, 3) := by decide +kernel
theorem dX10_line_84 : decode cX10_line 84 = .ok (.goto (-47), 3) := by decide +kernel
theorem dX10_line_87 : decode cX10_line 87 = .ok (.aload_n 0, 1) := by decide +kernel
theorem dX10_line_88 : decode cX10_line 88 = .ok (.invokevirtual 132, 3) := by decide +kernel
theorem dX10_line_91 : decode cX10_line 91 = .ok (.pop, 1) := by decide +kernel
theorem dX10_line_92 : decode cX10_line 92 = .ok (.iconst 1, 1) := by decide +kernel
theorem dX10_line_93 : decode cX10_line 93 = .ok (.ireturn, 1) := by decide +kernel
set_option maxRecDepth 20000 in
theorem ggX10_turn_X10_isSize : GoodIn wsX10_turn wsX10_isSize := goodIn_r _ [6] (by decide +kernel) (by decide +kernel)
set_option maxRecDepth 20000 in
theorem gX10_turn_X10_isSize : GoodIn wsX10_turn (va_wsS RX10 118 yX10_isSize wsX10_isSize) := goodIn_app (goodIn_of _ (by decide +kernel)) ggX10_turn_X10_isSize
set_option maxRecDepth 20000 in
theorem ggX10_turn_X5_numbered : GoodIn wsX10_turn wsX5_numbered := goodIn_r _ [10, 11, 12, 9, 13, 14, 15, 16] (by decide +kernel) (by decide +kernel)
set_option maxRecDepth 20000 in
theorem gX10_turn_X5_numbered : GoodIn wsX10_turn (va_wsS RX10 139 yX5_numbered wsX5_numbered) := goodIn_app (goodIn_of _ (by decide +kernel)) ggX10_turn_X5_numbered
set_option maxRecDepth 20000 in
theorem ggX10_turn_X7_putRow : GoodIn wsX10_turn wsX7_putRow := goodIn_r _ [21, 22, 23, 24, 9, 25, 26, 27, 28, 20, 29, 30, 70, 71] (by decide +kernel) (by decide +kernel)
set_option maxRecDepth 20000 in
theorem gX10_turn_X7_putRow : GoodIn wsX10_turn (wsV RX10 144 RX7 yX7_putRow wsX7_putRow) := goodIn_app (goodIn_of _ (by decide +kernel)) ggX10_turn_X7_putRow
set_option maxRecDepth 20000 in
theorem ggX10_turn_X10_adoptDraft : GoodIn wsX10_turn wsX10_adoptDraft := goodIn_r _ [34, 35, 2, 36, 37, 38, 39, 20, 40, 22, 30, 41, 42, 43, 44, 45, 46, 47, 48, 49, 50, 51, 52, 53, 54, 55, 56, 57, 58, 59, 60, 61, 62, 63, 64, 65, 66, 67, 68, 69, 70, 71, 72, 73] (by decide +kernel) (by decide +kernel)
set_option maxRecDepth 20000 in
theorem gX10_turn_X10_adoptDraft : GoodIn wsX10_turn (wsV RX10 132 RX10 yX10_adoptDraft wsX10_adoptDraft) := goodIn_app (goodIn_of _ (by decide +kernel)) ggX10_turn_X10_adoptDraft
theorem dX10_turn_0 : decode cX10_turn 0 = .ok (.iload_n 1, 1) := by decide +kernel
theorem dX10_turn_1 : decode cX10_turn 1 = .ok (.invokestatic 118, 3) := by decide +kernel
theorem dX10_turn_4 : decode cX10_turn 4 = .ok (.ifCond .eq 16, 3) := by decide +kernel
theorem dX10_turn_7 : decode cX10_turn 7 = .ok (.iload_n 2, 1) := by decide +kernel
theorem dX10_turn_8 : decode cX10_turn 8 = .ok (.ifCond .lt 12, 3) := by decide +kernel
theorem dX10_turn_11 : decode cX10_turn 11 = .ok (.iload_n 2, 1) := by decide +kernel
theorem dX10_turn_12 : decode cX10_turn 12 = .ok (.getstatic 136, 3) := by decide +kernel
theorem dX10_turn_15 : decode cX10_turn 15 = .ok (.iload_n 1, 1) := by decide +kernel
theorem dX10_turn_16 : decode cX10_turn 16 = .ok (.iaload, 1) := by decide +kernel
theorem dX10_turn_17 : decode cX10_turn 17 = .ok (.if_icmp .lt 5, 3) := by decide +kernel
theorem dX10_turn_20 : decode cX10_turn 20 = .ok (.iconst 0, 1) := by decide +kernel
theorem dX10_turn_21 : decode cX10_turn 21 = .ok (.ireturn, 1) := by decide +kernel
theorem dX10_turn_22 : decode cX10_turn 22 = .ok (.iload_n 1, 1) := by decide +kernel
theorem dX10_turn_23 : decode cX10_turn 23 = .ok (.iload_n 2, 1) := by decide +kernel
theorem dX10_turn_24 : decode cX10_turn 24 = .ok (.invokestatic 139, 3) := by decide +kernel
theorem dX10_turn_27 : decode cX10_turn 27 = .ok (.istore_n 3, 1) := by decide +kernel
theorem dX10_turn_28 : decode cX10_turn 28 = .ok (.aload_n 0, 1) := by decide +kernel
theorem dX10_turn_29 : decode cX10_turn 29 = .ok (.getfield 18, 3) := by decide +kernel
theorem dX10_turn_32 : decode cX10_turn 32 = .ok (.iload_n 1, 1) := by decide +kernel
theorem dX10_turn_33 : decode cX10_turn 33 = .ok (.putfield 124, 3) := by decide +kernel
theorem dX10_turn_36 : decode cX10_turn 36 = .ok (.iconst 0, 1) := by decide +kernel
theorem dX10_turn_37 : decode cX10_turn 37 = .ok (.istore 4, 2) := by decide +kernel
theorem dX10_turn_39 : decode cX10_turn 39 = .ok (.iload 4, 2) := by decide +kernel
theorem dX10_turn_41 : decode cX10_turn 41 = .ok (.iload_n 1, 1) := by decide +kernel
theorem dX10_turn_42 : decode cX10_turn 42 = .ok (.if_icmp .ge 19, 3) := by decide +kernel
theorem dX10_turn_45 : decode cX10_turn 45 = .ok (.aload_n 0, 1) := by decide +kernel
theorem dX10_turn_46 : decode cX10_turn 46 = .ok (.getfield 18, 3) := by decide +kernel
theorem dX10_turn_49 : decode cX10_turn 49 = .ok (.iload 4, 2) := by decide +kernel
theorem dX10_turn_51 : decode cX10_turn 51 = .ok (.iload_n 3, 1) := by decide +kernel
theorem dX10_turn_52 : decode cX10_turn 52 = .ok (.invokevirtual 144, 3) := by decide +kernel
theorem dX10_turn_55 : decode cX10_turn 55 = .ok (.iinc 4 1, 3) := by decide +kernel
theorem dX10_turn_58 : decode cX10_turn 58 = .ok (.goto (-19), 3) := by decide +kernel
theorem dX10_turn_61 : decode cX10_turn 61 = .ok (.aload_n 0, 1) := by decide +kernel
theorem dX10_turn_62 : decode cX10_turn 62 = .ok (.invokevirtual 132, 3) := by decide +kernel
theorem dX10_turn_65 : decode cX10_turn 65 = .ok (.pop, 1) := by decide +kernel
theorem dX10_turn_66 : decode cX10_turn 66 = .ok (.iconst 1, 1) := by decide +kernel
theorem dX10_turn_67 : decode cX10_turn 67 = .ok (.ireturn, 1) := by decide +kernel
set_option maxRecDepth 20000 in
theorem ggX10_group_X10_gatherPeers : GoodIn wsX10_group wsX10_gatherPeers := goodIn_r _ [8, 1, 3, 9, 10, 11, 12, 13, 14, 15, 16, 17, 18, 19, 20, 7, 21, 22, 23, 24, 67, 68, 69, 70, 71, 72, 73, 74, 75, 76, 77, 78, 79, 80, 81] (by decide +kernel) (by decide +kernel)
set_option maxRecDepth 20000 in
theorem gX10_group_X10_gatherPeers : GoodIn wsX10_group (wsV RX10 148 RX10 yX10_gatherPeers wsX10_gatherPeers) := goodIn_app (goodIn_of _ (by decide +kernel)) ggX10_group_X10_gatherPeers
set_option maxRecDepth 20000 in
theorem ggX10_group_X5_contrary : GoodIn wsX10_group wsX5_contrary := goodIn_r _ [27, 28, 23, 11, 24, 16, 17, 18] (by decide +kernel) (by decide +kernel)
set_option maxRecDepth 20000 in
theorem gX10_group_X5_contrary : GoodIn wsX10_group (va_wsS RX10 152 yX5_contrary wsX5_contrary) := goodIn_app (goodIn_of _ (by decide +kernel)) ggX10_group_X5_contrary
set_option maxRecDepth 20000 in
theorem ggX10_group_X5_after : GoodIn wsX10_group wsX5_after := goodIn_r _ [31, 28, 23, 11, 24, 16, 17, 18] (by decide +kernel) (by decide +kernel)
set_option maxRecDepth 20000 in
theorem gX10_group_X5_after : GoodIn wsX10_group (va_wsS RX10 154 yX5_after wsX5_after) := goodIn_app (goodIn_of _ (by decide +kernel)) ggX10_group_X5_after
set_option maxRecDepth 20000 in
theorem ggX10_group_X10_peerOf : GoodIn wsX10_group wsX10_peerOf := goodIn_r _ [35, 3, 67, 68, 69, 70, 71, 72, 73, 74, 75, 76, 77, 78, 79, 80, 81] (by decide +kernel) (by decide +kernel)
set_option maxRecDepth 20000 in
theorem gX10_group_X10_peerOf : GoodIn wsX10_group (wsV RX10 158 RX10 yX10_peerOf wsX10_peerOf) := goodIn_app (goodIn_of _ (by decide +kernel)) ggX10_group_X10_peerOf
set_option maxRecDepth 20000 in
theorem ggX10_group_X7_put : GoodIn wsX10_group wsX7_put := goodIn_r _ [40, 41, 82, 83] (by decide +kernel) (by decide +kernel)
set_option maxRecDepth 20000 in
theorem gX10_group_X7_put : GoodIn wsX10_group (wsV RX10 103 RX7 yX7_put wsX7_put) := goodIn_app (goodIn_of _ (by decide +kernel)) ggX10_group_X7_put
set_option maxRecDepth 20000 in
theorem ggX10_group_X10_adoptDraft : GoodIn wsX10_group wsX10_adoptDraft := goodIn_r _ [45, 46, 2, 47, 48, 49, 50, 39, 51, 52, 41, 53, 54, 55, 56, 57, 58, 59, 60, 61, 62, 63, 64, 65, 66, 67, 68, 69, 70, 71, 72, 73, 74, 75, 76, 77, 78, 79, 80, 81, 82, 83, 84, 85] (by decide +kernel) (by decide +kernel)
set_option maxRecDepth 20000 in
theorem gX10_group_X10_adoptDraft : GoodIn wsX10_group (wsV RX10 132 RX10 yX10_adoptDraft wsX10_adoptDraft) := goodIn_app (goodIn_of _ (by decide +kernel)) ggX10_group_X10_adoptDraft
theorem dX10_group_0 : decode cX10_group 0 = .ok (.iload_n 1, 1) := by decide +kernel
theorem dX10_group_1 : decode cX10_group 1 = .ok (.ifCond .lt 12, 3) := by decide +kernel
theorem dX10_group_4 : decode cX10_group 4 = .ok (.iload_n 1, 1) := by decide +kernel
theorem dX10_group_5 : decode cX10_group 5 = .ok (.getstatic 136, 3) := by decide +kernel
theorem dX10_group_8 : decode cX10_group 8 = .ok (.iconst 4, 1) := by decide +kernel
theorem dX10_group_9 : decode cX10_group 9 = .ok (.iaload, 1) := by decide +kernel
theorem dX10_group_10 : decode cX10_group 10 = .ok (.if_icmp .lt 5, 3) := by decide +kernel
theorem dX10_group_13 : decode cX10_group 13 = .ok (.iconst (-1), 1) := by decide +kernel
theorem dX10_group_14 : decode cX10_group 14 = .ok (.ireturn, 1) := by decide +kernel
theorem dX10_group_15 : decode cX10_group 15 = .ok (.aload_n 0, 1) := by decide +kernel
theorem dX10_group_16 : decode cX10_group 16 = .ok (.getfield 18, 3) := by decide +kernel
theorem dX10_group_19 : decode cX10_group 19 = .ok (.aload_n 0, 1) := by decide +kernel
theorem dX10_group_20 : decode cX10_group 20 = .ok (.iload_n 1, 1) := by decide +kernel
theorem dX10_group_21 : decode cX10_group 21 = .ok (.invokevirtual 148, 3) := by decide +kernel
theorem dX10_group_24 : decode cX10_group 24 = .ok (.putfield 124, 3) := by decide +kernel
theorem dX10_group_27 : decode cX10_group 27 = .ok (.iconst 0, 1) := by decide +kernel
theorem dX10_group_28 : decode cX10_group 28 = .ok (.istore_n 2, 1) := by decide +kernel
theorem dX10_group_29 : decode cX10_group 29 = .ok (.iload_n 2, 1) := by decide +kernel
theorem dX10_group_30 : decode cX10_group 30 = .ok (.aload_n 0, 1) := by decide +kernel
theorem dX10_group_31 : decode cX10_group 31 = .ok (.getfield 18, 3) := by decide +kernel
theorem dX10_group_34 : decode cX10_group 34 = .ok (.getfield 124, 3) := by decide +kernel
theorem dX10_group_37 : decode cX10_group 37 = .ok (.if_icmp .ge 88, 3) := by decide +kernel
theorem dX10_group_40 : decode cX10_group 40 = .ok (.aload_n 0, 1) := by decide +kernel
theorem dX10_group_41 : decode cX10_group 41 = .ok (.getfield 84, 3) := by decide +kernel
theorem dX10_group_44 : decode cX10_group 44 = .ok (.iload_n 2, 1) := by decide +kernel
theorem dX10_group_45 : decode cX10_group 45 = .ok (.iaload, 1) := by decide +kernel
theorem dX10_group_46 : decode cX10_group 46 = .ok (.iconst 4, 1) := by decide +kernel
theorem dX10_group_47 : decode cX10_group 47 = .ok (.invokestatic 152, 3) := by decide +kernel
theorem dX10_group_50 : decode cX10_group 50 = .ok (.istore_n 3, 1) := by decide +kernel
theorem dX10_group_51 : decode cX10_group 51 = .ok (.iconst 0, 1) := by decide +kernel
theorem dX10_group_52 : decode cX10_group 52 = .ok (.istore 4, 2) := by decide +kernel
theorem dX10_group_54 : decode cX10_group 54 = .ok (.iload 4, 2) := by decide +kernel
theorem dX10_group_56 : decode cX10_group 56 = .ok (.aload_n 0, 1) := by decide +kernel
theorem dX10_group_57 : decode cX10_group 57 = .ok (.getfield 18, 3) := by decide +kernel
theorem dX10_group_60 : decode cX10_group 60 = .ok (.getfield 124, 3) := by decide +kernel
theorem dX10_group_63 : decode cX10_group 63 = .ok (.if_icmp .ge 56, 3) := by decide +kernel
theorem dX10_group_66 : decode cX10_group 66 = .ok (.aload_n 0, 1) := by decide +kernel
theorem dX10_group_67 : decode cX10_group 67 = .ok (.getfield 84, 3) := by decide +kernel
theorem dX10_group_70 : decode cX10_group 70 = .ok (.iload 4, 2) := by decide +kernel
theorem dX10_group_72 : decode cX10_group 72 = .ok (.iaload, 1) := by decide +kernel
theorem dX10_group_73 : decode cX10_group 73 = .ok (.iload_n 3, 1) := by decide +kernel
theorem dX10_group_74 : decode cX10_group 74 = .ok (.iconst 4, 1) := by decide +kernel
theorem dX10_group_75 : decode cX10_group 75 = .ok (.invokestatic 154, 3) := by decide +kernel
theorem dX10_group_78 : decode cX10_group 78 = .ok (.istore 5, 2) := by decide +kernel
theorem dX10_group_80 : decode cX10_group 80 = .ok (.aload_n 0, 1) := by decide +kernel
theorem dX10_group_81 : decode cX10_group 81 = .ok (.getfield 18, 3) := by decide +kernel
theorem dX10_group_84 : decode cX10_group 84 = .ok (.iload_n 2, 1) := by decide +kernel
theorem dX10_group_85 : decode cX10_group 85 = .ok (.iload 4, 2) := by decide +kernel
theorem dX10_group_87 : decode cX10_group 87 = .ok (.aload_n 0, 1) := by decide +kernel
theorem dX10_group_88 : decode cX10_group 88 = .ok (.aload_n 0, 1) := by decide +kernel
theorem dX10_group_89 : decode cX10_group 89 = .ok (.getfield 84, 3) := by decide +kernel
theorem dX10_group_92 : decode cX10_group 92 = .ok (.iload_n 2, 1) := by decide +kernel
theorem dX10_group_93 : decode cX10_group 93 = .ok (.iaload, 1) := by decide +kernel
theorem dX10_group_94 : decode cX10_group 94 = .ok (.iload 5, 2) := by decide +kernel
theorem dX10_group_96 : decode cX10_group 96 = .ok (.iconst 4, 1) := by decide +kernel
theorem dX10_group_97 : decode cX10_group 97 = .ok (.invokestatic 154, 3) := by decide +kernel
theorem dX10_group_100 : decode cX10_group 100 = .ok (.aload_n 0, 1) := by decide +kernel
theorem dX10_group_101 : decode cX10_group 101 = .ok (.getfield 18, 3) := by decide +kernel
theorem dX10_group_104 : decode cX10_group 104 = .ok (.getfield 124, 3) := by decide +kernel
theorem dX10_group_107 : decode cX10_group 107 = .ok (.invokevirtual 158, 3) := by decide +kernel
theorem dX10_group_110 : decode cX10_group 110 = .ok (.invokevirtual 103, 3) := by decide +kernel
theorem dX10_group_113 : decode cX10_group 113 = .ok (.iinc 4 1, 3) := by decide +kernel
theorem dX10_group_116 : decode cX10_group 116 = .ok (.goto (-62), 3) := by decide +kernel
theorem dX10_group_119 : decode cX10_group 119 = .ok (.iinc 2 1, 3) := by decide +kernel
theorem dX10_group_122 : decode cX10_group 122 = .ok (.goto (-93), 3) := by decide +kernel
theorem dX10_group_125 : decode cX10_group 125 = .ok (.aload_n 0, 1) := by decide +kernel
theorem dX10_group_126 : decode cX10_group 126 = .ok (.invokevirtual 132, 3) := by decide +kernel
theorem dX10_group_129 : decode cX10_group 129 = .ok (.ireturn, 1) := by decide +kernel
set_option maxRecDepth 20000 in
theorem ggX10_keep_X10_isKeep : GoodIn wsX10_keep wsX10_isKeep := goodIn_r _ [6] (by decide +kernel) (by decide +kernel)
set_option maxRecDepth 20000 in
theorem gX10_keep_X10_isKeep : GoodIn wsX10_keep (va_wsS RX10 161 yX10_isKeep wsX10_isKeep) := goodIn_app (goodIn_of _ (by decide +kernel)) ggX10_keep_X10_isKeep
set_option maxRecDepth 20000 in
theorem ggX10_keep_X7_copy : GoodIn wsX10_keep wsX7_copy := goodIn_r _ [11, 12, 13, 14, 15, 16, 17, 33, 34] (by decide +kernel) (by decide +kernel)
set_option maxRecDepth 20000 in
theorem gX10_keep_X7_copy : GoodIn wsX10_keep (wsV RX10 164 RX7 yX7_copy wsX7_copy) := goodIn_app (goodIn_of _ (by decide +kernel)) ggX10_keep_X7_copy
theorem dX10_keep_0 : decode cX10_keep 0 = .ok (.iload_n 1, 1) := by decide +kernel
theorem dX10_keep_1 : decode cX10_keep 1 = .ok (.invokestatic 161, 3) := by decide +kernel
theorem dX10_keep_4 : decode cX10_keep 4 = .ok (.ifCond .ne 5, 3) := by decide +kernel
theorem dX10_keep_7 : decode cX10_keep 7 = .ok (.iconst 0, 1) := by decide +kernel
theorem dX10_keep_8 : decode cX10_keep 8 = .ok (.ireturn, 1) := by decide +kernel
theorem dX10_keep_9 : decode cX10_keep 9 = .ok (.aload_n 0, 1) := by decide +kernel
theorem dX10_keep_10 : decode cX10_keep 10 = .ok (.getfield 24, 3) := by decide +kernel
theorem dX10_keep_13 : decode cX10_keep 13 = .ok (.iload_n 1, 1) := by decide +kernel
theorem dX10_keep_14 : decode cX10_keep 14 = .ok (.aaload, 1) := by decide +kernel
theorem dX10_keep_15 : decode cX10_keep 15 = .ok (.aload_n 0, 1) := by decide +kernel
theorem dX10_keep_16 : decode cX10_keep 16 = .ok (.getfield 14, 3) := by decide +kernel
theorem dX10_keep_19 : decode cX10_keep 19 = .ok (.invokevirtual 164, 3) := by decide +kernel
theorem dX10_keep_22 : decode cX10_keep 22 = .ok (.iconst 1, 1) := by decide +kernel
theorem dX10_keep_23 : decode cX10_keep 23 = .ok (.ireturn, 1) := by decide +kernel
set_option maxRecDepth 20000 in
theorem ggX10_fetch_X10_isFilled : GoodIn wsX10_fetch wsX10_isFilled := goodIn_r _ [7, 2, 8, 9, 6, 10, 38, 39, 40, 41, 42, 43, 44, 45, 46, 47, 48, 49, 50, 51, 52, 53, 54] (by decide +kernel) (by decide +kernel)
set_option maxRecDepth 20000 in
theorem gX10_fetch_X10_isFilled : GoodIn wsX10_fetch (wsV RX10 168 RX10 yX10_isFilled wsX10_isFilled) := goodIn_app (goodIn_of _ (by decide +kernel)) ggX10_fetch_X10_isFilled
set_option maxRecDepth 20000 in
theorem ggX10_fetch_X7_copy : GoodIn wsX10_fetch wsX7_copy := goodIn_r _ [15, 16, 17, 18, 19, 20, 21, 53, 54] (by decide +kernel) (by decide +kernel)
set_option maxRecDepth 20000 in
theorem gX10_fetch_X7_copy : GoodIn wsX10_fetch (wsV RX10 164 RX7 yX7_copy wsX7_copy) := goodIn_app (goodIn_of _ (by decide +kernel)) ggX10_fetch_X7_copy
set_option maxRecDepth 20000 in
theorem ggX10_fetch_X10_adoptDraft : GoodIn wsX10_fetch wsX10_adoptDraft := goodIn_r _ [25, 26, 1, 27, 11, 12, 13, 14, 15, 16, 17, 18, 19, 20, 21, 28, 29, 30, 31, 32, 33, 34, 35, 36, 37, 38, 39, 40, 41, 42, 43, 44, 45, 46, 47, 48, 49, 50, 51, 52, 53, 54, 55, 56] (by decide +kernel) (by decide +kernel)
set_option maxRecDepth 20000 in
theorem gX10_fetch_X10_adoptDraft : GoodIn wsX10_fetch (wsV RX10 132 RX10 yX10_adoptDraft wsX10_adoptDraft) := goodIn_app (goodIn_of _ (by decide +kernel)) ggX10_fetch_X10_adoptDraft
theorem dX10_fetch_0 : decode cX10_fetch 0 = .ok (.aload_n 0, 1) := by decide +kernel
theorem dX10_fetch_1 : decode cX10_fetch 1 = .ok (.iload_n 1, 1) := by decide +kernel
theorem dX10_fetch_2 : decode cX10_fetch 2 = .ok (.invokevirtual 168, 3) := by decide +kernel
theorem dX10_fetch_5 : decode cX10_fetch 5 = .ok (.ifCond .ne 5, 3) := by decide +kernel
theorem dX10_fetch_8 : decode cX10_fetch 8 = .ok (.iconst (-1), 1) := by decide +kernel
theorem dX10_fetch_9 : decode cX10_fetch 9 = .ok (.ireturn, 1) := by decide +kernel
theorem dX10_fetch_10 : decode cX10_fetch 10 = .ok (.aload_n 0, 1) := by decide +kernel
theorem dX10_fetch_11 : decode cX10_fetch 11 = .ok (.getfield 18, 3) := by decide +kernel
theorem dX10_fetch_14 : decode cX10_fetch 14 = .ok (.aload_n 0, 1) := by decide +kernel
theorem dX10_fetch_15 : decode cX10_fetch 15 = .ok (.getfield 24, 3) := by decide +kernel
theorem dX10_fetch_18 : decode cX10_fetch 18 = .ok (.iload_n 1, 1) := by decide +kernel
theorem dX10_fetch_19 : decode cX10_fetch 19 = .ok (.aaload, 1) := by decide +kernel
theorem dX10_fetch_20 : decode cX10_fetch 20 = .ok (.invokevirtual 164, 3) := by decide +kernel
theorem dX10_fetch_23 : decode cX10_fetch 23 = .ok (.aload_n 0, 1) := by decide +kernel
theorem dX10_fetch_24 : decode cX10_fetch 24 = .ok (.invokevirtual 132, 3) := by decide +kernel
theorem dX10_fetch_27 : decode cX10_fetch 27 = .ok (.ireturn, 1) := by decide +kernel
theorem dX10_count_0 : decode cX10_count 0 = .ok (.iload_n 1, 1) := by decide +kernel
theorem dX10_count_1 : decode cX10_count 1 = .ok (.tableswitch 72 0 4 #[35, 43, 51, 59, 67], 35) := by decide +kernel
theorem dX10_count_36 : decode cX10_count 36 = .ok (.aload_n 0, 1) := by decide +kernel
theorem dX10_count_37 : decode cX10_count 37 = .ok (.getfield 14, 3) := by decide +kernel
theorem dX10_count_40 : decode cX10_count 40 = .ok (.getfield 124, 3) := by decide +kernel
theorem dX10_count_43 : decode cX10_count 43 = .ok (.ireturn, 1) := by decide +kernel
theorem dX10_count_44 : decode cX10_count 44 = .ok (.aload_n 0, 1) := by decide +kernel
theorem dX10_count_45 : decode cX10_count 45 = .ok (.getfield 31, 3) := by decide +kernel
theorem dX10_count_48 : decode cX10_count 48 = .ok (.getfield 171, 3) := by decide +kernel
theorem dX10_count_51 : decode cX10_count 51 = .ok (.ireturn, 1) := by decide +kernel
theorem dX10_count_52 : decode cX10_count 52 = .ok (.aload_n 0, 1) := by decide +kernel
theorem dX10_count_53 : decode cX10_count 53 = .ok (.getfield 38, 3) := by decide +kernel
theorem dX10_count_56 : decode cX10_count 56 = .ok (.getfield 174, 3) := by decide +kernel
theorem dX10_count_59 : decode cX10_count 59 = .ok (.ireturn, 1) := by decide +kernel
theorem dX10_count_60 : decode cX10_count 60 = .ok (.aload_n 0, 1) := by decide +kernel
theorem dX10_count_61 : decode cX10_count 61 = .ok (.getfield 38, 3) := by decide +kernel
theorem dX10_count_64 : decode cX10_count 64 = .ok (.getfield 177, 3) := by decide +kernel
theorem dX10_count_67 : decode cX10_count 67 = .ok (.ireturn, 1) := by decide +kernel
theorem dX10_count_68 : decode cX10_count 68 = .ok (.aload_n 0, 1) := by decide +kernel
theorem dX10_count_69 : decode cX10_count 69 = .ok (.getfield 91, 3) := by decide +kernel
theorem dX10_count_72 : decode cX10_count 72 = .ok (.ireturn, 1) := by decide +kernel
theorem dX10_count_73 : decode cX10_count 73 = .ok (.iconst (-1), 1) := by decide +kernel
theorem dX10_count_74 : decode cX10_count 74 = .ok (.ireturn, 1) := by decide +kernel
set_option maxRecDepth 20000 in
theorem ggX10_wrong_X7_firstTornRow : GoodIn wsX10_wrong wsX7_firstTornRow := goodIn_r _ [7, 8, 9, 10, 11, 6, 12, 13, 43, 44] (by decide +kernel) (by decide +kernel)
set_option maxRecDepth 20000 in
theorem gX10_wrong_X7_firstTornRow : GoodIn wsX10_wrong (wsV RX10 180 RX7 yX7_firstTornRow wsX7_firstTornRow) := goodIn_app (goodIn_of _ (by decide +kernel)) ggX10_wrong_X7_firstTornRow
set_option maxRecDepth 20000 in
theorem ggX10_wrong_X10_tell : GoodIn wsX10_wrong wsX10_tell := goodIn_r _ [18, 2, 19, 28, 29, 30, 31, 32, 33, 34, 35, 36, 37, 38, 39, 40, 41, 42] (by decide +kernel) (by decide +kernel)
set_option maxRecDepth 20000 in
theorem gX10_wrong_X10_tell : GoodIn wsX10_wrong (wsV RX10 183 RX10 yX10_tell wsX10_tell) := goodIn_app (goodIn_of _ (by decide +kernel)) ggX10_wrong_X10_tell
set_option maxRecDepth 20000 in
theorem ggX10_wrong_X7_firstBrokenTriple : GoodIn wsX10_wrong wsX7_firstBrokenTriple := goodIn_r _ [23, 8, 9, 10, 11, 6, 12, 13, 43, 44] (by decide +kernel) (by decide +kernel)
set_option maxRecDepth 20000 in
theorem gX10_wrong_X7_firstBrokenTriple : GoodIn wsX10_wrong (wsV RX10 186 RX7 yX7_firstBrokenTriple wsX7_firstBrokenTriple) := goodIn_app (goodIn_of _ (by decide +kernel)) ggX10_wrong_X7_firstBrokenTriple
set_option maxRecDepth 20000 in
theorem ggX10_wrong_X10_tellTriple : GoodIn wsX10_wrong wsX10_tellTriple := goodIn_r _ [27, 2, 14, 15, 16, 17, 18, 19, 28, 29, 30, 31, 32, 33, 34, 35, 36, 37, 38, 39, 40, 41, 42] (by decide +kernel) (by decide +kernel)
set_option maxRecDepth 20000 in
theorem gX10_wrong_X10_tellTriple : GoodIn wsX10_wrong (wsV RX10 189 RX10 yX10_tellTriple wsX10_tellTriple) := goodIn_app (goodIn_of _ (by decide +kernel)) ggX10_wrong_X10_tellTriple
theorem dX10_wrong_0 : decode cX10_wrong 0 = .ok (.aload_n 0, 1) := by decide +kernel
theorem dX10_wrong_1 : decode cX10_wrong 1 = .ok (.getfield 14, 3) := by decide +kernel
theorem dX10_wrong_4 : decode cX10_wrong 4 = .ok (.invokevirtual 180, 3) := by decide +kernel
theorem dX10_wrong_7 : decode cX10_wrong 7 = .ok (.istore_n 1, 1) := by decide +kernel
theorem dX10_wrong_8 : decode cX10_wrong 8 = .ok (.iload_n 1, 1) := by decide +kernel
theorem dX10_wrong_9 : decode cX10_wrong 9 = .ok (.iconst (-1), 1) := by decide +kernel
theorem dX10_wrong_10 : decode cX10_wrong 10 = .ok (.if_icmp .eq 15, 3) := by decide +kernel
theorem dX10_wrong_13 : decode cX10_wrong 13 = .ok (.aload_n 0, 1) := by decide +kernel
theorem dX10_wrong_14 : decode cX10_wrong 14 = .ok (.iconst 0, 1) := by decide +kernel
theorem dX10_wrong_15 : decode cX10_wrong 15 = .ok (.putfield 91, 3) := by decide +kernel
theorem dX10_wrong_18 : decode cX10_wrong 18 = .ok (.aload_n 0, 1) := by decide +kernel
theorem dX10_wrong_19 : decode cX10_wrong 19 = .ok (.iload_n 1, 1) := by decide +kernel
theorem dX10_wrong_20 : decode cX10_wrong 20 = .ok (.invokevirtual 183, 3) := by decide +kernel
theorem dX10_wrong_23 : decode cX10_wrong 23 = .ok (.iconst 1, 1) := by decide +kernel
theorem dX10_wrong_24 : decode cX10_wrong 24 = .ok (.ireturn, 1) := by decide +kernel
theorem dX10_wrong_25 : decode cX10_wrong 25 = .ok (.aload_n 0, 1) := by decide +kernel
theorem dX10_wrong_26 : decode cX10_wrong 26 = .ok (.getfield 14, 3) := by decide +kernel
theorem dX10_wrong_29 : decode cX10_wrong 29 = .ok (.invokevirtual 186, 3) := by decide +kernel
theorem dX10_wrong_32 : decode cX10_wrong 32 = .ok (.istore_n 2, 1) := by decide +kernel
theorem dX10_wrong_33 : decode cX10_wrong 33 = .ok (.iload_n 2, 1) := by decide +kernel
theorem dX10_wrong_34 : decode cX10_wrong 34 = .ok (.iconst (-1), 1) := by decide +kernel
theorem dX10_wrong_35 : decode cX10_wrong 35 = .ok (.if_icmp .eq 10, 3) := by decide +kernel
theorem dX10_wrong_38 : decode cX10_wrong 38 = .ok (.aload_n 0, 1) := by decide +kernel
theorem dX10_wrong_39 : decode cX10_wrong 39 = .ok (.iload_n 2, 1) := by decide +kernel
theorem dX10_wrong_40 : decode cX10_wrong 40 = .ok (.invokevirtual 189, 3) := by decide +kernel
theorem dX10_wrong_43 : decode cX10_wrong 43 = .ok (.iconst 2, 1) := by decide +kernel
theorem dX10_wrong_44 : decode cX10_wrong 44 = .ok (.ireturn, 1) := by decide +kernel
theorem dX10_wrong_45 : decode cX10_wrong 45 = .ok (.iconst 0, 1) := by decide +kernel
theorem dX10_wrong_46 : decode cX10_wrong 46 = .ok (.ireturn, 1) := by decide +kernel
set_option maxRecDepth 20000 in
theorem ggX10_is_X7_isRack : GoodIn wsX10_is wsX7_isRack := goodIn_r _ [6, 7, 8, 9, 5, 10, 11, 12, 13, 14, 15, 16, 17, 18, 19, 20, 90, 91] (by decide +kernel) (by decide +kernel)
set_option maxRecDepth 20000 in
theorem gX10_is_X7_isRack : GoodIn wsX10_is (wsV RX10 192 RX7 yX7_isRack wsX7_isRack) := goodIn_app (goodIn_of _ (by decide +kernel)) ggX10_is_X7_isRack
set_option maxRecDepth 20000 in
theorem ggX10_is_X10_holds : GoodIn wsX10_is wsX10_holds := goodIn_r _ [25, 1, 26, 27, 28, 5, 29, 11, 12, 13, 14, 15, 16, 30, 31, 32, 33, 34, 35, 36, 24, 37, 38, 39, 40, 41, 42, 43, 44, 45, 46, 47, 48, 49, 50, 51, 52, 53, 54, 55, 56, 57, 58, 59, 60, 61, 62, 63, 64, 65, 66, 67, 68, 69, 70, 71, 72, 73, 74, 75, 76, 77, 78, 79, 80, 81, 82, 83, 84, 85, 86, 87, 88, 89, 90, 91, 92, 93, 94] (by decide +kernel) (by decide +kernel)
set_option maxRecDepth 20000 in
theorem gX10_is_X10_holds : GoodIn wsX10_is (wsV RX10 196 RX10 yX10_holds wsX10_holds) := goodIn_app (goodIn_of _ (by decide +kernel)) ggX10_is_X10_holds
theorem dX10_is_0 : decode cX10_is 0 = .ok (.iload_n 1, 1) := by decide +kernel
theorem dX10_is_1 : decode cX10_is 1 = .ok (.ifCond .lt 18, 3) := by decide +kernel
theorem dX10_is_4 : decode cX10_is 4 = .ok (.iload_n 1, 1) := by decide +kernel
theorem dX10_is_5 : decode cX10_is 5 = .ok (.iconst 4, 1) := by decide +kernel
theorem dX10_is_6 : decode cX10_is 6 = .ok (.if_icmp .gt 13, 3) := by decide +kernel
theorem dX10_is_9 : decode cX10_is 9 = .ok (.aload_n 0, 1) := by decide +kernel
theorem dX10_is_10 : decode cX10_is 10 = .ok (.getfield 14, 3) := by decide +kernel
theorem dX10_is_13 : decode cX10_is 13 = .ok (.invokevirtual 192, 3) := by decide +kernel
theorem dX10_is_16 : decode cX10_is 16 = .ok (.ifCond .ne 5, 3) := by decide +kernel
theorem dX10_is_19 : decode cX10_is 19 = .ok (.iconst (-1), 1) := by decide +kernel
theorem dX10_is_20 : decode cX10_is 20 = .ok (.ireturn, 1) := by decide +kernel
theorem dX10_is_21 : decode cX10_is 21 = .ok (.aload_n 0, 1) := by decide +kernel
theorem dX10_is_22 : decode cX10_is 22 = .ok (.iload_n 1, 1) := by decide +kernel
theorem dX10_is_23 : decode cX10_is 23 = .ok (.invokevirtual 196, 3) := by decide +kernel
theorem dX10_is_26 : decode cX10_is 26 = .ok (.ifCond .eq 7, 3) := by decide +kernel
theorem dX10_is_29 : decode cX10_is 29 = .ok (.iconst 1, 1) := by decide +kernel
theorem dX10_is_30 : decode cX10_is 30 = .ok (.goto 4, 3) := by decide +kernel
theorem dX10_is_33 : decode cX10_is 33 = .ok (.iconst 0, 1) := by decide +kernel
theorem dX10_is_34 : decode cX10_is 34 = .ok (.ireturn, 1) := by decide +kernel
set_option maxRecDepth 20000 in
theorem ggX10_orbits_X7_isRack : GoodIn wsX10_orbits wsX7_isRack := goodIn_r _ [8, 9, 10, 11, 7, 12, 13, 14, 15, 16, 17, 18, 19, 20, 21, 22, 76, 77] (by decide +kernel) (by decide +kernel)
set_option maxRecDepth 20000 in
theorem gX10_orbits_X7_isRack : GoodIn wsX10_orbits (wsV RX10 192 RX7 yX7_isRack wsX7_isRack) := goodIn_app (goodIn_of _ (by decide +kernel)) ggX10_orbits_X7_isRack
set_option maxRecDepth 20000 in
theorem ggX10_orbits_X10_splitIntoOrbits : GoodIn wsX10_orbits wsX10_splitIntoOrbits := goodIn_r _ [27, 3, 1, 28, 29, 30, 31, 32, 33, 34, 35, 15, 16, 7, 17, 18, 36, 37, 38, 39, 40, 41, 42, 43, 44, 45, 46, 47, 48, 49, 50, 51, 61, 62, 63, 64, 65, 66, 67, 68, 69, 70, 71, 72, 73, 74, 75, 76, 77, 78, 79, 80] (by decide +kernel) (by decide +kernel)
set_option maxRecDepth 20000 in
theorem gX10_orbits_X10_splitIntoOrbits : GoodIn wsX10_orbits (wsV RX10 199 RX10 yX10_splitIntoOrbits wsX10_splitIntoOrbits) := goodIn_app (goodIn_of _ (by decide +kernel)) ggX10_orbits_X10_splitIntoOrbits
set_option maxRecDepth 20000 in
theorem ggX10_orbits_X1_numberOf : GoodIn wsX10_orbits wsX1_numberOf := goodIn_r _ [55, 51, 78, 79, 80] (by decide +kernel) (by decide +kernel)
set_option maxRecDepth 20000 in
theorem gX10_orbits_X1_numberOf : GoodIn wsX10_orbits (wsV RX10 202 RX1 yX1_numberOf wsX1_numberOf) := goodIn_app (goodIn_of _ (by decide +kernel)) ggX10_orbits_X1_numberOf
set_option maxRecDepth 20000 in
theorem ggX10_orbits_X10_tell : GoodIn wsX10_orbits wsX10_tell := goodIn_r _ [59, 2, 60, 61, 62, 63, 64, 65, 66, 67, 68, 69, 70, 71, 72, 73, 74, 75] (by decide +kernel) (by decide +kernel)
set_option maxRecDepth 20000 in
theorem gX10_orbits_X10_tell : GoodIn wsX10_orbits (wsV RX10 183 RX10 yX10_tell wsX10_tell) := goodIn_app (goodIn_of _ (by decide +kernel)) ggX10_orbits_X10_tell
theorem dX10_orbits_0 : decode cX10_orbits 0 = .ok (.aload_n 0, 1) := by decide +kernel
theorem dX10_orbits_1 : decode cX10_orbits 1 = .ok (.getfield 14, 3) := by decide +kernel
theorem dX10_orbits_4 : decode cX10_orbits 4 = .ok (.invokevirtual 192, 3) := by decide +kernel
theorem dX10_orbits_7 : decode cX10_orbits 7 = .ok (.ifCond .ne 5, 3) := by decide +kernel
theorem dX10_orbits_10 : decode cX10_orbits 10 = .ok (.iconst (-1), 1) := by decide +kernel
theorem dX10_orbits_11 : decode cX10_orbits 11 = .ok (.ireturn, 1) := by decide +kernel
theorem dX10_orbits_12 : decode cX10_orbits 12 = .ok (.aload_n 0, 1) := by decide +kernel
theorem dX10_orbits_13 : decode cX10_orbits 13 = .ok (.invokevirtual 199, 3) := by decide +kernel
theorem dX10_orbits_16 : decode cX10_orbits 16 = .ok (.istore_n 1, 1) := by decide +kernel
theorem dX10_orbits_17 : decode cX10_orbits 17 = .ok (.aload_n 0, 1) := by decide +kernel
theorem dX10_orbits_18 : decode cX10_orbits 18 = .ok (.iconst 0, 1) := by decide +kernel
theorem dX10_orbits_19 : decode cX10_orbits 19 = .ok (.putfield 91, 3) := by decide +kernel
theorem dX10_orbits_22 : decode cX10_orbits 22 = .ok (.iconst 0, 1) := by decide +kernel
theorem dX10_orbits_23 : decode cX10_orbits 23 = .ok (.istore_n 2, 1) := by decide +kernel
theorem dX10_orbits_24 : decode cX10_orbits 24 = .ok (.iload_n 2, 1) := by decide +kernel
theorem dX10_orbits_25 : decode cX10_orbits 25 = .ok (.aload_n 0, 1) := by decide +kernel
theorem dX10_orbits_26 : decode cX10_orbits 26 = .ok (.getfield 14, 3) := by decide +kernel
theorem dX10_orbits_29 : decode cX10_orbits 29 = .ok (.getfield 124, 3) := by decide +kernel
theorem dX10_orbits_32 : decode cX10_orbits 32 = .ok (.if_icmp .ge 21, 3) := by decide +kernel
theorem dX10_orbits_35 : decode cX10_orbits 35 = .ok (.aload_n 0, 1) := by decide +kernel
theorem dX10_orbits_36 : decode cX10_orbits 36 = .ok (.aload_n 0, 1) := by decide +kernel
theorem dX10_orbits_37 : decode cX10_orbits 37 = .ok (.getfield 45, 3) := by decide +kernel
theorem dX10_orbits_40 : decode cX10_orbits 40 = .ok (.iload_n 2, 1) := by decide +kernel
theorem dX10_orbits_41 : decode cX10_orbits 41 = .ok (.invokevirtual 202, 3) := by decide +kernel
theorem dX10_orbits_44 : decode cX10_orbits 44 = .ok (.invokevirtual 183, 3) := by decide +kernel
theorem dX10_orbits_47 : decode cX10_orbits 47 = .ok (.iinc 2 1, 3) := by decide +kernel
theorem dX10_orbits_50 : decode cX10_orbits 50 = .ok (.goto (-26), 3) := by decide +kernel
theorem dX10_orbits_53 : decode cX10_orbits 53 = .ok (.iload_n 1, 1) := by decide +kernel
theorem dX10_orbits_54 : decode cX10_orbits 54 = .ok (.ireturn, 1) := by decide +kernel
set_option maxRecDepth 20000 in
theorem ggX10_moves_X7_isRack : GoodIn wsX10_moves wsX7_isRack := goodIn_r _ [7, 8, 9, 10, 6, 11, 12, 13, 14, 15, 16, 17, 18, 19, 20, 21, 86, 87] (by decide +kernel) (by decide +kernel)
set_option maxRecDepth 20000 in
theorem gX10_moves_X7_isRack : GoodIn wsX10_moves (wsV RX10 192 RX7 yX7_isRack wsX7_isRack) := goodIn_app (goodIn_of _ (by decide +kernel)) ggX10_moves_X7_isRack
set_option maxRecDepth 20000 in
theorem ggX10_moves_X8_orderOf : GoodIn wsX10_moves wsX8_orderOf := goodIn_r _ [26, 27, 28, 29, 30, 31, 32, 14, 15, 6, 16, 17, 33, 34, 35, 36, 37, 38, 39, 25, 40, 41, 42, 43, 44, 45, 46, 47, 48, 49, 50, 51, 52, 53, 54, 55, 56, 57, 58, 59, 60, 61, 62, 63, 64, 65, 66, 67, 68, 69, 70, 88, 89, 90, 86, 87] (by decide +kernel) (by decide +kernel)
set_option maxRecDepth 20000 in
theorem gX10_moves_X8_orderOf : GoodIn wsX10_moves (wsV RX10 205 RX8 yX8_orderOf wsX8_orderOf) := goodIn_app (goodIn_of _ (by decide +kernel)) ggX10_moves_X8_orderOf
theorem dX10_moves_0 : decode cX10_moves 0 = .ok (.aload_n 0, 1) := by decide +kernel
theorem dX10_moves_1 : decode cX10_moves 1 = .ok (.getfield 14, 3) := by decide +kernel
theorem dX10_moves_4 : decode cX10_moves 4 = .ok (.invokevirtual 192, 3) := by decide +kernel
theorem dX10_moves_7 : decode cX10_moves 7 = .ok (.ifCond .eq 17, 3) := by decide +kernel
theorem dX10_moves_10 : decode cX10_moves 10 = .ok (.aload_n 0, 1) := by decide +kernel
theorem dX10_moves_11 : decode cX10_moves 11 = .ok (.getfield 66, 3) := by decide +kernel
theorem dX10_moves_14 : decode cX10_moves 14 = .ok (.aload_n 0, 1) := by decide +kernel
theorem dX10_moves_15 : decode cX10_moves 15 = .ok (.getfield 14, 3) := by decide +kernel
theorem dX10_moves_18 : decode cX10_moves 18 = .ok (.invokevirtual 205, 3) := by decide +kernel
theorem dX10_moves_21 : decode cX10_moves 21 = .ok (.goto 4, 3) := by decide +kernel
theorem dX10_moves_24 : decode cX10_moves 24 = .ok (.iconst (-1), 1) := by decide +kernel
theorem dX10_moves_25 : decode cX10_moves 25 = .ok (.ireturn, 1) := by decide +kernel
set_option maxRecDepth 20000 in
theorem ggX10_keepers_X3_countKeepers : GoodIn wsX10_keepers wsX3_countKeepers := goodIn_r _ [7, 8, 9, 10, 11, 12, 13, 6, 14, 15, 16, 17, 18, 19, 20, 21, 22, 23, 24, 25, 26, 27, 28, 29, 30, 31, 32, 33, 34, 35, 36, 37, 53, 54, 55, 56, 57, 58] (by decide +kernel) (by decide +kernel)
set_option maxRecDepth 20000 in
theorem gX10_keepers_X3_countKeepers : GoodIn wsX10_keepers (wsV RX10 209 RX3 yX3_countKeepers wsX3_countKeepers) := goodIn_app (goodIn_of _ (by decide +kernel)) ggX10_keepers_X3_countKeepers
theorem dX10_keepers_0 : decode cX10_keepers 0 = .ok (.aload_n 0, 1) := by decide +kernel
theorem dX10_keepers_1 : decode cX10_keepers 1 = .ok (.getfield 52, 3) := by decide +kernel
theorem dX10_keepers_4 : decode cX10_keepers 4 = .ok (.aload_n 0, 1) := by decide +kernel
theorem dX10_keepers_5 : decode cX10_keepers 5 = .ok (.getfield 14, 3) := by decide +kernel
theorem dX10_keepers_8 : decode cX10_keepers 8 = .ok (.invokevirtual 209, 3) := by decide +kernel
theorem dX10_keepers_11 : decode cX10_keepers 11 = .ok (.ireturn, 1) := by decide +kernel
set_option maxRecDepth 20000 in
theorem ggX10_least_X4_lessen : GoodIn wsX10_least wsX4_lessen := goodIn_r _ [8, 9, 10, 11, 12, 13, 14, 15, 16, 17, 18, 19, 20, 21, 22, 23, 24, 25, 26, 27, 28, 29, 7, 30, 31, 32, 33, 34, 35, 36, 37, 38, 39, 40, 41, 42, 43, 44, 45, 46, 47, 48, 49, 50, 51, 52, 53, 54, 55, 56, 57, 58, 59, 60, 61, 62, 63, 64, 65, 66, 67, 68, 69, 70, 71, 72, 73, 74, 75, 76, 77, 78, 79, 80, 81, 82, 83, 113, 114, 115, 116, 117, 118, 119, 120] (by decide +kernel) (by decide +kernel)
set_option maxRecDepth 20000 in
theorem gX10_least_X4_lessen : GoodIn wsX10_least (wsV RX10 212 RX4 yX4_lessen wsX4_lessen) := goodIn_app (goodIn_of _ (by decide +kernel)) ggX10_least_X4_lessen
set_option maxRecDepth 20000 in
theorem ggX10_least_X7_copy : GoodIn wsX10_least wsX7_copy := goodIn_r _ [16, 17, 18, 19, 20, 21, 22, 119, 120] (by decide +kernel) (by decide +kernel)
set_option maxRecDepth 20000 in
theorem gX10_least_X7_copy : GoodIn wsX10_least (wsV RX10 164 RX7 yX7_copy wsX7_copy) := goodIn_app (goodIn_of _ (by decide +kernel)) ggX10_least_X7_copy
set_option maxRecDepth 20000 in
theorem ggX10_least_X10_adoptDraft : GoodIn wsX10_least wsX10_adoptDraft := goodIn_r _ [89, 2, 3, 90, 84, 13, 14, 15, 16, 17, 18, 19, 20, 21, 22, 91, 92, 93, 94, 95, 96, 97, 24, 25, 26, 98, 99, 100, 101, 102, 103, 104, 105, 106, 107, 108, 109, 110, 111, 112, 119, 120, 121, 122] (by decide +kernel) (by decide +kernel)
set_option maxRecDepth 20000 in
theorem gX10_least_X10_adoptDraft : GoodIn wsX10_least (wsV RX10 132 RX10 yX10_adoptDraft wsX10_adoptDraft) := goodIn_app (goodIn_of _ (by decide +kernel)) ggX10_least_X10_adoptDraft
theorem dX10_least_0 : decode cX10_least 0 = .ok (.aload_n 0, 1) := by decide +kernel
theorem dX10_least_1 : decode cX10_least 1 = .ok (.getfield 59, 3) := by decide +kernel
theorem dX10_least_4 : decode cX10_least 4 = .ok (.aload_n 0, 1) := by decide +kernel
theorem dX10_least_5 : decode cX10_least 5 = .ok (.getfield 14, 3) := by decide +kernel
theorem dX10_least_8 : decode cX10_least 8 = .ok (.invokevirtual 212, 3) := by decide +kernel
theorem dX10_least_11 : decode cX10_least 11 = .ok (.istore_n 1, 1) := by decide +kernel
theorem dX10_least_12 : decode cX10_least 12 = .ok (.aload_n 0, 1) := by decide +kernel
theorem dX10_least_13 : decode cX10_least 13 = .ok (.getfield 18, 3) := by decide +kernel
theorem dX10_least_16 : decode cX10_least 16 = .ok (.aload_n 0, 1) := by decide +kernel
theorem dX10_least_17 : decode cX10_least 17 = .ok (.getfield 59, 3) := by decide +kernel
theorem dX10_least_20 : decode cX10_least 20 = .ok (.getfield 216, 3) := by decide +kernel
theorem dX10_least_23 : decode cX10_least 23 = .ok (.invokevirtual 164, 3) := by decide +kernel
theorem dX10_least_26 : decode cX10_least 26 = .ok (.aload_n 0, 1) := by decide +kernel
theorem dX10_least_27 : decode cX10_least 27 = .ok (.invokevirtual 132, 3) := by decide +kernel
theorem dX10_least_30 : decode cX10_least 30 = .ok (.pop, 1) := by decide +kernel
theorem dX10_least_31 : decode cX10_least 31 = .ok (.iload_n 1, 1) := by decide +kernel
theorem dX10_least_32 : decode cX10_least 32 = .ok (.ireturn, 1) := by decide +kernel
set_option maxRecDepth 20000 in
theorem ggX10_like_X10_isFilled : GoodIn wsX10_like wsX10_isFilled := goodIn_r _ [8, 3, 9, 10, 7, 11, 47, 48, 49, 50, 51, 52, 53, 54, 55, 56, 57, 58, 59, 60, 61, 62, 63] (by decide +kernel) (by decide +kernel)
set_option maxRecDepth 20000 in
theorem gX10_like_X10_isFilled : GoodIn wsX10_like (wsV RX10 168 RX10 yX10_isFilled wsX10_isFilled) := goodIn_app (goodIn_of _ (by decide +kernel)) ggX10_like_X10_isFilled
set_option maxRecDepth 20000 in
theorem ggX10_like_X3_matches : GoodIn wsX10_like wsX3_matches := goodIn_r _ [16, 17, 18, 19, 20, 21, 15, 22, 23, 24, 25, 26, 27, 28, 29, 30, 31, 32, 33, 34, 35, 36, 37, 38, 39, 40, 41, 42, 43, 44, 45, 46, 64, 65, 66, 67, 62, 63] (by decide +kernel) (by decide +kernel)
set_option maxRecDepth 20000 in
theorem gX10_like_X3_matches : GoodIn wsX10_like (wsV RX10 219 RX3 yX3_matches wsX3_matches) := goodIn_app (goodIn_of _ (by decide +kernel)) ggX10_like_X3_matches
theorem dX10_like_0 : decode cX10_like 0 = .ok (.aload_n 0, 1) := by decide +kernel
theorem dX10_like_1 : decode cX10_like 1 = .ok (.iload_n 1, 1) := by decide +kernel
theorem dX10_like_2 : decode cX10_like 2 = .ok (.invokevirtual 168, 3) := by decide +kernel
theorem dX10_like_5 : decode cX10_like 5 = .ok (.ifCond .ne 5, 3) := by decide +kernel
theorem dX10_like_8 : decode cX10_like 8 = .ok (.iconst (-1), 1) := by decide +kernel
theorem dX10_like_9 : decode cX10_like 9 = .ok (.ireturn, 1) := by decide +kernel
theorem dX10_like_10 : decode cX10_like 10 = .ok (.aload_n 0, 1) := by decide +kernel
theorem dX10_like_11 : decode cX10_like 11 = .ok (.getfield 52, 3) := by decide +kernel
theorem dX10_like_14 : decode cX10_like 14 = .ok (.aload_n 0, 1) := by decide +kernel
theorem dX10_like_15 : decode cX10_like 15 = .ok (.getfield 14, 3) := by decide +kernel
theorem dX10_like_18 : decode cX10_like 18 = .ok (.aload_n 0, 1) := by decide +kernel
theorem dX10_like_19 : decode cX10_like 19 = .ok (.getfield 24, 3) := by decide +kernel
theorem dX10_like_22 : decode cX10_like 22 = .ok (.iload_n 1, 1) := by decide +kernel
theorem dX10_like_23 : decode cX10_like 23 = .ok (.aaload, 1) := by decide +kernel
theorem dX10_like_24 : decode cX10_like 24 = .ok (.invokevirtual 219, 3) := by decide +kernel
theorem dX10_like_27 : decode cX10_like 27 = .ok (.ifCond .eq 7, 3) := by decide +kernel
theorem dX10_like_30 : decode cX10_like 30 = .ok (.iconst 1, 1) := by decide +kernel
theorem dX10_like_31 : decode cX10_like 31 = .ok (.goto 4, 3) := by decide +kernel
theorem dX10_like_34 : decode cX10_like 34 = .ok (.iconst 0, 1) := by decide +kernel
theorem dX10_like_35 : decode cX10_like 35 = .ok (.ireturn, 1) := by decide +kernel
set_option maxRecDepth 20000 in
theorem ggX10_dual_X7_firstTornRow : GoodIn wsX10_dual wsX7_firstTornRow := goodIn_r _ [7, 8, 9, 10, 11, 6, 12, 13, 61, 62] (by decide +kernel) (by decide +kernel)
set_option maxRecDepth 20000 in
theorem gX10_dual_X7_firstTornRow : GoodIn wsX10_dual (wsV RX10 180 RX7 yX7_firstTornRow wsX7_firstTornRow) := goodIn_app (goodIn_of _ (by decide +kernel)) ggX10_dual_X7_firstTornRow
set_option maxRecDepth 20000 in
theorem ggX10_dual_X7_makeContrary : GoodIn wsX10_dual wsX7_makeContrary := goodIn_r _ [17, 8, 9, 10, 11, 6, 12, 13, 18, 19, 20, 21, 61, 62] (by decide +kernel) (by decide +kernel)
set_option maxRecDepth 20000 in
theorem gX10_dual_X7_makeContrary : GoodIn wsX10_dual (wsV RX10 223 RX7 yX7_makeContrary wsX7_makeContrary) := goodIn_app (goodIn_of _ (by decide +kernel)) ggX10_dual_X7_makeContrary
set_option maxRecDepth 20000 in
theorem ggX10_dual_X10_adoptDraft : GoodIn wsX10_dual wsX10_adoptDraft := goodIn_r _ [26, 1, 2, 27, 28, 29, 30, 6, 31, 8, 13, 32, 33, 34, 35, 36, 37, 38, 39, 40, 41, 42, 43, 44, 45, 46, 47, 48, 49, 50, 51, 52, 53, 54, 55, 56, 57, 58, 59, 60, 61, 62, 63, 64] (by decide +kernel) (by decide +kernel)
set_option maxRecDepth 20000 in
theorem gX10_dual_X10_adoptDraft : GoodIn wsX10_dual (wsV RX10 132 RX10 yX10_adoptDraft wsX10_adoptDraft) := goodIn_app (goodIn_of _ (by decide +kernel)) ggX10_dual_X10_adoptDraft
theorem dX10_dual_0 : decode cX10_dual 0 = .ok (.aload_n 0, 1) := by decide +kernel
theorem dX10_dual_1 : decode cX10_dual 1 = .ok (.getfield 14, 3) := by decide +kernel
theorem dX10_dual_4 : decode cX10_dual 4 = .ok (.invokevirtual 180, 3) := by decide +kernel
theorem dX10_dual_7 : decode cX10_dual 7 = .ok (.iconst (-1), 1) := by decide +kernel
theorem dX10_dual_8 : decode cX10_dual 8 = .ok (.if_icmp .eq 5, 3) := by decide +kernel
theorem dX10_dual_11 : decode cX10_dual 11 = .ok (.iconst 0, 1) := by decide +kernel
theorem dX10_dual_12 : decode cX10_dual 12 = .ok (.ireturn, 1) := by decide +kernel
theorem dX10_dual_13 : decode cX10_dual 13 = .ok (.aload_n 0, 1) := by decide +kernel
theorem dX10_dual_14 : decode cX10_dual 14 = .ok (.getfield 18, 3) := by decide +kernel
theorem dX10_dual_17 : decode cX10_dual 17 = .ok (.aload_n 0, 1) := by decide +kernel
theorem dX10_dual_18 : decode cX10_dual 18 = .ok (.getfield 14, 3) := by decide +kernel
theorem dX10_dual_21 : decode cX10_dual 21 = .ok (.invokevirtual 223, 3) := by decide +kernel
theorem dX10_dual_24 : decode cX10_dual 24 = .ok (.aload_n 0, 1) := by decide +kernel
theorem dX10_dual_25 : decode cX10_dual 25 = .ok (.invokevirtual 132, 3) := by decide +kernel
theorem dX10_dual_28 : decode cX10_dual 28 = .ok (.pop, 1) := by decide +kernel
theorem dX10_dual_29 : decode cX10_dual 29 = .ok (.iconst 1, 1) := by decide +kernel
theorem dX10_dual_30 : decode cX10_dual 30 = .ok (.ireturn, 1) := by decide +kernel
set_option maxRecDepth 20000 in
theorem ggX10_times_X10_isFilled : GoodIn wsX10_times wsX10_isFilled := goodIn_r _ [8, 2, 9, 10, 7, 11, 46, 47, 48, 49, 50, 51, 52, 53, 54, 55, 56, 57, 58, 59, 60, 61, 62] (by decide +kernel) (by decide +kernel)
set_option maxRecDepth 20000 in
theorem gX10_times_X10_isFilled : GoodIn wsX10_times (wsV RX10 168 RX10 yX10_isFilled wsX10_isFilled) := goodIn_app (goodIn_of _ (by decide +kernel)) ggX10_times_X10_isFilled
set_option maxRecDepth 20000 in
theorem ggX10_times_X7_turned : GoodIn wsX10_times wsX7_turned := goodIn_r _ [16, 17, 61, 62] (by decide +kernel) (by decide +kernel)
set_option maxRecDepth 20000 in
theorem gX10_times_X7_turned : GoodIn wsX10_times (wsV RX10 114 RX7 yX7_turned wsX7_turned) := goodIn_app (goodIn_of _ (by decide +kernel)) ggX10_times_X7_turned
set_option maxRecDepth 20000 in
theorem ggX10_times_X7_put : GoodIn wsX10_times wsX7_put := goodIn_r _ [21, 17, 61, 62] (by decide +kernel) (by decide +kernel)
set_option maxRecDepth 20000 in
theorem gX10_times_X7_put : GoodIn wsX10_times (wsV RX10 103 RX7 yX7_put wsX7_put) := goodIn_app (goodIn_of _ (by decide +kernel)) ggX10_times_X7_put
set_option maxRecDepth 20000 in
theorem ggX10_times_X10_adoptDraft : GoodIn wsX10_times wsX10_adoptDraft := goodIn_r _ [25, 1, 3, 26, 27, 28, 29, 15, 30, 31, 17, 32, 33, 34, 35, 36, 37, 38, 39, 40, 41, 42, 43, 44, 45, 46, 47, 48, 49, 50, 51, 52, 53, 54, 55, 56, 57, 58, 59, 60, 61, 62, 63, 64] (by decide +kernel) (by decide +kernel)
set_option maxRecDepth 20000 in
theorem gX10_times_X10_adoptDraft : GoodIn wsX10_times (wsV RX10 132 RX10 yX10_adoptDraft wsX10_adoptDraft) := goodIn_app (goodIn_of _ (by decide +kernel)) ggX10_times_X10_adoptDraft
theorem dX10_times_0 : decode cX10_times 0 = .ok (.aload_n 0, 1) := by decide +kernel
theorem dX10_times_1 : decode cX10_times 1 = .ok (.iload_n 1, 1) := by decide +kernel
theorem dX10_times_2 : decode cX10_times 2 = .ok (.invokevirtual 168, 3) := by decide +kernel
theorem dX10_times_5 : decode cX10_times 5 = .ok (.ifCond .eq 25, 3) := by decide +kernel
theorem dX10_times_8 : decode cX10_times 8 = .ok (.aload_n 0, 1) := by decide +kernel
theorem dX10_times_9 : decode cX10_times 9 = .ok (.getfield 14, 3) := by decide +kernel
theorem dX10_times_12 : decode cX10_times 12 = .ok (.getfield 124, 3) := by decide +kernel
theorem dX10_times_15 : decode cX10_times 15 = .ok (.aload_n 0, 1) := by decide +kernel
theorem dX10_times_16 : decode cX10_times 16 = .ok (.getfield 24, 3) := by decide +kernel
theorem dX10_times_19 : decode cX10_times 19 = .ok (.iload_n 1, 1) := by decide +kernel
theorem dX10_times_20 : decode cX10_times 20 = .ok (.aaload, 1) := by decide +kernel
theorem dX10_times_21 : decode cX10_times 21 = .ok (.getfield 124, 3) := by decide +kernel
theorem dX10_times_24 : decode cX10_times 24 = .ok (.imul, 1) := by decide +kernel
theorem dX10_times_25 : decode cX10_times 25 = .ok (.bipush 8, 2) := by decide +kernel
theorem dX10_times_27 : decode cX10_times 27 = .ok (.if_icmp .le 5, 3) := by decide +kernel
theorem dX10_times_30 : decode cX10_times 30 = .ok (.iconst (-1), 1) := by decide +kernel
theorem dX10_times_31 : decode cX10_times 31 = .ok (.ireturn, 1) := by decide +kernel
theorem dX10_times_32 : decode cX10_times 32 = .ok (.aload_n 0, 1) := by decide +kernel
theorem dX10_times_33 : decode cX10_times 33 = .ok (.getfield 24, 3) := by decide +kernel
theorem dX10_times_36 : decode cX10_times 36 = .ok (.iload_n 1, 1) := by decide +kernel
theorem dX10_times_37 : decode cX10_times 37 = .ok (.aaload, 1) := by decide +kernel
theorem dX10_times_38 : decode cX10_times 38 = .ok (.astore_n 2, 1) := by decide +kernel
theorem dX10_times_39 : decode cX10_times 39 = .ok (.aload_n 2, 1) := by decide +kernel
theorem dX10_times_40 : decode cX10_times 40 = .ok (.getfield 124, 3) := by decide +kernel
theorem dX10_times_43 : decode cX10_times 43 = .ok (.istore_n 3, 1) := by decide +kernel
theorem dX10_times_44 : decode cX10_times 44 = .ok (.aload_n 0, 1) := by decide +kernel
theorem dX10_times_45 : decode cX10_times 45 = .ok (.getfield 18, 3) := by decide +kernel
theorem dX10_times_48 : decode cX10_times 48 = .ok (.aload_n 0, 1) := by decide +kernel
theorem dX10_times_49 : decode cX10_times 49 = .ok (.getfield 14, 3) := by decide +kernel
theorem dX10_times_52 : decode cX10_times 52 = .ok (.getfield 124, 3) := by decide +kernel
theorem dX10_times_55 : decode cX10_times 55 = .ok (.iload_n 3, 1) := by decide +kernel
theorem dX10_times_56 : decode cX10_times 56 = .ok (.imul, 1) := by decide +kernel
theorem dX10_times_57 : decode cX10_times 57 = .ok (.putfield 124, 3) := by decide +kernel
theorem dX10_times_60 : decode cX10_times 60 = .ok (.iconst 0, 1) := by decide +kernel
theorem dX10_times_61 : decode cX10_times 61 = .ok (.istore 4, 2) := by decide +kernel
theorem dX10_times_63 : decode cX10_times 63 = .ok (.iload 4, 2) := by decide +kernel
theorem dX10_times_65 : decode cX10_times 65 = .ok (.aload_n 0, 1) := by decide +kernel
theorem dX10_times_66 : decode cX10_times 66 = .ok (.getfield 18, 3) := by decide +kernel
theorem dX10_times_69 : decode cX10_times 69 = .ok (.getfield 124, 3) := by decide +kernel
theorem dX10_times_72 : decode cX10_times 72 = .ok (.if_icmp .ge 71, 3) := by decide +kernel
theorem dX10_times_75 : decode cX10_times 75 = .ok (.iconst 0, 1) := by decide +kernel
theorem dX10_times_76 : decode cX10_times 76 = .ok (.istore 5, 2) := by decide +kernel
theorem dX10_times_78 : decode cX10_times 78 = .ok (.iload 5, 2) := by decide +kernel
theorem dX10_times_80 : decode cX10_times 80 = .ok (.aload_n 0, 1) := by decide +kernel
theorem dX10_times_81 : decode cX10_times 81 = .ok (.getfield 18, 3) := by decide +kernel
theorem dX10_times_84 : decode cX10_times 84 = .ok (.getfield 124, 3) := by decide +kernel
theorem dX10_times_87 : decode cX10_times 87 = .ok (.if_icmp .ge 50, 3) := by decide +kernel
theorem dX10_times_90 : decode cX10_times 90 = .ok (.aload_n 0, 1) := by decide +kernel
theorem dX10_times_91 : decode cX10_times 91 = .ok (.getfield 18, 3) := by decide +kernel
theorem dX10_times_94 : decode cX10_times 94 = .ok (.iload 4, 2) := by decide +kernel
theorem dX10_times_96 : decode cX10_times 96 = .ok (.iload 5, 2) := by decide +kernel
theorem dX10_times_98 : decode cX10_times 98 = .ok (.iload_n 3, 1) := by decide +kernel
theorem dX10_times_99 : decode cX10_times 99 = .ok (.aload_n 0, 1) := by decide +kernel
theorem dX10_times_100 : decode cX10_times 100 = .ok (.getfield 14, 3) := by decide +kernel
theorem dX10_times_103 : decode cX10_times 103 = .ok (.iload 4, 2) := by decide +kernel
theorem dX10_times_105 : decode cX10_times 105 = .ok (.iload_n 3, 1) := by decide +kernel
theorem dX10_times_106 : decode cX10_times 106 = .ok (.idiv, 1) := by decide +kernel
theorem dX10_times_107 : decode cX10_times 107 = .ok (.iload 5, 2) := by decide +kernel
theorem dX10_times_109 : decode cX10_times 109 = .ok (.iload_n 3, 1) := by decide +kernel
theorem dX10_times_110 : decode cX10_times 110 = .ok (.idiv, 1) := by decide +kernel
theorem dX10_times_111 : decode cX10_times 111 = .ok (.invokevirtual 114, 3) := by decide +kernel
theorem dX10_times_114 : decode cX10_times 114 = .ok (.imul, 1) := by decide +kernel
theorem dX10_times_115 : decode cX10_times 115 = .ok (.aload_n 2, 1) := by decide +kernel
theorem dX10_times_116 : decode cX10_times 116 = .ok (.iload 4, 2) := by decide +kernel
theorem dX10_times_118 : decode cX10_times 118 = .ok (.iload_n 3, 1) := by decide +kernel
theorem dX10_times_119 : decode cX10_times 119 = .ok (.irem, 1) := by decide +kernel
theorem dX10_times_120 : decode cX10_times 120 = .ok (.iload 5, 2) := by decide +kernel
theorem dX10_times_122 : decode cX10_times 122 = .ok (.iload_n 3, 1) := by decide +kernel
theorem dX10_times_123 : decode cX10_times 123 = .ok (.irem, 1) := by decide +kernel
theorem dX10_times_124 : decode cX10_times 124 = .ok (.invokevirtual 114, 3) := by decide +kernel
theorem dX10_times_127 : decode cX10_times 127 = .ok (.iadd, 1) := by decide +kernel
theorem dX10_times_128 : decode cX10_times 128 = .ok (.invokevirtual 103, 3) := by decide +kernel
theorem dX10_times_131 : decode cX10_times 131 = .ok (.iinc 5 1, 3) := by decide +kernel
theorem dX10_times_134 : decode cX10_times 134 = .ok (.goto (-56), 3) := by decide +kernel
theorem dX10_times_137 : decode cX10_times 137 = .ok (.iinc 4 1, 3) := by decide +kernel
theorem dX10_times_140 : decode cX10_times 140 = .ok (.goto (-77), 3) := by decide +kernel
theorem dX10_times_143 : decode cX10_times 143 = .ok (.aload_n 0, 1) := by decide +kernel
theorem dX10_times_144 : decode cX10_times 144 = .ok (.invokevirtual 132, 3) := by decide +kernel
theorem dX10_times_147 : decode cX10_times 147 = .ok (.ireturn, 1) := by decide +kernel
set_option maxRecDepth 20000 in
theorem ggX10_part_X7_has : GoodIn wsX10_part wsX7_has := goodIn_r _ [8, 9, 110, 111] (by decide +kernel) (by decide +kernel)
set_option maxRecDepth 20000 in
theorem gX10_part_X7_has : GoodIn wsX10_part (wsV RX10 99 RX7 yX7_has wsX7_has) := goodIn_app (goodIn_of _ (by decide +kernel)) ggX10_part_X7_has
set_option maxRecDepth 20000 in
theorem ggX10_part_X7_isRack : GoodIn wsX10_part wsX7_isRack := goodIn_r _ [13, 14, 15, 16, 7, 17, 9, 18, 19, 20, 21, 22, 23, 24, 25, 26, 110, 111] (by decide +kernel) (by decide +kernel)
set_option maxRecDepth 20000 in
theorem gX10_part_X7_isRack : GoodIn wsX10_part (wsV RX10 192 RX7 yX7_isRack wsX7_isRack) := goodIn_app (goodIn_of _ (by decide +kernel)) ggX10_part_X7_isRack
set_option maxRecDepth 20000 in
theorem ggX10_part_X1_split : GoodIn wsX10_part wsX1_split := goodIn_r _ [31, 32, 33, 112, 113, 114] (by decide +kernel) (by decide +kernel)
set_option maxRecDepth 20000 in
theorem gX10_part_X1_split : GoodIn wsX10_part (wsV RX10 226 RX1 yX1_split wsX1_split) := goodIn_app (goodIn_of _ (by decide +kernel)) ggX10_part_X1_split
set_option maxRecDepth 20000 in
theorem ggX10_part_X1_join : GoodIn wsX10_part wsX1_join := goodIn_r _ [37, 33, 38, 39, 40, 41, 42, 43, 44, 32, 112, 113, 114] (by decide +kernel) (by decide +kernel)
set_option maxRecDepth 20000 in
theorem gX10_part_X1_join : GoodIn wsX10_part (wsV RX10 229 RX1 yX1_join wsX1_join) := goodIn_app (goodIn_of _ (by decide +kernel)) ggX10_part_X1_join
set_option maxRecDepth 20000 in
theorem ggX10_part_X10_joinWhatMustBeOne : GoodIn wsX10_part wsX10_joinWhatMustBeOne := goodIn_r _ [49, 1, 2, 50, 51, 52, 30, 53, 33, 54, 55, 56, 48, 57, 58, 19, 20, 7, 21, 22, 34, 35, 36, 37, 38, 39, 40, 41, 42, 43, 44, 32, 95, 96, 97, 98, 99, 100, 101, 102, 103, 104, 105, 106, 107, 108, 109, 110, 111, 112, 113, 114] (by decide +kernel) (by decide +kernel)
set_option maxRecDepth 20000 in
theorem gX10_part_X10_joinWhatMustBeOne : GoodIn wsX10_part (wsV RX10 232 RX10 yX10_joinWhatMustBeOne wsX10_joinWhatMustBeOne) := goodIn_app (goodIn_of _ (by decide +kernel)) ggX10_part_X10_joinWhatMustBeOne
set_option maxRecDepth 20000 in
theorem ggX10_part_X1_number : GoodIn wsX10_part wsX1_number := goodIn_r _ [62, 32, 33, 63, 112, 113, 114] (by decide +kernel) (by decide +kernel)
set_option maxRecDepth 20000 in
theorem gX10_part_X1_number : GoodIn wsX10_part (wsV RX10 235 RX1 yX1_number wsX1_number) := goodIn_app (goodIn_of _ (by decide +kernel)) ggX10_part_X1_number
set_option maxRecDepth 20000 in
theorem ggX10_part_X1_numberOf : GoodIn wsX10_part wsX1_numberOf := goodIn_r _ [67, 63, 112, 113, 114] (by decide +kernel) (by decide +kernel)
set_option maxRecDepth 20000 in
theorem gX10_part_X1_numberOf : GoodIn wsX10_part (wsV RX10 202 RX1 yX1_numberOf wsX1_numberOf) := goodIn_app (goodIn_of _ (by decide +kernel)) ggX10_part_X1_numberOf
set_option maxRecDepth 20000 in
theorem ggX10_part_X7_turned : GoodIn wsX10_part wsX7_turned := goodIn_r _ [21, 22, 110, 111] (by decide +kernel) (by decide +kernel)
set_option maxRecDepth 20000 in
theorem gX10_part_X7_turned : GoodIn wsX10_part (wsV RX10 114 RX7 yX7_turned wsX7_turned) := goodIn_app (goodIn_of _ (by decide +kernel)) ggX10_part_X7_turned
set_option maxRecDepth 20000 in
theorem ggX10_part_X7_put : GoodIn wsX10_part wsX7_put := goodIn_r _ [71, 22, 110, 111] (by decide +kernel) (by decide +kernel)
set_option maxRecDepth 20000 in
theorem gX10_part_X7_put : GoodIn wsX10_part (wsV RX10 103 RX7 yX7_put wsX7_put) := goodIn_app (goodIn_of _ (by decide +kernel)) ggX10_part_X7_put
set_option maxRecDepth 20000 in
theorem ggX10_part_X10_adoptDraft : GoodIn wsX10_part wsX10_adoptDraft := goodIn_r _ [75, 1, 3, 76, 77, 78, 79, 7, 80, 9, 22, 81, 82, 83, 84, 85, 86, 87, 88, 89, 90, 91, 92, 93, 94, 95, 96, 97, 98, 99, 100, 101, 102, 103, 104, 105, 106, 107, 108, 109, 110, 111, 115, 116] (by decide +kernel) (by decide +kernel)
set_option maxRecDepth 20000 in
theorem gX10_part_X10_adoptDraft : GoodIn wsX10_part (wsV RX10 132 RX10 yX10_adoptDraft wsX10_adoptDraft) := goodIn_app (goodIn_of _ (by decide +kernel)) ggX10_part_X10_adoptDraft
theorem dX10_part_0 : decode cX10_part 0 = .ok (.aload_n 0, 1) := by decide +kernel
theorem dX10_part_1 : decode cX10_part 1 = .ok (.getfield 14, 3) := by decide +kernel
theorem dX10_part_4 : decode cX10_part 4 = .ok (.iload_n 1, 1) := by decide +kernel
theorem dX10_part_5 : decode cX10_part 5 = .ok (.invokevirtual 99, 3) := by decide +kernel
theorem dX10_part_8 : decode cX10_part 8 = .ok (.ifCond .eq 24, 3) := by decide +kernel
theorem dX10_part_11 : decode cX10_part 11 = .ok (.aload_n 0, 1) := by decide +kernel
theorem dX10_part_12 : decode cX10_part 12 = .ok (.getfield 14, 3) := by decide +kernel
theorem dX10_part_15 : decode cX10_part 15 = .ok (.iload_n 2, 1) := by decide +kernel
theorem dX10_part_16 : decode cX10_part 16 = .ok (.invokevirtual 99, 3) := by decide +kernel
theorem dX10_part_19 : decode cX10_part 19 = .ok (.ifCond .eq 13, 3) := by decide +kernel
theorem dX10_part_22 : decode cX10_part 22 = .ok (.aload_n 0, 1) := by decide +kernel
theorem dX10_part_23 : decode cX10_part 23 = .ok (.getfield 14, 3) := by decide +kernel
theorem dX10_part_26 : decode cX10_part 26 = .ok (.invokevirtual 192, 3) := by decide +kernel
theorem dX10_part_29 : decode cX10_part 29 = .ok (.ifCond .ne 5, 3) := by decide +kernel
theorem dX10_part_32 : decode cX10_part 32 = .ok (.iconst (-1), 1) := by decide +kernel
theorem dX10_part_33 : decode cX10_part 33 = .ok (.ireturn, 1) := by decide +kernel
theorem dX10_part_34 : decode cX10_part 34 = .ok (.aload_n 0, 1) := by decide +kernel
theorem dX10_part_35 : decode cX10_part 35 = .ok (.getfield 45, 3) := by decide +kernel
theorem dX10_part_38 : decode cX10_part 38 = .ok (.aload_n 0, 1) := by decide +kernel
theorem dX10_part_39 : decode cX10_part 39 = .ok (.getfield 14, 3) := by decide +kernel
theorem dX10_part_42 : decode cX10_part 42 = .ok (.getfield 124, 3) := by decide +kernel
theorem dX10_part_45 : decode cX10_part 45 = .ok (.invokevirtual 226, 3) := by decide +kernel
theorem dX10_part_48 : decode cX10_part 48 = .ok (.aload_n 0, 1) := by decide +kernel
theorem dX10_part_49 : decode cX10_part 49 = .ok (.getfield 45, 3) := by decide +kernel
theorem dX10_part_52 : decode cX10_part 52 = .ok (.iload_n 1, 1) := by decide +kernel
theorem dX10_part_53 : decode cX10_part 53 = .ok (.iload_n 2, 1) := by decide +kernel
theorem dX10_part_54 : decode cX10_part 54 = .ok (.invokevirtual 229, 3) := by decide +kernel
theorem dX10_part_57 : decode cX10_part 57 = .ok (.pop, 1) := by decide +kernel
theorem dX10_part_58 : decode cX10_part 58 = .ok (.aload_n 0, 1) := by decide +kernel
theorem dX10_part_59 : decode cX10_part 59 = .ok (.invokevirtual 232, 3) := by decide +kernel
theorem dX10_part_62 : decode cX10_part 62 = .ok (.aload_n 0, 1) := by decide +kernel
theorem dX10_part_63 : decode cX10_part 63 = .ok (.getfield 18, 3) := by decide +kernel
theorem dX10_part_66 : decode cX10_part 66 = .ok (.aload_n 0, 1) := by decide +kernel
theorem dX10_part_67 : decode cX10_part 67 = .ok (.getfield 45, 3) := by decide +kernel
theorem dX10_part_70 : decode cX10_part 70 = .ok (.invokevirtual 235, 3) := by decide +kernel
theorem dX10_part_73 : decode cX10_part 73 = .ok (.putfield 124, 3) := by decide +kernel
theorem dX10_part_76 : decode cX10_part 76 = .ok (.iconst 0, 1) := by decide +kernel
theorem dX10_part_77 : decode cX10_part 77 = .ok (.istore_n 3, 1) := by decide +kernel
theorem dX10_part_78 : decode cX10_part 78 = .ok (.iload_n 3, 1) := by decide +kernel
theorem dX10_part_79 : decode cX10_part 79 = .ok (.aload_n 0, 1) := by decide +kernel
theorem dX10_part_80 : decode cX10_part 80 = .ok (.getfield 14, 3) := by decide +kernel
theorem dX10_part_83 : decode cX10_part 83 = .ok (.getfield 124, 3) := by decide +kernel
theorem dX10_part_86 : decode cX10_part 86 = .ok (.if_icmp .ge 71, 3) := by decide +kernel
theorem dX10_part_89 : decode cX10_part 89 = .ok (.iconst 0, 1) := by decide +kernel
theorem dX10_part_90 : decode cX10_part 90 = .ok (.istore 4, 2) := by decide +kernel
theorem dX10_part_92 : decode cX10_part 92 = .ok (.iload 4, 2) := by decide +kernel
theorem dX10_part_94 : decode cX10_part 94 = .ok (.aload_n 0, 1) := by decide +kernel
theorem dX10_part_95 : decode cX10_part 95 = .ok (.getfield 14, 3) := by decide +kernel
theorem dX10_part_98 : decode cX10_part 98 = .ok (.getfield 124, 3) := by decide +kernel
theorem dX10_part_101 : decode cX10_part 101 = .ok (.if_icmp .ge 50, 3) := by decide +kernel
theorem dX10_part_104 : decode cX10_part 104 = .ok (.aload_n 0, 1) := by decide +kernel
theorem dX10_part_105 : decode cX10_part 105 = .ok (.getfield 18, 3) := by decide +kernel
theorem dX10_part_108 : decode cX10_part 108 = .ok (.aload_n 0, 1) := by decide +kernel
theorem dX10_part_109 : decode cX10_part 109 = .ok (.getfield 45, 3) := by decide +kernel
theorem dX10_part_112 : decode cX10_part 112 = .ok (.iload_n 3, 1) := by decide +kernel
theorem dX10_part_113 : decode cX10_part 113 = .ok (.invokevirtual 202, 3) := by decide +kernel
theorem dX10_part_116 : decode cX10_part 116 = .ok (.aload_n 0, 1) := by decide +kernel
theorem dX10_part_117 : decode cX10_part 117 = .ok (.getfield 45, 3) := by decide +kernel
theorem dX10_part_120 : decode cX10_part 120 = .ok (.iload 4, 2) := by decide +kernel
theorem dX10_part_122 : decode cX10_part 122 = .ok (.invokevirtual 202, 3) := by decide +kernel
theorem dX10_part_125 : decode cX10_part 125 = .ok (.aload_n 0, 1) := by decide +kernel
theorem dX10_part_126 : decode cX10_part 126 = .ok (.getfield 45, 3) := by decide +kernel
theorem dX10_part_129 : decode cX10_part 129 = .ok (.aload_n 0, 1) := by decide +kernel
theorem dX10_part_130 : decode cX10_part 130 = .ok (.getfield 14, 3) := by decide +kernel
theorem dX10_part_133 : decode cX10_part 133 = .ok (.iload_n 3, 1) := by decide +kernel
theorem dX10_part_134 : decode cX10_part 134 = .ok (.iload 4, 2) := by decide +kernel
theorem dX10_part_136 : decode cX10_part 136 = .ok (.invokevirtual 114, 3) := by decide +kernel
theorem dX10_part_139 : decode cX10_part 139 = .ok (.invokevirtual 202, 3) := by decide +kernel
theorem dX10_part_142 : decode cX10_part 142 = .ok (.invokevirtual 103, 3) := by decide +kernel
theorem dX10_part_145 : decode cX10_part 145 = .ok (.iinc 4 1, 3) := by decide +kernel
theorem dX10_part_148 : decode cX10_part 148 = .ok (.goto (-56), 3) := by decide +kernel
theorem dX10_part_151 : decode cX10_part 151 = .ok (.iinc 3 1, 3) := by decide +kernel
theorem dX10_part_154 : decode cX10_part 154 = .ok (.goto (-76), 3) := by decide +kernel
theorem dX10_part_157 : decode cX10_part 157 = .ok (.aload_n 0, 1) := by decide +kernel
theorem dX10_part_158 : decode cX10_part 158 = .ok (.invokevirtual 132, 3) := by decide +kernel
theorem dX10_part_161 : decode cX10_part 161 = .ok (.ireturn, 1) := by decide +kernel
set_option maxRecDepth 20000 in
theorem ggX10_within_X10_closedSet : GoodIn wsX10_within wsX10_closedSet := goodIn_r _ [7, 1, 8, 9, 10, 11, 12, 13, 19, 20, 21, 22, 23, 24, 25, 26, 27, 28, 29, 30, 31, 32, 33, 34, 35] (by decide +kernel) (by decide +kernel)
set_option maxRecDepth 20000 in
theorem gX10_within_X10_closedSet : GoodIn wsX10_within (wsV RX10 238 RX10 yX10_closedSet wsX10_closedSet) := goodIn_app (goodIn_of _ (by decide +kernel)) ggX10_within_X10_closedSet
set_option maxRecDepth 20000 in
theorem ggX10_within_X10_tell : GoodIn wsX10_within wsX10_tell := goodIn_r _ [17, 2, 18, 19, 20, 21, 22, 23, 24, 25, 26, 27, 28, 29, 30, 31, 32, 33] (by decide +kernel) (by decide +kernel)
set_option maxRecDepth 20000 in
theorem gX10_within_X10_tell : GoodIn wsX10_within (wsV RX10 183 RX10 yX10_tell wsX10_tell) := goodIn_app (goodIn_of _ (by decide +kernel)) ggX10_within_X10_tell
theorem dX10_within_0 : decode cX10_within 0 = .ok (.iload_n 1, 1) := by decide +kernel
theorem dX10_within_1 : decode cX10_within 1 = .ok (.ifCond .le 16, 3) := by decide +kernel
theorem dX10_within_4 : decode cX10_within 4 = .ok (.iload_n 1, 1) := by decide +kernel
theorem dX10_within_5 : decode cX10_within 5 = .ok (.iconst 1, 1) := by decide +kernel
theorem dX10_within_6 : decode cX10_within 6 = .ok (.aload_n 0, 1) := by decide +kernel
theorem dX10_within_7 : decode cX10_within 7 = .ok (.getfield 14, 3) := by decide +kernel
theorem dX10_within_10 : decode cX10_within 10 = .ok (.getfield 124, 3) := by decide +kernel
theorem dX10_within_13 : decode cX10_within 13 = .ok (.ishl, 1) := by decide +kernel
theorem dX10_within_14 : decode cX10_within 14 = .ok (.if_icmp .lt 5, 3) := by decide +kernel
theorem dX10_within_17 : decode cX10_within 17 = .ok (.iconst (-1), 1) := by decide +kernel
theorem dX10_within_18 : decode cX10_within 18 = .ok (.ireturn, 1) := by decide +kernel
theorem dX10_within_19 : decode cX10_within 19 = .ok (.aload_n 0, 1) := by decide +kernel
theorem dX10_within_20 : decode cX10_within 20 = .ok (.iload_n 1, 1) := by decide +kernel
theorem dX10_within_21 : decode cX10_within 21 = .ok (.invokevirtual 238, 3) := by decide +kernel
theorem dX10_within_24 : decode cX10_within 24 = .ok (.istore_n 2, 1) := by decide +kernel
theorem dX10_within_25 : decode cX10_within 25 = .ok (.aload_n 0, 1) := by decide +kernel
theorem dX10_within_26 : decode cX10_within 26 = .ok (.iconst 0, 1) := by decide +kernel
theorem dX10_within_27 : decode cX10_within 27 = .ok (.putfield 91, 3) := by decide +kernel
theorem dX10_within_30 : decode cX10_within 30 = .ok (.iconst 0, 1) := by decide +kernel
theorem dX10_within_31 : decode cX10_within 31 = .ok (.istore_n 3, 1) := by decide +kernel
theorem dX10_within_32 : decode cX10_within 32 = .ok (.iload_n 3, 1) := by decide +kernel
theorem dX10_within_33 : decode cX10_within 33 = .ok (.aload_n 0, 1) := by decide +kernel
theorem dX10_within_34 : decode cX10_within 34 = .ok (.getfield 14, 3) := by decide +kernel
theorem dX10_within_37 : decode cX10_within 37 = .ok (.getfield 124, 3) := by decide +kernel
theorem dX10_within_40 : decode cX10_within 40 = .ok (.if_icmp .ge 23, 3) := by decide +kernel
theorem dX10_within_43 : decode cX10_within 43 = .ok (.iload_n 2, 1) := by decide +kernel
theorem dX10_within_44 : decode cX10_within 44 = .ok (.iload_n 3, 1) := by decide +kernel
theorem dX10_within_45 : decode cX10_within 45 = .ok (.ishr, 1) := by decide +kernel
theorem dX10_within_46 : decode cX10_within 46 = .ok (.iconst 1, 1) := by decide +kernel
theorem dX10_within_47 : decode cX10_within 47 = .ok (.iand, 1) := by decide +kernel
theorem dX10_within_48 : decode cX10_within 48 = .ok (.iconst 1, 1) := by decide +kernel
theorem dX10_within_49 : decode cX10_within 49 = .ok (.if_icmp .ne 8, 3) := by decide +kernel
theorem dX10_within_52 : decode cX10_within 52 = .ok (.aload_n 0, 1) := by decide +kernel
theorem dX10_within_53 : decode cX10_within 53 = .ok (.iload_n 3, 1) := by decide +kernel
theorem dX10_within_54 : decode cX10_within 54 = .ok (.invokevirtual 183, 3) := by decide +kernel
theorem dX10_within_57 : decode cX10_within 57 = .ok (.iinc 3 1, 3) := by decide +kernel
theorem dX10_within_60 : decode cX10_within 60 = .ok (.goto (-28), 3) := by decide +kernel
theorem dX10_within_63 : decode cX10_within 63 = .ok (.aload_n 0, 1) := by decide +kernel
theorem dX10_within_64 : decode cX10_within 64 = .ok (.getfield 91, 3) := by decide +kernel
theorem dX10_within_67 : decode cX10_within 67 = .ok (.ireturn, 1) := by decide +kernel
set_option maxRecDepth 20000 in
theorem ggX10_modulus_X9_flatten : GoodIn wsX10_modulus wsX9_flatten := goodIn_r _ [6, 7, 8, 9, 10, 11, 27, 28] (by decide +kernel) (by decide +kernel)
set_option maxRecDepth 20000 in
theorem gX10_modulus_X9_flatten : GoodIn wsX10_modulus (wsV RX10 241 RX9 yX9_flatten wsX9_flatten) := goodIn_app (goodIn_of _ (by decide +kernel)) ggX10_modulus_X9_flatten
theorem dX10_modulus_0 : decode cX10_modulus 0 = .ok (.iload_n 1, 1) := by decide +kernel
theorem dX10_modulus_1 : decode cX10_modulus 1 = .ok (.iconst 2, 1) := by decide +kernel
theorem dX10_modulus_2 : decode cX10_modulus 2 = .ok (.if_icmp .lt 9, 3) := by decide +kernel
theorem dX10_modulus_5 : decode cX10_modulus 5 = .ok (.iload_n 1, 1) := by decide +kernel
theorem dX10_modulus_6 : decode cX10_modulus 6 = .ok (.bipush 7, 2) := by decide +kernel
theorem dX10_modulus_8 : decode cX10_modulus 8 = .ok (.if_icmp .le 5, 3) := by decide +kernel
theorem dX10_modulus_11 : decode cX10_modulus 11 = .ok (.iconst 0, 1) := by decide +kernel
theorem dX10_modulus_12 : decode cX10_modulus 12 = .ok (.ireturn, 1) := by decide +kernel
theorem dX10_modulus_13 : decode cX10_modulus 13 = .ok (.aload_n 0, 1) := by decide +kernel
theorem dX10_modulus_14 : decode cX10_modulus 14 = .ok (.getfield 31, 3) := by decide +kernel
theorem dX10_modulus_17 : decode cX10_modulus 17 = .ok (.iload_n 1, 1) := by decide +kernel
theorem dX10_modulus_18 : decode cX10_modulus 18 = .ok (.putfield 171, 3) := by decide +kernel
theorem dX10_modulus_21 : decode cX10_modulus 21 = .ok (.aload_n 0, 1) := by decide +kernel
theorem dX10_modulus_22 : decode cX10_modulus 22 = .ok (.getfield 31, 3) := by decide +kernel
theorem dX10_modulus_25 : decode cX10_modulus 25 = .ok (.invokevirtual 241, 3) := by decide +kernel
theorem dX10_modulus_28 : decode cX10_modulus 28 = .ok (.iconst 1, 1) := by decide +kernel
theorem dX10_modulus_29 : decode cX10_modulus 29 = .ok (.ireturn, 1) := by decide +kernel
set_option maxRecDepth 20000 in
theorem ggX10_twist_X7_has : GoodIn wsX10_twist wsX7_has := goodIn_r _ [7, 8, 32, 33] (by decide +kernel) (by decide +kernel)
set_option maxRecDepth 20000 in
theorem gX10_twist_X7_has : GoodIn wsX10_twist (wsV RX10 99 RX7 yX7_has wsX7_has) := goodIn_app (goodIn_of _ (by decide +kernel)) ggX10_twist_X7_has
set_option maxRecDepth 20000 in
theorem ggX10_twist_X9_put : GoodIn wsX10_twist wsX9_put := goodIn_r _ [13, 14, 30, 31] (by decide +kernel) (by decide +kernel)
set_option maxRecDepth 20000 in
theorem gX10_twist_X9_put : GoodIn wsX10_twist (wsV RX10 244 RX9 yX9_put wsX9_put) := goodIn_app (goodIn_of _ (by decide +kernel)) ggX10_twist_X9_put
theorem dX10_twist_0 : decode cX10_twist 0 = .ok (.aload_n 0, 1) := by decide +kernel
theorem dX10_twist_1 : decode cX10_twist 1 = .ok (.getfield 14, 3) := by decide +kernel
theorem dX10_twist_4 : decode cX10_twist 4 = .ok (.iload_n 1, 1) := by decide +kernel
theorem dX10_twist_5 : decode cX10_twist 5 = .ok (.invokevirtual 99, 3) := by decide +kernel
theorem dX10_twist_8 : decode cX10_twist 8 = .ok (.ifCond .eq 29, 3) := by decide +kernel
theorem dX10_twist_11 : decode cX10_twist 11 = .ok (.aload_n 0, 1) := by decide +kernel
theorem dX10_twist_12 : decode cX10_twist 12 = .ok (.getfield 14, 3) := by decide +kernel
theorem dX10_twist_15 : decode cX10_twist 15 = .ok (.iload_n 2, 1) := by decide +kernel
theorem dX10_twist_16 : decode cX10_twist 16 = .ok (.invokevirtual 99, 3) := by decide +kernel
theorem dX10_twist_19 : decode cX10_twist 19 = .ok (.ifCond .eq 18, 3) := by decide +kernel
theorem dX10_twist_22 : decode cX10_twist 22 = .ok (.iload_n 3, 1) := by decide +kernel
theorem dX10_twist_23 : decode cX10_twist 23 = .ok (.ifCond .lt 14, 3) := by decide +kernel
theorem dX10_twist_26 : decode cX10_twist 26 = .ok (.iload_n 3, 1) := by decide +kernel
theorem dX10_twist_27 : decode cX10_twist 27 = .ok (.aload_n 0, 1) := by decide +kernel
theorem dX10_twist_28 : decode cX10_twist 28 = .ok (.getfield 31, 3) := by decide +kernel
theorem dX10_twist_31 : decode cX10_twist 31 = .ok (.getfield 171, 3) := by decide +kernel
theorem dX10_twist_34 : decode cX10_twist 34 = .ok (.if_icmp .lt 5, 3) := by decide +kernel
theorem dX10_twist_37 : decode cX10_twist 37 = .ok (.iconst 0, 1) := by decide +kernel
theorem dX10_twist_38 : decode cX10_twist 38 = .ok (.ireturn, 1) := by decide +kernel
theorem dX10_twist_39 : decode cX10_twist 39 = .ok (.aload_n 0, 1) := by decide +kernel
theorem dX10_twist_40 : decode cX10_twist 40 = .ok (.getfield 31, 3) := by decide +kernel
theorem dX10_twist_43 : decode cX10_twist 43 = .ok (.iload_n 1, 1) := by decide +kernel
theorem dX10_twist_44 : decode cX10_twist 44 = .ok (.iload_n 2, 1) := by decide +kernel
theorem dX10_twist_45 : decode cX10_twist 45 = .ok (.iload_n 3, 1) := by decide +kernel
theorem dX10_twist_46 : decode cX10_twist 46 = .ok (.invokevirtual 244, 3) := by decide +kernel
theorem dX10_twist_49 : decode cX10_twist 49 = .ok (.iconst 1, 1) := by decide +kernel
theorem dX10_twist_50 : decode cX10_twist 50 = .ok (.ireturn, 1) := by decide +kernel
set_option maxRecDepth 20000 in
theorem ggX10_twisted_X7_has : GoodIn wsX10_twisted wsX7_has := goodIn_r _ [7, 8, 30, 31] (by decide +kernel) (by decide +kernel)
set_option maxRecDepth 20000 in
theorem gX10_twisted_X7_has : GoodIn wsX10_twisted (wsV RX10 99 RX7 yX7_has wsX7_has) := goodIn_app (goodIn_of _ (by decide +kernel)) ggX10_twisted_X7_has
set_option maxRecDepth 20000 in
theorem ggX10_twisted_X9_value : GoodIn wsX10_twisted wsX9_value := goodIn_r _ [13, 14, 32, 33] (by decide +kernel) (by decide +kernel)
set_option maxRecDepth 20000 in
theorem gX10_twisted_X9_value : GoodIn wsX10_twisted (wsV RX10 245 RX9 yX9_value wsX9_value) := goodIn_app (goodIn_of _ (by decide +kernel)) ggX10_twisted_X9_value
theorem dX10_twisted_0 : decode cX10_twisted 0 = .ok (.aload_n 0, 1) := by decide +kernel
theorem dX10_twisted_1 : decode cX10_twisted 1 = .ok (.getfield 14, 3) := by decide +kernel
theorem dX10_twisted_4 : decode cX10_twisted 4 = .ok (.iload_n 1, 1) := by decide +kernel
theorem dX10_twisted_5 : decode cX10_twisted 5 = .ok (.invokevirtual 99, 3) := by decide +kernel
theorem dX10_twisted_8 : decode cX10_twisted 8 = .ok (.ifCond .eq 26, 3) := by decide +kernel
theorem dX10_twisted_11 : decode cX10_twisted 11 = .ok (.aload_n 0, 1) := by decide +kernel
theorem dX10_twisted_12 : decode cX10_twisted 12 = .ok (.getfield 14, 3) := by decide +kernel
theorem dX10_twisted_15 : decode cX10_twisted 15 = .ok (.iload_n 2, 1) := by decide +kernel
theorem dX10_twisted_16 : decode cX10_twisted 16 = .ok (.invokevirtual 99, 3) := by decide +kernel
theorem dX10_twisted_19 : decode cX10_twisted 19 = .ok (.ifCond .eq 15, 3) := by decide +kernel
theorem dX10_twisted_22 : decode cX10_twisted 22 = .ok (.aload_n 0, 1) := by decide +kernel
theorem dX10_twisted_23 : decode cX10_twisted 23 = .ok (.getfield 31, 3) := by decide +kernel
theorem dX10_twisted_26 : decode cX10_twisted 26 = .ok (.iload_n 1, 1) := by decide +kernel
theorem dX10_twisted_27 : decode cX10_twisted 27 = .ok (.iload_n 2, 1) := by decide +kernel
theorem dX10_twisted_28 : decode cX10_twisted 28 = .ok (.invokevirtual 245, 3) := by decide +kernel
theorem dX10_twisted_31 : decode cX10_twisted 31 = .ok (.goto 4, 3) := by decide +kernel
theorem dX10_twisted_34 : decode cX10_twisted 34 = .ok (.iconst (-1), 1) := by decide +kernel
theorem dX10_twisted_35 : decode cX10_twisted 35 = .ok (.ireturn, 1) := by decide +kernel
set_option maxRecDepth 20000 in
theorem ggX10_closed_X7_isRack : GoodIn wsX10_closed wsX7_isRack := goodIn_r _ [7, 8, 9, 10, 6, 11, 12, 13, 14, 15, 16, 17, 18, 19, 20, 21, 60, 61] (by decide +kernel) (by decide +kernel)
set_option maxRecDepth 20000 in
theorem gX10_closed_X7_isRack : GoodIn wsX10_closed (wsV RX10 192 RX7 yX7_isRack wsX7_isRack) := goodIn_app (goodIn_of _ (by decide +kernel)) ggX10_closed_X7_isRack
set_option maxRecDepth 20000 in
theorem ggX10_closed_X9_firstOpenTriple : GoodIn wsX10_closed wsX9_firstOpenTriple := goodIn_r _ [26, 27, 28, 29, 30, 25, 31, 32, 33, 14, 15, 6, 16, 17, 60, 61, 62, 63] (by decide +kernel) (by decide +kernel)
set_option maxRecDepth 20000 in
theorem gX10_closed_X9_firstOpenTriple : GoodIn wsX10_closed (wsV RX10 248 RX9 yX9_firstOpenTriple wsX9_firstOpenTriple) := goodIn_app (goodIn_of _ (by decide +kernel)) ggX10_closed_X9_firstOpenTriple
set_option maxRecDepth 20000 in
theorem ggX10_closed_X10_tellTriple : GoodIn wsX10_closed wsX10_tellTriple := goodIn_r _ [38, 39, 40, 41, 42, 37, 43, 44, 45, 46, 47, 48, 49, 50, 51, 52, 53, 54, 55, 56, 57, 58, 59] (by decide +kernel) (by decide +kernel)
set_option maxRecDepth 20000 in
theorem gX10_closed_X10_tellTriple : GoodIn wsX10_closed (wsV RX10 189 RX10 yX10_tellTriple wsX10_tellTriple) := goodIn_app (goodIn_of _ (by decide +kernel)) ggX10_closed_X10_tellTriple
theorem dX10_closed_0 : decode cX10_closed 0 = .ok (.aload_n 0, 1) := by decide +kernel
theorem dX10_closed_1 : decode cX10_closed 1 = .ok (.getfield 14, 3) := by decide +kernel
theorem dX10_closed_4 : decode cX10_closed 4 = .ok (.invokevirtual 192, 3) := by decide +kernel
theorem dX10_closed_7 : decode cX10_closed 7 = .ok (.ifCond .ne 5, 3) := by decide +kernel
theorem dX10_closed_10 : decode cX10_closed 10 = .ok (.iconst (-1), 1) := by decide +kernel
theorem dX10_closed_11 : decode cX10_closed 11 = .ok (.ireturn, 1) := by decide +kernel
theorem dX10_closed_12 : decode cX10_closed 12 = .ok (.aload_n 0, 1) := by decide +kernel
theorem dX10_closed_13 : decode cX10_closed 13 = .ok (.getfield 31, 3) := by decide +kernel
theorem dX10_closed_16 : decode cX10_closed 16 = .ok (.aload_n 0, 1) := by decide +kernel
theorem dX10_closed_17 : decode cX10_closed 17 = .ok (.getfield 14, 3) := by decide +kernel
theorem dX10_closed_20 : decode cX10_closed 20 = .ok (.invokevirtual 248, 3) := by decide +kernel
theorem dX10_closed_23 : decode cX10_closed 23 = .ok (.istore_n 1, 1) := by decide +kernel
theorem dX10_closed_24 : decode cX10_closed 24 = .ok (.iload_n 1, 1) := by decide +kernel
theorem dX10_closed_25 : decode cX10_closed 25 = .ok (.iconst (-1), 1) := by decide +kernel
theorem dX10_closed_26 : decode cX10_closed 26 = .ok (.if_icmp .ne 5, 3) := by decide +kernel
theorem dX10_closed_29 : decode cX10_closed 29 = .ok (.iconst 0, 1) := by decide +kernel
theorem dX10_closed_30 : decode cX10_closed 30 = .ok (.ireturn, 1) := by decide +kernel
theorem dX10_closed_31 : decode cX10_closed 31 = .ok (.aload_n 0, 1) := by decide +kernel
theorem dX10_closed_32 : decode cX10_closed 32 = .ok (.iload_n 1, 1) := by decide +kernel
theorem dX10_closed_33 : decode cX10_closed 33 = .ok (.invokevirtual 189, 3) := by decide +kernel
theorem dX10_closed_36 : decode cX10_closed 36 = .ok (.iconst 1, 1) := by decide +kernel
theorem dX10_closed_37 : decode cX10_closed 37 = .ok (.ireturn, 1) := by decide +kernel
set_option maxRecDepth 20000 in
theorem ggX10_cover_X7_isRack : GoodIn wsX10_cover wsX7_isRack := goodIn_r _ [8, 9, 10, 11, 7, 12, 13, 14, 15, 16, 17, 18, 19, 20, 21, 22, 79, 80] (by decide +kernel) (by decide +kernel)
set_option maxRecDepth 20000 in
theorem gX10_cover_X7_isRack : GoodIn wsX10_cover (wsV RX10 192 RX7 yX7_isRack wsX7_isRack) := goodIn_app (goodIn_of _ (by decide +kernel)) ggX10_cover_X7_isRack
set_option maxRecDepth 20000 in
theorem ggX10_cover_X9_firstOpenTriple : GoodIn wsX10_cover wsX9_firstOpenTriple := goodIn_r _ [27, 28, 29, 30, 31, 26, 32, 33, 34, 15, 16, 7, 17, 18, 79, 80, 77, 78] (by decide +kernel) (by decide +kernel)
set_option maxRecDepth 20000 in
theorem gX10_cover_X9_firstOpenTriple : GoodIn wsX10_cover (wsV RX10 248 RX9 yX9_firstOpenTriple wsX9_firstOpenTriple) := goodIn_app (goodIn_of _ (by decide +kernel)) ggX10_cover_X9_firstOpenTriple
set_option maxRecDepth 20000 in
theorem ggX10_cover_X7_turned : GoodIn wsX10_cover wsX7_turned := goodIn_r _ [17, 18, 79, 80] (by decide +kernel) (by decide +kernel)
set_option maxRecDepth 20000 in
theorem gX10_cover_X7_turned : GoodIn wsX10_cover (wsV RX10 114 RX7 yX7_turned wsX7_turned) := goodIn_app (goodIn_of _ (by decide +kernel)) ggX10_cover_X7_turned
set_option maxRecDepth 20000 in
theorem ggX10_cover_X9_value : GoodIn wsX10_cover wsX9_value := goodIn_r _ [32, 33, 77, 78] (by decide +kernel) (by decide +kernel)
set_option maxRecDepth 20000 in
theorem gX10_cover_X9_value : GoodIn wsX10_cover (wsV RX10 245 RX9 yX9_value wsX9_value) := goodIn_app (goodIn_of _ (by decide +kernel)) ggX10_cover_X9_value
set_option maxRecDepth 20000 in
theorem ggX10_cover_X7_put : GoodIn wsX10_cover wsX7_put := goodIn_r _ [40, 18, 79, 80] (by decide +kernel) (by decide +kernel)
set_option maxRecDepth 20000 in
theorem gX10_cover_X7_put : GoodIn wsX10_cover (wsV RX10 103 RX7 yX7_put wsX7_put) := goodIn_app (goodIn_of _ (by decide +kernel)) ggX10_cover_X7_put
set_option maxRecDepth 20000 in
theorem ggX10_cover_X10_adoptDraft : GoodIn wsX10_cover wsX10_adoptDraft := goodIn_r _ [45, 2, 3, 1, 46, 47, 48, 7, 49, 13, 18, 50, 51, 52, 53, 54, 55, 56, 26, 57, 33, 58, 59, 60, 61, 62, 63, 64, 65, 66, 67, 68, 69, 70, 71, 72, 73, 74, 75, 76, 79, 80, 77, 78] (by decide +kernel) (by decide +kernel)
set_option maxRecDepth 20000 in
theorem gX10_cover_X10_adoptDraft : GoodIn wsX10_cover (wsV RX10 132 RX10 yX10_adoptDraft wsX10_adoptDraft) := goodIn_app (goodIn_of _ (by decide +kernel)) ggX10_cover_X10_adoptDraft
theorem dX10_cover_0 : decode cX10_cover 0 = .ok (.aload_n 0, 1) := by decide +kernel
theorem dX10_cover_1 : decode cX10_cover 1 = .ok (.getfield 31, 3) := by decide +kernel
theorem dX10_cover_4 : decode cX10_cover 4 = .ok (.getfield 171, 3) := by decide +kernel
theorem dX10_cover_7 : decode cX10_cover 7 = .ok (.istore_n 1, 1) := by decide +kernel
theorem dX10_cover_8 : decode cX10_cover 8 = .ok (.aload_n 0, 1) := by decide +kernel
theorem dX10_cover_9 : decode cX10_cover 9 = .ok (.getfield 14, 3) := by decide +kernel
theorem dX10_cover_12 : decode cX10_cover 12 = .ok (.getfield 124, 3) := by decide +kernel
theorem dX10_cover_15 : decode cX10_cover 15 = .ok (.iload_n 1, 1) := by decide +kernel
theorem dX10_cover_16 : decode cX10_cover 16 = .ok (.imul, 1) := by decide +kernel
theorem dX10_cover_17 : decode cX10_cover 17 = .ok (.bipush 8, 2) := by decide +kernel
theorem dX10_cover_19 : decode cX10_cover 19 = .ok (.if_icmp .gt 28, 3) := by decide +kernel
theorem dX10_cover_22 : decode cX10_cover 22 = .ok (.aload_n 0, 1) := by decide +kernel
theorem dX10_cover_23 : decode cX10_cover 23 = .ok (.getfield 14, 3) := by decide +kernel
theorem dX10_cover_26 : decode cX10_cover 26 = .ok (.invokevirtual 192, 3) := by decide +kernel
theorem dX10_cover_29 : decode cX10_cover 29 = .ok (.ifCond .eq 18, 3) := by decide +kernel
theorem dX10_cover_32 : decode cX10_cover 32 = .ok (.aload_n 0, 1) := by decide +kernel
theorem dX10_cover_33 : decode cX10_cover 33 = .ok (.getfield 31, 3) := by decide +kernel
theorem dX10_cover_36 : decode cX10_cover 36 = .ok (.aload_n 0, 1) := by decide +kernel
theorem dX10_cover_37 : decode cX10_cover 37 = .ok (.getfield 14, 3) := by decide +kernel
theorem dX10_cover_40 : decode cX10_cover 40 = .ok (.invokevirtual 248, 3) := by decide +kernel
theorem dX10_cover_43 : decode cX10_cover 43 = .ok (.iconst (-1), 1) := by decide +kernel
theorem dX10_cover_44 : decode cX10_cover 44 = .ok (.if_icmp .eq 5, 3) := by decide +kernel
theorem dX10_cover_47 : decode cX10_cover 47 = .ok (.iconst (-1), 1) := by decide +kernel
theorem dX10_cover_48 : decode cX10_cover 48 = .ok (.ireturn, 1) := by decide +kernel
theorem dX10_cover_49 : decode cX10_cover 49 = .ok (.aload_n 0, 1) := by decide +kernel
theorem dX10_cover_50 : decode cX10_cover 50 = .ok (.getfield 18, 3) := by decide +kernel
theorem dX10_cover_53 : decode cX10_cover 53 = .ok (.aload_n 0, 1) := by decide +kernel
theorem dX10_cover_54 : decode cX10_cover 54 = .ok (.getfield 14, 3) := by decide +kernel
theorem dX10_cover_57 : decode cX10_cover 57 = .ok (.getfield 124, 3) := by decide +kernel
theorem dX10_cover_60 : decode cX10_cover 60 = .ok (.iload_n 1, 1) := by decide +kernel
theorem dX10_cover_61 : decode cX10_cover 61 = .ok (.imul, 1) := by decide +kernel
theorem dX10_cover_62 : decode cX10_cover 62 = .ok (.putfield 124, 3) := by decide +kernel
theorem dX10_cover_65 : decode cX10_cover 65 = .ok (.iconst 0, 1) := by decide +kernel
theorem dX10_cover_66 : decode cX10_cover 66 = .ok (.istore_n 2, 1) := by decide +kernel
theorem dX10_cover_67 : decode cX10_cover 67 = .ok (.iload_n 2, 1) := by decide +kernel
theorem dX10_cover_68 : decode cX10_cover 68 = .ok (.aload_n 0, 1) := by decide +kernel
theorem dX10_cover_69 : decode cX10_cover 69 = .ok (.getfield 18, 3) := by decide +kernel
theorem dX10_cover_72 : decode cX10_cover 72 = .ok (.getfield 124, 3) := by decide +kernel
theorem dX10_cover_75 : decode cX10_cover 75 = .ok (.if_icmp .ge 80, 3) := by decide +kernel
theorem dX10_cover_78 : decode cX10_cover 78 = .ok (.iload_n 2, 1) := by decide +kernel
theorem dX10_cover_79 : decode cX10_cover 79 = .ok (.iload_n 1, 1) := by decide +kernel
theorem dX10_cover_80 : decode cX10_cover 80 = .ok (.idiv, 1) := by decide +kernel
theorem dX10_cover_81 : decode cX10_cover 81 = .ok (.istore_n 3, 1) := by decide +kernel
theorem dX10_cover_82 : decode cX10_cover 82 = .ok (.iconst 0, 1) := by decide +kernel
theorem dX10_cover_83 : decode cX10_cover 83 = .ok (.istore 4, 2) := by decide +kernel
theorem dX10_cover_85 : decode cX10_cover 85 = .ok (.iload 4, 2) := by decide +kernel
theorem dX10_cover_87 : decode cX10_cover 87 = .ok (.aload_n 0, 1) := by decide +kernel
theorem dX10_cover_88 : decode cX10_cover 88 = .ok (.getfield 18, 3) := by decide +kernel
theorem dX10_cover_91 : decode cX10_cover 91 = .ok (.getfield 124, 3) := by decide +kernel
theorem dX10_cover_94 : decode cX10_cover 94 = .ok (.if_icmp .ge 55, 3) := by decide +kernel
theorem dX10_cover_97 : decode cX10_cover 97 = .ok (.iload 4, 2) := by decide +kernel
theorem dX10_cover_99 : decode cX10_cover 99 = .ok (.iload_n 1, 1) := by decide +kernel
theorem dX10_cover_100 : decode cX10_cover 100 = .ok (.idiv, 1) := by decide +kernel
theorem dX10_cover_101 : decode cX10_cover 101 = .ok (.istore 5, 2) := by decide +kernel
theorem dX10_cover_103 : decode cX10_cover 103 = .ok (.aload_n 0, 1) := by decide +kernel
theorem dX10_cover_104 : decode cX10_cover 104 = .ok (.getfield 18, 3) := by decide +kernel
theorem dX10_cover_107 : decode cX10_cover 107 = .ok (.iload_n 2, 1) := by decide +kernel
theorem dX10_cover_108 : decode cX10_cover 108 = .ok (.iload 4, 2) := by decide +kernel
theorem dX10_cover_110 : decode cX10_cover 110 = .ok (.iload_n 1, 1) := by decide +kernel
theorem dX10_cover_111 : decode cX10_cover 111 = .ok (.aload_n 0, 1) := by decide +kernel
theorem dX10_cover_112 : decode cX10_cover 112 = .ok (.getfield 14, 3) := by decide +kernel
theorem dX10_cover_115 : decode cX10_cover 115 = .ok (.iload_n 3, 1) := by decide +kernel
theorem dX10_cover_116 : decode cX10_cover 116 = .ok (.iload 5, 2) := by decide +kernel
theorem dX10_cover_118 : decode cX10_cover 118 = .ok (.invokevirtual 114, 3) := by decide +kernel
theorem dX10_cover_121 : decode cX10_cover 121 = .ok (.imul, 1) := by decide +kernel
theorem dX10_cover_122 : decode cX10_cover 122 = .ok (.iload 4, 2) := by decide +kernel
theorem dX10_cover_124 : decode cX10_cover 124 = .ok (.iload_n 1, 1) := by decide +kernel
theorem dX10_cover_125 : decode cX10_cover 125 = .ok (.irem, 1) := by decide +kernel
theorem dX10_cover_126 : decode cX10_cover 126 = .ok (.aload_n 0, 1) := by decide +kernel
theorem dX10_cover_127 : decode cX10_cover 127 = .ok (.getfield 31, 3) := by decide +kernel
theorem dX10_cover_130 : decode cX10_cover 130 = .ok (.iload_n 3, 1) := by decide +kernel
theorem dX10_cover_131 : decode cX10_cover 131 = .ok (.iload 5, 2) := by decide +kernel
theorem dX10_cover_133 : decode cX10_cover 133 = .ok (.invokevirtual 245, 3) := by decide +kernel
theorem dX10_cover_136 : decode cX10_cover 136 = .ok (.iadd, 1) := by decide +kernel
theorem dX10_cover_137 : decode cX10_cover 137 = .ok (.iload_n 1, 1) := by decide +kernel
theorem dX10_cover_138 : decode cX10_cover 138 = .ok (.irem, 1) := by decide +kernel
theorem dX10_cover_139 : decode cX10_cover 139 = .ok (.iadd, 1) := by decide +kernel
theorem dX10_cover_140 : decode cX10_cover 140 = .ok (.invokevirtual 103, 3) := by decide +kernel
theorem dX10_cover_143 : decode cX10_cover 143 = .ok (.iinc 4 1, 3) := by decide +kernel
theorem dX10_cover_146 : decode cX10_cover 146 = .ok (.goto (-61), 3) := by decide +kernel
theorem dX10_cover_149 : decode cX10_cover 149 = .ok (.iinc 2 1, 3) := by decide +kernel
theorem dX10_cover_152 : decode cX10_cover 152 = .ok (.goto (-85), 3) := by decide +kernel
theorem dX10_cover_155 : decode cX10_cover 155 = .ok (.aload_n 0, 1) := by decide +kernel
theorem dX10_cover_156 : decode cX10_cover 156 = .ok (.invokevirtual 132, 3) := by decide +kernel
theorem dX10_cover_159 : decode cX10_cover 159 = .ok (.ireturn, 1) := by decide +kernel
set_option maxRecDepth 20000 in
theorem ggX10_power_X7_isRack : GoodIn wsX10_power wsX7_isRack := goodIn_r _ [7, 8, 9, 10, 6, 11, 12, 13, 14, 15, 16, 17, 18, 19, 20, 21, 107, 108] (by decide +kernel) (by decide +kernel)
set_option maxRecDepth 20000 in
theorem gX10_power_X7_isRack : GoodIn wsX10_power (wsV RX10 192 RX7 yX7_isRack wsX7_isRack) := goodIn_app (goodIn_of _ (by decide +kernel)) ggX10_power_X7_isRack
set_option maxRecDepth 20000 in
theorem ggX10_power_X6_closedPower : GoodIn wsX10_power wsX6_closedPower := goodIn_r _ [26, 27, 28, 29, 30, 31, 32, 33, 25, 34, 35, 36, 37, 38, 39, 40, 41, 42, 43, 44, 14, 15, 6, 16, 17, 45, 46, 47, 48, 49, 50, 51, 52, 53, 54, 55, 56, 57, 58, 59, 60, 61, 109, 110, 111, 112, 113, 114, 107, 108] (by decide +kernel) (by decide +kernel)
set_option maxRecDepth 20000 in
theorem gX10_power_X6_closedPower : GoodIn wsX10_power (wsV RX10 251 RX6 yX6_closedPower wsX6_closedPower) := goodIn_app (goodIn_of _ (by decide +kernel)) ggX10_power_X6_closedPower
set_option maxRecDepth 20000 in
theorem ggX10_power_X10_splitIntoOrbits : GoodIn wsX10_power wsX10_splitIntoOrbits := goodIn_r _ [66, 67, 1, 68, 69, 70, 71, 72, 73, 74, 75, 14, 15, 6, 16, 17, 76, 77, 78, 79, 80, 81, 82, 83, 84, 85, 86, 87, 88, 89, 90, 91, 92, 93, 94, 95, 96, 97, 98, 99, 100, 101, 102, 103, 104, 105, 106, 107, 108, 115, 116, 117] (by decide +kernel) (by decide +kernel)
set_option maxRecDepth 20000 in
theorem gX10_power_X10_splitIntoOrbits : GoodIn wsX10_power (wsV RX10 199 RX10 yX10_splitIntoOrbits wsX10_splitIntoOrbits) := goodIn_app (goodIn_of _ (by decide +kernel)) ggX10_power_X10_splitIntoOrbits
theorem dX10_power_0 : decode cX10_power 0 = .ok (.iload_n 1, 1) := by decide +kernel
theorem dX10_power_1 : decode cX10_power 1 = .ok (.iconst 2, 1) := by decide +kernel
theorem dX10_power_2 : decode cX10_power 2 = .ok (.if_icmp .eq 19, 3) := by decide +kernel
theorem dX10_power_5 : decode cX10_power 5 = .ok (.iload_n 1, 1) := by decide +kernel
theorem dX10_power_6 : decode cX10_power 6 = .ok (.iconst 3, 1) := by decide +kernel
theorem dX10_power_7 : decode cX10_power 7 = .ok (.if_icmp .eq 14, 3) := by decide +kernel
theorem dX10_power_10 : decode cX10_power 10 = .ok (.iload_n 1, 1) := by decide +kernel
theorem dX10_power_11 : decode cX10_power 11 = .ok (.iconst 5, 1) := by decide +kernel
theorem dX10_power_12 : decode cX10_power 12 = .ok (.if_icmp .eq 9, 3) := by decide +kernel
theorem dX10_power_15 : decode cX10_power 15 = .ok (.iload_n 1, 1) := by decide +kernel
theorem dX10_power_16 : decode cX10_power 16 = .ok (.bipush 7, 2) := by decide +kernel
theorem dX10_power_18 : decode cX10_power 18 = .ok (.if_icmp .ne 7, 3) := by decide +kernel
theorem dX10_power_21 : decode cX10_power 21 = .ok (.iconst 1, 1) := by decide +kernel
theorem dX10_power_22 : decode cX10_power 22 = .ok (.goto 4, 3) := by decide +kernel
theorem dX10_power_25 : decode cX10_power 25 = .ok (.iconst 0, 1) := by decide +kernel
theorem dX10_power_26 : decode cX10_power 26 = .ok (.istore_n 3, 1) := by decide +kernel
theorem dX10_power_27 : decode cX10_power 27 = .ok (.iload_n 3, 1) := by decide +kernel
theorem dX10_power_28 : decode cX10_power 28 = .ok (.ifCond .eq 22, 3) := by decide +kernel
theorem dX10_power_31 : decode cX10_power 31 = .ok (.iload_n 2, 1) := by decide +kernel
theorem dX10_power_32 : decode cX10_power 32 = .ok (.ifCond .lt 18, 3) := by decide +kernel
theorem dX10_power_35 : decode cX10_power 35 = .ok (.iload_n 2, 1) := by decide +kernel
theorem dX10_power_36 : decode cX10_power 36 = .ok (.iconst 1, 1) := by decide +kernel
theorem dX10_power_37 : decode cX10_power 37 = .ok (.if_icmp .gt 13, 3) := by decide +kernel
theorem dX10_power_40 : decode cX10_power 40 = .ok (.aload_n 0, 1) := by decide +kernel
theorem dX10_power_41 : decode cX10_power 41 = .ok (.getfield 14, 3) := by decide +kernel
theorem dX10_power_44 : decode cX10_power 44 = .ok (.invokevirtual 192, 3) := by decide +kernel
theorem dX10_power_47 : decode cX10_power 47 = .ok (.ifCond .ne 5, 3) := by decide +kernel
theorem dX10_power_50 : decode cX10_power 50 = .ok (.iconst (-1), 1) := by decide +kernel
theorem dX10_power_51 : decode cX10_power 51 = .ok (.ireturn, 1) := by decide +kernel
theorem dX10_power_52 : decode cX10_power 52 = .ok (.iload_n 2, 1) := by decide +kernel
theorem dX10_power_53 : decode cX10_power 53 = .ok (.ifCond .ne 16, 3) := by decide +kernel
theorem dX10_power_56 : decode cX10_power 56 = .ok (.aload_n 0, 1) := by decide +kernel
theorem dX10_power_57 : decode cX10_power 57 = .ok (.getfield 73, 3) := by decide +kernel
theorem dX10_power_60 : decode cX10_power 60 = .ok (.aload_n 0, 1) := by decide +kernel
theorem dX10_power_61 : decode cX10_power 61 = .ok (.getfield 14, 3) := by decide +kernel
theorem dX10_power_64 : decode cX10_power 64 = .ok (.iload_n 1, 1) := by decide +kernel
theorem dX10_power_65 : decode cX10_power 65 = .ok (.invokevirtual 251, 3) := by decide +kernel
theorem dX10_power_68 : decode cX10_power 68 = .ok (.ireturn, 1) := by decide +kernel
theorem dX10_power_69 : decode cX10_power 69 = .ok (.aload_n 0, 1) := by decide +kernel
theorem dX10_power_70 : decode cX10_power 70 = .ok (.getfield 14, 3) := by decide +kernel
theorem dX10_power_73 : decode cX10_power 73 = .ok (.getfield 124, 3) := by decide +kernel
theorem dX10_power_76 : decode cX10_power 76 = .ok (.aload_n 0, 1) := by decide +kernel
theorem dX10_power_77 : decode cX10_power 77 = .ok (.invokevirtual 199, 3) := by decide +kernel
theorem dX10_power_80 : decode cX10_power 80 = .ok (.isub, 1) := by decide +kernel
theorem dX10_power_81 : decode cX10_power 81 = .ok (.ireturn, 1) := by decide +kernel
theorem dX10_strands_0 : decode cX10_strands 0 = .ok (.iload_n 1, 1) := by decide +kernel
theorem dX10_strands_1 : decode cX10_strands 1 = .ok (.iconst 2, 1) := by decide +kernel
theorem dX10_strands_2 : decode cX10_strands 2 = .ok (.if_icmp .lt 8, 3) := by decide +kernel
theorem dX10_strands_5 : decode cX10_strands 5 = .ok (.iload_n 1, 1) := by decide +kernel
theorem dX10_strands_6 : decode cX10_strands 6 = .ok (.iconst 4, 1) := by decide +kernel
theorem dX10_strands_7 : decode cX10_strands 7 = .ok (.if_icmp .le 5, 3) := by decide +kernel
theorem dX10_strands_10 : decode cX10_strands 10 = .ok (.iconst 0, 1) := by decide +kernel
theorem dX10_strands_11 : decode cX10_strands 11 = .ok (.ireturn, 1) := by decide +kernel
theorem dX10_strands_12 : decode cX10_strands 12 = .ok (.aload_n 0, 1) := by decide +kernel
theorem dX10_strands_13 : decode cX10_strands 13 = .ok (.getfield 38, 3) := by decide +kernel
theorem dX10_strands_16 : decode cX10_strands 16 = .ok (.iload_n 1, 1) := by decide +kernel
theorem dX10_strands_17 : decode cX10_strands 17 = .ok (.putfield 174, 3) := by decide +kernel
theorem dX10_strands_20 : decode cX10_strands 20 = .ok (.aload_n 0, 1) := by decide +kernel
theorem dX10_strands_21 : decode cX10_strands 21 = .ok (.getfield 38, 3) := by decide +kernel
theorem dX10_strands_24 : decode cX10_strands 24 = .ok (.iconst 0, 1) := by decide +kernel
theorem dX10_strands_25 : decode cX10_strands 25 = .ok (.putfield 177, 3) := by decide +kernel
theorem dX10_strands_28 : decode cX10_strands 28 = .ok (.iconst 1, 1) := by decide +kernel
theorem dX10_strands_29 : decode cX10_strands 29 = .ok (.ireturn, 1) := by decide +kernel
set_option maxRecDepth 20000 in
theorem ggX10_letter_X0_add : GoodIn wsX10_letter wsX0_add := goodIn_r _ [6, 7, 8, 24, 25, 26, 27, 28, 29] (by decide +kernel) (by decide +kernel)
set_option maxRecDepth 20000 in
theorem gX10_letter_X0_add : GoodIn wsX10_letter (wsV RX10 255 RX0 yX0_add wsX0_add) := goodIn_app (goodIn_of _ (by decide +kernel)) ggX10_letter_X0_add
theorem dX10_letter_0 : decode cX10_letter 0 = .ok (.aload_n 0, 1) := by decide +kernel
theorem dX10_letter_1 : decode cX10_letter 1 = .ok (.getfield 38, 3) := by decide +kernel
theorem dX10_letter_4 : decode cX10_letter 4 = .ok (.getfield 174, 3) := by decide +kernel
theorem dX10_letter_7 : decode cX10_letter 7 = .ok (.iconst 1, 1) := by decide +kernel
theorem dX10_letter_8 : decode cX10_letter 8 = .ok (.isub, 1) := by decide +kernel
theorem dX10_letter_9 : decode cX10_letter 9 = .ok (.istore_n 2, 1) := by decide +kernel
theorem dX10_letter_10 : decode cX10_letter 10 = .ok (.iload_n 1, 1) := by decide +kernel
theorem dX10_letter_11 : decode cX10_letter 11 = .ok (.ifCond .eq 26, 3) := by decide +kernel
theorem dX10_letter_14 : decode cX10_letter 14 = .ok (.iload_n 1, 1) := by decide +kernel
theorem dX10_letter_15 : decode cX10_letter 15 = .ok (.iload_n 2, 1) := by decide +kernel
theorem dX10_letter_16 : decode cX10_letter 16 = .ok (.ineg, 1) := by decide +kernel
theorem dX10_letter_17 : decode cX10_letter 17 = .ok (.if_icmp .lt 20, 3) := by decide +kernel
theorem dX10_letter_20 : decode cX10_letter 20 = .ok (.iload_n 1, 1) := by decide +kernel
theorem dX10_letter_21 : decode cX10_letter 21 = .ok (.iload_n 2, 1) := by decide +kernel
theorem dX10_letter_22 : decode cX10_letter 22 = .ok (.if_icmp .gt 15, 3) := by decide +kernel
theorem dX10_letter_25 : decode cX10_letter 25 = .ok (.aload_n 0, 1) := by decide +kernel
theorem dX10_letter_26 : decode cX10_letter 26 = .ok (.getfield 38, 3) := by decide +kernel
theorem dX10_letter_29 : decode cX10_letter 29 = .ok (.getfield 177, 3) := by decide +kernel
theorem dX10_letter_32 : decode cX10_letter 32 = .ok (.bipush 24, 2) := by decide +kernel
theorem dX10_letter_34 : decode cX10_letter 34 = .ok (.if_icmp .lt 5, 3) := by decide +kernel
theorem dX10_letter_37 : decode cX10_letter 37 = .ok (.iconst (-1), 1) := by decide +kernel
theorem dX10_letter_38 : decode cX10_letter 38 = .ok (.ireturn, 1) := by decide +kernel
theorem dX10_letter_39 : decode cX10_letter 39 = .ok (.aload_n 0, 1) := by decide +kernel
theorem dX10_letter_40 : decode cX10_letter 40 = .ok (.getfield 38, 3) := by decide +kernel
theorem dX10_letter_43 : decode cX10_letter 43 = .ok (.iload_n 1, 1) := by decide +kernel
theorem dX10_letter_44 : decode cX10_letter 44 = .ok (.invokevirtual 255, 3) := by decide +kernel
theorem dX10_letter_47 : decode cX10_letter 47 = .ok (.aload_n 0, 1) := by decide +kernel
theorem dX10_letter_48 : decode cX10_letter 48 = .ok (.getfield 38, 3) := by decide +kernel
theorem dX10_letter_51 : decode cX10_letter 51 = .ok (.getfield 177, 3) := by decide +kernel
theorem dX10_letter_54 : decode cX10_letter 54 = .ok (.ireturn, 1) := by decide +kernel
set_option maxRecDepth 20000 in
theorem ggX10_colours_X7_isRack : GoodIn wsX10_colours wsX7_isRack := goodIn_r _ [9, 10, 11, 12, 8, 13, 14, 15, 16, 17, 18, 19, 20, 21, 22, 23, 95, 96] (by decide +kernel) (by decide +kernel)
set_option maxRecDepth 20000 in
theorem gX10_colours_X7_isRack : GoodIn wsX10_colours (wsV RX10 192 RX7 yX7_isRack wsX7_isRack) := goodIn_app (goodIn_of _ (by decide +kernel)) ggX10_colours_X7_isRack
set_option maxRecDepth 20000 in
theorem ggX10_colours_X7_makeContrary : GoodIn wsX10_colours wsX7_makeContrary := goodIn_r _ [27, 14, 15, 16, 17, 8, 18, 19, 28, 29, 30, 31, 95, 96] (by decide +kernel) (by decide +kernel)
set_option maxRecDepth 20000 in
theorem gX10_colours_X7_makeContrary : GoodIn wsX10_colours (wsV RX10 223 RX7 yX7_makeContrary wsX7_makeContrary) := goodIn_app (goodIn_of _ (by decide +kernel)) ggX10_colours_X7_makeContrary
set_option maxRecDepth 20000 in
theorem ggX10_colours_X0_tally : GoodIn wsX10_colours wsX0_tally := goodIn_r _ [36, 37, 38, 39, 40, 41, 42, 43, 44, 45, 46, 47, 35, 48, 49, 50, 51, 52, 53, 54, 55, 16, 17, 8, 18, 19, 56, 57, 58, 59, 60, 61, 62, 63, 64, 65, 66, 67, 68, 69, 70, 71, 72, 73, 97, 98, 99, 100, 101, 102, 95, 96, 93, 94] (by decide +kernel) (by decide +kernel)
set_option maxRecDepth 20000 in
theorem gX10_colours_X0_tally : GoodIn wsX10_colours (wsV RX10 258 RX0 yX0_tally wsX0_tally) := goodIn_app (goodIn_of _ (by decide +kernel)) ggX10_colours_X0_tally
set_option maxRecDepth 20000 in
theorem ggX10_colours_X0_tallied : GoodIn wsX10_colours wsX0_tallied := goodIn_r _ [77, 37, 97, 98, 99, 100, 101, 102] (by decide +kernel) (by decide +kernel)
set_option maxRecDepth 20000 in
theorem gX10_colours_X0_tallied : GoodIn wsX10_colours (wsV RX10 262 RX0 yX0_tallied wsX0_tallied) := goodIn_app (goodIn_of _ (by decide +kernel)) ggX10_colours_X0_tallied
theorem dX10_colours_0 : decode cX10_colours 0 = .ok (.aload_n 0, 1) := by decide +kernel
theorem dX10_colours_1 : decode cX10_colours 1 = .ok (.getfield 14, 3) := by decide +kernel
theorem dX10_colours_4 : decode cX10_colours 4 = .ok (.invokevirtual 192, 3) := by decide +kernel
theorem dX10_colours_7 : decode cX10_colours 7 = .ok (.ifCond .ne 5, 3) := by decide +kernel
theorem dX10_colours_10 : decode cX10_colours 10 = .ok (.iconst (-1), 1) := by decide +kernel
theorem dX10_colours_11 : decode cX10_colours 11 = .ok (.ireturn, 1) := by decide +kernel
theorem dX10_colours_12 : decode cX10_colours 12 = .ok (.aload_n 0, 1) := by decide +kernel
theorem dX10_colours_13 : decode cX10_colours 13 = .ok (.getfield 21, 3) := by decide +kernel
theorem dX10_colours_16 : decode cX10_colours 16 = .ok (.aload_n 0, 1) := by decide +kernel
theorem dX10_colours_17 : decode cX10_colours 17 = .ok (.getfield 14, 3) := by decide +kernel
theorem dX10_colours_20 : decode cX10_colours 20 = .ok (.invokevirtual 223, 3) := by decide +kernel
theorem dX10_colours_23 : decode cX10_colours 23 = .ok (.aload_n 0, 1) := by decide +kernel
theorem dX10_colours_24 : decode cX10_colours 24 = .ok (.getfield 38, 3) := by decide +kernel
theorem dX10_colours_27 : decode cX10_colours 27 = .ok (.aload_n 0, 1) := by decide +kernel
theorem dX10_colours_28 : decode cX10_colours 28 = .ok (.getfield 14, 3) := by decide +kernel
theorem dX10_colours_31 : decode cX10_colours 31 = .ok (.aload_n 0, 1) := by decide +kernel
theorem dX10_colours_32 : decode cX10_colours 32 = .ok (.getfield 21, 3) := by decide +kernel
theorem dX10_colours_35 : decode cX10_colours 35 = .ok (.aload_n 0, 1) := by decide +kernel
theorem dX10_colours_36 : decode cX10_colours 36 = .ok (.getfield 31, 3) := by decide +kernel
theorem dX10_colours_39 : decode cX10_colours 39 = .ok (.invokevirtual 258, 3) := by decide +kernel
theorem dX10_colours_42 : decode cX10_colours 42 = .ok (.iconst 0, 1) := by decide +kernel
theorem dX10_colours_43 : decode cX10_colours 43 = .ok (.istore_n 1, 1) := by decide +kernel
theorem dX10_colours_44 : decode cX10_colours 44 = .ok (.iconst 0, 1) := by decide +kernel
theorem dX10_colours_45 : decode cX10_colours 45 = .ok (.istore_n 2, 1) := by decide +kernel
theorem dX10_colours_46 : decode cX10_colours 46 = .ok (.iload_n 2, 1) := by decide +kernel
theorem dX10_colours_47 : decode cX10_colours 47 = .ok (.aload_n 0, 1) := by decide +kernel
theorem dX10_colours_48 : decode cX10_colours 48 = .ok (.getfield 31, 3) := by decide +kernel
theorem dX10_colours_51 : decode cX10_colours 51 = .ok (.getfield 171, 3) := by decide +kernel
theorem dX10_colours_54 : decode cX10_colours 54 = .ok (.if_icmp .ge 20, 3) := by decide +kernel
theorem dX10_colours_57 : decode cX10_colours 57 = .ok (.iload_n 1, 1) := by decide +kernel
theorem dX10_colours_58 : decode cX10_colours 58 = .ok (.aload_n 0, 1) := by decide +kernel
theorem dX10_colours_59 : decode cX10_colours 59 = .ok (.getfield 38, 3) := by decide +kernel
theorem dX10_colours_62 : decode cX10_colours 62 = .ok (.iload_n 2, 1) := by decide +kernel
theorem dX10_colours_63 : decode cX10_colours 63 = .ok (.invokevirtual 262, 3) := by decide +kernel
theorem dX10_colours_66 : decode cX10_colours 66 = .ok (.iadd, 1) := by decide +kernel
theorem dX10_colours_67 : decode cX10_colours 67 = .ok (.istore_n 1, 1) := by decide +kernel
theorem dX10_colours_68 : decode cX10_colours 68 = .ok (.iinc 2 1, 3) := by decide +kernel
theorem dX10_colours_71 : decode cX10_colours 71 = .ok (.goto (-25), 3) := by decide +kernel
theorem dX10_colours_74 : decode cX10_colours 74 = .ok (.iload_n 1, 1) := by decide +kernel
theorem dX10_colours_75 : decode cX10_colours 75 = .ok (.ireturn, 1) := by decide +kernel
set_option maxRecDepth 20000 in
theorem ggX10_sums_X7_isRack : GoodIn wsX10_sums wsX7_isRack := goodIn_r _ [9, 10, 11, 12, 8, 13, 14, 15, 16, 17, 18, 19, 20, 21, 22, 23, 95, 96] (by decide +kernel) (by decide +kernel)
set_option maxRecDepth 20000 in
theorem gX10_sums_X7_isRack : GoodIn wsX10_sums (wsV RX10 192 RX7 yX7_isRack wsX7_isRack) := goodIn_app (goodIn_of _ (by decide +kernel)) ggX10_sums_X7_isRack
set_option maxRecDepth 20000 in
theorem ggX10_sums_X7_makeContrary : GoodIn wsX10_sums wsX7_makeContrary := goodIn_r _ [27, 14, 15, 16, 17, 8, 18, 19, 28, 29, 30, 31, 95, 96] (by decide +kernel) (by decide +kernel)
set_option maxRecDepth 20000 in
theorem gX10_sums_X7_makeContrary : GoodIn wsX10_sums (wsV RX10 223 RX7 yX7_makeContrary wsX7_makeContrary) := goodIn_app (goodIn_of _ (by decide +kernel)) ggX10_sums_X7_makeContrary
set_option maxRecDepth 20000 in
theorem ggX10_sums_X0_tally : GoodIn wsX10_sums wsX0_tally := goodIn_r _ [36, 37, 38, 39, 40, 41, 42, 43, 44, 45, 46, 47, 35, 48, 49, 50, 51, 52, 53, 54, 55, 16, 17, 8, 18, 19, 56, 57, 58, 59, 60, 61, 62, 63, 64, 65, 66, 67, 68, 69, 70, 71, 72, 73, 97, 98, 99, 100, 101, 102, 95, 96, 93, 94] (by decide +kernel) (by decide +kernel)
set_option maxRecDepth 20000 in
theorem gX10_sums_X0_tally : GoodIn wsX10_sums (wsV RX10 258 RX0 yX0_tally wsX0_tally) := goodIn_app (goodIn_of _ (by decide +kernel)) ggX10_sums_X0_tally
set_option maxRecDepth 20000 in
theorem ggX10_sums_X0_tallied : GoodIn wsX10_sums wsX0_tallied := goodIn_r _ [77, 37, 97, 98, 99, 100, 101, 102] (by decide +kernel) (by decide +kernel)
set_option maxRecDepth 20000 in
theorem gX10_sums_X0_tallied : GoodIn wsX10_sums (wsV RX10 262 RX0 yX0_tallied wsX0_tallied) := goodIn_app (goodIn_of _ (by decide +kernel)) ggX10_sums_X0_tallied
theorem dX10_sums_0 : decode cX10_sums 0 = .ok (.iload_n 1, 1) := by decide +kernel
theorem dX10_sums_1 : decode cX10_sums 1 = .ok (.ifCond .lt 24, 3) := by decide +kernel
theorem dX10_sums_4 : decode cX10_sums 4 = .ok (.iload_n 1, 1) := by decide +kernel
theorem dX10_sums_5 : decode cX10_sums 5 = .ok (.aload_n 0, 1) := by decide +kernel
theorem dX10_sums_6 : decode cX10_sums 6 = .ok (.getfield 31, 3) := by decide +kernel
theorem dX10_sums_9 : decode cX10_sums 9 = .ok (.getfield 171, 3) := by decide +kernel
theorem dX10_sums_12 : decode cX10_sums 12 = .ok (.if_icmp .ge 13, 3) := by decide +kernel
theorem dX10_sums_15 : decode cX10_sums 15 = .ok (.aload_n 0, 1) := by decide +kernel
theorem dX10_sums_16 : decode cX10_sums 16 = .ok (.getfield 14, 3) := by decide +kernel
theorem dX10_sums_19 : decode cX10_sums 19 = .ok (.invokevirtual 192, 3) := by decide +kernel
theorem dX10_sums_22 : decode cX10_sums 22 = .ok (.ifCond .ne 5, 3) := by decide +kernel
theorem dX10_sums_25 : decode cX10_sums 25 = .ok (.iconst (-1), 1) := by decide +kernel
theorem dX10_sums_26 : decode cX10_sums 26 = .ok (.ireturn, 1) := by decide +kernel
theorem dX10_sums_27 : decode cX10_sums 27 = .ok (.aload_n 0, 1) := by decide +kernel
theorem dX10_sums_28 : decode cX10_sums 28 = .ok (.getfield 21, 3) := by decide +kernel
theorem dX10_sums_31 : decode cX10_sums 31 = .ok (.aload_n 0, 1) := by decide +kernel
theorem dX10_sums_32 : decode cX10_sums 32 = .ok (.getfield 14, 3) := by decide +kernel
theorem dX10_sums_35 : decode cX10_sums 35 = .ok (.invokevirtual 223, 3) := by decide +kernel
theorem dX10_sums_38 : decode cX10_sums 38 = .ok (.aload_n 0, 1) := by decide +kernel
theorem dX10_sums_39 : decode cX10_sums 39 = .ok (.getfield 38, 3) := by decide +kernel
theorem dX10_sums_42 : decode cX10_sums 42 = .ok (.aload_n 0, 1) := by decide +kernel
theorem dX10_sums_43 : decode cX10_sums 43 = .ok (.getfield 14, 3) := by decide +kernel
theorem dX10_sums_46 : decode cX10_sums 46 = .ok (.aload_n 0, 1) := by decide +kernel
theorem dX10_sums_47 : decode cX10_sums 47 = .ok (.getfield 21, 3) := by decide +kernel
theorem dX10_sums_50 : decode cX10_sums 50 = .ok (.aload_n 0, 1) := by decide +kernel
theorem dX10_sums_51 : decode cX10_sums 51 = .ok (.getfield 31, 3) := by decide +kernel
theorem dX10_sums_54 : decode cX10_sums 54 = .ok (.invokevirtual 258, 3) := by decide +kernel
theorem dX10_sums_57 : decode cX10_sums 57 = .ok (.aload_n 0, 1) := by decide +kernel
theorem dX10_sums_58 : decode cX10_sums 58 = .ok (.getfield 38, 3) := by decide +kernel
theorem dX10_sums_61 : decode cX10_sums 61 = .ok (.iload_n 1, 1) := by decide +kernel
theorem dX10_sums_62 : decode cX10_sums 62 = .ok (.invokevirtual 262, 3) := by decide +kernel
theorem dX10_sums_65 : decode cX10_sums 65 = .ok (.ireturn, 1) := by decide +kernel
set_option maxRecDepth 20000 in
theorem ggX10_listed_X10_isList : GoodIn wsX10_listed wsX10_isList := goodIn_r _ [6] (by decide +kernel) (by decide +kernel)
set_option maxRecDepth 20000 in
theorem gX10_listed_X10_isList : GoodIn wsX10_listed (va_wsS RX10 265 yX10_isList wsX10_isList) := goodIn_app (goodIn_of _ (by decide +kernel)) ggX10_listed_X10_isList
set_option maxRecDepth 20000 in
theorem ggX10_listed_X2_sizeOf : GoodIn wsX10_listed wsX2_sizeOf := goodIn_r _ [11, 12, 13, 14, 15, 16, 17, 10, 18, 19, 20, 21, 22, 23, 24, 25, 26, 27, 28, 29, 30, 31, 32, 33, 34, 35, 36, 37, 38, 39, 40, 41, 42, 43, 44, 45, 46, 47, 48, 49, 50, 51, 52, 53, 54, 55, 56, 57, 58, 59, 60, 61, 62, 63, 64, 65, 66, 67, 68, 69, 70, 71, 72, 73, 74, 75, 76, 77, 78, 79, 80, 81, 82, 83, 84, 85, 86, 87, 88, 89, 90, 91, 92, 93, 94, 95, 96, 97, 98, 99, 100, 101, 102, 103, 104, 105, 106, 107, 108, 109, 110, 111, 112, 113, 114, 115, 116, 117, 118, 119, 120, 121, 122, 123, 124, 125, 126, 127, 128, 129, 130, 131, 147, 148, 149, 150, 151, 152, 153, 154, 155, 156, 157] (by decide +kernel) (by decide +kernel)
set_option maxRecDepth 20000 in
theorem gX10_listed_X2_sizeOf : GoodIn wsX10_listed (wsV RX10 268 RX2 yX2_sizeOf wsX2_sizeOf) := goodIn_app (goodIn_of _ (by decide +kernel)) ggX10_listed_X2_sizeOf
theorem dX10_listed_0 : decode cX10_listed 0 = .ok (.iload_n 1, 1) := by decide +kernel
theorem dX10_listed_1 : decode cX10_listed 1 = .ok (.iload_n 2, 1) := by decide +kernel
theorem dX10_listed_2 : decode cX10_listed 2 = .ok (.invokestatic 265, 3) := by decide +kernel
theorem dX10_listed_5 : decode cX10_listed 5 = .ok (.ifCond .ne 5, 3) := by decide +kernel
theorem dX10_listed_8 : decode cX10_listed 8 = .ok (.iconst (-1), 1) := by decide +kernel
theorem dX10_listed_9 : decode cX10_listed 9 = .ok (.ireturn, 1) := by decide +kernel
theorem dX10_listed_10 : decode cX10_listed 10 = .ok (.aload_n 0, 1) := by decide +kernel
theorem dX10_listed_11 : decode cX10_listed 11 = .ok (.getfield 80, 3) := by decide +kernel
theorem dX10_listed_14 : decode cX10_listed 14 = .ok (.iload_n 1, 1) := by decide +kernel
theorem dX10_listed_15 : decode cX10_listed 15 = .ok (.iload_n 2, 1) := by decide +kernel
theorem dX10_listed_16 : decode cX10_listed 16 = .ok (.iconst 1, 1) := by decide +kernel
theorem dX10_listed_17 : decode cX10_listed 17 = .ok (.if_icmp .ne 7, 3) := by decide +kernel
theorem dX10_listed_20 : decode cX10_listed 20 = .ok (.iconst 1, 1) := by decide +kernel
