theorem dX0_init_0 : decode cX0_init 0 = .ok (.aload_n 0, 1) := by decide +kernel
theorem dX0_init_1 : decode cX0_init 1 = .ok (.invokespecial 3, 3) := by decide +kernel
theorem dX0_init_4 : decode cX0_init 4 = .ok (.aload_n 0, 1) := by decide +kernel
theorem dX0_init_5 : decode cX0_init 5 = .ok (.iload_n 1, 1) := by decide +kernel
theorem dX0_init_6 : decode cX0_init 6 = .ok (.putfield 9, 3) := by decide +kernel
theorem dX0_init_9 : decode cX0_init 9 = .ok (.aload_n 0, 1) := by decide +kernel
theorem dX0_init_10 : decode cX0_init 10 = .ok (.bipush 100, 2) := by decide +kernel
theorem dX0_init_12 : decode cX0_init 12 = .ok (.newarray .int, 2) := by decide +kernel
theorem dX0_init_14 : decode cX0_init 14 = .ok (.putfield 15, 3) := by decide +kernel
theorem dX0_init_17 : decode cX0_init 17 = .ok (.aload_n 0, 1) := by decide +kernel
theorem dX0_init_18 : decode cX0_init 18 = .ok (.bipush 100, 2) := by decide +kernel
theorem dX0_init_20 : decode cX0_init 20 = .ok (.newarray .int, 2) := by decide +kernel
theorem dX0_init_22 : decode cX0_init 22 = .ok (.putfield 19, 3) := by decide +kernel
theorem dX0_init_25 : decode cX0_init 25 = .ok (.aload_n 0, 1) := by decide +kernel
theorem dX0_init_26 : decode cX0_init 26 = .ok (.iload_n 1, 1) := by decide +kernel
theorem dX0_init_27 : decode cX0_init 27 = .ok (.putfield 22, 3) := by decide +kernel
theorem dX0_init_30 : decode cX0_init 30 = .ok (.return_, 1) := by decide +kernel
theorem dX0_number_0 : decode cX0_number 0 = .ok (.aload_n 0, 1) := by decide +kernel
theorem dX0_number_1 : decode cX0_number 1 = .ok (.getfield 9, 3) := by decide +kernel
theorem dX0_number_4 : decode cX0_number 4 = .ok (.ireturn, 1) := by decide +kernel
theorem dX0_order_0 : decode cX0_order 0 = .ok (.aload_n 0, 1) := by decide +kernel
theorem dX0_order_1 : decode cX0_order 1 = .ok (.getfield 22, 3) := by decide +kernel
theorem dX0_order_4 : decode cX0_order 4 = .ok (.ireturn, 1) := by decide +kernel
theorem dX0_size_0 : decode cX0_size 0 = .ok (.aload_n 0, 1) := by decide +kernel
theorem dX0_size_1 : decode cX0_size 1 = .ok (.getfield 25, 3) := by decide +kernel
theorem dX0_size_4 : decode cX0_size 4 = .ok (.ireturn, 1) := by decide +kernel
theorem dX0_touches_0 : decode cX0_touches 0 = .ok (.aload_n 0, 1) := by decide +kernel
theorem dX0_touches_1 : decode cX0_touches 1 = .ok (.getfield 28, 3) := by decide +kernel
theorem dX0_touches_4 : decode cX0_touches 4 = .ok (.ireturn, 1) := by decide +kernel
theorem dX0_keyChanges_0 : decode cX0_keyChanges 0 = .ok (.aload_n 0, 1) := by decide +kernel
theorem dX0_keyChanges_1 : decode cX0_keyChanges 1 = .ok (.getfield 31, 3) := by decide +kernel
theorem dX0_keyChanges_4 : decode cX0_keyChanges 4 = .ok (.ireturn, 1) := by decide +kernel
theorem dX0_touch_0 : decode cX0_touch 0 = .ok (.aload_n 0, 1) := by decide +kernel
theorem dX0_touch_1 : decode cX0_touch 1 = .ok (.dup, 1) := by decide +kernel
theorem dX0_touch_2 : decode cX0_touch 2 = .ok (.getfield 28, 3) := by decide +kernel
theorem dX0_touch_5 : decode cX0_touch 5 = .ok (.iconst 1, 1) := by decide +kernel
theorem dX0_touch_6 : decode cX0_touch 6 = .ok (.iadd, 1) := by decide +kernel
theorem dX0_touch_7 : decode cX0_touch 7 = .ok (.putfield 28, 3) := by decide +kernel
theorem dX0_touch_10 : decode cX0_touch 10 = .ok (.return_, 1) := by decide +kernel
set_option maxRecDepth 20000 in
theorem ggX0_isAhead_X0_weight : GoodIn wsX0_isAhead wsX0_weight := goodIn_r _ [5, 6, 7, 8, 9, 10, 11, 12, 13] (by decide +kernel) (by decide +kernel)
set_option maxRecDepth 20000 in
theorem gX0_isAhead_X0_weight : GoodIn wsX0_isAhead (wsV RX0 34 RX0 yX0_weight wsX0_weight) := goodIn_app (goodIn_of _ (by decide +kernel)) ggX0_isAhead_X0_weight
theorem dX0_isAhead_0 : decode cX0_isAhead 0 = .ok (.aload_n 0, 1) := by decide +kernel
theorem dX0_isAhead_1 : decode cX0_isAhead 1 = .ok (.iload_n 1, 1) := by decide +kernel
theorem dX0_isAhead_2 : decode cX0_isAhead 2 = .ok (.invokevirtual 34, 3) := by decide +kernel
theorem dX0_isAhead_5 : decode cX0_isAhead 5 = .ok (.aload_n 0, 1) := by decide +kernel
theorem dX0_isAhead_6 : decode cX0_isAhead 6 = .ok (.iload_n 2, 1) := by decide +kernel
theorem dX0_isAhead_7 : decode cX0_isAhead 7 = .ok (.invokevirtual 34, 3) := by decide +kernel
theorem dX0_isAhead_10 : decode cX0_isAhead 10 = .ok (.if_icmp .ge 7, 3) := by decide +kernel
theorem dX0_isAhead_13 : decode cX0_isAhead 13 = .ok (.iconst 1, 1) := by decide +kernel
theorem dX0_isAhead_14 : decode cX0_isAhead 14 = .ok (.goto 4, 3) := by decide +kernel
theorem dX0_isAhead_17 : decode cX0_isAhead 17 = .ok (.iconst 0, 1) := by decide +kernel
theorem dX0_isAhead_18 : decode cX0_isAhead 18 = .ok (.ireturn, 1) := by decide +kernel
theorem dX0_weight_0 : decode cX0_weight 0 = .ok (.aload_n 0, 1) := by decide +kernel
theorem dX0_weight_1 : decode cX0_weight 1 = .ok (.getfield 22, 3) := by decide +kernel
theorem dX0_weight_4 : decode cX0_weight 4 = .ok (.lookupswitch 49 #[(0, 28), (1, 30)], 28) := by decide +kernel
theorem dX0_weight_32 : decode cX0_weight 32 = .ok (.iload_n 1, 1) := by decide +kernel
theorem dX0_weight_33 : decode cX0_weight 33 = .ok (.ireturn, 1) := by decide +kernel
theorem dX0_weight_34 : decode cX0_weight 34 = .ok (.iload_n 1, 1) := by decide +kernel
theorem dX0_weight_35 : decode cX0_weight 35 = .ok (.iconst 2, 1) := by decide +kernel
theorem dX0_weight_36 : decode cX0_weight 36 = .ok (.irem, 1) := by decide +kernel
theorem dX0_weight_37 : decode cX0_weight 37 = .ok (.ifCond .ne 10, 3) := by decide +kernel
theorem dX0_weight_40 : decode cX0_weight 40 = .ok (.bipush 100, 2) := by decide +kernel
theorem dX0_weight_42 : decode cX0_weight 42 = .ok (.iload_n 1, 1) := by decide +kernel
theorem dX0_weight_43 : decode cX0_weight 43 = .ok (.isub, 1) := by decide +kernel
theorem dX0_weight_44 : decode cX0_weight 44 = .ok (.goto 8, 3) := by decide +kernel
theorem dX0_weight_47 : decode cX0_weight 47 = .ok (.sipush 200, 3) := by decide +kernel
theorem dX0_weight_50 : decode cX0_weight 50 = .ok (.iload_n 1, 1) := by decide +kernel
theorem dX0_weight_51 : decode cX0_weight 51 = .ok (.isub, 1) := by decide +kernel
theorem dX0_weight_52 : decode cX0_weight 52 = .ok (.ireturn, 1) := by decide +kernel
theorem dX0_weight_53 : decode cX0_weight 53 = .ok (.iload_n 1, 1) := by decide +kernel
theorem dX0_weight_54 : decode cX0_weight 54 = .ok (.iconst 4, 1) := by decide +kernel
theorem dX0_weight_55 : decode cX0_weight 55 = .ok (.if_icmp .ge 7, 3) := by decide +kernel
theorem dX0_weight_58 : decode cX0_weight 58 = .ok (.iconst 1, 1) := by decide +kernel
theorem dX0_weight_59 : decode cX0_weight 59 = .ok (.goto 24, 3) := by decide +kernel
theorem dX0_weight_62 : decode cX0_weight 62 = .ok (.iload_n 1, 1) := by decide +kernel
theorem dX0_weight_63 : decode cX0_weight 63 = .ok (.bipush 16, 2) := by decide +kernel
theorem dX0_weight_65 : decode cX0_weight 65 = .ok (.if_icmp .ge 7, 3) := by decide +kernel
theorem dX0_weight_68 : decode cX0_weight 68 = .ok (.iconst 2, 1) := by decide +kernel
theorem dX0_weight_69 : decode cX0_weight 69 = .ok (.goto 14, 3) := by decide +kernel
theorem dX0_weight_72 : decode cX0_weight 72 = .ok (.iload_n 1, 1) := by decide +kernel
theorem dX0_weight_73 : decode cX0_weight 73 = .ok (.bipush 64, 2) := by decide +kernel
theorem dX0_weight_75 : decode cX0_weight 75 = .ok (.if_icmp .ge 7, 3) := by decide +kernel
theorem dX0_weight_78 : decode cX0_weight 78 = .ok (.iconst 3, 1) := by decide +kernel
theorem dX0_weight_79 : decode cX0_weight 79 = .ok (.goto 4, 3) := by decide +kernel
theorem dX0_weight_82 : decode cX0_weight 82 = .ok (.iconst 4, 1) := by decide +kernel
theorem dX0_weight_83 : decode cX0_weight 83 = .ok (.istore_n 2, 1) := by decide +kernel
theorem dX0_weight_84 : decode cX0_weight 84 = .ok (.iload_n 1, 1) := by decide +kernel
theorem dX0_weight_85 : decode cX0_weight 85 = .ok (.iconst 2, 1) := by decide +kernel
theorem dX0_weight_86 : decode cX0_weight 86 = .ok (.iconst 4, 1) := by decide +kernel
theorem dX0_weight_87 : decode cX0_weight 87 = .ok (.iload_n 2, 1) := by decide +kernel
theorem dX0_weight_88 : decode cX0_weight 88 = .ok (.isub, 1) := by decide +kernel
theorem dX0_weight_89 : decode cX0_weight 89 = .ok (.imul, 1) := by decide +kernel
theorem dX0_weight_90 : decode cX0_weight 90 = .ok (.ishl, 1) := by decide +kernel
theorem dX0_weight_91 : decode cX0_weight 91 = .ok (.istore_n 3, 1) := by decide +kernel
theorem dX0_weight_92 : decode cX0_weight 92 = .ok (.iload_n 3, 1) := by decide +kernel
theorem dX0_weight_93 : decode cX0_weight 93 = .ok (.iconst 4, 1) := by decide +kernel
theorem dX0_weight_94 : decode cX0_weight 94 = .ok (.imul, 1) := by decide +kernel
theorem dX0_weight_95 : decode cX0_weight 95 = .ok (.iload_n 2, 1) := by decide +kernel
theorem dX0_weight_96 : decode cX0_weight 96 = .ok (.iadd, 1) := by decide +kernel
theorem dX0_weight_97 : decode cX0_weight 97 = .ok (.iconst 1, 1) := by decide +kernel
theorem dX0_weight_98 : decode cX0_weight 98 = .ok (.isub, 1) := by decide +kernel
theorem dX0_weight_99 : decode cX0_weight 99 = .ok (.ireturn, 1) := by decide +kernel
set_option maxRecDepth 20000 in
theorem ggX0_placeOfWeight_X0_weight : GoodIn wsX0_placeOfWeight wsX0_weight := goodIn_r _ [7, 8, 9, 10, 11, 12, 13, 14, 15] (by decide +kernel) (by decide +kernel)
set_option maxRecDepth 20000 in
theorem gX0_placeOfWeight_X0_weight : GoodIn wsX0_placeOfWeight (wsV RX0 34 RX0 yX0_weight wsX0_weight) := goodIn_app (goodIn_of _ (by decide +kernel)) ggX0_placeOfWeight_X0_weight
theorem dX0_placeOfWeight_0 : decode cX0_placeOfWeight 0 = .ok (.iconst 0, 1) := by decide +kernel
theorem dX0_placeOfWeight_1 : decode cX0_placeOfWeight 1 = .ok (.istore_n 2, 1) := by decide +kernel
theorem dX0_placeOfWeight_2 : decode cX0_placeOfWeight 2 = .ok (.aload_n 0, 1) := by decide +kernel
theorem dX0_placeOfWeight_3 : decode cX0_placeOfWeight 3 = .ok (.getfield 25, 3) := by decide +kernel
theorem dX0_placeOfWeight_6 : decode cX0_placeOfWeight 6 = .ok (.istore_n 3, 1) := by decide +kernel
theorem dX0_placeOfWeight_7 : decode cX0_placeOfWeight 7 = .ok (.iconst 0, 1) := by decide +kernel
theorem dX0_placeOfWeight_8 : decode cX0_placeOfWeight 8 = .ok (.istore 4, 2) := by decide +kernel
theorem dX0_placeOfWeight_10 : decode cX0_placeOfWeight 10 = .ok (.iload 4, 2) := by decide +kernel
theorem dX0_placeOfWeight_12 : decode cX0_placeOfWeight 12 = .ok (.bipush 100, 2) := by decide +kernel
theorem dX0_placeOfWeight_14 : decode cX0_placeOfWeight 14 = .ok (.if_icmp .ge 47, 3) := by decide +kernel
theorem dX0_placeOfWeight_17 : decode cX0_placeOfWeight 17 = .ok (.iload_n 2, 1) := by decide +kernel
theorem dX0_placeOfWeight_18 : decode cX0_placeOfWeight 18 = .ok (.iload_n 3, 1) := by decide +kernel
theorem dX0_placeOfWeight_19 : decode cX0_placeOfWeight 19 = .ok (.if_icmp .ge 42, 3) := by decide +kernel
theorem dX0_placeOfWeight_22 : decode cX0_placeOfWeight 22 = .ok (.iload_n 2, 1) := by decide +kernel
theorem dX0_placeOfWeight_23 : decode cX0_placeOfWeight 23 = .ok (.iload_n 3, 1) := by decide +kernel
theorem dX0_placeOfWeight_24 : decode cX0_placeOfWeight 24 = .ok (.iadd, 1) := by decide +kernel
theorem dX0_placeOfWeight_25 : decode cX0_placeOfWeight 25 = .ok (.iconst 2, 1) := by decide +kernel
theorem dX0_placeOfWeight_26 : decode cX0_placeOfWeight 26 = .ok (.idiv, 1) := by decide +kernel
theorem dX0_placeOfWeight_27 : decode cX0_placeOfWeight 27 = .ok (.istore 5, 2) := by decide +kernel
theorem dX0_placeOfWeight_29 : decode cX0_placeOfWeight 29 = .ok (.aload_n 0, 1) := by decide +kernel
theorem dX0_placeOfWeight_30 : decode cX0_placeOfWeight 30 = .ok (.aload_n 0, 1) := by decide +kernel
theorem dX0_placeOfWeight_31 : decode cX0_placeOfWeight 31 = .ok (.getfield 15, 3) := by decide +kernel
theorem dX0_placeOfWeight_34 : decode cX0_placeOfWeight 34 = .ok (.iload 5, 2) := by decide +kernel
theorem dX0_placeOfWeight_36 : decode cX0_placeOfWeight 36 = .ok (.iaload, 1) := by decide +kernel
theorem dX0_placeOfWeight_37 : decode cX0_placeOfWeight 37 = .ok (.invokevirtual 34, 3) := by decide +kernel
theorem dX0_placeOfWeight_40 : decode cX0_placeOfWeight 40 = .ok (.iload_n 1, 1) := by decide +kernel
theorem dX0_placeOfWeight_41 : decode cX0_placeOfWeight 41 = .ok (.if_icmp .ge 11, 3) := by decide +kernel
theorem dX0_placeOfWeight_44 : decode cX0_placeOfWeight 44 = .ok (.iload 5, 2) := by decide +kernel
theorem dX0_placeOfWeight_46 : decode cX0_placeOfWeight 46 = .ok (.iconst 1, 1) := by decide +kernel
theorem dX0_placeOfWeight_47 : decode cX0_placeOfWeight 47 = .ok (.iadd, 1) := by decide +kernel
theorem dX0_placeOfWeight_48 : decode cX0_placeOfWeight 48 = .ok (.istore_n 2, 1) := by decide +kernel
theorem dX0_placeOfWeight_49 : decode cX0_placeOfWeight 49 = .ok (.goto 6, 3) := by decide +kernel
theorem dX0_placeOfWeight_52 : decode cX0_placeOfWeight 52 = .ok (.iload 5, 2) := by decide +kernel
theorem dX0_placeOfWeight_54 : decode cX0_placeOfWeight 54 = .ok (.istore_n 3, 1) := by decide +kernel
theorem dX0_placeOfWeight_55 : decode cX0_placeOfWeight 55 = .ok (.iinc 4 1, 3) := by decide +kernel
theorem dX0_placeOfWeight_58 : decode cX0_placeOfWeight 58 = .ok (.goto (-48), 3) := by decide +kernel
theorem dX0_placeOfWeight_61 : decode cX0_placeOfWeight 61 = .ok (.iload_n 2, 1) := by decide +kernel
theorem dX0_placeOfWeight_62 : decode cX0_placeOfWeight 62 = .ok (.ireturn, 1) := by decide +kernel
set_option maxRecDepth 20000 in
theorem ggX0_placeOf_X0_weight : GoodIn wsX0_placeOf wsX0_weight := goodIn_r _ [5, 6, 13, 14, 15, 16, 17, 18, 19] (by decide +kernel) (by decide +kernel)
set_option maxRecDepth 20000 in
theorem gX0_placeOf_X0_weight : GoodIn wsX0_placeOf (wsV RX0 34 RX0 yX0_weight wsX0_weight) := goodIn_app (goodIn_of _ (by decide +kernel)) ggX0_placeOf_X0_weight
set_option maxRecDepth 20000 in
theorem ggX0_placeOf_X0_placeOfWeight : GoodIn wsX0_placeOf wsX0_placeOfWeight := goodIn_r _ [10, 11, 12, 1, 2, 3, 4, 5, 6, 13, 14, 15, 16, 17, 18, 19] (by decide +kernel) (by decide +kernel)
set_option maxRecDepth 20000 in
theorem gX0_placeOf_X0_placeOfWeight : GoodIn wsX0_placeOf (wsV RX0 38 RX0 yX0_placeOfWeight wsX0_placeOfWeight) := goodIn_app (goodIn_of _ (by decide +kernel)) ggX0_placeOf_X0_placeOfWeight
theorem dX0_placeOf_0 : decode cX0_placeOf 0 = .ok (.aload_n 0, 1) := by decide +kernel
theorem dX0_placeOf_1 : decode cX0_placeOf 1 = .ok (.aload_n 0, 1) := by decide +kernel
theorem dX0_placeOf_2 : decode cX0_placeOf 2 = .ok (.iload_n 1, 1) := by decide +kernel
theorem dX0_placeOf_3 : decode cX0_placeOf 3 = .ok (.invokevirtual 34, 3) := by decide +kernel
theorem dX0_placeOf_6 : decode cX0_placeOf 6 = .ok (.invokevirtual 38, 3) := by decide +kernel
theorem dX0_placeOf_9 : decode cX0_placeOf 9 = .ok (.ireturn, 1) := by decide +kernel
set_option maxRecDepth 20000 in
theorem ggX0_placeBehind_X0_weight : GoodIn wsX0_placeBehind wsX0_weight := goodIn_r _ [5, 6, 13, 14, 15, 16, 17, 18, 19] (by decide +kernel) (by decide +kernel)
set_option maxRecDepth 20000 in
theorem gX0_placeBehind_X0_weight : GoodIn wsX0_placeBehind (wsV RX0 34 RX0 yX0_weight wsX0_weight) := goodIn_app (goodIn_of _ (by decide +kernel)) ggX0_placeBehind_X0_weight
set_option maxRecDepth 20000 in
theorem ggX0_placeBehind_X0_placeOfWeight : GoodIn wsX0_placeBehind wsX0_placeOfWeight := goodIn_r _ [10, 11, 12, 1, 2, 3, 4, 5, 6, 13, 14, 15, 16, 17, 18, 19] (by decide +kernel) (by decide +kernel)
set_option maxRecDepth 20000 in
theorem gX0_placeBehind_X0_placeOfWeight : GoodIn wsX0_placeBehind (wsV RX0 38 RX0 yX0_placeOfWeight wsX0_placeOfWeight) := goodIn_app (goodIn_of _ (by decide +kernel)) ggX0_placeBehind_X0_placeOfWeight
theorem dX0_placeBehind_0 : decode cX0_placeBehind 0 = .ok (.aload_n 0, 1) := by decide +kernel
theorem dX0_placeBehind_1 : decode cX0_placeBehind 1 = .ok (.aload_n 0, 1) := by decide +kernel
theorem dX0_placeBehind_2 : decode cX0_placeBehind 2 = .ok (.iload_n 1, 1) := by decide +kernel
theorem dX0_placeBehind_3 : decode cX0_placeBehind 3 = .ok (.invokevirtual 34, 3) := by decide +kernel
theorem dX0_placeBehind_6 : decode cX0_placeBehind 6 = .ok (.iconst 1, 1) := by decide +kernel
theorem dX0_placeBehind_7 : decode cX0_placeBehind 7 = .ok (.iadd, 1) := by decide +kernel
theorem dX0_placeBehind_8 : decode cX0_placeBehind 8 = .ok (.invokevirtual 38, 3) := by decide +kernel
theorem dX0_placeBehind_11 : decode cX0_placeBehind 11 = .ok (.ireturn, 1) := by decide +kernel
theorem dX0_isPlace_0 : decode cX0_isPlace 0 = .ok (.iload_n 1, 1) := by decide +kernel
theorem dX0_isPlace_1 : decode cX0_isPlace 1 = .ok (.ifCond .lt 15, 3) := by decide +kernel
theorem dX0_isPlace_4 : decode cX0_isPlace 4 = .ok (.iload_n 1, 1) := by decide +kernel
theorem dX0_isPlace_5 : decode cX0_isPlace 5 = .ok (.aload_n 0, 1) := by decide +kernel
theorem dX0_isPlace_6 : decode cX0_isPlace 6 = .ok (.getfield 25, 3) := by decide +kernel
theorem dX0_isPlace_9 : decode cX0_isPlace 9 = .ok (.if_icmp .ge 7, 3) := by decide +kernel
theorem dX0_isPlace_12 : decode cX0_isPlace 12 = .ok (.iconst 1, 1) := by decide +kernel
theorem dX0_isPlace_13 : decode cX0_isPlace 13 = .ok (.goto 4, 3) := by decide +kernel
theorem dX0_isPlace_16 : decode cX0_isPlace 16 = .ok (.iconst 0, 1) := by decide +kernel
theorem dX0_isPlace_17 : decode cX0_isPlace 17 = .ok (.ireturn, 1) := by decide +kernel
set_option maxRecDepth 20000 in
theorem ggX0_keyAt_X0_isPlace : GoodIn wsX0_keyAt wsX0_isPlace := goodIn_r _ [6, 7, 8, 9, 10, 11, 12, 13, 14] (by decide +kernel) (by decide +kernel)
set_option maxRecDepth 20000 in
theorem gX0_keyAt_X0_isPlace : GoodIn wsX0_keyAt (wsV RX0 41 RX0 yX0_isPlace wsX0_isPlace) := goodIn_app (goodIn_of _ (by decide +kernel)) ggX0_keyAt_X0_isPlace
theorem dX0_keyAt_0 : decode cX0_keyAt 0 = .ok (.aload_n 0, 1) := by decide +kernel
theorem dX0_keyAt_1 : decode cX0_keyAt 1 = .ok (.iload_n 1, 1) := by decide +kernel
theorem dX0_keyAt_2 : decode cX0_keyAt 2 = .ok (.invokevirtual 41, 3) := by decide +kernel
theorem dX0_keyAt_5 : decode cX0_keyAt 5 = .ok (.ifCond .eq 12, 3) := by decide +kernel
theorem dX0_keyAt_8 : decode cX0_keyAt 8 = .ok (.aload_n 0, 1) := by decide +kernel
theorem dX0_keyAt_9 : decode cX0_keyAt 9 = .ok (.getfield 15, 3) := by decide +kernel
theorem dX0_keyAt_12 : decode cX0_keyAt 12 = .ok (.iload_n 1, 1) := by decide +kernel
theorem dX0_keyAt_13 : decode cX0_keyAt 13 = .ok (.iaload, 1) := by decide +kernel
theorem dX0_keyAt_14 : decode cX0_keyAt 14 = .ok (.goto 6, 3) := by decide +kernel
theorem dX0_keyAt_17 : decode cX0_keyAt 17 = .ok (.sipush (-10000), 3) := by decide +kernel
theorem dX0_keyAt_20 : decode cX0_keyAt 20 = .ok (.ireturn, 1) := by decide +kernel
set_option maxRecDepth 20000 in
theorem ggX0_valueAt_X0_isPlace : GoodIn wsX0_valueAt wsX0_isPlace := goodIn_r _ [6, 7, 8, 9, 10, 11, 12, 13, 14] (by decide +kernel) (by decide +kernel)
set_option maxRecDepth 20000 in
theorem gX0_valueAt_X0_isPlace : GoodIn wsX0_valueAt (wsV RX0 41 RX0 yX0_isPlace wsX0_isPlace) := goodIn_app (goodIn_of _ (by decide +kernel)) ggX0_valueAt_X0_isPlace
theorem dX0_valueAt_0 : decode cX0_valueAt 0 = .ok (.aload_n 0, 1) := by decide +kernel
theorem dX0_valueAt_1 : decode cX0_valueAt 1 = .ok (.iload_n 1, 1) := by decide +kernel
theorem dX0_valueAt_2 : decode cX0_valueAt 2 = .ok (.invokevirtual 41, 3) := by decide +kernel
theorem dX0_valueAt_5 : decode cX0_valueAt 5 = .ok (.ifCond .eq 12, 3) := by decide +kernel
theorem dX0_valueAt_8 : decode cX0_valueAt 8 = .ok (.aload_n 0, 1) := by decide +kernel
theorem dX0_valueAt_9 : decode cX0_valueAt 9 = .ok (.getfield 19, 3) := by decide +kernel
theorem dX0_valueAt_12 : decode cX0_valueAt 12 = .ok (.iload_n 1, 1) := by decide +kernel
theorem dX0_valueAt_13 : decode cX0_valueAt 13 = .ok (.iaload, 1) := by decide +kernel
theorem dX0_valueAt_14 : decode cX0_valueAt 14 = .ok (.goto 6, 3) := by decide +kernel
theorem dX0_valueAt_17 : decode cX0_valueAt 17 = .ok (.sipush (-10000), 3) := by decide +kernel
theorem dX0_valueAt_20 : decode cX0_valueAt 20 = .ok (.ireturn, 1) := by decide +kernel
set_option maxRecDepth 20000 in
theorem ggX0_holds_X0_valueOf : GoodIn wsX0_holds wsX0_valueOf := goodIn_r _ [5, 6, 7, 8, 4, 9, 10, 11, 12, 13, 14, 15, 16, 17, 18, 19, 20, 21, 22, 23, 24, 25, 26, 27, 28, 29, 30, 31, 32, 33, 34, 35, 36, 37, 38, 39, 40] (by decide +kernel) (by decide +kernel)
set_option maxRecDepth 20000 in
theorem gX0_holds_X0_valueOf : GoodIn wsX0_holds (wsV RX0 45 RX0 yX0_valueOf wsX0_valueOf) := goodIn_app (goodIn_of _ (by decide +kernel)) ggX0_holds_X0_valueOf
theorem dX0_holds_0 : decode cX0_holds 0 = .ok (.aload_n 0, 1) := by decide +kernel
theorem dX0_holds_1 : decode cX0_holds 1 = .ok (.iload_n 1, 1) := by decide +kernel
theorem dX0_holds_2 : decode cX0_holds 2 = .ok (.invokevirtual 45, 3) := by decide +kernel
theorem dX0_holds_5 : decode cX0_holds 5 = .ok (.sipush (-10000), 3) := by decide +kernel
theorem dX0_holds_8 : decode cX0_holds 8 = .ok (.if_icmp .eq 7, 3) := by decide +kernel
theorem dX0_holds_11 : decode cX0_holds 11 = .ok (.iconst 1, 1) := by decide +kernel
theorem dX0_holds_12 : decode cX0_holds 12 = .ok (.goto 4, 3) := by decide +kernel
theorem dX0_holds_15 : decode cX0_holds 15 = .ok (.iconst 0, 1) := by decide +kernel
theorem dX0_holds_16 : decode cX0_holds 16 = .ok (.ireturn, 1) := by decide +kernel
set_option maxRecDepth 20000 in
theorem ggX0_valueOf_X0_placeOf : GoodIn wsX0_valueOf wsX0_placeOf := goodIn_r _ [5, 6, 7, 8, 4, 9, 10, 11, 12, 13, 14, 15, 16, 30, 31, 32, 33, 34, 35, 36] (by decide +kernel) (by decide +kernel)
set_option maxRecDepth 20000 in
theorem gX0_valueOf_X0_placeOf : GoodIn wsX0_valueOf (wsV RX0 48 RX0 yX0_placeOf wsX0_placeOf) := goodIn_app (goodIn_of _ (by decide +kernel)) ggX0_valueOf_X0_placeOf
set_option maxRecDepth 20000 in
theorem ggX0_valueOf_X0_keyAt : GoodIn wsX0_valueOf wsX0_keyAt := goodIn_r _ [20, 16, 21, 22, 23, 4, 24, 15, 30, 31, 32, 33, 34, 35, 36] (by decide +kernel) (by decide +kernel)
set_option maxRecDepth 20000 in
theorem gX0_valueOf_X0_keyAt : GoodIn wsX0_valueOf (wsV RX0 51 RX0 yX0_keyAt wsX0_keyAt) := goodIn_app (goodIn_of _ (by decide +kernel)) ggX0_valueOf_X0_keyAt
set_option maxRecDepth 20000 in
theorem ggX0_valueOf_X0_valueAt : GoodIn wsX0_valueOf wsX0_valueAt := goodIn_r _ [28, 29, 21, 22, 23, 4, 24, 15, 30, 31, 32, 33, 34, 35, 36] (by decide +kernel) (by decide +kernel)
set_option maxRecDepth 20000 in
theorem gX0_valueOf_X0_valueAt : GoodIn wsX0_valueOf (wsV RX0 54 RX0 yX0_valueAt wsX0_valueAt) := goodIn_app (goodIn_of _ (by decide +kernel)) ggX0_valueOf_X0_valueAt
theorem dX0_valueOf_0 : decode cX0_valueOf 0 = .ok (.aload_n 0, 1) := by decide +kernel
theorem dX0_valueOf_1 : decode cX0_valueOf 1 = .ok (.iload_n 1, 1) := by decide +kernel
theorem dX0_valueOf_2 : decode cX0_valueOf 2 = .ok (.invokevirtual 48, 3) := by decide +kernel
theorem dX0_valueOf_5 : decode cX0_valueOf 5 = .ok (.istore_n 2, 1) := by decide +kernel
theorem dX0_valueOf_6 : decode cX0_valueOf 6 = .ok (.aload_n 0, 1) := by decide +kernel
theorem dX0_valueOf_7 : decode cX0_valueOf 7 = .ok (.iload_n 2, 1) := by decide +kernel
theorem dX0_valueOf_8 : decode cX0_valueOf 8 = .ok (.invokevirtual 51, 3) := by decide +kernel
theorem dX0_valueOf_11 : decode cX0_valueOf 11 = .ok (.iload_n 1, 1) := by decide +kernel
theorem dX0_valueOf_12 : decode cX0_valueOf 12 = .ok (.if_icmp .ne 11, 3) := by decide +kernel
theorem dX0_valueOf_15 : decode cX0_valueOf 15 = .ok (.aload_n 0, 1) := by decide +kernel
theorem dX0_valueOf_16 : decode cX0_valueOf 16 = .ok (.iload_n 2, 1) := by decide +kernel
theorem dX0_valueOf_17 : decode cX0_valueOf 17 = .ok (.invokevirtual 54, 3) := by decide +kernel
theorem dX0_valueOf_20 : decode cX0_valueOf 20 = .ok (.goto 6, 3) := by decide +kernel
theorem dX0_valueOf_23 : decode cX0_valueOf 23 = .ok (.sipush (-10000), 3) := by decide +kernel
theorem dX0_valueOf_26 : decode cX0_valueOf 26 = .ok (.ireturn, 1) := by decide +kernel
theorem dX0_firstPlaceOfValue_0 : decode cX0_firstPlaceOfValue 0 = .ok (.iconst 0, 1) := by decide +kernel
theorem dX0_firstPlaceOfValue_1 : decode cX0_firstPlaceOfValue 1 = .ok (.istore_n 2, 1) := by decide +kernel
theorem dX0_firstPlaceOfValue_2 : decode cX0_firstPlaceOfValue 2 = .ok (.iload_n 2, 1) := by decide +kernel
theorem dX0_firstPlaceOfValue_3 : decode cX0_firstPlaceOfValue 3 = .ok (.aload_n 0, 1) := by decide +kernel
theorem dX0_firstPlaceOfValue_4 : decode cX0_firstPlaceOfValue 4 = .ok (.getfield 25, 3) := by decide +kernel
theorem dX0_firstPlaceOfValue_7 : decode cX0_firstPlaceOfValue 7 = .ok (.if_icmp .ge 21, 3) := by decide +kernel
theorem dX0_firstPlaceOfValue_10 : decode cX0_firstPlaceOfValue 10 = .ok (.aload_n 0, 1) := by decide +kernel
theorem dX0_firstPlaceOfValue_11 : decode cX0_firstPlaceOfValue 11 = .ok (.getfield 19, 3) := by decide +kernel
theorem dX0_firstPlaceOfValue_14 : decode cX0_firstPlaceOfValue 14 = .ok (.iload_n 2, 1) := by decide +kernel
theorem dX0_firstPlaceOfValue_15 : decode cX0_firstPlaceOfValue 15 = .ok (.iaload, 1) := by decide +kernel
theorem dX0_firstPlaceOfValue_16 : decode cX0_firstPlaceOfValue 16 = .ok (.iload_n 1, 1) := by decide +kernel
theorem dX0_firstPlaceOfValue_17 : decode cX0_firstPlaceOfValue 17 = .ok (.if_icmp .ne 5, 3) := by decide +kernel
theorem dX0_firstPlaceOfValue_20 : decode cX0_firstPlaceOfValue 20 = .ok (.iload_n 2, 1) := by decide +kernel
theorem dX0_firstPlaceOfValue_21 : decode cX0_firstPlaceOfValue 21 = .ok (.ireturn, 1) := by decide +kernel
theorem dX0_firstPlaceOfValue_22 : decode cX0_firstPlaceOfValue 22 = .ok (.iinc 2 1, 3) := by decide +kernel
theorem dX0_firstPlaceOfValue_25 : decode cX0_firstPlaceOfValue 25 = .ok (.goto (-23), 3) := by decide +kernel
theorem dX0_firstPlaceOfValue_28 : decode cX0_firstPlaceOfValue 28 = .ok (.sipush (-10000), 3) := by decide +kernel
theorem dX0_firstPlaceOfValue_31 : decode cX0_firstPlaceOfValue 31 = .ok (.ireturn, 1) := by decide +kernel
theorem dX0_countOfValue_0 : decode cX0_countOfValue 0 = .ok (.iconst 0, 1) := by decide +kernel
theorem dX0_countOfValue_1 : decode cX0_countOfValue 1 = .ok (.istore_n 2, 1) := by decide +kernel
theorem dX0_countOfValue_2 : decode cX0_countOfValue 2 = .ok (.iconst 0, 1) := by decide +kernel
theorem dX0_countOfValue_3 : decode cX0_countOfValue 3 = .ok (.istore_n 3, 1) := by decide +kernel
theorem dX0_countOfValue_4 : decode cX0_countOfValue 4 = .ok (.iload_n 3, 1) := by decide +kernel
theorem dX0_countOfValue_5 : decode cX0_countOfValue 5 = .ok (.aload_n 0, 1) := by decide +kernel
theorem dX0_countOfValue_6 : decode cX0_countOfValue 6 = .ok (.getfield 25, 3) := by decide +kernel
theorem dX0_countOfValue_9 : decode cX0_countOfValue 9 = .ok (.if_icmp .ge 22, 3) := by decide +kernel
theorem dX0_countOfValue_12 : decode cX0_countOfValue 12 = .ok (.aload_n 0, 1) := by decide +kernel
theorem dX0_countOfValue_13 : decode cX0_countOfValue 13 = .ok (.getfield 19, 3) := by decide +kernel
theorem dX0_countOfValue_16 : decode cX0_countOfValue 16 = .ok (.iload_n 3, 1) := by decide +kernel
theorem dX0_countOfValue_17 : decode cX0_countOfValue 17 = .ok (.iaload, 1) := by decide +kernel
theorem dX0_countOfValue_18 : decode cX0_countOfValue 18 = .ok (.iload_n 1, 1) := by decide +kernel
theorem dX0_countOfValue_19 : decode cX0_countOfValue 19 = .ok (.if_icmp .ne 6, 3) := by decide +kernel
theorem dX0_countOfValue_22 : decode cX0_countOfValue 22 = .ok (.iinc 2 1, 3) := by decide +kernel
theorem dX0_countOfValue_25 : decode cX0_countOfValue 25 = .ok (.iinc 3 1, 3) := by decide +kernel
theorem dX0_countOfValue_28 : decode cX0_countOfValue 28 = .ok (.goto (-24), 3) := by decide +kernel
theorem dX0_countOfValue_31 : decode cX0_countOfValue 31 = .ok (.iload_n 2, 1) := by decide +kernel
theorem dX0_countOfValue_32 : decode cX0_countOfValue 32 = .ok (.ireturn, 1) := by decide +kernel
set_option maxRecDepth 20000 in
theorem ggX0_unlikeValues_X0_firstPlaceOfValue : GoodIn wsX0_unlikeValues wsX0_firstPlaceOfValue := goodIn_r _ [7, 1, 2, 8, 9, 10, 11, 12, 13, 14] (by decide +kernel) (by decide +kernel)
set_option maxRecDepth 20000 in
theorem gX0_unlikeValues_X0_firstPlaceOfValue : GoodIn wsX0_unlikeValues (wsV RX0 57 RX0 yX0_firstPlaceOfValue wsX0_firstPlaceOfValue) := goodIn_app (goodIn_of _ (by decide +kernel)) ggX0_unlikeValues_X0_firstPlaceOfValue
theorem dX0_unlikeValues_0 : decode cX0_unlikeValues 0 = .ok (.iconst 0, 1) := by decide +kernel
theorem dX0_unlikeValues_1 : decode cX0_unlikeValues 1 = .ok (.istore_n 1, 1) := by decide +kernel
theorem dX0_unlikeValues_2 : decode cX0_unlikeValues 2 = .ok (.iconst 0, 1) := by decide +kernel
theorem dX0_unlikeValues_3 : decode cX0_unlikeValues 3 = .ok (.istore_n 2, 1) := by decide +kernel
theorem dX0_unlikeValues_4 : decode cX0_unlikeValues 4 = .ok (.iload_n 2, 1) := by decide +kernel
theorem dX0_unlikeValues_5 : decode cX0_unlikeValues 5 = .ok (.aload_n 0, 1) := by decide +kernel
theorem dX0_unlikeValues_6 : decode cX0_unlikeValues 6 = .ok (.getfield 25, 3) := by decide +kernel
theorem dX0_unlikeValues_9 : decode cX0_unlikeValues 9 = .ok (.if_icmp .ge 26, 3) := by decide +kernel
theorem dX0_unlikeValues_12 : decode cX0_unlikeValues 12 = .ok (.aload_n 0, 1) := by decide +kernel
theorem dX0_unlikeValues_13 : decode cX0_unlikeValues 13 = .ok (.aload_n 0, 1) := by decide +kernel
theorem dX0_unlikeValues_14 : decode cX0_unlikeValues 14 = .ok (.getfield 19, 3) := by decide +kernel
theorem dX0_unlikeValues_17 : decode cX0_unlikeValues 17 = .ok (.iload_n 2, 1) := by decide +kernel
theorem dX0_unlikeValues_18 : decode cX0_unlikeValues 18 = .ok (.iaload, 1) := by decide +kernel
theorem dX0_unlikeValues_19 : decode cX0_unlikeValues 19 = .ok (.invokevirtual 57, 3) := by decide +kernel
theorem dX0_unlikeValues_22 : decode cX0_unlikeValues 22 = .ok (.iload_n 2, 1) := by decide +kernel
theorem dX0_unlikeValues_23 : decode cX0_unlikeValues 23 = .ok (.if_icmp .ne 6, 3) := by decide +kernel
theorem dX0_unlikeValues_26 : decode cX0_unlikeValues 26 = .ok (.iinc 1 1, 3) := by decide +kernel
theorem dX0_unlikeValues_29 : decode cX0_unlikeValues 29 = .ok (.iinc 2 1, 3) := by decide +kernel
theorem dX0_unlikeValues_32 : decode cX0_unlikeValues 32 = .ok (.goto (-28), 3) := by decide +kernel
theorem dX0_unlikeValues_35 : decode cX0_unlikeValues 35 = .ok (.iload_n 1, 1) := by decide +kernel
theorem dX0_unlikeValues_36 : decode cX0_unlikeValues 36 = .ok (.ireturn, 1) := by decide +kernel
set_option maxRecDepth 20000 in
theorem ggX0_sum_X0_isPlace : GoodIn wsX0_sum wsX0_isPlace := goodIn_r _ [6, 7, 8, 9, 10, 11, 12, 13, 14] (by decide +kernel) (by decide +kernel)
set_option maxRecDepth 20000 in
theorem gX0_sum_X0_isPlace : GoodIn wsX0_sum (wsV RX0 41 RX0 yX0_isPlace wsX0_isPlace) := goodIn_app (goodIn_of _ (by decide +kernel)) ggX0_sum_X0_isPlace
theorem dX0_sum_0 : decode cX0_sum 0 = .ok (.iconst 0, 1) := by decide +kernel
theorem dX0_sum_1 : decode cX0_sum 1 = .ok (.istore_n 3, 1) := by decide +kernel
theorem dX0_sum_2 : decode cX0_sum 2 = .ok (.iload_n 1, 1) := by decide +kernel
theorem dX0_sum_3 : decode cX0_sum 3 = .ok (.istore 4, 2) := by decide +kernel
theorem dX0_sum_5 : decode cX0_sum 5 = .ok (.iload 4, 2) := by decide +kernel
theorem dX0_sum_7 : decode cX0_sum 7 = .ok (.iload_n 2, 1) := by decide +kernel
theorem dX0_sum_8 : decode cX0_sum 8 = .ok (.if_icmp .ge 28, 3) := by decide +kernel
theorem dX0_sum_11 : decode cX0_sum 11 = .ok (.aload_n 0, 1) := by decide +kernel
theorem dX0_sum_12 : decode cX0_sum 12 = .ok (.iload 4, 2) := by decide +kernel
theorem dX0_sum_14 : decode cX0_sum 14 = .ok (.invokevirtual 41, 3) := by decide +kernel
theorem dX0_sum_17 : decode cX0_sum 17 = .ok (.ifCond .eq 13, 3) := by decide +kernel
theorem dX0_sum_20 : decode cX0_sum 20 = .ok (.iload_n 3, 1) := by decide +kernel
theorem dX0_sum_21 : decode cX0_sum 21 = .ok (.aload_n 0, 1) := by decide +kernel
theorem dX0_sum_22 : decode cX0_sum 22 = .ok (.getfield 19, 3) := by decide +kernel
theorem dX0_sum_25 : decode cX0_sum 25 = .ok (.iload 4, 2) := by decide +kernel
theorem dX0_sum_27 : decode cX0_sum 27 = .ok (.iaload, 1) := by decide +kernel
theorem dX0_sum_28 : decode cX0_sum 28 = .ok (.iadd, 1) := by decide +kernel
theorem dX0_sum_29 : decode cX0_sum 29 = .ok (.istore_n 3, 1) := by decide +kernel
theorem dX0_sum_30 : decode cX0_sum 30 = .ok (.iinc 4 1, 3) := by decide +kernel
theorem dX0_sum_33 : decode cX0_sum 33 = .ok (.goto (-28), 3) := by decide +kernel
theorem dX0_sum_36 : decode cX0_sum 36 = .ok (.iload_n 3, 1) := by decide +kernel
theorem dX0_sum_37 : decode cX0_sum 37 = .ok (.ireturn, 1) := by decide +kernel
set_option maxRecDepth 20000 in
theorem ggX0_closest_X0_placeOf : GoodIn wsX0_closest wsX0_placeOf := goodIn_r _ [12, 13, 14, 15, 11, 16, 17, 18, 19, 20, 21, 22, 23, 36, 37, 38, 39, 40, 41, 42] (by decide +kernel) (by decide +kernel)
set_option maxRecDepth 20000 in
theorem gX0_closest_X0_placeOf : GoodIn wsX0_closest (wsV RX0 48 RX0 yX0_placeOf wsX0_placeOf) := goodIn_app (goodIn_of _ (by decide +kernel)) ggX0_closest_X0_placeOf
set_option maxRecDepth 20000 in
theorem ggX0_closest_X0_keyAt : GoodIn wsX0_closest wsX0_keyAt := goodIn_r _ [27, 23, 28, 29, 30, 11, 31, 22, 36, 37, 38, 39, 40, 41, 42] (by decide +kernel) (by decide +kernel)
set_option maxRecDepth 20000 in
theorem gX0_closest_X0_keyAt : GoodIn wsX0_closest (wsV RX0 51 RX0 yX0_keyAt wsX0_keyAt) := goodIn_app (goodIn_of _ (by decide +kernel)) ggX0_closest_X0_keyAt
set_option maxRecDepth 20000 in
theorem ggX0_closest_X0_placeBehind : GoodIn wsX0_closest wsX0_placeBehind := goodIn_r _ [35, 13, 14, 15, 11, 16, 17, 18, 19, 20, 21, 22, 23, 36, 37, 38, 39, 40, 41, 42] (by decide +kernel) (by decide +kernel)
set_option maxRecDepth 20000 in
theorem gX0_closest_X0_placeBehind : GoodIn wsX0_closest (wsV RX0 66 RX0 yX0_placeBehind wsX0_placeBehind) := goodIn_app (goodIn_of _ (by decide +kernel)) ggX0_closest_X0_placeBehind
theorem dX0_closest_0 : decode cX0_closest 0 = .ok (.aload_n 0, 1) := by decide +kernel
theorem dX0_closest_1 : decode cX0_closest 1 = .ok (.iload_n 1, 1) := by decide +kernel
theorem dX0_closest_2 : decode cX0_closest 2 = .ok (.invokevirtual 48, 3) := by decide +kernel
theorem dX0_closest_5 : decode cX0_closest 5 = .ok (.istore 5, 2) := by decide +kernel
theorem dX0_closest_7 : decode cX0_closest 7 = .ok (.aload_n 0, 1) := by decide +kernel
theorem dX0_closest_8 : decode cX0_closest 8 = .ok (.iload 5, 2) := by decide +kernel
theorem dX0_closest_10 : decode cX0_closest 10 = .ok (.invokevirtual 51, 3) := by decide +kernel
theorem dX0_closest_13 : decode cX0_closest 13 = .ok (.iload_n 1, 1) := by decide +kernel
theorem dX0_closest_14 : decode cX0_closest 14 = .ok (.if_icmp .ne 20, 3) := by decide +kernel
theorem dX0_closest_17 : decode cX0_closest 17 = .ok (.iload 5, 2) := by decide +kernel
theorem dX0_closest_19 : decode cX0_closest 19 = .ok (.iload_n 3, 1) := by decide +kernel
theorem dX0_closest_20 : decode cX0_closest 20 = .ok (.if_icmp .lt 14, 3) := by decide +kernel
theorem dX0_closest_23 : decode cX0_closest 23 = .ok (.iload 5, 2) := by decide +kernel
theorem dX0_closest_25 : decode cX0_closest 25 = .ok (.iload 4, 2) := by decide +kernel
theorem dX0_closest_27 : decode cX0_closest 27 = .ok (.if_icmp .ge 7, 3) := by decide +kernel
theorem dX0_closest_30 : decode cX0_closest 30 = .ok (.iconst 1, 1) := by decide +kernel
theorem dX0_closest_31 : decode cX0_closest 31 = .ok (.goto 4, 3) := by decide +kernel
theorem dX0_closest_34 : decode cX0_closest 34 = .ok (.iconst 0, 1) := by decide +kernel
theorem dX0_closest_35 : decode cX0_closest 35 = .ok (.istore 6, 2) := by decide +kernel
theorem dX0_closest_37 : decode cX0_closest 37 = .ok (.iload 6, 2) := by decide +kernel
theorem dX0_closest_39 : decode cX0_closest 39 = .ok (.ifCond .eq 15, 3) := by decide +kernel
theorem dX0_closest_42 : decode cX0_closest 42 = .ok (.iload_n 2, 1) := by decide +kernel
theorem dX0_closest_43 : decode cX0_closest 43 = .ok (.iconst 1, 1) := by decide +kernel
theorem dX0_closest_44 : decode cX0_closest 44 = .ok (.if_icmp .eq 8, 3) := by decide +kernel
theorem dX0_closest_47 : decode cX0_closest 47 = .ok (.iload_n 2, 1) := by decide +kernel
theorem dX0_closest_48 : decode cX0_closest 48 = .ok (.iconst 2, 1) := by decide +kernel
theorem dX0_closest_49 : decode cX0_closest 49 = .ok (.if_icmp .ne 5, 3) := by decide +kernel
theorem dX0_closest_52 : decode cX0_closest 52 = .ok (.iload_n 1, 1) := by decide +kernel
theorem dX0_closest_53 : decode cX0_closest 53 = .ok (.ireturn, 1) := by decide +kernel
theorem dX0_closest_54 : decode cX0_closest 54 = .ok (.iload_n 2, 1) := by decide +kernel
theorem dX0_closest_55 : decode cX0_closest 55 = .ok (.ifCond .eq 8, 3) := by decide +kernel
theorem dX0_closest_58 : decode cX0_closest 58 = .ok (.iload_n 2, 1) := by decide +kernel
theorem dX0_closest_59 : decode cX0_closest 59 = .ok (.iconst 1, 1) := by decide +kernel
theorem dX0_closest_60 : decode cX0_closest 60 = .ok (.if_icmp .ne 33, 3) := by decide +kernel
theorem dX0_closest_63 : decode cX0_closest 63 = .ok (.iload 5, 2) := by decide +kernel
theorem dX0_closest_65 : decode cX0_closest 65 = .ok (.iload 4, 2) := by decide +kernel
theorem dX0_closest_67 : decode cX0_closest 67 = .ok (.invokestatic 60, 3) := by decide +kernel
theorem dX0_closest_70 : decode cX0_closest 70 = .ok (.iconst 1, 1) := by decide +kernel
theorem dX0_closest_71 : decode cX0_closest 71 = .ok (.isub, 1) := by decide +kernel
theorem dX0_closest_72 : decode cX0_closest 72 = .ok (.istore 7, 2) := by decide +kernel
theorem dX0_closest_74 : decode cX0_closest 74 = .ok (.iload 7, 2) := by decide +kernel
theorem dX0_closest_76 : decode cX0_closest 76 = .ok (.iload_n 3, 1) := by decide +kernel
theorem dX0_closest_77 : decode cX0_closest 77 = .ok (.if_icmp .lt 12, 3) := by decide +kernel
theorem dX0_closest_80 : decode cX0_closest 80 = .ok (.aload_n 0, 1) := by decide +kernel
theorem dX0_closest_81 : decode cX0_closest 81 = .ok (.iload 7, 2) := by decide +kernel
theorem dX0_closest_83 : decode cX0_closest 83 = .ok (.invokevirtual 51, 3) := by decide +kernel
theorem dX0_closest_86 : decode cX0_closest 86 = .ok (.goto 6, 3) := by decide +kernel
theorem dX0_closest_89 : decode cX0_closest 89 = .ok (.sipush (-10000), 3) := by decide +kernel
theorem dX0_closest_92 : decode cX0_closest 92 = .ok (.ireturn, 1) := by decide +kernel
theorem dX0_closest_93 : decode cX0_closest 93 = .ok (.aload_n 0, 1) := by decide +kernel
theorem dX0_closest_94 : decode cX0_closest 94 = .ok (.iload_n 1, 1) := by decide +kernel
theorem dX0_closest_95 : decode cX0_closest 95 = .ok (.invokevirtual 66, 3) := by decide +kernel
theorem dX0_closest_98 : decode cX0_closest 98 = .ok (.iload_n 3, 1) := by decide +kernel
theorem dX0_closest_99 : decode cX0_closest 99 = .ok (.invokestatic 69, 3) := by decide +kernel
theorem dX0_closest_102 : decode cX0_closest 102 = .ok (.istore 7, 2) := by decide +kernel
theorem dX0_closest_104 : decode cX0_closest 104 = .ok (.iload 7, 2) := by decide +kernel
theorem dX0_closest_106 : decode cX0_closest 106 = .ok (.iload 4, 2) := by decide +kernel
theorem dX0_closest_108 : decode cX0_closest 108 = .ok (.if_icmp .ge 12, 3) := by decide +kernel
theorem dX0_closest_111 : decode cX0_closest 111 = .ok (.aload_n 0, 1) := by decide +kernel
theorem dX0_closest_112 : decode cX0_closest 112 = .ok (.iload 7, 2) := by decide +kernel
theorem dX0_closest_114 : decode cX0_closest 114 = .ok (.invokevirtual 51, 3) := by decide +kernel
theorem dX0_closest_117 : decode cX0_closest 117 = .ok (.goto 6, 3) := by decide +kernel
theorem dX0_closest_120 : decode cX0_closest 120 = .ok (.sipush (-10000), 3) := by decide +kernel
theorem dX0_closest_123 : decode cX0_closest 123 = .ok (.ireturn, 1) := by decide +kernel
set_option maxRecDepth 20000 in
theorem ggX0_enter_X0_placeOf : GoodIn wsX0_enter wsX0_placeOf := goodIn_r _ [7, 8, 9, 10, 6, 11, 12, 13, 14, 15, 16, 17, 1, 31, 32, 33, 34, 35, 36, 37] (by decide +kernel) (by decide +kernel)
set_option maxRecDepth 20000 in
theorem gX0_enter_X0_placeOf : GoodIn wsX0_enter (wsV RX0 48 RX0 yX0_placeOf wsX0_placeOf) := goodIn_app (goodIn_of _ (by decide +kernel)) ggX0_enter_X0_placeOf
set_option maxRecDepth 20000 in
theorem ggX0_enter_X0_isPlace : GoodIn wsX0_enter wsX0_isPlace := goodIn_r _ [21, 17, 31, 32, 33, 34, 35, 36, 37] (by decide +kernel) (by decide +kernel)
set_option maxRecDepth 20000 in
theorem gX0_enter_X0_isPlace : GoodIn wsX0_enter (wsV RX0 41 RX0 yX0_isPlace wsX0_isPlace) := goodIn_app (goodIn_of _ (by decide +kernel)) ggX0_enter_X0_isPlace
set_option maxRecDepth 20000 in
theorem ggX0_enter_X0_insert : GoodIn wsX0_enter wsX0_insert := goodIn_r _ [25, 17, 1, 26, 27, 28, 29, 2, 30, 31, 32, 33, 34, 35, 36, 37] (by decide +kernel) (by decide +kernel)
set_option maxRecDepth 20000 in
theorem gX0_enter_X0_insert : GoodIn wsX0_enter (wsV RX0 72 RX0 yX0_insert wsX0_insert) := goodIn_app (goodIn_of _ (by decide +kernel)) ggX0_enter_X0_insert
theorem dX0_enter_0 : decode cX0_enter 0 = .ok (.aload_n 0, 1) := by decide +kernel
theorem dX0_enter_1 : decode cX0_enter 1 = .ok (.iload_n 1, 1) := by decide +kernel
theorem dX0_enter_2 : decode cX0_enter 2 = .ok (.invokevirtual 48, 3) := by decide +kernel
theorem dX0_enter_5 : decode cX0_enter 5 = .ok (.istore_n 3, 1) := by decide +kernel
theorem dX0_enter_6 : decode cX0_enter 6 = .ok (.aload_n 0, 1) := by decide +kernel
theorem dX0_enter_7 : decode cX0_enter 7 = .ok (.iload_n 3, 1) := by decide +kernel
theorem dX0_enter_8 : decode cX0_enter 8 = .ok (.invokevirtual 41, 3) := by decide +kernel
theorem dX0_enter_11 : decode cX0_enter 11 = .ok (.ifCond .eq 31, 3) := by decide +kernel
theorem dX0_enter_14 : decode cX0_enter 14 = .ok (.aload_n 0, 1) := by decide +kernel
theorem dX0_enter_15 : decode cX0_enter 15 = .ok (.getfield 15, 3) := by decide +kernel
theorem dX0_enter_18 : decode cX0_enter 18 = .ok (.iload_n 3, 1) := by decide +kernel
theorem dX0_enter_19 : decode cX0_enter 19 = .ok (.iaload, 1) := by decide +kernel
theorem dX0_enter_20 : decode cX0_enter 20 = .ok (.iload_n 1, 1) := by decide +kernel
theorem dX0_enter_21 : decode cX0_enter 21 = .ok (.if_icmp .ne 21, 3) := by decide +kernel
theorem dX0_enter_24 : decode cX0_enter 24 = .ok (.aload_n 0, 1) := by decide +kernel
theorem dX0_enter_25 : decode cX0_enter 25 = .ok (.getfield 19, 3) := by decide +kernel
theorem dX0_enter_28 : decode cX0_enter 28 = .ok (.iload_n 3, 1) := by decide +kernel
theorem dX0_enter_29 : decode cX0_enter 29 = .ok (.iaload, 1) := by decide +kernel
theorem dX0_enter_30 : decode cX0_enter 30 = .ok (.istore 4, 2) := by decide +kernel
theorem dX0_enter_32 : decode cX0_enter 32 = .ok (.aload_n 0, 1) := by decide +kernel
theorem dX0_enter_33 : decode cX0_enter 33 = .ok (.getfield 19, 3) := by decide +kernel
theorem dX0_enter_36 : decode cX0_enter 36 = .ok (.iload_n 3, 1) := by decide +kernel
theorem dX0_enter_37 : decode cX0_enter 37 = .ok (.iload_n 2, 1) := by decide +kernel
theorem dX0_enter_38 : decode cX0_enter 38 = .ok (.iastore, 1) := by decide +kernel
theorem dX0_enter_39 : decode cX0_enter 39 = .ok (.iload 4, 2) := by decide +kernel
theorem dX0_enter_41 : decode cX0_enter 41 = .ok (.ireturn, 1) := by decide +kernel
theorem dX0_enter_42 : decode cX0_enter 42 = .ok (.aload_n 0, 1) := by decide +kernel
theorem dX0_enter_43 : decode cX0_enter 43 = .ok (.iload_n 3, 1) := by decide +kernel
theorem dX0_enter_44 : decode cX0_enter 44 = .ok (.iload_n 1, 1) := by decide +kernel
theorem dX0_enter_45 : decode cX0_enter 45 = .ok (.iload_n 2, 1) := by decide +kernel
theorem dX0_enter_46 : decode cX0_enter 46 = .ok (.invokevirtual 72, 3) := by decide +kernel
theorem dX0_enter_49 : decode cX0_enter 49 = .ok (.sipush (-10000), 3) := by decide +kernel
theorem dX0_enter_52 : decode cX0_enter 52 = .ok (.ireturn, 1) := by decide +kernel
theorem dX0_insert_0 : decode cX0_insert 0 = .ok (.iload_n 1, 1) := by decide +kernel
theorem dX0_insert_1 : decode cX0_insert 1 = .ok (.ifCond .lt 23, 3) := by decide +kernel
theorem dX0_insert_4 : decode cX0_insert 4 = .ok (.iload_n 1, 1) := by decide +kernel
theorem dX0_insert_5 : decode cX0_insert 5 = .ok (.aload_n 0, 1) := by decide +kernel
theorem dX0_insert_6 : decode cX0_insert 6 = .ok (.getfield 25, 3) := by decide +kernel
theorem dX0_insert_9 : decode cX0_insert 9 = .ok (.if_icmp .gt 15, 3) := by decide +kernel
theorem dX0_insert_12 : decode cX0_insert 12 = .ok (.aload_n 0, 1) := by decide +kernel
theorem dX0_insert_13 : decode cX0_insert 13 = .ok (.getfield 25, 3) := by decide +kernel
theorem dX0_insert_16 : decode cX0_insert 16 = .ok (.aload_n 0, 1) := by decide +kernel
theorem dX0_insert_17 : decode cX0_insert 17 = .ok (.getfield 15, 3) := by decide +kernel
theorem dX0_insert_20 : decode cX0_insert 20 = .ok (.arraylength, 1) := by decide +kernel
theorem dX0_insert_21 : decode cX0_insert 21 = .ok (.if_icmp .lt 4, 3) := by decide +kernel
theorem dX0_insert_24 : decode cX0_insert 24 = .ok (.return_, 1) := by decide +kernel
theorem dX0_insert_25 : decode cX0_insert 25 = .ok (.aload_n 0, 1) := by decide +kernel
theorem dX0_insert_26 : decode cX0_insert 26 = .ok (.getfield 15, 3) := by decide +kernel
theorem dX0_insert_29 : decode cX0_insert 29 = .ok (.iload_n 1, 1) := by decide +kernel
theorem dX0_insert_30 : decode cX0_insert 30 = .ok (.aload_n 0, 1) := by decide +kernel
theorem dX0_insert_31 : decode cX0_insert 31 = .ok (.getfield 15, 3) := by decide +kernel
theorem dX0_insert_34 : decode cX0_insert 34 = .ok (.iload_n 1, 1) := by decide +kernel
theorem dX0_insert_35 : decode cX0_insert 35 = .ok (.iconst 1, 1) := by decide +kernel
theorem dX0_insert_36 : decode cX0_insert 36 = .ok (.iadd, 1) := by decide +kernel
theorem dX0_insert_37 : decode cX0_insert 37 = .ok (.aload_n 0, 1) := by decide +kernel
theorem dX0_insert_38 : decode cX0_insert 38 = .ok (.getfield 25, 3) := by decide +kernel
theorem dX0_insert_41 : decode cX0_insert 41 = .ok (.iload_n 1, 1) := by decide +kernel
theorem dX0_insert_42 : decode cX0_insert 42 = .ok (.isub, 1) := by decide +kernel
theorem dX0_insert_43 : decode cX0_insert 43 = .ok (.invokestatic 76, 3) := by decide +kernel
theorem dX0_insert_46 : decode cX0_insert 46 = .ok (.aload_n 0, 1) := by decide +kernel
theorem dX0_insert_47 : decode cX0_insert 47 = .ok (.getfield 19, 3) := by decide +kernel
theorem dX0_insert_50 : decode cX0_insert 50 = .ok (.iload_n 1, 1) := by decide +kernel
theorem dX0_insert_51 : decode cX0_insert 51 = .ok (.aload_n 0, 1) := by decide +kernel
theorem dX0_insert_52 : decode cX0_insert 52 = .ok (.getfield 19, 3) := by decide +kernel
theorem dX0_insert_55 : decode cX0_insert 55 = .ok (.iload_n 1, 1) := by decide +kernel
theorem dX0_insert_56 : decode cX0_insert 56 = .ok (.iconst 1, 1) := by decide +kernel
theorem dX0_insert_57 : decode cX0_insert 57 = .ok (.iadd, 1) := by decide +kernel
theorem dX0_insert_58 : decode cX0_insert 58 = .ok (.aload_n 0, 1) := by decide +kernel
theorem dX0_insert_59 : decode cX0_insert 59 = .ok (.getfield 25, 3) := by decide +kernel
theorem dX0_insert_62 : decode cX0_insert 62 = .ok (.iload_n 1, 1) := by decide +kernel
theorem dX0_insert_63 : decode cX0_insert 63 = .ok (.isub, 1) := by decide +kernel
theorem dX0_insert_64 : decode cX0_insert 64 = .ok (.invokestatic 76, 3) := by decide +kernel
theorem dX0_insert_67 : decode cX0_insert 67 = .ok (.aload_n 0, 1) := by decide +kernel
theorem dX0_insert_68 : decode cX0_insert 68 = .ok (.getfield 15, 3) := by decide +kernel
theorem dX0_insert_71 : decode cX0_insert 71 = .ok (.iload_n 1, 1) := by decide +kernel
theorem dX0_insert_72 : decode cX0_insert 72 = .ok (.iload_n 2, 1) := by decide +kernel
theorem dX0_insert_73 : decode cX0_insert 73 = .ok (.iastore, 1) := by decide +kernel
theorem dX0_insert_74 : decode cX0_insert 74 = .ok (.aload_n 0, 1) := by decide +kernel
theorem dX0_insert_75 : decode cX0_insert 75 = .ok (.getfield 19, 3) := by decide +kernel
theorem dX0_insert_78 : decode cX0_insert 78 = .ok (.iload_n 1, 1) := by decide +kernel
theorem dX0_insert_79 : decode cX0_insert 79 = .ok (.iload_n 3, 1) := by decide +kernel
theorem dX0_insert_80 : decode cX0_insert 80 = .ok (.iastore, 1) := by decide +kernel
theorem dX0_insert_81 : decode cX0_insert 81 = .ok (.aload_n 0, 1) := by decide +kernel
theorem dX0_insert_82 : decode cX0_insert 82 = .ok (.dup, 1) := by decide +kernel
theorem dX0_insert_83 : decode cX0_insert 83 = .ok (.getfield 25, 3) := by decide +kernel
theorem dX0_insert_86 : decode cX0_insert 86 = .ok (.iconst 1, 1) := by decide +kernel
theorem dX0_insert_87 : decode cX0_insert 87 = .ok (.iadd, 1) := by decide +kernel
theorem dX0_insert_88 : decode cX0_insert 88 = .ok (.putfield 25, 3) := by decide +kernel
theorem dX0_insert_91 : decode cX0_insert 91 = .ok (.aload_n 0, 1) := by decide +kernel
theorem dX0_insert_92 : decode cX0_insert 92 = .ok (.dup, 1) := by decide +kernel
theorem dX0_insert_93 : decode cX0_insert 93 = .ok (.getfield 31, 3) := by decide +kernel
theorem dX0_insert_96 : decode cX0_insert 96 = .ok (.iconst 1, 1) := by decide +kernel
theorem dX0_insert_97 : decode cX0_insert 97 = .ok (.iadd, 1) := by decide +kernel
theorem dX0_insert_98 : decode cX0_insert 98 = .ok (.putfield 31, 3) := by decide +kernel
theorem dX0_insert_101 : decode cX0_insert 101 = .ok (.return_, 1) := by decide +kernel
set_option maxRecDepth 20000 in
theorem ggX0_removeKey_X0_placeOf : GoodIn wsX0_removeKey wsX0_placeOf := goodIn_r _ [5, 6, 7, 8, 4, 9, 10, 11, 12, 13, 14, 15, 16, 39, 40, 41, 42, 43, 44, 45] (by decide +kernel) (by decide +kernel)
set_option maxRecDepth 20000 in
theorem gX0_removeKey_X0_placeOf : GoodIn wsX0_removeKey (wsV RX0 48 RX0 yX0_placeOf wsX0_placeOf) := goodIn_app (goodIn_of _ (by decide +kernel)) ggX0_removeKey_X0_placeOf
set_option maxRecDepth 20000 in
theorem ggX0_removeKey_X0_keyAt : GoodIn wsX0_removeKey wsX0_keyAt := goodIn_r _ [20, 16, 21, 22, 23, 4, 24, 15, 39, 40, 41, 42, 43, 44, 45] (by decide +kernel) (by decide +kernel)
set_option maxRecDepth 20000 in
theorem gX0_removeKey_X0_keyAt : GoodIn wsX0_removeKey (wsV RX0 51 RX0 yX0_keyAt wsX0_keyAt) := goodIn_app (goodIn_of _ (by decide +kernel)) ggX0_removeKey_X0_keyAt
set_option maxRecDepth 20000 in
theorem ggX0_removeKey_X0_valueAt : GoodIn wsX0_removeKey wsX0_valueAt := goodIn_r _ [28, 29, 21, 22, 23, 4, 24, 15, 39, 40, 41, 42, 43, 44, 45] (by decide +kernel) (by decide +kernel)
set_option maxRecDepth 20000 in
theorem gX0_removeKey_X0_valueAt : GoodIn wsX0_removeKey (wsV RX0 54 RX0 yX0_valueAt wsX0_valueAt) := goodIn_app (goodIn_of _ (by decide +kernel)) ggX0_removeKey_X0_valueAt
set_option maxRecDepth 20000 in
theorem ggX0_removeKey_X0_removeRange : GoodIn wsX0_removeKey wsX0_removeRange := goodIn_r _ [33, 15, 16, 34, 35, 36, 37, 29, 38, 39, 40, 41, 42, 43, 44, 45] (by decide +kernel) (by decide +kernel)
set_option maxRecDepth 20000 in
theorem gX0_removeKey_X0_removeRange : GoodIn wsX0_removeKey (wsV RX0 82 RX0 yX0_removeRange wsX0_removeRange) := goodIn_app (goodIn_of _ (by decide +kernel)) ggX0_removeKey_X0_removeRange
theorem dX0_removeKey_0 : decode cX0_removeKey 0 = .ok (.aload_n 0, 1) := by decide +kernel
theorem dX0_removeKey_1 : decode cX0_removeKey 1 = .ok (.iload_n 1, 1) := by decide +kernel
theorem dX0_removeKey_2 : decode cX0_removeKey 2 = .ok (.invokevirtual 48, 3) := by decide +kernel
theorem dX0_removeKey_5 : decode cX0_removeKey 5 = .ok (.istore_n 2, 1) := by decide +kernel
theorem dX0_removeKey_6 : decode cX0_removeKey 6 = .ok (.aload_n 0, 1) := by decide +kernel
theorem dX0_removeKey_7 : decode cX0_removeKey 7 = .ok (.iload_n 2, 1) := by decide +kernel
theorem dX0_removeKey_8 : decode cX0_removeKey 8 = .ok (.invokevirtual 51, 3) := by decide +kernel
theorem dX0_removeKey_11 : decode cX0_removeKey 11 = .ok (.iload_n 1, 1) := by decide +kernel
theorem dX0_removeKey_12 : decode cX0_removeKey 12 = .ok (.if_icmp .eq 7, 3) := by decide +kernel
theorem dX0_removeKey_15 : decode cX0_removeKey 15 = .ok (.sipush (-10000), 3) := by decide +kernel
theorem dX0_removeKey_18 : decode cX0_removeKey 18 = .ok (.ireturn, 1) := by decide +kernel
theorem dX0_removeKey_19 : decode cX0_removeKey 19 = .ok (.aload_n 0, 1) := by decide +kernel
theorem dX0_removeKey_20 : decode cX0_removeKey 20 = .ok (.iload_n 2, 1) := by decide +kernel
theorem dX0_removeKey_21 : decode cX0_removeKey 21 = .ok (.invokevirtual 54, 3) := by decide +kernel
theorem dX0_removeKey_24 : decode cX0_removeKey 24 = .ok (.istore_n 3, 1) := by decide +kernel
theorem dX0_removeKey_25 : decode cX0_removeKey 25 = .ok (.aload_n 0, 1) := by decide +kernel
theorem dX0_removeKey_26 : decode cX0_removeKey 26 = .ok (.iload_n 2, 1) := by decide +kernel
theorem dX0_removeKey_27 : decode cX0_removeKey 27 = .ok (.iload_n 2, 1) := by decide +kernel
theorem dX0_removeKey_28 : decode cX0_removeKey 28 = .ok (.iconst 1, 1) := by decide +kernel
theorem dX0_removeKey_29 : decode cX0_removeKey 29 = .ok (.iadd, 1) := by decide +kernel
theorem dX0_removeKey_30 : decode cX0_removeKey 30 = .ok (.invokevirtual 82, 3) := by decide +kernel
theorem dX0_removeKey_33 : decode cX0_removeKey 33 = .ok (.pop, 1) := by decide +kernel
theorem dX0_removeKey_34 : decode cX0_removeKey 34 = .ok (.iload_n 3, 1) := by decide +kernel
theorem dX0_removeKey_35 : decode cX0_removeKey 35 = .ok (.ireturn, 1) := by decide +kernel
set_option maxRecDepth 20000 in
theorem ggX0_removeAt_X0_keyAt : GoodIn wsX0_removeAt wsX0_keyAt := goodIn_r _ [5, 6, 7, 8, 9, 4, 10, 11, 22, 23, 24, 25, 26, 27, 28] (by decide +kernel) (by decide +kernel)
set_option maxRecDepth 20000 in
theorem gX0_removeAt_X0_keyAt : GoodIn wsX0_removeAt (wsV RX0 51 RX0 yX0_keyAt wsX0_keyAt) := goodIn_app (goodIn_of _ (by decide +kernel)) ggX0_removeAt_X0_keyAt
set_option maxRecDepth 20000 in
theorem ggX0_removeAt_X0_removeRange : GoodIn wsX0_removeAt wsX0_removeRange := goodIn_r _ [15, 11, 6, 16, 17, 18, 19, 20, 21, 22, 23, 24, 25, 26, 27, 28] (by decide +kernel) (by decide +kernel)
set_option maxRecDepth 20000 in
theorem gX0_removeAt_X0_removeRange : GoodIn wsX0_removeAt (wsV RX0 82 RX0 yX0_removeRange wsX0_removeRange) := goodIn_app (goodIn_of _ (by decide +kernel)) ggX0_removeAt_X0_removeRange
theorem dX0_removeAt_0 : decode cX0_removeAt 0 = .ok (.aload_n 0, 1) := by decide +kernel
theorem dX0_removeAt_1 : decode cX0_removeAt 1 = .ok (.iload_n 1, 1) := by decide +kernel
theorem dX0_removeAt_2 : decode cX0_removeAt 2 = .ok (.invokevirtual 51, 3) := by decide +kernel
theorem dX0_removeAt_5 : decode cX0_removeAt 5 = .ok (.istore_n 2, 1) := by decide +kernel
theorem dX0_removeAt_6 : decode cX0_removeAt 6 = .ok (.iload_n 2, 1) := by decide +kernel
theorem dX0_removeAt_7 : decode cX0_removeAt 7 = .ok (.sipush (-10000), 3) := by decide +kernel
theorem dX0_removeAt_10 : decode cX0_removeAt 10 = .ok (.if_icmp .eq 12, 3) := by decide +kernel
theorem dX0_removeAt_13 : decode cX0_removeAt 13 = .ok (.aload_n 0, 1) := by decide +kernel
theorem dX0_removeAt_14 : decode cX0_removeAt 14 = .ok (.iload_n 1, 1) := by decide +kernel
theorem dX0_removeAt_15 : decode cX0_removeAt 15 = .ok (.iload_n 1, 1) := by decide +kernel
theorem dX0_removeAt_16 : decode cX0_removeAt 16 = .ok (.iconst 1, 1) := by decide +kernel
theorem dX0_removeAt_17 : decode cX0_removeAt 17 = .ok (.iadd, 1) := by decide +kernel
theorem dX0_removeAt_18 : decode cX0_removeAt 18 = .ok (.invokevirtual 82, 3) := by decide +kernel
theorem dX0_removeAt_21 : decode cX0_removeAt 21 = .ok (.pop, 1) := by decide +kernel
theorem dX0_removeAt_22 : decode cX0_removeAt 22 = .ok (.iload_n 2, 1) := by decide +kernel
theorem dX0_removeAt_23 : decode cX0_removeAt 23 = .ok (.ireturn, 1) := by decide +kernel
theorem dX0_removeRange_0 : decode cX0_removeRange 0 = .ok (.iload_n 1, 1) := by decide +kernel
theorem dX0_removeRange_1 : decode cX0_removeRange 1 = .ok (.ifCond .lt 16, 3) := by decide +kernel
theorem dX0_removeRange_4 : decode cX0_removeRange 4 = .ok (.iload_n 1, 1) := by decide +kernel
theorem dX0_removeRange_5 : decode cX0_removeRange 5 = .ok (.iload_n 2, 1) := by decide +kernel
theorem dX0_removeRange_6 : decode cX0_removeRange 6 = .ok (.if_icmp .ge 11, 3) := by decide +kernel
theorem dX0_removeRange_9 : decode cX0_removeRange 9 = .ok (.iload_n 2, 1) := by decide +kernel
theorem dX0_removeRange_10 : decode cX0_removeRange 10 = .ok (.aload_n 0, 1) := by decide +kernel
theorem dX0_removeRange_11 : decode cX0_removeRange 11 = .ok (.getfield 25, 3) := by decide +kernel
theorem dX0_removeRange_14 : decode cX0_removeRange 14 = .ok (.if_icmp .le 5, 3) := by decide +kernel
theorem dX0_removeRange_17 : decode cX0_removeRange 17 = .ok (.iconst 0, 1) := by decide +kernel
theorem dX0_removeRange_18 : decode cX0_removeRange 18 = .ok (.ireturn, 1) := by decide +kernel
theorem dX0_removeRange_19 : decode cX0_removeRange 19 = .ok (.aload_n 0, 1) := by decide +kernel
theorem dX0_removeRange_20 : decode cX0_removeRange 20 = .ok (.getfield 15, 3) := by decide +kernel
theorem dX0_removeRange_23 : decode cX0_removeRange 23 = .ok (.iload_n 2, 1) := by decide +kernel
theorem dX0_removeRange_24 : decode cX0_removeRange 24 = .ok (.aload_n 0, 1) := by decide +kernel
theorem dX0_removeRange_25 : decode cX0_removeRange 25 = .ok (.getfield 15, 3) := by decide +kernel
theorem dX0_removeRange_28 : decode cX0_removeRange 28 = .ok (.iload_n 1, 1) := by decide +kernel
theorem dX0_removeRange_29 : decode cX0_removeRange 29 = .ok (.aload_n 0, 1) := by decide +kernel
theorem dX0_removeRange_30 : decode cX0_removeRange 30 = .ok (.getfield 25, 3) := by decide +kernel
theorem dX0_removeRange_33 : decode cX0_removeRange 33 = .ok (.iload_n 2, 1) := by decide +kernel
theorem dX0_removeRange_34 : decode cX0_removeRange 34 = .ok (.isub, 1) := by decide +kernel
theorem dX0_removeRange_35 : decode cX0_removeRange 35 = .ok (.invokestatic 76, 3) := by decide +kernel
theorem dX0_removeRange_38 : decode cX0_removeRange 38 = .ok (.aload_n 0, 1) := by decide +kernel
theorem dX0_removeRange_39 : decode cX0_removeRange 39 = .ok (.getfield 19, 3) := by decide +kernel
theorem dX0_removeRange_42 : decode cX0_removeRange 42 = .ok (.iload_n 2, 1) := by decide +kernel
theorem dX0_removeRange_43 : decode cX0_removeRange 43 = .ok (.aload_n 0, 1) := by decide +kernel
theorem dX0_removeRange_44 : decode cX0_removeRange 44 = .ok (.getfield 19, 3) := by decide +kernel
theorem dX0_removeRange_47 : decode cX0_removeRange 47 = .ok (.iload_n 1, 1) := by decide +kernel
theorem dX0_removeRange_48 : decode cX0_removeRange 48 = .ok (.aload_n 0, 1) := by decide +kernel
theorem dX0_removeRange_49 : decode cX0_removeRange 49 = .ok (.getfield 25, 3) := by decide +kernel
theorem dX0_removeRange_52 : decode cX0_removeRange 52 = .ok (.iload_n 2, 1) := by decide +kernel
theorem dX0_removeRange_53 : decode cX0_removeRange 53 = .ok (.isub, 1) := by decide +kernel
theorem dX0_removeRange_54 : decode cX0_removeRange 54 = .ok (.invokestatic 76, 3) := by decide +kernel
theorem dX0_removeRange_57 : decode cX0_removeRange 57 = .ok (.aload_n 0, 1) := by decide +kernel
theorem dX0_removeRange_58 : decode cX0_removeRange 58 = .ok (.dup, 1) := by decide +kernel
theorem dX0_removeRange_59 : decode cX0_removeRange 59 = .ok (.getfield 25, 3) := by decide +kernel
theorem dX0_removeRange_62 : decode cX0_removeRange 62 = .ok (.iload_n 2, 1) := by decide +kernel
theorem dX0_removeRange_63 : decode cX0_removeRange 63 = .ok (.iload_n 1, 1) := by decide +kernel
theorem dX0_removeRange_64 : decode cX0_removeRange 64 = .ok (.isub, 1) := by decide +kernel
theorem dX0_removeRange_65 : decode cX0_removeRange 65 = .ok (.isub, 1) := by decide +kernel
theorem dX0_removeRange_66 : decode cX0_removeRange 66 = .ok (.putfield 25, 3) := by decide +kernel
theorem dX0_removeRange_69 : decode cX0_removeRange 69 = .ok (.aload_n 0, 1) := by decide +kernel
theorem dX0_removeRange_70 : decode cX0_removeRange 70 = .ok (.dup, 1) := by decide +kernel
theorem dX0_removeRange_71 : decode cX0_removeRange 71 = .ok (.getfield 31, 3) := by decide +kernel
theorem dX0_removeRange_74 : decode cX0_removeRange 74 = .ok (.iconst 1, 1) := by decide +kernel
theorem dX0_removeRange_75 : decode cX0_removeRange 75 = .ok (.iadd, 1) := by decide +kernel
theorem dX0_removeRange_76 : decode cX0_removeRange 76 = .ok (.putfield 31, 3) := by decide +kernel
theorem dX0_removeRange_79 : decode cX0_removeRange 79 = .ok (.iload_n 2, 1) := by decide +kernel
theorem dX0_removeRange_80 : decode cX0_removeRange 80 = .ok (.iload_n 1, 1) := by decide +kernel
theorem dX0_removeRange_81 : decode cX0_removeRange 81 = .ok (.isub, 1) := by decide +kernel
theorem dX0_removeRange_82 : decode cX0_removeRange 82 = .ok (.ireturn, 1) := by decide +kernel
set_option maxRecDepth 20000 in
theorem ggX0_putTogether_X0_holds : GoodIn wsX0_putTogether wsX0_holds := goodIn_r _ [5, 6, 7, 8, 4, 9, 10, 11, 12, 13, 14, 15, 16, 17, 18, 19, 20, 21, 22, 23, 24, 25, 26, 27, 28, 29, 30, 31, 32, 33, 34, 35, 36, 37, 73, 74, 75, 76, 77, 78, 79] (by decide +kernel) (by decide +kernel)
set_option maxRecDepth 20000 in
theorem gX0_putTogether_X0_holds : GoodIn wsX0_putTogether (wsV RX0 85 RX0 yX0_holds wsX0_holds) := goodIn_app (goodIn_of _ (by decide +kernel)) ggX0_putTogether_X0_holds
set_option maxRecDepth 20000 in
theorem ggX0_putTogether_X0_enter : GoodIn wsX0_putTogether wsX0_enter := goodIn_r _ [41, 24, 37, 10, 11, 12, 4, 13, 14, 15, 16, 17, 18, 19, 20, 21, 22, 23, 29, 30, 31, 32, 42, 43, 44, 45, 46, 47, 48, 49, 50, 73, 74, 75, 76, 77, 78, 79] (by decide +kernel) (by decide +kernel)
set_option maxRecDepth 20000 in
theorem gX0_putTogether_X0_enter : GoodIn wsX0_putTogether (wsV RX0 88 RX0 yX0_enter wsX0_enter) := goodIn_app (goodIn_of _ (by decide +kernel)) ggX0_putTogether_X0_enter
set_option maxRecDepth 20000 in
theorem ggX0_putTogether_X0_valueOf : GoodIn wsX0_putTogether wsX0_valueOf := goodIn_r _ [9, 10, 11, 12, 4, 13, 14, 15, 16, 17, 18, 19, 20, 21, 22, 23, 24, 25, 26, 27, 28, 29, 30, 31, 32, 33, 34, 35, 36, 37, 73, 74, 75, 76, 77, 78, 79] (by decide +kernel) (by decide +kernel)
set_option maxRecDepth 20000 in
theorem gX0_putTogether_X0_valueOf : GoodIn wsX0_putTogether (wsV RX0 45 RX0 yX0_valueOf wsX0_valueOf) := goodIn_app (goodIn_of _ (by decide +kernel)) ggX0_putTogether_X0_valueOf
set_option maxRecDepth 20000 in
theorem ggX0_putTogether_X0_bounded : GoodIn wsX0_putTogether wsX0_bounded := goodIn_r _ [53, 54, 55, 56, 57, 58, 59, 60] (by decide +kernel) (by decide +kernel)
set_option maxRecDepth 20000 in
theorem gX0_putTogether_X0_bounded : GoodIn wsX0_putTogether (va_wsS RX0 91 yX0_bounded wsX0_bounded) := goodIn_app (goodIn_of _ (by decide +kernel)) ggX0_putTogether_X0_bounded
set_option maxRecDepth 20000 in
theorem ggX0_putTogether_X0_enterUnlessZero : GoodIn wsX0_putTogether wsX0_enterUnlessZero := goodIn_r _ [64, 65, 66, 67, 4, 68, 10, 11, 12, 13, 14, 15, 16, 17, 18, 19, 20, 21, 22, 23, 24, 25, 26, 27, 28, 29, 30, 31, 32, 33, 34, 35, 36, 37, 69, 70, 71, 72, 46, 47, 48, 49, 50, 38, 39, 40, 41, 42, 43, 44, 45, 73, 74, 75, 76, 77, 78, 79] (by decide +kernel) (by decide +kernel)
set_option maxRecDepth 20000 in
theorem gX0_putTogether_X0_enterUnlessZero : GoodIn wsX0_putTogether (wsV RX0 94 RX0 yX0_enterUnlessZero wsX0_enterUnlessZero) := goodIn_app (goodIn_of _ (by decide +kernel)) ggX0_putTogether_X0_enterUnlessZero
theorem dX0_putTogether_0 : decode cX0_putTogether 0 = .ok (.aload_n 0, 1) := by decide +kernel
theorem dX0_putTogether_1 : decode cX0_putTogether 1 = .ok (.iload_n 1, 1) := by decide +kernel
theorem dX0_putTogether_2 : decode cX0_putTogether 2 = .ok (.invokevirtual 85, 3) := by decide +kernel
theorem dX0_putTogether_5 : decode cX0_putTogether 5 = .ok (.ifCond .ne 12, 3) := by decide +kernel
theorem dX0_putTogether_8 : decode cX0_putTogether 8 = .ok (.aload_n 0, 1) := by decide +kernel
theorem dX0_putTogether_9 : decode cX0_putTogether 9 = .ok (.iload_n 1, 1) := by decide +kernel
theorem dX0_putTogether_10 : decode cX0_putTogether 10 = .ok (.iload_n 2, 1) := by decide +kernel
theorem dX0_putTogether_11 : decode cX0_putTogether 11 = .ok (.invokevirtual 88, 3) := by decide +kernel
theorem dX0_putTogether_14 : decode cX0_putTogether 14 = .ok (.pop, 1) := by decide +kernel
theorem dX0_putTogether_15 : decode cX0_putTogether 15 = .ok (.iload_n 2, 1) := by decide +kernel
theorem dX0_putTogether_16 : decode cX0_putTogether 16 = .ok (.ireturn, 1) := by decide +kernel
theorem dX0_putTogether_17 : decode cX0_putTogether 17 = .ok (.aload_n 0, 1) := by decide +kernel
theorem dX0_putTogether_18 : decode cX0_putTogether 18 = .ok (.iload_n 1, 1) := by decide +kernel
theorem dX0_putTogether_19 : decode cX0_putTogether 19 = .ok (.invokevirtual 45, 3) := by decide +kernel
theorem dX0_putTogether_22 : decode cX0_putTogether 22 = .ok (.iload_n 2, 1) := by decide +kernel
theorem dX0_putTogether_23 : decode cX0_putTogether 23 = .ok (.iadd, 1) := by decide +kernel
theorem dX0_putTogether_24 : decode cX0_putTogether 24 = .ok (.invokestatic 91, 3) := by decide +kernel
theorem dX0_putTogether_27 : decode cX0_putTogether 27 = .ok (.istore_n 3, 1) := by decide +kernel
theorem dX0_putTogether_28 : decode cX0_putTogether 28 = .ok (.aload_n 0, 1) := by decide +kernel
theorem dX0_putTogether_29 : decode cX0_putTogether 29 = .ok (.iload_n 1, 1) := by decide +kernel
theorem dX0_putTogether_30 : decode cX0_putTogether 30 = .ok (.iload_n 3, 1) := by decide +kernel
theorem dX0_putTogether_31 : decode cX0_putTogether 31 = .ok (.invokevirtual 94, 3) := by decide +kernel
theorem dX0_putTogether_34 : decode cX0_putTogether 34 = .ok (.ireturn, 1) := by decide +kernel
set_option maxRecDepth 20000 in
theorem ggX0_growKey_X0_holds : GoodIn wsX0_growKey wsX0_holds := goodIn_r _ [5, 6, 7, 8, 4, 9, 10, 11, 12, 13, 14, 15, 16, 17, 18, 19, 20, 21, 22, 23, 24, 25, 26, 27, 28, 29, 30, 31, 32, 33, 34, 35, 36, 37, 51, 52, 53, 54, 55, 56, 57] (by decide +kernel) (by decide +kernel)
set_option maxRecDepth 20000 in
theorem gX0_growKey_X0_holds : GoodIn wsX0_growKey (wsV RX0 85 RX0 yX0_holds wsX0_holds) := goodIn_app (goodIn_of _ (by decide +kernel)) ggX0_growKey_X0_holds
set_option maxRecDepth 20000 in
theorem ggX0_growKey_X0_enter : GoodIn wsX0_growKey wsX0_enter := goodIn_r _ [41, 24, 37, 10, 11, 12, 4, 13, 14, 15, 16, 17, 18, 19, 20, 21, 22, 23, 29, 30, 31, 32, 42, 43, 44, 45, 46, 47, 48, 49, 50, 51, 52, 53, 54, 55, 56, 57] (by decide +kernel) (by decide +kernel)
set_option maxRecDepth 20000 in
theorem gX0_growKey_X0_enter : GoodIn wsX0_growKey (wsV RX0 88 RX0 yX0_enter wsX0_enter) := goodIn_app (goodIn_of _ (by decide +kernel)) ggX0_growKey_X0_enter
set_option maxRecDepth 20000 in
theorem ggX0_growKey_X0_valueOf : GoodIn wsX0_growKey wsX0_valueOf := goodIn_r _ [9, 10, 11, 12, 4, 13, 14, 15, 16, 17, 18, 19, 20, 21, 22, 23, 24, 25, 26, 27, 28, 29, 30, 31, 32, 33, 34, 35, 36, 37, 51, 52, 53, 54, 55, 56, 57] (by decide +kernel) (by decide +kernel)
set_option maxRecDepth 20000 in
theorem gX0_growKey_X0_valueOf : GoodIn wsX0_growKey (wsV RX0 45 RX0 yX0_valueOf wsX0_valueOf) := goodIn_app (goodIn_of _ (by decide +kernel)) ggX0_growKey_X0_valueOf
theorem dX0_growKey_0 : decode cX0_growKey 0 = .ok (.aload_n 0, 1) := by decide +kernel
theorem dX0_growKey_1 : decode cX0_growKey 1 = .ok (.iload_n 1, 1) := by decide +kernel
theorem dX0_growKey_2 : decode cX0_growKey 2 = .ok (.invokevirtual 85, 3) := by decide +kernel
theorem dX0_growKey_5 : decode cX0_growKey 5 = .ok (.ifCond .ne 22, 3) := by decide +kernel
theorem dX0_growKey_8 : decode cX0_growKey 8 = .ok (.iload_n 1, 1) := by decide +kernel
theorem dX0_growKey_9 : decode cX0_growKey 9 = .ok (.bipush 7, 2) := by decide +kernel
theorem dX0_growKey_11 : decode cX0_growKey 11 = .ok (.irem, 1) := by decide +kernel
theorem dX0_growKey_12 : decode cX0_growKey 12 = .ok (.ifCond .eq 15, 3) := by decide +kernel
theorem dX0_growKey_15 : decode cX0_growKey 15 = .ok (.aload_n 0, 1) := by decide +kernel
theorem dX0_growKey_16 : decode cX0_growKey 16 = .ok (.iload_n 1, 1) := by decide +kernel
theorem dX0_growKey_17 : decode cX0_growKey 17 = .ok (.iconst 3, 1) := by decide +kernel
theorem dX0_growKey_18 : decode cX0_growKey 18 = .ok (.iload_n 1, 1) := by decide +kernel
theorem dX0_growKey_19 : decode cX0_growKey 19 = .ok (.imul, 1) := by decide +kernel
theorem dX0_growKey_20 : decode cX0_growKey 20 = .ok (.bipush 50, 2) := by decide +kernel
theorem dX0_growKey_22 : decode cX0_growKey 22 = .ok (.isub, 1) := by decide +kernel
theorem dX0_growKey_23 : decode cX0_growKey 23 = .ok (.invokevirtual 88, 3) := by decide +kernel
theorem dX0_growKey_26 : decode cX0_growKey 26 = .ok (.pop, 1) := by decide +kernel
theorem dX0_growKey_27 : decode cX0_growKey 27 = .ok (.aload_n 0, 1) := by decide +kernel
theorem dX0_growKey_28 : decode cX0_growKey 28 = .ok (.iload_n 1, 1) := by decide +kernel
theorem dX0_growKey_29 : decode cX0_growKey 29 = .ok (.invokevirtual 45, 3) := by decide +kernel
theorem dX0_growKey_32 : decode cX0_growKey 32 = .ok (.ireturn, 1) := by decide +kernel
set_option maxRecDepth 20000 in
theorem ggX0_halveKey_X0_holds : GoodIn wsX0_halveKey wsX0_holds := goodIn_r _ [5, 6, 7, 8, 4, 9, 10, 11, 12, 13, 14, 15, 16, 17, 18, 19, 20, 21, 22, 23, 24, 25, 26, 27, 28, 29, 30, 31, 32, 33, 34, 35, 36, 37, 63, 64, 65, 66, 67, 68, 69] (by decide +kernel) (by decide +kernel)
set_option maxRecDepth 20000 in
theorem gX0_halveKey_X0_holds : GoodIn wsX0_halveKey (wsV RX0 85 RX0 yX0_holds wsX0_holds) := goodIn_app (goodIn_of _ (by decide +kernel)) ggX0_halveKey_X0_holds
set_option maxRecDepth 20000 in
theorem ggX0_halveKey_X0_valueOf : GoodIn wsX0_halveKey wsX0_valueOf := goodIn_r _ [9, 10, 11, 12, 4, 13, 14, 15, 16, 17, 18, 19, 20, 21, 22, 23, 24, 25, 26, 27, 28, 29, 30, 31, 32, 33, 34, 35, 36, 37, 63, 64, 65, 66, 67, 68, 69] (by decide +kernel) (by decide +kernel)
set_option maxRecDepth 20000 in
theorem gX0_halveKey_X0_valueOf : GoodIn wsX0_halveKey (wsV RX0 45 RX0 yX0_valueOf wsX0_valueOf) := goodIn_app (goodIn_of _ (by decide +kernel)) ggX0_halveKey_X0_valueOf
set_option maxRecDepth 20000 in
theorem ggX0_halveKey_X0_enterUnlessZero : GoodIn wsX0_halveKey wsX0_enterUnlessZero := goodIn_r _ [41, 42, 43, 44, 4, 45, 10, 11, 12, 13, 14, 15, 16, 17, 18, 19, 20, 21, 22, 23, 24, 25, 26, 27, 28, 29, 30, 31, 32, 33, 34, 35, 36, 37, 46, 47, 48, 49, 50, 51, 52, 53, 54, 55, 56, 57, 58, 59, 60, 61, 62, 63, 64, 65, 66, 67, 68, 69] (by decide +kernel) (by decide +kernel)
set_option maxRecDepth 20000 in
theorem gX0_halveKey_X0_enterUnlessZero : GoodIn wsX0_halveKey (wsV RX0 94 RX0 yX0_enterUnlessZero wsX0_enterUnlessZero) := goodIn_app (goodIn_of _ (by decide +kernel)) ggX0_halveKey_X0_enterUnlessZero
theorem dX0_halveKey_0 : decode cX0_halveKey 0 = .ok (.aload_n 0, 1) := by decide +kernel
theorem dX0_halveKey_1 : decode cX0_halveKey 1 = .ok (.iload_n 1, 1) := by decide +kernel
theorem dX0_halveKey_2 : decode cX0_halveKey 2 = .ok (.invokevirtual 85, 3) := by decide +kernel
theorem dX0_halveKey_5 : decode cX0_halveKey 5 = .ok (.ifCond .eq 18, 3) := by decide +kernel
theorem dX0_halveKey_8 : decode cX0_halveKey 8 = .ok (.aload_n 0, 1) := by decide +kernel
theorem dX0_halveKey_9 : decode cX0_halveKey 9 = .ok (.iload_n 1, 1) := by decide +kernel
theorem dX0_halveKey_10 : decode cX0_halveKey 10 = .ok (.aload_n 0, 1) := by decide +kernel
theorem dX0_halveKey_11 : decode cX0_halveKey 11 = .ok (.iload_n 1, 1) := by decide +kernel
theorem dX0_halveKey_12 : decode cX0_halveKey 12 = .ok (.invokevirtual 45, 3) := by decide +kernel
theorem dX0_halveKey_15 : decode cX0_halveKey 15 = .ok (.iconst 2, 1) := by decide +kernel
theorem dX0_halveKey_16 : decode cX0_halveKey 16 = .ok (.idiv, 1) := by decide +kernel
theorem dX0_halveKey_17 : decode cX0_halveKey 17 = .ok (.invokevirtual 94, 3) := by decide +kernel
theorem dX0_halveKey_20 : decode cX0_halveKey 20 = .ok (.goto 6, 3) := by decide +kernel
theorem dX0_halveKey_23 : decode cX0_halveKey 23 = .ok (.sipush (-10000), 3) := by decide +kernel
theorem dX0_halveKey_26 : decode cX0_halveKey 26 = .ok (.ireturn, 1) := by decide +kernel
set_option maxRecDepth 20000 in
theorem ggX0_doubleKey_X0_valueOf : GoodIn wsX0_doubleKey wsX0_valueOf := goodIn_r _ [5, 6, 7, 8, 4, 9, 10, 11, 12, 13, 14, 15, 16, 17, 18, 19, 20, 21, 22, 23, 24, 25, 26, 27, 28, 29, 30, 31, 32, 33, 55, 56, 57, 58, 59, 60, 61] (by decide +kernel) (by decide +kernel)
set_option maxRecDepth 20000 in
theorem gX0_doubleKey_X0_valueOf : GoodIn wsX0_doubleKey (wsV RX0 45 RX0 yX0_valueOf wsX0_valueOf) := goodIn_app (goodIn_of _ (by decide +kernel)) ggX0_doubleKey_X0_valueOf
set_option maxRecDepth 20000 in
theorem ggX0_doubleKey_X0_enter : GoodIn wsX0_doubleKey wsX0_enter := goodIn_r _ [37, 20, 33, 6, 7, 8, 4, 9, 10, 11, 12, 13, 14, 15, 16, 17, 18, 19, 25, 26, 27, 28, 38, 39, 40, 41, 42, 43, 44, 45, 46, 55, 56, 57, 58, 59, 60, 61] (by decide +kernel) (by decide +kernel)
set_option maxRecDepth 20000 in
theorem gX0_doubleKey_X0_enter : GoodIn wsX0_doubleKey (wsV RX0 88 RX0 yX0_enter wsX0_enter) := goodIn_app (goodIn_of _ (by decide +kernel)) ggX0_doubleKey_X0_enter
set_option maxRecDepth 20000 in
theorem ggX0_doubleKey_X0_removeKey : GoodIn wsX0_doubleKey wsX0_removeKey := goodIn_r _ [50, 6, 7, 8, 4, 9, 10, 11, 12, 13, 14, 15, 16, 17, 18, 19, 20, 21, 22, 23, 24, 25, 26, 27, 28, 29, 30, 31, 32, 33, 51, 52, 53, 54, 42, 43, 44, 45, 46, 55, 56, 57, 58, 59, 60, 61] (by decide +kernel) (by decide +kernel)
set_option maxRecDepth 20000 in
theorem gX0_doubleKey_X0_removeKey : GoodIn wsX0_doubleKey (wsV RX0 97 RX0 yX0_removeKey wsX0_removeKey) := goodIn_app (goodIn_of _ (by decide +kernel)) ggX0_doubleKey_X0_removeKey
theorem dX0_doubleKey_0 : decode cX0_doubleKey 0 = .ok (.aload_n 0, 1) := by decide +kernel
theorem dX0_doubleKey_1 : decode cX0_doubleKey 1 = .ok (.iload_n 1, 1) := by decide +kernel
theorem dX0_doubleKey_2 : decode cX0_doubleKey 2 = .ok (.invokevirtual 45, 3) := by decide +kernel
theorem dX0_doubleKey_5 : decode cX0_doubleKey 5 = .ok (.istore_n 2, 1) := by decide +kernel
theorem dX0_doubleKey_6 : decode cX0_doubleKey 6 = .ok (.iload_n 2, 1) := by decide +kernel
theorem dX0_doubleKey_7 : decode cX0_doubleKey 7 = .ok (.sipush (-10000), 3) := by decide +kernel
theorem dX0_doubleKey_10 : decode cX0_doubleKey 10 = .ok (.if_icmp .ne 13, 3) := by decide +kernel
theorem dX0_doubleKey_13 : decode cX0_doubleKey 13 = .ok (.aload_n 0, 1) := by decide +kernel
theorem dX0_doubleKey_14 : decode cX0_doubleKey 14 = .ok (.iload_n 1, 1) := by decide +kernel
theorem dX0_doubleKey_15 : decode cX0_doubleKey 15 = .ok (.iload_n 1, 1) := by decide +kernel
theorem dX0_doubleKey_16 : decode cX0_doubleKey 16 = .ok (.invokevirtual 88, 3) := by decide +kernel
theorem dX0_doubleKey_19 : decode cX0_doubleKey 19 = .ok (.pop, 1) := by decide +kernel
theorem dX0_doubleKey_20 : decode cX0_doubleKey 20 = .ok (.goto 35, 3) := by decide +kernel
theorem dX0_doubleKey_23 : decode cX0_doubleKey 23 = .ok (.iload_n 2, 1) := by decide +kernel
theorem dX0_doubleKey_24 : decode cX0_doubleKey 24 = .ok (.sipush 500, 3) := by decide +kernel
theorem dX0_doubleKey_27 : decode cX0_doubleKey 27 = .ok (.if_icmp .gt 10, 3) := by decide +kernel
theorem dX0_doubleKey_30 : decode cX0_doubleKey 30 = .ok (.iload_n 2, 1) := by decide +kernel
theorem dX0_doubleKey_31 : decode cX0_doubleKey 31 = .ok (.sipush (-500), 3) := by decide +kernel
theorem dX0_doubleKey_34 : decode cX0_doubleKey 34 = .ok (.if_icmp .ge 12, 3) := by decide +kernel
theorem dX0_doubleKey_37 : decode cX0_doubleKey 37 = .ok (.aload_n 0, 1) := by decide +kernel
theorem dX0_doubleKey_38 : decode cX0_doubleKey 38 = .ok (.iload_n 1, 1) := by decide +kernel
theorem dX0_doubleKey_39 : decode cX0_doubleKey 39 = .ok (.invokevirtual 97, 3) := by decide +kernel
theorem dX0_doubleKey_42 : decode cX0_doubleKey 42 = .ok (.pop, 1) := by decide +kernel
theorem dX0_doubleKey_43 : decode cX0_doubleKey 43 = .ok (.goto 12, 3) := by decide +kernel
theorem dX0_doubleKey_46 : decode cX0_doubleKey 46 = .ok (.aload_n 0, 1) := by decide +kernel
theorem dX0_doubleKey_47 : decode cX0_doubleKey 47 = .ok (.iload_n 1, 1) := by decide +kernel
theorem dX0_doubleKey_48 : decode cX0_doubleKey 48 = .ok (.iconst 2, 1) := by decide +kernel
theorem dX0_doubleKey_49 : decode cX0_doubleKey 49 = .ok (.iload_n 2, 1) := by decide +kernel
theorem dX0_doubleKey_50 : decode cX0_doubleKey 50 = .ok (.imul, 1) := by decide +kernel
theorem dX0_doubleKey_51 : decode cX0_doubleKey 51 = .ok (.invokevirtual 88, 3) := by decide +kernel
theorem dX0_doubleKey_54 : decode cX0_doubleKey 54 = .ok (.pop, 1) := by decide +kernel
theorem dX0_doubleKey_55 : decode cX0_doubleKey 55 = .ok (.aload_n 0, 1) := by decide +kernel
theorem dX0_doubleKey_56 : decode cX0_doubleKey 56 = .ok (.iload_n 1, 1) := by decide +kernel
theorem dX0_doubleKey_57 : decode cX0_doubleKey 57 = .ok (.invokevirtual 45, 3) := by decide +kernel
theorem dX0_doubleKey_60 : decode cX0_doubleKey 60 = .ok (.ireturn, 1) := by decide +kernel
set_option maxRecDepth 20000 in
theorem ggX0_enterUnlessZero_X0_removeKey : GoodIn wsX0_enterUnlessZero wsX0_removeKey := goodIn_r _ [5, 6, 7, 8, 4, 9, 10, 11, 12, 13, 14, 15, 16, 17, 18, 19, 20, 21, 22, 23, 24, 25, 26, 27, 28, 29, 30, 31, 32, 33, 34, 35, 36, 37, 38, 39, 40, 41, 42, 51, 52, 53, 54, 55, 56, 57] (by decide +kernel) (by decide +kernel)
set_option maxRecDepth 20000 in
theorem gX0_enterUnlessZero_X0_removeKey : GoodIn wsX0_enterUnlessZero (wsV RX0 97 RX0 yX0_removeKey wsX0_removeKey) := goodIn_app (goodIn_of _ (by decide +kernel)) ggX0_enterUnlessZero_X0_removeKey
set_option maxRecDepth 20000 in
theorem ggX0_enterUnlessZero_X0_enter : GoodIn wsX0_enterUnlessZero wsX0_enter := goodIn_r _ [46, 20, 33, 6, 7, 8, 4, 9, 10, 11, 12, 13, 14, 15, 16, 17, 18, 19, 25, 26, 27, 28, 47, 48, 49, 50, 38, 39, 40, 41, 42, 51, 52, 53, 54, 55, 56, 57] (by decide +kernel) (by decide +kernel)
set_option maxRecDepth 20000 in
theorem gX0_enterUnlessZero_X0_enter : GoodIn wsX0_enterUnlessZero (wsV RX0 88 RX0 yX0_enter wsX0_enter) := goodIn_app (goodIn_of _ (by decide +kernel)) ggX0_enterUnlessZero_X0_enter
theorem dX0_enterUnlessZero_0 : decode cX0_enterUnlessZero 0 = .ok (.iload_n 2, 1) := by decide +kernel
theorem dX0_enterUnlessZero_1 : decode cX0_enterUnlessZero 1 = .ok (.ifCond .ne 13, 3) := by decide +kernel
theorem dX0_enterUnlessZero_4 : decode cX0_enterUnlessZero 4 = .ok (.aload_n 0, 1) := by decide +kernel
theorem dX0_enterUnlessZero_5 : decode cX0_enterUnlessZero 5 = .ok (.iload_n 1, 1) := by decide +kernel
theorem dX0_enterUnlessZero_6 : decode cX0_enterUnlessZero 6 = .ok (.invokevirtual 97, 3) := by decide +kernel
theorem dX0_enterUnlessZero_9 : decode cX0_enterUnlessZero 9 = .ok (.pop, 1) := by decide +kernel
theorem dX0_enterUnlessZero_10 : decode cX0_enterUnlessZero 10 = .ok (.sipush (-10000), 3) := by decide +kernel
theorem dX0_enterUnlessZero_13 : decode cX0_enterUnlessZero 13 = .ok (.ireturn, 1) := by decide +kernel
theorem dX0_enterUnlessZero_14 : decode cX0_enterUnlessZero 14 = .ok (.aload_n 0, 1) := by decide +kernel
theorem dX0_enterUnlessZero_15 : decode cX0_enterUnlessZero 15 = .ok (.iload_n 1, 1) := by decide +kernel
theorem dX0_enterUnlessZero_16 : decode cX0_enterUnlessZero 16 = .ok (.iload_n 2, 1) := by decide +kernel
theorem dX0_enterUnlessZero_17 : decode cX0_enterUnlessZero 17 = .ok (.invokevirtual 88, 3) := by decide +kernel
theorem dX0_enterUnlessZero_20 : decode cX0_enterUnlessZero 20 = .ok (.pop, 1) := by decide +kernel
theorem dX0_enterUnlessZero_21 : decode cX0_enterUnlessZero 21 = .ok (.iload_n 2, 1) := by decide +kernel
theorem dX0_enterUnlessZero_22 : decode cX0_enterUnlessZero 22 = .ok (.ireturn, 1) := by decide +kernel
set_option maxRecDepth 20000 in
theorem ggX0_raiseAll_X0_bounded : GoodIn wsX0_raiseAll wsX0_bounded := goodIn_r _ [6, 7, 8, 9, 10, 11, 12, 13] (by decide +kernel) (by decide +kernel)
set_option maxRecDepth 20000 in
theorem gX0_raiseAll_X0_bounded : GoodIn wsX0_raiseAll (va_wsS RX0 91 yX0_bounded wsX0_bounded) := goodIn_app (goodIn_of _ (by decide +kernel)) ggX0_raiseAll_X0_bounded
theorem dX0_raiseAll_0 : decode cX0_raiseAll 0 = .ok (.iconst 0, 1) := by decide +kernel
theorem dX0_raiseAll_1 : decode cX0_raiseAll 1 = .ok (.istore_n 2, 1) := by decide +kernel
theorem dX0_raiseAll_2 : decode cX0_raiseAll 2 = .ok (.iconst 0, 1) := by decide +kernel
theorem dX0_raiseAll_3 : decode cX0_raiseAll 3 = .ok (.istore_n 3, 1) := by decide +kernel
theorem dX0_raiseAll_4 : decode cX0_raiseAll 4 = .ok (.iload_n 3, 1) := by decide +kernel
theorem dX0_raiseAll_5 : decode cX0_raiseAll 5 = .ok (.aload_n 0, 1) := by decide +kernel
theorem dX0_raiseAll_6 : decode cX0_raiseAll 6 = .ok (.getfield 25, 3) := by decide +kernel
theorem dX0_raiseAll_9 : decode cX0_raiseAll 9 = .ok (.if_icmp .ge 44, 3) := by decide +kernel
theorem dX0_raiseAll_12 : decode cX0_raiseAll 12 = .ok (.aload_n 0, 1) := by decide +kernel
theorem dX0_raiseAll_13 : decode cX0_raiseAll 13 = .ok (.getfield 19, 3) := by decide +kernel
theorem dX0_raiseAll_16 : decode cX0_raiseAll 16 = .ok (.iload_n 3, 1) := by decide +kernel
theorem dX0_raiseAll_17 : decode cX0_raiseAll 17 = .ok (.iaload, 1) := by decide +kernel
theorem dX0_raiseAll_18 : decode cX0_raiseAll 18 = .ok (.iload_n 1, 1) := by decide +kernel
theorem dX0_raiseAll_19 : decode cX0_raiseAll 19 = .ok (.iadd, 1) := by decide +kernel
theorem dX0_raiseAll_20 : decode cX0_raiseAll 20 = .ok (.invokestatic 91, 3) := by decide +kernel
theorem dX0_raiseAll_23 : decode cX0_raiseAll 23 = .ok (.istore 4, 2) := by decide +kernel
theorem dX0_raiseAll_25 : decode cX0_raiseAll 25 = .ok (.iload 4, 2) := by decide +kernel
theorem dX0_raiseAll_27 : decode cX0_raiseAll 27 = .ok (.aload_n 0, 1) := by decide +kernel
theorem dX0_raiseAll_28 : decode cX0_raiseAll 28 = .ok (.getfield 19, 3) := by decide +kernel
theorem dX0_raiseAll_31 : decode cX0_raiseAll 31 = .ok (.iload_n 3, 1) := by decide +kernel
theorem dX0_raiseAll_32 : decode cX0_raiseAll 32 = .ok (.iaload, 1) := by decide +kernel
theorem dX0_raiseAll_33 : decode cX0_raiseAll 33 = .ok (.if_icmp .eq 14, 3) := by decide +kernel
theorem dX0_raiseAll_36 : decode cX0_raiseAll 36 = .ok (.aload_n 0, 1) := by decide +kernel
theorem dX0_raiseAll_37 : decode cX0_raiseAll 37 = .ok (.getfield 19, 3) := by decide +kernel
theorem dX0_raiseAll_40 : decode cX0_raiseAll 40 = .ok (.iload_n 3, 1) := by decide +kernel
theorem dX0_raiseAll_41 : decode cX0_raiseAll 41 = .ok (.iload 4, 2) := by decide +kernel
theorem dX0_raiseAll_43 : decode cX0_raiseAll 43 = .ok (.iastore, 1) := by decide +kernel
theorem dX0_raiseAll_44 : decode cX0_raiseAll 44 = .ok (.iinc 2 1, 3) := by decide +kernel
theorem dX0_raiseAll_47 : decode cX0_raiseAll 47 = .ok (.iinc 3 1, 3) := by decide +kernel
theorem dX0_raiseAll_50 : decode cX0_raiseAll 50 = .ok (.goto (-46), 3) := by decide +kernel
theorem dX0_raiseAll_53 : decode cX0_raiseAll 53 = .ok (.iload_n 2, 1) := by decide +kernel
theorem dX0_raiseAll_54 : decode cX0_raiseAll 54 = .ok (.ireturn, 1) := by decide +kernel
set_option maxRecDepth 20000 in
theorem ggX0_removeMultiples_X0_valueAt : GoodIn wsX0_removeMultiples wsX0_valueAt := goodIn_r _ [6, 7, 8, 9, 10, 5, 11, 1, 30, 31, 32, 33, 34, 35, 36] (by decide +kernel) (by decide +kernel)
set_option maxRecDepth 20000 in
theorem gX0_removeMultiples_X0_valueAt : GoodIn wsX0_removeMultiples (wsV RX0 54 RX0 yX0_valueAt wsX0_valueAt) := goodIn_app (goodIn_of _ (by decide +kernel)) ggX0_removeMultiples_X0_valueAt
set_option maxRecDepth 20000 in
theorem ggX0_removeMultiples_X0_removeAt : GoodIn wsX0_removeMultiples wsX0_removeAt := goodIn_r _ [15, 16, 17, 18, 5, 19, 20, 8, 9, 10, 11, 1, 21, 22, 23, 24, 25, 26, 27, 28, 7, 29, 30, 31, 32, 33, 34, 35, 36] (by decide +kernel) (by decide +kernel)
set_option maxRecDepth 20000 in
theorem gX0_removeMultiples_X0_removeAt : GoodIn wsX0_removeMultiples (wsV RX0 100 RX0 yX0_removeAt wsX0_removeAt) := goodIn_app (goodIn_of _ (by decide +kernel)) ggX0_removeMultiples_X0_removeAt
theorem dX0_removeMultiples_0 : decode cX0_removeMultiples 0 = .ok (.aload_n 0, 1) := by decide +kernel
theorem dX0_removeMultiples_1 : decode cX0_removeMultiples 1 = .ok (.getfield 25, 3) := by decide +kernel
theorem dX0_removeMultiples_4 : decode cX0_removeMultiples 4 = .ok (.istore_n 2, 1) := by decide +kernel
theorem dX0_removeMultiples_5 : decode cX0_removeMultiples 5 = .ok (.iload_n 2, 1) := by decide +kernel
theorem dX0_removeMultiples_6 : decode cX0_removeMultiples 6 = .ok (.iconst 1, 1) := by decide +kernel
theorem dX0_removeMultiples_7 : decode cX0_removeMultiples 7 = .ok (.isub, 1) := by decide +kernel
theorem dX0_removeMultiples_8 : decode cX0_removeMultiples 8 = .ok (.istore_n 3, 1) := by decide +kernel
theorem dX0_removeMultiples_9 : decode cX0_removeMultiples 9 = .ok (.iload_n 3, 1) := by decide +kernel
theorem dX0_removeMultiples_10 : decode cX0_removeMultiples 10 = .ok (.ifCond .lt 29, 3) := by decide +kernel
theorem dX0_removeMultiples_13 : decode cX0_removeMultiples 13 = .ok (.iload_n 1, 1) := by decide +kernel
theorem dX0_removeMultiples_14 : decode cX0_removeMultiples 14 = .ok (.ifCond .eq 19, 3) := by decide +kernel
theorem dX0_removeMultiples_17 : decode cX0_removeMultiples 17 = .ok (.aload_n 0, 1) := by decide +kernel
theorem dX0_removeMultiples_18 : decode cX0_removeMultiples 18 = .ok (.iload_n 3, 1) := by decide +kernel
theorem dX0_removeMultiples_19 : decode cX0_removeMultiples 19 = .ok (.invokevirtual 54, 3) := by decide +kernel
theorem dX0_removeMultiples_22 : decode cX0_removeMultiples 22 = .ok (.iload_n 1, 1) := by decide +kernel
theorem dX0_removeMultiples_23 : decode cX0_removeMultiples 23 = .ok (.irem, 1) := by decide +kernel
theorem dX0_removeMultiples_24 : decode cX0_removeMultiples 24 = .ok (.ifCond .ne 9, 3) := by decide +kernel
theorem dX0_removeMultiples_27 : decode cX0_removeMultiples 27 = .ok (.aload_n 0, 1) := by decide +kernel
theorem dX0_removeMultiples_28 : decode cX0_removeMultiples 28 = .ok (.iload_n 3, 1) := by decide +kernel
theorem dX0_removeMultiples_29 : decode cX0_removeMultiples 29 = .ok (.invokevirtual 100, 3) := by decide +kernel
theorem dX0_removeMultiples_32 : decode cX0_removeMultiples 32 = .ok (.pop, 1) := by decide +kernel
theorem dX0_removeMultiples_33 : decode cX0_removeMultiples 33 = .ok (.iinc 3 (-1), 3) := by decide +kernel
theorem dX0_removeMultiples_36 : decode cX0_removeMultiples 36 = .ok (.goto (-27), 3) := by decide +kernel
theorem dX0_removeMultiples_39 : decode cX0_removeMultiples 39 = .ok (.iload_n 2, 1) := by decide +kernel
theorem dX0_removeMultiples_40 : decode cX0_removeMultiples 40 = .ok (.aload_n 0, 1) := by decide +kernel
theorem dX0_removeMultiples_41 : decode cX0_removeMultiples 41 = .ok (.getfield 25, 3) := by decide +kernel
theorem dX0_removeMultiples_44 : decode cX0_removeMultiples 44 = .ok (.isub, 1) := by decide +kernel
theorem dX0_removeMultiples_45 : decode cX0_removeMultiples 45 = .ok (.ireturn, 1) := by decide +kernel
set_option maxRecDepth 20000 in
theorem ggX0_removeByOther_X0_keyAt : GoodIn wsX0_removeByOther wsX0_keyAt := goodIn_r _ [6, 7, 8, 9, 10, 5, 11, 1, 51, 52, 53, 54, 55, 56, 57] (by decide +kernel) (by decide +kernel)
set_option maxRecDepth 20000 in
theorem gX0_removeByOther_X0_keyAt : GoodIn wsX0_removeByOther (wsV RX0 51 RX0 yX0_keyAt wsX0_keyAt) := goodIn_app (goodIn_of _ (by decide +kernel)) ggX0_removeByOther_X0_keyAt
set_option maxRecDepth 20000 in
theorem ggX0_removeByOther_X0_holds : GoodIn wsX0_removeByOther wsX0_holds := goodIn_r _ [15, 16, 17, 18, 5, 19, 20, 21, 22, 23, 24, 25, 26, 27, 28, 29, 30, 31, 32, 1, 7, 2, 3, 4, 6, 8, 9, 10, 11, 33, 34, 35, 36, 37, 51, 52, 53, 54, 55, 56, 57] (by decide +kernel) (by decide +kernel)
set_option maxRecDepth 20000 in
theorem gX0_removeByOther_X0_holds : GoodIn wsX0_removeByOther (wsV RX0 85 RX0 yX0_holds wsX0_holds) := goodIn_app (goodIn_of _ (by decide +kernel)) ggX0_removeByOther_X0_holds
set_option maxRecDepth 20000 in
theorem ggX0_removeByOther_X0_removeAt : GoodIn wsX0_removeByOther wsX0_removeAt := goodIn_r _ [41, 2, 3, 4, 5, 6, 7, 8, 9, 10, 11, 1, 42, 43, 44, 45, 46, 47, 48, 49, 37, 50, 51, 52, 53, 54, 55, 56, 57] (by decide +kernel) (by decide +kernel)
set_option maxRecDepth 20000 in
theorem gX0_removeByOther_X0_removeAt : GoodIn wsX0_removeByOther (wsV RX0 100 RX0 yX0_removeAt wsX0_removeAt) := goodIn_app (goodIn_of _ (by decide +kernel)) ggX0_removeByOther_X0_removeAt
theorem dX0_removeByOther_0 : decode cX0_removeByOther 0 = .ok (.aload_n 0, 1) := by decide +kernel
theorem dX0_removeByOther_1 : decode cX0_removeByOther 1 = .ok (.getfield 25, 3) := by decide +kernel
theorem dX0_removeByOther_4 : decode cX0_removeByOther 4 = .ok (.istore_n 3, 1) := by decide +kernel
theorem dX0_removeByOther_5 : decode cX0_removeByOther 5 = .ok (.iload_n 3, 1) := by decide +kernel
theorem dX0_removeByOther_6 : decode cX0_removeByOther 6 = .ok (.iconst 1, 1) := by decide +kernel
theorem dX0_removeByOther_7 : decode cX0_removeByOther 7 = .ok (.isub, 1) := by decide +kernel
theorem dX0_removeByOther_8 : decode cX0_removeByOther 8 = .ok (.istore 4, 2) := by decide +kernel
theorem dX0_removeByOther_10 : decode cX0_removeByOther 10 = .ok (.iload 4, 2) := by decide +kernel
theorem dX0_removeByOther_12 : decode cX0_removeByOther 12 = .ok (.ifCond .lt 30, 3) := by decide +kernel
theorem dX0_removeByOther_15 : decode cX0_removeByOther 15 = .ok (.aload_n 1, 1) := by decide +kernel
theorem dX0_removeByOther_16 : decode cX0_removeByOther 16 = .ok (.aload_n 0, 1) := by decide +kernel
theorem dX0_removeByOther_17 : decode cX0_removeByOther 17 = .ok (.iload 4, 2) := by decide +kernel
theorem dX0_removeByOther_19 : decode cX0_removeByOther 19 = .ok (.invokevirtual 51, 3) := by decide +kernel
theorem dX0_removeByOther_22 : decode cX0_removeByOther 22 = .ok (.invokevirtual 85, 3) := by decide +kernel
theorem dX0_removeByOther_25 : decode cX0_removeByOther 25 = .ok (.iload_n 2, 1) := by decide +kernel
theorem dX0_removeByOther_26 : decode cX0_removeByOther 26 = .ok (.if_icmp .ne 10, 3) := by decide +kernel
theorem dX0_removeByOther_29 : decode cX0_removeByOther 29 = .ok (.aload_n 0, 1) := by decide +kernel
theorem dX0_removeByOther_30 : decode cX0_removeByOther 30 = .ok (.iload 4, 2) := by decide +kernel
theorem dX0_removeByOther_32 : decode cX0_removeByOther 32 = .ok (.invokevirtual 100, 3) := by decide +kernel
theorem dX0_removeByOther_35 : decode cX0_removeByOther 35 = .ok (.pop, 1) := by decide +kernel
theorem dX0_removeByOther_36 : decode cX0_removeByOther 36 = .ok (.iinc 4 (-1), 3) := by decide +kernel
theorem dX0_removeByOther_39 : decode cX0_removeByOther 39 = .ok (.goto (-29), 3) := by decide +kernel
theorem dX0_removeByOther_42 : decode cX0_removeByOther 42 = .ok (.iload_n 3, 1) := by decide +kernel
theorem dX0_removeByOther_43 : decode cX0_removeByOther 43 = .ok (.aload_n 0, 1) := by decide +kernel
theorem dX0_removeByOther_44 : decode cX0_removeByOther 44 = .ok (.getfield 25, 3) := by decide +kernel
theorem dX0_removeByOther_47 : decode cX0_removeByOther 47 = .ok (.isub, 1) := by decide +kernel
theorem dX0_removeByOther_48 : decode cX0_removeByOther 48 = .ok (.ireturn, 1) := by decide +kernel
set_option maxRecDepth 20000 in
theorem ggX0_enterAll_X0_size : GoodIn wsX0_enterAll wsX0_size := goodIn_r _ [5, 6, 47, 48, 49, 50, 51, 52, 53] (by decide +kernel) (by decide +kernel)
set_option maxRecDepth 20000 in
theorem gX0_enterAll_X0_size : GoodIn wsX0_enterAll (wsV RX0 103 RX0 yX0_size wsX0_size) := goodIn_app (goodIn_of _ (by decide +kernel)) ggX0_enterAll_X0_size
set_option maxRecDepth 20000 in
theorem ggX0_enterAll_X0_keyAt : GoodIn wsX0_enterAll wsX0_keyAt := goodIn_r _ [10, 11, 12, 13, 14, 4, 15, 6, 47, 48, 49, 50, 51, 52, 53] (by decide +kernel) (by decide +kernel)
set_option maxRecDepth 20000 in
theorem gX0_enterAll_X0_keyAt : GoodIn wsX0_enterAll (wsV RX0 51 RX0 yX0_keyAt wsX0_keyAt) := goodIn_app (goodIn_of _ (by decide +kernel)) ggX0_enterAll_X0_keyAt
set_option maxRecDepth 20000 in
theorem ggX0_enterAll_X0_valueAt : GoodIn wsX0_enterAll wsX0_valueAt := goodIn_r _ [19, 20, 12, 13, 14, 4, 15, 6, 47, 48, 49, 50, 51, 52, 53] (by decide +kernel) (by decide +kernel)
set_option maxRecDepth 20000 in
theorem gX0_enterAll_X0_valueAt : GoodIn wsX0_enterAll (wsV RX0 54 RX0 yX0_valueAt wsX0_valueAt) := goodIn_app (goodIn_of _ (by decide +kernel)) ggX0_enterAll_X0_valueAt
set_option maxRecDepth 20000 in
theorem ggX0_enterAll_X0_enter : GoodIn wsX0_enterAll wsX0_enter := goodIn_r _ [24, 11, 20, 25, 26, 27, 4, 28, 29, 30, 31, 32, 33, 34, 35, 36, 37, 6, 12, 13, 14, 15, 38, 39, 40, 41, 42, 43, 44, 45, 46, 47, 48, 49, 50, 51, 52, 53] (by decide +kernel) (by decide +kernel)
set_option maxRecDepth 20000 in
theorem gX0_enterAll_X0_enter : GoodIn wsX0_enterAll (wsV RX0 88 RX0 yX0_enter wsX0_enter) := goodIn_app (goodIn_of _ (by decide +kernel)) ggX0_enterAll_X0_enter
theorem dX0_enterAll_0 : decode cX0_enterAll 0 = .ok (.iconst 0, 1) := by decide +kernel
theorem dX0_enterAll_1 : decode cX0_enterAll 1 = .ok (.istore_n 2, 1) := by decide +kernel
theorem dX0_enterAll_2 : decode cX0_enterAll 2 = .ok (.iload_n 2, 1) := by decide +kernel
theorem dX0_enterAll_3 : decode cX0_enterAll 3 = .ok (.aload_n 1, 1) := by decide +kernel
theorem dX0_enterAll_4 : decode cX0_enterAll 4 = .ok (.invokevirtual 103, 3) := by decide +kernel
theorem dX0_enterAll_7 : decode cX0_enterAll 7 = .ok (.if_icmp .ge 24, 3) := by decide +kernel
theorem dX0_enterAll_10 : decode cX0_enterAll 10 = .ok (.aload_n 0, 1) := by decide +kernel
theorem dX0_enterAll_11 : decode cX0_enterAll 11 = .ok (.aload_n 1, 1) := by decide +kernel
theorem dX0_enterAll_12 : decode cX0_enterAll 12 = .ok (.iload_n 2, 1) := by decide +kernel
theorem dX0_enterAll_13 : decode cX0_enterAll 13 = .ok (.invokevirtual 51, 3) := by decide +kernel
theorem dX0_enterAll_16 : decode cX0_enterAll 16 = .ok (.aload_n 1, 1) := by decide +kernel
theorem dX0_enterAll_17 : decode cX0_enterAll 17 = .ok (.iload_n 2, 1) := by decide +kernel
theorem dX0_enterAll_18 : decode cX0_enterAll 18 = .ok (.invokevirtual 54, 3) := by decide +kernel
theorem dX0_enterAll_21 : decode cX0_enterAll 21 = .ok (.invokevirtual 88, 3) := by decide +kernel
theorem dX0_enterAll_24 : decode cX0_enterAll 24 = .ok (.pop, 1) := by decide +kernel
theorem dX0_enterAll_25 : decode cX0_enterAll 25 = .ok (.iinc 2 1, 3) := by decide +kernel
theorem dX0_enterAll_28 : decode cX0_enterAll 28 = .ok (.goto (-26), 3) := by decide +kernel
theorem dX0_enterAll_31 : decode cX0_enterAll 31 = .ok (.return_, 1) := by decide +kernel
set_option maxRecDepth 20000 in
theorem ggX0_becomeLike_X0_removeRange : GoodIn wsX0_becomeLike wsX0_removeRange := goodIn_r _ [7, 1, 8, 9, 10, 11, 12, 13, 14, 59, 60, 61, 62, 63, 64, 65] (by decide +kernel) (by decide +kernel)
set_option maxRecDepth 20000 in
theorem gX0_becomeLike_X0_removeRange : GoodIn wsX0_becomeLike (wsV RX0 82 RX0 yX0_removeRange wsX0_removeRange) := goodIn_app (goodIn_of _ (by decide +kernel)) ggX0_becomeLike_X0_removeRange
set_option maxRecDepth 20000 in
theorem ggX0_becomeLike_X0_order : GoodIn wsX0_becomeLike wsX0_order := goodIn_r _ [18, 2, 59, 60, 61, 62, 63, 64, 65] (by decide +kernel) (by decide +kernel)
set_option maxRecDepth 20000 in
theorem gX0_becomeLike_X0_order : GoodIn wsX0_becomeLike (wsV RX0 106 RX0 yX0_order wsX0_order) := goodIn_app (goodIn_of _ (by decide +kernel)) ggX0_becomeLike_X0_order
set_option maxRecDepth 20000 in
theorem ggX0_becomeLike_X0_enterAll : GoodIn wsX0_becomeLike wsX0_enterAll := goodIn_r _ [22, 23, 24, 25, 6, 26, 1, 27, 28, 29, 30, 8, 31, 32, 33, 34, 35, 36, 37, 38, 13, 39, 40, 41, 42, 43, 44, 45, 46, 47, 48, 49, 50, 2, 51, 52, 53, 54, 55, 56, 57, 58, 9, 10, 11, 12, 14, 59, 60, 61, 62, 63, 64, 65] (by decide +kernel) (by decide +kernel)
set_option maxRecDepth 20000 in
theorem gX0_becomeLike_X0_enterAll : GoodIn wsX0_becomeLike (wsV RX0 108 RX0 yX0_enterAll wsX0_enterAll) := goodIn_app (goodIn_of _ (by decide +kernel)) ggX0_becomeLike_X0_enterAll
theorem dX0_becomeLike_0 : decode cX0_becomeLike 0 = .ok (.aload_n 0, 1) := by decide +kernel
theorem dX0_becomeLike_1 : decode cX0_becomeLike 1 = .ok (.iconst 0, 1) := by decide +kernel
theorem dX0_becomeLike_2 : decode cX0_becomeLike 2 = .ok (.aload_n 0, 1) := by decide +kernel
theorem dX0_becomeLike_3 : decode cX0_becomeLike 3 = .ok (.getfield 25, 3) := by decide +kernel
theorem dX0_becomeLike_6 : decode cX0_becomeLike 6 = .ok (.invokevirtual 82, 3) := by decide +kernel
theorem dX0_becomeLike_9 : decode cX0_becomeLike 9 = .ok (.pop, 1) := by decide +kernel
theorem dX0_becomeLike_10 : decode cX0_becomeLike 10 = .ok (.aload_n 0, 1) := by decide +kernel
theorem dX0_becomeLike_11 : decode cX0_becomeLike 11 = .ok (.aload_n 1, 1) := by decide +kernel
theorem dX0_becomeLike_12 : decode cX0_becomeLike 12 = .ok (.invokevirtual 106, 3) := by decide +kernel
theorem dX0_becomeLike_15 : decode cX0_becomeLike 15 = .ok (.putfield 22, 3) := by decide +kernel
theorem dX0_becomeLike_18 : decode cX0_becomeLike 18 = .ok (.aload_n 0, 1) := by decide +kernel
theorem dX0_becomeLike_19 : decode cX0_becomeLike 19 = .ok (.aload_n 1, 1) := by decide +kernel
theorem dX0_becomeLike_20 : decode cX0_becomeLike 20 = .ok (.invokevirtual 108, 3) := by decide +kernel
theorem dX0_becomeLike_23 : decode cX0_becomeLike 23 = .ok (.return_, 1) := by decide +kernel
set_option maxRecDepth 20000 in
theorem ggX0_isLike_X0_size : GoodIn wsX0_isLike wsX0_size := goodIn_r _ [8, 1, 38, 39, 40, 41, 42, 43, 44] (by decide +kernel) (by decide +kernel)
set_option maxRecDepth 20000 in
theorem gX0_isLike_X0_size : GoodIn wsX0_isLike (wsV RX0 103 RX0 yX0_size wsX0_size) := goodIn_app (goodIn_of _ (by decide +kernel)) ggX0_isLike_X0_size
set_option maxRecDepth 20000 in
theorem ggX0_isLike_X0_valueOf : GoodIn wsX0_isLike wsX0_valueOf := goodIn_r _ [12, 13, 14, 15, 7, 16, 17, 18, 19, 20, 21, 22, 23, 24, 25, 1, 2, 26, 27, 28, 29, 30, 31, 32, 33, 34, 35, 36, 37, 3, 38, 39, 40, 41, 42, 43, 44] (by decide +kernel) (by decide +kernel)
set_option maxRecDepth 20000 in
theorem gX0_isLike_X0_valueOf : GoodIn wsX0_isLike (wsV RX0 45 RX0 yX0_valueOf wsX0_valueOf) := goodIn_app (goodIn_of _ (by decide +kernel)) ggX0_isLike_X0_valueOf
theorem dX0_isLike_0 : decode cX0_isLike 0 = .ok (.aload_n 0, 1) := by decide +kernel
theorem dX0_isLike_1 : decode cX0_isLike 1 = .ok (.getfield 25, 3) := by decide +kernel
theorem dX0_isLike_4 : decode cX0_isLike 4 = .ok (.aload_n 1, 1) := by decide +kernel
theorem dX0_isLike_5 : decode cX0_isLike 5 = .ok (.invokevirtual 103, 3) := by decide +kernel
theorem dX0_isLike_8 : decode cX0_isLike 8 = .ok (.if_icmp .eq 5, 3) := by decide +kernel
theorem dX0_isLike_11 : decode cX0_isLike 11 = .ok (.iconst 0, 1) := by decide +kernel
theorem dX0_isLike_12 : decode cX0_isLike 12 = .ok (.ireturn, 1) := by decide +kernel
theorem dX0_isLike_13 : decode cX0_isLike 13 = .ok (.iconst 0, 1) := by decide +kernel
theorem dX0_isLike_14 : decode cX0_isLike 14 = .ok (.istore_n 2, 1) := by decide +kernel
theorem dX0_isLike_15 : decode cX0_isLike 15 = .ok (.iload_n 2, 1) := by decide +kernel
theorem dX0_isLike_16 : decode cX0_isLike 16 = .ok (.aload_n 0, 1) := by decide +kernel
theorem dX0_isLike_17 : decode cX0_isLike 17 = .ok (.getfield 25, 3) := by decide +kernel
theorem dX0_isLike_20 : decode cX0_isLike 20 = .ok (.if_icmp .ge 30, 3) := by decide +kernel
theorem dX0_isLike_23 : decode cX0_isLike 23 = .ok (.aload_n 1, 1) := by decide +kernel
theorem dX0_isLike_24 : decode cX0_isLike 24 = .ok (.aload_n 0, 1) := by decide +kernel
theorem dX0_isLike_25 : decode cX0_isLike 25 = .ok (.getfield 15, 3) := by decide +kernel
theorem dX0_isLike_28 : decode cX0_isLike 28 = .ok (.iload_n 2, 1) := by decide +kernel
theorem dX0_isLike_29 : decode cX0_isLike 29 = .ok (.iaload, 1) := by decide +kernel
theorem dX0_isLike_30 : decode cX0_isLike 30 = .ok (.invokevirtual 45, 3) := by decide +kernel
theorem dX0_isLike_33 : decode cX0_isLike 33 = .ok (.aload_n 0, 1) := by decide +kernel
theorem dX0_isLike_34 : decode cX0_isLike 34 = .ok (.getfield 19, 3) := by decide +kernel
theorem dX0_isLike_37 : decode cX0_isLike 37 = .ok (.iload_n 2, 1) := by decide +kernel
theorem dX0_isLike_38 : decode cX0_isLike 38 = .ok (.iaload, 1) := by decide +kernel
theorem dX0_isLike_39 : decode cX0_isLike 39 = .ok (.if_icmp .eq 5, 3) := by decide +kernel
theorem dX0_isLike_42 : decode cX0_isLike 42 = .ok (.iconst 0, 1) := by decide +kernel
theorem dX0_isLike_43 : decode cX0_isLike 43 = .ok (.ireturn, 1) := by decide +kernel
theorem dX0_isLike_44 : decode cX0_isLike 44 = .ok (.iinc 2 1, 3) := by decide +kernel
theorem dX0_isLike_47 : decode cX0_isLike 47 = .ok (.goto (-32), 3) := by decide +kernel
theorem dX0_isLike_50 : decode cX0_isLike 50 = .ok (.iconst 1, 1) := by decide +kernel
theorem dX0_isLike_51 : decode cX0_isLike 51 = .ok (.ireturn, 1) := by decide +kernel
set_option maxRecDepth 20000 in
theorem ggX0_hasSameTotals_X0_size : GoodIn wsX0_hasSameTotals wsX0_size := goodIn_r _ [6, 1, 16, 17, 18, 19, 20, 21, 22] (by decide +kernel) (by decide +kernel)
set_option maxRecDepth 20000 in
theorem gX0_hasSameTotals_X0_size : GoodIn wsX0_hasSameTotals (wsV RX0 103 RX0 yX0_size wsX0_size) := goodIn_app (goodIn_of _ (by decide +kernel)) ggX0_hasSameTotals_X0_size
set_option maxRecDepth 20000 in
theorem ggX0_hasSameTotals_X0_sum : GoodIn wsX0_hasSameTotals wsX0_sum := goodIn_r _ [10, 11, 12, 13, 14, 5, 15, 1, 16, 17, 18, 19, 20, 21, 22] (by decide +kernel) (by decide +kernel)
set_option maxRecDepth 20000 in
theorem gX0_hasSameTotals_X0_sum : GoodIn wsX0_hasSameTotals (wsV RX0 112 RX0 yX0_sum wsX0_sum) := goodIn_app (goodIn_of _ (by decide +kernel)) ggX0_hasSameTotals_X0_sum
theorem dX0_hasSameTotals_0 : decode cX0_hasSameTotals 0 = .ok (.aload_n 0, 1) := by decide +kernel
theorem dX0_hasSameTotals_1 : decode cX0_hasSameTotals 1 = .ok (.getfield 25, 3) := by decide +kernel
theorem dX0_hasSameTotals_4 : decode cX0_hasSameTotals 4 = .ok (.aload_n 1, 1) := by decide +kernel
theorem dX0_hasSameTotals_5 : decode cX0_hasSameTotals 5 = .ok (.invokevirtual 103, 3) := by decide +kernel
theorem dX0_hasSameTotals_8 : decode cX0_hasSameTotals 8 = .ok (.if_icmp .ne 28, 3) := by decide +kernel
theorem dX0_hasSameTotals_11 : decode cX0_hasSameTotals 11 = .ok (.aload_n 0, 1) := by decide +kernel
theorem dX0_hasSameTotals_12 : decode cX0_hasSameTotals 12 = .ok (.iconst 0, 1) := by decide +kernel
theorem dX0_hasSameTotals_13 : decode cX0_hasSameTotals 13 = .ok (.aload_n 0, 1) := by decide +kernel
theorem dX0_hasSameTotals_14 : decode cX0_hasSameTotals 14 = .ok (.getfield 25, 3) := by decide +kernel
theorem dX0_hasSameTotals_17 : decode cX0_hasSameTotals 17 = .ok (.invokevirtual 112, 3) := by decide +kernel
theorem dX0_hasSameTotals_20 : decode cX0_hasSameTotals 20 = .ok (.aload_n 1, 1) := by decide +kernel
theorem dX0_hasSameTotals_21 : decode cX0_hasSameTotals 21 = .ok (.iconst 0, 1) := by decide +kernel
theorem dX0_hasSameTotals_22 : decode cX0_hasSameTotals 22 = .ok (.aload_n 1, 1) := by decide +kernel
theorem dX0_hasSameTotals_23 : decode cX0_hasSameTotals 23 = .ok (.invokevirtual 103, 3) := by decide +kernel
theorem dX0_hasSameTotals_26 : decode cX0_hasSameTotals 26 = .ok (.invokevirtual 112, 3) := by decide +kernel
theorem dX0_hasSameTotals_29 : decode cX0_hasSameTotals 29 = .ok (.if_icmp .ne 7, 3) := by decide +kernel
theorem dX0_hasSameTotals_32 : decode cX0_hasSameTotals 32 = .ok (.iconst 1, 1) := by decide +kernel
theorem dX0_hasSameTotals_33 : decode cX0_hasSameTotals 33 = .ok (.goto 4, 3) := by decide +kernel
theorem dX0_hasSameTotals_36 : decode cX0_hasSameTotals 36 = .ok (.iconst 0, 1) := by decide +kernel
theorem dX0_hasSameTotals_37 : decode cX0_hasSameTotals 37 = .ok (.ireturn, 1) := by decide +kernel
set_option maxRecDepth 20000 in
theorem ggX0_isInOrder_X0_keyAt : GoodIn wsX0_isInOrder wsX0_keyAt := goodIn_r _ [6, 7, 8, 9, 10, 5, 11, 1, 44, 45, 46, 47, 48, 49, 50] (by decide +kernel) (by decide +kernel)
set_option maxRecDepth 20000 in
theorem gX0_isInOrder_X0_keyAt : GoodIn wsX0_isInOrder (wsV RX0 51 RX0 yX0_keyAt wsX0_keyAt) := goodIn_app (goodIn_of _ (by decide +kernel)) ggX0_isInOrder_X0_keyAt
set_option maxRecDepth 20000 in
theorem ggX0_isInOrder_X0_isAhead : GoodIn wsX0_isInOrder wsX0_isAhead := goodIn_r _ [15, 16, 17, 18, 5, 19, 20, 44, 45, 46, 47, 48, 49, 50] (by decide +kernel) (by decide +kernel)
set_option maxRecDepth 20000 in
theorem gX0_isInOrder_X0_isAhead : GoodIn wsX0_isInOrder (wsV RX0 115 RX0 yX0_isAhead wsX0_isAhead) := goodIn_app (goodIn_of _ (by decide +kernel)) ggX0_isInOrder_X0_isAhead
set_option maxRecDepth 20000 in
theorem ggX0_isInOrder_X0_closest : GoodIn wsX0_isInOrder wsX0_closest := goodIn_r _ [24, 25, 26, 27, 28, 29, 30, 31, 32, 33, 34, 5, 35, 16, 17, 18, 19, 20, 36, 37, 38, 39, 1, 7, 2, 3, 4, 6, 8, 9, 10, 11, 40, 41, 42, 43, 44, 45, 46, 47, 48, 49, 50] (by decide +kernel) (by decide +kernel)
set_option maxRecDepth 20000 in
theorem gX0_isInOrder_X0_closest : GoodIn wsX0_isInOrder (wsV RX0 119 RX0 yX0_closest wsX0_closest) := goodIn_app (goodIn_of _ (by decide +kernel)) ggX0_isInOrder_X0_closest
set_option maxRecDepth 20000 in
theorem ggX0_isInOrder_X0_placeOf : GoodIn wsX0_isInOrder wsX0_placeOf := goodIn_r _ [35, 16, 17, 18, 5, 19, 20, 36, 37, 38, 39, 1, 7, 44, 45, 46, 47, 48, 49, 50] (by decide +kernel) (by decide +kernel)
set_option maxRecDepth 20000 in
theorem gX0_isInOrder_X0_placeOf : GoodIn wsX0_isInOrder (wsV RX0 48 RX0 yX0_placeOf wsX0_placeOf) := goodIn_app (goodIn_of _ (by decide +kernel)) ggX0_isInOrder_X0_placeOf
theorem dX0_isInOrder_0 : decode cX0_isInOrder 0 = .ok (.iconst 0, 1) := by decide +kernel
theorem dX0_isInOrder_1 : decode cX0_isInOrder 1 = .ok (.istore_n 1, 1) := by decide +kernel
theorem dX0_isInOrder_2 : decode cX0_isInOrder 2 = .ok (.iload_n 1, 1) := by decide +kernel
theorem dX0_isInOrder_3 : decode cX0_isInOrder 3 = .ok (.aload_n 0, 1) := by decide +kernel
theorem dX0_isInOrder_4 : decode cX0_isInOrder 4 = .ok (.getfield 25, 3) := by decide +kernel
theorem dX0_isInOrder_7 : decode cX0_isInOrder 7 = .ok (.if_icmp .ge 64, 3) := by decide +kernel
theorem dX0_isInOrder_10 : decode cX0_isInOrder 10 = .ok (.aload_n 0, 1) := by decide +kernel
theorem dX0_isInOrder_11 : decode cX0_isInOrder 11 = .ok (.iload_n 1, 1) := by decide +kernel
theorem dX0_isInOrder_12 : decode cX0_isInOrder 12 = .ok (.invokevirtual 51, 3) := by decide +kernel
theorem dX0_isInOrder_15 : decode cX0_isInOrder 15 = .ok (.istore_n 2, 1) := by decide +kernel
theorem dX0_isInOrder_16 : decode cX0_isInOrder 16 = .ok (.aload_n 0, 1) := by decide +kernel
theorem dX0_isInOrder_17 : decode cX0_isInOrder 17 = .ok (.iload_n 1, 1) := by decide +kernel
theorem dX0_isInOrder_18 : decode cX0_isInOrder 18 = .ok (.iconst 1, 1) := by decide +kernel
theorem dX0_isInOrder_19 : decode cX0_isInOrder 19 = .ok (.isub, 1) := by decide +kernel
theorem dX0_isInOrder_20 : decode cX0_isInOrder 20 = .ok (.invokevirtual 51, 3) := by decide +kernel
theorem dX0_isInOrder_23 : decode cX0_isInOrder 23 = .ok (.istore_n 3, 1) := by decide +kernel
theorem dX0_isInOrder_24 : decode cX0_isInOrder 24 = .ok (.iload_n 1, 1) := by decide +kernel
theorem dX0_isInOrder_25 : decode cX0_isInOrder 25 = .ok (.ifCond .le 14, 3) := by decide +kernel
theorem dX0_isInOrder_28 : decode cX0_isInOrder 28 = .ok (.aload_n 0, 1) := by decide +kernel
theorem dX0_isInOrder_29 : decode cX0_isInOrder 29 = .ok (.iload_n 3, 1) := by decide +kernel
theorem dX0_isInOrder_30 : decode cX0_isInOrder 30 = .ok (.iload_n 2, 1) := by decide +kernel
theorem dX0_isInOrder_31 : decode cX0_isInOrder 31 = .ok (.invokevirtual 115, 3) := by decide +kernel
theorem dX0_isInOrder_34 : decode cX0_isInOrder 34 = .ok (.ifCond .ne 5, 3) := by decide +kernel
theorem dX0_isInOrder_37 : decode cX0_isInOrder 37 = .ok (.iconst 0, 1) := by decide +kernel
theorem dX0_isInOrder_38 : decode cX0_isInOrder 38 = .ok (.ireturn, 1) := by decide +kernel
theorem dX0_isInOrder_39 : decode cX0_isInOrder 39 = .ok (.aload_n 0, 1) := by decide +kernel
theorem dX0_isInOrder_40 : decode cX0_isInOrder 40 = .ok (.iload_n 2, 1) := by decide +kernel
theorem dX0_isInOrder_41 : decode cX0_isInOrder 41 = .ok (.iconst 0, 1) := by decide +kernel
theorem dX0_isInOrder_42 : decode cX0_isInOrder 42 = .ok (.iconst 0, 1) := by decide +kernel
theorem dX0_isInOrder_43 : decode cX0_isInOrder 43 = .ok (.aload_n 0, 1) := by decide +kernel
theorem dX0_isInOrder_44 : decode cX0_isInOrder 44 = .ok (.getfield 25, 3) := by decide +kernel
theorem dX0_isInOrder_47 : decode cX0_isInOrder 47 = .ok (.invokevirtual 119, 3) := by decide +kernel
theorem dX0_isInOrder_50 : decode cX0_isInOrder 50 = .ok (.iload_n 3, 1) := by decide +kernel
theorem dX0_isInOrder_51 : decode cX0_isInOrder 51 = .ok (.if_icmp .ne 12, 3) := by decide +kernel
theorem dX0_isInOrder_54 : decode cX0_isInOrder 54 = .ok (.aload_n 0, 1) := by decide +kernel
theorem dX0_isInOrder_55 : decode cX0_isInOrder 55 = .ok (.iload_n 2, 1) := by decide +kernel
theorem dX0_isInOrder_56 : decode cX0_isInOrder 56 = .ok (.invokevirtual 48, 3) := by decide +kernel
theorem dX0_isInOrder_59 : decode cX0_isInOrder 59 = .ok (.iload_n 1, 1) := by decide +kernel
theorem dX0_isInOrder_60 : decode cX0_isInOrder 60 = .ok (.if_icmp .eq 5, 3) := by decide +kernel
theorem dX0_isInOrder_63 : decode cX0_isInOrder 63 = .ok (.iconst 0, 1) := by decide +kernel
theorem dX0_isInOrder_64 : decode cX0_isInOrder 64 = .ok (.ireturn, 1) := by decide +kernel
theorem dX0_isInOrder_65 : decode cX0_isInOrder 65 = .ok (.iinc 1 1, 3) := by decide +kernel
theorem dX0_isInOrder_68 : decode cX0_isInOrder 68 = .ok (.goto (-66), 3) := by decide +kernel
theorem dX0_isInOrder_71 : decode cX0_isInOrder 71 = .ok (.iconst 1, 1) := by decide +kernel
theorem dX0_isInOrder_72 : decode cX0_isInOrder 72 = .ok (.ireturn, 1) := by decide +kernel
set_option maxRecDepth 20000 in
theorem ggX0_text_J4_init_da8c8 : GoodIn wsX0_text wsJ4_init_da8c8 := goodIn_r _ [6, 7, 8, 9, 10, 11, 12, 13, 14, 15, 16, 17, 18, 19, 20, 21, 22, 23, 24, 25, 275, 276, 277, 278] (by decide +kernel) (by decide +kernel)
set_option maxRecDepth 20000 in
theorem gX0_text_J4_init_da8c8 : GoodIn wsX0_text (wsJ4_init_da8c8) := ggX0_text_J4_init_da8c8
set_option maxRecDepth 20000 in
theorem ggX0_text_J4_append_cf468 : GoodIn wsX0_text wsJ4_append_cf468 := goodIn_r _ [29, 30, 31, 32, 33, 9, 34, 35, 16, 36, 37, 38, 39, 40, 17, 41, 42, 43, 44, 45, 46, 47, 48, 49, 50, 51, 52, 53, 54, 55, 56, 57, 58, 59, 60, 61, 62, 63, 64, 65, 66, 67, 68, 15, 69, 70, 71, 72, 73, 74, 75, 76, 77, 78, 79, 80, 14, 81, 82, 83, 84, 85, 86, 87, 88, 89, 18, 19, 20, 21, 22, 23, 24, 25, 90, 91, 92, 93, 94, 95, 96, 97, 98, 99, 100, 101, 102, 103, 104, 105, 106, 107, 108, 109, 110, 111, 112, 113, 114, 115, 116, 117, 118, 119, 120, 121, 122, 123, 124, 125, 126, 127, 128, 275, 276, 277, 278] (by decide +kernel) (by decide +kernel)
set_option maxRecDepth 20000 in
theorem gX0_text_J4_append_cf468 : GoodIn wsX0_text (wsV RX0 126 RJ4 yJ4_append_cf468 wsJ4_append_cf468) := goodIn_app (goodIn_of _ (by decide +kernel)) ggX0_text_J4_append_cf468
set_option maxRecDepth 20000 in
theorem ggX0_text_J4_append_15ec4 : GoodIn wsX0_text wsJ4_append_15ec4 := goodIn_r _ [132, 133, 134, 32, 135, 9, 136, 35, 137, 138, 139, 140, 141, 16, 36, 37, 38, 39, 40, 17, 41, 42, 43, 44, 45, 46, 47, 48, 49, 50, 51, 52, 53, 54, 55, 56, 57, 58, 59, 60, 61, 62, 63, 64, 65, 66, 67, 68, 15, 69, 70, 71, 72, 73, 74, 75, 76, 77, 78, 79, 80, 14, 142, 143, 20, 144, 114, 145, 146, 147, 99, 100, 101, 148, 149, 104, 150, 106, 151, 152, 109, 153, 111, 112, 113, 115, 116, 154, 155, 156, 157, 158, 159, 160, 161, 162, 163, 164, 165, 166, 167, 168, 169, 170, 171, 172, 173, 174, 175, 85, 86, 87, 88, 89, 18, 19, 21, 22, 23, 24, 25, 90, 91, 83, 92, 93, 94, 95, 96, 97, 98, 102, 103, 105, 107, 108, 110, 176, 177, 178, 179, 180, 181, 275, 276, 277, 278, 279, 280, 281, 282] (by decide +kernel) (by decide +kernel)
set_option maxRecDepth 20000 in
theorem gX0_text_J4_append_15ec4 : GoodIn wsX0_text (wsV RX0 132 RJ4 yJ4_append_15ec4 wsJ4_append_15ec4) := goodIn_app (goodIn_of _ (by decide +kernel)) ggX0_text_J4_append_15ec4
set_option maxRecDepth 20000 in
theorem ggX0_text_X0_keyAt : GoodIn wsX0_text wsX0_keyAt := goodIn_r _ [186, 187, 188, 189, 190, 185, 191, 192, 283, 284, 285, 286, 287, 288, 289] (by decide +kernel) (by decide +kernel)
set_option maxRecDepth 20000 in
theorem gX0_text_X0_keyAt : GoodIn wsX0_text (wsV RX0 51 RX0 yX0_keyAt wsX0_keyAt) := goodIn_app (goodIn_of _ (by decide +kernel)) ggX0_text_X0_keyAt
set_option maxRecDepth 20000 in
theorem ggX0_text_J4_append_bf812 : GoodIn wsX0_text wsJ4_append_bf812 := goodIn_r _ [196, 197, 198, 32, 199, 9, 200, 35, 16, 201, 202, 203, 204, 36, 37, 38, 39, 40, 17, 41, 42, 43, 44, 45, 46, 47, 48, 49, 50, 51, 52, 53, 54, 55, 56, 57, 58, 59, 60, 61, 62, 63, 64, 65, 66, 67, 68, 15, 69, 70, 71, 72, 73, 74, 75, 76, 77, 78, 79, 80, 14, 205, 206, 207, 208, 209, 210, 211, 20, 212, 114, 145, 146, 147, 99, 100, 101, 148, 149, 104, 150, 106, 151, 152, 109, 153, 213, 214, 215, 216, 217, 111, 112, 113, 115, 116, 275, 276, 277, 278] (by decide +kernel) (by decide +kernel)
set_option maxRecDepth 20000 in
theorem gX0_text_J4_append_bf812 : GoodIn wsX0_text (wsV RX0 135 RJ4 yJ4_append_bf812 wsJ4_append_bf812) := goodIn_app (goodIn_of _ (by decide +kernel)) ggX0_text_J4_append_bf812
set_option maxRecDepth 20000 in
theorem ggX0_text_X0_valueAt : GoodIn wsX0_text wsX0_valueAt := goodIn_r _ [221, 222, 188, 189, 190, 185, 191, 192, 283, 284, 285, 286, 287, 288, 289] (by decide +kernel) (by decide +kernel)
set_option maxRecDepth 20000 in
theorem gX0_text_X0_valueAt : GoodIn wsX0_text (wsV RX0 54 RX0 yX0_valueAt wsX0_valueAt) := goodIn_app (goodIn_of _ (by decide +kernel)) ggX0_text_X0_valueAt
set_option maxRecDepth 20000 in
theorem ggX0_text_J4_toString_0e30d : GoodIn wsX0_text wsJ4_toString_0e30d := goodIn_r _ [226, 227, 228, 104, 229, 230, 231, 232, 233, 234, 235, 12, 13, 164, 158, 163, 236, 237, 238, 239, 240, 9, 241, 16, 242, 243, 244, 245, 246, 3, 247, 248, 32, 249, 250, 35, 251, 77, 78, 79, 80, 14, 17, 252, 253, 61, 254, 63, 64, 65, 66, 67, 68, 255, 256, 257, 15, 69, 70, 53, 71, 72, 73, 74, 75, 258, 259, 260, 261, 2, 262, 263, 20, 264, 265, 266, 267, 96, 97, 98, 99, 100, 101, 102, 103, 105, 106, 107, 108, 109, 110, 268, 269, 270, 114, 115, 116, 22, 23, 24, 25, 271, 272, 273, 274, 279, 280, 281, 282, 275, 276, 277, 278] (by decide +kernel) (by decide +kernel)
set_option maxRecDepth 20000 in
theorem gX0_text_J4_toString_0e30d : GoodIn wsX0_text (wsV RX0 138 RJ4 yJ4_toString_0e30d wsJ4_toString_0e30d) := goodIn_app (goodIn_of _ (by decide +kernel)) ggX0_text_J4_toString_0e30d
theorem dX0_text_0 : decode cX0_text 0 = .ok (.new 123, 3) := by decide +kernel
theorem dX0_text_3 : decode cX0_text 3 = .ok (.dup, 1) := by decide +kernel
theorem dX0_text_4 : decode cX0_text 4 = .ok (.invokespecial 125, 3) := by decide +kernel
theorem dX0_text_7 : decode cX0_text 7 = .ok (.astore_n 3, 1) := by decide +kernel
theorem dX0_text_8 : decode cX0_text 8 = .ok (.aload_n 3, 1) := by decide +kernel
theorem dX0_text_9 : decode cX0_text 9 = .ok (.bipush 123, 2) := by decide +kernel
theorem dX0_text_11 : decode cX0_text 11 = .ok (.invokevirtual 126, 3) := by decide +kernel
theorem dX0_text_14 : decode cX0_text 14 = .ok (.pop, 1) := by decide +kernel
theorem dX0_text_15 : decode cX0_text 15 = .ok (.iload_n 1, 1) := by decide +kernel
theorem dX0_text_16 : decode cX0_text 16 = .ok (.istore 4, 2) := by decide +kernel
theorem dX0_text_18 : decode cX0_text 18 = .ok (.iload 4, 2) := by decide +kernel
theorem dX0_text_20 : decode cX0_text 20 = .ok (.iload_n 2, 1) := by decide +kernel
theorem dX0_text_21 : decode cX0_text 21 = .ok (.if_icmp .ge 47, 3) := by decide +kernel
theorem dX0_text_24 : decode cX0_text 24 = .ok (.iload 4, 2) := by decide +kernel
theorem dX0_text_26 : decode cX0_text 26 = .ok (.iload_n 1, 1) := by decide +kernel
theorem dX0_text_27 : decode cX0_text 27 = .ok (.if_icmp .le 10, 3) := by decide +kernel
theorem dX0_text_30 : decode cX0_text 30 = .ok (.aload_n 3, 1) := by decide +kernel
theorem dX0_text_31 : decode cX0_text 31 = .ok (.ldc 130, 2) := by decide +kernel
theorem dX0_text_33 : decode cX0_text 33 = .ok (.invokevirtual 132, 3) := by decide +kernel
theorem dX0_text_36 : decode cX0_text 36 = .ok (.pop, 1) := by decide +kernel
theorem dX0_text_37 : decode cX0_text 37 = .ok (.aload_n 3, 1) := by decide +kernel
theorem dX0_text_38 : decode cX0_text 38 = .ok (.aload_n 0, 1) := by decide +kernel
theorem dX0_text_39 : decode cX0_text 39 = .ok (.iload 4, 2) := by decide +kernel
theorem dX0_text_41 : decode cX0_text 41 = .ok (.invokevirtual 51, 3) := by decide +kernel
theorem dX0_text_44 : decode cX0_text 44 = .ok (.invokevirtual 135, 3) := by decide +kernel
theorem dX0_text_47 : decode cX0_text 47 = .ok (.bipush 61, 2) := by decide +kernel
theorem dX0_text_49 : decode cX0_text 49 = .ok (.invokevirtual 126, 3) := by decide +kernel
theorem dX0_text_52 : decode cX0_text 52 = .ok (.aload_n 0, 1) := by decide +kernel
theorem dX0_text_53 : decode cX0_text 53 = .ok (.iload 4, 2) := by decide +kernel
theorem dX0_text_55 : decode cX0_text 55 = .ok (.invokevirtual 54, 3) := by decide +kernel
theorem dX0_text_58 : decode cX0_text 58 = .ok (.invokevirtual 135, 3) := by decide +kernel
theorem dX0_text_61 : decode cX0_text 61 = .ok (.pop, 1) := by decide +kernel
theorem dX0_text_62 : decode cX0_text 62 = .ok (.iinc 4 1, 3) := by decide +kernel
theorem dX0_text_65 : decode cX0_text 65 = .ok (.goto (-47), 3) := by decide +kernel
theorem dX0_text_68 : decode cX0_text 68 = .ok (.aload_n 3, 1) := by decide +kernel
theorem dX0_text_69 : decode cX0_text 69 = .ok (.bipush 125, 2) := by decide +kernel
theorem dX0_text_71 : decode cX0_text 71 = .ok (.invokevirtual 126, 3) := by decide +kernel
theorem dX0_text_74 : decode cX0_text 74 = .ok (.pop, 1) := by decide +kernel
theorem dX0_text_75 : decode cX0_text 75 = .ok (.aload_n 3, 1) := by decide +kernel
theorem dX0_text_76 : decode cX0_text 76 = .ok (.invokevirtual 138, 3) := by decide +kernel
theorem dX0_text_79 : decode cX0_text 79 = .ok (.areturn, 1) := by decide +kernel
set_option maxRecDepth 20000 in
theorem ggX0_textLength_X0_keyAt : GoodIn wsX0_textLength wsX0_keyAt := goodIn_r _ [5, 6, 7, 8, 9, 4, 10, 11, 24, 25, 26, 27, 28, 29, 30] (by decide +kernel) (by decide +kernel)
set_option maxRecDepth 20000 in
theorem gX0_textLength_X0_keyAt : GoodIn wsX0_textLength (wsV RX0 51 RX0 yX0_keyAt wsX0_keyAt) := goodIn_app (goodIn_of _ (by decide +kernel)) ggX0_textLength_X0_keyAt
set_option maxRecDepth 20000 in
theorem ggX0_textLength_X0_signs : GoodIn wsX0_textLength wsX0_signs := goodIn_r _ [14, 15, 16, 17, 18] (by decide +kernel) (by decide +kernel)
set_option maxRecDepth 20000 in
theorem gX0_textLength_X0_signs : GoodIn wsX0_textLength (va_wsS RX0 142 yX0_signs wsX0_signs) := goodIn_app (goodIn_of _ (by decide +kernel)) ggX0_textLength_X0_signs
set_option maxRecDepth 20000 in
theorem ggX0_textLength_X0_valueAt : GoodIn wsX0_textLength wsX0_valueAt := goodIn_r _ [22, 23, 7, 8, 9, 4, 10, 11, 24, 25, 26, 27, 28, 29, 30] (by decide +kernel) (by decide +kernel)
set_option maxRecDepth 20000 in
theorem gX0_textLength_X0_valueAt : GoodIn wsX0_textLength (wsV RX0 54 RX0 yX0_valueAt wsX0_valueAt) := goodIn_app (goodIn_of _ (by decide +kernel)) ggX0_textLength_X0_valueAt
theorem dX0_textLength_0 : decode cX0_textLength 0 = .ok (.iconst 2, 1) := by decide +kernel
theorem dX0_textLength_1 : decode cX0_textLength 1 = .ok (.istore_n 3, 1) := by decide +kernel
theorem dX0_textLength_2 : decode cX0_textLength 2 = .ok (.iload_n 1, 1) := by decide +kernel
theorem dX0_textLength_3 : decode cX0_textLength 3 = .ok (.istore 4, 2) := by decide +kernel
theorem dX0_textLength_5 : decode cX0_textLength 5 = .ok (.iload 4, 2) := by decide +kernel
theorem dX0_textLength_7 : decode cX0_textLength 7 = .ok (.iload_n 2, 1) := by decide +kernel
theorem dX0_textLength_8 : decode cX0_textLength 8 = .ok (.if_icmp .ge 47, 3) := by decide +kernel
theorem dX0_textLength_11 : decode cX0_textLength 11 = .ok (.iload_n 3, 1) := by decide +kernel
theorem dX0_textLength_12 : decode cX0_textLength 12 = .ok (.iload 4, 2) := by decide +kernel
theorem dX0_textLength_14 : decode cX0_textLength 14 = .ok (.iload_n 1, 1) := by decide +kernel
theorem dX0_textLength_15 : decode cX0_textLength 15 = .ok (.if_icmp .le 7, 3) := by decide +kernel
theorem dX0_textLength_18 : decode cX0_textLength 18 = .ok (.iconst 2, 1) := by decide +kernel
theorem dX0_textLength_19 : decode cX0_textLength 19 = .ok (.goto 4, 3) := by decide +kernel
theorem dX0_textLength_22 : decode cX0_textLength 22 = .ok (.iconst 0, 1) := by decide +kernel
theorem dX0_textLength_23 : decode cX0_textLength 23 = .ok (.iadd, 1) := by decide +kernel
theorem dX0_textLength_24 : decode cX0_textLength 24 = .ok (.istore_n 3, 1) := by decide +kernel
theorem dX0_textLength_25 : decode cX0_textLength 25 = .ok (.iload_n 3, 1) := by decide +kernel
theorem dX0_textLength_26 : decode cX0_textLength 26 = .ok (.aload_n 0, 1) := by decide +kernel
theorem dX0_textLength_27 : decode cX0_textLength 27 = .ok (.iload 4, 2) := by decide +kernel
theorem dX0_textLength_29 : decode cX0_textLength 29 = .ok (.invokevirtual 51, 3) := by decide +kernel
theorem dX0_textLength_32 : decode cX0_textLength 32 = .ok (.invokestatic 142, 3) := by decide +kernel
theorem dX0_textLength_35 : decode cX0_textLength 35 = .ok (.iconst 1, 1) := by decide +kernel
theorem dX0_textLength_36 : decode cX0_textLength 36 = .ok (.iadd, 1) := by decide +kernel
theorem dX0_textLength_37 : decode cX0_textLength 37 = .ok (.aload_n 0, 1) := by decide +kernel
theorem dX0_textLength_38 : decode cX0_textLength 38 = .ok (.iload 4, 2) := by decide +kernel
theorem dX0_textLength_40 : decode cX0_textLength 40 = .ok (.invokevirtual 54, 3) := by decide +kernel
theorem dX0_textLength_43 : decode cX0_textLength 43 = .ok (.invokestatic 142, 3) := by decide +kernel
theorem dX0_textLength_46 : decode cX0_textLength 46 = .ok (.iadd, 1) := by decide +kernel
theorem dX0_textLength_47 : decode cX0_textLength 47 = .ok (.iadd, 1) := by decide +kernel
theorem dX0_textLength_48 : decode cX0_textLength 48 = .ok (.istore_n 3, 1) := by decide +kernel
theorem dX0_textLength_49 : decode cX0_textLength 49 = .ok (.iinc 4 1, 3) := by decide +kernel
theorem dX0_textLength_52 : decode cX0_textLength 52 = .ok (.goto (-47), 3) := by decide +kernel
theorem dX0_textLength_55 : decode cX0_textLength 55 = .ok (.iload_n 3, 1) := by decide +kernel
theorem dX0_textLength_56 : decode cX0_textLength 56 = .ok (.ireturn, 1) := by decide +kernel
theorem dX0_signs_0 : decode cX0_signs 0 = .ok (.iload_n 0, 1) := by decide +kernel
theorem dX0_signs_1 : decode cX0_signs 1 = .ok (.invokestatic 145, 3) := by decide +kernel
theorem dX0_signs_4 : decode cX0_signs 4 = .ok (.istore_n 1, 1) := by decide +kernel
theorem dX0_signs_5 : decode cX0_signs 5 = .ok (.iload_n 1, 1) := by decide +kernel
theorem dX0_signs_6 : decode cX0_signs 6 = .ok (.bipush 10, 2) := by decide +kernel
theorem dX0_signs_8 : decode cX0_signs 8 = .ok (.if_icmp .ge 7, 3) := by decide +kernel
theorem dX0_signs_11 : decode cX0_signs 11 = .ok (.iconst 1, 1) := by decide +kernel
theorem dX0_signs_12 : decode cX0_signs 12 = .ok (.goto 25, 3) := by decide +kernel
theorem dX0_signs_15 : decode cX0_signs 15 = .ok (.iload_n 1, 1) := by decide +kernel
theorem dX0_signs_16 : decode cX0_signs 16 = .ok (.bipush 100, 2) := by decide +kernel
theorem dX0_signs_18 : decode cX0_signs 18 = .ok (.if_icmp .ge 7, 3) := by decide +kernel
theorem dX0_signs_21 : decode cX0_signs 21 = .ok (.iconst 2, 1) := by decide +kernel
theorem dX0_signs_22 : decode cX0_signs 22 = .ok (.goto 15, 3) := by decide +kernel
theorem dX0_signs_25 : decode cX0_signs 25 = .ok (.iload_n 1, 1) := by decide +kernel
theorem dX0_signs_26 : decode cX0_signs 26 = .ok (.sipush 1000, 3) := by decide +kernel
theorem dX0_signs_29 : decode cX0_signs 29 = .ok (.if_icmp .ge 7, 3) := by decide +kernel
theorem dX0_signs_32 : decode cX0_signs 32 = .ok (.iconst 3, 1) := by decide +kernel
theorem dX0_signs_33 : decode cX0_signs 33 = .ok (.goto 4, 3) := by decide +kernel
theorem dX0_signs_36 : decode cX0_signs 36 = .ok (.iconst 4, 1) := by decide +kernel
theorem dX0_signs_37 : decode cX0_signs 37 = .ok (.istore_n 2, 1) := by decide +kernel
theorem dX0_signs_38 : decode cX0_signs 38 = .ok (.iload_n 0, 1) := by decide +kernel
theorem dX0_signs_39 : decode cX0_signs 39 = .ok (.ifCond .ge 9, 3) := by decide +kernel
theorem dX0_signs_42 : decode cX0_signs 42 = .ok (.iload_n 2, 1) := by decide +kernel
theorem dX0_signs_43 : decode cX0_signs 43 = .ok (.iconst 1, 1) := by decide +kernel
theorem dX0_signs_44 : decode cX0_signs 44 = .ok (.iadd, 1) := by decide +kernel
theorem dX0_signs_45 : decode cX0_signs 45 = .ok (.goto 4, 3) := by decide +kernel
theorem dX0_signs_48 : decode cX0_signs 48 = .ok (.iload_n 2, 1) := by decide +kernel
theorem dX0_signs_49 : decode cX0_signs 49 = .ok (.ireturn, 1) := by decide +kernel
theorem dX0_bounded_0 : decode cX0_bounded 0 = .ok (.sipush (-9999), 3) := by decide +kernel
theorem dX0_bounded_3 : decode cX0_bounded 3 = .ok (.sipush 9999, 3) := by decide +kernel
theorem dX0_bounded_6 : decode cX0_bounded 6 = .ok (.iload_n 0, 1) := by decide +kernel
theorem dX0_bounded_7 : decode cX0_bounded 7 = .ok (.invokestatic 60, 3) := by decide +kernel
theorem dX0_bounded_10 : decode cX0_bounded 10 = .ok (.invokestatic 69, 3) := by decide +kernel
theorem dX0_bounded_13 : decode cX0_bounded 13 = .ok (.ireturn, 1) := by decide +kernel
set_option maxRecDepth 20000 in
theorem ggX1_init_X0_weight : GoodIn wsX1_init wsX0_weight := goodIn_r _ [19, 20, 28, 29, 30, 31, 32, 33, 34] (by decide +kernel) (by decide +kernel)
set_option maxRecDepth 20000 in
theorem gX1_init_X0_weight : GoodIn wsX1_init (wsV RX1 29 RX0 yX0_weight wsX0_weight) := goodIn_app (goodIn_of _ (by decide +kernel)) ggX1_init_X0_weight
theorem dX1_init_0 : decode cX1_init 0 = .ok (.aload_n 0, 1) := by decide +kernel
theorem dX1_init_1 : decode cX1_init 1 = .ok (.invokespecial 3, 3) := by decide +kernel
theorem dX1_init_4 : decode cX1_init 4 = .ok (.aload_n 0, 1) := by decide +kernel
theorem dX1_init_5 : decode cX1_init 5 = .ok (.aload_n 1, 1) := by decide +kernel
theorem dX1_init_6 : decode cX1_init 6 = .ok (.putfield 9, 3) := by decide +kernel
theorem dX1_init_9 : decode cX1_init 9 = .ok (.aload_n 0, 1) := by decide +kernel
theorem dX1_init_10 : decode cX1_init 10 = .ok (.iload_n 2, 1) := by decide +kernel
theorem dX1_init_11 : decode cX1_init 11 = .ok (.putfield 15, 3) := by decide +kernel
theorem dX1_init_14 : decode cX1_init 14 = .ok (.aload_n 0, 1) := by decide +kernel
theorem dX1_init_15 : decode cX1_init 15 = .ok (.iload_n 3, 1) := by decide +kernel
theorem dX1_init_16 : decode cX1_init 16 = .ok (.putfield 19, 3) := by decide +kernel
theorem dX1_init_19 : decode cX1_init 19 = .ok (.aload_n 0, 1) := by decide +kernel
theorem dX1_init_20 : decode cX1_init 20 = .ok (.iload 4, 2) := by decide +kernel
theorem dX1_init_22 : decode cX1_init 22 = .ok (.putfield 23, 3) := by decide +kernel
theorem dX1_init_25 : decode cX1_init 25 = .ok (.aload_n 0, 1) := by decide +kernel
theorem dX1_init_26 : decode cX1_init 26 = .ok (.iload 5, 2) := by decide +kernel
theorem dX1_init_28 : decode cX1_init 28 = .ok (.putfield 26, 3) := by decide +kernel
theorem dX1_init_31 : decode cX1_init 31 = .ok (.iload_n 2, 1) := by decide +kernel
theorem dX1_init_32 : decode cX1_init 32 = .ok (.sipush (-10000), 3) := by decide +kernel
theorem dX1_init_35 : decode cX1_init 35 = .ok (.if_icmp .ne 7, 3) := by decide +kernel
theorem dX1_init_38 : decode cX1_init 38 = .ok (.iconst 0, 1) := by decide +kernel
theorem dX1_init_39 : decode cX1_init 39 = .ok (.goto 18, 3) := by decide +kernel
theorem dX1_init_42 : decode cX1_init 42 = .ok (.aload_n 1, 1) := by decide +kernel
theorem dX1_init_43 : decode cX1_init 43 = .ok (.iload_n 2, 1) := by decide +kernel
theorem dX1_init_44 : decode cX1_init 44 = .ok (.invokevirtual 29, 3) := by decide +kernel
theorem dX1_init_47 : decode cX1_init 47 = .ok (.iload_n 3, 1) := by decide +kernel
theorem dX1_init_48 : decode cX1_init 48 = .ok (.ifCond .eq 7, 3) := by decide +kernel
theorem dX1_init_51 : decode cX1_init 51 = .ok (.iconst 0, 1) := by decide +kernel
theorem dX1_init_52 : decode cX1_init 52 = .ok (.goto 4, 3) := by decide +kernel
theorem dX1_init_55 : decode cX1_init 55 = .ok (.iconst 1, 1) := by decide +kernel
theorem dX1_init_56 : decode cX1_init 56 = .ok (.iadd, 1) := by decide +kernel
theorem dX1_init_57 : decode cX1_init 57 = .ok (.istore 6, 2) := by decide +kernel
theorem dX1_init_59 : decode cX1_init 59 = .ok (.iload 4, 2) := by decide +kernel
theorem dX1_init_61 : decode cX1_init 61 = .ok (.sipush (-10000), 3) := by decide +kernel
theorem dX1_init_64 : decode cX1_init 64 = .ok (.if_icmp .ne 9, 3) := by decide +kernel
theorem dX1_init_67 : decode cX1_init 67 = .ok (.sipush 1024, 3) := by decide +kernel
theorem dX1_init_70 : decode cX1_init 70 = .ok (.goto 20, 3) := by decide +kernel
theorem dX1_init_73 : decode cX1_init 73 = .ok (.aload_n 1, 1) := by decide +kernel
theorem dX1_init_74 : decode cX1_init 74 = .ok (.iload 4, 2) := by decide +kernel
theorem dX1_init_76 : decode cX1_init 76 = .ok (.invokevirtual 29, 3) := by decide +kernel
theorem dX1_init_79 : decode cX1_init 79 = .ok (.iload 5, 2) := by decide +kernel
theorem dX1_init_81 : decode cX1_init 81 = .ok (.ifCond .eq 7, 3) := by decide +kernel
theorem dX1_init_84 : decode cX1_init 84 = .ok (.iconst 1, 1) := by decide +kernel
theorem dX1_init_85 : decode cX1_init 85 = .ok (.goto 4, 3) := by decide +kernel
theorem dX1_init_88 : decode cX1_init 88 = .ok (.iconst 0, 1) := by decide +kernel
theorem dX1_init_89 : decode cX1_init 89 = .ok (.iadd, 1) := by decide +kernel
theorem dX1_init_90 : decode cX1_init 90 = .ok (.istore 7, 2) := by decide +kernel
theorem dX1_init_92 : decode cX1_init 92 = .ok (.aload_n 0, 1) := by decide +kernel
theorem dX1_init_93 : decode cX1_init 93 = .ok (.iload 6, 2) := by decide +kernel
theorem dX1_init_95 : decode cX1_init 95 = .ok (.putfield 35, 3) := by decide +kernel
theorem dX1_init_98 : decode cX1_init 98 = .ok (.aload_n 0, 1) := by decide +kernel
theorem dX1_init_99 : decode cX1_init 99 = .ok (.iload 6, 2) := by decide +kernel
theorem dX1_init_101 : decode cX1_init 101 = .ok (.iload 7, 2) := by decide +kernel
theorem dX1_init_103 : decode cX1_init 103 = .ok (.invokestatic 38, 3) := by decide +kernel
theorem dX1_init_106 : decode cX1_init 106 = .ok (.putfield 44, 3) := by decide +kernel
theorem dX1_init_109 : decode cX1_init 109 = .ok (.return_, 1) := by decide +kernel
theorem dX1_book_0 : decode cX1_book 0 = .ok (.aload_n 0, 1) := by decide +kernel
theorem dX1_book_1 : decode cX1_book 1 = .ok (.getfield 9, 3) := by decide +kernel
theorem dX1_book_4 : decode cX1_book 4 = .ok (.areturn, 1) := by decide +kernel
theorem dX1_lowerBound_0 : decode cX1_lowerBound 0 = .ok (.aload_n 0, 1) := by decide +kernel
theorem dX1_lowerBound_1 : decode cX1_lowerBound 1 = .ok (.getfield 15, 3) := by decide +kernel
theorem dX1_lowerBound_4 : decode cX1_lowerBound 4 = .ok (.ireturn, 1) := by decide +kernel
theorem dX1_upperBound_0 : decode cX1_upperBound 0 = .ok (.aload_n 0, 1) := by decide +kernel
theorem dX1_upperBound_1 : decode cX1_upperBound 1 = .ok (.getfield 23, 3) := by decide +kernel
theorem dX1_upperBound_4 : decode cX1_upperBound 4 = .ok (.ireturn, 1) := by decide +kernel
theorem dX1_isLowerIn_0 : decode cX1_isLowerIn 0 = .ok (.aload_n 0, 1) := by decide +kernel
theorem dX1_isLowerIn_1 : decode cX1_isLowerIn 1 = .ok (.getfield 19, 3) := by decide +kernel
theorem dX1_isLowerIn_4 : decode cX1_isLowerIn 4 = .ok (.ireturn, 1) := by decide +kernel
theorem dX1_isUpperIn_0 : decode cX1_isUpperIn 0 = .ok (.aload_n 0, 1) := by decide +kernel
theorem dX1_isUpperIn_1 : decode cX1_isUpperIn 1 = .ok (.getfield 26, 3) := by decide +kernel
theorem dX1_isUpperIn_4 : decode cX1_isUpperIn 4 = .ok (.ireturn, 1) := by decide +kernel
set_option maxRecDepth 20000 in
theorem ggX1_start_X0_placeOfWeight : GoodIn wsX1_start wsX0_placeOfWeight := goodIn_r _ [7, 8, 9, 10, 11, 12, 6, 13, 14, 22, 23, 24, 25, 26, 27, 28] (by decide +kernel) (by decide +kernel)
set_option maxRecDepth 20000 in
theorem gX1_start_X0_placeOfWeight : GoodIn wsX1_start (wsV RX1 47 RX0 yX0_placeOfWeight wsX0_placeOfWeight) := goodIn_app (goodIn_of _ (by decide +kernel)) ggX1_start_X0_placeOfWeight
theorem dX1_start_0 : decode cX1_start 0 = .ok (.aload_n 0, 1) := by decide +kernel
theorem dX1_start_1 : decode cX1_start 1 = .ok (.getfield 9, 3) := by decide +kernel
theorem dX1_start_4 : decode cX1_start 4 = .ok (.aload_n 0, 1) := by decide +kernel
theorem dX1_start_5 : decode cX1_start 5 = .ok (.getfield 35, 3) := by decide +kernel
theorem dX1_start_8 : decode cX1_start 8 = .ok (.invokevirtual 47, 3) := by decide +kernel
theorem dX1_start_11 : decode cX1_start 11 = .ok (.ireturn, 1) := by decide +kernel
set_option maxRecDepth 20000 in
theorem ggX1_end_X0_placeOfWeight : GoodIn wsX1_end wsX0_placeOfWeight := goodIn_r _ [7, 8, 9, 10, 11, 12, 6, 13, 14, 22, 23, 24, 25, 26, 27, 28] (by decide +kernel) (by decide +kernel)
set_option maxRecDepth 20000 in
theorem gX1_end_X0_placeOfWeight : GoodIn wsX1_end (wsV RX1 47 RX0 yX0_placeOfWeight wsX0_placeOfWeight) := goodIn_app (goodIn_of _ (by decide +kernel)) ggX1_end_X0_placeOfWeight
theorem dX1_end_0 : decode cX1_end 0 = .ok (.aload_n 0, 1) := by decide +kernel
theorem dX1_end_1 : decode cX1_end 1 = .ok (.getfield 9, 3) := by decide +kernel
theorem dX1_end_4 : decode cX1_end 4 = .ok (.aload_n 0, 1) := by decide +kernel
theorem dX1_end_5 : decode cX1_end 5 = .ok (.getfield 44, 3) := by decide +kernel
theorem dX1_end_8 : decode cX1_end 8 = .ok (.invokevirtual 47, 3) := by decide +kernel
theorem dX1_end_11 : decode cX1_end 11 = .ok (.ireturn, 1) := by decide +kernel
set_option maxRecDepth 20000 in
theorem ggX1_size_X1_end : GoodIn wsX1_size wsX1_end := goodIn_r _ [5, 6, 7, 8, 9, 10, 11, 12, 13, 14, 15, 16, 17, 18, 19, 25, 26, 27, 28, 29, 30, 31, 32, 33, 34, 35, 36, 37, 38] (by decide +kernel) (by decide +kernel)
set_option maxRecDepth 20000 in
theorem gX1_size_X1_end : GoodIn wsX1_size (wsV RX1 50 RX1 yX1_end wsX1_end) := goodIn_app (goodIn_of _ (by decide +kernel)) ggX1_size_X1_end
set_option maxRecDepth 20000 in
theorem ggX1_size_X1_start : GoodIn wsX1_size wsX1_start := goodIn_r _ [23, 6, 24, 8, 9, 10, 11, 12, 13, 14, 15, 16, 17, 18, 19, 25, 26, 27, 28, 29, 30, 31, 32, 33, 34, 35, 36, 37, 38] (by decide +kernel) (by decide +kernel)
set_option maxRecDepth 20000 in
theorem gX1_size_X1_start : GoodIn wsX1_size (wsV RX1 54 RX1 yX1_start wsX1_start) := goodIn_app (goodIn_of _ (by decide +kernel)) ggX1_size_X1_start
theorem dX1_size_0 : decode cX1_size 0 = .ok (.aload_n 0, 1) := by decide +kernel
theorem dX1_size_1 : decode cX1_size 1 = .ok (.invokevirtual 50, 3) := by decide +kernel
theorem dX1_size_4 : decode cX1_size 4 = .ok (.aload_n 0, 1) := by decide +kernel
theorem dX1_size_5 : decode cX1_size 5 = .ok (.invokevirtual 54, 3) := by decide +kernel
theorem dX1_size_8 : decode cX1_size 8 = .ok (.isub, 1) := by decide +kernel
theorem dX1_size_9 : decode cX1_size 9 = .ok (.ireturn, 1) := by decide +kernel
set_option maxRecDepth 20000 in
theorem ggX1_isWithin_X0_weight : GoodIn wsX1_isWithin wsX0_weight := goodIn_r _ [8, 9, 17, 18, 19, 20, 21, 22, 23] (by decide +kernel) (by decide +kernel)
set_option maxRecDepth 20000 in
theorem gX1_isWithin_X0_weight : GoodIn wsX1_isWithin (wsV RX1 29 RX0 yX0_weight wsX0_weight) := goodIn_app (goodIn_of _ (by decide +kernel)) ggX1_isWithin_X0_weight
theorem dX1_isWithin_0 : decode cX1_isWithin 0 = .ok (.aload_n 0, 1) := by decide +kernel
theorem dX1_isWithin_1 : decode cX1_isWithin 1 = .ok (.getfield 9, 3) := by decide +kernel
theorem dX1_isWithin_4 : decode cX1_isWithin 4 = .ok (.iload_n 1, 1) := by decide +kernel
theorem dX1_isWithin_5 : decode cX1_isWithin 5 = .ok (.invokevirtual 29, 3) := by decide +kernel
theorem dX1_isWithin_8 : decode cX1_isWithin 8 = .ok (.istore_n 2, 1) := by decide +kernel
theorem dX1_isWithin_9 : decode cX1_isWithin 9 = .ok (.iload_n 2, 1) := by decide +kernel
theorem dX1_isWithin_10 : decode cX1_isWithin 10 = .ok (.aload_n 0, 1) := by decide +kernel
theorem dX1_isWithin_11 : decode cX1_isWithin 11 = .ok (.getfield 35, 3) := by decide +kernel
theorem dX1_isWithin_14 : decode cX1_isWithin 14 = .ok (.if_icmp .lt 15, 3) := by decide +kernel
theorem dX1_isWithin_17 : decode cX1_isWithin 17 = .ok (.iload_n 2, 1) := by decide +kernel
theorem dX1_isWithin_18 : decode cX1_isWithin 18 = .ok (.aload_n 0, 1) := by decide +kernel
theorem dX1_isWithin_19 : decode cX1_isWithin 19 = .ok (.getfield 44, 3) := by decide +kernel
theorem dX1_isWithin_22 : decode cX1_isWithin 22 = .ok (.if_icmp .ge 7, 3) := by decide +kernel
theorem dX1_isWithin_25 : decode cX1_isWithin 25 = .ok (.iconst 1, 1) := by decide +kernel
theorem dX1_isWithin_26 : decode cX1_isWithin 26 = .ok (.goto 4, 3) := by decide +kernel
theorem dX1_isWithin_29 : decode cX1_isWithin 29 = .ok (.iconst 0, 1) := by decide +kernel
theorem dX1_isWithin_30 : decode cX1_isWithin 30 = .ok (.ireturn, 1) := by decide +kernel
set_option maxRecDepth 20000 in
theorem ggX1_isSoundView_X1_start : GoodIn wsX1_isSoundView wsX1_start := goodIn_r _ [6, 1, 7, 8, 9, 10, 11, 12, 13, 14, 15, 16, 17, 18, 19, 42, 43, 44, 45, 46, 47, 48, 49, 50, 51, 52, 53, 54, 55] (by decide +kernel) (by decide +kernel)
set_option maxRecDepth 20000 in
theorem gX1_isSoundView_X1_start : GoodIn wsX1_isSoundView (wsV RX1 54 RX1 yX1_start wsX1_start) := goodIn_app (goodIn_of _ (by decide +kernel)) ggX1_isSoundView_X1_start
set_option maxRecDepth 20000 in
theorem ggX1_isSoundView_X1_end : GoodIn wsX1_isSoundView wsX1_end := goodIn_r _ [23, 1, 24, 8, 9, 10, 11, 12, 13, 14, 15, 16, 17, 18, 19, 42, 43, 44, 45, 46, 47, 48, 49, 50, 51, 52, 53, 54, 55] (by decide +kernel) (by decide +kernel)
set_option maxRecDepth 20000 in
theorem gX1_isSoundView_X1_end : GoodIn wsX1_isSoundView (wsV RX1 50 RX1 yX1_end wsX1_end) := goodIn_app (goodIn_of _ (by decide +kernel)) ggX1_isSoundView_X1_end
set_option maxRecDepth 20000 in
theorem ggX1_isSoundView_X0_size : GoodIn wsX1_isSoundView wsX0_size := goodIn_r _ [28, 13, 49, 50, 51, 52, 53, 54, 55] (by decide +kernel) (by decide +kernel)
set_option maxRecDepth 20000 in
theorem gX1_isSoundView_X0_size : GoodIn wsX1_isSoundView (wsV RX1 57 RX0 yX0_size wsX0_size) := goodIn_app (goodIn_of _ (by decide +kernel)) ggX1_isSoundView_X0_size
set_option maxRecDepth 20000 in
theorem ggX1_isSoundView_X0_keyAt : GoodIn wsX1_isSoundView wsX0_keyAt := goodIn_r _ [32, 14, 33, 34, 35, 11, 36, 13, 49, 50, 51, 52, 53, 54, 55] (by decide +kernel) (by decide +kernel)
set_option maxRecDepth 20000 in
theorem gX1_isSoundView_X0_keyAt : GoodIn wsX1_isSoundView (wsV RX1 60 RX0 yX0_keyAt wsX0_keyAt) := goodIn_app (goodIn_of _ (by decide +kernel)) ggX1_isSoundView_X0_keyAt
set_option maxRecDepth 20000 in
theorem ggX1_isSoundView_X1_isWithin : GoodIn wsX1_isSoundView wsX1_isWithin := goodIn_r _ [40, 1, 7, 24, 41, 16, 17, 11, 18, 19, 42, 43, 44, 45, 46, 47, 48, 49, 50, 51, 52, 53, 54, 55] (by decide +kernel) (by decide +kernel)
set_option maxRecDepth 20000 in
theorem gX1_isSoundView_X1_isWithin : GoodIn wsX1_isSoundView (wsV RX1 63 RX1 yX1_isWithin wsX1_isWithin) := goodIn_app (goodIn_of _ (by decide +kernel)) ggX1_isSoundView_X1_isWithin
theorem dX1_isSoundView_0 : decode cX1_isSoundView 0 = .ok (.aload_n 0, 1) := by decide +kernel
theorem dX1_isSoundView_1 : decode cX1_isSoundView 1 = .ok (.invokevirtual 54, 3) := by decide +kernel
theorem dX1_isSoundView_4 : decode cX1_isSoundView 4 = .ok (.istore_n 1, 1) := by decide +kernel
theorem dX1_isSoundView_5 : decode cX1_isSoundView 5 = .ok (.aload_n 0, 1) := by decide +kernel
theorem dX1_isSoundView_6 : decode cX1_isSoundView 6 = .ok (.invokevirtual 50, 3) := by decide +kernel
theorem dX1_isSoundView_9 : decode cX1_isSoundView 9 = .ok (.istore_n 2, 1) := by decide +kernel
theorem dX1_isSoundView_10 : decode cX1_isSoundView 10 = .ok (.iconst 0, 1) := by decide +kernel
theorem dX1_isSoundView_11 : decode cX1_isSoundView 11 = .ok (.istore_n 3, 1) := by decide +kernel
theorem dX1_isSoundView_12 : decode cX1_isSoundView 12 = .ok (.iload_n 3, 1) := by decide +kernel
theorem dX1_isSoundView_13 : decode cX1_isSoundView 13 = .ok (.aload_n 0, 1) := by decide +kernel
theorem dX1_isSoundView_14 : decode cX1_isSoundView 14 = .ok (.getfield 9, 3) := by decide +kernel
theorem dX1_isSoundView_17 : decode cX1_isSoundView 17 = .ok (.invokevirtual 57, 3) := by decide +kernel
theorem dX1_isSoundView_20 : decode cX1_isSoundView 20 = .ok (.if_icmp .ge 45, 3) := by decide +kernel
theorem dX1_isSoundView_23 : decode cX1_isSoundView 23 = .ok (.iload_n 3, 1) := by decide +kernel
theorem dX1_isSoundView_24 : decode cX1_isSoundView 24 = .ok (.iload_n 1, 1) := by decide +kernel
theorem dX1_isSoundView_25 : decode cX1_isSoundView 25 = .ok (.if_icmp .lt 12, 3) := by decide +kernel
theorem dX1_isSoundView_28 : decode cX1_isSoundView 28 = .ok (.iload_n 3, 1) := by decide +kernel
theorem dX1_isSoundView_29 : decode cX1_isSoundView 29 = .ok (.iload_n 2, 1) := by decide +kernel
theorem dX1_isSoundView_30 : decode cX1_isSoundView 30 = .ok (.if_icmp .ge 7, 3) := by decide +kernel
theorem dX1_isSoundView_33 : decode cX1_isSoundView 33 = .ok (.iconst 1, 1) := by decide +kernel
theorem dX1_isSoundView_34 : decode cX1_isSoundView 34 = .ok (.goto 4, 3) := by decide +kernel
theorem dX1_isSoundView_37 : decode cX1_isSoundView 37 = .ok (.iconst 0, 1) := by decide +kernel
theorem dX1_isSoundView_38 : decode cX1_isSoundView 38 = .ok (.istore 4, 2) := by decide +kernel
theorem dX1_isSoundView_40 : decode cX1_isSoundView 40 = .ok (.aload_n 0, 1) := by decide +kernel
theorem dX1_isSoundView_41 : decode cX1_isSoundView 41 = .ok (.aload_n 0, 1) := by decide +kernel
theorem dX1_isSoundView_42 : decode cX1_isSoundView 42 = .ok (.getfield 9, 3) := by decide +kernel
theorem dX1_isSoundView_45 : decode cX1_isSoundView 45 = .ok (.iload_n 3, 1) := by decide +kernel
theorem dX1_isSoundView_46 : decode cX1_isSoundView 46 = .ok (.invokevirtual 60, 3) := by decide +kernel
theorem dX1_isSoundView_49 : decode cX1_isSoundView 49 = .ok (.invokevirtual 63, 3) := by decide +kernel
theorem dX1_isSoundView_52 : decode cX1_isSoundView 52 = .ok (.iload 4, 2) := by decide +kernel
theorem dX1_isSoundView_54 : decode cX1_isSoundView 54 = .ok (.if_icmp .eq 5, 3) := by decide +kernel
theorem dX1_isSoundView_57 : decode cX1_isSoundView 57 = .ok (.iconst 0, 1) := by decide +kernel
theorem dX1_isSoundView_58 : decode cX1_isSoundView 58 = .ok (.ireturn, 1) := by decide +kernel
theorem dX1_isSoundView_59 : decode cX1_isSoundView 59 = .ok (.iinc 3 1, 3) := by decide +kernel
theorem dX1_isSoundView_62 : decode cX1_isSoundView 62 = .ok (.goto (-50), 3) := by decide +kernel
theorem dX1_isSoundView_65 : decode cX1_isSoundView 65 = .ok (.iconst 1, 1) := by decide +kernel
theorem dX1_isSoundView_66 : decode cX1_isSoundView 66 = .ok (.ireturn, 1) := by decide +kernel
set_option maxRecDepth 20000 in
theorem ggX2_init_X1_book : GoodIn wsX2_init wsX1_book := goodIn_r _ [11, 12, 24, 25, 26, 27, 28, 29, 30] (by decide +kernel) (by decide +kernel)
set_option maxRecDepth 20000 in
theorem gX2_init_X1_book : GoodIn wsX2_init (wsV RX2 19 RX1 yX1_book wsX1_book) := goodIn_app (goodIn_of _ (by decide +kernel)) ggX2_init_X1_book
set_option maxRecDepth 20000 in
theorem ggX2_init_X0_keyChanges : GoodIn wsX2_init wsX0_keyChanges := goodIn_r _ [17, 18, 31, 32, 33, 34, 35, 36, 37] (by decide +kernel) (by decide +kernel)
set_option maxRecDepth 20000 in
theorem gX2_init_X0_keyChanges : GoodIn wsX2_init (wsV RX2 25 RX0 yX0_keyChanges wsX0_keyChanges) := goodIn_app (goodIn_of _ (by decide +kernel)) ggX2_init_X0_keyChanges
theorem dX2_init_0 : decode cX2_init 0 = .ok (.aload_n 0, 1) := by decide +kernel
theorem dX2_init_1 : decode cX2_init 1 = .ok (.invokespecial 3, 3) := by decide +kernel
theorem dX2_init_4 : decode cX2_init 4 = .ok (.aload_n 0, 1) := by decide +kernel
theorem dX2_init_5 : decode cX2_init 5 = .ok (.aload_n 1, 1) := by decide +kernel
theorem dX2_init_6 : decode cX2_init 6 = .ok (.putfield 9, 3) := by decide +kernel
theorem dX2_init_9 : decode cX2_init 9 = .ok (.aload_n 0, 1) := by decide +kernel
theorem dX2_init_10 : decode cX2_init 10 = .ok (.sipush (-10000), 3) := by decide +kernel
theorem dX2_init_13 : decode cX2_init 13 = .ok (.putfield 15, 3) := by decide +kernel
theorem dX2_init_16 : decode cX2_init 16 = .ok (.aload_n 0, 1) := by decide +kernel
theorem dX2_init_17 : decode cX2_init 17 = .ok (.aload_n 1, 1) := by decide +kernel
theorem dX2_init_18 : decode cX2_init 18 = .ok (.invokevirtual 19, 3) := by decide +kernel
theorem dX2_init_21 : decode cX2_init 21 = .ok (.invokevirtual 25, 3) := by decide +kernel
theorem dX2_init_24 : decode cX2_init 24 = .ok (.putfield 31, 3) := by decide +kernel
theorem dX2_init_27 : decode cX2_init 27 = .ok (.return_, 1) := by decide +kernel
set_option maxRecDepth 20000 in
theorem ggX2_book_X1_book : GoodIn wsX2_book wsX1_book := goodIn_r _ [6, 7, 13, 14, 15, 16, 17, 18, 19] (by decide +kernel) (by decide +kernel)
set_option maxRecDepth 20000 in
theorem gX2_book_X1_book : GoodIn wsX2_book (wsV RX2 19 RX1 yX1_book wsX1_book) := goodIn_app (goodIn_of _ (by decide +kernel)) ggX2_book_X1_book
theorem dX2_book_0 : decode cX2_book 0 = .ok (.aload_n 0, 1) := by decide +kernel
theorem dX2_book_1 : decode cX2_book 1 = .ok (.getfield 9, 3) := by decide +kernel
theorem dX2_book_4 : decode cX2_book 4 = .ok (.invokevirtual 19, 3) := by decide +kernel
theorem dX2_book_7 : decode cX2_book 7 = .ok (.areturn, 1) := by decide +kernel
set_option maxRecDepth 20000 in
theorem ggX2_isBroken_X2_book : GoodIn wsX2_isBroken wsX2_book := goodIn_r _ [6, 7, 8, 9, 10, 11, 12, 13, 20, 21, 22, 23, 24, 25, 26, 27, 28, 29, 30, 31] (by decide +kernel) (by decide +kernel)
set_option maxRecDepth 20000 in
theorem gX2_isBroken_X2_book : GoodIn wsX2_isBroken (wsV RX2 33 RX2 yX2_book wsX2_book) := goodIn_app (goodIn_of _ (by decide +kernel)) ggX2_isBroken_X2_book
set_option maxRecDepth 20000 in
theorem ggX2_isBroken_X0_keyChanges : GoodIn wsX2_isBroken wsX0_keyChanges := goodIn_r _ [18, 19, 32, 33, 34, 35, 36, 37, 38] (by decide +kernel) (by decide +kernel)
set_option maxRecDepth 20000 in
theorem gX2_isBroken_X0_keyChanges : GoodIn wsX2_isBroken (wsV RX2 25 RX0 yX0_keyChanges wsX0_keyChanges) := goodIn_app (goodIn_of _ (by decide +kernel)) ggX2_isBroken_X0_keyChanges
theorem dX2_isBroken_0 : decode cX2_isBroken 0 = .ok (.aload_n 0, 1) := by decide +kernel
theorem dX2_isBroken_1 : decode cX2_isBroken 1 = .ok (.getfield 31, 3) := by decide +kernel
theorem dX2_isBroken_4 : decode cX2_isBroken 4 = .ok (.aload_n 0, 1) := by decide +kernel
theorem dX2_isBroken_5 : decode cX2_isBroken 5 = .ok (.invokevirtual 33, 3) := by decide +kernel
theorem dX2_isBroken_8 : decode cX2_isBroken 8 = .ok (.invokevirtual 25, 3) := by decide +kernel
theorem dX2_isBroken_11 : decode cX2_isBroken 11 = .ok (.if_icmp .eq 7, 3) := by decide +kernel
theorem dX2_isBroken_14 : decode cX2_isBroken 14 = .ok (.iconst 1, 1) := by decide +kernel
theorem dX2_isBroken_15 : decode cX2_isBroken 15 = .ok (.goto 4, 3) := by decide +kernel
theorem dX2_isBroken_18 : decode cX2_isBroken 18 = .ok (.iconst 0, 1) := by decide +kernel
theorem dX2_isBroken_19 : decode cX2_isBroken 19 = .ok (.ireturn, 1) := by decide +kernel
theorem dX2_canDrop_0 : decode cX2_canDrop 0 = .ok (.aload_n 0, 1) := by decide +kernel
theorem dX2_canDrop_1 : decode cX2_canDrop 1 = .ok (.getfield 34, 3) := by decide +kernel
theorem dX2_canDrop_4 : decode cX2_canDrop 4 = .ok (.ireturn, 1) := by decide +kernel
set_option maxRecDepth 20000 in
theorem ggX2_keyAtHand_X2_book : GoodIn wsX2_keyAtHand wsX2_book := goodIn_r _ [8, 9, 10, 11, 12, 13, 14, 15, 22, 23, 24, 25, 26, 27, 28, 29, 30, 31, 32, 33] (by decide +kernel) (by decide +kernel)
set_option maxRecDepth 20000 in
theorem gX2_keyAtHand_X2_book : GoodIn wsX2_keyAtHand (wsV RX2 33 RX2 yX2_book wsX2_book) := goodIn_app (goodIn_of _ (by decide +kernel)) ggX2_keyAtHand_X2_book
set_option maxRecDepth 20000 in
theorem ggX2_keyAtHand_X0_touches : GoodIn wsX2_keyAtHand wsX0_touches := goodIn_r _ [20, 21, 34, 35, 36, 37, 38, 39, 40] (by decide +kernel) (by decide +kernel)
set_option maxRecDepth 20000 in
theorem gX2_keyAtHand_X0_touches : GoodIn wsX2_keyAtHand (wsV RX2 41 RX0 yX0_touches wsX0_touches) := goodIn_app (goodIn_of _ (by decide +kernel)) ggX2_keyAtHand_X0_touches
theorem dX2_keyAtHand_0 : decode cX2_keyAtHand 0 = .ok (.aload_n 0, 1) := by decide +kernel
theorem dX2_keyAtHand_1 : decode cX2_keyAtHand 1 = .ok (.getfield 34, 3) := by decide +kernel
theorem dX2_keyAtHand_4 : decode cX2_keyAtHand 4 = .ok (.ifCond .eq 24, 3) := by decide +kernel
theorem dX2_keyAtHand_7 : decode cX2_keyAtHand 7 = .ok (.aload_n 0, 1) := by decide +kernel
theorem dX2_keyAtHand_8 : decode cX2_keyAtHand 8 = .ok (.getfield 38, 3) := by decide +kernel
theorem dX2_keyAtHand_11 : decode cX2_keyAtHand 11 = .ok (.aload_n 0, 1) := by decide +kernel
theorem dX2_keyAtHand_12 : decode cX2_keyAtHand 12 = .ok (.invokevirtual 33, 3) := by decide +kernel
theorem dX2_keyAtHand_15 : decode cX2_keyAtHand 15 = .ok (.invokevirtual 41, 3) := by decide +kernel
theorem dX2_keyAtHand_18 : decode cX2_keyAtHand 18 = .ok (.if_icmp .ne 10, 3) := by decide +kernel
theorem dX2_keyAtHand_21 : decode cX2_keyAtHand 21 = .ok (.aload_n 0, 1) := by decide +kernel
theorem dX2_keyAtHand_22 : decode cX2_keyAtHand 22 = .ok (.getfield 15, 3) := by decide +kernel
theorem dX2_keyAtHand_25 : decode cX2_keyAtHand 25 = .ok (.goto 6, 3) := by decide +kernel
theorem dX2_keyAtHand_28 : decode cX2_keyAtHand 28 = .ok (.sipush (-10000), 3) := by decide +kernel
theorem dX2_keyAtHand_31 : decode cX2_keyAtHand 31 = .ok (.ireturn, 1) := by decide +kernel
set_option maxRecDepth 20000 in
theorem ggX2_advance_X1_start : GoodIn wsX2_advance wsX1_start := goodIn_r _ [9, 10, 11, 12, 13, 14, 15, 16, 17, 18, 19, 20, 21, 22, 23, 61, 62, 63, 64, 65, 66, 67, 68, 69, 70, 71, 72, 73, 74] (by decide +kernel) (by decide +kernel)
set_option maxRecDepth 20000 in
theorem gX2_advance_X1_start : GoodIn wsX2_advance (wsV RX2 43 RX1 yX1_start wsX1_start) := goodIn_app (goodIn_of _ (by decide +kernel)) ggX2_advance_X1_start
set_option maxRecDepth 20000 in
theorem ggX2_advance_X2_book : GoodIn wsX2_advance wsX2_book := goodIn_r _ [28, 2, 29, 30, 31, 8, 32, 10, 56, 57, 58, 59, 60, 61, 62, 63, 64, 65, 66, 67] (by decide +kernel) (by decide +kernel)
set_option maxRecDepth 20000 in
theorem gX2_advance_X2_book : GoodIn wsX2_advance (wsV RX2 33 RX2 yX2_book wsX2_book) := goodIn_app (goodIn_of _ (by decide +kernel)) ggX2_advance_X2_book
set_option maxRecDepth 20000 in
theorem ggX2_advance_X0_placeBehind : GoodIn wsX2_advance wsX0_placeBehind := goodIn_r _ [36, 19, 20, 21, 15, 22, 23, 37, 13, 14, 16, 17, 18, 68, 69, 70, 71, 72, 73, 74] (by decide +kernel) (by decide +kernel)
set_option maxRecDepth 20000 in
theorem gX2_advance_X0_placeBehind : GoodIn wsX2_advance (wsV RX2 46 RX0 yX0_placeBehind wsX0_placeBehind) := goodIn_app (goodIn_of _ (by decide +kernel)) ggX2_advance_X0_placeBehind
set_option maxRecDepth 20000 in
theorem ggX2_advance_X1_end : GoodIn wsX2_advance wsX1_end := goodIn_r _ [41, 10, 42, 12, 13, 14, 15, 16, 17, 18, 19, 20, 21, 22, 23, 61, 62, 63, 64, 65, 66, 67, 68, 69, 70, 71, 72, 73, 74] (by decide +kernel) (by decide +kernel)
set_option maxRecDepth 20000 in
theorem gX2_advance_X1_end : GoodIn wsX2_advance (wsV RX2 50 RX1 yX1_end wsX1_end) := goodIn_app (goodIn_of _ (by decide +kernel)) ggX2_advance_X1_end
set_option maxRecDepth 20000 in
theorem ggX2_advance_X0_keyAt : GoodIn wsX2_advance wsX0_keyAt := goodIn_r _ [46, 18, 47, 48, 49, 15, 50, 17, 68, 69, 70, 71, 72, 73, 74] (by decide +kernel) (by decide +kernel)
set_option maxRecDepth 20000 in
theorem gX2_advance_X0_keyAt : GoodIn wsX2_advance (wsV RX2 53 RX0 yX0_keyAt wsX0_keyAt) := goodIn_app (goodIn_of _ (by decide +kernel)) ggX2_advance_X0_keyAt
set_option maxRecDepth 20000 in
theorem ggX2_advance_X0_touches : GoodIn wsX2_advance wsX0_touches := goodIn_r _ [54, 55, 68, 69, 70, 71, 72, 73, 74] (by decide +kernel) (by decide +kernel)
set_option maxRecDepth 20000 in
theorem gX2_advance_X0_touches : GoodIn wsX2_advance (wsV RX2 41 RX0 yX0_touches wsX0_touches) := goodIn_app (goodIn_of _ (by decide +kernel)) ggX2_advance_X0_touches
theorem dX2_advance_0 : decode cX2_advance 0 = .ok (.aload_n 0, 1) := by decide +kernel
theorem dX2_advance_1 : decode cX2_advance 1 = .ok (.getfield 15, 3) := by decide +kernel
theorem dX2_advance_4 : decode cX2_advance 4 = .ok (.sipush (-10000), 3) := by decide +kernel
theorem dX2_advance_7 : decode cX2_advance 7 = .ok (.if_icmp .ne 13, 3) := by decide +kernel
theorem dX2_advance_10 : decode cX2_advance 10 = .ok (.aload_n 0, 1) := by decide +kernel
theorem dX2_advance_11 : decode cX2_advance 11 = .ok (.getfield 9, 3) := by decide +kernel
theorem dX2_advance_14 : decode cX2_advance 14 = .ok (.invokevirtual 43, 3) := by decide +kernel
theorem dX2_advance_17 : decode cX2_advance 17 = .ok (.goto 14, 3) := by decide +kernel
theorem dX2_advance_20 : decode cX2_advance 20 = .ok (.aload_n 0, 1) := by decide +kernel
theorem dX2_advance_21 : decode cX2_advance 21 = .ok (.invokevirtual 33, 3) := by decide +kernel
theorem dX2_advance_24 : decode cX2_advance 24 = .ok (.aload_n 0, 1) := by decide +kernel
theorem dX2_advance_25 : decode cX2_advance 25 = .ok (.getfield 15, 3) := by decide +kernel
theorem dX2_advance_28 : decode cX2_advance 28 = .ok (.invokevirtual 46, 3) := by decide +kernel
theorem dX2_advance_31 : decode cX2_advance 31 = .ok (.istore_n 1, 1) := by decide +kernel
theorem dX2_advance_32 : decode cX2_advance 32 = .ok (.iload_n 1, 1) := by decide +kernel
theorem dX2_advance_33 : decode cX2_advance 33 = .ok (.aload_n 0, 1) := by decide +kernel
theorem dX2_advance_34 : decode cX2_advance 34 = .ok (.getfield 9, 3) := by decide +kernel
theorem dX2_advance_37 : decode cX2_advance 37 = .ok (.invokevirtual 50, 3) := by decide +kernel
theorem dX2_advance_40 : decode cX2_advance 40 = .ok (.if_icmp .lt 7, 3) := by decide +kernel
theorem dX2_advance_43 : decode cX2_advance 43 = .ok (.sipush (-10000), 3) := by decide +kernel
theorem dX2_advance_46 : decode cX2_advance 46 = .ok (.ireturn, 1) := by decide +kernel
theorem dX2_advance_47 : decode cX2_advance 47 = .ok (.aload_n 0, 1) := by decide +kernel
theorem dX2_advance_48 : decode cX2_advance 48 = .ok (.aload_n 0, 1) := by decide +kernel
theorem dX2_advance_49 : decode cX2_advance 49 = .ok (.invokevirtual 33, 3) := by decide +kernel
theorem dX2_advance_52 : decode cX2_advance 52 = .ok (.iload_n 1, 1) := by decide +kernel
theorem dX2_advance_53 : decode cX2_advance 53 = .ok (.invokevirtual 53, 3) := by decide +kernel
theorem dX2_advance_56 : decode cX2_advance 56 = .ok (.putfield 15, 3) := by decide +kernel
theorem dX2_advance_59 : decode cX2_advance 59 = .ok (.aload_n 0, 1) := by decide +kernel
theorem dX2_advance_60 : decode cX2_advance 60 = .ok (.iconst 1, 1) := by decide +kernel
theorem dX2_advance_61 : decode cX2_advance 61 = .ok (.putfield 34, 3) := by decide +kernel
theorem dX2_advance_64 : decode cX2_advance 64 = .ok (.aload_n 0, 1) := by decide +kernel
theorem dX2_advance_65 : decode cX2_advance 65 = .ok (.aload_n 0, 1) := by decide +kernel
theorem dX2_advance_66 : decode cX2_advance 66 = .ok (.invokevirtual 33, 3) := by decide +kernel
theorem dX2_advance_69 : decode cX2_advance 69 = .ok (.invokevirtual 41, 3) := by decide +kernel
theorem dX2_advance_72 : decode cX2_advance 72 = .ok (.putfield 38, 3) := by decide +kernel
theorem dX2_advance_75 : decode cX2_advance 75 = .ok (.aload_n 0, 1) := by decide +kernel
theorem dX2_advance_76 : decode cX2_advance 76 = .ok (.getfield 15, 3) := by decide +kernel
theorem dX2_advance_79 : decode cX2_advance 79 = .ok (.ireturn, 1) := by decide +kernel
set_option maxRecDepth 20000 in
theorem ggX2_dropLastStep_X2_book : GoodIn wsX2_dropLastStep wsX2_book := goodIn_r _ [8, 9, 10, 11, 12, 13, 14, 15, 62, 63, 64, 65, 66, 67, 68, 69, 70, 71, 72, 73] (by decide +kernel) (by decide +kernel)
set_option maxRecDepth 20000 in
theorem gX2_dropLastStep_X2_book : GoodIn wsX2_dropLastStep (wsV RX2 33 RX2 yX2_book wsX2_book) := goodIn_app (goodIn_of _ (by decide +kernel)) ggX2_dropLastStep_X2_book
set_option maxRecDepth 20000 in
theorem ggX2_dropLastStep_X0_removeKey : GoodIn wsX2_dropLastStep wsX0_removeKey := goodIn_r _ [20, 21, 22, 23, 19, 24, 25, 26, 27, 28, 29, 30, 31, 32, 33, 34, 35, 36, 37, 38, 39, 40, 41, 42, 43, 44, 45, 46, 47, 48, 49, 50, 51, 52, 53, 54, 55, 56, 57, 74, 75, 76, 77, 78, 79, 80] (by decide +kernel) (by decide +kernel)
set_option maxRecDepth 20000 in
theorem gX2_dropLastStep_X0_removeKey : GoodIn wsX2_dropLastStep (wsV RX2 56 RX0 yX0_removeKey wsX0_removeKey) := goodIn_app (goodIn_of _ (by decide +kernel)) ggX2_dropLastStep_X0_removeKey
set_option maxRecDepth 20000 in
theorem ggX2_dropLastStep_X0_keyChanges : GoodIn wsX2_dropLastStep wsX0_keyChanges := goodIn_r _ [61, 57, 74, 75, 76, 77, 78, 79, 80] (by decide +kernel) (by decide +kernel)
set_option maxRecDepth 20000 in
theorem gX2_dropLastStep_X0_keyChanges : GoodIn wsX2_dropLastStep (wsV RX2 25 RX0 yX0_keyChanges wsX0_keyChanges) := goodIn_app (goodIn_of _ (by decide +kernel)) ggX2_dropLastStep_X0_keyChanges
theorem dX2_dropLastStep_0 : decode cX2_dropLastStep 0 = .ok (.aload_n 0, 1) := by decide +kernel
theorem dX2_dropLastStep_1 : decode cX2_dropLastStep 1 = .ok (.invokevirtual 33, 3) := by decide +kernel
theorem dX2_dropLastStep_4 : decode cX2_dropLastStep 4 = .ok (.aload_n 0, 1) := by decide +kernel
theorem dX2_dropLastStep_5 : decode cX2_dropLastStep 5 = .ok (.getfield 15, 3) := by decide +kernel
theorem dX2_dropLastStep_8 : decode cX2_dropLastStep 8 = .ok (.invokevirtual 56, 3) := by decide +kernel
theorem dX2_dropLastStep_11 : decode cX2_dropLastStep 11 = .ok (.pop, 1) := by decide +kernel
theorem dX2_dropLastStep_12 : decode cX2_dropLastStep 12 = .ok (.aload_n 0, 1) := by decide +kernel
theorem dX2_dropLastStep_13 : decode cX2_dropLastStep 13 = .ok (.iconst 0, 1) := by decide +kernel
theorem dX2_dropLastStep_14 : decode cX2_dropLastStep 14 = .ok (.putfield 34, 3) := by decide +kernel
theorem dX2_dropLastStep_17 : decode cX2_dropLastStep 17 = .ok (.aload_n 0, 1) := by decide +kernel
theorem dX2_dropLastStep_18 : decode cX2_dropLastStep 18 = .ok (.aload_n 0, 1) := by decide +kernel
theorem dX2_dropLastStep_19 : decode cX2_dropLastStep 19 = .ok (.invokevirtual 33, 3) := by decide +kernel
theorem dX2_dropLastStep_22 : decode cX2_dropLastStep 22 = .ok (.invokevirtual 25, 3) := by decide +kernel
theorem dX2_dropLastStep_25 : decode cX2_dropLastStep 25 = .ok (.putfield 31, 3) := by decide +kernel
theorem dX2_dropLastStep_28 : decode cX2_dropLastStep 28 = .ok (.return_, 1) := by decide +kernel
set_option maxRecDepth 20000 in
theorem ggX3_init_X0_init : GoodIn wsX3_init wsX0_init := goodIn_r _ [14, 15, 2, 3, 16, 17, 18, 19, 20, 27, 28, 29, 30, 31, 32, 33] (by decide +kernel) (by decide +kernel)
set_option maxRecDepth 20000 in
theorem gX3_init_X0_init : GoodIn wsX3_init (wsX0_init) := ggX3_init_X0_init
theorem dX3_init_0 : decode cX3_init 0 = .ok (.aload_n 0, 1) := by decide +kernel
theorem dX3_init_1 : decode cX3_init 1 = .ok (.invokespecial 1, 3) := by decide +kernel
theorem dX3_init_4 : decode cX3_init 4 = .ok (.aload_n 0, 1) := by decide +kernel
theorem dX3_init_5 : decode cX3_init 5 = .ok (.iconst 3, 1) := by decide +kernel
theorem dX3_init_6 : decode cX3_init 6 = .ok (.anewarray 9, 3) := by decide +kernel
theorem dX3_init_9 : decode cX3_init 9 = .ok (.putfield 11, 3) := by decide +kernel
theorem dX3_init_12 : decode cX3_init 12 = .ok (.iconst 0, 1) := by decide +kernel
theorem dX3_init_13 : decode cX3_init 13 = .ok (.istore_n 1, 1) := by decide +kernel
theorem dX3_init_14 : decode cX3_init 14 = .ok (.iload_n 1, 1) := by decide +kernel
theorem dX3_init_15 : decode cX3_init 15 = .ok (.aload_n 0, 1) := by decide +kernel
theorem dX3_init_16 : decode cX3_init 16 = .ok (.getfield 11, 3) := by decide +kernel
theorem dX3_init_19 : decode cX3_init 19 = .ok (.arraylength, 1) := by decide +kernel
theorem dX3_init_20 : decode cX3_init 20 = .ok (.if_icmp .ge 23, 3) := by decide +kernel
theorem dX3_init_23 : decode cX3_init 23 = .ok (.aload_n 0, 1) := by decide +kernel
theorem dX3_init_24 : decode cX3_init 24 = .ok (.getfield 11, 3) := by decide +kernel
theorem dX3_init_27 : decode cX3_init 27 = .ok (.iload_n 1, 1) := by decide +kernel
theorem dX3_init_28 : decode cX3_init 28 = .ok (.new 9, 3) := by decide +kernel
theorem dX3_init_31 : decode cX3_init 31 = .ok (.dup, 1) := by decide +kernel
theorem dX3_init_32 : decode cX3_init 32 = .ok (.iload_n 1, 1) := by decide +kernel
theorem dX3_init_33 : decode cX3_init 33 = .ok (.invokespecial 15, 3) := by decide +kernel
theorem dX3_init_36 : decode cX3_init 36 = .ok (.aastore, 1) := by decide +kernel
theorem dX3_init_37 : decode cX3_init 37 = .ok (.iinc 1 1, 3) := by decide +kernel
theorem dX3_init_40 : decode cX3_init 40 = .ok (.goto (-26), 3) := by decide +kernel
theorem dX3_init_43 : decode cX3_init 43 = .ok (.aload_n 0, 1) := by decide +kernel
theorem dX3_init_44 : decode cX3_init 44 = .ok (.iconst 4, 1) := by decide +kernel
theorem dX3_init_45 : decode cX3_init 45 = .ok (.anewarray 18, 3) := by decide +kernel
theorem dX3_init_48 : decode cX3_init 48 = .ok (.putfield 20, 3) := by decide +kernel
theorem dX3_init_51 : decode cX3_init 51 = .ok (.aload_n 0, 1) := by decide +kernel
theorem dX3_init_52 : decode cX3_init 52 = .ok (.sipush (-10000), 3) := by decide +kernel
theorem dX3_init_55 : decode cX3_init 55 = .ok (.putfield 24, 3) := by decide +kernel
theorem dX3_init_58 : decode cX3_init 58 = .ok (.aload_n 0, 1) := by decide +kernel
theorem dX3_init_59 : decode cX3_init 59 = .ok (.sipush (-10000), 3) := by decide +kernel
theorem dX3_init_62 : decode cX3_init 62 = .ok (.putfield 28, 3) := by decide +kernel
theorem dX3_init_65 : decode cX3_init 65 = .ok (.return_, 1) := by decide +kernel
set_option maxRecDepth 20000 in
theorem ggX3_put_X3_bookToWritePair : GoodIn wsX3_put wsX3_bookToWritePair := goodIn_ca (goodIn_ca (goodIn_r _ [5, 6, 7, 8, 4, 9, 10, 11, 12, 13, 14, 15, 16, 17, 18, 19, 20, 21, 22, 23, 24, 25, 26, 60, 61, 62, 63, 64, 65, 66, 67, 68, 69, 70, 71, 72] (by decide +kernel) (by decide +kernel)) (goodIn_sub (fun _ h => List.mem_cons_of_mem _ (List.mem_append_left _ (List.mem_append_right _ h))) (by decide +kernel))) (goodIn_sub (fun _ h => List.mem_cons_of_mem _ (List.mem_append_right _ h)) (by decide +kernel))
set_option maxRecDepth 20000 in
theorem gX3_put_X3_bookToWritePair : GoodIn wsX3_put (wsV RX3 31 RX3 yX3_bookToWritePair wsX3_bookToWritePair) := goodIn_app (goodIn_of _ (by decide +kernel)) ggX3_put_X3_bookToWritePair
set_option maxRecDepth 20000 in
theorem ggX3_put_X0_enter : GoodIn wsX3_put wsX0_enter := goodIn_r _ [30, 31, 32, 33, 34, 35, 24, 36, 37, 38, 39, 40, 41, 42, 43, 44, 45, 46, 47, 48, 49, 50, 51, 52, 53, 54, 55, 56, 57, 58, 59, 66, 67, 68, 69, 70, 71, 72] (by decide +kernel) (by decide +kernel)
set_option maxRecDepth 20000 in
theorem gX3_put_X0_enter : GoodIn wsX3_put (wsV RX3 35 RX0 yX0_enter wsX0_enter) := goodIn_app (goodIn_of _ (by decide +kernel)) ggX3_put_X0_enter
theorem dX3_put_0 : decode cX3_put 0 = .ok (.aload_n 0, 1) := by decide +kernel
theorem dX3_put_1 : decode cX3_put 1 = .ok (.iload_n 1, 1) := by decide +kernel
theorem dX3_put_2 : decode cX3_put 2 = .ok (.iload_n 2, 1) := by decide +kernel
theorem dX3_put_3 : decode cX3_put 3 = .ok (.iload_n 3, 1) := by decide +kernel
theorem dX3_put_4 : decode cX3_put 4 = .ok (.invokevirtual 31, 3) := by decide +kernel
theorem dX3_put_7 : decode cX3_put 7 = .ok (.iload_n 2, 1) := by decide +kernel
theorem dX3_put_8 : decode cX3_put 8 = .ok (.iload_n 3, 1) := by decide +kernel
theorem dX3_put_9 : decode cX3_put 9 = .ok (.invokevirtual 35, 3) := by decide +kernel
theorem dX3_put_12 : decode cX3_put 12 = .ok (.ireturn, 1) := by decide +kernel
set_option maxRecDepth 20000 in
theorem ggX3_putAbsent_X3_bookToWritePair : GoodIn wsX3_putAbsent wsX3_bookToWritePair := goodIn_ca (goodIn_ca (goodIn_r _ [5, 6, 7, 8, 4, 9, 10, 11, 12, 13, 14, 15, 16, 17, 18, 19, 20, 21, 22, 23, 24, 25, 26, 77, 78, 79, 80, 81, 82, 83, 84, 85, 86, 87, 88, 89] (by decide +kernel) (by decide +kernel)) (goodIn_sub (fun _ h => List.mem_cons_of_mem _ (List.mem_append_left _ (List.mem_append_right _ h))) (by decide +kernel))) (goodIn_sub (fun _ h => List.mem_cons_of_mem _ (List.mem_append_right _ h)) (by decide +kernel))
set_option maxRecDepth 20000 in
theorem gX3_putAbsent_X3_bookToWritePair : GoodIn wsX3_putAbsent (wsV RX3 31 RX3 yX3_bookToWritePair wsX3_bookToWritePair) := goodIn_app (goodIn_of _ (by decide +kernel)) ggX3_putAbsent_X3_bookToWritePair
set_option maxRecDepth 20000 in
theorem ggX3_putAbsent_X0_holds : GoodIn wsX3_putAbsent wsX0_holds := goodIn_r _ [30, 31, 32, 33, 24, 34, 35, 36, 37, 38, 39, 40, 41, 42, 43, 44, 45, 46, 47, 48, 49, 50, 51, 52, 53, 54, 55, 56, 57, 58, 59, 60, 61, 62, 83, 84, 85, 86, 87, 88, 89] (by decide +kernel) (by decide +kernel)
set_option maxRecDepth 20000 in
theorem gX3_putAbsent_X0_holds : GoodIn wsX3_putAbsent (wsV RX3 39 RX0 yX0_holds wsX0_holds) := goodIn_app (goodIn_of _ (by decide +kernel)) ggX3_putAbsent_X0_holds
set_option maxRecDepth 20000 in
theorem ggX3_putAbsent_X0_valueOf : GoodIn wsX3_putAbsent wsX0_valueOf := goodIn_r _ [34, 35, 36, 37, 24, 38, 39, 40, 41, 42, 43, 44, 45, 46, 47, 48, 49, 50, 51, 52, 53, 54, 55, 56, 57, 58, 59, 60, 61, 62, 83, 84, 85, 86, 87, 88, 89] (by decide +kernel) (by decide +kernel)
set_option maxRecDepth 20000 in
theorem gX3_putAbsent_X0_valueOf : GoodIn wsX3_putAbsent (wsV RX3 43 RX0 yX0_valueOf wsX0_valueOf) := goodIn_app (goodIn_of _ (by decide +kernel)) ggX3_putAbsent_X0_valueOf
set_option maxRecDepth 20000 in
theorem ggX3_putAbsent_X0_enter : GoodIn wsX3_putAbsent wsX0_enter := goodIn_r _ [67, 49, 62, 35, 36, 37, 24, 38, 39, 40, 41, 42, 43, 44, 45, 46, 47, 48, 54, 55, 56, 57, 68, 69, 70, 71, 72, 73, 74, 75, 76, 83, 84, 85, 86, 87, 88, 89] (by decide +kernel) (by decide +kernel)
set_option maxRecDepth 20000 in
theorem gX3_putAbsent_X0_enter : GoodIn wsX3_putAbsent (wsV RX3 35 RX0 yX0_enter wsX0_enter) := goodIn_app (goodIn_of _ (by decide +kernel)) ggX3_putAbsent_X0_enter
theorem dX3_putAbsent_0 : decode cX3_putAbsent 0 = .ok (.aload_n 0, 1) := by decide +kernel
theorem dX3_putAbsent_1 : decode cX3_putAbsent 1 = .ok (.iload_n 1, 1) := by decide +kernel
theorem dX3_putAbsent_2 : decode cX3_putAbsent 2 = .ok (.iload_n 2, 1) := by decide +kernel
theorem dX3_putAbsent_3 : decode cX3_putAbsent 3 = .ok (.iload_n 3, 1) := by decide +kernel
theorem dX3_putAbsent_4 : decode cX3_putAbsent 4 = .ok (.invokevirtual 31, 3) := by decide +kernel
theorem dX3_putAbsent_7 : decode cX3_putAbsent 7 = .ok (.astore 4, 2) := by decide +kernel
theorem dX3_putAbsent_9 : decode cX3_putAbsent 9 = .ok (.aload 4, 2) := by decide +kernel
theorem dX3_putAbsent_11 : decode cX3_putAbsent 11 = .ok (.iload_n 2, 1) := by decide +kernel
theorem dX3_putAbsent_12 : decode cX3_putAbsent 12 = .ok (.invokevirtual 39, 3) := by decide +kernel
theorem dX3_putAbsent_15 : decode cX3_putAbsent 15 = .ok (.ifCond .eq 12, 3) := by decide +kernel
theorem dX3_putAbsent_18 : decode cX3_putAbsent 18 = .ok (.aload 4, 2) := by decide +kernel
theorem dX3_putAbsent_20 : decode cX3_putAbsent 20 = .ok (.iload_n 2, 1) := by decide +kernel
theorem dX3_putAbsent_21 : decode cX3_putAbsent 21 = .ok (.invokevirtual 43, 3) := by decide +kernel
theorem dX3_putAbsent_24 : decode cX3_putAbsent 24 = .ok (.goto 10, 3) := by decide +kernel
theorem dX3_putAbsent_27 : decode cX3_putAbsent 27 = .ok (.aload 4, 2) := by decide +kernel
theorem dX3_putAbsent_29 : decode cX3_putAbsent 29 = .ok (.iload_n 2, 1) := by decide +kernel
theorem dX3_putAbsent_30 : decode cX3_putAbsent 30 = .ok (.iload_n 3, 1) := by decide +kernel
theorem dX3_putAbsent_31 : decode cX3_putAbsent 31 = .ok (.invokevirtual 35, 3) := by decide +kernel
theorem dX3_putAbsent_34 : decode cX3_putAbsent 34 = .ok (.ireturn, 1) := by decide +kernel
set_option maxRecDepth 20000 in
theorem ggX3_replace_X3_bookToWritePair : GoodIn wsX3_replace wsX3_bookToWritePair := goodIn_ca (goodIn_ca (goodIn_r _ [5, 6, 7, 8, 4, 9, 10, 11, 12, 13, 14, 15, 16, 17, 18, 19, 20, 21, 22, 23, 24, 25, 26, 76, 77, 78, 79, 80, 81, 82, 83, 84, 85, 86, 87, 88] (by decide +kernel) (by decide +kernel)) (goodIn_sub (fun _ h => List.mem_cons_of_mem _ (List.mem_append_left _ (List.mem_append_right _ h))) (by decide +kernel))) (goodIn_sub (fun _ h => List.mem_cons_of_mem _ (List.mem_append_right _ h)) (by decide +kernel))
set_option maxRecDepth 20000 in
theorem gX3_replace_X3_bookToWritePair : GoodIn wsX3_replace (wsV RX3 31 RX3 yX3_bookToWritePair wsX3_bookToWritePair) := goodIn_app (goodIn_of _ (by decide +kernel)) ggX3_replace_X3_bookToWritePair
set_option maxRecDepth 20000 in
theorem ggX3_replace_X0_holds : GoodIn wsX3_replace wsX0_holds := goodIn_r _ [30, 31, 32, 33, 24, 34, 35, 36, 37, 38, 39, 40, 41, 42, 43, 44, 45, 46, 47, 48, 49, 50, 51, 52, 53, 54, 55, 56, 57, 58, 59, 60, 61, 62, 82, 83, 84, 85, 86, 87, 88] (by decide +kernel) (by decide +kernel)
set_option maxRecDepth 20000 in
theorem gX3_replace_X0_holds : GoodIn wsX3_replace (wsV RX3 39 RX0 yX0_holds wsX0_holds) := goodIn_app (goodIn_of _ (by decide +kernel)) ggX3_replace_X0_holds
set_option maxRecDepth 20000 in
theorem ggX3_replace_X0_enter : GoodIn wsX3_replace wsX0_enter := goodIn_r _ [66, 49, 62, 35, 36, 37, 24, 38, 39, 40, 41, 42, 43, 44, 45, 46, 47, 48, 54, 55, 56, 57, 67, 68, 69, 70, 71, 72, 73, 74, 75, 82, 83, 84, 85, 86, 87, 88] (by decide +kernel) (by decide +kernel)
set_option maxRecDepth 20000 in
theorem gX3_replace_X0_enter : GoodIn wsX3_replace (wsV RX3 35 RX0 yX0_enter wsX0_enter) := goodIn_app (goodIn_of _ (by decide +kernel)) ggX3_replace_X0_enter
theorem dX3_replace_0 : decode cX3_replace 0 = .ok (.aload_n 0, 1) := by decide +kernel
theorem dX3_replace_1 : decode cX3_replace 1 = .ok (.iload_n 1, 1) := by decide +kernel
theorem dX3_replace_2 : decode cX3_replace 2 = .ok (.iload_n 2, 1) := by decide +kernel
theorem dX3_replace_3 : decode cX3_replace 3 = .ok (.iload_n 3, 1) := by decide +kernel
theorem dX3_replace_4 : decode cX3_replace 4 = .ok (.invokevirtual 31, 3) := by decide +kernel
theorem dX3_replace_7 : decode cX3_replace 7 = .ok (.astore 4, 2) := by decide +kernel
theorem dX3_replace_9 : decode cX3_replace 9 = .ok (.aload 4, 2) := by decide +kernel
theorem dX3_replace_11 : decode cX3_replace 11 = .ok (.iload_n 2, 1) := by decide +kernel
theorem dX3_replace_12 : decode cX3_replace 12 = .ok (.invokevirtual 39, 3) := by decide +kernel
theorem dX3_replace_15 : decode cX3_replace 15 = .ok (.ifCond .eq 13, 3) := by decide +kernel
theorem dX3_replace_18 : decode cX3_replace 18 = .ok (.aload 4, 2) := by decide +kernel
theorem dX3_replace_20 : decode cX3_replace 20 = .ok (.iload_n 2, 1) := by decide +kernel
theorem dX3_replace_21 : decode cX3_replace 21 = .ok (.iload_n 3, 1) := by decide +kernel
theorem dX3_replace_22 : decode cX3_replace 22 = .ok (.invokevirtual 35, 3) := by decide +kernel
theorem dX3_replace_25 : decode cX3_replace 25 = .ok (.goto 6, 3) := by decide +kernel
theorem dX3_replace_28 : decode cX3_replace 28 = .ok (.sipush (-10000), 3) := by decide +kernel
theorem dX3_replace_31 : decode cX3_replace 31 = .ok (.ireturn, 1) := by decide +kernel
set_option maxRecDepth 20000 in
theorem ggX3_swap_X3_bookAt : GoodIn wsX3_swap wsX3_bookAt := goodIn_ca (goodIn_r _ [5, 6, 7, 8, 68, 69, 70, 71, 72, 73] (by decide +kernel) (by decide +kernel)) (goodIn_sub (fun _ h => List.mem_cons_of_mem _ (List.mem_append_left _ (List.mem_append_right _ h))) (by decide +kernel))
set_option maxRecDepth 20000 in
theorem gX3_swap_X3_bookAt : GoodIn wsX3_swap (wsV RX3 47 RX3 yX3_bookAt wsX3_bookAt) := goodIn_app (goodIn_of _ (by decide +kernel)) ggX3_swap_X3_bookAt
set_option maxRecDepth 20000 in
theorem ggX3_swap_X3_checkKey : GoodIn wsX3_swap wsX3_checkKey := goodIn_ca (goodIn_r _ [11, 12, 13] (by decide +kernel) (by decide +kernel)) (goodIn_sub (fun _ h => List.mem_cons_of_mem _ (List.mem_append_right _ h)) (by decide +kernel))
set_option maxRecDepth 20000 in
theorem gX3_swap_X3_checkKey : GoodIn wsX3_swap (va_wsS RX3 51 yX3_checkKey wsX3_checkKey) := goodIn_app (goodIn_of _ (by decide +kernel)) ggX3_swap_X3_checkKey
set_option maxRecDepth 20000 in
theorem ggX3_swap_X3_checkValue : GoodIn wsX3_swap wsX3_checkValue := goodIn_ca (goodIn_r _ [16, 12, 13] (by decide +kernel) (by decide +kernel)) (goodIn_sub (fun _ h => List.mem_cons_of_mem _ (List.mem_append_right _ h)) (by decide +kernel))
set_option maxRecDepth 20000 in
theorem gX3_swap_X3_checkValue : GoodIn wsX3_swap (va_wsS RX3 54 yX3_checkValue wsX3_checkValue) := goodIn_app (goodIn_of _ (by decide +kernel)) ggX3_swap_X3_checkValue
set_option maxRecDepth 20000 in
theorem ggX3_swap_X0_touch : GoodIn wsX3_swap wsX0_touch := goodIn_r _ [21, 22, 74, 75, 76, 77, 78, 79, 80] (by decide +kernel) (by decide +kernel)
set_option maxRecDepth 20000 in
theorem gX3_swap_X0_touch : GoodIn wsX3_swap (wsV RX3 57 RX0 yX0_touch wsX0_touch) := goodIn_app (goodIn_of _ (by decide +kernel)) ggX3_swap_X0_touch
set_option maxRecDepth 20000 in
theorem ggX3_swap_X0_valueOf : GoodIn wsX3_swap wsX0_valueOf := goodIn_r _ [26, 27, 28, 29, 20, 30, 31, 32, 33, 34, 35, 36, 37, 38, 39, 40, 41, 42, 43, 44, 45, 46, 47, 48, 49, 50, 51, 52, 53, 54, 74, 75, 76, 77, 78, 79, 80] (by decide +kernel) (by decide +kernel)
set_option maxRecDepth 20000 in
theorem gX3_swap_X0_valueOf : GoodIn wsX3_swap (wsV RX3 43 RX0 yX0_valueOf wsX0_valueOf) := goodIn_app (goodIn_of _ (by decide +kernel)) ggX3_swap_X0_valueOf
set_option maxRecDepth 20000 in
theorem ggX3_swap_X0_enter : GoodIn wsX3_swap wsX0_enter := goodIn_r _ [58, 41, 54, 27, 28, 29, 20, 30, 31, 32, 33, 34, 35, 36, 37, 38, 39, 40, 46, 47, 48, 49, 59, 60, 61, 62, 63, 64, 65, 66, 67, 74, 75, 76, 77, 78, 79, 80] (by decide +kernel) (by decide +kernel)
set_option maxRecDepth 20000 in
theorem gX3_swap_X0_enter : GoodIn wsX3_swap (wsV RX3 35 RX0 yX0_enter wsX0_enter) := goodIn_app (goodIn_of _ (by decide +kernel)) ggX3_swap_X0_enter
theorem dX3_swap_0 : decode cX3_swap 0 = .ok (.aload_n 0, 1) := by decide +kernel
theorem dX3_swap_1 : decode cX3_swap 1 = .ok (.iload_n 1, 1) := by decide +kernel
theorem dX3_swap_2 : decode cX3_swap 2 = .ok (.invokevirtual 47, 3) := by decide +kernel
theorem dX3_swap_5 : decode cX3_swap 5 = .ok (.astore 5, 2) := by decide +kernel
theorem dX3_swap_7 : decode cX3_swap 7 = .ok (.iload_n 2, 1) := by decide +kernel
theorem dX3_swap_8 : decode cX3_swap 8 = .ok (.invokestatic 51, 3) := by decide +kernel
theorem dX3_swap_11 : decode cX3_swap 11 = .ok (.iload_n 3, 1) := by decide +kernel
theorem dX3_swap_12 : decode cX3_swap 12 = .ok (.invokestatic 54, 3) := by decide +kernel
theorem dX3_swap_15 : decode cX3_swap 15 = .ok (.iload 4, 2) := by decide +kernel
theorem dX3_swap_17 : decode cX3_swap 17 = .ok (.invokestatic 54, 3) := by decide +kernel
theorem dX3_swap_20 : decode cX3_swap 20 = .ok (.aload 5, 2) := by decide +kernel
theorem dX3_swap_22 : decode cX3_swap 22 = .ok (.invokevirtual 57, 3) := by decide +kernel
theorem dX3_swap_25 : decode cX3_swap 25 = .ok (.aload 5, 2) := by decide +kernel
theorem dX3_swap_27 : decode cX3_swap 27 = .ok (.iload_n 2, 1) := by decide +kernel
theorem dX3_swap_28 : decode cX3_swap 28 = .ok (.invokevirtual 43, 3) := by decide +kernel
theorem dX3_swap_31 : decode cX3_swap 31 = .ok (.iload_n 3, 1) := by decide +kernel
theorem dX3_swap_32 : decode cX3_swap 32 = .ok (.if_icmp .eq 5, 3) := by decide +kernel
theorem dX3_swap_35 : decode cX3_swap 35 = .ok (.iconst 0, 1) := by decide +kernel
theorem dX3_swap_36 : decode cX3_swap 36 = .ok (.ireturn, 1) := by decide +kernel
theorem dX3_swap_37 : decode cX3_swap 37 = .ok (.aload 5, 2) := by decide +kernel
theorem dX3_swap_39 : decode cX3_swap 39 = .ok (.iload_n 2, 1) := by decide +kernel
theorem dX3_swap_40 : decode cX3_swap 40 = .ok (.iload 4, 2) := by decide +kernel
theorem dX3_swap_42 : decode cX3_swap 42 = .ok (.invokevirtual 35, 3) := by decide +kernel
theorem dX3_swap_45 : decode cX3_swap 45 = .ok (.pop, 1) := by decide +kernel
theorem dX3_swap_46 : decode cX3_swap 46 = .ok (.iconst 1, 1) := by decide +kernel
theorem dX3_swap_47 : decode cX3_swap 47 = .ok (.ireturn, 1) := by decide +kernel
set_option maxRecDepth 20000 in
theorem ggX3_strike_X3_bookToWriteKey : GoodIn wsX3_strike wsX3_bookToWriteKey := goodIn_ca (goodIn_ca (goodIn_r _ [5, 6, 7, 8, 4, 9, 10, 11, 12, 13, 14, 15, 16, 17, 18, 19, 20, 21, 22, 23, 65, 66, 67, 68, 69, 70, 71, 72, 73, 74, 75, 76, 77] (by decide +kernel) (by decide +kernel)) (goodIn_sub (fun _ h => List.mem_cons_of_mem _ (List.mem_append_left _ (List.mem_append_right _ h))) (by decide +kernel))) (goodIn_sub (fun _ h => List.mem_cons_of_mem _ (List.mem_append_right _ h)) (by decide +kernel))
set_option maxRecDepth 20000 in
theorem gX3_strike_X3_bookToWriteKey : GoodIn wsX3_strike (wsV RX3 60 RX3 yX3_bookToWriteKey wsX3_bookToWriteKey) := goodIn_app (goodIn_of _ (by decide +kernel)) ggX3_strike_X3_bookToWriteKey
set_option maxRecDepth 20000 in
theorem ggX3_strike_X0_removeKey : GoodIn wsX3_strike wsX0_removeKey := goodIn_r _ [27, 28, 29, 30, 21, 31, 32, 33, 34, 35, 36, 37, 38, 39, 40, 41, 42, 43, 44, 45, 46, 47, 48, 49, 50, 51, 52, 53, 54, 55, 56, 57, 58, 59, 60, 61, 62, 63, 64, 71, 72, 73, 74, 75, 76, 77] (by decide +kernel) (by decide +kernel)
set_option maxRecDepth 20000 in
theorem gX3_strike_X0_removeKey : GoodIn wsX3_strike (wsV RX3 64 RX0 yX0_removeKey wsX0_removeKey) := goodIn_app (goodIn_of _ (by decide +kernel)) ggX3_strike_X0_removeKey
theorem dX3_strike_0 : decode cX3_strike 0 = .ok (.aload_n 0, 1) := by decide +kernel
theorem dX3_strike_1 : decode cX3_strike 1 = .ok (.iload_n 1, 1) := by decide +kernel
theorem dX3_strike_2 : decode cX3_strike 2 = .ok (.iload_n 2, 1) := by decide +kernel
theorem dX3_strike_3 : decode cX3_strike 3 = .ok (.invokevirtual 60, 3) := by decide +kernel
theorem dX3_strike_6 : decode cX3_strike 6 = .ok (.iload_n 2, 1) := by decide +kernel
theorem dX3_strike_7 : decode cX3_strike 7 = .ok (.invokevirtual 64, 3) := by decide +kernel
theorem dX3_strike_10 : decode cX3_strike 10 = .ok (.ireturn, 1) := by decide +kernel
set_option maxRecDepth 20000 in
theorem ggX3_strikePair_X3_bookToWritePair : GoodIn wsX3_strikePair wsX3_bookToWritePair := goodIn_ca (goodIn_ca (goodIn_r _ [5, 6, 7, 8, 4, 9, 10, 11, 12, 13, 14, 15, 16, 17, 18, 19, 20, 21, 22, 23, 24, 25, 26, 72, 73, 74, 75, 76, 77, 78, 79, 80, 81, 82, 83, 84] (by decide +kernel) (by decide +kernel)) (goodIn_sub (fun _ h => List.mem_cons_of_mem _ (List.mem_append_left _ (List.mem_append_right _ h))) (by decide +kernel))) (goodIn_sub (fun _ h => List.mem_cons_of_mem _ (List.mem_append_right _ h)) (by decide +kernel))
set_option maxRecDepth 20000 in
theorem gX3_strikePair_X3_bookToWritePair : GoodIn wsX3_strikePair (wsV RX3 31 RX3 yX3_bookToWritePair wsX3_bookToWritePair) := goodIn_app (goodIn_of _ (by decide +kernel)) ggX3_strikePair_X3_bookToWritePair
set_option maxRecDepth 20000 in
theorem ggX3_strikePair_X0_valueOf : GoodIn wsX3_strikePair wsX0_valueOf := goodIn_r _ [30, 31, 32, 33, 24, 34, 35, 36, 37, 38, 39, 40, 41, 42, 43, 44, 45, 46, 47, 48, 49, 50, 51, 52, 53, 54, 55, 56, 57, 58, 78, 79, 80, 81, 82, 83, 84] (by decide +kernel) (by decide +kernel)
set_option maxRecDepth 20000 in
theorem gX3_strikePair_X0_valueOf : GoodIn wsX3_strikePair (wsV RX3 43 RX0 yX0_valueOf wsX0_valueOf) := goodIn_app (goodIn_of _ (by decide +kernel)) ggX3_strikePair_X0_valueOf
set_option maxRecDepth 20000 in
theorem ggX3_strikePair_X0_removeKey : GoodIn wsX3_strikePair wsX0_removeKey := goodIn_r _ [62, 31, 32, 33, 24, 34, 35, 36, 37, 38, 39, 40, 41, 42, 43, 44, 45, 46, 47, 48, 49, 50, 51, 52, 53, 54, 55, 56, 57, 58, 63, 64, 65, 66, 67, 68, 69, 70, 71, 78, 79, 80, 81, 82, 83, 84] (by decide +kernel) (by decide +kernel)
set_option maxRecDepth 20000 in
theorem gX3_strikePair_X0_removeKey : GoodIn wsX3_strikePair (wsV RX3 64 RX0 yX0_removeKey wsX0_removeKey) := goodIn_app (goodIn_of _ (by decide +kernel)) ggX3_strikePair_X0_removeKey
theorem dX3_strikePair_0 : decode cX3_strikePair 0 = .ok (.aload_n 0, 1) := by decide +kernel
theorem dX3_strikePair_1 : decode cX3_strikePair 1 = .ok (.iload_n 1, 1) := by decide +kernel
theorem dX3_strikePair_2 : decode cX3_strikePair 2 = .ok (.iload_n 2, 1) := by decide +kernel
theorem dX3_strikePair_3 : decode cX3_strikePair 3 = .ok (.iload_n 3, 1) := by decide +kernel
theorem dX3_strikePair_4 : decode cX3_strikePair 4 = .ok (.invokevirtual 31, 3) := by decide +kernel
theorem dX3_strikePair_7 : decode cX3_strikePair 7 = .ok (.astore 4, 2) := by decide +kernel
theorem dX3_strikePair_9 : decode cX3_strikePair 9 = .ok (.aload 4, 2) := by decide +kernel
theorem dX3_strikePair_11 : decode cX3_strikePair 11 = .ok (.iload_n 2, 1) := by decide +kernel
theorem dX3_strikePair_12 : decode cX3_strikePair 12 = .ok (.invokevirtual 43, 3) := by decide +kernel
theorem dX3_strikePair_15 : decode cX3_strikePair 15 = .ok (.iload_n 3, 1) := by decide +kernel
theorem dX3_strikePair_16 : decode cX3_strikePair 16 = .ok (.if_icmp .eq 5, 3) := by decide +kernel
theorem dX3_strikePair_19 : decode cX3_strikePair 19 = .ok (.iconst 0, 1) := by decide +kernel
theorem dX3_strikePair_20 : decode cX3_strikePair 20 = .ok (.ireturn, 1) := by decide +kernel
theorem dX3_strikePair_21 : decode cX3_strikePair 21 = .ok (.aload 4, 2) := by decide +kernel
theorem dX3_strikePair_23 : decode cX3_strikePair 23 = .ok (.iload_n 2, 1) := by decide +kernel
theorem dX3_strikePair_24 : decode cX3_strikePair 24 = .ok (.invokevirtual 64, 3) := by decide +kernel
theorem dX3_strikePair_27 : decode cX3_strikePair 27 = .ok (.pop, 1) := by decide +kernel
theorem dX3_strikePair_28 : decode cX3_strikePair 28 = .ok (.iconst 1, 1) := by decide +kernel
theorem dX3_strikePair_29 : decode cX3_strikePair 29 = .ok (.ireturn, 1) := by decide +kernel
set_option maxRecDepth 20000 in
theorem ggX3_merge_X3_bookToWritePair : GoodIn wsX3_merge wsX3_bookToWritePair := goodIn_ca (goodIn_ca (goodIn_r _ [5, 6, 7, 8, 4, 9, 10, 11, 12, 13, 14, 15, 16, 17, 18, 19, 20, 21, 22, 23, 24, 25, 26, 102, 103, 104, 105, 106, 107, 108, 109, 110, 111, 112, 113, 114] (by decide +kernel) (by decide +kernel)) (goodIn_sub (fun _ h => List.mem_cons_of_mem _ (List.mem_append_left _ (List.mem_append_right _ h))) (by decide +kernel))) (goodIn_sub (fun _ h => List.mem_cons_of_mem _ (List.mem_append_right _ h)) (by decide +kernel))
set_option maxRecDepth 20000 in
theorem gX3_merge_X3_bookToWritePair : GoodIn wsX3_merge (wsV RX3 31 RX3 yX3_bookToWritePair wsX3_bookToWritePair) := goodIn_app (goodIn_of _ (by decide +kernel)) ggX3_merge_X3_bookToWritePair
set_option maxRecDepth 20000 in
theorem ggX3_merge_X0_putTogether : GoodIn wsX3_merge wsX0_putTogether := goodIn_r _ [30, 31, 32, 33, 24, 34, 35, 36, 37, 38, 39, 40, 41, 42, 43, 44, 45, 46, 47, 48, 49, 50, 51, 52, 53, 54, 55, 56, 57, 58, 59, 60, 61, 62, 63, 64, 65, 66, 67, 68, 69, 70, 71, 72, 73, 74, 75, 76, 77, 78, 79, 80, 81, 82, 83, 84, 85, 86, 87, 88, 89, 90, 91, 92, 93, 94, 95, 96, 97, 98, 99, 100, 101, 108, 109, 110, 111, 112, 113, 114] (by decide +kernel) (by decide +kernel)
set_option maxRecDepth 20000 in
theorem gX3_merge_X0_putTogether : GoodIn wsX3_merge (wsV RX3 67 RX0 yX0_putTogether wsX0_putTogether) := goodIn_app (goodIn_of _ (by decide +kernel)) ggX3_merge_X0_putTogether
theorem dX3_merge_0 : decode cX3_merge 0 = .ok (.aload_n 0, 1) := by decide +kernel
theorem dX3_merge_1 : decode cX3_merge 1 = .ok (.iload_n 1, 1) := by decide +kernel
theorem dX3_merge_2 : decode cX3_merge 2 = .ok (.iload_n 2, 1) := by decide +kernel
theorem dX3_merge_3 : decode cX3_merge 3 = .ok (.iload_n 3, 1) := by decide +kernel
theorem dX3_merge_4 : decode cX3_merge 4 = .ok (.invokevirtual 31, 3) := by decide +kernel
theorem dX3_merge_7 : decode cX3_merge 7 = .ok (.iload_n 2, 1) := by decide +kernel
theorem dX3_merge_8 : decode cX3_merge 8 = .ok (.iload_n 3, 1) := by decide +kernel
theorem dX3_merge_9 : decode cX3_merge 9 = .ok (.invokevirtual 67, 3) := by decide +kernel
theorem dX3_merge_12 : decode cX3_merge 12 = .ok (.ireturn, 1) := by decide +kernel
set_option maxRecDepth 20000 in
theorem ggX3_grow_X3_bookToWriteKey : GoodIn wsX3_grow wsX3_bookToWriteKey := goodIn_ca (goodIn_ca (goodIn_r _ [5, 6, 7, 8, 4, 9, 10, 11, 12, 13, 14, 15, 16, 17, 18, 19, 20, 21, 22, 23, 77, 78, 79, 80, 81, 82, 83, 84, 85, 86, 87, 88, 89] (by decide +kernel) (by decide +kernel)) (goodIn_sub (fun _ h => List.mem_cons_of_mem _ (List.mem_append_left _ (List.mem_append_right _ h))) (by decide +kernel))) (goodIn_sub (fun _ h => List.mem_cons_of_mem _ (List.mem_append_right _ h)) (by decide +kernel))
set_option maxRecDepth 20000 in
theorem gX3_grow_X3_bookToWriteKey : GoodIn wsX3_grow (wsV RX3 60 RX3 yX3_bookToWriteKey wsX3_bookToWriteKey) := goodIn_app (goodIn_of _ (by decide +kernel)) ggX3_grow_X3_bookToWriteKey
set_option maxRecDepth 20000 in
theorem ggX3_grow_X0_growKey : GoodIn wsX3_grow wsX0_growKey := goodIn_r _ [27, 28, 29, 30, 21, 31, 32, 33, 34, 35, 36, 37, 38, 39, 40, 41, 42, 43, 44, 45, 46, 47, 48, 49, 50, 51, 52, 53, 54, 55, 56, 57, 58, 59, 60, 61, 62, 63, 64, 65, 66, 67, 68, 69, 70, 71, 72, 73, 74, 75, 76, 83, 84, 85, 86, 87, 88, 89] (by decide +kernel) (by decide +kernel)
set_option maxRecDepth 20000 in
theorem gX3_grow_X0_growKey : GoodIn wsX3_grow (wsV RX3 70 RX0 yX0_growKey wsX0_growKey) := goodIn_app (goodIn_of _ (by decide +kernel)) ggX3_grow_X0_growKey
theorem dX3_grow_0 : decode cX3_grow 0 = .ok (.aload_n 0, 1) := by decide +kernel
theorem dX3_grow_1 : decode cX3_grow 1 = .ok (.iload_n 1, 1) := by decide +kernel
theorem dX3_grow_2 : decode cX3_grow 2 = .ok (.iload_n 2, 1) := by decide +kernel
theorem dX3_grow_3 : decode cX3_grow 3 = .ok (.invokevirtual 60, 3) := by decide +kernel
theorem dX3_grow_6 : decode cX3_grow 6 = .ok (.iload_n 2, 1) := by decide +kernel
theorem dX3_grow_7 : decode cX3_grow 7 = .ok (.invokevirtual 70, 3) := by decide +kernel
theorem dX3_grow_10 : decode cX3_grow 10 = .ok (.ireturn, 1) := by decide +kernel
set_option maxRecDepth 20000 in
theorem ggX3_halve_X3_bookToWriteKey : GoodIn wsX3_halve wsX3_bookToWriteKey := goodIn_ca (goodIn_ca (goodIn_r _ [5, 6, 7, 8, 4, 9, 10, 11, 12, 13, 14, 15, 16, 17, 18, 19, 20, 21, 22, 23, 89, 90, 91, 92, 93, 94, 95, 96, 97, 98, 99, 100, 101] (by decide +kernel) (by decide +kernel)) (goodIn_sub (fun _ h => List.mem_cons_of_mem _ (List.mem_append_left _ (List.mem_append_right _ h))) (by decide +kernel))) (goodIn_sub (fun _ h => List.mem_cons_of_mem _ (List.mem_append_right _ h)) (by decide +kernel))
set_option maxRecDepth 20000 in
theorem gX3_halve_X3_bookToWriteKey : GoodIn wsX3_halve (wsV RX3 60 RX3 yX3_bookToWriteKey wsX3_bookToWriteKey) := goodIn_app (goodIn_of _ (by decide +kernel)) ggX3_halve_X3_bookToWriteKey
set_option maxRecDepth 20000 in
theorem ggX3_halve_X0_halveKey : GoodIn wsX3_halve wsX0_halveKey := goodIn_r _ [27, 28, 29, 30, 21, 31, 32, 33, 34, 35, 36, 37, 38, 39, 40, 41, 42, 43, 44, 45, 46, 47, 48, 49, 50, 51, 52, 53, 54, 55, 56, 57, 58, 59, 60, 61, 62, 63, 64, 65, 66, 67, 68, 69, 70, 71, 72, 73, 74, 75, 76, 77, 78, 79, 80, 81, 82, 83, 84, 85, 86, 87, 88, 95, 96, 97, 98, 99, 100, 101] (by decide +kernel) (by decide +kernel)
set_option maxRecDepth 20000 in
theorem gX3_halve_X0_halveKey : GoodIn wsX3_halve (wsV RX3 73 RX0 yX0_halveKey wsX0_halveKey) := goodIn_app (goodIn_of _ (by decide +kernel)) ggX3_halve_X0_halveKey
theorem dX3_halve_0 : decode cX3_halve 0 = .ok (.aload_n 0, 1) := by decide +kernel
theorem dX3_halve_1 : decode cX3_halve 1 = .ok (.iload_n 1, 1) := by decide +kernel
theorem dX3_halve_2 : decode cX3_halve 2 = .ok (.iload_n 2, 1) := by decide +kernel
theorem dX3_halve_3 : decode cX3_halve 3 = .ok (.invokevirtual 60, 3) := by decide +kernel
theorem dX3_halve_6 : decode cX3_halve 6 = .ok (.iload_n 2, 1) := by decide +kernel
theorem dX3_halve_7 : decode cX3_halve 7 = .ok (.invokevirtual 73, 3) := by decide +kernel
theorem dX3_halve_10 : decode cX3_halve 10 = .ok (.ireturn, 1) := by decide +kernel
set_option maxRecDepth 20000 in
theorem ggX3_twice_X3_bookToWriteKey : GoodIn wsX3_twice wsX3_bookToWriteKey := goodIn_ca (goodIn_ca (goodIn_r _ [5, 6, 7, 8, 4, 9, 10, 11, 12, 13, 14, 15, 16, 17, 18, 19, 20, 21, 22, 23, 81, 82, 83, 84, 85, 86, 87, 88, 89, 90, 91, 92, 93] (by decide +kernel) (by decide +kernel)) (goodIn_sub (fun _ h => List.mem_cons_of_mem _ (List.mem_append_left _ (List.mem_append_right _ h))) (by decide +kernel))) (goodIn_sub (fun _ h => List.mem_cons_of_mem _ (List.mem_append_right _ h)) (by decide +kernel))
set_option maxRecDepth 20000 in
theorem gX3_twice_X3_bookToWriteKey : GoodIn wsX3_twice (wsV RX3 60 RX3 yX3_bookToWriteKey wsX3_bookToWriteKey) := goodIn_app (goodIn_of _ (by decide +kernel)) ggX3_twice_X3_bookToWriteKey
set_option maxRecDepth 20000 in
theorem ggX3_twice_X0_doubleKey : GoodIn wsX3_twice wsX0_doubleKey := goodIn_r _ [27, 28, 29, 30, 21, 31, 32, 33, 34, 35, 36, 37, 38, 39, 40, 41, 42, 43, 44, 45, 46, 47, 48, 49, 50, 51, 52, 53, 54, 55, 56, 57, 58, 59, 60, 61, 62, 63, 64, 65, 66, 67, 68, 69, 70, 71, 72, 73, 74, 75, 76, 77, 78, 79, 80, 87, 88, 89, 90, 91, 92, 93] (by decide +kernel) (by decide +kernel)
set_option maxRecDepth 20000 in
theorem gX3_twice_X0_doubleKey : GoodIn wsX3_twice (wsV RX3 76 RX0 yX0_doubleKey wsX0_doubleKey) := goodIn_app (goodIn_of _ (by decide +kernel)) ggX3_twice_X0_doubleKey
theorem dX3_twice_0 : decode cX3_twice 0 = .ok (.aload_n 0, 1) := by decide +kernel
theorem dX3_twice_1 : decode cX3_twice 1 = .ok (.iload_n 1, 1) := by decide +kernel
theorem dX3_twice_2 : decode cX3_twice 2 = .ok (.iload_n 2, 1) := by decide +kernel
theorem dX3_twice_3 : decode cX3_twice 3 = .ok (.invokevirtual 60, 3) := by decide +kernel
theorem dX3_twice_6 : decode cX3_twice 6 = .ok (.iload_n 2, 1) := by decide +kernel
theorem dX3_twice_7 : decode cX3_twice 7 = .ok (.invokevirtual 76, 3) := by decide +kernel
theorem dX3_twice_10 : decode cX3_twice 10 = .ok (.ireturn, 1) := by decide +kernel
set_option maxRecDepth 20000 in
theorem ggX3_poll_X3_bookAt : GoodIn wsX3_poll wsX3_bookAt := goodIn_ca (goodIn_r _ [5, 6, 7, 8, 43, 44, 45, 46, 47, 48] (by decide +kernel) (by decide +kernel)) (goodIn_sub (fun _ h => List.mem_cons_of_mem _ (List.mem_append_right _ h)) (by decide +kernel))
set_option maxRecDepth 20000 in
theorem gX3_poll_X3_bookAt : GoodIn wsX3_poll (wsV RX3 47 RX3 yX3_bookAt wsX3_bookAt) := goodIn_app (goodIn_of _ (by decide +kernel)) ggX3_poll_X3_bookAt
set_option maxRecDepth 20000 in
theorem ggX3_poll_X0_touch : GoodIn wsX3_poll wsX0_touch := goodIn_r _ [13, 14, 49, 50, 51, 52, 53, 54, 55] (by decide +kernel) (by decide +kernel)
set_option maxRecDepth 20000 in
theorem gX3_poll_X0_touch : GoodIn wsX3_poll (wsV RX3 57 RX0 yX0_touch wsX0_touch) := goodIn_app (goodIn_of _ (by decide +kernel)) ggX3_poll_X0_touch
set_option maxRecDepth 20000 in
theorem ggX3_poll_X0_size : GoodIn wsX3_poll wsX0_size := goodIn_r _ [18, 19, 49, 50, 51, 52, 53, 54, 55] (by decide +kernel) (by decide +kernel)
set_option maxRecDepth 20000 in
theorem gX3_poll_X0_size : GoodIn wsX3_poll (wsV RX3 79 RX0 yX0_size wsX0_size) := goodIn_app (goodIn_of _ (by decide +kernel)) ggX3_poll_X0_size
set_option maxRecDepth 20000 in
theorem ggX3_poll_X0_removeAt : GoodIn wsX3_poll wsX0_removeAt := goodIn_r _ [23, 24, 25, 26, 12, 27, 28, 29, 30, 31, 32, 19, 33, 34, 35, 36, 37, 38, 39, 40, 41, 42, 49, 50, 51, 52, 53, 54, 55] (by decide +kernel) (by decide +kernel)
set_option maxRecDepth 20000 in
theorem gX3_poll_X0_removeAt : GoodIn wsX3_poll (wsV RX3 83 RX0 yX0_removeAt wsX0_removeAt) := goodIn_app (goodIn_of _ (by decide +kernel)) ggX3_poll_X0_removeAt
theorem dX3_poll_0 : decode cX3_poll 0 = .ok (.aload_n 0, 1) := by decide +kernel
theorem dX3_poll_1 : decode cX3_poll 1 = .ok (.iload_n 1, 1) := by decide +kernel
theorem dX3_poll_2 : decode cX3_poll 2 = .ok (.invokevirtual 47, 3) := by decide +kernel
theorem dX3_poll_5 : decode cX3_poll 5 = .ok (.astore_n 3, 1) := by decide +kernel
theorem dX3_poll_6 : decode cX3_poll 6 = .ok (.aload_n 3, 1) := by decide +kernel
theorem dX3_poll_7 : decode cX3_poll 7 = .ok (.invokevirtual 57, 3) := by decide +kernel
theorem dX3_poll_10 : decode cX3_poll 10 = .ok (.aload_n 3, 1) := by decide +kernel
theorem dX3_poll_11 : decode cX3_poll 11 = .ok (.iload_n 2, 1) := by decide +kernel
theorem dX3_poll_12 : decode cX3_poll 12 = .ok (.ifCond .eq 12, 3) := by decide +kernel
theorem dX3_poll_15 : decode cX3_poll 15 = .ok (.aload_n 3, 1) := by decide +kernel
theorem dX3_poll_16 : decode cX3_poll 16 = .ok (.invokevirtual 79, 3) := by decide +kernel
theorem dX3_poll_19 : decode cX3_poll 19 = .ok (.iconst 1, 1) := by decide +kernel
theorem dX3_poll_20 : decode cX3_poll 20 = .ok (.isub, 1) := by decide +kernel
theorem dX3_poll_21 : decode cX3_poll 21 = .ok (.goto 4, 3) := by decide +kernel
theorem dX3_poll_24 : decode cX3_poll 24 = .ok (.iconst 0, 1) := by decide +kernel
theorem dX3_poll_25 : decode cX3_poll 25 = .ok (.invokevirtual 83, 3) := by decide +kernel
theorem dX3_poll_28 : decode cX3_poll 28 = .ok (.ireturn, 1) := by decide +kernel
set_option maxRecDepth 20000 in
theorem ggX3_raise_X3_bookAt : GoodIn wsX3_raise wsX3_bookAt := goodIn_ca (goodIn_r _ [7, 8, 9, 10, 33, 34, 35, 36, 37, 38] (by decide +kernel) (by decide +kernel)) (goodIn_sub (fun _ h => List.mem_cons_of_mem _ (List.mem_append_right _ h)) (by decide +kernel))
set_option maxRecDepth 20000 in
theorem gX3_raise_X3_bookAt : GoodIn wsX3_raise (wsV RX3 47 RX3 yX3_bookAt wsX3_bookAt) := goodIn_app (goodIn_of _ (by decide +kernel)) ggX3_raise_X3_bookAt
set_option maxRecDepth 20000 in
theorem ggX3_raise_X0_touch : GoodIn wsX3_raise wsX0_touch := goodIn_r _ [15, 16, 39, 40, 41, 42, 43, 44, 45] (by decide +kernel) (by decide +kernel)
set_option maxRecDepth 20000 in
theorem gX3_raise_X0_touch : GoodIn wsX3_raise (wsV RX3 57 RX0 yX0_touch wsX0_touch) := goodIn_app (goodIn_of _ (by decide +kernel)) ggX3_raise_X0_touch
set_option maxRecDepth 20000 in
theorem ggX3_raise_X0_raiseAll : GoodIn wsX3_raise wsX0_raiseAll := goodIn_r _ [20, 21, 22, 23, 24, 14, 25, 26, 27, 28, 29, 30, 31, 32, 39, 40, 41, 42, 43, 44, 45] (by decide +kernel) (by decide +kernel)
set_option maxRecDepth 20000 in
theorem gX3_raise_X0_raiseAll : GoodIn wsX3_raise (wsV RX3 93 RX0 yX0_raiseAll wsX0_raiseAll) := goodIn_app (goodIn_of _ (by decide +kernel)) ggX3_raise_X0_raiseAll
theorem dX3_raise_0 : decode cX3_raise 0 = .ok (.aload_n 0, 1) := by decide +kernel
theorem dX3_raise_1 : decode cX3_raise 1 = .ok (.iload_n 1, 1) := by decide +kernel
theorem dX3_raise_2 : decode cX3_raise 2 = .ok (.invokevirtual 47, 3) := by decide +kernel
theorem dX3_raise_5 : decode cX3_raise 5 = .ok (.astore_n 3, 1) := by decide +kernel
theorem dX3_raise_6 : decode cX3_raise 6 = .ok (.iload_n 2, 1) := by decide +kernel
theorem dX3_raise_7 : decode cX3_raise 7 = .ok (.sipush (-999), 3) := by decide +kernel
theorem dX3_raise_10 : decode cX3_raise 10 = .ok (.if_icmp .lt 10, 3) := by decide +kernel
theorem dX3_raise_13 : decode cX3_raise 13 = .ok (.iload_n 2, 1) := by decide +kernel
theorem dX3_raise_14 : decode cX3_raise 14 = .ok (.sipush 999, 3) := by decide +kernel
theorem dX3_raise_17 : decode cX3_raise 17 = .ok (.if_icmp .le 13, 3) := by decide +kernel
theorem dX3_raise_20 : decode cX3_raise 20 = .ok (.new 86, 3) := by decide +kernel
theorem dX3_raise_23 : decode cX3_raise 23 = .ok (.dup, 1) := by decide +kernel
theorem dX3_raise_24 : decode cX3_raise 24 = .ok (.ldc 88, 2) := by decide +kernel
theorem dX3_raise_26 : decode cX3_raise 26 = .ok (.invokespecial 90, 3) := by decide +kernel
theorem dX3_raise_29 : decode cX3_raise 29 = .ok (.athrow, 1) := by decide +kernel
theorem dX3_raise_30 : decode cX3_raise 30 = .ok (.aload_n 3, 1) := by decide +kernel
theorem dX3_raise_31 : decode cX3_raise 31 = .ok (.invokevirtual 57, 3) := by decide +kernel
theorem dX3_raise_34 : decode cX3_raise 34 = .ok (.aload_n 3, 1) := by decide +kernel
theorem dX3_raise_35 : decode cX3_raise 35 = .ok (.iload_n 2, 1) := by decide +kernel
theorem dX3_raise_36 : decode cX3_raise 36 = .ok (.invokevirtual 93, 3) := by decide +kernel
theorem dX3_raise_39 : decode cX3_raise 39 = .ok (.ireturn, 1) := by decide +kernel
set_option maxRecDepth 20000 in
theorem ggX3_sift_X3_bookAt : GoodIn wsX3_sift wsX3_bookAt := goodIn_ca (goodIn_r _ [7, 8, 9, 10, 49, 50, 51, 52, 53, 54] (by decide +kernel) (by decide +kernel)) (goodIn_sub (fun _ h => List.mem_cons_of_mem _ (List.mem_append_right _ h)) (by decide +kernel))
set_option maxRecDepth 20000 in
theorem gX3_sift_X3_bookAt : GoodIn wsX3_sift (wsV RX3 47 RX3 yX3_bookAt wsX3_bookAt) := goodIn_app (goodIn_of _ (by decide +kernel)) ggX3_sift_X3_bookAt
set_option maxRecDepth 20000 in
theorem ggX3_sift_X0_touch : GoodIn wsX3_sift wsX0_touch := goodIn_r _ [15, 16, 55, 56, 57, 58, 59, 60, 61] (by decide +kernel) (by decide +kernel)
set_option maxRecDepth 20000 in
theorem gX3_sift_X0_touch : GoodIn wsX3_sift (wsV RX3 57 RX0 yX0_touch wsX0_touch) := goodIn_app (goodIn_of _ (by decide +kernel)) ggX3_sift_X0_touch
set_option maxRecDepth 20000 in
theorem ggX3_sift_X0_removeMultiples : GoodIn wsX3_sift wsX0_removeMultiples := goodIn_r _ [20, 21, 22, 23, 24, 14, 25, 26, 27, 28, 29, 30, 31, 32, 33, 34, 35, 36, 37, 38, 39, 40, 41, 42, 43, 44, 45, 46, 47, 48, 55, 56, 57, 58, 59, 60, 61] (by decide +kernel) (by decide +kernel)
set_option maxRecDepth 20000 in
theorem gX3_sift_X0_removeMultiples : GoodIn wsX3_sift (wsV RX3 98 RX0 yX0_removeMultiples wsX0_removeMultiples) := goodIn_app (goodIn_of _ (by decide +kernel)) ggX3_sift_X0_removeMultiples
theorem dX3_sift_0 : decode cX3_sift 0 = .ok (.aload_n 0, 1) := by decide +kernel
theorem dX3_sift_1 : decode cX3_sift 1 = .ok (.iload_n 1, 1) := by decide +kernel
theorem dX3_sift_2 : decode cX3_sift 2 = .ok (.invokevirtual 47, 3) := by decide +kernel
theorem dX3_sift_5 : decode cX3_sift 5 = .ok (.astore_n 3, 1) := by decide +kernel
theorem dX3_sift_6 : decode cX3_sift 6 = .ok (.iload_n 2, 1) := by decide +kernel
theorem dX3_sift_7 : decode cX3_sift 7 = .ok (.iconst 2, 1) := by decide +kernel
theorem dX3_sift_8 : decode cX3_sift 8 = .ok (.if_icmp .lt 9, 3) := by decide +kernel
theorem dX3_sift_11 : decode cX3_sift 11 = .ok (.iload_n 2, 1) := by decide +kernel
theorem dX3_sift_12 : decode cX3_sift 12 = .ok (.bipush 99, 2) := by decide +kernel
theorem dX3_sift_14 : decode cX3_sift 14 = .ok (.if_icmp .le 13, 3) := by decide +kernel
theorem dX3_sift_17 : decode cX3_sift 17 = .ok (.new 86, 3) := by decide +kernel
theorem dX3_sift_20 : decode cX3_sift 20 = .ok (.dup, 1) := by decide +kernel
theorem dX3_sift_21 : decode cX3_sift 21 = .ok (.ldc 96, 2) := by decide +kernel
theorem dX3_sift_23 : decode cX3_sift 23 = .ok (.invokespecial 90, 3) := by decide +kernel
theorem dX3_sift_26 : decode cX3_sift 26 = .ok (.athrow, 1) := by decide +kernel
theorem dX3_sift_27 : decode cX3_sift 27 = .ok (.aload_n 3, 1) := by decide +kernel
theorem dX3_sift_28 : decode cX3_sift 28 = .ok (.invokevirtual 57, 3) := by decide +kernel
theorem dX3_sift_31 : decode cX3_sift 31 = .ok (.aload_n 3, 1) := by decide +kernel
theorem dX3_sift_32 : decode cX3_sift 32 = .ok (.iload_n 2, 1) := by decide +kernel
theorem dX3_sift_33 : decode cX3_sift 33 = .ok (.invokevirtual 98, 3) := by decide +kernel
theorem dX3_sift_36 : decode cX3_sift 36 = .ok (.ireturn, 1) := by decide +kernel
set_option maxRecDepth 20000 in
theorem ggX3_strikeValue_X3_bookAt : GoodIn wsX3_strikeValue wsX3_bookAt := goodIn_ca (goodIn_r _ [7, 8, 9, 10, 54, 55, 56, 57, 58, 59] (by decide +kernel) (by decide +kernel)) (goodIn_sub (fun _ h => List.mem_cons_of_mem _ (List.mem_append_left _ (List.mem_append_right _ h))) (by decide +kernel))
set_option maxRecDepth 20000 in
theorem gX3_strikeValue_X3_bookAt : GoodIn wsX3_strikeValue (wsV RX3 47 RX3 yX3_bookAt wsX3_bookAt) := goodIn_app (goodIn_of _ (by decide +kernel)) ggX3_strikeValue_X3_bookAt
set_option maxRecDepth 20000 in
theorem ggX3_strikeValue_X3_checkValue : GoodIn wsX3_strikeValue wsX3_checkValue := goodIn_ca (goodIn_r _ [13, 14, 15] (by decide +kernel) (by decide +kernel)) (goodIn_sub (fun _ h => List.mem_cons_of_mem _ (List.mem_append_right _ h)) (by decide +kernel))
set_option maxRecDepth 20000 in
theorem gX3_strikeValue_X3_checkValue : GoodIn wsX3_strikeValue (va_wsS RX3 54 yX3_checkValue wsX3_checkValue) := goodIn_app (goodIn_of _ (by decide +kernel)) ggX3_strikeValue_X3_checkValue
set_option maxRecDepth 20000 in
theorem ggX3_strikeValue_X0_countOfValue : GoodIn wsX3_strikeValue wsX0_countOfValue := goodIn_r _ [20, 21, 22, 60, 61, 62, 63, 64, 65, 66] (by decide +kernel) (by decide +kernel)
set_option maxRecDepth 20000 in
theorem gX3_strikeValue_X0_countOfValue : GoodIn wsX3_strikeValue (wsV RX3 101 RX0 yX0_countOfValue wsX0_countOfValue) := goodIn_app (goodIn_of _ (by decide +kernel)) ggX3_strikeValue_X0_countOfValue
set_option maxRecDepth 20000 in
theorem ggX3_strikeValue_X0_touch : GoodIn wsX3_strikeValue wsX0_touch := goodIn_r _ [26, 27, 60, 61, 62, 63, 64, 65, 66] (by decide +kernel) (by decide +kernel)
set_option maxRecDepth 20000 in
theorem gX3_strikeValue_X0_touch : GoodIn wsX3_strikeValue (wsV RX3 57 RX0 yX0_touch wsX0_touch) := goodIn_app (goodIn_of _ (by decide +kernel)) ggX3_strikeValue_X0_touch
set_option maxRecDepth 20000 in
theorem ggX3_strikeValue_X0_firstPlaceOfValue : GoodIn wsX3_strikeValue wsX0_firstPlaceOfValue := goodIn_r _ [31, 21, 22, 60, 61, 62, 63, 64, 65, 66] (by decide +kernel) (by decide +kernel)
set_option maxRecDepth 20000 in
theorem gX3_strikeValue_X0_firstPlaceOfValue : GoodIn wsX3_strikeValue (wsV RX3 109 RX0 yX0_firstPlaceOfValue wsX0_firstPlaceOfValue) := goodIn_app (goodIn_of _ (by decide +kernel)) ggX3_strikeValue_X0_firstPlaceOfValue
set_option maxRecDepth 20000 in
theorem ggX3_strikeValue_X0_removeAt : GoodIn wsX3_strikeValue wsX0_removeAt := goodIn_r _ [35, 36, 37, 38, 19, 39, 40, 41, 42, 43, 44, 21, 45, 46, 47, 48, 49, 50, 51, 52, 22, 53, 60, 61, 62, 63, 64, 65, 66] (by decide +kernel) (by decide +kernel)
set_option maxRecDepth 20000 in
theorem gX3_strikeValue_X0_removeAt : GoodIn wsX3_strikeValue (wsV RX3 83 RX0 yX0_removeAt wsX0_removeAt) := goodIn_app (goodIn_of _ (by decide +kernel)) ggX3_strikeValue_X0_removeAt
theorem dX3_strikeValue_0 : decode cX3_strikeValue 0 = .ok (.aload_n 0, 1) := by decide +kernel
theorem dX3_strikeValue_1 : decode cX3_strikeValue 1 = .ok (.iload_n 1, 1) := by decide +kernel
theorem dX3_strikeValue_2 : decode cX3_strikeValue 2 = .ok (.invokevirtual 47, 3) := by decide +kernel
theorem dX3_strikeValue_5 : decode cX3_strikeValue 5 = .ok (.astore_n 3, 1) := by decide +kernel
theorem dX3_strikeValue_6 : decode cX3_strikeValue 6 = .ok (.iload_n 2, 1) := by decide +kernel
theorem dX3_strikeValue_7 : decode cX3_strikeValue 7 = .ok (.invokestatic 54, 3) := by decide +kernel
theorem dX3_strikeValue_10 : decode cX3_strikeValue 10 = .ok (.aload_n 3, 1) := by decide +kernel
theorem dX3_strikeValue_11 : decode cX3_strikeValue 11 = .ok (.iload_n 2, 1) := by decide +kernel
theorem dX3_strikeValue_12 : decode cX3_strikeValue 12 = .ok (.invokevirtual 101, 3) := by decide +kernel
theorem dX3_strikeValue_15 : decode cX3_strikeValue 15 = .ok (.istore 4, 2) := by decide +kernel
theorem dX3_strikeValue_17 : decode cX3_strikeValue 17 = .ok (.iload 4, 2) := by decide +kernel
theorem dX3_strikeValue_19 : decode cX3_strikeValue 19 = .ok (.iconst 1, 1) := by decide +kernel
theorem dX3_strikeValue_20 : decode cX3_strikeValue 20 = .ok (.if_icmp .le 13, 3) := by decide +kernel
theorem dX3_strikeValue_23 : decode cX3_strikeValue 23 = .ok (.new 104, 3) := by decide +kernel
theorem dX3_strikeValue_26 : decode cX3_strikeValue 26 = .ok (.dup, 1) := by decide +kernel
theorem dX3_strikeValue_27 : decode cX3_strikeValue 27 = .ok (.ldc 106, 2) := by decide +kernel
theorem dX3_strikeValue_29 : decode cX3_strikeValue 29 = .ok (.invokespecial 108, 3) := by decide +kernel
theorem dX3_strikeValue_32 : decode cX3_strikeValue 32 = .ok (.athrow, 1) := by decide +kernel
theorem dX3_strikeValue_33 : decode cX3_strikeValue 33 = .ok (.aload_n 3, 1) := by decide +kernel
theorem dX3_strikeValue_34 : decode cX3_strikeValue 34 = .ok (.invokevirtual 57, 3) := by decide +kernel
theorem dX3_strikeValue_37 : decode cX3_strikeValue 37 = .ok (.iload 4, 2) := by decide +kernel
theorem dX3_strikeValue_39 : decode cX3_strikeValue 39 = .ok (.ifCond .ne 5, 3) := by decide +kernel
theorem dX3_strikeValue_42 : decode cX3_strikeValue 42 = .ok (.iconst 0, 1) := by decide +kernel
theorem dX3_strikeValue_43 : decode cX3_strikeValue 43 = .ok (.ireturn, 1) := by decide +kernel
theorem dX3_strikeValue_44 : decode cX3_strikeValue 44 = .ok (.aload_n 3, 1) := by decide +kernel
theorem dX3_strikeValue_45 : decode cX3_strikeValue 45 = .ok (.aload_n 3, 1) := by decide +kernel
theorem dX3_strikeValue_46 : decode cX3_strikeValue 46 = .ok (.iload_n 2, 1) := by decide +kernel
theorem dX3_strikeValue_47 : decode cX3_strikeValue 47 = .ok (.invokevirtual 109, 3) := by decide +kernel
theorem dX3_strikeValue_50 : decode cX3_strikeValue 50 = .ok (.invokevirtual 83, 3) := by decide +kernel
theorem dX3_strikeValue_53 : decode cX3_strikeValue 53 = .ok (.pop, 1) := by decide +kernel
theorem dX3_strikeValue_54 : decode cX3_strikeValue 54 = .ok (.iconst 1, 1) := by decide +kernel
theorem dX3_strikeValue_55 : decode cX3_strikeValue 55 = .ok (.ireturn, 1) := by decide +kernel
set_option maxRecDepth 20000 in
theorem ggX3_clear_X3_bookAt : GoodIn wsX3_clear wsX3_bookAt := goodIn_ca (goodIn_r _ [5, 6, 7, 8, 31, 32, 33, 34, 35, 36] (by decide +kernel) (by decide +kernel)) (goodIn_sub (fun _ h => List.mem_cons_of_mem _ (List.mem_append_right _ h)) (by decide +kernel))
set_option maxRecDepth 20000 in
theorem gX3_clear_X3_bookAt : GoodIn wsX3_clear (wsV RX3 47 RX3 yX3_bookAt wsX3_bookAt) := goodIn_app (goodIn_of _ (by decide +kernel)) ggX3_clear_X3_bookAt
set_option maxRecDepth 20000 in
theorem ggX3_clear_X0_touch : GoodIn wsX3_clear wsX0_touch := goodIn_r _ [13, 14, 37, 38, 39, 40, 41, 42, 43] (by decide +kernel) (by decide +kernel)
set_option maxRecDepth 20000 in
theorem gX3_clear_X0_touch : GoodIn wsX3_clear (wsV RX3 57 RX0 yX0_touch wsX0_touch) := goodIn_app (goodIn_of _ (by decide +kernel)) ggX3_clear_X0_touch
set_option maxRecDepth 20000 in
theorem ggX3_clear_X0_size : GoodIn wsX3_clear wsX0_size := goodIn_r _ [18, 19, 37, 38, 39, 40, 41, 42, 43] (by decide +kernel) (by decide +kernel)
set_option maxRecDepth 20000 in
theorem gX3_clear_X0_size : GoodIn wsX3_clear (wsV RX3 79 RX0 yX0_size wsX0_size) := goodIn_app (goodIn_of _ (by decide +kernel)) ggX3_clear_X0_size
set_option maxRecDepth 20000 in
theorem ggX3_clear_X0_removeRange : GoodIn wsX3_clear wsX0_removeRange := goodIn_r _ [23, 19, 24, 25, 26, 27, 28, 29, 30, 37, 38, 39, 40, 41, 42, 43] (by decide +kernel) (by decide +kernel)
set_option maxRecDepth 20000 in
theorem gX3_clear_X0_removeRange : GoodIn wsX3_clear (wsV RX3 112 RX0 yX0_removeRange wsX0_removeRange) := goodIn_app (goodIn_of _ (by decide +kernel)) ggX3_clear_X0_removeRange
theorem dX3_clear_0 : decode cX3_clear 0 = .ok (.aload_n 0, 1) := by decide +kernel
theorem dX3_clear_1 : decode cX3_clear 1 = .ok (.iload_n 1, 1) := by decide +kernel
theorem dX3_clear_2 : decode cX3_clear 2 = .ok (.invokevirtual 47, 3) := by decide +kernel
theorem dX3_clear_5 : decode cX3_clear 5 = .ok (.astore_n 2, 1) := by decide +kernel
theorem dX3_clear_6 : decode cX3_clear 6 = .ok (.aload_n 2, 1) := by decide +kernel
theorem dX3_clear_7 : decode cX3_clear 7 = .ok (.invokevirtual 57, 3) := by decide +kernel
theorem dX3_clear_10 : decode cX3_clear 10 = .ok (.aload_n 2, 1) := by decide +kernel
theorem dX3_clear_11 : decode cX3_clear 11 = .ok (.iconst 0, 1) := by decide +kernel
theorem dX3_clear_12 : decode cX3_clear 12 = .ok (.aload_n 2, 1) := by decide +kernel
theorem dX3_clear_13 : decode cX3_clear 13 = .ok (.invokevirtual 79, 3) := by decide +kernel
theorem dX3_clear_16 : decode cX3_clear 16 = .ok (.invokevirtual 112, 3) := by decide +kernel
theorem dX3_clear_19 : decode cX3_clear 19 = .ok (.ireturn, 1) := by decide +kernel
set_option maxRecDepth 20000 in
theorem ggX3_pour_X3_bookAt : GoodIn wsX3_pour wsX3_bookAt := goodIn_ca (goodIn_r _ [5, 6, 7, 8, 70, 71, 72, 73, 74, 75] (by decide +kernel) (by decide +kernel)) (goodIn_sub (fun _ h => List.mem_cons_of_mem _ (List.mem_append_left _ (List.mem_append_right _ h))) (by decide +kernel))
set_option maxRecDepth 20000 in
theorem gX3_pour_X3_bookAt : GoodIn wsX3_pour (wsV RX3 47 RX3 yX3_bookAt wsX3_bookAt) := goodIn_app (goodIn_of _ (by decide +kernel)) ggX3_pour_X3_bookAt
set_option maxRecDepth 20000 in
theorem ggX3_pour_X3_checkUnlike : GoodIn wsX3_pour wsX3_checkUnlike := goodIn_ca (goodIn_r _ [11, 12, 13] (by decide +kernel) (by decide +kernel)) (goodIn_sub (fun _ h => List.mem_cons_of_mem _ (List.mem_append_right _ h)) (by decide +kernel))
set_option maxRecDepth 20000 in
theorem gX3_pour_X3_checkUnlike : GoodIn wsX3_pour (va_wsS RX3 115 yX3_checkUnlike wsX3_checkUnlike) := goodIn_app (goodIn_of _ (by decide +kernel)) ggX3_pour_X3_checkUnlike
set_option maxRecDepth 20000 in
theorem ggX3_pour_X0_touch : GoodIn wsX3_pour wsX0_touch := goodIn_r _ [18, 19, 76, 77, 78, 79, 80, 81, 82] (by decide +kernel) (by decide +kernel)
set_option maxRecDepth 20000 in
theorem gX3_pour_X0_touch : GoodIn wsX3_pour (wsV RX3 57 RX0 yX0_touch wsX0_touch) := goodIn_app (goodIn_of _ (by decide +kernel)) ggX3_pour_X0_touch
set_option maxRecDepth 20000 in
theorem ggX3_pour_X0_enterAll : GoodIn wsX3_pour wsX0_enterAll := goodIn_r _ [23, 24, 25, 26, 17, 27, 28, 29, 30, 31, 32, 33, 34, 35, 36, 37, 38, 39, 40, 41, 42, 43, 44, 45, 46, 47, 48, 49, 50, 51, 52, 53, 54, 55, 56, 57, 58, 59, 60, 61, 62, 63, 64, 65, 66, 67, 68, 76, 77, 78, 79, 80, 81, 82] (by decide +kernel) (by decide +kernel)
set_option maxRecDepth 20000 in
theorem gX3_pour_X0_enterAll : GoodIn wsX3_pour (wsV RX3 119 RX0 yX0_enterAll wsX0_enterAll) := goodIn_app (goodIn_of _ (by decide +kernel)) ggX3_pour_X0_enterAll
set_option maxRecDepth 20000 in
theorem ggX3_pour_X0_size : GoodIn wsX3_pour wsX0_size := goodIn_r _ [27, 28, 76, 77, 78, 79, 80, 81, 82] (by decide +kernel) (by decide +kernel)
set_option maxRecDepth 20000 in
theorem gX3_pour_X0_size : GoodIn wsX3_pour (wsV RX3 79 RX0 yX0_size wsX0_size) := goodIn_app (goodIn_of _ (by decide +kernel)) ggX3_pour_X0_size
theorem dX3_pour_0 : decode cX3_pour 0 = .ok (.aload_n 0, 1) := by decide +kernel
theorem dX3_pour_1 : decode cX3_pour 1 = .ok (.iload_n 1, 1) := by decide +kernel
theorem dX3_pour_2 : decode cX3_pour 2 = .ok (.invokevirtual 47, 3) := by decide +kernel
theorem dX3_pour_5 : decode cX3_pour 5 = .ok (.astore_n 3, 1) := by decide +kernel
theorem dX3_pour_6 : decode cX3_pour 6 = .ok (.aload_n 0, 1) := by decide +kernel
theorem dX3_pour_7 : decode cX3_pour 7 = .ok (.iload_n 2, 1) := by decide +kernel
theorem dX3_pour_8 : decode cX3_pour 8 = .ok (.invokevirtual 47, 3) := by decide +kernel
theorem dX3_pour_11 : decode cX3_pour 11 = .ok (.astore 4, 2) := by decide +kernel
theorem dX3_pour_13 : decode cX3_pour 13 = .ok (.iload_n 1, 1) := by decide +kernel
theorem dX3_pour_14 : decode cX3_pour 14 = .ok (.iload_n 2, 1) := by decide +kernel
theorem dX3_pour_15 : decode cX3_pour 15 = .ok (.invokestatic 115, 3) := by decide +kernel
theorem dX3_pour_18 : decode cX3_pour 18 = .ok (.aload 4, 2) := by decide +kernel
theorem dX3_pour_20 : decode cX3_pour 20 = .ok (.invokevirtual 57, 3) := by decide +kernel
theorem dX3_pour_23 : decode cX3_pour 23 = .ok (.aload 4, 2) := by decide +kernel
theorem dX3_pour_25 : decode cX3_pour 25 = .ok (.aload_n 3, 1) := by decide +kernel
theorem dX3_pour_26 : decode cX3_pour 26 = .ok (.invokevirtual 119, 3) := by decide +kernel
theorem dX3_pour_29 : decode cX3_pour 29 = .ok (.aload 4, 2) := by decide +kernel
theorem dX3_pour_31 : decode cX3_pour 31 = .ok (.invokevirtual 79, 3) := by decide +kernel
theorem dX3_pour_34 : decode cX3_pour 34 = .ok (.ireturn, 1) := by decide +kernel
set_option maxRecDepth 20000 in
theorem ggX3_copy_X3_bookAt : GoodIn wsX3_copy wsX3_bookAt := goodIn_ca (goodIn_r _ [6, 7, 8, 9, 99, 100, 101, 102, 103, 104] (by decide +kernel) (by decide +kernel)) (goodIn_sub (fun _ h => List.mem_cons_of_mem _ (List.mem_append_left _ (List.mem_append_right _ h))) (by decide +kernel))
set_option maxRecDepth 20000 in
theorem gX3_copy_X3_bookAt : GoodIn wsX3_copy (wsV RX3 47 RX3 yX3_bookAt wsX3_bookAt) := goodIn_app (goodIn_of _ (by decide +kernel)) ggX3_copy_X3_bookAt
set_option maxRecDepth 20000 in
theorem ggX3_copy_X3_checkUnlike : GoodIn wsX3_copy wsX3_checkUnlike := goodIn_ca (goodIn_r _ [12, 13, 14] (by decide +kernel) (by decide +kernel)) (goodIn_sub (fun _ h => List.mem_cons_of_mem _ (List.mem_append_right _ h)) (by decide +kernel))
set_option maxRecDepth 20000 in
theorem gX3_copy_X3_checkUnlike : GoodIn wsX3_copy (va_wsS RX3 115 yX3_checkUnlike wsX3_checkUnlike) := goodIn_app (goodIn_of _ (by decide +kernel)) ggX3_copy_X3_checkUnlike
set_option maxRecDepth 20000 in
theorem ggX3_copy_X0_becomeLike : GoodIn wsX3_copy wsX0_becomeLike := goodIn_r _ [19, 20, 21, 22, 23, 24, 18, 25, 26, 27, 28, 29, 30, 31, 32, 33, 34, 35, 36, 37, 38, 39, 40, 41, 42, 43, 44, 45, 46, 47, 48, 49, 50, 51, 52, 53, 54, 55, 56, 57, 58, 59, 60, 61, 62, 63, 64, 65, 66, 67, 68, 69, 70, 71, 72, 73, 74, 75, 76, 105, 106, 107, 108, 109, 110, 111] (by decide +kernel) (by decide +kernel)
set_option maxRecDepth 20000 in
theorem gX3_copy_X0_becomeLike : GoodIn wsX3_copy (wsV RX3 123 RX0 yX0_becomeLike wsX0_becomeLike) := goodIn_app (goodIn_of _ (by decide +kernel)) ggX3_copy_X0_becomeLike
set_option maxRecDepth 20000 in
theorem ggX3_copy_X2_book : GoodIn wsX3_copy wsX2_book := goodIn_r _ [81, 82, 83, 84, 85, 86, 87, 88, 112, 113, 114, 115, 116, 117, 118, 119, 120, 121, 122, 123] (by decide +kernel) (by decide +kernel)
set_option maxRecDepth 20000 in
theorem gX3_copy_X2_book : GoodIn wsX3_copy (wsV RX3 130 RX2 yX2_book wsX2_book) := goodIn_app (goodIn_of _ (by decide +kernel)) ggX3_copy_X2_book
set_option maxRecDepth 20000 in
theorem ggX3_copy_X3_shutViewsOnto : GoodIn wsX3_copy wsX3_shutViewsOnto := goodIn_r _ [92, 93, 94, 95, 96, 5, 97, 98, 84, 85, 86, 87, 88, 99, 100, 101, 102, 103, 104, 117, 118, 119, 120, 121, 122, 123] (by decide +kernel) (by decide +kernel)
set_option maxRecDepth 20000 in
theorem gX3_copy_X3_shutViewsOnto : GoodIn wsX3_copy (wsV RX3 136 RX3 yX3_shutViewsOnto wsX3_shutViewsOnto) := goodIn_app (goodIn_of _ (by decide +kernel)) ggX3_copy_X3_shutViewsOnto
theorem dX3_copy_0 : decode cX3_copy 0 = .ok (.aload_n 0, 1) := by decide +kernel
theorem dX3_copy_1 : decode cX3_copy 1 = .ok (.iload_n 1, 1) := by decide +kernel
theorem dX3_copy_2 : decode cX3_copy 2 = .ok (.invokevirtual 47, 3) := by decide +kernel
theorem dX3_copy_5 : decode cX3_copy 5 = .ok (.astore_n 3, 1) := by decide +kernel
theorem dX3_copy_6 : decode cX3_copy 6 = .ok (.aload_n 0, 1) := by decide +kernel
theorem dX3_copy_7 : decode cX3_copy 7 = .ok (.iload_n 2, 1) := by decide +kernel
theorem dX3_copy_8 : decode cX3_copy 8 = .ok (.invokevirtual 47, 3) := by decide +kernel
theorem dX3_copy_11 : decode cX3_copy 11 = .ok (.astore 4, 2) := by decide +kernel
theorem dX3_copy_13 : decode cX3_copy 13 = .ok (.iload_n 1, 1) := by decide +kernel
theorem dX3_copy_14 : decode cX3_copy 14 = .ok (.iload_n 2, 1) := by decide +kernel
theorem dX3_copy_15 : decode cX3_copy 15 = .ok (.invokestatic 115, 3) := by decide +kernel
theorem dX3_copy_18 : decode cX3_copy 18 = .ok (.aload 4, 2) := by decide +kernel
theorem dX3_copy_20 : decode cX3_copy 20 = .ok (.aload_n 3, 1) := by decide +kernel
theorem dX3_copy_21 : decode cX3_copy 21 = .ok (.invokevirtual 123, 3) := by decide +kernel
theorem dX3_copy_24 : decode cX3_copy 24 = .ok (.aload_n 0, 1) := by decide +kernel
theorem dX3_copy_25 : decode cX3_copy 25 = .ok (.getfield 126, 3) := by decide +kernel
theorem dX3_copy_28 : decode cX3_copy 28 = .ok (.ifnull 20, 3) := by decide +kernel
theorem dX3_copy_31 : decode cX3_copy 31 = .ok (.aload_n 0, 1) := by decide +kernel
theorem dX3_copy_32 : decode cX3_copy 32 = .ok (.getfield 126, 3) := by decide +kernel
theorem dX3_copy_35 : decode cX3_copy 35 = .ok (.invokevirtual 130, 3) := by decide +kernel
theorem dX3_copy_38 : decode cX3_copy 38 = .ok (.aload 4, 2) := by decide +kernel
theorem dX3_copy_40 : decode cX3_copy 40 = .ok (.if_acmp .ne 8, 3) := by decide +kernel
theorem dX3_copy_43 : decode cX3_copy 43 = .ok (.aload_n 0, 1) := by decide +kernel
theorem dX3_copy_44 : decode cX3_copy 44 = .ok (.aconst_null, 1) := by decide +kernel
theorem dX3_copy_45 : decode cX3_copy 45 = .ok (.putfield 126, 3) := by decide +kernel
theorem dX3_copy_48 : decode cX3_copy 48 = .ok (.aload_n 0, 1) := by decide +kernel
theorem dX3_copy_49 : decode cX3_copy 49 = .ok (.aload 4, 2) := by decide +kernel
theorem dX3_copy_51 : decode cX3_copy 51 = .ok (.invokevirtual 136, 3) := by decide +kernel
theorem dX3_copy_54 : decode cX3_copy 54 = .ok (.ireturn, 1) := by decide +kernel
set_option maxRecDepth 20000 in
theorem ggX3_thin_X3_bookAt : GoodIn wsX3_thin wsX3_bookAt := goodIn_ca (goodIn_r _ [5, 6, 7, 8, 73, 74, 75, 76, 77, 78] (by decide +kernel) (by decide +kernel)) (goodIn_sub (fun _ h => List.mem_cons_of_mem _ (List.mem_append_left _ (List.mem_append_right _ h))) (by decide +kernel))
set_option maxRecDepth 20000 in
theorem gX3_thin_X3_bookAt : GoodIn wsX3_thin (wsV RX3 47 RX3 yX3_bookAt wsX3_bookAt) := goodIn_app (goodIn_of _ (by decide +kernel)) ggX3_thin_X3_bookAt
set_option maxRecDepth 20000 in
theorem ggX3_thin_X3_checkUnlike : GoodIn wsX3_thin wsX3_checkUnlike := goodIn_ca (goodIn_r _ [11, 12, 13] (by decide +kernel) (by decide +kernel)) (goodIn_sub (fun _ h => List.mem_cons_of_mem _ (List.mem_append_right _ h)) (by decide +kernel))
set_option maxRecDepth 20000 in
theorem gX3_thin_X3_checkUnlike : GoodIn wsX3_thin (va_wsS RX3 115 yX3_checkUnlike wsX3_checkUnlike) := goodIn_app (goodIn_of _ (by decide +kernel)) ggX3_thin_X3_checkUnlike
set_option maxRecDepth 20000 in
theorem ggX3_thin_X0_touch : GoodIn wsX3_thin wsX0_touch := goodIn_r _ [18, 19, 79, 80, 81, 82, 83, 84, 85] (by decide +kernel) (by decide +kernel)
set_option maxRecDepth 20000 in
theorem gX3_thin_X0_touch : GoodIn wsX3_thin (wsV RX3 57 RX0 yX0_touch wsX0_touch) := goodIn_app (goodIn_of _ (by decide +kernel)) ggX3_thin_X0_touch
set_option maxRecDepth 20000 in
theorem ggX3_thin_X0_removeByOther : GoodIn wsX3_thin wsX0_removeByOther := goodIn_r _ [23, 24, 25, 26, 27, 17, 28, 29, 30, 31, 32, 33, 34, 35, 36, 37, 38, 39, 40, 41, 42, 43, 44, 45, 46, 47, 48, 49, 50, 51, 52, 53, 54, 55, 56, 57, 58, 59, 60, 61, 62, 63, 64, 65, 66, 67, 68, 69, 70, 71, 72, 79, 80, 81, 82, 83, 84, 85] (by decide +kernel) (by decide +kernel)
set_option maxRecDepth 20000 in
theorem gX3_thin_X0_removeByOther : GoodIn wsX3_thin (wsV RX3 140 RX0 yX0_removeByOther wsX0_removeByOther) := goodIn_app (goodIn_of _ (by decide +kernel)) ggX3_thin_X0_removeByOther
theorem dX3_thin_0 : decode cX3_thin 0 = .ok (.aload_n 0, 1) := by decide +kernel
theorem dX3_thin_1 : decode cX3_thin 1 = .ok (.iload_n 1, 1) := by decide +kernel
theorem dX3_thin_2 : decode cX3_thin 2 = .ok (.invokevirtual 47, 3) := by decide +kernel
theorem dX3_thin_5 : decode cX3_thin 5 = .ok (.astore 4, 2) := by decide +kernel
theorem dX3_thin_7 : decode cX3_thin 7 = .ok (.aload_n 0, 1) := by decide +kernel
theorem dX3_thin_8 : decode cX3_thin 8 = .ok (.iload_n 2, 1) := by decide +kernel
theorem dX3_thin_9 : decode cX3_thin 9 = .ok (.invokevirtual 47, 3) := by decide +kernel
theorem dX3_thin_12 : decode cX3_thin 12 = .ok (.astore 5, 2) := by decide +kernel
theorem dX3_thin_14 : decode cX3_thin 14 = .ok (.iload_n 1, 1) := by decide +kernel
theorem dX3_thin_15 : decode cX3_thin 15 = .ok (.iload_n 2, 1) := by decide +kernel
theorem dX3_thin_16 : decode cX3_thin 16 = .ok (.invokestatic 115, 3) := by decide +kernel
theorem dX3_thin_19 : decode cX3_thin 19 = .ok (.aload 4, 2) := by decide +kernel
theorem dX3_thin_21 : decode cX3_thin 21 = .ok (.invokevirtual 57, 3) := by decide +kernel
theorem dX3_thin_24 : decode cX3_thin 24 = .ok (.aload 4, 2) := by decide +kernel
theorem dX3_thin_26 : decode cX3_thin 26 = .ok (.aload 5, 2) := by decide +kernel
theorem dX3_thin_28 : decode cX3_thin 28 = .ok (.iload_n 3, 1) := by decide +kernel
theorem dX3_thin_29 : decode cX3_thin 29 = .ok (.invokevirtual 140, 3) := by decide +kernel
theorem dX3_thin_32 : decode cX3_thin 32 = .ok (.ireturn, 1) := by decide +kernel
set_option maxRecDepth 20000 in
theorem ggX3_head_X3_bookAt : GoodIn wsX3_head wsX3_bookAt := goodIn_ca (goodIn_r _ [8, 9, 10, 11, 54, 55, 56, 57, 58, 59] (by decide +kernel) (by decide +kernel)) (goodIn_sub (fun _ h => List.mem_cons_of_mem _ (List.mem_append_left _ (List.mem_append_left _ (List.mem_append_right _ h)))) (by decide +kernel))
set_option maxRecDepth 20000 in
theorem gX3_head_X3_bookAt : GoodIn wsX3_head (wsV RX3 47 RX3 yX3_bookAt wsX3_bookAt) := goodIn_app (goodIn_of _ (by decide +kernel)) ggX3_head_X3_bookAt
set_option maxRecDepth 20000 in
theorem ggX3_head_X3_checkKey : GoodIn wsX3_head wsX3_checkKey := goodIn_ca (goodIn_r _ [14, 15, 16] (by decide +kernel) (by decide +kernel)) (goodIn_sub (fun _ h => List.mem_cons_of_mem _ (List.mem_append_left _ (List.mem_append_right _ h))) (by decide +kernel))
set_option maxRecDepth 20000 in
theorem gX3_head_X3_checkKey : GoodIn wsX3_head (va_wsS RX3 51 yX3_checkKey wsX3_checkKey) := goodIn_app (goodIn_of _ (by decide +kernel)) ggX3_head_X3_checkKey
set_option maxRecDepth 20000 in
theorem ggX3_head_X1_init : GoodIn wsX3_head wsX1_init := goodIn_r _ [19, 20, 21, 22, 23, 24, 25, 26, 27, 28, 29, 30, 31, 32, 33, 34, 35, 36, 37, 38, 39, 47, 48, 49, 50, 51, 52, 53, 60, 61, 62, 63, 64, 65, 66] (by decide +kernel) (by decide +kernel)
set_option maxRecDepth 20000 in
theorem gX3_head_X1_init : GoodIn wsX3_head (wsX1_init) := ggX3_head_X1_init
set_option maxRecDepth 20000 in
theorem ggX3_head_X3_openView : GoodIn wsX3_head wsX3_openView := goodIn_ca (goodIn_r _ [43, 44, 45, 46, 54, 55, 56, 57, 58, 59] (by decide +kernel) (by decide +kernel)) (goodIn_sub (fun _ h => List.mem_cons_of_mem _ (List.mem_append_right _ h)) (by decide +kernel))
set_option maxRecDepth 20000 in
theorem gX3_head_X3_openView : GoodIn wsX3_head (wsV RX3 147 RX3 yX3_openView wsX3_openView) := goodIn_app (goodIn_of _ (by decide +kernel)) ggX3_head_X3_openView
theorem dX3_head_0 : decode cX3_head 0 = .ok (.aload_n 0, 1) := by decide +kernel
theorem dX3_head_1 : decode cX3_head 1 = .ok (.iload_n 1, 1) := by decide +kernel
theorem dX3_head_2 : decode cX3_head 2 = .ok (.invokevirtual 47, 3) := by decide +kernel
theorem dX3_head_5 : decode cX3_head 5 = .ok (.astore 4, 2) := by decide +kernel
theorem dX3_head_7 : decode cX3_head 7 = .ok (.iload_n 2, 1) := by decide +kernel
theorem dX3_head_8 : decode cX3_head 8 = .ok (.invokestatic 51, 3) := by decide +kernel
theorem dX3_head_11 : decode cX3_head 11 = .ok (.aload_n 0, 1) := by decide +kernel
theorem dX3_head_12 : decode cX3_head 12 = .ok (.new 18, 3) := by decide +kernel
theorem dX3_head_15 : decode cX3_head 15 = .ok (.dup, 1) := by decide +kernel
theorem dX3_head_16 : decode cX3_head 16 = .ok (.aload 4, 2) := by decide +kernel
theorem dX3_head_18 : decode cX3_head 18 = .ok (.sipush (-10000), 3) := by decide +kernel
theorem dX3_head_21 : decode cX3_head 21 = .ok (.iconst 0, 1) := by decide +kernel
theorem dX3_head_22 : decode cX3_head 22 = .ok (.iload_n 2, 1) := by decide +kernel
theorem dX3_head_23 : decode cX3_head 23 = .ok (.iload_n 3, 1) := by decide +kernel
theorem dX3_head_24 : decode cX3_head 24 = .ok (.invokespecial 144, 3) := by decide +kernel
theorem dX3_head_27 : decode cX3_head 27 = .ok (.invokevirtual 147, 3) := by decide +kernel
theorem dX3_head_30 : decode cX3_head 30 = .ok (.ireturn, 1) := by decide +kernel
set_option maxRecDepth 20000 in
theorem ggX3_tail_X3_bookAt : GoodIn wsX3_tail wsX3_bookAt := goodIn_ca (goodIn_r _ [8, 9, 10, 11, 54, 55, 56, 57, 58, 59] (by decide +kernel) (by decide +kernel)) (goodIn_sub (fun _ h => List.mem_cons_of_mem _ (List.mem_append_left _ (List.mem_append_left _ (List.mem_append_right _ h)))) (by decide +kernel))
set_option maxRecDepth 20000 in
theorem gX3_tail_X3_bookAt : GoodIn wsX3_tail (wsV RX3 47 RX3 yX3_bookAt wsX3_bookAt) := goodIn_app (goodIn_of _ (by decide +kernel)) ggX3_tail_X3_bookAt
set_option maxRecDepth 20000 in
theorem ggX3_tail_X3_checkKey : GoodIn wsX3_tail wsX3_checkKey := goodIn_ca (goodIn_r _ [14, 15, 16] (by decide +kernel) (by decide +kernel)) (goodIn_sub (fun _ h => List.mem_cons_of_mem _ (List.mem_append_left _ (List.mem_append_right _ h))) (by decide +kernel))
set_option maxRecDepth 20000 in
theorem gX3_tail_X3_checkKey : GoodIn wsX3_tail (va_wsS RX3 51 yX3_checkKey wsX3_checkKey) := goodIn_app (goodIn_of _ (by decide +kernel)) ggX3_tail_X3_checkKey
set_option maxRecDepth 20000 in
theorem ggX3_tail_X1_init : GoodIn wsX3_tail wsX1_init := goodIn_r _ [19, 20, 21, 22, 23, 24, 25, 26, 27, 28, 29, 30, 31, 32, 33, 34, 35, 36, 37, 38, 39, 47, 48, 49, 50, 51, 52, 53, 60, 61, 62, 63, 64, 65, 66] (by decide +kernel) (by decide +kernel)
set_option maxRecDepth 20000 in
theorem gX3_tail_X1_init : GoodIn wsX3_tail (wsX1_init) := ggX3_tail_X1_init
set_option maxRecDepth 20000 in
theorem ggX3_tail_X3_openView : GoodIn wsX3_tail wsX3_openView := goodIn_ca (goodIn_r _ [43, 44, 45, 46, 54, 55, 56, 57, 58, 59] (by decide +kernel) (by decide +kernel)) (goodIn_sub (fun _ h => List.mem_cons_of_mem _ (List.mem_append_right _ h)) (by decide +kernel))
set_option maxRecDepth 20000 in
theorem gX3_tail_X3_openView : GoodIn wsX3_tail (wsV RX3 147 RX3 yX3_openView wsX3_openView) := goodIn_app (goodIn_of _ (by decide +kernel)) ggX3_tail_X3_openView
theorem dX3_tail_0 : decode cX3_tail 0 = .ok (.aload_n 0, 1) := by decide +kernel
theorem dX3_tail_1 : decode cX3_tail 1 = .ok (.iload_n 1, 1) := by decide +kernel
theorem dX3_tail_2 : decode cX3_tail 2 = .ok (.invokevirtual 47, 3) := by decide +kernel
theorem dX3_tail_5 : decode cX3_tail 5 = .ok (.astore 4, 2) := by decide +kernel
theorem dX3_tail_7 : decode cX3_tail 7 = .ok (.iload_n 2, 1) := by decide +kernel
theorem dX3_tail_8 : decode cX3_tail 8 = .ok (.invokestatic 51, 3) := by decide +kernel
theorem dX3_tail_11 : decode cX3_tail 11 = .ok (.aload_n 0, 1) := by decide +kernel
theorem dX3_tail_12 : decode cX3_tail 12 = .ok (.new 18, 3) := by decide +kernel
theorem dX3_tail_15 : decode cX3_tail 15 = .ok (.dup, 1) := by decide +kernel
theorem dX3_tail_16 : decode cX3_tail 16 = .ok (.aload 4, 2) := by decide +kernel
theorem dX3_tail_18 : decode cX3_tail 18 = .ok (.iload_n 2, 1) := by decide +kernel
theorem dX3_tail_19 : decode cX3_tail 19 = .ok (.iload_n 3, 1) := by decide +kernel
theorem dX3_tail_20 : decode cX3_tail 20 = .ok (.sipush (-10000), 3) := by decide +kernel
theorem dX3_tail_23 : decode cX3_tail 23 = .ok (.iconst 0, 1) := by decide +kernel
theorem dX3_tail_24 : decode cX3_tail 24 = .ok (.invokespecial 144, 3) := by decide +kernel
theorem dX3_tail_27 : decode cX3_tail 27 = .ok (.invokevirtual 147, 3) := by decide +kernel
theorem dX3_tail_30 : decode cX3_tail 30 = .ok (.ireturn, 1) := by decide +kernel
set_option maxRecDepth 20000 in
theorem ggX3_sub_X3_bookAt : GoodIn wsX3_sub wsX3_bookAt := goodIn_ca (goodIn_r _ [8, 9, 10, 11, 67, 68, 69, 70, 71, 72] (by decide +kernel) (by decide +kernel)) (goodIn_sub (fun _ h => List.mem_cons_of_mem _ (List.mem_append_left _ (List.mem_append_left _ (List.mem_append_right _ h)))) (by decide +kernel))
set_option maxRecDepth 20000 in
theorem gX3_sub_X3_bookAt : GoodIn wsX3_sub (wsV RX3 47 RX3 yX3_bookAt wsX3_bookAt) := goodIn_app (goodIn_of _ (by decide +kernel)) ggX3_sub_X3_bookAt
set_option maxRecDepth 20000 in
theorem ggX3_sub_X3_checkKey : GoodIn wsX3_sub wsX3_checkKey := goodIn_ca (goodIn_r _ [14, 15, 16] (by decide +kernel) (by decide +kernel)) (goodIn_sub (fun _ h => List.mem_cons_of_mem _ (List.mem_append_left _ (List.mem_append_right _ h))) (by decide +kernel))
set_option maxRecDepth 20000 in
theorem gX3_sub_X3_checkKey : GoodIn wsX3_sub (va_wsS RX3 51 yX3_checkKey wsX3_checkKey) := goodIn_app (goodIn_of _ (by decide +kernel)) ggX3_sub_X3_checkKey
set_option maxRecDepth 20000 in
theorem ggX3_sub_X3_checkViewIsFree : GoodIn wsX3_sub wsX3_checkViewIsFree := goodIn_ca (goodIn_r _ [20, 21, 22, 23, 24, 25, 26, 7, 27, 67, 68, 69, 70, 71, 72] (by decide +kernel) (by decide +kernel)) (goodIn_sub (fun _ h => List.mem_cons_of_mem _ (List.mem_append_right _ h)) (by decide +kernel))
set_option maxRecDepth 20000 in
theorem gX3_sub_X3_checkViewIsFree : GoodIn wsX3_sub (wsV RX3 151 RX3 yX3_checkViewIsFree wsX3_checkViewIsFree) := goodIn_app (goodIn_of _ (by decide +kernel)) ggX3_sub_X3_checkViewIsFree
set_option maxRecDepth 20000 in
theorem ggX3_sub_X0_isAhead : GoodIn wsX3_sub wsX0_isAhead := goodIn_r _ [32, 33, 34, 35, 31, 36, 37, 73, 74, 75, 76, 77, 78, 79] (by decide +kernel) (by decide +kernel)
set_option maxRecDepth 20000 in
theorem gX3_sub_X0_isAhead : GoodIn wsX3_sub (wsV RX3 154 RX0 yX0_isAhead wsX0_isAhead) := goodIn_app (goodIn_of _ (by decide +kernel)) ggX3_sub_X0_isAhead
set_option maxRecDepth 20000 in
theorem ggX3_sub_X1_init : GoodIn wsX3_sub wsX1_init := goodIn_r _ [40, 41, 42, 43, 44, 45, 46, 47, 48, 49, 50, 51, 52, 53, 54, 55, 34, 35, 31, 36, 37, 60, 61, 62, 63, 64, 65, 66, 73, 74, 75, 76, 77, 78, 79] (by decide +kernel) (by decide +kernel)
set_option maxRecDepth 20000 in
theorem gX3_sub_X1_init : GoodIn wsX3_sub (wsX1_init) := ggX3_sub_X1_init
set_option maxRecDepth 20000 in
theorem ggX3_sub_X3_openView : GoodIn wsX3_sub wsX3_openView := goodIn_ca (goodIn_r _ [59, 21, 22, 23, 67, 68, 69, 70, 71, 72] (by decide +kernel) (by decide +kernel)) (goodIn_sub (fun _ h => List.mem_cons_of_mem _ (List.mem_append_right _ h)) (by decide +kernel))
set_option maxRecDepth 20000 in
theorem gX3_sub_X3_openView : GoodIn wsX3_sub (wsV RX3 147 RX3 yX3_openView wsX3_openView) := goodIn_app (goodIn_of _ (by decide +kernel)) ggX3_sub_X3_openView
theorem dX3_sub_0 : decode cX3_sub 0 = .ok (.aload_n 0, 1) := by decide +kernel
theorem dX3_sub_1 : decode cX3_sub 1 = .ok (.iload_n 1, 1) := by decide +kernel
theorem dX3_sub_2 : decode cX3_sub 2 = .ok (.invokevirtual 47, 3) := by decide +kernel
theorem dX3_sub_5 : decode cX3_sub 5 = .ok (.astore 6, 2) := by decide +kernel
theorem dX3_sub_7 : decode cX3_sub 7 = .ok (.iload_n 2, 1) := by decide +kernel
theorem dX3_sub_8 : decode cX3_sub 8 = .ok (.invokestatic 51, 3) := by decide +kernel
theorem dX3_sub_11 : decode cX3_sub 11 = .ok (.iload 4, 2) := by decide +kernel
theorem dX3_sub_13 : decode cX3_sub 13 = .ok (.invokestatic 51, 3) := by decide +kernel
theorem dX3_sub_16 : decode cX3_sub 16 = .ok (.aload_n 0, 1) := by decide +kernel
theorem dX3_sub_17 : decode cX3_sub 17 = .ok (.invokevirtual 151, 3) := by decide +kernel
theorem dX3_sub_20 : decode cX3_sub 20 = .ok (.aload 6, 2) := by decide +kernel
theorem dX3_sub_22 : decode cX3_sub 22 = .ok (.iload 4, 2) := by decide +kernel
theorem dX3_sub_24 : decode cX3_sub 24 = .ok (.iload_n 2, 1) := by decide +kernel
theorem dX3_sub_25 : decode cX3_sub 25 = .ok (.invokevirtual 154, 3) := by decide +kernel
theorem dX3_sub_28 : decode cX3_sub 28 = .ok (.ifCond .eq 7, 3) := by decide +kernel
theorem dX3_sub_31 : decode cX3_sub 31 = .ok (.sipush (-20000), 3) := by decide +kernel
theorem dX3_sub_34 : decode cX3_sub 34 = .ok (.ireturn, 1) := by decide +kernel
theorem dX3_sub_35 : decode cX3_sub 35 = .ok (.aload_n 0, 1) := by decide +kernel
theorem dX3_sub_36 : decode cX3_sub 36 = .ok (.new 18, 3) := by decide +kernel
theorem dX3_sub_39 : decode cX3_sub 39 = .ok (.dup, 1) := by decide +kernel
theorem dX3_sub_40 : decode cX3_sub 40 = .ok (.aload 6, 2) := by decide +kernel
theorem dX3_sub_42 : decode cX3_sub 42 = .ok (.iload_n 2, 1) := by decide +kernel
theorem dX3_sub_43 : decode cX3_sub 43 = .ok (.iload_n 3, 1) := by decide +kernel
theorem dX3_sub_44 : decode cX3_sub 44 = .ok (.iload 4, 2) := by decide +kernel
theorem dX3_sub_46 : decode cX3_sub 46 = .ok (.iload 5, 2) := by decide +kernel
theorem dX3_sub_48 : decode cX3_sub 48 = .ok (.invokespecial 144, 3) := by decide +kernel
theorem dX3_sub_51 : decode cX3_sub 51 = .ok (.invokevirtual 147, 3) := by decide +kernel
theorem dX3_sub_54 : decode cX3_sub 54 = .ok (.ireturn, 1) := by decide +kernel
set_option maxRecDepth 20000 in
theorem ggX3_part_X3_viewAt : GoodIn wsX3_part wsX3_viewAt := goodIn_ca (goodIn_r _ [8, 9, 10, 11, 74, 75, 76, 77, 78, 79] (by decide +kernel) (by decide +kernel)) (goodIn_sub (fun _ h => List.mem_cons_of_mem _ (List.mem_append_left _ (List.mem_append_left _ (List.mem_append_right _ h)))) (by decide +kernel))
set_option maxRecDepth 20000 in
theorem gX3_part_X3_viewAt : GoodIn wsX3_part (wsV RX3 158 RX3 yX3_viewAt wsX3_viewAt) := goodIn_app (goodIn_of _ (by decide +kernel)) ggX3_part_X3_viewAt
set_option maxRecDepth 20000 in
theorem ggX3_part_X3_checkKey : GoodIn wsX3_part wsX3_checkKey := goodIn_ca (goodIn_r _ [14, 15, 16] (by decide +kernel) (by decide +kernel)) (goodIn_sub (fun _ h => List.mem_cons_of_mem _ (List.mem_append_left _ (List.mem_append_right _ h))) (by decide +kernel))
set_option maxRecDepth 20000 in
theorem gX3_part_X3_checkKey : GoodIn wsX3_part (va_wsS RX3 51 yX3_checkKey wsX3_checkKey) := goodIn_app (goodIn_of _ (by decide +kernel)) ggX3_part_X3_checkKey
set_option maxRecDepth 20000 in
theorem ggX3_part_X3_checkViewIsFree : GoodIn wsX3_part wsX3_checkViewIsFree := goodIn_ca (goodIn_r _ [20, 21, 22, 11, 23, 24, 25, 7, 26, 74, 75, 76, 77, 78, 79] (by decide +kernel) (by decide +kernel)) (goodIn_sub (fun _ h => List.mem_cons_of_mem _ (List.mem_append_right _ h)) (by decide +kernel))
set_option maxRecDepth 20000 in
theorem gX3_part_X3_checkViewIsFree : GoodIn wsX3_part (wsV RX3 151 RX3 yX3_checkViewIsFree wsX3_checkViewIsFree) := goodIn_app (goodIn_of _ (by decide +kernel)) ggX3_part_X3_checkViewIsFree
set_option maxRecDepth 20000 in
theorem ggX3_part_X1_isWithin : GoodIn wsX3_part wsX1_isWithin := goodIn_r _ [30, 31, 32, 33, 34, 35, 36, 37, 38, 39, 67, 68, 69, 70, 71, 72, 73, 80, 81, 82, 83, 84, 85, 86] (by decide +kernel) (by decide +kernel)
set_option maxRecDepth 20000 in
theorem gX3_part_X1_isWithin : GoodIn wsX3_part (wsV RX3 162 RX1 yX1_isWithin wsX1_isWithin) := goodIn_app (goodIn_of _ (by decide +kernel)) ggX3_part_X1_isWithin
set_option maxRecDepth 20000 in
theorem ggX3_part_X1_book : GoodIn wsX3_part wsX1_book := goodIn_r _ [43, 31, 67, 68, 69, 70, 71, 72, 73] (by decide +kernel) (by decide +kernel)
set_option maxRecDepth 20000 in
theorem gX3_part_X1_book : GoodIn wsX3_part (wsV RX3 165 RX1 yX1_book wsX1_book) := goodIn_app (goodIn_of _ (by decide +kernel)) ggX3_part_X1_book
set_option maxRecDepth 20000 in
theorem ggX3_part_X0_isAhead : GoodIn wsX3_part wsX0_isAhead := goodIn_r _ [47, 48, 35, 36, 37, 38, 39, 80, 81, 82, 83, 84, 85, 86] (by decide +kernel) (by decide +kernel)
set_option maxRecDepth 20000 in
theorem gX3_part_X0_isAhead : GoodIn wsX3_part (wsV RX3 154 RX0 yX0_isAhead wsX0_isAhead) := goodIn_app (goodIn_of _ (by decide +kernel)) ggX3_part_X0_isAhead
set_option maxRecDepth 20000 in
theorem ggX3_part_X1_init : GoodIn wsX3_part wsX1_init := goodIn_r _ [51, 52, 53, 54, 31, 55, 56, 57, 58, 32, 59, 60, 61, 62, 33, 34, 35, 36, 37, 38, 39, 67, 68, 69, 70, 71, 72, 73, 80, 81, 82, 83, 84, 85, 86] (by decide +kernel) (by decide +kernel)
set_option maxRecDepth 20000 in
theorem gX3_part_X1_init : GoodIn wsX3_part (wsX1_init) := ggX3_part_X1_init
set_option maxRecDepth 20000 in
theorem ggX3_part_X3_openView : GoodIn wsX3_part wsX3_openView := goodIn_ca (goodIn_r _ [66, 21, 22, 11, 74, 75, 76, 77, 78, 79] (by decide +kernel) (by decide +kernel)) (goodIn_sub (fun _ h => List.mem_cons_of_mem _ (List.mem_append_right _ h)) (by decide +kernel))
set_option maxRecDepth 20000 in
theorem gX3_part_X3_openView : GoodIn wsX3_part (wsV RX3 147 RX3 yX3_openView wsX3_openView) := goodIn_app (goodIn_of _ (by decide +kernel)) ggX3_part_X3_openView
theorem dX3_part_0 : decode cX3_part 0 = .ok (.aload_n 0, 1) := by decide +kernel
theorem dX3_part_1 : decode cX3_part 1 = .ok (.iload_n 1, 1) := by decide +kernel
theorem dX3_part_2 : decode cX3_part 2 = .ok (.invokevirtual 158, 3) := by decide +kernel
theorem dX3_part_5 : decode cX3_part 5 = .ok (.astore 6, 2) := by decide +kernel
theorem dX3_part_7 : decode cX3_part 7 = .ok (.iload_n 2, 1) := by decide +kernel
theorem dX3_part_8 : decode cX3_part 8 = .ok (.invokestatic 51, 3) := by decide +kernel
theorem dX3_part_11 : decode cX3_part 11 = .ok (.iload 4, 2) := by decide +kernel
theorem dX3_part_13 : decode cX3_part 13 = .ok (.invokestatic 51, 3) := by decide +kernel
theorem dX3_part_16 : decode cX3_part 16 = .ok (.aload_n 0, 1) := by decide +kernel
theorem dX3_part_17 : decode cX3_part 17 = .ok (.invokevirtual 151, 3) := by decide +kernel
theorem dX3_part_20 : decode cX3_part 20 = .ok (.aload 6, 2) := by decide +kernel
theorem dX3_part_22 : decode cX3_part 22 = .ok (.iload_n 2, 1) := by decide +kernel
theorem dX3_part_23 : decode cX3_part 23 = .ok (.invokevirtual 162, 3) := by decide +kernel
theorem dX3_part_26 : decode cX3_part 26 = .ok (.ifCond .eq 27, 3) := by decide +kernel
theorem dX3_part_29 : decode cX3_part 29 = .ok (.aload 6, 2) := by decide +kernel
theorem dX3_part_31 : decode cX3_part 31 = .ok (.iload 4, 2) := by decide +kernel
theorem dX3_part_33 : decode cX3_part 33 = .ok (.invokevirtual 162, 3) := by decide +kernel
theorem dX3_part_36 : decode cX3_part 36 = .ok (.ifCond .eq 17, 3) := by decide +kernel
theorem dX3_part_39 : decode cX3_part 39 = .ok (.aload 6, 2) := by decide +kernel
theorem dX3_part_41 : decode cX3_part 41 = .ok (.invokevirtual 165, 3) := by decide +kernel
theorem dX3_part_44 : decode cX3_part 44 = .ok (.iload 4, 2) := by decide +kernel
theorem dX3_part_46 : decode cX3_part 46 = .ok (.iload_n 2, 1) := by decide +kernel
theorem dX3_part_47 : decode cX3_part 47 = .ok (.invokevirtual 154, 3) := by decide +kernel
theorem dX3_part_50 : decode cX3_part 50 = .ok (.ifCond .eq 7, 3) := by decide +kernel
theorem dX3_part_53 : decode cX3_part 53 = .ok (.sipush (-20000), 3) := by decide +kernel
theorem dX3_part_56 : decode cX3_part 56 = .ok (.ireturn, 1) := by decide +kernel
theorem dX3_part_57 : decode cX3_part 57 = .ok (.aload_n 0, 1) := by decide +kernel
theorem dX3_part_58 : decode cX3_part 58 = .ok (.new 18, 3) := by decide +kernel
theorem dX3_part_61 : decode cX3_part 61 = .ok (.dup, 1) := by decide +kernel
theorem dX3_part_62 : decode cX3_part 62 = .ok (.aload 6, 2) := by decide +kernel
theorem dX3_part_64 : decode cX3_part 64 = .ok (.invokevirtual 165, 3) := by decide +kernel
theorem dX3_part_67 : decode cX3_part 67 = .ok (.iload_n 2, 1) := by decide +kernel
theorem dX3_part_68 : decode cX3_part 68 = .ok (.iload_n 3, 1) := by decide +kernel
theorem dX3_part_69 : decode cX3_part 69 = .ok (.iload 4, 2) := by decide +kernel
theorem dX3_part_71 : decode cX3_part 71 = .ok (.iload 5, 2) := by decide +kernel
theorem dX3_part_73 : decode cX3_part 73 = .ok (.invokespecial 144, 3) := by decide +kernel
theorem dX3_part_76 : decode cX3_part 76 = .ok (.invokevirtual 147, 3) := by decide +kernel
theorem dX3_part_79 : decode cX3_part 79 = .ok (.ireturn, 1) := by decide +kernel
set_option maxRecDepth 20000 in
theorem ggX3_shut_X3_viewAt : GoodIn wsX3_shut wsX3_viewAt := goodIn_ca (goodIn_r _ [6, 7, 8, 1, 37, 38, 39, 40, 41, 42] (by decide +kernel) (by decide +kernel)) (goodIn_sub (fun _ h => List.mem_cons_of_mem _ (List.mem_append_right _ h)) (by decide +kernel))
set_option maxRecDepth 20000 in
theorem gX3_shut_X3_viewAt : GoodIn wsX3_shut (wsV RX3 158 RX3 yX3_viewAt wsX3_viewAt) := goodIn_app (goodIn_of _ (by decide +kernel)) ggX3_shut_X3_viewAt
set_option maxRecDepth 20000 in
theorem ggX3_shut_X1_size : GoodIn wsX3_shut wsX1_size := goodIn_r _ [13, 14, 15, 16, 12, 17, 18, 19, 20, 21, 22, 23, 24, 25, 26, 27, 28, 29, 30, 31, 32, 33, 34, 35, 36, 43, 44, 45, 46, 47, 48, 49, 50, 51, 52, 53, 54, 55, 56] (by decide +kernel) (by decide +kernel)
set_option maxRecDepth 20000 in
theorem gX3_shut_X1_size : GoodIn wsX3_shut (wsV RX3 166 RX1 yX1_size wsX1_size) := goodIn_app (goodIn_of _ (by decide +kernel)) ggX3_shut_X1_size
theorem dX3_shut_0 : decode cX3_shut 0 = .ok (.aload_n 0, 1) := by decide +kernel
theorem dX3_shut_1 : decode cX3_shut 1 = .ok (.iload_n 1, 1) := by decide +kernel
theorem dX3_shut_2 : decode cX3_shut 2 = .ok (.invokevirtual 158, 3) := by decide +kernel
theorem dX3_shut_5 : decode cX3_shut 5 = .ok (.invokevirtual 166, 3) := by decide +kernel
theorem dX3_shut_8 : decode cX3_shut 8 = .ok (.istore_n 2, 1) := by decide +kernel
theorem dX3_shut_9 : decode cX3_shut 9 = .ok (.aload_n 0, 1) := by decide +kernel
theorem dX3_shut_10 : decode cX3_shut 10 = .ok (.getfield 20, 3) := by decide +kernel
theorem dX3_shut_13 : decode cX3_shut 13 = .ok (.iload_n 1, 1) := by decide +kernel
theorem dX3_shut_14 : decode cX3_shut 14 = .ok (.aconst_null, 1) := by decide +kernel
theorem dX3_shut_15 : decode cX3_shut 15 = .ok (.aastore, 1) := by decide +kernel
theorem dX3_shut_16 : decode cX3_shut 16 = .ok (.iload_n 2, 1) := by decide +kernel
theorem dX3_shut_17 : decode cX3_shut 17 = .ok (.ireturn, 1) := by decide +kernel
set_option maxRecDepth 20000 in
theorem ggX3_viewPut_X3_viewToWritePair : GoodIn wsX3_viewPut wsX3_viewToWritePair := goodIn_ca (goodIn_ca (goodIn_r _ [5, 6, 7, 8, 4, 9, 10, 11, 12, 13, 14, 15, 16, 17, 18, 19, 20, 21, 22, 23, 24, 25, 26, 27, 28, 29, 30, 31, 32, 73, 74, 75, 76, 77, 78, 79, 80, 81, 82, 83, 84, 85, 86, 87, 88, 89, 90, 91, 92] (by decide +kernel) (by decide +kernel)) (goodIn_sub (fun _ h => List.mem_cons_of_mem _ (List.mem_append_left _ (List.mem_append_right _ h))) (by decide +kernel))) (goodIn_sub (fun _ h => List.mem_cons_of_mem _ (List.mem_append_right _ h)) (by decide +kernel))
set_option maxRecDepth 20000 in
theorem gX3_viewPut_X3_viewToWritePair : GoodIn wsX3_viewPut (wsV RX3 167 RX3 yX3_viewToWritePair wsX3_viewToWritePair) := goodIn_app (goodIn_of _ (by decide +kernel)) ggX3_viewPut_X3_viewToWritePair
set_option maxRecDepth 20000 in
theorem ggX3_viewPut_X1_isWithin : GoodIn wsX3_viewPut wsX1_isWithin := goodIn_r _ [36, 26, 37, 38, 39, 40, 41, 30, 42, 43, 79, 80, 81, 82, 83, 84, 85, 86, 87, 88, 89, 90, 91, 92] (by decide +kernel) (by decide +kernel)
set_option maxRecDepth 20000 in
theorem gX3_viewPut_X1_isWithin : GoodIn wsX3_viewPut (wsV RX3 162 RX1 yX1_isWithin wsX1_isWithin) := goodIn_app (goodIn_of _ (by decide +kernel)) ggX3_viewPut_X1_isWithin
set_option maxRecDepth 20000 in
theorem ggX3_viewPut_X1_book : GoodIn wsX3_viewPut wsX1_book := goodIn_r _ [25, 26, 79, 80, 81, 82, 83, 84, 85] (by decide +kernel) (by decide +kernel)
set_option maxRecDepth 20000 in
theorem gX3_viewPut_X1_book : GoodIn wsX3_viewPut (wsV RX3 165 RX1 yX1_book wsX1_book) := goodIn_app (goodIn_of _ (by decide +kernel)) ggX3_viewPut_X1_book
set_option maxRecDepth 20000 in
theorem ggX3_viewPut_X0_enter : GoodIn wsX3_viewPut wsX0_enter := goodIn_r _ [47, 48, 49, 50, 51, 52, 30, 53, 54, 40, 41, 42, 43, 55, 56, 57, 58, 59, 60, 61, 62, 63, 64, 65, 66, 67, 68, 69, 70, 71, 72, 86, 87, 88, 89, 90, 91, 92] (by decide +kernel) (by decide +kernel)
set_option maxRecDepth 20000 in
theorem gX3_viewPut_X0_enter : GoodIn wsX3_viewPut (wsV RX3 35 RX0 yX0_enter wsX0_enter) := goodIn_app (goodIn_of _ (by decide +kernel)) ggX3_viewPut_X0_enter
theorem dX3_viewPut_0 : decode cX3_viewPut 0 = .ok (.aload_n 0, 1) := by decide +kernel
theorem dX3_viewPut_1 : decode cX3_viewPut 1 = .ok (.iload_n 1, 1) := by decide +kernel
theorem dX3_viewPut_2 : decode cX3_viewPut 2 = .ok (.iload_n 2, 1) := by decide +kernel
theorem dX3_viewPut_3 : decode cX3_viewPut 3 = .ok (.iload_n 3, 1) := by decide +kernel
theorem dX3_viewPut_4 : decode cX3_viewPut 4 = .ok (.invokevirtual 167, 3) := by decide +kernel
theorem dX3_viewPut_7 : decode cX3_viewPut 7 = .ok (.astore 4, 2) := by decide +kernel
theorem dX3_viewPut_9 : decode cX3_viewPut 9 = .ok (.aload 4, 2) := by decide +kernel
theorem dX3_viewPut_11 : decode cX3_viewPut 11 = .ok (.iload_n 2, 1) := by decide +kernel
theorem dX3_viewPut_12 : decode cX3_viewPut 12 = .ok (.invokevirtual 162, 3) := by decide +kernel
theorem dX3_viewPut_15 : decode cX3_viewPut 15 = .ok (.ifCond .eq 16, 3) := by decide +kernel
theorem dX3_viewPut_18 : decode cX3_viewPut 18 = .ok (.aload 4, 2) := by decide +kernel
theorem dX3_viewPut_20 : decode cX3_viewPut 20 = .ok (.invokevirtual 165, 3) := by decide +kernel
theorem dX3_viewPut_23 : decode cX3_viewPut 23 = .ok (.iload_n 2, 1) := by decide +kernel
theorem dX3_viewPut_24 : decode cX3_viewPut 24 = .ok (.iload_n 3, 1) := by decide +kernel
theorem dX3_viewPut_25 : decode cX3_viewPut 25 = .ok (.invokevirtual 35, 3) := by decide +kernel
theorem dX3_viewPut_28 : decode cX3_viewPut 28 = .ok (.goto 6, 3) := by decide +kernel
theorem dX3_viewPut_31 : decode cX3_viewPut 31 = .ok (.sipush (-20000), 3) := by decide +kernel
theorem dX3_viewPut_34 : decode cX3_viewPut 34 = .ok (.ireturn, 1) := by decide +kernel
set_option maxRecDepth 20000 in
theorem ggX3_viewStrike_X3_viewAt : GoodIn wsX3_viewStrike wsX3_viewAt := goodIn_ca (goodIn_r _ [5, 6, 7, 8, 74, 75, 76, 77, 78, 79] (by decide +kernel) (by decide +kernel)) (goodIn_sub (fun _ h => List.mem_cons_of_mem _ (List.mem_append_left _ (List.mem_append_right _ h))) (by decide +kernel))
set_option maxRecDepth 20000 in
theorem gX3_viewStrike_X3_viewAt : GoodIn wsX3_viewStrike (wsV RX3 158 RX3 yX3_viewAt wsX3_viewAt) := goodIn_app (goodIn_of _ (by decide +kernel)) ggX3_viewStrike_X3_viewAt
set_option maxRecDepth 20000 in
theorem ggX3_viewStrike_X3_checkKey : GoodIn wsX3_viewStrike wsX3_checkKey := goodIn_ca (goodIn_r _ [11, 12, 13] (by decide +kernel) (by decide +kernel)) (goodIn_sub (fun _ h => List.mem_cons_of_mem _ (List.mem_append_right _ h)) (by decide +kernel))
set_option maxRecDepth 20000 in
theorem gX3_viewStrike_X3_checkKey : GoodIn wsX3_viewStrike (va_wsS RX3 51 yX3_checkKey wsX3_checkKey) := goodIn_app (goodIn_of _ (by decide +kernel)) ggX3_viewStrike_X3_checkKey
set_option maxRecDepth 20000 in
theorem ggX3_viewStrike_X1_book : GoodIn wsX3_viewStrike wsX1_book := goodIn_r _ [18, 19, 80, 81, 82, 83, 84, 85, 86] (by decide +kernel) (by decide +kernel)
set_option maxRecDepth 20000 in
theorem gX3_viewStrike_X1_book : GoodIn wsX3_viewStrike (wsV RX3 165 RX1 yX1_book wsX1_book) := goodIn_app (goodIn_of _ (by decide +kernel)) ggX3_viewStrike_X1_book
set_option maxRecDepth 20000 in
theorem ggX3_viewStrike_X0_touch : GoodIn wsX3_viewStrike wsX0_touch := goodIn_r _ [24, 25, 87, 88, 89, 90, 91, 92, 93] (by decide +kernel) (by decide +kernel)
set_option maxRecDepth 20000 in
theorem gX3_viewStrike_X0_touch : GoodIn wsX3_viewStrike (wsV RX3 57 RX0 yX0_touch wsX0_touch) := goodIn_app (goodIn_of _ (by decide +kernel)) ggX3_viewStrike_X0_touch
set_option maxRecDepth 20000 in
theorem ggX3_viewStrike_X1_isWithin : GoodIn wsX3_viewStrike wsX1_isWithin := goodIn_r _ [29, 19, 30, 31, 32, 33, 34, 23, 35, 36, 80, 81, 82, 83, 84, 85, 86, 87, 88, 89, 90, 91, 92, 93] (by decide +kernel) (by decide +kernel)
set_option maxRecDepth 20000 in
theorem gX3_viewStrike_X1_isWithin : GoodIn wsX3_viewStrike (wsV RX3 162 RX1 yX1_isWithin wsX1_isWithin) := goodIn_app (goodIn_of _ (by decide +kernel)) ggX3_viewStrike_X1_isWithin
set_option maxRecDepth 20000 in
theorem ggX3_viewStrike_X0_removeKey : GoodIn wsX3_viewStrike wsX0_removeKey := goodIn_r _ [40, 41, 42, 43, 23, 44, 45, 33, 34, 35, 36, 46, 47, 48, 49, 50, 51, 52, 53, 54, 55, 56, 57, 58, 59, 60, 61, 62, 63, 64, 65, 66, 67, 68, 69, 70, 71, 72, 73, 87, 88, 89, 90, 91, 92, 93] (by decide +kernel) (by decide +kernel)
set_option maxRecDepth 20000 in
theorem gX3_viewStrike_X0_removeKey : GoodIn wsX3_viewStrike (wsV RX3 64 RX0 yX0_removeKey wsX0_removeKey) := goodIn_app (goodIn_of _ (by decide +kernel)) ggX3_viewStrike_X0_removeKey
theorem dX3_viewStrike_0 : decode cX3_viewStrike 0 = .ok (.aload_n 0, 1) := by decide +kernel
theorem dX3_viewStrike_1 : decode cX3_viewStrike 1 = .ok (.iload_n 1, 1) := by decide +kernel
theorem dX3_viewStrike_2 : decode cX3_viewStrike 2 = .ok (.invokevirtual 158, 3) := by decide +kernel
theorem dX3_viewStrike_5 : decode cX3_viewStrike 5 = .ok (.astore_n 3, 1) := by decide +kernel
theorem dX3_viewStrike_6 : decode cX3_viewStrike 6 = .ok (.iload_n 2, 1) := by decide +kernel
theorem dX3_viewStrike_7 : decode cX3_viewStrike 7 = .ok (.invokestatic 51, 3) := by decide +kernel
theorem dX3_viewStrike_10 : decode cX3_viewStrike 10 = .ok (.aload_n 3, 1) := by decide +kernel
theorem dX3_viewStrike_11 : decode cX3_viewStrike 11 = .ok (.invokevirtual 165, 3) := by decide +kernel
theorem dX3_viewStrike_14 : decode cX3_viewStrike 14 = .ok (.invokevirtual 57, 3) := by decide +kernel
theorem dX3_viewStrike_17 : decode cX3_viewStrike 17 = .ok (.aload_n 3, 1) := by decide +kernel
theorem dX3_viewStrike_18 : decode cX3_viewStrike 18 = .ok (.iload_n 2, 1) := by decide +kernel
theorem dX3_viewStrike_19 : decode cX3_viewStrike 19 = .ok (.invokevirtual 162, 3) := by decide +kernel
theorem dX3_viewStrike_22 : decode cX3_viewStrike 22 = .ok (.ifCond .eq 14, 3) := by decide +kernel
theorem dX3_viewStrike_25 : decode cX3_viewStrike 25 = .ok (.aload_n 3, 1) := by decide +kernel
theorem dX3_viewStrike_26 : decode cX3_viewStrike 26 = .ok (.invokevirtual 165, 3) := by decide +kernel
theorem dX3_viewStrike_29 : decode cX3_viewStrike 29 = .ok (.iload_n 2, 1) := by decide +kernel
theorem dX3_viewStrike_30 : decode cX3_viewStrike 30 = .ok (.invokevirtual 64, 3) := by decide +kernel
theorem dX3_viewStrike_33 : decode cX3_viewStrike 33 = .ok (.goto 6, 3) := by decide +kernel
theorem dX3_viewStrike_36 : decode cX3_viewStrike 36 = .ok (.sipush (-10000), 3) := by decide +kernel
theorem dX3_viewStrike_39 : decode cX3_viewStrike 39 = .ok (.ireturn, 1) := by decide +kernel
set_option maxRecDepth 20000 in
theorem ggX3_viewMerge_X3_viewToWritePair : GoodIn wsX3_viewMerge wsX3_viewToWritePair := goodIn_ca (goodIn_ca (goodIn_r _ [5, 6, 7, 8, 4, 9, 10, 11, 12, 13, 14, 15, 16, 17, 18, 19, 20, 21, 22, 23, 24, 25, 26, 27, 28, 29, 30, 31, 32, 115, 116, 117, 118, 119, 120, 121, 122, 123, 124, 125, 126, 127, 128, 129, 130, 131, 132, 133, 134] (by decide +kernel) (by decide +kernel)) (goodIn_sub (fun _ h => List.mem_cons_of_mem _ (List.mem_append_left _ (List.mem_append_right _ h))) (by decide +kernel))) (goodIn_sub (fun _ h => List.mem_cons_of_mem _ (List.mem_append_right _ h)) (by decide +kernel))
set_option maxRecDepth 20000 in
theorem gX3_viewMerge_X3_viewToWritePair : GoodIn wsX3_viewMerge (wsV RX3 167 RX3 yX3_viewToWritePair wsX3_viewToWritePair) := goodIn_app (goodIn_of _ (by decide +kernel)) ggX3_viewMerge_X3_viewToWritePair
set_option maxRecDepth 20000 in
theorem ggX3_viewMerge_X1_isWithin : GoodIn wsX3_viewMerge wsX1_isWithin := goodIn_r _ [36, 26, 37, 38, 39, 40, 41, 30, 42, 43, 121, 122, 123, 124, 125, 126, 127, 128, 129, 130, 131, 132, 133, 134] (by decide +kernel) (by decide +kernel)
set_option maxRecDepth 20000 in
theorem gX3_viewMerge_X1_isWithin : GoodIn wsX3_viewMerge (wsV RX3 162 RX1 yX1_isWithin wsX1_isWithin) := goodIn_app (goodIn_of _ (by decide +kernel)) ggX3_viewMerge_X1_isWithin
set_option maxRecDepth 20000 in
theorem ggX3_viewMerge_X1_book : GoodIn wsX3_viewMerge wsX1_book := goodIn_r _ [25, 26, 121, 122, 123, 124, 125, 126, 127] (by decide +kernel) (by decide +kernel)
set_option maxRecDepth 20000 in
theorem gX3_viewMerge_X1_book : GoodIn wsX3_viewMerge (wsV RX3 165 RX1 yX1_book wsX1_book) := goodIn_app (goodIn_of _ (by decide +kernel)) ggX3_viewMerge_X1_book
set_option maxRecDepth 20000 in
theorem ggX3_viewMerge_X0_putTogether : GoodIn wsX3_viewMerge wsX0_putTogether := goodIn_r _ [47, 48, 49, 50, 30, 51, 52, 53, 54, 55, 56, 57, 58, 59, 60, 40, 41, 42, 43, 61, 62, 63, 64, 65, 66, 67, 68, 69, 70, 71, 72, 73, 74, 75, 76, 77, 78, 79, 80, 81, 82, 83, 84, 85, 86, 87, 88, 89, 90, 91, 92, 93, 94, 95, 96, 97, 98, 99, 100, 101, 102, 103, 104, 105, 106, 107, 108, 109, 110, 111, 112, 113, 114, 128, 129, 130, 131, 132, 133, 134] (by decide +kernel) (by decide +kernel)
set_option maxRecDepth 20000 in
theorem gX3_viewMerge_X0_putTogether : GoodIn wsX3_viewMerge (wsV RX3 67 RX0 yX0_putTogether wsX0_putTogether) := goodIn_app (goodIn_of _ (by decide +kernel)) ggX3_viewMerge_X0_putTogether
theorem dX3_viewMerge_0 : decode cX3_viewMerge 0 = .ok (.aload_n 0, 1) := by decide +kernel
theorem dX3_viewMerge_1 : decode cX3_viewMerge 1 = .ok (.iload_n 1, 1) := by decide +kernel
theorem dX3_viewMerge_2 : decode cX3_viewMerge 2 = .ok (.iload_n 2, 1) := by decide +kernel
theorem dX3_viewMerge_3 : decode cX3_viewMerge 3 = .ok (.iload_n 3, 1) := by decide +kernel
theorem dX3_viewMerge_4 : decode cX3_viewMerge 4 = .ok (.invokevirtual 167, 3) := by decide +kernel
theorem dX3_viewMerge_7 : decode cX3_viewMerge 7 = .ok (.astore 4, 2) := by decide +kernel
theorem dX3_viewMerge_9 : decode cX3_viewMerge 9 = .ok (.aload 4, 2) := by decide +kernel
theorem dX3_viewMerge_11 : decode cX3_viewMerge 11 = .ok (.iload_n 2, 1) := by decide +kernel
theorem dX3_viewMerge_12 : decode cX3_viewMerge 12 = .ok (.invokevirtual 162, 3) := by decide +kernel
theorem dX3_viewMerge_15 : decode cX3_viewMerge 15 = .ok (.ifCond .eq 16, 3) := by decide +kernel
theorem dX3_viewMerge_18 : decode cX3_viewMerge 18 = .ok (.aload 4, 2) := by decide +kernel
theorem dX3_viewMerge_20 : decode cX3_viewMerge 20 = .ok (.invokevirtual 165, 3) := by decide +kernel
theorem dX3_viewMerge_23 : decode cX3_viewMerge 23 = .ok (.iload_n 2, 1) := by decide +kernel
theorem dX3_viewMerge_24 : decode cX3_viewMerge 24 = .ok (.iload_n 3, 1) := by decide +kernel
theorem dX3_viewMerge_25 : decode cX3_viewMerge 25 = .ok (.invokevirtual 67, 3) := by decide +kernel
theorem dX3_viewMerge_28 : decode cX3_viewMerge 28 = .ok (.goto 6, 3) := by decide +kernel
theorem dX3_viewMerge_31 : decode cX3_viewMerge 31 = .ok (.sipush (-20000), 3) := by decide +kernel
theorem dX3_viewMerge_34 : decode cX3_viewMerge 34 = .ok (.ireturn, 1) := by decide +kernel
set_option maxRecDepth 20000 in
theorem ggX3_viewPoll_X3_viewAt : GoodIn wsX3_viewPoll wsX3_viewAt := goodIn_ca (goodIn_r _ [5, 6, 7, 8, 70, 71, 72, 73, 74, 75] (by decide +kernel) (by decide +kernel)) (goodIn_sub (fun _ h => List.mem_cons_of_mem _ (List.mem_append_right _ h)) (by decide +kernel))
set_option maxRecDepth 20000 in
theorem gX3_viewPoll_X3_viewAt : GoodIn wsX3_viewPoll (wsV RX3 158 RX3 yX3_viewAt wsX3_viewAt) := goodIn_app (goodIn_of _ (by decide +kernel)) ggX3_viewPoll_X3_viewAt
set_option maxRecDepth 20000 in
theorem ggX3_viewPoll_X1_book : GoodIn wsX3_viewPoll wsX1_book := goodIn_r _ [13, 14, 76, 77, 78, 79, 80, 81, 82] (by decide +kernel) (by decide +kernel)
set_option maxRecDepth 20000 in
theorem gX3_viewPoll_X1_book : GoodIn wsX3_viewPoll (wsV RX3 165 RX1 yX1_book wsX1_book) := goodIn_app (goodIn_of _ (by decide +kernel)) ggX3_viewPoll_X1_book
set_option maxRecDepth 20000 in
theorem ggX3_viewPoll_X0_touch : GoodIn wsX3_viewPoll wsX0_touch := goodIn_r _ [19, 20, 83, 84, 85, 86, 87, 88, 89] (by decide +kernel) (by decide +kernel)
set_option maxRecDepth 20000 in
theorem gX3_viewPoll_X0_touch : GoodIn wsX3_viewPoll (wsV RX3 57 RX0 yX0_touch wsX0_touch) := goodIn_app (goodIn_of _ (by decide +kernel)) ggX3_viewPoll_X0_touch
set_option maxRecDepth 20000 in
theorem ggX3_viewPoll_X1_size : GoodIn wsX3_viewPoll wsX1_size := goodIn_r _ [24, 25, 26, 27, 12, 28, 14, 29, 30, 31, 32, 18, 33, 34, 35, 36, 37, 38, 39, 40, 41, 42, 43, 44, 45, 76, 77, 78, 79, 80, 81, 82, 83, 84, 85, 86, 87, 88, 89] (by decide +kernel) (by decide +kernel)
set_option maxRecDepth 20000 in
theorem gX3_viewPoll_X1_size : GoodIn wsX3_viewPoll (wsV RX3 166 RX1 yX1_size wsX1_size) := goodIn_app (goodIn_of _ (by decide +kernel)) ggX3_viewPoll_X1_size
set_option maxRecDepth 20000 in
theorem ggX3_viewPoll_X1_end : GoodIn wsX3_viewPoll wsX1_end := goodIn_r _ [28, 14, 29, 30, 31, 32, 18, 33, 34, 35, 36, 37, 38, 39, 40, 76, 77, 78, 79, 80, 81, 82, 83, 84, 85, 86, 87, 88, 89] (by decide +kernel) (by decide +kernel)
set_option maxRecDepth 20000 in
theorem gX3_viewPoll_X1_end : GoodIn wsX3_viewPoll (wsV RX3 171 RX1 yX1_end wsX1_end) := goodIn_app (goodIn_of _ (by decide +kernel)) ggX3_viewPoll_X1_end
set_option maxRecDepth 20000 in
theorem ggX3_viewPoll_X1_start : GoodIn wsX3_viewPoll wsX1_start := goodIn_r _ [44, 14, 45, 30, 31, 32, 18, 33, 34, 35, 36, 37, 38, 39, 40, 76, 77, 78, 79, 80, 81, 82, 83, 84, 85, 86, 87, 88, 89] (by decide +kernel) (by decide +kernel)
set_option maxRecDepth 20000 in
theorem gX3_viewPoll_X1_start : GoodIn wsX3_viewPoll (wsV RX3 174 RX1 yX1_start wsX1_start) := goodIn_app (goodIn_of _ (by decide +kernel)) ggX3_viewPoll_X1_start
set_option maxRecDepth 20000 in
theorem ggX3_viewPoll_X0_removeAt : GoodIn wsX3_viewPoll wsX0_removeAt := goodIn_r _ [51, 52, 53, 54, 18, 55, 35, 56, 57, 58, 59, 34, 60, 61, 62, 63, 64, 65, 66, 67, 68, 69, 83, 84, 85, 86, 87, 88, 89] (by decide +kernel) (by decide +kernel)
set_option maxRecDepth 20000 in
theorem gX3_viewPoll_X0_removeAt : GoodIn wsX3_viewPoll (wsV RX3 83 RX0 yX0_removeAt wsX0_removeAt) := goodIn_app (goodIn_of _ (by decide +kernel)) ggX3_viewPoll_X0_removeAt
theorem dX3_viewPoll_0 : decode cX3_viewPoll 0 = .ok (.aload_n 0, 1) := by decide +kernel
theorem dX3_viewPoll_1 : decode cX3_viewPoll 1 = .ok (.iload_n 1, 1) := by decide +kernel
theorem dX3_viewPoll_2 : decode cX3_viewPoll 2 = .ok (.invokevirtual 158, 3) := by decide +kernel
theorem dX3_viewPoll_5 : decode cX3_viewPoll 5 = .ok (.astore_n 3, 1) := by decide +kernel
theorem dX3_viewPoll_6 : decode cX3_viewPoll 6 = .ok (.aload_n 3, 1) := by decide +kernel
theorem dX3_viewPoll_7 : decode cX3_viewPoll 7 = .ok (.invokevirtual 165, 3) := by decide +kernel
theorem dX3_viewPoll_10 : decode cX3_viewPoll 10 = .ok (.invokevirtual 57, 3) := by decide +kernel
theorem dX3_viewPoll_13 : decode cX3_viewPoll 13 = .ok (.aload_n 3, 1) := by decide +kernel
theorem dX3_viewPoll_14 : decode cX3_viewPoll 14 = .ok (.invokevirtual 166, 3) := by decide +kernel
theorem dX3_viewPoll_17 : decode cX3_viewPoll 17 = .ok (.ifCond .ne 7, 3) := by decide +kernel
theorem dX3_viewPoll_20 : decode cX3_viewPoll 20 = .ok (.sipush (-10000), 3) := by decide +kernel
theorem dX3_viewPoll_23 : decode cX3_viewPoll 23 = .ok (.ireturn, 1) := by decide +kernel
theorem dX3_viewPoll_24 : decode cX3_viewPoll 24 = .ok (.aload_n 3, 1) := by decide +kernel
theorem dX3_viewPoll_25 : decode cX3_viewPoll 25 = .ok (.invokevirtual 165, 3) := by decide +kernel
theorem dX3_viewPoll_28 : decode cX3_viewPoll 28 = .ok (.iload_n 2, 1) := by decide +kernel
theorem dX3_viewPoll_29 : decode cX3_viewPoll 29 = .ok (.ifCond .eq 12, 3) := by decide +kernel
theorem dX3_viewPoll_32 : decode cX3_viewPoll 32 = .ok (.aload_n 3, 1) := by decide +kernel
theorem dX3_viewPoll_33 : decode cX3_viewPoll 33 = .ok (.invokevirtual 171, 3) := by decide +kernel
theorem dX3_viewPoll_36 : decode cX3_viewPoll 36 = .ok (.iconst 1, 1) := by decide +kernel
theorem dX3_viewPoll_37 : decode cX3_viewPoll 37 = .ok (.isub, 1) := by decide +kernel
theorem dX3_viewPoll_38 : decode cX3_viewPoll 38 = .ok (.goto 7, 3) := by decide +kernel
theorem dX3_viewPoll_41 : decode cX3_viewPoll 41 = .ok (.aload_n 3, 1) := by decide +kernel
theorem dX3_viewPoll_42 : decode cX3_viewPoll 42 = .ok (.invokevirtual 174, 3) := by decide +kernel
theorem dX3_viewPoll_45 : decode cX3_viewPoll 45 = .ok (.invokevirtual 83, 3) := by decide +kernel
theorem dX3_viewPoll_48 : decode cX3_viewPoll 48 = .ok (.ireturn, 1) := by decide +kernel
set_option maxRecDepth 20000 in
theorem ggX3_viewClear_X3_viewAt : GoodIn wsX3_viewClear wsX3_viewAt := goodIn_ca (goodIn_r _ [5, 6, 7, 8, 52, 53, 54, 55, 56, 57] (by decide +kernel) (by decide +kernel)) (goodIn_sub (fun _ h => List.mem_cons_of_mem _ (List.mem_append_right _ h)) (by decide +kernel))
set_option maxRecDepth 20000 in
theorem gX3_viewClear_X3_viewAt : GoodIn wsX3_viewClear (wsV RX3 158 RX3 yX3_viewAt wsX3_viewAt) := goodIn_app (goodIn_of _ (by decide +kernel)) ggX3_viewClear_X3_viewAt
set_option maxRecDepth 20000 in
theorem ggX3_viewClear_X1_book : GoodIn wsX3_viewClear wsX1_book := goodIn_r _ [13, 14, 58, 59, 60, 61, 62, 63, 64] (by decide +kernel) (by decide +kernel)
set_option maxRecDepth 20000 in
theorem gX3_viewClear_X1_book : GoodIn wsX3_viewClear (wsV RX3 165 RX1 yX1_book wsX1_book) := goodIn_app (goodIn_of _ (by decide +kernel)) ggX3_viewClear_X1_book
set_option maxRecDepth 20000 in
theorem ggX3_viewClear_X0_touch : GoodIn wsX3_viewClear wsX0_touch := goodIn_r _ [19, 20, 65, 66, 67, 68, 69, 70, 71] (by decide +kernel) (by decide +kernel)
set_option maxRecDepth 20000 in
theorem gX3_viewClear_X0_touch : GoodIn wsX3_viewClear (wsV RX3 57 RX0 yX0_touch wsX0_touch) := goodIn_app (goodIn_of _ (by decide +kernel)) ggX3_viewClear_X0_touch
set_option maxRecDepth 20000 in
theorem ggX3_viewClear_X1_start : GoodIn wsX3_viewClear wsX1_start := goodIn_r _ [24, 14, 25, 26, 27, 28, 18, 29, 30, 31, 32, 33, 34, 35, 36, 58, 59, 60, 61, 62, 63, 64, 65, 66, 67, 68, 69, 70, 71] (by decide +kernel) (by decide +kernel)
set_option maxRecDepth 20000 in
theorem gX3_viewClear_X1_start : GoodIn wsX3_viewClear (wsV RX3 174 RX1 yX1_start wsX1_start) := goodIn_app (goodIn_of _ (by decide +kernel)) ggX3_viewClear_X1_start
set_option maxRecDepth 20000 in
theorem ggX3_viewClear_X1_end : GoodIn wsX3_viewClear wsX1_end := goodIn_r _ [40, 14, 41, 26, 27, 28, 18, 29, 30, 31, 32, 33, 34, 35, 36, 58, 59, 60, 61, 62, 63, 64, 65, 66, 67, 68, 69, 70, 71] (by decide +kernel) (by decide +kernel)
set_option maxRecDepth 20000 in
theorem gX3_viewClear_X1_end : GoodIn wsX3_viewClear (wsV RX3 171 RX1 yX1_end wsX1_end) := goodIn_app (goodIn_of _ (by decide +kernel)) ggX3_viewClear_X1_end
set_option maxRecDepth 20000 in
theorem ggX3_viewClear_X0_removeRange : GoodIn wsX3_viewClear wsX0_removeRange := goodIn_r _ [45, 30, 31, 46, 47, 48, 49, 50, 51, 65, 66, 67, 68, 69, 70, 71] (by decide +kernel) (by decide +kernel)
set_option maxRecDepth 20000 in
theorem gX3_viewClear_X0_removeRange : GoodIn wsX3_viewClear (wsV RX3 112 RX0 yX0_removeRange wsX0_removeRange) := goodIn_app (goodIn_of _ (by decide +kernel)) ggX3_viewClear_X0_removeRange
theorem dX3_viewClear_0 : decode cX3_viewClear 0 = .ok (.aload_n 0, 1) := by decide +kernel
theorem dX3_viewClear_1 : decode cX3_viewClear 1 = .ok (.iload_n 1, 1) := by decide +kernel
theorem dX3_viewClear_2 : decode cX3_viewClear 2 = .ok (.invokevirtual 158, 3) := by decide +kernel
theorem dX3_viewClear_5 : decode cX3_viewClear 5 = .ok (.astore_n 2, 1) := by decide +kernel
theorem dX3_viewClear_6 : decode cX3_viewClear 6 = .ok (.aload_n 2, 1) := by decide +kernel
theorem dX3_viewClear_7 : decode cX3_viewClear 7 = .ok (.invokevirtual 165, 3) := by decide +kernel
theorem dX3_viewClear_10 : decode cX3_viewClear 10 = .ok (.invokevirtual 57, 3) := by decide +kernel
theorem dX3_viewClear_13 : decode cX3_viewClear 13 = .ok (.aload_n 2, 1) := by decide +kernel
theorem dX3_viewClear_14 : decode cX3_viewClear 14 = .ok (.invokevirtual 165, 3) := by decide +kernel
theorem dX3_viewClear_17 : decode cX3_viewClear 17 = .ok (.aload_n 2, 1) := by decide +kernel
theorem dX3_viewClear_18 : decode cX3_viewClear 18 = .ok (.invokevirtual 174, 3) := by decide +kernel
theorem dX3_viewClear_21 : decode cX3_viewClear 21 = .ok (.aload_n 2, 1) := by decide +kernel
theorem dX3_viewClear_22 : decode cX3_viewClear 22 = .ok (.invokevirtual 171, 3) := by decide +kernel
theorem dX3_viewClear_25 : decode cX3_viewClear 25 = .ok (.invokevirtual 112, 3) := by decide +kernel
theorem dX3_viewClear_28 : decode cX3_viewClear 28 = .ok (.ireturn, 1) := by decide +kernel
set_option maxRecDepth 20000 in
theorem ggX3_walk_X3_bookAt : GoodIn wsX3_walk wsX3_bookAt := goodIn_ca (goodIn_r _ [8, 9, 10, 11, 85, 86, 87, 88, 89, 90] (by decide +kernel) (by decide +kernel)) (goodIn_sub (fun _ h => List.mem_cons_of_mem _ (List.mem_append_right _ h)) (by decide +kernel))
set_option maxRecDepth 20000 in
theorem gX3_walk_X3_bookAt : GoodIn wsX3_walk (wsV RX3 47 RX3 yX3_bookAt wsX3_bookAt) := goodIn_app (goodIn_of _ (by decide +kernel)) ggX3_walk_X3_bookAt
set_option maxRecDepth 20000 in
theorem ggX3_walk_X1_init : GoodIn wsX3_walk wsX1_init := goodIn_r _ [14, 15, 16, 17, 18, 19, 20, 21, 22, 23, 24, 25, 26, 27, 28, 29, 30, 31, 32, 33, 34, 78, 79, 80, 81, 82, 83, 84, 91, 92, 93, 94, 95, 96, 97] (by decide +kernel) (by decide +kernel)
set_option maxRecDepth 20000 in
theorem gX3_walk_X1_init : GoodIn wsX3_walk (wsX1_init) := ggX3_walk_X1_init
set_option maxRecDepth 20000 in
theorem ggX3_walk_X3_beginWalk : GoodIn wsX3_walk wsX3_beginWalk := goodIn_r _ [38, 39, 40, 41, 42, 43, 44, 45, 46, 16, 17, 47, 48, 49, 50, 51, 52, 3, 53, 18, 54, 55, 56, 32, 57, 58, 59, 60, 61, 62, 63, 64, 65, 66, 28, 67, 68, 69, 70, 71, 72, 73, 30, 31, 33, 34, 74, 75, 76, 77, 23, 98, 99, 100, 101, 102, 85, 86, 87, 88, 89, 90, 78, 79, 80, 81, 82, 83, 84, 91, 92, 93, 94, 95, 96, 97] (by decide +kernel) (by decide +kernel)
set_option maxRecDepth 20000 in
theorem gX3_walk_X3_beginWalk : GoodIn wsX3_walk (wsV RX3 177 RX3 yX3_beginWalk wsX3_beginWalk) := goodIn_app (goodIn_of _ (by decide +kernel)) ggX3_walk_X3_beginWalk
theorem dX3_walk_0 : decode cX3_walk 0 = .ok (.aload_n 0, 1) := by decide +kernel
theorem dX3_walk_1 : decode cX3_walk 1 = .ok (.new 18, 3) := by decide +kernel
theorem dX3_walk_4 : decode cX3_walk 4 = .ok (.dup, 1) := by decide +kernel
theorem dX3_walk_5 : decode cX3_walk 5 = .ok (.aload_n 0, 1) := by decide +kernel
theorem dX3_walk_6 : decode cX3_walk 6 = .ok (.iload_n 1, 1) := by decide +kernel
theorem dX3_walk_7 : decode cX3_walk 7 = .ok (.invokevirtual 47, 3) := by decide +kernel
theorem dX3_walk_10 : decode cX3_walk 10 = .ok (.sipush (-10000), 3) := by decide +kernel
theorem dX3_walk_13 : decode cX3_walk 13 = .ok (.iconst 0, 1) := by decide +kernel
theorem dX3_walk_14 : decode cX3_walk 14 = .ok (.sipush (-10000), 3) := by decide +kernel
theorem dX3_walk_17 : decode cX3_walk 17 = .ok (.iconst 0, 1) := by decide +kernel
theorem dX3_walk_18 : decode cX3_walk 18 = .ok (.invokespecial 144, 3) := by decide +kernel
theorem dX3_walk_21 : decode cX3_walk 21 = .ok (.invokevirtual 177, 3) := by decide +kernel
theorem dX3_walk_24 : decode cX3_walk 24 = .ok (.ireturn, 1) := by decide +kernel
set_option maxRecDepth 20000 in
theorem ggX3_viewWalk_X3_viewAt : GoodIn wsX3_viewWalk wsX3_viewAt := goodIn_ca (goodIn_r _ [5, 6, 7, 8, 63, 64, 65, 66, 67, 68] (by decide +kernel) (by decide +kernel)) (goodIn_sub (fun _ h => List.mem_cons_of_mem _ (List.mem_append_right _ h)) (by decide +kernel))
set_option maxRecDepth 20000 in
theorem gX3_viewWalk_X3_viewAt : GoodIn wsX3_viewWalk (wsV RX3 158 RX3 yX3_viewAt wsX3_viewAt) := goodIn_app (goodIn_of _ (by decide +kernel)) ggX3_viewWalk_X3_viewAt
set_option maxRecDepth 20000 in
theorem ggX3_viewWalk_X3_beginWalk : GoodIn wsX3_viewWalk wsX3_beginWalk := goodIn_r _ [12, 13, 14, 15, 16, 17, 18, 19, 20, 21, 22, 23, 24, 25, 26, 27, 28, 29, 30, 31, 32, 33, 34, 35, 36, 37, 38, 39, 40, 41, 42, 43, 44, 45, 46, 47, 48, 49, 50, 51, 52, 53, 54, 55, 56, 57, 58, 59, 60, 61, 62, 69, 70, 71, 72, 73, 63, 64, 65, 66, 67, 68, 74, 75, 76, 77, 78, 79, 80, 81, 82, 83, 84, 85, 86, 87] (by decide +kernel) (by decide +kernel)
set_option maxRecDepth 20000 in
theorem gX3_viewWalk_X3_beginWalk : GoodIn wsX3_viewWalk (wsV RX3 177 RX3 yX3_beginWalk wsX3_beginWalk) := goodIn_app (goodIn_of _ (by decide +kernel)) ggX3_viewWalk_X3_beginWalk
theorem dX3_viewWalk_0 : decode cX3_viewWalk 0 = .ok (.aload_n 0, 1) := by decide +kernel
theorem dX3_viewWalk_1 : decode cX3_viewWalk 1 = .ok (.aload_n 0, 1) := by decide +kernel
theorem dX3_viewWalk_2 : decode cX3_viewWalk 2 = .ok (.iload_n 1, 1) := by decide +kernel
theorem dX3_viewWalk_3 : decode cX3_viewWalk 3 = .ok (.invokevirtual 158, 3) := by decide +kernel
theorem dX3_viewWalk_6 : decode cX3_viewWalk 6 = .ok (.invokevirtual 177, 3) := by decide +kernel
theorem dX3_viewWalk_9 : decode cX3_viewWalk 9 = .ok (.ireturn, 1) := by decide +kernel
set_option maxRecDepth 20000 in
theorem ggX3_step_X3_soundWalk : GoodIn wsX3_step wsX3_soundWalk := goodIn_ca (goodIn_r _ [5, 6, 7, 8, 9, 10, 11, 12, 13, 14, 15, 16, 17, 18, 19, 20, 21, 22, 23, 24, 25, 26, 27, 28, 29, 30, 31, 78, 79, 80, 81, 82, 83, 84, 85, 86, 87, 88, 89, 90, 91, 92, 93, 94, 95, 96, 97, 98, 99, 100, 101, 102] (by decide +kernel) (by decide +kernel)) (goodIn_sub (fun _ h => List.mem_cons_of_mem _ (List.mem_append_right _ h)) (by decide +kernel))
set_option maxRecDepth 20000 in
theorem gX3_step_X3_soundWalk : GoodIn wsX3_step (wsV RX3 180 RX3 yX3_soundWalk wsX3_soundWalk) := goodIn_app (goodIn_of _ (by decide +kernel)) ggX3_step_X3_soundWalk
set_option maxRecDepth 20000 in
theorem ggX3_step_X2_advance : GoodIn wsX3_step wsX2_advance := goodIn_r _ [35, 36, 19, 37, 38, 39, 40, 41, 23, 42, 25, 43, 44, 45, 46, 29, 47, 48, 49, 50, 51, 52, 53, 54, 15, 16, 17, 12, 18, 20, 21, 22, 24, 55, 56, 57, 58, 59, 60, 61, 62, 63, 64, 65, 66, 67, 68, 69, 70, 71, 72, 73, 74, 75, 76, 77, 84, 85, 86, 87, 88, 89, 90, 91, 92, 93, 94, 95, 96, 97, 98, 99, 100, 101, 102] (by decide +kernel) (by decide +kernel)
set_option maxRecDepth 20000 in
theorem gX3_step_X2_advance : GoodIn wsX3_step (wsV RX3 184 RX2 yX2_advance wsX2_advance) := goodIn_app (goodIn_of _ (by decide +kernel)) ggX3_step_X2_advance
theorem dX3_step_0 : decode cX3_step 0 = .ok (.aload_n 0, 1) := by decide +kernel
theorem dX3_step_1 : decode cX3_step 1 = .ok (.invokevirtual 180, 3) := by decide +kernel
theorem dX3_step_4 : decode cX3_step 4 = .ok (.invokevirtual 184, 3) := by decide +kernel
theorem dX3_step_7 : decode cX3_step 7 = .ok (.ireturn, 1) := by decide +kernel
set_option maxRecDepth 20000 in
theorem ggX3_write_X3_checkValue : GoodIn wsX3_write wsX3_checkValue := goodIn_ca (goodIn_r _ [6, 7, 8] (by decide +kernel) (by decide +kernel)) (goodIn_sub (fun _ h => List.mem_cons_of_mem _ (List.mem_append_right _ h)) (by decide +kernel))
set_option maxRecDepth 20000 in
theorem gX3_write_X3_checkValue : GoodIn wsX3_write (va_wsS RX3 54 yX3_checkValue wsX3_checkValue) := goodIn_app (goodIn_of _ (by decide +kernel)) ggX3_write_X3_checkValue
set_option maxRecDepth 20000 in
theorem ggX3_write_X3_soundWalk : GoodIn wsX3_write wsX3_soundWalk := goodIn_ca (goodIn_r _ [12, 1, 2, 13, 14, 15, 16, 17, 18, 19, 20, 21, 22, 23, 24, 25, 26, 27, 28, 29, 30, 31, 32, 33, 34, 35, 36, 82, 83, 84, 85, 86, 87, 88, 89, 90, 91, 92, 93, 94, 95, 96, 97, 98, 99, 100, 101, 102, 103, 104, 105, 106] (by decide +kernel) (by decide +kernel)) (goodIn_sub (fun _ h => List.mem_cons_of_mem _ (List.mem_append_left _ (List.mem_append_right _ h))) (by decide +kernel))
set_option maxRecDepth 20000 in
theorem gX3_write_X3_soundWalk : GoodIn wsX3_write (wsV RX3 180 RX3 yX3_soundWalk wsX3_soundWalk) := goodIn_app (goodIn_of _ (by decide +kernel)) ggX3_write_X3_soundWalk
set_option maxRecDepth 20000 in
theorem ggX3_write_X2_keyAtHand : GoodIn wsX3_write wsX2_keyAtHand := goodIn_r _ [40, 41, 42, 43, 20, 21, 22, 17, 23, 24, 25, 26, 27, 28, 29, 30, 44, 45, 46, 34, 47, 48, 88, 89, 90, 91, 92, 93, 94, 95, 96, 97, 98, 99, 100, 101, 102, 103, 104, 105, 106] (by decide +kernel) (by decide +kernel)
set_option maxRecDepth 20000 in
theorem gX3_write_X2_keyAtHand : GoodIn wsX3_write (wsV RX3 187 RX2 yX2_keyAtHand wsX2_keyAtHand) := goodIn_app (goodIn_of _ (by decide +kernel)) ggX3_write_X2_keyAtHand
set_option maxRecDepth 20000 in
theorem ggX3_write_X2_book : GoodIn wsX3_write wsX2_book := goodIn_r _ [23, 24, 25, 26, 27, 28, 29, 30, 88, 89, 90, 91, 92, 93, 94, 95, 96, 97, 98, 99] (by decide +kernel) (by decide +kernel)
set_option maxRecDepth 20000 in
theorem gX3_write_X2_book : GoodIn wsX3_write (wsV RX3 130 RX2 yX2_book wsX2_book) := goodIn_app (goodIn_of _ (by decide +kernel)) ggX3_write_X2_book
set_option maxRecDepth 20000 in
theorem ggX3_write_X0_enter : GoodIn wsX3_write wsX0_enter := goodIn_r _ [53, 54, 55, 56, 57, 58, 34, 59, 60, 61, 62, 63, 64, 65, 66, 67, 68, 69, 70, 71, 72, 73, 74, 75, 76, 77, 78, 79, 80, 81, 36, 100, 101, 102, 103, 104, 105, 106] (by decide +kernel) (by decide +kernel)
set_option maxRecDepth 20000 in
theorem gX3_write_X0_enter : GoodIn wsX3_write (wsV RX3 35 RX0 yX0_enter wsX0_enter) := goodIn_app (goodIn_of _ (by decide +kernel)) ggX3_write_X0_enter
theorem dX3_write_0 : decode cX3_write 0 = .ok (.iload_n 1, 1) := by decide +kernel
theorem dX3_write_1 : decode cX3_write 1 = .ok (.invokestatic 54, 3) := by decide +kernel
theorem dX3_write_4 : decode cX3_write 4 = .ok (.aload_n 0, 1) := by decide +kernel
theorem dX3_write_5 : decode cX3_write 5 = .ok (.invokevirtual 180, 3) := by decide +kernel
theorem dX3_write_8 : decode cX3_write 8 = .ok (.astore_n 2, 1) := by decide +kernel
theorem dX3_write_9 : decode cX3_write 9 = .ok (.aload_n 2, 1) := by decide +kernel
theorem dX3_write_10 : decode cX3_write 10 = .ok (.invokevirtual 187, 3) := by decide +kernel
theorem dX3_write_13 : decode cX3_write 13 = .ok (.istore_n 3, 1) := by decide +kernel
theorem dX3_write_14 : decode cX3_write 14 = .ok (.iload_n 3, 1) := by decide +kernel
theorem dX3_write_15 : decode cX3_write 15 = .ok (.sipush (-10000), 3) := by decide +kernel
theorem dX3_write_18 : decode cX3_write 18 = .ok (.if_icmp .ne 13, 3) := by decide +kernel
theorem dX3_write_21 : decode cX3_write 21 = .ok (.new 104, 3) := by decide +kernel
theorem dX3_write_24 : decode cX3_write 24 = .ok (.dup, 1) := by decide +kernel
theorem dX3_write_25 : decode cX3_write 25 = .ok (.ldc 190, 2) := by decide +kernel
theorem dX3_write_27 : decode cX3_write 27 = .ok (.invokespecial 108, 3) := by decide +kernel
theorem dX3_write_30 : decode cX3_write 30 = .ok (.athrow, 1) := by decide +kernel
theorem dX3_write_31 : decode cX3_write 31 = .ok (.aload_n 2, 1) := by decide +kernel
theorem dX3_write_32 : decode cX3_write 32 = .ok (.invokevirtual 130, 3) := by decide +kernel
theorem dX3_write_35 : decode cX3_write 35 = .ok (.iload_n 3, 1) := by decide +kernel
theorem dX3_write_36 : decode cX3_write 36 = .ok (.iload_n 1, 1) := by decide +kernel
theorem dX3_write_37 : decode cX3_write 37 = .ok (.invokevirtual 35, 3) := by decide +kernel
theorem dX3_write_40 : decode cX3_write 40 = .ok (.ireturn, 1) := by decide +kernel
set_option maxRecDepth 20000 in
theorem ggX3_drop_X3_soundWalk : GoodIn wsX3_drop wsX3_soundWalk := goodIn_ca (goodIn_r _ [7, 1, 2, 8, 9, 10, 11, 12, 13, 14, 15, 16, 17, 18, 19, 20, 21, 22, 23, 24, 25, 26, 27, 28, 29, 30, 31, 87, 88, 89, 90, 91, 92, 93, 94, 95, 96, 97, 98, 99, 100, 101, 102, 103, 104, 105, 106, 107, 108, 109, 110, 111] (by decide +kernel) (by decide +kernel)) (goodIn_sub (fun _ h => List.mem_cons_of_mem _ (List.mem_append_right _ h)) (by decide +kernel))
set_option maxRecDepth 20000 in
theorem gX3_drop_X3_soundWalk : GoodIn wsX3_drop (wsV RX3 180 RX3 yX3_soundWalk wsX3_soundWalk) := goodIn_app (goodIn_of _ (by decide +kernel)) ggX3_drop_X3_soundWalk
set_option maxRecDepth 20000 in
theorem ggX3_drop_X2_canDrop : GoodIn wsX3_drop wsX2_canDrop := goodIn_r _ [35, 36, 93, 94, 95, 96, 97] (by decide +kernel) (by decide +kernel)
set_option maxRecDepth 20000 in
theorem gX3_drop_X2_canDrop : GoodIn wsX3_drop (wsV RX3 192 RX2 yX2_canDrop wsX2_canDrop) := goodIn_app (goodIn_of _ (by decide +kernel)) ggX3_drop_X2_canDrop
set_option maxRecDepth 20000 in
theorem ggX3_drop_X2_dropLastStep : GoodIn wsX3_drop wsX2_dropLastStep := goodIn_r _ [40, 41, 36, 14, 15, 16, 17, 12, 18, 19, 20, 21, 22, 23, 24, 25, 42, 43, 44, 29, 45, 46, 47, 48, 49, 50, 51, 52, 53, 54, 55, 56, 57, 58, 59, 60, 61, 62, 63, 64, 65, 66, 67, 68, 69, 70, 71, 72, 73, 74, 75, 76, 77, 78, 79, 80, 81, 31, 26, 27, 28, 30, 93, 94, 95, 96, 97, 98, 99, 100, 101, 102, 103, 104, 105, 106, 107, 108, 109, 110, 111] (by decide +kernel) (by decide +kernel)
set_option maxRecDepth 20000 in
theorem gX3_drop_X2_dropLastStep : GoodIn wsX3_drop (wsV RX3 198 RX2 yX2_dropLastStep wsX2_dropLastStep) := goodIn_app (goodIn_of _ (by decide +kernel)) ggX3_drop_X2_dropLastStep
set_option maxRecDepth 20000 in
theorem ggX3_drop_X2_book : GoodIn wsX3_drop wsX2_book := goodIn_r _ [18, 19, 20, 21, 22, 23, 24, 25, 93, 94, 95, 96, 97, 98, 99, 100, 101, 102, 103, 104] (by decide +kernel) (by decide +kernel)
set_option maxRecDepth 20000 in
theorem gX3_drop_X2_book : GoodIn wsX3_drop (wsV RX3 130 RX2 yX2_book wsX2_book) := goodIn_app (goodIn_of _ (by decide +kernel)) ggX3_drop_X2_book
set_option maxRecDepth 20000 in
theorem ggX3_drop_X0_size : GoodIn wsX3_drop wsX0_size := goodIn_r _ [86, 59, 105, 106, 107, 108, 109, 110, 111] (by decide +kernel) (by decide +kernel)
set_option maxRecDepth 20000 in
theorem gX3_drop_X0_size : GoodIn wsX3_drop (wsV RX3 79 RX0 yX0_size wsX0_size) := goodIn_app (goodIn_of _ (by decide +kernel)) ggX3_drop_X0_size
theorem dX3_drop_0 : decode cX3_drop 0 = .ok (.aload_n 0, 1) := by decide +kernel
theorem dX3_drop_1 : decode cX3_drop 1 = .ok (.invokevirtual 180, 3) := by decide +kernel
theorem dX3_drop_4 : decode cX3_drop 4 = .ok (.astore_n 1, 1) := by decide +kernel
theorem dX3_drop_5 : decode cX3_drop 5 = .ok (.aload_n 1, 1) := by decide +kernel
theorem dX3_drop_6 : decode cX3_drop 6 = .ok (.invokevirtual 192, 3) := by decide +kernel
theorem dX3_drop_9 : decode cX3_drop 9 = .ok (.ifCond .ne 13, 3) := by decide +kernel
theorem dX3_drop_12 : decode cX3_drop 12 = .ok (.new 104, 3) := by decide +kernel
theorem dX3_drop_15 : decode cX3_drop 15 = .ok (.dup, 1) := by decide +kernel
theorem dX3_drop_16 : decode cX3_drop 16 = .ok (.ldc 196, 2) := by decide +kernel
theorem dX3_drop_18 : decode cX3_drop 18 = .ok (.invokespecial 108, 3) := by decide +kernel
theorem dX3_drop_21 : decode cX3_drop 21 = .ok (.athrow, 1) := by decide +kernel
theorem dX3_drop_22 : decode cX3_drop 22 = .ok (.aload_n 1, 1) := by decide +kernel
theorem dX3_drop_23 : decode cX3_drop 23 = .ok (.invokevirtual 198, 3) := by decide +kernel
theorem dX3_drop_26 : decode cX3_drop 26 = .ok (.aload_n 1, 1) := by decide +kernel
theorem dX3_drop_27 : decode cX3_drop 27 = .ok (.invokevirtual 130, 3) := by decide +kernel
theorem dX3_drop_30 : decode cX3_drop 30 = .ok (.invokevirtual 79, 3) := by decide +kernel
theorem dX3_drop_33 : decode cX3_drop 33 = .ok (.ireturn, 1) := by decide +kernel
set_option maxRecDepth 20000 in
theorem ggX3_keep_X3_bookAt : GoodIn wsX3_keep wsX3_bookAt := goodIn_ca (goodIn_r _ [7, 8, 9, 10, 31, 32, 33, 34, 35, 36] (by decide +kernel) (by decide +kernel)) (goodIn_sub (fun _ h => List.mem_cons_of_mem _ (List.mem_append_right _ h)) (by decide +kernel))
set_option maxRecDepth 20000 in
theorem gX3_keep_X3_bookAt : GoodIn wsX3_keep (wsV RX3 47 RX3 yX3_bookAt wsX3_bookAt) := goodIn_app (goodIn_of _ (by decide +kernel)) ggX3_keep_X3_bookAt
set_option maxRecDepth 20000 in
theorem ggX3_keep_X0_size : GoodIn wsX3_keep wsX0_size := goodIn_r _ [15, 16, 37, 38, 39, 40, 41, 42, 43] (by decide +kernel) (by decide +kernel)
set_option maxRecDepth 20000 in
theorem gX3_keep_X0_size : GoodIn wsX3_keep (wsV RX3 79 RX0 yX0_size wsX0_size) := goodIn_app (goodIn_of _ (by decide +kernel)) ggX3_keep_X0_size
set_option maxRecDepth 20000 in
theorem ggX3_keep_X0_keyAt : GoodIn wsX3_keep wsX0_keyAt := goodIn_r _ [20, 21, 22, 23, 24, 14, 25, 16, 37, 38, 39, 40, 41, 42, 43] (by decide +kernel) (by decide +kernel)
set_option maxRecDepth 20000 in
theorem gX3_keep_X0_keyAt : GoodIn wsX3_keep (wsV RX3 201 RX0 yX0_keyAt wsX0_keyAt) := goodIn_app (goodIn_of _ (by decide +kernel)) ggX3_keep_X0_keyAt
set_option maxRecDepth 20000 in
theorem ggX3_keep_X0_valueAt : GoodIn wsX3_keep wsX0_valueAt := goodIn_r _ [29, 30, 22, 23, 24, 14, 25, 16, 37, 38, 39, 40, 41, 42, 43] (by decide +kernel) (by decide +kernel)
set_option maxRecDepth 20000 in
theorem gX3_keep_X0_valueAt : GoodIn wsX3_keep (wsV RX3 204 RX0 yX0_valueAt wsX0_valueAt) := goodIn_app (goodIn_of _ (by decide +kernel)) ggX3_keep_X0_valueAt
theorem dX3_keep_0 : decode cX3_keep 0 = .ok (.aload_n 0, 1) := by decide +kernel
theorem dX3_keep_1 : decode cX3_keep 1 = .ok (.iload_n 1, 1) := by decide +kernel
theorem dX3_keep_2 : decode cX3_keep 2 = .ok (.invokevirtual 47, 3) := by decide +kernel
theorem dX3_keep_5 : decode cX3_keep 5 = .ok (.astore_n 3, 1) := by decide +kernel
theorem dX3_keep_6 : decode cX3_keep 6 = .ok (.aload_n 3, 1) := by decide +kernel
theorem dX3_keep_7 : decode cX3_keep 7 = .ok (.invokevirtual 79, 3) := by decide +kernel
theorem dX3_keep_10 : decode cX3_keep 10 = .ok (.ifCond .ne 7, 3) := by decide +kernel
theorem dX3_keep_13 : decode cX3_keep 13 = .ok (.sipush (-10000), 3) := by decide +kernel
theorem dX3_keep_16 : decode cX3_keep 16 = .ok (.ireturn, 1) := by decide +kernel
theorem dX3_keep_17 : decode cX3_keep 17 = .ok (.iload_n 2, 1) := by decide +kernel
theorem dX3_keep_18 : decode cX3_keep 18 = .ok (.ifCond .eq 12, 3) := by decide +kernel
theorem dX3_keep_21 : decode cX3_keep 21 = .ok (.aload_n 3, 1) := by decide +kernel
theorem dX3_keep_22 : decode cX3_keep 22 = .ok (.invokevirtual 79, 3) := by decide +kernel
theorem dX3_keep_25 : decode cX3_keep 25 = .ok (.iconst 1, 1) := by decide +kernel
theorem dX3_keep_26 : decode cX3_keep 26 = .ok (.isub, 1) := by decide +kernel
theorem dX3_keep_27 : decode cX3_keep 27 = .ok (.goto 4, 3) := by decide +kernel
theorem dX3_keep_30 : decode cX3_keep 30 = .ok (.iconst 0, 1) := by decide +kernel
theorem dX3_keep_31 : decode cX3_keep 31 = .ok (.istore 4, 2) := by decide +kernel
theorem dX3_keep_33 : decode cX3_keep 33 = .ok (.aload_n 0, 1) := by decide +kernel
theorem dX3_keep_34 : decode cX3_keep 34 = .ok (.aload_n 3, 1) := by decide +kernel
theorem dX3_keep_35 : decode cX3_keep 35 = .ok (.iload 4, 2) := by decide +kernel
theorem dX3_keep_37 : decode cX3_keep 37 = .ok (.invokevirtual 201, 3) := by decide +kernel
theorem dX3_keep_40 : decode cX3_keep 40 = .ok (.putfield 24, 3) := by decide +kernel
theorem dX3_keep_43 : decode cX3_keep 43 = .ok (.aload_n 0, 1) := by decide +kernel
theorem dX3_keep_44 : decode cX3_keep 44 = .ok (.aload_n 3, 1) := by decide +kernel
theorem dX3_keep_45 : decode cX3_keep 45 = .ok (.iload 4, 2) := by decide +kernel
theorem dX3_keep_47 : decode cX3_keep 47 = .ok (.invokevirtual 204, 3) := by decide +kernel
theorem dX3_keep_50 : decode cX3_keep 50 = .ok (.putfield 28, 3) := by decide +kernel
theorem dX3_keep_53 : decode cX3_keep 53 = .ok (.aload_n 0, 1) := by decide +kernel
theorem dX3_keep_54 : decode cX3_keep 54 = .ok (.getfield 24, 3) := by decide +kernel
theorem dX3_keep_57 : decode cX3_keep 57 = .ok (.ireturn, 1) := by decide +kernel
set_option maxRecDepth 20000 in
theorem ggX3_brand_X3_checkValue : GoodIn wsX3_brand wsX3_checkValue := goodIn_ca (goodIn_r _ [5, 6, 7] (by decide +kernel) (by decide +kernel)) (goodIn_sub (fun _ h => List.mem_cons_of_mem _ (List.mem_append_right _ h)) (by decide +kernel))
set_option maxRecDepth 20000 in
theorem gX3_brand_X3_checkValue : GoodIn wsX3_brand (va_wsS RX3 54 yX3_checkValue wsX3_checkValue) := goodIn_app (goodIn_of _ (by decide +kernel)) ggX3_brand_X3_checkValue
theorem dX3_brand_0 : decode cX3_brand 0 = .ok (.iload_n 1, 1) := by decide +kernel
theorem dX3_brand_1 : decode cX3_brand 1 = .ok (.invokestatic 54, 3) := by decide +kernel
theorem dX3_brand_4 : decode cX3_brand 4 = .ok (.aload_n 0, 1) := by decide +kernel
theorem dX3_brand_5 : decode cX3_brand 5 = .ok (.getfield 24, 3) := by decide +kernel
theorem dX3_brand_8 : decode cX3_brand 8 = .ok (.sipush (-10000), 3) := by decide +kernel
theorem dX3_brand_11 : decode cX3_brand 11 = .ok (.if_icmp .ne 9, 3) := by decide +kernel
theorem dX3_brand_14 : decode cX3_brand 14 = .ok (.sipush (-10000), 3) := by decide +kernel
theorem dX3_brand_17 : decode cX3_brand 17 = .ok (.goto 6, 3) := by decide +kernel
theorem dX3_brand_20 : decode cX3_brand 20 = .ok (.sipush (-20000), 3) := by decide +kernel
theorem dX3_brand_23 : decode cX3_brand 23 = .ok (.ireturn, 1) := by decide +kernel
theorem dX3_knock_0 : decode cX3_knock 0 = .ok (.aload_n 0, 1) := by decide +kernel
theorem dX3_knock_1 : decode cX3_knock 1 = .ok (.dup, 1) := by decide +kernel
theorem dX3_knock_2 : decode cX3_knock 2 = .ok (.getfield 207, 3) := by decide +kernel
theorem dX3_knock_5 : decode cX3_knock 5 = .ok (.iconst 1, 1) := by decide +kernel
theorem dX3_knock_6 : decode cX3_knock 6 = .ok (.iadd, 1) := by decide +kernel
theorem dX3_knock_7 : decode cX3_knock 7 = .ok (.putfield 207, 3) := by decide +kernel
theorem dX3_knock_10 : decode cX3_knock 10 = .ok (.aload_n 0, 1) := by decide +kernel
theorem dX3_knock_11 : decode cX3_knock 11 = .ok (.getfield 207, 3) := by decide +kernel
theorem dX3_knock_14 : decode cX3_knock 14 = .ok (.ireturn, 1) := by decide +kernel
set_option maxRecDepth 20000 in
theorem ggX3_get_X3_bookAt : GoodIn wsX3_get wsX3_bookAt := goodIn_ca (goodIn_r _ [5, 6, 7, 8, 47, 48, 49, 50, 51, 52] (by decide +kernel) (by decide +kernel)) (goodIn_sub (fun _ h => List.mem_cons_of_mem _ (List.mem_append_left _ (List.mem_append_right _ h))) (by decide +kernel))
set_option maxRecDepth 20000 in
theorem gX3_get_X3_bookAt : GoodIn wsX3_get (wsV RX3 47 RX3 yX3_bookAt wsX3_bookAt) := goodIn_app (goodIn_of _ (by decide +kernel)) ggX3_get_X3_bookAt
set_option maxRecDepth 20000 in
theorem ggX3_get_X3_checkKey : GoodIn wsX3_get wsX3_checkKey := goodIn_ca (goodIn_r _ [11, 12, 13] (by decide +kernel) (by decide +kernel)) (goodIn_sub (fun _ h => List.mem_cons_of_mem _ (List.mem_append_right _ h)) (by decide +kernel))
set_option maxRecDepth 20000 in
theorem gX3_get_X3_checkKey : GoodIn wsX3_get (va_wsS RX3 51 yX3_checkKey wsX3_checkKey) := goodIn_app (goodIn_of _ (by decide +kernel)) ggX3_get_X3_checkKey
set_option maxRecDepth 20000 in
theorem ggX3_get_X0_valueOf : GoodIn wsX3_get wsX0_valueOf := goodIn_r _ [18, 19, 20, 21, 17, 22, 23, 24, 25, 26, 27, 28, 29, 30, 31, 32, 33, 34, 35, 36, 37, 38, 39, 40, 41, 42, 43, 44, 45, 46, 53, 54, 55, 56, 57, 58, 59] (by decide +kernel) (by decide +kernel)
set_option maxRecDepth 20000 in
theorem gX3_get_X0_valueOf : GoodIn wsX3_get (wsV RX3 43 RX0 yX0_valueOf wsX0_valueOf) := goodIn_app (goodIn_of _ (by decide +kernel)) ggX3_get_X0_valueOf
theorem dX3_get_0 : decode cX3_get 0 = .ok (.aload_n 0, 1) := by decide +kernel
theorem dX3_get_1 : decode cX3_get 1 = .ok (.iload_n 1, 1) := by decide +kernel
theorem dX3_get_2 : decode cX3_get 2 = .ok (.invokevirtual 47, 3) := by decide +kernel
theorem dX3_get_5 : decode cX3_get 5 = .ok (.astore_n 3, 1) := by decide +kernel
theorem dX3_get_6 : decode cX3_get 6 = .ok (.iload_n 2, 1) := by decide +kernel
theorem dX3_get_7 : decode cX3_get 7 = .ok (.invokestatic 51, 3) := by decide +kernel
theorem dX3_get_10 : decode cX3_get 10 = .ok (.aload_n 3, 1) := by decide +kernel
theorem dX3_get_11 : decode cX3_get 11 = .ok (.iload_n 2, 1) := by decide +kernel
theorem dX3_get_12 : decode cX3_get 12 = .ok (.invokevirtual 43, 3) := by decide +kernel
theorem dX3_get_15 : decode cX3_get 15 = .ok (.ireturn, 1) := by decide +kernel
set_option maxRecDepth 20000 in
theorem ggX3_getOr_X3_bookAt : GoodIn wsX3_getOr wsX3_bookAt := goodIn_ca (goodIn_r _ [5, 6, 7, 8, 55, 56, 57, 58, 59, 60] (by decide +kernel) (by decide +kernel)) (goodIn_sub (fun _ h => List.mem_cons_of_mem _ (List.mem_append_left _ (List.mem_append_right _ h))) (by decide +kernel))
set_option maxRecDepth 20000 in
theorem gX3_getOr_X3_bookAt : GoodIn wsX3_getOr (wsV RX3 47 RX3 yX3_bookAt wsX3_bookAt) := goodIn_app (goodIn_of _ (by decide +kernel)) ggX3_getOr_X3_bookAt
set_option maxRecDepth 20000 in
theorem ggX3_getOr_X3_checkKey : GoodIn wsX3_getOr wsX3_checkKey := goodIn_ca (goodIn_r _ [11, 12, 13] (by decide +kernel) (by decide +kernel)) (goodIn_sub (fun _ h => List.mem_cons_of_mem _ (List.mem_append_right _ h)) (by decide +kernel))
set_option maxRecDepth 20000 in
theorem gX3_getOr_X3_checkKey : GoodIn wsX3_getOr (va_wsS RX3 51 yX3_checkKey wsX3_checkKey) := goodIn_app (goodIn_of _ (by decide +kernel)) ggX3_getOr_X3_checkKey
set_option maxRecDepth 20000 in
theorem ggX3_getOr_X3_checkValue : GoodIn wsX3_getOr wsX3_checkValue := goodIn_ca (goodIn_r _ [16, 12, 13] (by decide +kernel) (by decide +kernel)) (goodIn_sub (fun _ h => List.mem_cons_of_mem _ (List.mem_append_right _ h)) (by decide +kernel))
set_option maxRecDepth 20000 in
theorem gX3_getOr_X3_checkValue : GoodIn wsX3_getOr (va_wsS RX3 54 yX3_checkValue wsX3_checkValue) := goodIn_app (goodIn_of _ (by decide +kernel)) ggX3_getOr_X3_checkValue
set_option maxRecDepth 20000 in
theorem ggX3_getOr_X0_holds : GoodIn wsX3_getOr wsX0_holds := goodIn_r _ [21, 22, 23, 24, 20, 25, 26, 27, 28, 29, 30, 31, 32, 33, 34, 35, 36, 37, 38, 39, 40, 41, 42, 43, 44, 45, 46, 47, 48, 49, 50, 51, 52, 53, 61, 62, 63, 64, 65, 66, 67] (by decide +kernel) (by decide +kernel)
set_option maxRecDepth 20000 in
theorem gX3_getOr_X0_holds : GoodIn wsX3_getOr (wsV RX3 39 RX0 yX0_holds wsX0_holds) := goodIn_app (goodIn_of _ (by decide +kernel)) ggX3_getOr_X0_holds
set_option maxRecDepth 20000 in
theorem ggX3_getOr_X0_valueOf : GoodIn wsX3_getOr wsX0_valueOf := goodIn_r _ [25, 26, 27, 28, 20, 29, 30, 31, 32, 33, 34, 35, 36, 37, 38, 39, 40, 41, 42, 43, 44, 45, 46, 47, 48, 49, 50, 51, 52, 53, 61, 62, 63, 64, 65, 66, 67] (by decide +kernel) (by decide +kernel)
set_option maxRecDepth 20000 in
theorem gX3_getOr_X0_valueOf : GoodIn wsX3_getOr (wsV RX3 43 RX0 yX0_valueOf wsX0_valueOf) := goodIn_app (goodIn_of _ (by decide +kernel)) ggX3_getOr_X0_valueOf
theorem dX3_getOr_0 : decode cX3_getOr 0 = .ok (.aload_n 0, 1) := by decide +kernel
theorem dX3_getOr_1 : decode cX3_getOr 1 = .ok (.iload_n 1, 1) := by decide +kernel
theorem dX3_getOr_2 : decode cX3_getOr 2 = .ok (.invokevirtual 47, 3) := by decide +kernel
theorem dX3_getOr_5 : decode cX3_getOr 5 = .ok (.astore 4, 2) := by decide +kernel
theorem dX3_getOr_7 : decode cX3_getOr 7 = .ok (.iload_n 2, 1) := by decide +kernel
theorem dX3_getOr_8 : decode cX3_getOr 8 = .ok (.invokestatic 51, 3) := by decide +kernel
theorem dX3_getOr_11 : decode cX3_getOr 11 = .ok (.iload_n 3, 1) := by decide +kernel
theorem dX3_getOr_12 : decode cX3_getOr 12 = .ok (.invokestatic 54, 3) := by decide +kernel
theorem dX3_getOr_15 : decode cX3_getOr 15 = .ok (.aload 4, 2) := by decide +kernel
theorem dX3_getOr_17 : decode cX3_getOr 17 = .ok (.iload_n 2, 1) := by decide +kernel
theorem dX3_getOr_18 : decode cX3_getOr 18 = .ok (.invokevirtual 39, 3) := by decide +kernel
theorem dX3_getOr_21 : decode cX3_getOr 21 = .ok (.ifCond .eq 12, 3) := by decide +kernel
theorem dX3_getOr_24 : decode cX3_getOr 24 = .ok (.aload 4, 2) := by decide +kernel
theorem dX3_getOr_26 : decode cX3_getOr 26 = .ok (.iload_n 2, 1) := by decide +kernel
theorem dX3_getOr_27 : decode cX3_getOr 27 = .ok (.invokevirtual 43, 3) := by decide +kernel
theorem dX3_getOr_30 : decode cX3_getOr 30 = .ok (.goto 4, 3) := by decide +kernel
theorem dX3_getOr_33 : decode cX3_getOr 33 = .ok (.iload_n 3, 1) := by decide +kernel
theorem dX3_getOr_34 : decode cX3_getOr 34 = .ok (.ireturn, 1) := by decide +kernel
set_option maxRecDepth 20000 in
theorem ggX3_has_X3_bookAt : GoodIn wsX3_has wsX3_bookAt := goodIn_ca (goodIn_r _ [5, 6, 7, 8, 51, 52, 53, 54, 55, 56] (by decide +kernel) (by decide +kernel)) (goodIn_sub (fun _ h => List.mem_cons_of_mem _ (List.mem_append_left _ (List.mem_append_right _ h))) (by decide +kernel))
set_option maxRecDepth 20000 in
theorem gX3_has_X3_bookAt : GoodIn wsX3_has (wsV RX3 47 RX3 yX3_bookAt wsX3_bookAt) := goodIn_app (goodIn_of _ (by decide +kernel)) ggX3_has_X3_bookAt
set_option maxRecDepth 20000 in
theorem ggX3_has_X3_checkKey : GoodIn wsX3_has wsX3_checkKey := goodIn_ca (goodIn_r _ [11, 12, 13] (by decide +kernel) (by decide +kernel)) (goodIn_sub (fun _ h => List.mem_cons_of_mem _ (List.mem_append_right _ h)) (by decide +kernel))
set_option maxRecDepth 20000 in
theorem gX3_has_X3_checkKey : GoodIn wsX3_has (va_wsS RX3 51 yX3_checkKey wsX3_checkKey) := goodIn_app (goodIn_of _ (by decide +kernel)) ggX3_has_X3_checkKey
set_option maxRecDepth 20000 in
theorem ggX3_has_X0_holds : GoodIn wsX3_has wsX0_holds := goodIn_r _ [18, 19, 20, 21, 17, 22, 23, 24, 25, 26, 27, 28, 29, 30, 31, 32, 33, 34, 35, 36, 37, 38, 39, 40, 41, 42, 43, 44, 45, 46, 47, 48, 49, 50, 57, 58, 59, 60, 61, 62, 63] (by decide +kernel) (by decide +kernel)
set_option maxRecDepth 20000 in
theorem gX3_has_X0_holds : GoodIn wsX3_has (wsV RX3 39 RX0 yX0_holds wsX0_holds) := goodIn_app (goodIn_of _ (by decide +kernel)) ggX3_has_X0_holds
theorem dX3_has_0 : decode cX3_has 0 = .ok (.aload_n 0, 1) := by decide +kernel
theorem dX3_has_1 : decode cX3_has 1 = .ok (.iload_n 1, 1) := by decide +kernel
theorem dX3_has_2 : decode cX3_has 2 = .ok (.invokevirtual 47, 3) := by decide +kernel
theorem dX3_has_5 : decode cX3_has 5 = .ok (.astore_n 3, 1) := by decide +kernel
theorem dX3_has_6 : decode cX3_has 6 = .ok (.iload_n 2, 1) := by decide +kernel
theorem dX3_has_7 : decode cX3_has 7 = .ok (.invokestatic 51, 3) := by decide +kernel
theorem dX3_has_10 : decode cX3_has 10 = .ok (.aload_n 3, 1) := by decide +kernel
theorem dX3_has_11 : decode cX3_has 11 = .ok (.iload_n 2, 1) := by decide +kernel
theorem dX3_has_12 : decode cX3_has 12 = .ok (.invokevirtual 39, 3) := by decide +kernel
theorem dX3_has_15 : decode cX3_has 15 = .ok (.ireturn, 1) := by decide +kernel
set_option maxRecDepth 20000 in
theorem ggX3_hasValue_X3_bookAt : GoodIn wsX3_hasValue wsX3_bookAt := goodIn_ca (goodIn_r _ [5, 6, 7, 8, 21, 22, 23, 24, 25, 26] (by decide +kernel) (by decide +kernel)) (goodIn_sub (fun _ h => List.mem_cons_of_mem _ (List.mem_append_left _ (List.mem_append_right _ h))) (by decide +kernel))
set_option maxRecDepth 20000 in
theorem gX3_hasValue_X3_bookAt : GoodIn wsX3_hasValue (wsV RX3 47 RX3 yX3_bookAt wsX3_bookAt) := goodIn_app (goodIn_of _ (by decide +kernel)) ggX3_hasValue_X3_bookAt
set_option maxRecDepth 20000 in
theorem ggX3_hasValue_X3_checkValue : GoodIn wsX3_hasValue wsX3_checkValue := goodIn_ca (goodIn_r _ [11, 12, 13] (by decide +kernel) (by decide +kernel)) (goodIn_sub (fun _ h => List.mem_cons_of_mem _ (List.mem_append_right _ h)) (by decide +kernel))
set_option maxRecDepth 20000 in
theorem gX3_hasValue_X3_checkValue : GoodIn wsX3_hasValue (va_wsS RX3 54 yX3_checkValue wsX3_checkValue) := goodIn_app (goodIn_of _ (by decide +kernel)) ggX3_hasValue_X3_checkValue
set_option maxRecDepth 20000 in
theorem ggX3_hasValue_X0_firstPlaceOfValue : GoodIn wsX3_hasValue wsX0_firstPlaceOfValue := goodIn_r _ [18, 19, 20, 27, 28, 29, 30, 31, 32, 33] (by decide +kernel) (by decide +kernel)
set_option maxRecDepth 20000 in
theorem gX3_hasValue_X0_firstPlaceOfValue : GoodIn wsX3_hasValue (wsV RX3 109 RX0 yX0_firstPlaceOfValue wsX0_firstPlaceOfValue) := goodIn_app (goodIn_of _ (by decide +kernel)) ggX3_hasValue_X0_firstPlaceOfValue
theorem dX3_hasValue_0 : decode cX3_hasValue 0 = .ok (.aload_n 0, 1) := by decide +kernel
theorem dX3_hasValue_1 : decode cX3_hasValue 1 = .ok (.iload_n 1, 1) := by decide +kernel
theorem dX3_hasValue_2 : decode cX3_hasValue 2 = .ok (.invokevirtual 47, 3) := by decide +kernel
theorem dX3_hasValue_5 : decode cX3_hasValue 5 = .ok (.astore_n 3, 1) := by decide +kernel
theorem dX3_hasValue_6 : decode cX3_hasValue 6 = .ok (.iload_n 2, 1) := by decide +kernel
theorem dX3_hasValue_7 : decode cX3_hasValue 7 = .ok (.invokestatic 54, 3) := by decide +kernel
theorem dX3_hasValue_10 : decode cX3_hasValue 10 = .ok (.aload_n 3, 1) := by decide +kernel
theorem dX3_hasValue_11 : decode cX3_hasValue 11 = .ok (.iload_n 2, 1) := by decide +kernel
theorem dX3_hasValue_12 : decode cX3_hasValue 12 = .ok (.invokevirtual 109, 3) := by decide +kernel
theorem dX3_hasValue_15 : decode cX3_hasValue 15 = .ok (.sipush (-10000), 3) := by decide +kernel
theorem dX3_hasValue_18 : decode cX3_hasValue 18 = .ok (.if_icmp .eq 7, 3) := by decide +kernel
theorem dX3_hasValue_21 : decode cX3_hasValue 21 = .ok (.iconst 1, 1) := by decide +kernel
theorem dX3_hasValue_22 : decode cX3_hasValue 22 = .ok (.goto 4, 3) := by decide +kernel
theorem dX3_hasValue_25 : decode cX3_hasValue 25 = .ok (.iconst 0, 1) := by decide +kernel
theorem dX3_hasValue_26 : decode cX3_hasValue 26 = .ok (.ireturn, 1) := by decide +kernel
set_option maxRecDepth 20000 in
theorem ggX3_ofBook_X3_bookAt : GoodIn wsX3_ofBook wsX3_bookAt := goodIn_ca (goodIn_r _ [5, 6, 7, 8, 62, 63, 64, 65, 66, 67] (by decide +kernel) (by decide +kernel)) (goodIn_sub (fun _ h => List.mem_cons_of_mem _ (List.mem_append_left _ (List.mem_append_right _ h))) (by decide +kernel))
set_option maxRecDepth 20000 in
theorem gX3_ofBook_X3_bookAt : GoodIn wsX3_ofBook (wsV RX3 47 RX3 yX3_bookAt wsX3_bookAt) := goodIn_app (goodIn_of _ (by decide +kernel)) ggX3_ofBook_X3_bookAt
set_option maxRecDepth 20000 in
theorem ggX3_ofBook_X3_checkWhat : GoodIn wsX3_ofBook wsX3_checkWhat := goodIn_ca (goodIn_r _ [11, 12, 13] (by decide +kernel) (by decide +kernel)) (goodIn_sub (fun _ h => List.mem_cons_of_mem _ (List.mem_append_right _ h)) (by decide +kernel))
set_option maxRecDepth 20000 in
theorem gX3_ofBook_X3_checkWhat : GoodIn wsX3_ofBook (va_wsS RX3 210 yX3_checkWhat wsX3_checkWhat) := goodIn_app (goodIn_of _ (by decide +kernel)) ggX3_ofBook_X3_checkWhat
set_option maxRecDepth 20000 in
theorem ggX3_ofBook_X0_size : GoodIn wsX3_ofBook wsX0_size := goodIn_r _ [18, 19, 68, 69, 70, 71, 72, 73, 74] (by decide +kernel) (by decide +kernel)
set_option maxRecDepth 20000 in
theorem gX3_ofBook_X0_size : GoodIn wsX3_ofBook (wsV RX3 79 RX0 yX0_size wsX0_size) := goodIn_app (goodIn_of _ (by decide +kernel)) ggX3_ofBook_X0_size
set_option maxRecDepth 20000 in
theorem ggX3_ofBook_X0_order : GoodIn wsX3_ofBook wsX0_order := goodIn_r _ [23, 24, 68, 69, 70, 71, 72, 73, 74] (by decide +kernel) (by decide +kernel)
set_option maxRecDepth 20000 in
theorem gX3_ofBook_X0_order : GoodIn wsX3_ofBook (wsV RX3 213 RX0 yX0_order wsX0_order) := goodIn_app (goodIn_of _ (by decide +kernel)) ggX3_ofBook_X0_order
set_option maxRecDepth 20000 in
theorem ggX3_ofBook_X0_keyAt : GoodIn wsX3_ofBook wsX0_keyAt := goodIn_r _ [28, 29, 30, 31, 32, 17, 33, 19, 68, 69, 70, 71, 72, 73, 74] (by decide +kernel) (by decide +kernel)
set_option maxRecDepth 20000 in
theorem gX3_ofBook_X0_keyAt : GoodIn wsX3_ofBook (wsV RX3 201 RX0 yX0_keyAt wsX0_keyAt) := goodIn_app (goodIn_of _ (by decide +kernel)) ggX3_ofBook_X0_keyAt
set_option maxRecDepth 20000 in
theorem ggX3_ofBook_X0_valueAt : GoodIn wsX3_ofBook wsX0_valueAt := goodIn_r _ [37, 38, 30, 31, 32, 17, 33, 19, 68, 69, 70, 71, 72, 73, 74] (by decide +kernel) (by decide +kernel)
set_option maxRecDepth 20000 in
theorem gX3_ofBook_X0_valueAt : GoodIn wsX3_ofBook (wsV RX3 204 RX0 yX0_valueAt wsX0_valueAt) := goodIn_app (goodIn_of _ (by decide +kernel)) ggX3_ofBook_X0_valueAt
set_option maxRecDepth 20000 in
theorem ggX3_ofBook_X0_sum : GoodIn wsX3_ofBook wsX0_sum := goodIn_r _ [42, 38, 30, 31, 32, 17, 33, 19, 68, 69, 70, 71, 72, 73, 74] (by decide +kernel) (by decide +kernel)
set_option maxRecDepth 20000 in
theorem gX3_ofBook_X0_sum : GoodIn wsX3_ofBook (wsV RX3 216 RX0 yX0_sum wsX0_sum) := goodIn_app (goodIn_of _ (by decide +kernel)) ggX3_ofBook_X0_sum
set_option maxRecDepth 20000 in
theorem ggX3_ofBook_X0_unlikeValues : GoodIn wsX3_ofBook wsX0_unlikeValues := goodIn_r _ [46, 19, 38, 47, 48, 49, 17, 50, 68, 69, 70, 71, 72, 73, 74] (by decide +kernel) (by decide +kernel)
set_option maxRecDepth 20000 in
theorem gX3_ofBook_X0_unlikeValues : GoodIn wsX3_ofBook (wsV RX3 219 RX0 yX0_unlikeValues wsX0_unlikeValues) := goodIn_app (goodIn_of _ (by decide +kernel)) ggX3_ofBook_X0_unlikeValues
set_option maxRecDepth 20000 in
theorem ggX3_ofBook_X3_viewsOnto : GoodIn wsX3_ofBook wsX3_viewsOnto := goodIn_r _ [54, 55, 56, 57, 58, 59, 60, 61, 62, 63, 64, 65, 66, 67, 75, 76, 77, 78, 79, 80, 81] (by decide +kernel) (by decide +kernel)
set_option maxRecDepth 20000 in
theorem gX3_ofBook_X3_viewsOnto : GoodIn wsX3_ofBook (wsV RX3 222 RX3 yX3_viewsOnto wsX3_viewsOnto) := goodIn_app (goodIn_of _ (by decide +kernel)) ggX3_ofBook_X3_viewsOnto
theorem dX3_ofBook_0 : decode cX3_ofBook 0 = .ok (.aload_n 0, 1) := by decide +kernel
theorem dX3_ofBook_1 : decode cX3_ofBook 1 = .ok (.iload_n 1, 1) := by decide +kernel
theorem dX3_ofBook_2 : decode cX3_ofBook 2 = .ok (.invokevirtual 47, 3) := by decide +kernel
theorem dX3_ofBook_5 : decode cX3_ofBook 5 = .ok (.astore_n 3, 1) := by decide +kernel
theorem dX3_ofBook_6 : decode cX3_ofBook 6 = .ok (.iload_n 2, 1) := by decide +kernel
theorem dX3_ofBook_7 : decode cX3_ofBook 7 = .ok (.bipush 8, 2) := by decide +kernel
theorem dX3_ofBook_9 : decode cX3_ofBook 9 = .ok (.invokestatic 210, 3) := by decide +kernel
theorem dX3_ofBook_12 : decode cX3_ofBook 12 = .ok (.iload_n 2, 1) := by decide +kernel
theorem dX3_ofBook_13 : decode cX3_ofBook 13 = .ok (.tableswitch 106 0 7 #[47, 52, 57, 63, 69, 80, 91, 101], 47) := by decide +kernel
theorem dX3_ofBook_60 : decode cX3_ofBook 60 = .ok (.aload_n 3, 1) := by decide +kernel
theorem dX3_ofBook_61 : decode cX3_ofBook 61 = .ok (.invokevirtual 79, 3) := by decide +kernel
theorem dX3_ofBook_64 : decode cX3_ofBook 64 = .ok (.ireturn, 1) := by decide +kernel
theorem dX3_ofBook_65 : decode cX3_ofBook 65 = .ok (.aload_n 3, 1) := by decide +kernel
theorem dX3_ofBook_66 : decode cX3_ofBook 66 = .ok (.invokevirtual 213, 3) := by decide +kernel
theorem dX3_ofBook_69 : decode cX3_ofBook 69 = .ok (.ireturn, 1) := by decide +kernel
theorem dX3_ofBook_70 : decode cX3_ofBook 70 = .ok (.aload_n 3, 1) := by decide +kernel
theorem dX3_ofBook_71 : decode cX3_ofBook 71 = .ok (.iconst 0, 1) := by decide +kernel
theorem dX3_ofBook_72 : decode cX3_ofBook 72 = .ok (.invokevirtual 201, 3) := by decide +kernel
theorem dX3_ofBook_75 : decode cX3_ofBook 75 = .ok (.ireturn, 1) := by decide +kernel
theorem dX3_ofBook_76 : decode cX3_ofBook 76 = .ok (.aload_n 3, 1) := by decide +kernel
theorem dX3_ofBook_77 : decode cX3_ofBook 77 = .ok (.iconst 0, 1) := by decide +kernel
theorem dX3_ofBook_78 : decode cX3_ofBook 78 = .ok (.invokevirtual 204, 3) := by decide +kernel
theorem dX3_ofBook_81 : decode cX3_ofBook 81 = .ok (.ireturn, 1) := by decide +kernel
theorem dX3_ofBook_82 : decode cX3_ofBook 82 = .ok (.aload_n 3, 1) := by decide +kernel
theorem dX3_ofBook_83 : decode cX3_ofBook 83 = .ok (.aload_n 3, 1) := by decide +kernel
theorem dX3_ofBook_84 : decode cX3_ofBook 84 = .ok (.invokevirtual 79, 3) := by decide +kernel
theorem dX3_ofBook_87 : decode cX3_ofBook 87 = .ok (.iconst 1, 1) := by decide +kernel
theorem dX3_ofBook_88 : decode cX3_ofBook 88 = .ok (.isub, 1) := by decide +kernel
theorem dX3_ofBook_89 : decode cX3_ofBook 89 = .ok (.invokevirtual 201, 3) := by decide +kernel
theorem dX3_ofBook_92 : decode cX3_ofBook 92 = .ok (.ireturn, 1) := by decide +kernel
theorem dX3_ofBook_93 : decode cX3_ofBook 93 = .ok (.aload_n 3, 1) := by decide +kernel
theorem dX3_ofBook_94 : decode cX3_ofBook 94 = .ok (.aload_n 3, 1) := by decide +kernel
theorem dX3_ofBook_95 : decode cX3_ofBook 95 = .ok (.invokevirtual 79, 3) := by decide +kernel
theorem dX3_ofBook_98 : decode cX3_ofBook 98 = .ok (.iconst 1, 1) := by decide +kernel
theorem dX3_ofBook_99 : decode cX3_ofBook 99 = .ok (.isub, 1) := by decide +kernel
theorem dX3_ofBook_100 : decode cX3_ofBook 100 = .ok (.invokevirtual 204, 3) := by decide +kernel
theorem dX3_ofBook_103 : decode cX3_ofBook 103 = .ok (.ireturn, 1) := by decide +kernel
theorem dX3_ofBook_104 : decode cX3_ofBook 104 = .ok (.aload_n 3, 1) := by decide +kernel
theorem dX3_ofBook_105 : decode cX3_ofBook 105 = .ok (.iconst 0, 1) := by decide +kernel
theorem dX3_ofBook_106 : decode cX3_ofBook 106 = .ok (.aload_n 3, 1) := by decide +kernel
theorem dX3_ofBook_107 : decode cX3_ofBook 107 = .ok (.invokevirtual 79, 3) := by decide +kernel
theorem dX3_ofBook_110 : decode cX3_ofBook 110 = .ok (.invokevirtual 216, 3) := by decide +kernel
theorem dX3_ofBook_113 : decode cX3_ofBook 113 = .ok (.ireturn, 1) := by decide +kernel
theorem dX3_ofBook_114 : decode cX3_ofBook 114 = .ok (.aload_n 3, 1) := by decide +kernel
theorem dX3_ofBook_115 : decode cX3_ofBook 115 = .ok (.invokevirtual 219, 3) := by decide +kernel
theorem dX3_ofBook_118 : decode cX3_ofBook 118 = .ok (.ireturn, 1) := by decide +kernel
theorem dX3_ofBook_119 : decode cX3_ofBook 119 = .ok (.aload_n 0, 1) := by decide +kernel
theorem dX3_ofBook_120 : decode cX3_ofBook 120 = .ok (.aload_n 3, 1) := by decide +kernel
theorem dX3_ofBook_121 : decode cX3_ofBook 121 = .ok (.invokevirtual 222, 3) := by decide +kernel
theorem dX3_ofBook_124 : decode cX3_ofBook 124 = .ok (.ireturn, 1) := by decide +kernel
set_option maxRecDepth 20000 in
theorem ggX3_near_X3_bookAt : GoodIn wsX3_near wsX3_bookAt := goodIn_ca (goodIn_r _ [5, 6, 7, 8, 69, 70, 71, 72, 73, 74] (by decide +kernel) (by decide +kernel)) (goodIn_sub (fun _ h => List.mem_cons_of_mem _ (List.mem_append_left _ (List.mem_append_right _ h))) (by decide +kernel))
set_option maxRecDepth 20000 in
theorem gX3_near_X3_bookAt : GoodIn wsX3_near (wsV RX3 47 RX3 yX3_bookAt wsX3_bookAt) := goodIn_app (goodIn_of _ (by decide +kernel)) ggX3_near_X3_bookAt
set_option maxRecDepth 20000 in
theorem ggX3_near_X3_checkKey : GoodIn wsX3_near wsX3_checkKey := goodIn_ca (goodIn_r _ [11, 12, 13] (by decide +kernel) (by decide +kernel)) (goodIn_sub (fun _ h => List.mem_cons_of_mem _ (List.mem_append_right _ h)) (by decide +kernel))
set_option maxRecDepth 20000 in
theorem gX3_near_X3_checkKey : GoodIn wsX3_near (va_wsS RX3 51 yX3_checkKey wsX3_checkKey) := goodIn_app (goodIn_of _ (by decide +kernel)) ggX3_near_X3_checkKey
set_option maxRecDepth 20000 in
theorem ggX3_near_X3_checkWhat : GoodIn wsX3_near wsX3_checkWhat := goodIn_ca (goodIn_r _ [16, 12, 13] (by decide +kernel) (by decide +kernel)) (goodIn_sub (fun _ h => List.mem_cons_of_mem _ (List.mem_append_right _ h)) (by decide +kernel))
set_option maxRecDepth 20000 in
theorem gX3_near_X3_checkWhat : GoodIn wsX3_near (va_wsS RX3 210 yX3_checkWhat wsX3_checkWhat) := goodIn_app (goodIn_of _ (by decide +kernel)) ggX3_near_X3_checkWhat
set_option maxRecDepth 20000 in
theorem ggX3_near_X0_size : GoodIn wsX3_near wsX0_size := goodIn_r _ [21, 22, 75, 76, 77, 78, 79, 80, 81] (by decide +kernel) (by decide +kernel)
set_option maxRecDepth 20000 in
theorem gX3_near_X0_size : GoodIn wsX3_near (wsV RX3 79 RX0 yX0_size wsX0_size) := goodIn_app (goodIn_of _ (by decide +kernel)) ggX3_near_X0_size
set_option maxRecDepth 20000 in
theorem ggX3_near_X0_closest : GoodIn wsX3_near wsX0_closest := goodIn_r _ [26, 27, 28, 29, 30, 31, 32, 33, 34, 35, 36, 20, 37, 38, 39, 40, 41, 42, 43, 44, 45, 46, 22, 47, 48, 49, 50, 51, 52, 53, 54, 55, 56, 57, 58, 59, 75, 76, 77, 78, 79, 80, 81] (by decide +kernel) (by decide +kernel)
set_option maxRecDepth 20000 in
theorem gX3_near_X0_closest : GoodIn wsX3_near (wsV RX3 225 RX0 yX0_closest wsX0_closest) := goodIn_app (goodIn_of _ (by decide +kernel)) ggX3_near_X0_closest
set_option maxRecDepth 20000 in
theorem ggX3_near_X0_valueOf : GoodIn wsX3_near wsX0_valueOf := goodIn_r _ [63, 34, 35, 36, 20, 37, 38, 39, 40, 41, 42, 43, 44, 45, 46, 22, 47, 48, 49, 50, 51, 52, 53, 54, 55, 64, 65, 66, 67, 68, 75, 76, 77, 78, 79, 80, 81] (by decide +kernel) (by decide +kernel)
set_option maxRecDepth 20000 in
theorem gX3_near_X0_valueOf : GoodIn wsX3_near (wsV RX3 43 RX0 yX0_valueOf wsX0_valueOf) := goodIn_app (goodIn_of _ (by decide +kernel)) ggX3_near_X0_valueOf
theorem dX3_near_0 : decode cX3_near 0 = .ok (.aload_n 0, 1) := by decide +kernel
theorem dX3_near_1 : decode cX3_near 1 = .ok (.iload_n 1, 1) := by decide +kernel
theorem dX3_near_2 : decode cX3_near 2 = .ok (.invokevirtual 47, 3) := by decide +kernel
theorem dX3_near_5 : decode cX3_near 5 = .ok (.astore 4, 2) := by decide +kernel
theorem dX3_near_7 : decode cX3_near 7 = .ok (.iload_n 2, 1) := by decide +kernel
theorem dX3_near_8 : decode cX3_near 8 = .ok (.invokestatic 51, 3) := by decide +kernel
theorem dX3_near_11 : decode cX3_near 11 = .ok (.iload_n 3, 1) := by decide +kernel
theorem dX3_near_12 : decode cX3_near 12 = .ok (.bipush 7, 2) := by decide +kernel
theorem dX3_near_14 : decode cX3_near 14 = .ok (.invokestatic 210, 3) := by decide +kernel
theorem dX3_near_17 : decode cX3_near 17 = .ok (.aload 4, 2) := by decide +kernel
theorem dX3_near_19 : decode cX3_near 19 = .ok (.iload_n 2, 1) := by decide +kernel
theorem dX3_near_20 : decode cX3_near 20 = .ok (.iload_n 3, 1) := by decide +kernel
theorem dX3_near_21 : decode cX3_near 21 = .ok (.iconst 4, 1) := by decide +kernel
theorem dX3_near_22 : decode cX3_near 22 = .ok (.irem, 1) := by decide +kernel
theorem dX3_near_23 : decode cX3_near 23 = .ok (.iconst 0, 1) := by decide +kernel
theorem dX3_near_24 : decode cX3_near 24 = .ok (.aload 4, 2) := by decide +kernel
theorem dX3_near_26 : decode cX3_near 26 = .ok (.invokevirtual 79, 3) := by decide +kernel
theorem dX3_near_29 : decode cX3_near 29 = .ok (.invokevirtual 225, 3) := by decide +kernel
theorem dX3_near_32 : decode cX3_near 32 = .ok (.istore 5, 2) := by decide +kernel
theorem dX3_near_34 : decode cX3_near 34 = .ok (.iload_n 3, 1) := by decide +kernel
theorem dX3_near_35 : decode cX3_near 35 = .ok (.iconst 4, 1) := by decide +kernel
theorem dX3_near_36 : decode cX3_near 36 = .ok (.if_icmp .ge 8, 3) := by decide +kernel
theorem dX3_near_39 : decode cX3_near 39 = .ok (.iload 5, 2) := by decide +kernel
theorem dX3_near_41 : decode cX3_near 41 = .ok (.goto 10, 3) := by decide +kernel
theorem dX3_near_44 : decode cX3_near 44 = .ok (.aload 4, 2) := by decide +kernel
theorem dX3_near_46 : decode cX3_near 46 = .ok (.iload 5, 2) := by decide +kernel
theorem dX3_near_48 : decode cX3_near 48 = .ok (.invokevirtual 43, 3) := by decide +kernel
theorem dX3_near_51 : decode cX3_near 51 = .ok (.ireturn, 1) := by decide +kernel
set_option maxRecDepth 20000 in
theorem ggX3_place_X3_bookAt : GoodIn wsX3_place wsX3_bookAt := goodIn_ca (goodIn_r _ [5, 6, 7, 8, 30, 31, 32, 33, 34, 35] (by decide +kernel) (by decide +kernel)) (goodIn_sub (fun _ h => List.mem_cons_of_mem _ (List.mem_append_left _ (List.mem_append_right _ h))) (by decide +kernel))
set_option maxRecDepth 20000 in
theorem gX3_place_X3_bookAt : GoodIn wsX3_place (wsV RX3 47 RX3 yX3_bookAt wsX3_bookAt) := goodIn_app (goodIn_of _ (by decide +kernel)) ggX3_place_X3_bookAt
set_option maxRecDepth 20000 in
theorem ggX3_place_X3_checkKey : GoodIn wsX3_place wsX3_checkKey := goodIn_ca (goodIn_r _ [11, 12, 13] (by decide +kernel) (by decide +kernel)) (goodIn_sub (fun _ h => List.mem_cons_of_mem _ (List.mem_append_right _ h)) (by decide +kernel))
set_option maxRecDepth 20000 in
theorem gX3_place_X3_checkKey : GoodIn wsX3_place (va_wsS RX3 51 yX3_checkKey wsX3_checkKey) := goodIn_app (goodIn_of _ (by decide +kernel)) ggX3_place_X3_checkKey
set_option maxRecDepth 20000 in
theorem ggX3_place_X0_placeOf : GoodIn wsX3_place wsX0_placeOf := goodIn_r _ [18, 19, 20, 21, 17, 22, 23, 24, 25, 26, 27, 28, 29, 36, 37, 38, 39, 40, 41, 42] (by decide +kernel) (by decide +kernel)
set_option maxRecDepth 20000 in
theorem gX3_place_X0_placeOf : GoodIn wsX3_place (wsV RX3 229 RX0 yX0_placeOf wsX0_placeOf) := goodIn_app (goodIn_of _ (by decide +kernel)) ggX3_place_X0_placeOf
theorem dX3_place_0 : decode cX3_place 0 = .ok (.aload_n 0, 1) := by decide +kernel
theorem dX3_place_1 : decode cX3_place 1 = .ok (.iload_n 1, 1) := by decide +kernel
theorem dX3_place_2 : decode cX3_place 2 = .ok (.invokevirtual 47, 3) := by decide +kernel
theorem dX3_place_5 : decode cX3_place 5 = .ok (.astore_n 3, 1) := by decide +kernel
theorem dX3_place_6 : decode cX3_place 6 = .ok (.iload_n 2, 1) := by decide +kernel
theorem dX3_place_7 : decode cX3_place 7 = .ok (.invokestatic 51, 3) := by decide +kernel
theorem dX3_place_10 : decode cX3_place 10 = .ok (.aload_n 3, 1) := by decide +kernel
theorem dX3_place_11 : decode cX3_place 11 = .ok (.iload_n 2, 1) := by decide +kernel
theorem dX3_place_12 : decode cX3_place 12 = .ok (.invokevirtual 229, 3) := by decide +kernel
theorem dX3_place_15 : decode cX3_place 15 = .ok (.ireturn, 1) := by decide +kernel
set_option maxRecDepth 20000 in
theorem ggX3_at_X3_bookAt : GoodIn wsX3_at wsX3_bookAt := goodIn_ca (goodIn_r _ [7, 8, 9, 10, 22, 23, 24, 25, 26, 27] (by decide +kernel) (by decide +kernel)) (goodIn_sub (fun _ h => List.mem_cons_of_mem _ (List.mem_append_right _ h)) (by decide +kernel))
set_option maxRecDepth 20000 in
theorem gX3_at_X3_bookAt : GoodIn wsX3_at (wsV RX3 47 RX3 yX3_bookAt wsX3_bookAt) := goodIn_app (goodIn_of _ (by decide +kernel)) ggX3_at_X3_bookAt
set_option maxRecDepth 20000 in
theorem ggX3_at_X0_keyAt : GoodIn wsX3_at wsX0_keyAt := goodIn_r _ [15, 16, 17, 18, 19, 14, 20, 21, 28, 29, 30, 31, 32, 33, 34] (by decide +kernel) (by decide +kernel)
set_option maxRecDepth 20000 in
theorem gX3_at_X0_keyAt : GoodIn wsX3_at (wsV RX3 201 RX0 yX0_keyAt wsX0_keyAt) := goodIn_app (goodIn_of _ (by decide +kernel)) ggX3_at_X0_keyAt
theorem dX3_at_0 : decode cX3_at 0 = .ok (.aload_n 0, 1) := by decide +kernel
theorem dX3_at_1 : decode cX3_at 1 = .ok (.iload_n 1, 1) := by decide +kernel
theorem dX3_at_2 : decode cX3_at 2 = .ok (.invokevirtual 47, 3) := by decide +kernel
theorem dX3_at_5 : decode cX3_at 5 = .ok (.astore_n 3, 1) := by decide +kernel
theorem dX3_at_6 : decode cX3_at 6 = .ok (.iload_n 2, 1) := by decide +kernel
theorem dX3_at_7 : decode cX3_at 7 = .ok (.ifCond .ge 13, 3) := by decide +kernel
theorem dX3_at_10 : decode cX3_at 10 = .ok (.new 86, 3) := by decide +kernel
theorem dX3_at_13 : decode cX3_at 13 = .ok (.dup, 1) := by decide +kernel
theorem dX3_at_14 : decode cX3_at 14 = .ok (.ldc 232, 2) := by decide +kernel
theorem dX3_at_16 : decode cX3_at 16 = .ok (.invokespecial 90, 3) := by decide +kernel
theorem dX3_at_19 : decode cX3_at 19 = .ok (.athrow, 1) := by decide +kernel
theorem dX3_at_20 : decode cX3_at 20 = .ok (.aload_n 3, 1) := by decide +kernel
theorem dX3_at_21 : decode cX3_at 21 = .ok (.iload_n 2, 1) := by decide +kernel
theorem dX3_at_22 : decode cX3_at 22 = .ok (.invokevirtual 201, 3) := by decide +kernel
theorem dX3_at_25 : decode cX3_at 25 = .ok (.ireturn, 1) := by decide +kernel
set_option maxRecDepth 20000 in
theorem ggX3_row_X3_bookAt : GoodIn wsX3_row wsX3_bookAt := goodIn_ca (goodIn_r _ [5, 6, 7, 8, 291, 292, 293, 294, 295, 296] (by decide +kernel) (by decide +kernel)) (goodIn_sub (fun _ h => List.mem_cons_of_mem _ (List.mem_append_right _ h)) (by decide +kernel))
set_option maxRecDepth 20000 in
theorem gX3_row_X3_bookAt : GoodIn wsX3_row (wsV RX3 47 RX3 yX3_bookAt wsX3_bookAt) := goodIn_app (goodIn_of _ (by decide +kernel)) ggX3_row_X3_bookAt
set_option maxRecDepth 20000 in
theorem ggX3_row_X0_size : GoodIn wsX3_row wsX0_size := goodIn_r _ [13, 14, 297, 298, 299, 300, 301, 302, 303] (by decide +kernel) (by decide +kernel)
set_option maxRecDepth 20000 in
theorem gX3_row_X0_size : GoodIn wsX3_row (wsV RX3 79 RX0 yX0_size wsX0_size) := goodIn_app (goodIn_of _ (by decide +kernel)) ggX3_row_X0_size
set_option maxRecDepth 20000 in
theorem ggX3_row_X0_text : GoodIn wsX3_row wsX0_text := goodIn_r _ [18, 19, 20, 21, 22, 23, 24, 25, 26, 27, 28, 29, 30, 31, 32, 33, 34, 35, 36, 37, 38, 39, 40, 41, 42, 43, 44, 45, 46, 47, 48, 49, 50, 51, 52, 53, 54, 55, 56, 57, 58, 59, 60, 61, 62, 63, 64, 65, 66, 67, 68, 69, 70, 71, 72, 73, 74, 75, 76, 77, 78, 79, 80, 81, 82, 83, 84, 85, 86, 87, 88, 89, 90, 91, 92, 93, 94, 95, 96, 97, 98, 99, 100, 101, 102, 103, 104, 105, 106, 107, 108, 109, 110, 111, 112, 113, 114, 115, 116, 117, 118, 119, 120, 121, 122, 123, 124, 125, 126, 127, 128, 129, 130, 131, 132, 133, 134, 135, 136, 137, 138, 139, 140, 141, 142, 143, 144, 145, 146, 147, 148, 149, 150, 151, 152, 153, 154, 155, 156, 157, 158, 159, 160, 161, 162, 163, 164, 165, 166, 167, 168, 169, 170, 171, 172, 173, 174, 175, 176, 177, 178, 179, 180, 181, 182, 183, 184, 185, 186, 187, 188, 189, 190, 191, 192, 193, 194, 195, 196, 197, 198, 199, 200, 201, 202, 12, 203, 204, 205, 206, 207, 208, 14, 209, 210, 211, 212, 213, 214, 215, 216, 217, 218, 219, 220, 221, 222, 223, 224, 225, 226, 227, 228, 229, 230, 231, 232, 233, 234, 235, 236, 237, 238, 239, 240, 241, 242, 243, 244, 245, 246, 247, 248, 249, 250, 251, 252, 253, 254, 255, 256, 257, 258, 259, 260, 261, 262, 263, 264, 265, 266, 267, 268, 269, 270, 271, 272, 273, 274, 275, 276, 277, 278, 279, 280, 281, 282, 283, 284, 285, 286, 287, 288, 289, 290, 304, 305, 306, 307, 308, 309, 310, 311, 297, 298, 299, 300, 301, 302, 303] (by decide +kernel) (by decide +kernel)
set_option maxRecDepth 20000 in
theorem gX3_row_X0_text : GoodIn wsX3_row (wsV RX3 234 RX0 yX0_text wsX0_text) := goodIn_app (goodIn_of _ (by decide +kernel)) ggX3_row_X0_text
theorem dX3_row_0 : decode cX3_row 0 = .ok (.aload_n 0, 1) := by decide +kernel
theorem dX3_row_1 : decode cX3_row 1 = .ok (.iload_n 1, 1) := by decide +kernel
theorem dX3_row_2 : decode cX3_row 2 = .ok (.invokevirtual 47, 3) := by decide +kernel
theorem dX3_row_5 : decode cX3_row 5 = .ok (.astore_n 2, 1) := by decide +kernel
theorem dX3_row_6 : decode cX3_row 6 = .ok (.aload_n 2, 1) := by decide +kernel
theorem dX3_row_7 : decode cX3_row 7 = .ok (.iconst 0, 1) := by decide +kernel
theorem dX3_row_8 : decode cX3_row 8 = .ok (.aload_n 2, 1) := by decide +kernel
theorem dX3_row_9 : decode cX3_row 9 = .ok (.invokevirtual 79, 3) := by decide +kernel
theorem dX3_row_12 : decode cX3_row 12 = .ok (.invokevirtual 234, 3) := by decide +kernel
theorem dX3_row_15 : decode cX3_row 15 = .ok (.areturn, 1) := by decide +kernel
set_option maxRecDepth 20000 in
theorem ggX3_same_X3_bookAt : GoodIn wsX3_same wsX3_bookAt := goodIn_ca (goodIn_r _ [5, 6, 7, 8, 50, 51, 52, 53, 54, 55] (by decide +kernel) (by decide +kernel)) (goodIn_sub (fun _ h => List.mem_cons_of_mem _ (List.mem_append_right _ h)) (by decide +kernel))
set_option maxRecDepth 20000 in
theorem gX3_same_X3_bookAt : GoodIn wsX3_same (wsV RX3 47 RX3 yX3_bookAt wsX3_bookAt) := goodIn_app (goodIn_of _ (by decide +kernel)) ggX3_same_X3_bookAt
set_option maxRecDepth 20000 in
theorem ggX3_same_X0_isLike : GoodIn wsX3_same wsX0_isLike := goodIn_r _ [13, 14, 15, 16, 17, 18, 19, 12, 20, 21, 22, 23, 24, 25, 26, 27, 28, 29, 30, 31, 32, 33, 34, 35, 36, 37, 38, 39, 40, 41, 42, 43, 44, 45, 46, 47, 48, 49, 56, 57, 58, 59, 60, 61, 62] (by decide +kernel) (by decide +kernel)
set_option maxRecDepth 20000 in
theorem gX3_same_X0_isLike : GoodIn wsX3_same (wsV RX3 238 RX0 yX0_isLike wsX0_isLike) := goodIn_app (goodIn_of _ (by decide +kernel)) ggX3_same_X0_isLike
theorem dX3_same_0 : decode cX3_same 0 = .ok (.aload_n 0, 1) := by decide +kernel
theorem dX3_same_1 : decode cX3_same 1 = .ok (.iload_n 1, 1) := by decide +kernel
theorem dX3_same_2 : decode cX3_same 2 = .ok (.invokevirtual 47, 3) := by decide +kernel
theorem dX3_same_5 : decode cX3_same 5 = .ok (.astore_n 3, 1) := by decide +kernel
theorem dX3_same_6 : decode cX3_same 6 = .ok (.aload_n 3, 1) := by decide +kernel
theorem dX3_same_7 : decode cX3_same 7 = .ok (.aload_n 0, 1) := by decide +kernel
theorem dX3_same_8 : decode cX3_same 8 = .ok (.iload_n 2, 1) := by decide +kernel
theorem dX3_same_9 : decode cX3_same 9 = .ok (.invokevirtual 47, 3) := by decide +kernel
theorem dX3_same_12 : decode cX3_same 12 = .ok (.invokevirtual 238, 3) := by decide +kernel
theorem dX3_same_15 : decode cX3_same 15 = .ok (.ireturn, 1) := by decide +kernel
set_option maxRecDepth 20000 in
theorem ggX3_viewGet_X3_viewAt : GoodIn wsX3_viewGet wsX3_viewAt := goodIn_ca (goodIn_r _ [5, 6, 7, 8, 60, 61, 62, 63, 64, 65] (by decide +kernel) (by decide +kernel)) (goodIn_sub (fun _ h => List.mem_cons_of_mem _ (List.mem_append_left _ (List.mem_append_right _ h))) (by decide +kernel))
set_option maxRecDepth 20000 in
theorem gX3_viewGet_X3_viewAt : GoodIn wsX3_viewGet (wsV RX3 158 RX3 yX3_viewAt wsX3_viewAt) := goodIn_app (goodIn_of _ (by decide +kernel)) ggX3_viewGet_X3_viewAt
set_option maxRecDepth 20000 in
theorem ggX3_viewGet_X3_checkKey : GoodIn wsX3_viewGet wsX3_checkKey := goodIn_ca (goodIn_r _ [11, 12, 13] (by decide +kernel) (by decide +kernel)) (goodIn_sub (fun _ h => List.mem_cons_of_mem _ (List.mem_append_right _ h)) (by decide +kernel))
set_option maxRecDepth 20000 in
theorem gX3_viewGet_X3_checkKey : GoodIn wsX3_viewGet (va_wsS RX3 51 yX3_checkKey wsX3_checkKey) := goodIn_app (goodIn_of _ (by decide +kernel)) ggX3_viewGet_X3_checkKey
set_option maxRecDepth 20000 in
theorem ggX3_viewGet_X1_isWithin : GoodIn wsX3_viewGet wsX1_isWithin := goodIn_r _ [18, 19, 20, 21, 22, 23, 24, 25, 26, 27, 66, 67, 68, 69, 70, 71, 72, 73, 74, 75, 76, 77, 78, 79] (by decide +kernel) (by decide +kernel)
set_option maxRecDepth 20000 in
theorem gX3_viewGet_X1_isWithin : GoodIn wsX3_viewGet (wsV RX3 162 RX1 yX1_isWithin wsX1_isWithin) := goodIn_app (goodIn_of _ (by decide +kernel)) ggX3_viewGet_X1_isWithin
set_option maxRecDepth 20000 in
theorem ggX3_viewGet_X1_book : GoodIn wsX3_viewGet wsX1_book := goodIn_r _ [31, 19, 66, 67, 68, 69, 70, 71, 72] (by decide +kernel) (by decide +kernel)
set_option maxRecDepth 20000 in
theorem gX3_viewGet_X1_book : GoodIn wsX3_viewGet (wsV RX3 165 RX1 yX1_book wsX1_book) := goodIn_app (goodIn_of _ (by decide +kernel)) ggX3_viewGet_X1_book
set_option maxRecDepth 20000 in
theorem ggX3_viewGet_X0_valueOf : GoodIn wsX3_viewGet wsX0_valueOf := goodIn_r _ [35, 36, 37, 38, 25, 39, 40, 23, 24, 26, 27, 41, 42, 43, 44, 45, 46, 47, 48, 49, 50, 51, 52, 53, 54, 55, 56, 57, 58, 59, 73, 74, 75, 76, 77, 78, 79] (by decide +kernel) (by decide +kernel)
set_option maxRecDepth 20000 in
theorem gX3_viewGet_X0_valueOf : GoodIn wsX3_viewGet (wsV RX3 43 RX0 yX0_valueOf wsX0_valueOf) := goodIn_app (goodIn_of _ (by decide +kernel)) ggX3_viewGet_X0_valueOf
theorem dX3_viewGet_0 : decode cX3_viewGet 0 = .ok (.aload_n 0, 1) := by decide +kernel
theorem dX3_viewGet_1 : decode cX3_viewGet 1 = .ok (.iload_n 1, 1) := by decide +kernel
theorem dX3_viewGet_2 : decode cX3_viewGet 2 = .ok (.invokevirtual 158, 3) := by decide +kernel
theorem dX3_viewGet_5 : decode cX3_viewGet 5 = .ok (.astore_n 3, 1) := by decide +kernel
theorem dX3_viewGet_6 : decode cX3_viewGet 6 = .ok (.iload_n 2, 1) := by decide +kernel
theorem dX3_viewGet_7 : decode cX3_viewGet 7 = .ok (.invokestatic 51, 3) := by decide +kernel
theorem dX3_viewGet_10 : decode cX3_viewGet 10 = .ok (.aload_n 3, 1) := by decide +kernel
theorem dX3_viewGet_11 : decode cX3_viewGet 11 = .ok (.iload_n 2, 1) := by decide +kernel
theorem dX3_viewGet_12 : decode cX3_viewGet 12 = .ok (.invokevirtual 162, 3) := by decide +kernel
theorem dX3_viewGet_15 : decode cX3_viewGet 15 = .ok (.ifCond .eq 14, 3) := by decide +kernel
theorem dX3_viewGet_18 : decode cX3_viewGet 18 = .ok (.aload_n 3, 1) := by decide +kernel
theorem dX3_viewGet_19 : decode cX3_viewGet 19 = .ok (.invokevirtual 165, 3) := by decide +kernel
theorem dX3_viewGet_22 : decode cX3_viewGet 22 = .ok (.iload_n 2, 1) := by decide +kernel
theorem dX3_viewGet_23 : decode cX3_viewGet 23 = .ok (.invokevirtual 43, 3) := by decide +kernel
theorem dX3_viewGet_26 : decode cX3_viewGet 26 = .ok (.goto 6, 3) := by decide +kernel
theorem dX3_viewGet_29 : decode cX3_viewGet 29 = .ok (.sipush (-10000), 3) := by decide +kernel
theorem dX3_viewGet_32 : decode cX3_viewGet 32 = .ok (.ireturn, 1) := by decide +kernel
set_option maxRecDepth 20000 in
theorem ggX3_ofView_X3_viewAt : GoodIn wsX3_ofView wsX3_viewAt := goodIn_ca (goodIn_r _ [5, 6, 7, 8, 86, 87, 88, 89, 90, 91] (by decide +kernel) (by decide +kernel)) (goodIn_sub (fun _ h => List.mem_cons_of_mem _ (List.mem_append_left _ (List.mem_append_right _ h))) (by decide +kernel))
set_option maxRecDepth 20000 in
theorem gX3_ofView_X3_viewAt : GoodIn wsX3_ofView (wsV RX3 158 RX3 yX3_viewAt wsX3_viewAt) := goodIn_app (goodIn_of _ (by decide +kernel)) ggX3_ofView_X3_viewAt
set_option maxRecDepth 20000 in
theorem ggX3_ofView_X3_checkWhat : GoodIn wsX3_ofView wsX3_checkWhat := goodIn_ca (goodIn_r _ [11, 12, 13] (by decide +kernel) (by decide +kernel)) (goodIn_sub (fun _ h => List.mem_cons_of_mem _ (List.mem_append_right _ h)) (by decide +kernel))
set_option maxRecDepth 20000 in
theorem gX3_ofView_X3_checkWhat : GoodIn wsX3_ofView (va_wsS RX3 210 yX3_checkWhat wsX3_checkWhat) := goodIn_app (goodIn_of _ (by decide +kernel)) ggX3_ofView_X3_checkWhat
set_option maxRecDepth 20000 in
theorem ggX3_ofView_X1_size : GoodIn wsX3_ofView wsX1_size := goodIn_r _ [18, 19, 20, 21, 17, 22, 23, 24, 25, 26, 27, 28, 29, 30, 31, 32, 33, 34, 35, 36, 37, 38, 39, 40, 41, 92, 93, 94, 95, 96, 97, 98, 99, 100, 101, 102, 103, 104, 105] (by decide +kernel) (by decide +kernel)
set_option maxRecDepth 20000 in
theorem gX3_ofView_X1_size : GoodIn wsX3_ofView (wsV RX3 166 RX1 yX1_size wsX1_size) := goodIn_app (goodIn_of _ (by decide +kernel)) ggX3_ofView_X1_size
set_option maxRecDepth 20000 in
theorem ggX3_ofView_X1_book : GoodIn wsX3_ofView wsX1_book := goodIn_r _ [45, 23, 92, 93, 94, 95, 96, 97, 98] (by decide +kernel) (by decide +kernel)
set_option maxRecDepth 20000 in
theorem gX3_ofView_X1_book : GoodIn wsX3_ofView (wsV RX3 165 RX1 yX1_book wsX1_book) := goodIn_app (goodIn_of _ (by decide +kernel)) ggX3_ofView_X1_book
set_option maxRecDepth 20000 in
theorem ggX3_ofView_X0_number : GoodIn wsX3_ofView wsX0_number := goodIn_r _ [49, 50, 99, 100, 101, 102, 103, 104, 105] (by decide +kernel) (by decide +kernel)
set_option maxRecDepth 20000 in
theorem gX3_ofView_X0_number : GoodIn wsX3_ofView (wsV RX3 242 RX0 yX0_number wsX0_number) := goodIn_app (goodIn_of _ (by decide +kernel)) ggX3_ofView_X0_number
set_option maxRecDepth 20000 in
theorem ggX3_ofView_X1_lowerBound : GoodIn wsX3_ofView wsX1_lowerBound := goodIn_r _ [54, 55, 92, 93, 94, 95, 96, 97, 98] (by decide +kernel) (by decide +kernel)
set_option maxRecDepth 20000 in
theorem gX3_ofView_X1_lowerBound : GoodIn wsX3_ofView (wsV RX3 245 RX1 yX1_lowerBound wsX1_lowerBound) := goodIn_app (goodIn_of _ (by decide +kernel)) ggX3_ofView_X1_lowerBound
set_option maxRecDepth 20000 in
theorem ggX3_ofView_X1_upperBound : GoodIn wsX3_ofView wsX1_upperBound := goodIn_r _ [59, 60, 92, 93, 94, 95, 96, 97, 98] (by decide +kernel) (by decide +kernel)
set_option maxRecDepth 20000 in
theorem gX3_ofView_X1_upperBound : GoodIn wsX3_ofView (wsV RX3 248 RX1 yX1_upperBound wsX1_upperBound) := goodIn_app (goodIn_of _ (by decide +kernel)) ggX3_ofView_X1_upperBound
set_option maxRecDepth 20000 in
theorem ggX3_ofView_X1_isLowerIn : GoodIn wsX3_ofView wsX1_isLowerIn := goodIn_r _ [64, 65, 92, 93, 94, 95, 96, 97, 98] (by decide +kernel) (by decide +kernel)
set_option maxRecDepth 20000 in
theorem gX3_ofView_X1_isLowerIn : GoodIn wsX3_ofView (wsV RX3 251 RX1 yX1_isLowerIn wsX1_isLowerIn) := goodIn_app (goodIn_of _ (by decide +kernel)) ggX3_ofView_X1_isLowerIn
set_option maxRecDepth 20000 in
theorem ggX3_ofView_X1_isUpperIn : GoodIn wsX3_ofView wsX1_isUpperIn := goodIn_r _ [69, 70, 92, 93, 94, 95, 96, 97, 98] (by decide +kernel) (by decide +kernel)
set_option maxRecDepth 20000 in
theorem gX3_ofView_X1_isUpperIn : GoodIn wsX3_ofView (wsV RX3 254 RX1 yX1_isUpperIn wsX1_isUpperIn) := goodIn_app (goodIn_of _ (by decide +kernel)) ggX3_ofView_X1_isUpperIn
set_option maxRecDepth 20000 in
theorem ggX3_ofView_X1_start : GoodIn wsX3_ofView wsX1_start := goodIn_r _ [40, 23, 41, 25, 26, 27, 28, 29, 30, 31, 32, 33, 34, 35, 36, 92, 93, 94, 95, 96, 97, 98, 99, 100, 101, 102, 103, 104, 105] (by decide +kernel) (by decide +kernel)
set_option maxRecDepth 20000 in
theorem gX3_ofView_X1_start : GoodIn wsX3_ofView (wsV RX3 174 RX1 yX1_start wsX1_start) := goodIn_app (goodIn_of _ (by decide +kernel)) ggX3_ofView_X1_start
set_option maxRecDepth 20000 in
theorem ggX3_ofView_X0_keyAt : GoodIn wsX3_ofView wsX0_keyAt := goodIn_r _ [75, 31, 76, 77, 78, 28, 79, 30, 99, 100, 101, 102, 103, 104, 105] (by decide +kernel) (by decide +kernel)
set_option maxRecDepth 20000 in
theorem gX3_ofView_X0_keyAt : GoodIn wsX3_ofView (wsV RX3 201 RX0 yX0_keyAt wsX0_keyAt) := goodIn_app (goodIn_of _ (by decide +kernel)) ggX3_ofView_X0_keyAt
set_option maxRecDepth 20000 in
theorem ggX3_ofView_X1_end : GoodIn wsX3_ofView wsX1_end := goodIn_r _ [22, 23, 24, 25, 26, 27, 28, 29, 30, 31, 32, 33, 34, 35, 36, 92, 93, 94, 95, 96, 97, 98, 99, 100, 101, 102, 103, 104, 105] (by decide +kernel) (by decide +kernel)
set_option maxRecDepth 20000 in
theorem gX3_ofView_X1_end : GoodIn wsX3_ofView (wsV RX3 171 RX1 yX1_end wsX1_end) := goodIn_app (goodIn_of _ (by decide +kernel)) ggX3_ofView_X1_end
set_option maxRecDepth 20000 in
theorem ggX3_ofView_X0_sum : GoodIn wsX3_ofView wsX0_sum := goodIn_r _ [84, 85, 76, 77, 78, 28, 79, 30, 99, 100, 101, 102, 103, 104, 105] (by decide +kernel) (by decide +kernel)
set_option maxRecDepth 20000 in
theorem gX3_ofView_X0_sum : GoodIn wsX3_ofView (wsV RX3 216 RX0 yX0_sum wsX0_sum) := goodIn_app (goodIn_of _ (by decide +kernel)) ggX3_ofView_X0_sum
theorem dX3_ofView_0 : decode cX3_ofView 0 = .ok (.aload_n 0, 1) := by decide +kernel
theorem dX3_ofView_1 : decode cX3_ofView 1 = .ok (.iload_n 1, 1) := by decide +kernel
theorem dX3_ofView_2 : decode cX3_ofView 2 = .ok (.invokevirtual 158, 3) := by decide +kernel
theorem dX3_ofView_5 : decode cX3_ofView 5 = .ok (.astore_n 3, 1) := by decide +kernel
theorem dX3_ofView_6 : decode cX3_ofView 6 = .ok (.iload_n 2, 1) := by decide +kernel
theorem dX3_ofView_7 : decode cX3_ofView 7 = .ok (.bipush 8, 2) := by decide +kernel
theorem dX3_ofView_9 : decode cX3_ofView 9 = .ok (.invokestatic 210, 3) := by decide +kernel
theorem dX3_ofView_12 : decode cX3_ofView 12 = .ok (.iload_n 2, 1) := by decide +kernel
theorem dX3_ofView_13 : decode cX3_ofView 13 = .ok (.tableswitch 148 0 7 #[47, 52, 60, 65, 70, 83, 96, 121], 47) := by decide +kernel
theorem dX3_ofView_60 : decode cX3_ofView 60 = .ok (.aload_n 3, 1) := by decide +kernel
theorem dX3_ofView_61 : decode cX3_ofView 61 = .ok (.invokevirtual 166, 3) := by decide +kernel
theorem dX3_ofView_64 : decode cX3_ofView 64 = .ok (.ireturn, 1) := by decide +kernel
theorem dX3_ofView_65 : decode cX3_ofView 65 = .ok (.aload_n 3, 1) := by decide +kernel
theorem dX3_ofView_66 : decode cX3_ofView 66 = .ok (.invokevirtual 165, 3) := by decide +kernel
theorem dX3_ofView_69 : decode cX3_ofView 69 = .ok (.invokevirtual 242, 3) := by decide +kernel
theorem dX3_ofView_72 : decode cX3_ofView 72 = .ok (.ireturn, 1) := by decide +kernel
theorem dX3_ofView_73 : decode cX3_ofView 73 = .ok (.aload_n 3, 1) := by decide +kernel
theorem dX3_ofView_74 : decode cX3_ofView 74 = .ok (.invokevirtual 245, 3) := by decide +kernel
theorem dX3_ofView_77 : decode cX3_ofView 77 = .ok (.ireturn, 1) := by decide +kernel
theorem dX3_ofView_78 : decode cX3_ofView 78 = .ok (.aload_n 3, 1) := by decide +kernel
theorem dX3_ofView_79 : decode cX3_ofView 79 = .ok (.invokevirtual 248, 3) := by decide +kernel
theorem dX3_ofView_82 : decode cX3_ofView 82 = .ok (.ireturn, 1) := by decide +kernel
theorem dX3_ofView_83 : decode cX3_ofView 83 = .ok (.aload_n 3, 1) := by decide +kernel
theorem dX3_ofView_84 : decode cX3_ofView 84 = .ok (.invokevirtual 251, 3) := by decide +kernel
theorem dX3_ofView_87 : decode cX3_ofView 87 = .ok (.ifCond .eq 7, 3) := by decide +kernel
theorem dX3_ofView_90 : decode cX3_ofView 90 = .ok (.iconst 1, 1) := by decide +kernel
theorem dX3_ofView_91 : decode cX3_ofView 91 = .ok (.goto 4, 3) := by decide +kernel
theorem dX3_ofView_94 : decode cX3_ofView 94 = .ok (.iconst 0, 1) := by decide +kernel
theorem dX3_ofView_95 : decode cX3_ofView 95 = .ok (.ireturn, 1) := by decide +kernel
theorem dX3_ofView_96 : decode cX3_ofView 96 = .ok (.aload_n 3, 1) := by decide +kernel
theorem dX3_ofView_97 : decode cX3_ofView 97 = .ok (.invokevirtual 254, 3) := by decide +kernel
theorem dX3_ofView_100 : decode cX3_ofView 100 = .ok (.ifCond .eq 7, 3) := by decide +kernel
theorem dX3_ofView_103 : decode cX3_ofView 103 = .ok (.iconst 1, 1) := by decide +kernel
theorem dX3_ofView_104 : decode cX3_ofView 104 = .ok (.goto 4, 3) := by decide +kernel
theorem dX3_ofView_107 : decode cX3_ofView 107 = .ok (.iconst 0, 1) := by decide +kernel
theorem dX3_ofView_108 : decode cX3_ofView 108 = .ok (.ireturn, 1) := by decide +kernel
theorem dX3_ofView_109 : decode cX3_ofView 109 = .ok (.aload_n 3, 1) := by decide +kernel
theorem dX3_ofView_110 : decode cX3_ofView 110 = .ok (.invokevirtual 166, 3) := by decide +kernel
theorem dX3_ofView_113 : decode cX3_ofView 113 = .ok (.ifCond .ne 9, 3) := by decide +kernel
theorem dX3_ofView_116 : decode cX3_ofView 116 = .ok (.sipush (-10000), 3) := by decide +kernel
theorem dX3_ofView_119 : decode cX3_ofView 119 = .ok (.goto 14, 3) := by decide +kernel
theorem dX3_ofView_122 : decode cX3_ofView 122 = .ok (.aload_n 3, 1) := by decide +kernel
theorem dX3_ofView_123 : decode cX3_ofView 123 = .ok (.invokevirtual 165, 3) := by decide +kernel
theorem dX3_ofView_126 : decode cX3_ofView 126 = .ok (.aload_n 3, 1) := by decide +kernel
theorem dX3_ofView_127 : decode cX3_ofView 127 = .ok (.invokevirtual 174, 3) := by decide +kernel
theorem dX3_ofView_130 : decode cX3_ofView 130 = .ok (.invokevirtual 201, 3) := by decide +kernel
theorem dX3_ofView_133 : decode cX3_ofView 133 = .ok (.ireturn, 1) := by decide +kernel
theorem dX3_ofView_134 : decode cX3_ofView 134 = .ok (.aload_n 3, 1) := by decide +kernel
theorem dX3_ofView_135 : decode cX3_ofView 135 = .ok (.invokevirtual 166, 3) := by decide +kernel
theorem dX3_ofView_138 : decode cX3_ofView 138 = .ok (.ifCond .ne 9, 3) := by decide +kernel
theorem dX3_ofView_141 : decode cX3_ofView 141 = .ok (.sipush (-10000), 3) := by decide +kernel
theorem dX3_ofView_144 : decode cX3_ofView 144 = .ok (.goto 16, 3) := by decide +kernel
theorem dX3_ofView_147 : decode cX3_ofView 147 = .ok (.aload_n 3, 1) := by decide +kernel
theorem dX3_ofView_148 : decode cX3_ofView 148 = .ok (.invokevirtual 165, 3) := by decide +kernel
theorem dX3_ofView_151 : decode cX3_ofView 151 = .ok (.aload_n 3, 1) := by decide +kernel
theorem dX3_ofView_152 : decode cX3_ofView 152 = .ok (.invokevirtual 171, 3) := by decide +kernel
theorem dX3_ofView_155 : decode cX3_ofView 155 = .ok (.iconst 1, 1) := by decide +kernel
theorem dX3_ofView_156 : decode cX3_ofView 156 = .ok (.isub, 1) := by decide +kernel
theorem dX3_ofView_157 : decode cX3_ofView 157 = .ok (.invokevirtual 201, 3) := by decide +kernel
theorem dX3_ofView_160 : decode cX3_ofView 160 = .ok (.ireturn, 1) := by decide +kernel
theorem dX3_ofView_161 : decode cX3_ofView 161 = .ok (.aload_n 3, 1) := by decide +kernel
theorem dX3_ofView_162 : decode cX3_ofView 162 = .ok (.invokevirtual 165, 3) := by decide +kernel
theorem dX3_ofView_165 : decode cX3_ofView 165 = .ok (.aload_n 3, 1) := by decide +kernel
theorem dX3_ofView_166 : decode cX3_ofView 166 = .ok (.invokevirtual 174, 3) := by decide +kernel
theorem dX3_ofView_169 : decode cX3_ofView 169 = .ok (.aload_n 3, 1) := by decide +kernel
theorem dX3_ofView_170 : decode cX3_ofView 170 = .ok (.invokevirtual 171, 3) := by decide +kernel
theorem dX3_ofView_173 : decode cX3_ofView 173 = .ok (.invokevirtual 216, 3) := by decide +kernel
theorem dX3_ofView_176 : decode cX3_ofView 176 = .ok (.ireturn, 1) := by decide +kernel
set_option maxRecDepth 20000 in
theorem ggX3_viewNear_X3_viewAt : GoodIn wsX3_viewNear wsX3_viewAt := goodIn_ca (goodIn_r _ [5, 6, 7, 8, 73, 74, 75, 76, 77, 78] (by decide +kernel) (by decide +kernel)) (goodIn_sub (fun _ h => List.mem_cons_of_mem _ (List.mem_append_left _ (List.mem_append_right _ h))) (by decide +kernel))
set_option maxRecDepth 20000 in
theorem gX3_viewNear_X3_viewAt : GoodIn wsX3_viewNear (wsV RX3 158 RX3 yX3_viewAt wsX3_viewAt) := goodIn_app (goodIn_of _ (by decide +kernel)) ggX3_viewNear_X3_viewAt
set_option maxRecDepth 20000 in
theorem ggX3_viewNear_X3_checkKey : GoodIn wsX3_viewNear wsX3_checkKey := goodIn_ca (goodIn_r _ [11, 12, 13] (by decide +kernel) (by decide +kernel)) (goodIn_sub (fun _ h => List.mem_cons_of_mem _ (List.mem_append_right _ h)) (by decide +kernel))
set_option maxRecDepth 20000 in
theorem gX3_viewNear_X3_checkKey : GoodIn wsX3_viewNear (va_wsS RX3 51 yX3_checkKey wsX3_checkKey) := goodIn_app (goodIn_of _ (by decide +kernel)) ggX3_viewNear_X3_checkKey
set_option maxRecDepth 20000 in
theorem ggX3_viewNear_X3_checkWhat : GoodIn wsX3_viewNear wsX3_checkWhat := goodIn_ca (goodIn_r _ [16, 12, 13] (by decide +kernel) (by decide +kernel)) (goodIn_sub (fun _ h => List.mem_cons_of_mem _ (List.mem_append_right _ h)) (by decide +kernel))
set_option maxRecDepth 20000 in
theorem gX3_viewNear_X3_checkWhat : GoodIn wsX3_viewNear (va_wsS RX3 210 yX3_checkWhat wsX3_checkWhat) := goodIn_app (goodIn_of _ (by decide +kernel)) ggX3_viewNear_X3_checkWhat
set_option maxRecDepth 20000 in
theorem ggX3_viewNear_X1_book : GoodIn wsX3_viewNear wsX1_book := goodIn_r _ [21, 22, 79, 80, 81, 82, 83, 84, 85] (by decide +kernel) (by decide +kernel)
set_option maxRecDepth 20000 in
theorem gX3_viewNear_X1_book : GoodIn wsX3_viewNear (wsV RX3 165 RX1 yX1_book wsX1_book) := goodIn_app (goodIn_of _ (by decide +kernel)) ggX3_viewNear_X1_book
set_option maxRecDepth 20000 in
theorem ggX3_viewNear_X1_start : GoodIn wsX3_viewNear wsX1_start := goodIn_r _ [26, 22, 27, 28, 29, 30, 31, 32, 33, 34, 35, 36, 37, 38, 39, 79, 80, 81, 82, 83, 84, 85, 86, 87, 88, 89, 90, 91, 92] (by decide +kernel) (by decide +kernel)
set_option maxRecDepth 20000 in
theorem gX3_viewNear_X1_start : GoodIn wsX3_viewNear (wsV RX3 174 RX1 yX1_start wsX1_start) := goodIn_app (goodIn_of _ (by decide +kernel)) ggX3_viewNear_X1_start
set_option maxRecDepth 20000 in
theorem ggX3_viewNear_X1_end : GoodIn wsX3_viewNear wsX1_end := goodIn_r _ [43, 22, 44, 28, 29, 30, 31, 32, 33, 34, 35, 36, 37, 38, 39, 79, 80, 81, 82, 83, 84, 85, 86, 87, 88, 89, 90, 91, 92] (by decide +kernel) (by decide +kernel)
set_option maxRecDepth 20000 in
theorem gX3_viewNear_X1_end : GoodIn wsX3_viewNear (wsV RX3 171 RX1 yX1_end wsX1_end) := goodIn_app (goodIn_of _ (by decide +kernel)) ggX3_viewNear_X1_end
set_option maxRecDepth 20000 in
theorem ggX3_viewNear_X0_closest : GoodIn wsX3_viewNear wsX0_closest := goodIn_r _ [48, 49, 50, 51, 52, 53, 54, 55, 56, 57, 58, 31, 59, 35, 36, 37, 38, 39, 60, 29, 30, 32, 33, 34, 61, 62, 63, 64, 65, 66, 67, 68, 69, 70, 71, 72, 86, 87, 88, 89, 90, 91, 92] (by decide +kernel) (by decide +kernel)
set_option maxRecDepth 20000 in
theorem gX3_viewNear_X0_closest : GoodIn wsX3_viewNear (wsV RX3 225 RX0 yX0_closest wsX0_closest) := goodIn_app (goodIn_of _ (by decide +kernel)) ggX3_viewNear_X0_closest
theorem dX3_viewNear_0 : decode cX3_viewNear 0 = .ok (.aload_n 0, 1) := by decide +kernel
theorem dX3_viewNear_1 : decode cX3_viewNear 1 = .ok (.iload_n 1, 1) := by decide +kernel
theorem dX3_viewNear_2 : decode cX3_viewNear 2 = .ok (.invokevirtual 158, 3) := by decide +kernel
theorem dX3_viewNear_5 : decode cX3_viewNear 5 = .ok (.astore 4, 2) := by decide +kernel
theorem dX3_viewNear_7 : decode cX3_viewNear 7 = .ok (.iload_n 2, 1) := by decide +kernel
theorem dX3_viewNear_8 : decode cX3_viewNear 8 = .ok (.invokestatic 51, 3) := by decide +kernel
theorem dX3_viewNear_11 : decode cX3_viewNear 11 = .ok (.iload_n 3, 1) := by decide +kernel
theorem dX3_viewNear_12 : decode cX3_viewNear 12 = .ok (.iconst 3, 1) := by decide +kernel
theorem dX3_viewNear_13 : decode cX3_viewNear 13 = .ok (.invokestatic 210, 3) := by decide +kernel
theorem dX3_viewNear_16 : decode cX3_viewNear 16 = .ok (.aload 4, 2) := by decide +kernel
theorem dX3_viewNear_18 : decode cX3_viewNear 18 = .ok (.invokevirtual 165, 3) := by decide +kernel
theorem dX3_viewNear_21 : decode cX3_viewNear 21 = .ok (.iload_n 2, 1) := by decide +kernel
theorem dX3_viewNear_22 : decode cX3_viewNear 22 = .ok (.iload_n 3, 1) := by decide +kernel
theorem dX3_viewNear_23 : decode cX3_viewNear 23 = .ok (.aload 4, 2) := by decide +kernel
theorem dX3_viewNear_25 : decode cX3_viewNear 25 = .ok (.invokevirtual 174, 3) := by decide +kernel
theorem dX3_viewNear_28 : decode cX3_viewNear 28 = .ok (.aload 4, 2) := by decide +kernel
theorem dX3_viewNear_30 : decode cX3_viewNear 30 = .ok (.invokevirtual 171, 3) := by decide +kernel
theorem dX3_viewNear_33 : decode cX3_viewNear 33 = .ok (.invokevirtual 225, 3) := by decide +kernel
theorem dX3_viewNear_36 : decode cX3_viewNear 36 = .ok (.ireturn, 1) := by decide +kernel
set_option maxRecDepth 20000 in
theorem ggX3_viewRow_X3_viewAt : GoodIn wsX3_viewRow wsX3_viewAt := goodIn_ca (goodIn_r _ [5, 6, 7, 8, 312, 313, 314, 315, 316, 317] (by decide +kernel) (by decide +kernel)) (goodIn_sub (fun _ h => List.mem_cons_of_mem _ (List.mem_append_right _ h)) (by decide +kernel))
set_option maxRecDepth 20000 in
theorem gX3_viewRow_X3_viewAt : GoodIn wsX3_viewRow (wsV RX3 158 RX3 yX3_viewAt wsX3_viewAt) := goodIn_app (goodIn_of _ (by decide +kernel)) ggX3_viewRow_X3_viewAt
set_option maxRecDepth 20000 in
theorem ggX3_viewRow_X1_book : GoodIn wsX3_viewRow wsX1_book := goodIn_r _ [13, 14, 318, 319, 320, 321, 322, 323, 324] (by decide +kernel) (by decide +kernel)
set_option maxRecDepth 20000 in
theorem gX3_viewRow_X1_book : GoodIn wsX3_viewRow (wsV RX3 165 RX1 yX1_book wsX1_book) := goodIn_app (goodIn_of _ (by decide +kernel)) ggX3_viewRow_X1_book
set_option maxRecDepth 20000 in
theorem ggX3_viewRow_X1_start : GoodIn wsX3_viewRow wsX1_start := goodIn_r _ [18, 14, 19, 20, 21, 22, 23, 24, 25, 26, 27, 28, 29, 30, 31, 318, 319, 320, 321, 322, 323, 324, 325, 326, 327, 328, 329, 330, 331] (by decide +kernel) (by decide +kernel)
set_option maxRecDepth 20000 in
theorem gX3_viewRow_X1_start : GoodIn wsX3_viewRow (wsV RX3 174 RX1 yX1_start wsX1_start) := goodIn_app (goodIn_of _ (by decide +kernel)) ggX3_viewRow_X1_start
set_option maxRecDepth 20000 in
theorem ggX3_viewRow_X1_end : GoodIn wsX3_viewRow wsX1_end := goodIn_r _ [35, 14, 36, 20, 21, 22, 23, 24, 25, 26, 27, 28, 29, 30, 31, 318, 319, 320, 321, 322, 323, 324, 325, 326, 327, 328, 329, 330, 331] (by decide +kernel) (by decide +kernel)
set_option maxRecDepth 20000 in
theorem gX3_viewRow_X1_end : GoodIn wsX3_viewRow (wsV RX3 171 RX1 yX1_end wsX1_end) := goodIn_app (goodIn_of _ (by decide +kernel)) ggX3_viewRow_X1_end
set_option maxRecDepth 20000 in
theorem ggX3_viewRow_X0_text : GoodIn wsX3_viewRow wsX0_text := goodIn_r _ [40, 41, 42, 43, 44, 45, 46, 47, 48, 49, 50, 51, 52, 53, 54, 55, 56, 57, 58, 59, 60, 61, 62, 63, 64, 65, 66, 67, 68, 69, 70, 71, 72, 73, 74, 75, 76, 77, 78, 79, 80, 81, 82, 83, 84, 85, 86, 87, 88, 89, 90, 91, 92, 93, 94, 95, 96, 97, 98, 99, 100, 101, 102, 103, 104, 105, 106, 107, 108, 109, 110, 111, 112, 113, 114, 115, 116, 117, 118, 119, 120, 121, 122, 123, 124, 125, 126, 127, 128, 129, 130, 131, 132, 133, 134, 135, 136, 137, 138, 139, 140, 141, 142, 143, 144, 145, 146, 147, 148, 149, 150, 151, 152, 153, 154, 155, 156, 157, 158, 159, 160, 161, 162, 163, 164, 165, 166, 167, 168, 169, 170, 171, 172, 173, 174, 175, 176, 177, 178, 179, 180, 181, 182, 183, 184, 185, 186, 187, 188, 189, 190, 191, 192, 193, 194, 195, 196, 197, 198, 199, 200, 201, 202, 203, 204, 205, 206, 207, 208, 209, 210, 211, 212, 213, 214, 215, 216, 217, 218, 219, 220, 221, 222, 223, 224, 23, 225, 26, 226, 227, 228, 229, 25, 230, 231, 232, 233, 234, 235, 236, 237, 238, 239, 240, 241, 242, 243, 244, 245, 246, 247, 248, 249, 250, 251, 252, 253, 254, 255, 256, 257, 258, 259, 260, 261, 262, 263, 264, 265, 266, 267, 268, 269, 270, 271, 272, 273, 274, 275, 276, 277, 278, 279, 280, 281, 282, 283, 284, 285, 286, 287, 288, 289, 290, 291, 292, 293, 294, 295, 296, 297, 298, 299, 300, 301, 302, 303, 304, 305, 306, 307, 308, 309, 310, 311, 332, 333, 334, 335, 336, 337, 338, 339, 325, 326, 327, 328, 329, 330, 331] (by decide +kernel) (by decide +kernel)
set_option maxRecDepth 20000 in
theorem gX3_viewRow_X0_text : GoodIn wsX3_viewRow (wsV RX3 234 RX0 yX0_text wsX0_text) := goodIn_app (goodIn_of _ (by decide +kernel)) ggX3_viewRow_X0_text
theorem dX3_viewRow_0 : decode cX3_viewRow 0 = .ok (.aload_n 0, 1) := by decide +kernel
theorem dX3_viewRow_1 : decode cX3_viewRow 1 = .ok (.iload_n 1, 1) := by decide +kernel
theorem dX3_viewRow_2 : decode cX3_viewRow 2 = .ok (.invokevirtual 158, 3) := by decide +kernel
theorem dX3_viewRow_5 : decode cX3_viewRow 5 = .ok (.astore_n 2, 1) := by decide +kernel
theorem dX3_viewRow_6 : decode cX3_viewRow 6 = .ok (.aload_n 2, 1) := by decide +kernel
theorem dX3_viewRow_7 : decode cX3_viewRow 7 = .ok (.invokevirtual 165, 3) := by decide +kernel
theorem dX3_viewRow_10 : decode cX3_viewRow 10 = .ok (.aload_n 2, 1) := by decide +kernel
theorem dX3_viewRow_11 : decode cX3_viewRow 11 = .ok (.invokevirtual 174, 3) := by decide +kernel
theorem dX3_viewRow_14 : decode cX3_viewRow 14 = .ok (.aload_n 2, 1) := by decide +kernel
theorem dX3_viewRow_15 : decode cX3_viewRow 15 = .ok (.invokevirtual 171, 3) := by decide +kernel
theorem dX3_viewRow_18 : decode cX3_viewRow 18 = .ok (.invokevirtual 234, 3) := by decide +kernel
theorem dX3_viewRow_21 : decode cX3_viewRow 21 = .ok (.areturn, 1) := by decide +kernel
set_option maxRecDepth 20000 in
theorem ggX3_ledger_X3_checkWhat : GoodIn wsX3_ledger wsX3_checkWhat := goodIn_ca (goodIn_r _ [8, 9, 10] (by decide +kernel) (by decide +kernel)) (goodIn_sub (fun _ h => List.mem_cons_of_mem _ (List.mem_append_right _ h)) (by decide +kernel))
set_option maxRecDepth 20000 in
theorem gX3_ledger_X3_checkWhat : GoodIn wsX3_ledger (va_wsS RX3 210 yX3_checkWhat wsX3_checkWhat) := goodIn_app (goodIn_of _ (by decide +kernel)) ggX3_ledger_X3_checkWhat
set_option maxRecDepth 20000 in
theorem ggX3_ledger_X3_openViews : GoodIn wsX3_ledger wsX3_openViews := goodIn_r _ [14, 15, 57, 58, 59, 60, 61, 62] (by decide +kernel) (by decide +kernel)
set_option maxRecDepth 20000 in
theorem gX3_ledger_X3_openViews : GoodIn wsX3_ledger (wsV RX3 257 RX3 yX3_openViews wsX3_openViews) := goodIn_app (goodIn_of _ (by decide +kernel)) ggX3_ledger_X3_openViews
set_option maxRecDepth 20000 in
theorem ggX3_ledger_X2_book : GoodIn wsX3_ledger wsX2_book := goodIn_r _ [20, 21, 22, 23, 24, 25, 26, 27, 63, 64, 65, 66, 67, 68, 69, 70, 71, 72, 73, 74] (by decide +kernel) (by decide +kernel)
set_option maxRecDepth 20000 in
theorem gX3_ledger_X2_book : GoodIn wsX3_ledger (wsV RX3 130 RX2 yX2_book wsX2_book) := goodIn_app (goodIn_of _ (by decide +kernel)) ggX3_ledger_X2_book
set_option maxRecDepth 20000 in
theorem ggX3_ledger_X0_number : GoodIn wsX3_ledger wsX0_number := goodIn_r _ [32, 33, 75, 76, 77, 78, 79, 80, 81] (by decide +kernel) (by decide +kernel)
set_option maxRecDepth 20000 in
theorem gX3_ledger_X0_number : GoodIn wsX3_ledger (wsV RX3 242 RX0 yX0_number wsX0_number) := goodIn_app (goodIn_of _ (by decide +kernel)) ggX3_ledger_X0_number
set_option maxRecDepth 20000 in
theorem ggX3_ledger_X2_isBroken : GoodIn wsX3_ledger wsX2_isBroken := goodIn_r _ [37, 38, 39, 17, 18, 19, 20, 21, 22, 23, 24, 25, 26, 27, 40, 41, 42, 31, 43, 44, 63, 64, 65, 66, 67, 68, 69, 70, 71, 72, 73, 74, 75, 76, 77, 78, 79, 80, 81] (by decide +kernel) (by decide +kernel)
set_option maxRecDepth 20000 in
theorem gX3_ledger_X2_isBroken : GoodIn wsX3_ledger (wsV RX3 260 RX2 yX2_isBroken wsX2_isBroken) := goodIn_app (goodIn_of _ (by decide +kernel)) ggX3_ledger_X2_isBroken
set_option maxRecDepth 20000 in
theorem ggX3_ledger_X2_keyAtHand : GoodIn wsX3_ledger wsX2_keyAtHand := goodIn_r _ [48, 49, 50, 51, 39, 17, 18, 19, 20, 21, 22, 23, 24, 25, 26, 27, 52, 53, 54, 31, 55, 56, 63, 64, 65, 66, 67, 68, 69, 70, 71, 72, 73, 74, 75, 76, 77, 78, 79, 80, 81] (by decide +kernel) (by decide +kernel)
set_option maxRecDepth 20000 in
theorem gX3_ledger_X2_keyAtHand : GoodIn wsX3_ledger (wsV RX3 187 RX2 yX2_keyAtHand wsX2_keyAtHand) := goodIn_app (goodIn_of _ (by decide +kernel)) ggX3_ledger_X2_keyAtHand
theorem dX3_ledger_0 : decode cX3_ledger 0 = .ok (.iload_n 1, 1) := by decide +kernel
theorem dX3_ledger_1 : decode cX3_ledger 1 = .ok (.bipush 6, 2) := by decide +kernel
theorem dX3_ledger_3 : decode cX3_ledger 3 = .ok (.invokestatic 210, 3) := by decide +kernel
theorem dX3_ledger_6 : decode cX3_ledger 6 = .ok (.iload_n 1, 1) := by decide +kernel
theorem dX3_ledger_7 : decode cX3_ledger 7 = .ok (.tableswitch 120 0 5 #[37, 42, 66, 89, 110, 115], 37) := by decide +kernel
theorem dX3_ledger_44 : decode cX3_ledger 44 = .ok (.aload_n 0, 1) := by decide +kernel
theorem dX3_ledger_45 : decode cX3_ledger 45 = .ok (.invokevirtual 257, 3) := by decide +kernel
theorem dX3_ledger_48 : decode cX3_ledger 48 = .ok (.ireturn, 1) := by decide +kernel
theorem dX3_ledger_49 : decode cX3_ledger 49 = .ok (.aload_n 0, 1) := by decide +kernel
theorem dX3_ledger_50 : decode cX3_ledger 50 = .ok (.getfield 126, 3) := by decide +kernel
theorem dX3_ledger_53 : decode cX3_ledger 53 = .ok (.ifnonnull 9, 3) := by decide +kernel
theorem dX3_ledger_56 : decode cX3_ledger 56 = .ok (.sipush (-10000), 3) := by decide +kernel
theorem dX3_ledger_59 : decode cX3_ledger 59 = .ok (.goto 13, 3) := by decide +kernel
theorem dX3_ledger_62 : decode cX3_ledger 62 = .ok (.aload_n 0, 1) := by decide +kernel
theorem dX3_ledger_63 : decode cX3_ledger 63 = .ok (.getfield 126, 3) := by decide +kernel
theorem dX3_ledger_66 : decode cX3_ledger 66 = .ok (.invokevirtual 130, 3) := by decide +kernel
theorem dX3_ledger_69 : decode cX3_ledger 69 = .ok (.invokevirtual 242, 3) := by decide +kernel
theorem dX3_ledger_72 : decode cX3_ledger 72 = .ok (.ireturn, 1) := by decide +kernel
theorem dX3_ledger_73 : decode cX3_ledger 73 = .ok (.aload_n 0, 1) := by decide +kernel
theorem dX3_ledger_74 : decode cX3_ledger 74 = .ok (.getfield 126, 3) := by decide +kernel
theorem dX3_ledger_77 : decode cX3_ledger 77 = .ok (.ifnull 17, 3) := by decide +kernel
theorem dX3_ledger_80 : decode cX3_ledger 80 = .ok (.aload_n 0, 1) := by decide +kernel
theorem dX3_ledger_81 : decode cX3_ledger 81 = .ok (.getfield 126, 3) := by decide +kernel
theorem dX3_ledger_84 : decode cX3_ledger 84 = .ok (.invokevirtual 260, 3) := by decide +kernel
theorem dX3_ledger_87 : decode cX3_ledger 87 = .ok (.ifCond .eq 7, 3) := by decide +kernel
theorem dX3_ledger_90 : decode cX3_ledger 90 = .ok (.iconst 1, 1) := by decide +kernel
theorem dX3_ledger_91 : decode cX3_ledger 91 = .ok (.goto 4, 3) := by decide +kernel
theorem dX3_ledger_94 : decode cX3_ledger 94 = .ok (.iconst 0, 1) := by decide +kernel
theorem dX3_ledger_95 : decode cX3_ledger 95 = .ok (.ireturn, 1) := by decide +kernel
theorem dX3_ledger_96 : decode cX3_ledger 96 = .ok (.aload_n 0, 1) := by decide +kernel
theorem dX3_ledger_97 : decode cX3_ledger 97 = .ok (.getfield 126, 3) := by decide +kernel
theorem dX3_ledger_100 : decode cX3_ledger 100 = .ok (.ifnonnull 9, 3) := by decide +kernel
theorem dX3_ledger_103 : decode cX3_ledger 103 = .ok (.sipush (-10000), 3) := by decide +kernel
theorem dX3_ledger_106 : decode cX3_ledger 106 = .ok (.goto 10, 3) := by decide +kernel
theorem dX3_ledger_109 : decode cX3_ledger 109 = .ok (.aload_n 0, 1) := by decide +kernel
theorem dX3_ledger_110 : decode cX3_ledger 110 = .ok (.getfield 126, 3) := by decide +kernel
theorem dX3_ledger_113 : decode cX3_ledger 113 = .ok (.invokevirtual 187, 3) := by decide +kernel
theorem dX3_ledger_116 : decode cX3_ledger 116 = .ok (.ireturn, 1) := by decide +kernel
theorem dX3_ledger_117 : decode cX3_ledger 117 = .ok (.aload_n 0, 1) := by decide +kernel
theorem dX3_ledger_118 : decode cX3_ledger 118 = .ok (.getfield 24, 3) := by decide +kernel
theorem dX3_ledger_121 : decode cX3_ledger 121 = .ok (.ireturn, 1) := by decide +kernel
theorem dX3_ledger_122 : decode cX3_ledger 122 = .ok (.aload_n 0, 1) := by decide +kernel
theorem dX3_ledger_123 : decode cX3_ledger 123 = .ok (.getfield 28, 3) := by decide +kernel
theorem dX3_ledger_126 : decode cX3_ledger 126 = .ok (.ireturn, 1) := by decide +kernel
theorem dX3_ledger_127 : decode cX3_ledger 127 = .ok (.aload_n 0, 1) := by decide +kernel
theorem dX3_ledger_128 : decode cX3_ledger 128 = .ok (.getfield 207, 3) := by decide +kernel
theorem dX3_ledger_131 : decode cX3_ledger 131 = .ok (.ireturn, 1) := by decide +kernel
set_option maxRecDepth 20000 in
theorem ggX3_isSound_X1_isSoundView : GoodIn wsX3_isSound wsX1_isSoundView := goodIn_r _ [7, 8, 9, 10, 11, 6, 12, 13, 14, 15, 16, 17, 18, 19, 20, 21, 22, 23, 24, 25, 26, 27, 28, 29, 30, 31, 32, 33, 34, 35, 36, 37, 38, 39, 40, 41, 42, 43, 44, 45, 46, 47, 105, 106, 107, 108, 109, 110, 111, 112, 113, 114, 115, 116, 117, 118] (by decide +kernel) (by decide +kernel)
set_option maxRecDepth 20000 in
theorem gX3_isSound_X1_isSoundView : GoodIn wsX3_isSound (wsV RX3 263 RX1 yX1_isSoundView wsX1_isSoundView) := goodIn_app (goodIn_of _ (by decide +kernel)) ggX3_isSound_X1_isSoundView
set_option maxRecDepth 20000 in
theorem ggX3_isSound_X0_isInOrder : GoodIn wsX3_isSound wsX0_isInOrder := goodIn_r _ [51, 19, 52, 36, 37, 17, 38, 20, 39, 40, 41, 42, 53, 54, 55, 56, 21, 22, 23, 24, 25, 57, 58, 59, 60, 61, 62, 63, 64, 65, 66, 67, 68, 69, 70, 71, 72, 15, 16, 18, 73, 74, 75, 76, 112, 113, 114, 115, 116, 117, 118] (by decide +kernel) (by decide +kernel)
set_option maxRecDepth 20000 in
theorem gX3_isSound_X0_isInOrder : GoodIn wsX3_isSound (wsV RX3 266 RX0 yX0_isInOrder wsX0_isInOrder) := goodIn_app (goodIn_of _ (by decide +kernel)) ggX3_isSound_X0_isInOrder
set_option maxRecDepth 20000 in
theorem ggX3_isSound_X0_isLike : GoodIn wsX3_isSound wsX0_isLike := goodIn_r _ [80, 19, 20, 81, 82, 32, 33, 17, 34, 83, 84, 85, 86, 68, 69, 70, 71, 21, 22, 23, 24, 25, 72, 15, 16, 18, 52, 36, 37, 38, 39, 40, 41, 42, 87, 88, 89, 90, 112, 113, 114, 115, 116, 117, 118] (by decide +kernel) (by decide +kernel)
set_option maxRecDepth 20000 in
theorem gX3_isSound_X0_isLike : GoodIn wsX3_isSound (wsV RX3 238 RX0 yX0_isLike wsX0_isLike) := goodIn_app (goodIn_of _ (by decide +kernel)) ggX3_isSound_X0_isLike
set_option maxRecDepth 20000 in
theorem ggX3_isSound_X0_hasSameTotals : GoodIn wsX3_isSound wsX0_hasSameTotals := goodIn_r _ [94, 19, 82, 32, 33, 17, 34, 95, 96, 97, 98, 81, 39, 40, 41, 42, 112, 113, 114, 115, 116, 117, 118] (by decide +kernel) (by decide +kernel)
set_option maxRecDepth 20000 in
theorem gX3_isSound_X0_hasSameTotals : GoodIn wsX3_isSound (wsV RX3 269 RX0 yX0_hasSameTotals wsX0_hasSameTotals) := goodIn_app (goodIn_of _ (by decide +kernel)) ggX3_isSound_X0_hasSameTotals
theorem dX3_isSound_0 : decode cX3_isSound 0 = .ok (.iconst 0, 1) := by decide +kernel
theorem dX3_isSound_1 : decode cX3_isSound 1 = .ok (.istore_n 1, 1) := by decide +kernel
theorem dX3_isSound_2 : decode cX3_isSound 2 = .ok (.iload_n 1, 1) := by decide +kernel
theorem dX3_isSound_3 : decode cX3_isSound 3 = .ok (.aload_n 0, 1) := by decide +kernel
theorem dX3_isSound_4 : decode cX3_isSound 4 = .ok (.getfield 20, 3) := by decide +kernel
theorem dX3_isSound_7 : decode cX3_isSound 7 = .ok (.arraylength, 1) := by decide +kernel
theorem dX3_isSound_8 : decode cX3_isSound 8 = .ok (.if_icmp .ge 32, 3) := by decide +kernel
theorem dX3_isSound_11 : decode cX3_isSound 11 = .ok (.aload_n 0, 1) := by decide +kernel
theorem dX3_isSound_12 : decode cX3_isSound 12 = .ok (.getfield 20, 3) := by decide +kernel
theorem dX3_isSound_15 : decode cX3_isSound 15 = .ok (.iload_n 1, 1) := by decide +kernel
theorem dX3_isSound_16 : decode cX3_isSound 16 = .ok (.aaload, 1) := by decide +kernel
theorem dX3_isSound_17 : decode cX3_isSound 17 = .ok (.ifnull 17, 3) := by decide +kernel
theorem dX3_isSound_20 : decode cX3_isSound 20 = .ok (.aload_n 0, 1) := by decide +kernel
theorem dX3_isSound_21 : decode cX3_isSound 21 = .ok (.getfield 20, 3) := by decide +kernel
theorem dX3_isSound_24 : decode cX3_isSound 24 = .ok (.iload_n 1, 1) := by decide +kernel
theorem dX3_isSound_25 : decode cX3_isSound 25 = .ok (.aaload, 1) := by decide +kernel
theorem dX3_isSound_26 : decode cX3_isSound 26 = .ok (.invokevirtual 263, 3) := by decide +kernel
theorem dX3_isSound_29 : decode cX3_isSound 29 = .ok (.ifCond .ne 5, 3) := by decide +kernel
theorem dX3_isSound_32 : decode cX3_isSound 32 = .ok (.iconst 0, 1) := by decide +kernel
theorem dX3_isSound_33 : decode cX3_isSound 33 = .ok (.ireturn, 1) := by decide +kernel
theorem dX3_isSound_34 : decode cX3_isSound 34 = .ok (.iinc 1 1, 3) := by decide +kernel
theorem dX3_isSound_37 : decode cX3_isSound 37 = .ok (.goto (-35), 3) := by decide +kernel
theorem dX3_isSound_40 : decode cX3_isSound 40 = .ok (.iconst 0, 1) := by decide +kernel
theorem dX3_isSound_41 : decode cX3_isSound 41 = .ok (.istore_n 1, 1) := by decide +kernel
theorem dX3_isSound_42 : decode cX3_isSound 42 = .ok (.iload_n 1, 1) := by decide +kernel
theorem dX3_isSound_43 : decode cX3_isSound 43 = .ok (.aload_n 0, 1) := by decide +kernel
theorem dX3_isSound_44 : decode cX3_isSound 44 = .ok (.getfield 11, 3) := by decide +kernel
theorem dX3_isSound_47 : decode cX3_isSound 47 = .ok (.arraylength, 1) := by decide +kernel
theorem dX3_isSound_48 : decode cX3_isSound 48 = .ok (.if_icmp .ge 78, 3) := by decide +kernel
theorem dX3_isSound_51 : decode cX3_isSound 51 = .ok (.aload_n 0, 1) := by decide +kernel
theorem dX3_isSound_52 : decode cX3_isSound 52 = .ok (.getfield 11, 3) := by decide +kernel
theorem dX3_isSound_55 : decode cX3_isSound 55 = .ok (.iload_n 1, 1) := by decide +kernel
theorem dX3_isSound_56 : decode cX3_isSound 56 = .ok (.aaload, 1) := by decide +kernel
theorem dX3_isSound_57 : decode cX3_isSound 57 = .ok (.invokevirtual 266, 3) := by decide +kernel
theorem dX3_isSound_60 : decode cX3_isSound 60 = .ok (.ifCond .ne 5, 3) := by decide +kernel
theorem dX3_isSound_63 : decode cX3_isSound 63 = .ok (.iconst 0, 1) := by decide +kernel
theorem dX3_isSound_64 : decode cX3_isSound 64 = .ok (.ireturn, 1) := by decide +kernel
theorem dX3_isSound_65 : decode cX3_isSound 65 = .ok (.iconst 0, 1) := by decide +kernel
theorem dX3_isSound_66 : decode cX3_isSound 66 = .ok (.istore_n 2, 1) := by decide +kernel
theorem dX3_isSound_67 : decode cX3_isSound 67 = .ok (.iload_n 2, 1) := by decide +kernel
theorem dX3_isSound_68 : decode cX3_isSound 68 = .ok (.aload_n 0, 1) := by decide +kernel
theorem dX3_isSound_69 : decode cX3_isSound 69 = .ok (.getfield 11, 3) := by decide +kernel
theorem dX3_isSound_72 : decode cX3_isSound 72 = .ok (.arraylength, 1) := by decide +kernel
theorem dX3_isSound_73 : decode cX3_isSound 73 = .ok (.if_icmp .ge 47, 3) := by decide +kernel
theorem dX3_isSound_76 : decode cX3_isSound 76 = .ok (.aload_n 0, 1) := by decide +kernel
theorem dX3_isSound_77 : decode cX3_isSound 77 = .ok (.getfield 11, 3) := by decide +kernel
theorem dX3_isSound_80 : decode cX3_isSound 80 = .ok (.iload_n 1, 1) := by decide +kernel
theorem dX3_isSound_81 : decode cX3_isSound 81 = .ok (.aaload, 1) := by decide +kernel
theorem dX3_isSound_82 : decode cX3_isSound 82 = .ok (.aload_n 0, 1) := by decide +kernel
theorem dX3_isSound_83 : decode cX3_isSound 83 = .ok (.getfield 11, 3) := by decide +kernel
theorem dX3_isSound_86 : decode cX3_isSound 86 = .ok (.iload_n 2, 1) := by decide +kernel
theorem dX3_isSound_87 : decode cX3_isSound 87 = .ok (.aaload, 1) := by decide +kernel
theorem dX3_isSound_88 : decode cX3_isSound 88 = .ok (.invokevirtual 238, 3) := by decide +kernel
theorem dX3_isSound_91 : decode cX3_isSound 91 = .ok (.ifCond .eq 23, 3) := by decide +kernel
theorem dX3_isSound_94 : decode cX3_isSound 94 = .ok (.aload_n 0, 1) := by decide +kernel
theorem dX3_isSound_95 : decode cX3_isSound 95 = .ok (.getfield 11, 3) := by decide +kernel
theorem dX3_isSound_98 : decode cX3_isSound 98 = .ok (.iload_n 1, 1) := by decide +kernel
theorem dX3_isSound_99 : decode cX3_isSound 99 = .ok (.aaload, 1) := by decide +kernel
theorem dX3_isSound_100 : decode cX3_isSound 100 = .ok (.aload_n 0, 1) := by decide +kernel
theorem dX3_isSound_101 : decode cX3_isSound 101 = .ok (.getfield 11, 3) := by decide +kernel
theorem dX3_isSound_104 : decode cX3_isSound 104 = .ok (.iload_n 2, 1) := by decide +kernel
theorem dX3_isSound_105 : decode cX3_isSound 105 = .ok (.aaload, 1) := by decide +kernel
theorem dX3_isSound_106 : decode cX3_isSound 106 = .ok (.invokevirtual 269, 3) := by decide +kernel
theorem dX3_isSound_109 : decode cX3_isSound 109 = .ok (.ifCond .ne 5, 3) := by decide +kernel
theorem dX3_isSound_112 : decode cX3_isSound 112 = .ok (.iconst 0, 1) := by decide +kernel
theorem dX3_isSound_113 : decode cX3_isSound 113 = .ok (.ireturn, 1) := by decide +kernel
theorem dX3_isSound_114 : decode cX3_isSound 114 = .ok (.iinc 2 1, 3) := by decide +kernel
theorem dX3_isSound_117 : decode cX3_isSound 117 = .ok (.goto (-50), 3) := by decide +kernel
theorem dX3_isSound_120 : decode cX3_isSound 120 = .ok (.iinc 1 1, 3) := by decide +kernel
theorem dX3_isSound_123 : decode cX3_isSound 123 = .ok (.goto (-81), 3) := by decide +kernel
theorem dX3_isSound_126 : decode cX3_isSound 126 = .ok (.iconst 1, 1) := by decide +kernel
theorem dX3_isSound_127 : decode cX3_isSound 127 = .ok (.ireturn, 1) := by decide +kernel
set_option maxRecDepth 20000 in
theorem ggX3_digest_X3_ledger : GoodIn wsX3_digest wsX3_ledger := goodIn_ca (goodIn_r _ [8, 9, 10, 11, 12, 13, 14, 7, 15, 16, 17, 18, 19, 20, 21, 3, 22, 23, 24, 25, 26, 27, 28, 29, 30, 31, 32, 33, 34, 35, 36, 37, 38, 39, 40, 41, 42, 43, 44, 45, 46, 47, 48, 49, 50, 51, 52, 53, 54, 55, 56, 57, 58, 59, 60, 61, 62, 260, 261, 262, 263, 264, 265, 266, 267, 268, 269, 270, 271, 272, 273, 274, 275, 276, 277, 278, 279, 280, 281, 282, 283, 284] (by decide +kernel) (by decide +kernel)) (goodIn_sub (fun _ h => List.mem_cons_of_mem _ (List.mem_append_left _ (List.mem_append_right _ h))) (by decide +kernel))
set_option maxRecDepth 20000 in
theorem gX3_digest_X3_ledger : GoodIn wsX3_digest (wsV RX3 274 RX3 yX3_ledger wsX3_ledger) := goodIn_app (goodIn_of _ (by decide +kernel)) ggX3_digest_X3_ledger
set_option maxRecDepth 20000 in
theorem ggX3_digest_X3_mixed : GoodIn wsX3_digest wsX3_mixed := goodIn_r _ [65, 66] (by decide +kernel) (by decide +kernel)
set_option maxRecDepth 20000 in
theorem gX3_digest_X3_mixed : GoodIn wsX3_digest (va_wsS RX3 277 yX3_mixed wsX3_mixed) := goodIn_app (goodIn_of _ (by decide +kernel)) ggX3_digest_X3_mixed
set_option maxRecDepth 20000 in
theorem ggX3_digest_X3_mixedWithBook : GoodIn wsX3_digest wsX3_mixedWithBook := goodIn_ca (goodIn_ca (goodIn_r _ [70, 2, 71, 72, 73, 7, 74, 75, 76, 77, 78, 79, 80, 13, 14, 15, 16, 17, 81, 82, 83, 37, 84, 85, 86, 87, 88, 89, 90, 91, 92, 93, 94, 95, 96, 97, 98, 99, 100, 101, 102, 103, 104, 105, 106, 107, 108, 109, 110, 111, 112, 113, 114, 115, 116, 117, 118, 119, 120, 3, 121, 29, 30, 31, 32, 33, 63, 64, 65, 66, 122, 123, 124, 125, 126, 127, 128, 129, 130, 131, 132, 133, 134, 135, 136, 137, 138, 139, 140, 141, 142, 143, 144, 145, 146, 147, 148, 149, 150, 151, 152, 153, 154, 155, 156, 157, 158, 159, 160, 161, 162, 163, 164, 165, 166, 167, 260, 261, 262, 263, 264, 265, 278, 279, 280, 281, 282, 283, 284, 271, 272, 273, 274, 275, 276, 277] (by decide +kernel) (by decide +kernel)) (goodIn_sub (fun _ h => List.mem_cons_of_mem _ (List.mem_append_right _ h)) (by decide +kernel))) (goodIn_sub (fun _ h => List.mem_cons_of_mem _ (List.mem_append_left _ (List.mem_append_right _ h))) (by decide +kernel))
set_option maxRecDepth 20000 in
theorem gX3_digest_X3_mixedWithBook : GoodIn wsX3_digest (wsV RX3 281 RX3 yX3_mixedWithBook wsX3_mixedWithBook) := goodIn_app (goodIn_of _ (by decide +kernel)) ggX3_digest_X3_mixedWithBook
set_option maxRecDepth 20000 in
theorem ggX3_digest_X3_mixedWithView : GoodIn wsX3_digest wsX3_mixedWithView := goodIn_ca (goodIn_ca (goodIn_r _ [171, 172, 173, 174, 7, 175, 75, 76, 3, 63, 64, 65, 66, 176, 177, 178, 179, 13, 14, 15, 16, 17, 180, 181, 182, 31, 183, 184, 185, 186, 187, 33, 188, 189, 149, 150, 37, 151, 85, 95, 144, 145, 146, 147, 90, 190, 191, 192, 193, 194, 121, 29, 30, 32, 34, 35, 36, 38, 39, 195, 196, 197, 198, 199, 200, 201, 202, 203, 204, 205, 206, 207, 208, 209, 210, 211, 212, 213, 214, 215, 91, 92, 93, 94, 96, 97, 98, 99, 216, 105, 106, 107, 108, 104, 217, 218, 219, 220, 126, 127, 128, 129, 130, 131, 132, 133, 134, 135, 136, 137, 138, 139, 140, 141, 142, 143, 148, 152, 153, 154, 155, 156, 221, 222, 223, 224, 225, 226, 227, 228, 229, 230, 161, 101, 102, 103, 260, 261, 262, 263, 264, 265, 271, 272, 273, 274, 275, 276, 277, 278, 279, 280, 281, 282, 283, 284] (by decide +kernel) (by decide +kernel)) (goodIn_sub (fun _ h => List.mem_cons_of_mem _ (List.mem_append_right _ h)) (by decide +kernel))) (goodIn_sub (fun _ h => List.mem_cons_of_mem _ (List.mem_append_left _ (List.mem_append_right _ h))) (by decide +kernel))
set_option maxRecDepth 20000 in
theorem gX3_digest_X3_mixedWithView : GoodIn wsX3_digest (wsV RX3 285 RX3 yX3_mixedWithView wsX3_mixedWithView) := goodIn_app (goodIn_of _ (by decide +kernel)) ggX3_digest_X3_mixedWithView
set_option maxRecDepth 20000 in
theorem ggX3_digest_X3_isSound : GoodIn wsX3_digest wsX3_isSound := goodIn_r _ [234, 3, 2, 235, 236, 237, 31, 238, 33, 190, 191, 192, 193, 194, 189, 149, 150, 37, 151, 85, 95, 144, 145, 146, 147, 90, 184, 185, 186, 187, 188, 239, 82, 83, 84, 240, 92, 93, 94, 96, 97, 98, 99, 241, 242, 243, 244, 245, 246, 247, 248, 249, 152, 250, 251, 252, 253, 254, 130, 131, 132, 133, 134, 135, 136, 137, 138, 139, 140, 141, 142, 143, 148, 153, 154, 155, 156, 162, 163, 164, 165, 104, 166, 167, 158, 159, 160, 161, 101, 102, 103, 255, 256, 257, 258, 259, 106, 107, 108, 260, 261, 262, 263, 264, 265, 271, 272, 273, 274, 275, 276, 277, 278, 279, 280, 281, 282, 283, 284] (by decide +kernel) (by decide +kernel)
set_option maxRecDepth 20000 in
theorem gX3_digest_X3_isSound : GoodIn wsX3_digest (wsV RX3 288 RX3 yX3_isSound wsX3_isSound) := goodIn_app (goodIn_of _ (by decide +kernel)) ggX3_digest_X3_isSound
theorem dX3_digest_0 : decode cX3_digest 0 = .ok (.ldc2_w 272, 3) := by decide +kernel
theorem dX3_digest_3 : decode cX3_digest 3 = .ok (.lstore_n 1, 1) := by decide +kernel
theorem dX3_digest_4 : decode cX3_digest 4 = .ok (.iconst 0, 1) := by decide +kernel
theorem dX3_digest_5 : decode cX3_digest 5 = .ok (.istore_n 3, 1) := by decide +kernel
theorem dX3_digest_6 : decode cX3_digest 6 = .ok (.iload_n 3, 1) := by decide +kernel
theorem dX3_digest_7 : decode cX3_digest 7 = .ok (.bipush 6, 2) := by decide +kernel
theorem dX3_digest_9 : decode cX3_digest 9 = .ok (.if_icmp .gt 20, 3) := by decide +kernel
theorem dX3_digest_12 : decode cX3_digest 12 = .ok (.lload_n 1, 1) := by decide +kernel
theorem dX3_digest_13 : decode cX3_digest 13 = .ok (.aload_n 0, 1) := by decide +kernel
theorem dX3_digest_14 : decode cX3_digest 14 = .ok (.iload_n 3, 1) := by decide +kernel
theorem dX3_digest_15 : decode cX3_digest 15 = .ok (.invokevirtual 274, 3) := by decide +kernel
theorem dX3_digest_18 : decode cX3_digest 18 = .ok (.i2l, 1) := by decide +kernel
theorem dX3_digest_19 : decode cX3_digest 19 = .ok (.invokestatic 277, 3) := by decide +kernel
theorem dX3_digest_22 : decode cX3_digest 22 = .ok (.lstore_n 1, 1) := by decide +kernel
theorem dX3_digest_23 : decode cX3_digest 23 = .ok (.iinc 3 1, 3) := by decide +kernel
theorem dX3_digest_26 : decode cX3_digest 26 = .ok (.goto (-20), 3) := by decide +kernel
theorem dX3_digest_29 : decode cX3_digest 29 = .ok (.iconst 0, 1) := by decide +kernel
theorem dX3_digest_30 : decode cX3_digest 30 = .ok (.istore_n 3, 1) := by decide +kernel
theorem dX3_digest_31 : decode cX3_digest 31 = .ok (.iload_n 3, 1) := by decide +kernel
theorem dX3_digest_32 : decode cX3_digest 32 = .ok (.aload_n 0, 1) := by decide +kernel
theorem dX3_digest_33 : decode cX3_digest 33 = .ok (.getfield 11, 3) := by decide +kernel
theorem dX3_digest_36 : decode cX3_digest 36 = .ok (.arraylength, 1) := by decide +kernel
theorem dX3_digest_37 : decode cX3_digest 37 = .ok (.if_icmp .ge 16, 3) := by decide +kernel
theorem dX3_digest_40 : decode cX3_digest 40 = .ok (.aload_n 0, 1) := by decide +kernel
theorem dX3_digest_41 : decode cX3_digest 41 = .ok (.lload_n 1, 1) := by decide +kernel
theorem dX3_digest_42 : decode cX3_digest 42 = .ok (.iload_n 3, 1) := by decide +kernel
theorem dX3_digest_43 : decode cX3_digest 43 = .ok (.invokevirtual 281, 3) := by decide +kernel
theorem dX3_digest_46 : decode cX3_digest 46 = .ok (.lstore_n 1, 1) := by decide +kernel
theorem dX3_digest_47 : decode cX3_digest 47 = .ok (.iinc 3 1, 3) := by decide +kernel
theorem dX3_digest_50 : decode cX3_digest 50 = .ok (.goto (-19), 3) := by decide +kernel
theorem dX3_digest_53 : decode cX3_digest 53 = .ok (.iconst 0, 1) := by decide +kernel
theorem dX3_digest_54 : decode cX3_digest 54 = .ok (.istore_n 3, 1) := by decide +kernel
theorem dX3_digest_55 : decode cX3_digest 55 = .ok (.iload_n 3, 1) := by decide +kernel
theorem dX3_digest_56 : decode cX3_digest 56 = .ok (.aload_n 0, 1) := by decide +kernel
theorem dX3_digest_57 : decode cX3_digest 57 = .ok (.getfield 20, 3) := by decide +kernel
theorem dX3_digest_60 : decode cX3_digest 60 = .ok (.arraylength, 1) := by decide +kernel
theorem dX3_digest_61 : decode cX3_digest 61 = .ok (.if_icmp .ge 25, 3) := by decide +kernel
theorem dX3_digest_64 : decode cX3_digest 64 = .ok (.aload_n 0, 1) := by decide +kernel
theorem dX3_digest_65 : decode cX3_digest 65 = .ok (.getfield 20, 3) := by decide +kernel
theorem dX3_digest_68 : decode cX3_digest 68 = .ok (.iload_n 3, 1) := by decide +kernel
theorem dX3_digest_69 : decode cX3_digest 69 = .ok (.aaload, 1) := by decide +kernel
theorem dX3_digest_70 : decode cX3_digest 70 = .ok (.ifnull 10, 3) := by decide +kernel
theorem dX3_digest_73 : decode cX3_digest 73 = .ok (.aload_n 0, 1) := by decide +kernel
theorem dX3_digest_74 : decode cX3_digest 74 = .ok (.lload_n 1, 1) := by decide +kernel
theorem dX3_digest_75 : decode cX3_digest 75 = .ok (.iload_n 3, 1) := by decide +kernel
theorem dX3_digest_76 : decode cX3_digest 76 = .ok (.invokevirtual 285, 3) := by decide +kernel
theorem dX3_digest_79 : decode cX3_digest 79 = .ok (.lstore_n 1, 1) := by decide +kernel
theorem dX3_digest_80 : decode cX3_digest 80 = .ok (.iinc 3 1, 3) := by decide +kernel
theorem dX3_digest_83 : decode cX3_digest 83 = .ok (.goto (-28), 3) := by decide +kernel
theorem dX3_digest_86 : decode cX3_digest 86 = .ok (.lload_n 1, 1) := by decide +kernel
theorem dX3_digest_87 : decode cX3_digest 87 = .ok (.aload_n 0, 1) := by decide +kernel
theorem dX3_digest_88 : decode cX3_digest 88 = .ok (.invokevirtual 288, 3) := by decide +kernel
theorem dX3_digest_91 : decode cX3_digest 91 = .ok (.ifCond .eq 7, 3) := by decide +kernel
theorem dX3_digest_94 : decode cX3_digest 94 = .ok (.lconst 1, 1) := by decide +kernel
theorem dX3_digest_95 : decode cX3_digest 95 = .ok (.goto 4, 3) := by decide +kernel
theorem dX3_digest_98 : decode cX3_digest 98 = .ok (.lconst 0, 1) := by decide +kernel
theorem dX3_digest_99 : decode cX3_digest 99 = .ok (.invokestatic 277, 3) := by decide +kernel
theorem dX3_digest_102 : decode cX3_digest 102 = .ok (.lreturn, 1) := by decide +kernel
set_option maxRecDepth 20000 in
theorem ggX3_mixedWithBook_X3_bookAt : GoodIn wsX3_mixedWithBook wsX3_bookAt := goodIn_ca (goodIn_r _ [6, 7, 8, 1, 116, 117, 118, 119, 120, 121] (by decide +kernel) (by decide +kernel)) (goodIn_sub (fun _ h => List.mem_cons_of_mem _ (List.mem_append_left _ (List.mem_append_right _ h))) (by decide +kernel))
set_option maxRecDepth 20000 in
theorem gX3_mixedWithBook_X3_bookAt : GoodIn wsX3_mixedWithBook (wsV RX3 47 RX3 yX3_bookAt wsX3_bookAt) := goodIn_app (goodIn_of _ (by decide +kernel)) ggX3_mixedWithBook_X3_bookAt
set_option maxRecDepth 20000 in
theorem ggX3_mixedWithBook_X3_ofBook : GoodIn wsX3_mixedWithBook wsX3_ofBook := goodIn_ca (goodIn_ca (goodIn_r _ [12, 2, 3, 4, 5, 6, 7, 8, 1, 13, 14, 15, 16, 17, 18, 19, 20, 21, 22, 23, 24, 25, 26, 27, 28, 29, 30, 31, 32, 33, 34, 35, 36, 37, 38, 39, 40, 41, 42, 43, 44, 45, 46, 47, 48, 49, 50, 51, 52, 53, 54, 55, 56, 57, 58, 59, 60, 61, 62, 63, 64, 65, 116, 117, 118, 119, 120, 121, 122, 123, 124, 125, 126, 127, 128, 129, 130, 131, 132, 133, 134, 135] (by decide +kernel) (by decide +kernel)) (goodIn_sub (fun _ h => List.mem_cons_of_mem _ (List.mem_append_left _ (List.mem_append_right _ h))) (by decide +kernel))) (goodIn_sub (fun _ h => List.mem_cons_of_mem _ (List.mem_append_right _ h)) (by decide +kernel))
set_option maxRecDepth 20000 in
theorem gX3_mixedWithBook_X3_ofBook : GoodIn wsX3_mixedWithBook (wsV RX3 291 RX3 yX3_ofBook wsX3_ofBook) := goodIn_app (goodIn_of _ (by decide +kernel)) ggX3_mixedWithBook_X3_ofBook
set_option maxRecDepth 20000 in
theorem ggX3_mixedWithBook_X3_mixed : GoodIn wsX3_mixedWithBook wsX3_mixed := goodIn_r _ [68, 69] (by decide +kernel) (by decide +kernel)
set_option maxRecDepth 20000 in
theorem gX3_mixedWithBook_X3_mixed : GoodIn wsX3_mixedWithBook (va_wsS RX3 277 yX3_mixed wsX3_mixed) := goodIn_app (goodIn_of _ (by decide +kernel)) ggX3_mixedWithBook_X3_mixed
set_option maxRecDepth 20000 in
theorem ggX3_mixedWithBook_X0_size : GoodIn wsX3_mixedWithBook wsX0_size := goodIn_r _ [22, 23, 122, 123, 124, 125, 126, 127, 128] (by decide +kernel) (by decide +kernel)
set_option maxRecDepth 20000 in
theorem gX3_mixedWithBook_X0_size : GoodIn wsX3_mixedWithBook (wsV RX3 79 RX0 yX0_size wsX0_size) := goodIn_app (goodIn_of _ (by decide +kernel)) ggX3_mixedWithBook_X0_size
set_option maxRecDepth 20000 in
theorem ggX3_mixedWithBook_X0_keyAt : GoodIn wsX3_mixedWithBook wsX0_keyAt := goodIn_r _ [32, 33, 34, 35, 36, 21, 37, 23, 122, 123, 124, 125, 126, 127, 128] (by decide +kernel) (by decide +kernel)
set_option maxRecDepth 20000 in
theorem gX3_mixedWithBook_X0_keyAt : GoodIn wsX3_mixedWithBook (wsV RX3 201 RX0 yX0_keyAt wsX0_keyAt) := goodIn_app (goodIn_of _ (by decide +kernel)) ggX3_mixedWithBook_X0_keyAt
set_option maxRecDepth 20000 in
theorem ggX3_mixedWithBook_X0_valueAt : GoodIn wsX3_mixedWithBook wsX0_valueAt := goodIn_r _ [41, 42, 34, 35, 36, 21, 37, 23, 122, 123, 124, 125, 126, 127, 128] (by decide +kernel) (by decide +kernel)
set_option maxRecDepth 20000 in
theorem gX3_mixedWithBook_X0_valueAt : GoodIn wsX3_mixedWithBook (wsV RX3 204 RX0 yX0_valueAt wsX0_valueAt) := goodIn_app (goodIn_of _ (by decide +kernel)) ggX3_mixedWithBook_X0_valueAt
set_option maxRecDepth 20000 in
theorem ggX3_mixedWithBook_X3_near : GoodIn wsX3_mixedWithBook wsX3_near := goodIn_ca (goodIn_ca (goodIn_r _ [73, 2, 3, 4, 5, 6, 7, 8, 1, 74, 75, 76, 16, 17, 13, 14, 15, 18, 19, 20, 21, 22, 23, 77, 78, 79, 80, 81, 82, 83, 84, 85, 86, 87, 88, 89, 90, 91, 92, 93, 94, 95, 28, 96, 97, 98, 99, 33, 100, 30, 31, 32, 34, 35, 36, 37, 101, 102, 103, 104, 105, 106, 107, 108, 109, 39, 40, 41, 42, 116, 117, 118, 119, 120, 121, 122, 123, 124, 125, 126, 127, 128] (by decide +kernel) (by decide +kernel)) (goodIn_sub (fun _ h => List.mem_cons_of_mem _ (List.mem_append_left _ (List.mem_append_right _ h))) (by decide +kernel))) (goodIn_sub (fun _ h => List.mem_cons_of_mem _ (List.mem_append_right _ h)) (by decide +kernel))
set_option maxRecDepth 20000 in
theorem gX3_mixedWithBook_X3_near : GoodIn wsX3_mixedWithBook (wsV RX3 294 RX3 yX3_near wsX3_near) := goodIn_app (goodIn_of _ (by decide +kernel)) ggX3_mixedWithBook_X3_near
set_option maxRecDepth 20000 in
theorem ggX3_mixedWithBook_X0_isLike : GoodIn wsX3_mixedWithBook wsX0_isLike := goodIn_r _ [113, 23, 33, 42, 114, 19, 20, 21, 22, 115, 106, 107, 108, 88, 89, 90, 91, 92, 93, 94, 95, 28, 96, 97, 98, 99, 100, 30, 31, 32, 34, 35, 36, 37, 109, 39, 40, 41, 122, 123, 124, 125, 126, 127, 128] (by decide +kernel) (by decide +kernel)
set_option maxRecDepth 20000 in
theorem gX3_mixedWithBook_X0_isLike : GoodIn wsX3_mixedWithBook (wsV RX3 238 RX0 yX0_isLike wsX0_isLike) := goodIn_app (goodIn_of _ (by decide +kernel)) ggX3_mixedWithBook_X0_isLike
theorem dX3_mixedWithBook_0 : decode cX3_mixedWithBook 0 = .ok (.aload_n 0, 1) := by decide +kernel
theorem dX3_mixedWithBook_1 : decode cX3_mixedWithBook 1 = .ok (.iload_n 3, 1) := by decide +kernel
theorem dX3_mixedWithBook_2 : decode cX3_mixedWithBook 2 = .ok (.invokevirtual 47, 3) := by decide +kernel
theorem dX3_mixedWithBook_5 : decode cX3_mixedWithBook 5 = .ok (.astore 4, 2) := by decide +kernel
theorem dX3_mixedWithBook_7 : decode cX3_mixedWithBook 7 = .ok (.lload_n 1, 1) := by decide +kernel
theorem dX3_mixedWithBook_8 : decode cX3_mixedWithBook 8 = .ok (.lstore 5, 2) := by decide +kernel
theorem dX3_mixedWithBook_10 : decode cX3_mixedWithBook 10 = .ok (.iconst 0, 1) := by decide +kernel
theorem dX3_mixedWithBook_11 : decode cX3_mixedWithBook 11 = .ok (.istore 7, 2) := by decide +kernel
theorem dX3_mixedWithBook_13 : decode cX3_mixedWithBook 13 = .ok (.iload 7, 2) := by decide +kernel
theorem dX3_mixedWithBook_15 : decode cX3_mixedWithBook 15 = .ok (.bipush 8, 2) := by decide +kernel
theorem dX3_mixedWithBook_17 : decode cX3_mixedWithBook 17 = .ok (.if_icmp .gt 24, 3) := by decide +kernel
theorem dX3_mixedWithBook_20 : decode cX3_mixedWithBook 20 = .ok (.lload 5, 2) := by decide +kernel
theorem dX3_mixedWithBook_22 : decode cX3_mixedWithBook 22 = .ok (.aload_n 0, 1) := by decide +kernel
theorem dX3_mixedWithBook_23 : decode cX3_mixedWithBook 23 = .ok (.iload_n 3, 1) := by decide +kernel
theorem dX3_mixedWithBook_24 : decode cX3_mixedWithBook 24 = .ok (.iload 7, 2) := by decide +kernel
theorem dX3_mixedWithBook_26 : decode cX3_mixedWithBook 26 = .ok (.invokevirtual 291, 3) := by decide +kernel
theorem dX3_mixedWithBook_29 : decode cX3_mixedWithBook 29 = .ok (.i2l, 1) := by decide +kernel
theorem dX3_mixedWithBook_30 : decode cX3_mixedWithBook 30 = .ok (.invokestatic 277, 3) := by decide +kernel
theorem dX3_mixedWithBook_33 : decode cX3_mixedWithBook 33 = .ok (.lstore 5, 2) := by decide +kernel
theorem dX3_mixedWithBook_35 : decode cX3_mixedWithBook 35 = .ok (.iinc 7 1, 3) := by decide +kernel
theorem dX3_mixedWithBook_38 : decode cX3_mixedWithBook 38 = .ok (.goto (-25), 3) := by decide +kernel
theorem dX3_mixedWithBook_41 : decode cX3_mixedWithBook 41 = .ok (.iconst 0, 1) := by decide +kernel
theorem dX3_mixedWithBook_42 : decode cX3_mixedWithBook 42 = .ok (.istore 7, 2) := by decide +kernel
theorem dX3_mixedWithBook_44 : decode cX3_mixedWithBook 44 = .ok (.iload 7, 2) := by decide +kernel
theorem dX3_mixedWithBook_46 : decode cX3_mixedWithBook 46 = .ok (.aload 4, 2) := by decide +kernel
theorem dX3_mixedWithBook_48 : decode cX3_mixedWithBook 48 = .ok (.invokevirtual 79, 3) := by decide +kernel
theorem dX3_mixedWithBook_51 : decode cX3_mixedWithBook 51 = .ok (.if_icmp .ge 39, 3) := by decide +kernel
theorem dX3_mixedWithBook_54 : decode cX3_mixedWithBook 54 = .ok (.lload 5, 2) := by decide +kernel
theorem dX3_mixedWithBook_56 : decode cX3_mixedWithBook 56 = .ok (.aload 4, 2) := by decide +kernel
theorem dX3_mixedWithBook_58 : decode cX3_mixedWithBook 58 = .ok (.iload 7, 2) := by decide +kernel
theorem dX3_mixedWithBook_60 : decode cX3_mixedWithBook 60 = .ok (.invokevirtual 201, 3) := by decide +kernel
theorem dX3_mixedWithBook_63 : decode cX3_mixedWithBook 63 = .ok (.i2l, 1) := by decide +kernel
theorem dX3_mixedWithBook_64 : decode cX3_mixedWithBook 64 = .ok (.invokestatic 277, 3) := by decide +kernel
theorem dX3_mixedWithBook_67 : decode cX3_mixedWithBook 67 = .ok (.lstore 5, 2) := by decide +kernel
theorem dX3_mixedWithBook_69 : decode cX3_mixedWithBook 69 = .ok (.lload 5, 2) := by decide +kernel
theorem dX3_mixedWithBook_71 : decode cX3_mixedWithBook 71 = .ok (.aload 4, 2) := by decide +kernel
theorem dX3_mixedWithBook_73 : decode cX3_mixedWithBook 73 = .ok (.iload 7, 2) := by decide +kernel
theorem dX3_mixedWithBook_75 : decode cX3_mixedWithBook 75 = .ok (.invokevirtual 204, 3) := by decide +kernel
theorem dX3_mixedWithBook_78 : decode cX3_mixedWithBook 78 = .ok (.i2l, 1) := by decide +kernel
theorem dX3_mixedWithBook_79 : decode cX3_mixedWithBook 79 = .ok (.invokestatic 277, 3) := by decide +kernel
theorem dX3_mixedWithBook_82 : decode cX3_mixedWithBook 82 = .ok (.lstore 5, 2) := by decide +kernel
theorem dX3_mixedWithBook_84 : decode cX3_mixedWithBook 84 = .ok (.iinc 7 1, 3) := by decide +kernel
theorem dX3_mixedWithBook_87 : decode cX3_mixedWithBook 87 = .ok (.goto (-43), 3) := by decide +kernel
theorem dX3_mixedWithBook_90 : decode cX3_mixedWithBook 90 = .ok (.iconst 0, 1) := by decide +kernel
theorem dX3_mixedWithBook_91 : decode cX3_mixedWithBook 91 = .ok (.istore 7, 2) := by decide +kernel
theorem dX3_mixedWithBook_93 : decode cX3_mixedWithBook 93 = .ok (.iload 7, 2) := by decide +kernel
theorem dX3_mixedWithBook_95 : decode cX3_mixedWithBook 95 = .ok (.bipush 8, 2) := by decide +kernel
theorem dX3_mixedWithBook_97 : decode cX3_mixedWithBook 97 = .ok (.if_icmp .ge 26, 3) := by decide +kernel
theorem dX3_mixedWithBook_100 : decode cX3_mixedWithBook 100 = .ok (.lload 5, 2) := by decide +kernel
theorem dX3_mixedWithBook_102 : decode cX3_mixedWithBook 102 = .ok (.aload_n 0, 1) := by decide +kernel
theorem dX3_mixedWithBook_103 : decode cX3_mixedWithBook 103 = .ok (.iload_n 3, 1) := by decide +kernel
theorem dX3_mixedWithBook_104 : decode cX3_mixedWithBook 104 = .ok (.bipush 50, 2) := by decide +kernel
theorem dX3_mixedWithBook_106 : decode cX3_mixedWithBook 106 = .ok (.iload 7, 2) := by decide +kernel
theorem dX3_mixedWithBook_108 : decode cX3_mixedWithBook 108 = .ok (.invokevirtual 294, 3) := by decide +kernel
theorem dX3_mixedWithBook_111 : decode cX3_mixedWithBook 111 = .ok (.i2l, 1) := by decide +kernel
theorem dX3_mixedWithBook_112 : decode cX3_mixedWithBook 112 = .ok (.invokestatic 277, 3) := by decide +kernel
theorem dX3_mixedWithBook_115 : decode cX3_mixedWithBook 115 = .ok (.lstore 5, 2) := by decide +kernel
theorem dX3_mixedWithBook_117 : decode cX3_mixedWithBook 117 = .ok (.iinc 7 1, 3) := by decide +kernel
theorem dX3_mixedWithBook_120 : decode cX3_mixedWithBook 120 = .ok (.goto (-27), 3) := by decide +kernel
theorem dX3_mixedWithBook_123 : decode cX3_mixedWithBook 123 = .ok (.iconst 0, 1) := by decide +kernel
theorem dX3_mixedWithBook_124 : decode cX3_mixedWithBook 124 = .ok (.istore 7, 2) := by decide +kernel
theorem dX3_mixedWithBook_126 : decode cX3_mixedWithBook 126 = .ok (.iload 7, 2) := by decide +kernel
theorem dX3_mixedWithBook_128 : decode cX3_mixedWithBook 128 = .ok (.aload_n 0, 1) := by decide +kernel
theorem dX3_mixedWithBook_129 : decode cX3_mixedWithBook 129 = .ok (.getfield 11, 3) := by decide +kernel
theorem dX3_mixedWithBook_132 : decode cX3_mixedWithBook 132 = .ok (.arraylength, 1) := by decide +kernel
theorem dX3_mixedWithBook_133 : decode cX3_mixedWithBook 133 = .ok (.if_icmp .ge 36, 3) := by decide +kernel
theorem dX3_mixedWithBook_136 : decode cX3_mixedWithBook 136 = .ok (.lload 5, 2) := by decide +kernel
theorem dX3_mixedWithBook_138 : decode cX3_mixedWithBook 138 = .ok (.aload 4, 2) := by decide +kernel
theorem dX3_mixedWithBook_140 : decode cX3_mixedWithBook 140 = .ok (.aload_n 0, 1) := by decide +kernel
theorem dX3_mixedWithBook_141 : decode cX3_mixedWithBook 141 = .ok (.getfield 11, 3) := by decide +kernel
theorem dX3_mixedWithBook_144 : decode cX3_mixedWithBook 144 = .ok (.iload 7, 2) := by decide +kernel
theorem dX3_mixedWithBook_146 : decode cX3_mixedWithBook 146 = .ok (.aaload, 1) := by decide +kernel
theorem dX3_mixedWithBook_147 : decode cX3_mixedWithBook 147 = .ok (.invokevirtual 238, 3) := by decide +kernel
theorem dX3_mixedWithBook_150 : decode cX3_mixedWithBook 150 = .ok (.ifCond .eq 7, 3) := by decide +kernel
theorem dX3_mixedWithBook_153 : decode cX3_mixedWithBook 153 = .ok (.lconst 1, 1) := by decide +kernel
theorem dX3_mixedWithBook_154 : decode cX3_mixedWithBook 154 = .ok (.goto 4, 3) := by decide +kernel
theorem dX3_mixedWithBook_157 : decode cX3_mixedWithBook 157 = .ok (.lconst 0, 1) := by decide +kernel
theorem dX3_mixedWithBook_158 : decode cX3_mixedWithBook 158 = .ok (.invokestatic 277, 3) := by decide +kernel
theorem dX3_mixedWithBook_161 : decode cX3_mixedWithBook 161 = .ok (.lstore 5, 2) := by decide +kernel
theorem dX3_mixedWithBook_163 : decode cX3_mixedWithBook 163 = .ok (.iinc 7 1, 3) := by decide +kernel
theorem dX3_mixedWithBook_166 : decode cX3_mixedWithBook 166 = .ok (.goto (-40), 3) := by decide +kernel
theorem dX3_mixedWithBook_169 : decode cX3_mixedWithBook 169 = .ok (.lload 5, 2) := by decide +kernel
theorem dX3_mixedWithBook_171 : decode cX3_mixedWithBook 171 = .ok (.lreturn, 1) := by decide +kernel
set_option maxRecDepth 20000 in
theorem ggX3_mixedWithView_X3_viewAt : GoodIn wsX3_mixedWithView wsX3_viewAt := goodIn_ca (goodIn_r _ [5, 6, 7, 8, 136, 137, 138, 139, 140, 141] (by decide +kernel) (by decide +kernel)) (goodIn_sub (fun _ h => List.mem_cons_of_mem _ (List.mem_append_left _ (List.mem_append_right _ h))) (by decide +kernel))
set_option maxRecDepth 20000 in
theorem gX3_mixedWithView_X3_viewAt : GoodIn wsX3_mixedWithView (wsV RX3 158 RX3 yX3_viewAt wsX3_viewAt) := goodIn_app (goodIn_of _ (by decide +kernel)) ggX3_mixedWithView_X3_viewAt
set_option maxRecDepth 20000 in
theorem ggX3_mixedWithView_X3_mixed : GoodIn wsX3_mixedWithView wsX3_mixed := goodIn_r _ [11, 12] (by decide +kernel) (by decide +kernel)
set_option maxRecDepth 20000 in
theorem gX3_mixedWithView_X3_mixed : GoodIn wsX3_mixedWithView (va_wsS RX3 277 yX3_mixed wsX3_mixed) := goodIn_app (goodIn_of _ (by decide +kernel)) ggX3_mixedWithView_X3_mixed
set_option maxRecDepth 20000 in
theorem ggX3_mixedWithView_X3_ofView : GoodIn wsX3_mixedWithView wsX3_ofView := goodIn_ca (goodIn_ca (goodIn_r _ [16, 1, 2, 3, 4, 5, 6, 7, 8, 17, 18, 19, 20, 21, 22, 23, 24, 25, 26, 27, 28, 29, 30, 31, 32, 33, 34, 35, 36, 37, 38, 39, 40, 41, 42, 43, 44, 45, 46, 47, 48, 49, 50, 51, 52, 53, 54, 55, 56, 57, 58, 59, 60, 61, 62, 63, 64, 65, 66, 67, 68, 69, 70, 71, 72, 73, 74, 75, 76, 77, 78, 79, 80, 81, 82, 83, 84, 85, 86, 87, 88, 89, 90, 91, 92, 93, 136, 137, 138, 139, 140, 141, 142, 143, 144, 145, 146, 147, 148, 149, 150, 151, 152, 153, 154, 155] (by decide +kernel) (by decide +kernel)) (goodIn_sub (fun _ h => List.mem_cons_of_mem _ (List.mem_append_left _ (List.mem_append_right _ h))) (by decide +kernel))) (goodIn_sub (fun _ h => List.mem_cons_of_mem _ (List.mem_append_right _ h)) (by decide +kernel))
set_option maxRecDepth 20000 in
theorem gX3_mixedWithView_X3_ofView : GoodIn wsX3_mixedWithView (wsV RX3 298 RX3 yX3_ofView wsX3_ofView) := goodIn_app (goodIn_of _ (by decide +kernel)) ggX3_mixedWithView_X3_ofView
set_option maxRecDepth 20000 in
theorem ggX3_mixedWithView_X3_viewNear : GoodIn wsX3_mixedWithView wsX3_viewNear := goodIn_ca (goodIn_ca (goodIn_r _ [97, 1, 2, 3, 4, 5, 6, 7, 8, 98, 99, 100, 20, 21, 17, 18, 19, 50, 51, 52, 25, 53, 31, 79, 46, 47, 48, 49, 33, 34, 35, 36, 37, 38, 39, 40, 41, 42, 43, 44, 88, 28, 29, 30, 32, 101, 102, 103, 104, 105, 106, 107, 108, 109, 110, 111, 112, 113, 114, 115, 116, 117, 81, 82, 83, 84, 85, 86, 87, 118, 119, 120, 121, 136, 137, 138, 139, 140, 141, 142, 143, 144, 145, 146, 147, 148, 149, 150, 151, 152, 153, 154, 155] (by decide +kernel) (by decide +kernel)) (goodIn_sub (fun _ h => List.mem_cons_of_mem _ (List.mem_append_left _ (List.mem_append_right _ h))) (by decide +kernel))) (goodIn_sub (fun _ h => List.mem_cons_of_mem _ (List.mem_append_right _ h)) (by decide +kernel))
set_option maxRecDepth 20000 in
theorem gX3_mixedWithView_X3_viewNear : GoodIn wsX3_mixedWithView (wsV RX3 301 RX3 yX3_viewNear wsX3_viewNear) := goodIn_app (goodIn_of _ (by decide +kernel)) ggX3_mixedWithView_X3_viewNear
set_option maxRecDepth 20000 in
theorem ggX3_mixedWithView_X1_book : GoodIn wsX3_mixedWithView wsX1_book := goodIn_r _ [53, 31, 142, 143, 144, 145, 146, 147, 148] (by decide +kernel) (by decide +kernel)
set_option maxRecDepth 20000 in
theorem gX3_mixedWithView_X1_book : GoodIn wsX3_mixedWithView (wsV RX3 165 RX1 yX1_book wsX1_book) := goodIn_app (goodIn_of _ (by decide +kernel)) ggX3_mixedWithView_X1_book
set_option maxRecDepth 20000 in
theorem ggX3_mixedWithView_X1_start : GoodIn wsX3_mixedWithView wsX1_start := goodIn_r _ [48, 31, 49, 33, 34, 35, 36, 37, 38, 39, 40, 41, 42, 43, 44, 142, 143, 144, 145, 146, 147, 148, 149, 150, 151, 152, 153, 154, 155] (by decide +kernel) (by decide +kernel)
set_option maxRecDepth 20000 in
theorem gX3_mixedWithView_X1_start : GoodIn wsX3_mixedWithView (wsV RX3 174 RX1 yX1_start wsX1_start) := goodIn_app (goodIn_of _ (by decide +kernel)) ggX3_mixedWithView_X1_start
set_option maxRecDepth 20000 in
theorem ggX3_mixedWithView_X1_end : GoodIn wsX3_mixedWithView wsX1_end := goodIn_r _ [30, 31, 32, 33, 34, 35, 36, 37, 38, 39, 40, 41, 42, 43, 44, 142, 143, 144, 145, 146, 147, 148, 149, 150, 151, 152, 153, 154, 155] (by decide +kernel) (by decide +kernel)
set_option maxRecDepth 20000 in
theorem gX3_mixedWithView_X1_end : GoodIn wsX3_mixedWithView (wsV RX3 171 RX1 yX1_end wsX1_end) := goodIn_app (goodIn_of _ (by decide +kernel)) ggX3_mixedWithView_X1_end
set_option maxRecDepth 20000 in
theorem ggX3_mixedWithView_X0_textLength : GoodIn wsX3_mixedWithView wsX0_textLength := goodIn_r _ [125, 117, 81, 82, 36, 83, 39, 84, 85, 86, 87, 38, 126, 127, 128, 129, 130, 107, 131, 132, 133, 134, 135, 93, 149, 150, 151, 152, 153, 154, 155] (by decide +kernel) (by decide +kernel)
set_option maxRecDepth 20000 in
theorem gX3_mixedWithView_X0_textLength : GoodIn wsX3_mixedWithView (wsV RX3 304 RX0 yX0_textLength wsX0_textLength) := goodIn_app (goodIn_of _ (by decide +kernel)) ggX3_mixedWithView_X0_textLength
theorem dX3_mixedWithView_0 : decode cX3_mixedWithView 0 = .ok (.aload_n 0, 1) := by decide +kernel
theorem dX3_mixedWithView_1 : decode cX3_mixedWithView 1 = .ok (.iload_n 3, 1) := by decide +kernel
theorem dX3_mixedWithView_2 : decode cX3_mixedWithView 2 = .ok (.invokevirtual 158, 3) := by decide +kernel
theorem dX3_mixedWithView_5 : decode cX3_mixedWithView 5 = .ok (.astore 4, 2) := by decide +kernel
theorem dX3_mixedWithView_7 : decode cX3_mixedWithView 7 = .ok (.lload_n 1, 1) := by decide +kernel
theorem dX3_mixedWithView_8 : decode cX3_mixedWithView 8 = .ok (.iload_n 3, 1) := by decide +kernel
theorem dX3_mixedWithView_9 : decode cX3_mixedWithView 9 = .ok (.i2l, 1) := by decide +kernel
theorem dX3_mixedWithView_10 : decode cX3_mixedWithView 10 = .ok (.invokestatic 277, 3) := by decide +kernel
theorem dX3_mixedWithView_13 : decode cX3_mixedWithView 13 = .ok (.lstore 5, 2) := by decide +kernel
theorem dX3_mixedWithView_15 : decode cX3_mixedWithView 15 = .ok (.iconst 0, 1) := by decide +kernel
theorem dX3_mixedWithView_16 : decode cX3_mixedWithView 16 = .ok (.istore 7, 2) := by decide +kernel
theorem dX3_mixedWithView_18 : decode cX3_mixedWithView 18 = .ok (.iload 7, 2) := by decide +kernel
theorem dX3_mixedWithView_20 : decode cX3_mixedWithView 20 = .ok (.bipush 8, 2) := by decide +kernel
theorem dX3_mixedWithView_22 : decode cX3_mixedWithView 22 = .ok (.if_icmp .gt 24, 3) := by decide +kernel
theorem dX3_mixedWithView_25 : decode cX3_mixedWithView 25 = .ok (.lload 5, 2) := by decide +kernel
theorem dX3_mixedWithView_27 : decode cX3_mixedWithView 27 = .ok (.aload_n 0, 1) := by decide +kernel
theorem dX3_mixedWithView_28 : decode cX3_mixedWithView 28 = .ok (.iload_n 3, 1) := by decide +kernel
theorem dX3_mixedWithView_29 : decode cX3_mixedWithView 29 = .ok (.iload 7, 2) := by decide +kernel
theorem dX3_mixedWithView_31 : decode cX3_mixedWithView 31 = .ok (.invokevirtual 298, 3) := by decide +kernel
theorem dX3_mixedWithView_34 : decode cX3_mixedWithView 34 = .ok (.i2l, 1) := by decide +kernel
theorem dX3_mixedWithView_35 : decode cX3_mixedWithView 35 = .ok (.invokestatic 277, 3) := by decide +kernel
theorem dX3_mixedWithView_38 : decode cX3_mixedWithView 38 = .ok (.lstore 5, 2) := by decide +kernel
theorem dX3_mixedWithView_40 : decode cX3_mixedWithView 40 = .ok (.iinc 7 1, 3) := by decide +kernel
theorem dX3_mixedWithView_43 : decode cX3_mixedWithView 43 = .ok (.goto (-25), 3) := by decide +kernel
theorem dX3_mixedWithView_46 : decode cX3_mixedWithView 46 = .ok (.iconst 0, 1) := by decide +kernel
theorem dX3_mixedWithView_47 : decode cX3_mixedWithView 47 = .ok (.istore 7, 2) := by decide +kernel
theorem dX3_mixedWithView_49 : decode cX3_mixedWithView 49 = .ok (.iload 7, 2) := by decide +kernel
theorem dX3_mixedWithView_51 : decode cX3_mixedWithView 51 = .ok (.iconst 4, 1) := by decide +kernel
theorem dX3_mixedWithView_52 : decode cX3_mixedWithView 52 = .ok (.if_icmp .ge 26, 3) := by decide +kernel
theorem dX3_mixedWithView_55 : decode cX3_mixedWithView 55 = .ok (.lload 5, 2) := by decide +kernel
theorem dX3_mixedWithView_57 : decode cX3_mixedWithView 57 = .ok (.aload_n 0, 1) := by decide +kernel
theorem dX3_mixedWithView_58 : decode cX3_mixedWithView 58 = .ok (.iload_n 3, 1) := by decide +kernel
theorem dX3_mixedWithView_59 : decode cX3_mixedWithView 59 = .ok (.bipush 50, 2) := by decide +kernel
theorem dX3_mixedWithView_61 : decode cX3_mixedWithView 61 = .ok (.iload 7, 2) := by decide +kernel
theorem dX3_mixedWithView_63 : decode cX3_mixedWithView 63 = .ok (.invokevirtual 301, 3) := by decide +kernel
theorem dX3_mixedWithView_66 : decode cX3_mixedWithView 66 = .ok (.i2l, 1) := by decide +kernel
theorem dX3_mixedWithView_67 : decode cX3_mixedWithView 67 = .ok (.invokestatic 277, 3) := by decide +kernel
theorem dX3_mixedWithView_70 : decode cX3_mixedWithView 70 = .ok (.lstore 5, 2) := by decide +kernel
theorem dX3_mixedWithView_72 : decode cX3_mixedWithView 72 = .ok (.iinc 7 1, 3) := by decide +kernel
theorem dX3_mixedWithView_75 : decode cX3_mixedWithView 75 = .ok (.goto (-26), 3) := by decide +kernel
theorem dX3_mixedWithView_78 : decode cX3_mixedWithView 78 = .ok (.lload 5, 2) := by decide +kernel
theorem dX3_mixedWithView_80 : decode cX3_mixedWithView 80 = .ok (.aload 4, 2) := by decide +kernel
theorem dX3_mixedWithView_82 : decode cX3_mixedWithView 82 = .ok (.invokevirtual 165, 3) := by decide +kernel
theorem dX3_mixedWithView_85 : decode cX3_mixedWithView 85 = .ok (.aload 4, 2) := by decide +kernel
theorem dX3_mixedWithView_87 : decode cX3_mixedWithView 87 = .ok (.invokevirtual 174, 3) := by decide +kernel
theorem dX3_mixedWithView_90 : decode cX3_mixedWithView 90 = .ok (.aload 4, 2) := by decide +kernel
theorem dX3_mixedWithView_92 : decode cX3_mixedWithView 92 = .ok (.invokevirtual 171, 3) := by decide +kernel
theorem dX3_mixedWithView_95 : decode cX3_mixedWithView 95 = .ok (.invokevirtual 304, 3) := by decide +kernel
theorem dX3_mixedWithView_98 : decode cX3_mixedWithView 98 = .ok (.i2l, 1) := by decide +kernel
theorem dX3_mixedWithView_99 : decode cX3_mixedWithView 99 = .ok (.invokestatic 277, 3) := by decide +kernel
theorem dX3_mixedWithView_102 : decode cX3_mixedWithView 102 = .ok (.lreturn, 1) := by decide +kernel
theorem dX3_mixed_0 : decode cX3_mixed 0 = .ok (.lload_n 0, 1) := by decide +kernel
theorem dX3_mixed_1 : decode cX3_mixed 1 = .ok (.ldc2_w 307, 3) := by decide +kernel
theorem dX3_mixed_4 : decode cX3_mixed 4 = .ok (.lmul, 1) := by decide +kernel
theorem dX3_mixed_5 : decode cX3_mixed 5 = .ok (.lload_n 2, 1) := by decide +kernel
theorem dX3_mixed_6 : decode cX3_mixed 6 = .ok (.ladd, 1) := by decide +kernel
theorem dX3_mixed_7 : decode cX3_mixed 7 = .ok (.lreturn, 1) := by decide +kernel
theorem dX3_bookAt_0 : decode cX3_bookAt 0 = .ok (.iload_n 1, 1) := by decide +kernel
theorem dX3_bookAt_1 : decode cX3_bookAt 1 = .ok (.ifCond .lt 12, 3) := by decide +kernel
theorem dX3_bookAt_4 : decode cX3_bookAt 4 = .ok (.iload_n 1, 1) := by decide +kernel
theorem dX3_bookAt_5 : decode cX3_bookAt 5 = .ok (.aload_n 0, 1) := by decide +kernel
theorem dX3_bookAt_6 : decode cX3_bookAt 6 = .ok (.getfield 11, 3) := by decide +kernel
theorem dX3_bookAt_9 : decode cX3_bookAt 9 = .ok (.arraylength, 1) := by decide +kernel
theorem dX3_bookAt_10 : decode cX3_bookAt 10 = .ok (.if_icmp .lt 14, 3) := by decide +kernel
theorem dX3_bookAt_13 : decode cX3_bookAt 13 = .ok (.new 309, 3) := by decide +kernel
theorem dX3_bookAt_16 : decode cX3_bookAt 16 = .ok (.dup, 1) := by decide +kernel
theorem dX3_bookAt_17 : decode cX3_bookAt 17 = .ok (.ldc_w 311, 3) := by decide +kernel
theorem dX3_bookAt_20 : decode cX3_bookAt 20 = .ok (.invokespecial 313, 3) := by decide +kernel
theorem dX3_bookAt_23 : decode cX3_bookAt 23 = .ok (.athrow, 1) := by decide +kernel
theorem dX3_bookAt_24 : decode cX3_bookAt 24 = .ok (.aload_n 0, 1) := by decide +kernel
theorem dX3_bookAt_25 : decode cX3_bookAt 25 = .ok (.getfield 11, 3) := by decide +kernel
theorem dX3_bookAt_28 : decode cX3_bookAt 28 = .ok (.iload_n 1, 1) := by decide +kernel
theorem dX3_bookAt_29 : decode cX3_bookAt 29 = .ok (.aaload, 1) := by decide +kernel
theorem dX3_bookAt_30 : decode cX3_bookAt 30 = .ok (.areturn, 1) := by decide +kernel
theorem dX3_viewAt_0 : decode cX3_viewAt 0 = .ok (.iload_n 1, 1) := by decide +kernel
theorem dX3_viewAt_1 : decode cX3_viewAt 1 = .ok (.ifCond .lt 21, 3) := by decide +kernel
theorem dX3_viewAt_4 : decode cX3_viewAt 4 = .ok (.iload_n 1, 1) := by decide +kernel
theorem dX3_viewAt_5 : decode cX3_viewAt 5 = .ok (.aload_n 0, 1) := by decide +kernel
theorem dX3_viewAt_6 : decode cX3_viewAt 6 = .ok (.getfield 20, 3) := by decide +kernel
theorem dX3_viewAt_9 : decode cX3_viewAt 9 = .ok (.arraylength, 1) := by decide +kernel
theorem dX3_viewAt_10 : decode cX3_viewAt 10 = .ok (.if_icmp .ge 12, 3) := by decide +kernel
theorem dX3_viewAt_13 : decode cX3_viewAt 13 = .ok (.aload_n 0, 1) := by decide +kernel
theorem dX3_viewAt_14 : decode cX3_viewAt 14 = .ok (.getfield 20, 3) := by decide +kernel
theorem dX3_viewAt_17 : decode cX3_viewAt 17 = .ok (.iload_n 1, 1) := by decide +kernel
theorem dX3_viewAt_18 : decode cX3_viewAt 18 = .ok (.aaload, 1) := by decide +kernel
theorem dX3_viewAt_19 : decode cX3_viewAt 19 = .ok (.ifnonnull 14, 3) := by decide +kernel
theorem dX3_viewAt_22 : decode cX3_viewAt 22 = .ok (.new 309, 3) := by decide +kernel
theorem dX3_viewAt_25 : decode cX3_viewAt 25 = .ok (.dup, 1) := by decide +kernel
theorem dX3_viewAt_26 : decode cX3_viewAt 26 = .ok (.ldc_w 314, 3) := by decide +kernel
theorem dX3_viewAt_29 : decode cX3_viewAt 29 = .ok (.invokespecial 313, 3) := by decide +kernel
theorem dX3_viewAt_32 : decode cX3_viewAt 32 = .ok (.athrow, 1) := by decide +kernel
theorem dX3_viewAt_33 : decode cX3_viewAt 33 = .ok (.aload_n 0, 1) := by decide +kernel
theorem dX3_viewAt_34 : decode cX3_viewAt 34 = .ok (.getfield 20, 3) := by decide +kernel
theorem dX3_viewAt_37 : decode cX3_viewAt 37 = .ok (.iload_n 1, 1) := by decide +kernel
theorem dX3_viewAt_38 : decode cX3_viewAt 38 = .ok (.aaload, 1) := by decide +kernel
theorem dX3_viewAt_39 : decode cX3_viewAt 39 = .ok (.areturn, 1) := by decide +kernel
set_option maxRecDepth 20000 in
theorem ggX3_bookToWriteKey_X3_bookAt : GoodIn wsX3_bookToWriteKey wsX3_bookAt := goodIn_ca (goodIn_r _ [5, 6, 7, 8, 20, 21, 22, 23, 24, 25] (by decide +kernel) (by decide +kernel)) (goodIn_sub (fun _ h => List.mem_cons_of_mem _ (List.mem_append_left _ (List.mem_append_right _ h))) (by decide +kernel))
set_option maxRecDepth 20000 in
theorem gX3_bookToWriteKey_X3_bookAt : GoodIn wsX3_bookToWriteKey (wsV RX3 47 RX3 yX3_bookAt wsX3_bookAt) := goodIn_app (goodIn_of _ (by decide +kernel)) ggX3_bookToWriteKey_X3_bookAt
set_option maxRecDepth 20000 in
theorem ggX3_bookToWriteKey_X3_checkKey : GoodIn wsX3_bookToWriteKey wsX3_checkKey := goodIn_ca (goodIn_r _ [11, 12, 13] (by decide +kernel) (by decide +kernel)) (goodIn_sub (fun _ h => List.mem_cons_of_mem _ (List.mem_append_right _ h)) (by decide +kernel))
set_option maxRecDepth 20000 in
theorem gX3_bookToWriteKey_X3_checkKey : GoodIn wsX3_bookToWriteKey (va_wsS RX3 51 yX3_checkKey wsX3_checkKey) := goodIn_app (goodIn_of _ (by decide +kernel)) ggX3_bookToWriteKey_X3_checkKey
set_option maxRecDepth 20000 in
theorem ggX3_bookToWriteKey_X0_touch : GoodIn wsX3_bookToWriteKey wsX0_touch := goodIn_r _ [18, 19, 26, 27, 28, 29, 30, 31, 32] (by decide +kernel) (by decide +kernel)
set_option maxRecDepth 20000 in
theorem gX3_bookToWriteKey_X0_touch : GoodIn wsX3_bookToWriteKey (wsV RX3 57 RX0 yX0_touch wsX0_touch) := goodIn_app (goodIn_of _ (by decide +kernel)) ggX3_bookToWriteKey_X0_touch
theorem dX3_bookToWriteKey_0 : decode cX3_bookToWriteKey 0 = .ok (.aload_n 0, 1) := by decide +kernel
theorem dX3_bookToWriteKey_1 : decode cX3_bookToWriteKey 1 = .ok (.iload_n 1, 1) := by decide +kernel
theorem dX3_bookToWriteKey_2 : decode cX3_bookToWriteKey 2 = .ok (.invokevirtual 47, 3) := by decide +kernel
theorem dX3_bookToWriteKey_5 : decode cX3_bookToWriteKey 5 = .ok (.astore_n 3, 1) := by decide +kernel
theorem dX3_bookToWriteKey_6 : decode cX3_bookToWriteKey 6 = .ok (.iload_n 2, 1) := by decide +kernel
theorem dX3_bookToWriteKey_7 : decode cX3_bookToWriteKey 7 = .ok (.invokestatic 51, 3) := by decide +kernel
theorem dX3_bookToWriteKey_10 : decode cX3_bookToWriteKey 10 = .ok (.aload_n 3, 1) := by decide +kernel
theorem dX3_bookToWriteKey_11 : decode cX3_bookToWriteKey 11 = .ok (.invokevirtual 57, 3) := by decide +kernel
theorem dX3_bookToWriteKey_14 : decode cX3_bookToWriteKey 14 = .ok (.aload_n 3, 1) := by decide +kernel
theorem dX3_bookToWriteKey_15 : decode cX3_bookToWriteKey 15 = .ok (.areturn, 1) := by decide +kernel
set_option maxRecDepth 20000 in
theorem ggX3_bookToWritePair_X3_bookAt : GoodIn wsX3_bookToWritePair wsX3_bookAt := goodIn_ca (goodIn_r _ [5, 6, 7, 8, 23, 24, 25, 26, 27, 28] (by decide +kernel) (by decide +kernel)) (goodIn_sub (fun _ h => List.mem_cons_of_mem _ (List.mem_append_left _ (List.mem_append_right _ h))) (by decide +kernel))
set_option maxRecDepth 20000 in
theorem gX3_bookToWritePair_X3_bookAt : GoodIn wsX3_bookToWritePair (wsV RX3 47 RX3 yX3_bookAt wsX3_bookAt) := goodIn_app (goodIn_of _ (by decide +kernel)) ggX3_bookToWritePair_X3_bookAt
set_option maxRecDepth 20000 in
theorem ggX3_bookToWritePair_X3_checkKey : GoodIn wsX3_bookToWritePair wsX3_checkKey := goodIn_ca (goodIn_r _ [11, 12, 13] (by decide +kernel) (by decide +kernel)) (goodIn_sub (fun _ h => List.mem_cons_of_mem _ (List.mem_append_right _ h)) (by decide +kernel))
set_option maxRecDepth 20000 in
theorem gX3_bookToWritePair_X3_checkKey : GoodIn wsX3_bookToWritePair (va_wsS RX3 51 yX3_checkKey wsX3_checkKey) := goodIn_app (goodIn_of _ (by decide +kernel)) ggX3_bookToWritePair_X3_checkKey
set_option maxRecDepth 20000 in
theorem ggX3_bookToWritePair_X3_checkValue : GoodIn wsX3_bookToWritePair wsX3_checkValue := goodIn_ca (goodIn_r _ [16, 12, 13] (by decide +kernel) (by decide +kernel)) (goodIn_sub (fun _ h => List.mem_cons_of_mem _ (List.mem_append_right _ h)) (by decide +kernel))
set_option maxRecDepth 20000 in
theorem gX3_bookToWritePair_X3_checkValue : GoodIn wsX3_bookToWritePair (va_wsS RX3 54 yX3_checkValue wsX3_checkValue) := goodIn_app (goodIn_of _ (by decide +kernel)) ggX3_bookToWritePair_X3_checkValue
set_option maxRecDepth 20000 in
theorem ggX3_bookToWritePair_X0_touch : GoodIn wsX3_bookToWritePair wsX0_touch := goodIn_r _ [21, 22, 29, 30, 31, 32, 33, 34, 35] (by decide +kernel) (by decide +kernel)
set_option maxRecDepth 20000 in
theorem gX3_bookToWritePair_X0_touch : GoodIn wsX3_bookToWritePair (wsV RX3 57 RX0 yX0_touch wsX0_touch) := goodIn_app (goodIn_of _ (by decide +kernel)) ggX3_bookToWritePair_X0_touch
theorem dX3_bookToWritePair_0 : decode cX3_bookToWritePair 0 = .ok (.aload_n 0, 1) := by decide +kernel
theorem dX3_bookToWritePair_1 : decode cX3_bookToWritePair 1 = .ok (.iload_n 1, 1) := by decide +kernel
theorem dX3_bookToWritePair_2 : decode cX3_bookToWritePair 2 = .ok (.invokevirtual 47, 3) := by decide +kernel
theorem dX3_bookToWritePair_5 : decode cX3_bookToWritePair 5 = .ok (.astore 4, 2) := by decide +kernel
theorem dX3_bookToWritePair_7 : decode cX3_bookToWritePair 7 = .ok (.iload_n 2, 1) := by decide +kernel
theorem dX3_bookToWritePair_8 : decode cX3_bookToWritePair 8 = .ok (.invokestatic 51, 3) := by decide +kernel
theorem dX3_bookToWritePair_11 : decode cX3_bookToWritePair 11 = .ok (.iload_n 3, 1) := by decide +kernel
theorem dX3_bookToWritePair_12 : decode cX3_bookToWritePair 12 = .ok (.invokestatic 54, 3) := by decide +kernel
theorem dX3_bookToWritePair_15 : decode cX3_bookToWritePair 15 = .ok (.aload 4, 2) := by decide +kernel
theorem dX3_bookToWritePair_17 : decode cX3_bookToWritePair 17 = .ok (.invokevirtual 57, 3) := by decide +kernel
theorem dX3_bookToWritePair_20 : decode cX3_bookToWritePair 20 = .ok (.aload 4, 2) := by decide +kernel
theorem dX3_bookToWritePair_22 : decode cX3_bookToWritePair 22 = .ok (.areturn, 1) := by decide +kernel
set_option maxRecDepth 20000 in
theorem ggX3_viewToWritePair_X3_viewAt : GoodIn wsX3_viewToWritePair wsX3_viewAt := goodIn_ca (goodIn_r _ [5, 6, 7, 8, 29, 30, 31, 32, 33, 34] (by decide +kernel) (by decide +kernel)) (goodIn_sub (fun _ h => List.mem_cons_of_mem _ (List.mem_append_left _ (List.mem_append_right _ h))) (by decide +kernel))
set_option maxRecDepth 20000 in
theorem gX3_viewToWritePair_X3_viewAt : GoodIn wsX3_viewToWritePair (wsV RX3 158 RX3 yX3_viewAt wsX3_viewAt) := goodIn_app (goodIn_of _ (by decide +kernel)) ggX3_viewToWritePair_X3_viewAt
set_option maxRecDepth 20000 in
theorem ggX3_viewToWritePair_X3_checkKey : GoodIn wsX3_viewToWritePair wsX3_checkKey := goodIn_ca (goodIn_r _ [11, 12, 13] (by decide +kernel) (by decide +kernel)) (goodIn_sub (fun _ h => List.mem_cons_of_mem _ (List.mem_append_right _ h)) (by decide +kernel))
set_option maxRecDepth 20000 in
theorem gX3_viewToWritePair_X3_checkKey : GoodIn wsX3_viewToWritePair (va_wsS RX3 51 yX3_checkKey wsX3_checkKey) := goodIn_app (goodIn_of _ (by decide +kernel)) ggX3_viewToWritePair_X3_checkKey
set_option maxRecDepth 20000 in
theorem ggX3_viewToWritePair_X3_checkValue : GoodIn wsX3_viewToWritePair wsX3_checkValue := goodIn_ca (goodIn_r _ [16, 12, 13] (by decide +kernel) (by decide +kernel)) (goodIn_sub (fun _ h => List.mem_cons_of_mem _ (List.mem_append_right _ h)) (by decide +kernel))
set_option maxRecDepth 20000 in
theorem gX3_viewToWritePair_X3_checkValue : GoodIn wsX3_viewToWritePair (va_wsS RX3 54 yX3_checkValue wsX3_checkValue) := goodIn_app (goodIn_of _ (by decide +kernel)) ggX3_viewToWritePair_X3_checkValue
set_option maxRecDepth 20000 in
theorem ggX3_viewToWritePair_X1_book : GoodIn wsX3_viewToWritePair wsX1_book := goodIn_r _ [21, 22, 35, 36, 37, 38, 39, 40, 41] (by decide +kernel) (by decide +kernel)
set_option maxRecDepth 20000 in
theorem gX3_viewToWritePair_X1_book : GoodIn wsX3_viewToWritePair (wsV RX3 165 RX1 yX1_book wsX1_book) := goodIn_app (goodIn_of _ (by decide +kernel)) ggX3_viewToWritePair_X1_book
set_option maxRecDepth 20000 in
theorem ggX3_viewToWritePair_X0_touch : GoodIn wsX3_viewToWritePair wsX0_touch := goodIn_r _ [27, 28, 42, 43, 44, 45, 46, 47, 48] (by decide +kernel) (by decide +kernel)
set_option maxRecDepth 20000 in
theorem gX3_viewToWritePair_X0_touch : GoodIn wsX3_viewToWritePair (wsV RX3 57 RX0 yX0_touch wsX0_touch) := goodIn_app (goodIn_of _ (by decide +kernel)) ggX3_viewToWritePair_X0_touch
theorem dX3_viewToWritePair_0 : decode cX3_viewToWritePair 0 = .ok (.aload_n 0, 1) := by decide +kernel
theorem dX3_viewToWritePair_1 : decode cX3_viewToWritePair 1 = .ok (.iload_n 1, 1) := by decide +kernel
theorem dX3_viewToWritePair_2 : decode cX3_viewToWritePair 2 = .ok (.invokevirtual 158, 3) := by decide +kernel
theorem dX3_viewToWritePair_5 : decode cX3_viewToWritePair 5 = .ok (.astore 4, 2) := by decide +kernel
theorem dX3_viewToWritePair_7 : decode cX3_viewToWritePair 7 = .ok (.iload_n 2, 1) := by decide +kernel
theorem dX3_viewToWritePair_8 : decode cX3_viewToWritePair 8 = .ok (.invokestatic 51, 3) := by decide +kernel
theorem dX3_viewToWritePair_11 : decode cX3_viewToWritePair 11 = .ok (.iload_n 3, 1) := by decide +kernel
theorem dX3_viewToWritePair_12 : decode cX3_viewToWritePair 12 = .ok (.invokestatic 54, 3) := by decide +kernel
theorem dX3_viewToWritePair_15 : decode cX3_viewToWritePair 15 = .ok (.aload 4, 2) := by decide +kernel
theorem dX3_viewToWritePair_17 : decode cX3_viewToWritePair 17 = .ok (.invokevirtual 165, 3) := by decide +kernel
theorem dX3_viewToWritePair_20 : decode cX3_viewToWritePair 20 = .ok (.invokevirtual 57, 3) := by decide +kernel
theorem dX3_viewToWritePair_23 : decode cX3_viewToWritePair 23 = .ok (.aload 4, 2) := by decide +kernel
theorem dX3_viewToWritePair_25 : decode cX3_viewToWritePair 25 = .ok (.areturn, 1) := by decide +kernel
set_option maxRecDepth 20000 in
theorem ggX3_soundWalk_X2_isBroken : GoodIn wsX3_soundWalk wsX2_isBroken := goodIn_r _ [8, 9, 10, 11, 12, 7, 13, 14, 15, 16, 17, 18, 19, 20, 21, 22, 23, 24, 25, 26, 33, 34, 35, 36, 37, 38, 39, 40, 41, 42, 43, 44, 45, 46, 47, 48, 49, 50, 51] (by decide +kernel) (by decide +kernel)
set_option maxRecDepth 20000 in
theorem gX3_soundWalk_X2_isBroken : GoodIn wsX3_soundWalk (wsV RX3 260 RX2 yX2_isBroken wsX2_isBroken) := goodIn_app (goodIn_of _ (by decide +kernel)) ggX3_soundWalk_X2_isBroken
theorem dX3_soundWalk_0 : decode cX3_soundWalk 0 = .ok (.aload_n 0, 1) := by decide +kernel
theorem dX3_soundWalk_1 : decode cX3_soundWalk 1 = .ok (.getfield 126, 3) := by decide +kernel
theorem dX3_soundWalk_4 : decode cX3_soundWalk 4 = .ok (.ifnull 13, 3) := by decide +kernel
theorem dX3_soundWalk_7 : decode cX3_soundWalk 7 = .ok (.aload_n 0, 1) := by decide +kernel
theorem dX3_soundWalk_8 : decode cX3_soundWalk 8 = .ok (.getfield 126, 3) := by decide +kernel
theorem dX3_soundWalk_11 : decode cX3_soundWalk 11 = .ok (.invokevirtual 260, 3) := by decide +kernel
theorem dX3_soundWalk_14 : decode cX3_soundWalk 14 = .ok (.ifCond .eq 14, 3) := by decide +kernel
theorem dX3_soundWalk_17 : decode cX3_soundWalk 17 = .ok (.new 104, 3) := by decide +kernel
theorem dX3_soundWalk_20 : decode cX3_soundWalk 20 = .ok (.dup, 1) := by decide +kernel
theorem dX3_soundWalk_21 : decode cX3_soundWalk 21 = .ok (.ldc_w 316, 3) := by decide +kernel
theorem dX3_soundWalk_24 : decode cX3_soundWalk 24 = .ok (.invokespecial 108, 3) := by decide +kernel
theorem dX3_soundWalk_27 : decode cX3_soundWalk 27 = .ok (.athrow, 1) := by decide +kernel
theorem dX3_soundWalk_28 : decode cX3_soundWalk 28 = .ok (.aload_n 0, 1) := by decide +kernel
theorem dX3_soundWalk_29 : decode cX3_soundWalk 29 = .ok (.getfield 126, 3) := by decide +kernel
theorem dX3_soundWalk_32 : decode cX3_soundWalk 32 = .ok (.areturn, 1) := by decide +kernel
set_option maxRecDepth 20000 in
theorem ggX3_beginWalk_X2_init : GoodIn wsX3_beginWalk wsX2_init := goodIn_r _ [7, 8, 9, 10, 11, 12, 13, 14, 15, 16, 17, 18, 19, 20, 21, 22, 23, 24, 25, 51, 52, 53, 54, 55, 62, 63, 64, 65, 66, 67, 68, 69, 70, 71, 72, 73, 74, 75] (by decide +kernel) (by decide +kernel)
set_option maxRecDepth 20000 in
theorem gX3_beginWalk_X2_init : GoodIn wsX3_beginWalk (wsX2_init) := ggX3_beginWalk_X2_init
set_option maxRecDepth 20000 in
theorem ggX3_beginWalk_X1_size : GoodIn wsX3_beginWalk wsX1_size := goodIn_r _ [29, 30, 31, 32, 17, 33, 19, 34, 35, 36, 37, 23, 38, 39, 40, 41, 42, 43, 44, 45, 46, 47, 48, 49, 50, 62, 63, 64, 65, 66, 67, 68, 69, 70, 71, 72, 73, 74, 75] (by decide +kernel) (by decide +kernel)
set_option maxRecDepth 20000 in
theorem gX3_beginWalk_X1_size : GoodIn wsX3_beginWalk (wsV RX3 166 RX1 yX1_size wsX1_size) := goodIn_app (goodIn_of _ (by decide +kernel)) ggX3_beginWalk_X1_size
theorem dX3_beginWalk_0 : decode cX3_beginWalk 0 = .ok (.aload_n 0, 1) := by decide +kernel
theorem dX3_beginWalk_1 : decode cX3_beginWalk 1 = .ok (.new 131, 3) := by decide +kernel
theorem dX3_beginWalk_4 : decode cX3_beginWalk 4 = .ok (.dup, 1) := by decide +kernel
theorem dX3_beginWalk_5 : decode cX3_beginWalk 5 = .ok (.aload_n 1, 1) := by decide +kernel
theorem dX3_beginWalk_6 : decode cX3_beginWalk 6 = .ok (.invokespecial 318, 3) := by decide +kernel
theorem dX3_beginWalk_9 : decode cX3_beginWalk 9 = .ok (.putfield 126, 3) := by decide +kernel
theorem dX3_beginWalk_12 : decode cX3_beginWalk 12 = .ok (.aload_n 1, 1) := by decide +kernel
theorem dX3_beginWalk_13 : decode cX3_beginWalk 13 = .ok (.invokevirtual 166, 3) := by decide +kernel
theorem dX3_beginWalk_16 : decode cX3_beginWalk 16 = .ok (.ireturn, 1) := by decide +kernel
theorem dX3_openView_0 : decode cX3_openView 0 = .ok (.iconst 0, 1) := by decide +kernel
theorem dX3_openView_1 : decode cX3_openView 1 = .ok (.istore_n 2, 1) := by decide +kernel
theorem dX3_openView_2 : decode cX3_openView 2 = .ok (.iload_n 2, 1) := by decide +kernel
theorem dX3_openView_3 : decode cX3_openView 3 = .ok (.aload_n 0, 1) := by decide +kernel
theorem dX3_openView_4 : decode cX3_openView 4 = .ok (.getfield 20, 3) := by decide +kernel
theorem dX3_openView_7 : decode cX3_openView 7 = .ok (.arraylength, 1) := by decide +kernel
theorem dX3_openView_8 : decode cX3_openView 8 = .ok (.if_icmp .ge 27, 3) := by decide +kernel
theorem dX3_openView_11 : decode cX3_openView 11 = .ok (.aload_n 0, 1) := by decide +kernel
theorem dX3_openView_12 : decode cX3_openView 12 = .ok (.getfield 20, 3) := by decide +kernel
theorem dX3_openView_15 : decode cX3_openView 15 = .ok (.iload_n 2, 1) := by decide +kernel
theorem dX3_openView_16 : decode cX3_openView 16 = .ok (.aaload, 1) := by decide +kernel
theorem dX3_openView_17 : decode cX3_openView 17 = .ok (.ifnonnull 12, 3) := by decide +kernel
theorem dX3_openView_20 : decode cX3_openView 20 = .ok (.aload_n 0, 1) := by decide +kernel
theorem dX3_openView_21 : decode cX3_openView 21 = .ok (.getfield 20, 3) := by decide +kernel
theorem dX3_openView_24 : decode cX3_openView 24 = .ok (.iload_n 2, 1) := by decide +kernel
theorem dX3_openView_25 : decode cX3_openView 25 = .ok (.aload_n 1, 1) := by decide +kernel
theorem dX3_openView_26 : decode cX3_openView 26 = .ok (.aastore, 1) := by decide +kernel
theorem dX3_openView_27 : decode cX3_openView 27 = .ok (.iload_n 2, 1) := by decide +kernel
theorem dX3_openView_28 : decode cX3_openView 28 = .ok (.ireturn, 1) := by decide +kernel
theorem dX3_openView_29 : decode cX3_openView 29 = .ok (.iinc 2 1, 3) := by decide +kernel
theorem dX3_openView_32 : decode cX3_openView 32 = .ok (.goto (-30), 3) := by decide +kernel
theorem dX3_openView_35 : decode cX3_openView 35 = .ok (.new 104, 3) := by decide +kernel
theorem dX3_openView_38 : decode cX3_openView 38 = .ok (.dup, 1) := by decide +kernel
theorem dX3_openView_39 : decode cX3_openView 39 = .ok (.ldc_w 321, 3) := by decide +kernel
theorem dX3_openView_42 : decode cX3_openView 42 = .ok (.invokespecial 108, 3) := by decide +kernel
theorem dX3_openView_45 : decode cX3_openView 45 = .ok (.athrow, 1) := by decide +kernel
theorem dX3_openViews_0 : decode cX3_openViews 0 = .ok (.iconst 0, 1) := by decide +kernel
theorem dX3_openViews_1 : decode cX3_openViews 1 = .ok (.istore_n 1, 1) := by decide +kernel
theorem dX3_openViews_2 : decode cX3_openViews 2 = .ok (.iconst 0, 1) := by decide +kernel
theorem dX3_openViews_3 : decode cX3_openViews 3 = .ok (.istore_n 2, 1) := by decide +kernel
theorem dX3_openViews_4 : decode cX3_openViews 4 = .ok (.iload_n 2, 1) := by decide +kernel
theorem dX3_openViews_5 : decode cX3_openViews 5 = .ok (.aload_n 0, 1) := by decide +kernel
theorem dX3_openViews_6 : decode cX3_openViews 6 = .ok (.getfield 20, 3) := by decide +kernel
theorem dX3_openViews_9 : decode cX3_openViews 9 = .ok (.arraylength, 1) := by decide +kernel
theorem dX3_openViews_10 : decode cX3_openViews 10 = .ok (.if_icmp .ge 21, 3) := by decide +kernel
theorem dX3_openViews_13 : decode cX3_openViews 13 = .ok (.aload_n 0, 1) := by decide +kernel
theorem dX3_openViews_14 : decode cX3_openViews 14 = .ok (.getfield 20, 3) := by decide +kernel
theorem dX3_openViews_17 : decode cX3_openViews 17 = .ok (.iload_n 2, 1) := by decide +kernel
theorem dX3_openViews_18 : decode cX3_openViews 18 = .ok (.aaload, 1) := by decide +kernel
theorem dX3_openViews_19 : decode cX3_openViews 19 = .ok (.ifnull 6, 3) := by decide +kernel
theorem dX3_openViews_22 : decode cX3_openViews 22 = .ok (.iinc 1 1, 3) := by decide +kernel
theorem dX3_openViews_25 : decode cX3_openViews 25 = .ok (.iinc 2 1, 3) := by decide +kernel
theorem dX3_openViews_28 : decode cX3_openViews 28 = .ok (.goto (-24), 3) := by decide +kernel
theorem dX3_openViews_31 : decode cX3_openViews 31 = .ok (.iload_n 1, 1) := by decide +kernel
theorem dX3_openViews_32 : decode cX3_openViews 32 = .ok (.ireturn, 1) := by decide +kernel
set_option maxRecDepth 20000 in
theorem ggX3_viewsOnto_X1_book : GoodIn wsX3_viewsOnto wsX1_book := goodIn_r _ [6, 7, 14, 15, 16, 17, 18, 19, 20] (by decide +kernel) (by decide +kernel)
set_option maxRecDepth 20000 in
theorem gX3_viewsOnto_X1_book : GoodIn wsX3_viewsOnto (wsV RX3 165 RX1 yX1_book wsX1_book) := goodIn_app (goodIn_of _ (by decide +kernel)) ggX3_viewsOnto_X1_book
theorem dX3_viewsOnto_0 : decode cX3_viewsOnto 0 = .ok (.iconst 0, 1) := by decide +kernel
theorem dX3_viewsOnto_1 : decode cX3_viewsOnto 1 = .ok (.istore_n 2, 1) := by decide +kernel
theorem dX3_viewsOnto_2 : decode cX3_viewsOnto 2 = .ok (.iconst 0, 1) := by decide +kernel
theorem dX3_viewsOnto_3 : decode cX3_viewsOnto 3 = .ok (.istore_n 3, 1) := by decide +kernel
theorem dX3_viewsOnto_4 : decode cX3_viewsOnto 4 = .ok (.iload_n 3, 1) := by decide +kernel
theorem dX3_viewsOnto_5 : decode cX3_viewsOnto 5 = .ok (.aload_n 0, 1) := by decide +kernel
theorem dX3_viewsOnto_6 : decode cX3_viewsOnto 6 = .ok (.getfield 20, 3) := by decide +kernel
theorem dX3_viewsOnto_9 : decode cX3_viewsOnto 9 = .ok (.arraylength, 1) := by decide +kernel
theorem dX3_viewsOnto_10 : decode cX3_viewsOnto 10 = .ok (.if_icmp .ge 34, 3) := by decide +kernel
theorem dX3_viewsOnto_13 : decode cX3_viewsOnto 13 = .ok (.aload_n 0, 1) := by decide +kernel
theorem dX3_viewsOnto_14 : decode cX3_viewsOnto 14 = .ok (.getfield 20, 3) := by decide +kernel
theorem dX3_viewsOnto_17 : decode cX3_viewsOnto 17 = .ok (.iload_n 3, 1) := by decide +kernel
theorem dX3_viewsOnto_18 : decode cX3_viewsOnto 18 = .ok (.aaload, 1) := by decide +kernel
theorem dX3_viewsOnto_19 : decode cX3_viewsOnto 19 = .ok (.ifnull 19, 3) := by decide +kernel
theorem dX3_viewsOnto_22 : decode cX3_viewsOnto 22 = .ok (.aload_n 0, 1) := by decide +kernel
theorem dX3_viewsOnto_23 : decode cX3_viewsOnto 23 = .ok (.getfield 20, 3) := by decide +kernel
theorem dX3_viewsOnto_26 : decode cX3_viewsOnto 26 = .ok (.iload_n 3, 1) := by decide +kernel
theorem dX3_viewsOnto_27 : decode cX3_viewsOnto 27 = .ok (.aaload, 1) := by decide +kernel
theorem dX3_viewsOnto_28 : decode cX3_viewsOnto 28 = .ok (.invokevirtual 165, 3) := by decide +kernel
theorem dX3_viewsOnto_31 : decode cX3_viewsOnto 31 = .ok (.aload_n 1, 1) := by decide +kernel
theorem dX3_viewsOnto_32 : decode cX3_viewsOnto 32 = .ok (.if_acmp .ne 6, 3) := by decide +kernel
theorem dX3_viewsOnto_35 : decode cX3_viewsOnto 35 = .ok (.iinc 2 1, 3) := by decide +kernel
theorem dX3_viewsOnto_38 : decode cX3_viewsOnto 38 = .ok (.iinc 3 1, 3) := by decide +kernel
theorem dX3_viewsOnto_41 : decode cX3_viewsOnto 41 = .ok (.goto (-37), 3) := by decide +kernel
theorem dX3_viewsOnto_44 : decode cX3_viewsOnto 44 = .ok (.iload_n 2, 1) := by decide +kernel
theorem dX3_viewsOnto_45 : decode cX3_viewsOnto 45 = .ok (.ireturn, 1) := by decide +kernel
set_option maxRecDepth 20000 in
theorem ggX3_shutViewsOnto_X3_viewsOnto : GoodIn wsX3_shutViewsOnto wsX3_viewsOnto := goodIn_r _ [6, 1, 7, 8, 9, 10, 11, 12, 13, 14, 15, 16, 17, 18, 19, 20, 21, 22, 23, 24, 25] (by decide +kernel) (by decide +kernel)
set_option maxRecDepth 20000 in
theorem gX3_shutViewsOnto_X3_viewsOnto : GoodIn wsX3_shutViewsOnto (wsV RX3 222 RX3 yX3_viewsOnto wsX3_viewsOnto) := goodIn_app (goodIn_of _ (by decide +kernel)) ggX3_shutViewsOnto_X3_viewsOnto
set_option maxRecDepth 20000 in
theorem ggX3_shutViewsOnto_X1_book : GoodIn wsX3_shutViewsOnto wsX1_book := goodIn_r _ [11, 12, 19, 20, 21, 22, 23, 24, 25] (by decide +kernel) (by decide +kernel)
set_option maxRecDepth 20000 in
theorem gX3_shutViewsOnto_X1_book : GoodIn wsX3_shutViewsOnto (wsV RX3 165 RX1 yX1_book wsX1_book) := goodIn_app (goodIn_of _ (by decide +kernel)) ggX3_shutViewsOnto_X1_book
theorem dX3_shutViewsOnto_0 : decode cX3_shutViewsOnto 0 = .ok (.aload_n 0, 1) := by decide +kernel
theorem dX3_shutViewsOnto_1 : decode cX3_shutViewsOnto 1 = .ok (.aload_n 1, 1) := by decide +kernel
theorem dX3_shutViewsOnto_2 : decode cX3_shutViewsOnto 2 = .ok (.invokevirtual 222, 3) := by decide +kernel
theorem dX3_shutViewsOnto_5 : decode cX3_shutViewsOnto 5 = .ok (.istore_n 2, 1) := by decide +kernel
theorem dX3_shutViewsOnto_6 : decode cX3_shutViewsOnto 6 = .ok (.iconst 0, 1) := by decide +kernel
theorem dX3_shutViewsOnto_7 : decode cX3_shutViewsOnto 7 = .ok (.istore_n 3, 1) := by decide +kernel
theorem dX3_shutViewsOnto_8 : decode cX3_shutViewsOnto 8 = .ok (.iload_n 3, 1) := by decide +kernel
theorem dX3_shutViewsOnto_9 : decode cX3_shutViewsOnto 9 = .ok (.aload_n 0, 1) := by decide +kernel
theorem dX3_shutViewsOnto_10 : decode cX3_shutViewsOnto 10 = .ok (.getfield 20, 3) := by decide +kernel
theorem dX3_shutViewsOnto_13 : decode cX3_shutViewsOnto 13 = .ok (.arraylength, 1) := by decide +kernel
theorem dX3_shutViewsOnto_14 : decode cX3_shutViewsOnto 14 = .ok (.if_icmp .ge 38, 3) := by decide +kernel
theorem dX3_shutViewsOnto_17 : decode cX3_shutViewsOnto 17 = .ok (.aload_n 0, 1) := by decide +kernel
theorem dX3_shutViewsOnto_18 : decode cX3_shutViewsOnto 18 = .ok (.getfield 20, 3) := by decide +kernel
theorem dX3_shutViewsOnto_21 : decode cX3_shutViewsOnto 21 = .ok (.iload_n 3, 1) := by decide +kernel
theorem dX3_shutViewsOnto_22 : decode cX3_shutViewsOnto 22 = .ok (.aaload, 1) := by decide +kernel
theorem dX3_shutViewsOnto_23 : decode cX3_shutViewsOnto 23 = .ok (.ifnull 23, 3) := by decide +kernel
theorem dX3_shutViewsOnto_26 : decode cX3_shutViewsOnto 26 = .ok (.aload_n 0, 1) := by decide +kernel
theorem dX3_shutViewsOnto_27 : decode cX3_shutViewsOnto 27 = .ok (.getfield 20, 3) := by decide +kernel
theorem dX3_shutViewsOnto_30 : decode cX3_shutViewsOnto 30 = .ok (.iload_n 3, 1) := by decide +kernel
theorem dX3_shutViewsOnto_31 : decode cX3_shutViewsOnto 31 = .ok (.aaload, 1) := by decide +kernel
theorem dX3_shutViewsOnto_32 : decode cX3_shutViewsOnto 32 = .ok (.invokevirtual 165, 3) := by decide +kernel
theorem dX3_shutViewsOnto_35 : decode cX3_shutViewsOnto 35 = .ok (.aload_n 1, 1) := by decide +kernel
theorem dX3_shutViewsOnto_36 : decode cX3_shutViewsOnto 36 = .ok (.if_acmp .ne 10, 3) := by decide +kernel
theorem dX3_shutViewsOnto_39 : decode cX3_shutViewsOnto 39 = .ok (.aload_n 0, 1) := by decide +kernel
theorem dX3_shutViewsOnto_40 : decode cX3_shutViewsOnto 40 = .ok (.getfield 20, 3) := by decide +kernel
theorem dX3_shutViewsOnto_43 : decode cX3_shutViewsOnto 43 = .ok (.iload_n 3, 1) := by decide +kernel
theorem dX3_shutViewsOnto_44 : decode cX3_shutViewsOnto 44 = .ok (.aconst_null, 1) := by decide +kernel
theorem dX3_shutViewsOnto_45 : decode cX3_shutViewsOnto 45 = .ok (.aastore, 1) := by decide +kernel
theorem dX3_shutViewsOnto_46 : decode cX3_shutViewsOnto 46 = .ok (.iinc 3 1, 3) := by decide +kernel
theorem dX3_shutViewsOnto_49 : decode cX3_shutViewsOnto 49 = .ok (.goto (-41), 3) := by decide +kernel
theorem dX3_shutViewsOnto_52 : decode cX3_shutViewsOnto 52 = .ok (.iload_n 2, 1) := by decide +kernel
theorem dX3_shutViewsOnto_53 : decode cX3_shutViewsOnto 53 = .ok (.ireturn, 1) := by decide +kernel
set_option maxRecDepth 20000 in
theorem ggX3_checkViewIsFree_X3_openViews : GoodIn wsX3_checkViewIsFree wsX3_openViews := goodIn_r _ [8, 3, 9, 10, 11, 12, 13, 14] (by decide +kernel) (by decide +kernel)
set_option maxRecDepth 20000 in
theorem gX3_checkViewIsFree_X3_openViews : GoodIn wsX3_checkViewIsFree (wsV RX3 257 RX3 yX3_openViews wsX3_openViews) := goodIn_app (goodIn_of _ (by decide +kernel)) ggX3_checkViewIsFree_X3_openViews
theorem dX3_checkViewIsFree_0 : decode cX3_checkViewIsFree 0 = .ok (.aload_n 0, 1) := by decide +kernel
theorem dX3_checkViewIsFree_1 : decode cX3_checkViewIsFree 1 = .ok (.invokevirtual 257, 3) := by decide +kernel
theorem dX3_checkViewIsFree_4 : decode cX3_checkViewIsFree 4 = .ok (.aload_n 0, 1) := by decide +kernel
theorem dX3_checkViewIsFree_5 : decode cX3_checkViewIsFree 5 = .ok (.getfield 20, 3) := by decide +kernel
theorem dX3_checkViewIsFree_8 : decode cX3_checkViewIsFree 8 = .ok (.arraylength, 1) := by decide +kernel
theorem dX3_checkViewIsFree_9 : decode cX3_checkViewIsFree 9 = .ok (.if_icmp .lt 14, 3) := by decide +kernel
theorem dX3_checkViewIsFree_12 : decode cX3_checkViewIsFree 12 = .ok (.new 104, 3) := by decide +kernel
theorem dX3_checkViewIsFree_15 : decode cX3_checkViewIsFree 15 = .ok (.dup, 1) := by decide +kernel
theorem dX3_checkViewIsFree_16 : decode cX3_checkViewIsFree 16 = .ok (.ldc_w 321, 3) := by decide +kernel
theorem dX3_checkViewIsFree_19 : decode cX3_checkViewIsFree 19 = .ok (.invokespecial 108, 3) := by decide +kernel
theorem dX3_checkViewIsFree_22 : decode cX3_checkViewIsFree 22 = .ok (.athrow, 1) := by decide +kernel
theorem dX3_checkViewIsFree_23 : decode cX3_checkViewIsFree 23 = .ok (.return_, 1) := by decide +kernel
theorem dX3_checkKey_0 : decode cX3_checkKey 0 = .ok (.iload_n 0, 1) := by decide +kernel
theorem dX3_checkKey_1 : decode cX3_checkKey 1 = .ok (.ifCond .lt 9, 3) := by decide +kernel
theorem dX3_checkKey_4 : decode cX3_checkKey 4 = .ok (.iload_n 0, 1) := by decide +kernel
theorem dX3_checkKey_5 : decode cX3_checkKey 5 = .ok (.bipush 100, 2) := by decide +kernel
theorem dX3_checkKey_7 : decode cX3_checkKey 7 = .ok (.if_icmp .lt 14, 3) := by decide +kernel
theorem dX3_checkKey_10 : decode cX3_checkKey 10 = .ok (.new 86, 3) := by decide +kernel
theorem dX3_checkKey_13 : decode cX3_checkKey 13 = .ok (.dup, 1) := by decide +kernel
theorem dX3_checkKey_14 : decode cX3_checkKey 14 = .ok (.ldc_w 323, 3) := by decide +kernel
theorem dX3_checkKey_17 : decode cX3_checkKey 17 = .ok (.invokespecial 90, 3) := by decide +kernel
theorem dX3_checkKey_20 : decode cX3_checkKey 20 = .ok (.athrow, 1) := by decide +kernel
theorem dX3_checkKey_21 : decode cX3_checkKey 21 = .ok (.return_, 1) := by decide +kernel
theorem dX3_checkValue_0 : decode cX3_checkValue 0 = .ok (.iload_n 0, 1) := by decide +kernel
theorem dX3_checkValue_1 : decode cX3_checkValue 1 = .ok (.sipush (-9999), 3) := by decide +kernel
theorem dX3_checkValue_4 : decode cX3_checkValue 4 = .ok (.if_icmp .lt 10, 3) := by decide +kernel
theorem dX3_checkValue_7 : decode cX3_checkValue 7 = .ok (.iload_n 0, 1) := by decide +kernel
theorem dX3_checkValue_8 : decode cX3_checkValue 8 = .ok (.sipush 9999, 3) := by decide +kernel
theorem dX3_checkValue_11 : decode cX3_checkValue 11 = .ok (.if_icmp .le 14, 3) := by decide +kernel
theorem dX3_checkValue_14 : decode cX3_checkValue 14 = .ok (.new 86, 3) := by decide +kernel
theorem dX3_checkValue_17 : decode cX3_checkValue 17 = .ok (.dup, 1) := by decide +kernel
theorem dX3_checkValue_18 : decode cX3_checkValue 18 = .ok (.ldc_w 325, 3) := by decide +kernel
theorem dX3_checkValue_21 : decode cX3_checkValue 21 = .ok (.invokespecial 90, 3) := by decide +kernel
theorem dX3_checkValue_24 : decode cX3_checkValue 24 = .ok (.athrow, 1) := by decide +kernel
theorem dX3_checkValue_25 : decode cX3_checkValue 25 = .ok (.return_, 1) := by decide +kernel
theorem dX3_checkWhat_0 : decode cX3_checkWhat 0 = .ok (.iload_n 0, 1) := by decide +kernel
theorem dX3_checkWhat_1 : decode cX3_checkWhat 1 = .ok (.ifCond .lt 8, 3) := by decide +kernel
theorem dX3_checkWhat_4 : decode cX3_checkWhat 4 = .ok (.iload_n 0, 1) := by decide +kernel
theorem dX3_checkWhat_5 : decode cX3_checkWhat 5 = .ok (.iload_n 1, 1) := by decide +kernel
theorem dX3_checkWhat_6 : decode cX3_checkWhat 6 = .ok (.if_icmp .le 14, 3) := by decide +kernel
theorem dX3_checkWhat_9 : decode cX3_checkWhat 9 = .ok (.new 86, 3) := by decide +kernel
theorem dX3_checkWhat_12 : decode cX3_checkWhat 12 = .ok (.dup, 1) := by decide +kernel
theorem dX3_checkWhat_13 : decode cX3_checkWhat 13 = .ok (.ldc_w 327, 3) := by decide +kernel
theorem dX3_checkWhat_16 : decode cX3_checkWhat 16 = .ok (.invokespecial 90, 3) := by decide +kernel
theorem dX3_checkWhat_19 : decode cX3_checkWhat 19 = .ok (.athrow, 1) := by decide +kernel
theorem dX3_checkWhat_20 : decode cX3_checkWhat 20 = .ok (.return_, 1) := by decide +kernel
theorem dX3_checkUnlike_0 : decode cX3_checkUnlike 0 = .ok (.iload_n 0, 1) := by decide +kernel
theorem dX3_checkUnlike_1 : decode cX3_checkUnlike 1 = .ok (.iload_n 1, 1) := by decide +kernel
theorem dX3_checkUnlike_2 : decode cX3_checkUnlike 2 = .ok (.if_icmp .ne 14, 3) := by decide +kernel
theorem dX3_checkUnlike_5 : decode cX3_checkUnlike 5 = .ok (.new 86, 3) := by decide +kernel
theorem dX3_checkUnlike_8 : decode cX3_checkUnlike 8 = .ok (.dup, 1) := by decide +kernel
theorem dX3_checkUnlike_9 : decode cX3_checkUnlike 9 = .ok (.ldc_w 329, 3) := by decide +kernel
theorem dX3_checkUnlike_12 : decode cX3_checkUnlike 12 = .ok (.invokespecial 90, 3) := by decide +kernel
theorem dX3_checkUnlike_15 : decode cX3_checkUnlike 15 = .ok (.athrow, 1) := by decide +kernel
theorem dX3_checkUnlike_16 : decode cX3_checkUnlike 16 = .ok (.return_, 1) := by decide +kernel
theorem dX4_init_0 : decode cX4_init 0 = .ok (.aload_n 0, 1) := by decide +kernel
theorem dX4_init_1 : decode cX4_init 1 = .ok (.invokespecial 1, 3) := by decide +kernel
theorem dX4_init_4 : decode cX4_init 4 = .ok (.return_, 1) := by decide +kernel
