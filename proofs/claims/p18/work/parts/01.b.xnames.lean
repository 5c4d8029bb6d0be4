theorem adX0_init_0 : fd_rows (cX0_init.data.toList.drop 0) 0 [(0, some (.aload_n 0), 1), (1, some (.invokespecial 3), 3), (4, some (.aload_n 0), 1), (5, some (.iload_n 1), 1), (6, some (.putfield 9), 3), (9, some (.aload_n 0), 1), (10, some (.bipush 100), 2), (12, none, 2), (14, some (.putfield 15), 3), (17, some (.aload_n 0), 1), (18, some (.bipush 100), 2), (20, none, 2), (22, some (.putfield 19), 3), (25, some (.aload_n 0), 1), (26, some (.iload_n 1), 1), (27, some (.putfield 22), 3)] = true := by decide +kernel
theorem adX0_init_1 : fd_rows (cX0_init.data.toList.drop 30) 30 [(30, some (.return_), 1)] = true := by decide +kernel
theorem dX0_init_0 : decode cX0_init 0 = .ok (.aload_n 0, 1) := fd_get adX0_init_0 (k := 0) rfl
theorem dX0_init_1 : decode cX0_init 1 = .ok (.invokespecial 3, 3) := fd_get adX0_init_0 (k := 1) rfl
theorem dX0_init_4 : decode cX0_init 4 = .ok (.aload_n 0, 1) := fd_get adX0_init_0 (k := 2) rfl
theorem dX0_init_5 : decode cX0_init 5 = .ok (.iload_n 1, 1) := fd_get adX0_init_0 (k := 3) rfl
theorem dX0_init_6 : decode cX0_init 6 = .ok (.putfield 9, 3) := fd_get adX0_init_0 (k := 4) rfl
theorem dX0_init_9 : decode cX0_init 9 = .ok (.aload_n 0, 1) := fd_get adX0_init_0 (k := 5) rfl
theorem dX0_init_10 : decode cX0_init 10 = .ok (.bipush 100, 2) := fd_get adX0_init_0 (k := 6) rfl
theorem dX0_init_12 : decode cX0_init 12 = .ok (.newarray .int, 2) := by decide +kernel
theorem dX0_init_14 : decode cX0_init 14 = .ok (.putfield 15, 3) := fd_get adX0_init_0 (k := 8) rfl
theorem dX0_init_17 : decode cX0_init 17 = .ok (.aload_n 0, 1) := fd_get adX0_init_0 (k := 9) rfl
theorem dX0_init_18 : decode cX0_init 18 = .ok (.bipush 100, 2) := fd_get adX0_init_0 (k := 10) rfl
theorem dX0_init_20 : decode cX0_init 20 = .ok (.newarray .int, 2) := by decide +kernel
theorem dX0_init_22 : decode cX0_init 22 = .ok (.putfield 19, 3) := fd_get adX0_init_0 (k := 12) rfl
theorem dX0_init_25 : decode cX0_init 25 = .ok (.aload_n 0, 1) := fd_get adX0_init_0 (k := 13) rfl
theorem dX0_init_26 : decode cX0_init 26 = .ok (.iload_n 1, 1) := fd_get adX0_init_0 (k := 14) rfl
theorem dX0_init_27 : decode cX0_init 27 = .ok (.putfield 22, 3) := fd_get adX0_init_0 (k := 15) rfl
theorem dX0_init_30 : decode cX0_init 30 = .ok (.return_, 1) := fd_get adX0_init_1 (k := 0) rfl
theorem adX0_number_0 : fd_rows (cX0_number.data.toList.drop 0) 0 [(0, some (.aload_n 0), 1), (1, some (.getfield 9), 3), (4, some (.ireturn), 1)] = true := by decide +kernel
theorem dX0_number_0 : decode cX0_number 0 = .ok (.aload_n 0, 1) := fd_get adX0_number_0 (k := 0) rfl
theorem dX0_number_1 : decode cX0_number 1 = .ok (.getfield 9, 3) := fd_get adX0_number_0 (k := 1) rfl
theorem dX0_number_4 : decode cX0_number 4 = .ok (.ireturn, 1) := fd_get adX0_number_0 (k := 2) rfl
theorem adX0_order_0 : fd_rows (cX0_order.data.toList.drop 0) 0 [(0, some (.aload_n 0), 1), (1, some (.getfield 22), 3), (4, some (.ireturn), 1)] = true := by decide +kernel
theorem dX0_order_0 : decode cX0_order 0 = .ok (.aload_n 0, 1) := fd_get adX0_order_0 (k := 0) rfl
theorem dX0_order_1 : decode cX0_order 1 = .ok (.getfield 22, 3) := fd_get adX0_order_0 (k := 1) rfl
theorem dX0_order_4 : decode cX0_order 4 = .ok (.ireturn, 1) := fd_get adX0_order_0 (k := 2) rfl
theorem adX0_size_0 : fd_rows (cX0_size.data.toList.drop 0) 0 [(0, some (.aload_n 0), 1), (1, some (.getfield 25), 3), (4, some (.ireturn), 1)] = true := by decide +kernel
theorem dX0_size_0 : decode cX0_size 0 = .ok (.aload_n 0, 1) := fd_get adX0_size_0 (k := 0) rfl
theorem dX0_size_1 : decode cX0_size 1 = .ok (.getfield 25, 3) := fd_get adX0_size_0 (k := 1) rfl
theorem dX0_size_4 : decode cX0_size 4 = .ok (.ireturn, 1) := fd_get adX0_size_0 (k := 2) rfl
theorem adX0_touches_0 : fd_rows (cX0_touches.data.toList.drop 0) 0 [(0, some (.aload_n 0), 1), (1, some (.getfield 28), 3), (4, some (.ireturn), 1)] = true := by decide +kernel
theorem dX0_touches_0 : decode cX0_touches 0 = .ok (.aload_n 0, 1) := fd_get adX0_touches_0 (k := 0) rfl
theorem dX0_touches_1 : decode cX0_touches 1 = .ok (.getfield 28, 3) := fd_get adX0_touches_0 (k := 1) rfl
theorem dX0_touches_4 : decode cX0_touches 4 = .ok (.ireturn, 1) := fd_get adX0_touches_0 (k := 2) rfl
theorem adX0_keyChanges_0 : fd_rows (cX0_keyChanges.data.toList.drop 0) 0 [(0, some (.aload_n 0), 1), (1, some (.getfield 31), 3), (4, some (.ireturn), 1)] = true := by decide +kernel
theorem dX0_keyChanges_0 : decode cX0_keyChanges 0 = .ok (.aload_n 0, 1) := fd_get adX0_keyChanges_0 (k := 0) rfl
theorem dX0_keyChanges_1 : decode cX0_keyChanges 1 = .ok (.getfield 31, 3) := fd_get adX0_keyChanges_0 (k := 1) rfl
theorem dX0_keyChanges_4 : decode cX0_keyChanges 4 = .ok (.ireturn, 1) := fd_get adX0_keyChanges_0 (k := 2) rfl
theorem adX0_touch_0 : fd_rows (cX0_touch.data.toList.drop 0) 0 [(0, some (.aload_n 0), 1), (1, some (.dup), 1), (2, some (.getfield 28), 3), (5, some (.iconst 1), 1), (6, some (.iadd), 1), (7, some (.putfield 28), 3), (10, some (.return_), 1)] = true := by decide +kernel
theorem dX0_touch_0 : decode cX0_touch 0 = .ok (.aload_n 0, 1) := fd_get adX0_touch_0 (k := 0) rfl
theorem dX0_touch_1 : decode cX0_touch 1 = .ok (.dup, 1) := fd_get adX0_touch_0 (k := 1) rfl
theorem dX0_touch_2 : decode cX0_touch 2 = .ok (.getfield 28, 3) := fd_get adX0_touch_0 (k := 2) rfl
theorem dX0_touch_5 : decode cX0_touch 5 = .ok (.iconst 1, 1) := fd_get adX0_touch_0 (k := 3) rfl
theorem dX0_touch_6 : decode cX0_touch 6 = .ok (.iadd, 1) := fd_get adX0_touch_0 (k := 4) rfl
theorem dX0_touch_7 : decode cX0_touch 7 = .ok (.putfield 28, 3) := fd_get adX0_touch_0 (k := 5) rfl
theorem dX0_touch_10 : decode cX0_touch 10 = .ok (.return_, 1) := fd_get adX0_touch_0 (k := 6) rfl
theorem mwsX0_isAhead_0 : ∀ w ∈ wsX00, w ∈ wsX0_isAhead := fun w h => (List.mem_cons_of_mem _ (List.mem_append_right _ h))
set_option maxRecDepth 20000 in
theorem ggX0_isAhead_X0_weight : GoodIn wsX0_isAhead wsX0_weight := goodIn_sub (List.forall_mem_cons.mpr ⟨(List.mem_cons_of_mem _ (List.mem_append_left _ (List.mem_of_getElem? (i := 4) rfl))), (List.forall_mem_cons.mpr ⟨(List.mem_cons_of_mem _ (List.mem_append_left _ (List.mem_of_getElem? (i := 5) rfl))), (tk_mem 7 _ (fun w h => (mwsX0_isAhead_0 _ (tkB_mem 0 7 h))) (fun _ h => absurd h List.not_mem_nil))⟩)⟩) (by decide +kernel)
set_option maxRecDepth 20000 in
theorem gX0_isAhead_X0_weight : GoodIn wsX0_isAhead (wsV RX0 34 RX0 yX0_weight wsX0_weight) := goodIn_app (goodIn_sub (tk_mem 4 _ (fun w h => (List.mem_cons_of_mem _ (List.mem_append_left _ (tkB_mem 0 4 h)))) (fun _ h => absurd h List.not_mem_nil)) (by decide +kernel)) ggX0_isAhead_X0_weight
theorem adX0_isAhead_0 : fd_rows (cX0_isAhead.data.toList.drop 0) 0 [(0, some (.aload_n 0), 1), (1, some (.iload_n 1), 1), (2, some (.invokevirtual 34), 3), (5, some (.aload_n 0), 1), (6, some (.iload_n 2), 1), (7, some (.invokevirtual 34), 3), (10, some (.if_icmp .ge 7), 3), (13, some (.iconst 1), 1), (14, some (.goto 4), 3), (17, some (.iconst 0), 1), (18, some (.ireturn), 1)] = true := by decide +kernel
theorem dX0_isAhead_0 : decode cX0_isAhead 0 = .ok (.aload_n 0, 1) := fd_get adX0_isAhead_0 (k := 0) rfl
theorem dX0_isAhead_1 : decode cX0_isAhead 1 = .ok (.iload_n 1, 1) := fd_get adX0_isAhead_0 (k := 1) rfl
theorem dX0_isAhead_2 : decode cX0_isAhead 2 = .ok (.invokevirtual 34, 3) := fd_get adX0_isAhead_0 (k := 2) rfl
theorem dX0_isAhead_5 : decode cX0_isAhead 5 = .ok (.aload_n 0, 1) := fd_get adX0_isAhead_0 (k := 3) rfl
theorem dX0_isAhead_6 : decode cX0_isAhead 6 = .ok (.iload_n 2, 1) := fd_get adX0_isAhead_0 (k := 4) rfl
theorem dX0_isAhead_7 : decode cX0_isAhead 7 = .ok (.invokevirtual 34, 3) := fd_get adX0_isAhead_0 (k := 5) rfl
theorem dX0_isAhead_10 : decode cX0_isAhead 10 = .ok (.if_icmp .ge 7, 3) := fd_get adX0_isAhead_0 (k := 6) rfl
theorem dX0_isAhead_13 : decode cX0_isAhead 13 = .ok (.iconst 1, 1) := fd_get adX0_isAhead_0 (k := 7) rfl
theorem dX0_isAhead_14 : decode cX0_isAhead 14 = .ok (.goto 4, 3) := fd_get adX0_isAhead_0 (k := 8) rfl
theorem dX0_isAhead_17 : decode cX0_isAhead 17 = .ok (.iconst 0, 1) := fd_get adX0_isAhead_0 (k := 9) rfl
theorem dX0_isAhead_18 : decode cX0_isAhead 18 = .ok (.ireturn, 1) := fd_get adX0_isAhead_0 (k := 10) rfl
theorem adX0_weight_0 : fd_rows (cX0_weight.data.toList.drop 0) 0 [(0, some (.aload_n 0), 1), (1, some (.getfield 22), 3), (4, none, 28), (32, some (.iload_n 1), 1), (33, some (.ireturn), 1), (34, some (.iload_n 1), 1), (35, some (.iconst 2), 1), (36, some (.irem), 1), (37, some (.ifCond .ne 10), 3), (40, some (.bipush 100), 2), (42, some (.iload_n 1), 1), (43, some (.isub), 1), (44, some (.goto 8), 3), (47, some (.sipush 200), 3), (50, some (.iload_n 1), 1), (51, some (.isub), 1)] = true := by decide +kernel
theorem adX0_weight_1 : fd_rows (cX0_weight.data.toList.drop 52) 52 [(52, some (.ireturn), 1), (53, some (.iload_n 1), 1), (54, some (.iconst 4), 1), (55, some (.if_icmp .ge 7), 3), (58, some (.iconst 1), 1), (59, some (.goto 24), 3), (62, some (.iload_n 1), 1), (63, some (.bipush 16), 2), (65, some (.if_icmp .ge 7), 3), (68, some (.iconst 2), 1), (69, some (.goto 14), 3), (72, some (.iload_n 1), 1), (73, some (.bipush 64), 2), (75, some (.if_icmp .ge 7), 3), (78, some (.iconst 3), 1), (79, some (.goto 4), 3)] = true := by decide +kernel
theorem adX0_weight_2 : fd_rows (cX0_weight.data.toList.drop 82) 82 [(82, some (.iconst 4), 1), (83, some (.istore_n 2), 1), (84, some (.iload_n 1), 1), (85, some (.iconst 2), 1), (86, some (.iconst 4), 1), (87, some (.iload_n 2), 1), (88, some (.isub), 1), (89, some (.imul), 1), (90, some (.ishl), 1), (91, some (.istore_n 3), 1), (92, some (.iload_n 3), 1), (93, some (.iconst 4), 1), (94, some (.imul), 1), (95, some (.iload_n 2), 1), (96, some (.iadd), 1), (97, some (.iconst 1), 1)] = true := by decide +kernel
theorem adX0_weight_3 : fd_rows (cX0_weight.data.toList.drop 98) 98 [(98, some (.isub), 1), (99, some (.ireturn), 1)] = true := by decide +kernel
theorem dX0_weight_0 : decode cX0_weight 0 = .ok (.aload_n 0, 1) := fd_get adX0_weight_0 (k := 0) rfl
theorem dX0_weight_1 : decode cX0_weight 1 = .ok (.getfield 22, 3) := fd_get adX0_weight_0 (k := 1) rfl
theorem dX0_weight_4 : decode cX0_weight 4 = .ok (.lookupswitch 49 #[(0, 28), (1, 30)], 28) := by decide +kernel
theorem dX0_weight_32 : decode cX0_weight 32 = .ok (.iload_n 1, 1) := fd_get adX0_weight_0 (k := 3) rfl
theorem dX0_weight_33 : decode cX0_weight 33 = .ok (.ireturn, 1) := fd_get adX0_weight_0 (k := 4) rfl
theorem dX0_weight_34 : decode cX0_weight 34 = .ok (.iload_n 1, 1) := fd_get adX0_weight_0 (k := 5) rfl
theorem dX0_weight_35 : decode cX0_weight 35 = .ok (.iconst 2, 1) := fd_get adX0_weight_0 (k := 6) rfl
theorem dX0_weight_36 : decode cX0_weight 36 = .ok (.irem, 1) := fd_get adX0_weight_0 (k := 7) rfl
theorem dX0_weight_37 : decode cX0_weight 37 = .ok (.ifCond .ne 10, 3) := fd_get adX0_weight_0 (k := 8) rfl
theorem dX0_weight_40 : decode cX0_weight 40 = .ok (.bipush 100, 2) := fd_get adX0_weight_0 (k := 9) rfl
theorem dX0_weight_42 : decode cX0_weight 42 = .ok (.iload_n 1, 1) := fd_get adX0_weight_0 (k := 10) rfl
theorem dX0_weight_43 : decode cX0_weight 43 = .ok (.isub, 1) := fd_get adX0_weight_0 (k := 11) rfl
theorem dX0_weight_44 : decode cX0_weight 44 = .ok (.goto 8, 3) := fd_get adX0_weight_0 (k := 12) rfl
theorem dX0_weight_47 : decode cX0_weight 47 = .ok (.sipush 200, 3) := fd_get adX0_weight_0 (k := 13) rfl
theorem dX0_weight_50 : decode cX0_weight 50 = .ok (.iload_n 1, 1) := fd_get adX0_weight_0 (k := 14) rfl
theorem dX0_weight_51 : decode cX0_weight 51 = .ok (.isub, 1) := fd_get adX0_weight_0 (k := 15) rfl
theorem dX0_weight_52 : decode cX0_weight 52 = .ok (.ireturn, 1) := fd_get adX0_weight_1 (k := 0) rfl
theorem dX0_weight_53 : decode cX0_weight 53 = .ok (.iload_n 1, 1) := fd_get adX0_weight_1 (k := 1) rfl
theorem dX0_weight_54 : decode cX0_weight 54 = .ok (.iconst 4, 1) := fd_get adX0_weight_1 (k := 2) rfl
theorem dX0_weight_55 : decode cX0_weight 55 = .ok (.if_icmp .ge 7, 3) := fd_get adX0_weight_1 (k := 3) rfl
theorem dX0_weight_58 : decode cX0_weight 58 = .ok (.iconst 1, 1) := fd_get adX0_weight_1 (k := 4) rfl
theorem dX0_weight_59 : decode cX0_weight 59 = .ok (.goto 24, 3) := fd_get adX0_weight_1 (k := 5) rfl
theorem dX0_weight_62 : decode cX0_weight 62 = .ok (.iload_n 1, 1) := fd_get adX0_weight_1 (k := 6) rfl
theorem dX0_weight_63 : decode cX0_weight 63 = .ok (.bipush 16, 2) := fd_get adX0_weight_1 (k := 7) rfl
theorem dX0_weight_65 : decode cX0_weight 65 = .ok (.if_icmp .ge 7, 3) := fd_get adX0_weight_1 (k := 8) rfl
theorem dX0_weight_68 : decode cX0_weight 68 = .ok (.iconst 2, 1) := fd_get adX0_weight_1 (k := 9) rfl
theorem dX0_weight_69 : decode cX0_weight 69 = .ok (.goto 14, 3) := fd_get adX0_weight_1 (k := 10) rfl
theorem dX0_weight_72 : decode cX0_weight 72 = .ok (.iload_n 1, 1) := fd_get adX0_weight_1 (k := 11) rfl
theorem dX0_weight_73 : decode cX0_weight 73 = .ok (.bipush 64, 2) := fd_get adX0_weight_1 (k := 12) rfl
theorem dX0_weight_75 : decode cX0_weight 75 = .ok (.if_icmp .ge 7, 3) := fd_get adX0_weight_1 (k := 13) rfl
theorem dX0_weight_78 : decode cX0_weight 78 = .ok (.iconst 3, 1) := fd_get adX0_weight_1 (k := 14) rfl
theorem dX0_weight_79 : decode cX0_weight 79 = .ok (.goto 4, 3) := fd_get adX0_weight_1 (k := 15) rfl
theorem dX0_weight_82 : decode cX0_weight 82 = .ok (.iconst 4, 1) := fd_get adX0_weight_2 (k := 0) rfl
theorem dX0_weight_83 : decode cX0_weight 83 = .ok (.istore_n 2, 1) := fd_get adX0_weight_2 (k := 1) rfl
theorem dX0_weight_84 : decode cX0_weight 84 = .ok (.iload_n 1, 1) := fd_get adX0_weight_2 (k := 2) rfl
theorem dX0_weight_85 : decode cX0_weight 85 = .ok (.iconst 2, 1) := fd_get adX0_weight_2 (k := 3) rfl
theorem dX0_weight_86 : decode cX0_weight 86 = .ok (.iconst 4, 1) := fd_get adX0_weight_2 (k := 4) rfl
theorem dX0_weight_87 : decode cX0_weight 87 = .ok (.iload_n 2, 1) := fd_get adX0_weight_2 (k := 5) rfl
theorem dX0_weight_88 : decode cX0_weight 88 = .ok (.isub, 1) := fd_get adX0_weight_2 (k := 6) rfl
theorem dX0_weight_89 : decode cX0_weight 89 = .ok (.imul, 1) := fd_get adX0_weight_2 (k := 7) rfl
theorem dX0_weight_90 : decode cX0_weight 90 = .ok (.ishl, 1) := fd_get adX0_weight_2 (k := 8) rfl
theorem dX0_weight_91 : decode cX0_weight 91 = .ok (.istore_n 3, 1) := fd_get adX0_weight_2 (k := 9) rfl
theorem dX0_weight_92 : decode cX0_weight 92 = .ok (.iload_n 3, 1) := fd_get adX0_weight_2 (k := 10) rfl
theorem dX0_weight_93 : decode cX0_weight 93 = .ok (.iconst 4, 1) := fd_get adX0_weight_2 (k := 11) rfl
theorem dX0_weight_94 : decode cX0_weight 94 = .ok (.imul, 1) := fd_get adX0_weight_2 (k := 12) rfl
theorem dX0_weight_95 : decode cX0_weight 95 = .ok (.iload_n 2, 1) := fd_get adX0_weight_2 (k := 13) rfl
theorem dX0_weight_96 : decode cX0_weight 96 = .ok (.iadd, 1) := fd_get adX0_weight_2 (k := 14) rfl
theorem dX0_weight_97 : decode cX0_weight 97 = .ok (.iconst 1, 1) := fd_get adX0_weight_2 (k := 15) rfl
theorem dX0_weight_98 : decode cX0_weight 98 = .ok (.isub, 1) := fd_get adX0_weight_3 (k := 0) rfl
theorem dX0_weight_99 : decode cX0_weight 99 = .ok (.ireturn, 1) := fd_get adX0_weight_3 (k := 1) rfl
theorem mwsX0_placeOfWeight_0 : ∀ w ∈ wsX00, w ∈ wsX0_placeOfWeight := fun w h => (List.mem_cons_of_mem _ (List.mem_append_right _ h))
set_option maxRecDepth 20000 in
theorem ggX0_placeOfWeight_X0_weight : GoodIn wsX0_placeOfWeight wsX0_weight := goodIn_sub (List.forall_mem_cons.mpr ⟨(List.mem_cons_of_mem _ (List.mem_append_left _ (List.mem_of_getElem? (i := 6) rfl))), (List.forall_mem_cons.mpr ⟨(List.mem_cons_of_mem _ (List.mem_append_left _ (List.mem_of_getElem? (i := 7) rfl))), (tk_mem 7 _ (fun w h => (mwsX0_placeOfWeight_0 _ (tkB_mem 0 7 h))) (fun _ h => absurd h List.not_mem_nil))⟩)⟩) (by decide +kernel)
set_option maxRecDepth 20000 in
theorem gX0_placeOfWeight_X0_weight : GoodIn wsX0_placeOfWeight (wsV RX0 34 RX0 yX0_weight wsX0_weight) := goodIn_app (goodIn_sub (tk_mem 4 _ (fun w h => (List.mem_cons_of_mem _ (List.mem_append_left _ (tkB_mem 2 4 h)))) (fun _ h => absurd h List.not_mem_nil)) (by decide +kernel)) ggX0_placeOfWeight_X0_weight
theorem adX0_placeOfWeight_0 : fd_rows (cX0_placeOfWeight.data.toList.drop 0) 0 [(0, some (.iconst 0), 1), (1, some (.istore_n 2), 1), (2, some (.aload_n 0), 1), (3, some (.getfield 25), 3), (6, some (.istore_n 3), 1), (7, some (.iconst 0), 1), (8, some (.istore 4), 2), (10, some (.iload 4), 2), (12, some (.bipush 100), 2), (14, some (.if_icmp .ge 47), 3), (17, some (.iload_n 2), 1), (18, some (.iload_n 3), 1), (19, some (.if_icmp .ge 42), 3), (22, some (.iload_n 2), 1), (23, some (.iload_n 3), 1), (24, some (.iadd), 1)] = true := by decide +kernel
theorem adX0_placeOfWeight_1 : fd_rows (cX0_placeOfWeight.data.toList.drop 25) 25 [(25, some (.iconst 2), 1), (26, some (.idiv), 1), (27, some (.istore 5), 2), (29, some (.aload_n 0), 1), (30, some (.aload_n 0), 1), (31, some (.getfield 15), 3), (34, some (.iload 5), 2), (36, some (.iaload), 1), (37, some (.invokevirtual 34), 3), (40, some (.iload_n 1), 1), (41, some (.if_icmp .ge 11), 3), (44, some (.iload 5), 2), (46, some (.iconst 1), 1), (47, some (.iadd), 1), (48, some (.istore_n 2), 1), (49, some (.goto 6), 3)] = true := by decide +kernel
theorem adX0_placeOfWeight_2 : fd_rows (cX0_placeOfWeight.data.toList.drop 52) 52 [(52, some (.iload 5), 2), (54, some (.istore_n 3), 1), (55, some (.iinc 4 1), 3), (58, some (.goto (-48)), 3), (61, some (.iload_n 2), 1), (62, some (.ireturn), 1)] = true := by decide +kernel
theorem dX0_placeOfWeight_0 : decode cX0_placeOfWeight 0 = .ok (.iconst 0, 1) := fd_get adX0_placeOfWeight_0 (k := 0) rfl
theorem dX0_placeOfWeight_1 : decode cX0_placeOfWeight 1 = .ok (.istore_n 2, 1) := fd_get adX0_placeOfWeight_0 (k := 1) rfl
theorem dX0_placeOfWeight_2 : decode cX0_placeOfWeight 2 = .ok (.aload_n 0, 1) := fd_get adX0_placeOfWeight_0 (k := 2) rfl
theorem dX0_placeOfWeight_3 : decode cX0_placeOfWeight 3 = .ok (.getfield 25, 3) := fd_get adX0_placeOfWeight_0 (k := 3) rfl
theorem dX0_placeOfWeight_6 : decode cX0_placeOfWeight 6 = .ok (.istore_n 3, 1) := fd_get adX0_placeOfWeight_0 (k := 4) rfl
theorem dX0_placeOfWeight_7 : decode cX0_placeOfWeight 7 = .ok (.iconst 0, 1) := fd_get adX0_placeOfWeight_0 (k := 5) rfl
theorem dX0_placeOfWeight_8 : decode cX0_placeOfWeight 8 = .ok (.istore 4, 2) := fd_get adX0_placeOfWeight_0 (k := 6) rfl
theorem dX0_placeOfWeight_10 : decode cX0_placeOfWeight 10 = .ok (.iload 4, 2) := fd_get adX0_placeOfWeight_0 (k := 7) rfl
theorem dX0_placeOfWeight_12 : decode cX0_placeOfWeight 12 = .ok (.bipush 100, 2) := fd_get adX0_placeOfWeight_0 (k := 8) rfl
theorem dX0_placeOfWeight_14 : decode cX0_placeOfWeight 14 = .ok (.if_icmp .ge 47, 3) := fd_get adX0_placeOfWeight_0 (k := 9) rfl
theorem dX0_placeOfWeight_17 : decode cX0_placeOfWeight 17 = .ok (.iload_n 2, 1) := fd_get adX0_placeOfWeight_0 (k := 10) rfl
theorem dX0_placeOfWeight_18 : decode cX0_placeOfWeight 18 = .ok (.iload_n 3, 1) := fd_get adX0_placeOfWeight_0 (k := 11) rfl
theorem dX0_placeOfWeight_19 : decode cX0_placeOfWeight 19 = .ok (.if_icmp .ge 42, 3) := fd_get adX0_placeOfWeight_0 (k := 12) rfl
theorem dX0_placeOfWeight_22 : decode cX0_placeOfWeight 22 = .ok (.iload_n 2, 1) := fd_get adX0_placeOfWeight_0 (k := 13) rfl
theorem dX0_placeOfWeight_23 : decode cX0_placeOfWeight 23 = .ok (.iload_n 3, 1) := fd_get adX0_placeOfWeight_0 (k := 14) rfl
theorem dX0_placeOfWeight_24 : decode cX0_placeOfWeight 24 = .ok (.iadd, 1) := fd_get adX0_placeOfWeight_0 (k := 15) rfl
theorem dX0_placeOfWeight_25 : decode cX0_placeOfWeight 25 = .ok (.iconst 2, 1) := fd_get adX0_placeOfWeight_1 (k := 0) rfl
theorem dX0_placeOfWeight_26 : decode cX0_placeOfWeight 26 = .ok (.idiv, 1) := fd_get adX0_placeOfWeight_1 (k := 1) rfl
theorem dX0_placeOfWeight_27 : decode cX0_placeOfWeight 27 = .ok (.istore 5, 2) := fd_get adX0_placeOfWeight_1 (k := 2) rfl
theorem dX0_placeOfWeight_29 : decode cX0_placeOfWeight 29 = .ok (.aload_n 0, 1) := fd_get adX0_placeOfWeight_1 (k := 3) rfl
theorem dX0_placeOfWeight_30 : decode cX0_placeOfWeight 30 = .ok (.aload_n 0, 1) := fd_get adX0_placeOfWeight_1 (k := 4) rfl
theorem dX0_placeOfWeight_31 : decode cX0_placeOfWeight 31 = .ok (.getfield 15, 3) := fd_get adX0_placeOfWeight_1 (k := 5) rfl
theorem dX0_placeOfWeight_34 : decode cX0_placeOfWeight 34 = .ok (.iload 5, 2) := fd_get adX0_placeOfWeight_1 (k := 6) rfl
theorem dX0_placeOfWeight_36 : decode cX0_placeOfWeight 36 = .ok (.iaload, 1) := fd_get adX0_placeOfWeight_1 (k := 7) rfl
theorem dX0_placeOfWeight_37 : decode cX0_placeOfWeight 37 = .ok (.invokevirtual 34, 3) := fd_get adX0_placeOfWeight_1 (k := 8) rfl
theorem dX0_placeOfWeight_40 : decode cX0_placeOfWeight 40 = .ok (.iload_n 1, 1) := fd_get adX0_placeOfWeight_1 (k := 9) rfl
theorem dX0_placeOfWeight_41 : decode cX0_placeOfWeight 41 = .ok (.if_icmp .ge 11, 3) := fd_get adX0_placeOfWeight_1 (k := 10) rfl
theorem dX0_placeOfWeight_44 : decode cX0_placeOfWeight 44 = .ok (.iload 5, 2) := fd_get adX0_placeOfWeight_1 (k := 11) rfl
theorem dX0_placeOfWeight_46 : decode cX0_placeOfWeight 46 = .ok (.iconst 1, 1) := fd_get adX0_placeOfWeight_1 (k := 12) rfl
theorem dX0_placeOfWeight_47 : decode cX0_placeOfWeight 47 = .ok (.iadd, 1) := fd_get adX0_placeOfWeight_1 (k := 13) rfl
theorem dX0_placeOfWeight_48 : decode cX0_placeOfWeight 48 = .ok (.istore_n 2, 1) := fd_get adX0_placeOfWeight_1 (k := 14) rfl
theorem dX0_placeOfWeight_49 : decode cX0_placeOfWeight 49 = .ok (.goto 6, 3) := fd_get adX0_placeOfWeight_1 (k := 15) rfl
theorem dX0_placeOfWeight_52 : decode cX0_placeOfWeight 52 = .ok (.iload 5, 2) := fd_get adX0_placeOfWeight_2 (k := 0) rfl
theorem dX0_placeOfWeight_54 : decode cX0_placeOfWeight 54 = .ok (.istore_n 3, 1) := fd_get adX0_placeOfWeight_2 (k := 1) rfl
theorem dX0_placeOfWeight_55 : decode cX0_placeOfWeight 55 = .ok (.iinc 4 1, 3) := fd_get adX0_placeOfWeight_2 (k := 2) rfl
theorem dX0_placeOfWeight_58 : decode cX0_placeOfWeight 58 = .ok (.goto (-48), 3) := fd_get adX0_placeOfWeight_2 (k := 3) rfl
theorem dX0_placeOfWeight_61 : decode cX0_placeOfWeight 61 = .ok (.iload_n 2, 1) := fd_get adX0_placeOfWeight_2 (k := 4) rfl
theorem dX0_placeOfWeight_62 : decode cX0_placeOfWeight 62 = .ok (.ireturn, 1) := fd_get adX0_placeOfWeight_2 (k := 5) rfl
theorem mwsX0_placeOf_0 : ∀ w ∈ wsX00, w ∈ wsX0_placeOf := fun w h => (List.mem_cons_of_mem _ (List.mem_append_right _ h))
set_option maxRecDepth 20000 in
theorem ggX0_placeOf_X0_weight : GoodIn wsX0_placeOf wsX0_weight := goodIn_sub (List.forall_mem_cons.mpr ⟨(List.mem_cons_of_mem _ (List.mem_append_left _ (List.mem_of_getElem? (i := 4) rfl))), (List.forall_mem_cons.mpr ⟨(List.mem_cons_of_mem _ (List.mem_append_left _ (List.mem_of_getElem? (i := 5) rfl))), (tk_mem 7 _ (fun w h => (mwsX0_placeOf_0 _ (tkB_mem 0 7 h))) (fun _ h => absurd h List.not_mem_nil))⟩)⟩) (by decide +kernel)
set_option maxRecDepth 20000 in
theorem gX0_placeOf_X0_weight : GoodIn wsX0_placeOf (wsV RX0 34 RX0 yX0_weight wsX0_weight) := goodIn_app (goodIn_sub (tk_mem 4 _ (fun w h => (List.mem_cons_of_mem _ (List.mem_append_left _ (tkB_mem 0 4 h)))) (fun _ h => absurd h List.not_mem_nil)) (by decide +kernel)) ggX0_placeOf_X0_weight
set_option maxRecDepth 20000 in
theorem ggX0_placeOf_X0_placeOfWeight : GoodIn wsX0_placeOf wsX0_placeOfWeight := goodIn_sub (List.forall_mem_cons.mpr ⟨(List.mem_cons_of_mem _ (List.mem_append_left _ (List.mem_of_getElem? (i := 9) rfl))), (List.forall_mem_cons.mpr ⟨(List.mem_cons_of_mem _ (List.mem_append_left _ (List.mem_of_getElem? (i := 10) rfl))), (List.forall_mem_cons.mpr ⟨(List.mem_cons_of_mem _ (List.mem_append_left _ (List.mem_of_getElem? (i := 11) rfl))), (tk_mem 6 _ (fun w h => (List.mem_cons_of_mem _ (List.mem_append_left _ (tkB_mem 0 6 h)))) (tk_mem 7 _ (fun w h => (mwsX0_placeOf_0 _ (tkB_mem 0 7 h))) (fun _ h => absurd h List.not_mem_nil)))⟩)⟩)⟩) (by decide +kernel)
set_option maxRecDepth 20000 in
theorem gX0_placeOf_X0_placeOfWeight : GoodIn wsX0_placeOf (wsV RX0 38 RX0 yX0_placeOfWeight wsX0_placeOfWeight) := goodIn_app (goodIn_sub (List.forall_mem_cons.mpr ⟨(List.mem_cons_of_mem _ (List.mem_append_left _ (List.mem_of_getElem? (i := 6) rfl))), (List.forall_mem_cons.mpr ⟨(List.mem_cons_of_mem _ (List.mem_append_left _ (List.mem_of_getElem? (i := 7) rfl))), (List.forall_mem_cons.mpr ⟨(List.mem_cons_of_mem _ (List.mem_append_left _ (List.mem_of_getElem? (i := 8) rfl))), (List.forall_mem_cons.mpr ⟨(List.mem_cons_of_mem _ (List.mem_append_left _ (List.mem_of_getElem? (i := 3) rfl))), (fun _ h => absurd h List.not_mem_nil)⟩)⟩)⟩)⟩) (by decide +kernel)) ggX0_placeOf_X0_placeOfWeight
theorem adX0_placeOf_0 : fd_rows (cX0_placeOf.data.toList.drop 0) 0 [(0, some (.aload_n 0), 1), (1, some (.aload_n 0), 1), (2, some (.iload_n 1), 1), (3, some (.invokevirtual 34), 3), (6, some (.invokevirtual 38), 3), (9, some (.ireturn), 1)] = true := by decide +kernel
theorem dX0_placeOf_0 : decode cX0_placeOf 0 = .ok (.aload_n 0, 1) := fd_get adX0_placeOf_0 (k := 0) rfl
theorem dX0_placeOf_1 : decode cX0_placeOf 1 = .ok (.aload_n 0, 1) := fd_get adX0_placeOf_0 (k := 1) rfl
theorem dX0_placeOf_2 : decode cX0_placeOf 2 = .ok (.iload_n 1, 1) := fd_get adX0_placeOf_0 (k := 2) rfl
theorem dX0_placeOf_3 : decode cX0_placeOf 3 = .ok (.invokevirtual 34, 3) := fd_get adX0_placeOf_0 (k := 3) rfl
theorem dX0_placeOf_6 : decode cX0_placeOf 6 = .ok (.invokevirtual 38, 3) := fd_get adX0_placeOf_0 (k := 4) rfl
theorem dX0_placeOf_9 : decode cX0_placeOf 9 = .ok (.ireturn, 1) := fd_get adX0_placeOf_0 (k := 5) rfl
theorem mwsX0_placeBehind_0 : ∀ w ∈ wsX00, w ∈ wsX0_placeBehind := fun w h => (List.mem_cons_of_mem _ (List.mem_append_right _ h))
set_option maxRecDepth 20000 in
theorem ggX0_placeBehind_X0_weight : GoodIn wsX0_placeBehind wsX0_weight := goodIn_sub (List.forall_mem_cons.mpr ⟨(List.mem_cons_of_mem _ (List.mem_append_left _ (List.mem_of_getElem? (i := 4) rfl))), (List.forall_mem_cons.mpr ⟨(List.mem_cons_of_mem _ (List.mem_append_left _ (List.mem_of_getElem? (i := 5) rfl))), (tk_mem 7 _ (fun w h => (mwsX0_placeBehind_0 _ (tkB_mem 0 7 h))) (fun _ h => absurd h List.not_mem_nil))⟩)⟩) (by decide +kernel)
set_option maxRecDepth 20000 in
theorem gX0_placeBehind_X0_weight : GoodIn wsX0_placeBehind (wsV RX0 34 RX0 yX0_weight wsX0_weight) := goodIn_app (goodIn_sub (tk_mem 4 _ (fun w h => (List.mem_cons_of_mem _ (List.mem_append_left _ (tkB_mem 0 4 h)))) (fun _ h => absurd h List.not_mem_nil)) (by decide +kernel)) ggX0_placeBehind_X0_weight
set_option maxRecDepth 20000 in
theorem ggX0_placeBehind_X0_placeOfWeight : GoodIn wsX0_placeBehind wsX0_placeOfWeight := goodIn_sub (List.forall_mem_cons.mpr ⟨(List.mem_cons_of_mem _ (List.mem_append_left _ (List.mem_of_getElem? (i := 9) rfl))), (List.forall_mem_cons.mpr ⟨(List.mem_cons_of_mem _ (List.mem_append_left _ (List.mem_of_getElem? (i := 10) rfl))), (List.forall_mem_cons.mpr ⟨(List.mem_cons_of_mem _ (List.mem_append_left _ (List.mem_of_getElem? (i := 11) rfl))), (tk_mem 6 _ (fun w h => (List.mem_cons_of_mem _ (List.mem_append_left _ (tkB_mem 0 6 h)))) (tk_mem 7 _ (fun w h => (mwsX0_placeBehind_0 _ (tkB_mem 0 7 h))) (fun _ h => absurd h List.not_mem_nil)))⟩)⟩)⟩) (by decide +kernel)
set_option maxRecDepth 20000 in
theorem gX0_placeBehind_X0_placeOfWeight : GoodIn wsX0_placeBehind (wsV RX0 38 RX0 yX0_placeOfWeight wsX0_placeOfWeight) := goodIn_app (goodIn_sub (List.forall_mem_cons.mpr ⟨(List.mem_cons_of_mem _ (List.mem_append_left _ (List.mem_of_getElem? (i := 6) rfl))), (List.forall_mem_cons.mpr ⟨(List.mem_cons_of_mem _ (List.mem_append_left _ (List.mem_of_getElem? (i := 7) rfl))), (List.forall_mem_cons.mpr ⟨(List.mem_cons_of_mem _ (List.mem_append_left _ (List.mem_of_getElem? (i := 8) rfl))), (List.forall_mem_cons.mpr ⟨(List.mem_cons_of_mem _ (List.mem_append_left _ (List.mem_of_getElem? (i := 3) rfl))), (fun _ h => absurd h List.not_mem_nil)⟩)⟩)⟩)⟩) (by decide +kernel)) ggX0_placeBehind_X0_placeOfWeight
theorem adX0_placeBehind_0 : fd_rows (cX0_placeBehind.data.toList.drop 0) 0 [(0, some (.aload_n 0), 1), (1, some (.aload_n 0), 1), (2, some (.iload_n 1), 1), (3, some (.invokevirtual 34), 3), (6, some (.iconst 1), 1), (7, some (.iadd), 1), (8, some (.invokevirtual 38), 3), (11, some (.ireturn), 1)] = true := by decide +kernel
theorem dX0_placeBehind_0 : decode cX0_placeBehind 0 = .ok (.aload_n 0, 1) := fd_get adX0_placeBehind_0 (k := 0) rfl
theorem dX0_placeBehind_1 : decode cX0_placeBehind 1 = .ok (.aload_n 0, 1) := fd_get adX0_placeBehind_0 (k := 1) rfl
theorem dX0_placeBehind_2 : decode cX0_placeBehind 2 = .ok (.iload_n 1, 1) := fd_get adX0_placeBehind_0 (k := 2) rfl
theorem dX0_placeBehind_3 : decode cX0_placeBehind 3 = .ok (.invokevirtual 34, 3) := fd_get adX0_placeBehind_0 (k := 3) rfl
theorem dX0_placeBehind_6 : decode cX0_placeBehind 6 = .ok (.iconst 1, 1) := fd_get adX0_placeBehind_0 (k := 4) rfl
theorem dX0_placeBehind_7 : decode cX0_placeBehind 7 = .ok (.iadd, 1) := fd_get adX0_placeBehind_0 (k := 5) rfl
theorem dX0_placeBehind_8 : decode cX0_placeBehind 8 = .ok (.invokevirtual 38, 3) := fd_get adX0_placeBehind_0 (k := 6) rfl
theorem dX0_placeBehind_11 : decode cX0_placeBehind 11 = .ok (.ireturn, 1) := fd_get adX0_placeBehind_0 (k := 7) rfl
theorem adX0_isPlace_0 : fd_rows (cX0_isPlace.data.toList.drop 0) 0 [(0, some (.iload_n 1), 1), (1, some (.ifCond .lt 15), 3), (4, some (.iload_n 1), 1), (5, some (.aload_n 0), 1), (6, some (.getfield 25), 3), (9, some (.if_icmp .ge 7), 3), (12, some (.iconst 1), 1), (13, some (.goto 4), 3), (16, some (.iconst 0), 1), (17, some (.ireturn), 1)] = true := by decide +kernel
theorem dX0_isPlace_0 : decode cX0_isPlace 0 = .ok (.iload_n 1, 1) := fd_get adX0_isPlace_0 (k := 0) rfl
theorem dX0_isPlace_1 : decode cX0_isPlace 1 = .ok (.ifCond .lt 15, 3) := fd_get adX0_isPlace_0 (k := 1) rfl
theorem dX0_isPlace_4 : decode cX0_isPlace 4 = .ok (.iload_n 1, 1) := fd_get adX0_isPlace_0 (k := 2) rfl
theorem dX0_isPlace_5 : decode cX0_isPlace 5 = .ok (.aload_n 0, 1) := fd_get adX0_isPlace_0 (k := 3) rfl
theorem dX0_isPlace_6 : decode cX0_isPlace 6 = .ok (.getfield 25, 3) := fd_get adX0_isPlace_0 (k := 4) rfl
theorem dX0_isPlace_9 : decode cX0_isPlace 9 = .ok (.if_icmp .ge 7, 3) := fd_get adX0_isPlace_0 (k := 5) rfl
theorem dX0_isPlace_12 : decode cX0_isPlace 12 = .ok (.iconst 1, 1) := fd_get adX0_isPlace_0 (k := 6) rfl
theorem dX0_isPlace_13 : decode cX0_isPlace 13 = .ok (.goto 4, 3) := fd_get adX0_isPlace_0 (k := 7) rfl
theorem dX0_isPlace_16 : decode cX0_isPlace 16 = .ok (.iconst 0, 1) := fd_get adX0_isPlace_0 (k := 8) rfl
theorem dX0_isPlace_17 : decode cX0_isPlace 17 = .ok (.ireturn, 1) := fd_get adX0_isPlace_0 (k := 9) rfl
theorem mwsX0_keyAt_0 : ∀ w ∈ wsX00, w ∈ wsX0_keyAt := fun w h => (List.mem_cons_of_mem _ (List.mem_append_right _ h))
set_option maxRecDepth 20000 in
theorem ggX0_keyAt_X0_isPlace : GoodIn wsX0_keyAt wsX0_isPlace := goodIn_sub (List.forall_mem_cons.mpr ⟨(List.mem_cons_of_mem _ (List.mem_append_left _ (List.mem_of_getElem? (i := 5) rfl))), (List.forall_mem_cons.mpr ⟨(List.mem_cons_of_mem _ (List.mem_append_left _ (List.mem_of_getElem? (i := 6) rfl))), (tk_mem 7 _ (fun w h => (mwsX0_keyAt_0 _ (tkB_mem 0 7 h))) (fun _ h => absurd h List.not_mem_nil))⟩)⟩) (by decide +kernel)
set_option maxRecDepth 20000 in
theorem gX0_keyAt_X0_isPlace : GoodIn wsX0_keyAt (wsV RX0 41 RX0 yX0_isPlace wsX0_isPlace) := goodIn_app (goodIn_sub (tk_mem 4 _ (fun w h => (List.mem_cons_of_mem _ (List.mem_append_left _ (tkB_mem 1 4 h)))) (fun _ h => absurd h List.not_mem_nil)) (by decide +kernel)) ggX0_keyAt_X0_isPlace
theorem adX0_keyAt_0 : fd_rows (cX0_keyAt.data.toList.drop 0) 0 [(0, some (.aload_n 0), 1), (1, some (.iload_n 1), 1), (2, some (.invokevirtual 41), 3), (5, some (.ifCond .eq 12), 3), (8, some (.aload_n 0), 1), (9, some (.getfield 15), 3), (12, some (.iload_n 1), 1), (13, some (.iaload), 1), (14, some (.goto 6), 3), (17, some (.sipush (-10000)), 3), (20, some (.ireturn), 1)] = true := by decide +kernel
theorem dX0_keyAt_0 : decode cX0_keyAt 0 = .ok (.aload_n 0, 1) := fd_get adX0_keyAt_0 (k := 0) rfl
theorem dX0_keyAt_1 : decode cX0_keyAt 1 = .ok (.iload_n 1, 1) := fd_get adX0_keyAt_0 (k := 1) rfl
theorem dX0_keyAt_2 : decode cX0_keyAt 2 = .ok (.invokevirtual 41, 3) := fd_get adX0_keyAt_0 (k := 2) rfl
theorem dX0_keyAt_5 : decode cX0_keyAt 5 = .ok (.ifCond .eq 12, 3) := fd_get adX0_keyAt_0 (k := 3) rfl
theorem dX0_keyAt_8 : decode cX0_keyAt 8 = .ok (.aload_n 0, 1) := fd_get adX0_keyAt_0 (k := 4) rfl
theorem dX0_keyAt_9 : decode cX0_keyAt 9 = .ok (.getfield 15, 3) := fd_get adX0_keyAt_0 (k := 5) rfl
theorem dX0_keyAt_12 : decode cX0_keyAt 12 = .ok (.iload_n 1, 1) := fd_get adX0_keyAt_0 (k := 6) rfl
theorem dX0_keyAt_13 : decode cX0_keyAt 13 = .ok (.iaload, 1) := fd_get adX0_keyAt_0 (k := 7) rfl
theorem dX0_keyAt_14 : decode cX0_keyAt 14 = .ok (.goto 6, 3) := fd_get adX0_keyAt_0 (k := 8) rfl
theorem dX0_keyAt_17 : decode cX0_keyAt 17 = .ok (.sipush (-10000), 3) := fd_get adX0_keyAt_0 (k := 9) rfl
theorem dX0_keyAt_20 : decode cX0_keyAt 20 = .ok (.ireturn, 1) := fd_get adX0_keyAt_0 (k := 10) rfl
theorem mwsX0_valueAt_0 : ∀ w ∈ wsX00, w ∈ wsX0_valueAt := fun w h => (List.mem_cons_of_mem _ (List.mem_append_right _ h))
set_option maxRecDepth 20000 in
theorem ggX0_valueAt_X0_isPlace : GoodIn wsX0_valueAt wsX0_isPlace := goodIn_sub (List.forall_mem_cons.mpr ⟨(List.mem_cons_of_mem _ (List.mem_append_left _ (List.mem_of_getElem? (i := 5) rfl))), (List.forall_mem_cons.mpr ⟨(List.mem_cons_of_mem _ (List.mem_append_left _ (List.mem_of_getElem? (i := 6) rfl))), (tk_mem 7 _ (fun w h => (mwsX0_valueAt_0 _ (tkB_mem 0 7 h))) (fun _ h => absurd h List.not_mem_nil))⟩)⟩) (by decide +kernel)
set_option maxRecDepth 20000 in
theorem gX0_valueAt_X0_isPlace : GoodIn wsX0_valueAt (wsV RX0 41 RX0 yX0_isPlace wsX0_isPlace) := goodIn_app (goodIn_sub (tk_mem 4 _ (fun w h => (List.mem_cons_of_mem _ (List.mem_append_left _ (tkB_mem 1 4 h)))) (fun _ h => absurd h List.not_mem_nil)) (by decide +kernel)) ggX0_valueAt_X0_isPlace
theorem adX0_valueAt_0 : fd_rows (cX0_valueAt.data.toList.drop 0) 0 [(0, some (.aload_n 0), 1), (1, some (.iload_n 1), 1), (2, some (.invokevirtual 41), 3), (5, some (.ifCond .eq 12), 3), (8, some (.aload_n 0), 1), (9, some (.getfield 19), 3), (12, some (.iload_n 1), 1), (13, some (.iaload), 1), (14, some (.goto 6), 3), (17, some (.sipush (-10000)), 3), (20, some (.ireturn), 1)] = true := by decide +kernel
theorem dX0_valueAt_0 : decode cX0_valueAt 0 = .ok (.aload_n 0, 1) := fd_get adX0_valueAt_0 (k := 0) rfl
theorem dX0_valueAt_1 : decode cX0_valueAt 1 = .ok (.iload_n 1, 1) := fd_get adX0_valueAt_0 (k := 1) rfl
theorem dX0_valueAt_2 : decode cX0_valueAt 2 = .ok (.invokevirtual 41, 3) := fd_get adX0_valueAt_0 (k := 2) rfl
theorem dX0_valueAt_5 : decode cX0_valueAt 5 = .ok (.ifCond .eq 12, 3) := fd_get adX0_valueAt_0 (k := 3) rfl
theorem dX0_valueAt_8 : decode cX0_valueAt 8 = .ok (.aload_n 0, 1) := fd_get adX0_valueAt_0 (k := 4) rfl
theorem dX0_valueAt_9 : decode cX0_valueAt 9 = .ok (.getfield 19, 3) := fd_get adX0_valueAt_0 (k := 5) rfl
theorem dX0_valueAt_12 : decode cX0_valueAt 12 = .ok (.iload_n 1, 1) := fd_get adX0_valueAt_0 (k := 6) rfl
theorem dX0_valueAt_13 : decode cX0_valueAt 13 = .ok (.iaload, 1) := fd_get adX0_valueAt_0 (k := 7) rfl
theorem dX0_valueAt_14 : decode cX0_valueAt 14 = .ok (.goto 6, 3) := fd_get adX0_valueAt_0 (k := 8) rfl
theorem dX0_valueAt_17 : decode cX0_valueAt 17 = .ok (.sipush (-10000), 3) := fd_get adX0_valueAt_0 (k := 9) rfl
theorem dX0_valueAt_20 : decode cX0_valueAt 20 = .ok (.ireturn, 1) := fd_get adX0_valueAt_0 (k := 10) rfl
theorem mwsX0_holds_0 : ∀ w ∈ wsX0_holds_r1, w ∈ wsX0_holds := fun w h => (List.mem_cons_of_mem _ (List.mem_append_left _ (List.mem_append_left _ h)))
theorem mwsX0_holds_1 : ∀ w ∈ wsX0_holds_r2, w ∈ wsX0_holds := fun w h => (List.mem_cons_of_mem _ (List.mem_append_left _ (List.mem_append_right _ h)))
theorem mwsX0_holds_2 : ∀ w ∈ wsX00, w ∈ wsX0_holds := fun w h => (List.mem_cons_of_mem _ (List.mem_append_right _ h))
set_option maxRecDepth 20000 in
theorem ggX0_holds_X0_valueOf : GoodIn wsX0_holds wsX0_valueOf := goodIn_sub (tk_mem 4 _ (fun w h => (mwsX0_holds_0 _ (tkB_mem 4 4 h))) (List.forall_mem_cons.mpr ⟨(mwsX0_holds_0 _ (List.mem_of_getElem? (i := 3) rfl)), (tk_mem 16 _ (fun w h => (mwsX0_holds_0 _ (tkB_mem 8 16 h))) (tk_mem 9 _ (fun w h => (mwsX0_holds_1 _ (tkB_mem 0 9 h))) (tk_mem 7 _ (fun w h => (mwsX0_holds_2 _ (tkB_mem 0 7 h))) (fun _ h => absurd h List.not_mem_nil))))⟩)) (by decide +kernel)
set_option maxRecDepth 20000 in
theorem gX0_holds_X0_valueOf : GoodIn wsX0_holds (wsV RX0 45 RX0 yX0_valueOf wsX0_valueOf) := goodIn_app (goodIn_sub (tk_mem 4 _ (fun w h => (mwsX0_holds_0 _ (tkB_mem 0 4 h))) (fun _ h => absurd h List.not_mem_nil)) (by decide +kernel)) ggX0_holds_X0_valueOf
theorem adX0_holds_0 : fd_rows (cX0_holds.data.toList.drop 0) 0 [(0, some (.aload_n 0), 1), (1, some (.iload_n 1), 1), (2, some (.invokevirtual 45), 3), (5, some (.sipush (-10000)), 3), (8, some (.if_icmp .eq 7), 3), (11, some (.iconst 1), 1), (12, some (.goto 4), 3), (15, some (.iconst 0), 1), (16, some (.ireturn), 1)] = true := by decide +kernel
theorem dX0_holds_0 : decode cX0_holds 0 = .ok (.aload_n 0, 1) := fd_get adX0_holds_0 (k := 0) rfl
theorem dX0_holds_1 : decode cX0_holds 1 = .ok (.iload_n 1, 1) := fd_get adX0_holds_0 (k := 1) rfl
theorem dX0_holds_2 : decode cX0_holds 2 = .ok (.invokevirtual 45, 3) := fd_get adX0_holds_0 (k := 2) rfl
theorem dX0_holds_5 : decode cX0_holds 5 = .ok (.sipush (-10000), 3) := fd_get adX0_holds_0 (k := 3) rfl
theorem dX0_holds_8 : decode cX0_holds 8 = .ok (.if_icmp .eq 7, 3) := fd_get adX0_holds_0 (k := 4) rfl
theorem dX0_holds_11 : decode cX0_holds 11 = .ok (.iconst 1, 1) := fd_get adX0_holds_0 (k := 5) rfl
theorem dX0_holds_12 : decode cX0_holds 12 = .ok (.goto 4, 3) := fd_get adX0_holds_0 (k := 6) rfl
theorem dX0_holds_15 : decode cX0_holds 15 = .ok (.iconst 0, 1) := fd_get adX0_holds_0 (k := 7) rfl
theorem dX0_holds_16 : decode cX0_holds 16 = .ok (.ireturn, 1) := fd_get adX0_holds_0 (k := 8) rfl
theorem mwsX0_valueOf_0 : ∀ w ∈ wsX0_valueOf_r1, w ∈ wsX0_valueOf := fun w h => (List.mem_cons_of_mem _ (List.mem_append_left _ (List.mem_append_left _ h)))
theorem mwsX0_valueOf_1 : ∀ w ∈ wsX0_valueOf_r2, w ∈ wsX0_valueOf := fun w h => (List.mem_cons_of_mem _ (List.mem_append_left _ (List.mem_append_right _ h)))
theorem mwsX0_valueOf_2 : ∀ w ∈ wsX00, w ∈ wsX0_valueOf := fun w h => (List.mem_cons_of_mem _ (List.mem_append_right _ h))
set_option maxRecDepth 20000 in
theorem ggX0_valueOf_X0_placeOf : GoodIn wsX0_valueOf wsX0_placeOf := goodIn_sub (tk_mem 4 _ (fun w h => (mwsX0_valueOf_0 _ (tkB_mem 4 4 h))) (List.forall_mem_cons.mpr ⟨(mwsX0_valueOf_0 _ (List.mem_of_getElem? (i := 3) rfl)), (tk_mem 8 _ (fun w h => (mwsX0_valueOf_0 _ (tkB_mem 8 8 h))) (tk_mem 7 _ (fun w h => (mwsX0_valueOf_2 _ (tkB_mem 0 7 h))) (fun _ h => absurd h List.not_mem_nil)))⟩)) (by decide +kernel)
set_option maxRecDepth 20000 in
theorem gX0_valueOf_X0_placeOf : GoodIn wsX0_valueOf (wsV RX0 48 RX0 yX0_placeOf wsX0_placeOf) := goodIn_app (goodIn_sub (tk_mem 4 _ (fun w h => (mwsX0_valueOf_0 _ (tkB_mem 0 4 h))) (fun _ h => absurd h List.not_mem_nil)) (by decide +kernel)) ggX0_valueOf_X0_placeOf
set_option maxRecDepth 20000 in
theorem ggX0_valueOf_X0_keyAt : GoodIn wsX0_valueOf wsX0_keyAt := goodIn_sub (List.forall_mem_cons.mpr ⟨(mwsX0_valueOf_0 _ (List.mem_of_getElem? (i := 19) rfl)), (List.forall_mem_cons.mpr ⟨(mwsX0_valueOf_0 _ (List.mem_of_getElem? (i := 15) rfl)), (List.forall_mem_cons.mpr ⟨(mwsX0_valueOf_0 _ (List.mem_of_getElem? (i := 20) rfl)), (List.forall_mem_cons.mpr ⟨(mwsX0_valueOf_0 _ (List.mem_of_getElem? (i := 21) rfl)), (List.forall_mem_cons.mpr ⟨(mwsX0_valueOf_0 _ (List.mem_of_getElem? (i := 22) rfl)), (List.forall_mem_cons.mpr ⟨(mwsX0_valueOf_0 _ (List.mem_of_getElem? (i := 3) rfl)), (List.forall_mem_cons.mpr ⟨(mwsX0_valueOf_0 _ (List.mem_of_getElem? (i := 23) rfl)), (List.forall_mem_cons.mpr ⟨(mwsX0_valueOf_0 _ (List.mem_of_getElem? (i := 14) rfl)), (tk_mem 7 _ (fun w h => (mwsX0_valueOf_2 _ (tkB_mem 0 7 h))) (fun _ h => absurd h List.not_mem_nil))⟩)⟩)⟩)⟩)⟩)⟩)⟩)⟩) (by decide +kernel)
set_option maxRecDepth 20000 in
theorem gX0_valueOf_X0_keyAt : GoodIn wsX0_valueOf (wsV RX0 51 RX0 yX0_keyAt wsX0_keyAt) := goodIn_app (goodIn_sub (List.forall_mem_cons.mpr ⟨(mwsX0_valueOf_0 _ (List.mem_of_getElem? (i := 16) rfl)), (List.forall_mem_cons.mpr ⟨(mwsX0_valueOf_0 _ (List.mem_of_getElem? (i := 17) rfl)), (List.forall_mem_cons.mpr ⟨(mwsX0_valueOf_0 _ (List.mem_of_getElem? (i := 18) rfl)), (List.forall_mem_cons.mpr ⟨(mwsX0_valueOf_0 _ (List.mem_of_getElem? (i := 3) rfl)), (fun _ h => absurd h List.not_mem_nil)⟩)⟩)⟩)⟩) (by decide +kernel)) ggX0_valueOf_X0_keyAt
set_option maxRecDepth 20000 in
theorem ggX0_valueOf_X0_valueAt : GoodIn wsX0_valueOf wsX0_valueAt := goodIn_sub (List.forall_mem_cons.mpr ⟨(mwsX0_valueOf_1 _ (List.mem_of_getElem? (i := 3) rfl)), (List.forall_mem_cons.mpr ⟨(mwsX0_valueOf_1 _ (List.mem_of_getElem? (i := 4) rfl)), (List.forall_mem_cons.mpr ⟨(mwsX0_valueOf_0 _ (List.mem_of_getElem? (i := 20) rfl)), (List.forall_mem_cons.mpr ⟨(mwsX0_valueOf_0 _ (List.mem_of_getElem? (i := 21) rfl)), (List.forall_mem_cons.mpr ⟨(mwsX0_valueOf_0 _ (List.mem_of_getElem? (i := 22) rfl)), (List.forall_mem_cons.mpr ⟨(mwsX0_valueOf_0 _ (List.mem_of_getElem? (i := 3) rfl)), (List.forall_mem_cons.mpr ⟨(mwsX0_valueOf_0 _ (List.mem_of_getElem? (i := 23) rfl)), (List.forall_mem_cons.mpr ⟨(mwsX0_valueOf_0 _ (List.mem_of_getElem? (i := 14) rfl)), (tk_mem 7 _ (fun w h => (mwsX0_valueOf_2 _ (tkB_mem 0 7 h))) (fun _ h => absurd h List.not_mem_nil))⟩)⟩)⟩)⟩)⟩)⟩)⟩)⟩) (by decide +kernel)
set_option maxRecDepth 20000 in
theorem gX0_valueOf_X0_valueAt : GoodIn wsX0_valueOf (wsV RX0 54 RX0 yX0_valueAt wsX0_valueAt) := goodIn_app (goodIn_sub (List.forall_mem_cons.mpr ⟨(mwsX0_valueOf_1 _ (List.mem_of_getElem? (i := 0) rfl)), (List.forall_mem_cons.mpr ⟨(mwsX0_valueOf_1 _ (List.mem_of_getElem? (i := 1) rfl)), (List.forall_mem_cons.mpr ⟨(mwsX0_valueOf_1 _ (List.mem_of_getElem? (i := 2) rfl)), (List.forall_mem_cons.mpr ⟨(mwsX0_valueOf_0 _ (List.mem_of_getElem? (i := 3) rfl)), (fun _ h => absurd h List.not_mem_nil)⟩)⟩)⟩)⟩) (by decide +kernel)) ggX0_valueOf_X0_valueAt
theorem adX0_valueOf_0 : fd_rows (cX0_valueOf.data.toList.drop 0) 0 [(0, some (.aload_n 0), 1), (1, some (.iload_n 1), 1), (2, some (.invokevirtual 48), 3), (5, some (.istore_n 2), 1), (6, some (.aload_n 0), 1), (7, some (.iload_n 2), 1), (8, some (.invokevirtual 51), 3), (11, some (.iload_n 1), 1), (12, some (.if_icmp .ne 11), 3), (15, some (.aload_n 0), 1), (16, some (.iload_n 2), 1), (17, some (.invokevirtual 54), 3), (20, some (.goto 6), 3), (23, some (.sipush (-10000)), 3), (26, some (.ireturn), 1)] = true := by decide +kernel
theorem dX0_valueOf_0 : decode cX0_valueOf 0 = .ok (.aload_n 0, 1) := fd_get adX0_valueOf_0 (k := 0) rfl
theorem dX0_valueOf_1 : decode cX0_valueOf 1 = .ok (.iload_n 1, 1) := fd_get adX0_valueOf_0 (k := 1) rfl
theorem dX0_valueOf_2 : decode cX0_valueOf 2 = .ok (.invokevirtual 48, 3) := fd_get adX0_valueOf_0 (k := 2) rfl
theorem dX0_valueOf_5 : decode cX0_valueOf 5 = .ok (.istore_n 2, 1) := fd_get adX0_valueOf_0 (k := 3) rfl
theorem dX0_valueOf_6 : decode cX0_valueOf 6 = .ok (.aload_n 0, 1) := fd_get adX0_valueOf_0 (k := 4) rfl
theorem dX0_valueOf_7 : decode cX0_valueOf 7 = .ok (.iload_n 2, 1) := fd_get adX0_valueOf_0 (k := 5) rfl
theorem dX0_valueOf_8 : decode cX0_valueOf 8 = .ok (.invokevirtual 51, 3) := fd_get adX0_valueOf_0 (k := 6) rfl
theorem dX0_valueOf_11 : decode cX0_valueOf 11 = .ok (.iload_n 1, 1) := fd_get adX0_valueOf_0 (k := 7) rfl
theorem dX0_valueOf_12 : decode cX0_valueOf 12 = .ok (.if_icmp .ne 11, 3) := fd_get adX0_valueOf_0 (k := 8) rfl
theorem dX0_valueOf_15 : decode cX0_valueOf 15 = .ok (.aload_n 0, 1) := fd_get adX0_valueOf_0 (k := 9) rfl
theorem dX0_valueOf_16 : decode cX0_valueOf 16 = .ok (.iload_n 2, 1) := fd_get adX0_valueOf_0 (k := 10) rfl
theorem dX0_valueOf_17 : decode cX0_valueOf 17 = .ok (.invokevirtual 54, 3) := fd_get adX0_valueOf_0 (k := 11) rfl
theorem dX0_valueOf_20 : decode cX0_valueOf 20 = .ok (.goto 6, 3) := fd_get adX0_valueOf_0 (k := 12) rfl
theorem dX0_valueOf_23 : decode cX0_valueOf 23 = .ok (.sipush (-10000), 3) := fd_get adX0_valueOf_0 (k := 13) rfl
theorem dX0_valueOf_26 : decode cX0_valueOf 26 = .ok (.ireturn, 1) := fd_get adX0_valueOf_0 (k := 14) rfl
theorem adX0_firstPlaceOfValue_0 : fd_rows (cX0_firstPlaceOfValue.data.toList.drop 0) 0 [(0, some (.iconst 0), 1), (1, some (.istore_n 2), 1), (2, some (.iload_n 2), 1), (3, some (.aload_n 0), 1), (4, some (.getfield 25), 3), (7, some (.if_icmp .ge 21), 3), (10, some (.aload_n 0), 1), (11, some (.getfield 19), 3), (14, some (.iload_n 2), 1), (15, some (.iaload), 1), (16, some (.iload_n 1), 1), (17, some (.if_icmp .ne 5), 3), (20, some (.iload_n 2), 1), (21, some (.ireturn), 1), (22, some (.iinc 2 1), 3), (25, some (.goto (-23)), 3)] = true := by decide +kernel
theorem adX0_firstPlaceOfValue_1 : fd_rows (cX0_firstPlaceOfValue.data.toList.drop 28) 28 [(28, some (.sipush (-10000)), 3), (31, some (.ireturn), 1)] = true := by decide +kernel
theorem dX0_firstPlaceOfValue_0 : decode cX0_firstPlaceOfValue 0 = .ok (.iconst 0, 1) := fd_get adX0_firstPlaceOfValue_0 (k := 0) rfl
theorem dX0_firstPlaceOfValue_1 : decode cX0_firstPlaceOfValue 1 = .ok (.istore_n 2, 1) := fd_get adX0_firstPlaceOfValue_0 (k := 1) rfl
theorem dX0_firstPlaceOfValue_2 : decode cX0_firstPlaceOfValue 2 = .ok (.iload_n 2, 1) := fd_get adX0_firstPlaceOfValue_0 (k := 2) rfl
theorem dX0_firstPlaceOfValue_3 : decode cX0_firstPlaceOfValue 3 = .ok (.aload_n 0, 1) := fd_get adX0_firstPlaceOfValue_0 (k := 3) rfl
theorem dX0_firstPlaceOfValue_4 : decode cX0_firstPlaceOfValue 4 = .ok (.getfield 25, 3) := fd_get adX0_firstPlaceOfValue_0 (k := 4) rfl
theorem dX0_firstPlaceOfValue_7 : decode cX0_firstPlaceOfValue 7 = .ok (.if_icmp .ge 21, 3) := fd_get adX0_firstPlaceOfValue_0 (k := 5) rfl
theorem dX0_firstPlaceOfValue_10 : decode cX0_firstPlaceOfValue 10 = .ok (.aload_n 0, 1) := fd_get adX0_firstPlaceOfValue_0 (k := 6) rfl
theorem dX0_firstPlaceOfValue_11 : decode cX0_firstPlaceOfValue 11 = .ok (.getfield 19, 3) := fd_get adX0_firstPlaceOfValue_0 (k := 7) rfl
theorem dX0_firstPlaceOfValue_14 : decode cX0_firstPlaceOfValue 14 = .ok (.iload_n 2, 1) := fd_get adX0_firstPlaceOfValue_0 (k := 8) rfl
theorem dX0_firstPlaceOfValue_15 : decode cX0_firstPlaceOfValue 15 = .ok (.iaload, 1) := fd_get adX0_firstPlaceOfValue_0 (k := 9) rfl
theorem dX0_firstPlaceOfValue_16 : decode cX0_firstPlaceOfValue 16 = .ok (.iload_n 1, 1) := fd_get adX0_firstPlaceOfValue_0 (k := 10) rfl
theorem dX0_firstPlaceOfValue_17 : decode cX0_firstPlaceOfValue 17 = .ok (.if_icmp .ne 5, 3) := fd_get adX0_firstPlaceOfValue_0 (k := 11) rfl
theorem dX0_firstPlaceOfValue_20 : decode cX0_firstPlaceOfValue 20 = .ok (.iload_n 2, 1) := fd_get adX0_firstPlaceOfValue_0 (k := 12) rfl
theorem dX0_firstPlaceOfValue_21 : decode cX0_firstPlaceOfValue 21 = .ok (.ireturn, 1) := fd_get adX0_firstPlaceOfValue_0 (k := 13) rfl
theorem dX0_firstPlaceOfValue_22 : decode cX0_firstPlaceOfValue 22 = .ok (.iinc 2 1, 3) := fd_get adX0_firstPlaceOfValue_0 (k := 14) rfl
theorem dX0_firstPlaceOfValue_25 : decode cX0_firstPlaceOfValue 25 = .ok (.goto (-23), 3) := fd_get adX0_firstPlaceOfValue_0 (k := 15) rfl
theorem dX0_firstPlaceOfValue_28 : decode cX0_firstPlaceOfValue 28 = .ok (.sipush (-10000), 3) := fd_get adX0_firstPlaceOfValue_1 (k := 0) rfl
theorem dX0_firstPlaceOfValue_31 : decode cX0_firstPlaceOfValue 31 = .ok (.ireturn, 1) := fd_get adX0_firstPlaceOfValue_1 (k := 1) rfl
theorem adX0_countOfValue_0 : fd_rows (cX0_countOfValue.data.toList.drop 0) 0 [(0, some (.iconst 0), 1), (1, some (.istore_n 2), 1), (2, some (.iconst 0), 1), (3, some (.istore_n 3), 1), (4, some (.iload_n 3), 1), (5, some (.aload_n 0), 1), (6, some (.getfield 25), 3), (9, some (.if_icmp .ge 22), 3), (12, some (.aload_n 0), 1), (13, some (.getfield 19), 3), (16, some (.iload_n 3), 1), (17, some (.iaload), 1), (18, some (.iload_n 1), 1), (19, some (.if_icmp .ne 6), 3), (22, some (.iinc 2 1), 3), (25, some (.iinc 3 1), 3)] = true := by decide +kernel
theorem adX0_countOfValue_1 : fd_rows (cX0_countOfValue.data.toList.drop 28) 28 [(28, some (.goto (-24)), 3), (31, some (.iload_n 2), 1), (32, some (.ireturn), 1)] = true := by decide +kernel
theorem dX0_countOfValue_0 : decode cX0_countOfValue 0 = .ok (.iconst 0, 1) := fd_get adX0_countOfValue_0 (k := 0) rfl
theorem dX0_countOfValue_1 : decode cX0_countOfValue 1 = .ok (.istore_n 2, 1) := fd_get adX0_countOfValue_0 (k := 1) rfl
theorem dX0_countOfValue_2 : decode cX0_countOfValue 2 = .ok (.iconst 0, 1) := fd_get adX0_countOfValue_0 (k := 2) rfl
theorem dX0_countOfValue_3 : decode cX0_countOfValue 3 = .ok (.istore_n 3, 1) := fd_get adX0_countOfValue_0 (k := 3) rfl
theorem dX0_countOfValue_4 : decode cX0_countOfValue 4 = .ok (.iload_n 3, 1) := fd_get adX0_countOfValue_0 (k := 4) rfl
theorem dX0_countOfValue_5 : decode cX0_countOfValue 5 = .ok (.aload_n 0, 1) := fd_get adX0_countOfValue_0 (k := 5) rfl
theorem dX0_countOfValue_6 : decode cX0_countOfValue 6 = .ok (.getfield 25, 3) := fd_get adX0_countOfValue_0 (k := 6) rfl
theorem dX0_countOfValue_9 : decode cX0_countOfValue 9 = .ok (.if_icmp .ge 22, 3) := fd_get adX0_countOfValue_0 (k := 7) rfl
theorem dX0_countOfValue_12 : decode cX0_countOfValue 12 = .ok (.aload_n 0, 1) := fd_get adX0_countOfValue_0 (k := 8) rfl
theorem dX0_countOfValue_13 : decode cX0_countOfValue 13 = .ok (.getfield 19, 3) := fd_get adX0_countOfValue_0 (k := 9) rfl
theorem dX0_countOfValue_16 : decode cX0_countOfValue 16 = .ok (.iload_n 3, 1) := fd_get adX0_countOfValue_0 (k := 10) rfl
theorem dX0_countOfValue_17 : decode cX0_countOfValue 17 = .ok (.iaload, 1) := fd_get adX0_countOfValue_0 (k := 11) rfl
theorem dX0_countOfValue_18 : decode cX0_countOfValue 18 = .ok (.iload_n 1, 1) := fd_get adX0_countOfValue_0 (k := 12) rfl
theorem dX0_countOfValue_19 : decode cX0_countOfValue 19 = .ok (.if_icmp .ne 6, 3) := fd_get adX0_countOfValue_0 (k := 13) rfl
theorem dX0_countOfValue_22 : decode cX0_countOfValue 22 = .ok (.iinc 2 1, 3) := fd_get adX0_countOfValue_0 (k := 14) rfl
theorem dX0_countOfValue_25 : decode cX0_countOfValue 25 = .ok (.iinc 3 1, 3) := fd_get adX0_countOfValue_0 (k := 15) rfl
theorem dX0_countOfValue_28 : decode cX0_countOfValue 28 = .ok (.goto (-24), 3) := fd_get adX0_countOfValue_1 (k := 0) rfl
theorem dX0_countOfValue_31 : decode cX0_countOfValue 31 = .ok (.iload_n 2, 1) := fd_get adX0_countOfValue_1 (k := 1) rfl
theorem dX0_countOfValue_32 : decode cX0_countOfValue 32 = .ok (.ireturn, 1) := fd_get adX0_countOfValue_1 (k := 2) rfl
theorem mwsX0_unlikeValues_0 : ∀ w ∈ wsX00, w ∈ wsX0_unlikeValues := fun w h => (List.mem_cons_of_mem _ (List.mem_append_right _ h))
set_option maxRecDepth 20000 in
theorem ggX0_unlikeValues_X0_firstPlaceOfValue : GoodIn wsX0_unlikeValues wsX0_firstPlaceOfValue := goodIn_sub (List.forall_mem_cons.mpr ⟨(List.mem_cons_of_mem _ (List.mem_append_left _ (List.mem_of_getElem? (i := 6) rfl))), (List.forall_mem_cons.mpr ⟨(List.mem_cons_of_mem _ (List.mem_append_left _ (List.mem_of_getElem? (i := 0) rfl))), (List.forall_mem_cons.mpr ⟨(List.mem_cons_of_mem _ (List.mem_append_left _ (List.mem_of_getElem? (i := 1) rfl))), (tk_mem 7 _ (fun w h => (mwsX0_unlikeValues_0 _ (tkB_mem 0 7 h))) (fun _ h => absurd h List.not_mem_nil))⟩)⟩)⟩) (by decide +kernel)
set_option maxRecDepth 20000 in
theorem gX0_unlikeValues_X0_firstPlaceOfValue : GoodIn wsX0_unlikeValues (wsV RX0 57 RX0 yX0_firstPlaceOfValue wsX0_firstPlaceOfValue) := goodIn_app (goodIn_sub (tk_mem 4 _ (fun w h => (List.mem_cons_of_mem _ (List.mem_append_left _ (tkB_mem 2 4 h)))) (fun _ h => absurd h List.not_mem_nil)) (by decide +kernel)) ggX0_unlikeValues_X0_firstPlaceOfValue
theorem adX0_unlikeValues_0 : fd_rows (cX0_unlikeValues.data.toList.drop 0) 0 [(0, some (.iconst 0), 1), (1, some (.istore_n 1), 1), (2, some (.iconst 0), 1), (3, some (.istore_n 2), 1), (4, some (.iload_n 2), 1), (5, some (.aload_n 0), 1), (6, some (.getfield 25), 3), (9, some (.if_icmp .ge 26), 3), (12, some (.aload_n 0), 1), (13, some (.aload_n 0), 1), (14, some (.getfield 19), 3), (17, some (.iload_n 2), 1), (18, some (.iaload), 1), (19, some (.invokevirtual 57), 3), (22, some (.iload_n 2), 1), (23, some (.if_icmp .ne 6), 3)] = true := by decide +kernel
theorem adX0_unlikeValues_1 : fd_rows (cX0_unlikeValues.data.toList.drop 26) 26 [(26, some (.iinc 1 1), 3), (29, some (.iinc 2 1), 3), (32, some (.goto (-28)), 3), (35, some (.iload_n 1), 1), (36, some (.ireturn), 1)] = true := by decide +kernel
theorem dX0_unlikeValues_0 : decode cX0_unlikeValues 0 = .ok (.iconst 0, 1) := fd_get adX0_unlikeValues_0 (k := 0) rfl
theorem dX0_unlikeValues_1 : decode cX0_unlikeValues 1 = .ok (.istore_n 1, 1) := fd_get adX0_unlikeValues_0 (k := 1) rfl
theorem dX0_unlikeValues_2 : decode cX0_unlikeValues 2 = .ok (.iconst 0, 1) := fd_get adX0_unlikeValues_0 (k := 2) rfl
theorem dX0_unlikeValues_3 : decode cX0_unlikeValues 3 = .ok (.istore_n 2, 1) := fd_get adX0_unlikeValues_0 (k := 3) rfl
theorem dX0_unlikeValues_4 : decode cX0_unlikeValues 4 = .ok (.iload_n 2, 1) := fd_get adX0_unlikeValues_0 (k := 4) rfl
theorem dX0_unlikeValues_5 : decode cX0_unlikeValues 5 = .ok (.aload_n 0, 1) := fd_get adX0_unlikeValues_0 (k := 5) rfl
theorem dX0_unlikeValues_6 : decode cX0_unlikeValues 6 = .ok (.getfield 25, 3) := fd_get adX0_unlikeValues_0 (k := 6) rfl
theorem dX0_unlikeValues_9 : decode cX0_unlikeValues 9 = .ok (.if_icmp .ge 26, 3) := fd_get adX0_unlikeValues_0 (k := 7) rfl
theorem dX0_unlikeValues_12 : decode cX0_unlikeValues 12 = .ok (.aload_n 0, 1) := fd_get adX0_unlikeValues_0 (k := 8) rfl
theorem dX0_unlikeValues_13 : decode cX0_unlikeValues 13 = .ok (.aload_n 0, 1) := fd_get adX0_unlikeValues_0 (k := 9) rfl
theorem dX0_unlikeValues_14 : decode cX0_unlikeValues 14 = .ok (.getfield 19, 3) := fd_get adX0_unlikeValues_0 (k := 10) rfl
theorem dX0_unlikeValues_17 : decode cX0_unlikeValues 17 = .ok (.iload_n 2, 1) := fd_get adX0_unlikeValues_0 (k := 11) rfl
theorem dX0_unlikeValues_18 : decode cX0_unlikeValues 18 = .ok (.iaload, 1) := fd_get adX0_unlikeValues_0 (k := 12) rfl
theorem dX0_unlikeValues_19 : decode cX0_unlikeValues 19 = .ok (.invokevirtual 57, 3) := fd_get adX0_unlikeValues_0 (k := 13) rfl
theorem dX0_unlikeValues_22 : decode cX0_unlikeValues 22 = .ok (.iload_n 2, 1) := fd_get adX0_unlikeValues_0 (k := 14) rfl
theorem dX0_unlikeValues_23 : decode cX0_unlikeValues 23 = .ok (.if_icmp .ne 6, 3) := fd_get adX0_unlikeValues_0 (k := 15) rfl
theorem dX0_unlikeValues_26 : decode cX0_unlikeValues 26 = .ok (.iinc 1 1, 3) := fd_get adX0_unlikeValues_1 (k := 0) rfl
theorem dX0_unlikeValues_29 : decode cX0_unlikeValues 29 = .ok (.iinc 2 1, 3) := fd_get adX0_unlikeValues_1 (k := 1) rfl
theorem dX0_unlikeValues_32 : decode cX0_unlikeValues 32 = .ok (.goto (-28), 3) := fd_get adX0_unlikeValues_1 (k := 2) rfl
theorem dX0_unlikeValues_35 : decode cX0_unlikeValues 35 = .ok (.iload_n 1, 1) := fd_get adX0_unlikeValues_1 (k := 3) rfl
theorem dX0_unlikeValues_36 : decode cX0_unlikeValues 36 = .ok (.ireturn, 1) := fd_get adX0_unlikeValues_1 (k := 4) rfl
theorem mwsX0_sum_0 : ∀ w ∈ wsX00, w ∈ wsX0_sum := fun w h => (List.mem_cons_of_mem _ (List.mem_append_right _ h))
set_option maxRecDepth 20000 in
theorem ggX0_sum_X0_isPlace : GoodIn wsX0_sum wsX0_isPlace := goodIn_sub (List.forall_mem_cons.mpr ⟨(List.mem_cons_of_mem _ (List.mem_append_left _ (List.mem_of_getElem? (i := 5) rfl))), (List.forall_mem_cons.mpr ⟨(List.mem_cons_of_mem _ (List.mem_append_left _ (List.mem_of_getElem? (i := 6) rfl))), (tk_mem 7 _ (fun w h => (mwsX0_sum_0 _ (tkB_mem 0 7 h))) (fun _ h => absurd h List.not_mem_nil))⟩)⟩) (by decide +kernel)
set_option maxRecDepth 20000 in
theorem gX0_sum_X0_isPlace : GoodIn wsX0_sum (wsV RX0 41 RX0 yX0_isPlace wsX0_isPlace) := goodIn_app (goodIn_sub (tk_mem 4 _ (fun w h => (List.mem_cons_of_mem _ (List.mem_append_left _ (tkB_mem 1 4 h)))) (fun _ h => absurd h List.not_mem_nil)) (by decide +kernel)) ggX0_sum_X0_isPlace
theorem adX0_sum_0 : fd_rows (cX0_sum.data.toList.drop 0) 0 [(0, some (.iconst 0), 1), (1, some (.istore_n 3), 1), (2, some (.iload_n 1), 1), (3, some (.istore 4), 2), (5, some (.iload 4), 2), (7, some (.iload_n 2), 1), (8, some (.if_icmp .ge 28), 3), (11, some (.aload_n 0), 1), (12, some (.iload 4), 2), (14, some (.invokevirtual 41), 3), (17, some (.ifCond .eq 13), 3), (20, some (.iload_n 3), 1), (21, some (.aload_n 0), 1), (22, some (.getfield 19), 3), (25, some (.iload 4), 2), (27, some (.iaload), 1)] = true := by decide +kernel
theorem adX0_sum_1 : fd_rows (cX0_sum.data.toList.drop 28) 28 [(28, some (.iadd), 1), (29, some (.istore_n 3), 1), (30, some (.iinc 4 1), 3), (33, some (.goto (-28)), 3), (36, some (.iload_n 3), 1), (37, some (.ireturn), 1)] = true := by decide +kernel
theorem dX0_sum_0 : decode cX0_sum 0 = .ok (.iconst 0, 1) := fd_get adX0_sum_0 (k := 0) rfl
theorem dX0_sum_1 : decode cX0_sum 1 = .ok (.istore_n 3, 1) := fd_get adX0_sum_0 (k := 1) rfl
theorem dX0_sum_2 : decode cX0_sum 2 = .ok (.iload_n 1, 1) := fd_get adX0_sum_0 (k := 2) rfl
theorem dX0_sum_3 : decode cX0_sum 3 = .ok (.istore 4, 2) := fd_get adX0_sum_0 (k := 3) rfl
theorem dX0_sum_5 : decode cX0_sum 5 = .ok (.iload 4, 2) := fd_get adX0_sum_0 (k := 4) rfl
theorem dX0_sum_7 : decode cX0_sum 7 = .ok (.iload_n 2, 1) := fd_get adX0_sum_0 (k := 5) rfl
theorem dX0_sum_8 : decode cX0_sum 8 = .ok (.if_icmp .ge 28, 3) := fd_get adX0_sum_0 (k := 6) rfl
theorem dX0_sum_11 : decode cX0_sum 11 = .ok (.aload_n 0, 1) := fd_get adX0_sum_0 (k := 7) rfl
theorem dX0_sum_12 : decode cX0_sum 12 = .ok (.iload 4, 2) := fd_get adX0_sum_0 (k := 8) rfl
theorem dX0_sum_14 : decode cX0_sum 14 = .ok (.invokevirtual 41, 3) := fd_get adX0_sum_0 (k := 9) rfl
theorem dX0_sum_17 : decode cX0_sum 17 = .ok (.ifCond .eq 13, 3) := fd_get adX0_sum_0 (k := 10) rfl
theorem dX0_sum_20 : decode cX0_sum 20 = .ok (.iload_n 3, 1) := fd_get adX0_sum_0 (k := 11) rfl
theorem dX0_sum_21 : decode cX0_sum 21 = .ok (.aload_n 0, 1) := fd_get adX0_sum_0 (k := 12) rfl
theorem dX0_sum_22 : decode cX0_sum 22 = .ok (.getfield 19, 3) := fd_get adX0_sum_0 (k := 13) rfl
theorem dX0_sum_25 : decode cX0_sum 25 = .ok (.iload 4, 2) := fd_get adX0_sum_0 (k := 14) rfl
theorem dX0_sum_27 : decode cX0_sum 27 = .ok (.iaload, 1) := fd_get adX0_sum_0 (k := 15) rfl
theorem dX0_sum_28 : decode cX0_sum 28 = .ok (.iadd, 1) := fd_get adX0_sum_1 (k := 0) rfl
theorem dX0_sum_29 : decode cX0_sum 29 = .ok (.istore_n 3, 1) := fd_get adX0_sum_1 (k := 1) rfl
theorem dX0_sum_30 : decode cX0_sum 30 = .ok (.iinc 4 1, 3) := fd_get adX0_sum_1 (k := 2) rfl
theorem dX0_sum_33 : decode cX0_sum 33 = .ok (.goto (-28), 3) := fd_get adX0_sum_1 (k := 3) rfl
theorem dX0_sum_36 : decode cX0_sum 36 = .ok (.iload_n 3, 1) := fd_get adX0_sum_1 (k := 4) rfl
theorem dX0_sum_37 : decode cX0_sum 37 = .ok (.ireturn, 1) := fd_get adX0_sum_1 (k := 5) rfl
theorem mwsX0_closest_0 : ∀ w ∈ wsX0_closest_r1, w ∈ wsX0_closest := fun w h => (List.mem_cons_of_mem _ (List.mem_append_left _ (List.mem_append_left _ h)))
theorem mwsX0_closest_1 : ∀ w ∈ wsX0_closest_r2, w ∈ wsX0_closest := fun w h => (List.mem_cons_of_mem _ (List.mem_append_left _ (List.mem_append_right _ h)))
theorem mwsX0_closest_2 : ∀ w ∈ wsX00, w ∈ wsX0_closest := fun w h => (List.mem_cons_of_mem _ (List.mem_append_right _ h))
set_option maxRecDepth 20000 in
theorem ggX0_closest_X0_placeOf : GoodIn wsX0_closest wsX0_placeOf := goodIn_sub (tk_mem 4 _ (fun w h => (mwsX0_closest_0 _ (tkB_mem 11 4 h))) (List.forall_mem_cons.mpr ⟨(mwsX0_closest_0 _ (List.mem_of_getElem? (i := 10) rfl)), (tk_mem 8 _ (fun w h => (mwsX0_closest_0 _ (tkB_mem 15 8 h))) (tk_mem 7 _ (fun w h => (mwsX0_closest_2 _ (tkB_mem 0 7 h))) (fun _ h => absurd h List.not_mem_nil)))⟩)) (by decide +kernel)
set_option maxRecDepth 20000 in
theorem gX0_closest_X0_placeOf : GoodIn wsX0_closest (wsV RX0 48 RX0 yX0_placeOf wsX0_placeOf) := goodIn_app (goodIn_sub (tk_mem 4 _ (fun w h => (mwsX0_closest_0 _ (tkB_mem 7 4 h))) (fun _ h => absurd h List.not_mem_nil)) (by decide +kernel)) ggX0_closest_X0_placeOf
set_option maxRecDepth 20000 in
theorem ggX0_closest_X0_keyAt : GoodIn wsX0_closest wsX0_keyAt := goodIn_sub (List.forall_mem_cons.mpr ⟨(mwsX0_closest_1 _ (List.mem_of_getElem? (i := 2) rfl)), (List.forall_mem_cons.mpr ⟨(mwsX0_closest_0 _ (List.mem_of_getElem? (i := 22) rfl)), (List.forall_mem_cons.mpr ⟨(mwsX0_closest_1 _ (List.mem_of_getElem? (i := 3) rfl)), (List.forall_mem_cons.mpr ⟨(mwsX0_closest_1 _ (List.mem_of_getElem? (i := 4) rfl)), (List.forall_mem_cons.mpr ⟨(mwsX0_closest_1 _ (List.mem_of_getElem? (i := 5) rfl)), (List.forall_mem_cons.mpr ⟨(mwsX0_closest_0 _ (List.mem_of_getElem? (i := 10) rfl)), (List.forall_mem_cons.mpr ⟨(mwsX0_closest_1 _ (List.mem_of_getElem? (i := 6) rfl)), (List.forall_mem_cons.mpr ⟨(mwsX0_closest_0 _ (List.mem_of_getElem? (i := 21) rfl)), (tk_mem 7 _ (fun w h => (mwsX0_closest_2 _ (tkB_mem 0 7 h))) (fun _ h => absurd h List.not_mem_nil))⟩)⟩)⟩)⟩)⟩)⟩)⟩)⟩) (by decide +kernel)
set_option maxRecDepth 20000 in
theorem gX0_closest_X0_keyAt : GoodIn wsX0_closest (wsV RX0 51 RX0 yX0_keyAt wsX0_keyAt) := goodIn_app (goodIn_sub (List.forall_mem_cons.mpr ⟨(mwsX0_closest_0 _ (List.mem_of_getElem? (i := 23) rfl)), (List.forall_mem_cons.mpr ⟨(mwsX0_closest_1 _ (List.mem_of_getElem? (i := 0) rfl)), (List.forall_mem_cons.mpr ⟨(mwsX0_closest_1 _ (List.mem_of_getElem? (i := 1) rfl)), (List.forall_mem_cons.mpr ⟨(mwsX0_closest_0 _ (List.mem_of_getElem? (i := 10) rfl)), (fun _ h => absurd h List.not_mem_nil)⟩)⟩)⟩)⟩) (by decide +kernel)) ggX0_closest_X0_keyAt
set_option maxRecDepth 20000 in
theorem ggX0_closest_X0_placeBehind : GoodIn wsX0_closest wsX0_placeBehind := goodIn_sub (List.forall_mem_cons.mpr ⟨(mwsX0_closest_1 _ (List.mem_of_getElem? (i := 10) rfl)), (List.forall_mem_cons.mpr ⟨(mwsX0_closest_0 _ (List.mem_of_getElem? (i := 12) rfl)), (List.forall_mem_cons.mpr ⟨(mwsX0_closest_0 _ (List.mem_of_getElem? (i := 13) rfl)), (List.forall_mem_cons.mpr ⟨(mwsX0_closest_0 _ (List.mem_of_getElem? (i := 14) rfl)), (List.forall_mem_cons.mpr ⟨(mwsX0_closest_0 _ (List.mem_of_getElem? (i := 10) rfl)), (tk_mem 8 _ (fun w h => (mwsX0_closest_0 _ (tkB_mem 15 8 h))) (tk_mem 7 _ (fun w h => (mwsX0_closest_2 _ (tkB_mem 0 7 h))) (fun _ h => absurd h List.not_mem_nil)))⟩)⟩)⟩)⟩)⟩) (by decide +kernel)
set_option maxRecDepth 20000 in
theorem gX0_closest_X0_placeBehind : GoodIn wsX0_closest (wsV RX0 66 RX0 yX0_placeBehind wsX0_placeBehind) := goodIn_app (goodIn_sub (List.forall_mem_cons.mpr ⟨(mwsX0_closest_1 _ (List.mem_of_getElem? (i := 7) rfl)), (List.forall_mem_cons.mpr ⟨(mwsX0_closest_1 _ (List.mem_of_getElem? (i := 8) rfl)), (List.forall_mem_cons.mpr ⟨(mwsX0_closest_1 _ (List.mem_of_getElem? (i := 9) rfl)), (List.forall_mem_cons.mpr ⟨(mwsX0_closest_0 _ (List.mem_of_getElem? (i := 10) rfl)), (fun _ h => absurd h List.not_mem_nil)⟩)⟩)⟩)⟩) (by decide +kernel)) ggX0_closest_X0_placeBehind
theorem adX0_closest_0 : fd_rows (cX0_closest.data.toList.drop 0) 0 [(0, some (.aload_n 0), 1), (1, some (.iload_n 1), 1), (2, some (.invokevirtual 48), 3), (5, some (.istore 5), 2), (7, some (.aload_n 0), 1), (8, some (.iload 5), 2), (10, some (.invokevirtual 51), 3), (13, some (.iload_n 1), 1), (14, some (.if_icmp .ne 20), 3), (17, some (.iload 5), 2), (19, some (.iload_n 3), 1), (20, some (.if_icmp .lt 14), 3), (23, some (.iload 5), 2), (25, some (.iload 4), 2), (27, some (.if_icmp .ge 7), 3), (30, some (.iconst 1), 1)] = true := by decide +kernel
theorem adX0_closest_1 : fd_rows (cX0_closest.data.toList.drop 31) 31 [(31, some (.goto 4), 3), (34, some (.iconst 0), 1), (35, some (.istore 6), 2), (37, some (.iload 6), 2), (39, some (.ifCond .eq 15), 3), (42, some (.iload_n 2), 1), (43, some (.iconst 1), 1), (44, some (.if_icmp .eq 8), 3), (47, some (.iload_n 2), 1), (48, some (.iconst 2), 1), (49, some (.if_icmp .ne 5), 3), (52, some (.iload_n 1), 1), (53, some (.ireturn), 1), (54, some (.iload_n 2), 1), (55, some (.ifCond .eq 8), 3), (58, some (.iload_n 2), 1)] = true := by decide +kernel
theorem adX0_closest_2 : fd_rows (cX0_closest.data.toList.drop 59) 59 [(59, some (.iconst 1), 1), (60, some (.if_icmp .ne 33), 3), (63, some (.iload 5), 2), (65, some (.iload 4), 2), (67, some (.invokestatic 60), 3), (70, some (.iconst 1), 1), (71, some (.isub), 1), (72, some (.istore 7), 2), (74, some (.iload 7), 2), (76, some (.iload_n 3), 1), (77, some (.if_icmp .lt 12), 3), (80, some (.aload_n 0), 1), (81, some (.iload 7), 2), (83, some (.invokevirtual 51), 3), (86, some (.goto 6), 3), (89, some (.sipush (-10000)), 3)] = true := by decide +kernel
theorem adX0_closest_3 : fd_rows (cX0_closest.data.toList.drop 92) 92 [(92, some (.ireturn), 1), (93, some (.aload_n 0), 1), (94, some (.iload_n 1), 1), (95, some (.invokevirtual 66), 3), (98, some (.iload_n 3), 1), (99, some (.invokestatic 69), 3), (102, some (.istore 7), 2), (104, some (.iload 7), 2), (106, some (.iload 4), 2), (108, some (.if_icmp .ge 12), 3), (111, some (.aload_n 0), 1), (112, some (.iload 7), 2), (114, some (.invokevirtual 51), 3), (117, some (.goto 6), 3), (120, some (.sipush (-10000)), 3), (123, some (.ireturn), 1)] = true := by decide +kernel
theorem dX0_closest_0 : decode cX0_closest 0 = .ok (.aload_n 0, 1) := fd_get adX0_closest_0 (k := 0) rfl
theorem dX0_closest_1 : decode cX0_closest 1 = .ok (.iload_n 1, 1) := fd_get adX0_closest_0 (k := 1) rfl
theorem dX0_closest_2 : decode cX0_closest 2 = .ok (.invokevirtual 48, 3) := fd_get adX0_closest_0 (k := 2) rfl
theorem dX0_closest_5 : decode cX0_closest 5 = .ok (.istore 5, 2) := fd_get adX0_closest_0 (k := 3) rfl
theorem dX0_closest_7 : decode cX0_closest 7 = .ok (.aload_n 0, 1) := fd_get adX0_closest_0 (k := 4) rfl
theorem dX0_closest_8 : decode cX0_closest 8 = .ok (.iload 5, 2) := fd_get adX0_closest_0 (k := 5) rfl
theorem dX0_closest_10 : decode cX0_closest 10 = .ok (.invokevirtual 51, 3) := fd_get adX0_closest_0 (k := 6) rfl
theorem dX0_closest_13 : decode cX0_closest 13 = .ok (.iload_n 1, 1) := fd_get adX0_closest_0 (k := 7) rfl
theorem dX0_closest_14 : decode cX0_closest 14 = .ok (.if_icmp .ne 20, 3) := fd_get adX0_closest_0 (k := 8) rfl
theorem dX0_closest_17 : decode cX0_closest 17 = .ok (.iload 5, 2) := fd_get adX0_closest_0 (k := 9) rfl
theorem dX0_closest_19 : decode cX0_closest 19 = .ok (.iload_n 3, 1) := fd_get adX0_closest_0 (k := 10) rfl
theorem dX0_closest_20 : decode cX0_closest 20 = .ok (.if_icmp .lt 14, 3) := fd_get adX0_closest_0 (k := 11) rfl
theorem dX0_closest_23 : decode cX0_closest 23 = .ok (.iload 5, 2) := fd_get adX0_closest_0 (k := 12) rfl
theorem dX0_closest_25 : decode cX0_closest 25 = .ok (.iload 4, 2) := fd_get adX0_closest_0 (k := 13) rfl
theorem dX0_closest_27 : decode cX0_closest 27 = .ok (.if_icmp .ge 7, 3) := fd_get adX0_closest_0 (k := 14) rfl
theorem dX0_closest_30 : decode cX0_closest 30 = .ok (.iconst 1, 1) := fd_get adX0_closest_0 (k := 15) rfl
theorem dX0_closest_31 : decode cX0_closest 31 = .ok (.goto 4, 3) := fd_get adX0_closest_1 (k := 0) rfl
theorem dX0_closest_34 : decode cX0_closest 34 = .ok (.iconst 0, 1) := fd_get adX0_closest_1 (k := 1) rfl
theorem dX0_closest_35 : decode cX0_closest 35 = .ok (.istore 6, 2) := fd_get adX0_closest_1 (k := 2) rfl
theorem dX0_closest_37 : decode cX0_closest 37 = .ok (.iload 6, 2) := fd_get adX0_closest_1 (k := 3) rfl
theorem dX0_closest_39 : decode cX0_closest 39 = .ok (.ifCond .eq 15, 3) := fd_get adX0_closest_1 (k := 4) rfl
theorem dX0_closest_42 : decode cX0_closest 42 = .ok (.iload_n 2, 1) := fd_get adX0_closest_1 (k := 5) rfl
theorem dX0_closest_43 : decode cX0_closest 43 = .ok (.iconst 1, 1) := fd_get adX0_closest_1 (k := 6) rfl
theorem dX0_closest_44 : decode cX0_closest 44 = .ok (.if_icmp .eq 8, 3) := fd_get adX0_closest_1 (k := 7) rfl
theorem dX0_closest_47 : decode cX0_closest 47 = .ok (.iload_n 2, 1) := fd_get adX0_closest_1 (k := 8) rfl
theorem dX0_closest_48 : decode cX0_closest 48 = .ok (.iconst 2, 1) := fd_get adX0_closest_1 (k := 9) rfl
theorem dX0_closest_49 : decode cX0_closest 49 = .ok (.if_icmp .ne 5, 3) := fd_get adX0_closest_1 (k := 10) rfl
theorem dX0_closest_52 : decode cX0_closest 52 = .ok (.iload_n 1, 1) := fd_get adX0_closest_1 (k := 11) rfl
theorem dX0_closest_53 : decode cX0_closest 53 = .ok (.ireturn, 1) := fd_get adX0_closest_1 (k := 12) rfl
theorem dX0_closest_54 : decode cX0_closest 54 = .ok (.iload_n 2, 1) := fd_get adX0_closest_1 (k := 13) rfl
theorem dX0_closest_55 : decode cX0_closest 55 = .ok (.ifCond .eq 8, 3) := fd_get adX0_closest_1 (k := 14) rfl
theorem dX0_closest_58 : decode cX0_closest 58 = .ok (.iload_n 2, 1) := fd_get adX0_closest_1 (k := 15) rfl
theorem dX0_closest_59 : decode cX0_closest 59 = .ok (.iconst 1, 1) := fd_get adX0_closest_2 (k := 0) rfl
theorem dX0_closest_60 : decode cX0_closest 60 = .ok (.if_icmp .ne 33, 3) := fd_get adX0_closest_2 (k := 1) rfl
theorem dX0_closest_63 : decode cX0_closest 63 = .ok (.iload 5, 2) := fd_get adX0_closest_2 (k := 2) rfl
theorem dX0_closest_65 : decode cX0_closest 65 = .ok (.iload 4, 2) := fd_get adX0_closest_2 (k := 3) rfl
theorem dX0_closest_67 : decode cX0_closest 67 = .ok (.invokestatic 60, 3) := fd_get adX0_closest_2 (k := 4) rfl
theorem dX0_closest_70 : decode cX0_closest 70 = .ok (.iconst 1, 1) := fd_get adX0_closest_2 (k := 5) rfl
theorem dX0_closest_71 : decode cX0_closest 71 = .ok (.isub, 1) := fd_get adX0_closest_2 (k := 6) rfl
theorem dX0_closest_72 : decode cX0_closest 72 = .ok (.istore 7, 2) := fd_get adX0_closest_2 (k := 7) rfl
theorem dX0_closest_74 : decode cX0_closest 74 = .ok (.iload 7, 2) := fd_get adX0_closest_2 (k := 8) rfl
theorem dX0_closest_76 : decode cX0_closest 76 = .ok (.iload_n 3, 1) := fd_get adX0_closest_2 (k := 9) rfl
theorem dX0_closest_77 : decode cX0_closest 77 = .ok (.if_icmp .lt 12, 3) := fd_get adX0_closest_2 (k := 10) rfl
theorem dX0_closest_80 : decode cX0_closest 80 = .ok (.aload_n 0, 1) := fd_get adX0_closest_2 (k := 11) rfl
theorem dX0_closest_81 : decode cX0_closest 81 = .ok (.iload 7, 2) := fd_get adX0_closest_2 (k := 12) rfl
theorem dX0_closest_83 : decode cX0_closest 83 = .ok (.invokevirtual 51, 3) := fd_get adX0_closest_2 (k := 13) rfl
theorem dX0_closest_86 : decode cX0_closest 86 = .ok (.goto 6, 3) := fd_get adX0_closest_2 (k := 14) rfl
theorem dX0_closest_89 : decode cX0_closest 89 = .ok (.sipush (-10000), 3) := fd_get adX0_closest_2 (k := 15) rfl
theorem dX0_closest_92 : decode cX0_closest 92 = .ok (.ireturn, 1) := fd_get adX0_closest_3 (k := 0) rfl
theorem dX0_closest_93 : decode cX0_closest 93 = .ok (.aload_n 0, 1) := fd_get adX0_closest_3 (k := 1) rfl
theorem dX0_closest_94 : decode cX0_closest 94 = .ok (.iload_n 1, 1) := fd_get adX0_closest_3 (k := 2) rfl
theorem dX0_closest_95 : decode cX0_closest 95 = .ok (.invokevirtual 66, 3) := fd_get adX0_closest_3 (k := 3) rfl
theorem dX0_closest_98 : decode cX0_closest 98 = .ok (.iload_n 3, 1) := fd_get adX0_closest_3 (k := 4) rfl
theorem dX0_closest_99 : decode cX0_closest 99 = .ok (.invokestatic 69, 3) := fd_get adX0_closest_3 (k := 5) rfl
theorem dX0_closest_102 : decode cX0_closest 102 = .ok (.istore 7, 2) := fd_get adX0_closest_3 (k := 6) rfl
theorem dX0_closest_104 : decode cX0_closest 104 = .ok (.iload 7, 2) := fd_get adX0_closest_3 (k := 7) rfl
theorem dX0_closest_106 : decode cX0_closest 106 = .ok (.iload 4, 2) := fd_get adX0_closest_3 (k := 8) rfl
theorem dX0_closest_108 : decode cX0_closest 108 = .ok (.if_icmp .ge 12, 3) := fd_get adX0_closest_3 (k := 9) rfl
theorem dX0_closest_111 : decode cX0_closest 111 = .ok (.aload_n 0, 1) := fd_get adX0_closest_3 (k := 10) rfl
theorem dX0_closest_112 : decode cX0_closest 112 = .ok (.iload 7, 2) := fd_get adX0_closest_3 (k := 11) rfl
theorem dX0_closest_114 : decode cX0_closest 114 = .ok (.invokevirtual 51, 3) := fd_get adX0_closest_3 (k := 12) rfl
theorem dX0_closest_117 : decode cX0_closest 117 = .ok (.goto 6, 3) := fd_get adX0_closest_3 (k := 13) rfl
theorem dX0_closest_120 : decode cX0_closest 120 = .ok (.sipush (-10000), 3) := fd_get adX0_closest_3 (k := 14) rfl
theorem dX0_closest_123 : decode cX0_closest 123 = .ok (.ireturn, 1) := fd_get adX0_closest_3 (k := 15) rfl
theorem mwsX0_enter_0 : ∀ w ∈ wsX0_enter_r1, w ∈ wsX0_enter := fun w h => (List.mem_cons_of_mem _ (List.mem_append_left _ (List.mem_append_left _ h)))
theorem mwsX0_enter_1 : ∀ w ∈ wsX0_enter_r2, w ∈ wsX0_enter := fun w h => (List.mem_cons_of_mem _ (List.mem_append_left _ (List.mem_append_right _ h)))
theorem mwsX0_enter_2 : ∀ w ∈ wsX00, w ∈ wsX0_enter := fun w h => (List.mem_cons_of_mem _ (List.mem_append_right _ h))
set_option maxRecDepth 20000 in
theorem ggX0_enter_X0_placeOf : GoodIn wsX0_enter wsX0_placeOf := goodIn_sub (tk_mem 4 _ (fun w h => (mwsX0_enter_0 _ (tkB_mem 6 4 h))) (List.forall_mem_cons.mpr ⟨(mwsX0_enter_0 _ (List.mem_of_getElem? (i := 5) rfl)), (tk_mem 7 _ (fun w h => (mwsX0_enter_0 _ (tkB_mem 10 7 h))) (List.forall_mem_cons.mpr ⟨(mwsX0_enter_0 _ (List.mem_of_getElem? (i := 0) rfl)), (tk_mem 7 _ (fun w h => (mwsX0_enter_2 _ (tkB_mem 0 7 h))) (fun _ h => absurd h List.not_mem_nil))⟩))⟩)) (by decide +kernel)
set_option maxRecDepth 20000 in
theorem gX0_enter_X0_placeOf : GoodIn wsX0_enter (wsV RX0 48 RX0 yX0_placeOf wsX0_placeOf) := goodIn_app (goodIn_sub (tk_mem 4 _ (fun w h => (mwsX0_enter_0 _ (tkB_mem 2 4 h))) (fun _ h => absurd h List.not_mem_nil)) (by decide +kernel)) ggX0_enter_X0_placeOf
set_option maxRecDepth 20000 in
theorem ggX0_enter_X0_isPlace : GoodIn wsX0_enter wsX0_isPlace := goodIn_sub (List.forall_mem_cons.mpr ⟨(mwsX0_enter_0 _ (List.mem_of_getElem? (i := 20) rfl)), (List.forall_mem_cons.mpr ⟨(mwsX0_enter_0 _ (List.mem_of_getElem? (i := 16) rfl)), (tk_mem 7 _ (fun w h => (mwsX0_enter_2 _ (tkB_mem 0 7 h))) (fun _ h => absurd h List.not_mem_nil))⟩)⟩) (by decide +kernel)
set_option maxRecDepth 20000 in
theorem gX0_enter_X0_isPlace : GoodIn wsX0_enter (wsV RX0 41 RX0 yX0_isPlace wsX0_isPlace) := goodIn_app (goodIn_sub (List.forall_mem_cons.mpr ⟨(mwsX0_enter_0 _ (List.mem_of_getElem? (i := 17) rfl)), (List.forall_mem_cons.mpr ⟨(mwsX0_enter_0 _ (List.mem_of_getElem? (i := 18) rfl)), (List.forall_mem_cons.mpr ⟨(mwsX0_enter_0 _ (List.mem_of_getElem? (i := 19) rfl)), (List.forall_mem_cons.mpr ⟨(mwsX0_enter_0 _ (List.mem_of_getElem? (i := 5) rfl)), (fun _ h => absurd h List.not_mem_nil)⟩)⟩)⟩)⟩) (by decide +kernel)) ggX0_enter_X0_isPlace
set_option maxRecDepth 20000 in
theorem ggX0_enter_X0_insert : GoodIn wsX0_enter wsX0_insert := goodIn_sub (List.forall_mem_cons.mpr ⟨(mwsX0_enter_1 _ (List.mem_of_getElem? (i := 0) rfl)), (List.forall_mem_cons.mpr ⟨(mwsX0_enter_0 _ (List.mem_of_getElem? (i := 16) rfl)), (List.forall_mem_cons.mpr ⟨(mwsX0_enter_0 _ (List.mem_of_getElem? (i := 0) rfl)), (tk_mem 4 _ (fun w h => (mwsX0_enter_1 _ (tkB_mem 1 4 h))) (List.forall_mem_cons.mpr ⟨(mwsX0_enter_0 _ (List.mem_of_getElem? (i := 1) rfl)), (List.forall_mem_cons.mpr ⟨(mwsX0_enter_1 _ (List.mem_of_getElem? (i := 5) rfl)), (tk_mem 7 _ (fun w h => (mwsX0_enter_2 _ (tkB_mem 0 7 h))) (fun _ h => absurd h List.not_mem_nil))⟩)⟩))⟩)⟩)⟩) (by decide +kernel)
set_option maxRecDepth 20000 in
theorem gX0_enter_X0_insert : GoodIn wsX0_enter (wsV RX0 72 RX0 yX0_insert wsX0_insert) := goodIn_app (goodIn_sub (List.forall_mem_cons.mpr ⟨(mwsX0_enter_0 _ (List.mem_of_getElem? (i := 21) rfl)), (List.forall_mem_cons.mpr ⟨(mwsX0_enter_0 _ (List.mem_of_getElem? (i := 22) rfl)), (List.forall_mem_cons.mpr ⟨(mwsX0_enter_0 _ (List.mem_of_getElem? (i := 23) rfl)), (List.forall_mem_cons.mpr ⟨(mwsX0_enter_0 _ (List.mem_of_getElem? (i := 5) rfl)), (fun _ h => absurd h List.not_mem_nil)⟩)⟩)⟩)⟩) (by decide +kernel)) ggX0_enter_X0_insert
theorem adX0_enter_0 : fd_rows (cX0_enter.data.toList.drop 0) 0 [(0, some (.aload_n 0), 1), (1, some (.iload_n 1), 1), (2, some (.invokevirtual 48), 3), (5, some (.istore_n 3), 1), (6, some (.aload_n 0), 1), (7, some (.iload_n 3), 1), (8, some (.invokevirtual 41), 3), (11, some (.ifCond .eq 31), 3), (14, some (.aload_n 0), 1), (15, some (.getfield 15), 3), (18, some (.iload_n 3), 1), (19, some (.iaload), 1), (20, some (.iload_n 1), 1), (21, some (.if_icmp .ne 21), 3), (24, some (.aload_n 0), 1), (25, some (.getfield 19), 3)] = true := by decide +kernel
theorem adX0_enter_1 : fd_rows (cX0_enter.data.toList.drop 28) 28 [(28, some (.iload_n 3), 1), (29, some (.iaload), 1), (30, some (.istore 4), 2), (32, some (.aload_n 0), 1), (33, some (.getfield 19), 3), (36, some (.iload_n 3), 1), (37, some (.iload_n 2), 1), (38, some (.iastore), 1), (39, some (.iload 4), 2), (41, some (.ireturn), 1), (42, some (.aload_n 0), 1), (43, some (.iload_n 3), 1), (44, some (.iload_n 1), 1), (45, some (.iload_n 2), 1), (46, some (.invokevirtual 72), 3), (49, some (.sipush (-10000)), 3)] = true := by decide +kernel
theorem adX0_enter_2 : fd_rows (cX0_enter.data.toList.drop 52) 52 [(52, some (.ireturn), 1)] = true := by decide +kernel
theorem dX0_enter_0 : decode cX0_enter 0 = .ok (.aload_n 0, 1) := fd_get adX0_enter_0 (k := 0) rfl
theorem dX0_enter_1 : decode cX0_enter 1 = .ok (.iload_n 1, 1) := fd_get adX0_enter_0 (k := 1) rfl
theorem dX0_enter_2 : decode cX0_enter 2 = .ok (.invokevirtual 48, 3) := fd_get adX0_enter_0 (k := 2) rfl
theorem dX0_enter_5 : decode cX0_enter 5 = .ok (.istore_n 3, 1) := fd_get adX0_enter_0 (k := 3) rfl
theorem dX0_enter_6 : decode cX0_enter 6 = .ok (.aload_n 0, 1) := fd_get adX0_enter_0 (k := 4) rfl
theorem dX0_enter_7 : decode cX0_enter 7 = .ok (.iload_n 3, 1) := fd_get adX0_enter_0 (k := 5) rfl
theorem dX0_enter_8 : decode cX0_enter 8 = .ok (.invokevirtual 41, 3) := fd_get adX0_enter_0 (k := 6) rfl
theorem dX0_enter_11 : decode cX0_enter 11 = .ok (.ifCond .eq 31, 3) := fd_get adX0_enter_0 (k := 7) rfl
theorem dX0_enter_14 : decode cX0_enter 14 = .ok (.aload_n 0, 1) := fd_get adX0_enter_0 (k := 8) rfl
theorem dX0_enter_15 : decode cX0_enter 15 = .ok (.getfield 15, 3) := fd_get adX0_enter_0 (k := 9) rfl
theorem dX0_enter_18 : decode cX0_enter 18 = .ok (.iload_n 3, 1) := fd_get adX0_enter_0 (k := 10) rfl
theorem dX0_enter_19 : decode cX0_enter 19 = .ok (.iaload, 1) := fd_get adX0_enter_0 (k := 11) rfl
theorem dX0_enter_20 : decode cX0_enter 20 = .ok (.iload_n 1, 1) := fd_get adX0_enter_0 (k := 12) rfl
theorem dX0_enter_21 : decode cX0_enter 21 = .ok (.if_icmp .ne 21, 3) := fd_get adX0_enter_0 (k := 13) rfl
theorem dX0_enter_24 : decode cX0_enter 24 = .ok (.aload_n 0, 1) := fd_get adX0_enter_0 (k := 14) rfl
theorem dX0_enter_25 : decode cX0_enter 25 = .ok (.getfield 19, 3) := fd_get adX0_enter_0 (k := 15) rfl
theorem dX0_enter_28 : decode cX0_enter 28 = .ok (.iload_n 3, 1) := fd_get adX0_enter_1 (k := 0) rfl
theorem dX0_enter_29 : decode cX0_enter 29 = .ok (.iaload, 1) := fd_get adX0_enter_1 (k := 1) rfl
theorem dX0_enter_30 : decode cX0_enter 30 = .ok (.istore 4, 2) := fd_get adX0_enter_1 (k := 2) rfl
theorem dX0_enter_32 : decode cX0_enter 32 = .ok (.aload_n 0, 1) := fd_get adX0_enter_1 (k := 3) rfl
theorem dX0_enter_33 : decode cX0_enter 33 = .ok (.getfield 19, 3) := fd_get adX0_enter_1 (k := 4) rfl
theorem dX0_enter_36 : decode cX0_enter 36 = .ok (.iload_n 3, 1) := fd_get adX0_enter_1 (k := 5) rfl
theorem dX0_enter_37 : decode cX0_enter 37 = .ok (.iload_n 2, 1) := fd_get adX0_enter_1 (k := 6) rfl
theorem dX0_enter_38 : decode cX0_enter 38 = .ok (.iastore, 1) := fd_get adX0_enter_1 (k := 7) rfl
theorem dX0_enter_39 : decode cX0_enter 39 = .ok (.iload 4, 2) := fd_get adX0_enter_1 (k := 8) rfl
theorem dX0_enter_41 : decode cX0_enter 41 = .ok (.ireturn, 1) := fd_get adX0_enter_1 (k := 9) rfl
theorem dX0_enter_42 : decode cX0_enter 42 = .ok (.aload_n 0, 1) := fd_get adX0_enter_1 (k := 10) rfl
theorem dX0_enter_43 : decode cX0_enter 43 = .ok (.iload_n 3, 1) := fd_get adX0_enter_1 (k := 11) rfl
theorem dX0_enter_44 : decode cX0_enter 44 = .ok (.iload_n 1, 1) := fd_get adX0_enter_1 (k := 12) rfl
theorem dX0_enter_45 : decode cX0_enter 45 = .ok (.iload_n 2, 1) := fd_get adX0_enter_1 (k := 13) rfl
theorem dX0_enter_46 : decode cX0_enter 46 = .ok (.invokevirtual 72, 3) := fd_get adX0_enter_1 (k := 14) rfl
theorem dX0_enter_49 : decode cX0_enter 49 = .ok (.sipush (-10000), 3) := fd_get adX0_enter_1 (k := 15) rfl
theorem dX0_enter_52 : decode cX0_enter 52 = .ok (.ireturn, 1) := fd_get adX0_enter_2 (k := 0) rfl
theorem adX0_insert_0 : fd_rows (cX0_insert.data.toList.drop 0) 0 [(0, some (.iload_n 1), 1), (1, some (.ifCond .lt 23), 3), (4, some (.iload_n 1), 1), (5, some (.aload_n 0), 1), (6, some (.getfield 25), 3), (9, some (.if_icmp .gt 15), 3), (12, some (.aload_n 0), 1), (13, some (.getfield 25), 3), (16, some (.aload_n 0), 1), (17, some (.getfield 15), 3), (20, some (.arraylength), 1), (21, some (.if_icmp .lt 4), 3), (24, some (.return_), 1), (25, some (.aload_n 0), 1), (26, some (.getfield 15), 3), (29, some (.iload_n 1), 1)] = true := by decide +kernel
theorem adX0_insert_1 : fd_rows (cX0_insert.data.toList.drop 30) 30 [(30, some (.aload_n 0), 1), (31, some (.getfield 15), 3), (34, some (.iload_n 1), 1), (35, some (.iconst 1), 1), (36, some (.iadd), 1), (37, some (.aload_n 0), 1), (38, some (.getfield 25), 3), (41, some (.iload_n 1), 1), (42, some (.isub), 1), (43, some (.invokestatic 76), 3), (46, some (.aload_n 0), 1), (47, some (.getfield 19), 3), (50, some (.iload_n 1), 1), (51, some (.aload_n 0), 1), (52, some (.getfield 19), 3), (55, some (.iload_n 1), 1)] = true := by decide +kernel
theorem adX0_insert_2 : fd_rows (cX0_insert.data.toList.drop 56) 56 [(56, some (.iconst 1), 1), (57, some (.iadd), 1), (58, some (.aload_n 0), 1), (59, some (.getfield 25), 3), (62, some (.iload_n 1), 1), (63, some (.isub), 1), (64, some (.invokestatic 76), 3), (67, some (.aload_n 0), 1), (68, some (.getfield 15), 3), (71, some (.iload_n 1), 1), (72, some (.iload_n 2), 1), (73, some (.iastore), 1), (74, some (.aload_n 0), 1), (75, some (.getfield 19), 3), (78, some (.iload_n 1), 1), (79, some (.iload_n 3), 1)] = true := by decide +kernel
theorem adX0_insert_3 : fd_rows (cX0_insert.data.toList.drop 80) 80 [(80, some (.iastore), 1), (81, some (.aload_n 0), 1), (82, some (.dup), 1), (83, some (.getfield 25), 3), (86, some (.iconst 1), 1), (87, some (.iadd), 1), (88, some (.putfield 25), 3), (91, some (.aload_n 0), 1), (92, some (.dup), 1), (93, some (.getfield 31), 3), (96, some (.iconst 1), 1), (97, some (.iadd), 1), (98, some (.putfield 31), 3), (101, some (.return_), 1)] = true := by decide +kernel
theorem dX0_insert_0 : decode cX0_insert 0 = .ok (.iload_n 1, 1) := fd_get adX0_insert_0 (k := 0) rfl
theorem dX0_insert_1 : decode cX0_insert 1 = .ok (.ifCond .lt 23, 3) := fd_get adX0_insert_0 (k := 1) rfl
theorem dX0_insert_4 : decode cX0_insert 4 = .ok (.iload_n 1, 1) := fd_get adX0_insert_0 (k := 2) rfl
theorem dX0_insert_5 : decode cX0_insert 5 = .ok (.aload_n 0, 1) := fd_get adX0_insert_0 (k := 3) rfl
theorem dX0_insert_6 : decode cX0_insert 6 = .ok (.getfield 25, 3) := fd_get adX0_insert_0 (k := 4) rfl
theorem dX0_insert_9 : decode cX0_insert 9 = .ok (.if_icmp .gt 15, 3) := fd_get adX0_insert_0 (k := 5) rfl
theorem dX0_insert_12 : decode cX0_insert 12 = .ok (.aload_n 0, 1) := fd_get adX0_insert_0 (k := 6) rfl
theorem dX0_insert_13 : decode cX0_insert 13 = .ok (.getfield 25, 3) := fd_get adX0_insert_0 (k := 7) rfl
theorem dX0_insert_16 : decode cX0_insert 16 = .ok (.aload_n 0, 1) := fd_get adX0_insert_0 (k := 8) rfl
theorem dX0_insert_17 : decode cX0_insert 17 = .ok (.getfield 15, 3) := fd_get adX0_insert_0 (k := 9) rfl
theorem dX0_insert_20 : decode cX0_insert 20 = .ok (.arraylength, 1) := fd_get adX0_insert_0 (k := 10) rfl
theorem dX0_insert_21 : decode cX0_insert 21 = .ok (.if_icmp .lt 4, 3) := fd_get adX0_insert_0 (k := 11) rfl
theorem dX0_insert_24 : decode cX0_insert 24 = .ok (.return_, 1) := fd_get adX0_insert_0 (k := 12) rfl
theorem dX0_insert_25 : decode cX0_insert 25 = .ok (.aload_n 0, 1) := fd_get adX0_insert_0 (k := 13) rfl
theorem dX0_insert_26 : decode cX0_insert 26 = .ok (.getfield 15, 3) := fd_get adX0_insert_0 (k := 14) rfl
theorem dX0_insert_29 : decode cX0_insert 29 = .ok (.iload_n 1, 1) := fd_get adX0_insert_0 (k := 15) rfl
theorem dX0_insert_30 : decode cX0_insert 30 = .ok (.aload_n 0, 1) := fd_get adX0_insert_1 (k := 0) rfl
theorem dX0_insert_31 : decode cX0_insert 31 = .ok (.getfield 15, 3) := fd_get adX0_insert_1 (k := 1) rfl
theorem dX0_insert_34 : decode cX0_insert 34 = .ok (.iload_n 1, 1) := fd_get adX0_insert_1 (k := 2) rfl
theorem dX0_insert_35 : decode cX0_insert 35 = .ok (.iconst 1, 1) := fd_get adX0_insert_1 (k := 3) rfl
theorem dX0_insert_36 : decode cX0_insert 36 = .ok (.iadd, 1) := fd_get adX0_insert_1 (k := 4) rfl
theorem dX0_insert_37 : decode cX0_insert 37 = .ok (.aload_n 0, 1) := fd_get adX0_insert_1 (k := 5) rfl
theorem dX0_insert_38 : decode cX0_insert 38 = .ok (.getfield 25, 3) := fd_get adX0_insert_1 (k := 6) rfl
theorem dX0_insert_41 : decode cX0_insert 41 = .ok (.iload_n 1, 1) := fd_get adX0_insert_1 (k := 7) rfl
theorem dX0_insert_42 : decode cX0_insert 42 = .ok (.isub, 1) := fd_get adX0_insert_1 (k := 8) rfl
theorem dX0_insert_43 : decode cX0_insert 43 = .ok (.invokestatic 76, 3) := fd_get adX0_insert_1 (k := 9) rfl
theorem dX0_insert_46 : decode cX0_insert 46 = .ok (.aload_n 0, 1) := fd_get adX0_insert_1 (k := 10) rfl
theorem dX0_insert_47 : decode cX0_insert 47 = .ok (.getfield 19, 3) := fd_get adX0_insert_1 (k := 11) rfl
theorem dX0_insert_50 : decode cX0_insert 50 = .ok (.iload_n 1, 1) := fd_get adX0_insert_1 (k := 12) rfl
theorem dX0_insert_51 : decode cX0_insert 51 = .ok (.aload_n 0, 1) := fd_get adX0_insert_1 (k := 13) rfl
theorem dX0_insert_52 : decode cX0_insert 52 = .ok (.getfield 19, 3) := fd_get adX0_insert_1 (k := 14) rfl
theorem dX0_insert_55 : decode cX0_insert 55 = .ok (.iload_n 1, 1) := fd_get adX0_insert_1 (k := 15) rfl
theorem dX0_insert_56 : decode cX0_insert 56 = .ok (.iconst 1, 1) := fd_get adX0_insert_2 (k := 0) rfl
theorem dX0_insert_57 : decode cX0_insert 57 = .ok (.iadd, 1) := fd_get adX0_insert_2 (k := 1) rfl
theorem dX0_insert_58 : decode cX0_insert 58 = .ok (.aload_n 0, 1) := fd_get adX0_insert_2 (k := 2) rfl
theorem dX0_insert_59 : decode cX0_insert 59 = .ok (.getfield 25, 3) := fd_get adX0_insert_2 (k := 3) rfl
theorem dX0_insert_62 : decode cX0_insert 62 = .ok (.iload_n 1, 1) := fd_get adX0_insert_2 (k := 4) rfl
theorem dX0_insert_63 : decode cX0_insert 63 = .ok (.isub, 1) := fd_get adX0_insert_2 (k := 5) rfl
theorem dX0_insert_64 : decode cX0_insert 64 = .ok (.invokestatic 76, 3) := fd_get adX0_insert_2 (k := 6) rfl
theorem dX0_insert_67 : decode cX0_insert 67 = .ok (.aload_n 0, 1) := fd_get adX0_insert_2 (k := 7) rfl
theorem dX0_insert_68 : decode cX0_insert 68 = .ok (.getfield 15, 3) := fd_get adX0_insert_2 (k := 8) rfl
theorem dX0_insert_71 : decode cX0_insert 71 = .ok (.iload_n 1, 1) := fd_get adX0_insert_2 (k := 9) rfl
theorem dX0_insert_72 : decode cX0_insert 72 = .ok (.iload_n 2, 1) := fd_get adX0_insert_2 (k := 10) rfl
theorem dX0_insert_73 : decode cX0_insert 73 = .ok (.iastore, 1) := fd_get adX0_insert_2 (k := 11) rfl
theorem dX0_insert_74 : decode cX0_insert 74 = .ok (.aload_n 0, 1) := fd_get adX0_insert_2 (k := 12) rfl
theorem dX0_insert_75 : decode cX0_insert 75 = .ok (.getfield 19, 3) := fd_get adX0_insert_2 (k := 13) rfl
theorem dX0_insert_78 : decode cX0_insert 78 = .ok (.iload_n 1, 1) := fd_get adX0_insert_2 (k := 14) rfl
theorem dX0_insert_79 : decode cX0_insert 79 = .ok (.iload_n 3, 1) := fd_get adX0_insert_2 (k := 15) rfl
theorem dX0_insert_80 : decode cX0_insert 80 = .ok (.iastore, 1) := fd_get adX0_insert_3 (k := 0) rfl
theorem dX0_insert_81 : decode cX0_insert 81 = .ok (.aload_n 0, 1) := fd_get adX0_insert_3 (k := 1) rfl
theorem dX0_insert_82 : decode cX0_insert 82 = .ok (.dup, 1) := fd_get adX0_insert_3 (k := 2) rfl
theorem dX0_insert_83 : decode cX0_insert 83 = .ok (.getfield 25, 3) := fd_get adX0_insert_3 (k := 3) rfl
theorem dX0_insert_86 : decode cX0_insert 86 = .ok (.iconst 1, 1) := fd_get adX0_insert_3 (k := 4) rfl
theorem dX0_insert_87 : decode cX0_insert 87 = .ok (.iadd, 1) := fd_get adX0_insert_3 (k := 5) rfl
theorem dX0_insert_88 : decode cX0_insert 88 = .ok (.putfield 25, 3) := fd_get adX0_insert_3 (k := 6) rfl
theorem dX0_insert_91 : decode cX0_insert 91 = .ok (.aload_n 0, 1) := fd_get adX0_insert_3 (k := 7) rfl
theorem dX0_insert_92 : decode cX0_insert 92 = .ok (.dup, 1) := fd_get adX0_insert_3 (k := 8) rfl
theorem dX0_insert_93 : decode cX0_insert 93 = .ok (.getfield 31, 3) := fd_get adX0_insert_3 (k := 9) rfl
theorem dX0_insert_96 : decode cX0_insert 96 = .ok (.iconst 1, 1) := fd_get adX0_insert_3 (k := 10) rfl
theorem dX0_insert_97 : decode cX0_insert 97 = .ok (.iadd, 1) := fd_get adX0_insert_3 (k := 11) rfl
theorem dX0_insert_98 : decode cX0_insert 98 = .ok (.putfield 31, 3) := fd_get adX0_insert_3 (k := 12) rfl
theorem dX0_insert_101 : decode cX0_insert 101 = .ok (.return_, 1) := fd_get adX0_insert_3 (k := 13) rfl
theorem mwsX0_removeKey_0 : ∀ w ∈ wsX0_removeKey_r1, w ∈ wsX0_removeKey := fun w h => (List.mem_cons_of_mem _ (List.mem_append_left _ (List.mem_append_left _ h)))
theorem mwsX0_removeKey_1 : ∀ w ∈ wsX0_removeKey_r2, w ∈ wsX0_removeKey := fun w h => (List.mem_cons_of_mem _ (List.mem_append_left _ (List.mem_append_right _ h)))
theorem mwsX0_removeKey_2 : ∀ w ∈ wsX00, w ∈ wsX0_removeKey := fun w h => (List.mem_cons_of_mem _ (List.mem_append_right _ h))
set_option maxRecDepth 20000 in
theorem ggX0_removeKey_X0_placeOf : GoodIn wsX0_removeKey wsX0_placeOf := goodIn_sub (tk_mem 4 _ (fun w h => (mwsX0_removeKey_0 _ (tkB_mem 4 4 h))) (List.forall_mem_cons.mpr ⟨(mwsX0_removeKey_0 _ (List.mem_of_getElem? (i := 3) rfl)), (tk_mem 8 _ (fun w h => (mwsX0_removeKey_0 _ (tkB_mem 8 8 h))) (tk_mem 7 _ (fun w h => (mwsX0_removeKey_2 _ (tkB_mem 0 7 h))) (fun _ h => absurd h List.not_mem_nil)))⟩)) (by decide +kernel)
set_option maxRecDepth 20000 in
theorem gX0_removeKey_X0_placeOf : GoodIn wsX0_removeKey (wsV RX0 48 RX0 yX0_placeOf wsX0_placeOf) := goodIn_app (goodIn_sub (tk_mem 4 _ (fun w h => (mwsX0_removeKey_0 _ (tkB_mem 0 4 h))) (fun _ h => absurd h List.not_mem_nil)) (by decide +kernel)) ggX0_removeKey_X0_placeOf
set_option maxRecDepth 20000 in
theorem ggX0_removeKey_X0_keyAt : GoodIn wsX0_removeKey wsX0_keyAt := goodIn_sub (List.forall_mem_cons.mpr ⟨(mwsX0_removeKey_0 _ (List.mem_of_getElem? (i := 19) rfl)), (List.forall_mem_cons.mpr ⟨(mwsX0_removeKey_0 _ (List.mem_of_getElem? (i := 15) rfl)), (List.forall_mem_cons.mpr ⟨(mwsX0_removeKey_0 _ (List.mem_of_getElem? (i := 20) rfl)), (List.forall_mem_cons.mpr ⟨(mwsX0_removeKey_0 _ (List.mem_of_getElem? (i := 21) rfl)), (List.forall_mem_cons.mpr ⟨(mwsX0_removeKey_0 _ (List.mem_of_getElem? (i := 22) rfl)), (List.forall_mem_cons.mpr ⟨(mwsX0_removeKey_0 _ (List.mem_of_getElem? (i := 3) rfl)), (List.forall_mem_cons.mpr ⟨(mwsX0_removeKey_0 _ (List.mem_of_getElem? (i := 23) rfl)), (List.forall_mem_cons.mpr ⟨(mwsX0_removeKey_0 _ (List.mem_of_getElem? (i := 14) rfl)), (tk_mem 7 _ (fun w h => (mwsX0_removeKey_2 _ (tkB_mem 0 7 h))) (fun _ h => absurd h List.not_mem_nil))⟩)⟩)⟩)⟩)⟩)⟩)⟩)⟩) (by decide +kernel)
set_option maxRecDepth 20000 in
theorem gX0_removeKey_X0_keyAt : GoodIn wsX0_removeKey (wsV RX0 51 RX0 yX0_keyAt wsX0_keyAt) := goodIn_app (goodIn_sub (List.forall_mem_cons.mpr ⟨(mwsX0_removeKey_0 _ (List.mem_of_getElem? (i := 16) rfl)), (List.forall_mem_cons.mpr ⟨(mwsX0_removeKey_0 _ (List.mem_of_getElem? (i := 17) rfl)), (List.forall_mem_cons.mpr ⟨(mwsX0_removeKey_0 _ (List.mem_of_getElem? (i := 18) rfl)), (List.forall_mem_cons.mpr ⟨(mwsX0_removeKey_0 _ (List.mem_of_getElem? (i := 3) rfl)), (fun _ h => absurd h List.not_mem_nil)⟩)⟩)⟩)⟩) (by decide +kernel)) ggX0_removeKey_X0_keyAt
set_option maxRecDepth 20000 in
theorem ggX0_removeKey_X0_valueAt : GoodIn wsX0_removeKey wsX0_valueAt := goodIn_sub (List.forall_mem_cons.mpr ⟨(mwsX0_removeKey_1 _ (List.mem_of_getElem? (i := 3) rfl)), (List.forall_mem_cons.mpr ⟨(mwsX0_removeKey_1 _ (List.mem_of_getElem? (i := 4) rfl)), (List.forall_mem_cons.mpr ⟨(mwsX0_removeKey_0 _ (List.mem_of_getElem? (i := 20) rfl)), (List.forall_mem_cons.mpr ⟨(mwsX0_removeKey_0 _ (List.mem_of_getElem? (i := 21) rfl)), (List.forall_mem_cons.mpr ⟨(mwsX0_removeKey_0 _ (List.mem_of_getElem? (i := 22) rfl)), (List.forall_mem_cons.mpr ⟨(mwsX0_removeKey_0 _ (List.mem_of_getElem? (i := 3) rfl)), (List.forall_mem_cons.mpr ⟨(mwsX0_removeKey_0 _ (List.mem_of_getElem? (i := 23) rfl)), (List.forall_mem_cons.mpr ⟨(mwsX0_removeKey_0 _ (List.mem_of_getElem? (i := 14) rfl)), (tk_mem 7 _ (fun w h => (mwsX0_removeKey_2 _ (tkB_mem 0 7 h))) (fun _ h => absurd h List.not_mem_nil))⟩)⟩)⟩)⟩)⟩)⟩)⟩)⟩) (by decide +kernel)
set_option maxRecDepth 20000 in
theorem gX0_removeKey_X0_valueAt : GoodIn wsX0_removeKey (wsV RX0 54 RX0 yX0_valueAt wsX0_valueAt) := goodIn_app (goodIn_sub (List.forall_mem_cons.mpr ⟨(mwsX0_removeKey_1 _ (List.mem_of_getElem? (i := 0) rfl)), (List.forall_mem_cons.mpr ⟨(mwsX0_removeKey_1 _ (List.mem_of_getElem? (i := 1) rfl)), (List.forall_mem_cons.mpr ⟨(mwsX0_removeKey_1 _ (List.mem_of_getElem? (i := 2) rfl)), (List.forall_mem_cons.mpr ⟨(mwsX0_removeKey_0 _ (List.mem_of_getElem? (i := 3) rfl)), (fun _ h => absurd h List.not_mem_nil)⟩)⟩)⟩)⟩) (by decide +kernel)) ggX0_removeKey_X0_valueAt
set_option maxRecDepth 20000 in
theorem ggX0_removeKey_X0_removeRange : GoodIn wsX0_removeKey wsX0_removeRange := goodIn_sub (List.forall_mem_cons.mpr ⟨(mwsX0_removeKey_1 _ (List.mem_of_getElem? (i := 8) rfl)), (List.forall_mem_cons.mpr ⟨(mwsX0_removeKey_0 _ (List.mem_of_getElem? (i := 14) rfl)), (List.forall_mem_cons.mpr ⟨(mwsX0_removeKey_0 _ (List.mem_of_getElem? (i := 15) rfl)), (tk_mem 4 _ (fun w h => (mwsX0_removeKey_1 _ (tkB_mem 9 4 h))) (List.forall_mem_cons.mpr ⟨(mwsX0_removeKey_1 _ (List.mem_of_getElem? (i := 4) rfl)), (List.forall_mem_cons.mpr ⟨(mwsX0_removeKey_1 _ (List.mem_of_getElem? (i := 13) rfl)), (tk_mem 7 _ (fun w h => (mwsX0_removeKey_2 _ (tkB_mem 0 7 h))) (fun _ h => absurd h List.not_mem_nil))⟩)⟩))⟩)⟩)⟩) (by decide +kernel)
set_option maxRecDepth 20000 in
theorem gX0_removeKey_X0_removeRange : GoodIn wsX0_removeKey (wsV RX0 82 RX0 yX0_removeRange wsX0_removeRange) := goodIn_app (goodIn_sub (List.forall_mem_cons.mpr ⟨(mwsX0_removeKey_1 _ (List.mem_of_getElem? (i := 5) rfl)), (List.forall_mem_cons.mpr ⟨(mwsX0_removeKey_1 _ (List.mem_of_getElem? (i := 6) rfl)), (List.forall_mem_cons.mpr ⟨(mwsX0_removeKey_1 _ (List.mem_of_getElem? (i := 7) rfl)), (List.forall_mem_cons.mpr ⟨(mwsX0_removeKey_0 _ (List.mem_of_getElem? (i := 3) rfl)), (fun _ h => absurd h List.not_mem_nil)⟩)⟩)⟩)⟩) (by decide +kernel)) ggX0_removeKey_X0_removeRange
theorem adX0_removeKey_0 : fd_rows (cX0_removeKey.data.toList.drop 0) 0 [(0, some (.aload_n 0), 1), (1, some (.iload_n 1), 1), (2, some (.invokevirtual 48), 3), (5, some (.istore_n 2), 1), (6, some (.aload_n 0), 1), (7, some (.iload_n 2), 1), (8, some (.invokevirtual 51), 3), (11, some (.iload_n 1), 1), (12, some (.if_icmp .eq 7), 3), (15, some (.sipush (-10000)), 3), (18, some (.ireturn), 1), (19, some (.aload_n 0), 1), (20, some (.iload_n 2), 1), (21, some (.invokevirtual 54), 3), (24, some (.istore_n 3), 1), (25, some (.aload_n 0), 1)] = true := by decide +kernel
theorem adX0_removeKey_1 : fd_rows (cX0_removeKey.data.toList.drop 26) 26 [(26, some (.iload_n 2), 1), (27, some (.iload_n 2), 1), (28, some (.iconst 1), 1), (29, some (.iadd), 1), (30, some (.invokevirtual 82), 3), (33, some (.pop), 1), (34, some (.iload_n 3), 1), (35, some (.ireturn), 1)] = true := by decide +kernel
theorem dX0_removeKey_0 : decode cX0_removeKey 0 = .ok (.aload_n 0, 1) := fd_get adX0_removeKey_0 (k := 0) rfl
theorem dX0_removeKey_1 : decode cX0_removeKey 1 = .ok (.iload_n 1, 1) := fd_get adX0_removeKey_0 (k := 1) rfl
theorem dX0_removeKey_2 : decode cX0_removeKey 2 = .ok (.invokevirtual 48, 3) := fd_get adX0_removeKey_0 (k := 2) rfl
theorem dX0_removeKey_5 : decode cX0_removeKey 5 = .ok (.istore_n 2, 1) := fd_get adX0_removeKey_0 (k := 3) rfl
theorem dX0_removeKey_6 : decode cX0_removeKey 6 = .ok (.aload_n 0, 1) := fd_get adX0_removeKey_0 (k := 4) rfl
theorem dX0_removeKey_7 : decode cX0_removeKey 7 = .ok (.iload_n 2, 1) := fd_get adX0_removeKey_0 (k := 5) rfl
theorem dX0_removeKey_8 : decode cX0_removeKey 8 = .ok (.invokevirtual 51, 3) := fd_get adX0_removeKey_0 (k := 6) rfl
theorem dX0_removeKey_11 : decode cX0_removeKey 11 = .ok (.iload_n 1, 1) := fd_get adX0_removeKey_0 (k := 7) rfl
theorem dX0_removeKey_12 : decode cX0_removeKey 12 = .ok (.if_icmp .eq 7, 3) := fd_get adX0_removeKey_0 (k := 8) rfl
theorem dX0_removeKey_15 : decode cX0_removeKey 15 = .ok (.sipush (-10000), 3) := fd_get adX0_removeKey_0 (k := 9) rfl
theorem dX0_removeKey_18 : decode cX0_removeKey 18 = .ok (.ireturn, 1) := fd_get adX0_removeKey_0 (k := 10) rfl
theorem dX0_removeKey_19 : decode cX0_removeKey 19 = .ok (.aload_n 0, 1) := fd_get adX0_removeKey_0 (k := 11) rfl
theorem dX0_removeKey_20 : decode cX0_removeKey 20 = .ok (.iload_n 2, 1) := fd_get adX0_removeKey_0 (k := 12) rfl
theorem dX0_removeKey_21 : decode cX0_removeKey 21 = .ok (.invokevirtual 54, 3) := fd_get adX0_removeKey_0 (k := 13) rfl
theorem dX0_removeKey_24 : decode cX0_removeKey 24 = .ok (.istore_n 3, 1) := fd_get adX0_removeKey_0 (k := 14) rfl
theorem dX0_removeKey_25 : decode cX0_removeKey 25 = .ok (.aload_n 0, 1) := fd_get adX0_removeKey_0 (k := 15) rfl
theorem dX0_removeKey_26 : decode cX0_removeKey 26 = .ok (.iload_n 2, 1) := fd_get adX0_removeKey_1 (k := 0) rfl
theorem dX0_removeKey_27 : decode cX0_removeKey 27 = .ok (.iload_n 2, 1) := fd_get adX0_removeKey_1 (k := 1) rfl
theorem dX0_removeKey_28 : decode cX0_removeKey 28 = .ok (.iconst 1, 1) := fd_get adX0_removeKey_1 (k := 2) rfl
theorem dX0_removeKey_29 : decode cX0_removeKey 29 = .ok (.iadd, 1) := fd_get adX0_removeKey_1 (k := 3) rfl
theorem dX0_removeKey_30 : decode cX0_removeKey 30 = .ok (.invokevirtual 82, 3) := fd_get adX0_removeKey_1 (k := 4) rfl
theorem dX0_removeKey_33 : decode cX0_removeKey 33 = .ok (.pop, 1) := fd_get adX0_removeKey_1 (k := 5) rfl
theorem dX0_removeKey_34 : decode cX0_removeKey 34 = .ok (.iload_n 3, 1) := fd_get adX0_removeKey_1 (k := 6) rfl
theorem dX0_removeKey_35 : decode cX0_removeKey 35 = .ok (.ireturn, 1) := fd_get adX0_removeKey_1 (k := 7) rfl
theorem mwsX0_removeAt_0 : ∀ w ∈ wsX00, w ∈ wsX0_removeAt := fun w h => (List.mem_cons_of_mem _ (List.mem_append_right _ h))
set_option maxRecDepth 20000 in
theorem ggX0_removeAt_X0_keyAt : GoodIn wsX0_removeAt wsX0_keyAt := goodIn_sub (tk_mem 5 _ (fun w h => (List.mem_cons_of_mem _ (List.mem_append_left _ (tkB_mem 4 5 h)))) (List.forall_mem_cons.mpr ⟨(List.mem_cons_of_mem _ (List.mem_append_left _ (List.mem_of_getElem? (i := 3) rfl))), (List.forall_mem_cons.mpr ⟨(List.mem_cons_of_mem _ (List.mem_append_left _ (List.mem_of_getElem? (i := 9) rfl))), (List.forall_mem_cons.mpr ⟨(List.mem_cons_of_mem _ (List.mem_append_left _ (List.mem_of_getElem? (i := 10) rfl))), (tk_mem 7 _ (fun w h => (mwsX0_removeAt_0 _ (tkB_mem 0 7 h))) (fun _ h => absurd h List.not_mem_nil))⟩)⟩)⟩)) (by decide +kernel)
set_option maxRecDepth 20000 in
theorem gX0_removeAt_X0_keyAt : GoodIn wsX0_removeAt (wsV RX0 51 RX0 yX0_keyAt wsX0_keyAt) := goodIn_app (goodIn_sub (tk_mem 4 _ (fun w h => (List.mem_cons_of_mem _ (List.mem_append_left _ (tkB_mem 0 4 h)))) (fun _ h => absurd h List.not_mem_nil)) (by decide +kernel)) ggX0_removeAt_X0_keyAt
set_option maxRecDepth 20000 in
theorem ggX0_removeAt_X0_removeRange : GoodIn wsX0_removeAt wsX0_removeRange := goodIn_sub (List.forall_mem_cons.mpr ⟨(List.mem_cons_of_mem _ (List.mem_append_left _ (List.mem_of_getElem? (i := 14) rfl))), (List.forall_mem_cons.mpr ⟨(List.mem_cons_of_mem _ (List.mem_append_left _ (List.mem_of_getElem? (i := 10) rfl))), (List.forall_mem_cons.mpr ⟨(List.mem_cons_of_mem _ (List.mem_append_left _ (List.mem_of_getElem? (i := 5) rfl))), (tk_mem 6 _ (fun w h => (List.mem_cons_of_mem _ (List.mem_append_left _ (tkB_mem 15 6 h)))) (tk_mem 7 _ (fun w h => (mwsX0_removeAt_0 _ (tkB_mem 0 7 h))) (fun _ h => absurd h List.not_mem_nil)))⟩)⟩)⟩) (by decide +kernel)
set_option maxRecDepth 20000 in
theorem gX0_removeAt_X0_removeRange : GoodIn wsX0_removeAt (wsV RX0 82 RX0 yX0_removeRange wsX0_removeRange) := goodIn_app (goodIn_sub (List.forall_mem_cons.mpr ⟨(List.mem_cons_of_mem _ (List.mem_append_left _ (List.mem_of_getElem? (i := 11) rfl))), (List.forall_mem_cons.mpr ⟨(List.mem_cons_of_mem _ (List.mem_append_left _ (List.mem_of_getElem? (i := 12) rfl))), (List.forall_mem_cons.mpr ⟨(List.mem_cons_of_mem _ (List.mem_append_left _ (List.mem_of_getElem? (i := 13) rfl))), (List.forall_mem_cons.mpr ⟨(List.mem_cons_of_mem _ (List.mem_append_left _ (List.mem_of_getElem? (i := 3) rfl))), (fun _ h => absurd h List.not_mem_nil)⟩)⟩)⟩)⟩) (by decide +kernel)) ggX0_removeAt_X0_removeRange
theorem adX0_removeAt_0 : fd_rows (cX0_removeAt.data.toList.drop 0) 0 [(0, some (.aload_n 0), 1), (1, some (.iload_n 1), 1), (2, some (.invokevirtual 51), 3), (5, some (.istore_n 2), 1), (6, some (.iload_n 2), 1), (7, some (.sipush (-10000)), 3), (10, some (.if_icmp .eq 12), 3), (13, some (.aload_n 0), 1), (14, some (.iload_n 1), 1), (15, some (.iload_n 1), 1), (16, some (.iconst 1), 1), (17, some (.iadd), 1), (18, some (.invokevirtual 82), 3), (21, some (.pop), 1), (22, some (.iload_n 2), 1), (23, some (.ireturn), 1)] = true := by decide +kernel
theorem dX0_removeAt_0 : decode cX0_removeAt 0 = .ok (.aload_n 0, 1) := fd_get adX0_removeAt_0 (k := 0) rfl
theorem dX0_removeAt_1 : decode cX0_removeAt 1 = .ok (.iload_n 1, 1) := fd_get adX0_removeAt_0 (k := 1) rfl
theorem dX0_removeAt_2 : decode cX0_removeAt 2 = .ok (.invokevirtual 51, 3) := fd_get adX0_removeAt_0 (k := 2) rfl
theorem dX0_removeAt_5 : decode cX0_removeAt 5 = .ok (.istore_n 2, 1) := fd_get adX0_removeAt_0 (k := 3) rfl
theorem dX0_removeAt_6 : decode cX0_removeAt 6 = .ok (.iload_n 2, 1) := fd_get adX0_removeAt_0 (k := 4) rfl
theorem dX0_removeAt_7 : decode cX0_removeAt 7 = .ok (.sipush (-10000), 3) := fd_get adX0_removeAt_0 (k := 5) rfl
theorem dX0_removeAt_10 : decode cX0_removeAt 10 = .ok (.if_icmp .eq 12, 3) := fd_get adX0_removeAt_0 (k := 6) rfl
theorem dX0_removeAt_13 : decode cX0_removeAt 13 = .ok (.aload_n 0, 1) := fd_get adX0_removeAt_0 (k := 7) rfl
theorem dX0_removeAt_14 : decode cX0_removeAt 14 = .ok (.iload_n 1, 1) := fd_get adX0_removeAt_0 (k := 8) rfl
theorem dX0_removeAt_15 : decode cX0_removeAt 15 = .ok (.iload_n 1, 1) := fd_get adX0_removeAt_0 (k := 9) rfl
theorem dX0_removeAt_16 : decode cX0_removeAt 16 = .ok (.iconst 1, 1) := fd_get adX0_removeAt_0 (k := 10) rfl
theorem dX0_removeAt_17 : decode cX0_removeAt 17 = .ok (.iadd, 1) := fd_get adX0_removeAt_0 (k := 11) rfl
theorem dX0_removeAt_18 : decode cX0_removeAt 18 = .ok (.invokevirtual 82, 3) := fd_get adX0_removeAt_0 (k := 12) rfl
theorem dX0_removeAt_21 : decode cX0_removeAt 21 = .ok (.pop, 1) := fd_get adX0_removeAt_0 (k := 13) rfl
theorem dX0_removeAt_22 : decode cX0_removeAt 22 = .ok (.iload_n 2, 1) := fd_get adX0_removeAt_0 (k := 14) rfl
theorem dX0_removeAt_23 : decode cX0_removeAt 23 = .ok (.ireturn, 1) := fd_get adX0_removeAt_0 (k := 15) rfl
theorem adX0_removeRange_0 : fd_rows (cX0_removeRange.data.toList.drop 0) 0 [(0, some (.iload_n 1), 1), (1, some (.ifCond .lt 16), 3), (4, some (.iload_n 1), 1), (5, some (.iload_n 2), 1), (6, some (.if_icmp .ge 11), 3), (9, some (.iload_n 2), 1), (10, some (.aload_n 0), 1), (11, some (.getfield 25), 3), (14, some (.if_icmp .le 5), 3), (17, some (.iconst 0), 1), (18, some (.ireturn), 1), (19, some (.aload_n 0), 1), (20, some (.getfield 15), 3), (23, some (.iload_n 2), 1), (24, some (.aload_n 0), 1), (25, some (.getfield 15), 3)] = true := by decide +kernel
theorem adX0_removeRange_1 : fd_rows (cX0_removeRange.data.toList.drop 28) 28 [(28, some (.iload_n 1), 1), (29, some (.aload_n 0), 1), (30, some (.getfield 25), 3), (33, some (.iload_n 2), 1), (34, some (.isub), 1), (35, some (.invokestatic 76), 3), (38, some (.aload_n 0), 1), (39, some (.getfield 19), 3), (42, some (.iload_n 2), 1), (43, some (.aload_n 0), 1), (44, some (.getfield 19), 3), (47, some (.iload_n 1), 1), (48, some (.aload_n 0), 1), (49, some (.getfield 25), 3), (52, some (.iload_n 2), 1), (53, some (.isub), 1)] = true := by decide +kernel
theorem adX0_removeRange_2 : fd_rows (cX0_removeRange.data.toList.drop 54) 54 [(54, some (.invokestatic 76), 3), (57, some (.aload_n 0), 1), (58, some (.dup), 1), (59, some (.getfield 25), 3), (62, some (.iload_n 2), 1), (63, some (.iload_n 1), 1), (64, some (.isub), 1), (65, some (.isub), 1), (66, some (.putfield 25), 3), (69, some (.aload_n 0), 1), (70, some (.dup), 1), (71, some (.getfield 31), 3), (74, some (.iconst 1), 1), (75, some (.iadd), 1), (76, some (.putfield 31), 3), (79, some (.iload_n 2), 1)] = true := by decide +kernel
theorem adX0_removeRange_3 : fd_rows (cX0_removeRange.data.toList.drop 80) 80 [(80, some (.iload_n 1), 1), (81, some (.isub), 1), (82, some (.ireturn), 1)] = true := by decide +kernel
theorem dX0_removeRange_0 : decode cX0_removeRange 0 = .ok (.iload_n 1, 1) := fd_get adX0_removeRange_0 (k := 0) rfl
theorem dX0_removeRange_1 : decode cX0_removeRange 1 = .ok (.ifCond .lt 16, 3) := fd_get adX0_removeRange_0 (k := 1) rfl
theorem dX0_removeRange_4 : decode cX0_removeRange 4 = .ok (.iload_n 1, 1) := fd_get adX0_removeRange_0 (k := 2) rfl
theorem dX0_removeRange_5 : decode cX0_removeRange 5 = .ok (.iload_n 2, 1) := fd_get adX0_removeRange_0 (k := 3) rfl
theorem dX0_removeRange_6 : decode cX0_removeRange 6 = .ok (.if_icmp .ge 11, 3) := fd_get adX0_removeRange_0 (k := 4) rfl
theorem dX0_removeRange_9 : decode cX0_removeRange 9 = .ok (.iload_n 2, 1) := fd_get adX0_removeRange_0 (k := 5) rfl
theorem dX0_removeRange_10 : decode cX0_removeRange 10 = .ok (.aload_n 0, 1) := fd_get adX0_removeRange_0 (k := 6) rfl
theorem dX0_removeRange_11 : decode cX0_removeRange 11 = .ok (.getfield 25, 3) := fd_get adX0_removeRange_0 (k := 7) rfl
theorem dX0_removeRange_14 : decode cX0_removeRange 14 = .ok (.if_icmp .le 5, 3) := fd_get adX0_removeRange_0 (k := 8) rfl
theorem dX0_removeRange_17 : decode cX0_removeRange 17 = .ok (.iconst 0, 1) := fd_get adX0_removeRange_0 (k := 9) rfl
theorem dX0_removeRange_18 : decode cX0_removeRange 18 = .ok (.ireturn, 1) := fd_get adX0_removeRange_0 (k := 10) rfl
theorem dX0_removeRange_19 : decode cX0_removeRange 19 = .ok (.aload_n 0, 1) := fd_get adX0_removeRange_0 (k := 11) rfl
theorem dX0_removeRange_20 : decode cX0_removeRange 20 = .ok (.getfield 15, 3) := fd_get adX0_removeRange_0 (k := 12) rfl
theorem dX0_removeRange_23 : decode cX0_removeRange 23 = .ok (.iload_n 2, 1) := fd_get adX0_removeRange_0 (k := 13) rfl
theorem dX0_removeRange_24 : decode cX0_removeRange 24 = .ok (.aload_n 0, 1) := fd_get adX0_removeRange_0 (k := 14) rfl
theorem dX0_removeRange_25 : decode cX0_removeRange 25 = .ok (.getfield 15, 3) := fd_get adX0_removeRange_0 (k := 15) rfl
theorem dX0_removeRange_28 : decode cX0_removeRange 28 = .ok (.iload_n 1, 1) := fd_get adX0_removeRange_1 (k := 0) rfl
theorem dX0_removeRange_29 : decode cX0_removeRange 29 = .ok (.aload_n 0, 1) := fd_get adX0_removeRange_1 (k := 1) rfl
theorem dX0_removeRange_30 : decode cX0_removeRange 30 = .ok (.getfield 25, 3) := fd_get adX0_removeRange_1 (k := 2) rfl
theorem dX0_removeRange_33 : decode cX0_removeRange 33 = .ok (.iload_n 2, 1) := fd_get adX0_removeRange_1 (k := 3) rfl
theorem dX0_removeRange_34 : decode cX0_removeRange 34 = .ok (.isub, 1) := fd_get adX0_removeRange_1 (k := 4) rfl
theorem dX0_removeRange_35 : decode cX0_removeRange 35 = .ok (.invokestatic 76, 3) := fd_get adX0_removeRange_1 (k := 5) rfl
theorem dX0_removeRange_38 : decode cX0_removeRange 38 = .ok (.aload_n 0, 1) := fd_get adX0_removeRange_1 (k := 6) rfl
theorem dX0_removeRange_39 : decode cX0_removeRange 39 = .ok (.getfield 19, 3) := fd_get adX0_removeRange_1 (k := 7) rfl
theorem dX0_removeRange_42 : decode cX0_removeRange 42 = .ok (.iload_n 2, 1) := fd_get adX0_removeRange_1 (k := 8) rfl
theorem dX0_removeRange_43 : decode cX0_removeRange 43 = .ok (.aload_n 0, 1) := fd_get adX0_removeRange_1 (k := 9) rfl
theorem dX0_removeRange_44 : decode cX0_removeRange 44 = .ok (.getfield 19, 3) := fd_get adX0_removeRange_1 (k := 10) rfl
theorem dX0_removeRange_47 : decode cX0_removeRange 47 = .ok (.iload_n 1, 1) := fd_get adX0_removeRange_1 (k := 11) rfl
theorem dX0_removeRange_48 : decode cX0_removeRange 48 = .ok (.aload_n 0, 1) := fd_get adX0_removeRange_1 (k := 12) rfl
theorem dX0_removeRange_49 : decode cX0_removeRange 49 = .ok (.getfield 25, 3) := fd_get adX0_removeRange_1 (k := 13) rfl
theorem dX0_removeRange_52 : decode cX0_removeRange 52 = .ok (.iload_n 2, 1) := fd_get adX0_removeRange_1 (k := 14) rfl
theorem dX0_removeRange_53 : decode cX0_removeRange 53 = .ok (.isub, 1) := fd_get adX0_removeRange_1 (k := 15) rfl
theorem dX0_removeRange_54 : decode cX0_removeRange 54 = .ok (.invokestatic 76, 3) := fd_get adX0_removeRange_2 (k := 0) rfl
theorem dX0_removeRange_57 : decode cX0_removeRange 57 = .ok (.aload_n 0, 1) := fd_get adX0_removeRange_2 (k := 1) rfl
theorem dX0_removeRange_58 : decode cX0_removeRange 58 = .ok (.dup, 1) := fd_get adX0_removeRange_2 (k := 2) rfl
theorem dX0_removeRange_59 : decode cX0_removeRange 59 = .ok (.getfield 25, 3) := fd_get adX0_removeRange_2 (k := 3) rfl
theorem dX0_removeRange_62 : decode cX0_removeRange 62 = .ok (.iload_n 2, 1) := fd_get adX0_removeRange_2 (k := 4) rfl
theorem dX0_removeRange_63 : decode cX0_removeRange 63 = .ok (.iload_n 1, 1) := fd_get adX0_removeRange_2 (k := 5) rfl
theorem dX0_removeRange_64 : decode cX0_removeRange 64 = .ok (.isub, 1) := fd_get adX0_removeRange_2 (k := 6) rfl
theorem dX0_removeRange_65 : decode cX0_removeRange 65 = .ok (.isub, 1) := fd_get adX0_removeRange_2 (k := 7) rfl
theorem dX0_removeRange_66 : decode cX0_removeRange 66 = .ok (.putfield 25, 3) := fd_get adX0_removeRange_2 (k := 8) rfl
theorem dX0_removeRange_69 : decode cX0_removeRange 69 = .ok (.aload_n 0, 1) := fd_get adX0_removeRange_2 (k := 9) rfl
theorem dX0_removeRange_70 : decode cX0_removeRange 70 = .ok (.dup, 1) := fd_get adX0_removeRange_2 (k := 10) rfl
theorem dX0_removeRange_71 : decode cX0_removeRange 71 = .ok (.getfield 31, 3) := fd_get adX0_removeRange_2 (k := 11) rfl
theorem dX0_removeRange_74 : decode cX0_removeRange 74 = .ok (.iconst 1, 1) := fd_get adX0_removeRange_2 (k := 12) rfl
theorem dX0_removeRange_75 : decode cX0_removeRange 75 = .ok (.iadd, 1) := fd_get adX0_removeRange_2 (k := 13) rfl
theorem dX0_removeRange_76 : decode cX0_removeRange 76 = .ok (.putfield 31, 3) := fd_get adX0_removeRange_2 (k := 14) rfl
theorem dX0_removeRange_79 : decode cX0_removeRange 79 = .ok (.iload_n 2, 1) := fd_get adX0_removeRange_2 (k := 15) rfl
theorem dX0_removeRange_80 : decode cX0_removeRange 80 = .ok (.iload_n 1, 1) := fd_get adX0_removeRange_3 (k := 0) rfl
theorem dX0_removeRange_81 : decode cX0_removeRange 81 = .ok (.isub, 1) := fd_get adX0_removeRange_3 (k := 1) rfl
theorem dX0_removeRange_82 : decode cX0_removeRange 82 = .ok (.ireturn, 1) := fd_get adX0_removeRange_3 (k := 2) rfl
theorem mwsX0_putTogether_0 : ∀ w ∈ wsX0_putTogether_r1, w ∈ wsX0_putTogether := fun w h => (List.mem_cons_of_mem _ (List.mem_append_left _ (List.mem_append_left _ h)))
theorem mwsX0_putTogether_1 : ∀ w ∈ wsX0_putTogether_r2, w ∈ wsX0_putTogether := fun w h => (List.mem_cons_of_mem _ (List.mem_append_left _ (List.mem_append_right _ (List.mem_append_left _ h))))
theorem mwsX0_putTogether_2 : ∀ w ∈ wsX0_putTogether_r3, w ∈ wsX0_putTogether := fun w h => (List.mem_cons_of_mem _ (List.mem_append_left _ (List.mem_append_right _ (List.mem_append_right _ h))))
theorem mwsX0_putTogether_3 : ∀ w ∈ wsX00, w ∈ wsX0_putTogether := fun w h => (List.mem_cons_of_mem _ (List.mem_append_right _ h))
set_option maxRecDepth 20000 in
theorem ggX0_putTogether_X0_holds : GoodIn wsX0_putTogether wsX0_holds := goodIn_sub (tk_mem 4 _ (fun w h => (mwsX0_putTogether_0 _ (tkB_mem 4 4 h))) (List.forall_mem_cons.mpr ⟨(mwsX0_putTogether_0 _ (List.mem_of_getElem? (i := 3) rfl)), (tk_mem 16 _ (fun w h => (mwsX0_putTogether_0 _ (tkB_mem 8 16 h))) (tk_mem 13 _ (fun w h => (mwsX0_putTogether_1 _ (tkB_mem 0 13 h))) (tk_mem 7 _ (fun w h => (mwsX0_putTogether_3 _ (tkB_mem 0 7 h))) (fun _ h => absurd h List.not_mem_nil))))⟩)) (by decide +kernel)
set_option maxRecDepth 20000 in
theorem gX0_putTogether_X0_holds : GoodIn wsX0_putTogether (wsV RX0 85 RX0 yX0_holds wsX0_holds) := goodIn_app (goodIn_sub (tk_mem 4 _ (fun w h => (mwsX0_putTogether_0 _ (tkB_mem 0 4 h))) (fun _ h => absurd h List.not_mem_nil)) (by decide +kernel)) ggX0_putTogether_X0_holds
set_option maxRecDepth 20000 in
theorem ggX0_putTogether_X0_enter : GoodIn wsX0_putTogether wsX0_enter := goodIn_sub (List.forall_mem_cons.mpr ⟨(mwsX0_putTogether_1 _ (List.mem_of_getElem? (i := 16) rfl)), (List.forall_mem_cons.mpr ⟨(mwsX0_putTogether_0 _ (List.mem_of_getElem? (i := 23) rfl)), (List.forall_mem_cons.mpr ⟨(mwsX0_putTogether_1 _ (List.mem_of_getElem? (i := 12) rfl)), (List.forall_mem_cons.mpr ⟨(mwsX0_putTogether_0 _ (List.mem_of_getElem? (i := 9) rfl)), (List.forall_mem_cons.mpr ⟨(mwsX0_putTogether_0 _ (List.mem_of_getElem? (i := 10) rfl)), (List.forall_mem_cons.mpr ⟨(mwsX0_putTogether_0 _ (List.mem_of_getElem? (i := 11) rfl)), (List.forall_mem_cons.mpr ⟨(mwsX0_putTogether_0 _ (List.mem_of_getElem? (i := 3) rfl)), (tk_mem 11 _ (fun w h => (mwsX0_putTogether_0 _ (tkB_mem 12 11 h))) (tk_mem 4 _ (fun w h => (mwsX0_putTogether_1 _ (tkB_mem 4 4 h))) (tk_mem 7 _ (fun w h => (mwsX0_putTogether_1 _ (tkB_mem 17 7 h))) (List.forall_mem_cons.mpr ⟨(mwsX0_putTogether_2 _ (List.mem_of_getElem? (i := 0) rfl)), (List.forall_mem_cons.mpr ⟨(mwsX0_putTogether_2 _ (List.mem_of_getElem? (i := 1) rfl)), (tk_mem 7 _ (fun w h => (mwsX0_putTogether_3 _ (tkB_mem 0 7 h))) (fun _ h => absurd h List.not_mem_nil))⟩)⟩))))⟩)⟩)⟩)⟩)⟩)⟩)⟩) (by decide +kernel)
set_option maxRecDepth 20000 in
theorem gX0_putTogether_X0_enter : GoodIn wsX0_putTogether (wsV RX0 88 RX0 yX0_enter wsX0_enter) := goodIn_app (goodIn_sub (List.forall_mem_cons.mpr ⟨(mwsX0_putTogether_1 _ (List.mem_of_getElem? (i := 13) rfl)), (List.forall_mem_cons.mpr ⟨(mwsX0_putTogether_1 _ (List.mem_of_getElem? (i := 14) rfl)), (List.forall_mem_cons.mpr ⟨(mwsX0_putTogether_1 _ (List.mem_of_getElem? (i := 15) rfl)), (List.forall_mem_cons.mpr ⟨(mwsX0_putTogether_0 _ (List.mem_of_getElem? (i := 3) rfl)), (fun _ h => absurd h List.not_mem_nil)⟩)⟩)⟩)⟩) (by decide +kernel)) ggX0_putTogether_X0_enter
set_option maxRecDepth 20000 in
theorem ggX0_putTogether_X0_valueOf : GoodIn wsX0_putTogether wsX0_valueOf := goodIn_sub (tk_mem 4 _ (fun w h => (mwsX0_putTogether_0 _ (tkB_mem 8 4 h))) (List.forall_mem_cons.mpr ⟨(mwsX0_putTogether_0 _ (List.mem_of_getElem? (i := 3) rfl)), (tk_mem 12 _ (fun w h => (mwsX0_putTogether_0 _ (tkB_mem 12 12 h))) (tk_mem 13 _ (fun w h => (mwsX0_putTogether_1 _ (tkB_mem 0 13 h))) (tk_mem 7 _ (fun w h => (mwsX0_putTogether_3 _ (tkB_mem 0 7 h))) (fun _ h => absurd h List.not_mem_nil))))⟩)) (by decide +kernel)
set_option maxRecDepth 20000 in
theorem gX0_putTogether_X0_valueOf : GoodIn wsX0_putTogether (wsV RX0 45 RX0 yX0_valueOf wsX0_valueOf) := goodIn_app (goodIn_sub (List.forall_mem_cons.mpr ⟨(mwsX0_putTogether_0 _ (List.mem_of_getElem? (i := 5) rfl)), (List.forall_mem_cons.mpr ⟨(mwsX0_putTogether_0 _ (List.mem_of_getElem? (i := 6) rfl)), (List.forall_mem_cons.mpr ⟨(mwsX0_putTogether_0 _ (List.mem_of_getElem? (i := 7) rfl)), (List.forall_mem_cons.mpr ⟨(mwsX0_putTogether_0 _ (List.mem_of_getElem? (i := 3) rfl)), (fun _ h => absurd h List.not_mem_nil)⟩)⟩)⟩)⟩) (by decide +kernel)) ggX0_putTogether_X0_valueOf
set_option maxRecDepth 20000 in
theorem ggX0_putTogether_X0_bounded : GoodIn wsX0_putTogether wsX0_bounded := goodIn_sub (tk_mem 8 _ (fun w h => (mwsX0_putTogether_2 _ (tkB_mem 4 8 h))) (fun _ h => absurd h List.not_mem_nil)) (by decide +kernel)
set_option maxRecDepth 20000 in
theorem gX0_putTogether_X0_bounded : GoodIn wsX0_putTogether (va_wsS RX0 91 yX0_bounded wsX0_bounded) := goodIn_app (goodIn_sub (List.forall_mem_cons.mpr ⟨(mwsX0_putTogether_2 _ (List.mem_of_getElem? (i := 2) rfl)), (List.forall_mem_cons.mpr ⟨(mwsX0_putTogether_2 _ (List.mem_of_getElem? (i := 3) rfl)), (List.forall_mem_cons.mpr ⟨(mwsX0_putTogether_0 _ (List.mem_of_getElem? (i := 3) rfl)), (fun _ h => absurd h List.not_mem_nil)⟩)⟩)⟩) (by decide +kernel)) ggX0_putTogether_X0_bounded
set_option maxRecDepth 20000 in
theorem ggX0_putTogether_X0_enterUnlessZero : GoodIn wsX0_putTogether wsX0_enterUnlessZero := goodIn_sub (tk_mem 4 _ (fun w h => (mwsX0_putTogether_2 _ (tkB_mem 15 4 h))) (List.forall_mem_cons.mpr ⟨(mwsX0_putTogether_0 _ (List.mem_of_getElem? (i := 3) rfl)), (List.forall_mem_cons.mpr ⟨(mwsX0_putTogether_2 _ (List.mem_of_getElem? (i := 19) rfl)), (tk_mem 15 _ (fun w h => (mwsX0_putTogether_0 _ (tkB_mem 9 15 h))) (tk_mem 13 _ (fun w h => (mwsX0_putTogether_1 _ (tkB_mem 0 13 h))) (tk_mem 4 _ (fun w h => (mwsX0_putTogether_2 _ (tkB_mem 20 4 h))) (List.forall_mem_cons.mpr ⟨(mwsX0_putTogether_1 _ (List.mem_of_getElem? (i := 21) rfl)), (List.forall_mem_cons.mpr ⟨(mwsX0_putTogether_1 _ (List.mem_of_getElem? (i := 22) rfl)), (List.forall_mem_cons.mpr ⟨(mwsX0_putTogether_1 _ (List.mem_of_getElem? (i := 23) rfl)), (List.forall_mem_cons.mpr ⟨(mwsX0_putTogether_2 _ (List.mem_of_getElem? (i := 0) rfl)), (List.forall_mem_cons.mpr ⟨(mwsX0_putTogether_2 _ (List.mem_of_getElem? (i := 1) rfl)), (tk_mem 8 _ (fun w h => (mwsX0_putTogether_1 _ (tkB_mem 13 8 h))) (tk_mem 7 _ (fun w h => (mwsX0_putTogether_3 _ (tkB_mem 0 7 h))) (fun _ h => absurd h List.not_mem_nil)))⟩)⟩)⟩)⟩)⟩))))⟩)⟩)) (by decide +kernel)
set_option maxRecDepth 20000 in
theorem gX0_putTogether_X0_enterUnlessZero : GoodIn wsX0_putTogether (wsV RX0 94 RX0 yX0_enterUnlessZero wsX0_enterUnlessZero) := goodIn_app (goodIn_sub (List.forall_mem_cons.mpr ⟨(mwsX0_putTogether_2 _ (List.mem_of_getElem? (i := 12) rfl)), (List.forall_mem_cons.mpr ⟨(mwsX0_putTogether_2 _ (List.mem_of_getElem? (i := 13) rfl)), (List.forall_mem_cons.mpr ⟨(mwsX0_putTogether_2 _ (List.mem_of_getElem? (i := 14) rfl)), (List.forall_mem_cons.mpr ⟨(mwsX0_putTogether_0 _ (List.mem_of_getElem? (i := 3) rfl)), (fun _ h => absurd h List.not_mem_nil)⟩)⟩)⟩)⟩) (by decide +kernel)) ggX0_putTogether_X0_enterUnlessZero
theorem adX0_putTogether_0 : fd_rows (cX0_putTogether.data.toList.drop 0) 0 [(0, some (.aload_n 0), 1), (1, some (.iload_n 1), 1), (2, some (.invokevirtual 85), 3), (5, some (.ifCond .ne 12), 3), (8, some (.aload_n 0), 1), (9, some (.iload_n 1), 1), (10, some (.iload_n 2), 1), (11, some (.invokevirtual 88), 3), (14, some (.pop), 1), (15, some (.iload_n 2), 1), (16, some (.ireturn), 1), (17, some (.aload_n 0), 1), (18, some (.iload_n 1), 1), (19, some (.invokevirtual 45), 3), (22, some (.iload_n 2), 1), (23, some (.iadd), 1)] = true := by decide +kernel
theorem adX0_putTogether_1 : fd_rows (cX0_putTogether.data.toList.drop 24) 24 [(24, some (.invokestatic 91), 3), (27, some (.istore_n 3), 1), (28, some (.aload_n 0), 1), (29, some (.iload_n 1), 1), (30, some (.iload_n 3), 1), (31, some (.invokevirtual 94), 3), (34, some (.ireturn), 1)] = true := by decide +kernel
theorem dX0_putTogether_0 : decode cX0_putTogether 0 = .ok (.aload_n 0, 1) := fd_get adX0_putTogether_0 (k := 0) rfl
theorem dX0_putTogether_1 : decode cX0_putTogether 1 = .ok (.iload_n 1, 1) := fd_get adX0_putTogether_0 (k := 1) rfl
theorem dX0_putTogether_2 : decode cX0_putTogether 2 = .ok (.invokevirtual 85, 3) := fd_get adX0_putTogether_0 (k := 2) rfl
theorem dX0_putTogether_5 : decode cX0_putTogether 5 = .ok (.ifCond .ne 12, 3) := fd_get adX0_putTogether_0 (k := 3) rfl
theorem dX0_putTogether_8 : decode cX0_putTogether 8 = .ok (.aload_n 0, 1) := fd_get adX0_putTogether_0 (k := 4) rfl
theorem dX0_putTogether_9 : decode cX0_putTogether 9 = .ok (.iload_n 1, 1) := fd_get adX0_putTogether_0 (k := 5) rfl
theorem dX0_putTogether_10 : decode cX0_putTogether 10 = .ok (.iload_n 2, 1) := fd_get adX0_putTogether_0 (k := 6) rfl
theorem dX0_putTogether_11 : decode cX0_putTogether 11 = .ok (.invokevirtual 88, 3) := fd_get adX0_putTogether_0 (k := 7) rfl
theorem dX0_putTogether_14 : decode cX0_putTogether 14 = .ok (.pop, 1) := fd_get adX0_putTogether_0 (k := 8) rfl
theorem dX0_putTogether_15 : decode cX0_putTogether 15 = .ok (.iload_n 2, 1) := fd_get adX0_putTogether_0 (k := 9) rfl
theorem dX0_putTogether_16 : decode cX0_putTogether 16 = .ok (.ireturn, 1) := fd_get adX0_putTogether_0 (k := 10) rfl
theorem dX0_putTogether_17 : decode cX0_putTogether 17 = .ok (.aload_n 0, 1) := fd_get adX0_putTogether_0 (k := 11) rfl
theorem dX0_putTogether_18 : decode cX0_putTogether 18 = .ok (.iload_n 1, 1) := fd_get adX0_putTogether_0 (k := 12) rfl
theorem dX0_putTogether_19 : decode cX0_putTogether 19 = .ok (.invokevirtual 45, 3) := fd_get adX0_putTogether_0 (k := 13) rfl
theorem dX0_putTogether_22 : decode cX0_putTogether 22 = .ok (.iload_n 2, 1) := fd_get adX0_putTogether_0 (k := 14) rfl
theorem dX0_putTogether_23 : decode cX0_putTogether 23 = .ok (.iadd, 1) := fd_get adX0_putTogether_0 (k := 15) rfl
theorem dX0_putTogether_24 : decode cX0_putTogether 24 = .ok (.invokestatic 91, 3) := fd_get adX0_putTogether_1 (k := 0) rfl
theorem dX0_putTogether_27 : decode cX0_putTogether 27 = .ok (.istore_n 3, 1) := fd_get adX0_putTogether_1 (k := 1) rfl
theorem dX0_putTogether_28 : decode cX0_putTogether 28 = .ok (.aload_n 0, 1) := fd_get adX0_putTogether_1 (k := 2) rfl
theorem dX0_putTogether_29 : decode cX0_putTogether 29 = .ok (.iload_n 1, 1) := fd_get adX0_putTogether_1 (k := 3) rfl
theorem dX0_putTogether_30 : decode cX0_putTogether 30 = .ok (.iload_n 3, 1) := fd_get adX0_putTogether_1 (k := 4) rfl
theorem dX0_putTogether_31 : decode cX0_putTogether 31 = .ok (.invokevirtual 94, 3) := fd_get adX0_putTogether_1 (k := 5) rfl
theorem dX0_putTogether_34 : decode cX0_putTogether 34 = .ok (.ireturn, 1) := fd_get adX0_putTogether_1 (k := 6) rfl
theorem mwsX0_growKey_0 : ∀ w ∈ wsX0_growKey_r1, w ∈ wsX0_growKey := fun w h => (List.mem_cons_of_mem _ (List.mem_append_left _ (List.mem_append_left _ h)))
theorem mwsX0_growKey_1 : ∀ w ∈ wsX0_growKey_r2, w ∈ wsX0_growKey := fun w h => (List.mem_cons_of_mem _ (List.mem_append_left _ (List.mem_append_right _ (List.mem_append_left _ h))))
theorem mwsX0_growKey_2 : ∀ w ∈ wsX0_growKey_r3, w ∈ wsX0_growKey := fun w h => (List.mem_cons_of_mem _ (List.mem_append_left _ (List.mem_append_right _ (List.mem_append_right _ h))))
theorem mwsX0_growKey_3 : ∀ w ∈ wsX00, w ∈ wsX0_growKey := fun w h => (List.mem_cons_of_mem _ (List.mem_append_right _ h))
set_option maxRecDepth 20000 in
theorem ggX0_growKey_X0_holds : GoodIn wsX0_growKey wsX0_holds := goodIn_sub (tk_mem 4 _ (fun w h => (mwsX0_growKey_0 _ (tkB_mem 4 4 h))) (List.forall_mem_cons.mpr ⟨(mwsX0_growKey_0 _ (List.mem_of_getElem? (i := 3) rfl)), (tk_mem 16 _ (fun w h => (mwsX0_growKey_0 _ (tkB_mem 8 16 h))) (tk_mem 13 _ (fun w h => (mwsX0_growKey_1 _ (tkB_mem 0 13 h))) (tk_mem 7 _ (fun w h => (mwsX0_growKey_3 _ (tkB_mem 0 7 h))) (fun _ h => absurd h List.not_mem_nil))))⟩)) (by decide +kernel)
set_option maxRecDepth 20000 in
theorem gX0_growKey_X0_holds : GoodIn wsX0_growKey (wsV RX0 85 RX0 yX0_holds wsX0_holds) := goodIn_app (goodIn_sub (tk_mem 4 _ (fun w h => (mwsX0_growKey_0 _ (tkB_mem 0 4 h))) (fun _ h => absurd h List.not_mem_nil)) (by decide +kernel)) ggX0_growKey_X0_holds
set_option maxRecDepth 20000 in
theorem ggX0_growKey_X0_enter : GoodIn wsX0_growKey wsX0_enter := goodIn_sub (List.forall_mem_cons.mpr ⟨(mwsX0_growKey_1 _ (List.mem_of_getElem? (i := 16) rfl)), (List.forall_mem_cons.mpr ⟨(mwsX0_growKey_0 _ (List.mem_of_getElem? (i := 23) rfl)), (List.forall_mem_cons.mpr ⟨(mwsX0_growKey_1 _ (List.mem_of_getElem? (i := 12) rfl)), (List.forall_mem_cons.mpr ⟨(mwsX0_growKey_0 _ (List.mem_of_getElem? (i := 9) rfl)), (List.forall_mem_cons.mpr ⟨(mwsX0_growKey_0 _ (List.mem_of_getElem? (i := 10) rfl)), (List.forall_mem_cons.mpr ⟨(mwsX0_growKey_0 _ (List.mem_of_getElem? (i := 11) rfl)), (List.forall_mem_cons.mpr ⟨(mwsX0_growKey_0 _ (List.mem_of_getElem? (i := 3) rfl)), (tk_mem 11 _ (fun w h => (mwsX0_growKey_0 _ (tkB_mem 12 11 h))) (tk_mem 4 _ (fun w h => (mwsX0_growKey_1 _ (tkB_mem 4 4 h))) (tk_mem 7 _ (fun w h => (mwsX0_growKey_1 _ (tkB_mem 17 7 h))) (List.forall_mem_cons.mpr ⟨(mwsX0_growKey_2 _ (List.mem_of_getElem? (i := 0) rfl)), (List.forall_mem_cons.mpr ⟨(mwsX0_growKey_2 _ (List.mem_of_getElem? (i := 1) rfl)), (tk_mem 7 _ (fun w h => (mwsX0_growKey_3 _ (tkB_mem 0 7 h))) (fun _ h => absurd h List.not_mem_nil))⟩)⟩))))⟩)⟩)⟩)⟩)⟩)⟩)⟩) (by decide +kernel)
set_option maxRecDepth 20000 in
theorem gX0_growKey_X0_enter : GoodIn wsX0_growKey (wsV RX0 88 RX0 yX0_enter wsX0_enter) := goodIn_app (goodIn_sub (List.forall_mem_cons.mpr ⟨(mwsX0_growKey_1 _ (List.mem_of_getElem? (i := 13) rfl)), (List.forall_mem_cons.mpr ⟨(mwsX0_growKey_1 _ (List.mem_of_getElem? (i := 14) rfl)), (List.forall_mem_cons.mpr ⟨(mwsX0_growKey_1 _ (List.mem_of_getElem? (i := 15) rfl)), (List.forall_mem_cons.mpr ⟨(mwsX0_growKey_0 _ (List.mem_of_getElem? (i := 3) rfl)), (fun _ h => absurd h List.not_mem_nil)⟩)⟩)⟩)⟩) (by decide +kernel)) ggX0_growKey_X0_enter
set_option maxRecDepth 20000 in
theorem ggX0_growKey_X0_valueOf : GoodIn wsX0_growKey wsX0_valueOf := goodIn_sub (tk_mem 4 _ (fun w h => (mwsX0_growKey_0 _ (tkB_mem 8 4 h))) (List.forall_mem_cons.mpr ⟨(mwsX0_growKey_0 _ (List.mem_of_getElem? (i := 3) rfl)), (tk_mem 12 _ (fun w h => (mwsX0_growKey_0 _ (tkB_mem 12 12 h))) (tk_mem 13 _ (fun w h => (mwsX0_growKey_1 _ (tkB_mem 0 13 h))) (tk_mem 7 _ (fun w h => (mwsX0_growKey_3 _ (tkB_mem 0 7 h))) (fun _ h => absurd h List.not_mem_nil))))⟩)) (by decide +kernel)
set_option maxRecDepth 20000 in
theorem gX0_growKey_X0_valueOf : GoodIn wsX0_growKey (wsV RX0 45 RX0 yX0_valueOf wsX0_valueOf) := goodIn_app (goodIn_sub (List.forall_mem_cons.mpr ⟨(mwsX0_growKey_0 _ (List.mem_of_getElem? (i := 5) rfl)), (List.forall_mem_cons.mpr ⟨(mwsX0_growKey_0 _ (List.mem_of_getElem? (i := 6) rfl)), (List.forall_mem_cons.mpr ⟨(mwsX0_growKey_0 _ (List.mem_of_getElem? (i := 7) rfl)), (List.forall_mem_cons.mpr ⟨(mwsX0_growKey_0 _ (List.mem_of_getElem? (i := 3) rfl)), (fun _ h => absurd h List.not_mem_nil)⟩)⟩)⟩)⟩) (by decide +kernel)) ggX0_growKey_X0_valueOf
theorem adX0_growKey_0 : fd_rows (cX0_growKey.data.toList.drop 0) 0 [(0, some (.aload_n 0), 1), (1, some (.iload_n 1), 1), (2, some (.invokevirtual 85), 3), (5, some (.ifCond .ne 22), 3), (8, some (.iload_n 1), 1), (9, some (.bipush 7), 2), (11, some (.irem), 1), (12, some (.ifCond .eq 15), 3), (15, some (.aload_n 0), 1), (16, some (.iload_n 1), 1), (17, some (.iconst 3), 1), (18, some (.iload_n 1), 1), (19, some (.imul), 1), (20, some (.bipush 50), 2), (22, some (.isub), 1), (23, some (.invokevirtual 88), 3)] = true := by decide +kernel
theorem adX0_growKey_1 : fd_rows (cX0_growKey.data.toList.drop 26) 26 [(26, some (.pop), 1), (27, some (.aload_n 0), 1), (28, some (.iload_n 1), 1), (29, some (.invokevirtual 45), 3), (32, some (.ireturn), 1)] = true := by decide +kernel
theorem dX0_growKey_0 : decode cX0_growKey 0 = .ok (.aload_n 0, 1) := fd_get adX0_growKey_0 (k := 0) rfl
theorem dX0_growKey_1 : decode cX0_growKey 1 = .ok (.iload_n 1, 1) := fd_get adX0_growKey_0 (k := 1) rfl
theorem dX0_growKey_2 : decode cX0_growKey 2 = .ok (.invokevirtual 85, 3) := fd_get adX0_growKey_0 (k := 2) rfl
theorem dX0_growKey_5 : decode cX0_growKey 5 = .ok (.ifCond .ne 22, 3) := fd_get adX0_growKey_0 (k := 3) rfl
theorem dX0_growKey_8 : decode cX0_growKey 8 = .ok (.iload_n 1, 1) := fd_get adX0_growKey_0 (k := 4) rfl
theorem dX0_growKey_9 : decode cX0_growKey 9 = .ok (.bipush 7, 2) := fd_get adX0_growKey_0 (k := 5) rfl
theorem dX0_growKey_11 : decode cX0_growKey 11 = .ok (.irem, 1) := fd_get adX0_growKey_0 (k := 6) rfl
theorem dX0_growKey_12 : decode cX0_growKey 12 = .ok (.ifCond .eq 15, 3) := fd_get adX0_growKey_0 (k := 7) rfl
theorem dX0_growKey_15 : decode cX0_growKey 15 = .ok (.aload_n 0, 1) := fd_get adX0_growKey_0 (k := 8) rfl
theorem dX0_growKey_16 : decode cX0_growKey 16 = .ok (.iload_n 1, 1) := fd_get adX0_growKey_0 (k := 9) rfl
theorem dX0_growKey_17 : decode cX0_growKey 17 = .ok (.iconst 3, 1) := fd_get adX0_growKey_0 (k := 10) rfl
theorem dX0_growKey_18 : decode cX0_growKey 18 = .ok (.iload_n 1, 1) := fd_get adX0_growKey_0 (k := 11) rfl
theorem dX0_growKey_19 : decode cX0_growKey 19 = .ok (.imul, 1) := fd_get adX0_growKey_0 (k := 12) rfl
theorem dX0_growKey_20 : decode cX0_growKey 20 = .ok (.bipush 50, 2) := fd_get adX0_growKey_0 (k := 13) rfl
theorem dX0_growKey_22 : decode cX0_growKey 22 = .ok (.isub, 1) := fd_get adX0_growKey_0 (k := 14) rfl
theorem dX0_growKey_23 : decode cX0_growKey 23 = .ok (.invokevirtual 88, 3) := fd_get adX0_growKey_0 (k := 15) rfl
theorem dX0_growKey_26 : decode cX0_growKey 26 = .ok (.pop, 1) := fd_get adX0_growKey_1 (k := 0) rfl
theorem dX0_growKey_27 : decode cX0_growKey 27 = .ok (.aload_n 0, 1) := fd_get adX0_growKey_1 (k := 1) rfl
theorem dX0_growKey_28 : decode cX0_growKey 28 = .ok (.iload_n 1, 1) := fd_get adX0_growKey_1 (k := 2) rfl
theorem dX0_growKey_29 : decode cX0_growKey 29 = .ok (.invokevirtual 45, 3) := fd_get adX0_growKey_1 (k := 3) rfl
theorem dX0_growKey_32 : decode cX0_growKey 32 = .ok (.ireturn, 1) := fd_get adX0_growKey_1 (k := 4) rfl
theorem mwsX0_halveKey_0 : ∀ w ∈ wsX0_halveKey_r1, w ∈ wsX0_halveKey := fun w h => (List.mem_cons_of_mem _ (List.mem_append_left _ (List.mem_append_left _ h)))
theorem mwsX0_halveKey_1 : ∀ w ∈ wsX0_halveKey_r2, w ∈ wsX0_halveKey := fun w h => (List.mem_cons_of_mem _ (List.mem_append_left _ (List.mem_append_right _ (List.mem_append_left _ h))))
theorem mwsX0_halveKey_2 : ∀ w ∈ wsX0_halveKey_r3, w ∈ wsX0_halveKey := fun w h => (List.mem_cons_of_mem _ (List.mem_append_left _ (List.mem_append_right _ (List.mem_append_right _ h))))
theorem mwsX0_halveKey_3 : ∀ w ∈ wsX00, w ∈ wsX0_halveKey := fun w h => (List.mem_cons_of_mem _ (List.mem_append_right _ h))
set_option maxRecDepth 20000 in
theorem ggX0_halveKey_X0_holds : GoodIn wsX0_halveKey wsX0_holds := goodIn_sub (tk_mem 4 _ (fun w h => (mwsX0_halveKey_0 _ (tkB_mem 4 4 h))) (List.forall_mem_cons.mpr ⟨(mwsX0_halveKey_0 _ (List.mem_of_getElem? (i := 3) rfl)), (tk_mem 16 _ (fun w h => (mwsX0_halveKey_0 _ (tkB_mem 8 16 h))) (tk_mem 13 _ (fun w h => (mwsX0_halveKey_1 _ (tkB_mem 0 13 h))) (tk_mem 7 _ (fun w h => (mwsX0_halveKey_3 _ (tkB_mem 0 7 h))) (fun _ h => absurd h List.not_mem_nil))))⟩)) (by decide +kernel)
set_option maxRecDepth 20000 in
theorem gX0_halveKey_X0_holds : GoodIn wsX0_halveKey (wsV RX0 85 RX0 yX0_holds wsX0_holds) := goodIn_app (goodIn_sub (tk_mem 4 _ (fun w h => (mwsX0_halveKey_0 _ (tkB_mem 0 4 h))) (fun _ h => absurd h List.not_mem_nil)) (by decide +kernel)) ggX0_halveKey_X0_holds
set_option maxRecDepth 20000 in
theorem ggX0_halveKey_X0_valueOf : GoodIn wsX0_halveKey wsX0_valueOf := goodIn_sub (tk_mem 4 _ (fun w h => (mwsX0_halveKey_0 _ (tkB_mem 8 4 h))) (List.forall_mem_cons.mpr ⟨(mwsX0_halveKey_0 _ (List.mem_of_getElem? (i := 3) rfl)), (tk_mem 12 _ (fun w h => (mwsX0_halveKey_0 _ (tkB_mem 12 12 h))) (tk_mem 13 _ (fun w h => (mwsX0_halveKey_1 _ (tkB_mem 0 13 h))) (tk_mem 7 _ (fun w h => (mwsX0_halveKey_3 _ (tkB_mem 0 7 h))) (fun _ h => absurd h List.not_mem_nil))))⟩)) (by decide +kernel)
set_option maxRecDepth 20000 in
theorem gX0_halveKey_X0_valueOf : GoodIn wsX0_halveKey (wsV RX0 45 RX0 yX0_valueOf wsX0_valueOf) := goodIn_app (goodIn_sub (List.forall_mem_cons.mpr ⟨(mwsX0_halveKey_0 _ (List.mem_of_getElem? (i := 5) rfl)), (List.forall_mem_cons.mpr ⟨(mwsX0_halveKey_0 _ (List.mem_of_getElem? (i := 6) rfl)), (List.forall_mem_cons.mpr ⟨(mwsX0_halveKey_0 _ (List.mem_of_getElem? (i := 7) rfl)), (List.forall_mem_cons.mpr ⟨(mwsX0_halveKey_0 _ (List.mem_of_getElem? (i := 3) rfl)), (fun _ h => absurd h List.not_mem_nil)⟩)⟩)⟩)⟩) (by decide +kernel)) ggX0_halveKey_X0_valueOf
set_option maxRecDepth 20000 in
theorem ggX0_halveKey_X0_enterUnlessZero : GoodIn wsX0_halveKey wsX0_enterUnlessZero := goodIn_sub (tk_mem 4 _ (fun w h => (mwsX0_halveKey_1 _ (tkB_mem 16 4 h))) (List.forall_mem_cons.mpr ⟨(mwsX0_halveKey_0 _ (List.mem_of_getElem? (i := 3) rfl)), (List.forall_mem_cons.mpr ⟨(mwsX0_halveKey_1 _ (List.mem_of_getElem? (i := 20) rfl)), (tk_mem 15 _ (fun w h => (mwsX0_halveKey_0 _ (tkB_mem 9 15 h))) (tk_mem 13 _ (fun w h => (mwsX0_halveKey_1 _ (tkB_mem 0 13 h))) (List.forall_mem_cons.mpr ⟨(mwsX0_halveKey_1 _ (List.mem_of_getElem? (i := 21) rfl)), (List.forall_mem_cons.mpr ⟨(mwsX0_halveKey_1 _ (List.mem_of_getElem? (i := 22) rfl)), (List.forall_mem_cons.mpr ⟨(mwsX0_halveKey_1 _ (List.mem_of_getElem? (i := 23) rfl)), (tk_mem 14 _ (fun w h => (mwsX0_halveKey_2 _ (tkB_mem 0 14 h))) (tk_mem 7 _ (fun w h => (mwsX0_halveKey_3 _ (tkB_mem 0 7 h))) (fun _ h => absurd h List.not_mem_nil)))⟩)⟩)⟩)))⟩)⟩)) (by decide +kernel)
set_option maxRecDepth 20000 in
theorem gX0_halveKey_X0_enterUnlessZero : GoodIn wsX0_halveKey (wsV RX0 94 RX0 yX0_enterUnlessZero wsX0_enterUnlessZero) := goodIn_app (goodIn_sub (List.forall_mem_cons.mpr ⟨(mwsX0_halveKey_1 _ (List.mem_of_getElem? (i := 13) rfl)), (List.forall_mem_cons.mpr ⟨(mwsX0_halveKey_1 _ (List.mem_of_getElem? (i := 14) rfl)), (List.forall_mem_cons.mpr ⟨(mwsX0_halveKey_1 _ (List.mem_of_getElem? (i := 15) rfl)), (List.forall_mem_cons.mpr ⟨(mwsX0_halveKey_0 _ (List.mem_of_getElem? (i := 3) rfl)), (fun _ h => absurd h List.not_mem_nil)⟩)⟩)⟩)⟩) (by decide +kernel)) ggX0_halveKey_X0_enterUnlessZero
theorem adX0_halveKey_0 : fd_rows (cX0_halveKey.data.toList.drop 0) 0 [(0, some (.aload_n 0), 1), (1, some (.iload_n 1), 1), (2, some (.invokevirtual 85), 3), (5, some (.ifCond .eq 18), 3), (8, some (.aload_n 0), 1), (9, some (.iload_n 1), 1), (10, some (.aload_n 0), 1), (11, some (.iload_n 1), 1), (12, some (.invokevirtual 45), 3), (15, some (.iconst 2), 1), (16, some (.idiv), 1), (17, some (.invokevirtual 94), 3), (20, some (.goto 6), 3), (23, some (.sipush (-10000)), 3), (26, some (.ireturn), 1)] = true := by decide +kernel
theorem dX0_halveKey_0 : decode cX0_halveKey 0 = .ok (.aload_n 0, 1) := fd_get adX0_halveKey_0 (k := 0) rfl
theorem dX0_halveKey_1 : decode cX0_halveKey 1 = .ok (.iload_n 1, 1) := fd_get adX0_halveKey_0 (k := 1) rfl
theorem dX0_halveKey_2 : decode cX0_halveKey 2 = .ok (.invokevirtual 85, 3) := fd_get adX0_halveKey_0 (k := 2) rfl
theorem dX0_halveKey_5 : decode cX0_halveKey 5 = .ok (.ifCond .eq 18, 3) := fd_get adX0_halveKey_0 (k := 3) rfl
theorem dX0_halveKey_8 : decode cX0_halveKey 8 = .ok (.aload_n 0, 1) := fd_get adX0_halveKey_0 (k := 4) rfl
theorem dX0_halveKey_9 : decode cX0_halveKey 9 = .ok (.iload_n 1, 1) := fd_get adX0_halveKey_0 (k := 5) rfl
theorem dX0_halveKey_10 : decode cX0_halveKey 10 = .ok (.aload_n 0, 1) := fd_get adX0_halveKey_0 (k := 6) rfl
theorem dX0_halveKey_11 : decode cX0_halveKey 11 = .ok (.iload_n 1, 1) := fd_get adX0_halveKey_0 (k := 7) rfl
theorem dX0_halveKey_12 : decode cX0_halveKey 12 = .ok (.invokevirtual 45, 3) := fd_get adX0_halveKey_0 (k := 8) rfl
theorem dX0_halveKey_15 : decode cX0_halveKey 15 = .ok (.iconst 2, 1) := fd_get adX0_halveKey_0 (k := 9) rfl
theorem dX0_halveKey_16 : decode cX0_halveKey 16 = .ok (.idiv, 1) := fd_get adX0_halveKey_0 (k := 10) rfl
theorem dX0_halveKey_17 : decode cX0_halveKey 17 = .ok (.invokevirtual 94, 3) := fd_get adX0_halveKey_0 (k := 11) rfl
theorem dX0_halveKey_20 : decode cX0_halveKey 20 = .ok (.goto 6, 3) := fd_get adX0_halveKey_0 (k := 12) rfl
theorem dX0_halveKey_23 : decode cX0_halveKey 23 = .ok (.sipush (-10000), 3) := fd_get adX0_halveKey_0 (k := 13) rfl
theorem dX0_halveKey_26 : decode cX0_halveKey 26 = .ok (.ireturn, 1) := fd_get adX0_halveKey_0 (k := 14) rfl
theorem mwsX0_doubleKey_0 : ∀ w ∈ wsX0_doubleKey_r1, w ∈ wsX0_doubleKey := fun w h => (List.mem_cons_of_mem _ (List.mem_append_left _ (List.mem_append_left _ h)))
theorem mwsX0_doubleKey_1 : ∀ w ∈ wsX0_doubleKey_r2, w ∈ wsX0_doubleKey := fun w h => (List.mem_cons_of_mem _ (List.mem_append_left _ (List.mem_append_right _ (List.mem_append_left _ h))))
theorem mwsX0_doubleKey_2 : ∀ w ∈ wsX0_doubleKey_r3, w ∈ wsX0_doubleKey := fun w h => (List.mem_cons_of_mem _ (List.mem_append_left _ (List.mem_append_right _ (List.mem_append_right _ h))))
theorem mwsX0_doubleKey_3 : ∀ w ∈ wsX00, w ∈ wsX0_doubleKey := fun w h => (List.mem_cons_of_mem _ (List.mem_append_right _ h))
set_option maxRecDepth 20000 in
theorem ggX0_doubleKey_X0_valueOf : GoodIn wsX0_doubleKey wsX0_valueOf := goodIn_sub (tk_mem 4 _ (fun w h => (mwsX0_doubleKey_0 _ (tkB_mem 4 4 h))) (List.forall_mem_cons.mpr ⟨(mwsX0_doubleKey_0 _ (List.mem_of_getElem? (i := 3) rfl)), (tk_mem 16 _ (fun w h => (mwsX0_doubleKey_0 _ (tkB_mem 8 16 h))) (tk_mem 9 _ (fun w h => (mwsX0_doubleKey_1 _ (tkB_mem 0 9 h))) (tk_mem 7 _ (fun w h => (mwsX0_doubleKey_3 _ (tkB_mem 0 7 h))) (fun _ h => absurd h List.not_mem_nil))))⟩)) (by decide +kernel)
set_option maxRecDepth 20000 in
theorem gX0_doubleKey_X0_valueOf : GoodIn wsX0_doubleKey (wsV RX0 45 RX0 yX0_valueOf wsX0_valueOf) := goodIn_app (goodIn_sub (tk_mem 4 _ (fun w h => (mwsX0_doubleKey_0 _ (tkB_mem 0 4 h))) (fun _ h => absurd h List.not_mem_nil)) (by decide +kernel)) ggX0_doubleKey_X0_valueOf
set_option maxRecDepth 20000 in
theorem ggX0_doubleKey_X0_enter : GoodIn wsX0_doubleKey wsX0_enter := goodIn_sub (List.forall_mem_cons.mpr ⟨(mwsX0_doubleKey_1 _ (List.mem_of_getElem? (i := 12) rfl)), (List.forall_mem_cons.mpr ⟨(mwsX0_doubleKey_0 _ (List.mem_of_getElem? (i := 19) rfl)), (List.forall_mem_cons.mpr ⟨(mwsX0_doubleKey_1 _ (List.mem_of_getElem? (i := 8) rfl)), (List.forall_mem_cons.mpr ⟨(mwsX0_doubleKey_0 _ (List.mem_of_getElem? (i := 5) rfl)), (List.forall_mem_cons.mpr ⟨(mwsX0_doubleKey_0 _ (List.mem_of_getElem? (i := 6) rfl)), (List.forall_mem_cons.mpr ⟨(mwsX0_doubleKey_0 _ (List.mem_of_getElem? (i := 7) rfl)), (List.forall_mem_cons.mpr ⟨(mwsX0_doubleKey_0 _ (List.mem_of_getElem? (i := 3) rfl)), (tk_mem 11 _ (fun w h => (mwsX0_doubleKey_0 _ (tkB_mem 8 11 h))) (tk_mem 4 _ (fun w h => (mwsX0_doubleKey_1 _ (tkB_mem 0 4 h))) (tk_mem 9 _ (fun w h => (mwsX0_doubleKey_1 _ (tkB_mem 13 9 h))) (tk_mem 7 _ (fun w h => (mwsX0_doubleKey_3 _ (tkB_mem 0 7 h))) (fun _ h => absurd h List.not_mem_nil)))))⟩)⟩)⟩)⟩)⟩)⟩)⟩) (by decide +kernel)
set_option maxRecDepth 20000 in
theorem gX0_doubleKey_X0_enter : GoodIn wsX0_doubleKey (wsV RX0 88 RX0 yX0_enter wsX0_enter) := goodIn_app (goodIn_sub (List.forall_mem_cons.mpr ⟨(mwsX0_doubleKey_1 _ (List.mem_of_getElem? (i := 9) rfl)), (List.forall_mem_cons.mpr ⟨(mwsX0_doubleKey_1 _ (List.mem_of_getElem? (i := 10) rfl)), (List.forall_mem_cons.mpr ⟨(mwsX0_doubleKey_1 _ (List.mem_of_getElem? (i := 11) rfl)), (List.forall_mem_cons.mpr ⟨(mwsX0_doubleKey_0 _ (List.mem_of_getElem? (i := 3) rfl)), (fun _ h => absurd h List.not_mem_nil)⟩)⟩)⟩)⟩) (by decide +kernel)) ggX0_doubleKey_X0_enter
set_option maxRecDepth 20000 in
theorem ggX0_doubleKey_X0_removeKey : GoodIn wsX0_doubleKey wsX0_removeKey := goodIn_sub (List.forall_mem_cons.mpr ⟨(mwsX0_doubleKey_2 _ (List.mem_of_getElem? (i := 1) rfl)), (List.forall_mem_cons.mpr ⟨(mwsX0_doubleKey_0 _ (List.mem_of_getElem? (i := 5) rfl)), (List.forall_mem_cons.mpr ⟨(mwsX0_doubleKey_0 _ (List.mem_of_getElem? (i := 6) rfl)), (List.forall_mem_cons.mpr ⟨(mwsX0_doubleKey_0 _ (List.mem_of_getElem? (i := 7) rfl)), (List.forall_mem_cons.mpr ⟨(mwsX0_doubleKey_0 _ (List.mem_of_getElem? (i := 3) rfl)), (tk_mem 16 _ (fun w h => (mwsX0_doubleKey_0 _ (tkB_mem 8 16 h))) (tk_mem 9 _ (fun w h => (mwsX0_doubleKey_1 _ (tkB_mem 0 9 h))) (tk_mem 4 _ (fun w h => (mwsX0_doubleKey_2 _ (tkB_mem 2 4 h))) (tk_mem 5 _ (fun w h => (mwsX0_doubleKey_1 _ (tkB_mem 17 5 h))) (tk_mem 7 _ (fun w h => (mwsX0_doubleKey_3 _ (tkB_mem 0 7 h))) (fun _ h => absurd h List.not_mem_nil))))))⟩)⟩)⟩)⟩)⟩) (by decide +kernel)
set_option maxRecDepth 20000 in
theorem gX0_doubleKey_X0_removeKey : GoodIn wsX0_doubleKey (wsV RX0 97 RX0 yX0_removeKey wsX0_removeKey) := goodIn_app (goodIn_sub (List.forall_mem_cons.mpr ⟨(mwsX0_doubleKey_1 _ (List.mem_of_getElem? (i := 22) rfl)), (List.forall_mem_cons.mpr ⟨(mwsX0_doubleKey_1 _ (List.mem_of_getElem? (i := 23) rfl)), (List.forall_mem_cons.mpr ⟨(mwsX0_doubleKey_2 _ (List.mem_of_getElem? (i := 0) rfl)), (List.forall_mem_cons.mpr ⟨(mwsX0_doubleKey_0 _ (List.mem_of_getElem? (i := 3) rfl)), (fun _ h => absurd h List.not_mem_nil)⟩)⟩)⟩)⟩) (by decide +kernel)) ggX0_doubleKey_X0_removeKey
theorem adX0_doubleKey_0 : fd_rows (cX0_doubleKey.data.toList.drop 0) 0 [(0, some (.aload_n 0), 1), (1, some (.iload_n 1), 1), (2, some (.invokevirtual 45), 3), (5, some (.istore_n 2), 1), (6, some (.iload_n 2), 1), (7, some (.sipush (-10000)), 3), (10, some (.if_icmp .ne 13), 3), (13, some (.aload_n 0), 1), (14, some (.iload_n 1), 1), (15, some (.iload_n 1), 1), (16, some (.invokevirtual 88), 3), (19, some (.pop), 1), (20, some (.goto 35), 3), (23, some (.iload_n 2), 1), (24, some (.sipush 500), 3), (27, some (.if_icmp .gt 10), 3)] = true := by decide +kernel
theorem adX0_doubleKey_1 : fd_rows (cX0_doubleKey.data.toList.drop 30) 30 [(30, some (.iload_n 2), 1), (31, some (.sipush (-500)), 3), (34, some (.if_icmp .ge 12), 3), (37, some (.aload_n 0), 1), (38, some (.iload_n 1), 1), (39, some (.invokevirtual 97), 3), (42, some (.pop), 1), (43, some (.goto 12), 3), (46, some (.aload_n 0), 1), (47, some (.iload_n 1), 1), (48, some (.iconst 2), 1), (49, some (.iload_n 2), 1), (50, some (.imul), 1), (51, some (.invokevirtual 88), 3), (54, some (.pop), 1), (55, some (.aload_n 0), 1)] = true := by decide +kernel
theorem adX0_doubleKey_2 : fd_rows (cX0_doubleKey.data.toList.drop 56) 56 [(56, some (.iload_n 1), 1), (57, some (.invokevirtual 45), 3), (60, some (.ireturn), 1)] = true := by decide +kernel
theorem dX0_doubleKey_0 : decode cX0_doubleKey 0 = .ok (.aload_n 0, 1) := fd_get adX0_doubleKey_0 (k := 0) rfl
theorem dX0_doubleKey_1 : decode cX0_doubleKey 1 = .ok (.iload_n 1, 1) := fd_get adX0_doubleKey_0 (k := 1) rfl
theorem dX0_doubleKey_2 : decode cX0_doubleKey 2 = .ok (.invokevirtual 45, 3) := fd_get adX0_doubleKey_0 (k := 2) rfl
theorem dX0_doubleKey_5 : decode cX0_doubleKey 5 = .ok (.istore_n 2, 1) := fd_get adX0_doubleKey_0 (k := 3) rfl
theorem dX0_doubleKey_6 : decode cX0_doubleKey 6 = .ok (.iload_n 2, 1) := fd_get adX0_doubleKey_0 (k := 4) rfl
theorem dX0_doubleKey_7 : decode cX0_doubleKey 7 = .ok (.sipush (-10000), 3) := fd_get adX0_doubleKey_0 (k := 5) rfl
theorem dX0_doubleKey_10 : decode cX0_doubleKey 10 = .ok (.if_icmp .ne 13, 3) := fd_get adX0_doubleKey_0 (k := 6) rfl
theorem dX0_doubleKey_13 : decode cX0_doubleKey 13 = .ok (.aload_n 0, 1) := fd_get adX0_doubleKey_0 (k := 7) rfl
theorem dX0_doubleKey_14 : decode cX0_doubleKey 14 = .ok (.iload_n 1, 1) := fd_get adX0_doubleKey_0 (k := 8) rfl
theorem dX0_doubleKey_15 : decode cX0_doubleKey 15 = .ok (.iload_n 1, 1) := fd_get adX0_doubleKey_0 (k := 9) rfl
theorem dX0_doubleKey_16 : decode cX0_doubleKey 16 = .ok (.invokevirtual 88, 3) := fd_get adX0_doubleKey_0 (k := 10) rfl
theorem dX0_doubleKey_19 : decode cX0_doubleKey 19 = .ok (.pop, 1) := fd_get adX0_doubleKey_0 (k := 11) rfl
theorem dX0_doubleKey_20 : decode cX0_doubleKey 20 = .ok (.goto 35, 3) := fd_get adX0_doubleKey_0 (k := 12) rfl
theorem dX0_doubleKey_23 : decode cX0_doubleKey 23 = .ok (.iload_n 2, 1) := fd_get adX0_doubleKey_0 (k := 13) rfl
theorem dX0_doubleKey_24 : decode cX0_doubleKey 24 = .ok (.sipush 500, 3) := fd_get adX0_doubleKey_0 (k := 14) rfl
theorem dX0_doubleKey_27 : decode cX0_doubleKey 27 = .ok (.if_icmp .gt 10, 3) := fd_get adX0_doubleKey_0 (k := 15) rfl
theorem dX0_doubleKey_30 : decode cX0_doubleKey 30 = .ok (.iload_n 2, 1) := fd_get adX0_doubleKey_1 (k := 0) rfl
theorem dX0_doubleKey_31 : decode cX0_doubleKey 31 = .ok (.sipush (-500), 3) := fd_get adX0_doubleKey_1 (k := 1) rfl
theorem dX0_doubleKey_34 : decode cX0_doubleKey 34 = .ok (.if_icmp .ge 12, 3) := fd_get adX0_doubleKey_1 (k := 2) rfl
theorem dX0_doubleKey_37 : decode cX0_doubleKey 37 = .ok (.aload_n 0, 1) := fd_get adX0_doubleKey_1 (k := 3) rfl
theorem dX0_doubleKey_38 : decode cX0_doubleKey 38 = .ok (.iload_n 1, 1) := fd_get adX0_doubleKey_1 (k := 4) rfl
theorem dX0_doubleKey_39 : decode cX0_doubleKey 39 = .ok (.invokevirtual 97, 3) := fd_get adX0_doubleKey_1 (k := 5) rfl
theorem dX0_doubleKey_42 : decode cX0_doubleKey 42 = .ok (.pop, 1) := fd_get adX0_doubleKey_1 (k := 6) rfl
theorem dX0_doubleKey_43 : decode cX0_doubleKey 43 = .ok (.goto 12, 3) := fd_get adX0_doubleKey_1 (k := 7) rfl
theorem dX0_doubleKey_46 : decode cX0_doubleKey 46 = .ok (.aload_n 0, 1) := fd_get adX0_doubleKey_1 (k := 8) rfl
theorem dX0_doubleKey_47 : decode cX0_doubleKey 47 = .ok (.iload_n 1, 1) := fd_get adX0_doubleKey_1 (k := 9) rfl
theorem dX0_doubleKey_48 : decode cX0_doubleKey 48 = .ok (.iconst 2, 1) := fd_get adX0_doubleKey_1 (k := 10) rfl
theorem dX0_doubleKey_49 : decode cX0_doubleKey 49 = .ok (.iload_n 2, 1) := fd_get adX0_doubleKey_1 (k := 11) rfl
theorem dX0_doubleKey_50 : decode cX0_doubleKey 50 = .ok (.imul, 1) := fd_get adX0_doubleKey_1 (k := 12) rfl
theorem dX0_doubleKey_51 : decode cX0_doubleKey 51 = .ok (.invokevirtual 88, 3) := fd_get adX0_doubleKey_1 (k := 13) rfl
theorem dX0_doubleKey_54 : decode cX0_doubleKey 54 = .ok (.pop, 1) := fd_get adX0_doubleKey_1 (k := 14) rfl
theorem dX0_doubleKey_55 : decode cX0_doubleKey 55 = .ok (.aload_n 0, 1) := fd_get adX0_doubleKey_1 (k := 15) rfl
theorem dX0_doubleKey_56 : decode cX0_doubleKey 56 = .ok (.iload_n 1, 1) := fd_get adX0_doubleKey_2 (k := 0) rfl
theorem dX0_doubleKey_57 : decode cX0_doubleKey 57 = .ok (.invokevirtual 45, 3) := fd_get adX0_doubleKey_2 (k := 1) rfl
theorem dX0_doubleKey_60 : decode cX0_doubleKey 60 = .ok (.ireturn, 1) := fd_get adX0_doubleKey_2 (k := 2) rfl
theorem mwsX0_enterUnlessZero_0 : ∀ w ∈ wsX0_enterUnlessZero_r1, w ∈ wsX0_enterUnlessZero := fun w h => (List.mem_cons_of_mem _ (List.mem_append_left _ (List.mem_append_left _ h)))
theorem mwsX0_enterUnlessZero_1 : ∀ w ∈ wsX0_enterUnlessZero_r2, w ∈ wsX0_enterUnlessZero := fun w h => (List.mem_cons_of_mem _ (List.mem_append_left _ (List.mem_append_right _ (List.mem_append_left _ h))))
theorem mwsX0_enterUnlessZero_2 : ∀ w ∈ wsX0_enterUnlessZero_r3, w ∈ wsX0_enterUnlessZero := fun w h => (List.mem_cons_of_mem _ (List.mem_append_left _ (List.mem_append_right _ (List.mem_append_right _ h))))
theorem mwsX0_enterUnlessZero_3 : ∀ w ∈ wsX00, w ∈ wsX0_enterUnlessZero := fun w h => (List.mem_cons_of_mem _ (List.mem_append_right _ h))
set_option maxRecDepth 20000 in
theorem ggX0_enterUnlessZero_X0_removeKey : GoodIn wsX0_enterUnlessZero wsX0_removeKey := goodIn_sub (tk_mem 4 _ (fun w h => (mwsX0_enterUnlessZero_0 _ (tkB_mem 4 4 h))) (List.forall_mem_cons.mpr ⟨(mwsX0_enterUnlessZero_0 _ (List.mem_of_getElem? (i := 3) rfl)), (tk_mem 16 _ (fun w h => (mwsX0_enterUnlessZero_0 _ (tkB_mem 8 16 h))) (tk_mem 18 _ (fun w h => (mwsX0_enterUnlessZero_1 _ (tkB_mem 0 18 h))) (tk_mem 7 _ (fun w h => (mwsX0_enterUnlessZero_3 _ (tkB_mem 0 7 h))) (fun _ h => absurd h List.not_mem_nil))))⟩)) (by decide +kernel)
set_option maxRecDepth 20000 in
theorem gX0_enterUnlessZero_X0_removeKey : GoodIn wsX0_enterUnlessZero (wsV RX0 97 RX0 yX0_removeKey wsX0_removeKey) := goodIn_app (goodIn_sub (tk_mem 4 _ (fun w h => (mwsX0_enterUnlessZero_0 _ (tkB_mem 0 4 h))) (fun _ h => absurd h List.not_mem_nil)) (by decide +kernel)) ggX0_enterUnlessZero_X0_removeKey
set_option maxRecDepth 20000 in
theorem ggX0_enterUnlessZero_X0_enter : GoodIn wsX0_enterUnlessZero wsX0_enter := goodIn_sub (List.forall_mem_cons.mpr ⟨(mwsX0_enterUnlessZero_1 _ (List.mem_of_getElem? (i := 21) rfl)), (List.forall_mem_cons.mpr ⟨(mwsX0_enterUnlessZero_0 _ (List.mem_of_getElem? (i := 19) rfl)), (List.forall_mem_cons.mpr ⟨(mwsX0_enterUnlessZero_1 _ (List.mem_of_getElem? (i := 8) rfl)), (List.forall_mem_cons.mpr ⟨(mwsX0_enterUnlessZero_0 _ (List.mem_of_getElem? (i := 5) rfl)), (List.forall_mem_cons.mpr ⟨(mwsX0_enterUnlessZero_0 _ (List.mem_of_getElem? (i := 6) rfl)), (List.forall_mem_cons.mpr ⟨(mwsX0_enterUnlessZero_0 _ (List.mem_of_getElem? (i := 7) rfl)), (List.forall_mem_cons.mpr ⟨(mwsX0_enterUnlessZero_0 _ (List.mem_of_getElem? (i := 3) rfl)), (tk_mem 11 _ (fun w h => (mwsX0_enterUnlessZero_0 _ (tkB_mem 8 11 h))) (tk_mem 4 _ (fun w h => (mwsX0_enterUnlessZero_1 _ (tkB_mem 0 4 h))) (List.forall_mem_cons.mpr ⟨(mwsX0_enterUnlessZero_1 _ (List.mem_of_getElem? (i := 22) rfl)), (List.forall_mem_cons.mpr ⟨(mwsX0_enterUnlessZero_1 _ (List.mem_of_getElem? (i := 23) rfl)), (List.forall_mem_cons.mpr ⟨(mwsX0_enterUnlessZero_2 _ (List.mem_of_getElem? (i := 0) rfl)), (List.forall_mem_cons.mpr ⟨(mwsX0_enterUnlessZero_2 _ (List.mem_of_getElem? (i := 1) rfl)), (tk_mem 5 _ (fun w h => (mwsX0_enterUnlessZero_1 _ (tkB_mem 13 5 h))) (tk_mem 7 _ (fun w h => (mwsX0_enterUnlessZero_3 _ (tkB_mem 0 7 h))) (fun _ h => absurd h List.not_mem_nil)))⟩)⟩)⟩)⟩)))⟩)⟩)⟩)⟩)⟩)⟩)⟩) (by decide +kernel)
set_option maxRecDepth 20000 in
theorem gX0_enterUnlessZero_X0_enter : GoodIn wsX0_enterUnlessZero (wsV RX0 88 RX0 yX0_enter wsX0_enter) := goodIn_app (goodIn_sub (List.forall_mem_cons.mpr ⟨(mwsX0_enterUnlessZero_1 _ (List.mem_of_getElem? (i := 18) rfl)), (List.forall_mem_cons.mpr ⟨(mwsX0_enterUnlessZero_1 _ (List.mem_of_getElem? (i := 19) rfl)), (List.forall_mem_cons.mpr ⟨(mwsX0_enterUnlessZero_1 _ (List.mem_of_getElem? (i := 20) rfl)), (List.forall_mem_cons.mpr ⟨(mwsX0_enterUnlessZero_0 _ (List.mem_of_getElem? (i := 3) rfl)), (fun _ h => absurd h List.not_mem_nil)⟩)⟩)⟩)⟩) (by decide +kernel)) ggX0_enterUnlessZero_X0_enter
theorem adX0_enterUnlessZero_0 : fd_rows (cX0_enterUnlessZero.data.toList.drop 0) 0 [(0, some (.iload_n 2), 1), (1, some (.ifCond .ne 13), 3), (4, some (.aload_n 0), 1), (5, some (.iload_n 1), 1), (6, some (.invokevirtual 97), 3), (9, some (.pop), 1), (10, some (.sipush (-10000)), 3), (13, some (.ireturn), 1), (14, some (.aload_n 0), 1), (15, some (.iload_n 1), 1), (16, some (.iload_n 2), 1), (17, some (.invokevirtual 88), 3), (20, some (.pop), 1), (21, some (.iload_n 2), 1), (22, some (.ireturn), 1)] = true := by decide +kernel
theorem dX0_enterUnlessZero_0 : decode cX0_enterUnlessZero 0 = .ok (.iload_n 2, 1) := fd_get adX0_enterUnlessZero_0 (k := 0) rfl
theorem dX0_enterUnlessZero_1 : decode cX0_enterUnlessZero 1 = .ok (.ifCond .ne 13, 3) := fd_get adX0_enterUnlessZero_0 (k := 1) rfl
theorem dX0_enterUnlessZero_4 : decode cX0_enterUnlessZero 4 = .ok (.aload_n 0, 1) := fd_get adX0_enterUnlessZero_0 (k := 2) rfl
theorem dX0_enterUnlessZero_5 : decode cX0_enterUnlessZero 5 = .ok (.iload_n 1, 1) := fd_get adX0_enterUnlessZero_0 (k := 3) rfl
theorem dX0_enterUnlessZero_6 : decode cX0_enterUnlessZero 6 = .ok (.invokevirtual 97, 3) := fd_get adX0_enterUnlessZero_0 (k := 4) rfl
theorem dX0_enterUnlessZero_9 : decode cX0_enterUnlessZero 9 = .ok (.pop, 1) := fd_get adX0_enterUnlessZero_0 (k := 5) rfl
theorem dX0_enterUnlessZero_10 : decode cX0_enterUnlessZero 10 = .ok (.sipush (-10000), 3) := fd_get adX0_enterUnlessZero_0 (k := 6) rfl
theorem dX0_enterUnlessZero_13 : decode cX0_enterUnlessZero 13 = .ok (.ireturn, 1) := fd_get adX0_enterUnlessZero_0 (k := 7) rfl
theorem dX0_enterUnlessZero_14 : decode cX0_enterUnlessZero 14 = .ok (.aload_n 0, 1) := fd_get adX0_enterUnlessZero_0 (k := 8) rfl
theorem dX0_enterUnlessZero_15 : decode cX0_enterUnlessZero 15 = .ok (.iload_n 1, 1) := fd_get adX0_enterUnlessZero_0 (k := 9) rfl
theorem dX0_enterUnlessZero_16 : decode cX0_enterUnlessZero 16 = .ok (.iload_n 2, 1) := fd_get adX0_enterUnlessZero_0 (k := 10) rfl
theorem dX0_enterUnlessZero_17 : decode cX0_enterUnlessZero 17 = .ok (.invokevirtual 88, 3) := fd_get adX0_enterUnlessZero_0 (k := 11) rfl
theorem dX0_enterUnlessZero_20 : decode cX0_enterUnlessZero 20 = .ok (.pop, 1) := fd_get adX0_enterUnlessZero_0 (k := 12) rfl
theorem dX0_enterUnlessZero_21 : decode cX0_enterUnlessZero 21 = .ok (.iload_n 2, 1) := fd_get adX0_enterUnlessZero_0 (k := 13) rfl
theorem dX0_enterUnlessZero_22 : decode cX0_enterUnlessZero 22 = .ok (.ireturn, 1) := fd_get adX0_enterUnlessZero_0 (k := 14) rfl
set_option maxRecDepth 20000 in
theorem ggX0_raiseAll_X0_bounded : GoodIn wsX0_raiseAll wsX0_bounded := goodIn_sub (tk_mem 8 _ (fun w h => (List.mem_cons_of_mem _ (List.mem_append_left _ (tkB_mem 5 8 h)))) (fun _ h => absurd h List.not_mem_nil)) (by decide +kernel)
set_option maxRecDepth 20000 in
theorem gX0_raiseAll_X0_bounded : GoodIn wsX0_raiseAll (va_wsS RX0 91 yX0_bounded wsX0_bounded) := goodIn_app (goodIn_sub (List.forall_mem_cons.mpr ⟨(List.mem_cons_of_mem _ (List.mem_append_left _ (List.mem_of_getElem? (i := 2) rfl))), (List.forall_mem_cons.mpr ⟨(List.mem_cons_of_mem _ (List.mem_append_left _ (List.mem_of_getElem? (i := 3) rfl))), (List.forall_mem_cons.mpr ⟨(List.mem_cons_of_mem _ (List.mem_append_left _ (List.mem_of_getElem? (i := 4) rfl))), (fun _ h => absurd h List.not_mem_nil)⟩)⟩)⟩) (by decide +kernel)) ggX0_raiseAll_X0_bounded
theorem adX0_raiseAll_0 : fd_rows (cX0_raiseAll.data.toList.drop 0) 0 [(0, some (.iconst 0), 1), (1, some (.istore_n 2), 1), (2, some (.iconst 0), 1), (3, some (.istore_n 3), 1), (4, some (.iload_n 3), 1), (5, some (.aload_n 0), 1), (6, some (.getfield 25), 3), (9, some (.if_icmp .ge 44), 3), (12, some (.aload_n 0), 1), (13, some (.getfield 19), 3), (16, some (.iload_n 3), 1), (17, some (.iaload), 1), (18, some (.iload_n 1), 1), (19, some (.iadd), 1), (20, some (.invokestatic 91), 3), (23, some (.istore 4), 2)] = true := by decide +kernel
theorem adX0_raiseAll_1 : fd_rows (cX0_raiseAll.data.toList.drop 25) 25 [(25, some (.iload 4), 2), (27, some (.aload_n 0), 1), (28, some (.getfield 19), 3), (31, some (.iload_n 3), 1), (32, some (.iaload), 1), (33, some (.if_icmp .eq 14), 3), (36, some (.aload_n 0), 1), (37, some (.getfield 19), 3), (40, some (.iload_n 3), 1), (41, some (.iload 4), 2), (43, some (.iastore), 1), (44, some (.iinc 2 1), 3), (47, some (.iinc 3 1), 3), (50, some (.goto (-46)), 3), (53, some (.iload_n 2), 1), (54, some (.ireturn), 1)] = true := by decide +kernel
theorem dX0_raiseAll_0 : decode cX0_raiseAll 0 = .ok (.iconst 0, 1) := fd_get adX0_raiseAll_0 (k := 0) rfl
theorem dX0_raiseAll_1 : decode cX0_raiseAll 1 = .ok (.istore_n 2, 1) := fd_get adX0_raiseAll_0 (k := 1) rfl
theorem dX0_raiseAll_2 : decode cX0_raiseAll 2 = .ok (.iconst 0, 1) := fd_get adX0_raiseAll_0 (k := 2) rfl
theorem dX0_raiseAll_3 : decode cX0_raiseAll 3 = .ok (.istore_n 3, 1) := fd_get adX0_raiseAll_0 (k := 3) rfl
theorem dX0_raiseAll_4 : decode cX0_raiseAll 4 = .ok (.iload_n 3, 1) := fd_get adX0_raiseAll_0 (k := 4) rfl
theorem dX0_raiseAll_5 : decode cX0_raiseAll 5 = .ok (.aload_n 0, 1) := fd_get adX0_raiseAll_0 (k := 5) rfl
theorem dX0_raiseAll_6 : decode cX0_raiseAll 6 = .ok (.getfield 25, 3) := fd_get adX0_raiseAll_0 (k := 6) rfl
theorem dX0_raiseAll_9 : decode cX0_raiseAll 9 = .ok (.if_icmp .ge 44, 3) := fd_get adX0_raiseAll_0 (k := 7) rfl
theorem dX0_raiseAll_12 : decode cX0_raiseAll 12 = .ok (.aload_n 0, 1) := fd_get adX0_raiseAll_0 (k := 8) rfl
theorem dX0_raiseAll_13 : decode cX0_raiseAll 13 = .ok (.getfield 19, 3) := fd_get adX0_raiseAll_0 (k := 9) rfl
theorem dX0_raiseAll_16 : decode cX0_raiseAll 16 = .ok (.iload_n 3, 1) := fd_get adX0_raiseAll_0 (k := 10) rfl
theorem dX0_raiseAll_17 : decode cX0_raiseAll 17 = .ok (.iaload, 1) := fd_get adX0_raiseAll_0 (k := 11) rfl
theorem dX0_raiseAll_18 : decode cX0_raiseAll 18 = .ok (.iload_n 1, 1) := fd_get adX0_raiseAll_0 (k := 12) rfl
theorem dX0_raiseAll_19 : decode cX0_raiseAll 19 = .ok (.iadd, 1) := fd_get adX0_raiseAll_0 (k := 13) rfl
theorem dX0_raiseAll_20 : decode cX0_raiseAll 20 = .ok (.invokestatic 91, 3) := fd_get adX0_raiseAll_0 (k := 14) rfl
theorem dX0_raiseAll_23 : decode cX0_raiseAll 23 = .ok (.istore 4, 2) := fd_get adX0_raiseAll_0 (k := 15) rfl
theorem dX0_raiseAll_25 : decode cX0_raiseAll 25 = .ok (.iload 4, 2) := fd_get adX0_raiseAll_1 (k := 0) rfl
theorem dX0_raiseAll_27 : decode cX0_raiseAll 27 = .ok (.aload_n 0, 1) := fd_get adX0_raiseAll_1 (k := 1) rfl
theorem dX0_raiseAll_28 : decode cX0_raiseAll 28 = .ok (.getfield 19, 3) := fd_get adX0_raiseAll_1 (k := 2) rfl
theorem dX0_raiseAll_31 : decode cX0_raiseAll 31 = .ok (.iload_n 3, 1) := fd_get adX0_raiseAll_1 (k := 3) rfl
theorem dX0_raiseAll_32 : decode cX0_raiseAll 32 = .ok (.iaload, 1) := fd_get adX0_raiseAll_1 (k := 4) rfl
theorem dX0_raiseAll_33 : decode cX0_raiseAll 33 = .ok (.if_icmp .eq 14, 3) := fd_get adX0_raiseAll_1 (k := 5) rfl
theorem dX0_raiseAll_36 : decode cX0_raiseAll 36 = .ok (.aload_n 0, 1) := fd_get adX0_raiseAll_1 (k := 6) rfl
theorem dX0_raiseAll_37 : decode cX0_raiseAll 37 = .ok (.getfield 19, 3) := fd_get adX0_raiseAll_1 (k := 7) rfl
theorem dX0_raiseAll_40 : decode cX0_raiseAll 40 = .ok (.iload_n 3, 1) := fd_get adX0_raiseAll_1 (k := 8) rfl
theorem dX0_raiseAll_41 : decode cX0_raiseAll 41 = .ok (.iload 4, 2) := fd_get adX0_raiseAll_1 (k := 9) rfl
theorem dX0_raiseAll_43 : decode cX0_raiseAll 43 = .ok (.iastore, 1) := fd_get adX0_raiseAll_1 (k := 10) rfl
theorem dX0_raiseAll_44 : decode cX0_raiseAll 44 = .ok (.iinc 2 1, 3) := fd_get adX0_raiseAll_1 (k := 11) rfl
theorem dX0_raiseAll_47 : decode cX0_raiseAll 47 = .ok (.iinc 3 1, 3) := fd_get adX0_raiseAll_1 (k := 12) rfl
theorem dX0_raiseAll_50 : decode cX0_raiseAll 50 = .ok (.goto (-46), 3) := fd_get adX0_raiseAll_1 (k := 13) rfl
theorem dX0_raiseAll_53 : decode cX0_raiseAll 53 = .ok (.iload_n 2, 1) := fd_get adX0_raiseAll_1 (k := 14) rfl
theorem dX0_raiseAll_54 : decode cX0_raiseAll 54 = .ok (.ireturn, 1) := fd_get adX0_raiseAll_1 (k := 15) rfl
theorem mwsX0_removeMultiples_0 : ∀ w ∈ wsX0_removeMultiples_r1, w ∈ wsX0_removeMultiples := fun w h => (List.mem_cons_of_mem _ (List.mem_append_left _ (List.mem_append_left _ h)))
theorem mwsX0_removeMultiples_1 : ∀ w ∈ wsX0_removeMultiples_r2, w ∈ wsX0_removeMultiples := fun w h => (List.mem_cons_of_mem _ (List.mem_append_left _ (List.mem_append_right _ h)))
theorem mwsX0_removeMultiples_2 : ∀ w ∈ wsX00, w ∈ wsX0_removeMultiples := fun w h => (List.mem_cons_of_mem _ (List.mem_append_right _ h))
set_option maxRecDepth 20000 in
theorem ggX0_removeMultiples_X0_valueAt : GoodIn wsX0_removeMultiples wsX0_valueAt := goodIn_sub (tk_mem 5 _ (fun w h => (mwsX0_removeMultiples_0 _ (tkB_mem 5 5 h))) (List.forall_mem_cons.mpr ⟨(mwsX0_removeMultiples_0 _ (List.mem_of_getElem? (i := 4) rfl)), (List.forall_mem_cons.mpr ⟨(mwsX0_removeMultiples_0 _ (List.mem_of_getElem? (i := 10) rfl)), (List.forall_mem_cons.mpr ⟨(mwsX0_removeMultiples_0 _ (List.mem_of_getElem? (i := 0) rfl)), (tk_mem 7 _ (fun w h => (mwsX0_removeMultiples_2 _ (tkB_mem 0 7 h))) (fun _ h => absurd h List.not_mem_nil))⟩)⟩)⟩)) (by decide +kernel)
set_option maxRecDepth 20000 in
theorem gX0_removeMultiples_X0_valueAt : GoodIn wsX0_removeMultiples (wsV RX0 54 RX0 yX0_valueAt wsX0_valueAt) := goodIn_app (goodIn_sub (tk_mem 4 _ (fun w h => (mwsX0_removeMultiples_0 _ (tkB_mem 1 4 h))) (fun _ h => absurd h List.not_mem_nil)) (by decide +kernel)) ggX0_removeMultiples_X0_valueAt
set_option maxRecDepth 20000 in
theorem ggX0_removeMultiples_X0_removeAt : GoodIn wsX0_removeMultiples wsX0_removeAt := goodIn_sub (tk_mem 4 _ (fun w h => (mwsX0_removeMultiples_0 _ (tkB_mem 14 4 h))) (List.forall_mem_cons.mpr ⟨(mwsX0_removeMultiples_0 _ (List.mem_of_getElem? (i := 4) rfl)), (List.forall_mem_cons.mpr ⟨(mwsX0_removeMultiples_0 _ (List.mem_of_getElem? (i := 18) rfl)), (List.forall_mem_cons.mpr ⟨(mwsX0_removeMultiples_0 _ (List.mem_of_getElem? (i := 19) rfl)), (tk_mem 4 _ (fun w h => (mwsX0_removeMultiples_0 _ (tkB_mem 7 4 h))) (List.forall_mem_cons.mpr ⟨(mwsX0_removeMultiples_0 _ (List.mem_of_getElem? (i := 0) rfl)), (tk_mem 4 _ (fun w h => (mwsX0_removeMultiples_0 _ (tkB_mem 20 4 h))) (tk_mem 4 _ (fun w h => (mwsX0_removeMultiples_1 _ (tkB_mem 0 4 h))) (List.forall_mem_cons.mpr ⟨(mwsX0_removeMultiples_0 _ (List.mem_of_getElem? (i := 6) rfl)), (List.forall_mem_cons.mpr ⟨(mwsX0_removeMultiples_1 _ (List.mem_of_getElem? (i := 4) rfl)), (tk_mem 7 _ (fun w h => (mwsX0_removeMultiples_2 _ (tkB_mem 0 7 h))) (fun _ h => absurd h List.not_mem_nil))⟩)⟩)))⟩))⟩)⟩)⟩)) (by decide +kernel)
set_option maxRecDepth 20000 in
theorem gX0_removeMultiples_X0_removeAt : GoodIn wsX0_removeMultiples (wsV RX0 100 RX0 yX0_removeAt wsX0_removeAt) := goodIn_app (goodIn_sub (List.forall_mem_cons.mpr ⟨(mwsX0_removeMultiples_0 _ (List.mem_of_getElem? (i := 11) rfl)), (List.forall_mem_cons.mpr ⟨(mwsX0_removeMultiples_0 _ (List.mem_of_getElem? (i := 12) rfl)), (List.forall_mem_cons.mpr ⟨(mwsX0_removeMultiples_0 _ (List.mem_of_getElem? (i := 13) rfl)), (List.forall_mem_cons.mpr ⟨(mwsX0_removeMultiples_0 _ (List.mem_of_getElem? (i := 4) rfl)), (fun _ h => absurd h List.not_mem_nil)⟩)⟩)⟩)⟩) (by decide +kernel)) ggX0_removeMultiples_X0_removeAt
theorem adX0_removeMultiples_0 : fd_rows (cX0_removeMultiples.data.toList.drop 0) 0 [(0, some (.aload_n 0), 1), (1, some (.getfield 25), 3), (4, some (.istore_n 2), 1), (5, some (.iload_n 2), 1), (6, some (.iconst 1), 1), (7, some (.isub), 1), (8, some (.istore_n 3), 1), (9, some (.iload_n 3), 1), (10, some (.ifCond .lt 29), 3), (13, some (.iload_n 1), 1), (14, some (.ifCond .eq 19), 3), (17, some (.aload_n 0), 1), (18, some (.iload_n 3), 1), (19, some (.invokevirtual 54), 3), (22, some (.iload_n 1), 1), (23, some (.irem), 1)] = true := by decide +kernel
theorem adX0_removeMultiples_1 : fd_rows (cX0_removeMultiples.data.toList.drop 24) 24 [(24, some (.ifCond .ne 9), 3), (27, some (.aload_n 0), 1), (28, some (.iload_n 3), 1), (29, some (.invokevirtual 100), 3), (32, some (.pop), 1), (33, some (.iinc 3 (-1)), 3), (36, some (.goto (-27)), 3), (39, some (.iload_n 2), 1), (40, some (.aload_n 0), 1), (41, some (.getfield 25), 3), (44, some (.isub), 1), (45, some (.ireturn), 1)] = true := by decide +kernel
theorem dX0_removeMultiples_0 : decode cX0_removeMultiples 0 = .ok (.aload_n 0, 1) := fd_get adX0_removeMultiples_0 (k := 0) rfl
theorem dX0_removeMultiples_1 : decode cX0_removeMultiples 1 = .ok (.getfield 25, 3) := fd_get adX0_removeMultiples_0 (k := 1) rfl
theorem dX0_removeMultiples_4 : decode cX0_removeMultiples 4 = .ok (.istore_n 2, 1) := fd_get adX0_removeMultiples_0 (k := 2) rfl
theorem dX0_removeMultiples_5 : decode cX0_removeMultiples 5 = .ok (.iload_n 2, 1) := fd_get adX0_removeMultiples_0 (k := 3) rfl
theorem dX0_removeMultiples_6 : decode cX0_removeMultiples 6 = .ok (.iconst 1, 1) := fd_get adX0_removeMultiples_0 (k := 4) rfl
theorem dX0_removeMultiples_7 : decode cX0_removeMultiples 7 = .ok (.isub, 1) := fd_get adX0_removeMultiples_0 (k := 5) rfl
theorem dX0_removeMultiples_8 : decode cX0_removeMultiples 8 = .ok (.istore_n 3, 1) := fd_get adX0_removeMultiples_0 (k := 6) rfl
theorem dX0_removeMultiples_9 : decode cX0_removeMultiples 9 = .ok (.iload_n 3, 1) := fd_get adX0_removeMultiples_0 (k := 7) rfl
theorem dX0_removeMultiples_10 : decode cX0_removeMultiples 10 = .ok (.ifCond .lt 29, 3) := fd_get adX0_removeMultiples_0 (k := 8) rfl
theorem dX0_removeMultiples_13 : decode cX0_removeMultiples 13 = .ok (.iload_n 1, 1) := fd_get adX0_removeMultiples_0 (k := 9) rfl
theorem dX0_removeMultiples_14 : decode cX0_removeMultiples 14 = .ok (.ifCond .eq 19, 3) := fd_get adX0_removeMultiples_0 (k := 10) rfl
theorem dX0_removeMultiples_17 : decode cX0_removeMultiples 17 = .ok (.aload_n 0, 1) := fd_get adX0_removeMultiples_0 (k := 11) rfl
theorem dX0_removeMultiples_18 : decode cX0_removeMultiples 18 = .ok (.iload_n 3, 1) := fd_get adX0_removeMultiples_0 (k := 12) rfl
theorem dX0_removeMultiples_19 : decode cX0_removeMultiples 19 = .ok (.invokevirtual 54, 3) := fd_get adX0_removeMultiples_0 (k := 13) rfl
theorem dX0_removeMultiples_22 : decode cX0_removeMultiples 22 = .ok (.iload_n 1, 1) := fd_get adX0_removeMultiples_0 (k := 14) rfl
theorem dX0_removeMultiples_23 : decode cX0_removeMultiples 23 = .ok (.irem, 1) := fd_get adX0_removeMultiples_0 (k := 15) rfl
theorem dX0_removeMultiples_24 : decode cX0_removeMultiples 24 = .ok (.ifCond .ne 9, 3) := fd_get adX0_removeMultiples_1 (k := 0) rfl
theorem dX0_removeMultiples_27 : decode cX0_removeMultiples 27 = .ok (.aload_n 0, 1) := fd_get adX0_removeMultiples_1 (k := 1) rfl
theorem dX0_removeMultiples_28 : decode cX0_removeMultiples 28 = .ok (.iload_n 3, 1) := fd_get adX0_removeMultiples_1 (k := 2) rfl
theorem dX0_removeMultiples_29 : decode cX0_removeMultiples 29 = .ok (.invokevirtual 100, 3) := fd_get adX0_removeMultiples_1 (k := 3) rfl
theorem dX0_removeMultiples_32 : decode cX0_removeMultiples 32 = .ok (.pop, 1) := fd_get adX0_removeMultiples_1 (k := 4) rfl
theorem dX0_removeMultiples_33 : decode cX0_removeMultiples 33 = .ok (.iinc 3 (-1), 3) := fd_get adX0_removeMultiples_1 (k := 5) rfl
theorem dX0_removeMultiples_36 : decode cX0_removeMultiples 36 = .ok (.goto (-27), 3) := fd_get adX0_removeMultiples_1 (k := 6) rfl
theorem dX0_removeMultiples_39 : decode cX0_removeMultiples 39 = .ok (.iload_n 2, 1) := fd_get adX0_removeMultiples_1 (k := 7) rfl
theorem dX0_removeMultiples_40 : decode cX0_removeMultiples 40 = .ok (.aload_n 0, 1) := fd_get adX0_removeMultiples_1 (k := 8) rfl
theorem dX0_removeMultiples_41 : decode cX0_removeMultiples 41 = .ok (.getfield 25, 3) := fd_get adX0_removeMultiples_1 (k := 9) rfl
theorem dX0_removeMultiples_44 : decode cX0_removeMultiples 44 = .ok (.isub, 1) := fd_get adX0_removeMultiples_1 (k := 10) rfl
theorem dX0_removeMultiples_45 : decode cX0_removeMultiples 45 = .ok (.ireturn, 1) := fd_get adX0_removeMultiples_1 (k := 11) rfl
theorem mwsX0_removeByOther_0 : ∀ w ∈ wsX0_removeByOther_r1, w ∈ wsX0_removeByOther := fun w h => (List.mem_cons_of_mem _ (List.mem_append_left _ (List.mem_append_left _ h)))
theorem mwsX0_removeByOther_1 : ∀ w ∈ wsX0_removeByOther_r2, w ∈ wsX0_removeByOther := fun w h => (List.mem_cons_of_mem _ (List.mem_append_left _ (List.mem_append_right _ (List.mem_append_left _ h))))
theorem mwsX0_removeByOther_2 : ∀ w ∈ wsX0_removeByOther_r3, w ∈ wsX0_removeByOther := fun w h => (List.mem_cons_of_mem _ (List.mem_append_left _ (List.mem_append_right _ (List.mem_append_right _ h))))
theorem mwsX0_removeByOther_3 : ∀ w ∈ wsX00, w ∈ wsX0_removeByOther := fun w h => (List.mem_cons_of_mem _ (List.mem_append_right _ h))
set_option maxRecDepth 20000 in
theorem ggX0_removeByOther_X0_keyAt : GoodIn wsX0_removeByOther wsX0_keyAt := goodIn_sub (tk_mem 5 _ (fun w h => (mwsX0_removeByOther_0 _ (tkB_mem 5 5 h))) (List.forall_mem_cons.mpr ⟨(mwsX0_removeByOther_0 _ (List.mem_of_getElem? (i := 4) rfl)), (List.forall_mem_cons.mpr ⟨(mwsX0_removeByOther_0 _ (List.mem_of_getElem? (i := 10) rfl)), (List.forall_mem_cons.mpr ⟨(mwsX0_removeByOther_0 _ (List.mem_of_getElem? (i := 0) rfl)), (tk_mem 7 _ (fun w h => (mwsX0_removeByOther_3 _ (tkB_mem 0 7 h))) (fun _ h => absurd h List.not_mem_nil))⟩)⟩)⟩)) (by decide +kernel)
set_option maxRecDepth 20000 in
theorem gX0_removeByOther_X0_keyAt : GoodIn wsX0_removeByOther (wsV RX0 51 RX0 yX0_keyAt wsX0_keyAt) := goodIn_app (goodIn_sub (tk_mem 4 _ (fun w h => (mwsX0_removeByOther_0 _ (tkB_mem 1 4 h))) (fun _ h => absurd h List.not_mem_nil)) (by decide +kernel)) ggX0_removeByOther_X0_keyAt
set_option maxRecDepth 20000 in
theorem ggX0_removeByOther_X0_holds : GoodIn wsX0_removeByOther wsX0_holds := goodIn_sub (tk_mem 4 _ (fun w h => (mwsX0_removeByOther_0 _ (tkB_mem 14 4 h))) (List.forall_mem_cons.mpr ⟨(mwsX0_removeByOther_0 _ (List.mem_of_getElem? (i := 4) rfl)), (tk_mem 6 _ (fun w h => (mwsX0_removeByOther_0 _ (tkB_mem 18 6 h))) (tk_mem 8 _ (fun w h => (mwsX0_removeByOther_1 _ (tkB_mem 0 8 h))) (List.forall_mem_cons.mpr ⟨(mwsX0_removeByOther_0 _ (List.mem_of_getElem? (i := 0) rfl)), (List.forall_mem_cons.mpr ⟨(mwsX0_removeByOther_0 _ (List.mem_of_getElem? (i := 6) rfl)), (List.forall_mem_cons.mpr ⟨(mwsX0_removeByOther_0 _ (List.mem_of_getElem? (i := 1) rfl)), (List.forall_mem_cons.mpr ⟨(mwsX0_removeByOther_0 _ (List.mem_of_getElem? (i := 2) rfl)), (List.forall_mem_cons.mpr ⟨(mwsX0_removeByOther_0 _ (List.mem_of_getElem? (i := 3) rfl)), (List.forall_mem_cons.mpr ⟨(mwsX0_removeByOther_0 _ (List.mem_of_getElem? (i := 5) rfl)), (tk_mem 4 _ (fun w h => (mwsX0_removeByOther_0 _ (tkB_mem 7 4 h))) (tk_mem 5 _ (fun w h => (mwsX0_removeByOther_1 _ (tkB_mem 8 5 h))) (tk_mem 7 _ (fun w h => (mwsX0_removeByOther_3 _ (tkB_mem 0 7 h))) (fun _ h => absurd h List.not_mem_nil))))⟩)⟩)⟩)⟩)⟩)⟩)))⟩)) (by decide +kernel)
set_option maxRecDepth 20000 in
theorem gX0_removeByOther_X0_holds : GoodIn wsX0_removeByOther (wsV RX0 85 RX0 yX0_holds wsX0_holds) := goodIn_app (goodIn_sub (List.forall_mem_cons.mpr ⟨(mwsX0_removeByOther_0 _ (List.mem_of_getElem? (i := 11) rfl)), (List.forall_mem_cons.mpr ⟨(mwsX0_removeByOther_0 _ (List.mem_of_getElem? (i := 12) rfl)), (List.forall_mem_cons.mpr ⟨(mwsX0_removeByOther_0 _ (List.mem_of_getElem? (i := 13) rfl)), (List.forall_mem_cons.mpr ⟨(mwsX0_removeByOther_0 _ (List.mem_of_getElem? (i := 4) rfl)), (fun _ h => absurd h List.not_mem_nil)⟩)⟩)⟩)⟩) (by decide +kernel)) ggX0_removeByOther_X0_holds
set_option maxRecDepth 20000 in
theorem ggX0_removeByOther_X0_removeAt : GoodIn wsX0_removeByOther wsX0_removeAt := goodIn_sub (List.forall_mem_cons.mpr ⟨(mwsX0_removeByOther_1 _ (List.mem_of_getElem? (i := 16) rfl)), (tk_mem 10 _ (fun w h => (mwsX0_removeByOther_0 _ (tkB_mem 1 10 h))) (List.forall_mem_cons.mpr ⟨(mwsX0_removeByOther_0 _ (List.mem_of_getElem? (i := 0) rfl)), (tk_mem 7 _ (fun w h => (mwsX0_removeByOther_1 _ (tkB_mem 17 7 h))) (List.forall_mem_cons.mpr ⟨(mwsX0_removeByOther_2 _ (List.mem_of_getElem? (i := 0) rfl)), (List.forall_mem_cons.mpr ⟨(mwsX0_removeByOther_1 _ (List.mem_of_getElem? (i := 12) rfl)), (List.forall_mem_cons.mpr ⟨(mwsX0_removeByOther_2 _ (List.mem_of_getElem? (i := 1) rfl)), (tk_mem 7 _ (fun w h => (mwsX0_removeByOther_3 _ (tkB_mem 0 7 h))) (fun _ h => absurd h List.not_mem_nil))⟩)⟩)⟩))⟩))⟩) (by decide +kernel)
set_option maxRecDepth 20000 in
theorem gX0_removeByOther_X0_removeAt : GoodIn wsX0_removeByOther (wsV RX0 100 RX0 yX0_removeAt wsX0_removeAt) := goodIn_app (goodIn_sub (List.forall_mem_cons.mpr ⟨(mwsX0_removeByOther_1 _ (List.mem_of_getElem? (i := 13) rfl)), (List.forall_mem_cons.mpr ⟨(mwsX0_removeByOther_1 _ (List.mem_of_getElem? (i := 14) rfl)), (List.forall_mem_cons.mpr ⟨(mwsX0_removeByOther_1 _ (List.mem_of_getElem? (i := 15) rfl)), (List.forall_mem_cons.mpr ⟨(mwsX0_removeByOther_0 _ (List.mem_of_getElem? (i := 4) rfl)), (fun _ h => absurd h List.not_mem_nil)⟩)⟩)⟩)⟩) (by decide +kernel)) ggX0_removeByOther_X0_removeAt
theorem adX0_removeByOther_0 : fd_rows (cX0_removeByOther.data.toList.drop 0) 0 [(0, some (.aload_n 0), 1), (1, some (.getfield 25), 3), (4, some (.istore_n 3), 1), (5, some (.iload_n 3), 1), (6, some (.iconst 1), 1), (7, some (.isub), 1), (8, some (.istore 4), 2), (10, some (.iload 4), 2), (12, some (.ifCond .lt 30), 3), (15, some (.aload_n 1), 1), (16, some (.aload_n 0), 1), (17, some (.iload 4), 2), (19, some (.invokevirtual 51), 3), (22, some (.invokevirtual 85), 3), (25, some (.iload_n 2), 1), (26, some (.if_icmp .ne 10), 3)] = true := by decide +kernel
theorem adX0_removeByOther_1 : fd_rows (cX0_removeByOther.data.toList.drop 29) 29 [(29, some (.aload_n 0), 1), (30, some (.iload 4), 2), (32, some (.invokevirtual 100), 3), (35, some (.pop), 1), (36, some (.iinc 4 (-1)), 3), (39, some (.goto (-29)), 3), (42, some (.iload_n 3), 1), (43, some (.aload_n 0), 1), (44, some (.getfield 25), 3), (47, some (.isub), 1), (48, some (.ireturn), 1)] = true := by decide +kernel
theorem dX0_removeByOther_0 : decode cX0_removeByOther 0 = .ok (.aload_n 0, 1) := fd_get adX0_removeByOther_0 (k := 0) rfl
theorem dX0_removeByOther_1 : decode cX0_removeByOther 1 = .ok (.getfield 25, 3) := fd_get adX0_removeByOther_0 (k := 1) rfl
theorem dX0_removeByOther_4 : decode cX0_removeByOther 4 = .ok (.istore_n 3, 1) := fd_get adX0_removeByOther_0 (k := 2) rfl
theorem dX0_removeByOther_5 : decode cX0_removeByOther 5 = .ok (.iload_n 3, 1) := fd_get adX0_removeByOther_0 (k := 3) rfl
theorem dX0_removeByOther_6 : decode cX0_removeByOther 6 = .ok (.iconst 1, 1) := fd_get adX0_removeByOther_0 (k := 4) rfl
theorem dX0_removeByOther_7 : decode cX0_removeByOther 7 = .ok (.isub, 1) := fd_get adX0_removeByOther_0 (k := 5) rfl
theorem dX0_removeByOther_8 : decode cX0_removeByOther 8 = .ok (.istore 4, 2) := fd_get adX0_removeByOther_0 (k := 6) rfl
theorem dX0_removeByOther_10 : decode cX0_removeByOther 10 = .ok (.iload 4, 2) := fd_get adX0_removeByOther_0 (k := 7) rfl
theorem dX0_removeByOther_12 : decode cX0_removeByOther 12 = .ok (.ifCond .lt 30, 3) := fd_get adX0_removeByOther_0 (k := 8) rfl
theorem dX0_removeByOther_15 : decode cX0_removeByOther 15 = .ok (.aload_n 1, 1) := fd_get adX0_removeByOther_0 (k := 9) rfl
theorem dX0_removeByOther_16 : decode cX0_removeByOther 16 = .ok (.aload_n 0, 1) := fd_get adX0_removeByOther_0 (k := 10) rfl
theorem dX0_removeByOther_17 : decode cX0_removeByOther 17 = .ok (.iload 4, 2) := fd_get adX0_removeByOther_0 (k := 11) rfl
theorem dX0_removeByOther_19 : decode cX0_removeByOther 19 = .ok (.invokevirtual 51, 3) := fd_get adX0_removeByOther_0 (k := 12) rfl
theorem dX0_removeByOther_22 : decode cX0_removeByOther 22 = .ok (.invokevirtual 85, 3) := fd_get adX0_removeByOther_0 (k := 13) rfl
theorem dX0_removeByOther_25 : decode cX0_removeByOther 25 = .ok (.iload_n 2, 1) := fd_get adX0_removeByOther_0 (k := 14) rfl
theorem dX0_removeByOther_26 : decode cX0_removeByOther 26 = .ok (.if_icmp .ne 10, 3) := fd_get adX0_removeByOther_0 (k := 15) rfl
theorem dX0_removeByOther_29 : decode cX0_removeByOther 29 = .ok (.aload_n 0, 1) := fd_get adX0_removeByOther_1 (k := 0) rfl
theorem dX0_removeByOther_30 : decode cX0_removeByOther 30 = .ok (.iload 4, 2) := fd_get adX0_removeByOther_1 (k := 1) rfl
theorem dX0_removeByOther_32 : decode cX0_removeByOther 32 = .ok (.invokevirtual 100, 3) := fd_get adX0_removeByOther_1 (k := 2) rfl
theorem dX0_removeByOther_35 : decode cX0_removeByOther 35 = .ok (.pop, 1) := fd_get adX0_removeByOther_1 (k := 3) rfl
theorem dX0_removeByOther_36 : decode cX0_removeByOther 36 = .ok (.iinc 4 (-1), 3) := fd_get adX0_removeByOther_1 (k := 4) rfl
theorem dX0_removeByOther_39 : decode cX0_removeByOther 39 = .ok (.goto (-29), 3) := fd_get adX0_removeByOther_1 (k := 5) rfl
theorem dX0_removeByOther_42 : decode cX0_removeByOther 42 = .ok (.iload_n 3, 1) := fd_get adX0_removeByOther_1 (k := 6) rfl
theorem dX0_removeByOther_43 : decode cX0_removeByOther 43 = .ok (.aload_n 0, 1) := fd_get adX0_removeByOther_1 (k := 7) rfl
theorem dX0_removeByOther_44 : decode cX0_removeByOther 44 = .ok (.getfield 25, 3) := fd_get adX0_removeByOther_1 (k := 8) rfl
theorem dX0_removeByOther_47 : decode cX0_removeByOther 47 = .ok (.isub, 1) := fd_get adX0_removeByOther_1 (k := 9) rfl
theorem dX0_removeByOther_48 : decode cX0_removeByOther 48 = .ok (.ireturn, 1) := fd_get adX0_removeByOther_1 (k := 10) rfl
theorem mwsX0_enterAll_0 : ∀ w ∈ wsX0_enterAll_r1, w ∈ wsX0_enterAll := fun w h => (List.mem_cons_of_mem _ (List.mem_append_left _ (List.mem_append_left _ h)))
theorem mwsX0_enterAll_1 : ∀ w ∈ wsX0_enterAll_r2, w ∈ wsX0_enterAll := fun w h => (List.mem_cons_of_mem _ (List.mem_append_left _ (List.mem_append_right _ h)))
theorem mwsX0_enterAll_2 : ∀ w ∈ wsX00, w ∈ wsX0_enterAll := fun w h => (List.mem_cons_of_mem _ (List.mem_append_right _ h))
set_option maxRecDepth 20000 in
theorem ggX0_enterAll_X0_size : GoodIn wsX0_enterAll wsX0_size := goodIn_sub (List.forall_mem_cons.mpr ⟨(mwsX0_enterAll_0 _ (List.mem_of_getElem? (i := 4) rfl)), (List.forall_mem_cons.mpr ⟨(mwsX0_enterAll_0 _ (List.mem_of_getElem? (i := 5) rfl)), (tk_mem 7 _ (fun w h => (mwsX0_enterAll_2 _ (tkB_mem 0 7 h))) (fun _ h => absurd h List.not_mem_nil))⟩)⟩) (by decide +kernel)
set_option maxRecDepth 20000 in
theorem gX0_enterAll_X0_size : GoodIn wsX0_enterAll (wsV RX0 103 RX0 yX0_size wsX0_size) := goodIn_app (goodIn_sub (tk_mem 4 _ (fun w h => (mwsX0_enterAll_0 _ (tkB_mem 0 4 h))) (fun _ h => absurd h List.not_mem_nil)) (by decide +kernel)) ggX0_enterAll_X0_size
set_option maxRecDepth 20000 in
theorem ggX0_enterAll_X0_keyAt : GoodIn wsX0_enterAll wsX0_keyAt := goodIn_sub (tk_mem 5 _ (fun w h => (mwsX0_enterAll_0 _ (tkB_mem 9 5 h))) (List.forall_mem_cons.mpr ⟨(mwsX0_enterAll_0 _ (List.mem_of_getElem? (i := 3) rfl)), (List.forall_mem_cons.mpr ⟨(mwsX0_enterAll_0 _ (List.mem_of_getElem? (i := 14) rfl)), (List.forall_mem_cons.mpr ⟨(mwsX0_enterAll_0 _ (List.mem_of_getElem? (i := 5) rfl)), (tk_mem 7 _ (fun w h => (mwsX0_enterAll_2 _ (tkB_mem 0 7 h))) (fun _ h => absurd h List.not_mem_nil))⟩)⟩)⟩)) (by decide +kernel)
set_option maxRecDepth 20000 in
theorem gX0_enterAll_X0_keyAt : GoodIn wsX0_enterAll (wsV RX0 51 RX0 yX0_keyAt wsX0_keyAt) := goodIn_app (goodIn_sub (List.forall_mem_cons.mpr ⟨(mwsX0_enterAll_0 _ (List.mem_of_getElem? (i := 6) rfl)), (List.forall_mem_cons.mpr ⟨(mwsX0_enterAll_0 _ (List.mem_of_getElem? (i := 7) rfl)), (List.forall_mem_cons.mpr ⟨(mwsX0_enterAll_0 _ (List.mem_of_getElem? (i := 8) rfl)), (List.forall_mem_cons.mpr ⟨(mwsX0_enterAll_0 _ (List.mem_of_getElem? (i := 3) rfl)), (fun _ h => absurd h List.not_mem_nil)⟩)⟩)⟩)⟩) (by decide +kernel)) ggX0_enterAll_X0_keyAt
set_option maxRecDepth 20000 in
theorem ggX0_enterAll_X0_valueAt : GoodIn wsX0_enterAll wsX0_valueAt := goodIn_sub (List.forall_mem_cons.mpr ⟨(mwsX0_enterAll_0 _ (List.mem_of_getElem? (i := 18) rfl)), (List.forall_mem_cons.mpr ⟨(mwsX0_enterAll_0 _ (List.mem_of_getElem? (i := 19) rfl)), (List.forall_mem_cons.mpr ⟨(mwsX0_enterAll_0 _ (List.mem_of_getElem? (i := 11) rfl)), (List.forall_mem_cons.mpr ⟨(mwsX0_enterAll_0 _ (List.mem_of_getElem? (i := 12) rfl)), (List.forall_mem_cons.mpr ⟨(mwsX0_enterAll_0 _ (List.mem_of_getElem? (i := 13) rfl)), (List.forall_mem_cons.mpr ⟨(mwsX0_enterAll_0 _ (List.mem_of_getElem? (i := 3) rfl)), (List.forall_mem_cons.mpr ⟨(mwsX0_enterAll_0 _ (List.mem_of_getElem? (i := 14) rfl)), (List.forall_mem_cons.mpr ⟨(mwsX0_enterAll_0 _ (List.mem_of_getElem? (i := 5) rfl)), (tk_mem 7 _ (fun w h => (mwsX0_enterAll_2 _ (tkB_mem 0 7 h))) (fun _ h => absurd h List.not_mem_nil))⟩)⟩)⟩)⟩)⟩)⟩)⟩)⟩) (by decide +kernel)
set_option maxRecDepth 20000 in
theorem gX0_enterAll_X0_valueAt : GoodIn wsX0_enterAll (wsV RX0 54 RX0 yX0_valueAt wsX0_valueAt) := goodIn_app (goodIn_sub (List.forall_mem_cons.mpr ⟨(mwsX0_enterAll_0 _ (List.mem_of_getElem? (i := 15) rfl)), (List.forall_mem_cons.mpr ⟨(mwsX0_enterAll_0 _ (List.mem_of_getElem? (i := 16) rfl)), (List.forall_mem_cons.mpr ⟨(mwsX0_enterAll_0 _ (List.mem_of_getElem? (i := 17) rfl)), (List.forall_mem_cons.mpr ⟨(mwsX0_enterAll_0 _ (List.mem_of_getElem? (i := 3) rfl)), (fun _ h => absurd h List.not_mem_nil)⟩)⟩)⟩)⟩) (by decide +kernel)) ggX0_enterAll_X0_valueAt
set_option maxRecDepth 20000 in
theorem ggX0_enterAll_X0_enter : GoodIn wsX0_enterAll wsX0_enter := goodIn_sub (List.forall_mem_cons.mpr ⟨(mwsX0_enterAll_0 _ (List.mem_of_getElem? (i := 23) rfl)), (List.forall_mem_cons.mpr ⟨(mwsX0_enterAll_0 _ (List.mem_of_getElem? (i := 10) rfl)), (List.forall_mem_cons.mpr ⟨(mwsX0_enterAll_0 _ (List.mem_of_getElem? (i := 19) rfl)), (List.forall_mem_cons.mpr ⟨(mwsX0_enterAll_1 _ (List.mem_of_getElem? (i := 0) rfl)), (List.forall_mem_cons.mpr ⟨(mwsX0_enterAll_1 _ (List.mem_of_getElem? (i := 1) rfl)), (List.forall_mem_cons.mpr ⟨(mwsX0_enterAll_1 _ (List.mem_of_getElem? (i := 2) rfl)), (List.forall_mem_cons.mpr ⟨(mwsX0_enterAll_0 _ (List.mem_of_getElem? (i := 3) rfl)), (tk_mem 10 _ (fun w h => (mwsX0_enterAll_1 _ (tkB_mem 3 10 h))) (List.forall_mem_cons.mpr ⟨(mwsX0_enterAll_0 _ (List.mem_of_getElem? (i := 5) rfl)), (tk_mem 4 _ (fun w h => (mwsX0_enterAll_0 _ (tkB_mem 11 4 h))) (tk_mem 9 _ (fun w h => (mwsX0_enterAll_1 _ (tkB_mem 13 9 h))) (tk_mem 7 _ (fun w h => (mwsX0_enterAll_2 _ (tkB_mem 0 7 h))) (fun _ h => absurd h List.not_mem_nil))))⟩))⟩)⟩)⟩)⟩)⟩)⟩)⟩) (by decide +kernel)
set_option maxRecDepth 20000 in
theorem gX0_enterAll_X0_enter : GoodIn wsX0_enterAll (wsV RX0 88 RX0 yX0_enter wsX0_enter) := goodIn_app (goodIn_sub (List.forall_mem_cons.mpr ⟨(mwsX0_enterAll_0 _ (List.mem_of_getElem? (i := 20) rfl)), (List.forall_mem_cons.mpr ⟨(mwsX0_enterAll_0 _ (List.mem_of_getElem? (i := 21) rfl)), (List.forall_mem_cons.mpr ⟨(mwsX0_enterAll_0 _ (List.mem_of_getElem? (i := 22) rfl)), (List.forall_mem_cons.mpr ⟨(mwsX0_enterAll_0 _ (List.mem_of_getElem? (i := 3) rfl)), (fun _ h => absurd h List.not_mem_nil)⟩)⟩)⟩)⟩) (by decide +kernel)) ggX0_enterAll_X0_enter
theorem adX0_enterAll_0 : fd_rows (cX0_enterAll.data.toList.drop 0) 0 [(0, some (.iconst 0), 1), (1, some (.istore_n 2), 1), (2, some (.iload_n 2), 1), (3, some (.aload_n 1), 1), (4, some (.invokevirtual 103), 3), (7, some (.if_icmp .ge 24), 3), (10, some (.aload_n 0), 1), (11, some (.aload_n 1), 1), (12, some (.iload_n 2), 1), (13, some (.invokevirtual 51), 3), (16, some (.aload_n 1), 1), (17, some (.iload_n 2), 1), (18, some (.invokevirtual 54), 3), (21, some (.invokevirtual 88), 3), (24, some (.pop), 1), (25, some (.iinc 2 1), 3)] = true := by decide +kernel
theorem adX0_enterAll_1 : fd_rows (cX0_enterAll.data.toList.drop 28) 28 [(28, some (.goto (-26)), 3), (31, some (.return_), 1)] = true := by decide +kernel
theorem dX0_enterAll_0 : decode cX0_enterAll 0 = .ok (.iconst 0, 1) := fd_get adX0_enterAll_0 (k := 0) rfl
theorem dX0_enterAll_1 : decode cX0_enterAll 1 = .ok (.istore_n 2, 1) := fd_get adX0_enterAll_0 (k := 1) rfl
theorem dX0_enterAll_2 : decode cX0_enterAll 2 = .ok (.iload_n 2, 1) := fd_get adX0_enterAll_0 (k := 2) rfl
theorem dX0_enterAll_3 : decode cX0_enterAll 3 = .ok (.aload_n 1, 1) := fd_get adX0_enterAll_0 (k := 3) rfl
theorem dX0_enterAll_4 : decode cX0_enterAll 4 = .ok (.invokevirtual 103, 3) := fd_get adX0_enterAll_0 (k := 4) rfl
theorem dX0_enterAll_7 : decode cX0_enterAll 7 = .ok (.if_icmp .ge 24, 3) := fd_get adX0_enterAll_0 (k := 5) rfl
theorem dX0_enterAll_10 : decode cX0_enterAll 10 = .ok (.aload_n 0, 1) := fd_get adX0_enterAll_0 (k := 6) rfl
theorem dX0_enterAll_11 : decode cX0_enterAll 11 = .ok (.aload_n 1, 1) := fd_get adX0_enterAll_0 (k := 7) rfl
theorem dX0_enterAll_12 : decode cX0_enterAll 12 = .ok (.iload_n 2, 1) := fd_get adX0_enterAll_0 (k := 8) rfl
theorem dX0_enterAll_13 : decode cX0_enterAll 13 = .ok (.invokevirtual 51, 3) := fd_get adX0_enterAll_0 (k := 9) rfl
theorem dX0_enterAll_16 : decode cX0_enterAll 16 = .ok (.aload_n 1, 1) := fd_get adX0_enterAll_0 (k := 10) rfl
theorem dX0_enterAll_17 : decode cX0_enterAll 17 = .ok (.iload_n 2, 1) := fd_get adX0_enterAll_0 (k := 11) rfl
theorem dX0_enterAll_18 : decode cX0_enterAll 18 = .ok (.invokevirtual 54, 3) := fd_get adX0_enterAll_0 (k := 12) rfl
theorem dX0_enterAll_21 : decode cX0_enterAll 21 = .ok (.invokevirtual 88, 3) := fd_get adX0_enterAll_0 (k := 13) rfl
theorem dX0_enterAll_24 : decode cX0_enterAll 24 = .ok (.pop, 1) := fd_get adX0_enterAll_0 (k := 14) rfl
theorem dX0_enterAll_25 : decode cX0_enterAll 25 = .ok (.iinc 2 1, 3) := fd_get adX0_enterAll_0 (k := 15) rfl
theorem dX0_enterAll_28 : decode cX0_enterAll 28 = .ok (.goto (-26), 3) := fd_get adX0_enterAll_1 (k := 0) rfl
theorem dX0_enterAll_31 : decode cX0_enterAll 31 = .ok (.return_, 1) := fd_get adX0_enterAll_1 (k := 1) rfl
theorem mwsX0_becomeLike_0 : ∀ w ∈ wsX0_becomeLike_r1, w ∈ wsX0_becomeLike := fun w h => (List.mem_cons_of_mem _ (List.mem_append_left _ (List.mem_append_left _ h)))
theorem mwsX0_becomeLike_1 : ∀ w ∈ wsX0_becomeLike_r2, w ∈ wsX0_becomeLike := fun w h => (List.mem_cons_of_mem _ (List.mem_append_left _ (List.mem_append_right _ (List.mem_append_left _ h))))
theorem mwsX0_becomeLike_2 : ∀ w ∈ wsX0_becomeLike_r3, w ∈ wsX0_becomeLike := fun w h => (List.mem_cons_of_mem _ (List.mem_append_left _ (List.mem_append_right _ (List.mem_append_right _ h))))
theorem mwsX0_becomeLike_3 : ∀ w ∈ wsX00, w ∈ wsX0_becomeLike := fun w h => (List.mem_cons_of_mem _ (List.mem_append_right _ h))
set_option maxRecDepth 20000 in
theorem ggX0_becomeLike_X0_removeRange : GoodIn wsX0_becomeLike wsX0_removeRange := goodIn_sub (List.forall_mem_cons.mpr ⟨(mwsX0_becomeLike_0 _ (List.mem_of_getElem? (i := 6) rfl)), (List.forall_mem_cons.mpr ⟨(mwsX0_becomeLike_0 _ (List.mem_of_getElem? (i := 0) rfl)), (tk_mem 7 _ (fun w h => (mwsX0_becomeLike_0 _ (tkB_mem 7 7 h))) (tk_mem 7 _ (fun w h => (mwsX0_becomeLike_3 _ (tkB_mem 0 7 h))) (fun _ h => absurd h List.not_mem_nil)))⟩)⟩) (by decide +kernel)
set_option maxRecDepth 20000 in
theorem gX0_becomeLike_X0_removeRange : GoodIn wsX0_becomeLike (wsV RX0 82 RX0 yX0_removeRange wsX0_removeRange) := goodIn_app (goodIn_sub (tk_mem 4 _ (fun w h => (mwsX0_becomeLike_0 _ (tkB_mem 2 4 h))) (fun _ h => absurd h List.not_mem_nil)) (by decide +kernel)) ggX0_becomeLike_X0_removeRange
set_option maxRecDepth 20000 in
theorem ggX0_becomeLike_X0_order : GoodIn wsX0_becomeLike wsX0_order := goodIn_sub (List.forall_mem_cons.mpr ⟨(mwsX0_becomeLike_0 _ (List.mem_of_getElem? (i := 17) rfl)), (List.forall_mem_cons.mpr ⟨(mwsX0_becomeLike_0 _ (List.mem_of_getElem? (i := 1) rfl)), (tk_mem 7 _ (fun w h => (mwsX0_becomeLike_3 _ (tkB_mem 0 7 h))) (fun _ h => absurd h List.not_mem_nil))⟩)⟩) (by decide +kernel)
set_option maxRecDepth 20000 in
theorem gX0_becomeLike_X0_order : GoodIn wsX0_becomeLike (wsV RX0 106 RX0 yX0_order wsX0_order) := goodIn_app (goodIn_sub (List.forall_mem_cons.mpr ⟨(mwsX0_becomeLike_0 _ (List.mem_of_getElem? (i := 14) rfl)), (List.forall_mem_cons.mpr ⟨(mwsX0_becomeLike_0 _ (List.mem_of_getElem? (i := 15) rfl)), (List.forall_mem_cons.mpr ⟨(mwsX0_becomeLike_0 _ (List.mem_of_getElem? (i := 16) rfl)), (List.forall_mem_cons.mpr ⟨(mwsX0_becomeLike_0 _ (List.mem_of_getElem? (i := 5) rfl)), (fun _ h => absurd h List.not_mem_nil)⟩)⟩)⟩)⟩) (by decide +kernel)) ggX0_becomeLike_X0_order
set_option maxRecDepth 20000 in
theorem ggX0_becomeLike_X0_enterAll : GoodIn wsX0_becomeLike wsX0_enterAll := goodIn_sub (List.forall_mem_cons.mpr ⟨(mwsX0_becomeLike_0 _ (List.mem_of_getElem? (i := 21) rfl)), (List.forall_mem_cons.mpr ⟨(mwsX0_becomeLike_0 _ (List.mem_of_getElem? (i := 22) rfl)), (List.forall_mem_cons.mpr ⟨(mwsX0_becomeLike_0 _ (List.mem_of_getElem? (i := 23) rfl)), (List.forall_mem_cons.mpr ⟨(mwsX0_becomeLike_1 _ (List.mem_of_getElem? (i := 0) rfl)), (List.forall_mem_cons.mpr ⟨(mwsX0_becomeLike_0 _ (List.mem_of_getElem? (i := 5) rfl)), (List.forall_mem_cons.mpr ⟨(mwsX0_becomeLike_1 _ (List.mem_of_getElem? (i := 1) rfl)), (List.forall_mem_cons.mpr ⟨(mwsX0_becomeLike_0 _ (List.mem_of_getElem? (i := 0) rfl)), (tk_mem 4 _ (fun w h => (mwsX0_becomeLike_1 _ (tkB_mem 2 4 h))) (List.forall_mem_cons.mpr ⟨(mwsX0_becomeLike_0 _ (List.mem_of_getElem? (i := 7) rfl)), (tk_mem 8 _ (fun w h => (mwsX0_becomeLike_1 _ (tkB_mem 6 8 h))) (List.forall_mem_cons.mpr ⟨(mwsX0_becomeLike_0 _ (List.mem_of_getElem? (i := 12) rfl)), (tk_mem 10 _ (fun w h => (mwsX0_becomeLike_1 _ (tkB_mem 14 10 h))) (List.forall_mem_cons.mpr ⟨(mwsX0_becomeLike_2 _ (List.mem_of_getElem? (i := 0) rfl)), (List.forall_mem_cons.mpr ⟨(mwsX0_becomeLike_2 _ (List.mem_of_getElem? (i := 1) rfl)), (List.forall_mem_cons.mpr ⟨(mwsX0_becomeLike_0 _ (List.mem_of_getElem? (i := 1) rfl)), (tk_mem 8 _ (fun w h => (mwsX0_becomeLike_2 _ (tkB_mem 2 8 h))) (tk_mem 4 _ (fun w h => (mwsX0_becomeLike_0 _ (tkB_mem 8 4 h))) (List.forall_mem_cons.mpr ⟨(mwsX0_becomeLike_0 _ (List.mem_of_getElem? (i := 13) rfl)), (tk_mem 7 _ (fun w h => (mwsX0_becomeLike_3 _ (tkB_mem 0 7 h))) (fun _ h => absurd h List.not_mem_nil))⟩)))⟩)⟩)⟩))⟩))⟩))⟩)⟩)⟩)⟩)⟩)⟩)⟩) (by decide +kernel)
set_option maxRecDepth 20000 in
theorem gX0_becomeLike_X0_enterAll : GoodIn wsX0_becomeLike (wsV RX0 108 RX0 yX0_enterAll wsX0_enterAll) := goodIn_app (goodIn_sub (List.forall_mem_cons.mpr ⟨(mwsX0_becomeLike_0 _ (List.mem_of_getElem? (i := 18) rfl)), (List.forall_mem_cons.mpr ⟨(mwsX0_becomeLike_0 _ (List.mem_of_getElem? (i := 19) rfl)), (List.forall_mem_cons.mpr ⟨(mwsX0_becomeLike_0 _ (List.mem_of_getElem? (i := 20) rfl)), (List.forall_mem_cons.mpr ⟨(mwsX0_becomeLike_0 _ (List.mem_of_getElem? (i := 5) rfl)), (fun _ h => absurd h List.not_mem_nil)⟩)⟩)⟩)⟩) (by decide +kernel)) ggX0_becomeLike_X0_enterAll
theorem adX0_becomeLike_0 : fd_rows (cX0_becomeLike.data.toList.drop 0) 0 [(0, some (.aload_n 0), 1), (1, some (.iconst 0), 1), (2, some (.aload_n 0), 1), (3, some (.getfield 25), 3), (6, some (.invokevirtual 82), 3), (9, some (.pop), 1), (10, some (.aload_n 0), 1), (11, some (.aload_n 1), 1), (12, some (.invokevirtual 106), 3), (15, some (.putfield 22), 3), (18, some (.aload_n 0), 1), (19, some (.aload_n 1), 1), (20, some (.invokevirtual 108), 3), (23, some (.return_), 1)] = true := by decide +kernel
theorem dX0_becomeLike_0 : decode cX0_becomeLike 0 = .ok (.aload_n 0, 1) := fd_get adX0_becomeLike_0 (k := 0) rfl
theorem dX0_becomeLike_1 : decode cX0_becomeLike 1 = .ok (.iconst 0, 1) := fd_get adX0_becomeLike_0 (k := 1) rfl
theorem dX0_becomeLike_2 : decode cX0_becomeLike 2 = .ok (.aload_n 0, 1) := fd_get adX0_becomeLike_0 (k := 2) rfl
theorem dX0_becomeLike_3 : decode cX0_becomeLike 3 = .ok (.getfield 25, 3) := fd_get adX0_becomeLike_0 (k := 3) rfl
theorem dX0_becomeLike_6 : decode cX0_becomeLike 6 = .ok (.invokevirtual 82, 3) := fd_get adX0_becomeLike_0 (k := 4) rfl
theorem dX0_becomeLike_9 : decode cX0_becomeLike 9 = .ok (.pop, 1) := fd_get adX0_becomeLike_0 (k := 5) rfl
theorem dX0_becomeLike_10 : decode cX0_becomeLike 10 = .ok (.aload_n 0, 1) := fd_get adX0_becomeLike_0 (k := 6) rfl
theorem dX0_becomeLike_11 : decode cX0_becomeLike 11 = .ok (.aload_n 1, 1) := fd_get adX0_becomeLike_0 (k := 7) rfl
theorem dX0_becomeLike_12 : decode cX0_becomeLike 12 = .ok (.invokevirtual 106, 3) := fd_get adX0_becomeLike_0 (k := 8) rfl
theorem dX0_becomeLike_15 : decode cX0_becomeLike 15 = .ok (.putfield 22, 3) := fd_get adX0_becomeLike_0 (k := 9) rfl
theorem dX0_becomeLike_18 : decode cX0_becomeLike 18 = .ok (.aload_n 0, 1) := fd_get adX0_becomeLike_0 (k := 10) rfl
theorem dX0_becomeLike_19 : decode cX0_becomeLike 19 = .ok (.aload_n 1, 1) := fd_get adX0_becomeLike_0 (k := 11) rfl
theorem dX0_becomeLike_20 : decode cX0_becomeLike 20 = .ok (.invokevirtual 108, 3) := fd_get adX0_becomeLike_0 (k := 12) rfl
theorem dX0_becomeLike_23 : decode cX0_becomeLike 23 = .ok (.return_, 1) := fd_get adX0_becomeLike_0 (k := 13) rfl
theorem mwsX0_isLike_0 : ∀ w ∈ wsX0_isLike_r1, w ∈ wsX0_isLike := fun w h => (List.mem_cons_of_mem _ (List.mem_append_left _ (List.mem_append_left _ h)))
theorem mwsX0_isLike_1 : ∀ w ∈ wsX0_isLike_r2, w ∈ wsX0_isLike := fun w h => (List.mem_cons_of_mem _ (List.mem_append_left _ (List.mem_append_right _ h)))
theorem mwsX0_isLike_2 : ∀ w ∈ wsX00, w ∈ wsX0_isLike := fun w h => (List.mem_cons_of_mem _ (List.mem_append_right _ h))
set_option maxRecDepth 20000 in
theorem ggX0_isLike_X0_size : GoodIn wsX0_isLike wsX0_size := goodIn_sub (List.forall_mem_cons.mpr ⟨(mwsX0_isLike_0 _ (List.mem_of_getElem? (i := 7) rfl)), (List.forall_mem_cons.mpr ⟨(mwsX0_isLike_0 _ (List.mem_of_getElem? (i := 0) rfl)), (tk_mem 7 _ (fun w h => (mwsX0_isLike_2 _ (tkB_mem 0 7 h))) (fun _ h => absurd h List.not_mem_nil))⟩)⟩) (by decide +kernel)
set_option maxRecDepth 20000 in
theorem gX0_isLike_X0_size : GoodIn wsX0_isLike (wsV RX0 103 RX0 yX0_size wsX0_size) := goodIn_app (goodIn_sub (tk_mem 4 _ (fun w h => (mwsX0_isLike_0 _ (tkB_mem 3 4 h))) (fun _ h => absurd h List.not_mem_nil)) (by decide +kernel)) ggX0_isLike_X0_size
set_option maxRecDepth 20000 in
theorem ggX0_isLike_X0_valueOf : GoodIn wsX0_isLike wsX0_valueOf := goodIn_sub (tk_mem 4 _ (fun w h => (mwsX0_isLike_0 _ (tkB_mem 11 4 h))) (List.forall_mem_cons.mpr ⟨(mwsX0_isLike_0 _ (List.mem_of_getElem? (i := 6) rfl)), (tk_mem 9 _ (fun w h => (mwsX0_isLike_0 _ (tkB_mem 15 9 h))) (List.forall_mem_cons.mpr ⟨(mwsX0_isLike_1 _ (List.mem_of_getElem? (i := 0) rfl)), (List.forall_mem_cons.mpr ⟨(mwsX0_isLike_0 _ (List.mem_of_getElem? (i := 0) rfl)), (List.forall_mem_cons.mpr ⟨(mwsX0_isLike_0 _ (List.mem_of_getElem? (i := 1) rfl)), (tk_mem 12 _ (fun w h => (mwsX0_isLike_1 _ (tkB_mem 1 12 h))) (List.forall_mem_cons.mpr ⟨(mwsX0_isLike_0 _ (List.mem_of_getElem? (i := 2) rfl)), (tk_mem 7 _ (fun w h => (mwsX0_isLike_2 _ (tkB_mem 0 7 h))) (fun _ h => absurd h List.not_mem_nil))⟩))⟩)⟩)⟩))⟩)) (by decide +kernel)
set_option maxRecDepth 20000 in
theorem gX0_isLike_X0_valueOf : GoodIn wsX0_isLike (wsV RX0 45 RX0 yX0_valueOf wsX0_valueOf) := goodIn_app (goodIn_sub (List.forall_mem_cons.mpr ⟨(mwsX0_isLike_0 _ (List.mem_of_getElem? (i := 8) rfl)), (List.forall_mem_cons.mpr ⟨(mwsX0_isLike_0 _ (List.mem_of_getElem? (i := 9) rfl)), (List.forall_mem_cons.mpr ⟨(mwsX0_isLike_0 _ (List.mem_of_getElem? (i := 10) rfl)), (List.forall_mem_cons.mpr ⟨(mwsX0_isLike_0 _ (List.mem_of_getElem? (i := 6) rfl)), (fun _ h => absurd h List.not_mem_nil)⟩)⟩)⟩)⟩) (by decide +kernel)) ggX0_isLike_X0_valueOf
theorem adX0_isLike_0 : fd_rows (cX0_isLike.data.toList.drop 0) 0 [(0, some (.aload_n 0), 1), (1, some (.getfield 25), 3), (4, some (.aload_n 1), 1), (5, some (.invokevirtual 103), 3), (8, some (.if_icmp .eq 5), 3), (11, some (.iconst 0), 1), (12, some (.ireturn), 1), (13, some (.iconst 0), 1), (14, some (.istore_n 2), 1), (15, some (.iload_n 2), 1), (16, some (.aload_n 0), 1), (17, some (.getfield 25), 3), (20, some (.if_icmp .ge 30), 3), (23, some (.aload_n 1), 1), (24, some (.aload_n 0), 1), (25, some (.getfield 15), 3)] = true := by decide +kernel
theorem adX0_isLike_1 : fd_rows (cX0_isLike.data.toList.drop 28) 28 [(28, some (.iload_n 2), 1), (29, some (.iaload), 1), (30, some (.invokevirtual 45), 3), (33, some (.aload_n 0), 1), (34, some (.getfield 19), 3), (37, some (.iload_n 2), 1), (38, some (.iaload), 1), (39, some (.if_icmp .eq 5), 3), (42, some (.iconst 0), 1), (43, some (.ireturn), 1), (44, some (.iinc 2 1), 3), (47, some (.goto (-32)), 3), (50, some (.iconst 1), 1), (51, some (.ireturn), 1)] = true := by decide +kernel
theorem dX0_isLike_0 : decode cX0_isLike 0 = .ok (.aload_n 0, 1) := fd_get adX0_isLike_0 (k := 0) rfl
theorem dX0_isLike_1 : decode cX0_isLike 1 = .ok (.getfield 25, 3) := fd_get adX0_isLike_0 (k := 1) rfl
theorem dX0_isLike_4 : decode cX0_isLike 4 = .ok (.aload_n 1, 1) := fd_get adX0_isLike_0 (k := 2) rfl
theorem dX0_isLike_5 : decode cX0_isLike 5 = .ok (.invokevirtual 103, 3) := fd_get adX0_isLike_0 (k := 3) rfl
theorem dX0_isLike_8 : decode cX0_isLike 8 = .ok (.if_icmp .eq 5, 3) := fd_get adX0_isLike_0 (k := 4) rfl
theorem dX0_isLike_11 : decode cX0_isLike 11 = .ok (.iconst 0, 1) := fd_get adX0_isLike_0 (k := 5) rfl
theorem dX0_isLike_12 : decode cX0_isLike 12 = .ok (.ireturn, 1) := fd_get adX0_isLike_0 (k := 6) rfl
theorem dX0_isLike_13 : decode cX0_isLike 13 = .ok (.iconst 0, 1) := fd_get adX0_isLike_0 (k := 7) rfl
theorem dX0_isLike_14 : decode cX0_isLike 14 = .ok (.istore_n 2, 1) := fd_get adX0_isLike_0 (k := 8) rfl
theorem dX0_isLike_15 : decode cX0_isLike 15 = .ok (.iload_n 2, 1) := fd_get adX0_isLike_0 (k := 9) rfl
theorem dX0_isLike_16 : decode cX0_isLike 16 = .ok (.aload_n 0, 1) := fd_get adX0_isLike_0 (k := 10) rfl
theorem dX0_isLike_17 : decode cX0_isLike 17 = .ok (.getfield 25, 3) := fd_get adX0_isLike_0 (k := 11) rfl
theorem dX0_isLike_20 : decode cX0_isLike 20 = .ok (.if_icmp .ge 30, 3) := fd_get adX0_isLike_0 (k := 12) rfl
theorem dX0_isLike_23 : decode cX0_isLike 23 = .ok (.aload_n 1, 1) := fd_get adX0_isLike_0 (k := 13) rfl
theorem dX0_isLike_24 : decode cX0_isLike 24 = .ok (.aload_n 0, 1) := fd_get adX0_isLike_0 (k := 14) rfl
theorem dX0_isLike_25 : decode cX0_isLike 25 = .ok (.getfield 15, 3) := fd_get adX0_isLike_0 (k := 15) rfl
theorem dX0_isLike_28 : decode cX0_isLike 28 = .ok (.iload_n 2, 1) := fd_get adX0_isLike_1 (k := 0) rfl
theorem dX0_isLike_29 : decode cX0_isLike 29 = .ok (.iaload, 1) := fd_get adX0_isLike_1 (k := 1) rfl
theorem dX0_isLike_30 : decode cX0_isLike 30 = .ok (.invokevirtual 45, 3) := fd_get adX0_isLike_1 (k := 2) rfl
theorem dX0_isLike_33 : decode cX0_isLike 33 = .ok (.aload_n 0, 1) := fd_get adX0_isLike_1 (k := 3) rfl
theorem dX0_isLike_34 : decode cX0_isLike 34 = .ok (.getfield 19, 3) := fd_get adX0_isLike_1 (k := 4) rfl
theorem dX0_isLike_37 : decode cX0_isLike 37 = .ok (.iload_n 2, 1) := fd_get adX0_isLike_1 (k := 5) rfl
theorem dX0_isLike_38 : decode cX0_isLike 38 = .ok (.iaload, 1) := fd_get adX0_isLike_1 (k := 6) rfl
theorem dX0_isLike_39 : decode cX0_isLike 39 = .ok (.if_icmp .eq 5, 3) := fd_get adX0_isLike_1 (k := 7) rfl
theorem dX0_isLike_42 : decode cX0_isLike 42 = .ok (.iconst 0, 1) := fd_get adX0_isLike_1 (k := 8) rfl
theorem dX0_isLike_43 : decode cX0_isLike 43 = .ok (.ireturn, 1) := fd_get adX0_isLike_1 (k := 9) rfl
theorem dX0_isLike_44 : decode cX0_isLike 44 = .ok (.iinc 2 1, 3) := fd_get adX0_isLike_1 (k := 10) rfl
theorem dX0_isLike_47 : decode cX0_isLike 47 = .ok (.goto (-32), 3) := fd_get adX0_isLike_1 (k := 11) rfl
theorem dX0_isLike_50 : decode cX0_isLike 50 = .ok (.iconst 1, 1) := fd_get adX0_isLike_1 (k := 12) rfl
theorem dX0_isLike_51 : decode cX0_isLike 51 = .ok (.ireturn, 1) := fd_get adX0_isLike_1 (k := 13) rfl
theorem mwsX0_hasSameTotals_0 : ∀ w ∈ wsX00, w ∈ wsX0_hasSameTotals := fun w h => (List.mem_cons_of_mem _ (List.mem_append_right _ h))
set_option maxRecDepth 20000 in
theorem ggX0_hasSameTotals_X0_size : GoodIn wsX0_hasSameTotals wsX0_size := goodIn_sub (List.forall_mem_cons.mpr ⟨(List.mem_cons_of_mem _ (List.mem_append_left _ (List.mem_of_getElem? (i := 5) rfl))), (List.forall_mem_cons.mpr ⟨(List.mem_cons_of_mem _ (List.mem_append_left _ (List.mem_of_getElem? (i := 0) rfl))), (tk_mem 7 _ (fun w h => (mwsX0_hasSameTotals_0 _ (tkB_mem 0 7 h))) (fun _ h => absurd h List.not_mem_nil))⟩)⟩) (by decide +kernel)
set_option maxRecDepth 20000 in
theorem gX0_hasSameTotals_X0_size : GoodIn wsX0_hasSameTotals (wsV RX0 103 RX0 yX0_size wsX0_size) := goodIn_app (goodIn_sub (tk_mem 4 _ (fun w h => (List.mem_cons_of_mem _ (List.mem_append_left _ (tkB_mem 1 4 h)))) (fun _ h => absurd h List.not_mem_nil)) (by decide +kernel)) ggX0_hasSameTotals_X0_size
set_option maxRecDepth 20000 in
theorem ggX0_hasSameTotals_X0_sum : GoodIn wsX0_hasSameTotals wsX0_sum := goodIn_sub (tk_mem 5 _ (fun w h => (List.mem_cons_of_mem _ (List.mem_append_left _ (tkB_mem 9 5 h)))) (List.forall_mem_cons.mpr ⟨(List.mem_cons_of_mem _ (List.mem_append_left _ (List.mem_of_getElem? (i := 4) rfl))), (List.forall_mem_cons.mpr ⟨(List.mem_cons_of_mem _ (List.mem_append_left _ (List.mem_of_getElem? (i := 14) rfl))), (List.forall_mem_cons.mpr ⟨(List.mem_cons_of_mem _ (List.mem_append_left _ (List.mem_of_getElem? (i := 0) rfl))), (tk_mem 7 _ (fun w h => (mwsX0_hasSameTotals_0 _ (tkB_mem 0 7 h))) (fun _ h => absurd h List.not_mem_nil))⟩)⟩)⟩)) (by decide +kernel)
set_option maxRecDepth 20000 in
theorem gX0_hasSameTotals_X0_sum : GoodIn wsX0_hasSameTotals (wsV RX0 112 RX0 yX0_sum wsX0_sum) := goodIn_app (goodIn_sub (List.forall_mem_cons.mpr ⟨(List.mem_cons_of_mem _ (List.mem_append_left _ (List.mem_of_getElem? (i := 6) rfl))), (List.forall_mem_cons.mpr ⟨(List.mem_cons_of_mem _ (List.mem_append_left _ (List.mem_of_getElem? (i := 7) rfl))), (List.forall_mem_cons.mpr ⟨(List.mem_cons_of_mem _ (List.mem_append_left _ (List.mem_of_getElem? (i := 8) rfl))), (List.forall_mem_cons.mpr ⟨(List.mem_cons_of_mem _ (List.mem_append_left _ (List.mem_of_getElem? (i := 4) rfl))), (fun _ h => absurd h List.not_mem_nil)⟩)⟩)⟩)⟩) (by decide +kernel)) ggX0_hasSameTotals_X0_sum
theorem adX0_hasSameTotals_0 : fd_rows (cX0_hasSameTotals.data.toList.drop 0) 0 [(0, some (.aload_n 0), 1), (1, some (.getfield 25), 3), (4, some (.aload_n 1), 1), (5, some (.invokevirtual 103), 3), (8, some (.if_icmp .ne 28), 3), (11, some (.aload_n 0), 1), (12, some (.iconst 0), 1), (13, some (.aload_n 0), 1), (14, some (.getfield 25), 3), (17, some (.invokevirtual 112), 3), (20, some (.aload_n 1), 1), (21, some (.iconst 0), 1), (22, some (.aload_n 1), 1), (23, some (.invokevirtual 103), 3), (26, some (.invokevirtual 112), 3), (29, some (.if_icmp .ne 7), 3)] = true := by decide +kernel
theorem adX0_hasSameTotals_1 : fd_rows (cX0_hasSameTotals.data.toList.drop 32) 32 [(32, some (.iconst 1), 1), (33, some (.goto 4), 3), (36, some (.iconst 0), 1), (37, some (.ireturn), 1)] = true := by decide +kernel
theorem dX0_hasSameTotals_0 : decode cX0_hasSameTotals 0 = .ok (.aload_n 0, 1) := fd_get adX0_hasSameTotals_0 (k := 0) rfl
theorem dX0_hasSameTotals_1 : decode cX0_hasSameTotals 1 = .ok (.getfield 25, 3) := fd_get adX0_hasSameTotals_0 (k := 1) rfl
theorem dX0_hasSameTotals_4 : decode cX0_hasSameTotals 4 = .ok (.aload_n 1, 1) := fd_get adX0_hasSameTotals_0 (k := 2) rfl
theorem dX0_hasSameTotals_5 : decode cX0_hasSameTotals 5 = .ok (.invokevirtual 103, 3) := fd_get adX0_hasSameTotals_0 (k := 3) rfl
theorem dX0_hasSameTotals_8 : decode cX0_hasSameTotals 8 = .ok (.if_icmp .ne 28, 3) := fd_get adX0_hasSameTotals_0 (k := 4) rfl
theorem dX0_hasSameTotals_11 : decode cX0_hasSameTotals 11 = .ok (.aload_n 0, 1) := fd_get adX0_hasSameTotals_0 (k := 5) rfl
theorem dX0_hasSameTotals_12 : decode cX0_hasSameTotals 12 = .ok (.iconst 0, 1) := fd_get adX0_hasSameTotals_0 (k := 6) rfl
theorem dX0_hasSameTotals_13 : decode cX0_hasSameTotals 13 = .ok (.aload_n 0, 1) := fd_get adX0_hasSameTotals_0 (k := 7) rfl
theorem dX0_hasSameTotals_14 : decode cX0_hasSameTotals 14 = .ok (.getfield 25, 3) := fd_get adX0_hasSameTotals_0 (k := 8) rfl
theorem dX0_hasSameTotals_17 : decode cX0_hasSameTotals 17 = .ok (.invokevirtual 112, 3) := fd_get adX0_hasSameTotals_0 (k := 9) rfl
theorem dX0_hasSameTotals_20 : decode cX0_hasSameTotals 20 = .ok (.aload_n 1, 1) := fd_get adX0_hasSameTotals_0 (k := 10) rfl
theorem dX0_hasSameTotals_21 : decode cX0_hasSameTotals 21 = .ok (.iconst 0, 1) := fd_get adX0_hasSameTotals_0 (k := 11) rfl
theorem dX0_hasSameTotals_22 : decode cX0_hasSameTotals 22 = .ok (.aload_n 1, 1) := fd_get adX0_hasSameTotals_0 (k := 12) rfl
theorem dX0_hasSameTotals_23 : decode cX0_hasSameTotals 23 = .ok (.invokevirtual 103, 3) := fd_get adX0_hasSameTotals_0 (k := 13) rfl
theorem dX0_hasSameTotals_26 : decode cX0_hasSameTotals 26 = .ok (.invokevirtual 112, 3) := fd_get adX0_hasSameTotals_0 (k := 14) rfl
theorem dX0_hasSameTotals_29 : decode cX0_hasSameTotals 29 = .ok (.if_icmp .ne 7, 3) := fd_get adX0_hasSameTotals_0 (k := 15) rfl
theorem dX0_hasSameTotals_32 : decode cX0_hasSameTotals 32 = .ok (.iconst 1, 1) := fd_get adX0_hasSameTotals_1 (k := 0) rfl
theorem dX0_hasSameTotals_33 : decode cX0_hasSameTotals 33 = .ok (.goto 4, 3) := fd_get adX0_hasSameTotals_1 (k := 1) rfl
theorem dX0_hasSameTotals_36 : decode cX0_hasSameTotals 36 = .ok (.iconst 0, 1) := fd_get adX0_hasSameTotals_1 (k := 2) rfl
theorem dX0_hasSameTotals_37 : decode cX0_hasSameTotals 37 = .ok (.ireturn, 1) := fd_get adX0_hasSameTotals_1 (k := 3) rfl
theorem mwsX0_isInOrder_0 : ∀ w ∈ wsX0_isInOrder_r1, w ∈ wsX0_isInOrder := fun w h => (List.mem_cons_of_mem _ (List.mem_append_left _ (List.mem_append_left _ h)))
theorem mwsX0_isInOrder_1 : ∀ w ∈ wsX0_isInOrder_r2, w ∈ wsX0_isInOrder := fun w h => (List.mem_cons_of_mem _ (List.mem_append_left _ (List.mem_append_right _ h)))
theorem mwsX0_isInOrder_2 : ∀ w ∈ wsX00, w ∈ wsX0_isInOrder := fun w h => (List.mem_cons_of_mem _ (List.mem_append_right _ h))
set_option maxRecDepth 20000 in
theorem ggX0_isInOrder_X0_keyAt : GoodIn wsX0_isInOrder wsX0_keyAt := goodIn_sub (tk_mem 5 _ (fun w h => (mwsX0_isInOrder_0 _ (tkB_mem 5 5 h))) (List.forall_mem_cons.mpr ⟨(mwsX0_isInOrder_0 _ (List.mem_of_getElem? (i := 4) rfl)), (List.forall_mem_cons.mpr ⟨(mwsX0_isInOrder_0 _ (List.mem_of_getElem? (i := 10) rfl)), (List.forall_mem_cons.mpr ⟨(mwsX0_isInOrder_0 _ (List.mem_of_getElem? (i := 0) rfl)), (tk_mem 7 _ (fun w h => (mwsX0_isInOrder_2 _ (tkB_mem 0 7 h))) (fun _ h => absurd h List.not_mem_nil))⟩)⟩)⟩)) (by decide +kernel)
set_option maxRecDepth 20000 in
theorem gX0_isInOrder_X0_keyAt : GoodIn wsX0_isInOrder (wsV RX0 51 RX0 yX0_keyAt wsX0_keyAt) := goodIn_app (goodIn_sub (tk_mem 4 _ (fun w h => (mwsX0_isInOrder_0 _ (tkB_mem 1 4 h))) (fun _ h => absurd h List.not_mem_nil)) (by decide +kernel)) ggX0_isInOrder_X0_keyAt
set_option maxRecDepth 20000 in
theorem ggX0_isInOrder_X0_isAhead : GoodIn wsX0_isInOrder wsX0_isAhead := goodIn_sub (tk_mem 4 _ (fun w h => (mwsX0_isInOrder_0 _ (tkB_mem 14 4 h))) (List.forall_mem_cons.mpr ⟨(mwsX0_isInOrder_0 _ (List.mem_of_getElem? (i := 4) rfl)), (List.forall_mem_cons.mpr ⟨(mwsX0_isInOrder_0 _ (List.mem_of_getElem? (i := 18) rfl)), (List.forall_mem_cons.mpr ⟨(mwsX0_isInOrder_0 _ (List.mem_of_getElem? (i := 19) rfl)), (tk_mem 7 _ (fun w h => (mwsX0_isInOrder_2 _ (tkB_mem 0 7 h))) (fun _ h => absurd h List.not_mem_nil))⟩)⟩)⟩)) (by decide +kernel)
set_option maxRecDepth 20000 in
theorem gX0_isInOrder_X0_isAhead : GoodIn wsX0_isInOrder (wsV RX0 115 RX0 yX0_isAhead wsX0_isAhead) := goodIn_app (goodIn_sub (List.forall_mem_cons.mpr ⟨(mwsX0_isInOrder_0 _ (List.mem_of_getElem? (i := 11) rfl)), (List.forall_mem_cons.mpr ⟨(mwsX0_isInOrder_0 _ (List.mem_of_getElem? (i := 12) rfl)), (List.forall_mem_cons.mpr ⟨(mwsX0_isInOrder_0 _ (List.mem_of_getElem? (i := 13) rfl)), (List.forall_mem_cons.mpr ⟨(mwsX0_isInOrder_0 _ (List.mem_of_getElem? (i := 4) rfl)), (fun _ h => absurd h List.not_mem_nil)⟩)⟩)⟩)⟩) (by decide +kernel)) ggX0_isInOrder_X0_isAhead
set_option maxRecDepth 20000 in
theorem ggX0_isInOrder_X0_closest : GoodIn wsX0_isInOrder wsX0_closest := goodIn_sub (List.forall_mem_cons.mpr ⟨(mwsX0_isInOrder_0 _ (List.mem_of_getElem? (i := 23) rfl)), (tk_mem 10 _ (fun w h => (mwsX0_isInOrder_1 _ (tkB_mem 0 10 h))) (List.forall_mem_cons.mpr ⟨(mwsX0_isInOrder_0 _ (List.mem_of_getElem? (i := 4) rfl)), (List.forall_mem_cons.mpr ⟨(mwsX0_isInOrder_1 _ (List.mem_of_getElem? (i := 10) rfl)), (tk_mem 5 _ (fun w h => (mwsX0_isInOrder_0 _ (tkB_mem 15 5 h))) (tk_mem 4 _ (fun w h => (mwsX0_isInOrder_1 _ (tkB_mem 11 4 h))) (List.forall_mem_cons.mpr ⟨(mwsX0_isInOrder_0 _ (List.mem_of_getElem? (i := 0) rfl)), (List.forall_mem_cons.mpr ⟨(mwsX0_isInOrder_0 _ (List.mem_of_getElem? (i := 6) rfl)), (List.forall_mem_cons.mpr ⟨(mwsX0_isInOrder_0 _ (List.mem_of_getElem? (i := 1) rfl)), (List.forall_mem_cons.mpr ⟨(mwsX0_isInOrder_0 _ (List.mem_of_getElem? (i := 2) rfl)), (List.forall_mem_cons.mpr ⟨(mwsX0_isInOrder_0 _ (List.mem_of_getElem? (i := 3) rfl)), (List.forall_mem_cons.mpr ⟨(mwsX0_isInOrder_0 _ (List.mem_of_getElem? (i := 5) rfl)), (tk_mem 4 _ (fun w h => (mwsX0_isInOrder_0 _ (tkB_mem 7 4 h))) (tk_mem 4 _ (fun w h => (mwsX0_isInOrder_1 _ (tkB_mem 15 4 h))) (tk_mem 7 _ (fun w h => (mwsX0_isInOrder_2 _ (tkB_mem 0 7 h))) (fun _ h => absurd h List.not_mem_nil))))⟩)⟩)⟩)⟩)⟩)⟩)))⟩)⟩))⟩) (by decide +kernel)
set_option maxRecDepth 20000 in
theorem gX0_isInOrder_X0_closest : GoodIn wsX0_isInOrder (wsV RX0 119 RX0 yX0_closest wsX0_closest) := goodIn_app (goodIn_sub (List.forall_mem_cons.mpr ⟨(mwsX0_isInOrder_0 _ (List.mem_of_getElem? (i := 20) rfl)), (List.forall_mem_cons.mpr ⟨(mwsX0_isInOrder_0 _ (List.mem_of_getElem? (i := 21) rfl)), (List.forall_mem_cons.mpr ⟨(mwsX0_isInOrder_0 _ (List.mem_of_getElem? (i := 22) rfl)), (List.forall_mem_cons.mpr ⟨(mwsX0_isInOrder_0 _ (List.mem_of_getElem? (i := 4) rfl)), (fun _ h => absurd h List.not_mem_nil)⟩)⟩)⟩)⟩) (by decide +kernel)) ggX0_isInOrder_X0_closest
set_option maxRecDepth 20000 in
theorem ggX0_isInOrder_X0_placeOf : GoodIn wsX0_isInOrder wsX0_placeOf := goodIn_sub (List.forall_mem_cons.mpr ⟨(mwsX0_isInOrder_1 _ (List.mem_of_getElem? (i := 10) rfl)), (List.forall_mem_cons.mpr ⟨(mwsX0_isInOrder_0 _ (List.mem_of_getElem? (i := 15) rfl)), (List.forall_mem_cons.mpr ⟨(mwsX0_isInOrder_0 _ (List.mem_of_getElem? (i := 16) rfl)), (List.forall_mem_cons.mpr ⟨(mwsX0_isInOrder_0 _ (List.mem_of_getElem? (i := 17) rfl)), (List.forall_mem_cons.mpr ⟨(mwsX0_isInOrder_0 _ (List.mem_of_getElem? (i := 4) rfl)), (List.forall_mem_cons.mpr ⟨(mwsX0_isInOrder_0 _ (List.mem_of_getElem? (i := 18) rfl)), (List.forall_mem_cons.mpr ⟨(mwsX0_isInOrder_0 _ (List.mem_of_getElem? (i := 19) rfl)), (tk_mem 4 _ (fun w h => (mwsX0_isInOrder_1 _ (tkB_mem 11 4 h))) (List.forall_mem_cons.mpr ⟨(mwsX0_isInOrder_0 _ (List.mem_of_getElem? (i := 0) rfl)), (List.forall_mem_cons.mpr ⟨(mwsX0_isInOrder_0 _ (List.mem_of_getElem? (i := 6) rfl)), (tk_mem 7 _ (fun w h => (mwsX0_isInOrder_2 _ (tkB_mem 0 7 h))) (fun _ h => absurd h List.not_mem_nil))⟩)⟩))⟩)⟩)⟩)⟩)⟩)⟩)⟩) (by decide +kernel)
set_option maxRecDepth 20000 in
theorem gX0_isInOrder_X0_placeOf : GoodIn wsX0_isInOrder (wsV RX0 48 RX0 yX0_placeOf wsX0_placeOf) := goodIn_app (goodIn_sub (List.forall_mem_cons.mpr ⟨(mwsX0_isInOrder_1 _ (List.mem_of_getElem? (i := 7) rfl)), (List.forall_mem_cons.mpr ⟨(mwsX0_isInOrder_1 _ (List.mem_of_getElem? (i := 8) rfl)), (List.forall_mem_cons.mpr ⟨(mwsX0_isInOrder_1 _ (List.mem_of_getElem? (i := 9) rfl)), (List.forall_mem_cons.mpr ⟨(mwsX0_isInOrder_0 _ (List.mem_of_getElem? (i := 4) rfl)), (fun _ h => absurd h List.not_mem_nil)⟩)⟩)⟩)⟩) (by decide +kernel)) ggX0_isInOrder_X0_placeOf
theorem adX0_isInOrder_0 : fd_rows (cX0_isInOrder.data.toList.drop 0) 0 [(0, some (.iconst 0), 1), (1, some (.istore_n 1), 1), (2, some (.iload_n 1), 1), (3, some (.aload_n 0), 1), (4, some (.getfield 25), 3), (7, some (.if_icmp .ge 64), 3), (10, some (.aload_n 0), 1), (11, some (.iload_n 1), 1), (12, some (.invokevirtual 51), 3), (15, some (.istore_n 2), 1), (16, some (.aload_n 0), 1), (17, some (.iload_n 1), 1), (18, some (.iconst 1), 1), (19, some (.isub), 1), (20, some (.invokevirtual 51), 3), (23, some (.istore_n 3), 1)] = true := by decide +kernel
theorem adX0_isInOrder_1 : fd_rows (cX0_isInOrder.data.toList.drop 24) 24 [(24, some (.iload_n 1), 1), (25, some (.ifCond .le 14), 3), (28, some (.aload_n 0), 1), (29, some (.iload_n 3), 1), (30, some (.iload_n 2), 1), (31, some (.invokevirtual 115), 3), (34, some (.ifCond .ne 5), 3), (37, some (.iconst 0), 1), (38, some (.ireturn), 1), (39, some (.aload_n 0), 1), (40, some (.iload_n 2), 1), (41, some (.iconst 0), 1), (42, some (.iconst 0), 1), (43, some (.aload_n 0), 1), (44, some (.getfield 25), 3), (47, some (.invokevirtual 119), 3)] = true := by decide +kernel
theorem adX0_isInOrder_2 : fd_rows (cX0_isInOrder.data.toList.drop 50) 50 [(50, some (.iload_n 3), 1), (51, some (.if_icmp .ne 12), 3), (54, some (.aload_n 0), 1), (55, some (.iload_n 2), 1), (56, some (.invokevirtual 48), 3), (59, some (.iload_n 1), 1), (60, some (.if_icmp .eq 5), 3), (63, some (.iconst 0), 1), (64, some (.ireturn), 1), (65, some (.iinc 1 1), 3), (68, some (.goto (-66)), 3), (71, some (.iconst 1), 1), (72, some (.ireturn), 1)] = true := by decide +kernel
theorem dX0_isInOrder_0 : decode cX0_isInOrder 0 = .ok (.iconst 0, 1) := fd_get adX0_isInOrder_0 (k := 0) rfl
theorem dX0_isInOrder_1 : decode cX0_isInOrder 1 = .ok (.istore_n 1, 1) := fd_get adX0_isInOrder_0 (k := 1) rfl
theorem dX0_isInOrder_2 : decode cX0_isInOrder 2 = .ok (.iload_n 1, 1) := fd_get adX0_isInOrder_0 (k := 2) rfl
theorem dX0_isInOrder_3 : decode cX0_isInOrder 3 = .ok (.aload_n 0, 1) := fd_get adX0_isInOrder_0 (k := 3) rfl
theorem dX0_isInOrder_4 : decode cX0_isInOrder 4 = .ok (.getfield 25, 3) := fd_get adX0_isInOrder_0 (k := 4) rfl
theorem dX0_isInOrder_7 : decode cX0_isInOrder 7 = .ok (.if_icmp .ge 64, 3) := fd_get adX0_isInOrder_0 (k := 5) rfl
theorem dX0_isInOrder_10 : decode cX0_isInOrder 10 = .ok (.aload_n 0, 1) := fd_get adX0_isInOrder_0 (k := 6) rfl
theorem dX0_isInOrder_11 : decode cX0_isInOrder 11 = .ok (.iload_n 1, 1) := fd_get adX0_isInOrder_0 (k := 7) rfl
theorem dX0_isInOrder_12 : decode cX0_isInOrder 12 = .ok (.invokevirtual 51, 3) := fd_get adX0_isInOrder_0 (k := 8) rfl
theorem dX0_isInOrder_15 : decode cX0_isInOrder 15 = .ok (.istore_n 2, 1) := fd_get adX0_isInOrder_0 (k := 9) rfl
theorem dX0_isInOrder_16 : decode cX0_isInOrder 16 = .ok (.aload_n 0, 1) := fd_get adX0_isInOrder_0 (k := 10) rfl
theorem dX0_isInOrder_17 : decode cX0_isInOrder 17 = .ok (.iload_n 1, 1) := fd_get adX0_isInOrder_0 (k := 11) rfl
theorem dX0_isInOrder_18 : decode cX0_isInOrder 18 = .ok (.iconst 1, 1) := fd_get adX0_isInOrder_0 (k := 12) rfl
theorem dX0_isInOrder_19 : decode cX0_isInOrder 19 = .ok (.isub, 1) := fd_get adX0_isInOrder_0 (k := 13) rfl
theorem dX0_isInOrder_20 : decode cX0_isInOrder 20 = .ok (.invokevirtual 51, 3) := fd_get adX0_isInOrder_0 (k := 14) rfl
theorem dX0_isInOrder_23 : decode cX0_isInOrder 23 = .ok (.istore_n 3, 1) := fd_get adX0_isInOrder_0 (k := 15) rfl
theorem dX0_isInOrder_24 : decode cX0_isInOrder 24 = .ok (.iload_n 1, 1) := fd_get adX0_isInOrder_1 (k := 0) rfl
theorem dX0_isInOrder_25 : decode cX0_isInOrder 25 = .ok (.ifCond .le 14, 3) := fd_get adX0_isInOrder_1 (k := 1) rfl
theorem dX0_isInOrder_28 : decode cX0_isInOrder 28 = .ok (.aload_n 0, 1) := fd_get adX0_isInOrder_1 (k := 2) rfl
theorem dX0_isInOrder_29 : decode cX0_isInOrder 29 = .ok (.iload_n 3, 1) := fd_get adX0_isInOrder_1 (k := 3) rfl
theorem dX0_isInOrder_30 : decode cX0_isInOrder 30 = .ok (.iload_n 2, 1) := fd_get adX0_isInOrder_1 (k := 4) rfl
theorem dX0_isInOrder_31 : decode cX0_isInOrder 31 = .ok (.invokevirtual 115, 3) := fd_get adX0_isInOrder_1 (k := 5) rfl
theorem dX0_isInOrder_34 : decode cX0_isInOrder 34 = .ok (.ifCond .ne 5, 3) := fd_get adX0_isInOrder_1 (k := 6) rfl
theorem dX0_isInOrder_37 : decode cX0_isInOrder 37 = .ok (.iconst 0, 1) := fd_get adX0_isInOrder_1 (k := 7) rfl
theorem dX0_isInOrder_38 : decode cX0_isInOrder 38 = .ok (.ireturn, 1) := fd_get adX0_isInOrder_1 (k := 8) rfl
theorem dX0_isInOrder_39 : decode cX0_isInOrder 39 = .ok (.aload_n 0, 1) := fd_get adX0_isInOrder_1 (k := 9) rfl
theorem dX0_isInOrder_40 : decode cX0_isInOrder 40 = .ok (.iload_n 2, 1) := fd_get adX0_isInOrder_1 (k := 10) rfl
theorem dX0_isInOrder_41 : decode cX0_isInOrder 41 = .ok (.iconst 0, 1) := fd_get adX0_isInOrder_1 (k := 11) rfl
theorem dX0_isInOrder_42 : decode cX0_isInOrder 42 = .ok (.iconst 0, 1) := fd_get adX0_isInOrder_1 (k := 12) rfl
theorem dX0_isInOrder_43 : decode cX0_isInOrder 43 = .ok (.aload_n 0, 1) := fd_get adX0_isInOrder_1 (k := 13) rfl
theorem dX0_isInOrder_44 : decode cX0_isInOrder 44 = .ok (.getfield 25, 3) := fd_get adX0_isInOrder_1 (k := 14) rfl
theorem dX0_isInOrder_47 : decode cX0_isInOrder 47 = .ok (.invokevirtual 119, 3) := fd_get adX0_isInOrder_1 (k := 15) rfl
theorem dX0_isInOrder_50 : decode cX0_isInOrder 50 = .ok (.iload_n 3, 1) := fd_get adX0_isInOrder_2 (k := 0) rfl
theorem dX0_isInOrder_51 : decode cX0_isInOrder 51 = .ok (.if_icmp .ne 12, 3) := fd_get adX0_isInOrder_2 (k := 1) rfl
theorem dX0_isInOrder_54 : decode cX0_isInOrder 54 = .ok (.aload_n 0, 1) := fd_get adX0_isInOrder_2 (k := 2) rfl
theorem dX0_isInOrder_55 : decode cX0_isInOrder 55 = .ok (.iload_n 2, 1) := fd_get adX0_isInOrder_2 (k := 3) rfl
theorem dX0_isInOrder_56 : decode cX0_isInOrder 56 = .ok (.invokevirtual 48, 3) := fd_get adX0_isInOrder_2 (k := 4) rfl
theorem dX0_isInOrder_59 : decode cX0_isInOrder 59 = .ok (.iload_n 1, 1) := fd_get adX0_isInOrder_2 (k := 5) rfl
theorem dX0_isInOrder_60 : decode cX0_isInOrder 60 = .ok (.if_icmp .eq 5, 3) := fd_get adX0_isInOrder_2 (k := 6) rfl
theorem dX0_isInOrder_63 : decode cX0_isInOrder 63 = .ok (.iconst 0, 1) := fd_get adX0_isInOrder_2 (k := 7) rfl
theorem dX0_isInOrder_64 : decode cX0_isInOrder 64 = .ok (.ireturn, 1) := fd_get adX0_isInOrder_2 (k := 8) rfl
theorem dX0_isInOrder_65 : decode cX0_isInOrder 65 = .ok (.iinc 1 1, 3) := fd_get adX0_isInOrder_2 (k := 9) rfl
theorem dX0_isInOrder_68 : decode cX0_isInOrder 68 = .ok (.goto (-66), 3) := fd_get adX0_isInOrder_2 (k := 10) rfl
theorem dX0_isInOrder_71 : decode cX0_isInOrder 71 = .ok (.iconst 1, 1) := fd_get adX0_isInOrder_2 (k := 11) rfl
theorem dX0_isInOrder_72 : decode cX0_isInOrder 72 = .ok (.ireturn, 1) := fd_get adX0_isInOrder_2 (k := 12) rfl
theorem mwsX0_text_0 : ∀ w ∈ wsX0_text_r1, w ∈ wsX0_text := fun w h => (List.mem_cons_of_mem _ (List.mem_append_left _ (List.mem_append_left _ (List.mem_append_left _ (List.mem_append_left _ h)))))
theorem mwsX0_text_1 : ∀ w ∈ wsX0_text_r2, w ∈ wsX0_text := fun w h => (List.mem_cons_of_mem _ (List.mem_append_left _ (List.mem_append_left _ (List.mem_append_left _ (List.mem_append_right _ (List.mem_append_left _ h))))))
theorem mwsX0_text_2 : ∀ w ∈ wsX0_text_r3, w ∈ wsX0_text := fun w h => (List.mem_cons_of_mem _ (List.mem_append_left _ (List.mem_append_left _ (List.mem_append_left _ (List.mem_append_right _ (List.mem_append_right _ (List.mem_append_left _ h)))))))
theorem mwsX0_text_3 : ∀ w ∈ wsX0_text_r4, w ∈ wsX0_text := fun w h => (List.mem_cons_of_mem _ (List.mem_append_left _ (List.mem_append_left _ (List.mem_append_left _ (List.mem_append_right _ (List.mem_append_right _ (List.mem_append_right _ (List.mem_append_left _ h))))))))
theorem mwsX0_text_4 : ∀ w ∈ wsX0_text_r5, w ∈ wsX0_text := fun w h => (List.mem_cons_of_mem _ (List.mem_append_left _ (List.mem_append_left _ (List.mem_append_left _ (List.mem_append_right _ (List.mem_append_right _ (List.mem_append_right _ (List.mem_append_right _ (List.mem_append_left _ h)))))))))
theorem mwsX0_text_5 : ∀ w ∈ wsX0_text_r6, w ∈ wsX0_text := fun w h => (List.mem_cons_of_mem _ (List.mem_append_left _ (List.mem_append_left _ (List.mem_append_left _ (List.mem_append_right _ (List.mem_append_right _ (List.mem_append_right _ (List.mem_append_right _ (List.mem_append_right _ (List.mem_append_left _ h))))))))))
theorem mwsX0_text_6 : ∀ w ∈ wsX0_text_r7, w ∈ wsX0_text := fun w h => (List.mem_cons_of_mem _ (List.mem_append_left _ (List.mem_append_left _ (List.mem_append_left _ (List.mem_append_right _ (List.mem_append_right _ (List.mem_append_right _ (List.mem_append_right _ (List.mem_append_right _ (List.mem_append_right _ (List.mem_append_left _ h)))))))))))
theorem mwsX0_text_7 : ∀ w ∈ wsX0_text_r8, w ∈ wsX0_text := fun w h => (List.mem_cons_of_mem _ (List.mem_append_left _ (List.mem_append_left _ (List.mem_append_left _ (List.mem_append_right _ (List.mem_append_right _ (List.mem_append_right _ (List.mem_append_right _ (List.mem_append_right _ (List.mem_append_right _ (List.mem_append_right _ (List.mem_append_left _ h))))))))))))
theorem mwsX0_text_8 : ∀ w ∈ wsX0_text_r9, w ∈ wsX0_text := fun w h => (List.mem_cons_of_mem _ (List.mem_append_left _ (List.mem_append_left _ (List.mem_append_left _ (List.mem_append_right _ (List.mem_append_right _ (List.mem_append_right _ (List.mem_append_right _ (List.mem_append_right _ (List.mem_append_right _ (List.mem_append_right _ (List.mem_append_right _ (List.mem_append_left _ h)))))))))))))
theorem mwsX0_text_9 : ∀ w ∈ wsX0_text_r10, w ∈ wsX0_text := fun w h => (List.mem_cons_of_mem _ (List.mem_append_left _ (List.mem_append_left _ (List.mem_append_left _ (List.mem_append_right _ (List.mem_append_right _ (List.mem_append_right _ (List.mem_append_right _ (List.mem_append_right _ (List.mem_append_right _ (List.mem_append_right _ (List.mem_append_right _ (List.mem_append_right _ (List.mem_append_left _ h))))))))))))))
theorem mwsX0_text_10 : ∀ w ∈ wsX0_text_r11, w ∈ wsX0_text := fun w h => (List.mem_cons_of_mem _ (List.mem_append_left _ (List.mem_append_left _ (List.mem_append_left _ (List.mem_append_right _ (List.mem_append_right _ (List.mem_append_right _ (List.mem_append_right _ (List.mem_append_right _ (List.mem_append_right _ (List.mem_append_right _ (List.mem_append_right _ (List.mem_append_right _ (List.mem_append_right _ (List.mem_append_left _ h)))))))))))))))
theorem mwsX0_text_11 : ∀ w ∈ wsX0_text_r12, w ∈ wsX0_text := fun w h => (List.mem_cons_of_mem _ (List.mem_append_left _ (List.mem_append_left _ (List.mem_append_left _ (List.mem_append_right _ (List.mem_append_right _ (List.mem_append_right _ (List.mem_append_right _ (List.mem_append_right _ (List.mem_append_right _ (List.mem_append_right _ (List.mem_append_right _ (List.mem_append_right _ (List.mem_append_right _ (List.mem_append_right _ h)))))))))))))))
theorem mwsX0_text_12 : ∀ w ∈ wsJ40, w ∈ wsX0_text := fun w h => (List.mem_cons_of_mem _ (List.mem_append_left _ (List.mem_append_left _ (List.mem_append_right _ h))))
theorem mwsX0_text_13 : ∀ w ∈ wsJ00, w ∈ wsX0_text := fun w h => (List.mem_cons_of_mem _ (List.mem_append_left _ (List.mem_append_right _ h)))
theorem mwsX0_text_14 : ∀ w ∈ wsX00, w ∈ wsX0_text := fun w h => (List.mem_cons_of_mem _ (List.mem_append_right _ h))
set_option maxRecDepth 20000 in
theorem ggX0_text_J4_init_da8c8 : GoodIn wsX0_text wsJ4_init_da8c8 := goodIn_sub (tk_mem 19 _ (fun w h => (mwsX0_text_0 _ (tkB_mem 5 19 h))) (List.forall_mem_cons.mpr ⟨(mwsX0_text_1 _ (List.mem_of_getElem? (i := 0) rfl)), (tk_mem 4 _ (fun w h => (mwsX0_text_12 _ (tkB_mem 0 4 h))) (fun _ h => absurd h List.not_mem_nil))⟩)) (by decide +kernel)
set_option maxRecDepth 20000 in
theorem gX0_text_J4_init_da8c8 : GoodIn wsX0_text (wsJ4_init_da8c8) := ggX0_text_J4_init_da8c8
set_option maxRecDepth 20000 in
theorem ggX0_text_J4_append_cf468 : GoodIn wsX0_text wsJ4_append_cf468 := goodIn_sub (tk_mem 5 _ (fun w h => (mwsX0_text_1 _ (tkB_mem 4 5 h))) (List.forall_mem_cons.mpr ⟨(mwsX0_text_0 _ (List.mem_of_getElem? (i := 8) rfl)), (List.forall_mem_cons.mpr ⟨(mwsX0_text_1 _ (List.mem_of_getElem? (i := 9) rfl)), (List.forall_mem_cons.mpr ⟨(mwsX0_text_1 _ (List.mem_of_getElem? (i := 10) rfl)), (List.forall_mem_cons.mpr ⟨(mwsX0_text_0 _ (List.mem_of_getElem? (i := 15) rfl)), (tk_mem 5 _ (fun w h => (mwsX0_text_1 _ (tkB_mem 11 5 h))) (List.forall_mem_cons.mpr ⟨(mwsX0_text_0 _ (List.mem_of_getElem? (i := 16) rfl)), (tk_mem 8 _ (fun w h => (mwsX0_text_1 _ (tkB_mem 16 8 h))) (tk_mem 20 _ (fun w h => (mwsX0_text_2 _ (tkB_mem 0 20 h))) (List.forall_mem_cons.mpr ⟨(mwsX0_text_0 _ (List.mem_of_getElem? (i := 14) rfl)), (tk_mem 4 _ (fun w h => (mwsX0_text_2 _ (tkB_mem 20 4 h))) (tk_mem 8 _ (fun w h => (mwsX0_text_3 _ (tkB_mem 0 8 h))) (List.forall_mem_cons.mpr ⟨(mwsX0_text_0 _ (List.mem_of_getElem? (i := 13) rfl)), (tk_mem 9 _ (fun w h => (mwsX0_text_3 _ (tkB_mem 8 9 h))) (tk_mem 7 _ (fun w h => (mwsX0_text_0 _ (tkB_mem 17 7 h))) (List.forall_mem_cons.mpr ⟨(mwsX0_text_1 _ (List.mem_of_getElem? (i := 0) rfl)), (tk_mem 7 _ (fun w h => (mwsX0_text_3 _ (tkB_mem 17 7 h))) (tk_mem 24 _ (fun w h => (mwsX0_text_4 _ (tkB_mem 0 24 h))) (tk_mem 8 _ (fun w h => (mwsX0_text_5 _ (tkB_mem 0 8 h))) (tk_mem 4 _ (fun w h => (mwsX0_text_12 _ (tkB_mem 0 4 h))) (fun _ h => absurd h List.not_mem_nil)))))⟩)))⟩)))⟩)))⟩))⟩)⟩)⟩)⟩)) (by decide +kernel)
set_option maxRecDepth 20000 in
theorem gX0_text_J4_append_cf468 : GoodIn wsX0_text (wsV RX0 126 RJ4 yJ4_append_cf468 wsJ4_append_cf468) := goodIn_app (goodIn_sub (List.forall_mem_cons.mpr ⟨(mwsX0_text_1 _ (List.mem_of_getElem? (i := 1) rfl)), (List.forall_mem_cons.mpr ⟨(mwsX0_text_1 _ (List.mem_of_getElem? (i := 2) rfl)), (List.forall_mem_cons.mpr ⟨(mwsX0_text_1 _ (List.mem_of_getElem? (i := 3) rfl)), (List.forall_mem_cons.mpr ⟨(mwsX0_text_0 _ (List.mem_of_getElem? (i := 2) rfl)), (fun _ h => absurd h List.not_mem_nil)⟩)⟩)⟩)⟩) (by decide +kernel)) ggX0_text_J4_append_cf468
set_option maxRecDepth 20000 in
theorem ggX0_text_J4_append_15ec4 : GoodIn wsX0_text wsJ4_append_15ec4 := goodIn_sub (List.forall_mem_cons.mpr ⟨(mwsX0_text_5 _ (List.mem_of_getElem? (i := 11) rfl)), (List.forall_mem_cons.mpr ⟨(mwsX0_text_5 _ (List.mem_of_getElem? (i := 12) rfl)), (List.forall_mem_cons.mpr ⟨(mwsX0_text_5 _ (List.mem_of_getElem? (i := 13) rfl)), (List.forall_mem_cons.mpr ⟨(mwsX0_text_1 _ (List.mem_of_getElem? (i := 7) rfl)), (List.forall_mem_cons.mpr ⟨(mwsX0_text_5 _ (List.mem_of_getElem? (i := 14) rfl)), (List.forall_mem_cons.mpr ⟨(mwsX0_text_0 _ (List.mem_of_getElem? (i := 8) rfl)), (List.forall_mem_cons.mpr ⟨(mwsX0_text_5 _ (List.mem_of_getElem? (i := 15) rfl)), (List.forall_mem_cons.mpr ⟨(mwsX0_text_1 _ (List.mem_of_getElem? (i := 10) rfl)), (tk_mem 5 _ (fun w h => (mwsX0_text_5 _ (tkB_mem 16 5 h))) (List.forall_mem_cons.mpr ⟨(mwsX0_text_0 _ (List.mem_of_getElem? (i := 15) rfl)), (tk_mem 5 _ (fun w h => (mwsX0_text_1 _ (tkB_mem 11 5 h))) (List.forall_mem_cons.mpr ⟨(mwsX0_text_0 _ (List.mem_of_getElem? (i := 16) rfl)), (tk_mem 8 _ (fun w h => (mwsX0_text_1 _ (tkB_mem 16 8 h))) (tk_mem 20 _ (fun w h => (mwsX0_text_2 _ (tkB_mem 0 20 h))) (List.forall_mem_cons.mpr ⟨(mwsX0_text_0 _ (List.mem_of_getElem? (i := 14) rfl)), (tk_mem 4 _ (fun w h => (mwsX0_text_2 _ (tkB_mem 20 4 h))) (tk_mem 8 _ (fun w h => (mwsX0_text_3 _ (tkB_mem 0 8 h))) (List.forall_mem_cons.mpr ⟨(mwsX0_text_0 _ (List.mem_of_getElem? (i := 13) rfl)), (List.forall_mem_cons.mpr ⟨(mwsX0_text_5 _ (List.mem_of_getElem? (i := 21) rfl)), (List.forall_mem_cons.mpr ⟨(mwsX0_text_5 _ (List.mem_of_getElem? (i := 22) rfl)), (List.forall_mem_cons.mpr ⟨(mwsX0_text_0 _ (List.mem_of_getElem? (i := 19) rfl)), (List.forall_mem_cons.mpr ⟨(mwsX0_text_5 _ (List.mem_of_getElem? (i := 23) rfl)), (List.forall_mem_cons.mpr ⟨(mwsX0_text_4 _ (List.mem_of_getElem? (i := 17) rfl)), (List.forall_mem_cons.mpr ⟨(mwsX0_text_6 _ (List.mem_of_getElem? (i := 0) rfl)), (List.forall_mem_cons.mpr ⟨(mwsX0_text_6 _ (List.mem_of_getElem? (i := 1) rfl)), (List.forall_mem_cons.mpr ⟨(mwsX0_text_6 _ (List.mem_of_getElem? (i := 2) rfl)), (List.forall_mem_cons.mpr ⟨(mwsX0_text_4 _ (List.mem_of_getElem? (i := 2) rfl)), (List.forall_mem_cons.mpr ⟨(mwsX0_text_4 _ (List.mem_of_getElem? (i := 3) rfl)), (List.forall_mem_cons.mpr ⟨(mwsX0_text_4 _ (List.mem_of_getElem? (i := 4) rfl)), (List.forall_mem_cons.mpr ⟨(mwsX0_text_6 _ (List.mem_of_getElem? (i := 3) rfl)), (List.forall_mem_cons.mpr ⟨(mwsX0_text_6 _ (List.mem_of_getElem? (i := 4) rfl)), (List.forall_mem_cons.mpr ⟨(mwsX0_text_4 _ (List.mem_of_getElem? (i := 7) rfl)), (List.forall_mem_cons.mpr ⟨(mwsX0_text_6 _ (List.mem_of_getElem? (i := 5) rfl)), (List.forall_mem_cons.mpr ⟨(mwsX0_text_4 _ (List.mem_of_getElem? (i := 9) rfl)), (List.forall_mem_cons.mpr ⟨(mwsX0_text_6 _ (List.mem_of_getElem? (i := 6) rfl)), (List.forall_mem_cons.mpr ⟨(mwsX0_text_6 _ (List.mem_of_getElem? (i := 7) rfl)), (List.forall_mem_cons.mpr ⟨(mwsX0_text_4 _ (List.mem_of_getElem? (i := 12) rfl)), (List.forall_mem_cons.mpr ⟨(mwsX0_text_6 _ (List.mem_of_getElem? (i := 8) rfl)), (List.forall_mem_cons.mpr ⟨(mwsX0_text_4 _ (List.mem_of_getElem? (i := 14) rfl)), (List.forall_mem_cons.mpr ⟨(mwsX0_text_4 _ (List.mem_of_getElem? (i := 15) rfl)), (List.forall_mem_cons.mpr ⟨(mwsX0_text_4 _ (List.mem_of_getElem? (i := 16) rfl)), (List.forall_mem_cons.mpr ⟨(mwsX0_text_4 _ (List.mem_of_getElem? (i := 18) rfl)), (List.forall_mem_cons.mpr ⟨(mwsX0_text_4 _ (List.mem_of_getElem? (i := 19) rfl)), (tk_mem 15 _ (fun w h => (mwsX0_text_6 _ (tkB_mem 9 15 h))) (tk_mem 7 _ (fun w h => (mwsX0_text_7 _ (tkB_mem 0 7 h))) (tk_mem 5 _ (fun w h => (mwsX0_text_3 _ (tkB_mem 12 5 h))) (List.forall_mem_cons.mpr ⟨(mwsX0_text_0 _ (List.mem_of_getElem? (i := 17) rfl)), (List.forall_mem_cons.mpr ⟨(mwsX0_text_0 _ (List.mem_of_getElem? (i := 18) rfl)), (tk_mem 4 _ (fun w h => (mwsX0_text_0 _ (tkB_mem 20 4 h))) (List.forall_mem_cons.mpr ⟨(mwsX0_text_1 _ (List.mem_of_getElem? (i := 0) rfl)), (List.forall_mem_cons.mpr ⟨(mwsX0_text_3 _ (List.mem_of_getElem? (i := 17) rfl)), (List.forall_mem_cons.mpr ⟨(mwsX0_text_3 _ (List.mem_of_getElem? (i := 18) rfl)), (List.forall_mem_cons.mpr ⟨(mwsX0_text_3 _ (List.mem_of_getElem? (i := 10) rfl)), (tk_mem 5 _ (fun w h => (mwsX0_text_3 _ (tkB_mem 19 5 h))) (List.forall_mem_cons.mpr ⟨(mwsX0_text_4 _ (List.mem_of_getElem? (i := 0) rfl)), (List.forall_mem_cons.mpr ⟨(mwsX0_text_4 _ (List.mem_of_getElem? (i := 1) rfl)), (List.forall_mem_cons.mpr ⟨(mwsX0_text_4 _ (List.mem_of_getElem? (i := 5) rfl)), (List.forall_mem_cons.mpr ⟨(mwsX0_text_4 _ (List.mem_of_getElem? (i := 6) rfl)), (List.forall_mem_cons.mpr ⟨(mwsX0_text_4 _ (List.mem_of_getElem? (i := 8) rfl)), (List.forall_mem_cons.mpr ⟨(mwsX0_text_4 _ (List.mem_of_getElem? (i := 10) rfl)), (List.forall_mem_cons.mpr ⟨(mwsX0_text_4 _ (List.mem_of_getElem? (i := 11) rfl)), (List.forall_mem_cons.mpr ⟨(mwsX0_text_4 _ (List.mem_of_getElem? (i := 13) rfl)), (tk_mem 6 _ (fun w h => (mwsX0_text_7 _ (tkB_mem 7 6 h))) (tk_mem 4 _ (fun w h => (mwsX0_text_12 _ (tkB_mem 0 4 h))) (tk_mem 4 _ (fun w h => (mwsX0_text_13 _ (tkB_mem 0 4 h))) (fun _ h => absurd h List.not_mem_nil))))⟩)⟩)⟩)⟩)⟩)⟩)⟩)⟩))⟩)⟩)⟩)⟩))⟩)⟩))))⟩)⟩)⟩)⟩)⟩)⟩)⟩)⟩)⟩)⟩)⟩)⟩)⟩)⟩)⟩)⟩)⟩)⟩)⟩)⟩)⟩)⟩)⟩)⟩)⟩)⟩)))⟩)))⟩))⟩))⟩)⟩)⟩)⟩)⟩)⟩)⟩)⟩) (by decide +kernel)
set_option maxRecDepth 20000 in
theorem gX0_text_J4_append_15ec4 : GoodIn wsX0_text (wsV RX0 132 RJ4 yJ4_append_15ec4 wsJ4_append_15ec4) := goodIn_app (goodIn_sub (List.forall_mem_cons.mpr ⟨(mwsX0_text_5 _ (List.mem_of_getElem? (i := 8) rfl)), (List.forall_mem_cons.mpr ⟨(mwsX0_text_5 _ (List.mem_of_getElem? (i := 9) rfl)), (List.forall_mem_cons.mpr ⟨(mwsX0_text_5 _ (List.mem_of_getElem? (i := 10) rfl)), (List.forall_mem_cons.mpr ⟨(mwsX0_text_0 _ (List.mem_of_getElem? (i := 2) rfl)), (fun _ h => absurd h List.not_mem_nil)⟩)⟩)⟩)⟩) (by decide +kernel)) ggX0_text_J4_append_15ec4
set_option maxRecDepth 20000 in
theorem ggX0_text_X0_keyAt : GoodIn wsX0_text wsX0_keyAt := goodIn_sub (tk_mem 5 _ (fun w h => (mwsX0_text_7 _ (tkB_mem 17 5 h))) (List.forall_mem_cons.mpr ⟨(mwsX0_text_7 _ (List.mem_of_getElem? (i := 16) rfl)), (List.forall_mem_cons.mpr ⟨(mwsX0_text_7 _ (List.mem_of_getElem? (i := 22) rfl)), (List.forall_mem_cons.mpr ⟨(mwsX0_text_7 _ (List.mem_of_getElem? (i := 23) rfl)), (tk_mem 7 _ (fun w h => (mwsX0_text_14 _ (tkB_mem 0 7 h))) (fun _ h => absurd h List.not_mem_nil))⟩)⟩)⟩)) (by decide +kernel)
set_option maxRecDepth 20000 in
theorem gX0_text_X0_keyAt : GoodIn wsX0_text (wsV RX0 51 RX0 yX0_keyAt wsX0_keyAt) := goodIn_app (goodIn_sub (tk_mem 4 _ (fun w h => (mwsX0_text_7 _ (tkB_mem 13 4 h))) (fun _ h => absurd h List.not_mem_nil)) (by decide +kernel)) ggX0_text_X0_keyAt
set_option maxRecDepth 20000 in
theorem ggX0_text_J4_append_bf812 : GoodIn wsX0_text wsJ4_append_bf812 := goodIn_sub (List.forall_mem_cons.mpr ⟨(mwsX0_text_8 _ (List.mem_of_getElem? (i := 3) rfl)), (List.forall_mem_cons.mpr ⟨(mwsX0_text_8 _ (List.mem_of_getElem? (i := 4) rfl)), (List.forall_mem_cons.mpr ⟨(mwsX0_text_8 _ (List.mem_of_getElem? (i := 5) rfl)), (List.forall_mem_cons.mpr ⟨(mwsX0_text_1 _ (List.mem_of_getElem? (i := 7) rfl)), (List.forall_mem_cons.mpr ⟨(mwsX0_text_8 _ (List.mem_of_getElem? (i := 6) rfl)), (List.forall_mem_cons.mpr ⟨(mwsX0_text_0 _ (List.mem_of_getElem? (i := 8) rfl)), (List.forall_mem_cons.mpr ⟨(mwsX0_text_8 _ (List.mem_of_getElem? (i := 7) rfl)), (List.forall_mem_cons.mpr ⟨(mwsX0_text_1 _ (List.mem_of_getElem? (i := 10) rfl)), (List.forall_mem_cons.mpr ⟨(mwsX0_text_0 _ (List.mem_of_getElem? (i := 15) rfl)), (tk_mem 4 _ (fun w h => (mwsX0_text_8 _ (tkB_mem 8 4 h))) (tk_mem 5 _ (fun w h => (mwsX0_text_1 _ (tkB_mem 11 5 h))) (List.forall_mem_cons.mpr ⟨(mwsX0_text_0 _ (List.mem_of_getElem? (i := 16) rfl)), (tk_mem 8 _ (fun w h => (mwsX0_text_1 _ (tkB_mem 16 8 h))) (tk_mem 20 _ (fun w h => (mwsX0_text_2 _ (tkB_mem 0 20 h))) (List.forall_mem_cons.mpr ⟨(mwsX0_text_0 _ (List.mem_of_getElem? (i := 14) rfl)), (tk_mem 4 _ (fun w h => (mwsX0_text_2 _ (tkB_mem 20 4 h))) (tk_mem 8 _ (fun w h => (mwsX0_text_3 _ (tkB_mem 0 8 h))) (List.forall_mem_cons.mpr ⟨(mwsX0_text_0 _ (List.mem_of_getElem? (i := 13) rfl)), (tk_mem 7 _ (fun w h => (mwsX0_text_8 _ (tkB_mem 12 7 h))) (List.forall_mem_cons.mpr ⟨(mwsX0_text_0 _ (List.mem_of_getElem? (i := 19) rfl)), (List.forall_mem_cons.mpr ⟨(mwsX0_text_8 _ (List.mem_of_getElem? (i := 19) rfl)), (List.forall_mem_cons.mpr ⟨(mwsX0_text_4 _ (List.mem_of_getElem? (i := 17) rfl)), (List.forall_mem_cons.mpr ⟨(mwsX0_text_6 _ (List.mem_of_getElem? (i := 0) rfl)), (List.forall_mem_cons.mpr ⟨(mwsX0_text_6 _ (List.mem_of_getElem? (i := 1) rfl)), (List.forall_mem_cons.mpr ⟨(mwsX0_text_6 _ (List.mem_of_getElem? (i := 2) rfl)), (List.forall_mem_cons.mpr ⟨(mwsX0_text_4 _ (List.mem_of_getElem? (i := 2) rfl)), (List.forall_mem_cons.mpr ⟨(mwsX0_text_4 _ (List.mem_of_getElem? (i := 3) rfl)), (List.forall_mem_cons.mpr ⟨(mwsX0_text_4 _ (List.mem_of_getElem? (i := 4) rfl)), (List.forall_mem_cons.mpr ⟨(mwsX0_text_6 _ (List.mem_of_getElem? (i := 3) rfl)), (List.forall_mem_cons.mpr ⟨(mwsX0_text_6 _ (List.mem_of_getElem? (i := 4) rfl)), (List.forall_mem_cons.mpr ⟨(mwsX0_text_4 _ (List.mem_of_getElem? (i := 7) rfl)), (List.forall_mem_cons.mpr ⟨(mwsX0_text_6 _ (List.mem_of_getElem? (i := 5) rfl)), (List.forall_mem_cons.mpr ⟨(mwsX0_text_4 _ (List.mem_of_getElem? (i := 9) rfl)), (List.forall_mem_cons.mpr ⟨(mwsX0_text_6 _ (List.mem_of_getElem? (i := 6) rfl)), (List.forall_mem_cons.mpr ⟨(mwsX0_text_6 _ (List.mem_of_getElem? (i := 7) rfl)), (List.forall_mem_cons.mpr ⟨(mwsX0_text_4 _ (List.mem_of_getElem? (i := 12) rfl)), (List.forall_mem_cons.mpr ⟨(mwsX0_text_6 _ (List.mem_of_getElem? (i := 8) rfl)), (tk_mem 4 _ (fun w h => (mwsX0_text_8 _ (tkB_mem 20 4 h))) (List.forall_mem_cons.mpr ⟨(mwsX0_text_9 _ (List.mem_of_getElem? (i := 0) rfl)), (List.forall_mem_cons.mpr ⟨(mwsX0_text_4 _ (List.mem_of_getElem? (i := 14) rfl)), (List.forall_mem_cons.mpr ⟨(mwsX0_text_4 _ (List.mem_of_getElem? (i := 15) rfl)), (List.forall_mem_cons.mpr ⟨(mwsX0_text_4 _ (List.mem_of_getElem? (i := 16) rfl)), (List.forall_mem_cons.mpr ⟨(mwsX0_text_4 _ (List.mem_of_getElem? (i := 18) rfl)), (List.forall_mem_cons.mpr ⟨(mwsX0_text_4 _ (List.mem_of_getElem? (i := 19) rfl)), (tk_mem 4 _ (fun w h => (mwsX0_text_12 _ (tkB_mem 0 4 h))) (fun _ h => absurd h List.not_mem_nil))⟩)⟩)⟩)⟩)⟩)⟩))⟩)⟩)⟩)⟩)⟩)⟩)⟩)⟩)⟩)⟩)⟩)⟩)⟩)⟩)⟩)⟩)⟩)⟩))⟩)))⟩)))⟩)))⟩)⟩)⟩)⟩)⟩)⟩)⟩)⟩)⟩) (by decide +kernel)
set_option maxRecDepth 20000 in
theorem gX0_text_J4_append_bf812 : GoodIn wsX0_text (wsV RX0 135 RJ4 yJ4_append_bf812 wsJ4_append_bf812) := goodIn_app (goodIn_sub (List.forall_mem_cons.mpr ⟨(mwsX0_text_8 _ (List.mem_of_getElem? (i := 0) rfl)), (List.forall_mem_cons.mpr ⟨(mwsX0_text_8 _ (List.mem_of_getElem? (i := 1) rfl)), (List.forall_mem_cons.mpr ⟨(mwsX0_text_8 _ (List.mem_of_getElem? (i := 2) rfl)), (List.forall_mem_cons.mpr ⟨(mwsX0_text_0 _ (List.mem_of_getElem? (i := 2) rfl)), (fun _ h => absurd h List.not_mem_nil)⟩)⟩)⟩)⟩) (by decide +kernel)) ggX0_text_J4_append_bf812
set_option maxRecDepth 20000 in
theorem ggX0_text_X0_valueAt : GoodIn wsX0_text wsX0_valueAt := goodIn_sub (List.forall_mem_cons.mpr ⟨(mwsX0_text_9 _ (List.mem_of_getElem? (i := 4) rfl)), (List.forall_mem_cons.mpr ⟨(mwsX0_text_9 _ (List.mem_of_getElem? (i := 5) rfl)), (List.forall_mem_cons.mpr ⟨(mwsX0_text_7 _ (List.mem_of_getElem? (i := 19) rfl)), (List.forall_mem_cons.mpr ⟨(mwsX0_text_7 _ (List.mem_of_getElem? (i := 20) rfl)), (List.forall_mem_cons.mpr ⟨(mwsX0_text_7 _ (List.mem_of_getElem? (i := 21) rfl)), (List.forall_mem_cons.mpr ⟨(mwsX0_text_7 _ (List.mem_of_getElem? (i := 16) rfl)), (List.forall_mem_cons.mpr ⟨(mwsX0_text_7 _ (List.mem_of_getElem? (i := 22) rfl)), (List.forall_mem_cons.mpr ⟨(mwsX0_text_7 _ (List.mem_of_getElem? (i := 23) rfl)), (tk_mem 7 _ (fun w h => (mwsX0_text_14 _ (tkB_mem 0 7 h))) (fun _ h => absurd h List.not_mem_nil))⟩)⟩)⟩)⟩)⟩)⟩)⟩)⟩) (by decide +kernel)
set_option maxRecDepth 20000 in
theorem gX0_text_X0_valueAt : GoodIn wsX0_text (wsV RX0 54 RX0 yX0_valueAt wsX0_valueAt) := goodIn_app (goodIn_sub (List.forall_mem_cons.mpr ⟨(mwsX0_text_9 _ (List.mem_of_getElem? (i := 1) rfl)), (List.forall_mem_cons.mpr ⟨(mwsX0_text_9 _ (List.mem_of_getElem? (i := 2) rfl)), (List.forall_mem_cons.mpr ⟨(mwsX0_text_9 _ (List.mem_of_getElem? (i := 3) rfl)), (List.forall_mem_cons.mpr ⟨(mwsX0_text_7 _ (List.mem_of_getElem? (i := 16) rfl)), (fun _ h => absurd h List.not_mem_nil)⟩)⟩)⟩)⟩) (by decide +kernel)) ggX0_text_X0_valueAt
set_option maxRecDepth 20000 in
theorem ggX0_text_J4_toString_0e30d : GoodIn wsX0_text wsJ4_toString_0e30d := goodIn_sub (List.forall_mem_cons.mpr ⟨(mwsX0_text_9 _ (List.mem_of_getElem? (i := 9) rfl)), (List.forall_mem_cons.mpr ⟨(mwsX0_text_9 _ (List.mem_of_getElem? (i := 10) rfl)), (List.forall_mem_cons.mpr ⟨(mwsX0_text_9 _ (List.mem_of_getElem? (i := 11) rfl)), (List.forall_mem_cons.mpr ⟨(mwsX0_text_4 _ (List.mem_of_getElem? (i := 7) rfl)), (tk_mem 7 _ (fun w h => (mwsX0_text_9 _ (tkB_mem 12 7 h))) (List.forall_mem_cons.mpr ⟨(mwsX0_text_0 _ (List.mem_of_getElem? (i := 11) rfl)), (List.forall_mem_cons.mpr ⟨(mwsX0_text_0 _ (List.mem_of_getElem? (i := 12) rfl)), (List.forall_mem_cons.mpr ⟨(mwsX0_text_6 _ (List.mem_of_getElem? (i := 19) rfl)), (List.forall_mem_cons.mpr ⟨(mwsX0_text_6 _ (List.mem_of_getElem? (i := 13) rfl)), (List.forall_mem_cons.mpr ⟨(mwsX0_text_6 _ (List.mem_of_getElem? (i := 18) rfl)), (tk_mem 5 _ (fun w h => (mwsX0_text_9 _ (tkB_mem 19 5 h))) (List.forall_mem_cons.mpr ⟨(mwsX0_text_0 _ (List.mem_of_getElem? (i := 8) rfl)), (List.forall_mem_cons.mpr ⟨(mwsX0_text_10 _ (List.mem_of_getElem? (i := 0) rfl)), (List.forall_mem_cons.mpr ⟨(mwsX0_text_0 _ (List.mem_of_getElem? (i := 15) rfl)), (tk_mem 5 _ (fun w h => (mwsX0_text_10 _ (tkB_mem 1 5 h))) (List.forall_mem_cons.mpr ⟨(mwsX0_text_0 _ (List.mem_of_getElem? (i := 2) rfl)), (List.forall_mem_cons.mpr ⟨(mwsX0_text_10 _ (List.mem_of_getElem? (i := 6) rfl)), (List.forall_mem_cons.mpr ⟨(mwsX0_text_10 _ (List.mem_of_getElem? (i := 7) rfl)), (List.forall_mem_cons.mpr ⟨(mwsX0_text_1 _ (List.mem_of_getElem? (i := 7) rfl)), (List.forall_mem_cons.mpr ⟨(mwsX0_text_10 _ (List.mem_of_getElem? (i := 8) rfl)), (List.forall_mem_cons.mpr ⟨(mwsX0_text_10 _ (List.mem_of_getElem? (i := 9) rfl)), (List.forall_mem_cons.mpr ⟨(mwsX0_text_1 _ (List.mem_of_getElem? (i := 10) rfl)), (List.forall_mem_cons.mpr ⟨(mwsX0_text_10 _ (List.mem_of_getElem? (i := 10) rfl)), (tk_mem 4 _ (fun w h => (mwsX0_text_3 _ (tkB_mem 4 4 h))) (List.forall_mem_cons.mpr ⟨(mwsX0_text_0 _ (List.mem_of_getElem? (i := 13) rfl)), (List.forall_mem_cons.mpr ⟨(mwsX0_text_0 _ (List.mem_of_getElem? (i := 16) rfl)), (List.forall_mem_cons.mpr ⟨(mwsX0_text_10 _ (List.mem_of_getElem? (i := 11) rfl)), (List.forall_mem_cons.mpr ⟨(mwsX0_text_10 _ (List.mem_of_getElem? (i := 12) rfl)), (List.forall_mem_cons.mpr ⟨(mwsX0_text_2 _ (List.mem_of_getElem? (i := 12) rfl)), (List.forall_mem_cons.mpr ⟨(mwsX0_text_10 _ (List.mem_of_getElem? (i := 13) rfl)), (tk_mem 6 _ (fun w h => (mwsX0_text_2 _ (tkB_mem 14 6 h))) (List.forall_mem_cons.mpr ⟨(mwsX0_text_10 _ (List.mem_of_getElem? (i := 14) rfl)), (List.forall_mem_cons.mpr ⟨(mwsX0_text_10 _ (List.mem_of_getElem? (i := 15) rfl)), (List.forall_mem_cons.mpr ⟨(mwsX0_text_10 _ (List.mem_of_getElem? (i := 16) rfl)), (List.forall_mem_cons.mpr ⟨(mwsX0_text_0 _ (List.mem_of_getElem? (i := 14) rfl)), (List.forall_mem_cons.mpr ⟨(mwsX0_text_2 _ (List.mem_of_getElem? (i := 20) rfl)), (List.forall_mem_cons.mpr ⟨(mwsX0_text_2 _ (List.mem_of_getElem? (i := 21) rfl)), (List.forall_mem_cons.mpr ⟨(mwsX0_text_2 _ (List.mem_of_getElem? (i := 4) rfl)), (List.forall_mem_cons.mpr ⟨(mwsX0_text_2 _ (List.mem_of_getElem? (i := 22) rfl)), (List.forall_mem_cons.mpr ⟨(mwsX0_text_2 _ (List.mem_of_getElem? (i := 23) rfl)), (List.forall_mem_cons.mpr ⟨(mwsX0_text_3 _ (List.mem_of_getElem? (i := 0) rfl)), (List.forall_mem_cons.mpr ⟨(mwsX0_text_3 _ (List.mem_of_getElem? (i := 1) rfl)), (List.forall_mem_cons.mpr ⟨(mwsX0_text_3 _ (List.mem_of_getElem? (i := 2) rfl)), (tk_mem 4 _ (fun w h => (mwsX0_text_10 _ (tkB_mem 17 4 h))) (List.forall_mem_cons.mpr ⟨(mwsX0_text_0 _ (List.mem_of_getElem? (i := 1) rfl)), (List.forall_mem_cons.mpr ⟨(mwsX0_text_10 _ (List.mem_of_getElem? (i := 21) rfl)), (List.forall_mem_cons.mpr ⟨(mwsX0_text_10 _ (List.mem_of_getElem? (i := 22) rfl)), (List.forall_mem_cons.mpr ⟨(mwsX0_text_0 _ (List.mem_of_getElem? (i := 19) rfl)), (List.forall_mem_cons.mpr ⟨(mwsX0_text_10 _ (List.mem_of_getElem? (i := 23) rfl)), (List.forall_mem_cons.mpr ⟨(mwsX0_text_11 _ (List.mem_of_getElem? (i := 0) rfl)), (List.forall_mem_cons.mpr ⟨(mwsX0_text_11 _ (List.mem_of_getElem? (i := 1) rfl)), (List.forall_mem_cons.mpr ⟨(mwsX0_text_11 _ (List.mem_of_getElem? (i := 2) rfl)), (List.forall_mem_cons.mpr ⟨(mwsX0_text_3 _ (List.mem_of_getElem? (i := 23) rfl)), (tk_mem 7 _ (fun w h => (mwsX0_text_4 _ (tkB_mem 0 7 h))) (tk_mem 6 _ (fun w h => (mwsX0_text_4 _ (tkB_mem 8 6 h))) (List.forall_mem_cons.mpr ⟨(mwsX0_text_11 _ (List.mem_of_getElem? (i := 3) rfl)), (List.forall_mem_cons.mpr ⟨(mwsX0_text_11 _ (List.mem_of_getElem? (i := 4) rfl)), (List.forall_mem_cons.mpr ⟨(mwsX0_text_11 _ (List.mem_of_getElem? (i := 5) rfl)), (List.forall_mem_cons.mpr ⟨(mwsX0_text_4 _ (List.mem_of_getElem? (i := 17) rfl)), (List.forall_mem_cons.mpr ⟨(mwsX0_text_4 _ (List.mem_of_getElem? (i := 18) rfl)), (List.forall_mem_cons.mpr ⟨(mwsX0_text_4 _ (List.mem_of_getElem? (i := 19) rfl)), (List.forall_mem_cons.mpr ⟨(mwsX0_text_0 _ (List.mem_of_getElem? (i := 21) rfl)), (List.forall_mem_cons.mpr ⟨(mwsX0_text_0 _ (List.mem_of_getElem? (i := 22) rfl)), (List.forall_mem_cons.mpr ⟨(mwsX0_text_0 _ (List.mem_of_getElem? (i := 23) rfl)), (List.forall_mem_cons.mpr ⟨(mwsX0_text_1 _ (List.mem_of_getElem? (i := 0) rfl)), (tk_mem 4 _ (fun w h => (mwsX0_text_11 _ (tkB_mem 6 4 h))) (tk_mem 4 _ (fun w h => (mwsX0_text_13 _ (tkB_mem 0 4 h))) (tk_mem 4 _ (fun w h => (mwsX0_text_12 _ (tkB_mem 0 4 h))) (fun _ h => absurd h List.not_mem_nil))))⟩)⟩)⟩)⟩)⟩)⟩)⟩)⟩)⟩)⟩)))⟩)⟩)⟩)⟩)⟩)⟩)⟩)⟩)⟩))⟩)⟩)⟩)⟩)⟩)⟩)⟩)⟩)⟩)⟩)⟩)⟩))⟩)⟩)⟩)⟩)⟩)⟩))⟩)⟩)⟩)⟩)⟩)⟩)⟩)⟩))⟩)⟩)⟩))⟩)⟩)⟩)⟩)⟩))⟩)⟩)⟩)⟩) (by decide +kernel)
set_option maxRecDepth 20000 in
theorem gX0_text_J4_toString_0e30d : GoodIn wsX0_text (wsV RX0 138 RJ4 yJ4_toString_0e30d wsJ4_toString_0e30d) := goodIn_app (goodIn_sub (List.forall_mem_cons.mpr ⟨(mwsX0_text_9 _ (List.mem_of_getElem? (i := 6) rfl)), (List.forall_mem_cons.mpr ⟨(mwsX0_text_9 _ (List.mem_of_getElem? (i := 7) rfl)), (List.forall_mem_cons.mpr ⟨(mwsX0_text_9 _ (List.mem_of_getElem? (i := 8) rfl)), (List.forall_mem_cons.mpr ⟨(mwsX0_text_0 _ (List.mem_of_getElem? (i := 2) rfl)), (fun _ h => absurd h List.not_mem_nil)⟩)⟩)⟩)⟩) (by decide +kernel)) ggX0_text_J4_toString_0e30d
theorem adX0_text_0 : fd_rows (cX0_text.data.toList.drop 0) 0 [(0, some (.new 123), 3), (3, some (.dup), 1), (4, some (.invokespecial 125), 3), (7, some (.astore_n 3), 1), (8, some (.aload_n 3), 1), (9, some (.bipush 123), 2), (11, some (.invokevirtual 126), 3), (14, some (.pop), 1), (15, some (.iload_n 1), 1), (16, some (.istore 4), 2), (18, some (.iload 4), 2), (20, some (.iload_n 2), 1), (21, some (.if_icmp .ge 47), 3), (24, some (.iload 4), 2), (26, some (.iload_n 1), 1), (27, some (.if_icmp .le 10), 3)] = true := by decide +kernel
theorem adX0_text_1 : fd_rows (cX0_text.data.toList.drop 30) 30 [(30, some (.aload_n 3), 1), (31, some (.ldc 130), 2), (33, some (.invokevirtual 132), 3), (36, some (.pop), 1), (37, some (.aload_n 3), 1), (38, some (.aload_n 0), 1), (39, some (.iload 4), 2), (41, some (.invokevirtual 51), 3), (44, some (.invokevirtual 135), 3), (47, some (.bipush 61), 2), (49, some (.invokevirtual 126), 3), (52, some (.aload_n 0), 1), (53, some (.iload 4), 2), (55, some (.invokevirtual 54), 3), (58, some (.invokevirtual 135), 3), (61, some (.pop), 1)] = true := by decide +kernel
theorem adX0_text_2 : fd_rows (cX0_text.data.toList.drop 62) 62 [(62, some (.iinc 4 1), 3), (65, some (.goto (-47)), 3), (68, some (.aload_n 3), 1), (69, some (.bipush 125), 2), (71, some (.invokevirtual 126), 3), (74, some (.pop), 1), (75, some (.aload_n 3), 1), (76, some (.invokevirtual 138), 3), (79, some (.areturn), 1)] = true := by decide +kernel
theorem dX0_text_0 : decode cX0_text 0 = .ok (.new 123, 3) := fd_get adX0_text_0 (k := 0) rfl
theorem dX0_text_3 : decode cX0_text 3 = .ok (.dup, 1) := fd_get adX0_text_0 (k := 1) rfl
theorem dX0_text_4 : decode cX0_text 4 = .ok (.invokespecial 125, 3) := fd_get adX0_text_0 (k := 2) rfl
theorem dX0_text_7 : decode cX0_text 7 = .ok (.astore_n 3, 1) := fd_get adX0_text_0 (k := 3) rfl
theorem dX0_text_8 : decode cX0_text 8 = .ok (.aload_n 3, 1) := fd_get adX0_text_0 (k := 4) rfl
theorem dX0_text_9 : decode cX0_text 9 = .ok (.bipush 123, 2) := fd_get adX0_text_0 (k := 5) rfl
theorem dX0_text_11 : decode cX0_text 11 = .ok (.invokevirtual 126, 3) := fd_get adX0_text_0 (k := 6) rfl
theorem dX0_text_14 : decode cX0_text 14 = .ok (.pop, 1) := fd_get adX0_text_0 (k := 7) rfl
theorem dX0_text_15 : decode cX0_text 15 = .ok (.iload_n 1, 1) := fd_get adX0_text_0 (k := 8) rfl
theorem dX0_text_16 : decode cX0_text 16 = .ok (.istore 4, 2) := fd_get adX0_text_0 (k := 9) rfl
theorem dX0_text_18 : decode cX0_text 18 = .ok (.iload 4, 2) := fd_get adX0_text_0 (k := 10) rfl
theorem dX0_text_20 : decode cX0_text 20 = .ok (.iload_n 2, 1) := fd_get adX0_text_0 (k := 11) rfl
theorem dX0_text_21 : decode cX0_text 21 = .ok (.if_icmp .ge 47, 3) := fd_get adX0_text_0 (k := 12) rfl
theorem dX0_text_24 : decode cX0_text 24 = .ok (.iload 4, 2) := fd_get adX0_text_0 (k := 13) rfl
theorem dX0_text_26 : decode cX0_text 26 = .ok (.iload_n 1, 1) := fd_get adX0_text_0 (k := 14) rfl
theorem dX0_text_27 : decode cX0_text 27 = .ok (.if_icmp .le 10, 3) := fd_get adX0_text_0 (k := 15) rfl
theorem dX0_text_30 : decode cX0_text 30 = .ok (.aload_n 3, 1) := fd_get adX0_text_1 (k := 0) rfl
theorem dX0_text_31 : decode cX0_text 31 = .ok (.ldc 130, 2) := fd_get adX0_text_1 (k := 1) rfl
theorem dX0_text_33 : decode cX0_text 33 = .ok (.invokevirtual 132, 3) := fd_get adX0_text_1 (k := 2) rfl
theorem dX0_text_36 : decode cX0_text 36 = .ok (.pop, 1) := fd_get adX0_text_1 (k := 3) rfl
theorem dX0_text_37 : decode cX0_text 37 = .ok (.aload_n 3, 1) := fd_get adX0_text_1 (k := 4) rfl
theorem dX0_text_38 : decode cX0_text 38 = .ok (.aload_n 0, 1) := fd_get adX0_text_1 (k := 5) rfl
theorem dX0_text_39 : decode cX0_text 39 = .ok (.iload 4, 2) := fd_get adX0_text_1 (k := 6) rfl
theorem dX0_text_41 : decode cX0_text 41 = .ok (.invokevirtual 51, 3) := fd_get adX0_text_1 (k := 7) rfl
theorem dX0_text_44 : decode cX0_text 44 = .ok (.invokevirtual 135, 3) := fd_get adX0_text_1 (k := 8) rfl
theorem dX0_text_47 : decode cX0_text 47 = .ok (.bipush 61, 2) := fd_get adX0_text_1 (k := 9) rfl
theorem dX0_text_49 : decode cX0_text 49 = .ok (.invokevirtual 126, 3) := fd_get adX0_text_1 (k := 10) rfl
theorem dX0_text_52 : decode cX0_text 52 = .ok (.aload_n 0, 1) := fd_get adX0_text_1 (k := 11) rfl
theorem dX0_text_53 : decode cX0_text 53 = .ok (.iload 4, 2) := fd_get adX0_text_1 (k := 12) rfl
theorem dX0_text_55 : decode cX0_text 55 = .ok (.invokevirtual 54, 3) := fd_get adX0_text_1 (k := 13) rfl
theorem dX0_text_58 : decode cX0_text 58 = .ok (.invokevirtual 135, 3) := fd_get adX0_text_1 (k := 14) rfl
theorem dX0_text_61 : decode cX0_text 61 = .ok (.pop, 1) := fd_get adX0_text_1 (k := 15) rfl
theorem dX0_text_62 : decode cX0_text 62 = .ok (.iinc 4 1, 3) := fd_get adX0_text_2 (k := 0) rfl
theorem dX0_text_65 : decode cX0_text 65 = .ok (.goto (-47), 3) := fd_get adX0_text_2 (k := 1) rfl
theorem dX0_text_68 : decode cX0_text 68 = .ok (.aload_n 3, 1) := fd_get adX0_text_2 (k := 2) rfl
theorem dX0_text_69 : decode cX0_text 69 = .ok (.bipush 125, 2) := fd_get adX0_text_2 (k := 3) rfl
theorem dX0_text_71 : decode cX0_text 71 = .ok (.invokevirtual 126, 3) := fd_get adX0_text_2 (k := 4) rfl
theorem dX0_text_74 : decode cX0_text 74 = .ok (.pop, 1) := fd_get adX0_text_2 (k := 5) rfl
theorem dX0_text_75 : decode cX0_text 75 = .ok (.aload_n 3, 1) := fd_get adX0_text_2 (k := 6) rfl
theorem dX0_text_76 : decode cX0_text 76 = .ok (.invokevirtual 138, 3) := fd_get adX0_text_2 (k := 7) rfl
theorem dX0_text_79 : decode cX0_text 79 = .ok (.areturn, 1) := fd_get adX0_text_2 (k := 8) rfl
theorem mwsX0_textLength_0 : ∀ w ∈ wsX00, w ∈ wsX0_textLength := fun w h => (List.mem_cons_of_mem _ (List.mem_append_right _ h))
set_option maxRecDepth 20000 in
theorem ggX0_textLength_X0_keyAt : GoodIn wsX0_textLength wsX0_keyAt := goodIn_sub (tk_mem 5 _ (fun w h => (List.mem_cons_of_mem _ (List.mem_append_left _ (tkB_mem 4 5 h)))) (List.forall_mem_cons.mpr ⟨(List.mem_cons_of_mem _ (List.mem_append_left _ (List.mem_of_getElem? (i := 3) rfl))), (List.forall_mem_cons.mpr ⟨(List.mem_cons_of_mem _ (List.mem_append_left _ (List.mem_of_getElem? (i := 9) rfl))), (List.forall_mem_cons.mpr ⟨(List.mem_cons_of_mem _ (List.mem_append_left _ (List.mem_of_getElem? (i := 10) rfl))), (tk_mem 7 _ (fun w h => (mwsX0_textLength_0 _ (tkB_mem 0 7 h))) (fun _ h => absurd h List.not_mem_nil))⟩)⟩)⟩)) (by decide +kernel)
set_option maxRecDepth 20000 in
theorem gX0_textLength_X0_keyAt : GoodIn wsX0_textLength (wsV RX0 51 RX0 yX0_keyAt wsX0_keyAt) := goodIn_app (goodIn_sub (tk_mem 4 _ (fun w h => (List.mem_cons_of_mem _ (List.mem_append_left _ (tkB_mem 0 4 h)))) (fun _ h => absurd h List.not_mem_nil)) (by decide +kernel)) ggX0_textLength_X0_keyAt
set_option maxRecDepth 20000 in
theorem ggX0_textLength_X0_signs : GoodIn wsX0_textLength wsX0_signs := goodIn_sub (tk_mem 5 _ (fun w h => (List.mem_cons_of_mem _ (List.mem_append_left _ (tkB_mem 13 5 h)))) (fun _ h => absurd h List.not_mem_nil)) (by decide +kernel)
set_option maxRecDepth 20000 in
theorem gX0_textLength_X0_signs : GoodIn wsX0_textLength (va_wsS RX0 142 yX0_signs wsX0_signs) := goodIn_app (goodIn_sub (List.forall_mem_cons.mpr ⟨(List.mem_cons_of_mem _ (List.mem_append_left _ (List.mem_of_getElem? (i := 11) rfl))), (List.forall_mem_cons.mpr ⟨(List.mem_cons_of_mem _ (List.mem_append_left _ (List.mem_of_getElem? (i := 12) rfl))), (List.forall_mem_cons.mpr ⟨(List.mem_cons_of_mem _ (List.mem_append_left _ (List.mem_of_getElem? (i := 3) rfl))), (fun _ h => absurd h List.not_mem_nil)⟩)⟩)⟩) (by decide +kernel)) ggX0_textLength_X0_signs
set_option maxRecDepth 20000 in
theorem ggX0_textLength_X0_valueAt : GoodIn wsX0_textLength wsX0_valueAt := goodIn_sub (List.forall_mem_cons.mpr ⟨(List.mem_cons_of_mem _ (List.mem_append_left _ (List.mem_of_getElem? (i := 21) rfl))), (List.forall_mem_cons.mpr ⟨(List.mem_cons_of_mem _ (List.mem_append_left _ (List.mem_of_getElem? (i := 22) rfl))), (List.forall_mem_cons.mpr ⟨(List.mem_cons_of_mem _ (List.mem_append_left _ (List.mem_of_getElem? (i := 6) rfl))), (List.forall_mem_cons.mpr ⟨(List.mem_cons_of_mem _ (List.mem_append_left _ (List.mem_of_getElem? (i := 7) rfl))), (List.forall_mem_cons.mpr ⟨(List.mem_cons_of_mem _ (List.mem_append_left _ (List.mem_of_getElem? (i := 8) rfl))), (List.forall_mem_cons.mpr ⟨(List.mem_cons_of_mem _ (List.mem_append_left _ (List.mem_of_getElem? (i := 3) rfl))), (List.forall_mem_cons.mpr ⟨(List.mem_cons_of_mem _ (List.mem_append_left _ (List.mem_of_getElem? (i := 9) rfl))), (List.forall_mem_cons.mpr ⟨(List.mem_cons_of_mem _ (List.mem_append_left _ (List.mem_of_getElem? (i := 10) rfl))), (tk_mem 7 _ (fun w h => (mwsX0_textLength_0 _ (tkB_mem 0 7 h))) (fun _ h => absurd h List.not_mem_nil))⟩)⟩)⟩)⟩)⟩)⟩)⟩)⟩) (by decide +kernel)
set_option maxRecDepth 20000 in
theorem gX0_textLength_X0_valueAt : GoodIn wsX0_textLength (wsV RX0 54 RX0 yX0_valueAt wsX0_valueAt) := goodIn_app (goodIn_sub (List.forall_mem_cons.mpr ⟨(List.mem_cons_of_mem _ (List.mem_append_left _ (List.mem_of_getElem? (i := 18) rfl))), (List.forall_mem_cons.mpr ⟨(List.mem_cons_of_mem _ (List.mem_append_left _ (List.mem_of_getElem? (i := 19) rfl))), (List.forall_mem_cons.mpr ⟨(List.mem_cons_of_mem _ (List.mem_append_left _ (List.mem_of_getElem? (i := 20) rfl))), (List.forall_mem_cons.mpr ⟨(List.mem_cons_of_mem _ (List.mem_append_left _ (List.mem_of_getElem? (i := 3) rfl))), (fun _ h => absurd h List.not_mem_nil)⟩)⟩)⟩)⟩) (by decide +kernel)) ggX0_textLength_X0_valueAt
theorem adX0_textLength_0 : fd_rows (cX0_textLength.data.toList.drop 0) 0 [(0, some (.iconst 2), 1), (1, some (.istore_n 3), 1), (2, some (.iload_n 1), 1), (3, some (.istore 4), 2), (5, some (.iload 4), 2), (7, some (.iload_n 2), 1), (8, some (.if_icmp .ge 47), 3), (11, some (.iload_n 3), 1), (12, some (.iload 4), 2), (14, some (.iload_n 1), 1), (15, some (.if_icmp .le 7), 3), (18, some (.iconst 2), 1), (19, some (.goto 4), 3), (22, some (.iconst 0), 1), (23, some (.iadd), 1), (24, some (.istore_n 3), 1)] = true := by decide +kernel
theorem adX0_textLength_1 : fd_rows (cX0_textLength.data.toList.drop 25) 25 [(25, some (.iload_n 3), 1), (26, some (.aload_n 0), 1), (27, some (.iload 4), 2), (29, some (.invokevirtual 51), 3), (32, some (.invokestatic 142), 3), (35, some (.iconst 1), 1), (36, some (.iadd), 1), (37, some (.aload_n 0), 1), (38, some (.iload 4), 2), (40, some (.invokevirtual 54), 3), (43, some (.invokestatic 142), 3), (46, some (.iadd), 1), (47, some (.iadd), 1), (48, some (.istore_n 3), 1), (49, some (.iinc 4 1), 3), (52, some (.goto (-47)), 3)] = true := by decide +kernel
theorem adX0_textLength_2 : fd_rows (cX0_textLength.data.toList.drop 55) 55 [(55, some (.iload_n 3), 1), (56, some (.ireturn), 1)] = true := by decide +kernel
theorem dX0_textLength_0 : decode cX0_textLength 0 = .ok (.iconst 2, 1) := fd_get adX0_textLength_0 (k := 0) rfl
theorem dX0_textLength_1 : decode cX0_textLength 1 = .ok (.istore_n 3, 1) := fd_get adX0_textLength_0 (k := 1) rfl
theorem dX0_textLength_2 : decode cX0_textLength 2 = .ok (.iload_n 1, 1) := fd_get adX0_textLength_0 (k := 2) rfl
theorem dX0_textLength_3 : decode cX0_textLength 3 = .ok (.istore 4, 2) := fd_get adX0_textLength_0 (k := 3) rfl
theorem dX0_textLength_5 : decode cX0_textLength 5 = .ok (.iload 4, 2) := fd_get adX0_textLength_0 (k := 4) rfl
theorem dX0_textLength_7 : decode cX0_textLength 7 = .ok (.iload_n 2, 1) := fd_get adX0_textLength_0 (k := 5) rfl
theorem dX0_textLength_8 : decode cX0_textLength 8 = .ok (.if_icmp .ge 47, 3) := fd_get adX0_textLength_0 (k := 6) rfl
theorem dX0_textLength_11 : decode cX0_textLength 11 = .ok (.iload_n 3, 1) := fd_get adX0_textLength_0 (k := 7) rfl
theorem dX0_textLength_12 : decode cX0_textLength 12 = .ok (.iload 4, 2) := fd_get adX0_textLength_0 (k := 8) rfl
theorem dX0_textLength_14 : decode cX0_textLength 14 = .ok (.iload_n 1, 1) := fd_get adX0_textLength_0 (k := 9) rfl
theorem dX0_textLength_15 : decode cX0_textLength 15 = .ok (.if_icmp .le 7, 3) := fd_get adX0_textLength_0 (k := 10) rfl
theorem dX0_textLength_18 : decode cX0_textLength 18 = .ok (.iconst 2, 1) := fd_get adX0_textLength_0 (k := 11) rfl
theorem dX0_textLength_19 : decode cX0_textLength 19 = .ok (.goto 4, 3) := fd_get adX0_textLength_0 (k := 12) rfl
theorem dX0_textLength_22 : decode cX0_textLength 22 = .ok (.iconst 0, 1) := fd_get adX0_textLength_0 (k := 13) rfl
theorem dX0_textLength_23 : decode cX0_textLength 23 = .ok (.iadd, 1) := fd_get adX0_textLength_0 (k := 14) rfl
theorem dX0_textLength_24 : decode cX0_textLength 24 = .ok (.istore_n 3, 1) := fd_get adX0_textLength_0 (k := 15) rfl
theorem dX0_textLength_25 : decode cX0_textLength 25 = .ok (.iload_n 3, 1) := fd_get adX0_textLength_1 (k := 0) rfl
theorem dX0_textLength_26 : decode cX0_textLength 26 = .ok (.aload_n 0, 1) := fd_get adX0_textLength_1 (k := 1) rfl
theorem dX0_textLength_27 : decode cX0_textLength 27 = .ok (.iload 4, 2) := fd_get adX0_textLength_1 (k := 2) rfl
theorem dX0_textLength_29 : decode cX0_textLength 29 = .ok (.invokevirtual 51, 3) := fd_get adX0_textLength_1 (k := 3) rfl
theorem dX0_textLength_32 : decode cX0_textLength 32 = .ok (.invokestatic 142, 3) := fd_get adX0_textLength_1 (k := 4) rfl
theorem dX0_textLength_35 : decode cX0_textLength 35 = .ok (.iconst 1, 1) := fd_get adX0_textLength_1 (k := 5) rfl
theorem dX0_textLength_36 : decode cX0_textLength 36 = .ok (.iadd, 1) := fd_get adX0_textLength_1 (k := 6) rfl
theorem dX0_textLength_37 : decode cX0_textLength 37 = .ok (.aload_n 0, 1) := fd_get adX0_textLength_1 (k := 7) rfl
theorem dX0_textLength_38 : decode cX0_textLength 38 = .ok (.iload 4, 2) := fd_get adX0_textLength_1 (k := 8) rfl
theorem dX0_textLength_40 : decode cX0_textLength 40 = .ok (.invokevirtual 54, 3) := fd_get adX0_textLength_1 (k := 9) rfl
theorem dX0_textLength_43 : decode cX0_textLength 43 = .ok (.invokestatic 142, 3) := fd_get adX0_textLength_1 (k := 10) rfl
theorem dX0_textLength_46 : decode cX0_textLength 46 = .ok (.iadd, 1) := fd_get adX0_textLength_1 (k := 11) rfl
theorem dX0_textLength_47 : decode cX0_textLength 47 = .ok (.iadd, 1) := fd_get adX0_textLength_1 (k := 12) rfl
theorem dX0_textLength_48 : decode cX0_textLength 48 = .ok (.istore_n 3, 1) := fd_get adX0_textLength_1 (k := 13) rfl
theorem dX0_textLength_49 : decode cX0_textLength 49 = .ok (.iinc 4 1, 3) := fd_get adX0_textLength_1 (k := 14) rfl
theorem dX0_textLength_52 : decode cX0_textLength 52 = .ok (.goto (-47), 3) := fd_get adX0_textLength_1 (k := 15) rfl
theorem dX0_textLength_55 : decode cX0_textLength 55 = .ok (.iload_n 3, 1) := fd_get adX0_textLength_2 (k := 0) rfl
theorem dX0_textLength_56 : decode cX0_textLength 56 = .ok (.ireturn, 1) := fd_get adX0_textLength_2 (k := 1) rfl
theorem adX0_signs_0 : fd_rows (cX0_signs.data.toList.drop 0) 0 [(0, some (.iload_n 0), 1), (1, some (.invokestatic 145), 3), (4, some (.istore_n 1), 1), (5, some (.iload_n 1), 1), (6, some (.bipush 10), 2), (8, some (.if_icmp .ge 7), 3), (11, some (.iconst 1), 1), (12, some (.goto 25), 3), (15, some (.iload_n 1), 1), (16, some (.bipush 100), 2), (18, some (.if_icmp .ge 7), 3), (21, some (.iconst 2), 1), (22, some (.goto 15), 3), (25, some (.iload_n 1), 1), (26, some (.sipush 1000), 3), (29, some (.if_icmp .ge 7), 3)] = true := by decide +kernel
theorem adX0_signs_1 : fd_rows (cX0_signs.data.toList.drop 32) 32 [(32, some (.iconst 3), 1), (33, some (.goto 4), 3), (36, some (.iconst 4), 1), (37, some (.istore_n 2), 1), (38, some (.iload_n 0), 1), (39, some (.ifCond .ge 9), 3), (42, some (.iload_n 2), 1), (43, some (.iconst 1), 1), (44, some (.iadd), 1), (45, some (.goto 4), 3), (48, some (.iload_n 2), 1), (49, some (.ireturn), 1)] = true := by decide +kernel
theorem dX0_signs_0 : decode cX0_signs 0 = .ok (.iload_n 0, 1) := fd_get adX0_signs_0 (k := 0) rfl
theorem dX0_signs_1 : decode cX0_signs 1 = .ok (.invokestatic 145, 3) := fd_get adX0_signs_0 (k := 1) rfl
theorem dX0_signs_4 : decode cX0_signs 4 = .ok (.istore_n 1, 1) := fd_get adX0_signs_0 (k := 2) rfl
theorem dX0_signs_5 : decode cX0_signs 5 = .ok (.iload_n 1, 1) := fd_get adX0_signs_0 (k := 3) rfl
theorem dX0_signs_6 : decode cX0_signs 6 = .ok (.bipush 10, 2) := fd_get adX0_signs_0 (k := 4) rfl
theorem dX0_signs_8 : decode cX0_signs 8 = .ok (.if_icmp .ge 7, 3) := fd_get adX0_signs_0 (k := 5) rfl
theorem dX0_signs_11 : decode cX0_signs 11 = .ok (.iconst 1, 1) := fd_get adX0_signs_0 (k := 6) rfl
theorem dX0_signs_12 : decode cX0_signs 12 = .ok (.goto 25, 3) := fd_get adX0_signs_0 (k := 7) rfl
theorem dX0_signs_15 : decode cX0_signs 15 = .ok (.iload_n 1, 1) := fd_get adX0_signs_0 (k := 8) rfl
theorem dX0_signs_16 : decode cX0_signs 16 = .ok (.bipush 100, 2) := fd_get adX0_signs_0 (k := 9) rfl
theorem dX0_signs_18 : decode cX0_signs 18 = .ok (.if_icmp .ge 7, 3) := fd_get adX0_signs_0 (k := 10) rfl
theorem dX0_signs_21 : decode cX0_signs 21 = .ok (.iconst 2, 1) := fd_get adX0_signs_0 (k := 11) rfl
theorem dX0_signs_22 : decode cX0_signs 22 = .ok (.goto 15, 3) := fd_get adX0_signs_0 (k := 12) rfl
theorem dX0_signs_25 : decode cX0_signs 25 = .ok (.iload_n 1, 1) := fd_get adX0_signs_0 (k := 13) rfl
theorem dX0_signs_26 : decode cX0_signs 26 = .ok (.sipush 1000, 3) := fd_get adX0_signs_0 (k := 14) rfl
theorem dX0_signs_29 : decode cX0_signs 29 = .ok (.if_icmp .ge 7, 3) := fd_get adX0_signs_0 (k := 15) rfl
theorem dX0_signs_32 : decode cX0_signs 32 = .ok (.iconst 3, 1) := fd_get adX0_signs_1 (k := 0) rfl
theorem dX0_signs_33 : decode cX0_signs 33 = .ok (.goto 4, 3) := fd_get adX0_signs_1 (k := 1) rfl
theorem dX0_signs_36 : decode cX0_signs 36 = .ok (.iconst 4, 1) := fd_get adX0_signs_1 (k := 2) rfl
theorem dX0_signs_37 : decode cX0_signs 37 = .ok (.istore_n 2, 1) := fd_get adX0_signs_1 (k := 3) rfl
theorem dX0_signs_38 : decode cX0_signs 38 = .ok (.iload_n 0, 1) := fd_get adX0_signs_1 (k := 4) rfl
theorem dX0_signs_39 : decode cX0_signs 39 = .ok (.ifCond .ge 9, 3) := fd_get adX0_signs_1 (k := 5) rfl
theorem dX0_signs_42 : decode cX0_signs 42 = .ok (.iload_n 2, 1) := fd_get adX0_signs_1 (k := 6) rfl
theorem dX0_signs_43 : decode cX0_signs 43 = .ok (.iconst 1, 1) := fd_get adX0_signs_1 (k := 7) rfl
theorem dX0_signs_44 : decode cX0_signs 44 = .ok (.iadd, 1) := fd_get adX0_signs_1 (k := 8) rfl
theorem dX0_signs_45 : decode cX0_signs 45 = .ok (.goto 4, 3) := fd_get adX0_signs_1 (k := 9) rfl
theorem dX0_signs_48 : decode cX0_signs 48 = .ok (.iload_n 2, 1) := fd_get adX0_signs_1 (k := 10) rfl
theorem dX0_signs_49 : decode cX0_signs 49 = .ok (.ireturn, 1) := fd_get adX0_signs_1 (k := 11) rfl
theorem adX0_bounded_0 : fd_rows (cX0_bounded.data.toList.drop 0) 0 [(0, some (.sipush (-9999)), 3), (3, some (.sipush 9999), 3), (6, some (.iload_n 0), 1), (7, some (.invokestatic 60), 3), (10, some (.invokestatic 69), 3), (13, some (.ireturn), 1)] = true := by decide +kernel
theorem dX0_bounded_0 : decode cX0_bounded 0 = .ok (.sipush (-9999), 3) := fd_get adX0_bounded_0 (k := 0) rfl
theorem dX0_bounded_3 : decode cX0_bounded 3 = .ok (.sipush 9999, 3) := fd_get adX0_bounded_0 (k := 1) rfl
theorem dX0_bounded_6 : decode cX0_bounded 6 = .ok (.iload_n 0, 1) := fd_get adX0_bounded_0 (k := 2) rfl
theorem dX0_bounded_7 : decode cX0_bounded 7 = .ok (.invokestatic 60, 3) := fd_get adX0_bounded_0 (k := 3) rfl
theorem dX0_bounded_10 : decode cX0_bounded 10 = .ok (.invokestatic 69, 3) := fd_get adX0_bounded_0 (k := 4) rfl
theorem dX0_bounded_13 : decode cX0_bounded 13 = .ok (.ireturn, 1) := fd_get adX0_bounded_0 (k := 5) rfl
theorem mwsX1_init_1 : ∀ w ∈ wsX00, w ∈ wsX1_init := fun w h => (List.mem_cons_of_mem _ (List.mem_append_right _ h))
set_option maxRecDepth 20000 in
theorem ggX1_init_X0_weight : GoodIn wsX1_init wsX0_weight := goodIn_sub (List.forall_mem_cons.mpr ⟨(List.mem_cons_of_mem _ (List.mem_append_left _ (List.mem_append_left _ (List.mem_of_getElem? (i := 18) rfl)))), (List.forall_mem_cons.mpr ⟨(List.mem_cons_of_mem _ (List.mem_append_left _ (List.mem_append_left _ (List.mem_of_getElem? (i := 19) rfl)))), (tk_mem 7 _ (fun w h => (mwsX1_init_1 _ (tkB_mem 0 7 h))) (fun _ h => absurd h List.not_mem_nil))⟩)⟩) (by decide +kernel)
set_option maxRecDepth 20000 in
theorem gX1_init_X0_weight : GoodIn wsX1_init (wsV RX1 29 RX0 yX0_weight wsX0_weight) := goodIn_app (goodIn_sub (tk_mem 4 _ (fun w h => (List.mem_cons_of_mem _ (List.mem_append_left _ (List.mem_append_left _ (tkB_mem 14 4 h))))) (fun _ h => absurd h List.not_mem_nil)) (by decide +kernel)) ggX1_init_X0_weight
theorem adX1_init_0 : fd_rows (cX1_init.data.toList.drop 0) 0 [(0, some (.aload_n 0), 1), (1, some (.invokespecial 3), 3), (4, some (.aload_n 0), 1), (5, some (.aload_n 1), 1), (6, some (.putfield 9), 3), (9, some (.aload_n 0), 1), (10, some (.iload_n 2), 1), (11, some (.putfield 15), 3), (14, some (.aload_n 0), 1), (15, some (.iload_n 3), 1), (16, some (.putfield 19), 3), (19, some (.aload_n 0), 1), (20, some (.iload 4), 2), (22, some (.putfield 23), 3), (25, some (.aload_n 0), 1), (26, some (.iload 5), 2)] = true := by decide +kernel
theorem adX1_init_1 : fd_rows (cX1_init.data.toList.drop 28) 28 [(28, some (.putfield 26), 3), (31, some (.iload_n 2), 1), (32, some (.sipush (-10000)), 3), (35, some (.if_icmp .ne 7), 3), (38, some (.iconst 0), 1), (39, some (.goto 18), 3), (42, some (.aload_n 1), 1), (43, some (.iload_n 2), 1), (44, some (.invokevirtual 29), 3), (47, some (.iload_n 3), 1), (48, some (.ifCond .eq 7), 3), (51, some (.iconst 0), 1), (52, some (.goto 4), 3), (55, some (.iconst 1), 1), (56, some (.iadd), 1), (57, some (.istore 6), 2)] = true := by decide +kernel
theorem adX1_init_2 : fd_rows (cX1_init.data.toList.drop 59) 59 [(59, some (.iload 4), 2), (61, some (.sipush (-10000)), 3), (64, some (.if_icmp .ne 9), 3), (67, some (.sipush 1024), 3), (70, some (.goto 20), 3), (73, some (.aload_n 1), 1), (74, some (.iload 4), 2), (76, some (.invokevirtual 29), 3), (79, some (.iload 5), 2), (81, some (.ifCond .eq 7), 3), (84, some (.iconst 1), 1), (85, some (.goto 4), 3), (88, some (.iconst 0), 1), (89, some (.iadd), 1), (90, some (.istore 7), 2), (92, some (.aload_n 0), 1)] = true := by decide +kernel
theorem adX1_init_3 : fd_rows (cX1_init.data.toList.drop 93) 93 [(93, some (.iload 6), 2), (95, some (.putfield 35), 3), (98, some (.aload_n 0), 1), (99, some (.iload 6), 2), (101, some (.iload 7), 2), (103, some (.invokestatic 38), 3), (106, some (.putfield 44), 3), (109, some (.return_), 1)] = true := by decide +kernel
theorem dX1_init_0 : decode cX1_init 0 = .ok (.aload_n 0, 1) := fd_get adX1_init_0 (k := 0) rfl
theorem dX1_init_1 : decode cX1_init 1 = .ok (.invokespecial 3, 3) := fd_get adX1_init_0 (k := 1) rfl
theorem dX1_init_4 : decode cX1_init 4 = .ok (.aload_n 0, 1) := fd_get adX1_init_0 (k := 2) rfl
theorem dX1_init_5 : decode cX1_init 5 = .ok (.aload_n 1, 1) := fd_get adX1_init_0 (k := 3) rfl
theorem dX1_init_6 : decode cX1_init 6 = .ok (.putfield 9, 3) := fd_get adX1_init_0 (k := 4) rfl
theorem dX1_init_9 : decode cX1_init 9 = .ok (.aload_n 0, 1) := fd_get adX1_init_0 (k := 5) rfl
theorem dX1_init_10 : decode cX1_init 10 = .ok (.iload_n 2, 1) := fd_get adX1_init_0 (k := 6) rfl
theorem dX1_init_11 : decode cX1_init 11 = .ok (.putfield 15, 3) := fd_get adX1_init_0 (k := 7) rfl
theorem dX1_init_14 : decode cX1_init 14 = .ok (.aload_n 0, 1) := fd_get adX1_init_0 (k := 8) rfl
theorem dX1_init_15 : decode cX1_init 15 = .ok (.iload_n 3, 1) := fd_get adX1_init_0 (k := 9) rfl
theorem dX1_init_16 : decode cX1_init 16 = .ok (.putfield 19, 3) := fd_get adX1_init_0 (k := 10) rfl
theorem dX1_init_19 : decode cX1_init 19 = .ok (.aload_n 0, 1) := fd_get adX1_init_0 (k := 11) rfl
theorem dX1_init_20 : decode cX1_init 20 = .ok (.iload 4, 2) := fd_get adX1_init_0 (k := 12) rfl
theorem dX1_init_22 : decode cX1_init 22 = .ok (.putfield 23, 3) := fd_get adX1_init_0 (k := 13) rfl
theorem dX1_init_25 : decode cX1_init 25 = .ok (.aload_n 0, 1) := fd_get adX1_init_0 (k := 14) rfl
theorem dX1_init_26 : decode cX1_init 26 = .ok (.iload 5, 2) := fd_get adX1_init_0 (k := 15) rfl
theorem dX1_init_28 : decode cX1_init 28 = .ok (.putfield 26, 3) := fd_get adX1_init_1 (k := 0) rfl
theorem dX1_init_31 : decode cX1_init 31 = .ok (.iload_n 2, 1) := fd_get adX1_init_1 (k := 1) rfl
theorem dX1_init_32 : decode cX1_init 32 = .ok (.sipush (-10000), 3) := fd_get adX1_init_1 (k := 2) rfl
theorem dX1_init_35 : decode cX1_init 35 = .ok (.if_icmp .ne 7, 3) := fd_get adX1_init_1 (k := 3) rfl
theorem dX1_init_38 : decode cX1_init 38 = .ok (.iconst 0, 1) := fd_get adX1_init_1 (k := 4) rfl
theorem dX1_init_39 : decode cX1_init 39 = .ok (.goto 18, 3) := fd_get adX1_init_1 (k := 5) rfl
theorem dX1_init_42 : decode cX1_init 42 = .ok (.aload_n 1, 1) := fd_get adX1_init_1 (k := 6) rfl
theorem dX1_init_43 : decode cX1_init 43 = .ok (.iload_n 2, 1) := fd_get adX1_init_1 (k := 7) rfl
theorem dX1_init_44 : decode cX1_init 44 = .ok (.invokevirtual 29, 3) := fd_get adX1_init_1 (k := 8) rfl
theorem dX1_init_47 : decode cX1_init 47 = .ok (.iload_n 3, 1) := fd_get adX1_init_1 (k := 9) rfl
theorem dX1_init_48 : decode cX1_init 48 = .ok (.ifCond .eq 7, 3) := fd_get adX1_init_1 (k := 10) rfl
theorem dX1_init_51 : decode cX1_init 51 = .ok (.iconst 0, 1) := fd_get adX1_init_1 (k := 11) rfl
theorem dX1_init_52 : decode cX1_init 52 = .ok (.goto 4, 3) := fd_get adX1_init_1 (k := 12) rfl
theorem dX1_init_55 : decode cX1_init 55 = .ok (.iconst 1, 1) := fd_get adX1_init_1 (k := 13) rfl
theorem dX1_init_56 : decode cX1_init 56 = .ok (.iadd, 1) := fd_get adX1_init_1 (k := 14) rfl
theorem dX1_init_57 : decode cX1_init 57 = .ok (.istore 6, 2) := fd_get adX1_init_1 (k := 15) rfl
theorem dX1_init_59 : decode cX1_init 59 = .ok (.iload 4, 2) := fd_get adX1_init_2 (k := 0) rfl
theorem dX1_init_61 : decode cX1_init 61 = .ok (.sipush (-10000), 3) := fd_get adX1_init_2 (k := 1) rfl
theorem dX1_init_64 : decode cX1_init 64 = .ok (.if_icmp .ne 9, 3) := fd_get adX1_init_2 (k := 2) rfl
theorem dX1_init_67 : decode cX1_init 67 = .ok (.sipush 1024, 3) := fd_get adX1_init_2 (k := 3) rfl
theorem dX1_init_70 : decode cX1_init 70 = .ok (.goto 20, 3) := fd_get adX1_init_2 (k := 4) rfl
theorem dX1_init_73 : decode cX1_init 73 = .ok (.aload_n 1, 1) := fd_get adX1_init_2 (k := 5) rfl
theorem dX1_init_74 : decode cX1_init 74 = .ok (.iload 4, 2) := fd_get adX1_init_2 (k := 6) rfl
theorem dX1_init_76 : decode cX1_init 76 = .ok (.invokevirtual 29, 3) := fd_get adX1_init_2 (k := 7) rfl
theorem dX1_init_79 : decode cX1_init 79 = .ok (.iload 5, 2) := fd_get adX1_init_2 (k := 8) rfl
theorem dX1_init_81 : decode cX1_init 81 = .ok (.ifCond .eq 7, 3) := fd_get adX1_init_2 (k := 9) rfl
theorem dX1_init_84 : decode cX1_init 84 = .ok (.iconst 1, 1) := fd_get adX1_init_2 (k := 10) rfl
theorem dX1_init_85 : decode cX1_init 85 = .ok (.goto 4, 3) := fd_get adX1_init_2 (k := 11) rfl
theorem dX1_init_88 : decode cX1_init 88 = .ok (.iconst 0, 1) := fd_get adX1_init_2 (k := 12) rfl
theorem dX1_init_89 : decode cX1_init 89 = .ok (.iadd, 1) := fd_get adX1_init_2 (k := 13) rfl
theorem dX1_init_90 : decode cX1_init 90 = .ok (.istore 7, 2) := fd_get adX1_init_2 (k := 14) rfl
theorem dX1_init_92 : decode cX1_init 92 = .ok (.aload_n 0, 1) := fd_get adX1_init_2 (k := 15) rfl
theorem dX1_init_93 : decode cX1_init 93 = .ok (.iload 6, 2) := fd_get adX1_init_3 (k := 0) rfl
theorem dX1_init_95 : decode cX1_init 95 = .ok (.putfield 35, 3) := fd_get adX1_init_3 (k := 1) rfl
theorem dX1_init_98 : decode cX1_init 98 = .ok (.aload_n 0, 1) := fd_get adX1_init_3 (k := 2) rfl
theorem dX1_init_99 : decode cX1_init 99 = .ok (.iload 6, 2) := fd_get adX1_init_3 (k := 3) rfl
theorem dX1_init_101 : decode cX1_init 101 = .ok (.iload 7, 2) := fd_get adX1_init_3 (k := 4) rfl
theorem dX1_init_103 : decode cX1_init 103 = .ok (.invokestatic 38, 3) := fd_get adX1_init_3 (k := 5) rfl
theorem dX1_init_106 : decode cX1_init 106 = .ok (.putfield 44, 3) := fd_get adX1_init_3 (k := 6) rfl
theorem dX1_init_109 : decode cX1_init 109 = .ok (.return_, 1) := fd_get adX1_init_3 (k := 7) rfl
theorem adX1_book_0 : fd_rows (cX1_book.data.toList.drop 0) 0 [(0, some (.aload_n 0), 1), (1, some (.getfield 9), 3), (4, some (.areturn), 1)] = true := by decide +kernel
theorem dX1_book_0 : decode cX1_book 0 = .ok (.aload_n 0, 1) := fd_get adX1_book_0 (k := 0) rfl
theorem dX1_book_1 : decode cX1_book 1 = .ok (.getfield 9, 3) := fd_get adX1_book_0 (k := 1) rfl
theorem dX1_book_4 : decode cX1_book 4 = .ok (.areturn, 1) := fd_get adX1_book_0 (k := 2) rfl
theorem adX1_lowerBound_0 : fd_rows (cX1_lowerBound.data.toList.drop 0) 0 [(0, some (.aload_n 0), 1), (1, some (.getfield 15), 3), (4, some (.ireturn), 1)] = true := by decide +kernel
theorem dX1_lowerBound_0 : decode cX1_lowerBound 0 = .ok (.aload_n 0, 1) := fd_get adX1_lowerBound_0 (k := 0) rfl
theorem dX1_lowerBound_1 : decode cX1_lowerBound 1 = .ok (.getfield 15, 3) := fd_get adX1_lowerBound_0 (k := 1) rfl
theorem dX1_lowerBound_4 : decode cX1_lowerBound 4 = .ok (.ireturn, 1) := fd_get adX1_lowerBound_0 (k := 2) rfl
theorem adX1_upperBound_0 : fd_rows (cX1_upperBound.data.toList.drop 0) 0 [(0, some (.aload_n 0), 1), (1, some (.getfield 23), 3), (4, some (.ireturn), 1)] = true := by decide +kernel
theorem dX1_upperBound_0 : decode cX1_upperBound 0 = .ok (.aload_n 0, 1) := fd_get adX1_upperBound_0 (k := 0) rfl
theorem dX1_upperBound_1 : decode cX1_upperBound 1 = .ok (.getfield 23, 3) := fd_get adX1_upperBound_0 (k := 1) rfl
theorem dX1_upperBound_4 : decode cX1_upperBound 4 = .ok (.ireturn, 1) := fd_get adX1_upperBound_0 (k := 2) rfl
theorem adX1_isLowerIn_0 : fd_rows (cX1_isLowerIn.data.toList.drop 0) 0 [(0, some (.aload_n 0), 1), (1, some (.getfield 19), 3), (4, some (.ireturn), 1)] = true := by decide +kernel
theorem dX1_isLowerIn_0 : decode cX1_isLowerIn 0 = .ok (.aload_n 0, 1) := fd_get adX1_isLowerIn_0 (k := 0) rfl
theorem dX1_isLowerIn_1 : decode cX1_isLowerIn 1 = .ok (.getfield 19, 3) := fd_get adX1_isLowerIn_0 (k := 1) rfl
theorem dX1_isLowerIn_4 : decode cX1_isLowerIn 4 = .ok (.ireturn, 1) := fd_get adX1_isLowerIn_0 (k := 2) rfl
theorem adX1_isUpperIn_0 : fd_rows (cX1_isUpperIn.data.toList.drop 0) 0 [(0, some (.aload_n 0), 1), (1, some (.getfield 26), 3), (4, some (.ireturn), 1)] = true := by decide +kernel
theorem dX1_isUpperIn_0 : decode cX1_isUpperIn 0 = .ok (.aload_n 0, 1) := fd_get adX1_isUpperIn_0 (k := 0) rfl
theorem dX1_isUpperIn_1 : decode cX1_isUpperIn 1 = .ok (.getfield 26, 3) := fd_get adX1_isUpperIn_0 (k := 1) rfl
theorem dX1_isUpperIn_4 : decode cX1_isUpperIn 4 = .ok (.ireturn, 1) := fd_get adX1_isUpperIn_0 (k := 2) rfl
theorem mwsX1_start_1 : ∀ w ∈ wsX00, w ∈ wsX1_start := fun w h => (List.mem_cons_of_mem _ (List.mem_append_right _ h))
set_option maxRecDepth 20000 in
theorem ggX1_start_X0_placeOfWeight : GoodIn wsX1_start wsX0_placeOfWeight := goodIn_sub (tk_mem 6 _ (fun w h => (List.mem_cons_of_mem _ (List.mem_append_left _ (List.mem_append_left _ (tkB_mem 6 6 h))))) (List.forall_mem_cons.mpr ⟨(List.mem_cons_of_mem _ (List.mem_append_left _ (List.mem_append_left _ (List.mem_of_getElem? (i := 5) rfl)))), (List.forall_mem_cons.mpr ⟨(List.mem_cons_of_mem _ (List.mem_append_left _ (List.mem_append_left _ (List.mem_of_getElem? (i := 12) rfl)))), (List.forall_mem_cons.mpr ⟨(List.mem_cons_of_mem _ (List.mem_append_left _ (List.mem_append_left _ (List.mem_of_getElem? (i := 13) rfl)))), (tk_mem 7 _ (fun w h => (mwsX1_start_1 _ (tkB_mem 0 7 h))) (fun _ h => absurd h List.not_mem_nil))⟩)⟩)⟩)) (by decide +kernel)
set_option maxRecDepth 20000 in
theorem gX1_start_X0_placeOfWeight : GoodIn wsX1_start (wsV RX1 47 RX0 yX0_placeOfWeight wsX0_placeOfWeight) := goodIn_app (goodIn_sub (tk_mem 4 _ (fun w h => (List.mem_cons_of_mem _ (List.mem_append_left _ (List.mem_append_left _ (tkB_mem 2 4 h))))) (fun _ h => absurd h List.not_mem_nil)) (by decide +kernel)) ggX1_start_X0_placeOfWeight
theorem adX1_start_0 : fd_rows (cX1_start.data.toList.drop 0) 0 [(0, some (.aload_n 0), 1), (1, some (.getfield 9), 3), (4, some (.aload_n 0), 1), (5, some (.getfield 35), 3), (8, some (.invokevirtual 47), 3), (11, some (.ireturn), 1)] = true := by decide +kernel
theorem dX1_start_0 : decode cX1_start 0 = .ok (.aload_n 0, 1) := fd_get adX1_start_0 (k := 0) rfl
theorem dX1_start_1 : decode cX1_start 1 = .ok (.getfield 9, 3) := fd_get adX1_start_0 (k := 1) rfl
theorem dX1_start_4 : decode cX1_start 4 = .ok (.aload_n 0, 1) := fd_get adX1_start_0 (k := 2) rfl
theorem dX1_start_5 : decode cX1_start 5 = .ok (.getfield 35, 3) := fd_get adX1_start_0 (k := 3) rfl
theorem dX1_start_8 : decode cX1_start 8 = .ok (.invokevirtual 47, 3) := fd_get adX1_start_0 (k := 4) rfl
theorem dX1_start_11 : decode cX1_start 11 = .ok (.ireturn, 1) := fd_get adX1_start_0 (k := 5) rfl
theorem mwsX1_end_1 : ∀ w ∈ wsX00, w ∈ wsX1_end := fun w h => (List.mem_cons_of_mem _ (List.mem_append_right _ h))
set_option maxRecDepth 20000 in
theorem ggX1_end_X0_placeOfWeight : GoodIn wsX1_end wsX0_placeOfWeight := goodIn_sub (tk_mem 6 _ (fun w h => (List.mem_cons_of_mem _ (List.mem_append_left _ (List.mem_append_left _ (tkB_mem 6 6 h))))) (List.forall_mem_cons.mpr ⟨(List.mem_cons_of_mem _ (List.mem_append_left _ (List.mem_append_left _ (List.mem_of_getElem? (i := 5) rfl)))), (List.forall_mem_cons.mpr ⟨(List.mem_cons_of_mem _ (List.mem_append_left _ (List.mem_append_left _ (List.mem_of_getElem? (i := 12) rfl)))), (List.forall_mem_cons.mpr ⟨(List.mem_cons_of_mem _ (List.mem_append_left _ (List.mem_append_left _ (List.mem_of_getElem? (i := 13) rfl)))), (tk_mem 7 _ (fun w h => (mwsX1_end_1 _ (tkB_mem 0 7 h))) (fun _ h => absurd h List.not_mem_nil))⟩)⟩)⟩)) (by decide +kernel)
set_option maxRecDepth 20000 in
theorem gX1_end_X0_placeOfWeight : GoodIn wsX1_end (wsV RX1 47 RX0 yX0_placeOfWeight wsX0_placeOfWeight) := goodIn_app (goodIn_sub (tk_mem 4 _ (fun w h => (List.mem_cons_of_mem _ (List.mem_append_left _ (List.mem_append_left _ (tkB_mem 2 4 h))))) (fun _ h => absurd h List.not_mem_nil)) (by decide +kernel)) ggX1_end_X0_placeOfWeight
theorem adX1_end_0 : fd_rows (cX1_end.data.toList.drop 0) 0 [(0, some (.aload_n 0), 1), (1, some (.getfield 9), 3), (4, some (.aload_n 0), 1), (5, some (.getfield 44), 3), (8, some (.invokevirtual 47), 3), (11, some (.ireturn), 1)] = true := by decide +kernel
theorem dX1_end_0 : decode cX1_end 0 = .ok (.aload_n 0, 1) := fd_get adX1_end_0 (k := 0) rfl
theorem dX1_end_1 : decode cX1_end 1 = .ok (.getfield 9, 3) := fd_get adX1_end_0 (k := 1) rfl
theorem dX1_end_4 : decode cX1_end 4 = .ok (.aload_n 0, 1) := fd_get adX1_end_0 (k := 2) rfl
theorem dX1_end_5 : decode cX1_end 5 = .ok (.getfield 44, 3) := fd_get adX1_end_0 (k := 3) rfl
theorem dX1_end_8 : decode cX1_end 8 = .ok (.invokevirtual 47, 3) := fd_get adX1_end_0 (k := 4) rfl
theorem dX1_end_11 : decode cX1_end 11 = .ok (.ireturn, 1) := fd_get adX1_end_0 (k := 5) rfl
theorem mwsX1_size_0 : ∀ w ∈ wsX10, w ∈ wsX1_size := fun w h => (List.mem_cons_of_mem _ (List.mem_append_left _ (List.mem_append_right _ h)))
theorem mwsX1_size_1 : ∀ w ∈ wsX00, w ∈ wsX1_size := fun w h => (List.mem_cons_of_mem _ (List.mem_append_right _ h))
set_option maxRecDepth 20000 in
theorem ggX1_size_X1_end : GoodIn wsX1_size wsX1_end := goodIn_sub (tk_mem 15 _ (fun w h => (List.mem_cons_of_mem _ (List.mem_append_left _ (List.mem_append_left _ (tkB_mem 4 15 h))))) (tk_mem 7 _ (fun w h => (mwsX1_size_0 _ (tkB_mem 0 7 h))) (tk_mem 7 _ (fun w h => (mwsX1_size_1 _ (tkB_mem 0 7 h))) (fun _ h => absurd h List.not_mem_nil)))) (by decide +kernel)
set_option maxRecDepth 20000 in
theorem gX1_size_X1_end : GoodIn wsX1_size (wsV RX1 50 RX1 yX1_end wsX1_end) := goodIn_app (goodIn_sub (tk_mem 4 _ (fun w h => (List.mem_cons_of_mem _ (List.mem_append_left _ (List.mem_append_left _ (tkB_mem 0 4 h))))) (fun _ h => absurd h List.not_mem_nil)) (by decide +kernel)) ggX1_size_X1_end
set_option maxRecDepth 20000 in
theorem ggX1_size_X1_start : GoodIn wsX1_size wsX1_start := goodIn_sub (List.forall_mem_cons.mpr ⟨(List.mem_cons_of_mem _ (List.mem_append_left _ (List.mem_append_left _ (List.mem_of_getElem? (i := 22) rfl)))), (List.forall_mem_cons.mpr ⟨(List.mem_cons_of_mem _ (List.mem_append_left _ (List.mem_append_left _ (List.mem_of_getElem? (i := 5) rfl)))), (List.forall_mem_cons.mpr ⟨(List.mem_cons_of_mem _ (List.mem_append_left _ (List.mem_append_left _ (List.mem_of_getElem? (i := 23) rfl)))), (tk_mem 12 _ (fun w h => (List.mem_cons_of_mem _ (List.mem_append_left _ (List.mem_append_left _ (tkB_mem 7 12 h))))) (tk_mem 7 _ (fun w h => (mwsX1_size_0 _ (tkB_mem 0 7 h))) (tk_mem 7 _ (fun w h => (mwsX1_size_1 _ (tkB_mem 0 7 h))) (fun _ h => absurd h List.not_mem_nil))))⟩)⟩)⟩) (by decide +kernel)
set_option maxRecDepth 20000 in
theorem gX1_size_X1_start : GoodIn wsX1_size (wsV RX1 54 RX1 yX1_start wsX1_start) := goodIn_app (goodIn_sub (List.forall_mem_cons.mpr ⟨(List.mem_cons_of_mem _ (List.mem_append_left _ (List.mem_append_left _ (List.mem_of_getElem? (i := 19) rfl)))), (List.forall_mem_cons.mpr ⟨(List.mem_cons_of_mem _ (List.mem_append_left _ (List.mem_append_left _ (List.mem_of_getElem? (i := 20) rfl)))), (List.forall_mem_cons.mpr ⟨(List.mem_cons_of_mem _ (List.mem_append_left _ (List.mem_append_left _ (List.mem_of_getElem? (i := 21) rfl)))), (List.forall_mem_cons.mpr ⟨(List.mem_cons_of_mem _ (List.mem_append_left _ (List.mem_append_left _ (List.mem_of_getElem? (i := 3) rfl)))), (fun _ h => absurd h List.not_mem_nil)⟩)⟩)⟩)⟩) (by decide +kernel)) ggX1_size_X1_start
theorem adX1_size_0 : fd_rows (cX1_size.data.toList.drop 0) 0 [(0, some (.aload_n 0), 1), (1, some (.invokevirtual 50), 3), (4, some (.aload_n 0), 1), (5, some (.invokevirtual 54), 3), (8, some (.isub), 1), (9, some (.ireturn), 1)] = true := by decide +kernel
theorem dX1_size_0 : decode cX1_size 0 = .ok (.aload_n 0, 1) := fd_get adX1_size_0 (k := 0) rfl
theorem dX1_size_1 : decode cX1_size 1 = .ok (.invokevirtual 50, 3) := fd_get adX1_size_0 (k := 1) rfl
theorem dX1_size_4 : decode cX1_size 4 = .ok (.aload_n 0, 1) := fd_get adX1_size_0 (k := 2) rfl
theorem dX1_size_5 : decode cX1_size 5 = .ok (.invokevirtual 54, 3) := fd_get adX1_size_0 (k := 3) rfl
theorem dX1_size_8 : decode cX1_size 8 = .ok (.isub, 1) := fd_get adX1_size_0 (k := 4) rfl
theorem dX1_size_9 : decode cX1_size 9 = .ok (.ireturn, 1) := fd_get adX1_size_0 (k := 5) rfl
theorem mwsX1_isWithin_1 : ∀ w ∈ wsX00, w ∈ wsX1_isWithin := fun w h => (List.mem_cons_of_mem _ (List.mem_append_right _ h))
set_option maxRecDepth 20000 in
theorem ggX1_isWithin_X0_weight : GoodIn wsX1_isWithin wsX0_weight := goodIn_sub (List.forall_mem_cons.mpr ⟨(List.mem_cons_of_mem _ (List.mem_append_left _ (List.mem_append_left _ (List.mem_of_getElem? (i := 7) rfl)))), (List.forall_mem_cons.mpr ⟨(List.mem_cons_of_mem _ (List.mem_append_left _ (List.mem_append_left _ (List.mem_of_getElem? (i := 8) rfl)))), (tk_mem 7 _ (fun w h => (mwsX1_isWithin_1 _ (tkB_mem 0 7 h))) (fun _ h => absurd h List.not_mem_nil))⟩)⟩) (by decide +kernel)
set_option maxRecDepth 20000 in
theorem gX1_isWithin_X0_weight : GoodIn wsX1_isWithin (wsV RX1 29 RX0 yX0_weight wsX0_weight) := goodIn_app (goodIn_sub (tk_mem 4 _ (fun w h => (List.mem_cons_of_mem _ (List.mem_append_left _ (List.mem_append_left _ (tkB_mem 3 4 h))))) (fun _ h => absurd h List.not_mem_nil)) (by decide +kernel)) ggX1_isWithin_X0_weight
theorem adX1_isWithin_0 : fd_rows (cX1_isWithin.data.toList.drop 0) 0 [(0, some (.aload_n 0), 1), (1, some (.getfield 9), 3), (4, some (.iload_n 1), 1), (5, some (.invokevirtual 29), 3), (8, some (.istore_n 2), 1), (9, some (.iload_n 2), 1), (10, some (.aload_n 0), 1), (11, some (.getfield 35), 3), (14, some (.if_icmp .lt 15), 3), (17, some (.iload_n 2), 1), (18, some (.aload_n 0), 1), (19, some (.getfield 44), 3), (22, some (.if_icmp .ge 7), 3), (25, some (.iconst 1), 1), (26, some (.goto 4), 3), (29, some (.iconst 0), 1)] = true := by decide +kernel
theorem adX1_isWithin_1 : fd_rows (cX1_isWithin.data.toList.drop 30) 30 [(30, some (.ireturn), 1)] = true := by decide +kernel
theorem dX1_isWithin_0 : decode cX1_isWithin 0 = .ok (.aload_n 0, 1) := fd_get adX1_isWithin_0 (k := 0) rfl
theorem dX1_isWithin_1 : decode cX1_isWithin 1 = .ok (.getfield 9, 3) := fd_get adX1_isWithin_0 (k := 1) rfl
theorem dX1_isWithin_4 : decode cX1_isWithin 4 = .ok (.iload_n 1, 1) := fd_get adX1_isWithin_0 (k := 2) rfl
theorem dX1_isWithin_5 : decode cX1_isWithin 5 = .ok (.invokevirtual 29, 3) := fd_get adX1_isWithin_0 (k := 3) rfl
theorem dX1_isWithin_8 : decode cX1_isWithin 8 = .ok (.istore_n 2, 1) := fd_get adX1_isWithin_0 (k := 4) rfl
theorem dX1_isWithin_9 : decode cX1_isWithin 9 = .ok (.iload_n 2, 1) := fd_get adX1_isWithin_0 (k := 5) rfl
theorem dX1_isWithin_10 : decode cX1_isWithin 10 = .ok (.aload_n 0, 1) := fd_get adX1_isWithin_0 (k := 6) rfl
theorem dX1_isWithin_11 : decode cX1_isWithin 11 = .ok (.getfield 35, 3) := fd_get adX1_isWithin_0 (k := 7) rfl
theorem dX1_isWithin_14 : decode cX1_isWithin 14 = .ok (.if_icmp .lt 15, 3) := fd_get adX1_isWithin_0 (k := 8) rfl
theorem dX1_isWithin_17 : decode cX1_isWithin 17 = .ok (.iload_n 2, 1) := fd_get adX1_isWithin_0 (k := 9) rfl
theorem dX1_isWithin_18 : decode cX1_isWithin 18 = .ok (.aload_n 0, 1) := fd_get adX1_isWithin_0 (k := 10) rfl
theorem dX1_isWithin_19 : decode cX1_isWithin 19 = .ok (.getfield 44, 3) := fd_get adX1_isWithin_0 (k := 11) rfl
theorem dX1_isWithin_22 : decode cX1_isWithin 22 = .ok (.if_icmp .ge 7, 3) := fd_get adX1_isWithin_0 (k := 12) rfl
theorem dX1_isWithin_25 : decode cX1_isWithin 25 = .ok (.iconst 1, 1) := fd_get adX1_isWithin_0 (k := 13) rfl
theorem dX1_isWithin_26 : decode cX1_isWithin 26 = .ok (.goto 4, 3) := fd_get adX1_isWithin_0 (k := 14) rfl
theorem dX1_isWithin_29 : decode cX1_isWithin 29 = .ok (.iconst 0, 1) := fd_get adX1_isWithin_0 (k := 15) rfl
theorem dX1_isWithin_30 : decode cX1_isWithin 30 = .ok (.ireturn, 1) := fd_get adX1_isWithin_1 (k := 0) rfl
theorem mwsX1_isSoundView_0 : ∀ w ∈ wsX1_isSoundView_r1, w ∈ wsX1_isSoundView := fun w h => (List.mem_cons_of_mem _ (List.mem_append_left _ (List.mem_append_left _ (List.mem_append_left _ h))))
theorem mwsX1_isSoundView_1 : ∀ w ∈ wsX1_isSoundView_r2, w ∈ wsX1_isSoundView := fun w h => (List.mem_cons_of_mem _ (List.mem_append_left _ (List.mem_append_left _ (List.mem_append_right _ h))))
theorem mwsX1_isSoundView_2 : ∀ w ∈ wsX10, w ∈ wsX1_isSoundView := fun w h => (List.mem_cons_of_mem _ (List.mem_append_left _ (List.mem_append_right _ h)))
theorem mwsX1_isSoundView_3 : ∀ w ∈ wsX00, w ∈ wsX1_isSoundView := fun w h => (List.mem_cons_of_mem _ (List.mem_append_right _ h))
set_option maxRecDepth 20000 in
theorem ggX1_isSoundView_X1_start : GoodIn wsX1_isSoundView wsX1_start := goodIn_sub (List.forall_mem_cons.mpr ⟨(mwsX1_isSoundView_0 _ (List.mem_of_getElem? (i := 5) rfl)), (List.forall_mem_cons.mpr ⟨(mwsX1_isSoundView_0 _ (List.mem_of_getElem? (i := 0) rfl)), (tk_mem 13 _ (fun w h => (mwsX1_isSoundView_0 _ (tkB_mem 6 13 h))) (tk_mem 7 _ (fun w h => (mwsX1_isSoundView_2 _ (tkB_mem 0 7 h))) (tk_mem 7 _ (fun w h => (mwsX1_isSoundView_3 _ (tkB_mem 0 7 h))) (fun _ h => absurd h List.not_mem_nil))))⟩)⟩) (by decide +kernel)
set_option maxRecDepth 20000 in
theorem gX1_isSoundView_X1_start : GoodIn wsX1_isSoundView (wsV RX1 54 RX1 yX1_start wsX1_start) := goodIn_app (goodIn_sub (tk_mem 4 _ (fun w h => (mwsX1_isSoundView_0 _ (tkB_mem 1 4 h))) (fun _ h => absurd h List.not_mem_nil)) (by decide +kernel)) ggX1_isSoundView_X1_start
set_option maxRecDepth 20000 in
theorem ggX1_isSoundView_X1_end : GoodIn wsX1_isSoundView wsX1_end := goodIn_sub (List.forall_mem_cons.mpr ⟨(mwsX1_isSoundView_0 _ (List.mem_of_getElem? (i := 22) rfl)), (List.forall_mem_cons.mpr ⟨(mwsX1_isSoundView_0 _ (List.mem_of_getElem? (i := 0) rfl)), (List.forall_mem_cons.mpr ⟨(mwsX1_isSoundView_0 _ (List.mem_of_getElem? (i := 23) rfl)), (tk_mem 12 _ (fun w h => (mwsX1_isSoundView_0 _ (tkB_mem 7 12 h))) (tk_mem 7 _ (fun w h => (mwsX1_isSoundView_2 _ (tkB_mem 0 7 h))) (tk_mem 7 _ (fun w h => (mwsX1_isSoundView_3 _ (tkB_mem 0 7 h))) (fun _ h => absurd h List.not_mem_nil))))⟩)⟩)⟩) (by decide +kernel)
set_option maxRecDepth 20000 in
theorem gX1_isSoundView_X1_end : GoodIn wsX1_isSoundView (wsV RX1 50 RX1 yX1_end wsX1_end) := goodIn_app (goodIn_sub (List.forall_mem_cons.mpr ⟨(mwsX1_isSoundView_0 _ (List.mem_of_getElem? (i := 19) rfl)), (List.forall_mem_cons.mpr ⟨(mwsX1_isSoundView_0 _ (List.mem_of_getElem? (i := 20) rfl)), (List.forall_mem_cons.mpr ⟨(mwsX1_isSoundView_0 _ (List.mem_of_getElem? (i := 21) rfl)), (List.forall_mem_cons.mpr ⟨(mwsX1_isSoundView_0 _ (List.mem_of_getElem? (i := 4) rfl)), (fun _ h => absurd h List.not_mem_nil)⟩)⟩)⟩)⟩) (by decide +kernel)) ggX1_isSoundView_X1_end
set_option maxRecDepth 20000 in
theorem ggX1_isSoundView_X0_size : GoodIn wsX1_isSoundView wsX0_size := goodIn_sub (List.forall_mem_cons.mpr ⟨(mwsX1_isSoundView_1 _ (List.mem_of_getElem? (i := 3) rfl)), (List.forall_mem_cons.mpr ⟨(mwsX1_isSoundView_0 _ (List.mem_of_getElem? (i := 12) rfl)), (tk_mem 7 _ (fun w h => (mwsX1_isSoundView_3 _ (tkB_mem 0 7 h))) (fun _ h => absurd h List.not_mem_nil))⟩)⟩) (by decide +kernel)
set_option maxRecDepth 20000 in
theorem gX1_isSoundView_X0_size : GoodIn wsX1_isSoundView (wsV RX1 57 RX0 yX0_size wsX0_size) := goodIn_app (goodIn_sub (List.forall_mem_cons.mpr ⟨(mwsX1_isSoundView_1 _ (List.mem_of_getElem? (i := 0) rfl)), (List.forall_mem_cons.mpr ⟨(mwsX1_isSoundView_1 _ (List.mem_of_getElem? (i := 1) rfl)), (List.forall_mem_cons.mpr ⟨(mwsX1_isSoundView_1 _ (List.mem_of_getElem? (i := 2) rfl)), (List.forall_mem_cons.mpr ⟨(mwsX1_isSoundView_0 _ (List.mem_of_getElem? (i := 10) rfl)), (fun _ h => absurd h List.not_mem_nil)⟩)⟩)⟩)⟩) (by decide +kernel)) ggX1_isSoundView_X0_size
set_option maxRecDepth 20000 in
theorem ggX1_isSoundView_X0_keyAt : GoodIn wsX1_isSoundView wsX0_keyAt := goodIn_sub (List.forall_mem_cons.mpr ⟨(mwsX1_isSoundView_1 _ (List.mem_of_getElem? (i := 7) rfl)), (List.forall_mem_cons.mpr ⟨(mwsX1_isSoundView_0 _ (List.mem_of_getElem? (i := 13) rfl)), (List.forall_mem_cons.mpr ⟨(mwsX1_isSoundView_1 _ (List.mem_of_getElem? (i := 8) rfl)), (List.forall_mem_cons.mpr ⟨(mwsX1_isSoundView_1 _ (List.mem_of_getElem? (i := 9) rfl)), (List.forall_mem_cons.mpr ⟨(mwsX1_isSoundView_1 _ (List.mem_of_getElem? (i := 10) rfl)), (List.forall_mem_cons.mpr ⟨(mwsX1_isSoundView_0 _ (List.mem_of_getElem? (i := 10) rfl)), (List.forall_mem_cons.mpr ⟨(mwsX1_isSoundView_1 _ (List.mem_of_getElem? (i := 11) rfl)), (List.forall_mem_cons.mpr ⟨(mwsX1_isSoundView_0 _ (List.mem_of_getElem? (i := 12) rfl)), (tk_mem 7 _ (fun w h => (mwsX1_isSoundView_3 _ (tkB_mem 0 7 h))) (fun _ h => absurd h List.not_mem_nil))⟩)⟩)⟩)⟩)⟩)⟩)⟩)⟩) (by decide +kernel)
set_option maxRecDepth 20000 in
theorem gX1_isSoundView_X0_keyAt : GoodIn wsX1_isSoundView (wsV RX1 60 RX0 yX0_keyAt wsX0_keyAt) := goodIn_app (goodIn_sub (List.forall_mem_cons.mpr ⟨(mwsX1_isSoundView_1 _ (List.mem_of_getElem? (i := 4) rfl)), (List.forall_mem_cons.mpr ⟨(mwsX1_isSoundView_1 _ (List.mem_of_getElem? (i := 5) rfl)), (List.forall_mem_cons.mpr ⟨(mwsX1_isSoundView_1 _ (List.mem_of_getElem? (i := 6) rfl)), (List.forall_mem_cons.mpr ⟨(mwsX1_isSoundView_0 _ (List.mem_of_getElem? (i := 10) rfl)), (fun _ h => absurd h List.not_mem_nil)⟩)⟩)⟩)⟩) (by decide +kernel)) ggX1_isSoundView_X0_keyAt
set_option maxRecDepth 20000 in
theorem ggX1_isSoundView_X1_isWithin : GoodIn wsX1_isSoundView wsX1_isWithin := goodIn_sub (List.forall_mem_cons.mpr ⟨(mwsX1_isSoundView_1 _ (List.mem_of_getElem? (i := 15) rfl)), (List.forall_mem_cons.mpr ⟨(mwsX1_isSoundView_0 _ (List.mem_of_getElem? (i := 0) rfl)), (List.forall_mem_cons.mpr ⟨(mwsX1_isSoundView_0 _ (List.mem_of_getElem? (i := 6) rfl)), (List.forall_mem_cons.mpr ⟨(mwsX1_isSoundView_0 _ (List.mem_of_getElem? (i := 23) rfl)), (List.forall_mem_cons.mpr ⟨(mwsX1_isSoundView_1 _ (List.mem_of_getElem? (i := 16) rfl)), (List.forall_mem_cons.mpr ⟨(mwsX1_isSoundView_0 _ (List.mem_of_getElem? (i := 15) rfl)), (List.forall_mem_cons.mpr ⟨(mwsX1_isSoundView_0 _ (List.mem_of_getElem? (i := 16) rfl)), (List.forall_mem_cons.mpr ⟨(mwsX1_isSoundView_0 _ (List.mem_of_getElem? (i := 10) rfl)), (List.forall_mem_cons.mpr ⟨(mwsX1_isSoundView_0 _ (List.mem_of_getElem? (i := 17) rfl)), (List.forall_mem_cons.mpr ⟨(mwsX1_isSoundView_0 _ (List.mem_of_getElem? (i := 18) rfl)), (tk_mem 7 _ (fun w h => (mwsX1_isSoundView_2 _ (tkB_mem 0 7 h))) (tk_mem 7 _ (fun w h => (mwsX1_isSoundView_3 _ (tkB_mem 0 7 h))) (fun _ h => absurd h List.not_mem_nil)))⟩)⟩)⟩)⟩)⟩)⟩)⟩)⟩)⟩)⟩) (by decide +kernel)
set_option maxRecDepth 20000 in
theorem gX1_isSoundView_X1_isWithin : GoodIn wsX1_isSoundView (wsV RX1 63 RX1 yX1_isWithin wsX1_isWithin) := goodIn_app (goodIn_sub (List.forall_mem_cons.mpr ⟨(mwsX1_isSoundView_1 _ (List.mem_of_getElem? (i := 12) rfl)), (List.forall_mem_cons.mpr ⟨(mwsX1_isSoundView_1 _ (List.mem_of_getElem? (i := 13) rfl)), (List.forall_mem_cons.mpr ⟨(mwsX1_isSoundView_1 _ (List.mem_of_getElem? (i := 14) rfl)), (List.forall_mem_cons.mpr ⟨(mwsX1_isSoundView_0 _ (List.mem_of_getElem? (i := 4) rfl)), (fun _ h => absurd h List.not_mem_nil)⟩)⟩)⟩)⟩) (by decide +kernel)) ggX1_isSoundView_X1_isWithin
theorem adX1_isSoundView_0 : fd_rows (cX1_isSoundView.data.toList.drop 0) 0 [(0, some (.aload_n 0), 1), (1, some (.invokevirtual 54), 3), (4, some (.istore_n 1), 1), (5, some (.aload_n 0), 1), (6, some (.invokevirtual 50), 3), (9, some (.istore_n 2), 1), (10, some (.iconst 0), 1), (11, some (.istore_n 3), 1), (12, some (.iload_n 3), 1), (13, some (.aload_n 0), 1), (14, some (.getfield 9), 3), (17, some (.invokevirtual 57), 3), (20, some (.if_icmp .ge 45), 3), (23, some (.iload_n 3), 1), (24, some (.iload_n 1), 1), (25, some (.if_icmp .lt 12), 3)] = true := by decide +kernel
theorem adX1_isSoundView_1 : fd_rows (cX1_isSoundView.data.toList.drop 28) 28 [(28, some (.iload_n 3), 1), (29, some (.iload_n 2), 1), (30, some (.if_icmp .ge 7), 3), (33, some (.iconst 1), 1), (34, some (.goto 4), 3), (37, some (.iconst 0), 1), (38, some (.istore 4), 2), (40, some (.aload_n 0), 1), (41, some (.aload_n 0), 1), (42, some (.getfield 9), 3), (45, some (.iload_n 3), 1), (46, some (.invokevirtual 60), 3), (49, some (.invokevirtual 63), 3), (52, some (.iload 4), 2), (54, some (.if_icmp .eq 5), 3), (57, some (.iconst 0), 1)] = true := by decide +kernel
theorem adX1_isSoundView_2 : fd_rows (cX1_isSoundView.data.toList.drop 58) 58 [(58, some (.ireturn), 1), (59, some (.iinc 3 1), 3), (62, some (.goto (-50)), 3), (65, some (.iconst 1), 1), (66, some (.ireturn), 1)] = true := by decide +kernel
theorem dX1_isSoundView_0 : decode cX1_isSoundView 0 = .ok (.aload_n 0, 1) := fd_get adX1_isSoundView_0 (k := 0) rfl
theorem dX1_isSoundView_1 : decode cX1_isSoundView 1 = .ok (.invokevirtual 54, 3) := fd_get adX1_isSoundView_0 (k := 1) rfl
theorem dX1_isSoundView_4 : decode cX1_isSoundView 4 = .ok (.istore_n 1, 1) := fd_get adX1_isSoundView_0 (k := 2) rfl
theorem dX1_isSoundView_5 : decode cX1_isSoundView 5 = .ok (.aload_n 0, 1) := fd_get adX1_isSoundView_0 (k := 3) rfl
theorem dX1_isSoundView_6 : decode cX1_isSoundView 6 = .ok (.invokevirtual 50, 3) := fd_get adX1_isSoundView_0 (k := 4) rfl
theorem dX1_isSoundView_9 : decode cX1_isSoundView 9 = .ok (.istore_n 2, 1) := fd_get adX1_isSoundView_0 (k := 5) rfl
theorem dX1_isSoundView_10 : decode cX1_isSoundView 10 = .ok (.iconst 0, 1) := fd_get adX1_isSoundView_0 (k := 6) rfl
theorem dX1_isSoundView_11 : decode cX1_isSoundView 11 = .ok (.istore_n 3, 1) := fd_get adX1_isSoundView_0 (k := 7) rfl
theorem dX1_isSoundView_12 : decode cX1_isSoundView 12 = .ok (.iload_n 3, 1) := fd_get adX1_isSoundView_0 (k := 8) rfl
theorem dX1_isSoundView_13 : decode cX1_isSoundView 13 = .ok (.aload_n 0, 1) := fd_get adX1_isSoundView_0 (k := 9) rfl
theorem dX1_isSoundView_14 : decode cX1_isSoundView 14 = .ok (.getfield 9, 3) := fd_get adX1_isSoundView_0 (k := 10) rfl
theorem dX1_isSoundView_17 : decode cX1_isSoundView 17 = .ok (.invokevirtual 57, 3) := fd_get adX1_isSoundView_0 (k := 11) rfl
theorem dX1_isSoundView_20 : decode cX1_isSoundView 20 = .ok (.if_icmp .ge 45, 3) := fd_get adX1_isSoundView_0 (k := 12) rfl
theorem dX1_isSoundView_23 : decode cX1_isSoundView 23 = .ok (.iload_n 3, 1) := fd_get adX1_isSoundView_0 (k := 13) rfl
theorem dX1_isSoundView_24 : decode cX1_isSoundView 24 = .ok (.iload_n 1, 1) := fd_get adX1_isSoundView_0 (k := 14) rfl
theorem dX1_isSoundView_25 : decode cX1_isSoundView 25 = .ok (.if_icmp .lt 12, 3) := fd_get adX1_isSoundView_0 (k := 15) rfl
theorem dX1_isSoundView_28 : decode cX1_isSoundView 28 = .ok (.iload_n 3, 1) := fd_get adX1_isSoundView_1 (k := 0) rfl
theorem dX1_isSoundView_29 : decode cX1_isSoundView 29 = .ok (.iload_n 2, 1) := fd_get adX1_isSoundView_1 (k := 1) rfl
theorem dX1_isSoundView_30 : decode cX1_isSoundView 30 = .ok (.if_icmp .ge 7, 3) := fd_get adX1_isSoundView_1 (k := 2) rfl
theorem dX1_isSoundView_33 : decode cX1_isSoundView 33 = .ok (.iconst 1, 1) := fd_get adX1_isSoundView_1 (k := 3) rfl
theorem dX1_isSoundView_34 : decode cX1_isSoundView 34 = .ok (.goto 4, 3) := fd_get adX1_isSoundView_1 (k := 4) rfl
theorem dX1_isSoundView_37 : decode cX1_isSoundView 37 = .ok (.iconst 0, 1) := fd_get adX1_isSoundView_1 (k := 5) rfl
theorem dX1_isSoundView_38 : decode cX1_isSoundView 38 = .ok (.istore 4, 2) := fd_get adX1_isSoundView_1 (k := 6) rfl
theorem dX1_isSoundView_40 : decode cX1_isSoundView 40 = .ok (.aload_n 0, 1) := fd_get adX1_isSoundView_1 (k := 7) rfl
theorem dX1_isSoundView_41 : decode cX1_isSoundView 41 = .ok (.aload_n 0, 1) := fd_get adX1_isSoundView_1 (k := 8) rfl
theorem dX1_isSoundView_42 : decode cX1_isSoundView 42 = .ok (.getfield 9, 3) := fd_get adX1_isSoundView_1 (k := 9) rfl
theorem dX1_isSoundView_45 : decode cX1_isSoundView 45 = .ok (.iload_n 3, 1) := fd_get adX1_isSoundView_1 (k := 10) rfl
theorem dX1_isSoundView_46 : decode cX1_isSoundView 46 = .ok (.invokevirtual 60, 3) := fd_get adX1_isSoundView_1 (k := 11) rfl
theorem dX1_isSoundView_49 : decode cX1_isSoundView 49 = .ok (.invokevirtual 63, 3) := fd_get adX1_isSoundView_1 (k := 12) rfl
theorem dX1_isSoundView_52 : decode cX1_isSoundView 52 = .ok (.iload 4, 2) := fd_get adX1_isSoundView_1 (k := 13) rfl
theorem dX1_isSoundView_54 : decode cX1_isSoundView 54 = .ok (.if_icmp .eq 5, 3) := fd_get adX1_isSoundView_1 (k := 14) rfl
theorem dX1_isSoundView_57 : decode cX1_isSoundView 57 = .ok (.iconst 0, 1) := fd_get adX1_isSoundView_1 (k := 15) rfl
theorem dX1_isSoundView_58 : decode cX1_isSoundView 58 = .ok (.ireturn, 1) := fd_get adX1_isSoundView_2 (k := 0) rfl
theorem dX1_isSoundView_59 : decode cX1_isSoundView 59 = .ok (.iinc 3 1, 3) := fd_get adX1_isSoundView_2 (k := 1) rfl
theorem dX1_isSoundView_62 : decode cX1_isSoundView 62 = .ok (.goto (-50), 3) := fd_get adX1_isSoundView_2 (k := 2) rfl
theorem dX1_isSoundView_65 : decode cX1_isSoundView 65 = .ok (.iconst 1, 1) := fd_get adX1_isSoundView_2 (k := 3) rfl
theorem dX1_isSoundView_66 : decode cX1_isSoundView 66 = .ok (.ireturn, 1) := fd_get adX1_isSoundView_2 (k := 4) rfl
theorem mwsX2_init_1 : ∀ w ∈ wsX10, w ∈ wsX2_init := fun w h => (List.mem_cons_of_mem _ (List.mem_append_left _ (List.mem_append_right _ h)))
theorem mwsX2_init_2 : ∀ w ∈ wsX00, w ∈ wsX2_init := fun w h => (List.mem_cons_of_mem _ (List.mem_append_right _ h))
set_option maxRecDepth 20000 in
theorem ggX2_init_X1_book : GoodIn wsX2_init wsX1_book := goodIn_sub (List.forall_mem_cons.mpr ⟨(List.mem_cons_of_mem _ (List.mem_append_left _ (List.mem_append_left _ (List.mem_append_left _ (List.mem_of_getElem? (i := 10) rfl))))), (List.forall_mem_cons.mpr ⟨(List.mem_cons_of_mem _ (List.mem_append_left _ (List.mem_append_left _ (List.mem_append_left _ (List.mem_of_getElem? (i := 11) rfl))))), (tk_mem 7 _ (fun w h => (mwsX2_init_1 _ (tkB_mem 0 7 h))) (fun _ h => absurd h List.not_mem_nil))⟩)⟩) (by decide +kernel)
set_option maxRecDepth 20000 in
theorem gX2_init_X1_book : GoodIn wsX2_init (wsV RX2 19 RX1 yX1_book wsX1_book) := goodIn_app (goodIn_sub (tk_mem 4 _ (fun w h => (List.mem_cons_of_mem _ (List.mem_append_left _ (List.mem_append_left _ (List.mem_append_left _ (tkB_mem 6 4 h)))))) (fun _ h => absurd h List.not_mem_nil)) (by decide +kernel)) ggX2_init_X1_book
set_option maxRecDepth 20000 in
theorem ggX2_init_X0_keyChanges : GoodIn wsX2_init wsX0_keyChanges := goodIn_sub (List.forall_mem_cons.mpr ⟨(List.mem_cons_of_mem _ (List.mem_append_left _ (List.mem_append_left _ (List.mem_append_left _ (List.mem_of_getElem? (i := 16) rfl))))), (List.forall_mem_cons.mpr ⟨(List.mem_cons_of_mem _ (List.mem_append_left _ (List.mem_append_left _ (List.mem_append_left _ (List.mem_of_getElem? (i := 17) rfl))))), (tk_mem 7 _ (fun w h => (mwsX2_init_2 _ (tkB_mem 0 7 h))) (fun _ h => absurd h List.not_mem_nil))⟩)⟩) (by decide +kernel)
set_option maxRecDepth 20000 in
theorem gX2_init_X0_keyChanges : GoodIn wsX2_init (wsV RX2 25 RX0 yX0_keyChanges wsX0_keyChanges) := goodIn_app (goodIn_sub (tk_mem 4 _ (fun w h => (List.mem_cons_of_mem _ (List.mem_append_left _ (List.mem_append_left _ (List.mem_append_left _ (tkB_mem 12 4 h)))))) (fun _ h => absurd h List.not_mem_nil)) (by decide +kernel)) ggX2_init_X0_keyChanges
theorem adX2_init_0 : fd_rows (cX2_init.data.toList.drop 0) 0 [(0, some (.aload_n 0), 1), (1, some (.invokespecial 3), 3), (4, some (.aload_n 0), 1), (5, some (.aload_n 1), 1), (6, some (.putfield 9), 3), (9, some (.aload_n 0), 1), (10, some (.sipush (-10000)), 3), (13, some (.putfield 15), 3), (16, some (.aload_n 0), 1), (17, some (.aload_n 1), 1), (18, some (.invokevirtual 19), 3), (21, some (.invokevirtual 25), 3), (24, some (.putfield 31), 3), (27, some (.return_), 1)] = true := by decide +kernel
theorem dX2_init_0 : decode cX2_init 0 = .ok (.aload_n 0, 1) := fd_get adX2_init_0 (k := 0) rfl
theorem dX2_init_1 : decode cX2_init 1 = .ok (.invokespecial 3, 3) := fd_get adX2_init_0 (k := 1) rfl
theorem dX2_init_4 : decode cX2_init 4 = .ok (.aload_n 0, 1) := fd_get adX2_init_0 (k := 2) rfl
theorem dX2_init_5 : decode cX2_init 5 = .ok (.aload_n 1, 1) := fd_get adX2_init_0 (k := 3) rfl
theorem dX2_init_6 : decode cX2_init 6 = .ok (.putfield 9, 3) := fd_get adX2_init_0 (k := 4) rfl
theorem dX2_init_9 : decode cX2_init 9 = .ok (.aload_n 0, 1) := fd_get adX2_init_0 (k := 5) rfl
theorem dX2_init_10 : decode cX2_init 10 = .ok (.sipush (-10000), 3) := fd_get adX2_init_0 (k := 6) rfl
theorem dX2_init_13 : decode cX2_init 13 = .ok (.putfield 15, 3) := fd_get adX2_init_0 (k := 7) rfl
theorem dX2_init_16 : decode cX2_init 16 = .ok (.aload_n 0, 1) := fd_get adX2_init_0 (k := 8) rfl
theorem dX2_init_17 : decode cX2_init 17 = .ok (.aload_n 1, 1) := fd_get adX2_init_0 (k := 9) rfl
theorem dX2_init_18 : decode cX2_init 18 = .ok (.invokevirtual 19, 3) := fd_get adX2_init_0 (k := 10) rfl
theorem dX2_init_21 : decode cX2_init 21 = .ok (.invokevirtual 25, 3) := fd_get adX2_init_0 (k := 11) rfl
theorem dX2_init_24 : decode cX2_init 24 = .ok (.putfield 31, 3) := fd_get adX2_init_0 (k := 12) rfl
theorem dX2_init_27 : decode cX2_init 27 = .ok (.return_, 1) := fd_get adX2_init_0 (k := 13) rfl
theorem mwsX2_book_1 : ∀ w ∈ wsX10, w ∈ wsX2_book := fun w h => (List.mem_cons_of_mem _ (List.mem_append_right _ h))
set_option maxRecDepth 20000 in
theorem ggX2_book_X1_book : GoodIn wsX2_book wsX1_book := goodIn_sub (List.forall_mem_cons.mpr ⟨(List.mem_cons_of_mem _ (List.mem_append_left _ (List.mem_append_left _ (List.mem_of_getElem? (i := 5) rfl)))), (List.forall_mem_cons.mpr ⟨(List.mem_cons_of_mem _ (List.mem_append_left _ (List.mem_append_left _ (List.mem_of_getElem? (i := 6) rfl)))), (tk_mem 7 _ (fun w h => (mwsX2_book_1 _ (tkB_mem 0 7 h))) (fun _ h => absurd h List.not_mem_nil))⟩)⟩) (by decide +kernel)
set_option maxRecDepth 20000 in
theorem gX2_book_X1_book : GoodIn wsX2_book (wsV RX2 19 RX1 yX1_book wsX1_book) := goodIn_app (goodIn_sub (tk_mem 4 _ (fun w h => (List.mem_cons_of_mem _ (List.mem_append_left _ (List.mem_append_left _ (tkB_mem 1 4 h))))) (fun _ h => absurd h List.not_mem_nil)) (by decide +kernel)) ggX2_book_X1_book
theorem adX2_book_0 : fd_rows (cX2_book.data.toList.drop 0) 0 [(0, some (.aload_n 0), 1), (1, some (.getfield 9), 3), (4, some (.invokevirtual 19), 3), (7, some (.areturn), 1)] = true := by decide +kernel
theorem dX2_book_0 : decode cX2_book 0 = .ok (.aload_n 0, 1) := fd_get adX2_book_0 (k := 0) rfl
theorem dX2_book_1 : decode cX2_book 1 = .ok (.getfield 9, 3) := fd_get adX2_book_0 (k := 1) rfl
theorem dX2_book_4 : decode cX2_book 4 = .ok (.invokevirtual 19, 3) := fd_get adX2_book_0 (k := 2) rfl
theorem dX2_book_7 : decode cX2_book 7 = .ok (.areturn, 1) := fd_get adX2_book_0 (k := 3) rfl
theorem mwsX2_isBroken_0 : ∀ w ∈ wsX20, w ∈ wsX2_isBroken := fun w h => (List.mem_cons_of_mem _ (List.mem_append_left _ (List.mem_append_left _ (List.mem_append_right _ h))))
theorem mwsX2_isBroken_1 : ∀ w ∈ wsX10, w ∈ wsX2_isBroken := fun w h => (List.mem_cons_of_mem _ (List.mem_append_left _ (List.mem_append_right _ h)))
theorem mwsX2_isBroken_2 : ∀ w ∈ wsX00, w ∈ wsX2_isBroken := fun w h => (List.mem_cons_of_mem _ (List.mem_append_right _ h))
set_option maxRecDepth 20000 in
theorem ggX2_isBroken_X2_book : GoodIn wsX2_isBroken wsX2_book := goodIn_sub (tk_mem 8 _ (fun w h => (List.mem_cons_of_mem _ (List.mem_append_left _ (List.mem_append_left _ (List.mem_append_left _ (tkB_mem 5 8 h)))))) (tk_mem 5 _ (fun w h => (mwsX2_isBroken_0 _ (tkB_mem 0 5 h))) (tk_mem 7 _ (fun w h => (mwsX2_isBroken_1 _ (tkB_mem 0 7 h))) (fun _ h => absurd h List.not_mem_nil)))) (by decide +kernel)
set_option maxRecDepth 20000 in
theorem gX2_isBroken_X2_book : GoodIn wsX2_isBroken (wsV RX2 33 RX2 yX2_book wsX2_book) := goodIn_app (goodIn_sub (tk_mem 4 _ (fun w h => (List.mem_cons_of_mem _ (List.mem_append_left _ (List.mem_append_left _ (List.mem_append_left _ (tkB_mem 1 4 h)))))) (fun _ h => absurd h List.not_mem_nil)) (by decide +kernel)) ggX2_isBroken_X2_book
set_option maxRecDepth 20000 in
theorem ggX2_isBroken_X0_keyChanges : GoodIn wsX2_isBroken wsX0_keyChanges := goodIn_sub (List.forall_mem_cons.mpr ⟨(List.mem_cons_of_mem _ (List.mem_append_left _ (List.mem_append_left _ (List.mem_append_left _ (List.mem_of_getElem? (i := 17) rfl))))), (List.forall_mem_cons.mpr ⟨(List.mem_cons_of_mem _ (List.mem_append_left _ (List.mem_append_left _ (List.mem_append_left _ (List.mem_of_getElem? (i := 18) rfl))))), (tk_mem 7 _ (fun w h => (mwsX2_isBroken_2 _ (tkB_mem 0 7 h))) (fun _ h => absurd h List.not_mem_nil))⟩)⟩) (by decide +kernel)
set_option maxRecDepth 20000 in
theorem gX2_isBroken_X0_keyChanges : GoodIn wsX2_isBroken (wsV RX2 25 RX0 yX0_keyChanges wsX0_keyChanges) := goodIn_app (goodIn_sub (tk_mem 4 _ (fun w h => (List.mem_cons_of_mem _ (List.mem_append_left _ (List.mem_append_left _ (List.mem_append_left _ (tkB_mem 13 4 h)))))) (fun _ h => absurd h List.not_mem_nil)) (by decide +kernel)) ggX2_isBroken_X0_keyChanges
theorem adX2_isBroken_0 : fd_rows (cX2_isBroken.data.toList.drop 0) 0 [(0, some (.aload_n 0), 1), (1, some (.getfield 31), 3), (4, some (.aload_n 0), 1), (5, some (.invokevirtual 33), 3), (8, some (.invokevirtual 25), 3), (11, some (.if_icmp .eq 7), 3), (14, some (.iconst 1), 1), (15, some (.goto 4), 3), (18, some (.iconst 0), 1), (19, some (.ireturn), 1)] = true := by decide +kernel
theorem dX2_isBroken_0 : decode cX2_isBroken 0 = .ok (.aload_n 0, 1) := fd_get adX2_isBroken_0 (k := 0) rfl
theorem dX2_isBroken_1 : decode cX2_isBroken 1 = .ok (.getfield 31, 3) := fd_get adX2_isBroken_0 (k := 1) rfl
theorem dX2_isBroken_4 : decode cX2_isBroken 4 = .ok (.aload_n 0, 1) := fd_get adX2_isBroken_0 (k := 2) rfl
theorem dX2_isBroken_5 : decode cX2_isBroken 5 = .ok (.invokevirtual 33, 3) := fd_get adX2_isBroken_0 (k := 3) rfl
theorem dX2_isBroken_8 : decode cX2_isBroken 8 = .ok (.invokevirtual 25, 3) := fd_get adX2_isBroken_0 (k := 4) rfl
theorem dX2_isBroken_11 : decode cX2_isBroken 11 = .ok (.if_icmp .eq 7, 3) := fd_get adX2_isBroken_0 (k := 5) rfl
theorem dX2_isBroken_14 : decode cX2_isBroken 14 = .ok (.iconst 1, 1) := fd_get adX2_isBroken_0 (k := 6) rfl
theorem dX2_isBroken_15 : decode cX2_isBroken 15 = .ok (.goto 4, 3) := fd_get adX2_isBroken_0 (k := 7) rfl
theorem dX2_isBroken_18 : decode cX2_isBroken 18 = .ok (.iconst 0, 1) := fd_get adX2_isBroken_0 (k := 8) rfl
theorem dX2_isBroken_19 : decode cX2_isBroken 19 = .ok (.ireturn, 1) := fd_get adX2_isBroken_0 (k := 9) rfl
theorem adX2_canDrop_0 : fd_rows (cX2_canDrop.data.toList.drop 0) 0 [(0, some (.aload_n 0), 1), (1, some (.getfield 34), 3), (4, some (.ireturn), 1)] = true := by decide +kernel
theorem dX2_canDrop_0 : decode cX2_canDrop 0 = .ok (.aload_n 0, 1) := fd_get adX2_canDrop_0 (k := 0) rfl
theorem dX2_canDrop_1 : decode cX2_canDrop 1 = .ok (.getfield 34, 3) := fd_get adX2_canDrop_0 (k := 1) rfl
theorem dX2_canDrop_4 : decode cX2_canDrop 4 = .ok (.ireturn, 1) := fd_get adX2_canDrop_0 (k := 2) rfl
theorem mwsX2_keyAtHand_0 : ∀ w ∈ wsX20, w ∈ wsX2_keyAtHand := fun w h => (List.mem_cons_of_mem _ (List.mem_append_left _ (List.mem_append_left _ (List.mem_append_right _ h))))
theorem mwsX2_keyAtHand_1 : ∀ w ∈ wsX10, w ∈ wsX2_keyAtHand := fun w h => (List.mem_cons_of_mem _ (List.mem_append_left _ (List.mem_append_right _ h)))
theorem mwsX2_keyAtHand_2 : ∀ w ∈ wsX00, w ∈ wsX2_keyAtHand := fun w h => (List.mem_cons_of_mem _ (List.mem_append_right _ h))
set_option maxRecDepth 20000 in
theorem ggX2_keyAtHand_X2_book : GoodIn wsX2_keyAtHand wsX2_book := goodIn_sub (tk_mem 8 _ (fun w h => (List.mem_cons_of_mem _ (List.mem_append_left _ (List.mem_append_left _ (List.mem_append_left _ (tkB_mem 7 8 h)))))) (tk_mem 5 _ (fun w h => (mwsX2_keyAtHand_0 _ (tkB_mem 0 5 h))) (tk_mem 7 _ (fun w h => (mwsX2_keyAtHand_1 _ (tkB_mem 0 7 h))) (fun _ h => absurd h List.not_mem_nil)))) (by decide +kernel)
set_option maxRecDepth 20000 in
theorem gX2_keyAtHand_X2_book : GoodIn wsX2_keyAtHand (wsV RX2 33 RX2 yX2_book wsX2_book) := goodIn_app (goodIn_sub (tk_mem 4 _ (fun w h => (List.mem_cons_of_mem _ (List.mem_append_left _ (List.mem_append_left _ (List.mem_append_left _ (tkB_mem 3 4 h)))))) (fun _ h => absurd h List.not_mem_nil)) (by decide +kernel)) ggX2_keyAtHand_X2_book
set_option maxRecDepth 20000 in
theorem ggX2_keyAtHand_X0_touches : GoodIn wsX2_keyAtHand wsX0_touches := goodIn_sub (List.forall_mem_cons.mpr ⟨(List.mem_cons_of_mem _ (List.mem_append_left _ (List.mem_append_left _ (List.mem_append_left _ (List.mem_of_getElem? (i := 19) rfl))))), (List.forall_mem_cons.mpr ⟨(List.mem_cons_of_mem _ (List.mem_append_left _ (List.mem_append_left _ (List.mem_append_left _ (List.mem_of_getElem? (i := 20) rfl))))), (tk_mem 7 _ (fun w h => (mwsX2_keyAtHand_2 _ (tkB_mem 0 7 h))) (fun _ h => absurd h List.not_mem_nil))⟩)⟩) (by decide +kernel)
set_option maxRecDepth 20000 in
theorem gX2_keyAtHand_X0_touches : GoodIn wsX2_keyAtHand (wsV RX2 41 RX0 yX0_touches wsX0_touches) := goodIn_app (goodIn_sub (tk_mem 4 _ (fun w h => (List.mem_cons_of_mem _ (List.mem_append_left _ (List.mem_append_left _ (List.mem_append_left _ (tkB_mem 15 4 h)))))) (fun _ h => absurd h List.not_mem_nil)) (by decide +kernel)) ggX2_keyAtHand_X0_touches
theorem adX2_keyAtHand_0 : fd_rows (cX2_keyAtHand.data.toList.drop 0) 0 [(0, some (.aload_n 0), 1), (1, some (.getfield 34), 3), (4, some (.ifCond .eq 24), 3), (7, some (.aload_n 0), 1), (8, some (.getfield 38), 3), (11, some (.aload_n 0), 1), (12, some (.invokevirtual 33), 3), (15, some (.invokevirtual 41), 3), (18, some (.if_icmp .ne 10), 3), (21, some (.aload_n 0), 1), (22, some (.getfield 15), 3), (25, some (.goto 6), 3), (28, some (.sipush (-10000)), 3), (31, some (.ireturn), 1)] = true := by decide +kernel
theorem dX2_keyAtHand_0 : decode cX2_keyAtHand 0 = .ok (.aload_n 0, 1) := fd_get adX2_keyAtHand_0 (k := 0) rfl
theorem dX2_keyAtHand_1 : decode cX2_keyAtHand 1 = .ok (.getfield 34, 3) := fd_get adX2_keyAtHand_0 (k := 1) rfl
theorem dX2_keyAtHand_4 : decode cX2_keyAtHand 4 = .ok (.ifCond .eq 24, 3) := fd_get adX2_keyAtHand_0 (k := 2) rfl
theorem dX2_keyAtHand_7 : decode cX2_keyAtHand 7 = .ok (.aload_n 0, 1) := fd_get adX2_keyAtHand_0 (k := 3) rfl
theorem dX2_keyAtHand_8 : decode cX2_keyAtHand 8 = .ok (.getfield 38, 3) := fd_get adX2_keyAtHand_0 (k := 4) rfl
theorem dX2_keyAtHand_11 : decode cX2_keyAtHand 11 = .ok (.aload_n 0, 1) := fd_get adX2_keyAtHand_0 (k := 5) rfl
theorem dX2_keyAtHand_12 : decode cX2_keyAtHand 12 = .ok (.invokevirtual 33, 3) := fd_get adX2_keyAtHand_0 (k := 6) rfl
theorem dX2_keyAtHand_15 : decode cX2_keyAtHand 15 = .ok (.invokevirtual 41, 3) := fd_get adX2_keyAtHand_0 (k := 7) rfl
theorem dX2_keyAtHand_18 : decode cX2_keyAtHand 18 = .ok (.if_icmp .ne 10, 3) := fd_get adX2_keyAtHand_0 (k := 8) rfl
theorem dX2_keyAtHand_21 : decode cX2_keyAtHand 21 = .ok (.aload_n 0, 1) := fd_get adX2_keyAtHand_0 (k := 9) rfl
theorem dX2_keyAtHand_22 : decode cX2_keyAtHand 22 = .ok (.getfield 15, 3) := fd_get adX2_keyAtHand_0 (k := 10) rfl
theorem dX2_keyAtHand_25 : decode cX2_keyAtHand 25 = .ok (.goto 6, 3) := fd_get adX2_keyAtHand_0 (k := 11) rfl
theorem dX2_keyAtHand_28 : decode cX2_keyAtHand 28 = .ok (.sipush (-10000), 3) := fd_get adX2_keyAtHand_0 (k := 12) rfl
theorem dX2_keyAtHand_31 : decode cX2_keyAtHand 31 = .ok (.ireturn, 1) := fd_get adX2_keyAtHand_0 (k := 13) rfl
theorem mwsX2_advance_0 : ∀ w ∈ wsX2_advance_r1, w ∈ wsX2_advance := fun w h => (List.mem_cons_of_mem _ (List.mem_append_left _ (List.mem_append_left _ (List.mem_append_left _ (List.mem_append_left _ h)))))
theorem mwsX2_advance_1 : ∀ w ∈ wsX2_advance_r2, w ∈ wsX2_advance := fun w h => (List.mem_cons_of_mem _ (List.mem_append_left _ (List.mem_append_left _ (List.mem_append_left _ (List.mem_append_right _ (List.mem_append_left _ h))))))
theorem mwsX2_advance_2 : ∀ w ∈ wsX2_advance_r3, w ∈ wsX2_advance := fun w h => (List.mem_cons_of_mem _ (List.mem_append_left _ (List.mem_append_left _ (List.mem_append_left _ (List.mem_append_right _ (List.mem_append_right _ h))))))
theorem mwsX2_advance_3 : ∀ w ∈ wsX20, w ∈ wsX2_advance := fun w h => (List.mem_cons_of_mem _ (List.mem_append_left _ (List.mem_append_left _ (List.mem_append_right _ h))))
theorem mwsX2_advance_4 : ∀ w ∈ wsX10, w ∈ wsX2_advance := fun w h => (List.mem_cons_of_mem _ (List.mem_append_left _ (List.mem_append_right _ h)))
theorem mwsX2_advance_5 : ∀ w ∈ wsX00, w ∈ wsX2_advance := fun w h => (List.mem_cons_of_mem _ (List.mem_append_right _ h))
set_option maxRecDepth 20000 in
theorem ggX2_advance_X1_start : GoodIn wsX2_advance wsX1_start := goodIn_sub (tk_mem 15 _ (fun w h => (mwsX2_advance_0 _ (tkB_mem 8 15 h))) (tk_mem 7 _ (fun w h => (mwsX2_advance_4 _ (tkB_mem 0 7 h))) (tk_mem 7 _ (fun w h => (mwsX2_advance_5 _ (tkB_mem 0 7 h))) (fun _ h => absurd h List.not_mem_nil)))) (by decide +kernel)
set_option maxRecDepth 20000 in
theorem gX2_advance_X1_start : GoodIn wsX2_advance (wsV RX2 43 RX1 yX1_start wsX1_start) := goodIn_app (goodIn_sub (tk_mem 4 _ (fun w h => (mwsX2_advance_0 _ (tkB_mem 4 4 h))) (fun _ h => absurd h List.not_mem_nil)) (by decide +kernel)) ggX2_advance_X1_start
set_option maxRecDepth 20000 in
theorem ggX2_advance_X2_book : GoodIn wsX2_advance wsX2_book := goodIn_sub (List.forall_mem_cons.mpr ⟨(mwsX2_advance_1 _ (List.mem_of_getElem? (i := 3) rfl)), (List.forall_mem_cons.mpr ⟨(mwsX2_advance_0 _ (List.mem_of_getElem? (i := 1) rfl)), (List.forall_mem_cons.mpr ⟨(mwsX2_advance_1 _ (List.mem_of_getElem? (i := 4) rfl)), (List.forall_mem_cons.mpr ⟨(mwsX2_advance_1 _ (List.mem_of_getElem? (i := 5) rfl)), (List.forall_mem_cons.mpr ⟨(mwsX2_advance_1 _ (List.mem_of_getElem? (i := 6) rfl)), (List.forall_mem_cons.mpr ⟨(mwsX2_advance_0 _ (List.mem_of_getElem? (i := 7) rfl)), (List.forall_mem_cons.mpr ⟨(mwsX2_advance_1 _ (List.mem_of_getElem? (i := 7) rfl)), (List.forall_mem_cons.mpr ⟨(mwsX2_advance_0 _ (List.mem_of_getElem? (i := 9) rfl)), (tk_mem 5 _ (fun w h => (mwsX2_advance_3 _ (tkB_mem 0 5 h))) (tk_mem 7 _ (fun w h => (mwsX2_advance_4 _ (tkB_mem 0 7 h))) (fun _ h => absurd h List.not_mem_nil)))⟩)⟩)⟩)⟩)⟩)⟩)⟩)⟩) (by decide +kernel)
set_option maxRecDepth 20000 in
theorem gX2_advance_X2_book : GoodIn wsX2_advance (wsV RX2 33 RX2 yX2_book wsX2_book) := goodIn_app (goodIn_sub (List.forall_mem_cons.mpr ⟨(mwsX2_advance_0 _ (List.mem_of_getElem? (i := 23) rfl)), (List.forall_mem_cons.mpr ⟨(mwsX2_advance_1 _ (List.mem_of_getElem? (i := 0) rfl)), (List.forall_mem_cons.mpr ⟨(mwsX2_advance_1 _ (List.mem_of_getElem? (i := 1) rfl)), (List.forall_mem_cons.mpr ⟨(mwsX2_advance_1 _ (List.mem_of_getElem? (i := 2) rfl)), (fun _ h => absurd h List.not_mem_nil)⟩)⟩)⟩)⟩) (by decide +kernel)) ggX2_advance_X2_book
set_option maxRecDepth 20000 in
theorem ggX2_advance_X0_placeBehind : GoodIn wsX2_advance wsX0_placeBehind := goodIn_sub (List.forall_mem_cons.mpr ⟨(mwsX2_advance_1 _ (List.mem_of_getElem? (i := 11) rfl)), (List.forall_mem_cons.mpr ⟨(mwsX2_advance_0 _ (List.mem_of_getElem? (i := 18) rfl)), (List.forall_mem_cons.mpr ⟨(mwsX2_advance_0 _ (List.mem_of_getElem? (i := 19) rfl)), (List.forall_mem_cons.mpr ⟨(mwsX2_advance_0 _ (List.mem_of_getElem? (i := 20) rfl)), (List.forall_mem_cons.mpr ⟨(mwsX2_advance_0 _ (List.mem_of_getElem? (i := 14) rfl)), (List.forall_mem_cons.mpr ⟨(mwsX2_advance_0 _ (List.mem_of_getElem? (i := 21) rfl)), (List.forall_mem_cons.mpr ⟨(mwsX2_advance_0 _ (List.mem_of_getElem? (i := 22) rfl)), (List.forall_mem_cons.mpr ⟨(mwsX2_advance_1 _ (List.mem_of_getElem? (i := 12) rfl)), (List.forall_mem_cons.mpr ⟨(mwsX2_advance_0 _ (List.mem_of_getElem? (i := 12) rfl)), (List.forall_mem_cons.mpr ⟨(mwsX2_advance_0 _ (List.mem_of_getElem? (i := 13) rfl)), (List.forall_mem_cons.mpr ⟨(mwsX2_advance_0 _ (List.mem_of_getElem? (i := 15) rfl)), (List.forall_mem_cons.mpr ⟨(mwsX2_advance_0 _ (List.mem_of_getElem? (i := 16) rfl)), (List.forall_mem_cons.mpr ⟨(mwsX2_advance_0 _ (List.mem_of_getElem? (i := 17) rfl)), (tk_mem 7 _ (fun w h => (mwsX2_advance_5 _ (tkB_mem 0 7 h))) (fun _ h => absurd h List.not_mem_nil))⟩)⟩)⟩)⟩)⟩)⟩)⟩)⟩)⟩)⟩)⟩)⟩)⟩) (by decide +kernel)
set_option maxRecDepth 20000 in
theorem gX2_advance_X0_placeBehind : GoodIn wsX2_advance (wsV RX2 46 RX0 yX0_placeBehind wsX0_placeBehind) := goodIn_app (goodIn_sub (List.forall_mem_cons.mpr ⟨(mwsX2_advance_1 _ (List.mem_of_getElem? (i := 8) rfl)), (List.forall_mem_cons.mpr ⟨(mwsX2_advance_1 _ (List.mem_of_getElem? (i := 9) rfl)), (List.forall_mem_cons.mpr ⟨(mwsX2_advance_1 _ (List.mem_of_getElem? (i := 10) rfl)), (List.forall_mem_cons.mpr ⟨(mwsX2_advance_0 _ (List.mem_of_getElem? (i := 14) rfl)), (fun _ h => absurd h List.not_mem_nil)⟩)⟩)⟩)⟩) (by decide +kernel)) ggX2_advance_X0_placeBehind
set_option maxRecDepth 20000 in
theorem ggX2_advance_X1_end : GoodIn wsX2_advance wsX1_end := goodIn_sub (List.forall_mem_cons.mpr ⟨(mwsX2_advance_1 _ (List.mem_of_getElem? (i := 16) rfl)), (List.forall_mem_cons.mpr ⟨(mwsX2_advance_0 _ (List.mem_of_getElem? (i := 9) rfl)), (List.forall_mem_cons.mpr ⟨(mwsX2_advance_1 _ (List.mem_of_getElem? (i := 17) rfl)), (tk_mem 12 _ (fun w h => (mwsX2_advance_0 _ (tkB_mem 11 12 h))) (tk_mem 7 _ (fun w h => (mwsX2_advance_4 _ (tkB_mem 0 7 h))) (tk_mem 7 _ (fun w h => (mwsX2_advance_5 _ (tkB_mem 0 7 h))) (fun _ h => absurd h List.not_mem_nil))))⟩)⟩)⟩) (by decide +kernel)
set_option maxRecDepth 20000 in
theorem gX2_advance_X1_end : GoodIn wsX2_advance (wsV RX2 50 RX1 yX1_end wsX1_end) := goodIn_app (goodIn_sub (List.forall_mem_cons.mpr ⟨(mwsX2_advance_1 _ (List.mem_of_getElem? (i := 13) rfl)), (List.forall_mem_cons.mpr ⟨(mwsX2_advance_1 _ (List.mem_of_getElem? (i := 14) rfl)), (List.forall_mem_cons.mpr ⟨(mwsX2_advance_1 _ (List.mem_of_getElem? (i := 15) rfl)), (List.forall_mem_cons.mpr ⟨(mwsX2_advance_0 _ (List.mem_of_getElem? (i := 7) rfl)), (fun _ h => absurd h List.not_mem_nil)⟩)⟩)⟩)⟩) (by decide +kernel)) ggX2_advance_X1_end
set_option maxRecDepth 20000 in
theorem ggX2_advance_X0_keyAt : GoodIn wsX2_advance wsX0_keyAt := goodIn_sub (List.forall_mem_cons.mpr ⟨(mwsX2_advance_1 _ (List.mem_of_getElem? (i := 21) rfl)), (List.forall_mem_cons.mpr ⟨(mwsX2_advance_0 _ (List.mem_of_getElem? (i := 17) rfl)), (List.forall_mem_cons.mpr ⟨(mwsX2_advance_1 _ (List.mem_of_getElem? (i := 22) rfl)), (List.forall_mem_cons.mpr ⟨(mwsX2_advance_1 _ (List.mem_of_getElem? (i := 23) rfl)), (List.forall_mem_cons.mpr ⟨(mwsX2_advance_2 _ (List.mem_of_getElem? (i := 0) rfl)), (List.forall_mem_cons.mpr ⟨(mwsX2_advance_0 _ (List.mem_of_getElem? (i := 14) rfl)), (List.forall_mem_cons.mpr ⟨(mwsX2_advance_2 _ (List.mem_of_getElem? (i := 1) rfl)), (List.forall_mem_cons.mpr ⟨(mwsX2_advance_0 _ (List.mem_of_getElem? (i := 16) rfl)), (tk_mem 7 _ (fun w h => (mwsX2_advance_5 _ (tkB_mem 0 7 h))) (fun _ h => absurd h List.not_mem_nil))⟩)⟩)⟩)⟩)⟩)⟩)⟩)⟩) (by decide +kernel)
set_option maxRecDepth 20000 in
theorem gX2_advance_X0_keyAt : GoodIn wsX2_advance (wsV RX2 53 RX0 yX0_keyAt wsX0_keyAt) := goodIn_app (goodIn_sub (List.forall_mem_cons.mpr ⟨(mwsX2_advance_1 _ (List.mem_of_getElem? (i := 18) rfl)), (List.forall_mem_cons.mpr ⟨(mwsX2_advance_1 _ (List.mem_of_getElem? (i := 19) rfl)), (List.forall_mem_cons.mpr ⟨(mwsX2_advance_1 _ (List.mem_of_getElem? (i := 20) rfl)), (List.forall_mem_cons.mpr ⟨(mwsX2_advance_0 _ (List.mem_of_getElem? (i := 14) rfl)), (fun _ h => absurd h List.not_mem_nil)⟩)⟩)⟩)⟩) (by decide +kernel)) ggX2_advance_X0_keyAt
set_option maxRecDepth 20000 in
theorem ggX2_advance_X0_touches : GoodIn wsX2_advance wsX0_touches := goodIn_sub (List.forall_mem_cons.mpr ⟨(mwsX2_advance_2 _ (List.mem_of_getElem? (i := 5) rfl)), (List.forall_mem_cons.mpr ⟨(mwsX2_advance_2 _ (List.mem_of_getElem? (i := 6) rfl)), (tk_mem 7 _ (fun w h => (mwsX2_advance_5 _ (tkB_mem 0 7 h))) (fun _ h => absurd h List.not_mem_nil))⟩)⟩) (by decide +kernel)
set_option maxRecDepth 20000 in
theorem gX2_advance_X0_touches : GoodIn wsX2_advance (wsV RX2 41 RX0 yX0_touches wsX0_touches) := goodIn_app (goodIn_sub (List.forall_mem_cons.mpr ⟨(mwsX2_advance_2 _ (List.mem_of_getElem? (i := 2) rfl)), (List.forall_mem_cons.mpr ⟨(mwsX2_advance_2 _ (List.mem_of_getElem? (i := 3) rfl)), (List.forall_mem_cons.mpr ⟨(mwsX2_advance_2 _ (List.mem_of_getElem? (i := 4) rfl)), (List.forall_mem_cons.mpr ⟨(mwsX2_advance_0 _ (List.mem_of_getElem? (i := 14) rfl)), (fun _ h => absurd h List.not_mem_nil)⟩)⟩)⟩)⟩) (by decide +kernel)) ggX2_advance_X0_touches
theorem adX2_advance_0 : fd_rows (cX2_advance.data.toList.drop 0) 0 [(0, some (.aload_n 0), 1), (1, some (.getfield 15), 3), (4, some (.sipush (-10000)), 3), (7, some (.if_icmp .ne 13), 3), (10, some (.aload_n 0), 1), (11, some (.getfield 9), 3), (14, some (.invokevirtual 43), 3), (17, some (.goto 14), 3), (20, some (.aload_n 0), 1), (21, some (.invokevirtual 33), 3), (24, some (.aload_n 0), 1), (25, some (.getfield 15), 3), (28, some (.invokevirtual 46), 3), (31, some (.istore_n 1), 1), (32, some (.iload_n 1), 1), (33, some (.aload_n 0), 1)] = true := by decide +kernel
theorem adX2_advance_1 : fd_rows (cX2_advance.data.toList.drop 34) 34 [(34, some (.getfield 9), 3), (37, some (.invokevirtual 50), 3), (40, some (.if_icmp .lt 7), 3), (43, some (.sipush (-10000)), 3), (46, some (.ireturn), 1), (47, some (.aload_n 0), 1), (48, some (.aload_n 0), 1), (49, some (.invokevirtual 33), 3), (52, some (.iload_n 1), 1), (53, some (.invokevirtual 53), 3), (56, some (.putfield 15), 3), (59, some (.aload_n 0), 1), (60, some (.iconst 1), 1), (61, some (.putfield 34), 3), (64, some (.aload_n 0), 1), (65, some (.aload_n 0), 1)] = true := by decide +kernel
theorem adX2_advance_2 : fd_rows (cX2_advance.data.toList.drop 66) 66 [(66, some (.invokevirtual 33), 3), (69, some (.invokevirtual 41), 3), (72, some (.putfield 38), 3), (75, some (.aload_n 0), 1), (76, some (.getfield 15), 3), (79, some (.ireturn), 1)] = true := by decide +kernel
theorem dX2_advance_0 : decode cX2_advance 0 = .ok (.aload_n 0, 1) := fd_get adX2_advance_0 (k := 0) rfl
theorem dX2_advance_1 : decode cX2_advance 1 = .ok (.getfield 15, 3) := fd_get adX2_advance_0 (k := 1) rfl
theorem dX2_advance_4 : decode cX2_advance 4 = .ok (.sipush (-10000), 3) := fd_get adX2_advance_0 (k := 2) rfl
theorem dX2_advance_7 : decode cX2_advance 7 = .ok (.if_icmp .ne 13, 3) := fd_get adX2_advance_0 (k := 3) rfl
theorem dX2_advance_10 : decode cX2_advance 10 = .ok (.aload_n 0, 1) := fd_get adX2_advance_0 (k := 4) rfl
theorem dX2_advance_11 : decode cX2_advance 11 = .ok (.getfield 9, 3) := fd_get adX2_advance_0 (k := 5) rfl
theorem dX2_advance_14 : decode cX2_advance 14 = .ok (.invokevirtual 43, 3) := fd_get adX2_advance_0 (k := 6) rfl
theorem dX2_advance_17 : decode cX2_advance 17 = .ok (.goto 14, 3) := fd_get adX2_advance_0 (k := 7) rfl
theorem dX2_advance_20 : decode cX2_advance 20 = .ok (.aload_n 0, 1) := fd_get adX2_advance_0 (k := 8) rfl
theorem dX2_advance_21 : decode cX2_advance 21 = .ok (.invokevirtual 33, 3) := fd_get adX2_advance_0 (k := 9) rfl
theorem dX2_advance_24 : decode cX2_advance 24 = .ok (.aload_n 0, 1) := fd_get adX2_advance_0 (k := 10) rfl
theorem dX2_advance_25 : decode cX2_advance 25 = .ok (.getfield 15, 3) := fd_get adX2_advance_0 (k := 11) rfl
theorem dX2_advance_28 : decode cX2_advance 28 = .ok (.invokevirtual 46, 3) := fd_get adX2_advance_0 (k := 12) rfl
theorem dX2_advance_31 : decode cX2_advance 31 = .ok (.istore_n 1, 1) := fd_get adX2_advance_0 (k := 13) rfl
theorem dX2_advance_32 : decode cX2_advance 32 = .ok (.iload_n 1, 1) := fd_get adX2_advance_0 (k := 14) rfl
theorem dX2_advance_33 : decode cX2_advance 33 = .ok (.aload_n 0, 1) := fd_get adX2_advance_0 (k := 15) rfl
theorem dX2_advance_34 : decode cX2_advance 34 = .ok (.getfield 9, 3) := fd_get adX2_advance_1 (k := 0) rfl
theorem dX2_advance_37 : decode cX2_advance 37 = .ok (.invokevirtual 50, 3) := fd_get adX2_advance_1 (k := 1) rfl
theorem dX2_advance_40 : decode cX2_advance 40 = .ok (.if_icmp .lt 7, 3) := fd_get adX2_advance_1 (k := 2) rfl
theorem dX2_advance_43 : decode cX2_advance 43 = .ok (.sipush (-10000), 3) := fd_get adX2_advance_1 (k := 3) rfl
theorem dX2_advance_46 : decode cX2_advance 46 = .ok (.ireturn, 1) := fd_get adX2_advance_1 (k := 4) rfl
theorem dX2_advance_47 : decode cX2_advance 47 = .ok (.aload_n 0, 1) := fd_get adX2_advance_1 (k := 5) rfl
theorem dX2_advance_48 : decode cX2_advance 48 = .ok (.aload_n 0, 1) := fd_get adX2_advance_1 (k := 6) rfl
theorem dX2_advance_49 : decode cX2_advance 49 = .ok (.invokevirtual 33, 3) := fd_get adX2_advance_1 (k := 7) rfl
theorem dX2_advance_52 : decode cX2_advance 52 = .ok (.iload_n 1, 1) := fd_get adX2_advance_1 (k := 8) rfl
theorem dX2_advance_53 : decode cX2_advance 53 = .ok (.invokevirtual 53, 3) := fd_get adX2_advance_1 (k := 9) rfl
theorem dX2_advance_56 : decode cX2_advance 56 = .ok (.putfield 15, 3) := fd_get adX2_advance_1 (k := 10) rfl
theorem dX2_advance_59 : decode cX2_advance 59 = .ok (.aload_n 0, 1) := fd_get adX2_advance_1 (k := 11) rfl
theorem dX2_advance_60 : decode cX2_advance 60 = .ok (.iconst 1, 1) := fd_get adX2_advance_1 (k := 12) rfl
theorem dX2_advance_61 : decode cX2_advance 61 = .ok (.putfield 34, 3) := fd_get adX2_advance_1 (k := 13) rfl
theorem dX2_advance_64 : decode cX2_advance 64 = .ok (.aload_n 0, 1) := fd_get adX2_advance_1 (k := 14) rfl
theorem dX2_advance_65 : decode cX2_advance 65 = .ok (.aload_n 0, 1) := fd_get adX2_advance_1 (k := 15) rfl
theorem dX2_advance_66 : decode cX2_advance 66 = .ok (.invokevirtual 33, 3) := fd_get adX2_advance_2 (k := 0) rfl
theorem dX2_advance_69 : decode cX2_advance 69 = .ok (.invokevirtual 41, 3) := fd_get adX2_advance_2 (k := 1) rfl
theorem dX2_advance_72 : decode cX2_advance 72 = .ok (.putfield 38, 3) := fd_get adX2_advance_2 (k := 2) rfl
theorem dX2_advance_75 : decode cX2_advance 75 = .ok (.aload_n 0, 1) := fd_get adX2_advance_2 (k := 3) rfl
theorem dX2_advance_76 : decode cX2_advance 76 = .ok (.getfield 15, 3) := fd_get adX2_advance_2 (k := 4) rfl
theorem dX2_advance_79 : decode cX2_advance 79 = .ok (.ireturn, 1) := fd_get adX2_advance_2 (k := 5) rfl
theorem mwsX2_dropLastStep_0 : ∀ w ∈ wsX2_dropLastStep_r1, w ∈ wsX2_dropLastStep := fun w h => (List.mem_cons_of_mem _ (List.mem_append_left _ (List.mem_append_left _ (List.mem_append_left _ (List.mem_append_left _ h)))))
theorem mwsX2_dropLastStep_1 : ∀ w ∈ wsX2_dropLastStep_r2, w ∈ wsX2_dropLastStep := fun w h => (List.mem_cons_of_mem _ (List.mem_append_left _ (List.mem_append_left _ (List.mem_append_left _ (List.mem_append_right _ (List.mem_append_left _ h))))))
theorem mwsX2_dropLastStep_2 : ∀ w ∈ wsX2_dropLastStep_r3, w ∈ wsX2_dropLastStep := fun w h => (List.mem_cons_of_mem _ (List.mem_append_left _ (List.mem_append_left _ (List.mem_append_left _ (List.mem_append_right _ (List.mem_append_right _ h))))))
theorem mwsX2_dropLastStep_3 : ∀ w ∈ wsX20, w ∈ wsX2_dropLastStep := fun w h => (List.mem_cons_of_mem _ (List.mem_append_left _ (List.mem_append_left _ (List.mem_append_right _ h))))
theorem mwsX2_dropLastStep_4 : ∀ w ∈ wsX10, w ∈ wsX2_dropLastStep := fun w h => (List.mem_cons_of_mem _ (List.mem_append_left _ (List.mem_append_right _ h)))
theorem mwsX2_dropLastStep_5 : ∀ w ∈ wsX00, w ∈ wsX2_dropLastStep := fun w h => (List.mem_cons_of_mem _ (List.mem_append_right _ h))
set_option maxRecDepth 20000 in
theorem ggX2_dropLastStep_X2_book : GoodIn wsX2_dropLastStep wsX2_book := goodIn_sub (tk_mem 8 _ (fun w h => (mwsX2_dropLastStep_0 _ (tkB_mem 7 8 h))) (tk_mem 5 _ (fun w h => (mwsX2_dropLastStep_3 _ (tkB_mem 0 5 h))) (tk_mem 7 _ (fun w h => (mwsX2_dropLastStep_4 _ (tkB_mem 0 7 h))) (fun _ h => absurd h List.not_mem_nil)))) (by decide +kernel)
set_option maxRecDepth 20000 in
theorem gX2_dropLastStep_X2_book : GoodIn wsX2_dropLastStep (wsV RX2 33 RX2 yX2_book wsX2_book) := goodIn_app (goodIn_sub (tk_mem 4 _ (fun w h => (mwsX2_dropLastStep_0 _ (tkB_mem 3 4 h))) (fun _ h => absurd h List.not_mem_nil)) (by decide +kernel)) ggX2_dropLastStep_X2_book
set_option maxRecDepth 20000 in
theorem ggX2_dropLastStep_X0_removeKey : GoodIn wsX2_dropLastStep wsX0_removeKey := goodIn_sub (tk_mem 4 _ (fun w h => (mwsX2_dropLastStep_0 _ (tkB_mem 19 4 h))) (List.forall_mem_cons.mpr ⟨(mwsX2_dropLastStep_0 _ (List.mem_of_getElem? (i := 18) rfl)), (List.forall_mem_cons.mpr ⟨(mwsX2_dropLastStep_0 _ (List.mem_of_getElem? (i := 23) rfl)), (tk_mem 24 _ (fun w h => (mwsX2_dropLastStep_1 _ (tkB_mem 0 24 h))) (tk_mem 9 _ (fun w h => (mwsX2_dropLastStep_2 _ (tkB_mem 0 9 h))) (tk_mem 7 _ (fun w h => (mwsX2_dropLastStep_5 _ (tkB_mem 0 7 h))) (fun _ h => absurd h List.not_mem_nil))))⟩)⟩)) (by decide +kernel)
set_option maxRecDepth 20000 in
theorem gX2_dropLastStep_X0_removeKey : GoodIn wsX2_dropLastStep (wsV RX2 56 RX0 yX0_removeKey wsX0_removeKey) := goodIn_app (goodIn_sub (tk_mem 4 _ (fun w h => (mwsX2_dropLastStep_0 _ (tkB_mem 15 4 h))) (fun _ h => absurd h List.not_mem_nil)) (by decide +kernel)) ggX2_dropLastStep_X0_removeKey
set_option maxRecDepth 20000 in
theorem ggX2_dropLastStep_X0_keyChanges : GoodIn wsX2_dropLastStep wsX0_keyChanges := goodIn_sub (List.forall_mem_cons.mpr ⟨(mwsX2_dropLastStep_2 _ (List.mem_of_getElem? (i := 12) rfl)), (List.forall_mem_cons.mpr ⟨(mwsX2_dropLastStep_2 _ (List.mem_of_getElem? (i := 8) rfl)), (tk_mem 7 _ (fun w h => (mwsX2_dropLastStep_5 _ (tkB_mem 0 7 h))) (fun _ h => absurd h List.not_mem_nil))⟩)⟩) (by decide +kernel)
set_option maxRecDepth 20000 in
theorem gX2_dropLastStep_X0_keyChanges : GoodIn wsX2_dropLastStep (wsV RX2 25 RX0 yX0_keyChanges wsX0_keyChanges) := goodIn_app (goodIn_sub (List.forall_mem_cons.mpr ⟨(mwsX2_dropLastStep_2 _ (List.mem_of_getElem? (i := 9) rfl)), (List.forall_mem_cons.mpr ⟨(mwsX2_dropLastStep_2 _ (List.mem_of_getElem? (i := 10) rfl)), (List.forall_mem_cons.mpr ⟨(mwsX2_dropLastStep_2 _ (List.mem_of_getElem? (i := 11) rfl)), (List.forall_mem_cons.mpr ⟨(mwsX2_dropLastStep_0 _ (List.mem_of_getElem? (i := 18) rfl)), (fun _ h => absurd h List.not_mem_nil)⟩)⟩)⟩)⟩) (by decide +kernel)) ggX2_dropLastStep_X0_keyChanges
theorem adX2_dropLastStep_0 : fd_rows (cX2_dropLastStep.data.toList.drop 0) 0 [(0, some (.aload_n 0), 1), (1, some (.invokevirtual 33), 3), (4, some (.aload_n 0), 1), (5, some (.getfield 15), 3), (8, some (.invokevirtual 56), 3), (11, some (.pop), 1), (12, some (.aload_n 0), 1), (13, some (.iconst 0), 1), (14, some (.putfield 34), 3), (17, some (.aload_n 0), 1), (18, some (.aload_n 0), 1), (19, some (.invokevirtual 33), 3), (22, some (.invokevirtual 25), 3), (25, some (.putfield 31), 3), (28, some (.return_), 1)] = true := by decide +kernel
theorem dX2_dropLastStep_0 : decode cX2_dropLastStep 0 = .ok (.aload_n 0, 1) := fd_get adX2_dropLastStep_0 (k := 0) rfl
theorem dX2_dropLastStep_1 : decode cX2_dropLastStep 1 = .ok (.invokevirtual 33, 3) := fd_get adX2_dropLastStep_0 (k := 1) rfl
theorem dX2_dropLastStep_4 : decode cX2_dropLastStep 4 = .ok (.aload_n 0, 1) := fd_get adX2_dropLastStep_0 (k := 2) rfl
theorem dX2_dropLastStep_5 : decode cX2_dropLastStep 5 = .ok (.getfield 15, 3) := fd_get adX2_dropLastStep_0 (k := 3) rfl
theorem dX2_dropLastStep_8 : decode cX2_dropLastStep 8 = .ok (.invokevirtual 56, 3) := fd_get adX2_dropLastStep_0 (k := 4) rfl
theorem dX2_dropLastStep_11 : decode cX2_dropLastStep 11 = .ok (.pop, 1) := fd_get adX2_dropLastStep_0 (k := 5) rfl
theorem dX2_dropLastStep_12 : decode cX2_dropLastStep 12 = .ok (.aload_n 0, 1) := fd_get adX2_dropLastStep_0 (k := 6) rfl
theorem dX2_dropLastStep_13 : decode cX2_dropLastStep 13 = .ok (.iconst 0, 1) := fd_get adX2_dropLastStep_0 (k := 7) rfl
theorem dX2_dropLastStep_14 : decode cX2_dropLastStep 14 = .ok (.putfield 34, 3) := fd_get adX2_dropLastStep_0 (k := 8) rfl
theorem dX2_dropLastStep_17 : decode cX2_dropLastStep 17 = .ok (.aload_n 0, 1) := fd_get adX2_dropLastStep_0 (k := 9) rfl
theorem dX2_dropLastStep_18 : decode cX2_dropLastStep 18 = .ok (.aload_n 0, 1) := fd_get adX2_dropLastStep_0 (k := 10) rfl
theorem dX2_dropLastStep_19 : decode cX2_dropLastStep 19 = .ok (.invokevirtual 33, 3) := fd_get adX2_dropLastStep_0 (k := 11) rfl
theorem dX2_dropLastStep_22 : decode cX2_dropLastStep 22 = .ok (.invokevirtual 25, 3) := fd_get adX2_dropLastStep_0 (k := 12) rfl
theorem dX2_dropLastStep_25 : decode cX2_dropLastStep 25 = .ok (.putfield 31, 3) := fd_get adX2_dropLastStep_0 (k := 13) rfl
theorem dX2_dropLastStep_28 : decode cX2_dropLastStep 28 = .ok (.return_, 1) := fd_get adX2_dropLastStep_0 (k := 14) rfl
theorem mwsX3_init_1 : ∀ w ∈ wsX00, w ∈ wsX3_init := fun w h => (List.mem_cons_of_mem _ (List.mem_append_right _ h))
set_option maxRecDepth 20000 in
theorem ggX3_init_X0_init : GoodIn wsX3_init wsX0_init := goodIn_sub (List.forall_mem_cons.mpr ⟨(List.mem_cons_of_mem _ (List.mem_append_left _ (List.mem_append_left _ (List.mem_of_getElem? (i := 13) rfl)))), (List.forall_mem_cons.mpr ⟨(List.mem_cons_of_mem _ (List.mem_append_left _ (List.mem_append_left _ (List.mem_of_getElem? (i := 14) rfl)))), (List.forall_mem_cons.mpr ⟨(List.mem_cons_of_mem _ (List.mem_append_left _ (List.mem_append_left _ (List.mem_of_getElem? (i := 1) rfl)))), (List.forall_mem_cons.mpr ⟨(List.mem_cons_of_mem _ (List.mem_append_left _ (List.mem_append_left _ (List.mem_of_getElem? (i := 2) rfl)))), (tk_mem 5 _ (fun w h => (List.mem_cons_of_mem _ (List.mem_append_left _ (List.mem_append_left _ (tkB_mem 15 5 h))))) (tk_mem 7 _ (fun w h => (mwsX3_init_1 _ (tkB_mem 0 7 h))) (fun _ h => absurd h List.not_mem_nil)))⟩)⟩)⟩)⟩) (by decide +kernel)
set_option maxRecDepth 20000 in
theorem gX3_init_X0_init : GoodIn wsX3_init (wsX0_init) := ggX3_init_X0_init
theorem adX3_init_0 : fd_rows (cX3_init.data.toList.drop 0) 0 [(0, some (.aload_n 0), 1), (1, some (.invokespecial 1), 3), (4, some (.aload_n 0), 1), (5, some (.iconst 3), 1), (6, some (.anewarray 9), 3), (9, some (.putfield 11), 3), (12, some (.iconst 0), 1), (13, some (.istore_n 1), 1), (14, some (.iload_n 1), 1), (15, some (.aload_n 0), 1), (16, some (.getfield 11), 3), (19, some (.arraylength), 1), (20, some (.if_icmp .ge 23), 3), (23, some (.aload_n 0), 1), (24, some (.getfield 11), 3), (27, some (.iload_n 1), 1)] = true := by decide +kernel
theorem adX3_init_1 : fd_rows (cX3_init.data.toList.drop 28) 28 [(28, some (.new 9), 3), (31, some (.dup), 1), (32, some (.iload_n 1), 1), (33, some (.invokespecial 15), 3), (36, some (.aastore), 1), (37, some (.iinc 1 1), 3), (40, some (.goto (-26)), 3), (43, some (.aload_n 0), 1), (44, some (.iconst 4), 1), (45, some (.anewarray 18), 3), (48, some (.putfield 20), 3), (51, some (.aload_n 0), 1), (52, some (.sipush (-10000)), 3), (55, some (.putfield 24), 3), (58, some (.aload_n 0), 1), (59, some (.sipush (-10000)), 3)] = true := by decide +kernel
theorem adX3_init_2 : fd_rows (cX3_init.data.toList.drop 62) 62 [(62, some (.putfield 28), 3), (65, some (.return_), 1)] = true := by decide +kernel
theorem dX3_init_0 : decode cX3_init 0 = .ok (.aload_n 0, 1) := fd_get adX3_init_0 (k := 0) rfl
theorem dX3_init_1 : decode cX3_init 1 = .ok (.invokespecial 1, 3) := fd_get adX3_init_0 (k := 1) rfl
theorem dX3_init_4 : decode cX3_init 4 = .ok (.aload_n 0, 1) := fd_get adX3_init_0 (k := 2) rfl
theorem dX3_init_5 : decode cX3_init 5 = .ok (.iconst 3, 1) := fd_get adX3_init_0 (k := 3) rfl
theorem dX3_init_6 : decode cX3_init 6 = .ok (.anewarray 9, 3) := fd_get adX3_init_0 (k := 4) rfl
theorem dX3_init_9 : decode cX3_init 9 = .ok (.putfield 11, 3) := fd_get adX3_init_0 (k := 5) rfl
theorem dX3_init_12 : decode cX3_init 12 = .ok (.iconst 0, 1) := fd_get adX3_init_0 (k := 6) rfl
theorem dX3_init_13 : decode cX3_init 13 = .ok (.istore_n 1, 1) := fd_get adX3_init_0 (k := 7) rfl
theorem dX3_init_14 : decode cX3_init 14 = .ok (.iload_n 1, 1) := fd_get adX3_init_0 (k := 8) rfl
theorem dX3_init_15 : decode cX3_init 15 = .ok (.aload_n 0, 1) := fd_get adX3_init_0 (k := 9) rfl
theorem dX3_init_16 : decode cX3_init 16 = .ok (.getfield 11, 3) := fd_get adX3_init_0 (k := 10) rfl
theorem dX3_init_19 : decode cX3_init 19 = .ok (.arraylength, 1) := fd_get adX3_init_0 (k := 11) rfl
theorem dX3_init_20 : decode cX3_init 20 = .ok (.if_icmp .ge 23, 3) := fd_get adX3_init_0 (k := 12) rfl
theorem dX3_init_23 : decode cX3_init 23 = .ok (.aload_n 0, 1) := fd_get adX3_init_0 (k := 13) rfl
theorem dX3_init_24 : decode cX3_init 24 = .ok (.getfield 11, 3) := fd_get adX3_init_0 (k := 14) rfl
theorem dX3_init_27 : decode cX3_init 27 = .ok (.iload_n 1, 1) := fd_get adX3_init_0 (k := 15) rfl
theorem dX3_init_28 : decode cX3_init 28 = .ok (.new 9, 3) := fd_get adX3_init_1 (k := 0) rfl
theorem dX3_init_31 : decode cX3_init 31 = .ok (.dup, 1) := fd_get adX3_init_1 (k := 1) rfl
theorem dX3_init_32 : decode cX3_init 32 = .ok (.iload_n 1, 1) := fd_get adX3_init_1 (k := 2) rfl
theorem dX3_init_33 : decode cX3_init 33 = .ok (.invokespecial 15, 3) := fd_get adX3_init_1 (k := 3) rfl
theorem dX3_init_36 : decode cX3_init 36 = .ok (.aastore, 1) := fd_get adX3_init_1 (k := 4) rfl
theorem dX3_init_37 : decode cX3_init 37 = .ok (.iinc 1 1, 3) := fd_get adX3_init_1 (k := 5) rfl
theorem dX3_init_40 : decode cX3_init 40 = .ok (.goto (-26), 3) := fd_get adX3_init_1 (k := 6) rfl
theorem dX3_init_43 : decode cX3_init 43 = .ok (.aload_n 0, 1) := fd_get adX3_init_1 (k := 7) rfl
theorem dX3_init_44 : decode cX3_init 44 = .ok (.iconst 4, 1) := fd_get adX3_init_1 (k := 8) rfl
theorem dX3_init_45 : decode cX3_init 45 = .ok (.anewarray 18, 3) := fd_get adX3_init_1 (k := 9) rfl
theorem dX3_init_48 : decode cX3_init 48 = .ok (.putfield 20, 3) := fd_get adX3_init_1 (k := 10) rfl
theorem dX3_init_51 : decode cX3_init 51 = .ok (.aload_n 0, 1) := fd_get adX3_init_1 (k := 11) rfl
theorem dX3_init_52 : decode cX3_init 52 = .ok (.sipush (-10000), 3) := fd_get adX3_init_1 (k := 12) rfl
theorem dX3_init_55 : decode cX3_init 55 = .ok (.putfield 24, 3) := fd_get adX3_init_1 (k := 13) rfl
theorem dX3_init_58 : decode cX3_init 58 = .ok (.aload_n 0, 1) := fd_get adX3_init_1 (k := 14) rfl
theorem dX3_init_59 : decode cX3_init 59 = .ok (.sipush (-10000), 3) := fd_get adX3_init_1 (k := 15) rfl
theorem dX3_init_62 : decode cX3_init 62 = .ok (.putfield 28, 3) := fd_get adX3_init_2 (k := 0) rfl
theorem dX3_init_65 : decode cX3_init 65 = .ok (.return_, 1) := fd_get adX3_init_2 (k := 1) rfl
theorem mwsX3_put_0 : ∀ w ∈ wsX3_put_r1, w ∈ wsX3_put := fun w h => (List.mem_cons_of_mem _ (List.mem_append_left _ (List.mem_append_left _ (List.mem_append_left _ (List.mem_append_left _ (List.mem_append_left _ h))))))
theorem mwsX3_put_1 : ∀ w ∈ wsX3_put_r2, w ∈ wsX3_put := fun w h => (List.mem_cons_of_mem _ (List.mem_append_left _ (List.mem_append_left _ (List.mem_append_left _ (List.mem_append_left _ (List.mem_append_right _ (List.mem_append_left _ h)))))))
theorem mwsX3_put_2 : ∀ w ∈ wsX3_put_r3, w ∈ wsX3_put := fun w h => (List.mem_cons_of_mem _ (List.mem_append_left _ (List.mem_append_left _ (List.mem_append_left _ (List.mem_append_left _ (List.mem_append_right _ (List.mem_append_right _ h)))))))
theorem mwsX3_put_3 : ∀ w ∈ wsX30, w ∈ wsX3_put := fun w h => (List.mem_cons_of_mem _ (List.mem_append_left _ (List.mem_append_left _ (List.mem_append_left _ (List.mem_append_right _ h)))))
theorem mwsX3_put_4 : ∀ w ∈ wsX00, w ∈ wsX3_put := fun w h => (List.mem_cons_of_mem _ (List.mem_append_left _ (List.mem_append_left _ (List.mem_append_right _ h))))
set_option maxRecDepth 20000 in
theorem ggX3_put_X3_bookToWritePair : GoodIn wsX3_put wsX3_bookToWritePair := goodIn_ca (goodIn_ca (goodIn_sub (tk_mem 4 _ (fun w h => (mwsX3_put_0 _ (tkB_mem 4 4 h))) (List.forall_mem_cons.mpr ⟨(mwsX3_put_0 _ (List.mem_of_getElem? (i := 3) rfl)), (tk_mem 16 _ (fun w h => (mwsX3_put_0 _ (tkB_mem 8 16 h))) (List.forall_mem_cons.mpr ⟨(mwsX3_put_1 _ (List.mem_of_getElem? (i := 0) rfl)), (List.forall_mem_cons.mpr ⟨(mwsX3_put_1 _ (List.mem_of_getElem? (i := 1) rfl)), (tk_mem 6 _ (fun w h => (mwsX3_put_3 _ (tkB_mem 0 6 h))) (tk_mem 7 _ (fun w h => (mwsX3_put_4 _ (tkB_mem 0 7 h))) (fun _ h => absurd h List.not_mem_nil)))⟩)⟩))⟩)) (by decide +kernel)) (goodIn_sub (fun _ h => List.mem_cons_of_mem _ (List.mem_append_left _ (List.mem_append_right _ h))) (by decide +kernel))) (goodIn_sub (fun _ h => List.mem_cons_of_mem _ (List.mem_append_right _ h)) (by decide +kernel))
set_option maxRecDepth 20000 in
theorem gX3_put_X3_bookToWritePair : GoodIn wsX3_put (wsV RX3 31 RX3 yX3_bookToWritePair wsX3_bookToWritePair) := goodIn_app (goodIn_sub (tk_mem 4 _ (fun w h => (mwsX3_put_0 _ (tkB_mem 0 4 h))) (fun _ h => absurd h List.not_mem_nil)) (by decide +kernel)) ggX3_put_X3_bookToWritePair
set_option maxRecDepth 20000 in
theorem ggX3_put_X0_enter : GoodIn wsX3_put wsX0_enter := goodIn_sub (tk_mem 6 _ (fun w h => (mwsX3_put_1 _ (tkB_mem 5 6 h))) (List.forall_mem_cons.mpr ⟨(mwsX3_put_0 _ (List.mem_of_getElem? (i := 23) rfl)), (tk_mem 13 _ (fun w h => (mwsX3_put_1 _ (tkB_mem 11 13 h))) (tk_mem 11 _ (fun w h => (mwsX3_put_2 _ (tkB_mem 0 11 h))) (tk_mem 7 _ (fun w h => (mwsX3_put_4 _ (tkB_mem 0 7 h))) (fun _ h => absurd h List.not_mem_nil))))⟩)) (by decide +kernel)
set_option maxRecDepth 20000 in
theorem gX3_put_X0_enter : GoodIn wsX3_put (wsV RX3 35 RX0 yX0_enter wsX0_enter) := goodIn_app (goodIn_sub (List.forall_mem_cons.mpr ⟨(mwsX3_put_1 _ (List.mem_of_getElem? (i := 2) rfl)), (List.forall_mem_cons.mpr ⟨(mwsX3_put_1 _ (List.mem_of_getElem? (i := 3) rfl)), (List.forall_mem_cons.mpr ⟨(mwsX3_put_1 _ (List.mem_of_getElem? (i := 4) rfl)), (List.forall_mem_cons.mpr ⟨(mwsX3_put_0 _ (List.mem_of_getElem? (i := 23) rfl)), (fun _ h => absurd h List.not_mem_nil)⟩)⟩)⟩)⟩) (by decide +kernel)) ggX3_put_X0_enter
theorem adX3_put_0 : fd_rows (cX3_put.data.toList.drop 0) 0 [(0, some (.aload_n 0), 1), (1, some (.iload_n 1), 1), (2, some (.iload_n 2), 1), (3, some (.iload_n 3), 1), (4, some (.invokevirtual 31), 3), (7, some (.iload_n 2), 1), (8, some (.iload_n 3), 1), (9, some (.invokevirtual 35), 3), (12, some (.ireturn), 1)] = true := by decide +kernel
theorem dX3_put_0 : decode cX3_put 0 = .ok (.aload_n 0, 1) := fd_get adX3_put_0 (k := 0) rfl
theorem dX3_put_1 : decode cX3_put 1 = .ok (.iload_n 1, 1) := fd_get adX3_put_0 (k := 1) rfl
theorem dX3_put_2 : decode cX3_put 2 = .ok (.iload_n 2, 1) := fd_get adX3_put_0 (k := 2) rfl
theorem dX3_put_3 : decode cX3_put 3 = .ok (.iload_n 3, 1) := fd_get adX3_put_0 (k := 3) rfl
theorem dX3_put_4 : decode cX3_put 4 = .ok (.invokevirtual 31, 3) := fd_get adX3_put_0 (k := 4) rfl
theorem dX3_put_7 : decode cX3_put 7 = .ok (.iload_n 2, 1) := fd_get adX3_put_0 (k := 5) rfl
theorem dX3_put_8 : decode cX3_put 8 = .ok (.iload_n 3, 1) := fd_get adX3_put_0 (k := 6) rfl
theorem dX3_put_9 : decode cX3_put 9 = .ok (.invokevirtual 35, 3) := fd_get adX3_put_0 (k := 7) rfl
theorem dX3_put_12 : decode cX3_put 12 = .ok (.ireturn, 1) := fd_get adX3_put_0 (k := 8) rfl
theorem mwsX3_putAbsent_0 : ∀ w ∈ wsX3_putAbsent_r1, w ∈ wsX3_putAbsent := fun w h => (List.mem_cons_of_mem _ (List.mem_append_left _ (List.mem_append_left _ (List.mem_append_left _ (List.mem_append_left _ (List.mem_append_left _ h))))))
theorem mwsX3_putAbsent_1 : ∀ w ∈ wsX3_putAbsent_r2, w ∈ wsX3_putAbsent := fun w h => (List.mem_cons_of_mem _ (List.mem_append_left _ (List.mem_append_left _ (List.mem_append_left _ (List.mem_append_left _ (List.mem_append_right _ (List.mem_append_left _ h)))))))
theorem mwsX3_putAbsent_2 : ∀ w ∈ wsX3_putAbsent_r3, w ∈ wsX3_putAbsent := fun w h => (List.mem_cons_of_mem _ (List.mem_append_left _ (List.mem_append_left _ (List.mem_append_left _ (List.mem_append_left _ (List.mem_append_right _ (List.mem_append_right _ (List.mem_append_left _ h))))))))
theorem mwsX3_putAbsent_3 : ∀ w ∈ wsX3_putAbsent_r4, w ∈ wsX3_putAbsent := fun w h => (List.mem_cons_of_mem _ (List.mem_append_left _ (List.mem_append_left _ (List.mem_append_left _ (List.mem_append_left _ (List.mem_append_right _ (List.mem_append_right _ (List.mem_append_right _ h))))))))
theorem mwsX3_putAbsent_4 : ∀ w ∈ wsX30, w ∈ wsX3_putAbsent := fun w h => (List.mem_cons_of_mem _ (List.mem_append_left _ (List.mem_append_left _ (List.mem_append_left _ (List.mem_append_right _ h)))))
theorem mwsX3_putAbsent_5 : ∀ w ∈ wsX00, w ∈ wsX3_putAbsent := fun w h => (List.mem_cons_of_mem _ (List.mem_append_left _ (List.mem_append_left _ (List.mem_append_right _ h))))
set_option maxRecDepth 20000 in
theorem ggX3_putAbsent_X3_bookToWritePair : GoodIn wsX3_putAbsent wsX3_bookToWritePair := goodIn_ca (goodIn_ca (goodIn_sub (tk_mem 4 _ (fun w h => (mwsX3_putAbsent_0 _ (tkB_mem 4 4 h))) (List.forall_mem_cons.mpr ⟨(mwsX3_putAbsent_0 _ (List.mem_of_getElem? (i := 3) rfl)), (tk_mem 16 _ (fun w h => (mwsX3_putAbsent_0 _ (tkB_mem 8 16 h))) (List.forall_mem_cons.mpr ⟨(mwsX3_putAbsent_1 _ (List.mem_of_getElem? (i := 0) rfl)), (List.forall_mem_cons.mpr ⟨(mwsX3_putAbsent_1 _ (List.mem_of_getElem? (i := 1) rfl)), (tk_mem 6 _ (fun w h => (mwsX3_putAbsent_4 _ (tkB_mem 0 6 h))) (tk_mem 7 _ (fun w h => (mwsX3_putAbsent_5 _ (tkB_mem 0 7 h))) (fun _ h => absurd h List.not_mem_nil)))⟩)⟩))⟩)) (by decide +kernel)) (goodIn_sub (fun _ h => List.mem_cons_of_mem _ (List.mem_append_left _ (List.mem_append_right _ h))) (by decide +kernel))) (goodIn_sub (fun _ h => List.mem_cons_of_mem _ (List.mem_append_right _ h)) (by decide +kernel))
set_option maxRecDepth 20000 in
theorem gX3_putAbsent_X3_bookToWritePair : GoodIn wsX3_putAbsent (wsV RX3 31 RX3 yX3_bookToWritePair wsX3_bookToWritePair) := goodIn_app (goodIn_sub (tk_mem 4 _ (fun w h => (mwsX3_putAbsent_0 _ (tkB_mem 0 4 h))) (fun _ h => absurd h List.not_mem_nil)) (by decide +kernel)) ggX3_putAbsent_X3_bookToWritePair
set_option maxRecDepth 20000 in
theorem ggX3_putAbsent_X0_holds : GoodIn wsX3_putAbsent wsX0_holds := goodIn_sub (tk_mem 4 _ (fun w h => (mwsX3_putAbsent_1 _ (tkB_mem 5 4 h))) (List.forall_mem_cons.mpr ⟨(mwsX3_putAbsent_0 _ (List.mem_of_getElem? (i := 23) rfl)), (tk_mem 15 _ (fun w h => (mwsX3_putAbsent_1 _ (tkB_mem 9 15 h))) (tk_mem 14 _ (fun w h => (mwsX3_putAbsent_2 _ (tkB_mem 0 14 h))) (tk_mem 7 _ (fun w h => (mwsX3_putAbsent_5 _ (tkB_mem 0 7 h))) (fun _ h => absurd h List.not_mem_nil))))⟩)) (by decide +kernel)
set_option maxRecDepth 20000 in
theorem gX3_putAbsent_X0_holds : GoodIn wsX3_putAbsent (wsV RX3 39 RX0 yX0_holds wsX0_holds) := goodIn_app (goodIn_sub (List.forall_mem_cons.mpr ⟨(mwsX3_putAbsent_1 _ (List.mem_of_getElem? (i := 2) rfl)), (List.forall_mem_cons.mpr ⟨(mwsX3_putAbsent_1 _ (List.mem_of_getElem? (i := 3) rfl)), (List.forall_mem_cons.mpr ⟨(mwsX3_putAbsent_1 _ (List.mem_of_getElem? (i := 4) rfl)), (List.forall_mem_cons.mpr ⟨(mwsX3_putAbsent_0 _ (List.mem_of_getElem? (i := 23) rfl)), (fun _ h => absurd h List.not_mem_nil)⟩)⟩)⟩)⟩) (by decide +kernel)) ggX3_putAbsent_X0_holds
set_option maxRecDepth 20000 in
theorem ggX3_putAbsent_X0_valueOf : GoodIn wsX3_putAbsent wsX0_valueOf := goodIn_sub (tk_mem 4 _ (fun w h => (mwsX3_putAbsent_1 _ (tkB_mem 9 4 h))) (List.forall_mem_cons.mpr ⟨(mwsX3_putAbsent_0 _ (List.mem_of_getElem? (i := 23) rfl)), (tk_mem 11 _ (fun w h => (mwsX3_putAbsent_1 _ (tkB_mem 13 11 h))) (tk_mem 14 _ (fun w h => (mwsX3_putAbsent_2 _ (tkB_mem 0 14 h))) (tk_mem 7 _ (fun w h => (mwsX3_putAbsent_5 _ (tkB_mem 0 7 h))) (fun _ h => absurd h List.not_mem_nil))))⟩)) (by decide +kernel)
set_option maxRecDepth 20000 in
theorem gX3_putAbsent_X0_valueOf : GoodIn wsX3_putAbsent (wsV RX3 43 RX0 yX0_valueOf wsX0_valueOf) := goodIn_app (goodIn_sub (List.forall_mem_cons.mpr ⟨(mwsX3_putAbsent_2 _ (List.mem_of_getElem? (i := 14) rfl)), (List.forall_mem_cons.mpr ⟨(mwsX3_putAbsent_1 _ (List.mem_of_getElem? (i := 7) rfl)), (List.forall_mem_cons.mpr ⟨(mwsX3_putAbsent_1 _ (List.mem_of_getElem? (i := 8) rfl)), (List.forall_mem_cons.mpr ⟨(mwsX3_putAbsent_0 _ (List.mem_of_getElem? (i := 23) rfl)), (fun _ h => absurd h List.not_mem_nil)⟩)⟩)⟩)⟩) (by decide +kernel)) ggX3_putAbsent_X0_valueOf
set_option maxRecDepth 20000 in
theorem ggX3_putAbsent_X0_enter : GoodIn wsX3_putAbsent wsX0_enter := goodIn_sub (List.forall_mem_cons.mpr ⟨(mwsX3_putAbsent_2 _ (List.mem_of_getElem? (i := 18) rfl)), (List.forall_mem_cons.mpr ⟨(mwsX3_putAbsent_2 _ (List.mem_of_getElem? (i := 0) rfl)), (List.forall_mem_cons.mpr ⟨(mwsX3_putAbsent_2 _ (List.mem_of_getElem? (i := 13) rfl)), (List.forall_mem_cons.mpr ⟨(mwsX3_putAbsent_1 _ (List.mem_of_getElem? (i := 10) rfl)), (List.forall_mem_cons.mpr ⟨(mwsX3_putAbsent_1 _ (List.mem_of_getElem? (i := 11) rfl)), (List.forall_mem_cons.mpr ⟨(mwsX3_putAbsent_1 _ (List.mem_of_getElem? (i := 12) rfl)), (List.forall_mem_cons.mpr ⟨(mwsX3_putAbsent_0 _ (List.mem_of_getElem? (i := 23) rfl)), (tk_mem 11 _ (fun w h => (mwsX3_putAbsent_1 _ (tkB_mem 13 11 h))) (tk_mem 4 _ (fun w h => (mwsX3_putAbsent_2 _ (tkB_mem 5 4 h))) (tk_mem 5 _ (fun w h => (mwsX3_putAbsent_2 _ (tkB_mem 19 5 h))) (tk_mem 4 _ (fun w h => (mwsX3_putAbsent_3 _ (tkB_mem 0 4 h))) (tk_mem 7 _ (fun w h => (mwsX3_putAbsent_5 _ (tkB_mem 0 7 h))) (fun _ h => absurd h List.not_mem_nil))))))⟩)⟩)⟩)⟩)⟩)⟩)⟩) (by decide +kernel)
set_option maxRecDepth 20000 in
theorem gX3_putAbsent_X0_enter : GoodIn wsX3_putAbsent (wsV RX3 35 RX0 yX0_enter wsX0_enter) := goodIn_app (goodIn_sub (List.forall_mem_cons.mpr ⟨(mwsX3_putAbsent_2 _ (List.mem_of_getElem? (i := 15) rfl)), (List.forall_mem_cons.mpr ⟨(mwsX3_putAbsent_2 _ (List.mem_of_getElem? (i := 16) rfl)), (List.forall_mem_cons.mpr ⟨(mwsX3_putAbsent_2 _ (List.mem_of_getElem? (i := 17) rfl)), (List.forall_mem_cons.mpr ⟨(mwsX3_putAbsent_0 _ (List.mem_of_getElem? (i := 23) rfl)), (fun _ h => absurd h List.not_mem_nil)⟩)⟩)⟩)⟩) (by decide +kernel)) ggX3_putAbsent_X0_enter
theorem adX3_putAbsent_0 : fd_rows (cX3_putAbsent.data.toList.drop 0) 0 [(0, some (.aload_n 0), 1), (1, some (.iload_n 1), 1), (2, some (.iload_n 2), 1), (3, some (.iload_n 3), 1), (4, some (.invokevirtual 31), 3), (7, some (.astore 4), 2), (9, some (.aload 4), 2), (11, some (.iload_n 2), 1), (12, some (.invokevirtual 39), 3), (15, some (.ifCond .eq 12), 3), (18, some (.aload 4), 2), (20, some (.iload_n 2), 1), (21, some (.invokevirtual 43), 3), (24, some (.goto 10), 3), (27, some (.aload 4), 2), (29, some (.iload_n 2), 1)] = true := by decide +kernel
theorem adX3_putAbsent_1 : fd_rows (cX3_putAbsent.data.toList.drop 30) 30 [(30, some (.iload_n 3), 1), (31, some (.invokevirtual 35), 3), (34, some (.ireturn), 1)] = true := by decide +kernel
theorem dX3_putAbsent_0 : decode cX3_putAbsent 0 = .ok (.aload_n 0, 1) := fd_get adX3_putAbsent_0 (k := 0) rfl
theorem dX3_putAbsent_1 : decode cX3_putAbsent 1 = .ok (.iload_n 1, 1) := fd_get adX3_putAbsent_0 (k := 1) rfl
theorem dX3_putAbsent_2 : decode cX3_putAbsent 2 = .ok (.iload_n 2, 1) := fd_get adX3_putAbsent_0 (k := 2) rfl
theorem dX3_putAbsent_3 : decode cX3_putAbsent 3 = .ok (.iload_n 3, 1) := fd_get adX3_putAbsent_0 (k := 3) rfl
theorem dX3_putAbsent_4 : decode cX3_putAbsent 4 = .ok (.invokevirtual 31, 3) := fd_get adX3_putAbsent_0 (k := 4) rfl
theorem dX3_putAbsent_7 : decode cX3_putAbsent 7 = .ok (.astore 4, 2) := fd_get adX3_putAbsent_0 (k := 5) rfl
theorem dX3_putAbsent_9 : decode cX3_putAbsent 9 = .ok (.aload 4, 2) := fd_get adX3_putAbsent_0 (k := 6) rfl
theorem dX3_putAbsent_11 : decode cX3_putAbsent 11 = .ok (.iload_n 2, 1) := fd_get adX3_putAbsent_0 (k := 7) rfl
theorem dX3_putAbsent_12 : decode cX3_putAbsent 12 = .ok (.invokevirtual 39, 3) := fd_get adX3_putAbsent_0 (k := 8) rfl
theorem dX3_putAbsent_15 : decode cX3_putAbsent 15 = .ok (.ifCond .eq 12, 3) := fd_get adX3_putAbsent_0 (k := 9) rfl
theorem dX3_putAbsent_18 : decode cX3_putAbsent 18 = .ok (.aload 4, 2) := fd_get adX3_putAbsent_0 (k := 10) rfl
theorem dX3_putAbsent_20 : decode cX3_putAbsent 20 = .ok (.iload_n 2, 1) := fd_get adX3_putAbsent_0 (k := 11) rfl
theorem dX3_putAbsent_21 : decode cX3_putAbsent 21 = .ok (.invokevirtual 43, 3) := fd_get adX3_putAbsent_0 (k := 12) rfl
theorem dX3_putAbsent_24 : decode cX3_putAbsent 24 = .ok (.goto 10, 3) := fd_get adX3_putAbsent_0 (k := 13) rfl
theorem dX3_putAbsent_27 : decode cX3_putAbsent 27 = .ok (.aload 4, 2) := fd_get adX3_putAbsent_0 (k := 14) rfl
theorem dX3_putAbsent_29 : decode cX3_putAbsent 29 = .ok (.iload_n 2, 1) := fd_get adX3_putAbsent_0 (k := 15) rfl
theorem dX3_putAbsent_30 : decode cX3_putAbsent 30 = .ok (.iload_n 3, 1) := fd_get adX3_putAbsent_1 (k := 0) rfl
theorem dX3_putAbsent_31 : decode cX3_putAbsent 31 = .ok (.invokevirtual 35, 3) := fd_get adX3_putAbsent_1 (k := 1) rfl
theorem dX3_putAbsent_34 : decode cX3_putAbsent 34 = .ok (.ireturn, 1) := fd_get adX3_putAbsent_1 (k := 2) rfl
theorem mwsX3_replace_0 : ∀ w ∈ wsX3_replace_r1, w ∈ wsX3_replace := fun w h => (List.mem_cons_of_mem _ (List.mem_append_left _ (List.mem_append_left _ (List.mem_append_left _ (List.mem_append_left _ (List.mem_append_left _ h))))))
theorem mwsX3_replace_1 : ∀ w ∈ wsX3_replace_r2, w ∈ wsX3_replace := fun w h => (List.mem_cons_of_mem _ (List.mem_append_left _ (List.mem_append_left _ (List.mem_append_left _ (List.mem_append_left _ (List.mem_append_right _ (List.mem_append_left _ h)))))))
theorem mwsX3_replace_2 : ∀ w ∈ wsX3_replace_r3, w ∈ wsX3_replace := fun w h => (List.mem_cons_of_mem _ (List.mem_append_left _ (List.mem_append_left _ (List.mem_append_left _ (List.mem_append_left _ (List.mem_append_right _ (List.mem_append_right _ (List.mem_append_left _ h))))))))
theorem mwsX3_replace_3 : ∀ w ∈ wsX3_replace_r4, w ∈ wsX3_replace := fun w h => (List.mem_cons_of_mem _ (List.mem_append_left _ (List.mem_append_left _ (List.mem_append_left _ (List.mem_append_left _ (List.mem_append_right _ (List.mem_append_right _ (List.mem_append_right _ h))))))))
theorem mwsX3_replace_4 : ∀ w ∈ wsX30, w ∈ wsX3_replace := fun w h => (List.mem_cons_of_mem _ (List.mem_append_left _ (List.mem_append_left _ (List.mem_append_left _ (List.mem_append_right _ h)))))
theorem mwsX3_replace_5 : ∀ w ∈ wsX00, w ∈ wsX3_replace := fun w h => (List.mem_cons_of_mem _ (List.mem_append_left _ (List.mem_append_left _ (List.mem_append_right _ h))))
set_option maxRecDepth 20000 in
theorem ggX3_replace_X3_bookToWritePair : GoodIn wsX3_replace wsX3_bookToWritePair := goodIn_ca (goodIn_ca (goodIn_sub (tk_mem 4 _ (fun w h => (mwsX3_replace_0 _ (tkB_mem 4 4 h))) (List.forall_mem_cons.mpr ⟨(mwsX3_replace_0 _ (List.mem_of_getElem? (i := 3) rfl)), (tk_mem 16 _ (fun w h => (mwsX3_replace_0 _ (tkB_mem 8 16 h))) (List.forall_mem_cons.mpr ⟨(mwsX3_replace_1 _ (List.mem_of_getElem? (i := 0) rfl)), (List.forall_mem_cons.mpr ⟨(mwsX3_replace_1 _ (List.mem_of_getElem? (i := 1) rfl)), (tk_mem 6 _ (fun w h => (mwsX3_replace_4 _ (tkB_mem 0 6 h))) (tk_mem 7 _ (fun w h => (mwsX3_replace_5 _ (tkB_mem 0 7 h))) (fun _ h => absurd h List.not_mem_nil)))⟩)⟩))⟩)) (by decide +kernel)) (goodIn_sub (fun _ h => List.mem_cons_of_mem _ (List.mem_append_left _ (List.mem_append_right _ h))) (by decide +kernel))) (goodIn_sub (fun _ h => List.mem_cons_of_mem _ (List.mem_append_right _ h)) (by decide +kernel))
set_option maxRecDepth 20000 in
theorem gX3_replace_X3_bookToWritePair : GoodIn wsX3_replace (wsV RX3 31 RX3 yX3_bookToWritePair wsX3_bookToWritePair) := goodIn_app (goodIn_sub (tk_mem 4 _ (fun w h => (mwsX3_replace_0 _ (tkB_mem 0 4 h))) (fun _ h => absurd h List.not_mem_nil)) (by decide +kernel)) ggX3_replace_X3_bookToWritePair
set_option maxRecDepth 20000 in
theorem ggX3_replace_X0_holds : GoodIn wsX3_replace wsX0_holds := goodIn_sub (tk_mem 4 _ (fun w h => (mwsX3_replace_1 _ (tkB_mem 5 4 h))) (List.forall_mem_cons.mpr ⟨(mwsX3_replace_0 _ (List.mem_of_getElem? (i := 23) rfl)), (tk_mem 15 _ (fun w h => (mwsX3_replace_1 _ (tkB_mem 9 15 h))) (tk_mem 14 _ (fun w h => (mwsX3_replace_2 _ (tkB_mem 0 14 h))) (tk_mem 7 _ (fun w h => (mwsX3_replace_5 _ (tkB_mem 0 7 h))) (fun _ h => absurd h List.not_mem_nil))))⟩)) (by decide +kernel)
set_option maxRecDepth 20000 in
theorem gX3_replace_X0_holds : GoodIn wsX3_replace (wsV RX3 39 RX0 yX0_holds wsX0_holds) := goodIn_app (goodIn_sub (List.forall_mem_cons.mpr ⟨(mwsX3_replace_1 _ (List.mem_of_getElem? (i := 2) rfl)), (List.forall_mem_cons.mpr ⟨(mwsX3_replace_1 _ (List.mem_of_getElem? (i := 3) rfl)), (List.forall_mem_cons.mpr ⟨(mwsX3_replace_1 _ (List.mem_of_getElem? (i := 4) rfl)), (List.forall_mem_cons.mpr ⟨(mwsX3_replace_0 _ (List.mem_of_getElem? (i := 23) rfl)), (fun _ h => absurd h List.not_mem_nil)⟩)⟩)⟩)⟩) (by decide +kernel)) ggX3_replace_X0_holds
set_option maxRecDepth 20000 in
theorem ggX3_replace_X0_enter : GoodIn wsX3_replace wsX0_enter := goodIn_sub (List.forall_mem_cons.mpr ⟨(mwsX3_replace_2 _ (List.mem_of_getElem? (i := 17) rfl)), (List.forall_mem_cons.mpr ⟨(mwsX3_replace_2 _ (List.mem_of_getElem? (i := 0) rfl)), (List.forall_mem_cons.mpr ⟨(mwsX3_replace_2 _ (List.mem_of_getElem? (i := 13) rfl)), (List.forall_mem_cons.mpr ⟨(mwsX3_replace_1 _ (List.mem_of_getElem? (i := 10) rfl)), (List.forall_mem_cons.mpr ⟨(mwsX3_replace_1 _ (List.mem_of_getElem? (i := 11) rfl)), (List.forall_mem_cons.mpr ⟨(mwsX3_replace_1 _ (List.mem_of_getElem? (i := 12) rfl)), (List.forall_mem_cons.mpr ⟨(mwsX3_replace_0 _ (List.mem_of_getElem? (i := 23) rfl)), (tk_mem 11 _ (fun w h => (mwsX3_replace_1 _ (tkB_mem 13 11 h))) (tk_mem 4 _ (fun w h => (mwsX3_replace_2 _ (tkB_mem 5 4 h))) (tk_mem 6 _ (fun w h => (mwsX3_replace_2 _ (tkB_mem 18 6 h))) (List.forall_mem_cons.mpr ⟨(mwsX3_replace_3 _ (List.mem_of_getElem? (i := 0) rfl)), (List.forall_mem_cons.mpr ⟨(mwsX3_replace_3 _ (List.mem_of_getElem? (i := 1) rfl)), (List.forall_mem_cons.mpr ⟨(mwsX3_replace_3 _ (List.mem_of_getElem? (i := 2) rfl)), (tk_mem 7 _ (fun w h => (mwsX3_replace_5 _ (tkB_mem 0 7 h))) (fun _ h => absurd h List.not_mem_nil))⟩)⟩)⟩))))⟩)⟩)⟩)⟩)⟩)⟩)⟩) (by decide +kernel)
set_option maxRecDepth 20000 in
theorem gX3_replace_X0_enter : GoodIn wsX3_replace (wsV RX3 35 RX0 yX0_enter wsX0_enter) := goodIn_app (goodIn_sub (List.forall_mem_cons.mpr ⟨(mwsX3_replace_2 _ (List.mem_of_getElem? (i := 14) rfl)), (List.forall_mem_cons.mpr ⟨(mwsX3_replace_2 _ (List.mem_of_getElem? (i := 15) rfl)), (List.forall_mem_cons.mpr ⟨(mwsX3_replace_2 _ (List.mem_of_getElem? (i := 16) rfl)), (List.forall_mem_cons.mpr ⟨(mwsX3_replace_0 _ (List.mem_of_getElem? (i := 23) rfl)), (fun _ h => absurd h List.not_mem_nil)⟩)⟩)⟩)⟩) (by decide +kernel)) ggX3_replace_X0_enter
theorem adX3_replace_0 : fd_rows (cX3_replace.data.toList.drop 0) 0 [(0, some (.aload_n 0), 1), (1, some (.iload_n 1), 1), (2, some (.iload_n 2), 1), (3, some (.iload_n 3), 1), (4, some (.invokevirtual 31), 3), (7, some (.astore 4), 2), (9, some (.aload 4), 2), (11, some (.iload_n 2), 1), (12, some (.invokevirtual 39), 3), (15, some (.ifCond .eq 13), 3), (18, some (.aload 4), 2), (20, some (.iload_n 2), 1), (21, some (.iload_n 3), 1), (22, some (.invokevirtual 35), 3), (25, some (.goto 6), 3), (28, some (.sipush (-10000)), 3)] = true := by decide +kernel
theorem adX3_replace_1 : fd_rows (cX3_replace.data.toList.drop 31) 31 [(31, some (.ireturn), 1)] = true := by decide +kernel
theorem dX3_replace_0 : decode cX3_replace 0 = .ok (.aload_n 0, 1) := fd_get adX3_replace_0 (k := 0) rfl
theorem dX3_replace_1 : decode cX3_replace 1 = .ok (.iload_n 1, 1) := fd_get adX3_replace_0 (k := 1) rfl
theorem dX3_replace_2 : decode cX3_replace 2 = .ok (.iload_n 2, 1) := fd_get adX3_replace_0 (k := 2) rfl
theorem dX3_replace_3 : decode cX3_replace 3 = .ok (.iload_n 3, 1) := fd_get adX3_replace_0 (k := 3) rfl
theorem dX3_replace_4 : decode cX3_replace 4 = .ok (.invokevirtual 31, 3) := fd_get adX3_replace_0 (k := 4) rfl
theorem dX3_replace_7 : decode cX3_replace 7 = .ok (.astore 4, 2) := fd_get adX3_replace_0 (k := 5) rfl
theorem dX3_replace_9 : decode cX3_replace 9 = .ok (.aload 4, 2) := fd_get adX3_replace_0 (k := 6) rfl
theorem dX3_replace_11 : decode cX3_replace 11 = .ok (.iload_n 2, 1) := fd_get adX3_replace_0 (k := 7) rfl
theorem dX3_replace_12 : decode cX3_replace 12 = .ok (.invokevirtual 39, 3) := fd_get adX3_replace_0 (k := 8) rfl
theorem dX3_replace_15 : decode cX3_replace 15 = .ok (.ifCond .eq 13, 3) := fd_get adX3_replace_0 (k := 9) rfl
theorem dX3_replace_18 : decode cX3_replace 18 = .ok (.aload 4, 2) := fd_get adX3_replace_0 (k := 10) rfl
theorem dX3_replace_20 : decode cX3_replace 20 = .ok (.iload_n 2, 1) := fd_get adX3_replace_0 (k := 11) rfl
theorem dX3_replace_21 : decode cX3_replace 21 = .ok (.iload_n 3, 1) := fd_get adX3_replace_0 (k := 12) rfl
theorem dX3_replace_22 : decode cX3_replace 22 = .ok (.invokevirtual 35, 3) := fd_get adX3_replace_0 (k := 13) rfl
theorem dX3_replace_25 : decode cX3_replace 25 = .ok (.goto 6, 3) := fd_get adX3_replace_0 (k := 14) rfl
theorem dX3_replace_28 : decode cX3_replace 28 = .ok (.sipush (-10000), 3) := fd_get adX3_replace_0 (k := 15) rfl
theorem dX3_replace_31 : decode cX3_replace 31 = .ok (.ireturn, 1) := fd_get adX3_replace_1 (k := 0) rfl
theorem mwsX3_swap_0 : ∀ w ∈ wsX3_swap_r1, w ∈ wsX3_swap := fun w h => (List.mem_cons_of_mem _ (List.mem_append_left _ (List.mem_append_left _ (List.mem_append_left _ (List.mem_append_left _ (List.mem_append_left _ h))))))
theorem mwsX3_swap_1 : ∀ w ∈ wsX3_swap_r2, w ∈ wsX3_swap := fun w h => (List.mem_cons_of_mem _ (List.mem_append_left _ (List.mem_append_left _ (List.mem_append_left _ (List.mem_append_left _ (List.mem_append_right _ (List.mem_append_left _ h)))))))
theorem mwsX3_swap_2 : ∀ w ∈ wsX3_swap_r3, w ∈ wsX3_swap := fun w h => (List.mem_cons_of_mem _ (List.mem_append_left _ (List.mem_append_left _ (List.mem_append_left _ (List.mem_append_left _ (List.mem_append_right _ (List.mem_append_right _ h)))))))
theorem mwsX3_swap_3 : ∀ w ∈ wsX30, w ∈ wsX3_swap := fun w h => (List.mem_cons_of_mem _ (List.mem_append_left _ (List.mem_append_left _ (List.mem_append_left _ (List.mem_append_right _ h)))))
theorem mwsX3_swap_4 : ∀ w ∈ wsX00, w ∈ wsX3_swap := fun w h => (List.mem_cons_of_mem _ (List.mem_append_left _ (List.mem_append_left _ (List.mem_append_right _ h))))
set_option maxRecDepth 20000 in
theorem ggX3_swap_X3_bookAt : GoodIn wsX3_swap wsX3_bookAt := goodIn_ca (goodIn_sub (tk_mem 4 _ (fun w h => (mwsX3_swap_0 _ (tkB_mem 4 4 h))) (tk_mem 6 _ (fun w h => (mwsX3_swap_3 _ (tkB_mem 0 6 h))) (fun _ h => absurd h List.not_mem_nil))) (by decide +kernel)) (goodIn_sub (fun _ h => List.mem_cons_of_mem _ (List.mem_append_left _ (List.mem_append_right _ h))) (by decide +kernel))
set_option maxRecDepth 20000 in
theorem gX3_swap_X3_bookAt : GoodIn wsX3_swap (wsV RX3 47 RX3 yX3_bookAt wsX3_bookAt) := goodIn_app (goodIn_sub (tk_mem 4 _ (fun w h => (mwsX3_swap_0 _ (tkB_mem 0 4 h))) (fun _ h => absurd h List.not_mem_nil)) (by decide +kernel)) ggX3_swap_X3_bookAt
set_option maxRecDepth 20000 in
theorem ggX3_swap_X3_checkKey : GoodIn wsX3_swap wsX3_checkKey := goodIn_ca (goodIn_sub (List.forall_mem_cons.mpr ⟨(mwsX3_swap_0 _ (List.mem_of_getElem? (i := 10) rfl)), (List.forall_mem_cons.mpr ⟨(mwsX3_swap_0 _ (List.mem_of_getElem? (i := 11) rfl)), (List.forall_mem_cons.mpr ⟨(mwsX3_swap_0 _ (List.mem_of_getElem? (i := 12) rfl)), (fun _ h => absurd h List.not_mem_nil)⟩)⟩)⟩) (by decide +kernel)) (goodIn_sub (fun _ h => List.mem_cons_of_mem _ (List.mem_append_right _ h)) (by decide +kernel))
set_option maxRecDepth 20000 in
theorem gX3_swap_X3_checkKey : GoodIn wsX3_swap (va_wsS RX3 51 yX3_checkKey wsX3_checkKey) := goodIn_app (goodIn_sub (List.forall_mem_cons.mpr ⟨(mwsX3_swap_0 _ (List.mem_of_getElem? (i := 8) rfl)), (List.forall_mem_cons.mpr ⟨(mwsX3_swap_0 _ (List.mem_of_getElem? (i := 9) rfl)), (List.forall_mem_cons.mpr ⟨(mwsX3_swap_0 _ (List.mem_of_getElem? (i := 3) rfl)), (fun _ h => absurd h List.not_mem_nil)⟩)⟩)⟩) (by decide +kernel)) ggX3_swap_X3_checkKey
set_option maxRecDepth 20000 in
theorem ggX3_swap_X3_checkValue : GoodIn wsX3_swap wsX3_checkValue := goodIn_ca (goodIn_sub (List.forall_mem_cons.mpr ⟨(mwsX3_swap_0 _ (List.mem_of_getElem? (i := 15) rfl)), (List.forall_mem_cons.mpr ⟨(mwsX3_swap_0 _ (List.mem_of_getElem? (i := 11) rfl)), (List.forall_mem_cons.mpr ⟨(mwsX3_swap_0 _ (List.mem_of_getElem? (i := 12) rfl)), (fun _ h => absurd h List.not_mem_nil)⟩)⟩)⟩) (by decide +kernel)) (goodIn_sub (fun _ h => List.mem_cons_of_mem _ (List.mem_append_right _ h)) (by decide +kernel))
set_option maxRecDepth 20000 in
theorem gX3_swap_X3_checkValue : GoodIn wsX3_swap (va_wsS RX3 54 yX3_checkValue wsX3_checkValue) := goodIn_app (goodIn_sub (List.forall_mem_cons.mpr ⟨(mwsX3_swap_0 _ (List.mem_of_getElem? (i := 13) rfl)), (List.forall_mem_cons.mpr ⟨(mwsX3_swap_0 _ (List.mem_of_getElem? (i := 14) rfl)), (List.forall_mem_cons.mpr ⟨(mwsX3_swap_0 _ (List.mem_of_getElem? (i := 3) rfl)), (fun _ h => absurd h List.not_mem_nil)⟩)⟩)⟩) (by decide +kernel)) ggX3_swap_X3_checkValue
set_option maxRecDepth 20000 in
theorem ggX3_swap_X0_touch : GoodIn wsX3_swap wsX0_touch := goodIn_sub (List.forall_mem_cons.mpr ⟨(mwsX3_swap_0 _ (List.mem_of_getElem? (i := 20) rfl)), (List.forall_mem_cons.mpr ⟨(mwsX3_swap_0 _ (List.mem_of_getElem? (i := 21) rfl)), (tk_mem 7 _ (fun w h => (mwsX3_swap_4 _ (tkB_mem 0 7 h))) (fun _ h => absurd h List.not_mem_nil))⟩)⟩) (by decide +kernel)
set_option maxRecDepth 20000 in
theorem gX3_swap_X0_touch : GoodIn wsX3_swap (wsV RX3 57 RX0 yX0_touch wsX0_touch) := goodIn_app (goodIn_sub (tk_mem 4 _ (fun w h => (mwsX3_swap_0 _ (tkB_mem 16 4 h))) (fun _ h => absurd h List.not_mem_nil)) (by decide +kernel)) ggX3_swap_X0_touch
set_option maxRecDepth 20000 in
theorem ggX3_swap_X0_valueOf : GoodIn wsX3_swap wsX0_valueOf := goodIn_sub (tk_mem 4 _ (fun w h => (mwsX3_swap_1 _ (tkB_mem 1 4 h))) (List.forall_mem_cons.mpr ⟨(mwsX3_swap_0 _ (List.mem_of_getElem? (i := 19) rfl)), (tk_mem 19 _ (fun w h => (mwsX3_swap_1 _ (tkB_mem 5 19 h))) (tk_mem 6 _ (fun w h => (mwsX3_swap_2 _ (tkB_mem 0 6 h))) (tk_mem 7 _ (fun w h => (mwsX3_swap_4 _ (tkB_mem 0 7 h))) (fun _ h => absurd h List.not_mem_nil))))⟩)) (by decide +kernel)
set_option maxRecDepth 20000 in
theorem gX3_swap_X0_valueOf : GoodIn wsX3_swap (wsV RX3 43 RX0 yX0_valueOf wsX0_valueOf) := goodIn_app (goodIn_sub (List.forall_mem_cons.mpr ⟨(mwsX3_swap_0 _ (List.mem_of_getElem? (i := 22) rfl)), (List.forall_mem_cons.mpr ⟨(mwsX3_swap_0 _ (List.mem_of_getElem? (i := 23) rfl)), (List.forall_mem_cons.mpr ⟨(mwsX3_swap_1 _ (List.mem_of_getElem? (i := 0) rfl)), (List.forall_mem_cons.mpr ⟨(mwsX3_swap_0 _ (List.mem_of_getElem? (i := 19) rfl)), (fun _ h => absurd h List.not_mem_nil)⟩)⟩)⟩)⟩) (by decide +kernel)) ggX3_swap_X0_valueOf
set_option maxRecDepth 20000 in
theorem ggX3_swap_X0_enter : GoodIn wsX3_swap wsX0_enter := goodIn_sub (List.forall_mem_cons.mpr ⟨(mwsX3_swap_2 _ (List.mem_of_getElem? (i := 9) rfl)), (List.forall_mem_cons.mpr ⟨(mwsX3_swap_1 _ (List.mem_of_getElem? (i := 16) rfl)), (List.forall_mem_cons.mpr ⟨(mwsX3_swap_2 _ (List.mem_of_getElem? (i := 5) rfl)), (List.forall_mem_cons.mpr ⟨(mwsX3_swap_1 _ (List.mem_of_getElem? (i := 2) rfl)), (List.forall_mem_cons.mpr ⟨(mwsX3_swap_1 _ (List.mem_of_getElem? (i := 3) rfl)), (List.forall_mem_cons.mpr ⟨(mwsX3_swap_1 _ (List.mem_of_getElem? (i := 4) rfl)), (List.forall_mem_cons.mpr ⟨(mwsX3_swap_0 _ (List.mem_of_getElem? (i := 19) rfl)), (tk_mem 11 _ (fun w h => (mwsX3_swap_1 _ (tkB_mem 5 11 h))) (List.forall_mem_cons.mpr ⟨(mwsX3_swap_1 _ (List.mem_of_getElem? (i := 21) rfl)), (List.forall_mem_cons.mpr ⟨(mwsX3_swap_1 _ (List.mem_of_getElem? (i := 22) rfl)), (List.forall_mem_cons.mpr ⟨(mwsX3_swap_1 _ (List.mem_of_getElem? (i := 23) rfl)), (List.forall_mem_cons.mpr ⟨(mwsX3_swap_2 _ (List.mem_of_getElem? (i := 0) rfl)), (tk_mem 9 _ (fun w h => (mwsX3_swap_2 _ (tkB_mem 10 9 h))) (tk_mem 7 _ (fun w h => (mwsX3_swap_4 _ (tkB_mem 0 7 h))) (fun _ h => absurd h List.not_mem_nil)))⟩)⟩)⟩)⟩))⟩)⟩)⟩)⟩)⟩)⟩)⟩) (by decide +kernel)
set_option maxRecDepth 20000 in
theorem gX3_swap_X0_enter : GoodIn wsX3_swap (wsV RX3 35 RX0 yX0_enter wsX0_enter) := goodIn_app (goodIn_sub (List.forall_mem_cons.mpr ⟨(mwsX3_swap_2 _ (List.mem_of_getElem? (i := 6) rfl)), (List.forall_mem_cons.mpr ⟨(mwsX3_swap_2 _ (List.mem_of_getElem? (i := 7) rfl)), (List.forall_mem_cons.mpr ⟨(mwsX3_swap_2 _ (List.mem_of_getElem? (i := 8) rfl)), (List.forall_mem_cons.mpr ⟨(mwsX3_swap_0 _ (List.mem_of_getElem? (i := 19) rfl)), (fun _ h => absurd h List.not_mem_nil)⟩)⟩)⟩)⟩) (by decide +kernel)) ggX3_swap_X0_enter
theorem adX3_swap_0 : fd_rows (cX3_swap.data.toList.drop 0) 0 [(0, some (.aload_n 0), 1), (1, some (.iload_n 1), 1), (2, some (.invokevirtual 47), 3), (5, some (.astore 5), 2), (7, some (.iload_n 2), 1), (8, some (.invokestatic 51), 3), (11, some (.iload_n 3), 1), (12, some (.invokestatic 54), 3), (15, some (.iload 4), 2), (17, some (.invokestatic 54), 3), (20, some (.aload 5), 2), (22, some (.invokevirtual 57), 3), (25, some (.aload 5), 2), (27, some (.iload_n 2), 1), (28, some (.invokevirtual 43), 3), (31, some (.iload_n 3), 1)] = true := by decide +kernel
theorem adX3_swap_1 : fd_rows (cX3_swap.data.toList.drop 32) 32 [(32, some (.if_icmp .eq 5), 3), (35, some (.iconst 0), 1), (36, some (.ireturn), 1), (37, some (.aload 5), 2), (39, some (.iload_n 2), 1), (40, some (.iload 4), 2), (42, some (.invokevirtual 35), 3), (45, some (.pop), 1), (46, some (.iconst 1), 1), (47, some (.ireturn), 1)] = true := by decide +kernel
theorem dX3_swap_0 : decode cX3_swap 0 = .ok (.aload_n 0, 1) := fd_get adX3_swap_0 (k := 0) rfl
theorem dX3_swap_1 : decode cX3_swap 1 = .ok (.iload_n 1, 1) := fd_get adX3_swap_0 (k := 1) rfl
theorem dX3_swap_2 : decode cX3_swap 2 = .ok (.invokevirtual 47, 3) := fd_get adX3_swap_0 (k := 2) rfl
theorem dX3_swap_5 : decode cX3_swap 5 = .ok (.astore 5, 2) := fd_get adX3_swap_0 (k := 3) rfl
theorem dX3_swap_7 : decode cX3_swap 7 = .ok (.iload_n 2, 1) := fd_get adX3_swap_0 (k := 4) rfl
theorem dX3_swap_8 : decode cX3_swap 8 = .ok (.invokestatic 51, 3) := fd_get adX3_swap_0 (k := 5) rfl
theorem dX3_swap_11 : decode cX3_swap 11 = .ok (.iload_n 3, 1) := fd_get adX3_swap_0 (k := 6) rfl
theorem dX3_swap_12 : decode cX3_swap 12 = .ok (.invokestatic 54, 3) := fd_get adX3_swap_0 (k := 7) rfl
theorem dX3_swap_15 : decode cX3_swap 15 = .ok (.iload 4, 2) := fd_get adX3_swap_0 (k := 8) rfl
theorem dX3_swap_17 : decode cX3_swap 17 = .ok (.invokestatic 54, 3) := fd_get adX3_swap_0 (k := 9) rfl
theorem dX3_swap_20 : decode cX3_swap 20 = .ok (.aload 5, 2) := fd_get adX3_swap_0 (k := 10) rfl
theorem dX3_swap_22 : decode cX3_swap 22 = .ok (.invokevirtual 57, 3) := fd_get adX3_swap_0 (k := 11) rfl
theorem dX3_swap_25 : decode cX3_swap 25 = .ok (.aload 5, 2) := fd_get adX3_swap_0 (k := 12) rfl
theorem dX3_swap_27 : decode cX3_swap 27 = .ok (.iload_n 2, 1) := fd_get adX3_swap_0 (k := 13) rfl
theorem dX3_swap_28 : decode cX3_swap 28 = .ok (.invokevirtual 43, 3) := fd_get adX3_swap_0 (k := 14) rfl
theorem dX3_swap_31 : decode cX3_swap 31 = .ok (.iload_n 3, 1) := fd_get adX3_swap_0 (k := 15) rfl
theorem dX3_swap_32 : decode cX3_swap 32 = .ok (.if_icmp .eq 5, 3) := fd_get adX3_swap_1 (k := 0) rfl
theorem dX3_swap_35 : decode cX3_swap 35 = .ok (.iconst 0, 1) := fd_get adX3_swap_1 (k := 1) rfl
theorem dX3_swap_36 : decode cX3_swap 36 = .ok (.ireturn, 1) := fd_get adX3_swap_1 (k := 2) rfl
theorem dX3_swap_37 : decode cX3_swap 37 = .ok (.aload 5, 2) := fd_get adX3_swap_1 (k := 3) rfl
theorem dX3_swap_39 : decode cX3_swap 39 = .ok (.iload_n 2, 1) := fd_get adX3_swap_1 (k := 4) rfl
theorem dX3_swap_40 : decode cX3_swap 40 = .ok (.iload 4, 2) := fd_get adX3_swap_1 (k := 5) rfl
theorem dX3_swap_42 : decode cX3_swap 42 = .ok (.invokevirtual 35, 3) := fd_get adX3_swap_1 (k := 6) rfl
theorem dX3_swap_45 : decode cX3_swap 45 = .ok (.pop, 1) := fd_get adX3_swap_1 (k := 7) rfl
theorem dX3_swap_46 : decode cX3_swap 46 = .ok (.iconst 1, 1) := fd_get adX3_swap_1 (k := 8) rfl
theorem dX3_swap_47 : decode cX3_swap 47 = .ok (.ireturn, 1) := fd_get adX3_swap_1 (k := 9) rfl
theorem mwsX3_strike_0 : ∀ w ∈ wsX3_strike_r1, w ∈ wsX3_strike := fun w h => (List.mem_cons_of_mem _ (List.mem_append_left _ (List.mem_append_left _ (List.mem_append_left _ (List.mem_append_left _ (List.mem_append_left _ h))))))
theorem mwsX3_strike_1 : ∀ w ∈ wsX3_strike_r2, w ∈ wsX3_strike := fun w h => (List.mem_cons_of_mem _ (List.mem_append_left _ (List.mem_append_left _ (List.mem_append_left _ (List.mem_append_left _ (List.mem_append_right _ (List.mem_append_left _ h)))))))
theorem mwsX3_strike_2 : ∀ w ∈ wsX3_strike_r3, w ∈ wsX3_strike := fun w h => (List.mem_cons_of_mem _ (List.mem_append_left _ (List.mem_append_left _ (List.mem_append_left _ (List.mem_append_left _ (List.mem_append_right _ (List.mem_append_right _ h)))))))
theorem mwsX3_strike_3 : ∀ w ∈ wsX30, w ∈ wsX3_strike := fun w h => (List.mem_cons_of_mem _ (List.mem_append_left _ (List.mem_append_left _ (List.mem_append_left _ (List.mem_append_right _ h)))))
theorem mwsX3_strike_4 : ∀ w ∈ wsX00, w ∈ wsX3_strike := fun w h => (List.mem_cons_of_mem _ (List.mem_append_left _ (List.mem_append_left _ (List.mem_append_right _ h))))
set_option maxRecDepth 20000 in
theorem ggX3_strike_X3_bookToWriteKey : GoodIn wsX3_strike wsX3_bookToWriteKey := goodIn_ca (goodIn_ca (goodIn_sub (tk_mem 4 _ (fun w h => (mwsX3_strike_0 _ (tkB_mem 4 4 h))) (List.forall_mem_cons.mpr ⟨(mwsX3_strike_0 _ (List.mem_of_getElem? (i := 3) rfl)), (tk_mem 15 _ (fun w h => (mwsX3_strike_0 _ (tkB_mem 8 15 h))) (tk_mem 6 _ (fun w h => (mwsX3_strike_3 _ (tkB_mem 0 6 h))) (tk_mem 7 _ (fun w h => (mwsX3_strike_4 _ (tkB_mem 0 7 h))) (fun _ h => absurd h List.not_mem_nil))))⟩)) (by decide +kernel)) (goodIn_sub (fun _ h => List.mem_cons_of_mem _ (List.mem_append_left _ (List.mem_append_right _ h))) (by decide +kernel))) (goodIn_sub (fun _ h => List.mem_cons_of_mem _ (List.mem_append_right _ h)) (by decide +kernel))
set_option maxRecDepth 20000 in
theorem gX3_strike_X3_bookToWriteKey : GoodIn wsX3_strike (wsV RX3 60 RX3 yX3_bookToWriteKey wsX3_bookToWriteKey) := goodIn_app (goodIn_sub (tk_mem 4 _ (fun w h => (mwsX3_strike_0 _ (tkB_mem 0 4 h))) (fun _ h => absurd h List.not_mem_nil)) (by decide +kernel)) ggX3_strike_X3_bookToWriteKey
set_option maxRecDepth 20000 in
theorem ggX3_strike_X0_removeKey : GoodIn wsX3_strike wsX0_removeKey := goodIn_sub (tk_mem 4 _ (fun w h => (mwsX3_strike_1 _ (tkB_mem 2 4 h))) (List.forall_mem_cons.mpr ⟨(mwsX3_strike_0 _ (List.mem_of_getElem? (i := 20) rfl)), (tk_mem 18 _ (fun w h => (mwsX3_strike_1 _ (tkB_mem 6 18 h))) (tk_mem 16 _ (fun w h => (mwsX3_strike_2 _ (tkB_mem 0 16 h))) (tk_mem 7 _ (fun w h => (mwsX3_strike_4 _ (tkB_mem 0 7 h))) (fun _ h => absurd h List.not_mem_nil))))⟩)) (by decide +kernel)
set_option maxRecDepth 20000 in
theorem gX3_strike_X0_removeKey : GoodIn wsX3_strike (wsV RX3 64 RX0 yX0_removeKey wsX0_removeKey) := goodIn_app (goodIn_sub (List.forall_mem_cons.mpr ⟨(mwsX3_strike_0 _ (List.mem_of_getElem? (i := 23) rfl)), (List.forall_mem_cons.mpr ⟨(mwsX3_strike_1 _ (List.mem_of_getElem? (i := 0) rfl)), (List.forall_mem_cons.mpr ⟨(mwsX3_strike_1 _ (List.mem_of_getElem? (i := 1) rfl)), (List.forall_mem_cons.mpr ⟨(mwsX3_strike_0 _ (List.mem_of_getElem? (i := 20) rfl)), (fun _ h => absurd h List.not_mem_nil)⟩)⟩)⟩)⟩) (by decide +kernel)) ggX3_strike_X0_removeKey
theorem adX3_strike_0 : fd_rows (cX3_strike.data.toList.drop 0) 0 [(0, some (.aload_n 0), 1), (1, some (.iload_n 1), 1), (2, some (.iload_n 2), 1), (3, some (.invokevirtual 60), 3), (6, some (.iload_n 2), 1), (7, some (.invokevirtual 64), 3), (10, some (.ireturn), 1)] = true := by decide +kernel
theorem dX3_strike_0 : decode cX3_strike 0 = .ok (.aload_n 0, 1) := fd_get adX3_strike_0 (k := 0) rfl
theorem dX3_strike_1 : decode cX3_strike 1 = .ok (.iload_n 1, 1) := fd_get adX3_strike_0 (k := 1) rfl
theorem dX3_strike_2 : decode cX3_strike 2 = .ok (.iload_n 2, 1) := fd_get adX3_strike_0 (k := 2) rfl
theorem dX3_strike_3 : decode cX3_strike 3 = .ok (.invokevirtual 60, 3) := fd_get adX3_strike_0 (k := 3) rfl
theorem dX3_strike_6 : decode cX3_strike 6 = .ok (.iload_n 2, 1) := fd_get adX3_strike_0 (k := 4) rfl
theorem dX3_strike_7 : decode cX3_strike 7 = .ok (.invokevirtual 64, 3) := fd_get adX3_strike_0 (k := 5) rfl
theorem dX3_strike_10 : decode cX3_strike 10 = .ok (.ireturn, 1) := fd_get adX3_strike_0 (k := 6) rfl
theorem mwsX3_strikePair_0 : ∀ w ∈ wsX3_strikePair_r1, w ∈ wsX3_strikePair := fun w h => (List.mem_cons_of_mem _ (List.mem_append_left _ (List.mem_append_left _ (List.mem_append_left _ (List.mem_append_left _ (List.mem_append_left _ h))))))
theorem mwsX3_strikePair_1 : ∀ w ∈ wsX3_strikePair_r2, w ∈ wsX3_strikePair := fun w h => (List.mem_cons_of_mem _ (List.mem_append_left _ (List.mem_append_left _ (List.mem_append_left _ (List.mem_append_left _ (List.mem_append_right _ (List.mem_append_left _ h)))))))
theorem mwsX3_strikePair_2 : ∀ w ∈ wsX3_strikePair_r3, w ∈ wsX3_strikePair := fun w h => (List.mem_cons_of_mem _ (List.mem_append_left _ (List.mem_append_left _ (List.mem_append_left _ (List.mem_append_left _ (List.mem_append_right _ (List.mem_append_right _ h)))))))
theorem mwsX3_strikePair_3 : ∀ w ∈ wsX30, w ∈ wsX3_strikePair := fun w h => (List.mem_cons_of_mem _ (List.mem_append_left _ (List.mem_append_left _ (List.mem_append_left _ (List.mem_append_right _ h)))))
theorem mwsX3_strikePair_4 : ∀ w ∈ wsX00, w ∈ wsX3_strikePair := fun w h => (List.mem_cons_of_mem _ (List.mem_append_left _ (List.mem_append_left _ (List.mem_append_right _ h))))
set_option maxRecDepth 20000 in
theorem ggX3_strikePair_X3_bookToWritePair : GoodIn wsX3_strikePair wsX3_bookToWritePair := goodIn_ca (goodIn_ca (goodIn_sub (tk_mem 4 _ (fun w h => (mwsX3_strikePair_0 _ (tkB_mem 4 4 h))) (List.forall_mem_cons.mpr ⟨(mwsX3_strikePair_0 _ (List.mem_of_getElem? (i := 3) rfl)), (tk_mem 16 _ (fun w h => (mwsX3_strikePair_0 _ (tkB_mem 8 16 h))) (List.forall_mem_cons.mpr ⟨(mwsX3_strikePair_1 _ (List.mem_of_getElem? (i := 0) rfl)), (List.forall_mem_cons.mpr ⟨(mwsX3_strikePair_1 _ (List.mem_of_getElem? (i := 1) rfl)), (tk_mem 6 _ (fun w h => (mwsX3_strikePair_3 _ (tkB_mem 0 6 h))) (tk_mem 7 _ (fun w h => (mwsX3_strikePair_4 _ (tkB_mem 0 7 h))) (fun _ h => absurd h List.not_mem_nil)))⟩)⟩))⟩)) (by decide +kernel)) (goodIn_sub (fun _ h => List.mem_cons_of_mem _ (List.mem_append_left _ (List.mem_append_right _ h))) (by decide +kernel))) (goodIn_sub (fun _ h => List.mem_cons_of_mem _ (List.mem_append_right _ h)) (by decide +kernel))
set_option maxRecDepth 20000 in
theorem gX3_strikePair_X3_bookToWritePair : GoodIn wsX3_strikePair (wsV RX3 31 RX3 yX3_bookToWritePair wsX3_bookToWritePair) := goodIn_app (goodIn_sub (tk_mem 4 _ (fun w h => (mwsX3_strikePair_0 _ (tkB_mem 0 4 h))) (fun _ h => absurd h List.not_mem_nil)) (by decide +kernel)) ggX3_strikePair_X3_bookToWritePair
set_option maxRecDepth 20000 in
theorem ggX3_strikePair_X0_valueOf : GoodIn wsX3_strikePair wsX0_valueOf := goodIn_sub (tk_mem 4 _ (fun w h => (mwsX3_strikePair_1 _ (tkB_mem 5 4 h))) (List.forall_mem_cons.mpr ⟨(mwsX3_strikePair_0 _ (List.mem_of_getElem? (i := 23) rfl)), (tk_mem 15 _ (fun w h => (mwsX3_strikePair_1 _ (tkB_mem 9 15 h))) (tk_mem 10 _ (fun w h => (mwsX3_strikePair_2 _ (tkB_mem 0 10 h))) (tk_mem 7 _ (fun w h => (mwsX3_strikePair_4 _ (tkB_mem 0 7 h))) (fun _ h => absurd h List.not_mem_nil))))⟩)) (by decide +kernel)
set_option maxRecDepth 20000 in
theorem gX3_strikePair_X0_valueOf : GoodIn wsX3_strikePair (wsV RX3 43 RX0 yX0_valueOf wsX0_valueOf) := goodIn_app (goodIn_sub (List.forall_mem_cons.mpr ⟨(mwsX3_strikePair_1 _ (List.mem_of_getElem? (i := 2) rfl)), (List.forall_mem_cons.mpr ⟨(mwsX3_strikePair_1 _ (List.mem_of_getElem? (i := 3) rfl)), (List.forall_mem_cons.mpr ⟨(mwsX3_strikePair_1 _ (List.mem_of_getElem? (i := 4) rfl)), (List.forall_mem_cons.mpr ⟨(mwsX3_strikePair_0 _ (List.mem_of_getElem? (i := 23) rfl)), (fun _ h => absurd h List.not_mem_nil)⟩)⟩)⟩)⟩) (by decide +kernel)) ggX3_strikePair_X0_valueOf
set_option maxRecDepth 20000 in
theorem ggX3_strikePair_X0_removeKey : GoodIn wsX3_strikePair wsX0_removeKey := goodIn_sub (List.forall_mem_cons.mpr ⟨(mwsX3_strikePair_2 _ (List.mem_of_getElem? (i := 13) rfl)), (List.forall_mem_cons.mpr ⟨(mwsX3_strikePair_1 _ (List.mem_of_getElem? (i := 6) rfl)), (List.forall_mem_cons.mpr ⟨(mwsX3_strikePair_1 _ (List.mem_of_getElem? (i := 7) rfl)), (List.forall_mem_cons.mpr ⟨(mwsX3_strikePair_1 _ (List.mem_of_getElem? (i := 8) rfl)), (List.forall_mem_cons.mpr ⟨(mwsX3_strikePair_0 _ (List.mem_of_getElem? (i := 23) rfl)), (tk_mem 15 _ (fun w h => (mwsX3_strikePair_1 _ (tkB_mem 9 15 h))) (tk_mem 10 _ (fun w h => (mwsX3_strikePair_2 _ (tkB_mem 0 10 h))) (tk_mem 9 _ (fun w h => (mwsX3_strikePair_2 _ (tkB_mem 14 9 h))) (tk_mem 7 _ (fun w h => (mwsX3_strikePair_4 _ (tkB_mem 0 7 h))) (fun _ h => absurd h List.not_mem_nil)))))⟩)⟩)⟩)⟩)⟩) (by decide +kernel)
set_option maxRecDepth 20000 in
theorem gX3_strikePair_X0_removeKey : GoodIn wsX3_strikePair (wsV RX3 64 RX0 yX0_removeKey wsX0_removeKey) := goodIn_app (goodIn_sub (List.forall_mem_cons.mpr ⟨(mwsX3_strikePair_2 _ (List.mem_of_getElem? (i := 10) rfl)), (List.forall_mem_cons.mpr ⟨(mwsX3_strikePair_2 _ (List.mem_of_getElem? (i := 11) rfl)), (List.forall_mem_cons.mpr ⟨(mwsX3_strikePair_2 _ (List.mem_of_getElem? (i := 12) rfl)), (List.forall_mem_cons.mpr ⟨(mwsX3_strikePair_0 _ (List.mem_of_getElem? (i := 23) rfl)), (fun _ h => absurd h List.not_mem_nil)⟩)⟩)⟩)⟩) (by decide +kernel)) ggX3_strikePair_X0_removeKey
theorem adX3_strikePair_0 : fd_rows (cX3_strikePair.data.toList.drop 0) 0 [(0, some (.aload_n 0), 1), (1, some (.iload_n 1), 1), (2, some (.iload_n 2), 1), (3, some (.iload_n 3), 1), (4, some (.invokevirtual 31), 3), (7, some (.astore 4), 2), (9, some (.aload 4), 2), (11, some (.iload_n 2), 1), (12, some (.invokevirtual 43), 3), (15, some (.iload_n 3), 1), (16, some (.if_icmp .eq 5), 3), (19, some (.iconst 0), 1), (20, some (.ireturn), 1), (21, some (.aload 4), 2), (23, some (.iload_n 2), 1), (24, some (.invokevirtual 64), 3)] = true := by decide +kernel
theorem adX3_strikePair_1 : fd_rows (cX3_strikePair.data.toList.drop 27) 27 [(27, some (.pop), 1), (28, some (.iconst 1), 1), (29, some (.ireturn), 1)] = true := by decide +kernel
theorem dX3_strikePair_0 : decode cX3_strikePair 0 = .ok (.aload_n 0, 1) := fd_get adX3_strikePair_0 (k := 0) rfl
theorem dX3_strikePair_1 : decode cX3_strikePair 1 = .ok (.iload_n 1, 1) := fd_get adX3_strikePair_0 (k := 1) rfl
theorem dX3_strikePair_2 : decode cX3_strikePair 2 = .ok (.iload_n 2, 1) := fd_get adX3_strikePair_0 (k := 2) rfl
theorem dX3_strikePair_3 : decode cX3_strikePair 3 = .ok (.iload_n 3, 1) := fd_get adX3_strikePair_0 (k := 3) rfl
theorem dX3_strikePair_4 : decode cX3_strikePair 4 = .ok (.invokevirtual 31, 3) := fd_get adX3_strikePair_0 (k := 4) rfl
theorem dX3_strikePair_7 : decode cX3_strikePair 7 = .ok (.astore 4, 2) := fd_get adX3_strikePair_0 (k := 5) rfl
theorem dX3_strikePair_9 : decode cX3_strikePair 9 = .ok (.aload 4, 2) := fd_get adX3_strikePair_0 (k := 6) rfl
theorem dX3_strikePair_11 : decode cX3_strikePair 11 = .ok (.iload_n 2, 1) := fd_get adX3_strikePair_0 (k := 7) rfl
theorem dX3_strikePair_12 : decode cX3_strikePair 12 = .ok (.invokevirtual 43, 3) := fd_get adX3_strikePair_0 (k := 8) rfl
theorem dX3_strikePair_15 : decode cX3_strikePair 15 = .ok (.iload_n 3, 1) := fd_get adX3_strikePair_0 (k := 9) rfl
theorem dX3_strikePair_16 : decode cX3_strikePair 16 = .ok (.if_icmp .eq 5, 3) := fd_get adX3_strikePair_0 (k := 10) rfl
theorem dX3_strikePair_19 : decode cX3_strikePair 19 = .ok (.iconst 0, 1) := fd_get adX3_strikePair_0 (k := 11) rfl
theorem dX3_strikePair_20 : decode cX3_strikePair 20 = .ok (.ireturn, 1) := fd_get adX3_strikePair_0 (k := 12) rfl
theorem dX3_strikePair_21 : decode cX3_strikePair 21 = .ok (.aload 4, 2) := fd_get adX3_strikePair_0 (k := 13) rfl
theorem dX3_strikePair_23 : decode cX3_strikePair 23 = .ok (.iload_n 2, 1) := fd_get adX3_strikePair_0 (k := 14) rfl
theorem dX3_strikePair_24 : decode cX3_strikePair 24 = .ok (.invokevirtual 64, 3) := fd_get adX3_strikePair_0 (k := 15) rfl
theorem dX3_strikePair_27 : decode cX3_strikePair 27 = .ok (.pop, 1) := fd_get adX3_strikePair_1 (k := 0) rfl
theorem dX3_strikePair_28 : decode cX3_strikePair 28 = .ok (.iconst 1, 1) := fd_get adX3_strikePair_1 (k := 1) rfl
theorem dX3_strikePair_29 : decode cX3_strikePair 29 = .ok (.ireturn, 1) := fd_get adX3_strikePair_1 (k := 2) rfl
theorem mwsX3_merge_0 : ∀ w ∈ wsX3_merge_r1, w ∈ wsX3_merge := fun w h => (List.mem_cons_of_mem _ (List.mem_append_left _ (List.mem_append_left _ (List.mem_append_left _ (List.mem_append_left _ (List.mem_append_left _ h))))))
theorem mwsX3_merge_1 : ∀ w ∈ wsX3_merge_r2, w ∈ wsX3_merge := fun w h => (List.mem_cons_of_mem _ (List.mem_append_left _ (List.mem_append_left _ (List.mem_append_left _ (List.mem_append_left _ (List.mem_append_right _ (List.mem_append_left _ h)))))))
theorem mwsX3_merge_2 : ∀ w ∈ wsX3_merge_r3, w ∈ wsX3_merge := fun w h => (List.mem_cons_of_mem _ (List.mem_append_left _ (List.mem_append_left _ (List.mem_append_left _ (List.mem_append_left _ (List.mem_append_right _ (List.mem_append_right _ (List.mem_append_left _ h))))))))
theorem mwsX3_merge_3 : ∀ w ∈ wsX3_merge_r4, w ∈ wsX3_merge := fun w h => (List.mem_cons_of_mem _ (List.mem_append_left _ (List.mem_append_left _ (List.mem_append_left _ (List.mem_append_left _ (List.mem_append_right _ (List.mem_append_right _ (List.mem_append_right _ (List.mem_append_left _ h)))))))))
theorem mwsX3_merge_4 : ∀ w ∈ wsX3_merge_r5, w ∈ wsX3_merge := fun w h => (List.mem_cons_of_mem _ (List.mem_append_left _ (List.mem_append_left _ (List.mem_append_left _ (List.mem_append_left _ (List.mem_append_right _ (List.mem_append_right _ (List.mem_append_right _ (List.mem_append_right _ h)))))))))
theorem mwsX3_merge_5 : ∀ w ∈ wsX30, w ∈ wsX3_merge := fun w h => (List.mem_cons_of_mem _ (List.mem_append_left _ (List.mem_append_left _ (List.mem_append_left _ (List.mem_append_right _ h)))))
theorem mwsX3_merge_6 : ∀ w ∈ wsX00, w ∈ wsX3_merge := fun w h => (List.mem_cons_of_mem _ (List.mem_append_left _ (List.mem_append_left _ (List.mem_append_right _ h))))
set_option maxRecDepth 20000 in
theorem ggX3_merge_X3_bookToWritePair : GoodIn wsX3_merge wsX3_bookToWritePair := goodIn_ca (goodIn_ca (goodIn_sub (tk_mem 4 _ (fun w h => (mwsX3_merge_0 _ (tkB_mem 4 4 h))) (List.forall_mem_cons.mpr ⟨(mwsX3_merge_0 _ (List.mem_of_getElem? (i := 3) rfl)), (tk_mem 16 _ (fun w h => (mwsX3_merge_0 _ (tkB_mem 8 16 h))) (List.forall_mem_cons.mpr ⟨(mwsX3_merge_1 _ (List.mem_of_getElem? (i := 0) rfl)), (List.forall_mem_cons.mpr ⟨(mwsX3_merge_1 _ (List.mem_of_getElem? (i := 1) rfl)), (tk_mem 6 _ (fun w h => (mwsX3_merge_5 _ (tkB_mem 0 6 h))) (tk_mem 7 _ (fun w h => (mwsX3_merge_6 _ (tkB_mem 0 7 h))) (fun _ h => absurd h List.not_mem_nil)))⟩)⟩))⟩)) (by decide +kernel)) (goodIn_sub (fun _ h => List.mem_cons_of_mem _ (List.mem_append_left _ (List.mem_append_right _ h))) (by decide +kernel))) (goodIn_sub (fun _ h => List.mem_cons_of_mem _ (List.mem_append_right _ h)) (by decide +kernel))
set_option maxRecDepth 20000 in
theorem gX3_merge_X3_bookToWritePair : GoodIn wsX3_merge (wsV RX3 31 RX3 yX3_bookToWritePair wsX3_bookToWritePair) := goodIn_app (goodIn_sub (tk_mem 4 _ (fun w h => (mwsX3_merge_0 _ (tkB_mem 0 4 h))) (fun _ h => absurd h List.not_mem_nil)) (by decide +kernel)) ggX3_merge_X3_bookToWritePair
set_option maxRecDepth 20000 in
theorem ggX3_merge_X0_putTogether : GoodIn wsX3_merge wsX0_putTogether := goodIn_sub (tk_mem 4 _ (fun w h => (mwsX3_merge_1 _ (tkB_mem 5 4 h))) (List.forall_mem_cons.mpr ⟨(mwsX3_merge_0 _ (List.mem_of_getElem? (i := 23) rfl)), (tk_mem 15 _ (fun w h => (mwsX3_merge_1 _ (tkB_mem 9 15 h))) (tk_mem 24 _ (fun w h => (mwsX3_merge_2 _ (tkB_mem 0 24 h))) (tk_mem 24 _ (fun w h => (mwsX3_merge_3 _ (tkB_mem 0 24 h))) (tk_mem 5 _ (fun w h => (mwsX3_merge_4 _ (tkB_mem 0 5 h))) (tk_mem 7 _ (fun w h => (mwsX3_merge_6 _ (tkB_mem 0 7 h))) (fun _ h => absurd h List.not_mem_nil))))))⟩)) (by decide +kernel)
set_option maxRecDepth 20000 in
theorem gX3_merge_X0_putTogether : GoodIn wsX3_merge (wsV RX3 67 RX0 yX0_putTogether wsX0_putTogether) := goodIn_app (goodIn_sub (List.forall_mem_cons.mpr ⟨(mwsX3_merge_1 _ (List.mem_of_getElem? (i := 2) rfl)), (List.forall_mem_cons.mpr ⟨(mwsX3_merge_1 _ (List.mem_of_getElem? (i := 3) rfl)), (List.forall_mem_cons.mpr ⟨(mwsX3_merge_1 _ (List.mem_of_getElem? (i := 4) rfl)), (List.forall_mem_cons.mpr ⟨(mwsX3_merge_0 _ (List.mem_of_getElem? (i := 23) rfl)), (fun _ h => absurd h List.not_mem_nil)⟩)⟩)⟩)⟩) (by decide +kernel)) ggX3_merge_X0_putTogether
theorem adX3_merge_0 : fd_rows (cX3_merge.data.toList.drop 0) 0 [(0, some (.aload_n 0), 1), (1, some (.iload_n 1), 1), (2, some (.iload_n 2), 1), (3, some (.iload_n 3), 1), (4, some (.invokevirtual 31), 3), (7, some (.iload_n 2), 1), (8, some (.iload_n 3), 1), (9, some (.invokevirtual 67), 3), (12, some (.ireturn), 1)] = true := by decide +kernel
theorem dX3_merge_0 : decode cX3_merge 0 = .ok (.aload_n 0, 1) := fd_get adX3_merge_0 (k := 0) rfl
theorem dX3_merge_1 : decode cX3_merge 1 = .ok (.iload_n 1, 1) := fd_get adX3_merge_0 (k := 1) rfl
theorem dX3_merge_2 : decode cX3_merge 2 = .ok (.iload_n 2, 1) := fd_get adX3_merge_0 (k := 2) rfl
theorem dX3_merge_3 : decode cX3_merge 3 = .ok (.iload_n 3, 1) := fd_get adX3_merge_0 (k := 3) rfl
theorem dX3_merge_4 : decode cX3_merge 4 = .ok (.invokevirtual 31, 3) := fd_get adX3_merge_0 (k := 4) rfl
theorem dX3_merge_7 : decode cX3_merge 7 = .ok (.iload_n 2, 1) := fd_get adX3_merge_0 (k := 5) rfl
theorem dX3_merge_8 : decode cX3_merge 8 = .ok (.iload_n 3, 1) := fd_get adX3_merge_0 (k := 6) rfl
theorem dX3_merge_9 : decode cX3_merge 9 = .ok (.invokevirtual 67, 3) := fd_get adX3_merge_0 (k := 7) rfl
theorem dX3_merge_12 : decode cX3_merge 12 = .ok (.ireturn, 1) := fd_get adX3_merge_0 (k := 8) rfl
theorem mwsX3_grow_0 : ∀ w ∈ wsX3_grow_r1, w ∈ wsX3_grow := fun w h => (List.mem_cons_of_mem _ (List.mem_append_left _ (List.mem_append_left _ (List.mem_append_left _ (List.mem_append_left _ (List.mem_append_left _ h))))))
theorem mwsX3_grow_1 : ∀ w ∈ wsX3_grow_r2, w ∈ wsX3_grow := fun w h => (List.mem_cons_of_mem _ (List.mem_append_left _ (List.mem_append_left _ (List.mem_append_left _ (List.mem_append_left _ (List.mem_append_right _ (List.mem_append_left _ h)))))))
theorem mwsX3_grow_2 : ∀ w ∈ wsX3_grow_r3, w ∈ wsX3_grow := fun w h => (List.mem_cons_of_mem _ (List.mem_append_left _ (List.mem_append_left _ (List.mem_append_left _ (List.mem_append_left _ (List.mem_append_right _ (List.mem_append_right _ (List.mem_append_left _ h))))))))
theorem mwsX3_grow_3 : ∀ w ∈ wsX3_grow_r4, w ∈ wsX3_grow := fun w h => (List.mem_cons_of_mem _ (List.mem_append_left _ (List.mem_append_left _ (List.mem_append_left _ (List.mem_append_left _ (List.mem_append_right _ (List.mem_append_right _ (List.mem_append_right _ h))))))))
theorem mwsX3_grow_4 : ∀ w ∈ wsX30, w ∈ wsX3_grow := fun w h => (List.mem_cons_of_mem _ (List.mem_append_left _ (List.mem_append_left _ (List.mem_append_left _ (List.mem_append_right _ h)))))
theorem mwsX3_grow_5 : ∀ w ∈ wsX00, w ∈ wsX3_grow := fun w h => (List.mem_cons_of_mem _ (List.mem_append_left _ (List.mem_append_left _ (List.mem_append_right _ h))))
set_option maxRecDepth 20000 in
theorem ggX3_grow_X3_bookToWriteKey : GoodIn wsX3_grow wsX3_bookToWriteKey := goodIn_ca (goodIn_ca (goodIn_sub (tk_mem 4 _ (fun w h => (mwsX3_grow_0 _ (tkB_mem 4 4 h))) (List.forall_mem_cons.mpr ⟨(mwsX3_grow_0 _ (List.mem_of_getElem? (i := 3) rfl)), (tk_mem 15 _ (fun w h => (mwsX3_grow_0 _ (tkB_mem 8 15 h))) (tk_mem 6 _ (fun w h => (mwsX3_grow_4 _ (tkB_mem 0 6 h))) (tk_mem 7 _ (fun w h => (mwsX3_grow_5 _ (tkB_mem 0 7 h))) (fun _ h => absurd h List.not_mem_nil))))⟩)) (by decide +kernel)) (goodIn_sub (fun _ h => List.mem_cons_of_mem _ (List.mem_append_left _ (List.mem_append_right _ h))) (by decide +kernel))) (goodIn_sub (fun _ h => List.mem_cons_of_mem _ (List.mem_append_right _ h)) (by decide +kernel))
set_option maxRecDepth 20000 in
theorem gX3_grow_X3_bookToWriteKey : GoodIn wsX3_grow (wsV RX3 60 RX3 yX3_bookToWriteKey wsX3_bookToWriteKey) := goodIn_app (goodIn_sub (tk_mem 4 _ (fun w h => (mwsX3_grow_0 _ (tkB_mem 0 4 h))) (fun _ h => absurd h List.not_mem_nil)) (by decide +kernel)) ggX3_grow_X3_bookToWriteKey
set_option maxRecDepth 20000 in
theorem ggX3_grow_X0_growKey : GoodIn wsX3_grow wsX0_growKey := goodIn_sub (tk_mem 4 _ (fun w h => (mwsX3_grow_1 _ (tkB_mem 2 4 h))) (List.forall_mem_cons.mpr ⟨(mwsX3_grow_0 _ (List.mem_of_getElem? (i := 20) rfl)), (tk_mem 18 _ (fun w h => (mwsX3_grow_1 _ (tkB_mem 6 18 h))) (tk_mem 24 _ (fun w h => (mwsX3_grow_2 _ (tkB_mem 0 24 h))) (tk_mem 4 _ (fun w h => (mwsX3_grow_3 _ (tkB_mem 0 4 h))) (tk_mem 7 _ (fun w h => (mwsX3_grow_5 _ (tkB_mem 0 7 h))) (fun _ h => absurd h List.not_mem_nil)))))⟩)) (by decide +kernel)
set_option maxRecDepth 20000 in
theorem gX3_grow_X0_growKey : GoodIn wsX3_grow (wsV RX3 70 RX0 yX0_growKey wsX0_growKey) := goodIn_app (goodIn_sub (List.forall_mem_cons.mpr ⟨(mwsX3_grow_0 _ (List.mem_of_getElem? (i := 23) rfl)), (List.forall_mem_cons.mpr ⟨(mwsX3_grow_1 _ (List.mem_of_getElem? (i := 0) rfl)), (List.forall_mem_cons.mpr ⟨(mwsX3_grow_1 _ (List.mem_of_getElem? (i := 1) rfl)), (List.forall_mem_cons.mpr ⟨(mwsX3_grow_0 _ (List.mem_of_getElem? (i := 20) rfl)), (fun _ h => absurd h List.not_mem_nil)⟩)⟩)⟩)⟩) (by decide +kernel)) ggX3_grow_X0_growKey
theorem adX3_grow_0 : fd_rows (cX3_grow.data.toList.drop 0) 0 [(0, some (.aload_n 0), 1), (1, some (.iload_n 1), 1), (2, some (.iload_n 2), 1), (3, some (.invokevirtual 60), 3), (6, some (.iload_n 2), 1), (7, some (.invokevirtual 70), 3), (10, some (.ireturn), 1)] = true := by decide +kernel
theorem dX3_grow_0 : decode cX3_grow 0 = .ok (.aload_n 0, 1) := fd_get adX3_grow_0 (k := 0) rfl
theorem dX3_grow_1 : decode cX3_grow 1 = .ok (.iload_n 1, 1) := fd_get adX3_grow_0 (k := 1) rfl
theorem dX3_grow_2 : decode cX3_grow 2 = .ok (.iload_n 2, 1) := fd_get adX3_grow_0 (k := 2) rfl
theorem dX3_grow_3 : decode cX3_grow 3 = .ok (.invokevirtual 60, 3) := fd_get adX3_grow_0 (k := 3) rfl
theorem dX3_grow_6 : decode cX3_grow 6 = .ok (.iload_n 2, 1) := fd_get adX3_grow_0 (k := 4) rfl
theorem dX3_grow_7 : decode cX3_grow 7 = .ok (.invokevirtual 70, 3) := fd_get adX3_grow_0 (k := 5) rfl
theorem dX3_grow_10 : decode cX3_grow 10 = .ok (.ireturn, 1) := fd_get adX3_grow_0 (k := 6) rfl
theorem mwsX3_halve_0 : ∀ w ∈ wsX3_halve_r1, w ∈ wsX3_halve := fun w h => (List.mem_cons_of_mem _ (List.mem_append_left _ (List.mem_append_left _ (List.mem_append_left _ (List.mem_append_left _ (List.mem_append_left _ h))))))
theorem mwsX3_halve_1 : ∀ w ∈ wsX3_halve_r2, w ∈ wsX3_halve := fun w h => (List.mem_cons_of_mem _ (List.mem_append_left _ (List.mem_append_left _ (List.mem_append_left _ (List.mem_append_left _ (List.mem_append_right _ (List.mem_append_left _ h)))))))
theorem mwsX3_halve_2 : ∀ w ∈ wsX3_halve_r3, w ∈ wsX3_halve := fun w h => (List.mem_cons_of_mem _ (List.mem_append_left _ (List.mem_append_left _ (List.mem_append_left _ (List.mem_append_left _ (List.mem_append_right _ (List.mem_append_right _ (List.mem_append_left _ h))))))))
theorem mwsX3_halve_3 : ∀ w ∈ wsX3_halve_r4, w ∈ wsX3_halve := fun w h => (List.mem_cons_of_mem _ (List.mem_append_left _ (List.mem_append_left _ (List.mem_append_left _ (List.mem_append_left _ (List.mem_append_right _ (List.mem_append_right _ (List.mem_append_right _ h))))))))
theorem mwsX3_halve_4 : ∀ w ∈ wsX30, w ∈ wsX3_halve := fun w h => (List.mem_cons_of_mem _ (List.mem_append_left _ (List.mem_append_left _ (List.mem_append_left _ (List.mem_append_right _ h)))))
theorem mwsX3_halve_5 : ∀ w ∈ wsX00, w ∈ wsX3_halve := fun w h => (List.mem_cons_of_mem _ (List.mem_append_left _ (List.mem_append_left _ (List.mem_append_right _ h))))
set_option maxRecDepth 20000 in
theorem ggX3_halve_X3_bookToWriteKey : GoodIn wsX3_halve wsX3_bookToWriteKey := goodIn_ca (goodIn_ca (goodIn_sub (tk_mem 4 _ (fun w h => (mwsX3_halve_0 _ (tkB_mem 4 4 h))) (List.forall_mem_cons.mpr ⟨(mwsX3_halve_0 _ (List.mem_of_getElem? (i := 3) rfl)), (tk_mem 15 _ (fun w h => (mwsX3_halve_0 _ (tkB_mem 8 15 h))) (tk_mem 6 _ (fun w h => (mwsX3_halve_4 _ (tkB_mem 0 6 h))) (tk_mem 7 _ (fun w h => (mwsX3_halve_5 _ (tkB_mem 0 7 h))) (fun _ h => absurd h List.not_mem_nil))))⟩)) (by decide +kernel)) (goodIn_sub (fun _ h => List.mem_cons_of_mem _ (List.mem_append_left _ (List.mem_append_right _ h))) (by decide +kernel))) (goodIn_sub (fun _ h => List.mem_cons_of_mem _ (List.mem_append_right _ h)) (by decide +kernel))
set_option maxRecDepth 20000 in
theorem gX3_halve_X3_bookToWriteKey : GoodIn wsX3_halve (wsV RX3 60 RX3 yX3_bookToWriteKey wsX3_bookToWriteKey) := goodIn_app (goodIn_sub (tk_mem 4 _ (fun w h => (mwsX3_halve_0 _ (tkB_mem 0 4 h))) (fun _ h => absurd h List.not_mem_nil)) (by decide +kernel)) ggX3_halve_X3_bookToWriteKey
set_option maxRecDepth 20000 in
theorem ggX3_halve_X0_halveKey : GoodIn wsX3_halve wsX0_halveKey := goodIn_sub (tk_mem 4 _ (fun w h => (mwsX3_halve_1 _ (tkB_mem 2 4 h))) (List.forall_mem_cons.mpr ⟨(mwsX3_halve_0 _ (List.mem_of_getElem? (i := 20) rfl)), (tk_mem 18 _ (fun w h => (mwsX3_halve_1 _ (tkB_mem 6 18 h))) (tk_mem 24 _ (fun w h => (mwsX3_halve_2 _ (tkB_mem 0 24 h))) (tk_mem 16 _ (fun w h => (mwsX3_halve_3 _ (tkB_mem 0 16 h))) (tk_mem 7 _ (fun w h => (mwsX3_halve_5 _ (tkB_mem 0 7 h))) (fun _ h => absurd h List.not_mem_nil)))))⟩)) (by decide +kernel)
set_option maxRecDepth 20000 in
theorem gX3_halve_X0_halveKey : GoodIn wsX3_halve (wsV RX3 73 RX0 yX0_halveKey wsX0_halveKey) := goodIn_app (goodIn_sub (List.forall_mem_cons.mpr ⟨(mwsX3_halve_0 _ (List.mem_of_getElem? (i := 23) rfl)), (List.forall_mem_cons.mpr ⟨(mwsX3_halve_1 _ (List.mem_of_getElem? (i := 0) rfl)), (List.forall_mem_cons.mpr ⟨(mwsX3_halve_1 _ (List.mem_of_getElem? (i := 1) rfl)), (List.forall_mem_cons.mpr ⟨(mwsX3_halve_0 _ (List.mem_of_getElem? (i := 20) rfl)), (fun _ h => absurd h List.not_mem_nil)⟩)⟩)⟩)⟩) (by decide +kernel)) ggX3_halve_X0_halveKey
theorem adX3_halve_0 : fd_rows (cX3_halve.data.toList.drop 0) 0 [(0, some (.aload_n 0), 1), (1, some (.iload_n 1), 1), (2, some (.iload_n 2), 1), (3, some (.invokevirtual 60), 3), (6, some (.iload_n 2), 1), (7, some (.invokevirtual 73), 3), (10, some (.ireturn), 1)] = true := by decide +kernel
theorem dX3_halve_0 : decode cX3_halve 0 = .ok (.aload_n 0, 1) := fd_get adX3_halve_0 (k := 0) rfl
theorem dX3_halve_1 : decode cX3_halve 1 = .ok (.iload_n 1, 1) := fd_get adX3_halve_0 (k := 1) rfl
theorem dX3_halve_2 : decode cX3_halve 2 = .ok (.iload_n 2, 1) := fd_get adX3_halve_0 (k := 2) rfl
theorem dX3_halve_3 : decode cX3_halve 3 = .ok (.invokevirtual 60, 3) := fd_get adX3_halve_0 (k := 3) rfl
theorem dX3_halve_6 : decode cX3_halve 6 = .ok (.iload_n 2, 1) := fd_get adX3_halve_0 (k := 4) rfl
theorem dX3_halve_7 : decode cX3_halve 7 = .ok (.invokevirtual 73, 3) := fd_get adX3_halve_0 (k := 5) rfl
theorem dX3_halve_10 : decode cX3_halve 10 = .ok (.ireturn, 1) := fd_get adX3_halve_0 (k := 6) rfl
theorem mwsX3_twice_0 : ∀ w ∈ wsX3_twice_r1, w ∈ wsX3_twice := fun w h => (List.mem_cons_of_mem _ (List.mem_append_left _ (List.mem_append_left _ (List.mem_append_left _ (List.mem_append_left _ (List.mem_append_left _ h))))))
theorem mwsX3_twice_1 : ∀ w ∈ wsX3_twice_r2, w ∈ wsX3_twice := fun w h => (List.mem_cons_of_mem _ (List.mem_append_left _ (List.mem_append_left _ (List.mem_append_left _ (List.mem_append_left _ (List.mem_append_right _ (List.mem_append_left _ h)))))))
theorem mwsX3_twice_2 : ∀ w ∈ wsX3_twice_r3, w ∈ wsX3_twice := fun w h => (List.mem_cons_of_mem _ (List.mem_append_left _ (List.mem_append_left _ (List.mem_append_left _ (List.mem_append_left _ (List.mem_append_right _ (List.mem_append_right _ (List.mem_append_left _ h))))))))
theorem mwsX3_twice_3 : ∀ w ∈ wsX3_twice_r4, w ∈ wsX3_twice := fun w h => (List.mem_cons_of_mem _ (List.mem_append_left _ (List.mem_append_left _ (List.mem_append_left _ (List.mem_append_left _ (List.mem_append_right _ (List.mem_append_right _ (List.mem_append_right _ h))))))))
theorem mwsX3_twice_4 : ∀ w ∈ wsX30, w ∈ wsX3_twice := fun w h => (List.mem_cons_of_mem _ (List.mem_append_left _ (List.mem_append_left _ (List.mem_append_left _ (List.mem_append_right _ h)))))
theorem mwsX3_twice_5 : ∀ w ∈ wsX00, w ∈ wsX3_twice := fun w h => (List.mem_cons_of_mem _ (List.mem_append_left _ (List.mem_append_left _ (List.mem_append_right _ h))))
set_option maxRecDepth 20000 in
theorem ggX3_twice_X3_bookToWriteKey : GoodIn wsX3_twice wsX3_bookToWriteKey := goodIn_ca (goodIn_ca (goodIn_sub (tk_mem 4 _ (fun w h => (mwsX3_twice_0 _ (tkB_mem 4 4 h))) (List.forall_mem_cons.mpr ⟨(mwsX3_twice_0 _ (List.mem_of_getElem? (i := 3) rfl)), (tk_mem 15 _ (fun w h => (mwsX3_twice_0 _ (tkB_mem 8 15 h))) (tk_mem 6 _ (fun w h => (mwsX3_twice_4 _ (tkB_mem 0 6 h))) (tk_mem 7 _ (fun w h => (mwsX3_twice_5 _ (tkB_mem 0 7 h))) (fun _ h => absurd h List.not_mem_nil))))⟩)) (by decide +kernel)) (goodIn_sub (fun _ h => List.mem_cons_of_mem _ (List.mem_append_left _ (List.mem_append_right _ h))) (by decide +kernel))) (goodIn_sub (fun _ h => List.mem_cons_of_mem _ (List.mem_append_right _ h)) (by decide +kernel))
set_option maxRecDepth 20000 in
theorem gX3_twice_X3_bookToWriteKey : GoodIn wsX3_twice (wsV RX3 60 RX3 yX3_bookToWriteKey wsX3_bookToWriteKey) := goodIn_app (goodIn_sub (tk_mem 4 _ (fun w h => (mwsX3_twice_0 _ (tkB_mem 0 4 h))) (fun _ h => absurd h List.not_mem_nil)) (by decide +kernel)) ggX3_twice_X3_bookToWriteKey
set_option maxRecDepth 20000 in
theorem ggX3_twice_X0_doubleKey : GoodIn wsX3_twice wsX0_doubleKey := goodIn_sub (tk_mem 4 _ (fun w h => (mwsX3_twice_1 _ (tkB_mem 2 4 h))) (List.forall_mem_cons.mpr ⟨(mwsX3_twice_0 _ (List.mem_of_getElem? (i := 20) rfl)), (tk_mem 18 _ (fun w h => (mwsX3_twice_1 _ (tkB_mem 6 18 h))) (tk_mem 24 _ (fun w h => (mwsX3_twice_2 _ (tkB_mem 0 24 h))) (tk_mem 8 _ (fun w h => (mwsX3_twice_3 _ (tkB_mem 0 8 h))) (tk_mem 7 _ (fun w h => (mwsX3_twice_5 _ (tkB_mem 0 7 h))) (fun _ h => absurd h List.not_mem_nil)))))⟩)) (by decide +kernel)
set_option maxRecDepth 20000 in
theorem gX3_twice_X0_doubleKey : GoodIn wsX3_twice (wsV RX3 76 RX0 yX0_doubleKey wsX0_doubleKey) := goodIn_app (goodIn_sub (List.forall_mem_cons.mpr ⟨(mwsX3_twice_0 _ (List.mem_of_getElem? (i := 23) rfl)), (List.forall_mem_cons.mpr ⟨(mwsX3_twice_1 _ (List.mem_of_getElem? (i := 0) rfl)), (List.forall_mem_cons.mpr ⟨(mwsX3_twice_1 _ (List.mem_of_getElem? (i := 1) rfl)), (List.forall_mem_cons.mpr ⟨(mwsX3_twice_0 _ (List.mem_of_getElem? (i := 20) rfl)), (fun _ h => absurd h List.not_mem_nil)⟩)⟩)⟩)⟩) (by decide +kernel)) ggX3_twice_X0_doubleKey
theorem adX3_twice_0 : fd_rows (cX3_twice.data.toList.drop 0) 0 [(0, some (.aload_n 0), 1), (1, some (.iload_n 1), 1), (2, some (.iload_n 2), 1), (3, some (.invokevirtual 60), 3), (6, some (.iload_n 2), 1), (7, some (.invokevirtual 76), 3), (10, some (.ireturn), 1)] = true := by decide +kernel
theorem dX3_twice_0 : decode cX3_twice 0 = .ok (.aload_n 0, 1) := fd_get adX3_twice_0 (k := 0) rfl
theorem dX3_twice_1 : decode cX3_twice 1 = .ok (.iload_n 1, 1) := fd_get adX3_twice_0 (k := 1) rfl
theorem dX3_twice_2 : decode cX3_twice 2 = .ok (.iload_n 2, 1) := fd_get adX3_twice_0 (k := 2) rfl
theorem dX3_twice_3 : decode cX3_twice 3 = .ok (.invokevirtual 60, 3) := fd_get adX3_twice_0 (k := 3) rfl
theorem dX3_twice_6 : decode cX3_twice 6 = .ok (.iload_n 2, 1) := fd_get adX3_twice_0 (k := 4) rfl
theorem dX3_twice_7 : decode cX3_twice 7 = .ok (.invokevirtual 76, 3) := fd_get adX3_twice_0 (k := 5) rfl
theorem dX3_twice_10 : decode cX3_twice 10 = .ok (.ireturn, 1) := fd_get adX3_twice_0 (k := 6) rfl
theorem mwsX3_poll_0 : ∀ w ∈ wsX3_poll_r1, w ∈ wsX3_poll := fun w h => (List.mem_cons_of_mem _ (List.mem_append_left _ (List.mem_append_left _ (List.mem_append_left _ (List.mem_append_left _ h)))))
theorem mwsX3_poll_1 : ∀ w ∈ wsX3_poll_r2, w ∈ wsX3_poll := fun w h => (List.mem_cons_of_mem _ (List.mem_append_left _ (List.mem_append_left _ (List.mem_append_left _ (List.mem_append_right _ h)))))
theorem mwsX3_poll_2 : ∀ w ∈ wsX30, w ∈ wsX3_poll := fun w h => (List.mem_cons_of_mem _ (List.mem_append_left _ (List.mem_append_left _ (List.mem_append_right _ h))))
theorem mwsX3_poll_3 : ∀ w ∈ wsX00, w ∈ wsX3_poll := fun w h => (List.mem_cons_of_mem _ (List.mem_append_left _ (List.mem_append_right _ h)))
set_option maxRecDepth 20000 in
theorem ggX3_poll_X3_bookAt : GoodIn wsX3_poll wsX3_bookAt := goodIn_ca (goodIn_sub (tk_mem 4 _ (fun w h => (mwsX3_poll_0 _ (tkB_mem 4 4 h))) (tk_mem 6 _ (fun w h => (mwsX3_poll_2 _ (tkB_mem 0 6 h))) (fun _ h => absurd h List.not_mem_nil))) (by decide +kernel)) (goodIn_sub (fun _ h => List.mem_cons_of_mem _ (List.mem_append_right _ h)) (by decide +kernel))
set_option maxRecDepth 20000 in
theorem gX3_poll_X3_bookAt : GoodIn wsX3_poll (wsV RX3 47 RX3 yX3_bookAt wsX3_bookAt) := goodIn_app (goodIn_sub (tk_mem 4 _ (fun w h => (mwsX3_poll_0 _ (tkB_mem 0 4 h))) (fun _ h => absurd h List.not_mem_nil)) (by decide +kernel)) ggX3_poll_X3_bookAt
set_option maxRecDepth 20000 in
theorem ggX3_poll_X0_touch : GoodIn wsX3_poll wsX0_touch := goodIn_sub (List.forall_mem_cons.mpr ⟨(mwsX3_poll_0 _ (List.mem_of_getElem? (i := 12) rfl)), (List.forall_mem_cons.mpr ⟨(mwsX3_poll_0 _ (List.mem_of_getElem? (i := 13) rfl)), (tk_mem 7 _ (fun w h => (mwsX3_poll_3 _ (tkB_mem 0 7 h))) (fun _ h => absurd h List.not_mem_nil))⟩)⟩) (by decide +kernel)
set_option maxRecDepth 20000 in
theorem gX3_poll_X0_touch : GoodIn wsX3_poll (wsV RX3 57 RX0 yX0_touch wsX0_touch) := goodIn_app (goodIn_sub (tk_mem 4 _ (fun w h => (mwsX3_poll_0 _ (tkB_mem 8 4 h))) (fun _ h => absurd h List.not_mem_nil)) (by decide +kernel)) ggX3_poll_X0_touch
set_option maxRecDepth 20000 in
theorem ggX3_poll_X0_size : GoodIn wsX3_poll wsX0_size := goodIn_sub (List.forall_mem_cons.mpr ⟨(mwsX3_poll_0 _ (List.mem_of_getElem? (i := 17) rfl)), (List.forall_mem_cons.mpr ⟨(mwsX3_poll_0 _ (List.mem_of_getElem? (i := 18) rfl)), (tk_mem 7 _ (fun w h => (mwsX3_poll_3 _ (tkB_mem 0 7 h))) (fun _ h => absurd h List.not_mem_nil))⟩)⟩) (by decide +kernel)
set_option maxRecDepth 20000 in
theorem gX3_poll_X0_size : GoodIn wsX3_poll (wsV RX3 79 RX0 yX0_size wsX0_size) := goodIn_app (goodIn_sub (List.forall_mem_cons.mpr ⟨(mwsX3_poll_0 _ (List.mem_of_getElem? (i := 14) rfl)), (List.forall_mem_cons.mpr ⟨(mwsX3_poll_0 _ (List.mem_of_getElem? (i := 15) rfl)), (List.forall_mem_cons.mpr ⟨(mwsX3_poll_0 _ (List.mem_of_getElem? (i := 16) rfl)), (List.forall_mem_cons.mpr ⟨(mwsX3_poll_0 _ (List.mem_of_getElem? (i := 11) rfl)), (fun _ h => absurd h List.not_mem_nil)⟩)⟩)⟩)⟩) (by decide +kernel)) ggX3_poll_X0_size
set_option maxRecDepth 20000 in
theorem ggX3_poll_X0_removeAt : GoodIn wsX3_poll wsX0_removeAt := goodIn_sub (List.forall_mem_cons.mpr ⟨(mwsX3_poll_0 _ (List.mem_of_getElem? (i := 22) rfl)), (List.forall_mem_cons.mpr ⟨(mwsX3_poll_0 _ (List.mem_of_getElem? (i := 23) rfl)), (List.forall_mem_cons.mpr ⟨(mwsX3_poll_1 _ (List.mem_of_getElem? (i := 0) rfl)), (List.forall_mem_cons.mpr ⟨(mwsX3_poll_1 _ (List.mem_of_getElem? (i := 1) rfl)), (List.forall_mem_cons.mpr ⟨(mwsX3_poll_0 _ (List.mem_of_getElem? (i := 11) rfl)), (tk_mem 6 _ (fun w h => (mwsX3_poll_1 _ (tkB_mem 2 6 h))) (List.forall_mem_cons.mpr ⟨(mwsX3_poll_0 _ (List.mem_of_getElem? (i := 18) rfl)), (tk_mem 10 _ (fun w h => (mwsX3_poll_1 _ (tkB_mem 8 10 h))) (tk_mem 7 _ (fun w h => (mwsX3_poll_3 _ (tkB_mem 0 7 h))) (fun _ h => absurd h List.not_mem_nil)))⟩))⟩)⟩)⟩)⟩)⟩) (by decide +kernel)
set_option maxRecDepth 20000 in
theorem gX3_poll_X0_removeAt : GoodIn wsX3_poll (wsV RX3 83 RX0 yX0_removeAt wsX0_removeAt) := goodIn_app (goodIn_sub (List.forall_mem_cons.mpr ⟨(mwsX3_poll_0 _ (List.mem_of_getElem? (i := 19) rfl)), (List.forall_mem_cons.mpr ⟨(mwsX3_poll_0 _ (List.mem_of_getElem? (i := 20) rfl)), (List.forall_mem_cons.mpr ⟨(mwsX3_poll_0 _ (List.mem_of_getElem? (i := 21) rfl)), (List.forall_mem_cons.mpr ⟨(mwsX3_poll_0 _ (List.mem_of_getElem? (i := 11) rfl)), (fun _ h => absurd h List.not_mem_nil)⟩)⟩)⟩)⟩) (by decide +kernel)) ggX3_poll_X0_removeAt
theorem adX3_poll_0 : fd_rows (cX3_poll.data.toList.drop 0) 0 [(0, some (.aload_n 0), 1), (1, some (.iload_n 1), 1), (2, some (.invokevirtual 47), 3), (5, some (.astore_n 3), 1), (6, some (.aload_n 3), 1), (7, some (.invokevirtual 57), 3), (10, some (.aload_n 3), 1), (11, some (.iload_n 2), 1), (12, some (.ifCond .eq 12), 3), (15, some (.aload_n 3), 1), (16, some (.invokevirtual 79), 3), (19, some (.iconst 1), 1), (20, some (.isub), 1), (21, some (.goto 4), 3), (24, some (.iconst 0), 1), (25, some (.invokevirtual 83), 3)] = true := by decide +kernel
theorem adX3_poll_1 : fd_rows (cX3_poll.data.toList.drop 28) 28 [(28, some (.ireturn), 1)] = true := by decide +kernel
theorem dX3_poll_0 : decode cX3_poll 0 = .ok (.aload_n 0, 1) := fd_get adX3_poll_0 (k := 0) rfl
theorem dX3_poll_1 : decode cX3_poll 1 = .ok (.iload_n 1, 1) := fd_get adX3_poll_0 (k := 1) rfl
theorem dX3_poll_2 : decode cX3_poll 2 = .ok (.invokevirtual 47, 3) := fd_get adX3_poll_0 (k := 2) rfl
theorem dX3_poll_5 : decode cX3_poll 5 = .ok (.astore_n 3, 1) := fd_get adX3_poll_0 (k := 3) rfl
theorem dX3_poll_6 : decode cX3_poll 6 = .ok (.aload_n 3, 1) := fd_get adX3_poll_0 (k := 4) rfl
theorem dX3_poll_7 : decode cX3_poll 7 = .ok (.invokevirtual 57, 3) := fd_get adX3_poll_0 (k := 5) rfl
theorem dX3_poll_10 : decode cX3_poll 10 = .ok (.aload_n 3, 1) := fd_get adX3_poll_0 (k := 6) rfl
theorem dX3_poll_11 : decode cX3_poll 11 = .ok (.iload_n 2, 1) := fd_get adX3_poll_0 (k := 7) rfl
theorem dX3_poll_12 : decode cX3_poll 12 = .ok (.ifCond .eq 12, 3) := fd_get adX3_poll_0 (k := 8) rfl
theorem dX3_poll_15 : decode cX3_poll 15 = .ok (.aload_n 3, 1) := fd_get adX3_poll_0 (k := 9) rfl
theorem dX3_poll_16 : decode cX3_poll 16 = .ok (.invokevirtual 79, 3) := fd_get adX3_poll_0 (k := 10) rfl
theorem dX3_poll_19 : decode cX3_poll 19 = .ok (.iconst 1, 1) := fd_get adX3_poll_0 (k := 11) rfl
theorem dX3_poll_20 : decode cX3_poll 20 = .ok (.isub, 1) := fd_get adX3_poll_0 (k := 12) rfl
theorem dX3_poll_21 : decode cX3_poll 21 = .ok (.goto 4, 3) := fd_get adX3_poll_0 (k := 13) rfl
theorem dX3_poll_24 : decode cX3_poll 24 = .ok (.iconst 0, 1) := fd_get adX3_poll_0 (k := 14) rfl
theorem dX3_poll_25 : decode cX3_poll 25 = .ok (.invokevirtual 83, 3) := fd_get adX3_poll_0 (k := 15) rfl
theorem dX3_poll_28 : decode cX3_poll 28 = .ok (.ireturn, 1) := fd_get adX3_poll_1 (k := 0) rfl
theorem mwsX3_raise_0 : ∀ w ∈ wsX3_raise_r1, w ∈ wsX3_raise := fun w h => (List.mem_cons_of_mem _ (List.mem_append_left _ (List.mem_append_left _ (List.mem_append_left _ (List.mem_append_left _ (List.mem_append_left _ h))))))
theorem mwsX3_raise_1 : ∀ w ∈ wsX3_raise_r2, w ∈ wsX3_raise := fun w h => (List.mem_cons_of_mem _ (List.mem_append_left _ (List.mem_append_left _ (List.mem_append_left _ (List.mem_append_left _ (List.mem_append_right _ h))))))
theorem mwsX3_raise_2 : ∀ w ∈ wsX30, w ∈ wsX3_raise := fun w h => (List.mem_cons_of_mem _ (List.mem_append_left _ (List.mem_append_left _ (List.mem_append_left _ (List.mem_append_right _ h)))))
theorem mwsX3_raise_3 : ∀ w ∈ wsX00, w ∈ wsX3_raise := fun w h => (List.mem_cons_of_mem _ (List.mem_append_left _ (List.mem_append_left _ (List.mem_append_right _ h))))
set_option maxRecDepth 20000 in
theorem ggX3_raise_X3_bookAt : GoodIn wsX3_raise wsX3_bookAt := goodIn_ca (goodIn_sub (tk_mem 4 _ (fun w h => (mwsX3_raise_0 _ (tkB_mem 6 4 h))) (tk_mem 6 _ (fun w h => (mwsX3_raise_2 _ (tkB_mem 0 6 h))) (fun _ h => absurd h List.not_mem_nil))) (by decide +kernel)) (goodIn_sub (fun _ h => List.mem_cons_of_mem _ (List.mem_append_right _ h)) (by decide +kernel))
set_option maxRecDepth 20000 in
theorem gX3_raise_X3_bookAt : GoodIn wsX3_raise (wsV RX3 47 RX3 yX3_bookAt wsX3_bookAt) := goodIn_app (goodIn_sub (tk_mem 4 _ (fun w h => (mwsX3_raise_0 _ (tkB_mem 2 4 h))) (fun _ h => absurd h List.not_mem_nil)) (by decide +kernel)) ggX3_raise_X3_bookAt
set_option maxRecDepth 20000 in
theorem ggX3_raise_X0_touch : GoodIn wsX3_raise wsX0_touch := goodIn_sub (List.forall_mem_cons.mpr ⟨(mwsX3_raise_0 _ (List.mem_of_getElem? (i := 14) rfl)), (List.forall_mem_cons.mpr ⟨(mwsX3_raise_0 _ (List.mem_of_getElem? (i := 15) rfl)), (tk_mem 7 _ (fun w h => (mwsX3_raise_3 _ (tkB_mem 0 7 h))) (fun _ h => absurd h List.not_mem_nil))⟩)⟩) (by decide +kernel)
set_option maxRecDepth 20000 in
theorem gX3_raise_X0_touch : GoodIn wsX3_raise (wsV RX3 57 RX0 yX0_touch wsX0_touch) := goodIn_app (goodIn_sub (tk_mem 4 _ (fun w h => (mwsX3_raise_0 _ (tkB_mem 10 4 h))) (fun _ h => absurd h List.not_mem_nil)) (by decide +kernel)) ggX3_raise_X0_touch
set_option maxRecDepth 20000 in
theorem ggX3_raise_X0_raiseAll : GoodIn wsX3_raise wsX0_raiseAll := goodIn_sub (tk_mem 5 _ (fun w h => (mwsX3_raise_0 _ (tkB_mem 19 5 h))) (List.forall_mem_cons.mpr ⟨(mwsX3_raise_0 _ (List.mem_of_getElem? (i := 13) rfl)), (tk_mem 8 _ (fun w h => (mwsX3_raise_1 _ (tkB_mem 0 8 h))) (tk_mem 7 _ (fun w h => (mwsX3_raise_3 _ (tkB_mem 0 7 h))) (fun _ h => absurd h List.not_mem_nil)))⟩)) (by decide +kernel)
set_option maxRecDepth 20000 in
theorem gX3_raise_X0_raiseAll : GoodIn wsX3_raise (wsV RX3 93 RX0 yX0_raiseAll wsX0_raiseAll) := goodIn_app (goodIn_sub (List.forall_mem_cons.mpr ⟨(mwsX3_raise_0 _ (List.mem_of_getElem? (i := 16) rfl)), (List.forall_mem_cons.mpr ⟨(mwsX3_raise_0 _ (List.mem_of_getElem? (i := 17) rfl)), (List.forall_mem_cons.mpr ⟨(mwsX3_raise_0 _ (List.mem_of_getElem? (i := 18) rfl)), (List.forall_mem_cons.mpr ⟨(mwsX3_raise_0 _ (List.mem_of_getElem? (i := 13) rfl)), (fun _ h => absurd h List.not_mem_nil)⟩)⟩)⟩)⟩) (by decide +kernel)) ggX3_raise_X0_raiseAll
theorem adX3_raise_0 : fd_rows (cX3_raise.data.toList.drop 0) 0 [(0, some (.aload_n 0), 1), (1, some (.iload_n 1), 1), (2, some (.invokevirtual 47), 3), (5, some (.astore_n 3), 1), (6, some (.iload_n 2), 1), (7, some (.sipush (-999)), 3), (10, some (.if_icmp .lt 10), 3), (13, some (.iload_n 2), 1), (14, some (.sipush 999), 3), (17, some (.if_icmp .le 13), 3), (20, some (.new 86), 3), (23, some (.dup), 1), (24, some (.ldc 88), 2), (26, some (.invokespecial 90), 3), (29, some (.athrow), 1), (30, some (.aload_n 3), 1)] = true := by decide +kernel
theorem adX3_raise_1 : fd_rows (cX3_raise.data.toList.drop 31) 31 [(31, some (.invokevirtual 57), 3), (34, some (.aload_n 3), 1), (35, some (.iload_n 2), 1), (36, some (.invokevirtual 93), 3), (39, some (.ireturn), 1)] = true := by decide +kernel
theorem dX3_raise_0 : decode cX3_raise 0 = .ok (.aload_n 0, 1) := fd_get adX3_raise_0 (k := 0) rfl
theorem dX3_raise_1 : decode cX3_raise 1 = .ok (.iload_n 1, 1) := fd_get adX3_raise_0 (k := 1) rfl
theorem dX3_raise_2 : decode cX3_raise 2 = .ok (.invokevirtual 47, 3) := fd_get adX3_raise_0 (k := 2) rfl
theorem dX3_raise_5 : decode cX3_raise 5 = .ok (.astore_n 3, 1) := fd_get adX3_raise_0 (k := 3) rfl
theorem dX3_raise_6 : decode cX3_raise 6 = .ok (.iload_n 2, 1) := fd_get adX3_raise_0 (k := 4) rfl
theorem dX3_raise_7 : decode cX3_raise 7 = .ok (.sipush (-999), 3) := fd_get adX3_raise_0 (k := 5) rfl
theorem dX3_raise_10 : decode cX3_raise 10 = .ok (.if_icmp .lt 10, 3) := fd_get adX3_raise_0 (k := 6) rfl
theorem dX3_raise_13 : decode cX3_raise 13 = .ok (.iload_n 2, 1) := fd_get adX3_raise_0 (k := 7) rfl
theorem dX3_raise_14 : decode cX3_raise 14 = .ok (.sipush 999, 3) := fd_get adX3_raise_0 (k := 8) rfl
theorem dX3_raise_17 : decode cX3_raise 17 = .ok (.if_icmp .le 13, 3) := fd_get adX3_raise_0 (k := 9) rfl
theorem dX3_raise_20 : decode cX3_raise 20 = .ok (.new 86, 3) := fd_get adX3_raise_0 (k := 10) rfl
theorem dX3_raise_23 : decode cX3_raise 23 = .ok (.dup, 1) := fd_get adX3_raise_0 (k := 11) rfl
theorem dX3_raise_24 : decode cX3_raise 24 = .ok (.ldc 88, 2) := fd_get adX3_raise_0 (k := 12) rfl
theorem dX3_raise_26 : decode cX3_raise 26 = .ok (.invokespecial 90, 3) := fd_get adX3_raise_0 (k := 13) rfl
theorem dX3_raise_29 : decode cX3_raise 29 = .ok (.athrow, 1) := fd_get adX3_raise_0 (k := 14) rfl
theorem dX3_raise_30 : decode cX3_raise 30 = .ok (.aload_n 3, 1) := fd_get adX3_raise_0 (k := 15) rfl
theorem dX3_raise_31 : decode cX3_raise 31 = .ok (.invokevirtual 57, 3) := fd_get adX3_raise_1 (k := 0) rfl
theorem dX3_raise_34 : decode cX3_raise 34 = .ok (.aload_n 3, 1) := fd_get adX3_raise_1 (k := 1) rfl
theorem dX3_raise_35 : decode cX3_raise 35 = .ok (.iload_n 2, 1) := fd_get adX3_raise_1 (k := 2) rfl
theorem dX3_raise_36 : decode cX3_raise 36 = .ok (.invokevirtual 93, 3) := fd_get adX3_raise_1 (k := 3) rfl
theorem dX3_raise_39 : decode cX3_raise 39 = .ok (.ireturn, 1) := fd_get adX3_raise_1 (k := 4) rfl
theorem mwsX3_sift_0 : ∀ w ∈ wsX3_sift_r1, w ∈ wsX3_sift := fun w h => (List.mem_cons_of_mem _ (List.mem_append_left _ (List.mem_append_left _ (List.mem_append_left _ (List.mem_append_left _ (List.mem_append_left _ h))))))
theorem mwsX3_sift_1 : ∀ w ∈ wsX3_sift_r2, w ∈ wsX3_sift := fun w h => (List.mem_cons_of_mem _ (List.mem_append_left _ (List.mem_append_left _ (List.mem_append_left _ (List.mem_append_left _ (List.mem_append_right _ h))))))
theorem mwsX3_sift_2 : ∀ w ∈ wsX30, w ∈ wsX3_sift := fun w h => (List.mem_cons_of_mem _ (List.mem_append_left _ (List.mem_append_left _ (List.mem_append_left _ (List.mem_append_right _ h)))))
theorem mwsX3_sift_3 : ∀ w ∈ wsX00, w ∈ wsX3_sift := fun w h => (List.mem_cons_of_mem _ (List.mem_append_left _ (List.mem_append_left _ (List.mem_append_right _ h))))
set_option maxRecDepth 20000 in
theorem ggX3_sift_X3_bookAt : GoodIn wsX3_sift wsX3_bookAt := goodIn_ca (goodIn_sub (tk_mem 4 _ (fun w h => (mwsX3_sift_0 _ (tkB_mem 6 4 h))) (tk_mem 6 _ (fun w h => (mwsX3_sift_2 _ (tkB_mem 0 6 h))) (fun _ h => absurd h List.not_mem_nil))) (by decide +kernel)) (goodIn_sub (fun _ h => List.mem_cons_of_mem _ (List.mem_append_right _ h)) (by decide +kernel))
set_option maxRecDepth 20000 in
theorem gX3_sift_X3_bookAt : GoodIn wsX3_sift (wsV RX3 47 RX3 yX3_bookAt wsX3_bookAt) := goodIn_app (goodIn_sub (tk_mem 4 _ (fun w h => (mwsX3_sift_0 _ (tkB_mem 2 4 h))) (fun _ h => absurd h List.not_mem_nil)) (by decide +kernel)) ggX3_sift_X3_bookAt
set_option maxRecDepth 20000 in
theorem ggX3_sift_X0_touch : GoodIn wsX3_sift wsX0_touch := goodIn_sub (List.forall_mem_cons.mpr ⟨(mwsX3_sift_0 _ (List.mem_of_getElem? (i := 14) rfl)), (List.forall_mem_cons.mpr ⟨(mwsX3_sift_0 _ (List.mem_of_getElem? (i := 15) rfl)), (tk_mem 7 _ (fun w h => (mwsX3_sift_3 _ (tkB_mem 0 7 h))) (fun _ h => absurd h List.not_mem_nil))⟩)⟩) (by decide +kernel)
set_option maxRecDepth 20000 in
theorem gX3_sift_X0_touch : GoodIn wsX3_sift (wsV RX3 57 RX0 yX0_touch wsX0_touch) := goodIn_app (goodIn_sub (tk_mem 4 _ (fun w h => (mwsX3_sift_0 _ (tkB_mem 10 4 h))) (fun _ h => absurd h List.not_mem_nil)) (by decide +kernel)) ggX3_sift_X0_touch
set_option maxRecDepth 20000 in
theorem ggX3_sift_X0_removeMultiples : GoodIn wsX3_sift wsX0_removeMultiples := goodIn_sub (tk_mem 5 _ (fun w h => (mwsX3_sift_0 _ (tkB_mem 19 5 h))) (List.forall_mem_cons.mpr ⟨(mwsX3_sift_0 _ (List.mem_of_getElem? (i := 13) rfl)), (tk_mem 24 _ (fun w h => (mwsX3_sift_1 _ (tkB_mem 0 24 h))) (tk_mem 7 _ (fun w h => (mwsX3_sift_3 _ (tkB_mem 0 7 h))) (fun _ h => absurd h List.not_mem_nil)))⟩)) (by decide +kernel)
set_option maxRecDepth 20000 in
theorem gX3_sift_X0_removeMultiples : GoodIn wsX3_sift (wsV RX3 98 RX0 yX0_removeMultiples wsX0_removeMultiples) := goodIn_app (goodIn_sub (List.forall_mem_cons.mpr ⟨(mwsX3_sift_0 _ (List.mem_of_getElem? (i := 16) rfl)), (List.forall_mem_cons.mpr ⟨(mwsX3_sift_0 _ (List.mem_of_getElem? (i := 17) rfl)), (List.forall_mem_cons.mpr ⟨(mwsX3_sift_0 _ (List.mem_of_getElem? (i := 18) rfl)), (List.forall_mem_cons.mpr ⟨(mwsX3_sift_0 _ (List.mem_of_getElem? (i := 13) rfl)), (fun _ h => absurd h List.not_mem_nil)⟩)⟩)⟩)⟩) (by decide +kernel)) ggX3_sift_X0_removeMultiples
theorem adX3_sift_0 : fd_rows (cX3_sift.data.toList.drop 0) 0 [(0, some (.aload_n 0), 1), (1, some (.iload_n 1), 1), (2, some (.invokevirtual 47), 3), (5, some (.astore_n 3), 1), (6, some (.iload_n 2), 1), (7, some (.iconst 2), 1), (8, some (.if_icmp .lt 9), 3), (11, some (.iload_n 2), 1), (12, some (.bipush 99), 2), (14, some (.if_icmp .le 13), 3), (17, some (.new 86), 3), (20, some (.dup), 1), (21, some (.ldc 96), 2), (23, some (.invokespecial 90), 3), (26, some (.athrow), 1), (27, some (.aload_n 3), 1)] = true := by decide +kernel
theorem adX3_sift_1 : fd_rows (cX3_sift.data.toList.drop 28) 28 [(28, some (.invokevirtual 57), 3), (31, some (.aload_n 3), 1), (32, some (.iload_n 2), 1), (33, some (.invokevirtual 98), 3), (36, some (.ireturn), 1)] = true := by decide +kernel
theorem dX3_sift_0 : decode cX3_sift 0 = .ok (.aload_n 0, 1) := fd_get adX3_sift_0 (k := 0) rfl
theorem dX3_sift_1 : decode cX3_sift 1 = .ok (.iload_n 1, 1) := fd_get adX3_sift_0 (k := 1) rfl
theorem dX3_sift_2 : decode cX3_sift 2 = .ok (.invokevirtual 47, 3) := fd_get adX3_sift_0 (k := 2) rfl
theorem dX3_sift_5 : decode cX3_sift 5 = .ok (.astore_n 3, 1) := fd_get adX3_sift_0 (k := 3) rfl
theorem dX3_sift_6 : decode cX3_sift 6 = .ok (.iload_n 2, 1) := fd_get adX3_sift_0 (k := 4) rfl
theorem dX3_sift_7 : decode cX3_sift 7 = .ok (.iconst 2, 1) := fd_get adX3_sift_0 (k := 5) rfl
theorem dX3_sift_8 : decode cX3_sift 8 = .ok (.if_icmp .lt 9, 3) := fd_get adX3_sift_0 (k := 6) rfl
theorem dX3_sift_11 : decode cX3_sift 11 = .ok (.iload_n 2, 1) := fd_get adX3_sift_0 (k := 7) rfl
theorem dX3_sift_12 : decode cX3_sift 12 = .ok (.bipush 99, 2) := fd_get adX3_sift_0 (k := 8) rfl
theorem dX3_sift_14 : decode cX3_sift 14 = .ok (.if_icmp .le 13, 3) := fd_get adX3_sift_0 (k := 9) rfl
theorem dX3_sift_17 : decode cX3_sift 17 = .ok (.new 86, 3) := fd_get adX3_sift_0 (k := 10) rfl
theorem dX3_sift_20 : decode cX3_sift 20 = .ok (.dup, 1) := fd_get adX3_sift_0 (k := 11) rfl
theorem dX3_sift_21 : decode cX3_sift 21 = .ok (.ldc 96, 2) := fd_get adX3_sift_0 (k := 12) rfl
theorem dX3_sift_23 : decode cX3_sift 23 = .ok (.invokespecial 90, 3) := fd_get adX3_sift_0 (k := 13) rfl
theorem dX3_sift_26 : decode cX3_sift 26 = .ok (.athrow, 1) := fd_get adX3_sift_0 (k := 14) rfl
theorem dX3_sift_27 : decode cX3_sift 27 = .ok (.aload_n 3, 1) := fd_get adX3_sift_0 (k := 15) rfl
theorem dX3_sift_28 : decode cX3_sift 28 = .ok (.invokevirtual 57, 3) := fd_get adX3_sift_1 (k := 0) rfl
theorem dX3_sift_31 : decode cX3_sift 31 = .ok (.aload_n 3, 1) := fd_get adX3_sift_1 (k := 1) rfl
theorem dX3_sift_32 : decode cX3_sift 32 = .ok (.iload_n 2, 1) := fd_get adX3_sift_1 (k := 2) rfl
theorem dX3_sift_33 : decode cX3_sift 33 = .ok (.invokevirtual 98, 3) := fd_get adX3_sift_1 (k := 3) rfl
theorem dX3_sift_36 : decode cX3_sift 36 = .ok (.ireturn, 1) := fd_get adX3_sift_1 (k := 4) rfl
theorem mwsX3_strikeValue_0 : ∀ w ∈ wsX3_strikeValue_r1, w ∈ wsX3_strikeValue := fun w h => (List.mem_cons_of_mem _ (List.mem_append_left _ (List.mem_append_left _ (List.mem_append_left _ (List.mem_append_left _ (List.mem_append_left _ (List.mem_append_left _ h)))))))
theorem mwsX3_strikeValue_1 : ∀ w ∈ wsX3_strikeValue_r2, w ∈ wsX3_strikeValue := fun w h => (List.mem_cons_of_mem _ (List.mem_append_left _ (List.mem_append_left _ (List.mem_append_left _ (List.mem_append_left _ (List.mem_append_left _ (List.mem_append_right _ (List.mem_append_left _ h))))))))
theorem mwsX3_strikeValue_2 : ∀ w ∈ wsX3_strikeValue_r3, w ∈ wsX3_strikeValue := fun w h => (List.mem_cons_of_mem _ (List.mem_append_left _ (List.mem_append_left _ (List.mem_append_left _ (List.mem_append_left _ (List.mem_append_left _ (List.mem_append_right _ (List.mem_append_right _ h))))))))
theorem mwsX3_strikeValue_3 : ∀ w ∈ wsX30, w ∈ wsX3_strikeValue := fun w h => (List.mem_cons_of_mem _ (List.mem_append_left _ (List.mem_append_left _ (List.mem_append_left _ (List.mem_append_left _ (List.mem_append_right _ h))))))
theorem mwsX3_strikeValue_4 : ∀ w ∈ wsX00, w ∈ wsX3_strikeValue := fun w h => (List.mem_cons_of_mem _ (List.mem_append_left _ (List.mem_append_left _ (List.mem_append_left _ (List.mem_append_right _ h)))))
set_option maxRecDepth 20000 in
theorem ggX3_strikeValue_X3_bookAt : GoodIn wsX3_strikeValue wsX3_bookAt := goodIn_ca (goodIn_sub (tk_mem 4 _ (fun w h => (mwsX3_strikeValue_0 _ (tkB_mem 6 4 h))) (tk_mem 6 _ (fun w h => (mwsX3_strikeValue_3 _ (tkB_mem 0 6 h))) (fun _ h => absurd h List.not_mem_nil))) (by decide +kernel)) (goodIn_sub (fun _ h => List.mem_cons_of_mem _ (List.mem_append_left _ (List.mem_append_right _ h))) (by decide +kernel))
set_option maxRecDepth 20000 in
theorem gX3_strikeValue_X3_bookAt : GoodIn wsX3_strikeValue (wsV RX3 47 RX3 yX3_bookAt wsX3_bookAt) := goodIn_app (goodIn_sub (tk_mem 4 _ (fun w h => (mwsX3_strikeValue_0 _ (tkB_mem 2 4 h))) (fun _ h => absurd h List.not_mem_nil)) (by decide +kernel)) ggX3_strikeValue_X3_bookAt
set_option maxRecDepth 20000 in
theorem ggX3_strikeValue_X3_checkValue : GoodIn wsX3_strikeValue wsX3_checkValue := goodIn_ca (goodIn_sub (List.forall_mem_cons.mpr ⟨(mwsX3_strikeValue_0 _ (List.mem_of_getElem? (i := 12) rfl)), (List.forall_mem_cons.mpr ⟨(mwsX3_strikeValue_0 _ (List.mem_of_getElem? (i := 13) rfl)), (List.forall_mem_cons.mpr ⟨(mwsX3_strikeValue_0 _ (List.mem_of_getElem? (i := 14) rfl)), (fun _ h => absurd h List.not_mem_nil)⟩)⟩)⟩) (by decide +kernel)) (goodIn_sub (fun _ h => List.mem_cons_of_mem _ (List.mem_append_right _ h)) (by decide +kernel))
set_option maxRecDepth 20000 in
theorem gX3_strikeValue_X3_checkValue : GoodIn wsX3_strikeValue (va_wsS RX3 54 yX3_checkValue wsX3_checkValue) := goodIn_app (goodIn_sub (List.forall_mem_cons.mpr ⟨(mwsX3_strikeValue_0 _ (List.mem_of_getElem? (i := 10) rfl)), (List.forall_mem_cons.mpr ⟨(mwsX3_strikeValue_0 _ (List.mem_of_getElem? (i := 11) rfl)), (List.forall_mem_cons.mpr ⟨(mwsX3_strikeValue_0 _ (List.mem_of_getElem? (i := 5) rfl)), (fun _ h => absurd h List.not_mem_nil)⟩)⟩)⟩) (by decide +kernel)) ggX3_strikeValue_X3_checkValue
set_option maxRecDepth 20000 in
theorem ggX3_strikeValue_X0_countOfValue : GoodIn wsX3_strikeValue wsX0_countOfValue := goodIn_sub (List.forall_mem_cons.mpr ⟨(mwsX3_strikeValue_0 _ (List.mem_of_getElem? (i := 19) rfl)), (List.forall_mem_cons.mpr ⟨(mwsX3_strikeValue_0 _ (List.mem_of_getElem? (i := 20) rfl)), (List.forall_mem_cons.mpr ⟨(mwsX3_strikeValue_0 _ (List.mem_of_getElem? (i := 21) rfl)), (tk_mem 7 _ (fun w h => (mwsX3_strikeValue_4 _ (tkB_mem 0 7 h))) (fun _ h => absurd h List.not_mem_nil))⟩)⟩)⟩) (by decide +kernel)
set_option maxRecDepth 20000 in
theorem gX3_strikeValue_X0_countOfValue : GoodIn wsX3_strikeValue (wsV RX3 101 RX0 yX0_countOfValue wsX0_countOfValue) := goodIn_app (goodIn_sub (tk_mem 4 _ (fun w h => (mwsX3_strikeValue_0 _ (tkB_mem 15 4 h))) (fun _ h => absurd h List.not_mem_nil)) (by decide +kernel)) ggX3_strikeValue_X0_countOfValue
set_option maxRecDepth 20000 in
theorem ggX3_strikeValue_X0_touch : GoodIn wsX3_strikeValue wsX0_touch := goodIn_sub (List.forall_mem_cons.mpr ⟨(mwsX3_strikeValue_1 _ (List.mem_of_getElem? (i := 1) rfl)), (List.forall_mem_cons.mpr ⟨(mwsX3_strikeValue_1 _ (List.mem_of_getElem? (i := 2) rfl)), (tk_mem 7 _ (fun w h => (mwsX3_strikeValue_4 _ (tkB_mem 0 7 h))) (fun _ h => absurd h List.not_mem_nil))⟩)⟩) (by decide +kernel)
set_option maxRecDepth 20000 in
theorem gX3_strikeValue_X0_touch : GoodIn wsX3_strikeValue (wsV RX3 57 RX0 yX0_touch wsX0_touch) := goodIn_app (goodIn_sub (List.forall_mem_cons.mpr ⟨(mwsX3_strikeValue_0 _ (List.mem_of_getElem? (i := 22) rfl)), (List.forall_mem_cons.mpr ⟨(mwsX3_strikeValue_0 _ (List.mem_of_getElem? (i := 23) rfl)), (List.forall_mem_cons.mpr ⟨(mwsX3_strikeValue_1 _ (List.mem_of_getElem? (i := 0) rfl)), (List.forall_mem_cons.mpr ⟨(mwsX3_strikeValue_0 _ (List.mem_of_getElem? (i := 18) rfl)), (fun _ h => absurd h List.not_mem_nil)⟩)⟩)⟩)⟩) (by decide +kernel)) ggX3_strikeValue_X0_touch
set_option maxRecDepth 20000 in
theorem ggX3_strikeValue_X0_firstPlaceOfValue : GoodIn wsX3_strikeValue wsX0_firstPlaceOfValue := goodIn_sub (List.forall_mem_cons.mpr ⟨(mwsX3_strikeValue_1 _ (List.mem_of_getElem? (i := 6) rfl)), (List.forall_mem_cons.mpr ⟨(mwsX3_strikeValue_0 _ (List.mem_of_getElem? (i := 20) rfl)), (List.forall_mem_cons.mpr ⟨(mwsX3_strikeValue_0 _ (List.mem_of_getElem? (i := 21) rfl)), (tk_mem 7 _ (fun w h => (mwsX3_strikeValue_4 _ (tkB_mem 0 7 h))) (fun _ h => absurd h List.not_mem_nil))⟩)⟩)⟩) (by decide +kernel)
set_option maxRecDepth 20000 in
theorem gX3_strikeValue_X0_firstPlaceOfValue : GoodIn wsX3_strikeValue (wsV RX3 109 RX0 yX0_firstPlaceOfValue wsX0_firstPlaceOfValue) := goodIn_app (goodIn_sub (List.forall_mem_cons.mpr ⟨(mwsX3_strikeValue_1 _ (List.mem_of_getElem? (i := 3) rfl)), (List.forall_mem_cons.mpr ⟨(mwsX3_strikeValue_1 _ (List.mem_of_getElem? (i := 4) rfl)), (List.forall_mem_cons.mpr ⟨(mwsX3_strikeValue_1 _ (List.mem_of_getElem? (i := 5) rfl)), (List.forall_mem_cons.mpr ⟨(mwsX3_strikeValue_0 _ (List.mem_of_getElem? (i := 18) rfl)), (fun _ h => absurd h List.not_mem_nil)⟩)⟩)⟩)⟩) (by decide +kernel)) ggX3_strikeValue_X0_firstPlaceOfValue
set_option maxRecDepth 20000 in
theorem ggX3_strikeValue_X0_removeAt : GoodIn wsX3_strikeValue wsX0_removeAt := goodIn_sub (tk_mem 4 _ (fun w h => (mwsX3_strikeValue_1 _ (tkB_mem 10 4 h))) (List.forall_mem_cons.mpr ⟨(mwsX3_strikeValue_0 _ (List.mem_of_getElem? (i := 18) rfl)), (tk_mem 6 _ (fun w h => (mwsX3_strikeValue_1 _ (tkB_mem 14 6 h))) (List.forall_mem_cons.mpr ⟨(mwsX3_strikeValue_0 _ (List.mem_of_getElem? (i := 20) rfl)), (tk_mem 4 _ (fun w h => (mwsX3_strikeValue_1 _ (tkB_mem 20 4 h))) (tk_mem 4 _ (fun w h => (mwsX3_strikeValue_2 _ (tkB_mem 0 4 h))) (List.forall_mem_cons.mpr ⟨(mwsX3_strikeValue_0 _ (List.mem_of_getElem? (i := 21) rfl)), (List.forall_mem_cons.mpr ⟨(mwsX3_strikeValue_2 _ (List.mem_of_getElem? (i := 4) rfl)), (tk_mem 7 _ (fun w h => (mwsX3_strikeValue_4 _ (tkB_mem 0 7 h))) (fun _ h => absurd h List.not_mem_nil))⟩)⟩)))⟩))⟩)) (by decide +kernel)
set_option maxRecDepth 20000 in
theorem gX3_strikeValue_X0_removeAt : GoodIn wsX3_strikeValue (wsV RX3 83 RX0 yX0_removeAt wsX0_removeAt) := goodIn_app (goodIn_sub (List.forall_mem_cons.mpr ⟨(mwsX3_strikeValue_1 _ (List.mem_of_getElem? (i := 7) rfl)), (List.forall_mem_cons.mpr ⟨(mwsX3_strikeValue_1 _ (List.mem_of_getElem? (i := 8) rfl)), (List.forall_mem_cons.mpr ⟨(mwsX3_strikeValue_1 _ (List.mem_of_getElem? (i := 9) rfl)), (List.forall_mem_cons.mpr ⟨(mwsX3_strikeValue_0 _ (List.mem_of_getElem? (i := 18) rfl)), (fun _ h => absurd h List.not_mem_nil)⟩)⟩)⟩)⟩) (by decide +kernel)) ggX3_strikeValue_X0_removeAt
theorem adX3_strikeValue_0 : fd_rows (cX3_strikeValue.data.toList.drop 0) 0 [(0, some (.aload_n 0), 1), (1, some (.iload_n 1), 1), (2, some (.invokevirtual 47), 3), (5, some (.astore_n 3), 1), (6, some (.iload_n 2), 1), (7, some (.invokestatic 54), 3), (10, some (.aload_n 3), 1), (11, some (.iload_n 2), 1), (12, some (.invokevirtual 101), 3), (15, some (.istore 4), 2), (17, some (.iload 4), 2), (19, some (.iconst 1), 1), (20, some (.if_icmp .le 13), 3), (23, some (.new 104), 3), (26, some (.dup), 1), (27, some (.ldc 106), 2)] = true := by decide +kernel
theorem adX3_strikeValue_1 : fd_rows (cX3_strikeValue.data.toList.drop 29) 29 [(29, some (.invokespecial 108), 3), (32, some (.athrow), 1), (33, some (.aload_n 3), 1), (34, some (.invokevirtual 57), 3), (37, some (.iload 4), 2), (39, some (.ifCond .ne 5), 3), (42, some (.iconst 0), 1), (43, some (.ireturn), 1), (44, some (.aload_n 3), 1), (45, some (.aload_n 3), 1), (46, some (.iload_n 2), 1), (47, some (.invokevirtual 109), 3), (50, some (.invokevirtual 83), 3), (53, some (.pop), 1), (54, some (.iconst 1), 1), (55, some (.ireturn), 1)] = true := by decide +kernel
theorem dX3_strikeValue_0 : decode cX3_strikeValue 0 = .ok (.aload_n 0, 1) := fd_get adX3_strikeValue_0 (k := 0) rfl
theorem dX3_strikeValue_1 : decode cX3_strikeValue 1 = .ok (.iload_n 1, 1) := fd_get adX3_strikeValue_0 (k := 1) rfl
theorem dX3_strikeValue_2 : decode cX3_strikeValue 2 = .ok (.invokevirtual 47, 3) := fd_get adX3_strikeValue_0 (k := 2) rfl
theorem dX3_strikeValue_5 : decode cX3_strikeValue 5 = .ok (.astore_n 3, 1) := fd_get adX3_strikeValue_0 (k := 3) rfl
theorem dX3_strikeValue_6 : decode cX3_strikeValue 6 = .ok (.iload_n 2, 1) := fd_get adX3_strikeValue_0 (k := 4) rfl
theorem dX3_strikeValue_7 : decode cX3_strikeValue 7 = .ok (.invokestatic 54, 3) := fd_get adX3_strikeValue_0 (k := 5) rfl
theorem dX3_strikeValue_10 : decode cX3_strikeValue 10 = .ok (.aload_n 3, 1) := fd_get adX3_strikeValue_0 (k := 6) rfl
theorem dX3_strikeValue_11 : decode cX3_strikeValue 11 = .ok (.iload_n 2, 1) := fd_get adX3_strikeValue_0 (k := 7) rfl
theorem dX3_strikeValue_12 : decode cX3_strikeValue 12 = .ok (.invokevirtual 101, 3) := fd_get adX3_strikeValue_0 (k := 8) rfl
theorem dX3_strikeValue_15 : decode cX3_strikeValue 15 = .ok (.istore 4, 2) := fd_get adX3_strikeValue_0 (k := 9) rfl
theorem dX3_strikeValue_17 : decode cX3_strikeValue 17 = .ok (.iload 4, 2) := fd_get adX3_strikeValue_0 (k := 10) rfl
theorem dX3_strikeValue_19 : decode cX3_strikeValue 19 = .ok (.iconst 1, 1) := fd_get adX3_strikeValue_0 (k := 11) rfl
theorem dX3_strikeValue_20 : decode cX3_strikeValue 20 = .ok (.if_icmp .le 13, 3) := fd_get adX3_strikeValue_0 (k := 12) rfl
theorem dX3_strikeValue_23 : decode cX3_strikeValue 23 = .ok (.new 104, 3) := fd_get adX3_strikeValue_0 (k := 13) rfl
theorem dX3_strikeValue_26 : decode cX3_strikeValue 26 = .ok (.dup, 1) := fd_get adX3_strikeValue_0 (k := 14) rfl
theorem dX3_strikeValue_27 : decode cX3_strikeValue 27 = .ok (.ldc 106, 2) := fd_get adX3_strikeValue_0 (k := 15) rfl
theorem dX3_strikeValue_29 : decode cX3_strikeValue 29 = .ok (.invokespecial 108, 3) := fd_get adX3_strikeValue_1 (k := 0) rfl
theorem dX3_strikeValue_32 : decode cX3_strikeValue 32 = .ok (.athrow, 1) := fd_get adX3_strikeValue_1 (k := 1) rfl
theorem dX3_strikeValue_33 : decode cX3_strikeValue 33 = .ok (.aload_n 3, 1) := fd_get adX3_strikeValue_1 (k := 2) rfl
theorem dX3_strikeValue_34 : decode cX3_strikeValue 34 = .ok (.invokevirtual 57, 3) := fd_get adX3_strikeValue_1 (k := 3) rfl
theorem dX3_strikeValue_37 : decode cX3_strikeValue 37 = .ok (.iload 4, 2) := fd_get adX3_strikeValue_1 (k := 4) rfl
theorem dX3_strikeValue_39 : decode cX3_strikeValue 39 = .ok (.ifCond .ne 5, 3) := fd_get adX3_strikeValue_1 (k := 5) rfl
theorem dX3_strikeValue_42 : decode cX3_strikeValue 42 = .ok (.iconst 0, 1) := fd_get adX3_strikeValue_1 (k := 6) rfl
theorem dX3_strikeValue_43 : decode cX3_strikeValue 43 = .ok (.ireturn, 1) := fd_get adX3_strikeValue_1 (k := 7) rfl
theorem dX3_strikeValue_44 : decode cX3_strikeValue 44 = .ok (.aload_n 3, 1) := fd_get adX3_strikeValue_1 (k := 8) rfl
theorem dX3_strikeValue_45 : decode cX3_strikeValue 45 = .ok (.aload_n 3, 1) := fd_get adX3_strikeValue_1 (k := 9) rfl
theorem dX3_strikeValue_46 : decode cX3_strikeValue 46 = .ok (.iload_n 2, 1) := fd_get adX3_strikeValue_1 (k := 10) rfl
theorem dX3_strikeValue_47 : decode cX3_strikeValue 47 = .ok (.invokevirtual 109, 3) := fd_get adX3_strikeValue_1 (k := 11) rfl
theorem dX3_strikeValue_50 : decode cX3_strikeValue 50 = .ok (.invokevirtual 83, 3) := fd_get adX3_strikeValue_1 (k := 12) rfl
theorem dX3_strikeValue_53 : decode cX3_strikeValue 53 = .ok (.pop, 1) := fd_get adX3_strikeValue_1 (k := 13) rfl
theorem dX3_strikeValue_54 : decode cX3_strikeValue 54 = .ok (.iconst 1, 1) := fd_get adX3_strikeValue_1 (k := 14) rfl
theorem dX3_strikeValue_55 : decode cX3_strikeValue 55 = .ok (.ireturn, 1) := fd_get adX3_strikeValue_1 (k := 15) rfl
theorem mwsX3_clear_0 : ∀ w ∈ wsX3_clear_r1, w ∈ wsX3_clear := fun w h => (List.mem_cons_of_mem _ (List.mem_append_left _ (List.mem_append_left _ (List.mem_append_left _ (List.mem_append_left _ h)))))
theorem mwsX3_clear_1 : ∀ w ∈ wsX3_clear_r2, w ∈ wsX3_clear := fun w h => (List.mem_cons_of_mem _ (List.mem_append_left _ (List.mem_append_left _ (List.mem_append_left _ (List.mem_append_right _ h)))))
theorem mwsX3_clear_2 : ∀ w ∈ wsX30, w ∈ wsX3_clear := fun w h => (List.mem_cons_of_mem _ (List.mem_append_left _ (List.mem_append_left _ (List.mem_append_right _ h))))
theorem mwsX3_clear_3 : ∀ w ∈ wsX00, w ∈ wsX3_clear := fun w h => (List.mem_cons_of_mem _ (List.mem_append_left _ (List.mem_append_right _ h)))
set_option maxRecDepth 20000 in
theorem ggX3_clear_X3_bookAt : GoodIn wsX3_clear wsX3_bookAt := goodIn_ca (goodIn_sub (tk_mem 4 _ (fun w h => (mwsX3_clear_0 _ (tkB_mem 4 4 h))) (tk_mem 6 _ (fun w h => (mwsX3_clear_2 _ (tkB_mem 0 6 h))) (fun _ h => absurd h List.not_mem_nil))) (by decide +kernel)) (goodIn_sub (fun _ h => List.mem_cons_of_mem _ (List.mem_append_right _ h)) (by decide +kernel))
set_option maxRecDepth 20000 in
theorem gX3_clear_X3_bookAt : GoodIn wsX3_clear (wsV RX3 47 RX3 yX3_bookAt wsX3_bookAt) := goodIn_app (goodIn_sub (tk_mem 4 _ (fun w h => (mwsX3_clear_0 _ (tkB_mem 0 4 h))) (fun _ h => absurd h List.not_mem_nil)) (by decide +kernel)) ggX3_clear_X3_bookAt
set_option maxRecDepth 20000 in
theorem ggX3_clear_X0_touch : GoodIn wsX3_clear wsX0_touch := goodIn_sub (List.forall_mem_cons.mpr ⟨(mwsX3_clear_0 _ (List.mem_of_getElem? (i := 12) rfl)), (List.forall_mem_cons.mpr ⟨(mwsX3_clear_0 _ (List.mem_of_getElem? (i := 13) rfl)), (tk_mem 7 _ (fun w h => (mwsX3_clear_3 _ (tkB_mem 0 7 h))) (fun _ h => absurd h List.not_mem_nil))⟩)⟩) (by decide +kernel)
set_option maxRecDepth 20000 in
theorem gX3_clear_X0_touch : GoodIn wsX3_clear (wsV RX3 57 RX0 yX0_touch wsX0_touch) := goodIn_app (goodIn_sub (tk_mem 4 _ (fun w h => (mwsX3_clear_0 _ (tkB_mem 8 4 h))) (fun _ h => absurd h List.not_mem_nil)) (by decide +kernel)) ggX3_clear_X0_touch
set_option maxRecDepth 20000 in
theorem ggX3_clear_X0_size : GoodIn wsX3_clear wsX0_size := goodIn_sub (List.forall_mem_cons.mpr ⟨(mwsX3_clear_0 _ (List.mem_of_getElem? (i := 17) rfl)), (List.forall_mem_cons.mpr ⟨(mwsX3_clear_0 _ (List.mem_of_getElem? (i := 18) rfl)), (tk_mem 7 _ (fun w h => (mwsX3_clear_3 _ (tkB_mem 0 7 h))) (fun _ h => absurd h List.not_mem_nil))⟩)⟩) (by decide +kernel)
set_option maxRecDepth 20000 in
theorem gX3_clear_X0_size : GoodIn wsX3_clear (wsV RX3 79 RX0 yX0_size wsX0_size) := goodIn_app (goodIn_sub (List.forall_mem_cons.mpr ⟨(mwsX3_clear_0 _ (List.mem_of_getElem? (i := 14) rfl)), (List.forall_mem_cons.mpr ⟨(mwsX3_clear_0 _ (List.mem_of_getElem? (i := 15) rfl)), (List.forall_mem_cons.mpr ⟨(mwsX3_clear_0 _ (List.mem_of_getElem? (i := 16) rfl)), (List.forall_mem_cons.mpr ⟨(mwsX3_clear_0 _ (List.mem_of_getElem? (i := 11) rfl)), (fun _ h => absurd h List.not_mem_nil)⟩)⟩)⟩)⟩) (by decide +kernel)) ggX3_clear_X0_size
set_option maxRecDepth 20000 in
theorem ggX3_clear_X0_removeRange : GoodIn wsX3_clear wsX0_removeRange := goodIn_sub (List.forall_mem_cons.mpr ⟨(mwsX3_clear_0 _ (List.mem_of_getElem? (i := 22) rfl)), (List.forall_mem_cons.mpr ⟨(mwsX3_clear_0 _ (List.mem_of_getElem? (i := 18) rfl)), (List.forall_mem_cons.mpr ⟨(mwsX3_clear_0 _ (List.mem_of_getElem? (i := 23) rfl)), (tk_mem 6 _ (fun w h => (mwsX3_clear_1 _ (tkB_mem 0 6 h))) (tk_mem 7 _ (fun w h => (mwsX3_clear_3 _ (tkB_mem 0 7 h))) (fun _ h => absurd h List.not_mem_nil)))⟩)⟩)⟩) (by decide +kernel)
set_option maxRecDepth 20000 in
theorem gX3_clear_X0_removeRange : GoodIn wsX3_clear (wsV RX3 112 RX0 yX0_removeRange wsX0_removeRange) := goodIn_app (goodIn_sub (List.forall_mem_cons.mpr ⟨(mwsX3_clear_0 _ (List.mem_of_getElem? (i := 19) rfl)), (List.forall_mem_cons.mpr ⟨(mwsX3_clear_0 _ (List.mem_of_getElem? (i := 20) rfl)), (List.forall_mem_cons.mpr ⟨(mwsX3_clear_0 _ (List.mem_of_getElem? (i := 21) rfl)), (List.forall_mem_cons.mpr ⟨(mwsX3_clear_0 _ (List.mem_of_getElem? (i := 11) rfl)), (fun _ h => absurd h List.not_mem_nil)⟩)⟩)⟩)⟩) (by decide +kernel)) ggX3_clear_X0_removeRange
theorem adX3_clear_0 : fd_rows (cX3_clear.data.toList.drop 0) 0 [(0, some (.aload_n 0), 1), (1, some (.iload_n 1), 1), (2, some (.invokevirtual 47), 3), (5, some (.astore_n 2), 1), (6, some (.aload_n 2), 1), (7, some (.invokevirtual 57), 3), (10, some (.aload_n 2), 1), (11, some (.iconst 0), 1), (12, some (.aload_n 2), 1), (13, some (.invokevirtual 79), 3), (16, some (.invokevirtual 112), 3), (19, some (.ireturn), 1)] = true := by decide +kernel
theorem dX3_clear_0 : decode cX3_clear 0 = .ok (.aload_n 0, 1) := fd_get adX3_clear_0 (k := 0) rfl
theorem dX3_clear_1 : decode cX3_clear 1 = .ok (.iload_n 1, 1) := fd_get adX3_clear_0 (k := 1) rfl
theorem dX3_clear_2 : decode cX3_clear 2 = .ok (.invokevirtual 47, 3) := fd_get adX3_clear_0 (k := 2) rfl
theorem dX3_clear_5 : decode cX3_clear 5 = .ok (.astore_n 2, 1) := fd_get adX3_clear_0 (k := 3) rfl
theorem dX3_clear_6 : decode cX3_clear 6 = .ok (.aload_n 2, 1) := fd_get adX3_clear_0 (k := 4) rfl
theorem dX3_clear_7 : decode cX3_clear 7 = .ok (.invokevirtual 57, 3) := fd_get adX3_clear_0 (k := 5) rfl
theorem dX3_clear_10 : decode cX3_clear 10 = .ok (.aload_n 2, 1) := fd_get adX3_clear_0 (k := 6) rfl
theorem dX3_clear_11 : decode cX3_clear 11 = .ok (.iconst 0, 1) := fd_get adX3_clear_0 (k := 7) rfl
theorem dX3_clear_12 : decode cX3_clear 12 = .ok (.aload_n 2, 1) := fd_get adX3_clear_0 (k := 8) rfl
theorem dX3_clear_13 : decode cX3_clear 13 = .ok (.invokevirtual 79, 3) := fd_get adX3_clear_0 (k := 9) rfl
theorem dX3_clear_16 : decode cX3_clear 16 = .ok (.invokevirtual 112, 3) := fd_get adX3_clear_0 (k := 10) rfl
theorem dX3_clear_19 : decode cX3_clear 19 = .ok (.ireturn, 1) := fd_get adX3_clear_0 (k := 11) rfl
theorem mwsX3_pour_0 : ∀ w ∈ wsX3_pour_r1, w ∈ wsX3_pour := fun w h => (List.mem_cons_of_mem _ (List.mem_append_left _ (List.mem_append_left _ (List.mem_append_left _ (List.mem_append_left _ (List.mem_append_left _ h))))))
theorem mwsX3_pour_1 : ∀ w ∈ wsX3_pour_r2, w ∈ wsX3_pour := fun w h => (List.mem_cons_of_mem _ (List.mem_append_left _ (List.mem_append_left _ (List.mem_append_left _ (List.mem_append_left _ (List.mem_append_right _ (List.mem_append_left _ h)))))))
theorem mwsX3_pour_2 : ∀ w ∈ wsX3_pour_r3, w ∈ wsX3_pour := fun w h => (List.mem_cons_of_mem _ (List.mem_append_left _ (List.mem_append_left _ (List.mem_append_left _ (List.mem_append_left _ (List.mem_append_right _ (List.mem_append_right _ h)))))))
theorem mwsX3_pour_3 : ∀ w ∈ wsX30, w ∈ wsX3_pour := fun w h => (List.mem_cons_of_mem _ (List.mem_append_left _ (List.mem_append_left _ (List.mem_append_left _ (List.mem_append_right _ h)))))
theorem mwsX3_pour_4 : ∀ w ∈ wsX00, w ∈ wsX3_pour := fun w h => (List.mem_cons_of_mem _ (List.mem_append_left _ (List.mem_append_left _ (List.mem_append_right _ h))))
set_option maxRecDepth 20000 in
theorem ggX3_pour_X3_bookAt : GoodIn wsX3_pour wsX3_bookAt := goodIn_ca (goodIn_sub (tk_mem 4 _ (fun w h => (mwsX3_pour_0 _ (tkB_mem 4 4 h))) (tk_mem 6 _ (fun w h => (mwsX3_pour_3 _ (tkB_mem 0 6 h))) (fun _ h => absurd h List.not_mem_nil))) (by decide +kernel)) (goodIn_sub (fun _ h => List.mem_cons_of_mem _ (List.mem_append_left _ (List.mem_append_right _ h))) (by decide +kernel))
set_option maxRecDepth 20000 in
theorem gX3_pour_X3_bookAt : GoodIn wsX3_pour (wsV RX3 47 RX3 yX3_bookAt wsX3_bookAt) := goodIn_app (goodIn_sub (tk_mem 4 _ (fun w h => (mwsX3_pour_0 _ (tkB_mem 0 4 h))) (fun _ h => absurd h List.not_mem_nil)) (by decide +kernel)) ggX3_pour_X3_bookAt
set_option maxRecDepth 20000 in
theorem ggX3_pour_X3_checkUnlike : GoodIn wsX3_pour wsX3_checkUnlike := goodIn_ca (goodIn_sub (List.forall_mem_cons.mpr ⟨(mwsX3_pour_0 _ (List.mem_of_getElem? (i := 10) rfl)), (List.forall_mem_cons.mpr ⟨(mwsX3_pour_0 _ (List.mem_of_getElem? (i := 11) rfl)), (List.forall_mem_cons.mpr ⟨(mwsX3_pour_0 _ (List.mem_of_getElem? (i := 12) rfl)), (fun _ h => absurd h List.not_mem_nil)⟩)⟩)⟩) (by decide +kernel)) (goodIn_sub (fun _ h => List.mem_cons_of_mem _ (List.mem_append_right _ h)) (by decide +kernel))
set_option maxRecDepth 20000 in
theorem gX3_pour_X3_checkUnlike : GoodIn wsX3_pour (va_wsS RX3 115 yX3_checkUnlike wsX3_checkUnlike) := goodIn_app (goodIn_sub (List.forall_mem_cons.mpr ⟨(mwsX3_pour_0 _ (List.mem_of_getElem? (i := 8) rfl)), (List.forall_mem_cons.mpr ⟨(mwsX3_pour_0 _ (List.mem_of_getElem? (i := 9) rfl)), (List.forall_mem_cons.mpr ⟨(mwsX3_pour_0 _ (List.mem_of_getElem? (i := 3) rfl)), (fun _ h => absurd h List.not_mem_nil)⟩)⟩)⟩) (by decide +kernel)) ggX3_pour_X3_checkUnlike
set_option maxRecDepth 20000 in
theorem ggX3_pour_X0_touch : GoodIn wsX3_pour wsX0_touch := goodIn_sub (List.forall_mem_cons.mpr ⟨(mwsX3_pour_0 _ (List.mem_of_getElem? (i := 17) rfl)), (List.forall_mem_cons.mpr ⟨(mwsX3_pour_0 _ (List.mem_of_getElem? (i := 18) rfl)), (tk_mem 7 _ (fun w h => (mwsX3_pour_4 _ (tkB_mem 0 7 h))) (fun _ h => absurd h List.not_mem_nil))⟩)⟩) (by decide +kernel)
set_option maxRecDepth 20000 in
theorem gX3_pour_X0_touch : GoodIn wsX3_pour (wsV RX3 57 RX0 yX0_touch wsX0_touch) := goodIn_app (goodIn_sub (tk_mem 4 _ (fun w h => (mwsX3_pour_0 _ (tkB_mem 13 4 h))) (fun _ h => absurd h List.not_mem_nil)) (by decide +kernel)) ggX3_pour_X0_touch
set_option maxRecDepth 20000 in
theorem ggX3_pour_X0_enterAll : GoodIn wsX3_pour wsX0_enterAll := goodIn_sub (List.forall_mem_cons.mpr ⟨(mwsX3_pour_0 _ (List.mem_of_getElem? (i := 22) rfl)), (List.forall_mem_cons.mpr ⟨(mwsX3_pour_0 _ (List.mem_of_getElem? (i := 23) rfl)), (List.forall_mem_cons.mpr ⟨(mwsX3_pour_1 _ (List.mem_of_getElem? (i := 0) rfl)), (List.forall_mem_cons.mpr ⟨(mwsX3_pour_1 _ (List.mem_of_getElem? (i := 1) rfl)), (List.forall_mem_cons.mpr ⟨(mwsX3_pour_0 _ (List.mem_of_getElem? (i := 16) rfl)), (tk_mem 22 _ (fun w h => (mwsX3_pour_1 _ (tkB_mem 2 22 h))) (tk_mem 20 _ (fun w h => (mwsX3_pour_2 _ (tkB_mem 0 20 h))) (tk_mem 7 _ (fun w h => (mwsX3_pour_4 _ (tkB_mem 0 7 h))) (fun _ h => absurd h List.not_mem_nil))))⟩)⟩)⟩)⟩)⟩) (by decide +kernel)
set_option maxRecDepth 20000 in
theorem gX3_pour_X0_enterAll : GoodIn wsX3_pour (wsV RX3 119 RX0 yX0_enterAll wsX0_enterAll) := goodIn_app (goodIn_sub (List.forall_mem_cons.mpr ⟨(mwsX3_pour_0 _ (List.mem_of_getElem? (i := 19) rfl)), (List.forall_mem_cons.mpr ⟨(mwsX3_pour_0 _ (List.mem_of_getElem? (i := 20) rfl)), (List.forall_mem_cons.mpr ⟨(mwsX3_pour_0 _ (List.mem_of_getElem? (i := 21) rfl)), (List.forall_mem_cons.mpr ⟨(mwsX3_pour_0 _ (List.mem_of_getElem? (i := 16) rfl)), (fun _ h => absurd h List.not_mem_nil)⟩)⟩)⟩)⟩) (by decide +kernel)) ggX3_pour_X0_enterAll
set_option maxRecDepth 20000 in
theorem ggX3_pour_X0_size : GoodIn wsX3_pour wsX0_size := goodIn_sub (List.forall_mem_cons.mpr ⟨(mwsX3_pour_1 _ (List.mem_of_getElem? (i := 2) rfl)), (List.forall_mem_cons.mpr ⟨(mwsX3_pour_1 _ (List.mem_of_getElem? (i := 3) rfl)), (tk_mem 7 _ (fun w h => (mwsX3_pour_4 _ (tkB_mem 0 7 h))) (fun _ h => absurd h List.not_mem_nil))⟩)⟩) (by decide +kernel)
set_option maxRecDepth 20000 in
theorem gX3_pour_X0_size : GoodIn wsX3_pour (wsV RX3 79 RX0 yX0_size wsX0_size) := goodIn_app (goodIn_sub (List.forall_mem_cons.mpr ⟨(mwsX3_pour_2 _ (List.mem_of_getElem? (i := 20) rfl)), (List.forall_mem_cons.mpr ⟨(mwsX3_pour_1 _ (List.mem_of_getElem? (i := 0) rfl)), (List.forall_mem_cons.mpr ⟨(mwsX3_pour_1 _ (List.mem_of_getElem? (i := 1) rfl)), (List.forall_mem_cons.mpr ⟨(mwsX3_pour_0 _ (List.mem_of_getElem? (i := 16) rfl)), (fun _ h => absurd h List.not_mem_nil)⟩)⟩)⟩)⟩) (by decide +kernel)) ggX3_pour_X0_size
theorem adX3_pour_0 : fd_rows (cX3_pour.data.toList.drop 0) 0 [(0, some (.aload_n 0), 1), (1, some (.iload_n 1), 1), (2, some (.invokevirtual 47), 3), (5, some (.astore_n 3), 1), (6, some (.aload_n 0), 1), (7, some (.iload_n 2), 1), (8, some (.invokevirtual 47), 3), (11, some (.astore 4), 2), (13, some (.iload_n 1), 1), (14, some (.iload_n 2), 1), (15, some (.invokestatic 115), 3), (18, some (.aload 4), 2), (20, some (.invokevirtual 57), 3), (23, some (.aload 4), 2), (25, some (.aload_n 3), 1), (26, some (.invokevirtual 119), 3)] = true := by decide +kernel
theorem adX3_pour_1 : fd_rows (cX3_pour.data.toList.drop 29) 29 [(29, some (.aload 4), 2), (31, some (.invokevirtual 79), 3), (34, some (.ireturn), 1)] = true := by decide +kernel
theorem dX3_pour_0 : decode cX3_pour 0 = .ok (.aload_n 0, 1) := fd_get adX3_pour_0 (k := 0) rfl
theorem dX3_pour_1 : decode cX3_pour 1 = .ok (.iload_n 1, 1) := fd_get adX3_pour_0 (k := 1) rfl
theorem dX3_pour_2 : decode cX3_pour 2 = .ok (.invokevirtual 47, 3) := fd_get adX3_pour_0 (k := 2) rfl
theorem dX3_pour_5 : decode cX3_pour 5 = .ok (.astore_n 3, 1) := fd_get adX3_pour_0 (k := 3) rfl
theorem dX3_pour_6 : decode cX3_pour 6 = .ok (.aload_n 0, 1) := fd_get adX3_pour_0 (k := 4) rfl
theorem dX3_pour_7 : decode cX3_pour 7 = .ok (.iload_n 2, 1) := fd_get adX3_pour_0 (k := 5) rfl
theorem dX3_pour_8 : decode cX3_pour 8 = .ok (.invokevirtual 47, 3) := fd_get adX3_pour_0 (k := 6) rfl
theorem dX3_pour_11 : decode cX3_pour 11 = .ok (.astore 4, 2) := fd_get adX3_pour_0 (k := 7) rfl
theorem dX3_pour_13 : decode cX3_pour 13 = .ok (.iload_n 1, 1) := fd_get adX3_pour_0 (k := 8) rfl
theorem dX3_pour_14 : decode cX3_pour 14 = .ok (.iload_n 2, 1) := fd_get adX3_pour_0 (k := 9) rfl
theorem dX3_pour_15 : decode cX3_pour 15 = .ok (.invokestatic 115, 3) := fd_get adX3_pour_0 (k := 10) rfl
theorem dX3_pour_18 : decode cX3_pour 18 = .ok (.aload 4, 2) := fd_get adX3_pour_0 (k := 11) rfl
theorem dX3_pour_20 : decode cX3_pour 20 = .ok (.invokevirtual 57, 3) := fd_get adX3_pour_0 (k := 12) rfl
theorem dX3_pour_23 : decode cX3_pour 23 = .ok (.aload 4, 2) := fd_get adX3_pour_0 (k := 13) rfl
theorem dX3_pour_25 : decode cX3_pour 25 = .ok (.aload_n 3, 1) := fd_get adX3_pour_0 (k := 14) rfl
theorem dX3_pour_26 : decode cX3_pour 26 = .ok (.invokevirtual 119, 3) := fd_get adX3_pour_0 (k := 15) rfl
theorem dX3_pour_29 : decode cX3_pour 29 = .ok (.aload 4, 2) := fd_get adX3_pour_1 (k := 0) rfl
theorem dX3_pour_31 : decode cX3_pour 31 = .ok (.invokevirtual 79, 3) := fd_get adX3_pour_1 (k := 1) rfl
theorem dX3_pour_34 : decode cX3_pour 34 = .ok (.ireturn, 1) := fd_get adX3_pour_1 (k := 2) rfl
theorem mwsX3_copy_0 : ∀ w ∈ wsX3_copy_r1, w ∈ wsX3_copy := fun w h => (List.mem_cons_of_mem _ (List.mem_append_left _ (List.mem_append_left _ (List.mem_append_left _ (List.mem_append_left _ (List.mem_append_left _ (List.mem_append_left _ (List.mem_append_left _ h))))))))
theorem mwsX3_copy_1 : ∀ w ∈ wsX3_copy_r2, w ∈ wsX3_copy := fun w h => (List.mem_cons_of_mem _ (List.mem_append_left _ (List.mem_append_left _ (List.mem_append_left _ (List.mem_append_left _ (List.mem_append_left _ (List.mem_append_left _ (List.mem_append_right _ (List.mem_append_left _ h)))))))))
theorem mwsX3_copy_2 : ∀ w ∈ wsX3_copy_r3, w ∈ wsX3_copy := fun w h => (List.mem_cons_of_mem _ (List.mem_append_left _ (List.mem_append_left _ (List.mem_append_left _ (List.mem_append_left _ (List.mem_append_left _ (List.mem_append_left _ (List.mem_append_right _ (List.mem_append_right _ (List.mem_append_left _ h))))))))))
theorem mwsX3_copy_3 : ∀ w ∈ wsX3_copy_r4, w ∈ wsX3_copy := fun w h => (List.mem_cons_of_mem _ (List.mem_append_left _ (List.mem_append_left _ (List.mem_append_left _ (List.mem_append_left _ (List.mem_append_left _ (List.mem_append_left _ (List.mem_append_right _ (List.mem_append_right _ (List.mem_append_right _ (List.mem_append_left _ h)))))))))))
theorem mwsX3_copy_4 : ∀ w ∈ wsX3_copy_r5, w ∈ wsX3_copy := fun w h => (List.mem_cons_of_mem _ (List.mem_append_left _ (List.mem_append_left _ (List.mem_append_left _ (List.mem_append_left _ (List.mem_append_left _ (List.mem_append_left _ (List.mem_append_right _ (List.mem_append_right _ (List.mem_append_right _ (List.mem_append_right _ h)))))))))))
theorem mwsX3_copy_5 : ∀ w ∈ wsX30, w ∈ wsX3_copy := fun w h => (List.mem_cons_of_mem _ (List.mem_append_left _ (List.mem_append_left _ (List.mem_append_left _ (List.mem_append_left _ (List.mem_append_left _ (List.mem_append_right _ h)))))))
theorem mwsX3_copy_6 : ∀ w ∈ wsX00, w ∈ wsX3_copy := fun w h => (List.mem_cons_of_mem _ (List.mem_append_left _ (List.mem_append_left _ (List.mem_append_left _ (List.mem_append_left _ (List.mem_append_right _ h))))))
theorem mwsX3_copy_7 : ∀ w ∈ wsX20, w ∈ wsX3_copy := fun w h => (List.mem_cons_of_mem _ (List.mem_append_left _ (List.mem_append_left _ (List.mem_append_left _ (List.mem_append_right _ h)))))
theorem mwsX3_copy_8 : ∀ w ∈ wsX10, w ∈ wsX3_copy := fun w h => (List.mem_cons_of_mem _ (List.mem_append_left _ (List.mem_append_left _ (List.mem_append_right _ h))))
set_option maxRecDepth 20000 in
theorem ggX3_copy_X3_bookAt : GoodIn wsX3_copy wsX3_bookAt := goodIn_ca (goodIn_sub (tk_mem 4 _ (fun w h => (mwsX3_copy_0 _ (tkB_mem 5 4 h))) (tk_mem 6 _ (fun w h => (mwsX3_copy_5 _ (tkB_mem 0 6 h))) (fun _ h => absurd h List.not_mem_nil))) (by decide +kernel)) (goodIn_sub (fun _ h => List.mem_cons_of_mem _ (List.mem_append_left _ (List.mem_append_right _ h))) (by decide +kernel))
set_option maxRecDepth 20000 in
theorem gX3_copy_X3_bookAt : GoodIn wsX3_copy (wsV RX3 47 RX3 yX3_bookAt wsX3_bookAt) := goodIn_app (goodIn_sub (tk_mem 4 _ (fun w h => (mwsX3_copy_0 _ (tkB_mem 1 4 h))) (fun _ h => absurd h List.not_mem_nil)) (by decide +kernel)) ggX3_copy_X3_bookAt
set_option maxRecDepth 20000 in
theorem ggX3_copy_X3_checkUnlike : GoodIn wsX3_copy wsX3_checkUnlike := goodIn_ca (goodIn_sub (List.forall_mem_cons.mpr ⟨(mwsX3_copy_0 _ (List.mem_of_getElem? (i := 11) rfl)), (List.forall_mem_cons.mpr ⟨(mwsX3_copy_0 _ (List.mem_of_getElem? (i := 12) rfl)), (List.forall_mem_cons.mpr ⟨(mwsX3_copy_0 _ (List.mem_of_getElem? (i := 13) rfl)), (fun _ h => absurd h List.not_mem_nil)⟩)⟩)⟩) (by decide +kernel)) (goodIn_sub (fun _ h => List.mem_cons_of_mem _ (List.mem_append_right _ h)) (by decide +kernel))
set_option maxRecDepth 20000 in
theorem gX3_copy_X3_checkUnlike : GoodIn wsX3_copy (va_wsS RX3 115 yX3_checkUnlike wsX3_checkUnlike) := goodIn_app (goodIn_sub (List.forall_mem_cons.mpr ⟨(mwsX3_copy_0 _ (List.mem_of_getElem? (i := 9) rfl)), (List.forall_mem_cons.mpr ⟨(mwsX3_copy_0 _ (List.mem_of_getElem? (i := 10) rfl)), (List.forall_mem_cons.mpr ⟨(mwsX3_copy_0 _ (List.mem_of_getElem? (i := 4) rfl)), (fun _ h => absurd h List.not_mem_nil)⟩)⟩)⟩) (by decide +kernel)) ggX3_copy_X3_checkUnlike
set_option maxRecDepth 20000 in
theorem ggX3_copy_X0_becomeLike : GoodIn wsX3_copy wsX0_becomeLike := goodIn_sub (tk_mem 6 _ (fun w h => (mwsX3_copy_0 _ (tkB_mem 18 6 h))) (List.forall_mem_cons.mpr ⟨(mwsX3_copy_0 _ (List.mem_of_getElem? (i := 17) rfl)), (tk_mem 24 _ (fun w h => (mwsX3_copy_1 _ (tkB_mem 0 24 h))) (tk_mem 24 _ (fun w h => (mwsX3_copy_2 _ (tkB_mem 0 24 h))) (tk_mem 4 _ (fun w h => (mwsX3_copy_3 _ (tkB_mem 0 4 h))) (tk_mem 7 _ (fun w h => (mwsX3_copy_6 _ (tkB_mem 0 7 h))) (fun _ h => absurd h List.not_mem_nil)))))⟩)) (by decide +kernel)
set_option maxRecDepth 20000 in
theorem gX3_copy_X0_becomeLike : GoodIn wsX3_copy (wsV RX3 123 RX0 yX0_becomeLike wsX0_becomeLike) := goodIn_app (goodIn_sub (tk_mem 4 _ (fun w h => (mwsX3_copy_0 _ (tkB_mem 14 4 h))) (fun _ h => absurd h List.not_mem_nil)) (by decide +kernel)) ggX3_copy_X0_becomeLike
set_option maxRecDepth 20000 in
theorem ggX3_copy_X2_book : GoodIn wsX3_copy wsX2_book := goodIn_sub (tk_mem 8 _ (fun w h => (mwsX3_copy_3 _ (tkB_mem 8 8 h))) (tk_mem 5 _ (fun w h => (mwsX3_copy_7 _ (tkB_mem 0 5 h))) (tk_mem 7 _ (fun w h => (mwsX3_copy_8 _ (tkB_mem 0 7 h))) (fun _ h => absurd h List.not_mem_nil)))) (by decide +kernel)
set_option maxRecDepth 20000 in
theorem gX3_copy_X2_book : GoodIn wsX3_copy (wsV RX3 130 RX2 yX2_book wsX2_book) := goodIn_app (goodIn_sub (tk_mem 4 _ (fun w h => (mwsX3_copy_3 _ (tkB_mem 4 4 h))) (fun _ h => absurd h List.not_mem_nil)) (by decide +kernel)) ggX3_copy_X2_book
set_option maxRecDepth 20000 in
theorem ggX3_copy_X3_shutViewsOnto : GoodIn wsX3_copy wsX3_shutViewsOnto := goodIn_sub (tk_mem 5 _ (fun w h => (mwsX3_copy_3 _ (tkB_mem 19 5 h))) (List.forall_mem_cons.mpr ⟨(mwsX3_copy_0 _ (List.mem_of_getElem? (i := 4) rfl)), (List.forall_mem_cons.mpr ⟨(mwsX3_copy_4 _ (List.mem_of_getElem? (i := 0) rfl)), (List.forall_mem_cons.mpr ⟨(mwsX3_copy_4 _ (List.mem_of_getElem? (i := 1) rfl)), (tk_mem 5 _ (fun w h => (mwsX3_copy_3 _ (tkB_mem 11 5 h))) (tk_mem 6 _ (fun w h => (mwsX3_copy_5 _ (tkB_mem 0 6 h))) (tk_mem 7 _ (fun w h => (mwsX3_copy_8 _ (tkB_mem 0 7 h))) (fun _ h => absurd h List.not_mem_nil))))⟩)⟩)⟩)) (by decide +kernel)
set_option maxRecDepth 20000 in
theorem gX3_copy_X3_shutViewsOnto : GoodIn wsX3_copy (wsV RX3 136 RX3 yX3_shutViewsOnto wsX3_shutViewsOnto) := goodIn_app (goodIn_sub (List.forall_mem_cons.mpr ⟨(mwsX3_copy_3 _ (List.mem_of_getElem? (i := 16) rfl)), (List.forall_mem_cons.mpr ⟨(mwsX3_copy_3 _ (List.mem_of_getElem? (i := 17) rfl)), (List.forall_mem_cons.mpr ⟨(mwsX3_copy_3 _ (List.mem_of_getElem? (i := 18) rfl)), (List.forall_mem_cons.mpr ⟨(mwsX3_copy_0 _ (List.mem_of_getElem? (i := 4) rfl)), (fun _ h => absurd h List.not_mem_nil)⟩)⟩)⟩)⟩) (by decide +kernel)) ggX3_copy_X3_shutViewsOnto
theorem adX3_copy_0 : fd_rows (cX3_copy.data.toList.drop 0) 0 [(0, some (.aload_n 0), 1), (1, some (.iload_n 1), 1), (2, some (.invokevirtual 47), 3), (5, some (.astore_n 3), 1), (6, some (.aload_n 0), 1), (7, some (.iload_n 2), 1), (8, some (.invokevirtual 47), 3), (11, some (.astore 4), 2), (13, some (.iload_n 1), 1), (14, some (.iload_n 2), 1), (15, some (.invokestatic 115), 3), (18, some (.aload 4), 2), (20, some (.aload_n 3), 1), (21, some (.invokevirtual 123), 3), (24, some (.aload_n 0), 1), (25, some (.getfield 126), 3)] = true := by decide +kernel
theorem adX3_copy_1 : fd_rows (cX3_copy.data.toList.drop 28) 28 [(28, some (.ifnull 20), 3), (31, some (.aload_n 0), 1), (32, some (.getfield 126), 3), (35, some (.invokevirtual 130), 3), (38, some (.aload 4), 2), (40, some (.if_acmp .ne 8), 3), (43, some (.aload_n 0), 1), (44, some (.aconst_null), 1), (45, some (.putfield 126), 3), (48, some (.aload_n 0), 1), (49, some (.aload 4), 2), (51, some (.invokevirtual 136), 3), (54, some (.ireturn), 1)] = true := by decide +kernel
theorem dX3_copy_0 : decode cX3_copy 0 = .ok (.aload_n 0, 1) := fd_get adX3_copy_0 (k := 0) rfl
theorem dX3_copy_1 : decode cX3_copy 1 = .ok (.iload_n 1, 1) := fd_get adX3_copy_0 (k := 1) rfl
theorem dX3_copy_2 : decode cX3_copy 2 = .ok (.invokevirtual 47, 3) := fd_get adX3_copy_0 (k := 2) rfl
theorem dX3_copy_5 : decode cX3_copy 5 = .ok (.astore_n 3, 1) := fd_get adX3_copy_0 (k := 3) rfl
theorem dX3_copy_6 : decode cX3_copy 6 = .ok (.aload_n 0, 1) := fd_get adX3_copy_0 (k := 4) rfl
theorem dX3_copy_7 : decode cX3_copy 7 = .ok (.iload_n 2, 1) := fd_get adX3_copy_0 (k := 5) rfl
theorem dX3_copy_8 : decode cX3_copy 8 = .ok (.invokevirtual 47, 3) := fd_get adX3_copy_0 (k := 6) rfl
theorem dX3_copy_11 : decode cX3_copy 11 = .ok (.astore 4, 2) := fd_get adX3_copy_0 (k := 7) rfl
theorem dX3_copy_13 : decode cX3_copy 13 = .ok (.iload_n 1, 1) := fd_get adX3_copy_0 (k := 8) rfl
theorem dX3_copy_14 : decode cX3_copy 14 = .ok (.iload_n 2, 1) := fd_get adX3_copy_0 (k := 9) rfl
theorem dX3_copy_15 : decode cX3_copy 15 = .ok (.invokestatic 115, 3) := fd_get adX3_copy_0 (k := 10) rfl
theorem dX3_copy_18 : decode cX3_copy 18 = .ok (.aload 4, 2) := fd_get adX3_copy_0 (k := 11) rfl
theorem dX3_copy_20 : decode cX3_copy 20 = .ok (.aload_n 3, 1) := fd_get adX3_copy_0 (k := 12) rfl
theorem dX3_copy_21 : decode cX3_copy 21 = .ok (.invokevirtual 123, 3) := fd_get adX3_copy_0 (k := 13) rfl
theorem dX3_copy_24 : decode cX3_copy 24 = .ok (.aload_n 0, 1) := fd_get adX3_copy_0 (k := 14) rfl
theorem dX3_copy_25 : decode cX3_copy 25 = .ok (.getfield 126, 3) := fd_get adX3_copy_0 (k := 15) rfl
theorem dX3_copy_28 : decode cX3_copy 28 = .ok (.ifnull 20, 3) := fd_get adX3_copy_1 (k := 0) rfl
theorem dX3_copy_31 : decode cX3_copy 31 = .ok (.aload_n 0, 1) := fd_get adX3_copy_1 (k := 1) rfl
theorem dX3_copy_32 : decode cX3_copy 32 = .ok (.getfield 126, 3) := fd_get adX3_copy_1 (k := 2) rfl
theorem dX3_copy_35 : decode cX3_copy 35 = .ok (.invokevirtual 130, 3) := fd_get adX3_copy_1 (k := 3) rfl
theorem dX3_copy_38 : decode cX3_copy 38 = .ok (.aload 4, 2) := fd_get adX3_copy_1 (k := 4) rfl
theorem dX3_copy_40 : decode cX3_copy 40 = .ok (.if_acmp .ne 8, 3) := fd_get adX3_copy_1 (k := 5) rfl
theorem dX3_copy_43 : decode cX3_copy 43 = .ok (.aload_n 0, 1) := fd_get adX3_copy_1 (k := 6) rfl
theorem dX3_copy_44 : decode cX3_copy 44 = .ok (.aconst_null, 1) := fd_get adX3_copy_1 (k := 7) rfl
theorem dX3_copy_45 : decode cX3_copy 45 = .ok (.putfield 126, 3) := fd_get adX3_copy_1 (k := 8) rfl
theorem dX3_copy_48 : decode cX3_copy 48 = .ok (.aload_n 0, 1) := fd_get adX3_copy_1 (k := 9) rfl
theorem dX3_copy_49 : decode cX3_copy 49 = .ok (.aload 4, 2) := fd_get adX3_copy_1 (k := 10) rfl
theorem dX3_copy_51 : decode cX3_copy 51 = .ok (.invokevirtual 136, 3) := fd_get adX3_copy_1 (k := 11) rfl
theorem dX3_copy_54 : decode cX3_copy 54 = .ok (.ireturn, 1) := fd_get adX3_copy_1 (k := 12) rfl
theorem mwsX3_thin_0 : ∀ w ∈ wsX3_thin_r1, w ∈ wsX3_thin := fun w h => (List.mem_cons_of_mem _ (List.mem_append_left _ (List.mem_append_left _ (List.mem_append_left _ (List.mem_append_left _ (List.mem_append_left _ h))))))
theorem mwsX3_thin_1 : ∀ w ∈ wsX3_thin_r2, w ∈ wsX3_thin := fun w h => (List.mem_cons_of_mem _ (List.mem_append_left _ (List.mem_append_left _ (List.mem_append_left _ (List.mem_append_left _ (List.mem_append_right _ (List.mem_append_left _ h)))))))
theorem mwsX3_thin_2 : ∀ w ∈ wsX3_thin_r3, w ∈ wsX3_thin := fun w h => (List.mem_cons_of_mem _ (List.mem_append_left _ (List.mem_append_left _ (List.mem_append_left _ (List.mem_append_left _ (List.mem_append_right _ (List.mem_append_right _ h)))))))
theorem mwsX3_thin_3 : ∀ w ∈ wsX30, w ∈ wsX3_thin := fun w h => (List.mem_cons_of_mem _ (List.mem_append_left _ (List.mem_append_left _ (List.mem_append_left _ (List.mem_append_right _ h)))))
theorem mwsX3_thin_4 : ∀ w ∈ wsX00, w ∈ wsX3_thin := fun w h => (List.mem_cons_of_mem _ (List.mem_append_left _ (List.mem_append_left _ (List.mem_append_right _ h))))
set_option maxRecDepth 20000 in
theorem ggX3_thin_X3_bookAt : GoodIn wsX3_thin wsX3_bookAt := goodIn_ca (goodIn_sub (tk_mem 4 _ (fun w h => (mwsX3_thin_0 _ (tkB_mem 4 4 h))) (tk_mem 6 _ (fun w h => (mwsX3_thin_3 _ (tkB_mem 0 6 h))) (fun _ h => absurd h List.not_mem_nil))) (by decide +kernel)) (goodIn_sub (fun _ h => List.mem_cons_of_mem _ (List.mem_append_left _ (List.mem_append_right _ h))) (by decide +kernel))
set_option maxRecDepth 20000 in
theorem gX3_thin_X3_bookAt : GoodIn wsX3_thin (wsV RX3 47 RX3 yX3_bookAt wsX3_bookAt) := goodIn_app (goodIn_sub (tk_mem 4 _ (fun w h => (mwsX3_thin_0 _ (tkB_mem 0 4 h))) (fun _ h => absurd h List.not_mem_nil)) (by decide +kernel)) ggX3_thin_X3_bookAt
set_option maxRecDepth 20000 in
theorem ggX3_thin_X3_checkUnlike : GoodIn wsX3_thin wsX3_checkUnlike := goodIn_ca (goodIn_sub (List.forall_mem_cons.mpr ⟨(mwsX3_thin_0 _ (List.mem_of_getElem? (i := 10) rfl)), (List.forall_mem_cons.mpr ⟨(mwsX3_thin_0 _ (List.mem_of_getElem? (i := 11) rfl)), (List.forall_mem_cons.mpr ⟨(mwsX3_thin_0 _ (List.mem_of_getElem? (i := 12) rfl)), (fun _ h => absurd h List.not_mem_nil)⟩)⟩)⟩) (by decide +kernel)) (goodIn_sub (fun _ h => List.mem_cons_of_mem _ (List.mem_append_right _ h)) (by decide +kernel))
set_option maxRecDepth 20000 in
theorem gX3_thin_X3_checkUnlike : GoodIn wsX3_thin (va_wsS RX3 115 yX3_checkUnlike wsX3_checkUnlike) := goodIn_app (goodIn_sub (List.forall_mem_cons.mpr ⟨(mwsX3_thin_0 _ (List.mem_of_getElem? (i := 8) rfl)), (List.forall_mem_cons.mpr ⟨(mwsX3_thin_0 _ (List.mem_of_getElem? (i := 9) rfl)), (List.forall_mem_cons.mpr ⟨(mwsX3_thin_0 _ (List.mem_of_getElem? (i := 3) rfl)), (fun _ h => absurd h List.not_mem_nil)⟩)⟩)⟩) (by decide +kernel)) ggX3_thin_X3_checkUnlike
set_option maxRecDepth 20000 in
theorem ggX3_thin_X0_touch : GoodIn wsX3_thin wsX0_touch := goodIn_sub (List.forall_mem_cons.mpr ⟨(mwsX3_thin_0 _ (List.mem_of_getElem? (i := 17) rfl)), (List.forall_mem_cons.mpr ⟨(mwsX3_thin_0 _ (List.mem_of_getElem? (i := 18) rfl)), (tk_mem 7 _ (fun w h => (mwsX3_thin_4 _ (tkB_mem 0 7 h))) (fun _ h => absurd h List.not_mem_nil))⟩)⟩) (by decide +kernel)
set_option maxRecDepth 20000 in
theorem gX3_thin_X0_touch : GoodIn wsX3_thin (wsV RX3 57 RX0 yX0_touch wsX0_touch) := goodIn_app (goodIn_sub (tk_mem 4 _ (fun w h => (mwsX3_thin_0 _ (tkB_mem 13 4 h))) (fun _ h => absurd h List.not_mem_nil)) (by decide +kernel)) ggX3_thin_X0_touch
set_option maxRecDepth 20000 in
theorem ggX3_thin_X0_removeByOther : GoodIn wsX3_thin wsX0_removeByOther := goodIn_sub (List.forall_mem_cons.mpr ⟨(mwsX3_thin_0 _ (List.mem_of_getElem? (i := 22) rfl)), (List.forall_mem_cons.mpr ⟨(mwsX3_thin_0 _ (List.mem_of_getElem? (i := 23) rfl)), (List.forall_mem_cons.mpr ⟨(mwsX3_thin_1 _ (List.mem_of_getElem? (i := 0) rfl)), (List.forall_mem_cons.mpr ⟨(mwsX3_thin_1 _ (List.mem_of_getElem? (i := 1) rfl)), (List.forall_mem_cons.mpr ⟨(mwsX3_thin_1 _ (List.mem_of_getElem? (i := 2) rfl)), (List.forall_mem_cons.mpr ⟨(mwsX3_thin_0 _ (List.mem_of_getElem? (i := 16) rfl)), (tk_mem 21 _ (fun w h => (mwsX3_thin_1 _ (tkB_mem 3 21 h))) (tk_mem 24 _ (fun w h => (mwsX3_thin_2 _ (tkB_mem 0 24 h))) (tk_mem 7 _ (fun w h => (mwsX3_thin_4 _ (tkB_mem 0 7 h))) (fun _ h => absurd h List.not_mem_nil))))⟩)⟩)⟩)⟩)⟩)⟩) (by decide +kernel)
set_option maxRecDepth 20000 in
theorem gX3_thin_X0_removeByOther : GoodIn wsX3_thin (wsV RX3 140 RX0 yX0_removeByOther wsX0_removeByOther) := goodIn_app (goodIn_sub (List.forall_mem_cons.mpr ⟨(mwsX3_thin_0 _ (List.mem_of_getElem? (i := 19) rfl)), (List.forall_mem_cons.mpr ⟨(mwsX3_thin_0 _ (List.mem_of_getElem? (i := 20) rfl)), (List.forall_mem_cons.mpr ⟨(mwsX3_thin_0 _ (List.mem_of_getElem? (i := 21) rfl)), (List.forall_mem_cons.mpr ⟨(mwsX3_thin_0 _ (List.mem_of_getElem? (i := 16) rfl)), (fun _ h => absurd h List.not_mem_nil)⟩)⟩)⟩)⟩) (by decide +kernel)) ggX3_thin_X0_removeByOther
theorem adX3_thin_0 : fd_rows (cX3_thin.data.toList.drop 0) 0 [(0, some (.aload_n 0), 1), (1, some (.iload_n 1), 1), (2, some (.invokevirtual 47), 3), (5, some (.astore 4), 2), (7, some (.aload_n 0), 1), (8, some (.iload_n 2), 1), (9, some (.invokevirtual 47), 3), (12, some (.astore 5), 2), (14, some (.iload_n 1), 1), (15, some (.iload_n 2), 1), (16, some (.invokestatic 115), 3), (19, some (.aload 4), 2), (21, some (.invokevirtual 57), 3), (24, some (.aload 4), 2), (26, some (.aload 5), 2), (28, some (.iload_n 3), 1)] = true := by decide +kernel
theorem adX3_thin_1 : fd_rows (cX3_thin.data.toList.drop 29) 29 [(29, some (.invokevirtual 140), 3), (32, some (.ireturn), 1)] = true := by decide +kernel
theorem dX3_thin_0 : decode cX3_thin 0 = .ok (.aload_n 0, 1) := fd_get adX3_thin_0 (k := 0) rfl
theorem dX3_thin_1 : decode cX3_thin 1 = .ok (.iload_n 1, 1) := fd_get adX3_thin_0 (k := 1) rfl
theorem dX3_thin_2 : decode cX3_thin 2 = .ok (.invokevirtual 47, 3) := fd_get adX3_thin_0 (k := 2) rfl
theorem dX3_thin_5 : decode cX3_thin 5 = .ok (.astore 4, 2) := fd_get adX3_thin_0 (k := 3) rfl
theorem dX3_thin_7 : decode cX3_thin 7 = .ok (.aload_n 0, 1) := fd_get adX3_thin_0 (k := 4) rfl
theorem dX3_thin_8 : decode cX3_thin 8 = .ok (.iload_n 2, 1) := fd_get adX3_thin_0 (k := 5) rfl
theorem dX3_thin_9 : decode cX3_thin 9 = .ok (.invokevirtual 47, 3) := fd_get adX3_thin_0 (k := 6) rfl
theorem dX3_thin_12 : decode cX3_thin 12 = .ok (.astore 5, 2) := fd_get adX3_thin_0 (k := 7) rfl
theorem dX3_thin_14 : decode cX3_thin 14 = .ok (.iload_n 1, 1) := fd_get adX3_thin_0 (k := 8) rfl
theorem dX3_thin_15 : decode cX3_thin 15 = .ok (.iload_n 2, 1) := fd_get adX3_thin_0 (k := 9) rfl
theorem dX3_thin_16 : decode cX3_thin 16 = .ok (.invokestatic 115, 3) := fd_get adX3_thin_0 (k := 10) rfl
theorem dX3_thin_19 : decode cX3_thin 19 = .ok (.aload 4, 2) := fd_get adX3_thin_0 (k := 11) rfl
theorem dX3_thin_21 : decode cX3_thin 21 = .ok (.invokevirtual 57, 3) := fd_get adX3_thin_0 (k := 12) rfl
theorem dX3_thin_24 : decode cX3_thin 24 = .ok (.aload 4, 2) := fd_get adX3_thin_0 (k := 13) rfl
theorem dX3_thin_26 : decode cX3_thin 26 = .ok (.aload 5, 2) := fd_get adX3_thin_0 (k := 14) rfl
theorem dX3_thin_28 : decode cX3_thin 28 = .ok (.iload_n 3, 1) := fd_get adX3_thin_0 (k := 15) rfl
theorem dX3_thin_29 : decode cX3_thin 29 = .ok (.invokevirtual 140, 3) := fd_get adX3_thin_1 (k := 0) rfl
theorem dX3_thin_32 : decode cX3_thin 32 = .ok (.ireturn, 1) := fd_get adX3_thin_1 (k := 1) rfl
theorem mwsX3_head_0 : ∀ w ∈ wsX3_head_r1, w ∈ wsX3_head := fun w h => (List.mem_cons_of_mem _ (List.mem_append_left _ (List.mem_append_left _ (List.mem_append_left _ (List.mem_append_left _ (List.mem_append_left _ (List.mem_append_left _ (List.mem_append_left _ h))))))))
theorem mwsX3_head_1 : ∀ w ∈ wsX3_head_r2, w ∈ wsX3_head := fun w h => (List.mem_cons_of_mem _ (List.mem_append_left _ (List.mem_append_left _ (List.mem_append_left _ (List.mem_append_left _ (List.mem_append_left _ (List.mem_append_left _ (List.mem_append_right _ h))))))))
theorem mwsX3_head_2 : ∀ w ∈ wsX10, w ∈ wsX3_head := fun w h => (List.mem_cons_of_mem _ (List.mem_append_left _ (List.mem_append_left _ (List.mem_append_left _ (List.mem_append_left _ (List.mem_append_left _ (List.mem_append_right _ h)))))))
theorem mwsX3_head_3 : ∀ w ∈ wsX30, w ∈ wsX3_head := fun w h => (List.mem_cons_of_mem _ (List.mem_append_left _ (List.mem_append_left _ (List.mem_append_left _ (List.mem_append_left _ (List.mem_append_right _ h))))))
theorem mwsX3_head_4 : ∀ w ∈ wsX00, w ∈ wsX3_head := fun w h => (List.mem_cons_of_mem _ (List.mem_append_left _ (List.mem_append_left _ (List.mem_append_left _ (List.mem_append_right _ h)))))
set_option maxRecDepth 20000 in
theorem ggX3_head_X3_bookAt : GoodIn wsX3_head wsX3_bookAt := goodIn_ca (goodIn_sub (tk_mem 4 _ (fun w h => (mwsX3_head_0 _ (tkB_mem 7 4 h))) (tk_mem 6 _ (fun w h => (mwsX3_head_3 _ (tkB_mem 0 6 h))) (fun _ h => absurd h List.not_mem_nil))) (by decide +kernel)) (goodIn_sub (fun _ h => List.mem_cons_of_mem _ (List.mem_append_left _ (List.mem_append_left _ (List.mem_append_right _ h)))) (by decide +kernel))
set_option maxRecDepth 20000 in
theorem gX3_head_X3_bookAt : GoodIn wsX3_head (wsV RX3 47 RX3 yX3_bookAt wsX3_bookAt) := goodIn_app (goodIn_sub (tk_mem 4 _ (fun w h => (mwsX3_head_0 _ (tkB_mem 3 4 h))) (fun _ h => absurd h List.not_mem_nil)) (by decide +kernel)) ggX3_head_X3_bookAt
set_option maxRecDepth 20000 in
theorem ggX3_head_X3_checkKey : GoodIn wsX3_head wsX3_checkKey := goodIn_ca (goodIn_sub (List.forall_mem_cons.mpr ⟨(mwsX3_head_0 _ (List.mem_of_getElem? (i := 13) rfl)), (List.forall_mem_cons.mpr ⟨(mwsX3_head_0 _ (List.mem_of_getElem? (i := 14) rfl)), (List.forall_mem_cons.mpr ⟨(mwsX3_head_0 _ (List.mem_of_getElem? (i := 15) rfl)), (fun _ h => absurd h List.not_mem_nil)⟩)⟩)⟩) (by decide +kernel)) (goodIn_sub (fun _ h => List.mem_cons_of_mem _ (List.mem_append_left _ (List.mem_append_right _ h))) (by decide +kernel))
set_option maxRecDepth 20000 in
theorem gX3_head_X3_checkKey : GoodIn wsX3_head (va_wsS RX3 51 yX3_checkKey wsX3_checkKey) := goodIn_app (goodIn_sub (List.forall_mem_cons.mpr ⟨(mwsX3_head_0 _ (List.mem_of_getElem? (i := 11) rfl)), (List.forall_mem_cons.mpr ⟨(mwsX3_head_0 _ (List.mem_of_getElem? (i := 12) rfl)), (List.forall_mem_cons.mpr ⟨(mwsX3_head_0 _ (List.mem_of_getElem? (i := 6) rfl)), (fun _ h => absurd h List.not_mem_nil)⟩)⟩)⟩) (by decide +kernel)) ggX3_head_X3_checkKey
set_option maxRecDepth 20000 in
theorem ggX3_head_X1_init : GoodIn wsX3_head wsX1_init := goodIn_sub (tk_mem 6 _ (fun w h => (mwsX3_head_0 _ (tkB_mem 18 6 h))) (tk_mem 15 _ (fun w h => (mwsX3_head_1 _ (tkB_mem 0 15 h))) (tk_mem 7 _ (fun w h => (mwsX3_head_2 _ (tkB_mem 0 7 h))) (tk_mem 7 _ (fun w h => (mwsX3_head_4 _ (tkB_mem 0 7 h))) (fun _ h => absurd h List.not_mem_nil))))) (by decide +kernel)
set_option maxRecDepth 20000 in
theorem gX3_head_X1_init : GoodIn wsX3_head (wsX1_init) := ggX3_head_X1_init
set_option maxRecDepth 20000 in
theorem ggX3_head_X3_openView : GoodIn wsX3_head wsX3_openView := goodIn_ca (goodIn_sub (tk_mem 4 _ (fun w h => (mwsX3_head_1 _ (tkB_mem 18 4 h))) (tk_mem 6 _ (fun w h => (mwsX3_head_3 _ (tkB_mem 0 6 h))) (fun _ h => absurd h List.not_mem_nil))) (by decide +kernel)) (goodIn_sub (fun _ h => List.mem_cons_of_mem _ (List.mem_append_right _ h)) (by decide +kernel))
set_option maxRecDepth 20000 in
theorem gX3_head_X3_openView : GoodIn wsX3_head (wsV RX3 147 RX3 yX3_openView wsX3_openView) := goodIn_app (goodIn_sub (List.forall_mem_cons.mpr ⟨(mwsX3_head_1 _ (List.mem_of_getElem? (i := 15) rfl)), (List.forall_mem_cons.mpr ⟨(mwsX3_head_1 _ (List.mem_of_getElem? (i := 16) rfl)), (List.forall_mem_cons.mpr ⟨(mwsX3_head_1 _ (List.mem_of_getElem? (i := 17) rfl)), (List.forall_mem_cons.mpr ⟨(mwsX3_head_0 _ (List.mem_of_getElem? (i := 6) rfl)), (fun _ h => absurd h List.not_mem_nil)⟩)⟩)⟩)⟩) (by decide +kernel)) ggX3_head_X3_openView
theorem adX3_head_0 : fd_rows (cX3_head.data.toList.drop 0) 0 [(0, some (.aload_n 0), 1), (1, some (.iload_n 1), 1), (2, some (.invokevirtual 47), 3), (5, some (.astore 4), 2), (7, some (.iload_n 2), 1), (8, some (.invokestatic 51), 3), (11, some (.aload_n 0), 1), (12, some (.new 18), 3), (15, some (.dup), 1), (16, some (.aload 4), 2), (18, some (.sipush (-10000)), 3), (21, some (.iconst 0), 1), (22, some (.iload_n 2), 1), (23, some (.iload_n 3), 1), (24, some (.invokespecial 144), 3), (27, some (.invokevirtual 147), 3)] = true := by decide +kernel
theorem adX3_head_1 : fd_rows (cX3_head.data.toList.drop 30) 30 [(30, some (.ireturn), 1)] = true := by decide +kernel
theorem dX3_head_0 : decode cX3_head 0 = .ok (.aload_n 0, 1) := fd_get adX3_head_0 (k := 0) rfl
theorem dX3_head_1 : decode cX3_head 1 = .ok (.iload_n 1, 1) := fd_get adX3_head_0 (k := 1) rfl
theorem dX3_head_2 : decode cX3_head 2 = .ok (.invokevirtual 47, 3) := fd_get adX3_head_0 (k := 2) rfl
theorem dX3_head_5 : decode cX3_head 5 = .ok (.astore 4, 2) := fd_get adX3_head_0 (k := 3) rfl
theorem dX3_head_7 : decode cX3_head 7 = .ok (.iload_n 2, 1) := fd_get adX3_head_0 (k := 4) rfl
theorem dX3_head_8 : decode cX3_head 8 = .ok (.invokestatic 51, 3) := fd_get adX3_head_0 (k := 5) rfl
theorem dX3_head_11 : decode cX3_head 11 = .ok (.aload_n 0, 1) := fd_get adX3_head_0 (k := 6) rfl
theorem dX3_head_12 : decode cX3_head 12 = .ok (.new 18, 3) := fd_get adX3_head_0 (k := 7) rfl
theorem dX3_head_15 : decode cX3_head 15 = .ok (.dup, 1) := fd_get adX3_head_0 (k := 8) rfl
theorem dX3_head_16 : decode cX3_head 16 = .ok (.aload 4, 2) := fd_get adX3_head_0 (k := 9) rfl
theorem dX3_head_18 : decode cX3_head 18 = .ok (.sipush (-10000), 3) := fd_get adX3_head_0 (k := 10) rfl
theorem dX3_head_21 : decode cX3_head 21 = .ok (.iconst 0, 1) := fd_get adX3_head_0 (k := 11) rfl
theorem dX3_head_22 : decode cX3_head 22 = .ok (.iload_n 2, 1) := fd_get adX3_head_0 (k := 12) rfl
theorem dX3_head_23 : decode cX3_head 23 = .ok (.iload_n 3, 1) := fd_get adX3_head_0 (k := 13) rfl
theorem dX3_head_24 : decode cX3_head 24 = .ok (.invokespecial 144, 3) := fd_get adX3_head_0 (k := 14) rfl
theorem dX3_head_27 : decode cX3_head 27 = .ok (.invokevirtual 147, 3) := fd_get adX3_head_0 (k := 15) rfl
theorem dX3_head_30 : decode cX3_head 30 = .ok (.ireturn, 1) := fd_get adX3_head_1 (k := 0) rfl
theorem mwsX3_tail_0 : ∀ w ∈ wsX3_tail_r1, w ∈ wsX3_tail := fun w h => (List.mem_cons_of_mem _ (List.mem_append_left _ (List.mem_append_left _ (List.mem_append_left _ (List.mem_append_left _ (List.mem_append_left _ (List.mem_append_left _ (List.mem_append_left _ h))))))))
theorem mwsX3_tail_1 : ∀ w ∈ wsX3_tail_r2, w ∈ wsX3_tail := fun w h => (List.mem_cons_of_mem _ (List.mem_append_left _ (List.mem_append_left _ (List.mem_append_left _ (List.mem_append_left _ (List.mem_append_left _ (List.mem_append_left _ (List.mem_append_right _ h))))))))
theorem mwsX3_tail_2 : ∀ w ∈ wsX10, w ∈ wsX3_tail := fun w h => (List.mem_cons_of_mem _ (List.mem_append_left _ (List.mem_append_left _ (List.mem_append_left _ (List.mem_append_left _ (List.mem_append_left _ (List.mem_append_right _ h)))))))
theorem mwsX3_tail_3 : ∀ w ∈ wsX30, w ∈ wsX3_tail := fun w h => (List.mem_cons_of_mem _ (List.mem_append_left _ (List.mem_append_left _ (List.mem_append_left _ (List.mem_append_left _ (List.mem_append_right _ h))))))
theorem mwsX3_tail_4 : ∀ w ∈ wsX00, w ∈ wsX3_tail := fun w h => (List.mem_cons_of_mem _ (List.mem_append_left _ (List.mem_append_left _ (List.mem_append_left _ (List.mem_append_right _ h)))))
set_option maxRecDepth 20000 in
theorem ggX3_tail_X3_bookAt : GoodIn wsX3_tail wsX3_bookAt := goodIn_ca (goodIn_sub (tk_mem 4 _ (fun w h => (mwsX3_tail_0 _ (tkB_mem 7 4 h))) (tk_mem 6 _ (fun w h => (mwsX3_tail_3 _ (tkB_mem 0 6 h))) (fun _ h => absurd h List.not_mem_nil))) (by decide +kernel)) (goodIn_sub (fun _ h => List.mem_cons_of_mem _ (List.mem_append_left _ (List.mem_append_left _ (List.mem_append_right _ h)))) (by decide +kernel))
set_option maxRecDepth 20000 in
theorem gX3_tail_X3_bookAt : GoodIn wsX3_tail (wsV RX3 47 RX3 yX3_bookAt wsX3_bookAt) := goodIn_app (goodIn_sub (tk_mem 4 _ (fun w h => (mwsX3_tail_0 _ (tkB_mem 3 4 h))) (fun _ h => absurd h List.not_mem_nil)) (by decide +kernel)) ggX3_tail_X3_bookAt
set_option maxRecDepth 20000 in
theorem ggX3_tail_X3_checkKey : GoodIn wsX3_tail wsX3_checkKey := goodIn_ca (goodIn_sub (List.forall_mem_cons.mpr ⟨(mwsX3_tail_0 _ (List.mem_of_getElem? (i := 13) rfl)), (List.forall_mem_cons.mpr ⟨(mwsX3_tail_0 _ (List.mem_of_getElem? (i := 14) rfl)), (List.forall_mem_cons.mpr ⟨(mwsX3_tail_0 _ (List.mem_of_getElem? (i := 15) rfl)), (fun _ h => absurd h List.not_mem_nil)⟩)⟩)⟩) (by decide +kernel)) (goodIn_sub (fun _ h => List.mem_cons_of_mem _ (List.mem_append_left _ (List.mem_append_right _ h))) (by decide +kernel))
set_option maxRecDepth 20000 in
theorem gX3_tail_X3_checkKey : GoodIn wsX3_tail (va_wsS RX3 51 yX3_checkKey wsX3_checkKey) := goodIn_app (goodIn_sub (List.forall_mem_cons.mpr ⟨(mwsX3_tail_0 _ (List.mem_of_getElem? (i := 11) rfl)), (List.forall_mem_cons.mpr ⟨(mwsX3_tail_0 _ (List.mem_of_getElem? (i := 12) rfl)), (List.forall_mem_cons.mpr ⟨(mwsX3_tail_0 _ (List.mem_of_getElem? (i := 6) rfl)), (fun _ h => absurd h List.not_mem_nil)⟩)⟩)⟩) (by decide +kernel)) ggX3_tail_X3_checkKey
set_option maxRecDepth 20000 in
theorem ggX3_tail_X1_init : GoodIn wsX3_tail wsX1_init := goodIn_sub (tk_mem 6 _ (fun w h => (mwsX3_tail_0 _ (tkB_mem 18 6 h))) (tk_mem 15 _ (fun w h => (mwsX3_tail_1 _ (tkB_mem 0 15 h))) (tk_mem 7 _ (fun w h => (mwsX3_tail_2 _ (tkB_mem 0 7 h))) (tk_mem 7 _ (fun w h => (mwsX3_tail_4 _ (tkB_mem 0 7 h))) (fun _ h => absurd h List.not_mem_nil))))) (by decide +kernel)
set_option maxRecDepth 20000 in
theorem gX3_tail_X1_init : GoodIn wsX3_tail (wsX1_init) := ggX3_tail_X1_init
set_option maxRecDepth 20000 in
theorem ggX3_tail_X3_openView : GoodIn wsX3_tail wsX3_openView := goodIn_ca (goodIn_sub (tk_mem 4 _ (fun w h => (mwsX3_tail_1 _ (tkB_mem 18 4 h))) (tk_mem 6 _ (fun w h => (mwsX3_tail_3 _ (tkB_mem 0 6 h))) (fun _ h => absurd h List.not_mem_nil))) (by decide +kernel)) (goodIn_sub (fun _ h => List.mem_cons_of_mem _ (List.mem_append_right _ h)) (by decide +kernel))
set_option maxRecDepth 20000 in
theorem gX3_tail_X3_openView : GoodIn wsX3_tail (wsV RX3 147 RX3 yX3_openView wsX3_openView) := goodIn_app (goodIn_sub (List.forall_mem_cons.mpr ⟨(mwsX3_tail_1 _ (List.mem_of_getElem? (i := 15) rfl)), (List.forall_mem_cons.mpr ⟨(mwsX3_tail_1 _ (List.mem_of_getElem? (i := 16) rfl)), (List.forall_mem_cons.mpr ⟨(mwsX3_tail_1 _ (List.mem_of_getElem? (i := 17) rfl)), (List.forall_mem_cons.mpr ⟨(mwsX3_tail_0 _ (List.mem_of_getElem? (i := 6) rfl)), (fun _ h => absurd h List.not_mem_nil)⟩)⟩)⟩)⟩) (by decide +kernel)) ggX3_tail_X3_openView
theorem adX3_tail_0 : fd_rows (cX3_tail.data.toList.drop 0) 0 [(0, some (.aload_n 0), 1), (1, some (.iload_n 1), 1), (2, some (.invokevirtual 47), 3), (5, some (.astore 4), 2), (7, some (.iload_n 2), 1), (8, some (.invokestatic 51), 3), (11, some (.aload_n 0), 1), (12, some (.new 18), 3), (15, some (.dup), 1), (16, some (.aload 4), 2), (18, some (.iload_n 2), 1), (19, some (.iload_n 3), 1), (20, some (.sipush (-10000)), 3), (23, some (.iconst 0), 1), (24, some (.invokespecial 144), 3), (27, some (.invokevirtual 147), 3)] = true := by decide +kernel
theorem adX3_tail_1 : fd_rows (cX3_tail.data.toList.drop 30) 30 [(30, some (.ireturn), 1)] = true := by decide +kernel
theorem dX3_tail_0 : decode cX3_tail 0 = .ok (.aload_n 0, 1) := fd_get adX3_tail_0 (k := 0) rfl
theorem dX3_tail_1 : decode cX3_tail 1 = .ok (.iload_n 1, 1) := fd_get adX3_tail_0 (k := 1) rfl
theorem dX3_tail_2 : decode cX3_tail 2 = .ok (.invokevirtual 47, 3) := fd_get adX3_tail_0 (k := 2) rfl
theorem dX3_tail_5 : decode cX3_tail 5 = .ok (.astore 4, 2) := fd_get adX3_tail_0 (k := 3) rfl
theorem dX3_tail_7 : decode cX3_tail 7 = .ok (.iload_n 2, 1) := fd_get adX3_tail_0 (k := 4) rfl
theorem dX3_tail_8 : decode cX3_tail 8 = .ok (.invokestatic 51, 3) := fd_get adX3_tail_0 (k := 5) rfl
theorem dX3_tail_11 : decode cX3_tail 11 = .ok (.aload_n 0, 1) := fd_get adX3_tail_0 (k := 6) rfl
theorem dX3_tail_12 : decode cX3_tail 12 = .ok (.new 18, 3) := fd_get adX3_tail_0 (k := 7) rfl
theorem dX3_tail_15 : decode cX3_tail 15 = .ok (.dup, 1) := fd_get adX3_tail_0 (k := 8) rfl
theorem dX3_tail_16 : decode cX3_tail 16 = .ok (.aload 4, 2) := fd_get adX3_tail_0 (k := 9) rfl
theorem dX3_tail_18 : decode cX3_tail 18 = .ok (.iload_n 2, 1) := fd_get adX3_tail_0 (k := 10) rfl
theorem dX3_tail_19 : decode cX3_tail 19 = .ok (.iload_n 3, 1) := fd_get adX3_tail_0 (k := 11) rfl
theorem dX3_tail_20 : decode cX3_tail 20 = .ok (.sipush (-10000), 3) := fd_get adX3_tail_0 (k := 12) rfl
theorem dX3_tail_23 : decode cX3_tail 23 = .ok (.iconst 0, 1) := fd_get adX3_tail_0 (k := 13) rfl
theorem dX3_tail_24 : decode cX3_tail 24 = .ok (.invokespecial 144, 3) := fd_get adX3_tail_0 (k := 14) rfl
theorem dX3_tail_27 : decode cX3_tail 27 = .ok (.invokevirtual 147, 3) := fd_get adX3_tail_0 (k := 15) rfl
theorem dX3_tail_30 : decode cX3_tail 30 = .ok (.ireturn, 1) := fd_get adX3_tail_1 (k := 0) rfl
theorem mwsX3_sub_0 : ∀ w ∈ wsX3_sub_r1, w ∈ wsX3_sub := fun w h => (List.mem_cons_of_mem _ (List.mem_append_left _ (List.mem_append_left _ (List.mem_append_left _ (List.mem_append_left _ (List.mem_append_left _ (List.mem_append_left _ (List.mem_append_left _ h))))))))
theorem mwsX3_sub_1 : ∀ w ∈ wsX3_sub_r2, w ∈ wsX3_sub := fun w h => (List.mem_cons_of_mem _ (List.mem_append_left _ (List.mem_append_left _ (List.mem_append_left _ (List.mem_append_left _ (List.mem_append_left _ (List.mem_append_left _ (List.mem_append_right _ (List.mem_append_left _ h)))))))))
theorem mwsX3_sub_2 : ∀ w ∈ wsX3_sub_r3, w ∈ wsX3_sub := fun w h => (List.mem_cons_of_mem _ (List.mem_append_left _ (List.mem_append_left _ (List.mem_append_left _ (List.mem_append_left _ (List.mem_append_left _ (List.mem_append_left _ (List.mem_append_right _ (List.mem_append_right _ h)))))))))
theorem mwsX3_sub_3 : ∀ w ∈ wsX10, w ∈ wsX3_sub := fun w h => (List.mem_cons_of_mem _ (List.mem_append_left _ (List.mem_append_left _ (List.mem_append_left _ (List.mem_append_left _ (List.mem_append_left _ (List.mem_append_right _ h)))))))
theorem mwsX3_sub_4 : ∀ w ∈ wsX30, w ∈ wsX3_sub := fun w h => (List.mem_cons_of_mem _ (List.mem_append_left _ (List.mem_append_left _ (List.mem_append_left _ (List.mem_append_left _ (List.mem_append_right _ h))))))
theorem mwsX3_sub_5 : ∀ w ∈ wsX00, w ∈ wsX3_sub := fun w h => (List.mem_cons_of_mem _ (List.mem_append_left _ (List.mem_append_left _ (List.mem_append_left _ (List.mem_append_right _ h)))))
set_option maxRecDepth 20000 in
theorem ggX3_sub_X3_bookAt : GoodIn wsX3_sub wsX3_bookAt := goodIn_ca (goodIn_sub (tk_mem 4 _ (fun w h => (mwsX3_sub_0 _ (tkB_mem 7 4 h))) (tk_mem 6 _ (fun w h => (mwsX3_sub_4 _ (tkB_mem 0 6 h))) (fun _ h => absurd h List.not_mem_nil))) (by decide +kernel)) (goodIn_sub (fun _ h => List.mem_cons_of_mem _ (List.mem_append_left _ (List.mem_append_left _ (List.mem_append_right _ h)))) (by decide +kernel))
set_option maxRecDepth 20000 in
theorem gX3_sub_X3_bookAt : GoodIn wsX3_sub (wsV RX3 47 RX3 yX3_bookAt wsX3_bookAt) := goodIn_app (goodIn_sub (tk_mem 4 _ (fun w h => (mwsX3_sub_0 _ (tkB_mem 3 4 h))) (fun _ h => absurd h List.not_mem_nil)) (by decide +kernel)) ggX3_sub_X3_bookAt
set_option maxRecDepth 20000 in
theorem ggX3_sub_X3_checkKey : GoodIn wsX3_sub wsX3_checkKey := goodIn_ca (goodIn_sub (List.forall_mem_cons.mpr ⟨(mwsX3_sub_0 _ (List.mem_of_getElem? (i := 13) rfl)), (List.forall_mem_cons.mpr ⟨(mwsX3_sub_0 _ (List.mem_of_getElem? (i := 14) rfl)), (List.forall_mem_cons.mpr ⟨(mwsX3_sub_0 _ (List.mem_of_getElem? (i := 15) rfl)), (fun _ h => absurd h List.not_mem_nil)⟩)⟩)⟩) (by decide +kernel)) (goodIn_sub (fun _ h => List.mem_cons_of_mem _ (List.mem_append_left _ (List.mem_append_right _ h))) (by decide +kernel))
set_option maxRecDepth 20000 in
theorem gX3_sub_X3_checkKey : GoodIn wsX3_sub (va_wsS RX3 51 yX3_checkKey wsX3_checkKey) := goodIn_app (goodIn_sub (List.forall_mem_cons.mpr ⟨(mwsX3_sub_0 _ (List.mem_of_getElem? (i := 11) rfl)), (List.forall_mem_cons.mpr ⟨(mwsX3_sub_0 _ (List.mem_of_getElem? (i := 12) rfl)), (List.forall_mem_cons.mpr ⟨(mwsX3_sub_0 _ (List.mem_of_getElem? (i := 6) rfl)), (fun _ h => absurd h List.not_mem_nil)⟩)⟩)⟩) (by decide +kernel)) ggX3_sub_X3_checkKey
set_option maxRecDepth 20000 in
theorem ggX3_sub_X3_checkViewIsFree : GoodIn wsX3_sub wsX3_checkViewIsFree := goodIn_ca (goodIn_sub (tk_mem 5 _ (fun w h => (mwsX3_sub_0 _ (tkB_mem 19 5 h))) (List.forall_mem_cons.mpr ⟨(mwsX3_sub_1 _ (List.mem_of_getElem? (i := 0) rfl)), (List.forall_mem_cons.mpr ⟨(mwsX3_sub_1 _ (List.mem_of_getElem? (i := 1) rfl)), (List.forall_mem_cons.mpr ⟨(mwsX3_sub_0 _ (List.mem_of_getElem? (i := 6) rfl)), (List.forall_mem_cons.mpr ⟨(mwsX3_sub_1 _ (List.mem_of_getElem? (i := 2) rfl)), (tk_mem 6 _ (fun w h => (mwsX3_sub_4 _ (tkB_mem 0 6 h))) (fun _ h => absurd h List.not_mem_nil))⟩)⟩)⟩)⟩)) (by decide +kernel)) (goodIn_sub (fun _ h => List.mem_cons_of_mem _ (List.mem_append_right _ h)) (by decide +kernel))
set_option maxRecDepth 20000 in
theorem gX3_sub_X3_checkViewIsFree : GoodIn wsX3_sub (wsV RX3 151 RX3 yX3_checkViewIsFree wsX3_checkViewIsFree) := goodIn_app (goodIn_sub (List.forall_mem_cons.mpr ⟨(mwsX3_sub_0 _ (List.mem_of_getElem? (i := 16) rfl)), (List.forall_mem_cons.mpr ⟨(mwsX3_sub_0 _ (List.mem_of_getElem? (i := 17) rfl)), (List.forall_mem_cons.mpr ⟨(mwsX3_sub_0 _ (List.mem_of_getElem? (i := 18) rfl)), (List.forall_mem_cons.mpr ⟨(mwsX3_sub_0 _ (List.mem_of_getElem? (i := 6) rfl)), (fun _ h => absurd h List.not_mem_nil)⟩)⟩)⟩)⟩) (by decide +kernel)) ggX3_sub_X3_checkViewIsFree
set_option maxRecDepth 20000 in
theorem ggX3_sub_X0_isAhead : GoodIn wsX3_sub wsX0_isAhead := goodIn_sub (tk_mem 4 _ (fun w h => (mwsX3_sub_1 _ (tkB_mem 7 4 h))) (List.forall_mem_cons.mpr ⟨(mwsX3_sub_1 _ (List.mem_of_getElem? (i := 6) rfl)), (List.forall_mem_cons.mpr ⟨(mwsX3_sub_1 _ (List.mem_of_getElem? (i := 11) rfl)), (List.forall_mem_cons.mpr ⟨(mwsX3_sub_1 _ (List.mem_of_getElem? (i := 12) rfl)), (tk_mem 7 _ (fun w h => (mwsX3_sub_5 _ (tkB_mem 0 7 h))) (fun _ h => absurd h List.not_mem_nil))⟩)⟩)⟩)) (by decide +kernel)
set_option maxRecDepth 20000 in
theorem gX3_sub_X0_isAhead : GoodIn wsX3_sub (wsV RX3 154 RX0 yX0_isAhead wsX0_isAhead) := goodIn_app (goodIn_sub (tk_mem 4 _ (fun w h => (mwsX3_sub_1 _ (tkB_mem 3 4 h))) (fun _ h => absurd h List.not_mem_nil)) (by decide +kernel)) ggX3_sub_X0_isAhead
set_option maxRecDepth 20000 in
theorem ggX3_sub_X1_init : GoodIn wsX3_sub wsX1_init := goodIn_sub (tk_mem 9 _ (fun w h => (mwsX3_sub_1 _ (tkB_mem 15 9 h))) (tk_mem 7 _ (fun w h => (mwsX3_sub_2 _ (tkB_mem 0 7 h))) (List.forall_mem_cons.mpr ⟨(mwsX3_sub_1 _ (List.mem_of_getElem? (i := 9) rfl)), (List.forall_mem_cons.mpr ⟨(mwsX3_sub_1 _ (List.mem_of_getElem? (i := 10) rfl)), (List.forall_mem_cons.mpr ⟨(mwsX3_sub_1 _ (List.mem_of_getElem? (i := 6) rfl)), (List.forall_mem_cons.mpr ⟨(mwsX3_sub_1 _ (List.mem_of_getElem? (i := 11) rfl)), (List.forall_mem_cons.mpr ⟨(mwsX3_sub_1 _ (List.mem_of_getElem? (i := 12) rfl)), (tk_mem 7 _ (fun w h => (mwsX3_sub_3 _ (tkB_mem 0 7 h))) (tk_mem 7 _ (fun w h => (mwsX3_sub_5 _ (tkB_mem 0 7 h))) (fun _ h => absurd h List.not_mem_nil)))⟩)⟩)⟩)⟩)⟩))) (by decide +kernel)
set_option maxRecDepth 20000 in
theorem gX3_sub_X1_init : GoodIn wsX3_sub (wsX1_init) := ggX3_sub_X1_init
set_option maxRecDepth 20000 in
theorem ggX3_sub_X3_openView : GoodIn wsX3_sub wsX3_openView := goodIn_ca (goodIn_sub (List.forall_mem_cons.mpr ⟨(mwsX3_sub_2 _ (List.mem_of_getElem? (i := 10) rfl)), (List.forall_mem_cons.mpr ⟨(mwsX3_sub_0 _ (List.mem_of_getElem? (i := 20) rfl)), (List.forall_mem_cons.mpr ⟨(mwsX3_sub_0 _ (List.mem_of_getElem? (i := 21) rfl)), (List.forall_mem_cons.mpr ⟨(mwsX3_sub_0 _ (List.mem_of_getElem? (i := 22) rfl)), (tk_mem 6 _ (fun w h => (mwsX3_sub_4 _ (tkB_mem 0 6 h))) (fun _ h => absurd h List.not_mem_nil))⟩)⟩)⟩)⟩) (by decide +kernel)) (goodIn_sub (fun _ h => List.mem_cons_of_mem _ (List.mem_append_right _ h)) (by decide +kernel))
set_option maxRecDepth 20000 in
theorem gX3_sub_X3_openView : GoodIn wsX3_sub (wsV RX3 147 RX3 yX3_openView wsX3_openView) := goodIn_app (goodIn_sub (List.forall_mem_cons.mpr ⟨(mwsX3_sub_2 _ (List.mem_of_getElem? (i := 7) rfl)), (List.forall_mem_cons.mpr ⟨(mwsX3_sub_2 _ (List.mem_of_getElem? (i := 8) rfl)), (List.forall_mem_cons.mpr ⟨(mwsX3_sub_2 _ (List.mem_of_getElem? (i := 9) rfl)), (List.forall_mem_cons.mpr ⟨(mwsX3_sub_0 _ (List.mem_of_getElem? (i := 6) rfl)), (fun _ h => absurd h List.not_mem_nil)⟩)⟩)⟩)⟩) (by decide +kernel)) ggX3_sub_X3_openView
theorem adX3_sub_0 : fd_rows (cX3_sub.data.toList.drop 0) 0 [(0, some (.aload_n 0), 1), (1, some (.iload_n 1), 1), (2, some (.invokevirtual 47), 3), (5, some (.astore 6), 2), (7, some (.iload_n 2), 1), (8, some (.invokestatic 51), 3), (11, some (.iload 4), 2), (13, some (.invokestatic 51), 3), (16, some (.aload_n 0), 1), (17, some (.invokevirtual 151), 3), (20, some (.aload 6), 2), (22, some (.iload 4), 2), (24, some (.iload_n 2), 1), (25, some (.invokevirtual 154), 3), (28, some (.ifCond .eq 7), 3), (31, some (.sipush (-20000)), 3)] = true := by decide +kernel
theorem adX3_sub_1 : fd_rows (cX3_sub.data.toList.drop 34) 34 [(34, some (.ireturn), 1), (35, some (.aload_n 0), 1), (36, some (.new 18), 3), (39, some (.dup), 1), (40, some (.aload 6), 2), (42, some (.iload_n 2), 1), (43, some (.iload_n 3), 1), (44, some (.iload 4), 2), (46, some (.iload 5), 2), (48, some (.invokespecial 144), 3), (51, some (.invokevirtual 147), 3), (54, some (.ireturn), 1)] = true := by decide +kernel
theorem dX3_sub_0 : decode cX3_sub 0 = .ok (.aload_n 0, 1) := fd_get adX3_sub_0 (k := 0) rfl
theorem dX3_sub_1 : decode cX3_sub 1 = .ok (.iload_n 1, 1) := fd_get adX3_sub_0 (k := 1) rfl
theorem dX3_sub_2 : decode cX3_sub 2 = .ok (.invokevirtual 47, 3) := fd_get adX3_sub_0 (k := 2) rfl
theorem dX3_sub_5 : decode cX3_sub 5 = .ok (.astore 6, 2) := fd_get adX3_sub_0 (k := 3) rfl
theorem dX3_sub_7 : decode cX3_sub 7 = .ok (.iload_n 2, 1) := fd_get adX3_sub_0 (k := 4) rfl
theorem dX3_sub_8 : decode cX3_sub 8 = .ok (.invokestatic 51, 3) := fd_get adX3_sub_0 (k := 5) rfl
theorem dX3_sub_11 : decode cX3_sub 11 = .ok (.iload 4, 2) := fd_get adX3_sub_0 (k := 6) rfl
theorem dX3_sub_13 : decode cX3_sub 13 = .ok (.invokestatic 51, 3) := fd_get adX3_sub_0 (k := 7) rfl
theorem dX3_sub_16 : decode cX3_sub 16 = .ok (.aload_n 0, 1) := fd_get adX3_sub_0 (k := 8) rfl
theorem dX3_sub_17 : decode cX3_sub 17 = .ok (.invokevirtual 151, 3) := fd_get adX3_sub_0 (k := 9) rfl
theorem dX3_sub_20 : decode cX3_sub 20 = .ok (.aload 6, 2) := fd_get adX3_sub_0 (k := 10) rfl
theorem dX3_sub_22 : decode cX3_sub 22 = .ok (.iload 4, 2) := fd_get adX3_sub_0 (k := 11) rfl
theorem dX3_sub_24 : decode cX3_sub 24 = .ok (.iload_n 2, 1) := fd_get adX3_sub_0 (k := 12) rfl
theorem dX3_sub_25 : decode cX3_sub 25 = .ok (.invokevirtual 154, 3) := fd_get adX3_sub_0 (k := 13) rfl
theorem dX3_sub_28 : decode cX3_sub 28 = .ok (.ifCond .eq 7, 3) := fd_get adX3_sub_0 (k := 14) rfl
theorem dX3_sub_31 : decode cX3_sub 31 = .ok (.sipush (-20000), 3) := fd_get adX3_sub_0 (k := 15) rfl
theorem dX3_sub_34 : decode cX3_sub 34 = .ok (.ireturn, 1) := fd_get adX3_sub_1 (k := 0) rfl
theorem dX3_sub_35 : decode cX3_sub 35 = .ok (.aload_n 0, 1) := fd_get adX3_sub_1 (k := 1) rfl
theorem dX3_sub_36 : decode cX3_sub 36 = .ok (.new 18, 3) := fd_get adX3_sub_1 (k := 2) rfl
theorem dX3_sub_39 : decode cX3_sub 39 = .ok (.dup, 1) := fd_get adX3_sub_1 (k := 3) rfl
theorem dX3_sub_40 : decode cX3_sub 40 = .ok (.aload 6, 2) := fd_get adX3_sub_1 (k := 4) rfl
theorem dX3_sub_42 : decode cX3_sub 42 = .ok (.iload_n 2, 1) := fd_get adX3_sub_1 (k := 5) rfl
theorem dX3_sub_43 : decode cX3_sub 43 = .ok (.iload_n 3, 1) := fd_get adX3_sub_1 (k := 6) rfl
theorem dX3_sub_44 : decode cX3_sub 44 = .ok (.iload 4, 2) := fd_get adX3_sub_1 (k := 7) rfl
theorem dX3_sub_46 : decode cX3_sub 46 = .ok (.iload 5, 2) := fd_get adX3_sub_1 (k := 8) rfl
theorem dX3_sub_48 : decode cX3_sub 48 = .ok (.invokespecial 144, 3) := fd_get adX3_sub_1 (k := 9) rfl
theorem dX3_sub_51 : decode cX3_sub 51 = .ok (.invokevirtual 147, 3) := fd_get adX3_sub_1 (k := 10) rfl
theorem dX3_sub_54 : decode cX3_sub 54 = .ok (.ireturn, 1) := fd_get adX3_sub_1 (k := 11) rfl
theorem mwsX3_part_0 : ∀ w ∈ wsX3_part_r1, w ∈ wsX3_part := fun w h => (List.mem_cons_of_mem _ (List.mem_append_left _ (List.mem_append_left _ (List.mem_append_left _ (List.mem_append_left _ (List.mem_append_left _ (List.mem_append_left _ (List.mem_append_left _ h))))))))
theorem mwsX3_part_1 : ∀ w ∈ wsX3_part_r2, w ∈ wsX3_part := fun w h => (List.mem_cons_of_mem _ (List.mem_append_left _ (List.mem_append_left _ (List.mem_append_left _ (List.mem_append_left _ (List.mem_append_left _ (List.mem_append_left _ (List.mem_append_right _ (List.mem_append_left _ h)))))))))
theorem mwsX3_part_2 : ∀ w ∈ wsX3_part_r3, w ∈ wsX3_part := fun w h => (List.mem_cons_of_mem _ (List.mem_append_left _ (List.mem_append_left _ (List.mem_append_left _ (List.mem_append_left _ (List.mem_append_left _ (List.mem_append_left _ (List.mem_append_right _ (List.mem_append_right _ h)))))))))
theorem mwsX3_part_3 : ∀ w ∈ wsX10, w ∈ wsX3_part := fun w h => (List.mem_cons_of_mem _ (List.mem_append_left _ (List.mem_append_left _ (List.mem_append_left _ (List.mem_append_left _ (List.mem_append_left _ (List.mem_append_right _ h)))))))
theorem mwsX3_part_4 : ∀ w ∈ wsX30, w ∈ wsX3_part := fun w h => (List.mem_cons_of_mem _ (List.mem_append_left _ (List.mem_append_left _ (List.mem_append_left _ (List.mem_append_left _ (List.mem_append_right _ h))))))
theorem mwsX3_part_5 : ∀ w ∈ wsX00, w ∈ wsX3_part := fun w h => (List.mem_cons_of_mem _ (List.mem_append_left _ (List.mem_append_left _ (List.mem_append_left _ (List.mem_append_right _ h)))))
set_option maxRecDepth 20000 in
theorem ggX3_part_X3_viewAt : GoodIn wsX3_part wsX3_viewAt := goodIn_ca (goodIn_sub (tk_mem 4 _ (fun w h => (mwsX3_part_0 _ (tkB_mem 7 4 h))) (tk_mem 6 _ (fun w h => (mwsX3_part_4 _ (tkB_mem 0 6 h))) (fun _ h => absurd h List.not_mem_nil))) (by decide +kernel)) (goodIn_sub (fun _ h => List.mem_cons_of_mem _ (List.mem_append_left _ (List.mem_append_left _ (List.mem_append_right _ h)))) (by decide +kernel))
set_option maxRecDepth 20000 in
theorem gX3_part_X3_viewAt : GoodIn wsX3_part (wsV RX3 158 RX3 yX3_viewAt wsX3_viewAt) := goodIn_app (goodIn_sub (tk_mem 4 _ (fun w h => (mwsX3_part_0 _ (tkB_mem 3 4 h))) (fun _ h => absurd h List.not_mem_nil)) (by decide +kernel)) ggX3_part_X3_viewAt
set_option maxRecDepth 20000 in
theorem ggX3_part_X3_checkKey : GoodIn wsX3_part wsX3_checkKey := goodIn_ca (goodIn_sub (List.forall_mem_cons.mpr ⟨(mwsX3_part_0 _ (List.mem_of_getElem? (i := 13) rfl)), (List.forall_mem_cons.mpr ⟨(mwsX3_part_0 _ (List.mem_of_getElem? (i := 14) rfl)), (List.forall_mem_cons.mpr ⟨(mwsX3_part_0 _ (List.mem_of_getElem? (i := 15) rfl)), (fun _ h => absurd h List.not_mem_nil)⟩)⟩)⟩) (by decide +kernel)) (goodIn_sub (fun _ h => List.mem_cons_of_mem _ (List.mem_append_left _ (List.mem_append_right _ h))) (by decide +kernel))
set_option maxRecDepth 20000 in
theorem gX3_part_X3_checkKey : GoodIn wsX3_part (va_wsS RX3 51 yX3_checkKey wsX3_checkKey) := goodIn_app (goodIn_sub (List.forall_mem_cons.mpr ⟨(mwsX3_part_0 _ (List.mem_of_getElem? (i := 11) rfl)), (List.forall_mem_cons.mpr ⟨(mwsX3_part_0 _ (List.mem_of_getElem? (i := 12) rfl)), (List.forall_mem_cons.mpr ⟨(mwsX3_part_0 _ (List.mem_of_getElem? (i := 6) rfl)), (fun _ h => absurd h List.not_mem_nil)⟩)⟩)⟩) (by decide +kernel)) ggX3_part_X3_checkKey
set_option maxRecDepth 20000 in
theorem ggX3_part_X3_checkViewIsFree : GoodIn wsX3_part wsX3_checkViewIsFree := goodIn_ca (goodIn_sub (List.forall_mem_cons.mpr ⟨(mwsX3_part_0 _ (List.mem_of_getElem? (i := 19) rfl)), (List.forall_mem_cons.mpr ⟨(mwsX3_part_0 _ (List.mem_of_getElem? (i := 20) rfl)), (List.forall_mem_cons.mpr ⟨(mwsX3_part_0 _ (List.mem_of_getElem? (i := 21) rfl)), (List.forall_mem_cons.mpr ⟨(mwsX3_part_0 _ (List.mem_of_getElem? (i := 10) rfl)), (List.forall_mem_cons.mpr ⟨(mwsX3_part_0 _ (List.mem_of_getElem? (i := 22) rfl)), (List.forall_mem_cons.mpr ⟨(mwsX3_part_0 _ (List.mem_of_getElem? (i := 23) rfl)), (List.forall_mem_cons.mpr ⟨(mwsX3_part_1 _ (List.mem_of_getElem? (i := 0) rfl)), (List.forall_mem_cons.mpr ⟨(mwsX3_part_0 _ (List.mem_of_getElem? (i := 6) rfl)), (List.forall_mem_cons.mpr ⟨(mwsX3_part_1 _ (List.mem_of_getElem? (i := 1) rfl)), (tk_mem 6 _ (fun w h => (mwsX3_part_4 _ (tkB_mem 0 6 h))) (fun _ h => absurd h List.not_mem_nil))⟩)⟩)⟩)⟩)⟩)⟩)⟩)⟩)⟩) (by decide +kernel)) (goodIn_sub (fun _ h => List.mem_cons_of_mem _ (List.mem_append_right _ h)) (by decide +kernel))
set_option maxRecDepth 20000 in
theorem gX3_part_X3_checkViewIsFree : GoodIn wsX3_part (wsV RX3 151 RX3 yX3_checkViewIsFree wsX3_checkViewIsFree) := goodIn_app (goodIn_sub (List.forall_mem_cons.mpr ⟨(mwsX3_part_0 _ (List.mem_of_getElem? (i := 16) rfl)), (List.forall_mem_cons.mpr ⟨(mwsX3_part_0 _ (List.mem_of_getElem? (i := 17) rfl)), (List.forall_mem_cons.mpr ⟨(mwsX3_part_0 _ (List.mem_of_getElem? (i := 18) rfl)), (List.forall_mem_cons.mpr ⟨(mwsX3_part_0 _ (List.mem_of_getElem? (i := 6) rfl)), (fun _ h => absurd h List.not_mem_nil)⟩)⟩)⟩)⟩) (by decide +kernel)) ggX3_part_X3_checkViewIsFree
set_option maxRecDepth 20000 in
theorem ggX3_part_X1_isWithin : GoodIn wsX3_part wsX1_isWithin := goodIn_sub (tk_mem 10 _ (fun w h => (mwsX3_part_1 _ (tkB_mem 5 10 h))) (tk_mem 7 _ (fun w h => (mwsX3_part_3 _ (tkB_mem 0 7 h))) (tk_mem 7 _ (fun w h => (mwsX3_part_5 _ (tkB_mem 0 7 h))) (fun _ h => absurd h List.not_mem_nil)))) (by decide +kernel)
set_option maxRecDepth 20000 in
theorem gX3_part_X1_isWithin : GoodIn wsX3_part (wsV RX3 162 RX1 yX1_isWithin wsX1_isWithin) := goodIn_app (goodIn_sub (List.forall_mem_cons.mpr ⟨(mwsX3_part_1 _ (List.mem_of_getElem? (i := 2) rfl)), (List.forall_mem_cons.mpr ⟨(mwsX3_part_1 _ (List.mem_of_getElem? (i := 3) rfl)), (List.forall_mem_cons.mpr ⟨(mwsX3_part_1 _ (List.mem_of_getElem? (i := 4) rfl)), (List.forall_mem_cons.mpr ⟨(mwsX3_part_0 _ (List.mem_of_getElem? (i := 2) rfl)), (fun _ h => absurd h List.not_mem_nil)⟩)⟩)⟩)⟩) (by decide +kernel)) ggX3_part_X1_isWithin
set_option maxRecDepth 20000 in
theorem ggX3_part_X1_book : GoodIn wsX3_part wsX1_book := goodIn_sub (List.forall_mem_cons.mpr ⟨(mwsX3_part_1 _ (List.mem_of_getElem? (i := 18) rfl)), (List.forall_mem_cons.mpr ⟨(mwsX3_part_1 _ (List.mem_of_getElem? (i := 6) rfl)), (tk_mem 7 _ (fun w h => (mwsX3_part_3 _ (tkB_mem 0 7 h))) (fun _ h => absurd h List.not_mem_nil))⟩)⟩) (by decide +kernel)
set_option maxRecDepth 20000 in
theorem gX3_part_X1_book : GoodIn wsX3_part (wsV RX3 165 RX1 yX1_book wsX1_book) := goodIn_app (goodIn_sub (List.forall_mem_cons.mpr ⟨(mwsX3_part_1 _ (List.mem_of_getElem? (i := 15) rfl)), (List.forall_mem_cons.mpr ⟨(mwsX3_part_1 _ (List.mem_of_getElem? (i := 16) rfl)), (List.forall_mem_cons.mpr ⟨(mwsX3_part_1 _ (List.mem_of_getElem? (i := 17) rfl)), (List.forall_mem_cons.mpr ⟨(mwsX3_part_0 _ (List.mem_of_getElem? (i := 2) rfl)), (fun _ h => absurd h List.not_mem_nil)⟩)⟩)⟩)⟩) (by decide +kernel)) ggX3_part_X1_book
set_option maxRecDepth 20000 in
theorem ggX3_part_X0_isAhead : GoodIn wsX3_part wsX0_isAhead := goodIn_sub (List.forall_mem_cons.mpr ⟨(mwsX3_part_1 _ (List.mem_of_getElem? (i := 22) rfl)), (List.forall_mem_cons.mpr ⟨(mwsX3_part_1 _ (List.mem_of_getElem? (i := 23) rfl)), (tk_mem 5 _ (fun w h => (mwsX3_part_1 _ (tkB_mem 10 5 h))) (tk_mem 7 _ (fun w h => (mwsX3_part_5 _ (tkB_mem 0 7 h))) (fun _ h => absurd h List.not_mem_nil)))⟩)⟩) (by decide +kernel)
set_option maxRecDepth 20000 in
theorem gX3_part_X0_isAhead : GoodIn wsX3_part (wsV RX3 154 RX0 yX0_isAhead wsX0_isAhead) := goodIn_app (goodIn_sub (List.forall_mem_cons.mpr ⟨(mwsX3_part_1 _ (List.mem_of_getElem? (i := 19) rfl)), (List.forall_mem_cons.mpr ⟨(mwsX3_part_1 _ (List.mem_of_getElem? (i := 20) rfl)), (List.forall_mem_cons.mpr ⟨(mwsX3_part_1 _ (List.mem_of_getElem? (i := 21) rfl)), (List.forall_mem_cons.mpr ⟨(mwsX3_part_1 _ (List.mem_of_getElem? (i := 12) rfl)), (fun _ h => absurd h List.not_mem_nil)⟩)⟩)⟩)⟩) (by decide +kernel)) ggX3_part_X0_isAhead
set_option maxRecDepth 20000 in
theorem ggX3_part_X1_init : GoodIn wsX3_part wsX1_init := goodIn_sub (tk_mem 4 _ (fun w h => (mwsX3_part_2 _ (tkB_mem 2 4 h))) (List.forall_mem_cons.mpr ⟨(mwsX3_part_1 _ (List.mem_of_getElem? (i := 6) rfl)), (tk_mem 4 _ (fun w h => (mwsX3_part_2 _ (tkB_mem 6 4 h))) (List.forall_mem_cons.mpr ⟨(mwsX3_part_1 _ (List.mem_of_getElem? (i := 7) rfl)), (tk_mem 4 _ (fun w h => (mwsX3_part_2 _ (tkB_mem 10 4 h))) (tk_mem 7 _ (fun w h => (mwsX3_part_1 _ (tkB_mem 8 7 h))) (tk_mem 7 _ (fun w h => (mwsX3_part_3 _ (tkB_mem 0 7 h))) (tk_mem 7 _ (fun w h => (mwsX3_part_5 _ (tkB_mem 0 7 h))) (fun _ h => absurd h List.not_mem_nil)))))⟩))⟩)) (by decide +kernel)
set_option maxRecDepth 20000 in
theorem gX3_part_X1_init : GoodIn wsX3_part (wsX1_init) := ggX3_part_X1_init
set_option maxRecDepth 20000 in
theorem ggX3_part_X3_openView : GoodIn wsX3_part wsX3_openView := goodIn_ca (goodIn_sub (List.forall_mem_cons.mpr ⟨(mwsX3_part_2 _ (List.mem_of_getElem? (i := 17) rfl)), (List.forall_mem_cons.mpr ⟨(mwsX3_part_0 _ (List.mem_of_getElem? (i := 20) rfl)), (List.forall_mem_cons.mpr ⟨(mwsX3_part_0 _ (List.mem_of_getElem? (i := 21) rfl)), (List.forall_mem_cons.mpr ⟨(mwsX3_part_0 _ (List.mem_of_getElem? (i := 10) rfl)), (tk_mem 6 _ (fun w h => (mwsX3_part_4 _ (tkB_mem 0 6 h))) (fun _ h => absurd h List.not_mem_nil))⟩)⟩)⟩)⟩) (by decide +kernel)) (goodIn_sub (fun _ h => List.mem_cons_of_mem _ (List.mem_append_right _ h)) (by decide +kernel))
set_option maxRecDepth 20000 in
theorem gX3_part_X3_openView : GoodIn wsX3_part (wsV RX3 147 RX3 yX3_openView wsX3_openView) := goodIn_app (goodIn_sub (List.forall_mem_cons.mpr ⟨(mwsX3_part_2 _ (List.mem_of_getElem? (i := 14) rfl)), (List.forall_mem_cons.mpr ⟨(mwsX3_part_2 _ (List.mem_of_getElem? (i := 15) rfl)), (List.forall_mem_cons.mpr ⟨(mwsX3_part_2 _ (List.mem_of_getElem? (i := 16) rfl)), (List.forall_mem_cons.mpr ⟨(mwsX3_part_0 _ (List.mem_of_getElem? (i := 6) rfl)), (fun _ h => absurd h List.not_mem_nil)⟩)⟩)⟩)⟩) (by decide +kernel)) ggX3_part_X3_openView
theorem adX3_part_0 : fd_rows (cX3_part.data.toList.drop 0) 0 [(0, some (.aload_n 0), 1), (1, some (.iload_n 1), 1), (2, some (.invokevirtual 158), 3), (5, some (.astore 6), 2), (7, some (.iload_n 2), 1), (8, some (.invokestatic 51), 3), (11, some (.iload 4), 2), (13, some (.invokestatic 51), 3), (16, some (.aload_n 0), 1), (17, some (.invokevirtual 151), 3), (20, some (.aload 6), 2), (22, some (.iload_n 2), 1), (23, some (.invokevirtual 162), 3), (26, some (.ifCond .eq 27), 3), (29, some (.aload 6), 2), (31, some (.iload 4), 2)] = true := by decide +kernel
theorem adX3_part_1 : fd_rows (cX3_part.data.toList.drop 33) 33 [(33, some (.invokevirtual 162), 3), (36, some (.ifCond .eq 17), 3), (39, some (.aload 6), 2), (41, some (.invokevirtual 165), 3), (44, some (.iload 4), 2), (46, some (.iload_n 2), 1), (47, some (.invokevirtual 154), 3), (50, some (.ifCond .eq 7), 3), (53, some (.sipush (-20000)), 3), (56, some (.ireturn), 1), (57, some (.aload_n 0), 1), (58, some (.new 18), 3), (61, some (.dup), 1), (62, some (.aload 6), 2), (64, some (.invokevirtual 165), 3), (67, some (.iload_n 2), 1)] = true := by decide +kernel
theorem adX3_part_2 : fd_rows (cX3_part.data.toList.drop 68) 68 [(68, some (.iload_n 3), 1), (69, some (.iload 4), 2), (71, some (.iload 5), 2), (73, some (.invokespecial 144), 3), (76, some (.invokevirtual 147), 3), (79, some (.ireturn), 1)] = true := by decide +kernel
theorem dX3_part_0 : decode cX3_part 0 = .ok (.aload_n 0, 1) := fd_get adX3_part_0 (k := 0) rfl
theorem dX3_part_1 : decode cX3_part 1 = .ok (.iload_n 1, 1) := fd_get adX3_part_0 (k := 1) rfl
theorem dX3_part_2 : decode cX3_part 2 = .ok (.invokevirtual 158, 3) := fd_get adX3_part_0 (k := 2) rfl
theorem dX3_part_5 : decode cX3_part 5 = .ok (.astore 6, 2) := fd_get adX3_part_0 (k := 3) rfl
theorem dX3_part_7 : decode cX3_part 7 = .ok (.iload_n 2, 1) := fd_get adX3_part_0 (k := 4) rfl
theorem dX3_part_8 : decode cX3_part 8 = .ok (.invokestatic 51, 3) := fd_get adX3_part_0 (k := 5) rfl
theorem dX3_part_11 : decode cX3_part 11 = .ok (.iload 4, 2) := fd_get adX3_part_0 (k := 6) rfl
theorem dX3_part_13 : decode cX3_part 13 = .ok (.invokestatic 51, 3) := fd_get adX3_part_0 (k := 7) rfl
theorem dX3_part_16 : decode cX3_part 16 = .ok (.aload_n 0, 1) := fd_get adX3_part_0 (k := 8) rfl
theorem dX3_part_17 : decode cX3_part 17 = .ok (.invokevirtual 151, 3) := fd_get adX3_part_0 (k := 9) rfl
theorem dX3_part_20 : decode cX3_part 20 = .ok (.aload 6, 2) := fd_get adX3_part_0 (k := 10) rfl
theorem dX3_part_22 : decode cX3_part 22 = .ok (.iload_n 2, 1) := fd_get adX3_part_0 (k := 11) rfl
theorem dX3_part_23 : decode cX3_part 23 = .ok (.invokevirtual 162, 3) := fd_get adX3_part_0 (k := 12) rfl
theorem dX3_part_26 : decode cX3_part 26 = .ok (.ifCond .eq 27, 3) := fd_get adX3_part_0 (k := 13) rfl
theorem dX3_part_29 : decode cX3_part 29 = .ok (.aload 6, 2) := fd_get adX3_part_0 (k := 14) rfl
theorem dX3_part_31 : decode cX3_part 31 = .ok (.iload 4, 2) := fd_get adX3_part_0 (k := 15) rfl
theorem dX3_part_33 : decode cX3_part 33 = .ok (.invokevirtual 162, 3) := fd_get adX3_part_1 (k := 0) rfl
theorem dX3_part_36 : decode cX3_part 36 = .ok (.ifCond .eq 17, 3) := fd_get adX3_part_1 (k := 1) rfl
theorem dX3_part_39 : decode cX3_part 39 = .ok (.aload 6, 2) := fd_get adX3_part_1 (k := 2) rfl
theorem dX3_part_41 : decode cX3_part 41 = .ok (.invokevirtual 165, 3) := fd_get adX3_part_1 (k := 3) rfl
theorem dX3_part_44 : decode cX3_part 44 = .ok (.iload 4, 2) := fd_get adX3_part_1 (k := 4) rfl
theorem dX3_part_46 : decode cX3_part 46 = .ok (.iload_n 2, 1) := fd_get adX3_part_1 (k := 5) rfl
theorem dX3_part_47 : decode cX3_part 47 = .ok (.invokevirtual 154, 3) := fd_get adX3_part_1 (k := 6) rfl
theorem dX3_part_50 : decode cX3_part 50 = .ok (.ifCond .eq 7, 3) := fd_get adX3_part_1 (k := 7) rfl
theorem dX3_part_53 : decode cX3_part 53 = .ok (.sipush (-20000), 3) := fd_get adX3_part_1 (k := 8) rfl
theorem dX3_part_56 : decode cX3_part 56 = .ok (.ireturn, 1) := fd_get adX3_part_1 (k := 9) rfl
theorem dX3_part_57 : decode cX3_part 57 = .ok (.aload_n 0, 1) := fd_get adX3_part_1 (k := 10) rfl
theorem dX3_part_58 : decode cX3_part 58 = .ok (.new 18, 3) := fd_get adX3_part_1 (k := 11) rfl
theorem dX3_part_61 : decode cX3_part 61 = .ok (.dup, 1) := fd_get adX3_part_1 (k := 12) rfl
theorem dX3_part_62 : decode cX3_part 62 = .ok (.aload 6, 2) := fd_get adX3_part_1 (k := 13) rfl
theorem dX3_part_64 : decode cX3_part 64 = .ok (.invokevirtual 165, 3) := fd_get adX3_part_1 (k := 14) rfl
theorem dX3_part_67 : decode cX3_part 67 = .ok (.iload_n 2, 1) := fd_get adX3_part_1 (k := 15) rfl
theorem dX3_part_68 : decode cX3_part 68 = .ok (.iload_n 3, 1) := fd_get adX3_part_2 (k := 0) rfl
theorem dX3_part_69 : decode cX3_part 69 = .ok (.iload 4, 2) := fd_get adX3_part_2 (k := 1) rfl
theorem dX3_part_71 : decode cX3_part 71 = .ok (.iload 5, 2) := fd_get adX3_part_2 (k := 2) rfl
theorem dX3_part_73 : decode cX3_part 73 = .ok (.invokespecial 144, 3) := fd_get adX3_part_2 (k := 3) rfl
theorem dX3_part_76 : decode cX3_part 76 = .ok (.invokevirtual 147, 3) := fd_get adX3_part_2 (k := 4) rfl
theorem dX3_part_79 : decode cX3_part 79 = .ok (.ireturn, 1) := fd_get adX3_part_2 (k := 5) rfl
theorem mwsX3_shut_0 : ∀ w ∈ wsX3_shut_r1, w ∈ wsX3_shut := fun w h => (List.mem_cons_of_mem _ (List.mem_append_left _ (List.mem_append_left _ (List.mem_append_left _ (List.mem_append_left _ (List.mem_append_left _ h))))))
theorem mwsX3_shut_1 : ∀ w ∈ wsX3_shut_r2, w ∈ wsX3_shut := fun w h => (List.mem_cons_of_mem _ (List.mem_append_left _ (List.mem_append_left _ (List.mem_append_left _ (List.mem_append_left _ (List.mem_append_right _ h))))))
theorem mwsX3_shut_2 : ∀ w ∈ wsX30, w ∈ wsX3_shut := fun w h => (List.mem_cons_of_mem _ (List.mem_append_left _ (List.mem_append_left _ (List.mem_append_left _ (List.mem_append_right _ h)))))
theorem mwsX3_shut_3 : ∀ w ∈ wsX10, w ∈ wsX3_shut := fun w h => (List.mem_cons_of_mem _ (List.mem_append_left _ (List.mem_append_left _ (List.mem_append_right _ h))))
theorem mwsX3_shut_4 : ∀ w ∈ wsX00, w ∈ wsX3_shut := fun w h => (List.mem_cons_of_mem _ (List.mem_append_left _ (List.mem_append_right _ h)))
set_option maxRecDepth 20000 in
theorem ggX3_shut_X3_viewAt : GoodIn wsX3_shut wsX3_viewAt := goodIn_ca (goodIn_sub (List.forall_mem_cons.mpr ⟨(mwsX3_shut_0 _ (List.mem_of_getElem? (i := 5) rfl)), (List.forall_mem_cons.mpr ⟨(mwsX3_shut_0 _ (List.mem_of_getElem? (i := 6) rfl)), (List.forall_mem_cons.mpr ⟨(mwsX3_shut_0 _ (List.mem_of_getElem? (i := 7) rfl)), (List.forall_mem_cons.mpr ⟨(mwsX3_shut_0 _ (List.mem_of_getElem? (i := 0) rfl)), (tk_mem 6 _ (fun w h => (mwsX3_shut_2 _ (tkB_mem 0 6 h))) (fun _ h => absurd h List.not_mem_nil))⟩)⟩)⟩)⟩) (by decide +kernel)) (goodIn_sub (fun _ h => List.mem_cons_of_mem _ (List.mem_append_right _ h)) (by decide +kernel))
set_option maxRecDepth 20000 in
theorem gX3_shut_X3_viewAt : GoodIn wsX3_shut (wsV RX3 158 RX3 yX3_viewAt wsX3_viewAt) := goodIn_app (goodIn_sub (tk_mem 4 _ (fun w h => (mwsX3_shut_0 _ (tkB_mem 1 4 h))) (fun _ h => absurd h List.not_mem_nil)) (by decide +kernel)) ggX3_shut_X3_viewAt
set_option maxRecDepth 20000 in
theorem ggX3_shut_X1_size : GoodIn wsX3_shut wsX1_size := goodIn_sub (tk_mem 4 _ (fun w h => (mwsX3_shut_0 _ (tkB_mem 12 4 h))) (List.forall_mem_cons.mpr ⟨(mwsX3_shut_0 _ (List.mem_of_getElem? (i := 11) rfl)), (tk_mem 8 _ (fun w h => (mwsX3_shut_0 _ (tkB_mem 16 8 h))) (tk_mem 12 _ (fun w h => (mwsX3_shut_1 _ (tkB_mem 0 12 h))) (tk_mem 7 _ (fun w h => (mwsX3_shut_3 _ (tkB_mem 0 7 h))) (tk_mem 7 _ (fun w h => (mwsX3_shut_4 _ (tkB_mem 0 7 h))) (fun _ h => absurd h List.not_mem_nil)))))⟩)) (by decide +kernel)
set_option maxRecDepth 20000 in
theorem gX3_shut_X1_size : GoodIn wsX3_shut (wsV RX3 166 RX1 yX1_size wsX1_size) := goodIn_app (goodIn_sub (tk_mem 4 _ (fun w h => (mwsX3_shut_0 _ (tkB_mem 8 4 h))) (fun _ h => absurd h List.not_mem_nil)) (by decide +kernel)) ggX3_shut_X1_size
theorem adX3_shut_0 : fd_rows (cX3_shut.data.toList.drop 0) 0 [(0, some (.aload_n 0), 1), (1, some (.iload_n 1), 1), (2, some (.invokevirtual 158), 3), (5, some (.invokevirtual 166), 3), (8, some (.istore_n 2), 1), (9, some (.aload_n 0), 1), (10, some (.getfield 20), 3), (13, some (.iload_n 1), 1), (14, some (.aconst_null), 1), (15, some (.aastore), 1), (16, some (.iload_n 2), 1), (17, some (.ireturn), 1)] = true := by decide +kernel
theorem dX3_shut_0 : decode cX3_shut 0 = .ok (.aload_n 0, 1) := fd_get adX3_shut_0 (k := 0) rfl
theorem dX3_shut_1 : decode cX3_shut 1 = .ok (.iload_n 1, 1) := fd_get adX3_shut_0 (k := 1) rfl
theorem dX3_shut_2 : decode cX3_shut 2 = .ok (.invokevirtual 158, 3) := fd_get adX3_shut_0 (k := 2) rfl
theorem dX3_shut_5 : decode cX3_shut 5 = .ok (.invokevirtual 166, 3) := fd_get adX3_shut_0 (k := 3) rfl
theorem dX3_shut_8 : decode cX3_shut 8 = .ok (.istore_n 2, 1) := fd_get adX3_shut_0 (k := 4) rfl
theorem dX3_shut_9 : decode cX3_shut 9 = .ok (.aload_n 0, 1) := fd_get adX3_shut_0 (k := 5) rfl
theorem dX3_shut_10 : decode cX3_shut 10 = .ok (.getfield 20, 3) := fd_get adX3_shut_0 (k := 6) rfl
theorem dX3_shut_13 : decode cX3_shut 13 = .ok (.iload_n 1, 1) := fd_get adX3_shut_0 (k := 7) rfl
theorem dX3_shut_14 : decode cX3_shut 14 = .ok (.aconst_null, 1) := fd_get adX3_shut_0 (k := 8) rfl
theorem dX3_shut_15 : decode cX3_shut 15 = .ok (.aastore, 1) := fd_get adX3_shut_0 (k := 9) rfl
theorem dX3_shut_16 : decode cX3_shut 16 = .ok (.iload_n 2, 1) := fd_get adX3_shut_0 (k := 10) rfl
theorem dX3_shut_17 : decode cX3_shut 17 = .ok (.ireturn, 1) := fd_get adX3_shut_0 (k := 11) rfl
theorem mwsX3_viewPut_0 : ∀ w ∈ wsX3_viewPut_r1, w ∈ wsX3_viewPut := fun w h => (List.mem_cons_of_mem _ (List.mem_append_left _ (List.mem_append_left _ (List.mem_append_left _ (List.mem_append_left _ (List.mem_append_left _ (List.mem_append_left _ h)))))))
theorem mwsX3_viewPut_1 : ∀ w ∈ wsX3_viewPut_r2, w ∈ wsX3_viewPut := fun w h => (List.mem_cons_of_mem _ (List.mem_append_left _ (List.mem_append_left _ (List.mem_append_left _ (List.mem_append_left _ (List.mem_append_left _ (List.mem_append_right _ (List.mem_append_left _ h))))))))
theorem mwsX3_viewPut_2 : ∀ w ∈ wsX3_viewPut_r3, w ∈ wsX3_viewPut := fun w h => (List.mem_cons_of_mem _ (List.mem_append_left _ (List.mem_append_left _ (List.mem_append_left _ (List.mem_append_left _ (List.mem_append_left _ (List.mem_append_right _ (List.mem_append_right _ h))))))))
theorem mwsX3_viewPut_3 : ∀ w ∈ wsX30, w ∈ wsX3_viewPut := fun w h => (List.mem_cons_of_mem _ (List.mem_append_left _ (List.mem_append_left _ (List.mem_append_left _ (List.mem_append_left _ (List.mem_append_right _ h))))))
theorem mwsX3_viewPut_4 : ∀ w ∈ wsX10, w ∈ wsX3_viewPut := fun w h => (List.mem_cons_of_mem _ (List.mem_append_left _ (List.mem_append_left _ (List.mem_append_left _ (List.mem_append_right _ h)))))
theorem mwsX3_viewPut_5 : ∀ w ∈ wsX00, w ∈ wsX3_viewPut := fun w h => (List.mem_cons_of_mem _ (List.mem_append_left _ (List.mem_append_left _ (List.mem_append_right _ h))))
set_option maxRecDepth 20000 in
theorem ggX3_viewPut_X3_viewToWritePair : GoodIn wsX3_viewPut wsX3_viewToWritePair := goodIn_ca (goodIn_ca (goodIn_sub (tk_mem 4 _ (fun w h => (mwsX3_viewPut_0 _ (tkB_mem 4 4 h))) (List.forall_mem_cons.mpr ⟨(mwsX3_viewPut_0 _ (List.mem_of_getElem? (i := 3) rfl)), (tk_mem 16 _ (fun w h => (mwsX3_viewPut_0 _ (tkB_mem 8 16 h))) (tk_mem 8 _ (fun w h => (mwsX3_viewPut_1 _ (tkB_mem 0 8 h))) (tk_mem 6 _ (fun w h => (mwsX3_viewPut_3 _ (tkB_mem 0 6 h))) (tk_mem 7 _ (fun w h => (mwsX3_viewPut_4 _ (tkB_mem 0 7 h))) (tk_mem 7 _ (fun w h => (mwsX3_viewPut_5 _ (tkB_mem 0 7 h))) (fun _ h => absurd h List.not_mem_nil))))))⟩)) (by decide +kernel)) (goodIn_sub (fun _ h => List.mem_cons_of_mem _ (List.mem_append_left _ (List.mem_append_right _ h))) (by decide +kernel))) (goodIn_sub (fun _ h => List.mem_cons_of_mem _ (List.mem_append_right _ h)) (by decide +kernel))
set_option maxRecDepth 20000 in
theorem gX3_viewPut_X3_viewToWritePair : GoodIn wsX3_viewPut (wsV RX3 167 RX3 yX3_viewToWritePair wsX3_viewToWritePair) := goodIn_app (goodIn_sub (tk_mem 4 _ (fun w h => (mwsX3_viewPut_0 _ (tkB_mem 0 4 h))) (fun _ h => absurd h List.not_mem_nil)) (by decide +kernel)) ggX3_viewPut_X3_viewToWritePair
set_option maxRecDepth 20000 in
theorem ggX3_viewPut_X1_isWithin : GoodIn wsX3_viewPut wsX1_isWithin := goodIn_sub (List.forall_mem_cons.mpr ⟨(mwsX3_viewPut_1 _ (List.mem_of_getElem? (i := 11) rfl)), (List.forall_mem_cons.mpr ⟨(mwsX3_viewPut_1 _ (List.mem_of_getElem? (i := 1) rfl)), (tk_mem 5 _ (fun w h => (mwsX3_viewPut_1 _ (tkB_mem 12 5 h))) (List.forall_mem_cons.mpr ⟨(mwsX3_viewPut_1 _ (List.mem_of_getElem? (i := 5) rfl)), (List.forall_mem_cons.mpr ⟨(mwsX3_viewPut_1 _ (List.mem_of_getElem? (i := 17) rfl)), (List.forall_mem_cons.mpr ⟨(mwsX3_viewPut_1 _ (List.mem_of_getElem? (i := 18) rfl)), (tk_mem 7 _ (fun w h => (mwsX3_viewPut_4 _ (tkB_mem 0 7 h))) (tk_mem 7 _ (fun w h => (mwsX3_viewPut_5 _ (tkB_mem 0 7 h))) (fun _ h => absurd h List.not_mem_nil)))⟩)⟩)⟩))⟩)⟩) (by decide +kernel)
set_option maxRecDepth 20000 in
theorem gX3_viewPut_X1_isWithin : GoodIn wsX3_viewPut (wsV RX3 162 RX1 yX1_isWithin wsX1_isWithin) := goodIn_app (goodIn_sub (List.forall_mem_cons.mpr ⟨(mwsX3_viewPut_1 _ (List.mem_of_getElem? (i := 8) rfl)), (List.forall_mem_cons.mpr ⟨(mwsX3_viewPut_1 _ (List.mem_of_getElem? (i := 9) rfl)), (List.forall_mem_cons.mpr ⟨(mwsX3_viewPut_1 _ (List.mem_of_getElem? (i := 10) rfl)), (List.forall_mem_cons.mpr ⟨(mwsX3_viewPut_0 _ (List.mem_of_getElem? (i := 23) rfl)), (fun _ h => absurd h List.not_mem_nil)⟩)⟩)⟩)⟩) (by decide +kernel)) ggX3_viewPut_X1_isWithin
set_option maxRecDepth 20000 in
theorem ggX3_viewPut_X1_book : GoodIn wsX3_viewPut wsX1_book := goodIn_sub (List.forall_mem_cons.mpr ⟨(mwsX3_viewPut_1 _ (List.mem_of_getElem? (i := 0) rfl)), (List.forall_mem_cons.mpr ⟨(mwsX3_viewPut_1 _ (List.mem_of_getElem? (i := 1) rfl)), (tk_mem 7 _ (fun w h => (mwsX3_viewPut_4 _ (tkB_mem 0 7 h))) (fun _ h => absurd h List.not_mem_nil))⟩)⟩) (by decide +kernel)
set_option maxRecDepth 20000 in
theorem gX3_viewPut_X1_book : GoodIn wsX3_viewPut (wsV RX3 165 RX1 yX1_book wsX1_book) := goodIn_app (goodIn_sub (tk_mem 4 _ (fun w h => (mwsX3_viewPut_0 _ (tkB_mem 20 4 h))) (fun _ h => absurd h List.not_mem_nil)) (by decide +kernel)) ggX3_viewPut_X1_book
set_option maxRecDepth 20000 in
theorem ggX3_viewPut_X0_enter : GoodIn wsX3_viewPut wsX0_enter := goodIn_sub (List.forall_mem_cons.mpr ⟨(mwsX3_viewPut_1 _ (List.mem_of_getElem? (i := 22) rfl)), (List.forall_mem_cons.mpr ⟨(mwsX3_viewPut_1 _ (List.mem_of_getElem? (i := 23) rfl)), (tk_mem 4 _ (fun w h => (mwsX3_viewPut_2 _ (tkB_mem 0 4 h))) (List.forall_mem_cons.mpr ⟨(mwsX3_viewPut_1 _ (List.mem_of_getElem? (i := 5) rfl)), (List.forall_mem_cons.mpr ⟨(mwsX3_viewPut_2 _ (List.mem_of_getElem? (i := 4) rfl)), (List.forall_mem_cons.mpr ⟨(mwsX3_viewPut_2 _ (List.mem_of_getElem? (i := 5) rfl)), (tk_mem 4 _ (fun w h => (mwsX3_viewPut_1 _ (tkB_mem 15 4 h))) (tk_mem 18 _ (fun w h => (mwsX3_viewPut_2 _ (tkB_mem 6 18 h))) (tk_mem 7 _ (fun w h => (mwsX3_viewPut_5 _ (tkB_mem 0 7 h))) (fun _ h => absurd h List.not_mem_nil))))⟩)⟩)⟩))⟩)⟩) (by decide +kernel)
set_option maxRecDepth 20000 in
theorem gX3_viewPut_X0_enter : GoodIn wsX3_viewPut (wsV RX3 35 RX0 yX0_enter wsX0_enter) := goodIn_app (goodIn_sub (List.forall_mem_cons.mpr ⟨(mwsX3_viewPut_1 _ (List.mem_of_getElem? (i := 19) rfl)), (List.forall_mem_cons.mpr ⟨(mwsX3_viewPut_1 _ (List.mem_of_getElem? (i := 20) rfl)), (List.forall_mem_cons.mpr ⟨(mwsX3_viewPut_1 _ (List.mem_of_getElem? (i := 21) rfl)), (List.forall_mem_cons.mpr ⟨(mwsX3_viewPut_1 _ (List.mem_of_getElem? (i := 5) rfl)), (fun _ h => absurd h List.not_mem_nil)⟩)⟩)⟩)⟩) (by decide +kernel)) ggX3_viewPut_X0_enter
theorem adX3_viewPut_0 : fd_rows (cX3_viewPut.data.toList.drop 0) 0 [(0, some (.aload_n 0), 1), (1, some (.iload_n 1), 1), (2, some (.iload_n 2), 1), (3, some (.iload_n 3), 1), (4, some (.invokevirtual 167), 3), (7, some (.astore 4), 2), (9, some (.aload 4), 2), (11, some (.iload_n 2), 1), (12, some (.invokevirtual 162), 3), (15, some (.ifCond .eq 16), 3), (18, some (.aload 4), 2), (20, some (.invokevirtual 165), 3), (23, some (.iload_n 2), 1), (24, some (.iload_n 3), 1), (25, some (.invokevirtual 35), 3), (28, some (.goto 6), 3)] = true := by decide +kernel
theorem adX3_viewPut_1 : fd_rows (cX3_viewPut.data.toList.drop 31) 31 [(31, some (.sipush (-20000)), 3), (34, some (.ireturn), 1)] = true := by decide +kernel
theorem dX3_viewPut_0 : decode cX3_viewPut 0 = .ok (.aload_n 0, 1) := fd_get adX3_viewPut_0 (k := 0) rfl
theorem dX3_viewPut_1 : decode cX3_viewPut 1 = .ok (.iload_n 1, 1) := fd_get adX3_viewPut_0 (k := 1) rfl
theorem dX3_viewPut_2 : decode cX3_viewPut 2 = .ok (.iload_n 2, 1) := fd_get adX3_viewPut_0 (k := 2) rfl
theorem dX3_viewPut_3 : decode cX3_viewPut 3 = .ok (.iload_n 3, 1) := fd_get adX3_viewPut_0 (k := 3) rfl
theorem dX3_viewPut_4 : decode cX3_viewPut 4 = .ok (.invokevirtual 167, 3) := fd_get adX3_viewPut_0 (k := 4) rfl
theorem dX3_viewPut_7 : decode cX3_viewPut 7 = .ok (.astore 4, 2) := fd_get adX3_viewPut_0 (k := 5) rfl
theorem dX3_viewPut_9 : decode cX3_viewPut 9 = .ok (.aload 4, 2) := fd_get adX3_viewPut_0 (k := 6) rfl
theorem dX3_viewPut_11 : decode cX3_viewPut 11 = .ok (.iload_n 2, 1) := fd_get adX3_viewPut_0 (k := 7) rfl
theorem dX3_viewPut_12 : decode cX3_viewPut 12 = .ok (.invokevirtual 162, 3) := fd_get adX3_viewPut_0 (k := 8) rfl
theorem dX3_viewPut_15 : decode cX3_viewPut 15 = .ok (.ifCond .eq 16, 3) := fd_get adX3_viewPut_0 (k := 9) rfl
theorem dX3_viewPut_18 : decode cX3_viewPut 18 = .ok (.aload 4, 2) := fd_get adX3_viewPut_0 (k := 10) rfl
theorem dX3_viewPut_20 : decode cX3_viewPut 20 = .ok (.invokevirtual 165, 3) := fd_get adX3_viewPut_0 (k := 11) rfl
theorem dX3_viewPut_23 : decode cX3_viewPut 23 = .ok (.iload_n 2, 1) := fd_get adX3_viewPut_0 (k := 12) rfl
theorem dX3_viewPut_24 : decode cX3_viewPut 24 = .ok (.iload_n 3, 1) := fd_get adX3_viewPut_0 (k := 13) rfl
theorem dX3_viewPut_25 : decode cX3_viewPut 25 = .ok (.invokevirtual 35, 3) := fd_get adX3_viewPut_0 (k := 14) rfl
theorem dX3_viewPut_28 : decode cX3_viewPut 28 = .ok (.goto 6, 3) := fd_get adX3_viewPut_0 (k := 15) rfl
theorem dX3_viewPut_31 : decode cX3_viewPut 31 = .ok (.sipush (-20000), 3) := fd_get adX3_viewPut_1 (k := 0) rfl
theorem dX3_viewPut_34 : decode cX3_viewPut 34 = .ok (.ireturn, 1) := fd_get adX3_viewPut_1 (k := 1) rfl
theorem mwsX3_viewStrike_0 : ∀ w ∈ wsX3_viewStrike_r1, w ∈ wsX3_viewStrike := fun w h => (List.mem_cons_of_mem _ (List.mem_append_left _ (List.mem_append_left _ (List.mem_append_left _ (List.mem_append_left _ (List.mem_append_left _ (List.mem_append_left _ h)))))))
theorem mwsX3_viewStrike_1 : ∀ w ∈ wsX3_viewStrike_r2, w ∈ wsX3_viewStrike := fun w h => (List.mem_cons_of_mem _ (List.mem_append_left _ (List.mem_append_left _ (List.mem_append_left _ (List.mem_append_left _ (List.mem_append_left _ (List.mem_append_right _ (List.mem_append_left _ h))))))))
theorem mwsX3_viewStrike_2 : ∀ w ∈ wsX3_viewStrike_r3, w ∈ wsX3_viewStrike := fun w h => (List.mem_cons_of_mem _ (List.mem_append_left _ (List.mem_append_left _ (List.mem_append_left _ (List.mem_append_left _ (List.mem_append_left _ (List.mem_append_right _ (List.mem_append_right _ (List.mem_append_left _ h)))))))))
theorem mwsX3_viewStrike_3 : ∀ w ∈ wsX3_viewStrike_r4, w ∈ wsX3_viewStrike := fun w h => (List.mem_cons_of_mem _ (List.mem_append_left _ (List.mem_append_left _ (List.mem_append_left _ (List.mem_append_left _ (List.mem_append_left _ (List.mem_append_right _ (List.mem_append_right _ (List.mem_append_right _ h)))))))))
theorem mwsX3_viewStrike_4 : ∀ w ∈ wsX30, w ∈ wsX3_viewStrike := fun w h => (List.mem_cons_of_mem _ (List.mem_append_left _ (List.mem_append_left _ (List.mem_append_left _ (List.mem_append_left _ (List.mem_append_right _ h))))))
theorem mwsX3_viewStrike_5 : ∀ w ∈ wsX10, w ∈ wsX3_viewStrike := fun w h => (List.mem_cons_of_mem _ (List.mem_append_left _ (List.mem_append_left _ (List.mem_append_left _ (List.mem_append_right _ h)))))
theorem mwsX3_viewStrike_6 : ∀ w ∈ wsX00, w ∈ wsX3_viewStrike := fun w h => (List.mem_cons_of_mem _ (List.mem_append_left _ (List.mem_append_left _ (List.mem_append_right _ h))))
set_option maxRecDepth 20000 in
theorem ggX3_viewStrike_X3_viewAt : GoodIn wsX3_viewStrike wsX3_viewAt := goodIn_ca (goodIn_sub (tk_mem 4 _ (fun w h => (mwsX3_viewStrike_0 _ (tkB_mem 4 4 h))) (tk_mem 6 _ (fun w h => (mwsX3_viewStrike_4 _ (tkB_mem 0 6 h))) (fun _ h => absurd h List.not_mem_nil))) (by decide +kernel)) (goodIn_sub (fun _ h => List.mem_cons_of_mem _ (List.mem_append_left _ (List.mem_append_right _ h))) (by decide +kernel))
set_option maxRecDepth 20000 in
theorem gX3_viewStrike_X3_viewAt : GoodIn wsX3_viewStrike (wsV RX3 158 RX3 yX3_viewAt wsX3_viewAt) := goodIn_app (goodIn_sub (tk_mem 4 _ (fun w h => (mwsX3_viewStrike_0 _ (tkB_mem 0 4 h))) (fun _ h => absurd h List.not_mem_nil)) (by decide +kernel)) ggX3_viewStrike_X3_viewAt
set_option maxRecDepth 20000 in
theorem ggX3_viewStrike_X3_checkKey : GoodIn wsX3_viewStrike wsX3_checkKey := goodIn_ca (goodIn_sub (List.forall_mem_cons.mpr ⟨(mwsX3_viewStrike_0 _ (List.mem_of_getElem? (i := 10) rfl)), (List.forall_mem_cons.mpr ⟨(mwsX3_viewStrike_0 _ (List.mem_of_getElem? (i := 11) rfl)), (List.forall_mem_cons.mpr ⟨(mwsX3_viewStrike_0 _ (List.mem_of_getElem? (i := 12) rfl)), (fun _ h => absurd h List.not_mem_nil)⟩)⟩)⟩) (by decide +kernel)) (goodIn_sub (fun _ h => List.mem_cons_of_mem _ (List.mem_append_right _ h)) (by decide +kernel))
set_option maxRecDepth 20000 in
theorem gX3_viewStrike_X3_checkKey : GoodIn wsX3_viewStrike (va_wsS RX3 51 yX3_checkKey wsX3_checkKey) := goodIn_app (goodIn_sub (List.forall_mem_cons.mpr ⟨(mwsX3_viewStrike_0 _ (List.mem_of_getElem? (i := 8) rfl)), (List.forall_mem_cons.mpr ⟨(mwsX3_viewStrike_0 _ (List.mem_of_getElem? (i := 9) rfl)), (List.forall_mem_cons.mpr ⟨(mwsX3_viewStrike_0 _ (List.mem_of_getElem? (i := 3) rfl)), (fun _ h => absurd h List.not_mem_nil)⟩)⟩)⟩) (by decide +kernel)) ggX3_viewStrike_X3_checkKey
set_option maxRecDepth 20000 in
theorem ggX3_viewStrike_X1_book : GoodIn wsX3_viewStrike wsX1_book := goodIn_sub (List.forall_mem_cons.mpr ⟨(mwsX3_viewStrike_0 _ (List.mem_of_getElem? (i := 17) rfl)), (List.forall_mem_cons.mpr ⟨(mwsX3_viewStrike_0 _ (List.mem_of_getElem? (i := 18) rfl)), (tk_mem 7 _ (fun w h => (mwsX3_viewStrike_5 _ (tkB_mem 0 7 h))) (fun _ h => absurd h List.not_mem_nil))⟩)⟩) (by decide +kernel)
set_option maxRecDepth 20000 in
theorem gX3_viewStrike_X1_book : GoodIn wsX3_viewStrike (wsV RX3 165 RX1 yX1_book wsX1_book) := goodIn_app (goodIn_sub (tk_mem 4 _ (fun w h => (mwsX3_viewStrike_0 _ (tkB_mem 13 4 h))) (fun _ h => absurd h List.not_mem_nil)) (by decide +kernel)) ggX3_viewStrike_X1_book
set_option maxRecDepth 20000 in
theorem ggX3_viewStrike_X0_touch : GoodIn wsX3_viewStrike wsX0_touch := goodIn_sub (List.forall_mem_cons.mpr ⟨(mwsX3_viewStrike_0 _ (List.mem_of_getElem? (i := 23) rfl)), (List.forall_mem_cons.mpr ⟨(mwsX3_viewStrike_1 _ (List.mem_of_getElem? (i := 0) rfl)), (tk_mem 7 _ (fun w h => (mwsX3_viewStrike_6 _ (tkB_mem 0 7 h))) (fun _ h => absurd h List.not_mem_nil))⟩)⟩) (by decide +kernel)
set_option maxRecDepth 20000 in
theorem gX3_viewStrike_X0_touch : GoodIn wsX3_viewStrike (wsV RX3 57 RX0 yX0_touch wsX0_touch) := goodIn_app (goodIn_sub (tk_mem 4 _ (fun w h => (mwsX3_viewStrike_0 _ (tkB_mem 19 4 h))) (fun _ h => absurd h List.not_mem_nil)) (by decide +kernel)) ggX3_viewStrike_X0_touch
set_option maxRecDepth 20000 in
theorem ggX3_viewStrike_X1_isWithin : GoodIn wsX3_viewStrike wsX1_isWithin := goodIn_sub (List.forall_mem_cons.mpr ⟨(mwsX3_viewStrike_1 _ (List.mem_of_getElem? (i := 4) rfl)), (List.forall_mem_cons.mpr ⟨(mwsX3_viewStrike_0 _ (List.mem_of_getElem? (i := 18) rfl)), (tk_mem 5 _ (fun w h => (mwsX3_viewStrike_1 _ (tkB_mem 5 5 h))) (List.forall_mem_cons.mpr ⟨(mwsX3_viewStrike_0 _ (List.mem_of_getElem? (i := 22) rfl)), (List.forall_mem_cons.mpr ⟨(mwsX3_viewStrike_1 _ (List.mem_of_getElem? (i := 10) rfl)), (List.forall_mem_cons.mpr ⟨(mwsX3_viewStrike_1 _ (List.mem_of_getElem? (i := 11) rfl)), (tk_mem 7 _ (fun w h => (mwsX3_viewStrike_5 _ (tkB_mem 0 7 h))) (tk_mem 7 _ (fun w h => (mwsX3_viewStrike_6 _ (tkB_mem 0 7 h))) (fun _ h => absurd h List.not_mem_nil)))⟩)⟩)⟩))⟩)⟩) (by decide +kernel)
set_option maxRecDepth 20000 in
theorem gX3_viewStrike_X1_isWithin : GoodIn wsX3_viewStrike (wsV RX3 162 RX1 yX1_isWithin wsX1_isWithin) := goodIn_app (goodIn_sub (List.forall_mem_cons.mpr ⟨(mwsX3_viewStrike_1 _ (List.mem_of_getElem? (i := 1) rfl)), (List.forall_mem_cons.mpr ⟨(mwsX3_viewStrike_1 _ (List.mem_of_getElem? (i := 2) rfl)), (List.forall_mem_cons.mpr ⟨(mwsX3_viewStrike_1 _ (List.mem_of_getElem? (i := 3) rfl)), (List.forall_mem_cons.mpr ⟨(mwsX3_viewStrike_0 _ (List.mem_of_getElem? (i := 16) rfl)), (fun _ h => absurd h List.not_mem_nil)⟩)⟩)⟩)⟩) (by decide +kernel)) ggX3_viewStrike_X1_isWithin
set_option maxRecDepth 20000 in
theorem ggX3_viewStrike_X0_removeKey : GoodIn wsX3_viewStrike wsX0_removeKey := goodIn_sub (tk_mem 4 _ (fun w h => (mwsX3_viewStrike_1 _ (tkB_mem 15 4 h))) (List.forall_mem_cons.mpr ⟨(mwsX3_viewStrike_0 _ (List.mem_of_getElem? (i := 22) rfl)), (List.forall_mem_cons.mpr ⟨(mwsX3_viewStrike_1 _ (List.mem_of_getElem? (i := 19) rfl)), (List.forall_mem_cons.mpr ⟨(mwsX3_viewStrike_1 _ (List.mem_of_getElem? (i := 20) rfl)), (tk_mem 4 _ (fun w h => (mwsX3_viewStrike_1 _ (tkB_mem 8 4 h))) (List.forall_mem_cons.mpr ⟨(mwsX3_viewStrike_1 _ (List.mem_of_getElem? (i := 21) rfl)), (List.forall_mem_cons.mpr ⟨(mwsX3_viewStrike_1 _ (List.mem_of_getElem? (i := 22) rfl)), (List.forall_mem_cons.mpr ⟨(mwsX3_viewStrike_1 _ (List.mem_of_getElem? (i := 23) rfl)), (tk_mem 24 _ (fun w h => (mwsX3_viewStrike_2 _ (tkB_mem 0 24 h))) (List.forall_mem_cons.mpr ⟨(mwsX3_viewStrike_3 _ (List.mem_of_getElem? (i := 0) rfl)), (tk_mem 7 _ (fun w h => (mwsX3_viewStrike_6 _ (tkB_mem 0 7 h))) (fun _ h => absurd h List.not_mem_nil))⟩))⟩)⟩)⟩))⟩)⟩)⟩)) (by decide +kernel)
set_option maxRecDepth 20000 in
theorem gX3_viewStrike_X0_removeKey : GoodIn wsX3_viewStrike (wsV RX3 64 RX0 yX0_removeKey wsX0_removeKey) := goodIn_app (goodIn_sub (List.forall_mem_cons.mpr ⟨(mwsX3_viewStrike_1 _ (List.mem_of_getElem? (i := 12) rfl)), (List.forall_mem_cons.mpr ⟨(mwsX3_viewStrike_1 _ (List.mem_of_getElem? (i := 13) rfl)), (List.forall_mem_cons.mpr ⟨(mwsX3_viewStrike_1 _ (List.mem_of_getElem? (i := 14) rfl)), (List.forall_mem_cons.mpr ⟨(mwsX3_viewStrike_0 _ (List.mem_of_getElem? (i := 22) rfl)), (fun _ h => absurd h List.not_mem_nil)⟩)⟩)⟩)⟩) (by decide +kernel)) ggX3_viewStrike_X0_removeKey
theorem adX3_viewStrike_0 : fd_rows (cX3_viewStrike.data.toList.drop 0) 0 [(0, some (.aload_n 0), 1), (1, some (.iload_n 1), 1), (2, some (.invokevirtual 158), 3), (5, some (.astore_n 3), 1), (6, some (.iload_n 2), 1), (7, some (.invokestatic 51), 3), (10, some (.aload_n 3), 1), (11, some (.invokevirtual 165), 3), (14, some (.invokevirtual 57), 3), (17, some (.aload_n 3), 1), (18, some (.iload_n 2), 1), (19, some (.invokevirtual 162), 3), (22, some (.ifCond .eq 14), 3), (25, some (.aload_n 3), 1), (26, some (.invokevirtual 165), 3), (29, some (.iload_n 2), 1)] = true := by decide +kernel
theorem adX3_viewStrike_1 : fd_rows (cX3_viewStrike.data.toList.drop 30) 30 [(30, some (.invokevirtual 64), 3), (33, some (.goto 6), 3), (36, some (.sipush (-10000)), 3), (39, some (.ireturn), 1)] = true := by decide +kernel
theorem dX3_viewStrike_0 : decode cX3_viewStrike 0 = .ok (.aload_n 0, 1) := fd_get adX3_viewStrike_0 (k := 0) rfl
theorem dX3_viewStrike_1 : decode cX3_viewStrike 1 = .ok (.iload_n 1, 1) := fd_get adX3_viewStrike_0 (k := 1) rfl
theorem dX3_viewStrike_2 : decode cX3_viewStrike 2 = .ok (.invokevirtual 158, 3) := fd_get adX3_viewStrike_0 (k := 2) rfl
theorem dX3_viewStrike_5 : decode cX3_viewStrike 5 = .ok (.astore_n 3, 1) := fd_get adX3_viewStrike_0 (k := 3) rfl
theorem dX3_viewStrike_6 : decode cX3_viewStrike 6 = .ok (.iload_n 2, 1) := fd_get adX3_viewStrike_0 (k := 4) rfl
theorem dX3_viewStrike_7 : decode cX3_viewStrike 7 = .ok (.invokestatic 51, 3) := fd_get adX3_viewStrike_0 (k := 5) rfl
theorem dX3_viewStrike_10 : decode cX3_viewStrike 10 = .ok (.aload_n 3, 1) := fd_get adX3_viewStrike_0 (k := 6) rfl
theorem dX3_viewStrike_11 : decode cX3_viewStrike 11 = .ok (.invokevirtual 165, 3) := fd_get adX3_viewStrike_0 (k := 7) rfl
theorem dX3_viewStrike_14 : decode cX3_viewStrike 14 = .ok (.invokevirtual 57, 3) := fd_get adX3_viewStrike_0 (k := 8) rfl
theorem dX3_viewStrike_17 : decode cX3_viewStrike 17 = .ok (.aload_n 3, 1) := fd_get adX3_viewStrike_0 (k := 9) rfl
theorem dX3_viewStrike_18 : decode cX3_viewStrike 18 = .ok (.iload_n 2, 1) := fd_get adX3_viewStrike_0 (k := 10) rfl
theorem dX3_viewStrike_19 : decode cX3_viewStrike 19 = .ok (.invokevirtual 162, 3) := fd_get adX3_viewStrike_0 (k := 11) rfl
theorem dX3_viewStrike_22 : decode cX3_viewStrike 22 = .ok (.ifCond .eq 14, 3) := fd_get adX3_viewStrike_0 (k := 12) rfl
theorem dX3_viewStrike_25 : decode cX3_viewStrike 25 = .ok (.aload_n 3, 1) := fd_get adX3_viewStrike_0 (k := 13) rfl
theorem dX3_viewStrike_26 : decode cX3_viewStrike 26 = .ok (.invokevirtual 165, 3) := fd_get adX3_viewStrike_0 (k := 14) rfl
theorem dX3_viewStrike_29 : decode cX3_viewStrike 29 = .ok (.iload_n 2, 1) := fd_get adX3_viewStrike_0 (k := 15) rfl
theorem dX3_viewStrike_30 : decode cX3_viewStrike 30 = .ok (.invokevirtual 64, 3) := fd_get adX3_viewStrike_1 (k := 0) rfl
theorem dX3_viewStrike_33 : decode cX3_viewStrike 33 = .ok (.goto 6, 3) := fd_get adX3_viewStrike_1 (k := 1) rfl
theorem dX3_viewStrike_36 : decode cX3_viewStrike 36 = .ok (.sipush (-10000), 3) := fd_get adX3_viewStrike_1 (k := 2) rfl
theorem dX3_viewStrike_39 : decode cX3_viewStrike 39 = .ok (.ireturn, 1) := fd_get adX3_viewStrike_1 (k := 3) rfl
theorem mwsX3_viewMerge_0 : ∀ w ∈ wsX3_viewMerge_r1, w ∈ wsX3_viewMerge := fun w h => (List.mem_cons_of_mem _ (List.mem_append_left _ (List.mem_append_left _ (List.mem_append_left _ (List.mem_append_left _ (List.mem_append_left _ (List.mem_append_left _ h)))))))
theorem mwsX3_viewMerge_1 : ∀ w ∈ wsX3_viewMerge_r2, w ∈ wsX3_viewMerge := fun w h => (List.mem_cons_of_mem _ (List.mem_append_left _ (List.mem_append_left _ (List.mem_append_left _ (List.mem_append_left _ (List.mem_append_left _ (List.mem_append_right _ (List.mem_append_left _ h))))))))
theorem mwsX3_viewMerge_2 : ∀ w ∈ wsX3_viewMerge_r3, w ∈ wsX3_viewMerge := fun w h => (List.mem_cons_of_mem _ (List.mem_append_left _ (List.mem_append_left _ (List.mem_append_left _ (List.mem_append_left _ (List.mem_append_left _ (List.mem_append_right _ (List.mem_append_right _ (List.mem_append_left _ h)))))))))
theorem mwsX3_viewMerge_3 : ∀ w ∈ wsX3_viewMerge_r4, w ∈ wsX3_viewMerge := fun w h => (List.mem_cons_of_mem _ (List.mem_append_left _ (List.mem_append_left _ (List.mem_append_left _ (List.mem_append_left _ (List.mem_append_left _ (List.mem_append_right _ (List.mem_append_right _ (List.mem_append_right _ (List.mem_append_left _ h))))))))))
theorem mwsX3_viewMerge_4 : ∀ w ∈ wsX3_viewMerge_r5, w ∈ wsX3_viewMerge := fun w h => (List.mem_cons_of_mem _ (List.mem_append_left _ (List.mem_append_left _ (List.mem_append_left _ (List.mem_append_left _ (List.mem_append_left _ (List.mem_append_right _ (List.mem_append_right _ (List.mem_append_right _ (List.mem_append_right _ h))))))))))
theorem mwsX3_viewMerge_5 : ∀ w ∈ wsX30, w ∈ wsX3_viewMerge := fun w h => (List.mem_cons_of_mem _ (List.mem_append_left _ (List.mem_append_left _ (List.mem_append_left _ (List.mem_append_left _ (List.mem_append_right _ h))))))
theorem mwsX3_viewMerge_6 : ∀ w ∈ wsX10, w ∈ wsX3_viewMerge := fun w h => (List.mem_cons_of_mem _ (List.mem_append_left _ (List.mem_append_left _ (List.mem_append_left _ (List.mem_append_right _ h)))))
theorem mwsX3_viewMerge_7 : ∀ w ∈ wsX00, w ∈ wsX3_viewMerge := fun w h => (List.mem_cons_of_mem _ (List.mem_append_left _ (List.mem_append_left _ (List.mem_append_right _ h))))
set_option maxRecDepth 20000 in
theorem ggX3_viewMerge_X3_viewToWritePair : GoodIn wsX3_viewMerge wsX3_viewToWritePair := goodIn_ca (goodIn_ca (goodIn_sub (tk_mem 4 _ (fun w h => (mwsX3_viewMerge_0 _ (tkB_mem 4 4 h))) (List.forall_mem_cons.mpr ⟨(mwsX3_viewMerge_0 _ (List.mem_of_getElem? (i := 3) rfl)), (tk_mem 16 _ (fun w h => (mwsX3_viewMerge_0 _ (tkB_mem 8 16 h))) (tk_mem 8 _ (fun w h => (mwsX3_viewMerge_1 _ (tkB_mem 0 8 h))) (tk_mem 6 _ (fun w h => (mwsX3_viewMerge_5 _ (tkB_mem 0 6 h))) (tk_mem 7 _ (fun w h => (mwsX3_viewMerge_6 _ (tkB_mem 0 7 h))) (tk_mem 7 _ (fun w h => (mwsX3_viewMerge_7 _ (tkB_mem 0 7 h))) (fun _ h => absurd h List.not_mem_nil))))))⟩)) (by decide +kernel)) (goodIn_sub (fun _ h => List.mem_cons_of_mem _ (List.mem_append_left _ (List.mem_append_right _ h))) (by decide +kernel))) (goodIn_sub (fun _ h => List.mem_cons_of_mem _ (List.mem_append_right _ h)) (by decide +kernel))
set_option maxRecDepth 20000 in
theorem gX3_viewMerge_X3_viewToWritePair : GoodIn wsX3_viewMerge (wsV RX3 167 RX3 yX3_viewToWritePair wsX3_viewToWritePair) := goodIn_app (goodIn_sub (tk_mem 4 _ (fun w h => (mwsX3_viewMerge_0 _ (tkB_mem 0 4 h))) (fun _ h => absurd h List.not_mem_nil)) (by decide +kernel)) ggX3_viewMerge_X3_viewToWritePair
set_option maxRecDepth 20000 in
theorem ggX3_viewMerge_X1_isWithin : GoodIn wsX3_viewMerge wsX1_isWithin := goodIn_sub (List.forall_mem_cons.mpr ⟨(mwsX3_viewMerge_1 _ (List.mem_of_getElem? (i := 11) rfl)), (List.forall_mem_cons.mpr ⟨(mwsX3_viewMerge_1 _ (List.mem_of_getElem? (i := 1) rfl)), (tk_mem 5 _ (fun w h => (mwsX3_viewMerge_1 _ (tkB_mem 12 5 h))) (List.forall_mem_cons.mpr ⟨(mwsX3_viewMerge_1 _ (List.mem_of_getElem? (i := 5) rfl)), (List.forall_mem_cons.mpr ⟨(mwsX3_viewMerge_1 _ (List.mem_of_getElem? (i := 17) rfl)), (List.forall_mem_cons.mpr ⟨(mwsX3_viewMerge_1 _ (List.mem_of_getElem? (i := 18) rfl)), (tk_mem 7 _ (fun w h => (mwsX3_viewMerge_6 _ (tkB_mem 0 7 h))) (tk_mem 7 _ (fun w h => (mwsX3_viewMerge_7 _ (tkB_mem 0 7 h))) (fun _ h => absurd h List.not_mem_nil)))⟩)⟩)⟩))⟩)⟩) (by decide +kernel)
set_option maxRecDepth 20000 in
theorem gX3_viewMerge_X1_isWithin : GoodIn wsX3_viewMerge (wsV RX3 162 RX1 yX1_isWithin wsX1_isWithin) := goodIn_app (goodIn_sub (List.forall_mem_cons.mpr ⟨(mwsX3_viewMerge_1 _ (List.mem_of_getElem? (i := 8) rfl)), (List.forall_mem_cons.mpr ⟨(mwsX3_viewMerge_1 _ (List.mem_of_getElem? (i := 9) rfl)), (List.forall_mem_cons.mpr ⟨(mwsX3_viewMerge_1 _ (List.mem_of_getElem? (i := 10) rfl)), (List.forall_mem_cons.mpr ⟨(mwsX3_viewMerge_0 _ (List.mem_of_getElem? (i := 23) rfl)), (fun _ h => absurd h List.not_mem_nil)⟩)⟩)⟩)⟩) (by decide +kernel)) ggX3_viewMerge_X1_isWithin
set_option maxRecDepth 20000 in
theorem ggX3_viewMerge_X1_book : GoodIn wsX3_viewMerge wsX1_book := goodIn_sub (List.forall_mem_cons.mpr ⟨(mwsX3_viewMerge_1 _ (List.mem_of_getElem? (i := 0) rfl)), (List.forall_mem_cons.mpr ⟨(mwsX3_viewMerge_1 _ (List.mem_of_getElem? (i := 1) rfl)), (tk_mem 7 _ (fun w h => (mwsX3_viewMerge_6 _ (tkB_mem 0 7 h))) (fun _ h => absurd h List.not_mem_nil))⟩)⟩) (by decide +kernel)
set_option maxRecDepth 20000 in
theorem gX3_viewMerge_X1_book : GoodIn wsX3_viewMerge (wsV RX3 165 RX1 yX1_book wsX1_book) := goodIn_app (goodIn_sub (tk_mem 4 _ (fun w h => (mwsX3_viewMerge_0 _ (tkB_mem 20 4 h))) (fun _ h => absurd h List.not_mem_nil)) (by decide +kernel)) ggX3_viewMerge_X1_book
set_option maxRecDepth 20000 in
theorem ggX3_viewMerge_X0_putTogether : GoodIn wsX3_viewMerge wsX0_putTogether := goodIn_sub (List.forall_mem_cons.mpr ⟨(mwsX3_viewMerge_1 _ (List.mem_of_getElem? (i := 22) rfl)), (List.forall_mem_cons.mpr ⟨(mwsX3_viewMerge_1 _ (List.mem_of_getElem? (i := 23) rfl)), (List.forall_mem_cons.mpr ⟨(mwsX3_viewMerge_2 _ (List.mem_of_getElem? (i := 0) rfl)), (List.forall_mem_cons.mpr ⟨(mwsX3_viewMerge_2 _ (List.mem_of_getElem? (i := 1) rfl)), (List.forall_mem_cons.mpr ⟨(mwsX3_viewMerge_1 _ (List.mem_of_getElem? (i := 5) rfl)), (tk_mem 10 _ (fun w h => (mwsX3_viewMerge_2 _ (tkB_mem 2 10 h))) (tk_mem 4 _ (fun w h => (mwsX3_viewMerge_1 _ (tkB_mem 15 4 h))) (tk_mem 12 _ (fun w h => (mwsX3_viewMerge_2 _ (tkB_mem 12 12 h))) (tk_mem 24 _ (fun w h => (mwsX3_viewMerge_3 _ (tkB_mem 0 24 h))) (tk_mem 18 _ (fun w h => (mwsX3_viewMerge_4 _ (tkB_mem 0 18 h))) (tk_mem 7 _ (fun w h => (mwsX3_viewMerge_7 _ (tkB_mem 0 7 h))) (fun _ h => absurd h List.not_mem_nil)))))))⟩)⟩)⟩)⟩)⟩) (by decide +kernel)
set_option maxRecDepth 20000 in
theorem gX3_viewMerge_X0_putTogether : GoodIn wsX3_viewMerge (wsV RX3 67 RX0 yX0_putTogether wsX0_putTogether) := goodIn_app (goodIn_sub (List.forall_mem_cons.mpr ⟨(mwsX3_viewMerge_1 _ (List.mem_of_getElem? (i := 19) rfl)), (List.forall_mem_cons.mpr ⟨(mwsX3_viewMerge_1 _ (List.mem_of_getElem? (i := 20) rfl)), (List.forall_mem_cons.mpr ⟨(mwsX3_viewMerge_1 _ (List.mem_of_getElem? (i := 21) rfl)), (List.forall_mem_cons.mpr ⟨(mwsX3_viewMerge_1 _ (List.mem_of_getElem? (i := 5) rfl)), (fun _ h => absurd h List.not_mem_nil)⟩)⟩)⟩)⟩) (by decide +kernel)) ggX3_viewMerge_X0_putTogether
theorem adX3_viewMerge_0 : fd_rows (cX3_viewMerge.data.toList.drop 0) 0 [(0, some (.aload_n 0), 1), (1, some (.iload_n 1), 1), (2, some (.iload_n 2), 1), (3, some (.iload_n 3), 1), (4, some (.invokevirtual 167), 3), (7, some (.astore 4), 2), (9, some (.aload 4), 2), (11, some (.iload_n 2), 1), (12, some (.invokevirtual 162), 3), (15, some (.ifCond .eq 16), 3), (18, some (.aload 4), 2), (20, some (.invokevirtual 165), 3), (23, some (.iload_n 2), 1), (24, some (.iload_n 3), 1), (25, some (.invokevirtual 67), 3), (28, some (.goto 6), 3)] = true := by decide +kernel
theorem adX3_viewMerge_1 : fd_rows (cX3_viewMerge.data.toList.drop 31) 31 [(31, some (.sipush (-20000)), 3), (34, some (.ireturn), 1)] = true := by decide +kernel
theorem dX3_viewMerge_0 : decode cX3_viewMerge 0 = .ok (.aload_n 0, 1) := fd_get adX3_viewMerge_0 (k := 0) rfl
theorem dX3_viewMerge_1 : decode cX3_viewMerge 1 = .ok (.iload_n 1, 1) := fd_get adX3_viewMerge_0 (k := 1) rfl
theorem dX3_viewMerge_2 : decode cX3_viewMerge 2 = .ok (.iload_n 2, 1) := fd_get adX3_viewMerge_0 (k := 2) rfl
theorem dX3_viewMerge_3 : decode cX3_viewMerge 3 = .ok (.iload_n 3, 1) := fd_get adX3_viewMerge_0 (k := 3) rfl
theorem dX3_viewMerge_4 : decode cX3_viewMerge 4 = .ok (.invokevirtual 167, 3) := fd_get adX3_viewMerge_0 (k := 4) rfl
theorem dX3_viewMerge_7 : decode cX3_viewMerge 7 = .ok (.astore 4, 2) := fd_get adX3_viewMerge_0 (k := 5) rfl
theorem dX3_viewMerge_9 : decode cX3_viewMerge 9 = .ok (.aload 4, 2) := fd_get adX3_viewMerge_0 (k := 6) rfl
theorem dX3_viewMerge_11 : decode cX3_viewMerge 11 = .ok (.iload_n 2, 1) := fd_get adX3_viewMerge_0 (k := 7) rfl
theorem dX3_viewMerge_12 : decode cX3_viewMerge 12 = .ok (.invokevirtual 162, 3) := fd_get adX3_viewMerge_0 (k := 8) rfl
theorem dX3_viewMerge_15 : decode cX3_viewMerge 15 = .ok (.ifCond .eq 16, 3) := fd_get adX3_viewMerge_0 (k := 9) rfl
theorem dX3_viewMerge_18 : decode cX3_viewMerge 18 = .ok (.aload 4, 2) := fd_get adX3_viewMerge_0 (k := 10) rfl
theorem dX3_viewMerge_20 : decode cX3_viewMerge 20 = .ok (.invokevirtual 165, 3) := fd_get adX3_viewMerge_0 (k := 11) rfl
theorem dX3_viewMerge_23 : decode cX3_viewMerge 23 = .ok (.iload_n 2, 1) := fd_get adX3_viewMerge_0 (k := 12) rfl
theorem dX3_viewMerge_24 : decode cX3_viewMerge 24 = .ok (.iload_n 3, 1) := fd_get adX3_viewMerge_0 (k := 13) rfl
theorem dX3_viewMerge_25 : decode cX3_viewMerge 25 = .ok (.invokevirtual 67, 3) := fd_get adX3_viewMerge_0 (k := 14) rfl
theorem dX3_viewMerge_28 : decode cX3_viewMerge 28 = .ok (.goto 6, 3) := fd_get adX3_viewMerge_0 (k := 15) rfl
theorem dX3_viewMerge_31 : decode cX3_viewMerge 31 = .ok (.sipush (-20000), 3) := fd_get adX3_viewMerge_1 (k := 0) rfl
theorem dX3_viewMerge_34 : decode cX3_viewMerge 34 = .ok (.ireturn, 1) := fd_get adX3_viewMerge_1 (k := 1) rfl
theorem mwsX3_viewPoll_0 : ∀ w ∈ wsX3_viewPoll_r1, w ∈ wsX3_viewPoll := fun w h => (List.mem_cons_of_mem _ (List.mem_append_left _ (List.mem_append_left _ (List.mem_append_left _ (List.mem_append_left _ (List.mem_append_left _ h))))))
theorem mwsX3_viewPoll_1 : ∀ w ∈ wsX3_viewPoll_r2, w ∈ wsX3_viewPoll := fun w h => (List.mem_cons_of_mem _ (List.mem_append_left _ (List.mem_append_left _ (List.mem_append_left _ (List.mem_append_left _ (List.mem_append_right _ (List.mem_append_left _ h)))))))
theorem mwsX3_viewPoll_2 : ∀ w ∈ wsX3_viewPoll_r3, w ∈ wsX3_viewPoll := fun w h => (List.mem_cons_of_mem _ (List.mem_append_left _ (List.mem_append_left _ (List.mem_append_left _ (List.mem_append_left _ (List.mem_append_right _ (List.mem_append_right _ h)))))))
theorem mwsX3_viewPoll_3 : ∀ w ∈ wsX30, w ∈ wsX3_viewPoll := fun w h => (List.mem_cons_of_mem _ (List.mem_append_left _ (List.mem_append_left _ (List.mem_append_left _ (List.mem_append_right _ h)))))
theorem mwsX3_viewPoll_4 : ∀ w ∈ wsX10, w ∈ wsX3_viewPoll := fun w h => (List.mem_cons_of_mem _ (List.mem_append_left _ (List.mem_append_left _ (List.mem_append_right _ h))))
theorem mwsX3_viewPoll_5 : ∀ w ∈ wsX00, w ∈ wsX3_viewPoll := fun w h => (List.mem_cons_of_mem _ (List.mem_append_left _ (List.mem_append_right _ h)))
set_option maxRecDepth 20000 in
theorem ggX3_viewPoll_X3_viewAt : GoodIn wsX3_viewPoll wsX3_viewAt := goodIn_ca (goodIn_sub (tk_mem 4 _ (fun w h => (mwsX3_viewPoll_0 _ (tkB_mem 4 4 h))) (tk_mem 6 _ (fun w h => (mwsX3_viewPoll_3 _ (tkB_mem 0 6 h))) (fun _ h => absurd h List.not_mem_nil))) (by decide +kernel)) (goodIn_sub (fun _ h => List.mem_cons_of_mem _ (List.mem_append_right _ h)) (by decide +kernel))
set_option maxRecDepth 20000 in
theorem gX3_viewPoll_X3_viewAt : GoodIn wsX3_viewPoll (wsV RX3 158 RX3 yX3_viewAt wsX3_viewAt) := goodIn_app (goodIn_sub (tk_mem 4 _ (fun w h => (mwsX3_viewPoll_0 _ (tkB_mem 0 4 h))) (fun _ h => absurd h List.not_mem_nil)) (by decide +kernel)) ggX3_viewPoll_X3_viewAt
set_option maxRecDepth 20000 in
theorem ggX3_viewPoll_X1_book : GoodIn wsX3_viewPoll wsX1_book := goodIn_sub (List.forall_mem_cons.mpr ⟨(mwsX3_viewPoll_0 _ (List.mem_of_getElem? (i := 12) rfl)), (List.forall_mem_cons.mpr ⟨(mwsX3_viewPoll_0 _ (List.mem_of_getElem? (i := 13) rfl)), (tk_mem 7 _ (fun w h => (mwsX3_viewPoll_4 _ (tkB_mem 0 7 h))) (fun _ h => absurd h List.not_mem_nil))⟩)⟩) (by decide +kernel)
set_option maxRecDepth 20000 in
theorem gX3_viewPoll_X1_book : GoodIn wsX3_viewPoll (wsV RX3 165 RX1 yX1_book wsX1_book) := goodIn_app (goodIn_sub (tk_mem 4 _ (fun w h => (mwsX3_viewPoll_0 _ (tkB_mem 8 4 h))) (fun _ h => absurd h List.not_mem_nil)) (by decide +kernel)) ggX3_viewPoll_X1_book
set_option maxRecDepth 20000 in
theorem ggX3_viewPoll_X0_touch : GoodIn wsX3_viewPoll wsX0_touch := goodIn_sub (List.forall_mem_cons.mpr ⟨(mwsX3_viewPoll_0 _ (List.mem_of_getElem? (i := 18) rfl)), (List.forall_mem_cons.mpr ⟨(mwsX3_viewPoll_0 _ (List.mem_of_getElem? (i := 19) rfl)), (tk_mem 7 _ (fun w h => (mwsX3_viewPoll_5 _ (tkB_mem 0 7 h))) (fun _ h => absurd h List.not_mem_nil))⟩)⟩) (by decide +kernel)
set_option maxRecDepth 20000 in
theorem gX3_viewPoll_X0_touch : GoodIn wsX3_viewPoll (wsV RX3 57 RX0 yX0_touch wsX0_touch) := goodIn_app (goodIn_sub (tk_mem 4 _ (fun w h => (mwsX3_viewPoll_0 _ (tkB_mem 14 4 h))) (fun _ h => absurd h List.not_mem_nil)) (by decide +kernel)) ggX3_viewPoll_X0_touch
set_option maxRecDepth 20000 in
theorem ggX3_viewPoll_X1_size : GoodIn wsX3_viewPoll wsX1_size := goodIn_sub (List.forall_mem_cons.mpr ⟨(mwsX3_viewPoll_0 _ (List.mem_of_getElem? (i := 23) rfl)), (List.forall_mem_cons.mpr ⟨(mwsX3_viewPoll_1 _ (List.mem_of_getElem? (i := 0) rfl)), (List.forall_mem_cons.mpr ⟨(mwsX3_viewPoll_1 _ (List.mem_of_getElem? (i := 1) rfl)), (List.forall_mem_cons.mpr ⟨(mwsX3_viewPoll_1 _ (List.mem_of_getElem? (i := 2) rfl)), (List.forall_mem_cons.mpr ⟨(mwsX3_viewPoll_0 _ (List.mem_of_getElem? (i := 11) rfl)), (List.forall_mem_cons.mpr ⟨(mwsX3_viewPoll_1 _ (List.mem_of_getElem? (i := 3) rfl)), (List.forall_mem_cons.mpr ⟨(mwsX3_viewPoll_0 _ (List.mem_of_getElem? (i := 13) rfl)), (tk_mem 4 _ (fun w h => (mwsX3_viewPoll_1 _ (tkB_mem 4 4 h))) (List.forall_mem_cons.mpr ⟨(mwsX3_viewPoll_0 _ (List.mem_of_getElem? (i := 17) rfl)), (tk_mem 13 _ (fun w h => (mwsX3_viewPoll_1 _ (tkB_mem 8 13 h))) (tk_mem 7 _ (fun w h => (mwsX3_viewPoll_4 _ (tkB_mem 0 7 h))) (tk_mem 7 _ (fun w h => (mwsX3_viewPoll_5 _ (tkB_mem 0 7 h))) (fun _ h => absurd h List.not_mem_nil))))⟩))⟩)⟩)⟩)⟩)⟩)⟩)⟩) (by decide +kernel)
set_option maxRecDepth 20000 in
theorem gX3_viewPoll_X1_size : GoodIn wsX3_viewPoll (wsV RX3 166 RX1 yX1_size wsX1_size) := goodIn_app (goodIn_sub (List.forall_mem_cons.mpr ⟨(mwsX3_viewPoll_0 _ (List.mem_of_getElem? (i := 20) rfl)), (List.forall_mem_cons.mpr ⟨(mwsX3_viewPoll_0 _ (List.mem_of_getElem? (i := 21) rfl)), (List.forall_mem_cons.mpr ⟨(mwsX3_viewPoll_0 _ (List.mem_of_getElem? (i := 22) rfl)), (List.forall_mem_cons.mpr ⟨(mwsX3_viewPoll_0 _ (List.mem_of_getElem? (i := 11) rfl)), (fun _ h => absurd h List.not_mem_nil)⟩)⟩)⟩)⟩) (by decide +kernel)) ggX3_viewPoll_X1_size
set_option maxRecDepth 20000 in
theorem ggX3_viewPoll_X1_end : GoodIn wsX3_viewPoll wsX1_end := goodIn_sub (List.forall_mem_cons.mpr ⟨(mwsX3_viewPoll_1 _ (List.mem_of_getElem? (i := 3) rfl)), (List.forall_mem_cons.mpr ⟨(mwsX3_viewPoll_0 _ (List.mem_of_getElem? (i := 13) rfl)), (tk_mem 4 _ (fun w h => (mwsX3_viewPoll_1 _ (tkB_mem 4 4 h))) (List.forall_mem_cons.mpr ⟨(mwsX3_viewPoll_0 _ (List.mem_of_getElem? (i := 17) rfl)), (tk_mem 8 _ (fun w h => (mwsX3_viewPoll_1 _ (tkB_mem 8 8 h))) (tk_mem 7 _ (fun w h => (mwsX3_viewPoll_4 _ (tkB_mem 0 7 h))) (tk_mem 7 _ (fun w h => (mwsX3_viewPoll_5 _ (tkB_mem 0 7 h))) (fun _ h => absurd h List.not_mem_nil))))⟩))⟩)⟩) (by decide +kernel)
set_option maxRecDepth 20000 in
theorem gX3_viewPoll_X1_end : GoodIn wsX3_viewPoll (wsV RX3 171 RX1 yX1_end wsX1_end) := goodIn_app (goodIn_sub (List.forall_mem_cons.mpr ⟨(mwsX3_viewPoll_1 _ (List.mem_of_getElem? (i := 21) rfl)), (List.forall_mem_cons.mpr ⟨(mwsX3_viewPoll_1 _ (List.mem_of_getElem? (i := 1) rfl)), (List.forall_mem_cons.mpr ⟨(mwsX3_viewPoll_1 _ (List.mem_of_getElem? (i := 2) rfl)), (List.forall_mem_cons.mpr ⟨(mwsX3_viewPoll_0 _ (List.mem_of_getElem? (i := 11) rfl)), (fun _ h => absurd h List.not_mem_nil)⟩)⟩)⟩)⟩) (by decide +kernel)) ggX3_viewPoll_X1_end
set_option maxRecDepth 20000 in
theorem ggX3_viewPoll_X1_start : GoodIn wsX3_viewPoll wsX1_start := goodIn_sub (List.forall_mem_cons.mpr ⟨(mwsX3_viewPoll_1 _ (List.mem_of_getElem? (i := 19) rfl)), (List.forall_mem_cons.mpr ⟨(mwsX3_viewPoll_0 _ (List.mem_of_getElem? (i := 13) rfl)), (List.forall_mem_cons.mpr ⟨(mwsX3_viewPoll_1 _ (List.mem_of_getElem? (i := 20) rfl)), (List.forall_mem_cons.mpr ⟨(mwsX3_viewPoll_1 _ (List.mem_of_getElem? (i := 5) rfl)), (List.forall_mem_cons.mpr ⟨(mwsX3_viewPoll_1 _ (List.mem_of_getElem? (i := 6) rfl)), (List.forall_mem_cons.mpr ⟨(mwsX3_viewPoll_1 _ (List.mem_of_getElem? (i := 7) rfl)), (List.forall_mem_cons.mpr ⟨(mwsX3_viewPoll_0 _ (List.mem_of_getElem? (i := 17) rfl)), (tk_mem 8 _ (fun w h => (mwsX3_viewPoll_1 _ (tkB_mem 8 8 h))) (tk_mem 7 _ (fun w h => (mwsX3_viewPoll_4 _ (tkB_mem 0 7 h))) (tk_mem 7 _ (fun w h => (mwsX3_viewPoll_5 _ (tkB_mem 0 7 h))) (fun _ h => absurd h List.not_mem_nil))))⟩)⟩)⟩)⟩)⟩)⟩)⟩) (by decide +kernel)
set_option maxRecDepth 20000 in
theorem gX3_viewPoll_X1_start : GoodIn wsX3_viewPoll (wsV RX3 174 RX1 yX1_start wsX1_start) := goodIn_app (goodIn_sub (List.forall_mem_cons.mpr ⟨(mwsX3_viewPoll_1 _ (List.mem_of_getElem? (i := 22) rfl)), (List.forall_mem_cons.mpr ⟨(mwsX3_viewPoll_1 _ (List.mem_of_getElem? (i := 17) rfl)), (List.forall_mem_cons.mpr ⟨(mwsX3_viewPoll_1 _ (List.mem_of_getElem? (i := 18) rfl)), (List.forall_mem_cons.mpr ⟨(mwsX3_viewPoll_0 _ (List.mem_of_getElem? (i := 11) rfl)), (fun _ h => absurd h List.not_mem_nil)⟩)⟩)⟩)⟩) (by decide +kernel)) ggX3_viewPoll_X1_start
set_option maxRecDepth 20000 in
theorem ggX3_viewPoll_X0_removeAt : GoodIn wsX3_viewPoll wsX0_removeAt := goodIn_sub (tk_mem 4 _ (fun w h => (mwsX3_viewPoll_2 _ (tkB_mem 2 4 h))) (List.forall_mem_cons.mpr ⟨(mwsX3_viewPoll_0 _ (List.mem_of_getElem? (i := 17) rfl)), (List.forall_mem_cons.mpr ⟨(mwsX3_viewPoll_2 _ (List.mem_of_getElem? (i := 6) rfl)), (List.forall_mem_cons.mpr ⟨(mwsX3_viewPoll_1 _ (List.mem_of_getElem? (i := 10) rfl)), (tk_mem 4 _ (fun w h => (mwsX3_viewPoll_2 _ (tkB_mem 7 4 h))) (List.forall_mem_cons.mpr ⟨(mwsX3_viewPoll_1 _ (List.mem_of_getElem? (i := 9) rfl)), (tk_mem 10 _ (fun w h => (mwsX3_viewPoll_2 _ (tkB_mem 11 10 h))) (tk_mem 7 _ (fun w h => (mwsX3_viewPoll_5 _ (tkB_mem 0 7 h))) (fun _ h => absurd h List.not_mem_nil)))⟩))⟩)⟩)⟩)) (by decide +kernel)
set_option maxRecDepth 20000 in
theorem gX3_viewPoll_X0_removeAt : GoodIn wsX3_viewPoll (wsV RX3 83 RX0 yX0_removeAt wsX0_removeAt) := goodIn_app (goodIn_sub (List.forall_mem_cons.mpr ⟨(mwsX3_viewPoll_1 _ (List.mem_of_getElem? (i := 23) rfl)), (List.forall_mem_cons.mpr ⟨(mwsX3_viewPoll_2 _ (List.mem_of_getElem? (i := 0) rfl)), (List.forall_mem_cons.mpr ⟨(mwsX3_viewPoll_2 _ (List.mem_of_getElem? (i := 1) rfl)), (List.forall_mem_cons.mpr ⟨(mwsX3_viewPoll_0 _ (List.mem_of_getElem? (i := 17) rfl)), (fun _ h => absurd h List.not_mem_nil)⟩)⟩)⟩)⟩) (by decide +kernel)) ggX3_viewPoll_X0_removeAt
theorem adX3_viewPoll_0 : fd_rows (cX3_viewPoll.data.toList.drop 0) 0 [(0, some (.aload_n 0), 1), (1, some (.iload_n 1), 1), (2, some (.invokevirtual 158), 3), (5, some (.astore_n 3), 1), (6, some (.aload_n 3), 1), (7, some (.invokevirtual 165), 3), (10, some (.invokevirtual 57), 3), (13, some (.aload_n 3), 1), (14, some (.invokevirtual 166), 3), (17, some (.ifCond .ne 7), 3), (20, some (.sipush (-10000)), 3), (23, some (.ireturn), 1), (24, some (.aload_n 3), 1), (25, some (.invokevirtual 165), 3), (28, some (.iload_n 2), 1), (29, some (.ifCond .eq 12), 3)] = true := by decide +kernel
theorem adX3_viewPoll_1 : fd_rows (cX3_viewPoll.data.toList.drop 32) 32 [(32, some (.aload_n 3), 1), (33, some (.invokevirtual 171), 3), (36, some (.iconst 1), 1), (37, some (.isub), 1), (38, some (.goto 7), 3), (41, some (.aload_n 3), 1), (42, some (.invokevirtual 174), 3), (45, some (.invokevirtual 83), 3), (48, some (.ireturn), 1)] = true := by decide +kernel
theorem dX3_viewPoll_0 : decode cX3_viewPoll 0 = .ok (.aload_n 0, 1) := fd_get adX3_viewPoll_0 (k := 0) rfl
theorem dX3_viewPoll_1 : decode cX3_viewPoll 1 = .ok (.iload_n 1, 1) := fd_get adX3_viewPoll_0 (k := 1) rfl
theorem dX3_viewPoll_2 : decode cX3_viewPoll 2 = .ok (.invokevirtual 158, 3) := fd_get adX3_viewPoll_0 (k := 2) rfl
theorem dX3_viewPoll_5 : decode cX3_viewPoll 5 = .ok (.astore_n 3, 1) := fd_get adX3_viewPoll_0 (k := 3) rfl
theorem dX3_viewPoll_6 : decode cX3_viewPoll 6 = .ok (.aload_n 3, 1) := fd_get adX3_viewPoll_0 (k := 4) rfl
theorem dX3_viewPoll_7 : decode cX3_viewPoll 7 = .ok (.invokevirtual 165, 3) := fd_get adX3_viewPoll_0 (k := 5) rfl
theorem dX3_viewPoll_10 : decode cX3_viewPoll 10 = .ok (.invokevirtual 57, 3) := fd_get adX3_viewPoll_0 (k := 6) rfl
theorem dX3_viewPoll_13 : decode cX3_viewPoll 13 = .ok (.aload_n 3, 1) := fd_get adX3_viewPoll_0 (k := 7) rfl
theorem dX3_viewPoll_14 : decode cX3_viewPoll 14 = .ok (.invokevirtual 166, 3) := fd_get adX3_viewPoll_0 (k := 8) rfl
theorem dX3_viewPoll_17 : decode cX3_viewPoll 17 = .ok (.ifCond .ne 7, 3) := fd_get adX3_viewPoll_0 (k := 9) rfl
theorem dX3_viewPoll_20 : decode cX3_viewPoll 20 = .ok (.sipush (-10000), 3) := fd_get adX3_viewPoll_0 (k := 10) rfl
theorem dX3_viewPoll_23 : decode cX3_viewPoll 23 = .ok (.ireturn, 1) := fd_get adX3_viewPoll_0 (k := 11) rfl
theorem dX3_viewPoll_24 : decode cX3_viewPoll 24 = .ok (.aload_n 3, 1) := fd_get adX3_viewPoll_0 (k := 12) rfl
theorem dX3_viewPoll_25 : decode cX3_viewPoll 25 = .ok (.invokevirtual 165, 3) := fd_get adX3_viewPoll_0 (k := 13) rfl
theorem dX3_viewPoll_28 : decode cX3_viewPoll 28 = .ok (.iload_n 2, 1) := fd_get adX3_viewPoll_0 (k := 14) rfl
theorem dX3_viewPoll_29 : decode cX3_viewPoll 29 = .ok (.ifCond .eq 12, 3) := fd_get adX3_viewPoll_0 (k := 15) rfl
theorem dX3_viewPoll_32 : decode cX3_viewPoll 32 = .ok (.aload_n 3, 1) := fd_get adX3_viewPoll_1 (k := 0) rfl
theorem dX3_viewPoll_33 : decode cX3_viewPoll 33 = .ok (.invokevirtual 171, 3) := fd_get adX3_viewPoll_1 (k := 1) rfl
theorem dX3_viewPoll_36 : decode cX3_viewPoll 36 = .ok (.iconst 1, 1) := fd_get adX3_viewPoll_1 (k := 2) rfl
theorem dX3_viewPoll_37 : decode cX3_viewPoll 37 = .ok (.isub, 1) := fd_get adX3_viewPoll_1 (k := 3) rfl
theorem dX3_viewPoll_38 : decode cX3_viewPoll 38 = .ok (.goto 7, 3) := fd_get adX3_viewPoll_1 (k := 4) rfl
theorem dX3_viewPoll_41 : decode cX3_viewPoll 41 = .ok (.aload_n 3, 1) := fd_get adX3_viewPoll_1 (k := 5) rfl
theorem dX3_viewPoll_42 : decode cX3_viewPoll 42 = .ok (.invokevirtual 174, 3) := fd_get adX3_viewPoll_1 (k := 6) rfl
theorem dX3_viewPoll_45 : decode cX3_viewPoll 45 = .ok (.invokevirtual 83, 3) := fd_get adX3_viewPoll_1 (k := 7) rfl
theorem dX3_viewPoll_48 : decode cX3_viewPoll 48 = .ok (.ireturn, 1) := fd_get adX3_viewPoll_1 (k := 8) rfl
theorem mwsX3_viewClear_0 : ∀ w ∈ wsX3_viewClear_r1, w ∈ wsX3_viewClear := fun w h => (List.mem_cons_of_mem _ (List.mem_append_left _ (List.mem_append_left _ (List.mem_append_left _ (List.mem_append_left _ (List.mem_append_left _ h))))))
theorem mwsX3_viewClear_1 : ∀ w ∈ wsX3_viewClear_r2, w ∈ wsX3_viewClear := fun w h => (List.mem_cons_of_mem _ (List.mem_append_left _ (List.mem_append_left _ (List.mem_append_left _ (List.mem_append_left _ (List.mem_append_right _ (List.mem_append_left _ h)))))))
theorem mwsX3_viewClear_2 : ∀ w ∈ wsX3_viewClear_r3, w ∈ wsX3_viewClear := fun w h => (List.mem_cons_of_mem _ (List.mem_append_left _ (List.mem_append_left _ (List.mem_append_left _ (List.mem_append_left _ (List.mem_append_right _ (List.mem_append_right _ h)))))))
theorem mwsX3_viewClear_3 : ∀ w ∈ wsX30, w ∈ wsX3_viewClear := fun w h => (List.mem_cons_of_mem _ (List.mem_append_left _ (List.mem_append_left _ (List.mem_append_left _ (List.mem_append_right _ h)))))
theorem mwsX3_viewClear_4 : ∀ w ∈ wsX10, w ∈ wsX3_viewClear := fun w h => (List.mem_cons_of_mem _ (List.mem_append_left _ (List.mem_append_left _ (List.mem_append_right _ h))))
theorem mwsX3_viewClear_5 : ∀ w ∈ wsX00, w ∈ wsX3_viewClear := fun w h => (List.mem_cons_of_mem _ (List.mem_append_left _ (List.mem_append_right _ h)))
set_option maxRecDepth 20000 in
theorem ggX3_viewClear_X3_viewAt : GoodIn wsX3_viewClear wsX3_viewAt := goodIn_ca (goodIn_sub (tk_mem 4 _ (fun w h => (mwsX3_viewClear_0 _ (tkB_mem 4 4 h))) (tk_mem 6 _ (fun w h => (mwsX3_viewClear_3 _ (tkB_mem 0 6 h))) (fun _ h => absurd h List.not_mem_nil))) (by decide +kernel)) (goodIn_sub (fun _ h => List.mem_cons_of_mem _ (List.mem_append_right _ h)) (by decide +kernel))
set_option maxRecDepth 20000 in
theorem gX3_viewClear_X3_viewAt : GoodIn wsX3_viewClear (wsV RX3 158 RX3 yX3_viewAt wsX3_viewAt) := goodIn_app (goodIn_sub (tk_mem 4 _ (fun w h => (mwsX3_viewClear_0 _ (tkB_mem 0 4 h))) (fun _ h => absurd h List.not_mem_nil)) (by decide +kernel)) ggX3_viewClear_X3_viewAt
set_option maxRecDepth 20000 in
theorem ggX3_viewClear_X1_book : GoodIn wsX3_viewClear wsX1_book := goodIn_sub (List.forall_mem_cons.mpr ⟨(mwsX3_viewClear_0 _ (List.mem_of_getElem? (i := 12) rfl)), (List.forall_mem_cons.mpr ⟨(mwsX3_viewClear_0 _ (List.mem_of_getElem? (i := 13) rfl)), (tk_mem 7 _ (fun w h => (mwsX3_viewClear_4 _ (tkB_mem 0 7 h))) (fun _ h => absurd h List.not_mem_nil))⟩)⟩) (by decide +kernel)
set_option maxRecDepth 20000 in
theorem gX3_viewClear_X1_book : GoodIn wsX3_viewClear (wsV RX3 165 RX1 yX1_book wsX1_book) := goodIn_app (goodIn_sub (tk_mem 4 _ (fun w h => (mwsX3_viewClear_0 _ (tkB_mem 8 4 h))) (fun _ h => absurd h List.not_mem_nil)) (by decide +kernel)) ggX3_viewClear_X1_book
set_option maxRecDepth 20000 in
theorem ggX3_viewClear_X0_touch : GoodIn wsX3_viewClear wsX0_touch := goodIn_sub (List.forall_mem_cons.mpr ⟨(mwsX3_viewClear_0 _ (List.mem_of_getElem? (i := 18) rfl)), (List.forall_mem_cons.mpr ⟨(mwsX3_viewClear_0 _ (List.mem_of_getElem? (i := 19) rfl)), (tk_mem 7 _ (fun w h => (mwsX3_viewClear_5 _ (tkB_mem 0 7 h))) (fun _ h => absurd h List.not_mem_nil))⟩)⟩) (by decide +kernel)
set_option maxRecDepth 20000 in
theorem gX3_viewClear_X0_touch : GoodIn wsX3_viewClear (wsV RX3 57 RX0 yX0_touch wsX0_touch) := goodIn_app (goodIn_sub (tk_mem 4 _ (fun w h => (mwsX3_viewClear_0 _ (tkB_mem 14 4 h))) (fun _ h => absurd h List.not_mem_nil)) (by decide +kernel)) ggX3_viewClear_X0_touch
set_option maxRecDepth 20000 in
theorem ggX3_viewClear_X1_start : GoodIn wsX3_viewClear wsX1_start := goodIn_sub (List.forall_mem_cons.mpr ⟨(mwsX3_viewClear_0 _ (List.mem_of_getElem? (i := 23) rfl)), (List.forall_mem_cons.mpr ⟨(mwsX3_viewClear_0 _ (List.mem_of_getElem? (i := 13) rfl)), (tk_mem 4 _ (fun w h => (mwsX3_viewClear_1 _ (tkB_mem 0 4 h))) (List.forall_mem_cons.mpr ⟨(mwsX3_viewClear_0 _ (List.mem_of_getElem? (i := 17) rfl)), (tk_mem 8 _ (fun w h => (mwsX3_viewClear_1 _ (tkB_mem 4 8 h))) (tk_mem 7 _ (fun w h => (mwsX3_viewClear_4 _ (tkB_mem 0 7 h))) (tk_mem 7 _ (fun w h => (mwsX3_viewClear_5 _ (tkB_mem 0 7 h))) (fun _ h => absurd h List.not_mem_nil))))⟩))⟩)⟩) (by decide +kernel)
set_option maxRecDepth 20000 in
theorem gX3_viewClear_X1_start : GoodIn wsX3_viewClear (wsV RX3 174 RX1 yX1_start wsX1_start) := goodIn_app (goodIn_sub (List.forall_mem_cons.mpr ⟨(mwsX3_viewClear_0 _ (List.mem_of_getElem? (i := 20) rfl)), (List.forall_mem_cons.mpr ⟨(mwsX3_viewClear_0 _ (List.mem_of_getElem? (i := 21) rfl)), (List.forall_mem_cons.mpr ⟨(mwsX3_viewClear_0 _ (List.mem_of_getElem? (i := 22) rfl)), (List.forall_mem_cons.mpr ⟨(mwsX3_viewClear_0 _ (List.mem_of_getElem? (i := 11) rfl)), (fun _ h => absurd h List.not_mem_nil)⟩)⟩)⟩)⟩) (by decide +kernel)) ggX3_viewClear_X1_start
set_option maxRecDepth 20000 in
theorem ggX3_viewClear_X1_end : GoodIn wsX3_viewClear wsX1_end := goodIn_sub (List.forall_mem_cons.mpr ⟨(mwsX3_viewClear_1 _ (List.mem_of_getElem? (i := 15) rfl)), (List.forall_mem_cons.mpr ⟨(mwsX3_viewClear_0 _ (List.mem_of_getElem? (i := 13) rfl)), (List.forall_mem_cons.mpr ⟨(mwsX3_viewClear_1 _ (List.mem_of_getElem? (i := 16) rfl)), (List.forall_mem_cons.mpr ⟨(mwsX3_viewClear_1 _ (List.mem_of_getElem? (i := 1) rfl)), (List.forall_mem_cons.mpr ⟨(mwsX3_viewClear_1 _ (List.mem_of_getElem? (i := 2) rfl)), (List.forall_mem_cons.mpr ⟨(mwsX3_viewClear_1 _ (List.mem_of_getElem? (i := 3) rfl)), (List.forall_mem_cons.mpr ⟨(mwsX3_viewClear_0 _ (List.mem_of_getElem? (i := 17) rfl)), (tk_mem 8 _ (fun w h => (mwsX3_viewClear_1 _ (tkB_mem 4 8 h))) (tk_mem 7 _ (fun w h => (mwsX3_viewClear_4 _ (tkB_mem 0 7 h))) (tk_mem 7 _ (fun w h => (mwsX3_viewClear_5 _ (tkB_mem 0 7 h))) (fun _ h => absurd h List.not_mem_nil))))⟩)⟩)⟩)⟩)⟩)⟩)⟩) (by decide +kernel)
set_option maxRecDepth 20000 in
theorem gX3_viewClear_X1_end : GoodIn wsX3_viewClear (wsV RX3 171 RX1 yX1_end wsX1_end) := goodIn_app (goodIn_sub (List.forall_mem_cons.mpr ⟨(mwsX3_viewClear_1 _ (List.mem_of_getElem? (i := 12) rfl)), (List.forall_mem_cons.mpr ⟨(mwsX3_viewClear_1 _ (List.mem_of_getElem? (i := 13) rfl)), (List.forall_mem_cons.mpr ⟨(mwsX3_viewClear_1 _ (List.mem_of_getElem? (i := 14) rfl)), (List.forall_mem_cons.mpr ⟨(mwsX3_viewClear_0 _ (List.mem_of_getElem? (i := 11) rfl)), (fun _ h => absurd h List.not_mem_nil)⟩)⟩)⟩)⟩) (by decide +kernel)) ggX3_viewClear_X1_end
set_option maxRecDepth 20000 in
theorem ggX3_viewClear_X0_removeRange : GoodIn wsX3_viewClear wsX0_removeRange := goodIn_sub (List.forall_mem_cons.mpr ⟨(mwsX3_viewClear_1 _ (List.mem_of_getElem? (i := 20) rfl)), (List.forall_mem_cons.mpr ⟨(mwsX3_viewClear_1 _ (List.mem_of_getElem? (i := 5) rfl)), (List.forall_mem_cons.mpr ⟨(mwsX3_viewClear_1 _ (List.mem_of_getElem? (i := 6) rfl)), (List.forall_mem_cons.mpr ⟨(mwsX3_viewClear_1 _ (List.mem_of_getElem? (i := 21) rfl)), (List.forall_mem_cons.mpr ⟨(mwsX3_viewClear_1 _ (List.mem_of_getElem? (i := 22) rfl)), (List.forall_mem_cons.mpr ⟨(mwsX3_viewClear_1 _ (List.mem_of_getElem? (i := 23) rfl)), (List.forall_mem_cons.mpr ⟨(mwsX3_viewClear_2 _ (List.mem_of_getElem? (i := 0) rfl)), (List.forall_mem_cons.mpr ⟨(mwsX3_viewClear_2 _ (List.mem_of_getElem? (i := 1) rfl)), (List.forall_mem_cons.mpr ⟨(mwsX3_viewClear_2 _ (List.mem_of_getElem? (i := 2) rfl)), (tk_mem 7 _ (fun w h => (mwsX3_viewClear_5 _ (tkB_mem 0 7 h))) (fun _ h => absurd h List.not_mem_nil))⟩)⟩)⟩)⟩)⟩)⟩)⟩)⟩)⟩) (by decide +kernel)
set_option maxRecDepth 20000 in
theorem gX3_viewClear_X0_removeRange : GoodIn wsX3_viewClear (wsV RX3 112 RX0 yX0_removeRange wsX0_removeRange) := goodIn_app (goodIn_sub (List.forall_mem_cons.mpr ⟨(mwsX3_viewClear_1 _ (List.mem_of_getElem? (i := 17) rfl)), (List.forall_mem_cons.mpr ⟨(mwsX3_viewClear_1 _ (List.mem_of_getElem? (i := 18) rfl)), (List.forall_mem_cons.mpr ⟨(mwsX3_viewClear_1 _ (List.mem_of_getElem? (i := 19) rfl)), (List.forall_mem_cons.mpr ⟨(mwsX3_viewClear_0 _ (List.mem_of_getElem? (i := 17) rfl)), (fun _ h => absurd h List.not_mem_nil)⟩)⟩)⟩)⟩) (by decide +kernel)) ggX3_viewClear_X0_removeRange
theorem adX3_viewClear_0 : fd_rows (cX3_viewClear.data.toList.drop 0) 0 [(0, some (.aload_n 0), 1), (1, some (.iload_n 1), 1), (2, some (.invokevirtual 158), 3), (5, some (.astore_n 2), 1), (6, some (.aload_n 2), 1), (7, some (.invokevirtual 165), 3), (10, some (.invokevirtual 57), 3), (13, some (.aload_n 2), 1), (14, some (.invokevirtual 165), 3), (17, some (.aload_n 2), 1), (18, some (.invokevirtual 174), 3), (21, some (.aload_n 2), 1), (22, some (.invokevirtual 171), 3), (25, some (.invokevirtual 112), 3), (28, some (.ireturn), 1)] = true := by decide +kernel
theorem dX3_viewClear_0 : decode cX3_viewClear 0 = .ok (.aload_n 0, 1) := fd_get adX3_viewClear_0 (k := 0) rfl
theorem dX3_viewClear_1 : decode cX3_viewClear 1 = .ok (.iload_n 1, 1) := fd_get adX3_viewClear_0 (k := 1) rfl
theorem dX3_viewClear_2 : decode cX3_viewClear 2 = .ok (.invokevirtual 158, 3) := fd_get adX3_viewClear_0 (k := 2) rfl
theorem dX3_viewClear_5 : decode cX3_viewClear 5 = .ok (.astore_n 2, 1) := fd_get adX3_viewClear_0 (k := 3) rfl
theorem dX3_viewClear_6 : decode cX3_viewClear 6 = .ok (.aload_n 2, 1) := fd_get adX3_viewClear_0 (k := 4) rfl
theorem dX3_viewClear_7 : decode cX3_viewClear 7 = .ok (.invokevirtual 165, 3) := fd_get adX3_viewClear_0 (k := 5) rfl
theorem dX3_viewClear_10 : decode cX3_viewClear 10 = .ok (.invokevirtual 57, 3) := fd_get adX3_viewClear_0 (k := 6) rfl
theorem dX3_viewClear_13 : decode cX3_viewClear 13 = .ok (.aload_n 2, 1) := fd_get adX3_viewClear_0 (k := 7) rfl
theorem dX3_viewClear_14 : decode cX3_viewClear 14 = .ok (.invokevirtual 165, 3) := fd_get adX3_viewClear_0 (k := 8) rfl
theorem dX3_viewClear_17 : decode cX3_viewClear 17 = .ok (.aload_n 2, 1) := fd_get adX3_viewClear_0 (k := 9) rfl
theorem dX3_viewClear_18 : decode cX3_viewClear 18 = .ok (.invokevirtual 174, 3) := fd_get adX3_viewClear_0 (k := 10) rfl
theorem dX3_viewClear_21 : decode cX3_viewClear 21 = .ok (.aload_n 2, 1) := fd_get adX3_viewClear_0 (k := 11) rfl
theorem dX3_viewClear_22 : decode cX3_viewClear 22 = .ok (.invokevirtual 171, 3) := fd_get adX3_viewClear_0 (k := 12) rfl
theorem dX3_viewClear_25 : decode cX3_viewClear 25 = .ok (.invokevirtual 112, 3) := fd_get adX3_viewClear_0 (k := 13) rfl
theorem dX3_viewClear_28 : decode cX3_viewClear 28 = .ok (.ireturn, 1) := fd_get adX3_viewClear_0 (k := 14) rfl
theorem mwsX3_walk_0 : ∀ w ∈ wsX3_walk_r1, w ∈ wsX3_walk := fun w h => (List.mem_cons_of_mem _ (List.mem_append_left _ (List.mem_append_left _ (List.mem_append_left _ (List.mem_append_left _ (List.mem_append_left _ (List.mem_append_left _ h)))))))
theorem mwsX3_walk_1 : ∀ w ∈ wsX3_walk_r2, w ∈ wsX3_walk := fun w h => (List.mem_cons_of_mem _ (List.mem_append_left _ (List.mem_append_left _ (List.mem_append_left _ (List.mem_append_left _ (List.mem_append_left _ (List.mem_append_right _ (List.mem_append_left _ h))))))))
theorem mwsX3_walk_2 : ∀ w ∈ wsX3_walk_r3, w ∈ wsX3_walk := fun w h => (List.mem_cons_of_mem _ (List.mem_append_left _ (List.mem_append_left _ (List.mem_append_left _ (List.mem_append_left _ (List.mem_append_left _ (List.mem_append_right _ (List.mem_append_right _ (List.mem_append_left _ h)))))))))
theorem mwsX3_walk_3 : ∀ w ∈ wsX3_walk_r4, w ∈ wsX3_walk := fun w h => (List.mem_cons_of_mem _ (List.mem_append_left _ (List.mem_append_left _ (List.mem_append_left _ (List.mem_append_left _ (List.mem_append_left _ (List.mem_append_right _ (List.mem_append_right _ (List.mem_append_right _ h)))))))))
theorem mwsX3_walk_4 : ∀ w ∈ wsX10, w ∈ wsX3_walk := fun w h => (List.mem_cons_of_mem _ (List.mem_append_left _ (List.mem_append_left _ (List.mem_append_left _ (List.mem_append_left _ (List.mem_append_right _ h))))))
theorem mwsX3_walk_5 : ∀ w ∈ wsX30, w ∈ wsX3_walk := fun w h => (List.mem_cons_of_mem _ (List.mem_append_left _ (List.mem_append_left _ (List.mem_append_left _ (List.mem_append_right _ h)))))
theorem mwsX3_walk_6 : ∀ w ∈ wsX00, w ∈ wsX3_walk := fun w h => (List.mem_cons_of_mem _ (List.mem_append_left _ (List.mem_append_left _ (List.mem_append_right _ h))))
theorem mwsX3_walk_7 : ∀ w ∈ wsX20, w ∈ wsX3_walk := fun w h => (List.mem_cons_of_mem _ (List.mem_append_left _ (List.mem_append_right _ h)))
set_option maxRecDepth 20000 in
theorem ggX3_walk_X3_bookAt : GoodIn wsX3_walk wsX3_bookAt := goodIn_ca (goodIn_sub (tk_mem 4 _ (fun w h => (mwsX3_walk_0 _ (tkB_mem 7 4 h))) (tk_mem 6 _ (fun w h => (mwsX3_walk_5 _ (tkB_mem 0 6 h))) (fun _ h => absurd h List.not_mem_nil))) (by decide +kernel)) (goodIn_sub (fun _ h => List.mem_cons_of_mem _ (List.mem_append_right _ h)) (by decide +kernel))
set_option maxRecDepth 20000 in
theorem gX3_walk_X3_bookAt : GoodIn wsX3_walk (wsV RX3 47 RX3 yX3_bookAt wsX3_bookAt) := goodIn_app (goodIn_sub (tk_mem 4 _ (fun w h => (mwsX3_walk_0 _ (tkB_mem 3 4 h))) (fun _ h => absurd h List.not_mem_nil)) (by decide +kernel)) ggX3_walk_X3_bookAt
set_option maxRecDepth 20000 in
theorem ggX3_walk_X1_init : GoodIn wsX3_walk wsX1_init := goodIn_sub (tk_mem 11 _ (fun w h => (mwsX3_walk_0 _ (tkB_mem 13 11 h))) (tk_mem 10 _ (fun w h => (mwsX3_walk_1 _ (tkB_mem 0 10 h))) (tk_mem 7 _ (fun w h => (mwsX3_walk_4 _ (tkB_mem 0 7 h))) (tk_mem 7 _ (fun w h => (mwsX3_walk_6 _ (tkB_mem 0 7 h))) (fun _ h => absurd h List.not_mem_nil))))) (by decide +kernel)
set_option maxRecDepth 20000 in
theorem gX3_walk_X1_init : GoodIn wsX3_walk (wsX1_init) := ggX3_walk_X1_init
set_option maxRecDepth 20000 in
theorem ggX3_walk_X3_beginWalk : GoodIn wsX3_walk wsX3_beginWalk := goodIn_sub (tk_mem 9 _ (fun w h => (mwsX3_walk_1 _ (tkB_mem 13 9 h))) (List.forall_mem_cons.mpr ⟨(mwsX3_walk_0 _ (List.mem_of_getElem? (i := 15) rfl)), (List.forall_mem_cons.mpr ⟨(mwsX3_walk_0 _ (List.mem_of_getElem? (i := 16) rfl)), (List.forall_mem_cons.mpr ⟨(mwsX3_walk_1 _ (List.mem_of_getElem? (i := 22) rfl)), (List.forall_mem_cons.mpr ⟨(mwsX3_walk_1 _ (List.mem_of_getElem? (i := 23) rfl)), (tk_mem 4 _ (fun w h => (mwsX3_walk_2 _ (tkB_mem 0 4 h))) (List.forall_mem_cons.mpr ⟨(mwsX3_walk_0 _ (List.mem_of_getElem? (i := 2) rfl)), (List.forall_mem_cons.mpr ⟨(mwsX3_walk_2 _ (List.mem_of_getElem? (i := 4) rfl)), (List.forall_mem_cons.mpr ⟨(mwsX3_walk_0 _ (List.mem_of_getElem? (i := 17) rfl)), (List.forall_mem_cons.mpr ⟨(mwsX3_walk_2 _ (List.mem_of_getElem? (i := 5) rfl)), (List.forall_mem_cons.mpr ⟨(mwsX3_walk_2 _ (List.mem_of_getElem? (i := 6) rfl)), (List.forall_mem_cons.mpr ⟨(mwsX3_walk_2 _ (List.mem_of_getElem? (i := 7) rfl)), (List.forall_mem_cons.mpr ⟨(mwsX3_walk_1 _ (List.mem_of_getElem? (i := 7) rfl)), (tk_mem 10 _ (fun w h => (mwsX3_walk_2 _ (tkB_mem 8 10 h))) (List.forall_mem_cons.mpr ⟨(mwsX3_walk_1 _ (List.mem_of_getElem? (i := 3) rfl)), (tk_mem 6 _ (fun w h => (mwsX3_walk_2 _ (tkB_mem 18 6 h))) (List.forall_mem_cons.mpr ⟨(mwsX3_walk_3 _ (List.mem_of_getElem? (i := 0) rfl)), (List.forall_mem_cons.mpr ⟨(mwsX3_walk_1 _ (List.mem_of_getElem? (i := 5) rfl)), (List.forall_mem_cons.mpr ⟨(mwsX3_walk_1 _ (List.mem_of_getElem? (i := 6) rfl)), (List.forall_mem_cons.mpr ⟨(mwsX3_walk_1 _ (List.mem_of_getElem? (i := 8) rfl)), (List.forall_mem_cons.mpr ⟨(mwsX3_walk_1 _ (List.mem_of_getElem? (i := 9) rfl)), (tk_mem 4 _ (fun w h => (mwsX3_walk_3 _ (tkB_mem 1 4 h))) (List.forall_mem_cons.mpr ⟨(mwsX3_walk_0 _ (List.mem_of_getElem? (i := 22) rfl)), (tk_mem 5 _ (fun w h => (mwsX3_walk_7 _ (tkB_mem 0 5 h))) (tk_mem 6 _ (fun w h => (mwsX3_walk_5 _ (tkB_mem 0 6 h))) (tk_mem 7 _ (fun w h => (mwsX3_walk_4 _ (tkB_mem 0 7 h))) (tk_mem 7 _ (fun w h => (mwsX3_walk_6 _ (tkB_mem 0 7 h))) (fun _ h => absurd h List.not_mem_nil)))))⟩))⟩)⟩)⟩)⟩)⟩))⟩))⟩)⟩)⟩)⟩)⟩)⟩)⟩))⟩)⟩)⟩)⟩)) (by decide +kernel)
set_option maxRecDepth 20000 in
theorem gX3_walk_X3_beginWalk : GoodIn wsX3_walk (wsV RX3 177 RX3 yX3_beginWalk wsX3_beginWalk) := goodIn_app (goodIn_sub (List.forall_mem_cons.mpr ⟨(mwsX3_walk_1 _ (List.mem_of_getElem? (i := 10) rfl)), (List.forall_mem_cons.mpr ⟨(mwsX3_walk_1 _ (List.mem_of_getElem? (i := 11) rfl)), (List.forall_mem_cons.mpr ⟨(mwsX3_walk_1 _ (List.mem_of_getElem? (i := 12) rfl)), (List.forall_mem_cons.mpr ⟨(mwsX3_walk_0 _ (List.mem_of_getElem? (i := 6) rfl)), (fun _ h => absurd h List.not_mem_nil)⟩)⟩)⟩)⟩) (by decide +kernel)) ggX3_walk_X3_beginWalk
theorem adX3_walk_0 : fd_rows (cX3_walk.data.toList.drop 0) 0 [(0, some (.aload_n 0), 1), (1, some (.new 18), 3), (4, some (.dup), 1), (5, some (.aload_n 0), 1), (6, some (.iload_n 1), 1), (7, some (.invokevirtual 47), 3), (10, some (.sipush (-10000)), 3), (13, some (.iconst 0), 1), (14, some (.sipush (-10000)), 3), (17, some (.iconst 0), 1), (18, some (.invokespecial 144), 3), (21, some (.invokevirtual 177), 3), (24, some (.ireturn), 1)] = true := by decide +kernel
theorem dX3_walk_0 : decode cX3_walk 0 = .ok (.aload_n 0, 1) := fd_get adX3_walk_0 (k := 0) rfl
theorem dX3_walk_1 : decode cX3_walk 1 = .ok (.new 18, 3) := fd_get adX3_walk_0 (k := 1) rfl
theorem dX3_walk_4 : decode cX3_walk 4 = .ok (.dup, 1) := fd_get adX3_walk_0 (k := 2) rfl
theorem dX3_walk_5 : decode cX3_walk 5 = .ok (.aload_n 0, 1) := fd_get adX3_walk_0 (k := 3) rfl
theorem dX3_walk_6 : decode cX3_walk 6 = .ok (.iload_n 1, 1) := fd_get adX3_walk_0 (k := 4) rfl
theorem dX3_walk_7 : decode cX3_walk 7 = .ok (.invokevirtual 47, 3) := fd_get adX3_walk_0 (k := 5) rfl
theorem dX3_walk_10 : decode cX3_walk 10 = .ok (.sipush (-10000), 3) := fd_get adX3_walk_0 (k := 6) rfl
theorem dX3_walk_13 : decode cX3_walk 13 = .ok (.iconst 0, 1) := fd_get adX3_walk_0 (k := 7) rfl
theorem dX3_walk_14 : decode cX3_walk 14 = .ok (.sipush (-10000), 3) := fd_get adX3_walk_0 (k := 8) rfl
theorem dX3_walk_17 : decode cX3_walk 17 = .ok (.iconst 0, 1) := fd_get adX3_walk_0 (k := 9) rfl
theorem dX3_walk_18 : decode cX3_walk 18 = .ok (.invokespecial 144, 3) := fd_get adX3_walk_0 (k := 10) rfl
theorem dX3_walk_21 : decode cX3_walk 21 = .ok (.invokevirtual 177, 3) := fd_get adX3_walk_0 (k := 11) rfl
theorem dX3_walk_24 : decode cX3_walk 24 = .ok (.ireturn, 1) := fd_get adX3_walk_0 (k := 12) rfl
theorem mwsX3_viewWalk_0 : ∀ w ∈ wsX3_viewWalk_r1, w ∈ wsX3_viewWalk := fun w h => (List.mem_cons_of_mem _ (List.mem_append_left _ (List.mem_append_left _ (List.mem_append_left _ (List.mem_append_left _ (List.mem_append_left _ (List.mem_append_left _ h)))))))
theorem mwsX3_viewWalk_1 : ∀ w ∈ wsX3_viewWalk_r2, w ∈ wsX3_viewWalk := fun w h => (List.mem_cons_of_mem _ (List.mem_append_left _ (List.mem_append_left _ (List.mem_append_left _ (List.mem_append_left _ (List.mem_append_left _ (List.mem_append_right _ (List.mem_append_left _ h))))))))
theorem mwsX3_viewWalk_2 : ∀ w ∈ wsX3_viewWalk_r3, w ∈ wsX3_viewWalk := fun w h => (List.mem_cons_of_mem _ (List.mem_append_left _ (List.mem_append_left _ (List.mem_append_left _ (List.mem_append_left _ (List.mem_append_left _ (List.mem_append_right _ (List.mem_append_right _ h))))))))
theorem mwsX3_viewWalk_3 : ∀ w ∈ wsX30, w ∈ wsX3_viewWalk := fun w h => (List.mem_cons_of_mem _ (List.mem_append_left _ (List.mem_append_left _ (List.mem_append_left _ (List.mem_append_left _ (List.mem_append_right _ h))))))
theorem mwsX3_viewWalk_4 : ∀ w ∈ wsX20, w ∈ wsX3_viewWalk := fun w h => (List.mem_cons_of_mem _ (List.mem_append_left _ (List.mem_append_left _ (List.mem_append_left _ (List.mem_append_right _ h)))))
theorem mwsX3_viewWalk_5 : ∀ w ∈ wsX10, w ∈ wsX3_viewWalk := fun w h => (List.mem_cons_of_mem _ (List.mem_append_left _ (List.mem_append_left _ (List.mem_append_right _ h))))
theorem mwsX3_viewWalk_6 : ∀ w ∈ wsX00, w ∈ wsX3_viewWalk := fun w h => (List.mem_cons_of_mem _ (List.mem_append_left _ (List.mem_append_right _ h)))
set_option maxRecDepth 20000 in
theorem ggX3_viewWalk_X3_viewAt : GoodIn wsX3_viewWalk wsX3_viewAt := goodIn_ca (goodIn_sub (tk_mem 4 _ (fun w h => (mwsX3_viewWalk_0 _ (tkB_mem 4 4 h))) (tk_mem 6 _ (fun w h => (mwsX3_viewWalk_3 _ (tkB_mem 0 6 h))) (fun _ h => absurd h List.not_mem_nil))) (by decide +kernel)) (goodIn_sub (fun _ h => List.mem_cons_of_mem _ (List.mem_append_right _ h)) (by decide +kernel))
set_option maxRecDepth 20000 in
theorem gX3_viewWalk_X3_viewAt : GoodIn wsX3_viewWalk (wsV RX3 158 RX3 yX3_viewAt wsX3_viewAt) := goodIn_app (goodIn_sub (tk_mem 4 _ (fun w h => (mwsX3_viewWalk_0 _ (tkB_mem 0 4 h))) (fun _ h => absurd h List.not_mem_nil)) (by decide +kernel)) ggX3_viewWalk_X3_viewAt
set_option maxRecDepth 20000 in
theorem ggX3_viewWalk_X3_beginWalk : GoodIn wsX3_viewWalk wsX3_beginWalk := goodIn_sub (tk_mem 13 _ (fun w h => (mwsX3_viewWalk_0 _ (tkB_mem 11 13 h))) (tk_mem 24 _ (fun w h => (mwsX3_viewWalk_1 _ (tkB_mem 0 24 h))) (tk_mem 14 _ (fun w h => (mwsX3_viewWalk_2 _ (tkB_mem 0 14 h))) (tk_mem 5 _ (fun w h => (mwsX3_viewWalk_4 _ (tkB_mem 0 5 h))) (tk_mem 6 _ (fun w h => (mwsX3_viewWalk_3 _ (tkB_mem 0 6 h))) (tk_mem 7 _ (fun w h => (mwsX3_viewWalk_5 _ (tkB_mem 0 7 h))) (tk_mem 7 _ (fun w h => (mwsX3_viewWalk_6 _ (tkB_mem 0 7 h))) (fun _ h => absurd h List.not_mem_nil)))))))) (by decide +kernel)
set_option maxRecDepth 20000 in
theorem gX3_viewWalk_X3_beginWalk : GoodIn wsX3_viewWalk (wsV RX3 177 RX3 yX3_beginWalk wsX3_beginWalk) := goodIn_app (goodIn_sub (List.forall_mem_cons.mpr ⟨(mwsX3_viewWalk_0 _ (List.mem_of_getElem? (i := 8) rfl)), (List.forall_mem_cons.mpr ⟨(mwsX3_viewWalk_0 _ (List.mem_of_getElem? (i := 9) rfl)), (List.forall_mem_cons.mpr ⟨(mwsX3_viewWalk_0 _ (List.mem_of_getElem? (i := 10) rfl)), (List.forall_mem_cons.mpr ⟨(mwsX3_viewWalk_0 _ (List.mem_of_getElem? (i := 3) rfl)), (fun _ h => absurd h List.not_mem_nil)⟩)⟩)⟩)⟩) (by decide +kernel)) ggX3_viewWalk_X3_beginWalk
theorem adX3_viewWalk_0 : fd_rows (cX3_viewWalk.data.toList.drop 0) 0 [(0, some (.aload_n 0), 1), (1, some (.aload_n 0), 1), (2, some (.iload_n 1), 1), (3, some (.invokevirtual 158), 3), (6, some (.invokevirtual 177), 3), (9, some (.ireturn), 1)] = true := by decide +kernel
theorem dX3_viewWalk_0 : decode cX3_viewWalk 0 = .ok (.aload_n 0, 1) := fd_get adX3_viewWalk_0 (k := 0) rfl
theorem dX3_viewWalk_1 : decode cX3_viewWalk 1 = .ok (.aload_n 0, 1) := fd_get adX3_viewWalk_0 (k := 1) rfl
theorem dX3_viewWalk_2 : decode cX3_viewWalk 2 = .ok (.iload_n 1, 1) := fd_get adX3_viewWalk_0 (k := 2) rfl
theorem dX3_viewWalk_3 : decode cX3_viewWalk 3 = .ok (.invokevirtual 158, 3) := fd_get adX3_viewWalk_0 (k := 3) rfl
theorem dX3_viewWalk_6 : decode cX3_viewWalk 6 = .ok (.invokevirtual 177, 3) := fd_get adX3_viewWalk_0 (k := 4) rfl
theorem dX3_viewWalk_9 : decode cX3_viewWalk 9 = .ok (.ireturn, 1) := fd_get adX3_viewWalk_0 (k := 5) rfl
theorem mwsX3_step_0 : ∀ w ∈ wsX3_step_r1, w ∈ wsX3_step := fun w h => (List.mem_cons_of_mem _ (List.mem_append_left _ (List.mem_append_left _ (List.mem_append_left _ (List.mem_append_left _ (List.mem_append_left _ (List.mem_append_left _ h)))))))
theorem mwsX3_step_1 : ∀ w ∈ wsX3_step_r2, w ∈ wsX3_step := fun w h => (List.mem_cons_of_mem _ (List.mem_append_left _ (List.mem_append_left _ (List.mem_append_left _ (List.mem_append_left _ (List.mem_append_left _ (List.mem_append_right _ (List.mem_append_left _ h))))))))
theorem mwsX3_step_2 : ∀ w ∈ wsX3_step_r3, w ∈ wsX3_step := fun w h => (List.mem_cons_of_mem _ (List.mem_append_left _ (List.mem_append_left _ (List.mem_append_left _ (List.mem_append_left _ (List.mem_append_left _ (List.mem_append_right _ (List.mem_append_right _ (List.mem_append_left _ h)))))))))
theorem mwsX3_step_3 : ∀ w ∈ wsX3_step_r4, w ∈ wsX3_step := fun w h => (List.mem_cons_of_mem _ (List.mem_append_left _ (List.mem_append_left _ (List.mem_append_left _ (List.mem_append_left _ (List.mem_append_left _ (List.mem_append_right _ (List.mem_append_right _ (List.mem_append_right _ h)))))))))
theorem mwsX3_step_4 : ∀ w ∈ wsX30, w ∈ wsX3_step := fun w h => (List.mem_cons_of_mem _ (List.mem_append_left _ (List.mem_append_left _ (List.mem_append_left _ (List.mem_append_left _ (List.mem_append_right _ h))))))
theorem mwsX3_step_5 : ∀ w ∈ wsX20, w ∈ wsX3_step := fun w h => (List.mem_cons_of_mem _ (List.mem_append_left _ (List.mem_append_left _ (List.mem_append_left _ (List.mem_append_right _ h)))))
theorem mwsX3_step_6 : ∀ w ∈ wsX10, w ∈ wsX3_step := fun w h => (List.mem_cons_of_mem _ (List.mem_append_left _ (List.mem_append_left _ (List.mem_append_right _ h))))
theorem mwsX3_step_7 : ∀ w ∈ wsX00, w ∈ wsX3_step := fun w h => (List.mem_cons_of_mem _ (List.mem_append_left _ (List.mem_append_right _ h)))
set_option maxRecDepth 20000 in
theorem ggX3_step_X3_soundWalk : GoodIn wsX3_step wsX3_soundWalk := goodIn_ca (goodIn_sub (tk_mem 20 _ (fun w h => (mwsX3_step_0 _ (tkB_mem 4 20 h))) (tk_mem 7 _ (fun w h => (mwsX3_step_1 _ (tkB_mem 0 7 h))) (tk_mem 6 _ (fun w h => (mwsX3_step_4 _ (tkB_mem 0 6 h))) (tk_mem 5 _ (fun w h => (mwsX3_step_5 _ (tkB_mem 0 5 h))) (tk_mem 7 _ (fun w h => (mwsX3_step_6 _ (tkB_mem 0 7 h))) (tk_mem 7 _ (fun w h => (mwsX3_step_7 _ (tkB_mem 0 7 h))) (fun _ h => absurd h List.not_mem_nil))))))) (by decide +kernel)) (goodIn_sub (fun _ h => List.mem_cons_of_mem _ (List.mem_append_right _ h)) (by decide +kernel))
set_option maxRecDepth 20000 in
theorem gX3_step_X3_soundWalk : GoodIn wsX3_step (wsV RX3 180 RX3 yX3_soundWalk wsX3_soundWalk) := goodIn_app (goodIn_sub (tk_mem 4 _ (fun w h => (mwsX3_step_0 _ (tkB_mem 0 4 h))) (fun _ h => absurd h List.not_mem_nil)) (by decide +kernel)) ggX3_step_X3_soundWalk
set_option maxRecDepth 20000 in
theorem ggX3_step_X2_advance : GoodIn wsX3_step wsX2_advance := goodIn_sub (List.forall_mem_cons.mpr ⟨(mwsX3_step_1 _ (List.mem_of_getElem? (i := 10) rfl)), (List.forall_mem_cons.mpr ⟨(mwsX3_step_1 _ (List.mem_of_getElem? (i := 11) rfl)), (List.forall_mem_cons.mpr ⟨(mwsX3_step_0 _ (List.mem_of_getElem? (i := 18) rfl)), (tk_mem 5 _ (fun w h => (mwsX3_step_1 _ (tkB_mem 12 5 h))) (List.forall_mem_cons.mpr ⟨(mwsX3_step_0 _ (List.mem_of_getElem? (i := 22) rfl)), (List.forall_mem_cons.mpr ⟨(mwsX3_step_1 _ (List.mem_of_getElem? (i := 17) rfl)), (List.forall_mem_cons.mpr ⟨(mwsX3_step_1 _ (List.mem_of_getElem? (i := 0) rfl)), (tk_mem 4 _ (fun w h => (mwsX3_step_1 _ (tkB_mem 18 4 h))) (List.forall_mem_cons.mpr ⟨(mwsX3_step_1 _ (List.mem_of_getElem? (i := 4) rfl)), (List.forall_mem_cons.mpr ⟨(mwsX3_step_1 _ (List.mem_of_getElem? (i := 22) rfl)), (List.forall_mem_cons.mpr ⟨(mwsX3_step_1 _ (List.mem_of_getElem? (i := 23) rfl)), (tk_mem 6 _ (fun w h => (mwsX3_step_2 _ (tkB_mem 0 6 h))) (List.forall_mem_cons.mpr ⟨(mwsX3_step_0 _ (List.mem_of_getElem? (i := 14) rfl)), (List.forall_mem_cons.mpr ⟨(mwsX3_step_0 _ (List.mem_of_getElem? (i := 15) rfl)), (List.forall_mem_cons.mpr ⟨(mwsX3_step_0 _ (List.mem_of_getElem? (i := 16) rfl)), (List.forall_mem_cons.mpr ⟨(mwsX3_step_0 _ (List.mem_of_getElem? (i := 11) rfl)), (List.forall_mem_cons.mpr ⟨(mwsX3_step_0 _ (List.mem_of_getElem? (i := 17) rfl)), (List.forall_mem_cons.mpr ⟨(mwsX3_step_0 _ (List.mem_of_getElem? (i := 19) rfl)), (List.forall_mem_cons.mpr ⟨(mwsX3_step_0 _ (List.mem_of_getElem? (i := 20) rfl)), (List.forall_mem_cons.mpr ⟨(mwsX3_step_0 _ (List.mem_of_getElem? (i := 21) rfl)), (List.forall_mem_cons.mpr ⟨(mwsX3_step_0 _ (List.mem_of_getElem? (i := 23) rfl)), (tk_mem 18 _ (fun w h => (mwsX3_step_2 _ (tkB_mem 6 18 h))) (tk_mem 5 _ (fun w h => (mwsX3_step_3 _ (tkB_mem 0 5 h))) (tk_mem 5 _ (fun w h => (mwsX3_step_5 _ (tkB_mem 0 5 h))) (tk_mem 7 _ (fun w h => (mwsX3_step_6 _ (tkB_mem 0 7 h))) (tk_mem 7 _ (fun w h => (mwsX3_step_7 _ (tkB_mem 0 7 h))) (fun _ h => absurd h List.not_mem_nil))))))⟩)⟩)⟩)⟩)⟩)⟩)⟩)⟩)⟩))⟩)⟩)⟩))⟩)⟩)⟩))⟩)⟩)⟩) (by decide +kernel)
set_option maxRecDepth 20000 in
theorem gX3_step_X2_advance : GoodIn wsX3_step (wsV RX3 184 RX2 yX2_advance wsX2_advance) := goodIn_app (goodIn_sub (List.forall_mem_cons.mpr ⟨(mwsX3_step_1 _ (List.mem_of_getElem? (i := 7) rfl)), (List.forall_mem_cons.mpr ⟨(mwsX3_step_1 _ (List.mem_of_getElem? (i := 8) rfl)), (List.forall_mem_cons.mpr ⟨(mwsX3_step_1 _ (List.mem_of_getElem? (i := 9) rfl)), (List.forall_mem_cons.mpr ⟨(mwsX3_step_0 _ (List.mem_of_getElem? (i := 11) rfl)), (fun _ h => absurd h List.not_mem_nil)⟩)⟩)⟩)⟩) (by decide +kernel)) ggX3_step_X2_advance
theorem adX3_step_0 : fd_rows (cX3_step.data.toList.drop 0) 0 [(0, some (.aload_n 0), 1), (1, some (.invokevirtual 180), 3), (4, some (.invokevirtual 184), 3), (7, some (.ireturn), 1)] = true := by decide +kernel
theorem dX3_step_0 : decode cX3_step 0 = .ok (.aload_n 0, 1) := fd_get adX3_step_0 (k := 0) rfl
theorem dX3_step_1 : decode cX3_step 1 = .ok (.invokevirtual 180, 3) := fd_get adX3_step_0 (k := 1) rfl
theorem dX3_step_4 : decode cX3_step 4 = .ok (.invokevirtual 184, 3) := fd_get adX3_step_0 (k := 2) rfl
theorem dX3_step_7 : decode cX3_step 7 = .ok (.ireturn, 1) := fd_get adX3_step_0 (k := 3) rfl
theorem mwsX3_write_0 : ∀ w ∈ wsX3_write_r1, w ∈ wsX3_write := fun w h => (List.mem_cons_of_mem _ (List.mem_append_left _ (List.mem_append_left _ (List.mem_append_left _ (List.mem_append_left _ (List.mem_append_left _ (List.mem_append_left _ (List.mem_append_left _ h))))))))
theorem mwsX3_write_1 : ∀ w ∈ wsX3_write_r2, w ∈ wsX3_write := fun w h => (List.mem_cons_of_mem _ (List.mem_append_left _ (List.mem_append_left _ (List.mem_append_left _ (List.mem_append_left _ (List.mem_append_left _ (List.mem_append_left _ (List.mem_append_right _ (List.mem_append_left _ h)))))))))
theorem mwsX3_write_2 : ∀ w ∈ wsX3_write_r3, w ∈ wsX3_write := fun w h => (List.mem_cons_of_mem _ (List.mem_append_left _ (List.mem_append_left _ (List.mem_append_left _ (List.mem_append_left _ (List.mem_append_left _ (List.mem_append_left _ (List.mem_append_right _ (List.mem_append_right _ (List.mem_append_left _ h))))))))))
theorem mwsX3_write_3 : ∀ w ∈ wsX3_write_r4, w ∈ wsX3_write := fun w h => (List.mem_cons_of_mem _ (List.mem_append_left _ (List.mem_append_left _ (List.mem_append_left _ (List.mem_append_left _ (List.mem_append_left _ (List.mem_append_left _ (List.mem_append_right _ (List.mem_append_right _ (List.mem_append_right _ h))))))))))
theorem mwsX3_write_4 : ∀ w ∈ wsX30, w ∈ wsX3_write := fun w h => (List.mem_cons_of_mem _ (List.mem_append_left _ (List.mem_append_left _ (List.mem_append_left _ (List.mem_append_left _ (List.mem_append_left _ (List.mem_append_right _ h)))))))
theorem mwsX3_write_5 : ∀ w ∈ wsX20, w ∈ wsX3_write := fun w h => (List.mem_cons_of_mem _ (List.mem_append_left _ (List.mem_append_left _ (List.mem_append_left _ (List.mem_append_left _ (List.mem_append_right _ h))))))
theorem mwsX3_write_6 : ∀ w ∈ wsX10, w ∈ wsX3_write := fun w h => (List.mem_cons_of_mem _ (List.mem_append_left _ (List.mem_append_left _ (List.mem_append_left _ (List.mem_append_right _ h)))))
theorem mwsX3_write_7 : ∀ w ∈ wsX00, w ∈ wsX3_write := fun w h => (List.mem_cons_of_mem _ (List.mem_append_left _ (List.mem_append_left _ (List.mem_append_right _ h))))
set_option maxRecDepth 20000 in
theorem ggX3_write_X3_checkValue : GoodIn wsX3_write wsX3_checkValue := goodIn_ca (goodIn_sub (List.forall_mem_cons.mpr ⟨(mwsX3_write_0 _ (List.mem_of_getElem? (i := 5) rfl)), (List.forall_mem_cons.mpr ⟨(mwsX3_write_0 _ (List.mem_of_getElem? (i := 6) rfl)), (List.forall_mem_cons.mpr ⟨(mwsX3_write_0 _ (List.mem_of_getElem? (i := 7) rfl)), (fun _ h => absurd h List.not_mem_nil)⟩)⟩)⟩) (by decide +kernel)) (goodIn_sub (fun _ h => List.mem_cons_of_mem _ (List.mem_append_right _ h)) (by decide +kernel))
set_option maxRecDepth 20000 in
theorem gX3_write_X3_checkValue : GoodIn wsX3_write (va_wsS RX3 54 yX3_checkValue wsX3_checkValue) := goodIn_app (goodIn_sub (List.forall_mem_cons.mpr ⟨(mwsX3_write_0 _ (List.mem_of_getElem? (i := 2) rfl)), (List.forall_mem_cons.mpr ⟨(mwsX3_write_0 _ (List.mem_of_getElem? (i := 3) rfl)), (List.forall_mem_cons.mpr ⟨(mwsX3_write_0 _ (List.mem_of_getElem? (i := 4) rfl)), (fun _ h => absurd h List.not_mem_nil)⟩)⟩)⟩) (by decide +kernel)) ggX3_write_X3_checkValue
set_option maxRecDepth 20000 in
theorem ggX3_write_X3_soundWalk : GoodIn wsX3_write wsX3_soundWalk := goodIn_ca (goodIn_sub (List.forall_mem_cons.mpr ⟨(mwsX3_write_0 _ (List.mem_of_getElem? (i := 11) rfl)), (List.forall_mem_cons.mpr ⟨(mwsX3_write_0 _ (List.mem_of_getElem? (i := 0) rfl)), (List.forall_mem_cons.mpr ⟨(mwsX3_write_0 _ (List.mem_of_getElem? (i := 1) rfl)), (tk_mem 12 _ (fun w h => (mwsX3_write_0 _ (tkB_mem 12 12 h))) (tk_mem 12 _ (fun w h => (mwsX3_write_1 _ (tkB_mem 0 12 h))) (tk_mem 6 _ (fun w h => (mwsX3_write_4 _ (tkB_mem 0 6 h))) (tk_mem 5 _ (fun w h => (mwsX3_write_5 _ (tkB_mem 0 5 h))) (tk_mem 7 _ (fun w h => (mwsX3_write_6 _ (tkB_mem 0 7 h))) (tk_mem 7 _ (fun w h => (mwsX3_write_7 _ (tkB_mem 0 7 h))) (fun _ h => absurd h List.not_mem_nil)))))))⟩)⟩)⟩) (by decide +kernel)) (goodIn_sub (fun _ h => List.mem_cons_of_mem _ (List.mem_append_left _ (List.mem_append_right _ h))) (by decide +kernel))
set_option maxRecDepth 20000 in
theorem gX3_write_X3_soundWalk : GoodIn wsX3_write (wsV RX3 180 RX3 yX3_soundWalk wsX3_soundWalk) := goodIn_app (goodIn_sub (List.forall_mem_cons.mpr ⟨(mwsX3_write_0 _ (List.mem_of_getElem? (i := 8) rfl)), (List.forall_mem_cons.mpr ⟨(mwsX3_write_0 _ (List.mem_of_getElem? (i := 9) rfl)), (List.forall_mem_cons.mpr ⟨(mwsX3_write_0 _ (List.mem_of_getElem? (i := 10) rfl)), (List.forall_mem_cons.mpr ⟨(mwsX3_write_0 _ (List.mem_of_getElem? (i := 4) rfl)), (fun _ h => absurd h List.not_mem_nil)⟩)⟩)⟩)⟩) (by decide +kernel)) ggX3_write_X3_soundWalk
set_option maxRecDepth 20000 in
theorem ggX3_write_X2_keyAtHand : GoodIn wsX3_write wsX2_keyAtHand := goodIn_sub (tk_mem 4 _ (fun w h => (mwsX3_write_1 _ (tkB_mem 15 4 h))) (List.forall_mem_cons.mpr ⟨(mwsX3_write_0 _ (List.mem_of_getElem? (i := 19) rfl)), (List.forall_mem_cons.mpr ⟨(mwsX3_write_0 _ (List.mem_of_getElem? (i := 20) rfl)), (List.forall_mem_cons.mpr ⟨(mwsX3_write_0 _ (List.mem_of_getElem? (i := 21) rfl)), (List.forall_mem_cons.mpr ⟨(mwsX3_write_0 _ (List.mem_of_getElem? (i := 16) rfl)), (List.forall_mem_cons.mpr ⟨(mwsX3_write_0 _ (List.mem_of_getElem? (i := 22) rfl)), (List.forall_mem_cons.mpr ⟨(mwsX3_write_0 _ (List.mem_of_getElem? (i := 23) rfl)), (tk_mem 6 _ (fun w h => (mwsX3_write_1 _ (tkB_mem 0 6 h))) (List.forall_mem_cons.mpr ⟨(mwsX3_write_1 _ (List.mem_of_getElem? (i := 19) rfl)), (List.forall_mem_cons.mpr ⟨(mwsX3_write_1 _ (List.mem_of_getElem? (i := 20) rfl)), (List.forall_mem_cons.mpr ⟨(mwsX3_write_1 _ (List.mem_of_getElem? (i := 21) rfl)), (List.forall_mem_cons.mpr ⟨(mwsX3_write_1 _ (List.mem_of_getElem? (i := 9) rfl)), (List.forall_mem_cons.mpr ⟨(mwsX3_write_1 _ (List.mem_of_getElem? (i := 22) rfl)), (List.forall_mem_cons.mpr ⟨(mwsX3_write_1 _ (List.mem_of_getElem? (i := 23) rfl)), (tk_mem 5 _ (fun w h => (mwsX3_write_5 _ (tkB_mem 0 5 h))) (tk_mem 7 _ (fun w h => (mwsX3_write_6 _ (tkB_mem 0 7 h))) (tk_mem 7 _ (fun w h => (mwsX3_write_7 _ (tkB_mem 0 7 h))) (fun _ h => absurd h List.not_mem_nil))))⟩)⟩)⟩)⟩)⟩)⟩))⟩)⟩)⟩)⟩)⟩)⟩)) (by decide +kernel)
set_option maxRecDepth 20000 in
theorem gX3_write_X2_keyAtHand : GoodIn wsX3_write (wsV RX3 187 RX2 yX2_keyAtHand wsX2_keyAtHand) := goodIn_app (goodIn_sub (List.forall_mem_cons.mpr ⟨(mwsX3_write_1 _ (List.mem_of_getElem? (i := 12) rfl)), (List.forall_mem_cons.mpr ⟨(mwsX3_write_1 _ (List.mem_of_getElem? (i := 13) rfl)), (List.forall_mem_cons.mpr ⟨(mwsX3_write_1 _ (List.mem_of_getElem? (i := 14) rfl)), (List.forall_mem_cons.mpr ⟨(mwsX3_write_0 _ (List.mem_of_getElem? (i := 16) rfl)), (fun _ h => absurd h List.not_mem_nil)⟩)⟩)⟩)⟩) (by decide +kernel)) ggX3_write_X2_keyAtHand
set_option maxRecDepth 20000 in
theorem ggX3_write_X2_book : GoodIn wsX3_write wsX2_book := goodIn_sub (List.forall_mem_cons.mpr ⟨(mwsX3_write_0 _ (List.mem_of_getElem? (i := 22) rfl)), (List.forall_mem_cons.mpr ⟨(mwsX3_write_0 _ (List.mem_of_getElem? (i := 23) rfl)), (tk_mem 6 _ (fun w h => (mwsX3_write_1 _ (tkB_mem 0 6 h))) (tk_mem 5 _ (fun w h => (mwsX3_write_5 _ (tkB_mem 0 5 h))) (tk_mem 7 _ (fun w h => (mwsX3_write_6 _ (tkB_mem 0 7 h))) (fun _ h => absurd h List.not_mem_nil))))⟩)⟩) (by decide +kernel)
set_option maxRecDepth 20000 in
theorem gX3_write_X2_book : GoodIn wsX3_write (wsV RX3 130 RX2 yX2_book wsX2_book) := goodIn_app (goodIn_sub (List.forall_mem_cons.mpr ⟨(mwsX3_write_2 _ (List.mem_of_getElem? (i := 0) rfl)), (List.forall_mem_cons.mpr ⟨(mwsX3_write_0 _ (List.mem_of_getElem? (i := 20) rfl)), (List.forall_mem_cons.mpr ⟨(mwsX3_write_0 _ (List.mem_of_getElem? (i := 21) rfl)), (List.forall_mem_cons.mpr ⟨(mwsX3_write_0 _ (List.mem_of_getElem? (i := 16) rfl)), (fun _ h => absurd h List.not_mem_nil)⟩)⟩)⟩)⟩) (by decide +kernel)) ggX3_write_X2_book
set_option maxRecDepth 20000 in
theorem ggX3_write_X0_enter : GoodIn wsX3_write wsX0_enter := goodIn_sub (tk_mem 6 _ (fun w h => (mwsX3_write_2 _ (tkB_mem 4 6 h))) (List.forall_mem_cons.mpr ⟨(mwsX3_write_1 _ (List.mem_of_getElem? (i := 9) rfl)), (tk_mem 14 _ (fun w h => (mwsX3_write_2 _ (tkB_mem 10 14 h))) (tk_mem 9 _ (fun w h => (mwsX3_write_3 _ (tkB_mem 0 9 h))) (List.forall_mem_cons.mpr ⟨(mwsX3_write_1 _ (List.mem_of_getElem? (i := 11) rfl)), (tk_mem 7 _ (fun w h => (mwsX3_write_7 _ (tkB_mem 0 7 h))) (fun _ h => absurd h List.not_mem_nil))⟩)))⟩)) (by decide +kernel)
set_option maxRecDepth 20000 in
theorem gX3_write_X0_enter : GoodIn wsX3_write (wsV RX3 35 RX0 yX0_enter wsX0_enter) := goodIn_app (goodIn_sub (List.forall_mem_cons.mpr ⟨(mwsX3_write_2 _ (List.mem_of_getElem? (i := 1) rfl)), (List.forall_mem_cons.mpr ⟨(mwsX3_write_2 _ (List.mem_of_getElem? (i := 2) rfl)), (List.forall_mem_cons.mpr ⟨(mwsX3_write_2 _ (List.mem_of_getElem? (i := 3) rfl)), (List.forall_mem_cons.mpr ⟨(mwsX3_write_1 _ (List.mem_of_getElem? (i := 9) rfl)), (fun _ h => absurd h List.not_mem_nil)⟩)⟩)⟩)⟩) (by decide +kernel)) ggX3_write_X0_enter
theorem adX3_write_0 : fd_rows (cX3_write.data.toList.drop 0) 0 [(0, some (.iload_n 1), 1), (1, some (.invokestatic 54), 3), (4, some (.aload_n 0), 1), (5, some (.invokevirtual 180), 3), (8, some (.astore_n 2), 1), (9, some (.aload_n 2), 1), (10, some (.invokevirtual 187), 3), (13, some (.istore_n 3), 1), (14, some (.iload_n 3), 1), (15, some (.sipush (-10000)), 3), (18, some (.if_icmp .ne 13), 3), (21, some (.new 104), 3), (24, some (.dup), 1), (25, some (.ldc 190), 2), (27, some (.invokespecial 108), 3), (30, some (.athrow), 1)] = true := by decide +kernel
theorem adX3_write_1 : fd_rows (cX3_write.data.toList.drop 31) 31 [(31, some (.aload_n 2), 1), (32, some (.invokevirtual 130), 3), (35, some (.iload_n 3), 1), (36, some (.iload_n 1), 1), (37, some (.invokevirtual 35), 3), (40, some (.ireturn), 1)] = true := by decide +kernel
theorem dX3_write_0 : decode cX3_write 0 = .ok (.iload_n 1, 1) := fd_get adX3_write_0 (k := 0) rfl
theorem dX3_write_1 : decode cX3_write 1 = .ok (.invokestatic 54, 3) := fd_get adX3_write_0 (k := 1) rfl
theorem dX3_write_4 : decode cX3_write 4 = .ok (.aload_n 0, 1) := fd_get adX3_write_0 (k := 2) rfl
theorem dX3_write_5 : decode cX3_write 5 = .ok (.invokevirtual 180, 3) := fd_get adX3_write_0 (k := 3) rfl
theorem dX3_write_8 : decode cX3_write 8 = .ok (.astore_n 2, 1) := fd_get adX3_write_0 (k := 4) rfl
theorem dX3_write_9 : decode cX3_write 9 = .ok (.aload_n 2, 1) := fd_get adX3_write_0 (k := 5) rfl
theorem dX3_write_10 : decode cX3_write 10 = .ok (.invokevirtual 187, 3) := fd_get adX3_write_0 (k := 6) rfl
theorem dX3_write_13 : decode cX3_write 13 = .ok (.istore_n 3, 1) := fd_get adX3_write_0 (k := 7) rfl
theorem dX3_write_14 : decode cX3_write 14 = .ok (.iload_n 3, 1) := fd_get adX3_write_0 (k := 8) rfl
theorem dX3_write_15 : decode cX3_write 15 = .ok (.sipush (-10000), 3) := fd_get adX3_write_0 (k := 9) rfl
theorem dX3_write_18 : decode cX3_write 18 = .ok (.if_icmp .ne 13, 3) := fd_get adX3_write_0 (k := 10) rfl
theorem dX3_write_21 : decode cX3_write 21 = .ok (.new 104, 3) := fd_get adX3_write_0 (k := 11) rfl
theorem dX3_write_24 : decode cX3_write 24 = .ok (.dup, 1) := fd_get adX3_write_0 (k := 12) rfl
theorem dX3_write_25 : decode cX3_write 25 = .ok (.ldc 190, 2) := fd_get adX3_write_0 (k := 13) rfl
theorem dX3_write_27 : decode cX3_write 27 = .ok (.invokespecial 108, 3) := fd_get adX3_write_0 (k := 14) rfl
theorem dX3_write_30 : decode cX3_write 30 = .ok (.athrow, 1) := fd_get adX3_write_0 (k := 15) rfl
theorem dX3_write_31 : decode cX3_write 31 = .ok (.aload_n 2, 1) := fd_get adX3_write_1 (k := 0) rfl
theorem dX3_write_32 : decode cX3_write 32 = .ok (.invokevirtual 130, 3) := fd_get adX3_write_1 (k := 1) rfl
theorem dX3_write_35 : decode cX3_write 35 = .ok (.iload_n 3, 1) := fd_get adX3_write_1 (k := 2) rfl
theorem dX3_write_36 : decode cX3_write 36 = .ok (.iload_n 1, 1) := fd_get adX3_write_1 (k := 3) rfl
theorem dX3_write_37 : decode cX3_write 37 = .ok (.invokevirtual 35, 3) := fd_get adX3_write_1 (k := 4) rfl
theorem dX3_write_40 : decode cX3_write 40 = .ok (.ireturn, 1) := fd_get adX3_write_1 (k := 5) rfl
theorem mwsX3_drop_0 : ∀ w ∈ wsX3_drop_r1, w ∈ wsX3_drop := fun w h => (List.mem_cons_of_mem _ (List.mem_append_left _ (List.mem_append_left _ (List.mem_append_left _ (List.mem_append_left _ (List.mem_append_left _ (List.mem_append_left _ h)))))))
theorem mwsX3_drop_1 : ∀ w ∈ wsX3_drop_r2, w ∈ wsX3_drop := fun w h => (List.mem_cons_of_mem _ (List.mem_append_left _ (List.mem_append_left _ (List.mem_append_left _ (List.mem_append_left _ (List.mem_append_left _ (List.mem_append_right _ (List.mem_append_left _ h))))))))
theorem mwsX3_drop_2 : ∀ w ∈ wsX3_drop_r3, w ∈ wsX3_drop := fun w h => (List.mem_cons_of_mem _ (List.mem_append_left _ (List.mem_append_left _ (List.mem_append_left _ (List.mem_append_left _ (List.mem_append_left _ (List.mem_append_right _ (List.mem_append_right _ (List.mem_append_left _ h)))))))))
theorem mwsX3_drop_3 : ∀ w ∈ wsX3_drop_r4, w ∈ wsX3_drop := fun w h => (List.mem_cons_of_mem _ (List.mem_append_left _ (List.mem_append_left _ (List.mem_append_left _ (List.mem_append_left _ (List.mem_append_left _ (List.mem_append_right _ (List.mem_append_right _ (List.mem_append_right _ h)))))))))
theorem mwsX3_drop_4 : ∀ w ∈ wsX30, w ∈ wsX3_drop := fun w h => (List.mem_cons_of_mem _ (List.mem_append_left _ (List.mem_append_left _ (List.mem_append_left _ (List.mem_append_left _ (List.mem_append_right _ h))))))
theorem mwsX3_drop_5 : ∀ w ∈ wsX20, w ∈ wsX3_drop := fun w h => (List.mem_cons_of_mem _ (List.mem_append_left _ (List.mem_append_left _ (List.mem_append_left _ (List.mem_append_right _ h)))))
theorem mwsX3_drop_6 : ∀ w ∈ wsX10, w ∈ wsX3_drop := fun w h => (List.mem_cons_of_mem _ (List.mem_append_left _ (List.mem_append_left _ (List.mem_append_right _ h))))
theorem mwsX3_drop_7 : ∀ w ∈ wsX00, w ∈ wsX3_drop := fun w h => (List.mem_cons_of_mem _ (List.mem_append_left _ (List.mem_append_right _ h)))
set_option maxRecDepth 20000 in
theorem ggX3_drop_X3_soundWalk : GoodIn wsX3_drop wsX3_soundWalk := goodIn_ca (goodIn_sub (List.forall_mem_cons.mpr ⟨(mwsX3_drop_0 _ (List.mem_of_getElem? (i := 6) rfl)), (List.forall_mem_cons.mpr ⟨(mwsX3_drop_0 _ (List.mem_of_getElem? (i := 0) rfl)), (List.forall_mem_cons.mpr ⟨(mwsX3_drop_0 _ (List.mem_of_getElem? (i := 1) rfl)), (tk_mem 17 _ (fun w h => (mwsX3_drop_0 _ (tkB_mem 7 17 h))) (tk_mem 7 _ (fun w h => (mwsX3_drop_1 _ (tkB_mem 0 7 h))) (tk_mem 6 _ (fun w h => (mwsX3_drop_4 _ (tkB_mem 0 6 h))) (tk_mem 5 _ (fun w h => (mwsX3_drop_5 _ (tkB_mem 0 5 h))) (tk_mem 7 _ (fun w h => (mwsX3_drop_6 _ (tkB_mem 0 7 h))) (tk_mem 7 _ (fun w h => (mwsX3_drop_7 _ (tkB_mem 0 7 h))) (fun _ h => absurd h List.not_mem_nil)))))))⟩)⟩)⟩) (by decide +kernel)) (goodIn_sub (fun _ h => List.mem_cons_of_mem _ (List.mem_append_right _ h)) (by decide +kernel))
set_option maxRecDepth 20000 in
theorem gX3_drop_X3_soundWalk : GoodIn wsX3_drop (wsV RX3 180 RX3 yX3_soundWalk wsX3_soundWalk) := goodIn_app (goodIn_sub (tk_mem 4 _ (fun w h => (mwsX3_drop_0 _ (tkB_mem 2 4 h))) (fun _ h => absurd h List.not_mem_nil)) (by decide +kernel)) ggX3_drop_X3_soundWalk
set_option maxRecDepth 20000 in
theorem ggX3_drop_X2_canDrop : GoodIn wsX3_drop wsX2_canDrop := goodIn_sub (List.forall_mem_cons.mpr ⟨(mwsX3_drop_1 _ (List.mem_of_getElem? (i := 10) rfl)), (List.forall_mem_cons.mpr ⟨(mwsX3_drop_1 _ (List.mem_of_getElem? (i := 11) rfl)), (tk_mem 5 _ (fun w h => (mwsX3_drop_5 _ (tkB_mem 0 5 h))) (fun _ h => absurd h List.not_mem_nil))⟩)⟩) (by decide +kernel)
set_option maxRecDepth 20000 in
theorem gX3_drop_X2_canDrop : GoodIn wsX3_drop (wsV RX3 192 RX2 yX2_canDrop wsX2_canDrop) := goodIn_app (goodIn_sub (List.forall_mem_cons.mpr ⟨(mwsX3_drop_1 _ (List.mem_of_getElem? (i := 7) rfl)), (List.forall_mem_cons.mpr ⟨(mwsX3_drop_1 _ (List.mem_of_getElem? (i := 8) rfl)), (List.forall_mem_cons.mpr ⟨(mwsX3_drop_1 _ (List.mem_of_getElem? (i := 9) rfl)), (List.forall_mem_cons.mpr ⟨(mwsX3_drop_0 _ (List.mem_of_getElem? (i := 11) rfl)), (fun _ h => absurd h List.not_mem_nil)⟩)⟩)⟩)⟩) (by decide +kernel)) ggX3_drop_X2_canDrop
set_option maxRecDepth 20000 in
theorem ggX3_drop_X2_dropLastStep : GoodIn wsX3_drop wsX2_dropLastStep := goodIn_sub (List.forall_mem_cons.mpr ⟨(mwsX3_drop_1 _ (List.mem_of_getElem? (i := 15) rfl)), (List.forall_mem_cons.mpr ⟨(mwsX3_drop_1 _ (List.mem_of_getElem? (i := 16) rfl)), (List.forall_mem_cons.mpr ⟨(mwsX3_drop_1 _ (List.mem_of_getElem? (i := 11) rfl)), (tk_mem 4 _ (fun w h => (mwsX3_drop_0 _ (tkB_mem 13 4 h))) (List.forall_mem_cons.mpr ⟨(mwsX3_drop_0 _ (List.mem_of_getElem? (i := 11) rfl)), (tk_mem 7 _ (fun w h => (mwsX3_drop_0 _ (tkB_mem 17 7 h))) (List.forall_mem_cons.mpr ⟨(mwsX3_drop_1 _ (List.mem_of_getElem? (i := 0) rfl)), (List.forall_mem_cons.mpr ⟨(mwsX3_drop_1 _ (List.mem_of_getElem? (i := 17) rfl)), (List.forall_mem_cons.mpr ⟨(mwsX3_drop_1 _ (List.mem_of_getElem? (i := 18) rfl)), (List.forall_mem_cons.mpr ⟨(mwsX3_drop_1 _ (List.mem_of_getElem? (i := 19) rfl)), (List.forall_mem_cons.mpr ⟨(mwsX3_drop_1 _ (List.mem_of_getElem? (i := 4) rfl)), (tk_mem 4 _ (fun w h => (mwsX3_drop_1 _ (tkB_mem 20 4 h))) (tk_mem 24 _ (fun w h => (mwsX3_drop_2 _ (tkB_mem 0 24 h))) (tk_mem 9 _ (fun w h => (mwsX3_drop_3 _ (tkB_mem 0 9 h))) (List.forall_mem_cons.mpr ⟨(mwsX3_drop_1 _ (List.mem_of_getElem? (i := 6) rfl)), (List.forall_mem_cons.mpr ⟨(mwsX3_drop_1 _ (List.mem_of_getElem? (i := 1) rfl)), (List.forall_mem_cons.mpr ⟨(mwsX3_drop_1 _ (List.mem_of_getElem? (i := 2) rfl)), (List.forall_mem_cons.mpr ⟨(mwsX3_drop_1 _ (List.mem_of_getElem? (i := 3) rfl)), (List.forall_mem_cons.mpr ⟨(mwsX3_drop_1 _ (List.mem_of_getElem? (i := 5) rfl)), (tk_mem 5 _ (fun w h => (mwsX3_drop_5 _ (tkB_mem 0 5 h))) (tk_mem 7 _ (fun w h => (mwsX3_drop_6 _ (tkB_mem 0 7 h))) (tk_mem 7 _ (fun w h => (mwsX3_drop_7 _ (tkB_mem 0 7 h))) (fun _ h => absurd h List.not_mem_nil))))⟩)⟩)⟩)⟩)⟩))))⟩)⟩)⟩)⟩)⟩))⟩))⟩)⟩)⟩) (by decide +kernel)
set_option maxRecDepth 20000 in
theorem gX3_drop_X2_dropLastStep : GoodIn wsX3_drop (wsV RX3 198 RX2 yX2_dropLastStep wsX2_dropLastStep) := goodIn_app (goodIn_sub (List.forall_mem_cons.mpr ⟨(mwsX3_drop_1 _ (List.mem_of_getElem? (i := 12) rfl)), (List.forall_mem_cons.mpr ⟨(mwsX3_drop_1 _ (List.mem_of_getElem? (i := 13) rfl)), (List.forall_mem_cons.mpr ⟨(mwsX3_drop_1 _ (List.mem_of_getElem? (i := 14) rfl)), (List.forall_mem_cons.mpr ⟨(mwsX3_drop_0 _ (List.mem_of_getElem? (i := 11) rfl)), (fun _ h => absurd h List.not_mem_nil)⟩)⟩)⟩)⟩) (by decide +kernel)) ggX3_drop_X2_dropLastStep
set_option maxRecDepth 20000 in
theorem ggX3_drop_X2_book : GoodIn wsX3_drop wsX2_book := goodIn_sub (tk_mem 7 _ (fun w h => (mwsX3_drop_0 _ (tkB_mem 17 7 h))) (List.forall_mem_cons.mpr ⟨(mwsX3_drop_1 _ (List.mem_of_getElem? (i := 0) rfl)), (tk_mem 5 _ (fun w h => (mwsX3_drop_5 _ (tkB_mem 0 5 h))) (tk_mem 7 _ (fun w h => (mwsX3_drop_6 _ (tkB_mem 0 7 h))) (fun _ h => absurd h List.not_mem_nil)))⟩)) (by decide +kernel)
set_option maxRecDepth 20000 in
theorem gX3_drop_X2_book : GoodIn wsX3_drop (wsV RX3 130 RX2 yX2_book wsX2_book) := goodIn_app (goodIn_sub (List.forall_mem_cons.mpr ⟨(mwsX3_drop_3 _ (List.mem_of_getElem? (i := 9) rfl)), (List.forall_mem_cons.mpr ⟨(mwsX3_drop_0 _ (List.mem_of_getElem? (i := 15) rfl)), (List.forall_mem_cons.mpr ⟨(mwsX3_drop_0 _ (List.mem_of_getElem? (i := 16) rfl)), (List.forall_mem_cons.mpr ⟨(mwsX3_drop_0 _ (List.mem_of_getElem? (i := 11) rfl)), (fun _ h => absurd h List.not_mem_nil)⟩)⟩)⟩)⟩) (by decide +kernel)) ggX3_drop_X2_book
set_option maxRecDepth 20000 in
theorem ggX3_drop_X0_size : GoodIn wsX3_drop wsX0_size := goodIn_sub (List.forall_mem_cons.mpr ⟨(mwsX3_drop_3 _ (List.mem_of_getElem? (i := 13) rfl)), (List.forall_mem_cons.mpr ⟨(mwsX3_drop_2 _ (List.mem_of_getElem? (i := 10) rfl)), (tk_mem 7 _ (fun w h => (mwsX3_drop_7 _ (tkB_mem 0 7 h))) (fun _ h => absurd h List.not_mem_nil))⟩)⟩) (by decide +kernel)
set_option maxRecDepth 20000 in
theorem gX3_drop_X0_size : GoodIn wsX3_drop (wsV RX3 79 RX0 yX0_size wsX0_size) := goodIn_app (goodIn_sub (List.forall_mem_cons.mpr ⟨(mwsX3_drop_3 _ (List.mem_of_getElem? (i := 10) rfl)), (List.forall_mem_cons.mpr ⟨(mwsX3_drop_3 _ (List.mem_of_getElem? (i := 11) rfl)), (List.forall_mem_cons.mpr ⟨(mwsX3_drop_3 _ (List.mem_of_getElem? (i := 12) rfl)), (List.forall_mem_cons.mpr ⟨(mwsX3_drop_1 _ (List.mem_of_getElem? (i := 4) rfl)), (fun _ h => absurd h List.not_mem_nil)⟩)⟩)⟩)⟩) (by decide +kernel)) ggX3_drop_X0_size
theorem adX3_drop_0 : fd_rows (cX3_drop.data.toList.drop 0) 0 [(0, some (.aload_n 0), 1), (1, some (.invokevirtual 180), 3), (4, some (.astore_n 1), 1), (5, some (.aload_n 1), 1), (6, some (.invokevirtual 192), 3), (9, some (.ifCond .ne 13), 3), (12, some (.new 104), 3), (15, some (.dup), 1), (16, some (.ldc 196), 2), (18, some (.invokespecial 108), 3), (21, some (.athrow), 1), (22, some (.aload_n 1), 1), (23, some (.invokevirtual 198), 3), (26, some (.aload_n 1), 1), (27, some (.invokevirtual 130), 3), (30, some (.invokevirtual 79), 3)] = true := by decide +kernel
theorem adX3_drop_1 : fd_rows (cX3_drop.data.toList.drop 33) 33 [(33, some (.ireturn), 1)] = true := by decide +kernel
theorem dX3_drop_0 : decode cX3_drop 0 = .ok (.aload_n 0, 1) := fd_get adX3_drop_0 (k := 0) rfl
theorem dX3_drop_1 : decode cX3_drop 1 = .ok (.invokevirtual 180, 3) := fd_get adX3_drop_0 (k := 1) rfl
theorem dX3_drop_4 : decode cX3_drop 4 = .ok (.astore_n 1, 1) := fd_get adX3_drop_0 (k := 2) rfl
theorem dX3_drop_5 : decode cX3_drop 5 = .ok (.aload_n 1, 1) := fd_get adX3_drop_0 (k := 3) rfl
theorem dX3_drop_6 : decode cX3_drop 6 = .ok (.invokevirtual 192, 3) := fd_get adX3_drop_0 (k := 4) rfl
theorem dX3_drop_9 : decode cX3_drop 9 = .ok (.ifCond .ne 13, 3) := fd_get adX3_drop_0 (k := 5) rfl
theorem dX3_drop_12 : decode cX3_drop 12 = .ok (.new 104, 3) := fd_get adX3_drop_0 (k := 6) rfl
theorem dX3_drop_15 : decode cX3_drop 15 = .ok (.dup, 1) := fd_get adX3_drop_0 (k := 7) rfl
theorem dX3_drop_16 : decode cX3_drop 16 = .ok (.ldc 196, 2) := fd_get adX3_drop_0 (k := 8) rfl
theorem dX3_drop_18 : decode cX3_drop 18 = .ok (.invokespecial 108, 3) := fd_get adX3_drop_0 (k := 9) rfl
theorem dX3_drop_21 : decode cX3_drop 21 = .ok (.athrow, 1) := fd_get adX3_drop_0 (k := 10) rfl
theorem dX3_drop_22 : decode cX3_drop 22 = .ok (.aload_n 1, 1) := fd_get adX3_drop_0 (k := 11) rfl
theorem dX3_drop_23 : decode cX3_drop 23 = .ok (.invokevirtual 198, 3) := fd_get adX3_drop_0 (k := 12) rfl
theorem dX3_drop_26 : decode cX3_drop 26 = .ok (.aload_n 1, 1) := fd_get adX3_drop_0 (k := 13) rfl
theorem dX3_drop_27 : decode cX3_drop 27 = .ok (.invokevirtual 130, 3) := fd_get adX3_drop_0 (k := 14) rfl
theorem dX3_drop_30 : decode cX3_drop 30 = .ok (.invokevirtual 79, 3) := fd_get adX3_drop_0 (k := 15) rfl
theorem dX3_drop_33 : decode cX3_drop 33 = .ok (.ireturn, 1) := fd_get adX3_drop_1 (k := 0) rfl
theorem mwsX3_keep_0 : ∀ w ∈ wsX3_keep_r1, w ∈ wsX3_keep := fun w h => (List.mem_cons_of_mem _ (List.mem_append_left _ (List.mem_append_left _ (List.mem_append_left _ (List.mem_append_left _ h)))))
theorem mwsX3_keep_1 : ∀ w ∈ wsX3_keep_r2, w ∈ wsX3_keep := fun w h => (List.mem_cons_of_mem _ (List.mem_append_left _ (List.mem_append_left _ (List.mem_append_left _ (List.mem_append_right _ h)))))
theorem mwsX3_keep_2 : ∀ w ∈ wsX30, w ∈ wsX3_keep := fun w h => (List.mem_cons_of_mem _ (List.mem_append_left _ (List.mem_append_left _ (List.mem_append_right _ h))))
theorem mwsX3_keep_3 : ∀ w ∈ wsX00, w ∈ wsX3_keep := fun w h => (List.mem_cons_of_mem _ (List.mem_append_left _ (List.mem_append_right _ h)))
set_option maxRecDepth 20000 in
theorem ggX3_keep_X3_bookAt : GoodIn wsX3_keep wsX3_bookAt := goodIn_ca (goodIn_sub (tk_mem 4 _ (fun w h => (mwsX3_keep_0 _ (tkB_mem 6 4 h))) (tk_mem 6 _ (fun w h => (mwsX3_keep_2 _ (tkB_mem 0 6 h))) (fun _ h => absurd h List.not_mem_nil))) (by decide +kernel)) (goodIn_sub (fun _ h => List.mem_cons_of_mem _ (List.mem_append_right _ h)) (by decide +kernel))
set_option maxRecDepth 20000 in
theorem gX3_keep_X3_bookAt : GoodIn wsX3_keep (wsV RX3 47 RX3 yX3_bookAt wsX3_bookAt) := goodIn_app (goodIn_sub (tk_mem 4 _ (fun w h => (mwsX3_keep_0 _ (tkB_mem 2 4 h))) (fun _ h => absurd h List.not_mem_nil)) (by decide +kernel)) ggX3_keep_X3_bookAt
set_option maxRecDepth 20000 in
theorem ggX3_keep_X0_size : GoodIn wsX3_keep wsX0_size := goodIn_sub (List.forall_mem_cons.mpr ⟨(mwsX3_keep_0 _ (List.mem_of_getElem? (i := 14) rfl)), (List.forall_mem_cons.mpr ⟨(mwsX3_keep_0 _ (List.mem_of_getElem? (i := 15) rfl)), (tk_mem 7 _ (fun w h => (mwsX3_keep_3 _ (tkB_mem 0 7 h))) (fun _ h => absurd h List.not_mem_nil))⟩)⟩) (by decide +kernel)
set_option maxRecDepth 20000 in
theorem gX3_keep_X0_size : GoodIn wsX3_keep (wsV RX3 79 RX0 yX0_size wsX0_size) := goodIn_app (goodIn_sub (tk_mem 4 _ (fun w h => (mwsX3_keep_0 _ (tkB_mem 10 4 h))) (fun _ h => absurd h List.not_mem_nil)) (by decide +kernel)) ggX3_keep_X0_size
set_option maxRecDepth 20000 in
theorem ggX3_keep_X0_keyAt : GoodIn wsX3_keep wsX0_keyAt := goodIn_sub (tk_mem 5 _ (fun w h => (mwsX3_keep_0 _ (tkB_mem 19 5 h))) (List.forall_mem_cons.mpr ⟨(mwsX3_keep_0 _ (List.mem_of_getElem? (i := 13) rfl)), (List.forall_mem_cons.mpr ⟨(mwsX3_keep_1 _ (List.mem_of_getElem? (i := 0) rfl)), (List.forall_mem_cons.mpr ⟨(mwsX3_keep_0 _ (List.mem_of_getElem? (i := 15) rfl)), (tk_mem 7 _ (fun w h => (mwsX3_keep_3 _ (tkB_mem 0 7 h))) (fun _ h => absurd h List.not_mem_nil))⟩)⟩)⟩)) (by decide +kernel)
set_option maxRecDepth 20000 in
theorem gX3_keep_X0_keyAt : GoodIn wsX3_keep (wsV RX3 201 RX0 yX0_keyAt wsX0_keyAt) := goodIn_app (goodIn_sub (List.forall_mem_cons.mpr ⟨(mwsX3_keep_0 _ (List.mem_of_getElem? (i := 16) rfl)), (List.forall_mem_cons.mpr ⟨(mwsX3_keep_0 _ (List.mem_of_getElem? (i := 17) rfl)), (List.forall_mem_cons.mpr ⟨(mwsX3_keep_0 _ (List.mem_of_getElem? (i := 18) rfl)), (List.forall_mem_cons.mpr ⟨(mwsX3_keep_0 _ (List.mem_of_getElem? (i := 13) rfl)), (fun _ h => absurd h List.not_mem_nil)⟩)⟩)⟩)⟩) (by decide +kernel)) ggX3_keep_X0_keyAt
set_option maxRecDepth 20000 in
theorem ggX3_keep_X0_valueAt : GoodIn wsX3_keep wsX0_valueAt := goodIn_sub (List.forall_mem_cons.mpr ⟨(mwsX3_keep_1 _ (List.mem_of_getElem? (i := 4) rfl)), (List.forall_mem_cons.mpr ⟨(mwsX3_keep_1 _ (List.mem_of_getElem? (i := 5) rfl)), (List.forall_mem_cons.mpr ⟨(mwsX3_keep_0 _ (List.mem_of_getElem? (i := 21) rfl)), (List.forall_mem_cons.mpr ⟨(mwsX3_keep_0 _ (List.mem_of_getElem? (i := 22) rfl)), (List.forall_mem_cons.mpr ⟨(mwsX3_keep_0 _ (List.mem_of_getElem? (i := 23) rfl)), (List.forall_mem_cons.mpr ⟨(mwsX3_keep_0 _ (List.mem_of_getElem? (i := 13) rfl)), (List.forall_mem_cons.mpr ⟨(mwsX3_keep_1 _ (List.mem_of_getElem? (i := 0) rfl)), (List.forall_mem_cons.mpr ⟨(mwsX3_keep_0 _ (List.mem_of_getElem? (i := 15) rfl)), (tk_mem 7 _ (fun w h => (mwsX3_keep_3 _ (tkB_mem 0 7 h))) (fun _ h => absurd h List.not_mem_nil))⟩)⟩)⟩)⟩)⟩)⟩)⟩)⟩) (by decide +kernel)
set_option maxRecDepth 20000 in
theorem gX3_keep_X0_valueAt : GoodIn wsX3_keep (wsV RX3 204 RX0 yX0_valueAt wsX0_valueAt) := goodIn_app (goodIn_sub (List.forall_mem_cons.mpr ⟨(mwsX3_keep_1 _ (List.mem_of_getElem? (i := 1) rfl)), (List.forall_mem_cons.mpr ⟨(mwsX3_keep_1 _ (List.mem_of_getElem? (i := 2) rfl)), (List.forall_mem_cons.mpr ⟨(mwsX3_keep_1 _ (List.mem_of_getElem? (i := 3) rfl)), (List.forall_mem_cons.mpr ⟨(mwsX3_keep_0 _ (List.mem_of_getElem? (i := 13) rfl)), (fun _ h => absurd h List.not_mem_nil)⟩)⟩)⟩)⟩) (by decide +kernel)) ggX3_keep_X0_valueAt
theorem adX3_keep_0 : fd_rows (cX3_keep.data.toList.drop 0) 0 [(0, some (.aload_n 0), 1), (1, some (.iload_n 1), 1), (2, some (.invokevirtual 47), 3), (5, some (.astore_n 3), 1), (6, some (.aload_n 3), 1), (7, some (.invokevirtual 79), 3), (10, some (.ifCond .ne 7), 3), (13, some (.sipush (-10000)), 3), (16, some (.ireturn), 1), (17, some (.iload_n 2), 1), (18, some (.ifCond .eq 12), 3), (21, some (.aload_n 3), 1), (22, some (.invokevirtual 79), 3), (25, some (.iconst 1), 1), (26, some (.isub), 1), (27, some (.goto 4), 3)] = true := by decide +kernel
theorem adX3_keep_1 : fd_rows (cX3_keep.data.toList.drop 30) 30 [(30, some (.iconst 0), 1), (31, some (.istore 4), 2), (33, some (.aload_n 0), 1), (34, some (.aload_n 3), 1), (35, some (.iload 4), 2), (37, some (.invokevirtual 201), 3), (40, some (.putfield 24), 3), (43, some (.aload_n 0), 1), (44, some (.aload_n 3), 1), (45, some (.iload 4), 2), (47, some (.invokevirtual 204), 3), (50, some (.putfield 28), 3), (53, some (.aload_n 0), 1), (54, some (.getfield 24), 3), (57, some (.ireturn), 1)] = true := by decide +kernel
theorem dX3_keep_0 : decode cX3_keep 0 = .ok (.aload_n 0, 1) := fd_get adX3_keep_0 (k := 0) rfl
theorem dX3_keep_1 : decode cX3_keep 1 = .ok (.iload_n 1, 1) := fd_get adX3_keep_0 (k := 1) rfl
theorem dX3_keep_2 : decode cX3_keep 2 = .ok (.invokevirtual 47, 3) := fd_get adX3_keep_0 (k := 2) rfl
theorem dX3_keep_5 : decode cX3_keep 5 = .ok (.astore_n 3, 1) := fd_get adX3_keep_0 (k := 3) rfl
theorem dX3_keep_6 : decode cX3_keep 6 = .ok (.aload_n 3, 1) := fd_get adX3_keep_0 (k := 4) rfl
theorem dX3_keep_7 : decode cX3_keep 7 = .ok (.invokevirtual 79, 3) := fd_get adX3_keep_0 (k := 5) rfl
theorem dX3_keep_10 : decode cX3_keep 10 = .ok (.ifCond .ne 7, 3) := fd_get adX3_keep_0 (k := 6) rfl
theorem dX3_keep_13 : decode cX3_keep 13 = .ok (.sipush (-10000), 3) := fd_get adX3_keep_0 (k := 7) rfl
theorem dX3_keep_16 : decode cX3_keep 16 = .ok (.ireturn, 1) := fd_get adX3_keep_0 (k := 8) rfl
theorem dX3_keep_17 : decode cX3_keep 17 = .ok (.iload_n 2, 1) := fd_get adX3_keep_0 (k := 9) rfl
theorem dX3_keep_18 : decode cX3_keep 18 = .ok (.ifCond .eq 12, 3) := fd_get adX3_keep_0 (k := 10) rfl
theorem dX3_keep_21 : decode cX3_keep 21 = .ok (.aload_n 3, 1) := fd_get adX3_keep_0 (k := 11) rfl
theorem dX3_keep_22 : decode cX3_keep 22 = .ok (.invokevirtual 79, 3) := fd_get adX3_keep_0 (k := 12) rfl
theorem dX3_keep_25 : decode cX3_keep 25 = .ok (.iconst 1, 1) := fd_get adX3_keep_0 (k := 13) rfl
theorem dX3_keep_26 : decode cX3_keep 26 = .ok (.isub, 1) := fd_get adX3_keep_0 (k := 14) rfl
theorem dX3_keep_27 : decode cX3_keep 27 = .ok (.goto 4, 3) := fd_get adX3_keep_0 (k := 15) rfl
theorem dX3_keep_30 : decode cX3_keep 30 = .ok (.iconst 0, 1) := fd_get adX3_keep_1 (k := 0) rfl
theorem dX3_keep_31 : decode cX3_keep 31 = .ok (.istore 4, 2) := fd_get adX3_keep_1 (k := 1) rfl
theorem dX3_keep_33 : decode cX3_keep 33 = .ok (.aload_n 0, 1) := fd_get adX3_keep_1 (k := 2) rfl
theorem dX3_keep_34 : decode cX3_keep 34 = .ok (.aload_n 3, 1) := fd_get adX3_keep_1 (k := 3) rfl
theorem dX3_keep_35 : decode cX3_keep 35 = .ok (.iload 4, 2) := fd_get adX3_keep_1 (k := 4) rfl
theorem dX3_keep_37 : decode cX3_keep 37 = .ok (.invokevirtual 201, 3) := fd_get adX3_keep_1 (k := 5) rfl
theorem dX3_keep_40 : decode cX3_keep 40 = .ok (.putfield 24, 3) := fd_get adX3_keep_1 (k := 6) rfl
theorem dX3_keep_43 : decode cX3_keep 43 = .ok (.aload_n 0, 1) := fd_get adX3_keep_1 (k := 7) rfl
theorem dX3_keep_44 : decode cX3_keep 44 = .ok (.aload_n 3, 1) := fd_get adX3_keep_1 (k := 8) rfl
theorem dX3_keep_45 : decode cX3_keep 45 = .ok (.iload 4, 2) := fd_get adX3_keep_1 (k := 9) rfl
theorem dX3_keep_47 : decode cX3_keep 47 = .ok (.invokevirtual 204, 3) := fd_get adX3_keep_1 (k := 10) rfl
theorem dX3_keep_50 : decode cX3_keep 50 = .ok (.putfield 28, 3) := fd_get adX3_keep_1 (k := 11) rfl
theorem dX3_keep_53 : decode cX3_keep 53 = .ok (.aload_n 0, 1) := fd_get adX3_keep_1 (k := 12) rfl
theorem dX3_keep_54 : decode cX3_keep 54 = .ok (.getfield 24, 3) := fd_get adX3_keep_1 (k := 13) rfl
theorem dX3_keep_57 : decode cX3_keep 57 = .ok (.ireturn, 1) := fd_get adX3_keep_1 (k := 14) rfl
set_option maxRecDepth 20000 in
theorem ggX3_brand_X3_checkValue : GoodIn wsX3_brand wsX3_checkValue := goodIn_ca (goodIn_sub (List.forall_mem_cons.mpr ⟨(List.mem_cons_of_mem _ (List.mem_append_left _ (List.mem_append_left _ (List.mem_of_getElem? (i := 4) rfl)))), (List.forall_mem_cons.mpr ⟨(List.mem_cons_of_mem _ (List.mem_append_left _ (List.mem_append_left _ (List.mem_of_getElem? (i := 5) rfl)))), (List.forall_mem_cons.mpr ⟨(List.mem_cons_of_mem _ (List.mem_append_left _ (List.mem_append_left _ (List.mem_of_getElem? (i := 6) rfl)))), (fun _ h => absurd h List.not_mem_nil)⟩)⟩)⟩) (by decide +kernel)) (goodIn_sub (fun _ h => List.mem_cons_of_mem _ (List.mem_append_right _ h)) (by decide +kernel))
set_option maxRecDepth 20000 in
theorem gX3_brand_X3_checkValue : GoodIn wsX3_brand (va_wsS RX3 54 yX3_checkValue wsX3_checkValue) := goodIn_app (goodIn_sub (List.forall_mem_cons.mpr ⟨(List.mem_cons_of_mem _ (List.mem_append_left _ (List.mem_append_left _ (List.mem_of_getElem? (i := 1) rfl)))), (List.forall_mem_cons.mpr ⟨(List.mem_cons_of_mem _ (List.mem_append_left _ (List.mem_append_left _ (List.mem_of_getElem? (i := 2) rfl)))), (List.forall_mem_cons.mpr ⟨(List.mem_cons_of_mem _ (List.mem_append_left _ (List.mem_append_left _ (List.mem_of_getElem? (i := 3) rfl)))), (fun _ h => absurd h List.not_mem_nil)⟩)⟩)⟩) (by decide +kernel)) ggX3_brand_X3_checkValue
theorem adX3_brand_0 : fd_rows (cX3_brand.data.toList.drop 0) 0 [(0, some (.iload_n 1), 1), (1, some (.invokestatic 54), 3), (4, some (.aload_n 0), 1), (5, some (.getfield 24), 3), (8, some (.sipush (-10000)), 3), (11, some (.if_icmp .ne 9), 3), (14, some (.sipush (-10000)), 3), (17, some (.goto 6), 3), (20, some (.sipush (-20000)), 3), (23, some (.ireturn), 1)] = true := by decide +kernel
theorem dX3_brand_0 : decode cX3_brand 0 = .ok (.iload_n 1, 1) := fd_get adX3_brand_0 (k := 0) rfl
theorem dX3_brand_1 : decode cX3_brand 1 = .ok (.invokestatic 54, 3) := fd_get adX3_brand_0 (k := 1) rfl
theorem dX3_brand_4 : decode cX3_brand 4 = .ok (.aload_n 0, 1) := fd_get adX3_brand_0 (k := 2) rfl
theorem dX3_brand_5 : decode cX3_brand 5 = .ok (.getfield 24, 3) := fd_get adX3_brand_0 (k := 3) rfl
theorem dX3_brand_8 : decode cX3_brand 8 = .ok (.sipush (-10000), 3) := fd_get adX3_brand_0 (k := 4) rfl
theorem dX3_brand_11 : decode cX3_brand 11 = .ok (.if_icmp .ne 9, 3) := fd_get adX3_brand_0 (k := 5) rfl
theorem dX3_brand_14 : decode cX3_brand 14 = .ok (.sipush (-10000), 3) := fd_get adX3_brand_0 (k := 6) rfl
theorem dX3_brand_17 : decode cX3_brand 17 = .ok (.goto 6, 3) := fd_get adX3_brand_0 (k := 7) rfl
theorem dX3_brand_20 : decode cX3_brand 20 = .ok (.sipush (-20000), 3) := fd_get adX3_brand_0 (k := 8) rfl
theorem dX3_brand_23 : decode cX3_brand 23 = .ok (.ireturn, 1) := fd_get adX3_brand_0 (k := 9) rfl
theorem adX3_knock_0 : fd_rows (cX3_knock.data.toList.drop 0) 0 [(0, some (.aload_n 0), 1), (1, some (.dup), 1), (2, some (.getfield 207), 3), (5, some (.iconst 1), 1), (6, some (.iadd), 1), (7, some (.putfield 207), 3), (10, some (.aload_n 0), 1), (11, some (.getfield 207), 3), (14, some (.ireturn), 1)] = true := by decide +kernel
theorem dX3_knock_0 : decode cX3_knock 0 = .ok (.aload_n 0, 1) := fd_get adX3_knock_0 (k := 0) rfl
theorem dX3_knock_1 : decode cX3_knock 1 = .ok (.dup, 1) := fd_get adX3_knock_0 (k := 1) rfl
theorem dX3_knock_2 : decode cX3_knock 2 = .ok (.getfield 207, 3) := fd_get adX3_knock_0 (k := 2) rfl
theorem dX3_knock_5 : decode cX3_knock 5 = .ok (.iconst 1, 1) := fd_get adX3_knock_0 (k := 3) rfl
theorem dX3_knock_6 : decode cX3_knock 6 = .ok (.iadd, 1) := fd_get adX3_knock_0 (k := 4) rfl
theorem dX3_knock_7 : decode cX3_knock 7 = .ok (.putfield 207, 3) := fd_get adX3_knock_0 (k := 5) rfl
theorem dX3_knock_10 : decode cX3_knock 10 = .ok (.aload_n 0, 1) := fd_get adX3_knock_0 (k := 6) rfl
theorem dX3_knock_11 : decode cX3_knock 11 = .ok (.getfield 207, 3) := fd_get adX3_knock_0 (k := 7) rfl
theorem dX3_knock_14 : decode cX3_knock 14 = .ok (.ireturn, 1) := fd_get adX3_knock_0 (k := 8) rfl
theorem mwsX3_get_0 : ∀ w ∈ wsX3_get_r1, w ∈ wsX3_get := fun w h => (List.mem_cons_of_mem _ (List.mem_append_left _ (List.mem_append_left _ (List.mem_append_left _ (List.mem_append_left _ (List.mem_append_left _ h))))))
theorem mwsX3_get_1 : ∀ w ∈ wsX3_get_r2, w ∈ wsX3_get := fun w h => (List.mem_cons_of_mem _ (List.mem_append_left _ (List.mem_append_left _ (List.mem_append_left _ (List.mem_append_left _ (List.mem_append_right _ h))))))
theorem mwsX3_get_2 : ∀ w ∈ wsX30, w ∈ wsX3_get := fun w h => (List.mem_cons_of_mem _ (List.mem_append_left _ (List.mem_append_left _ (List.mem_append_left _ (List.mem_append_right _ h)))))
theorem mwsX3_get_3 : ∀ w ∈ wsX00, w ∈ wsX3_get := fun w h => (List.mem_cons_of_mem _ (List.mem_append_left _ (List.mem_append_left _ (List.mem_append_right _ h))))
set_option maxRecDepth 20000 in
theorem ggX3_get_X3_bookAt : GoodIn wsX3_get wsX3_bookAt := goodIn_ca (goodIn_sub (tk_mem 4 _ (fun w h => (mwsX3_get_0 _ (tkB_mem 4 4 h))) (tk_mem 6 _ (fun w h => (mwsX3_get_2 _ (tkB_mem 0 6 h))) (fun _ h => absurd h List.not_mem_nil))) (by decide +kernel)) (goodIn_sub (fun _ h => List.mem_cons_of_mem _ (List.mem_append_left _ (List.mem_append_right _ h))) (by decide +kernel))
set_option maxRecDepth 20000 in
theorem gX3_get_X3_bookAt : GoodIn wsX3_get (wsV RX3 47 RX3 yX3_bookAt wsX3_bookAt) := goodIn_app (goodIn_sub (tk_mem 4 _ (fun w h => (mwsX3_get_0 _ (tkB_mem 0 4 h))) (fun _ h => absurd h List.not_mem_nil)) (by decide +kernel)) ggX3_get_X3_bookAt
set_option maxRecDepth 20000 in
theorem ggX3_get_X3_checkKey : GoodIn wsX3_get wsX3_checkKey := goodIn_ca (goodIn_sub (List.forall_mem_cons.mpr ⟨(mwsX3_get_0 _ (List.mem_of_getElem? (i := 10) rfl)), (List.forall_mem_cons.mpr ⟨(mwsX3_get_0 _ (List.mem_of_getElem? (i := 11) rfl)), (List.forall_mem_cons.mpr ⟨(mwsX3_get_0 _ (List.mem_of_getElem? (i := 12) rfl)), (fun _ h => absurd h List.not_mem_nil)⟩)⟩)⟩) (by decide +kernel)) (goodIn_sub (fun _ h => List.mem_cons_of_mem _ (List.mem_append_right _ h)) (by decide +kernel))
set_option maxRecDepth 20000 in
theorem gX3_get_X3_checkKey : GoodIn wsX3_get (va_wsS RX3 51 yX3_checkKey wsX3_checkKey) := goodIn_app (goodIn_sub (List.forall_mem_cons.mpr ⟨(mwsX3_get_0 _ (List.mem_of_getElem? (i := 8) rfl)), (List.forall_mem_cons.mpr ⟨(mwsX3_get_0 _ (List.mem_of_getElem? (i := 9) rfl)), (List.forall_mem_cons.mpr ⟨(mwsX3_get_0 _ (List.mem_of_getElem? (i := 3) rfl)), (fun _ h => absurd h List.not_mem_nil)⟩)⟩)⟩) (by decide +kernel)) ggX3_get_X3_checkKey
set_option maxRecDepth 20000 in
theorem ggX3_get_X0_valueOf : GoodIn wsX3_get wsX0_valueOf := goodIn_sub (tk_mem 4 _ (fun w h => (mwsX3_get_0 _ (tkB_mem 17 4 h))) (List.forall_mem_cons.mpr ⟨(mwsX3_get_0 _ (List.mem_of_getElem? (i := 16) rfl)), (List.forall_mem_cons.mpr ⟨(mwsX3_get_0 _ (List.mem_of_getElem? (i := 21) rfl)), (List.forall_mem_cons.mpr ⟨(mwsX3_get_0 _ (List.mem_of_getElem? (i := 22) rfl)), (List.forall_mem_cons.mpr ⟨(mwsX3_get_0 _ (List.mem_of_getElem? (i := 23) rfl)), (tk_mem 22 _ (fun w h => (mwsX3_get_1 _ (tkB_mem 0 22 h))) (tk_mem 7 _ (fun w h => (mwsX3_get_3 _ (tkB_mem 0 7 h))) (fun _ h => absurd h List.not_mem_nil)))⟩)⟩)⟩)⟩)) (by decide +kernel)
set_option maxRecDepth 20000 in
theorem gX3_get_X0_valueOf : GoodIn wsX3_get (wsV RX3 43 RX0 yX0_valueOf wsX0_valueOf) := goodIn_app (goodIn_sub (tk_mem 4 _ (fun w h => (mwsX3_get_0 _ (tkB_mem 13 4 h))) (fun _ h => absurd h List.not_mem_nil)) (by decide +kernel)) ggX3_get_X0_valueOf
theorem adX3_get_0 : fd_rows (cX3_get.data.toList.drop 0) 0 [(0, some (.aload_n 0), 1), (1, some (.iload_n 1), 1), (2, some (.invokevirtual 47), 3), (5, some (.astore_n 3), 1), (6, some (.iload_n 2), 1), (7, some (.invokestatic 51), 3), (10, some (.aload_n 3), 1), (11, some (.iload_n 2), 1), (12, some (.invokevirtual 43), 3), (15, some (.ireturn), 1)] = true := by decide +kernel
theorem dX3_get_0 : decode cX3_get 0 = .ok (.aload_n 0, 1) := fd_get adX3_get_0 (k := 0) rfl
theorem dX3_get_1 : decode cX3_get 1 = .ok (.iload_n 1, 1) := fd_get adX3_get_0 (k := 1) rfl
theorem dX3_get_2 : decode cX3_get 2 = .ok (.invokevirtual 47, 3) := fd_get adX3_get_0 (k := 2) rfl
theorem dX3_get_5 : decode cX3_get 5 = .ok (.astore_n 3, 1) := fd_get adX3_get_0 (k := 3) rfl
theorem dX3_get_6 : decode cX3_get 6 = .ok (.iload_n 2, 1) := fd_get adX3_get_0 (k := 4) rfl
theorem dX3_get_7 : decode cX3_get 7 = .ok (.invokestatic 51, 3) := fd_get adX3_get_0 (k := 5) rfl
theorem dX3_get_10 : decode cX3_get 10 = .ok (.aload_n 3, 1) := fd_get adX3_get_0 (k := 6) rfl
theorem dX3_get_11 : decode cX3_get 11 = .ok (.iload_n 2, 1) := fd_get adX3_get_0 (k := 7) rfl
theorem dX3_get_12 : decode cX3_get 12 = .ok (.invokevirtual 43, 3) := fd_get adX3_get_0 (k := 8) rfl
theorem dX3_get_15 : decode cX3_get 15 = .ok (.ireturn, 1) := fd_get adX3_get_0 (k := 9) rfl
theorem mwsX3_getOr_0 : ∀ w ∈ wsX3_getOr_r1, w ∈ wsX3_getOr := fun w h => (List.mem_cons_of_mem _ (List.mem_append_left _ (List.mem_append_left _ (List.mem_append_left _ (List.mem_append_left _ (List.mem_append_left _ h))))))
theorem mwsX3_getOr_1 : ∀ w ∈ wsX3_getOr_r2, w ∈ wsX3_getOr := fun w h => (List.mem_cons_of_mem _ (List.mem_append_left _ (List.mem_append_left _ (List.mem_append_left _ (List.mem_append_left _ (List.mem_append_right _ (List.mem_append_left _ h)))))))
theorem mwsX3_getOr_2 : ∀ w ∈ wsX3_getOr_r3, w ∈ wsX3_getOr := fun w h => (List.mem_cons_of_mem _ (List.mem_append_left _ (List.mem_append_left _ (List.mem_append_left _ (List.mem_append_left _ (List.mem_append_right _ (List.mem_append_right _ h)))))))
theorem mwsX3_getOr_3 : ∀ w ∈ wsX30, w ∈ wsX3_getOr := fun w h => (List.mem_cons_of_mem _ (List.mem_append_left _ (List.mem_append_left _ (List.mem_append_left _ (List.mem_append_right _ h)))))
theorem mwsX3_getOr_4 : ∀ w ∈ wsX00, w ∈ wsX3_getOr := fun w h => (List.mem_cons_of_mem _ (List.mem_append_left _ (List.mem_append_left _ (List.mem_append_right _ h))))
set_option maxRecDepth 20000 in
theorem ggX3_getOr_X3_bookAt : GoodIn wsX3_getOr wsX3_bookAt := goodIn_ca (goodIn_sub (tk_mem 4 _ (fun w h => (mwsX3_getOr_0 _ (tkB_mem 4 4 h))) (tk_mem 6 _ (fun w h => (mwsX3_getOr_3 _ (tkB_mem 0 6 h))) (fun _ h => absurd h List.not_mem_nil))) (by decide +kernel)) (goodIn_sub (fun _ h => List.mem_cons_of_mem _ (List.mem_append_left _ (List.mem_append_right _ h))) (by decide +kernel))
set_option maxRecDepth 20000 in
theorem gX3_getOr_X3_bookAt : GoodIn wsX3_getOr (wsV RX3 47 RX3 yX3_bookAt wsX3_bookAt) := goodIn_app (goodIn_sub (tk_mem 4 _ (fun w h => (mwsX3_getOr_0 _ (tkB_mem 0 4 h))) (fun _ h => absurd h List.not_mem_nil)) (by decide +kernel)) ggX3_getOr_X3_bookAt
set_option maxRecDepth 20000 in
theorem ggX3_getOr_X3_checkKey : GoodIn wsX3_getOr wsX3_checkKey := goodIn_ca (goodIn_sub (List.forall_mem_cons.mpr ⟨(mwsX3_getOr_0 _ (List.mem_of_getElem? (i := 10) rfl)), (List.forall_mem_cons.mpr ⟨(mwsX3_getOr_0 _ (List.mem_of_getElem? (i := 11) rfl)), (List.forall_mem_cons.mpr ⟨(mwsX3_getOr_0 _ (List.mem_of_getElem? (i := 12) rfl)), (fun _ h => absurd h List.not_mem_nil)⟩)⟩)⟩) (by decide +kernel)) (goodIn_sub (fun _ h => List.mem_cons_of_mem _ (List.mem_append_right _ h)) (by decide +kernel))
set_option maxRecDepth 20000 in
theorem gX3_getOr_X3_checkKey : GoodIn wsX3_getOr (va_wsS RX3 51 yX3_checkKey wsX3_checkKey) := goodIn_app (goodIn_sub (List.forall_mem_cons.mpr ⟨(mwsX3_getOr_0 _ (List.mem_of_getElem? (i := 8) rfl)), (List.forall_mem_cons.mpr ⟨(mwsX3_getOr_0 _ (List.mem_of_getElem? (i := 9) rfl)), (List.forall_mem_cons.mpr ⟨(mwsX3_getOr_0 _ (List.mem_of_getElem? (i := 3) rfl)), (fun _ h => absurd h List.not_mem_nil)⟩)⟩)⟩) (by decide +kernel)) ggX3_getOr_X3_checkKey
set_option maxRecDepth 20000 in
theorem ggX3_getOr_X3_checkValue : GoodIn wsX3_getOr wsX3_checkValue := goodIn_ca (goodIn_sub (List.forall_mem_cons.mpr ⟨(mwsX3_getOr_0 _ (List.mem_of_getElem? (i := 15) rfl)), (List.forall_mem_cons.mpr ⟨(mwsX3_getOr_0 _ (List.mem_of_getElem? (i := 11) rfl)), (List.forall_mem_cons.mpr ⟨(mwsX3_getOr_0 _ (List.mem_of_getElem? (i := 12) rfl)), (fun _ h => absurd h List.not_mem_nil)⟩)⟩)⟩) (by decide +kernel)) (goodIn_sub (fun _ h => List.mem_cons_of_mem _ (List.mem_append_right _ h)) (by decide +kernel))
set_option maxRecDepth 20000 in
theorem gX3_getOr_X3_checkValue : GoodIn wsX3_getOr (va_wsS RX3 54 yX3_checkValue wsX3_checkValue) := goodIn_app (goodIn_sub (List.forall_mem_cons.mpr ⟨(mwsX3_getOr_0 _ (List.mem_of_getElem? (i := 13) rfl)), (List.forall_mem_cons.mpr ⟨(mwsX3_getOr_0 _ (List.mem_of_getElem? (i := 14) rfl)), (List.forall_mem_cons.mpr ⟨(mwsX3_getOr_0 _ (List.mem_of_getElem? (i := 3) rfl)), (fun _ h => absurd h List.not_mem_nil)⟩)⟩)⟩) (by decide +kernel)) ggX3_getOr_X3_checkValue
set_option maxRecDepth 20000 in
theorem ggX3_getOr_X0_holds : GoodIn wsX3_getOr wsX0_holds := goodIn_sub (tk_mem 4 _ (fun w h => (mwsX3_getOr_0 _ (tkB_mem 20 4 h))) (List.forall_mem_cons.mpr ⟨(mwsX3_getOr_0 _ (List.mem_of_getElem? (i := 19) rfl)), (tk_mem 24 _ (fun w h => (mwsX3_getOr_1 _ (tkB_mem 0 24 h))) (tk_mem 5 _ (fun w h => (mwsX3_getOr_2 _ (tkB_mem 0 5 h))) (tk_mem 7 _ (fun w h => (mwsX3_getOr_4 _ (tkB_mem 0 7 h))) (fun _ h => absurd h List.not_mem_nil))))⟩)) (by decide +kernel)
set_option maxRecDepth 20000 in
theorem gX3_getOr_X0_holds : GoodIn wsX3_getOr (wsV RX3 39 RX0 yX0_holds wsX0_holds) := goodIn_app (goodIn_sub (tk_mem 4 _ (fun w h => (mwsX3_getOr_0 _ (tkB_mem 16 4 h))) (fun _ h => absurd h List.not_mem_nil)) (by decide +kernel)) ggX3_getOr_X0_holds
set_option maxRecDepth 20000 in
theorem ggX3_getOr_X0_valueOf : GoodIn wsX3_getOr wsX0_valueOf := goodIn_sub (tk_mem 4 _ (fun w h => (mwsX3_getOr_1 _ (tkB_mem 0 4 h))) (List.forall_mem_cons.mpr ⟨(mwsX3_getOr_0 _ (List.mem_of_getElem? (i := 19) rfl)), (tk_mem 20 _ (fun w h => (mwsX3_getOr_1 _ (tkB_mem 4 20 h))) (tk_mem 5 _ (fun w h => (mwsX3_getOr_2 _ (tkB_mem 0 5 h))) (tk_mem 7 _ (fun w h => (mwsX3_getOr_4 _ (tkB_mem 0 7 h))) (fun _ h => absurd h List.not_mem_nil))))⟩)) (by decide +kernel)
set_option maxRecDepth 20000 in
theorem gX3_getOr_X0_valueOf : GoodIn wsX3_getOr (wsV RX3 43 RX0 yX0_valueOf wsX0_valueOf) := goodIn_app (goodIn_sub (List.forall_mem_cons.mpr ⟨(mwsX3_getOr_2 _ (List.mem_of_getElem? (i := 5) rfl)), (List.forall_mem_cons.mpr ⟨(mwsX3_getOr_0 _ (List.mem_of_getElem? (i := 22) rfl)), (List.forall_mem_cons.mpr ⟨(mwsX3_getOr_0 _ (List.mem_of_getElem? (i := 23) rfl)), (List.forall_mem_cons.mpr ⟨(mwsX3_getOr_0 _ (List.mem_of_getElem? (i := 19) rfl)), (fun _ h => absurd h List.not_mem_nil)⟩)⟩)⟩)⟩) (by decide +kernel)) ggX3_getOr_X0_valueOf
theorem adX3_getOr_0 : fd_rows (cX3_getOr.data.toList.drop 0) 0 [(0, some (.aload_n 0), 1), (1, some (.iload_n 1), 1), (2, some (.invokevirtual 47), 3), (5, some (.astore 4), 2), (7, some (.iload_n 2), 1), (8, some (.invokestatic 51), 3), (11, some (.iload_n 3), 1), (12, some (.invokestatic 54), 3), (15, some (.aload 4), 2), (17, some (.iload_n 2), 1), (18, some (.invokevirtual 39), 3), (21, some (.ifCond .eq 12), 3), (24, some (.aload 4), 2), (26, some (.iload_n 2), 1), (27, some (.invokevirtual 43), 3), (30, some (.goto 4), 3)] = true := by decide +kernel
theorem adX3_getOr_1 : fd_rows (cX3_getOr.data.toList.drop 33) 33 [(33, some (.iload_n 3), 1), (34, some (.ireturn), 1)] = true := by decide +kernel
theorem dX3_getOr_0 : decode cX3_getOr 0 = .ok (.aload_n 0, 1) := fd_get adX3_getOr_0 (k := 0) rfl
theorem dX3_getOr_1 : decode cX3_getOr 1 = .ok (.iload_n 1, 1) := fd_get adX3_getOr_0 (k := 1) rfl
theorem dX3_getOr_2 : decode cX3_getOr 2 = .ok (.invokevirtual 47, 3) := fd_get adX3_getOr_0 (k := 2) rfl
theorem dX3_getOr_5 : decode cX3_getOr 5 = .ok (.astore 4, 2) := fd_get adX3_getOr_0 (k := 3) rfl
theorem dX3_getOr_7 : decode cX3_getOr 7 = .ok (.iload_n 2, 1) := fd_get adX3_getOr_0 (k := 4) rfl
theorem dX3_getOr_8 : decode cX3_getOr 8 = .ok (.invokestatic 51, 3) := fd_get adX3_getOr_0 (k := 5) rfl
theorem dX3_getOr_11 : decode cX3_getOr 11 = .ok (.iload_n 3, 1) := fd_get adX3_getOr_0 (k := 6) rfl
theorem dX3_getOr_12 : decode cX3_getOr 12 = .ok (.invokestatic 54, 3) := fd_get adX3_getOr_0 (k := 7) rfl
theorem dX3_getOr_15 : decode cX3_getOr 15 = .ok (.aload 4, 2) := fd_get adX3_getOr_0 (k := 8) rfl
theorem dX3_getOr_17 : decode cX3_getOr 17 = .ok (.iload_n 2, 1) := fd_get adX3_getOr_0 (k := 9) rfl
theorem dX3_getOr_18 : decode cX3_getOr 18 = .ok (.invokevirtual 39, 3) := fd_get adX3_getOr_0 (k := 10) rfl
theorem dX3_getOr_21 : decode cX3_getOr 21 = .ok (.ifCond .eq 12, 3) := fd_get adX3_getOr_0 (k := 11) rfl
theorem dX3_getOr_24 : decode cX3_getOr 24 = .ok (.aload 4, 2) := fd_get adX3_getOr_0 (k := 12) rfl
theorem dX3_getOr_26 : decode cX3_getOr 26 = .ok (.iload_n 2, 1) := fd_get adX3_getOr_0 (k := 13) rfl
theorem dX3_getOr_27 : decode cX3_getOr 27 = .ok (.invokevirtual 43, 3) := fd_get adX3_getOr_0 (k := 14) rfl
theorem dX3_getOr_30 : decode cX3_getOr 30 = .ok (.goto 4, 3) := fd_get adX3_getOr_0 (k := 15) rfl
theorem dX3_getOr_33 : decode cX3_getOr 33 = .ok (.iload_n 3, 1) := fd_get adX3_getOr_1 (k := 0) rfl
theorem dX3_getOr_34 : decode cX3_getOr 34 = .ok (.ireturn, 1) := fd_get adX3_getOr_1 (k := 1) rfl
theorem mwsX3_has_0 : ∀ w ∈ wsX3_has_r1, w ∈ wsX3_has := fun w h => (List.mem_cons_of_mem _ (List.mem_append_left _ (List.mem_append_left _ (List.mem_append_left _ (List.mem_append_left _ (List.mem_append_left _ h))))))
theorem mwsX3_has_1 : ∀ w ∈ wsX3_has_r2, w ∈ wsX3_has := fun w h => (List.mem_cons_of_mem _ (List.mem_append_left _ (List.mem_append_left _ (List.mem_append_left _ (List.mem_append_left _ (List.mem_append_right _ (List.mem_append_left _ h)))))))
theorem mwsX3_has_2 : ∀ w ∈ wsX3_has_r3, w ∈ wsX3_has := fun w h => (List.mem_cons_of_mem _ (List.mem_append_left _ (List.mem_append_left _ (List.mem_append_left _ (List.mem_append_left _ (List.mem_append_right _ (List.mem_append_right _ h)))))))
theorem mwsX3_has_3 : ∀ w ∈ wsX30, w ∈ wsX3_has := fun w h => (List.mem_cons_of_mem _ (List.mem_append_left _ (List.mem_append_left _ (List.mem_append_left _ (List.mem_append_right _ h)))))
theorem mwsX3_has_4 : ∀ w ∈ wsX00, w ∈ wsX3_has := fun w h => (List.mem_cons_of_mem _ (List.mem_append_left _ (List.mem_append_left _ (List.mem_append_right _ h))))
set_option maxRecDepth 20000 in
theorem ggX3_has_X3_bookAt : GoodIn wsX3_has wsX3_bookAt := goodIn_ca (goodIn_sub (tk_mem 4 _ (fun w h => (mwsX3_has_0 _ (tkB_mem 4 4 h))) (tk_mem 6 _ (fun w h => (mwsX3_has_3 _ (tkB_mem 0 6 h))) (fun _ h => absurd h List.not_mem_nil))) (by decide +kernel)) (goodIn_sub (fun _ h => List.mem_cons_of_mem _ (List.mem_append_left _ (List.mem_append_right _ h))) (by decide +kernel))
set_option maxRecDepth 20000 in
theorem gX3_has_X3_bookAt : GoodIn wsX3_has (wsV RX3 47 RX3 yX3_bookAt wsX3_bookAt) := goodIn_app (goodIn_sub (tk_mem 4 _ (fun w h => (mwsX3_has_0 _ (tkB_mem 0 4 h))) (fun _ h => absurd h List.not_mem_nil)) (by decide +kernel)) ggX3_has_X3_bookAt
set_option maxRecDepth 20000 in
theorem ggX3_has_X3_checkKey : GoodIn wsX3_has wsX3_checkKey := goodIn_ca (goodIn_sub (List.forall_mem_cons.mpr ⟨(mwsX3_has_0 _ (List.mem_of_getElem? (i := 10) rfl)), (List.forall_mem_cons.mpr ⟨(mwsX3_has_0 _ (List.mem_of_getElem? (i := 11) rfl)), (List.forall_mem_cons.mpr ⟨(mwsX3_has_0 _ (List.mem_of_getElem? (i := 12) rfl)), (fun _ h => absurd h List.not_mem_nil)⟩)⟩)⟩) (by decide +kernel)) (goodIn_sub (fun _ h => List.mem_cons_of_mem _ (List.mem_append_right _ h)) (by decide +kernel))
set_option maxRecDepth 20000 in
theorem gX3_has_X3_checkKey : GoodIn wsX3_has (va_wsS RX3 51 yX3_checkKey wsX3_checkKey) := goodIn_app (goodIn_sub (List.forall_mem_cons.mpr ⟨(mwsX3_has_0 _ (List.mem_of_getElem? (i := 8) rfl)), (List.forall_mem_cons.mpr ⟨(mwsX3_has_0 _ (List.mem_of_getElem? (i := 9) rfl)), (List.forall_mem_cons.mpr ⟨(mwsX3_has_0 _ (List.mem_of_getElem? (i := 3) rfl)), (fun _ h => absurd h List.not_mem_nil)⟩)⟩)⟩) (by decide +kernel)) ggX3_has_X3_checkKey
set_option maxRecDepth 20000 in
theorem ggX3_has_X0_holds : GoodIn wsX3_has wsX0_holds := goodIn_sub (tk_mem 4 _ (fun w h => (mwsX3_has_0 _ (tkB_mem 17 4 h))) (List.forall_mem_cons.mpr ⟨(mwsX3_has_0 _ (List.mem_of_getElem? (i := 16) rfl)), (List.forall_mem_cons.mpr ⟨(mwsX3_has_0 _ (List.mem_of_getElem? (i := 21) rfl)), (List.forall_mem_cons.mpr ⟨(mwsX3_has_0 _ (List.mem_of_getElem? (i := 22) rfl)), (List.forall_mem_cons.mpr ⟨(mwsX3_has_0 _ (List.mem_of_getElem? (i := 23) rfl)), (tk_mem 24 _ (fun w h => (mwsX3_has_1 _ (tkB_mem 0 24 h))) (List.forall_mem_cons.mpr ⟨(mwsX3_has_2 _ (List.mem_of_getElem? (i := 0) rfl)), (List.forall_mem_cons.mpr ⟨(mwsX3_has_2 _ (List.mem_of_getElem? (i := 1) rfl)), (tk_mem 7 _ (fun w h => (mwsX3_has_4 _ (tkB_mem 0 7 h))) (fun _ h => absurd h List.not_mem_nil))⟩)⟩))⟩)⟩)⟩)⟩)) (by decide +kernel)
set_option maxRecDepth 20000 in
theorem gX3_has_X0_holds : GoodIn wsX3_has (wsV RX3 39 RX0 yX0_holds wsX0_holds) := goodIn_app (goodIn_sub (tk_mem 4 _ (fun w h => (mwsX3_has_0 _ (tkB_mem 13 4 h))) (fun _ h => absurd h List.not_mem_nil)) (by decide +kernel)) ggX3_has_X0_holds
theorem adX3_has_0 : fd_rows (cX3_has.data.toList.drop 0) 0 [(0, some (.aload_n 0), 1), (1, some (.iload_n 1), 1), (2, some (.invokevirtual 47), 3), (5, some (.astore_n 3), 1), (6, some (.iload_n 2), 1), (7, some (.invokestatic 51), 3), (10, some (.aload_n 3), 1), (11, some (.iload_n 2), 1), (12, some (.invokevirtual 39), 3), (15, some (.ireturn), 1)] = true := by decide +kernel
theorem dX3_has_0 : decode cX3_has 0 = .ok (.aload_n 0, 1) := fd_get adX3_has_0 (k := 0) rfl
theorem dX3_has_1 : decode cX3_has 1 = .ok (.iload_n 1, 1) := fd_get adX3_has_0 (k := 1) rfl
theorem dX3_has_2 : decode cX3_has 2 = .ok (.invokevirtual 47, 3) := fd_get adX3_has_0 (k := 2) rfl
theorem dX3_has_5 : decode cX3_has 5 = .ok (.astore_n 3, 1) := fd_get adX3_has_0 (k := 3) rfl
theorem dX3_has_6 : decode cX3_has 6 = .ok (.iload_n 2, 1) := fd_get adX3_has_0 (k := 4) rfl
theorem dX3_has_7 : decode cX3_has 7 = .ok (.invokestatic 51, 3) := fd_get adX3_has_0 (k := 5) rfl
theorem dX3_has_10 : decode cX3_has 10 = .ok (.aload_n 3, 1) := fd_get adX3_has_0 (k := 6) rfl
theorem dX3_has_11 : decode cX3_has 11 = .ok (.iload_n 2, 1) := fd_get adX3_has_0 (k := 7) rfl
theorem dX3_has_12 : decode cX3_has 12 = .ok (.invokevirtual 39, 3) := fd_get adX3_has_0 (k := 8) rfl
theorem dX3_has_15 : decode cX3_has 15 = .ok (.ireturn, 1) := fd_get adX3_has_0 (k := 9) rfl
theorem mwsX3_hasValue_0 : ∀ w ∈ wsX30, w ∈ wsX3_hasValue := fun w h => (List.mem_cons_of_mem _ (List.mem_append_left _ (List.mem_append_left _ (List.mem_append_left _ (List.mem_append_right _ h)))))
theorem mwsX3_hasValue_1 : ∀ w ∈ wsX00, w ∈ wsX3_hasValue := fun w h => (List.mem_cons_of_mem _ (List.mem_append_left _ (List.mem_append_left _ (List.mem_append_right _ h))))
set_option maxRecDepth 20000 in
theorem ggX3_hasValue_X3_bookAt : GoodIn wsX3_hasValue wsX3_bookAt := goodIn_ca (goodIn_sub (tk_mem 4 _ (fun w h => (List.mem_cons_of_mem _ (List.mem_append_left _ (List.mem_append_left _ (List.mem_append_left _ (List.mem_append_left _ (tkB_mem 4 4 h))))))) (tk_mem 6 _ (fun w h => (mwsX3_hasValue_0 _ (tkB_mem 0 6 h))) (fun _ h => absurd h List.not_mem_nil))) (by decide +kernel)) (goodIn_sub (fun _ h => List.mem_cons_of_mem _ (List.mem_append_left _ (List.mem_append_right _ h))) (by decide +kernel))
set_option maxRecDepth 20000 in
theorem gX3_hasValue_X3_bookAt : GoodIn wsX3_hasValue (wsV RX3 47 RX3 yX3_bookAt wsX3_bookAt) := goodIn_app (goodIn_sub (tk_mem 4 _ (fun w h => (List.mem_cons_of_mem _ (List.mem_append_left _ (List.mem_append_left _ (List.mem_append_left _ (List.mem_append_left _ (tkB_mem 0 4 h))))))) (fun _ h => absurd h List.not_mem_nil)) (by decide +kernel)) ggX3_hasValue_X3_bookAt
set_option maxRecDepth 20000 in
theorem ggX3_hasValue_X3_checkValue : GoodIn wsX3_hasValue wsX3_checkValue := goodIn_ca (goodIn_sub (List.forall_mem_cons.mpr ⟨(List.mem_cons_of_mem _ (List.mem_append_left _ (List.mem_append_left _ (List.mem_append_left _ (List.mem_append_left _ (List.mem_of_getElem? (i := 10) rfl)))))), (List.forall_mem_cons.mpr ⟨(List.mem_cons_of_mem _ (List.mem_append_left _ (List.mem_append_left _ (List.mem_append_left _ (List.mem_append_left _ (List.mem_of_getElem? (i := 11) rfl)))))), (List.forall_mem_cons.mpr ⟨(List.mem_cons_of_mem _ (List.mem_append_left _ (List.mem_append_left _ (List.mem_append_left _ (List.mem_append_left _ (List.mem_of_getElem? (i := 12) rfl)))))), (fun _ h => absurd h List.not_mem_nil)⟩)⟩)⟩) (by decide +kernel)) (goodIn_sub (fun _ h => List.mem_cons_of_mem _ (List.mem_append_right _ h)) (by decide +kernel))
set_option maxRecDepth 20000 in
theorem gX3_hasValue_X3_checkValue : GoodIn wsX3_hasValue (va_wsS RX3 54 yX3_checkValue wsX3_checkValue) := goodIn_app (goodIn_sub (List.forall_mem_cons.mpr ⟨(List.mem_cons_of_mem _ (List.mem_append_left _ (List.mem_append_left _ (List.mem_append_left _ (List.mem_append_left _ (List.mem_of_getElem? (i := 8) rfl)))))), (List.forall_mem_cons.mpr ⟨(List.mem_cons_of_mem _ (List.mem_append_left _ (List.mem_append_left _ (List.mem_append_left _ (List.mem_append_left _ (List.mem_of_getElem? (i := 9) rfl)))))), (List.forall_mem_cons.mpr ⟨(List.mem_cons_of_mem _ (List.mem_append_left _ (List.mem_append_left _ (List.mem_append_left _ (List.mem_append_left _ (List.mem_of_getElem? (i := 3) rfl)))))), (fun _ h => absurd h List.not_mem_nil)⟩)⟩)⟩) (by decide +kernel)) ggX3_hasValue_X3_checkValue
set_option maxRecDepth 20000 in
theorem ggX3_hasValue_X0_firstPlaceOfValue : GoodIn wsX3_hasValue wsX0_firstPlaceOfValue := goodIn_sub (List.forall_mem_cons.mpr ⟨(List.mem_cons_of_mem _ (List.mem_append_left _ (List.mem_append_left _ (List.mem_append_left _ (List.mem_append_left _ (List.mem_of_getElem? (i := 17) rfl)))))), (List.forall_mem_cons.mpr ⟨(List.mem_cons_of_mem _ (List.mem_append_left _ (List.mem_append_left _ (List.mem_append_left _ (List.mem_append_left _ (List.mem_of_getElem? (i := 18) rfl)))))), (List.forall_mem_cons.mpr ⟨(List.mem_cons_of_mem _ (List.mem_append_left _ (List.mem_append_left _ (List.mem_append_left _ (List.mem_append_left _ (List.mem_of_getElem? (i := 19) rfl)))))), (tk_mem 7 _ (fun w h => (mwsX3_hasValue_1 _ (tkB_mem 0 7 h))) (fun _ h => absurd h List.not_mem_nil))⟩)⟩)⟩) (by decide +kernel)
set_option maxRecDepth 20000 in
theorem gX3_hasValue_X0_firstPlaceOfValue : GoodIn wsX3_hasValue (wsV RX3 109 RX0 yX0_firstPlaceOfValue wsX0_firstPlaceOfValue) := goodIn_app (goodIn_sub (tk_mem 4 _ (fun w h => (List.mem_cons_of_mem _ (List.mem_append_left _ (List.mem_append_left _ (List.mem_append_left _ (List.mem_append_left _ (tkB_mem 13 4 h))))))) (fun _ h => absurd h List.not_mem_nil)) (by decide +kernel)) ggX3_hasValue_X0_firstPlaceOfValue
theorem adX3_hasValue_0 : fd_rows (cX3_hasValue.data.toList.drop 0) 0 [(0, some (.aload_n 0), 1), (1, some (.iload_n 1), 1), (2, some (.invokevirtual 47), 3), (5, some (.astore_n 3), 1), (6, some (.iload_n 2), 1), (7, some (.invokestatic 54), 3), (10, some (.aload_n 3), 1), (11, some (.iload_n 2), 1), (12, some (.invokevirtual 109), 3), (15, some (.sipush (-10000)), 3), (18, some (.if_icmp .eq 7), 3), (21, some (.iconst 1), 1), (22, some (.goto 4), 3), (25, some (.iconst 0), 1), (26, some (.ireturn), 1)] = true := by decide +kernel
theorem dX3_hasValue_0 : decode cX3_hasValue 0 = .ok (.aload_n 0, 1) := fd_get adX3_hasValue_0 (k := 0) rfl
theorem dX3_hasValue_1 : decode cX3_hasValue 1 = .ok (.iload_n 1, 1) := fd_get adX3_hasValue_0 (k := 1) rfl
theorem dX3_hasValue_2 : decode cX3_hasValue 2 = .ok (.invokevirtual 47, 3) := fd_get adX3_hasValue_0 (k := 2) rfl
theorem dX3_hasValue_5 : decode cX3_hasValue 5 = .ok (.astore_n 3, 1) := fd_get adX3_hasValue_0 (k := 3) rfl
theorem dX3_hasValue_6 : decode cX3_hasValue 6 = .ok (.iload_n 2, 1) := fd_get adX3_hasValue_0 (k := 4) rfl
theorem dX3_hasValue_7 : decode cX3_hasValue 7 = .ok (.invokestatic 54, 3) := fd_get adX3_hasValue_0 (k := 5) rfl
theorem dX3_hasValue_10 : decode cX3_hasValue 10 = .ok (.aload_n 3, 1) := fd_get adX3_hasValue_0 (k := 6) rfl
theorem dX3_hasValue_11 : decode cX3_hasValue 11 = .ok (.iload_n 2, 1) := fd_get adX3_hasValue_0 (k := 7) rfl
theorem dX3_hasValue_12 : decode cX3_hasValue 12 = .ok (.invokevirtual 109, 3) := fd_get adX3_hasValue_0 (k := 8) rfl
theorem dX3_hasValue_15 : decode cX3_hasValue 15 = .ok (.sipush (-10000), 3) := fd_get adX3_hasValue_0 (k := 9) rfl
theorem dX3_hasValue_18 : decode cX3_hasValue 18 = .ok (.if_icmp .eq 7, 3) := fd_get adX3_hasValue_0 (k := 10) rfl
theorem dX3_hasValue_21 : decode cX3_hasValue 21 = .ok (.iconst 1, 1) := fd_get adX3_hasValue_0 (k := 11) rfl
theorem dX3_hasValue_22 : decode cX3_hasValue 22 = .ok (.goto 4, 3) := fd_get adX3_hasValue_0 (k := 12) rfl
theorem dX3_hasValue_25 : decode cX3_hasValue 25 = .ok (.iconst 0, 1) := fd_get adX3_hasValue_0 (k := 13) rfl
theorem dX3_hasValue_26 : decode cX3_hasValue 26 = .ok (.ireturn, 1) := fd_get adX3_hasValue_0 (k := 14) rfl
theorem mwsX3_ofBook_0 : ∀ w ∈ wsX3_ofBook_r1, w ∈ wsX3_ofBook := fun w h => (List.mem_cons_of_mem _ (List.mem_append_left _ (List.mem_append_left _ (List.mem_append_left _ (List.mem_append_left _ (List.mem_append_left _ (List.mem_append_left _ h)))))))
theorem mwsX3_ofBook_1 : ∀ w ∈ wsX3_ofBook_r2, w ∈ wsX3_ofBook := fun w h => (List.mem_cons_of_mem _ (List.mem_append_left _ (List.mem_append_left _ (List.mem_append_left _ (List.mem_append_left _ (List.mem_append_left _ (List.mem_append_right _ (List.mem_append_left _ h))))))))
theorem mwsX3_ofBook_2 : ∀ w ∈ wsX3_ofBook_r3, w ∈ wsX3_ofBook := fun w h => (List.mem_cons_of_mem _ (List.mem_append_left _ (List.mem_append_left _ (List.mem_append_left _ (List.mem_append_left _ (List.mem_append_left _ (List.mem_append_right _ (List.mem_append_right _ h))))))))
theorem mwsX3_ofBook_3 : ∀ w ∈ wsX30, w ∈ wsX3_ofBook := fun w h => (List.mem_cons_of_mem _ (List.mem_append_left _ (List.mem_append_left _ (List.mem_append_left _ (List.mem_append_left _ (List.mem_append_right _ h))))))
theorem mwsX3_ofBook_4 : ∀ w ∈ wsX00, w ∈ wsX3_ofBook := fun w h => (List.mem_cons_of_mem _ (List.mem_append_left _ (List.mem_append_left _ (List.mem_append_left _ (List.mem_append_right _ h)))))
theorem mwsX3_ofBook_5 : ∀ w ∈ wsX10, w ∈ wsX3_ofBook := fun w h => (List.mem_cons_of_mem _ (List.mem_append_left _ (List.mem_append_left _ (List.mem_append_right _ h))))
set_option maxRecDepth 20000 in
theorem ggX3_ofBook_X3_bookAt : GoodIn wsX3_ofBook wsX3_bookAt := goodIn_ca (goodIn_sub (tk_mem 4 _ (fun w h => (mwsX3_ofBook_0 _ (tkB_mem 4 4 h))) (tk_mem 6 _ (fun w h => (mwsX3_ofBook_3 _ (tkB_mem 0 6 h))) (fun _ h => absurd h List.not_mem_nil))) (by decide +kernel)) (goodIn_sub (fun _ h => List.mem_cons_of_mem _ (List.mem_append_left _ (List.mem_append_right _ h))) (by decide +kernel))
set_option maxRecDepth 20000 in
theorem gX3_ofBook_X3_bookAt : GoodIn wsX3_ofBook (wsV RX3 47 RX3 yX3_bookAt wsX3_bookAt) := goodIn_app (goodIn_sub (tk_mem 4 _ (fun w h => (mwsX3_ofBook_0 _ (tkB_mem 0 4 h))) (fun _ h => absurd h List.not_mem_nil)) (by decide +kernel)) ggX3_ofBook_X3_bookAt
set_option maxRecDepth 20000 in
theorem ggX3_ofBook_X3_checkWhat : GoodIn wsX3_ofBook wsX3_checkWhat := goodIn_ca (goodIn_sub (List.forall_mem_cons.mpr ⟨(mwsX3_ofBook_0 _ (List.mem_of_getElem? (i := 10) rfl)), (List.forall_mem_cons.mpr ⟨(mwsX3_ofBook_0 _ (List.mem_of_getElem? (i := 11) rfl)), (List.forall_mem_cons.mpr ⟨(mwsX3_ofBook_0 _ (List.mem_of_getElem? (i := 12) rfl)), (fun _ h => absurd h List.not_mem_nil)⟩)⟩)⟩) (by decide +kernel)) (goodIn_sub (fun _ h => List.mem_cons_of_mem _ (List.mem_append_right _ h)) (by decide +kernel))
set_option maxRecDepth 20000 in
theorem gX3_ofBook_X3_checkWhat : GoodIn wsX3_ofBook (va_wsS RX3 210 yX3_checkWhat wsX3_checkWhat) := goodIn_app (goodIn_sub (List.forall_mem_cons.mpr ⟨(mwsX3_ofBook_0 _ (List.mem_of_getElem? (i := 8) rfl)), (List.forall_mem_cons.mpr ⟨(mwsX3_ofBook_0 _ (List.mem_of_getElem? (i := 9) rfl)), (List.forall_mem_cons.mpr ⟨(mwsX3_ofBook_0 _ (List.mem_of_getElem? (i := 3) rfl)), (fun _ h => absurd h List.not_mem_nil)⟩)⟩)⟩) (by decide +kernel)) ggX3_ofBook_X3_checkWhat
set_option maxRecDepth 20000 in
theorem ggX3_ofBook_X0_size : GoodIn wsX3_ofBook wsX0_size := goodIn_sub (List.forall_mem_cons.mpr ⟨(mwsX3_ofBook_0 _ (List.mem_of_getElem? (i := 17) rfl)), (List.forall_mem_cons.mpr ⟨(mwsX3_ofBook_0 _ (List.mem_of_getElem? (i := 18) rfl)), (tk_mem 7 _ (fun w h => (mwsX3_ofBook_4 _ (tkB_mem 0 7 h))) (fun _ h => absurd h List.not_mem_nil))⟩)⟩) (by decide +kernel)
set_option maxRecDepth 20000 in
theorem gX3_ofBook_X0_size : GoodIn wsX3_ofBook (wsV RX3 79 RX0 yX0_size wsX0_size) := goodIn_app (goodIn_sub (tk_mem 4 _ (fun w h => (mwsX3_ofBook_0 _ (tkB_mem 13 4 h))) (fun _ h => absurd h List.not_mem_nil)) (by decide +kernel)) ggX3_ofBook_X0_size
set_option maxRecDepth 20000 in
theorem ggX3_ofBook_X0_order : GoodIn wsX3_ofBook wsX0_order := goodIn_sub (List.forall_mem_cons.mpr ⟨(mwsX3_ofBook_0 _ (List.mem_of_getElem? (i := 22) rfl)), (List.forall_mem_cons.mpr ⟨(mwsX3_ofBook_0 _ (List.mem_of_getElem? (i := 23) rfl)), (tk_mem 7 _ (fun w h => (mwsX3_ofBook_4 _ (tkB_mem 0 7 h))) (fun _ h => absurd h List.not_mem_nil))⟩)⟩) (by decide +kernel)
set_option maxRecDepth 20000 in
theorem gX3_ofBook_X0_order : GoodIn wsX3_ofBook (wsV RX3 213 RX0 yX0_order wsX0_order) := goodIn_app (goodIn_sub (List.forall_mem_cons.mpr ⟨(mwsX3_ofBook_0 _ (List.mem_of_getElem? (i := 19) rfl)), (List.forall_mem_cons.mpr ⟨(mwsX3_ofBook_0 _ (List.mem_of_getElem? (i := 20) rfl)), (List.forall_mem_cons.mpr ⟨(mwsX3_ofBook_0 _ (List.mem_of_getElem? (i := 21) rfl)), (List.forall_mem_cons.mpr ⟨(mwsX3_ofBook_0 _ (List.mem_of_getElem? (i := 16) rfl)), (fun _ h => absurd h List.not_mem_nil)⟩)⟩)⟩)⟩) (by decide +kernel)) ggX3_ofBook_X0_order
set_option maxRecDepth 20000 in
theorem ggX3_ofBook_X0_keyAt : GoodIn wsX3_ofBook wsX0_keyAt := goodIn_sub (tk_mem 5 _ (fun w h => (mwsX3_ofBook_1 _ (tkB_mem 3 5 h))) (List.forall_mem_cons.mpr ⟨(mwsX3_ofBook_0 _ (List.mem_of_getElem? (i := 16) rfl)), (List.forall_mem_cons.mpr ⟨(mwsX3_ofBook_1 _ (List.mem_of_getElem? (i := 8) rfl)), (List.forall_mem_cons.mpr ⟨(mwsX3_ofBook_0 _ (List.mem_of_getElem? (i := 18) rfl)), (tk_mem 7 _ (fun w h => (mwsX3_ofBook_4 _ (tkB_mem 0 7 h))) (fun _ h => absurd h List.not_mem_nil))⟩)⟩)⟩)) (by decide +kernel)
set_option maxRecDepth 20000 in
theorem gX3_ofBook_X0_keyAt : GoodIn wsX3_ofBook (wsV RX3 201 RX0 yX0_keyAt wsX0_keyAt) := goodIn_app (goodIn_sub (List.forall_mem_cons.mpr ⟨(mwsX3_ofBook_1 _ (List.mem_of_getElem? (i := 0) rfl)), (List.forall_mem_cons.mpr ⟨(mwsX3_ofBook_1 _ (List.mem_of_getElem? (i := 1) rfl)), (List.forall_mem_cons.mpr ⟨(mwsX3_ofBook_1 _ (List.mem_of_getElem? (i := 2) rfl)), (List.forall_mem_cons.mpr ⟨(mwsX3_ofBook_0 _ (List.mem_of_getElem? (i := 16) rfl)), (fun _ h => absurd h List.not_mem_nil)⟩)⟩)⟩)⟩) (by decide +kernel)) ggX3_ofBook_X0_keyAt
set_option maxRecDepth 20000 in
theorem ggX3_ofBook_X0_valueAt : GoodIn wsX3_ofBook wsX0_valueAt := goodIn_sub (List.forall_mem_cons.mpr ⟨(mwsX3_ofBook_1 _ (List.mem_of_getElem? (i := 12) rfl)), (List.forall_mem_cons.mpr ⟨(mwsX3_ofBook_1 _ (List.mem_of_getElem? (i := 13) rfl)), (List.forall_mem_cons.mpr ⟨(mwsX3_ofBook_1 _ (List.mem_of_getElem? (i := 5) rfl)), (List.forall_mem_cons.mpr ⟨(mwsX3_ofBook_1 _ (List.mem_of_getElem? (i := 6) rfl)), (List.forall_mem_cons.mpr ⟨(mwsX3_ofBook_1 _ (List.mem_of_getElem? (i := 7) rfl)), (List.forall_mem_cons.mpr ⟨(mwsX3_ofBook_0 _ (List.mem_of_getElem? (i := 16) rfl)), (List.forall_mem_cons.mpr ⟨(mwsX3_ofBook_1 _ (List.mem_of_getElem? (i := 8) rfl)), (List.forall_mem_cons.mpr ⟨(mwsX3_ofBook_0 _ (List.mem_of_getElem? (i := 18) rfl)), (tk_mem 7 _ (fun w h => (mwsX3_ofBook_4 _ (tkB_mem 0 7 h))) (fun _ h => absurd h List.not_mem_nil))⟩)⟩)⟩)⟩)⟩)⟩)⟩)⟩) (by decide +kernel)
set_option maxRecDepth 20000 in
theorem gX3_ofBook_X0_valueAt : GoodIn wsX3_ofBook (wsV RX3 204 RX0 yX0_valueAt wsX0_valueAt) := goodIn_app (goodIn_sub (List.forall_mem_cons.mpr ⟨(mwsX3_ofBook_1 _ (List.mem_of_getElem? (i := 9) rfl)), (List.forall_mem_cons.mpr ⟨(mwsX3_ofBook_1 _ (List.mem_of_getElem? (i := 10) rfl)), (List.forall_mem_cons.mpr ⟨(mwsX3_ofBook_1 _ (List.mem_of_getElem? (i := 11) rfl)), (List.forall_mem_cons.mpr ⟨(mwsX3_ofBook_0 _ (List.mem_of_getElem? (i := 16) rfl)), (fun _ h => absurd h List.not_mem_nil)⟩)⟩)⟩)⟩) (by decide +kernel)) ggX3_ofBook_X0_valueAt
set_option maxRecDepth 20000 in
theorem ggX3_ofBook_X0_sum : GoodIn wsX3_ofBook wsX0_sum := goodIn_sub (List.forall_mem_cons.mpr ⟨(mwsX3_ofBook_1 _ (List.mem_of_getElem? (i := 17) rfl)), (List.forall_mem_cons.mpr ⟨(mwsX3_ofBook_1 _ (List.mem_of_getElem? (i := 13) rfl)), (List.forall_mem_cons.mpr ⟨(mwsX3_ofBook_1 _ (List.mem_of_getElem? (i := 5) rfl)), (List.forall_mem_cons.mpr ⟨(mwsX3_ofBook_1 _ (List.mem_of_getElem? (i := 6) rfl)), (List.forall_mem_cons.mpr ⟨(mwsX3_ofBook_1 _ (List.mem_of_getElem? (i := 7) rfl)), (List.forall_mem_cons.mpr ⟨(mwsX3_ofBook_0 _ (List.mem_of_getElem? (i := 16) rfl)), (List.forall_mem_cons.mpr ⟨(mwsX3_ofBook_1 _ (List.mem_of_getElem? (i := 8) rfl)), (List.forall_mem_cons.mpr ⟨(mwsX3_ofBook_0 _ (List.mem_of_getElem? (i := 18) rfl)), (tk_mem 7 _ (fun w h => (mwsX3_ofBook_4 _ (tkB_mem 0 7 h))) (fun _ h => absurd h List.not_mem_nil))⟩)⟩)⟩)⟩)⟩)⟩)⟩)⟩) (by decide +kernel)
set_option maxRecDepth 20000 in
theorem gX3_ofBook_X0_sum : GoodIn wsX3_ofBook (wsV RX3 216 RX0 yX0_sum wsX0_sum) := goodIn_app (goodIn_sub (List.forall_mem_cons.mpr ⟨(mwsX3_ofBook_1 _ (List.mem_of_getElem? (i := 14) rfl)), (List.forall_mem_cons.mpr ⟨(mwsX3_ofBook_1 _ (List.mem_of_getElem? (i := 15) rfl)), (List.forall_mem_cons.mpr ⟨(mwsX3_ofBook_1 _ (List.mem_of_getElem? (i := 16) rfl)), (List.forall_mem_cons.mpr ⟨(mwsX3_ofBook_0 _ (List.mem_of_getElem? (i := 16) rfl)), (fun _ h => absurd h List.not_mem_nil)⟩)⟩)⟩)⟩) (by decide +kernel)) ggX3_ofBook_X0_sum
set_option maxRecDepth 20000 in
theorem ggX3_ofBook_X0_unlikeValues : GoodIn wsX3_ofBook wsX0_unlikeValues := goodIn_sub (List.forall_mem_cons.mpr ⟨(mwsX3_ofBook_1 _ (List.mem_of_getElem? (i := 21) rfl)), (List.forall_mem_cons.mpr ⟨(mwsX3_ofBook_0 _ (List.mem_of_getElem? (i := 18) rfl)), (List.forall_mem_cons.mpr ⟨(mwsX3_ofBook_1 _ (List.mem_of_getElem? (i := 13) rfl)), (List.forall_mem_cons.mpr ⟨(mwsX3_ofBook_1 _ (List.mem_of_getElem? (i := 22) rfl)), (List.forall_mem_cons.mpr ⟨(mwsX3_ofBook_1 _ (List.mem_of_getElem? (i := 23) rfl)), (List.forall_mem_cons.mpr ⟨(mwsX3_ofBook_2 _ (List.mem_of_getElem? (i := 0) rfl)), (List.forall_mem_cons.mpr ⟨(mwsX3_ofBook_0 _ (List.mem_of_getElem? (i := 16) rfl)), (List.forall_mem_cons.mpr ⟨(mwsX3_ofBook_2 _ (List.mem_of_getElem? (i := 1) rfl)), (tk_mem 7 _ (fun w h => (mwsX3_ofBook_4 _ (tkB_mem 0 7 h))) (fun _ h => absurd h List.not_mem_nil))⟩)⟩)⟩)⟩)⟩)⟩)⟩)⟩) (by decide +kernel)
set_option maxRecDepth 20000 in
theorem gX3_ofBook_X0_unlikeValues : GoodIn wsX3_ofBook (wsV RX3 219 RX0 yX0_unlikeValues wsX0_unlikeValues) := goodIn_app (goodIn_sub (List.forall_mem_cons.mpr ⟨(mwsX3_ofBook_1 _ (List.mem_of_getElem? (i := 18) rfl)), (List.forall_mem_cons.mpr ⟨(mwsX3_ofBook_1 _ (List.mem_of_getElem? (i := 19) rfl)), (List.forall_mem_cons.mpr ⟨(mwsX3_ofBook_1 _ (List.mem_of_getElem? (i := 20) rfl)), (List.forall_mem_cons.mpr ⟨(mwsX3_ofBook_0 _ (List.mem_of_getElem? (i := 16) rfl)), (fun _ h => absurd h List.not_mem_nil)⟩)⟩)⟩)⟩) (by decide +kernel)) ggX3_ofBook_X0_unlikeValues
set_option maxRecDepth 20000 in
theorem ggX3_ofBook_X3_viewsOnto : GoodIn wsX3_ofBook wsX3_viewsOnto := goodIn_sub (tk_mem 8 _ (fun w h => (mwsX3_ofBook_2 _ (tkB_mem 5 8 h))) (tk_mem 6 _ (fun w h => (mwsX3_ofBook_3 _ (tkB_mem 0 6 h))) (tk_mem 7 _ (fun w h => (mwsX3_ofBook_5 _ (tkB_mem 0 7 h))) (fun _ h => absurd h List.not_mem_nil)))) (by decide +kernel)
set_option maxRecDepth 20000 in
theorem gX3_ofBook_X3_viewsOnto : GoodIn wsX3_ofBook (wsV RX3 222 RX3 yX3_viewsOnto wsX3_viewsOnto) := goodIn_app (goodIn_sub (List.forall_mem_cons.mpr ⟨(mwsX3_ofBook_2 _ (List.mem_of_getElem? (i := 2) rfl)), (List.forall_mem_cons.mpr ⟨(mwsX3_ofBook_2 _ (List.mem_of_getElem? (i := 3) rfl)), (List.forall_mem_cons.mpr ⟨(mwsX3_ofBook_2 _ (List.mem_of_getElem? (i := 4) rfl)), (List.forall_mem_cons.mpr ⟨(mwsX3_ofBook_0 _ (List.mem_of_getElem? (i := 3) rfl)), (fun _ h => absurd h List.not_mem_nil)⟩)⟩)⟩)⟩) (by decide +kernel)) ggX3_ofBook_X3_viewsOnto
theorem adX3_ofBook_0 : fd_rows (cX3_ofBook.data.toList.drop 0) 0 [(0, some (.aload_n 0), 1), (1, some (.iload_n 1), 1), (2, some (.invokevirtual 47), 3), (5, some (.astore_n 3), 1), (6, some (.iload_n 2), 1), (7, some (.bipush 8), 2), (9, some (.invokestatic 210), 3), (12, some (.iload_n 2), 1), (13, none, 47), (60, some (.aload_n 3), 1), (61, some (.invokevirtual 79), 3), (64, some (.ireturn), 1), (65, some (.aload_n 3), 1), (66, some (.invokevirtual 213), 3), (69, some (.ireturn), 1), (70, some (.aload_n 3), 1)] = true := by decide +kernel
theorem adX3_ofBook_1 : fd_rows (cX3_ofBook.data.toList.drop 71) 71 [(71, some (.iconst 0), 1), (72, some (.invokevirtual 201), 3), (75, some (.ireturn), 1), (76, some (.aload_n 3), 1), (77, some (.iconst 0), 1), (78, some (.invokevirtual 204), 3), (81, some (.ireturn), 1), (82, some (.aload_n 3), 1), (83, some (.aload_n 3), 1), (84, some (.invokevirtual 79), 3), (87, some (.iconst 1), 1), (88, some (.isub), 1), (89, some (.invokevirtual 201), 3), (92, some (.ireturn), 1), (93, some (.aload_n 3), 1), (94, some (.aload_n 3), 1)] = true := by decide +kernel
theorem adX3_ofBook_2 : fd_rows (cX3_ofBook.data.toList.drop 95) 95 [(95, some (.invokevirtual 79), 3), (98, some (.iconst 1), 1), (99, some (.isub), 1), (100, some (.invokevirtual 204), 3), (103, some (.ireturn), 1), (104, some (.aload_n 3), 1), (105, some (.iconst 0), 1), (106, some (.aload_n 3), 1), (107, some (.invokevirtual 79), 3), (110, some (.invokevirtual 216), 3), (113, some (.ireturn), 1), (114, some (.aload_n 3), 1), (115, some (.invokevirtual 219), 3), (118, some (.ireturn), 1), (119, some (.aload_n 0), 1), (120, some (.aload_n 3), 1)] = true := by decide +kernel
theorem adX3_ofBook_3 : fd_rows (cX3_ofBook.data.toList.drop 121) 121 [(121, some (.invokevirtual 222), 3), (124, some (.ireturn), 1)] = true := by decide +kernel
theorem dX3_ofBook_0 : decode cX3_ofBook 0 = .ok (.aload_n 0, 1) := fd_get adX3_ofBook_0 (k := 0) rfl
theorem dX3_ofBook_1 : decode cX3_ofBook 1 = .ok (.iload_n 1, 1) := fd_get adX3_ofBook_0 (k := 1) rfl
theorem dX3_ofBook_2 : decode cX3_ofBook 2 = .ok (.invokevirtual 47, 3) := fd_get adX3_ofBook_0 (k := 2) rfl
theorem dX3_ofBook_5 : decode cX3_ofBook 5 = .ok (.astore_n 3, 1) := fd_get adX3_ofBook_0 (k := 3) rfl
theorem dX3_ofBook_6 : decode cX3_ofBook 6 = .ok (.iload_n 2, 1) := fd_get adX3_ofBook_0 (k := 4) rfl
theorem dX3_ofBook_7 : decode cX3_ofBook 7 = .ok (.bipush 8, 2) := fd_get adX3_ofBook_0 (k := 5) rfl
theorem dX3_ofBook_9 : decode cX3_ofBook 9 = .ok (.invokestatic 210, 3) := fd_get adX3_ofBook_0 (k := 6) rfl
theorem dX3_ofBook_12 : decode cX3_ofBook 12 = .ok (.iload_n 2, 1) := fd_get adX3_ofBook_0 (k := 7) rfl
theorem dX3_ofBook_13 : decode cX3_ofBook 13 = .ok (.tableswitch 106 0 7 #[47, 52, 57, 63, 69, 80, 91, 101], 47) := by decide +kernel
theorem dX3_ofBook_60 : decode cX3_ofBook 60 = .ok (.aload_n 3, 1) := fd_get adX3_ofBook_0 (k := 9) rfl
theorem dX3_ofBook_61 : decode cX3_ofBook 61 = .ok (.invokevirtual 79, 3) := fd_get adX3_ofBook_0 (k := 10) rfl
theorem dX3_ofBook_64 : decode cX3_ofBook 64 = .ok (.ireturn, 1) := fd_get adX3_ofBook_0 (k := 11) rfl
theorem dX3_ofBook_65 : decode cX3_ofBook 65 = .ok (.aload_n 3, 1) := fd_get adX3_ofBook_0 (k := 12) rfl
theorem dX3_ofBook_66 : decode cX3_ofBook 66 = .ok (.invokevirtual 213, 3) := fd_get adX3_ofBook_0 (k := 13) rfl
theorem dX3_ofBook_69 : decode cX3_ofBook 69 = .ok (.ireturn, 1) := fd_get adX3_ofBook_0 (k := 14) rfl
theorem dX3_ofBook_70 : decode cX3_ofBook 70 = .ok (.aload_n 3, 1) := fd_get adX3_ofBook_0 (k := 15) rfl
theorem dX3_ofBook_71 : decode cX3_ofBook 71 = .ok (.iconst 0, 1) := fd_get adX3_ofBook_1 (k := 0) rfl
theorem dX3_ofBook_72 : decode cX3_ofBook 72 = .ok (.invokevirtual 201, 3) := fd_get adX3_ofBook_1 (k := 1) rfl
theorem dX3_ofBook_75 : decode cX3_ofBook 75 = .ok (.ireturn, 1) := fd_get adX3_ofBook_1 (k := 2) rfl
theorem dX3_ofBook_76 : decode cX3_ofBook 76 = .ok (.aload_n 3, 1) := fd_get adX3_ofBook_1 (k := 3) rfl
theorem dX3_ofBook_77 : decode cX3_ofBook 77 = .ok (.iconst 0, 1) := fd_get adX3_ofBook_1 (k := 4) rfl
theorem dX3_ofBook_78 : decode cX3_ofBook 78 = .ok (.invokevirtual 204, 3) := fd_get adX3_ofBook_1 (k := 5) rfl
theorem dX3_ofBook_81 : decode cX3_ofBook 81 = .ok (.ireturn, 1) := fd_get adX3_ofBook_1 (k := 6) rfl
theorem dX3_ofBook_82 : decode cX3_ofBook 82 = .ok (.aload_n 3, 1) := fd_get adX3_ofBook_1 (k := 7) rfl
theorem dX3_ofBook_83 : decode cX3_ofBook 83 = .ok (.aload_n 3, 1) := fd_get adX3_ofBook_1 (k := 8) rfl
theorem dX3_ofBook_84 : decode cX3_ofBook 84 = .ok (.invokevirtual 79, 3) := fd_get adX3_ofBook_1 (k := 9) rfl
theorem dX3_ofBook_87 : decode cX3_ofBook 87 = .ok (.iconst 1, 1) := fd_get adX3_ofBook_1 (k := 10) rfl
theorem dX3_ofBook_88 : decode cX3_ofBook 88 = .ok (.isub, 1) := fd_get adX3_ofBook_1 (k := 11) rfl
theorem dX3_ofBook_89 : decode cX3_ofBook 89 = .ok (.invokevirtual 201, 3) := fd_get adX3_ofBook_1 (k := 12) rfl
theorem dX3_ofBook_92 : decode cX3_ofBook 92 = .ok (.ireturn, 1) := fd_get adX3_ofBook_1 (k := 13) rfl
theorem dX3_ofBook_93 : decode cX3_ofBook 93 = .ok (.aload_n 3, 1) := fd_get adX3_ofBook_1 (k := 14) rfl
theorem dX3_ofBook_94 : decode cX3_ofBook 94 = .ok (.aload_n 3, 1) := fd_get adX3_ofBook_1 (k := 15) rfl
theorem dX3_ofBook_95 : decode cX3_ofBook 95 = .ok (.invokevirtual 79, 3) := fd_get adX3_ofBook_2 (k := 0) rfl
theorem dX3_ofBook_98 : decode cX3_ofBook 98 = .ok (.iconst 1, 1) := fd_get adX3_ofBook_2 (k := 1) rfl
theorem dX3_ofBook_99 : decode cX3_ofBook 99 = .ok (.isub, 1) := fd_get adX3_ofBook_2 (k := 2) rfl
theorem dX3_ofBook_100 : decode cX3_ofBook 100 = .ok (.invokevirtual 204, 3) := fd_get adX3_ofBook_2 (k := 3) rfl
theorem dX3_ofBook_103 : decode cX3_ofBook 103 = .ok (.ireturn, 1) := fd_get adX3_ofBook_2 (k := 4) rfl
theorem dX3_ofBook_104 : decode cX3_ofBook 104 = .ok (.aload_n 3, 1) := fd_get adX3_ofBook_2 (k := 5) rfl
theorem dX3_ofBook_105 : decode cX3_ofBook 105 = .ok (.iconst 0, 1) := fd_get adX3_ofBook_2 (k := 6) rfl
theorem dX3_ofBook_106 : decode cX3_ofBook 106 = .ok (.aload_n 3, 1) := fd_get adX3_ofBook_2 (k := 7) rfl
theorem dX3_ofBook_107 : decode cX3_ofBook 107 = .ok (.invokevirtual 79, 3) := fd_get adX3_ofBook_2 (k := 8) rfl
theorem dX3_ofBook_110 : decode cX3_ofBook 110 = .ok (.invokevirtual 216, 3) := fd_get adX3_ofBook_2 (k := 9) rfl
theorem dX3_ofBook_113 : decode cX3_ofBook 113 = .ok (.ireturn, 1) := fd_get adX3_ofBook_2 (k := 10) rfl
theorem dX3_ofBook_114 : decode cX3_ofBook 114 = .ok (.aload_n 3, 1) := fd_get adX3_ofBook_2 (k := 11) rfl
theorem dX3_ofBook_115 : decode cX3_ofBook 115 = .ok (.invokevirtual 219, 3) := fd_get adX3_ofBook_2 (k := 12) rfl
theorem dX3_ofBook_118 : decode cX3_ofBook 118 = .ok (.ireturn, 1) := fd_get adX3_ofBook_2 (k := 13) rfl
theorem dX3_ofBook_119 : decode cX3_ofBook 119 = .ok (.aload_n 0, 1) := fd_get adX3_ofBook_2 (k := 14) rfl
theorem dX3_ofBook_120 : decode cX3_ofBook 120 = .ok (.aload_n 3, 1) := fd_get adX3_ofBook_2 (k := 15) rfl
theorem dX3_ofBook_121 : decode cX3_ofBook 121 = .ok (.invokevirtual 222, 3) := fd_get adX3_ofBook_3 (k := 0) rfl
theorem dX3_ofBook_124 : decode cX3_ofBook 124 = .ok (.ireturn, 1) := fd_get adX3_ofBook_3 (k := 1) rfl
theorem mwsX3_near_0 : ∀ w ∈ wsX3_near_r1, w ∈ wsX3_near := fun w h => (List.mem_cons_of_mem _ (List.mem_append_left _ (List.mem_append_left _ (List.mem_append_left _ (List.mem_append_left _ (List.mem_append_left _ h))))))
theorem mwsX3_near_1 : ∀ w ∈ wsX3_near_r2, w ∈ wsX3_near := fun w h => (List.mem_cons_of_mem _ (List.mem_append_left _ (List.mem_append_left _ (List.mem_append_left _ (List.mem_append_left _ (List.mem_append_right _ (List.mem_append_left _ h)))))))
theorem mwsX3_near_2 : ∀ w ∈ wsX3_near_r3, w ∈ wsX3_near := fun w h => (List.mem_cons_of_mem _ (List.mem_append_left _ (List.mem_append_left _ (List.mem_append_left _ (List.mem_append_left _ (List.mem_append_right _ (List.mem_append_right _ h)))))))
theorem mwsX3_near_3 : ∀ w ∈ wsX30, w ∈ wsX3_near := fun w h => (List.mem_cons_of_mem _ (List.mem_append_left _ (List.mem_append_left _ (List.mem_append_left _ (List.mem_append_right _ h)))))
theorem mwsX3_near_4 : ∀ w ∈ wsX00, w ∈ wsX3_near := fun w h => (List.mem_cons_of_mem _ (List.mem_append_left _ (List.mem_append_left _ (List.mem_append_right _ h))))
set_option maxRecDepth 20000 in
theorem ggX3_near_X3_bookAt : GoodIn wsX3_near wsX3_bookAt := goodIn_ca (goodIn_sub (tk_mem 4 _ (fun w h => (mwsX3_near_0 _ (tkB_mem 4 4 h))) (tk_mem 6 _ (fun w h => (mwsX3_near_3 _ (tkB_mem 0 6 h))) (fun _ h => absurd h List.not_mem_nil))) (by decide +kernel)) (goodIn_sub (fun _ h => List.mem_cons_of_mem _ (List.mem_append_left _ (List.mem_append_right _ h))) (by decide +kernel))
set_option maxRecDepth 20000 in
theorem gX3_near_X3_bookAt : GoodIn wsX3_near (wsV RX3 47 RX3 yX3_bookAt wsX3_bookAt) := goodIn_app (goodIn_sub (tk_mem 4 _ (fun w h => (mwsX3_near_0 _ (tkB_mem 0 4 h))) (fun _ h => absurd h List.not_mem_nil)) (by decide +kernel)) ggX3_near_X3_bookAt
set_option maxRecDepth 20000 in
theorem ggX3_near_X3_checkKey : GoodIn wsX3_near wsX3_checkKey := goodIn_ca (goodIn_sub (List.forall_mem_cons.mpr ⟨(mwsX3_near_0 _ (List.mem_of_getElem? (i := 10) rfl)), (List.forall_mem_cons.mpr ⟨(mwsX3_near_0 _ (List.mem_of_getElem? (i := 11) rfl)), (List.forall_mem_cons.mpr ⟨(mwsX3_near_0 _ (List.mem_of_getElem? (i := 12) rfl)), (fun _ h => absurd h List.not_mem_nil)⟩)⟩)⟩) (by decide +kernel)) (goodIn_sub (fun _ h => List.mem_cons_of_mem _ (List.mem_append_right _ h)) (by decide +kernel))
set_option maxRecDepth 20000 in
theorem gX3_near_X3_checkKey : GoodIn wsX3_near (va_wsS RX3 51 yX3_checkKey wsX3_checkKey) := goodIn_app (goodIn_sub (List.forall_mem_cons.mpr ⟨(mwsX3_near_0 _ (List.mem_of_getElem? (i := 8) rfl)), (List.forall_mem_cons.mpr ⟨(mwsX3_near_0 _ (List.mem_of_getElem? (i := 9) rfl)), (List.forall_mem_cons.mpr ⟨(mwsX3_near_0 _ (List.mem_of_getElem? (i := 3) rfl)), (fun _ h => absurd h List.not_mem_nil)⟩)⟩)⟩) (by decide +kernel)) ggX3_near_X3_checkKey
set_option maxRecDepth 20000 in
theorem ggX3_near_X3_checkWhat : GoodIn wsX3_near wsX3_checkWhat := goodIn_ca (goodIn_sub (List.forall_mem_cons.mpr ⟨(mwsX3_near_0 _ (List.mem_of_getElem? (i := 15) rfl)), (List.forall_mem_cons.mpr ⟨(mwsX3_near_0 _ (List.mem_of_getElem? (i := 11) rfl)), (List.forall_mem_cons.mpr ⟨(mwsX3_near_0 _ (List.mem_of_getElem? (i := 12) rfl)), (fun _ h => absurd h List.not_mem_nil)⟩)⟩)⟩) (by decide +kernel)) (goodIn_sub (fun _ h => List.mem_cons_of_mem _ (List.mem_append_right _ h)) (by decide +kernel))
set_option maxRecDepth 20000 in
theorem gX3_near_X3_checkWhat : GoodIn wsX3_near (va_wsS RX3 210 yX3_checkWhat wsX3_checkWhat) := goodIn_app (goodIn_sub (List.forall_mem_cons.mpr ⟨(mwsX3_near_0 _ (List.mem_of_getElem? (i := 13) rfl)), (List.forall_mem_cons.mpr ⟨(mwsX3_near_0 _ (List.mem_of_getElem? (i := 14) rfl)), (List.forall_mem_cons.mpr ⟨(mwsX3_near_0 _ (List.mem_of_getElem? (i := 3) rfl)), (fun _ h => absurd h List.not_mem_nil)⟩)⟩)⟩) (by decide +kernel)) ggX3_near_X3_checkWhat
set_option maxRecDepth 20000 in
theorem ggX3_near_X0_size : GoodIn wsX3_near wsX0_size := goodIn_sub (List.forall_mem_cons.mpr ⟨(mwsX3_near_0 _ (List.mem_of_getElem? (i := 20) rfl)), (List.forall_mem_cons.mpr ⟨(mwsX3_near_0 _ (List.mem_of_getElem? (i := 21) rfl)), (tk_mem 7 _ (fun w h => (mwsX3_near_4 _ (tkB_mem 0 7 h))) (fun _ h => absurd h List.not_mem_nil))⟩)⟩) (by decide +kernel)
set_option maxRecDepth 20000 in
theorem gX3_near_X0_size : GoodIn wsX3_near (wsV RX3 79 RX0 yX0_size wsX0_size) := goodIn_app (goodIn_sub (tk_mem 4 _ (fun w h => (mwsX3_near_0 _ (tkB_mem 16 4 h))) (fun _ h => absurd h List.not_mem_nil)) (by decide +kernel)) ggX3_near_X0_size
set_option maxRecDepth 20000 in
theorem ggX3_near_X0_closest : GoodIn wsX3_near wsX0_closest := goodIn_sub (tk_mem 11 _ (fun w h => (mwsX3_near_1 _ (tkB_mem 1 11 h))) (List.forall_mem_cons.mpr ⟨(mwsX3_near_0 _ (List.mem_of_getElem? (i := 19) rfl)), (tk_mem 10 _ (fun w h => (mwsX3_near_1 _ (tkB_mem 12 10 h))) (List.forall_mem_cons.mpr ⟨(mwsX3_near_0 _ (List.mem_of_getElem? (i := 21) rfl)), (List.forall_mem_cons.mpr ⟨(mwsX3_near_1 _ (List.mem_of_getElem? (i := 22) rfl)), (List.forall_mem_cons.mpr ⟨(mwsX3_near_1 _ (List.mem_of_getElem? (i := 23) rfl)), (tk_mem 11 _ (fun w h => (mwsX3_near_2 _ (tkB_mem 0 11 h))) (tk_mem 7 _ (fun w h => (mwsX3_near_4 _ (tkB_mem 0 7 h))) (fun _ h => absurd h List.not_mem_nil)))⟩)⟩)⟩))⟩)) (by decide +kernel)
set_option maxRecDepth 20000 in
theorem gX3_near_X0_closest : GoodIn wsX3_near (wsV RX3 225 RX0 yX0_closest wsX0_closest) := goodIn_app (goodIn_sub (List.forall_mem_cons.mpr ⟨(mwsX3_near_0 _ (List.mem_of_getElem? (i := 22) rfl)), (List.forall_mem_cons.mpr ⟨(mwsX3_near_0 _ (List.mem_of_getElem? (i := 23) rfl)), (List.forall_mem_cons.mpr ⟨(mwsX3_near_1 _ (List.mem_of_getElem? (i := 0) rfl)), (List.forall_mem_cons.mpr ⟨(mwsX3_near_0 _ (List.mem_of_getElem? (i := 19) rfl)), (fun _ h => absurd h List.not_mem_nil)⟩)⟩)⟩)⟩) (by decide +kernel)) ggX3_near_X0_closest
set_option maxRecDepth 20000 in
theorem ggX3_near_X0_valueOf : GoodIn wsX3_near wsX0_valueOf := goodIn_sub (List.forall_mem_cons.mpr ⟨(mwsX3_near_2 _ (List.mem_of_getElem? (i := 14) rfl)), (List.forall_mem_cons.mpr ⟨(mwsX3_near_1 _ (List.mem_of_getElem? (i := 9) rfl)), (List.forall_mem_cons.mpr ⟨(mwsX3_near_1 _ (List.mem_of_getElem? (i := 10) rfl)), (List.forall_mem_cons.mpr ⟨(mwsX3_near_1 _ (List.mem_of_getElem? (i := 11) rfl)), (List.forall_mem_cons.mpr ⟨(mwsX3_near_0 _ (List.mem_of_getElem? (i := 19) rfl)), (tk_mem 10 _ (fun w h => (mwsX3_near_1 _ (tkB_mem 12 10 h))) (List.forall_mem_cons.mpr ⟨(mwsX3_near_0 _ (List.mem_of_getElem? (i := 21) rfl)), (List.forall_mem_cons.mpr ⟨(mwsX3_near_1 _ (List.mem_of_getElem? (i := 22) rfl)), (List.forall_mem_cons.mpr ⟨(mwsX3_near_1 _ (List.mem_of_getElem? (i := 23) rfl)), (tk_mem 7 _ (fun w h => (mwsX3_near_2 _ (tkB_mem 0 7 h))) (tk_mem 5 _ (fun w h => (mwsX3_near_2 _ (tkB_mem 15 5 h))) (tk_mem 7 _ (fun w h => (mwsX3_near_4 _ (tkB_mem 0 7 h))) (fun _ h => absurd h List.not_mem_nil))))⟩)⟩)⟩))⟩)⟩)⟩)⟩)⟩) (by decide +kernel)
set_option maxRecDepth 20000 in
theorem gX3_near_X0_valueOf : GoodIn wsX3_near (wsV RX3 43 RX0 yX0_valueOf wsX0_valueOf) := goodIn_app (goodIn_sub (List.forall_mem_cons.mpr ⟨(mwsX3_near_2 _ (List.mem_of_getElem? (i := 11) rfl)), (List.forall_mem_cons.mpr ⟨(mwsX3_near_2 _ (List.mem_of_getElem? (i := 12) rfl)), (List.forall_mem_cons.mpr ⟨(mwsX3_near_2 _ (List.mem_of_getElem? (i := 13) rfl)), (List.forall_mem_cons.mpr ⟨(mwsX3_near_0 _ (List.mem_of_getElem? (i := 19) rfl)), (fun _ h => absurd h List.not_mem_nil)⟩)⟩)⟩)⟩) (by decide +kernel)) ggX3_near_X0_valueOf
theorem adX3_near_0 : fd_rows (cX3_near.data.toList.drop 0) 0 [(0, some (.aload_n 0), 1), (1, some (.iload_n 1), 1), (2, some (.invokevirtual 47), 3), (5, some (.astore 4), 2), (7, some (.iload_n 2), 1), (8, some (.invokestatic 51), 3), (11, some (.iload_n 3), 1), (12, some (.bipush 7), 2), (14, some (.invokestatic 210), 3), (17, some (.aload 4), 2), (19, some (.iload_n 2), 1), (20, some (.iload_n 3), 1), (21, some (.iconst 4), 1), (22, some (.irem), 1), (23, some (.iconst 0), 1), (24, some (.aload 4), 2)] = true := by decide +kernel
theorem adX3_near_1 : fd_rows (cX3_near.data.toList.drop 26) 26 [(26, some (.invokevirtual 79), 3), (29, some (.invokevirtual 225), 3), (32, some (.istore 5), 2), (34, some (.iload_n 3), 1), (35, some (.iconst 4), 1), (36, some (.if_icmp .ge 8), 3), (39, some (.iload 5), 2), (41, some (.goto 10), 3), (44, some (.aload 4), 2), (46, some (.iload 5), 2), (48, some (.invokevirtual 43), 3), (51, some (.ireturn), 1)] = true := by decide +kernel
theorem dX3_near_0 : decode cX3_near 0 = .ok (.aload_n 0, 1) := fd_get adX3_near_0 (k := 0) rfl
theorem dX3_near_1 : decode cX3_near 1 = .ok (.iload_n 1, 1) := fd_get adX3_near_0 (k := 1) rfl
theorem dX3_near_2 : decode cX3_near 2 = .ok (.invokevirtual 47, 3) := fd_get adX3_near_0 (k := 2) rfl
theorem dX3_near_5 : decode cX3_near 5 = .ok (.astore 4, 2) := fd_get adX3_near_0 (k := 3) rfl
theorem dX3_near_7 : decode cX3_near 7 = .ok (.iload_n 2, 1) := fd_get adX3_near_0 (k := 4) rfl
theorem dX3_near_8 : decode cX3_near 8 = .ok (.invokestatic 51, 3) := fd_get adX3_near_0 (k := 5) rfl
theorem dX3_near_11 : decode cX3_near 11 = .ok (.iload_n 3, 1) := fd_get adX3_near_0 (k := 6) rfl
theorem dX3_near_12 : decode cX3_near 12 = .ok (.bipush 7, 2) := fd_get adX3_near_0 (k := 7) rfl
theorem dX3_near_14 : decode cX3_near 14 = .ok (.invokestatic 210, 3) := fd_get adX3_near_0 (k := 8) rfl
theorem dX3_near_17 : decode cX3_near 17 = .ok (.aload 4, 2) := fd_get adX3_near_0 (k := 9) rfl
theorem dX3_near_19 : decode cX3_near 19 = .ok (.iload_n 2, 1) := fd_get adX3_near_0 (k := 10) rfl
theorem dX3_near_20 : decode cX3_near 20 = .ok (.iload_n 3, 1) := fd_get adX3_near_0 (k := 11) rfl
theorem dX3_near_21 : decode cX3_near 21 = .ok (.iconst 4, 1) := fd_get adX3_near_0 (k := 12) rfl
theorem dX3_near_22 : decode cX3_near 22 = .ok (.irem, 1) := fd_get adX3_near_0 (k := 13) rfl
theorem dX3_near_23 : decode cX3_near 23 = .ok (.iconst 0, 1) := fd_get adX3_near_0 (k := 14) rfl
theorem dX3_near_24 : decode cX3_near 24 = .ok (.aload 4, 2) := fd_get adX3_near_0 (k := 15) rfl
theorem dX3_near_26 : decode cX3_near 26 = .ok (.invokevirtual 79, 3) := fd_get adX3_near_1 (k := 0) rfl
theorem dX3_near_29 : decode cX3_near 29 = .ok (.invokevirtual 225, 3) := fd_get adX3_near_1 (k := 1) rfl
theorem dX3_near_32 : decode cX3_near 32 = .ok (.istore 5, 2) := fd_get adX3_near_1 (k := 2) rfl
theorem dX3_near_34 : decode cX3_near 34 = .ok (.iload_n 3, 1) := fd_get adX3_near_1 (k := 3) rfl
theorem dX3_near_35 : decode cX3_near 35 = .ok (.iconst 4, 1) := fd_get adX3_near_1 (k := 4) rfl
theorem dX3_near_36 : decode cX3_near 36 = .ok (.if_icmp .ge 8, 3) := fd_get adX3_near_1 (k := 5) rfl
theorem dX3_near_39 : decode cX3_near 39 = .ok (.iload 5, 2) := fd_get adX3_near_1 (k := 6) rfl
theorem dX3_near_41 : decode cX3_near 41 = .ok (.goto 10, 3) := fd_get adX3_near_1 (k := 7) rfl
theorem dX3_near_44 : decode cX3_near 44 = .ok (.aload 4, 2) := fd_get adX3_near_1 (k := 8) rfl
theorem dX3_near_46 : decode cX3_near 46 = .ok (.iload 5, 2) := fd_get adX3_near_1 (k := 9) rfl
theorem dX3_near_48 : decode cX3_near 48 = .ok (.invokevirtual 43, 3) := fd_get adX3_near_1 (k := 10) rfl
theorem dX3_near_51 : decode cX3_near 51 = .ok (.ireturn, 1) := fd_get adX3_near_1 (k := 11) rfl
theorem mwsX3_place_0 : ∀ w ∈ wsX3_place_r1, w ∈ wsX3_place := fun w h => (List.mem_cons_of_mem _ (List.mem_append_left _ (List.mem_append_left _ (List.mem_append_left _ (List.mem_append_left _ (List.mem_append_left _ h))))))
theorem mwsX3_place_1 : ∀ w ∈ wsX3_place_r2, w ∈ wsX3_place := fun w h => (List.mem_cons_of_mem _ (List.mem_append_left _ (List.mem_append_left _ (List.mem_append_left _ (List.mem_append_left _ (List.mem_append_right _ h))))))
theorem mwsX3_place_2 : ∀ w ∈ wsX30, w ∈ wsX3_place := fun w h => (List.mem_cons_of_mem _ (List.mem_append_left _ (List.mem_append_left _ (List.mem_append_left _ (List.mem_append_right _ h)))))
theorem mwsX3_place_3 : ∀ w ∈ wsX00, w ∈ wsX3_place := fun w h => (List.mem_cons_of_mem _ (List.mem_append_left _ (List.mem_append_left _ (List.mem_append_right _ h))))
set_option maxRecDepth 20000 in
theorem ggX3_place_X3_bookAt : GoodIn wsX3_place wsX3_bookAt := goodIn_ca (goodIn_sub (tk_mem 4 _ (fun w h => (mwsX3_place_0 _ (tkB_mem 4 4 h))) (tk_mem 6 _ (fun w h => (mwsX3_place_2 _ (tkB_mem 0 6 h))) (fun _ h => absurd h List.not_mem_nil))) (by decide +kernel)) (goodIn_sub (fun _ h => List.mem_cons_of_mem _ (List.mem_append_left _ (List.mem_append_right _ h))) (by decide +kernel))
set_option maxRecDepth 20000 in
theorem gX3_place_X3_bookAt : GoodIn wsX3_place (wsV RX3 47 RX3 yX3_bookAt wsX3_bookAt) := goodIn_app (goodIn_sub (tk_mem 4 _ (fun w h => (mwsX3_place_0 _ (tkB_mem 0 4 h))) (fun _ h => absurd h List.not_mem_nil)) (by decide +kernel)) ggX3_place_X3_bookAt
set_option maxRecDepth 20000 in
theorem ggX3_place_X3_checkKey : GoodIn wsX3_place wsX3_checkKey := goodIn_ca (goodIn_sub (List.forall_mem_cons.mpr ⟨(mwsX3_place_0 _ (List.mem_of_getElem? (i := 10) rfl)), (List.forall_mem_cons.mpr ⟨(mwsX3_place_0 _ (List.mem_of_getElem? (i := 11) rfl)), (List.forall_mem_cons.mpr ⟨(mwsX3_place_0 _ (List.mem_of_getElem? (i := 12) rfl)), (fun _ h => absurd h List.not_mem_nil)⟩)⟩)⟩) (by decide +kernel)) (goodIn_sub (fun _ h => List.mem_cons_of_mem _ (List.mem_append_right _ h)) (by decide +kernel))
set_option maxRecDepth 20000 in
theorem gX3_place_X3_checkKey : GoodIn wsX3_place (va_wsS RX3 51 yX3_checkKey wsX3_checkKey) := goodIn_app (goodIn_sub (List.forall_mem_cons.mpr ⟨(mwsX3_place_0 _ (List.mem_of_getElem? (i := 8) rfl)), (List.forall_mem_cons.mpr ⟨(mwsX3_place_0 _ (List.mem_of_getElem? (i := 9) rfl)), (List.forall_mem_cons.mpr ⟨(mwsX3_place_0 _ (List.mem_of_getElem? (i := 3) rfl)), (fun _ h => absurd h List.not_mem_nil)⟩)⟩)⟩) (by decide +kernel)) ggX3_place_X3_checkKey
set_option maxRecDepth 20000 in
theorem ggX3_place_X0_placeOf : GoodIn wsX3_place wsX0_placeOf := goodIn_sub (tk_mem 4 _ (fun w h => (mwsX3_place_0 _ (tkB_mem 17 4 h))) (List.forall_mem_cons.mpr ⟨(mwsX3_place_0 _ (List.mem_of_getElem? (i := 16) rfl)), (List.forall_mem_cons.mpr ⟨(mwsX3_place_0 _ (List.mem_of_getElem? (i := 21) rfl)), (List.forall_mem_cons.mpr ⟨(mwsX3_place_0 _ (List.mem_of_getElem? (i := 22) rfl)), (List.forall_mem_cons.mpr ⟨(mwsX3_place_0 _ (List.mem_of_getElem? (i := 23) rfl)), (tk_mem 5 _ (fun w h => (mwsX3_place_1 _ (tkB_mem 0 5 h))) (tk_mem 7 _ (fun w h => (mwsX3_place_3 _ (tkB_mem 0 7 h))) (fun _ h => absurd h List.not_mem_nil)))⟩)⟩)⟩)⟩)) (by decide +kernel)
set_option maxRecDepth 20000 in
theorem gX3_place_X0_placeOf : GoodIn wsX3_place (wsV RX3 229 RX0 yX0_placeOf wsX0_placeOf) := goodIn_app (goodIn_sub (tk_mem 4 _ (fun w h => (mwsX3_place_0 _ (tkB_mem 13 4 h))) (fun _ h => absurd h List.not_mem_nil)) (by decide +kernel)) ggX3_place_X0_placeOf
theorem adX3_place_0 : fd_rows (cX3_place.data.toList.drop 0) 0 [(0, some (.aload_n 0), 1), (1, some (.iload_n 1), 1), (2, some (.invokevirtual 47), 3), (5, some (.astore_n 3), 1), (6, some (.iload_n 2), 1), (7, some (.invokestatic 51), 3), (10, some (.aload_n 3), 1), (11, some (.iload_n 2), 1), (12, some (.invokevirtual 229), 3), (15, some (.ireturn), 1)] = true := by decide +kernel
theorem dX3_place_0 : decode cX3_place 0 = .ok (.aload_n 0, 1) := fd_get adX3_place_0 (k := 0) rfl
theorem dX3_place_1 : decode cX3_place 1 = .ok (.iload_n 1, 1) := fd_get adX3_place_0 (k := 1) rfl
theorem dX3_place_2 : decode cX3_place 2 = .ok (.invokevirtual 47, 3) := fd_get adX3_place_0 (k := 2) rfl
theorem dX3_place_5 : decode cX3_place 5 = .ok (.astore_n 3, 1) := fd_get adX3_place_0 (k := 3) rfl
theorem dX3_place_6 : decode cX3_place 6 = .ok (.iload_n 2, 1) := fd_get adX3_place_0 (k := 4) rfl
theorem dX3_place_7 : decode cX3_place 7 = .ok (.invokestatic 51, 3) := fd_get adX3_place_0 (k := 5) rfl
theorem dX3_place_10 : decode cX3_place 10 = .ok (.aload_n 3, 1) := fd_get adX3_place_0 (k := 6) rfl
theorem dX3_place_11 : decode cX3_place 11 = .ok (.iload_n 2, 1) := fd_get adX3_place_0 (k := 7) rfl
theorem dX3_place_12 : decode cX3_place 12 = .ok (.invokevirtual 229, 3) := fd_get adX3_place_0 (k := 8) rfl
theorem dX3_place_15 : decode cX3_place 15 = .ok (.ireturn, 1) := fd_get adX3_place_0 (k := 9) rfl
theorem mwsX3_at_0 : ∀ w ∈ wsX30, w ∈ wsX3_at := fun w h => (List.mem_cons_of_mem _ (List.mem_append_left _ (List.mem_append_left _ (List.mem_append_left _ (List.mem_append_right _ h)))))
theorem mwsX3_at_1 : ∀ w ∈ wsX00, w ∈ wsX3_at := fun w h => (List.mem_cons_of_mem _ (List.mem_append_left _ (List.mem_append_left _ (List.mem_append_right _ h))))
set_option maxRecDepth 20000 in
theorem ggX3_at_X3_bookAt : GoodIn wsX3_at wsX3_bookAt := goodIn_ca (goodIn_sub (tk_mem 4 _ (fun w h => (List.mem_cons_of_mem _ (List.mem_append_left _ (List.mem_append_left _ (List.mem_append_left _ (List.mem_append_left _ (tkB_mem 6 4 h))))))) (tk_mem 6 _ (fun w h => (mwsX3_at_0 _ (tkB_mem 0 6 h))) (fun _ h => absurd h List.not_mem_nil))) (by decide +kernel)) (goodIn_sub (fun _ h => List.mem_cons_of_mem _ (List.mem_append_right _ h)) (by decide +kernel))
set_option maxRecDepth 20000 in
theorem gX3_at_X3_bookAt : GoodIn wsX3_at (wsV RX3 47 RX3 yX3_bookAt wsX3_bookAt) := goodIn_app (goodIn_sub (tk_mem 4 _ (fun w h => (List.mem_cons_of_mem _ (List.mem_append_left _ (List.mem_append_left _ (List.mem_append_left _ (List.mem_append_left _ (tkB_mem 2 4 h))))))) (fun _ h => absurd h List.not_mem_nil)) (by decide +kernel)) ggX3_at_X3_bookAt
set_option maxRecDepth 20000 in
theorem ggX3_at_X0_keyAt : GoodIn wsX3_at wsX0_keyAt := goodIn_sub (tk_mem 5 _ (fun w h => (List.mem_cons_of_mem _ (List.mem_append_left _ (List.mem_append_left _ (List.mem_append_left _ (List.mem_append_left _ (tkB_mem 14 5 h))))))) (List.forall_mem_cons.mpr ⟨(List.mem_cons_of_mem _ (List.mem_append_left _ (List.mem_append_left _ (List.mem_append_left _ (List.mem_append_left _ (List.mem_of_getElem? (i := 13) rfl)))))), (List.forall_mem_cons.mpr ⟨(List.mem_cons_of_mem _ (List.mem_append_left _ (List.mem_append_left _ (List.mem_append_left _ (List.mem_append_left _ (List.mem_of_getElem? (i := 19) rfl)))))), (List.forall_mem_cons.mpr ⟨(List.mem_cons_of_mem _ (List.mem_append_left _ (List.mem_append_left _ (List.mem_append_left _ (List.mem_append_left _ (List.mem_of_getElem? (i := 20) rfl)))))), (tk_mem 7 _ (fun w h => (mwsX3_at_1 _ (tkB_mem 0 7 h))) (fun _ h => absurd h List.not_mem_nil))⟩)⟩)⟩)) (by decide +kernel)
set_option maxRecDepth 20000 in
theorem gX3_at_X0_keyAt : GoodIn wsX3_at (wsV RX3 201 RX0 yX0_keyAt wsX0_keyAt) := goodIn_app (goodIn_sub (tk_mem 4 _ (fun w h => (List.mem_cons_of_mem _ (List.mem_append_left _ (List.mem_append_left _ (List.mem_append_left _ (List.mem_append_left _ (tkB_mem 10 4 h))))))) (fun _ h => absurd h List.not_mem_nil)) (by decide +kernel)) ggX3_at_X0_keyAt
theorem adX3_at_0 : fd_rows (cX3_at.data.toList.drop 0) 0 [(0, some (.aload_n 0), 1), (1, some (.iload_n 1), 1), (2, some (.invokevirtual 47), 3), (5, some (.astore_n 3), 1), (6, some (.iload_n 2), 1), (7, some (.ifCond .ge 13), 3), (10, some (.new 86), 3), (13, some (.dup), 1), (14, some (.ldc 232), 2), (16, some (.invokespecial 90), 3), (19, some (.athrow), 1), (20, some (.aload_n 3), 1), (21, some (.iload_n 2), 1), (22, some (.invokevirtual 201), 3), (25, some (.ireturn), 1)] = true := by decide +kernel
theorem dX3_at_0 : decode cX3_at 0 = .ok (.aload_n 0, 1) := fd_get adX3_at_0 (k := 0) rfl
theorem dX3_at_1 : decode cX3_at 1 = .ok (.iload_n 1, 1) := fd_get adX3_at_0 (k := 1) rfl
theorem dX3_at_2 : decode cX3_at 2 = .ok (.invokevirtual 47, 3) := fd_get adX3_at_0 (k := 2) rfl
theorem dX3_at_5 : decode cX3_at 5 = .ok (.astore_n 3, 1) := fd_get adX3_at_0 (k := 3) rfl
theorem dX3_at_6 : decode cX3_at 6 = .ok (.iload_n 2, 1) := fd_get adX3_at_0 (k := 4) rfl
theorem dX3_at_7 : decode cX3_at 7 = .ok (.ifCond .ge 13, 3) := fd_get adX3_at_0 (k := 5) rfl
theorem dX3_at_10 : decode cX3_at 10 = .ok (.new 86, 3) := fd_get adX3_at_0 (k := 6) rfl
theorem dX3_at_13 : decode cX3_at 13 = .ok (.dup, 1) := fd_get adX3_at_0 (k := 7) rfl
theorem dX3_at_14 : decode cX3_at 14 = .ok (.ldc 232, 2) := fd_get adX3_at_0 (k := 8) rfl
theorem dX3_at_16 : decode cX3_at 16 = .ok (.invokespecial 90, 3) := fd_get adX3_at_0 (k := 9) rfl
theorem dX3_at_19 : decode cX3_at 19 = .ok (.athrow, 1) := fd_get adX3_at_0 (k := 10) rfl
theorem dX3_at_20 : decode cX3_at 20 = .ok (.aload_n 3, 1) := fd_get adX3_at_0 (k := 11) rfl
theorem dX3_at_21 : decode cX3_at 21 = .ok (.iload_n 2, 1) := fd_get adX3_at_0 (k := 12) rfl
theorem dX3_at_22 : decode cX3_at 22 = .ok (.invokevirtual 201, 3) := fd_get adX3_at_0 (k := 13) rfl
theorem dX3_at_25 : decode cX3_at 25 = .ok (.ireturn, 1) := fd_get adX3_at_0 (k := 14) rfl
theorem mwsX3_row_0 : ∀ w ∈ wsX3_row_r1, w ∈ wsX3_row := fun w h => (List.mem_cons_of_mem _ (List.mem_append_left _ (List.mem_append_left _ (List.mem_append_left _ (List.mem_append_left _ (List.mem_append_left _ (List.mem_append_left _ h)))))))
theorem mwsX3_row_1 : ∀ w ∈ wsX3_row_r2, w ∈ wsX3_row := fun w h => (List.mem_cons_of_mem _ (List.mem_append_left _ (List.mem_append_left _ (List.mem_append_left _ (List.mem_append_left _ (List.mem_append_left _ (List.mem_append_right _ (List.mem_append_left _ h))))))))
theorem mwsX3_row_2 : ∀ w ∈ wsX3_row_r3, w ∈ wsX3_row := fun w h => (List.mem_cons_of_mem _ (List.mem_append_left _ (List.mem_append_left _ (List.mem_append_left _ (List.mem_append_left _ (List.mem_append_left _ (List.mem_append_right _ (List.mem_append_right _ (List.mem_append_left _ h)))))))))
theorem mwsX3_row_3 : ∀ w ∈ wsX3_row_r4, w ∈ wsX3_row := fun w h => (List.mem_cons_of_mem _ (List.mem_append_left _ (List.mem_append_left _ (List.mem_append_left _ (List.mem_append_left _ (List.mem_append_left _ (List.mem_append_right _ (List.mem_append_right _ (List.mem_append_right _ (List.mem_append_left _ h))))))))))
theorem mwsX3_row_4 : ∀ w ∈ wsX3_row_r5, w ∈ wsX3_row := fun w h => (List.mem_cons_of_mem _ (List.mem_append_left _ (List.mem_append_left _ (List.mem_append_left _ (List.mem_append_left _ (List.mem_append_left _ (List.mem_append_right _ (List.mem_append_right _ (List.mem_append_right _ (List.mem_append_right _ (List.mem_append_left _ h)))))))))))
theorem mwsX3_row_5 : ∀ w ∈ wsX3_row_r6, w ∈ wsX3_row := fun w h => (List.mem_cons_of_mem _ (List.mem_append_left _ (List.mem_append_left _ (List.mem_append_left _ (List.mem_append_left _ (List.mem_append_left _ (List.mem_append_right _ (List.mem_append_right _ (List.mem_append_right _ (List.mem_append_right _ (List.mem_append_right _ (List.mem_append_left _ h))))))))))))
theorem mwsX3_row_6 : ∀ w ∈ wsX3_row_r7, w ∈ wsX3_row := fun w h => (List.mem_cons_of_mem _ (List.mem_append_left _ (List.mem_append_left _ (List.mem_append_left _ (List.mem_append_left _ (List.mem_append_left _ (List.mem_append_right _ (List.mem_append_right _ (List.mem_append_right _ (List.mem_append_right _ (List.mem_append_right _ (List.mem_append_right _ (List.mem_append_left _ h)))))))))))))
theorem mwsX3_row_7 : ∀ w ∈ wsX3_row_r8, w ∈ wsX3_row := fun w h => (List.mem_cons_of_mem _ (List.mem_append_left _ (List.mem_append_left _ (List.mem_append_left _ (List.mem_append_left _ (List.mem_append_left _ (List.mem_append_right _ (List.mem_append_right _ (List.mem_append_right _ (List.mem_append_right _ (List.mem_append_right _ (List.mem_append_right _ (List.mem_append_right _ (List.mem_append_left _ h))))))))))))))
theorem mwsX3_row_8 : ∀ w ∈ wsX3_row_r9, w ∈ wsX3_row := fun w h => (List.mem_cons_of_mem _ (List.mem_append_left _ (List.mem_append_left _ (List.mem_append_left _ (List.mem_append_left _ (List.mem_append_left _ (List.mem_append_right _ (List.mem_append_right _ (List.mem_append_right _ (List.mem_append_right _ (List.mem_append_right _ (List.mem_append_right _ (List.mem_append_right _ (List.mem_append_right _ (List.mem_append_left _ h)))))))))))))))
theorem mwsX3_row_9 : ∀ w ∈ wsX3_row_r10, w ∈ wsX3_row := fun w h => (List.mem_cons_of_mem _ (List.mem_append_left _ (List.mem_append_left _ (List.mem_append_left _ (List.mem_append_left _ (List.mem_append_left _ (List.mem_append_right _ (List.mem_append_right _ (List.mem_append_right _ (List.mem_append_right _ (List.mem_append_right _ (List.mem_append_right _ (List.mem_append_right _ (List.mem_append_right _ (List.mem_append_right _ (List.mem_append_left _ h))))))))))))))))
theorem mwsX3_row_10 : ∀ w ∈ wsX3_row_r11, w ∈ wsX3_row := fun w h => (List.mem_cons_of_mem _ (List.mem_append_left _ (List.mem_append_left _ (List.mem_append_left _ (List.mem_append_left _ (List.mem_append_left _ (List.mem_append_right _ (List.mem_append_right _ (List.mem_append_right _ (List.mem_append_right _ (List.mem_append_right _ (List.mem_append_right _ (List.mem_append_right _ (List.mem_append_right _ (List.mem_append_right _ (List.mem_append_right _ (List.mem_append_left _ h)))))))))))))))))
theorem mwsX3_row_11 : ∀ w ∈ wsX3_row_r12, w ∈ wsX3_row := fun w h => (List.mem_cons_of_mem _ (List.mem_append_left _ (List.mem_append_left _ (List.mem_append_left _ (List.mem_append_left _ (List.mem_append_left _ (List.mem_append_right _ (List.mem_append_right _ (List.mem_append_right _ (List.mem_append_right _ (List.mem_append_right _ (List.mem_append_right _ (List.mem_append_right _ (List.mem_append_right _ (List.mem_append_right _ (List.mem_append_right _ (List.mem_append_right _ (List.mem_append_left _ h))))))))))))))))))
theorem mwsX3_row_12 : ∀ w ∈ wsX3_row_r13, w ∈ wsX3_row := fun w h => (List.mem_cons_of_mem _ (List.mem_append_left _ (List.mem_append_left _ (List.mem_append_left _ (List.mem_append_left _ (List.mem_append_left _ (List.mem_append_right _ (List.mem_append_right _ (List.mem_append_right _ (List.mem_append_right _ (List.mem_append_right _ (List.mem_append_right _ (List.mem_append_right _ (List.mem_append_right _ (List.mem_append_right _ (List.mem_append_right _ (List.mem_append_right _ (List.mem_append_right _ h))))))))))))))))))
theorem mwsX3_row_13 : ∀ w ∈ wsX30, w ∈ wsX3_row := fun w h => (List.mem_cons_of_mem _ (List.mem_append_left _ (List.mem_append_left _ (List.mem_append_left _ (List.mem_append_left _ (List.mem_append_right _ h))))))
theorem mwsX3_row_14 : ∀ w ∈ wsX00, w ∈ wsX3_row := fun w h => (List.mem_cons_of_mem _ (List.mem_append_left _ (List.mem_append_left _ (List.mem_append_left _ (List.mem_append_right _ h)))))
theorem mwsX3_row_15 : ∀ w ∈ wsJ40, w ∈ wsX3_row := fun w h => (List.mem_cons_of_mem _ (List.mem_append_left _ (List.mem_append_left _ (List.mem_append_right _ h))))
theorem mwsX3_row_16 : ∀ w ∈ wsJ00, w ∈ wsX3_row := fun w h => (List.mem_cons_of_mem _ (List.mem_append_left _ (List.mem_append_right _ h)))
set_option maxRecDepth 20000 in
theorem ggX3_row_X3_bookAt : GoodIn wsX3_row wsX3_bookAt := goodIn_ca (goodIn_sub (tk_mem 4 _ (fun w h => (mwsX3_row_0 _ (tkB_mem 4 4 h))) (tk_mem 6 _ (fun w h => (mwsX3_row_13 _ (tkB_mem 0 6 h))) (fun _ h => absurd h List.not_mem_nil))) (by decide +kernel)) (goodIn_sub (fun _ h => List.mem_cons_of_mem _ (List.mem_append_right _ h)) (by decide +kernel))
set_option maxRecDepth 20000 in
theorem gX3_row_X3_bookAt : GoodIn wsX3_row (wsV RX3 47 RX3 yX3_bookAt wsX3_bookAt) := goodIn_app (goodIn_sub (tk_mem 4 _ (fun w h => (mwsX3_row_0 _ (tkB_mem 0 4 h))) (fun _ h => absurd h List.not_mem_nil)) (by decide +kernel)) ggX3_row_X3_bookAt
set_option maxRecDepth 20000 in
theorem ggX3_row_X0_size : GoodIn wsX3_row wsX0_size := goodIn_sub (List.forall_mem_cons.mpr ⟨(mwsX3_row_0 _ (List.mem_of_getElem? (i := 12) rfl)), (List.forall_mem_cons.mpr ⟨(mwsX3_row_0 _ (List.mem_of_getElem? (i := 13) rfl)), (tk_mem 7 _ (fun w h => (mwsX3_row_14 _ (tkB_mem 0 7 h))) (fun _ h => absurd h List.not_mem_nil))⟩)⟩) (by decide +kernel)
set_option maxRecDepth 20000 in
theorem gX3_row_X0_size : GoodIn wsX3_row (wsV RX3 79 RX0 yX0_size wsX0_size) := goodIn_app (goodIn_sub (tk_mem 4 _ (fun w h => (mwsX3_row_0 _ (tkB_mem 8 4 h))) (fun _ h => absurd h List.not_mem_nil)) (by decide +kernel)) ggX3_row_X0_size
set_option maxRecDepth 20000 in
theorem ggX3_row_X0_text : GoodIn wsX3_row wsX0_text := goodIn_sub (tk_mem 7 _ (fun w h => (mwsX3_row_0 _ (tkB_mem 17 7 h))) (tk_mem 24 _ (fun w h => (mwsX3_row_1 _ (tkB_mem 0 24 h))) (tk_mem 24 _ (fun w h => (mwsX3_row_2 _ (tkB_mem 0 24 h))) (tk_mem 24 _ (fun w h => (mwsX3_row_3 _ (tkB_mem 0 24 h))) (tk_mem 24 _ (fun w h => (mwsX3_row_4 _ (tkB_mem 0 24 h))) (tk_mem 24 _ (fun w h => (mwsX3_row_5 _ (tkB_mem 0 24 h))) (tk_mem 24 _ (fun w h => (mwsX3_row_6 _ (tkB_mem 0 24 h))) (tk_mem 24 _ (fun w h => (mwsX3_row_7 _ (tkB_mem 0 24 h))) (tk_mem 10 _ (fun w h => (mwsX3_row_8 _ (tkB_mem 0 10 h))) (List.forall_mem_cons.mpr ⟨(mwsX3_row_0 _ (List.mem_of_getElem? (i := 11) rfl)), (tk_mem 6 _ (fun w h => (mwsX3_row_8 _ (tkB_mem 10 6 h))) (List.forall_mem_cons.mpr ⟨(mwsX3_row_0 _ (List.mem_of_getElem? (i := 13) rfl)), (tk_mem 8 _ (fun w h => (mwsX3_row_8 _ (tkB_mem 16 8 h))) (tk_mem 24 _ (fun w h => (mwsX3_row_9 _ (tkB_mem 0 24 h))) (tk_mem 24 _ (fun w h => (mwsX3_row_10 _ (tkB_mem 0 24 h))) (tk_mem 24 _ (fun w h => (mwsX3_row_11 _ (tkB_mem 0 24 h))) (List.forall_mem_cons.mpr ⟨(mwsX3_row_12 _ (List.mem_of_getElem? (i := 0) rfl)), (List.forall_mem_cons.mpr ⟨(mwsX3_row_12 _ (List.mem_of_getElem? (i := 1) rfl)), (tk_mem 4 _ (fun w h => (mwsX3_row_15 _ (tkB_mem 0 4 h))) (tk_mem 4 _ (fun w h => (mwsX3_row_16 _ (tkB_mem 0 4 h))) (tk_mem 7 _ (fun w h => (mwsX3_row_14 _ (tkB_mem 0 7 h))) (fun _ h => absurd h List.not_mem_nil))))⟩)⟩)))))⟩))⟩)))))))))) (by decide +kernel)
set_option maxRecDepth 20000 in
theorem gX3_row_X0_text : GoodIn wsX3_row (wsV RX3 234 RX0 yX0_text wsX0_text) := goodIn_app (goodIn_sub (List.forall_mem_cons.mpr ⟨(mwsX3_row_0 _ (List.mem_of_getElem? (i := 14) rfl)), (List.forall_mem_cons.mpr ⟨(mwsX3_row_0 _ (List.mem_of_getElem? (i := 15) rfl)), (List.forall_mem_cons.mpr ⟨(mwsX3_row_0 _ (List.mem_of_getElem? (i := 16) rfl)), (List.forall_mem_cons.mpr ⟨(mwsX3_row_0 _ (List.mem_of_getElem? (i := 11) rfl)), (fun _ h => absurd h List.not_mem_nil)⟩)⟩)⟩)⟩) (by decide +kernel)) ggX3_row_X0_text
theorem adX3_row_0 : fd_rows (cX3_row.data.toList.drop 0) 0 [(0, some (.aload_n 0), 1), (1, some (.iload_n 1), 1), (2, some (.invokevirtual 47), 3), (5, some (.astore_n 2), 1), (6, some (.aload_n 2), 1), (7, some (.iconst 0), 1), (8, some (.aload_n 2), 1), (9, some (.invokevirtual 79), 3), (12, some (.invokevirtual 234), 3), (15, some (.areturn), 1)] = true := by decide +kernel
theorem dX3_row_0 : decode cX3_row 0 = .ok (.aload_n 0, 1) := fd_get adX3_row_0 (k := 0) rfl
theorem dX3_row_1 : decode cX3_row 1 = .ok (.iload_n 1, 1) := fd_get adX3_row_0 (k := 1) rfl
theorem dX3_row_2 : decode cX3_row 2 = .ok (.invokevirtual 47, 3) := fd_get adX3_row_0 (k := 2) rfl
theorem dX3_row_5 : decode cX3_row 5 = .ok (.astore_n 2, 1) := fd_get adX3_row_0 (k := 3) rfl
theorem dX3_row_6 : decode cX3_row 6 = .ok (.aload_n 2, 1) := fd_get adX3_row_0 (k := 4) rfl
theorem dX3_row_7 : decode cX3_row 7 = .ok (.iconst 0, 1) := fd_get adX3_row_0 (k := 5) rfl
theorem dX3_row_8 : decode cX3_row 8 = .ok (.aload_n 2, 1) := fd_get adX3_row_0 (k := 6) rfl
theorem dX3_row_9 : decode cX3_row 9 = .ok (.invokevirtual 79, 3) := fd_get adX3_row_0 (k := 7) rfl
theorem dX3_row_12 : decode cX3_row 12 = .ok (.invokevirtual 234, 3) := fd_get adX3_row_0 (k := 8) rfl
theorem dX3_row_15 : decode cX3_row 15 = .ok (.areturn, 1) := fd_get adX3_row_0 (k := 9) rfl
theorem mwsX3_same_0 : ∀ w ∈ wsX3_same_r1, w ∈ wsX3_same := fun w h => (List.mem_cons_of_mem _ (List.mem_append_left _ (List.mem_append_left _ (List.mem_append_left _ (List.mem_append_left _ h)))))
theorem mwsX3_same_1 : ∀ w ∈ wsX3_same_r2, w ∈ wsX3_same := fun w h => (List.mem_cons_of_mem _ (List.mem_append_left _ (List.mem_append_left _ (List.mem_append_left _ (List.mem_append_right _ (List.mem_append_left _ h))))))
theorem mwsX3_same_2 : ∀ w ∈ wsX3_same_r3, w ∈ wsX3_same := fun w h => (List.mem_cons_of_mem _ (List.mem_append_left _ (List.mem_append_left _ (List.mem_append_left _ (List.mem_append_right _ (List.mem_append_right _ h))))))
theorem mwsX3_same_3 : ∀ w ∈ wsX30, w ∈ wsX3_same := fun w h => (List.mem_cons_of_mem _ (List.mem_append_left _ (List.mem_append_left _ (List.mem_append_right _ h))))
theorem mwsX3_same_4 : ∀ w ∈ wsX00, w ∈ wsX3_same := fun w h => (List.mem_cons_of_mem _ (List.mem_append_left _ (List.mem_append_right _ h)))
set_option maxRecDepth 20000 in
theorem ggX3_same_X3_bookAt : GoodIn wsX3_same wsX3_bookAt := goodIn_ca (goodIn_sub (tk_mem 4 _ (fun w h => (mwsX3_same_0 _ (tkB_mem 4 4 h))) (tk_mem 6 _ (fun w h => (mwsX3_same_3 _ (tkB_mem 0 6 h))) (fun _ h => absurd h List.not_mem_nil))) (by decide +kernel)) (goodIn_sub (fun _ h => List.mem_cons_of_mem _ (List.mem_append_right _ h)) (by decide +kernel))
set_option maxRecDepth 20000 in
theorem gX3_same_X3_bookAt : GoodIn wsX3_same (wsV RX3 47 RX3 yX3_bookAt wsX3_bookAt) := goodIn_app (goodIn_sub (tk_mem 4 _ (fun w h => (mwsX3_same_0 _ (tkB_mem 0 4 h))) (fun _ h => absurd h List.not_mem_nil)) (by decide +kernel)) ggX3_same_X3_bookAt
set_option maxRecDepth 20000 in
theorem ggX3_same_X0_isLike : GoodIn wsX3_same wsX0_isLike := goodIn_sub (tk_mem 7 _ (fun w h => (mwsX3_same_0 _ (tkB_mem 12 7 h))) (List.forall_mem_cons.mpr ⟨(mwsX3_same_0 _ (List.mem_of_getElem? (i := 11) rfl)), (tk_mem 5 _ (fun w h => (mwsX3_same_0 _ (tkB_mem 19 5 h))) (tk_mem 24 _ (fun w h => (mwsX3_same_1 _ (tkB_mem 0 24 h))) (List.forall_mem_cons.mpr ⟨(mwsX3_same_2 _ (List.mem_of_getElem? (i := 0) rfl)), (tk_mem 7 _ (fun w h => (mwsX3_same_4 _ (tkB_mem 0 7 h))) (fun _ h => absurd h List.not_mem_nil))⟩)))⟩)) (by decide +kernel)
set_option maxRecDepth 20000 in
theorem gX3_same_X0_isLike : GoodIn wsX3_same (wsV RX3 238 RX0 yX0_isLike wsX0_isLike) := goodIn_app (goodIn_sub (tk_mem 4 _ (fun w h => (mwsX3_same_0 _ (tkB_mem 8 4 h))) (fun _ h => absurd h List.not_mem_nil)) (by decide +kernel)) ggX3_same_X0_isLike
theorem adX3_same_0 : fd_rows (cX3_same.data.toList.drop 0) 0 [(0, some (.aload_n 0), 1), (1, some (.iload_n 1), 1), (2, some (.invokevirtual 47), 3), (5, some (.astore_n 3), 1), (6, some (.aload_n 3), 1), (7, some (.aload_n 0), 1), (8, some (.iload_n 2), 1), (9, some (.invokevirtual 47), 3), (12, some (.invokevirtual 238), 3), (15, some (.ireturn), 1)] = true := by decide +kernel
theorem dX3_same_0 : decode cX3_same 0 = .ok (.aload_n 0, 1) := fd_get adX3_same_0 (k := 0) rfl
theorem dX3_same_1 : decode cX3_same 1 = .ok (.iload_n 1, 1) := fd_get adX3_same_0 (k := 1) rfl
theorem dX3_same_2 : decode cX3_same 2 = .ok (.invokevirtual 47, 3) := fd_get adX3_same_0 (k := 2) rfl
theorem dX3_same_5 : decode cX3_same 5 = .ok (.astore_n 3, 1) := fd_get adX3_same_0 (k := 3) rfl
theorem dX3_same_6 : decode cX3_same 6 = .ok (.aload_n 3, 1) := fd_get adX3_same_0 (k := 4) rfl
theorem dX3_same_7 : decode cX3_same 7 = .ok (.aload_n 0, 1) := fd_get adX3_same_0 (k := 5) rfl
theorem dX3_same_8 : decode cX3_same 8 = .ok (.iload_n 2, 1) := fd_get adX3_same_0 (k := 6) rfl
theorem dX3_same_9 : decode cX3_same 9 = .ok (.invokevirtual 47, 3) := fd_get adX3_same_0 (k := 7) rfl
theorem dX3_same_12 : decode cX3_same 12 = .ok (.invokevirtual 238, 3) := fd_get adX3_same_0 (k := 8) rfl
theorem dX3_same_15 : decode cX3_same 15 = .ok (.ireturn, 1) := fd_get adX3_same_0 (k := 9) rfl
theorem mwsX3_viewGet_0 : ∀ w ∈ wsX3_viewGet_r1, w ∈ wsX3_viewGet := fun w h => (List.mem_cons_of_mem _ (List.mem_append_left _ (List.mem_append_left _ (List.mem_append_left _ (List.mem_append_left _ (List.mem_append_left _ (List.mem_append_left _ h)))))))
theorem mwsX3_viewGet_1 : ∀ w ∈ wsX3_viewGet_r2, w ∈ wsX3_viewGet := fun w h => (List.mem_cons_of_mem _ (List.mem_append_left _ (List.mem_append_left _ (List.mem_append_left _ (List.mem_append_left _ (List.mem_append_left _ (List.mem_append_right _ (List.mem_append_left _ h))))))))
theorem mwsX3_viewGet_2 : ∀ w ∈ wsX3_viewGet_r3, w ∈ wsX3_viewGet := fun w h => (List.mem_cons_of_mem _ (List.mem_append_left _ (List.mem_append_left _ (List.mem_append_left _ (List.mem_append_left _ (List.mem_append_left _ (List.mem_append_right _ (List.mem_append_right _ h))))))))
theorem mwsX3_viewGet_3 : ∀ w ∈ wsX30, w ∈ wsX3_viewGet := fun w h => (List.mem_cons_of_mem _ (List.mem_append_left _ (List.mem_append_left _ (List.mem_append_left _ (List.mem_append_left _ (List.mem_append_right _ h))))))
theorem mwsX3_viewGet_4 : ∀ w ∈ wsX10, w ∈ wsX3_viewGet := fun w h => (List.mem_cons_of_mem _ (List.mem_append_left _ (List.mem_append_left _ (List.mem_append_left _ (List.mem_append_right _ h)))))
theorem mwsX3_viewGet_5 : ∀ w ∈ wsX00, w ∈ wsX3_viewGet := fun w h => (List.mem_cons_of_mem _ (List.mem_append_left _ (List.mem_append_left _ (List.mem_append_right _ h))))
set_option maxRecDepth 20000 in
theorem ggX3_viewGet_X3_viewAt : GoodIn wsX3_viewGet wsX3_viewAt := goodIn_ca (goodIn_sub (tk_mem 4 _ (fun w h => (mwsX3_viewGet_0 _ (tkB_mem 4 4 h))) (tk_mem 6 _ (fun w h => (mwsX3_viewGet_3 _ (tkB_mem 0 6 h))) (fun _ h => absurd h List.not_mem_nil))) (by decide +kernel)) (goodIn_sub (fun _ h => List.mem_cons_of_mem _ (List.mem_append_left _ (List.mem_append_right _ h))) (by decide +kernel))
set_option maxRecDepth 20000 in
theorem gX3_viewGet_X3_viewAt : GoodIn wsX3_viewGet (wsV RX3 158 RX3 yX3_viewAt wsX3_viewAt) := goodIn_app (goodIn_sub (tk_mem 4 _ (fun w h => (mwsX3_viewGet_0 _ (tkB_mem 0 4 h))) (fun _ h => absurd h List.not_mem_nil)) (by decide +kernel)) ggX3_viewGet_X3_viewAt
set_option maxRecDepth 20000 in
theorem ggX3_viewGet_X3_checkKey : GoodIn wsX3_viewGet wsX3_checkKey := goodIn_ca (goodIn_sub (List.forall_mem_cons.mpr ⟨(mwsX3_viewGet_0 _ (List.mem_of_getElem? (i := 10) rfl)), (List.forall_mem_cons.mpr ⟨(mwsX3_viewGet_0 _ (List.mem_of_getElem? (i := 11) rfl)), (List.forall_mem_cons.mpr ⟨(mwsX3_viewGet_0 _ (List.mem_of_getElem? (i := 12) rfl)), (fun _ h => absurd h List.not_mem_nil)⟩)⟩)⟩) (by decide +kernel)) (goodIn_sub (fun _ h => List.mem_cons_of_mem _ (List.mem_append_right _ h)) (by decide +kernel))
set_option maxRecDepth 20000 in
theorem gX3_viewGet_X3_checkKey : GoodIn wsX3_viewGet (va_wsS RX3 51 yX3_checkKey wsX3_checkKey) := goodIn_app (goodIn_sub (List.forall_mem_cons.mpr ⟨(mwsX3_viewGet_0 _ (List.mem_of_getElem? (i := 8) rfl)), (List.forall_mem_cons.mpr ⟨(mwsX3_viewGet_0 _ (List.mem_of_getElem? (i := 9) rfl)), (List.forall_mem_cons.mpr ⟨(mwsX3_viewGet_0 _ (List.mem_of_getElem? (i := 3) rfl)), (fun _ h => absurd h List.not_mem_nil)⟩)⟩)⟩) (by decide +kernel)) ggX3_viewGet_X3_checkKey
set_option maxRecDepth 20000 in
theorem ggX3_viewGet_X1_isWithin : GoodIn wsX3_viewGet wsX1_isWithin := goodIn_sub (tk_mem 7 _ (fun w h => (mwsX3_viewGet_0 _ (tkB_mem 17 7 h))) (List.forall_mem_cons.mpr ⟨(mwsX3_viewGet_1 _ (List.mem_of_getElem? (i := 0) rfl)), (List.forall_mem_cons.mpr ⟨(mwsX3_viewGet_1 _ (List.mem_of_getElem? (i := 1) rfl)), (List.forall_mem_cons.mpr ⟨(mwsX3_viewGet_1 _ (List.mem_of_getElem? (i := 2) rfl)), (tk_mem 7 _ (fun w h => (mwsX3_viewGet_4 _ (tkB_mem 0 7 h))) (tk_mem 7 _ (fun w h => (mwsX3_viewGet_5 _ (tkB_mem 0 7 h))) (fun _ h => absurd h List.not_mem_nil)))⟩)⟩)⟩)) (by decide +kernel)
set_option maxRecDepth 20000 in
theorem gX3_viewGet_X1_isWithin : GoodIn wsX3_viewGet (wsV RX3 162 RX1 yX1_isWithin wsX1_isWithin) := goodIn_app (goodIn_sub (tk_mem 4 _ (fun w h => (mwsX3_viewGet_0 _ (tkB_mem 13 4 h))) (fun _ h => absurd h List.not_mem_nil)) (by decide +kernel)) ggX3_viewGet_X1_isWithin
set_option maxRecDepth 20000 in
theorem ggX3_viewGet_X1_book : GoodIn wsX3_viewGet wsX1_book := goodIn_sub (List.forall_mem_cons.mpr ⟨(mwsX3_viewGet_1 _ (List.mem_of_getElem? (i := 6) rfl)), (List.forall_mem_cons.mpr ⟨(mwsX3_viewGet_0 _ (List.mem_of_getElem? (i := 18) rfl)), (tk_mem 7 _ (fun w h => (mwsX3_viewGet_4 _ (tkB_mem 0 7 h))) (fun _ h => absurd h List.not_mem_nil))⟩)⟩) (by decide +kernel)
set_option maxRecDepth 20000 in
theorem gX3_viewGet_X1_book : GoodIn wsX3_viewGet (wsV RX3 165 RX1 yX1_book wsX1_book) := goodIn_app (goodIn_sub (List.forall_mem_cons.mpr ⟨(mwsX3_viewGet_1 _ (List.mem_of_getElem? (i := 3) rfl)), (List.forall_mem_cons.mpr ⟨(mwsX3_viewGet_1 _ (List.mem_of_getElem? (i := 4) rfl)), (List.forall_mem_cons.mpr ⟨(mwsX3_viewGet_1 _ (List.mem_of_getElem? (i := 5) rfl)), (List.forall_mem_cons.mpr ⟨(mwsX3_viewGet_0 _ (List.mem_of_getElem? (i := 16) rfl)), (fun _ h => absurd h List.not_mem_nil)⟩)⟩)⟩)⟩) (by decide +kernel)) ggX3_viewGet_X1_book
set_option maxRecDepth 20000 in
theorem ggX3_viewGet_X0_valueOf : GoodIn wsX3_viewGet wsX0_valueOf := goodIn_sub (tk_mem 4 _ (fun w h => (mwsX3_viewGet_1 _ (tkB_mem 10 4 h))) (List.forall_mem_cons.mpr ⟨(mwsX3_viewGet_1 _ (List.mem_of_getElem? (i := 0) rfl)), (List.forall_mem_cons.mpr ⟨(mwsX3_viewGet_1 _ (List.mem_of_getElem? (i := 14) rfl)), (List.forall_mem_cons.mpr ⟨(mwsX3_viewGet_1 _ (List.mem_of_getElem? (i := 15) rfl)), (List.forall_mem_cons.mpr ⟨(mwsX3_viewGet_0 _ (List.mem_of_getElem? (i := 22) rfl)), (List.forall_mem_cons.mpr ⟨(mwsX3_viewGet_0 _ (List.mem_of_getElem? (i := 23) rfl)), (List.forall_mem_cons.mpr ⟨(mwsX3_viewGet_1 _ (List.mem_of_getElem? (i := 1) rfl)), (List.forall_mem_cons.mpr ⟨(mwsX3_viewGet_1 _ (List.mem_of_getElem? (i := 2) rfl)), (tk_mem 8 _ (fun w h => (mwsX3_viewGet_1 _ (tkB_mem 16 8 h))) (tk_mem 11 _ (fun w h => (mwsX3_viewGet_2 _ (tkB_mem 0 11 h))) (tk_mem 7 _ (fun w h => (mwsX3_viewGet_5 _ (tkB_mem 0 7 h))) (fun _ h => absurd h List.not_mem_nil))))⟩)⟩)⟩)⟩)⟩)⟩)⟩)) (by decide +kernel)
set_option maxRecDepth 20000 in
theorem gX3_viewGet_X0_valueOf : GoodIn wsX3_viewGet (wsV RX3 43 RX0 yX0_valueOf wsX0_valueOf) := goodIn_app (goodIn_sub (List.forall_mem_cons.mpr ⟨(mwsX3_viewGet_1 _ (List.mem_of_getElem? (i := 7) rfl)), (List.forall_mem_cons.mpr ⟨(mwsX3_viewGet_1 _ (List.mem_of_getElem? (i := 8) rfl)), (List.forall_mem_cons.mpr ⟨(mwsX3_viewGet_1 _ (List.mem_of_getElem? (i := 9) rfl)), (List.forall_mem_cons.mpr ⟨(mwsX3_viewGet_1 _ (List.mem_of_getElem? (i := 0) rfl)), (fun _ h => absurd h List.not_mem_nil)⟩)⟩)⟩)⟩) (by decide +kernel)) ggX3_viewGet_X0_valueOf
theorem adX3_viewGet_0 : fd_rows (cX3_viewGet.data.toList.drop 0) 0 [(0, some (.aload_n 0), 1), (1, some (.iload_n 1), 1), (2, some (.invokevirtual 158), 3), (5, some (.astore_n 3), 1), (6, some (.iload_n 2), 1), (7, some (.invokestatic 51), 3), (10, some (.aload_n 3), 1), (11, some (.iload_n 2), 1), (12, some (.invokevirtual 162), 3), (15, some (.ifCond .eq 14), 3), (18, some (.aload_n 3), 1), (19, some (.invokevirtual 165), 3), (22, some (.iload_n 2), 1), (23, some (.invokevirtual 43), 3), (26, some (.goto 6), 3), (29, some (.sipush (-10000)), 3)] = true := by decide +kernel
theorem adX3_viewGet_1 : fd_rows (cX3_viewGet.data.toList.drop 32) 32 [(32, some (.ireturn), 1)] = true := by decide +kernel
theorem dX3_viewGet_0 : decode cX3_viewGet 0 = .ok (.aload_n 0, 1) := fd_get adX3_viewGet_0 (k := 0) rfl
theorem dX3_viewGet_1 : decode cX3_viewGet 1 = .ok (.iload_n 1, 1) := fd_get adX3_viewGet_0 (k := 1) rfl
theorem dX3_viewGet_2 : decode cX3_viewGet 2 = .ok (.invokevirtual 158, 3) := fd_get adX3_viewGet_0 (k := 2) rfl
theorem dX3_viewGet_5 : decode cX3_viewGet 5 = .ok (.astore_n 3, 1) := fd_get adX3_viewGet_0 (k := 3) rfl
theorem dX3_viewGet_6 : decode cX3_viewGet 6 = .ok (.iload_n 2, 1) := fd_get adX3_viewGet_0 (k := 4) rfl
theorem dX3_viewGet_7 : decode cX3_viewGet 7 = .ok (.invokestatic 51, 3) := fd_get adX3_viewGet_0 (k := 5) rfl
theorem dX3_viewGet_10 : decode cX3_viewGet 10 = .ok (.aload_n 3, 1) := fd_get adX3_viewGet_0 (k := 6) rfl
theorem dX3_viewGet_11 : decode cX3_viewGet 11 = .ok (.iload_n 2, 1) := fd_get adX3_viewGet_0 (k := 7) rfl
theorem dX3_viewGet_12 : decode cX3_viewGet 12 = .ok (.invokevirtual 162, 3) := fd_get adX3_viewGet_0 (k := 8) rfl
theorem dX3_viewGet_15 : decode cX3_viewGet 15 = .ok (.ifCond .eq 14, 3) := fd_get adX3_viewGet_0 (k := 9) rfl
theorem dX3_viewGet_18 : decode cX3_viewGet 18 = .ok (.aload_n 3, 1) := fd_get adX3_viewGet_0 (k := 10) rfl
theorem dX3_viewGet_19 : decode cX3_viewGet 19 = .ok (.invokevirtual 165, 3) := fd_get adX3_viewGet_0 (k := 11) rfl
theorem dX3_viewGet_22 : decode cX3_viewGet 22 = .ok (.iload_n 2, 1) := fd_get adX3_viewGet_0 (k := 12) rfl
theorem dX3_viewGet_23 : decode cX3_viewGet 23 = .ok (.invokevirtual 43, 3) := fd_get adX3_viewGet_0 (k := 13) rfl
theorem dX3_viewGet_26 : decode cX3_viewGet 26 = .ok (.goto 6, 3) := fd_get adX3_viewGet_0 (k := 14) rfl
theorem dX3_viewGet_29 : decode cX3_viewGet 29 = .ok (.sipush (-10000), 3) := fd_get adX3_viewGet_0 (k := 15) rfl
theorem dX3_viewGet_32 : decode cX3_viewGet 32 = .ok (.ireturn, 1) := fd_get adX3_viewGet_1 (k := 0) rfl
theorem mwsX3_ofView_0 : ∀ w ∈ wsX3_ofView_r1, w ∈ wsX3_ofView := fun w h => (List.mem_cons_of_mem _ (List.mem_append_left _ (List.mem_append_left _ (List.mem_append_left _ (List.mem_append_left _ (List.mem_append_left _ (List.mem_append_left _ h)))))))
theorem mwsX3_ofView_1 : ∀ w ∈ wsX3_ofView_r2, w ∈ wsX3_ofView := fun w h => (List.mem_cons_of_mem _ (List.mem_append_left _ (List.mem_append_left _ (List.mem_append_left _ (List.mem_append_left _ (List.mem_append_left _ (List.mem_append_right _ (List.mem_append_left _ h))))))))
theorem mwsX3_ofView_2 : ∀ w ∈ wsX3_ofView_r3, w ∈ wsX3_ofView := fun w h => (List.mem_cons_of_mem _ (List.mem_append_left _ (List.mem_append_left _ (List.mem_append_left _ (List.mem_append_left _ (List.mem_append_left _ (List.mem_append_right _ (List.mem_append_right _ (List.mem_append_left _ h)))))))))
theorem mwsX3_ofView_3 : ∀ w ∈ wsX3_ofView_r4, w ∈ wsX3_ofView := fun w h => (List.mem_cons_of_mem _ (List.mem_append_left _ (List.mem_append_left _ (List.mem_append_left _ (List.mem_append_left _ (List.mem_append_left _ (List.mem_append_right _ (List.mem_append_right _ (List.mem_append_right _ h)))))))))
theorem mwsX3_ofView_4 : ∀ w ∈ wsX30, w ∈ wsX3_ofView := fun w h => (List.mem_cons_of_mem _ (List.mem_append_left _ (List.mem_append_left _ (List.mem_append_left _ (List.mem_append_left _ (List.mem_append_right _ h))))))
theorem mwsX3_ofView_5 : ∀ w ∈ wsX10, w ∈ wsX3_ofView := fun w h => (List.mem_cons_of_mem _ (List.mem_append_left _ (List.mem_append_left _ (List.mem_append_left _ (List.mem_append_right _ h)))))
theorem mwsX3_ofView_6 : ∀ w ∈ wsX00, w ∈ wsX3_ofView := fun w h => (List.mem_cons_of_mem _ (List.mem_append_left _ (List.mem_append_left _ (List.mem_append_right _ h))))
set_option maxRecDepth 20000 in
theorem ggX3_ofView_X3_viewAt : GoodIn wsX3_ofView wsX3_viewAt := goodIn_ca (goodIn_sub (tk_mem 4 _ (fun w h => (mwsX3_ofView_0 _ (tkB_mem 4 4 h))) (tk_mem 6 _ (fun w h => (mwsX3_ofView_4 _ (tkB_mem 0 6 h))) (fun _ h => absurd h List.not_mem_nil))) (by decide +kernel)) (goodIn_sub (fun _ h => List.mem_cons_of_mem _ (List.mem_append_left _ (List.mem_append_right _ h))) (by decide +kernel))
set_option maxRecDepth 20000 in
theorem gX3_ofView_X3_viewAt : GoodIn wsX3_ofView (wsV RX3 158 RX3 yX3_viewAt wsX3_viewAt) := goodIn_app (goodIn_sub (tk_mem 4 _ (fun w h => (mwsX3_ofView_0 _ (tkB_mem 0 4 h))) (fun _ h => absurd h List.not_mem_nil)) (by decide +kernel)) ggX3_ofView_X3_viewAt
set_option maxRecDepth 20000 in
theorem ggX3_ofView_X3_checkWhat : GoodIn wsX3_ofView wsX3_checkWhat := goodIn_ca (goodIn_sub (List.forall_mem_cons.mpr ⟨(mwsX3_ofView_0 _ (List.mem_of_getElem? (i := 10) rfl)), (List.forall_mem_cons.mpr ⟨(mwsX3_ofView_0 _ (List.mem_of_getElem? (i := 11) rfl)), (List.forall_mem_cons.mpr ⟨(mwsX3_ofView_0 _ (List.mem_of_getElem? (i := 12) rfl)), (fun _ h => absurd h List.not_mem_nil)⟩)⟩)⟩) (by decide +kernel)) (goodIn_sub (fun _ h => List.mem_cons_of_mem _ (List.mem_append_right _ h)) (by decide +kernel))
set_option maxRecDepth 20000 in
theorem gX3_ofView_X3_checkWhat : GoodIn wsX3_ofView (va_wsS RX3 210 yX3_checkWhat wsX3_checkWhat) := goodIn_app (goodIn_sub (List.forall_mem_cons.mpr ⟨(mwsX3_ofView_0 _ (List.mem_of_getElem? (i := 8) rfl)), (List.forall_mem_cons.mpr ⟨(mwsX3_ofView_0 _ (List.mem_of_getElem? (i := 9) rfl)), (List.forall_mem_cons.mpr ⟨(mwsX3_ofView_0 _ (List.mem_of_getElem? (i := 3) rfl)), (fun _ h => absurd h List.not_mem_nil)⟩)⟩)⟩) (by decide +kernel)) ggX3_ofView_X3_checkWhat
set_option maxRecDepth 20000 in
theorem ggX3_ofView_X1_size : GoodIn wsX3_ofView wsX1_size := goodIn_sub (tk_mem 4 _ (fun w h => (mwsX3_ofView_0 _ (tkB_mem 17 4 h))) (List.forall_mem_cons.mpr ⟨(mwsX3_ofView_0 _ (List.mem_of_getElem? (i := 16) rfl)), (List.forall_mem_cons.mpr ⟨(mwsX3_ofView_0 _ (List.mem_of_getElem? (i := 21) rfl)), (List.forall_mem_cons.mpr ⟨(mwsX3_ofView_0 _ (List.mem_of_getElem? (i := 22) rfl)), (List.forall_mem_cons.mpr ⟨(mwsX3_ofView_0 _ (List.mem_of_getElem? (i := 23) rfl)), (tk_mem 17 _ (fun w h => (mwsX3_ofView_1 _ (tkB_mem 0 17 h))) (tk_mem 7 _ (fun w h => (mwsX3_ofView_5 _ (tkB_mem 0 7 h))) (tk_mem 7 _ (fun w h => (mwsX3_ofView_6 _ (tkB_mem 0 7 h))) (fun _ h => absurd h List.not_mem_nil))))⟩)⟩)⟩)⟩)) (by decide +kernel)
set_option maxRecDepth 20000 in
theorem gX3_ofView_X1_size : GoodIn wsX3_ofView (wsV RX3 166 RX1 yX1_size wsX1_size) := goodIn_app (goodIn_sub (tk_mem 4 _ (fun w h => (mwsX3_ofView_0 _ (tkB_mem 13 4 h))) (fun _ h => absurd h List.not_mem_nil)) (by decide +kernel)) ggX3_ofView_X1_size
set_option maxRecDepth 20000 in
theorem ggX3_ofView_X1_book : GoodIn wsX3_ofView wsX1_book := goodIn_sub (List.forall_mem_cons.mpr ⟨(mwsX3_ofView_1 _ (List.mem_of_getElem? (i := 20) rfl)), (List.forall_mem_cons.mpr ⟨(mwsX3_ofView_0 _ (List.mem_of_getElem? (i := 22) rfl)), (tk_mem 7 _ (fun w h => (mwsX3_ofView_5 _ (tkB_mem 0 7 h))) (fun _ h => absurd h List.not_mem_nil))⟩)⟩) (by decide +kernel)
set_option maxRecDepth 20000 in
theorem gX3_ofView_X1_book : GoodIn wsX3_ofView (wsV RX3 165 RX1 yX1_book wsX1_book) := goodIn_app (goodIn_sub (List.forall_mem_cons.mpr ⟨(mwsX3_ofView_1 _ (List.mem_of_getElem? (i := 17) rfl)), (List.forall_mem_cons.mpr ⟨(mwsX3_ofView_1 _ (List.mem_of_getElem? (i := 18) rfl)), (List.forall_mem_cons.mpr ⟨(mwsX3_ofView_1 _ (List.mem_of_getElem? (i := 19) rfl)), (List.forall_mem_cons.mpr ⟨(mwsX3_ofView_0 _ (List.mem_of_getElem? (i := 16) rfl)), (fun _ h => absurd h List.not_mem_nil)⟩)⟩)⟩)⟩) (by decide +kernel)) ggX3_ofView_X1_book
set_option maxRecDepth 20000 in
theorem ggX3_ofView_X0_number : GoodIn wsX3_ofView wsX0_number := goodIn_sub (List.forall_mem_cons.mpr ⟨(mwsX3_ofView_2 _ (List.mem_of_getElem? (i := 0) rfl)), (List.forall_mem_cons.mpr ⟨(mwsX3_ofView_2 _ (List.mem_of_getElem? (i := 1) rfl)), (tk_mem 7 _ (fun w h => (mwsX3_ofView_6 _ (tkB_mem 0 7 h))) (fun _ h => absurd h List.not_mem_nil))⟩)⟩) (by decide +kernel)
set_option maxRecDepth 20000 in
theorem gX3_ofView_X0_number : GoodIn wsX3_ofView (wsV RX3 242 RX0 yX0_number wsX0_number) := goodIn_app (goodIn_sub (List.forall_mem_cons.mpr ⟨(mwsX3_ofView_1 _ (List.mem_of_getElem? (i := 21) rfl)), (List.forall_mem_cons.mpr ⟨(mwsX3_ofView_1 _ (List.mem_of_getElem? (i := 22) rfl)), (List.forall_mem_cons.mpr ⟨(mwsX3_ofView_1 _ (List.mem_of_getElem? (i := 23) rfl)), (List.forall_mem_cons.mpr ⟨(mwsX3_ofView_1 _ (List.mem_of_getElem? (i := 3) rfl)), (fun _ h => absurd h List.not_mem_nil)⟩)⟩)⟩)⟩) (by decide +kernel)) ggX3_ofView_X0_number
set_option maxRecDepth 20000 in
theorem ggX3_ofView_X1_lowerBound : GoodIn wsX3_ofView wsX1_lowerBound := goodIn_sub (List.forall_mem_cons.mpr ⟨(mwsX3_ofView_2 _ (List.mem_of_getElem? (i := 5) rfl)), (List.forall_mem_cons.mpr ⟨(mwsX3_ofView_2 _ (List.mem_of_getElem? (i := 6) rfl)), (tk_mem 7 _ (fun w h => (mwsX3_ofView_5 _ (tkB_mem 0 7 h))) (fun _ h => absurd h List.not_mem_nil))⟩)⟩) (by decide +kernel)
set_option maxRecDepth 20000 in
theorem gX3_ofView_X1_lowerBound : GoodIn wsX3_ofView (wsV RX3 245 RX1 yX1_lowerBound wsX1_lowerBound) := goodIn_app (goodIn_sub (List.forall_mem_cons.mpr ⟨(mwsX3_ofView_2 _ (List.mem_of_getElem? (i := 2) rfl)), (List.forall_mem_cons.mpr ⟨(mwsX3_ofView_2 _ (List.mem_of_getElem? (i := 3) rfl)), (List.forall_mem_cons.mpr ⟨(mwsX3_ofView_2 _ (List.mem_of_getElem? (i := 4) rfl)), (List.forall_mem_cons.mpr ⟨(mwsX3_ofView_0 _ (List.mem_of_getElem? (i := 16) rfl)), (fun _ h => absurd h List.not_mem_nil)⟩)⟩)⟩)⟩) (by decide +kernel)) ggX3_ofView_X1_lowerBound
set_option maxRecDepth 20000 in
theorem ggX3_ofView_X1_upperBound : GoodIn wsX3_ofView wsX1_upperBound := goodIn_sub (List.forall_mem_cons.mpr ⟨(mwsX3_ofView_2 _ (List.mem_of_getElem? (i := 10) rfl)), (List.forall_mem_cons.mpr ⟨(mwsX3_ofView_2 _ (List.mem_of_getElem? (i := 11) rfl)), (tk_mem 7 _ (fun w h => (mwsX3_ofView_5 _ (tkB_mem 0 7 h))) (fun _ h => absurd h List.not_mem_nil))⟩)⟩) (by decide +kernel)
set_option maxRecDepth 20000 in
theorem gX3_ofView_X1_upperBound : GoodIn wsX3_ofView (wsV RX3 248 RX1 yX1_upperBound wsX1_upperBound) := goodIn_app (goodIn_sub (List.forall_mem_cons.mpr ⟨(mwsX3_ofView_2 _ (List.mem_of_getElem? (i := 7) rfl)), (List.forall_mem_cons.mpr ⟨(mwsX3_ofView_2 _ (List.mem_of_getElem? (i := 8) rfl)), (List.forall_mem_cons.mpr ⟨(mwsX3_ofView_2 _ (List.mem_of_getElem? (i := 9) rfl)), (List.forall_mem_cons.mpr ⟨(mwsX3_ofView_0 _ (List.mem_of_getElem? (i := 16) rfl)), (fun _ h => absurd h List.not_mem_nil)⟩)⟩)⟩)⟩) (by decide +kernel)) ggX3_ofView_X1_upperBound
set_option maxRecDepth 20000 in
theorem ggX3_ofView_X1_isLowerIn : GoodIn wsX3_ofView wsX1_isLowerIn := goodIn_sub (List.forall_mem_cons.mpr ⟨(mwsX3_ofView_2 _ (List.mem_of_getElem? (i := 15) rfl)), (List.forall_mem_cons.mpr ⟨(mwsX3_ofView_2 _ (List.mem_of_getElem? (i := 16) rfl)), (tk_mem 7 _ (fun w h => (mwsX3_ofView_5 _ (tkB_mem 0 7 h))) (fun _ h => absurd h List.not_mem_nil))⟩)⟩) (by decide +kernel)
set_option maxRecDepth 20000 in
theorem gX3_ofView_X1_isLowerIn : GoodIn wsX3_ofView (wsV RX3 251 RX1 yX1_isLowerIn wsX1_isLowerIn) := goodIn_app (goodIn_sub (List.forall_mem_cons.mpr ⟨(mwsX3_ofView_2 _ (List.mem_of_getElem? (i := 12) rfl)), (List.forall_mem_cons.mpr ⟨(mwsX3_ofView_2 _ (List.mem_of_getElem? (i := 13) rfl)), (List.forall_mem_cons.mpr ⟨(mwsX3_ofView_2 _ (List.mem_of_getElem? (i := 14) rfl)), (List.forall_mem_cons.mpr ⟨(mwsX3_ofView_0 _ (List.mem_of_getElem? (i := 16) rfl)), (fun _ h => absurd h List.not_mem_nil)⟩)⟩)⟩)⟩) (by decide +kernel)) ggX3_ofView_X1_isLowerIn
set_option maxRecDepth 20000 in
theorem ggX3_ofView_X1_isUpperIn : GoodIn wsX3_ofView wsX1_isUpperIn := goodIn_sub (List.forall_mem_cons.mpr ⟨(mwsX3_ofView_2 _ (List.mem_of_getElem? (i := 20) rfl)), (List.forall_mem_cons.mpr ⟨(mwsX3_ofView_2 _ (List.mem_of_getElem? (i := 21) rfl)), (tk_mem 7 _ (fun w h => (mwsX3_ofView_5 _ (tkB_mem 0 7 h))) (fun _ h => absurd h List.not_mem_nil))⟩)⟩) (by decide +kernel)
set_option maxRecDepth 20000 in
theorem gX3_ofView_X1_isUpperIn : GoodIn wsX3_ofView (wsV RX3 254 RX1 yX1_isUpperIn wsX1_isUpperIn) := goodIn_app (goodIn_sub (List.forall_mem_cons.mpr ⟨(mwsX3_ofView_2 _ (List.mem_of_getElem? (i := 17) rfl)), (List.forall_mem_cons.mpr ⟨(mwsX3_ofView_2 _ (List.mem_of_getElem? (i := 18) rfl)), (List.forall_mem_cons.mpr ⟨(mwsX3_ofView_2 _ (List.mem_of_getElem? (i := 19) rfl)), (List.forall_mem_cons.mpr ⟨(mwsX3_ofView_0 _ (List.mem_of_getElem? (i := 16) rfl)), (fun _ h => absurd h List.not_mem_nil)⟩)⟩)⟩)⟩) (by decide +kernel)) ggX3_ofView_X1_isUpperIn
set_option maxRecDepth 20000 in
theorem ggX3_ofView_X1_start : GoodIn wsX3_ofView wsX1_start := goodIn_sub (List.forall_mem_cons.mpr ⟨(mwsX3_ofView_1 _ (List.mem_of_getElem? (i := 15) rfl)), (List.forall_mem_cons.mpr ⟨(mwsX3_ofView_0 _ (List.mem_of_getElem? (i := 22) rfl)), (List.forall_mem_cons.mpr ⟨(mwsX3_ofView_1 _ (List.mem_of_getElem? (i := 16) rfl)), (tk_mem 12 _ (fun w h => (mwsX3_ofView_1 _ (tkB_mem 0 12 h))) (tk_mem 7 _ (fun w h => (mwsX3_ofView_5 _ (tkB_mem 0 7 h))) (tk_mem 7 _ (fun w h => (mwsX3_ofView_6 _ (tkB_mem 0 7 h))) (fun _ h => absurd h List.not_mem_nil))))⟩)⟩)⟩) (by decide +kernel)
set_option maxRecDepth 20000 in
theorem gX3_ofView_X1_start : GoodIn wsX3_ofView (wsV RX3 174 RX1 yX1_start wsX1_start) := goodIn_app (goodIn_sub (List.forall_mem_cons.mpr ⟨(mwsX3_ofView_2 _ (List.mem_of_getElem? (i := 22) rfl)), (List.forall_mem_cons.mpr ⟨(mwsX3_ofView_1 _ (List.mem_of_getElem? (i := 13) rfl)), (List.forall_mem_cons.mpr ⟨(mwsX3_ofView_1 _ (List.mem_of_getElem? (i := 14) rfl)), (List.forall_mem_cons.mpr ⟨(mwsX3_ofView_0 _ (List.mem_of_getElem? (i := 16) rfl)), (fun _ h => absurd h List.not_mem_nil)⟩)⟩)⟩)⟩) (by decide +kernel)) ggX3_ofView_X1_start
set_option maxRecDepth 20000 in
theorem ggX3_ofView_X0_keyAt : GoodIn wsX3_ofView wsX0_keyAt := goodIn_sub (List.forall_mem_cons.mpr ⟨(mwsX3_ofView_3 _ (List.mem_of_getElem? (i := 2) rfl)), (List.forall_mem_cons.mpr ⟨(mwsX3_ofView_1 _ (List.mem_of_getElem? (i := 6) rfl)), (List.forall_mem_cons.mpr ⟨(mwsX3_ofView_3 _ (List.mem_of_getElem? (i := 3) rfl)), (List.forall_mem_cons.mpr ⟨(mwsX3_ofView_3 _ (List.mem_of_getElem? (i := 4) rfl)), (List.forall_mem_cons.mpr ⟨(mwsX3_ofView_3 _ (List.mem_of_getElem? (i := 5) rfl)), (List.forall_mem_cons.mpr ⟨(mwsX3_ofView_1 _ (List.mem_of_getElem? (i := 3) rfl)), (List.forall_mem_cons.mpr ⟨(mwsX3_ofView_3 _ (List.mem_of_getElem? (i := 6) rfl)), (List.forall_mem_cons.mpr ⟨(mwsX3_ofView_1 _ (List.mem_of_getElem? (i := 5) rfl)), (tk_mem 7 _ (fun w h => (mwsX3_ofView_6 _ (tkB_mem 0 7 h))) (fun _ h => absurd h List.not_mem_nil))⟩)⟩)⟩)⟩)⟩)⟩)⟩)⟩) (by decide +kernel)
set_option maxRecDepth 20000 in
theorem gX3_ofView_X0_keyAt : GoodIn wsX3_ofView (wsV RX3 201 RX0 yX0_keyAt wsX0_keyAt) := goodIn_app (goodIn_sub (List.forall_mem_cons.mpr ⟨(mwsX3_ofView_2 _ (List.mem_of_getElem? (i := 23) rfl)), (List.forall_mem_cons.mpr ⟨(mwsX3_ofView_3 _ (List.mem_of_getElem? (i := 0) rfl)), (List.forall_mem_cons.mpr ⟨(mwsX3_ofView_3 _ (List.mem_of_getElem? (i := 1) rfl)), (List.forall_mem_cons.mpr ⟨(mwsX3_ofView_1 _ (List.mem_of_getElem? (i := 3) rfl)), (fun _ h => absurd h List.not_mem_nil)⟩)⟩)⟩)⟩) (by decide +kernel)) ggX3_ofView_X0_keyAt
set_option maxRecDepth 20000 in
theorem ggX3_ofView_X1_end : GoodIn wsX3_ofView wsX1_end := goodIn_sub (List.forall_mem_cons.mpr ⟨(mwsX3_ofView_0 _ (List.mem_of_getElem? (i := 21) rfl)), (List.forall_mem_cons.mpr ⟨(mwsX3_ofView_0 _ (List.mem_of_getElem? (i := 22) rfl)), (List.forall_mem_cons.mpr ⟨(mwsX3_ofView_0 _ (List.mem_of_getElem? (i := 23) rfl)), (tk_mem 12 _ (fun w h => (mwsX3_ofView_1 _ (tkB_mem 0 12 h))) (tk_mem 7 _ (fun w h => (mwsX3_ofView_5 _ (tkB_mem 0 7 h))) (tk_mem 7 _ (fun w h => (mwsX3_ofView_6 _ (tkB_mem 0 7 h))) (fun _ h => absurd h List.not_mem_nil))))⟩)⟩)⟩) (by decide +kernel)
set_option maxRecDepth 20000 in
theorem gX3_ofView_X1_end : GoodIn wsX3_ofView (wsV RX3 171 RX1 yX1_end wsX1_end) := goodIn_app (goodIn_sub (List.forall_mem_cons.mpr ⟨(mwsX3_ofView_3 _ (List.mem_of_getElem? (i := 7) rfl)), (List.forall_mem_cons.mpr ⟨(mwsX3_ofView_0 _ (List.mem_of_getElem? (i := 19) rfl)), (List.forall_mem_cons.mpr ⟨(mwsX3_ofView_0 _ (List.mem_of_getElem? (i := 20) rfl)), (List.forall_mem_cons.mpr ⟨(mwsX3_ofView_0 _ (List.mem_of_getElem? (i := 16) rfl)), (fun _ h => absurd h List.not_mem_nil)⟩)⟩)⟩)⟩) (by decide +kernel)) ggX3_ofView_X1_end
set_option maxRecDepth 20000 in
theorem ggX3_ofView_X0_sum : GoodIn wsX3_ofView wsX0_sum := goodIn_sub (List.forall_mem_cons.mpr ⟨(mwsX3_ofView_3 _ (List.mem_of_getElem? (i := 11) rfl)), (List.forall_mem_cons.mpr ⟨(mwsX3_ofView_3 _ (List.mem_of_getElem? (i := 12) rfl)), (List.forall_mem_cons.mpr ⟨(mwsX3_ofView_3 _ (List.mem_of_getElem? (i := 3) rfl)), (List.forall_mem_cons.mpr ⟨(mwsX3_ofView_3 _ (List.mem_of_getElem? (i := 4) rfl)), (List.forall_mem_cons.mpr ⟨(mwsX3_ofView_3 _ (List.mem_of_getElem? (i := 5) rfl)), (List.forall_mem_cons.mpr ⟨(mwsX3_ofView_1 _ (List.mem_of_getElem? (i := 3) rfl)), (List.forall_mem_cons.mpr ⟨(mwsX3_ofView_3 _ (List.mem_of_getElem? (i := 6) rfl)), (List.forall_mem_cons.mpr ⟨(mwsX3_ofView_1 _ (List.mem_of_getElem? (i := 5) rfl)), (tk_mem 7 _ (fun w h => (mwsX3_ofView_6 _ (tkB_mem 0 7 h))) (fun _ h => absurd h List.not_mem_nil))⟩)⟩)⟩)⟩)⟩)⟩)⟩)⟩) (by decide +kernel)
set_option maxRecDepth 20000 in
theorem gX3_ofView_X0_sum : GoodIn wsX3_ofView (wsV RX3 216 RX0 yX0_sum wsX0_sum) := goodIn_app (goodIn_sub (List.forall_mem_cons.mpr ⟨(mwsX3_ofView_3 _ (List.mem_of_getElem? (i := 8) rfl)), (List.forall_mem_cons.mpr ⟨(mwsX3_ofView_3 _ (List.mem_of_getElem? (i := 9) rfl)), (List.forall_mem_cons.mpr ⟨(mwsX3_ofView_3 _ (List.mem_of_getElem? (i := 10) rfl)), (List.forall_mem_cons.mpr ⟨(mwsX3_ofView_1 _ (List.mem_of_getElem? (i := 3) rfl)), (fun _ h => absurd h List.not_mem_nil)⟩)⟩)⟩)⟩) (by decide +kernel)) ggX3_ofView_X0_sum
theorem adX3_ofView_0 : fd_rows (cX3_ofView.data.toList.drop 0) 0 [(0, some (.aload_n 0), 1), (1, some (.iload_n 1), 1), (2, some (.invokevirtual 158), 3), (5, some (.astore_n 3), 1), (6, some (.iload_n 2), 1), (7, some (.bipush 8), 2), (9, some (.invokestatic 210), 3), (12, some (.iload_n 2), 1), (13, none, 47), (60, some (.aload_n 3), 1), (61, some (.invokevirtual 166), 3), (64, some (.ireturn), 1), (65, some (.aload_n 3), 1), (66, some (.invokevirtual 165), 3), (69, some (.invokevirtual 242), 3), (72, some (.ireturn), 1)] = true := by decide +kernel
theorem adX3_ofView_1 : fd_rows (cX3_ofView.data.toList.drop 73) 73 [(73, some (.aload_n 3), 1), (74, some (.invokevirtual 245), 3), (77, some (.ireturn), 1), (78, some (.aload_n 3), 1), (79, some (.invokevirtual 248), 3), (82, some (.ireturn), 1), (83, some (.aload_n 3), 1), (84, some (.invokevirtual 251), 3), (87, some (.ifCond .eq 7), 3), (90, some (.iconst 1), 1), (91, some (.goto 4), 3), (94, some (.iconst 0), 1), (95, some (.ireturn), 1), (96, some (.aload_n 3), 1), (97, some (.invokevirtual 254), 3), (100, some (.ifCond .eq 7), 3)] = true := by decide +kernel
theorem adX3_ofView_2 : fd_rows (cX3_ofView.data.toList.drop 103) 103 [(103, some (.iconst 1), 1), (104, some (.goto 4), 3), (107, some (.iconst 0), 1), (108, some (.ireturn), 1), (109, some (.aload_n 3), 1), (110, some (.invokevirtual 166), 3), (113, some (.ifCond .ne 9), 3), (116, some (.sipush (-10000)), 3), (119, some (.goto 14), 3), (122, some (.aload_n 3), 1), (123, some (.invokevirtual 165), 3), (126, some (.aload_n 3), 1), (127, some (.invokevirtual 174), 3), (130, some (.invokevirtual 201), 3), (133, some (.ireturn), 1), (134, some (.aload_n 3), 1)] = true := by decide +kernel
theorem adX3_ofView_3 : fd_rows (cX3_ofView.data.toList.drop 135) 135 [(135, some (.invokevirtual 166), 3), (138, some (.ifCond .ne 9), 3), (141, some (.sipush (-10000)), 3), (144, some (.goto 16), 3), (147, some (.aload_n 3), 1), (148, some (.invokevirtual 165), 3), (151, some (.aload_n 3), 1), (152, some (.invokevirtual 171), 3), (155, some (.iconst 1), 1), (156, some (.isub), 1), (157, some (.invokevirtual 201), 3), (160, some (.ireturn), 1), (161, some (.aload_n 3), 1), (162, some (.invokevirtual 165), 3), (165, some (.aload_n 3), 1), (166, some (.invokevirtual 174), 3)] = true := by decide +kernel
theorem adX3_ofView_4 : fd_rows (cX3_ofView.data.toList.drop 169) 169 [(169, some (.aload_n 3), 1), (170, some (.invokevirtual 171), 3), (173, some (.invokevirtual 216), 3), (176, some (.ireturn), 1)] = true := by decide +kernel
theorem dX3_ofView_0 : decode cX3_ofView 0 = .ok (.aload_n 0, 1) := fd_get adX3_ofView_0 (k := 0) rfl
theorem dX3_ofView_1 : decode cX3_ofView 1 = .ok (.iload_n 1, 1) := fd_get adX3_ofView_0 (k := 1) rfl
theorem dX3_ofView_2 : decode cX3_ofView 2 = .ok (.invokevirtual 158, 3) := fd_get adX3_ofView_0 (k := 2) rfl
theorem dX3_ofView_5 : decode cX3_ofView 5 = .ok (.astore_n 3, 1) := fd_get adX3_ofView_0 (k := 3) rfl
theorem dX3_ofView_6 : decode cX3_ofView 6 = .ok (.iload_n 2, 1) := fd_get adX3_ofView_0 (k := 4) rfl
theorem dX3_ofView_7 : decode cX3_ofView 7 = .ok (.bipush 8, 2) := fd_get adX3_ofView_0 (k := 5) rfl
theorem dX3_ofView_9 : decode cX3_ofView 9 = .ok (.invokestatic 210, 3) := fd_get adX3_ofView_0 (k := 6) rfl
theorem dX3_ofView_12 : decode cX3_ofView 12 = .ok (.iload_n 2, 1) := fd_get adX3_ofView_0 (k := 7) rfl
theorem dX3_ofView_13 : decode cX3_ofView 13 = .ok (.tableswitch 148 0 7 #[47, 52, 60, 65, 70, 83, 96, 121], 47) := by decide +kernel
theorem dX3_ofView_60 : decode cX3_ofView 60 = .ok (.aload_n 3, 1) := fd_get adX3_ofView_0 (k := 9) rfl
theorem dX3_ofView_61 : decode cX3_ofView 61 = .ok (.invokevirtual 166, 3) := fd_get adX3_ofView_0 (k := 10) rfl
theorem dX3_ofView_64 : decode cX3_ofView 64 = .ok (.ireturn, 1) := fd_get adX3_ofView_0 (k := 11) rfl
theorem dX3_ofView_65 : decode cX3_ofView 65 = .ok (.aload_n 3, 1) := fd_get adX3_ofView_0 (k := 12) rfl
theorem dX3_ofView_66 : decode cX3_ofView 66 = .ok (.invokevirtual 165, 3) := fd_get adX3_ofView_0 (k := 13) rfl
theorem dX3_ofView_69 : decode cX3_ofView 69 = .ok (.invokevirtual 242, 3) := fd_get adX3_ofView_0 (k := 14) rfl
theorem dX3_ofView_72 : decode cX3_ofView 72 = .ok (.ireturn, 1) := fd_get adX3_ofView_0 (k := 15) rfl
theorem dX3_ofView_73 : decode cX3_ofView 73 = .ok (.aload_n 3, 1) := fd_get adX3_ofView_1 (k := 0) rfl
theorem dX3_ofView_74 : decode cX3_ofView 74 = .ok (.invokevirtual 245, 3) := fd_get adX3_ofView_1 (k := 1) rfl
theorem dX3_ofView_77 : decode cX3_ofView 77 = .ok (.ireturn, 1) := fd_get adX3_ofView_1 (k := 2) rfl
theorem dX3_ofView_78 : decode cX3_ofView 78 = .ok (.aload_n 3, 1) := fd_get adX3_ofView_1 (k := 3) rfl
theorem dX3_ofView_79 : decode cX3_ofView 79 = .ok (.invokevirtual 248, 3) := fd_get adX3_ofView_1 (k := 4) rfl
theorem dX3_ofView_82 : decode cX3_ofView 82 = .ok (.ireturn, 1) := fd_get adX3_ofView_1 (k := 5) rfl
theorem dX3_ofView_83 : decode cX3_ofView 83 = .ok (.aload_n 3, 1) := fd_get adX3_ofView_1 (k := 6) rfl
theorem dX3_ofView_84 : decode cX3_ofView 84 = .ok (.invokevirtual 251, 3) := fd_get adX3_ofView_1 (k := 7) rfl
theorem dX3_ofView_87 : decode cX3_ofView 87 = .ok (.ifCond .eq 7, 3) := fd_get adX3_ofView_1 (k := 8) rfl
theorem dX3_ofView_90 : decode cX3_ofView 90 = .ok (.iconst 1, 1) := fd_get adX3_ofView_1 (k := 9) rfl
theorem dX3_ofView_91 : decode cX3_ofView 91 = .ok (.goto 4, 3) := fd_get adX3_ofView_1 (k := 10) rfl
theorem dX3_ofView_94 : decode cX3_ofView 94 = .ok (.iconst 0, 1) := fd_get adX3_ofView_1 (k := 11) rfl
theorem dX3_ofView_95 : decode cX3_ofView 95 = .ok (.ireturn, 1) := fd_get adX3_ofView_1 (k := 12) rfl
theorem dX3_ofView_96 : decode cX3_ofView 96 = .ok (.aload_n 3, 1) := fd_get adX3_ofView_1 (k := 13) rfl
theorem dX3_ofView_97 : decode cX3_ofView 97 = .ok (.invokevirtual 254, 3) := fd_get adX3_ofView_1 (k := 14) rfl
theorem dX3_ofView_100 : decode cX3_ofView 100 = .ok (.ifCond .eq 7, 3) := fd_get adX3_ofView_1 (k := 15) rfl
theorem dX3_ofView_103 : decode cX3_ofView 103 = .ok (.iconst 1, 1) := fd_get adX3_ofView_2 (k := 0) rfl
theorem dX3_ofView_104 : decode cX3_ofView 104 = .ok (.goto 4, 3) := fd_get adX3_ofView_2 (k := 1) rfl
theorem dX3_ofView_107 : decode cX3_ofView 107 = .ok (.iconst 0, 1) := fd_get adX3_ofView_2 (k := 2) rfl
theorem dX3_ofView_108 : decode cX3_ofView 108 = .ok (.ireturn, 1) := fd_get adX3_ofView_2 (k := 3) rfl
theorem dX3_ofView_109 : decode cX3_ofView 109 = .ok (.aload_n 3, 1) := fd_get adX3_ofView_2 (k := 4) rfl
theorem dX3_ofView_110 : decode cX3_ofView 110 = .ok (.invokevirtual 166, 3) := fd_get adX3_ofView_2 (k := 5) rfl
theorem dX3_ofView_113 : decode cX3_ofView 113 = .ok (.ifCond .ne 9, 3) := fd_get adX3_ofView_2 (k := 6) rfl
theorem dX3_ofView_116 : decode cX3_ofView 116 = .ok (.sipush (-10000), 3) := fd_get adX3_ofView_2 (k := 7) rfl
theorem dX3_ofView_119 : decode cX3_ofView 119 = .ok (.goto 14, 3) := fd_get adX3_ofView_2 (k := 8) rfl
theorem dX3_ofView_122 : decode cX3_ofView 122 = .ok (.aload_n 3, 1) := fd_get adX3_ofView_2 (k := 9) rfl
theorem dX3_ofView_123 : decode cX3_ofView 123 = .ok (.invokevirtual 165, 3) := fd_get adX3_ofView_2 (k := 10) rfl
theorem dX3_ofView_126 : decode cX3_ofView 126 = .ok (.aload_n 3, 1) := fd_get adX3_ofView_2 (k := 11) rfl
theorem dX3_ofView_127 : decode cX3_ofView 127 = .ok (.invokevirtual 174, 3) := fd_get adX3_ofView_2 (k := 12) rfl
theorem dX3_ofView_130 : decode cX3_ofView 130 = .ok (.invokevirtual 201, 3) := fd_get adX3_ofView_2 (k := 13) rfl
theorem dX3_ofView_133 : decode cX3_ofView 133 = .ok (.ireturn, 1) := fd_get adX3_ofView_2 (k := 14) rfl
theorem dX3_ofView_134 : decode cX3_ofView 134 = .ok (.aload_n 3, 1) := fd_get adX3_ofView_2 (k := 15) rfl
theorem dX3_ofView_135 : decode cX3_ofView 135 = .ok (.invokevirtual 166, 3) := fd_get adX3_ofView_3 (k := 0) rfl
theorem dX3_ofView_138 : decode cX3_ofView 138 = .ok (.ifCond .ne 9, 3) := fd_get adX3_ofView_3 (k := 1) rfl
theorem dX3_ofView_141 : decode cX3_ofView 141 = .ok (.sipush (-10000), 3) := fd_get adX3_ofView_3 (k := 2) rfl
theorem dX3_ofView_144 : decode cX3_ofView 144 = .ok (.goto 16, 3) := fd_get adX3_ofView_3 (k := 3) rfl
theorem dX3_ofView_147 : decode cX3_ofView 147 = .ok (.aload_n 3, 1) := fd_get adX3_ofView_3 (k := 4) rfl
theorem dX3_ofView_148 : decode cX3_ofView 148 = .ok (.invokevirtual 165, 3) := fd_get adX3_ofView_3 (k := 5) rfl
theorem dX3_ofView_151 : decode cX3_ofView 151 = .ok (.aload_n 3, 1) := fd_get adX3_ofView_3 (k := 6) rfl
theorem dX3_ofView_152 : decode cX3_ofView 152 = .ok (.invokevirtual 171, 3) := fd_get adX3_ofView_3 (k := 7) rfl
theorem dX3_ofView_155 : decode cX3_ofView 155 = .ok (.iconst 1, 1) := fd_get adX3_ofView_3 (k := 8) rfl
theorem dX3_ofView_156 : decode cX3_ofView 156 = .ok (.isub, 1) := fd_get adX3_ofView_3 (k := 9) rfl
theorem dX3_ofView_157 : decode cX3_ofView 157 = .ok (.invokevirtual 201, 3) := fd_get adX3_ofView_3 (k := 10) rfl
theorem dX3_ofView_160 : decode cX3_ofView 160 = .ok (.ireturn, 1) := fd_get adX3_ofView_3 (k := 11) rfl
theorem dX3_ofView_161 : decode cX3_ofView 161 = .ok (.aload_n 3, 1) := fd_get adX3_ofView_3 (k := 12) rfl
theorem dX3_ofView_162 : decode cX3_ofView 162 = .ok (.invokevirtual 165, 3) := fd_get adX3_ofView_3 (k := 13) rfl
theorem dX3_ofView_165 : decode cX3_ofView 165 = .ok (.aload_n 3, 1) := fd_get adX3_ofView_3 (k := 14) rfl
theorem dX3_ofView_166 : decode cX3_ofView 166 = .ok (.invokevirtual 174, 3) := fd_get adX3_ofView_3 (k := 15) rfl
theorem dX3_ofView_169 : decode cX3_ofView 169 = .ok (.aload_n 3, 1) := fd_get adX3_ofView_4 (k := 0) rfl
theorem dX3_ofView_170 : decode cX3_ofView 170 = .ok (.invokevirtual 171, 3) := fd_get adX3_ofView_4 (k := 1) rfl
theorem dX3_ofView_173 : decode cX3_ofView 173 = .ok (.invokevirtual 216, 3) := fd_get adX3_ofView_4 (k := 2) rfl
theorem dX3_ofView_176 : decode cX3_ofView 176 = .ok (.ireturn, 1) := fd_get adX3_ofView_4 (k := 3) rfl
theorem mwsX3_viewNear_0 : ∀ w ∈ wsX3_viewNear_r1, w ∈ wsX3_viewNear := fun w h => (List.mem_cons_of_mem _ (List.mem_append_left _ (List.mem_append_left _ (List.mem_append_left _ (List.mem_append_left _ (List.mem_append_left _ (List.mem_append_left _ h)))))))
theorem mwsX3_viewNear_1 : ∀ w ∈ wsX3_viewNear_r2, w ∈ wsX3_viewNear := fun w h => (List.mem_cons_of_mem _ (List.mem_append_left _ (List.mem_append_left _ (List.mem_append_left _ (List.mem_append_left _ (List.mem_append_left _ (List.mem_append_right _ (List.mem_append_left _ h))))))))
theorem mwsX3_viewNear_2 : ∀ w ∈ wsX3_viewNear_r3, w ∈ wsX3_viewNear := fun w h => (List.mem_cons_of_mem _ (List.mem_append_left _ (List.mem_append_left _ (List.mem_append_left _ (List.mem_append_left _ (List.mem_append_left _ (List.mem_append_right _ (List.mem_append_right _ h))))))))
theorem mwsX3_viewNear_3 : ∀ w ∈ wsX30, w ∈ wsX3_viewNear := fun w h => (List.mem_cons_of_mem _ (List.mem_append_left _ (List.mem_append_left _ (List.mem_append_left _ (List.mem_append_left _ (List.mem_append_right _ h))))))
theorem mwsX3_viewNear_4 : ∀ w ∈ wsX10, w ∈ wsX3_viewNear := fun w h => (List.mem_cons_of_mem _ (List.mem_append_left _ (List.mem_append_left _ (List.mem_append_left _ (List.mem_append_right _ h)))))
theorem mwsX3_viewNear_5 : ∀ w ∈ wsX00, w ∈ wsX3_viewNear := fun w h => (List.mem_cons_of_mem _ (List.mem_append_left _ (List.mem_append_left _ (List.mem_append_right _ h))))
set_option maxRecDepth 20000 in
theorem ggX3_viewNear_X3_viewAt : GoodIn wsX3_viewNear wsX3_viewAt := goodIn_ca (goodIn_sub (tk_mem 4 _ (fun w h => (mwsX3_viewNear_0 _ (tkB_mem 4 4 h))) (tk_mem 6 _ (fun w h => (mwsX3_viewNear_3 _ (tkB_mem 0 6 h))) (fun _ h => absurd h List.not_mem_nil))) (by decide +kernel)) (goodIn_sub (fun _ h => List.mem_cons_of_mem _ (List.mem_append_left _ (List.mem_append_right _ h))) (by decide +kernel))
set_option maxRecDepth 20000 in
theorem gX3_viewNear_X3_viewAt : GoodIn wsX3_viewNear (wsV RX3 158 RX3 yX3_viewAt wsX3_viewAt) := goodIn_app (goodIn_sub (tk_mem 4 _ (fun w h => (mwsX3_viewNear_0 _ (tkB_mem 0 4 h))) (fun _ h => absurd h List.not_mem_nil)) (by decide +kernel)) ggX3_viewNear_X3_viewAt
set_option maxRecDepth 20000 in
theorem ggX3_viewNear_X3_checkKey : GoodIn wsX3_viewNear wsX3_checkKey := goodIn_ca (goodIn_sub (List.forall_mem_cons.mpr ⟨(mwsX3_viewNear_0 _ (List.mem_of_getElem? (i := 10) rfl)), (List.forall_mem_cons.mpr ⟨(mwsX3_viewNear_0 _ (List.mem_of_getElem? (i := 11) rfl)), (List.forall_mem_cons.mpr ⟨(mwsX3_viewNear_0 _ (List.mem_of_getElem? (i := 12) rfl)), (fun _ h => absurd h List.not_mem_nil)⟩)⟩)⟩) (by decide +kernel)) (goodIn_sub (fun _ h => List.mem_cons_of_mem _ (List.mem_append_right _ h)) (by decide +kernel))
set_option maxRecDepth 20000 in
theorem gX3_viewNear_X3_checkKey : GoodIn wsX3_viewNear (va_wsS RX3 51 yX3_checkKey wsX3_checkKey) := goodIn_app (goodIn_sub (List.forall_mem_cons.mpr ⟨(mwsX3_viewNear_0 _ (List.mem_of_getElem? (i := 8) rfl)), (List.forall_mem_cons.mpr ⟨(mwsX3_viewNear_0 _ (List.mem_of_getElem? (i := 9) rfl)), (List.forall_mem_cons.mpr ⟨(mwsX3_viewNear_0 _ (List.mem_of_getElem? (i := 3) rfl)), (fun _ h => absurd h List.not_mem_nil)⟩)⟩)⟩) (by decide +kernel)) ggX3_viewNear_X3_checkKey
set_option maxRecDepth 20000 in
theorem ggX3_viewNear_X3_checkWhat : GoodIn wsX3_viewNear wsX3_checkWhat := goodIn_ca (goodIn_sub (List.forall_mem_cons.mpr ⟨(mwsX3_viewNear_0 _ (List.mem_of_getElem? (i := 15) rfl)), (List.forall_mem_cons.mpr ⟨(mwsX3_viewNear_0 _ (List.mem_of_getElem? (i := 11) rfl)), (List.forall_mem_cons.mpr ⟨(mwsX3_viewNear_0 _ (List.mem_of_getElem? (i := 12) rfl)), (fun _ h => absurd h List.not_mem_nil)⟩)⟩)⟩) (by decide +kernel)) (goodIn_sub (fun _ h => List.mem_cons_of_mem _ (List.mem_append_right _ h)) (by decide +kernel))
set_option maxRecDepth 20000 in
theorem gX3_viewNear_X3_checkWhat : GoodIn wsX3_viewNear (va_wsS RX3 210 yX3_checkWhat wsX3_checkWhat) := goodIn_app (goodIn_sub (List.forall_mem_cons.mpr ⟨(mwsX3_viewNear_0 _ (List.mem_of_getElem? (i := 13) rfl)), (List.forall_mem_cons.mpr ⟨(mwsX3_viewNear_0 _ (List.mem_of_getElem? (i := 14) rfl)), (List.forall_mem_cons.mpr ⟨(mwsX3_viewNear_0 _ (List.mem_of_getElem? (i := 3) rfl)), (fun _ h => absurd h List.not_mem_nil)⟩)⟩)⟩) (by decide +kernel)) ggX3_viewNear_X3_checkWhat
set_option maxRecDepth 20000 in
theorem ggX3_viewNear_X1_book : GoodIn wsX3_viewNear wsX1_book := goodIn_sub (List.forall_mem_cons.mpr ⟨(mwsX3_viewNear_0 _ (List.mem_of_getElem? (i := 20) rfl)), (List.forall_mem_cons.mpr ⟨(mwsX3_viewNear_0 _ (List.mem_of_getElem? (i := 21) rfl)), (tk_mem 7 _ (fun w h => (mwsX3_viewNear_4 _ (tkB_mem 0 7 h))) (fun _ h => absurd h List.not_mem_nil))⟩)⟩) (by decide +kernel)
set_option maxRecDepth 20000 in
theorem gX3_viewNear_X1_book : GoodIn wsX3_viewNear (wsV RX3 165 RX1 yX1_book wsX1_book) := goodIn_app (goodIn_sub (tk_mem 4 _ (fun w h => (mwsX3_viewNear_0 _ (tkB_mem 16 4 h))) (fun _ h => absurd h List.not_mem_nil)) (by decide +kernel)) ggX3_viewNear_X1_book
set_option maxRecDepth 20000 in
theorem ggX3_viewNear_X1_start : GoodIn wsX3_viewNear wsX1_start := goodIn_sub (List.forall_mem_cons.mpr ⟨(mwsX3_viewNear_1 _ (List.mem_of_getElem? (i := 1) rfl)), (List.forall_mem_cons.mpr ⟨(mwsX3_viewNear_0 _ (List.mem_of_getElem? (i := 21) rfl)), (tk_mem 13 _ (fun w h => (mwsX3_viewNear_1 _ (tkB_mem 2 13 h))) (tk_mem 7 _ (fun w h => (mwsX3_viewNear_4 _ (tkB_mem 0 7 h))) (tk_mem 7 _ (fun w h => (mwsX3_viewNear_5 _ (tkB_mem 0 7 h))) (fun _ h => absurd h List.not_mem_nil))))⟩)⟩) (by decide +kernel)
set_option maxRecDepth 20000 in
theorem gX3_viewNear_X1_start : GoodIn wsX3_viewNear (wsV RX3 174 RX1 yX1_start wsX1_start) := goodIn_app (goodIn_sub (List.forall_mem_cons.mpr ⟨(mwsX3_viewNear_0 _ (List.mem_of_getElem? (i := 22) rfl)), (List.forall_mem_cons.mpr ⟨(mwsX3_viewNear_0 _ (List.mem_of_getElem? (i := 23) rfl)), (List.forall_mem_cons.mpr ⟨(mwsX3_viewNear_1 _ (List.mem_of_getElem? (i := 0) rfl)), (List.forall_mem_cons.mpr ⟨(mwsX3_viewNear_0 _ (List.mem_of_getElem? (i := 19) rfl)), (fun _ h => absurd h List.not_mem_nil)⟩)⟩)⟩)⟩) (by decide +kernel)) ggX3_viewNear_X1_start
set_option maxRecDepth 20000 in
theorem ggX3_viewNear_X1_end : GoodIn wsX3_viewNear wsX1_end := goodIn_sub (List.forall_mem_cons.mpr ⟨(mwsX3_viewNear_1 _ (List.mem_of_getElem? (i := 18) rfl)), (List.forall_mem_cons.mpr ⟨(mwsX3_viewNear_0 _ (List.mem_of_getElem? (i := 21) rfl)), (List.forall_mem_cons.mpr ⟨(mwsX3_viewNear_1 _ (List.mem_of_getElem? (i := 19) rfl)), (tk_mem 12 _ (fun w h => (mwsX3_viewNear_1 _ (tkB_mem 3 12 h))) (tk_mem 7 _ (fun w h => (mwsX3_viewNear_4 _ (tkB_mem 0 7 h))) (tk_mem 7 _ (fun w h => (mwsX3_viewNear_5 _ (tkB_mem 0 7 h))) (fun _ h => absurd h List.not_mem_nil))))⟩)⟩)⟩) (by decide +kernel)
set_option maxRecDepth 20000 in
theorem gX3_viewNear_X1_end : GoodIn wsX3_viewNear (wsV RX3 171 RX1 yX1_end wsX1_end) := goodIn_app (goodIn_sub (List.forall_mem_cons.mpr ⟨(mwsX3_viewNear_1 _ (List.mem_of_getElem? (i := 15) rfl)), (List.forall_mem_cons.mpr ⟨(mwsX3_viewNear_1 _ (List.mem_of_getElem? (i := 16) rfl)), (List.forall_mem_cons.mpr ⟨(mwsX3_viewNear_1 _ (List.mem_of_getElem? (i := 17) rfl)), (List.forall_mem_cons.mpr ⟨(mwsX3_viewNear_0 _ (List.mem_of_getElem? (i := 19) rfl)), (fun _ h => absurd h List.not_mem_nil)⟩)⟩)⟩)⟩) (by decide +kernel)) ggX3_viewNear_X1_end
set_option maxRecDepth 20000 in
theorem ggX3_viewNear_X0_closest : GoodIn wsX3_viewNear wsX0_closest := goodIn_sub (List.forall_mem_cons.mpr ⟨(mwsX3_viewNear_1 _ (List.mem_of_getElem? (i := 23) rfl)), (tk_mem 10 _ (fun w h => (mwsX3_viewNear_2 _ (tkB_mem 0 10 h))) (List.forall_mem_cons.mpr ⟨(mwsX3_viewNear_1 _ (List.mem_of_getElem? (i := 6) rfl)), (List.forall_mem_cons.mpr ⟨(mwsX3_viewNear_2 _ (List.mem_of_getElem? (i := 10) rfl)), (tk_mem 5 _ (fun w h => (mwsX3_viewNear_1 _ (tkB_mem 10 5 h))) (List.forall_mem_cons.mpr ⟨(mwsX3_viewNear_2 _ (List.mem_of_getElem? (i := 11) rfl)), (List.forall_mem_cons.mpr ⟨(mwsX3_viewNear_1 _ (List.mem_of_getElem? (i := 4) rfl)), (List.forall_mem_cons.mpr ⟨(mwsX3_viewNear_1 _ (List.mem_of_getElem? (i := 5) rfl)), (List.forall_mem_cons.mpr ⟨(mwsX3_viewNear_1 _ (List.mem_of_getElem? (i := 7) rfl)), (List.forall_mem_cons.mpr ⟨(mwsX3_viewNear_1 _ (List.mem_of_getElem? (i := 8) rfl)), (List.forall_mem_cons.mpr ⟨(mwsX3_viewNear_1 _ (List.mem_of_getElem? (i := 9) rfl)), (tk_mem 12 _ (fun w h => (mwsX3_viewNear_2 _ (tkB_mem 12 12 h))) (tk_mem 7 _ (fun w h => (mwsX3_viewNear_5 _ (tkB_mem 0 7 h))) (fun _ h => absurd h List.not_mem_nil)))⟩)⟩)⟩)⟩)⟩)⟩))⟩)⟩))⟩) (by decide +kernel)
set_option maxRecDepth 20000 in
theorem gX3_viewNear_X0_closest : GoodIn wsX3_viewNear (wsV RX3 225 RX0 yX0_closest wsX0_closest) := goodIn_app (goodIn_sub (List.forall_mem_cons.mpr ⟨(mwsX3_viewNear_1 _ (List.mem_of_getElem? (i := 20) rfl)), (List.forall_mem_cons.mpr ⟨(mwsX3_viewNear_1 _ (List.mem_of_getElem? (i := 21) rfl)), (List.forall_mem_cons.mpr ⟨(mwsX3_viewNear_1 _ (List.mem_of_getElem? (i := 22) rfl)), (List.forall_mem_cons.mpr ⟨(mwsX3_viewNear_1 _ (List.mem_of_getElem? (i := 6) rfl)), (fun _ h => absurd h List.not_mem_nil)⟩)⟩)⟩)⟩) (by decide +kernel)) ggX3_viewNear_X0_closest
theorem adX3_viewNear_0 : fd_rows (cX3_viewNear.data.toList.drop 0) 0 [(0, some (.aload_n 0), 1), (1, some (.iload_n 1), 1), (2, some (.invokevirtual 158), 3), (5, some (.astore 4), 2), (7, some (.iload_n 2), 1), (8, some (.invokestatic 51), 3), (11, some (.iload_n 3), 1), (12, some (.iconst 3), 1), (13, some (.invokestatic 210), 3), (16, some (.aload 4), 2), (18, some (.invokevirtual 165), 3), (21, some (.iload_n 2), 1), (22, some (.iload_n 3), 1), (23, some (.aload 4), 2), (25, some (.invokevirtual 174), 3), (28, some (.aload 4), 2)] = true := by decide +kernel
theorem adX3_viewNear_1 : fd_rows (cX3_viewNear.data.toList.drop 30) 30 [(30, some (.invokevirtual 171), 3), (33, some (.invokevirtual 225), 3), (36, some (.ireturn), 1)] = true := by decide +kernel
theorem dX3_viewNear_0 : decode cX3_viewNear 0 = .ok (.aload_n 0, 1) := fd_get adX3_viewNear_0 (k := 0) rfl
theorem dX3_viewNear_1 : decode cX3_viewNear 1 = .ok (.iload_n 1, 1) := fd_get adX3_viewNear_0 (k := 1) rfl
theorem dX3_viewNear_2 : decode cX3_viewNear 2 = .ok (.invokevirtual 158, 3) := fd_get adX3_viewNear_0 (k := 2) rfl
theorem dX3_viewNear_5 : decode cX3_viewNear 5 = .ok (.astore 4, 2) := fd_get adX3_viewNear_0 (k := 3) rfl
theorem dX3_viewNear_7 : decode cX3_viewNear 7 = .ok (.iload_n 2, 1) := fd_get adX3_viewNear_0 (k := 4) rfl
theorem dX3_viewNear_8 : decode cX3_viewNear 8 = .ok (.invokestatic 51, 3) := fd_get adX3_viewNear_0 (k := 5) rfl
theorem dX3_viewNear_11 : decode cX3_viewNear 11 = .ok (.iload_n 3, 1) := fd_get adX3_viewNear_0 (k := 6) rfl
theorem dX3_viewNear_12 : decode cX3_viewNear 12 = .ok (.iconst 3, 1) := fd_get adX3_viewNear_0 (k := 7) rfl
theorem dX3_viewNear_13 : decode cX3_viewNear 13 = .ok (.invokestatic 210, 3) := fd_get adX3_viewNear_0 (k := 8) rfl
theorem dX3_viewNear_16 : decode cX3_viewNear 16 = .ok (.aload 4, 2) := fd_get adX3_viewNear_0 (k := 9) rfl
theorem dX3_viewNear_18 : decode cX3_viewNear 18 = .ok (.invokevirtual 165, 3) := fd_get adX3_viewNear_0 (k := 10) rfl
theorem dX3_viewNear_21 : decode cX3_viewNear 21 = .ok (.iload_n 2, 1) := fd_get adX3_viewNear_0 (k := 11) rfl
theorem dX3_viewNear_22 : decode cX3_viewNear 22 = .ok (.iload_n 3, 1) := fd_get adX3_viewNear_0 (k := 12) rfl
theorem dX3_viewNear_23 : decode cX3_viewNear 23 = .ok (.aload 4, 2) := fd_get adX3_viewNear_0 (k := 13) rfl
theorem dX3_viewNear_25 : decode cX3_viewNear 25 = .ok (.invokevirtual 174, 3) := fd_get adX3_viewNear_0 (k := 14) rfl
theorem dX3_viewNear_28 : decode cX3_viewNear 28 = .ok (.aload 4, 2) := fd_get adX3_viewNear_0 (k := 15) rfl
theorem dX3_viewNear_30 : decode cX3_viewNear 30 = .ok (.invokevirtual 171, 3) := fd_get adX3_viewNear_1 (k := 0) rfl
theorem dX3_viewNear_33 : decode cX3_viewNear 33 = .ok (.invokevirtual 225, 3) := fd_get adX3_viewNear_1 (k := 1) rfl
theorem dX3_viewNear_36 : decode cX3_viewNear 36 = .ok (.ireturn, 1) := fd_get adX3_viewNear_1 (k := 2) rfl
theorem mwsX3_viewRow_0 : ∀ w ∈ wsX3_viewRow_r1, w ∈ wsX3_viewRow := fun w h => (List.mem_cons_of_mem _ (List.mem_append_left _ (List.mem_append_left _ (List.mem_append_left _ (List.mem_append_left _ (List.mem_append_left _ (List.mem_append_left _ (List.mem_append_left _ h))))))))
theorem mwsX3_viewRow_1 : ∀ w ∈ wsX3_viewRow_r2, w ∈ wsX3_viewRow := fun w h => (List.mem_cons_of_mem _ (List.mem_append_left _ (List.mem_append_left _ (List.mem_append_left _ (List.mem_append_left _ (List.mem_append_left _ (List.mem_append_left _ (List.mem_append_right _ (List.mem_append_left _ h)))))))))
theorem mwsX3_viewRow_2 : ∀ w ∈ wsX3_viewRow_r3, w ∈ wsX3_viewRow := fun w h => (List.mem_cons_of_mem _ (List.mem_append_left _ (List.mem_append_left _ (List.mem_append_left _ (List.mem_append_left _ (List.mem_append_left _ (List.mem_append_left _ (List.mem_append_right _ (List.mem_append_right _ (List.mem_append_left _ h))))))))))
theorem mwsX3_viewRow_3 : ∀ w ∈ wsX3_viewRow_r4, w ∈ wsX3_viewRow := fun w h => (List.mem_cons_of_mem _ (List.mem_append_left _ (List.mem_append_left _ (List.mem_append_left _ (List.mem_append_left _ (List.mem_append_left _ (List.mem_append_left _ (List.mem_append_right _ (List.mem_append_right _ (List.mem_append_right _ (List.mem_append_left _ h)))))))))))
theorem mwsX3_viewRow_4 : ∀ w ∈ wsX3_viewRow_r5, w ∈ wsX3_viewRow := fun w h => (List.mem_cons_of_mem _ (List.mem_append_left _ (List.mem_append_left _ (List.mem_append_left _ (List.mem_append_left _ (List.mem_append_left _ (List.mem_append_left _ (List.mem_append_right _ (List.mem_append_right _ (List.mem_append_right _ (List.mem_append_right _ (List.mem_append_left _ h))))))))))))
theorem mwsX3_viewRow_5 : ∀ w ∈ wsX3_viewRow_r6, w ∈ wsX3_viewRow := fun w h => (List.mem_cons_of_mem _ (List.mem_append_left _ (List.mem_append_left _ (List.mem_append_left _ (List.mem_append_left _ (List.mem_append_left _ (List.mem_append_left _ (List.mem_append_right _ (List.mem_append_right _ (List.mem_append_right _ (List.mem_append_right _ (List.mem_append_right _ (List.mem_append_left _ h)))))))))))))
theorem mwsX3_viewRow_6 : ∀ w ∈ wsX3_viewRow_r7, w ∈ wsX3_viewRow := fun w h => (List.mem_cons_of_mem _ (List.mem_append_left _ (List.mem_append_left _ (List.mem_append_left _ (List.mem_append_left _ (List.mem_append_left _ (List.mem_append_left _ (List.mem_append_right _ (List.mem_append_right _ (List.mem_append_right _ (List.mem_append_right _ (List.mem_append_right _ (List.mem_append_right _ (List.mem_append_left _ h))))))))))))))
theorem mwsX3_viewRow_7 : ∀ w ∈ wsX3_viewRow_r8, w ∈ wsX3_viewRow := fun w h => (List.mem_cons_of_mem _ (List.mem_append_left _ (List.mem_append_left _ (List.mem_append_left _ (List.mem_append_left _ (List.mem_append_left _ (List.mem_append_left _ (List.mem_append_right _ (List.mem_append_right _ (List.mem_append_right _ (List.mem_append_right _ (List.mem_append_right _ (List.mem_append_right _ (List.mem_append_right _ (List.mem_append_left _ h)))))))))))))))
theorem mwsX3_viewRow_8 : ∀ w ∈ wsX3_viewRow_r9, w ∈ wsX3_viewRow := fun w h => (List.mem_cons_of_mem _ (List.mem_append_left _ (List.mem_append_left _ (List.mem_append_left _ (List.mem_append_left _ (List.mem_append_left _ (List.mem_append_left _ (List.mem_append_right _ (List.mem_append_right _ (List.mem_append_right _ (List.mem_append_right _ (List.mem_append_right _ (List.mem_append_right _ (List.mem_append_right _ (List.mem_append_right _ (List.mem_append_left _ h))))))))))))))))
theorem mwsX3_viewRow_9 : ∀ w ∈ wsX3_viewRow_r10, w ∈ wsX3_viewRow := fun w h => (List.mem_cons_of_mem _ (List.mem_append_left _ (List.mem_append_left _ (List.mem_append_left _ (List.mem_append_left _ (List.mem_append_left _ (List.mem_append_left _ (List.mem_append_right _ (List.mem_append_right _ (List.mem_append_right _ (List.mem_append_right _ (List.mem_append_right _ (List.mem_append_right _ (List.mem_append_right _ (List.mem_append_right _ (List.mem_append_right _ (List.mem_append_left _ h)))))))))))))))))
theorem mwsX3_viewRow_10 : ∀ w ∈ wsX3_viewRow_r11, w ∈ wsX3_viewRow := fun w h => (List.mem_cons_of_mem _ (List.mem_append_left _ (List.mem_append_left _ (List.mem_append_left _ (List.mem_append_left _ (List.mem_append_left _ (List.mem_append_left _ (List.mem_append_right _ (List.mem_append_right _ (List.mem_append_right _ (List.mem_append_right _ (List.mem_append_right _ (List.mem_append_right _ (List.mem_append_right _ (List.mem_append_right _ (List.mem_append_right _ (List.mem_append_right _ (List.mem_append_left _ h))))))))))))))))))
theorem mwsX3_viewRow_11 : ∀ w ∈ wsX3_viewRow_r12, w ∈ wsX3_viewRow := fun w h => (List.mem_cons_of_mem _ (List.mem_append_left _ (List.mem_append_left _ (List.mem_append_left _ (List.mem_append_left _ (List.mem_append_left _ (List.mem_append_left _ (List.mem_append_right _ (List.mem_append_right _ (List.mem_append_right _ (List.mem_append_right _ (List.mem_append_right _ (List.mem_append_right _ (List.mem_append_right _ (List.mem_append_right _ (List.mem_append_right _ (List.mem_append_right _ (List.mem_append_right _ (List.mem_append_left _ h)))))))))))))))))))
theorem mwsX3_viewRow_12 : ∀ w ∈ wsX3_viewRow_r13, w ∈ wsX3_viewRow := fun w h => (List.mem_cons_of_mem _ (List.mem_append_left _ (List.mem_append_left _ (List.mem_append_left _ (List.mem_append_left _ (List.mem_append_left _ (List.mem_append_left _ (List.mem_append_right _ (List.mem_append_right _ (List.mem_append_right _ (List.mem_append_right _ (List.mem_append_right _ (List.mem_append_right _ (List.mem_append_right _ (List.mem_append_right _ (List.mem_append_right _ (List.mem_append_right _ (List.mem_append_right _ (List.mem_append_right _ h)))))))))))))))))))
theorem mwsX3_viewRow_13 : ∀ w ∈ wsX30, w ∈ wsX3_viewRow := fun w h => (List.mem_cons_of_mem _ (List.mem_append_left _ (List.mem_append_left _ (List.mem_append_left _ (List.mem_append_left _ (List.mem_append_left _ (List.mem_append_right _ h)))))))
theorem mwsX3_viewRow_14 : ∀ w ∈ wsX10, w ∈ wsX3_viewRow := fun w h => (List.mem_cons_of_mem _ (List.mem_append_left _ (List.mem_append_left _ (List.mem_append_left _ (List.mem_append_left _ (List.mem_append_right _ h))))))
theorem mwsX3_viewRow_15 : ∀ w ∈ wsX00, w ∈ wsX3_viewRow := fun w h => (List.mem_cons_of_mem _ (List.mem_append_left _ (List.mem_append_left _ (List.mem_append_left _ (List.mem_append_right _ h)))))
theorem mwsX3_viewRow_16 : ∀ w ∈ wsJ40, w ∈ wsX3_viewRow := fun w h => (List.mem_cons_of_mem _ (List.mem_append_left _ (List.mem_append_left _ (List.mem_append_right _ h))))
theorem mwsX3_viewRow_17 : ∀ w ∈ wsJ00, w ∈ wsX3_viewRow := fun w h => (List.mem_cons_of_mem _ (List.mem_append_left _ (List.mem_append_right _ h)))
set_option maxRecDepth 20000 in
theorem ggX3_viewRow_X3_viewAt : GoodIn wsX3_viewRow wsX3_viewAt := goodIn_ca (goodIn_sub (tk_mem 4 _ (fun w h => (mwsX3_viewRow_0 _ (tkB_mem 4 4 h))) (tk_mem 6 _ (fun w h => (mwsX3_viewRow_13 _ (tkB_mem 0 6 h))) (fun _ h => absurd h List.not_mem_nil))) (by decide +kernel)) (goodIn_sub (fun _ h => List.mem_cons_of_mem _ (List.mem_append_right _ h)) (by decide +kernel))
set_option maxRecDepth 20000 in
theorem gX3_viewRow_X3_viewAt : GoodIn wsX3_viewRow (wsV RX3 158 RX3 yX3_viewAt wsX3_viewAt) := goodIn_app (goodIn_sub (tk_mem 4 _ (fun w h => (mwsX3_viewRow_0 _ (tkB_mem 0 4 h))) (fun _ h => absurd h List.not_mem_nil)) (by decide +kernel)) ggX3_viewRow_X3_viewAt
set_option maxRecDepth 20000 in
theorem ggX3_viewRow_X1_book : GoodIn wsX3_viewRow wsX1_book := goodIn_sub (List.forall_mem_cons.mpr ⟨(mwsX3_viewRow_0 _ (List.mem_of_getElem? (i := 12) rfl)), (List.forall_mem_cons.mpr ⟨(mwsX3_viewRow_0 _ (List.mem_of_getElem? (i := 13) rfl)), (tk_mem 7 _ (fun w h => (mwsX3_viewRow_14 _ (tkB_mem 0 7 h))) (fun _ h => absurd h List.not_mem_nil))⟩)⟩) (by decide +kernel)
set_option maxRecDepth 20000 in
theorem gX3_viewRow_X1_book : GoodIn wsX3_viewRow (wsV RX3 165 RX1 yX1_book wsX1_book) := goodIn_app (goodIn_sub (tk_mem 4 _ (fun w h => (mwsX3_viewRow_0 _ (tkB_mem 8 4 h))) (fun _ h => absurd h List.not_mem_nil)) (by decide +kernel)) ggX3_viewRow_X1_book
set_option maxRecDepth 20000 in
theorem ggX3_viewRow_X1_start : GoodIn wsX3_viewRow wsX1_start := goodIn_sub (List.forall_mem_cons.mpr ⟨(mwsX3_viewRow_0 _ (List.mem_of_getElem? (i := 17) rfl)), (List.forall_mem_cons.mpr ⟨(mwsX3_viewRow_0 _ (List.mem_of_getElem? (i := 13) rfl)), (tk_mem 6 _ (fun w h => (mwsX3_viewRow_0 _ (tkB_mem 18 6 h))) (tk_mem 7 _ (fun w h => (mwsX3_viewRow_1 _ (tkB_mem 0 7 h))) (tk_mem 7 _ (fun w h => (mwsX3_viewRow_14 _ (tkB_mem 0 7 h))) (tk_mem 7 _ (fun w h => (mwsX3_viewRow_15 _ (tkB_mem 0 7 h))) (fun _ h => absurd h List.not_mem_nil)))))⟩)⟩) (by decide +kernel)
set_option maxRecDepth 20000 in
theorem gX3_viewRow_X1_start : GoodIn wsX3_viewRow (wsV RX3 174 RX1 yX1_start wsX1_start) := goodIn_app (goodIn_sub (List.forall_mem_cons.mpr ⟨(mwsX3_viewRow_0 _ (List.mem_of_getElem? (i := 14) rfl)), (List.forall_mem_cons.mpr ⟨(mwsX3_viewRow_0 _ (List.mem_of_getElem? (i := 15) rfl)), (List.forall_mem_cons.mpr ⟨(mwsX3_viewRow_0 _ (List.mem_of_getElem? (i := 16) rfl)), (List.forall_mem_cons.mpr ⟨(mwsX3_viewRow_0 _ (List.mem_of_getElem? (i := 11) rfl)), (fun _ h => absurd h List.not_mem_nil)⟩)⟩)⟩)⟩) (by decide +kernel)) ggX3_viewRow_X1_start
set_option maxRecDepth 20000 in
theorem ggX3_viewRow_X1_end : GoodIn wsX3_viewRow wsX1_end := goodIn_sub (List.forall_mem_cons.mpr ⟨(mwsX3_viewRow_1 _ (List.mem_of_getElem? (i := 10) rfl)), (List.forall_mem_cons.mpr ⟨(mwsX3_viewRow_0 _ (List.mem_of_getElem? (i := 13) rfl)), (List.forall_mem_cons.mpr ⟨(mwsX3_viewRow_1 _ (List.mem_of_getElem? (i := 11) rfl)), (tk_mem 5 _ (fun w h => (mwsX3_viewRow_0 _ (tkB_mem 19 5 h))) (tk_mem 7 _ (fun w h => (mwsX3_viewRow_1 _ (tkB_mem 0 7 h))) (tk_mem 7 _ (fun w h => (mwsX3_viewRow_14 _ (tkB_mem 0 7 h))) (tk_mem 7 _ (fun w h => (mwsX3_viewRow_15 _ (tkB_mem 0 7 h))) (fun _ h => absurd h List.not_mem_nil)))))⟩)⟩)⟩) (by decide +kernel)
set_option maxRecDepth 20000 in
theorem gX3_viewRow_X1_end : GoodIn wsX3_viewRow (wsV RX3 171 RX1 yX1_end wsX1_end) := goodIn_app (goodIn_sub (List.forall_mem_cons.mpr ⟨(mwsX3_viewRow_1 _ (List.mem_of_getElem? (i := 7) rfl)), (List.forall_mem_cons.mpr ⟨(mwsX3_viewRow_1 _ (List.mem_of_getElem? (i := 8) rfl)), (List.forall_mem_cons.mpr ⟨(mwsX3_viewRow_1 _ (List.mem_of_getElem? (i := 9) rfl)), (List.forall_mem_cons.mpr ⟨(mwsX3_viewRow_0 _ (List.mem_of_getElem? (i := 11) rfl)), (fun _ h => absurd h List.not_mem_nil)⟩)⟩)⟩)⟩) (by decide +kernel)) ggX3_viewRow_X1_end
set_option maxRecDepth 20000 in
theorem ggX3_viewRow_X0_text : GoodIn wsX3_viewRow wsX0_text := goodIn_sub (tk_mem 9 _ (fun w h => (mwsX3_viewRow_1 _ (tkB_mem 15 9 h))) (tk_mem 24 _ (fun w h => (mwsX3_viewRow_2 _ (tkB_mem 0 24 h))) (tk_mem 24 _ (fun w h => (mwsX3_viewRow_3 _ (tkB_mem 0 24 h))) (tk_mem 24 _ (fun w h => (mwsX3_viewRow_4 _ (tkB_mem 0 24 h))) (tk_mem 24 _ (fun w h => (mwsX3_viewRow_5 _ (tkB_mem 0 24 h))) (tk_mem 24 _ (fun w h => (mwsX3_viewRow_6 _ (tkB_mem 0 24 h))) (tk_mem 24 _ (fun w h => (mwsX3_viewRow_7 _ (tkB_mem 0 24 h))) (tk_mem 24 _ (fun w h => (mwsX3_viewRow_8 _ (tkB_mem 0 24 h))) (tk_mem 8 _ (fun w h => (mwsX3_viewRow_9 _ (tkB_mem 0 8 h))) (List.forall_mem_cons.mpr ⟨(mwsX3_viewRow_0 _ (List.mem_of_getElem? (i := 22) rfl)), (List.forall_mem_cons.mpr ⟨(mwsX3_viewRow_9 _ (List.mem_of_getElem? (i := 8) rfl)), (List.forall_mem_cons.mpr ⟨(mwsX3_viewRow_1 _ (List.mem_of_getElem? (i := 1) rfl)), (tk_mem 4 _ (fun w h => (mwsX3_viewRow_9 _ (tkB_mem 9 4 h))) (List.forall_mem_cons.mpr ⟨(mwsX3_viewRow_1 _ (List.mem_of_getElem? (i := 0) rfl)), (tk_mem 11 _ (fun w h => (mwsX3_viewRow_9 _ (tkB_mem 13 11 h))) (tk_mem 24 _ (fun w h => (mwsX3_viewRow_10 _ (tkB_mem 0 24 h))) (tk_mem 24 _ (fun w h => (mwsX3_viewRow_11 _ (tkB_mem 0 24 h))) (tk_mem 23 _ (fun w h => (mwsX3_viewRow_12 _ (tkB_mem 0 23 h))) (tk_mem 4 _ (fun w h => (mwsX3_viewRow_16 _ (tkB_mem 0 4 h))) (tk_mem 4 _ (fun w h => (mwsX3_viewRow_17 _ (tkB_mem 0 4 h))) (tk_mem 7 _ (fun w h => (mwsX3_viewRow_15 _ (tkB_mem 0 7 h))) (fun _ h => absurd h List.not_mem_nil))))))))⟩))⟩)⟩)⟩)))))))))) (by decide +kernel)
set_option maxRecDepth 20000 in
theorem gX3_viewRow_X0_text : GoodIn wsX3_viewRow (wsV RX3 234 RX0 yX0_text wsX0_text) := goodIn_app (goodIn_sub (List.forall_mem_cons.mpr ⟨(mwsX3_viewRow_1 _ (List.mem_of_getElem? (i := 12) rfl)), (List.forall_mem_cons.mpr ⟨(mwsX3_viewRow_1 _ (List.mem_of_getElem? (i := 13) rfl)), (List.forall_mem_cons.mpr ⟨(mwsX3_viewRow_1 _ (List.mem_of_getElem? (i := 14) rfl)), (List.forall_mem_cons.mpr ⟨(mwsX3_viewRow_0 _ (List.mem_of_getElem? (i := 22) rfl)), (fun _ h => absurd h List.not_mem_nil)⟩)⟩)⟩)⟩) (by decide +kernel)) ggX3_viewRow_X0_text
theorem adX3_viewRow_0 : fd_rows (cX3_viewRow.data.toList.drop 0) 0 [(0, some (.aload_n 0), 1), (1, some (.iload_n 1), 1), (2, some (.invokevirtual 158), 3), (5, some (.astore_n 2), 1), (6, some (.aload_n 2), 1), (7, some (.invokevirtual 165), 3), (10, some (.aload_n 2), 1), (11, some (.invokevirtual 174), 3), (14, some (.aload_n 2), 1), (15, some (.invokevirtual 171), 3), (18, some (.invokevirtual 234), 3), (21, some (.areturn), 1)] = true := by decide +kernel
theorem dX3_viewRow_0 : decode cX3_viewRow 0 = .ok (.aload_n 0, 1) := fd_get adX3_viewRow_0 (k := 0) rfl
theorem dX3_viewRow_1 : decode cX3_viewRow 1 = .ok (.iload_n 1, 1) := fd_get adX3_viewRow_0 (k := 1) rfl
theorem dX3_viewRow_2 : decode cX3_viewRow 2 = .ok (.invokevirtual 158, 3) := fd_get adX3_viewRow_0 (k := 2) rfl
theorem dX3_viewRow_5 : decode cX3_viewRow 5 = .ok (.astore_n 2, 1) := fd_get adX3_viewRow_0 (k := 3) rfl
theorem dX3_viewRow_6 : decode cX3_viewRow 6 = .ok (.aload_n 2, 1) := fd_get adX3_viewRow_0 (k := 4) rfl
theorem dX3_viewRow_7 : decode cX3_viewRow 7 = .ok (.invokevirtual 165, 3) := fd_get adX3_viewRow_0 (k := 5) rfl
theorem dX3_viewRow_10 : decode cX3_viewRow 10 = .ok (.aload_n 2, 1) := fd_get adX3_viewRow_0 (k := 6) rfl
theorem dX3_viewRow_11 : decode cX3_viewRow 11 = .ok (.invokevirtual 174, 3) := fd_get adX3_viewRow_0 (k := 7) rfl
theorem dX3_viewRow_14 : decode cX3_viewRow 14 = .ok (.aload_n 2, 1) := fd_get adX3_viewRow_0 (k := 8) rfl
theorem dX3_viewRow_15 : decode cX3_viewRow 15 = .ok (.invokevirtual 171, 3) := fd_get adX3_viewRow_0 (k := 9) rfl
theorem dX3_viewRow_18 : decode cX3_viewRow 18 = .ok (.invokevirtual 234, 3) := fd_get adX3_viewRow_0 (k := 10) rfl
theorem dX3_viewRow_21 : decode cX3_viewRow 21 = .ok (.areturn, 1) := fd_get adX3_viewRow_0 (k := 11) rfl
theorem mwsX3_ledger_0 : ∀ w ∈ wsX3_ledger_r1, w ∈ wsX3_ledger := fun w h => (List.mem_cons_of_mem _ (List.mem_append_left _ (List.mem_append_left _ (List.mem_append_left _ (List.mem_append_left _ (List.mem_append_left _ (List.mem_append_left _ h)))))))
theorem mwsX3_ledger_1 : ∀ w ∈ wsX3_ledger_r2, w ∈ wsX3_ledger := fun w h => (List.mem_cons_of_mem _ (List.mem_append_left _ (List.mem_append_left _ (List.mem_append_left _ (List.mem_append_left _ (List.mem_append_left _ (List.mem_append_right _ (List.mem_append_left _ h))))))))
theorem mwsX3_ledger_2 : ∀ w ∈ wsX3_ledger_r3, w ∈ wsX3_ledger := fun w h => (List.mem_cons_of_mem _ (List.mem_append_left _ (List.mem_append_left _ (List.mem_append_left _ (List.mem_append_left _ (List.mem_append_left _ (List.mem_append_right _ (List.mem_append_right _ h))))))))
theorem mwsX3_ledger_3 : ∀ w ∈ wsX30, w ∈ wsX3_ledger := fun w h => (List.mem_cons_of_mem _ (List.mem_append_left _ (List.mem_append_left _ (List.mem_append_left _ (List.mem_append_left _ (List.mem_append_right _ h))))))
theorem mwsX3_ledger_4 : ∀ w ∈ wsX20, w ∈ wsX3_ledger := fun w h => (List.mem_cons_of_mem _ (List.mem_append_left _ (List.mem_append_left _ (List.mem_append_left _ (List.mem_append_right _ h)))))
theorem mwsX3_ledger_5 : ∀ w ∈ wsX10, w ∈ wsX3_ledger := fun w h => (List.mem_cons_of_mem _ (List.mem_append_left _ (List.mem_append_left _ (List.mem_append_right _ h))))
theorem mwsX3_ledger_6 : ∀ w ∈ wsX00, w ∈ wsX3_ledger := fun w h => (List.mem_cons_of_mem _ (List.mem_append_left _ (List.mem_append_right _ h)))
set_option maxRecDepth 20000 in
theorem ggX3_ledger_X3_checkWhat : GoodIn wsX3_ledger wsX3_checkWhat := goodIn_ca (goodIn_sub (List.forall_mem_cons.mpr ⟨(mwsX3_ledger_0 _ (List.mem_of_getElem? (i := 7) rfl)), (List.forall_mem_cons.mpr ⟨(mwsX3_ledger_0 _ (List.mem_of_getElem? (i := 8) rfl)), (List.forall_mem_cons.mpr ⟨(mwsX3_ledger_0 _ (List.mem_of_getElem? (i := 9) rfl)), (fun _ h => absurd h List.not_mem_nil)⟩)⟩)⟩) (by decide +kernel)) (goodIn_sub (fun _ h => List.mem_cons_of_mem _ (List.mem_append_right _ h)) (by decide +kernel))
set_option maxRecDepth 20000 in
theorem gX3_ledger_X3_checkWhat : GoodIn wsX3_ledger (va_wsS RX3 210 yX3_checkWhat wsX3_checkWhat) := goodIn_app (goodIn_sub (List.forall_mem_cons.mpr ⟨(mwsX3_ledger_0 _ (List.mem_of_getElem? (i := 4) rfl)), (List.forall_mem_cons.mpr ⟨(mwsX3_ledger_0 _ (List.mem_of_getElem? (i := 5) rfl)), (List.forall_mem_cons.mpr ⟨(mwsX3_ledger_0 _ (List.mem_of_getElem? (i := 6) rfl)), (fun _ h => absurd h List.not_mem_nil)⟩)⟩)⟩) (by decide +kernel)) ggX3_ledger_X3_checkWhat
set_option maxRecDepth 20000 in
theorem ggX3_ledger_X3_openViews : GoodIn wsX3_ledger wsX3_openViews := goodIn_sub (List.forall_mem_cons.mpr ⟨(mwsX3_ledger_0 _ (List.mem_of_getElem? (i := 13) rfl)), (List.forall_mem_cons.mpr ⟨(mwsX3_ledger_0 _ (List.mem_of_getElem? (i := 14) rfl)), (tk_mem 6 _ (fun w h => (mwsX3_ledger_3 _ (tkB_mem 0 6 h))) (fun _ h => absurd h List.not_mem_nil))⟩)⟩) (by decide +kernel)
set_option maxRecDepth 20000 in
theorem gX3_ledger_X3_openViews : GoodIn wsX3_ledger (wsV RX3 257 RX3 yX3_openViews wsX3_openViews) := goodIn_app (goodIn_sub (List.forall_mem_cons.mpr ⟨(mwsX3_ledger_0 _ (List.mem_of_getElem? (i := 10) rfl)), (List.forall_mem_cons.mpr ⟨(mwsX3_ledger_0 _ (List.mem_of_getElem? (i := 11) rfl)), (List.forall_mem_cons.mpr ⟨(mwsX3_ledger_0 _ (List.mem_of_getElem? (i := 12) rfl)), (List.forall_mem_cons.mpr ⟨(mwsX3_ledger_0 _ (List.mem_of_getElem? (i := 6) rfl)), (fun _ h => absurd h List.not_mem_nil)⟩)⟩)⟩)⟩) (by decide +kernel)) ggX3_ledger_X3_openViews
set_option maxRecDepth 20000 in
theorem ggX3_ledger_X2_book : GoodIn wsX3_ledger wsX2_book := goodIn_sub (tk_mem 5 _ (fun w h => (mwsX3_ledger_0 _ (tkB_mem 19 5 h))) (List.forall_mem_cons.mpr ⟨(mwsX3_ledger_1 _ (List.mem_of_getElem? (i := 0) rfl)), (List.forall_mem_cons.mpr ⟨(mwsX3_ledger_1 _ (List.mem_of_getElem? (i := 1) rfl)), (List.forall_mem_cons.mpr ⟨(mwsX3_ledger_1 _ (List.mem_of_getElem? (i := 2) rfl)), (tk_mem 5 _ (fun w h => (mwsX3_ledger_4 _ (tkB_mem 0 5 h))) (tk_mem 7 _ (fun w h => (mwsX3_ledger_5 _ (tkB_mem 0 7 h))) (fun _ h => absurd h List.not_mem_nil)))⟩)⟩)⟩)) (by decide +kernel)
set_option maxRecDepth 20000 in
theorem gX3_ledger_X2_book : GoodIn wsX3_ledger (wsV RX3 130 RX2 yX2_book wsX2_book) := goodIn_app (goodIn_sub (tk_mem 4 _ (fun w h => (mwsX3_ledger_0 _ (tkB_mem 15 4 h))) (fun _ h => absurd h List.not_mem_nil)) (by decide +kernel)) ggX3_ledger_X2_book
set_option maxRecDepth 20000 in
theorem ggX3_ledger_X0_number : GoodIn wsX3_ledger wsX0_number := goodIn_sub (List.forall_mem_cons.mpr ⟨(mwsX3_ledger_1 _ (List.mem_of_getElem? (i := 7) rfl)), (List.forall_mem_cons.mpr ⟨(mwsX3_ledger_1 _ (List.mem_of_getElem? (i := 8) rfl)), (tk_mem 7 _ (fun w h => (mwsX3_ledger_6 _ (tkB_mem 0 7 h))) (fun _ h => absurd h List.not_mem_nil))⟩)⟩) (by decide +kernel)
set_option maxRecDepth 20000 in
theorem gX3_ledger_X0_number : GoodIn wsX3_ledger (wsV RX3 242 RX0 yX0_number wsX0_number) := goodIn_app (goodIn_sub (tk_mem 4 _ (fun w h => (mwsX3_ledger_1 _ (tkB_mem 3 4 h))) (fun _ h => absurd h List.not_mem_nil)) (by decide +kernel)) ggX3_ledger_X0_number
set_option maxRecDepth 20000 in
theorem ggX3_ledger_X2_isBroken : GoodIn wsX3_ledger wsX2_isBroken := goodIn_sub (List.forall_mem_cons.mpr ⟨(mwsX3_ledger_1 _ (List.mem_of_getElem? (i := 12) rfl)), (List.forall_mem_cons.mpr ⟨(mwsX3_ledger_1 _ (List.mem_of_getElem? (i := 13) rfl)), (List.forall_mem_cons.mpr ⟨(mwsX3_ledger_1 _ (List.mem_of_getElem? (i := 14) rfl)), (tk_mem 8 _ (fun w h => (mwsX3_ledger_0 _ (tkB_mem 16 8 h))) (List.forall_mem_cons.mpr ⟨(mwsX3_ledger_1 _ (List.mem_of_getElem? (i := 0) rfl)), (List.forall_mem_cons.mpr ⟨(mwsX3_ledger_1 _ (List.mem_of_getElem? (i := 1) rfl)), (List.forall_mem_cons.mpr ⟨(mwsX3_ledger_1 _ (List.mem_of_getElem? (i := 2) rfl)), (List.forall_mem_cons.mpr ⟨(mwsX3_ledger_1 _ (List.mem_of_getElem? (i := 15) rfl)), (List.forall_mem_cons.mpr ⟨(mwsX3_ledger_1 _ (List.mem_of_getElem? (i := 16) rfl)), (List.forall_mem_cons.mpr ⟨(mwsX3_ledger_1 _ (List.mem_of_getElem? (i := 17) rfl)), (List.forall_mem_cons.mpr ⟨(mwsX3_ledger_1 _ (List.mem_of_getElem? (i := 6) rfl)), (List.forall_mem_cons.mpr ⟨(mwsX3_ledger_1 _ (List.mem_of_getElem? (i := 18) rfl)), (List.forall_mem_cons.mpr ⟨(mwsX3_ledger_1 _ (List.mem_of_getElem? (i := 19) rfl)), (tk_mem 5 _ (fun w h => (mwsX3_ledger_4 _ (tkB_mem 0 5 h))) (tk_mem 7 _ (fun w h => (mwsX3_ledger_5 _ (tkB_mem 0 7 h))) (tk_mem 7 _ (fun w h => (mwsX3_ledger_6 _ (tkB_mem 0 7 h))) (fun _ h => absurd h List.not_mem_nil))))⟩)⟩)⟩)⟩)⟩)⟩)⟩)⟩)⟩))⟩)⟩)⟩) (by decide +kernel)
set_option maxRecDepth 20000 in
theorem gX3_ledger_X2_isBroken : GoodIn wsX3_ledger (wsV RX3 260 RX2 yX2_isBroken wsX2_isBroken) := goodIn_app (goodIn_sub (List.forall_mem_cons.mpr ⟨(mwsX3_ledger_1 _ (List.mem_of_getElem? (i := 9) rfl)), (List.forall_mem_cons.mpr ⟨(mwsX3_ledger_1 _ (List.mem_of_getElem? (i := 10) rfl)), (List.forall_mem_cons.mpr ⟨(mwsX3_ledger_1 _ (List.mem_of_getElem? (i := 11) rfl)), (List.forall_mem_cons.mpr ⟨(mwsX3_ledger_0 _ (List.mem_of_getElem? (i := 18) rfl)), (fun _ h => absurd h List.not_mem_nil)⟩)⟩)⟩)⟩) (by decide +kernel)) ggX3_ledger_X2_isBroken
set_option maxRecDepth 20000 in
theorem ggX3_ledger_X2_keyAtHand : GoodIn wsX3_ledger wsX2_keyAtHand := goodIn_sub (List.forall_mem_cons.mpr ⟨(mwsX3_ledger_1 _ (List.mem_of_getElem? (i := 23) rfl)), (List.forall_mem_cons.mpr ⟨(mwsX3_ledger_2 _ (List.mem_of_getElem? (i := 0) rfl)), (List.forall_mem_cons.mpr ⟨(mwsX3_ledger_2 _ (List.mem_of_getElem? (i := 1) rfl)), (List.forall_mem_cons.mpr ⟨(mwsX3_ledger_2 _ (List.mem_of_getElem? (i := 2) rfl)), (List.forall_mem_cons.mpr ⟨(mwsX3_ledger_1 _ (List.mem_of_getElem? (i := 14) rfl)), (tk_mem 8 _ (fun w h => (mwsX3_ledger_0 _ (tkB_mem 16 8 h))) (List.forall_mem_cons.mpr ⟨(mwsX3_ledger_1 _ (List.mem_of_getElem? (i := 0) rfl)), (List.forall_mem_cons.mpr ⟨(mwsX3_ledger_1 _ (List.mem_of_getElem? (i := 1) rfl)), (List.forall_mem_cons.mpr ⟨(mwsX3_ledger_1 _ (List.mem_of_getElem? (i := 2) rfl)), (List.forall_mem_cons.mpr ⟨(mwsX3_ledger_2 _ (List.mem_of_getElem? (i := 3) rfl)), (List.forall_mem_cons.mpr ⟨(mwsX3_ledger_2 _ (List.mem_of_getElem? (i := 4) rfl)), (List.forall_mem_cons.mpr ⟨(mwsX3_ledger_2 _ (List.mem_of_getElem? (i := 5) rfl)), (List.forall_mem_cons.mpr ⟨(mwsX3_ledger_1 _ (List.mem_of_getElem? (i := 6) rfl)), (List.forall_mem_cons.mpr ⟨(mwsX3_ledger_2 _ (List.mem_of_getElem? (i := 6) rfl)), (List.forall_mem_cons.mpr ⟨(mwsX3_ledger_2 _ (List.mem_of_getElem? (i := 7) rfl)), (tk_mem 5 _ (fun w h => (mwsX3_ledger_4 _ (tkB_mem 0 5 h))) (tk_mem 7 _ (fun w h => (mwsX3_ledger_5 _ (tkB_mem 0 7 h))) (tk_mem 7 _ (fun w h => (mwsX3_ledger_6 _ (tkB_mem 0 7 h))) (fun _ h => absurd h List.not_mem_nil))))⟩)⟩)⟩)⟩)⟩)⟩)⟩)⟩)⟩))⟩)⟩)⟩)⟩)⟩) (by decide +kernel)
set_option maxRecDepth 20000 in
theorem gX3_ledger_X2_keyAtHand : GoodIn wsX3_ledger (wsV RX3 187 RX2 yX2_keyAtHand wsX2_keyAtHand) := goodIn_app (goodIn_sub (List.forall_mem_cons.mpr ⟨(mwsX3_ledger_1 _ (List.mem_of_getElem? (i := 20) rfl)), (List.forall_mem_cons.mpr ⟨(mwsX3_ledger_1 _ (List.mem_of_getElem? (i := 21) rfl)), (List.forall_mem_cons.mpr ⟨(mwsX3_ledger_1 _ (List.mem_of_getElem? (i := 22) rfl)), (List.forall_mem_cons.mpr ⟨(mwsX3_ledger_0 _ (List.mem_of_getElem? (i := 18) rfl)), (fun _ h => absurd h List.not_mem_nil)⟩)⟩)⟩)⟩) (by decide +kernel)) ggX3_ledger_X2_keyAtHand
theorem adX3_ledger_0 : fd_rows (cX3_ledger.data.toList.drop 0) 0 [(0, some (.iload_n 1), 1), (1, some (.bipush 6), 2), (3, some (.invokestatic 210), 3), (6, some (.iload_n 1), 1), (7, none, 37), (44, some (.aload_n 0), 1), (45, some (.invokevirtual 257), 3), (48, some (.ireturn), 1), (49, some (.aload_n 0), 1), (50, some (.getfield 126), 3), (53, some (.ifnonnull 9), 3), (56, some (.sipush (-10000)), 3), (59, some (.goto 13), 3), (62, some (.aload_n 0), 1), (63, some (.getfield 126), 3), (66, some (.invokevirtual 130), 3)] = true := by decide +kernel
theorem adX3_ledger_1 : fd_rows (cX3_ledger.data.toList.drop 69) 69 [(69, some (.invokevirtual 242), 3), (72, some (.ireturn), 1), (73, some (.aload_n 0), 1), (74, some (.getfield 126), 3), (77, some (.ifnull 17), 3), (80, some (.aload_n 0), 1), (81, some (.getfield 126), 3), (84, some (.invokevirtual 260), 3), (87, some (.ifCond .eq 7), 3), (90, some (.iconst 1), 1), (91, some (.goto 4), 3), (94, some (.iconst 0), 1), (95, some (.ireturn), 1), (96, some (.aload_n 0), 1), (97, some (.getfield 126), 3), (100, some (.ifnonnull 9), 3)] = true := by decide +kernel
theorem adX3_ledger_2 : fd_rows (cX3_ledger.data.toList.drop 103) 103 [(103, some (.sipush (-10000)), 3), (106, some (.goto 10), 3), (109, some (.aload_n 0), 1), (110, some (.getfield 126), 3), (113, some (.invokevirtual 187), 3), (116, some (.ireturn), 1), (117, some (.aload_n 0), 1), (118, some (.getfield 24), 3), (121, some (.ireturn), 1), (122, some (.aload_n 0), 1), (123, some (.getfield 28), 3), (126, some (.ireturn), 1), (127, some (.aload_n 0), 1), (128, some (.getfield 207), 3), (131, some (.ireturn), 1)] = true := by decide +kernel
theorem dX3_ledger_0 : decode cX3_ledger 0 = .ok (.iload_n 1, 1) := fd_get adX3_ledger_0 (k := 0) rfl
theorem dX3_ledger_1 : decode cX3_ledger 1 = .ok (.bipush 6, 2) := fd_get adX3_ledger_0 (k := 1) rfl
theorem dX3_ledger_3 : decode cX3_ledger 3 = .ok (.invokestatic 210, 3) := fd_get adX3_ledger_0 (k := 2) rfl
theorem dX3_ledger_6 : decode cX3_ledger 6 = .ok (.iload_n 1, 1) := fd_get adX3_ledger_0 (k := 3) rfl
theorem dX3_ledger_7 : decode cX3_ledger 7 = .ok (.tableswitch 120 0 5 #[37, 42, 66, 89, 110, 115], 37) := by decide +kernel
theorem dX3_ledger_44 : decode cX3_ledger 44 = .ok (.aload_n 0, 1) := fd_get adX3_ledger_0 (k := 5) rfl
theorem dX3_ledger_45 : decode cX3_ledger 45 = .ok (.invokevirtual 257, 3) := fd_get adX3_ledger_0 (k := 6) rfl
theorem dX3_ledger_48 : decode cX3_ledger 48 = .ok (.ireturn, 1) := fd_get adX3_ledger_0 (k := 7) rfl
theorem dX3_ledger_49 : decode cX3_ledger 49 = .ok (.aload_n 0, 1) := fd_get adX3_ledger_0 (k := 8) rfl
theorem dX3_ledger_50 : decode cX3_ledger 50 = .ok (.getfield 126, 3) := fd_get adX3_ledger_0 (k := 9) rfl
theorem dX3_ledger_53 : decode cX3_ledger 53 = .ok (.ifnonnull 9, 3) := fd_get adX3_ledger_0 (k := 10) rfl
theorem dX3_ledger_56 : decode cX3_ledger 56 = .ok (.sipush (-10000), 3) := fd_get adX3_ledger_0 (k := 11) rfl
theorem dX3_ledger_59 : decode cX3_ledger 59 = .ok (.goto 13, 3) := fd_get adX3_ledger_0 (k := 12) rfl
theorem dX3_ledger_62 : decode cX3_ledger 62 = .ok (.aload_n 0, 1) := fd_get adX3_ledger_0 (k := 13) rfl
theorem dX3_ledger_63 : decode cX3_ledger 63 = .ok (.getfield 126, 3) := fd_get adX3_ledger_0 (k := 14) rfl
theorem dX3_ledger_66 : decode cX3_ledger 66 = .ok (.invokevirtual 130, 3) := fd_get adX3_ledger_0 (k := 15) rfl
theorem dX3_ledger_69 : decode cX3_ledger 69 = .ok (.invokevirtual 242, 3) := fd_get adX3_ledger_1 (k := 0) rfl
theorem dX3_ledger_72 : decode cX3_ledger 72 = .ok (.ireturn, 1) := fd_get adX3_ledger_1 (k := 1) rfl
theorem dX3_ledger_73 : decode cX3_ledger 73 = .ok (.aload_n 0, 1) := fd_get adX3_ledger_1 (k := 2) rfl
theorem dX3_ledger_74 : decode cX3_ledger 74 = .ok (.getfield 126, 3) := fd_get adX3_ledger_1 (k := 3) rfl
theorem dX3_ledger_77 : decode cX3_ledger 77 = .ok (.ifnull 17, 3) := fd_get adX3_ledger_1 (k := 4) rfl
theorem dX3_ledger_80 : decode cX3_ledger 80 = .ok (.aload_n 0, 1) := fd_get adX3_ledger_1 (k := 5) rfl
theorem dX3_ledger_81 : decode cX3_ledger 81 = .ok (.getfield 126, 3) := fd_get adX3_ledger_1 (k := 6) rfl
theorem dX3_ledger_84 : decode cX3_ledger 84 = .ok (.invokevirtual 260, 3) := fd_get adX3_ledger_1 (k := 7) rfl
theorem dX3_ledger_87 : decode cX3_ledger 87 = .ok (.ifCond .eq 7, 3) := fd_get adX3_ledger_1 (k := 8) rfl
theorem dX3_ledger_90 : decode cX3_ledger 90 = .ok (.iconst 1, 1) := fd_get adX3_ledger_1 (k := 9) rfl
theorem dX3_ledger_91 : decode cX3_ledger 91 = .ok (.goto 4, 3) := fd_get adX3_ledger_1 (k := 10) rfl
theorem dX3_ledger_94 : decode cX3_ledger 94 = .ok (.iconst 0, 1) := fd_get adX3_ledger_1 (k := 11) rfl
theorem dX3_ledger_95 : decode cX3_ledger 95 = .ok (.ireturn, 1) := fd_get adX3_ledger_1 (k := 12) rfl
theorem dX3_ledger_96 : decode cX3_ledger 96 = .ok (.aload_n 0, 1) := fd_get adX3_ledger_1 (k := 13) rfl
theorem dX3_ledger_97 : decode cX3_ledger 97 = .ok (.getfield 126, 3) := fd_get adX3_ledger_1 (k := 14) rfl
theorem dX3_ledger_100 : decode cX3_ledger 100 = .ok (.ifnonnull 9, 3) := fd_get adX3_ledger_1 (k := 15) rfl
theorem dX3_ledger_103 : decode cX3_ledger 103 = .ok (.sipush (-10000), 3) := fd_get adX3_ledger_2 (k := 0) rfl
theorem dX3_ledger_106 : decode cX3_ledger 106 = .ok (.goto 10, 3) := fd_get adX3_ledger_2 (k := 1) rfl
theorem dX3_ledger_109 : decode cX3_ledger 109 = .ok (.aload_n 0, 1) := fd_get adX3_ledger_2 (k := 2) rfl
theorem dX3_ledger_110 : decode cX3_ledger 110 = .ok (.getfield 126, 3) := fd_get adX3_ledger_2 (k := 3) rfl
theorem dX3_ledger_113 : decode cX3_ledger 113 = .ok (.invokevirtual 187, 3) := fd_get adX3_ledger_2 (k := 4) rfl
theorem dX3_ledger_116 : decode cX3_ledger 116 = .ok (.ireturn, 1) := fd_get adX3_ledger_2 (k := 5) rfl
theorem dX3_ledger_117 : decode cX3_ledger 117 = .ok (.aload_n 0, 1) := fd_get adX3_ledger_2 (k := 6) rfl
theorem dX3_ledger_118 : decode cX3_ledger 118 = .ok (.getfield 24, 3) := fd_get adX3_ledger_2 (k := 7) rfl
theorem dX3_ledger_121 : decode cX3_ledger 121 = .ok (.ireturn, 1) := fd_get adX3_ledger_2 (k := 8) rfl
theorem dX3_ledger_122 : decode cX3_ledger 122 = .ok (.aload_n 0, 1) := fd_get adX3_ledger_2 (k := 9) rfl
theorem dX3_ledger_123 : decode cX3_ledger 123 = .ok (.getfield 28, 3) := fd_get adX3_ledger_2 (k := 10) rfl
theorem dX3_ledger_126 : decode cX3_ledger 126 = .ok (.ireturn, 1) := fd_get adX3_ledger_2 (k := 11) rfl
theorem dX3_ledger_127 : decode cX3_ledger 127 = .ok (.aload_n 0, 1) := fd_get adX3_ledger_2 (k := 12) rfl
theorem dX3_ledger_128 : decode cX3_ledger 128 = .ok (.getfield 207, 3) := fd_get adX3_ledger_2 (k := 13) rfl
theorem dX3_ledger_131 : decode cX3_ledger 131 = .ok (.ireturn, 1) := fd_get adX3_ledger_2 (k := 14) rfl
theorem mwsX3_isSound_0 : ∀ w ∈ wsX3_isSound_r1, w ∈ wsX3_isSound := fun w h => (List.mem_cons_of_mem _ (List.mem_append_left _ (List.mem_append_left _ (List.mem_append_left _ (List.mem_append_left _ h)))))
theorem mwsX3_isSound_1 : ∀ w ∈ wsX3_isSound_r2, w ∈ wsX3_isSound := fun w h => (List.mem_cons_of_mem _ (List.mem_append_left _ (List.mem_append_left _ (List.mem_append_left _ (List.mem_append_right _ (List.mem_append_left _ h))))))
theorem mwsX3_isSound_2 : ∀ w ∈ wsX3_isSound_r3, w ∈ wsX3_isSound := fun w h => (List.mem_cons_of_mem _ (List.mem_append_left _ (List.mem_append_left _ (List.mem_append_left _ (List.mem_append_right _ (List.mem_append_right _ (List.mem_append_left _ h)))))))
theorem mwsX3_isSound_3 : ∀ w ∈ wsX3_isSound_r4, w ∈ wsX3_isSound := fun w h => (List.mem_cons_of_mem _ (List.mem_append_left _ (List.mem_append_left _ (List.mem_append_left _ (List.mem_append_right _ (List.mem_append_right _ (List.mem_append_right _ (List.mem_append_left _ h))))))))
theorem mwsX3_isSound_4 : ∀ w ∈ wsX3_isSound_r5, w ∈ wsX3_isSound := fun w h => (List.mem_cons_of_mem _ (List.mem_append_left _ (List.mem_append_left _ (List.mem_append_left _ (List.mem_append_right _ (List.mem_append_right _ (List.mem_append_right _ (List.mem_append_right _ h))))))))
theorem mwsX3_isSound_6 : ∀ w ∈ wsX10, w ∈ wsX3_isSound := fun w h => (List.mem_cons_of_mem _ (List.mem_append_left _ (List.mem_append_right _ h)))
theorem mwsX3_isSound_7 : ∀ w ∈ wsX00, w ∈ wsX3_isSound := fun w h => (List.mem_cons_of_mem _ (List.mem_append_right _ h))
set_option maxRecDepth 20000 in
theorem ggX3_isSound_X1_isSoundView : GoodIn wsX3_isSound wsX1_isSoundView := goodIn_sub (tk_mem 5 _ (fun w h => (mwsX3_isSound_0 _ (tkB_mem 6 5 h))) (List.forall_mem_cons.mpr ⟨(mwsX3_isSound_0 _ (List.mem_of_getElem? (i := 5) rfl)), (tk_mem 13 _ (fun w h => (mwsX3_isSound_0 _ (tkB_mem 11 13 h))) (tk_mem 23 _ (fun w h => (mwsX3_isSound_1 _ (tkB_mem 0 23 h))) (tk_mem 7 _ (fun w h => (mwsX3_isSound_6 _ (tkB_mem 0 7 h))) (tk_mem 7 _ (fun w h => (mwsX3_isSound_7 _ (tkB_mem 0 7 h))) (fun _ h => absurd h List.not_mem_nil)))))⟩)) (by decide +kernel)
set_option maxRecDepth 20000 in
theorem gX3_isSound_X1_isSoundView : GoodIn wsX3_isSound (wsV RX3 263 RX1 yX1_isSoundView wsX1_isSoundView) := goodIn_app (goodIn_sub (tk_mem 4 _ (fun w h => (mwsX3_isSound_0 _ (tkB_mem 2 4 h))) (fun _ h => absurd h List.not_mem_nil)) (by decide +kernel)) ggX3_isSound_X1_isSoundView
set_option maxRecDepth 20000 in
theorem ggX3_isSound_X0_isInOrder : GoodIn wsX3_isSound wsX0_isInOrder := goodIn_sub (List.forall_mem_cons.mpr ⟨(mwsX3_isSound_2 _ (List.mem_of_getElem? (i := 2) rfl)), (List.forall_mem_cons.mpr ⟨(mwsX3_isSound_0 _ (List.mem_of_getElem? (i := 18) rfl)), (List.forall_mem_cons.mpr ⟨(mwsX3_isSound_2 _ (List.mem_of_getElem? (i := 3) rfl)), (List.forall_mem_cons.mpr ⟨(mwsX3_isSound_1 _ (List.mem_of_getElem? (i := 11) rfl)), (List.forall_mem_cons.mpr ⟨(mwsX3_isSound_1 _ (List.mem_of_getElem? (i := 12) rfl)), (List.forall_mem_cons.mpr ⟨(mwsX3_isSound_0 _ (List.mem_of_getElem? (i := 16) rfl)), (List.forall_mem_cons.mpr ⟨(mwsX3_isSound_1 _ (List.mem_of_getElem? (i := 13) rfl)), (List.forall_mem_cons.mpr ⟨(mwsX3_isSound_0 _ (List.mem_of_getElem? (i := 19) rfl)), (tk_mem 4 _ (fun w h => (mwsX3_isSound_1 _ (tkB_mem 14 4 h))) (tk_mem 4 _ (fun w h => (mwsX3_isSound_2 _ (tkB_mem 4 4 h))) (tk_mem 4 _ (fun w h => (mwsX3_isSound_0 _ (tkB_mem 20 4 h))) (List.forall_mem_cons.mpr ⟨(mwsX3_isSound_1 _ (List.mem_of_getElem? (i := 0) rfl)), (tk_mem 16 _ (fun w h => (mwsX3_isSound_2 _ (tkB_mem 8 16 h))) (List.forall_mem_cons.mpr ⟨(mwsX3_isSound_0 _ (List.mem_of_getElem? (i := 14) rfl)), (List.forall_mem_cons.mpr ⟨(mwsX3_isSound_0 _ (List.mem_of_getElem? (i := 15) rfl)), (List.forall_mem_cons.mpr ⟨(mwsX3_isSound_0 _ (List.mem_of_getElem? (i := 17) rfl)), (tk_mem 4 _ (fun w h => (mwsX3_isSound_3 _ (tkB_mem 0 4 h))) (tk_mem 7 _ (fun w h => (mwsX3_isSound_7 _ (tkB_mem 0 7 h))) (fun _ h => absurd h List.not_mem_nil)))⟩)⟩)⟩))⟩))))⟩)⟩)⟩)⟩)⟩)⟩)⟩)⟩) (by decide +kernel)
set_option maxRecDepth 20000 in
theorem gX3_isSound_X0_isInOrder : GoodIn wsX3_isSound (wsV RX3 266 RX0 yX0_isInOrder wsX0_isInOrder) := goodIn_app (goodIn_sub (List.forall_mem_cons.mpr ⟨(mwsX3_isSound_1 _ (List.mem_of_getElem? (i := 23) rfl)), (List.forall_mem_cons.mpr ⟨(mwsX3_isSound_2 _ (List.mem_of_getElem? (i := 0) rfl)), (List.forall_mem_cons.mpr ⟨(mwsX3_isSound_2 _ (List.mem_of_getElem? (i := 1) rfl)), (List.forall_mem_cons.mpr ⟨(mwsX3_isSound_0 _ (List.mem_of_getElem? (i := 16) rfl)), (fun _ h => absurd h List.not_mem_nil)⟩)⟩)⟩)⟩) (by decide +kernel)) ggX3_isSound_X0_isInOrder
set_option maxRecDepth 20000 in
theorem ggX3_isSound_X0_isLike : GoodIn wsX3_isSound wsX0_isLike := goodIn_sub (List.forall_mem_cons.mpr ⟨(mwsX3_isSound_3 _ (List.mem_of_getElem? (i := 7) rfl)), (List.forall_mem_cons.mpr ⟨(mwsX3_isSound_0 _ (List.mem_of_getElem? (i := 18) rfl)), (List.forall_mem_cons.mpr ⟨(mwsX3_isSound_0 _ (List.mem_of_getElem? (i := 19) rfl)), (List.forall_mem_cons.mpr ⟨(mwsX3_isSound_3 _ (List.mem_of_getElem? (i := 8) rfl)), (List.forall_mem_cons.mpr ⟨(mwsX3_isSound_3 _ (List.mem_of_getElem? (i := 9) rfl)), (List.forall_mem_cons.mpr ⟨(mwsX3_isSound_1 _ (List.mem_of_getElem? (i := 7) rfl)), (List.forall_mem_cons.mpr ⟨(mwsX3_isSound_1 _ (List.mem_of_getElem? (i := 8) rfl)), (List.forall_mem_cons.mpr ⟨(mwsX3_isSound_0 _ (List.mem_of_getElem? (i := 16) rfl)), (List.forall_mem_cons.mpr ⟨(mwsX3_isSound_1 _ (List.mem_of_getElem? (i := 9) rfl)), (tk_mem 4 _ (fun w h => (mwsX3_isSound_3 _ (tkB_mem 10 4 h))) (tk_mem 4 _ (fun w h => (mwsX3_isSound_2 _ (tkB_mem 19 4 h))) (tk_mem 4 _ (fun w h => (mwsX3_isSound_0 _ (tkB_mem 20 4 h))) (List.forall_mem_cons.mpr ⟨(mwsX3_isSound_1 _ (List.mem_of_getElem? (i := 0) rfl)), (List.forall_mem_cons.mpr ⟨(mwsX3_isSound_2 _ (List.mem_of_getElem? (i := 23) rfl)), (List.forall_mem_cons.mpr ⟨(mwsX3_isSound_0 _ (List.mem_of_getElem? (i := 14) rfl)), (List.forall_mem_cons.mpr ⟨(mwsX3_isSound_0 _ (List.mem_of_getElem? (i := 15) rfl)), (List.forall_mem_cons.mpr ⟨(mwsX3_isSound_0 _ (List.mem_of_getElem? (i := 17) rfl)), (List.forall_mem_cons.mpr ⟨(mwsX3_isSound_2 _ (List.mem_of_getElem? (i := 3) rfl)), (tk_mem 7 _ (fun w h => (mwsX3_isSound_1 _ (tkB_mem 11 7 h))) (tk_mem 4 _ (fun w h => (mwsX3_isSound_3 _ (tkB_mem 14 4 h))) (tk_mem 7 _ (fun w h => (mwsX3_isSound_7 _ (tkB_mem 0 7 h))) (fun _ h => absurd h List.not_mem_nil))))⟩)⟩)⟩)⟩)⟩)⟩))))⟩)⟩)⟩)⟩)⟩)⟩)⟩)⟩)⟩) (by decide +kernel)
set_option maxRecDepth 20000 in
theorem gX3_isSound_X0_isLike : GoodIn wsX3_isSound (wsV RX3 238 RX0 yX0_isLike wsX0_isLike) := goodIn_app (goodIn_sub (List.forall_mem_cons.mpr ⟨(mwsX3_isSound_3 _ (List.mem_of_getElem? (i := 4) rfl)), (List.forall_mem_cons.mpr ⟨(mwsX3_isSound_3 _ (List.mem_of_getElem? (i := 5) rfl)), (List.forall_mem_cons.mpr ⟨(mwsX3_isSound_3 _ (List.mem_of_getElem? (i := 6) rfl)), (List.forall_mem_cons.mpr ⟨(mwsX3_isSound_0 _ (List.mem_of_getElem? (i := 16) rfl)), (fun _ h => absurd h List.not_mem_nil)⟩)⟩)⟩)⟩) (by decide +kernel)) ggX3_isSound_X0_isLike
set_option maxRecDepth 20000 in
theorem ggX3_isSound_X0_hasSameTotals : GoodIn wsX3_isSound wsX0_hasSameTotals := goodIn_sub (List.forall_mem_cons.mpr ⟨(mwsX3_isSound_3 _ (List.mem_of_getElem? (i := 21) rfl)), (List.forall_mem_cons.mpr ⟨(mwsX3_isSound_0 _ (List.mem_of_getElem? (i := 18) rfl)), (List.forall_mem_cons.mpr ⟨(mwsX3_isSound_3 _ (List.mem_of_getElem? (i := 9) rfl)), (List.forall_mem_cons.mpr ⟨(mwsX3_isSound_1 _ (List.mem_of_getElem? (i := 7) rfl)), (List.forall_mem_cons.mpr ⟨(mwsX3_isSound_1 _ (List.mem_of_getElem? (i := 8) rfl)), (List.forall_mem_cons.mpr ⟨(mwsX3_isSound_0 _ (List.mem_of_getElem? (i := 16) rfl)), (List.forall_mem_cons.mpr ⟨(mwsX3_isSound_1 _ (List.mem_of_getElem? (i := 9) rfl)), (List.forall_mem_cons.mpr ⟨(mwsX3_isSound_3 _ (List.mem_of_getElem? (i := 22) rfl)), (List.forall_mem_cons.mpr ⟨(mwsX3_isSound_3 _ (List.mem_of_getElem? (i := 23) rfl)), (List.forall_mem_cons.mpr ⟨(mwsX3_isSound_4 _ (List.mem_of_getElem? (i := 0) rfl)), (List.forall_mem_cons.mpr ⟨(mwsX3_isSound_4 _ (List.mem_of_getElem? (i := 1) rfl)), (List.forall_mem_cons.mpr ⟨(mwsX3_isSound_3 _ (List.mem_of_getElem? (i := 8) rfl)), (tk_mem 4 _ (fun w h => (mwsX3_isSound_1 _ (tkB_mem 14 4 h))) (tk_mem 7 _ (fun w h => (mwsX3_isSound_7 _ (tkB_mem 0 7 h))) (fun _ h => absurd h List.not_mem_nil)))⟩)⟩)⟩)⟩)⟩)⟩)⟩)⟩)⟩)⟩)⟩)⟩) (by decide +kernel)
set_option maxRecDepth 20000 in
theorem gX3_isSound_X0_hasSameTotals : GoodIn wsX3_isSound (wsV RX3 269 RX0 yX0_hasSameTotals wsX0_hasSameTotals) := goodIn_app (goodIn_sub (List.forall_mem_cons.mpr ⟨(mwsX3_isSound_3 _ (List.mem_of_getElem? (i := 18) rfl)), (List.forall_mem_cons.mpr ⟨(mwsX3_isSound_3 _ (List.mem_of_getElem? (i := 19) rfl)), (List.forall_mem_cons.mpr ⟨(mwsX3_isSound_3 _ (List.mem_of_getElem? (i := 20) rfl)), (List.forall_mem_cons.mpr ⟨(mwsX3_isSound_0 _ (List.mem_of_getElem? (i := 16) rfl)), (fun _ h => absurd h List.not_mem_nil)⟩)⟩)⟩)⟩) (by decide +kernel)) ggX3_isSound_X0_hasSameTotals
theorem adX3_isSound_0 : fd_rows (cX3_isSound.data.toList.drop 0) 0 [(0, some (.iconst 0), 1), (1, some (.istore_n 1), 1), (2, some (.iload_n 1), 1), (3, some (.aload_n 0), 1), (4, some (.getfield 20), 3), (7, some (.arraylength), 1), (8, some (.if_icmp .ge 32), 3), (11, some (.aload_n 0), 1), (12, some (.getfield 20), 3), (15, some (.iload_n 1), 1), (16, some (.aaload), 1), (17, some (.ifnull 17), 3), (20, some (.aload_n 0), 1), (21, some (.getfield 20), 3), (24, some (.iload_n 1), 1), (25, some (.aaload), 1)] = true := by decide +kernel
theorem adX3_isSound_1 : fd_rows (cX3_isSound.data.toList.drop 26) 26 [(26, some (.invokevirtual 263), 3), (29, some (.ifCond .ne 5), 3), (32, some (.iconst 0), 1), (33, some (.ireturn), 1), (34, some (.iinc 1 1), 3), (37, some (.goto (-35)), 3), (40, some (.iconst 0), 1), (41, some (.istore_n 1), 1), (42, some (.iload_n 1), 1), (43, some (.aload_n 0), 1), (44, some (.getfield 11), 3), (47, some (.arraylength), 1), (48, some (.if_icmp .ge 78), 3), (51, some (.aload_n 0), 1), (52, some (.getfield 11), 3), (55, some (.iload_n 1), 1)] = true := by decide +kernel
theorem adX3_isSound_2 : fd_rows (cX3_isSound.data.toList.drop 56) 56 [(56, some (.aaload), 1), (57, some (.invokevirtual 266), 3), (60, some (.ifCond .ne 5), 3), (63, some (.iconst 0), 1), (64, some (.ireturn), 1), (65, some (.iconst 0), 1), (66, some (.istore_n 2), 1), (67, some (.iload_n 2), 1), (68, some (.aload_n 0), 1), (69, some (.getfield 11), 3), (72, some (.arraylength), 1), (73, some (.if_icmp .ge 47), 3), (76, some (.aload_n 0), 1), (77, some (.getfield 11), 3), (80, some (.iload_n 1), 1), (81, some (.aaload), 1)] = true := by decide +kernel
theorem adX3_isSound_3 : fd_rows (cX3_isSound.data.toList.drop 82) 82 [(82, some (.aload_n 0), 1), (83, some (.getfield 11), 3), (86, some (.iload_n 2), 1), (87, some (.aaload), 1), (88, some (.invokevirtual 238), 3), (91, some (.ifCond .eq 23), 3), (94, some (.aload_n 0), 1), (95, some (.getfield 11), 3), (98, some (.iload_n 1), 1), (99, some (.aaload), 1), (100, some (.aload_n 0), 1), (101, some (.getfield 11), 3), (104, some (.iload_n 2), 1), (105, some (.aaload), 1), (106, some (.invokevirtual 269), 3), (109, some (.ifCond .ne 5), 3)] = true := by decide +kernel
theorem adX3_isSound_4 : fd_rows (cX3_isSound.data.toList.drop 112) 112 [(112, some (.iconst 0), 1), (113, some (.ireturn), 1), (114, some (.iinc 2 1), 3), (117, some (.goto (-50)), 3), (120, some (.iinc 1 1), 3), (123, some (.goto (-81)), 3), (126, some (.iconst 1), 1), (127, some (.ireturn), 1)] = true := by decide +kernel
theorem dX3_isSound_0 : decode cX3_isSound 0 = .ok (.iconst 0, 1) := fd_get adX3_isSound_0 (k := 0) rfl
theorem dX3_isSound_1 : decode cX3_isSound 1 = .ok (.istore_n 1, 1) := fd_get adX3_isSound_0 (k := 1) rfl
theorem dX3_isSound_2 : decode cX3_isSound 2 = .ok (.iload_n 1, 1) := fd_get adX3_isSound_0 (k := 2) rfl
theorem dX3_isSound_3 : decode cX3_isSound 3 = .ok (.aload_n 0, 1) := fd_get adX3_isSound_0 (k := 3) rfl
theorem dX3_isSound_4 : decode cX3_isSound 4 = .ok (.getfield 20, 3) := fd_get adX3_isSound_0 (k := 4) rfl
theorem dX3_isSound_7 : decode cX3_isSound 7 = .ok (.arraylength, 1) := fd_get adX3_isSound_0 (k := 5) rfl
theorem dX3_isSound_8 : decode cX3_isSound 8 = .ok (.if_icmp .ge 32, 3) := fd_get adX3_isSound_0 (k := 6) rfl
theorem dX3_isSound_11 : decode cX3_isSound 11 = .ok (.aload_n 0, 1) := fd_get adX3_isSound_0 (k := 7) rfl
theorem dX3_isSound_12 : decode cX3_isSound 12 = .ok (.getfield 20, 3) := fd_get adX3_isSound_0 (k := 8) rfl
theorem dX3_isSound_15 : decode cX3_isSound 15 = .ok (.iload_n 1, 1) := fd_get adX3_isSound_0 (k := 9) rfl
theorem dX3_isSound_16 : decode cX3_isSound 16 = .ok (.aaload, 1) := fd_get adX3_isSound_0 (k := 10) rfl
theorem dX3_isSound_17 : decode cX3_isSound 17 = .ok (.ifnull 17, 3) := fd_get adX3_isSound_0 (k := 11) rfl
theorem dX3_isSound_20 : decode cX3_isSound 20 = .ok (.aload_n 0, 1) := fd_get adX3_isSound_0 (k := 12) rfl
theorem dX3_isSound_21 : decode cX3_isSound 21 = .ok (.getfield 20, 3) := fd_get adX3_isSound_0 (k := 13) rfl
theorem dX3_isSound_24 : decode cX3_isSound 24 = .ok (.iload_n 1, 1) := fd_get adX3_isSound_0 (k := 14) rfl
theorem dX3_isSound_25 : decode cX3_isSound 25 = .ok (.aaload, 1) := fd_get adX3_isSound_0 (k := 15) rfl
theorem dX3_isSound_26 : decode cX3_isSound 26 = .ok (.invokevirtual 263, 3) := fd_get adX3_isSound_1 (k := 0) rfl
theorem dX3_isSound_29 : decode cX3_isSound 29 = .ok (.ifCond .ne 5, 3) := fd_get adX3_isSound_1 (k := 1) rfl
theorem dX3_isSound_32 : decode cX3_isSound 32 = .ok (.iconst 0, 1) := fd_get adX3_isSound_1 (k := 2) rfl
theorem dX3_isSound_33 : decode cX3_isSound 33 = .ok (.ireturn, 1) := fd_get adX3_isSound_1 (k := 3) rfl
theorem dX3_isSound_34 : decode cX3_isSound 34 = .ok (.iinc 1 1, 3) := fd_get adX3_isSound_1 (k := 4) rfl
theorem dX3_isSound_37 : decode cX3_isSound 37 = .ok (.goto (-35), 3) := fd_get adX3_isSound_1 (k := 5) rfl
theorem dX3_isSound_40 : decode cX3_isSound 40 = .ok (.iconst 0, 1) := fd_get adX3_isSound_1 (k := 6) rfl
theorem dX3_isSound_41 : decode cX3_isSound 41 = .ok (.istore_n 1, 1) := fd_get adX3_isSound_1 (k := 7) rfl
theorem dX3_isSound_42 : decode cX3_isSound 42 = .ok (.iload_n 1, 1) := fd_get adX3_isSound_1 (k := 8) rfl
theorem dX3_isSound_43 : decode cX3_isSound 43 = .ok (.aload_n 0, 1) := fd_get adX3_isSound_1 (k := 9) rfl
theorem dX3_isSound_44 : decode cX3_isSound 44 = .ok (.getfield 11, 3) := fd_get adX3_isSound_1 (k := 10) rfl
theorem dX3_isSound_47 : decode cX3_isSound 47 = .ok (.arraylength, 1) := fd_get adX3_isSound_1 (k := 11) rfl
theorem dX3_isSound_48 : decode cX3_isSound 48 = .ok (.if_icmp .ge 78, 3) := fd_get adX3_isSound_1 (k := 12) rfl
theorem dX3_isSound_51 : decode cX3_isSound 51 = .ok (.aload_n 0, 1) := fd_get adX3_isSound_1 (k := 13) rfl
theorem dX3_isSound_52 : decode cX3_isSound 52 = .ok (.getfield 11, 3) := fd_get adX3_isSound_1 (k := 14) rfl
theorem dX3_isSound_55 : decode cX3_isSound 55 = .ok (.iload_n 1, 1) := fd_get adX3_isSound_1 (k := 15) rfl
theorem dX3_isSound_56 : decode cX3_isSound 56 = .ok (.aaload, 1) := fd_get adX3_isSound_2 (k := 0) rfl
theorem dX3_isSound_57 : decode cX3_isSound 57 = .ok (.invokevirtual 266, 3) := fd_get adX3_isSound_2 (k := 1) rfl
theorem dX3_isSound_60 : decode cX3_isSound 60 = .ok (.ifCond .ne 5, 3) := fd_get adX3_isSound_2 (k := 2) rfl
theorem dX3_isSound_63 : decode cX3_isSound 63 = .ok (.iconst 0, 1) := fd_get adX3_isSound_2 (k := 3) rfl
theorem dX3_isSound_64 : decode cX3_isSound 64 = .ok (.ireturn, 1) := fd_get adX3_isSound_2 (k := 4) rfl
theorem dX3_isSound_65 : decode cX3_isSound 65 = .ok (.iconst 0, 1) := fd_get adX3_isSound_2 (k := 5) rfl
theorem dX3_isSound_66 : decode cX3_isSound 66 = .ok (.istore_n 2, 1) := fd_get adX3_isSound_2 (k := 6) rfl
theorem dX3_isSound_67 : decode cX3_isSound 67 = .ok (.iload_n 2, 1) := fd_get adX3_isSound_2 (k := 7) rfl
theorem dX3_isSound_68 : decode cX3_isSound 68 = .ok (.aload_n 0, 1) := fd_get adX3_isSound_2 (k := 8) rfl
theorem dX3_isSound_69 : decode cX3_isSound 69 = .ok (.getfield 11, 3) := fd_get adX3_isSound_2 (k := 9) rfl
theorem dX3_isSound_72 : decode cX3_isSound 72 = .ok (.arraylength, 1) := fd_get adX3_isSound_2 (k := 10) rfl
theorem dX3_isSound_73 : decode cX3_isSound 73 = .ok (.if_icmp .ge 47, 3) := fd_get adX3_isSound_2 (k := 11) rfl
theorem dX3_isSound_76 : decode cX3_isSound 76 = .ok (.aload_n 0, 1) := fd_get adX3_isSound_2 (k := 12) rfl
theorem dX3_isSound_77 : decode cX3_isSound 77 = .ok (.getfield 11, 3) := fd_get adX3_isSound_2 (k := 13) rfl
theorem dX3_isSound_80 : decode cX3_isSound 80 = .ok (.iload_n 1, 1) := fd_get adX3_isSound_2 (k := 14) rfl
theorem dX3_isSound_81 : decode cX3_isSound 81 = .ok (.aaload, 1) := fd_get adX3_isSound_2 (k := 15) rfl
theorem dX3_isSound_82 : decode cX3_isSound 82 = .ok (.aload_n 0, 1) := fd_get adX3_isSound_3 (k := 0) rfl
theorem dX3_isSound_83 : decode cX3_isSound 83 = .ok (.getfield 11, 3) := fd_get adX3_isSound_3 (k := 1) rfl
theorem dX3_isSound_86 : decode cX3_isSound 86 = .ok (.iload_n 2, 1) := fd_get adX3_isSound_3 (k := 2) rfl
theorem dX3_isSound_87 : decode cX3_isSound 87 = .ok (.aaload, 1) := fd_get adX3_isSound_3 (k := 3) rfl
theorem dX3_isSound_88 : decode cX3_isSound 88 = .ok (.invokevirtual 238, 3) := fd_get adX3_isSound_3 (k := 4) rfl
theorem dX3_isSound_91 : decode cX3_isSound 91 = .ok (.ifCond .eq 23, 3) := fd_get adX3_isSound_3 (k := 5) rfl
theorem dX3_isSound_94 : decode cX3_isSound 94 = .ok (.aload_n 0, 1) := fd_get adX3_isSound_3 (k := 6) rfl
theorem dX3_isSound_95 : decode cX3_isSound 95 = .ok (.getfield 11, 3) := fd_get adX3_isSound_3 (k := 7) rfl
theorem dX3_isSound_98 : decode cX3_isSound 98 = .ok (.iload_n 1, 1) := fd_get adX3_isSound_3 (k := 8) rfl
theorem dX3_isSound_99 : decode cX3_isSound 99 = .ok (.aaload, 1) := fd_get adX3_isSound_3 (k := 9) rfl
theorem dX3_isSound_100 : decode cX3_isSound 100 = .ok (.aload_n 0, 1) := fd_get adX3_isSound_3 (k := 10) rfl
theorem dX3_isSound_101 : decode cX3_isSound 101 = .ok (.getfield 11, 3) := fd_get adX3_isSound_3 (k := 11) rfl
theorem dX3_isSound_104 : decode cX3_isSound 104 = .ok (.iload_n 2, 1) := fd_get adX3_isSound_3 (k := 12) rfl
theorem dX3_isSound_105 : decode cX3_isSound 105 = .ok (.aaload, 1) := fd_get adX3_isSound_3 (k := 13) rfl
theorem dX3_isSound_106 : decode cX3_isSound 106 = .ok (.invokevirtual 269, 3) := fd_get adX3_isSound_3 (k := 14) rfl
theorem dX3_isSound_109 : decode cX3_isSound 109 = .ok (.ifCond .ne 5, 3) := fd_get adX3_isSound_3 (k := 15) rfl
theorem dX3_isSound_112 : decode cX3_isSound 112 = .ok (.iconst 0, 1) := fd_get adX3_isSound_4 (k := 0) rfl
theorem dX3_isSound_113 : decode cX3_isSound 113 = .ok (.ireturn, 1) := fd_get adX3_isSound_4 (k := 1) rfl
theorem dX3_isSound_114 : decode cX3_isSound 114 = .ok (.iinc 2 1, 3) := fd_get adX3_isSound_4 (k := 2) rfl
theorem dX3_isSound_117 : decode cX3_isSound 117 = .ok (.goto (-50), 3) := fd_get adX3_isSound_4 (k := 3) rfl
theorem dX3_isSound_120 : decode cX3_isSound 120 = .ok (.iinc 1 1, 3) := fd_get adX3_isSound_4 (k := 4) rfl
theorem dX3_isSound_123 : decode cX3_isSound 123 = .ok (.goto (-81), 3) := fd_get adX3_isSound_4 (k := 5) rfl
theorem dX3_isSound_126 : decode cX3_isSound 126 = .ok (.iconst 1, 1) := fd_get adX3_isSound_4 (k := 6) rfl
theorem dX3_isSound_127 : decode cX3_isSound 127 = .ok (.ireturn, 1) := fd_get adX3_isSound_4 (k := 7) rfl
theorem mwsX3_digest_0 : ∀ w ∈ wsX3_digest_r1, w ∈ wsX3_digest := fun w h => (List.mem_cons_of_mem _ (List.mem_append_left _ (List.mem_append_left _ (List.mem_append_left _ (List.mem_append_left _ (List.mem_append_left _ (List.mem_append_left _ (List.mem_append_left _ h))))))))
theorem mwsX3_digest_1 : ∀ w ∈ wsX3_digest_r2, w ∈ wsX3_digest := fun w h => (List.mem_cons_of_mem _ (List.mem_append_left _ (List.mem_append_left _ (List.mem_append_left _ (List.mem_append_left _ (List.mem_append_left _ (List.mem_append_left _ (List.mem_append_right _ (List.mem_append_left _ h)))))))))
theorem mwsX3_digest_2 : ∀ w ∈ wsX3_digest_r3, w ∈ wsX3_digest := fun w h => (List.mem_cons_of_mem _ (List.mem_append_left _ (List.mem_append_left _ (List.mem_append_left _ (List.mem_append_left _ (List.mem_append_left _ (List.mem_append_left _ (List.mem_append_right _ (List.mem_append_right _ (List.mem_append_left _ h))))))))))
theorem mwsX3_digest_3 : ∀ w ∈ wsX3_digest_r4, w ∈ wsX3_digest := fun w h => (List.mem_cons_of_mem _ (List.mem_append_left _ (List.mem_append_left _ (List.mem_append_left _ (List.mem_append_left _ (List.mem_append_left _ (List.mem_append_left _ (List.mem_append_right _ (List.mem_append_right _ (List.mem_append_right _ (List.mem_append_left _ h)))))))))))
theorem mwsX3_digest_4 : ∀ w ∈ wsX3_digest_r5, w ∈ wsX3_digest := fun w h => (List.mem_cons_of_mem _ (List.mem_append_left _ (List.mem_append_left _ (List.mem_append_left _ (List.mem_append_left _ (List.mem_append_left _ (List.mem_append_left _ (List.mem_append_right _ (List.mem_append_right _ (List.mem_append_right _ (List.mem_append_right _ (List.mem_append_left _ h))))))))))))
theorem mwsX3_digest_5 : ∀ w ∈ wsX3_digest_r6, w ∈ wsX3_digest := fun w h => (List.mem_cons_of_mem _ (List.mem_append_left _ (List.mem_append_left _ (List.mem_append_left _ (List.mem_append_left _ (List.mem_append_left _ (List.mem_append_left _ (List.mem_append_right _ (List.mem_append_right _ (List.mem_append_right _ (List.mem_append_right _ (List.mem_append_right _ (List.mem_append_left _ h)))))))))))))
theorem mwsX3_digest_6 : ∀ w ∈ wsX3_digest_r7, w ∈ wsX3_digest := fun w h => (List.mem_cons_of_mem _ (List.mem_append_left _ (List.mem_append_left _ (List.mem_append_left _ (List.mem_append_left _ (List.mem_append_left _ (List.mem_append_left _ (List.mem_append_right _ (List.mem_append_right _ (List.mem_append_right _ (List.mem_append_right _ (List.mem_append_right _ (List.mem_append_right _ (List.mem_append_left _ h))))))))))))))
theorem mwsX3_digest_7 : ∀ w ∈ wsX3_digest_r8, w ∈ wsX3_digest := fun w h => (List.mem_cons_of_mem _ (List.mem_append_left _ (List.mem_append_left _ (List.mem_append_left _ (List.mem_append_left _ (List.mem_append_left _ (List.mem_append_left _ (List.mem_append_right _ (List.mem_append_right _ (List.mem_append_right _ (List.mem_append_right _ (List.mem_append_right _ (List.mem_append_right _ (List.mem_append_right _ (List.mem_append_left _ h)))))))))))))))
theorem mwsX3_digest_8 : ∀ w ∈ wsX3_digest_r9, w ∈ wsX3_digest := fun w h => (List.mem_cons_of_mem _ (List.mem_append_left _ (List.mem_append_left _ (List.mem_append_left _ (List.mem_append_left _ (List.mem_append_left _ (List.mem_append_left _ (List.mem_append_right _ (List.mem_append_right _ (List.mem_append_right _ (List.mem_append_right _ (List.mem_append_right _ (List.mem_append_right _ (List.mem_append_right _ (List.mem_append_right _ (List.mem_append_left _ h))))))))))))))))
theorem mwsX3_digest_9 : ∀ w ∈ wsX3_digest_r10, w ∈ wsX3_digest := fun w h => (List.mem_cons_of_mem _ (List.mem_append_left _ (List.mem_append_left _ (List.mem_append_left _ (List.mem_append_left _ (List.mem_append_left _ (List.mem_append_left _ (List.mem_append_right _ (List.mem_append_right _ (List.mem_append_right _ (List.mem_append_right _ (List.mem_append_right _ (List.mem_append_right _ (List.mem_append_right _ (List.mem_append_right _ (List.mem_append_right _ (List.mem_append_left _ h)))))))))))))))))
theorem mwsX3_digest_10 : ∀ w ∈ wsX3_digest_r11, w ∈ wsX3_digest := fun w h => (List.mem_cons_of_mem _ (List.mem_append_left _ (List.mem_append_left _ (List.mem_append_left _ (List.mem_append_left _ (List.mem_append_left _ (List.mem_append_left _ (List.mem_append_right _ (List.mem_append_right _ (List.mem_append_right _ (List.mem_append_right _ (List.mem_append_right _ (List.mem_append_right _ (List.mem_append_right _ (List.mem_append_right _ (List.mem_append_right _ (List.mem_append_right _ h)))))))))))))))))
theorem mwsX3_digest_11 : ∀ w ∈ wsX30, w ∈ wsX3_digest := fun w h => (List.mem_cons_of_mem _ (List.mem_append_left _ (List.mem_append_left _ (List.mem_append_left _ (List.mem_append_left _ (List.mem_append_left _ (List.mem_append_right _ h)))))))
theorem mwsX3_digest_12 : ∀ w ∈ wsX20, w ∈ wsX3_digest := fun w h => (List.mem_cons_of_mem _ (List.mem_append_left _ (List.mem_append_left _ (List.mem_append_left _ (List.mem_append_left _ (List.mem_append_right _ h))))))
theorem mwsX3_digest_13 : ∀ w ∈ wsX10, w ∈ wsX3_digest := fun w h => (List.mem_cons_of_mem _ (List.mem_append_left _ (List.mem_append_left _ (List.mem_append_left _ (List.mem_append_right _ h)))))
theorem mwsX3_digest_14 : ∀ w ∈ wsX00, w ∈ wsX3_digest := fun w h => (List.mem_cons_of_mem _ (List.mem_append_left _ (List.mem_append_left _ (List.mem_append_right _ h))))
set_option maxRecDepth 20000 in
theorem ggX3_digest_X3_ledger : GoodIn wsX3_digest wsX3_ledger := goodIn_ca (goodIn_sub (tk_mem 7 _ (fun w h => (mwsX3_digest_0 _ (tkB_mem 7 7 h))) (List.forall_mem_cons.mpr ⟨(mwsX3_digest_0 _ (List.mem_of_getElem? (i := 6) rfl)), (tk_mem 7 _ (fun w h => (mwsX3_digest_0 _ (tkB_mem 14 7 h))) (List.forall_mem_cons.mpr ⟨(mwsX3_digest_0 _ (List.mem_of_getElem? (i := 2) rfl)), (List.forall_mem_cons.mpr ⟨(mwsX3_digest_0 _ (List.mem_of_getElem? (i := 21) rfl)), (List.forall_mem_cons.mpr ⟨(mwsX3_digest_0 _ (List.mem_of_getElem? (i := 22) rfl)), (List.forall_mem_cons.mpr ⟨(mwsX3_digest_0 _ (List.mem_of_getElem? (i := 23) rfl)), (tk_mem 24 _ (fun w h => (mwsX3_digest_1 _ (tkB_mem 0 24 h))) (tk_mem 14 _ (fun w h => (mwsX3_digest_2 _ (tkB_mem 0 14 h))) (tk_mem 6 _ (fun w h => (mwsX3_digest_11 _ (tkB_mem 0 6 h))) (tk_mem 5 _ (fun w h => (mwsX3_digest_12 _ (tkB_mem 0 5 h))) (tk_mem 7 _ (fun w h => (mwsX3_digest_13 _ (tkB_mem 0 7 h))) (tk_mem 7 _ (fun w h => (mwsX3_digest_14 _ (tkB_mem 0 7 h))) (fun _ h => absurd h List.not_mem_nil)))))))⟩)⟩)⟩)⟩))⟩)) (by decide +kernel)) (goodIn_sub (fun _ h => List.mem_cons_of_mem _ (List.mem_append_left _ (List.mem_append_right _ h))) (by decide +kernel))
set_option maxRecDepth 20000 in
theorem gX3_digest_X3_ledger : GoodIn wsX3_digest (wsV RX3 274 RX3 yX3_ledger wsX3_ledger) := goodIn_app (goodIn_sub (tk_mem 4 _ (fun w h => (mwsX3_digest_0 _ (tkB_mem 3 4 h))) (fun _ h => absurd h List.not_mem_nil)) (by decide +kernel)) ggX3_digest_X3_ledger
set_option maxRecDepth 20000 in
theorem ggX3_digest_X3_mixed : GoodIn wsX3_digest wsX3_mixed := goodIn_sub (List.forall_mem_cons.mpr ⟨(mwsX3_digest_2 _ (List.mem_of_getElem? (i := 16) rfl)), (List.forall_mem_cons.mpr ⟨(mwsX3_digest_2 _ (List.mem_of_getElem? (i := 17) rfl)), (fun _ h => absurd h List.not_mem_nil)⟩)⟩) (by decide +kernel)
set_option maxRecDepth 20000 in
theorem gX3_digest_X3_mixed : GoodIn wsX3_digest (va_wsS RX3 277 yX3_mixed wsX3_mixed) := goodIn_app (goodIn_sub (List.forall_mem_cons.mpr ⟨(mwsX3_digest_2 _ (List.mem_of_getElem? (i := 14) rfl)), (List.forall_mem_cons.mpr ⟨(mwsX3_digest_2 _ (List.mem_of_getElem? (i := 15) rfl)), (List.forall_mem_cons.mpr ⟨(mwsX3_digest_0 _ (List.mem_of_getElem? (i := 6) rfl)), (fun _ h => absurd h List.not_mem_nil)⟩)⟩)⟩) (by decide +kernel)) ggX3_digest_X3_mixed
set_option maxRecDepth 20000 in
theorem ggX3_digest_X3_mixedWithBook : GoodIn wsX3_digest wsX3_mixedWithBook := goodIn_ca (goodIn_ca (goodIn_sub (List.forall_mem_cons.mpr ⟨(mwsX3_digest_2 _ (List.mem_of_getElem? (i := 21) rfl)), (List.forall_mem_cons.mpr ⟨(mwsX3_digest_0 _ (List.mem_of_getElem? (i := 1) rfl)), (List.forall_mem_cons.mpr ⟨(mwsX3_digest_2 _ (List.mem_of_getElem? (i := 22) rfl)), (List.forall_mem_cons.mpr ⟨(mwsX3_digest_2 _ (List.mem_of_getElem? (i := 23) rfl)), (List.forall_mem_cons.mpr ⟨(mwsX3_digest_3 _ (List.mem_of_getElem? (i := 0) rfl)), (List.forall_mem_cons.mpr ⟨(mwsX3_digest_0 _ (List.mem_of_getElem? (i := 6) rfl)), (tk_mem 7 _ (fun w h => (mwsX3_digest_3 _ (tkB_mem 1 7 h))) (tk_mem 5 _ (fun w h => (mwsX3_digest_0 _ (tkB_mem 12 5 h))) (List.forall_mem_cons.mpr ⟨(mwsX3_digest_3 _ (List.mem_of_getElem? (i := 8) rfl)), (List.forall_mem_cons.mpr ⟨(mwsX3_digest_3 _ (List.mem_of_getElem? (i := 9) rfl)), (List.forall_mem_cons.mpr ⟨(mwsX3_digest_3 _ (List.mem_of_getElem? (i := 10) rfl)), (List.forall_mem_cons.mpr ⟨(mwsX3_digest_1 _ (List.mem_of_getElem? (i := 12) rfl)), (tk_mem 13 _ (fun w h => (mwsX3_digest_3 _ (tkB_mem 11 13 h))) (tk_mem 24 _ (fun w h => (mwsX3_digest_4 _ (tkB_mem 0 24 h))) (List.forall_mem_cons.mpr ⟨(mwsX3_digest_0 _ (List.mem_of_getElem? (i := 2) rfl)), (List.forall_mem_cons.mpr ⟨(mwsX3_digest_5 _ (List.mem_of_getElem? (i := 0) rfl)), (tk_mem 5 _ (fun w h => (mwsX3_digest_1 _ (tkB_mem 4 5 h))) (tk_mem 4 _ (fun w h => (mwsX3_digest_2 _ (tkB_mem 14 4 h))) (tk_mem 23 _ (fun w h => (mwsX3_digest_5 _ (tkB_mem 1 23 h))) (tk_mem 23 _ (fun w h => (mwsX3_digest_6 _ (tkB_mem 0 23 h))) (tk_mem 6 _ (fun w h => (mwsX3_digest_11 _ (tkB_mem 0 6 h))) (tk_mem 7 _ (fun w h => (mwsX3_digest_14 _ (tkB_mem 0 7 h))) (tk_mem 7 _ (fun w h => (mwsX3_digest_13 _ (tkB_mem 0 7 h))) (fun _ h => absurd h List.not_mem_nil))))))))⟩)⟩)))⟩)⟩)⟩)⟩)))⟩)⟩)⟩)⟩)⟩)⟩) (by decide +kernel)) (goodIn_sub (fun _ h => List.mem_cons_of_mem _ (List.mem_append_right _ h)) (by decide +kernel))) (goodIn_sub (fun _ h => List.mem_cons_of_mem _ (List.mem_append_left _ (List.mem_append_right _ h))) (by decide +kernel))
set_option maxRecDepth 20000 in
theorem gX3_digest_X3_mixedWithBook : GoodIn wsX3_digest (wsV RX3 281 RX3 yX3_mixedWithBook wsX3_mixedWithBook) := goodIn_app (goodIn_sub (List.forall_mem_cons.mpr ⟨(mwsX3_digest_2 _ (List.mem_of_getElem? (i := 18) rfl)), (List.forall_mem_cons.mpr ⟨(mwsX3_digest_2 _ (List.mem_of_getElem? (i := 19) rfl)), (List.forall_mem_cons.mpr ⟨(mwsX3_digest_2 _ (List.mem_of_getElem? (i := 20) rfl)), (List.forall_mem_cons.mpr ⟨(mwsX3_digest_0 _ (List.mem_of_getElem? (i := 6) rfl)), (fun _ h => absurd h List.not_mem_nil)⟩)⟩)⟩)⟩) (by decide +kernel)) ggX3_digest_X3_mixedWithBook
set_option maxRecDepth 20000 in
theorem ggX3_digest_X3_mixedWithView : GoodIn wsX3_digest wsX3_mixedWithView := goodIn_ca (goodIn_ca (goodIn_sub (tk_mem 4 _ (fun w h => (mwsX3_digest_7 _ (tkB_mem 2 4 h))) (List.forall_mem_cons.mpr ⟨(mwsX3_digest_0 _ (List.mem_of_getElem? (i := 6) rfl)), (List.forall_mem_cons.mpr ⟨(mwsX3_digest_7 _ (List.mem_of_getElem? (i := 6) rfl)), (List.forall_mem_cons.mpr ⟨(mwsX3_digest_3 _ (List.mem_of_getElem? (i := 2) rfl)), (List.forall_mem_cons.mpr ⟨(mwsX3_digest_3 _ (List.mem_of_getElem? (i := 3) rfl)), (List.forall_mem_cons.mpr ⟨(mwsX3_digest_0 _ (List.mem_of_getElem? (i := 2) rfl)), (tk_mem 4 _ (fun w h => (mwsX3_digest_2 _ (tkB_mem 14 4 h))) (tk_mem 4 _ (fun w h => (mwsX3_digest_7 _ (tkB_mem 7 4 h))) (tk_mem 5 _ (fun w h => (mwsX3_digest_0 _ (tkB_mem 12 5 h))) (List.forall_mem_cons.mpr ⟨(mwsX3_digest_7 _ (List.mem_of_getElem? (i := 11) rfl)), (List.forall_mem_cons.mpr ⟨(mwsX3_digest_7 _ (List.mem_of_getElem? (i := 12) rfl)), (List.forall_mem_cons.mpr ⟨(mwsX3_digest_7 _ (List.mem_of_getElem? (i := 13) rfl)), (List.forall_mem_cons.mpr ⟨(mwsX3_digest_1 _ (List.mem_of_getElem? (i := 6) rfl)), (tk_mem 5 _ (fun w h => (mwsX3_digest_7 _ (tkB_mem 14 5 h))) (List.forall_mem_cons.mpr ⟨(mwsX3_digest_1 _ (List.mem_of_getElem? (i := 8) rfl)), (List.forall_mem_cons.mpr ⟨(mwsX3_digest_7 _ (List.mem_of_getElem? (i := 19) rfl)), (List.forall_mem_cons.mpr ⟨(mwsX3_digest_7 _ (List.mem_of_getElem? (i := 20) rfl)), (List.forall_mem_cons.mpr ⟨(mwsX3_digest_6 _ (List.mem_of_getElem? (i := 4) rfl)), (List.forall_mem_cons.mpr ⟨(mwsX3_digest_6 _ (List.mem_of_getElem? (i := 5) rfl)), (List.forall_mem_cons.mpr ⟨(mwsX3_digest_1 _ (List.mem_of_getElem? (i := 12) rfl)), (List.forall_mem_cons.mpr ⟨(mwsX3_digest_6 _ (List.mem_of_getElem? (i := 6) rfl)), (List.forall_mem_cons.mpr ⟨(mwsX3_digest_3 _ (List.mem_of_getElem? (i := 12) rfl)), (List.forall_mem_cons.mpr ⟨(mwsX3_digest_3 _ (List.mem_of_getElem? (i := 22) rfl)), (List.forall_mem_cons.mpr ⟨(mwsX3_digest_5 _ (List.mem_of_getElem? (i := 23) rfl)), (List.forall_mem_cons.mpr ⟨(mwsX3_digest_6 _ (List.mem_of_getElem? (i := 0) rfl)), (List.forall_mem_cons.mpr ⟨(mwsX3_digest_6 _ (List.mem_of_getElem? (i := 1) rfl)), (List.forall_mem_cons.mpr ⟨(mwsX3_digest_6 _ (List.mem_of_getElem? (i := 2) rfl)), (List.forall_mem_cons.mpr ⟨(mwsX3_digest_3 _ (List.mem_of_getElem? (i := 17) rfl)), (List.forall_mem_cons.mpr ⟨(mwsX3_digest_7 _ (List.mem_of_getElem? (i := 21) rfl)), (List.forall_mem_cons.mpr ⟨(mwsX3_digest_7 _ (List.mem_of_getElem? (i := 22) rfl)), (List.forall_mem_cons.mpr ⟨(mwsX3_digest_7 _ (List.mem_of_getElem? (i := 23) rfl)), (List.forall_mem_cons.mpr ⟨(mwsX3_digest_8 _ (List.mem_of_getElem? (i := 0) rfl)), (List.forall_mem_cons.mpr ⟨(mwsX3_digest_8 _ (List.mem_of_getElem? (i := 1) rfl)), (List.forall_mem_cons.mpr ⟨(mwsX3_digest_5 _ (List.mem_of_getElem? (i := 0) rfl)), (List.forall_mem_cons.mpr ⟨(mwsX3_digest_1 _ (List.mem_of_getElem? (i := 4) rfl)), (List.forall_mem_cons.mpr ⟨(mwsX3_digest_1 _ (List.mem_of_getElem? (i := 5) rfl)), (List.forall_mem_cons.mpr ⟨(mwsX3_digest_1 _ (List.mem_of_getElem? (i := 7) rfl)), (List.forall_mem_cons.mpr ⟨(mwsX3_digest_1 _ (List.mem_of_getElem? (i := 9) rfl)), (List.forall_mem_cons.mpr ⟨(mwsX3_digest_1 _ (List.mem_of_getElem? (i := 10) rfl)), (List.forall_mem_cons.mpr ⟨(mwsX3_digest_1 _ (List.mem_of_getElem? (i := 11) rfl)), (List.forall_mem_cons.mpr ⟨(mwsX3_digest_1 _ (List.mem_of_getElem? (i := 13) rfl)), (List.forall_mem_cons.mpr ⟨(mwsX3_digest_1 _ (List.mem_of_getElem? (i := 14) rfl)), (tk_mem 21 _ (fun w h => (mwsX3_digest_8 _ (tkB_mem 2 21 h))) (tk_mem 4 _ (fun w h => (mwsX3_digest_3 _ (tkB_mem 18 4 h))) (List.forall_mem_cons.mpr ⟨(mwsX3_digest_3 _ (List.mem_of_getElem? (i := 23) rfl)), (List.forall_mem_cons.mpr ⟨(mwsX3_digest_4 _ (List.mem_of_getElem? (i := 0) rfl)), (List.forall_mem_cons.mpr ⟨(mwsX3_digest_4 _ (List.mem_of_getElem? (i := 1) rfl)), (List.forall_mem_cons.mpr ⟨(mwsX3_digest_4 _ (List.mem_of_getElem? (i := 2) rfl)), (List.forall_mem_cons.mpr ⟨(mwsX3_digest_8 _ (List.mem_of_getElem? (i := 23) rfl)), (tk_mem 4 _ (fun w h => (mwsX3_digest_4 _ (tkB_mem 8 4 h))) (List.forall_mem_cons.mpr ⟨(mwsX3_digest_4 _ (List.mem_of_getElem? (i := 7) rfl)), (tk_mem 4 _ (fun w h => (mwsX3_digest_9 _ (tkB_mem 0 4 h))) (tk_mem 18 _ (fun w h => (mwsX3_digest_5 _ (tkB_mem 5 18 h))) (List.forall_mem_cons.mpr ⟨(mwsX3_digest_6 _ (List.mem_of_getElem? (i := 3) rfl)), (tk_mem 5 _ (fun w h => (mwsX3_digest_6 _ (tkB_mem 7 5 h))) (tk_mem 10 _ (fun w h => (mwsX3_digest_9 _ (tkB_mem 4 10 h))) (List.forall_mem_cons.mpr ⟨(mwsX3_digest_6 _ (List.mem_of_getElem? (i := 16) rfl)), (List.forall_mem_cons.mpr ⟨(mwsX3_digest_4 _ (List.mem_of_getElem? (i := 4) rfl)), (List.forall_mem_cons.mpr ⟨(mwsX3_digest_4 _ (List.mem_of_getElem? (i := 5) rfl)), (List.forall_mem_cons.mpr ⟨(mwsX3_digest_4 _ (List.mem_of_getElem? (i := 6) rfl)), (tk_mem 6 _ (fun w h => (mwsX3_digest_11 _ (tkB_mem 0 6 h))) (tk_mem 7 _ (fun w h => (mwsX3_digest_13 _ (tkB_mem 0 7 h))) (tk_mem 7 _ (fun w h => (mwsX3_digest_14 _ (tkB_mem 0 7 h))) (fun _ h => absurd h List.not_mem_nil))))⟩)⟩)⟩)⟩)))⟩)))⟩))⟩)⟩)⟩)⟩)⟩)))⟩)⟩)⟩)⟩)⟩)⟩)⟩)⟩)⟩)⟩)⟩)⟩)⟩)⟩)⟩)⟩)⟩)⟩)⟩)⟩)⟩)⟩)⟩)⟩)⟩)⟩)⟩)⟩))⟩)⟩)⟩)⟩))))⟩)⟩)⟩)⟩)⟩)) (by decide +kernel)) (goodIn_sub (fun _ h => List.mem_cons_of_mem _ (List.mem_append_right _ h)) (by decide +kernel))) (goodIn_sub (fun _ h => List.mem_cons_of_mem _ (List.mem_append_left _ (List.mem_append_right _ h))) (by decide +kernel))
set_option maxRecDepth 20000 in
theorem gX3_digest_X3_mixedWithView : GoodIn wsX3_digest (wsV RX3 285 RX3 yX3_mixedWithView wsX3_mixedWithView) := goodIn_app (goodIn_sub (List.forall_mem_cons.mpr ⟨(mwsX3_digest_6 _ (List.mem_of_getElem? (i := 23) rfl)), (List.forall_mem_cons.mpr ⟨(mwsX3_digest_7 _ (List.mem_of_getElem? (i := 0) rfl)), (List.forall_mem_cons.mpr ⟨(mwsX3_digest_7 _ (List.mem_of_getElem? (i := 1) rfl)), (List.forall_mem_cons.mpr ⟨(mwsX3_digest_0 _ (List.mem_of_getElem? (i := 6) rfl)), (fun _ h => absurd h List.not_mem_nil)⟩)⟩)⟩)⟩) (by decide +kernel)) ggX3_digest_X3_mixedWithView
set_option maxRecDepth 20000 in
theorem ggX3_digest_X3_isSound : GoodIn wsX3_digest wsX3_isSound := goodIn_sub (List.forall_mem_cons.mpr ⟨(mwsX3_digest_9 _ (List.mem_of_getElem? (i := 17) rfl)), (List.forall_mem_cons.mpr ⟨(mwsX3_digest_0 _ (List.mem_of_getElem? (i := 2) rfl)), (List.forall_mem_cons.mpr ⟨(mwsX3_digest_0 _ (List.mem_of_getElem? (i := 1) rfl)), (List.forall_mem_cons.mpr ⟨(mwsX3_digest_9 _ (List.mem_of_getElem? (i := 18) rfl)), (List.forall_mem_cons.mpr ⟨(mwsX3_digest_9 _ (List.mem_of_getElem? (i := 19) rfl)), (List.forall_mem_cons.mpr ⟨(mwsX3_digest_9 _ (List.mem_of_getElem? (i := 20) rfl)), (List.forall_mem_cons.mpr ⟨(mwsX3_digest_1 _ (List.mem_of_getElem? (i := 6) rfl)), (List.forall_mem_cons.mpr ⟨(mwsX3_digest_9 _ (List.mem_of_getElem? (i := 21) rfl)), (List.forall_mem_cons.mpr ⟨(mwsX3_digest_1 _ (List.mem_of_getElem? (i := 8) rfl)), (List.forall_mem_cons.mpr ⟨(mwsX3_digest_7 _ (List.mem_of_getElem? (i := 21) rfl)), (List.forall_mem_cons.mpr ⟨(mwsX3_digest_7 _ (List.mem_of_getElem? (i := 22) rfl)), (List.forall_mem_cons.mpr ⟨(mwsX3_digest_7 _ (List.mem_of_getElem? (i := 23) rfl)), (List.forall_mem_cons.mpr ⟨(mwsX3_digest_8 _ (List.mem_of_getElem? (i := 0) rfl)), (List.forall_mem_cons.mpr ⟨(mwsX3_digest_8 _ (List.mem_of_getElem? (i := 1) rfl)), (List.forall_mem_cons.mpr ⟨(mwsX3_digest_7 _ (List.mem_of_getElem? (i := 20) rfl)), (List.forall_mem_cons.mpr ⟨(mwsX3_digest_6 _ (List.mem_of_getElem? (i := 4) rfl)), (List.forall_mem_cons.mpr ⟨(mwsX3_digest_6 _ (List.mem_of_getElem? (i := 5) rfl)), (List.forall_mem_cons.mpr ⟨(mwsX3_digest_1 _ (List.mem_of_getElem? (i := 12) rfl)), (List.forall_mem_cons.mpr ⟨(mwsX3_digest_6 _ (List.mem_of_getElem? (i := 6) rfl)), (List.forall_mem_cons.mpr ⟨(mwsX3_digest_3 _ (List.mem_of_getElem? (i := 12) rfl)), (List.forall_mem_cons.mpr ⟨(mwsX3_digest_3 _ (List.mem_of_getElem? (i := 22) rfl)), (List.forall_mem_cons.mpr ⟨(mwsX3_digest_5 _ (List.mem_of_getElem? (i := 23) rfl)), (List.forall_mem_cons.mpr ⟨(mwsX3_digest_6 _ (List.mem_of_getElem? (i := 0) rfl)), (List.forall_mem_cons.mpr ⟨(mwsX3_digest_6 _ (List.mem_of_getElem? (i := 1) rfl)), (List.forall_mem_cons.mpr ⟨(mwsX3_digest_6 _ (List.mem_of_getElem? (i := 2) rfl)), (List.forall_mem_cons.mpr ⟨(mwsX3_digest_3 _ (List.mem_of_getElem? (i := 17) rfl)), (tk_mem 5 _ (fun w h => (mwsX3_digest_7 _ (tkB_mem 15 5 h))) (List.forall_mem_cons.mpr ⟨(mwsX3_digest_9 _ (List.mem_of_getElem? (i := 22) rfl)), (List.forall_mem_cons.mpr ⟨(mwsX3_digest_3 _ (List.mem_of_getElem? (i := 9) rfl)), (List.forall_mem_cons.mpr ⟨(mwsX3_digest_3 _ (List.mem_of_getElem? (i := 10) rfl)), (List.forall_mem_cons.mpr ⟨(mwsX3_digest_3 _ (List.mem_of_getElem? (i := 11) rfl)), (List.forall_mem_cons.mpr ⟨(mwsX3_digest_9 _ (List.mem_of_getElem? (i := 23) rfl)), (List.forall_mem_cons.mpr ⟨(mwsX3_digest_3 _ (List.mem_of_getElem? (i := 19) rfl)), (List.forall_mem_cons.mpr ⟨(mwsX3_digest_3 _ (List.mem_of_getElem? (i := 20) rfl)), (List.forall_mem_cons.mpr ⟨(mwsX3_digest_3 _ (List.mem_of_getElem? (i := 21) rfl)), (List.forall_mem_cons.mpr ⟨(mwsX3_digest_3 _ (List.mem_of_getElem? (i := 23) rfl)), (List.forall_mem_cons.mpr ⟨(mwsX3_digest_4 _ (List.mem_of_getElem? (i := 0) rfl)), (List.forall_mem_cons.mpr ⟨(mwsX3_digest_4 _ (List.mem_of_getElem? (i := 1) rfl)), (List.forall_mem_cons.mpr ⟨(mwsX3_digest_4 _ (List.mem_of_getElem? (i := 2) rfl)), (tk_mem 9 _ (fun w h => (mwsX3_digest_10 _ (tkB_mem 0 9 h))) (List.forall_mem_cons.mpr ⟨(mwsX3_digest_6 _ (List.mem_of_getElem? (i := 7) rfl)), (tk_mem 5 _ (fun w h => (mwsX3_digest_10 _ (tkB_mem 9 5 h))) (tk_mem 14 _ (fun w h => (mwsX3_digest_5 _ (tkB_mem 9 14 h))) (List.forall_mem_cons.mpr ⟨(mwsX3_digest_6 _ (List.mem_of_getElem? (i := 3) rfl)), (tk_mem 4 _ (fun w h => (mwsX3_digest_6 _ (tkB_mem 8 4 h))) (tk_mem 4 _ (fun w h => (mwsX3_digest_6 _ (tkB_mem 17 4 h))) (List.forall_mem_cons.mpr ⟨(mwsX3_digest_4 _ (List.mem_of_getElem? (i := 7) rfl)), (List.forall_mem_cons.mpr ⟨(mwsX3_digest_6 _ (List.mem_of_getElem? (i := 21) rfl)), (List.forall_mem_cons.mpr ⟨(mwsX3_digest_6 _ (List.mem_of_getElem? (i := 22) rfl)), (tk_mem 4 _ (fun w h => (mwsX3_digest_6 _ (tkB_mem 13 4 h))) (List.forall_mem_cons.mpr ⟨(mwsX3_digest_4 _ (List.mem_of_getElem? (i := 4) rfl)), (List.forall_mem_cons.mpr ⟨(mwsX3_digest_4 _ (List.mem_of_getElem? (i := 5) rfl)), (List.forall_mem_cons.mpr ⟨(mwsX3_digest_4 _ (List.mem_of_getElem? (i := 6) rfl)), (tk_mem 5 _ (fun w h => (mwsX3_digest_10 _ (tkB_mem 14 5 h))) (List.forall_mem_cons.mpr ⟨(mwsX3_digest_4 _ (List.mem_of_getElem? (i := 9) rfl)), (List.forall_mem_cons.mpr ⟨(mwsX3_digest_4 _ (List.mem_of_getElem? (i := 10) rfl)), (List.forall_mem_cons.mpr ⟨(mwsX3_digest_4 _ (List.mem_of_getElem? (i := 11) rfl)), (tk_mem 6 _ (fun w h => (mwsX3_digest_11 _ (tkB_mem 0 6 h))) (tk_mem 7 _ (fun w h => (mwsX3_digest_13 _ (tkB_mem 0 7 h))) (tk_mem 7 _ (fun w h => (mwsX3_digest_14 _ (tkB_mem 0 7 h))) (fun _ h => absurd h List.not_mem_nil))))⟩)⟩)⟩))⟩)⟩)⟩))⟩)⟩)⟩)))⟩)))⟩))⟩)⟩)⟩)⟩)⟩)⟩)⟩)⟩)⟩)⟩)⟩)⟩))⟩)⟩)⟩)⟩)⟩)⟩)⟩)⟩)⟩)⟩)⟩)⟩)⟩)⟩)⟩)⟩)⟩)⟩)⟩)⟩)⟩)⟩)⟩)⟩)⟩)⟩) (by decide +kernel)
set_option maxRecDepth 20000 in
theorem gX3_digest_X3_isSound : GoodIn wsX3_digest (wsV RX3 288 RX3 yX3_isSound wsX3_isSound) := goodIn_app (goodIn_sub (List.forall_mem_cons.mpr ⟨(mwsX3_digest_9 _ (List.mem_of_getElem? (i := 14) rfl)), (List.forall_mem_cons.mpr ⟨(mwsX3_digest_9 _ (List.mem_of_getElem? (i := 15) rfl)), (List.forall_mem_cons.mpr ⟨(mwsX3_digest_9 _ (List.mem_of_getElem? (i := 16) rfl)), (List.forall_mem_cons.mpr ⟨(mwsX3_digest_0 _ (List.mem_of_getElem? (i := 6) rfl)), (fun _ h => absurd h List.not_mem_nil)⟩)⟩)⟩)⟩) (by decide +kernel)) ggX3_digest_X3_isSound
theorem adX3_digest_0 : fd_rows (cX3_digest.data.toList.drop 0) 0 [(0, some (.ldc2_w 272), 3), (3, some (.lstore_n 1), 1), (4, some (.iconst 0), 1), (5, some (.istore_n 3), 1), (6, some (.iload_n 3), 1), (7, some (.bipush 6), 2), (9, some (.if_icmp .gt 20), 3), (12, some (.lload_n 1), 1), (13, some (.aload_n 0), 1), (14, some (.iload_n 3), 1), (15, some (.invokevirtual 274), 3), (18, some (.i2l), 1), (19, some (.invokestatic 277), 3), (22, some (.lstore_n 1), 1), (23, some (.iinc 3 1), 3), (26, some (.goto (-20)), 3)] = true := by decide +kernel
theorem adX3_digest_1 : fd_rows (cX3_digest.data.toList.drop 29) 29 [(29, some (.iconst 0), 1), (30, some (.istore_n 3), 1), (31, some (.iload_n 3), 1), (32, some (.aload_n 0), 1), (33, some (.getfield 11), 3), (36, some (.arraylength), 1), (37, some (.if_icmp .ge 16), 3), (40, some (.aload_n 0), 1), (41, some (.lload_n 1), 1), (42, some (.iload_n 3), 1), (43, some (.invokevirtual 281), 3), (46, some (.lstore_n 1), 1), (47, some (.iinc 3 1), 3), (50, some (.goto (-19)), 3), (53, some (.iconst 0), 1), (54, some (.istore_n 3), 1)] = true := by decide +kernel
theorem adX3_digest_2 : fd_rows (cX3_digest.data.toList.drop 55) 55 [(55, some (.iload_n 3), 1), (56, some (.aload_n 0), 1), (57, some (.getfield 20), 3), (60, some (.arraylength), 1), (61, some (.if_icmp .ge 25), 3), (64, some (.aload_n 0), 1), (65, some (.getfield 20), 3), (68, some (.iload_n 3), 1), (69, some (.aaload), 1), (70, some (.ifnull 10), 3), (73, some (.aload_n 0), 1), (74, some (.lload_n 1), 1), (75, some (.iload_n 3), 1), (76, some (.invokevirtual 285), 3), (79, some (.lstore_n 1), 1), (80, some (.iinc 3 1), 3)] = true := by decide +kernel
theorem adX3_digest_3 : fd_rows (cX3_digest.data.toList.drop 83) 83 [(83, some (.goto (-28)), 3), (86, some (.lload_n 1), 1), (87, some (.aload_n 0), 1), (88, some (.invokevirtual 288), 3), (91, some (.ifCond .eq 7), 3), (94, some (.lconst 1), 1), (95, some (.goto 4), 3), (98, some (.lconst 0), 1), (99, some (.invokestatic 277), 3), (102, some (.lreturn), 1)] = true := by decide +kernel
theorem dX3_digest_0 : decode cX3_digest 0 = .ok (.ldc2_w 272, 3) := fd_get adX3_digest_0 (k := 0) rfl
theorem dX3_digest_3 : decode cX3_digest 3 = .ok (.lstore_n 1, 1) := fd_get adX3_digest_0 (k := 1) rfl
theorem dX3_digest_4 : decode cX3_digest 4 = .ok (.iconst 0, 1) := fd_get adX3_digest_0 (k := 2) rfl
theorem dX3_digest_5 : decode cX3_digest 5 = .ok (.istore_n 3, 1) := fd_get adX3_digest_0 (k := 3) rfl
theorem dX3_digest_6 : decode cX3_digest 6 = .ok (.iload_n 3, 1) := fd_get adX3_digest_0 (k := 4) rfl
theorem dX3_digest_7 : decode cX3_digest 7 = .ok (.bipush 6, 2) := fd_get adX3_digest_0 (k := 5) rfl
theorem dX3_digest_9 : decode cX3_digest 9 = .ok (.if_icmp .gt 20, 3) := fd_get adX3_digest_0 (k := 6) rfl
theorem dX3_digest_12 : decode cX3_digest 12 = .ok (.lload_n 1, 1) := fd_get adX3_digest_0 (k := 7) rfl
theorem dX3_digest_13 : decode cX3_digest 13 = .ok (.aload_n 0, 1) := fd_get adX3_digest_0 (k := 8) rfl
theorem dX3_digest_14 : decode cX3_digest 14 = .ok (.iload_n 3, 1) := fd_get adX3_digest_0 (k := 9) rfl
theorem dX3_digest_15 : decode cX3_digest 15 = .ok (.invokevirtual 274, 3) := fd_get adX3_digest_0 (k := 10) rfl
theorem dX3_digest_18 : decode cX3_digest 18 = .ok (.i2l, 1) := fd_get adX3_digest_0 (k := 11) rfl
theorem dX3_digest_19 : decode cX3_digest 19 = .ok (.invokestatic 277, 3) := fd_get adX3_digest_0 (k := 12) rfl
theorem dX3_digest_22 : decode cX3_digest 22 = .ok (.lstore_n 1, 1) := fd_get adX3_digest_0 (k := 13) rfl
theorem dX3_digest_23 : decode cX3_digest 23 = .ok (.iinc 3 1, 3) := fd_get adX3_digest_0 (k := 14) rfl
theorem dX3_digest_26 : decode cX3_digest 26 = .ok (.goto (-20), 3) := fd_get adX3_digest_0 (k := 15) rfl
theorem dX3_digest_29 : decode cX3_digest 29 = .ok (.iconst 0, 1) := fd_get adX3_digest_1 (k := 0) rfl
theorem dX3_digest_30 : decode cX3_digest 30 = .ok (.istore_n 3, 1) := fd_get adX3_digest_1 (k := 1) rfl
theorem dX3_digest_31 : decode cX3_digest 31 = .ok (.iload_n 3, 1) := fd_get adX3_digest_1 (k := 2) rfl
theorem dX3_digest_32 : decode cX3_digest 32 = .ok (.aload_n 0, 1) := fd_get adX3_digest_1 (k := 3) rfl
theorem dX3_digest_33 : decode cX3_digest 33 = .ok (.getfield 11, 3) := fd_get adX3_digest_1 (k := 4) rfl
theorem dX3_digest_36 : decode cX3_digest 36 = .ok (.arraylength, 1) := fd_get adX3_digest_1 (k := 5) rfl
theorem dX3_digest_37 : decode cX3_digest 37 = .ok (.if_icmp .ge 16, 3) := fd_get adX3_digest_1 (k := 6) rfl
theorem dX3_digest_40 : decode cX3_digest 40 = .ok (.aload_n 0, 1) := fd_get adX3_digest_1 (k := 7) rfl
theorem dX3_digest_41 : decode cX3_digest 41 = .ok (.lload_n 1, 1) := fd_get adX3_digest_1 (k := 8) rfl
theorem dX3_digest_42 : decode cX3_digest 42 = .ok (.iload_n 3, 1) := fd_get adX3_digest_1 (k := 9) rfl
theorem dX3_digest_43 : decode cX3_digest 43 = .ok (.invokevirtual 281, 3) := fd_get adX3_digest_1 (k := 10) rfl
theorem dX3_digest_46 : decode cX3_digest 46 = .ok (.lstore_n 1, 1) := fd_get adX3_digest_1 (k := 11) rfl
theorem dX3_digest_47 : decode cX3_digest 47 = .ok (.iinc 3 1, 3) := fd_get adX3_digest_1 (k := 12) rfl
theorem dX3_digest_50 : decode cX3_digest 50 = .ok (.goto (-19), 3) := fd_get adX3_digest_1 (k := 13) rfl
theorem dX3_digest_53 : decode cX3_digest 53 = .ok (.iconst 0, 1) := fd_get adX3_digest_1 (k := 14) rfl
theorem dX3_digest_54 : decode cX3_digest 54 = .ok (.istore_n 3, 1) := fd_get adX3_digest_1 (k := 15) rfl
theorem dX3_digest_55 : decode cX3_digest 55 = .ok (.iload_n 3, 1) := fd_get adX3_digest_2 (k := 0) rfl
theorem dX3_digest_56 : decode cX3_digest 56 = .ok (.aload_n 0, 1) := fd_get adX3_digest_2 (k := 1) rfl
theorem dX3_digest_57 : decode cX3_digest 57 = .ok (.getfield 20, 3) := fd_get adX3_digest_2 (k := 2) rfl
theorem dX3_digest_60 : decode cX3_digest 60 = .ok (.arraylength, 1) := fd_get adX3_digest_2 (k := 3) rfl
theorem dX3_digest_61 : decode cX3_digest 61 = .ok (.if_icmp .ge 25, 3) := fd_get adX3_digest_2 (k := 4) rfl
theorem dX3_digest_64 : decode cX3_digest 64 = .ok (.aload_n 0, 1) := fd_get adX3_digest_2 (k := 5) rfl
theorem dX3_digest_65 : decode cX3_digest 65 = .ok (.getfield 20, 3) := fd_get adX3_digest_2 (k := 6) rfl
theorem dX3_digest_68 : decode cX3_digest 68 = .ok (.iload_n 3, 1) := fd_get adX3_digest_2 (k := 7) rfl
theorem dX3_digest_69 : decode cX3_digest 69 = .ok (.aaload, 1) := fd_get adX3_digest_2 (k := 8) rfl
theorem dX3_digest_70 : decode cX3_digest 70 = .ok (.ifnull 10, 3) := fd_get adX3_digest_2 (k := 9) rfl
theorem dX3_digest_73 : decode cX3_digest 73 = .ok (.aload_n 0, 1) := fd_get adX3_digest_2 (k := 10) rfl
theorem dX3_digest_74 : decode cX3_digest 74 = .ok (.lload_n 1, 1) := fd_get adX3_digest_2 (k := 11) rfl
theorem dX3_digest_75 : decode cX3_digest 75 = .ok (.iload_n 3, 1) := fd_get adX3_digest_2 (k := 12) rfl
theorem dX3_digest_76 : decode cX3_digest 76 = .ok (.invokevirtual 285, 3) := fd_get adX3_digest_2 (k := 13) rfl
theorem dX3_digest_79 : decode cX3_digest 79 = .ok (.lstore_n 1, 1) := fd_get adX3_digest_2 (k := 14) rfl
theorem dX3_digest_80 : decode cX3_digest 80 = .ok (.iinc 3 1, 3) := fd_get adX3_digest_2 (k := 15) rfl
theorem dX3_digest_83 : decode cX3_digest 83 = .ok (.goto (-28), 3) := fd_get adX3_digest_3 (k := 0) rfl
theorem dX3_digest_86 : decode cX3_digest 86 = .ok (.lload_n 1, 1) := fd_get adX3_digest_3 (k := 1) rfl
theorem dX3_digest_87 : decode cX3_digest 87 = .ok (.aload_n 0, 1) := fd_get adX3_digest_3 (k := 2) rfl
theorem dX3_digest_88 : decode cX3_digest 88 = .ok (.invokevirtual 288, 3) := fd_get adX3_digest_3 (k := 3) rfl
theorem dX3_digest_91 : decode cX3_digest 91 = .ok (.ifCond .eq 7, 3) := fd_get adX3_digest_3 (k := 4) rfl
theorem dX3_digest_94 : decode cX3_digest 94 = .ok (.lconst 1, 1) := fd_get adX3_digest_3 (k := 5) rfl
theorem dX3_digest_95 : decode cX3_digest 95 = .ok (.goto 4, 3) := fd_get adX3_digest_3 (k := 6) rfl
theorem dX3_digest_98 : decode cX3_digest 98 = .ok (.lconst 0, 1) := fd_get adX3_digest_3 (k := 7) rfl
theorem dX3_digest_99 : decode cX3_digest 99 = .ok (.invokestatic 277, 3) := fd_get adX3_digest_3 (k := 8) rfl
theorem dX3_digest_102 : decode cX3_digest 102 = .ok (.lreturn, 1) := fd_get adX3_digest_3 (k := 9) rfl
theorem mwsX3_mixedWithBook_0 : ∀ w ∈ wsX3_mixedWithBook_r1, w ∈ wsX3_mixedWithBook := fun w h => (List.mem_cons_of_mem _ (List.mem_append_left _ (List.mem_append_left _ (List.mem_append_left _ (List.mem_append_left _ (List.mem_append_left _ (List.mem_append_left _ h)))))))
theorem mwsX3_mixedWithBook_1 : ∀ w ∈ wsX3_mixedWithBook_r2, w ∈ wsX3_mixedWithBook := fun w h => (List.mem_cons_of_mem _ (List.mem_append_left _ (List.mem_append_left _ (List.mem_append_left _ (List.mem_append_left _ (List.mem_append_left _ (List.mem_append_right _ (List.mem_append_left _ h))))))))
theorem mwsX3_mixedWithBook_2 : ∀ w ∈ wsX3_mixedWithBook_r3, w ∈ wsX3_mixedWithBook := fun w h => (List.mem_cons_of_mem _ (List.mem_append_left _ (List.mem_append_left _ (List.mem_append_left _ (List.mem_append_left _ (List.mem_append_left _ (List.mem_append_right _ (List.mem_append_right _ (List.mem_append_left _ h)))))))))
theorem mwsX3_mixedWithBook_3 : ∀ w ∈ wsX3_mixedWithBook_r4, w ∈ wsX3_mixedWithBook := fun w h => (List.mem_cons_of_mem _ (List.mem_append_left _ (List.mem_append_left _ (List.mem_append_left _ (List.mem_append_left _ (List.mem_append_left _ (List.mem_append_right _ (List.mem_append_right _ (List.mem_append_right _ (List.mem_append_left _ h))))))))))
theorem mwsX3_mixedWithBook_4 : ∀ w ∈ wsX3_mixedWithBook_r5, w ∈ wsX3_mixedWithBook := fun w h => (List.mem_cons_of_mem _ (List.mem_append_left _ (List.mem_append_left _ (List.mem_append_left _ (List.mem_append_left _ (List.mem_append_left _ (List.mem_append_right _ (List.mem_append_right _ (List.mem_append_right _ (List.mem_append_right _ h))))))))))
theorem mwsX3_mixedWithBook_5 : ∀ w ∈ wsX30, w ∈ wsX3_mixedWithBook := fun w h => (List.mem_cons_of_mem _ (List.mem_append_left _ (List.mem_append_left _ (List.mem_append_left _ (List.mem_append_left _ (List.mem_append_right _ h))))))
theorem mwsX3_mixedWithBook_6 : ∀ w ∈ wsX00, w ∈ wsX3_mixedWithBook := fun w h => (List.mem_cons_of_mem _ (List.mem_append_left _ (List.mem_append_left _ (List.mem_append_left _ (List.mem_append_right _ h)))))
theorem mwsX3_mixedWithBook_7 : ∀ w ∈ wsX10, w ∈ wsX3_mixedWithBook := fun w h => (List.mem_cons_of_mem _ (List.mem_append_left _ (List.mem_append_left _ (List.mem_append_right _ h))))
set_option maxRecDepth 20000 in
theorem ggX3_mixedWithBook_X3_bookAt : GoodIn wsX3_mixedWithBook wsX3_bookAt := goodIn_ca (goodIn_sub (List.forall_mem_cons.mpr ⟨(mwsX3_mixedWithBook_0 _ (List.mem_of_getElem? (i := 5) rfl)), (List.forall_mem_cons.mpr ⟨(mwsX3_mixedWithBook_0 _ (List.mem_of_getElem? (i := 6) rfl)), (List.forall_mem_cons.mpr ⟨(mwsX3_mixedWithBook_0 _ (List.mem_of_getElem? (i := 7) rfl)), (List.forall_mem_cons.mpr ⟨(mwsX3_mixedWithBook_0 _ (List.mem_of_getElem? (i := 0) rfl)), (tk_mem 6 _ (fun w h => (mwsX3_mixedWithBook_5 _ (tkB_mem 0 6 h))) (fun _ h => absurd h List.not_mem_nil))⟩)⟩)⟩)⟩) (by decide +kernel)) (goodIn_sub (fun _ h => List.mem_cons_of_mem _ (List.mem_append_left _ (List.mem_append_right _ h))) (by decide +kernel))
set_option maxRecDepth 20000 in
theorem gX3_mixedWithBook_X3_bookAt : GoodIn wsX3_mixedWithBook (wsV RX3 47 RX3 yX3_bookAt wsX3_bookAt) := goodIn_app (goodIn_sub (tk_mem 4 _ (fun w h => (mwsX3_mixedWithBook_0 _ (tkB_mem 1 4 h))) (fun _ h => absurd h List.not_mem_nil)) (by decide +kernel)) ggX3_mixedWithBook_X3_bookAt
set_option maxRecDepth 20000 in
theorem ggX3_mixedWithBook_X3_ofBook : GoodIn wsX3_mixedWithBook wsX3_ofBook := goodIn_ca (goodIn_ca (goodIn_sub (List.forall_mem_cons.mpr ⟨(mwsX3_mixedWithBook_0 _ (List.mem_of_getElem? (i := 11) rfl)), (tk_mem 7 _ (fun w h => (mwsX3_mixedWithBook_0 _ (tkB_mem 1 7 h))) (List.forall_mem_cons.mpr ⟨(mwsX3_mixedWithBook_0 _ (List.mem_of_getElem? (i := 0) rfl)), (tk_mem 12 _ (fun w h => (mwsX3_mixedWithBook_0 _ (tkB_mem 12 12 h))) (tk_mem 24 _ (fun w h => (mwsX3_mixedWithBook_1 _ (tkB_mem 0 24 h))) (tk_mem 17 _ (fun w h => (mwsX3_mixedWithBook_2 _ (tkB_mem 0 17 h))) (tk_mem 6 _ (fun w h => (mwsX3_mixedWithBook_5 _ (tkB_mem 0 6 h))) (tk_mem 7 _ (fun w h => (mwsX3_mixedWithBook_6 _ (tkB_mem 0 7 h))) (tk_mem 7 _ (fun w h => (mwsX3_mixedWithBook_7 _ (tkB_mem 0 7 h))) (fun _ h => absurd h List.not_mem_nil)))))))⟩))⟩) (by decide +kernel)) (goodIn_sub (fun _ h => List.mem_cons_of_mem _ (List.mem_append_left _ (List.mem_append_right _ h))) (by decide +kernel))) (goodIn_sub (fun _ h => List.mem_cons_of_mem _ (List.mem_append_right _ h)) (by decide +kernel))
set_option maxRecDepth 20000 in
theorem gX3_mixedWithBook_X3_ofBook : GoodIn wsX3_mixedWithBook (wsV RX3 291 RX3 yX3_ofBook wsX3_ofBook) := goodIn_app (goodIn_sub (List.forall_mem_cons.mpr ⟨(mwsX3_mixedWithBook_0 _ (List.mem_of_getElem? (i := 8) rfl)), (List.forall_mem_cons.mpr ⟨(mwsX3_mixedWithBook_0 _ (List.mem_of_getElem? (i := 9) rfl)), (List.forall_mem_cons.mpr ⟨(mwsX3_mixedWithBook_0 _ (List.mem_of_getElem? (i := 10) rfl)), (List.forall_mem_cons.mpr ⟨(mwsX3_mixedWithBook_0 _ (List.mem_of_getElem? (i := 4) rfl)), (fun _ h => absurd h List.not_mem_nil)⟩)⟩)⟩)⟩) (by decide +kernel)) ggX3_mixedWithBook_X3_ofBook
set_option maxRecDepth 20000 in
theorem ggX3_mixedWithBook_X3_mixed : GoodIn wsX3_mixedWithBook wsX3_mixed := goodIn_sub (List.forall_mem_cons.mpr ⟨(mwsX3_mixedWithBook_2 _ (List.mem_of_getElem? (i := 19) rfl)), (List.forall_mem_cons.mpr ⟨(mwsX3_mixedWithBook_2 _ (List.mem_of_getElem? (i := 20) rfl)), (fun _ h => absurd h List.not_mem_nil)⟩)⟩) (by decide +kernel)
set_option maxRecDepth 20000 in
theorem gX3_mixedWithBook_X3_mixed : GoodIn wsX3_mixedWithBook (va_wsS RX3 277 yX3_mixed wsX3_mixed) := goodIn_app (goodIn_sub (List.forall_mem_cons.mpr ⟨(mwsX3_mixedWithBook_2 _ (List.mem_of_getElem? (i := 17) rfl)), (List.forall_mem_cons.mpr ⟨(mwsX3_mixedWithBook_2 _ (List.mem_of_getElem? (i := 18) rfl)), (List.forall_mem_cons.mpr ⟨(mwsX3_mixedWithBook_0 _ (List.mem_of_getElem? (i := 4) rfl)), (fun _ h => absurd h List.not_mem_nil)⟩)⟩)⟩) (by decide +kernel)) ggX3_mixedWithBook_X3_mixed
set_option maxRecDepth 20000 in
theorem ggX3_mixedWithBook_X0_size : GoodIn wsX3_mixedWithBook wsX0_size := goodIn_sub (List.forall_mem_cons.mpr ⟨(mwsX3_mixedWithBook_0 _ (List.mem_of_getElem? (i := 21) rfl)), (List.forall_mem_cons.mpr ⟨(mwsX3_mixedWithBook_0 _ (List.mem_of_getElem? (i := 22) rfl)), (tk_mem 7 _ (fun w h => (mwsX3_mixedWithBook_6 _ (tkB_mem 0 7 h))) (fun _ h => absurd h List.not_mem_nil))⟩)⟩) (by decide +kernel)
set_option maxRecDepth 20000 in
theorem gX3_mixedWithBook_X0_size : GoodIn wsX3_mixedWithBook (wsV RX3 79 RX0 yX0_size wsX0_size) := goodIn_app (goodIn_sub (tk_mem 4 _ (fun w h => (mwsX3_mixedWithBook_0 _ (tkB_mem 17 4 h))) (fun _ h => absurd h List.not_mem_nil)) (by decide +kernel)) ggX3_mixedWithBook_X0_size
set_option maxRecDepth 20000 in
theorem ggX3_mixedWithBook_X0_keyAt : GoodIn wsX3_mixedWithBook wsX0_keyAt := goodIn_sub (tk_mem 5 _ (fun w h => (mwsX3_mixedWithBook_1 _ (tkB_mem 7 5 h))) (List.forall_mem_cons.mpr ⟨(mwsX3_mixedWithBook_0 _ (List.mem_of_getElem? (i := 20) rfl)), (List.forall_mem_cons.mpr ⟨(mwsX3_mixedWithBook_1 _ (List.mem_of_getElem? (i := 12) rfl)), (List.forall_mem_cons.mpr ⟨(mwsX3_mixedWithBook_0 _ (List.mem_of_getElem? (i := 22) rfl)), (tk_mem 7 _ (fun w h => (mwsX3_mixedWithBook_6 _ (tkB_mem 0 7 h))) (fun _ h => absurd h List.not_mem_nil))⟩)⟩)⟩)) (by decide +kernel)
set_option maxRecDepth 20000 in
theorem gX3_mixedWithBook_X0_keyAt : GoodIn wsX3_mixedWithBook (wsV RX3 201 RX0 yX0_keyAt wsX0_keyAt) := goodIn_app (goodIn_sub (List.forall_mem_cons.mpr ⟨(mwsX3_mixedWithBook_1 _ (List.mem_of_getElem? (i := 4) rfl)), (List.forall_mem_cons.mpr ⟨(mwsX3_mixedWithBook_1 _ (List.mem_of_getElem? (i := 5) rfl)), (List.forall_mem_cons.mpr ⟨(mwsX3_mixedWithBook_1 _ (List.mem_of_getElem? (i := 6) rfl)), (List.forall_mem_cons.mpr ⟨(mwsX3_mixedWithBook_0 _ (List.mem_of_getElem? (i := 20) rfl)), (fun _ h => absurd h List.not_mem_nil)⟩)⟩)⟩)⟩) (by decide +kernel)) ggX3_mixedWithBook_X0_keyAt
set_option maxRecDepth 20000 in
theorem ggX3_mixedWithBook_X0_valueAt : GoodIn wsX3_mixedWithBook wsX0_valueAt := goodIn_sub (List.forall_mem_cons.mpr ⟨(mwsX3_mixedWithBook_1 _ (List.mem_of_getElem? (i := 16) rfl)), (List.forall_mem_cons.mpr ⟨(mwsX3_mixedWithBook_1 _ (List.mem_of_getElem? (i := 17) rfl)), (List.forall_mem_cons.mpr ⟨(mwsX3_mixedWithBook_1 _ (List.mem_of_getElem? (i := 9) rfl)), (List.forall_mem_cons.mpr ⟨(mwsX3_mixedWithBook_1 _ (List.mem_of_getElem? (i := 10) rfl)), (List.forall_mem_cons.mpr ⟨(mwsX3_mixedWithBook_1 _ (List.mem_of_getElem? (i := 11) rfl)), (List.forall_mem_cons.mpr ⟨(mwsX3_mixedWithBook_0 _ (List.mem_of_getElem? (i := 20) rfl)), (List.forall_mem_cons.mpr ⟨(mwsX3_mixedWithBook_1 _ (List.mem_of_getElem? (i := 12) rfl)), (List.forall_mem_cons.mpr ⟨(mwsX3_mixedWithBook_0 _ (List.mem_of_getElem? (i := 22) rfl)), (tk_mem 7 _ (fun w h => (mwsX3_mixedWithBook_6 _ (tkB_mem 0 7 h))) (fun _ h => absurd h List.not_mem_nil))⟩)⟩)⟩)⟩)⟩)⟩)⟩)⟩) (by decide +kernel)
set_option maxRecDepth 20000 in
theorem gX3_mixedWithBook_X0_valueAt : GoodIn wsX3_mixedWithBook (wsV RX3 204 RX0 yX0_valueAt wsX0_valueAt) := goodIn_app (goodIn_sub (List.forall_mem_cons.mpr ⟨(mwsX3_mixedWithBook_1 _ (List.mem_of_getElem? (i := 13) rfl)), (List.forall_mem_cons.mpr ⟨(mwsX3_mixedWithBook_1 _ (List.mem_of_getElem? (i := 14) rfl)), (List.forall_mem_cons.mpr ⟨(mwsX3_mixedWithBook_1 _ (List.mem_of_getElem? (i := 15) rfl)), (List.forall_mem_cons.mpr ⟨(mwsX3_mixedWithBook_0 _ (List.mem_of_getElem? (i := 20) rfl)), (fun _ h => absurd h List.not_mem_nil)⟩)⟩)⟩)⟩) (by decide +kernel)) ggX3_mixedWithBook_X0_valueAt
set_option maxRecDepth 20000 in
theorem ggX3_mixedWithBook_X3_near : GoodIn wsX3_mixedWithBook wsX3_near := goodIn_ca (goodIn_ca (goodIn_sub (List.forall_mem_cons.mpr ⟨(mwsX3_mixedWithBook_3 _ (List.mem_of_getElem? (i := 0) rfl)), (tk_mem 7 _ (fun w h => (mwsX3_mixedWithBook_0 _ (tkB_mem 1 7 h))) (List.forall_mem_cons.mpr ⟨(mwsX3_mixedWithBook_0 _ (List.mem_of_getElem? (i := 0) rfl)), (List.forall_mem_cons.mpr ⟨(mwsX3_mixedWithBook_3 _ (List.mem_of_getElem? (i := 1) rfl)), (List.forall_mem_cons.mpr ⟨(mwsX3_mixedWithBook_3 _ (List.mem_of_getElem? (i := 2) rfl)), (List.forall_mem_cons.mpr ⟨(mwsX3_mixedWithBook_3 _ (List.mem_of_getElem? (i := 3) rfl)), (List.forall_mem_cons.mpr ⟨(mwsX3_mixedWithBook_0 _ (List.mem_of_getElem? (i := 15) rfl)), (List.forall_mem_cons.mpr ⟨(mwsX3_mixedWithBook_0 _ (List.mem_of_getElem? (i := 16) rfl)), (List.forall_mem_cons.mpr ⟨(mwsX3_mixedWithBook_0 _ (List.mem_of_getElem? (i := 12) rfl)), (List.forall_mem_cons.mpr ⟨(mwsX3_mixedWithBook_0 _ (List.mem_of_getElem? (i := 13) rfl)), (List.forall_mem_cons.mpr ⟨(mwsX3_mixedWithBook_0 _ (List.mem_of_getElem? (i := 14) rfl)), (tk_mem 6 _ (fun w h => (mwsX3_mixedWithBook_0 _ (tkB_mem 17 6 h))) (tk_mem 19 _ (fun w h => (mwsX3_mixedWithBook_3 _ (tkB_mem 4 19 h))) (List.forall_mem_cons.mpr ⟨(mwsX3_mixedWithBook_1 _ (List.mem_of_getElem? (i := 3) rfl)), (List.forall_mem_cons.mpr ⟨(mwsX3_mixedWithBook_3 _ (List.mem_of_getElem? (i := 23) rfl)), (List.forall_mem_cons.mpr ⟨(mwsX3_mixedWithBook_4 _ (List.mem_of_getElem? (i := 0) rfl)), (List.forall_mem_cons.mpr ⟨(mwsX3_mixedWithBook_4 _ (List.mem_of_getElem? (i := 1) rfl)), (List.forall_mem_cons.mpr ⟨(mwsX3_mixedWithBook_4 _ (List.mem_of_getElem? (i := 2) rfl)), (List.forall_mem_cons.mpr ⟨(mwsX3_mixedWithBook_1 _ (List.mem_of_getElem? (i := 8) rfl)), (List.forall_mem_cons.mpr ⟨(mwsX3_mixedWithBook_4 _ (List.mem_of_getElem? (i := 3) rfl)), (List.forall_mem_cons.mpr ⟨(mwsX3_mixedWithBook_1 _ (List.mem_of_getElem? (i := 5) rfl)), (List.forall_mem_cons.mpr ⟨(mwsX3_mixedWithBook_1 _ (List.mem_of_getElem? (i := 6) rfl)), (List.forall_mem_cons.mpr ⟨(mwsX3_mixedWithBook_1 _ (List.mem_of_getElem? (i := 7) rfl)), (tk_mem 4 _ (fun w h => (mwsX3_mixedWithBook_1 _ (tkB_mem 9 4 h))) (tk_mem 9 _ (fun w h => (mwsX3_mixedWithBook_4 _ (tkB_mem 4 9 h))) (tk_mem 4 _ (fun w h => (mwsX3_mixedWithBook_1 _ (tkB_mem 14 4 h))) (tk_mem 6 _ (fun w h => (mwsX3_mixedWithBook_5 _ (tkB_mem 0 6 h))) (tk_mem 7 _ (fun w h => (mwsX3_mixedWithBook_6 _ (tkB_mem 0 7 h))) (fun _ h => absurd h List.not_mem_nil))))))⟩)⟩)⟩)⟩)⟩)⟩)⟩)⟩)⟩)⟩)))⟩)⟩)⟩)⟩)⟩)⟩)⟩)⟩)⟩))⟩) (by decide +kernel)) (goodIn_sub (fun _ h => List.mem_cons_of_mem _ (List.mem_append_left _ (List.mem_append_right _ h))) (by decide +kernel))) (goodIn_sub (fun _ h => List.mem_cons_of_mem _ (List.mem_append_right _ h)) (by decide +kernel))
set_option maxRecDepth 20000 in
theorem gX3_mixedWithBook_X3_near : GoodIn wsX3_mixedWithBook (wsV RX3 294 RX3 yX3_near wsX3_near) := goodIn_app (goodIn_sub (List.forall_mem_cons.mpr ⟨(mwsX3_mixedWithBook_2 _ (List.mem_of_getElem? (i := 21) rfl)), (List.forall_mem_cons.mpr ⟨(mwsX3_mixedWithBook_2 _ (List.mem_of_getElem? (i := 22) rfl)), (List.forall_mem_cons.mpr ⟨(mwsX3_mixedWithBook_2 _ (List.mem_of_getElem? (i := 23) rfl)), (List.forall_mem_cons.mpr ⟨(mwsX3_mixedWithBook_0 _ (List.mem_of_getElem? (i := 4) rfl)), (fun _ h => absurd h List.not_mem_nil)⟩)⟩)⟩)⟩) (by decide +kernel)) ggX3_mixedWithBook_X3_near
set_option maxRecDepth 20000 in
theorem ggX3_mixedWithBook_X0_isLike : GoodIn wsX3_mixedWithBook wsX0_isLike := goodIn_sub (List.forall_mem_cons.mpr ⟨(mwsX3_mixedWithBook_4 _ (List.mem_of_getElem? (i := 16) rfl)), (List.forall_mem_cons.mpr ⟨(mwsX3_mixedWithBook_0 _ (List.mem_of_getElem? (i := 22) rfl)), (List.forall_mem_cons.mpr ⟨(mwsX3_mixedWithBook_1 _ (List.mem_of_getElem? (i := 8) rfl)), (List.forall_mem_cons.mpr ⟨(mwsX3_mixedWithBook_1 _ (List.mem_of_getElem? (i := 17) rfl)), (List.forall_mem_cons.mpr ⟨(mwsX3_mixedWithBook_4 _ (List.mem_of_getElem? (i := 17) rfl)), (tk_mem 4 _ (fun w h => (mwsX3_mixedWithBook_0 _ (tkB_mem 18 4 h))) (List.forall_mem_cons.mpr ⟨(mwsX3_mixedWithBook_4 _ (List.mem_of_getElem? (i := 18) rfl)), (List.forall_mem_cons.mpr ⟨(mwsX3_mixedWithBook_4 _ (List.mem_of_getElem? (i := 9) rfl)), (List.forall_mem_cons.mpr ⟨(mwsX3_mixedWithBook_4 _ (List.mem_of_getElem? (i := 10) rfl)), (List.forall_mem_cons.mpr ⟨(mwsX3_mixedWithBook_4 _ (List.mem_of_getElem? (i := 11) rfl)), (tk_mem 8 _ (fun w h => (mwsX3_mixedWithBook_3 _ (tkB_mem 15 8 h))) (List.forall_mem_cons.mpr ⟨(mwsX3_mixedWithBook_1 _ (List.mem_of_getElem? (i := 3) rfl)), (List.forall_mem_cons.mpr ⟨(mwsX3_mixedWithBook_3 _ (List.mem_of_getElem? (i := 23) rfl)), (tk_mem 4 _ (fun w h => (mwsX3_mixedWithBook_4 _ (tkB_mem 0 4 h))) (List.forall_mem_cons.mpr ⟨(mwsX3_mixedWithBook_1 _ (List.mem_of_getElem? (i := 5) rfl)), (List.forall_mem_cons.mpr ⟨(mwsX3_mixedWithBook_1 _ (List.mem_of_getElem? (i := 6) rfl)), (List.forall_mem_cons.mpr ⟨(mwsX3_mixedWithBook_1 _ (List.mem_of_getElem? (i := 7) rfl)), (tk_mem 4 _ (fun w h => (mwsX3_mixedWithBook_1 _ (tkB_mem 9 4 h))) (List.forall_mem_cons.mpr ⟨(mwsX3_mixedWithBook_4 _ (List.mem_of_getElem? (i := 12) rfl)), (List.forall_mem_cons.mpr ⟨(mwsX3_mixedWithBook_1 _ (List.mem_of_getElem? (i := 14) rfl)), (List.forall_mem_cons.mpr ⟨(mwsX3_mixedWithBook_1 _ (List.mem_of_getElem? (i := 15) rfl)), (List.forall_mem_cons.mpr ⟨(mwsX3_mixedWithBook_1 _ (List.mem_of_getElem? (i := 16) rfl)), (tk_mem 7 _ (fun w h => (mwsX3_mixedWithBook_6 _ (tkB_mem 0 7 h))) (fun _ h => absurd h List.not_mem_nil))⟩)⟩)⟩)⟩))⟩)⟩)⟩))⟩)⟩))⟩)⟩)⟩)⟩))⟩)⟩)⟩)⟩)⟩) (by decide +kernel)
set_option maxRecDepth 20000 in
theorem gX3_mixedWithBook_X0_isLike : GoodIn wsX3_mixedWithBook (wsV RX3 238 RX0 yX0_isLike wsX0_isLike) := goodIn_app (goodIn_sub (List.forall_mem_cons.mpr ⟨(mwsX3_mixedWithBook_4 _ (List.mem_of_getElem? (i := 13) rfl)), (List.forall_mem_cons.mpr ⟨(mwsX3_mixedWithBook_4 _ (List.mem_of_getElem? (i := 14) rfl)), (List.forall_mem_cons.mpr ⟨(mwsX3_mixedWithBook_4 _ (List.mem_of_getElem? (i := 15) rfl)), (List.forall_mem_cons.mpr ⟨(mwsX3_mixedWithBook_0 _ (List.mem_of_getElem? (i := 20) rfl)), (fun _ h => absurd h List.not_mem_nil)⟩)⟩)⟩)⟩) (by decide +kernel)) ggX3_mixedWithBook_X0_isLike
theorem adX3_mixedWithBook_0 : fd_rows (cX3_mixedWithBook.data.toList.drop 0) 0 [(0, some (.aload_n 0), 1), (1, some (.iload_n 3), 1), (2, some (.invokevirtual 47), 3), (5, some (.astore 4), 2), (7, some (.lload_n 1), 1), (8, some (.lstore 5), 2), (10, some (.iconst 0), 1), (11, some (.istore 7), 2), (13, some (.iload 7), 2), (15, some (.bipush 8), 2), (17, some (.if_icmp .gt 24), 3), (20, some (.lload 5), 2), (22, some (.aload_n 0), 1), (23, some (.iload_n 3), 1), (24, some (.iload 7), 2), (26, some (.invokevirtual 291), 3)] = true := by decide +kernel
theorem adX3_mixedWithBook_1 : fd_rows (cX3_mixedWithBook.data.toList.drop 29) 29 [(29, some (.i2l), 1), (30, some (.invokestatic 277), 3), (33, some (.lstore 5), 2), (35, some (.iinc 7 1), 3), (38, some (.goto (-25)), 3), (41, some (.iconst 0), 1), (42, some (.istore 7), 2), (44, some (.iload 7), 2), (46, some (.aload 4), 2), (48, some (.invokevirtual 79), 3), (51, some (.if_icmp .ge 39), 3), (54, some (.lload 5), 2), (56, some (.aload 4), 2), (58, some (.iload 7), 2), (60, some (.invokevirtual 201), 3), (63, some (.i2l), 1)] = true := by decide +kernel
theorem adX3_mixedWithBook_2 : fd_rows (cX3_mixedWithBook.data.toList.drop 64) 64 [(64, some (.invokestatic 277), 3), (67, some (.lstore 5), 2), (69, some (.lload 5), 2), (71, some (.aload 4), 2), (73, some (.iload 7), 2), (75, some (.invokevirtual 204), 3), (78, some (.i2l), 1), (79, some (.invokestatic 277), 3), (82, some (.lstore 5), 2), (84, some (.iinc 7 1), 3), (87, some (.goto (-43)), 3), (90, some (.iconst 0), 1), (91, some (.istore 7), 2), (93, some (.iload 7), 2), (95, some (.bipush 8), 2), (97, some (.if_icmp .ge 26), 3)] = true := by decide +kernel
theorem adX3_mixedWithBook_3 : fd_rows (cX3_mixedWithBook.data.toList.drop 100) 100 [(100, some (.lload 5), 2), (102, some (.aload_n 0), 1), (103, some (.iload_n 3), 1), (104, some (.bipush 50), 2), (106, some (.iload 7), 2), (108, some (.invokevirtual 294), 3), (111, some (.i2l), 1), (112, some (.invokestatic 277), 3), (115, some (.lstore 5), 2), (117, some (.iinc 7 1), 3), (120, some (.goto (-27)), 3), (123, some (.iconst 0), 1), (124, some (.istore 7), 2), (126, some (.iload 7), 2), (128, some (.aload_n 0), 1), (129, some (.getfield 11), 3)] = true := by decide +kernel
theorem adX3_mixedWithBook_4 : fd_rows (cX3_mixedWithBook.data.toList.drop 132) 132 [(132, some (.arraylength), 1), (133, some (.if_icmp .ge 36), 3), (136, some (.lload 5), 2), (138, some (.aload 4), 2), (140, some (.aload_n 0), 1), (141, some (.getfield 11), 3), (144, some (.iload 7), 2), (146, some (.aaload), 1), (147, some (.invokevirtual 238), 3), (150, some (.ifCond .eq 7), 3), (153, some (.lconst 1), 1), (154, some (.goto 4), 3), (157, some (.lconst 0), 1), (158, some (.invokestatic 277), 3), (161, some (.lstore 5), 2), (163, some (.iinc 7 1), 3)] = true := by decide +kernel
theorem adX3_mixedWithBook_5 : fd_rows (cX3_mixedWithBook.data.toList.drop 166) 166 [(166, some (.goto (-40)), 3), (169, some (.lload 5), 2), (171, some (.lreturn), 1)] = true := by decide +kernel
theorem dX3_mixedWithBook_0 : decode cX3_mixedWithBook 0 = .ok (.aload_n 0, 1) := fd_get adX3_mixedWithBook_0 (k := 0) rfl
theorem dX3_mixedWithBook_1 : decode cX3_mixedWithBook 1 = .ok (.iload_n 3, 1) := fd_get adX3_mixedWithBook_0 (k := 1) rfl
theorem dX3_mixedWithBook_2 : decode cX3_mixedWithBook 2 = .ok (.invokevirtual 47, 3) := fd_get adX3_mixedWithBook_0 (k := 2) rfl
theorem dX3_mixedWithBook_5 : decode cX3_mixedWithBook 5 = .ok (.astore 4, 2) := fd_get adX3_mixedWithBook_0 (k := 3) rfl
theorem dX3_mixedWithBook_7 : decode cX3_mixedWithBook 7 = .ok (.lload_n 1, 1) := fd_get adX3_mixedWithBook_0 (k := 4) rfl
theorem dX3_mixedWithBook_8 : decode cX3_mixedWithBook 8 = .ok (.lstore 5, 2) := fd_get adX3_mixedWithBook_0 (k := 5) rfl
theorem dX3_mixedWithBook_10 : decode cX3_mixedWithBook 10 = .ok (.iconst 0, 1) := fd_get adX3_mixedWithBook_0 (k := 6) rfl
theorem dX3_mixedWithBook_11 : decode cX3_mixedWithBook 11 = .ok (.istore 7, 2) := fd_get adX3_mixedWithBook_0 (k := 7) rfl
theorem dX3_mixedWithBook_13 : decode cX3_mixedWithBook 13 = .ok (.iload 7, 2) := fd_get adX3_mixedWithBook_0 (k := 8) rfl
theorem dX3_mixedWithBook_15 : decode cX3_mixedWithBook 15 = .ok (.bipush 8, 2) := fd_get adX3_mixedWithBook_0 (k := 9) rfl
theorem dX3_mixedWithBook_17 : decode cX3_mixedWithBook 17 = .ok (.if_icmp .gt 24, 3) := fd_get adX3_mixedWithBook_0 (k := 10) rfl
theorem dX3_mixedWithBook_20 : decode cX3_mixedWithBook 20 = .ok (.lload 5, 2) := fd_get adX3_mixedWithBook_0 (k := 11) rfl
theorem dX3_mixedWithBook_22 : decode cX3_mixedWithBook 22 = .ok (.aload_n 0, 1) := fd_get adX3_mixedWithBook_0 (k := 12) rfl
theorem dX3_mixedWithBook_23 : decode cX3_mixedWithBook 23 = .ok (.iload_n 3, 1) := fd_get adX3_mixedWithBook_0 (k := 13) rfl
theorem dX3_mixedWithBook_24 : decode cX3_mixedWithBook 24 = .ok (.iload 7, 2) := fd_get adX3_mixedWithBook_0 (k := 14) rfl
theorem dX3_mixedWithBook_26 : decode cX3_mixedWithBook 26 = .ok (.invokevirtual 291, 3) := fd_get adX3_mixedWithBook_0 (k := 15) rfl
theorem dX3_mixedWithBook_29 : decode cX3_mixedWithBook 29 = .ok (.i2l, 1) := fd_get adX3_mixedWithBook_1 (k := 0) rfl
theorem dX3_mixedWithBook_30 : decode cX3_mixedWithBook 30 = .ok (.invokestatic 277, 3) := fd_get adX3_mixedWithBook_1 (k := 1) rfl
theorem dX3_mixedWithBook_33 : decode cX3_mixedWithBook 33 = .ok (.lstore 5, 2) := fd_get adX3_mixedWithBook_1 (k := 2) rfl
theorem dX3_mixedWithBook_35 : decode cX3_mixedWithBook 35 = .ok (.iinc 7 1, 3) := fd_get adX3_mixedWithBook_1 (k := 3) rfl
theorem dX3_mixedWithBook_38 : decode cX3_mixedWithBook 38 = .ok (.goto (-25), 3) := fd_get adX3_mixedWithBook_1 (k := 4) rfl
theorem dX3_mixedWithBook_41 : decode cX3_mixedWithBook 41 = .ok (.iconst 0, 1) := fd_get adX3_mixedWithBook_1 (k := 5) rfl
theorem dX3_mixedWithBook_42 : decode cX3_mixedWithBook 42 = .ok (.istore 7, 2) := fd_get adX3_mixedWithBook_1 (k := 6) rfl
theorem dX3_mixedWithBook_44 : decode cX3_mixedWithBook 44 = .ok (.iload 7, 2) := fd_get adX3_mixedWithBook_1 (k := 7) rfl
theorem dX3_mixedWithBook_46 : decode cX3_mixedWithBook 46 = .ok (.aload 4, 2) := fd_get adX3_mixedWithBook_1 (k := 8) rfl
theorem dX3_mixedWithBook_48 : decode cX3_mixedWithBook 48 = .ok (.invokevirtual 79, 3) := fd_get adX3_mixedWithBook_1 (k := 9) rfl
theorem dX3_mixedWithBook_51 : decode cX3_mixedWithBook 51 = .ok (.if_icmp .ge 39, 3) := fd_get adX3_mixedWithBook_1 (k := 10) rfl
theorem dX3_mixedWithBook_54 : decode cX3_mixedWithBook 54 = .ok (.lload 5, 2) := fd_get adX3_mixedWithBook_1 (k := 11) rfl
theorem dX3_mixedWithBook_56 : decode cX3_mixedWithBook 56 = .ok (.aload 4, 2) := fd_get adX3_mixedWithBook_1 (k := 12) rfl
theorem dX3_mixedWithBook_58 : decode cX3_mixedWithBook 58 = .ok (.iload 7, 2) := fd_get adX3_mixedWithBook_1 (k := 13) rfl
theorem dX3_mixedWithBook_60 : decode cX3_mixedWithBook 60 = .ok (.invokevirtual 201, 3) := fd_get adX3_mixedWithBook_1 (k := 14) rfl
theorem dX3_mixedWithBook_63 : decode cX3_mixedWithBook 63 = .ok (.i2l, 1) := fd_get adX3_mixedWithBook_1 (k := 15) rfl
theorem dX3_mixedWithBook_64 : decode cX3_mixedWithBook 64 = .ok (.invokestatic 277, 3) := fd_get adX3_mixedWithBook_2 (k := 0) rfl
theorem dX3_mixedWithBook_67 : decode cX3_mixedWithBook 67 = .ok (.lstore 5, 2) := fd_get adX3_mixedWithBook_2 (k := 1) rfl
theorem dX3_mixedWithBook_69 : decode cX3_mixedWithBook 69 = .ok (.lload 5, 2) := fd_get adX3_mixedWithBook_2 (k := 2) rfl
theorem dX3_mixedWithBook_71 : decode cX3_mixedWithBook 71 = .ok (.aload 4, 2) := fd_get adX3_mixedWithBook_2 (k := 3) rfl
theorem dX3_mixedWithBook_73 : decode cX3_mixedWithBook 73 = .ok (.iload 7, 2) := fd_get adX3_mixedWithBook_2 (k := 4) rfl
theorem dX3_mixedWithBook_75 : decode cX3_mixedWithBook 75 = .ok (.invokevirtual 204, 3) := fd_get adX3_mixedWithBook_2 (k := 5) rfl
theorem dX3_mixedWithBook_78 : decode cX3_mixedWithBook 78 = .ok (.i2l, 1) := fd_get adX3_mixedWithBook_2 (k := 6) rfl
theorem dX3_mixedWithBook_79 : decode cX3_mixedWithBook 79 = .ok (.invokestatic 277, 3) := fd_get adX3_mixedWithBook_2 (k := 7) rfl
theorem dX3_mixedWithBook_82 : decode cX3_mixedWithBook 82 = .ok (.lstore 5, 2) := fd_get adX3_mixedWithBook_2 (k := 8) rfl
theorem dX3_mixedWithBook_84 : decode cX3_mixedWithBook 84 = .ok (.iinc 7 1, 3) := fd_get adX3_mixedWithBook_2 (k := 9) rfl
theorem dX3_mixedWithBook_87 : decode cX3_mixedWithBook 87 = .ok (.goto (-43), 3) := fd_get adX3_mixedWithBook_2 (k := 10) rfl
theorem dX3_mixedWithBook_90 : decode cX3_mixedWithBook 90 = .ok (.iconst 0, 1) := fd_get adX3_mixedWithBook_2 (k := 11) rfl
theorem dX3_mixedWithBook_91 : decode cX3_mixedWithBook 91 = .ok (.istore 7, 2) := fd_get adX3_mixedWithBook_2 (k := 12) rfl
theorem dX3_mixedWithBook_93 : decode cX3_mixedWithBook 93 = .ok (.iload 7, 2) := fd_get adX3_mixedWithBook_2 (k := 13) rfl
theorem dX3_mixedWithBook_95 : decode cX3_mixedWithBook 95 = .ok (.bipush 8, 2) := fd_get adX3_mixedWithBook_2 (k := 14) rfl
theorem dX3_mixedWithBook_97 : decode cX3_mixedWithBook 97 = .ok (.if_icmp .ge 26, 3) := fd_get adX3_mixedWithBook_2 (k := 15) rfl
theorem dX3_mixedWithBook_100 : decode cX3_mixedWithBook 100 = .ok (.lload 5, 2) := fd_get adX3_mixedWithBook_3 (k := 0) rfl
theorem dX3_mixedWithBook_102 : decode cX3_mixedWithBook 102 = .ok (.aload_n 0, 1) := fd_get adX3_mixedWithBook_3 (k := 1) rfl
theorem dX3_mixedWithBook_103 : decode cX3_mixedWithBook 103 = .ok (.iload_n 3, 1) := fd_get adX3_mixedWithBook_3 (k := 2) rfl
theorem dX3_mixedWithBook_104 : decode cX3_mixedWithBook 104 = .ok (.bipush 50, 2) := fd_get adX3_mixedWithBook_3 (k := 3) rfl
theorem dX3_mixedWithBook_106 : decode cX3_mixedWithBook 106 = .ok (.iload 7, 2) := fd_get adX3_mixedWithBook_3 (k := 4) rfl
theorem dX3_mixedWithBook_108 : decode cX3_mixedWithBook 108 = .ok (.invokevirtual 294, 3) := fd_get adX3_mixedWithBook_3 (k := 5) rfl
theorem dX3_mixedWithBook_111 : decode cX3_mixedWithBook 111 = .ok (.i2l, 1) := fd_get adX3_mixedWithBook_3 (k := 6) rfl
theorem dX3_mixedWithBook_112 : decode cX3_mixedWithBook 112 = .ok (.invokestatic 277, 3) := fd_get adX3_mixedWithBook_3 (k := 7) rfl
theorem dX3_mixedWithBook_115 : decode cX3_mixedWithBook 115 = .ok (.lstore 5, 2) := fd_get adX3_mixedWithBook_3 (k := 8) rfl
theorem dX3_mixedWithBook_117 : decode cX3_mixedWithBook 117 = .ok (.iinc 7 1, 3) := fd_get adX3_mixedWithBook_3 (k := 9) rfl
theorem dX3_mixedWithBook_120 : decode cX3_mixedWithBook 120 = .ok (.goto (-27), 3) := fd_get adX3_mixedWithBook_3 (k := 10) rfl
theorem dX3_mixedWithBook_123 : decode cX3_mixedWithBook 123 = .ok (.iconst 0, 1) := fd_get adX3_mixedWithBook_3 (k := 11) rfl
theorem dX3_mixedWithBook_124 : decode cX3_mixedWithBook 124 = .ok (.istore 7, 2) := fd_get adX3_mixedWithBook_3 (k := 12) rfl
theorem dX3_mixedWithBook_126 : decode cX3_mixedWithBook 126 = .ok (.iload 7, 2) := fd_get adX3_mixedWithBook_3 (k := 13) rfl
theorem dX3_mixedWithBook_128 : decode cX3_mixedWithBook 128 = .ok (.aload_n 0, 1) := fd_get adX3_mixedWithBook_3 (k := 14) rfl
theorem dX3_mixedWithBook_129 : decode cX3_mixedWithBook 129 = .ok (.getfield 11, 3) := fd_get adX3_mixedWithBook_3 (k := 15) rfl
theorem dX3_mixedWithBook_132 : decode cX3_mixedWithBook 132 = .ok (.arraylength, 1) := fd_get adX3_mixedWithBook_4 (k := 0) rfl
theorem dX3_mixedWithBook_133 : decode cX3_mixedWithBook 133 = .ok (.if_icmp .ge 36, 3) := fd_get adX3_mixedWithBook_4 (k := 1) rfl
theorem dX3_mixedWithBook_136 : decode cX3_mixedWithBook 136 = .ok (.lload 5, 2) := fd_get adX3_mixedWithBook_4 (k := 2) rfl
theorem dX3_mixedWithBook_138 : decode cX3_mixedWithBook 138 = .ok (.aload 4, 2) := fd_get adX3_mixedWithBook_4 (k := 3) rfl
theorem dX3_mixedWithBook_140 : decode cX3_mixedWithBook 140 = .ok (.aload_n 0, 1) := fd_get adX3_mixedWithBook_4 (k := 4) rfl
theorem dX3_mixedWithBook_141 : decode cX3_mixedWithBook 141 = .ok (.getfield 11, 3) := fd_get adX3_mixedWithBook_4 (k := 5) rfl
theorem dX3_mixedWithBook_144 : decode cX3_mixedWithBook 144 = .ok (.iload 7, 2) := fd_get adX3_mixedWithBook_4 (k := 6) rfl
theorem dX3_mixedWithBook_146 : decode cX3_mixedWithBook 146 = .ok (.aaload, 1) := fd_get adX3_mixedWithBook_4 (k := 7) rfl
theorem dX3_mixedWithBook_147 : decode cX3_mixedWithBook 147 = .ok (.invokevirtual 238, 3) := fd_get adX3_mixedWithBook_4 (k := 8) rfl
theorem dX3_mixedWithBook_150 : decode cX3_mixedWithBook 150 = .ok (.ifCond .eq 7, 3) := fd_get adX3_mixedWithBook_4 (k := 9) rfl
theorem dX3_mixedWithBook_153 : decode cX3_mixedWithBook 153 = .ok (.lconst 1, 1) := fd_get adX3_mixedWithBook_4 (k := 10) rfl
theorem dX3_mixedWithBook_154 : decode cX3_mixedWithBook 154 = .ok (.goto 4, 3) := fd_get adX3_mixedWithBook_4 (k := 11) rfl
theorem dX3_mixedWithBook_157 : decode cX3_mixedWithBook 157 = .ok (.lconst 0, 1) := fd_get adX3_mixedWithBook_4 (k := 12) rfl
theorem dX3_mixedWithBook_158 : decode cX3_mixedWithBook 158 = .ok (.invokestatic 277, 3) := fd_get adX3_mixedWithBook_4 (k := 13) rfl
theorem dX3_mixedWithBook_161 : decode cX3_mixedWithBook 161 = .ok (.lstore 5, 2) := fd_get adX3_mixedWithBook_4 (k := 14) rfl
theorem dX3_mixedWithBook_163 : decode cX3_mixedWithBook 163 = .ok (.iinc 7 1, 3) := fd_get adX3_mixedWithBook_4 (k := 15) rfl
theorem dX3_mixedWithBook_166 : decode cX3_mixedWithBook 166 = .ok (.goto (-40), 3) := fd_get adX3_mixedWithBook_5 (k := 0) rfl
theorem dX3_mixedWithBook_169 : decode cX3_mixedWithBook 169 = .ok (.lload 5, 2) := fd_get adX3_mixedWithBook_5 (k := 1) rfl
theorem dX3_mixedWithBook_171 : decode cX3_mixedWithBook 171 = .ok (.lreturn, 1) := fd_get adX3_mixedWithBook_5 (k := 2) rfl
theorem mwsX3_mixedWithView_0 : ∀ w ∈ wsX3_mixedWithView_r1, w ∈ wsX3_mixedWithView := fun w h => (List.mem_cons_of_mem _ (List.mem_append_left _ (List.mem_append_left _ (List.mem_append_left _ (List.mem_append_left _ (List.mem_append_left _ (List.mem_append_left _ h)))))))
theorem mwsX3_mixedWithView_1 : ∀ w ∈ wsX3_mixedWithView_r2, w ∈ wsX3_mixedWithView := fun w h => (List.mem_cons_of_mem _ (List.mem_append_left _ (List.mem_append_left _ (List.mem_append_left _ (List.mem_append_left _ (List.mem_append_left _ (List.mem_append_right _ (List.mem_append_left _ h))))))))
theorem mwsX3_mixedWithView_2 : ∀ w ∈ wsX3_mixedWithView_r3, w ∈ wsX3_mixedWithView := fun w h => (List.mem_cons_of_mem _ (List.mem_append_left _ (List.mem_append_left _ (List.mem_append_left _ (List.mem_append_left _ (List.mem_append_left _ (List.mem_append_right _ (List.mem_append_right _ (List.mem_append_left _ h)))))))))
theorem mwsX3_mixedWithView_3 : ∀ w ∈ wsX3_mixedWithView_r4, w ∈ wsX3_mixedWithView := fun w h => (List.mem_cons_of_mem _ (List.mem_append_left _ (List.mem_append_left _ (List.mem_append_left _ (List.mem_append_left _ (List.mem_append_left _ (List.mem_append_right _ (List.mem_append_right _ (List.mem_append_right _ (List.mem_append_left _ h))))))))))
theorem mwsX3_mixedWithView_4 : ∀ w ∈ wsX3_mixedWithView_r5, w ∈ wsX3_mixedWithView := fun w h => (List.mem_cons_of_mem _ (List.mem_append_left _ (List.mem_append_left _ (List.mem_append_left _ (List.mem_append_left _ (List.mem_append_left _ (List.mem_append_right _ (List.mem_append_right _ (List.mem_append_right _ (List.mem_append_right _ (List.mem_append_left _ h)))))))))))
theorem mwsX3_mixedWithView_5 : ∀ w ∈ wsX3_mixedWithView_r6, w ∈ wsX3_mixedWithView := fun w h => (List.mem_cons_of_mem _ (List.mem_append_left _ (List.mem_append_left _ (List.mem_append_left _ (List.mem_append_left _ (List.mem_append_left _ (List.mem_append_right _ (List.mem_append_right _ (List.mem_append_right _ (List.mem_append_right _ (List.mem_append_right _ h)))))))))))
theorem mwsX3_mixedWithView_6 : ∀ w ∈ wsX30, w ∈ wsX3_mixedWithView := fun w h => (List.mem_cons_of_mem _ (List.mem_append_left _ (List.mem_append_left _ (List.mem_append_left _ (List.mem_append_left _ (List.mem_append_right _ h))))))
theorem mwsX3_mixedWithView_7 : ∀ w ∈ wsX10, w ∈ wsX3_mixedWithView := fun w h => (List.mem_cons_of_mem _ (List.mem_append_left _ (List.mem_append_left _ (List.mem_append_left _ (List.mem_append_right _ h)))))
theorem mwsX3_mixedWithView_8 : ∀ w ∈ wsX00, w ∈ wsX3_mixedWithView := fun w h => (List.mem_cons_of_mem _ (List.mem_append_left _ (List.mem_append_left _ (List.mem_append_right _ h))))
set_option maxRecDepth 20000 in
theorem ggX3_mixedWithView_X3_viewAt : GoodIn wsX3_mixedWithView wsX3_viewAt := goodIn_ca (goodIn_sub (tk_mem 4 _ (fun w h => (mwsX3_mixedWithView_0 _ (tkB_mem 4 4 h))) (tk_mem 6 _ (fun w h => (mwsX3_mixedWithView_6 _ (tkB_mem 0 6 h))) (fun _ h => absurd h List.not_mem_nil))) (by decide +kernel)) (goodIn_sub (fun _ h => List.mem_cons_of_mem _ (List.mem_append_left _ (List.mem_append_right _ h))) (by decide +kernel))
set_option maxRecDepth 20000 in
theorem gX3_mixedWithView_X3_viewAt : GoodIn wsX3_mixedWithView (wsV RX3 158 RX3 yX3_viewAt wsX3_viewAt) := goodIn_app (goodIn_sub (tk_mem 4 _ (fun w h => (mwsX3_mixedWithView_0 _ (tkB_mem 0 4 h))) (fun _ h => absurd h List.not_mem_nil)) (by decide +kernel)) ggX3_mixedWithView_X3_viewAt
set_option maxRecDepth 20000 in
theorem ggX3_mixedWithView_X3_mixed : GoodIn wsX3_mixedWithView wsX3_mixed := goodIn_sub (List.forall_mem_cons.mpr ⟨(mwsX3_mixedWithView_0 _ (List.mem_of_getElem? (i := 10) rfl)), (List.forall_mem_cons.mpr ⟨(mwsX3_mixedWithView_0 _ (List.mem_of_getElem? (i := 11) rfl)), (fun _ h => absurd h List.not_mem_nil)⟩)⟩) (by decide +kernel)
set_option maxRecDepth 20000 in
theorem gX3_mixedWithView_X3_mixed : GoodIn wsX3_mixedWithView (va_wsS RX3 277 yX3_mixed wsX3_mixed) := goodIn_app (goodIn_sub (List.forall_mem_cons.mpr ⟨(mwsX3_mixedWithView_0 _ (List.mem_of_getElem? (i := 8) rfl)), (List.forall_mem_cons.mpr ⟨(mwsX3_mixedWithView_0 _ (List.mem_of_getElem? (i := 9) rfl)), (List.forall_mem_cons.mpr ⟨(mwsX3_mixedWithView_0 _ (List.mem_of_getElem? (i := 3) rfl)), (fun _ h => absurd h List.not_mem_nil)⟩)⟩)⟩) (by decide +kernel)) ggX3_mixedWithView_X3_mixed
set_option maxRecDepth 20000 in
theorem ggX3_mixedWithView_X3_ofView : GoodIn wsX3_mixedWithView wsX3_ofView := goodIn_ca (goodIn_ca (goodIn_sub (List.forall_mem_cons.mpr ⟨(mwsX3_mixedWithView_0 _ (List.mem_of_getElem? (i := 15) rfl)), (tk_mem 8 _ (fun w h => (mwsX3_mixedWithView_0 _ (tkB_mem 0 8 h))) (tk_mem 8 _ (fun w h => (mwsX3_mixedWithView_0 _ (tkB_mem 16 8 h))) (tk_mem 24 _ (fun w h => (mwsX3_mixedWithView_1 _ (tkB_mem 0 24 h))) (tk_mem 24 _ (fun w h => (mwsX3_mixedWithView_2 _ (tkB_mem 0 24 h))) (tk_mem 21 _ (fun w h => (mwsX3_mixedWithView_3 _ (tkB_mem 0 21 h))) (tk_mem 6 _ (fun w h => (mwsX3_mixedWithView_6 _ (tkB_mem 0 6 h))) (tk_mem 7 _ (fun w h => (mwsX3_mixedWithView_7 _ (tkB_mem 0 7 h))) (tk_mem 7 _ (fun w h => (mwsX3_mixedWithView_8 _ (tkB_mem 0 7 h))) (fun _ h => absurd h List.not_mem_nil)))))))))⟩) (by decide +kernel)) (goodIn_sub (fun _ h => List.mem_cons_of_mem _ (List.mem_append_left _ (List.mem_append_right _ h))) (by decide +kernel))) (goodIn_sub (fun _ h => List.mem_cons_of_mem _ (List.mem_append_right _ h)) (by decide +kernel))
set_option maxRecDepth 20000 in
theorem gX3_mixedWithView_X3_ofView : GoodIn wsX3_mixedWithView (wsV RX3 298 RX3 yX3_ofView wsX3_ofView) := goodIn_app (goodIn_sub (List.forall_mem_cons.mpr ⟨(mwsX3_mixedWithView_0 _ (List.mem_of_getElem? (i := 12) rfl)), (List.forall_mem_cons.mpr ⟨(mwsX3_mixedWithView_0 _ (List.mem_of_getElem? (i := 13) rfl)), (List.forall_mem_cons.mpr ⟨(mwsX3_mixedWithView_0 _ (List.mem_of_getElem? (i := 14) rfl)), (List.forall_mem_cons.mpr ⟨(mwsX3_mixedWithView_0 _ (List.mem_of_getElem? (i := 3) rfl)), (fun _ h => absurd h List.not_mem_nil)⟩)⟩)⟩)⟩) (by decide +kernel)) ggX3_mixedWithView_X3_ofView
set_option maxRecDepth 20000 in
theorem ggX3_mixedWithView_X3_viewNear : GoodIn wsX3_mixedWithView wsX3_viewNear := goodIn_ca (goodIn_ca (goodIn_sub (List.forall_mem_cons.mpr ⟨(mwsX3_mixedWithView_4 _ (List.mem_of_getElem? (i := 0) rfl)), (tk_mem 8 _ (fun w h => (mwsX3_mixedWithView_0 _ (tkB_mem 0 8 h))) (List.forall_mem_cons.mpr ⟨(mwsX3_mixedWithView_4 _ (List.mem_of_getElem? (i := 1) rfl)), (List.forall_mem_cons.mpr ⟨(mwsX3_mixedWithView_4 _ (List.mem_of_getElem? (i := 2) rfl)), (List.forall_mem_cons.mpr ⟨(mwsX3_mixedWithView_4 _ (List.mem_of_getElem? (i := 3) rfl)), (List.forall_mem_cons.mpr ⟨(mwsX3_mixedWithView_0 _ (List.mem_of_getElem? (i := 19) rfl)), (List.forall_mem_cons.mpr ⟨(mwsX3_mixedWithView_0 _ (List.mem_of_getElem? (i := 20) rfl)), (List.forall_mem_cons.mpr ⟨(mwsX3_mixedWithView_0 _ (List.mem_of_getElem? (i := 16) rfl)), (List.forall_mem_cons.mpr ⟨(mwsX3_mixedWithView_0 _ (List.mem_of_getElem? (i := 17) rfl)), (List.forall_mem_cons.mpr ⟨(mwsX3_mixedWithView_0 _ (List.mem_of_getElem? (i := 18) rfl)), (List.forall_mem_cons.mpr ⟨(mwsX3_mixedWithView_2 _ (List.mem_of_getElem? (i := 1) rfl)), (List.forall_mem_cons.mpr ⟨(mwsX3_mixedWithView_2 _ (List.mem_of_getElem? (i := 2) rfl)), (List.forall_mem_cons.mpr ⟨(mwsX3_mixedWithView_2 _ (List.mem_of_getElem? (i := 3) rfl)), (List.forall_mem_cons.mpr ⟨(mwsX3_mixedWithView_1 _ (List.mem_of_getElem? (i := 0) rfl)), (List.forall_mem_cons.mpr ⟨(mwsX3_mixedWithView_2 _ (List.mem_of_getElem? (i := 4) rfl)), (List.forall_mem_cons.mpr ⟨(mwsX3_mixedWithView_1 _ (List.mem_of_getElem? (i := 6) rfl)), (List.forall_mem_cons.mpr ⟨(mwsX3_mixedWithView_3 _ (List.mem_of_getElem? (i := 6) rfl)), (List.forall_mem_cons.mpr ⟨(mwsX3_mixedWithView_1 _ (List.mem_of_getElem? (i := 21) rfl)), (List.forall_mem_cons.mpr ⟨(mwsX3_mixedWithView_1 _ (List.mem_of_getElem? (i := 22) rfl)), (List.forall_mem_cons.mpr ⟨(mwsX3_mixedWithView_1 _ (List.mem_of_getElem? (i := 23) rfl)), (List.forall_mem_cons.mpr ⟨(mwsX3_mixedWithView_2 _ (List.mem_of_getElem? (i := 0) rfl)), (tk_mem 12 _ (fun w h => (mwsX3_mixedWithView_1 _ (tkB_mem 8 12 h))) (List.forall_mem_cons.mpr ⟨(mwsX3_mixedWithView_3 _ (List.mem_of_getElem? (i := 15) rfl)), (List.forall_mem_cons.mpr ⟨(mwsX3_mixedWithView_1 _ (List.mem_of_getElem? (i := 3) rfl)), (List.forall_mem_cons.mpr ⟨(mwsX3_mixedWithView_1 _ (List.mem_of_getElem? (i := 4) rfl)), (List.forall_mem_cons.mpr ⟨(mwsX3_mixedWithView_1 _ (List.mem_of_getElem? (i := 5) rfl)), (List.forall_mem_cons.mpr ⟨(mwsX3_mixedWithView_1 _ (List.mem_of_getElem? (i := 7) rfl)), (tk_mem 17 _ (fun w h => (mwsX3_mixedWithView_4 _ (tkB_mem 4 17 h))) (tk_mem 7 _ (fun w h => (mwsX3_mixedWithView_3 _ (tkB_mem 8 7 h))) (List.forall_mem_cons.mpr ⟨(mwsX3_mixedWithView_4 _ (List.mem_of_getElem? (i := 21) rfl)), (List.forall_mem_cons.mpr ⟨(mwsX3_mixedWithView_4 _ (List.mem_of_getElem? (i := 22) rfl)), (List.forall_mem_cons.mpr ⟨(mwsX3_mixedWithView_4 _ (List.mem_of_getElem? (i := 23) rfl)), (List.forall_mem_cons.mpr ⟨(mwsX3_mixedWithView_5 _ (List.mem_of_getElem? (i := 0) rfl)), (tk_mem 6 _ (fun w h => (mwsX3_mixedWithView_6 _ (tkB_mem 0 6 h))) (tk_mem 7 _ (fun w h => (mwsX3_mixedWithView_7 _ (tkB_mem 0 7 h))) (tk_mem 7 _ (fun w h => (mwsX3_mixedWithView_8 _ (tkB_mem 0 7 h))) (fun _ h => absurd h List.not_mem_nil))))⟩)⟩)⟩)⟩)))⟩)⟩)⟩)⟩)⟩))⟩)⟩)⟩)⟩)⟩)⟩)⟩)⟩)⟩)⟩)⟩)⟩)⟩)⟩)⟩)⟩)⟩)⟩)⟩))⟩) (by decide +kernel)) (goodIn_sub (fun _ h => List.mem_cons_of_mem _ (List.mem_append_left _ (List.mem_append_right _ h))) (by decide +kernel))) (goodIn_sub (fun _ h => List.mem_cons_of_mem _ (List.mem_append_right _ h)) (by decide +kernel))
set_option maxRecDepth 20000 in
theorem gX3_mixedWithView_X3_viewNear : GoodIn wsX3_mixedWithView (wsV RX3 301 RX3 yX3_viewNear wsX3_viewNear) := goodIn_app (goodIn_sub (List.forall_mem_cons.mpr ⟨(mwsX3_mixedWithView_3 _ (List.mem_of_getElem? (i := 21) rfl)), (List.forall_mem_cons.mpr ⟨(mwsX3_mixedWithView_3 _ (List.mem_of_getElem? (i := 22) rfl)), (List.forall_mem_cons.mpr ⟨(mwsX3_mixedWithView_3 _ (List.mem_of_getElem? (i := 23) rfl)), (List.forall_mem_cons.mpr ⟨(mwsX3_mixedWithView_0 _ (List.mem_of_getElem? (i := 3) rfl)), (fun _ h => absurd h List.not_mem_nil)⟩)⟩)⟩)⟩) (by decide +kernel)) ggX3_mixedWithView_X3_viewNear
set_option maxRecDepth 20000 in
theorem ggX3_mixedWithView_X1_book : GoodIn wsX3_mixedWithView wsX1_book := goodIn_sub (List.forall_mem_cons.mpr ⟨(mwsX3_mixedWithView_2 _ (List.mem_of_getElem? (i := 4) rfl)), (List.forall_mem_cons.mpr ⟨(mwsX3_mixedWithView_1 _ (List.mem_of_getElem? (i := 6) rfl)), (tk_mem 7 _ (fun w h => (mwsX3_mixedWithView_7 _ (tkB_mem 0 7 h))) (fun _ h => absurd h List.not_mem_nil))⟩)⟩) (by decide +kernel)
set_option maxRecDepth 20000 in
theorem gX3_mixedWithView_X1_book : GoodIn wsX3_mixedWithView (wsV RX3 165 RX1 yX1_book wsX1_book) := goodIn_app (goodIn_sub (List.forall_mem_cons.mpr ⟨(mwsX3_mixedWithView_2 _ (List.mem_of_getElem? (i := 1) rfl)), (List.forall_mem_cons.mpr ⟨(mwsX3_mixedWithView_2 _ (List.mem_of_getElem? (i := 2) rfl)), (List.forall_mem_cons.mpr ⟨(mwsX3_mixedWithView_2 _ (List.mem_of_getElem? (i := 3) rfl)), (List.forall_mem_cons.mpr ⟨(mwsX3_mixedWithView_1 _ (List.mem_of_getElem? (i := 0) rfl)), (fun _ h => absurd h List.not_mem_nil)⟩)⟩)⟩)⟩) (by decide +kernel)) ggX3_mixedWithView_X1_book
set_option maxRecDepth 20000 in
theorem ggX3_mixedWithView_X1_start : GoodIn wsX3_mixedWithView wsX1_start := goodIn_sub (List.forall_mem_cons.mpr ⟨(mwsX3_mixedWithView_1 _ (List.mem_of_getElem? (i := 23) rfl)), (List.forall_mem_cons.mpr ⟨(mwsX3_mixedWithView_1 _ (List.mem_of_getElem? (i := 6) rfl)), (List.forall_mem_cons.mpr ⟨(mwsX3_mixedWithView_2 _ (List.mem_of_getElem? (i := 0) rfl)), (tk_mem 12 _ (fun w h => (mwsX3_mixedWithView_1 _ (tkB_mem 8 12 h))) (tk_mem 7 _ (fun w h => (mwsX3_mixedWithView_7 _ (tkB_mem 0 7 h))) (tk_mem 7 _ (fun w h => (mwsX3_mixedWithView_8 _ (tkB_mem 0 7 h))) (fun _ h => absurd h List.not_mem_nil))))⟩)⟩)⟩) (by decide +kernel)
set_option maxRecDepth 20000 in
theorem gX3_mixedWithView_X1_start : GoodIn wsX3_mixedWithView (wsV RX3 174 RX1 yX1_start wsX1_start) := goodIn_app (goodIn_sub (List.forall_mem_cons.mpr ⟨(mwsX3_mixedWithView_3 _ (List.mem_of_getElem? (i := 6) rfl)), (List.forall_mem_cons.mpr ⟨(mwsX3_mixedWithView_1 _ (List.mem_of_getElem? (i := 21) rfl)), (List.forall_mem_cons.mpr ⟨(mwsX3_mixedWithView_1 _ (List.mem_of_getElem? (i := 22) rfl)), (List.forall_mem_cons.mpr ⟨(mwsX3_mixedWithView_1 _ (List.mem_of_getElem? (i := 0) rfl)), (fun _ h => absurd h List.not_mem_nil)⟩)⟩)⟩)⟩) (by decide +kernel)) ggX3_mixedWithView_X1_start
set_option maxRecDepth 20000 in
theorem ggX3_mixedWithView_X1_end : GoodIn wsX3_mixedWithView wsX1_end := goodIn_sub (tk_mem 15 _ (fun w h => (mwsX3_mixedWithView_1 _ (tkB_mem 5 15 h))) (tk_mem 7 _ (fun w h => (mwsX3_mixedWithView_7 _ (tkB_mem 0 7 h))) (tk_mem 7 _ (fun w h => (mwsX3_mixedWithView_8 _ (tkB_mem 0 7 h))) (fun _ h => absurd h List.not_mem_nil)))) (by decide +kernel)
set_option maxRecDepth 20000 in
theorem gX3_mixedWithView_X1_end : GoodIn wsX3_mixedWithView (wsV RX3 171 RX1 yX1_end wsX1_end) := goodIn_app (goodIn_sub (List.forall_mem_cons.mpr ⟨(mwsX3_mixedWithView_3 _ (List.mem_of_getElem? (i := 15) rfl)), (List.forall_mem_cons.mpr ⟨(mwsX3_mixedWithView_1 _ (List.mem_of_getElem? (i := 3) rfl)), (List.forall_mem_cons.mpr ⟨(mwsX3_mixedWithView_1 _ (List.mem_of_getElem? (i := 4) rfl)), (List.forall_mem_cons.mpr ⟨(mwsX3_mixedWithView_1 _ (List.mem_of_getElem? (i := 0) rfl)), (fun _ h => absurd h List.not_mem_nil)⟩)⟩)⟩)⟩) (by decide +kernel)) ggX3_mixedWithView_X1_end
set_option maxRecDepth 20000 in
theorem ggX3_mixedWithView_X0_textLength : GoodIn wsX3_mixedWithView wsX0_textLength := goodIn_sub (List.forall_mem_cons.mpr ⟨(mwsX3_mixedWithView_5 _ (List.mem_of_getElem? (i := 4) rfl)), (List.forall_mem_cons.mpr ⟨(mwsX3_mixedWithView_4 _ (List.mem_of_getElem? (i := 20) rfl)), (List.forall_mem_cons.mpr ⟨(mwsX3_mixedWithView_3 _ (List.mem_of_getElem? (i := 8) rfl)), (List.forall_mem_cons.mpr ⟨(mwsX3_mixedWithView_3 _ (List.mem_of_getElem? (i := 9) rfl)), (List.forall_mem_cons.mpr ⟨(mwsX3_mixedWithView_1 _ (List.mem_of_getElem? (i := 11) rfl)), (List.forall_mem_cons.mpr ⟨(mwsX3_mixedWithView_3 _ (List.mem_of_getElem? (i := 10) rfl)), (List.forall_mem_cons.mpr ⟨(mwsX3_mixedWithView_1 _ (List.mem_of_getElem? (i := 14) rfl)), (tk_mem 4 _ (fun w h => (mwsX3_mixedWithView_3 _ (tkB_mem 11 4 h))) (List.forall_mem_cons.mpr ⟨(mwsX3_mixedWithView_1 _ (List.mem_of_getElem? (i := 13) rfl)), (tk_mem 5 _ (fun w h => (mwsX3_mixedWithView_5 _ (tkB_mem 5 5 h))) (List.forall_mem_cons.mpr ⟨(mwsX3_mixedWithView_4 _ (List.mem_of_getElem? (i := 10) rfl)), (tk_mem 5 _ (fun w h => (mwsX3_mixedWithView_5 _ (tkB_mem 10 5 h))) (List.forall_mem_cons.mpr ⟨(mwsX3_mixedWithView_3 _ (List.mem_of_getElem? (i := 20) rfl)), (tk_mem 7 _ (fun w h => (mwsX3_mixedWithView_8 _ (tkB_mem 0 7 h))) (fun _ h => absurd h List.not_mem_nil))⟩))⟩))⟩))⟩)⟩)⟩)⟩)⟩)⟩)⟩) (by decide +kernel)
set_option maxRecDepth 20000 in
theorem gX3_mixedWithView_X0_textLength : GoodIn wsX3_mixedWithView (wsV RX3 304 RX0 yX0_textLength wsX0_textLength) := goodIn_app (goodIn_sub (List.forall_mem_cons.mpr ⟨(mwsX3_mixedWithView_5 _ (List.mem_of_getElem? (i := 1) rfl)), (List.forall_mem_cons.mpr ⟨(mwsX3_mixedWithView_5 _ (List.mem_of_getElem? (i := 2) rfl)), (List.forall_mem_cons.mpr ⟨(mwsX3_mixedWithView_5 _ (List.mem_of_getElem? (i := 3) rfl)), (List.forall_mem_cons.mpr ⟨(mwsX3_mixedWithView_1 _ (List.mem_of_getElem? (i := 11) rfl)), (fun _ h => absurd h List.not_mem_nil)⟩)⟩)⟩)⟩) (by decide +kernel)) ggX3_mixedWithView_X0_textLength
theorem adX3_mixedWithView_0 : fd_rows (cX3_mixedWithView.data.toList.drop 0) 0 [(0, some (.aload_n 0), 1), (1, some (.iload_n 3), 1), (2, some (.invokevirtual 158), 3), (5, some (.astore 4), 2), (7, some (.lload_n 1), 1), (8, some (.iload_n 3), 1), (9, some (.i2l), 1), (10, some (.invokestatic 277), 3), (13, some (.lstore 5), 2), (15, some (.iconst 0), 1), (16, some (.istore 7), 2), (18, some (.iload 7), 2), (20, some (.bipush 8), 2), (22, some (.if_icmp .gt 24), 3), (25, some (.lload 5), 2), (27, some (.aload_n 0), 1)] = true := by decide +kernel
theorem adX3_mixedWithView_1 : fd_rows (cX3_mixedWithView.data.toList.drop 28) 28 [(28, some (.iload_n 3), 1), (29, some (.iload 7), 2), (31, some (.invokevirtual 298), 3), (34, some (.i2l), 1), (35, some (.invokestatic 277), 3), (38, some (.lstore 5), 2), (40, some (.iinc 7 1), 3), (43, some (.goto (-25)), 3), (46, some (.iconst 0), 1), (47, some (.istore 7), 2), (49, some (.iload 7), 2), (51, some (.iconst 4), 1), (52, some (.if_icmp .ge 26), 3), (55, some (.lload 5), 2), (57, some (.aload_n 0), 1), (58, some (.iload_n 3), 1)] = true := by decide +kernel
theorem adX3_mixedWithView_2 : fd_rows (cX3_mixedWithView.data.toList.drop 59) 59 [(59, some (.bipush 50), 2), (61, some (.iload 7), 2), (63, some (.invokevirtual 301), 3), (66, some (.i2l), 1), (67, some (.invokestatic 277), 3), (70, some (.lstore 5), 2), (72, some (.iinc 7 1), 3), (75, some (.goto (-26)), 3), (78, some (.lload 5), 2), (80, some (.aload 4), 2), (82, some (.invokevirtual 165), 3), (85, some (.aload 4), 2), (87, some (.invokevirtual 174), 3), (90, some (.aload 4), 2), (92, some (.invokevirtual 171), 3), (95, some (.invokevirtual 304), 3)] = true := by decide +kernel
theorem adX3_mixedWithView_3 : fd_rows (cX3_mixedWithView.data.toList.drop 98) 98 [(98, some (.i2l), 1), (99, some (.invokestatic 277), 3), (102, some (.lreturn), 1)] = true := by decide +kernel
theorem dX3_mixedWithView_0 : decode cX3_mixedWithView 0 = .ok (.aload_n 0, 1) := fd_get adX3_mixedWithView_0 (k := 0) rfl
theorem dX3_mixedWithView_1 : decode cX3_mixedWithView 1 = .ok (.iload_n 3, 1) := fd_get adX3_mixedWithView_0 (k := 1) rfl
theorem dX3_mixedWithView_2 : decode cX3_mixedWithView 2 = .ok (.invokevirtual 158, 3) := fd_get adX3_mixedWithView_0 (k := 2) rfl
theorem dX3_mixedWithView_5 : decode cX3_mixedWithView 5 = .ok (.astore 4, 2) := fd_get adX3_mixedWithView_0 (k := 3) rfl
theorem dX3_mixedWithView_7 : decode cX3_mixedWithView 7 = .ok (.lload_n 1, 1) := fd_get adX3_mixedWithView_0 (k := 4) rfl
theorem dX3_mixedWithView_8 : decode cX3_mixedWithView 8 = .ok (.iload_n 3, 1) := fd_get adX3_mixedWithView_0 (k := 5) rfl
theorem dX3_mixedWithView_9 : decode cX3_mixedWithView 9 = .ok (.i2l, 1) := fd_get adX3_mixedWithView_0 (k := 6) rfl
theorem dX3_mixedWithView_10 : decode cX3_mixedWithView 10 = .ok (.invokestatic 277, 3) := fd_get adX3_mixedWithView_0 (k := 7) rfl
theorem dX3_mixedWithView_13 : decode cX3_mixedWithView 13 = .ok (.lstore 5, 2) := fd_get adX3_mixedWithView_0 (k := 8) rfl
theorem dX3_mixedWithView_15 : decode cX3_mixedWithView 15 = .ok (.iconst 0, 1) := fd_get adX3_mixedWithView_0 (k := 9) rfl
theorem dX3_mixedWithView_16 : decode cX3_mixedWithView 16 = .ok (.istore 7, 2) := fd_get adX3_mixedWithView_0 (k := 10) rfl
theorem dX3_mixedWithView_18 : decode cX3_mixedWithView 18 = .ok (.iload 7, 2) := fd_get adX3_mixedWithView_0 (k := 11) rfl
theorem dX3_mixedWithView_20 : decode cX3_mixedWithView 20 = .ok (.bipush 8, 2) := fd_get adX3_mixedWithView_0 (k := 12) rfl
theorem dX3_mixedWithView_22 : decode cX3_mixedWithView 22 = .ok (.if_icmp .gt 24, 3) := fd_get adX3_mixedWithView_0 (k := 13) rfl
theorem dX3_mixedWithView_25 : decode cX3_mixedWithView 25 = .ok (.lload 5, 2) := fd_get adX3_mixedWithView_0 (k := 14) rfl
theorem dX3_mixedWithView_27 : decode cX3_mixedWithView 27 = .ok (.aload_n 0, 1) := fd_get adX3_mixedWithView_0 (k := 15) rfl
theorem dX3_mixedWithView_28 : decode cX3_mixedWithView 28 = .ok (.iload_n 3, 1) := fd_get adX3_mixedWithView_1 (k := 0) rfl
theorem dX3_mixedWithView_29 : decode cX3_mixedWithView 29 = .ok (.iload 7, 2) := fd_get adX3_mixedWithView_1 (k := 1) rfl
theorem dX3_mixedWithView_31 : decode cX3_mixedWithView 31 = .ok (.invokevirtual 298, 3) := fd_get adX3_mixedWithView_1 (k := 2) rfl
theorem dX3_mixedWithView_34 : decode cX3_mixedWithView 34 = .ok (.i2l, 1) := fd_get adX3_mixedWithView_1 (k := 3) rfl
theorem dX3_mixedWithView_35 : decode cX3_mixedWithView 35 = .ok (.invokestatic 277, 3) := fd_get adX3_mixedWithView_1 (k := 4) rfl
theorem dX3_mixedWithView_38 : decode cX3_mixedWithView 38 = .ok (.lstore 5, 2) := fd_get adX3_mixedWithView_1 (k := 5) rfl
theorem dX3_mixedWithView_40 : decode cX3_mixedWithView 40 = .ok (.iinc 7 1, 3) := fd_get adX3_mixedWithView_1 (k := 6) rfl
theorem dX3_mixedWithView_43 : decode cX3_mixedWithView 43 = .ok (.goto (-25), 3) := fd_get adX3_mixedWithView_1 (k := 7) rfl
theorem dX3_mixedWithView_46 : decode cX3_mixedWithView 46 = .ok (.iconst 0, 1) := fd_get adX3_mixedWithView_1 (k := 8) rfl
theorem dX3_mixedWithView_47 : decode cX3_mixedWithView 47 = .ok (.istore 7, 2) := fd_get adX3_mixedWithView_1 (k := 9) rfl
theorem dX3_mixedWithView_49 : decode cX3_mixedWithView 49 = .ok (.iload 7, 2) := fd_get adX3_mixedWithView_1 (k := 10) rfl
theorem dX3_mixedWithView_51 : decode cX3_mixedWithView 51 = .ok (.iconst 4, 1) := fd_get adX3_mixedWithView_1 (k := 11) rfl
theorem dX3_mixedWithView_52 : decode cX3_mixedWithView 52 = .ok (.if_icmp .ge 26, 3) := fd_get adX3_mixedWithView_1 (k := 12) rfl
theorem dX3_mixedWithView_55 : decode cX3_mixedWithView 55 = .ok (.lload 5, 2) := fd_get adX3_mixedWithView_1 (k := 13) rfl
theorem dX3_mixedWithView_57 : decode cX3_mixedWithView 57 = .ok (.aload_n 0, 1) := fd_get adX3_mixedWithView_1 (k := 14) rfl
theorem dX3_mixedWithView_58 : decode cX3_mixedWithView 58 = .ok (.iload_n 3, 1) := fd_get adX3_mixedWithView_1 (k := 15) rfl
theorem dX3_mixedWithView_59 : decode cX3_mixedWithView 59 = .ok (.bipush 50, 2) := fd_get adX3_mixedWithView_2 (k := 0) rfl
theorem dX3_mixedWithView_61 : decode cX3_mixedWithView 61 = .ok (.iload 7, 2) := fd_get adX3_mixedWithView_2 (k := 1) rfl
theorem dX3_mixedWithView_63 : decode cX3_mixedWithView 63 = .ok (.invokevirtual 301, 3) := fd_get adX3_mixedWithView_2 (k := 2) rfl
theorem dX3_mixedWithView_66 : decode cX3_mixedWithView 66 = .ok (.i2l, 1) := fd_get adX3_mixedWithView_2 (k := 3) rfl
theorem dX3_mixedWithView_67 : decode cX3_mixedWithView 67 = .ok (.invokestatic 277, 3) := fd_get adX3_mixedWithView_2 (k := 4) rfl
theorem dX3_mixedWithView_70 : decode cX3_mixedWithView 70 = .ok (.lstore 5, 2) := fd_get adX3_mixedWithView_2 (k := 5) rfl
theorem dX3_mixedWithView_72 : decode cX3_mixedWithView 72 = .ok (.iinc 7 1, 3) := fd_get adX3_mixedWithView_2 (k := 6) rfl
theorem dX3_mixedWithView_75 : decode cX3_mixedWithView 75 = .ok (.goto (-26), 3) := fd_get adX3_mixedWithView_2 (k := 7) rfl
theorem dX3_mixedWithView_78 : decode cX3_mixedWithView 78 = .ok (.lload 5, 2) := fd_get adX3_mixedWithView_2 (k := 8) rfl
theorem dX3_mixedWithView_80 : decode cX3_mixedWithView 80 = .ok (.aload 4, 2) := fd_get adX3_mixedWithView_2 (k := 9) rfl
theorem dX3_mixedWithView_82 : decode cX3_mixedWithView 82 = .ok (.invokevirtual 165, 3) := fd_get adX3_mixedWithView_2 (k := 10) rfl
theorem dX3_mixedWithView_85 : decode cX3_mixedWithView 85 = .ok (.aload 4, 2) := fd_get adX3_mixedWithView_2 (k := 11) rfl
theorem dX3_mixedWithView_87 : decode cX3_mixedWithView 87 = .ok (.invokevirtual 174, 3) := fd_get adX3_mixedWithView_2 (k := 12) rfl
theorem dX3_mixedWithView_90 : decode cX3_mixedWithView 90 = .ok (.aload 4, 2) := fd_get adX3_mixedWithView_2 (k := 13) rfl
theorem dX3_mixedWithView_92 : decode cX3_mixedWithView 92 = .ok (.invokevirtual 171, 3) := fd_get adX3_mixedWithView_2 (k := 14) rfl
theorem dX3_mixedWithView_95 : decode cX3_mixedWithView 95 = .ok (.invokevirtual 304, 3) := fd_get adX3_mixedWithView_2 (k := 15) rfl
theorem dX3_mixedWithView_98 : decode cX3_mixedWithView 98 = .ok (.i2l, 1) := fd_get adX3_mixedWithView_3 (k := 0) rfl
theorem dX3_mixedWithView_99 : decode cX3_mixedWithView 99 = .ok (.invokestatic 277, 3) := fd_get adX3_mixedWithView_3 (k := 1) rfl
theorem dX3_mixedWithView_102 : decode cX3_mixedWithView 102 = .ok (.lreturn, 1) := fd_get adX3_mixedWithView_3 (k := 2) rfl
theorem adX3_mixed_0 : fd_rows (cX3_mixed.data.toList.drop 0) 0 [(0, some (.lload_n 0), 1), (1, some (.ldc2_w 307), 3), (4, some (.lmul), 1), (5, some (.lload_n 2), 1), (6, some (.ladd), 1), (7, some (.lreturn), 1)] = true := by decide +kernel
theorem dX3_mixed_0 : decode cX3_mixed 0 = .ok (.lload_n 0, 1) := fd_get adX3_mixed_0 (k := 0) rfl
theorem dX3_mixed_1 : decode cX3_mixed 1 = .ok (.ldc2_w 307, 3) := fd_get adX3_mixed_0 (k := 1) rfl
theorem dX3_mixed_4 : decode cX3_mixed 4 = .ok (.lmul, 1) := fd_get adX3_mixed_0 (k := 2) rfl
theorem dX3_mixed_5 : decode cX3_mixed 5 = .ok (.lload_n 2, 1) := fd_get adX3_mixed_0 (k := 3) rfl
theorem dX3_mixed_6 : decode cX3_mixed 6 = .ok (.ladd, 1) := fd_get adX3_mixed_0 (k := 4) rfl
theorem dX3_mixed_7 : decode cX3_mixed 7 = .ok (.lreturn, 1) := fd_get adX3_mixed_0 (k := 5) rfl
theorem adX3_bookAt_0 : fd_rows (cX3_bookAt.data.toList.drop 0) 0 [(0, some (.iload_n 1), 1), (1, some (.ifCond .lt 12), 3), (4, some (.iload_n 1), 1), (5, some (.aload_n 0), 1), (6, some (.getfield 11), 3), (9, some (.arraylength), 1), (10, some (.if_icmp .lt 14), 3), (13, some (.new 309), 3), (16, some (.dup), 1), (17, some (.ldc_w 311), 3), (20, some (.invokespecial 313), 3), (23, some (.athrow), 1), (24, some (.aload_n 0), 1), (25, some (.getfield 11), 3), (28, some (.iload_n 1), 1), (29, some (.aaload), 1)] = true := by decide +kernel
theorem adX3_bookAt_1 : fd_rows (cX3_bookAt.data.toList.drop 30) 30 [(30, some (.areturn), 1)] = true := by decide +kernel
theorem dX3_bookAt_0 : decode cX3_bookAt 0 = .ok (.iload_n 1, 1) := fd_get adX3_bookAt_0 (k := 0) rfl
theorem dX3_bookAt_1 : decode cX3_bookAt 1 = .ok (.ifCond .lt 12, 3) := fd_get adX3_bookAt_0 (k := 1) rfl
theorem dX3_bookAt_4 : decode cX3_bookAt 4 = .ok (.iload_n 1, 1) := fd_get adX3_bookAt_0 (k := 2) rfl
theorem dX3_bookAt_5 : decode cX3_bookAt 5 = .ok (.aload_n 0, 1) := fd_get adX3_bookAt_0 (k := 3) rfl
theorem dX3_bookAt_6 : decode cX3_bookAt 6 = .ok (.getfield 11, 3) := fd_get adX3_bookAt_0 (k := 4) rfl
theorem dX3_bookAt_9 : decode cX3_bookAt 9 = .ok (.arraylength, 1) := fd_get adX3_bookAt_0 (k := 5) rfl
theorem dX3_bookAt_10 : decode cX3_bookAt 10 = .ok (.if_icmp .lt 14, 3) := fd_get adX3_bookAt_0 (k := 6) rfl
theorem dX3_bookAt_13 : decode cX3_bookAt 13 = .ok (.new 309, 3) := fd_get adX3_bookAt_0 (k := 7) rfl
theorem dX3_bookAt_16 : decode cX3_bookAt 16 = .ok (.dup, 1) := fd_get adX3_bookAt_0 (k := 8) rfl
theorem dX3_bookAt_17 : decode cX3_bookAt 17 = .ok (.ldc_w 311, 3) := fd_get adX3_bookAt_0 (k := 9) rfl
theorem dX3_bookAt_20 : decode cX3_bookAt 20 = .ok (.invokespecial 313, 3) := fd_get adX3_bookAt_0 (k := 10) rfl
theorem dX3_bookAt_23 : decode cX3_bookAt 23 = .ok (.athrow, 1) := fd_get adX3_bookAt_0 (k := 11) rfl
theorem dX3_bookAt_24 : decode cX3_bookAt 24 = .ok (.aload_n 0, 1) := fd_get adX3_bookAt_0 (k := 12) rfl
theorem dX3_bookAt_25 : decode cX3_bookAt 25 = .ok (.getfield 11, 3) := fd_get adX3_bookAt_0 (k := 13) rfl
theorem dX3_bookAt_28 : decode cX3_bookAt 28 = .ok (.iload_n 1, 1) := fd_get adX3_bookAt_0 (k := 14) rfl
theorem dX3_bookAt_29 : decode cX3_bookAt 29 = .ok (.aaload, 1) := fd_get adX3_bookAt_0 (k := 15) rfl
theorem dX3_bookAt_30 : decode cX3_bookAt 30 = .ok (.areturn, 1) := fd_get adX3_bookAt_1 (k := 0) rfl
theorem adX3_viewAt_0 : fd_rows (cX3_viewAt.data.toList.drop 0) 0 [(0, some (.iload_n 1), 1), (1, some (.ifCond .lt 21), 3), (4, some (.iload_n 1), 1), (5, some (.aload_n 0), 1), (6, some (.getfield 20), 3), (9, some (.arraylength), 1), (10, some (.if_icmp .ge 12), 3), (13, some (.aload_n 0), 1), (14, some (.getfield 20), 3), (17, some (.iload_n 1), 1), (18, some (.aaload), 1), (19, some (.ifnonnull 14), 3), (22, some (.new 309), 3), (25, some (.dup), 1), (26, some (.ldc_w 314), 3), (29, some (.invokespecial 313), 3)] = true := by decide +kernel
theorem adX3_viewAt_1 : fd_rows (cX3_viewAt.data.toList.drop 32) 32 [(32, some (.athrow), 1), (33, some (.aload_n 0), 1), (34, some (.getfield 20), 3), (37, some (.iload_n 1), 1), (38, some (.aaload), 1), (39, some (.areturn), 1)] = true := by decide +kernel
theorem dX3_viewAt_0 : decode cX3_viewAt 0 = .ok (.iload_n 1, 1) := fd_get adX3_viewAt_0 (k := 0) rfl
theorem dX3_viewAt_1 : decode cX3_viewAt 1 = .ok (.ifCond .lt 21, 3) := fd_get adX3_viewAt_0 (k := 1) rfl
theorem dX3_viewAt_4 : decode cX3_viewAt 4 = .ok (.iload_n 1, 1) := fd_get adX3_viewAt_0 (k := 2) rfl
theorem dX3_viewAt_5 : decode cX3_viewAt 5 = .ok (.aload_n 0, 1) := fd_get adX3_viewAt_0 (k := 3) rfl
theorem dX3_viewAt_6 : decode cX3_viewAt 6 = .ok (.getfield 20, 3) := fd_get adX3_viewAt_0 (k := 4) rfl
theorem dX3_viewAt_9 : decode cX3_viewAt 9 = .ok (.arraylength, 1) := fd_get adX3_viewAt_0 (k := 5) rfl
theorem dX3_viewAt_10 : decode cX3_viewAt 10 = .ok (.if_icmp .ge 12, 3) := fd_get adX3_viewAt_0 (k := 6) rfl
theorem dX3_viewAt_13 : decode cX3_viewAt 13 = .ok (.aload_n 0, 1) := fd_get adX3_viewAt_0 (k := 7) rfl
theorem dX3_viewAt_14 : decode cX3_viewAt 14 = .ok (.getfield 20, 3) := fd_get adX3_viewAt_0 (k := 8) rfl
theorem dX3_viewAt_17 : decode cX3_viewAt 17 = .ok (.iload_n 1, 1) := fd_get adX3_viewAt_0 (k := 9) rfl
theorem dX3_viewAt_18 : decode cX3_viewAt 18 = .ok (.aaload, 1) := fd_get adX3_viewAt_0 (k := 10) rfl
theorem dX3_viewAt_19 : decode cX3_viewAt 19 = .ok (.ifnonnull 14, 3) := fd_get adX3_viewAt_0 (k := 11) rfl
theorem dX3_viewAt_22 : decode cX3_viewAt 22 = .ok (.new 309, 3) := fd_get adX3_viewAt_0 (k := 12) rfl
theorem dX3_viewAt_25 : decode cX3_viewAt 25 = .ok (.dup, 1) := fd_get adX3_viewAt_0 (k := 13) rfl
theorem dX3_viewAt_26 : decode cX3_viewAt 26 = .ok (.ldc_w 314, 3) := fd_get adX3_viewAt_0 (k := 14) rfl
theorem dX3_viewAt_29 : decode cX3_viewAt 29 = .ok (.invokespecial 313, 3) := fd_get adX3_viewAt_0 (k := 15) rfl
theorem dX3_viewAt_32 : decode cX3_viewAt 32 = .ok (.athrow, 1) := fd_get adX3_viewAt_1 (k := 0) rfl
theorem dX3_viewAt_33 : decode cX3_viewAt 33 = .ok (.aload_n 0, 1) := fd_get adX3_viewAt_1 (k := 1) rfl
theorem dX3_viewAt_34 : decode cX3_viewAt 34 = .ok (.getfield 20, 3) := fd_get adX3_viewAt_1 (k := 2) rfl
theorem dX3_viewAt_37 : decode cX3_viewAt 37 = .ok (.iload_n 1, 1) := fd_get adX3_viewAt_1 (k := 3) rfl
theorem dX3_viewAt_38 : decode cX3_viewAt 38 = .ok (.aaload, 1) := fd_get adX3_viewAt_1 (k := 4) rfl
theorem dX3_viewAt_39 : decode cX3_viewAt 39 = .ok (.areturn, 1) := fd_get adX3_viewAt_1 (k := 5) rfl
theorem mwsX3_bookToWriteKey_0 : ∀ w ∈ wsX30, w ∈ wsX3_bookToWriteKey := fun w h => (List.mem_cons_of_mem _ (List.mem_append_left _ (List.mem_append_left _ (List.mem_append_left _ (List.mem_append_right _ h)))))
theorem mwsX3_bookToWriteKey_1 : ∀ w ∈ wsX00, w ∈ wsX3_bookToWriteKey := fun w h => (List.mem_cons_of_mem _ (List.mem_append_left _ (List.mem_append_left _ (List.mem_append_right _ h))))
set_option maxRecDepth 20000 in
theorem ggX3_bookToWriteKey_X3_bookAt : GoodIn wsX3_bookToWriteKey wsX3_bookAt := goodIn_ca (goodIn_sub (tk_mem 4 _ (fun w h => (List.mem_cons_of_mem _ (List.mem_append_left _ (List.mem_append_left _ (List.mem_append_left _ (List.mem_append_left _ (tkB_mem 4 4 h))))))) (tk_mem 6 _ (fun w h => (mwsX3_bookToWriteKey_0 _ (tkB_mem 0 6 h))) (fun _ h => absurd h List.not_mem_nil))) (by decide +kernel)) (goodIn_sub (fun _ h => List.mem_cons_of_mem _ (List.mem_append_left _ (List.mem_append_right _ h))) (by decide +kernel))
set_option maxRecDepth 20000 in
theorem gX3_bookToWriteKey_X3_bookAt : GoodIn wsX3_bookToWriteKey (wsV RX3 47 RX3 yX3_bookAt wsX3_bookAt) := goodIn_app (goodIn_sub (tk_mem 4 _ (fun w h => (List.mem_cons_of_mem _ (List.mem_append_left _ (List.mem_append_left _ (List.mem_append_left _ (List.mem_append_left _ (tkB_mem 0 4 h))))))) (fun _ h => absurd h List.not_mem_nil)) (by decide +kernel)) ggX3_bookToWriteKey_X3_bookAt
set_option maxRecDepth 20000 in
theorem ggX3_bookToWriteKey_X3_checkKey : GoodIn wsX3_bookToWriteKey wsX3_checkKey := goodIn_ca (goodIn_sub (List.forall_mem_cons.mpr ⟨(List.mem_cons_of_mem _ (List.mem_append_left _ (List.mem_append_left _ (List.mem_append_left _ (List.mem_append_left _ (List.mem_of_getElem? (i := 10) rfl)))))), (List.forall_mem_cons.mpr ⟨(List.mem_cons_of_mem _ (List.mem_append_left _ (List.mem_append_left _ (List.mem_append_left _ (List.mem_append_left _ (List.mem_of_getElem? (i := 11) rfl)))))), (List.forall_mem_cons.mpr ⟨(List.mem_cons_of_mem _ (List.mem_append_left _ (List.mem_append_left _ (List.mem_append_left _ (List.mem_append_left _ (List.mem_of_getElem? (i := 12) rfl)))))), (fun _ h => absurd h List.not_mem_nil)⟩)⟩)⟩) (by decide +kernel)) (goodIn_sub (fun _ h => List.mem_cons_of_mem _ (List.mem_append_right _ h)) (by decide +kernel))
set_option maxRecDepth 20000 in
theorem gX3_bookToWriteKey_X3_checkKey : GoodIn wsX3_bookToWriteKey (va_wsS RX3 51 yX3_checkKey wsX3_checkKey) := goodIn_app (goodIn_sub (List.forall_mem_cons.mpr ⟨(List.mem_cons_of_mem _ (List.mem_append_left _ (List.mem_append_left _ (List.mem_append_left _ (List.mem_append_left _ (List.mem_of_getElem? (i := 8) rfl)))))), (List.forall_mem_cons.mpr ⟨(List.mem_cons_of_mem _ (List.mem_append_left _ (List.mem_append_left _ (List.mem_append_left _ (List.mem_append_left _ (List.mem_of_getElem? (i := 9) rfl)))))), (List.forall_mem_cons.mpr ⟨(List.mem_cons_of_mem _ (List.mem_append_left _ (List.mem_append_left _ (List.mem_append_left _ (List.mem_append_left _ (List.mem_of_getElem? (i := 3) rfl)))))), (fun _ h => absurd h List.not_mem_nil)⟩)⟩)⟩) (by decide +kernel)) ggX3_bookToWriteKey_X3_checkKey
set_option maxRecDepth 20000 in
theorem ggX3_bookToWriteKey_X0_touch : GoodIn wsX3_bookToWriteKey wsX0_touch := goodIn_sub (List.forall_mem_cons.mpr ⟨(List.mem_cons_of_mem _ (List.mem_append_left _ (List.mem_append_left _ (List.mem_append_left _ (List.mem_append_left _ (List.mem_of_getElem? (i := 17) rfl)))))), (List.forall_mem_cons.mpr ⟨(List.mem_cons_of_mem _ (List.mem_append_left _ (List.mem_append_left _ (List.mem_append_left _ (List.mem_append_left _ (List.mem_of_getElem? (i := 18) rfl)))))), (tk_mem 7 _ (fun w h => (mwsX3_bookToWriteKey_1 _ (tkB_mem 0 7 h))) (fun _ h => absurd h List.not_mem_nil))⟩)⟩) (by decide +kernel)
set_option maxRecDepth 20000 in
theorem gX3_bookToWriteKey_X0_touch : GoodIn wsX3_bookToWriteKey (wsV RX3 57 RX0 yX0_touch wsX0_touch) := goodIn_app (goodIn_sub (tk_mem 4 _ (fun w h => (List.mem_cons_of_mem _ (List.mem_append_left _ (List.mem_append_left _ (List.mem_append_left _ (List.mem_append_left _ (tkB_mem 13 4 h))))))) (fun _ h => absurd h List.not_mem_nil)) (by decide +kernel)) ggX3_bookToWriteKey_X0_touch
theorem adX3_bookToWriteKey_0 : fd_rows (cX3_bookToWriteKey.data.toList.drop 0) 0 [(0, some (.aload_n 0), 1), (1, some (.iload_n 1), 1), (2, some (.invokevirtual 47), 3), (5, some (.astore_n 3), 1), (6, some (.iload_n 2), 1), (7, some (.invokestatic 51), 3), (10, some (.aload_n 3), 1), (11, some (.invokevirtual 57), 3), (14, some (.aload_n 3), 1), (15, some (.areturn), 1)] = true := by decide +kernel
theorem dX3_bookToWriteKey_0 : decode cX3_bookToWriteKey 0 = .ok (.aload_n 0, 1) := fd_get adX3_bookToWriteKey_0 (k := 0) rfl
theorem dX3_bookToWriteKey_1 : decode cX3_bookToWriteKey 1 = .ok (.iload_n 1, 1) := fd_get adX3_bookToWriteKey_0 (k := 1) rfl
theorem dX3_bookToWriteKey_2 : decode cX3_bookToWriteKey 2 = .ok (.invokevirtual 47, 3) := fd_get adX3_bookToWriteKey_0 (k := 2) rfl
theorem dX3_bookToWriteKey_5 : decode cX3_bookToWriteKey 5 = .ok (.astore_n 3, 1) := fd_get adX3_bookToWriteKey_0 (k := 3) rfl
theorem dX3_bookToWriteKey_6 : decode cX3_bookToWriteKey 6 = .ok (.iload_n 2, 1) := fd_get adX3_bookToWriteKey_0 (k := 4) rfl
theorem dX3_bookToWriteKey_7 : decode cX3_bookToWriteKey 7 = .ok (.invokestatic 51, 3) := fd_get adX3_bookToWriteKey_0 (k := 5) rfl
theorem dX3_bookToWriteKey_10 : decode cX3_bookToWriteKey 10 = .ok (.aload_n 3, 1) := fd_get adX3_bookToWriteKey_0 (k := 6) rfl
theorem dX3_bookToWriteKey_11 : decode cX3_bookToWriteKey 11 = .ok (.invokevirtual 57, 3) := fd_get adX3_bookToWriteKey_0 (k := 7) rfl
theorem dX3_bookToWriteKey_14 : decode cX3_bookToWriteKey 14 = .ok (.aload_n 3, 1) := fd_get adX3_bookToWriteKey_0 (k := 8) rfl
theorem dX3_bookToWriteKey_15 : decode cX3_bookToWriteKey 15 = .ok (.areturn, 1) := fd_get adX3_bookToWriteKey_0 (k := 9) rfl
theorem mwsX3_bookToWritePair_0 : ∀ w ∈ wsX30, w ∈ wsX3_bookToWritePair := fun w h => (List.mem_cons_of_mem _ (List.mem_append_left _ (List.mem_append_left _ (List.mem_append_left _ (List.mem_append_right _ h)))))
theorem mwsX3_bookToWritePair_1 : ∀ w ∈ wsX00, w ∈ wsX3_bookToWritePair := fun w h => (List.mem_cons_of_mem _ (List.mem_append_left _ (List.mem_append_left _ (List.mem_append_right _ h))))
set_option maxRecDepth 20000 in
theorem ggX3_bookToWritePair_X3_bookAt : GoodIn wsX3_bookToWritePair wsX3_bookAt := goodIn_ca (goodIn_sub (tk_mem 4 _ (fun w h => (List.mem_cons_of_mem _ (List.mem_append_left _ (List.mem_append_left _ (List.mem_append_left _ (List.mem_append_left _ (tkB_mem 4 4 h))))))) (tk_mem 6 _ (fun w h => (mwsX3_bookToWritePair_0 _ (tkB_mem 0 6 h))) (fun _ h => absurd h List.not_mem_nil))) (by decide +kernel)) (goodIn_sub (fun _ h => List.mem_cons_of_mem _ (List.mem_append_left _ (List.mem_append_right _ h))) (by decide +kernel))
set_option maxRecDepth 20000 in
theorem gX3_bookToWritePair_X3_bookAt : GoodIn wsX3_bookToWritePair (wsV RX3 47 RX3 yX3_bookAt wsX3_bookAt) := goodIn_app (goodIn_sub (tk_mem 4 _ (fun w h => (List.mem_cons_of_mem _ (List.mem_append_left _ (List.mem_append_left _ (List.mem_append_left _ (List.mem_append_left _ (tkB_mem 0 4 h))))))) (fun _ h => absurd h List.not_mem_nil)) (by decide +kernel)) ggX3_bookToWritePair_X3_bookAt
set_option maxRecDepth 20000 in
theorem ggX3_bookToWritePair_X3_checkKey : GoodIn wsX3_bookToWritePair wsX3_checkKey := goodIn_ca (goodIn_sub (List.forall_mem_cons.mpr ⟨(List.mem_cons_of_mem _ (List.mem_append_left _ (List.mem_append_left _ (List.mem_append_left _ (List.mem_append_left _ (List.mem_of_getElem? (i := 10) rfl)))))), (List.forall_mem_cons.mpr ⟨(List.mem_cons_of_mem _ (List.mem_append_left _ (List.mem_append_left _ (List.mem_append_left _ (List.mem_append_left _ (List.mem_of_getElem? (i := 11) rfl)))))), (List.forall_mem_cons.mpr ⟨(List.mem_cons_of_mem _ (List.mem_append_left _ (List.mem_append_left _ (List.mem_append_left _ (List.mem_append_left _ (List.mem_of_getElem? (i := 12) rfl)))))), (fun _ h => absurd h List.not_mem_nil)⟩)⟩)⟩) (by decide +kernel)) (goodIn_sub (fun _ h => List.mem_cons_of_mem _ (List.mem_append_right _ h)) (by decide +kernel))
set_option maxRecDepth 20000 in
theorem gX3_bookToWritePair_X3_checkKey : GoodIn wsX3_bookToWritePair (va_wsS RX3 51 yX3_checkKey wsX3_checkKey) := goodIn_app (goodIn_sub (List.forall_mem_cons.mpr ⟨(List.mem_cons_of_mem _ (List.mem_append_left _ (List.mem_append_left _ (List.mem_append_left _ (List.mem_append_left _ (List.mem_of_getElem? (i := 8) rfl)))))), (List.forall_mem_cons.mpr ⟨(List.mem_cons_of_mem _ (List.mem_append_left _ (List.mem_append_left _ (List.mem_append_left _ (List.mem_append_left _ (List.mem_of_getElem? (i := 9) rfl)))))), (List.forall_mem_cons.mpr ⟨(List.mem_cons_of_mem _ (List.mem_append_left _ (List.mem_append_left _ (List.mem_append_left _ (List.mem_append_left _ (List.mem_of_getElem? (i := 3) rfl)))))), (fun _ h => absurd h List.not_mem_nil)⟩)⟩)⟩) (by decide +kernel)) ggX3_bookToWritePair_X3_checkKey
set_option maxRecDepth 20000 in
theorem ggX3_bookToWritePair_X3_checkValue : GoodIn wsX3_bookToWritePair wsX3_checkValue := goodIn_ca (goodIn_sub (List.forall_mem_cons.mpr ⟨(List.mem_cons_of_mem _ (List.mem_append_left _ (List.mem_append_left _ (List.mem_append_left _ (List.mem_append_left _ (List.mem_of_getElem? (i := 15) rfl)))))), (List.forall_mem_cons.mpr ⟨(List.mem_cons_of_mem _ (List.mem_append_left _ (List.mem_append_left _ (List.mem_append_left _ (List.mem_append_left _ (List.mem_of_getElem? (i := 11) rfl)))))), (List.forall_mem_cons.mpr ⟨(List.mem_cons_of_mem _ (List.mem_append_left _ (List.mem_append_left _ (List.mem_append_left _ (List.mem_append_left _ (List.mem_of_getElem? (i := 12) rfl)))))), (fun _ h => absurd h List.not_mem_nil)⟩)⟩)⟩) (by decide +kernel)) (goodIn_sub (fun _ h => List.mem_cons_of_mem _ (List.mem_append_right _ h)) (by decide +kernel))
set_option maxRecDepth 20000 in
theorem gX3_bookToWritePair_X3_checkValue : GoodIn wsX3_bookToWritePair (va_wsS RX3 54 yX3_checkValue wsX3_checkValue) := goodIn_app (goodIn_sub (List.forall_mem_cons.mpr ⟨(List.mem_cons_of_mem _ (List.mem_append_left _ (List.mem_append_left _ (List.mem_append_left _ (List.mem_append_left _ (List.mem_of_getElem? (i := 13) rfl)))))), (List.forall_mem_cons.mpr ⟨(List.mem_cons_of_mem _ (List.mem_append_left _ (List.mem_append_left _ (List.mem_append_left _ (List.mem_append_left _ (List.mem_of_getElem? (i := 14) rfl)))))), (List.forall_mem_cons.mpr ⟨(List.mem_cons_of_mem _ (List.mem_append_left _ (List.mem_append_left _ (List.mem_append_left _ (List.mem_append_left _ (List.mem_of_getElem? (i := 3) rfl)))))), (fun _ h => absurd h List.not_mem_nil)⟩)⟩)⟩) (by decide +kernel)) ggX3_bookToWritePair_X3_checkValue
set_option maxRecDepth 20000 in
theorem ggX3_bookToWritePair_X0_touch : GoodIn wsX3_bookToWritePair wsX0_touch := goodIn_sub (List.forall_mem_cons.mpr ⟨(List.mem_cons_of_mem _ (List.mem_append_left _ (List.mem_append_left _ (List.mem_append_left _ (List.mem_append_left _ (List.mem_of_getElem? (i := 20) rfl)))))), (List.forall_mem_cons.mpr ⟨(List.mem_cons_of_mem _ (List.mem_append_left _ (List.mem_append_left _ (List.mem_append_left _ (List.mem_append_left _ (List.mem_of_getElem? (i := 21) rfl)))))), (tk_mem 7 _ (fun w h => (mwsX3_bookToWritePair_1 _ (tkB_mem 0 7 h))) (fun _ h => absurd h List.not_mem_nil))⟩)⟩) (by decide +kernel)
set_option maxRecDepth 20000 in
theorem gX3_bookToWritePair_X0_touch : GoodIn wsX3_bookToWritePair (wsV RX3 57 RX0 yX0_touch wsX0_touch) := goodIn_app (goodIn_sub (tk_mem 4 _ (fun w h => (List.mem_cons_of_mem _ (List.mem_append_left _ (List.mem_append_left _ (List.mem_append_left _ (List.mem_append_left _ (tkB_mem 16 4 h))))))) (fun _ h => absurd h List.not_mem_nil)) (by decide +kernel)) ggX3_bookToWritePair_X0_touch
theorem adX3_bookToWritePair_0 : fd_rows (cX3_bookToWritePair.data.toList.drop 0) 0 [(0, some (.aload_n 0), 1), (1, some (.iload_n 1), 1), (2, some (.invokevirtual 47), 3), (5, some (.astore 4), 2), (7, some (.iload_n 2), 1), (8, some (.invokestatic 51), 3), (11, some (.iload_n 3), 1), (12, some (.invokestatic 54), 3), (15, some (.aload 4), 2), (17, some (.invokevirtual 57), 3), (20, some (.aload 4), 2), (22, some (.areturn), 1)] = true := by decide +kernel
theorem dX3_bookToWritePair_0 : decode cX3_bookToWritePair 0 = .ok (.aload_n 0, 1) := fd_get adX3_bookToWritePair_0 (k := 0) rfl
theorem dX3_bookToWritePair_1 : decode cX3_bookToWritePair 1 = .ok (.iload_n 1, 1) := fd_get adX3_bookToWritePair_0 (k := 1) rfl
theorem dX3_bookToWritePair_2 : decode cX3_bookToWritePair 2 = .ok (.invokevirtual 47, 3) := fd_get adX3_bookToWritePair_0 (k := 2) rfl
theorem dX3_bookToWritePair_5 : decode cX3_bookToWritePair 5 = .ok (.astore 4, 2) := fd_get adX3_bookToWritePair_0 (k := 3) rfl
theorem dX3_bookToWritePair_7 : decode cX3_bookToWritePair 7 = .ok (.iload_n 2, 1) := fd_get adX3_bookToWritePair_0 (k := 4) rfl
theorem dX3_bookToWritePair_8 : decode cX3_bookToWritePair 8 = .ok (.invokestatic 51, 3) := fd_get adX3_bookToWritePair_0 (k := 5) rfl
theorem dX3_bookToWritePair_11 : decode cX3_bookToWritePair 11 = .ok (.iload_n 3, 1) := fd_get adX3_bookToWritePair_0 (k := 6) rfl
theorem dX3_bookToWritePair_12 : decode cX3_bookToWritePair 12 = .ok (.invokestatic 54, 3) := fd_get adX3_bookToWritePair_0 (k := 7) rfl
theorem dX3_bookToWritePair_15 : decode cX3_bookToWritePair 15 = .ok (.aload 4, 2) := fd_get adX3_bookToWritePair_0 (k := 8) rfl
theorem dX3_bookToWritePair_17 : decode cX3_bookToWritePair 17 = .ok (.invokevirtual 57, 3) := fd_get adX3_bookToWritePair_0 (k := 9) rfl
theorem dX3_bookToWritePair_20 : decode cX3_bookToWritePair 20 = .ok (.aload 4, 2) := fd_get adX3_bookToWritePair_0 (k := 10) rfl
theorem dX3_bookToWritePair_22 : decode cX3_bookToWritePair 22 = .ok (.areturn, 1) := fd_get adX3_bookToWritePair_0 (k := 11) rfl
theorem mwsX3_viewToWritePair_0 : ∀ w ∈ wsX3_viewToWritePair_r1, w ∈ wsX3_viewToWritePair := fun w h => (List.mem_cons_of_mem _ (List.mem_append_left _ (List.mem_append_left _ (List.mem_append_left _ (List.mem_append_left _ (List.mem_append_left _ (List.mem_append_left _ h)))))))
theorem mwsX3_viewToWritePair_1 : ∀ w ∈ wsX3_viewToWritePair_r2, w ∈ wsX3_viewToWritePair := fun w h => (List.mem_cons_of_mem _ (List.mem_append_left _ (List.mem_append_left _ (List.mem_append_left _ (List.mem_append_left _ (List.mem_append_left _ (List.mem_append_right _ h)))))))
theorem mwsX3_viewToWritePair_2 : ∀ w ∈ wsX30, w ∈ wsX3_viewToWritePair := fun w h => (List.mem_cons_of_mem _ (List.mem_append_left _ (List.mem_append_left _ (List.mem_append_left _ (List.mem_append_left _ (List.mem_append_right _ h))))))
theorem mwsX3_viewToWritePair_3 : ∀ w ∈ wsX10, w ∈ wsX3_viewToWritePair := fun w h => (List.mem_cons_of_mem _ (List.mem_append_left _ (List.mem_append_left _ (List.mem_append_left _ (List.mem_append_right _ h)))))
theorem mwsX3_viewToWritePair_4 : ∀ w ∈ wsX00, w ∈ wsX3_viewToWritePair := fun w h => (List.mem_cons_of_mem _ (List.mem_append_left _ (List.mem_append_left _ (List.mem_append_right _ h))))
set_option maxRecDepth 20000 in
theorem ggX3_viewToWritePair_X3_viewAt : GoodIn wsX3_viewToWritePair wsX3_viewAt := goodIn_ca (goodIn_sub (tk_mem 4 _ (fun w h => (mwsX3_viewToWritePair_0 _ (tkB_mem 4 4 h))) (tk_mem 6 _ (fun w h => (mwsX3_viewToWritePair_2 _ (tkB_mem 0 6 h))) (fun _ h => absurd h List.not_mem_nil))) (by decide +kernel)) (goodIn_sub (fun _ h => List.mem_cons_of_mem _ (List.mem_append_left _ (List.mem_append_right _ h))) (by decide +kernel))
set_option maxRecDepth 20000 in
theorem gX3_viewToWritePair_X3_viewAt : GoodIn wsX3_viewToWritePair (wsV RX3 158 RX3 yX3_viewAt wsX3_viewAt) := goodIn_app (goodIn_sub (tk_mem 4 _ (fun w h => (mwsX3_viewToWritePair_0 _ (tkB_mem 0 4 h))) (fun _ h => absurd h List.not_mem_nil)) (by decide +kernel)) ggX3_viewToWritePair_X3_viewAt
set_option maxRecDepth 20000 in
theorem ggX3_viewToWritePair_X3_checkKey : GoodIn wsX3_viewToWritePair wsX3_checkKey := goodIn_ca (goodIn_sub (List.forall_mem_cons.mpr ⟨(mwsX3_viewToWritePair_0 _ (List.mem_of_getElem? (i := 10) rfl)), (List.forall_mem_cons.mpr ⟨(mwsX3_viewToWritePair_0 _ (List.mem_of_getElem? (i := 11) rfl)), (List.forall_mem_cons.mpr ⟨(mwsX3_viewToWritePair_0 _ (List.mem_of_getElem? (i := 12) rfl)), (fun _ h => absurd h List.not_mem_nil)⟩)⟩)⟩) (by decide +kernel)) (goodIn_sub (fun _ h => List.mem_cons_of_mem _ (List.mem_append_right _ h)) (by decide +kernel))
set_option maxRecDepth 20000 in
theorem gX3_viewToWritePair_X3_checkKey : GoodIn wsX3_viewToWritePair (va_wsS RX3 51 yX3_checkKey wsX3_checkKey) := goodIn_app (goodIn_sub (List.forall_mem_cons.mpr ⟨(mwsX3_viewToWritePair_0 _ (List.mem_of_getElem? (i := 8) rfl)), (List.forall_mem_cons.mpr ⟨(mwsX3_viewToWritePair_0 _ (List.mem_of_getElem? (i := 9) rfl)), (List.forall_mem_cons.mpr ⟨(mwsX3_viewToWritePair_0 _ (List.mem_of_getElem? (i := 3) rfl)), (fun _ h => absurd h List.not_mem_nil)⟩)⟩)⟩) (by decide +kernel)) ggX3_viewToWritePair_X3_checkKey
set_option maxRecDepth 20000 in
theorem ggX3_viewToWritePair_X3_checkValue : GoodIn wsX3_viewToWritePair wsX3_checkValue := goodIn_ca (goodIn_sub (List.forall_mem_cons.mpr ⟨(mwsX3_viewToWritePair_0 _ (List.mem_of_getElem? (i := 15) rfl)), (List.forall_mem_cons.mpr ⟨(mwsX3_viewToWritePair_0 _ (List.mem_of_getElem? (i := 11) rfl)), (List.forall_mem_cons.mpr ⟨(mwsX3_viewToWritePair_0 _ (List.mem_of_getElem? (i := 12) rfl)), (fun _ h => absurd h List.not_mem_nil)⟩)⟩)⟩) (by decide +kernel)) (goodIn_sub (fun _ h => List.mem_cons_of_mem _ (List.mem_append_right _ h)) (by decide +kernel))
set_option maxRecDepth 20000 in
theorem gX3_viewToWritePair_X3_checkValue : GoodIn wsX3_viewToWritePair (va_wsS RX3 54 yX3_checkValue wsX3_checkValue) := goodIn_app (goodIn_sub (List.forall_mem_cons.mpr ⟨(mwsX3_viewToWritePair_0 _ (List.mem_of_getElem? (i := 13) rfl)), (List.forall_mem_cons.mpr ⟨(mwsX3_viewToWritePair_0 _ (List.mem_of_getElem? (i := 14) rfl)), (List.forall_mem_cons.mpr ⟨(mwsX3_viewToWritePair_0 _ (List.mem_of_getElem? (i := 3) rfl)), (fun _ h => absurd h List.not_mem_nil)⟩)⟩)⟩) (by decide +kernel)) ggX3_viewToWritePair_X3_checkValue
set_option maxRecDepth 20000 in
theorem ggX3_viewToWritePair_X1_book : GoodIn wsX3_viewToWritePair wsX1_book := goodIn_sub (List.forall_mem_cons.mpr ⟨(mwsX3_viewToWritePair_0 _ (List.mem_of_getElem? (i := 20) rfl)), (List.forall_mem_cons.mpr ⟨(mwsX3_viewToWritePair_0 _ (List.mem_of_getElem? (i := 21) rfl)), (tk_mem 7 _ (fun w h => (mwsX3_viewToWritePair_3 _ (tkB_mem 0 7 h))) (fun _ h => absurd h List.not_mem_nil))⟩)⟩) (by decide +kernel)
set_option maxRecDepth 20000 in
theorem gX3_viewToWritePair_X1_book : GoodIn wsX3_viewToWritePair (wsV RX3 165 RX1 yX1_book wsX1_book) := goodIn_app (goodIn_sub (tk_mem 4 _ (fun w h => (mwsX3_viewToWritePair_0 _ (tkB_mem 16 4 h))) (fun _ h => absurd h List.not_mem_nil)) (by decide +kernel)) ggX3_viewToWritePair_X1_book
set_option maxRecDepth 20000 in
theorem ggX3_viewToWritePair_X0_touch : GoodIn wsX3_viewToWritePair wsX0_touch := goodIn_sub (List.forall_mem_cons.mpr ⟨(mwsX3_viewToWritePair_1 _ (List.mem_of_getElem? (i := 2) rfl)), (List.forall_mem_cons.mpr ⟨(mwsX3_viewToWritePair_1 _ (List.mem_of_getElem? (i := 3) rfl)), (tk_mem 7 _ (fun w h => (mwsX3_viewToWritePair_4 _ (tkB_mem 0 7 h))) (fun _ h => absurd h List.not_mem_nil))⟩)⟩) (by decide +kernel)
set_option maxRecDepth 20000 in
theorem gX3_viewToWritePair_X0_touch : GoodIn wsX3_viewToWritePair (wsV RX3 57 RX0 yX0_touch wsX0_touch) := goodIn_app (goodIn_sub (List.forall_mem_cons.mpr ⟨(mwsX3_viewToWritePair_0 _ (List.mem_of_getElem? (i := 22) rfl)), (List.forall_mem_cons.mpr ⟨(mwsX3_viewToWritePair_0 _ (List.mem_of_getElem? (i := 23) rfl)), (List.forall_mem_cons.mpr ⟨(mwsX3_viewToWritePair_1 _ (List.mem_of_getElem? (i := 0) rfl)), (List.forall_mem_cons.mpr ⟨(mwsX3_viewToWritePair_1 _ (List.mem_of_getElem? (i := 1) rfl)), (fun _ h => absurd h List.not_mem_nil)⟩)⟩)⟩)⟩) (by decide +kernel)) ggX3_viewToWritePair_X0_touch
theorem adX3_viewToWritePair_0 : fd_rows (cX3_viewToWritePair.data.toList.drop 0) 0 [(0, some (.aload_n 0), 1), (1, some (.iload_n 1), 1), (2, some (.invokevirtual 158), 3), (5, some (.astore 4), 2), (7, some (.iload_n 2), 1), (8, some (.invokestatic 51), 3), (11, some (.iload_n 3), 1), (12, some (.invokestatic 54), 3), (15, some (.aload 4), 2), (17, some (.invokevirtual 165), 3), (20, some (.invokevirtual 57), 3), (23, some (.aload 4), 2), (25, some (.areturn), 1)] = true := by decide +kernel
theorem dX3_viewToWritePair_0 : decode cX3_viewToWritePair 0 = .ok (.aload_n 0, 1) := fd_get adX3_viewToWritePair_0 (k := 0) rfl
theorem dX3_viewToWritePair_1 : decode cX3_viewToWritePair 1 = .ok (.iload_n 1, 1) := fd_get adX3_viewToWritePair_0 (k := 1) rfl
theorem dX3_viewToWritePair_2 : decode cX3_viewToWritePair 2 = .ok (.invokevirtual 158, 3) := fd_get adX3_viewToWritePair_0 (k := 2) rfl
theorem dX3_viewToWritePair_5 : decode cX3_viewToWritePair 5 = .ok (.astore 4, 2) := fd_get adX3_viewToWritePair_0 (k := 3) rfl
theorem dX3_viewToWritePair_7 : decode cX3_viewToWritePair 7 = .ok (.iload_n 2, 1) := fd_get adX3_viewToWritePair_0 (k := 4) rfl
theorem dX3_viewToWritePair_8 : decode cX3_viewToWritePair 8 = .ok (.invokestatic 51, 3) := fd_get adX3_viewToWritePair_0 (k := 5) rfl
theorem dX3_viewToWritePair_11 : decode cX3_viewToWritePair 11 = .ok (.iload_n 3, 1) := fd_get adX3_viewToWritePair_0 (k := 6) rfl
theorem dX3_viewToWritePair_12 : decode cX3_viewToWritePair 12 = .ok (.invokestatic 54, 3) := fd_get adX3_viewToWritePair_0 (k := 7) rfl
theorem dX3_viewToWritePair_15 : decode cX3_viewToWritePair 15 = .ok (.aload 4, 2) := fd_get adX3_viewToWritePair_0 (k := 8) rfl
theorem dX3_viewToWritePair_17 : decode cX3_viewToWritePair 17 = .ok (.invokevirtual 165, 3) := fd_get adX3_viewToWritePair_0 (k := 9) rfl
theorem dX3_viewToWritePair_20 : decode cX3_viewToWritePair 20 = .ok (.invokevirtual 57, 3) := fd_get adX3_viewToWritePair_0 (k := 10) rfl
theorem dX3_viewToWritePair_23 : decode cX3_viewToWritePair 23 = .ok (.aload 4, 2) := fd_get adX3_viewToWritePair_0 (k := 11) rfl
theorem dX3_viewToWritePair_25 : decode cX3_viewToWritePair 25 = .ok (.areturn, 1) := fd_get adX3_viewToWritePair_0 (k := 12) rfl
theorem mwsX3_soundWalk_0 : ∀ w ∈ wsX3_soundWalk_r1, w ∈ wsX3_soundWalk := fun w h => (List.mem_cons_of_mem _ (List.mem_append_left _ (List.mem_append_left _ (List.mem_append_left _ (List.mem_append_left _ (List.mem_append_left _ (List.mem_append_left _ h)))))))
theorem mwsX3_soundWalk_1 : ∀ w ∈ wsX3_soundWalk_r2, w ∈ wsX3_soundWalk := fun w h => (List.mem_cons_of_mem _ (List.mem_append_left _ (List.mem_append_left _ (List.mem_append_left _ (List.mem_append_left _ (List.mem_append_left _ (List.mem_append_right _ h)))))))
theorem mwsX3_soundWalk_3 : ∀ w ∈ wsX20, w ∈ wsX3_soundWalk := fun w h => (List.mem_cons_of_mem _ (List.mem_append_left _ (List.mem_append_left _ (List.mem_append_left _ (List.mem_append_right _ h)))))
theorem mwsX3_soundWalk_4 : ∀ w ∈ wsX10, w ∈ wsX3_soundWalk := fun w h => (List.mem_cons_of_mem _ (List.mem_append_left _ (List.mem_append_left _ (List.mem_append_right _ h))))
theorem mwsX3_soundWalk_5 : ∀ w ∈ wsX00, w ∈ wsX3_soundWalk := fun w h => (List.mem_cons_of_mem _ (List.mem_append_left _ (List.mem_append_right _ h)))
set_option maxRecDepth 20000 in
theorem ggX3_soundWalk_X2_isBroken : GoodIn wsX3_soundWalk wsX2_isBroken := goodIn_sub (tk_mem 5 _ (fun w h => (mwsX3_soundWalk_0 _ (tkB_mem 7 5 h))) (List.forall_mem_cons.mpr ⟨(mwsX3_soundWalk_0 _ (List.mem_of_getElem? (i := 6) rfl)), (tk_mem 12 _ (fun w h => (mwsX3_soundWalk_0 _ (tkB_mem 12 12 h))) (List.forall_mem_cons.mpr ⟨(mwsX3_soundWalk_1 _ (List.mem_of_getElem? (i := 0) rfl)), (List.forall_mem_cons.mpr ⟨(mwsX3_soundWalk_1 _ (List.mem_of_getElem? (i := 1) rfl)), (tk_mem 5 _ (fun w h => (mwsX3_soundWalk_3 _ (tkB_mem 0 5 h))) (tk_mem 7 _ (fun w h => (mwsX3_soundWalk_4 _ (tkB_mem 0 7 h))) (tk_mem 7 _ (fun w h => (mwsX3_soundWalk_5 _ (tkB_mem 0 7 h))) (fun _ h => absurd h List.not_mem_nil))))⟩)⟩))⟩)) (by decide +kernel)
set_option maxRecDepth 20000 in
theorem gX3_soundWalk_X2_isBroken : GoodIn wsX3_soundWalk (wsV RX3 260 RX2 yX2_isBroken wsX2_isBroken) := goodIn_app (goodIn_sub (tk_mem 4 _ (fun w h => (mwsX3_soundWalk_0 _ (tkB_mem 3 4 h))) (fun _ h => absurd h List.not_mem_nil)) (by decide +kernel)) ggX3_soundWalk_X2_isBroken
theorem adX3_soundWalk_0 : fd_rows (cX3_soundWalk.data.toList.drop 0) 0 [(0, some (.aload_n 0), 1), (1, some (.getfield 126), 3), (4, some (.ifnull 13), 3), (7, some (.aload_n 0), 1), (8, some (.getfield 126), 3), (11, some (.invokevirtual 260), 3), (14, some (.ifCond .eq 14), 3), (17, some (.new 104), 3), (20, some (.dup), 1), (21, some (.ldc_w 316), 3), (24, some (.invokespecial 108), 3), (27, some (.athrow), 1), (28, some (.aload_n 0), 1), (29, some (.getfield 126), 3), (32, some (.areturn), 1)] = true := by decide +kernel
theorem dX3_soundWalk_0 : decode cX3_soundWalk 0 = .ok (.aload_n 0, 1) := fd_get adX3_soundWalk_0 (k := 0) rfl
theorem dX3_soundWalk_1 : decode cX3_soundWalk 1 = .ok (.getfield 126, 3) := fd_get adX3_soundWalk_0 (k := 1) rfl
theorem dX3_soundWalk_4 : decode cX3_soundWalk 4 = .ok (.ifnull 13, 3) := fd_get adX3_soundWalk_0 (k := 2) rfl
theorem dX3_soundWalk_7 : decode cX3_soundWalk 7 = .ok (.aload_n 0, 1) := fd_get adX3_soundWalk_0 (k := 3) rfl
theorem dX3_soundWalk_8 : decode cX3_soundWalk 8 = .ok (.getfield 126, 3) := fd_get adX3_soundWalk_0 (k := 4) rfl
theorem dX3_soundWalk_11 : decode cX3_soundWalk 11 = .ok (.invokevirtual 260, 3) := fd_get adX3_soundWalk_0 (k := 5) rfl
theorem dX3_soundWalk_14 : decode cX3_soundWalk 14 = .ok (.ifCond .eq 14, 3) := fd_get adX3_soundWalk_0 (k := 6) rfl
theorem dX3_soundWalk_17 : decode cX3_soundWalk 17 = .ok (.new 104, 3) := fd_get adX3_soundWalk_0 (k := 7) rfl
theorem dX3_soundWalk_20 : decode cX3_soundWalk 20 = .ok (.dup, 1) := fd_get adX3_soundWalk_0 (k := 8) rfl
theorem dX3_soundWalk_21 : decode cX3_soundWalk 21 = .ok (.ldc_w 316, 3) := fd_get adX3_soundWalk_0 (k := 9) rfl
theorem dX3_soundWalk_24 : decode cX3_soundWalk 24 = .ok (.invokespecial 108, 3) := fd_get adX3_soundWalk_0 (k := 10) rfl
theorem dX3_soundWalk_27 : decode cX3_soundWalk 27 = .ok (.athrow, 1) := fd_get adX3_soundWalk_0 (k := 11) rfl
theorem dX3_soundWalk_28 : decode cX3_soundWalk 28 = .ok (.aload_n 0, 1) := fd_get adX3_soundWalk_0 (k := 12) rfl
theorem dX3_soundWalk_29 : decode cX3_soundWalk 29 = .ok (.getfield 126, 3) := fd_get adX3_soundWalk_0 (k := 13) rfl
theorem dX3_soundWalk_32 : decode cX3_soundWalk 32 = .ok (.areturn, 1) := fd_get adX3_soundWalk_0 (k := 14) rfl
theorem mwsX3_beginWalk_0 : ∀ w ∈ wsX3_beginWalk_r1, w ∈ wsX3_beginWalk := fun w h => (List.mem_cons_of_mem _ (List.mem_append_left _ (List.mem_append_left _ (List.mem_append_left _ (List.mem_append_left _ (List.mem_append_left _ h))))))
theorem mwsX3_beginWalk_1 : ∀ w ∈ wsX3_beginWalk_r2, w ∈ wsX3_beginWalk := fun w h => (List.mem_cons_of_mem _ (List.mem_append_left _ (List.mem_append_left _ (List.mem_append_left _ (List.mem_append_left _ (List.mem_append_right _ (List.mem_append_left _ h)))))))
theorem mwsX3_beginWalk_2 : ∀ w ∈ wsX3_beginWalk_r3, w ∈ wsX3_beginWalk := fun w h => (List.mem_cons_of_mem _ (List.mem_append_left _ (List.mem_append_left _ (List.mem_append_left _ (List.mem_append_left _ (List.mem_append_right _ (List.mem_append_right _ h)))))))
theorem mwsX3_beginWalk_3 : ∀ w ∈ wsX20, w ∈ wsX3_beginWalk := fun w h => (List.mem_cons_of_mem _ (List.mem_append_left _ (List.mem_append_left _ (List.mem_append_left _ (List.mem_append_right _ h)))))
theorem mwsX3_beginWalk_5 : ∀ w ∈ wsX10, w ∈ wsX3_beginWalk := fun w h => (List.mem_cons_of_mem _ (List.mem_append_left _ (List.mem_append_right _ h)))
theorem mwsX3_beginWalk_6 : ∀ w ∈ wsX00, w ∈ wsX3_beginWalk := fun w h => (List.mem_cons_of_mem _ (List.mem_append_right _ h))
set_option maxRecDepth 20000 in
theorem ggX3_beginWalk_X2_init : GoodIn wsX3_beginWalk wsX2_init := goodIn_sub (tk_mem 18 _ (fun w h => (mwsX3_beginWalk_0 _ (tkB_mem 6 18 h))) (List.forall_mem_cons.mpr ⟨(mwsX3_beginWalk_1 _ (List.mem_of_getElem? (i := 0) rfl)), (tk_mem 5 _ (fun w h => (mwsX3_beginWalk_3 _ (tkB_mem 0 5 h))) (tk_mem 7 _ (fun w h => (mwsX3_beginWalk_5 _ (tkB_mem 0 7 h))) (tk_mem 7 _ (fun w h => (mwsX3_beginWalk_6 _ (tkB_mem 0 7 h))) (fun _ h => absurd h List.not_mem_nil))))⟩)) (by decide +kernel)
set_option maxRecDepth 20000 in
theorem gX3_beginWalk_X2_init : GoodIn wsX3_beginWalk (wsX2_init) := ggX3_beginWalk_X2_init
set_option maxRecDepth 20000 in
theorem ggX3_beginWalk_X1_size : GoodIn wsX3_beginWalk wsX1_size := goodIn_sub (tk_mem 4 _ (fun w h => (mwsX3_beginWalk_1 _ (tkB_mem 4 4 h))) (List.forall_mem_cons.mpr ⟨(mwsX3_beginWalk_0 _ (List.mem_of_getElem? (i := 16) rfl)), (List.forall_mem_cons.mpr ⟨(mwsX3_beginWalk_1 _ (List.mem_of_getElem? (i := 8) rfl)), (List.forall_mem_cons.mpr ⟨(mwsX3_beginWalk_0 _ (List.mem_of_getElem? (i := 18) rfl)), (tk_mem 4 _ (fun w h => (mwsX3_beginWalk_1 _ (tkB_mem 9 4 h))) (List.forall_mem_cons.mpr ⟨(mwsX3_beginWalk_0 _ (List.mem_of_getElem? (i := 22) rfl)), (tk_mem 11 _ (fun w h => (mwsX3_beginWalk_1 _ (tkB_mem 13 11 h))) (List.forall_mem_cons.mpr ⟨(mwsX3_beginWalk_2 _ (List.mem_of_getElem? (i := 0) rfl)), (List.forall_mem_cons.mpr ⟨(mwsX3_beginWalk_2 _ (List.mem_of_getElem? (i := 1) rfl)), (tk_mem 7 _ (fun w h => (mwsX3_beginWalk_5 _ (tkB_mem 0 7 h))) (tk_mem 7 _ (fun w h => (mwsX3_beginWalk_6 _ (tkB_mem 0 7 h))) (fun _ h => absurd h List.not_mem_nil)))⟩)⟩))⟩))⟩)⟩)⟩)) (by decide +kernel)
set_option maxRecDepth 20000 in
theorem gX3_beginWalk_X1_size : GoodIn wsX3_beginWalk (wsV RX3 166 RX1 yX1_size wsX1_size) := goodIn_app (goodIn_sub (List.forall_mem_cons.mpr ⟨(mwsX3_beginWalk_1 _ (List.mem_of_getElem? (i := 1) rfl)), (List.forall_mem_cons.mpr ⟨(mwsX3_beginWalk_1 _ (List.mem_of_getElem? (i := 2) rfl)), (List.forall_mem_cons.mpr ⟨(mwsX3_beginWalk_1 _ (List.mem_of_getElem? (i := 3) rfl)), (List.forall_mem_cons.mpr ⟨(mwsX3_beginWalk_0 _ (List.mem_of_getElem? (i := 16) rfl)), (fun _ h => absurd h List.not_mem_nil)⟩)⟩)⟩)⟩) (by decide +kernel)) ggX3_beginWalk_X1_size
theorem adX3_beginWalk_0 : fd_rows (cX3_beginWalk.data.toList.drop 0) 0 [(0, some (.aload_n 0), 1), (1, some (.new 131), 3), (4, some (.dup), 1), (5, some (.aload_n 1), 1), (6, some (.invokespecial 318), 3), (9, some (.putfield 126), 3), (12, some (.aload_n 1), 1), (13, some (.invokevirtual 166), 3), (16, some (.ireturn), 1)] = true := by decide +kernel
theorem dX3_beginWalk_0 : decode cX3_beginWalk 0 = .ok (.aload_n 0, 1) := fd_get adX3_beginWalk_0 (k := 0) rfl
theorem dX3_beginWalk_1 : decode cX3_beginWalk 1 = .ok (.new 131, 3) := fd_get adX3_beginWalk_0 (k := 1) rfl
theorem dX3_beginWalk_4 : decode cX3_beginWalk 4 = .ok (.dup, 1) := fd_get adX3_beginWalk_0 (k := 2) rfl
theorem dX3_beginWalk_5 : decode cX3_beginWalk 5 = .ok (.aload_n 1, 1) := fd_get adX3_beginWalk_0 (k := 3) rfl
theorem dX3_beginWalk_6 : decode cX3_beginWalk 6 = .ok (.invokespecial 318, 3) := fd_get adX3_beginWalk_0 (k := 4) rfl
theorem dX3_beginWalk_9 : decode cX3_beginWalk 9 = .ok (.putfield 126, 3) := fd_get adX3_beginWalk_0 (k := 5) rfl
theorem dX3_beginWalk_12 : decode cX3_beginWalk 12 = .ok (.aload_n 1, 1) := fd_get adX3_beginWalk_0 (k := 6) rfl
theorem dX3_beginWalk_13 : decode cX3_beginWalk 13 = .ok (.invokevirtual 166, 3) := fd_get adX3_beginWalk_0 (k := 7) rfl
theorem dX3_beginWalk_16 : decode cX3_beginWalk 16 = .ok (.ireturn, 1) := fd_get adX3_beginWalk_0 (k := 8) rfl
theorem adX3_openView_0 : fd_rows (cX3_openView.data.toList.drop 0) 0 [(0, some (.iconst 0), 1), (1, some (.istore_n 2), 1), (2, some (.iload_n 2), 1), (3, some (.aload_n 0), 1), (4, some (.getfield 20), 3), (7, some (.arraylength), 1), (8, some (.if_icmp .ge 27), 3), (11, some (.aload_n 0), 1), (12, some (.getfield 20), 3), (15, some (.iload_n 2), 1), (16, some (.aaload), 1), (17, some (.ifnonnull 12), 3), (20, some (.aload_n 0), 1), (21, some (.getfield 20), 3), (24, some (.iload_n 2), 1), (25, some (.aload_n 1), 1)] = true := by decide +kernel
theorem adX3_openView_1 : fd_rows (cX3_openView.data.toList.drop 26) 26 [(26, some (.aastore), 1), (27, some (.iload_n 2), 1), (28, some (.ireturn), 1), (29, some (.iinc 2 1), 3), (32, some (.goto (-30)), 3), (35, some (.new 104), 3), (38, some (.dup), 1), (39, some (.ldc_w 321), 3), (42, some (.invokespecial 108), 3), (45, some (.athrow), 1)] = true := by decide +kernel
theorem dX3_openView_0 : decode cX3_openView 0 = .ok (.iconst 0, 1) := fd_get adX3_openView_0 (k := 0) rfl
theorem dX3_openView_1 : decode cX3_openView 1 = .ok (.istore_n 2, 1) := fd_get adX3_openView_0 (k := 1) rfl
theorem dX3_openView_2 : decode cX3_openView 2 = .ok (.iload_n 2, 1) := fd_get adX3_openView_0 (k := 2) rfl
theorem dX3_openView_3 : decode cX3_openView 3 = .ok (.aload_n 0, 1) := fd_get adX3_openView_0 (k := 3) rfl
theorem dX3_openView_4 : decode cX3_openView 4 = .ok (.getfield 20, 3) := fd_get adX3_openView_0 (k := 4) rfl
theorem dX3_openView_7 : decode cX3_openView 7 = .ok (.arraylength, 1) := fd_get adX3_openView_0 (k := 5) rfl
theorem dX3_openView_8 : decode cX3_openView 8 = .ok (.if_icmp .ge 27, 3) := fd_get adX3_openView_0 (k := 6) rfl
theorem dX3_openView_11 : decode cX3_openView 11 = .ok (.aload_n 0, 1) := fd_get adX3_openView_0 (k := 7) rfl
theorem dX3_openView_12 : decode cX3_openView 12 = .ok (.getfield 20, 3) := fd_get adX3_openView_0 (k := 8) rfl
theorem dX3_openView_15 : decode cX3_openView 15 = .ok (.iload_n 2, 1) := fd_get adX3_openView_0 (k := 9) rfl
theorem dX3_openView_16 : decode cX3_openView 16 = .ok (.aaload, 1) := fd_get adX3_openView_0 (k := 10) rfl
theorem dX3_openView_17 : decode cX3_openView 17 = .ok (.ifnonnull 12, 3) := fd_get adX3_openView_0 (k := 11) rfl
theorem dX3_openView_20 : decode cX3_openView 20 = .ok (.aload_n 0, 1) := fd_get adX3_openView_0 (k := 12) rfl
theorem dX3_openView_21 : decode cX3_openView 21 = .ok (.getfield 20, 3) := fd_get adX3_openView_0 (k := 13) rfl
theorem dX3_openView_24 : decode cX3_openView 24 = .ok (.iload_n 2, 1) := fd_get adX3_openView_0 (k := 14) rfl
theorem dX3_openView_25 : decode cX3_openView 25 = .ok (.aload_n 1, 1) := fd_get adX3_openView_0 (k := 15) rfl
theorem dX3_openView_26 : decode cX3_openView 26 = .ok (.aastore, 1) := fd_get adX3_openView_1 (k := 0) rfl
theorem dX3_openView_27 : decode cX3_openView 27 = .ok (.iload_n 2, 1) := fd_get adX3_openView_1 (k := 1) rfl
theorem dX3_openView_28 : decode cX3_openView 28 = .ok (.ireturn, 1) := fd_get adX3_openView_1 (k := 2) rfl
theorem dX3_openView_29 : decode cX3_openView 29 = .ok (.iinc 2 1, 3) := fd_get adX3_openView_1 (k := 3) rfl
theorem dX3_openView_32 : decode cX3_openView 32 = .ok (.goto (-30), 3) := fd_get adX3_openView_1 (k := 4) rfl
theorem dX3_openView_35 : decode cX3_openView 35 = .ok (.new 104, 3) := fd_get adX3_openView_1 (k := 5) rfl
theorem dX3_openView_38 : decode cX3_openView 38 = .ok (.dup, 1) := fd_get adX3_openView_1 (k := 6) rfl
theorem dX3_openView_39 : decode cX3_openView 39 = .ok (.ldc_w 321, 3) := fd_get adX3_openView_1 (k := 7) rfl
theorem dX3_openView_42 : decode cX3_openView 42 = .ok (.invokespecial 108, 3) := fd_get adX3_openView_1 (k := 8) rfl
theorem dX3_openView_45 : decode cX3_openView 45 = .ok (.athrow, 1) := fd_get adX3_openView_1 (k := 9) rfl
theorem adX3_openViews_0 : fd_rows (cX3_openViews.data.toList.drop 0) 0 [(0, some (.iconst 0), 1), (1, some (.istore_n 1), 1), (2, some (.iconst 0), 1), (3, some (.istore_n 2), 1), (4, some (.iload_n 2), 1), (5, some (.aload_n 0), 1), (6, some (.getfield 20), 3), (9, some (.arraylength), 1), (10, some (.if_icmp .ge 21), 3), (13, some (.aload_n 0), 1), (14, some (.getfield 20), 3), (17, some (.iload_n 2), 1), (18, some (.aaload), 1), (19, some (.ifnull 6), 3), (22, some (.iinc 1 1), 3), (25, some (.iinc 2 1), 3)] = true := by decide +kernel
theorem adX3_openViews_1 : fd_rows (cX3_openViews.data.toList.drop 28) 28 [(28, some (.goto (-24)), 3), (31, some (.iload_n 1), 1), (32, some (.ireturn), 1)] = true := by decide +kernel
theorem dX3_openViews_0 : decode cX3_openViews 0 = .ok (.iconst 0, 1) := fd_get adX3_openViews_0 (k := 0) rfl
theorem dX3_openViews_1 : decode cX3_openViews 1 = .ok (.istore_n 1, 1) := fd_get adX3_openViews_0 (k := 1) rfl
theorem dX3_openViews_2 : decode cX3_openViews 2 = .ok (.iconst 0, 1) := fd_get adX3_openViews_0 (k := 2) rfl
theorem dX3_openViews_3 : decode cX3_openViews 3 = .ok (.istore_n 2, 1) := fd_get adX3_openViews_0 (k := 3) rfl
theorem dX3_openViews_4 : decode cX3_openViews 4 = .ok (.iload_n 2, 1) := fd_get adX3_openViews_0 (k := 4) rfl
theorem dX3_openViews_5 : decode cX3_openViews 5 = .ok (.aload_n 0, 1) := fd_get adX3_openViews_0 (k := 5) rfl
theorem dX3_openViews_6 : decode cX3_openViews 6 = .ok (.getfield 20, 3) := fd_get adX3_openViews_0 (k := 6) rfl
theorem dX3_openViews_9 : decode cX3_openViews 9 = .ok (.arraylength, 1) := fd_get adX3_openViews_0 (k := 7) rfl
theorem dX3_openViews_10 : decode cX3_openViews 10 = .ok (.if_icmp .ge 21, 3) := fd_get adX3_openViews_0 (k := 8) rfl
theorem dX3_openViews_13 : decode cX3_openViews 13 = .ok (.aload_n 0, 1) := fd_get adX3_openViews_0 (k := 9) rfl
theorem dX3_openViews_14 : decode cX3_openViews 14 = .ok (.getfield 20, 3) := fd_get adX3_openViews_0 (k := 10) rfl
theorem dX3_openViews_17 : decode cX3_openViews 17 = .ok (.iload_n 2, 1) := fd_get adX3_openViews_0 (k := 11) rfl
theorem dX3_openViews_18 : decode cX3_openViews 18 = .ok (.aaload, 1) := fd_get adX3_openViews_0 (k := 12) rfl
theorem dX3_openViews_19 : decode cX3_openViews 19 = .ok (.ifnull 6, 3) := fd_get adX3_openViews_0 (k := 13) rfl
theorem dX3_openViews_22 : decode cX3_openViews 22 = .ok (.iinc 1 1, 3) := fd_get adX3_openViews_0 (k := 14) rfl
theorem dX3_openViews_25 : decode cX3_openViews 25 = .ok (.iinc 2 1, 3) := fd_get adX3_openViews_0 (k := 15) rfl
theorem dX3_openViews_28 : decode cX3_openViews 28 = .ok (.goto (-24), 3) := fd_get adX3_openViews_1 (k := 0) rfl
theorem dX3_openViews_31 : decode cX3_openViews 31 = .ok (.iload_n 1, 1) := fd_get adX3_openViews_1 (k := 1) rfl
theorem dX3_openViews_32 : decode cX3_openViews 32 = .ok (.ireturn, 1) := fd_get adX3_openViews_1 (k := 2) rfl
theorem mwsX3_viewsOnto_1 : ∀ w ∈ wsX10, w ∈ wsX3_viewsOnto := fun w h => (List.mem_cons_of_mem _ (List.mem_append_right _ h))
set_option maxRecDepth 20000 in
theorem ggX3_viewsOnto_X1_book : GoodIn wsX3_viewsOnto wsX1_book := goodIn_sub (List.forall_mem_cons.mpr ⟨(List.mem_cons_of_mem _ (List.mem_append_left _ (List.mem_append_left _ (List.mem_of_getElem? (i := 5) rfl)))), (List.forall_mem_cons.mpr ⟨(List.mem_cons_of_mem _ (List.mem_append_left _ (List.mem_append_left _ (List.mem_of_getElem? (i := 6) rfl)))), (tk_mem 7 _ (fun w h => (mwsX3_viewsOnto_1 _ (tkB_mem 0 7 h))) (fun _ h => absurd h List.not_mem_nil))⟩)⟩) (by decide +kernel)
set_option maxRecDepth 20000 in
theorem gX3_viewsOnto_X1_book : GoodIn wsX3_viewsOnto (wsV RX3 165 RX1 yX1_book wsX1_book) := goodIn_app (goodIn_sub (tk_mem 4 _ (fun w h => (List.mem_cons_of_mem _ (List.mem_append_left _ (List.mem_append_left _ (tkB_mem 1 4 h))))) (fun _ h => absurd h List.not_mem_nil)) (by decide +kernel)) ggX3_viewsOnto_X1_book
theorem adX3_viewsOnto_0 : fd_rows (cX3_viewsOnto.data.toList.drop 0) 0 [(0, some (.iconst 0), 1), (1, some (.istore_n 2), 1), (2, some (.iconst 0), 1), (3, some (.istore_n 3), 1), (4, some (.iload_n 3), 1), (5, some (.aload_n 0), 1), (6, some (.getfield 20), 3), (9, some (.arraylength), 1), (10, some (.if_icmp .ge 34), 3), (13, some (.aload_n 0), 1), (14, some (.getfield 20), 3), (17, some (.iload_n 3), 1), (18, some (.aaload), 1), (19, some (.ifnull 19), 3), (22, some (.aload_n 0), 1), (23, some (.getfield 20), 3)] = true := by decide +kernel
theorem adX3_viewsOnto_1 : fd_rows (cX3_viewsOnto.data.toList.drop 26) 26 [(26, some (.iload_n 3), 1), (27, some (.aaload), 1), (28, some (.invokevirtual 165), 3), (31, some (.aload_n 1), 1), (32, some (.if_acmp .ne 6), 3), (35, some (.iinc 2 1), 3), (38, some (.iinc 3 1), 3), (41, some (.goto (-37)), 3), (44, some (.iload_n 2), 1), (45, some (.ireturn), 1)] = true := by decide +kernel
theorem dX3_viewsOnto_0 : decode cX3_viewsOnto 0 = .ok (.iconst 0, 1) := fd_get adX3_viewsOnto_0 (k := 0) rfl
theorem dX3_viewsOnto_1 : decode cX3_viewsOnto 1 = .ok (.istore_n 2, 1) := fd_get adX3_viewsOnto_0 (k := 1) rfl
theorem dX3_viewsOnto_2 : decode cX3_viewsOnto 2 = .ok (.iconst 0, 1) := fd_get adX3_viewsOnto_0 (k := 2) rfl
theorem dX3_viewsOnto_3 : decode cX3_viewsOnto 3 = .ok (.istore_n 3, 1) := fd_get adX3_viewsOnto_0 (k := 3) rfl
theorem dX3_viewsOnto_4 : decode cX3_viewsOnto 4 = .ok (.iload_n 3, 1) := fd_get adX3_viewsOnto_0 (k := 4) rfl
theorem dX3_viewsOnto_5 : decode cX3_viewsOnto 5 = .ok (.aload_n 0, 1) := fd_get adX3_viewsOnto_0 (k := 5) rfl
theorem dX3_viewsOnto_6 : decode cX3_viewsOnto 6 = .ok (.getfield 20, 3) := fd_get adX3_viewsOnto_0 (k := 6) rfl
theorem dX3_viewsOnto_9 : decode cX3_viewsOnto 9 = .ok (.arraylength, 1) := fd_get adX3_viewsOnto_0 (k := 7) rfl
theorem dX3_viewsOnto_10 : decode cX3_viewsOnto 10 = .ok (.if_icmp .ge 34, 3) := fd_get adX3_viewsOnto_0 (k := 8) rfl
theorem dX3_viewsOnto_13 : decode cX3_viewsOnto 13 = .ok (.aload_n 0, 1) := fd_get adX3_viewsOnto_0 (k := 9) rfl
theorem dX3_viewsOnto_14 : decode cX3_viewsOnto 14 = .ok (.getfield 20, 3) := fd_get adX3_viewsOnto_0 (k := 10) rfl
theorem dX3_viewsOnto_17 : decode cX3_viewsOnto 17 = .ok (.iload_n 3, 1) := fd_get adX3_viewsOnto_0 (k := 11) rfl
theorem dX3_viewsOnto_18 : decode cX3_viewsOnto 18 = .ok (.aaload, 1) := fd_get adX3_viewsOnto_0 (k := 12) rfl
theorem dX3_viewsOnto_19 : decode cX3_viewsOnto 19 = .ok (.ifnull 19, 3) := fd_get adX3_viewsOnto_0 (k := 13) rfl
theorem dX3_viewsOnto_22 : decode cX3_viewsOnto 22 = .ok (.aload_n 0, 1) := fd_get adX3_viewsOnto_0 (k := 14) rfl
theorem dX3_viewsOnto_23 : decode cX3_viewsOnto 23 = .ok (.getfield 20, 3) := fd_get adX3_viewsOnto_0 (k := 15) rfl
theorem dX3_viewsOnto_26 : decode cX3_viewsOnto 26 = .ok (.iload_n 3, 1) := fd_get adX3_viewsOnto_1 (k := 0) rfl
theorem dX3_viewsOnto_27 : decode cX3_viewsOnto 27 = .ok (.aaload, 1) := fd_get adX3_viewsOnto_1 (k := 1) rfl
theorem dX3_viewsOnto_28 : decode cX3_viewsOnto 28 = .ok (.invokevirtual 165, 3) := fd_get adX3_viewsOnto_1 (k := 2) rfl
theorem dX3_viewsOnto_31 : decode cX3_viewsOnto 31 = .ok (.aload_n 1, 1) := fd_get adX3_viewsOnto_1 (k := 3) rfl
theorem dX3_viewsOnto_32 : decode cX3_viewsOnto 32 = .ok (.if_acmp .ne 6, 3) := fd_get adX3_viewsOnto_1 (k := 4) rfl
theorem dX3_viewsOnto_35 : decode cX3_viewsOnto 35 = .ok (.iinc 2 1, 3) := fd_get adX3_viewsOnto_1 (k := 5) rfl
theorem dX3_viewsOnto_38 : decode cX3_viewsOnto 38 = .ok (.iinc 3 1, 3) := fd_get adX3_viewsOnto_1 (k := 6) rfl
theorem dX3_viewsOnto_41 : decode cX3_viewsOnto 41 = .ok (.goto (-37), 3) := fd_get adX3_viewsOnto_1 (k := 7) rfl
theorem dX3_viewsOnto_44 : decode cX3_viewsOnto 44 = .ok (.iload_n 2, 1) := fd_get adX3_viewsOnto_1 (k := 8) rfl
theorem dX3_viewsOnto_45 : decode cX3_viewsOnto 45 = .ok (.ireturn, 1) := fd_get adX3_viewsOnto_1 (k := 9) rfl
theorem mwsX3_shutViewsOnto_0 : ∀ w ∈ wsX30, w ∈ wsX3_shutViewsOnto := fun w h => (List.mem_cons_of_mem _ (List.mem_append_left _ (List.mem_append_right _ h)))
theorem mwsX3_shutViewsOnto_1 : ∀ w ∈ wsX10, w ∈ wsX3_shutViewsOnto := fun w h => (List.mem_cons_of_mem _ (List.mem_append_right _ h))
set_option maxRecDepth 20000 in
theorem ggX3_shutViewsOnto_X3_viewsOnto : GoodIn wsX3_shutViewsOnto wsX3_viewsOnto := goodIn_sub (List.forall_mem_cons.mpr ⟨(List.mem_cons_of_mem _ (List.mem_append_left _ (List.mem_append_left _ (List.mem_of_getElem? (i := 5) rfl)))), (List.forall_mem_cons.mpr ⟨(List.mem_cons_of_mem _ (List.mem_append_left _ (List.mem_append_left _ (List.mem_of_getElem? (i := 0) rfl)))), (tk_mem 6 _ (fun w h => (List.mem_cons_of_mem _ (List.mem_append_left _ (List.mem_append_left _ (tkB_mem 6 6 h))))) (tk_mem 6 _ (fun w h => (mwsX3_shutViewsOnto_0 _ (tkB_mem 0 6 h))) (tk_mem 7 _ (fun w h => (mwsX3_shutViewsOnto_1 _ (tkB_mem 0 7 h))) (fun _ h => absurd h List.not_mem_nil))))⟩)⟩) (by decide +kernel)
set_option maxRecDepth 20000 in
theorem gX3_shutViewsOnto_X3_viewsOnto : GoodIn wsX3_shutViewsOnto (wsV RX3 222 RX3 yX3_viewsOnto wsX3_viewsOnto) := goodIn_app (goodIn_sub (tk_mem 4 _ (fun w h => (List.mem_cons_of_mem _ (List.mem_append_left _ (List.mem_append_left _ (tkB_mem 1 4 h))))) (fun _ h => absurd h List.not_mem_nil)) (by decide +kernel)) ggX3_shutViewsOnto_X3_viewsOnto
set_option maxRecDepth 20000 in
theorem ggX3_shutViewsOnto_X1_book : GoodIn wsX3_shutViewsOnto wsX1_book := goodIn_sub (List.forall_mem_cons.mpr ⟨(List.mem_cons_of_mem _ (List.mem_append_left _ (List.mem_append_left _ (List.mem_of_getElem? (i := 10) rfl)))), (List.forall_mem_cons.mpr ⟨(List.mem_cons_of_mem _ (List.mem_append_left _ (List.mem_append_left _ (List.mem_of_getElem? (i := 11) rfl)))), (tk_mem 7 _ (fun w h => (mwsX3_shutViewsOnto_1 _ (tkB_mem 0 7 h))) (fun _ h => absurd h List.not_mem_nil))⟩)⟩) (by decide +kernel)
set_option maxRecDepth 20000 in
theorem gX3_shutViewsOnto_X1_book : GoodIn wsX3_shutViewsOnto (wsV RX3 165 RX1 yX1_book wsX1_book) := goodIn_app (goodIn_sub (tk_mem 4 _ (fun w h => (List.mem_cons_of_mem _ (List.mem_append_left _ (List.mem_append_left _ (tkB_mem 6 4 h))))) (fun _ h => absurd h List.not_mem_nil)) (by decide +kernel)) ggX3_shutViewsOnto_X1_book
theorem adX3_shutViewsOnto_0 : fd_rows (cX3_shutViewsOnto.data.toList.drop 0) 0 [(0, some (.aload_n 0), 1), (1, some (.aload_n 1), 1), (2, some (.invokevirtual 222), 3), (5, some (.istore_n 2), 1), (6, some (.iconst 0), 1), (7, some (.istore_n 3), 1), (8, some (.iload_n 3), 1), (9, some (.aload_n 0), 1), (10, some (.getfield 20), 3), (13, some (.arraylength), 1), (14, some (.if_icmp .ge 38), 3), (17, some (.aload_n 0), 1), (18, some (.getfield 20), 3), (21, some (.iload_n 3), 1), (22, some (.aaload), 1), (23, some (.ifnull 23), 3)] = true := by decide +kernel
theorem adX3_shutViewsOnto_1 : fd_rows (cX3_shutViewsOnto.data.toList.drop 26) 26 [(26, some (.aload_n 0), 1), (27, some (.getfield 20), 3), (30, some (.iload_n 3), 1), (31, some (.aaload), 1), (32, some (.invokevirtual 165), 3), (35, some (.aload_n 1), 1), (36, some (.if_acmp .ne 10), 3), (39, some (.aload_n 0), 1), (40, some (.getfield 20), 3), (43, some (.iload_n 3), 1), (44, some (.aconst_null), 1), (45, some (.aastore), 1), (46, some (.iinc 3 1), 3), (49, some (.goto (-41)), 3), (52, some (.iload_n 2), 1), (53, some (.ireturn), 1)] = true := by decide +kernel
theorem dX3_shutViewsOnto_0 : decode cX3_shutViewsOnto 0 = .ok (.aload_n 0, 1) := fd_get adX3_shutViewsOnto_0 (k := 0) rfl
theorem dX3_shutViewsOnto_1 : decode cX3_shutViewsOnto 1 = .ok (.aload_n 1, 1) := fd_get adX3_shutViewsOnto_0 (k := 1) rfl
theorem dX3_shutViewsOnto_2 : decode cX3_shutViewsOnto 2 = .ok (.invokevirtual 222, 3) := fd_get adX3_shutViewsOnto_0 (k := 2) rfl
theorem dX3_shutViewsOnto_5 : decode cX3_shutViewsOnto 5 = .ok (.istore_n 2, 1) := fd_get adX3_shutViewsOnto_0 (k := 3) rfl
theorem dX3_shutViewsOnto_6 : decode cX3_shutViewsOnto 6 = .ok (.iconst 0, 1) := fd_get adX3_shutViewsOnto_0 (k := 4) rfl
theorem dX3_shutViewsOnto_7 : decode cX3_shutViewsOnto 7 = .ok (.istore_n 3, 1) := fd_get adX3_shutViewsOnto_0 (k := 5) rfl
theorem dX3_shutViewsOnto_8 : decode cX3_shutViewsOnto 8 = .ok (.iload_n 3, 1) := fd_get adX3_shutViewsOnto_0 (k := 6) rfl
theorem dX3_shutViewsOnto_9 : decode cX3_shutViewsOnto 9 = .ok (.aload_n 0, 1) := fd_get adX3_shutViewsOnto_0 (k := 7) rfl
theorem dX3_shutViewsOnto_10 : decode cX3_shutViewsOnto 10 = .ok (.getfield 20, 3) := fd_get adX3_shutViewsOnto_0 (k := 8) rfl
theorem dX3_shutViewsOnto_13 : decode cX3_shutViewsOnto 13 = .ok (.arraylength, 1) := fd_get adX3_shutViewsOnto_0 (k := 9) rfl
theorem dX3_shutViewsOnto_14 : decode cX3_shutViewsOnto 14 = .ok (.if_icmp .ge 38, 3) := fd_get adX3_shutViewsOnto_0 (k := 10) rfl
theorem dX3_shutViewsOnto_17 : decode cX3_shutViewsOnto 17 = .ok (.aload_n 0, 1) := fd_get adX3_shutViewsOnto_0 (k := 11) rfl
theorem dX3_shutViewsOnto_18 : decode cX3_shutViewsOnto 18 = .ok (.getfield 20, 3) := fd_get adX3_shutViewsOnto_0 (k := 12) rfl
theorem dX3_shutViewsOnto_21 : decode cX3_shutViewsOnto 21 = .ok (.iload_n 3, 1) := fd_get adX3_shutViewsOnto_0 (k := 13) rfl
theorem dX3_shutViewsOnto_22 : decode cX3_shutViewsOnto 22 = .ok (.aaload, 1) := fd_get adX3_shutViewsOnto_0 (k := 14) rfl
theorem dX3_shutViewsOnto_23 : decode cX3_shutViewsOnto 23 = .ok (.ifnull 23, 3) := fd_get adX3_shutViewsOnto_0 (k := 15) rfl
theorem dX3_shutViewsOnto_26 : decode cX3_shutViewsOnto 26 = .ok (.aload_n 0, 1) := fd_get adX3_shutViewsOnto_1 (k := 0) rfl
theorem dX3_shutViewsOnto_27 : decode cX3_shutViewsOnto 27 = .ok (.getfield 20, 3) := fd_get adX3_shutViewsOnto_1 (k := 1) rfl
theorem dX3_shutViewsOnto_30 : decode cX3_shutViewsOnto 30 = .ok (.iload_n 3, 1) := fd_get adX3_shutViewsOnto_1 (k := 2) rfl
theorem dX3_shutViewsOnto_31 : decode cX3_shutViewsOnto 31 = .ok (.aaload, 1) := fd_get adX3_shutViewsOnto_1 (k := 3) rfl
theorem dX3_shutViewsOnto_32 : decode cX3_shutViewsOnto 32 = .ok (.invokevirtual 165, 3) := fd_get adX3_shutViewsOnto_1 (k := 4) rfl
theorem dX3_shutViewsOnto_35 : decode cX3_shutViewsOnto 35 = .ok (.aload_n 1, 1) := fd_get adX3_shutViewsOnto_1 (k := 5) rfl
theorem dX3_shutViewsOnto_36 : decode cX3_shutViewsOnto 36 = .ok (.if_acmp .ne 10, 3) := fd_get adX3_shutViewsOnto_1 (k := 6) rfl
theorem dX3_shutViewsOnto_39 : decode cX3_shutViewsOnto 39 = .ok (.aload_n 0, 1) := fd_get adX3_shutViewsOnto_1 (k := 7) rfl
theorem dX3_shutViewsOnto_40 : decode cX3_shutViewsOnto 40 = .ok (.getfield 20, 3) := fd_get adX3_shutViewsOnto_1 (k := 8) rfl
theorem dX3_shutViewsOnto_43 : decode cX3_shutViewsOnto 43 = .ok (.iload_n 3, 1) := fd_get adX3_shutViewsOnto_1 (k := 9) rfl
theorem dX3_shutViewsOnto_44 : decode cX3_shutViewsOnto 44 = .ok (.aconst_null, 1) := fd_get adX3_shutViewsOnto_1 (k := 10) rfl
theorem dX3_shutViewsOnto_45 : decode cX3_shutViewsOnto 45 = .ok (.aastore, 1) := fd_get adX3_shutViewsOnto_1 (k := 11) rfl
theorem dX3_shutViewsOnto_46 : decode cX3_shutViewsOnto 46 = .ok (.iinc 3 1, 3) := fd_get adX3_shutViewsOnto_1 (k := 12) rfl
theorem dX3_shutViewsOnto_49 : decode cX3_shutViewsOnto 49 = .ok (.goto (-41), 3) := fd_get adX3_shutViewsOnto_1 (k := 13) rfl
theorem dX3_shutViewsOnto_52 : decode cX3_shutViewsOnto 52 = .ok (.iload_n 2, 1) := fd_get adX3_shutViewsOnto_1 (k := 14) rfl
theorem dX3_shutViewsOnto_53 : decode cX3_shutViewsOnto 53 = .ok (.ireturn, 1) := fd_get adX3_shutViewsOnto_1 (k := 15) rfl
theorem mwsX3_checkViewIsFree_0 : ∀ w ∈ wsX30, w ∈ wsX3_checkViewIsFree := fun w h => (List.mem_cons_of_mem _ (List.mem_append_left _ (List.mem_append_right _ h)))
set_option maxRecDepth 20000 in
theorem ggX3_checkViewIsFree_X3_openViews : GoodIn wsX3_checkViewIsFree wsX3_openViews := goodIn_sub (List.forall_mem_cons.mpr ⟨(List.mem_cons_of_mem _ (List.mem_append_left _ (List.mem_append_left _ (List.mem_of_getElem? (i := 7) rfl)))), (List.forall_mem_cons.mpr ⟨(List.mem_cons_of_mem _ (List.mem_append_left _ (List.mem_append_left _ (List.mem_of_getElem? (i := 2) rfl)))), (tk_mem 6 _ (fun w h => (mwsX3_checkViewIsFree_0 _ (tkB_mem 0 6 h))) (fun _ h => absurd h List.not_mem_nil))⟩)⟩) (by decide +kernel)
set_option maxRecDepth 20000 in
theorem gX3_checkViewIsFree_X3_openViews : GoodIn wsX3_checkViewIsFree (wsV RX3 257 RX3 yX3_openViews wsX3_openViews) := goodIn_app (goodIn_sub (tk_mem 4 _ (fun w h => (List.mem_cons_of_mem _ (List.mem_append_left _ (List.mem_append_left _ (tkB_mem 3 4 h))))) (fun _ h => absurd h List.not_mem_nil)) (by decide +kernel)) ggX3_checkViewIsFree_X3_openViews
theorem adX3_checkViewIsFree_0 : fd_rows (cX3_checkViewIsFree.data.toList.drop 0) 0 [(0, some (.aload_n 0), 1), (1, some (.invokevirtual 257), 3), (4, some (.aload_n 0), 1), (5, some (.getfield 20), 3), (8, some (.arraylength), 1), (9, some (.if_icmp .lt 14), 3), (12, some (.new 104), 3), (15, some (.dup), 1), (16, some (.ldc_w 321), 3), (19, some (.invokespecial 108), 3), (22, some (.athrow), 1), (23, some (.return_), 1)] = true := by decide +kernel
theorem dX3_checkViewIsFree_0 : decode cX3_checkViewIsFree 0 = .ok (.aload_n 0, 1) := fd_get adX3_checkViewIsFree_0 (k := 0) rfl
theorem dX3_checkViewIsFree_1 : decode cX3_checkViewIsFree 1 = .ok (.invokevirtual 257, 3) := fd_get adX3_checkViewIsFree_0 (k := 1) rfl
theorem dX3_checkViewIsFree_4 : decode cX3_checkViewIsFree 4 = .ok (.aload_n 0, 1) := fd_get adX3_checkViewIsFree_0 (k := 2) rfl
theorem dX3_checkViewIsFree_5 : decode cX3_checkViewIsFree 5 = .ok (.getfield 20, 3) := fd_get adX3_checkViewIsFree_0 (k := 3) rfl
theorem dX3_checkViewIsFree_8 : decode cX3_checkViewIsFree 8 = .ok (.arraylength, 1) := fd_get adX3_checkViewIsFree_0 (k := 4) rfl
theorem dX3_checkViewIsFree_9 : decode cX3_checkViewIsFree 9 = .ok (.if_icmp .lt 14, 3) := fd_get adX3_checkViewIsFree_0 (k := 5) rfl
theorem dX3_checkViewIsFree_12 : decode cX3_checkViewIsFree 12 = .ok (.new 104, 3) := fd_get adX3_checkViewIsFree_0 (k := 6) rfl
theorem dX3_checkViewIsFree_15 : decode cX3_checkViewIsFree 15 = .ok (.dup, 1) := fd_get adX3_checkViewIsFree_0 (k := 7) rfl
theorem dX3_checkViewIsFree_16 : decode cX3_checkViewIsFree 16 = .ok (.ldc_w 321, 3) := fd_get adX3_checkViewIsFree_0 (k := 8) rfl
theorem dX3_checkViewIsFree_19 : decode cX3_checkViewIsFree 19 = .ok (.invokespecial 108, 3) := fd_get adX3_checkViewIsFree_0 (k := 9) rfl
theorem dX3_checkViewIsFree_22 : decode cX3_checkViewIsFree 22 = .ok (.athrow, 1) := fd_get adX3_checkViewIsFree_0 (k := 10) rfl
theorem dX3_checkViewIsFree_23 : decode cX3_checkViewIsFree 23 = .ok (.return_, 1) := fd_get adX3_checkViewIsFree_0 (k := 11) rfl
theorem adX3_checkKey_0 : fd_rows (cX3_checkKey.data.toList.drop 0) 0 [(0, some (.iload_n 0), 1), (1, some (.ifCond .lt 9), 3), (4, some (.iload_n 0), 1), (5, some (.bipush 100), 2), (7, some (.if_icmp .lt 14), 3), (10, some (.new 86), 3), (13, some (.dup), 1), (14, some (.ldc_w 323), 3), (17, some (.invokespecial 90), 3), (20, some (.athrow), 1), (21, some (.return_), 1)] = true := by decide +kernel
theorem dX3_checkKey_0 : decode cX3_checkKey 0 = .ok (.iload_n 0, 1) := fd_get adX3_checkKey_0 (k := 0) rfl
theorem dX3_checkKey_1 : decode cX3_checkKey 1 = .ok (.ifCond .lt 9, 3) := fd_get adX3_checkKey_0 (k := 1) rfl
theorem dX3_checkKey_4 : decode cX3_checkKey 4 = .ok (.iload_n 0, 1) := fd_get adX3_checkKey_0 (k := 2) rfl
theorem dX3_checkKey_5 : decode cX3_checkKey 5 = .ok (.bipush 100, 2) := fd_get adX3_checkKey_0 (k := 3) rfl
theorem dX3_checkKey_7 : decode cX3_checkKey 7 = .ok (.if_icmp .lt 14, 3) := fd_get adX3_checkKey_0 (k := 4) rfl
theorem dX3_checkKey_10 : decode cX3_checkKey 10 = .ok (.new 86, 3) := fd_get adX3_checkKey_0 (k := 5) rfl
theorem dX3_checkKey_13 : decode cX3_checkKey 13 = .ok (.dup, 1) := fd_get adX3_checkKey_0 (k := 6) rfl
theorem dX3_checkKey_14 : decode cX3_checkKey 14 = .ok (.ldc_w 323, 3) := fd_get adX3_checkKey_0 (k := 7) rfl
theorem dX3_checkKey_17 : decode cX3_checkKey 17 = .ok (.invokespecial 90, 3) := fd_get adX3_checkKey_0 (k := 8) rfl
theorem dX3_checkKey_20 : decode cX3_checkKey 20 = .ok (.athrow, 1) := fd_get adX3_checkKey_0 (k := 9) rfl
theorem dX3_checkKey_21 : decode cX3_checkKey 21 = .ok (.return_, 1) := fd_get adX3_checkKey_0 (k := 10) rfl
theorem adX3_checkValue_0 : fd_rows (cX3_checkValue.data.toList.drop 0) 0 [(0, some (.iload_n 0), 1), (1, some (.sipush (-9999)), 3), (4, some (.if_icmp .lt 10), 3), (7, some (.iload_n 0), 1), (8, some (.sipush 9999), 3), (11, some (.if_icmp .le 14), 3), (14, some (.new 86), 3), (17, some (.dup), 1), (18, some (.ldc_w 325), 3), (21, some (.invokespecial 90), 3), (24, some (.athrow), 1), (25, some (.return_), 1)] = true := by decide +kernel
theorem dX3_checkValue_0 : decode cX3_checkValue 0 = .ok (.iload_n 0, 1) := fd_get adX3_checkValue_0 (k := 0) rfl
theorem dX3_checkValue_1 : decode cX3_checkValue 1 = .ok (.sipush (-9999), 3) := fd_get adX3_checkValue_0 (k := 1) rfl
theorem dX3_checkValue_4 : decode cX3_checkValue 4 = .ok (.if_icmp .lt 10, 3) := fd_get adX3_checkValue_0 (k := 2) rfl
theorem dX3_checkValue_7 : decode cX3_checkValue 7 = .ok (.iload_n 0, 1) := fd_get adX3_checkValue_0 (k := 3) rfl
theorem dX3_checkValue_8 : decode cX3_checkValue 8 = .ok (.sipush 9999, 3) := fd_get adX3_checkValue_0 (k := 4) rfl
theorem dX3_checkValue_11 : decode cX3_checkValue 11 = .ok (.if_icmp .le 14, 3) := fd_get adX3_checkValue_0 (k := 5) rfl
theorem dX3_checkValue_14 : decode cX3_checkValue 14 = .ok (.new 86, 3) := fd_get adX3_checkValue_0 (k := 6) rfl
theorem dX3_checkValue_17 : decode cX3_checkValue 17 = .ok (.dup, 1) := fd_get adX3_checkValue_0 (k := 7) rfl
theorem dX3_checkValue_18 : decode cX3_checkValue 18 = .ok (.ldc_w 325, 3) := fd_get adX3_checkValue_0 (k := 8) rfl
theorem dX3_checkValue_21 : decode cX3_checkValue 21 = .ok (.invokespecial 90, 3) := fd_get adX3_checkValue_0 (k := 9) rfl
theorem dX3_checkValue_24 : decode cX3_checkValue 24 = .ok (.athrow, 1) := fd_get adX3_checkValue_0 (k := 10) rfl
theorem dX3_checkValue_25 : decode cX3_checkValue 25 = .ok (.return_, 1) := fd_get adX3_checkValue_0 (k := 11) rfl
theorem adX3_checkWhat_0 : fd_rows (cX3_checkWhat.data.toList.drop 0) 0 [(0, some (.iload_n 0), 1), (1, some (.ifCond .lt 8), 3), (4, some (.iload_n 0), 1), (5, some (.iload_n 1), 1), (6, some (.if_icmp .le 14), 3), (9, some (.new 86), 3), (12, some (.dup), 1), (13, some (.ldc_w 327), 3), (16, some (.invokespecial 90), 3), (19, some (.athrow), 1), (20, some (.return_), 1)] = true := by decide +kernel
theorem dX3_checkWhat_0 : decode cX3_checkWhat 0 = .ok (.iload_n 0, 1) := fd_get adX3_checkWhat_0 (k := 0) rfl
theorem dX3_checkWhat_1 : decode cX3_checkWhat 1 = .ok (.ifCond .lt 8, 3) := fd_get adX3_checkWhat_0 (k := 1) rfl
theorem dX3_checkWhat_4 : decode cX3_checkWhat 4 = .ok (.iload_n 0, 1) := fd_get adX3_checkWhat_0 (k := 2) rfl
theorem dX3_checkWhat_5 : decode cX3_checkWhat 5 = .ok (.iload_n 1, 1) := fd_get adX3_checkWhat_0 (k := 3) rfl
theorem dX3_checkWhat_6 : decode cX3_checkWhat 6 = .ok (.if_icmp .le 14, 3) := fd_get adX3_checkWhat_0 (k := 4) rfl
theorem dX3_checkWhat_9 : decode cX3_checkWhat 9 = .ok (.new 86, 3) := fd_get adX3_checkWhat_0 (k := 5) rfl
theorem dX3_checkWhat_12 : decode cX3_checkWhat 12 = .ok (.dup, 1) := fd_get adX3_checkWhat_0 (k := 6) rfl
theorem dX3_checkWhat_13 : decode cX3_checkWhat 13 = .ok (.ldc_w 327, 3) := fd_get adX3_checkWhat_0 (k := 7) rfl
theorem dX3_checkWhat_16 : decode cX3_checkWhat 16 = .ok (.invokespecial 90, 3) := fd_get adX3_checkWhat_0 (k := 8) rfl
theorem dX3_checkWhat_19 : decode cX3_checkWhat 19 = .ok (.athrow, 1) := fd_get adX3_checkWhat_0 (k := 9) rfl
theorem dX3_checkWhat_20 : decode cX3_checkWhat 20 = .ok (.return_, 1) := fd_get adX3_checkWhat_0 (k := 10) rfl
theorem adX3_checkUnlike_0 : fd_rows (cX3_checkUnlike.data.toList.drop 0) 0 [(0, some (.iload_n 0), 1), (1, some (.iload_n 1), 1), (2, some (.if_icmp .ne 14), 3), (5, some (.new 86), 3), (8, some (.dup), 1), (9, some (.ldc_w 329), 3), (12, some (.invokespecial 90), 3), (15, some (.athrow), 1), (16, some (.return_), 1)] = true := by decide +kernel
theorem dX3_checkUnlike_0 : decode cX3_checkUnlike 0 = .ok (.iload_n 0, 1) := fd_get adX3_checkUnlike_0 (k := 0) rfl
theorem dX3_checkUnlike_1 : decode cX3_checkUnlike 1 = .ok (.iload_n 1, 1) := fd_get adX3_checkUnlike_0 (k := 1) rfl
theorem dX3_checkUnlike_2 : decode cX3_checkUnlike 2 = .ok (.if_icmp .ne 14, 3) := fd_get adX3_checkUnlike_0 (k := 2) rfl
theorem dX3_checkUnlike_5 : decode cX3_checkUnlike 5 = .ok (.new 86, 3) := fd_get adX3_checkUnlike_0 (k := 3) rfl
theorem dX3_checkUnlike_8 : decode cX3_checkUnlike 8 = .ok (.dup, 1) := fd_get adX3_checkUnlike_0 (k := 4) rfl
theorem dX3_checkUnlike_9 : decode cX3_checkUnlike 9 = .ok (.ldc_w 329, 3) := fd_get adX3_checkUnlike_0 (k := 5) rfl
theorem dX3_checkUnlike_12 : decode cX3_checkUnlike 12 = .ok (.invokespecial 90, 3) := fd_get adX3_checkUnlike_0 (k := 6) rfl
theorem dX3_checkUnlike_15 : decode cX3_checkUnlike 15 = .ok (.athrow, 1) := fd_get adX3_checkUnlike_0 (k := 7) rfl
theorem dX3_checkUnlike_16 : decode cX3_checkUnlike 16 = .ok (.return_, 1) := fd_get adX3_checkUnlike_0 (k := 8) rfl
theorem adX4_init_0 : fd_rows (cX4_init.data.toList.drop 0) 0 [(0, some (.aload_n 0), 1), (1, some (.invokespecial 1), 3), (4, some (.return_), 1)] = true := by decide +kernel
theorem dX4_init_0 : decode cX4_init 0 = .ok (.aload_n 0, 1) := fd_get adX4_init_0 (k := 0) rfl
theorem dX4_init_1 : decode cX4_init 1 = .ok (.invokespecial 1, 3) := fd_get adX4_init_0 (k := 1) rfl
theorem dX4_init_4 : decode cX4_init 4 = .ok (.return_, 1) := fd_get adX4_init_0 (k := 2) rfl
