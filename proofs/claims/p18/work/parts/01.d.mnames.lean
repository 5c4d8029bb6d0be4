set_option maxRecDepth 20000 in
theorem ggX5_init_X5_named : GoodIn wsX5_init wsX5_named := goodIn_sub (List.forall_mem_cons.mpr ⟨(List.mem_cons_of_mem _ (List.mem_append_left _ (List.mem_of_getElem? (i := 17) rfl))), (fun _ h => absurd h List.not_mem_nil)⟩) (by decide +kernel)
set_option maxRecDepth 20000 in
theorem gX5_init_X5_named : GoodIn wsX5_init (va_wsS RX5 38 yX5_named wsX5_named) := goodIn_app (goodIn_sub (List.forall_mem_cons.mpr ⟨(List.mem_cons_of_mem _ (List.mem_append_left _ (List.mem_of_getElem? (i := 14) rfl))), (List.forall_mem_cons.mpr ⟨(List.mem_cons_of_mem _ (List.mem_append_left _ (List.mem_of_getElem? (i := 15) rfl))), (List.forall_mem_cons.mpr ⟨(List.mem_cons_of_mem _ (List.mem_append_left _ (List.mem_of_getElem? (i := 16) rfl))), (fun _ h => absurd h List.not_mem_nil)⟩)⟩)⟩) (by decide +kernel)) ggX5_init_X5_named
theorem adX5_init_0 : fd_rows (cX5_init.data.toList.drop 0) 0 [(0, some (.aload_n 0), 1), (1, some (.invokespecial 1), 3), (4, some (.aload_n 0), 1), (5, some (.iconst 3), 1), (6, some (.bipush 100), 2), (8, none, 4), (12, some (.putfield 11), 3), (15, some (.aload_n 0), 1), (16, some (.iconst 3), 1), (17, none, 2), (19, some (.dup), 1), (20, some (.iconst 0), 1), (21, some (.iconst 0), 1), (22, some (.iastore), 1), (23, some (.dup), 1), (24, some (.iconst 1), 1)] = true := by decide +kernel
theorem adX5_init_1 : fd_rows (cX5_init.data.toList.drop 25) 25 [(25, some (.iconst 1), 1), (26, some (.iastore), 1), (27, some (.dup), 1), (28, some (.iconst 2), 1), (29, some (.iconst 2), 1), (30, some (.iastore), 1), (31, some (.putfield 14), 3), (34, some (.aload_n 0), 1), (35, some (.iconst 3), 1), (36, some (.bipush 100), 2), (38, none, 4), (42, some (.putfield 18), 3), (45, some (.aload_n 0), 1), (46, some (.iconst 4), 1), (47, some (.anewarray 21), 3), (50, some (.putfield 22), 3)] = true := by decide +kernel
theorem adX5_init_2 : fd_rows (cX5_init.data.toList.drop 53) 53 [(53, some (.aload_n 0), 1), (54, some (.sipush (-10000)), 3), (57, some (.putfield 25), 3), (60, some (.aload_n 0), 1), (61, some (.sipush (-10000)), 3), (64, some (.putfield 29), 3), (67, some (.aload_n 0), 1), (68, some (.sipush (-10000)), 3), (71, some (.putfield 32), 3), (74, some (.aload_n 0), 1), (75, some (.sipush (-10000)), 3), (78, some (.putfield 35), 3), (81, some (.iconst 0), 1), (82, some (.istore_n 1), 1), (83, some (.iload_n 1), 1), (84, some (.bipush 100), 2)] = true := by decide +kernel
theorem adX5_init_3 : fd_rows (cX5_init.data.toList.drop 86) 86 [(86, some (.if_icmp .ge 80), 3), (89, some (.iconst 0), 1), (90, some (.istore_n 2), 1), (91, some (.iload_n 2), 1), (92, some (.iconst 3), 1), (93, some (.if_icmp .ge 20), 3), (96, some (.aload_n 0), 1), (97, some (.getfield 11), 3), (100, some (.iload_n 2), 1), (101, some (.aaload), 1), (102, some (.iload_n 1), 1), (103, some (.sipush (-10000)), 3), (106, some (.iastore), 1), (107, some (.iinc 2 1), 3), (110, some (.goto (-19)), 3), (113, some (.aload_n 0), 1)] = true := by decide +kernel
theorem adX5_init_4 : fd_rows (cX5_init.data.toList.drop 114) 114 [(114, some (.getfield 18), 3), (117, some (.iconst 0), 1), (118, some (.aaload), 1), (119, some (.iload_n 1), 1), (120, some (.iload_n 1), 1), (121, some (.iastore), 1), (122, some (.aload_n 0), 1), (123, some (.getfield 18), 3), (126, some (.iconst 1), 1), (127, some (.aaload), 1), (128, some (.iload_n 1), 1), (129, some (.iload_n 1), 1), (130, some (.iconst 2), 1), (131, some (.irem), 1), (132, some (.ifCond .ne 10), 3), (135, some (.bipush 98), 2)] = true := by decide +kernel
theorem adX5_init_5 : fd_rows (cX5_init.data.toList.drop 137) 137 [(137, some (.iload_n 1), 1), (138, some (.isub), 1), (139, some (.goto 8), 3), (142, some (.sipush 199), 3), (145, some (.iload_n 1), 1), (146, some (.isub), 1), (147, some (.iastore), 1), (148, some (.aload_n 0), 1), (149, some (.getfield 18), 3), (152, some (.iconst 2), 1), (153, some (.aaload), 1), (154, some (.iload_n 1), 1), (155, some (.iload_n 1), 1), (156, some (.invokestatic 38), 3), (159, some (.iastore), 1), (160, some (.iinc 1 1), 3)] = true := by decide +kernel
theorem adX5_init_6 : fd_rows (cX5_init.data.toList.drop 163) 163 [(163, some (.goto (-80)), 3), (166, some (.return_), 1)] = true := by decide +kernel
theorem dX5_init_0 : decode cX5_init 0 = .ok (.aload_n 0, 1) := fd_get adX5_init_0 (k := 0) rfl
theorem dX5_init_1 : decode cX5_init 1 = .ok (.invokespecial 1, 3) := fd_get adX5_init_0 (k := 1) rfl
theorem dX5_init_4 : decode cX5_init 4 = .ok (.aload_n 0, 1) := fd_get adX5_init_0 (k := 2) rfl
theorem dX5_init_5 : decode cX5_init 5 = .ok (.iconst 3, 1) := fd_get adX5_init_0 (k := 3) rfl
theorem dX5_init_6 : decode cX5_init 6 = .ok (.bipush 100, 2) := fd_get adX5_init_0 (k := 4) rfl
theorem dX5_init_8 : decode cX5_init 8 = .ok (.multianewarray 9 2, 4) := by decide +kernel
theorem dX5_init_12 : decode cX5_init 12 = .ok (.putfield 11, 3) := fd_get adX5_init_0 (k := 6) rfl
theorem dX5_init_15 : decode cX5_init 15 = .ok (.aload_n 0, 1) := fd_get adX5_init_0 (k := 7) rfl
theorem dX5_init_16 : decode cX5_init 16 = .ok (.iconst 3, 1) := fd_get adX5_init_0 (k := 8) rfl
theorem dX5_init_17 : decode cX5_init 17 = .ok (.newarray .int, 2) := by decide +kernel
theorem dX5_init_19 : decode cX5_init 19 = .ok (.dup, 1) := fd_get adX5_init_0 (k := 10) rfl
theorem dX5_init_20 : decode cX5_init 20 = .ok (.iconst 0, 1) := fd_get adX5_init_0 (k := 11) rfl
theorem dX5_init_21 : decode cX5_init 21 = .ok (.iconst 0, 1) := fd_get adX5_init_0 (k := 12) rfl
theorem dX5_init_22 : decode cX5_init 22 = .ok (.iastore, 1) := fd_get adX5_init_0 (k := 13) rfl
theorem dX5_init_23 : decode cX5_init 23 = .ok (.dup, 1) := fd_get adX5_init_0 (k := 14) rfl
theorem dX5_init_24 : decode cX5_init 24 = .ok (.iconst 1, 1) := fd_get adX5_init_0 (k := 15) rfl
theorem dX5_init_25 : decode cX5_init 25 = .ok (.iconst 1, 1) := fd_get adX5_init_1 (k := 0) rfl
theorem dX5_init_26 : decode cX5_init 26 = .ok (.iastore, 1) := fd_get adX5_init_1 (k := 1) rfl
theorem dX5_init_27 : decode cX5_init 27 = .ok (.dup, 1) := fd_get adX5_init_1 (k := 2) rfl
theorem dX5_init_28 : decode cX5_init 28 = .ok (.iconst 2, 1) := fd_get adX5_init_1 (k := 3) rfl
theorem dX5_init_29 : decode cX5_init 29 = .ok (.iconst 2, 1) := fd_get adX5_init_1 (k := 4) rfl
theorem dX5_init_30 : decode cX5_init 30 = .ok (.iastore, 1) := fd_get adX5_init_1 (k := 5) rfl
theorem dX5_init_31 : decode cX5_init 31 = .ok (.putfield 14, 3) := fd_get adX5_init_1 (k := 6) rfl
theorem dX5_init_34 : decode cX5_init 34 = .ok (.aload_n 0, 1) := fd_get adX5_init_1 (k := 7) rfl
theorem dX5_init_35 : decode cX5_init 35 = .ok (.iconst 3, 1) := fd_get adX5_init_1 (k := 8) rfl
theorem dX5_init_36 : decode cX5_init 36 = .ok (.bipush 100, 2) := fd_get adX5_init_1 (k := 9) rfl
theorem dX5_init_38 : decode cX5_init 38 = .ok (.multianewarray 9 2, 4) := by decide +kernel
theorem dX5_init_42 : decode cX5_init 42 = .ok (.putfield 18, 3) := fd_get adX5_init_1 (k := 11) rfl
theorem dX5_init_45 : decode cX5_init 45 = .ok (.aload_n 0, 1) := fd_get adX5_init_1 (k := 12) rfl
theorem dX5_init_46 : decode cX5_init 46 = .ok (.iconst 4, 1) := fd_get adX5_init_1 (k := 13) rfl
theorem dX5_init_47 : decode cX5_init 47 = .ok (.anewarray 21, 3) := fd_get adX5_init_1 (k := 14) rfl
theorem dX5_init_50 : decode cX5_init 50 = .ok (.putfield 22, 3) := fd_get adX5_init_1 (k := 15) rfl
theorem dX5_init_53 : decode cX5_init 53 = .ok (.aload_n 0, 1) := fd_get adX5_init_2 (k := 0) rfl
theorem dX5_init_54 : decode cX5_init 54 = .ok (.sipush (-10000), 3) := fd_get adX5_init_2 (k := 1) rfl
theorem dX5_init_57 : decode cX5_init 57 = .ok (.putfield 25, 3) := fd_get adX5_init_2 (k := 2) rfl
theorem dX5_init_60 : decode cX5_init 60 = .ok (.aload_n 0, 1) := fd_get adX5_init_2 (k := 3) rfl
theorem dX5_init_61 : decode cX5_init 61 = .ok (.sipush (-10000), 3) := fd_get adX5_init_2 (k := 4) rfl
theorem dX5_init_64 : decode cX5_init 64 = .ok (.putfield 29, 3) := fd_get adX5_init_2 (k := 5) rfl
theorem dX5_init_67 : decode cX5_init 67 = .ok (.aload_n 0, 1) := fd_get adX5_init_2 (k := 6) rfl
theorem dX5_init_68 : decode cX5_init 68 = .ok (.sipush (-10000), 3) := fd_get adX5_init_2 (k := 7) rfl
theorem dX5_init_71 : decode cX5_init 71 = .ok (.putfield 32, 3) := fd_get adX5_init_2 (k := 8) rfl
theorem dX5_init_74 : decode cX5_init 74 = .ok (.aload_n 0, 1) := fd_get adX5_init_2 (k := 9) rfl
theorem dX5_init_75 : decode cX5_init 75 = .ok (.sipush (-10000), 3) := fd_get adX5_init_2 (k := 10) rfl
theorem dX5_init_78 : decode cX5_init 78 = .ok (.putfield 35, 3) := fd_get adX5_init_2 (k := 11) rfl
theorem dX5_init_81 : decode cX5_init 81 = .ok (.iconst 0, 1) := fd_get adX5_init_2 (k := 12) rfl
theorem dX5_init_82 : decode cX5_init 82 = .ok (.istore_n 1, 1) := fd_get adX5_init_2 (k := 13) rfl
theorem dX5_init_83 : decode cX5_init 83 = .ok (.iload_n 1, 1) := fd_get adX5_init_2 (k := 14) rfl
theorem dX5_init_84 : decode cX5_init 84 = .ok (.bipush 100, 2) := fd_get adX5_init_2 (k := 15) rfl
theorem dX5_init_86 : decode cX5_init 86 = .ok (.if_icmp .ge 80, 3) := fd_get adX5_init_3 (k := 0) rfl
theorem dX5_init_89 : decode cX5_init 89 = .ok (.iconst 0, 1) := fd_get adX5_init_3 (k := 1) rfl
theorem dX5_init_90 : decode cX5_init 90 = .ok (.istore_n 2, 1) := fd_get adX5_init_3 (k := 2) rfl
theorem dX5_init_91 : decode cX5_init 91 = .ok (.iload_n 2, 1) := fd_get adX5_init_3 (k := 3) rfl
theorem dX5_init_92 : decode cX5_init 92 = .ok (.iconst 3, 1) := fd_get adX5_init_3 (k := 4) rfl
theorem dX5_init_93 : decode cX5_init 93 = .ok (.if_icmp .ge 20, 3) := fd_get adX5_init_3 (k := 5) rfl
theorem dX5_init_96 : decode cX5_init 96 = .ok (.aload_n 0, 1) := fd_get adX5_init_3 (k := 6) rfl
theorem dX5_init_97 : decode cX5_init 97 = .ok (.getfield 11, 3) := fd_get adX5_init_3 (k := 7) rfl
theorem dX5_init_100 : decode cX5_init 100 = .ok (.iload_n 2, 1) := fd_get adX5_init_3 (k := 8) rfl
theorem dX5_init_101 : decode cX5_init 101 = .ok (.aaload, 1) := fd_get adX5_init_3 (k := 9) rfl
theorem dX5_init_102 : decode cX5_init 102 = .ok (.iload_n 1, 1) := fd_get adX5_init_3 (k := 10) rfl
theorem dX5_init_103 : decode cX5_init 103 = .ok (.sipush (-10000), 3) := fd_get adX5_init_3 (k := 11) rfl
theorem dX5_init_106 : decode cX5_init 106 = .ok (.iastore, 1) := fd_get adX5_init_3 (k := 12) rfl
theorem dX5_init_107 : decode cX5_init 107 = .ok (.iinc 2 1, 3) := fd_get adX5_init_3 (k := 13) rfl
theorem dX5_init_110 : decode cX5_init 110 = .ok (.goto (-19), 3) := fd_get adX5_init_3 (k := 14) rfl
theorem dX5_init_113 : decode cX5_init 113 = .ok (.aload_n 0, 1) := fd_get adX5_init_3 (k := 15) rfl
theorem dX5_init_114 : decode cX5_init 114 = .ok (.getfield 18, 3) := fd_get adX5_init_4 (k := 0) rfl
theorem dX5_init_117 : decode cX5_init 117 = .ok (.iconst 0, 1) := fd_get adX5_init_4 (k := 1) rfl
theorem dX5_init_118 : decode cX5_init 118 = .ok (.aaload, 1) := fd_get adX5_init_4 (k := 2) rfl
theorem dX5_init_119 : decode cX5_init 119 = .ok (.iload_n 1, 1) := fd_get adX5_init_4 (k := 3) rfl
theorem dX5_init_120 : decode cX5_init 120 = .ok (.iload_n 1, 1) := fd_get adX5_init_4 (k := 4) rfl
theorem dX5_init_121 : decode cX5_init 121 = .ok (.iastore, 1) := fd_get adX5_init_4 (k := 5) rfl
theorem dX5_init_122 : decode cX5_init 122 = .ok (.aload_n 0, 1) := fd_get adX5_init_4 (k := 6) rfl
theorem dX5_init_123 : decode cX5_init 123 = .ok (.getfield 18, 3) := fd_get adX5_init_4 (k := 7) rfl
theorem dX5_init_126 : decode cX5_init 126 = .ok (.iconst 1, 1) := fd_get adX5_init_4 (k := 8) rfl
theorem dX5_init_127 : decode cX5_init 127 = .ok (.aaload, 1) := fd_get adX5_init_4 (k := 9) rfl
theorem dX5_init_128 : decode cX5_init 128 = .ok (.iload_n 1, 1) := fd_get adX5_init_4 (k := 10) rfl
theorem dX5_init_129 : decode cX5_init 129 = .ok (.iload_n 1, 1) := fd_get adX5_init_4 (k := 11) rfl
theorem dX5_init_130 : decode cX5_init 130 = .ok (.iconst 2, 1) := fd_get adX5_init_4 (k := 12) rfl
theorem dX5_init_131 : decode cX5_init 131 = .ok (.irem, 1) := fd_get adX5_init_4 (k := 13) rfl
theorem dX5_init_132 : decode cX5_init 132 = .ok (.ifCond .ne 10, 3) := fd_get adX5_init_4 (k := 14) rfl
theorem dX5_init_135 : decode cX5_init 135 = .ok (.bipush 98, 2) := fd_get adX5_init_4 (k := 15) rfl
theorem dX5_init_137 : decode cX5_init 137 = .ok (.iload_n 1, 1) := fd_get adX5_init_5 (k := 0) rfl
theorem dX5_init_138 : decode cX5_init 138 = .ok (.isub, 1) := fd_get adX5_init_5 (k := 1) rfl
theorem dX5_init_139 : decode cX5_init 139 = .ok (.goto 8, 3) := fd_get adX5_init_5 (k := 2) rfl
theorem dX5_init_142 : decode cX5_init 142 = .ok (.sipush 199, 3) := fd_get adX5_init_5 (k := 3) rfl
theorem dX5_init_145 : decode cX5_init 145 = .ok (.iload_n 1, 1) := fd_get adX5_init_5 (k := 4) rfl
theorem dX5_init_146 : decode cX5_init 146 = .ok (.isub, 1) := fd_get adX5_init_5 (k := 5) rfl
theorem dX5_init_147 : decode cX5_init 147 = .ok (.iastore, 1) := fd_get adX5_init_5 (k := 6) rfl
theorem dX5_init_148 : decode cX5_init 148 = .ok (.aload_n 0, 1) := fd_get adX5_init_5 (k := 7) rfl
theorem dX5_init_149 : decode cX5_init 149 = .ok (.getfield 18, 3) := fd_get adX5_init_5 (k := 8) rfl
theorem dX5_init_152 : decode cX5_init 152 = .ok (.iconst 2, 1) := fd_get adX5_init_5 (k := 9) rfl
theorem dX5_init_153 : decode cX5_init 153 = .ok (.aaload, 1) := fd_get adX5_init_5 (k := 10) rfl
theorem dX5_init_154 : decode cX5_init 154 = .ok (.iload_n 1, 1) := fd_get adX5_init_5 (k := 11) rfl
theorem dX5_init_155 : decode cX5_init 155 = .ok (.iload_n 1, 1) := fd_get adX5_init_5 (k := 12) rfl
theorem dX5_init_156 : decode cX5_init 156 = .ok (.invokestatic 38, 3) := fd_get adX5_init_5 (k := 13) rfl
theorem dX5_init_159 : decode cX5_init 159 = .ok (.iastore, 1) := fd_get adX5_init_5 (k := 14) rfl
theorem dX5_init_160 : decode cX5_init 160 = .ok (.iinc 1 1, 3) := fd_get adX5_init_5 (k := 15) rfl
theorem dX5_init_163 : decode cX5_init 163 = .ok (.goto (-80), 3) := fd_get adX5_init_6 (k := 0) rfl
theorem dX5_init_166 : decode cX5_init 166 = .ok (.return_, 1) := fd_get adX5_init_6 (k := 1) rfl
theorem adX5_named_0 : fd_rows (cX5_named.data.toList.drop 0) 0 [(0, some (.iconst 0), 1), (1, some (.istore_n 1), 1), (2, some (.iconst 0), 1), (3, some (.istore_n 2), 1), (4, some (.bipush 64), 2), (6, some (.istore_n 3), 1), (7, some (.iload_n 3), 1), (8, some (.ifCond .le 38), 3), (11, some (.iload_n 0), 1), (12, some (.iload_n 3), 1), (13, some (.if_icmp .ge 11), 3), (16, some (.iload_n 3), 1), (17, some (.iconst 1), 1), (18, some (.if_icmp .le 6), 3), (21, some (.goto 18), 3), (24, some (.iload_n 1), 1)] = true := by decide +kernel
theorem adX5_named_1 : fd_rows (cX5_named.data.toList.drop 25) 25 [(25, some (.iconst 5), 1), (26, some (.imul), 1), (27, some (.iload_n 0), 1), (28, some (.iload_n 3), 1), (29, some (.idiv), 1), (30, some (.iconst 4), 1), (31, some (.irem), 1), (32, some (.iadd), 1), (33, some (.iconst 1), 1), (34, some (.iadd), 1), (35, some (.istore_n 1), 1), (36, some (.iinc 2 1), 3), (39, some (.iload_n 3), 1), (40, some (.iconst 4), 1), (41, some (.idiv), 1), (42, some (.istore_n 3), 1)] = true := by decide +kernel
theorem adX5_named_2 : fd_rows (cX5_named.data.toList.drop 43) 43 [(43, some (.goto (-36)), 3), (46, some (.iload_n 2), 1), (47, some (.iconst 4), 1), (48, some (.if_icmp .ge 13), 3), (51, some (.iload_n 1), 1), (52, some (.iconst 5), 1), (53, some (.imul), 1), (54, some (.istore_n 1), 1), (55, some (.iinc 2 1), 3), (58, some (.goto (-12)), 3), (61, some (.iload_n 1), 1), (62, some (.ireturn), 1)] = true := by decide +kernel
theorem dX5_named_0 : decode cX5_named 0 = .ok (.iconst 0, 1) := fd_get adX5_named_0 (k := 0) rfl
theorem dX5_named_1 : decode cX5_named 1 = .ok (.istore_n 1, 1) := fd_get adX5_named_0 (k := 1) rfl
theorem dX5_named_2 : decode cX5_named 2 = .ok (.iconst 0, 1) := fd_get adX5_named_0 (k := 2) rfl
theorem dX5_named_3 : decode cX5_named 3 = .ok (.istore_n 2, 1) := fd_get adX5_named_0 (k := 3) rfl
theorem dX5_named_4 : decode cX5_named 4 = .ok (.bipush 64, 2) := fd_get adX5_named_0 (k := 4) rfl
theorem dX5_named_6 : decode cX5_named 6 = .ok (.istore_n 3, 1) := fd_get adX5_named_0 (k := 5) rfl
theorem dX5_named_7 : decode cX5_named 7 = .ok (.iload_n 3, 1) := fd_get adX5_named_0 (k := 6) rfl
theorem dX5_named_8 : decode cX5_named 8 = .ok (.ifCond .le 38, 3) := fd_get adX5_named_0 (k := 7) rfl
theorem dX5_named_11 : decode cX5_named 11 = .ok (.iload_n 0, 1) := fd_get adX5_named_0 (k := 8) rfl
theorem dX5_named_12 : decode cX5_named 12 = .ok (.iload_n 3, 1) := fd_get adX5_named_0 (k := 9) rfl
theorem dX5_named_13 : decode cX5_named 13 = .ok (.if_icmp .ge 11, 3) := fd_get adX5_named_0 (k := 10) rfl
theorem dX5_named_16 : decode cX5_named 16 = .ok (.iload_n 3, 1) := fd_get adX5_named_0 (k := 11) rfl
theorem dX5_named_17 : decode cX5_named 17 = .ok (.iconst 1, 1) := fd_get adX5_named_0 (k := 12) rfl
theorem dX5_named_18 : decode cX5_named 18 = .ok (.if_icmp .le 6, 3) := fd_get adX5_named_0 (k := 13) rfl
theorem dX5_named_21 : decode cX5_named 21 = .ok (.goto 18, 3) := fd_get adX5_named_0 (k := 14) rfl
theorem dX5_named_24 : decode cX5_named 24 = .ok (.iload_n 1, 1) := fd_get adX5_named_0 (k := 15) rfl
theorem dX5_named_25 : decode cX5_named 25 = .ok (.iconst 5, 1) := fd_get adX5_named_1 (k := 0) rfl
theorem dX5_named_26 : decode cX5_named 26 = .ok (.imul, 1) := fd_get adX5_named_1 (k := 1) rfl
theorem dX5_named_27 : decode cX5_named 27 = .ok (.iload_n 0, 1) := fd_get adX5_named_1 (k := 2) rfl
theorem dX5_named_28 : decode cX5_named 28 = .ok (.iload_n 3, 1) := fd_get adX5_named_1 (k := 3) rfl
theorem dX5_named_29 : decode cX5_named 29 = .ok (.idiv, 1) := fd_get adX5_named_1 (k := 4) rfl
theorem dX5_named_30 : decode cX5_named 30 = .ok (.iconst 4, 1) := fd_get adX5_named_1 (k := 5) rfl
theorem dX5_named_31 : decode cX5_named 31 = .ok (.irem, 1) := fd_get adX5_named_1 (k := 6) rfl
theorem dX5_named_32 : decode cX5_named 32 = .ok (.iadd, 1) := fd_get adX5_named_1 (k := 7) rfl
theorem dX5_named_33 : decode cX5_named 33 = .ok (.iconst 1, 1) := fd_get adX5_named_1 (k := 8) rfl
theorem dX5_named_34 : decode cX5_named 34 = .ok (.iadd, 1) := fd_get adX5_named_1 (k := 9) rfl
theorem dX5_named_35 : decode cX5_named 35 = .ok (.istore_n 1, 1) := fd_get adX5_named_1 (k := 10) rfl
theorem dX5_named_36 : decode cX5_named 36 = .ok (.iinc 2 1, 3) := fd_get adX5_named_1 (k := 11) rfl
theorem dX5_named_39 : decode cX5_named 39 = .ok (.iload_n 3, 1) := fd_get adX5_named_1 (k := 12) rfl
theorem dX5_named_40 : decode cX5_named 40 = .ok (.iconst 4, 1) := fd_get adX5_named_1 (k := 13) rfl
theorem dX5_named_41 : decode cX5_named 41 = .ok (.idiv, 1) := fd_get adX5_named_1 (k := 14) rfl
theorem dX5_named_42 : decode cX5_named 42 = .ok (.istore_n 3, 1) := fd_get adX5_named_1 (k := 15) rfl
theorem dX5_named_43 : decode cX5_named 43 = .ok (.goto (-36), 3) := fd_get adX5_named_2 (k := 0) rfl
theorem dX5_named_46 : decode cX5_named 46 = .ok (.iload_n 2, 1) := fd_get adX5_named_2 (k := 1) rfl
theorem dX5_named_47 : decode cX5_named 47 = .ok (.iconst 4, 1) := fd_get adX5_named_2 (k := 2) rfl
theorem dX5_named_48 : decode cX5_named 48 = .ok (.if_icmp .ge 13, 3) := fd_get adX5_named_2 (k := 3) rfl
theorem dX5_named_51 : decode cX5_named 51 = .ok (.iload_n 1, 1) := fd_get adX5_named_2 (k := 4) rfl
theorem dX5_named_52 : decode cX5_named 52 = .ok (.iconst 5, 1) := fd_get adX5_named_2 (k := 5) rfl
theorem dX5_named_53 : decode cX5_named 53 = .ok (.imul, 1) := fd_get adX5_named_2 (k := 6) rfl
theorem dX5_named_54 : decode cX5_named 54 = .ok (.istore_n 1, 1) := fd_get adX5_named_2 (k := 7) rfl
theorem dX5_named_55 : decode cX5_named 55 = .ok (.iinc 2 1, 3) := fd_get adX5_named_2 (k := 8) rfl
theorem dX5_named_58 : decode cX5_named 58 = .ok (.goto (-12), 3) := fd_get adX5_named_2 (k := 9) rfl
theorem dX5_named_61 : decode cX5_named 61 = .ok (.iload_n 1, 1) := fd_get adX5_named_2 (k := 10) rfl
theorem dX5_named_62 : decode cX5_named 62 = .ok (.ireturn, 1) := fd_get adX5_named_2 (k := 11) rfl
theorem adX5_isIn_0 : fd_rows (cX5_isIn.data.toList.drop 0) 0 [(0, some (.iload_n 0), 1), (1, some (.iload_n 1), 1), (2, some (.if_icmp .lt 12), 3), (5, some (.iload_n 0), 1), (6, some (.iload_n 2), 1), (7, some (.if_icmp .gt 7), 3), (10, some (.iconst 1), 1), (11, some (.goto 4), 3), (14, some (.iconst 0), 1), (15, some (.ireturn), 1)] = true := by decide +kernel
theorem dX5_isIn_0 : decode cX5_isIn 0 = .ok (.iload_n 0, 1) := fd_get adX5_isIn_0 (k := 0) rfl
theorem dX5_isIn_1 : decode cX5_isIn 1 = .ok (.iload_n 1, 1) := fd_get adX5_isIn_0 (k := 1) rfl
theorem dX5_isIn_2 : decode cX5_isIn 2 = .ok (.if_icmp .lt 12, 3) := fd_get adX5_isIn_0 (k := 2) rfl
theorem dX5_isIn_5 : decode cX5_isIn 5 = .ok (.iload_n 0, 1) := fd_get adX5_isIn_0 (k := 3) rfl
theorem dX5_isIn_6 : decode cX5_isIn 6 = .ok (.iload_n 2, 1) := fd_get adX5_isIn_0 (k := 4) rfl
theorem dX5_isIn_7 : decode cX5_isIn 7 = .ok (.if_icmp .gt 7, 3) := fd_get adX5_isIn_0 (k := 5) rfl
theorem dX5_isIn_10 : decode cX5_isIn 10 = .ok (.iconst 1, 1) := fd_get adX5_isIn_0 (k := 6) rfl
theorem dX5_isIn_11 : decode cX5_isIn 11 = .ok (.goto 4, 3) := fd_get adX5_isIn_0 (k := 7) rfl
theorem dX5_isIn_14 : decode cX5_isIn 14 = .ok (.iconst 0, 1) := fd_get adX5_isIn_0 (k := 8) rfl
theorem dX5_isIn_15 : decode cX5_isIn 15 = .ok (.ireturn, 1) := fd_get adX5_isIn_0 (k := 9) rfl
theorem adX5_one_0 : fd_rows (cX5_one.data.toList.drop 0) 0 [(0, some (.iload_n 0), 1), (1, some (.ifCond .eq 7), 3), (4, some (.iconst 1), 1), (5, some (.goto 4), 3), (8, some (.iconst 0), 1), (9, some (.ireturn), 1)] = true := by decide +kernel
theorem dX5_one_0 : decode cX5_one 0 = .ok (.iload_n 0, 1) := fd_get adX5_one_0 (k := 0) rfl
theorem dX5_one_1 : decode cX5_one 1 = .ok (.ifCond .eq 7, 3) := fd_get adX5_one_0 (k := 1) rfl
theorem dX5_one_4 : decode cX5_one 4 = .ok (.iconst 1, 1) := fd_get adX5_one_0 (k := 2) rfl
theorem dX5_one_5 : decode cX5_one 5 = .ok (.goto 4, 3) := fd_get adX5_one_0 (k := 3) rfl
theorem dX5_one_8 : decode cX5_one 8 = .ok (.iconst 0, 1) := fd_get adX5_one_0 (k := 4) rfl
theorem dX5_one_9 : decode cX5_one 9 = .ok (.ireturn, 1) := fd_get adX5_one_0 (k := 5) rfl
theorem adX5_held_0 : fd_rows (cX5_held.data.toList.drop 0) 0 [(0, some (.iload_n 0), 1), (1, some (.sipush 9999), 3), (4, some (.if_icmp .le 9), 3), (7, some (.sipush 9999), 3), (10, some (.goto 17), 3), (13, some (.iload_n 0), 1), (14, some (.sipush (-9999)), 3), (17, some (.if_icmp .ge 9), 3), (20, some (.sipush (-9999)), 3), (23, some (.goto 4), 3), (26, some (.iload_n 0), 1), (27, some (.ireturn), 1)] = true := by decide +kernel
theorem dX5_held_0 : decode cX5_held 0 = .ok (.iload_n 0, 1) := fd_get adX5_held_0 (k := 0) rfl
theorem dX5_held_1 : decode cX5_held 1 = .ok (.sipush 9999, 3) := fd_get adX5_held_0 (k := 1) rfl
theorem dX5_held_4 : decode cX5_held 4 = .ok (.if_icmp .le 9, 3) := fd_get adX5_held_0 (k := 2) rfl
theorem dX5_held_7 : decode cX5_held 7 = .ok (.sipush 9999, 3) := fd_get adX5_held_0 (k := 3) rfl
theorem dX5_held_10 : decode cX5_held 10 = .ok (.goto 17, 3) := fd_get adX5_held_0 (k := 4) rfl
theorem dX5_held_13 : decode cX5_held 13 = .ok (.iload_n 0, 1) := fd_get adX5_held_0 (k := 5) rfl
theorem dX5_held_14 : decode cX5_held 14 = .ok (.sipush (-9999), 3) := fd_get adX5_held_0 (k := 6) rfl
theorem dX5_held_17 : decode cX5_held 17 = .ok (.if_icmp .ge 9, 3) := fd_get adX5_held_0 (k := 7) rfl
theorem dX5_held_20 : decode cX5_held 20 = .ok (.sipush (-9999), 3) := fd_get adX5_held_0 (k := 8) rfl
theorem dX5_held_23 : decode cX5_held 23 = .ok (.goto 4, 3) := fd_get adX5_held_0 (k := 9) rfl
theorem dX5_held_26 : decode cX5_held 26 = .ok (.iload_n 0, 1) := fd_get adX5_held_0 (k := 10) rfl
theorem dX5_held_27 : decode cX5_held 27 = .ok (.ireturn, 1) := fd_get adX5_held_0 (k := 11) rfl
theorem adX5_thrown_0 : fd_rows (cX5_thrown.data.toList.drop 0) 0 [(0, some (.aload_n 0), 1), (1, some (.getfield 42), 3), (4, some (.ireturn), 1)] = true := by decide +kernel
theorem dX5_thrown_0 : decode cX5_thrown 0 = .ok (.aload_n 0, 1) := fd_get adX5_thrown_0 (k := 0) rfl
theorem dX5_thrown_1 : decode cX5_thrown 1 = .ok (.getfield 42, 3) := fd_get adX5_thrown_0 (k := 1) rfl
theorem dX5_thrown_4 : decode cX5_thrown 4 = .ok (.ireturn, 1) := fd_get adX5_thrown_0 (k := 2) rfl
theorem adX5_refuse_0 : fd_rows (cX5_refuse.data.toList.drop 0) 0 [(0, some (.iload_n 1), 1), (1, some (.ifCond .eq 15), 3), (4, some (.aload_n 0), 1), (5, some (.getfield 42), 3), (8, some (.ifCond .ne 8), 3), (11, some (.aload_n 0), 1), (12, some (.iload_n 2), 1), (13, some (.putfield 42), 3), (16, some (.aload_n 0), 1), (17, some (.getfield 42), 3), (20, some (.ifCond .le 7), 3), (23, some (.iconst 1), 1), (24, some (.goto 4), 3), (27, some (.iconst 0), 1), (28, some (.ireturn), 1)] = true := by decide +kernel
theorem dX5_refuse_0 : decode cX5_refuse 0 = .ok (.iload_n 1, 1) := fd_get adX5_refuse_0 (k := 0) rfl
theorem dX5_refuse_1 : decode cX5_refuse 1 = .ok (.ifCond .eq 15, 3) := fd_get adX5_refuse_0 (k := 1) rfl
theorem dX5_refuse_4 : decode cX5_refuse 4 = .ok (.aload_n 0, 1) := fd_get adX5_refuse_0 (k := 2) rfl
theorem dX5_refuse_5 : decode cX5_refuse 5 = .ok (.getfield 42, 3) := fd_get adX5_refuse_0 (k := 3) rfl
theorem dX5_refuse_8 : decode cX5_refuse 8 = .ok (.ifCond .ne 8, 3) := fd_get adX5_refuse_0 (k := 4) rfl
theorem dX5_refuse_11 : decode cX5_refuse 11 = .ok (.aload_n 0, 1) := fd_get adX5_refuse_0 (k := 5) rfl
theorem dX5_refuse_12 : decode cX5_refuse 12 = .ok (.iload_n 2, 1) := fd_get adX5_refuse_0 (k := 6) rfl
theorem dX5_refuse_13 : decode cX5_refuse 13 = .ok (.putfield 42, 3) := fd_get adX5_refuse_0 (k := 7) rfl
theorem dX5_refuse_16 : decode cX5_refuse 16 = .ok (.aload_n 0, 1) := fd_get adX5_refuse_0 (k := 8) rfl
theorem dX5_refuse_17 : decode cX5_refuse 17 = .ok (.getfield 42, 3) := fd_get adX5_refuse_0 (k := 9) rfl
theorem dX5_refuse_20 : decode cX5_refuse 20 = .ok (.ifCond .le 7, 3) := fd_get adX5_refuse_0 (k := 10) rfl
theorem dX5_refuse_23 : decode cX5_refuse 23 = .ok (.iconst 1, 1) := fd_get adX5_refuse_0 (k := 11) rfl
theorem dX5_refuse_24 : decode cX5_refuse 24 = .ok (.goto 4, 3) := fd_get adX5_refuse_0 (k := 12) rfl
theorem dX5_refuse_27 : decode cX5_refuse 27 = .ok (.iconst 0, 1) := fd_get adX5_refuse_0 (k := 13) rfl
theorem dX5_refuse_28 : decode cX5_refuse 28 = .ok (.ireturn, 1) := fd_get adX5_refuse_0 (k := 14) rfl
theorem mwsX5_start_0 : ∀ w ∈ wsX50, w ∈ wsX5_start := fun w h => (List.mem_cons_of_mem _ (List.mem_append_right _ h))
set_option maxRecDepth 20000 in
theorem ggX5_start_X5_refuse : GoodIn wsX5_start wsX5_refuse := goodIn_sub (List.forall_mem_cons.mpr ⟨(List.mem_cons_of_mem _ (List.mem_append_left _ (List.mem_of_getElem? (i := 5) rfl))), (List.forall_mem_cons.mpr ⟨(List.mem_cons_of_mem _ (List.mem_append_left _ (List.mem_of_getElem? (i := 0) rfl))), (tk_mem 13 _ (fun w h => (mwsX5_start_0 _ (tkB_mem 0 13 h))) (fun _ h => absurd h List.not_mem_nil))⟩)⟩) (by decide +kernel)
set_option maxRecDepth 20000 in
theorem gX5_start_X5_refuse : GoodIn wsX5_start (wsV RX5 45 RX5 yX5_refuse wsX5_refuse) := goodIn_app (goodIn_sub (tk_mem 4 _ (fun w h => (List.mem_cons_of_mem _ (List.mem_append_left _ (tkB_mem 1 4 h)))) (fun _ h => absurd h List.not_mem_nil)) (by decide +kernel)) ggX5_start_X5_refuse
theorem adX5_start_0 : fd_rows (cX5_start.data.toList.drop 0) 0 [(0, some (.aload_n 0), 1), (1, some (.iconst 0), 1), (2, some (.putfield 42), 3), (5, some (.aload_n 0), 1), (6, some (.iload_n 1), 1), (7, some (.iload_n 2), 1), (8, some (.invokevirtual 45), 3), (11, some (.ireturn), 1)] = true := by decide +kernel
theorem dX5_start_0 : decode cX5_start 0 = .ok (.aload_n 0, 1) := fd_get adX5_start_0 (k := 0) rfl
theorem dX5_start_1 : decode cX5_start 1 = .ok (.iconst 0, 1) := fd_get adX5_start_0 (k := 1) rfl
theorem dX5_start_2 : decode cX5_start 2 = .ok (.putfield 42, 3) := fd_get adX5_start_0 (k := 2) rfl
theorem dX5_start_5 : decode cX5_start 5 = .ok (.aload_n 0, 1) := fd_get adX5_start_0 (k := 3) rfl
theorem dX5_start_6 : decode cX5_start 6 = .ok (.iload_n 1, 1) := fd_get adX5_start_0 (k := 4) rfl
theorem dX5_start_7 : decode cX5_start 7 = .ok (.iload_n 2, 1) := fd_get adX5_start_0 (k := 5) rfl
theorem dX5_start_8 : decode cX5_start 8 = .ok (.invokevirtual 45, 3) := fd_get adX5_start_0 (k := 6) rfl
theorem dX5_start_11 : decode cX5_start 11 = .ok (.ireturn, 1) := fd_get adX5_start_0 (k := 7) rfl
set_option maxRecDepth 20000 in
theorem ggX5_isNoBook_X5_isIn : GoodIn wsX5_isNoBook wsX5_isIn := goodIn_sub (List.forall_mem_cons.mpr ⟨(List.mem_cons_of_mem _ (List.mem_of_getElem? (i := 3) rfl)), (fun _ h => absurd h List.not_mem_nil)⟩) (by decide +kernel)
set_option maxRecDepth 20000 in
theorem gX5_isNoBook_X5_isIn : GoodIn wsX5_isNoBook (va_wsS RX5 49 yX5_isIn wsX5_isIn) := goodIn_app (goodIn_sub (List.forall_mem_cons.mpr ⟨(List.mem_cons_of_mem _ (List.mem_of_getElem? (i := 0) rfl)), (List.forall_mem_cons.mpr ⟨(List.mem_cons_of_mem _ (List.mem_of_getElem? (i := 1) rfl)), (List.forall_mem_cons.mpr ⟨(List.mem_cons_of_mem _ (List.mem_of_getElem? (i := 2) rfl)), (fun _ h => absurd h List.not_mem_nil)⟩)⟩)⟩) (by decide +kernel)) ggX5_isNoBook_X5_isIn
theorem adX5_isNoBook_0 : fd_rows (cX5_isNoBook.data.toList.drop 0) 0 [(0, some (.iload_n 0), 1), (1, some (.iconst 0), 1), (2, some (.iconst 2), 1), (3, some (.invokestatic 49), 3), (6, some (.ifCond .ne 7), 3), (9, some (.iconst 1), 1), (10, some (.goto 4), 3), (13, some (.iconst 0), 1), (14, some (.ireturn), 1)] = true := by decide +kernel
theorem dX5_isNoBook_0 : decode cX5_isNoBook 0 = .ok (.iload_n 0, 1) := fd_get adX5_isNoBook_0 (k := 0) rfl
theorem dX5_isNoBook_1 : decode cX5_isNoBook 1 = .ok (.iconst 0, 1) := fd_get adX5_isNoBook_0 (k := 1) rfl
theorem dX5_isNoBook_2 : decode cX5_isNoBook 2 = .ok (.iconst 2, 1) := fd_get adX5_isNoBook_0 (k := 2) rfl
theorem dX5_isNoBook_3 : decode cX5_isNoBook 3 = .ok (.invokestatic 49, 3) := fd_get adX5_isNoBook_0 (k := 3) rfl
theorem dX5_isNoBook_6 : decode cX5_isNoBook 6 = .ok (.ifCond .ne 7, 3) := fd_get adX5_isNoBook_0 (k := 4) rfl
theorem dX5_isNoBook_9 : decode cX5_isNoBook 9 = .ok (.iconst 1, 1) := fd_get adX5_isNoBook_0 (k := 5) rfl
theorem dX5_isNoBook_10 : decode cX5_isNoBook 10 = .ok (.goto 4, 3) := fd_get adX5_isNoBook_0 (k := 6) rfl
theorem dX5_isNoBook_13 : decode cX5_isNoBook 13 = .ok (.iconst 0, 1) := fd_get adX5_isNoBook_0 (k := 7) rfl
theorem dX5_isNoBook_14 : decode cX5_isNoBook 14 = .ok (.ireturn, 1) := fd_get adX5_isNoBook_0 (k := 8) rfl
set_option maxRecDepth 20000 in
theorem ggX5_isNoKey_X5_isIn : GoodIn wsX5_isNoKey wsX5_isIn := goodIn_sub (List.forall_mem_cons.mpr ⟨(List.mem_cons_of_mem _ (List.mem_of_getElem? (i := 3) rfl)), (fun _ h => absurd h List.not_mem_nil)⟩) (by decide +kernel)
set_option maxRecDepth 20000 in
theorem gX5_isNoKey_X5_isIn : GoodIn wsX5_isNoKey (va_wsS RX5 49 yX5_isIn wsX5_isIn) := goodIn_app (goodIn_sub (List.forall_mem_cons.mpr ⟨(List.mem_cons_of_mem _ (List.mem_of_getElem? (i := 0) rfl)), (List.forall_mem_cons.mpr ⟨(List.mem_cons_of_mem _ (List.mem_of_getElem? (i := 1) rfl)), (List.forall_mem_cons.mpr ⟨(List.mem_cons_of_mem _ (List.mem_of_getElem? (i := 2) rfl)), (fun _ h => absurd h List.not_mem_nil)⟩)⟩)⟩) (by decide +kernel)) ggX5_isNoKey_X5_isIn
theorem adX5_isNoKey_0 : fd_rows (cX5_isNoKey.data.toList.drop 0) 0 [(0, some (.iload_n 0), 1), (1, some (.iconst 0), 1), (2, some (.bipush 99), 2), (4, some (.invokestatic 49), 3), (7, some (.ifCond .ne 7), 3), (10, some (.iconst 1), 1), (11, some (.goto 4), 3), (14, some (.iconst 0), 1), (15, some (.ireturn), 1)] = true := by decide +kernel
theorem dX5_isNoKey_0 : decode cX5_isNoKey 0 = .ok (.iload_n 0, 1) := fd_get adX5_isNoKey_0 (k := 0) rfl
theorem dX5_isNoKey_1 : decode cX5_isNoKey 1 = .ok (.iconst 0, 1) := fd_get adX5_isNoKey_0 (k := 1) rfl
theorem dX5_isNoKey_2 : decode cX5_isNoKey 2 = .ok (.bipush 99, 2) := fd_get adX5_isNoKey_0 (k := 2) rfl
theorem dX5_isNoKey_4 : decode cX5_isNoKey 4 = .ok (.invokestatic 49, 3) := fd_get adX5_isNoKey_0 (k := 3) rfl
theorem dX5_isNoKey_7 : decode cX5_isNoKey 7 = .ok (.ifCond .ne 7, 3) := fd_get adX5_isNoKey_0 (k := 4) rfl
theorem dX5_isNoKey_10 : decode cX5_isNoKey 10 = .ok (.iconst 1, 1) := fd_get adX5_isNoKey_0 (k := 5) rfl
theorem dX5_isNoKey_11 : decode cX5_isNoKey 11 = .ok (.goto 4, 3) := fd_get adX5_isNoKey_0 (k := 6) rfl
theorem dX5_isNoKey_14 : decode cX5_isNoKey 14 = .ok (.iconst 0, 1) := fd_get adX5_isNoKey_0 (k := 7) rfl
theorem dX5_isNoKey_15 : decode cX5_isNoKey 15 = .ok (.ireturn, 1) := fd_get adX5_isNoKey_0 (k := 8) rfl
set_option maxRecDepth 20000 in
theorem ggX5_isNoValue_X5_isIn : GoodIn wsX5_isNoValue wsX5_isIn := goodIn_sub (List.forall_mem_cons.mpr ⟨(List.mem_cons_of_mem _ (List.mem_of_getElem? (i := 3) rfl)), (fun _ h => absurd h List.not_mem_nil)⟩) (by decide +kernel)
set_option maxRecDepth 20000 in
theorem gX5_isNoValue_X5_isIn : GoodIn wsX5_isNoValue (va_wsS RX5 49 yX5_isIn wsX5_isIn) := goodIn_app (goodIn_sub (List.forall_mem_cons.mpr ⟨(List.mem_cons_of_mem _ (List.mem_of_getElem? (i := 0) rfl)), (List.forall_mem_cons.mpr ⟨(List.mem_cons_of_mem _ (List.mem_of_getElem? (i := 1) rfl)), (List.forall_mem_cons.mpr ⟨(List.mem_cons_of_mem _ (List.mem_of_getElem? (i := 2) rfl)), (fun _ h => absurd h List.not_mem_nil)⟩)⟩)⟩) (by decide +kernel)) ggX5_isNoValue_X5_isIn
theorem adX5_isNoValue_0 : fd_rows (cX5_isNoValue.data.toList.drop 0) 0 [(0, some (.iload_n 0), 1), (1, some (.sipush (-9999)), 3), (4, some (.sipush 9999), 3), (7, some (.invokestatic 49), 3), (10, some (.ifCond .ne 7), 3), (13, some (.iconst 1), 1), (14, some (.goto 4), 3), (17, some (.iconst 0), 1), (18, some (.ireturn), 1)] = true := by decide +kernel
theorem dX5_isNoValue_0 : decode cX5_isNoValue 0 = .ok (.iload_n 0, 1) := fd_get adX5_isNoValue_0 (k := 0) rfl
theorem dX5_isNoValue_1 : decode cX5_isNoValue 1 = .ok (.sipush (-9999), 3) := fd_get adX5_isNoValue_0 (k := 1) rfl
theorem dX5_isNoValue_4 : decode cX5_isNoValue 4 = .ok (.sipush 9999, 3) := fd_get adX5_isNoValue_0 (k := 2) rfl
theorem dX5_isNoValue_7 : decode cX5_isNoValue 7 = .ok (.invokestatic 49, 3) := fd_get adX5_isNoValue_0 (k := 3) rfl
theorem dX5_isNoValue_10 : decode cX5_isNoValue 10 = .ok (.ifCond .ne 7, 3) := fd_get adX5_isNoValue_0 (k := 4) rfl
theorem dX5_isNoValue_13 : decode cX5_isNoValue 13 = .ok (.iconst 1, 1) := fd_get adX5_isNoValue_0 (k := 5) rfl
theorem dX5_isNoValue_14 : decode cX5_isNoValue 14 = .ok (.goto 4, 3) := fd_get adX5_isNoValue_0 (k := 6) rfl
theorem dX5_isNoValue_17 : decode cX5_isNoValue 17 = .ok (.iconst 0, 1) := fd_get adX5_isNoValue_0 (k := 7) rfl
theorem dX5_isNoValue_18 : decode cX5_isNoValue 18 = .ok (.ireturn, 1) := fd_get adX5_isNoValue_0 (k := 8) rfl
set_option maxRecDepth 20000 in
theorem ggX5_isNoView_X5_isIn : GoodIn wsX5_isNoView wsX5_isIn := goodIn_sub (List.forall_mem_cons.mpr ⟨(List.mem_cons_of_mem _ (List.mem_append_left _ (List.mem_of_getElem? (i := 4) rfl))), (fun _ h => absurd h List.not_mem_nil)⟩) (by decide +kernel)
set_option maxRecDepth 20000 in
theorem gX5_isNoView_X5_isIn : GoodIn wsX5_isNoView (va_wsS RX5 49 yX5_isIn wsX5_isIn) := goodIn_app (goodIn_sub (List.forall_mem_cons.mpr ⟨(List.mem_cons_of_mem _ (List.mem_append_left _ (List.mem_of_getElem? (i := 1) rfl))), (List.forall_mem_cons.mpr ⟨(List.mem_cons_of_mem _ (List.mem_append_left _ (List.mem_of_getElem? (i := 2) rfl))), (List.forall_mem_cons.mpr ⟨(List.mem_cons_of_mem _ (List.mem_append_left _ (List.mem_of_getElem? (i := 3) rfl))), (fun _ h => absurd h List.not_mem_nil)⟩)⟩)⟩) (by decide +kernel)) ggX5_isNoView_X5_isIn
theorem adX5_isNoView_0 : fd_rows (cX5_isNoView.data.toList.drop 0) 0 [(0, some (.iload_n 1), 1), (1, some (.iconst 0), 1), (2, some (.iconst 3), 1), (3, some (.invokestatic 49), 3), (6, some (.ifCond .eq 12), 3), (9, some (.aload_n 0), 1), (10, some (.getfield 22), 3), (13, some (.iload_n 1), 1), (14, some (.aaload), 1), (15, some (.ifnonnull 7), 3), (18, some (.iconst 1), 1), (19, some (.goto 4), 3), (22, some (.iconst 0), 1), (23, some (.ireturn), 1)] = true := by decide +kernel
theorem dX5_isNoView_0 : decode cX5_isNoView 0 = .ok (.iload_n 1, 1) := fd_get adX5_isNoView_0 (k := 0) rfl
theorem dX5_isNoView_1 : decode cX5_isNoView 1 = .ok (.iconst 0, 1) := fd_get adX5_isNoView_0 (k := 1) rfl
theorem dX5_isNoView_2 : decode cX5_isNoView 2 = .ok (.iconst 3, 1) := fd_get adX5_isNoView_0 (k := 2) rfl
theorem dX5_isNoView_3 : decode cX5_isNoView 3 = .ok (.invokestatic 49, 3) := fd_get adX5_isNoView_0 (k := 3) rfl
theorem dX5_isNoView_6 : decode cX5_isNoView 6 = .ok (.ifCond .eq 12, 3) := fd_get adX5_isNoView_0 (k := 4) rfl
theorem dX5_isNoView_9 : decode cX5_isNoView 9 = .ok (.aload_n 0, 1) := fd_get adX5_isNoView_0 (k := 5) rfl
theorem dX5_isNoView_10 : decode cX5_isNoView 10 = .ok (.getfield 22, 3) := fd_get adX5_isNoView_0 (k := 6) rfl
theorem dX5_isNoView_13 : decode cX5_isNoView 13 = .ok (.iload_n 1, 1) := fd_get adX5_isNoView_0 (k := 7) rfl
theorem dX5_isNoView_14 : decode cX5_isNoView 14 = .ok (.aaload, 1) := fd_get adX5_isNoView_0 (k := 8) rfl
theorem dX5_isNoView_15 : decode cX5_isNoView 15 = .ok (.ifnonnull 7, 3) := fd_get adX5_isNoView_0 (k := 9) rfl
theorem dX5_isNoView_18 : decode cX5_isNoView 18 = .ok (.iconst 1, 1) := fd_get adX5_isNoView_0 (k := 10) rfl
theorem dX5_isNoView_19 : decode cX5_isNoView 19 = .ok (.goto 4, 3) := fd_get adX5_isNoView_0 (k := 11) rfl
theorem dX5_isNoView_22 : decode cX5_isNoView 22 = .ok (.iconst 0, 1) := fd_get adX5_isNoView_0 (k := 12) rfl
theorem dX5_isNoView_23 : decode cX5_isNoView 23 = .ok (.ireturn, 1) := fd_get adX5_isNoView_0 (k := 13) rfl
theorem mwsX5_isBad_0 : ∀ w ∈ wsX50, w ∈ wsX5_isBad := fun w h => (List.mem_cons_of_mem _ (List.mem_append_right _ h))
set_option maxRecDepth 20000 in
theorem ggX5_isBad_X5_isNoBook : GoodIn wsX5_isBad wsX5_isNoBook := goodIn_sub (List.forall_mem_cons.mpr ⟨(List.mem_cons_of_mem _ (List.mem_append_left _ (List.mem_of_getElem? (i := 3) rfl))), (List.forall_mem_cons.mpr ⟨(List.mem_cons_of_mem _ (List.mem_append_left _ (List.mem_of_getElem? (i := 4) rfl))), (List.forall_mem_cons.mpr ⟨(List.mem_cons_of_mem _ (List.mem_append_left _ (List.mem_of_getElem? (i := 5) rfl))), (List.forall_mem_cons.mpr ⟨(List.mem_cons_of_mem _ (List.mem_append_left _ (List.mem_of_getElem? (i := 2) rfl))), (List.forall_mem_cons.mpr ⟨(List.mem_cons_of_mem _ (List.mem_append_left _ (List.mem_of_getElem? (i := 6) rfl))), (fun _ h => absurd h List.not_mem_nil)⟩)⟩)⟩)⟩)⟩) (by decide +kernel)
set_option maxRecDepth 20000 in
theorem gX5_isBad_X5_isNoBook : GoodIn wsX5_isBad (va_wsS RX5 53 yX5_isNoBook wsX5_isNoBook) := goodIn_app (goodIn_sub (List.forall_mem_cons.mpr ⟨(List.mem_cons_of_mem _ (List.mem_append_left _ (List.mem_of_getElem? (i := 0) rfl))), (List.forall_mem_cons.mpr ⟨(List.mem_cons_of_mem _ (List.mem_append_left _ (List.mem_of_getElem? (i := 1) rfl))), (List.forall_mem_cons.mpr ⟨(List.mem_cons_of_mem _ (List.mem_append_left _ (List.mem_of_getElem? (i := 2) rfl))), (fun _ h => absurd h List.not_mem_nil)⟩)⟩)⟩) (by decide +kernel)) ggX5_isBad_X5_isNoBook
set_option maxRecDepth 20000 in
theorem ggX5_isBad_X5_start : GoodIn wsX5_isBad wsX5_start := goodIn_sub (tk_mem 5 _ (fun w h => (List.mem_cons_of_mem _ (List.mem_append_left _ (tkB_mem 10 5 h)))) (List.forall_mem_cons.mpr ⟨(List.mem_cons_of_mem _ (List.mem_append_left _ (List.mem_of_getElem? (i := 2) rfl))), (List.forall_mem_cons.mpr ⟨(List.mem_cons_of_mem _ (List.mem_append_left _ (List.mem_of_getElem? (i := 15) rfl))), (tk_mem 13 _ (fun w h => (mwsX5_isBad_0 _ (tkB_mem 0 13 h))) (fun _ h => absurd h List.not_mem_nil))⟩)⟩)) (by decide +kernel)
set_option maxRecDepth 20000 in
theorem gX5_isBad_X5_start : GoodIn wsX5_isBad (wsV RX5 57 RX5 yX5_start wsX5_start) := goodIn_app (goodIn_sub (List.forall_mem_cons.mpr ⟨(List.mem_cons_of_mem _ (List.mem_append_left _ (List.mem_of_getElem? (i := 7) rfl))), (List.forall_mem_cons.mpr ⟨(List.mem_cons_of_mem _ (List.mem_append_left _ (List.mem_of_getElem? (i := 8) rfl))), (List.forall_mem_cons.mpr ⟨(List.mem_cons_of_mem _ (List.mem_append_left _ (List.mem_of_getElem? (i := 9) rfl))), (List.forall_mem_cons.mpr ⟨(List.mem_cons_of_mem _ (List.mem_append_left _ (List.mem_of_getElem? (i := 2) rfl))), (fun _ h => absurd h List.not_mem_nil)⟩)⟩)⟩)⟩) (by decide +kernel)) ggX5_isBad_X5_start
set_option maxRecDepth 20000 in
theorem ggX5_isBad_X5_isNoKey : GoodIn wsX5_isBad wsX5_isNoKey := goodIn_sub (List.forall_mem_cons.mpr ⟨(List.mem_cons_of_mem _ (List.mem_append_left _ (List.mem_of_getElem? (i := 18) rfl))), (List.forall_mem_cons.mpr ⟨(List.mem_cons_of_mem _ (List.mem_append_left _ (List.mem_of_getElem? (i := 4) rfl))), (List.forall_mem_cons.mpr ⟨(List.mem_cons_of_mem _ (List.mem_append_left _ (List.mem_of_getElem? (i := 5) rfl))), (List.forall_mem_cons.mpr ⟨(List.mem_cons_of_mem _ (List.mem_append_left _ (List.mem_of_getElem? (i := 2) rfl))), (List.forall_mem_cons.mpr ⟨(List.mem_cons_of_mem _ (List.mem_append_left _ (List.mem_of_getElem? (i := 6) rfl))), (fun _ h => absurd h List.not_mem_nil)⟩)⟩)⟩)⟩)⟩) (by decide +kernel)
set_option maxRecDepth 20000 in
theorem gX5_isBad_X5_isNoKey : GoodIn wsX5_isBad (va_wsS RX5 60 yX5_isNoKey wsX5_isNoKey) := goodIn_app (goodIn_sub (List.forall_mem_cons.mpr ⟨(List.mem_cons_of_mem _ (List.mem_append_left _ (List.mem_of_getElem? (i := 16) rfl))), (List.forall_mem_cons.mpr ⟨(List.mem_cons_of_mem _ (List.mem_append_left _ (List.mem_of_getElem? (i := 17) rfl))), (List.forall_mem_cons.mpr ⟨(List.mem_cons_of_mem _ (List.mem_append_left _ (List.mem_of_getElem? (i := 2) rfl))), (fun _ h => absurd h List.not_mem_nil)⟩)⟩)⟩) (by decide +kernel)) ggX5_isBad_X5_isNoKey
set_option maxRecDepth 20000 in
theorem ggX5_isBad_X5_refuse : GoodIn wsX5_isBad wsX5_refuse := goodIn_sub (List.forall_mem_cons.mpr ⟨(List.mem_cons_of_mem _ (List.mem_append_left _ (List.mem_of_getElem? (i := 15) rfl))), (List.forall_mem_cons.mpr ⟨(List.mem_cons_of_mem _ (List.mem_append_left _ (List.mem_of_getElem? (i := 11) rfl))), (tk_mem 13 _ (fun w h => (mwsX5_isBad_0 _ (tkB_mem 0 13 h))) (fun _ h => absurd h List.not_mem_nil))⟩)⟩) (by decide +kernel)
set_option maxRecDepth 20000 in
theorem gX5_isBad_X5_refuse : GoodIn wsX5_isBad (wsV RX5 45 RX5 yX5_refuse wsX5_refuse) := goodIn_app (goodIn_sub (List.forall_mem_cons.mpr ⟨(List.mem_cons_of_mem _ (List.mem_append_left _ (List.mem_of_getElem? (i := 12) rfl))), (List.forall_mem_cons.mpr ⟨(List.mem_cons_of_mem _ (List.mem_append_left _ (List.mem_of_getElem? (i := 13) rfl))), (List.forall_mem_cons.mpr ⟨(List.mem_cons_of_mem _ (List.mem_append_left _ (List.mem_of_getElem? (i := 14) rfl))), (List.forall_mem_cons.mpr ⟨(List.mem_cons_of_mem _ (List.mem_append_left _ (List.mem_of_getElem? (i := 2) rfl))), (fun _ h => absurd h List.not_mem_nil)⟩)⟩)⟩)⟩) (by decide +kernel)) ggX5_isBad_X5_refuse
theorem adX5_isBad_0 : fd_rows (cX5_isBad.data.toList.drop 0) 0 [(0, some (.aload_n 0), 1), (1, some (.iload_n 1), 1), (2, some (.invokestatic 53), 3), (5, some (.iconst 1), 1), (6, some (.invokevirtual 57), 3), (9, some (.ifCond .ne 15), 3), (12, some (.aload_n 0), 1), (13, some (.iload_n 2), 1), (14, some (.invokestatic 60), 3), (17, some (.iconst 2), 1), (18, some (.invokevirtual 45), 3), (21, some (.ifCond .eq 7), 3), (24, some (.iconst 1), 1), (25, some (.goto 4), 3), (28, some (.iconst 0), 1), (29, some (.ireturn), 1)] = true := by decide +kernel
theorem dX5_isBad_0 : decode cX5_isBad 0 = .ok (.aload_n 0, 1) := fd_get adX5_isBad_0 (k := 0) rfl
theorem dX5_isBad_1 : decode cX5_isBad 1 = .ok (.iload_n 1, 1) := fd_get adX5_isBad_0 (k := 1) rfl
theorem dX5_isBad_2 : decode cX5_isBad 2 = .ok (.invokestatic 53, 3) := fd_get adX5_isBad_0 (k := 2) rfl
theorem dX5_isBad_5 : decode cX5_isBad 5 = .ok (.iconst 1, 1) := fd_get adX5_isBad_0 (k := 3) rfl
theorem dX5_isBad_6 : decode cX5_isBad 6 = .ok (.invokevirtual 57, 3) := fd_get adX5_isBad_0 (k := 4) rfl
theorem dX5_isBad_9 : decode cX5_isBad 9 = .ok (.ifCond .ne 15, 3) := fd_get adX5_isBad_0 (k := 5) rfl
theorem dX5_isBad_12 : decode cX5_isBad 12 = .ok (.aload_n 0, 1) := fd_get adX5_isBad_0 (k := 6) rfl
theorem dX5_isBad_13 : decode cX5_isBad 13 = .ok (.iload_n 2, 1) := fd_get adX5_isBad_0 (k := 7) rfl
theorem dX5_isBad_14 : decode cX5_isBad 14 = .ok (.invokestatic 60, 3) := fd_get adX5_isBad_0 (k := 8) rfl
theorem dX5_isBad_17 : decode cX5_isBad 17 = .ok (.iconst 2, 1) := fd_get adX5_isBad_0 (k := 9) rfl
theorem dX5_isBad_18 : decode cX5_isBad 18 = .ok (.invokevirtual 45, 3) := fd_get adX5_isBad_0 (k := 10) rfl
theorem dX5_isBad_21 : decode cX5_isBad 21 = .ok (.ifCond .eq 7, 3) := fd_get adX5_isBad_0 (k := 11) rfl
theorem dX5_isBad_24 : decode cX5_isBad 24 = .ok (.iconst 1, 1) := fd_get adX5_isBad_0 (k := 12) rfl
theorem dX5_isBad_25 : decode cX5_isBad 25 = .ok (.goto 4, 3) := fd_get adX5_isBad_0 (k := 13) rfl
theorem dX5_isBad_28 : decode cX5_isBad 28 = .ok (.iconst 0, 1) := fd_get adX5_isBad_0 (k := 14) rfl
theorem dX5_isBad_29 : decode cX5_isBad 29 = .ok (.ireturn, 1) := fd_get adX5_isBad_0 (k := 15) rfl
theorem mwsX5_isBad__0 : ∀ w ∈ wsX50, w ∈ wsX5_isBad_ := fun w h => (List.mem_cons_of_mem _ (List.mem_append_right _ h))
set_option maxRecDepth 20000 in
theorem ggX5_isBad__X5_isNoBook : GoodIn wsX5_isBad_ wsX5_isNoBook := goodIn_sub (List.forall_mem_cons.mpr ⟨(List.mem_cons_of_mem _ (List.mem_append_left _ (List.mem_of_getElem? (i := 3) rfl))), (List.forall_mem_cons.mpr ⟨(List.mem_cons_of_mem _ (List.mem_append_left _ (List.mem_of_getElem? (i := 4) rfl))), (List.forall_mem_cons.mpr ⟨(List.mem_cons_of_mem _ (List.mem_append_left _ (List.mem_of_getElem? (i := 5) rfl))), (List.forall_mem_cons.mpr ⟨(List.mem_cons_of_mem _ (List.mem_append_left _ (List.mem_of_getElem? (i := 2) rfl))), (List.forall_mem_cons.mpr ⟨(List.mem_cons_of_mem _ (List.mem_append_left _ (List.mem_of_getElem? (i := 6) rfl))), (fun _ h => absurd h List.not_mem_nil)⟩)⟩)⟩)⟩)⟩) (by decide +kernel)
set_option maxRecDepth 20000 in
theorem gX5_isBad__X5_isNoBook : GoodIn wsX5_isBad_ (va_wsS RX5 53 yX5_isNoBook wsX5_isNoBook) := goodIn_app (goodIn_sub (List.forall_mem_cons.mpr ⟨(List.mem_cons_of_mem _ (List.mem_append_left _ (List.mem_of_getElem? (i := 0) rfl))), (List.forall_mem_cons.mpr ⟨(List.mem_cons_of_mem _ (List.mem_append_left _ (List.mem_of_getElem? (i := 1) rfl))), (List.forall_mem_cons.mpr ⟨(List.mem_cons_of_mem _ (List.mem_append_left _ (List.mem_of_getElem? (i := 2) rfl))), (fun _ h => absurd h List.not_mem_nil)⟩)⟩)⟩) (by decide +kernel)) ggX5_isBad__X5_isNoBook
set_option maxRecDepth 20000 in
theorem ggX5_isBad__X5_start : GoodIn wsX5_isBad_ wsX5_start := goodIn_sub (tk_mem 5 _ (fun w h => (List.mem_cons_of_mem _ (List.mem_append_left _ (tkB_mem 10 5 h)))) (List.forall_mem_cons.mpr ⟨(List.mem_cons_of_mem _ (List.mem_append_left _ (List.mem_of_getElem? (i := 2) rfl))), (List.forall_mem_cons.mpr ⟨(List.mem_cons_of_mem _ (List.mem_append_left _ (List.mem_of_getElem? (i := 15) rfl))), (tk_mem 13 _ (fun w h => (mwsX5_isBad__0 _ (tkB_mem 0 13 h))) (fun _ h => absurd h List.not_mem_nil))⟩)⟩)) (by decide +kernel)
set_option maxRecDepth 20000 in
theorem gX5_isBad__X5_start : GoodIn wsX5_isBad_ (wsV RX5 57 RX5 yX5_start wsX5_start) := goodIn_app (goodIn_sub (List.forall_mem_cons.mpr ⟨(List.mem_cons_of_mem _ (List.mem_append_left _ (List.mem_of_getElem? (i := 7) rfl))), (List.forall_mem_cons.mpr ⟨(List.mem_cons_of_mem _ (List.mem_append_left _ (List.mem_of_getElem? (i := 8) rfl))), (List.forall_mem_cons.mpr ⟨(List.mem_cons_of_mem _ (List.mem_append_left _ (List.mem_of_getElem? (i := 9) rfl))), (List.forall_mem_cons.mpr ⟨(List.mem_cons_of_mem _ (List.mem_append_left _ (List.mem_of_getElem? (i := 2) rfl))), (fun _ h => absurd h List.not_mem_nil)⟩)⟩)⟩)⟩) (by decide +kernel)) ggX5_isBad__X5_start
set_option maxRecDepth 20000 in
theorem ggX5_isBad__X5_isNoKey : GoodIn wsX5_isBad_ wsX5_isNoKey := goodIn_sub (List.forall_mem_cons.mpr ⟨(List.mem_cons_of_mem _ (List.mem_append_left _ (List.mem_of_getElem? (i := 18) rfl))), (List.forall_mem_cons.mpr ⟨(List.mem_cons_of_mem _ (List.mem_append_left _ (List.mem_of_getElem? (i := 4) rfl))), (List.forall_mem_cons.mpr ⟨(List.mem_cons_of_mem _ (List.mem_append_left _ (List.mem_of_getElem? (i := 5) rfl))), (List.forall_mem_cons.mpr ⟨(List.mem_cons_of_mem _ (List.mem_append_left _ (List.mem_of_getElem? (i := 2) rfl))), (List.forall_mem_cons.mpr ⟨(List.mem_cons_of_mem _ (List.mem_append_left _ (List.mem_of_getElem? (i := 6) rfl))), (fun _ h => absurd h List.not_mem_nil)⟩)⟩)⟩)⟩)⟩) (by decide +kernel)
set_option maxRecDepth 20000 in
theorem gX5_isBad__X5_isNoKey : GoodIn wsX5_isBad_ (va_wsS RX5 60 yX5_isNoKey wsX5_isNoKey) := goodIn_app (goodIn_sub (List.forall_mem_cons.mpr ⟨(List.mem_cons_of_mem _ (List.mem_append_left _ (List.mem_of_getElem? (i := 16) rfl))), (List.forall_mem_cons.mpr ⟨(List.mem_cons_of_mem _ (List.mem_append_left _ (List.mem_of_getElem? (i := 17) rfl))), (List.forall_mem_cons.mpr ⟨(List.mem_cons_of_mem _ (List.mem_append_left _ (List.mem_of_getElem? (i := 2) rfl))), (fun _ h => absurd h List.not_mem_nil)⟩)⟩)⟩) (by decide +kernel)) ggX5_isBad__X5_isNoKey
set_option maxRecDepth 20000 in
theorem ggX5_isBad__X5_isNoValue : GoodIn wsX5_isBad_ wsX5_isNoValue := goodIn_sub (List.forall_mem_cons.mpr ⟨(List.mem_cons_of_mem _ (List.mem_append_left _ (List.mem_of_getElem? (i := 21) rfl))), (List.forall_mem_cons.mpr ⟨(List.mem_cons_of_mem _ (List.mem_append_left _ (List.mem_of_getElem? (i := 4) rfl))), (List.forall_mem_cons.mpr ⟨(List.mem_cons_of_mem _ (List.mem_append_left _ (List.mem_of_getElem? (i := 5) rfl))), (List.forall_mem_cons.mpr ⟨(List.mem_cons_of_mem _ (List.mem_append_left _ (List.mem_of_getElem? (i := 2) rfl))), (List.forall_mem_cons.mpr ⟨(List.mem_cons_of_mem _ (List.mem_append_left _ (List.mem_of_getElem? (i := 6) rfl))), (fun _ h => absurd h List.not_mem_nil)⟩)⟩)⟩)⟩)⟩) (by decide +kernel)
set_option maxRecDepth 20000 in
theorem gX5_isBad__X5_isNoValue : GoodIn wsX5_isBad_ (va_wsS RX5 63 yX5_isNoValue wsX5_isNoValue) := goodIn_app (goodIn_sub (List.forall_mem_cons.mpr ⟨(List.mem_cons_of_mem _ (List.mem_append_left _ (List.mem_of_getElem? (i := 19) rfl))), (List.forall_mem_cons.mpr ⟨(List.mem_cons_of_mem _ (List.mem_append_left _ (List.mem_of_getElem? (i := 20) rfl))), (List.forall_mem_cons.mpr ⟨(List.mem_cons_of_mem _ (List.mem_append_left _ (List.mem_of_getElem? (i := 2) rfl))), (fun _ h => absurd h List.not_mem_nil)⟩)⟩)⟩) (by decide +kernel)) ggX5_isBad__X5_isNoValue
set_option maxRecDepth 20000 in
theorem ggX5_isBad__X5_refuse : GoodIn wsX5_isBad_ wsX5_refuse := goodIn_sub (List.forall_mem_cons.mpr ⟨(List.mem_cons_of_mem _ (List.mem_append_left _ (List.mem_of_getElem? (i := 15) rfl))), (List.forall_mem_cons.mpr ⟨(List.mem_cons_of_mem _ (List.mem_append_left _ (List.mem_of_getElem? (i := 11) rfl))), (tk_mem 13 _ (fun w h => (mwsX5_isBad__0 _ (tkB_mem 0 13 h))) (fun _ h => absurd h List.not_mem_nil))⟩)⟩) (by decide +kernel)
set_option maxRecDepth 20000 in
theorem gX5_isBad__X5_refuse : GoodIn wsX5_isBad_ (wsV RX5 45 RX5 yX5_refuse wsX5_refuse) := goodIn_app (goodIn_sub (List.forall_mem_cons.mpr ⟨(List.mem_cons_of_mem _ (List.mem_append_left _ (List.mem_of_getElem? (i := 12) rfl))), (List.forall_mem_cons.mpr ⟨(List.mem_cons_of_mem _ (List.mem_append_left _ (List.mem_of_getElem? (i := 13) rfl))), (List.forall_mem_cons.mpr ⟨(List.mem_cons_of_mem _ (List.mem_append_left _ (List.mem_of_getElem? (i := 14) rfl))), (List.forall_mem_cons.mpr ⟨(List.mem_cons_of_mem _ (List.mem_append_left _ (List.mem_of_getElem? (i := 2) rfl))), (fun _ h => absurd h List.not_mem_nil)⟩)⟩)⟩)⟩) (by decide +kernel)) ggX5_isBad__X5_refuse
theorem adX5_isBad__0 : fd_rows (cX5_isBad_.data.toList.drop 0) 0 [(0, some (.aload_n 0), 1), (1, some (.iload_n 1), 1), (2, some (.invokestatic 53), 3), (5, some (.iconst 1), 1), (6, some (.invokevirtual 57), 3), (9, some (.ifCond .ne 30), 3), (12, some (.aload_n 0), 1), (13, some (.iload_n 2), 1), (14, some (.invokestatic 60), 3), (17, some (.ifCond .ne 10), 3), (20, some (.iload_n 3), 1), (21, some (.invokestatic 63), 3), (24, some (.ifCond .eq 7), 3), (27, some (.iconst 1), 1), (28, some (.goto 4), 3), (31, some (.iconst 0), 1)] = true := by decide +kernel
theorem adX5_isBad__1 : fd_rows (cX5_isBad_.data.toList.drop 32) 32 [(32, some (.iconst 2), 1), (33, some (.invokevirtual 45), 3), (36, some (.ifCond .eq 7), 3), (39, some (.iconst 1), 1), (40, some (.goto 4), 3), (43, some (.iconst 0), 1), (44, some (.ireturn), 1)] = true := by decide +kernel
theorem dX5_isBad__0 : decode cX5_isBad_ 0 = .ok (.aload_n 0, 1) := fd_get adX5_isBad__0 (k := 0) rfl
theorem dX5_isBad__1 : decode cX5_isBad_ 1 = .ok (.iload_n 1, 1) := fd_get adX5_isBad__0 (k := 1) rfl
theorem dX5_isBad__2 : decode cX5_isBad_ 2 = .ok (.invokestatic 53, 3) := fd_get adX5_isBad__0 (k := 2) rfl
theorem dX5_isBad__5 : decode cX5_isBad_ 5 = .ok (.iconst 1, 1) := fd_get adX5_isBad__0 (k := 3) rfl
theorem dX5_isBad__6 : decode cX5_isBad_ 6 = .ok (.invokevirtual 57, 3) := fd_get adX5_isBad__0 (k := 4) rfl
theorem dX5_isBad__9 : decode cX5_isBad_ 9 = .ok (.ifCond .ne 30, 3) := fd_get adX5_isBad__0 (k := 5) rfl
theorem dX5_isBad__12 : decode cX5_isBad_ 12 = .ok (.aload_n 0, 1) := fd_get adX5_isBad__0 (k := 6) rfl
theorem dX5_isBad__13 : decode cX5_isBad_ 13 = .ok (.iload_n 2, 1) := fd_get adX5_isBad__0 (k := 7) rfl
theorem dX5_isBad__14 : decode cX5_isBad_ 14 = .ok (.invokestatic 60, 3) := fd_get adX5_isBad__0 (k := 8) rfl
theorem dX5_isBad__17 : decode cX5_isBad_ 17 = .ok (.ifCond .ne 10, 3) := fd_get adX5_isBad__0 (k := 9) rfl
theorem dX5_isBad__20 : decode cX5_isBad_ 20 = .ok (.iload_n 3, 1) := fd_get adX5_isBad__0 (k := 10) rfl
theorem dX5_isBad__21 : decode cX5_isBad_ 21 = .ok (.invokestatic 63, 3) := fd_get adX5_isBad__0 (k := 11) rfl
theorem dX5_isBad__24 : decode cX5_isBad_ 24 = .ok (.ifCond .eq 7, 3) := fd_get adX5_isBad__0 (k := 12) rfl
theorem dX5_isBad__27 : decode cX5_isBad_ 27 = .ok (.iconst 1, 1) := fd_get adX5_isBad__0 (k := 13) rfl
theorem dX5_isBad__28 : decode cX5_isBad_ 28 = .ok (.goto 4, 3) := fd_get adX5_isBad__0 (k := 14) rfl
theorem dX5_isBad__31 : decode cX5_isBad_ 31 = .ok (.iconst 0, 1) := fd_get adX5_isBad__0 (k := 15) rfl
theorem dX5_isBad__32 : decode cX5_isBad_ 32 = .ok (.iconst 2, 1) := fd_get adX5_isBad__1 (k := 0) rfl
theorem dX5_isBad__33 : decode cX5_isBad_ 33 = .ok (.invokevirtual 45, 3) := fd_get adX5_isBad__1 (k := 1) rfl
theorem dX5_isBad__36 : decode cX5_isBad_ 36 = .ok (.ifCond .eq 7, 3) := fd_get adX5_isBad__1 (k := 2) rfl
theorem dX5_isBad__39 : decode cX5_isBad_ 39 = .ok (.iconst 1, 1) := fd_get adX5_isBad__1 (k := 3) rfl
theorem dX5_isBad__40 : decode cX5_isBad_ 40 = .ok (.goto 4, 3) := fd_get adX5_isBad__1 (k := 4) rfl
theorem dX5_isBad__43 : decode cX5_isBad_ 43 = .ok (.iconst 0, 1) := fd_get adX5_isBad__1 (k := 5) rfl
theorem dX5_isBad__44 : decode cX5_isBad_ 44 = .ok (.ireturn, 1) := fd_get adX5_isBad__1 (k := 6) rfl
theorem adX5_whole_0 : fd_rows (cX5_whole.data.toList.drop 0) 0 [(0, some (.iconst 5), 1), (1, none, 2), (3, some (.dup), 1), (4, some (.iconst 0), 1), (5, some (.iload_n 0), 1), (6, some (.iastore), 1), (7, some (.dup), 1), (8, some (.iconst 1), 1), (9, some (.sipush (-10000)), 3), (12, some (.iastore), 1), (13, some (.dup), 1), (14, some (.iconst 2), 1), (15, some (.iconst 0), 1), (16, some (.iastore), 1), (17, some (.dup), 1), (18, some (.iconst 3), 1)] = true := by decide +kernel
theorem adX5_whole_1 : fd_rows (cX5_whole.data.toList.drop 19) 19 [(19, some (.sipush (-10000)), 3), (22, some (.iastore), 1), (23, some (.dup), 1), (24, some (.iconst 4), 1), (25, some (.iconst 0), 1), (26, some (.iastore), 1), (27, some (.areturn), 1)] = true := by decide +kernel
theorem dX5_whole_0 : decode cX5_whole 0 = .ok (.iconst 5, 1) := fd_get adX5_whole_0 (k := 0) rfl
theorem dX5_whole_1 : decode cX5_whole 1 = .ok (.newarray .int, 2) := by decide +kernel
theorem dX5_whole_3 : decode cX5_whole 3 = .ok (.dup, 1) := fd_get adX5_whole_0 (k := 2) rfl
theorem dX5_whole_4 : decode cX5_whole 4 = .ok (.iconst 0, 1) := fd_get adX5_whole_0 (k := 3) rfl
theorem dX5_whole_5 : decode cX5_whole 5 = .ok (.iload_n 0, 1) := fd_get adX5_whole_0 (k := 4) rfl
theorem dX5_whole_6 : decode cX5_whole 6 = .ok (.iastore, 1) := fd_get adX5_whole_0 (k := 5) rfl
theorem dX5_whole_7 : decode cX5_whole 7 = .ok (.dup, 1) := fd_get adX5_whole_0 (k := 6) rfl
theorem dX5_whole_8 : decode cX5_whole 8 = .ok (.iconst 1, 1) := fd_get adX5_whole_0 (k := 7) rfl
theorem dX5_whole_9 : decode cX5_whole 9 = .ok (.sipush (-10000), 3) := fd_get adX5_whole_0 (k := 8) rfl
theorem dX5_whole_12 : decode cX5_whole 12 = .ok (.iastore, 1) := fd_get adX5_whole_0 (k := 9) rfl
theorem dX5_whole_13 : decode cX5_whole 13 = .ok (.dup, 1) := fd_get adX5_whole_0 (k := 10) rfl
theorem dX5_whole_14 : decode cX5_whole 14 = .ok (.iconst 2, 1) := fd_get adX5_whole_0 (k := 11) rfl
theorem dX5_whole_15 : decode cX5_whole 15 = .ok (.iconst 0, 1) := fd_get adX5_whole_0 (k := 12) rfl
theorem dX5_whole_16 : decode cX5_whole 16 = .ok (.iastore, 1) := fd_get adX5_whole_0 (k := 13) rfl
theorem dX5_whole_17 : decode cX5_whole 17 = .ok (.dup, 1) := fd_get adX5_whole_0 (k := 14) rfl
theorem dX5_whole_18 : decode cX5_whole 18 = .ok (.iconst 3, 1) := fd_get adX5_whole_0 (k := 15) rfl
theorem dX5_whole_19 : decode cX5_whole 19 = .ok (.sipush (-10000), 3) := fd_get adX5_whole_1 (k := 0) rfl
theorem dX5_whole_22 : decode cX5_whole 22 = .ok (.iastore, 1) := fd_get adX5_whole_1 (k := 1) rfl
theorem dX5_whole_23 : decode cX5_whole 23 = .ok (.dup, 1) := fd_get adX5_whole_1 (k := 2) rfl
theorem dX5_whole_24 : decode cX5_whole 24 = .ok (.iconst 4, 1) := fd_get adX5_whole_1 (k := 3) rfl
theorem dX5_whole_25 : decode cX5_whole 25 = .ok (.iconst 0, 1) := fd_get adX5_whole_1 (k := 4) rfl
theorem dX5_whole_26 : decode cX5_whole 26 = .ok (.iastore, 1) := fd_get adX5_whole_1 (k := 5) rfl
theorem dX5_whole_27 : decode cX5_whole 27 = .ok (.areturn, 1) := fd_get adX5_whole_1 (k := 6) rfl
theorem adX5_weight_0 : fd_rows (cX5_weight.data.toList.drop 0) 0 [(0, some (.aload_n 0), 1), (1, some (.getfield 18), 3), (4, some (.aload_n 0), 1), (5, some (.getfield 14), 3), (8, some (.aload_n 1), 1), (9, some (.iconst 0), 1), (10, some (.iaload), 1), (11, some (.iaload), 1), (12, some (.aaload), 1), (13, some (.iload_n 2), 1), (14, some (.iaload), 1), (15, some (.ireturn), 1)] = true := by decide +kernel
theorem dX5_weight_0 : decode cX5_weight 0 = .ok (.aload_n 0, 1) := fd_get adX5_weight_0 (k := 0) rfl
theorem dX5_weight_1 : decode cX5_weight 1 = .ok (.getfield 18, 3) := fd_get adX5_weight_0 (k := 1) rfl
theorem dX5_weight_4 : decode cX5_weight 4 = .ok (.aload_n 0, 1) := fd_get adX5_weight_0 (k := 2) rfl
theorem dX5_weight_5 : decode cX5_weight 5 = .ok (.getfield 14, 3) := fd_get adX5_weight_0 (k := 3) rfl
theorem dX5_weight_8 : decode cX5_weight 8 = .ok (.aload_n 1, 1) := fd_get adX5_weight_0 (k := 4) rfl
theorem dX5_weight_9 : decode cX5_weight 9 = .ok (.iconst 0, 1) := fd_get adX5_weight_0 (k := 5) rfl
theorem dX5_weight_10 : decode cX5_weight 10 = .ok (.iaload, 1) := fd_get adX5_weight_0 (k := 6) rfl
theorem dX5_weight_11 : decode cX5_weight 11 = .ok (.iaload, 1) := fd_get adX5_weight_0 (k := 7) rfl
theorem dX5_weight_12 : decode cX5_weight 12 = .ok (.aaload, 1) := fd_get adX5_weight_0 (k := 8) rfl
theorem dX5_weight_13 : decode cX5_weight 13 = .ok (.iload_n 2, 1) := fd_get adX5_weight_0 (k := 9) rfl
theorem dX5_weight_14 : decode cX5_weight 14 = .ok (.iaload, 1) := fd_get adX5_weight_0 (k := 10) rfl
theorem dX5_weight_15 : decode cX5_weight 15 = .ok (.ireturn, 1) := fd_get adX5_weight_0 (k := 11) rfl
theorem mwsX5_isWithin_0 : ∀ w ∈ wsX50, w ∈ wsX5_isWithin := fun w h => (List.mem_cons_of_mem _ (List.mem_append_right _ h))
set_option maxRecDepth 20000 in
theorem ggX5_isWithin_X5_weight : GoodIn wsX5_isWithin wsX5_weight := goodIn_sub (List.forall_mem_cons.mpr ⟨(List.mem_cons_of_mem _ (List.mem_append_left _ (List.mem_of_getElem? (i := 4) rfl))), (List.forall_mem_cons.mpr ⟨(List.mem_cons_of_mem _ (List.mem_append_left _ (List.mem_of_getElem? (i := 5) rfl))), (List.forall_mem_cons.mpr ⟨(List.mem_cons_of_mem _ (List.mem_append_left _ (List.mem_of_getElem? (i := 6) rfl))), (tk_mem 13 _ (fun w h => (mwsX5_isWithin_0 _ (tkB_mem 0 13 h))) (fun _ h => absurd h List.not_mem_nil))⟩)⟩)⟩) (by decide +kernel)
set_option maxRecDepth 20000 in
theorem gX5_isWithin_X5_weight : GoodIn wsX5_isWithin (wsV RX5 66 RX5 yX5_weight wsX5_weight) := goodIn_app (goodIn_sub (tk_mem 4 _ (fun w h => (List.mem_cons_of_mem _ (List.mem_append_left _ (tkB_mem 0 4 h)))) (fun _ h => absurd h List.not_mem_nil)) (by decide +kernel)) ggX5_isWithin_X5_weight
theorem adX5_isWithin_0 : fd_rows (cX5_isWithin.data.toList.drop 0) 0 [(0, some (.aload_n 0), 1), (1, some (.aload_n 1), 1), (2, some (.iload_n 2), 1), (3, some (.invokevirtual 66), 3), (6, some (.istore_n 3), 1), (7, some (.aload_n 1), 1), (8, some (.iconst 1), 1), (9, some (.iaload), 1), (10, some (.sipush (-10000)), 3), (13, some (.if_icmp .eq 23), 3), (16, some (.iload_n 3), 1), (17, some (.aload_n 0), 1), (18, some (.aload_n 1), 1), (19, some (.aload_n 1), 1), (20, some (.iconst 1), 1), (21, some (.iaload), 1)] = true := by decide +kernel
theorem adX5_isWithin_1 : fd_rows (cX5_isWithin.data.toList.drop 22) 22 [(22, some (.invokevirtual 66), 3), (25, some (.iconst 1), 1), (26, some (.iadd), 1), (27, some (.aload_n 1), 1), (28, some (.iconst 2), 1), (29, some (.iaload), 1), (30, some (.isub), 1), (31, some (.if_icmp .ge 5), 3), (34, some (.iconst 0), 1), (35, some (.ireturn), 1), (36, some (.aload_n 1), 1), (37, some (.iconst 3), 1), (38, some (.iaload), 1), (39, some (.sipush (-10000)), 3), (42, some (.if_icmp .eq 21), 3), (45, some (.iload_n 3), 1)] = true := by decide +kernel
theorem adX5_isWithin_2 : fd_rows (cX5_isWithin.data.toList.drop 46) 46 [(46, some (.aload_n 0), 1), (47, some (.aload_n 1), 1), (48, some (.aload_n 1), 1), (49, some (.iconst 3), 1), (50, some (.iaload), 1), (51, some (.invokevirtual 66), 3), (54, some (.iconst 1), 1), (55, some (.isub), 1), (56, some (.aload_n 1), 1), (57, some (.iconst 4), 1), (58, some (.iaload), 1), (59, some (.iadd), 1), (60, some (.if_icmp .gt 7), 3), (63, some (.iconst 1), 1), (64, some (.goto 4), 3), (67, some (.iconst 0), 1)] = true := by decide +kernel
theorem adX5_isWithin_3 : fd_rows (cX5_isWithin.data.toList.drop 68) 68 [(68, some (.ireturn), 1)] = true := by decide +kernel
theorem dX5_isWithin_0 : decode cX5_isWithin 0 = .ok (.aload_n 0, 1) := fd_get adX5_isWithin_0 (k := 0) rfl
theorem dX5_isWithin_1 : decode cX5_isWithin 1 = .ok (.aload_n 1, 1) := fd_get adX5_isWithin_0 (k := 1) rfl
theorem dX5_isWithin_2 : decode cX5_isWithin 2 = .ok (.iload_n 2, 1) := fd_get adX5_isWithin_0 (k := 2) rfl
theorem dX5_isWithin_3 : decode cX5_isWithin 3 = .ok (.invokevirtual 66, 3) := fd_get adX5_isWithin_0 (k := 3) rfl
theorem dX5_isWithin_6 : decode cX5_isWithin 6 = .ok (.istore_n 3, 1) := fd_get adX5_isWithin_0 (k := 4) rfl
theorem dX5_isWithin_7 : decode cX5_isWithin 7 = .ok (.aload_n 1, 1) := fd_get adX5_isWithin_0 (k := 5) rfl
theorem dX5_isWithin_8 : decode cX5_isWithin 8 = .ok (.iconst 1, 1) := fd_get adX5_isWithin_0 (k := 6) rfl
theorem dX5_isWithin_9 : decode cX5_isWithin 9 = .ok (.iaload, 1) := fd_get adX5_isWithin_0 (k := 7) rfl
theorem dX5_isWithin_10 : decode cX5_isWithin 10 = .ok (.sipush (-10000), 3) := fd_get adX5_isWithin_0 (k := 8) rfl
theorem dX5_isWithin_13 : decode cX5_isWithin 13 = .ok (.if_icmp .eq 23, 3) := fd_get adX5_isWithin_0 (k := 9) rfl
theorem dX5_isWithin_16 : decode cX5_isWithin 16 = .ok (.iload_n 3, 1) := fd_get adX5_isWithin_0 (k := 10) rfl
theorem dX5_isWithin_17 : decode cX5_isWithin 17 = .ok (.aload_n 0, 1) := fd_get adX5_isWithin_0 (k := 11) rfl
theorem dX5_isWithin_18 : decode cX5_isWithin 18 = .ok (.aload_n 1, 1) := fd_get adX5_isWithin_0 (k := 12) rfl
theorem dX5_isWithin_19 : decode cX5_isWithin 19 = .ok (.aload_n 1, 1) := fd_get adX5_isWithin_0 (k := 13) rfl
theorem dX5_isWithin_20 : decode cX5_isWithin 20 = .ok (.iconst 1, 1) := fd_get adX5_isWithin_0 (k := 14) rfl
theorem dX5_isWithin_21 : decode cX5_isWithin 21 = .ok (.iaload, 1) := fd_get adX5_isWithin_0 (k := 15) rfl
theorem dX5_isWithin_22 : decode cX5_isWithin 22 = .ok (.invokevirtual 66, 3) := fd_get adX5_isWithin_1 (k := 0) rfl
theorem dX5_isWithin_25 : decode cX5_isWithin 25 = .ok (.iconst 1, 1) := fd_get adX5_isWithin_1 (k := 1) rfl
theorem dX5_isWithin_26 : decode cX5_isWithin 26 = .ok (.iadd, 1) := fd_get adX5_isWithin_1 (k := 2) rfl
theorem dX5_isWithin_27 : decode cX5_isWithin 27 = .ok (.aload_n 1, 1) := fd_get adX5_isWithin_1 (k := 3) rfl
theorem dX5_isWithin_28 : decode cX5_isWithin 28 = .ok (.iconst 2, 1) := fd_get adX5_isWithin_1 (k := 4) rfl
theorem dX5_isWithin_29 : decode cX5_isWithin 29 = .ok (.iaload, 1) := fd_get adX5_isWithin_1 (k := 5) rfl
theorem dX5_isWithin_30 : decode cX5_isWithin 30 = .ok (.isub, 1) := fd_get adX5_isWithin_1 (k := 6) rfl
theorem dX5_isWithin_31 : decode cX5_isWithin 31 = .ok (.if_icmp .ge 5, 3) := fd_get adX5_isWithin_1 (k := 7) rfl
theorem dX5_isWithin_34 : decode cX5_isWithin 34 = .ok (.iconst 0, 1) := fd_get adX5_isWithin_1 (k := 8) rfl
theorem dX5_isWithin_35 : decode cX5_isWithin 35 = .ok (.ireturn, 1) := fd_get adX5_isWithin_1 (k := 9) rfl
theorem dX5_isWithin_36 : decode cX5_isWithin 36 = .ok (.aload_n 1, 1) := fd_get adX5_isWithin_1 (k := 10) rfl
theorem dX5_isWithin_37 : decode cX5_isWithin 37 = .ok (.iconst 3, 1) := fd_get adX5_isWithin_1 (k := 11) rfl
theorem dX5_isWithin_38 : decode cX5_isWithin 38 = .ok (.iaload, 1) := fd_get adX5_isWithin_1 (k := 12) rfl
theorem dX5_isWithin_39 : decode cX5_isWithin 39 = .ok (.sipush (-10000), 3) := fd_get adX5_isWithin_1 (k := 13) rfl
theorem dX5_isWithin_42 : decode cX5_isWithin 42 = .ok (.if_icmp .eq 21, 3) := fd_get adX5_isWithin_1 (k := 14) rfl
theorem dX5_isWithin_45 : decode cX5_isWithin 45 = .ok (.iload_n 3, 1) := fd_get adX5_isWithin_1 (k := 15) rfl
theorem dX5_isWithin_46 : decode cX5_isWithin 46 = .ok (.aload_n 0, 1) := fd_get adX5_isWithin_2 (k := 0) rfl
theorem dX5_isWithin_47 : decode cX5_isWithin 47 = .ok (.aload_n 1, 1) := fd_get adX5_isWithin_2 (k := 1) rfl
theorem dX5_isWithin_48 : decode cX5_isWithin 48 = .ok (.aload_n 1, 1) := fd_get adX5_isWithin_2 (k := 2) rfl
theorem dX5_isWithin_49 : decode cX5_isWithin 49 = .ok (.iconst 3, 1) := fd_get adX5_isWithin_2 (k := 3) rfl
theorem dX5_isWithin_50 : decode cX5_isWithin 50 = .ok (.iaload, 1) := fd_get adX5_isWithin_2 (k := 4) rfl
theorem dX5_isWithin_51 : decode cX5_isWithin 51 = .ok (.invokevirtual 66, 3) := fd_get adX5_isWithin_2 (k := 5) rfl
theorem dX5_isWithin_54 : decode cX5_isWithin 54 = .ok (.iconst 1, 1) := fd_get adX5_isWithin_2 (k := 6) rfl
theorem dX5_isWithin_55 : decode cX5_isWithin 55 = .ok (.isub, 1) := fd_get adX5_isWithin_2 (k := 7) rfl
theorem dX5_isWithin_56 : decode cX5_isWithin 56 = .ok (.aload_n 1, 1) := fd_get adX5_isWithin_2 (k := 8) rfl
theorem dX5_isWithin_57 : decode cX5_isWithin 57 = .ok (.iconst 4, 1) := fd_get adX5_isWithin_2 (k := 9) rfl
theorem dX5_isWithin_58 : decode cX5_isWithin 58 = .ok (.iaload, 1) := fd_get adX5_isWithin_2 (k := 10) rfl
theorem dX5_isWithin_59 : decode cX5_isWithin 59 = .ok (.iadd, 1) := fd_get adX5_isWithin_2 (k := 11) rfl
theorem dX5_isWithin_60 : decode cX5_isWithin 60 = .ok (.if_icmp .gt 7, 3) := fd_get adX5_isWithin_2 (k := 12) rfl
theorem dX5_isWithin_63 : decode cX5_isWithin 63 = .ok (.iconst 1, 1) := fd_get adX5_isWithin_2 (k := 13) rfl
theorem dX5_isWithin_64 : decode cX5_isWithin 64 = .ok (.goto 4, 3) := fd_get adX5_isWithin_2 (k := 14) rfl
theorem dX5_isWithin_67 : decode cX5_isWithin 67 = .ok (.iconst 0, 1) := fd_get adX5_isWithin_2 (k := 15) rfl
theorem dX5_isWithin_68 : decode cX5_isWithin 68 = .ok (.ireturn, 1) := fd_get adX5_isWithin_3 (k := 0) rfl
theorem mwsX5_shows_0 : ∀ w ∈ wsX50, w ∈ wsX5_shows := fun w h => (List.mem_cons_of_mem _ (List.mem_append_right _ h))
set_option maxRecDepth 20000 in
theorem ggX5_shows_X5_isWithin : GoodIn wsX5_shows wsX5_isWithin := goodIn_sub (tk_mem 4 _ (fun w h => (List.mem_cons_of_mem _ (List.mem_append_left _ (tkB_mem 5 4 h)))) (List.forall_mem_cons.mpr ⟨(List.mem_cons_of_mem _ (List.mem_append_left _ (List.mem_of_getElem? (i := 4) rfl))), (List.forall_mem_cons.mpr ⟨(List.mem_cons_of_mem _ (List.mem_append_left _ (List.mem_of_getElem? (i := 9) rfl))), (List.forall_mem_cons.mpr ⟨(List.mem_cons_of_mem _ (List.mem_append_left _ (List.mem_of_getElem? (i := 10) rfl))), (List.forall_mem_cons.mpr ⟨(List.mem_cons_of_mem _ (List.mem_append_left _ (List.mem_of_getElem? (i := 11) rfl))), (tk_mem 13 _ (fun w h => (mwsX5_shows_0 _ (tkB_mem 0 13 h))) (fun _ h => absurd h List.not_mem_nil))⟩)⟩)⟩)⟩)) (by decide +kernel)
set_option maxRecDepth 20000 in
theorem gX5_shows_X5_isWithin : GoodIn wsX5_shows (wsV RX5 70 RX5 yX5_isWithin wsX5_isWithin) := goodIn_app (goodIn_sub (tk_mem 4 _ (fun w h => (List.mem_cons_of_mem _ (List.mem_append_left _ (tkB_mem 1 4 h)))) (fun _ h => absurd h List.not_mem_nil)) (by decide +kernel)) ggX5_shows_X5_isWithin
theorem adX5_shows_0 : fd_rows (cX5_shows.data.toList.drop 0) 0 [(0, some (.aload_n 0), 1), (1, some (.getfield 11), 3), (4, some (.aload_n 1), 1), (5, some (.iconst 0), 1), (6, some (.iaload), 1), (7, some (.aaload), 1), (8, some (.iload_n 2), 1), (9, some (.iaload), 1), (10, some (.sipush (-10000)), 3), (13, some (.if_icmp .eq 16), 3), (16, some (.aload_n 0), 1), (17, some (.aload_n 1), 1), (18, some (.iload_n 2), 1), (19, some (.invokevirtual 70), 3), (22, some (.ifCond .eq 7), 3), (25, some (.iconst 1), 1)] = true := by decide +kernel
theorem adX5_shows_1 : fd_rows (cX5_shows.data.toList.drop 26) 26 [(26, some (.goto 4), 3), (29, some (.iconst 0), 1), (30, some (.ireturn), 1)] = true := by decide +kernel
theorem dX5_shows_0 : decode cX5_shows 0 = .ok (.aload_n 0, 1) := fd_get adX5_shows_0 (k := 0) rfl
theorem dX5_shows_1 : decode cX5_shows 1 = .ok (.getfield 11, 3) := fd_get adX5_shows_0 (k := 1) rfl
theorem dX5_shows_4 : decode cX5_shows 4 = .ok (.aload_n 1, 1) := fd_get adX5_shows_0 (k := 2) rfl
theorem dX5_shows_5 : decode cX5_shows 5 = .ok (.iconst 0, 1) := fd_get adX5_shows_0 (k := 3) rfl
theorem dX5_shows_6 : decode cX5_shows 6 = .ok (.iaload, 1) := fd_get adX5_shows_0 (k := 4) rfl
theorem dX5_shows_7 : decode cX5_shows 7 = .ok (.aaload, 1) := fd_get adX5_shows_0 (k := 5) rfl
theorem dX5_shows_8 : decode cX5_shows 8 = .ok (.iload_n 2, 1) := fd_get adX5_shows_0 (k := 6) rfl
theorem dX5_shows_9 : decode cX5_shows 9 = .ok (.iaload, 1) := fd_get adX5_shows_0 (k := 7) rfl
theorem dX5_shows_10 : decode cX5_shows 10 = .ok (.sipush (-10000), 3) := fd_get adX5_shows_0 (k := 8) rfl
theorem dX5_shows_13 : decode cX5_shows 13 = .ok (.if_icmp .eq 16, 3) := fd_get adX5_shows_0 (k := 9) rfl
theorem dX5_shows_16 : decode cX5_shows 16 = .ok (.aload_n 0, 1) := fd_get adX5_shows_0 (k := 10) rfl
theorem dX5_shows_17 : decode cX5_shows 17 = .ok (.aload_n 1, 1) := fd_get adX5_shows_0 (k := 11) rfl
theorem dX5_shows_18 : decode cX5_shows 18 = .ok (.iload_n 2, 1) := fd_get adX5_shows_0 (k := 12) rfl
theorem dX5_shows_19 : decode cX5_shows 19 = .ok (.invokevirtual 70, 3) := fd_get adX5_shows_0 (k := 13) rfl
theorem dX5_shows_22 : decode cX5_shows 22 = .ok (.ifCond .eq 7, 3) := fd_get adX5_shows_0 (k := 14) rfl
theorem dX5_shows_25 : decode cX5_shows 25 = .ok (.iconst 1, 1) := fd_get adX5_shows_0 (k := 15) rfl
theorem dX5_shows_26 : decode cX5_shows 26 = .ok (.goto 4, 3) := fd_get adX5_shows_1 (k := 0) rfl
theorem dX5_shows_29 : decode cX5_shows 29 = .ok (.iconst 0, 1) := fd_get adX5_shows_1 (k := 1) rfl
theorem dX5_shows_30 : decode cX5_shows 30 = .ok (.ireturn, 1) := fd_get adX5_shows_1 (k := 2) rfl
theorem mwsX5_closest_0 : ∀ w ∈ wsX50, w ∈ wsX5_closest := fun w h => (List.mem_cons_of_mem _ (List.mem_append_right _ h))
set_option maxRecDepth 20000 in
theorem ggX5_closest_X5_shows : GoodIn wsX5_closest wsX5_shows := goodIn_sub (tk_mem 5 _ (fun w h => (List.mem_cons_of_mem _ (List.mem_append_left _ (tkB_mem 4 5 h)))) (List.forall_mem_cons.mpr ⟨(List.mem_cons_of_mem _ (List.mem_append_left _ (List.mem_of_getElem? (i := 3) rfl))), (tk_mem 7 _ (fun w h => (List.mem_cons_of_mem _ (List.mem_append_left _ (tkB_mem 9 7 h)))) (tk_mem 13 _ (fun w h => (mwsX5_closest_0 _ (tkB_mem 0 13 h))) (fun _ h => absurd h List.not_mem_nil)))⟩)) (by decide +kernel)
set_option maxRecDepth 20000 in
theorem gX5_closest_X5_shows : GoodIn wsX5_closest (wsV RX5 74 RX5 yX5_shows wsX5_shows) := goodIn_app (goodIn_sub (tk_mem 4 _ (fun w h => (List.mem_cons_of_mem _ (List.mem_append_left _ (tkB_mem 0 4 h)))) (fun _ h => absurd h List.not_mem_nil)) (by decide +kernel)) ggX5_closest_X5_shows
set_option maxRecDepth 20000 in
theorem ggX5_closest_X5_weight : GoodIn wsX5_closest wsX5_weight := goodIn_sub (List.forall_mem_cons.mpr ⟨(List.mem_cons_of_mem _ (List.mem_append_left _ (List.mem_of_getElem? (i := 13) rfl))), (List.forall_mem_cons.mpr ⟨(List.mem_cons_of_mem _ (List.mem_append_left _ (List.mem_of_getElem? (i := 14) rfl))), (List.forall_mem_cons.mpr ⟨(List.mem_cons_of_mem _ (List.mem_append_left _ (List.mem_of_getElem? (i := 15) rfl))), (tk_mem 13 _ (fun w h => (mwsX5_closest_0 _ (tkB_mem 0 13 h))) (fun _ h => absurd h List.not_mem_nil))⟩)⟩)⟩) (by decide +kernel)
set_option maxRecDepth 20000 in
theorem gX5_closest_X5_weight : GoodIn wsX5_closest (wsV RX5 66 RX5 yX5_weight wsX5_weight) := goodIn_app (goodIn_sub (List.forall_mem_cons.mpr ⟨(List.mem_cons_of_mem _ (List.mem_append_left _ (List.mem_of_getElem? (i := 10) rfl))), (List.forall_mem_cons.mpr ⟨(List.mem_cons_of_mem _ (List.mem_append_left _ (List.mem_of_getElem? (i := 11) rfl))), (List.forall_mem_cons.mpr ⟨(List.mem_cons_of_mem _ (List.mem_append_left _ (List.mem_of_getElem? (i := 12) rfl))), (List.forall_mem_cons.mpr ⟨(List.mem_cons_of_mem _ (List.mem_append_left _ (List.mem_of_getElem? (i := 3) rfl))), (fun _ h => absurd h List.not_mem_nil)⟩)⟩)⟩)⟩) (by decide +kernel)) ggX5_closest_X5_weight
theorem adX5_closest_0 : fd_rows (cX5_closest.data.toList.drop 0) 0 [(0, some (.sipush (-10000)), 3), (3, some (.istore 4), 2), (5, some (.iconst 0), 1), (6, some (.istore 5), 2), (8, some (.iload 5), 2), (10, some (.bipush 100), 2), (12, some (.if_icmp .ge 86), 3), (15, some (.aload_n 0), 1), (16, some (.aload_n 1), 1), (17, some (.iload 5), 2), (19, some (.invokevirtual 74), 3), (22, some (.ifCond .ne 6), 3), (25, some (.goto 67), 3), (28, some (.aload_n 0), 1), (29, some (.aload_n 1), 1), (30, some (.iload 5), 2)] = true := by decide +kernel
theorem adX5_closest_1 : fd_rows (cX5_closest.data.toList.drop 32) 32 [(32, some (.invokevirtual 66), 3), (35, some (.istore 6), 2), (37, some (.iload_n 3), 1), (38, some (.ifCond .eq 12), 3), (41, some (.iload 6), 2), (43, some (.iload_n 2), 1), (44, some (.if_icmp .gt 15), 3), (47, some (.goto 45), 3), (50, some (.iload 6), 2), (52, some (.iload_n 2), 1), (53, some (.if_icmp .lt 6), 3), (56, some (.goto 36), 3), (59, some (.iload 4), 2), (61, some (.sipush (-10000)), 3), (64, some (.if_icmp .eq 24), 3), (67, some (.iload_n 3), 1)] = true := by decide +kernel
theorem adX5_closest_2 : fd_rows (cX5_closest.data.toList.drop 68) 68 [(68, some (.iload 6), 2), (70, some (.aload_n 0), 1), (71, some (.aload_n 1), 1), (72, some (.iload 4), 2), (74, some (.invokevirtual 66), 3), (77, some (.if_icmp .ge 7), 3), (80, some (.iconst 1), 1), (81, some (.goto 4), 3), (84, some (.iconst 0), 1), (85, some (.if_icmp .ne 7), 3), (88, some (.iload 5), 2), (90, some (.istore 4), 2), (92, some (.iinc 5 1), 3), (95, some (.goto (-87)), 3), (98, some (.iload 4), 2), (100, some (.ireturn), 1)] = true := by decide +kernel
theorem dX5_closest_0 : decode cX5_closest 0 = .ok (.sipush (-10000), 3) := fd_get adX5_closest_0 (k := 0) rfl
theorem dX5_closest_3 : decode cX5_closest 3 = .ok (.istore 4, 2) := fd_get adX5_closest_0 (k := 1) rfl
theorem dX5_closest_5 : decode cX5_closest 5 = .ok (.iconst 0, 1) := fd_get adX5_closest_0 (k := 2) rfl
theorem dX5_closest_6 : decode cX5_closest 6 = .ok (.istore 5, 2) := fd_get adX5_closest_0 (k := 3) rfl
theorem dX5_closest_8 : decode cX5_closest 8 = .ok (.iload 5, 2) := fd_get adX5_closest_0 (k := 4) rfl
theorem dX5_closest_10 : decode cX5_closest 10 = .ok (.bipush 100, 2) := fd_get adX5_closest_0 (k := 5) rfl
theorem dX5_closest_12 : decode cX5_closest 12 = .ok (.if_icmp .ge 86, 3) := fd_get adX5_closest_0 (k := 6) rfl
theorem dX5_closest_15 : decode cX5_closest 15 = .ok (.aload_n 0, 1) := fd_get adX5_closest_0 (k := 7) rfl
theorem dX5_closest_16 : decode cX5_closest 16 = .ok (.aload_n 1, 1) := fd_get adX5_closest_0 (k := 8) rfl
theorem dX5_closest_17 : decode cX5_closest 17 = .ok (.iload 5, 2) := fd_get adX5_closest_0 (k := 9) rfl
theorem dX5_closest_19 : decode cX5_closest 19 = .ok (.invokevirtual 74, 3) := fd_get adX5_closest_0 (k := 10) rfl
theorem dX5_closest_22 : decode cX5_closest 22 = .ok (.ifCond .ne 6, 3) := fd_get adX5_closest_0 (k := 11) rfl
theorem dX5_closest_25 : decode cX5_closest 25 = .ok (.goto 67, 3) := fd_get adX5_closest_0 (k := 12) rfl
theorem dX5_closest_28 : decode cX5_closest 28 = .ok (.aload_n 0, 1) := fd_get adX5_closest_0 (k := 13) rfl
theorem dX5_closest_29 : decode cX5_closest 29 = .ok (.aload_n 1, 1) := fd_get adX5_closest_0 (k := 14) rfl
theorem dX5_closest_30 : decode cX5_closest 30 = .ok (.iload 5, 2) := fd_get adX5_closest_0 (k := 15) rfl
theorem dX5_closest_32 : decode cX5_closest 32 = .ok (.invokevirtual 66, 3) := fd_get adX5_closest_1 (k := 0) rfl
theorem dX5_closest_35 : decode cX5_closest 35 = .ok (.istore 6, 2) := fd_get adX5_closest_1 (k := 1) rfl
theorem dX5_closest_37 : decode cX5_closest 37 = .ok (.iload_n 3, 1) := fd_get adX5_closest_1 (k := 2) rfl
theorem dX5_closest_38 : decode cX5_closest 38 = .ok (.ifCond .eq 12, 3) := fd_get adX5_closest_1 (k := 3) rfl
theorem dX5_closest_41 : decode cX5_closest 41 = .ok (.iload 6, 2) := fd_get adX5_closest_1 (k := 4) rfl
theorem dX5_closest_43 : decode cX5_closest 43 = .ok (.iload_n 2, 1) := fd_get adX5_closest_1 (k := 5) rfl
theorem dX5_closest_44 : decode cX5_closest 44 = .ok (.if_icmp .gt 15, 3) := fd_get adX5_closest_1 (k := 6) rfl
theorem dX5_closest_47 : decode cX5_closest 47 = .ok (.goto 45, 3) := fd_get adX5_closest_1 (k := 7) rfl
theorem dX5_closest_50 : decode cX5_closest 50 = .ok (.iload 6, 2) := fd_get adX5_closest_1 (k := 8) rfl
theorem dX5_closest_52 : decode cX5_closest 52 = .ok (.iload_n 2, 1) := fd_get adX5_closest_1 (k := 9) rfl
theorem dX5_closest_53 : decode cX5_closest 53 = .ok (.if_icmp .lt 6, 3) := fd_get adX5_closest_1 (k := 10) rfl
theorem dX5_closest_56 : decode cX5_closest 56 = .ok (.goto 36, 3) := fd_get adX5_closest_1 (k := 11) rfl
theorem dX5_closest_59 : decode cX5_closest 59 = .ok (.iload 4, 2) := fd_get adX5_closest_1 (k := 12) rfl
theorem dX5_closest_61 : decode cX5_closest 61 = .ok (.sipush (-10000), 3) := fd_get adX5_closest_1 (k := 13) rfl
theorem dX5_closest_64 : decode cX5_closest 64 = .ok (.if_icmp .eq 24, 3) := fd_get adX5_closest_1 (k := 14) rfl
theorem dX5_closest_67 : decode cX5_closest 67 = .ok (.iload_n 3, 1) := fd_get adX5_closest_1 (k := 15) rfl
theorem dX5_closest_68 : decode cX5_closest 68 = .ok (.iload 6, 2) := fd_get adX5_closest_2 (k := 0) rfl
theorem dX5_closest_70 : decode cX5_closest 70 = .ok (.aload_n 0, 1) := fd_get adX5_closest_2 (k := 1) rfl
theorem dX5_closest_71 : decode cX5_closest 71 = .ok (.aload_n 1, 1) := fd_get adX5_closest_2 (k := 2) rfl
theorem dX5_closest_72 : decode cX5_closest 72 = .ok (.iload 4, 2) := fd_get adX5_closest_2 (k := 3) rfl
theorem dX5_closest_74 : decode cX5_closest 74 = .ok (.invokevirtual 66, 3) := fd_get adX5_closest_2 (k := 4) rfl
theorem dX5_closest_77 : decode cX5_closest 77 = .ok (.if_icmp .ge 7, 3) := fd_get adX5_closest_2 (k := 5) rfl
theorem dX5_closest_80 : decode cX5_closest 80 = .ok (.iconst 1, 1) := fd_get adX5_closest_2 (k := 6) rfl
theorem dX5_closest_81 : decode cX5_closest 81 = .ok (.goto 4, 3) := fd_get adX5_closest_2 (k := 7) rfl
theorem dX5_closest_84 : decode cX5_closest 84 = .ok (.iconst 0, 1) := fd_get adX5_closest_2 (k := 8) rfl
theorem dX5_closest_85 : decode cX5_closest 85 = .ok (.if_icmp .ne 7, 3) := fd_get adX5_closest_2 (k := 9) rfl
theorem dX5_closest_88 : decode cX5_closest 88 = .ok (.iload 5, 2) := fd_get adX5_closest_2 (k := 10) rfl
theorem dX5_closest_90 : decode cX5_closest 90 = .ok (.istore 4, 2) := fd_get adX5_closest_2 (k := 11) rfl
theorem dX5_closest_92 : decode cX5_closest 92 = .ok (.iinc 5 1, 3) := fd_get adX5_closest_2 (k := 12) rfl
theorem dX5_closest_95 : decode cX5_closest 95 = .ok (.goto (-87), 3) := fd_get adX5_closest_2 (k := 13) rfl
theorem dX5_closest_98 : decode cX5_closest 98 = .ok (.iload 4, 2) := fd_get adX5_closest_2 (k := 14) rfl
theorem dX5_closest_100 : decode cX5_closest 100 = .ok (.ireturn, 1) := fd_get adX5_closest_2 (k := 15) rfl
theorem mwsX5_end_0 : ∀ w ∈ wsX50, w ∈ wsX5_end := fun w h => (List.mem_cons_of_mem _ (List.mem_append_right _ h))
set_option maxRecDepth 20000 in
theorem ggX5_end_X5_closest : GoodIn wsX5_end wsX5_closest := goodIn_sub (tk_mem 4 _ (fun w h => (List.mem_cons_of_mem _ (List.mem_append_left _ (tkB_mem 4 4 h)))) (List.forall_mem_cons.mpr ⟨(List.mem_cons_of_mem _ (List.mem_append_left _ (List.mem_of_getElem? (i := 3) rfl))), (tk_mem 12 _ (fun w h => (List.mem_cons_of_mem _ (List.mem_append_left _ (tkB_mem 8 12 h)))) (tk_mem 13 _ (fun w h => (mwsX5_end_0 _ (tkB_mem 0 13 h))) (fun _ h => absurd h List.not_mem_nil)))⟩)) (by decide +kernel)
set_option maxRecDepth 20000 in
theorem gX5_end_X5_closest : GoodIn wsX5_end (wsV RX5 77 RX5 yX5_closest wsX5_closest) := goodIn_app (goodIn_sub (tk_mem 4 _ (fun w h => (List.mem_cons_of_mem _ (List.mem_append_left _ (tkB_mem 0 4 h)))) (fun _ h => absurd h List.not_mem_nil)) (by decide +kernel)) ggX5_end_X5_closest
theorem adX5_end_0 : fd_rows (cX5_end.data.toList.drop 0) 0 [(0, some (.iload_n 2), 1), (1, some (.ifCond .eq 15), 3), (4, some (.aload_n 0), 1), (5, some (.aload_n 1), 1), (6, some (.sipush 1000), 3), (9, some (.iconst 0), 1), (10, some (.invokevirtual 77), 3), (13, some (.goto 10), 3), (16, some (.aload_n 0), 1), (17, some (.aload_n 1), 1), (18, some (.iconst (-1)), 1), (19, some (.iconst 1), 1), (20, some (.invokevirtual 77), 3), (23, some (.ireturn), 1)] = true := by decide +kernel
theorem dX5_end_0 : decode cX5_end 0 = .ok (.iload_n 2, 1) := fd_get adX5_end_0 (k := 0) rfl
theorem dX5_end_1 : decode cX5_end 1 = .ok (.ifCond .eq 15, 3) := fd_get adX5_end_0 (k := 1) rfl
theorem dX5_end_4 : decode cX5_end 4 = .ok (.aload_n 0, 1) := fd_get adX5_end_0 (k := 2) rfl
theorem dX5_end_5 : decode cX5_end 5 = .ok (.aload_n 1, 1) := fd_get adX5_end_0 (k := 3) rfl
theorem dX5_end_6 : decode cX5_end 6 = .ok (.sipush 1000, 3) := fd_get adX5_end_0 (k := 4) rfl
theorem dX5_end_9 : decode cX5_end 9 = .ok (.iconst 0, 1) := fd_get adX5_end_0 (k := 5) rfl
theorem dX5_end_10 : decode cX5_end 10 = .ok (.invokevirtual 77, 3) := fd_get adX5_end_0 (k := 6) rfl
theorem dX5_end_13 : decode cX5_end 13 = .ok (.goto 10, 3) := fd_get adX5_end_0 (k := 7) rfl
theorem dX5_end_16 : decode cX5_end 16 = .ok (.aload_n 0, 1) := fd_get adX5_end_0 (k := 8) rfl
theorem dX5_end_17 : decode cX5_end 17 = .ok (.aload_n 1, 1) := fd_get adX5_end_0 (k := 9) rfl
theorem dX5_end_18 : decode cX5_end 18 = .ok (.iconst (-1), 1) := fd_get adX5_end_0 (k := 10) rfl
theorem dX5_end_19 : decode cX5_end 19 = .ok (.iconst 1, 1) := fd_get adX5_end_0 (k := 11) rfl
theorem dX5_end_20 : decode cX5_end 20 = .ok (.invokevirtual 77, 3) := fd_get adX5_end_0 (k := 12) rfl
theorem dX5_end_23 : decode cX5_end 23 = .ok (.ireturn, 1) := fd_get adX5_end_0 (k := 13) rfl
theorem mwsX5_nearOf_0 : ∀ w ∈ wsX50, w ∈ wsX5_nearOf := fun w h => (List.mem_cons_of_mem _ (List.mem_append_right _ h))
set_option maxRecDepth 20000 in
theorem ggX5_nearOf_X5_weight : GoodIn wsX5_nearOf wsX5_weight := goodIn_sub (List.forall_mem_cons.mpr ⟨(List.mem_cons_of_mem _ (List.mem_append_left _ (List.mem_of_getElem? (i := 4) rfl))), (List.forall_mem_cons.mpr ⟨(List.mem_cons_of_mem _ (List.mem_append_left _ (List.mem_of_getElem? (i := 5) rfl))), (List.forall_mem_cons.mpr ⟨(List.mem_cons_of_mem _ (List.mem_append_left _ (List.mem_of_getElem? (i := 6) rfl))), (tk_mem 13 _ (fun w h => (mwsX5_nearOf_0 _ (tkB_mem 0 13 h))) (fun _ h => absurd h List.not_mem_nil))⟩)⟩)⟩) (by decide +kernel)
set_option maxRecDepth 20000 in
theorem gX5_nearOf_X5_weight : GoodIn wsX5_nearOf (wsV RX5 66 RX5 yX5_weight wsX5_weight) := goodIn_app (goodIn_sub (tk_mem 4 _ (fun w h => (List.mem_cons_of_mem _ (List.mem_append_left _ (tkB_mem 0 4 h)))) (fun _ h => absurd h List.not_mem_nil)) (by decide +kernel)) ggX5_nearOf_X5_weight
set_option maxRecDepth 20000 in
theorem ggX5_nearOf_X5_closest : GoodIn wsX5_nearOf wsX5_closest := goodIn_sub (tk_mem 4 _ (fun w h => (List.mem_cons_of_mem _ (List.mem_append_left _ (tkB_mem 10 4 h)))) (List.forall_mem_cons.mpr ⟨(List.mem_cons_of_mem _ (List.mem_append_left _ (List.mem_of_getElem? (i := 3) rfl))), (tk_mem 6 _ (fun w h => (List.mem_cons_of_mem _ (List.mem_append_left _ (tkB_mem 14 6 h)))) (List.forall_mem_cons.mpr ⟨(List.mem_cons_of_mem _ (List.mem_append_left _ (List.mem_of_getElem? (i := 0) rfl))), (List.forall_mem_cons.mpr ⟨(List.mem_cons_of_mem _ (List.mem_append_left _ (List.mem_of_getElem? (i := 1) rfl))), (List.forall_mem_cons.mpr ⟨(List.mem_cons_of_mem _ (List.mem_append_left _ (List.mem_of_getElem? (i := 2) rfl))), (List.forall_mem_cons.mpr ⟨(List.mem_cons_of_mem _ (List.mem_append_left _ (List.mem_of_getElem? (i := 4) rfl))), (List.forall_mem_cons.mpr ⟨(List.mem_cons_of_mem _ (List.mem_append_left _ (List.mem_of_getElem? (i := 5) rfl))), (List.forall_mem_cons.mpr ⟨(List.mem_cons_of_mem _ (List.mem_append_left _ (List.mem_of_getElem? (i := 6) rfl))), (tk_mem 13 _ (fun w h => (mwsX5_nearOf_0 _ (tkB_mem 0 13 h))) (fun _ h => absurd h List.not_mem_nil))⟩)⟩)⟩)⟩)⟩)⟩))⟩)) (by decide +kernel)
set_option maxRecDepth 20000 in
theorem gX5_nearOf_X5_closest : GoodIn wsX5_nearOf (wsV RX5 77 RX5 yX5_closest wsX5_closest) := goodIn_app (goodIn_sub (List.forall_mem_cons.mpr ⟨(List.mem_cons_of_mem _ (List.mem_append_left _ (List.mem_of_getElem? (i := 7) rfl))), (List.forall_mem_cons.mpr ⟨(List.mem_cons_of_mem _ (List.mem_append_left _ (List.mem_of_getElem? (i := 8) rfl))), (List.forall_mem_cons.mpr ⟨(List.mem_cons_of_mem _ (List.mem_append_left _ (List.mem_of_getElem? (i := 9) rfl))), (List.forall_mem_cons.mpr ⟨(List.mem_cons_of_mem _ (List.mem_append_left _ (List.mem_of_getElem? (i := 3) rfl))), (fun _ h => absurd h List.not_mem_nil)⟩)⟩)⟩)⟩) (by decide +kernel)) ggX5_nearOf_X5_closest
theorem adX5_nearOf_0 : fd_rows (cX5_nearOf.data.toList.drop 0) 0 [(0, some (.aload_n 0), 1), (1, some (.aload_n 1), 1), (2, some (.iload_n 2), 1), (3, some (.invokevirtual 66), 3), (6, some (.istore 4), 2), (8, some (.iload_n 3), 1), (9, none, 27), (36, some (.aload_n 0), 1), (37, some (.aload_n 1), 1), (38, some (.iload 4), 2), (40, some (.iconst 0), 1), (41, some (.invokevirtual 77), 3), (44, some (.ireturn), 1), (45, some (.aload_n 0), 1), (46, some (.aload_n 1), 1), (47, some (.iload 4), 2)] = true := by decide +kernel
theorem adX5_nearOf_1 : fd_rows (cX5_nearOf.data.toList.drop 49) 49 [(49, some (.iconst 1), 1), (50, some (.iadd), 1), (51, some (.iconst 0), 1), (52, some (.invokevirtual 77), 3), (55, some (.ireturn), 1), (56, some (.aload_n 0), 1), (57, some (.aload_n 1), 1), (58, some (.iload 4), 2), (60, some (.iconst 1), 1), (61, some (.isub), 1), (62, some (.iconst 1), 1), (63, some (.invokevirtual 77), 3), (66, some (.ireturn), 1), (67, some (.aload_n 0), 1), (68, some (.aload_n 1), 1), (69, some (.iload 4), 2)] = true := by decide +kernel
theorem adX5_nearOf_2 : fd_rows (cX5_nearOf.data.toList.drop 71) 71 [(71, some (.iconst 1), 1), (72, some (.invokevirtual 77), 3), (75, some (.ireturn), 1)] = true := by decide +kernel
theorem dX5_nearOf_0 : decode cX5_nearOf 0 = .ok (.aload_n 0, 1) := fd_get adX5_nearOf_0 (k := 0) rfl
theorem dX5_nearOf_1 : decode cX5_nearOf 1 = .ok (.aload_n 1, 1) := fd_get adX5_nearOf_0 (k := 1) rfl
theorem dX5_nearOf_2 : decode cX5_nearOf 2 = .ok (.iload_n 2, 1) := fd_get adX5_nearOf_0 (k := 2) rfl
theorem dX5_nearOf_3 : decode cX5_nearOf 3 = .ok (.invokevirtual 66, 3) := fd_get adX5_nearOf_0 (k := 3) rfl
theorem dX5_nearOf_6 : decode cX5_nearOf 6 = .ok (.istore 4, 2) := fd_get adX5_nearOf_0 (k := 4) rfl
theorem dX5_nearOf_8 : decode cX5_nearOf 8 = .ok (.iload_n 3, 1) := fd_get adX5_nearOf_0 (k := 5) rfl
theorem dX5_nearOf_9 : decode cX5_nearOf 9 = .ok (.tableswitch 58 0 2 #[27, 36, 47], 27) := by decide +kernel
theorem dX5_nearOf_36 : decode cX5_nearOf 36 = .ok (.aload_n 0, 1) := fd_get adX5_nearOf_0 (k := 7) rfl
theorem dX5_nearOf_37 : decode cX5_nearOf 37 = .ok (.aload_n 1, 1) := fd_get adX5_nearOf_0 (k := 8) rfl
theorem dX5_nearOf_38 : decode cX5_nearOf 38 = .ok (.iload 4, 2) := fd_get adX5_nearOf_0 (k := 9) rfl
theorem dX5_nearOf_40 : decode cX5_nearOf 40 = .ok (.iconst 0, 1) := fd_get adX5_nearOf_0 (k := 10) rfl
theorem dX5_nearOf_41 : decode cX5_nearOf 41 = .ok (.invokevirtual 77, 3) := fd_get adX5_nearOf_0 (k := 11) rfl
theorem dX5_nearOf_44 : decode cX5_nearOf 44 = .ok (.ireturn, 1) := fd_get adX5_nearOf_0 (k := 12) rfl
theorem dX5_nearOf_45 : decode cX5_nearOf 45 = .ok (.aload_n 0, 1) := fd_get adX5_nearOf_0 (k := 13) rfl
theorem dX5_nearOf_46 : decode cX5_nearOf 46 = .ok (.aload_n 1, 1) := fd_get adX5_nearOf_0 (k := 14) rfl
theorem dX5_nearOf_47 : decode cX5_nearOf 47 = .ok (.iload 4, 2) := fd_get adX5_nearOf_0 (k := 15) rfl
theorem dX5_nearOf_49 : decode cX5_nearOf 49 = .ok (.iconst 1, 1) := fd_get adX5_nearOf_1 (k := 0) rfl
theorem dX5_nearOf_50 : decode cX5_nearOf 50 = .ok (.iadd, 1) := fd_get adX5_nearOf_1 (k := 1) rfl
theorem dX5_nearOf_51 : decode cX5_nearOf 51 = .ok (.iconst 0, 1) := fd_get adX5_nearOf_1 (k := 2) rfl
theorem dX5_nearOf_52 : decode cX5_nearOf 52 = .ok (.invokevirtual 77, 3) := fd_get adX5_nearOf_1 (k := 3) rfl
theorem dX5_nearOf_55 : decode cX5_nearOf 55 = .ok (.ireturn, 1) := fd_get adX5_nearOf_1 (k := 4) rfl
theorem dX5_nearOf_56 : decode cX5_nearOf 56 = .ok (.aload_n 0, 1) := fd_get adX5_nearOf_1 (k := 5) rfl
theorem dX5_nearOf_57 : decode cX5_nearOf 57 = .ok (.aload_n 1, 1) := fd_get adX5_nearOf_1 (k := 6) rfl
theorem dX5_nearOf_58 : decode cX5_nearOf 58 = .ok (.iload 4, 2) := fd_get adX5_nearOf_1 (k := 7) rfl
theorem dX5_nearOf_60 : decode cX5_nearOf 60 = .ok (.iconst 1, 1) := fd_get adX5_nearOf_1 (k := 8) rfl
theorem dX5_nearOf_61 : decode cX5_nearOf 61 = .ok (.isub, 1) := fd_get adX5_nearOf_1 (k := 9) rfl
theorem dX5_nearOf_62 : decode cX5_nearOf 62 = .ok (.iconst 1, 1) := fd_get adX5_nearOf_1 (k := 10) rfl
theorem dX5_nearOf_63 : decode cX5_nearOf 63 = .ok (.invokevirtual 77, 3) := fd_get adX5_nearOf_1 (k := 11) rfl
theorem dX5_nearOf_66 : decode cX5_nearOf 66 = .ok (.ireturn, 1) := fd_get adX5_nearOf_1 (k := 12) rfl
theorem dX5_nearOf_67 : decode cX5_nearOf 67 = .ok (.aload_n 0, 1) := fd_get adX5_nearOf_1 (k := 13) rfl
theorem dX5_nearOf_68 : decode cX5_nearOf 68 = .ok (.aload_n 1, 1) := fd_get adX5_nearOf_1 (k := 14) rfl
theorem dX5_nearOf_69 : decode cX5_nearOf 69 = .ok (.iload 4, 2) := fd_get adX5_nearOf_1 (k := 15) rfl
theorem dX5_nearOf_71 : decode cX5_nearOf 71 = .ok (.iconst 1, 1) := fd_get adX5_nearOf_2 (k := 0) rfl
theorem dX5_nearOf_72 : decode cX5_nearOf 72 = .ok (.invokevirtual 77, 3) := fd_get adX5_nearOf_2 (k := 1) rfl
theorem dX5_nearOf_75 : decode cX5_nearOf 75 = .ok (.ireturn, 1) := fd_get adX5_nearOf_2 (k := 2) rfl
theorem mwsX5_many_0 : ∀ w ∈ wsX50, w ∈ wsX5_many := fun w h => (List.mem_cons_of_mem _ (List.mem_append_right _ h))
set_option maxRecDepth 20000 in
theorem ggX5_many_X5_shows : GoodIn wsX5_many wsX5_shows := goodIn_sub (tk_mem 5 _ (fun w h => (List.mem_cons_of_mem _ (List.mem_append_left _ (tkB_mem 4 5 h)))) (List.forall_mem_cons.mpr ⟨(List.mem_cons_of_mem _ (List.mem_append_left _ (List.mem_of_getElem? (i := 3) rfl))), (tk_mem 7 _ (fun w h => (List.mem_cons_of_mem _ (List.mem_append_left _ (tkB_mem 9 7 h)))) (tk_mem 13 _ (fun w h => (mwsX5_many_0 _ (tkB_mem 0 13 h))) (fun _ h => absurd h List.not_mem_nil)))⟩)) (by decide +kernel)
set_option maxRecDepth 20000 in
theorem gX5_many_X5_shows : GoodIn wsX5_many (wsV RX5 74 RX5 yX5_shows wsX5_shows) := goodIn_app (goodIn_sub (tk_mem 4 _ (fun w h => (List.mem_cons_of_mem _ (List.mem_append_left _ (tkB_mem 0 4 h)))) (fun _ h => absurd h List.not_mem_nil)) (by decide +kernel)) ggX5_many_X5_shows
set_option maxRecDepth 20000 in
theorem ggX5_many_X5_one : GoodIn wsX5_many wsX5_one := goodIn_sub (List.forall_mem_cons.mpr ⟨(List.mem_cons_of_mem _ (List.mem_append_left _ (List.mem_of_getElem? (i := 18) rfl))), (fun _ h => absurd h List.not_mem_nil)⟩) (by decide +kernel)
set_option maxRecDepth 20000 in
theorem gX5_many_X5_one : GoodIn wsX5_many (va_wsS RX5 81 yX5_one wsX5_one) := goodIn_app (goodIn_sub (List.forall_mem_cons.mpr ⟨(List.mem_cons_of_mem _ (List.mem_append_left _ (List.mem_of_getElem? (i := 16) rfl))), (List.forall_mem_cons.mpr ⟨(List.mem_cons_of_mem _ (List.mem_append_left _ (List.mem_of_getElem? (i := 17) rfl))), (List.forall_mem_cons.mpr ⟨(List.mem_cons_of_mem _ (List.mem_append_left _ (List.mem_of_getElem? (i := 3) rfl))), (fun _ h => absurd h List.not_mem_nil)⟩)⟩)⟩) (by decide +kernel)) ggX5_many_X5_one
theorem adX5_many_0 : fd_rows (cX5_many.data.toList.drop 0) 0 [(0, some (.iconst 0), 1), (1, some (.istore_n 2), 1), (2, some (.iconst 0), 1), (3, some (.istore_n 3), 1), (4, some (.iload_n 3), 1), (5, some (.bipush 100), 2), (7, some (.if_icmp .ge 21), 3), (10, some (.iload_n 2), 1), (11, some (.aload_n 0), 1), (12, some (.aload_n 1), 1), (13, some (.iload_n 3), 1), (14, some (.invokevirtual 74), 3), (17, some (.invokestatic 81), 3), (20, some (.iadd), 1), (21, some (.istore_n 2), 1), (22, some (.iinc 3 1), 3)] = true := by decide +kernel
theorem adX5_many_1 : fd_rows (cX5_many.data.toList.drop 25) 25 [(25, some (.goto (-21)), 3), (28, some (.iload_n 2), 1), (29, some (.ireturn), 1)] = true := by decide +kernel
theorem dX5_many_0 : decode cX5_many 0 = .ok (.iconst 0, 1) := fd_get adX5_many_0 (k := 0) rfl
theorem dX5_many_1 : decode cX5_many 1 = .ok (.istore_n 2, 1) := fd_get adX5_many_0 (k := 1) rfl
theorem dX5_many_2 : decode cX5_many 2 = .ok (.iconst 0, 1) := fd_get adX5_many_0 (k := 2) rfl
theorem dX5_many_3 : decode cX5_many 3 = .ok (.istore_n 3, 1) := fd_get adX5_many_0 (k := 3) rfl
theorem dX5_many_4 : decode cX5_many 4 = .ok (.iload_n 3, 1) := fd_get adX5_many_0 (k := 4) rfl
theorem dX5_many_5 : decode cX5_many 5 = .ok (.bipush 100, 2) := fd_get adX5_many_0 (k := 5) rfl
theorem dX5_many_7 : decode cX5_many 7 = .ok (.if_icmp .ge 21, 3) := fd_get adX5_many_0 (k := 6) rfl
theorem dX5_many_10 : decode cX5_many 10 = .ok (.iload_n 2, 1) := fd_get adX5_many_0 (k := 7) rfl
theorem dX5_many_11 : decode cX5_many 11 = .ok (.aload_n 0, 1) := fd_get adX5_many_0 (k := 8) rfl
theorem dX5_many_12 : decode cX5_many 12 = .ok (.aload_n 1, 1) := fd_get adX5_many_0 (k := 9) rfl
theorem dX5_many_13 : decode cX5_many 13 = .ok (.iload_n 3, 1) := fd_get adX5_many_0 (k := 10) rfl
theorem dX5_many_14 : decode cX5_many 14 = .ok (.invokevirtual 74, 3) := fd_get adX5_many_0 (k := 11) rfl
theorem dX5_many_17 : decode cX5_many 17 = .ok (.invokestatic 81, 3) := fd_get adX5_many_0 (k := 12) rfl
theorem dX5_many_20 : decode cX5_many 20 = .ok (.iadd, 1) := fd_get adX5_many_0 (k := 13) rfl
theorem dX5_many_21 : decode cX5_many 21 = .ok (.istore_n 2, 1) := fd_get adX5_many_0 (k := 14) rfl
theorem dX5_many_22 : decode cX5_many 22 = .ok (.iinc 3 1, 3) := fd_get adX5_many_0 (k := 15) rfl
theorem dX5_many_25 : decode cX5_many 25 = .ok (.goto (-21), 3) := fd_get adX5_many_1 (k := 0) rfl
theorem dX5_many_28 : decode cX5_many 28 = .ok (.iload_n 2, 1) := fd_get adX5_many_1 (k := 1) rfl
theorem dX5_many_29 : decode cX5_many 29 = .ok (.ireturn, 1) := fd_get adX5_many_1 (k := 2) rfl
theorem mwsX5_sum_0 : ∀ w ∈ wsX50, w ∈ wsX5_sum := fun w h => (List.mem_cons_of_mem _ (List.mem_append_right _ h))
set_option maxRecDepth 20000 in
theorem ggX5_sum_X5_shows : GoodIn wsX5_sum wsX5_shows := goodIn_sub (List.forall_mem_cons.mpr ⟨(List.mem_cons_of_mem _ (List.mem_append_left _ (List.mem_of_getElem? (i := 5) rfl))), (List.forall_mem_cons.mpr ⟨(List.mem_cons_of_mem _ (List.mem_append_left _ (List.mem_of_getElem? (i := 0) rfl))), (List.forall_mem_cons.mpr ⟨(List.mem_cons_of_mem _ (List.mem_append_left _ (List.mem_of_getElem? (i := 6) rfl))), (List.forall_mem_cons.mpr ⟨(List.mem_cons_of_mem _ (List.mem_append_left _ (List.mem_of_getElem? (i := 7) rfl))), (List.forall_mem_cons.mpr ⟨(List.mem_cons_of_mem _ (List.mem_append_left _ (List.mem_of_getElem? (i := 8) rfl))), (List.forall_mem_cons.mpr ⟨(List.mem_cons_of_mem _ (List.mem_append_left _ (List.mem_of_getElem? (i := 4) rfl))), (tk_mem 7 _ (fun w h => (List.mem_cons_of_mem _ (List.mem_append_left _ (tkB_mem 9 7 h)))) (tk_mem 13 _ (fun w h => (mwsX5_sum_0 _ (tkB_mem 0 13 h))) (fun _ h => absurd h List.not_mem_nil)))⟩)⟩)⟩)⟩)⟩)⟩) (by decide +kernel)
set_option maxRecDepth 20000 in
theorem gX5_sum_X5_shows : GoodIn wsX5_sum (wsV RX5 74 RX5 yX5_shows wsX5_shows) := goodIn_app (goodIn_sub (tk_mem 4 _ (fun w h => (List.mem_cons_of_mem _ (List.mem_append_left _ (tkB_mem 1 4 h)))) (fun _ h => absurd h List.not_mem_nil)) (by decide +kernel)) ggX5_sum_X5_shows
theorem adX5_sum_0 : fd_rows (cX5_sum.data.toList.drop 0) 0 [(0, some (.iconst 0), 1), (1, some (.istore_n 2), 1), (2, some (.iconst 0), 1), (3, some (.istore_n 3), 1), (4, some (.iload_n 3), 1), (5, some (.bipush 100), 2), (7, some (.if_icmp .ge 31), 3), (10, some (.aload_n 0), 1), (11, some (.aload_n 1), 1), (12, some (.iload_n 3), 1), (13, some (.invokevirtual 74), 3), (16, some (.ifCond .eq 16), 3), (19, some (.iload_n 2), 1), (20, some (.aload_n 0), 1), (21, some (.getfield 11), 3), (24, some (.aload_n 1), 1)] = true := by decide +kernel
theorem adX5_sum_1 : fd_rows (cX5_sum.data.toList.drop 25) 25 [(25, some (.iconst 0), 1), (26, some (.iaload), 1), (27, some (.aaload), 1), (28, some (.iload_n 3), 1), (29, some (.iaload), 1), (30, some (.iadd), 1), (31, some (.istore_n 2), 1), (32, some (.iinc 3 1), 3), (35, some (.goto (-31)), 3), (38, some (.iload_n 2), 1), (39, some (.ireturn), 1)] = true := by decide +kernel
theorem dX5_sum_0 : decode cX5_sum 0 = .ok (.iconst 0, 1) := fd_get adX5_sum_0 (k := 0) rfl
theorem dX5_sum_1 : decode cX5_sum 1 = .ok (.istore_n 2, 1) := fd_get adX5_sum_0 (k := 1) rfl
theorem dX5_sum_2 : decode cX5_sum 2 = .ok (.iconst 0, 1) := fd_get adX5_sum_0 (k := 2) rfl
theorem dX5_sum_3 : decode cX5_sum 3 = .ok (.istore_n 3, 1) := fd_get adX5_sum_0 (k := 3) rfl
theorem dX5_sum_4 : decode cX5_sum 4 = .ok (.iload_n 3, 1) := fd_get adX5_sum_0 (k := 4) rfl
theorem dX5_sum_5 : decode cX5_sum 5 = .ok (.bipush 100, 2) := fd_get adX5_sum_0 (k := 5) rfl
theorem dX5_sum_7 : decode cX5_sum 7 = .ok (.if_icmp .ge 31, 3) := fd_get adX5_sum_0 (k := 6) rfl
theorem dX5_sum_10 : decode cX5_sum 10 = .ok (.aload_n 0, 1) := fd_get adX5_sum_0 (k := 7) rfl
theorem dX5_sum_11 : decode cX5_sum 11 = .ok (.aload_n 1, 1) := fd_get adX5_sum_0 (k := 8) rfl
theorem dX5_sum_12 : decode cX5_sum 12 = .ok (.iload_n 3, 1) := fd_get adX5_sum_0 (k := 9) rfl
theorem dX5_sum_13 : decode cX5_sum 13 = .ok (.invokevirtual 74, 3) := fd_get adX5_sum_0 (k := 10) rfl
theorem dX5_sum_16 : decode cX5_sum 16 = .ok (.ifCond .eq 16, 3) := fd_get adX5_sum_0 (k := 11) rfl
theorem dX5_sum_19 : decode cX5_sum 19 = .ok (.iload_n 2, 1) := fd_get adX5_sum_0 (k := 12) rfl
theorem dX5_sum_20 : decode cX5_sum 20 = .ok (.aload_n 0, 1) := fd_get adX5_sum_0 (k := 13) rfl
theorem dX5_sum_21 : decode cX5_sum 21 = .ok (.getfield 11, 3) := fd_get adX5_sum_0 (k := 14) rfl
theorem dX5_sum_24 : decode cX5_sum 24 = .ok (.aload_n 1, 1) := fd_get adX5_sum_0 (k := 15) rfl
theorem dX5_sum_25 : decode cX5_sum 25 = .ok (.iconst 0, 1) := fd_get adX5_sum_1 (k := 0) rfl
theorem dX5_sum_26 : decode cX5_sum 26 = .ok (.iaload, 1) := fd_get adX5_sum_1 (k := 1) rfl
theorem dX5_sum_27 : decode cX5_sum 27 = .ok (.aaload, 1) := fd_get adX5_sum_1 (k := 2) rfl
theorem dX5_sum_28 : decode cX5_sum 28 = .ok (.iload_n 3, 1) := fd_get adX5_sum_1 (k := 3) rfl
theorem dX5_sum_29 : decode cX5_sum 29 = .ok (.iaload, 1) := fd_get adX5_sum_1 (k := 4) rfl
theorem dX5_sum_30 : decode cX5_sum 30 = .ok (.iadd, 1) := fd_get adX5_sum_1 (k := 5) rfl
theorem dX5_sum_31 : decode cX5_sum 31 = .ok (.istore_n 2, 1) := fd_get adX5_sum_1 (k := 6) rfl
theorem dX5_sum_32 : decode cX5_sum 32 = .ok (.iinc 3 1, 3) := fd_get adX5_sum_1 (k := 7) rfl
theorem dX5_sum_35 : decode cX5_sum 35 = .ok (.goto (-31), 3) := fd_get adX5_sum_1 (k := 8) rfl
theorem dX5_sum_38 : decode cX5_sum 38 = .ok (.iload_n 2, 1) := fd_get adX5_sum_1 (k := 9) rfl
theorem dX5_sum_39 : decode cX5_sum 39 = .ok (.ireturn, 1) := fd_get adX5_sum_1 (k := 10) rfl
theorem mwsX5_ahead_0 : ∀ w ∈ wsX50, w ∈ wsX5_ahead := fun w h => (List.mem_cons_of_mem _ (List.mem_append_right _ h))
set_option maxRecDepth 20000 in
theorem ggX5_ahead_X5_whole : GoodIn wsX5_ahead wsX5_whole := goodIn_sub (List.forall_mem_cons.mpr ⟨(List.mem_cons_of_mem _ (List.mem_append_left _ (List.mem_of_getElem? (i := 3) rfl))), (List.forall_mem_cons.mpr ⟨(List.mem_cons_of_mem _ (List.mem_append_left _ (List.mem_of_getElem? (i := 4) rfl))), (fun _ h => absurd h List.not_mem_nil)⟩)⟩) (by decide +kernel)
set_option maxRecDepth 20000 in
theorem gX5_ahead_X5_whole : GoodIn wsX5_ahead (va_wsS RX5 85 yX5_whole wsX5_whole) := goodIn_app (goodIn_sub (List.forall_mem_cons.mpr ⟨(List.mem_cons_of_mem _ (List.mem_append_left _ (List.mem_of_getElem? (i := 0) rfl))), (List.forall_mem_cons.mpr ⟨(List.mem_cons_of_mem _ (List.mem_append_left _ (List.mem_of_getElem? (i := 1) rfl))), (List.forall_mem_cons.mpr ⟨(List.mem_cons_of_mem _ (List.mem_append_left _ (List.mem_of_getElem? (i := 2) rfl))), (fun _ h => absurd h List.not_mem_nil)⟩)⟩)⟩) (by decide +kernel)) ggX5_ahead_X5_whole
set_option maxRecDepth 20000 in
theorem ggX5_ahead_X5_shows : GoodIn wsX5_ahead wsX5_shows := goodIn_sub (tk_mem 5 _ (fun w h => (List.mem_cons_of_mem _ (List.mem_append_left _ (tkB_mem 8 5 h)))) (List.forall_mem_cons.mpr ⟨(List.mem_cons_of_mem _ (List.mem_append_left _ (List.mem_of_getElem? (i := 2) rfl))), (tk_mem 7 _ (fun w h => (List.mem_cons_of_mem _ (List.mem_append_left _ (tkB_mem 13 7 h)))) (tk_mem 13 _ (fun w h => (mwsX5_ahead_0 _ (tkB_mem 0 13 h))) (fun _ h => absurd h List.not_mem_nil)))⟩)) (by decide +kernel)
set_option maxRecDepth 20000 in
theorem gX5_ahead_X5_shows : GoodIn wsX5_ahead (wsV RX5 74 RX5 yX5_shows wsX5_shows) := goodIn_app (goodIn_sub (List.forall_mem_cons.mpr ⟨(List.mem_cons_of_mem _ (List.mem_append_left _ (List.mem_of_getElem? (i := 5) rfl))), (List.forall_mem_cons.mpr ⟨(List.mem_cons_of_mem _ (List.mem_append_left _ (List.mem_of_getElem? (i := 6) rfl))), (List.forall_mem_cons.mpr ⟨(List.mem_cons_of_mem _ (List.mem_append_left _ (List.mem_of_getElem? (i := 7) rfl))), (List.forall_mem_cons.mpr ⟨(List.mem_cons_of_mem _ (List.mem_append_left _ (List.mem_of_getElem? (i := 2) rfl))), (fun _ h => absurd h List.not_mem_nil)⟩)⟩)⟩)⟩) (by decide +kernel)) ggX5_ahead_X5_shows
set_option maxRecDepth 20000 in
theorem ggX5_ahead_X5_weight : GoodIn wsX5_ahead wsX5_weight := goodIn_sub (List.forall_mem_cons.mpr ⟨(List.mem_cons_of_mem _ (List.mem_append_left _ (List.mem_of_getElem? (i := 17) rfl))), (List.forall_mem_cons.mpr ⟨(List.mem_cons_of_mem _ (List.mem_append_left _ (List.mem_of_getElem? (i := 18) rfl))), (List.forall_mem_cons.mpr ⟨(List.mem_cons_of_mem _ (List.mem_append_left _ (List.mem_of_getElem? (i := 19) rfl))), (tk_mem 13 _ (fun w h => (mwsX5_ahead_0 _ (tkB_mem 0 13 h))) (fun _ h => absurd h List.not_mem_nil))⟩)⟩)⟩) (by decide +kernel)
set_option maxRecDepth 20000 in
theorem gX5_ahead_X5_weight : GoodIn wsX5_ahead (wsV RX5 66 RX5 yX5_weight wsX5_weight) := goodIn_app (goodIn_sub (List.forall_mem_cons.mpr ⟨(List.mem_cons_of_mem _ (List.mem_append_left _ (List.mem_of_getElem? (i := 14) rfl))), (List.forall_mem_cons.mpr ⟨(List.mem_cons_of_mem _ (List.mem_append_left _ (List.mem_of_getElem? (i := 15) rfl))), (List.forall_mem_cons.mpr ⟨(List.mem_cons_of_mem _ (List.mem_append_left _ (List.mem_of_getElem? (i := 16) rfl))), (List.forall_mem_cons.mpr ⟨(List.mem_cons_of_mem _ (List.mem_append_left _ (List.mem_of_getElem? (i := 2) rfl))), (fun _ h => absurd h List.not_mem_nil)⟩)⟩)⟩)⟩) (by decide +kernel)) ggX5_ahead_X5_weight
set_option maxRecDepth 20000 in
theorem ggX5_ahead_X5_one : GoodIn wsX5_ahead wsX5_one := goodIn_sub (List.forall_mem_cons.mpr ⟨(List.mem_cons_of_mem _ (List.mem_append_left _ (List.mem_of_getElem? (i := 22) rfl))), (fun _ h => absurd h List.not_mem_nil)⟩) (by decide +kernel)
set_option maxRecDepth 20000 in
theorem gX5_ahead_X5_one : GoodIn wsX5_ahead (va_wsS RX5 81 yX5_one wsX5_one) := goodIn_app (goodIn_sub (List.forall_mem_cons.mpr ⟨(List.mem_cons_of_mem _ (List.mem_append_left _ (List.mem_of_getElem? (i := 20) rfl))), (List.forall_mem_cons.mpr ⟨(List.mem_cons_of_mem _ (List.mem_append_left _ (List.mem_of_getElem? (i := 21) rfl))), (List.forall_mem_cons.mpr ⟨(List.mem_cons_of_mem _ (List.mem_append_left _ (List.mem_of_getElem? (i := 2) rfl))), (fun _ h => absurd h List.not_mem_nil)⟩)⟩)⟩) (by decide +kernel)) ggX5_ahead_X5_one
theorem adX5_ahead_0 : fd_rows (cX5_ahead.data.toList.drop 0) 0 [(0, some (.iload_n 1), 1), (1, some (.invokestatic 85), 3), (4, some (.astore_n 3), 1), (5, some (.iconst 0), 1), (6, some (.istore 4), 2), (8, some (.iconst 0), 1), (9, some (.istore 5), 2), (11, some (.iload 5), 2), (13, some (.bipush 100), 2), (15, some (.if_icmp .ge 48), 3), (18, some (.iload 4), 2), (20, some (.aload_n 0), 1), (21, some (.aload_n 3), 1), (22, some (.iload 5), 2), (24, some (.invokevirtual 74), 3), (27, some (.ifCond .eq 23), 3)] = true := by decide +kernel
theorem adX5_ahead_1 : fd_rows (cX5_ahead.data.toList.drop 30) 30 [(30, some (.aload_n 0), 1), (31, some (.aload_n 3), 1), (32, some (.iload 5), 2), (34, some (.invokevirtual 66), 3), (37, some (.aload_n 0), 1), (38, some (.aload_n 3), 1), (39, some (.iload_n 2), 1), (40, some (.invokevirtual 66), 3), (43, some (.if_icmp .ge 7), 3), (46, some (.iconst 1), 1), (47, some (.goto 4), 3), (50, some (.iconst 0), 1), (51, some (.invokestatic 81), 3), (54, some (.iadd), 1), (55, some (.istore 4), 2), (57, some (.iinc 5 1), 3)] = true := by decide +kernel
theorem adX5_ahead_2 : fd_rows (cX5_ahead.data.toList.drop 60) 60 [(60, some (.goto (-49)), 3), (63, some (.iload 4), 2), (65, some (.ireturn), 1)] = true := by decide +kernel
theorem dX5_ahead_0 : decode cX5_ahead 0 = .ok (.iload_n 1, 1) := fd_get adX5_ahead_0 (k := 0) rfl
theorem dX5_ahead_1 : decode cX5_ahead 1 = .ok (.invokestatic 85, 3) := fd_get adX5_ahead_0 (k := 1) rfl
theorem dX5_ahead_4 : decode cX5_ahead 4 = .ok (.astore_n 3, 1) := fd_get adX5_ahead_0 (k := 2) rfl
theorem dX5_ahead_5 : decode cX5_ahead 5 = .ok (.iconst 0, 1) := fd_get adX5_ahead_0 (k := 3) rfl
theorem dX5_ahead_6 : decode cX5_ahead 6 = .ok (.istore 4, 2) := fd_get adX5_ahead_0 (k := 4) rfl
theorem dX5_ahead_8 : decode cX5_ahead 8 = .ok (.iconst 0, 1) := fd_get adX5_ahead_0 (k := 5) rfl
theorem dX5_ahead_9 : decode cX5_ahead 9 = .ok (.istore 5, 2) := fd_get adX5_ahead_0 (k := 6) rfl
theorem dX5_ahead_11 : decode cX5_ahead 11 = .ok (.iload 5, 2) := fd_get adX5_ahead_0 (k := 7) rfl
theorem dX5_ahead_13 : decode cX5_ahead 13 = .ok (.bipush 100, 2) := fd_get adX5_ahead_0 (k := 8) rfl
theorem dX5_ahead_15 : decode cX5_ahead 15 = .ok (.if_icmp .ge 48, 3) := fd_get adX5_ahead_0 (k := 9) rfl
theorem dX5_ahead_18 : decode cX5_ahead 18 = .ok (.iload 4, 2) := fd_get adX5_ahead_0 (k := 10) rfl
theorem dX5_ahead_20 : decode cX5_ahead 20 = .ok (.aload_n 0, 1) := fd_get adX5_ahead_0 (k := 11) rfl
theorem dX5_ahead_21 : decode cX5_ahead 21 = .ok (.aload_n 3, 1) := fd_get adX5_ahead_0 (k := 12) rfl
theorem dX5_ahead_22 : decode cX5_ahead 22 = .ok (.iload 5, 2) := fd_get adX5_ahead_0 (k := 13) rfl
theorem dX5_ahead_24 : decode cX5_ahead 24 = .ok (.invokevirtual 74, 3) := fd_get adX5_ahead_0 (k := 14) rfl
theorem dX5_ahead_27 : decode cX5_ahead 27 = .ok (.ifCond .eq 23, 3) := fd_get adX5_ahead_0 (k := 15) rfl
theorem dX5_ahead_30 : decode cX5_ahead 30 = .ok (.aload_n 0, 1) := fd_get adX5_ahead_1 (k := 0) rfl
theorem dX5_ahead_31 : decode cX5_ahead 31 = .ok (.aload_n 3, 1) := fd_get adX5_ahead_1 (k := 1) rfl
theorem dX5_ahead_32 : decode cX5_ahead 32 = .ok (.iload 5, 2) := fd_get adX5_ahead_1 (k := 2) rfl
theorem dX5_ahead_34 : decode cX5_ahead 34 = .ok (.invokevirtual 66, 3) := fd_get adX5_ahead_1 (k := 3) rfl
theorem dX5_ahead_37 : decode cX5_ahead 37 = .ok (.aload_n 0, 1) := fd_get adX5_ahead_1 (k := 4) rfl
theorem dX5_ahead_38 : decode cX5_ahead 38 = .ok (.aload_n 3, 1) := fd_get adX5_ahead_1 (k := 5) rfl
theorem dX5_ahead_39 : decode cX5_ahead 39 = .ok (.iload_n 2, 1) := fd_get adX5_ahead_1 (k := 6) rfl
theorem dX5_ahead_40 : decode cX5_ahead 40 = .ok (.invokevirtual 66, 3) := fd_get adX5_ahead_1 (k := 7) rfl
theorem dX5_ahead_43 : decode cX5_ahead 43 = .ok (.if_icmp .ge 7, 3) := fd_get adX5_ahead_1 (k := 8) rfl
theorem dX5_ahead_46 : decode cX5_ahead 46 = .ok (.iconst 1, 1) := fd_get adX5_ahead_1 (k := 9) rfl
theorem dX5_ahead_47 : decode cX5_ahead 47 = .ok (.goto 4, 3) := fd_get adX5_ahead_1 (k := 10) rfl
theorem dX5_ahead_50 : decode cX5_ahead 50 = .ok (.iconst 0, 1) := fd_get adX5_ahead_1 (k := 11) rfl
theorem dX5_ahead_51 : decode cX5_ahead 51 = .ok (.invokestatic 81, 3) := fd_get adX5_ahead_1 (k := 12) rfl
theorem dX5_ahead_54 : decode cX5_ahead 54 = .ok (.iadd, 1) := fd_get adX5_ahead_1 (k := 13) rfl
theorem dX5_ahead_55 : decode cX5_ahead 55 = .ok (.istore 4, 2) := fd_get adX5_ahead_1 (k := 14) rfl
theorem dX5_ahead_57 : decode cX5_ahead 57 = .ok (.iinc 5 1, 3) := fd_get adX5_ahead_1 (k := 15) rfl
theorem dX5_ahead_60 : decode cX5_ahead 60 = .ok (.goto (-49), 3) := fd_get adX5_ahead_2 (k := 0) rfl
theorem dX5_ahead_63 : decode cX5_ahead 63 = .ok (.iload 4, 2) := fd_get adX5_ahead_2 (k := 1) rfl
theorem dX5_ahead_65 : decode cX5_ahead 65 = .ok (.ireturn, 1) := fd_get adX5_ahead_2 (k := 2) rfl
theorem mwsX5_told_0 : ∀ w ∈ wsX5_told_r1, w ∈ wsX5_told := fun w h => (List.mem_cons_of_mem _ (List.mem_append_left _ (List.mem_append_left _ (List.mem_append_left _ (List.mem_append_left _ h)))))
theorem mwsX5_told_1 : ∀ w ∈ wsX5_told_r2, w ∈ wsX5_told := fun w h => (List.mem_cons_of_mem _ (List.mem_append_left _ (List.mem_append_left _ (List.mem_append_left _ (List.mem_append_right _ (List.mem_append_left _ h))))))
theorem mwsX5_told_2 : ∀ w ∈ wsX5_told_r3, w ∈ wsX5_told := fun w h => (List.mem_cons_of_mem _ (List.mem_append_left _ (List.mem_append_left _ (List.mem_append_left _ (List.mem_append_right _ (List.mem_append_right _ (List.mem_append_left _ h)))))))
theorem mwsX5_told_3 : ∀ w ∈ wsX5_told_r4, w ∈ wsX5_told := fun w h => (List.mem_cons_of_mem _ (List.mem_append_left _ (List.mem_append_left _ (List.mem_append_left _ (List.mem_append_right _ (List.mem_append_right _ (List.mem_append_right _ (List.mem_append_left _ h))))))))
theorem mwsX5_told_4 : ∀ w ∈ wsX5_told_r5, w ∈ wsX5_told := fun w h => (List.mem_cons_of_mem _ (List.mem_append_left _ (List.mem_append_left _ (List.mem_append_left _ (List.mem_append_right _ (List.mem_append_right _ (List.mem_append_right _ (List.mem_append_right _ (List.mem_append_left _ h)))))))))
theorem mwsX5_told_5 : ∀ w ∈ wsX5_told_r6, w ∈ wsX5_told := fun w h => (List.mem_cons_of_mem _ (List.mem_append_left _ (List.mem_append_left _ (List.mem_append_left _ (List.mem_append_right _ (List.mem_append_right _ (List.mem_append_right _ (List.mem_append_right _ (List.mem_append_right _ (List.mem_append_left _ h))))))))))
theorem mwsX5_told_6 : ∀ w ∈ wsX5_told_r7, w ∈ wsX5_told := fun w h => (List.mem_cons_of_mem _ (List.mem_append_left _ (List.mem_append_left _ (List.mem_append_left _ (List.mem_append_right _ (List.mem_append_right _ (List.mem_append_right _ (List.mem_append_right _ (List.mem_append_right _ (List.mem_append_right _ (List.mem_append_left _ h)))))))))))
theorem mwsX5_told_7 : ∀ w ∈ wsX5_told_r8, w ∈ wsX5_told := fun w h => (List.mem_cons_of_mem _ (List.mem_append_left _ (List.mem_append_left _ (List.mem_append_left _ (List.mem_append_right _ (List.mem_append_right _ (List.mem_append_right _ (List.mem_append_right _ (List.mem_append_right _ (List.mem_append_right _ (List.mem_append_right _ (List.mem_append_left _ h))))))))))))
theorem mwsX5_told_8 : ∀ w ∈ wsX5_told_r9, w ∈ wsX5_told := fun w h => (List.mem_cons_of_mem _ (List.mem_append_left _ (List.mem_append_left _ (List.mem_append_left _ (List.mem_append_right _ (List.mem_append_right _ (List.mem_append_right _ (List.mem_append_right _ (List.mem_append_right _ (List.mem_append_right _ (List.mem_append_right _ (List.mem_append_right _ (List.mem_append_left _ h)))))))))))))
theorem mwsX5_told_9 : ∀ w ∈ wsX5_told_r10, w ∈ wsX5_told := fun w h => (List.mem_cons_of_mem _ (List.mem_append_left _ (List.mem_append_left _ (List.mem_append_left _ (List.mem_append_right _ (List.mem_append_right _ (List.mem_append_right _ (List.mem_append_right _ (List.mem_append_right _ (List.mem_append_right _ (List.mem_append_right _ (List.mem_append_right _ (List.mem_append_right _ (List.mem_append_left _ h))))))))))))))
theorem mwsX5_told_10 : ∀ w ∈ wsX5_told_r11, w ∈ wsX5_told := fun w h => (List.mem_cons_of_mem _ (List.mem_append_left _ (List.mem_append_left _ (List.mem_append_left _ (List.mem_append_right _ (List.mem_append_right _ (List.mem_append_right _ (List.mem_append_right _ (List.mem_append_right _ (List.mem_append_right _ (List.mem_append_right _ (List.mem_append_right _ (List.mem_append_right _ (List.mem_append_right _ (List.mem_append_left _ h)))))))))))))))
theorem mwsX5_told_11 : ∀ w ∈ wsX5_told_r12, w ∈ wsX5_told := fun w h => (List.mem_cons_of_mem _ (List.mem_append_left _ (List.mem_append_left _ (List.mem_append_left _ (List.mem_append_right _ (List.mem_append_right _ (List.mem_append_right _ (List.mem_append_right _ (List.mem_append_right _ (List.mem_append_right _ (List.mem_append_right _ (List.mem_append_right _ (List.mem_append_right _ (List.mem_append_right _ (List.mem_append_right _ h)))))))))))))))
theorem mwsX5_told_12 : ∀ w ∈ wsJ40, w ∈ wsX5_told := fun w h => (List.mem_cons_of_mem _ (List.mem_append_left _ (List.mem_append_left _ (List.mem_append_right _ h))))
theorem mwsX5_told_13 : ∀ w ∈ wsX50, w ∈ wsX5_told := fun w h => (List.mem_cons_of_mem _ (List.mem_append_left _ (List.mem_append_right _ h)))
theorem mwsX5_told_14 : ∀ w ∈ wsJ00, w ∈ wsX5_told := fun w h => (List.mem_cons_of_mem _ (List.mem_append_right _ h))
set_option maxRecDepth 20000 in
theorem ggX5_told_J4_init_a7421 : GoodIn wsX5_told wsJ4_init_a7421 := goodIn_sub (tk_mem 18 _ (fun w h => (mwsX5_told_0 _ (tkB_mem 6 18 h))) (tk_mem 21 _ (fun w h => (mwsX5_told_1 _ (tkB_mem 0 21 h))) (List.forall_mem_cons.mpr ⟨(mwsX5_told_0 _ (List.mem_of_getElem? (i := 2) rfl)), (List.forall_mem_cons.mpr ⟨(mwsX5_told_1 _ (List.mem_of_getElem? (i := 21) rfl)), (List.forall_mem_cons.mpr ⟨(mwsX5_told_1 _ (List.mem_of_getElem? (i := 22) rfl)), (List.forall_mem_cons.mpr ⟨(mwsX5_told_1 _ (List.mem_of_getElem? (i := 23) rfl)), (tk_mem 24 _ (fun w h => (mwsX5_told_2 _ (tkB_mem 0 24 h))) (tk_mem 24 _ (fun w h => (mwsX5_told_3 _ (tkB_mem 0 24 h))) (tk_mem 24 _ (fun w h => (mwsX5_told_4 _ (tkB_mem 0 24 h))) (tk_mem 24 _ (fun w h => (mwsX5_told_5 _ (tkB_mem 0 24 h))) (tk_mem 21 _ (fun w h => (mwsX5_told_6 _ (tkB_mem 0 21 h))) (tk_mem 4 _ (fun w h => (mwsX5_told_12 _ (tkB_mem 0 4 h))) (tk_mem 4 _ (fun w h => (mwsX5_told_14 _ (tkB_mem 0 4 h))) (fun _ h => absurd h List.not_mem_nil))))))))⟩)⟩)⟩)⟩))) (by decide +kernel)
set_option maxRecDepth 20000 in
theorem gX5_told_J4_init_a7421 : GoodIn wsX5_told (wsJ4_init_a7421) := ggX5_told_J4_init_a7421
set_option maxRecDepth 20000 in
theorem ggX5_told_X5_end : GoodIn wsX5_told wsX5_end := goodIn_sub (tk_mem 4 _ (fun w h => (mwsX5_told_7 _ (tkB_mem 1 4 h))) (List.forall_mem_cons.mpr ⟨(mwsX5_told_7 _ (List.mem_of_getElem? (i := 0) rfl)), (tk_mem 5 _ (fun w h => (mwsX5_told_7 _ (tkB_mem 5 5 h))) (List.forall_mem_cons.mpr ⟨(mwsX5_told_0 _ (List.mem_of_getElem? (i := 3) rfl)), (tk_mem 10 _ (fun w h => (mwsX5_told_7 _ (tkB_mem 10 10 h))) (tk_mem 13 _ (fun w h => (mwsX5_told_13 _ (tkB_mem 0 13 h))) (fun _ h => absurd h List.not_mem_nil)))⟩))⟩)) (by decide +kernel)
set_option maxRecDepth 20000 in
theorem gX5_told_X5_end : GoodIn wsX5_told (wsV RX5 96 RX5 yX5_end wsX5_end) := goodIn_app (goodIn_sub (List.forall_mem_cons.mpr ⟨(mwsX5_told_6 _ (List.mem_of_getElem? (i := 21) rfl)), (List.forall_mem_cons.mpr ⟨(mwsX5_told_6 _ (List.mem_of_getElem? (i := 22) rfl)), (List.forall_mem_cons.mpr ⟨(mwsX5_told_6 _ (List.mem_of_getElem? (i := 23) rfl)), (List.forall_mem_cons.mpr ⟨(mwsX5_told_7 _ (List.mem_of_getElem? (i := 0) rfl)), (fun _ h => absurd h List.not_mem_nil)⟩)⟩)⟩)⟩) (by decide +kernel)) ggX5_told_X5_end
set_option maxRecDepth 20000 in
theorem ggX5_told_J4_length_8abf5 : GoodIn wsX5_told wsJ4_length_8abf5 := goodIn_sub (List.forall_mem_cons.mpr ⟨(mwsX5_told_7 _ (List.mem_of_getElem? (i := 23) rfl)), (List.forall_mem_cons.mpr ⟨(mwsX5_told_8 _ (List.mem_of_getElem? (i := 0) rfl)), (List.forall_mem_cons.mpr ⟨(mwsX5_told_8 _ (List.mem_of_getElem? (i := 1) rfl)), (List.forall_mem_cons.mpr ⟨(mwsX5_told_2 _ (List.mem_of_getElem? (i := 3) rfl)), (List.forall_mem_cons.mpr ⟨(mwsX5_told_8 _ (List.mem_of_getElem? (i := 2) rfl)), (List.forall_mem_cons.mpr ⟨(mwsX5_told_0 _ (List.mem_of_getElem? (i := 9) rfl)), (List.forall_mem_cons.mpr ⟨(mwsX5_told_8 _ (List.mem_of_getElem? (i := 3) rfl)), (List.forall_mem_cons.mpr ⟨(mwsX5_told_2 _ (List.mem_of_getElem? (i := 6) rfl)), (tk_mem 4 _ (fun w h => (mwsX5_told_12 _ (tkB_mem 0 4 h))) (fun _ h => absurd h List.not_mem_nil))⟩)⟩)⟩)⟩)⟩)⟩)⟩)⟩) (by decide +kernel)
set_option maxRecDepth 20000 in
theorem gX5_told_J4_length_8abf5 : GoodIn wsX5_told (wsV RX5 100 RJ4 yJ4_length_8abf5 wsJ4_length_8abf5) := goodIn_app (goodIn_sub (List.forall_mem_cons.mpr ⟨(mwsX5_told_7 _ (List.mem_of_getElem? (i := 20) rfl)), (List.forall_mem_cons.mpr ⟨(mwsX5_told_7 _ (List.mem_of_getElem? (i := 21) rfl)), (List.forall_mem_cons.mpr ⟨(mwsX5_told_7 _ (List.mem_of_getElem? (i := 22) rfl)), (List.forall_mem_cons.mpr ⟨(mwsX5_told_0 _ (List.mem_of_getElem? (i := 2) rfl)), (fun _ h => absurd h List.not_mem_nil)⟩)⟩)⟩)⟩) (by decide +kernel)) ggX5_told_J4_length_8abf5
set_option maxRecDepth 20000 in
theorem ggX5_told_J4_append_15ec4 : GoodIn wsX5_told wsJ4_append_15ec4 := goodIn_sub (List.forall_mem_cons.mpr ⟨(mwsX5_told_2 _ (List.mem_of_getElem? (i := 1) rfl)), (List.forall_mem_cons.mpr ⟨(mwsX5_told_2 _ (List.mem_of_getElem? (i := 2) rfl)), (List.forall_mem_cons.mpr ⟨(mwsX5_told_1 _ (List.mem_of_getElem? (i := 17) rfl)), (List.forall_mem_cons.mpr ⟨(mwsX5_told_2 _ (List.mem_of_getElem? (i := 3) rfl)), (List.forall_mem_cons.mpr ⟨(mwsX5_told_2 _ (List.mem_of_getElem? (i := 4) rfl)), (List.forall_mem_cons.mpr ⟨(mwsX5_told_0 _ (List.mem_of_getElem? (i := 9) rfl)), (tk_mem 7 _ (fun w h => (mwsX5_told_2 _ (tkB_mem 5 7 h))) (List.forall_mem_cons.mpr ⟨(mwsX5_told_0 _ (List.mem_of_getElem? (i := 18) rfl)), (tk_mem 5 _ (fun w h => (mwsX5_told_2 _ (tkB_mem 12 5 h))) (List.forall_mem_cons.mpr ⟨(mwsX5_told_0 _ (List.mem_of_getElem? (i := 16) rfl)), (tk_mem 5 _ (fun w h => (mwsX5_told_2 _ (tkB_mem 17 5 h))) (List.forall_mem_cons.mpr ⟨(mwsX5_told_0 _ (List.mem_of_getElem? (i := 15) rfl)), (List.forall_mem_cons.mpr ⟨(mwsX5_told_2 _ (List.mem_of_getElem? (i := 22) rfl)), (List.forall_mem_cons.mpr ⟨(mwsX5_told_2 _ (List.mem_of_getElem? (i := 23) rfl)), (tk_mem 20 _ (fun w h => (mwsX5_told_3 _ (tkB_mem 0 20 h))) (List.forall_mem_cons.mpr ⟨(mwsX5_told_0 _ (List.mem_of_getElem? (i := 17) rfl)), (tk_mem 4 _ (fun w h => (mwsX5_told_3 _ (tkB_mem 20 4 h))) (tk_mem 11 _ (fun w h => (mwsX5_told_4 _ (tkB_mem 0 11 h))) (List.forall_mem_cons.mpr ⟨(mwsX5_told_1 _ (List.mem_of_getElem? (i := 10) rfl)), (tk_mem 10 _ (fun w h => (mwsX5_told_4 _ (tkB_mem 11 10 h))) (List.forall_mem_cons.mpr ⟨(mwsX5_told_0 _ (List.mem_of_getElem? (i := 22) rfl)), (List.forall_mem_cons.mpr ⟨(mwsX5_told_4 _ (List.mem_of_getElem? (i := 21) rfl)), (List.forall_mem_cons.mpr ⟨(mwsX5_told_4 _ (List.mem_of_getElem? (i := 22) rfl)), (List.forall_mem_cons.mpr ⟨(mwsX5_told_4 _ (List.mem_of_getElem? (i := 23) rfl)), (tk_mem 8 _ (fun w h => (mwsX5_told_5 _ (tkB_mem 0 8 h))) (List.forall_mem_cons.mpr ⟨(mwsX5_told_0 _ (List.mem_of_getElem? (i := 19) rfl)), (List.forall_mem_cons.mpr ⟨(mwsX5_told_0 _ (List.mem_of_getElem? (i := 20) rfl)), (List.forall_mem_cons.mpr ⟨(mwsX5_told_0 _ (List.mem_of_getElem? (i := 21) rfl)), (List.forall_mem_cons.mpr ⟨(mwsX5_told_0 _ (List.mem_of_getElem? (i := 23) rfl)), (tk_mem 7 _ (fun w h => (mwsX5_told_1 _ (tkB_mem 0 7 h))) (tk_mem 10 _ (fun w h => (mwsX5_told_5 _ (tkB_mem 8 10 h))) (List.forall_mem_cons.mpr ⟨(mwsX5_told_1 _ (List.mem_of_getElem? (i := 7) rfl)), (tk_mem 5 _ (fun w h => (mwsX5_told_5 _ (tkB_mem 18 5 h))) (List.forall_mem_cons.mpr ⟨(mwsX5_told_1 _ (List.mem_of_getElem? (i := 8) rfl)), (List.forall_mem_cons.mpr ⟨(mwsX5_told_1 _ (List.mem_of_getElem? (i := 9) rfl)), (tk_mem 5 _ (fun w h => (mwsX5_told_1 _ (tkB_mem 11 5 h))) (List.forall_mem_cons.mpr ⟨(mwsX5_told_5 _ (List.mem_of_getElem? (i := 23) rfl)), (tk_mem 21 _ (fun w h => (mwsX5_told_6 _ (tkB_mem 0 21 h))) (tk_mem 4 _ (fun w h => (mwsX5_told_12 _ (tkB_mem 0 4 h))) (tk_mem 4 _ (fun w h => (mwsX5_told_14 _ (tkB_mem 0 4 h))) (fun _ h => absurd h List.not_mem_nil))))⟩))⟩)⟩))⟩)))⟩)⟩)⟩)⟩))⟩)⟩)⟩)⟩))⟩)))⟩))⟩)⟩)⟩))⟩))⟩))⟩)⟩)⟩)⟩)⟩)⟩) (by decide +kernel)
set_option maxRecDepth 20000 in
theorem gX5_told_J4_append_15ec4 : GoodIn wsX5_told (wsV RX5 106 RJ4 yJ4_append_15ec4 wsJ4_append_15ec4) := goodIn_app (goodIn_sub (List.forall_mem_cons.mpr ⟨(mwsX5_told_8 _ (List.mem_of_getElem? (i := 4) rfl)), (List.forall_mem_cons.mpr ⟨(mwsX5_told_1 _ (List.mem_of_getElem? (i := 23) rfl)), (List.forall_mem_cons.mpr ⟨(mwsX5_told_2 _ (List.mem_of_getElem? (i := 0) rfl)), (List.forall_mem_cons.mpr ⟨(mwsX5_told_0 _ (List.mem_of_getElem? (i := 2) rfl)), (fun _ h => absurd h List.not_mem_nil)⟩)⟩)⟩)⟩) (by decide +kernel)) ggX5_told_J4_append_15ec4
set_option maxRecDepth 20000 in
theorem ggX5_told_J4_append_bf812 : GoodIn wsX5_told wsJ4_append_bf812 := goodIn_sub (List.forall_mem_cons.mpr ⟨(mwsX5_told_8 _ (List.mem_of_getElem? (i := 8) rfl)), (List.forall_mem_cons.mpr ⟨(mwsX5_told_8 _ (List.mem_of_getElem? (i := 9) rfl)), (List.forall_mem_cons.mpr ⟨(mwsX5_told_8 _ (List.mem_of_getElem? (i := 10) rfl)), (List.forall_mem_cons.mpr ⟨(mwsX5_told_2 _ (List.mem_of_getElem? (i := 3) rfl)), (List.forall_mem_cons.mpr ⟨(mwsX5_told_8 _ (List.mem_of_getElem? (i := 11) rfl)), (List.forall_mem_cons.mpr ⟨(mwsX5_told_0 _ (List.mem_of_getElem? (i := 9) rfl)), (List.forall_mem_cons.mpr ⟨(mwsX5_told_8 _ (List.mem_of_getElem? (i := 12) rfl)), (List.forall_mem_cons.mpr ⟨(mwsX5_told_2 _ (List.mem_of_getElem? (i := 6) rfl)), (List.forall_mem_cons.mpr ⟨(mwsX5_told_0 _ (List.mem_of_getElem? (i := 18) rfl)), (tk_mem 4 _ (fun w h => (mwsX5_told_8 _ (tkB_mem 13 4 h))) (tk_mem 5 _ (fun w h => (mwsX5_told_2 _ (tkB_mem 12 5 h))) (List.forall_mem_cons.mpr ⟨(mwsX5_told_0 _ (List.mem_of_getElem? (i := 16) rfl)), (tk_mem 5 _ (fun w h => (mwsX5_told_2 _ (tkB_mem 17 5 h))) (List.forall_mem_cons.mpr ⟨(mwsX5_told_0 _ (List.mem_of_getElem? (i := 15) rfl)), (List.forall_mem_cons.mpr ⟨(mwsX5_told_2 _ (List.mem_of_getElem? (i := 22) rfl)), (List.forall_mem_cons.mpr ⟨(mwsX5_told_2 _ (List.mem_of_getElem? (i := 23) rfl)), (tk_mem 20 _ (fun w h => (mwsX5_told_3 _ (tkB_mem 0 20 h))) (List.forall_mem_cons.mpr ⟨(mwsX5_told_0 _ (List.mem_of_getElem? (i := 17) rfl)), (tk_mem 4 _ (fun w h => (mwsX5_told_3 _ (tkB_mem 20 4 h))) (tk_mem 9 _ (fun w h => (mwsX5_told_4 _ (tkB_mem 0 9 h))) (tk_mem 7 _ (fun w h => (mwsX5_told_8 _ (tkB_mem 17 7 h))) (List.forall_mem_cons.mpr ⟨(mwsX5_told_1 _ (List.mem_of_getElem? (i := 10) rfl)), (List.forall_mem_cons.mpr ⟨(mwsX5_told_9 _ (List.mem_of_getElem? (i := 0) rfl)), (tk_mem 9 _ (fun w h => (mwsX5_told_4 _ (tkB_mem 12 9 h))) (List.forall_mem_cons.mpr ⟨(mwsX5_told_0 _ (List.mem_of_getElem? (i := 22) rfl)), (List.forall_mem_cons.mpr ⟨(mwsX5_told_4 _ (List.mem_of_getElem? (i := 21) rfl)), (List.forall_mem_cons.mpr ⟨(mwsX5_told_4 _ (List.mem_of_getElem? (i := 22) rfl)), (List.forall_mem_cons.mpr ⟨(mwsX5_told_4 _ (List.mem_of_getElem? (i := 23) rfl)), (List.forall_mem_cons.mpr ⟨(mwsX5_told_5 _ (List.mem_of_getElem? (i := 0) rfl)), (List.forall_mem_cons.mpr ⟨(mwsX5_told_5 _ (List.mem_of_getElem? (i := 1) rfl)), (List.forall_mem_cons.mpr ⟨(mwsX5_told_5 _ (List.mem_of_getElem? (i := 2) rfl)), (tk_mem 5 _ (fun w h => (mwsX5_told_9 _ (tkB_mem 1 5 h))) (tk_mem 5 _ (fun w h => (mwsX5_told_5 _ (tkB_mem 3 5 h))) (tk_mem 4 _ (fun w h => (mwsX5_told_12 _ (tkB_mem 0 4 h))) (fun _ h => absurd h List.not_mem_nil))))⟩)⟩)⟩)⟩)⟩)⟩)⟩))⟩)⟩))))⟩))⟩)⟩)⟩))⟩)))⟩)⟩)⟩)⟩)⟩)⟩)⟩)⟩)⟩) (by decide +kernel)
set_option maxRecDepth 20000 in
theorem gX5_told_J4_append_bf812 : GoodIn wsX5_told (wsV RX5 110 RJ4 yJ4_append_bf812 wsJ4_append_bf812) := goodIn_app (goodIn_sub (List.forall_mem_cons.mpr ⟨(mwsX5_told_8 _ (List.mem_of_getElem? (i := 5) rfl)), (List.forall_mem_cons.mpr ⟨(mwsX5_told_8 _ (List.mem_of_getElem? (i := 6) rfl)), (List.forall_mem_cons.mpr ⟨(mwsX5_told_8 _ (List.mem_of_getElem? (i := 7) rfl)), (List.forall_mem_cons.mpr ⟨(mwsX5_told_0 _ (List.mem_of_getElem? (i := 2) rfl)), (fun _ h => absurd h List.not_mem_nil)⟩)⟩)⟩)⟩) (by decide +kernel)) ggX5_told_J4_append_bf812
set_option maxRecDepth 20000 in
theorem ggX5_told_X5_nearOf : GoodIn wsX5_told wsX5_nearOf := goodIn_sub (List.forall_mem_cons.mpr ⟨(mwsX5_told_9 _ (List.mem_of_getElem? (i := 9) rfl)), (List.forall_mem_cons.mpr ⟨(mwsX5_told_7 _ (List.mem_of_getElem? (i := 14) rfl)), (List.forall_mem_cons.mpr ⟨(mwsX5_told_7 _ (List.mem_of_getElem? (i := 15) rfl)), (List.forall_mem_cons.mpr ⟨(mwsX5_told_7 _ (List.mem_of_getElem? (i := 16) rfl)), (List.forall_mem_cons.mpr ⟨(mwsX5_told_7 _ (List.mem_of_getElem? (i := 0) rfl)), (List.forall_mem_cons.mpr ⟨(mwsX5_told_7 _ (List.mem_of_getElem? (i := 17) rfl)), (List.forall_mem_cons.mpr ⟨(mwsX5_told_7 _ (List.mem_of_getElem? (i := 18) rfl)), (List.forall_mem_cons.mpr ⟨(mwsX5_told_7 _ (List.mem_of_getElem? (i := 19) rfl)), (tk_mem 8 _ (fun w h => (mwsX5_told_7 _ (tkB_mem 2 8 h))) (List.forall_mem_cons.mpr ⟨(mwsX5_told_0 _ (List.mem_of_getElem? (i := 3) rfl)), (tk_mem 4 _ (fun w h => (mwsX5_told_7 _ (tkB_mem 10 4 h))) (tk_mem 13 _ (fun w h => (mwsX5_told_13 _ (tkB_mem 0 13 h))) (fun _ h => absurd h List.not_mem_nil)))⟩))⟩)⟩)⟩)⟩)⟩)⟩)⟩)⟩) (by decide +kernel)
set_option maxRecDepth 20000 in
theorem gX5_told_X5_nearOf : GoodIn wsX5_told (wsV RX5 115 RX5 yX5_nearOf wsX5_nearOf) := goodIn_app (goodIn_sub (List.forall_mem_cons.mpr ⟨(mwsX5_told_9 _ (List.mem_of_getElem? (i := 6) rfl)), (List.forall_mem_cons.mpr ⟨(mwsX5_told_9 _ (List.mem_of_getElem? (i := 7) rfl)), (List.forall_mem_cons.mpr ⟨(mwsX5_told_9 _ (List.mem_of_getElem? (i := 8) rfl)), (List.forall_mem_cons.mpr ⟨(mwsX5_told_7 _ (List.mem_of_getElem? (i := 0) rfl)), (fun _ h => absurd h List.not_mem_nil)⟩)⟩)⟩)⟩) (by decide +kernel)) ggX5_told_X5_nearOf
set_option maxRecDepth 20000 in
theorem ggX5_told_J4_toString_0e30d : GoodIn wsX5_told wsJ4_toString_0e30d := goodIn_sub (List.forall_mem_cons.mpr ⟨(mwsX5_told_9 _ (List.mem_of_getElem? (i := 13) rfl)), (List.forall_mem_cons.mpr ⟨(mwsX5_told_9 _ (List.mem_of_getElem? (i := 14) rfl)), (List.forall_mem_cons.mpr ⟨(mwsX5_told_9 _ (List.mem_of_getElem? (i := 15) rfl)), (List.forall_mem_cons.mpr ⟨(mwsX5_told_0 _ (List.mem_of_getElem? (i := 22) rfl)), (tk_mem 7 _ (fun w h => (mwsX5_told_9 _ (tkB_mem 16 7 h))) (List.forall_mem_cons.mpr ⟨(mwsX5_told_0 _ (List.mem_of_getElem? (i := 12) rfl)), (List.forall_mem_cons.mpr ⟨(mwsX5_told_0 _ (List.mem_of_getElem? (i := 13) rfl)), (List.forall_mem_cons.mpr ⟨(mwsX5_told_1 _ (List.mem_of_getElem? (i := 6) rfl)), (List.forall_mem_cons.mpr ⟨(mwsX5_told_1 _ (List.mem_of_getElem? (i := 0) rfl)), (List.forall_mem_cons.mpr ⟨(mwsX5_told_1 _ (List.mem_of_getElem? (i := 5) rfl)), (List.forall_mem_cons.mpr ⟨(mwsX5_told_9 _ (List.mem_of_getElem? (i := 23) rfl)), (tk_mem 4 _ (fun w h => (mwsX5_told_10 _ (tkB_mem 0 4 h))) (List.forall_mem_cons.mpr ⟨(mwsX5_told_0 _ (List.mem_of_getElem? (i := 9) rfl)), (List.forall_mem_cons.mpr ⟨(mwsX5_told_10 _ (List.mem_of_getElem? (i := 4) rfl)), (List.forall_mem_cons.mpr ⟨(mwsX5_told_0 _ (List.mem_of_getElem? (i := 18) rfl)), (List.forall_mem_cons.mpr ⟨(mwsX5_told_10 _ (List.mem_of_getElem? (i := 5) rfl)), (List.forall_mem_cons.mpr ⟨(mwsX5_told_8 _ (List.mem_of_getElem? (i := 1) rfl)), (List.forall_mem_cons.mpr ⟨(mwsX5_told_10 _ (List.mem_of_getElem? (i := 6) rfl)), (List.forall_mem_cons.mpr ⟨(mwsX5_told_10 _ (List.mem_of_getElem? (i := 7) rfl)), (List.forall_mem_cons.mpr ⟨(mwsX5_told_7 _ (List.mem_of_getElem? (i := 21) rfl)), (List.forall_mem_cons.mpr ⟨(mwsX5_told_0 _ (List.mem_of_getElem? (i := 2) rfl)), (List.forall_mem_cons.mpr ⟨(mwsX5_told_7 _ (List.mem_of_getElem? (i := 23) rfl)), (List.forall_mem_cons.mpr ⟨(mwsX5_told_8 _ (List.mem_of_getElem? (i := 0) rfl)), (List.forall_mem_cons.mpr ⟨(mwsX5_told_2 _ (List.mem_of_getElem? (i := 3) rfl)), (List.forall_mem_cons.mpr ⟨(mwsX5_told_8 _ (List.mem_of_getElem? (i := 2) rfl)), (List.forall_mem_cons.mpr ⟨(mwsX5_told_8 _ (List.mem_of_getElem? (i := 3) rfl)), (List.forall_mem_cons.mpr ⟨(mwsX5_told_2 _ (List.mem_of_getElem? (i := 6) rfl)), (List.forall_mem_cons.mpr ⟨(mwsX5_told_10 _ (List.mem_of_getElem? (i := 8) rfl)), (tk_mem 5 _ (fun w h => (mwsX5_told_4 _ (tkB_mem 4 5 h))) (List.forall_mem_cons.mpr ⟨(mwsX5_told_0 _ (List.mem_of_getElem? (i := 16) rfl)), (List.forall_mem_cons.mpr ⟨(mwsX5_told_10 _ (List.mem_of_getElem? (i := 9) rfl)), (List.forall_mem_cons.mpr ⟨(mwsX5_told_10 _ (List.mem_of_getElem? (i := 10) rfl)), (List.forall_mem_cons.mpr ⟨(mwsX5_told_3 _ (List.mem_of_getElem? (i := 12) rfl)), (List.forall_mem_cons.mpr ⟨(mwsX5_told_10 _ (List.mem_of_getElem? (i := 11) rfl)), (tk_mem 6 _ (fun w h => (mwsX5_told_3 _ (tkB_mem 14 6 h))) (List.forall_mem_cons.mpr ⟨(mwsX5_told_10 _ (List.mem_of_getElem? (i := 12) rfl)), (List.forall_mem_cons.mpr ⟨(mwsX5_told_10 _ (List.mem_of_getElem? (i := 13) rfl)), (List.forall_mem_cons.mpr ⟨(mwsX5_told_10 _ (List.mem_of_getElem? (i := 14) rfl)), (List.forall_mem_cons.mpr ⟨(mwsX5_told_0 _ (List.mem_of_getElem? (i := 17) rfl)), (List.forall_mem_cons.mpr ⟨(mwsX5_told_3 _ (List.mem_of_getElem? (i := 20) rfl)), (List.forall_mem_cons.mpr ⟨(mwsX5_told_3 _ (List.mem_of_getElem? (i := 21) rfl)), (List.forall_mem_cons.mpr ⟨(mwsX5_told_3 _ (List.mem_of_getElem? (i := 4) rfl)), (List.forall_mem_cons.mpr ⟨(mwsX5_told_3 _ (List.mem_of_getElem? (i := 22) rfl)), (List.forall_mem_cons.mpr ⟨(mwsX5_told_3 _ (List.mem_of_getElem? (i := 23) rfl)), (List.forall_mem_cons.mpr ⟨(mwsX5_told_4 _ (List.mem_of_getElem? (i := 0) rfl)), (List.forall_mem_cons.mpr ⟨(mwsX5_told_4 _ (List.mem_of_getElem? (i := 1) rfl)), (List.forall_mem_cons.mpr ⟨(mwsX5_told_4 _ (List.mem_of_getElem? (i := 2) rfl)), (tk_mem 4 _ (fun w h => (mwsX5_told_10 _ (tkB_mem 15 4 h))) (List.forall_mem_cons.mpr ⟨(mwsX5_told_0 _ (List.mem_of_getElem? (i := 1) rfl)), (List.forall_mem_cons.mpr ⟨(mwsX5_told_10 _ (List.mem_of_getElem? (i := 19) rfl)), (List.forall_mem_cons.mpr ⟨(mwsX5_told_10 _ (List.mem_of_getElem? (i := 20) rfl)), (List.forall_mem_cons.mpr ⟨(mwsX5_told_1 _ (List.mem_of_getElem? (i := 10) rfl)), (List.forall_mem_cons.mpr ⟨(mwsX5_told_10 _ (List.mem_of_getElem? (i := 21) rfl)), (List.forall_mem_cons.mpr ⟨(mwsX5_told_10 _ (List.mem_of_getElem? (i := 22) rfl)), (List.forall_mem_cons.mpr ⟨(mwsX5_told_10 _ (List.mem_of_getElem? (i := 23) rfl)), (List.forall_mem_cons.mpr ⟨(mwsX5_told_11 _ (List.mem_of_getElem? (i := 0) rfl)), (List.forall_mem_cons.mpr ⟨(mwsX5_told_6 _ (List.mem_of_getElem? (i := 6) rfl)), (List.forall_mem_cons.mpr ⟨(mwsX5_told_6 _ (List.mem_of_getElem? (i := 7) rfl)), (List.forall_mem_cons.mpr ⟨(mwsX5_told_6 _ (List.mem_of_getElem? (i := 8) rfl)), (List.forall_mem_cons.mpr ⟨(mwsX5_told_4 _ (List.mem_of_getElem? (i := 16) rfl)), (List.forall_mem_cons.mpr ⟨(mwsX5_told_4 _ (List.mem_of_getElem? (i := 17) rfl)), (List.forall_mem_cons.mpr ⟨(mwsX5_told_4 _ (List.mem_of_getElem? (i := 18) rfl)), (List.forall_mem_cons.mpr ⟨(mwsX5_told_6 _ (List.mem_of_getElem? (i := 9) rfl)), (List.forall_mem_cons.mpr ⟨(mwsX5_told_6 _ (List.mem_of_getElem? (i := 10) rfl)), (List.forall_mem_cons.mpr ⟨(mwsX5_told_6 _ (List.mem_of_getElem? (i := 11) rfl)), (List.forall_mem_cons.mpr ⟨(mwsX5_told_4 _ (List.mem_of_getElem? (i := 22) rfl)), (List.forall_mem_cons.mpr ⟨(mwsX5_told_6 _ (List.mem_of_getElem? (i := 12) rfl)), (List.forall_mem_cons.mpr ⟨(mwsX5_told_6 _ (List.mem_of_getElem? (i := 13) rfl)), (List.forall_mem_cons.mpr ⟨(mwsX5_told_5 _ (List.mem_of_getElem? (i := 1) rfl)), (List.forall_mem_cons.mpr ⟨(mwsX5_told_6 _ (List.mem_of_getElem? (i := 14) rfl)), (List.forall_mem_cons.mpr ⟨(mwsX5_told_11 _ (List.mem_of_getElem? (i := 1) rfl)), (List.forall_mem_cons.mpr ⟨(mwsX5_told_11 _ (List.mem_of_getElem? (i := 2) rfl)), (List.forall_mem_cons.mpr ⟨(mwsX5_told_11 _ (List.mem_of_getElem? (i := 3) rfl)), (List.forall_mem_cons.mpr ⟨(mwsX5_told_4 _ (List.mem_of_getElem? (i := 12) rfl)), (List.forall_mem_cons.mpr ⟨(mwsX5_told_5 _ (List.mem_of_getElem? (i := 6) rfl)), (List.forall_mem_cons.mpr ⟨(mwsX5_told_5 _ (List.mem_of_getElem? (i := 7) rfl)), (tk_mem 4 _ (fun w h => (mwsX5_told_1 _ (tkB_mem 12 4 h))) (tk_mem 4 _ (fun w h => (mwsX5_told_11 _ (tkB_mem 4 4 h))) (tk_mem 4 _ (fun w h => (mwsX5_told_14 _ (tkB_mem 0 4 h))) (tk_mem 4 _ (fun w h => (mwsX5_told_12 _ (tkB_mem 0 4 h))) (fun _ h => absurd h List.not_mem_nil)))))⟩)⟩)⟩)⟩)⟩)⟩)⟩)⟩)⟩)⟩)⟩)⟩)⟩)⟩)⟩)⟩)⟩)⟩)⟩)⟩)⟩)⟩)⟩)⟩)⟩)⟩)⟩)⟩))⟩)⟩)⟩)⟩)⟩)⟩)⟩)⟩)⟩)⟩)⟩)⟩))⟩)⟩)⟩)⟩)⟩))⟩)⟩)⟩)⟩)⟩)⟩)⟩)⟩)⟩)⟩)⟩)⟩)⟩)⟩)⟩)⟩))⟩)⟩)⟩)⟩)⟩)⟩))⟩)⟩)⟩)⟩) (by decide +kernel)
set_option maxRecDepth 20000 in
theorem gX5_told_J4_toString_0e30d : GoodIn wsX5_told (wsV RX5 121 RJ4 yJ4_toString_0e30d wsJ4_toString_0e30d) := goodIn_app (goodIn_sub (List.forall_mem_cons.mpr ⟨(mwsX5_told_9 _ (List.mem_of_getElem? (i := 10) rfl)), (List.forall_mem_cons.mpr ⟨(mwsX5_told_9 _ (List.mem_of_getElem? (i := 11) rfl)), (List.forall_mem_cons.mpr ⟨(mwsX5_told_9 _ (List.mem_of_getElem? (i := 12) rfl)), (List.forall_mem_cons.mpr ⟨(mwsX5_told_0 _ (List.mem_of_getElem? (i := 2) rfl)), (fun _ h => absurd h List.not_mem_nil)⟩)⟩)⟩)⟩) (by decide +kernel)) ggX5_told_J4_toString_0e30d
theorem adX5_told_0 : fd_rows (cX5_told.data.toList.drop 0) 0 [(0, some (.new 89), 3), (3, some (.dup), 1), (4, some (.ldc 91), 2), (6, some (.invokespecial 93), 3), (9, some (.astore_n 2), 1), (10, some (.aload_n 0), 1), (11, some (.aload_n 1), 1), (12, some (.iconst 0), 1), (13, some (.invokevirtual 96), 3), (16, some (.istore_n 3), 1), (17, some (.iload_n 3), 1), (18, some (.sipush (-10000)), 3), (21, some (.if_icmp .eq 53), 3), (24, some (.aload_n 2), 1), (25, some (.invokevirtual 100), 3), (28, some (.iconst 1), 1)] = true := by decide +kernel
theorem adX5_told_1 : fd_rows (cX5_told.data.toList.drop 29) 29 [(29, some (.if_icmp .le 10), 3), (32, some (.aload_n 2), 1), (33, some (.ldc 104), 2), (35, some (.invokevirtual 106), 3), (38, some (.pop), 1), (39, some (.aload_n 2), 1), (40, some (.iload_n 3), 1), (41, some (.invokevirtual 110), 3), (44, some (.ldc 113), 2), (46, some (.invokevirtual 106), 3), (49, some (.aload_n 0), 1), (50, some (.getfield 11), 3), (53, some (.aload_n 1), 1), (54, some (.iconst 0), 1), (55, some (.iaload), 1), (56, some (.aaload), 1)] = true := by decide +kernel
theorem adX5_told_2 : fd_rows (cX5_told.data.toList.drop 57) 57 [(57, some (.iload_n 3), 1), (58, some (.iaload), 1), (59, some (.invokevirtual 110), 3), (62, some (.pop), 1), (63, some (.aload_n 0), 1), (64, some (.aload_n 1), 1), (65, some (.iload_n 3), 1), (66, some (.iconst 3), 1), (67, some (.invokevirtual 115), 3), (70, some (.istore_n 3), 1), (71, some (.goto (-54)), 3), (74, some (.aload_n 2), 1), (75, some (.ldc 119), 2), (77, some (.invokevirtual 106), 3), (80, some (.invokevirtual 121), 3), (83, some (.areturn), 1)] = true := by decide +kernel
theorem dX5_told_0 : decode cX5_told 0 = .ok (.new 89, 3) := fd_get adX5_told_0 (k := 0) rfl
theorem dX5_told_3 : decode cX5_told 3 = .ok (.dup, 1) := fd_get adX5_told_0 (k := 1) rfl
theorem dX5_told_4 : decode cX5_told 4 = .ok (.ldc 91, 2) := fd_get adX5_told_0 (k := 2) rfl
theorem dX5_told_6 : decode cX5_told 6 = .ok (.invokespecial 93, 3) := fd_get adX5_told_0 (k := 3) rfl
theorem dX5_told_9 : decode cX5_told 9 = .ok (.astore_n 2, 1) := fd_get adX5_told_0 (k := 4) rfl
theorem dX5_told_10 : decode cX5_told 10 = .ok (.aload_n 0, 1) := fd_get adX5_told_0 (k := 5) rfl
theorem dX5_told_11 : decode cX5_told 11 = .ok (.aload_n 1, 1) := fd_get adX5_told_0 (k := 6) rfl
theorem dX5_told_12 : decode cX5_told 12 = .ok (.iconst 0, 1) := fd_get adX5_told_0 (k := 7) rfl
theorem dX5_told_13 : decode cX5_told 13 = .ok (.invokevirtual 96, 3) := fd_get adX5_told_0 (k := 8) rfl
theorem dX5_told_16 : decode cX5_told 16 = .ok (.istore_n 3, 1) := fd_get adX5_told_0 (k := 9) rfl
theorem dX5_told_17 : decode cX5_told 17 = .ok (.iload_n 3, 1) := fd_get adX5_told_0 (k := 10) rfl
theorem dX5_told_18 : decode cX5_told 18 = .ok (.sipush (-10000), 3) := fd_get adX5_told_0 (k := 11) rfl
theorem dX5_told_21 : decode cX5_told 21 = .ok (.if_icmp .eq 53, 3) := fd_get adX5_told_0 (k := 12) rfl
theorem dX5_told_24 : decode cX5_told 24 = .ok (.aload_n 2, 1) := fd_get adX5_told_0 (k := 13) rfl
theorem dX5_told_25 : decode cX5_told 25 = .ok (.invokevirtual 100, 3) := fd_get adX5_told_0 (k := 14) rfl
theorem dX5_told_28 : decode cX5_told 28 = .ok (.iconst 1, 1) := fd_get adX5_told_0 (k := 15) rfl
theorem dX5_told_29 : decode cX5_told 29 = .ok (.if_icmp .le 10, 3) := fd_get adX5_told_1 (k := 0) rfl
theorem dX5_told_32 : decode cX5_told 32 = .ok (.aload_n 2, 1) := fd_get adX5_told_1 (k := 1) rfl
theorem dX5_told_33 : decode cX5_told 33 = .ok (.ldc 104, 2) := fd_get adX5_told_1 (k := 2) rfl
theorem dX5_told_35 : decode cX5_told 35 = .ok (.invokevirtual 106, 3) := fd_get adX5_told_1 (k := 3) rfl
theorem dX5_told_38 : decode cX5_told 38 = .ok (.pop, 1) := fd_get adX5_told_1 (k := 4) rfl
theorem dX5_told_39 : decode cX5_told 39 = .ok (.aload_n 2, 1) := fd_get adX5_told_1 (k := 5) rfl
theorem dX5_told_40 : decode cX5_told 40 = .ok (.iload_n 3, 1) := fd_get adX5_told_1 (k := 6) rfl
theorem dX5_told_41 : decode cX5_told 41 = .ok (.invokevirtual 110, 3) := fd_get adX5_told_1 (k := 7) rfl
theorem dX5_told_44 : decode cX5_told 44 = .ok (.ldc 113, 2) := fd_get adX5_told_1 (k := 8) rfl
theorem dX5_told_46 : decode cX5_told 46 = .ok (.invokevirtual 106, 3) := fd_get adX5_told_1 (k := 9) rfl
theorem dX5_told_49 : decode cX5_told 49 = .ok (.aload_n 0, 1) := fd_get adX5_told_1 (k := 10) rfl
theorem dX5_told_50 : decode cX5_told 50 = .ok (.getfield 11, 3) := fd_get adX5_told_1 (k := 11) rfl
theorem dX5_told_53 : decode cX5_told 53 = .ok (.aload_n 1, 1) := fd_get adX5_told_1 (k := 12) rfl
theorem dX5_told_54 : decode cX5_told 54 = .ok (.iconst 0, 1) := fd_get adX5_told_1 (k := 13) rfl
theorem dX5_told_55 : decode cX5_told 55 = .ok (.iaload, 1) := fd_get adX5_told_1 (k := 14) rfl
theorem dX5_told_56 : decode cX5_told 56 = .ok (.aaload, 1) := fd_get adX5_told_1 (k := 15) rfl
theorem dX5_told_57 : decode cX5_told 57 = .ok (.iload_n 3, 1) := fd_get adX5_told_2 (k := 0) rfl
theorem dX5_told_58 : decode cX5_told 58 = .ok (.iaload, 1) := fd_get adX5_told_2 (k := 1) rfl
theorem dX5_told_59 : decode cX5_told 59 = .ok (.invokevirtual 110, 3) := fd_get adX5_told_2 (k := 2) rfl
theorem dX5_told_62 : decode cX5_told 62 = .ok (.pop, 1) := fd_get adX5_told_2 (k := 3) rfl
theorem dX5_told_63 : decode cX5_told 63 = .ok (.aload_n 0, 1) := fd_get adX5_told_2 (k := 4) rfl
theorem dX5_told_64 : decode cX5_told 64 = .ok (.aload_n 1, 1) := fd_get adX5_told_2 (k := 5) rfl
theorem dX5_told_65 : decode cX5_told 65 = .ok (.iload_n 3, 1) := fd_get adX5_told_2 (k := 6) rfl
theorem dX5_told_66 : decode cX5_told 66 = .ok (.iconst 3, 1) := fd_get adX5_told_2 (k := 7) rfl
theorem dX5_told_67 : decode cX5_told 67 = .ok (.invokevirtual 115, 3) := fd_get adX5_told_2 (k := 8) rfl
theorem dX5_told_70 : decode cX5_told 70 = .ok (.istore_n 3, 1) := fd_get adX5_told_2 (k := 9) rfl
theorem dX5_told_71 : decode cX5_told 71 = .ok (.goto (-54), 3) := fd_get adX5_told_2 (k := 10) rfl
theorem dX5_told_74 : decode cX5_told 74 = .ok (.aload_n 2, 1) := fd_get adX5_told_2 (k := 11) rfl
theorem dX5_told_75 : decode cX5_told 75 = .ok (.ldc 119, 2) := fd_get adX5_told_2 (k := 12) rfl
theorem dX5_told_77 : decode cX5_told 77 = .ok (.invokevirtual 106, 3) := fd_get adX5_told_2 (k := 13) rfl
theorem dX5_told_80 : decode cX5_told 80 = .ok (.invokevirtual 121, 3) := fd_get adX5_told_2 (k := 14) rfl
theorem dX5_told_83 : decode cX5_told 83 = .ok (.areturn, 1) := fd_get adX5_told_2 (k := 15) rfl
theorem adX5_touch_0 : fd_rows (cX5_touch.data.toList.drop 0) 0 [(0, some (.aload_n 0), 1), (1, some (.getfield 125), 3), (4, some (.ifnull 20), 3), (7, some (.aload_n 0), 1), (8, some (.getfield 125), 3), (11, some (.iconst 0), 1), (12, some (.iaload), 1), (13, some (.iload_n 1), 1), (14, some (.if_icmp .ne 10), 3), (17, some (.aload_n 0), 1), (18, some (.sipush (-10000)), 3), (21, some (.putfield 29), 3), (24, some (.return_), 1)] = true := by decide +kernel
theorem dX5_touch_0 : decode cX5_touch 0 = .ok (.aload_n 0, 1) := fd_get adX5_touch_0 (k := 0) rfl
theorem dX5_touch_1 : decode cX5_touch 1 = .ok (.getfield 125, 3) := fd_get adX5_touch_0 (k := 1) rfl
theorem dX5_touch_4 : decode cX5_touch 4 = .ok (.ifnull 20, 3) := fd_get adX5_touch_0 (k := 2) rfl
theorem dX5_touch_7 : decode cX5_touch 7 = .ok (.aload_n 0, 1) := fd_get adX5_touch_0 (k := 3) rfl
theorem dX5_touch_8 : decode cX5_touch 8 = .ok (.getfield 125, 3) := fd_get adX5_touch_0 (k := 4) rfl
theorem dX5_touch_11 : decode cX5_touch 11 = .ok (.iconst 0, 1) := fd_get adX5_touch_0 (k := 5) rfl
theorem dX5_touch_12 : decode cX5_touch 12 = .ok (.iaload, 1) := fd_get adX5_touch_0 (k := 6) rfl
theorem dX5_touch_13 : decode cX5_touch 13 = .ok (.iload_n 1, 1) := fd_get adX5_touch_0 (k := 7) rfl
theorem dX5_touch_14 : decode cX5_touch 14 = .ok (.if_icmp .ne 10, 3) := fd_get adX5_touch_0 (k := 8) rfl
theorem dX5_touch_17 : decode cX5_touch 17 = .ok (.aload_n 0, 1) := fd_get adX5_touch_0 (k := 9) rfl
theorem dX5_touch_18 : decode cX5_touch 18 = .ok (.sipush (-10000), 3) := fd_get adX5_touch_0 (k := 10) rfl
theorem dX5_touch_21 : decode cX5_touch 21 = .ok (.putfield 29, 3) := fd_get adX5_touch_0 (k := 11) rfl
theorem dX5_touch_24 : decode cX5_touch 24 = .ok (.return_, 1) := fd_get adX5_touch_0 (k := 12) rfl
theorem adX5_set_0 : fd_rows (cX5_set.data.toList.drop 0) 0 [(0, some (.aload_n 0), 1), (1, some (.getfield 11), 3), (4, some (.iload_n 1), 1), (5, some (.aaload), 1), (6, some (.iload_n 2), 1), (7, some (.iaload), 1), (8, some (.istore 4), 2), (10, some (.aload_n 0), 1), (11, some (.getfield 11), 3), (14, some (.iload_n 1), 1), (15, some (.aaload), 1), (16, some (.iload_n 2), 1), (17, some (.iload_n 3), 1), (18, some (.iastore), 1), (19, some (.aload_n 0), 1), (20, some (.getfield 125), 3)] = true := by decide +kernel
theorem adX5_set_1 : fd_rows (cX5_set.data.toList.drop 23) 23 [(23, some (.ifnull 46), 3), (26, some (.aload_n 0), 1), (27, some (.getfield 125), 3), (30, some (.iconst 0), 1), (31, some (.iaload), 1), (32, some (.iload_n 1), 1), (33, some (.if_icmp .ne 36), 3), (36, some (.iload 4), 2), (38, some (.sipush (-10000)), 3), (41, some (.if_icmp .ne 7), 3), (44, some (.iconst 1), 1), (45, some (.goto 4), 3), (48, some (.iconst 0), 1), (49, some (.iload_n 3), 1), (50, some (.sipush (-10000)), 3), (53, some (.if_icmp .ne 7), 3)] = true := by decide +kernel
theorem adX5_set_2 : fd_rows (cX5_set.data.toList.drop 56) 56 [(56, some (.iconst 1), 1), (57, some (.goto 4), 3), (60, some (.iconst 0), 1), (61, some (.if_icmp .eq 8), 3), (64, some (.aload_n 0), 1), (65, some (.iconst 1), 1), (66, some (.putfield 128), 3), (69, some (.iload 4), 2), (71, some (.ireturn), 1)] = true := by decide +kernel
theorem dX5_set_0 : decode cX5_set 0 = .ok (.aload_n 0, 1) := fd_get adX5_set_0 (k := 0) rfl
theorem dX5_set_1 : decode cX5_set 1 = .ok (.getfield 11, 3) := fd_get adX5_set_0 (k := 1) rfl
theorem dX5_set_4 : decode cX5_set 4 = .ok (.iload_n 1, 1) := fd_get adX5_set_0 (k := 2) rfl
theorem dX5_set_5 : decode cX5_set 5 = .ok (.aaload, 1) := fd_get adX5_set_0 (k := 3) rfl
theorem dX5_set_6 : decode cX5_set 6 = .ok (.iload_n 2, 1) := fd_get adX5_set_0 (k := 4) rfl
theorem dX5_set_7 : decode cX5_set 7 = .ok (.iaload, 1) := fd_get adX5_set_0 (k := 5) rfl
theorem dX5_set_8 : decode cX5_set 8 = .ok (.istore 4, 2) := fd_get adX5_set_0 (k := 6) rfl
theorem dX5_set_10 : decode cX5_set 10 = .ok (.aload_n 0, 1) := fd_get adX5_set_0 (k := 7) rfl
theorem dX5_set_11 : decode cX5_set 11 = .ok (.getfield 11, 3) := fd_get adX5_set_0 (k := 8) rfl
theorem dX5_set_14 : decode cX5_set 14 = .ok (.iload_n 1, 1) := fd_get adX5_set_0 (k := 9) rfl
theorem dX5_set_15 : decode cX5_set 15 = .ok (.aaload, 1) := fd_get adX5_set_0 (k := 10) rfl
theorem dX5_set_16 : decode cX5_set 16 = .ok (.iload_n 2, 1) := fd_get adX5_set_0 (k := 11) rfl
theorem dX5_set_17 : decode cX5_set 17 = .ok (.iload_n 3, 1) := fd_get adX5_set_0 (k := 12) rfl
theorem dX5_set_18 : decode cX5_set 18 = .ok (.iastore, 1) := fd_get adX5_set_0 (k := 13) rfl
theorem dX5_set_19 : decode cX5_set 19 = .ok (.aload_n 0, 1) := fd_get adX5_set_0 (k := 14) rfl
theorem dX5_set_20 : decode cX5_set 20 = .ok (.getfield 125, 3) := fd_get adX5_set_0 (k := 15) rfl
theorem dX5_set_23 : decode cX5_set 23 = .ok (.ifnull 46, 3) := fd_get adX5_set_1 (k := 0) rfl
theorem dX5_set_26 : decode cX5_set 26 = .ok (.aload_n 0, 1) := fd_get adX5_set_1 (k := 1) rfl
theorem dX5_set_27 : decode cX5_set 27 = .ok (.getfield 125, 3) := fd_get adX5_set_1 (k := 2) rfl
theorem dX5_set_30 : decode cX5_set 30 = .ok (.iconst 0, 1) := fd_get adX5_set_1 (k := 3) rfl
theorem dX5_set_31 : decode cX5_set 31 = .ok (.iaload, 1) := fd_get adX5_set_1 (k := 4) rfl
theorem dX5_set_32 : decode cX5_set 32 = .ok (.iload_n 1, 1) := fd_get adX5_set_1 (k := 5) rfl
theorem dX5_set_33 : decode cX5_set 33 = .ok (.if_icmp .ne 36, 3) := fd_get adX5_set_1 (k := 6) rfl
theorem dX5_set_36 : decode cX5_set 36 = .ok (.iload 4, 2) := fd_get adX5_set_1 (k := 7) rfl
theorem dX5_set_38 : decode cX5_set 38 = .ok (.sipush (-10000), 3) := fd_get adX5_set_1 (k := 8) rfl
theorem dX5_set_41 : decode cX5_set 41 = .ok (.if_icmp .ne 7, 3) := fd_get adX5_set_1 (k := 9) rfl
theorem dX5_set_44 : decode cX5_set 44 = .ok (.iconst 1, 1) := fd_get adX5_set_1 (k := 10) rfl
theorem dX5_set_45 : decode cX5_set 45 = .ok (.goto 4, 3) := fd_get adX5_set_1 (k := 11) rfl
theorem dX5_set_48 : decode cX5_set 48 = .ok (.iconst 0, 1) := fd_get adX5_set_1 (k := 12) rfl
theorem dX5_set_49 : decode cX5_set 49 = .ok (.iload_n 3, 1) := fd_get adX5_set_1 (k := 13) rfl
theorem dX5_set_50 : decode cX5_set 50 = .ok (.sipush (-10000), 3) := fd_get adX5_set_1 (k := 14) rfl
theorem dX5_set_53 : decode cX5_set 53 = .ok (.if_icmp .ne 7, 3) := fd_get adX5_set_1 (k := 15) rfl
theorem dX5_set_56 : decode cX5_set 56 = .ok (.iconst 1, 1) := fd_get adX5_set_2 (k := 0) rfl
theorem dX5_set_57 : decode cX5_set 57 = .ok (.goto 4, 3) := fd_get adX5_set_2 (k := 1) rfl
theorem dX5_set_60 : decode cX5_set 60 = .ok (.iconst 0, 1) := fd_get adX5_set_2 (k := 2) rfl
theorem dX5_set_61 : decode cX5_set 61 = .ok (.if_icmp .eq 8, 3) := fd_get adX5_set_2 (k := 3) rfl
theorem dX5_set_64 : decode cX5_set 64 = .ok (.aload_n 0, 1) := fd_get adX5_set_2 (k := 4) rfl
theorem dX5_set_65 : decode cX5_set 65 = .ok (.iconst 1, 1) := fd_get adX5_set_2 (k := 5) rfl
theorem dX5_set_66 : decode cX5_set 66 = .ok (.putfield 128, 3) := fd_get adX5_set_2 (k := 6) rfl
theorem dX5_set_69 : decode cX5_set 69 = .ok (.iload 4, 2) := fd_get adX5_set_2 (k := 7) rfl
theorem dX5_set_71 : decode cX5_set 71 = .ok (.ireturn, 1) := fd_get adX5_set_2 (k := 8) rfl
theorem mwsX5_strikeAll_0 : ∀ w ∈ wsX50, w ∈ wsX5_strikeAll := fun w h => (List.mem_cons_of_mem _ (List.mem_append_right _ h))
set_option maxRecDepth 20000 in
theorem ggX5_strikeAll_X5_shows : GoodIn wsX5_strikeAll wsX5_shows := goodIn_sub (tk_mem 5 _ (fun w h => (List.mem_cons_of_mem _ (List.mem_append_left _ (tkB_mem 4 5 h)))) (List.forall_mem_cons.mpr ⟨(List.mem_cons_of_mem _ (List.mem_append_left _ (List.mem_of_getElem? (i := 3) rfl))), (tk_mem 7 _ (fun w h => (List.mem_cons_of_mem _ (List.mem_append_left _ (tkB_mem 9 7 h)))) (tk_mem 13 _ (fun w h => (mwsX5_strikeAll_0 _ (tkB_mem 0 13 h))) (fun _ h => absurd h List.not_mem_nil)))⟩)) (by decide +kernel)
set_option maxRecDepth 20000 in
theorem gX5_strikeAll_X5_shows : GoodIn wsX5_strikeAll (wsV RX5 74 RX5 yX5_shows wsX5_shows) := goodIn_app (goodIn_sub (tk_mem 4 _ (fun w h => (List.mem_cons_of_mem _ (List.mem_append_left _ (tkB_mem 0 4 h)))) (fun _ h => absurd h List.not_mem_nil)) (by decide +kernel)) ggX5_strikeAll_X5_shows
set_option maxRecDepth 20000 in
theorem ggX5_strikeAll_X5_set : GoodIn wsX5_strikeAll wsX5_set := goodIn_sub (List.forall_mem_cons.mpr ⟨(List.mem_cons_of_mem _ (List.mem_append_left _ (List.mem_of_getElem? (i := 19) rfl))), (List.forall_mem_cons.mpr ⟨(List.mem_cons_of_mem _ (List.mem_append_left _ (List.mem_of_getElem? (i := 5) rfl))), (List.forall_mem_cons.mpr ⟨(List.mem_cons_of_mem _ (List.mem_append_left _ (List.mem_of_getElem? (i := 20) rfl))), (List.forall_mem_cons.mpr ⟨(List.mem_cons_of_mem _ (List.mem_append_left _ (List.mem_of_getElem? (i := 21) rfl))), (tk_mem 13 _ (fun w h => (mwsX5_strikeAll_0 _ (tkB_mem 0 13 h))) (fun _ h => absurd h List.not_mem_nil))⟩)⟩)⟩)⟩) (by decide +kernel)
set_option maxRecDepth 20000 in
theorem gX5_strikeAll_X5_set : GoodIn wsX5_strikeAll (wsV RX5 132 RX5 yX5_set wsX5_set) := goodIn_app (goodIn_sub (List.forall_mem_cons.mpr ⟨(List.mem_cons_of_mem _ (List.mem_append_left _ (List.mem_of_getElem? (i := 16) rfl))), (List.forall_mem_cons.mpr ⟨(List.mem_cons_of_mem _ (List.mem_append_left _ (List.mem_of_getElem? (i := 17) rfl))), (List.forall_mem_cons.mpr ⟨(List.mem_cons_of_mem _ (List.mem_append_left _ (List.mem_of_getElem? (i := 18) rfl))), (List.forall_mem_cons.mpr ⟨(List.mem_cons_of_mem _ (List.mem_append_left _ (List.mem_of_getElem? (i := 3) rfl))), (fun _ h => absurd h List.not_mem_nil)⟩)⟩)⟩)⟩) (by decide +kernel)) ggX5_strikeAll_X5_set
theorem adX5_strikeAll_0 : fd_rows (cX5_strikeAll.data.toList.drop 0) 0 [(0, some (.iconst 0), 1), (1, some (.istore_n 2), 1), (2, some (.iconst 0), 1), (3, some (.istore_n 3), 1), (4, some (.iload_n 3), 1), (5, some (.bipush 100), 2), (7, some (.if_icmp .ge 36), 3), (10, some (.aload_n 0), 1), (11, some (.aload_n 1), 1), (12, some (.iload_n 3), 1), (13, some (.invokevirtual 74), 3), (16, some (.ifCond .ne 6), 3), (19, some (.goto 18), 3), (22, some (.aload_n 0), 1), (23, some (.aload_n 1), 1), (24, some (.iconst 0), 1)] = true := by decide +kernel
theorem adX5_strikeAll_1 : fd_rows (cX5_strikeAll.data.toList.drop 25) 25 [(25, some (.iaload), 1), (26, some (.iload_n 3), 1), (27, some (.sipush (-10000)), 3), (30, some (.invokevirtual 132), 3), (33, some (.pop), 1), (34, some (.iinc 2 1), 3), (37, some (.iinc 3 1), 3), (40, some (.goto (-36)), 3), (43, some (.iload_n 2), 1), (44, some (.ireturn), 1)] = true := by decide +kernel
theorem dX5_strikeAll_0 : decode cX5_strikeAll 0 = .ok (.iconst 0, 1) := fd_get adX5_strikeAll_0 (k := 0) rfl
theorem dX5_strikeAll_1 : decode cX5_strikeAll 1 = .ok (.istore_n 2, 1) := fd_get adX5_strikeAll_0 (k := 1) rfl
theorem dX5_strikeAll_2 : decode cX5_strikeAll 2 = .ok (.iconst 0, 1) := fd_get adX5_strikeAll_0 (k := 2) rfl
theorem dX5_strikeAll_3 : decode cX5_strikeAll 3 = .ok (.istore_n 3, 1) := fd_get adX5_strikeAll_0 (k := 3) rfl
theorem dX5_strikeAll_4 : decode cX5_strikeAll 4 = .ok (.iload_n 3, 1) := fd_get adX5_strikeAll_0 (k := 4) rfl
theorem dX5_strikeAll_5 : decode cX5_strikeAll 5 = .ok (.bipush 100, 2) := fd_get adX5_strikeAll_0 (k := 5) rfl
theorem dX5_strikeAll_7 : decode cX5_strikeAll 7 = .ok (.if_icmp .ge 36, 3) := fd_get adX5_strikeAll_0 (k := 6) rfl
theorem dX5_strikeAll_10 : decode cX5_strikeAll 10 = .ok (.aload_n 0, 1) := fd_get adX5_strikeAll_0 (k := 7) rfl
theorem dX5_strikeAll_11 : decode cX5_strikeAll 11 = .ok (.aload_n 1, 1) := fd_get adX5_strikeAll_0 (k := 8) rfl
theorem dX5_strikeAll_12 : decode cX5_strikeAll 12 = .ok (.iload_n 3, 1) := fd_get adX5_strikeAll_0 (k := 9) rfl
theorem dX5_strikeAll_13 : decode cX5_strikeAll 13 = .ok (.invokevirtual 74, 3) := fd_get adX5_strikeAll_0 (k := 10) rfl
theorem dX5_strikeAll_16 : decode cX5_strikeAll 16 = .ok (.ifCond .ne 6, 3) := fd_get adX5_strikeAll_0 (k := 11) rfl
theorem dX5_strikeAll_19 : decode cX5_strikeAll 19 = .ok (.goto 18, 3) := fd_get adX5_strikeAll_0 (k := 12) rfl
theorem dX5_strikeAll_22 : decode cX5_strikeAll 22 = .ok (.aload_n 0, 1) := fd_get adX5_strikeAll_0 (k := 13) rfl
theorem dX5_strikeAll_23 : decode cX5_strikeAll 23 = .ok (.aload_n 1, 1) := fd_get adX5_strikeAll_0 (k := 14) rfl
theorem dX5_strikeAll_24 : decode cX5_strikeAll 24 = .ok (.iconst 0, 1) := fd_get adX5_strikeAll_0 (k := 15) rfl
theorem dX5_strikeAll_25 : decode cX5_strikeAll 25 = .ok (.iaload, 1) := fd_get adX5_strikeAll_1 (k := 0) rfl
theorem dX5_strikeAll_26 : decode cX5_strikeAll 26 = .ok (.iload_n 3, 1) := fd_get adX5_strikeAll_1 (k := 1) rfl
theorem dX5_strikeAll_27 : decode cX5_strikeAll 27 = .ok (.sipush (-10000), 3) := fd_get adX5_strikeAll_1 (k := 2) rfl
theorem dX5_strikeAll_30 : decode cX5_strikeAll 30 = .ok (.invokevirtual 132, 3) := fd_get adX5_strikeAll_1 (k := 3) rfl
theorem dX5_strikeAll_33 : decode cX5_strikeAll 33 = .ok (.pop, 1) := fd_get adX5_strikeAll_1 (k := 4) rfl
theorem dX5_strikeAll_34 : decode cX5_strikeAll 34 = .ok (.iinc 2 1, 3) := fd_get adX5_strikeAll_1 (k := 5) rfl
theorem dX5_strikeAll_37 : decode cX5_strikeAll 37 = .ok (.iinc 3 1, 3) := fd_get adX5_strikeAll_1 (k := 6) rfl
theorem dX5_strikeAll_40 : decode cX5_strikeAll 40 = .ok (.goto (-36), 3) := fd_get adX5_strikeAll_1 (k := 7) rfl
theorem dX5_strikeAll_43 : decode cX5_strikeAll 43 = .ok (.iload_n 2, 1) := fd_get adX5_strikeAll_1 (k := 8) rfl
theorem dX5_strikeAll_44 : decode cX5_strikeAll 44 = .ok (.ireturn, 1) := fd_get adX5_strikeAll_1 (k := 9) rfl
theorem mwsX5_mergeOf_0 : ∀ w ∈ wsX50, w ∈ wsX5_mergeOf := fun w h => (List.mem_cons_of_mem _ (List.mem_append_right _ h))
set_option maxRecDepth 20000 in
theorem ggX5_mergeOf_X5_held : GoodIn wsX5_mergeOf wsX5_held := goodIn_sub (List.forall_mem_cons.mpr ⟨(List.mem_cons_of_mem _ (List.mem_append_left _ (List.mem_of_getElem? (i := 4) rfl))), (fun _ h => absurd h List.not_mem_nil)⟩) (by decide +kernel)
set_option maxRecDepth 20000 in
theorem gX5_mergeOf_X5_held : GoodIn wsX5_mergeOf (va_wsS RX5 136 yX5_held wsX5_held) := goodIn_app (goodIn_sub (List.forall_mem_cons.mpr ⟨(List.mem_cons_of_mem _ (List.mem_append_left _ (List.mem_of_getElem? (i := 1) rfl))), (List.forall_mem_cons.mpr ⟨(List.mem_cons_of_mem _ (List.mem_append_left _ (List.mem_of_getElem? (i := 2) rfl))), (List.forall_mem_cons.mpr ⟨(List.mem_cons_of_mem _ (List.mem_append_left _ (List.mem_of_getElem? (i := 3) rfl))), (fun _ h => absurd h List.not_mem_nil)⟩)⟩)⟩) (by decide +kernel)) ggX5_mergeOf_X5_held
set_option maxRecDepth 20000 in
theorem ggX5_mergeOf_X5_set : GoodIn wsX5_mergeOf wsX5_set := goodIn_sub (List.forall_mem_cons.mpr ⟨(List.mem_cons_of_mem _ (List.mem_append_left _ (List.mem_of_getElem? (i := 8) rfl))), (List.forall_mem_cons.mpr ⟨(List.mem_cons_of_mem _ (List.mem_append_left _ (List.mem_of_getElem? (i := 0) rfl))), (List.forall_mem_cons.mpr ⟨(List.mem_cons_of_mem _ (List.mem_append_left _ (List.mem_of_getElem? (i := 9) rfl))), (List.forall_mem_cons.mpr ⟨(List.mem_cons_of_mem _ (List.mem_append_left _ (List.mem_of_getElem? (i := 10) rfl))), (tk_mem 13 _ (fun w h => (mwsX5_mergeOf_0 _ (tkB_mem 0 13 h))) (fun _ h => absurd h List.not_mem_nil))⟩)⟩)⟩)⟩) (by decide +kernel)
set_option maxRecDepth 20000 in
theorem gX5_mergeOf_X5_set : GoodIn wsX5_mergeOf (wsV RX5 132 RX5 yX5_set wsX5_set) := goodIn_app (goodIn_sub (List.forall_mem_cons.mpr ⟨(List.mem_cons_of_mem _ (List.mem_append_left _ (List.mem_of_getElem? (i := 5) rfl))), (List.forall_mem_cons.mpr ⟨(List.mem_cons_of_mem _ (List.mem_append_left _ (List.mem_of_getElem? (i := 6) rfl))), (List.forall_mem_cons.mpr ⟨(List.mem_cons_of_mem _ (List.mem_append_left _ (List.mem_of_getElem? (i := 7) rfl))), (List.forall_mem_cons.mpr ⟨(List.mem_cons_of_mem _ (List.mem_append_left _ (List.mem_of_getElem? (i := 3) rfl))), (fun _ h => absurd h List.not_mem_nil)⟩)⟩)⟩)⟩) (by decide +kernel)) ggX5_mergeOf_X5_set
theorem adX5_mergeOf_0 : fd_rows (cX5_mergeOf.data.toList.drop 0) 0 [(0, some (.aload_n 0), 1), (1, some (.getfield 11), 3), (4, some (.iload_n 1), 1), (5, some (.aaload), 1), (6, some (.iload_n 2), 1), (7, some (.iaload), 1), (8, some (.istore 4), 2), (10, some (.iload 4), 2), (12, some (.sipush (-10000)), 3), (15, some (.if_icmp .ne 7), 3), (18, some (.iload_n 3), 1), (19, some (.goto 10), 3), (22, some (.iload 4), 2), (24, some (.iload_n 3), 1), (25, some (.iadd), 1), (26, some (.invokestatic 136), 3)] = true := by decide +kernel
theorem adX5_mergeOf_1 : fd_rows (cX5_mergeOf.data.toList.drop 29) 29 [(29, some (.istore 5), 2), (31, some (.iload 4), 2), (33, some (.sipush (-10000)), 3), (36, some (.if_icmp .eq 13), 3), (39, some (.iload 5), 2), (41, some (.ifCond .ne 8), 3), (44, some (.sipush (-10000)), 3), (47, some (.istore 5), 2), (49, some (.aload_n 0), 1), (50, some (.iload_n 1), 1), (51, some (.iload_n 2), 1), (52, some (.iload 5), 2), (54, some (.invokevirtual 132), 3), (57, some (.pop), 1), (58, some (.iload 5), 2), (60, some (.ireturn), 1)] = true := by decide +kernel
theorem dX5_mergeOf_0 : decode cX5_mergeOf 0 = .ok (.aload_n 0, 1) := fd_get adX5_mergeOf_0 (k := 0) rfl
theorem dX5_mergeOf_1 : decode cX5_mergeOf 1 = .ok (.getfield 11, 3) := fd_get adX5_mergeOf_0 (k := 1) rfl
theorem dX5_mergeOf_4 : decode cX5_mergeOf 4 = .ok (.iload_n 1, 1) := fd_get adX5_mergeOf_0 (k := 2) rfl
theorem dX5_mergeOf_5 : decode cX5_mergeOf 5 = .ok (.aaload, 1) := fd_get adX5_mergeOf_0 (k := 3) rfl
theorem dX5_mergeOf_6 : decode cX5_mergeOf 6 = .ok (.iload_n 2, 1) := fd_get adX5_mergeOf_0 (k := 4) rfl
theorem dX5_mergeOf_7 : decode cX5_mergeOf 7 = .ok (.iaload, 1) := fd_get adX5_mergeOf_0 (k := 5) rfl
theorem dX5_mergeOf_8 : decode cX5_mergeOf 8 = .ok (.istore 4, 2) := fd_get adX5_mergeOf_0 (k := 6) rfl
theorem dX5_mergeOf_10 : decode cX5_mergeOf 10 = .ok (.iload 4, 2) := fd_get adX5_mergeOf_0 (k := 7) rfl
theorem dX5_mergeOf_12 : decode cX5_mergeOf 12 = .ok (.sipush (-10000), 3) := fd_get adX5_mergeOf_0 (k := 8) rfl
theorem dX5_mergeOf_15 : decode cX5_mergeOf 15 = .ok (.if_icmp .ne 7, 3) := fd_get adX5_mergeOf_0 (k := 9) rfl
theorem dX5_mergeOf_18 : decode cX5_mergeOf 18 = .ok (.iload_n 3, 1) := fd_get adX5_mergeOf_0 (k := 10) rfl
theorem dX5_mergeOf_19 : decode cX5_mergeOf 19 = .ok (.goto 10, 3) := fd_get adX5_mergeOf_0 (k := 11) rfl
theorem dX5_mergeOf_22 : decode cX5_mergeOf 22 = .ok (.iload 4, 2) := fd_get adX5_mergeOf_0 (k := 12) rfl
theorem dX5_mergeOf_24 : decode cX5_mergeOf 24 = .ok (.iload_n 3, 1) := fd_get adX5_mergeOf_0 (k := 13) rfl
theorem dX5_mergeOf_25 : decode cX5_mergeOf 25 = .ok (.iadd, 1) := fd_get adX5_mergeOf_0 (k := 14) rfl
theorem dX5_mergeOf_26 : decode cX5_mergeOf 26 = .ok (.invokestatic 136, 3) := fd_get adX5_mergeOf_0 (k := 15) rfl
theorem dX5_mergeOf_29 : decode cX5_mergeOf 29 = .ok (.istore 5, 2) := fd_get adX5_mergeOf_1 (k := 0) rfl
theorem dX5_mergeOf_31 : decode cX5_mergeOf 31 = .ok (.iload 4, 2) := fd_get adX5_mergeOf_1 (k := 1) rfl
theorem dX5_mergeOf_33 : decode cX5_mergeOf 33 = .ok (.sipush (-10000), 3) := fd_get adX5_mergeOf_1 (k := 2) rfl
theorem dX5_mergeOf_36 : decode cX5_mergeOf 36 = .ok (.if_icmp .eq 13, 3) := fd_get adX5_mergeOf_1 (k := 3) rfl
theorem dX5_mergeOf_39 : decode cX5_mergeOf 39 = .ok (.iload 5, 2) := fd_get adX5_mergeOf_1 (k := 4) rfl
theorem dX5_mergeOf_41 : decode cX5_mergeOf 41 = .ok (.ifCond .ne 8, 3) := fd_get adX5_mergeOf_1 (k := 5) rfl
theorem dX5_mergeOf_44 : decode cX5_mergeOf 44 = .ok (.sipush (-10000), 3) := fd_get adX5_mergeOf_1 (k := 6) rfl
theorem dX5_mergeOf_47 : decode cX5_mergeOf 47 = .ok (.istore 5, 2) := fd_get adX5_mergeOf_1 (k := 7) rfl
theorem dX5_mergeOf_49 : decode cX5_mergeOf 49 = .ok (.aload_n 0, 1) := fd_get adX5_mergeOf_1 (k := 8) rfl
theorem dX5_mergeOf_50 : decode cX5_mergeOf 50 = .ok (.iload_n 1, 1) := fd_get adX5_mergeOf_1 (k := 9) rfl
theorem dX5_mergeOf_51 : decode cX5_mergeOf 51 = .ok (.iload_n 2, 1) := fd_get adX5_mergeOf_1 (k := 10) rfl
theorem dX5_mergeOf_52 : decode cX5_mergeOf 52 = .ok (.iload 5, 2) := fd_get adX5_mergeOf_1 (k := 11) rfl
theorem dX5_mergeOf_54 : decode cX5_mergeOf 54 = .ok (.invokevirtual 132, 3) := fd_get adX5_mergeOf_1 (k := 12) rfl
theorem dX5_mergeOf_57 : decode cX5_mergeOf 57 = .ok (.pop, 1) := fd_get adX5_mergeOf_1 (k := 13) rfl
theorem dX5_mergeOf_58 : decode cX5_mergeOf 58 = .ok (.iload 5, 2) := fd_get adX5_mergeOf_1 (k := 14) rfl
theorem dX5_mergeOf_60 : decode cX5_mergeOf 60 = .ok (.ireturn, 1) := fd_get adX5_mergeOf_1 (k := 15) rfl
theorem mwsX5_put_0 : ∀ w ∈ wsX5_put_r1, w ∈ wsX5_put := fun w h => (List.mem_cons_of_mem _ (List.mem_append_left _ (List.mem_append_left _ h)))
theorem mwsX5_put_1 : ∀ w ∈ wsX5_put_r2, w ∈ wsX5_put := fun w h => (List.mem_cons_of_mem _ (List.mem_append_left _ (List.mem_append_right _ h)))
theorem mwsX5_put_2 : ∀ w ∈ wsX50, w ∈ wsX5_put := fun w h => (List.mem_cons_of_mem _ (List.mem_append_right _ h))
set_option maxRecDepth 20000 in
theorem ggX5_put_X5_isBad_ : GoodIn wsX5_put wsX5_isBad_ := goodIn_sub (List.forall_mem_cons.mpr ⟨(mwsX5_put_0 _ (List.mem_of_getElem? (i := 4) rfl)), (List.forall_mem_cons.mpr ⟨(mwsX5_put_0 _ (List.mem_of_getElem? (i := 5) rfl)), (List.forall_mem_cons.mpr ⟨(mwsX5_put_0 _ (List.mem_of_getElem? (i := 6) rfl)), (List.forall_mem_cons.mpr ⟨(mwsX5_put_0 _ (List.mem_of_getElem? (i := 3) rfl)), (tk_mem 17 _ (fun w h => (mwsX5_put_0 _ (tkB_mem 7 17 h))) (List.forall_mem_cons.mpr ⟨(mwsX5_put_1 _ (List.mem_of_getElem? (i := 0) rfl)), (List.forall_mem_cons.mpr ⟨(mwsX5_put_1 _ (List.mem_of_getElem? (i := 1) rfl)), (tk_mem 13 _ (fun w h => (mwsX5_put_2 _ (tkB_mem 0 13 h))) (fun _ h => absurd h List.not_mem_nil))⟩)⟩))⟩)⟩)⟩)⟩) (by decide +kernel)
set_option maxRecDepth 20000 in
theorem gX5_put_X5_isBad_ : GoodIn wsX5_put (wsV RX5 139 RX5 yX5_isBad_ wsX5_isBad_) := goodIn_app (goodIn_sub (tk_mem 4 _ (fun w h => (mwsX5_put_0 _ (tkB_mem 0 4 h))) (fun _ h => absurd h List.not_mem_nil)) (by decide +kernel)) ggX5_put_X5_isBad_
set_option maxRecDepth 20000 in
theorem ggX5_put_X5_touch : GoodIn wsX5_put wsX5_touch := goodIn_sub (List.forall_mem_cons.mpr ⟨(mwsX5_put_1 _ (List.mem_of_getElem? (i := 5) rfl)), (List.forall_mem_cons.mpr ⟨(mwsX5_put_1 _ (List.mem_of_getElem? (i := 6) rfl)), (List.forall_mem_cons.mpr ⟨(mwsX5_put_1 _ (List.mem_of_getElem? (i := 7) rfl)), (tk_mem 13 _ (fun w h => (mwsX5_put_2 _ (tkB_mem 0 13 h))) (fun _ h => absurd h List.not_mem_nil))⟩)⟩)⟩) (by decide +kernel)
set_option maxRecDepth 20000 in
theorem gX5_put_X5_touch : GoodIn wsX5_put (wsV RX5 142 RX5 yX5_touch wsX5_touch) := goodIn_app (goodIn_sub (List.forall_mem_cons.mpr ⟨(mwsX5_put_1 _ (List.mem_of_getElem? (i := 2) rfl)), (List.forall_mem_cons.mpr ⟨(mwsX5_put_1 _ (List.mem_of_getElem? (i := 3) rfl)), (List.forall_mem_cons.mpr ⟨(mwsX5_put_1 _ (List.mem_of_getElem? (i := 4) rfl)), (List.forall_mem_cons.mpr ⟨(mwsX5_put_0 _ (List.mem_of_getElem? (i := 3) rfl)), (fun _ h => absurd h List.not_mem_nil)⟩)⟩)⟩)⟩) (by decide +kernel)) ggX5_put_X5_touch
set_option maxRecDepth 20000 in
theorem ggX5_put_X5_set : GoodIn wsX5_put wsX5_set := goodIn_sub (List.forall_mem_cons.mpr ⟨(mwsX5_put_1 _ (List.mem_of_getElem? (i := 11) rfl)), (List.forall_mem_cons.mpr ⟨(mwsX5_put_1 _ (List.mem_of_getElem? (i := 12) rfl)), (List.forall_mem_cons.mpr ⟨(mwsX5_put_1 _ (List.mem_of_getElem? (i := 6) rfl)), (List.forall_mem_cons.mpr ⟨(mwsX5_put_1 _ (List.mem_of_getElem? (i := 13) rfl)), (tk_mem 13 _ (fun w h => (mwsX5_put_2 _ (tkB_mem 0 13 h))) (fun _ h => absurd h List.not_mem_nil))⟩)⟩)⟩)⟩) (by decide +kernel)
set_option maxRecDepth 20000 in
theorem gX5_put_X5_set : GoodIn wsX5_put (wsV RX5 132 RX5 yX5_set wsX5_set) := goodIn_app (goodIn_sub (List.forall_mem_cons.mpr ⟨(mwsX5_put_1 _ (List.mem_of_getElem? (i := 8) rfl)), (List.forall_mem_cons.mpr ⟨(mwsX5_put_1 _ (List.mem_of_getElem? (i := 9) rfl)), (List.forall_mem_cons.mpr ⟨(mwsX5_put_1 _ (List.mem_of_getElem? (i := 10) rfl)), (List.forall_mem_cons.mpr ⟨(mwsX5_put_0 _ (List.mem_of_getElem? (i := 3) rfl)), (fun _ h => absurd h List.not_mem_nil)⟩)⟩)⟩)⟩) (by decide +kernel)) ggX5_put_X5_set
theorem adX5_put_0 : fd_rows (cX5_put.data.toList.drop 0) 0 [(0, some (.aload_n 0), 1), (1, some (.iload_n 1), 1), (2, some (.iload_n 2), 1), (3, some (.iload_n 3), 1), (4, some (.invokevirtual 139), 3), (7, some (.ifCond .eq 5), 3), (10, some (.iconst 0), 1), (11, some (.ireturn), 1), (12, some (.aload_n 0), 1), (13, some (.iload_n 1), 1), (14, some (.invokevirtual 142), 3), (17, some (.aload_n 0), 1), (18, some (.iload_n 1), 1), (19, some (.iload_n 2), 1), (20, some (.iload_n 3), 1), (21, some (.invokevirtual 132), 3)] = true := by decide +kernel
theorem adX5_put_1 : fd_rows (cX5_put.data.toList.drop 24) 24 [(24, some (.ireturn), 1)] = true := by decide +kernel
theorem dX5_put_0 : decode cX5_put 0 = .ok (.aload_n 0, 1) := fd_get adX5_put_0 (k := 0) rfl
theorem dX5_put_1 : decode cX5_put 1 = .ok (.iload_n 1, 1) := fd_get adX5_put_0 (k := 1) rfl
theorem dX5_put_2 : decode cX5_put 2 = .ok (.iload_n 2, 1) := fd_get adX5_put_0 (k := 2) rfl
theorem dX5_put_3 : decode cX5_put 3 = .ok (.iload_n 3, 1) := fd_get adX5_put_0 (k := 3) rfl
theorem dX5_put_4 : decode cX5_put 4 = .ok (.invokevirtual 139, 3) := fd_get adX5_put_0 (k := 4) rfl
theorem dX5_put_7 : decode cX5_put 7 = .ok (.ifCond .eq 5, 3) := fd_get adX5_put_0 (k := 5) rfl
theorem dX5_put_10 : decode cX5_put 10 = .ok (.iconst 0, 1) := fd_get adX5_put_0 (k := 6) rfl
theorem dX5_put_11 : decode cX5_put 11 = .ok (.ireturn, 1) := fd_get adX5_put_0 (k := 7) rfl
theorem dX5_put_12 : decode cX5_put 12 = .ok (.aload_n 0, 1) := fd_get adX5_put_0 (k := 8) rfl
theorem dX5_put_13 : decode cX5_put 13 = .ok (.iload_n 1, 1) := fd_get adX5_put_0 (k := 9) rfl
theorem dX5_put_14 : decode cX5_put 14 = .ok (.invokevirtual 142, 3) := fd_get adX5_put_0 (k := 10) rfl
theorem dX5_put_17 : decode cX5_put 17 = .ok (.aload_n 0, 1) := fd_get adX5_put_0 (k := 11) rfl
theorem dX5_put_18 : decode cX5_put 18 = .ok (.iload_n 1, 1) := fd_get adX5_put_0 (k := 12) rfl
theorem dX5_put_19 : decode cX5_put 19 = .ok (.iload_n 2, 1) := fd_get adX5_put_0 (k := 13) rfl
theorem dX5_put_20 : decode cX5_put 20 = .ok (.iload_n 3, 1) := fd_get adX5_put_0 (k := 14) rfl
theorem dX5_put_21 : decode cX5_put 21 = .ok (.invokevirtual 132, 3) := fd_get adX5_put_0 (k := 15) rfl
theorem dX5_put_24 : decode cX5_put 24 = .ok (.ireturn, 1) := fd_get adX5_put_1 (k := 0) rfl
theorem mwsX5_putAbsent_0 : ∀ w ∈ wsX5_putAbsent_r1, w ∈ wsX5_putAbsent := fun w h => (List.mem_cons_of_mem _ (List.mem_append_left _ (List.mem_append_left _ h)))
theorem mwsX5_putAbsent_1 : ∀ w ∈ wsX5_putAbsent_r2, w ∈ wsX5_putAbsent := fun w h => (List.mem_cons_of_mem _ (List.mem_append_left _ (List.mem_append_right _ h)))
theorem mwsX5_putAbsent_2 : ∀ w ∈ wsX50, w ∈ wsX5_putAbsent := fun w h => (List.mem_cons_of_mem _ (List.mem_append_right _ h))
set_option maxRecDepth 20000 in
theorem ggX5_putAbsent_X5_isBad_ : GoodIn wsX5_putAbsent wsX5_isBad_ := goodIn_sub (List.forall_mem_cons.mpr ⟨(mwsX5_putAbsent_0 _ (List.mem_of_getElem? (i := 5) rfl)), (List.forall_mem_cons.mpr ⟨(mwsX5_putAbsent_0 _ (List.mem_of_getElem? (i := 6) rfl)), (List.forall_mem_cons.mpr ⟨(mwsX5_putAbsent_0 _ (List.mem_of_getElem? (i := 7) rfl)), (List.forall_mem_cons.mpr ⟨(mwsX5_putAbsent_0 _ (List.mem_of_getElem? (i := 4) rfl)), (tk_mem 16 _ (fun w h => (mwsX5_putAbsent_0 _ (tkB_mem 8 16 h))) (List.forall_mem_cons.mpr ⟨(mwsX5_putAbsent_1 _ (List.mem_of_getElem? (i := 0) rfl)), (List.forall_mem_cons.mpr ⟨(mwsX5_putAbsent_1 _ (List.mem_of_getElem? (i := 1) rfl)), (List.forall_mem_cons.mpr ⟨(mwsX5_putAbsent_1 _ (List.mem_of_getElem? (i := 2) rfl)), (tk_mem 13 _ (fun w h => (mwsX5_putAbsent_2 _ (tkB_mem 0 13 h))) (fun _ h => absurd h List.not_mem_nil))⟩)⟩)⟩))⟩)⟩)⟩)⟩) (by decide +kernel)
set_option maxRecDepth 20000 in
theorem gX5_putAbsent_X5_isBad_ : GoodIn wsX5_putAbsent (wsV RX5 139 RX5 yX5_isBad_ wsX5_isBad_) := goodIn_app (goodIn_sub (tk_mem 4 _ (fun w h => (mwsX5_putAbsent_0 _ (tkB_mem 1 4 h))) (fun _ h => absurd h List.not_mem_nil)) (by decide +kernel)) ggX5_putAbsent_X5_isBad_
set_option maxRecDepth 20000 in
theorem ggX5_putAbsent_X5_touch : GoodIn wsX5_putAbsent wsX5_touch := goodIn_sub (List.forall_mem_cons.mpr ⟨(mwsX5_putAbsent_1 _ (List.mem_of_getElem? (i := 6) rfl)), (List.forall_mem_cons.mpr ⟨(mwsX5_putAbsent_1 _ (List.mem_of_getElem? (i := 7) rfl)), (List.forall_mem_cons.mpr ⟨(mwsX5_putAbsent_1 _ (List.mem_of_getElem? (i := 8) rfl)), (tk_mem 13 _ (fun w h => (mwsX5_putAbsent_2 _ (tkB_mem 0 13 h))) (fun _ h => absurd h List.not_mem_nil))⟩)⟩)⟩) (by decide +kernel)
set_option maxRecDepth 20000 in
theorem gX5_putAbsent_X5_touch : GoodIn wsX5_putAbsent (wsV RX5 142 RX5 yX5_touch wsX5_touch) := goodIn_app (goodIn_sub (List.forall_mem_cons.mpr ⟨(mwsX5_putAbsent_1 _ (List.mem_of_getElem? (i := 3) rfl)), (List.forall_mem_cons.mpr ⟨(mwsX5_putAbsent_1 _ (List.mem_of_getElem? (i := 4) rfl)), (List.forall_mem_cons.mpr ⟨(mwsX5_putAbsent_1 _ (List.mem_of_getElem? (i := 5) rfl)), (List.forall_mem_cons.mpr ⟨(mwsX5_putAbsent_0 _ (List.mem_of_getElem? (i := 4) rfl)), (fun _ h => absurd h List.not_mem_nil)⟩)⟩)⟩)⟩) (by decide +kernel)) ggX5_putAbsent_X5_touch
set_option maxRecDepth 20000 in
theorem ggX5_putAbsent_X5_set : GoodIn wsX5_putAbsent wsX5_set := goodIn_sub (List.forall_mem_cons.mpr ⟨(mwsX5_putAbsent_1 _ (List.mem_of_getElem? (i := 12) rfl)), (List.forall_mem_cons.mpr ⟨(mwsX5_putAbsent_0 _ (List.mem_of_getElem? (i := 0) rfl)), (List.forall_mem_cons.mpr ⟨(mwsX5_putAbsent_1 _ (List.mem_of_getElem? (i := 7) rfl)), (List.forall_mem_cons.mpr ⟨(mwsX5_putAbsent_1 _ (List.mem_of_getElem? (i := 13) rfl)), (tk_mem 13 _ (fun w h => (mwsX5_putAbsent_2 _ (tkB_mem 0 13 h))) (fun _ h => absurd h List.not_mem_nil))⟩)⟩)⟩)⟩) (by decide +kernel)
set_option maxRecDepth 20000 in
theorem gX5_putAbsent_X5_set : GoodIn wsX5_putAbsent (wsV RX5 132 RX5 yX5_set wsX5_set) := goodIn_app (goodIn_sub (List.forall_mem_cons.mpr ⟨(mwsX5_putAbsent_1 _ (List.mem_of_getElem? (i := 9) rfl)), (List.forall_mem_cons.mpr ⟨(mwsX5_putAbsent_1 _ (List.mem_of_getElem? (i := 10) rfl)), (List.forall_mem_cons.mpr ⟨(mwsX5_putAbsent_1 _ (List.mem_of_getElem? (i := 11) rfl)), (List.forall_mem_cons.mpr ⟨(mwsX5_putAbsent_0 _ (List.mem_of_getElem? (i := 4) rfl)), (fun _ h => absurd h List.not_mem_nil)⟩)⟩)⟩)⟩) (by decide +kernel)) ggX5_putAbsent_X5_set
theorem adX5_putAbsent_0 : fd_rows (cX5_putAbsent.data.toList.drop 0) 0 [(0, some (.aload_n 0), 1), (1, some (.iload_n 1), 1), (2, some (.iload_n 2), 1), (3, some (.iload_n 3), 1), (4, some (.invokevirtual 139), 3), (7, some (.ifCond .eq 5), 3), (10, some (.iconst 0), 1), (11, some (.ireturn), 1), (12, some (.aload_n 0), 1), (13, some (.iload_n 1), 1), (14, some (.invokevirtual 142), 3), (17, some (.aload_n 0), 1), (18, some (.getfield 11), 3), (21, some (.iload_n 1), 1), (22, some (.aaload), 1), (23, some (.iload_n 2), 1)] = true := by decide +kernel
theorem adX5_putAbsent_1 : fd_rows (cX5_putAbsent.data.toList.drop 24) 24 [(24, some (.iaload), 1), (25, some (.istore 4), 2), (27, some (.iload 4), 2), (29, some (.sipush (-10000)), 3), (32, some (.if_icmp .ne 11), 3), (35, some (.aload_n 0), 1), (36, some (.iload_n 1), 1), (37, some (.iload_n 2), 1), (38, some (.iload_n 3), 1), (39, some (.invokevirtual 132), 3), (42, some (.pop), 1), (43, some (.iload 4), 2), (45, some (.ireturn), 1)] = true := by decide +kernel
theorem dX5_putAbsent_0 : decode cX5_putAbsent 0 = .ok (.aload_n 0, 1) := fd_get adX5_putAbsent_0 (k := 0) rfl
theorem dX5_putAbsent_1 : decode cX5_putAbsent 1 = .ok (.iload_n 1, 1) := fd_get adX5_putAbsent_0 (k := 1) rfl
theorem dX5_putAbsent_2 : decode cX5_putAbsent 2 = .ok (.iload_n 2, 1) := fd_get adX5_putAbsent_0 (k := 2) rfl
theorem dX5_putAbsent_3 : decode cX5_putAbsent 3 = .ok (.iload_n 3, 1) := fd_get adX5_putAbsent_0 (k := 3) rfl
theorem dX5_putAbsent_4 : decode cX5_putAbsent 4 = .ok (.invokevirtual 139, 3) := fd_get adX5_putAbsent_0 (k := 4) rfl
theorem dX5_putAbsent_7 : decode cX5_putAbsent 7 = .ok (.ifCond .eq 5, 3) := fd_get adX5_putAbsent_0 (k := 5) rfl
theorem dX5_putAbsent_10 : decode cX5_putAbsent 10 = .ok (.iconst 0, 1) := fd_get adX5_putAbsent_0 (k := 6) rfl
theorem dX5_putAbsent_11 : decode cX5_putAbsent 11 = .ok (.ireturn, 1) := fd_get adX5_putAbsent_0 (k := 7) rfl
theorem dX5_putAbsent_12 : decode cX5_putAbsent 12 = .ok (.aload_n 0, 1) := fd_get adX5_putAbsent_0 (k := 8) rfl
theorem dX5_putAbsent_13 : decode cX5_putAbsent 13 = .ok (.iload_n 1, 1) := fd_get adX5_putAbsent_0 (k := 9) rfl
theorem dX5_putAbsent_14 : decode cX5_putAbsent 14 = .ok (.invokevirtual 142, 3) := fd_get adX5_putAbsent_0 (k := 10) rfl
theorem dX5_putAbsent_17 : decode cX5_putAbsent 17 = .ok (.aload_n 0, 1) := fd_get adX5_putAbsent_0 (k := 11) rfl
theorem dX5_putAbsent_18 : decode cX5_putAbsent 18 = .ok (.getfield 11, 3) := fd_get adX5_putAbsent_0 (k := 12) rfl
theorem dX5_putAbsent_21 : decode cX5_putAbsent 21 = .ok (.iload_n 1, 1) := fd_get adX5_putAbsent_0 (k := 13) rfl
theorem dX5_putAbsent_22 : decode cX5_putAbsent 22 = .ok (.aaload, 1) := fd_get adX5_putAbsent_0 (k := 14) rfl
theorem dX5_putAbsent_23 : decode cX5_putAbsent 23 = .ok (.iload_n 2, 1) := fd_get adX5_putAbsent_0 (k := 15) rfl
theorem dX5_putAbsent_24 : decode cX5_putAbsent 24 = .ok (.iaload, 1) := fd_get adX5_putAbsent_1 (k := 0) rfl
theorem dX5_putAbsent_25 : decode cX5_putAbsent 25 = .ok (.istore 4, 2) := fd_get adX5_putAbsent_1 (k := 1) rfl
theorem dX5_putAbsent_27 : decode cX5_putAbsent 27 = .ok (.iload 4, 2) := fd_get adX5_putAbsent_1 (k := 2) rfl
theorem dX5_putAbsent_29 : decode cX5_putAbsent 29 = .ok (.sipush (-10000), 3) := fd_get adX5_putAbsent_1 (k := 3) rfl
theorem dX5_putAbsent_32 : decode cX5_putAbsent 32 = .ok (.if_icmp .ne 11, 3) := fd_get adX5_putAbsent_1 (k := 4) rfl
theorem dX5_putAbsent_35 : decode cX5_putAbsent 35 = .ok (.aload_n 0, 1) := fd_get adX5_putAbsent_1 (k := 5) rfl
theorem dX5_putAbsent_36 : decode cX5_putAbsent 36 = .ok (.iload_n 1, 1) := fd_get adX5_putAbsent_1 (k := 6) rfl
theorem dX5_putAbsent_37 : decode cX5_putAbsent 37 = .ok (.iload_n 2, 1) := fd_get adX5_putAbsent_1 (k := 7) rfl
theorem dX5_putAbsent_38 : decode cX5_putAbsent 38 = .ok (.iload_n 3, 1) := fd_get adX5_putAbsent_1 (k := 8) rfl
theorem dX5_putAbsent_39 : decode cX5_putAbsent 39 = .ok (.invokevirtual 132, 3) := fd_get adX5_putAbsent_1 (k := 9) rfl
theorem dX5_putAbsent_42 : decode cX5_putAbsent 42 = .ok (.pop, 1) := fd_get adX5_putAbsent_1 (k := 10) rfl
theorem dX5_putAbsent_43 : decode cX5_putAbsent 43 = .ok (.iload 4, 2) := fd_get adX5_putAbsent_1 (k := 11) rfl
theorem dX5_putAbsent_45 : decode cX5_putAbsent 45 = .ok (.ireturn, 1) := fd_get adX5_putAbsent_1 (k := 12) rfl
theorem mwsX5_replace_0 : ∀ w ∈ wsX5_replace_r1, w ∈ wsX5_replace := fun w h => (List.mem_cons_of_mem _ (List.mem_append_left _ (List.mem_append_left _ h)))
theorem mwsX5_replace_1 : ∀ w ∈ wsX5_replace_r2, w ∈ wsX5_replace := fun w h => (List.mem_cons_of_mem _ (List.mem_append_left _ (List.mem_append_right _ h)))
theorem mwsX5_replace_2 : ∀ w ∈ wsX50, w ∈ wsX5_replace := fun w h => (List.mem_cons_of_mem _ (List.mem_append_right _ h))
set_option maxRecDepth 20000 in
theorem ggX5_replace_X5_isBad_ : GoodIn wsX5_replace wsX5_isBad_ := goodIn_sub (List.forall_mem_cons.mpr ⟨(mwsX5_replace_0 _ (List.mem_of_getElem? (i := 5) rfl)), (List.forall_mem_cons.mpr ⟨(mwsX5_replace_0 _ (List.mem_of_getElem? (i := 6) rfl)), (List.forall_mem_cons.mpr ⟨(mwsX5_replace_0 _ (List.mem_of_getElem? (i := 7) rfl)), (List.forall_mem_cons.mpr ⟨(mwsX5_replace_0 _ (List.mem_of_getElem? (i := 4) rfl)), (tk_mem 16 _ (fun w h => (mwsX5_replace_0 _ (tkB_mem 8 16 h))) (List.forall_mem_cons.mpr ⟨(mwsX5_replace_1 _ (List.mem_of_getElem? (i := 0) rfl)), (List.forall_mem_cons.mpr ⟨(mwsX5_replace_1 _ (List.mem_of_getElem? (i := 1) rfl)), (List.forall_mem_cons.mpr ⟨(mwsX5_replace_1 _ (List.mem_of_getElem? (i := 2) rfl)), (tk_mem 13 _ (fun w h => (mwsX5_replace_2 _ (tkB_mem 0 13 h))) (fun _ h => absurd h List.not_mem_nil))⟩)⟩)⟩))⟩)⟩)⟩)⟩) (by decide +kernel)
set_option maxRecDepth 20000 in
theorem gX5_replace_X5_isBad_ : GoodIn wsX5_replace (wsV RX5 139 RX5 yX5_isBad_ wsX5_isBad_) := goodIn_app (goodIn_sub (tk_mem 4 _ (fun w h => (mwsX5_replace_0 _ (tkB_mem 1 4 h))) (fun _ h => absurd h List.not_mem_nil)) (by decide +kernel)) ggX5_replace_X5_isBad_
set_option maxRecDepth 20000 in
theorem ggX5_replace_X5_touch : GoodIn wsX5_replace wsX5_touch := goodIn_sub (List.forall_mem_cons.mpr ⟨(mwsX5_replace_1 _ (List.mem_of_getElem? (i := 6) rfl)), (List.forall_mem_cons.mpr ⟨(mwsX5_replace_1 _ (List.mem_of_getElem? (i := 7) rfl)), (List.forall_mem_cons.mpr ⟨(mwsX5_replace_1 _ (List.mem_of_getElem? (i := 8) rfl)), (tk_mem 13 _ (fun w h => (mwsX5_replace_2 _ (tkB_mem 0 13 h))) (fun _ h => absurd h List.not_mem_nil))⟩)⟩)⟩) (by decide +kernel)
set_option maxRecDepth 20000 in
theorem gX5_replace_X5_touch : GoodIn wsX5_replace (wsV RX5 142 RX5 yX5_touch wsX5_touch) := goodIn_app (goodIn_sub (List.forall_mem_cons.mpr ⟨(mwsX5_replace_1 _ (List.mem_of_getElem? (i := 3) rfl)), (List.forall_mem_cons.mpr ⟨(mwsX5_replace_1 _ (List.mem_of_getElem? (i := 4) rfl)), (List.forall_mem_cons.mpr ⟨(mwsX5_replace_1 _ (List.mem_of_getElem? (i := 5) rfl)), (List.forall_mem_cons.mpr ⟨(mwsX5_replace_0 _ (List.mem_of_getElem? (i := 4) rfl)), (fun _ h => absurd h List.not_mem_nil)⟩)⟩)⟩)⟩) (by decide +kernel)) ggX5_replace_X5_touch
set_option maxRecDepth 20000 in
theorem ggX5_replace_X5_set : GoodIn wsX5_replace wsX5_set := goodIn_sub (List.forall_mem_cons.mpr ⟨(mwsX5_replace_1 _ (List.mem_of_getElem? (i := 12) rfl)), (List.forall_mem_cons.mpr ⟨(mwsX5_replace_0 _ (List.mem_of_getElem? (i := 0) rfl)), (List.forall_mem_cons.mpr ⟨(mwsX5_replace_1 _ (List.mem_of_getElem? (i := 7) rfl)), (List.forall_mem_cons.mpr ⟨(mwsX5_replace_1 _ (List.mem_of_getElem? (i := 13) rfl)), (tk_mem 13 _ (fun w h => (mwsX5_replace_2 _ (tkB_mem 0 13 h))) (fun _ h => absurd h List.not_mem_nil))⟩)⟩)⟩)⟩) (by decide +kernel)
set_option maxRecDepth 20000 in
theorem gX5_replace_X5_set : GoodIn wsX5_replace (wsV RX5 132 RX5 yX5_set wsX5_set) := goodIn_app (goodIn_sub (List.forall_mem_cons.mpr ⟨(mwsX5_replace_1 _ (List.mem_of_getElem? (i := 9) rfl)), (List.forall_mem_cons.mpr ⟨(mwsX5_replace_1 _ (List.mem_of_getElem? (i := 10) rfl)), (List.forall_mem_cons.mpr ⟨(mwsX5_replace_1 _ (List.mem_of_getElem? (i := 11) rfl)), (List.forall_mem_cons.mpr ⟨(mwsX5_replace_0 _ (List.mem_of_getElem? (i := 4) rfl)), (fun _ h => absurd h List.not_mem_nil)⟩)⟩)⟩)⟩) (by decide +kernel)) ggX5_replace_X5_set
theorem adX5_replace_0 : fd_rows (cX5_replace.data.toList.drop 0) 0 [(0, some (.aload_n 0), 1), (1, some (.iload_n 1), 1), (2, some (.iload_n 2), 1), (3, some (.iload_n 3), 1), (4, some (.invokevirtual 139), 3), (7, some (.ifCond .eq 5), 3), (10, some (.iconst 0), 1), (11, some (.ireturn), 1), (12, some (.aload_n 0), 1), (13, some (.iload_n 1), 1), (14, some (.invokevirtual 142), 3), (17, some (.aload_n 0), 1), (18, some (.getfield 11), 3), (21, some (.iload_n 1), 1), (22, some (.aaload), 1), (23, some (.iload_n 2), 1)] = true := by decide +kernel
theorem adX5_replace_1 : fd_rows (cX5_replace.data.toList.drop 24) 24 [(24, some (.iaload), 1), (25, some (.istore 4), 2), (27, some (.iload 4), 2), (29, some (.sipush (-10000)), 3), (32, some (.if_icmp .eq 11), 3), (35, some (.aload_n 0), 1), (36, some (.iload_n 1), 1), (37, some (.iload_n 2), 1), (38, some (.iload_n 3), 1), (39, some (.invokevirtual 132), 3), (42, some (.pop), 1), (43, some (.iload 4), 2), (45, some (.ireturn), 1)] = true := by decide +kernel
theorem dX5_replace_0 : decode cX5_replace 0 = .ok (.aload_n 0, 1) := fd_get adX5_replace_0 (k := 0) rfl
theorem dX5_replace_1 : decode cX5_replace 1 = .ok (.iload_n 1, 1) := fd_get adX5_replace_0 (k := 1) rfl
theorem dX5_replace_2 : decode cX5_replace 2 = .ok (.iload_n 2, 1) := fd_get adX5_replace_0 (k := 2) rfl
theorem dX5_replace_3 : decode cX5_replace 3 = .ok (.iload_n 3, 1) := fd_get adX5_replace_0 (k := 3) rfl
theorem dX5_replace_4 : decode cX5_replace 4 = .ok (.invokevirtual 139, 3) := fd_get adX5_replace_0 (k := 4) rfl
theorem dX5_replace_7 : decode cX5_replace 7 = .ok (.ifCond .eq 5, 3) := fd_get adX5_replace_0 (k := 5) rfl
theorem dX5_replace_10 : decode cX5_replace 10 = .ok (.iconst 0, 1) := fd_get adX5_replace_0 (k := 6) rfl
theorem dX5_replace_11 : decode cX5_replace 11 = .ok (.ireturn, 1) := fd_get adX5_replace_0 (k := 7) rfl
theorem dX5_replace_12 : decode cX5_replace 12 = .ok (.aload_n 0, 1) := fd_get adX5_replace_0 (k := 8) rfl
theorem dX5_replace_13 : decode cX5_replace 13 = .ok (.iload_n 1, 1) := fd_get adX5_replace_0 (k := 9) rfl
theorem dX5_replace_14 : decode cX5_replace 14 = .ok (.invokevirtual 142, 3) := fd_get adX5_replace_0 (k := 10) rfl
theorem dX5_replace_17 : decode cX5_replace 17 = .ok (.aload_n 0, 1) := fd_get adX5_replace_0 (k := 11) rfl
theorem dX5_replace_18 : decode cX5_replace 18 = .ok (.getfield 11, 3) := fd_get adX5_replace_0 (k := 12) rfl
theorem dX5_replace_21 : decode cX5_replace 21 = .ok (.iload_n 1, 1) := fd_get adX5_replace_0 (k := 13) rfl
theorem dX5_replace_22 : decode cX5_replace 22 = .ok (.aaload, 1) := fd_get adX5_replace_0 (k := 14) rfl
theorem dX5_replace_23 : decode cX5_replace 23 = .ok (.iload_n 2, 1) := fd_get adX5_replace_0 (k := 15) rfl
theorem dX5_replace_24 : decode cX5_replace 24 = .ok (.iaload, 1) := fd_get adX5_replace_1 (k := 0) rfl
theorem dX5_replace_25 : decode cX5_replace 25 = .ok (.istore 4, 2) := fd_get adX5_replace_1 (k := 1) rfl
theorem dX5_replace_27 : decode cX5_replace 27 = .ok (.iload 4, 2) := fd_get adX5_replace_1 (k := 2) rfl
theorem dX5_replace_29 : decode cX5_replace 29 = .ok (.sipush (-10000), 3) := fd_get adX5_replace_1 (k := 3) rfl
theorem dX5_replace_32 : decode cX5_replace 32 = .ok (.if_icmp .eq 11, 3) := fd_get adX5_replace_1 (k := 4) rfl
theorem dX5_replace_35 : decode cX5_replace 35 = .ok (.aload_n 0, 1) := fd_get adX5_replace_1 (k := 5) rfl
theorem dX5_replace_36 : decode cX5_replace 36 = .ok (.iload_n 1, 1) := fd_get adX5_replace_1 (k := 6) rfl
theorem dX5_replace_37 : decode cX5_replace 37 = .ok (.iload_n 2, 1) := fd_get adX5_replace_1 (k := 7) rfl
theorem dX5_replace_38 : decode cX5_replace 38 = .ok (.iload_n 3, 1) := fd_get adX5_replace_1 (k := 8) rfl
theorem dX5_replace_39 : decode cX5_replace 39 = .ok (.invokevirtual 132, 3) := fd_get adX5_replace_1 (k := 9) rfl
theorem dX5_replace_42 : decode cX5_replace 42 = .ok (.pop, 1) := fd_get adX5_replace_1 (k := 10) rfl
theorem dX5_replace_43 : decode cX5_replace 43 = .ok (.iload 4, 2) := fd_get adX5_replace_1 (k := 11) rfl
theorem dX5_replace_45 : decode cX5_replace 45 = .ok (.ireturn, 1) := fd_get adX5_replace_1 (k := 12) rfl
theorem mwsX5_swap_0 : ∀ w ∈ wsX5_swap_r1, w ∈ wsX5_swap := fun w h => (List.mem_cons_of_mem _ (List.mem_append_left _ (List.mem_append_left _ h)))
theorem mwsX5_swap_1 : ∀ w ∈ wsX5_swap_r2, w ∈ wsX5_swap := fun w h => (List.mem_cons_of_mem _ (List.mem_append_left _ (List.mem_append_right _ h)))
theorem mwsX5_swap_2 : ∀ w ∈ wsX50, w ∈ wsX5_swap := fun w h => (List.mem_cons_of_mem _ (List.mem_append_right _ h))
set_option maxRecDepth 20000 in
theorem ggX5_swap_X5_isBad_ : GoodIn wsX5_swap wsX5_isBad_ := goodIn_sub (List.forall_mem_cons.mpr ⟨(mwsX5_swap_0 _ (List.mem_of_getElem? (i := 5) rfl)), (List.forall_mem_cons.mpr ⟨(mwsX5_swap_0 _ (List.mem_of_getElem? (i := 6) rfl)), (List.forall_mem_cons.mpr ⟨(mwsX5_swap_0 _ (List.mem_of_getElem? (i := 7) rfl)), (List.forall_mem_cons.mpr ⟨(mwsX5_swap_0 _ (List.mem_of_getElem? (i := 4) rfl)), (tk_mem 16 _ (fun w h => (mwsX5_swap_0 _ (tkB_mem 8 16 h))) (List.forall_mem_cons.mpr ⟨(mwsX5_swap_1 _ (List.mem_of_getElem? (i := 0) rfl)), (List.forall_mem_cons.mpr ⟨(mwsX5_swap_1 _ (List.mem_of_getElem? (i := 1) rfl)), (List.forall_mem_cons.mpr ⟨(mwsX5_swap_1 _ (List.mem_of_getElem? (i := 2) rfl)), (tk_mem 13 _ (fun w h => (mwsX5_swap_2 _ (tkB_mem 0 13 h))) (fun _ h => absurd h List.not_mem_nil))⟩)⟩)⟩))⟩)⟩)⟩)⟩) (by decide +kernel)
set_option maxRecDepth 20000 in
theorem gX5_swap_X5_isBad_ : GoodIn wsX5_swap (wsV RX5 139 RX5 yX5_isBad_ wsX5_isBad_) := goodIn_app (goodIn_sub (tk_mem 4 _ (fun w h => (mwsX5_swap_0 _ (tkB_mem 1 4 h))) (fun _ h => absurd h List.not_mem_nil)) (by decide +kernel)) ggX5_swap_X5_isBad_
set_option maxRecDepth 20000 in
theorem ggX5_swap_X5_isNoValue : GoodIn wsX5_swap wsX5_isNoValue := goodIn_sub (List.forall_mem_cons.mpr ⟨(mwsX5_swap_1 _ (List.mem_of_getElem? (i := 2) rfl)), (List.forall_mem_cons.mpr ⟨(mwsX5_swap_0 _ (List.mem_of_getElem? (i := 9) rfl)), (List.forall_mem_cons.mpr ⟨(mwsX5_swap_0 _ (List.mem_of_getElem? (i := 10) rfl)), (List.forall_mem_cons.mpr ⟨(mwsX5_swap_0 _ (List.mem_of_getElem? (i := 4) rfl)), (List.forall_mem_cons.mpr ⟨(mwsX5_swap_0 _ (List.mem_of_getElem? (i := 11) rfl)), (fun _ h => absurd h List.not_mem_nil)⟩)⟩)⟩)⟩)⟩) (by decide +kernel)
set_option maxRecDepth 20000 in
theorem gX5_swap_X5_isNoValue : GoodIn wsX5_swap (va_wsS RX5 63 yX5_isNoValue wsX5_isNoValue) := goodIn_app (goodIn_sub (List.forall_mem_cons.mpr ⟨(mwsX5_swap_1 _ (List.mem_of_getElem? (i := 0) rfl)), (List.forall_mem_cons.mpr ⟨(mwsX5_swap_1 _ (List.mem_of_getElem? (i := 1) rfl)), (List.forall_mem_cons.mpr ⟨(mwsX5_swap_0 _ (List.mem_of_getElem? (i := 4) rfl)), (fun _ h => absurd h List.not_mem_nil)⟩)⟩)⟩) (by decide +kernel)) ggX5_swap_X5_isNoValue
set_option maxRecDepth 20000 in
theorem ggX5_swap_X5_refuse : GoodIn wsX5_swap wsX5_refuse := goodIn_sub (List.forall_mem_cons.mpr ⟨(mwsX5_swap_0 _ (List.mem_of_getElem? (i := 20) rfl)), (List.forall_mem_cons.mpr ⟨(mwsX5_swap_0 _ (List.mem_of_getElem? (i := 16) rfl)), (tk_mem 13 _ (fun w h => (mwsX5_swap_2 _ (tkB_mem 0 13 h))) (fun _ h => absurd h List.not_mem_nil))⟩)⟩) (by decide +kernel)
set_option maxRecDepth 20000 in
theorem gX5_swap_X5_refuse : GoodIn wsX5_swap (wsV RX5 45 RX5 yX5_refuse wsX5_refuse) := goodIn_app (goodIn_sub (List.forall_mem_cons.mpr ⟨(mwsX5_swap_0 _ (List.mem_of_getElem? (i := 17) rfl)), (List.forall_mem_cons.mpr ⟨(mwsX5_swap_0 _ (List.mem_of_getElem? (i := 18) rfl)), (List.forall_mem_cons.mpr ⟨(mwsX5_swap_0 _ (List.mem_of_getElem? (i := 19) rfl)), (List.forall_mem_cons.mpr ⟨(mwsX5_swap_0 _ (List.mem_of_getElem? (i := 4) rfl)), (fun _ h => absurd h List.not_mem_nil)⟩)⟩)⟩)⟩) (by decide +kernel)) ggX5_swap_X5_refuse
set_option maxRecDepth 20000 in
theorem ggX5_swap_X5_touch : GoodIn wsX5_swap wsX5_touch := goodIn_sub (List.forall_mem_cons.mpr ⟨(mwsX5_swap_1 _ (List.mem_of_getElem? (i := 6) rfl)), (List.forall_mem_cons.mpr ⟨(mwsX5_swap_1 _ (List.mem_of_getElem? (i := 7) rfl)), (List.forall_mem_cons.mpr ⟨(mwsX5_swap_1 _ (List.mem_of_getElem? (i := 8) rfl)), (tk_mem 13 _ (fun w h => (mwsX5_swap_2 _ (tkB_mem 0 13 h))) (fun _ h => absurd h List.not_mem_nil))⟩)⟩)⟩) (by decide +kernel)
set_option maxRecDepth 20000 in
theorem gX5_swap_X5_touch : GoodIn wsX5_swap (wsV RX5 142 RX5 yX5_touch wsX5_touch) := goodIn_app (goodIn_sub (List.forall_mem_cons.mpr ⟨(mwsX5_swap_1 _ (List.mem_of_getElem? (i := 3) rfl)), (List.forall_mem_cons.mpr ⟨(mwsX5_swap_1 _ (List.mem_of_getElem? (i := 4) rfl)), (List.forall_mem_cons.mpr ⟨(mwsX5_swap_1 _ (List.mem_of_getElem? (i := 5) rfl)), (List.forall_mem_cons.mpr ⟨(mwsX5_swap_0 _ (List.mem_of_getElem? (i := 4) rfl)), (fun _ h => absurd h List.not_mem_nil)⟩)⟩)⟩)⟩) (by decide +kernel)) ggX5_swap_X5_touch
set_option maxRecDepth 20000 in
theorem ggX5_swap_X5_set : GoodIn wsX5_swap wsX5_set := goodIn_sub (List.forall_mem_cons.mpr ⟨(mwsX5_swap_1 _ (List.mem_of_getElem? (i := 12) rfl)), (List.forall_mem_cons.mpr ⟨(mwsX5_swap_0 _ (List.mem_of_getElem? (i := 0) rfl)), (List.forall_mem_cons.mpr ⟨(mwsX5_swap_1 _ (List.mem_of_getElem? (i := 7) rfl)), (List.forall_mem_cons.mpr ⟨(mwsX5_swap_1 _ (List.mem_of_getElem? (i := 13) rfl)), (tk_mem 13 _ (fun w h => (mwsX5_swap_2 _ (tkB_mem 0 13 h))) (fun _ h => absurd h List.not_mem_nil))⟩)⟩)⟩)⟩) (by decide +kernel)
set_option maxRecDepth 20000 in
theorem gX5_swap_X5_set : GoodIn wsX5_swap (wsV RX5 132 RX5 yX5_set wsX5_set) := goodIn_app (goodIn_sub (List.forall_mem_cons.mpr ⟨(mwsX5_swap_1 _ (List.mem_of_getElem? (i := 9) rfl)), (List.forall_mem_cons.mpr ⟨(mwsX5_swap_1 _ (List.mem_of_getElem? (i := 10) rfl)), (List.forall_mem_cons.mpr ⟨(mwsX5_swap_1 _ (List.mem_of_getElem? (i := 11) rfl)), (List.forall_mem_cons.mpr ⟨(mwsX5_swap_0 _ (List.mem_of_getElem? (i := 4) rfl)), (fun _ h => absurd h List.not_mem_nil)⟩)⟩)⟩)⟩) (by decide +kernel)) ggX5_swap_X5_set
theorem adX5_swap_0 : fd_rows (cX5_swap.data.toList.drop 0) 0 [(0, some (.aload_n 0), 1), (1, some (.iload_n 1), 1), (2, some (.iload_n 2), 1), (3, some (.iload 4), 2), (5, some (.invokevirtual 139), 3), (8, some (.ifCond .ne 15), 3), (11, some (.aload_n 0), 1), (12, some (.iload_n 3), 1), (13, some (.invokestatic 63), 3), (16, some (.iconst 2), 1), (17, some (.invokevirtual 45), 3), (20, some (.ifCond .eq 5), 3), (23, some (.iconst 0), 1), (24, some (.ireturn), 1), (25, some (.aload_n 0), 1), (26, some (.iload_n 1), 1)] = true := by decide +kernel
theorem adX5_swap_1 : fd_rows (cX5_swap.data.toList.drop 27) 27 [(27, some (.invokevirtual 142), 3), (30, some (.aload_n 0), 1), (31, some (.getfield 11), 3), (34, some (.iload_n 1), 1), (35, some (.aaload), 1), (36, some (.iload_n 2), 1), (37, some (.iaload), 1), (38, some (.iload_n 3), 1), (39, some (.if_icmp .eq 5), 3), (42, some (.iconst 0), 1), (43, some (.ireturn), 1), (44, some (.aload_n 0), 1), (45, some (.iload_n 1), 1), (46, some (.iload_n 2), 1), (47, some (.iload 4), 2), (49, some (.invokevirtual 132), 3)] = true := by decide +kernel
theorem adX5_swap_2 : fd_rows (cX5_swap.data.toList.drop 52) 52 [(52, some (.pop), 1), (53, some (.iconst 1), 1), (54, some (.ireturn), 1)] = true := by decide +kernel
theorem dX5_swap_0 : decode cX5_swap 0 = .ok (.aload_n 0, 1) := fd_get adX5_swap_0 (k := 0) rfl
theorem dX5_swap_1 : decode cX5_swap 1 = .ok (.iload_n 1, 1) := fd_get adX5_swap_0 (k := 1) rfl
theorem dX5_swap_2 : decode cX5_swap 2 = .ok (.iload_n 2, 1) := fd_get adX5_swap_0 (k := 2) rfl
theorem dX5_swap_3 : decode cX5_swap 3 = .ok (.iload 4, 2) := fd_get adX5_swap_0 (k := 3) rfl
theorem dX5_swap_5 : decode cX5_swap 5 = .ok (.invokevirtual 139, 3) := fd_get adX5_swap_0 (k := 4) rfl
theorem dX5_swap_8 : decode cX5_swap 8 = .ok (.ifCond .ne 15, 3) := fd_get adX5_swap_0 (k := 5) rfl
theorem dX5_swap_11 : decode cX5_swap 11 = .ok (.aload_n 0, 1) := fd_get adX5_swap_0 (k := 6) rfl
theorem dX5_swap_12 : decode cX5_swap 12 = .ok (.iload_n 3, 1) := fd_get adX5_swap_0 (k := 7) rfl
theorem dX5_swap_13 : decode cX5_swap 13 = .ok (.invokestatic 63, 3) := fd_get adX5_swap_0 (k := 8) rfl
theorem dX5_swap_16 : decode cX5_swap 16 = .ok (.iconst 2, 1) := fd_get adX5_swap_0 (k := 9) rfl
theorem dX5_swap_17 : decode cX5_swap 17 = .ok (.invokevirtual 45, 3) := fd_get adX5_swap_0 (k := 10) rfl
theorem dX5_swap_20 : decode cX5_swap 20 = .ok (.ifCond .eq 5, 3) := fd_get adX5_swap_0 (k := 11) rfl
theorem dX5_swap_23 : decode cX5_swap 23 = .ok (.iconst 0, 1) := fd_get adX5_swap_0 (k := 12) rfl
theorem dX5_swap_24 : decode cX5_swap 24 = .ok (.ireturn, 1) := fd_get adX5_swap_0 (k := 13) rfl
theorem dX5_swap_25 : decode cX5_swap 25 = .ok (.aload_n 0, 1) := fd_get adX5_swap_0 (k := 14) rfl
theorem dX5_swap_26 : decode cX5_swap 26 = .ok (.iload_n 1, 1) := fd_get adX5_swap_0 (k := 15) rfl
theorem dX5_swap_27 : decode cX5_swap 27 = .ok (.invokevirtual 142, 3) := fd_get adX5_swap_1 (k := 0) rfl
theorem dX5_swap_30 : decode cX5_swap 30 = .ok (.aload_n 0, 1) := fd_get adX5_swap_1 (k := 1) rfl
theorem dX5_swap_31 : decode cX5_swap 31 = .ok (.getfield 11, 3) := fd_get adX5_swap_1 (k := 2) rfl
theorem dX5_swap_34 : decode cX5_swap 34 = .ok (.iload_n 1, 1) := fd_get adX5_swap_1 (k := 3) rfl
theorem dX5_swap_35 : decode cX5_swap 35 = .ok (.aaload, 1) := fd_get adX5_swap_1 (k := 4) rfl
theorem dX5_swap_36 : decode cX5_swap 36 = .ok (.iload_n 2, 1) := fd_get adX5_swap_1 (k := 5) rfl
theorem dX5_swap_37 : decode cX5_swap 37 = .ok (.iaload, 1) := fd_get adX5_swap_1 (k := 6) rfl
theorem dX5_swap_38 : decode cX5_swap 38 = .ok (.iload_n 3, 1) := fd_get adX5_swap_1 (k := 7) rfl
theorem dX5_swap_39 : decode cX5_swap 39 = .ok (.if_icmp .eq 5, 3) := fd_get adX5_swap_1 (k := 8) rfl
theorem dX5_swap_42 : decode cX5_swap 42 = .ok (.iconst 0, 1) := fd_get adX5_swap_1 (k := 9) rfl
theorem dX5_swap_43 : decode cX5_swap 43 = .ok (.ireturn, 1) := fd_get adX5_swap_1 (k := 10) rfl
theorem dX5_swap_44 : decode cX5_swap 44 = .ok (.aload_n 0, 1) := fd_get adX5_swap_1 (k := 11) rfl
theorem dX5_swap_45 : decode cX5_swap 45 = .ok (.iload_n 1, 1) := fd_get adX5_swap_1 (k := 12) rfl
theorem dX5_swap_46 : decode cX5_swap 46 = .ok (.iload_n 2, 1) := fd_get adX5_swap_1 (k := 13) rfl
theorem dX5_swap_47 : decode cX5_swap 47 = .ok (.iload 4, 2) := fd_get adX5_swap_1 (k := 14) rfl
theorem dX5_swap_49 : decode cX5_swap 49 = .ok (.invokevirtual 132, 3) := fd_get adX5_swap_1 (k := 15) rfl
theorem dX5_swap_52 : decode cX5_swap 52 = .ok (.pop, 1) := fd_get adX5_swap_2 (k := 0) rfl
theorem dX5_swap_53 : decode cX5_swap 53 = .ok (.iconst 1, 1) := fd_get adX5_swap_2 (k := 1) rfl
theorem dX5_swap_54 : decode cX5_swap 54 = .ok (.ireturn, 1) := fd_get adX5_swap_2 (k := 2) rfl
theorem mwsX5_strike_0 : ∀ w ∈ wsX5_strike_r1, w ∈ wsX5_strike := fun w h => (List.mem_cons_of_mem _ (List.mem_append_left _ (List.mem_append_left _ h)))
theorem mwsX5_strike_1 : ∀ w ∈ wsX5_strike_r2, w ∈ wsX5_strike := fun w h => (List.mem_cons_of_mem _ (List.mem_append_left _ (List.mem_append_right _ h)))
theorem mwsX5_strike_2 : ∀ w ∈ wsX50, w ∈ wsX5_strike := fun w h => (List.mem_cons_of_mem _ (List.mem_append_right _ h))
set_option maxRecDepth 20000 in
theorem ggX5_strike_X5_isBad : GoodIn wsX5_strike wsX5_isBad := goodIn_sub (List.forall_mem_cons.mpr ⟨(mwsX5_strike_0 _ (List.mem_of_getElem? (i := 4) rfl)), (List.forall_mem_cons.mpr ⟨(mwsX5_strike_0 _ (List.mem_of_getElem? (i := 5) rfl)), (List.forall_mem_cons.mpr ⟨(mwsX5_strike_0 _ (List.mem_of_getElem? (i := 6) rfl)), (List.forall_mem_cons.mpr ⟨(mwsX5_strike_0 _ (List.mem_of_getElem? (i := 3) rfl)), (tk_mem 16 _ (fun w h => (mwsX5_strike_0 _ (tkB_mem 7 16 h))) (tk_mem 13 _ (fun w h => (mwsX5_strike_2 _ (tkB_mem 0 13 h))) (fun _ h => absurd h List.not_mem_nil)))⟩)⟩)⟩)⟩) (by decide +kernel)
set_option maxRecDepth 20000 in
theorem gX5_strike_X5_isBad : GoodIn wsX5_strike (wsV RX5 146 RX5 yX5_isBad wsX5_isBad) := goodIn_app (goodIn_sub (tk_mem 4 _ (fun w h => (mwsX5_strike_0 _ (tkB_mem 0 4 h))) (fun _ h => absurd h List.not_mem_nil)) (by decide +kernel)) ggX5_strike_X5_isBad
set_option maxRecDepth 20000 in
theorem ggX5_strike_X5_touch : GoodIn wsX5_strike wsX5_touch := goodIn_sub (List.forall_mem_cons.mpr ⟨(mwsX5_strike_1 _ (List.mem_of_getElem? (i := 2) rfl)), (List.forall_mem_cons.mpr ⟨(mwsX5_strike_1 _ (List.mem_of_getElem? (i := 3) rfl)), (List.forall_mem_cons.mpr ⟨(mwsX5_strike_1 _ (List.mem_of_getElem? (i := 4) rfl)), (tk_mem 13 _ (fun w h => (mwsX5_strike_2 _ (tkB_mem 0 13 h))) (fun _ h => absurd h List.not_mem_nil))⟩)⟩)⟩) (by decide +kernel)
set_option maxRecDepth 20000 in
theorem gX5_strike_X5_touch : GoodIn wsX5_strike (wsV RX5 142 RX5 yX5_touch wsX5_touch) := goodIn_app (goodIn_sub (List.forall_mem_cons.mpr ⟨(mwsX5_strike_0 _ (List.mem_of_getElem? (i := 23) rfl)), (List.forall_mem_cons.mpr ⟨(mwsX5_strike_1 _ (List.mem_of_getElem? (i := 0) rfl)), (List.forall_mem_cons.mpr ⟨(mwsX5_strike_1 _ (List.mem_of_getElem? (i := 1) rfl)), (List.forall_mem_cons.mpr ⟨(mwsX5_strike_0 _ (List.mem_of_getElem? (i := 3) rfl)), (fun _ h => absurd h List.not_mem_nil)⟩)⟩)⟩)⟩) (by decide +kernel)) ggX5_strike_X5_touch
set_option maxRecDepth 20000 in
theorem ggX5_strike_X5_set : GoodIn wsX5_strike wsX5_set := goodIn_sub (List.forall_mem_cons.mpr ⟨(mwsX5_strike_1 _ (List.mem_of_getElem? (i := 8) rfl)), (List.forall_mem_cons.mpr ⟨(mwsX5_strike_1 _ (List.mem_of_getElem? (i := 9) rfl)), (List.forall_mem_cons.mpr ⟨(mwsX5_strike_1 _ (List.mem_of_getElem? (i := 3) rfl)), (List.forall_mem_cons.mpr ⟨(mwsX5_strike_1 _ (List.mem_of_getElem? (i := 10) rfl)), (tk_mem 13 _ (fun w h => (mwsX5_strike_2 _ (tkB_mem 0 13 h))) (fun _ h => absurd h List.not_mem_nil))⟩)⟩)⟩)⟩) (by decide +kernel)
set_option maxRecDepth 20000 in
theorem gX5_strike_X5_set : GoodIn wsX5_strike (wsV RX5 132 RX5 yX5_set wsX5_set) := goodIn_app (goodIn_sub (List.forall_mem_cons.mpr ⟨(mwsX5_strike_1 _ (List.mem_of_getElem? (i := 5) rfl)), (List.forall_mem_cons.mpr ⟨(mwsX5_strike_1 _ (List.mem_of_getElem? (i := 6) rfl)), (List.forall_mem_cons.mpr ⟨(mwsX5_strike_1 _ (List.mem_of_getElem? (i := 7) rfl)), (List.forall_mem_cons.mpr ⟨(mwsX5_strike_0 _ (List.mem_of_getElem? (i := 3) rfl)), (fun _ h => absurd h List.not_mem_nil)⟩)⟩)⟩)⟩) (by decide +kernel)) ggX5_strike_X5_set
theorem adX5_strike_0 : fd_rows (cX5_strike.data.toList.drop 0) 0 [(0, some (.aload_n 0), 1), (1, some (.iload_n 1), 1), (2, some (.iload_n 2), 1), (3, some (.invokevirtual 146), 3), (6, some (.ifCond .eq 5), 3), (9, some (.iconst 0), 1), (10, some (.ireturn), 1), (11, some (.aload_n 0), 1), (12, some (.iload_n 1), 1), (13, some (.invokevirtual 142), 3), (16, some (.aload_n 0), 1), (17, some (.iload_n 1), 1), (18, some (.iload_n 2), 1), (19, some (.sipush (-10000)), 3), (22, some (.invokevirtual 132), 3), (25, some (.ireturn), 1)] = true := by decide +kernel
theorem dX5_strike_0 : decode cX5_strike 0 = .ok (.aload_n 0, 1) := fd_get adX5_strike_0 (k := 0) rfl
theorem dX5_strike_1 : decode cX5_strike 1 = .ok (.iload_n 1, 1) := fd_get adX5_strike_0 (k := 1) rfl
theorem dX5_strike_2 : decode cX5_strike 2 = .ok (.iload_n 2, 1) := fd_get adX5_strike_0 (k := 2) rfl
theorem dX5_strike_3 : decode cX5_strike 3 = .ok (.invokevirtual 146, 3) := fd_get adX5_strike_0 (k := 3) rfl
theorem dX5_strike_6 : decode cX5_strike 6 = .ok (.ifCond .eq 5, 3) := fd_get adX5_strike_0 (k := 4) rfl
theorem dX5_strike_9 : decode cX5_strike 9 = .ok (.iconst 0, 1) := fd_get adX5_strike_0 (k := 5) rfl
theorem dX5_strike_10 : decode cX5_strike 10 = .ok (.ireturn, 1) := fd_get adX5_strike_0 (k := 6) rfl
theorem dX5_strike_11 : decode cX5_strike 11 = .ok (.aload_n 0, 1) := fd_get adX5_strike_0 (k := 7) rfl
theorem dX5_strike_12 : decode cX5_strike 12 = .ok (.iload_n 1, 1) := fd_get adX5_strike_0 (k := 8) rfl
theorem dX5_strike_13 : decode cX5_strike 13 = .ok (.invokevirtual 142, 3) := fd_get adX5_strike_0 (k := 9) rfl
theorem dX5_strike_16 : decode cX5_strike 16 = .ok (.aload_n 0, 1) := fd_get adX5_strike_0 (k := 10) rfl
theorem dX5_strike_17 : decode cX5_strike 17 = .ok (.iload_n 1, 1) := fd_get adX5_strike_0 (k := 11) rfl
theorem dX5_strike_18 : decode cX5_strike 18 = .ok (.iload_n 2, 1) := fd_get adX5_strike_0 (k := 12) rfl
theorem dX5_strike_19 : decode cX5_strike 19 = .ok (.sipush (-10000), 3) := fd_get adX5_strike_0 (k := 13) rfl
theorem dX5_strike_22 : decode cX5_strike 22 = .ok (.invokevirtual 132, 3) := fd_get adX5_strike_0 (k := 14) rfl
theorem dX5_strike_25 : decode cX5_strike 25 = .ok (.ireturn, 1) := fd_get adX5_strike_0 (k := 15) rfl
theorem mwsX5_strikePair_0 : ∀ w ∈ wsX5_strikePair_r1, w ∈ wsX5_strikePair := fun w h => (List.mem_cons_of_mem _ (List.mem_append_left _ (List.mem_append_left _ h)))
theorem mwsX5_strikePair_1 : ∀ w ∈ wsX5_strikePair_r2, w ∈ wsX5_strikePair := fun w h => (List.mem_cons_of_mem _ (List.mem_append_left _ (List.mem_append_right _ h)))
theorem mwsX5_strikePair_2 : ∀ w ∈ wsX50, w ∈ wsX5_strikePair := fun w h => (List.mem_cons_of_mem _ (List.mem_append_right _ h))
set_option maxRecDepth 20000 in
theorem ggX5_strikePair_X5_isBad_ : GoodIn wsX5_strikePair wsX5_isBad_ := goodIn_sub (List.forall_mem_cons.mpr ⟨(mwsX5_strikePair_0 _ (List.mem_of_getElem? (i := 5) rfl)), (List.forall_mem_cons.mpr ⟨(mwsX5_strikePair_0 _ (List.mem_of_getElem? (i := 6) rfl)), (List.forall_mem_cons.mpr ⟨(mwsX5_strikePair_0 _ (List.mem_of_getElem? (i := 7) rfl)), (List.forall_mem_cons.mpr ⟨(mwsX5_strikePair_0 _ (List.mem_of_getElem? (i := 4) rfl)), (tk_mem 16 _ (fun w h => (mwsX5_strikePair_0 _ (tkB_mem 8 16 h))) (List.forall_mem_cons.mpr ⟨(mwsX5_strikePair_1 _ (List.mem_of_getElem? (i := 0) rfl)), (List.forall_mem_cons.mpr ⟨(mwsX5_strikePair_1 _ (List.mem_of_getElem? (i := 1) rfl)), (List.forall_mem_cons.mpr ⟨(mwsX5_strikePair_1 _ (List.mem_of_getElem? (i := 2) rfl)), (tk_mem 13 _ (fun w h => (mwsX5_strikePair_2 _ (tkB_mem 0 13 h))) (fun _ h => absurd h List.not_mem_nil))⟩)⟩)⟩))⟩)⟩)⟩)⟩) (by decide +kernel)
set_option maxRecDepth 20000 in
theorem gX5_strikePair_X5_isBad_ : GoodIn wsX5_strikePair (wsV RX5 139 RX5 yX5_isBad_ wsX5_isBad_) := goodIn_app (goodIn_sub (tk_mem 4 _ (fun w h => (mwsX5_strikePair_0 _ (tkB_mem 1 4 h))) (fun _ h => absurd h List.not_mem_nil)) (by decide +kernel)) ggX5_strikePair_X5_isBad_
set_option maxRecDepth 20000 in
theorem ggX5_strikePair_X5_touch : GoodIn wsX5_strikePair wsX5_touch := goodIn_sub (List.forall_mem_cons.mpr ⟨(mwsX5_strikePair_1 _ (List.mem_of_getElem? (i := 6) rfl)), (List.forall_mem_cons.mpr ⟨(mwsX5_strikePair_1 _ (List.mem_of_getElem? (i := 7) rfl)), (List.forall_mem_cons.mpr ⟨(mwsX5_strikePair_1 _ (List.mem_of_getElem? (i := 8) rfl)), (tk_mem 13 _ (fun w h => (mwsX5_strikePair_2 _ (tkB_mem 0 13 h))) (fun _ h => absurd h List.not_mem_nil))⟩)⟩)⟩) (by decide +kernel)
set_option maxRecDepth 20000 in
theorem gX5_strikePair_X5_touch : GoodIn wsX5_strikePair (wsV RX5 142 RX5 yX5_touch wsX5_touch) := goodIn_app (goodIn_sub (List.forall_mem_cons.mpr ⟨(mwsX5_strikePair_1 _ (List.mem_of_getElem? (i := 3) rfl)), (List.forall_mem_cons.mpr ⟨(mwsX5_strikePair_1 _ (List.mem_of_getElem? (i := 4) rfl)), (List.forall_mem_cons.mpr ⟨(mwsX5_strikePair_1 _ (List.mem_of_getElem? (i := 5) rfl)), (List.forall_mem_cons.mpr ⟨(mwsX5_strikePair_0 _ (List.mem_of_getElem? (i := 4) rfl)), (fun _ h => absurd h List.not_mem_nil)⟩)⟩)⟩)⟩) (by decide +kernel)) ggX5_strikePair_X5_touch
set_option maxRecDepth 20000 in
theorem ggX5_strikePair_X5_set : GoodIn wsX5_strikePair wsX5_set := goodIn_sub (List.forall_mem_cons.mpr ⟨(mwsX5_strikePair_1 _ (List.mem_of_getElem? (i := 12) rfl)), (List.forall_mem_cons.mpr ⟨(mwsX5_strikePair_0 _ (List.mem_of_getElem? (i := 0) rfl)), (List.forall_mem_cons.mpr ⟨(mwsX5_strikePair_1 _ (List.mem_of_getElem? (i := 7) rfl)), (List.forall_mem_cons.mpr ⟨(mwsX5_strikePair_1 _ (List.mem_of_getElem? (i := 13) rfl)), (tk_mem 13 _ (fun w h => (mwsX5_strikePair_2 _ (tkB_mem 0 13 h))) (fun _ h => absurd h List.not_mem_nil))⟩)⟩)⟩)⟩) (by decide +kernel)
set_option maxRecDepth 20000 in
theorem gX5_strikePair_X5_set : GoodIn wsX5_strikePair (wsV RX5 132 RX5 yX5_set wsX5_set) := goodIn_app (goodIn_sub (List.forall_mem_cons.mpr ⟨(mwsX5_strikePair_1 _ (List.mem_of_getElem? (i := 9) rfl)), (List.forall_mem_cons.mpr ⟨(mwsX5_strikePair_1 _ (List.mem_of_getElem? (i := 10) rfl)), (List.forall_mem_cons.mpr ⟨(mwsX5_strikePair_1 _ (List.mem_of_getElem? (i := 11) rfl)), (List.forall_mem_cons.mpr ⟨(mwsX5_strikePair_0 _ (List.mem_of_getElem? (i := 4) rfl)), (fun _ h => absurd h List.not_mem_nil)⟩)⟩)⟩)⟩) (by decide +kernel)) ggX5_strikePair_X5_set
theorem adX5_strikePair_0 : fd_rows (cX5_strikePair.data.toList.drop 0) 0 [(0, some (.aload_n 0), 1), (1, some (.iload_n 1), 1), (2, some (.iload_n 2), 1), (3, some (.iload_n 3), 1), (4, some (.invokevirtual 139), 3), (7, some (.ifCond .eq 5), 3), (10, some (.iconst 0), 1), (11, some (.ireturn), 1), (12, some (.aload_n 0), 1), (13, some (.iload_n 1), 1), (14, some (.invokevirtual 142), 3), (17, some (.aload_n 0), 1), (18, some (.getfield 11), 3), (21, some (.iload_n 1), 1), (22, some (.aaload), 1), (23, some (.iload_n 2), 1)] = true := by decide +kernel
theorem adX5_strikePair_1 : fd_rows (cX5_strikePair.data.toList.drop 24) 24 [(24, some (.iaload), 1), (25, some (.iload_n 3), 1), (26, some (.if_icmp .eq 5), 3), (29, some (.iconst 0), 1), (30, some (.ireturn), 1), (31, some (.aload_n 0), 1), (32, some (.iload_n 1), 1), (33, some (.iload_n 2), 1), (34, some (.sipush (-10000)), 3), (37, some (.invokevirtual 132), 3), (40, some (.pop), 1), (41, some (.iconst 1), 1), (42, some (.ireturn), 1)] = true := by decide +kernel
theorem dX5_strikePair_0 : decode cX5_strikePair 0 = .ok (.aload_n 0, 1) := fd_get adX5_strikePair_0 (k := 0) rfl
theorem dX5_strikePair_1 : decode cX5_strikePair 1 = .ok (.iload_n 1, 1) := fd_get adX5_strikePair_0 (k := 1) rfl
theorem dX5_strikePair_2 : decode cX5_strikePair 2 = .ok (.iload_n 2, 1) := fd_get adX5_strikePair_0 (k := 2) rfl
theorem dX5_strikePair_3 : decode cX5_strikePair 3 = .ok (.iload_n 3, 1) := fd_get adX5_strikePair_0 (k := 3) rfl
theorem dX5_strikePair_4 : decode cX5_strikePair 4 = .ok (.invokevirtual 139, 3) := fd_get adX5_strikePair_0 (k := 4) rfl
theorem dX5_strikePair_7 : decode cX5_strikePair 7 = .ok (.ifCond .eq 5, 3) := fd_get adX5_strikePair_0 (k := 5) rfl
theorem dX5_strikePair_10 : decode cX5_strikePair 10 = .ok (.iconst 0, 1) := fd_get adX5_strikePair_0 (k := 6) rfl
theorem dX5_strikePair_11 : decode cX5_strikePair 11 = .ok (.ireturn, 1) := fd_get adX5_strikePair_0 (k := 7) rfl
theorem dX5_strikePair_12 : decode cX5_strikePair 12 = .ok (.aload_n 0, 1) := fd_get adX5_strikePair_0 (k := 8) rfl
theorem dX5_strikePair_13 : decode cX5_strikePair 13 = .ok (.iload_n 1, 1) := fd_get adX5_strikePair_0 (k := 9) rfl
theorem dX5_strikePair_14 : decode cX5_strikePair 14 = .ok (.invokevirtual 142, 3) := fd_get adX5_strikePair_0 (k := 10) rfl
theorem dX5_strikePair_17 : decode cX5_strikePair 17 = .ok (.aload_n 0, 1) := fd_get adX5_strikePair_0 (k := 11) rfl
theorem dX5_strikePair_18 : decode cX5_strikePair 18 = .ok (.getfield 11, 3) := fd_get adX5_strikePair_0 (k := 12) rfl
theorem dX5_strikePair_21 : decode cX5_strikePair 21 = .ok (.iload_n 1, 1) := fd_get adX5_strikePair_0 (k := 13) rfl
theorem dX5_strikePair_22 : decode cX5_strikePair 22 = .ok (.aaload, 1) := fd_get adX5_strikePair_0 (k := 14) rfl
theorem dX5_strikePair_23 : decode cX5_strikePair 23 = .ok (.iload_n 2, 1) := fd_get adX5_strikePair_0 (k := 15) rfl
theorem dX5_strikePair_24 : decode cX5_strikePair 24 = .ok (.iaload, 1) := fd_get adX5_strikePair_1 (k := 0) rfl
theorem dX5_strikePair_25 : decode cX5_strikePair 25 = .ok (.iload_n 3, 1) := fd_get adX5_strikePair_1 (k := 1) rfl
theorem dX5_strikePair_26 : decode cX5_strikePair 26 = .ok (.if_icmp .eq 5, 3) := fd_get adX5_strikePair_1 (k := 2) rfl
theorem dX5_strikePair_29 : decode cX5_strikePair 29 = .ok (.iconst 0, 1) := fd_get adX5_strikePair_1 (k := 3) rfl
theorem dX5_strikePair_30 : decode cX5_strikePair 30 = .ok (.ireturn, 1) := fd_get adX5_strikePair_1 (k := 4) rfl
theorem dX5_strikePair_31 : decode cX5_strikePair 31 = .ok (.aload_n 0, 1) := fd_get adX5_strikePair_1 (k := 5) rfl
theorem dX5_strikePair_32 : decode cX5_strikePair 32 = .ok (.iload_n 1, 1) := fd_get adX5_strikePair_1 (k := 6) rfl
theorem dX5_strikePair_33 : decode cX5_strikePair 33 = .ok (.iload_n 2, 1) := fd_get adX5_strikePair_1 (k := 7) rfl
theorem dX5_strikePair_34 : decode cX5_strikePair 34 = .ok (.sipush (-10000), 3) := fd_get adX5_strikePair_1 (k := 8) rfl
theorem dX5_strikePair_37 : decode cX5_strikePair 37 = .ok (.invokevirtual 132, 3) := fd_get adX5_strikePair_1 (k := 9) rfl
theorem dX5_strikePair_40 : decode cX5_strikePair 40 = .ok (.pop, 1) := fd_get adX5_strikePair_1 (k := 10) rfl
theorem dX5_strikePair_41 : decode cX5_strikePair 41 = .ok (.iconst 1, 1) := fd_get adX5_strikePair_1 (k := 11) rfl
theorem dX5_strikePair_42 : decode cX5_strikePair 42 = .ok (.ireturn, 1) := fd_get adX5_strikePair_1 (k := 12) rfl
theorem mwsX5_merge_0 : ∀ w ∈ wsX5_merge_r1, w ∈ wsX5_merge := fun w h => (List.mem_cons_of_mem _ (List.mem_append_left _ (List.mem_append_left _ h)))
theorem mwsX5_merge_1 : ∀ w ∈ wsX5_merge_r2, w ∈ wsX5_merge := fun w h => (List.mem_cons_of_mem _ (List.mem_append_left _ (List.mem_append_right _ h)))
theorem mwsX5_merge_2 : ∀ w ∈ wsX50, w ∈ wsX5_merge := fun w h => (List.mem_cons_of_mem _ (List.mem_append_right _ h))
set_option maxRecDepth 20000 in
theorem ggX5_merge_X5_isBad_ : GoodIn wsX5_merge wsX5_isBad_ := goodIn_sub (List.forall_mem_cons.mpr ⟨(mwsX5_merge_0 _ (List.mem_of_getElem? (i := 4) rfl)), (List.forall_mem_cons.mpr ⟨(mwsX5_merge_0 _ (List.mem_of_getElem? (i := 5) rfl)), (List.forall_mem_cons.mpr ⟨(mwsX5_merge_0 _ (List.mem_of_getElem? (i := 6) rfl)), (List.forall_mem_cons.mpr ⟨(mwsX5_merge_0 _ (List.mem_of_getElem? (i := 3) rfl)), (tk_mem 17 _ (fun w h => (mwsX5_merge_0 _ (tkB_mem 7 17 h))) (List.forall_mem_cons.mpr ⟨(mwsX5_merge_1 _ (List.mem_of_getElem? (i := 0) rfl)), (List.forall_mem_cons.mpr ⟨(mwsX5_merge_1 _ (List.mem_of_getElem? (i := 1) rfl)), (tk_mem 13 _ (fun w h => (mwsX5_merge_2 _ (tkB_mem 0 13 h))) (fun _ h => absurd h List.not_mem_nil))⟩)⟩))⟩)⟩)⟩)⟩) (by decide +kernel)
set_option maxRecDepth 20000 in
theorem gX5_merge_X5_isBad_ : GoodIn wsX5_merge (wsV RX5 139 RX5 yX5_isBad_ wsX5_isBad_) := goodIn_app (goodIn_sub (tk_mem 4 _ (fun w h => (mwsX5_merge_0 _ (tkB_mem 0 4 h))) (fun _ h => absurd h List.not_mem_nil)) (by decide +kernel)) ggX5_merge_X5_isBad_
set_option maxRecDepth 20000 in
theorem ggX5_merge_X5_touch : GoodIn wsX5_merge wsX5_touch := goodIn_sub (List.forall_mem_cons.mpr ⟨(mwsX5_merge_1 _ (List.mem_of_getElem? (i := 5) rfl)), (List.forall_mem_cons.mpr ⟨(mwsX5_merge_1 _ (List.mem_of_getElem? (i := 6) rfl)), (List.forall_mem_cons.mpr ⟨(mwsX5_merge_1 _ (List.mem_of_getElem? (i := 7) rfl)), (tk_mem 13 _ (fun w h => (mwsX5_merge_2 _ (tkB_mem 0 13 h))) (fun _ h => absurd h List.not_mem_nil))⟩)⟩)⟩) (by decide +kernel)
set_option maxRecDepth 20000 in
theorem gX5_merge_X5_touch : GoodIn wsX5_merge (wsV RX5 142 RX5 yX5_touch wsX5_touch) := goodIn_app (goodIn_sub (List.forall_mem_cons.mpr ⟨(mwsX5_merge_1 _ (List.mem_of_getElem? (i := 2) rfl)), (List.forall_mem_cons.mpr ⟨(mwsX5_merge_1 _ (List.mem_of_getElem? (i := 3) rfl)), (List.forall_mem_cons.mpr ⟨(mwsX5_merge_1 _ (List.mem_of_getElem? (i := 4) rfl)), (List.forall_mem_cons.mpr ⟨(mwsX5_merge_0 _ (List.mem_of_getElem? (i := 3) rfl)), (fun _ h => absurd h List.not_mem_nil)⟩)⟩)⟩)⟩) (by decide +kernel)) ggX5_merge_X5_touch
set_option maxRecDepth 20000 in
theorem ggX5_merge_X5_mergeOf : GoodIn wsX5_merge wsX5_mergeOf := goodIn_sub (tk_mem 4 _ (fun w h => (mwsX5_merge_1 _ (tkB_mem 11 4 h))) (List.forall_mem_cons.mpr ⟨(mwsX5_merge_0 _ (List.mem_of_getElem? (i := 3) rfl)), (tk_mem 5 _ (fun w h => (mwsX5_merge_1 _ (tkB_mem 15 5 h))) (List.forall_mem_cons.mpr ⟨(mwsX5_merge_1 _ (List.mem_of_getElem? (i := 6) rfl)), (List.forall_mem_cons.mpr ⟨(mwsX5_merge_1 _ (List.mem_of_getElem? (i := 20) rfl)), (tk_mem 13 _ (fun w h => (mwsX5_merge_2 _ (tkB_mem 0 13 h))) (fun _ h => absurd h List.not_mem_nil))⟩)⟩))⟩)) (by decide +kernel)
set_option maxRecDepth 20000 in
theorem gX5_merge_X5_mergeOf : GoodIn wsX5_merge (wsV RX5 149 RX5 yX5_mergeOf wsX5_mergeOf) := goodIn_app (goodIn_sub (List.forall_mem_cons.mpr ⟨(mwsX5_merge_1 _ (List.mem_of_getElem? (i := 8) rfl)), (List.forall_mem_cons.mpr ⟨(mwsX5_merge_1 _ (List.mem_of_getElem? (i := 9) rfl)), (List.forall_mem_cons.mpr ⟨(mwsX5_merge_1 _ (List.mem_of_getElem? (i := 10) rfl)), (List.forall_mem_cons.mpr ⟨(mwsX5_merge_0 _ (List.mem_of_getElem? (i := 3) rfl)), (fun _ h => absurd h List.not_mem_nil)⟩)⟩)⟩)⟩) (by decide +kernel)) ggX5_merge_X5_mergeOf
theorem adX5_merge_0 : fd_rows (cX5_merge.data.toList.drop 0) 0 [(0, some (.aload_n 0), 1), (1, some (.iload_n 1), 1), (2, some (.iload_n 2), 1), (3, some (.iload_n 3), 1), (4, some (.invokevirtual 139), 3), (7, some (.ifCond .eq 5), 3), (10, some (.iconst 0), 1), (11, some (.ireturn), 1), (12, some (.aload_n 0), 1), (13, some (.iload_n 1), 1), (14, some (.invokevirtual 142), 3), (17, some (.aload_n 0), 1), (18, some (.iload_n 1), 1), (19, some (.iload_n 2), 1), (20, some (.iload_n 3), 1), (21, some (.invokevirtual 149), 3)] = true := by decide +kernel
theorem adX5_merge_1 : fd_rows (cX5_merge.data.toList.drop 24) 24 [(24, some (.ireturn), 1)] = true := by decide +kernel
theorem dX5_merge_0 : decode cX5_merge 0 = .ok (.aload_n 0, 1) := fd_get adX5_merge_0 (k := 0) rfl
theorem dX5_merge_1 : decode cX5_merge 1 = .ok (.iload_n 1, 1) := fd_get adX5_merge_0 (k := 1) rfl
theorem dX5_merge_2 : decode cX5_merge 2 = .ok (.iload_n 2, 1) := fd_get adX5_merge_0 (k := 2) rfl
theorem dX5_merge_3 : decode cX5_merge 3 = .ok (.iload_n 3, 1) := fd_get adX5_merge_0 (k := 3) rfl
theorem dX5_merge_4 : decode cX5_merge 4 = .ok (.invokevirtual 139, 3) := fd_get adX5_merge_0 (k := 4) rfl
theorem dX5_merge_7 : decode cX5_merge 7 = .ok (.ifCond .eq 5, 3) := fd_get adX5_merge_0 (k := 5) rfl
theorem dX5_merge_10 : decode cX5_merge 10 = .ok (.iconst 0, 1) := fd_get adX5_merge_0 (k := 6) rfl
theorem dX5_merge_11 : decode cX5_merge 11 = .ok (.ireturn, 1) := fd_get adX5_merge_0 (k := 7) rfl
theorem dX5_merge_12 : decode cX5_merge 12 = .ok (.aload_n 0, 1) := fd_get adX5_merge_0 (k := 8) rfl
theorem dX5_merge_13 : decode cX5_merge 13 = .ok (.iload_n 1, 1) := fd_get adX5_merge_0 (k := 9) rfl
theorem dX5_merge_14 : decode cX5_merge 14 = .ok (.invokevirtual 142, 3) := fd_get adX5_merge_0 (k := 10) rfl
theorem dX5_merge_17 : decode cX5_merge 17 = .ok (.aload_n 0, 1) := fd_get adX5_merge_0 (k := 11) rfl
theorem dX5_merge_18 : decode cX5_merge 18 = .ok (.iload_n 1, 1) := fd_get adX5_merge_0 (k := 12) rfl
theorem dX5_merge_19 : decode cX5_merge 19 = .ok (.iload_n 2, 1) := fd_get adX5_merge_0 (k := 13) rfl
theorem dX5_merge_20 : decode cX5_merge 20 = .ok (.iload_n 3, 1) := fd_get adX5_merge_0 (k := 14) rfl
theorem dX5_merge_21 : decode cX5_merge 21 = .ok (.invokevirtual 149, 3) := fd_get adX5_merge_0 (k := 15) rfl
theorem dX5_merge_24 : decode cX5_merge 24 = .ok (.ireturn, 1) := fd_get adX5_merge_1 (k := 0) rfl
theorem mwsX5_grow_0 : ∀ w ∈ wsX5_grow_r1, w ∈ wsX5_grow := fun w h => (List.mem_cons_of_mem _ (List.mem_append_left _ (List.mem_append_left _ h)))
theorem mwsX5_grow_1 : ∀ w ∈ wsX5_grow_r2, w ∈ wsX5_grow := fun w h => (List.mem_cons_of_mem _ (List.mem_append_left _ (List.mem_append_right _ h)))
theorem mwsX5_grow_2 : ∀ w ∈ wsX50, w ∈ wsX5_grow := fun w h => (List.mem_cons_of_mem _ (List.mem_append_right _ h))
set_option maxRecDepth 20000 in
theorem ggX5_grow_X5_isBad : GoodIn wsX5_grow wsX5_isBad := goodIn_sub (List.forall_mem_cons.mpr ⟨(mwsX5_grow_0 _ (List.mem_of_getElem? (i := 5) rfl)), (List.forall_mem_cons.mpr ⟨(mwsX5_grow_0 _ (List.mem_of_getElem? (i := 6) rfl)), (List.forall_mem_cons.mpr ⟨(mwsX5_grow_0 _ (List.mem_of_getElem? (i := 7) rfl)), (List.forall_mem_cons.mpr ⟨(mwsX5_grow_0 _ (List.mem_of_getElem? (i := 4) rfl)), (tk_mem 16 _ (fun w h => (mwsX5_grow_0 _ (tkB_mem 8 16 h))) (tk_mem 13 _ (fun w h => (mwsX5_grow_2 _ (tkB_mem 0 13 h))) (fun _ h => absurd h List.not_mem_nil)))⟩)⟩)⟩)⟩) (by decide +kernel)
set_option maxRecDepth 20000 in
theorem gX5_grow_X5_isBad : GoodIn wsX5_grow (wsV RX5 146 RX5 yX5_isBad wsX5_isBad) := goodIn_app (goodIn_sub (tk_mem 4 _ (fun w h => (mwsX5_grow_0 _ (tkB_mem 1 4 h))) (fun _ h => absurd h List.not_mem_nil)) (by decide +kernel)) ggX5_grow_X5_isBad
set_option maxRecDepth 20000 in
theorem ggX5_grow_X5_touch : GoodIn wsX5_grow wsX5_touch := goodIn_sub (List.forall_mem_cons.mpr ⟨(mwsX5_grow_1 _ (List.mem_of_getElem? (i := 3) rfl)), (List.forall_mem_cons.mpr ⟨(mwsX5_grow_1 _ (List.mem_of_getElem? (i := 4) rfl)), (List.forall_mem_cons.mpr ⟨(mwsX5_grow_1 _ (List.mem_of_getElem? (i := 5) rfl)), (tk_mem 13 _ (fun w h => (mwsX5_grow_2 _ (tkB_mem 0 13 h))) (fun _ h => absurd h List.not_mem_nil))⟩)⟩)⟩) (by decide +kernel)
set_option maxRecDepth 20000 in
theorem gX5_grow_X5_touch : GoodIn wsX5_grow (wsV RX5 142 RX5 yX5_touch wsX5_touch) := goodIn_app (goodIn_sub (List.forall_mem_cons.mpr ⟨(mwsX5_grow_1 _ (List.mem_of_getElem? (i := 0) rfl)), (List.forall_mem_cons.mpr ⟨(mwsX5_grow_1 _ (List.mem_of_getElem? (i := 1) rfl)), (List.forall_mem_cons.mpr ⟨(mwsX5_grow_1 _ (List.mem_of_getElem? (i := 2) rfl)), (List.forall_mem_cons.mpr ⟨(mwsX5_grow_0 _ (List.mem_of_getElem? (i := 4) rfl)), (fun _ h => absurd h List.not_mem_nil)⟩)⟩)⟩)⟩) (by decide +kernel)) ggX5_grow_X5_touch
set_option maxRecDepth 20000 in
theorem ggX5_grow_X5_set : GoodIn wsX5_grow wsX5_set := goodIn_sub (List.forall_mem_cons.mpr ⟨(mwsX5_grow_1 _ (List.mem_of_getElem? (i := 9) rfl)), (List.forall_mem_cons.mpr ⟨(mwsX5_grow_0 _ (List.mem_of_getElem? (i := 0) rfl)), (List.forall_mem_cons.mpr ⟨(mwsX5_grow_1 _ (List.mem_of_getElem? (i := 4) rfl)), (List.forall_mem_cons.mpr ⟨(mwsX5_grow_1 _ (List.mem_of_getElem? (i := 10) rfl)), (tk_mem 13 _ (fun w h => (mwsX5_grow_2 _ (tkB_mem 0 13 h))) (fun _ h => absurd h List.not_mem_nil))⟩)⟩)⟩)⟩) (by decide +kernel)
set_option maxRecDepth 20000 in
theorem gX5_grow_X5_set : GoodIn wsX5_grow (wsV RX5 132 RX5 yX5_set wsX5_set) := goodIn_app (goodIn_sub (List.forall_mem_cons.mpr ⟨(mwsX5_grow_1 _ (List.mem_of_getElem? (i := 6) rfl)), (List.forall_mem_cons.mpr ⟨(mwsX5_grow_1 _ (List.mem_of_getElem? (i := 7) rfl)), (List.forall_mem_cons.mpr ⟨(mwsX5_grow_1 _ (List.mem_of_getElem? (i := 8) rfl)), (List.forall_mem_cons.mpr ⟨(mwsX5_grow_0 _ (List.mem_of_getElem? (i := 4) rfl)), (fun _ h => absurd h List.not_mem_nil)⟩)⟩)⟩)⟩) (by decide +kernel)) ggX5_grow_X5_set
theorem adX5_grow_0 : fd_rows (cX5_grow.data.toList.drop 0) 0 [(0, some (.aload_n 0), 1), (1, some (.iload_n 1), 1), (2, some (.iload_n 2), 1), (3, some (.invokevirtual 146), 3), (6, some (.ifCond .eq 5), 3), (9, some (.iconst 0), 1), (10, some (.ireturn), 1), (11, some (.aload_n 0), 1), (12, some (.iload_n 1), 1), (13, some (.invokevirtual 142), 3), (16, some (.aload_n 0), 1), (17, some (.getfield 11), 3), (20, some (.iload_n 1), 1), (21, some (.aaload), 1), (22, some (.iload_n 2), 1), (23, some (.iaload), 1)] = true := by decide +kernel
theorem adX5_grow_1 : fd_rows (cX5_grow.data.toList.drop 24) 24 [(24, some (.sipush (-10000)), 3), (27, some (.if_icmp .ne 23), 3), (30, some (.iload_n 2), 1), (31, some (.bipush 7), 2), (33, some (.irem), 1), (34, some (.ifCond .eq 16), 3), (37, some (.aload_n 0), 1), (38, some (.iload_n 1), 1), (39, some (.iload_n 2), 1), (40, some (.iconst 3), 1), (41, some (.iload_n 2), 1), (42, some (.imul), 1), (43, some (.bipush 50), 2), (45, some (.isub), 1), (46, some (.invokevirtual 132), 3), (49, some (.pop), 1)] = true := by decide +kernel
theorem adX5_grow_2 : fd_rows (cX5_grow.data.toList.drop 50) 50 [(50, some (.aload_n 0), 1), (51, some (.getfield 11), 3), (54, some (.iload_n 1), 1), (55, some (.aaload), 1), (56, some (.iload_n 2), 1), (57, some (.iaload), 1), (58, some (.ireturn), 1)] = true := by decide +kernel
theorem dX5_grow_0 : decode cX5_grow 0 = .ok (.aload_n 0, 1) := fd_get adX5_grow_0 (k := 0) rfl
theorem dX5_grow_1 : decode cX5_grow 1 = .ok (.iload_n 1, 1) := fd_get adX5_grow_0 (k := 1) rfl
theorem dX5_grow_2 : decode cX5_grow 2 = .ok (.iload_n 2, 1) := fd_get adX5_grow_0 (k := 2) rfl
theorem dX5_grow_3 : decode cX5_grow 3 = .ok (.invokevirtual 146, 3) := fd_get adX5_grow_0 (k := 3) rfl
theorem dX5_grow_6 : decode cX5_grow 6 = .ok (.ifCond .eq 5, 3) := fd_get adX5_grow_0 (k := 4) rfl
theorem dX5_grow_9 : decode cX5_grow 9 = .ok (.iconst 0, 1) := fd_get adX5_grow_0 (k := 5) rfl
theorem dX5_grow_10 : decode cX5_grow 10 = .ok (.ireturn, 1) := fd_get adX5_grow_0 (k := 6) rfl
theorem dX5_grow_11 : decode cX5_grow 11 = .ok (.aload_n 0, 1) := fd_get adX5_grow_0 (k := 7) rfl
theorem dX5_grow_12 : decode cX5_grow 12 = .ok (.iload_n 1, 1) := fd_get adX5_grow_0 (k := 8) rfl
theorem dX5_grow_13 : decode cX5_grow 13 = .ok (.invokevirtual 142, 3) := fd_get adX5_grow_0 (k := 9) rfl
theorem dX5_grow_16 : decode cX5_grow 16 = .ok (.aload_n 0, 1) := fd_get adX5_grow_0 (k := 10) rfl
theorem dX5_grow_17 : decode cX5_grow 17 = .ok (.getfield 11, 3) := fd_get adX5_grow_0 (k := 11) rfl
theorem dX5_grow_20 : decode cX5_grow 20 = .ok (.iload_n 1, 1) := fd_get adX5_grow_0 (k := 12) rfl
theorem dX5_grow_21 : decode cX5_grow 21 = .ok (.aaload, 1) := fd_get adX5_grow_0 (k := 13) rfl
theorem dX5_grow_22 : decode cX5_grow 22 = .ok (.iload_n 2, 1) := fd_get adX5_grow_0 (k := 14) rfl
theorem dX5_grow_23 : decode cX5_grow 23 = .ok (.iaload, 1) := fd_get adX5_grow_0 (k := 15) rfl
theorem dX5_grow_24 : decode cX5_grow 24 = .ok (.sipush (-10000), 3) := fd_get adX5_grow_1 (k := 0) rfl
theorem dX5_grow_27 : decode cX5_grow 27 = .ok (.if_icmp .ne 23, 3) := fd_get adX5_grow_1 (k := 1) rfl
theorem dX5_grow_30 : decode cX5_grow 30 = .ok (.iload_n 2, 1) := fd_get adX5_grow_1 (k := 2) rfl
theorem dX5_grow_31 : decode cX5_grow 31 = .ok (.bipush 7, 2) := fd_get adX5_grow_1 (k := 3) rfl
theorem dX5_grow_33 : decode cX5_grow 33 = .ok (.irem, 1) := fd_get adX5_grow_1 (k := 4) rfl
theorem dX5_grow_34 : decode cX5_grow 34 = .ok (.ifCond .eq 16, 3) := fd_get adX5_grow_1 (k := 5) rfl
theorem dX5_grow_37 : decode cX5_grow 37 = .ok (.aload_n 0, 1) := fd_get adX5_grow_1 (k := 6) rfl
theorem dX5_grow_38 : decode cX5_grow 38 = .ok (.iload_n 1, 1) := fd_get adX5_grow_1 (k := 7) rfl
theorem dX5_grow_39 : decode cX5_grow 39 = .ok (.iload_n 2, 1) := fd_get adX5_grow_1 (k := 8) rfl
theorem dX5_grow_40 : decode cX5_grow 40 = .ok (.iconst 3, 1) := fd_get adX5_grow_1 (k := 9) rfl
theorem dX5_grow_41 : decode cX5_grow 41 = .ok (.iload_n 2, 1) := fd_get adX5_grow_1 (k := 10) rfl
theorem dX5_grow_42 : decode cX5_grow 42 = .ok (.imul, 1) := fd_get adX5_grow_1 (k := 11) rfl
theorem dX5_grow_43 : decode cX5_grow 43 = .ok (.bipush 50, 2) := fd_get adX5_grow_1 (k := 12) rfl
theorem dX5_grow_45 : decode cX5_grow 45 = .ok (.isub, 1) := fd_get adX5_grow_1 (k := 13) rfl
theorem dX5_grow_46 : decode cX5_grow 46 = .ok (.invokevirtual 132, 3) := fd_get adX5_grow_1 (k := 14) rfl
theorem dX5_grow_49 : decode cX5_grow 49 = .ok (.pop, 1) := fd_get adX5_grow_1 (k := 15) rfl
theorem dX5_grow_50 : decode cX5_grow 50 = .ok (.aload_n 0, 1) := fd_get adX5_grow_2 (k := 0) rfl
theorem dX5_grow_51 : decode cX5_grow 51 = .ok (.getfield 11, 3) := fd_get adX5_grow_2 (k := 1) rfl
theorem dX5_grow_54 : decode cX5_grow 54 = .ok (.iload_n 1, 1) := fd_get adX5_grow_2 (k := 2) rfl
theorem dX5_grow_55 : decode cX5_grow 55 = .ok (.aaload, 1) := fd_get adX5_grow_2 (k := 3) rfl
theorem dX5_grow_56 : decode cX5_grow 56 = .ok (.iload_n 2, 1) := fd_get adX5_grow_2 (k := 4) rfl
theorem dX5_grow_57 : decode cX5_grow 57 = .ok (.iaload, 1) := fd_get adX5_grow_2 (k := 5) rfl
theorem dX5_grow_58 : decode cX5_grow 58 = .ok (.ireturn, 1) := fd_get adX5_grow_2 (k := 6) rfl
theorem mwsX5_halve_0 : ∀ w ∈ wsX5_halve_r1, w ∈ wsX5_halve := fun w h => (List.mem_cons_of_mem _ (List.mem_append_left _ (List.mem_append_left _ h)))
theorem mwsX5_halve_1 : ∀ w ∈ wsX5_halve_r2, w ∈ wsX5_halve := fun w h => (List.mem_cons_of_mem _ (List.mem_append_left _ (List.mem_append_right _ h)))
theorem mwsX5_halve_2 : ∀ w ∈ wsX50, w ∈ wsX5_halve := fun w h => (List.mem_cons_of_mem _ (List.mem_append_right _ h))
set_option maxRecDepth 20000 in
theorem ggX5_halve_X5_isBad : GoodIn wsX5_halve wsX5_isBad := goodIn_sub (List.forall_mem_cons.mpr ⟨(mwsX5_halve_0 _ (List.mem_of_getElem? (i := 5) rfl)), (List.forall_mem_cons.mpr ⟨(mwsX5_halve_0 _ (List.mem_of_getElem? (i := 6) rfl)), (List.forall_mem_cons.mpr ⟨(mwsX5_halve_0 _ (List.mem_of_getElem? (i := 7) rfl)), (List.forall_mem_cons.mpr ⟨(mwsX5_halve_0 _ (List.mem_of_getElem? (i := 4) rfl)), (tk_mem 16 _ (fun w h => (mwsX5_halve_0 _ (tkB_mem 8 16 h))) (tk_mem 13 _ (fun w h => (mwsX5_halve_2 _ (tkB_mem 0 13 h))) (fun _ h => absurd h List.not_mem_nil)))⟩)⟩)⟩)⟩) (by decide +kernel)
set_option maxRecDepth 20000 in
theorem gX5_halve_X5_isBad : GoodIn wsX5_halve (wsV RX5 146 RX5 yX5_isBad wsX5_isBad) := goodIn_app (goodIn_sub (tk_mem 4 _ (fun w h => (mwsX5_halve_0 _ (tkB_mem 1 4 h))) (fun _ h => absurd h List.not_mem_nil)) (by decide +kernel)) ggX5_halve_X5_isBad
set_option maxRecDepth 20000 in
theorem ggX5_halve_X5_touch : GoodIn wsX5_halve wsX5_touch := goodIn_sub (List.forall_mem_cons.mpr ⟨(mwsX5_halve_1 _ (List.mem_of_getElem? (i := 3) rfl)), (List.forall_mem_cons.mpr ⟨(mwsX5_halve_1 _ (List.mem_of_getElem? (i := 4) rfl)), (List.forall_mem_cons.mpr ⟨(mwsX5_halve_1 _ (List.mem_of_getElem? (i := 5) rfl)), (tk_mem 13 _ (fun w h => (mwsX5_halve_2 _ (tkB_mem 0 13 h))) (fun _ h => absurd h List.not_mem_nil))⟩)⟩)⟩) (by decide +kernel)
set_option maxRecDepth 20000 in
theorem gX5_halve_X5_touch : GoodIn wsX5_halve (wsV RX5 142 RX5 yX5_touch wsX5_touch) := goodIn_app (goodIn_sub (List.forall_mem_cons.mpr ⟨(mwsX5_halve_1 _ (List.mem_of_getElem? (i := 0) rfl)), (List.forall_mem_cons.mpr ⟨(mwsX5_halve_1 _ (List.mem_of_getElem? (i := 1) rfl)), (List.forall_mem_cons.mpr ⟨(mwsX5_halve_1 _ (List.mem_of_getElem? (i := 2) rfl)), (List.forall_mem_cons.mpr ⟨(mwsX5_halve_0 _ (List.mem_of_getElem? (i := 4) rfl)), (fun _ h => absurd h List.not_mem_nil)⟩)⟩)⟩)⟩) (by decide +kernel)) ggX5_halve_X5_touch
set_option maxRecDepth 20000 in
theorem ggX5_halve_X5_set : GoodIn wsX5_halve wsX5_set := goodIn_sub (List.forall_mem_cons.mpr ⟨(mwsX5_halve_1 _ (List.mem_of_getElem? (i := 9) rfl)), (List.forall_mem_cons.mpr ⟨(mwsX5_halve_0 _ (List.mem_of_getElem? (i := 0) rfl)), (List.forall_mem_cons.mpr ⟨(mwsX5_halve_1 _ (List.mem_of_getElem? (i := 4) rfl)), (List.forall_mem_cons.mpr ⟨(mwsX5_halve_1 _ (List.mem_of_getElem? (i := 10) rfl)), (tk_mem 13 _ (fun w h => (mwsX5_halve_2 _ (tkB_mem 0 13 h))) (fun _ h => absurd h List.not_mem_nil))⟩)⟩)⟩)⟩) (by decide +kernel)
set_option maxRecDepth 20000 in
theorem gX5_halve_X5_set : GoodIn wsX5_halve (wsV RX5 132 RX5 yX5_set wsX5_set) := goodIn_app (goodIn_sub (List.forall_mem_cons.mpr ⟨(mwsX5_halve_1 _ (List.mem_of_getElem? (i := 6) rfl)), (List.forall_mem_cons.mpr ⟨(mwsX5_halve_1 _ (List.mem_of_getElem? (i := 7) rfl)), (List.forall_mem_cons.mpr ⟨(mwsX5_halve_1 _ (List.mem_of_getElem? (i := 8) rfl)), (List.forall_mem_cons.mpr ⟨(mwsX5_halve_0 _ (List.mem_of_getElem? (i := 4) rfl)), (fun _ h => absurd h List.not_mem_nil)⟩)⟩)⟩)⟩) (by decide +kernel)) ggX5_halve_X5_set
theorem adX5_halve_0 : fd_rows (cX5_halve.data.toList.drop 0) 0 [(0, some (.aload_n 0), 1), (1, some (.iload_n 1), 1), (2, some (.iload_n 2), 1), (3, some (.invokevirtual 146), 3), (6, some (.ifCond .eq 5), 3), (9, some (.iconst 0), 1), (10, some (.ireturn), 1), (11, some (.aload_n 0), 1), (12, some (.iload_n 1), 1), (13, some (.invokevirtual 142), 3), (16, some (.aload_n 0), 1), (17, some (.getfield 11), 3), (20, some (.iload_n 1), 1), (21, some (.aaload), 1), (22, some (.iload_n 2), 1), (23, some (.iaload), 1)] = true := by decide +kernel
theorem adX5_halve_1 : fd_rows (cX5_halve.data.toList.drop 24) 24 [(24, some (.istore_n 3), 1), (25, some (.iload_n 3), 1), (26, some (.sipush (-10000)), 3), (29, some (.if_icmp .eq 25), 3), (32, some (.aload_n 0), 1), (33, some (.iload_n 1), 1), (34, some (.iload_n 2), 1), (35, some (.iload_n 3), 1), (36, some (.iconst 2), 1), (37, some (.idiv), 1), (38, some (.ifCond .ne 9), 3), (41, some (.sipush (-10000)), 3), (44, some (.goto 6), 3), (47, some (.iload_n 3), 1), (48, some (.iconst 2), 1), (49, some (.idiv), 1)] = true := by decide +kernel
theorem adX5_halve_2 : fd_rows (cX5_halve.data.toList.drop 50) 50 [(50, some (.invokevirtual 132), 3), (53, some (.pop), 1), (54, some (.aload_n 0), 1), (55, some (.getfield 11), 3), (58, some (.iload_n 1), 1), (59, some (.aaload), 1), (60, some (.iload_n 2), 1), (61, some (.iaload), 1), (62, some (.ireturn), 1)] = true := by decide +kernel
theorem dX5_halve_0 : decode cX5_halve 0 = .ok (.aload_n 0, 1) := fd_get adX5_halve_0 (k := 0) rfl
theorem dX5_halve_1 : decode cX5_halve 1 = .ok (.iload_n 1, 1) := fd_get adX5_halve_0 (k := 1) rfl
theorem dX5_halve_2 : decode cX5_halve 2 = .ok (.iload_n 2, 1) := fd_get adX5_halve_0 (k := 2) rfl
theorem dX5_halve_3 : decode cX5_halve 3 = .ok (.invokevirtual 146, 3) := fd_get adX5_halve_0 (k := 3) rfl
theorem dX5_halve_6 : decode cX5_halve 6 = .ok (.ifCond .eq 5, 3) := fd_get adX5_halve_0 (k := 4) rfl
theorem dX5_halve_9 : decode cX5_halve 9 = .ok (.iconst 0, 1) := fd_get adX5_halve_0 (k := 5) rfl
theorem dX5_halve_10 : decode cX5_halve 10 = .ok (.ireturn, 1) := fd_get adX5_halve_0 (k := 6) rfl
theorem dX5_halve_11 : decode cX5_halve 11 = .ok (.aload_n 0, 1) := fd_get adX5_halve_0 (k := 7) rfl
theorem dX5_halve_12 : decode cX5_halve 12 = .ok (.iload_n 1, 1) := fd_get adX5_halve_0 (k := 8) rfl
theorem dX5_halve_13 : decode cX5_halve 13 = .ok (.invokevirtual 142, 3) := fd_get adX5_halve_0 (k := 9) rfl
theorem dX5_halve_16 : decode cX5_halve 16 = .ok (.aload_n 0, 1) := fd_get adX5_halve_0 (k := 10) rfl
theorem dX5_halve_17 : decode cX5_halve 17 = .ok (.getfield 11, 3) := fd_get adX5_halve_0 (k := 11) rfl
theorem dX5_halve_20 : decode cX5_halve 20 = .ok (.iload_n 1, 1) := fd_get adX5_halve_0 (k := 12) rfl
theorem dX5_halve_21 : decode cX5_halve 21 = .ok (.aaload, 1) := fd_get adX5_halve_0 (k := 13) rfl
theorem dX5_halve_22 : decode cX5_halve 22 = .ok (.iload_n 2, 1) := fd_get adX5_halve_0 (k := 14) rfl
theorem dX5_halve_23 : decode cX5_halve 23 = .ok (.iaload, 1) := fd_get adX5_halve_0 (k := 15) rfl
theorem dX5_halve_24 : decode cX5_halve 24 = .ok (.istore_n 3, 1) := fd_get adX5_halve_1 (k := 0) rfl
theorem dX5_halve_25 : decode cX5_halve 25 = .ok (.iload_n 3, 1) := fd_get adX5_halve_1 (k := 1) rfl
theorem dX5_halve_26 : decode cX5_halve 26 = .ok (.sipush (-10000), 3) := fd_get adX5_halve_1 (k := 2) rfl
theorem dX5_halve_29 : decode cX5_halve 29 = .ok (.if_icmp .eq 25, 3) := fd_get adX5_halve_1 (k := 3) rfl
theorem dX5_halve_32 : decode cX5_halve 32 = .ok (.aload_n 0, 1) := fd_get adX5_halve_1 (k := 4) rfl
theorem dX5_halve_33 : decode cX5_halve 33 = .ok (.iload_n 1, 1) := fd_get adX5_halve_1 (k := 5) rfl
theorem dX5_halve_34 : decode cX5_halve 34 = .ok (.iload_n 2, 1) := fd_get adX5_halve_1 (k := 6) rfl
theorem dX5_halve_35 : decode cX5_halve 35 = .ok (.iload_n 3, 1) := fd_get adX5_halve_1 (k := 7) rfl
theorem dX5_halve_36 : decode cX5_halve 36 = .ok (.iconst 2, 1) := fd_get adX5_halve_1 (k := 8) rfl
theorem dX5_halve_37 : decode cX5_halve 37 = .ok (.idiv, 1) := fd_get adX5_halve_1 (k := 9) rfl
theorem dX5_halve_38 : decode cX5_halve 38 = .ok (.ifCond .ne 9, 3) := fd_get adX5_halve_1 (k := 10) rfl
theorem dX5_halve_41 : decode cX5_halve 41 = .ok (.sipush (-10000), 3) := fd_get adX5_halve_1 (k := 11) rfl
theorem dX5_halve_44 : decode cX5_halve 44 = .ok (.goto 6, 3) := fd_get adX5_halve_1 (k := 12) rfl
theorem dX5_halve_47 : decode cX5_halve 47 = .ok (.iload_n 3, 1) := fd_get adX5_halve_1 (k := 13) rfl
theorem dX5_halve_48 : decode cX5_halve 48 = .ok (.iconst 2, 1) := fd_get adX5_halve_1 (k := 14) rfl
theorem dX5_halve_49 : decode cX5_halve 49 = .ok (.idiv, 1) := fd_get adX5_halve_1 (k := 15) rfl
theorem dX5_halve_50 : decode cX5_halve 50 = .ok (.invokevirtual 132, 3) := fd_get adX5_halve_2 (k := 0) rfl
theorem dX5_halve_53 : decode cX5_halve 53 = .ok (.pop, 1) := fd_get adX5_halve_2 (k := 1) rfl
theorem dX5_halve_54 : decode cX5_halve 54 = .ok (.aload_n 0, 1) := fd_get adX5_halve_2 (k := 2) rfl
theorem dX5_halve_55 : decode cX5_halve 55 = .ok (.getfield 11, 3) := fd_get adX5_halve_2 (k := 3) rfl
theorem dX5_halve_58 : decode cX5_halve 58 = .ok (.iload_n 1, 1) := fd_get adX5_halve_2 (k := 4) rfl
theorem dX5_halve_59 : decode cX5_halve 59 = .ok (.aaload, 1) := fd_get adX5_halve_2 (k := 5) rfl
theorem dX5_halve_60 : decode cX5_halve 60 = .ok (.iload_n 2, 1) := fd_get adX5_halve_2 (k := 6) rfl
theorem dX5_halve_61 : decode cX5_halve 61 = .ok (.iaload, 1) := fd_get adX5_halve_2 (k := 7) rfl
theorem dX5_halve_62 : decode cX5_halve 62 = .ok (.ireturn, 1) := fd_get adX5_halve_2 (k := 8) rfl
theorem mwsX5_twice_0 : ∀ w ∈ wsX5_twice_r1, w ∈ wsX5_twice := fun w h => (List.mem_cons_of_mem _ (List.mem_append_left _ (List.mem_append_left _ h)))
theorem mwsX5_twice_1 : ∀ w ∈ wsX5_twice_r2, w ∈ wsX5_twice := fun w h => (List.mem_cons_of_mem _ (List.mem_append_left _ (List.mem_append_right _ h)))
theorem mwsX5_twice_2 : ∀ w ∈ wsX50, w ∈ wsX5_twice := fun w h => (List.mem_cons_of_mem _ (List.mem_append_right _ h))
set_option maxRecDepth 20000 in
theorem ggX5_twice_X5_isBad : GoodIn wsX5_twice wsX5_isBad := goodIn_sub (List.forall_mem_cons.mpr ⟨(mwsX5_twice_0 _ (List.mem_of_getElem? (i := 5) rfl)), (List.forall_mem_cons.mpr ⟨(mwsX5_twice_0 _ (List.mem_of_getElem? (i := 6) rfl)), (List.forall_mem_cons.mpr ⟨(mwsX5_twice_0 _ (List.mem_of_getElem? (i := 7) rfl)), (List.forall_mem_cons.mpr ⟨(mwsX5_twice_0 _ (List.mem_of_getElem? (i := 4) rfl)), (tk_mem 16 _ (fun w h => (mwsX5_twice_0 _ (tkB_mem 8 16 h))) (tk_mem 13 _ (fun w h => (mwsX5_twice_2 _ (tkB_mem 0 13 h))) (fun _ h => absurd h List.not_mem_nil)))⟩)⟩)⟩)⟩) (by decide +kernel)
set_option maxRecDepth 20000 in
theorem gX5_twice_X5_isBad : GoodIn wsX5_twice (wsV RX5 146 RX5 yX5_isBad wsX5_isBad) := goodIn_app (goodIn_sub (tk_mem 4 _ (fun w h => (mwsX5_twice_0 _ (tkB_mem 1 4 h))) (fun _ h => absurd h List.not_mem_nil)) (by decide +kernel)) ggX5_twice_X5_isBad
set_option maxRecDepth 20000 in
theorem ggX5_twice_X5_touch : GoodIn wsX5_twice wsX5_touch := goodIn_sub (List.forall_mem_cons.mpr ⟨(mwsX5_twice_1 _ (List.mem_of_getElem? (i := 3) rfl)), (List.forall_mem_cons.mpr ⟨(mwsX5_twice_1 _ (List.mem_of_getElem? (i := 4) rfl)), (List.forall_mem_cons.mpr ⟨(mwsX5_twice_1 _ (List.mem_of_getElem? (i := 5) rfl)), (tk_mem 13 _ (fun w h => (mwsX5_twice_2 _ (tkB_mem 0 13 h))) (fun _ h => absurd h List.not_mem_nil))⟩)⟩)⟩) (by decide +kernel)
set_option maxRecDepth 20000 in
theorem gX5_twice_X5_touch : GoodIn wsX5_twice (wsV RX5 142 RX5 yX5_touch wsX5_touch) := goodIn_app (goodIn_sub (List.forall_mem_cons.mpr ⟨(mwsX5_twice_1 _ (List.mem_of_getElem? (i := 0) rfl)), (List.forall_mem_cons.mpr ⟨(mwsX5_twice_1 _ (List.mem_of_getElem? (i := 1) rfl)), (List.forall_mem_cons.mpr ⟨(mwsX5_twice_1 _ (List.mem_of_getElem? (i := 2) rfl)), (List.forall_mem_cons.mpr ⟨(mwsX5_twice_0 _ (List.mem_of_getElem? (i := 4) rfl)), (fun _ h => absurd h List.not_mem_nil)⟩)⟩)⟩)⟩) (by decide +kernel)) ggX5_twice_X5_touch
set_option maxRecDepth 20000 in
theorem ggX5_twice_X5_isIn : GoodIn wsX5_twice wsX5_isIn := goodIn_sub (List.forall_mem_cons.mpr ⟨(mwsX5_twice_0 _ (List.mem_of_getElem? (i := 11) rfl)), (fun _ h => absurd h List.not_mem_nil)⟩) (by decide +kernel)
set_option maxRecDepth 20000 in
theorem gX5_twice_X5_isIn : GoodIn wsX5_twice (va_wsS RX5 49 yX5_isIn wsX5_isIn) := goodIn_app (goodIn_sub (List.forall_mem_cons.mpr ⟨(mwsX5_twice_0 _ (List.mem_of_getElem? (i := 9) rfl)), (List.forall_mem_cons.mpr ⟨(mwsX5_twice_0 _ (List.mem_of_getElem? (i := 10) rfl)), (List.forall_mem_cons.mpr ⟨(mwsX5_twice_0 _ (List.mem_of_getElem? (i := 4) rfl)), (fun _ h => absurd h List.not_mem_nil)⟩)⟩)⟩) (by decide +kernel)) ggX5_twice_X5_isIn
set_option maxRecDepth 20000 in
theorem ggX5_twice_X5_set : GoodIn wsX5_twice wsX5_set := goodIn_sub (List.forall_mem_cons.mpr ⟨(mwsX5_twice_1 _ (List.mem_of_getElem? (i := 9) rfl)), (List.forall_mem_cons.mpr ⟨(mwsX5_twice_0 _ (List.mem_of_getElem? (i := 0) rfl)), (List.forall_mem_cons.mpr ⟨(mwsX5_twice_1 _ (List.mem_of_getElem? (i := 4) rfl)), (List.forall_mem_cons.mpr ⟨(mwsX5_twice_1 _ (List.mem_of_getElem? (i := 10) rfl)), (tk_mem 13 _ (fun w h => (mwsX5_twice_2 _ (tkB_mem 0 13 h))) (fun _ h => absurd h List.not_mem_nil))⟩)⟩)⟩)⟩) (by decide +kernel)
set_option maxRecDepth 20000 in
theorem gX5_twice_X5_set : GoodIn wsX5_twice (wsV RX5 132 RX5 yX5_set wsX5_set) := goodIn_app (goodIn_sub (List.forall_mem_cons.mpr ⟨(mwsX5_twice_1 _ (List.mem_of_getElem? (i := 6) rfl)), (List.forall_mem_cons.mpr ⟨(mwsX5_twice_1 _ (List.mem_of_getElem? (i := 7) rfl)), (List.forall_mem_cons.mpr ⟨(mwsX5_twice_1 _ (List.mem_of_getElem? (i := 8) rfl)), (List.forall_mem_cons.mpr ⟨(mwsX5_twice_0 _ (List.mem_of_getElem? (i := 4) rfl)), (fun _ h => absurd h List.not_mem_nil)⟩)⟩)⟩)⟩) (by decide +kernel)) ggX5_twice_X5_set
theorem adX5_twice_0 : fd_rows (cX5_twice.data.toList.drop 0) 0 [(0, some (.aload_n 0), 1), (1, some (.iload_n 1), 1), (2, some (.iload_n 2), 1), (3, some (.invokevirtual 146), 3), (6, some (.ifCond .eq 5), 3), (9, some (.iconst 0), 1), (10, some (.ireturn), 1), (11, some (.aload_n 0), 1), (12, some (.iload_n 1), 1), (13, some (.invokevirtual 142), 3), (16, some (.aload_n 0), 1), (17, some (.getfield 11), 3), (20, some (.iload_n 1), 1), (21, some (.aaload), 1), (22, some (.iload_n 2), 1), (23, some (.iaload), 1)] = true := by decide +kernel
theorem adX5_twice_1 : fd_rows (cX5_twice.data.toList.drop 24) 24 [(24, some (.istore_n 3), 1), (25, some (.aload_n 0), 1), (26, some (.iload_n 1), 1), (27, some (.iload_n 2), 1), (28, some (.iload_n 3), 1), (29, some (.sipush (-10000)), 3), (32, some (.if_icmp .ne 7), 3), (35, some (.iload_n 2), 1), (36, some (.goto 25), 3), (39, some (.iload_n 3), 1), (40, some (.sipush (-500)), 3), (43, some (.sipush 500), 3), (46, some (.invokestatic 49), 3), (49, some (.ifCond .eq 9), 3), (52, some (.iconst 2), 1), (53, some (.iload_n 3), 1)] = true := by decide +kernel
theorem adX5_twice_2 : fd_rows (cX5_twice.data.toList.drop 54) 54 [(54, some (.imul), 1), (55, some (.goto 6), 3), (58, some (.sipush (-10000)), 3), (61, some (.invokevirtual 132), 3), (64, some (.pop), 1), (65, some (.aload_n 0), 1), (66, some (.getfield 11), 3), (69, some (.iload_n 1), 1), (70, some (.aaload), 1), (71, some (.iload_n 2), 1), (72, some (.iaload), 1), (73, some (.ireturn), 1)] = true := by decide +kernel
theorem dX5_twice_0 : decode cX5_twice 0 = .ok (.aload_n 0, 1) := fd_get adX5_twice_0 (k := 0) rfl
theorem dX5_twice_1 : decode cX5_twice 1 = .ok (.iload_n 1, 1) := fd_get adX5_twice_0 (k := 1) rfl
theorem dX5_twice_2 : decode cX5_twice 2 = .ok (.iload_n 2, 1) := fd_get adX5_twice_0 (k := 2) rfl
theorem dX5_twice_3 : decode cX5_twice 3 = .ok (.invokevirtual 146, 3) := fd_get adX5_twice_0 (k := 3) rfl
theorem dX5_twice_6 : decode cX5_twice 6 = .ok (.ifCond .eq 5, 3) := fd_get adX5_twice_0 (k := 4) rfl
theorem dX5_twice_9 : decode cX5_twice 9 = .ok (.iconst 0, 1) := fd_get adX5_twice_0 (k := 5) rfl
theorem dX5_twice_10 : decode cX5_twice 10 = .ok (.ireturn, 1) := fd_get adX5_twice_0 (k := 6) rfl
theorem dX5_twice_11 : decode cX5_twice 11 = .ok (.aload_n 0, 1) := fd_get adX5_twice_0 (k := 7) rfl
theorem dX5_twice_12 : decode cX5_twice 12 = .ok (.iload_n 1, 1) := fd_get adX5_twice_0 (k := 8) rfl
theorem dX5_twice_13 : decode cX5_twice 13 = .ok (.invokevirtual 142, 3) := fd_get adX5_twice_0 (k := 9) rfl
theorem dX5_twice_16 : decode cX5_twice 16 = .ok (.aload_n 0, 1) := fd_get adX5_twice_0 (k := 10) rfl
theorem dX5_twice_17 : decode cX5_twice 17 = .ok (.getfield 11, 3) := fd_get adX5_twice_0 (k := 11) rfl
theorem dX5_twice_20 : decode cX5_twice 20 = .ok (.iload_n 1, 1) := fd_get adX5_twice_0 (k := 12) rfl
theorem dX5_twice_21 : decode cX5_twice 21 = .ok (.aaload, 1) := fd_get adX5_twice_0 (k := 13) rfl
theorem dX5_twice_22 : decode cX5_twice 22 = .ok (.iload_n 2, 1) := fd_get adX5_twice_0 (k := 14) rfl
theorem dX5_twice_23 : decode cX5_twice 23 = .ok (.iaload, 1) := fd_get adX5_twice_0 (k := 15) rfl
theorem dX5_twice_24 : decode cX5_twice 24 = .ok (.istore_n 3, 1) := fd_get adX5_twice_1 (k := 0) rfl
theorem dX5_twice_25 : decode cX5_twice 25 = .ok (.aload_n 0, 1) := fd_get adX5_twice_1 (k := 1) rfl
theorem dX5_twice_26 : decode cX5_twice 26 = .ok (.iload_n 1, 1) := fd_get adX5_twice_1 (k := 2) rfl
theorem dX5_twice_27 : decode cX5_twice 27 = .ok (.iload_n 2, 1) := fd_get adX5_twice_1 (k := 3) rfl
theorem dX5_twice_28 : decode cX5_twice 28 = .ok (.iload_n 3, 1) := fd_get adX5_twice_1 (k := 4) rfl
theorem dX5_twice_29 : decode cX5_twice 29 = .ok (.sipush (-10000), 3) := fd_get adX5_twice_1 (k := 5) rfl
theorem dX5_twice_32 : decode cX5_twice 32 = .ok (.if_icmp .ne 7, 3) := fd_get adX5_twice_1 (k := 6) rfl
theorem dX5_twice_35 : decode cX5_twice 35 = .ok (.iload_n 2, 1) := fd_get adX5_twice_1 (k := 7) rfl
theorem dX5_twice_36 : decode cX5_twice 36 = .ok (.goto 25, 3) := fd_get adX5_twice_1 (k := 8) rfl
theorem dX5_twice_39 : decode cX5_twice 39 = .ok (.iload_n 3, 1) := fd_get adX5_twice_1 (k := 9) rfl
theorem dX5_twice_40 : decode cX5_twice 40 = .ok (.sipush (-500), 3) := fd_get adX5_twice_1 (k := 10) rfl
theorem dX5_twice_43 : decode cX5_twice 43 = .ok (.sipush 500, 3) := fd_get adX5_twice_1 (k := 11) rfl
theorem dX5_twice_46 : decode cX5_twice 46 = .ok (.invokestatic 49, 3) := fd_get adX5_twice_1 (k := 12) rfl
theorem dX5_twice_49 : decode cX5_twice 49 = .ok (.ifCond .eq 9, 3) := fd_get adX5_twice_1 (k := 13) rfl
theorem dX5_twice_52 : decode cX5_twice 52 = .ok (.iconst 2, 1) := fd_get adX5_twice_1 (k := 14) rfl
theorem dX5_twice_53 : decode cX5_twice 53 = .ok (.iload_n 3, 1) := fd_get adX5_twice_1 (k := 15) rfl
theorem dX5_twice_54 : decode cX5_twice 54 = .ok (.imul, 1) := fd_get adX5_twice_2 (k := 0) rfl
theorem dX5_twice_55 : decode cX5_twice 55 = .ok (.goto 6, 3) := fd_get adX5_twice_2 (k := 1) rfl
theorem dX5_twice_58 : decode cX5_twice 58 = .ok (.sipush (-10000), 3) := fd_get adX5_twice_2 (k := 2) rfl
theorem dX5_twice_61 : decode cX5_twice 61 = .ok (.invokevirtual 132, 3) := fd_get adX5_twice_2 (k := 3) rfl
theorem dX5_twice_64 : decode cX5_twice 64 = .ok (.pop, 1) := fd_get adX5_twice_2 (k := 4) rfl
theorem dX5_twice_65 : decode cX5_twice 65 = .ok (.aload_n 0, 1) := fd_get adX5_twice_2 (k := 5) rfl
theorem dX5_twice_66 : decode cX5_twice 66 = .ok (.getfield 11, 3) := fd_get adX5_twice_2 (k := 6) rfl
theorem dX5_twice_69 : decode cX5_twice 69 = .ok (.iload_n 1, 1) := fd_get adX5_twice_2 (k := 7) rfl
theorem dX5_twice_70 : decode cX5_twice 70 = .ok (.aaload, 1) := fd_get adX5_twice_2 (k := 8) rfl
theorem dX5_twice_71 : decode cX5_twice 71 = .ok (.iload_n 2, 1) := fd_get adX5_twice_2 (k := 9) rfl
theorem dX5_twice_72 : decode cX5_twice 72 = .ok (.iaload, 1) := fd_get adX5_twice_2 (k := 10) rfl
theorem dX5_twice_73 : decode cX5_twice 73 = .ok (.ireturn, 1) := fd_get adX5_twice_2 (k := 11) rfl
theorem mwsX5_poll_0 : ∀ w ∈ wsX5_poll_r1, w ∈ wsX5_poll := fun w h => (List.mem_cons_of_mem _ (List.mem_append_left _ (List.mem_append_left _ h)))
theorem mwsX5_poll_1 : ∀ w ∈ wsX5_poll_r2, w ∈ wsX5_poll := fun w h => (List.mem_cons_of_mem _ (List.mem_append_left _ (List.mem_append_right _ (List.mem_append_left _ h))))
theorem mwsX5_poll_2 : ∀ w ∈ wsX5_poll_r3, w ∈ wsX5_poll := fun w h => (List.mem_cons_of_mem _ (List.mem_append_left _ (List.mem_append_right _ (List.mem_append_right _ h))))
theorem mwsX5_poll_3 : ∀ w ∈ wsX50, w ∈ wsX5_poll := fun w h => (List.mem_cons_of_mem _ (List.mem_append_right _ h))
set_option maxRecDepth 20000 in
theorem ggX5_poll_X5_isNoBook : GoodIn wsX5_poll wsX5_isNoBook := goodIn_sub (List.forall_mem_cons.mpr ⟨(mwsX5_poll_0 _ (List.mem_of_getElem? (i := 3) rfl)), (List.forall_mem_cons.mpr ⟨(mwsX5_poll_0 _ (List.mem_of_getElem? (i := 4) rfl)), (List.forall_mem_cons.mpr ⟨(mwsX5_poll_0 _ (List.mem_of_getElem? (i := 5) rfl)), (List.forall_mem_cons.mpr ⟨(mwsX5_poll_0 _ (List.mem_of_getElem? (i := 2) rfl)), (List.forall_mem_cons.mpr ⟨(mwsX5_poll_0 _ (List.mem_of_getElem? (i := 6) rfl)), (fun _ h => absurd h List.not_mem_nil)⟩)⟩)⟩)⟩)⟩) (by decide +kernel)
set_option maxRecDepth 20000 in
theorem gX5_poll_X5_isNoBook : GoodIn wsX5_poll (va_wsS RX5 53 yX5_isNoBook wsX5_isNoBook) := goodIn_app (goodIn_sub (List.forall_mem_cons.mpr ⟨(mwsX5_poll_0 _ (List.mem_of_getElem? (i := 0) rfl)), (List.forall_mem_cons.mpr ⟨(mwsX5_poll_0 _ (List.mem_of_getElem? (i := 1) rfl)), (List.forall_mem_cons.mpr ⟨(mwsX5_poll_0 _ (List.mem_of_getElem? (i := 2) rfl)), (fun _ h => absurd h List.not_mem_nil)⟩)⟩)⟩) (by decide +kernel)) ggX5_poll_X5_isNoBook
set_option maxRecDepth 20000 in
theorem ggX5_poll_X5_start : GoodIn wsX5_poll wsX5_start := goodIn_sub (tk_mem 5 _ (fun w h => (mwsX5_poll_0 _ (tkB_mem 10 5 h))) (List.forall_mem_cons.mpr ⟨(mwsX5_poll_0 _ (List.mem_of_getElem? (i := 2) rfl)), (List.forall_mem_cons.mpr ⟨(mwsX5_poll_0 _ (List.mem_of_getElem? (i := 15) rfl)), (tk_mem 13 _ (fun w h => (mwsX5_poll_3 _ (tkB_mem 0 13 h))) (fun _ h => absurd h List.not_mem_nil))⟩)⟩)) (by decide +kernel)
set_option maxRecDepth 20000 in
theorem gX5_poll_X5_start : GoodIn wsX5_poll (wsV RX5 57 RX5 yX5_start wsX5_start) := goodIn_app (goodIn_sub (List.forall_mem_cons.mpr ⟨(mwsX5_poll_0 _ (List.mem_of_getElem? (i := 7) rfl)), (List.forall_mem_cons.mpr ⟨(mwsX5_poll_0 _ (List.mem_of_getElem? (i := 8) rfl)), (List.forall_mem_cons.mpr ⟨(mwsX5_poll_0 _ (List.mem_of_getElem? (i := 9) rfl)), (List.forall_mem_cons.mpr ⟨(mwsX5_poll_0 _ (List.mem_of_getElem? (i := 2) rfl)), (fun _ h => absurd h List.not_mem_nil)⟩)⟩)⟩)⟩) (by decide +kernel)) ggX5_poll_X5_start
set_option maxRecDepth 20000 in
theorem ggX5_poll_X5_touch : GoodIn wsX5_poll wsX5_touch := goodIn_sub (List.forall_mem_cons.mpr ⟨(mwsX5_poll_0 _ (List.mem_of_getElem? (i := 19) rfl)), (List.forall_mem_cons.mpr ⟨(mwsX5_poll_0 _ (List.mem_of_getElem? (i := 20) rfl)), (List.forall_mem_cons.mpr ⟨(mwsX5_poll_0 _ (List.mem_of_getElem? (i := 21) rfl)), (tk_mem 13 _ (fun w h => (mwsX5_poll_3 _ (tkB_mem 0 13 h))) (fun _ h => absurd h List.not_mem_nil))⟩)⟩)⟩) (by decide +kernel)
set_option maxRecDepth 20000 in
theorem gX5_poll_X5_touch : GoodIn wsX5_poll (wsV RX5 142 RX5 yX5_touch wsX5_touch) := goodIn_app (goodIn_sub (List.forall_mem_cons.mpr ⟨(mwsX5_poll_0 _ (List.mem_of_getElem? (i := 16) rfl)), (List.forall_mem_cons.mpr ⟨(mwsX5_poll_0 _ (List.mem_of_getElem? (i := 17) rfl)), (List.forall_mem_cons.mpr ⟨(mwsX5_poll_0 _ (List.mem_of_getElem? (i := 18) rfl)), (List.forall_mem_cons.mpr ⟨(mwsX5_poll_0 _ (List.mem_of_getElem? (i := 2) rfl)), (fun _ h => absurd h List.not_mem_nil)⟩)⟩)⟩)⟩) (by decide +kernel)) ggX5_poll_X5_touch
set_option maxRecDepth 20000 in
theorem ggX5_poll_X5_whole : GoodIn wsX5_poll wsX5_whole := goodIn_sub (List.forall_mem_cons.mpr ⟨(mwsX5_poll_1 _ (List.mem_of_getElem? (i := 0) rfl)), (List.forall_mem_cons.mpr ⟨(mwsX5_poll_1 _ (List.mem_of_getElem? (i := 1) rfl)), (fun _ h => absurd h List.not_mem_nil)⟩)⟩) (by decide +kernel)
set_option maxRecDepth 20000 in
theorem gX5_poll_X5_whole : GoodIn wsX5_poll (va_wsS RX5 85 yX5_whole wsX5_whole) := goodIn_app (goodIn_sub (List.forall_mem_cons.mpr ⟨(mwsX5_poll_0 _ (List.mem_of_getElem? (i := 22) rfl)), (List.forall_mem_cons.mpr ⟨(mwsX5_poll_0 _ (List.mem_of_getElem? (i := 23) rfl)), (List.forall_mem_cons.mpr ⟨(mwsX5_poll_0 _ (List.mem_of_getElem? (i := 2) rfl)), (fun _ h => absurd h List.not_mem_nil)⟩)⟩)⟩) (by decide +kernel)) ggX5_poll_X5_whole
set_option maxRecDepth 20000 in
theorem ggX5_poll_X5_end : GoodIn wsX5_poll wsX5_end := goodIn_sub (tk_mem 4 _ (fun w h => (mwsX5_poll_1 _ (tkB_mem 5 4 h))) (List.forall_mem_cons.mpr ⟨(mwsX5_poll_0 _ (List.mem_of_getElem? (i := 2) rfl)), (tk_mem 15 _ (fun w h => (mwsX5_poll_1 _ (tkB_mem 9 15 h))) (List.forall_mem_cons.mpr ⟨(mwsX5_poll_2 _ (List.mem_of_getElem? (i := 0) rfl)), (tk_mem 13 _ (fun w h => (mwsX5_poll_3 _ (tkB_mem 0 13 h))) (fun _ h => absurd h List.not_mem_nil))⟩))⟩)) (by decide +kernel)
set_option maxRecDepth 20000 in
theorem gX5_poll_X5_end : GoodIn wsX5_poll (wsV RX5 96 RX5 yX5_end wsX5_end) := goodIn_app (goodIn_sub (List.forall_mem_cons.mpr ⟨(mwsX5_poll_1 _ (List.mem_of_getElem? (i := 2) rfl)), (List.forall_mem_cons.mpr ⟨(mwsX5_poll_1 _ (List.mem_of_getElem? (i := 3) rfl)), (List.forall_mem_cons.mpr ⟨(mwsX5_poll_1 _ (List.mem_of_getElem? (i := 4) rfl)), (List.forall_mem_cons.mpr ⟨(mwsX5_poll_0 _ (List.mem_of_getElem? (i := 2) rfl)), (fun _ h => absurd h List.not_mem_nil)⟩)⟩)⟩)⟩) (by decide +kernel)) ggX5_poll_X5_end
set_option maxRecDepth 20000 in
theorem ggX5_poll_X5_set : GoodIn wsX5_poll wsX5_set := goodIn_sub (List.forall_mem_cons.mpr ⟨(mwsX5_poll_2 _ (List.mem_of_getElem? (i := 4) rfl)), (List.forall_mem_cons.mpr ⟨(mwsX5_poll_1 _ (List.mem_of_getElem? (i := 14) rfl)), (List.forall_mem_cons.mpr ⟨(mwsX5_poll_0 _ (List.mem_of_getElem? (i := 20) rfl)), (List.forall_mem_cons.mpr ⟨(mwsX5_poll_2 _ (List.mem_of_getElem? (i := 5) rfl)), (tk_mem 13 _ (fun w h => (mwsX5_poll_3 _ (tkB_mem 0 13 h))) (fun _ h => absurd h List.not_mem_nil))⟩)⟩)⟩)⟩) (by decide +kernel)
set_option maxRecDepth 20000 in
theorem gX5_poll_X5_set : GoodIn wsX5_poll (wsV RX5 132 RX5 yX5_set wsX5_set) := goodIn_app (goodIn_sub (List.forall_mem_cons.mpr ⟨(mwsX5_poll_2 _ (List.mem_of_getElem? (i := 1) rfl)), (List.forall_mem_cons.mpr ⟨(mwsX5_poll_2 _ (List.mem_of_getElem? (i := 2) rfl)), (List.forall_mem_cons.mpr ⟨(mwsX5_poll_2 _ (List.mem_of_getElem? (i := 3) rfl)), (List.forall_mem_cons.mpr ⟨(mwsX5_poll_0 _ (List.mem_of_getElem? (i := 2) rfl)), (fun _ h => absurd h List.not_mem_nil)⟩)⟩)⟩)⟩) (by decide +kernel)) ggX5_poll_X5_set
theorem adX5_poll_0 : fd_rows (cX5_poll.data.toList.drop 0) 0 [(0, some (.aload_n 0), 1), (1, some (.iload_n 1), 1), (2, some (.invokestatic 53), 3), (5, some (.iconst 1), 1), (6, some (.invokevirtual 57), 3), (9, some (.ifCond .eq 5), 3), (12, some (.iconst 0), 1), (13, some (.ireturn), 1), (14, some (.aload_n 0), 1), (15, some (.iload_n 1), 1), (16, some (.invokevirtual 142), 3), (19, some (.aload_n 0), 1), (20, some (.iload_n 1), 1), (21, some (.invokestatic 85), 3), (24, some (.iload_n 2), 1), (25, some (.invokevirtual 96), 3)] = true := by decide +kernel
theorem adX5_poll_1 : fd_rows (cX5_poll.data.toList.drop 28) 28 [(28, some (.istore_n 3), 1), (29, some (.iload_n 3), 1), (30, some (.sipush (-10000)), 3), (33, some (.if_icmp .eq 13), 3), (36, some (.aload_n 0), 1), (37, some (.iload_n 1), 1), (38, some (.iload_n 3), 1), (39, some (.sipush (-10000)), 3), (42, some (.invokevirtual 132), 3), (45, some (.pop), 1), (46, some (.iload_n 3), 1), (47, some (.ireturn), 1)] = true := by decide +kernel
theorem dX5_poll_0 : decode cX5_poll 0 = .ok (.aload_n 0, 1) := fd_get adX5_poll_0 (k := 0) rfl
theorem dX5_poll_1 : decode cX5_poll 1 = .ok (.iload_n 1, 1) := fd_get adX5_poll_0 (k := 1) rfl
theorem dX5_poll_2 : decode cX5_poll 2 = .ok (.invokestatic 53, 3) := fd_get adX5_poll_0 (k := 2) rfl
theorem dX5_poll_5 : decode cX5_poll 5 = .ok (.iconst 1, 1) := fd_get adX5_poll_0 (k := 3) rfl
theorem dX5_poll_6 : decode cX5_poll 6 = .ok (.invokevirtual 57, 3) := fd_get adX5_poll_0 (k := 4) rfl
theorem dX5_poll_9 : decode cX5_poll 9 = .ok (.ifCond .eq 5, 3) := fd_get adX5_poll_0 (k := 5) rfl
theorem dX5_poll_12 : decode cX5_poll 12 = .ok (.iconst 0, 1) := fd_get adX5_poll_0 (k := 6) rfl
theorem dX5_poll_13 : decode cX5_poll 13 = .ok (.ireturn, 1) := fd_get adX5_poll_0 (k := 7) rfl
theorem dX5_poll_14 : decode cX5_poll 14 = .ok (.aload_n 0, 1) := fd_get adX5_poll_0 (k := 8) rfl
theorem dX5_poll_15 : decode cX5_poll 15 = .ok (.iload_n 1, 1) := fd_get adX5_poll_0 (k := 9) rfl
theorem dX5_poll_16 : decode cX5_poll 16 = .ok (.invokevirtual 142, 3) := fd_get adX5_poll_0 (k := 10) rfl
theorem dX5_poll_19 : decode cX5_poll 19 = .ok (.aload_n 0, 1) := fd_get adX5_poll_0 (k := 11) rfl
theorem dX5_poll_20 : decode cX5_poll 20 = .ok (.iload_n 1, 1) := fd_get adX5_poll_0 (k := 12) rfl
theorem dX5_poll_21 : decode cX5_poll 21 = .ok (.invokestatic 85, 3) := fd_get adX5_poll_0 (k := 13) rfl
theorem dX5_poll_24 : decode cX5_poll 24 = .ok (.iload_n 2, 1) := fd_get adX5_poll_0 (k := 14) rfl
theorem dX5_poll_25 : decode cX5_poll 25 = .ok (.invokevirtual 96, 3) := fd_get adX5_poll_0 (k := 15) rfl
theorem dX5_poll_28 : decode cX5_poll 28 = .ok (.istore_n 3, 1) := fd_get adX5_poll_1 (k := 0) rfl
theorem dX5_poll_29 : decode cX5_poll 29 = .ok (.iload_n 3, 1) := fd_get adX5_poll_1 (k := 1) rfl
theorem dX5_poll_30 : decode cX5_poll 30 = .ok (.sipush (-10000), 3) := fd_get adX5_poll_1 (k := 2) rfl
theorem dX5_poll_33 : decode cX5_poll 33 = .ok (.if_icmp .eq 13, 3) := fd_get adX5_poll_1 (k := 3) rfl
theorem dX5_poll_36 : decode cX5_poll 36 = .ok (.aload_n 0, 1) := fd_get adX5_poll_1 (k := 4) rfl
theorem dX5_poll_37 : decode cX5_poll 37 = .ok (.iload_n 1, 1) := fd_get adX5_poll_1 (k := 5) rfl
theorem dX5_poll_38 : decode cX5_poll 38 = .ok (.iload_n 3, 1) := fd_get adX5_poll_1 (k := 6) rfl
theorem dX5_poll_39 : decode cX5_poll 39 = .ok (.sipush (-10000), 3) := fd_get adX5_poll_1 (k := 7) rfl
theorem dX5_poll_42 : decode cX5_poll 42 = .ok (.invokevirtual 132, 3) := fd_get adX5_poll_1 (k := 8) rfl
theorem dX5_poll_45 : decode cX5_poll 45 = .ok (.pop, 1) := fd_get adX5_poll_1 (k := 9) rfl
theorem dX5_poll_46 : decode cX5_poll 46 = .ok (.iload_n 3, 1) := fd_get adX5_poll_1 (k := 10) rfl
theorem dX5_poll_47 : decode cX5_poll 47 = .ok (.ireturn, 1) := fd_get adX5_poll_1 (k := 11) rfl
theorem mwsX5_raise_0 : ∀ w ∈ wsX5_raise_r1, w ∈ wsX5_raise := fun w h => (List.mem_cons_of_mem _ (List.mem_append_left _ (List.mem_append_left _ h)))
theorem mwsX5_raise_1 : ∀ w ∈ wsX5_raise_r2, w ∈ wsX5_raise := fun w h => (List.mem_cons_of_mem _ (List.mem_append_left _ (List.mem_append_right _ h)))
theorem mwsX5_raise_2 : ∀ w ∈ wsX50, w ∈ wsX5_raise := fun w h => (List.mem_cons_of_mem _ (List.mem_append_right _ h))
set_option maxRecDepth 20000 in
theorem ggX5_raise_X5_isNoBook : GoodIn wsX5_raise wsX5_isNoBook := goodIn_sub (List.forall_mem_cons.mpr ⟨(mwsX5_raise_0 _ (List.mem_of_getElem? (i := 4) rfl)), (List.forall_mem_cons.mpr ⟨(mwsX5_raise_0 _ (List.mem_of_getElem? (i := 5) rfl)), (List.forall_mem_cons.mpr ⟨(mwsX5_raise_0 _ (List.mem_of_getElem? (i := 6) rfl)), (List.forall_mem_cons.mpr ⟨(mwsX5_raise_0 _ (List.mem_of_getElem? (i := 3) rfl)), (List.forall_mem_cons.mpr ⟨(mwsX5_raise_0 _ (List.mem_of_getElem? (i := 7) rfl)), (fun _ h => absurd h List.not_mem_nil)⟩)⟩)⟩)⟩)⟩) (by decide +kernel)
set_option maxRecDepth 20000 in
theorem gX5_raise_X5_isNoBook : GoodIn wsX5_raise (va_wsS RX5 53 yX5_isNoBook wsX5_isNoBook) := goodIn_app (goodIn_sub (List.forall_mem_cons.mpr ⟨(mwsX5_raise_0 _ (List.mem_of_getElem? (i := 1) rfl)), (List.forall_mem_cons.mpr ⟨(mwsX5_raise_0 _ (List.mem_of_getElem? (i := 2) rfl)), (List.forall_mem_cons.mpr ⟨(mwsX5_raise_0 _ (List.mem_of_getElem? (i := 3) rfl)), (fun _ h => absurd h List.not_mem_nil)⟩)⟩)⟩) (by decide +kernel)) ggX5_raise_X5_isNoBook
set_option maxRecDepth 20000 in
theorem ggX5_raise_X5_start : GoodIn wsX5_raise wsX5_start := goodIn_sub (tk_mem 5 _ (fun w h => (mwsX5_raise_0 _ (tkB_mem 11 5 h))) (List.forall_mem_cons.mpr ⟨(mwsX5_raise_0 _ (List.mem_of_getElem? (i := 3) rfl)), (List.forall_mem_cons.mpr ⟨(mwsX5_raise_0 _ (List.mem_of_getElem? (i := 16) rfl)), (tk_mem 13 _ (fun w h => (mwsX5_raise_2 _ (tkB_mem 0 13 h))) (fun _ h => absurd h List.not_mem_nil))⟩)⟩)) (by decide +kernel)
set_option maxRecDepth 20000 in
theorem gX5_raise_X5_start : GoodIn wsX5_raise (wsV RX5 57 RX5 yX5_start wsX5_start) := goodIn_app (goodIn_sub (List.forall_mem_cons.mpr ⟨(mwsX5_raise_0 _ (List.mem_of_getElem? (i := 8) rfl)), (List.forall_mem_cons.mpr ⟨(mwsX5_raise_0 _ (List.mem_of_getElem? (i := 9) rfl)), (List.forall_mem_cons.mpr ⟨(mwsX5_raise_0 _ (List.mem_of_getElem? (i := 10) rfl)), (List.forall_mem_cons.mpr ⟨(mwsX5_raise_0 _ (List.mem_of_getElem? (i := 3) rfl)), (fun _ h => absurd h List.not_mem_nil)⟩)⟩)⟩)⟩) (by decide +kernel)) ggX5_raise_X5_start
set_option maxRecDepth 20000 in
theorem ggX5_raise_X5_isIn : GoodIn wsX5_raise wsX5_isIn := goodIn_sub (List.forall_mem_cons.mpr ⟨(mwsX5_raise_0 _ (List.mem_of_getElem? (i := 7) rfl)), (fun _ h => absurd h List.not_mem_nil)⟩) (by decide +kernel)
set_option maxRecDepth 20000 in
theorem gX5_raise_X5_isIn : GoodIn wsX5_raise (va_wsS RX5 49 yX5_isIn wsX5_isIn) := goodIn_app (goodIn_sub (List.forall_mem_cons.mpr ⟨(mwsX5_raise_0 _ (List.mem_of_getElem? (i := 5) rfl)), (List.forall_mem_cons.mpr ⟨(mwsX5_raise_0 _ (List.mem_of_getElem? (i := 6) rfl)), (List.forall_mem_cons.mpr ⟨(mwsX5_raise_0 _ (List.mem_of_getElem? (i := 3) rfl)), (fun _ h => absurd h List.not_mem_nil)⟩)⟩)⟩) (by decide +kernel)) ggX5_raise_X5_isIn
set_option maxRecDepth 20000 in
theorem ggX5_raise_X5_refuse : GoodIn wsX5_raise wsX5_refuse := goodIn_sub (List.forall_mem_cons.mpr ⟨(mwsX5_raise_0 _ (List.mem_of_getElem? (i := 16) rfl)), (List.forall_mem_cons.mpr ⟨(mwsX5_raise_0 _ (List.mem_of_getElem? (i := 12) rfl)), (tk_mem 13 _ (fun w h => (mwsX5_raise_2 _ (tkB_mem 0 13 h))) (fun _ h => absurd h List.not_mem_nil))⟩)⟩) (by decide +kernel)
set_option maxRecDepth 20000 in
theorem gX5_raise_X5_refuse : GoodIn wsX5_raise (wsV RX5 45 RX5 yX5_refuse wsX5_refuse) := goodIn_app (goodIn_sub (List.forall_mem_cons.mpr ⟨(mwsX5_raise_0 _ (List.mem_of_getElem? (i := 13) rfl)), (List.forall_mem_cons.mpr ⟨(mwsX5_raise_0 _ (List.mem_of_getElem? (i := 14) rfl)), (List.forall_mem_cons.mpr ⟨(mwsX5_raise_0 _ (List.mem_of_getElem? (i := 15) rfl)), (List.forall_mem_cons.mpr ⟨(mwsX5_raise_0 _ (List.mem_of_getElem? (i := 3) rfl)), (fun _ h => absurd h List.not_mem_nil)⟩)⟩)⟩)⟩) (by decide +kernel)) ggX5_raise_X5_refuse
set_option maxRecDepth 20000 in
theorem ggX5_raise_X5_touch : GoodIn wsX5_raise wsX5_touch := goodIn_sub (List.forall_mem_cons.mpr ⟨(mwsX5_raise_0 _ (List.mem_of_getElem? (i := 20) rfl)), (List.forall_mem_cons.mpr ⟨(mwsX5_raise_0 _ (List.mem_of_getElem? (i := 21) rfl)), (List.forall_mem_cons.mpr ⟨(mwsX5_raise_0 _ (List.mem_of_getElem? (i := 22) rfl)), (tk_mem 13 _ (fun w h => (mwsX5_raise_2 _ (tkB_mem 0 13 h))) (fun _ h => absurd h List.not_mem_nil))⟩)⟩)⟩) (by decide +kernel)
set_option maxRecDepth 20000 in
theorem gX5_raise_X5_touch : GoodIn wsX5_raise (wsV RX5 142 RX5 yX5_touch wsX5_touch) := goodIn_app (goodIn_sub (List.forall_mem_cons.mpr ⟨(mwsX5_raise_0 _ (List.mem_of_getElem? (i := 17) rfl)), (List.forall_mem_cons.mpr ⟨(mwsX5_raise_0 _ (List.mem_of_getElem? (i := 18) rfl)), (List.forall_mem_cons.mpr ⟨(mwsX5_raise_0 _ (List.mem_of_getElem? (i := 19) rfl)), (List.forall_mem_cons.mpr ⟨(mwsX5_raise_0 _ (List.mem_of_getElem? (i := 3) rfl)), (fun _ h => absurd h List.not_mem_nil)⟩)⟩)⟩)⟩) (by decide +kernel)) ggX5_raise_X5_touch
set_option maxRecDepth 20000 in
theorem ggX5_raise_X5_held : GoodIn wsX5_raise wsX5_held := goodIn_sub (List.forall_mem_cons.mpr ⟨(mwsX5_raise_1 _ (List.mem_of_getElem? (i := 1) rfl)), (fun _ h => absurd h List.not_mem_nil)⟩) (by decide +kernel)
set_option maxRecDepth 20000 in
theorem gX5_raise_X5_held : GoodIn wsX5_raise (va_wsS RX5 136 yX5_held wsX5_held) := goodIn_app (goodIn_sub (List.forall_mem_cons.mpr ⟨(mwsX5_raise_0 _ (List.mem_of_getElem? (i := 23) rfl)), (List.forall_mem_cons.mpr ⟨(mwsX5_raise_1 _ (List.mem_of_getElem? (i := 0) rfl)), (List.forall_mem_cons.mpr ⟨(mwsX5_raise_0 _ (List.mem_of_getElem? (i := 3) rfl)), (fun _ h => absurd h List.not_mem_nil)⟩)⟩)⟩) (by decide +kernel)) ggX5_raise_X5_held
set_option maxRecDepth 20000 in
theorem ggX5_raise_X5_set : GoodIn wsX5_raise wsX5_set := goodIn_sub (List.forall_mem_cons.mpr ⟨(mwsX5_raise_1 _ (List.mem_of_getElem? (i := 5) rfl)), (List.forall_mem_cons.mpr ⟨(mwsX5_raise_0 _ (List.mem_of_getElem? (i := 0) rfl)), (List.forall_mem_cons.mpr ⟨(mwsX5_raise_0 _ (List.mem_of_getElem? (i := 21) rfl)), (List.forall_mem_cons.mpr ⟨(mwsX5_raise_1 _ (List.mem_of_getElem? (i := 6) rfl)), (tk_mem 13 _ (fun w h => (mwsX5_raise_2 _ (tkB_mem 0 13 h))) (fun _ h => absurd h List.not_mem_nil))⟩)⟩)⟩)⟩) (by decide +kernel)
set_option maxRecDepth 20000 in
theorem gX5_raise_X5_set : GoodIn wsX5_raise (wsV RX5 132 RX5 yX5_set wsX5_set) := goodIn_app (goodIn_sub (List.forall_mem_cons.mpr ⟨(mwsX5_raise_1 _ (List.mem_of_getElem? (i := 2) rfl)), (List.forall_mem_cons.mpr ⟨(mwsX5_raise_1 _ (List.mem_of_getElem? (i := 3) rfl)), (List.forall_mem_cons.mpr ⟨(mwsX5_raise_1 _ (List.mem_of_getElem? (i := 4) rfl)), (List.forall_mem_cons.mpr ⟨(mwsX5_raise_0 _ (List.mem_of_getElem? (i := 3) rfl)), (fun _ h => absurd h List.not_mem_nil)⟩)⟩)⟩)⟩) (by decide +kernel)) ggX5_raise_X5_set
set_option maxRecDepth 20000 in
theorem ggX5_raise_X5_one : GoodIn wsX5_raise wsX5_one := goodIn_sub (List.forall_mem_cons.mpr ⟨(mwsX5_raise_1 _ (List.mem_of_getElem? (i := 9) rfl)), (fun _ h => absurd h List.not_mem_nil)⟩) (by decide +kernel)
set_option maxRecDepth 20000 in
theorem gX5_raise_X5_one : GoodIn wsX5_raise (va_wsS RX5 81 yX5_one wsX5_one) := goodIn_app (goodIn_sub (List.forall_mem_cons.mpr ⟨(mwsX5_raise_1 _ (List.mem_of_getElem? (i := 7) rfl)), (List.forall_mem_cons.mpr ⟨(mwsX5_raise_1 _ (List.mem_of_getElem? (i := 8) rfl)), (List.forall_mem_cons.mpr ⟨(mwsX5_raise_0 _ (List.mem_of_getElem? (i := 3) rfl)), (fun _ h => absurd h List.not_mem_nil)⟩)⟩)⟩) (by decide +kernel)) ggX5_raise_X5_one
theorem adX5_raise_0 : fd_rows (cX5_raise.data.toList.drop 0) 0 [(0, some (.aload_n 0), 1), (1, some (.iload_n 1), 1), (2, some (.invokestatic 53), 3), (5, some (.iconst 1), 1), (6, some (.invokevirtual 57), 3), (9, some (.ifCond .ne 29), 3), (12, some (.aload_n 0), 1), (13, some (.iload_n 2), 1), (14, some (.sipush (-999)), 3), (17, some (.sipush 999), 3), (20, some (.invokestatic 49), 3), (23, some (.ifCond .ne 7), 3), (26, some (.iconst 1), 1), (27, some (.goto 4), 3), (30, some (.iconst 0), 1), (31, some (.iconst 2), 1)] = true := by decide +kernel
theorem adX5_raise_1 : fd_rows (cX5_raise.data.toList.drop 32) 32 [(32, some (.invokevirtual 45), 3), (35, some (.ifCond .eq 5), 3), (38, some (.iconst 0), 1), (39, some (.ireturn), 1), (40, some (.aload_n 0), 1), (41, some (.iload_n 1), 1), (42, some (.invokevirtual 142), 3), (45, some (.iconst 0), 1), (46, some (.istore_n 3), 1), (47, some (.iconst 0), 1), (48, some (.istore 4), 2), (50, some (.iload 4), 2), (52, some (.bipush 100), 2), (54, some (.if_icmp .ge 71), 3), (57, some (.aload_n 0), 1), (58, some (.getfield 11), 3)] = true := by decide +kernel
theorem adX5_raise_2 : fd_rows (cX5_raise.data.toList.drop 61) 61 [(61, some (.iload_n 1), 1), (62, some (.aaload), 1), (63, some (.iload 4), 2), (65, some (.iaload), 1), (66, some (.istore 5), 2), (68, some (.iload 5), 2), (70, some (.sipush (-10000)), 3), (73, some (.if_icmp .ne 6), 3), (76, some (.goto 43), 3), (79, some (.aload_n 0), 1), (80, some (.iload_n 1), 1), (81, some (.iload 4), 2), (83, some (.iload 5), 2), (85, some (.iload_n 2), 1), (86, some (.iadd), 1), (87, some (.invokestatic 136), 3)] = true := by decide +kernel
theorem adX5_raise_3 : fd_rows (cX5_raise.data.toList.drop 90) 90 [(90, some (.invokevirtual 132), 3), (93, some (.pop), 1), (94, some (.iload_n 3), 1), (95, some (.aload_n 0), 1), (96, some (.getfield 11), 3), (99, some (.iload_n 1), 1), (100, some (.aaload), 1), (101, some (.iload 4), 2), (103, some (.iaload), 1), (104, some (.iload 5), 2), (106, some (.if_icmp .eq 7), 3), (109, some (.iconst 1), 1), (110, some (.goto 4), 3), (113, some (.iconst 0), 1), (114, some (.invokestatic 81), 3), (117, some (.iadd), 1)] = true := by decide +kernel
theorem adX5_raise_4 : fd_rows (cX5_raise.data.toList.drop 118) 118 [(118, some (.istore_n 3), 1), (119, some (.iinc 4 1), 3), (122, some (.goto (-72)), 3), (125, some (.iload_n 3), 1), (126, some (.ireturn), 1)] = true := by decide +kernel
theorem dX5_raise_0 : decode cX5_raise 0 = .ok (.aload_n 0, 1) := fd_get adX5_raise_0 (k := 0) rfl
theorem dX5_raise_1 : decode cX5_raise 1 = .ok (.iload_n 1, 1) := fd_get adX5_raise_0 (k := 1) rfl
theorem dX5_raise_2 : decode cX5_raise 2 = .ok (.invokestatic 53, 3) := fd_get adX5_raise_0 (k := 2) rfl
theorem dX5_raise_5 : decode cX5_raise 5 = .ok (.iconst 1, 1) := fd_get adX5_raise_0 (k := 3) rfl
theorem dX5_raise_6 : decode cX5_raise 6 = .ok (.invokevirtual 57, 3) := fd_get adX5_raise_0 (k := 4) rfl
theorem dX5_raise_9 : decode cX5_raise 9 = .ok (.ifCond .ne 29, 3) := fd_get adX5_raise_0 (k := 5) rfl
theorem dX5_raise_12 : decode cX5_raise 12 = .ok (.aload_n 0, 1) := fd_get adX5_raise_0 (k := 6) rfl
theorem dX5_raise_13 : decode cX5_raise 13 = .ok (.iload_n 2, 1) := fd_get adX5_raise_0 (k := 7) rfl
theorem dX5_raise_14 : decode cX5_raise 14 = .ok (.sipush (-999), 3) := fd_get adX5_raise_0 (k := 8) rfl
theorem dX5_raise_17 : decode cX5_raise 17 = .ok (.sipush 999, 3) := fd_get adX5_raise_0 (k := 9) rfl
theorem dX5_raise_20 : decode cX5_raise 20 = .ok (.invokestatic 49, 3) := fd_get adX5_raise_0 (k := 10) rfl
theorem dX5_raise_23 : decode cX5_raise 23 = .ok (.ifCond .ne 7, 3) := fd_get adX5_raise_0 (k := 11) rfl
theorem dX5_raise_26 : decode cX5_raise 26 = .ok (.iconst 1, 1) := fd_get adX5_raise_0 (k := 12) rfl
theorem dX5_raise_27 : decode cX5_raise 27 = .ok (.goto 4, 3) := fd_get adX5_raise_0 (k := 13) rfl
theorem dX5_raise_30 : decode cX5_raise 30 = .ok (.iconst 0, 1) := fd_get adX5_raise_0 (k := 14) rfl
theorem dX5_raise_31 : decode cX5_raise 31 = .ok (.iconst 2, 1) := fd_get adX5_raise_0 (k := 15) rfl
theorem dX5_raise_32 : decode cX5_raise 32 = .ok (.invokevirtual 45, 3) := fd_get adX5_raise_1 (k := 0) rfl
theorem dX5_raise_35 : decode cX5_raise 35 = .ok (.ifCond .eq 5, 3) := fd_get adX5_raise_1 (k := 1) rfl
theorem dX5_raise_38 : decode cX5_raise 38 = .ok (.iconst 0, 1) := fd_get adX5_raise_1 (k := 2) rfl
theorem dX5_raise_39 : decode cX5_raise 39 = .ok (.ireturn, 1) := fd_get adX5_raise_1 (k := 3) rfl
theorem dX5_raise_40 : decode cX5_raise 40 = .ok (.aload_n 0, 1) := fd_get adX5_raise_1 (k := 4) rfl
theorem dX5_raise_41 : decode cX5_raise 41 = .ok (.iload_n 1, 1) := fd_get adX5_raise_1 (k := 5) rfl
theorem dX5_raise_42 : decode cX5_raise 42 = .ok (.invokevirtual 142, 3) := fd_get adX5_raise_1 (k := 6) rfl
theorem dX5_raise_45 : decode cX5_raise 45 = .ok (.iconst 0, 1) := fd_get adX5_raise_1 (k := 7) rfl
theorem dX5_raise_46 : decode cX5_raise 46 = .ok (.istore_n 3, 1) := fd_get adX5_raise_1 (k := 8) rfl
theorem dX5_raise_47 : decode cX5_raise 47 = .ok (.iconst 0, 1) := fd_get adX5_raise_1 (k := 9) rfl
theorem dX5_raise_48 : decode cX5_raise 48 = .ok (.istore 4, 2) := fd_get adX5_raise_1 (k := 10) rfl
theorem dX5_raise_50 : decode cX5_raise 50 = .ok (.iload 4, 2) := fd_get adX5_raise_1 (k := 11) rfl
theorem dX5_raise_52 : decode cX5_raise 52 = .ok (.bipush 100, 2) := fd_get adX5_raise_1 (k := 12) rfl
theorem dX5_raise_54 : decode cX5_raise 54 = .ok (.if_icmp .ge 71, 3) := fd_get adX5_raise_1 (k := 13) rfl
theorem dX5_raise_57 : decode cX5_raise 57 = .ok (.aload_n 0, 1) := fd_get adX5_raise_1 (k := 14) rfl
theorem dX5_raise_58 : decode cX5_raise 58 = .ok (.getfield 11, 3) := fd_get adX5_raise_1 (k := 15) rfl
theorem dX5_raise_61 : decode cX5_raise 61 = .ok (.iload_n 1, 1) := fd_get adX5_raise_2 (k := 0) rfl
theorem dX5_raise_62 : decode cX5_raise 62 = .ok (.aaload, 1) := fd_get adX5_raise_2 (k := 1) rfl
theorem dX5_raise_63 : decode cX5_raise 63 = .ok (.iload 4, 2) := fd_get adX5_raise_2 (k := 2) rfl
theorem dX5_raise_65 : decode cX5_raise 65 = .ok (.iaload, 1) := fd_get adX5_raise_2 (k := 3) rfl
theorem dX5_raise_66 : decode cX5_raise 66 = .ok (.istore 5, 2) := fd_get adX5_raise_2 (k := 4) rfl
theorem dX5_raise_68 : decode cX5_raise 68 = .ok (.iload 5, 2) := fd_get adX5_raise_2 (k := 5) rfl
theorem dX5_raise_70 : decode cX5_raise 70 = .ok (.sipush (-10000), 3) := fd_get adX5_raise_2 (k := 6) rfl
theorem dX5_raise_73 : decode cX5_raise 73 = .ok (.if_icmp .ne 6, 3) := fd_get adX5_raise_2 (k := 7) rfl
theorem dX5_raise_76 : decode cX5_raise 76 = .ok (.goto 43, 3) := fd_get adX5_raise_2 (k := 8) rfl
theorem dX5_raise_79 : decode cX5_raise 79 = .ok (.aload_n 0, 1) := fd_get adX5_raise_2 (k := 9) rfl
theorem dX5_raise_80 : decode cX5_raise 80 = .ok (.iload_n 1, 1) := fd_get adX5_raise_2 (k := 10) rfl
theorem dX5_raise_81 : decode cX5_raise 81 = .ok (.iload 4, 2) := fd_get adX5_raise_2 (k := 11) rfl
theorem dX5_raise_83 : decode cX5_raise 83 = .ok (.iload 5, 2) := fd_get adX5_raise_2 (k := 12) rfl
theorem dX5_raise_85 : decode cX5_raise 85 = .ok (.iload_n 2, 1) := fd_get adX5_raise_2 (k := 13) rfl
theorem dX5_raise_86 : decode cX5_raise 86 = .ok (.iadd, 1) := fd_get adX5_raise_2 (k := 14) rfl
theorem dX5_raise_87 : decode cX5_raise 87 = .ok (.invokestatic 136, 3) := fd_get adX5_raise_2 (k := 15) rfl
theorem dX5_raise_90 : decode cX5_raise 90 = .ok (.invokevirtual 132, 3) := fd_get adX5_raise_3 (k := 0) rfl
theorem dX5_raise_93 : decode cX5_raise 93 = .ok (.pop, 1) := fd_get adX5_raise_3 (k := 1) rfl
theorem dX5_raise_94 : decode cX5_raise 94 = .ok (.iload_n 3, 1) := fd_get adX5_raise_3 (k := 2) rfl
theorem dX5_raise_95 : decode cX5_raise 95 = .ok (.aload_n 0, 1) := fd_get adX5_raise_3 (k := 3) rfl
theorem dX5_raise_96 : decode cX5_raise 96 = .ok (.getfield 11, 3) := fd_get adX5_raise_3 (k := 4) rfl
theorem dX5_raise_99 : decode cX5_raise 99 = .ok (.iload_n 1, 1) := fd_get adX5_raise_3 (k := 5) rfl
theorem dX5_raise_100 : decode cX5_raise 100 = .ok (.aaload, 1) := fd_get adX5_raise_3 (k := 6) rfl
theorem dX5_raise_101 : decode cX5_raise 101 = .ok (.iload 4, 2) := fd_get adX5_raise_3 (k := 7) rfl
theorem dX5_raise_103 : decode cX5_raise 103 = .ok (.iaload, 1) := fd_get adX5_raise_3 (k := 8) rfl
theorem dX5_raise_104 : decode cX5_raise 104 = .ok (.iload 5, 2) := fd_get adX5_raise_3 (k := 9) rfl
theorem dX5_raise_106 : decode cX5_raise 106 = .ok (.if_icmp .eq 7, 3) := fd_get adX5_raise_3 (k := 10) rfl
theorem dX5_raise_109 : decode cX5_raise 109 = .ok (.iconst 1, 1) := fd_get adX5_raise_3 (k := 11) rfl
theorem dX5_raise_110 : decode cX5_raise 110 = .ok (.goto 4, 3) := fd_get adX5_raise_3 (k := 12) rfl
theorem dX5_raise_113 : decode cX5_raise 113 = .ok (.iconst 0, 1) := fd_get adX5_raise_3 (k := 13) rfl
theorem dX5_raise_114 : decode cX5_raise 114 = .ok (.invokestatic 81, 3) := fd_get adX5_raise_3 (k := 14) rfl
theorem dX5_raise_117 : decode cX5_raise 117 = .ok (.iadd, 1) := fd_get adX5_raise_3 (k := 15) rfl
theorem dX5_raise_118 : decode cX5_raise 118 = .ok (.istore_n 3, 1) := fd_get adX5_raise_4 (k := 0) rfl
theorem dX5_raise_119 : decode cX5_raise 119 = .ok (.iinc 4 1, 3) := fd_get adX5_raise_4 (k := 1) rfl
theorem dX5_raise_122 : decode cX5_raise 122 = .ok (.goto (-72), 3) := fd_get adX5_raise_4 (k := 2) rfl
theorem dX5_raise_125 : decode cX5_raise 125 = .ok (.iload_n 3, 1) := fd_get adX5_raise_4 (k := 3) rfl
theorem dX5_raise_126 : decode cX5_raise 126 = .ok (.ireturn, 1) := fd_get adX5_raise_4 (k := 4) rfl
theorem mwsX5_sift_0 : ∀ w ∈ wsX5_sift_r1, w ∈ wsX5_sift := fun w h => (List.mem_cons_of_mem _ (List.mem_append_left _ (List.mem_append_left _ h)))
theorem mwsX5_sift_1 : ∀ w ∈ wsX5_sift_r2, w ∈ wsX5_sift := fun w h => (List.mem_cons_of_mem _ (List.mem_append_left _ (List.mem_append_right _ h)))
theorem mwsX5_sift_2 : ∀ w ∈ wsX50, w ∈ wsX5_sift := fun w h => (List.mem_cons_of_mem _ (List.mem_append_right _ h))
set_option maxRecDepth 20000 in
theorem ggX5_sift_X5_isNoBook : GoodIn wsX5_sift wsX5_isNoBook := goodIn_sub (List.forall_mem_cons.mpr ⟨(mwsX5_sift_0 _ (List.mem_of_getElem? (i := 4) rfl)), (List.forall_mem_cons.mpr ⟨(mwsX5_sift_0 _ (List.mem_of_getElem? (i := 5) rfl)), (List.forall_mem_cons.mpr ⟨(mwsX5_sift_0 _ (List.mem_of_getElem? (i := 6) rfl)), (List.forall_mem_cons.mpr ⟨(mwsX5_sift_0 _ (List.mem_of_getElem? (i := 3) rfl)), (List.forall_mem_cons.mpr ⟨(mwsX5_sift_0 _ (List.mem_of_getElem? (i := 7) rfl)), (fun _ h => absurd h List.not_mem_nil)⟩)⟩)⟩)⟩)⟩) (by decide +kernel)
set_option maxRecDepth 20000 in
theorem gX5_sift_X5_isNoBook : GoodIn wsX5_sift (va_wsS RX5 53 yX5_isNoBook wsX5_isNoBook) := goodIn_app (goodIn_sub (List.forall_mem_cons.mpr ⟨(mwsX5_sift_0 _ (List.mem_of_getElem? (i := 1) rfl)), (List.forall_mem_cons.mpr ⟨(mwsX5_sift_0 _ (List.mem_of_getElem? (i := 2) rfl)), (List.forall_mem_cons.mpr ⟨(mwsX5_sift_0 _ (List.mem_of_getElem? (i := 3) rfl)), (fun _ h => absurd h List.not_mem_nil)⟩)⟩)⟩) (by decide +kernel)) ggX5_sift_X5_isNoBook
set_option maxRecDepth 20000 in
theorem ggX5_sift_X5_start : GoodIn wsX5_sift wsX5_start := goodIn_sub (tk_mem 5 _ (fun w h => (mwsX5_sift_0 _ (tkB_mem 11 5 h))) (List.forall_mem_cons.mpr ⟨(mwsX5_sift_0 _ (List.mem_of_getElem? (i := 3) rfl)), (List.forall_mem_cons.mpr ⟨(mwsX5_sift_0 _ (List.mem_of_getElem? (i := 16) rfl)), (tk_mem 13 _ (fun w h => (mwsX5_sift_2 _ (tkB_mem 0 13 h))) (fun _ h => absurd h List.not_mem_nil))⟩)⟩)) (by decide +kernel)
set_option maxRecDepth 20000 in
theorem gX5_sift_X5_start : GoodIn wsX5_sift (wsV RX5 57 RX5 yX5_start wsX5_start) := goodIn_app (goodIn_sub (List.forall_mem_cons.mpr ⟨(mwsX5_sift_0 _ (List.mem_of_getElem? (i := 8) rfl)), (List.forall_mem_cons.mpr ⟨(mwsX5_sift_0 _ (List.mem_of_getElem? (i := 9) rfl)), (List.forall_mem_cons.mpr ⟨(mwsX5_sift_0 _ (List.mem_of_getElem? (i := 10) rfl)), (List.forall_mem_cons.mpr ⟨(mwsX5_sift_0 _ (List.mem_of_getElem? (i := 3) rfl)), (fun _ h => absurd h List.not_mem_nil)⟩)⟩)⟩)⟩) (by decide +kernel)) ggX5_sift_X5_start
set_option maxRecDepth 20000 in
theorem ggX5_sift_X5_isIn : GoodIn wsX5_sift wsX5_isIn := goodIn_sub (List.forall_mem_cons.mpr ⟨(mwsX5_sift_0 _ (List.mem_of_getElem? (i := 7) rfl)), (fun _ h => absurd h List.not_mem_nil)⟩) (by decide +kernel)
set_option maxRecDepth 20000 in
theorem gX5_sift_X5_isIn : GoodIn wsX5_sift (va_wsS RX5 49 yX5_isIn wsX5_isIn) := goodIn_app (goodIn_sub (List.forall_mem_cons.mpr ⟨(mwsX5_sift_0 _ (List.mem_of_getElem? (i := 5) rfl)), (List.forall_mem_cons.mpr ⟨(mwsX5_sift_0 _ (List.mem_of_getElem? (i := 6) rfl)), (List.forall_mem_cons.mpr ⟨(mwsX5_sift_0 _ (List.mem_of_getElem? (i := 3) rfl)), (fun _ h => absurd h List.not_mem_nil)⟩)⟩)⟩) (by decide +kernel)) ggX5_sift_X5_isIn
set_option maxRecDepth 20000 in
theorem ggX5_sift_X5_refuse : GoodIn wsX5_sift wsX5_refuse := goodIn_sub (List.forall_mem_cons.mpr ⟨(mwsX5_sift_0 _ (List.mem_of_getElem? (i := 16) rfl)), (List.forall_mem_cons.mpr ⟨(mwsX5_sift_0 _ (List.mem_of_getElem? (i := 12) rfl)), (tk_mem 13 _ (fun w h => (mwsX5_sift_2 _ (tkB_mem 0 13 h))) (fun _ h => absurd h List.not_mem_nil))⟩)⟩) (by decide +kernel)
set_option maxRecDepth 20000 in
theorem gX5_sift_X5_refuse : GoodIn wsX5_sift (wsV RX5 45 RX5 yX5_refuse wsX5_refuse) := goodIn_app (goodIn_sub (List.forall_mem_cons.mpr ⟨(mwsX5_sift_0 _ (List.mem_of_getElem? (i := 13) rfl)), (List.forall_mem_cons.mpr ⟨(mwsX5_sift_0 _ (List.mem_of_getElem? (i := 14) rfl)), (List.forall_mem_cons.mpr ⟨(mwsX5_sift_0 _ (List.mem_of_getElem? (i := 15) rfl)), (List.forall_mem_cons.mpr ⟨(mwsX5_sift_0 _ (List.mem_of_getElem? (i := 3) rfl)), (fun _ h => absurd h List.not_mem_nil)⟩)⟩)⟩)⟩) (by decide +kernel)) ggX5_sift_X5_refuse
set_option maxRecDepth 20000 in
theorem ggX5_sift_X5_touch : GoodIn wsX5_sift wsX5_touch := goodIn_sub (List.forall_mem_cons.mpr ⟨(mwsX5_sift_0 _ (List.mem_of_getElem? (i := 20) rfl)), (List.forall_mem_cons.mpr ⟨(mwsX5_sift_0 _ (List.mem_of_getElem? (i := 21) rfl)), (List.forall_mem_cons.mpr ⟨(mwsX5_sift_0 _ (List.mem_of_getElem? (i := 22) rfl)), (tk_mem 13 _ (fun w h => (mwsX5_sift_2 _ (tkB_mem 0 13 h))) (fun _ h => absurd h List.not_mem_nil))⟩)⟩)⟩) (by decide +kernel)
set_option maxRecDepth 20000 in
theorem gX5_sift_X5_touch : GoodIn wsX5_sift (wsV RX5 142 RX5 yX5_touch wsX5_touch) := goodIn_app (goodIn_sub (List.forall_mem_cons.mpr ⟨(mwsX5_sift_0 _ (List.mem_of_getElem? (i := 17) rfl)), (List.forall_mem_cons.mpr ⟨(mwsX5_sift_0 _ (List.mem_of_getElem? (i := 18) rfl)), (List.forall_mem_cons.mpr ⟨(mwsX5_sift_0 _ (List.mem_of_getElem? (i := 19) rfl)), (List.forall_mem_cons.mpr ⟨(mwsX5_sift_0 _ (List.mem_of_getElem? (i := 3) rfl)), (fun _ h => absurd h List.not_mem_nil)⟩)⟩)⟩)⟩) (by decide +kernel)) ggX5_sift_X5_touch
set_option maxRecDepth 20000 in
theorem ggX5_sift_X5_set : GoodIn wsX5_sift wsX5_set := goodIn_sub (List.forall_mem_cons.mpr ⟨(mwsX5_sift_1 _ (List.mem_of_getElem? (i := 2) rfl)), (List.forall_mem_cons.mpr ⟨(mwsX5_sift_0 _ (List.mem_of_getElem? (i := 0) rfl)), (List.forall_mem_cons.mpr ⟨(mwsX5_sift_0 _ (List.mem_of_getElem? (i := 21) rfl)), (List.forall_mem_cons.mpr ⟨(mwsX5_sift_1 _ (List.mem_of_getElem? (i := 3) rfl)), (tk_mem 13 _ (fun w h => (mwsX5_sift_2 _ (tkB_mem 0 13 h))) (fun _ h => absurd h List.not_mem_nil))⟩)⟩)⟩)⟩) (by decide +kernel)
set_option maxRecDepth 20000 in
theorem gX5_sift_X5_set : GoodIn wsX5_sift (wsV RX5 132 RX5 yX5_set wsX5_set) := goodIn_app (goodIn_sub (List.forall_mem_cons.mpr ⟨(mwsX5_sift_0 _ (List.mem_of_getElem? (i := 23) rfl)), (List.forall_mem_cons.mpr ⟨(mwsX5_sift_1 _ (List.mem_of_getElem? (i := 0) rfl)), (List.forall_mem_cons.mpr ⟨(mwsX5_sift_1 _ (List.mem_of_getElem? (i := 1) rfl)), (List.forall_mem_cons.mpr ⟨(mwsX5_sift_0 _ (List.mem_of_getElem? (i := 3) rfl)), (fun _ h => absurd h List.not_mem_nil)⟩)⟩)⟩)⟩) (by decide +kernel)) ggX5_sift_X5_set
theorem adX5_sift_0 : fd_rows (cX5_sift.data.toList.drop 0) 0 [(0, some (.aload_n 0), 1), (1, some (.iload_n 1), 1), (2, some (.invokestatic 53), 3), (5, some (.iconst 1), 1), (6, some (.invokevirtual 57), 3), (9, some (.ifCond .ne 26), 3), (12, some (.aload_n 0), 1), (13, some (.iload_n 2), 1), (14, some (.iconst 2), 1), (15, some (.bipush 99), 2), (17, some (.invokestatic 49), 3), (20, some (.ifCond .ne 7), 3), (23, some (.iconst 1), 1), (24, some (.goto 4), 3), (27, some (.iconst 0), 1), (28, some (.iconst 2), 1)] = true := by decide +kernel
theorem adX5_sift_1 : fd_rows (cX5_sift.data.toList.drop 29) 29 [(29, some (.invokevirtual 45), 3), (32, some (.ifCond .eq 5), 3), (35, some (.iconst 0), 1), (36, some (.ireturn), 1), (37, some (.aload_n 0), 1), (38, some (.iload_n 1), 1), (39, some (.invokevirtual 142), 3), (42, some (.iconst 0), 1), (43, some (.istore_n 3), 1), (44, some (.iconst 0), 1), (45, some (.istore 4), 2), (47, some (.iload 4), 2), (49, some (.bipush 100), 2), (51, some (.if_icmp .ge 55), 3), (54, some (.aload_n 0), 1), (55, some (.getfield 11), 3)] = true := by decide +kernel
theorem adX5_sift_2 : fd_rows (cX5_sift.data.toList.drop 58) 58 [(58, some (.iload_n 1), 1), (59, some (.aaload), 1), (60, some (.iload 4), 2), (62, some (.iaload), 1), (63, some (.sipush (-10000)), 3), (66, some (.if_icmp .eq 34), 3), (69, some (.aload_n 0), 1), (70, some (.getfield 11), 3), (73, some (.iload_n 1), 1), (74, some (.aaload), 1), (75, some (.iload 4), 2), (77, some (.iaload), 1), (78, some (.iload_n 2), 1), (79, some (.irem), 1), (80, some (.ifCond .eq 6), 3), (83, some (.goto 17), 3)] = true := by decide +kernel
theorem adX5_sift_3 : fd_rows (cX5_sift.data.toList.drop 86) 86 [(86, some (.aload_n 0), 1), (87, some (.iload_n 1), 1), (88, some (.iload 4), 2), (90, some (.sipush (-10000)), 3), (93, some (.invokevirtual 132), 3), (96, some (.pop), 1), (97, some (.iinc 3 1), 3), (100, some (.iinc 4 1), 3), (103, some (.goto (-56)), 3), (106, some (.iload_n 3), 1), (107, some (.ireturn), 1)] = true := by decide +kernel
theorem dX5_sift_0 : decode cX5_sift 0 = .ok (.aload_n 0, 1) := fd_get adX5_sift_0 (k := 0) rfl
theorem dX5_sift_1 : decode cX5_sift 1 = .ok (.iload_n 1, 1) := fd_get adX5_sift_0 (k := 1) rfl
theorem dX5_sift_2 : decode cX5_sift 2 = .ok (.invokestatic 53, 3) := fd_get adX5_sift_0 (k := 2) rfl
theorem dX5_sift_5 : decode cX5_sift 5 = .ok (.iconst 1, 1) := fd_get adX5_sift_0 (k := 3) rfl
theorem dX5_sift_6 : decode cX5_sift 6 = .ok (.invokevirtual 57, 3) := fd_get adX5_sift_0 (k := 4) rfl
theorem dX5_sift_9 : decode cX5_sift 9 = .ok (.ifCond .ne 26, 3) := fd_get adX5_sift_0 (k := 5) rfl
theorem dX5_sift_12 : decode cX5_sift 12 = .ok (.aload_n 0, 1) := fd_get adX5_sift_0 (k := 6) rfl
theorem dX5_sift_13 : decode cX5_sift 13 = .ok (.iload_n 2, 1) := fd_get adX5_sift_0 (k := 7) rfl
theorem dX5_sift_14 : decode cX5_sift 14 = .ok (.iconst 2, 1) := fd_get adX5_sift_0 (k := 8) rfl
theorem dX5_sift_15 : decode cX5_sift 15 = .ok (.bipush 99, 2) := fd_get adX5_sift_0 (k := 9) rfl
theorem dX5_sift_17 : decode cX5_sift 17 = .ok (.invokestatic 49, 3) := fd_get adX5_sift_0 (k := 10) rfl
theorem dX5_sift_20 : decode cX5_sift 20 = .ok (.ifCond .ne 7, 3) := fd_get adX5_sift_0 (k := 11) rfl
theorem dX5_sift_23 : decode cX5_sift 23 = .ok (.iconst 1, 1) := fd_get adX5_sift_0 (k := 12) rfl
theorem dX5_sift_24 : decode cX5_sift 24 = .ok (.goto 4, 3) := fd_get adX5_sift_0 (k := 13) rfl
theorem dX5_sift_27 : decode cX5_sift 27 = .ok (.iconst 0, 1) := fd_get adX5_sift_0 (k := 14) rfl
theorem dX5_sift_28 : decode cX5_sift 28 = .ok (.iconst 2, 1) := fd_get adX5_sift_0 (k := 15) rfl
theorem dX5_sift_29 : decode cX5_sift 29 = .ok (.invokevirtual 45, 3) := fd_get adX5_sift_1 (k := 0) rfl
theorem dX5_sift_32 : decode cX5_sift 32 = .ok (.ifCond .eq 5, 3) := fd_get adX5_sift_1 (k := 1) rfl
theorem dX5_sift_35 : decode cX5_sift 35 = .ok (.iconst 0, 1) := fd_get adX5_sift_1 (k := 2) rfl
theorem dX5_sift_36 : decode cX5_sift 36 = .ok (.ireturn, 1) := fd_get adX5_sift_1 (k := 3) rfl
theorem dX5_sift_37 : decode cX5_sift 37 = .ok (.aload_n 0, 1) := fd_get adX5_sift_1 (k := 4) rfl
theorem dX5_sift_38 : decode cX5_sift 38 = .ok (.iload_n 1, 1) := fd_get adX5_sift_1 (k := 5) rfl
theorem dX5_sift_39 : decode cX5_sift 39 = .ok (.invokevirtual 142, 3) := fd_get adX5_sift_1 (k := 6) rfl
theorem dX5_sift_42 : decode cX5_sift 42 = .ok (.iconst 0, 1) := fd_get adX5_sift_1 (k := 7) rfl
theorem dX5_sift_43 : decode cX5_sift 43 = .ok (.istore_n 3, 1) := fd_get adX5_sift_1 (k := 8) rfl
theorem dX5_sift_44 : decode cX5_sift 44 = .ok (.iconst 0, 1) := fd_get adX5_sift_1 (k := 9) rfl
theorem dX5_sift_45 : decode cX5_sift 45 = .ok (.istore 4, 2) := fd_get adX5_sift_1 (k := 10) rfl
theorem dX5_sift_47 : decode cX5_sift 47 = .ok (.iload 4, 2) := fd_get adX5_sift_1 (k := 11) rfl
theorem dX5_sift_49 : decode cX5_sift 49 = .ok (.bipush 100, 2) := fd_get adX5_sift_1 (k := 12) rfl
theorem dX5_sift_51 : decode cX5_sift 51 = .ok (.if_icmp .ge 55, 3) := fd_get adX5_sift_1 (k := 13) rfl
theorem dX5_sift_54 : decode cX5_sift 54 = .ok (.aload_n 0, 1) := fd_get adX5_sift_1 (k := 14) rfl
theorem dX5_sift_55 : decode cX5_sift 55 = .ok (.getfield 11, 3) := fd_get adX5_sift_1 (k := 15) rfl
theorem dX5_sift_58 : decode cX5_sift 58 = .ok (.iload_n 1, 1) := fd_get adX5_sift_2 (k := 0) rfl
theorem dX5_sift_59 : decode cX5_sift 59 = .ok (.aaload, 1) := fd_get adX5_sift_2 (k := 1) rfl
theorem dX5_sift_60 : decode cX5_sift 60 = .ok (.iload 4, 2) := fd_get adX5_sift_2 (k := 2) rfl
theorem dX5_sift_62 : decode cX5_sift 62 = .ok (.iaload, 1) := fd_get adX5_sift_2 (k := 3) rfl
theorem dX5_sift_63 : decode cX5_sift 63 = .ok (.sipush (-10000), 3) := fd_get adX5_sift_2 (k := 4) rfl
theorem dX5_sift_66 : decode cX5_sift 66 = .ok (.if_icmp .eq 34, 3) := fd_get adX5_sift_2 (k := 5) rfl
theorem dX5_sift_69 : decode cX5_sift 69 = .ok (.aload_n 0, 1) := fd_get adX5_sift_2 (k := 6) rfl
theorem dX5_sift_70 : decode cX5_sift 70 = .ok (.getfield 11, 3) := fd_get adX5_sift_2 (k := 7) rfl
theorem dX5_sift_73 : decode cX5_sift 73 = .ok (.iload_n 1, 1) := fd_get adX5_sift_2 (k := 8) rfl
theorem dX5_sift_74 : decode cX5_sift 74 = .ok (.aaload, 1) := fd_get adX5_sift_2 (k := 9) rfl
theorem dX5_sift_75 : decode cX5_sift 75 = .ok (.iload 4, 2) := fd_get adX5_sift_2 (k := 10) rfl
theorem dX5_sift_77 : decode cX5_sift 77 = .ok (.iaload, 1) := fd_get adX5_sift_2 (k := 11) rfl
theorem dX5_sift_78 : decode cX5_sift 78 = .ok (.iload_n 2, 1) := fd_get adX5_sift_2 (k := 12) rfl
theorem dX5_sift_79 : decode cX5_sift 79 = .ok (.irem, 1) := fd_get adX5_sift_2 (k := 13) rfl
theorem dX5_sift_80 : decode cX5_sift 80 = .ok (.ifCond .eq 6, 3) := fd_get adX5_sift_2 (k := 14) rfl
theorem dX5_sift_83 : decode cX5_sift 83 = .ok (.goto 17, 3) := fd_get adX5_sift_2 (k := 15) rfl
theorem dX5_sift_86 : decode cX5_sift 86 = .ok (.aload_n 0, 1) := fd_get adX5_sift_3 (k := 0) rfl
theorem dX5_sift_87 : decode cX5_sift 87 = .ok (.iload_n 1, 1) := fd_get adX5_sift_3 (k := 1) rfl
theorem dX5_sift_88 : decode cX5_sift 88 = .ok (.iload 4, 2) := fd_get adX5_sift_3 (k := 2) rfl
theorem dX5_sift_90 : decode cX5_sift 90 = .ok (.sipush (-10000), 3) := fd_get adX5_sift_3 (k := 3) rfl
theorem dX5_sift_93 : decode cX5_sift 93 = .ok (.invokevirtual 132, 3) := fd_get adX5_sift_3 (k := 4) rfl
theorem dX5_sift_96 : decode cX5_sift 96 = .ok (.pop, 1) := fd_get adX5_sift_3 (k := 5) rfl
theorem dX5_sift_97 : decode cX5_sift 97 = .ok (.iinc 3 1, 3) := fd_get adX5_sift_3 (k := 6) rfl
theorem dX5_sift_100 : decode cX5_sift 100 = .ok (.iinc 4 1, 3) := fd_get adX5_sift_3 (k := 7) rfl
theorem dX5_sift_103 : decode cX5_sift 103 = .ok (.goto (-56), 3) := fd_get adX5_sift_3 (k := 8) rfl
theorem dX5_sift_106 : decode cX5_sift 106 = .ok (.iload_n 3, 1) := fd_get adX5_sift_3 (k := 9) rfl
theorem dX5_sift_107 : decode cX5_sift 107 = .ok (.ireturn, 1) := fd_get adX5_sift_3 (k := 10) rfl
set_option maxRecDepth 20000 in
theorem ggX5_having_X5_one : GoodIn wsX5_having wsX5_one := goodIn_sub (List.forall_mem_cons.mpr ⟨(List.mem_cons_of_mem _ (List.mem_append_left _ (List.mem_of_getElem? (i := 4) rfl))), (fun _ h => absurd h List.not_mem_nil)⟩) (by decide +kernel)
set_option maxRecDepth 20000 in
theorem gX5_having_X5_one : GoodIn wsX5_having (va_wsS RX5 81 yX5_one wsX5_one) := goodIn_app (goodIn_sub (List.forall_mem_cons.mpr ⟨(List.mem_cons_of_mem _ (List.mem_append_left _ (List.mem_of_getElem? (i := 1) rfl))), (List.forall_mem_cons.mpr ⟨(List.mem_cons_of_mem _ (List.mem_append_left _ (List.mem_of_getElem? (i := 2) rfl))), (List.forall_mem_cons.mpr ⟨(List.mem_cons_of_mem _ (List.mem_append_left _ (List.mem_of_getElem? (i := 3) rfl))), (fun _ h => absurd h List.not_mem_nil)⟩)⟩)⟩) (by decide +kernel)) ggX5_having_X5_one
theorem adX5_having_0 : fd_rows (cX5_having.data.toList.drop 0) 0 [(0, some (.iconst 0), 1), (1, some (.istore_n 3), 1), (2, some (.aload_n 0), 1), (3, some (.getfield 11), 3), (6, some (.iload_n 1), 1), (7, some (.aaload), 1), (8, some (.astore 4), 2), (10, some (.aload 4), 2), (12, some (.arraylength), 1), (13, some (.istore 5), 2), (15, some (.iconst 0), 1), (16, some (.istore 6), 2), (18, some (.iload 6), 2), (20, some (.iload 5), 2), (22, some (.if_icmp .ge 33), 3), (25, some (.aload 4), 2)] = true := by decide +kernel
theorem adX5_having_1 : fd_rows (cX5_having.data.toList.drop 27) 27 [(27, some (.iload 6), 2), (29, some (.iaload), 1), (30, some (.istore 7), 2), (32, some (.iload_n 3), 1), (33, some (.iload 7), 2), (35, some (.iload_n 2), 1), (36, some (.if_icmp .ne 7), 3), (39, some (.iconst 1), 1), (40, some (.goto 4), 3), (43, some (.iconst 0), 1), (44, some (.invokestatic 81), 3), (47, some (.iadd), 1), (48, some (.istore_n 3), 1), (49, some (.iinc 6 1), 3), (52, some (.goto (-34)), 3), (55, some (.iload_n 3), 1)] = true := by decide +kernel
theorem adX5_having_2 : fd_rows (cX5_having.data.toList.drop 56) 56 [(56, some (.ireturn), 1)] = true := by decide +kernel
theorem dX5_having_0 : decode cX5_having 0 = .ok (.iconst 0, 1) := fd_get adX5_having_0 (k := 0) rfl
theorem dX5_having_1 : decode cX5_having 1 = .ok (.istore_n 3, 1) := fd_get adX5_having_0 (k := 1) rfl
theorem dX5_having_2 : decode cX5_having 2 = .ok (.aload_n 0, 1) := fd_get adX5_having_0 (k := 2) rfl
theorem dX5_having_3 : decode cX5_having 3 = .ok (.getfield 11, 3) := fd_get adX5_having_0 (k := 3) rfl
theorem dX5_having_6 : decode cX5_having 6 = .ok (.iload_n 1, 1) := fd_get adX5_having_0 (k := 4) rfl
theorem dX5_having_7 : decode cX5_having 7 = .ok (.aaload, 1) := fd_get adX5_having_0 (k := 5) rfl
theorem dX5_having_8 : decode cX5_having 8 = .ok (.astore 4, 2) := fd_get adX5_having_0 (k := 6) rfl
theorem dX5_having_10 : decode cX5_having 10 = .ok (.aload 4, 2) := fd_get adX5_having_0 (k := 7) rfl
theorem dX5_having_12 : decode cX5_having 12 = .ok (.arraylength, 1) := fd_get adX5_having_0 (k := 8) rfl
theorem dX5_having_13 : decode cX5_having 13 = .ok (.istore 5, 2) := fd_get adX5_having_0 (k := 9) rfl
theorem dX5_having_15 : decode cX5_having 15 = .ok (.iconst 0, 1) := fd_get adX5_having_0 (k := 10) rfl
theorem dX5_having_16 : decode cX5_having 16 = .ok (.istore 6, 2) := fd_get adX5_having_0 (k := 11) rfl
theorem dX5_having_18 : decode cX5_having 18 = .ok (.iload 6, 2) := fd_get adX5_having_0 (k := 12) rfl
theorem dX5_having_20 : decode cX5_having 20 = .ok (.iload 5, 2) := fd_get adX5_having_0 (k := 13) rfl
theorem dX5_having_22 : decode cX5_having 22 = .ok (.if_icmp .ge 33, 3) := fd_get adX5_having_0 (k := 14) rfl
theorem dX5_having_25 : decode cX5_having 25 = .ok (.aload 4, 2) := fd_get adX5_having_0 (k := 15) rfl
theorem dX5_having_27 : decode cX5_having 27 = .ok (.iload 6, 2) := fd_get adX5_having_1 (k := 0) rfl
theorem dX5_having_29 : decode cX5_having 29 = .ok (.iaload, 1) := fd_get adX5_having_1 (k := 1) rfl
theorem dX5_having_30 : decode cX5_having 30 = .ok (.istore 7, 2) := fd_get adX5_having_1 (k := 2) rfl
theorem dX5_having_32 : decode cX5_having 32 = .ok (.iload_n 3, 1) := fd_get adX5_having_1 (k := 3) rfl
theorem dX5_having_33 : decode cX5_having 33 = .ok (.iload 7, 2) := fd_get adX5_having_1 (k := 4) rfl
theorem dX5_having_35 : decode cX5_having 35 = .ok (.iload_n 2, 1) := fd_get adX5_having_1 (k := 5) rfl
theorem dX5_having_36 : decode cX5_having 36 = .ok (.if_icmp .ne 7, 3) := fd_get adX5_having_1 (k := 6) rfl
theorem dX5_having_39 : decode cX5_having 39 = .ok (.iconst 1, 1) := fd_get adX5_having_1 (k := 7) rfl
theorem dX5_having_40 : decode cX5_having 40 = .ok (.goto 4, 3) := fd_get adX5_having_1 (k := 8) rfl
theorem dX5_having_43 : decode cX5_having 43 = .ok (.iconst 0, 1) := fd_get adX5_having_1 (k := 9) rfl
theorem dX5_having_44 : decode cX5_having 44 = .ok (.invokestatic 81, 3) := fd_get adX5_having_1 (k := 10) rfl
theorem dX5_having_47 : decode cX5_having 47 = .ok (.iadd, 1) := fd_get adX5_having_1 (k := 11) rfl
theorem dX5_having_48 : decode cX5_having 48 = .ok (.istore_n 3, 1) := fd_get adX5_having_1 (k := 12) rfl
theorem dX5_having_49 : decode cX5_having 49 = .ok (.iinc 6 1, 3) := fd_get adX5_having_1 (k := 13) rfl
theorem dX5_having_52 : decode cX5_having 52 = .ok (.goto (-34), 3) := fd_get adX5_having_1 (k := 14) rfl
theorem dX5_having_55 : decode cX5_having 55 = .ok (.iload_n 3, 1) := fd_get adX5_having_1 (k := 15) rfl
theorem dX5_having_56 : decode cX5_having 56 = .ok (.ireturn, 1) := fd_get adX5_having_2 (k := 0) rfl
theorem mwsX5_strikeValue_0 : ∀ w ∈ wsX5_strikeValue_r1, w ∈ wsX5_strikeValue := fun w h => (List.mem_cons_of_mem _ (List.mem_append_left _ (List.mem_append_left _ h)))
theorem mwsX5_strikeValue_1 : ∀ w ∈ wsX5_strikeValue_r2, w ∈ wsX5_strikeValue := fun w h => (List.mem_cons_of_mem _ (List.mem_append_left _ (List.mem_append_right _ h)))
theorem mwsX5_strikeValue_2 : ∀ w ∈ wsX50, w ∈ wsX5_strikeValue := fun w h => (List.mem_cons_of_mem _ (List.mem_append_right _ h))
set_option maxRecDepth 20000 in
theorem ggX5_strikeValue_X5_isNoBook : GoodIn wsX5_strikeValue wsX5_isNoBook := goodIn_sub (List.forall_mem_cons.mpr ⟨(mwsX5_strikeValue_0 _ (List.mem_of_getElem? (i := 4) rfl)), (List.forall_mem_cons.mpr ⟨(mwsX5_strikeValue_0 _ (List.mem_of_getElem? (i := 5) rfl)), (List.forall_mem_cons.mpr ⟨(mwsX5_strikeValue_0 _ (List.mem_of_getElem? (i := 6) rfl)), (List.forall_mem_cons.mpr ⟨(mwsX5_strikeValue_0 _ (List.mem_of_getElem? (i := 3) rfl)), (List.forall_mem_cons.mpr ⟨(mwsX5_strikeValue_0 _ (List.mem_of_getElem? (i := 7) rfl)), (fun _ h => absurd h List.not_mem_nil)⟩)⟩)⟩)⟩)⟩) (by decide +kernel)
set_option maxRecDepth 20000 in
theorem gX5_strikeValue_X5_isNoBook : GoodIn wsX5_strikeValue (va_wsS RX5 53 yX5_isNoBook wsX5_isNoBook) := goodIn_app (goodIn_sub (List.forall_mem_cons.mpr ⟨(mwsX5_strikeValue_0 _ (List.mem_of_getElem? (i := 1) rfl)), (List.forall_mem_cons.mpr ⟨(mwsX5_strikeValue_0 _ (List.mem_of_getElem? (i := 2) rfl)), (List.forall_mem_cons.mpr ⟨(mwsX5_strikeValue_0 _ (List.mem_of_getElem? (i := 3) rfl)), (fun _ h => absurd h List.not_mem_nil)⟩)⟩)⟩) (by decide +kernel)) ggX5_strikeValue_X5_isNoBook
set_option maxRecDepth 20000 in
theorem ggX5_strikeValue_X5_start : GoodIn wsX5_strikeValue wsX5_start := goodIn_sub (tk_mem 5 _ (fun w h => (mwsX5_strikeValue_0 _ (tkB_mem 11 5 h))) (List.forall_mem_cons.mpr ⟨(mwsX5_strikeValue_0 _ (List.mem_of_getElem? (i := 3) rfl)), (List.forall_mem_cons.mpr ⟨(mwsX5_strikeValue_0 _ (List.mem_of_getElem? (i := 16) rfl)), (tk_mem 13 _ (fun w h => (mwsX5_strikeValue_2 _ (tkB_mem 0 13 h))) (fun _ h => absurd h List.not_mem_nil))⟩)⟩)) (by decide +kernel)
set_option maxRecDepth 20000 in
theorem gX5_strikeValue_X5_start : GoodIn wsX5_strikeValue (wsV RX5 57 RX5 yX5_start wsX5_start) := goodIn_app (goodIn_sub (List.forall_mem_cons.mpr ⟨(mwsX5_strikeValue_0 _ (List.mem_of_getElem? (i := 8) rfl)), (List.forall_mem_cons.mpr ⟨(mwsX5_strikeValue_0 _ (List.mem_of_getElem? (i := 9) rfl)), (List.forall_mem_cons.mpr ⟨(mwsX5_strikeValue_0 _ (List.mem_of_getElem? (i := 10) rfl)), (List.forall_mem_cons.mpr ⟨(mwsX5_strikeValue_0 _ (List.mem_of_getElem? (i := 3) rfl)), (fun _ h => absurd h List.not_mem_nil)⟩)⟩)⟩)⟩) (by decide +kernel)) ggX5_strikeValue_X5_start
set_option maxRecDepth 20000 in
theorem ggX5_strikeValue_X5_isNoValue : GoodIn wsX5_strikeValue wsX5_isNoValue := goodIn_sub (List.forall_mem_cons.mpr ⟨(mwsX5_strikeValue_0 _ (List.mem_of_getElem? (i := 19) rfl)), (List.forall_mem_cons.mpr ⟨(mwsX5_strikeValue_0 _ (List.mem_of_getElem? (i := 5) rfl)), (List.forall_mem_cons.mpr ⟨(mwsX5_strikeValue_0 _ (List.mem_of_getElem? (i := 6) rfl)), (List.forall_mem_cons.mpr ⟨(mwsX5_strikeValue_0 _ (List.mem_of_getElem? (i := 3) rfl)), (List.forall_mem_cons.mpr ⟨(mwsX5_strikeValue_0 _ (List.mem_of_getElem? (i := 7) rfl)), (fun _ h => absurd h List.not_mem_nil)⟩)⟩)⟩)⟩)⟩) (by decide +kernel)
set_option maxRecDepth 20000 in
theorem gX5_strikeValue_X5_isNoValue : GoodIn wsX5_strikeValue (va_wsS RX5 63 yX5_isNoValue wsX5_isNoValue) := goodIn_app (goodIn_sub (List.forall_mem_cons.mpr ⟨(mwsX5_strikeValue_0 _ (List.mem_of_getElem? (i := 17) rfl)), (List.forall_mem_cons.mpr ⟨(mwsX5_strikeValue_0 _ (List.mem_of_getElem? (i := 18) rfl)), (List.forall_mem_cons.mpr ⟨(mwsX5_strikeValue_0 _ (List.mem_of_getElem? (i := 3) rfl)), (fun _ h => absurd h List.not_mem_nil)⟩)⟩)⟩) (by decide +kernel)) ggX5_strikeValue_X5_isNoValue
set_option maxRecDepth 20000 in
theorem ggX5_strikeValue_X5_refuse : GoodIn wsX5_strikeValue wsX5_refuse := goodIn_sub (List.forall_mem_cons.mpr ⟨(mwsX5_strikeValue_0 _ (List.mem_of_getElem? (i := 16) rfl)), (List.forall_mem_cons.mpr ⟨(mwsX5_strikeValue_0 _ (List.mem_of_getElem? (i := 12) rfl)), (tk_mem 13 _ (fun w h => (mwsX5_strikeValue_2 _ (tkB_mem 0 13 h))) (fun _ h => absurd h List.not_mem_nil))⟩)⟩) (by decide +kernel)
set_option maxRecDepth 20000 in
theorem gX5_strikeValue_X5_refuse : GoodIn wsX5_strikeValue (wsV RX5 45 RX5 yX5_refuse wsX5_refuse) := goodIn_app (goodIn_sub (List.forall_mem_cons.mpr ⟨(mwsX5_strikeValue_0 _ (List.mem_of_getElem? (i := 13) rfl)), (List.forall_mem_cons.mpr ⟨(mwsX5_strikeValue_0 _ (List.mem_of_getElem? (i := 14) rfl)), (List.forall_mem_cons.mpr ⟨(mwsX5_strikeValue_0 _ (List.mem_of_getElem? (i := 15) rfl)), (List.forall_mem_cons.mpr ⟨(mwsX5_strikeValue_0 _ (List.mem_of_getElem? (i := 3) rfl)), (fun _ h => absurd h List.not_mem_nil)⟩)⟩)⟩)⟩) (by decide +kernel)) ggX5_strikeValue_X5_refuse
set_option maxRecDepth 20000 in
theorem ggX5_strikeValue_X5_having : GoodIn wsX5_strikeValue wsX5_having := goodIn_sub (List.forall_mem_cons.mpr ⟨(mwsX5_strikeValue_0 _ (List.mem_of_getElem? (i := 23) rfl)), (List.forall_mem_cons.mpr ⟨(mwsX5_strikeValue_0 _ (List.mem_of_getElem? (i := 0) rfl)), (List.forall_mem_cons.mpr ⟨(mwsX5_strikeValue_1 _ (List.mem_of_getElem? (i := 0) rfl)), (List.forall_mem_cons.mpr ⟨(mwsX5_strikeValue_1 _ (List.mem_of_getElem? (i := 1) rfl)), (List.forall_mem_cons.mpr ⟨(mwsX5_strikeValue_0 _ (List.mem_of_getElem? (i := 3) rfl)), (List.forall_mem_cons.mpr ⟨(mwsX5_strikeValue_1 _ (List.mem_of_getElem? (i := 2) rfl)), (tk_mem 13 _ (fun w h => (mwsX5_strikeValue_2 _ (tkB_mem 0 13 h))) (fun _ h => absurd h List.not_mem_nil))⟩)⟩)⟩)⟩)⟩)⟩) (by decide +kernel)
set_option maxRecDepth 20000 in
theorem gX5_strikeValue_X5_having : GoodIn wsX5_strikeValue (wsV RX5 152 RX5 yX5_having wsX5_having) := goodIn_app (goodIn_sub (List.forall_mem_cons.mpr ⟨(mwsX5_strikeValue_0 _ (List.mem_of_getElem? (i := 20) rfl)), (List.forall_mem_cons.mpr ⟨(mwsX5_strikeValue_0 _ (List.mem_of_getElem? (i := 21) rfl)), (List.forall_mem_cons.mpr ⟨(mwsX5_strikeValue_0 _ (List.mem_of_getElem? (i := 22) rfl)), (List.forall_mem_cons.mpr ⟨(mwsX5_strikeValue_0 _ (List.mem_of_getElem? (i := 3) rfl)), (fun _ h => absurd h List.not_mem_nil)⟩)⟩)⟩)⟩) (by decide +kernel)) ggX5_strikeValue_X5_having
set_option maxRecDepth 20000 in
theorem ggX5_strikeValue_X5_touch : GoodIn wsX5_strikeValue wsX5_touch := goodIn_sub (List.forall_mem_cons.mpr ⟨(mwsX5_strikeValue_1 _ (List.mem_of_getElem? (i := 6) rfl)), (List.forall_mem_cons.mpr ⟨(mwsX5_strikeValue_1 _ (List.mem_of_getElem? (i := 7) rfl)), (List.forall_mem_cons.mpr ⟨(mwsX5_strikeValue_1 _ (List.mem_of_getElem? (i := 8) rfl)), (tk_mem 13 _ (fun w h => (mwsX5_strikeValue_2 _ (tkB_mem 0 13 h))) (fun _ h => absurd h List.not_mem_nil))⟩)⟩)⟩) (by decide +kernel)
set_option maxRecDepth 20000 in
theorem gX5_strikeValue_X5_touch : GoodIn wsX5_strikeValue (wsV RX5 142 RX5 yX5_touch wsX5_touch) := goodIn_app (goodIn_sub (List.forall_mem_cons.mpr ⟨(mwsX5_strikeValue_1 _ (List.mem_of_getElem? (i := 3) rfl)), (List.forall_mem_cons.mpr ⟨(mwsX5_strikeValue_1 _ (List.mem_of_getElem? (i := 4) rfl)), (List.forall_mem_cons.mpr ⟨(mwsX5_strikeValue_1 _ (List.mem_of_getElem? (i := 5) rfl)), (List.forall_mem_cons.mpr ⟨(mwsX5_strikeValue_0 _ (List.mem_of_getElem? (i := 3) rfl)), (fun _ h => absurd h List.not_mem_nil)⟩)⟩)⟩)⟩) (by decide +kernel)) ggX5_strikeValue_X5_touch
set_option maxRecDepth 20000 in
theorem ggX5_strikeValue_X5_set : GoodIn wsX5_strikeValue wsX5_set := goodIn_sub (List.forall_mem_cons.mpr ⟨(mwsX5_strikeValue_1 _ (List.mem_of_getElem? (i := 12) rfl)), (List.forall_mem_cons.mpr ⟨(mwsX5_strikeValue_0 _ (List.mem_of_getElem? (i := 0) rfl)), (List.forall_mem_cons.mpr ⟨(mwsX5_strikeValue_1 _ (List.mem_of_getElem? (i := 7) rfl)), (List.forall_mem_cons.mpr ⟨(mwsX5_strikeValue_1 _ (List.mem_of_getElem? (i := 13) rfl)), (tk_mem 13 _ (fun w h => (mwsX5_strikeValue_2 _ (tkB_mem 0 13 h))) (fun _ h => absurd h List.not_mem_nil))⟩)⟩)⟩)⟩) (by decide +kernel)
set_option maxRecDepth 20000 in
theorem gX5_strikeValue_X5_set : GoodIn wsX5_strikeValue (wsV RX5 132 RX5 yX5_set wsX5_set) := goodIn_app (goodIn_sub (List.forall_mem_cons.mpr ⟨(mwsX5_strikeValue_1 _ (List.mem_of_getElem? (i := 9) rfl)), (List.forall_mem_cons.mpr ⟨(mwsX5_strikeValue_1 _ (List.mem_of_getElem? (i := 10) rfl)), (List.forall_mem_cons.mpr ⟨(mwsX5_strikeValue_1 _ (List.mem_of_getElem? (i := 11) rfl)), (List.forall_mem_cons.mpr ⟨(mwsX5_strikeValue_0 _ (List.mem_of_getElem? (i := 3) rfl)), (fun _ h => absurd h List.not_mem_nil)⟩)⟩)⟩)⟩) (by decide +kernel)) ggX5_strikeValue_X5_set
theorem adX5_strikeValue_0 : fd_rows (cX5_strikeValue.data.toList.drop 0) 0 [(0, some (.aload_n 0), 1), (1, some (.iload_n 1), 1), (2, some (.invokestatic 53), 3), (5, some (.iconst 1), 1), (6, some (.invokevirtual 57), 3), (9, some (.ifCond .ne 38), 3), (12, some (.aload_n 0), 1), (13, some (.iload_n 2), 1), (14, some (.invokestatic 63), 3), (17, some (.iconst 2), 1), (18, some (.invokevirtual 45), 3), (21, some (.ifCond .ne 26), 3), (24, some (.aload_n 0), 1), (25, some (.aload_n 0), 1), (26, some (.iload_n 1), 1), (27, some (.iload_n 2), 1)] = true := by decide +kernel
theorem adX5_strikeValue_1 : fd_rows (cX5_strikeValue.data.toList.drop 28) 28 [(28, some (.invokevirtual 152), 3), (31, some (.iconst 1), 1), (32, some (.if_icmp .le 7), 3), (35, some (.iconst 1), 1), (36, some (.goto 4), 3), (39, some (.iconst 0), 1), (40, some (.iconst 3), 1), (41, some (.invokevirtual 45), 3), (44, some (.ifCond .eq 5), 3), (47, some (.iconst 0), 1), (48, some (.ireturn), 1), (49, some (.aload_n 0), 1), (50, some (.iload_n 1), 1), (51, some (.invokevirtual 142), 3), (54, some (.iconst 0), 1), (55, some (.istore_n 3), 1)] = true := by decide +kernel
theorem adX5_strikeValue_2 : fd_rows (cX5_strikeValue.data.toList.drop 56) 56 [(56, some (.iload_n 3), 1), (57, some (.bipush 100), 2), (59, some (.if_icmp .ge 36), 3), (62, some (.aload_n 0), 1), (63, some (.getfield 11), 3), (66, some (.iload_n 1), 1), (67, some (.aaload), 1), (68, some (.iload_n 3), 1), (69, some (.iaload), 1), (70, some (.iload_n 2), 1), (71, some (.if_icmp .eq 6), 3), (74, some (.goto 15), 3), (77, some (.aload_n 0), 1), (78, some (.iload_n 1), 1), (79, some (.iload_n 3), 1), (80, some (.sipush (-10000)), 3)] = true := by decide +kernel
theorem adX5_strikeValue_3 : fd_rows (cX5_strikeValue.data.toList.drop 83) 83 [(83, some (.invokevirtual 132), 3), (86, some (.pop), 1), (87, some (.iconst 1), 1), (88, some (.ireturn), 1), (89, some (.iinc 3 1), 3), (92, some (.goto (-36)), 3), (95, some (.iconst 0), 1), (96, some (.ireturn), 1)] = true := by decide +kernel
theorem dX5_strikeValue_0 : decode cX5_strikeValue 0 = .ok (.aload_n 0, 1) := fd_get adX5_strikeValue_0 (k := 0) rfl
theorem dX5_strikeValue_1 : decode cX5_strikeValue 1 = .ok (.iload_n 1, 1) := fd_get adX5_strikeValue_0 (k := 1) rfl
theorem dX5_strikeValue_2 : decode cX5_strikeValue 2 = .ok (.invokestatic 53, 3) := fd_get adX5_strikeValue_0 (k := 2) rfl
theorem dX5_strikeValue_5 : decode cX5_strikeValue 5 = .ok (.iconst 1, 1) := fd_get adX5_strikeValue_0 (k := 3) rfl
theorem dX5_strikeValue_6 : decode cX5_strikeValue 6 = .ok (.invokevirtual 57, 3) := fd_get adX5_strikeValue_0 (k := 4) rfl
theorem dX5_strikeValue_9 : decode cX5_strikeValue 9 = .ok (.ifCond .ne 38, 3) := fd_get adX5_strikeValue_0 (k := 5) rfl
theorem dX5_strikeValue_12 : decode cX5_strikeValue 12 = .ok (.aload_n 0, 1) := fd_get adX5_strikeValue_0 (k := 6) rfl
theorem dX5_strikeValue_13 : decode cX5_strikeValue 13 = .ok (.iload_n 2, 1) := fd_get adX5_strikeValue_0 (k := 7) rfl
theorem dX5_strikeValue_14 : decode cX5_strikeValue 14 = .ok (.invokestatic 63, 3) := fd_get adX5_strikeValue_0 (k := 8) rfl
theorem dX5_strikeValue_17 : decode cX5_strikeValue 17 = .ok (.iconst 2, 1) := fd_get adX5_strikeValue_0 (k := 9) rfl
theorem dX5_strikeValue_18 : decode cX5_strikeValue 18 = .ok (.invokevirtual 45, 3) := fd_get adX5_strikeValue_0 (k := 10) rfl
theorem dX5_strikeValue_21 : decode cX5_strikeValue 21 = .ok (.ifCond .ne 26, 3) := fd_get adX5_strikeValue_0 (k := 11) rfl
theorem dX5_strikeValue_24 : decode cX5_strikeValue 24 = .ok (.aload_n 0, 1) := fd_get adX5_strikeValue_0 (k := 12) rfl
theorem dX5_strikeValue_25 : decode cX5_strikeValue 25 = .ok (.aload_n 0, 1) := fd_get adX5_strikeValue_0 (k := 13) rfl
theorem dX5_strikeValue_26 : decode cX5_strikeValue 26 = .ok (.iload_n 1, 1) := fd_get adX5_strikeValue_0 (k := 14) rfl
theorem dX5_strikeValue_27 : decode cX5_strikeValue 27 = .ok (.iload_n 2, 1) := fd_get adX5_strikeValue_0 (k := 15) rfl
theorem dX5_strikeValue_28 : decode cX5_strikeValue 28 = .ok (.invokevirtual 152, 3) := fd_get adX5_strikeValue_1 (k := 0) rfl
theorem dX5_strikeValue_31 : decode cX5_strikeValue 31 = .ok (.iconst 1, 1) := fd_get adX5_strikeValue_1 (k := 1) rfl
theorem dX5_strikeValue_32 : decode cX5_strikeValue 32 = .ok (.if_icmp .le 7, 3) := fd_get adX5_strikeValue_1 (k := 2) rfl
theorem dX5_strikeValue_35 : decode cX5_strikeValue 35 = .ok (.iconst 1, 1) := fd_get adX5_strikeValue_1 (k := 3) rfl
theorem dX5_strikeValue_36 : decode cX5_strikeValue 36 = .ok (.goto 4, 3) := fd_get adX5_strikeValue_1 (k := 4) rfl
theorem dX5_strikeValue_39 : decode cX5_strikeValue 39 = .ok (.iconst 0, 1) := fd_get adX5_strikeValue_1 (k := 5) rfl
theorem dX5_strikeValue_40 : decode cX5_strikeValue 40 = .ok (.iconst 3, 1) := fd_get adX5_strikeValue_1 (k := 6) rfl
theorem dX5_strikeValue_41 : decode cX5_strikeValue 41 = .ok (.invokevirtual 45, 3) := fd_get adX5_strikeValue_1 (k := 7) rfl
theorem dX5_strikeValue_44 : decode cX5_strikeValue 44 = .ok (.ifCond .eq 5, 3) := fd_get adX5_strikeValue_1 (k := 8) rfl
theorem dX5_strikeValue_47 : decode cX5_strikeValue 47 = .ok (.iconst 0, 1) := fd_get adX5_strikeValue_1 (k := 9) rfl
theorem dX5_strikeValue_48 : decode cX5_strikeValue 48 = .ok (.ireturn, 1) := fd_get adX5_strikeValue_1 (k := 10) rfl
theorem dX5_strikeValue_49 : decode cX5_strikeValue 49 = .ok (.aload_n 0, 1) := fd_get adX5_strikeValue_1 (k := 11) rfl
theorem dX5_strikeValue_50 : decode cX5_strikeValue 50 = .ok (.iload_n 1, 1) := fd_get adX5_strikeValue_1 (k := 12) rfl
theorem dX5_strikeValue_51 : decode cX5_strikeValue 51 = .ok (.invokevirtual 142, 3) := fd_get adX5_strikeValue_1 (k := 13) rfl
theorem dX5_strikeValue_54 : decode cX5_strikeValue 54 = .ok (.iconst 0, 1) := fd_get adX5_strikeValue_1 (k := 14) rfl
theorem dX5_strikeValue_55 : decode cX5_strikeValue 55 = .ok (.istore_n 3, 1) := fd_get adX5_strikeValue_1 (k := 15) rfl
theorem dX5_strikeValue_56 : decode cX5_strikeValue 56 = .ok (.iload_n 3, 1) := fd_get adX5_strikeValue_2 (k := 0) rfl
theorem dX5_strikeValue_57 : decode cX5_strikeValue 57 = .ok (.bipush 100, 2) := fd_get adX5_strikeValue_2 (k := 1) rfl
theorem dX5_strikeValue_59 : decode cX5_strikeValue 59 = .ok (.if_icmp .ge 36, 3) := fd_get adX5_strikeValue_2 (k := 2) rfl
theorem dX5_strikeValue_62 : decode cX5_strikeValue 62 = .ok (.aload_n 0, 1) := fd_get adX5_strikeValue_2 (k := 3) rfl
theorem dX5_strikeValue_63 : decode cX5_strikeValue 63 = .ok (.getfield 11, 3) := fd_get adX5_strikeValue_2 (k := 4) rfl
theorem dX5_strikeValue_66 : decode cX5_strikeValue 66 = .ok (.iload_n 1, 1) := fd_get adX5_strikeValue_2 (k := 5) rfl
theorem dX5_strikeValue_67 : decode cX5_strikeValue 67 = .ok (.aaload, 1) := fd_get adX5_strikeValue_2 (k := 6) rfl
theorem dX5_strikeValue_68 : decode cX5_strikeValue 68 = .ok (.iload_n 3, 1) := fd_get adX5_strikeValue_2 (k := 7) rfl
theorem dX5_strikeValue_69 : decode cX5_strikeValue 69 = .ok (.iaload, 1) := fd_get adX5_strikeValue_2 (k := 8) rfl
theorem dX5_strikeValue_70 : decode cX5_strikeValue 70 = .ok (.iload_n 2, 1) := fd_get adX5_strikeValue_2 (k := 9) rfl
theorem dX5_strikeValue_71 : decode cX5_strikeValue 71 = .ok (.if_icmp .eq 6, 3) := fd_get adX5_strikeValue_2 (k := 10) rfl
theorem dX5_strikeValue_74 : decode cX5_strikeValue 74 = .ok (.goto 15, 3) := fd_get adX5_strikeValue_2 (k := 11) rfl
theorem dX5_strikeValue_77 : decode cX5_strikeValue 77 = .ok (.aload_n 0, 1) := fd_get adX5_strikeValue_2 (k := 12) rfl
theorem dX5_strikeValue_78 : decode cX5_strikeValue 78 = .ok (.iload_n 1, 1) := fd_get adX5_strikeValue_2 (k := 13) rfl
theorem dX5_strikeValue_79 : decode cX5_strikeValue 79 = .ok (.iload_n 3, 1) := fd_get adX5_strikeValue_2 (k := 14) rfl
theorem dX5_strikeValue_80 : decode cX5_strikeValue 80 = .ok (.sipush (-10000), 3) := fd_get adX5_strikeValue_2 (k := 15) rfl
theorem dX5_strikeValue_83 : decode cX5_strikeValue 83 = .ok (.invokevirtual 132, 3) := fd_get adX5_strikeValue_3 (k := 0) rfl
theorem dX5_strikeValue_86 : decode cX5_strikeValue 86 = .ok (.pop, 1) := fd_get adX5_strikeValue_3 (k := 1) rfl
theorem dX5_strikeValue_87 : decode cX5_strikeValue 87 = .ok (.iconst 1, 1) := fd_get adX5_strikeValue_3 (k := 2) rfl
theorem dX5_strikeValue_88 : decode cX5_strikeValue 88 = .ok (.ireturn, 1) := fd_get adX5_strikeValue_3 (k := 3) rfl
theorem dX5_strikeValue_89 : decode cX5_strikeValue 89 = .ok (.iinc 3 1, 3) := fd_get adX5_strikeValue_3 (k := 4) rfl
theorem dX5_strikeValue_92 : decode cX5_strikeValue 92 = .ok (.goto (-36), 3) := fd_get adX5_strikeValue_3 (k := 5) rfl
theorem dX5_strikeValue_95 : decode cX5_strikeValue 95 = .ok (.iconst 0, 1) := fd_get adX5_strikeValue_3 (k := 6) rfl
theorem dX5_strikeValue_96 : decode cX5_strikeValue 96 = .ok (.ireturn, 1) := fd_get adX5_strikeValue_3 (k := 7) rfl
theorem mwsX5_clear_0 : ∀ w ∈ wsX5_clear_r1, w ∈ wsX5_clear := fun w h => (List.mem_cons_of_mem _ (List.mem_append_left _ (List.mem_append_left _ h)))
theorem mwsX5_clear_1 : ∀ w ∈ wsX5_clear_r2, w ∈ wsX5_clear := fun w h => (List.mem_cons_of_mem _ (List.mem_append_left _ (List.mem_append_right _ (List.mem_append_left _ h))))
theorem mwsX5_clear_2 : ∀ w ∈ wsX5_clear_r3, w ∈ wsX5_clear := fun w h => (List.mem_cons_of_mem _ (List.mem_append_left _ (List.mem_append_right _ (List.mem_append_right _ h))))
theorem mwsX5_clear_3 : ∀ w ∈ wsX50, w ∈ wsX5_clear := fun w h => (List.mem_cons_of_mem _ (List.mem_append_right _ h))
set_option maxRecDepth 20000 in
theorem ggX5_clear_X5_isNoBook : GoodIn wsX5_clear wsX5_isNoBook := goodIn_sub (List.forall_mem_cons.mpr ⟨(mwsX5_clear_0 _ (List.mem_of_getElem? (i := 3) rfl)), (List.forall_mem_cons.mpr ⟨(mwsX5_clear_0 _ (List.mem_of_getElem? (i := 4) rfl)), (List.forall_mem_cons.mpr ⟨(mwsX5_clear_0 _ (List.mem_of_getElem? (i := 5) rfl)), (List.forall_mem_cons.mpr ⟨(mwsX5_clear_0 _ (List.mem_of_getElem? (i := 2) rfl)), (List.forall_mem_cons.mpr ⟨(mwsX5_clear_0 _ (List.mem_of_getElem? (i := 6) rfl)), (fun _ h => absurd h List.not_mem_nil)⟩)⟩)⟩)⟩)⟩) (by decide +kernel)
set_option maxRecDepth 20000 in
theorem gX5_clear_X5_isNoBook : GoodIn wsX5_clear (va_wsS RX5 53 yX5_isNoBook wsX5_isNoBook) := goodIn_app (goodIn_sub (List.forall_mem_cons.mpr ⟨(mwsX5_clear_0 _ (List.mem_of_getElem? (i := 0) rfl)), (List.forall_mem_cons.mpr ⟨(mwsX5_clear_0 _ (List.mem_of_getElem? (i := 1) rfl)), (List.forall_mem_cons.mpr ⟨(mwsX5_clear_0 _ (List.mem_of_getElem? (i := 2) rfl)), (fun _ h => absurd h List.not_mem_nil)⟩)⟩)⟩) (by decide +kernel)) ggX5_clear_X5_isNoBook
set_option maxRecDepth 20000 in
theorem ggX5_clear_X5_start : GoodIn wsX5_clear wsX5_start := goodIn_sub (tk_mem 5 _ (fun w h => (mwsX5_clear_0 _ (tkB_mem 10 5 h))) (List.forall_mem_cons.mpr ⟨(mwsX5_clear_0 _ (List.mem_of_getElem? (i := 2) rfl)), (List.forall_mem_cons.mpr ⟨(mwsX5_clear_0 _ (List.mem_of_getElem? (i := 15) rfl)), (tk_mem 13 _ (fun w h => (mwsX5_clear_3 _ (tkB_mem 0 13 h))) (fun _ h => absurd h List.not_mem_nil))⟩)⟩)) (by decide +kernel)
set_option maxRecDepth 20000 in
theorem gX5_clear_X5_start : GoodIn wsX5_clear (wsV RX5 57 RX5 yX5_start wsX5_start) := goodIn_app (goodIn_sub (List.forall_mem_cons.mpr ⟨(mwsX5_clear_0 _ (List.mem_of_getElem? (i := 7) rfl)), (List.forall_mem_cons.mpr ⟨(mwsX5_clear_0 _ (List.mem_of_getElem? (i := 8) rfl)), (List.forall_mem_cons.mpr ⟨(mwsX5_clear_0 _ (List.mem_of_getElem? (i := 9) rfl)), (List.forall_mem_cons.mpr ⟨(mwsX5_clear_0 _ (List.mem_of_getElem? (i := 2) rfl)), (fun _ h => absurd h List.not_mem_nil)⟩)⟩)⟩)⟩) (by decide +kernel)) ggX5_clear_X5_start
set_option maxRecDepth 20000 in
theorem ggX5_clear_X5_touch : GoodIn wsX5_clear wsX5_touch := goodIn_sub (List.forall_mem_cons.mpr ⟨(mwsX5_clear_0 _ (List.mem_of_getElem? (i := 19) rfl)), (List.forall_mem_cons.mpr ⟨(mwsX5_clear_0 _ (List.mem_of_getElem? (i := 20) rfl)), (List.forall_mem_cons.mpr ⟨(mwsX5_clear_0 _ (List.mem_of_getElem? (i := 21) rfl)), (tk_mem 13 _ (fun w h => (mwsX5_clear_3 _ (tkB_mem 0 13 h))) (fun _ h => absurd h List.not_mem_nil))⟩)⟩)⟩) (by decide +kernel)
set_option maxRecDepth 20000 in
theorem gX5_clear_X5_touch : GoodIn wsX5_clear (wsV RX5 142 RX5 yX5_touch wsX5_touch) := goodIn_app (goodIn_sub (List.forall_mem_cons.mpr ⟨(mwsX5_clear_0 _ (List.mem_of_getElem? (i := 16) rfl)), (List.forall_mem_cons.mpr ⟨(mwsX5_clear_0 _ (List.mem_of_getElem? (i := 17) rfl)), (List.forall_mem_cons.mpr ⟨(mwsX5_clear_0 _ (List.mem_of_getElem? (i := 18) rfl)), (List.forall_mem_cons.mpr ⟨(mwsX5_clear_0 _ (List.mem_of_getElem? (i := 2) rfl)), (fun _ h => absurd h List.not_mem_nil)⟩)⟩)⟩)⟩) (by decide +kernel)) ggX5_clear_X5_touch
set_option maxRecDepth 20000 in
theorem ggX5_clear_X5_whole : GoodIn wsX5_clear wsX5_whole := goodIn_sub (List.forall_mem_cons.mpr ⟨(mwsX5_clear_1 _ (List.mem_of_getElem? (i := 0) rfl)), (List.forall_mem_cons.mpr ⟨(mwsX5_clear_1 _ (List.mem_of_getElem? (i := 1) rfl)), (fun _ h => absurd h List.not_mem_nil)⟩)⟩) (by decide +kernel)
set_option maxRecDepth 20000 in
theorem gX5_clear_X5_whole : GoodIn wsX5_clear (va_wsS RX5 85 yX5_whole wsX5_whole) := goodIn_app (goodIn_sub (List.forall_mem_cons.mpr ⟨(mwsX5_clear_0 _ (List.mem_of_getElem? (i := 22) rfl)), (List.forall_mem_cons.mpr ⟨(mwsX5_clear_0 _ (List.mem_of_getElem? (i := 23) rfl)), (List.forall_mem_cons.mpr ⟨(mwsX5_clear_0 _ (List.mem_of_getElem? (i := 2) rfl)), (fun _ h => absurd h List.not_mem_nil)⟩)⟩)⟩) (by decide +kernel)) ggX5_clear_X5_whole
set_option maxRecDepth 20000 in
theorem ggX5_clear_X5_strikeAll : GoodIn wsX5_clear wsX5_strikeAll := goodIn_sub (tk_mem 4 _ (fun w h => (mwsX5_clear_1 _ (tkB_mem 5 4 h))) (List.forall_mem_cons.mpr ⟨(mwsX5_clear_0 _ (List.mem_of_getElem? (i := 2) rfl)), (tk_mem 15 _ (fun w h => (mwsX5_clear_1 _ (tkB_mem 9 15 h))) (List.forall_mem_cons.mpr ⟨(mwsX5_clear_2 _ (List.mem_of_getElem? (i := 0) rfl)), (List.forall_mem_cons.mpr ⟨(mwsX5_clear_0 _ (List.mem_of_getElem? (i := 20) rfl)), (List.forall_mem_cons.mpr ⟨(mwsX5_clear_2 _ (List.mem_of_getElem? (i := 1) rfl)), (tk_mem 13 _ (fun w h => (mwsX5_clear_3 _ (tkB_mem 0 13 h))) (fun _ h => absurd h List.not_mem_nil))⟩)⟩)⟩))⟩)) (by decide +kernel)
set_option maxRecDepth 20000 in
theorem gX5_clear_X5_strikeAll : GoodIn wsX5_clear (wsV RX5 156 RX5 yX5_strikeAll wsX5_strikeAll) := goodIn_app (goodIn_sub (List.forall_mem_cons.mpr ⟨(mwsX5_clear_1 _ (List.mem_of_getElem? (i := 2) rfl)), (List.forall_mem_cons.mpr ⟨(mwsX5_clear_1 _ (List.mem_of_getElem? (i := 3) rfl)), (List.forall_mem_cons.mpr ⟨(mwsX5_clear_1 _ (List.mem_of_getElem? (i := 4) rfl)), (List.forall_mem_cons.mpr ⟨(mwsX5_clear_0 _ (List.mem_of_getElem? (i := 2) rfl)), (fun _ h => absurd h List.not_mem_nil)⟩)⟩)⟩)⟩) (by decide +kernel)) ggX5_clear_X5_strikeAll
theorem adX5_clear_0 : fd_rows (cX5_clear.data.toList.drop 0) 0 [(0, some (.aload_n 0), 1), (1, some (.iload_n 1), 1), (2, some (.invokestatic 53), 3), (5, some (.iconst 1), 1), (6, some (.invokevirtual 57), 3), (9, some (.ifCond .eq 5), 3), (12, some (.iconst 0), 1), (13, some (.ireturn), 1), (14, some (.aload_n 0), 1), (15, some (.iload_n 1), 1), (16, some (.invokevirtual 142), 3), (19, some (.aload_n 0), 1), (20, some (.iload_n 1), 1), (21, some (.invokestatic 85), 3), (24, some (.invokevirtual 156), 3), (27, some (.ireturn), 1)] = true := by decide +kernel
theorem dX5_clear_0 : decode cX5_clear 0 = .ok (.aload_n 0, 1) := fd_get adX5_clear_0 (k := 0) rfl
theorem dX5_clear_1 : decode cX5_clear 1 = .ok (.iload_n 1, 1) := fd_get adX5_clear_0 (k := 1) rfl
theorem dX5_clear_2 : decode cX5_clear 2 = .ok (.invokestatic 53, 3) := fd_get adX5_clear_0 (k := 2) rfl
theorem dX5_clear_5 : decode cX5_clear 5 = .ok (.iconst 1, 1) := fd_get adX5_clear_0 (k := 3) rfl
theorem dX5_clear_6 : decode cX5_clear 6 = .ok (.invokevirtual 57, 3) := fd_get adX5_clear_0 (k := 4) rfl
theorem dX5_clear_9 : decode cX5_clear 9 = .ok (.ifCond .eq 5, 3) := fd_get adX5_clear_0 (k := 5) rfl
theorem dX5_clear_12 : decode cX5_clear 12 = .ok (.iconst 0, 1) := fd_get adX5_clear_0 (k := 6) rfl
theorem dX5_clear_13 : decode cX5_clear 13 = .ok (.ireturn, 1) := fd_get adX5_clear_0 (k := 7) rfl
theorem dX5_clear_14 : decode cX5_clear 14 = .ok (.aload_n 0, 1) := fd_get adX5_clear_0 (k := 8) rfl
theorem dX5_clear_15 : decode cX5_clear 15 = .ok (.iload_n 1, 1) := fd_get adX5_clear_0 (k := 9) rfl
theorem dX5_clear_16 : decode cX5_clear 16 = .ok (.invokevirtual 142, 3) := fd_get adX5_clear_0 (k := 10) rfl
theorem dX5_clear_19 : decode cX5_clear 19 = .ok (.aload_n 0, 1) := fd_get adX5_clear_0 (k := 11) rfl
theorem dX5_clear_20 : decode cX5_clear 20 = .ok (.iload_n 1, 1) := fd_get adX5_clear_0 (k := 12) rfl
theorem dX5_clear_21 : decode cX5_clear 21 = .ok (.invokestatic 85, 3) := fd_get adX5_clear_0 (k := 13) rfl
theorem dX5_clear_24 : decode cX5_clear 24 = .ok (.invokevirtual 156, 3) := fd_get adX5_clear_0 (k := 14) rfl
theorem dX5_clear_27 : decode cX5_clear 27 = .ok (.ireturn, 1) := fd_get adX5_clear_0 (k := 15) rfl
theorem mwsX5_areBad_0 : ∀ w ∈ wsX50, w ∈ wsX5_areBad := fun w h => (List.mem_cons_of_mem _ (List.mem_append_right _ h))
set_option maxRecDepth 20000 in
theorem ggX5_areBad_X5_isNoBook : GoodIn wsX5_areBad wsX5_isNoBook := goodIn_sub (List.forall_mem_cons.mpr ⟨(List.mem_cons_of_mem _ (List.mem_append_left _ (List.mem_of_getElem? (i := 3) rfl))), (List.forall_mem_cons.mpr ⟨(List.mem_cons_of_mem _ (List.mem_append_left _ (List.mem_of_getElem? (i := 4) rfl))), (List.forall_mem_cons.mpr ⟨(List.mem_cons_of_mem _ (List.mem_append_left _ (List.mem_of_getElem? (i := 5) rfl))), (List.forall_mem_cons.mpr ⟨(List.mem_cons_of_mem _ (List.mem_append_left _ (List.mem_of_getElem? (i := 2) rfl))), (List.forall_mem_cons.mpr ⟨(List.mem_cons_of_mem _ (List.mem_append_left _ (List.mem_of_getElem? (i := 6) rfl))), (fun _ h => absurd h List.not_mem_nil)⟩)⟩)⟩)⟩)⟩) (by decide +kernel)
set_option maxRecDepth 20000 in
theorem gX5_areBad_X5_isNoBook : GoodIn wsX5_areBad (va_wsS RX5 53 yX5_isNoBook wsX5_isNoBook) := goodIn_app (goodIn_sub (List.forall_mem_cons.mpr ⟨(List.mem_cons_of_mem _ (List.mem_append_left _ (List.mem_of_getElem? (i := 0) rfl))), (List.forall_mem_cons.mpr ⟨(List.mem_cons_of_mem _ (List.mem_append_left _ (List.mem_of_getElem? (i := 1) rfl))), (List.forall_mem_cons.mpr ⟨(List.mem_cons_of_mem _ (List.mem_append_left _ (List.mem_of_getElem? (i := 2) rfl))), (fun _ h => absurd h List.not_mem_nil)⟩)⟩)⟩) (by decide +kernel)) ggX5_areBad_X5_isNoBook
set_option maxRecDepth 20000 in
theorem ggX5_areBad_X5_start : GoodIn wsX5_areBad wsX5_start := goodIn_sub (tk_mem 5 _ (fun w h => (List.mem_cons_of_mem _ (List.mem_append_left _ (tkB_mem 10 5 h)))) (List.forall_mem_cons.mpr ⟨(List.mem_cons_of_mem _ (List.mem_append_left _ (List.mem_of_getElem? (i := 2) rfl))), (List.forall_mem_cons.mpr ⟨(List.mem_cons_of_mem _ (List.mem_append_left _ (List.mem_of_getElem? (i := 15) rfl))), (tk_mem 13 _ (fun w h => (mwsX5_areBad_0 _ (tkB_mem 0 13 h))) (fun _ h => absurd h List.not_mem_nil))⟩)⟩)) (by decide +kernel)
set_option maxRecDepth 20000 in
theorem gX5_areBad_X5_start : GoodIn wsX5_areBad (wsV RX5 57 RX5 yX5_start wsX5_start) := goodIn_app (goodIn_sub (List.forall_mem_cons.mpr ⟨(List.mem_cons_of_mem _ (List.mem_append_left _ (List.mem_of_getElem? (i := 7) rfl))), (List.forall_mem_cons.mpr ⟨(List.mem_cons_of_mem _ (List.mem_append_left _ (List.mem_of_getElem? (i := 8) rfl))), (List.forall_mem_cons.mpr ⟨(List.mem_cons_of_mem _ (List.mem_append_left _ (List.mem_of_getElem? (i := 9) rfl))), (List.forall_mem_cons.mpr ⟨(List.mem_cons_of_mem _ (List.mem_append_left _ (List.mem_of_getElem? (i := 2) rfl))), (fun _ h => absurd h List.not_mem_nil)⟩)⟩)⟩)⟩) (by decide +kernel)) ggX5_areBad_X5_start
set_option maxRecDepth 20000 in
theorem ggX5_areBad_X5_refuse : GoodIn wsX5_areBad wsX5_refuse := goodIn_sub (List.forall_mem_cons.mpr ⟨(List.mem_cons_of_mem _ (List.mem_append_left _ (List.mem_of_getElem? (i := 15) rfl))), (List.forall_mem_cons.mpr ⟨(List.mem_cons_of_mem _ (List.mem_append_left _ (List.mem_of_getElem? (i := 11) rfl))), (tk_mem 13 _ (fun w h => (mwsX5_areBad_0 _ (tkB_mem 0 13 h))) (fun _ h => absurd h List.not_mem_nil))⟩)⟩) (by decide +kernel)
set_option maxRecDepth 20000 in
theorem gX5_areBad_X5_refuse : GoodIn wsX5_areBad (wsV RX5 45 RX5 yX5_refuse wsX5_refuse) := goodIn_app (goodIn_sub (List.forall_mem_cons.mpr ⟨(List.mem_cons_of_mem _ (List.mem_append_left _ (List.mem_of_getElem? (i := 12) rfl))), (List.forall_mem_cons.mpr ⟨(List.mem_cons_of_mem _ (List.mem_append_left _ (List.mem_of_getElem? (i := 13) rfl))), (List.forall_mem_cons.mpr ⟨(List.mem_cons_of_mem _ (List.mem_append_left _ (List.mem_of_getElem? (i := 14) rfl))), (List.forall_mem_cons.mpr ⟨(List.mem_cons_of_mem _ (List.mem_append_left _ (List.mem_of_getElem? (i := 2) rfl))), (fun _ h => absurd h List.not_mem_nil)⟩)⟩)⟩)⟩) (by decide +kernel)) ggX5_areBad_X5_refuse
theorem adX5_areBad_0 : fd_rows (cX5_areBad.data.toList.drop 0) 0 [(0, some (.aload_n 0), 1), (1, some (.iload_n 1), 1), (2, some (.invokestatic 53), 3), (5, some (.ifCond .ne 10), 3), (8, some (.iload_n 2), 1), (9, some (.invokestatic 53), 3), (12, some (.ifCond .eq 7), 3), (15, some (.iconst 1), 1), (16, some (.goto 4), 3), (19, some (.iconst 0), 1), (20, some (.iconst 1), 1), (21, some (.invokevirtual 57), 3), (24, some (.ifCond .ne 21), 3), (27, some (.aload_n 0), 1), (28, some (.iload_n 1), 1), (29, some (.iload_n 2), 1)] = true := by decide +kernel
theorem adX5_areBad_1 : fd_rows (cX5_areBad.data.toList.drop 30) 30 [(30, some (.if_icmp .ne 7), 3), (33, some (.iconst 1), 1), (34, some (.goto 4), 3), (37, some (.iconst 0), 1), (38, some (.iconst 2), 1), (39, some (.invokevirtual 45), 3), (42, some (.ifCond .eq 7), 3), (45, some (.iconst 1), 1), (46, some (.goto 4), 3), (49, some (.iconst 0), 1), (50, some (.ireturn), 1)] = true := by decide +kernel
theorem dX5_areBad_0 : decode cX5_areBad 0 = .ok (.aload_n 0, 1) := fd_get adX5_areBad_0 (k := 0) rfl
theorem dX5_areBad_1 : decode cX5_areBad 1 = .ok (.iload_n 1, 1) := fd_get adX5_areBad_0 (k := 1) rfl
theorem dX5_areBad_2 : decode cX5_areBad 2 = .ok (.invokestatic 53, 3) := fd_get adX5_areBad_0 (k := 2) rfl
theorem dX5_areBad_5 : decode cX5_areBad 5 = .ok (.ifCond .ne 10, 3) := fd_get adX5_areBad_0 (k := 3) rfl
theorem dX5_areBad_8 : decode cX5_areBad 8 = .ok (.iload_n 2, 1) := fd_get adX5_areBad_0 (k := 4) rfl
theorem dX5_areBad_9 : decode cX5_areBad 9 = .ok (.invokestatic 53, 3) := fd_get adX5_areBad_0 (k := 5) rfl
theorem dX5_areBad_12 : decode cX5_areBad 12 = .ok (.ifCond .eq 7, 3) := fd_get adX5_areBad_0 (k := 6) rfl
theorem dX5_areBad_15 : decode cX5_areBad 15 = .ok (.iconst 1, 1) := fd_get adX5_areBad_0 (k := 7) rfl
theorem dX5_areBad_16 : decode cX5_areBad 16 = .ok (.goto 4, 3) := fd_get adX5_areBad_0 (k := 8) rfl
theorem dX5_areBad_19 : decode cX5_areBad 19 = .ok (.iconst 0, 1) := fd_get adX5_areBad_0 (k := 9) rfl
theorem dX5_areBad_20 : decode cX5_areBad 20 = .ok (.iconst 1, 1) := fd_get adX5_areBad_0 (k := 10) rfl
theorem dX5_areBad_21 : decode cX5_areBad 21 = .ok (.invokevirtual 57, 3) := fd_get adX5_areBad_0 (k := 11) rfl
theorem dX5_areBad_24 : decode cX5_areBad 24 = .ok (.ifCond .ne 21, 3) := fd_get adX5_areBad_0 (k := 12) rfl
theorem dX5_areBad_27 : decode cX5_areBad 27 = .ok (.aload_n 0, 1) := fd_get adX5_areBad_0 (k := 13) rfl
theorem dX5_areBad_28 : decode cX5_areBad 28 = .ok (.iload_n 1, 1) := fd_get adX5_areBad_0 (k := 14) rfl
theorem dX5_areBad_29 : decode cX5_areBad 29 = .ok (.iload_n 2, 1) := fd_get adX5_areBad_0 (k := 15) rfl
theorem dX5_areBad_30 : decode cX5_areBad 30 = .ok (.if_icmp .ne 7, 3) := fd_get adX5_areBad_1 (k := 0) rfl
theorem dX5_areBad_33 : decode cX5_areBad 33 = .ok (.iconst 1, 1) := fd_get adX5_areBad_1 (k := 1) rfl
theorem dX5_areBad_34 : decode cX5_areBad 34 = .ok (.goto 4, 3) := fd_get adX5_areBad_1 (k := 2) rfl
theorem dX5_areBad_37 : decode cX5_areBad 37 = .ok (.iconst 0, 1) := fd_get adX5_areBad_1 (k := 3) rfl
theorem dX5_areBad_38 : decode cX5_areBad 38 = .ok (.iconst 2, 1) := fd_get adX5_areBad_1 (k := 4) rfl
theorem dX5_areBad_39 : decode cX5_areBad 39 = .ok (.invokevirtual 45, 3) := fd_get adX5_areBad_1 (k := 5) rfl
theorem dX5_areBad_42 : decode cX5_areBad 42 = .ok (.ifCond .eq 7, 3) := fd_get adX5_areBad_1 (k := 6) rfl
theorem dX5_areBad_45 : decode cX5_areBad 45 = .ok (.iconst 1, 1) := fd_get adX5_areBad_1 (k := 7) rfl
theorem dX5_areBad_46 : decode cX5_areBad 46 = .ok (.goto 4, 3) := fd_get adX5_areBad_1 (k := 8) rfl
theorem dX5_areBad_49 : decode cX5_areBad 49 = .ok (.iconst 0, 1) := fd_get adX5_areBad_1 (k := 9) rfl
theorem dX5_areBad_50 : decode cX5_areBad 50 = .ok (.ireturn, 1) := fd_get adX5_areBad_1 (k := 10) rfl
theorem mwsX5_pour_0 : ∀ w ∈ wsX5_pour_r1, w ∈ wsX5_pour := fun w h => (List.mem_cons_of_mem _ (List.mem_append_left _ (List.mem_append_left _ h)))
theorem mwsX5_pour_1 : ∀ w ∈ wsX5_pour_r2, w ∈ wsX5_pour := fun w h => (List.mem_cons_of_mem _ (List.mem_append_left _ (List.mem_append_right _ (List.mem_append_left _ h))))
theorem mwsX5_pour_2 : ∀ w ∈ wsX5_pour_r3, w ∈ wsX5_pour := fun w h => (List.mem_cons_of_mem _ (List.mem_append_left _ (List.mem_append_right _ (List.mem_append_right _ h))))
theorem mwsX5_pour_3 : ∀ w ∈ wsX50, w ∈ wsX5_pour := fun w h => (List.mem_cons_of_mem _ (List.mem_append_right _ h))
set_option maxRecDepth 20000 in
theorem ggX5_pour_X5_areBad : GoodIn wsX5_pour wsX5_areBad := goodIn_sub (List.forall_mem_cons.mpr ⟨(mwsX5_pour_0 _ (List.mem_of_getElem? (i := 5) rfl)), (List.forall_mem_cons.mpr ⟨(mwsX5_pour_0 _ (List.mem_of_getElem? (i := 6) rfl)), (List.forall_mem_cons.mpr ⟨(mwsX5_pour_0 _ (List.mem_of_getElem? (i := 7) rfl)), (List.forall_mem_cons.mpr ⟨(mwsX5_pour_0 _ (List.mem_of_getElem? (i := 4) rfl)), (tk_mem 13 _ (fun w h => (mwsX5_pour_0 _ (tkB_mem 8 13 h))) (tk_mem 13 _ (fun w h => (mwsX5_pour_3 _ (tkB_mem 0 13 h))) (fun _ h => absurd h List.not_mem_nil)))⟩)⟩)⟩)⟩) (by decide +kernel)
set_option maxRecDepth 20000 in
theorem gX5_pour_X5_areBad : GoodIn wsX5_pour (wsV RX5 160 RX5 yX5_areBad wsX5_areBad) := goodIn_app (goodIn_sub (tk_mem 4 _ (fun w h => (mwsX5_pour_0 _ (tkB_mem 1 4 h))) (fun _ h => absurd h List.not_mem_nil)) (by decide +kernel)) ggX5_pour_X5_areBad
set_option maxRecDepth 20000 in
theorem ggX5_pour_X5_touch : GoodIn wsX5_pour wsX5_touch := goodIn_sub (List.forall_mem_cons.mpr ⟨(mwsX5_pour_1 _ (List.mem_of_getElem? (i := 0) rfl)), (List.forall_mem_cons.mpr ⟨(mwsX5_pour_1 _ (List.mem_of_getElem? (i := 1) rfl)), (List.forall_mem_cons.mpr ⟨(mwsX5_pour_1 _ (List.mem_of_getElem? (i := 2) rfl)), (tk_mem 13 _ (fun w h => (mwsX5_pour_3 _ (tkB_mem 0 13 h))) (fun _ h => absurd h List.not_mem_nil))⟩)⟩)⟩) (by decide +kernel)
set_option maxRecDepth 20000 in
theorem gX5_pour_X5_touch : GoodIn wsX5_pour (wsV RX5 142 RX5 yX5_touch wsX5_touch) := goodIn_app (goodIn_sub (List.forall_mem_cons.mpr ⟨(mwsX5_pour_0 _ (List.mem_of_getElem? (i := 21) rfl)), (List.forall_mem_cons.mpr ⟨(mwsX5_pour_0 _ (List.mem_of_getElem? (i := 22) rfl)), (List.forall_mem_cons.mpr ⟨(mwsX5_pour_0 _ (List.mem_of_getElem? (i := 23) rfl)), (List.forall_mem_cons.mpr ⟨(mwsX5_pour_0 _ (List.mem_of_getElem? (i := 4) rfl)), (fun _ h => absurd h List.not_mem_nil)⟩)⟩)⟩)⟩) (by decide +kernel)) ggX5_pour_X5_touch
set_option maxRecDepth 20000 in
theorem ggX5_pour_X5_set : GoodIn wsX5_pour wsX5_set := goodIn_sub (List.forall_mem_cons.mpr ⟨(mwsX5_pour_1 _ (List.mem_of_getElem? (i := 6) rfl)), (List.forall_mem_cons.mpr ⟨(mwsX5_pour_0 _ (List.mem_of_getElem? (i := 0) rfl)), (List.forall_mem_cons.mpr ⟨(mwsX5_pour_1 _ (List.mem_of_getElem? (i := 1) rfl)), (List.forall_mem_cons.mpr ⟨(mwsX5_pour_1 _ (List.mem_of_getElem? (i := 7) rfl)), (tk_mem 13 _ (fun w h => (mwsX5_pour_3 _ (tkB_mem 0 13 h))) (fun _ h => absurd h List.not_mem_nil))⟩)⟩)⟩)⟩) (by decide +kernel)
set_option maxRecDepth 20000 in
theorem gX5_pour_X5_set : GoodIn wsX5_pour (wsV RX5 132 RX5 yX5_set wsX5_set) := goodIn_app (goodIn_sub (List.forall_mem_cons.mpr ⟨(mwsX5_pour_1 _ (List.mem_of_getElem? (i := 3) rfl)), (List.forall_mem_cons.mpr ⟨(mwsX5_pour_1 _ (List.mem_of_getElem? (i := 4) rfl)), (List.forall_mem_cons.mpr ⟨(mwsX5_pour_1 _ (List.mem_of_getElem? (i := 5) rfl)), (List.forall_mem_cons.mpr ⟨(mwsX5_pour_0 _ (List.mem_of_getElem? (i := 4) rfl)), (fun _ h => absurd h List.not_mem_nil)⟩)⟩)⟩)⟩) (by decide +kernel)) ggX5_pour_X5_set
set_option maxRecDepth 20000 in
theorem ggX5_pour_X5_whole : GoodIn wsX5_pour wsX5_whole := goodIn_sub (List.forall_mem_cons.mpr ⟨(mwsX5_pour_1 _ (List.mem_of_getElem? (i := 10) rfl)), (List.forall_mem_cons.mpr ⟨(mwsX5_pour_1 _ (List.mem_of_getElem? (i := 11) rfl)), (fun _ h => absurd h List.not_mem_nil)⟩)⟩) (by decide +kernel)
set_option maxRecDepth 20000 in
theorem gX5_pour_X5_whole : GoodIn wsX5_pour (va_wsS RX5 85 yX5_whole wsX5_whole) := goodIn_app (goodIn_sub (List.forall_mem_cons.mpr ⟨(mwsX5_pour_1 _ (List.mem_of_getElem? (i := 8) rfl)), (List.forall_mem_cons.mpr ⟨(mwsX5_pour_1 _ (List.mem_of_getElem? (i := 9) rfl)), (List.forall_mem_cons.mpr ⟨(mwsX5_pour_0 _ (List.mem_of_getElem? (i := 4) rfl)), (fun _ h => absurd h List.not_mem_nil)⟩)⟩)⟩) (by decide +kernel)) ggX5_pour_X5_whole
set_option maxRecDepth 20000 in
theorem ggX5_pour_X5_many : GoodIn wsX5_pour wsX5_many := goodIn_sub (tk_mem 4 _ (fun w h => (mwsX5_pour_1 _ (tkB_mem 15 4 h))) (List.forall_mem_cons.mpr ⟨(mwsX5_pour_0 _ (List.mem_of_getElem? (i := 4) rfl)), (List.forall_mem_cons.mpr ⟨(mwsX5_pour_1 _ (List.mem_of_getElem? (i := 19) rfl)), (List.forall_mem_cons.mpr ⟨(mwsX5_pour_0 _ (List.mem_of_getElem? (i := 0) rfl)), (tk_mem 4 _ (fun w h => (mwsX5_pour_1 _ (tkB_mem 20 4 h))) (tk_mem 9 _ (fun w h => (mwsX5_pour_2 _ (tkB_mem 0 9 h))) (tk_mem 13 _ (fun w h => (mwsX5_pour_3 _ (tkB_mem 0 13 h))) (fun _ h => absurd h List.not_mem_nil))))⟩)⟩)⟩)) (by decide +kernel)
set_option maxRecDepth 20000 in
theorem gX5_pour_X5_many : GoodIn wsX5_pour (wsV RX5 163 RX5 yX5_many wsX5_many) := goodIn_app (goodIn_sub (List.forall_mem_cons.mpr ⟨(mwsX5_pour_1 _ (List.mem_of_getElem? (i := 12) rfl)), (List.forall_mem_cons.mpr ⟨(mwsX5_pour_1 _ (List.mem_of_getElem? (i := 13) rfl)), (List.forall_mem_cons.mpr ⟨(mwsX5_pour_1 _ (List.mem_of_getElem? (i := 14) rfl)), (List.forall_mem_cons.mpr ⟨(mwsX5_pour_0 _ (List.mem_of_getElem? (i := 4) rfl)), (fun _ h => absurd h List.not_mem_nil)⟩)⟩)⟩)⟩) (by decide +kernel)) ggX5_pour_X5_many
theorem adX5_pour_0 : fd_rows (cX5_pour.data.toList.drop 0) 0 [(0, some (.aload_n 0), 1), (1, some (.iload_n 1), 1), (2, some (.iload_n 2), 1), (3, some (.invokevirtual 160), 3), (6, some (.ifCond .eq 5), 3), (9, some (.iconst 0), 1), (10, some (.ireturn), 1), (11, some (.aload_n 0), 1), (12, some (.iload_n 2), 1), (13, some (.invokevirtual 142), 3), (16, some (.iconst 0), 1), (17, some (.istore_n 3), 1), (18, some (.iload_n 3), 1), (19, some (.bipush 100), 2), (21, some (.if_icmp .ge 38), 3), (24, some (.aload_n 0), 1)] = true := by decide +kernel
theorem adX5_pour_1 : fd_rows (cX5_pour.data.toList.drop 25) 25 [(25, some (.getfield 11), 3), (28, some (.iload_n 1), 1), (29, some (.aaload), 1), (30, some (.iload_n 3), 1), (31, some (.iaload), 1), (32, some (.sipush (-10000)), 3), (35, some (.if_icmp .eq 18), 3), (38, some (.aload_n 0), 1), (39, some (.iload_n 2), 1), (40, some (.iload_n 3), 1), (41, some (.aload_n 0), 1), (42, some (.getfield 11), 3), (45, some (.iload_n 1), 1), (46, some (.aaload), 1), (47, some (.iload_n 3), 1), (48, some (.iaload), 1)] = true := by decide +kernel
theorem adX5_pour_2 : fd_rows (cX5_pour.data.toList.drop 49) 49 [(49, some (.invokevirtual 132), 3), (52, some (.pop), 1), (53, some (.iinc 3 1), 3), (56, some (.goto (-38)), 3), (59, some (.aload_n 0), 1), (60, some (.iload_n 2), 1), (61, some (.invokestatic 85), 3), (64, some (.invokevirtual 163), 3), (67, some (.ireturn), 1)] = true := by decide +kernel
theorem dX5_pour_0 : decode cX5_pour 0 = .ok (.aload_n 0, 1) := fd_get adX5_pour_0 (k := 0) rfl
theorem dX5_pour_1 : decode cX5_pour 1 = .ok (.iload_n 1, 1) := fd_get adX5_pour_0 (k := 1) rfl
theorem dX5_pour_2 : decode cX5_pour 2 = .ok (.iload_n 2, 1) := fd_get adX5_pour_0 (k := 2) rfl
theorem dX5_pour_3 : decode cX5_pour 3 = .ok (.invokevirtual 160, 3) := fd_get adX5_pour_0 (k := 3) rfl
theorem dX5_pour_6 : decode cX5_pour 6 = .ok (.ifCond .eq 5, 3) := fd_get adX5_pour_0 (k := 4) rfl
theorem dX5_pour_9 : decode cX5_pour 9 = .ok (.iconst 0, 1) := fd_get adX5_pour_0 (k := 5) rfl
theorem dX5_pour_10 : decode cX5_pour 10 = .ok (.ireturn, 1) := fd_get adX5_pour_0 (k := 6) rfl
theorem dX5_pour_11 : decode cX5_pour 11 = .ok (.aload_n 0, 1) := fd_get adX5_pour_0 (k := 7) rfl
theorem dX5_pour_12 : decode cX5_pour 12 = .ok (.iload_n 2, 1) := fd_get adX5_pour_0 (k := 8) rfl
theorem dX5_pour_13 : decode cX5_pour 13 = .ok (.invokevirtual 142, 3) := fd_get adX5_pour_0 (k := 9) rfl
theorem dX5_pour_16 : decode cX5_pour 16 = .ok (.iconst 0, 1) := fd_get adX5_pour_0 (k := 10) rfl
theorem dX5_pour_17 : decode cX5_pour 17 = .ok (.istore_n 3, 1) := fd_get adX5_pour_0 (k := 11) rfl
theorem dX5_pour_18 : decode cX5_pour 18 = .ok (.iload_n 3, 1) := fd_get adX5_pour_0 (k := 12) rfl
theorem dX5_pour_19 : decode cX5_pour 19 = .ok (.bipush 100, 2) := fd_get adX5_pour_0 (k := 13) rfl
theorem dX5_pour_21 : decode cX5_pour 21 = .ok (.if_icmp .ge 38, 3) := fd_get adX5_pour_0 (k := 14) rfl
theorem dX5_pour_24 : decode cX5_pour 24 = .ok (.aload_n 0, 1) := fd_get adX5_pour_0 (k := 15) rfl
theorem dX5_pour_25 : decode cX5_pour 25 = .ok (.getfield 11, 3) := fd_get adX5_pour_1 (k := 0) rfl
theorem dX5_pour_28 : decode cX5_pour 28 = .ok (.iload_n 1, 1) := fd_get adX5_pour_1 (k := 1) rfl
theorem dX5_pour_29 : decode cX5_pour 29 = .ok (.aaload, 1) := fd_get adX5_pour_1 (k := 2) rfl
theorem dX5_pour_30 : decode cX5_pour 30 = .ok (.iload_n 3, 1) := fd_get adX5_pour_1 (k := 3) rfl
theorem dX5_pour_31 : decode cX5_pour 31 = .ok (.iaload, 1) := fd_get adX5_pour_1 (k := 4) rfl
theorem dX5_pour_32 : decode cX5_pour 32 = .ok (.sipush (-10000), 3) := fd_get adX5_pour_1 (k := 5) rfl
theorem dX5_pour_35 : decode cX5_pour 35 = .ok (.if_icmp .eq 18, 3) := fd_get adX5_pour_1 (k := 6) rfl
theorem dX5_pour_38 : decode cX5_pour 38 = .ok (.aload_n 0, 1) := fd_get adX5_pour_1 (k := 7) rfl
theorem dX5_pour_39 : decode cX5_pour 39 = .ok (.iload_n 2, 1) := fd_get adX5_pour_1 (k := 8) rfl
theorem dX5_pour_40 : decode cX5_pour 40 = .ok (.iload_n 3, 1) := fd_get adX5_pour_1 (k := 9) rfl
theorem dX5_pour_41 : decode cX5_pour 41 = .ok (.aload_n 0, 1) := fd_get adX5_pour_1 (k := 10) rfl
theorem dX5_pour_42 : decode cX5_pour 42 = .ok (.getfield 11, 3) := fd_get adX5_pour_1 (k := 11) rfl
theorem dX5_pour_45 : decode cX5_pour 45 = .ok (.iload_n 1, 1) := fd_get adX5_pour_1 (k := 12) rfl
theorem dX5_pour_46 : decode cX5_pour 46 = .ok (.aaload, 1) := fd_get adX5_pour_1 (k := 13) rfl
theorem dX5_pour_47 : decode cX5_pour 47 = .ok (.iload_n 3, 1) := fd_get adX5_pour_1 (k := 14) rfl
theorem dX5_pour_48 : decode cX5_pour 48 = .ok (.iaload, 1) := fd_get adX5_pour_1 (k := 15) rfl
theorem dX5_pour_49 : decode cX5_pour 49 = .ok (.invokevirtual 132, 3) := fd_get adX5_pour_2 (k := 0) rfl
theorem dX5_pour_52 : decode cX5_pour 52 = .ok (.pop, 1) := fd_get adX5_pour_2 (k := 1) rfl
theorem dX5_pour_53 : decode cX5_pour 53 = .ok (.iinc 3 1, 3) := fd_get adX5_pour_2 (k := 2) rfl
theorem dX5_pour_56 : decode cX5_pour 56 = .ok (.goto (-38), 3) := fd_get adX5_pour_2 (k := 3) rfl
theorem dX5_pour_59 : decode cX5_pour 59 = .ok (.aload_n 0, 1) := fd_get adX5_pour_2 (k := 4) rfl
theorem dX5_pour_60 : decode cX5_pour 60 = .ok (.iload_n 2, 1) := fd_get adX5_pour_2 (k := 5) rfl
theorem dX5_pour_61 : decode cX5_pour 61 = .ok (.invokestatic 85, 3) := fd_get adX5_pour_2 (k := 6) rfl
theorem dX5_pour_64 : decode cX5_pour 64 = .ok (.invokevirtual 163, 3) := fd_get adX5_pour_2 (k := 7) rfl
theorem dX5_pour_67 : decode cX5_pour 67 = .ok (.ireturn, 1) := fd_get adX5_pour_2 (k := 8) rfl
theorem mwsX5_copy_0 : ∀ w ∈ wsX5_copy_r1, w ∈ wsX5_copy := fun w h => (List.mem_cons_of_mem _ (List.mem_append_left _ (List.mem_append_left _ h)))
theorem mwsX5_copy_1 : ∀ w ∈ wsX5_copy_r2, w ∈ wsX5_copy := fun w h => (List.mem_cons_of_mem _ (List.mem_append_left _ (List.mem_append_right _ h)))
theorem mwsX5_copy_2 : ∀ w ∈ wsX50, w ∈ wsX5_copy := fun w h => (List.mem_cons_of_mem _ (List.mem_append_right _ h))
set_option maxRecDepth 20000 in
theorem ggX5_copy_X5_areBad : GoodIn wsX5_copy wsX5_areBad := goodIn_sub (List.forall_mem_cons.mpr ⟨(mwsX5_copy_0 _ (List.mem_of_getElem? (i := 8) rfl)), (List.forall_mem_cons.mpr ⟨(mwsX5_copy_0 _ (List.mem_of_getElem? (i := 9) rfl)), (List.forall_mem_cons.mpr ⟨(mwsX5_copy_0 _ (List.mem_of_getElem? (i := 10) rfl)), (List.forall_mem_cons.mpr ⟨(mwsX5_copy_0 _ (List.mem_of_getElem? (i := 7) rfl)), (tk_mem 13 _ (fun w h => (mwsX5_copy_0 _ (tkB_mem 11 13 h))) (tk_mem 13 _ (fun w h => (mwsX5_copy_2 _ (tkB_mem 0 13 h))) (fun _ h => absurd h List.not_mem_nil)))⟩)⟩)⟩)⟩) (by decide +kernel)
set_option maxRecDepth 20000 in
theorem gX5_copy_X5_areBad : GoodIn wsX5_copy (wsV RX5 160 RX5 yX5_areBad wsX5_areBad) := goodIn_app (goodIn_sub (tk_mem 4 _ (fun w h => (mwsX5_copy_0 _ (tkB_mem 4 4 h))) (fun _ h => absurd h List.not_mem_nil)) (by decide +kernel)) ggX5_copy_X5_areBad
set_option maxRecDepth 20000 in
theorem ggX5_copy_X5_begin : GoodIn wsX5_copy wsX5_begin := goodIn_sub (List.forall_mem_cons.mpr ⟨(mwsX5_copy_1 _ (List.mem_of_getElem? (i := 3) rfl)), (List.forall_mem_cons.mpr ⟨(mwsX5_copy_0 _ (List.mem_of_getElem? (i := 0) rfl)), (tk_mem 4 _ (fun w h => (mwsX5_copy_1 _ (tkB_mem 4 4 h))) (tk_mem 13 _ (fun w h => (mwsX5_copy_2 _ (tkB_mem 0 13 h))) (fun _ h => absurd h List.not_mem_nil)))⟩)⟩) (by decide +kernel)
set_option maxRecDepth 20000 in
theorem gX5_copy_X5_begin : GoodIn wsX5_copy (wsV RX5 166 RX5 yX5_begin wsX5_begin) := goodIn_app (goodIn_sub (List.forall_mem_cons.mpr ⟨(mwsX5_copy_1 _ (List.mem_of_getElem? (i := 0) rfl)), (List.forall_mem_cons.mpr ⟨(mwsX5_copy_1 _ (List.mem_of_getElem? (i := 1) rfl)), (List.forall_mem_cons.mpr ⟨(mwsX5_copy_1 _ (List.mem_of_getElem? (i := 2) rfl)), (List.forall_mem_cons.mpr ⟨(mwsX5_copy_0 _ (List.mem_of_getElem? (i := 7) rfl)), (fun _ h => absurd h List.not_mem_nil)⟩)⟩)⟩)⟩) (by decide +kernel)) ggX5_copy_X5_begin
set_option maxRecDepth 20000 in
theorem ggX5_copy_X5_set : GoodIn wsX5_copy wsX5_set := goodIn_sub (List.forall_mem_cons.mpr ⟨(mwsX5_copy_1 _ (List.mem_of_getElem? (i := 11) rfl)), (List.forall_mem_cons.mpr ⟨(mwsX5_copy_0 _ (List.mem_of_getElem? (i := 3) rfl)), (List.forall_mem_cons.mpr ⟨(mwsX5_copy_0 _ (List.mem_of_getElem? (i := 0) rfl)), (List.forall_mem_cons.mpr ⟨(mwsX5_copy_1 _ (List.mem_of_getElem? (i := 4) rfl)), (tk_mem 13 _ (fun w h => (mwsX5_copy_2 _ (tkB_mem 0 13 h))) (fun _ h => absurd h List.not_mem_nil))⟩)⟩)⟩)⟩) (by decide +kernel)
set_option maxRecDepth 20000 in
theorem gX5_copy_X5_set : GoodIn wsX5_copy (wsV RX5 132 RX5 yX5_set wsX5_set) := goodIn_app (goodIn_sub (List.forall_mem_cons.mpr ⟨(mwsX5_copy_1 _ (List.mem_of_getElem? (i := 8) rfl)), (List.forall_mem_cons.mpr ⟨(mwsX5_copy_1 _ (List.mem_of_getElem? (i := 9) rfl)), (List.forall_mem_cons.mpr ⟨(mwsX5_copy_1 _ (List.mem_of_getElem? (i := 10) rfl)), (List.forall_mem_cons.mpr ⟨(mwsX5_copy_0 _ (List.mem_of_getElem? (i := 7) rfl)), (fun _ h => absurd h List.not_mem_nil)⟩)⟩)⟩)⟩) (by decide +kernel)) ggX5_copy_X5_set
theorem adX5_copy_0 : fd_rows (cX5_copy.data.toList.drop 0) 0 [(0, some (.aload_n 0), 1), (1, some (.iload_n 1), 1), (2, some (.iload_n 2), 1), (3, some (.invokevirtual 160), 3), (6, some (.ifCond .eq 5), 3), (9, some (.iconst 0), 1), (10, some (.ireturn), 1), (11, some (.aload_n 0), 1), (12, some (.getfield 125), 3), (15, some (.ifnull 18), 3), (18, some (.aload_n 0), 1), (19, some (.getfield 125), 3), (22, some (.iconst 0), 1), (23, some (.iaload), 1), (24, some (.iload_n 2), 1), (25, some (.if_icmp .ne 8), 3)] = true := by decide +kernel
theorem adX5_copy_1 : fd_rows (cX5_copy.data.toList.drop 28) 28 [(28, some (.aload_n 0), 1), (29, some (.aconst_null), 1), (30, some (.invokevirtual 166), 3), (33, some (.iconst 0), 1), (34, some (.istore_n 3), 1), (35, some (.iconst 0), 1), (36, some (.istore 4), 2), (38, some (.iload 4), 2), (40, some (.iconst 4), 1), (41, some (.if_icmp .ge 46), 3), (44, some (.aload_n 0), 1), (45, some (.getfield 22), 3), (48, some (.iload 4), 2), (50, some (.aaload), 1), (51, some (.ifnull 30), 3), (54, some (.aload_n 0), 1)] = true := by decide +kernel
theorem adX5_copy_2 : fd_rows (cX5_copy.data.toList.drop 55) 55 [(55, some (.getfield 22), 3), (58, some (.iload 4), 2), (60, some (.aaload), 1), (61, some (.iconst 0), 1), (62, some (.iaload), 1), (63, some (.iload_n 2), 1), (64, some (.if_icmp .eq 6), 3), (67, some (.goto 14), 3), (70, some (.aload_n 0), 1), (71, some (.getfield 22), 3), (74, some (.iload 4), 2), (76, some (.aconst_null), 1), (77, some (.aastore), 1), (78, some (.iinc 3 1), 3), (81, some (.iinc 4 1), 3), (84, some (.goto (-46)), 3)] = true := by decide +kernel
theorem adX5_copy_3 : fd_rows (cX5_copy.data.toList.drop 87) 87 [(87, some (.aload_n 0), 1), (88, some (.getfield 14), 3), (91, some (.iload_n 2), 1), (92, some (.aload_n 0), 1), (93, some (.getfield 14), 3), (96, some (.iload_n 1), 1), (97, some (.iaload), 1), (98, some (.iastore), 1), (99, some (.iconst 0), 1), (100, some (.istore 4), 2), (102, some (.iload 4), 2), (104, some (.bipush 100), 2), (106, some (.if_icmp .ge 26), 3), (109, some (.aload_n 0), 1), (110, some (.iload_n 2), 1), (111, some (.iload 4), 2)] = true := by decide +kernel
theorem adX5_copy_4 : fd_rows (cX5_copy.data.toList.drop 113) 113 [(113, some (.aload_n 0), 1), (114, some (.getfield 11), 3), (117, some (.iload_n 1), 1), (118, some (.aaload), 1), (119, some (.iload 4), 2), (121, some (.iaload), 1), (122, some (.invokevirtual 132), 3), (125, some (.pop), 1), (126, some (.iinc 4 1), 3), (129, some (.goto (-27)), 3), (132, some (.iload_n 3), 1), (133, some (.ireturn), 1)] = true := by decide +kernel
theorem dX5_copy_0 : decode cX5_copy 0 = .ok (.aload_n 0, 1) := fd_get adX5_copy_0 (k := 0) rfl
theorem dX5_copy_1 : decode cX5_copy 1 = .ok (.iload_n 1, 1) := fd_get adX5_copy_0 (k := 1) rfl
theorem dX5_copy_2 : decode cX5_copy 2 = .ok (.iload_n 2, 1) := fd_get adX5_copy_0 (k := 2) rfl
theorem dX5_copy_3 : decode cX5_copy 3 = .ok (.invokevirtual 160, 3) := fd_get adX5_copy_0 (k := 3) rfl
theorem dX5_copy_6 : decode cX5_copy 6 = .ok (.ifCond .eq 5, 3) := fd_get adX5_copy_0 (k := 4) rfl
theorem dX5_copy_9 : decode cX5_copy 9 = .ok (.iconst 0, 1) := fd_get adX5_copy_0 (k := 5) rfl
theorem dX5_copy_10 : decode cX5_copy 10 = .ok (.ireturn, 1) := fd_get adX5_copy_0 (k := 6) rfl
theorem dX5_copy_11 : decode cX5_copy 11 = .ok (.aload_n 0, 1) := fd_get adX5_copy_0 (k := 7) rfl
theorem dX5_copy_12 : decode cX5_copy 12 = .ok (.getfield 125, 3) := fd_get adX5_copy_0 (k := 8) rfl
theorem dX5_copy_15 : decode cX5_copy 15 = .ok (.ifnull 18, 3) := fd_get adX5_copy_0 (k := 9) rfl
theorem dX5_copy_18 : decode cX5_copy 18 = .ok (.aload_n 0, 1) := fd_get adX5_copy_0 (k := 10) rfl
theorem dX5_copy_19 : decode cX5_copy 19 = .ok (.getfield 125, 3) := fd_get adX5_copy_0 (k := 11) rfl
theorem dX5_copy_22 : decode cX5_copy 22 = .ok (.iconst 0, 1) := fd_get adX5_copy_0 (k := 12) rfl
theorem dX5_copy_23 : decode cX5_copy 23 = .ok (.iaload, 1) := fd_get adX5_copy_0 (k := 13) rfl
theorem dX5_copy_24 : decode cX5_copy 24 = .ok (.iload_n 2, 1) := fd_get adX5_copy_0 (k := 14) rfl
theorem dX5_copy_25 : decode cX5_copy 25 = .ok (.if_icmp .ne 8, 3) := fd_get adX5_copy_0 (k := 15) rfl
theorem dX5_copy_28 : decode cX5_copy 28 = .ok (.aload_n 0, 1) := fd_get adX5_copy_1 (k := 0) rfl
theorem dX5_copy_29 : decode cX5_copy 29 = .ok (.aconst_null, 1) := fd_get adX5_copy_1 (k := 1) rfl
theorem dX5_copy_30 : decode cX5_copy 30 = .ok (.invokevirtual 166, 3) := fd_get adX5_copy_1 (k := 2) rfl
theorem dX5_copy_33 : decode cX5_copy 33 = .ok (.iconst 0, 1) := fd_get adX5_copy_1 (k := 3) rfl
theorem dX5_copy_34 : decode cX5_copy 34 = .ok (.istore_n 3, 1) := fd_get adX5_copy_1 (k := 4) rfl
theorem dX5_copy_35 : decode cX5_copy 35 = .ok (.iconst 0, 1) := fd_get adX5_copy_1 (k := 5) rfl
theorem dX5_copy_36 : decode cX5_copy 36 = .ok (.istore 4, 2) := fd_get adX5_copy_1 (k := 6) rfl
theorem dX5_copy_38 : decode cX5_copy 38 = .ok (.iload 4, 2) := fd_get adX5_copy_1 (k := 7) rfl
theorem dX5_copy_40 : decode cX5_copy 40 = .ok (.iconst 4, 1) := fd_get adX5_copy_1 (k := 8) rfl
theorem dX5_copy_41 : decode cX5_copy 41 = .ok (.if_icmp .ge 46, 3) := fd_get adX5_copy_1 (k := 9) rfl
theorem dX5_copy_44 : decode cX5_copy 44 = .ok (.aload_n 0, 1) := fd_get adX5_copy_1 (k := 10) rfl
theorem dX5_copy_45 : decode cX5_copy 45 = .ok (.getfield 22, 3) := fd_get adX5_copy_1 (k := 11) rfl
theorem dX5_copy_48 : decode cX5_copy 48 = .ok (.iload 4, 2) := fd_get adX5_copy_1 (k := 12) rfl
theorem dX5_copy_50 : decode cX5_copy 50 = .ok (.aaload, 1) := fd_get adX5_copy_1 (k := 13) rfl
theorem dX5_copy_51 : decode cX5_copy 51 = .ok (.ifnull 30, 3) := fd_get adX5_copy_1 (k := 14) rfl
theorem dX5_copy_54 : decode cX5_copy 54 = .ok (.aload_n 0, 1) := fd_get adX5_copy_1 (k := 15) rfl
theorem dX5_copy_55 : decode cX5_copy 55 = .ok (.getfield 22, 3) := fd_get adX5_copy_2 (k := 0) rfl
theorem dX5_copy_58 : decode cX5_copy 58 = .ok (.iload 4, 2) := fd_get adX5_copy_2 (k := 1) rfl
theorem dX5_copy_60 : decode cX5_copy 60 = .ok (.aaload, 1) := fd_get adX5_copy_2 (k := 2) rfl
theorem dX5_copy_61 : decode cX5_copy 61 = .ok (.iconst 0, 1) := fd_get adX5_copy_2 (k := 3) rfl
theorem dX5_copy_62 : decode cX5_copy 62 = .ok (.iaload, 1) := fd_get adX5_copy_2 (k := 4) rfl
theorem dX5_copy_63 : decode cX5_copy 63 = .ok (.iload_n 2, 1) := fd_get adX5_copy_2 (k := 5) rfl
theorem dX5_copy_64 : decode cX5_copy 64 = .ok (.if_icmp .eq 6, 3) := fd_get adX5_copy_2 (k := 6) rfl
theorem dX5_copy_67 : decode cX5_copy 67 = .ok (.goto 14, 3) := fd_get adX5_copy_2 (k := 7) rfl
theorem dX5_copy_70 : decode cX5_copy 70 = .ok (.aload_n 0, 1) := fd_get adX5_copy_2 (k := 8) rfl
theorem dX5_copy_71 : decode cX5_copy 71 = .ok (.getfield 22, 3) := fd_get adX5_copy_2 (k := 9) rfl
theorem dX5_copy_74 : decode cX5_copy 74 = .ok (.iload 4, 2) := fd_get adX5_copy_2 (k := 10) rfl
theorem dX5_copy_76 : decode cX5_copy 76 = .ok (.aconst_null, 1) := fd_get adX5_copy_2 (k := 11) rfl
theorem dX5_copy_77 : decode cX5_copy 77 = .ok (.aastore, 1) := fd_get adX5_copy_2 (k := 12) rfl
theorem dX5_copy_78 : decode cX5_copy 78 = .ok (.iinc 3 1, 3) := fd_get adX5_copy_2 (k := 13) rfl
theorem dX5_copy_81 : decode cX5_copy 81 = .ok (.iinc 4 1, 3) := fd_get adX5_copy_2 (k := 14) rfl
theorem dX5_copy_84 : decode cX5_copy 84 = .ok (.goto (-46), 3) := fd_get adX5_copy_2 (k := 15) rfl
theorem dX5_copy_87 : decode cX5_copy 87 = .ok (.aload_n 0, 1) := fd_get adX5_copy_3 (k := 0) rfl
theorem dX5_copy_88 : decode cX5_copy 88 = .ok (.getfield 14, 3) := fd_get adX5_copy_3 (k := 1) rfl
theorem dX5_copy_91 : decode cX5_copy 91 = .ok (.iload_n 2, 1) := fd_get adX5_copy_3 (k := 2) rfl
theorem dX5_copy_92 : decode cX5_copy 92 = .ok (.aload_n 0, 1) := fd_get adX5_copy_3 (k := 3) rfl
theorem dX5_copy_93 : decode cX5_copy 93 = .ok (.getfield 14, 3) := fd_get adX5_copy_3 (k := 4) rfl
theorem dX5_copy_96 : decode cX5_copy 96 = .ok (.iload_n 1, 1) := fd_get adX5_copy_3 (k := 5) rfl
theorem dX5_copy_97 : decode cX5_copy 97 = .ok (.iaload, 1) := fd_get adX5_copy_3 (k := 6) rfl
theorem dX5_copy_98 : decode cX5_copy 98 = .ok (.iastore, 1) := fd_get adX5_copy_3 (k := 7) rfl
theorem dX5_copy_99 : decode cX5_copy 99 = .ok (.iconst 0, 1) := fd_get adX5_copy_3 (k := 8) rfl
theorem dX5_copy_100 : decode cX5_copy 100 = .ok (.istore 4, 2) := fd_get adX5_copy_3 (k := 9) rfl
theorem dX5_copy_102 : decode cX5_copy 102 = .ok (.iload 4, 2) := fd_get adX5_copy_3 (k := 10) rfl
theorem dX5_copy_104 : decode cX5_copy 104 = .ok (.bipush 100, 2) := fd_get adX5_copy_3 (k := 11) rfl
theorem dX5_copy_106 : decode cX5_copy 106 = .ok (.if_icmp .ge 26, 3) := fd_get adX5_copy_3 (k := 12) rfl
theorem dX5_copy_109 : decode cX5_copy 109 = .ok (.aload_n 0, 1) := fd_get adX5_copy_3 (k := 13) rfl
theorem dX5_copy_110 : decode cX5_copy 110 = .ok (.iload_n 2, 1) := fd_get adX5_copy_3 (k := 14) rfl
theorem dX5_copy_111 : decode cX5_copy 111 = .ok (.iload 4, 2) := fd_get adX5_copy_3 (k := 15) rfl
theorem dX5_copy_113 : decode cX5_copy 113 = .ok (.aload_n 0, 1) := fd_get adX5_copy_4 (k := 0) rfl
theorem dX5_copy_114 : decode cX5_copy 114 = .ok (.getfield 11, 3) := fd_get adX5_copy_4 (k := 1) rfl
theorem dX5_copy_117 : decode cX5_copy 117 = .ok (.iload_n 1, 1) := fd_get adX5_copy_4 (k := 2) rfl
theorem dX5_copy_118 : decode cX5_copy 118 = .ok (.aaload, 1) := fd_get adX5_copy_4 (k := 3) rfl
theorem dX5_copy_119 : decode cX5_copy 119 = .ok (.iload 4, 2) := fd_get adX5_copy_4 (k := 4) rfl
theorem dX5_copy_121 : decode cX5_copy 121 = .ok (.iaload, 1) := fd_get adX5_copy_4 (k := 5) rfl
theorem dX5_copy_122 : decode cX5_copy 122 = .ok (.invokevirtual 132, 3) := fd_get adX5_copy_4 (k := 6) rfl
theorem dX5_copy_125 : decode cX5_copy 125 = .ok (.pop, 1) := fd_get adX5_copy_4 (k := 7) rfl
theorem dX5_copy_126 : decode cX5_copy 126 = .ok (.iinc 4 1, 3) := fd_get adX5_copy_4 (k := 8) rfl
theorem dX5_copy_129 : decode cX5_copy 129 = .ok (.goto (-27), 3) := fd_get adX5_copy_4 (k := 9) rfl
theorem dX5_copy_132 : decode cX5_copy 132 = .ok (.iload_n 3, 1) := fd_get adX5_copy_4 (k := 10) rfl
theorem dX5_copy_133 : decode cX5_copy 133 = .ok (.ireturn, 1) := fd_get adX5_copy_4 (k := 11) rfl
theorem mwsX5_thin_0 : ∀ w ∈ wsX5_thin_r1, w ∈ wsX5_thin := fun w h => (List.mem_cons_of_mem _ (List.mem_append_left _ (List.mem_append_left _ h)))
theorem mwsX5_thin_1 : ∀ w ∈ wsX5_thin_r2, w ∈ wsX5_thin := fun w h => (List.mem_cons_of_mem _ (List.mem_append_left _ (List.mem_append_right _ h)))
theorem mwsX5_thin_2 : ∀ w ∈ wsX50, w ∈ wsX5_thin := fun w h => (List.mem_cons_of_mem _ (List.mem_append_right _ h))
set_option maxRecDepth 20000 in
theorem ggX5_thin_X5_areBad : GoodIn wsX5_thin wsX5_areBad := goodIn_sub (List.forall_mem_cons.mpr ⟨(mwsX5_thin_0 _ (List.mem_of_getElem? (i := 5) rfl)), (List.forall_mem_cons.mpr ⟨(mwsX5_thin_0 _ (List.mem_of_getElem? (i := 6) rfl)), (List.forall_mem_cons.mpr ⟨(mwsX5_thin_0 _ (List.mem_of_getElem? (i := 7) rfl)), (List.forall_mem_cons.mpr ⟨(mwsX5_thin_0 _ (List.mem_of_getElem? (i := 4) rfl)), (tk_mem 13 _ (fun w h => (mwsX5_thin_0 _ (tkB_mem 8 13 h))) (tk_mem 13 _ (fun w h => (mwsX5_thin_2 _ (tkB_mem 0 13 h))) (fun _ h => absurd h List.not_mem_nil)))⟩)⟩)⟩)⟩) (by decide +kernel)
set_option maxRecDepth 20000 in
theorem gX5_thin_X5_areBad : GoodIn wsX5_thin (wsV RX5 160 RX5 yX5_areBad wsX5_areBad) := goodIn_app (goodIn_sub (tk_mem 4 _ (fun w h => (mwsX5_thin_0 _ (tkB_mem 1 4 h))) (fun _ h => absurd h List.not_mem_nil)) (by decide +kernel)) ggX5_thin_X5_areBad
set_option maxRecDepth 20000 in
theorem ggX5_thin_X5_touch : GoodIn wsX5_thin wsX5_touch := goodIn_sub (List.forall_mem_cons.mpr ⟨(mwsX5_thin_1 _ (List.mem_of_getElem? (i := 0) rfl)), (List.forall_mem_cons.mpr ⟨(mwsX5_thin_1 _ (List.mem_of_getElem? (i := 1) rfl)), (List.forall_mem_cons.mpr ⟨(mwsX5_thin_1 _ (List.mem_of_getElem? (i := 2) rfl)), (tk_mem 13 _ (fun w h => (mwsX5_thin_2 _ (tkB_mem 0 13 h))) (fun _ h => absurd h List.not_mem_nil))⟩)⟩)⟩) (by decide +kernel)
set_option maxRecDepth 20000 in
theorem gX5_thin_X5_touch : GoodIn wsX5_thin (wsV RX5 142 RX5 yX5_touch wsX5_touch) := goodIn_app (goodIn_sub (List.forall_mem_cons.mpr ⟨(mwsX5_thin_0 _ (List.mem_of_getElem? (i := 21) rfl)), (List.forall_mem_cons.mpr ⟨(mwsX5_thin_0 _ (List.mem_of_getElem? (i := 22) rfl)), (List.forall_mem_cons.mpr ⟨(mwsX5_thin_0 _ (List.mem_of_getElem? (i := 23) rfl)), (List.forall_mem_cons.mpr ⟨(mwsX5_thin_0 _ (List.mem_of_getElem? (i := 4) rfl)), (fun _ h => absurd h List.not_mem_nil)⟩)⟩)⟩)⟩) (by decide +kernel)) ggX5_thin_X5_touch
set_option maxRecDepth 20000 in
theorem ggX5_thin_X5_set : GoodIn wsX5_thin wsX5_set := goodIn_sub (List.forall_mem_cons.mpr ⟨(mwsX5_thin_1 _ (List.mem_of_getElem? (i := 6) rfl)), (List.forall_mem_cons.mpr ⟨(mwsX5_thin_0 _ (List.mem_of_getElem? (i := 0) rfl)), (List.forall_mem_cons.mpr ⟨(mwsX5_thin_1 _ (List.mem_of_getElem? (i := 1) rfl)), (List.forall_mem_cons.mpr ⟨(mwsX5_thin_1 _ (List.mem_of_getElem? (i := 7) rfl)), (tk_mem 13 _ (fun w h => (mwsX5_thin_2 _ (tkB_mem 0 13 h))) (fun _ h => absurd h List.not_mem_nil))⟩)⟩)⟩)⟩) (by decide +kernel)
set_option maxRecDepth 20000 in
theorem gX5_thin_X5_set : GoodIn wsX5_thin (wsV RX5 132 RX5 yX5_set wsX5_set) := goodIn_app (goodIn_sub (List.forall_mem_cons.mpr ⟨(mwsX5_thin_1 _ (List.mem_of_getElem? (i := 3) rfl)), (List.forall_mem_cons.mpr ⟨(mwsX5_thin_1 _ (List.mem_of_getElem? (i := 4) rfl)), (List.forall_mem_cons.mpr ⟨(mwsX5_thin_1 _ (List.mem_of_getElem? (i := 5) rfl)), (List.forall_mem_cons.mpr ⟨(mwsX5_thin_0 _ (List.mem_of_getElem? (i := 4) rfl)), (fun _ h => absurd h List.not_mem_nil)⟩)⟩)⟩)⟩) (by decide +kernel)) ggX5_thin_X5_set
theorem adX5_thin_0 : fd_rows (cX5_thin.data.toList.drop 0) 0 [(0, some (.aload_n 0), 1), (1, some (.iload_n 1), 1), (2, some (.iload_n 2), 1), (3, some (.invokevirtual 160), 3), (6, some (.ifCond .eq 5), 3), (9, some (.iconst 0), 1), (10, some (.ireturn), 1), (11, some (.aload_n 0), 1), (12, some (.iload_n 1), 1), (13, some (.invokevirtual 142), 3), (16, some (.iconst 0), 1), (17, some (.istore 4), 2), (19, some (.iconst 0), 1), (20, some (.istore 5), 2), (22, some (.iload 5), 2), (24, some (.bipush 100), 2)] = true := by decide +kernel
theorem adX5_thin_1 : fd_rows (cX5_thin.data.toList.drop 26) 26 [(26, some (.if_icmp .ge 65), 3), (29, some (.aload_n 0), 1), (30, some (.getfield 11), 3), (33, some (.iload_n 1), 1), (34, some (.aaload), 1), (35, some (.iload 5), 2), (37, some (.iaload), 1), (38, some (.sipush (-10000)), 3), (41, some (.if_icmp .eq 44), 3), (44, some (.aload_n 0), 1), (45, some (.getfield 11), 3), (48, some (.iload_n 2), 1), (49, some (.aaload), 1), (50, some (.iload 5), 2), (52, some (.iaload), 1), (53, some (.sipush (-10000)), 3)] = true := by decide +kernel
theorem adX5_thin_2 : fd_rows (cX5_thin.data.toList.drop 56) 56 [(56, some (.if_icmp .eq 7), 3), (59, some (.iconst 1), 1), (60, some (.goto 4), 3), (63, some (.iconst 0), 1), (64, some (.iload_n 3), 1), (65, some (.if_icmp .eq 6), 3), (68, some (.goto 17), 3), (71, some (.aload_n 0), 1), (72, some (.iload_n 1), 1), (73, some (.iload 5), 2), (75, some (.sipush (-10000)), 3), (78, some (.invokevirtual 132), 3), (81, some (.pop), 1), (82, some (.iinc 4 1), 3), (85, some (.iinc 5 1), 3), (88, some (.goto (-66)), 3)] = true := by decide +kernel
theorem adX5_thin_3 : fd_rows (cX5_thin.data.toList.drop 91) 91 [(91, some (.iload 4), 2), (93, some (.ireturn), 1)] = true := by decide +kernel
theorem dX5_thin_0 : decode cX5_thin 0 = .ok (.aload_n 0, 1) := fd_get adX5_thin_0 (k := 0) rfl
theorem dX5_thin_1 : decode cX5_thin 1 = .ok (.iload_n 1, 1) := fd_get adX5_thin_0 (k := 1) rfl
theorem dX5_thin_2 : decode cX5_thin 2 = .ok (.iload_n 2, 1) := fd_get adX5_thin_0 (k := 2) rfl
theorem dX5_thin_3 : decode cX5_thin 3 = .ok (.invokevirtual 160, 3) := fd_get adX5_thin_0 (k := 3) rfl
theorem dX5_thin_6 : decode cX5_thin 6 = .ok (.ifCond .eq 5, 3) := fd_get adX5_thin_0 (k := 4) rfl
theorem dX5_thin_9 : decode cX5_thin 9 = .ok (.iconst 0, 1) := fd_get adX5_thin_0 (k := 5) rfl
theorem dX5_thin_10 : decode cX5_thin 10 = .ok (.ireturn, 1) := fd_get adX5_thin_0 (k := 6) rfl
theorem dX5_thin_11 : decode cX5_thin 11 = .ok (.aload_n 0, 1) := fd_get adX5_thin_0 (k := 7) rfl
theorem dX5_thin_12 : decode cX5_thin 12 = .ok (.iload_n 1, 1) := fd_get adX5_thin_0 (k := 8) rfl
theorem dX5_thin_13 : decode cX5_thin 13 = .ok (.invokevirtual 142, 3) := fd_get adX5_thin_0 (k := 9) rfl
theorem dX5_thin_16 : decode cX5_thin 16 = .ok (.iconst 0, 1) := fd_get adX5_thin_0 (k := 10) rfl
theorem dX5_thin_17 : decode cX5_thin 17 = .ok (.istore 4, 2) := fd_get adX5_thin_0 (k := 11) rfl
theorem dX5_thin_19 : decode cX5_thin 19 = .ok (.iconst 0, 1) := fd_get adX5_thin_0 (k := 12) rfl
theorem dX5_thin_20 : decode cX5_thin 20 = .ok (.istore 5, 2) := fd_get adX5_thin_0 (k := 13) rfl
theorem dX5_thin_22 : decode cX5_thin 22 = .ok (.iload 5, 2) := fd_get adX5_thin_0 (k := 14) rfl
theorem dX5_thin_24 : decode cX5_thin 24 = .ok (.bipush 100, 2) := fd_get adX5_thin_0 (k := 15) rfl
theorem dX5_thin_26 : decode cX5_thin 26 = .ok (.if_icmp .ge 65, 3) := fd_get adX5_thin_1 (k := 0) rfl
theorem dX5_thin_29 : decode cX5_thin 29 = .ok (.aload_n 0, 1) := fd_get adX5_thin_1 (k := 1) rfl
theorem dX5_thin_30 : decode cX5_thin 30 = .ok (.getfield 11, 3) := fd_get adX5_thin_1 (k := 2) rfl
theorem dX5_thin_33 : decode cX5_thin 33 = .ok (.iload_n 1, 1) := fd_get adX5_thin_1 (k := 3) rfl
theorem dX5_thin_34 : decode cX5_thin 34 = .ok (.aaload, 1) := fd_get adX5_thin_1 (k := 4) rfl
theorem dX5_thin_35 : decode cX5_thin 35 = .ok (.iload 5, 2) := fd_get adX5_thin_1 (k := 5) rfl
theorem dX5_thin_37 : decode cX5_thin 37 = .ok (.iaload, 1) := fd_get adX5_thin_1 (k := 6) rfl
theorem dX5_thin_38 : decode cX5_thin 38 = .ok (.sipush (-10000), 3) := fd_get adX5_thin_1 (k := 7) rfl
theorem dX5_thin_41 : decode cX5_thin 41 = .ok (.if_icmp .eq 44, 3) := fd_get adX5_thin_1 (k := 8) rfl
theorem dX5_thin_44 : decode cX5_thin 44 = .ok (.aload_n 0, 1) := fd_get adX5_thin_1 (k := 9) rfl
theorem dX5_thin_45 : decode cX5_thin 45 = .ok (.getfield 11, 3) := fd_get adX5_thin_1 (k := 10) rfl
theorem dX5_thin_48 : decode cX5_thin 48 = .ok (.iload_n 2, 1) := fd_get adX5_thin_1 (k := 11) rfl
theorem dX5_thin_49 : decode cX5_thin 49 = .ok (.aaload, 1) := fd_get adX5_thin_1 (k := 12) rfl
theorem dX5_thin_50 : decode cX5_thin 50 = .ok (.iload 5, 2) := fd_get adX5_thin_1 (k := 13) rfl
theorem dX5_thin_52 : decode cX5_thin 52 = .ok (.iaload, 1) := fd_get adX5_thin_1 (k := 14) rfl
theorem dX5_thin_53 : decode cX5_thin 53 = .ok (.sipush (-10000), 3) := fd_get adX5_thin_1 (k := 15) rfl
theorem dX5_thin_56 : decode cX5_thin 56 = .ok (.if_icmp .eq 7, 3) := fd_get adX5_thin_2 (k := 0) rfl
theorem dX5_thin_59 : decode cX5_thin 59 = .ok (.iconst 1, 1) := fd_get adX5_thin_2 (k := 1) rfl
theorem dX5_thin_60 : decode cX5_thin 60 = .ok (.goto 4, 3) := fd_get adX5_thin_2 (k := 2) rfl
theorem dX5_thin_63 : decode cX5_thin 63 = .ok (.iconst 0, 1) := fd_get adX5_thin_2 (k := 3) rfl
theorem dX5_thin_64 : decode cX5_thin 64 = .ok (.iload_n 3, 1) := fd_get adX5_thin_2 (k := 4) rfl
theorem dX5_thin_65 : decode cX5_thin 65 = .ok (.if_icmp .eq 6, 3) := fd_get adX5_thin_2 (k := 5) rfl
theorem dX5_thin_68 : decode cX5_thin 68 = .ok (.goto 17, 3) := fd_get adX5_thin_2 (k := 6) rfl
theorem dX5_thin_71 : decode cX5_thin 71 = .ok (.aload_n 0, 1) := fd_get adX5_thin_2 (k := 7) rfl
theorem dX5_thin_72 : decode cX5_thin 72 = .ok (.iload_n 1, 1) := fd_get adX5_thin_2 (k := 8) rfl
theorem dX5_thin_73 : decode cX5_thin 73 = .ok (.iload 5, 2) := fd_get adX5_thin_2 (k := 9) rfl
theorem dX5_thin_75 : decode cX5_thin 75 = .ok (.sipush (-10000), 3) := fd_get adX5_thin_2 (k := 10) rfl
theorem dX5_thin_78 : decode cX5_thin 78 = .ok (.invokevirtual 132, 3) := fd_get adX5_thin_2 (k := 11) rfl
theorem dX5_thin_81 : decode cX5_thin 81 = .ok (.pop, 1) := fd_get adX5_thin_2 (k := 12) rfl
theorem dX5_thin_82 : decode cX5_thin 82 = .ok (.iinc 4 1, 3) := fd_get adX5_thin_2 (k := 13) rfl
theorem dX5_thin_85 : decode cX5_thin 85 = .ok (.iinc 5 1, 3) := fd_get adX5_thin_2 (k := 14) rfl
theorem dX5_thin_88 : decode cX5_thin 88 = .ok (.goto (-66), 3) := fd_get adX5_thin_2 (k := 15) rfl
theorem dX5_thin_91 : decode cX5_thin 91 = .ok (.iload 4, 2) := fd_get adX5_thin_3 (k := 0) rfl
theorem dX5_thin_93 : decode cX5_thin 93 = .ok (.ireturn, 1) := fd_get adX5_thin_3 (k := 1) rfl
theorem adX5_free_0 : fd_rows (cX5_free.data.toList.drop 0) 0 [(0, some (.iconst 0), 1), (1, some (.istore_n 1), 1), (2, some (.iload_n 1), 1), (3, some (.iconst 4), 1), (4, some (.if_icmp .ge 20), 3), (7, some (.aload_n 0), 1), (8, some (.getfield 22), 3), (11, some (.iload_n 1), 1), (12, some (.aaload), 1), (13, some (.ifnonnull 5), 3), (16, some (.iload_n 1), 1), (17, some (.ireturn), 1), (18, some (.iinc 1 1), 3), (21, some (.goto (-19)), 3), (24, some (.sipush (-10000)), 3), (27, some (.ireturn), 1)] = true := by decide +kernel
theorem dX5_free_0 : decode cX5_free 0 = .ok (.iconst 0, 1) := fd_get adX5_free_0 (k := 0) rfl
theorem dX5_free_1 : decode cX5_free 1 = .ok (.istore_n 1, 1) := fd_get adX5_free_0 (k := 1) rfl
theorem dX5_free_2 : decode cX5_free 2 = .ok (.iload_n 1, 1) := fd_get adX5_free_0 (k := 2) rfl
theorem dX5_free_3 : decode cX5_free 3 = .ok (.iconst 4, 1) := fd_get adX5_free_0 (k := 3) rfl
theorem dX5_free_4 : decode cX5_free 4 = .ok (.if_icmp .ge 20, 3) := fd_get adX5_free_0 (k := 4) rfl
theorem dX5_free_7 : decode cX5_free 7 = .ok (.aload_n 0, 1) := fd_get adX5_free_0 (k := 5) rfl
theorem dX5_free_8 : decode cX5_free 8 = .ok (.getfield 22, 3) := fd_get adX5_free_0 (k := 6) rfl
theorem dX5_free_11 : decode cX5_free 11 = .ok (.iload_n 1, 1) := fd_get adX5_free_0 (k := 7) rfl
theorem dX5_free_12 : decode cX5_free 12 = .ok (.aaload, 1) := fd_get adX5_free_0 (k := 8) rfl
theorem dX5_free_13 : decode cX5_free 13 = .ok (.ifnonnull 5, 3) := fd_get adX5_free_0 (k := 9) rfl
theorem dX5_free_16 : decode cX5_free 16 = .ok (.iload_n 1, 1) := fd_get adX5_free_0 (k := 10) rfl
theorem dX5_free_17 : decode cX5_free 17 = .ok (.ireturn, 1) := fd_get adX5_free_0 (k := 11) rfl
theorem dX5_free_18 : decode cX5_free 18 = .ok (.iinc 1 1, 3) := fd_get adX5_free_0 (k := 12) rfl
theorem dX5_free_21 : decode cX5_free 21 = .ok (.goto (-19), 3) := fd_get adX5_free_0 (k := 13) rfl
theorem dX5_free_24 : decode cX5_free 24 = .ok (.sipush (-10000), 3) := fd_get adX5_free_0 (k := 14) rfl
theorem dX5_free_27 : decode cX5_free 27 = .ok (.ireturn, 1) := fd_get adX5_free_0 (k := 15) rfl
theorem mwsX5_open_0 : ∀ w ∈ wsX50, w ∈ wsX5_open := fun w h => (List.mem_cons_of_mem _ (List.mem_append_right _ h))
set_option maxRecDepth 20000 in
theorem ggX5_open_X5_free : GoodIn wsX5_open wsX5_free := goodIn_sub (List.forall_mem_cons.mpr ⟨(List.mem_cons_of_mem _ (List.mem_append_left _ (List.mem_of_getElem? (i := 5) rfl))), (List.forall_mem_cons.mpr ⟨(List.mem_cons_of_mem _ (List.mem_append_left _ (List.mem_of_getElem? (i := 0) rfl))), (tk_mem 13 _ (fun w h => (mwsX5_open_0 _ (tkB_mem 0 13 h))) (fun _ h => absurd h List.not_mem_nil))⟩)⟩) (by decide +kernel)
set_option maxRecDepth 20000 in
theorem gX5_open_X5_free : GoodIn wsX5_open (wsV RX5 170 RX5 yX5_free wsX5_free) := goodIn_app (goodIn_sub (tk_mem 4 _ (fun w h => (List.mem_cons_of_mem _ (List.mem_append_left _ (tkB_mem 1 4 h)))) (fun _ h => absurd h List.not_mem_nil)) (by decide +kernel)) ggX5_open_X5_free
theorem adX5_open_0 : fd_rows (cX5_open.data.toList.drop 0) 0 [(0, some (.aload_n 0), 1), (1, some (.invokevirtual 170), 3), (4, some (.istore_n 2), 1), (5, some (.aload_n 0), 1), (6, some (.getfield 22), 3), (9, some (.iload_n 2), 1), (10, some (.aload_n 1), 1), (11, some (.aastore), 1), (12, some (.iload_n 2), 1), (13, some (.ireturn), 1)] = true := by decide +kernel
theorem dX5_open_0 : decode cX5_open 0 = .ok (.aload_n 0, 1) := fd_get adX5_open_0 (k := 0) rfl
theorem dX5_open_1 : decode cX5_open 1 = .ok (.invokevirtual 170, 3) := fd_get adX5_open_0 (k := 1) rfl
theorem dX5_open_4 : decode cX5_open 4 = .ok (.istore_n 2, 1) := fd_get adX5_open_0 (k := 2) rfl
theorem dX5_open_5 : decode cX5_open 5 = .ok (.aload_n 0, 1) := fd_get adX5_open_0 (k := 3) rfl
theorem dX5_open_6 : decode cX5_open 6 = .ok (.getfield 22, 3) := fd_get adX5_open_0 (k := 4) rfl
theorem dX5_open_9 : decode cX5_open 9 = .ok (.iload_n 2, 1) := fd_get adX5_open_0 (k := 5) rfl
theorem dX5_open_10 : decode cX5_open 10 = .ok (.aload_n 1, 1) := fd_get adX5_open_0 (k := 6) rfl
theorem dX5_open_11 : decode cX5_open 11 = .ok (.aastore, 1) := fd_get adX5_open_0 (k := 7) rfl
theorem dX5_open_12 : decode cX5_open 12 = .ok (.iload_n 2, 1) := fd_get adX5_open_0 (k := 8) rfl
theorem dX5_open_13 : decode cX5_open 13 = .ok (.ireturn, 1) := fd_get adX5_open_0 (k := 9) rfl
theorem mwsX5_head_0 : ∀ w ∈ wsX5_head_r1, w ∈ wsX5_head := fun w h => (List.mem_cons_of_mem _ (List.mem_append_left _ (List.mem_append_left _ h)))
theorem mwsX5_head_1 : ∀ w ∈ wsX5_head_r2, w ∈ wsX5_head := fun w h => (List.mem_cons_of_mem _ (List.mem_append_left _ (List.mem_append_right _ h)))
theorem mwsX5_head_2 : ∀ w ∈ wsX50, w ∈ wsX5_head := fun w h => (List.mem_cons_of_mem _ (List.mem_append_right _ h))
set_option maxRecDepth 20000 in
theorem ggX5_head_X5_isBad : GoodIn wsX5_head wsX5_isBad := goodIn_sub (List.forall_mem_cons.mpr ⟨(mwsX5_head_0 _ (List.mem_of_getElem? (i := 5) rfl)), (List.forall_mem_cons.mpr ⟨(mwsX5_head_0 _ (List.mem_of_getElem? (i := 6) rfl)), (List.forall_mem_cons.mpr ⟨(mwsX5_head_0 _ (List.mem_of_getElem? (i := 7) rfl)), (List.forall_mem_cons.mpr ⟨(mwsX5_head_0 _ (List.mem_of_getElem? (i := 4) rfl)), (tk_mem 16 _ (fun w h => (mwsX5_head_0 _ (tkB_mem 8 16 h))) (tk_mem 13 _ (fun w h => (mwsX5_head_2 _ (tkB_mem 0 13 h))) (fun _ h => absurd h List.not_mem_nil)))⟩)⟩)⟩)⟩) (by decide +kernel)
set_option maxRecDepth 20000 in
theorem gX5_head_X5_isBad : GoodIn wsX5_head (wsV RX5 146 RX5 yX5_isBad wsX5_isBad) := goodIn_app (goodIn_sub (tk_mem 4 _ (fun w h => (mwsX5_head_0 _ (tkB_mem 1 4 h))) (fun _ h => absurd h List.not_mem_nil)) (by decide +kernel)) ggX5_head_X5_isBad
set_option maxRecDepth 20000 in
theorem ggX5_head_X5_free : GoodIn wsX5_head wsX5_free := goodIn_sub (List.forall_mem_cons.mpr ⟨(mwsX5_head_1 _ (List.mem_of_getElem? (i := 3) rfl)), (List.forall_mem_cons.mpr ⟨(mwsX5_head_1 _ (List.mem_of_getElem? (i := 4) rfl)), (tk_mem 13 _ (fun w h => (mwsX5_head_2 _ (tkB_mem 0 13 h))) (fun _ h => absurd h List.not_mem_nil))⟩)⟩) (by decide +kernel)
set_option maxRecDepth 20000 in
theorem gX5_head_X5_free : GoodIn wsX5_head (wsV RX5 170 RX5 yX5_free wsX5_free) := goodIn_app (goodIn_sub (List.forall_mem_cons.mpr ⟨(mwsX5_head_1 _ (List.mem_of_getElem? (i := 0) rfl)), (List.forall_mem_cons.mpr ⟨(mwsX5_head_1 _ (List.mem_of_getElem? (i := 1) rfl)), (List.forall_mem_cons.mpr ⟨(mwsX5_head_1 _ (List.mem_of_getElem? (i := 2) rfl)), (List.forall_mem_cons.mpr ⟨(mwsX5_head_0 _ (List.mem_of_getElem? (i := 4) rfl)), (fun _ h => absurd h List.not_mem_nil)⟩)⟩)⟩)⟩) (by decide +kernel)) ggX5_head_X5_free
set_option maxRecDepth 20000 in
theorem ggX5_head_X5_refuse : GoodIn wsX5_head wsX5_refuse := goodIn_sub (List.forall_mem_cons.mpr ⟨(mwsX5_head_0 _ (List.mem_of_getElem? (i := 20) rfl)), (List.forall_mem_cons.mpr ⟨(mwsX5_head_0 _ (List.mem_of_getElem? (i := 16) rfl)), (tk_mem 13 _ (fun w h => (mwsX5_head_2 _ (tkB_mem 0 13 h))) (fun _ h => absurd h List.not_mem_nil))⟩)⟩) (by decide +kernel)
set_option maxRecDepth 20000 in
theorem gX5_head_X5_refuse : GoodIn wsX5_head (wsV RX5 45 RX5 yX5_refuse wsX5_refuse) := goodIn_app (goodIn_sub (List.forall_mem_cons.mpr ⟨(mwsX5_head_0 _ (List.mem_of_getElem? (i := 17) rfl)), (List.forall_mem_cons.mpr ⟨(mwsX5_head_0 _ (List.mem_of_getElem? (i := 18) rfl)), (List.forall_mem_cons.mpr ⟨(mwsX5_head_0 _ (List.mem_of_getElem? (i := 19) rfl)), (List.forall_mem_cons.mpr ⟨(mwsX5_head_0 _ (List.mem_of_getElem? (i := 4) rfl)), (fun _ h => absurd h List.not_mem_nil)⟩)⟩)⟩)⟩) (by decide +kernel)) ggX5_head_X5_refuse
set_option maxRecDepth 20000 in
theorem ggX5_head_X5_one : GoodIn wsX5_head wsX5_one := goodIn_sub (List.forall_mem_cons.mpr ⟨(mwsX5_head_1 _ (List.mem_of_getElem? (i := 7) rfl)), (fun _ h => absurd h List.not_mem_nil)⟩) (by decide +kernel)
set_option maxRecDepth 20000 in
theorem gX5_head_X5_one : GoodIn wsX5_head (va_wsS RX5 81 yX5_one wsX5_one) := goodIn_app (goodIn_sub (List.forall_mem_cons.mpr ⟨(mwsX5_head_1 _ (List.mem_of_getElem? (i := 5) rfl)), (List.forall_mem_cons.mpr ⟨(mwsX5_head_1 _ (List.mem_of_getElem? (i := 6) rfl)), (List.forall_mem_cons.mpr ⟨(mwsX5_head_0 _ (List.mem_of_getElem? (i := 4) rfl)), (fun _ h => absurd h List.not_mem_nil)⟩)⟩)⟩) (by decide +kernel)) ggX5_head_X5_one
set_option maxRecDepth 20000 in
theorem ggX5_head_X5_open : GoodIn wsX5_head wsX5_open := goodIn_sub (List.forall_mem_cons.mpr ⟨(mwsX5_head_1 _ (List.mem_of_getElem? (i := 11) rfl)), (List.forall_mem_cons.mpr ⟨(mwsX5_head_1 _ (List.mem_of_getElem? (i := 4) rfl)), (List.forall_mem_cons.mpr ⟨(mwsX5_head_1 _ (List.mem_of_getElem? (i := 0) rfl)), (List.forall_mem_cons.mpr ⟨(mwsX5_head_1 _ (List.mem_of_getElem? (i := 1) rfl)), (List.forall_mem_cons.mpr ⟨(mwsX5_head_1 _ (List.mem_of_getElem? (i := 2) rfl)), (List.forall_mem_cons.mpr ⟨(mwsX5_head_0 _ (List.mem_of_getElem? (i := 4) rfl)), (List.forall_mem_cons.mpr ⟨(mwsX5_head_1 _ (List.mem_of_getElem? (i := 3) rfl)), (tk_mem 13 _ (fun w h => (mwsX5_head_2 _ (tkB_mem 0 13 h))) (fun _ h => absurd h List.not_mem_nil))⟩)⟩)⟩)⟩)⟩)⟩)⟩) (by decide +kernel)
set_option maxRecDepth 20000 in
theorem gX5_head_X5_open : GoodIn wsX5_head (wsV RX5 173 RX5 yX5_open wsX5_open) := goodIn_app (goodIn_sub (List.forall_mem_cons.mpr ⟨(mwsX5_head_1 _ (List.mem_of_getElem? (i := 8) rfl)), (List.forall_mem_cons.mpr ⟨(mwsX5_head_1 _ (List.mem_of_getElem? (i := 9) rfl)), (List.forall_mem_cons.mpr ⟨(mwsX5_head_1 _ (List.mem_of_getElem? (i := 10) rfl)), (List.forall_mem_cons.mpr ⟨(mwsX5_head_0 _ (List.mem_of_getElem? (i := 4) rfl)), (fun _ h => absurd h List.not_mem_nil)⟩)⟩)⟩)⟩) (by decide +kernel)) ggX5_head_X5_open
theorem adX5_head_0 : fd_rows (cX5_head.data.toList.drop 0) 0 [(0, some (.aload_n 0), 1), (1, some (.iload_n 1), 1), (2, some (.iload_n 2), 1), (3, some (.invokevirtual 146), 3), (6, some (.ifCond .ne 26), 3), (9, some (.aload_n 0), 1), (10, some (.aload_n 0), 1), (11, some (.invokevirtual 170), 3), (14, some (.sipush (-10000)), 3), (17, some (.if_icmp .ne 7), 3), (20, some (.iconst 1), 1), (21, some (.goto 4), 3), (24, some (.iconst 0), 1), (25, some (.iconst 3), 1), (26, some (.invokevirtual 45), 3), (29, some (.ifCond .eq 7), 3)] = true := by decide +kernel
theorem adX5_head_1 : fd_rows (cX5_head.data.toList.drop 32) 32 [(32, some (.iconst 0), 1), (33, some (.goto 35), 3), (36, some (.aload_n 0), 1), (37, some (.iconst 5), 1), (38, none, 2), (40, some (.dup), 1), (41, some (.iconst 0), 1), (42, some (.iload_n 1), 1), (43, some (.iastore), 1), (44, some (.dup), 1), (45, some (.iconst 1), 1), (46, some (.sipush (-10000)), 3), (49, some (.iastore), 1), (50, some (.dup), 1), (51, some (.iconst 2), 1), (52, some (.iconst 0), 1)] = true := by decide +kernel
theorem adX5_head_2 : fd_rows (cX5_head.data.toList.drop 53) 53 [(53, some (.iastore), 1), (54, some (.dup), 1), (55, some (.iconst 3), 1), (56, some (.iload_n 2), 1), (57, some (.iastore), 1), (58, some (.dup), 1), (59, some (.iconst 4), 1), (60, some (.iload_n 3), 1), (61, some (.invokestatic 81), 3), (64, some (.iastore), 1), (65, some (.invokevirtual 173), 3), (68, some (.ireturn), 1)] = true := by decide +kernel
theorem dX5_head_0 : decode cX5_head 0 = .ok (.aload_n 0, 1) := fd_get adX5_head_0 (k := 0) rfl
theorem dX5_head_1 : decode cX5_head 1 = .ok (.iload_n 1, 1) := fd_get adX5_head_0 (k := 1) rfl
theorem dX5_head_2 : decode cX5_head 2 = .ok (.iload_n 2, 1) := fd_get adX5_head_0 (k := 2) rfl
theorem dX5_head_3 : decode cX5_head 3 = .ok (.invokevirtual 146, 3) := fd_get adX5_head_0 (k := 3) rfl
theorem dX5_head_6 : decode cX5_head 6 = .ok (.ifCond .ne 26, 3) := fd_get adX5_head_0 (k := 4) rfl
theorem dX5_head_9 : decode cX5_head 9 = .ok (.aload_n 0, 1) := fd_get adX5_head_0 (k := 5) rfl
theorem dX5_head_10 : decode cX5_head 10 = .ok (.aload_n 0, 1) := fd_get adX5_head_0 (k := 6) rfl
theorem dX5_head_11 : decode cX5_head 11 = .ok (.invokevirtual 170, 3) := fd_get adX5_head_0 (k := 7) rfl
theorem dX5_head_14 : decode cX5_head 14 = .ok (.sipush (-10000), 3) := fd_get adX5_head_0 (k := 8) rfl
theorem dX5_head_17 : decode cX5_head 17 = .ok (.if_icmp .ne 7, 3) := fd_get adX5_head_0 (k := 9) rfl
theorem dX5_head_20 : decode cX5_head 20 = .ok (.iconst 1, 1) := fd_get adX5_head_0 (k := 10) rfl
theorem dX5_head_21 : decode cX5_head 21 = .ok (.goto 4, 3) := fd_get adX5_head_0 (k := 11) rfl
theorem dX5_head_24 : decode cX5_head 24 = .ok (.iconst 0, 1) := fd_get adX5_head_0 (k := 12) rfl
theorem dX5_head_25 : decode cX5_head 25 = .ok (.iconst 3, 1) := fd_get adX5_head_0 (k := 13) rfl
theorem dX5_head_26 : decode cX5_head 26 = .ok (.invokevirtual 45, 3) := fd_get adX5_head_0 (k := 14) rfl
theorem dX5_head_29 : decode cX5_head 29 = .ok (.ifCond .eq 7, 3) := fd_get adX5_head_0 (k := 15) rfl
theorem dX5_head_32 : decode cX5_head 32 = .ok (.iconst 0, 1) := fd_get adX5_head_1 (k := 0) rfl
theorem dX5_head_33 : decode cX5_head 33 = .ok (.goto 35, 3) := fd_get adX5_head_1 (k := 1) rfl
theorem dX5_head_36 : decode cX5_head 36 = .ok (.aload_n 0, 1) := fd_get adX5_head_1 (k := 2) rfl
theorem dX5_head_37 : decode cX5_head 37 = .ok (.iconst 5, 1) := fd_get adX5_head_1 (k := 3) rfl
theorem dX5_head_38 : decode cX5_head 38 = .ok (.newarray .int, 2) := by decide +kernel
theorem dX5_head_40 : decode cX5_head 40 = .ok (.dup, 1) := fd_get adX5_head_1 (k := 5) rfl
theorem dX5_head_41 : decode cX5_head 41 = .ok (.iconst 0, 1) := fd_get adX5_head_1 (k := 6) rfl
theorem dX5_head_42 : decode cX5_head 42 = .ok (.iload_n 1, 1) := fd_get adX5_head_1 (k := 7) rfl
theorem dX5_head_43 : decode cX5_head 43 = .ok (.iastore, 1) := fd_get adX5_head_1 (k := 8) rfl
theorem dX5_head_44 : decode cX5_head 44 = .ok (.dup, 1) := fd_get adX5_head_1 (k := 9) rfl
theorem dX5_head_45 : decode cX5_head 45 = .ok (.iconst 1, 1) := fd_get adX5_head_1 (k := 10) rfl
theorem dX5_head_46 : decode cX5_head 46 = .ok (.sipush (-10000), 3) := fd_get adX5_head_1 (k := 11) rfl
theorem dX5_head_49 : decode cX5_head 49 = .ok (.iastore, 1) := fd_get adX5_head_1 (k := 12) rfl
theorem dX5_head_50 : decode cX5_head 50 = .ok (.dup, 1) := fd_get adX5_head_1 (k := 13) rfl
theorem dX5_head_51 : decode cX5_head 51 = .ok (.iconst 2, 1) := fd_get adX5_head_1 (k := 14) rfl
theorem dX5_head_52 : decode cX5_head 52 = .ok (.iconst 0, 1) := fd_get adX5_head_1 (k := 15) rfl
theorem dX5_head_53 : decode cX5_head 53 = .ok (.iastore, 1) := fd_get adX5_head_2 (k := 0) rfl
theorem dX5_head_54 : decode cX5_head 54 = .ok (.dup, 1) := fd_get adX5_head_2 (k := 1) rfl
theorem dX5_head_55 : decode cX5_head 55 = .ok (.iconst 3, 1) := fd_get adX5_head_2 (k := 2) rfl
theorem dX5_head_56 : decode cX5_head 56 = .ok (.iload_n 2, 1) := fd_get adX5_head_2 (k := 3) rfl
theorem dX5_head_57 : decode cX5_head 57 = .ok (.iastore, 1) := fd_get adX5_head_2 (k := 4) rfl
theorem dX5_head_58 : decode cX5_head 58 = .ok (.dup, 1) := fd_get adX5_head_2 (k := 5) rfl
theorem dX5_head_59 : decode cX5_head 59 = .ok (.iconst 4, 1) := fd_get adX5_head_2 (k := 6) rfl
theorem dX5_head_60 : decode cX5_head 60 = .ok (.iload_n 3, 1) := fd_get adX5_head_2 (k := 7) rfl
theorem dX5_head_61 : decode cX5_head 61 = .ok (.invokestatic 81, 3) := fd_get adX5_head_2 (k := 8) rfl
theorem dX5_head_64 : decode cX5_head 64 = .ok (.iastore, 1) := fd_get adX5_head_2 (k := 9) rfl
theorem dX5_head_65 : decode cX5_head 65 = .ok (.invokevirtual 173, 3) := fd_get adX5_head_2 (k := 10) rfl
theorem dX5_head_68 : decode cX5_head 68 = .ok (.ireturn, 1) := fd_get adX5_head_2 (k := 11) rfl
theorem mwsX5_tail_0 : ∀ w ∈ wsX5_tail_r1, w ∈ wsX5_tail := fun w h => (List.mem_cons_of_mem _ (List.mem_append_left _ (List.mem_append_left _ h)))
theorem mwsX5_tail_1 : ∀ w ∈ wsX5_tail_r2, w ∈ wsX5_tail := fun w h => (List.mem_cons_of_mem _ (List.mem_append_left _ (List.mem_append_right _ h)))
theorem mwsX5_tail_2 : ∀ w ∈ wsX50, w ∈ wsX5_tail := fun w h => (List.mem_cons_of_mem _ (List.mem_append_right _ h))
set_option maxRecDepth 20000 in
theorem ggX5_tail_X5_isBad : GoodIn wsX5_tail wsX5_isBad := goodIn_sub (List.forall_mem_cons.mpr ⟨(mwsX5_tail_0 _ (List.mem_of_getElem? (i := 5) rfl)), (List.forall_mem_cons.mpr ⟨(mwsX5_tail_0 _ (List.mem_of_getElem? (i := 6) rfl)), (List.forall_mem_cons.mpr ⟨(mwsX5_tail_0 _ (List.mem_of_getElem? (i := 7) rfl)), (List.forall_mem_cons.mpr ⟨(mwsX5_tail_0 _ (List.mem_of_getElem? (i := 4) rfl)), (tk_mem 16 _ (fun w h => (mwsX5_tail_0 _ (tkB_mem 8 16 h))) (tk_mem 13 _ (fun w h => (mwsX5_tail_2 _ (tkB_mem 0 13 h))) (fun _ h => absurd h List.not_mem_nil)))⟩)⟩)⟩)⟩) (by decide +kernel)
set_option maxRecDepth 20000 in
theorem gX5_tail_X5_isBad : GoodIn wsX5_tail (wsV RX5 146 RX5 yX5_isBad wsX5_isBad) := goodIn_app (goodIn_sub (tk_mem 4 _ (fun w h => (mwsX5_tail_0 _ (tkB_mem 1 4 h))) (fun _ h => absurd h List.not_mem_nil)) (by decide +kernel)) ggX5_tail_X5_isBad
set_option maxRecDepth 20000 in
theorem ggX5_tail_X5_free : GoodIn wsX5_tail wsX5_free := goodIn_sub (List.forall_mem_cons.mpr ⟨(mwsX5_tail_1 _ (List.mem_of_getElem? (i := 3) rfl)), (List.forall_mem_cons.mpr ⟨(mwsX5_tail_1 _ (List.mem_of_getElem? (i := 4) rfl)), (tk_mem 13 _ (fun w h => (mwsX5_tail_2 _ (tkB_mem 0 13 h))) (fun _ h => absurd h List.not_mem_nil))⟩)⟩) (by decide +kernel)
set_option maxRecDepth 20000 in
theorem gX5_tail_X5_free : GoodIn wsX5_tail (wsV RX5 170 RX5 yX5_free wsX5_free) := goodIn_app (goodIn_sub (List.forall_mem_cons.mpr ⟨(mwsX5_tail_1 _ (List.mem_of_getElem? (i := 0) rfl)), (List.forall_mem_cons.mpr ⟨(mwsX5_tail_1 _ (List.mem_of_getElem? (i := 1) rfl)), (List.forall_mem_cons.mpr ⟨(mwsX5_tail_1 _ (List.mem_of_getElem? (i := 2) rfl)), (List.forall_mem_cons.mpr ⟨(mwsX5_tail_0 _ (List.mem_of_getElem? (i := 4) rfl)), (fun _ h => absurd h List.not_mem_nil)⟩)⟩)⟩)⟩) (by decide +kernel)) ggX5_tail_X5_free
set_option maxRecDepth 20000 in
theorem ggX5_tail_X5_refuse : GoodIn wsX5_tail wsX5_refuse := goodIn_sub (List.forall_mem_cons.mpr ⟨(mwsX5_tail_0 _ (List.mem_of_getElem? (i := 20) rfl)), (List.forall_mem_cons.mpr ⟨(mwsX5_tail_0 _ (List.mem_of_getElem? (i := 16) rfl)), (tk_mem 13 _ (fun w h => (mwsX5_tail_2 _ (tkB_mem 0 13 h))) (fun _ h => absurd h List.not_mem_nil))⟩)⟩) (by decide +kernel)
set_option maxRecDepth 20000 in
theorem gX5_tail_X5_refuse : GoodIn wsX5_tail (wsV RX5 45 RX5 yX5_refuse wsX5_refuse) := goodIn_app (goodIn_sub (List.forall_mem_cons.mpr ⟨(mwsX5_tail_0 _ (List.mem_of_getElem? (i := 17) rfl)), (List.forall_mem_cons.mpr ⟨(mwsX5_tail_0 _ (List.mem_of_getElem? (i := 18) rfl)), (List.forall_mem_cons.mpr ⟨(mwsX5_tail_0 _ (List.mem_of_getElem? (i := 19) rfl)), (List.forall_mem_cons.mpr ⟨(mwsX5_tail_0 _ (List.mem_of_getElem? (i := 4) rfl)), (fun _ h => absurd h List.not_mem_nil)⟩)⟩)⟩)⟩) (by decide +kernel)) ggX5_tail_X5_refuse
set_option maxRecDepth 20000 in
theorem ggX5_tail_X5_one : GoodIn wsX5_tail wsX5_one := goodIn_sub (List.forall_mem_cons.mpr ⟨(mwsX5_tail_1 _ (List.mem_of_getElem? (i := 7) rfl)), (fun _ h => absurd h List.not_mem_nil)⟩) (by decide +kernel)
set_option maxRecDepth 20000 in
theorem gX5_tail_X5_one : GoodIn wsX5_tail (va_wsS RX5 81 yX5_one wsX5_one) := goodIn_app (goodIn_sub (List.forall_mem_cons.mpr ⟨(mwsX5_tail_1 _ (List.mem_of_getElem? (i := 5) rfl)), (List.forall_mem_cons.mpr ⟨(mwsX5_tail_1 _ (List.mem_of_getElem? (i := 6) rfl)), (List.forall_mem_cons.mpr ⟨(mwsX5_tail_0 _ (List.mem_of_getElem? (i := 4) rfl)), (fun _ h => absurd h List.not_mem_nil)⟩)⟩)⟩) (by decide +kernel)) ggX5_tail_X5_one
set_option maxRecDepth 20000 in
theorem ggX5_tail_X5_open : GoodIn wsX5_tail wsX5_open := goodIn_sub (List.forall_mem_cons.mpr ⟨(mwsX5_tail_1 _ (List.mem_of_getElem? (i := 11) rfl)), (List.forall_mem_cons.mpr ⟨(mwsX5_tail_1 _ (List.mem_of_getElem? (i := 4) rfl)), (List.forall_mem_cons.mpr ⟨(mwsX5_tail_1 _ (List.mem_of_getElem? (i := 0) rfl)), (List.forall_mem_cons.mpr ⟨(mwsX5_tail_1 _ (List.mem_of_getElem? (i := 1) rfl)), (List.forall_mem_cons.mpr ⟨(mwsX5_tail_1 _ (List.mem_of_getElem? (i := 2) rfl)), (List.forall_mem_cons.mpr ⟨(mwsX5_tail_0 _ (List.mem_of_getElem? (i := 4) rfl)), (List.forall_mem_cons.mpr ⟨(mwsX5_tail_1 _ (List.mem_of_getElem? (i := 3) rfl)), (tk_mem 13 _ (fun w h => (mwsX5_tail_2 _ (tkB_mem 0 13 h))) (fun _ h => absurd h List.not_mem_nil))⟩)⟩)⟩)⟩)⟩)⟩)⟩) (by decide +kernel)
set_option maxRecDepth 20000 in
theorem gX5_tail_X5_open : GoodIn wsX5_tail (wsV RX5 173 RX5 yX5_open wsX5_open) := goodIn_app (goodIn_sub (List.forall_mem_cons.mpr ⟨(mwsX5_tail_1 _ (List.mem_of_getElem? (i := 8) rfl)), (List.forall_mem_cons.mpr ⟨(mwsX5_tail_1 _ (List.mem_of_getElem? (i := 9) rfl)), (List.forall_mem_cons.mpr ⟨(mwsX5_tail_1 _ (List.mem_of_getElem? (i := 10) rfl)), (List.forall_mem_cons.mpr ⟨(mwsX5_tail_0 _ (List.mem_of_getElem? (i := 4) rfl)), (fun _ h => absurd h List.not_mem_nil)⟩)⟩)⟩)⟩) (by decide +kernel)) ggX5_tail_X5_open
theorem adX5_tail_0 : fd_rows (cX5_tail.data.toList.drop 0) 0 [(0, some (.aload_n 0), 1), (1, some (.iload_n 1), 1), (2, some (.iload_n 2), 1), (3, some (.invokevirtual 146), 3), (6, some (.ifCond .ne 26), 3), (9, some (.aload_n 0), 1), (10, some (.aload_n 0), 1), (11, some (.invokevirtual 170), 3), (14, some (.sipush (-10000)), 3), (17, some (.if_icmp .ne 7), 3), (20, some (.iconst 1), 1), (21, some (.goto 4), 3), (24, some (.iconst 0), 1), (25, some (.iconst 3), 1), (26, some (.invokevirtual 45), 3), (29, some (.ifCond .eq 7), 3)] = true := by decide +kernel
theorem adX5_tail_1 : fd_rows (cX5_tail.data.toList.drop 32) 32 [(32, some (.iconst 0), 1), (33, some (.goto 35), 3), (36, some (.aload_n 0), 1), (37, some (.iconst 5), 1), (38, none, 2), (40, some (.dup), 1), (41, some (.iconst 0), 1), (42, some (.iload_n 1), 1), (43, some (.iastore), 1), (44, some (.dup), 1), (45, some (.iconst 1), 1), (46, some (.iload_n 2), 1), (47, some (.iastore), 1), (48, some (.dup), 1), (49, some (.iconst 2), 1), (50, some (.iload_n 3), 1)] = true := by decide +kernel
theorem adX5_tail_2 : fd_rows (cX5_tail.data.toList.drop 51) 51 [(51, some (.invokestatic 81), 3), (54, some (.iastore), 1), (55, some (.dup), 1), (56, some (.iconst 3), 1), (57, some (.sipush (-10000)), 3), (60, some (.iastore), 1), (61, some (.dup), 1), (62, some (.iconst 4), 1), (63, some (.iconst 0), 1), (64, some (.iastore), 1), (65, some (.invokevirtual 173), 3), (68, some (.ireturn), 1)] = true := by decide +kernel
theorem dX5_tail_0 : decode cX5_tail 0 = .ok (.aload_n 0, 1) := fd_get adX5_tail_0 (k := 0) rfl
theorem dX5_tail_1 : decode cX5_tail 1 = .ok (.iload_n 1, 1) := fd_get adX5_tail_0 (k := 1) rfl
theorem dX5_tail_2 : decode cX5_tail 2 = .ok (.iload_n 2, 1) := fd_get adX5_tail_0 (k := 2) rfl
theorem dX5_tail_3 : decode cX5_tail 3 = .ok (.invokevirtual 146, 3) := fd_get adX5_tail_0 (k := 3) rfl
theorem dX5_tail_6 : decode cX5_tail 6 = .ok (.ifCond .ne 26, 3) := fd_get adX5_tail_0 (k := 4) rfl
theorem dX5_tail_9 : decode cX5_tail 9 = .ok (.aload_n 0, 1) := fd_get adX5_tail_0 (k := 5) rfl
theorem dX5_tail_10 : decode cX5_tail 10 = .ok (.aload_n 0, 1) := fd_get adX5_tail_0 (k := 6) rfl
theorem dX5_tail_11 : decode cX5_tail 11 = .ok (.invokevirtual 170, 3) := fd_get adX5_tail_0 (k := 7) rfl
theorem dX5_tail_14 : decode cX5_tail 14 = .ok (.sipush (-10000), 3) := fd_get adX5_tail_0 (k := 8) rfl
theorem dX5_tail_17 : decode cX5_tail 17 = .ok (.if_icmp .ne 7, 3) := fd_get adX5_tail_0 (k := 9) rfl
theorem dX5_tail_20 : decode cX5_tail 20 = .ok (.iconst 1, 1) := fd_get adX5_tail_0 (k := 10) rfl
theorem dX5_tail_21 : decode cX5_tail 21 = .ok (.goto 4, 3) := fd_get adX5_tail_0 (k := 11) rfl
theorem dX5_tail_24 : decode cX5_tail 24 = .ok (.iconst 0, 1) := fd_get adX5_tail_0 (k := 12) rfl
theorem dX5_tail_25 : decode cX5_tail 25 = .ok (.iconst 3, 1) := fd_get adX5_tail_0 (k := 13) rfl
theorem dX5_tail_26 : decode cX5_tail 26 = .ok (.invokevirtual 45, 3) := fd_get adX5_tail_0 (k := 14) rfl
theorem dX5_tail_29 : decode cX5_tail 29 = .ok (.ifCond .eq 7, 3) := fd_get adX5_tail_0 (k := 15) rfl
theorem dX5_tail_32 : decode cX5_tail 32 = .ok (.iconst 0, 1) := fd_get adX5_tail_1 (k := 0) rfl
theorem dX5_tail_33 : decode cX5_tail 33 = .ok (.goto 35, 3) := fd_get adX5_tail_1 (k := 1) rfl
theorem dX5_tail_36 : decode cX5_tail 36 = .ok (.aload_n 0, 1) := fd_get adX5_tail_1 (k := 2) rfl
theorem dX5_tail_37 : decode cX5_tail 37 = .ok (.iconst 5, 1) := fd_get adX5_tail_1 (k := 3) rfl
theorem dX5_tail_38 : decode cX5_tail 38 = .ok (.newarray .int, 2) := by decide +kernel
theorem dX5_tail_40 : decode cX5_tail 40 = .ok (.dup, 1) := fd_get adX5_tail_1 (k := 5) rfl
theorem dX5_tail_41 : decode cX5_tail 41 = .ok (.iconst 0, 1) := fd_get adX5_tail_1 (k := 6) rfl
theorem dX5_tail_42 : decode cX5_tail 42 = .ok (.iload_n 1, 1) := fd_get adX5_tail_1 (k := 7) rfl
theorem dX5_tail_43 : decode cX5_tail 43 = .ok (.iastore, 1) := fd_get adX5_tail_1 (k := 8) rfl
theorem dX5_tail_44 : decode cX5_tail 44 = .ok (.dup, 1) := fd_get adX5_tail_1 (k := 9) rfl
theorem dX5_tail_45 : decode cX5_tail 45 = .ok (.iconst 1, 1) := fd_get adX5_tail_1 (k := 10) rfl
theorem dX5_tail_46 : decode cX5_tail 46 = .ok (.iload_n 2, 1) := fd_get adX5_tail_1 (k := 11) rfl
theorem dX5_tail_47 : decode cX5_tail 47 = .ok (.iastore, 1) := fd_get adX5_tail_1 (k := 12) rfl
theorem dX5_tail_48 : decode cX5_tail 48 = .ok (.dup, 1) := fd_get adX5_tail_1 (k := 13) rfl
theorem dX5_tail_49 : decode cX5_tail 49 = .ok (.iconst 2, 1) := fd_get adX5_tail_1 (k := 14) rfl
theorem dX5_tail_50 : decode cX5_tail 50 = .ok (.iload_n 3, 1) := fd_get adX5_tail_1 (k := 15) rfl
theorem dX5_tail_51 : decode cX5_tail 51 = .ok (.invokestatic 81, 3) := fd_get adX5_tail_2 (k := 0) rfl
theorem dX5_tail_54 : decode cX5_tail 54 = .ok (.iastore, 1) := fd_get adX5_tail_2 (k := 1) rfl
theorem dX5_tail_55 : decode cX5_tail 55 = .ok (.dup, 1) := fd_get adX5_tail_2 (k := 2) rfl
theorem dX5_tail_56 : decode cX5_tail 56 = .ok (.iconst 3, 1) := fd_get adX5_tail_2 (k := 3) rfl
theorem dX5_tail_57 : decode cX5_tail 57 = .ok (.sipush (-10000), 3) := fd_get adX5_tail_2 (k := 4) rfl
theorem dX5_tail_60 : decode cX5_tail 60 = .ok (.iastore, 1) := fd_get adX5_tail_2 (k := 5) rfl
theorem dX5_tail_61 : decode cX5_tail 61 = .ok (.dup, 1) := fd_get adX5_tail_2 (k := 6) rfl
theorem dX5_tail_62 : decode cX5_tail 62 = .ok (.iconst 4, 1) := fd_get adX5_tail_2 (k := 7) rfl
theorem dX5_tail_63 : decode cX5_tail 63 = .ok (.iconst 0, 1) := fd_get adX5_tail_2 (k := 8) rfl
theorem dX5_tail_64 : decode cX5_tail 64 = .ok (.iastore, 1) := fd_get adX5_tail_2 (k := 9) rfl
theorem dX5_tail_65 : decode cX5_tail 65 = .ok (.invokevirtual 173, 3) := fd_get adX5_tail_2 (k := 10) rfl
theorem dX5_tail_68 : decode cX5_tail 68 = .ok (.ireturn, 1) := fd_get adX5_tail_2 (k := 11) rfl
theorem mwsX5_sub_0 : ∀ w ∈ wsX5_sub_r1, w ∈ wsX5_sub := fun w h => (List.mem_cons_of_mem _ (List.mem_append_left _ (List.mem_append_left _ h)))
theorem mwsX5_sub_1 : ∀ w ∈ wsX5_sub_r2, w ∈ wsX5_sub := fun w h => (List.mem_cons_of_mem _ (List.mem_append_left _ (List.mem_append_right _ h)))
theorem mwsX5_sub_2 : ∀ w ∈ wsX50, w ∈ wsX5_sub := fun w h => (List.mem_cons_of_mem _ (List.mem_append_right _ h))
set_option maxRecDepth 20000 in
theorem ggX5_sub_X5_isBad : GoodIn wsX5_sub wsX5_isBad := goodIn_sub (List.forall_mem_cons.mpr ⟨(mwsX5_sub_0 _ (List.mem_of_getElem? (i := 5) rfl)), (List.forall_mem_cons.mpr ⟨(mwsX5_sub_0 _ (List.mem_of_getElem? (i := 6) rfl)), (List.forall_mem_cons.mpr ⟨(mwsX5_sub_0 _ (List.mem_of_getElem? (i := 7) rfl)), (List.forall_mem_cons.mpr ⟨(mwsX5_sub_0 _ (List.mem_of_getElem? (i := 4) rfl)), (tk_mem 16 _ (fun w h => (mwsX5_sub_0 _ (tkB_mem 8 16 h))) (tk_mem 13 _ (fun w h => (mwsX5_sub_2 _ (tkB_mem 0 13 h))) (fun _ h => absurd h List.not_mem_nil)))⟩)⟩)⟩)⟩) (by decide +kernel)
set_option maxRecDepth 20000 in
theorem gX5_sub_X5_isBad : GoodIn wsX5_sub (wsV RX5 146 RX5 yX5_isBad wsX5_isBad) := goodIn_app (goodIn_sub (tk_mem 4 _ (fun w h => (mwsX5_sub_0 _ (tkB_mem 1 4 h))) (fun _ h => absurd h List.not_mem_nil)) (by decide +kernel)) ggX5_sub_X5_isBad
set_option maxRecDepth 20000 in
theorem ggX5_sub_X5_isNoKey : GoodIn wsX5_sub wsX5_isNoKey := goodIn_sub (List.forall_mem_cons.mpr ⟨(mwsX5_sub_0 _ (List.mem_of_getElem? (i := 23) rfl)), (List.forall_mem_cons.mpr ⟨(mwsX5_sub_0 _ (List.mem_of_getElem? (i := 9) rfl)), (List.forall_mem_cons.mpr ⟨(mwsX5_sub_0 _ (List.mem_of_getElem? (i := 10) rfl)), (List.forall_mem_cons.mpr ⟨(mwsX5_sub_0 _ (List.mem_of_getElem? (i := 4) rfl)), (List.forall_mem_cons.mpr ⟨(mwsX5_sub_0 _ (List.mem_of_getElem? (i := 11) rfl)), (fun _ h => absurd h List.not_mem_nil)⟩)⟩)⟩)⟩)⟩) (by decide +kernel)
set_option maxRecDepth 20000 in
theorem gX5_sub_X5_isNoKey : GoodIn wsX5_sub (va_wsS RX5 60 yX5_isNoKey wsX5_isNoKey) := goodIn_app (goodIn_sub (List.forall_mem_cons.mpr ⟨(mwsX5_sub_0 _ (List.mem_of_getElem? (i := 21) rfl)), (List.forall_mem_cons.mpr ⟨(mwsX5_sub_0 _ (List.mem_of_getElem? (i := 22) rfl)), (List.forall_mem_cons.mpr ⟨(mwsX5_sub_0 _ (List.mem_of_getElem? (i := 4) rfl)), (fun _ h => absurd h List.not_mem_nil)⟩)⟩)⟩) (by decide +kernel)) ggX5_sub_X5_isNoKey
set_option maxRecDepth 20000 in
theorem ggX5_sub_X5_refuse : GoodIn wsX5_sub wsX5_refuse := goodIn_sub (List.forall_mem_cons.mpr ⟨(mwsX5_sub_0 _ (List.mem_of_getElem? (i := 20) rfl)), (List.forall_mem_cons.mpr ⟨(mwsX5_sub_0 _ (List.mem_of_getElem? (i := 16) rfl)), (tk_mem 13 _ (fun w h => (mwsX5_sub_2 _ (tkB_mem 0 13 h))) (fun _ h => absurd h List.not_mem_nil))⟩)⟩) (by decide +kernel)
set_option maxRecDepth 20000 in
theorem gX5_sub_X5_refuse : GoodIn wsX5_sub (wsV RX5 45 RX5 yX5_refuse wsX5_refuse) := goodIn_app (goodIn_sub (List.forall_mem_cons.mpr ⟨(mwsX5_sub_0 _ (List.mem_of_getElem? (i := 17) rfl)), (List.forall_mem_cons.mpr ⟨(mwsX5_sub_0 _ (List.mem_of_getElem? (i := 18) rfl)), (List.forall_mem_cons.mpr ⟨(mwsX5_sub_0 _ (List.mem_of_getElem? (i := 19) rfl)), (List.forall_mem_cons.mpr ⟨(mwsX5_sub_0 _ (List.mem_of_getElem? (i := 4) rfl)), (fun _ h => absurd h List.not_mem_nil)⟩)⟩)⟩)⟩) (by decide +kernel)) ggX5_sub_X5_refuse
set_option maxRecDepth 20000 in
theorem ggX5_sub_X5_free : GoodIn wsX5_sub wsX5_free := goodIn_sub (List.forall_mem_cons.mpr ⟨(mwsX5_sub_1 _ (List.mem_of_getElem? (i := 3) rfl)), (List.forall_mem_cons.mpr ⟨(mwsX5_sub_1 _ (List.mem_of_getElem? (i := 4) rfl)), (tk_mem 13 _ (fun w h => (mwsX5_sub_2 _ (tkB_mem 0 13 h))) (fun _ h => absurd h List.not_mem_nil))⟩)⟩) (by decide +kernel)
set_option maxRecDepth 20000 in
theorem gX5_sub_X5_free : GoodIn wsX5_sub (wsV RX5 170 RX5 yX5_free wsX5_free) := goodIn_app (goodIn_sub (List.forall_mem_cons.mpr ⟨(mwsX5_sub_1 _ (List.mem_of_getElem? (i := 0) rfl)), (List.forall_mem_cons.mpr ⟨(mwsX5_sub_1 _ (List.mem_of_getElem? (i := 1) rfl)), (List.forall_mem_cons.mpr ⟨(mwsX5_sub_1 _ (List.mem_of_getElem? (i := 2) rfl)), (List.forall_mem_cons.mpr ⟨(mwsX5_sub_0 _ (List.mem_of_getElem? (i := 4) rfl)), (fun _ h => absurd h List.not_mem_nil)⟩)⟩)⟩)⟩) (by decide +kernel)) ggX5_sub_X5_free
set_option maxRecDepth 20000 in
theorem ggX5_sub_X5_one : GoodIn wsX5_sub wsX5_one := goodIn_sub (List.forall_mem_cons.mpr ⟨(mwsX5_sub_1 _ (List.mem_of_getElem? (i := 7) rfl)), (fun _ h => absurd h List.not_mem_nil)⟩) (by decide +kernel)
set_option maxRecDepth 20000 in
theorem gX5_sub_X5_one : GoodIn wsX5_sub (va_wsS RX5 81 yX5_one wsX5_one) := goodIn_app (goodIn_sub (List.forall_mem_cons.mpr ⟨(mwsX5_sub_1 _ (List.mem_of_getElem? (i := 5) rfl)), (List.forall_mem_cons.mpr ⟨(mwsX5_sub_1 _ (List.mem_of_getElem? (i := 6) rfl)), (List.forall_mem_cons.mpr ⟨(mwsX5_sub_0 _ (List.mem_of_getElem? (i := 4) rfl)), (fun _ h => absurd h List.not_mem_nil)⟩)⟩)⟩) (by decide +kernel)) ggX5_sub_X5_one
set_option maxRecDepth 20000 in
theorem ggX5_sub_X5_weight : GoodIn wsX5_sub wsX5_weight := goodIn_sub (List.forall_mem_cons.mpr ⟨(mwsX5_sub_1 _ (List.mem_of_getElem? (i := 11) rfl)), (List.forall_mem_cons.mpr ⟨(mwsX5_sub_1 _ (List.mem_of_getElem? (i := 12) rfl)), (List.forall_mem_cons.mpr ⟨(mwsX5_sub_1 _ (List.mem_of_getElem? (i := 13) rfl)), (tk_mem 13 _ (fun w h => (mwsX5_sub_2 _ (tkB_mem 0 13 h))) (fun _ h => absurd h List.not_mem_nil))⟩)⟩)⟩) (by decide +kernel)
set_option maxRecDepth 20000 in
theorem gX5_sub_X5_weight : GoodIn wsX5_sub (wsV RX5 66 RX5 yX5_weight wsX5_weight) := goodIn_app (goodIn_sub (List.forall_mem_cons.mpr ⟨(mwsX5_sub_1 _ (List.mem_of_getElem? (i := 8) rfl)), (List.forall_mem_cons.mpr ⟨(mwsX5_sub_1 _ (List.mem_of_getElem? (i := 9) rfl)), (List.forall_mem_cons.mpr ⟨(mwsX5_sub_1 _ (List.mem_of_getElem? (i := 10) rfl)), (List.forall_mem_cons.mpr ⟨(mwsX5_sub_0 _ (List.mem_of_getElem? (i := 4) rfl)), (fun _ h => absurd h List.not_mem_nil)⟩)⟩)⟩)⟩) (by decide +kernel)) ggX5_sub_X5_weight
set_option maxRecDepth 20000 in
theorem ggX5_sub_X5_open : GoodIn wsX5_sub wsX5_open := goodIn_sub (List.forall_mem_cons.mpr ⟨(mwsX5_sub_1 _ (List.mem_of_getElem? (i := 17) rfl)), (List.forall_mem_cons.mpr ⟨(mwsX5_sub_1 _ (List.mem_of_getElem? (i := 4) rfl)), (List.forall_mem_cons.mpr ⟨(mwsX5_sub_1 _ (List.mem_of_getElem? (i := 0) rfl)), (List.forall_mem_cons.mpr ⟨(mwsX5_sub_1 _ (List.mem_of_getElem? (i := 1) rfl)), (List.forall_mem_cons.mpr ⟨(mwsX5_sub_1 _ (List.mem_of_getElem? (i := 2) rfl)), (List.forall_mem_cons.mpr ⟨(mwsX5_sub_0 _ (List.mem_of_getElem? (i := 4) rfl)), (List.forall_mem_cons.mpr ⟨(mwsX5_sub_1 _ (List.mem_of_getElem? (i := 3) rfl)), (tk_mem 13 _ (fun w h => (mwsX5_sub_2 _ (tkB_mem 0 13 h))) (fun _ h => absurd h List.not_mem_nil))⟩)⟩)⟩)⟩)⟩)⟩)⟩) (by decide +kernel)
set_option maxRecDepth 20000 in
theorem gX5_sub_X5_open : GoodIn wsX5_sub (wsV RX5 173 RX5 yX5_open wsX5_open) := goodIn_app (goodIn_sub (List.forall_mem_cons.mpr ⟨(mwsX5_sub_1 _ (List.mem_of_getElem? (i := 14) rfl)), (List.forall_mem_cons.mpr ⟨(mwsX5_sub_1 _ (List.mem_of_getElem? (i := 15) rfl)), (List.forall_mem_cons.mpr ⟨(mwsX5_sub_1 _ (List.mem_of_getElem? (i := 16) rfl)), (List.forall_mem_cons.mpr ⟨(mwsX5_sub_0 _ (List.mem_of_getElem? (i := 4) rfl)), (fun _ h => absurd h List.not_mem_nil)⟩)⟩)⟩)⟩) (by decide +kernel)) ggX5_sub_X5_open
theorem adX5_sub_0 : fd_rows (cX5_sub.data.toList.drop 0) 0 [(0, some (.aload_n 0), 1), (1, some (.iload_n 1), 1), (2, some (.iload_n 2), 1), (3, some (.invokevirtual 146), 3), (6, some (.ifCond .ne 39), 3), (9, some (.aload_n 0), 1), (10, some (.iload 4), 2), (12, some (.invokestatic 60), 3), (15, some (.iconst 2), 1), (16, some (.invokevirtual 45), 3), (19, some (.ifCond .ne 26), 3), (22, some (.aload_n 0), 1), (23, some (.aload_n 0), 1), (24, some (.invokevirtual 170), 3), (27, some (.sipush (-10000)), 3), (30, some (.if_icmp .ne 7), 3)] = true := by decide +kernel
theorem adX5_sub_1 : fd_rows (cX5_sub.data.toList.drop 33) 33 [(33, some (.iconst 1), 1), (34, some (.goto 4), 3), (37, some (.iconst 0), 1), (38, some (.iconst 3), 1), (39, some (.invokevirtual 45), 3), (42, some (.ifCond .eq 5), 3), (45, some (.iconst 0), 1), (46, some (.ireturn), 1), (47, some (.iconst 5), 1), (48, none, 2), (50, some (.dup), 1), (51, some (.iconst 0), 1), (52, some (.iload_n 1), 1), (53, some (.iastore), 1), (54, some (.dup), 1), (55, some (.iconst 1), 1)] = true := by decide +kernel
theorem adX5_sub_2 : fd_rows (cX5_sub.data.toList.drop 56) 56 [(56, some (.iload_n 2), 1), (57, some (.iastore), 1), (58, some (.dup), 1), (59, some (.iconst 2), 1), (60, some (.iload_n 3), 1), (61, some (.invokestatic 81), 3), (64, some (.iastore), 1), (65, some (.dup), 1), (66, some (.iconst 3), 1), (67, some (.iload 4), 2), (69, some (.iastore), 1), (70, some (.dup), 1), (71, some (.iconst 4), 1), (72, some (.iload 5), 2), (74, some (.invokestatic 81), 3), (77, some (.iastore), 1)] = true := by decide +kernel
theorem adX5_sub_3 : fd_rows (cX5_sub.data.toList.drop 78) 78 [(78, some (.astore 6), 2), (80, some (.aload_n 0), 1), (81, some (.aload 6), 2), (83, some (.iload_n 2), 1), (84, some (.invokevirtual 66), 3), (87, some (.aload_n 0), 1), (88, some (.aload 6), 2), (90, some (.iload 4), 2), (92, some (.invokevirtual 66), 3), (95, some (.if_icmp .le 9), 3), (98, some (.sipush (-20000)), 3), (101, some (.goto 9), 3), (104, some (.aload_n 0), 1), (105, some (.aload 6), 2), (107, some (.invokevirtual 173), 3), (110, some (.ireturn), 1)] = true := by decide +kernel
theorem dX5_sub_0 : decode cX5_sub 0 = .ok (.aload_n 0, 1) := fd_get adX5_sub_0 (k := 0) rfl
theorem dX5_sub_1 : decode cX5_sub 1 = .ok (.iload_n 1, 1) := fd_get adX5_sub_0 (k := 1) rfl
theorem dX5_sub_2 : decode cX5_sub 2 = .ok (.iload_n 2, 1) := fd_get adX5_sub_0 (k := 2) rfl
theorem dX5_sub_3 : decode cX5_sub 3 = .ok (.invokevirtual 146, 3) := fd_get adX5_sub_0 (k := 3) rfl
theorem dX5_sub_6 : decode cX5_sub 6 = .ok (.ifCond .ne 39, 3) := fd_get adX5_sub_0 (k := 4) rfl
theorem dX5_sub_9 : decode cX5_sub 9 = .ok (.aload_n 0, 1) := fd_get adX5_sub_0 (k := 5) rfl
theorem dX5_sub_10 : decode cX5_sub 10 = .ok (.iload 4, 2) := fd_get adX5_sub_0 (k := 6) rfl
theorem dX5_sub_12 : decode cX5_sub 12 = .ok (.invokestatic 60, 3) := fd_get adX5_sub_0 (k := 7) rfl
theorem dX5_sub_15 : decode cX5_sub 15 = .ok (.iconst 2, 1) := fd_get adX5_sub_0 (k := 8) rfl
theorem dX5_sub_16 : decode cX5_sub 16 = .ok (.invokevirtual 45, 3) := fd_get adX5_sub_0 (k := 9) rfl
theorem dX5_sub_19 : decode cX5_sub 19 = .ok (.ifCond .ne 26, 3) := fd_get adX5_sub_0 (k := 10) rfl
theorem dX5_sub_22 : decode cX5_sub 22 = .ok (.aload_n 0, 1) := fd_get adX5_sub_0 (k := 11) rfl
theorem dX5_sub_23 : decode cX5_sub 23 = .ok (.aload_n 0, 1) := fd_get adX5_sub_0 (k := 12) rfl
theorem dX5_sub_24 : decode cX5_sub 24 = .ok (.invokevirtual 170, 3) := fd_get adX5_sub_0 (k := 13) rfl
theorem dX5_sub_27 : decode cX5_sub 27 = .ok (.sipush (-10000), 3) := fd_get adX5_sub_0 (k := 14) rfl
theorem dX5_sub_30 : decode cX5_sub 30 = .ok (.if_icmp .ne 7, 3) := fd_get adX5_sub_0 (k := 15) rfl
theorem dX5_sub_33 : decode cX5_sub 33 = .ok (.iconst 1, 1) := fd_get adX5_sub_1 (k := 0) rfl
theorem dX5_sub_34 : decode cX5_sub 34 = .ok (.goto 4, 3) := fd_get adX5_sub_1 (k := 1) rfl
theorem dX5_sub_37 : decode cX5_sub 37 = .ok (.iconst 0, 1) := fd_get adX5_sub_1 (k := 2) rfl
theorem dX5_sub_38 : decode cX5_sub 38 = .ok (.iconst 3, 1) := fd_get adX5_sub_1 (k := 3) rfl
theorem dX5_sub_39 : decode cX5_sub 39 = .ok (.invokevirtual 45, 3) := fd_get adX5_sub_1 (k := 4) rfl
theorem dX5_sub_42 : decode cX5_sub 42 = .ok (.ifCond .eq 5, 3) := fd_get adX5_sub_1 (k := 5) rfl
theorem dX5_sub_45 : decode cX5_sub 45 = .ok (.iconst 0, 1) := fd_get adX5_sub_1 (k := 6) rfl
theorem dX5_sub_46 : decode cX5_sub 46 = .ok (.ireturn, 1) := fd_get adX5_sub_1 (k := 7) rfl
theorem dX5_sub_47 : decode cX5_sub 47 = .ok (.iconst 5, 1) := fd_get adX5_sub_1 (k := 8) rfl
theorem dX5_sub_48 : decode cX5_sub 48 = .ok (.newarray .int, 2) := by decide +kernel
theorem dX5_sub_50 : decode cX5_sub 50 = .ok (.dup, 1) := fd_get adX5_sub_1 (k := 10) rfl
theorem dX5_sub_51 : decode cX5_sub 51 = .ok (.iconst 0, 1) := fd_get adX5_sub_1 (k := 11) rfl
theorem dX5_sub_52 : decode cX5_sub 52 = .ok (.iload_n 1, 1) := fd_get adX5_sub_1 (k := 12) rfl
theorem dX5_sub_53 : decode cX5_sub 53 = .ok (.iastore, 1) := fd_get adX5_sub_1 (k := 13) rfl
theorem dX5_sub_54 : decode cX5_sub 54 = .ok (.dup, 1) := fd_get adX5_sub_1 (k := 14) rfl
theorem dX5_sub_55 : decode cX5_sub 55 = .ok (.iconst 1, 1) := fd_get adX5_sub_1 (k := 15) rfl
theorem dX5_sub_56 : decode cX5_sub 56 = .ok (.iload_n 2, 1) := fd_get adX5_sub_2 (k := 0) rfl
theorem dX5_sub_57 : decode cX5_sub 57 = .ok (.iastore, 1) := fd_get adX5_sub_2 (k := 1) rfl
theorem dX5_sub_58 : decode cX5_sub 58 = .ok (.dup, 1) := fd_get adX5_sub_2 (k := 2) rfl
theorem dX5_sub_59 : decode cX5_sub 59 = .ok (.iconst 2, 1) := fd_get adX5_sub_2 (k := 3) rfl
theorem dX5_sub_60 : decode cX5_sub 60 = .ok (.iload_n 3, 1) := fd_get adX5_sub_2 (k := 4) rfl
theorem dX5_sub_61 : decode cX5_sub 61 = .ok (.invokestatic 81, 3) := fd_get adX5_sub_2 (k := 5) rfl
theorem dX5_sub_64 : decode cX5_sub 64 = .ok (.iastore, 1) := fd_get adX5_sub_2 (k := 6) rfl
theorem dX5_sub_65 : decode cX5_sub 65 = .ok (.dup, 1) := fd_get adX5_sub_2 (k := 7) rfl
theorem dX5_sub_66 : decode cX5_sub 66 = .ok (.iconst 3, 1) := fd_get adX5_sub_2 (k := 8) rfl
theorem dX5_sub_67 : decode cX5_sub 67 = .ok (.iload 4, 2) := fd_get adX5_sub_2 (k := 9) rfl
theorem dX5_sub_69 : decode cX5_sub 69 = .ok (.iastore, 1) := fd_get adX5_sub_2 (k := 10) rfl
theorem dX5_sub_70 : decode cX5_sub 70 = .ok (.dup, 1) := fd_get adX5_sub_2 (k := 11) rfl
theorem dX5_sub_71 : decode cX5_sub 71 = .ok (.iconst 4, 1) := fd_get adX5_sub_2 (k := 12) rfl
theorem dX5_sub_72 : decode cX5_sub 72 = .ok (.iload 5, 2) := fd_get adX5_sub_2 (k := 13) rfl
theorem dX5_sub_74 : decode cX5_sub 74 = .ok (.invokestatic 81, 3) := fd_get adX5_sub_2 (k := 14) rfl
theorem dX5_sub_77 : decode cX5_sub 77 = .ok (.iastore, 1) := fd_get adX5_sub_2 (k := 15) rfl
theorem dX5_sub_78 : decode cX5_sub 78 = .ok (.astore 6, 2) := fd_get adX5_sub_3 (k := 0) rfl
theorem dX5_sub_80 : decode cX5_sub 80 = .ok (.aload_n 0, 1) := fd_get adX5_sub_3 (k := 1) rfl
theorem dX5_sub_81 : decode cX5_sub 81 = .ok (.aload 6, 2) := fd_get adX5_sub_3 (k := 2) rfl
theorem dX5_sub_83 : decode cX5_sub 83 = .ok (.iload_n 2, 1) := fd_get adX5_sub_3 (k := 3) rfl
theorem dX5_sub_84 : decode cX5_sub 84 = .ok (.invokevirtual 66, 3) := fd_get adX5_sub_3 (k := 4) rfl
theorem dX5_sub_87 : decode cX5_sub 87 = .ok (.aload_n 0, 1) := fd_get adX5_sub_3 (k := 5) rfl
theorem dX5_sub_88 : decode cX5_sub 88 = .ok (.aload 6, 2) := fd_get adX5_sub_3 (k := 6) rfl
theorem dX5_sub_90 : decode cX5_sub 90 = .ok (.iload 4, 2) := fd_get adX5_sub_3 (k := 7) rfl
theorem dX5_sub_92 : decode cX5_sub 92 = .ok (.invokevirtual 66, 3) := fd_get adX5_sub_3 (k := 8) rfl
theorem dX5_sub_95 : decode cX5_sub 95 = .ok (.if_icmp .le 9, 3) := fd_get adX5_sub_3 (k := 9) rfl
theorem dX5_sub_98 : decode cX5_sub 98 = .ok (.sipush (-20000), 3) := fd_get adX5_sub_3 (k := 10) rfl
theorem dX5_sub_101 : decode cX5_sub 101 = .ok (.goto 9, 3) := fd_get adX5_sub_3 (k := 11) rfl
theorem dX5_sub_104 : decode cX5_sub 104 = .ok (.aload_n 0, 1) := fd_get adX5_sub_3 (k := 12) rfl
theorem dX5_sub_105 : decode cX5_sub 105 = .ok (.aload 6, 2) := fd_get adX5_sub_3 (k := 13) rfl
theorem dX5_sub_107 : decode cX5_sub 107 = .ok (.invokevirtual 173, 3) := fd_get adX5_sub_3 (k := 14) rfl
theorem dX5_sub_110 : decode cX5_sub 110 = .ok (.ireturn, 1) := fd_get adX5_sub_3 (k := 15) rfl
theorem mwsX5_part_0 : ∀ w ∈ wsX5_part_r1, w ∈ wsX5_part := fun w h => (List.mem_cons_of_mem _ (List.mem_append_left _ (List.mem_append_left _ h)))
theorem mwsX5_part_1 : ∀ w ∈ wsX5_part_r2, w ∈ wsX5_part := fun w h => (List.mem_cons_of_mem _ (List.mem_append_left _ (List.mem_append_right _ h)))
theorem mwsX5_part_2 : ∀ w ∈ wsX50, w ∈ wsX5_part := fun w h => (List.mem_cons_of_mem _ (List.mem_append_right _ h))
set_option maxRecDepth 20000 in
theorem ggX5_part_X5_isNoView : GoodIn wsX5_part wsX5_isNoView := goodIn_sub (List.forall_mem_cons.mpr ⟨(mwsX5_part_0 _ (List.mem_of_getElem? (i := 6) rfl)), (List.forall_mem_cons.mpr ⟨(mwsX5_part_0 _ (List.mem_of_getElem? (i := 0) rfl)), (List.forall_mem_cons.mpr ⟨(mwsX5_part_0 _ (List.mem_of_getElem? (i := 7) rfl)), (List.forall_mem_cons.mpr ⟨(mwsX5_part_0 _ (List.mem_of_getElem? (i := 8) rfl)), (List.forall_mem_cons.mpr ⟨(mwsX5_part_0 _ (List.mem_of_getElem? (i := 5) rfl)), (List.forall_mem_cons.mpr ⟨(mwsX5_part_0 _ (List.mem_of_getElem? (i := 9) rfl)), (tk_mem 13 _ (fun w h => (mwsX5_part_2 _ (tkB_mem 0 13 h))) (fun _ h => absurd h List.not_mem_nil))⟩)⟩)⟩)⟩)⟩)⟩) (by decide +kernel)
set_option maxRecDepth 20000 in
theorem gX5_part_X5_isNoView : GoodIn wsX5_part (wsV RX5 176 RX5 yX5_isNoView wsX5_isNoView) := goodIn_app (goodIn_sub (tk_mem 4 _ (fun w h => (mwsX5_part_0 _ (tkB_mem 2 4 h))) (fun _ h => absurd h List.not_mem_nil)) (by decide +kernel)) ggX5_part_X5_isNoView
set_option maxRecDepth 20000 in
theorem ggX5_part_X5_start : GoodIn wsX5_part wsX5_start := goodIn_sub (tk_mem 5 _ (fun w h => (mwsX5_part_0 _ (tkB_mem 13 5 h))) (List.forall_mem_cons.mpr ⟨(mwsX5_part_0 _ (List.mem_of_getElem? (i := 5) rfl)), (List.forall_mem_cons.mpr ⟨(mwsX5_part_0 _ (List.mem_of_getElem? (i := 18) rfl)), (tk_mem 13 _ (fun w h => (mwsX5_part_2 _ (tkB_mem 0 13 h))) (fun _ h => absurd h List.not_mem_nil))⟩)⟩)) (by decide +kernel)
set_option maxRecDepth 20000 in
theorem gX5_part_X5_start : GoodIn wsX5_part (wsV RX5 57 RX5 yX5_start wsX5_start) := goodIn_app (goodIn_sub (List.forall_mem_cons.mpr ⟨(mwsX5_part_0 _ (List.mem_of_getElem? (i := 10) rfl)), (List.forall_mem_cons.mpr ⟨(mwsX5_part_0 _ (List.mem_of_getElem? (i := 11) rfl)), (List.forall_mem_cons.mpr ⟨(mwsX5_part_0 _ (List.mem_of_getElem? (i := 12) rfl)), (List.forall_mem_cons.mpr ⟨(mwsX5_part_0 _ (List.mem_of_getElem? (i := 5) rfl)), (fun _ h => absurd h List.not_mem_nil)⟩)⟩)⟩)⟩) (by decide +kernel)) ggX5_part_X5_start
set_option maxRecDepth 20000 in
theorem ggX5_part_X5_isNoKey : GoodIn wsX5_part wsX5_isNoKey := goodIn_sub (List.forall_mem_cons.mpr ⟨(mwsX5_part_0 _ (List.mem_of_getElem? (i := 21) rfl)), (List.forall_mem_cons.mpr ⟨(mwsX5_part_0 _ (List.mem_of_getElem? (i := 7) rfl)), (List.forall_mem_cons.mpr ⟨(mwsX5_part_0 _ (List.mem_of_getElem? (i := 8) rfl)), (List.forall_mem_cons.mpr ⟨(mwsX5_part_0 _ (List.mem_of_getElem? (i := 5) rfl)), (List.forall_mem_cons.mpr ⟨(mwsX5_part_0 _ (List.mem_of_getElem? (i := 9) rfl)), (fun _ h => absurd h List.not_mem_nil)⟩)⟩)⟩)⟩)⟩) (by decide +kernel)
set_option maxRecDepth 20000 in
theorem gX5_part_X5_isNoKey : GoodIn wsX5_part (va_wsS RX5 60 yX5_isNoKey wsX5_isNoKey) := goodIn_app (goodIn_sub (List.forall_mem_cons.mpr ⟨(mwsX5_part_0 _ (List.mem_of_getElem? (i := 19) rfl)), (List.forall_mem_cons.mpr ⟨(mwsX5_part_0 _ (List.mem_of_getElem? (i := 20) rfl)), (List.forall_mem_cons.mpr ⟨(mwsX5_part_0 _ (List.mem_of_getElem? (i := 5) rfl)), (fun _ h => absurd h List.not_mem_nil)⟩)⟩)⟩) (by decide +kernel)) ggX5_part_X5_isNoKey
set_option maxRecDepth 20000 in
theorem ggX5_part_X5_refuse : GoodIn wsX5_part wsX5_refuse := goodIn_sub (List.forall_mem_cons.mpr ⟨(mwsX5_part_0 _ (List.mem_of_getElem? (i := 18) rfl)), (List.forall_mem_cons.mpr ⟨(mwsX5_part_0 _ (List.mem_of_getElem? (i := 14) rfl)), (tk_mem 13 _ (fun w h => (mwsX5_part_2 _ (tkB_mem 0 13 h))) (fun _ h => absurd h List.not_mem_nil))⟩)⟩) (by decide +kernel)
set_option maxRecDepth 20000 in
theorem gX5_part_X5_refuse : GoodIn wsX5_part (wsV RX5 45 RX5 yX5_refuse wsX5_refuse) := goodIn_app (goodIn_sub (List.forall_mem_cons.mpr ⟨(mwsX5_part_0 _ (List.mem_of_getElem? (i := 15) rfl)), (List.forall_mem_cons.mpr ⟨(mwsX5_part_0 _ (List.mem_of_getElem? (i := 16) rfl)), (List.forall_mem_cons.mpr ⟨(mwsX5_part_0 _ (List.mem_of_getElem? (i := 17) rfl)), (List.forall_mem_cons.mpr ⟨(mwsX5_part_0 _ (List.mem_of_getElem? (i := 5) rfl)), (fun _ h => absurd h List.not_mem_nil)⟩)⟩)⟩)⟩) (by decide +kernel)) ggX5_part_X5_refuse
set_option maxRecDepth 20000 in
theorem ggX5_part_X5_free : GoodIn wsX5_part wsX5_free := goodIn_sub (List.forall_mem_cons.mpr ⟨(mwsX5_part_1 _ (List.mem_of_getElem? (i := 1) rfl)), (List.forall_mem_cons.mpr ⟨(mwsX5_part_0 _ (List.mem_of_getElem? (i := 0) rfl)), (tk_mem 13 _ (fun w h => (mwsX5_part_2 _ (tkB_mem 0 13 h))) (fun _ h => absurd h List.not_mem_nil))⟩)⟩) (by decide +kernel)
set_option maxRecDepth 20000 in
theorem gX5_part_X5_free : GoodIn wsX5_part (wsV RX5 170 RX5 yX5_free wsX5_free) := goodIn_app (goodIn_sub (List.forall_mem_cons.mpr ⟨(mwsX5_part_0 _ (List.mem_of_getElem? (i := 22) rfl)), (List.forall_mem_cons.mpr ⟨(mwsX5_part_0 _ (List.mem_of_getElem? (i := 23) rfl)), (List.forall_mem_cons.mpr ⟨(mwsX5_part_1 _ (List.mem_of_getElem? (i := 0) rfl)), (List.forall_mem_cons.mpr ⟨(mwsX5_part_0 _ (List.mem_of_getElem? (i := 5) rfl)), (fun _ h => absurd h List.not_mem_nil)⟩)⟩)⟩)⟩) (by decide +kernel)) ggX5_part_X5_free
set_option maxRecDepth 20000 in
theorem ggX5_part_X5_isWithin : GoodIn wsX5_part wsX5_isWithin := goodIn_sub (tk_mem 4 _ (fun w h => (mwsX5_part_1 _ (tkB_mem 5 4 h))) (List.forall_mem_cons.mpr ⟨(mwsX5_part_0 _ (List.mem_of_getElem? (i := 5) rfl)), (List.forall_mem_cons.mpr ⟨(mwsX5_part_1 _ (List.mem_of_getElem? (i := 9) rfl)), (List.forall_mem_cons.mpr ⟨(mwsX5_part_1 _ (List.mem_of_getElem? (i := 10) rfl)), (List.forall_mem_cons.mpr ⟨(mwsX5_part_1 _ (List.mem_of_getElem? (i := 11) rfl)), (tk_mem 13 _ (fun w h => (mwsX5_part_2 _ (tkB_mem 0 13 h))) (fun _ h => absurd h List.not_mem_nil))⟩)⟩)⟩)⟩)) (by decide +kernel)
set_option maxRecDepth 20000 in
theorem gX5_part_X5_isWithin : GoodIn wsX5_part (wsV RX5 70 RX5 yX5_isWithin wsX5_isWithin) := goodIn_app (goodIn_sub (List.forall_mem_cons.mpr ⟨(mwsX5_part_1 _ (List.mem_of_getElem? (i := 2) rfl)), (List.forall_mem_cons.mpr ⟨(mwsX5_part_1 _ (List.mem_of_getElem? (i := 3) rfl)), (List.forall_mem_cons.mpr ⟨(mwsX5_part_1 _ (List.mem_of_getElem? (i := 4) rfl)), (List.forall_mem_cons.mpr ⟨(mwsX5_part_0 _ (List.mem_of_getElem? (i := 5) rfl)), (fun _ h => absurd h List.not_mem_nil)⟩)⟩)⟩)⟩) (by decide +kernel)) ggX5_part_X5_isWithin
set_option maxRecDepth 20000 in
theorem ggX5_part_X5_weight : GoodIn wsX5_part wsX5_weight := goodIn_sub (List.forall_mem_cons.mpr ⟨(mwsX5_part_1 _ (List.mem_of_getElem? (i := 9) rfl)), (List.forall_mem_cons.mpr ⟨(mwsX5_part_1 _ (List.mem_of_getElem? (i := 10) rfl)), (List.forall_mem_cons.mpr ⟨(mwsX5_part_1 _ (List.mem_of_getElem? (i := 11) rfl)), (tk_mem 13 _ (fun w h => (mwsX5_part_2 _ (tkB_mem 0 13 h))) (fun _ h => absurd h List.not_mem_nil))⟩)⟩)⟩) (by decide +kernel)
set_option maxRecDepth 20000 in
theorem gX5_part_X5_weight : GoodIn wsX5_part (wsV RX5 66 RX5 yX5_weight wsX5_weight) := goodIn_app (goodIn_sub (List.forall_mem_cons.mpr ⟨(mwsX5_part_1 _ (List.mem_of_getElem? (i := 6) rfl)), (List.forall_mem_cons.mpr ⟨(mwsX5_part_1 _ (List.mem_of_getElem? (i := 7) rfl)), (List.forall_mem_cons.mpr ⟨(mwsX5_part_1 _ (List.mem_of_getElem? (i := 8) rfl)), (List.forall_mem_cons.mpr ⟨(mwsX5_part_0 _ (List.mem_of_getElem? (i := 5) rfl)), (fun _ h => absurd h List.not_mem_nil)⟩)⟩)⟩)⟩) (by decide +kernel)) ggX5_part_X5_weight
set_option maxRecDepth 20000 in
theorem ggX5_part_X5_one : GoodIn wsX5_part wsX5_one := goodIn_sub (List.forall_mem_cons.mpr ⟨(mwsX5_part_1 _ (List.mem_of_getElem? (i := 14) rfl)), (fun _ h => absurd h List.not_mem_nil)⟩) (by decide +kernel)
set_option maxRecDepth 20000 in
theorem gX5_part_X5_one : GoodIn wsX5_part (va_wsS RX5 81 yX5_one wsX5_one) := goodIn_app (goodIn_sub (List.forall_mem_cons.mpr ⟨(mwsX5_part_1 _ (List.mem_of_getElem? (i := 12) rfl)), (List.forall_mem_cons.mpr ⟨(mwsX5_part_1 _ (List.mem_of_getElem? (i := 13) rfl)), (List.forall_mem_cons.mpr ⟨(mwsX5_part_0 _ (List.mem_of_getElem? (i := 5) rfl)), (fun _ h => absurd h List.not_mem_nil)⟩)⟩)⟩) (by decide +kernel)) ggX5_part_X5_one
set_option maxRecDepth 20000 in
theorem ggX5_part_X5_open : GoodIn wsX5_part wsX5_open := goodIn_sub (List.forall_mem_cons.mpr ⟨(mwsX5_part_1 _ (List.mem_of_getElem? (i := 18) rfl)), (List.forall_mem_cons.mpr ⟨(mwsX5_part_0 _ (List.mem_of_getElem? (i := 0) rfl)), (List.forall_mem_cons.mpr ⟨(mwsX5_part_0 _ (List.mem_of_getElem? (i := 22) rfl)), (List.forall_mem_cons.mpr ⟨(mwsX5_part_0 _ (List.mem_of_getElem? (i := 23) rfl)), (List.forall_mem_cons.mpr ⟨(mwsX5_part_1 _ (List.mem_of_getElem? (i := 0) rfl)), (List.forall_mem_cons.mpr ⟨(mwsX5_part_0 _ (List.mem_of_getElem? (i := 5) rfl)), (List.forall_mem_cons.mpr ⟨(mwsX5_part_1 _ (List.mem_of_getElem? (i := 1) rfl)), (tk_mem 13 _ (fun w h => (mwsX5_part_2 _ (tkB_mem 0 13 h))) (fun _ h => absurd h List.not_mem_nil))⟩)⟩)⟩)⟩)⟩)⟩)⟩) (by decide +kernel)
set_option maxRecDepth 20000 in
theorem gX5_part_X5_open : GoodIn wsX5_part (wsV RX5 173 RX5 yX5_open wsX5_open) := goodIn_app (goodIn_sub (List.forall_mem_cons.mpr ⟨(mwsX5_part_1 _ (List.mem_of_getElem? (i := 15) rfl)), (List.forall_mem_cons.mpr ⟨(mwsX5_part_1 _ (List.mem_of_getElem? (i := 16) rfl)), (List.forall_mem_cons.mpr ⟨(mwsX5_part_1 _ (List.mem_of_getElem? (i := 17) rfl)), (List.forall_mem_cons.mpr ⟨(mwsX5_part_0 _ (List.mem_of_getElem? (i := 5) rfl)), (fun _ h => absurd h List.not_mem_nil)⟩)⟩)⟩)⟩) (by decide +kernel)) ggX5_part_X5_open
theorem adX5_part_0 : fd_rows (cX5_part.data.toList.drop 0) 0 [(0, some (.aload_n 0), 1), (1, some (.aload_n 0), 1), (2, some (.iload_n 1), 1), (3, some (.invokevirtual 176), 3), (6, some (.iconst 1), 1), (7, some (.invokevirtual 57), 3), (10, some (.ifCond .ne 54), 3), (13, some (.aload_n 0), 1), (14, some (.iload_n 2), 1), (15, some (.invokestatic 60), 3), (18, some (.ifCond .ne 11), 3), (21, some (.iload 4), 2), (23, some (.invokestatic 60), 3), (26, some (.ifCond .eq 7), 3), (29, some (.iconst 1), 1), (30, some (.goto 4), 3)] = true := by decide +kernel
theorem adX5_part_1 : fd_rows (cX5_part.data.toList.drop 33) 33 [(33, some (.iconst 0), 1), (34, some (.iconst 2), 1), (35, some (.invokevirtual 45), 3), (38, some (.ifCond .ne 26), 3), (41, some (.aload_n 0), 1), (42, some (.aload_n 0), 1), (43, some (.invokevirtual 170), 3), (46, some (.sipush (-10000)), 3), (49, some (.if_icmp .ne 7), 3), (52, some (.iconst 1), 1), (53, some (.goto 4), 3), (56, some (.iconst 0), 1), (57, some (.iconst 3), 1), (58, some (.invokevirtual 45), 3), (61, some (.ifCond .eq 5), 3), (64, some (.iconst 0), 1)] = true := by decide +kernel
theorem adX5_part_2 : fd_rows (cX5_part.data.toList.drop 65) 65 [(65, some (.ireturn), 1), (66, some (.aload_n 0), 1), (67, some (.getfield 22), 3), (70, some (.iload_n 1), 1), (71, some (.aaload), 1), (72, some (.astore 6), 2), (74, some (.aload_n 0), 1), (75, some (.aload 6), 2), (77, some (.iload_n 2), 1), (78, some (.invokevirtual 70), 3), (81, some (.ifCond .eq 32), 3), (84, some (.aload_n 0), 1), (85, some (.aload 6), 2), (87, some (.iload 4), 2), (89, some (.invokevirtual 70), 3), (92, some (.ifCond .eq 21), 3)] = true := by decide +kernel
theorem adX5_part_3 : fd_rows (cX5_part.data.toList.drop 95) 95 [(95, some (.aload_n 0), 1), (96, some (.aload 6), 2), (98, some (.iload_n 2), 1), (99, some (.invokevirtual 66), 3), (102, some (.aload_n 0), 1), (103, some (.aload 6), 2), (105, some (.iload 4), 2), (107, some (.invokevirtual 66), 3), (110, some (.if_icmp .le 7), 3), (113, some (.sipush (-20000)), 3), (116, some (.ireturn), 1), (117, some (.aload_n 0), 1), (118, some (.iconst 5), 1), (119, none, 2), (121, some (.dup), 1), (122, some (.iconst 0), 1)] = true := by decide +kernel
theorem adX5_part_4 : fd_rows (cX5_part.data.toList.drop 123) 123 [(123, some (.aload 6), 2), (125, some (.iconst 0), 1), (126, some (.iaload), 1), (127, some (.iastore), 1), (128, some (.dup), 1), (129, some (.iconst 1), 1), (130, some (.iload_n 2), 1), (131, some (.iastore), 1), (132, some (.dup), 1), (133, some (.iconst 2), 1), (134, some (.iload_n 3), 1), (135, some (.invokestatic 81), 3), (138, some (.iastore), 1), (139, some (.dup), 1), (140, some (.iconst 3), 1), (141, some (.iload 4), 2)] = true := by decide +kernel
theorem adX5_part_5 : fd_rows (cX5_part.data.toList.drop 143) 143 [(143, some (.iastore), 1), (144, some (.dup), 1), (145, some (.iconst 4), 1), (146, some (.iload 5), 2), (148, some (.invokestatic 81), 3), (151, some (.iastore), 1), (152, some (.invokevirtual 173), 3), (155, some (.ireturn), 1)] = true := by decide +kernel
theorem dX5_part_0 : decode cX5_part 0 = .ok (.aload_n 0, 1) := fd_get adX5_part_0 (k := 0) rfl
theorem dX5_part_1 : decode cX5_part 1 = .ok (.aload_n 0, 1) := fd_get adX5_part_0 (k := 1) rfl
theorem dX5_part_2 : decode cX5_part 2 = .ok (.iload_n 1, 1) := fd_get adX5_part_0 (k := 2) rfl
theorem dX5_part_3 : decode cX5_part 3 = .ok (.invokevirtual 176, 3) := fd_get adX5_part_0 (k := 3) rfl
theorem dX5_part_6 : decode cX5_part 6 = .ok (.iconst 1, 1) := fd_get adX5_part_0 (k := 4) rfl
theorem dX5_part_7 : decode cX5_part 7 = .ok (.invokevirtual 57, 3) := fd_get adX5_part_0 (k := 5) rfl
theorem dX5_part_10 : decode cX5_part 10 = .ok (.ifCond .ne 54, 3) := fd_get adX5_part_0 (k := 6) rfl
theorem dX5_part_13 : decode cX5_part 13 = .ok (.aload_n 0, 1) := fd_get adX5_part_0 (k := 7) rfl
theorem dX5_part_14 : decode cX5_part 14 = .ok (.iload_n 2, 1) := fd_get adX5_part_0 (k := 8) rfl
theorem dX5_part_15 : decode cX5_part 15 = .ok (.invokestatic 60, 3) := fd_get adX5_part_0 (k := 9) rfl
theorem dX5_part_18 : decode cX5_part 18 = .ok (.ifCond .ne 11, 3) := fd_get adX5_part_0 (k := 10) rfl
theorem dX5_part_21 : decode cX5_part 21 = .ok (.iload 4, 2) := fd_get adX5_part_0 (k := 11) rfl
theorem dX5_part_23 : decode cX5_part 23 = .ok (.invokestatic 60, 3) := fd_get adX5_part_0 (k := 12) rfl
theorem dX5_part_26 : decode cX5_part 26 = .ok (.ifCond .eq 7, 3) := fd_get adX5_part_0 (k := 13) rfl
theorem dX5_part_29 : decode cX5_part 29 = .ok (.iconst 1, 1) := fd_get adX5_part_0 (k := 14) rfl
theorem dX5_part_30 : decode cX5_part 30 = .ok (.goto 4, 3) := fd_get adX5_part_0 (k := 15) rfl
theorem dX5_part_33 : decode cX5_part 33 = .ok (.iconst 0, 1) := fd_get adX5_part_1 (k := 0) rfl
theorem dX5_part_34 : decode cX5_part 34 = .ok (.iconst 2, 1) := fd_get adX5_part_1 (k := 1) rfl
theorem dX5_part_35 : decode cX5_part 35 = .ok (.invokevirtual 45, 3) := fd_get adX5_part_1 (k := 2) rfl
theorem dX5_part_38 : decode cX5_part 38 = .ok (.ifCond .ne 26, 3) := fd_get adX5_part_1 (k := 3) rfl
theorem dX5_part_41 : decode cX5_part 41 = .ok (.aload_n 0, 1) := fd_get adX5_part_1 (k := 4) rfl
theorem dX5_part_42 : decode cX5_part 42 = .ok (.aload_n 0, 1) := fd_get adX5_part_1 (k := 5) rfl
theorem dX5_part_43 : decode cX5_part 43 = .ok (.invokevirtual 170, 3) := fd_get adX5_part_1 (k := 6) rfl
theorem dX5_part_46 : decode cX5_part 46 = .ok (.sipush (-10000), 3) := fd_get adX5_part_1 (k := 7) rfl
theorem dX5_part_49 : decode cX5_part 49 = .ok (.if_icmp .ne 7, 3) := fd_get adX5_part_1 (k := 8) rfl
theorem dX5_part_52 : decode cX5_part 52 = .ok (.iconst 1, 1) := fd_get adX5_part_1 (k := 9) rfl
theorem dX5_part_53 : decode cX5_part 53 = .ok (.goto 4, 3) := fd_get adX5_part_1 (k := 10) rfl
theorem dX5_part_56 : decode cX5_part 56 = .ok (.iconst 0, 1) := fd_get adX5_part_1 (k := 11) rfl
theorem dX5_part_57 : decode cX5_part 57 = .ok (.iconst 3, 1) := fd_get adX5_part_1 (k := 12) rfl
theorem dX5_part_58 : decode cX5_part 58 = .ok (.invokevirtual 45, 3) := fd_get adX5_part_1 (k := 13) rfl
theorem dX5_part_61 : decode cX5_part 61 = .ok (.ifCond .eq 5, 3) := fd_get adX5_part_1 (k := 14) rfl
theorem dX5_part_64 : decode cX5_part 64 = .ok (.iconst 0, 1) := fd_get adX5_part_1 (k := 15) rfl
theorem dX5_part_65 : decode cX5_part 65 = .ok (.ireturn, 1) := fd_get adX5_part_2 (k := 0) rfl
theorem dX5_part_66 : decode cX5_part 66 = .ok (.aload_n 0, 1) := fd_get adX5_part_2 (k := 1) rfl
theorem dX5_part_67 : decode cX5_part 67 = .ok (.getfield 22, 3) := fd_get adX5_part_2 (k := 2) rfl
theorem dX5_part_70 : decode cX5_part 70 = .ok (.iload_n 1, 1) := fd_get adX5_part_2 (k := 3) rfl
theorem dX5_part_71 : decode cX5_part 71 = .ok (.aaload, 1) := fd_get adX5_part_2 (k := 4) rfl
theorem dX5_part_72 : decode cX5_part 72 = .ok (.astore 6, 2) := fd_get adX5_part_2 (k := 5) rfl
theorem dX5_part_74 : decode cX5_part 74 = .ok (.aload_n 0, 1) := fd_get adX5_part_2 (k := 6) rfl
theorem dX5_part_75 : decode cX5_part 75 = .ok (.aload 6, 2) := fd_get adX5_part_2 (k := 7) rfl
theorem dX5_part_77 : decode cX5_part 77 = .ok (.iload_n 2, 1) := fd_get adX5_part_2 (k := 8) rfl
theorem dX5_part_78 : decode cX5_part 78 = .ok (.invokevirtual 70, 3) := fd_get adX5_part_2 (k := 9) rfl
theorem dX5_part_81 : decode cX5_part 81 = .ok (.ifCond .eq 32, 3) := fd_get adX5_part_2 (k := 10) rfl
theorem dX5_part_84 : decode cX5_part 84 = .ok (.aload_n 0, 1) := fd_get adX5_part_2 (k := 11) rfl
theorem dX5_part_85 : decode cX5_part 85 = .ok (.aload 6, 2) := fd_get adX5_part_2 (k := 12) rfl
theorem dX5_part_87 : decode cX5_part 87 = .ok (.iload 4, 2) := fd_get adX5_part_2 (k := 13) rfl
theorem dX5_part_89 : decode cX5_part 89 = .ok (.invokevirtual 70, 3) := fd_get adX5_part_2 (k := 14) rfl
theorem dX5_part_92 : decode cX5_part 92 = .ok (.ifCond .eq 21, 3) := fd_get adX5_part_2 (k := 15) rfl
theorem dX5_part_95 : decode cX5_part 95 = .ok (.aload_n 0, 1) := fd_get adX5_part_3 (k := 0) rfl
theorem dX5_part_96 : decode cX5_part 96 = .ok (.aload 6, 2) := fd_get adX5_part_3 (k := 1) rfl
theorem dX5_part_98 : decode cX5_part 98 = .ok (.iload_n 2, 1) := fd_get adX5_part_3 (k := 2) rfl
theorem dX5_part_99 : decode cX5_part 99 = .ok (.invokevirtual 66, 3) := fd_get adX5_part_3 (k := 3) rfl
theorem dX5_part_102 : decode cX5_part 102 = .ok (.aload_n 0, 1) := fd_get adX5_part_3 (k := 4) rfl
theorem dX5_part_103 : decode cX5_part 103 = .ok (.aload 6, 2) := fd_get adX5_part_3 (k := 5) rfl
theorem dX5_part_105 : decode cX5_part 105 = .ok (.iload 4, 2) := fd_get adX5_part_3 (k := 6) rfl
theorem dX5_part_107 : decode cX5_part 107 = .ok (.invokevirtual 66, 3) := fd_get adX5_part_3 (k := 7) rfl
theorem dX5_part_110 : decode cX5_part 110 = .ok (.if_icmp .le 7, 3) := fd_get adX5_part_3 (k := 8) rfl
theorem dX5_part_113 : decode cX5_part 113 = .ok (.sipush (-20000), 3) := fd_get adX5_part_3 (k := 9) rfl
theorem dX5_part_116 : decode cX5_part 116 = .ok (.ireturn, 1) := fd_get adX5_part_3 (k := 10) rfl
theorem dX5_part_117 : decode cX5_part 117 = .ok (.aload_n 0, 1) := fd_get adX5_part_3 (k := 11) rfl
theorem dX5_part_118 : decode cX5_part 118 = .ok (.iconst 5, 1) := fd_get adX5_part_3 (k := 12) rfl
theorem dX5_part_119 : decode cX5_part 119 = .ok (.newarray .int, 2) := by decide +kernel
theorem dX5_part_121 : decode cX5_part 121 = .ok (.dup, 1) := fd_get adX5_part_3 (k := 14) rfl
theorem dX5_part_122 : decode cX5_part 122 = .ok (.iconst 0, 1) := fd_get adX5_part_3 (k := 15) rfl
theorem dX5_part_123 : decode cX5_part 123 = .ok (.aload 6, 2) := fd_get adX5_part_4 (k := 0) rfl
theorem dX5_part_125 : decode cX5_part 125 = .ok (.iconst 0, 1) := fd_get adX5_part_4 (k := 1) rfl
theorem dX5_part_126 : decode cX5_part 126 = .ok (.iaload, 1) := fd_get adX5_part_4 (k := 2) rfl
theorem dX5_part_127 : decode cX5_part 127 = .ok (.iastore, 1) := fd_get adX5_part_4 (k := 3) rfl
theorem dX5_part_128 : decode cX5_part 128 = .ok (.dup, 1) := fd_get adX5_part_4 (k := 4) rfl
theorem dX5_part_129 : decode cX5_part 129 = .ok (.iconst 1, 1) := fd_get adX5_part_4 (k := 5) rfl
theorem dX5_part_130 : decode cX5_part 130 = .ok (.iload_n 2, 1) := fd_get adX5_part_4 (k := 6) rfl
theorem dX5_part_131 : decode cX5_part 131 = .ok (.iastore, 1) := fd_get adX5_part_4 (k := 7) rfl
theorem dX5_part_132 : decode cX5_part 132 = .ok (.dup, 1) := fd_get adX5_part_4 (k := 8) rfl
theorem dX5_part_133 : decode cX5_part 133 = .ok (.iconst 2, 1) := fd_get adX5_part_4 (k := 9) rfl
theorem dX5_part_134 : decode cX5_part 134 = .ok (.iload_n 3, 1) := fd_get adX5_part_4 (k := 10) rfl
theorem dX5_part_135 : decode cX5_part 135 = .ok (.invokestatic 81, 3) := fd_get adX5_part_4 (k := 11) rfl
theorem dX5_part_138 : decode cX5_part 138 = .ok (.iastore, 1) := fd_get adX5_part_4 (k := 12) rfl
theorem dX5_part_139 : decode cX5_part 139 = .ok (.dup, 1) := fd_get adX5_part_4 (k := 13) rfl
theorem dX5_part_140 : decode cX5_part 140 = .ok (.iconst 3, 1) := fd_get adX5_part_4 (k := 14) rfl
theorem dX5_part_141 : decode cX5_part 141 = .ok (.iload 4, 2) := fd_get adX5_part_4 (k := 15) rfl
theorem dX5_part_143 : decode cX5_part 143 = .ok (.iastore, 1) := fd_get adX5_part_5 (k := 0) rfl
theorem dX5_part_144 : decode cX5_part 144 = .ok (.dup, 1) := fd_get adX5_part_5 (k := 1) rfl
theorem dX5_part_145 : decode cX5_part 145 = .ok (.iconst 4, 1) := fd_get adX5_part_5 (k := 2) rfl
theorem dX5_part_146 : decode cX5_part 146 = .ok (.iload 5, 2) := fd_get adX5_part_5 (k := 3) rfl
theorem dX5_part_148 : decode cX5_part 148 = .ok (.invokestatic 81, 3) := fd_get adX5_part_5 (k := 4) rfl
theorem dX5_part_151 : decode cX5_part 151 = .ok (.iastore, 1) := fd_get adX5_part_5 (k := 5) rfl
theorem dX5_part_152 : decode cX5_part 152 = .ok (.invokevirtual 173, 3) := fd_get adX5_part_5 (k := 6) rfl
theorem dX5_part_155 : decode cX5_part 155 = .ok (.ireturn, 1) := fd_get adX5_part_5 (k := 7) rfl
theorem mwsX5_shut_0 : ∀ w ∈ wsX5_shut_r1, w ∈ wsX5_shut := fun w h => (List.mem_cons_of_mem _ (List.mem_append_left _ (List.mem_append_left _ h)))
theorem mwsX5_shut_1 : ∀ w ∈ wsX5_shut_r2, w ∈ wsX5_shut := fun w h => (List.mem_cons_of_mem _ (List.mem_append_left _ (List.mem_append_right _ h)))
theorem mwsX5_shut_2 : ∀ w ∈ wsX50, w ∈ wsX5_shut := fun w h => (List.mem_cons_of_mem _ (List.mem_append_right _ h))
set_option maxRecDepth 20000 in
theorem ggX5_shut_X5_isNoView : GoodIn wsX5_shut wsX5_isNoView := goodIn_sub (List.forall_mem_cons.mpr ⟨(mwsX5_shut_0 _ (List.mem_of_getElem? (i := 5) rfl)), (List.forall_mem_cons.mpr ⟨(mwsX5_shut_0 _ (List.mem_of_getElem? (i := 0) rfl)), (List.forall_mem_cons.mpr ⟨(mwsX5_shut_0 _ (List.mem_of_getElem? (i := 6) rfl)), (List.forall_mem_cons.mpr ⟨(mwsX5_shut_0 _ (List.mem_of_getElem? (i := 7) rfl)), (List.forall_mem_cons.mpr ⟨(mwsX5_shut_0 _ (List.mem_of_getElem? (i := 4) rfl)), (List.forall_mem_cons.mpr ⟨(mwsX5_shut_0 _ (List.mem_of_getElem? (i := 8) rfl)), (tk_mem 13 _ (fun w h => (mwsX5_shut_2 _ (tkB_mem 0 13 h))) (fun _ h => absurd h List.not_mem_nil))⟩)⟩)⟩)⟩)⟩)⟩) (by decide +kernel)
set_option maxRecDepth 20000 in
theorem gX5_shut_X5_isNoView : GoodIn wsX5_shut (wsV RX5 176 RX5 yX5_isNoView wsX5_isNoView) := goodIn_app (goodIn_sub (tk_mem 4 _ (fun w h => (mwsX5_shut_0 _ (tkB_mem 1 4 h))) (fun _ h => absurd h List.not_mem_nil)) (by decide +kernel)) ggX5_shut_X5_isNoView
set_option maxRecDepth 20000 in
theorem ggX5_shut_X5_start : GoodIn wsX5_shut wsX5_start := goodIn_sub (tk_mem 5 _ (fun w h => (mwsX5_shut_0 _ (tkB_mem 12 5 h))) (List.forall_mem_cons.mpr ⟨(mwsX5_shut_0 _ (List.mem_of_getElem? (i := 4) rfl)), (List.forall_mem_cons.mpr ⟨(mwsX5_shut_0 _ (List.mem_of_getElem? (i := 17) rfl)), (tk_mem 13 _ (fun w h => (mwsX5_shut_2 _ (tkB_mem 0 13 h))) (fun _ h => absurd h List.not_mem_nil))⟩)⟩)) (by decide +kernel)
set_option maxRecDepth 20000 in
theorem gX5_shut_X5_start : GoodIn wsX5_shut (wsV RX5 57 RX5 yX5_start wsX5_start) := goodIn_app (goodIn_sub (List.forall_mem_cons.mpr ⟨(mwsX5_shut_0 _ (List.mem_of_getElem? (i := 9) rfl)), (List.forall_mem_cons.mpr ⟨(mwsX5_shut_0 _ (List.mem_of_getElem? (i := 10) rfl)), (List.forall_mem_cons.mpr ⟨(mwsX5_shut_0 _ (List.mem_of_getElem? (i := 11) rfl)), (List.forall_mem_cons.mpr ⟨(mwsX5_shut_0 _ (List.mem_of_getElem? (i := 4) rfl)), (fun _ h => absurd h List.not_mem_nil)⟩)⟩)⟩)⟩) (by decide +kernel)) ggX5_shut_X5_start
set_option maxRecDepth 20000 in
theorem ggX5_shut_X5_many : GoodIn wsX5_shut wsX5_many := goodIn_sub (List.forall_mem_cons.mpr ⟨(mwsX5_shut_0 _ (List.mem_of_getElem? (i := 21) rfl)), (List.forall_mem_cons.mpr ⟨(mwsX5_shut_0 _ (List.mem_of_getElem? (i := 22) rfl)), (List.forall_mem_cons.mpr ⟨(mwsX5_shut_0 _ (List.mem_of_getElem? (i := 23) rfl)), (List.forall_mem_cons.mpr ⟨(mwsX5_shut_1 _ (List.mem_of_getElem? (i := 0) rfl)), (List.forall_mem_cons.mpr ⟨(mwsX5_shut_0 _ (List.mem_of_getElem? (i := 4) rfl)), (tk_mem 15 _ (fun w h => (mwsX5_shut_1 _ (tkB_mem 1 15 h))) (tk_mem 13 _ (fun w h => (mwsX5_shut_2 _ (tkB_mem 0 13 h))) (fun _ h => absurd h List.not_mem_nil)))⟩)⟩)⟩)⟩)⟩) (by decide +kernel)
set_option maxRecDepth 20000 in
theorem gX5_shut_X5_many : GoodIn wsX5_shut (wsV RX5 163 RX5 yX5_many wsX5_many) := goodIn_app (goodIn_sub (List.forall_mem_cons.mpr ⟨(mwsX5_shut_0 _ (List.mem_of_getElem? (i := 18) rfl)), (List.forall_mem_cons.mpr ⟨(mwsX5_shut_0 _ (List.mem_of_getElem? (i := 19) rfl)), (List.forall_mem_cons.mpr ⟨(mwsX5_shut_0 _ (List.mem_of_getElem? (i := 20) rfl)), (List.forall_mem_cons.mpr ⟨(mwsX5_shut_0 _ (List.mem_of_getElem? (i := 4) rfl)), (fun _ h => absurd h List.not_mem_nil)⟩)⟩)⟩)⟩) (by decide +kernel)) ggX5_shut_X5_many
theorem adX5_shut_0 : fd_rows (cX5_shut.data.toList.drop 0) 0 [(0, some (.aload_n 0), 1), (1, some (.aload_n 0), 1), (2, some (.iload_n 1), 1), (3, some (.invokevirtual 176), 3), (6, some (.iconst 1), 1), (7, some (.invokevirtual 57), 3), (10, some (.ifCond .eq 5), 3), (13, some (.iconst 0), 1), (14, some (.ireturn), 1), (15, some (.aload_n 0), 1), (16, some (.aload_n 0), 1), (17, some (.getfield 22), 3), (20, some (.iload_n 1), 1), (21, some (.aaload), 1), (22, some (.invokevirtual 163), 3), (25, some (.istore_n 2), 1)] = true := by decide +kernel
theorem adX5_shut_1 : fd_rows (cX5_shut.data.toList.drop 26) 26 [(26, some (.aload_n 0), 1), (27, some (.getfield 22), 3), (30, some (.iload_n 1), 1), (31, some (.aconst_null), 1), (32, some (.aastore), 1), (33, some (.iload_n 2), 1), (34, some (.ireturn), 1)] = true := by decide +kernel
theorem dX5_shut_0 : decode cX5_shut 0 = .ok (.aload_n 0, 1) := fd_get adX5_shut_0 (k := 0) rfl
theorem dX5_shut_1 : decode cX5_shut 1 = .ok (.aload_n 0, 1) := fd_get adX5_shut_0 (k := 1) rfl
theorem dX5_shut_2 : decode cX5_shut 2 = .ok (.iload_n 1, 1) := fd_get adX5_shut_0 (k := 2) rfl
theorem dX5_shut_3 : decode cX5_shut 3 = .ok (.invokevirtual 176, 3) := fd_get adX5_shut_0 (k := 3) rfl
theorem dX5_shut_6 : decode cX5_shut 6 = .ok (.iconst 1, 1) := fd_get adX5_shut_0 (k := 4) rfl
theorem dX5_shut_7 : decode cX5_shut 7 = .ok (.invokevirtual 57, 3) := fd_get adX5_shut_0 (k := 5) rfl
theorem dX5_shut_10 : decode cX5_shut 10 = .ok (.ifCond .eq 5, 3) := fd_get adX5_shut_0 (k := 6) rfl
theorem dX5_shut_13 : decode cX5_shut 13 = .ok (.iconst 0, 1) := fd_get adX5_shut_0 (k := 7) rfl
theorem dX5_shut_14 : decode cX5_shut 14 = .ok (.ireturn, 1) := fd_get adX5_shut_0 (k := 8) rfl
theorem dX5_shut_15 : decode cX5_shut 15 = .ok (.aload_n 0, 1) := fd_get adX5_shut_0 (k := 9) rfl
theorem dX5_shut_16 : decode cX5_shut 16 = .ok (.aload_n 0, 1) := fd_get adX5_shut_0 (k := 10) rfl
theorem dX5_shut_17 : decode cX5_shut 17 = .ok (.getfield 22, 3) := fd_get adX5_shut_0 (k := 11) rfl
theorem dX5_shut_20 : decode cX5_shut 20 = .ok (.iload_n 1, 1) := fd_get adX5_shut_0 (k := 12) rfl
theorem dX5_shut_21 : decode cX5_shut 21 = .ok (.aaload, 1) := fd_get adX5_shut_0 (k := 13) rfl
theorem dX5_shut_22 : decode cX5_shut 22 = .ok (.invokevirtual 163, 3) := fd_get adX5_shut_0 (k := 14) rfl
theorem dX5_shut_25 : decode cX5_shut 25 = .ok (.istore_n 2, 1) := fd_get adX5_shut_0 (k := 15) rfl
theorem dX5_shut_26 : decode cX5_shut 26 = .ok (.aload_n 0, 1) := fd_get adX5_shut_1 (k := 0) rfl
theorem dX5_shut_27 : decode cX5_shut 27 = .ok (.getfield 22, 3) := fd_get adX5_shut_1 (k := 1) rfl
theorem dX5_shut_30 : decode cX5_shut 30 = .ok (.iload_n 1, 1) := fd_get adX5_shut_1 (k := 2) rfl
theorem dX5_shut_31 : decode cX5_shut 31 = .ok (.aconst_null, 1) := fd_get adX5_shut_1 (k := 3) rfl
theorem dX5_shut_32 : decode cX5_shut 32 = .ok (.aastore, 1) := fd_get adX5_shut_1 (k := 4) rfl
theorem dX5_shut_33 : decode cX5_shut 33 = .ok (.iload_n 2, 1) := fd_get adX5_shut_1 (k := 5) rfl
theorem dX5_shut_34 : decode cX5_shut 34 = .ok (.ireturn, 1) := fd_get adX5_shut_1 (k := 6) rfl
theorem mwsX5_viewPut_0 : ∀ w ∈ wsX5_viewPut_r1, w ∈ wsX5_viewPut := fun w h => (List.mem_cons_of_mem _ (List.mem_append_left _ (List.mem_append_left _ h)))
theorem mwsX5_viewPut_1 : ∀ w ∈ wsX5_viewPut_r2, w ∈ wsX5_viewPut := fun w h => (List.mem_cons_of_mem _ (List.mem_append_left _ (List.mem_append_right _ h)))
theorem mwsX5_viewPut_2 : ∀ w ∈ wsX50, w ∈ wsX5_viewPut := fun w h => (List.mem_cons_of_mem _ (List.mem_append_right _ h))
set_option maxRecDepth 20000 in
theorem ggX5_viewPut_X5_isNoView : GoodIn wsX5_viewPut wsX5_isNoView := goodIn_sub (List.forall_mem_cons.mpr ⟨(mwsX5_viewPut_0 _ (List.mem_of_getElem? (i := 5) rfl)), (List.forall_mem_cons.mpr ⟨(mwsX5_viewPut_0 _ (List.mem_of_getElem? (i := 0) rfl)), (List.forall_mem_cons.mpr ⟨(mwsX5_viewPut_0 _ (List.mem_of_getElem? (i := 6) rfl)), (List.forall_mem_cons.mpr ⟨(mwsX5_viewPut_0 _ (List.mem_of_getElem? (i := 7) rfl)), (List.forall_mem_cons.mpr ⟨(mwsX5_viewPut_0 _ (List.mem_of_getElem? (i := 4) rfl)), (List.forall_mem_cons.mpr ⟨(mwsX5_viewPut_0 _ (List.mem_of_getElem? (i := 8) rfl)), (tk_mem 13 _ (fun w h => (mwsX5_viewPut_2 _ (tkB_mem 0 13 h))) (fun _ h => absurd h List.not_mem_nil))⟩)⟩)⟩)⟩)⟩)⟩) (by decide +kernel)
set_option maxRecDepth 20000 in
theorem gX5_viewPut_X5_isNoView : GoodIn wsX5_viewPut (wsV RX5 176 RX5 yX5_isNoView wsX5_isNoView) := goodIn_app (goodIn_sub (tk_mem 4 _ (fun w h => (mwsX5_viewPut_0 _ (tkB_mem 1 4 h))) (fun _ h => absurd h List.not_mem_nil)) (by decide +kernel)) ggX5_viewPut_X5_isNoView
set_option maxRecDepth 20000 in
theorem ggX5_viewPut_X5_start : GoodIn wsX5_viewPut wsX5_start := goodIn_sub (tk_mem 5 _ (fun w h => (mwsX5_viewPut_0 _ (tkB_mem 12 5 h))) (List.forall_mem_cons.mpr ⟨(mwsX5_viewPut_0 _ (List.mem_of_getElem? (i := 4) rfl)), (List.forall_mem_cons.mpr ⟨(mwsX5_viewPut_0 _ (List.mem_of_getElem? (i := 17) rfl)), (tk_mem 13 _ (fun w h => (mwsX5_viewPut_2 _ (tkB_mem 0 13 h))) (fun _ h => absurd h List.not_mem_nil))⟩)⟩)) (by decide +kernel)
set_option maxRecDepth 20000 in
theorem gX5_viewPut_X5_start : GoodIn wsX5_viewPut (wsV RX5 57 RX5 yX5_start wsX5_start) := goodIn_app (goodIn_sub (List.forall_mem_cons.mpr ⟨(mwsX5_viewPut_0 _ (List.mem_of_getElem? (i := 9) rfl)), (List.forall_mem_cons.mpr ⟨(mwsX5_viewPut_0 _ (List.mem_of_getElem? (i := 10) rfl)), (List.forall_mem_cons.mpr ⟨(mwsX5_viewPut_0 _ (List.mem_of_getElem? (i := 11) rfl)), (List.forall_mem_cons.mpr ⟨(mwsX5_viewPut_0 _ (List.mem_of_getElem? (i := 4) rfl)), (fun _ h => absurd h List.not_mem_nil)⟩)⟩)⟩)⟩) (by decide +kernel)) ggX5_viewPut_X5_start
set_option maxRecDepth 20000 in
theorem ggX5_viewPut_X5_isNoKey : GoodIn wsX5_viewPut wsX5_isNoKey := goodIn_sub (List.forall_mem_cons.mpr ⟨(mwsX5_viewPut_0 _ (List.mem_of_getElem? (i := 20) rfl)), (List.forall_mem_cons.mpr ⟨(mwsX5_viewPut_0 _ (List.mem_of_getElem? (i := 6) rfl)), (List.forall_mem_cons.mpr ⟨(mwsX5_viewPut_0 _ (List.mem_of_getElem? (i := 7) rfl)), (List.forall_mem_cons.mpr ⟨(mwsX5_viewPut_0 _ (List.mem_of_getElem? (i := 4) rfl)), (List.forall_mem_cons.mpr ⟨(mwsX5_viewPut_0 _ (List.mem_of_getElem? (i := 8) rfl)), (fun _ h => absurd h List.not_mem_nil)⟩)⟩)⟩)⟩)⟩) (by decide +kernel)
set_option maxRecDepth 20000 in
theorem gX5_viewPut_X5_isNoKey : GoodIn wsX5_viewPut (va_wsS RX5 60 yX5_isNoKey wsX5_isNoKey) := goodIn_app (goodIn_sub (List.forall_mem_cons.mpr ⟨(mwsX5_viewPut_0 _ (List.mem_of_getElem? (i := 18) rfl)), (List.forall_mem_cons.mpr ⟨(mwsX5_viewPut_0 _ (List.mem_of_getElem? (i := 19) rfl)), (List.forall_mem_cons.mpr ⟨(mwsX5_viewPut_0 _ (List.mem_of_getElem? (i := 4) rfl)), (fun _ h => absurd h List.not_mem_nil)⟩)⟩)⟩) (by decide +kernel)) ggX5_viewPut_X5_isNoKey
set_option maxRecDepth 20000 in
theorem ggX5_viewPut_X5_isNoValue : GoodIn wsX5_viewPut wsX5_isNoValue := goodIn_sub (List.forall_mem_cons.mpr ⟨(mwsX5_viewPut_0 _ (List.mem_of_getElem? (i := 23) rfl)), (List.forall_mem_cons.mpr ⟨(mwsX5_viewPut_0 _ (List.mem_of_getElem? (i := 6) rfl)), (List.forall_mem_cons.mpr ⟨(mwsX5_viewPut_0 _ (List.mem_of_getElem? (i := 7) rfl)), (List.forall_mem_cons.mpr ⟨(mwsX5_viewPut_0 _ (List.mem_of_getElem? (i := 4) rfl)), (List.forall_mem_cons.mpr ⟨(mwsX5_viewPut_0 _ (List.mem_of_getElem? (i := 8) rfl)), (fun _ h => absurd h List.not_mem_nil)⟩)⟩)⟩)⟩)⟩) (by decide +kernel)
set_option maxRecDepth 20000 in
theorem gX5_viewPut_X5_isNoValue : GoodIn wsX5_viewPut (va_wsS RX5 63 yX5_isNoValue wsX5_isNoValue) := goodIn_app (goodIn_sub (List.forall_mem_cons.mpr ⟨(mwsX5_viewPut_0 _ (List.mem_of_getElem? (i := 21) rfl)), (List.forall_mem_cons.mpr ⟨(mwsX5_viewPut_0 _ (List.mem_of_getElem? (i := 22) rfl)), (List.forall_mem_cons.mpr ⟨(mwsX5_viewPut_0 _ (List.mem_of_getElem? (i := 4) rfl)), (fun _ h => absurd h List.not_mem_nil)⟩)⟩)⟩) (by decide +kernel)) ggX5_viewPut_X5_isNoValue
set_option maxRecDepth 20000 in
theorem ggX5_viewPut_X5_refuse : GoodIn wsX5_viewPut wsX5_refuse := goodIn_sub (List.forall_mem_cons.mpr ⟨(mwsX5_viewPut_0 _ (List.mem_of_getElem? (i := 17) rfl)), (List.forall_mem_cons.mpr ⟨(mwsX5_viewPut_0 _ (List.mem_of_getElem? (i := 13) rfl)), (tk_mem 13 _ (fun w h => (mwsX5_viewPut_2 _ (tkB_mem 0 13 h))) (fun _ h => absurd h List.not_mem_nil))⟩)⟩) (by decide +kernel)
set_option maxRecDepth 20000 in
theorem gX5_viewPut_X5_refuse : GoodIn wsX5_viewPut (wsV RX5 45 RX5 yX5_refuse wsX5_refuse) := goodIn_app (goodIn_sub (List.forall_mem_cons.mpr ⟨(mwsX5_viewPut_0 _ (List.mem_of_getElem? (i := 14) rfl)), (List.forall_mem_cons.mpr ⟨(mwsX5_viewPut_0 _ (List.mem_of_getElem? (i := 15) rfl)), (List.forall_mem_cons.mpr ⟨(mwsX5_viewPut_0 _ (List.mem_of_getElem? (i := 16) rfl)), (List.forall_mem_cons.mpr ⟨(mwsX5_viewPut_0 _ (List.mem_of_getElem? (i := 4) rfl)), (fun _ h => absurd h List.not_mem_nil)⟩)⟩)⟩)⟩) (by decide +kernel)) ggX5_viewPut_X5_refuse
set_option maxRecDepth 20000 in
theorem ggX5_viewPut_X5_touch : GoodIn wsX5_viewPut wsX5_touch := goodIn_sub (List.forall_mem_cons.mpr ⟨(mwsX5_viewPut_1 _ (List.mem_of_getElem? (i := 3) rfl)), (List.forall_mem_cons.mpr ⟨(mwsX5_viewPut_1 _ (List.mem_of_getElem? (i := 4) rfl)), (List.forall_mem_cons.mpr ⟨(mwsX5_viewPut_1 _ (List.mem_of_getElem? (i := 5) rfl)), (tk_mem 13 _ (fun w h => (mwsX5_viewPut_2 _ (tkB_mem 0 13 h))) (fun _ h => absurd h List.not_mem_nil))⟩)⟩)⟩) (by decide +kernel)
set_option maxRecDepth 20000 in
theorem gX5_viewPut_X5_touch : GoodIn wsX5_viewPut (wsV RX5 142 RX5 yX5_touch wsX5_touch) := goodIn_app (goodIn_sub (List.forall_mem_cons.mpr ⟨(mwsX5_viewPut_1 _ (List.mem_of_getElem? (i := 0) rfl)), (List.forall_mem_cons.mpr ⟨(mwsX5_viewPut_1 _ (List.mem_of_getElem? (i := 1) rfl)), (List.forall_mem_cons.mpr ⟨(mwsX5_viewPut_1 _ (List.mem_of_getElem? (i := 2) rfl)), (List.forall_mem_cons.mpr ⟨(mwsX5_viewPut_0 _ (List.mem_of_getElem? (i := 4) rfl)), (fun _ h => absurd h List.not_mem_nil)⟩)⟩)⟩)⟩) (by decide +kernel)) ggX5_viewPut_X5_touch
set_option maxRecDepth 20000 in
theorem ggX5_viewPut_X5_isWithin : GoodIn wsX5_viewPut wsX5_isWithin := goodIn_sub (tk_mem 4 _ (fun w h => (mwsX5_viewPut_1 _ (tkB_mem 9 4 h))) (List.forall_mem_cons.mpr ⟨(mwsX5_viewPut_0 _ (List.mem_of_getElem? (i := 4) rfl)), (List.forall_mem_cons.mpr ⟨(mwsX5_viewPut_1 _ (List.mem_of_getElem? (i := 13) rfl)), (List.forall_mem_cons.mpr ⟨(mwsX5_viewPut_1 _ (List.mem_of_getElem? (i := 14) rfl)), (List.forall_mem_cons.mpr ⟨(mwsX5_viewPut_1 _ (List.mem_of_getElem? (i := 15) rfl)), (tk_mem 13 _ (fun w h => (mwsX5_viewPut_2 _ (tkB_mem 0 13 h))) (fun _ h => absurd h List.not_mem_nil))⟩)⟩)⟩)⟩)) (by decide +kernel)
set_option maxRecDepth 20000 in
theorem gX5_viewPut_X5_isWithin : GoodIn wsX5_viewPut (wsV RX5 70 RX5 yX5_isWithin wsX5_isWithin) := goodIn_app (goodIn_sub (List.forall_mem_cons.mpr ⟨(mwsX5_viewPut_1 _ (List.mem_of_getElem? (i := 6) rfl)), (List.forall_mem_cons.mpr ⟨(mwsX5_viewPut_1 _ (List.mem_of_getElem? (i := 7) rfl)), (List.forall_mem_cons.mpr ⟨(mwsX5_viewPut_1 _ (List.mem_of_getElem? (i := 8) rfl)), (List.forall_mem_cons.mpr ⟨(mwsX5_viewPut_0 _ (List.mem_of_getElem? (i := 4) rfl)), (fun _ h => absurd h List.not_mem_nil)⟩)⟩)⟩)⟩) (by decide +kernel)) ggX5_viewPut_X5_isWithin
set_option maxRecDepth 20000 in
theorem ggX5_viewPut_X5_set : GoodIn wsX5_viewPut wsX5_set := goodIn_sub (List.forall_mem_cons.mpr ⟨(mwsX5_viewPut_1 _ (List.mem_of_getElem? (i := 19) rfl)), (List.forall_mem_cons.mpr ⟨(mwsX5_viewPut_1 _ (List.mem_of_getElem? (i := 20) rfl)), (List.forall_mem_cons.mpr ⟨(mwsX5_viewPut_1 _ (List.mem_of_getElem? (i := 4) rfl)), (List.forall_mem_cons.mpr ⟨(mwsX5_viewPut_1 _ (List.mem_of_getElem? (i := 21) rfl)), (tk_mem 13 _ (fun w h => (mwsX5_viewPut_2 _ (tkB_mem 0 13 h))) (fun _ h => absurd h List.not_mem_nil))⟩)⟩)⟩)⟩) (by decide +kernel)
set_option maxRecDepth 20000 in
theorem gX5_viewPut_X5_set : GoodIn wsX5_viewPut (wsV RX5 132 RX5 yX5_set wsX5_set) := goodIn_app (goodIn_sub (List.forall_mem_cons.mpr ⟨(mwsX5_viewPut_1 _ (List.mem_of_getElem? (i := 16) rfl)), (List.forall_mem_cons.mpr ⟨(mwsX5_viewPut_1 _ (List.mem_of_getElem? (i := 17) rfl)), (List.forall_mem_cons.mpr ⟨(mwsX5_viewPut_1 _ (List.mem_of_getElem? (i := 18) rfl)), (List.forall_mem_cons.mpr ⟨(mwsX5_viewPut_0 _ (List.mem_of_getElem? (i := 4) rfl)), (fun _ h => absurd h List.not_mem_nil)⟩)⟩)⟩)⟩) (by decide +kernel)) ggX5_viewPut_X5_set
theorem adX5_viewPut_0 : fd_rows (cX5_viewPut.data.toList.drop 0) 0 [(0, some (.aload_n 0), 1), (1, some (.aload_n 0), 1), (2, some (.iload_n 1), 1), (3, some (.invokevirtual 176), 3), (6, some (.iconst 1), 1), (7, some (.invokevirtual 57), 3), (10, some (.ifCond .ne 30), 3), (13, some (.aload_n 0), 1), (14, some (.iload_n 2), 1), (15, some (.invokestatic 60), 3), (18, some (.ifCond .ne 10), 3), (21, some (.iload_n 3), 1), (22, some (.invokestatic 63), 3), (25, some (.ifCond .eq 7), 3), (28, some (.iconst 1), 1), (29, some (.goto 4), 3)] = true := by decide +kernel
theorem adX5_viewPut_1 : fd_rows (cX5_viewPut.data.toList.drop 32) 32 [(32, some (.iconst 0), 1), (33, some (.iconst 2), 1), (34, some (.invokevirtual 45), 3), (37, some (.ifCond .eq 5), 3), (40, some (.iconst 0), 1), (41, some (.ireturn), 1), (42, some (.aload_n 0), 1), (43, some (.aload_n 0), 1), (44, some (.getfield 22), 3), (47, some (.iload_n 1), 1), (48, some (.aaload), 1), (49, some (.iconst 0), 1), (50, some (.iaload), 1), (51, some (.invokevirtual 142), 3), (54, some (.aload_n 0), 1), (55, some (.aload_n 0), 1)] = true := by decide +kernel
theorem adX5_viewPut_2 : fd_rows (cX5_viewPut.data.toList.drop 56) 56 [(56, some (.getfield 22), 3), (59, some (.iload_n 1), 1), (60, some (.aaload), 1), (61, some (.iload_n 2), 1), (62, some (.invokevirtual 70), 3), (65, some (.ifCond .eq 20), 3), (68, some (.aload_n 0), 1), (69, some (.aload_n 0), 1), (70, some (.getfield 22), 3), (73, some (.iload_n 1), 1), (74, some (.aaload), 1), (75, some (.iconst 0), 1), (76, some (.iaload), 1), (77, some (.iload_n 2), 1), (78, some (.iload_n 3), 1), (79, some (.invokevirtual 132), 3)] = true := by decide +kernel
theorem adX5_viewPut_3 : fd_rows (cX5_viewPut.data.toList.drop 82) 82 [(82, some (.goto 6), 3), (85, some (.sipush (-20000)), 3), (88, some (.ireturn), 1)] = true := by decide +kernel
theorem dX5_viewPut_0 : decode cX5_viewPut 0 = .ok (.aload_n 0, 1) := fd_get adX5_viewPut_0 (k := 0) rfl
theorem dX5_viewPut_1 : decode cX5_viewPut 1 = .ok (.aload_n 0, 1) := fd_get adX5_viewPut_0 (k := 1) rfl
theorem dX5_viewPut_2 : decode cX5_viewPut 2 = .ok (.iload_n 1, 1) := fd_get adX5_viewPut_0 (k := 2) rfl
theorem dX5_viewPut_3 : decode cX5_viewPut 3 = .ok (.invokevirtual 176, 3) := fd_get adX5_viewPut_0 (k := 3) rfl
theorem dX5_viewPut_6 : decode cX5_viewPut 6 = .ok (.iconst 1, 1) := fd_get adX5_viewPut_0 (k := 4) rfl
theorem dX5_viewPut_7 : decode cX5_viewPut 7 = .ok (.invokevirtual 57, 3) := fd_get adX5_viewPut_0 (k := 5) rfl
theorem dX5_viewPut_10 : decode cX5_viewPut 10 = .ok (.ifCond .ne 30, 3) := fd_get adX5_viewPut_0 (k := 6) rfl
theorem dX5_viewPut_13 : decode cX5_viewPut 13 = .ok (.aload_n 0, 1) := fd_get adX5_viewPut_0 (k := 7) rfl
theorem dX5_viewPut_14 : decode cX5_viewPut 14 = .ok (.iload_n 2, 1) := fd_get adX5_viewPut_0 (k := 8) rfl
theorem dX5_viewPut_15 : decode cX5_viewPut 15 = .ok (.invokestatic 60, 3) := fd_get adX5_viewPut_0 (k := 9) rfl
theorem dX5_viewPut_18 : decode cX5_viewPut 18 = .ok (.ifCond .ne 10, 3) := fd_get adX5_viewPut_0 (k := 10) rfl
theorem dX5_viewPut_21 : decode cX5_viewPut 21 = .ok (.iload_n 3, 1) := fd_get adX5_viewPut_0 (k := 11) rfl
theorem dX5_viewPut_22 : decode cX5_viewPut 22 = .ok (.invokestatic 63, 3) := fd_get adX5_viewPut_0 (k := 12) rfl
theorem dX5_viewPut_25 : decode cX5_viewPut 25 = .ok (.ifCond .eq 7, 3) := fd_get adX5_viewPut_0 (k := 13) rfl
theorem dX5_viewPut_28 : decode cX5_viewPut 28 = .ok (.iconst 1, 1) := fd_get adX5_viewPut_0 (k := 14) rfl
theorem dX5_viewPut_29 : decode cX5_viewPut 29 = .ok (.goto 4, 3) := fd_get adX5_viewPut_0 (k := 15) rfl
theorem dX5_viewPut_32 : decode cX5_viewPut 32 = .ok (.iconst 0, 1) := fd_get adX5_viewPut_1 (k := 0) rfl
theorem dX5_viewPut_33 : decode cX5_viewPut 33 = .ok (.iconst 2, 1) := fd_get adX5_viewPut_1 (k := 1) rfl
theorem dX5_viewPut_34 : decode cX5_viewPut 34 = .ok (.invokevirtual 45, 3) := fd_get adX5_viewPut_1 (k := 2) rfl
theorem dX5_viewPut_37 : decode cX5_viewPut 37 = .ok (.ifCond .eq 5, 3) := fd_get adX5_viewPut_1 (k := 3) rfl
theorem dX5_viewPut_40 : decode cX5_viewPut 40 = .ok (.iconst 0, 1) := fd_get adX5_viewPut_1 (k := 4) rfl
theorem dX5_viewPut_41 : decode cX5_viewPut 41 = .ok (.ireturn, 1) := fd_get adX5_viewPut_1 (k := 5) rfl
theorem dX5_viewPut_42 : decode cX5_viewPut 42 = .ok (.aload_n 0, 1) := fd_get adX5_viewPut_1 (k := 6) rfl
theorem dX5_viewPut_43 : decode cX5_viewPut 43 = .ok (.aload_n 0, 1) := fd_get adX5_viewPut_1 (k := 7) rfl
theorem dX5_viewPut_44 : decode cX5_viewPut 44 = .ok (.getfield 22, 3) := fd_get adX5_viewPut_1 (k := 8) rfl
theorem dX5_viewPut_47 : decode cX5_viewPut 47 = .ok (.iload_n 1, 1) := fd_get adX5_viewPut_1 (k := 9) rfl
theorem dX5_viewPut_48 : decode cX5_viewPut 48 = .ok (.aaload, 1) := fd_get adX5_viewPut_1 (k := 10) rfl
theorem dX5_viewPut_49 : decode cX5_viewPut 49 = .ok (.iconst 0, 1) := fd_get adX5_viewPut_1 (k := 11) rfl
theorem dX5_viewPut_50 : decode cX5_viewPut 50 = .ok (.iaload, 1) := fd_get adX5_viewPut_1 (k := 12) rfl
theorem dX5_viewPut_51 : decode cX5_viewPut 51 = .ok (.invokevirtual 142, 3) := fd_get adX5_viewPut_1 (k := 13) rfl
theorem dX5_viewPut_54 : decode cX5_viewPut 54 = .ok (.aload_n 0, 1) := fd_get adX5_viewPut_1 (k := 14) rfl
theorem dX5_viewPut_55 : decode cX5_viewPut 55 = .ok (.aload_n 0, 1) := fd_get adX5_viewPut_1 (k := 15) rfl
theorem dX5_viewPut_56 : decode cX5_viewPut 56 = .ok (.getfield 22, 3) := fd_get adX5_viewPut_2 (k := 0) rfl
theorem dX5_viewPut_59 : decode cX5_viewPut 59 = .ok (.iload_n 1, 1) := fd_get adX5_viewPut_2 (k := 1) rfl
theorem dX5_viewPut_60 : decode cX5_viewPut 60 = .ok (.aaload, 1) := fd_get adX5_viewPut_2 (k := 2) rfl
theorem dX5_viewPut_61 : decode cX5_viewPut 61 = .ok (.iload_n 2, 1) := fd_get adX5_viewPut_2 (k := 3) rfl
theorem dX5_viewPut_62 : decode cX5_viewPut 62 = .ok (.invokevirtual 70, 3) := fd_get adX5_viewPut_2 (k := 4) rfl
theorem dX5_viewPut_65 : decode cX5_viewPut 65 = .ok (.ifCond .eq 20, 3) := fd_get adX5_viewPut_2 (k := 5) rfl
theorem dX5_viewPut_68 : decode cX5_viewPut 68 = .ok (.aload_n 0, 1) := fd_get adX5_viewPut_2 (k := 6) rfl
theorem dX5_viewPut_69 : decode cX5_viewPut 69 = .ok (.aload_n 0, 1) := fd_get adX5_viewPut_2 (k := 7) rfl
theorem dX5_viewPut_70 : decode cX5_viewPut 70 = .ok (.getfield 22, 3) := fd_get adX5_viewPut_2 (k := 8) rfl
theorem dX5_viewPut_73 : decode cX5_viewPut 73 = .ok (.iload_n 1, 1) := fd_get adX5_viewPut_2 (k := 9) rfl
theorem dX5_viewPut_74 : decode cX5_viewPut 74 = .ok (.aaload, 1) := fd_get adX5_viewPut_2 (k := 10) rfl
theorem dX5_viewPut_75 : decode cX5_viewPut 75 = .ok (.iconst 0, 1) := fd_get adX5_viewPut_2 (k := 11) rfl
theorem dX5_viewPut_76 : decode cX5_viewPut 76 = .ok (.iaload, 1) := fd_get adX5_viewPut_2 (k := 12) rfl
theorem dX5_viewPut_77 : decode cX5_viewPut 77 = .ok (.iload_n 2, 1) := fd_get adX5_viewPut_2 (k := 13) rfl
theorem dX5_viewPut_78 : decode cX5_viewPut 78 = .ok (.iload_n 3, 1) := fd_get adX5_viewPut_2 (k := 14) rfl
theorem dX5_viewPut_79 : decode cX5_viewPut 79 = .ok (.invokevirtual 132, 3) := fd_get adX5_viewPut_2 (k := 15) rfl
theorem dX5_viewPut_82 : decode cX5_viewPut 82 = .ok (.goto 6, 3) := fd_get adX5_viewPut_3 (k := 0) rfl
theorem dX5_viewPut_85 : decode cX5_viewPut 85 = .ok (.sipush (-20000), 3) := fd_get adX5_viewPut_3 (k := 1) rfl
theorem dX5_viewPut_88 : decode cX5_viewPut 88 = .ok (.ireturn, 1) := fd_get adX5_viewPut_3 (k := 2) rfl
theorem mwsX5_viewStrike_0 : ∀ w ∈ wsX5_viewStrike_r1, w ∈ wsX5_viewStrike := fun w h => (List.mem_cons_of_mem _ (List.mem_append_left _ (List.mem_append_left _ h)))
theorem mwsX5_viewStrike_1 : ∀ w ∈ wsX5_viewStrike_r2, w ∈ wsX5_viewStrike := fun w h => (List.mem_cons_of_mem _ (List.mem_append_left _ (List.mem_append_right _ h)))
theorem mwsX5_viewStrike_2 : ∀ w ∈ wsX50, w ∈ wsX5_viewStrike := fun w h => (List.mem_cons_of_mem _ (List.mem_append_right _ h))
set_option maxRecDepth 20000 in
theorem ggX5_viewStrike_X5_isNoView : GoodIn wsX5_viewStrike wsX5_isNoView := goodIn_sub (List.forall_mem_cons.mpr ⟨(mwsX5_viewStrike_0 _ (List.mem_of_getElem? (i := 5) rfl)), (List.forall_mem_cons.mpr ⟨(mwsX5_viewStrike_0 _ (List.mem_of_getElem? (i := 0) rfl)), (List.forall_mem_cons.mpr ⟨(mwsX5_viewStrike_0 _ (List.mem_of_getElem? (i := 6) rfl)), (List.forall_mem_cons.mpr ⟨(mwsX5_viewStrike_0 _ (List.mem_of_getElem? (i := 7) rfl)), (List.forall_mem_cons.mpr ⟨(mwsX5_viewStrike_0 _ (List.mem_of_getElem? (i := 4) rfl)), (List.forall_mem_cons.mpr ⟨(mwsX5_viewStrike_0 _ (List.mem_of_getElem? (i := 8) rfl)), (tk_mem 13 _ (fun w h => (mwsX5_viewStrike_2 _ (tkB_mem 0 13 h))) (fun _ h => absurd h List.not_mem_nil))⟩)⟩)⟩)⟩)⟩)⟩) (by decide +kernel)
set_option maxRecDepth 20000 in
theorem gX5_viewStrike_X5_isNoView : GoodIn wsX5_viewStrike (wsV RX5 176 RX5 yX5_isNoView wsX5_isNoView) := goodIn_app (goodIn_sub (tk_mem 4 _ (fun w h => (mwsX5_viewStrike_0 _ (tkB_mem 1 4 h))) (fun _ h => absurd h List.not_mem_nil)) (by decide +kernel)) ggX5_viewStrike_X5_isNoView
set_option maxRecDepth 20000 in
theorem ggX5_viewStrike_X5_start : GoodIn wsX5_viewStrike wsX5_start := goodIn_sub (tk_mem 5 _ (fun w h => (mwsX5_viewStrike_0 _ (tkB_mem 12 5 h))) (List.forall_mem_cons.mpr ⟨(mwsX5_viewStrike_0 _ (List.mem_of_getElem? (i := 4) rfl)), (List.forall_mem_cons.mpr ⟨(mwsX5_viewStrike_0 _ (List.mem_of_getElem? (i := 17) rfl)), (tk_mem 13 _ (fun w h => (mwsX5_viewStrike_2 _ (tkB_mem 0 13 h))) (fun _ h => absurd h List.not_mem_nil))⟩)⟩)) (by decide +kernel)
set_option maxRecDepth 20000 in
theorem gX5_viewStrike_X5_start : GoodIn wsX5_viewStrike (wsV RX5 57 RX5 yX5_start wsX5_start) := goodIn_app (goodIn_sub (List.forall_mem_cons.mpr ⟨(mwsX5_viewStrike_0 _ (List.mem_of_getElem? (i := 9) rfl)), (List.forall_mem_cons.mpr ⟨(mwsX5_viewStrike_0 _ (List.mem_of_getElem? (i := 10) rfl)), (List.forall_mem_cons.mpr ⟨(mwsX5_viewStrike_0 _ (List.mem_of_getElem? (i := 11) rfl)), (List.forall_mem_cons.mpr ⟨(mwsX5_viewStrike_0 _ (List.mem_of_getElem? (i := 4) rfl)), (fun _ h => absurd h List.not_mem_nil)⟩)⟩)⟩)⟩) (by decide +kernel)) ggX5_viewStrike_X5_start
set_option maxRecDepth 20000 in
theorem ggX5_viewStrike_X5_isNoKey : GoodIn wsX5_viewStrike wsX5_isNoKey := goodIn_sub (List.forall_mem_cons.mpr ⟨(mwsX5_viewStrike_0 _ (List.mem_of_getElem? (i := 20) rfl)), (List.forall_mem_cons.mpr ⟨(mwsX5_viewStrike_0 _ (List.mem_of_getElem? (i := 6) rfl)), (List.forall_mem_cons.mpr ⟨(mwsX5_viewStrike_0 _ (List.mem_of_getElem? (i := 7) rfl)), (List.forall_mem_cons.mpr ⟨(mwsX5_viewStrike_0 _ (List.mem_of_getElem? (i := 4) rfl)), (List.forall_mem_cons.mpr ⟨(mwsX5_viewStrike_0 _ (List.mem_of_getElem? (i := 8) rfl)), (fun _ h => absurd h List.not_mem_nil)⟩)⟩)⟩)⟩)⟩) (by decide +kernel)
set_option maxRecDepth 20000 in
theorem gX5_viewStrike_X5_isNoKey : GoodIn wsX5_viewStrike (va_wsS RX5 60 yX5_isNoKey wsX5_isNoKey) := goodIn_app (goodIn_sub (List.forall_mem_cons.mpr ⟨(mwsX5_viewStrike_0 _ (List.mem_of_getElem? (i := 18) rfl)), (List.forall_mem_cons.mpr ⟨(mwsX5_viewStrike_0 _ (List.mem_of_getElem? (i := 19) rfl)), (List.forall_mem_cons.mpr ⟨(mwsX5_viewStrike_0 _ (List.mem_of_getElem? (i := 4) rfl)), (fun _ h => absurd h List.not_mem_nil)⟩)⟩)⟩) (by decide +kernel)) ggX5_viewStrike_X5_isNoKey
set_option maxRecDepth 20000 in
theorem ggX5_viewStrike_X5_refuse : GoodIn wsX5_viewStrike wsX5_refuse := goodIn_sub (List.forall_mem_cons.mpr ⟨(mwsX5_viewStrike_0 _ (List.mem_of_getElem? (i := 17) rfl)), (List.forall_mem_cons.mpr ⟨(mwsX5_viewStrike_0 _ (List.mem_of_getElem? (i := 13) rfl)), (tk_mem 13 _ (fun w h => (mwsX5_viewStrike_2 _ (tkB_mem 0 13 h))) (fun _ h => absurd h List.not_mem_nil))⟩)⟩) (by decide +kernel)
set_option maxRecDepth 20000 in
theorem gX5_viewStrike_X5_refuse : GoodIn wsX5_viewStrike (wsV RX5 45 RX5 yX5_refuse wsX5_refuse) := goodIn_app (goodIn_sub (List.forall_mem_cons.mpr ⟨(mwsX5_viewStrike_0 _ (List.mem_of_getElem? (i := 14) rfl)), (List.forall_mem_cons.mpr ⟨(mwsX5_viewStrike_0 _ (List.mem_of_getElem? (i := 15) rfl)), (List.forall_mem_cons.mpr ⟨(mwsX5_viewStrike_0 _ (List.mem_of_getElem? (i := 16) rfl)), (List.forall_mem_cons.mpr ⟨(mwsX5_viewStrike_0 _ (List.mem_of_getElem? (i := 4) rfl)), (fun _ h => absurd h List.not_mem_nil)⟩)⟩)⟩)⟩) (by decide +kernel)) ggX5_viewStrike_X5_refuse
set_option maxRecDepth 20000 in
theorem ggX5_viewStrike_X5_touch : GoodIn wsX5_viewStrike wsX5_touch := goodIn_sub (List.forall_mem_cons.mpr ⟨(mwsX5_viewStrike_1 _ (List.mem_of_getElem? (i := 0) rfl)), (List.forall_mem_cons.mpr ⟨(mwsX5_viewStrike_1 _ (List.mem_of_getElem? (i := 1) rfl)), (List.forall_mem_cons.mpr ⟨(mwsX5_viewStrike_1 _ (List.mem_of_getElem? (i := 2) rfl)), (tk_mem 13 _ (fun w h => (mwsX5_viewStrike_2 _ (tkB_mem 0 13 h))) (fun _ h => absurd h List.not_mem_nil))⟩)⟩)⟩) (by decide +kernel)
set_option maxRecDepth 20000 in
theorem gX5_viewStrike_X5_touch : GoodIn wsX5_viewStrike (wsV RX5 142 RX5 yX5_touch wsX5_touch) := goodIn_app (goodIn_sub (List.forall_mem_cons.mpr ⟨(mwsX5_viewStrike_0 _ (List.mem_of_getElem? (i := 21) rfl)), (List.forall_mem_cons.mpr ⟨(mwsX5_viewStrike_0 _ (List.mem_of_getElem? (i := 22) rfl)), (List.forall_mem_cons.mpr ⟨(mwsX5_viewStrike_0 _ (List.mem_of_getElem? (i := 23) rfl)), (List.forall_mem_cons.mpr ⟨(mwsX5_viewStrike_0 _ (List.mem_of_getElem? (i := 4) rfl)), (fun _ h => absurd h List.not_mem_nil)⟩)⟩)⟩)⟩) (by decide +kernel)) ggX5_viewStrike_X5_touch
set_option maxRecDepth 20000 in
theorem ggX5_viewStrike_X5_shows : GoodIn wsX5_viewStrike wsX5_shows := goodIn_sub (tk_mem 5 _ (fun w h => (mwsX5_viewStrike_1 _ (tkB_mem 6 5 h))) (List.forall_mem_cons.mpr ⟨(mwsX5_viewStrike_0 _ (List.mem_of_getElem? (i := 4) rfl)), (tk_mem 7 _ (fun w h => (mwsX5_viewStrike_1 _ (tkB_mem 11 7 h))) (tk_mem 13 _ (fun w h => (mwsX5_viewStrike_2 _ (tkB_mem 0 13 h))) (fun _ h => absurd h List.not_mem_nil)))⟩)) (by decide +kernel)
set_option maxRecDepth 20000 in
theorem gX5_viewStrike_X5_shows : GoodIn wsX5_viewStrike (wsV RX5 74 RX5 yX5_shows wsX5_shows) := goodIn_app (goodIn_sub (List.forall_mem_cons.mpr ⟨(mwsX5_viewStrike_1 _ (List.mem_of_getElem? (i := 3) rfl)), (List.forall_mem_cons.mpr ⟨(mwsX5_viewStrike_1 _ (List.mem_of_getElem? (i := 4) rfl)), (List.forall_mem_cons.mpr ⟨(mwsX5_viewStrike_1 _ (List.mem_of_getElem? (i := 5) rfl)), (List.forall_mem_cons.mpr ⟨(mwsX5_viewStrike_0 _ (List.mem_of_getElem? (i := 4) rfl)), (fun _ h => absurd h List.not_mem_nil)⟩)⟩)⟩)⟩) (by decide +kernel)) ggX5_viewStrike_X5_shows
set_option maxRecDepth 20000 in
theorem ggX5_viewStrike_X5_set : GoodIn wsX5_viewStrike wsX5_set := goodIn_sub (List.forall_mem_cons.mpr ⟨(mwsX5_viewStrike_1 _ (List.mem_of_getElem? (i := 21) rfl)), (List.forall_mem_cons.mpr ⟨(mwsX5_viewStrike_1 _ (List.mem_of_getElem? (i := 7) rfl)), (List.forall_mem_cons.mpr ⟨(mwsX5_viewStrike_1 _ (List.mem_of_getElem? (i := 1) rfl)), (List.forall_mem_cons.mpr ⟨(mwsX5_viewStrike_1 _ (List.mem_of_getElem? (i := 22) rfl)), (tk_mem 13 _ (fun w h => (mwsX5_viewStrike_2 _ (tkB_mem 0 13 h))) (fun _ h => absurd h List.not_mem_nil))⟩)⟩)⟩)⟩) (by decide +kernel)
set_option maxRecDepth 20000 in
theorem gX5_viewStrike_X5_set : GoodIn wsX5_viewStrike (wsV RX5 132 RX5 yX5_set wsX5_set) := goodIn_app (goodIn_sub (List.forall_mem_cons.mpr ⟨(mwsX5_viewStrike_1 _ (List.mem_of_getElem? (i := 18) rfl)), (List.forall_mem_cons.mpr ⟨(mwsX5_viewStrike_1 _ (List.mem_of_getElem? (i := 19) rfl)), (List.forall_mem_cons.mpr ⟨(mwsX5_viewStrike_1 _ (List.mem_of_getElem? (i := 20) rfl)), (List.forall_mem_cons.mpr ⟨(mwsX5_viewStrike_0 _ (List.mem_of_getElem? (i := 4) rfl)), (fun _ h => absurd h List.not_mem_nil)⟩)⟩)⟩)⟩) (by decide +kernel)) ggX5_viewStrike_X5_set
theorem adX5_viewStrike_0 : fd_rows (cX5_viewStrike.data.toList.drop 0) 0 [(0, some (.aload_n 0), 1), (1, some (.aload_n 0), 1), (2, some (.iload_n 1), 1), (3, some (.invokevirtual 176), 3), (6, some (.iconst 1), 1), (7, some (.invokevirtual 57), 3), (10, some (.ifCond .ne 15), 3), (13, some (.aload_n 0), 1), (14, some (.iload_n 2), 1), (15, some (.invokestatic 60), 3), (18, some (.iconst 2), 1), (19, some (.invokevirtual 45), 3), (22, some (.ifCond .eq 5), 3), (25, some (.iconst 0), 1), (26, some (.ireturn), 1), (27, some (.aload_n 0), 1)] = true := by decide +kernel
theorem adX5_viewStrike_1 : fd_rows (cX5_viewStrike.data.toList.drop 28) 28 [(28, some (.aload_n 0), 1), (29, some (.getfield 22), 3), (32, some (.iload_n 1), 1), (33, some (.aaload), 1), (34, some (.iconst 0), 1), (35, some (.iaload), 1), (36, some (.invokevirtual 142), 3), (39, some (.aload_n 0), 1), (40, some (.aload_n 0), 1), (41, some (.getfield 22), 3), (44, some (.iload_n 1), 1), (45, some (.aaload), 1), (46, some (.iload_n 2), 1), (47, some (.invokevirtual 74), 3), (50, some (.ifCond .eq 22), 3), (53, some (.aload_n 0), 1)] = true := by decide +kernel
theorem adX5_viewStrike_2 : fd_rows (cX5_viewStrike.data.toList.drop 54) 54 [(54, some (.aload_n 0), 1), (55, some (.getfield 22), 3), (58, some (.iload_n 1), 1), (59, some (.aaload), 1), (60, some (.iconst 0), 1), (61, some (.iaload), 1), (62, some (.iload_n 2), 1), (63, some (.sipush (-10000)), 3), (66, some (.invokevirtual 132), 3), (69, some (.goto 6), 3), (72, some (.sipush (-10000)), 3), (75, some (.ireturn), 1)] = true := by decide +kernel
theorem dX5_viewStrike_0 : decode cX5_viewStrike 0 = .ok (.aload_n 0, 1) := fd_get adX5_viewStrike_0 (k := 0) rfl
theorem dX5_viewStrike_1 : decode cX5_viewStrike 1 = .ok (.aload_n 0, 1) := fd_get adX5_viewStrike_0 (k := 1) rfl
theorem dX5_viewStrike_2 : decode cX5_viewStrike 2 = .ok (.iload_n 1, 1) := fd_get adX5_viewStrike_0 (k := 2) rfl
theorem dX5_viewStrike_3 : decode cX5_viewStrike 3 = .ok (.invokevirtual 176, 3) := fd_get adX5_viewStrike_0 (k := 3) rfl
theorem dX5_viewStrike_6 : decode cX5_viewStrike 6 = .ok (.iconst 1, 1) := fd_get adX5_viewStrike_0 (k := 4) rfl
theorem dX5_viewStrike_7 : decode cX5_viewStrike 7 = .ok (.invokevirtual 57, 3) := fd_get adX5_viewStrike_0 (k := 5) rfl
theorem dX5_viewStrike_10 : decode cX5_viewStrike 10 = .ok (.ifCond .ne 15, 3) := fd_get adX5_viewStrike_0 (k := 6) rfl
theorem dX5_viewStrike_13 : decode cX5_viewStrike 13 = .ok (.aload_n 0, 1) := fd_get adX5_viewStrike_0 (k := 7) rfl
theorem dX5_viewStrike_14 : decode cX5_viewStrike 14 = .ok (.iload_n 2, 1) := fd_get adX5_viewStrike_0 (k := 8) rfl
theorem dX5_viewStrike_15 : decode cX5_viewStrike 15 = .ok (.invokestatic 60, 3) := fd_get adX5_viewStrike_0 (k := 9) rfl
theorem dX5_viewStrike_18 : decode cX5_viewStrike 18 = .ok (.iconst 2, 1) := fd_get adX5_viewStrike_0 (k := 10) rfl
theorem dX5_viewStrike_19 : decode cX5_viewStrike 19 = .ok (.invokevirtual 45, 3) := fd_get adX5_viewStrike_0 (k := 11) rfl
theorem dX5_viewStrike_22 : decode cX5_viewStrike 22 = .ok (.ifCond .eq 5, 3) := fd_get adX5_viewStrike_0 (k := 12) rfl
theorem dX5_viewStrike_25 : decode cX5_viewStrike 25 = .ok (.iconst 0, 1) := fd_get adX5_viewStrike_0 (k := 13) rfl
theorem dX5_viewStrike_26 : decode cX5_viewStrike 26 = .ok (.ireturn, 1) := fd_get adX5_viewStrike_0 (k := 14) rfl
theorem dX5_viewStrike_27 : decode cX5_viewStrike 27 = .ok (.aload_n 0, 1) := fd_get adX5_viewStrike_0 (k := 15) rfl
theorem dX5_viewStrike_28 : decode cX5_viewStrike 28 = .ok (.aload_n 0, 1) := fd_get adX5_viewStrike_1 (k := 0) rfl
theorem dX5_viewStrike_29 : decode cX5_viewStrike 29 = .ok (.getfield 22, 3) := fd_get adX5_viewStrike_1 (k := 1) rfl
theorem dX5_viewStrike_32 : decode cX5_viewStrike 32 = .ok (.iload_n 1, 1) := fd_get adX5_viewStrike_1 (k := 2) rfl
theorem dX5_viewStrike_33 : decode cX5_viewStrike 33 = .ok (.aaload, 1) := fd_get adX5_viewStrike_1 (k := 3) rfl
theorem dX5_viewStrike_34 : decode cX5_viewStrike 34 = .ok (.iconst 0, 1) := fd_get adX5_viewStrike_1 (k := 4) rfl
theorem dX5_viewStrike_35 : decode cX5_viewStrike 35 = .ok (.iaload, 1) := fd_get adX5_viewStrike_1 (k := 5) rfl
theorem dX5_viewStrike_36 : decode cX5_viewStrike 36 = .ok (.invokevirtual 142, 3) := fd_get adX5_viewStrike_1 (k := 6) rfl
theorem dX5_viewStrike_39 : decode cX5_viewStrike 39 = .ok (.aload_n 0, 1) := fd_get adX5_viewStrike_1 (k := 7) rfl
theorem dX5_viewStrike_40 : decode cX5_viewStrike 40 = .ok (.aload_n 0, 1) := fd_get adX5_viewStrike_1 (k := 8) rfl
theorem dX5_viewStrike_41 : decode cX5_viewStrike 41 = .ok (.getfield 22, 3) := fd_get adX5_viewStrike_1 (k := 9) rfl
theorem dX5_viewStrike_44 : decode cX5_viewStrike 44 = .ok (.iload_n 1, 1) := fd_get adX5_viewStrike_1 (k := 10) rfl
theorem dX5_viewStrike_45 : decode cX5_viewStrike 45 = .ok (.aaload, 1) := fd_get adX5_viewStrike_1 (k := 11) rfl
theorem dX5_viewStrike_46 : decode cX5_viewStrike 46 = .ok (.iload_n 2, 1) := fd_get adX5_viewStrike_1 (k := 12) rfl
theorem dX5_viewStrike_47 : decode cX5_viewStrike 47 = .ok (.invokevirtual 74, 3) := fd_get adX5_viewStrike_1 (k := 13) rfl
theorem dX5_viewStrike_50 : decode cX5_viewStrike 50 = .ok (.ifCond .eq 22, 3) := fd_get adX5_viewStrike_1 (k := 14) rfl
theorem dX5_viewStrike_53 : decode cX5_viewStrike 53 = .ok (.aload_n 0, 1) := fd_get adX5_viewStrike_1 (k := 15) rfl
theorem dX5_viewStrike_54 : decode cX5_viewStrike 54 = .ok (.aload_n 0, 1) := fd_get adX5_viewStrike_2 (k := 0) rfl
theorem dX5_viewStrike_55 : decode cX5_viewStrike 55 = .ok (.getfield 22, 3) := fd_get adX5_viewStrike_2 (k := 1) rfl
theorem dX5_viewStrike_58 : decode cX5_viewStrike 58 = .ok (.iload_n 1, 1) := fd_get adX5_viewStrike_2 (k := 2) rfl
theorem dX5_viewStrike_59 : decode cX5_viewStrike 59 = .ok (.aaload, 1) := fd_get adX5_viewStrike_2 (k := 3) rfl
theorem dX5_viewStrike_60 : decode cX5_viewStrike 60 = .ok (.iconst 0, 1) := fd_get adX5_viewStrike_2 (k := 4) rfl
theorem dX5_viewStrike_61 : decode cX5_viewStrike 61 = .ok (.iaload, 1) := fd_get adX5_viewStrike_2 (k := 5) rfl
theorem dX5_viewStrike_62 : decode cX5_viewStrike 62 = .ok (.iload_n 2, 1) := fd_get adX5_viewStrike_2 (k := 6) rfl
theorem dX5_viewStrike_63 : decode cX5_viewStrike 63 = .ok (.sipush (-10000), 3) := fd_get adX5_viewStrike_2 (k := 7) rfl
theorem dX5_viewStrike_66 : decode cX5_viewStrike 66 = .ok (.invokevirtual 132, 3) := fd_get adX5_viewStrike_2 (k := 8) rfl
theorem dX5_viewStrike_69 : decode cX5_viewStrike 69 = .ok (.goto 6, 3) := fd_get adX5_viewStrike_2 (k := 9) rfl
theorem dX5_viewStrike_72 : decode cX5_viewStrike 72 = .ok (.sipush (-10000), 3) := fd_get adX5_viewStrike_2 (k := 10) rfl
theorem dX5_viewStrike_75 : decode cX5_viewStrike 75 = .ok (.ireturn, 1) := fd_get adX5_viewStrike_2 (k := 11) rfl
theorem mwsX5_viewMerge_0 : ∀ w ∈ wsX5_viewMerge_r1, w ∈ wsX5_viewMerge := fun w h => (List.mem_cons_of_mem _ (List.mem_append_left _ (List.mem_append_left _ h)))
theorem mwsX5_viewMerge_1 : ∀ w ∈ wsX5_viewMerge_r2, w ∈ wsX5_viewMerge := fun w h => (List.mem_cons_of_mem _ (List.mem_append_left _ (List.mem_append_right _ (List.mem_append_left _ h))))
theorem mwsX5_viewMerge_2 : ∀ w ∈ wsX5_viewMerge_r3, w ∈ wsX5_viewMerge := fun w h => (List.mem_cons_of_mem _ (List.mem_append_left _ (List.mem_append_right _ (List.mem_append_right _ h))))
theorem mwsX5_viewMerge_3 : ∀ w ∈ wsX50, w ∈ wsX5_viewMerge := fun w h => (List.mem_cons_of_mem _ (List.mem_append_right _ h))
set_option maxRecDepth 20000 in
theorem ggX5_viewMerge_X5_isNoView : GoodIn wsX5_viewMerge wsX5_isNoView := goodIn_sub (List.forall_mem_cons.mpr ⟨(mwsX5_viewMerge_0 _ (List.mem_of_getElem? (i := 5) rfl)), (List.forall_mem_cons.mpr ⟨(mwsX5_viewMerge_0 _ (List.mem_of_getElem? (i := 0) rfl)), (List.forall_mem_cons.mpr ⟨(mwsX5_viewMerge_0 _ (List.mem_of_getElem? (i := 6) rfl)), (List.forall_mem_cons.mpr ⟨(mwsX5_viewMerge_0 _ (List.mem_of_getElem? (i := 7) rfl)), (List.forall_mem_cons.mpr ⟨(mwsX5_viewMerge_0 _ (List.mem_of_getElem? (i := 4) rfl)), (List.forall_mem_cons.mpr ⟨(mwsX5_viewMerge_0 _ (List.mem_of_getElem? (i := 8) rfl)), (tk_mem 13 _ (fun w h => (mwsX5_viewMerge_3 _ (tkB_mem 0 13 h))) (fun _ h => absurd h List.not_mem_nil))⟩)⟩)⟩)⟩)⟩)⟩) (by decide +kernel)
set_option maxRecDepth 20000 in
theorem gX5_viewMerge_X5_isNoView : GoodIn wsX5_viewMerge (wsV RX5 176 RX5 yX5_isNoView wsX5_isNoView) := goodIn_app (goodIn_sub (tk_mem 4 _ (fun w h => (mwsX5_viewMerge_0 _ (tkB_mem 1 4 h))) (fun _ h => absurd h List.not_mem_nil)) (by decide +kernel)) ggX5_viewMerge_X5_isNoView
set_option maxRecDepth 20000 in
theorem ggX5_viewMerge_X5_start : GoodIn wsX5_viewMerge wsX5_start := goodIn_sub (tk_mem 5 _ (fun w h => (mwsX5_viewMerge_0 _ (tkB_mem 12 5 h))) (List.forall_mem_cons.mpr ⟨(mwsX5_viewMerge_0 _ (List.mem_of_getElem? (i := 4) rfl)), (List.forall_mem_cons.mpr ⟨(mwsX5_viewMerge_0 _ (List.mem_of_getElem? (i := 17) rfl)), (tk_mem 13 _ (fun w h => (mwsX5_viewMerge_3 _ (tkB_mem 0 13 h))) (fun _ h => absurd h List.not_mem_nil))⟩)⟩)) (by decide +kernel)
set_option maxRecDepth 20000 in
theorem gX5_viewMerge_X5_start : GoodIn wsX5_viewMerge (wsV RX5 57 RX5 yX5_start wsX5_start) := goodIn_app (goodIn_sub (List.forall_mem_cons.mpr ⟨(mwsX5_viewMerge_0 _ (List.mem_of_getElem? (i := 9) rfl)), (List.forall_mem_cons.mpr ⟨(mwsX5_viewMerge_0 _ (List.mem_of_getElem? (i := 10) rfl)), (List.forall_mem_cons.mpr ⟨(mwsX5_viewMerge_0 _ (List.mem_of_getElem? (i := 11) rfl)), (List.forall_mem_cons.mpr ⟨(mwsX5_viewMerge_0 _ (List.mem_of_getElem? (i := 4) rfl)), (fun _ h => absurd h List.not_mem_nil)⟩)⟩)⟩)⟩) (by decide +kernel)) ggX5_viewMerge_X5_start
set_option maxRecDepth 20000 in
theorem ggX5_viewMerge_X5_isNoKey : GoodIn wsX5_viewMerge wsX5_isNoKey := goodIn_sub (List.forall_mem_cons.mpr ⟨(mwsX5_viewMerge_0 _ (List.mem_of_getElem? (i := 20) rfl)), (List.forall_mem_cons.mpr ⟨(mwsX5_viewMerge_0 _ (List.mem_of_getElem? (i := 6) rfl)), (List.forall_mem_cons.mpr ⟨(mwsX5_viewMerge_0 _ (List.mem_of_getElem? (i := 7) rfl)), (List.forall_mem_cons.mpr ⟨(mwsX5_viewMerge_0 _ (List.mem_of_getElem? (i := 4) rfl)), (List.forall_mem_cons.mpr ⟨(mwsX5_viewMerge_0 _ (List.mem_of_getElem? (i := 8) rfl)), (fun _ h => absurd h List.not_mem_nil)⟩)⟩)⟩)⟩)⟩) (by decide +kernel)
set_option maxRecDepth 20000 in
theorem gX5_viewMerge_X5_isNoKey : GoodIn wsX5_viewMerge (va_wsS RX5 60 yX5_isNoKey wsX5_isNoKey) := goodIn_app (goodIn_sub (List.forall_mem_cons.mpr ⟨(mwsX5_viewMerge_0 _ (List.mem_of_getElem? (i := 18) rfl)), (List.forall_mem_cons.mpr ⟨(mwsX5_viewMerge_0 _ (List.mem_of_getElem? (i := 19) rfl)), (List.forall_mem_cons.mpr ⟨(mwsX5_viewMerge_0 _ (List.mem_of_getElem? (i := 4) rfl)), (fun _ h => absurd h List.not_mem_nil)⟩)⟩)⟩) (by decide +kernel)) ggX5_viewMerge_X5_isNoKey
set_option maxRecDepth 20000 in
theorem ggX5_viewMerge_X5_isNoValue : GoodIn wsX5_viewMerge wsX5_isNoValue := goodIn_sub (List.forall_mem_cons.mpr ⟨(mwsX5_viewMerge_0 _ (List.mem_of_getElem? (i := 23) rfl)), (List.forall_mem_cons.mpr ⟨(mwsX5_viewMerge_0 _ (List.mem_of_getElem? (i := 6) rfl)), (List.forall_mem_cons.mpr ⟨(mwsX5_viewMerge_0 _ (List.mem_of_getElem? (i := 7) rfl)), (List.forall_mem_cons.mpr ⟨(mwsX5_viewMerge_0 _ (List.mem_of_getElem? (i := 4) rfl)), (List.forall_mem_cons.mpr ⟨(mwsX5_viewMerge_0 _ (List.mem_of_getElem? (i := 8) rfl)), (fun _ h => absurd h List.not_mem_nil)⟩)⟩)⟩)⟩)⟩) (by decide +kernel)
set_option maxRecDepth 20000 in
theorem gX5_viewMerge_X5_isNoValue : GoodIn wsX5_viewMerge (va_wsS RX5 63 yX5_isNoValue wsX5_isNoValue) := goodIn_app (goodIn_sub (List.forall_mem_cons.mpr ⟨(mwsX5_viewMerge_0 _ (List.mem_of_getElem? (i := 21) rfl)), (List.forall_mem_cons.mpr ⟨(mwsX5_viewMerge_0 _ (List.mem_of_getElem? (i := 22) rfl)), (List.forall_mem_cons.mpr ⟨(mwsX5_viewMerge_0 _ (List.mem_of_getElem? (i := 4) rfl)), (fun _ h => absurd h List.not_mem_nil)⟩)⟩)⟩) (by decide +kernel)) ggX5_viewMerge_X5_isNoValue
set_option maxRecDepth 20000 in
theorem ggX5_viewMerge_X5_refuse : GoodIn wsX5_viewMerge wsX5_refuse := goodIn_sub (List.forall_mem_cons.mpr ⟨(mwsX5_viewMerge_0 _ (List.mem_of_getElem? (i := 17) rfl)), (List.forall_mem_cons.mpr ⟨(mwsX5_viewMerge_0 _ (List.mem_of_getElem? (i := 13) rfl)), (tk_mem 13 _ (fun w h => (mwsX5_viewMerge_3 _ (tkB_mem 0 13 h))) (fun _ h => absurd h List.not_mem_nil))⟩)⟩) (by decide +kernel)
set_option maxRecDepth 20000 in
theorem gX5_viewMerge_X5_refuse : GoodIn wsX5_viewMerge (wsV RX5 45 RX5 yX5_refuse wsX5_refuse) := goodIn_app (goodIn_sub (List.forall_mem_cons.mpr ⟨(mwsX5_viewMerge_0 _ (List.mem_of_getElem? (i := 14) rfl)), (List.forall_mem_cons.mpr ⟨(mwsX5_viewMerge_0 _ (List.mem_of_getElem? (i := 15) rfl)), (List.forall_mem_cons.mpr ⟨(mwsX5_viewMerge_0 _ (List.mem_of_getElem? (i := 16) rfl)), (List.forall_mem_cons.mpr ⟨(mwsX5_viewMerge_0 _ (List.mem_of_getElem? (i := 4) rfl)), (fun _ h => absurd h List.not_mem_nil)⟩)⟩)⟩)⟩) (by decide +kernel)) ggX5_viewMerge_X5_refuse
set_option maxRecDepth 20000 in
theorem ggX5_viewMerge_X5_touch : GoodIn wsX5_viewMerge wsX5_touch := goodIn_sub (List.forall_mem_cons.mpr ⟨(mwsX5_viewMerge_1 _ (List.mem_of_getElem? (i := 3) rfl)), (List.forall_mem_cons.mpr ⟨(mwsX5_viewMerge_1 _ (List.mem_of_getElem? (i := 4) rfl)), (List.forall_mem_cons.mpr ⟨(mwsX5_viewMerge_1 _ (List.mem_of_getElem? (i := 5) rfl)), (tk_mem 13 _ (fun w h => (mwsX5_viewMerge_3 _ (tkB_mem 0 13 h))) (fun _ h => absurd h List.not_mem_nil))⟩)⟩)⟩) (by decide +kernel)
set_option maxRecDepth 20000 in
theorem gX5_viewMerge_X5_touch : GoodIn wsX5_viewMerge (wsV RX5 142 RX5 yX5_touch wsX5_touch) := goodIn_app (goodIn_sub (List.forall_mem_cons.mpr ⟨(mwsX5_viewMerge_1 _ (List.mem_of_getElem? (i := 0) rfl)), (List.forall_mem_cons.mpr ⟨(mwsX5_viewMerge_1 _ (List.mem_of_getElem? (i := 1) rfl)), (List.forall_mem_cons.mpr ⟨(mwsX5_viewMerge_1 _ (List.mem_of_getElem? (i := 2) rfl)), (List.forall_mem_cons.mpr ⟨(mwsX5_viewMerge_0 _ (List.mem_of_getElem? (i := 4) rfl)), (fun _ h => absurd h List.not_mem_nil)⟩)⟩)⟩)⟩) (by decide +kernel)) ggX5_viewMerge_X5_touch
set_option maxRecDepth 20000 in
theorem ggX5_viewMerge_X5_isWithin : GoodIn wsX5_viewMerge wsX5_isWithin := goodIn_sub (tk_mem 4 _ (fun w h => (mwsX5_viewMerge_1 _ (tkB_mem 9 4 h))) (List.forall_mem_cons.mpr ⟨(mwsX5_viewMerge_0 _ (List.mem_of_getElem? (i := 4) rfl)), (List.forall_mem_cons.mpr ⟨(mwsX5_viewMerge_1 _ (List.mem_of_getElem? (i := 13) rfl)), (List.forall_mem_cons.mpr ⟨(mwsX5_viewMerge_1 _ (List.mem_of_getElem? (i := 14) rfl)), (List.forall_mem_cons.mpr ⟨(mwsX5_viewMerge_1 _ (List.mem_of_getElem? (i := 15) rfl)), (tk_mem 13 _ (fun w h => (mwsX5_viewMerge_3 _ (tkB_mem 0 13 h))) (fun _ h => absurd h List.not_mem_nil))⟩)⟩)⟩)⟩)) (by decide +kernel)
set_option maxRecDepth 20000 in
theorem gX5_viewMerge_X5_isWithin : GoodIn wsX5_viewMerge (wsV RX5 70 RX5 yX5_isWithin wsX5_isWithin) := goodIn_app (goodIn_sub (List.forall_mem_cons.mpr ⟨(mwsX5_viewMerge_1 _ (List.mem_of_getElem? (i := 6) rfl)), (List.forall_mem_cons.mpr ⟨(mwsX5_viewMerge_1 _ (List.mem_of_getElem? (i := 7) rfl)), (List.forall_mem_cons.mpr ⟨(mwsX5_viewMerge_1 _ (List.mem_of_getElem? (i := 8) rfl)), (List.forall_mem_cons.mpr ⟨(mwsX5_viewMerge_0 _ (List.mem_of_getElem? (i := 4) rfl)), (fun _ h => absurd h List.not_mem_nil)⟩)⟩)⟩)⟩) (by decide +kernel)) ggX5_viewMerge_X5_isWithin
set_option maxRecDepth 20000 in
theorem ggX5_viewMerge_X5_mergeOf : GoodIn wsX5_viewMerge wsX5_mergeOf := goodIn_sub (tk_mem 4 _ (fun w h => (mwsX5_viewMerge_1 _ (tkB_mem 19 4 h))) (List.forall_mem_cons.mpr ⟨(mwsX5_viewMerge_0 _ (List.mem_of_getElem? (i := 4) rfl)), (List.forall_mem_cons.mpr ⟨(mwsX5_viewMerge_1 _ (List.mem_of_getElem? (i := 23) rfl)), (tk_mem 4 _ (fun w h => (mwsX5_viewMerge_2 _ (tkB_mem 0 4 h))) (List.forall_mem_cons.mpr ⟨(mwsX5_viewMerge_1 _ (List.mem_of_getElem? (i := 4) rfl)), (List.forall_mem_cons.mpr ⟨(mwsX5_viewMerge_2 _ (List.mem_of_getElem? (i := 4) rfl)), (tk_mem 13 _ (fun w h => (mwsX5_viewMerge_3 _ (tkB_mem 0 13 h))) (fun _ h => absurd h List.not_mem_nil))⟩)⟩))⟩)⟩)) (by decide +kernel)
set_option maxRecDepth 20000 in
theorem gX5_viewMerge_X5_mergeOf : GoodIn wsX5_viewMerge (wsV RX5 149 RX5 yX5_mergeOf wsX5_mergeOf) := goodIn_app (goodIn_sub (List.forall_mem_cons.mpr ⟨(mwsX5_viewMerge_1 _ (List.mem_of_getElem? (i := 16) rfl)), (List.forall_mem_cons.mpr ⟨(mwsX5_viewMerge_1 _ (List.mem_of_getElem? (i := 17) rfl)), (List.forall_mem_cons.mpr ⟨(mwsX5_viewMerge_1 _ (List.mem_of_getElem? (i := 18) rfl)), (List.forall_mem_cons.mpr ⟨(mwsX5_viewMerge_0 _ (List.mem_of_getElem? (i := 4) rfl)), (fun _ h => absurd h List.not_mem_nil)⟩)⟩)⟩)⟩) (by decide +kernel)) ggX5_viewMerge_X5_mergeOf
theorem adX5_viewMerge_0 : fd_rows (cX5_viewMerge.data.toList.drop 0) 0 [(0, some (.aload_n 0), 1), (1, some (.aload_n 0), 1), (2, some (.iload_n 1), 1), (3, some (.invokevirtual 176), 3), (6, some (.iconst 1), 1), (7, some (.invokevirtual 57), 3), (10, some (.ifCond .ne 30), 3), (13, some (.aload_n 0), 1), (14, some (.iload_n 2), 1), (15, some (.invokestatic 60), 3), (18, some (.ifCond .ne 10), 3), (21, some (.iload_n 3), 1), (22, some (.invokestatic 63), 3), (25, some (.ifCond .eq 7), 3), (28, some (.iconst 1), 1), (29, some (.goto 4), 3)] = true := by decide +kernel
theorem adX5_viewMerge_1 : fd_rows (cX5_viewMerge.data.toList.drop 32) 32 [(32, some (.iconst 0), 1), (33, some (.iconst 2), 1), (34, some (.invokevirtual 45), 3), (37, some (.ifCond .eq 5), 3), (40, some (.iconst 0), 1), (41, some (.ireturn), 1), (42, some (.aload_n 0), 1), (43, some (.aload_n 0), 1), (44, some (.getfield 22), 3), (47, some (.iload_n 1), 1), (48, some (.aaload), 1), (49, some (.iconst 0), 1), (50, some (.iaload), 1), (51, some (.invokevirtual 142), 3), (54, some (.aload_n 0), 1), (55, some (.aload_n 0), 1)] = true := by decide +kernel
theorem adX5_viewMerge_2 : fd_rows (cX5_viewMerge.data.toList.drop 56) 56 [(56, some (.getfield 22), 3), (59, some (.iload_n 1), 1), (60, some (.aaload), 1), (61, some (.iload_n 2), 1), (62, some (.invokevirtual 70), 3), (65, some (.ifCond .eq 20), 3), (68, some (.aload_n 0), 1), (69, some (.aload_n 0), 1), (70, some (.getfield 22), 3), (73, some (.iload_n 1), 1), (74, some (.aaload), 1), (75, some (.iconst 0), 1), (76, some (.iaload), 1), (77, some (.iload_n 2), 1), (78, some (.iload_n 3), 1), (79, some (.invokevirtual 149), 3)] = true := by decide +kernel
theorem adX5_viewMerge_3 : fd_rows (cX5_viewMerge.data.toList.drop 82) 82 [(82, some (.goto 6), 3), (85, some (.sipush (-20000)), 3), (88, some (.ireturn), 1)] = true := by decide +kernel
theorem dX5_viewMerge_0 : decode cX5_viewMerge 0 = .ok (.aload_n 0, 1) := fd_get adX5_viewMerge_0 (k := 0) rfl
theorem dX5_viewMerge_1 : decode cX5_viewMerge 1 = .ok (.aload_n 0, 1) := fd_get adX5_viewMerge_0 (k := 1) rfl
theorem dX5_viewMerge_2 : decode cX5_viewMerge 2 = .ok (.iload_n 1, 1) := fd_get adX5_viewMerge_0 (k := 2) rfl
theorem dX5_viewMerge_3 : decode cX5_viewMerge 3 = .ok (.invokevirtual 176, 3) := fd_get adX5_viewMerge_0 (k := 3) rfl
theorem dX5_viewMerge_6 : decode cX5_viewMerge 6 = .ok (.iconst 1, 1) := fd_get adX5_viewMerge_0 (k := 4) rfl
theorem dX5_viewMerge_7 : decode cX5_viewMerge 7 = .ok (.invokevirtual 57, 3) := fd_get adX5_viewMerge_0 (k := 5) rfl
theorem dX5_viewMerge_10 : decode cX5_viewMerge 10 = .ok (.ifCond .ne 30, 3) := fd_get adX5_viewMerge_0 (k := 6) rfl
theorem dX5_viewMerge_13 : decode cX5_viewMerge 13 = .ok (.aload_n 0, 1) := fd_get adX5_viewMerge_0 (k := 7) rfl
theorem dX5_viewMerge_14 : decode cX5_viewMerge 14 = .ok (.iload_n 2, 1) := fd_get adX5_viewMerge_0 (k := 8) rfl
theorem dX5_viewMerge_15 : decode cX5_viewMerge 15 = .ok (.invokestatic 60, 3) := fd_get adX5_viewMerge_0 (k := 9) rfl
theorem dX5_viewMerge_18 : decode cX5_viewMerge 18 = .ok (.ifCond .ne 10, 3) := fd_get adX5_viewMerge_0 (k := 10) rfl
theorem dX5_viewMerge_21 : decode cX5_viewMerge 21 = .ok (.iload_n 3, 1) := fd_get adX5_viewMerge_0 (k := 11) rfl
theorem dX5_viewMerge_22 : decode cX5_viewMerge 22 = .ok (.invokestatic 63, 3) := fd_get adX5_viewMerge_0 (k := 12) rfl
theorem dX5_viewMerge_25 : decode cX5_viewMerge 25 = .ok (.ifCond .eq 7, 3) := fd_get adX5_viewMerge_0 (k := 13) rfl
theorem dX5_viewMerge_28 : decode cX5_viewMerge 28 = .ok (.iconst 1, 1) := fd_get adX5_viewMerge_0 (k := 14) rfl
theorem dX5_viewMerge_29 : decode cX5_viewMerge 29 = .ok (.goto 4, 3) := fd_get adX5_viewMerge_0 (k := 15) rfl
theorem dX5_viewMerge_32 : decode cX5_viewMerge 32 = .ok (.iconst 0, 1) := fd_get adX5_viewMerge_1 (k := 0) rfl
theorem dX5_viewMerge_33 : decode cX5_viewMerge 33 = .ok (.iconst 2, 1) := fd_get adX5_viewMerge_1 (k := 1) rfl
theorem dX5_viewMerge_34 : decode cX5_viewMerge 34 = .ok (.invokevirtual 45, 3) := fd_get adX5_viewMerge_1 (k := 2) rfl
theorem dX5_viewMerge_37 : decode cX5_viewMerge 37 = .ok (.ifCond .eq 5, 3) := fd_get adX5_viewMerge_1 (k := 3) rfl
theorem dX5_viewMerge_40 : decode cX5_viewMerge 40 = .ok (.iconst 0, 1) := fd_get adX5_viewMerge_1 (k := 4) rfl
theorem dX5_viewMerge_41 : decode cX5_viewMerge 41 = .ok (.ireturn, 1) := fd_get adX5_viewMerge_1 (k := 5) rfl
theorem dX5_viewMerge_42 : decode cX5_viewMerge 42 = .ok (.aload_n 0, 1) := fd_get adX5_viewMerge_1 (k := 6) rfl
theorem dX5_viewMerge_43 : decode cX5_viewMerge 43 = .ok (.aload_n 0, 1) := fd_get adX5_viewMerge_1 (k := 7) rfl
theorem dX5_viewMerge_44 : decode cX5_viewMerge 44 = .ok (.getfield 22, 3) := fd_get adX5_viewMerge_1 (k := 8) rfl
theorem dX5_viewMerge_47 : decode cX5_viewMerge 47 = .ok (.iload_n 1, 1) := fd_get adX5_viewMerge_1 (k := 9) rfl
theorem dX5_viewMerge_48 : decode cX5_viewMerge 48 = .ok (.aaload, 1) := fd_get adX5_viewMerge_1 (k := 10) rfl
theorem dX5_viewMerge_49 : decode cX5_viewMerge 49 = .ok (.iconst 0, 1) := fd_get adX5_viewMerge_1 (k := 11) rfl
theorem dX5_viewMerge_50 : decode cX5_viewMerge 50 = .ok (.iaload, 1) := fd_get adX5_viewMerge_1 (k := 12) rfl
theorem dX5_viewMerge_51 : decode cX5_viewMerge 51 = .ok (.invokevirtual 142, 3) := fd_get adX5_viewMerge_1 (k := 13) rfl
theorem dX5_viewMerge_54 : decode cX5_viewMerge 54 = .ok (.aload_n 0, 1) := fd_get adX5_viewMerge_1 (k := 14) rfl
theorem dX5_viewMerge_55 : decode cX5_viewMerge 55 = .ok (.aload_n 0, 1) := fd_get adX5_viewMerge_1 (k := 15) rfl
theorem dX5_viewMerge_56 : decode cX5_viewMerge 56 = .ok (.getfield 22, 3) := fd_get adX5_viewMerge_2 (k := 0) rfl
theorem dX5_viewMerge_59 : decode cX5_viewMerge 59 = .ok (.iload_n 1, 1) := fd_get adX5_viewMerge_2 (k := 1) rfl
theorem dX5_viewMerge_60 : decode cX5_viewMerge 60 = .ok (.aaload, 1) := fd_get adX5_viewMerge_2 (k := 2) rfl
theorem dX5_viewMerge_61 : decode cX5_viewMerge 61 = .ok (.iload_n 2, 1) := fd_get adX5_viewMerge_2 (k := 3) rfl
theorem dX5_viewMerge_62 : decode cX5_viewMerge 62 = .ok (.invokevirtual 70, 3) := fd_get adX5_viewMerge_2 (k := 4) rfl
theorem dX5_viewMerge_65 : decode cX5_viewMerge 65 = .ok (.ifCond .eq 20, 3) := fd_get adX5_viewMerge_2 (k := 5) rfl
theorem dX5_viewMerge_68 : decode cX5_viewMerge 68 = .ok (.aload_n 0, 1) := fd_get adX5_viewMerge_2 (k := 6) rfl
theorem dX5_viewMerge_69 : decode cX5_viewMerge 69 = .ok (.aload_n 0, 1) := fd_get adX5_viewMerge_2 (k := 7) rfl
theorem dX5_viewMerge_70 : decode cX5_viewMerge 70 = .ok (.getfield 22, 3) := fd_get adX5_viewMerge_2 (k := 8) rfl
theorem dX5_viewMerge_73 : decode cX5_viewMerge 73 = .ok (.iload_n 1, 1) := fd_get adX5_viewMerge_2 (k := 9) rfl
theorem dX5_viewMerge_74 : decode cX5_viewMerge 74 = .ok (.aaload, 1) := fd_get adX5_viewMerge_2 (k := 10) rfl
theorem dX5_viewMerge_75 : decode cX5_viewMerge 75 = .ok (.iconst 0, 1) := fd_get adX5_viewMerge_2 (k := 11) rfl
theorem dX5_viewMerge_76 : decode cX5_viewMerge 76 = .ok (.iaload, 1) := fd_get adX5_viewMerge_2 (k := 12) rfl
theorem dX5_viewMerge_77 : decode cX5_viewMerge 77 = .ok (.iload_n 2, 1) := fd_get adX5_viewMerge_2 (k := 13) rfl
theorem dX5_viewMerge_78 : decode cX5_viewMerge 78 = .ok (.iload_n 3, 1) := fd_get adX5_viewMerge_2 (k := 14) rfl
theorem dX5_viewMerge_79 : decode cX5_viewMerge 79 = .ok (.invokevirtual 149, 3) := fd_get adX5_viewMerge_2 (k := 15) rfl
theorem dX5_viewMerge_82 : decode cX5_viewMerge 82 = .ok (.goto 6, 3) := fd_get adX5_viewMerge_3 (k := 0) rfl
theorem dX5_viewMerge_85 : decode cX5_viewMerge 85 = .ok (.sipush (-20000), 3) := fd_get adX5_viewMerge_3 (k := 1) rfl
theorem dX5_viewMerge_88 : decode cX5_viewMerge 88 = .ok (.ireturn, 1) := fd_get adX5_viewMerge_3 (k := 2) rfl
theorem mwsX5_viewPoll_0 : ∀ w ∈ wsX5_viewPoll_r1, w ∈ wsX5_viewPoll := fun w h => (List.mem_cons_of_mem _ (List.mem_append_left _ (List.mem_append_left _ h)))
theorem mwsX5_viewPoll_1 : ∀ w ∈ wsX5_viewPoll_r2, w ∈ wsX5_viewPoll := fun w h => (List.mem_cons_of_mem _ (List.mem_append_left _ (List.mem_append_right _ (List.mem_append_left _ h))))
theorem mwsX5_viewPoll_2 : ∀ w ∈ wsX5_viewPoll_r3, w ∈ wsX5_viewPoll := fun w h => (List.mem_cons_of_mem _ (List.mem_append_left _ (List.mem_append_right _ (List.mem_append_right _ h))))
theorem mwsX5_viewPoll_3 : ∀ w ∈ wsX50, w ∈ wsX5_viewPoll := fun w h => (List.mem_cons_of_mem _ (List.mem_append_right _ h))
set_option maxRecDepth 20000 in
theorem ggX5_viewPoll_X5_isNoView : GoodIn wsX5_viewPoll wsX5_isNoView := goodIn_sub (List.forall_mem_cons.mpr ⟨(mwsX5_viewPoll_0 _ (List.mem_of_getElem? (i := 5) rfl)), (List.forall_mem_cons.mpr ⟨(mwsX5_viewPoll_0 _ (List.mem_of_getElem? (i := 0) rfl)), (List.forall_mem_cons.mpr ⟨(mwsX5_viewPoll_0 _ (List.mem_of_getElem? (i := 6) rfl)), (List.forall_mem_cons.mpr ⟨(mwsX5_viewPoll_0 _ (List.mem_of_getElem? (i := 7) rfl)), (List.forall_mem_cons.mpr ⟨(mwsX5_viewPoll_0 _ (List.mem_of_getElem? (i := 4) rfl)), (List.forall_mem_cons.mpr ⟨(mwsX5_viewPoll_0 _ (List.mem_of_getElem? (i := 8) rfl)), (tk_mem 13 _ (fun w h => (mwsX5_viewPoll_3 _ (tkB_mem 0 13 h))) (fun _ h => absurd h List.not_mem_nil))⟩)⟩)⟩)⟩)⟩)⟩) (by decide +kernel)
set_option maxRecDepth 20000 in
theorem gX5_viewPoll_X5_isNoView : GoodIn wsX5_viewPoll (wsV RX5 176 RX5 yX5_isNoView wsX5_isNoView) := goodIn_app (goodIn_sub (tk_mem 4 _ (fun w h => (mwsX5_viewPoll_0 _ (tkB_mem 1 4 h))) (fun _ h => absurd h List.not_mem_nil)) (by decide +kernel)) ggX5_viewPoll_X5_isNoView
set_option maxRecDepth 20000 in
theorem ggX5_viewPoll_X5_start : GoodIn wsX5_viewPoll wsX5_start := goodIn_sub (tk_mem 5 _ (fun w h => (mwsX5_viewPoll_0 _ (tkB_mem 12 5 h))) (List.forall_mem_cons.mpr ⟨(mwsX5_viewPoll_0 _ (List.mem_of_getElem? (i := 4) rfl)), (List.forall_mem_cons.mpr ⟨(mwsX5_viewPoll_0 _ (List.mem_of_getElem? (i := 17) rfl)), (tk_mem 13 _ (fun w h => (mwsX5_viewPoll_3 _ (tkB_mem 0 13 h))) (fun _ h => absurd h List.not_mem_nil))⟩)⟩)) (by decide +kernel)
set_option maxRecDepth 20000 in
theorem gX5_viewPoll_X5_start : GoodIn wsX5_viewPoll (wsV RX5 57 RX5 yX5_start wsX5_start) := goodIn_app (goodIn_sub (List.forall_mem_cons.mpr ⟨(mwsX5_viewPoll_0 _ (List.mem_of_getElem? (i := 9) rfl)), (List.forall_mem_cons.mpr ⟨(mwsX5_viewPoll_0 _ (List.mem_of_getElem? (i := 10) rfl)), (List.forall_mem_cons.mpr ⟨(mwsX5_viewPoll_0 _ (List.mem_of_getElem? (i := 11) rfl)), (List.forall_mem_cons.mpr ⟨(mwsX5_viewPoll_0 _ (List.mem_of_getElem? (i := 4) rfl)), (fun _ h => absurd h List.not_mem_nil)⟩)⟩)⟩)⟩) (by decide +kernel)) ggX5_viewPoll_X5_start
set_option maxRecDepth 20000 in
theorem ggX5_viewPoll_X5_touch : GoodIn wsX5_viewPoll wsX5_touch := goodIn_sub (List.forall_mem_cons.mpr ⟨(mwsX5_viewPoll_0 _ (List.mem_of_getElem? (i := 21) rfl)), (List.forall_mem_cons.mpr ⟨(mwsX5_viewPoll_0 _ (List.mem_of_getElem? (i := 22) rfl)), (List.forall_mem_cons.mpr ⟨(mwsX5_viewPoll_0 _ (List.mem_of_getElem? (i := 23) rfl)), (tk_mem 13 _ (fun w h => (mwsX5_viewPoll_3 _ (tkB_mem 0 13 h))) (fun _ h => absurd h List.not_mem_nil))⟩)⟩)⟩) (by decide +kernel)
set_option maxRecDepth 20000 in
theorem gX5_viewPoll_X5_touch : GoodIn wsX5_viewPoll (wsV RX5 142 RX5 yX5_touch wsX5_touch) := goodIn_app (goodIn_sub (List.forall_mem_cons.mpr ⟨(mwsX5_viewPoll_0 _ (List.mem_of_getElem? (i := 18) rfl)), (List.forall_mem_cons.mpr ⟨(mwsX5_viewPoll_0 _ (List.mem_of_getElem? (i := 19) rfl)), (List.forall_mem_cons.mpr ⟨(mwsX5_viewPoll_0 _ (List.mem_of_getElem? (i := 20) rfl)), (List.forall_mem_cons.mpr ⟨(mwsX5_viewPoll_0 _ (List.mem_of_getElem? (i := 4) rfl)), (fun _ h => absurd h List.not_mem_nil)⟩)⟩)⟩)⟩) (by decide +kernel)) ggX5_viewPoll_X5_touch
set_option maxRecDepth 20000 in
theorem ggX5_viewPoll_X5_end : GoodIn wsX5_viewPoll wsX5_end := goodIn_sub (tk_mem 4 _ (fun w h => (mwsX5_viewPoll_1 _ (tkB_mem 3 4 h))) (List.forall_mem_cons.mpr ⟨(mwsX5_viewPoll_0 _ (List.mem_of_getElem? (i := 4) rfl)), (tk_mem 16 _ (fun w h => (mwsX5_viewPoll_1 _ (tkB_mem 7 16 h))) (tk_mem 13 _ (fun w h => (mwsX5_viewPoll_3 _ (tkB_mem 0 13 h))) (fun _ h => absurd h List.not_mem_nil)))⟩)) (by decide +kernel)
set_option maxRecDepth 20000 in
theorem gX5_viewPoll_X5_end : GoodIn wsX5_viewPoll (wsV RX5 96 RX5 yX5_end wsX5_end) := goodIn_app (goodIn_sub (List.forall_mem_cons.mpr ⟨(mwsX5_viewPoll_1 _ (List.mem_of_getElem? (i := 0) rfl)), (List.forall_mem_cons.mpr ⟨(mwsX5_viewPoll_1 _ (List.mem_of_getElem? (i := 1) rfl)), (List.forall_mem_cons.mpr ⟨(mwsX5_viewPoll_1 _ (List.mem_of_getElem? (i := 2) rfl)), (List.forall_mem_cons.mpr ⟨(mwsX5_viewPoll_0 _ (List.mem_of_getElem? (i := 4) rfl)), (fun _ h => absurd h List.not_mem_nil)⟩)⟩)⟩)⟩) (by decide +kernel)) ggX5_viewPoll_X5_end
set_option maxRecDepth 20000 in
theorem ggX5_viewPoll_X5_set : GoodIn wsX5_viewPoll wsX5_set := goodIn_sub (List.forall_mem_cons.mpr ⟨(mwsX5_viewPoll_2 _ (List.mem_of_getElem? (i := 2) rfl)), (List.forall_mem_cons.mpr ⟨(mwsX5_viewPoll_1 _ (List.mem_of_getElem? (i := 12) rfl)), (List.forall_mem_cons.mpr ⟨(mwsX5_viewPoll_0 _ (List.mem_of_getElem? (i := 22) rfl)), (List.forall_mem_cons.mpr ⟨(mwsX5_viewPoll_2 _ (List.mem_of_getElem? (i := 3) rfl)), (tk_mem 13 _ (fun w h => (mwsX5_viewPoll_3 _ (tkB_mem 0 13 h))) (fun _ h => absurd h List.not_mem_nil))⟩)⟩)⟩)⟩) (by decide +kernel)
set_option maxRecDepth 20000 in
theorem gX5_viewPoll_X5_set : GoodIn wsX5_viewPoll (wsV RX5 132 RX5 yX5_set wsX5_set) := goodIn_app (goodIn_sub (List.forall_mem_cons.mpr ⟨(mwsX5_viewPoll_1 _ (List.mem_of_getElem? (i := 23) rfl)), (List.forall_mem_cons.mpr ⟨(mwsX5_viewPoll_2 _ (List.mem_of_getElem? (i := 0) rfl)), (List.forall_mem_cons.mpr ⟨(mwsX5_viewPoll_2 _ (List.mem_of_getElem? (i := 1) rfl)), (List.forall_mem_cons.mpr ⟨(mwsX5_viewPoll_0 _ (List.mem_of_getElem? (i := 4) rfl)), (fun _ h => absurd h List.not_mem_nil)⟩)⟩)⟩)⟩) (by decide +kernel)) ggX5_viewPoll_X5_set
theorem adX5_viewPoll_0 : fd_rows (cX5_viewPoll.data.toList.drop 0) 0 [(0, some (.aload_n 0), 1), (1, some (.aload_n 0), 1), (2, some (.iload_n 1), 1), (3, some (.invokevirtual 176), 3), (6, some (.iconst 1), 1), (7, some (.invokevirtual 57), 3), (10, some (.ifCond .eq 5), 3), (13, some (.iconst 0), 1), (14, some (.ireturn), 1), (15, some (.aload_n 0), 1), (16, some (.aload_n 0), 1), (17, some (.getfield 22), 3), (20, some (.iload_n 1), 1), (21, some (.aaload), 1), (22, some (.iconst 0), 1), (23, some (.iaload), 1)] = true := by decide +kernel
theorem adX5_viewPoll_1 : fd_rows (cX5_viewPoll.data.toList.drop 24) 24 [(24, some (.invokevirtual 142), 3), (27, some (.aload_n 0), 1), (28, some (.aload_n 0), 1), (29, some (.getfield 22), 3), (32, some (.iload_n 1), 1), (33, some (.aaload), 1), (34, some (.iload_n 2), 1), (35, some (.invokevirtual 96), 3), (38, some (.istore_n 3), 1), (39, some (.iload_n 3), 1), (40, some (.sipush (-10000)), 3), (43, some (.if_icmp .eq 20), 3), (46, some (.aload_n 0), 1), (47, some (.aload_n 0), 1), (48, some (.getfield 22), 3), (51, some (.iload_n 1), 1)] = true := by decide +kernel
theorem adX5_viewPoll_2 : fd_rows (cX5_viewPoll.data.toList.drop 52) 52 [(52, some (.aaload), 1), (53, some (.iconst 0), 1), (54, some (.iaload), 1), (55, some (.iload_n 3), 1), (56, some (.sipush (-10000)), 3), (59, some (.invokevirtual 132), 3), (62, some (.pop), 1), (63, some (.iload_n 3), 1), (64, some (.ireturn), 1)] = true := by decide +kernel
theorem dX5_viewPoll_0 : decode cX5_viewPoll 0 = .ok (.aload_n 0, 1) := fd_get adX5_viewPoll_0 (k := 0) rfl
theorem dX5_viewPoll_1 : decode cX5_viewPoll 1 = .ok (.aload_n 0, 1) := fd_get adX5_viewPoll_0 (k := 1) rfl
theorem dX5_viewPoll_2 : decode cX5_viewPoll 2 = .ok (.iload_n 1, 1) := fd_get adX5_viewPoll_0 (k := 2) rfl
theorem dX5_viewPoll_3 : decode cX5_viewPoll 3 = .ok (.invokevirtual 176, 3) := fd_get adX5_viewPoll_0 (k := 3) rfl
theorem dX5_viewPoll_6 : decode cX5_viewPoll 6 = .ok (.iconst 1, 1) := fd_get adX5_viewPoll_0 (k := 4) rfl
theorem dX5_viewPoll_7 : decode cX5_viewPoll 7 = .ok (.invokevirtual 57, 3) := fd_get adX5_viewPoll_0 (k := 5) rfl
theorem dX5_viewPoll_10 : decode cX5_viewPoll 10 = .ok (.ifCond .eq 5, 3) := fd_get adX5_viewPoll_0 (k := 6) rfl
theorem dX5_viewPoll_13 : decode cX5_viewPoll 13 = .ok (.iconst 0, 1) := fd_get adX5_viewPoll_0 (k := 7) rfl
theorem dX5_viewPoll_14 : decode cX5_viewPoll 14 = .ok (.ireturn, 1) := fd_get adX5_viewPoll_0 (k := 8) rfl
theorem dX5_viewPoll_15 : decode cX5_viewPoll 15 = .ok (.aload_n 0, 1) := fd_get adX5_viewPoll_0 (k := 9) rfl
theorem dX5_viewPoll_16 : decode cX5_viewPoll 16 = .ok (.aload_n 0, 1) := fd_get adX5_viewPoll_0 (k := 10) rfl
theorem dX5_viewPoll_17 : decode cX5_viewPoll 17 = .ok (.getfield 22, 3) := fd_get adX5_viewPoll_0 (k := 11) rfl
theorem dX5_viewPoll_20 : decode cX5_viewPoll 20 = .ok (.iload_n 1, 1) := fd_get adX5_viewPoll_0 (k := 12) rfl
theorem dX5_viewPoll_21 : decode cX5_viewPoll 21 = .ok (.aaload, 1) := fd_get adX5_viewPoll_0 (k := 13) rfl
theorem dX5_viewPoll_22 : decode cX5_viewPoll 22 = .ok (.iconst 0, 1) := fd_get adX5_viewPoll_0 (k := 14) rfl
theorem dX5_viewPoll_23 : decode cX5_viewPoll 23 = .ok (.iaload, 1) := fd_get adX5_viewPoll_0 (k := 15) rfl
theorem dX5_viewPoll_24 : decode cX5_viewPoll 24 = .ok (.invokevirtual 142, 3) := fd_get adX5_viewPoll_1 (k := 0) rfl
theorem dX5_viewPoll_27 : decode cX5_viewPoll 27 = .ok (.aload_n 0, 1) := fd_get adX5_viewPoll_1 (k := 1) rfl
theorem dX5_viewPoll_28 : decode cX5_viewPoll 28 = .ok (.aload_n 0, 1) := fd_get adX5_viewPoll_1 (k := 2) rfl
theorem dX5_viewPoll_29 : decode cX5_viewPoll 29 = .ok (.getfield 22, 3) := fd_get adX5_viewPoll_1 (k := 3) rfl
theorem dX5_viewPoll_32 : decode cX5_viewPoll 32 = .ok (.iload_n 1, 1) := fd_get adX5_viewPoll_1 (k := 4) rfl
theorem dX5_viewPoll_33 : decode cX5_viewPoll 33 = .ok (.aaload, 1) := fd_get adX5_viewPoll_1 (k := 5) rfl
theorem dX5_viewPoll_34 : decode cX5_viewPoll 34 = .ok (.iload_n 2, 1) := fd_get adX5_viewPoll_1 (k := 6) rfl
theorem dX5_viewPoll_35 : decode cX5_viewPoll 35 = .ok (.invokevirtual 96, 3) := fd_get adX5_viewPoll_1 (k := 7) rfl
theorem dX5_viewPoll_38 : decode cX5_viewPoll 38 = .ok (.istore_n 3, 1) := fd_get adX5_viewPoll_1 (k := 8) rfl
theorem dX5_viewPoll_39 : decode cX5_viewPoll 39 = .ok (.iload_n 3, 1) := fd_get adX5_viewPoll_1 (k := 9) rfl
theorem dX5_viewPoll_40 : decode cX5_viewPoll 40 = .ok (.sipush (-10000), 3) := fd_get adX5_viewPoll_1 (k := 10) rfl
theorem dX5_viewPoll_43 : decode cX5_viewPoll 43 = .ok (.if_icmp .eq 20, 3) := fd_get adX5_viewPoll_1 (k := 11) rfl
theorem dX5_viewPoll_46 : decode cX5_viewPoll 46 = .ok (.aload_n 0, 1) := fd_get adX5_viewPoll_1 (k := 12) rfl
theorem dX5_viewPoll_47 : decode cX5_viewPoll 47 = .ok (.aload_n 0, 1) := fd_get adX5_viewPoll_1 (k := 13) rfl
theorem dX5_viewPoll_48 : decode cX5_viewPoll 48 = .ok (.getfield 22, 3) := fd_get adX5_viewPoll_1 (k := 14) rfl
theorem dX5_viewPoll_51 : decode cX5_viewPoll 51 = .ok (.iload_n 1, 1) := fd_get adX5_viewPoll_1 (k := 15) rfl
theorem dX5_viewPoll_52 : decode cX5_viewPoll 52 = .ok (.aaload, 1) := fd_get adX5_viewPoll_2 (k := 0) rfl
theorem dX5_viewPoll_53 : decode cX5_viewPoll 53 = .ok (.iconst 0, 1) := fd_get adX5_viewPoll_2 (k := 1) rfl
theorem dX5_viewPoll_54 : decode cX5_viewPoll 54 = .ok (.iaload, 1) := fd_get adX5_viewPoll_2 (k := 2) rfl
theorem dX5_viewPoll_55 : decode cX5_viewPoll 55 = .ok (.iload_n 3, 1) := fd_get adX5_viewPoll_2 (k := 3) rfl
theorem dX5_viewPoll_56 : decode cX5_viewPoll 56 = .ok (.sipush (-10000), 3) := fd_get adX5_viewPoll_2 (k := 4) rfl
theorem dX5_viewPoll_59 : decode cX5_viewPoll 59 = .ok (.invokevirtual 132, 3) := fd_get adX5_viewPoll_2 (k := 5) rfl
theorem dX5_viewPoll_62 : decode cX5_viewPoll 62 = .ok (.pop, 1) := fd_get adX5_viewPoll_2 (k := 6) rfl
theorem dX5_viewPoll_63 : decode cX5_viewPoll 63 = .ok (.iload_n 3, 1) := fd_get adX5_viewPoll_2 (k := 7) rfl
theorem dX5_viewPoll_64 : decode cX5_viewPoll 64 = .ok (.ireturn, 1) := fd_get adX5_viewPoll_2 (k := 8) rfl
theorem mwsX5_viewClear_0 : ∀ w ∈ wsX5_viewClear_r1, w ∈ wsX5_viewClear := fun w h => (List.mem_cons_of_mem _ (List.mem_append_left _ (List.mem_append_left _ h)))
theorem mwsX5_viewClear_1 : ∀ w ∈ wsX5_viewClear_r2, w ∈ wsX5_viewClear := fun w h => (List.mem_cons_of_mem _ (List.mem_append_left _ (List.mem_append_right _ h)))
theorem mwsX5_viewClear_2 : ∀ w ∈ wsX50, w ∈ wsX5_viewClear := fun w h => (List.mem_cons_of_mem _ (List.mem_append_right _ h))
set_option maxRecDepth 20000 in
theorem ggX5_viewClear_X5_isNoView : GoodIn wsX5_viewClear wsX5_isNoView := goodIn_sub (List.forall_mem_cons.mpr ⟨(mwsX5_viewClear_0 _ (List.mem_of_getElem? (i := 5) rfl)), (List.forall_mem_cons.mpr ⟨(mwsX5_viewClear_0 _ (List.mem_of_getElem? (i := 0) rfl)), (List.forall_mem_cons.mpr ⟨(mwsX5_viewClear_0 _ (List.mem_of_getElem? (i := 6) rfl)), (List.forall_mem_cons.mpr ⟨(mwsX5_viewClear_0 _ (List.mem_of_getElem? (i := 7) rfl)), (List.forall_mem_cons.mpr ⟨(mwsX5_viewClear_0 _ (List.mem_of_getElem? (i := 4) rfl)), (List.forall_mem_cons.mpr ⟨(mwsX5_viewClear_0 _ (List.mem_of_getElem? (i := 8) rfl)), (tk_mem 13 _ (fun w h => (mwsX5_viewClear_2 _ (tkB_mem 0 13 h))) (fun _ h => absurd h List.not_mem_nil))⟩)⟩)⟩)⟩)⟩)⟩) (by decide +kernel)
set_option maxRecDepth 20000 in
theorem gX5_viewClear_X5_isNoView : GoodIn wsX5_viewClear (wsV RX5 176 RX5 yX5_isNoView wsX5_isNoView) := goodIn_app (goodIn_sub (tk_mem 4 _ (fun w h => (mwsX5_viewClear_0 _ (tkB_mem 1 4 h))) (fun _ h => absurd h List.not_mem_nil)) (by decide +kernel)) ggX5_viewClear_X5_isNoView
set_option maxRecDepth 20000 in
theorem ggX5_viewClear_X5_start : GoodIn wsX5_viewClear wsX5_start := goodIn_sub (tk_mem 5 _ (fun w h => (mwsX5_viewClear_0 _ (tkB_mem 12 5 h))) (List.forall_mem_cons.mpr ⟨(mwsX5_viewClear_0 _ (List.mem_of_getElem? (i := 4) rfl)), (List.forall_mem_cons.mpr ⟨(mwsX5_viewClear_0 _ (List.mem_of_getElem? (i := 17) rfl)), (tk_mem 13 _ (fun w h => (mwsX5_viewClear_2 _ (tkB_mem 0 13 h))) (fun _ h => absurd h List.not_mem_nil))⟩)⟩)) (by decide +kernel)
set_option maxRecDepth 20000 in
theorem gX5_viewClear_X5_start : GoodIn wsX5_viewClear (wsV RX5 57 RX5 yX5_start wsX5_start) := goodIn_app (goodIn_sub (List.forall_mem_cons.mpr ⟨(mwsX5_viewClear_0 _ (List.mem_of_getElem? (i := 9) rfl)), (List.forall_mem_cons.mpr ⟨(mwsX5_viewClear_0 _ (List.mem_of_getElem? (i := 10) rfl)), (List.forall_mem_cons.mpr ⟨(mwsX5_viewClear_0 _ (List.mem_of_getElem? (i := 11) rfl)), (List.forall_mem_cons.mpr ⟨(mwsX5_viewClear_0 _ (List.mem_of_getElem? (i := 4) rfl)), (fun _ h => absurd h List.not_mem_nil)⟩)⟩)⟩)⟩) (by decide +kernel)) ggX5_viewClear_X5_start
set_option maxRecDepth 20000 in
theorem ggX5_viewClear_X5_touch : GoodIn wsX5_viewClear wsX5_touch := goodIn_sub (List.forall_mem_cons.mpr ⟨(mwsX5_viewClear_0 _ (List.mem_of_getElem? (i := 21) rfl)), (List.forall_mem_cons.mpr ⟨(mwsX5_viewClear_0 _ (List.mem_of_getElem? (i := 22) rfl)), (List.forall_mem_cons.mpr ⟨(mwsX5_viewClear_0 _ (List.mem_of_getElem? (i := 23) rfl)), (tk_mem 13 _ (fun w h => (mwsX5_viewClear_2 _ (tkB_mem 0 13 h))) (fun _ h => absurd h List.not_mem_nil))⟩)⟩)⟩) (by decide +kernel)
set_option maxRecDepth 20000 in
theorem gX5_viewClear_X5_touch : GoodIn wsX5_viewClear (wsV RX5 142 RX5 yX5_touch wsX5_touch) := goodIn_app (goodIn_sub (List.forall_mem_cons.mpr ⟨(mwsX5_viewClear_0 _ (List.mem_of_getElem? (i := 18) rfl)), (List.forall_mem_cons.mpr ⟨(mwsX5_viewClear_0 _ (List.mem_of_getElem? (i := 19) rfl)), (List.forall_mem_cons.mpr ⟨(mwsX5_viewClear_0 _ (List.mem_of_getElem? (i := 20) rfl)), (List.forall_mem_cons.mpr ⟨(mwsX5_viewClear_0 _ (List.mem_of_getElem? (i := 4) rfl)), (fun _ h => absurd h List.not_mem_nil)⟩)⟩)⟩)⟩) (by decide +kernel)) ggX5_viewClear_X5_touch
set_option maxRecDepth 20000 in
theorem ggX5_viewClear_X5_strikeAll : GoodIn wsX5_viewClear wsX5_strikeAll := goodIn_sub (tk_mem 4 _ (fun w h => (mwsX5_viewClear_1 _ (tkB_mem 3 4 h))) (List.forall_mem_cons.mpr ⟨(mwsX5_viewClear_0 _ (List.mem_of_getElem? (i := 4) rfl)), (tk_mem 16 _ (fun w h => (mwsX5_viewClear_1 _ (tkB_mem 7 16 h))) (List.forall_mem_cons.mpr ⟨(mwsX5_viewClear_0 _ (List.mem_of_getElem? (i := 22) rfl)), (List.forall_mem_cons.mpr ⟨(mwsX5_viewClear_1 _ (List.mem_of_getElem? (i := 23) rfl)), (tk_mem 13 _ (fun w h => (mwsX5_viewClear_2 _ (tkB_mem 0 13 h))) (fun _ h => absurd h List.not_mem_nil))⟩)⟩))⟩)) (by decide +kernel)
set_option maxRecDepth 20000 in
theorem gX5_viewClear_X5_strikeAll : GoodIn wsX5_viewClear (wsV RX5 156 RX5 yX5_strikeAll wsX5_strikeAll) := goodIn_app (goodIn_sub (List.forall_mem_cons.mpr ⟨(mwsX5_viewClear_1 _ (List.mem_of_getElem? (i := 0) rfl)), (List.forall_mem_cons.mpr ⟨(mwsX5_viewClear_1 _ (List.mem_of_getElem? (i := 1) rfl)), (List.forall_mem_cons.mpr ⟨(mwsX5_viewClear_1 _ (List.mem_of_getElem? (i := 2) rfl)), (List.forall_mem_cons.mpr ⟨(mwsX5_viewClear_0 _ (List.mem_of_getElem? (i := 4) rfl)), (fun _ h => absurd h List.not_mem_nil)⟩)⟩)⟩)⟩) (by decide +kernel)) ggX5_viewClear_X5_strikeAll
theorem adX5_viewClear_0 : fd_rows (cX5_viewClear.data.toList.drop 0) 0 [(0, some (.aload_n 0), 1), (1, some (.aload_n 0), 1), (2, some (.iload_n 1), 1), (3, some (.invokevirtual 176), 3), (6, some (.iconst 1), 1), (7, some (.invokevirtual 57), 3), (10, some (.ifCond .eq 5), 3), (13, some (.iconst 0), 1), (14, some (.ireturn), 1), (15, some (.aload_n 0), 1), (16, some (.aload_n 0), 1), (17, some (.getfield 22), 3), (20, some (.iload_n 1), 1), (21, some (.aaload), 1), (22, some (.iconst 0), 1), (23, some (.iaload), 1)] = true := by decide +kernel
theorem adX5_viewClear_1 : fd_rows (cX5_viewClear.data.toList.drop 24) 24 [(24, some (.invokevirtual 142), 3), (27, some (.aload_n 0), 1), (28, some (.aload_n 0), 1), (29, some (.getfield 22), 3), (32, some (.iload_n 1), 1), (33, some (.aaload), 1), (34, some (.invokevirtual 156), 3), (37, some (.ireturn), 1)] = true := by decide +kernel
theorem dX5_viewClear_0 : decode cX5_viewClear 0 = .ok (.aload_n 0, 1) := fd_get adX5_viewClear_0 (k := 0) rfl
theorem dX5_viewClear_1 : decode cX5_viewClear 1 = .ok (.aload_n 0, 1) := fd_get adX5_viewClear_0 (k := 1) rfl
theorem dX5_viewClear_2 : decode cX5_viewClear 2 = .ok (.iload_n 1, 1) := fd_get adX5_viewClear_0 (k := 2) rfl
theorem dX5_viewClear_3 : decode cX5_viewClear 3 = .ok (.invokevirtual 176, 3) := fd_get adX5_viewClear_0 (k := 3) rfl
theorem dX5_viewClear_6 : decode cX5_viewClear 6 = .ok (.iconst 1, 1) := fd_get adX5_viewClear_0 (k := 4) rfl
theorem dX5_viewClear_7 : decode cX5_viewClear 7 = .ok (.invokevirtual 57, 3) := fd_get adX5_viewClear_0 (k := 5) rfl
theorem dX5_viewClear_10 : decode cX5_viewClear 10 = .ok (.ifCond .eq 5, 3) := fd_get adX5_viewClear_0 (k := 6) rfl
theorem dX5_viewClear_13 : decode cX5_viewClear 13 = .ok (.iconst 0, 1) := fd_get adX5_viewClear_0 (k := 7) rfl
theorem dX5_viewClear_14 : decode cX5_viewClear 14 = .ok (.ireturn, 1) := fd_get adX5_viewClear_0 (k := 8) rfl
theorem dX5_viewClear_15 : decode cX5_viewClear 15 = .ok (.aload_n 0, 1) := fd_get adX5_viewClear_0 (k := 9) rfl
theorem dX5_viewClear_16 : decode cX5_viewClear 16 = .ok (.aload_n 0, 1) := fd_get adX5_viewClear_0 (k := 10) rfl
theorem dX5_viewClear_17 : decode cX5_viewClear 17 = .ok (.getfield 22, 3) := fd_get adX5_viewClear_0 (k := 11) rfl
theorem dX5_viewClear_20 : decode cX5_viewClear 20 = .ok (.iload_n 1, 1) := fd_get adX5_viewClear_0 (k := 12) rfl
theorem dX5_viewClear_21 : decode cX5_viewClear 21 = .ok (.aaload, 1) := fd_get adX5_viewClear_0 (k := 13) rfl
theorem dX5_viewClear_22 : decode cX5_viewClear 22 = .ok (.iconst 0, 1) := fd_get adX5_viewClear_0 (k := 14) rfl
theorem dX5_viewClear_23 : decode cX5_viewClear 23 = .ok (.iaload, 1) := fd_get adX5_viewClear_0 (k := 15) rfl
theorem dX5_viewClear_24 : decode cX5_viewClear 24 = .ok (.invokevirtual 142, 3) := fd_get adX5_viewClear_1 (k := 0) rfl
theorem dX5_viewClear_27 : decode cX5_viewClear 27 = .ok (.aload_n 0, 1) := fd_get adX5_viewClear_1 (k := 1) rfl
theorem dX5_viewClear_28 : decode cX5_viewClear 28 = .ok (.aload_n 0, 1) := fd_get adX5_viewClear_1 (k := 2) rfl
theorem dX5_viewClear_29 : decode cX5_viewClear 29 = .ok (.getfield 22, 3) := fd_get adX5_viewClear_1 (k := 3) rfl
theorem dX5_viewClear_32 : decode cX5_viewClear 32 = .ok (.iload_n 1, 1) := fd_get adX5_viewClear_1 (k := 4) rfl
theorem dX5_viewClear_33 : decode cX5_viewClear 33 = .ok (.aaload, 1) := fd_get adX5_viewClear_1 (k := 5) rfl
theorem dX5_viewClear_34 : decode cX5_viewClear 34 = .ok (.invokevirtual 156, 3) := fd_get adX5_viewClear_1 (k := 6) rfl
theorem dX5_viewClear_37 : decode cX5_viewClear 37 = .ok (.ireturn, 1) := fd_get adX5_viewClear_1 (k := 7) rfl
theorem adX5_begin_0 : fd_rows (cX5_begin.data.toList.drop 0) 0 [(0, some (.aload_n 0), 1), (1, some (.aload_n 1), 1), (2, some (.putfield 125), 3), (5, some (.aload_n 0), 1), (6, some (.iconst 0), 1), (7, some (.putfield 128), 3), (10, some (.aload_n 0), 1), (11, some (.iconst (-1)), 1), (12, some (.putfield 179), 3), (15, some (.aload_n 0), 1), (16, some (.sipush (-10000)), 3), (19, some (.putfield 25), 3), (22, some (.aload_n 0), 1), (23, some (.sipush (-10000)), 3), (26, some (.putfield 29), 3), (29, some (.return_), 1)] = true := by decide +kernel
theorem dX5_begin_0 : decode cX5_begin 0 = .ok (.aload_n 0, 1) := fd_get adX5_begin_0 (k := 0) rfl
theorem dX5_begin_1 : decode cX5_begin 1 = .ok (.aload_n 1, 1) := fd_get adX5_begin_0 (k := 1) rfl
theorem dX5_begin_2 : decode cX5_begin 2 = .ok (.putfield 125, 3) := fd_get adX5_begin_0 (k := 2) rfl
theorem dX5_begin_5 : decode cX5_begin 5 = .ok (.aload_n 0, 1) := fd_get adX5_begin_0 (k := 3) rfl
theorem dX5_begin_6 : decode cX5_begin 6 = .ok (.iconst 0, 1) := fd_get adX5_begin_0 (k := 4) rfl
theorem dX5_begin_7 : decode cX5_begin 7 = .ok (.putfield 128, 3) := fd_get adX5_begin_0 (k := 5) rfl
theorem dX5_begin_10 : decode cX5_begin 10 = .ok (.aload_n 0, 1) := fd_get adX5_begin_0 (k := 6) rfl
theorem dX5_begin_11 : decode cX5_begin 11 = .ok (.iconst (-1), 1) := fd_get adX5_begin_0 (k := 7) rfl
theorem dX5_begin_12 : decode cX5_begin 12 = .ok (.putfield 179, 3) := fd_get adX5_begin_0 (k := 8) rfl
theorem dX5_begin_15 : decode cX5_begin 15 = .ok (.aload_n 0, 1) := fd_get adX5_begin_0 (k := 9) rfl
theorem dX5_begin_16 : decode cX5_begin 16 = .ok (.sipush (-10000), 3) := fd_get adX5_begin_0 (k := 10) rfl
theorem dX5_begin_19 : decode cX5_begin 19 = .ok (.putfield 25, 3) := fd_get adX5_begin_0 (k := 11) rfl
theorem dX5_begin_22 : decode cX5_begin 22 = .ok (.aload_n 0, 1) := fd_get adX5_begin_0 (k := 12) rfl
theorem dX5_begin_23 : decode cX5_begin 23 = .ok (.sipush (-10000), 3) := fd_get adX5_begin_0 (k := 13) rfl
theorem dX5_begin_26 : decode cX5_begin 26 = .ok (.putfield 29, 3) := fd_get adX5_begin_0 (k := 14) rfl
theorem dX5_begin_29 : decode cX5_begin 29 = .ok (.return_, 1) := fd_get adX5_begin_0 (k := 15) rfl
theorem mwsX5_walk_0 : ∀ w ∈ wsX5_walk_r1, w ∈ wsX5_walk := fun w h => (List.mem_cons_of_mem _ (List.mem_append_left _ (List.mem_append_left _ h)))
theorem mwsX5_walk_1 : ∀ w ∈ wsX5_walk_r2, w ∈ wsX5_walk := fun w h => (List.mem_cons_of_mem _ (List.mem_append_left _ (List.mem_append_right _ (List.mem_append_left _ h))))
theorem mwsX5_walk_2 : ∀ w ∈ wsX5_walk_r3, w ∈ wsX5_walk := fun w h => (List.mem_cons_of_mem _ (List.mem_append_left _ (List.mem_append_right _ (List.mem_append_right _ h))))
theorem mwsX5_walk_3 : ∀ w ∈ wsX50, w ∈ wsX5_walk := fun w h => (List.mem_cons_of_mem _ (List.mem_append_right _ h))
set_option maxRecDepth 20000 in
theorem ggX5_walk_X5_isNoBook : GoodIn wsX5_walk wsX5_isNoBook := goodIn_sub (List.forall_mem_cons.mpr ⟨(mwsX5_walk_0 _ (List.mem_of_getElem? (i := 4) rfl)), (List.forall_mem_cons.mpr ⟨(mwsX5_walk_0 _ (List.mem_of_getElem? (i := 5) rfl)), (List.forall_mem_cons.mpr ⟨(mwsX5_walk_0 _ (List.mem_of_getElem? (i := 6) rfl)), (List.forall_mem_cons.mpr ⟨(mwsX5_walk_0 _ (List.mem_of_getElem? (i := 3) rfl)), (List.forall_mem_cons.mpr ⟨(mwsX5_walk_0 _ (List.mem_of_getElem? (i := 7) rfl)), (fun _ h => absurd h List.not_mem_nil)⟩)⟩)⟩)⟩)⟩) (by decide +kernel)
set_option maxRecDepth 20000 in
theorem gX5_walk_X5_isNoBook : GoodIn wsX5_walk (va_wsS RX5 53 yX5_isNoBook wsX5_isNoBook) := goodIn_app (goodIn_sub (List.forall_mem_cons.mpr ⟨(mwsX5_walk_0 _ (List.mem_of_getElem? (i := 1) rfl)), (List.forall_mem_cons.mpr ⟨(mwsX5_walk_0 _ (List.mem_of_getElem? (i := 2) rfl)), (List.forall_mem_cons.mpr ⟨(mwsX5_walk_0 _ (List.mem_of_getElem? (i := 3) rfl)), (fun _ h => absurd h List.not_mem_nil)⟩)⟩)⟩) (by decide +kernel)) ggX5_walk_X5_isNoBook
set_option maxRecDepth 20000 in
theorem ggX5_walk_X5_start : GoodIn wsX5_walk wsX5_start := goodIn_sub (tk_mem 5 _ (fun w h => (mwsX5_walk_0 _ (tkB_mem 11 5 h))) (List.forall_mem_cons.mpr ⟨(mwsX5_walk_0 _ (List.mem_of_getElem? (i := 3) rfl)), (List.forall_mem_cons.mpr ⟨(mwsX5_walk_0 _ (List.mem_of_getElem? (i := 16) rfl)), (tk_mem 13 _ (fun w h => (mwsX5_walk_3 _ (tkB_mem 0 13 h))) (fun _ h => absurd h List.not_mem_nil))⟩)⟩)) (by decide +kernel)
set_option maxRecDepth 20000 in
theorem gX5_walk_X5_start : GoodIn wsX5_walk (wsV RX5 57 RX5 yX5_start wsX5_start) := goodIn_app (goodIn_sub (List.forall_mem_cons.mpr ⟨(mwsX5_walk_0 _ (List.mem_of_getElem? (i := 8) rfl)), (List.forall_mem_cons.mpr ⟨(mwsX5_walk_0 _ (List.mem_of_getElem? (i := 9) rfl)), (List.forall_mem_cons.mpr ⟨(mwsX5_walk_0 _ (List.mem_of_getElem? (i := 10) rfl)), (List.forall_mem_cons.mpr ⟨(mwsX5_walk_0 _ (List.mem_of_getElem? (i := 3) rfl)), (fun _ h => absurd h List.not_mem_nil)⟩)⟩)⟩)⟩) (by decide +kernel)) ggX5_walk_X5_start
set_option maxRecDepth 20000 in
theorem ggX5_walk_X5_whole : GoodIn wsX5_walk wsX5_whole := goodIn_sub (List.forall_mem_cons.mpr ⟨(mwsX5_walk_0 _ (List.mem_of_getElem? (i := 19) rfl)), (List.forall_mem_cons.mpr ⟨(mwsX5_walk_0 _ (List.mem_of_getElem? (i := 20) rfl)), (fun _ h => absurd h List.not_mem_nil)⟩)⟩) (by decide +kernel)
set_option maxRecDepth 20000 in
theorem gX5_walk_X5_whole : GoodIn wsX5_walk (va_wsS RX5 85 yX5_whole wsX5_whole) := goodIn_app (goodIn_sub (List.forall_mem_cons.mpr ⟨(mwsX5_walk_0 _ (List.mem_of_getElem? (i := 17) rfl)), (List.forall_mem_cons.mpr ⟨(mwsX5_walk_0 _ (List.mem_of_getElem? (i := 18) rfl)), (List.forall_mem_cons.mpr ⟨(mwsX5_walk_0 _ (List.mem_of_getElem? (i := 3) rfl)), (fun _ h => absurd h List.not_mem_nil)⟩)⟩)⟩) (by decide +kernel)) ggX5_walk_X5_whole
set_option maxRecDepth 20000 in
theorem ggX5_walk_X5_begin : GoodIn wsX5_walk wsX5_begin := goodIn_sub (List.forall_mem_cons.mpr ⟨(mwsX5_walk_1 _ (List.mem_of_getElem? (i := 0) rfl)), (List.forall_mem_cons.mpr ⟨(mwsX5_walk_0 _ (List.mem_of_getElem? (i := 0) rfl)), (tk_mem 4 _ (fun w h => (mwsX5_walk_1 _ (tkB_mem 1 4 h))) (tk_mem 13 _ (fun w h => (mwsX5_walk_3 _ (tkB_mem 0 13 h))) (fun _ h => absurd h List.not_mem_nil)))⟩)⟩) (by decide +kernel)
set_option maxRecDepth 20000 in
theorem gX5_walk_X5_begin : GoodIn wsX5_walk (wsV RX5 166 RX5 yX5_begin wsX5_begin) := goodIn_app (goodIn_sub (List.forall_mem_cons.mpr ⟨(mwsX5_walk_0 _ (List.mem_of_getElem? (i := 21) rfl)), (List.forall_mem_cons.mpr ⟨(mwsX5_walk_0 _ (List.mem_of_getElem? (i := 22) rfl)), (List.forall_mem_cons.mpr ⟨(mwsX5_walk_0 _ (List.mem_of_getElem? (i := 23) rfl)), (List.forall_mem_cons.mpr ⟨(mwsX5_walk_0 _ (List.mem_of_getElem? (i := 3) rfl)), (fun _ h => absurd h List.not_mem_nil)⟩)⟩)⟩)⟩) (by decide +kernel)) ggX5_walk_X5_begin
set_option maxRecDepth 20000 in
theorem ggX5_walk_X5_many : GoodIn wsX5_walk wsX5_many := goodIn_sub (tk_mem 4 _ (fun w h => (mwsX5_walk_1 _ (tkB_mem 8 4 h))) (List.forall_mem_cons.mpr ⟨(mwsX5_walk_0 _ (List.mem_of_getElem? (i := 3) rfl)), (tk_mem 12 _ (fun w h => (mwsX5_walk_1 _ (tkB_mem 12 12 h))) (List.forall_mem_cons.mpr ⟨(mwsX5_walk_2 _ (List.mem_of_getElem? (i := 0) rfl)), (List.forall_mem_cons.mpr ⟨(mwsX5_walk_2 _ (List.mem_of_getElem? (i := 1) rfl)), (List.forall_mem_cons.mpr ⟨(mwsX5_walk_2 _ (List.mem_of_getElem? (i := 2) rfl)), (tk_mem 13 _ (fun w h => (mwsX5_walk_3 _ (tkB_mem 0 13 h))) (fun _ h => absurd h List.not_mem_nil))⟩)⟩)⟩))⟩)) (by decide +kernel)
set_option maxRecDepth 20000 in
theorem gX5_walk_X5_many : GoodIn wsX5_walk (wsV RX5 163 RX5 yX5_many wsX5_many) := goodIn_app (goodIn_sub (List.forall_mem_cons.mpr ⟨(mwsX5_walk_1 _ (List.mem_of_getElem? (i := 5) rfl)), (List.forall_mem_cons.mpr ⟨(mwsX5_walk_1 _ (List.mem_of_getElem? (i := 6) rfl)), (List.forall_mem_cons.mpr ⟨(mwsX5_walk_1 _ (List.mem_of_getElem? (i := 7) rfl)), (List.forall_mem_cons.mpr ⟨(mwsX5_walk_0 _ (List.mem_of_getElem? (i := 3) rfl)), (fun _ h => absurd h List.not_mem_nil)⟩)⟩)⟩)⟩) (by decide +kernel)) ggX5_walk_X5_many
theorem adX5_walk_0 : fd_rows (cX5_walk.data.toList.drop 0) 0 [(0, some (.aload_n 0), 1), (1, some (.iload_n 1), 1), (2, some (.invokestatic 53), 3), (5, some (.iconst 1), 1), (6, some (.invokevirtual 57), 3), (9, some (.ifCond .eq 5), 3), (12, some (.iconst 0), 1), (13, some (.ireturn), 1), (14, some (.aload_n 0), 1), (15, some (.iload_n 1), 1), (16, some (.invokestatic 85), 3), (19, some (.invokevirtual 166), 3), (22, some (.aload_n 0), 1), (23, some (.aload_n 0), 1), (24, some (.getfield 125), 3), (27, some (.invokevirtual 163), 3)] = true := by decide +kernel
theorem adX5_walk_1 : fd_rows (cX5_walk.data.toList.drop 30) 30 [(30, some (.ireturn), 1)] = true := by decide +kernel
theorem dX5_walk_0 : decode cX5_walk 0 = .ok (.aload_n 0, 1) := fd_get adX5_walk_0 (k := 0) rfl
theorem dX5_walk_1 : decode cX5_walk 1 = .ok (.iload_n 1, 1) := fd_get adX5_walk_0 (k := 1) rfl
theorem dX5_walk_2 : decode cX5_walk 2 = .ok (.invokestatic 53, 3) := fd_get adX5_walk_0 (k := 2) rfl
theorem dX5_walk_5 : decode cX5_walk 5 = .ok (.iconst 1, 1) := fd_get adX5_walk_0 (k := 3) rfl
theorem dX5_walk_6 : decode cX5_walk 6 = .ok (.invokevirtual 57, 3) := fd_get adX5_walk_0 (k := 4) rfl
theorem dX5_walk_9 : decode cX5_walk 9 = .ok (.ifCond .eq 5, 3) := fd_get adX5_walk_0 (k := 5) rfl
theorem dX5_walk_12 : decode cX5_walk 12 = .ok (.iconst 0, 1) := fd_get adX5_walk_0 (k := 6) rfl
theorem dX5_walk_13 : decode cX5_walk 13 = .ok (.ireturn, 1) := fd_get adX5_walk_0 (k := 7) rfl
theorem dX5_walk_14 : decode cX5_walk 14 = .ok (.aload_n 0, 1) := fd_get adX5_walk_0 (k := 8) rfl
theorem dX5_walk_15 : decode cX5_walk 15 = .ok (.iload_n 1, 1) := fd_get adX5_walk_0 (k := 9) rfl
theorem dX5_walk_16 : decode cX5_walk 16 = .ok (.invokestatic 85, 3) := fd_get adX5_walk_0 (k := 10) rfl
theorem dX5_walk_19 : decode cX5_walk 19 = .ok (.invokevirtual 166, 3) := fd_get adX5_walk_0 (k := 11) rfl
theorem dX5_walk_22 : decode cX5_walk 22 = .ok (.aload_n 0, 1) := fd_get adX5_walk_0 (k := 12) rfl
theorem dX5_walk_23 : decode cX5_walk 23 = .ok (.aload_n 0, 1) := fd_get adX5_walk_0 (k := 13) rfl
theorem dX5_walk_24 : decode cX5_walk 24 = .ok (.getfield 125, 3) := fd_get adX5_walk_0 (k := 14) rfl
theorem dX5_walk_27 : decode cX5_walk 27 = .ok (.invokevirtual 163, 3) := fd_get adX5_walk_0 (k := 15) rfl
theorem dX5_walk_30 : decode cX5_walk 30 = .ok (.ireturn, 1) := fd_get adX5_walk_1 (k := 0) rfl
theorem mwsX5_viewWalk_0 : ∀ w ∈ wsX5_viewWalk_r1, w ∈ wsX5_viewWalk := fun w h => (List.mem_cons_of_mem _ (List.mem_append_left _ (List.mem_append_left _ h)))
theorem mwsX5_viewWalk_1 : ∀ w ∈ wsX5_viewWalk_r2, w ∈ wsX5_viewWalk := fun w h => (List.mem_cons_of_mem _ (List.mem_append_left _ (List.mem_append_right _ (List.mem_append_left _ h))))
theorem mwsX5_viewWalk_2 : ∀ w ∈ wsX5_viewWalk_r3, w ∈ wsX5_viewWalk := fun w h => (List.mem_cons_of_mem _ (List.mem_append_left _ (List.mem_append_right _ (List.mem_append_right _ h))))
theorem mwsX5_viewWalk_3 : ∀ w ∈ wsX50, w ∈ wsX5_viewWalk := fun w h => (List.mem_cons_of_mem _ (List.mem_append_right _ h))
set_option maxRecDepth 20000 in
theorem ggX5_viewWalk_X5_isNoView : GoodIn wsX5_viewWalk wsX5_isNoView := goodIn_sub (List.forall_mem_cons.mpr ⟨(mwsX5_viewWalk_0 _ (List.mem_of_getElem? (i := 12) rfl)), (List.forall_mem_cons.mpr ⟨(mwsX5_viewWalk_0 _ (List.mem_of_getElem? (i := 0) rfl)), (List.forall_mem_cons.mpr ⟨(mwsX5_viewWalk_0 _ (List.mem_of_getElem? (i := 13) rfl)), (List.forall_mem_cons.mpr ⟨(mwsX5_viewWalk_0 _ (List.mem_of_getElem? (i := 14) rfl)), (List.forall_mem_cons.mpr ⟨(mwsX5_viewWalk_0 _ (List.mem_of_getElem? (i := 11) rfl)), (List.forall_mem_cons.mpr ⟨(mwsX5_viewWalk_0 _ (List.mem_of_getElem? (i := 15) rfl)), (tk_mem 13 _ (fun w h => (mwsX5_viewWalk_3 _ (tkB_mem 0 13 h))) (fun _ h => absurd h List.not_mem_nil))⟩)⟩)⟩)⟩)⟩)⟩) (by decide +kernel)
set_option maxRecDepth 20000 in
theorem gX5_viewWalk_X5_isNoView : GoodIn wsX5_viewWalk (wsV RX5 176 RX5 yX5_isNoView wsX5_isNoView) := goodIn_app (goodIn_sub (tk_mem 4 _ (fun w h => (mwsX5_viewWalk_0 _ (tkB_mem 8 4 h))) (fun _ h => absurd h List.not_mem_nil)) (by decide +kernel)) ggX5_viewWalk_X5_isNoView
set_option maxRecDepth 20000 in
theorem ggX5_viewWalk_X5_start : GoodIn wsX5_viewWalk wsX5_start := goodIn_sub (tk_mem 5 _ (fun w h => (mwsX5_viewWalk_0 _ (tkB_mem 19 5 h))) (List.forall_mem_cons.mpr ⟨(mwsX5_viewWalk_0 _ (List.mem_of_getElem? (i := 11) rfl)), (List.forall_mem_cons.mpr ⟨(mwsX5_viewWalk_1 _ (List.mem_of_getElem? (i := 0) rfl)), (tk_mem 13 _ (fun w h => (mwsX5_viewWalk_3 _ (tkB_mem 0 13 h))) (fun _ h => absurd h List.not_mem_nil))⟩)⟩)) (by decide +kernel)
set_option maxRecDepth 20000 in
theorem gX5_viewWalk_X5_start : GoodIn wsX5_viewWalk (wsV RX5 57 RX5 yX5_start wsX5_start) := goodIn_app (goodIn_sub (List.forall_mem_cons.mpr ⟨(mwsX5_viewWalk_0 _ (List.mem_of_getElem? (i := 16) rfl)), (List.forall_mem_cons.mpr ⟨(mwsX5_viewWalk_0 _ (List.mem_of_getElem? (i := 17) rfl)), (List.forall_mem_cons.mpr ⟨(mwsX5_viewWalk_0 _ (List.mem_of_getElem? (i := 18) rfl)), (List.forall_mem_cons.mpr ⟨(mwsX5_viewWalk_0 _ (List.mem_of_getElem? (i := 11) rfl)), (fun _ h => absurd h List.not_mem_nil)⟩)⟩)⟩)⟩) (by decide +kernel)) ggX5_viewWalk_X5_start
set_option maxRecDepth 20000 in
theorem ggX5_viewWalk_X5_begin : GoodIn wsX5_viewWalk wsX5_begin := goodIn_sub (List.forall_mem_cons.mpr ⟨(mwsX5_viewWalk_1 _ (List.mem_of_getElem? (i := 4) rfl)), (List.forall_mem_cons.mpr ⟨(mwsX5_viewWalk_0 _ (List.mem_of_getElem? (i := 7) rfl)), (tk_mem 4 _ (fun w h => (mwsX5_viewWalk_1 _ (tkB_mem 5 4 h))) (tk_mem 13 _ (fun w h => (mwsX5_viewWalk_3 _ (tkB_mem 0 13 h))) (fun _ h => absurd h List.not_mem_nil)))⟩)⟩) (by decide +kernel)
set_option maxRecDepth 20000 in
theorem gX5_viewWalk_X5_begin : GoodIn wsX5_viewWalk (wsV RX5 166 RX5 yX5_begin wsX5_begin) := goodIn_app (goodIn_sub (List.forall_mem_cons.mpr ⟨(mwsX5_viewWalk_1 _ (List.mem_of_getElem? (i := 1) rfl)), (List.forall_mem_cons.mpr ⟨(mwsX5_viewWalk_1 _ (List.mem_of_getElem? (i := 2) rfl)), (List.forall_mem_cons.mpr ⟨(mwsX5_viewWalk_1 _ (List.mem_of_getElem? (i := 3) rfl)), (List.forall_mem_cons.mpr ⟨(mwsX5_viewWalk_0 _ (List.mem_of_getElem? (i := 11) rfl)), (fun _ h => absurd h List.not_mem_nil)⟩)⟩)⟩)⟩) (by decide +kernel)) ggX5_viewWalk_X5_begin
set_option maxRecDepth 20000 in
theorem ggX5_viewWalk_X5_many : GoodIn wsX5_viewWalk wsX5_many := goodIn_sub (tk_mem 4 _ (fun w h => (mwsX5_viewWalk_1 _ (tkB_mem 12 4 h))) (List.forall_mem_cons.mpr ⟨(mwsX5_viewWalk_0 _ (List.mem_of_getElem? (i := 11) rfl)), (tk_mem 8 _ (fun w h => (mwsX5_viewWalk_1 _ (tkB_mem 16 8 h))) (tk_mem 7 _ (fun w h => (mwsX5_viewWalk_2 _ (tkB_mem 0 7 h))) (tk_mem 13 _ (fun w h => (mwsX5_viewWalk_3 _ (tkB_mem 0 13 h))) (fun _ h => absurd h List.not_mem_nil))))⟩)) (by decide +kernel)
set_option maxRecDepth 20000 in
theorem gX5_viewWalk_X5_many : GoodIn wsX5_viewWalk (wsV RX5 163 RX5 yX5_many wsX5_many) := goodIn_app (goodIn_sub (List.forall_mem_cons.mpr ⟨(mwsX5_viewWalk_1 _ (List.mem_of_getElem? (i := 9) rfl)), (List.forall_mem_cons.mpr ⟨(mwsX5_viewWalk_1 _ (List.mem_of_getElem? (i := 10) rfl)), (List.forall_mem_cons.mpr ⟨(mwsX5_viewWalk_1 _ (List.mem_of_getElem? (i := 11) rfl)), (List.forall_mem_cons.mpr ⟨(mwsX5_viewWalk_0 _ (List.mem_of_getElem? (i := 11) rfl)), (fun _ h => absurd h List.not_mem_nil)⟩)⟩)⟩)⟩) (by decide +kernel)) ggX5_viewWalk_X5_many
theorem adX5_viewWalk_0 : fd_rows (cX5_viewWalk.data.toList.drop 0) 0 [(0, some (.aload_n 0), 1), (1, some (.aload_n 0), 1), (2, some (.iload_n 1), 1), (3, some (.invokevirtual 176), 3), (6, some (.iconst 1), 1), (7, some (.invokevirtual 57), 3), (10, some (.ifCond .eq 5), 3), (13, some (.iconst 0), 1), (14, some (.ireturn), 1), (15, some (.aload_n 0), 1), (16, some (.aload_n 0), 1), (17, some (.getfield 22), 3), (20, some (.iload_n 1), 1), (21, some (.aaload), 1), (22, some (.invokevirtual 182), 3), (25, some (.checkcast 21), 3)] = true := by decide +kernel
theorem adX5_viewWalk_1 : fd_rows (cX5_viewWalk.data.toList.drop 28) 28 [(28, some (.invokevirtual 166), 3), (31, some (.aload_n 0), 1), (32, some (.aload_n 0), 1), (33, some (.getfield 125), 3), (36, some (.invokevirtual 163), 3), (39, some (.ireturn), 1)] = true := by decide +kernel
theorem dX5_viewWalk_0 : decode cX5_viewWalk 0 = .ok (.aload_n 0, 1) := fd_get adX5_viewWalk_0 (k := 0) rfl
theorem dX5_viewWalk_1 : decode cX5_viewWalk 1 = .ok (.aload_n 0, 1) := fd_get adX5_viewWalk_0 (k := 1) rfl
theorem dX5_viewWalk_2 : decode cX5_viewWalk 2 = .ok (.iload_n 1, 1) := fd_get adX5_viewWalk_0 (k := 2) rfl
theorem dX5_viewWalk_3 : decode cX5_viewWalk 3 = .ok (.invokevirtual 176, 3) := fd_get adX5_viewWalk_0 (k := 3) rfl
theorem dX5_viewWalk_6 : decode cX5_viewWalk 6 = .ok (.iconst 1, 1) := fd_get adX5_viewWalk_0 (k := 4) rfl
theorem dX5_viewWalk_7 : decode cX5_viewWalk 7 = .ok (.invokevirtual 57, 3) := fd_get adX5_viewWalk_0 (k := 5) rfl
theorem dX5_viewWalk_10 : decode cX5_viewWalk 10 = .ok (.ifCond .eq 5, 3) := fd_get adX5_viewWalk_0 (k := 6) rfl
theorem dX5_viewWalk_13 : decode cX5_viewWalk 13 = .ok (.iconst 0, 1) := fd_get adX5_viewWalk_0 (k := 7) rfl
theorem dX5_viewWalk_14 : decode cX5_viewWalk 14 = .ok (.ireturn, 1) := fd_get adX5_viewWalk_0 (k := 8) rfl
theorem dX5_viewWalk_15 : decode cX5_viewWalk 15 = .ok (.aload_n 0, 1) := fd_get adX5_viewWalk_0 (k := 9) rfl
theorem dX5_viewWalk_16 : decode cX5_viewWalk 16 = .ok (.aload_n 0, 1) := fd_get adX5_viewWalk_0 (k := 10) rfl
theorem dX5_viewWalk_17 : decode cX5_viewWalk 17 = .ok (.getfield 22, 3) := fd_get adX5_viewWalk_0 (k := 11) rfl
theorem dX5_viewWalk_20 : decode cX5_viewWalk 20 = .ok (.iload_n 1, 1) := fd_get adX5_viewWalk_0 (k := 12) rfl
theorem dX5_viewWalk_21 : decode cX5_viewWalk 21 = .ok (.aaload, 1) := fd_get adX5_viewWalk_0 (k := 13) rfl
theorem dX5_viewWalk_22 : decode cX5_viewWalk 22 = .ok (.invokevirtual 182, 3) := fd_get adX5_viewWalk_0 (k := 14) rfl
theorem dX5_viewWalk_25 : decode cX5_viewWalk 25 = .ok (.checkcast 21, 3) := fd_get adX5_viewWalk_0 (k := 15) rfl
theorem dX5_viewWalk_28 : decode cX5_viewWalk 28 = .ok (.invokevirtual 166, 3) := fd_get adX5_viewWalk_1 (k := 0) rfl
theorem dX5_viewWalk_31 : decode cX5_viewWalk 31 = .ok (.aload_n 0, 1) := fd_get adX5_viewWalk_1 (k := 1) rfl
theorem dX5_viewWalk_32 : decode cX5_viewWalk 32 = .ok (.aload_n 0, 1) := fd_get adX5_viewWalk_1 (k := 2) rfl
theorem dX5_viewWalk_33 : decode cX5_viewWalk 33 = .ok (.getfield 125, 3) := fd_get adX5_viewWalk_1 (k := 3) rfl
theorem dX5_viewWalk_36 : decode cX5_viewWalk 36 = .ok (.invokevirtual 163, 3) := fd_get adX5_viewWalk_1 (k := 4) rfl
theorem dX5_viewWalk_39 : decode cX5_viewWalk 39 = .ok (.ireturn, 1) := fd_get adX5_viewWalk_1 (k := 5) rfl
theorem mwsX5_step_0 : ∀ w ∈ wsX5_step_r1, w ∈ wsX5_step := fun w h => (List.mem_cons_of_mem _ (List.mem_append_left _ (List.mem_append_left _ h)))
theorem mwsX5_step_1 : ∀ w ∈ wsX5_step_r2, w ∈ wsX5_step := fun w h => (List.mem_cons_of_mem _ (List.mem_append_left _ (List.mem_append_right _ h)))
theorem mwsX5_step_2 : ∀ w ∈ wsX50, w ∈ wsX5_step := fun w h => (List.mem_cons_of_mem _ (List.mem_append_right _ h))
set_option maxRecDepth 20000 in
theorem ggX5_step_X5_start : GoodIn wsX5_step wsX5_start := goodIn_sub (tk_mem 5 _ (fun w h => (mwsX5_step_0 _ (tkB_mem 9 5 h))) (List.forall_mem_cons.mpr ⟨(mwsX5_step_0 _ (List.mem_of_getElem? (i := 8) rfl)), (List.forall_mem_cons.mpr ⟨(mwsX5_step_0 _ (List.mem_of_getElem? (i := 14) rfl)), (tk_mem 13 _ (fun w h => (mwsX5_step_2 _ (tkB_mem 0 13 h))) (fun _ h => absurd h List.not_mem_nil))⟩)⟩)) (by decide +kernel)
set_option maxRecDepth 20000 in
theorem gX5_step_X5_start : GoodIn wsX5_step (wsV RX5 57 RX5 yX5_start wsX5_start) := goodIn_app (goodIn_sub (tk_mem 4 _ (fun w h => (mwsX5_step_0 _ (tkB_mem 5 4 h))) (fun _ h => absurd h List.not_mem_nil)) (by decide +kernel)) ggX5_step_X5_start
set_option maxRecDepth 20000 in
theorem ggX5_step_X5_closest : GoodIn wsX5_step wsX5_closest := goodIn_sub (tk_mem 4 _ (fun w h => (mwsX5_step_0 _ (tkB_mem 18 4 h))) (List.forall_mem_cons.mpr ⟨(mwsX5_step_0 _ (List.mem_of_getElem? (i := 8) rfl)), (List.forall_mem_cons.mpr ⟨(mwsX5_step_0 _ (List.mem_of_getElem? (i := 22) rfl)), (List.forall_mem_cons.mpr ⟨(mwsX5_step_0 _ (List.mem_of_getElem? (i := 23) rfl)), (tk_mem 10 _ (fun w h => (mwsX5_step_1 _ (tkB_mem 0 10 h))) (tk_mem 13 _ (fun w h => (mwsX5_step_2 _ (tkB_mem 0 13 h))) (fun _ h => absurd h List.not_mem_nil)))⟩)⟩)⟩)) (by decide +kernel)
set_option maxRecDepth 20000 in
theorem gX5_step_X5_closest : GoodIn wsX5_step (wsV RX5 77 RX5 yX5_closest wsX5_closest) := goodIn_app (goodIn_sub (List.forall_mem_cons.mpr ⟨(mwsX5_step_0 _ (List.mem_of_getElem? (i := 15) rfl)), (List.forall_mem_cons.mpr ⟨(mwsX5_step_0 _ (List.mem_of_getElem? (i := 16) rfl)), (List.forall_mem_cons.mpr ⟨(mwsX5_step_0 _ (List.mem_of_getElem? (i := 17) rfl)), (List.forall_mem_cons.mpr ⟨(mwsX5_step_0 _ (List.mem_of_getElem? (i := 8) rfl)), (fun _ h => absurd h List.not_mem_nil)⟩)⟩)⟩)⟩) (by decide +kernel)) ggX5_step_X5_closest
set_option maxRecDepth 20000 in
theorem ggX5_step_X5_weight : GoodIn wsX5_step wsX5_weight := goodIn_sub (List.forall_mem_cons.mpr ⟨(mwsX5_step_1 _ (List.mem_of_getElem? (i := 7) rfl)), (List.forall_mem_cons.mpr ⟨(mwsX5_step_1 _ (List.mem_of_getElem? (i := 8) rfl)), (List.forall_mem_cons.mpr ⟨(mwsX5_step_1 _ (List.mem_of_getElem? (i := 9) rfl)), (tk_mem 13 _ (fun w h => (mwsX5_step_2 _ (tkB_mem 0 13 h))) (fun _ h => absurd h List.not_mem_nil))⟩)⟩)⟩) (by decide +kernel)
set_option maxRecDepth 20000 in
theorem gX5_step_X5_weight : GoodIn wsX5_step (wsV RX5 66 RX5 yX5_weight wsX5_weight) := goodIn_app (goodIn_sub (List.forall_mem_cons.mpr ⟨(mwsX5_step_1 _ (List.mem_of_getElem? (i := 4) rfl)), (List.forall_mem_cons.mpr ⟨(mwsX5_step_1 _ (List.mem_of_getElem? (i := 5) rfl)), (List.forall_mem_cons.mpr ⟨(mwsX5_step_1 _ (List.mem_of_getElem? (i := 6) rfl)), (List.forall_mem_cons.mpr ⟨(mwsX5_step_0 _ (List.mem_of_getElem? (i := 8) rfl)), (fun _ h => absurd h List.not_mem_nil)⟩)⟩)⟩)⟩) (by decide +kernel)) ggX5_step_X5_weight
theorem adX5_step_0 : fd_rows (cX5_step.data.toList.drop 0) 0 [(0, some (.aload_n 0), 1), (1, some (.aload_n 0), 1), (2, some (.getfield 125), 3), (5, some (.ifnull 10), 3), (8, some (.aload_n 0), 1), (9, some (.getfield 128), 3), (12, some (.ifCond .eq 7), 3), (15, some (.iconst 1), 1), (16, some (.goto 4), 3), (19, some (.iconst 0), 1), (20, some (.iconst 1), 1), (21, some (.invokevirtual 57), 3), (24, some (.ifCond .eq 5), 3), (27, some (.iconst 0), 1), (28, some (.ireturn), 1), (29, some (.aload_n 0), 1)] = true := by decide +kernel
theorem adX5_step_1 : fd_rows (cX5_step.data.toList.drop 30) 30 [(30, some (.aload_n 0), 1), (31, some (.getfield 125), 3), (34, some (.aload_n 0), 1), (35, some (.getfield 179), 3), (38, some (.iconst 1), 1), (39, some (.invokevirtual 77), 3), (42, some (.istore_n 1), 1), (43, some (.iload_n 1), 1), (44, some (.sipush (-10000)), 3), (47, some (.if_icmp .ne 7), 3), (50, some (.sipush (-10000)), 3), (53, some (.ireturn), 1), (54, some (.aload_n 0), 1), (55, some (.aload_n 0), 1), (56, some (.aload_n 0), 1), (57, some (.getfield 125), 3)] = true := by decide +kernel
theorem adX5_step_2 : fd_rows (cX5_step.data.toList.drop 60) 60 [(60, some (.iload_n 1), 1), (61, some (.invokevirtual 66), 3), (64, some (.putfield 179), 3), (67, some (.aload_n 0), 1), (68, some (.iload_n 1), 1), (69, some (.putfield 25), 3), (72, some (.aload_n 0), 1), (73, some (.iload_n 1), 1), (74, some (.putfield 29), 3), (77, some (.iload_n 1), 1), (78, some (.ireturn), 1)] = true := by decide +kernel
theorem dX5_step_0 : decode cX5_step 0 = .ok (.aload_n 0, 1) := fd_get adX5_step_0 (k := 0) rfl
theorem dX5_step_1 : decode cX5_step 1 = .ok (.aload_n 0, 1) := fd_get adX5_step_0 (k := 1) rfl
theorem dX5_step_2 : decode cX5_step 2 = .ok (.getfield 125, 3) := fd_get adX5_step_0 (k := 2) rfl
theorem dX5_step_5 : decode cX5_step 5 = .ok (.ifnull 10, 3) := fd_get adX5_step_0 (k := 3) rfl
theorem dX5_step_8 : decode cX5_step 8 = .ok (.aload_n 0, 1) := fd_get adX5_step_0 (k := 4) rfl
theorem dX5_step_9 : decode cX5_step 9 = .ok (.getfield 128, 3) := fd_get adX5_step_0 (k := 5) rfl
theorem dX5_step_12 : decode cX5_step 12 = .ok (.ifCond .eq 7, 3) := fd_get adX5_step_0 (k := 6) rfl
theorem dX5_step_15 : decode cX5_step 15 = .ok (.iconst 1, 1) := fd_get adX5_step_0 (k := 7) rfl
theorem dX5_step_16 : decode cX5_step 16 = .ok (.goto 4, 3) := fd_get adX5_step_0 (k := 8) rfl
theorem dX5_step_19 : decode cX5_step 19 = .ok (.iconst 0, 1) := fd_get adX5_step_0 (k := 9) rfl
theorem dX5_step_20 : decode cX5_step 20 = .ok (.iconst 1, 1) := fd_get adX5_step_0 (k := 10) rfl
theorem dX5_step_21 : decode cX5_step 21 = .ok (.invokevirtual 57, 3) := fd_get adX5_step_0 (k := 11) rfl
theorem dX5_step_24 : decode cX5_step 24 = .ok (.ifCond .eq 5, 3) := fd_get adX5_step_0 (k := 12) rfl
theorem dX5_step_27 : decode cX5_step 27 = .ok (.iconst 0, 1) := fd_get adX5_step_0 (k := 13) rfl
theorem dX5_step_28 : decode cX5_step 28 = .ok (.ireturn, 1) := fd_get adX5_step_0 (k := 14) rfl
theorem dX5_step_29 : decode cX5_step 29 = .ok (.aload_n 0, 1) := fd_get adX5_step_0 (k := 15) rfl
theorem dX5_step_30 : decode cX5_step 30 = .ok (.aload_n 0, 1) := fd_get adX5_step_1 (k := 0) rfl
theorem dX5_step_31 : decode cX5_step 31 = .ok (.getfield 125, 3) := fd_get adX5_step_1 (k := 1) rfl
theorem dX5_step_34 : decode cX5_step 34 = .ok (.aload_n 0, 1) := fd_get adX5_step_1 (k := 2) rfl
theorem dX5_step_35 : decode cX5_step 35 = .ok (.getfield 179, 3) := fd_get adX5_step_1 (k := 3) rfl
theorem dX5_step_38 : decode cX5_step 38 = .ok (.iconst 1, 1) := fd_get adX5_step_1 (k := 4) rfl
theorem dX5_step_39 : decode cX5_step 39 = .ok (.invokevirtual 77, 3) := fd_get adX5_step_1 (k := 5) rfl
theorem dX5_step_42 : decode cX5_step 42 = .ok (.istore_n 1, 1) := fd_get adX5_step_1 (k := 6) rfl
theorem dX5_step_43 : decode cX5_step 43 = .ok (.iload_n 1, 1) := fd_get adX5_step_1 (k := 7) rfl
theorem dX5_step_44 : decode cX5_step 44 = .ok (.sipush (-10000), 3) := fd_get adX5_step_1 (k := 8) rfl
theorem dX5_step_47 : decode cX5_step 47 = .ok (.if_icmp .ne 7, 3) := fd_get adX5_step_1 (k := 9) rfl
theorem dX5_step_50 : decode cX5_step 50 = .ok (.sipush (-10000), 3) := fd_get adX5_step_1 (k := 10) rfl
theorem dX5_step_53 : decode cX5_step 53 = .ok (.ireturn, 1) := fd_get adX5_step_1 (k := 11) rfl
theorem dX5_step_54 : decode cX5_step 54 = .ok (.aload_n 0, 1) := fd_get adX5_step_1 (k := 12) rfl
theorem dX5_step_55 : decode cX5_step 55 = .ok (.aload_n 0, 1) := fd_get adX5_step_1 (k := 13) rfl
theorem dX5_step_56 : decode cX5_step 56 = .ok (.aload_n 0, 1) := fd_get adX5_step_1 (k := 14) rfl
theorem dX5_step_57 : decode cX5_step 57 = .ok (.getfield 125, 3) := fd_get adX5_step_1 (k := 15) rfl
theorem dX5_step_60 : decode cX5_step 60 = .ok (.iload_n 1, 1) := fd_get adX5_step_2 (k := 0) rfl
theorem dX5_step_61 : decode cX5_step 61 = .ok (.invokevirtual 66, 3) := fd_get adX5_step_2 (k := 1) rfl
theorem dX5_step_64 : decode cX5_step 64 = .ok (.putfield 179, 3) := fd_get adX5_step_2 (k := 2) rfl
theorem dX5_step_67 : decode cX5_step 67 = .ok (.aload_n 0, 1) := fd_get adX5_step_2 (k := 3) rfl
theorem dX5_step_68 : decode cX5_step 68 = .ok (.iload_n 1, 1) := fd_get adX5_step_2 (k := 4) rfl
theorem dX5_step_69 : decode cX5_step 69 = .ok (.putfield 25, 3) := fd_get adX5_step_2 (k := 5) rfl
theorem dX5_step_72 : decode cX5_step 72 = .ok (.aload_n 0, 1) := fd_get adX5_step_2 (k := 6) rfl
theorem dX5_step_73 : decode cX5_step 73 = .ok (.iload_n 1, 1) := fd_get adX5_step_2 (k := 7) rfl
theorem dX5_step_74 : decode cX5_step 74 = .ok (.putfield 29, 3) := fd_get adX5_step_2 (k := 8) rfl
theorem dX5_step_77 : decode cX5_step 77 = .ok (.iload_n 1, 1) := fd_get adX5_step_2 (k := 9) rfl
theorem dX5_step_78 : decode cX5_step 78 = .ok (.ireturn, 1) := fd_get adX5_step_2 (k := 10) rfl
theorem mwsX5_write_0 : ∀ w ∈ wsX50, w ∈ wsX5_write := fun w h => (List.mem_cons_of_mem _ (List.mem_append_right _ h))
set_option maxRecDepth 20000 in
theorem ggX5_write_X5_isNoValue : GoodIn wsX5_write wsX5_isNoValue := goodIn_sub (List.forall_mem_cons.mpr ⟨(List.mem_cons_of_mem _ (List.mem_append_left _ (List.mem_of_getElem? (i := 6) rfl))), (List.forall_mem_cons.mpr ⟨(List.mem_cons_of_mem _ (List.mem_append_left _ (List.mem_of_getElem? (i := 7) rfl))), (List.forall_mem_cons.mpr ⟨(List.mem_cons_of_mem _ (List.mem_append_left _ (List.mem_of_getElem? (i := 8) rfl))), (List.forall_mem_cons.mpr ⟨(List.mem_cons_of_mem _ (List.mem_append_left _ (List.mem_of_getElem? (i := 5) rfl))), (List.forall_mem_cons.mpr ⟨(List.mem_cons_of_mem _ (List.mem_append_left _ (List.mem_of_getElem? (i := 9) rfl))), (fun _ h => absurd h List.not_mem_nil)⟩)⟩)⟩)⟩)⟩) (by decide +kernel)
set_option maxRecDepth 20000 in
theorem gX5_write_X5_isNoValue : GoodIn wsX5_write (va_wsS RX5 63 yX5_isNoValue wsX5_isNoValue) := goodIn_app (goodIn_sub (List.forall_mem_cons.mpr ⟨(List.mem_cons_of_mem _ (List.mem_append_left _ (List.mem_of_getElem? (i := 3) rfl))), (List.forall_mem_cons.mpr ⟨(List.mem_cons_of_mem _ (List.mem_append_left _ (List.mem_of_getElem? (i := 4) rfl))), (List.forall_mem_cons.mpr ⟨(List.mem_cons_of_mem _ (List.mem_append_left _ (List.mem_of_getElem? (i := 5) rfl))), (fun _ h => absurd h List.not_mem_nil)⟩)⟩)⟩) (by decide +kernel)) ggX5_write_X5_isNoValue
set_option maxRecDepth 20000 in
theorem ggX5_write_X5_start : GoodIn wsX5_write wsX5_start := goodIn_sub (tk_mem 5 _ (fun w h => (List.mem_cons_of_mem _ (List.mem_append_left _ (tkB_mem 13 5 h)))) (List.forall_mem_cons.mpr ⟨(List.mem_cons_of_mem _ (List.mem_append_left _ (List.mem_of_getElem? (i := 5) rfl))), (List.forall_mem_cons.mpr ⟨(List.mem_cons_of_mem _ (List.mem_append_left _ (List.mem_of_getElem? (i := 18) rfl))), (tk_mem 13 _ (fun w h => (mwsX5_write_0 _ (tkB_mem 0 13 h))) (fun _ h => absurd h List.not_mem_nil))⟩)⟩)) (by decide +kernel)
set_option maxRecDepth 20000 in
theorem gX5_write_X5_start : GoodIn wsX5_write (wsV RX5 57 RX5 yX5_start wsX5_start) := goodIn_app (goodIn_sub (List.forall_mem_cons.mpr ⟨(List.mem_cons_of_mem _ (List.mem_append_left _ (List.mem_of_getElem? (i := 10) rfl))), (List.forall_mem_cons.mpr ⟨(List.mem_cons_of_mem _ (List.mem_append_left _ (List.mem_of_getElem? (i := 11) rfl))), (List.forall_mem_cons.mpr ⟨(List.mem_cons_of_mem _ (List.mem_append_left _ (List.mem_of_getElem? (i := 12) rfl))), (List.forall_mem_cons.mpr ⟨(List.mem_cons_of_mem _ (List.mem_append_left _ (List.mem_of_getElem? (i := 5) rfl))), (fun _ h => absurd h List.not_mem_nil)⟩)⟩)⟩)⟩) (by decide +kernel)) ggX5_write_X5_start
set_option maxRecDepth 20000 in
theorem ggX5_write_X5_refuse : GoodIn wsX5_write wsX5_refuse := goodIn_sub (List.forall_mem_cons.mpr ⟨(List.mem_cons_of_mem _ (List.mem_append_left _ (List.mem_of_getElem? (i := 18) rfl))), (List.forall_mem_cons.mpr ⟨(List.mem_cons_of_mem _ (List.mem_append_left _ (List.mem_of_getElem? (i := 14) rfl))), (tk_mem 13 _ (fun w h => (mwsX5_write_0 _ (tkB_mem 0 13 h))) (fun _ h => absurd h List.not_mem_nil))⟩)⟩) (by decide +kernel)
set_option maxRecDepth 20000 in
theorem gX5_write_X5_refuse : GoodIn wsX5_write (wsV RX5 45 RX5 yX5_refuse wsX5_refuse) := goodIn_app (goodIn_sub (List.forall_mem_cons.mpr ⟨(List.mem_cons_of_mem _ (List.mem_append_left _ (List.mem_of_getElem? (i := 15) rfl))), (List.forall_mem_cons.mpr ⟨(List.mem_cons_of_mem _ (List.mem_append_left _ (List.mem_of_getElem? (i := 16) rfl))), (List.forall_mem_cons.mpr ⟨(List.mem_cons_of_mem _ (List.mem_append_left _ (List.mem_of_getElem? (i := 17) rfl))), (List.forall_mem_cons.mpr ⟨(List.mem_cons_of_mem _ (List.mem_append_left _ (List.mem_of_getElem? (i := 5) rfl))), (fun _ h => absurd h List.not_mem_nil)⟩)⟩)⟩)⟩) (by decide +kernel)) ggX5_write_X5_refuse
set_option maxRecDepth 20000 in
theorem ggX5_write_X5_set : GoodIn wsX5_write wsX5_set := goodIn_sub (List.forall_mem_cons.mpr ⟨(List.mem_cons_of_mem _ (List.mem_append_left _ (List.mem_of_getElem? (i := 22) rfl))), (List.forall_mem_cons.mpr ⟨(List.mem_cons_of_mem _ (List.mem_append_left _ (List.mem_of_getElem? (i := 23) rfl))), (List.forall_mem_cons.mpr ⟨(List.mem_cons_of_mem _ (List.mem_append_left _ (List.mem_of_getElem? (i := 0) rfl))), (List.forall_mem_cons.mpr ⟨(List.mem_cons_of_mem _ (List.mem_append_left _ (List.mem_of_getElem? (i := 1) rfl))), (tk_mem 13 _ (fun w h => (mwsX5_write_0 _ (tkB_mem 0 13 h))) (fun _ h => absurd h List.not_mem_nil))⟩)⟩)⟩)⟩) (by decide +kernel)
set_option maxRecDepth 20000 in
theorem gX5_write_X5_set : GoodIn wsX5_write (wsV RX5 132 RX5 yX5_set wsX5_set) := goodIn_app (goodIn_sub (List.forall_mem_cons.mpr ⟨(List.mem_cons_of_mem _ (List.mem_append_left _ (List.mem_of_getElem? (i := 19) rfl))), (List.forall_mem_cons.mpr ⟨(List.mem_cons_of_mem _ (List.mem_append_left _ (List.mem_of_getElem? (i := 20) rfl))), (List.forall_mem_cons.mpr ⟨(List.mem_cons_of_mem _ (List.mem_append_left _ (List.mem_of_getElem? (i := 21) rfl))), (List.forall_mem_cons.mpr ⟨(List.mem_cons_of_mem _ (List.mem_append_left _ (List.mem_of_getElem? (i := 5) rfl))), (fun _ h => absurd h List.not_mem_nil)⟩)⟩)⟩)⟩) (by decide +kernel)) ggX5_write_X5_set
theorem adX5_write_0 : fd_rows (cX5_write.data.toList.drop 0) 0 [(0, some (.aload_n 0), 1), (1, some (.iload_n 1), 1), (2, some (.invokestatic 63), 3), (5, some (.iconst 1), 1), (6, some (.invokevirtual 57), 3), (9, some (.ifCond .ne 40), 3), (12, some (.aload_n 0), 1), (13, some (.aload_n 0), 1), (14, some (.getfield 125), 3), (17, some (.ifnull 20), 3), (20, some (.aload_n 0), 1), (21, some (.getfield 128), 3), (24, some (.ifCond .ne 13), 3), (27, some (.aload_n 0), 1), (28, some (.getfield 29), 3), (31, some (.sipush (-10000)), 3)] = true := by decide +kernel
theorem adX5_write_1 : fd_rows (cX5_write.data.toList.drop 34) 34 [(34, some (.if_icmp .ne 7), 3), (37, some (.iconst 1), 1), (38, some (.goto 4), 3), (41, some (.iconst 0), 1), (42, some (.iconst 2), 1), (43, some (.invokevirtual 45), 3), (46, some (.ifCond .eq 5), 3), (49, some (.iconst 0), 1), (50, some (.ireturn), 1), (51, some (.aload_n 0), 1), (52, some (.aload_n 0), 1), (53, some (.getfield 125), 3), (56, some (.iconst 0), 1), (57, some (.iaload), 1), (58, some (.aload_n 0), 1), (59, some (.getfield 29), 3)] = true := by decide +kernel
theorem adX5_write_2 : fd_rows (cX5_write.data.toList.drop 62) 62 [(62, some (.iload_n 1), 1), (63, some (.invokevirtual 132), 3), (66, some (.ireturn), 1)] = true := by decide +kernel
theorem dX5_write_0 : decode cX5_write 0 = .ok (.aload_n 0, 1) := fd_get adX5_write_0 (k := 0) rfl
theorem dX5_write_1 : decode cX5_write 1 = .ok (.iload_n 1, 1) := fd_get adX5_write_0 (k := 1) rfl
theorem dX5_write_2 : decode cX5_write 2 = .ok (.invokestatic 63, 3) := fd_get adX5_write_0 (k := 2) rfl
theorem dX5_write_5 : decode cX5_write 5 = .ok (.iconst 1, 1) := fd_get adX5_write_0 (k := 3) rfl
theorem dX5_write_6 : decode cX5_write 6 = .ok (.invokevirtual 57, 3) := fd_get adX5_write_0 (k := 4) rfl
theorem dX5_write_9 : decode cX5_write 9 = .ok (.ifCond .ne 40, 3) := fd_get adX5_write_0 (k := 5) rfl
theorem dX5_write_12 : decode cX5_write 12 = .ok (.aload_n 0, 1) := fd_get adX5_write_0 (k := 6) rfl
theorem dX5_write_13 : decode cX5_write 13 = .ok (.aload_n 0, 1) := fd_get adX5_write_0 (k := 7) rfl
theorem dX5_write_14 : decode cX5_write 14 = .ok (.getfield 125, 3) := fd_get adX5_write_0 (k := 8) rfl
theorem dX5_write_17 : decode cX5_write 17 = .ok (.ifnull 20, 3) := fd_get adX5_write_0 (k := 9) rfl
theorem dX5_write_20 : decode cX5_write 20 = .ok (.aload_n 0, 1) := fd_get adX5_write_0 (k := 10) rfl
theorem dX5_write_21 : decode cX5_write 21 = .ok (.getfield 128, 3) := fd_get adX5_write_0 (k := 11) rfl
theorem dX5_write_24 : decode cX5_write 24 = .ok (.ifCond .ne 13, 3) := fd_get adX5_write_0 (k := 12) rfl
theorem dX5_write_27 : decode cX5_write 27 = .ok (.aload_n 0, 1) := fd_get adX5_write_0 (k := 13) rfl
theorem dX5_write_28 : decode cX5_write 28 = .ok (.getfield 29, 3) := fd_get adX5_write_0 (k := 14) rfl
theorem dX5_write_31 : decode cX5_write 31 = .ok (.sipush (-10000), 3) := fd_get adX5_write_0 (k := 15) rfl
theorem dX5_write_34 : decode cX5_write 34 = .ok (.if_icmp .ne 7, 3) := fd_get adX5_write_1 (k := 0) rfl
theorem dX5_write_37 : decode cX5_write 37 = .ok (.iconst 1, 1) := fd_get adX5_write_1 (k := 1) rfl
theorem dX5_write_38 : decode cX5_write 38 = .ok (.goto 4, 3) := fd_get adX5_write_1 (k := 2) rfl
theorem dX5_write_41 : decode cX5_write 41 = .ok (.iconst 0, 1) := fd_get adX5_write_1 (k := 3) rfl
theorem dX5_write_42 : decode cX5_write 42 = .ok (.iconst 2, 1) := fd_get adX5_write_1 (k := 4) rfl
theorem dX5_write_43 : decode cX5_write 43 = .ok (.invokevirtual 45, 3) := fd_get adX5_write_1 (k := 5) rfl
theorem dX5_write_46 : decode cX5_write 46 = .ok (.ifCond .eq 5, 3) := fd_get adX5_write_1 (k := 6) rfl
theorem dX5_write_49 : decode cX5_write 49 = .ok (.iconst 0, 1) := fd_get adX5_write_1 (k := 7) rfl
theorem dX5_write_50 : decode cX5_write 50 = .ok (.ireturn, 1) := fd_get adX5_write_1 (k := 8) rfl
theorem dX5_write_51 : decode cX5_write 51 = .ok (.aload_n 0, 1) := fd_get adX5_write_1 (k := 9) rfl
theorem dX5_write_52 : decode cX5_write 52 = .ok (.aload_n 0, 1) := fd_get adX5_write_1 (k := 10) rfl
theorem dX5_write_53 : decode cX5_write 53 = .ok (.getfield 125, 3) := fd_get adX5_write_1 (k := 11) rfl
theorem dX5_write_56 : decode cX5_write 56 = .ok (.iconst 0, 1) := fd_get adX5_write_1 (k := 12) rfl
theorem dX5_write_57 : decode cX5_write 57 = .ok (.iaload, 1) := fd_get adX5_write_1 (k := 13) rfl
theorem dX5_write_58 : decode cX5_write 58 = .ok (.aload_n 0, 1) := fd_get adX5_write_1 (k := 14) rfl
theorem dX5_write_59 : decode cX5_write 59 = .ok (.getfield 29, 3) := fd_get adX5_write_1 (k := 15) rfl
theorem dX5_write_62 : decode cX5_write 62 = .ok (.iload_n 1, 1) := fd_get adX5_write_2 (k := 0) rfl
theorem dX5_write_63 : decode cX5_write 63 = .ok (.invokevirtual 132, 3) := fd_get adX5_write_2 (k := 1) rfl
theorem dX5_write_66 : decode cX5_write 66 = .ok (.ireturn, 1) := fd_get adX5_write_2 (k := 2) rfl
theorem mwsX5_drop_0 : ∀ w ∈ wsX5_drop_r1, w ∈ wsX5_drop := fun w h => (List.mem_cons_of_mem _ (List.mem_append_left _ (List.mem_append_left _ h)))
theorem mwsX5_drop_1 : ∀ w ∈ wsX5_drop_r2, w ∈ wsX5_drop := fun w h => (List.mem_cons_of_mem _ (List.mem_append_left _ (List.mem_append_right _ h)))
theorem mwsX5_drop_2 : ∀ w ∈ wsX50, w ∈ wsX5_drop := fun w h => (List.mem_cons_of_mem _ (List.mem_append_right _ h))
set_option maxRecDepth 20000 in
theorem ggX5_drop_X5_start : GoodIn wsX5_drop wsX5_start := goodIn_sub (tk_mem 5 _ (fun w h => (mwsX5_drop_0 _ (tkB_mem 9 5 h))) (List.forall_mem_cons.mpr ⟨(mwsX5_drop_0 _ (List.mem_of_getElem? (i := 8) rfl)), (List.forall_mem_cons.mpr ⟨(mwsX5_drop_0 _ (List.mem_of_getElem? (i := 14) rfl)), (tk_mem 13 _ (fun w h => (mwsX5_drop_2 _ (tkB_mem 0 13 h))) (fun _ h => absurd h List.not_mem_nil))⟩)⟩)) (by decide +kernel)
set_option maxRecDepth 20000 in
theorem gX5_drop_X5_start : GoodIn wsX5_drop (wsV RX5 57 RX5 yX5_start wsX5_start) := goodIn_app (goodIn_sub (tk_mem 4 _ (fun w h => (mwsX5_drop_0 _ (tkB_mem 5 4 h))) (fun _ h => absurd h List.not_mem_nil)) (by decide +kernel)) ggX5_drop_X5_start
set_option maxRecDepth 20000 in
theorem ggX5_drop_X5_whole : GoodIn wsX5_drop wsX5_whole := goodIn_sub (List.forall_mem_cons.mpr ⟨(mwsX5_drop_0 _ (List.mem_of_getElem? (i := 17) rfl)), (List.forall_mem_cons.mpr ⟨(mwsX5_drop_0 _ (List.mem_of_getElem? (i := 18) rfl)), (fun _ h => absurd h List.not_mem_nil)⟩)⟩) (by decide +kernel)
set_option maxRecDepth 20000 in
theorem gX5_drop_X5_whole : GoodIn wsX5_drop (va_wsS RX5 85 yX5_whole wsX5_whole) := goodIn_app (goodIn_sub (List.forall_mem_cons.mpr ⟨(mwsX5_drop_0 _ (List.mem_of_getElem? (i := 15) rfl)), (List.forall_mem_cons.mpr ⟨(mwsX5_drop_0 _ (List.mem_of_getElem? (i := 16) rfl)), (List.forall_mem_cons.mpr ⟨(mwsX5_drop_0 _ (List.mem_of_getElem? (i := 8) rfl)), (fun _ h => absurd h List.not_mem_nil)⟩)⟩)⟩) (by decide +kernel)) ggX5_drop_X5_whole
set_option maxRecDepth 20000 in
theorem ggX5_drop_X5_many : GoodIn wsX5_drop wsX5_many := goodIn_sub (List.forall_mem_cons.mpr ⟨(mwsX5_drop_0 _ (List.mem_of_getElem? (i := 22) rfl)), (List.forall_mem_cons.mpr ⟨(mwsX5_drop_0 _ (List.mem_of_getElem? (i := 23) rfl)), (List.forall_mem_cons.mpr ⟨(mwsX5_drop_1 _ (List.mem_of_getElem? (i := 0) rfl)), (List.forall_mem_cons.mpr ⟨(mwsX5_drop_1 _ (List.mem_of_getElem? (i := 1) rfl)), (List.forall_mem_cons.mpr ⟨(mwsX5_drop_0 _ (List.mem_of_getElem? (i := 8) rfl)), (List.forall_mem_cons.mpr ⟨(mwsX5_drop_1 _ (List.mem_of_getElem? (i := 2) rfl)), (List.forall_mem_cons.mpr ⟨(mwsX5_drop_0 _ (List.mem_of_getElem? (i := 3) rfl)), (tk_mem 13 _ (fun w h => (mwsX5_drop_1 _ (tkB_mem 3 13 h))) (tk_mem 13 _ (fun w h => (mwsX5_drop_2 _ (tkB_mem 0 13 h))) (fun _ h => absurd h List.not_mem_nil)))⟩)⟩)⟩)⟩)⟩)⟩)⟩) (by decide +kernel)
set_option maxRecDepth 20000 in
theorem gX5_drop_X5_many : GoodIn wsX5_drop (wsV RX5 163 RX5 yX5_many wsX5_many) := goodIn_app (goodIn_sub (List.forall_mem_cons.mpr ⟨(mwsX5_drop_0 _ (List.mem_of_getElem? (i := 19) rfl)), (List.forall_mem_cons.mpr ⟨(mwsX5_drop_0 _ (List.mem_of_getElem? (i := 20) rfl)), (List.forall_mem_cons.mpr ⟨(mwsX5_drop_0 _ (List.mem_of_getElem? (i := 21) rfl)), (List.forall_mem_cons.mpr ⟨(mwsX5_drop_0 _ (List.mem_of_getElem? (i := 8) rfl)), (fun _ h => absurd h List.not_mem_nil)⟩)⟩)⟩)⟩) (by decide +kernel)) ggX5_drop_X5_many
theorem adX5_drop_0 : fd_rows (cX5_drop.data.toList.drop 0) 0 [(0, some (.aload_n 0), 1), (1, some (.aload_n 0), 1), (2, some (.getfield 125), 3), (5, some (.ifnull 20), 3), (8, some (.aload_n 0), 1), (9, some (.getfield 128), 3), (12, some (.ifCond .ne 13), 3), (15, some (.aload_n 0), 1), (16, some (.getfield 25), 3), (19, some (.sipush (-10000)), 3), (22, some (.if_icmp .ne 7), 3), (25, some (.iconst 1), 1), (26, some (.goto 4), 3), (29, some (.iconst 0), 1), (30, some (.iconst 1), 1), (31, some (.invokevirtual 57), 3)] = true := by decide +kernel
theorem adX5_drop_1 : fd_rows (cX5_drop.data.toList.drop 34) 34 [(34, some (.ifCond .eq 5), 3), (37, some (.iconst 0), 1), (38, some (.ireturn), 1), (39, some (.aload_n 0), 1), (40, some (.getfield 11), 3), (43, some (.aload_n 0), 1), (44, some (.getfield 125), 3), (47, some (.iconst 0), 1), (48, some (.iaload), 1), (49, some (.aaload), 1), (50, some (.aload_n 0), 1), (51, some (.getfield 25), 3), (54, some (.sipush (-10000)), 3), (57, some (.iastore), 1), (58, some (.aload_n 0), 1), (59, some (.sipush (-10000)), 3)] = true := by decide +kernel
theorem adX5_drop_2 : fd_rows (cX5_drop.data.toList.drop 62) 62 [(62, some (.putfield 25), 3), (65, some (.aload_n 0), 1), (66, some (.sipush (-10000)), 3), (69, some (.putfield 29), 3), (72, some (.aload_n 0), 1), (73, some (.aload_n 0), 1), (74, some (.getfield 125), 3), (77, some (.iconst 0), 1), (78, some (.iaload), 1), (79, some (.invokestatic 85), 3), (82, some (.invokevirtual 163), 3), (85, some (.ireturn), 1)] = true := by decide +kernel
theorem dX5_drop_0 : decode cX5_drop 0 = .ok (.aload_n 0, 1) := fd_get adX5_drop_0 (k := 0) rfl
theorem dX5_drop_1 : decode cX5_drop 1 = .ok (.aload_n 0, 1) := fd_get adX5_drop_0 (k := 1) rfl
theorem dX5_drop_2 : decode cX5_drop 2 = .ok (.getfield 125, 3) := fd_get adX5_drop_0 (k := 2) rfl
theorem dX5_drop_5 : decode cX5_drop 5 = .ok (.ifnull 20, 3) := fd_get adX5_drop_0 (k := 3) rfl
theorem dX5_drop_8 : decode cX5_drop 8 = .ok (.aload_n 0, 1) := fd_get adX5_drop_0 (k := 4) rfl
theorem dX5_drop_9 : decode cX5_drop 9 = .ok (.getfield 128, 3) := fd_get adX5_drop_0 (k := 5) rfl
theorem dX5_drop_12 : decode cX5_drop 12 = .ok (.ifCond .ne 13, 3) := fd_get adX5_drop_0 (k := 6) rfl
theorem dX5_drop_15 : decode cX5_drop 15 = .ok (.aload_n 0, 1) := fd_get adX5_drop_0 (k := 7) rfl
theorem dX5_drop_16 : decode cX5_drop 16 = .ok (.getfield 25, 3) := fd_get adX5_drop_0 (k := 8) rfl
theorem dX5_drop_19 : decode cX5_drop 19 = .ok (.sipush (-10000), 3) := fd_get adX5_drop_0 (k := 9) rfl
theorem dX5_drop_22 : decode cX5_drop 22 = .ok (.if_icmp .ne 7, 3) := fd_get adX5_drop_0 (k := 10) rfl
theorem dX5_drop_25 : decode cX5_drop 25 = .ok (.iconst 1, 1) := fd_get adX5_drop_0 (k := 11) rfl
theorem dX5_drop_26 : decode cX5_drop 26 = .ok (.goto 4, 3) := fd_get adX5_drop_0 (k := 12) rfl
theorem dX5_drop_29 : decode cX5_drop 29 = .ok (.iconst 0, 1) := fd_get adX5_drop_0 (k := 13) rfl
theorem dX5_drop_30 : decode cX5_drop 30 = .ok (.iconst 1, 1) := fd_get adX5_drop_0 (k := 14) rfl
theorem dX5_drop_31 : decode cX5_drop 31 = .ok (.invokevirtual 57, 3) := fd_get adX5_drop_0 (k := 15) rfl
theorem dX5_drop_34 : decode cX5_drop 34 = .ok (.ifCond .eq 5, 3) := fd_get adX5_drop_1 (k := 0) rfl
theorem dX5_drop_37 : decode cX5_drop 37 = .ok (.iconst 0, 1) := fd_get adX5_drop_1 (k := 1) rfl
theorem dX5_drop_38 : decode cX5_drop 38 = .ok (.ireturn, 1) := fd_get adX5_drop_1 (k := 2) rfl
theorem dX5_drop_39 : decode cX5_drop 39 = .ok (.aload_n 0, 1) := fd_get adX5_drop_1 (k := 3) rfl
theorem dX5_drop_40 : decode cX5_drop 40 = .ok (.getfield 11, 3) := fd_get adX5_drop_1 (k := 4) rfl
theorem dX5_drop_43 : decode cX5_drop 43 = .ok (.aload_n 0, 1) := fd_get adX5_drop_1 (k := 5) rfl
theorem dX5_drop_44 : decode cX5_drop 44 = .ok (.getfield 125, 3) := fd_get adX5_drop_1 (k := 6) rfl
theorem dX5_drop_47 : decode cX5_drop 47 = .ok (.iconst 0, 1) := fd_get adX5_drop_1 (k := 7) rfl
theorem dX5_drop_48 : decode cX5_drop 48 = .ok (.iaload, 1) := fd_get adX5_drop_1 (k := 8) rfl
theorem dX5_drop_49 : decode cX5_drop 49 = .ok (.aaload, 1) := fd_get adX5_drop_1 (k := 9) rfl
theorem dX5_drop_50 : decode cX5_drop 50 = .ok (.aload_n 0, 1) := fd_get adX5_drop_1 (k := 10) rfl
theorem dX5_drop_51 : decode cX5_drop 51 = .ok (.getfield 25, 3) := fd_get adX5_drop_1 (k := 11) rfl
theorem dX5_drop_54 : decode cX5_drop 54 = .ok (.sipush (-10000), 3) := fd_get adX5_drop_1 (k := 12) rfl
theorem dX5_drop_57 : decode cX5_drop 57 = .ok (.iastore, 1) := fd_get adX5_drop_1 (k := 13) rfl
theorem dX5_drop_58 : decode cX5_drop 58 = .ok (.aload_n 0, 1) := fd_get adX5_drop_1 (k := 14) rfl
theorem dX5_drop_59 : decode cX5_drop 59 = .ok (.sipush (-10000), 3) := fd_get adX5_drop_1 (k := 15) rfl
theorem dX5_drop_62 : decode cX5_drop 62 = .ok (.putfield 25, 3) := fd_get adX5_drop_2 (k := 0) rfl
theorem dX5_drop_65 : decode cX5_drop 65 = .ok (.aload_n 0, 1) := fd_get adX5_drop_2 (k := 1) rfl
theorem dX5_drop_66 : decode cX5_drop 66 = .ok (.sipush (-10000), 3) := fd_get adX5_drop_2 (k := 2) rfl
theorem dX5_drop_69 : decode cX5_drop 69 = .ok (.putfield 29, 3) := fd_get adX5_drop_2 (k := 3) rfl
theorem dX5_drop_72 : decode cX5_drop 72 = .ok (.aload_n 0, 1) := fd_get adX5_drop_2 (k := 4) rfl
theorem dX5_drop_73 : decode cX5_drop 73 = .ok (.aload_n 0, 1) := fd_get adX5_drop_2 (k := 5) rfl
theorem dX5_drop_74 : decode cX5_drop 74 = .ok (.getfield 125, 3) := fd_get adX5_drop_2 (k := 6) rfl
theorem dX5_drop_77 : decode cX5_drop 77 = .ok (.iconst 0, 1) := fd_get adX5_drop_2 (k := 7) rfl
theorem dX5_drop_78 : decode cX5_drop 78 = .ok (.iaload, 1) := fd_get adX5_drop_2 (k := 8) rfl
theorem dX5_drop_79 : decode cX5_drop 79 = .ok (.invokestatic 85, 3) := fd_get adX5_drop_2 (k := 9) rfl
theorem dX5_drop_82 : decode cX5_drop 82 = .ok (.invokevirtual 163, 3) := fd_get adX5_drop_2 (k := 10) rfl
theorem dX5_drop_85 : decode cX5_drop 85 = .ok (.ireturn, 1) := fd_get adX5_drop_2 (k := 11) rfl
theorem mwsX5_keep_0 : ∀ w ∈ wsX5_keep_r1, w ∈ wsX5_keep := fun w h => (List.mem_cons_of_mem _ (List.mem_append_left _ (List.mem_append_left _ h)))
theorem mwsX5_keep_1 : ∀ w ∈ wsX5_keep_r2, w ∈ wsX5_keep := fun w h => (List.mem_cons_of_mem _ (List.mem_append_left _ (List.mem_append_right _ h)))
theorem mwsX5_keep_2 : ∀ w ∈ wsX50, w ∈ wsX5_keep := fun w h => (List.mem_cons_of_mem _ (List.mem_append_right _ h))
set_option maxRecDepth 20000 in
theorem ggX5_keep_X5_isNoBook : GoodIn wsX5_keep wsX5_isNoBook := goodIn_sub (List.forall_mem_cons.mpr ⟨(mwsX5_keep_0 _ (List.mem_of_getElem? (i := 6) rfl)), (List.forall_mem_cons.mpr ⟨(mwsX5_keep_0 _ (List.mem_of_getElem? (i := 7) rfl)), (List.forall_mem_cons.mpr ⟨(mwsX5_keep_0 _ (List.mem_of_getElem? (i := 8) rfl)), (List.forall_mem_cons.mpr ⟨(mwsX5_keep_0 _ (List.mem_of_getElem? (i := 5) rfl)), (List.forall_mem_cons.mpr ⟨(mwsX5_keep_0 _ (List.mem_of_getElem? (i := 9) rfl)), (fun _ h => absurd h List.not_mem_nil)⟩)⟩)⟩)⟩)⟩) (by decide +kernel)
set_option maxRecDepth 20000 in
theorem gX5_keep_X5_isNoBook : GoodIn wsX5_keep (va_wsS RX5 53 yX5_isNoBook wsX5_isNoBook) := goodIn_app (goodIn_sub (List.forall_mem_cons.mpr ⟨(mwsX5_keep_0 _ (List.mem_of_getElem? (i := 3) rfl)), (List.forall_mem_cons.mpr ⟨(mwsX5_keep_0 _ (List.mem_of_getElem? (i := 4) rfl)), (List.forall_mem_cons.mpr ⟨(mwsX5_keep_0 _ (List.mem_of_getElem? (i := 5) rfl)), (fun _ h => absurd h List.not_mem_nil)⟩)⟩)⟩) (by decide +kernel)) ggX5_keep_X5_isNoBook
set_option maxRecDepth 20000 in
theorem ggX5_keep_X5_start : GoodIn wsX5_keep wsX5_start := goodIn_sub (tk_mem 5 _ (fun w h => (mwsX5_keep_0 _ (tkB_mem 13 5 h))) (List.forall_mem_cons.mpr ⟨(mwsX5_keep_0 _ (List.mem_of_getElem? (i := 5) rfl)), (List.forall_mem_cons.mpr ⟨(mwsX5_keep_0 _ (List.mem_of_getElem? (i := 18) rfl)), (tk_mem 13 _ (fun w h => (mwsX5_keep_2 _ (tkB_mem 0 13 h))) (fun _ h => absurd h List.not_mem_nil))⟩)⟩)) (by decide +kernel)
set_option maxRecDepth 20000 in
theorem gX5_keep_X5_start : GoodIn wsX5_keep (wsV RX5 57 RX5 yX5_start wsX5_start) := goodIn_app (goodIn_sub (List.forall_mem_cons.mpr ⟨(mwsX5_keep_0 _ (List.mem_of_getElem? (i := 10) rfl)), (List.forall_mem_cons.mpr ⟨(mwsX5_keep_0 _ (List.mem_of_getElem? (i := 11) rfl)), (List.forall_mem_cons.mpr ⟨(mwsX5_keep_0 _ (List.mem_of_getElem? (i := 12) rfl)), (List.forall_mem_cons.mpr ⟨(mwsX5_keep_0 _ (List.mem_of_getElem? (i := 5) rfl)), (fun _ h => absurd h List.not_mem_nil)⟩)⟩)⟩)⟩) (by decide +kernel)) ggX5_keep_X5_start
set_option maxRecDepth 20000 in
theorem ggX5_keep_X5_whole : GoodIn wsX5_keep wsX5_whole := goodIn_sub (List.forall_mem_cons.mpr ⟨(mwsX5_keep_0 _ (List.mem_of_getElem? (i := 21) rfl)), (List.forall_mem_cons.mpr ⟨(mwsX5_keep_0 _ (List.mem_of_getElem? (i := 22) rfl)), (fun _ h => absurd h List.not_mem_nil)⟩)⟩) (by decide +kernel)
set_option maxRecDepth 20000 in
theorem gX5_keep_X5_whole : GoodIn wsX5_keep (va_wsS RX5 85 yX5_whole wsX5_whole) := goodIn_app (goodIn_sub (List.forall_mem_cons.mpr ⟨(mwsX5_keep_0 _ (List.mem_of_getElem? (i := 19) rfl)), (List.forall_mem_cons.mpr ⟨(mwsX5_keep_0 _ (List.mem_of_getElem? (i := 20) rfl)), (List.forall_mem_cons.mpr ⟨(mwsX5_keep_0 _ (List.mem_of_getElem? (i := 5) rfl)), (fun _ h => absurd h List.not_mem_nil)⟩)⟩)⟩) (by decide +kernel)) ggX5_keep_X5_whole
set_option maxRecDepth 20000 in
theorem ggX5_keep_X5_end : GoodIn wsX5_keep wsX5_end := goodIn_sub (tk_mem 4 _ (fun w h => (mwsX5_keep_1 _ (tkB_mem 2 4 h))) (List.forall_mem_cons.mpr ⟨(mwsX5_keep_0 _ (List.mem_of_getElem? (i := 5) rfl)), (tk_mem 5 _ (fun w h => (mwsX5_keep_1 _ (tkB_mem 6 5 h))) (List.forall_mem_cons.mpr ⟨(mwsX5_keep_0 _ (List.mem_of_getElem? (i := 1) rfl)), (tk_mem 10 _ (fun w h => (mwsX5_keep_1 _ (tkB_mem 11 10 h))) (tk_mem 13 _ (fun w h => (mwsX5_keep_2 _ (tkB_mem 0 13 h))) (fun _ h => absurd h List.not_mem_nil)))⟩))⟩)) (by decide +kernel)
set_option maxRecDepth 20000 in
theorem gX5_keep_X5_end : GoodIn wsX5_keep (wsV RX5 96 RX5 yX5_end wsX5_end) := goodIn_app (goodIn_sub (List.forall_mem_cons.mpr ⟨(mwsX5_keep_0 _ (List.mem_of_getElem? (i := 23) rfl)), (List.forall_mem_cons.mpr ⟨(mwsX5_keep_1 _ (List.mem_of_getElem? (i := 0) rfl)), (List.forall_mem_cons.mpr ⟨(mwsX5_keep_1 _ (List.mem_of_getElem? (i := 1) rfl)), (List.forall_mem_cons.mpr ⟨(mwsX5_keep_0 _ (List.mem_of_getElem? (i := 5) rfl)), (fun _ h => absurd h List.not_mem_nil)⟩)⟩)⟩)⟩) (by decide +kernel)) ggX5_keep_X5_end
theorem adX5_keep_0 : fd_rows (cX5_keep.data.toList.drop 0) 0 [(0, some (.aload_n 0), 1), (1, some (.iload_n 1), 1), (2, some (.invokestatic 53), 3), (5, some (.iconst 1), 1), (6, some (.invokevirtual 57), 3), (9, some (.ifCond .eq 5), 3), (12, some (.iconst 0), 1), (13, some (.ireturn), 1), (14, some (.aload_n 0), 1), (15, some (.iload_n 1), 1), (16, some (.invokestatic 85), 3), (19, some (.iload_n 2), 1), (20, some (.invokevirtual 96), 3), (23, some (.istore_n 3), 1), (24, some (.iload_n 3), 1), (25, some (.sipush (-10000)), 3)] = true := by decide +kernel
theorem adX5_keep_1 : fd_rows (cX5_keep.data.toList.drop 28) 28 [(28, some (.if_icmp .ne 7), 3), (31, some (.sipush (-10000)), 3), (34, some (.ireturn), 1), (35, some (.aload_n 0), 1), (36, some (.iload_n 3), 1), (37, some (.putfield 32), 3), (40, some (.aload_n 0), 1), (41, some (.aload_n 0), 1), (42, some (.getfield 11), 3), (45, some (.iload_n 1), 1), (46, some (.aaload), 1), (47, some (.iload_n 3), 1), (48, some (.iaload), 1), (49, some (.putfield 35), 3), (52, some (.iload_n 3), 1), (53, some (.ireturn), 1)] = true := by decide +kernel
theorem dX5_keep_0 : decode cX5_keep 0 = .ok (.aload_n 0, 1) := fd_get adX5_keep_0 (k := 0) rfl
theorem dX5_keep_1 : decode cX5_keep 1 = .ok (.iload_n 1, 1) := fd_get adX5_keep_0 (k := 1) rfl
theorem dX5_keep_2 : decode cX5_keep 2 = .ok (.invokestatic 53, 3) := fd_get adX5_keep_0 (k := 2) rfl
theorem dX5_keep_5 : decode cX5_keep 5 = .ok (.iconst 1, 1) := fd_get adX5_keep_0 (k := 3) rfl
theorem dX5_keep_6 : decode cX5_keep 6 = .ok (.invokevirtual 57, 3) := fd_get adX5_keep_0 (k := 4) rfl
theorem dX5_keep_9 : decode cX5_keep 9 = .ok (.ifCond .eq 5, 3) := fd_get adX5_keep_0 (k := 5) rfl
theorem dX5_keep_12 : decode cX5_keep 12 = .ok (.iconst 0, 1) := fd_get adX5_keep_0 (k := 6) rfl
theorem dX5_keep_13 : decode cX5_keep 13 = .ok (.ireturn, 1) := fd_get adX5_keep_0 (k := 7) rfl
theorem dX5_keep_14 : decode cX5_keep 14 = .ok (.aload_n 0, 1) := fd_get adX5_keep_0 (k := 8) rfl
theorem dX5_keep_15 : decode cX5_keep 15 = .ok (.iload_n 1, 1) := fd_get adX5_keep_0 (k := 9) rfl
theorem dX5_keep_16 : decode cX5_keep 16 = .ok (.invokestatic 85, 3) := fd_get adX5_keep_0 (k := 10) rfl
theorem dX5_keep_19 : decode cX5_keep 19 = .ok (.iload_n 2, 1) := fd_get adX5_keep_0 (k := 11) rfl
theorem dX5_keep_20 : decode cX5_keep 20 = .ok (.invokevirtual 96, 3) := fd_get adX5_keep_0 (k := 12) rfl
theorem dX5_keep_23 : decode cX5_keep 23 = .ok (.istore_n 3, 1) := fd_get adX5_keep_0 (k := 13) rfl
theorem dX5_keep_24 : decode cX5_keep 24 = .ok (.iload_n 3, 1) := fd_get adX5_keep_0 (k := 14) rfl
theorem dX5_keep_25 : decode cX5_keep 25 = .ok (.sipush (-10000), 3) := fd_get adX5_keep_0 (k := 15) rfl
theorem dX5_keep_28 : decode cX5_keep 28 = .ok (.if_icmp .ne 7, 3) := fd_get adX5_keep_1 (k := 0) rfl
theorem dX5_keep_31 : decode cX5_keep 31 = .ok (.sipush (-10000), 3) := fd_get adX5_keep_1 (k := 1) rfl
theorem dX5_keep_34 : decode cX5_keep 34 = .ok (.ireturn, 1) := fd_get adX5_keep_1 (k := 2) rfl
theorem dX5_keep_35 : decode cX5_keep 35 = .ok (.aload_n 0, 1) := fd_get adX5_keep_1 (k := 3) rfl
theorem dX5_keep_36 : decode cX5_keep 36 = .ok (.iload_n 3, 1) := fd_get adX5_keep_1 (k := 4) rfl
theorem dX5_keep_37 : decode cX5_keep 37 = .ok (.putfield 32, 3) := fd_get adX5_keep_1 (k := 5) rfl
theorem dX5_keep_40 : decode cX5_keep 40 = .ok (.aload_n 0, 1) := fd_get adX5_keep_1 (k := 6) rfl
theorem dX5_keep_41 : decode cX5_keep 41 = .ok (.aload_n 0, 1) := fd_get adX5_keep_1 (k := 7) rfl
theorem dX5_keep_42 : decode cX5_keep 42 = .ok (.getfield 11, 3) := fd_get adX5_keep_1 (k := 8) rfl
theorem dX5_keep_45 : decode cX5_keep 45 = .ok (.iload_n 1, 1) := fd_get adX5_keep_1 (k := 9) rfl
theorem dX5_keep_46 : decode cX5_keep 46 = .ok (.aaload, 1) := fd_get adX5_keep_1 (k := 10) rfl
theorem dX5_keep_47 : decode cX5_keep 47 = .ok (.iload_n 3, 1) := fd_get adX5_keep_1 (k := 11) rfl
theorem dX5_keep_48 : decode cX5_keep 48 = .ok (.iaload, 1) := fd_get adX5_keep_1 (k := 12) rfl
theorem dX5_keep_49 : decode cX5_keep 49 = .ok (.putfield 35, 3) := fd_get adX5_keep_1 (k := 13) rfl
theorem dX5_keep_52 : decode cX5_keep 52 = .ok (.iload_n 3, 1) := fd_get adX5_keep_1 (k := 14) rfl
theorem dX5_keep_53 : decode cX5_keep 53 = .ok (.ireturn, 1) := fd_get adX5_keep_1 (k := 15) rfl
theorem mwsX5_brand_0 : ∀ w ∈ wsX50, w ∈ wsX5_brand := fun w h => (List.mem_cons_of_mem _ (List.mem_append_right _ h))
set_option maxRecDepth 20000 in
theorem ggX5_brand_X5_isNoValue : GoodIn wsX5_brand wsX5_isNoValue := goodIn_sub (List.forall_mem_cons.mpr ⟨(List.mem_cons_of_mem _ (List.mem_append_left _ (List.mem_of_getElem? (i := 4) rfl))), (List.forall_mem_cons.mpr ⟨(List.mem_cons_of_mem _ (List.mem_append_left _ (List.mem_of_getElem? (i := 5) rfl))), (List.forall_mem_cons.mpr ⟨(List.mem_cons_of_mem _ (List.mem_append_left _ (List.mem_of_getElem? (i := 6) rfl))), (List.forall_mem_cons.mpr ⟨(List.mem_cons_of_mem _ (List.mem_append_left _ (List.mem_of_getElem? (i := 3) rfl))), (List.forall_mem_cons.mpr ⟨(List.mem_cons_of_mem _ (List.mem_append_left _ (List.mem_of_getElem? (i := 7) rfl))), (fun _ h => absurd h List.not_mem_nil)⟩)⟩)⟩)⟩)⟩) (by decide +kernel)
set_option maxRecDepth 20000 in
theorem gX5_brand_X5_isNoValue : GoodIn wsX5_brand (va_wsS RX5 63 yX5_isNoValue wsX5_isNoValue) := goodIn_app (goodIn_sub (List.forall_mem_cons.mpr ⟨(List.mem_cons_of_mem _ (List.mem_append_left _ (List.mem_of_getElem? (i := 1) rfl))), (List.forall_mem_cons.mpr ⟨(List.mem_cons_of_mem _ (List.mem_append_left _ (List.mem_of_getElem? (i := 2) rfl))), (List.forall_mem_cons.mpr ⟨(List.mem_cons_of_mem _ (List.mem_append_left _ (List.mem_of_getElem? (i := 3) rfl))), (fun _ h => absurd h List.not_mem_nil)⟩)⟩)⟩) (by decide +kernel)) ggX5_brand_X5_isNoValue
set_option maxRecDepth 20000 in
theorem ggX5_brand_X5_start : GoodIn wsX5_brand wsX5_start := goodIn_sub (tk_mem 5 _ (fun w h => (List.mem_cons_of_mem _ (List.mem_append_left _ (tkB_mem 11 5 h)))) (List.forall_mem_cons.mpr ⟨(List.mem_cons_of_mem _ (List.mem_append_left _ (List.mem_of_getElem? (i := 3) rfl))), (List.forall_mem_cons.mpr ⟨(List.mem_cons_of_mem _ (List.mem_append_left _ (List.mem_of_getElem? (i := 16) rfl))), (tk_mem 13 _ (fun w h => (mwsX5_brand_0 _ (tkB_mem 0 13 h))) (fun _ h => absurd h List.not_mem_nil))⟩)⟩)) (by decide +kernel)
set_option maxRecDepth 20000 in
theorem gX5_brand_X5_start : GoodIn wsX5_brand (wsV RX5 57 RX5 yX5_start wsX5_start) := goodIn_app (goodIn_sub (List.forall_mem_cons.mpr ⟨(List.mem_cons_of_mem _ (List.mem_append_left _ (List.mem_of_getElem? (i := 8) rfl))), (List.forall_mem_cons.mpr ⟨(List.mem_cons_of_mem _ (List.mem_append_left _ (List.mem_of_getElem? (i := 9) rfl))), (List.forall_mem_cons.mpr ⟨(List.mem_cons_of_mem _ (List.mem_append_left _ (List.mem_of_getElem? (i := 10) rfl))), (List.forall_mem_cons.mpr ⟨(List.mem_cons_of_mem _ (List.mem_append_left _ (List.mem_of_getElem? (i := 3) rfl))), (fun _ h => absurd h List.not_mem_nil)⟩)⟩)⟩)⟩) (by decide +kernel)) ggX5_brand_X5_start
theorem adX5_brand_0 : fd_rows (cX5_brand.data.toList.drop 0) 0 [(0, some (.aload_n 0), 1), (1, some (.iload_n 1), 1), (2, some (.invokestatic 63), 3), (5, some (.iconst 1), 1), (6, some (.invokevirtual 57), 3), (9, some (.ifCond .eq 5), 3), (12, some (.iconst 0), 1), (13, some (.ireturn), 1), (14, some (.aload_n 0), 1), (15, some (.getfield 32), 3), (18, some (.sipush (-10000)), 3), (21, some (.if_icmp .ne 9), 3), (24, some (.sipush (-10000)), 3), (27, some (.goto 6), 3), (30, some (.sipush (-20000)), 3), (33, some (.ireturn), 1)] = true := by decide +kernel
theorem dX5_brand_0 : decode cX5_brand 0 = .ok (.aload_n 0, 1) := fd_get adX5_brand_0 (k := 0) rfl
theorem dX5_brand_1 : decode cX5_brand 1 = .ok (.iload_n 1, 1) := fd_get adX5_brand_0 (k := 1) rfl
theorem dX5_brand_2 : decode cX5_brand 2 = .ok (.invokestatic 63, 3) := fd_get adX5_brand_0 (k := 2) rfl
theorem dX5_brand_5 : decode cX5_brand 5 = .ok (.iconst 1, 1) := fd_get adX5_brand_0 (k := 3) rfl
theorem dX5_brand_6 : decode cX5_brand 6 = .ok (.invokevirtual 57, 3) := fd_get adX5_brand_0 (k := 4) rfl
theorem dX5_brand_9 : decode cX5_brand 9 = .ok (.ifCond .eq 5, 3) := fd_get adX5_brand_0 (k := 5) rfl
theorem dX5_brand_12 : decode cX5_brand 12 = .ok (.iconst 0, 1) := fd_get adX5_brand_0 (k := 6) rfl
theorem dX5_brand_13 : decode cX5_brand 13 = .ok (.ireturn, 1) := fd_get adX5_brand_0 (k := 7) rfl
theorem dX5_brand_14 : decode cX5_brand 14 = .ok (.aload_n 0, 1) := fd_get adX5_brand_0 (k := 8) rfl
theorem dX5_brand_15 : decode cX5_brand 15 = .ok (.getfield 32, 3) := fd_get adX5_brand_0 (k := 9) rfl
theorem dX5_brand_18 : decode cX5_brand 18 = .ok (.sipush (-10000), 3) := fd_get adX5_brand_0 (k := 10) rfl
theorem dX5_brand_21 : decode cX5_brand 21 = .ok (.if_icmp .ne 9, 3) := fd_get adX5_brand_0 (k := 11) rfl
theorem dX5_brand_24 : decode cX5_brand 24 = .ok (.sipush (-10000), 3) := fd_get adX5_brand_0 (k := 12) rfl
theorem dX5_brand_27 : decode cX5_brand 27 = .ok (.goto 6, 3) := fd_get adX5_brand_0 (k := 13) rfl
theorem dX5_brand_30 : decode cX5_brand 30 = .ok (.sipush (-20000), 3) := fd_get adX5_brand_0 (k := 14) rfl
theorem dX5_brand_33 : decode cX5_brand 33 = .ok (.ireturn, 1) := fd_get adX5_brand_0 (k := 15) rfl
theorem adX5_knock_0 : fd_rows (cX5_knock.data.toList.drop 0) 0 [(0, some (.aload_n 0), 1), (1, some (.iconst 0), 1), (2, some (.putfield 42), 3), (5, some (.aload_n 0), 1), (6, some (.dup), 1), (7, some (.getfield 186), 3), (10, some (.iconst 1), 1), (11, some (.iadd), 1), (12, some (.putfield 186), 3), (15, some (.aload_n 0), 1), (16, some (.getfield 186), 3), (19, some (.ireturn), 1)] = true := by decide +kernel
theorem dX5_knock_0 : decode cX5_knock 0 = .ok (.aload_n 0, 1) := fd_get adX5_knock_0 (k := 0) rfl
theorem dX5_knock_1 : decode cX5_knock 1 = .ok (.iconst 0, 1) := fd_get adX5_knock_0 (k := 1) rfl
theorem dX5_knock_2 : decode cX5_knock 2 = .ok (.putfield 42, 3) := fd_get adX5_knock_0 (k := 2) rfl
theorem dX5_knock_5 : decode cX5_knock 5 = .ok (.aload_n 0, 1) := fd_get adX5_knock_0 (k := 3) rfl
theorem dX5_knock_6 : decode cX5_knock 6 = .ok (.dup, 1) := fd_get adX5_knock_0 (k := 4) rfl
theorem dX5_knock_7 : decode cX5_knock 7 = .ok (.getfield 186, 3) := fd_get adX5_knock_0 (k := 5) rfl
theorem dX5_knock_10 : decode cX5_knock 10 = .ok (.iconst 1, 1) := fd_get adX5_knock_0 (k := 6) rfl
theorem dX5_knock_11 : decode cX5_knock 11 = .ok (.iadd, 1) := fd_get adX5_knock_0 (k := 7) rfl
theorem dX5_knock_12 : decode cX5_knock 12 = .ok (.putfield 186, 3) := fd_get adX5_knock_0 (k := 8) rfl
theorem dX5_knock_15 : decode cX5_knock 15 = .ok (.aload_n 0, 1) := fd_get adX5_knock_0 (k := 9) rfl
theorem dX5_knock_16 : decode cX5_knock 16 = .ok (.getfield 186, 3) := fd_get adX5_knock_0 (k := 10) rfl
theorem dX5_knock_19 : decode cX5_knock 19 = .ok (.ireturn, 1) := fd_get adX5_knock_0 (k := 11) rfl
theorem mwsX5_get_0 : ∀ w ∈ wsX50, w ∈ wsX5_get := fun w h => (List.mem_cons_of_mem _ (List.mem_append_right _ h))
set_option maxRecDepth 20000 in
theorem ggX5_get_X5_isBad : GoodIn wsX5_get wsX5_isBad := goodIn_sub (List.forall_mem_cons.mpr ⟨(List.mem_cons_of_mem _ (List.mem_append_left _ (List.mem_of_getElem? (i := 5) rfl))), (List.forall_mem_cons.mpr ⟨(List.mem_cons_of_mem _ (List.mem_append_left _ (List.mem_of_getElem? (i := 6) rfl))), (List.forall_mem_cons.mpr ⟨(List.mem_cons_of_mem _ (List.mem_append_left _ (List.mem_of_getElem? (i := 7) rfl))), (List.forall_mem_cons.mpr ⟨(List.mem_cons_of_mem _ (List.mem_append_left _ (List.mem_of_getElem? (i := 4) rfl))), (tk_mem 16 _ (fun w h => (List.mem_cons_of_mem _ (List.mem_append_left _ (tkB_mem 8 16 h)))) (tk_mem 13 _ (fun w h => (mwsX5_get_0 _ (tkB_mem 0 13 h))) (fun _ h => absurd h List.not_mem_nil)))⟩)⟩)⟩)⟩) (by decide +kernel)
set_option maxRecDepth 20000 in
theorem gX5_get_X5_isBad : GoodIn wsX5_get (wsV RX5 146 RX5 yX5_isBad wsX5_isBad) := goodIn_app (goodIn_sub (tk_mem 4 _ (fun w h => (List.mem_cons_of_mem _ (List.mem_append_left _ (tkB_mem 1 4 h)))) (fun _ h => absurd h List.not_mem_nil)) (by decide +kernel)) ggX5_get_X5_isBad
theorem adX5_get_0 : fd_rows (cX5_get.data.toList.drop 0) 0 [(0, some (.aload_n 0), 1), (1, some (.iload_n 1), 1), (2, some (.iload_n 2), 1), (3, some (.invokevirtual 146), 3), (6, some (.ifCond .eq 7), 3), (9, some (.iconst 0), 1), (10, some (.goto 11), 3), (13, some (.aload_n 0), 1), (14, some (.getfield 11), 3), (17, some (.iload_n 1), 1), (18, some (.aaload), 1), (19, some (.iload_n 2), 1), (20, some (.iaload), 1), (21, some (.ireturn), 1)] = true := by decide +kernel
theorem dX5_get_0 : decode cX5_get 0 = .ok (.aload_n 0, 1) := fd_get adX5_get_0 (k := 0) rfl
theorem dX5_get_1 : decode cX5_get 1 = .ok (.iload_n 1, 1) := fd_get adX5_get_0 (k := 1) rfl
theorem dX5_get_2 : decode cX5_get 2 = .ok (.iload_n 2, 1) := fd_get adX5_get_0 (k := 2) rfl
theorem dX5_get_3 : decode cX5_get 3 = .ok (.invokevirtual 146, 3) := fd_get adX5_get_0 (k := 3) rfl
theorem dX5_get_6 : decode cX5_get 6 = .ok (.ifCond .eq 7, 3) := fd_get adX5_get_0 (k := 4) rfl
theorem dX5_get_9 : decode cX5_get 9 = .ok (.iconst 0, 1) := fd_get adX5_get_0 (k := 5) rfl
theorem dX5_get_10 : decode cX5_get 10 = .ok (.goto 11, 3) := fd_get adX5_get_0 (k := 6) rfl
theorem dX5_get_13 : decode cX5_get 13 = .ok (.aload_n 0, 1) := fd_get adX5_get_0 (k := 7) rfl
theorem dX5_get_14 : decode cX5_get 14 = .ok (.getfield 11, 3) := fd_get adX5_get_0 (k := 8) rfl
theorem dX5_get_17 : decode cX5_get 17 = .ok (.iload_n 1, 1) := fd_get adX5_get_0 (k := 9) rfl
theorem dX5_get_18 : decode cX5_get 18 = .ok (.aaload, 1) := fd_get adX5_get_0 (k := 10) rfl
theorem dX5_get_19 : decode cX5_get 19 = .ok (.iload_n 2, 1) := fd_get adX5_get_0 (k := 11) rfl
theorem dX5_get_20 : decode cX5_get 20 = .ok (.iaload, 1) := fd_get adX5_get_0 (k := 12) rfl
theorem dX5_get_21 : decode cX5_get 21 = .ok (.ireturn, 1) := fd_get adX5_get_0 (k := 13) rfl
theorem mwsX5_getOr_0 : ∀ w ∈ wsX5_getOr_r1, w ∈ wsX5_getOr := fun w h => (List.mem_cons_of_mem _ (List.mem_append_left _ (List.mem_append_left _ h)))
theorem mwsX5_getOr_1 : ∀ w ∈ wsX5_getOr_r2, w ∈ wsX5_getOr := fun w h => (List.mem_cons_of_mem _ (List.mem_append_left _ (List.mem_append_right _ h)))
theorem mwsX5_getOr_2 : ∀ w ∈ wsX50, w ∈ wsX5_getOr := fun w h => (List.mem_cons_of_mem _ (List.mem_append_right _ h))
set_option maxRecDepth 20000 in
theorem ggX5_getOr_X5_isBad_ : GoodIn wsX5_getOr wsX5_isBad_ := goodIn_sub (List.forall_mem_cons.mpr ⟨(mwsX5_getOr_0 _ (List.mem_of_getElem? (i := 5) rfl)), (List.forall_mem_cons.mpr ⟨(mwsX5_getOr_0 _ (List.mem_of_getElem? (i := 6) rfl)), (List.forall_mem_cons.mpr ⟨(mwsX5_getOr_0 _ (List.mem_of_getElem? (i := 7) rfl)), (List.forall_mem_cons.mpr ⟨(mwsX5_getOr_0 _ (List.mem_of_getElem? (i := 4) rfl)), (tk_mem 16 _ (fun w h => (mwsX5_getOr_0 _ (tkB_mem 8 16 h))) (List.forall_mem_cons.mpr ⟨(mwsX5_getOr_1 _ (List.mem_of_getElem? (i := 0) rfl)), (List.forall_mem_cons.mpr ⟨(mwsX5_getOr_1 _ (List.mem_of_getElem? (i := 1) rfl)), (List.forall_mem_cons.mpr ⟨(mwsX5_getOr_1 _ (List.mem_of_getElem? (i := 2) rfl)), (tk_mem 13 _ (fun w h => (mwsX5_getOr_2 _ (tkB_mem 0 13 h))) (fun _ h => absurd h List.not_mem_nil))⟩)⟩)⟩))⟩)⟩)⟩)⟩) (by decide +kernel)
set_option maxRecDepth 20000 in
theorem gX5_getOr_X5_isBad_ : GoodIn wsX5_getOr (wsV RX5 139 RX5 yX5_isBad_ wsX5_isBad_) := goodIn_app (goodIn_sub (tk_mem 4 _ (fun w h => (mwsX5_getOr_0 _ (tkB_mem 1 4 h))) (fun _ h => absurd h List.not_mem_nil)) (by decide +kernel)) ggX5_getOr_X5_isBad_
theorem adX5_getOr_0 : fd_rows (cX5_getOr.data.toList.drop 0) 0 [(0, some (.aload_n 0), 1), (1, some (.iload_n 1), 1), (2, some (.iload_n 2), 1), (3, some (.iload_n 3), 1), (4, some (.invokevirtual 139), 3), (7, some (.ifCond .eq 5), 3), (10, some (.iconst 0), 1), (11, some (.ireturn), 1), (12, some (.aload_n 0), 1), (13, some (.getfield 11), 3), (16, some (.iload_n 1), 1), (17, some (.aaload), 1), (18, some (.iload_n 2), 1), (19, some (.iaload), 1), (20, some (.sipush (-10000)), 3), (23, some (.if_icmp .ne 7), 3)] = true := by decide +kernel
theorem adX5_getOr_1 : fd_rows (cX5_getOr.data.toList.drop 26) 26 [(26, some (.iload_n 3), 1), (27, some (.goto 11), 3), (30, some (.aload_n 0), 1), (31, some (.getfield 11), 3), (34, some (.iload_n 1), 1), (35, some (.aaload), 1), (36, some (.iload_n 2), 1), (37, some (.iaload), 1), (38, some (.ireturn), 1)] = true := by decide +kernel
theorem dX5_getOr_0 : decode cX5_getOr 0 = .ok (.aload_n 0, 1) := fd_get adX5_getOr_0 (k := 0) rfl
theorem dX5_getOr_1 : decode cX5_getOr 1 = .ok (.iload_n 1, 1) := fd_get adX5_getOr_0 (k := 1) rfl
theorem dX5_getOr_2 : decode cX5_getOr 2 = .ok (.iload_n 2, 1) := fd_get adX5_getOr_0 (k := 2) rfl
theorem dX5_getOr_3 : decode cX5_getOr 3 = .ok (.iload_n 3, 1) := fd_get adX5_getOr_0 (k := 3) rfl
theorem dX5_getOr_4 : decode cX5_getOr 4 = .ok (.invokevirtual 139, 3) := fd_get adX5_getOr_0 (k := 4) rfl
theorem dX5_getOr_7 : decode cX5_getOr 7 = .ok (.ifCond .eq 5, 3) := fd_get adX5_getOr_0 (k := 5) rfl
theorem dX5_getOr_10 : decode cX5_getOr 10 = .ok (.iconst 0, 1) := fd_get adX5_getOr_0 (k := 6) rfl
theorem dX5_getOr_11 : decode cX5_getOr 11 = .ok (.ireturn, 1) := fd_get adX5_getOr_0 (k := 7) rfl
theorem dX5_getOr_12 : decode cX5_getOr 12 = .ok (.aload_n 0, 1) := fd_get adX5_getOr_0 (k := 8) rfl
theorem dX5_getOr_13 : decode cX5_getOr 13 = .ok (.getfield 11, 3) := fd_get adX5_getOr_0 (k := 9) rfl
theorem dX5_getOr_16 : decode cX5_getOr 16 = .ok (.iload_n 1, 1) := fd_get adX5_getOr_0 (k := 10) rfl
theorem dX5_getOr_17 : decode cX5_getOr 17 = .ok (.aaload, 1) := fd_get adX5_getOr_0 (k := 11) rfl
theorem dX5_getOr_18 : decode cX5_getOr 18 = .ok (.iload_n 2, 1) := fd_get adX5_getOr_0 (k := 12) rfl
theorem dX5_getOr_19 : decode cX5_getOr 19 = .ok (.iaload, 1) := fd_get adX5_getOr_0 (k := 13) rfl
theorem dX5_getOr_20 : decode cX5_getOr 20 = .ok (.sipush (-10000), 3) := fd_get adX5_getOr_0 (k := 14) rfl
theorem dX5_getOr_23 : decode cX5_getOr 23 = .ok (.if_icmp .ne 7, 3) := fd_get adX5_getOr_0 (k := 15) rfl
theorem dX5_getOr_26 : decode cX5_getOr 26 = .ok (.iload_n 3, 1) := fd_get adX5_getOr_1 (k := 0) rfl
theorem dX5_getOr_27 : decode cX5_getOr 27 = .ok (.goto 11, 3) := fd_get adX5_getOr_1 (k := 1) rfl
theorem dX5_getOr_30 : decode cX5_getOr 30 = .ok (.aload_n 0, 1) := fd_get adX5_getOr_1 (k := 2) rfl
theorem dX5_getOr_31 : decode cX5_getOr 31 = .ok (.getfield 11, 3) := fd_get adX5_getOr_1 (k := 3) rfl
theorem dX5_getOr_34 : decode cX5_getOr 34 = .ok (.iload_n 1, 1) := fd_get adX5_getOr_1 (k := 4) rfl
theorem dX5_getOr_35 : decode cX5_getOr 35 = .ok (.aaload, 1) := fd_get adX5_getOr_1 (k := 5) rfl
theorem dX5_getOr_36 : decode cX5_getOr 36 = .ok (.iload_n 2, 1) := fd_get adX5_getOr_1 (k := 6) rfl
theorem dX5_getOr_37 : decode cX5_getOr 37 = .ok (.iaload, 1) := fd_get adX5_getOr_1 (k := 7) rfl
theorem dX5_getOr_38 : decode cX5_getOr 38 = .ok (.ireturn, 1) := fd_get adX5_getOr_1 (k := 8) rfl
theorem mwsX5_has_0 : ∀ w ∈ wsX50, w ∈ wsX5_has := fun w h => (List.mem_cons_of_mem _ (List.mem_append_right _ h))
set_option maxRecDepth 20000 in
theorem ggX5_has_X5_isBad : GoodIn wsX5_has wsX5_isBad := goodIn_sub (List.forall_mem_cons.mpr ⟨(List.mem_cons_of_mem _ (List.mem_append_left _ (List.mem_of_getElem? (i := 5) rfl))), (List.forall_mem_cons.mpr ⟨(List.mem_cons_of_mem _ (List.mem_append_left _ (List.mem_of_getElem? (i := 6) rfl))), (List.forall_mem_cons.mpr ⟨(List.mem_cons_of_mem _ (List.mem_append_left _ (List.mem_of_getElem? (i := 7) rfl))), (List.forall_mem_cons.mpr ⟨(List.mem_cons_of_mem _ (List.mem_append_left _ (List.mem_of_getElem? (i := 4) rfl))), (tk_mem 16 _ (fun w h => (List.mem_cons_of_mem _ (List.mem_append_left _ (tkB_mem 8 16 h)))) (tk_mem 13 _ (fun w h => (mwsX5_has_0 _ (tkB_mem 0 13 h))) (fun _ h => absurd h List.not_mem_nil)))⟩)⟩)⟩)⟩) (by decide +kernel)
set_option maxRecDepth 20000 in
theorem gX5_has_X5_isBad : GoodIn wsX5_has (wsV RX5 146 RX5 yX5_isBad wsX5_isBad) := goodIn_app (goodIn_sub (tk_mem 4 _ (fun w h => (List.mem_cons_of_mem _ (List.mem_append_left _ (tkB_mem 1 4 h)))) (fun _ h => absurd h List.not_mem_nil)) (by decide +kernel)) ggX5_has_X5_isBad
theorem adX5_has_0 : fd_rows (cX5_has.data.toList.drop 0) 0 [(0, some (.aload_n 0), 1), (1, some (.iload_n 1), 1), (2, some (.iload_n 2), 1), (3, some (.invokevirtual 146), 3), (6, some (.ifCond .ne 21), 3), (9, some (.aload_n 0), 1), (10, some (.getfield 11), 3), (13, some (.iload_n 1), 1), (14, some (.aaload), 1), (15, some (.iload_n 2), 1), (16, some (.iaload), 1), (17, some (.sipush (-10000)), 3), (20, some (.if_icmp .eq 7), 3), (23, some (.iconst 1), 1), (24, some (.goto 4), 3), (27, some (.iconst 0), 1)] = true := by decide +kernel
theorem adX5_has_1 : fd_rows (cX5_has.data.toList.drop 28) 28 [(28, some (.ireturn), 1)] = true := by decide +kernel
theorem dX5_has_0 : decode cX5_has 0 = .ok (.aload_n 0, 1) := fd_get adX5_has_0 (k := 0) rfl
theorem dX5_has_1 : decode cX5_has 1 = .ok (.iload_n 1, 1) := fd_get adX5_has_0 (k := 1) rfl
theorem dX5_has_2 : decode cX5_has 2 = .ok (.iload_n 2, 1) := fd_get adX5_has_0 (k := 2) rfl
theorem dX5_has_3 : decode cX5_has 3 = .ok (.invokevirtual 146, 3) := fd_get adX5_has_0 (k := 3) rfl
theorem dX5_has_6 : decode cX5_has 6 = .ok (.ifCond .ne 21, 3) := fd_get adX5_has_0 (k := 4) rfl
theorem dX5_has_9 : decode cX5_has 9 = .ok (.aload_n 0, 1) := fd_get adX5_has_0 (k := 5) rfl
theorem dX5_has_10 : decode cX5_has 10 = .ok (.getfield 11, 3) := fd_get adX5_has_0 (k := 6) rfl
theorem dX5_has_13 : decode cX5_has 13 = .ok (.iload_n 1, 1) := fd_get adX5_has_0 (k := 7) rfl
theorem dX5_has_14 : decode cX5_has 14 = .ok (.aaload, 1) := fd_get adX5_has_0 (k := 8) rfl
theorem dX5_has_15 : decode cX5_has 15 = .ok (.iload_n 2, 1) := fd_get adX5_has_0 (k := 9) rfl
theorem dX5_has_16 : decode cX5_has 16 = .ok (.iaload, 1) := fd_get adX5_has_0 (k := 10) rfl
theorem dX5_has_17 : decode cX5_has 17 = .ok (.sipush (-10000), 3) := fd_get adX5_has_0 (k := 11) rfl
theorem dX5_has_20 : decode cX5_has 20 = .ok (.if_icmp .eq 7, 3) := fd_get adX5_has_0 (k := 12) rfl
theorem dX5_has_23 : decode cX5_has 23 = .ok (.iconst 1, 1) := fd_get adX5_has_0 (k := 13) rfl
theorem dX5_has_24 : decode cX5_has 24 = .ok (.goto 4, 3) := fd_get adX5_has_0 (k := 14) rfl
theorem dX5_has_27 : decode cX5_has 27 = .ok (.iconst 0, 1) := fd_get adX5_has_0 (k := 15) rfl
theorem dX5_has_28 : decode cX5_has 28 = .ok (.ireturn, 1) := fd_get adX5_has_1 (k := 0) rfl
theorem mwsX5_hasValue_0 : ∀ w ∈ wsX5_hasValue_r1, w ∈ wsX5_hasValue := fun w h => (List.mem_cons_of_mem _ (List.mem_append_left _ (List.mem_append_left _ h)))
theorem mwsX5_hasValue_1 : ∀ w ∈ wsX5_hasValue_r2, w ∈ wsX5_hasValue := fun w h => (List.mem_cons_of_mem _ (List.mem_append_left _ (List.mem_append_right _ h)))
theorem mwsX5_hasValue_2 : ∀ w ∈ wsX50, w ∈ wsX5_hasValue := fun w h => (List.mem_cons_of_mem _ (List.mem_append_right _ h))
set_option maxRecDepth 20000 in
theorem ggX5_hasValue_X5_isNoBook : GoodIn wsX5_hasValue wsX5_isNoBook := goodIn_sub (List.forall_mem_cons.mpr ⟨(mwsX5_hasValue_0 _ (List.mem_of_getElem? (i := 3) rfl)), (List.forall_mem_cons.mpr ⟨(mwsX5_hasValue_0 _ (List.mem_of_getElem? (i := 4) rfl)), (List.forall_mem_cons.mpr ⟨(mwsX5_hasValue_0 _ (List.mem_of_getElem? (i := 5) rfl)), (List.forall_mem_cons.mpr ⟨(mwsX5_hasValue_0 _ (List.mem_of_getElem? (i := 2) rfl)), (List.forall_mem_cons.mpr ⟨(mwsX5_hasValue_0 _ (List.mem_of_getElem? (i := 6) rfl)), (fun _ h => absurd h List.not_mem_nil)⟩)⟩)⟩)⟩)⟩) (by decide +kernel)
set_option maxRecDepth 20000 in
theorem gX5_hasValue_X5_isNoBook : GoodIn wsX5_hasValue (va_wsS RX5 53 yX5_isNoBook wsX5_isNoBook) := goodIn_app (goodIn_sub (List.forall_mem_cons.mpr ⟨(mwsX5_hasValue_0 _ (List.mem_of_getElem? (i := 0) rfl)), (List.forall_mem_cons.mpr ⟨(mwsX5_hasValue_0 _ (List.mem_of_getElem? (i := 1) rfl)), (List.forall_mem_cons.mpr ⟨(mwsX5_hasValue_0 _ (List.mem_of_getElem? (i := 2) rfl)), (fun _ h => absurd h List.not_mem_nil)⟩)⟩)⟩) (by decide +kernel)) ggX5_hasValue_X5_isNoBook
set_option maxRecDepth 20000 in
theorem ggX5_hasValue_X5_start : GoodIn wsX5_hasValue wsX5_start := goodIn_sub (tk_mem 5 _ (fun w h => (mwsX5_hasValue_0 _ (tkB_mem 10 5 h))) (List.forall_mem_cons.mpr ⟨(mwsX5_hasValue_0 _ (List.mem_of_getElem? (i := 2) rfl)), (List.forall_mem_cons.mpr ⟨(mwsX5_hasValue_0 _ (List.mem_of_getElem? (i := 15) rfl)), (tk_mem 13 _ (fun w h => (mwsX5_hasValue_2 _ (tkB_mem 0 13 h))) (fun _ h => absurd h List.not_mem_nil))⟩)⟩)) (by decide +kernel)
set_option maxRecDepth 20000 in
theorem gX5_hasValue_X5_start : GoodIn wsX5_hasValue (wsV RX5 57 RX5 yX5_start wsX5_start) := goodIn_app (goodIn_sub (List.forall_mem_cons.mpr ⟨(mwsX5_hasValue_0 _ (List.mem_of_getElem? (i := 7) rfl)), (List.forall_mem_cons.mpr ⟨(mwsX5_hasValue_0 _ (List.mem_of_getElem? (i := 8) rfl)), (List.forall_mem_cons.mpr ⟨(mwsX5_hasValue_0 _ (List.mem_of_getElem? (i := 9) rfl)), (List.forall_mem_cons.mpr ⟨(mwsX5_hasValue_0 _ (List.mem_of_getElem? (i := 2) rfl)), (fun _ h => absurd h List.not_mem_nil)⟩)⟩)⟩)⟩) (by decide +kernel)) ggX5_hasValue_X5_start
set_option maxRecDepth 20000 in
theorem ggX5_hasValue_X5_isNoValue : GoodIn wsX5_hasValue wsX5_isNoValue := goodIn_sub (List.forall_mem_cons.mpr ⟨(mwsX5_hasValue_0 _ (List.mem_of_getElem? (i := 18) rfl)), (List.forall_mem_cons.mpr ⟨(mwsX5_hasValue_0 _ (List.mem_of_getElem? (i := 4) rfl)), (List.forall_mem_cons.mpr ⟨(mwsX5_hasValue_0 _ (List.mem_of_getElem? (i := 5) rfl)), (List.forall_mem_cons.mpr ⟨(mwsX5_hasValue_0 _ (List.mem_of_getElem? (i := 2) rfl)), (List.forall_mem_cons.mpr ⟨(mwsX5_hasValue_0 _ (List.mem_of_getElem? (i := 6) rfl)), (fun _ h => absurd h List.not_mem_nil)⟩)⟩)⟩)⟩)⟩) (by decide +kernel)
set_option maxRecDepth 20000 in
theorem gX5_hasValue_X5_isNoValue : GoodIn wsX5_hasValue (va_wsS RX5 63 yX5_isNoValue wsX5_isNoValue) := goodIn_app (goodIn_sub (List.forall_mem_cons.mpr ⟨(mwsX5_hasValue_0 _ (List.mem_of_getElem? (i := 16) rfl)), (List.forall_mem_cons.mpr ⟨(mwsX5_hasValue_0 _ (List.mem_of_getElem? (i := 17) rfl)), (List.forall_mem_cons.mpr ⟨(mwsX5_hasValue_0 _ (List.mem_of_getElem? (i := 2) rfl)), (fun _ h => absurd h List.not_mem_nil)⟩)⟩)⟩) (by decide +kernel)) ggX5_hasValue_X5_isNoValue
set_option maxRecDepth 20000 in
theorem ggX5_hasValue_X5_refuse : GoodIn wsX5_hasValue wsX5_refuse := goodIn_sub (List.forall_mem_cons.mpr ⟨(mwsX5_hasValue_0 _ (List.mem_of_getElem? (i := 15) rfl)), (List.forall_mem_cons.mpr ⟨(mwsX5_hasValue_0 _ (List.mem_of_getElem? (i := 11) rfl)), (tk_mem 13 _ (fun w h => (mwsX5_hasValue_2 _ (tkB_mem 0 13 h))) (fun _ h => absurd h List.not_mem_nil))⟩)⟩) (by decide +kernel)
set_option maxRecDepth 20000 in
theorem gX5_hasValue_X5_refuse : GoodIn wsX5_hasValue (wsV RX5 45 RX5 yX5_refuse wsX5_refuse) := goodIn_app (goodIn_sub (List.forall_mem_cons.mpr ⟨(mwsX5_hasValue_0 _ (List.mem_of_getElem? (i := 12) rfl)), (List.forall_mem_cons.mpr ⟨(mwsX5_hasValue_0 _ (List.mem_of_getElem? (i := 13) rfl)), (List.forall_mem_cons.mpr ⟨(mwsX5_hasValue_0 _ (List.mem_of_getElem? (i := 14) rfl)), (List.forall_mem_cons.mpr ⟨(mwsX5_hasValue_0 _ (List.mem_of_getElem? (i := 2) rfl)), (fun _ h => absurd h List.not_mem_nil)⟩)⟩)⟩)⟩) (by decide +kernel)) ggX5_hasValue_X5_refuse
set_option maxRecDepth 20000 in
theorem ggX5_hasValue_X5_having : GoodIn wsX5_hasValue wsX5_having := goodIn_sub (List.forall_mem_cons.mpr ⟨(mwsX5_hasValue_0 _ (List.mem_of_getElem? (i := 22) rfl)), (List.forall_mem_cons.mpr ⟨(mwsX5_hasValue_0 _ (List.mem_of_getElem? (i := 23) rfl)), (List.forall_mem_cons.mpr ⟨(mwsX5_hasValue_1 _ (List.mem_of_getElem? (i := 0) rfl)), (List.forall_mem_cons.mpr ⟨(mwsX5_hasValue_1 _ (List.mem_of_getElem? (i := 1) rfl)), (List.forall_mem_cons.mpr ⟨(mwsX5_hasValue_0 _ (List.mem_of_getElem? (i := 2) rfl)), (List.forall_mem_cons.mpr ⟨(mwsX5_hasValue_1 _ (List.mem_of_getElem? (i := 2) rfl)), (tk_mem 13 _ (fun w h => (mwsX5_hasValue_2 _ (tkB_mem 0 13 h))) (fun _ h => absurd h List.not_mem_nil))⟩)⟩)⟩)⟩)⟩)⟩) (by decide +kernel)
set_option maxRecDepth 20000 in
theorem gX5_hasValue_X5_having : GoodIn wsX5_hasValue (wsV RX5 152 RX5 yX5_having wsX5_having) := goodIn_app (goodIn_sub (List.forall_mem_cons.mpr ⟨(mwsX5_hasValue_0 _ (List.mem_of_getElem? (i := 19) rfl)), (List.forall_mem_cons.mpr ⟨(mwsX5_hasValue_0 _ (List.mem_of_getElem? (i := 20) rfl)), (List.forall_mem_cons.mpr ⟨(mwsX5_hasValue_0 _ (List.mem_of_getElem? (i := 21) rfl)), (List.forall_mem_cons.mpr ⟨(mwsX5_hasValue_0 _ (List.mem_of_getElem? (i := 2) rfl)), (fun _ h => absurd h List.not_mem_nil)⟩)⟩)⟩)⟩) (by decide +kernel)) ggX5_hasValue_X5_having
theorem adX5_hasValue_0 : fd_rows (cX5_hasValue.data.toList.drop 0) 0 [(0, some (.aload_n 0), 1), (1, some (.iload_n 1), 1), (2, some (.invokestatic 53), 3), (5, some (.iconst 1), 1), (6, some (.invokevirtual 57), 3), (9, some (.ifCond .ne 28), 3), (12, some (.aload_n 0), 1), (13, some (.iload_n 2), 1), (14, some (.invokestatic 63), 3), (17, some (.iconst 2), 1), (18, some (.invokevirtual 45), 3), (21, some (.ifCond .ne 16), 3), (24, some (.aload_n 0), 1), (25, some (.iload_n 1), 1), (26, some (.iload_n 2), 1), (27, some (.invokevirtual 152), 3)] = true := by decide +kernel
theorem adX5_hasValue_1 : fd_rows (cX5_hasValue.data.toList.drop 30) 30 [(30, some (.ifCond .le 7), 3), (33, some (.iconst 1), 1), (34, some (.goto 4), 3), (37, some (.iconst 0), 1), (38, some (.ireturn), 1)] = true := by decide +kernel
theorem dX5_hasValue_0 : decode cX5_hasValue 0 = .ok (.aload_n 0, 1) := fd_get adX5_hasValue_0 (k := 0) rfl
theorem dX5_hasValue_1 : decode cX5_hasValue 1 = .ok (.iload_n 1, 1) := fd_get adX5_hasValue_0 (k := 1) rfl
theorem dX5_hasValue_2 : decode cX5_hasValue 2 = .ok (.invokestatic 53, 3) := fd_get adX5_hasValue_0 (k := 2) rfl
theorem dX5_hasValue_5 : decode cX5_hasValue 5 = .ok (.iconst 1, 1) := fd_get adX5_hasValue_0 (k := 3) rfl
theorem dX5_hasValue_6 : decode cX5_hasValue 6 = .ok (.invokevirtual 57, 3) := fd_get adX5_hasValue_0 (k := 4) rfl
theorem dX5_hasValue_9 : decode cX5_hasValue 9 = .ok (.ifCond .ne 28, 3) := fd_get adX5_hasValue_0 (k := 5) rfl
theorem dX5_hasValue_12 : decode cX5_hasValue 12 = .ok (.aload_n 0, 1) := fd_get adX5_hasValue_0 (k := 6) rfl
theorem dX5_hasValue_13 : decode cX5_hasValue 13 = .ok (.iload_n 2, 1) := fd_get adX5_hasValue_0 (k := 7) rfl
theorem dX5_hasValue_14 : decode cX5_hasValue 14 = .ok (.invokestatic 63, 3) := fd_get adX5_hasValue_0 (k := 8) rfl
theorem dX5_hasValue_17 : decode cX5_hasValue 17 = .ok (.iconst 2, 1) := fd_get adX5_hasValue_0 (k := 9) rfl
theorem dX5_hasValue_18 : decode cX5_hasValue 18 = .ok (.invokevirtual 45, 3) := fd_get adX5_hasValue_0 (k := 10) rfl
theorem dX5_hasValue_21 : decode cX5_hasValue 21 = .ok (.ifCond .ne 16, 3) := fd_get adX5_hasValue_0 (k := 11) rfl
theorem dX5_hasValue_24 : decode cX5_hasValue 24 = .ok (.aload_n 0, 1) := fd_get adX5_hasValue_0 (k := 12) rfl
theorem dX5_hasValue_25 : decode cX5_hasValue 25 = .ok (.iload_n 1, 1) := fd_get adX5_hasValue_0 (k := 13) rfl
theorem dX5_hasValue_26 : decode cX5_hasValue 26 = .ok (.iload_n 2, 1) := fd_get adX5_hasValue_0 (k := 14) rfl
theorem dX5_hasValue_27 : decode cX5_hasValue 27 = .ok (.invokevirtual 152, 3) := fd_get adX5_hasValue_0 (k := 15) rfl
theorem dX5_hasValue_30 : decode cX5_hasValue 30 = .ok (.ifCond .le 7, 3) := fd_get adX5_hasValue_1 (k := 0) rfl
theorem dX5_hasValue_33 : decode cX5_hasValue 33 = .ok (.iconst 1, 1) := fd_get adX5_hasValue_1 (k := 1) rfl
theorem dX5_hasValue_34 : decode cX5_hasValue 34 = .ok (.goto 4, 3) := fd_get adX5_hasValue_1 (k := 2) rfl
theorem dX5_hasValue_37 : decode cX5_hasValue 37 = .ok (.iconst 0, 1) := fd_get adX5_hasValue_1 (k := 3) rfl
theorem dX5_hasValue_38 : decode cX5_hasValue 38 = .ok (.ireturn, 1) := fd_get adX5_hasValue_1 (k := 4) rfl
theorem adX5_valueOf_0 : fd_rows (cX5_valueOf.data.toList.drop 0) 0 [(0, some (.iload_n 2), 1), (1, some (.sipush (-10000)), 3), (4, some (.if_icmp .ne 9), 3), (7, some (.sipush (-10000)), 3), (10, some (.goto 11), 3), (13, some (.aload_n 0), 1), (14, some (.getfield 11), 3), (17, some (.iload_n 1), 1), (18, some (.aaload), 1), (19, some (.iload_n 2), 1), (20, some (.iaload), 1), (21, some (.ireturn), 1)] = true := by decide +kernel
theorem dX5_valueOf_0 : decode cX5_valueOf 0 = .ok (.iload_n 2, 1) := fd_get adX5_valueOf_0 (k := 0) rfl
theorem dX5_valueOf_1 : decode cX5_valueOf 1 = .ok (.sipush (-10000), 3) := fd_get adX5_valueOf_0 (k := 1) rfl
theorem dX5_valueOf_4 : decode cX5_valueOf 4 = .ok (.if_icmp .ne 9, 3) := fd_get adX5_valueOf_0 (k := 2) rfl
theorem dX5_valueOf_7 : decode cX5_valueOf 7 = .ok (.sipush (-10000), 3) := fd_get adX5_valueOf_0 (k := 3) rfl
theorem dX5_valueOf_10 : decode cX5_valueOf 10 = .ok (.goto 11, 3) := fd_get adX5_valueOf_0 (k := 4) rfl
theorem dX5_valueOf_13 : decode cX5_valueOf 13 = .ok (.aload_n 0, 1) := fd_get adX5_valueOf_0 (k := 5) rfl
theorem dX5_valueOf_14 : decode cX5_valueOf 14 = .ok (.getfield 11, 3) := fd_get adX5_valueOf_0 (k := 6) rfl
theorem dX5_valueOf_17 : decode cX5_valueOf 17 = .ok (.iload_n 1, 1) := fd_get adX5_valueOf_0 (k := 7) rfl
theorem dX5_valueOf_18 : decode cX5_valueOf 18 = .ok (.aaload, 1) := fd_get adX5_valueOf_0 (k := 8) rfl
theorem dX5_valueOf_19 : decode cX5_valueOf 19 = .ok (.iload_n 2, 1) := fd_get adX5_valueOf_0 (k := 9) rfl
theorem dX5_valueOf_20 : decode cX5_valueOf 20 = .ok (.iaload, 1) := fd_get adX5_valueOf_0 (k := 10) rfl
theorem dX5_valueOf_21 : decode cX5_valueOf 21 = .ok (.ireturn, 1) := fd_get adX5_valueOf_0 (k := 11) rfl
set_option maxRecDepth 20000 in
theorem ggX5_unlike_X5_one : GoodIn wsX5_unlike wsX5_one := goodIn_sub (List.forall_mem_cons.mpr ⟨(List.mem_cons_of_mem _ (List.mem_append_left _ (List.mem_of_getElem? (i := 4) rfl))), (fun _ h => absurd h List.not_mem_nil)⟩) (by decide +kernel)
set_option maxRecDepth 20000 in
theorem gX5_unlike_X5_one : GoodIn wsX5_unlike (va_wsS RX5 81 yX5_one wsX5_one) := goodIn_app (goodIn_sub (List.forall_mem_cons.mpr ⟨(List.mem_cons_of_mem _ (List.mem_append_left _ (List.mem_of_getElem? (i := 1) rfl))), (List.forall_mem_cons.mpr ⟨(List.mem_cons_of_mem _ (List.mem_append_left _ (List.mem_of_getElem? (i := 2) rfl))), (List.forall_mem_cons.mpr ⟨(List.mem_cons_of_mem _ (List.mem_append_left _ (List.mem_of_getElem? (i := 3) rfl))), (fun _ h => absurd h List.not_mem_nil)⟩)⟩)⟩) (by decide +kernel)) ggX5_unlike_X5_one
theorem adX5_unlike_0 : fd_rows (cX5_unlike.data.toList.drop 0) 0 [(0, some (.iconst 0), 1), (1, some (.istore_n 2), 1), (2, some (.iconst 0), 1), (3, some (.istore_n 3), 1), (4, some (.iload_n 3), 1), (5, some (.bipush 100), 2), (7, some (.if_icmp .ge 90), 3), (10, some (.iconst 0), 1), (11, some (.istore 4), 2), (13, some (.iload_n 3), 1), (14, some (.iconst 1), 1), (15, some (.iadd), 1), (16, some (.istore 5), 2), (18, some (.iload 5), 2), (20, some (.bipush 100), 2), (22, some (.if_icmp .ge 39), 3)] = true := by decide +kernel
theorem adX5_unlike_1 : fd_rows (cX5_unlike.data.toList.drop 25) 25 [(25, some (.iload 4), 2), (27, some (.aload_n 0), 1), (28, some (.getfield 11), 3), (31, some (.iload_n 1), 1), (32, some (.aaload), 1), (33, some (.iload 5), 2), (35, some (.iaload), 1), (36, some (.aload_n 0), 1), (37, some (.getfield 11), 3), (40, some (.iload_n 1), 1), (41, some (.aaload), 1), (42, some (.iload_n 3), 1), (43, some (.iaload), 1), (44, some (.if_icmp .ne 7), 3), (47, some (.iconst 1), 1), (48, some (.goto 4), 3)] = true := by decide +kernel
theorem adX5_unlike_2 : fd_rows (cX5_unlike.data.toList.drop 51) 51 [(51, some (.iconst 0), 1), (52, some (.ior), 1), (53, some (.istore 4), 2), (55, some (.iinc 5 1), 3), (58, some (.goto (-40)), 3), (61, some (.iload_n 2), 1), (62, some (.aload_n 0), 1), (63, some (.getfield 11), 3), (66, some (.iload_n 1), 1), (67, some (.aaload), 1), (68, some (.iload_n 3), 1), (69, some (.iaload), 1), (70, some (.sipush (-10000)), 3), (73, some (.if_icmp .eq 12), 3), (76, some (.iload 4), 2), (78, some (.ifCond .ne 7), 3)] = true := by decide +kernel
theorem adX5_unlike_3 : fd_rows (cX5_unlike.data.toList.drop 81) 81 [(81, some (.iconst 1), 1), (82, some (.goto 4), 3), (85, some (.iconst 0), 1), (86, some (.invokestatic 81), 3), (89, some (.iadd), 1), (90, some (.istore_n 2), 1), (91, some (.iinc 3 1), 3), (94, some (.goto (-90)), 3), (97, some (.iload_n 2), 1), (98, some (.ireturn), 1)] = true := by decide +kernel
theorem dX5_unlike_0 : decode cX5_unlike 0 = .ok (.iconst 0, 1) := fd_get adX5_unlike_0 (k := 0) rfl
theorem dX5_unlike_1 : decode cX5_unlike 1 = .ok (.istore_n 2, 1) := fd_get adX5_unlike_0 (k := 1) rfl
theorem dX5_unlike_2 : decode cX5_unlike 2 = .ok (.iconst 0, 1) := fd_get adX5_unlike_0 (k := 2) rfl
theorem dX5_unlike_3 : decode cX5_unlike 3 = .ok (.istore_n 3, 1) := fd_get adX5_unlike_0 (k := 3) rfl
theorem dX5_unlike_4 : decode cX5_unlike 4 = .ok (.iload_n 3, 1) := fd_get adX5_unlike_0 (k := 4) rfl
theorem dX5_unlike_5 : decode cX5_unlike 5 = .ok (.bipush 100, 2) := fd_get adX5_unlike_0 (k := 5) rfl
theorem dX5_unlike_7 : decode cX5_unlike 7 = .ok (.if_icmp .ge 90, 3) := fd_get adX5_unlike_0 (k := 6) rfl
theorem dX5_unlike_10 : decode cX5_unlike 10 = .ok (.iconst 0, 1) := fd_get adX5_unlike_0 (k := 7) rfl
theorem dX5_unlike_11 : decode cX5_unlike 11 = .ok (.istore 4, 2) := fd_get adX5_unlike_0 (k := 8) rfl
theorem dX5_unlike_13 : decode cX5_unlike 13 = .ok (.iload_n 3, 1) := fd_get adX5_unlike_0 (k := 9) rfl
theorem dX5_unlike_14 : decode cX5_unlike 14 = .ok (.iconst 1, 1) := fd_get adX5_unlike_0 (k := 10) rfl
theorem dX5_unlike_15 : decode cX5_unlike 15 = .ok (.iadd, 1) := fd_get adX5_unlike_0 (k := 11) rfl
theorem dX5_unlike_16 : decode cX5_unlike 16 = .ok (.istore 5, 2) := fd_get adX5_unlike_0 (k := 12) rfl
theorem dX5_unlike_18 : decode cX5_unlike 18 = .ok (.iload 5, 2) := fd_get adX5_unlike_0 (k := 13) rfl
theorem dX5_unlike_20 : decode cX5_unlike 20 = .ok (.bipush 100, 2) := fd_get adX5_unlike_0 (k := 14) rfl
theorem dX5_unlike_22 : decode cX5_unlike 22 = .ok (.if_icmp .ge 39, 3) := fd_get adX5_unlike_0 (k := 15) rfl
theorem dX5_unlike_25 : decode cX5_unlike 25 = .ok (.iload 4, 2) := fd_get adX5_unlike_1 (k := 0) rfl
theorem dX5_unlike_27 : decode cX5_unlike 27 = .ok (.aload_n 0, 1) := fd_get adX5_unlike_1 (k := 1) rfl
theorem dX5_unlike_28 : decode cX5_unlike 28 = .ok (.getfield 11, 3) := fd_get adX5_unlike_1 (k := 2) rfl
theorem dX5_unlike_31 : decode cX5_unlike 31 = .ok (.iload_n 1, 1) := fd_get adX5_unlike_1 (k := 3) rfl
theorem dX5_unlike_32 : decode cX5_unlike 32 = .ok (.aaload, 1) := fd_get adX5_unlike_1 (k := 4) rfl
theorem dX5_unlike_33 : decode cX5_unlike 33 = .ok (.iload 5, 2) := fd_get adX5_unlike_1 (k := 5) rfl
theorem dX5_unlike_35 : decode cX5_unlike 35 = .ok (.iaload, 1) := fd_get adX5_unlike_1 (k := 6) rfl
theorem dX5_unlike_36 : decode cX5_unlike 36 = .ok (.aload_n 0, 1) := fd_get adX5_unlike_1 (k := 7) rfl
theorem dX5_unlike_37 : decode cX5_unlike 37 = .ok (.getfield 11, 3) := fd_get adX5_unlike_1 (k := 8) rfl
theorem dX5_unlike_40 : decode cX5_unlike 40 = .ok (.iload_n 1, 1) := fd_get adX5_unlike_1 (k := 9) rfl
theorem dX5_unlike_41 : decode cX5_unlike 41 = .ok (.aaload, 1) := fd_get adX5_unlike_1 (k := 10) rfl
theorem dX5_unlike_42 : decode cX5_unlike 42 = .ok (.iload_n 3, 1) := fd_get adX5_unlike_1 (k := 11) rfl
theorem dX5_unlike_43 : decode cX5_unlike 43 = .ok (.iaload, 1) := fd_get adX5_unlike_1 (k := 12) rfl
theorem dX5_unlike_44 : decode cX5_unlike 44 = .ok (.if_icmp .ne 7, 3) := fd_get adX5_unlike_1 (k := 13) rfl
theorem dX5_unlike_47 : decode cX5_unlike 47 = .ok (.iconst 1, 1) := fd_get adX5_unlike_1 (k := 14) rfl
theorem dX5_unlike_48 : decode cX5_unlike 48 = .ok (.goto 4, 3) := fd_get adX5_unlike_1 (k := 15) rfl
theorem dX5_unlike_51 : decode cX5_unlike 51 = .ok (.iconst 0, 1) := fd_get adX5_unlike_2 (k := 0) rfl
theorem dX5_unlike_52 : decode cX5_unlike 52 = .ok (.ior, 1) := fd_get adX5_unlike_2 (k := 1) rfl
theorem dX5_unlike_53 : decode cX5_unlike 53 = .ok (.istore 4, 2) := fd_get adX5_unlike_2 (k := 2) rfl
theorem dX5_unlike_55 : decode cX5_unlike 55 = .ok (.iinc 5 1, 3) := fd_get adX5_unlike_2 (k := 3) rfl
theorem dX5_unlike_58 : decode cX5_unlike 58 = .ok (.goto (-40), 3) := fd_get adX5_unlike_2 (k := 4) rfl
theorem dX5_unlike_61 : decode cX5_unlike 61 = .ok (.iload_n 2, 1) := fd_get adX5_unlike_2 (k := 5) rfl
theorem dX5_unlike_62 : decode cX5_unlike 62 = .ok (.aload_n 0, 1) := fd_get adX5_unlike_2 (k := 6) rfl
theorem dX5_unlike_63 : decode cX5_unlike 63 = .ok (.getfield 11, 3) := fd_get adX5_unlike_2 (k := 7) rfl
theorem dX5_unlike_66 : decode cX5_unlike 66 = .ok (.iload_n 1, 1) := fd_get adX5_unlike_2 (k := 8) rfl
theorem dX5_unlike_67 : decode cX5_unlike 67 = .ok (.aaload, 1) := fd_get adX5_unlike_2 (k := 9) rfl
theorem dX5_unlike_68 : decode cX5_unlike 68 = .ok (.iload_n 3, 1) := fd_get adX5_unlike_2 (k := 10) rfl
theorem dX5_unlike_69 : decode cX5_unlike 69 = .ok (.iaload, 1) := fd_get adX5_unlike_2 (k := 11) rfl
theorem dX5_unlike_70 : decode cX5_unlike 70 = .ok (.sipush (-10000), 3) := fd_get adX5_unlike_2 (k := 12) rfl
theorem dX5_unlike_73 : decode cX5_unlike 73 = .ok (.if_icmp .eq 12, 3) := fd_get adX5_unlike_2 (k := 13) rfl
theorem dX5_unlike_76 : decode cX5_unlike 76 = .ok (.iload 4, 2) := fd_get adX5_unlike_2 (k := 14) rfl
theorem dX5_unlike_78 : decode cX5_unlike 78 = .ok (.ifCond .ne 7, 3) := fd_get adX5_unlike_2 (k := 15) rfl
theorem dX5_unlike_81 : decode cX5_unlike 81 = .ok (.iconst 1, 1) := fd_get adX5_unlike_3 (k := 0) rfl
theorem dX5_unlike_82 : decode cX5_unlike 82 = .ok (.goto 4, 3) := fd_get adX5_unlike_3 (k := 1) rfl
theorem dX5_unlike_85 : decode cX5_unlike 85 = .ok (.iconst 0, 1) := fd_get adX5_unlike_3 (k := 2) rfl
theorem dX5_unlike_86 : decode cX5_unlike 86 = .ok (.invokestatic 81, 3) := fd_get adX5_unlike_3 (k := 3) rfl
theorem dX5_unlike_89 : decode cX5_unlike 89 = .ok (.iadd, 1) := fd_get adX5_unlike_3 (k := 4) rfl
theorem dX5_unlike_90 : decode cX5_unlike 90 = .ok (.istore_n 2, 1) := fd_get adX5_unlike_3 (k := 5) rfl
theorem dX5_unlike_91 : decode cX5_unlike 91 = .ok (.iinc 3 1, 3) := fd_get adX5_unlike_3 (k := 6) rfl
theorem dX5_unlike_94 : decode cX5_unlike 94 = .ok (.goto (-90), 3) := fd_get adX5_unlike_3 (k := 7) rfl
theorem dX5_unlike_97 : decode cX5_unlike 97 = .ok (.iload_n 2, 1) := fd_get adX5_unlike_3 (k := 8) rfl
theorem dX5_unlike_98 : decode cX5_unlike 98 = .ok (.ireturn, 1) := fd_get adX5_unlike_3 (k := 9) rfl
set_option maxRecDepth 20000 in
theorem ggX5_viewsOf_X5_one : GoodIn wsX5_viewsOf wsX5_one := goodIn_sub (List.forall_mem_cons.mpr ⟨(List.mem_cons_of_mem _ (List.mem_append_left _ (List.mem_of_getElem? (i := 4) rfl))), (fun _ h => absurd h List.not_mem_nil)⟩) (by decide +kernel)
set_option maxRecDepth 20000 in
theorem gX5_viewsOf_X5_one : GoodIn wsX5_viewsOf (va_wsS RX5 81 yX5_one wsX5_one) := goodIn_app (goodIn_sub (List.forall_mem_cons.mpr ⟨(List.mem_cons_of_mem _ (List.mem_append_left _ (List.mem_of_getElem? (i := 1) rfl))), (List.forall_mem_cons.mpr ⟨(List.mem_cons_of_mem _ (List.mem_append_left _ (List.mem_of_getElem? (i := 2) rfl))), (List.forall_mem_cons.mpr ⟨(List.mem_cons_of_mem _ (List.mem_append_left _ (List.mem_of_getElem? (i := 3) rfl))), (fun _ h => absurd h List.not_mem_nil)⟩)⟩)⟩) (by decide +kernel)) ggX5_viewsOf_X5_one
theorem adX5_viewsOf_0 : fd_rows (cX5_viewsOf.data.toList.drop 0) 0 [(0, some (.iconst 0), 1), (1, some (.istore_n 2), 1), (2, some (.aload_n 0), 1), (3, some (.getfield 22), 3), (6, some (.astore_n 3), 1), (7, some (.aload_n 3), 1), (8, some (.arraylength), 1), (9, some (.istore 4), 2), (11, some (.iconst 0), 1), (12, some (.istore 5), 2), (14, some (.iload 5), 2), (16, some (.iload 4), 2), (18, some (.if_icmp .ge 39), 3), (21, some (.aload_n 3), 1), (22, some (.iload 5), 2), (24, some (.aaload), 1)] = true := by decide +kernel
theorem adX5_viewsOf_1 : fd_rows (cX5_viewsOf.data.toList.drop 25) 25 [(25, some (.astore 6), 2), (27, some (.iload_n 2), 1), (28, some (.aload 6), 2), (30, some (.ifnull 15), 3), (33, some (.aload 6), 2), (35, some (.iconst 0), 1), (36, some (.iaload), 1), (37, some (.iload_n 1), 1), (38, some (.if_icmp .ne 7), 3), (41, some (.iconst 1), 1), (42, some (.goto 4), 3), (45, some (.iconst 0), 1), (46, some (.invokestatic 81), 3), (49, some (.iadd), 1), (50, some (.istore_n 2), 1), (51, some (.iinc 5 1), 3)] = true := by decide +kernel
theorem adX5_viewsOf_2 : fd_rows (cX5_viewsOf.data.toList.drop 54) 54 [(54, some (.goto (-40)), 3), (57, some (.iload_n 2), 1), (58, some (.ireturn), 1)] = true := by decide +kernel
theorem dX5_viewsOf_0 : decode cX5_viewsOf 0 = .ok (.iconst 0, 1) := fd_get adX5_viewsOf_0 (k := 0) rfl
theorem dX5_viewsOf_1 : decode cX5_viewsOf 1 = .ok (.istore_n 2, 1) := fd_get adX5_viewsOf_0 (k := 1) rfl
theorem dX5_viewsOf_2 : decode cX5_viewsOf 2 = .ok (.aload_n 0, 1) := fd_get adX5_viewsOf_0 (k := 2) rfl
theorem dX5_viewsOf_3 : decode cX5_viewsOf 3 = .ok (.getfield 22, 3) := fd_get adX5_viewsOf_0 (k := 3) rfl
theorem dX5_viewsOf_6 : decode cX5_viewsOf 6 = .ok (.astore_n 3, 1) := fd_get adX5_viewsOf_0 (k := 4) rfl
theorem dX5_viewsOf_7 : decode cX5_viewsOf 7 = .ok (.aload_n 3, 1) := fd_get adX5_viewsOf_0 (k := 5) rfl
theorem dX5_viewsOf_8 : decode cX5_viewsOf 8 = .ok (.arraylength, 1) := fd_get adX5_viewsOf_0 (k := 6) rfl
theorem dX5_viewsOf_9 : decode cX5_viewsOf 9 = .ok (.istore 4, 2) := fd_get adX5_viewsOf_0 (k := 7) rfl
theorem dX5_viewsOf_11 : decode cX5_viewsOf 11 = .ok (.iconst 0, 1) := fd_get adX5_viewsOf_0 (k := 8) rfl
theorem dX5_viewsOf_12 : decode cX5_viewsOf 12 = .ok (.istore 5, 2) := fd_get adX5_viewsOf_0 (k := 9) rfl
theorem dX5_viewsOf_14 : decode cX5_viewsOf 14 = .ok (.iload 5, 2) := fd_get adX5_viewsOf_0 (k := 10) rfl
theorem dX5_viewsOf_16 : decode cX5_viewsOf 16 = .ok (.iload 4, 2) := fd_get adX5_viewsOf_0 (k := 11) rfl
theorem dX5_viewsOf_18 : decode cX5_viewsOf 18 = .ok (.if_icmp .ge 39, 3) := fd_get adX5_viewsOf_0 (k := 12) rfl
theorem dX5_viewsOf_21 : decode cX5_viewsOf 21 = .ok (.aload_n 3, 1) := fd_get adX5_viewsOf_0 (k := 13) rfl
theorem dX5_viewsOf_22 : decode cX5_viewsOf 22 = .ok (.iload 5, 2) := fd_get adX5_viewsOf_0 (k := 14) rfl
theorem dX5_viewsOf_24 : decode cX5_viewsOf 24 = .ok (.aaload, 1) := fd_get adX5_viewsOf_0 (k := 15) rfl
theorem dX5_viewsOf_25 : decode cX5_viewsOf 25 = .ok (.astore 6, 2) := fd_get adX5_viewsOf_1 (k := 0) rfl
theorem dX5_viewsOf_27 : decode cX5_viewsOf 27 = .ok (.iload_n 2, 1) := fd_get adX5_viewsOf_1 (k := 1) rfl
theorem dX5_viewsOf_28 : decode cX5_viewsOf 28 = .ok (.aload 6, 2) := fd_get adX5_viewsOf_1 (k := 2) rfl
theorem dX5_viewsOf_30 : decode cX5_viewsOf 30 = .ok (.ifnull 15, 3) := fd_get adX5_viewsOf_1 (k := 3) rfl
theorem dX5_viewsOf_33 : decode cX5_viewsOf 33 = .ok (.aload 6, 2) := fd_get adX5_viewsOf_1 (k := 4) rfl
theorem dX5_viewsOf_35 : decode cX5_viewsOf 35 = .ok (.iconst 0, 1) := fd_get adX5_viewsOf_1 (k := 5) rfl
theorem dX5_viewsOf_36 : decode cX5_viewsOf 36 = .ok (.iaload, 1) := fd_get adX5_viewsOf_1 (k := 6) rfl
theorem dX5_viewsOf_37 : decode cX5_viewsOf 37 = .ok (.iload_n 1, 1) := fd_get adX5_viewsOf_1 (k := 7) rfl
theorem dX5_viewsOf_38 : decode cX5_viewsOf 38 = .ok (.if_icmp .ne 7, 3) := fd_get adX5_viewsOf_1 (k := 8) rfl
theorem dX5_viewsOf_41 : decode cX5_viewsOf 41 = .ok (.iconst 1, 1) := fd_get adX5_viewsOf_1 (k := 9) rfl
theorem dX5_viewsOf_42 : decode cX5_viewsOf 42 = .ok (.goto 4, 3) := fd_get adX5_viewsOf_1 (k := 10) rfl
theorem dX5_viewsOf_45 : decode cX5_viewsOf 45 = .ok (.iconst 0, 1) := fd_get adX5_viewsOf_1 (k := 11) rfl
theorem dX5_viewsOf_46 : decode cX5_viewsOf 46 = .ok (.invokestatic 81, 3) := fd_get adX5_viewsOf_1 (k := 12) rfl
theorem dX5_viewsOf_49 : decode cX5_viewsOf 49 = .ok (.iadd, 1) := fd_get adX5_viewsOf_1 (k := 13) rfl
theorem dX5_viewsOf_50 : decode cX5_viewsOf 50 = .ok (.istore_n 2, 1) := fd_get adX5_viewsOf_1 (k := 14) rfl
theorem dX5_viewsOf_51 : decode cX5_viewsOf 51 = .ok (.iinc 5 1, 3) := fd_get adX5_viewsOf_1 (k := 15) rfl
theorem dX5_viewsOf_54 : decode cX5_viewsOf 54 = .ok (.goto (-40), 3) := fd_get adX5_viewsOf_2 (k := 0) rfl
theorem dX5_viewsOf_57 : decode cX5_viewsOf 57 = .ok (.iload_n 2, 1) := fd_get adX5_viewsOf_2 (k := 1) rfl
theorem dX5_viewsOf_58 : decode cX5_viewsOf 58 = .ok (.ireturn, 1) := fd_get adX5_viewsOf_2 (k := 2) rfl
theorem mwsX5_bookTold_0 : ∀ w ∈ wsX5_bookTold_r1, w ∈ wsX5_bookTold := fun w h => (List.mem_cons_of_mem _ (List.mem_append_left _ (List.mem_append_left _ h)))
theorem mwsX5_bookTold_1 : ∀ w ∈ wsX5_bookTold_r2, w ∈ wsX5_bookTold := fun w h => (List.mem_cons_of_mem _ (List.mem_append_left _ (List.mem_append_right _ (List.mem_append_left _ h))))
theorem mwsX5_bookTold_2 : ∀ w ∈ wsX5_bookTold_r3, w ∈ wsX5_bookTold := fun w h => (List.mem_cons_of_mem _ (List.mem_append_left _ (List.mem_append_right _ (List.mem_append_right _ h))))
theorem mwsX5_bookTold_3 : ∀ w ∈ wsX50, w ∈ wsX5_bookTold := fun w h => (List.mem_cons_of_mem _ (List.mem_append_right _ h))
set_option maxRecDepth 20000 in
theorem ggX5_bookTold_X5_whole : GoodIn wsX5_bookTold wsX5_whole := goodIn_sub (List.forall_mem_cons.mpr ⟨(mwsX5_bookTold_0 _ (List.mem_of_getElem? (i := 4) rfl)), (List.forall_mem_cons.mpr ⟨(mwsX5_bookTold_0 _ (List.mem_of_getElem? (i := 5) rfl)), (fun _ h => absurd h List.not_mem_nil)⟩)⟩) (by decide +kernel)
set_option maxRecDepth 20000 in
theorem gX5_bookTold_X5_whole : GoodIn wsX5_bookTold (va_wsS RX5 85 yX5_whole wsX5_whole) := goodIn_app (goodIn_sub (List.forall_mem_cons.mpr ⟨(mwsX5_bookTold_0 _ (List.mem_of_getElem? (i := 1) rfl)), (List.forall_mem_cons.mpr ⟨(mwsX5_bookTold_0 _ (List.mem_of_getElem? (i := 2) rfl)), (List.forall_mem_cons.mpr ⟨(mwsX5_bookTold_0 _ (List.mem_of_getElem? (i := 3) rfl)), (fun _ h => absurd h List.not_mem_nil)⟩)⟩)⟩) (by decide +kernel)) ggX5_bookTold_X5_whole
set_option maxRecDepth 20000 in
theorem ggX5_bookTold_X5_many : GoodIn wsX5_bookTold wsX5_many := goodIn_sub (tk_mem 4 _ (fun w h => (mwsX5_bookTold_0 _ (tkB_mem 9 4 h))) (List.forall_mem_cons.mpr ⟨(mwsX5_bookTold_0 _ (List.mem_of_getElem? (i := 3) rfl)), (tk_mem 11 _ (fun w h => (mwsX5_bookTold_0 _ (tkB_mem 13 11 h))) (List.forall_mem_cons.mpr ⟨(mwsX5_bookTold_0 _ (List.mem_of_getElem? (i := 0) rfl)), (List.forall_mem_cons.mpr ⟨(mwsX5_bookTold_1 _ (List.mem_of_getElem? (i := 0) rfl)), (List.forall_mem_cons.mpr ⟨(mwsX5_bookTold_1 _ (List.mem_of_getElem? (i := 1) rfl)), (List.forall_mem_cons.mpr ⟨(mwsX5_bookTold_1 _ (List.mem_of_getElem? (i := 2) rfl)), (tk_mem 13 _ (fun w h => (mwsX5_bookTold_3 _ (tkB_mem 0 13 h))) (fun _ h => absurd h List.not_mem_nil))⟩)⟩)⟩)⟩))⟩)) (by decide +kernel)
set_option maxRecDepth 20000 in
theorem gX5_bookTold_X5_many : GoodIn wsX5_bookTold (wsV RX5 163 RX5 yX5_many wsX5_many) := goodIn_app (goodIn_sub (List.forall_mem_cons.mpr ⟨(mwsX5_bookTold_0 _ (List.mem_of_getElem? (i := 6) rfl)), (List.forall_mem_cons.mpr ⟨(mwsX5_bookTold_0 _ (List.mem_of_getElem? (i := 7) rfl)), (List.forall_mem_cons.mpr ⟨(mwsX5_bookTold_0 _ (List.mem_of_getElem? (i := 8) rfl)), (List.forall_mem_cons.mpr ⟨(mwsX5_bookTold_0 _ (List.mem_of_getElem? (i := 3) rfl)), (fun _ h => absurd h List.not_mem_nil)⟩)⟩)⟩)⟩) (by decide +kernel)) ggX5_bookTold_X5_many
set_option maxRecDepth 20000 in
theorem ggX5_bookTold_X5_end : GoodIn wsX5_bookTold wsX5_end := goodIn_sub (tk_mem 4 _ (fun w h => (mwsX5_bookTold_1 _ (tkB_mem 6 4 h))) (List.forall_mem_cons.mpr ⟨(mwsX5_bookTold_0 _ (List.mem_of_getElem? (i := 3) rfl)), (List.forall_mem_cons.mpr ⟨(mwsX5_bookTold_1 _ (List.mem_of_getElem? (i := 10) rfl)), (tk_mem 14 _ (fun w h => (mwsX5_bookTold_0 _ (tkB_mem 10 14 h))) (List.forall_mem_cons.mpr ⟨(mwsX5_bookTold_0 _ (List.mem_of_getElem? (i := 0) rfl)), (tk_mem 13 _ (fun w h => (mwsX5_bookTold_3 _ (tkB_mem 0 13 h))) (fun _ h => absurd h List.not_mem_nil))⟩))⟩)⟩)) (by decide +kernel)
set_option maxRecDepth 20000 in
theorem gX5_bookTold_X5_end : GoodIn wsX5_bookTold (wsV RX5 96 RX5 yX5_end wsX5_end) := goodIn_app (goodIn_sub (List.forall_mem_cons.mpr ⟨(mwsX5_bookTold_1 _ (List.mem_of_getElem? (i := 3) rfl)), (List.forall_mem_cons.mpr ⟨(mwsX5_bookTold_1 _ (List.mem_of_getElem? (i := 4) rfl)), (List.forall_mem_cons.mpr ⟨(mwsX5_bookTold_1 _ (List.mem_of_getElem? (i := 5) rfl)), (List.forall_mem_cons.mpr ⟨(mwsX5_bookTold_0 _ (List.mem_of_getElem? (i := 3) rfl)), (fun _ h => absurd h List.not_mem_nil)⟩)⟩)⟩)⟩) (by decide +kernel)) ggX5_bookTold_X5_end
set_option maxRecDepth 20000 in
theorem ggX5_bookTold_X5_valueOf : GoodIn wsX5_bookTold wsX5_valueOf := goodIn_sub (List.forall_mem_cons.mpr ⟨(mwsX5_bookTold_1 _ (List.mem_of_getElem? (i := 14) rfl)), (List.forall_mem_cons.mpr ⟨(mwsX5_bookTold_0 _ (List.mem_of_getElem? (i := 14) rfl)), (tk_mem 13 _ (fun w h => (mwsX5_bookTold_3 _ (tkB_mem 0 13 h))) (fun _ h => absurd h List.not_mem_nil))⟩)⟩) (by decide +kernel)
set_option maxRecDepth 20000 in
theorem gX5_bookTold_X5_valueOf : GoodIn wsX5_bookTold (wsV RX5 189 RX5 yX5_valueOf wsX5_valueOf) := goodIn_app (goodIn_sub (List.forall_mem_cons.mpr ⟨(mwsX5_bookTold_1 _ (List.mem_of_getElem? (i := 11) rfl)), (List.forall_mem_cons.mpr ⟨(mwsX5_bookTold_1 _ (List.mem_of_getElem? (i := 12) rfl)), (List.forall_mem_cons.mpr ⟨(mwsX5_bookTold_1 _ (List.mem_of_getElem? (i := 13) rfl)), (List.forall_mem_cons.mpr ⟨(mwsX5_bookTold_0 _ (List.mem_of_getElem? (i := 3) rfl)), (fun _ h => absurd h List.not_mem_nil)⟩)⟩)⟩)⟩) (by decide +kernel)) ggX5_bookTold_X5_valueOf
set_option maxRecDepth 20000 in
theorem ggX5_bookTold_X5_sum : GoodIn wsX5_bookTold wsX5_sum := goodIn_sub (List.forall_mem_cons.mpr ⟨(mwsX5_bookTold_1 _ (List.mem_of_getElem? (i := 18) rfl)), (List.forall_mem_cons.mpr ⟨(mwsX5_bookTold_0 _ (List.mem_of_getElem? (i := 14) rfl)), (List.forall_mem_cons.mpr ⟨(mwsX5_bookTold_0 _ (List.mem_of_getElem? (i := 10) rfl)), (List.forall_mem_cons.mpr ⟨(mwsX5_bookTold_0 _ (List.mem_of_getElem? (i := 11) rfl)), (List.forall_mem_cons.mpr ⟨(mwsX5_bookTold_0 _ (List.mem_of_getElem? (i := 12) rfl)), (List.forall_mem_cons.mpr ⟨(mwsX5_bookTold_0 _ (List.mem_of_getElem? (i := 3) rfl)), (List.forall_mem_cons.mpr ⟨(mwsX5_bookTold_0 _ (List.mem_of_getElem? (i := 13) rfl)), (tk_mem 9 _ (fun w h => (mwsX5_bookTold_0 _ (tkB_mem 15 9 h))) (List.forall_mem_cons.mpr ⟨(mwsX5_bookTold_0 _ (List.mem_of_getElem? (i := 0) rfl)), (tk_mem 13 _ (fun w h => (mwsX5_bookTold_3 _ (tkB_mem 0 13 h))) (fun _ h => absurd h List.not_mem_nil))⟩))⟩)⟩)⟩)⟩)⟩)⟩)⟩) (by decide +kernel)
set_option maxRecDepth 20000 in
theorem gX5_bookTold_X5_sum : GoodIn wsX5_bookTold (wsV RX5 192 RX5 yX5_sum wsX5_sum) := goodIn_app (goodIn_sub (List.forall_mem_cons.mpr ⟨(mwsX5_bookTold_1 _ (List.mem_of_getElem? (i := 15) rfl)), (List.forall_mem_cons.mpr ⟨(mwsX5_bookTold_1 _ (List.mem_of_getElem? (i := 16) rfl)), (List.forall_mem_cons.mpr ⟨(mwsX5_bookTold_1 _ (List.mem_of_getElem? (i := 17) rfl)), (List.forall_mem_cons.mpr ⟨(mwsX5_bookTold_0 _ (List.mem_of_getElem? (i := 3) rfl)), (fun _ h => absurd h List.not_mem_nil)⟩)⟩)⟩)⟩) (by decide +kernel)) ggX5_bookTold_X5_sum
set_option maxRecDepth 20000 in
theorem ggX5_bookTold_X5_unlike : GoodIn wsX5_bookTold wsX5_unlike := goodIn_sub (List.forall_mem_cons.mpr ⟨(mwsX5_bookTold_1 _ (List.mem_of_getElem? (i := 22) rfl)), (List.forall_mem_cons.mpr ⟨(mwsX5_bookTold_0 _ (List.mem_of_getElem? (i := 14) rfl)), (List.forall_mem_cons.mpr ⟨(mwsX5_bookTold_1 _ (List.mem_of_getElem? (i := 0) rfl)), (List.forall_mem_cons.mpr ⟨(mwsX5_bookTold_1 _ (List.mem_of_getElem? (i := 1) rfl)), (List.forall_mem_cons.mpr ⟨(mwsX5_bookTold_0 _ (List.mem_of_getElem? (i := 3) rfl)), (List.forall_mem_cons.mpr ⟨(mwsX5_bookTold_1 _ (List.mem_of_getElem? (i := 2) rfl)), (tk_mem 13 _ (fun w h => (mwsX5_bookTold_3 _ (tkB_mem 0 13 h))) (fun _ h => absurd h List.not_mem_nil))⟩)⟩)⟩)⟩)⟩)⟩) (by decide +kernel)
set_option maxRecDepth 20000 in
theorem gX5_bookTold_X5_unlike : GoodIn wsX5_bookTold (wsV RX5 195 RX5 yX5_unlike wsX5_unlike) := goodIn_app (goodIn_sub (List.forall_mem_cons.mpr ⟨(mwsX5_bookTold_1 _ (List.mem_of_getElem? (i := 19) rfl)), (List.forall_mem_cons.mpr ⟨(mwsX5_bookTold_1 _ (List.mem_of_getElem? (i := 20) rfl)), (List.forall_mem_cons.mpr ⟨(mwsX5_bookTold_1 _ (List.mem_of_getElem? (i := 21) rfl)), (List.forall_mem_cons.mpr ⟨(mwsX5_bookTold_0 _ (List.mem_of_getElem? (i := 3) rfl)), (fun _ h => absurd h List.not_mem_nil)⟩)⟩)⟩)⟩) (by decide +kernel)) ggX5_bookTold_X5_unlike
set_option maxRecDepth 20000 in
theorem ggX5_bookTold_X5_viewsOf : GoodIn wsX5_bookTold wsX5_viewsOf := goodIn_sub (List.forall_mem_cons.mpr ⟨(mwsX5_bookTold_2 _ (List.mem_of_getElem? (i := 2) rfl)), (List.forall_mem_cons.mpr ⟨(mwsX5_bookTold_2 _ (List.mem_of_getElem? (i := 3) rfl)), (List.forall_mem_cons.mpr ⟨(mwsX5_bookTold_1 _ (List.mem_of_getElem? (i := 0) rfl)), (List.forall_mem_cons.mpr ⟨(mwsX5_bookTold_1 _ (List.mem_of_getElem? (i := 1) rfl)), (List.forall_mem_cons.mpr ⟨(mwsX5_bookTold_0 _ (List.mem_of_getElem? (i := 3) rfl)), (List.forall_mem_cons.mpr ⟨(mwsX5_bookTold_1 _ (List.mem_of_getElem? (i := 2) rfl)), (tk_mem 13 _ (fun w h => (mwsX5_bookTold_3 _ (tkB_mem 0 13 h))) (fun _ h => absurd h List.not_mem_nil))⟩)⟩)⟩)⟩)⟩)⟩) (by decide +kernel)
set_option maxRecDepth 20000 in
theorem gX5_bookTold_X5_viewsOf : GoodIn wsX5_bookTold (wsV RX5 198 RX5 yX5_viewsOf wsX5_viewsOf) := goodIn_app (goodIn_sub (List.forall_mem_cons.mpr ⟨(mwsX5_bookTold_1 _ (List.mem_of_getElem? (i := 23) rfl)), (List.forall_mem_cons.mpr ⟨(mwsX5_bookTold_2 _ (List.mem_of_getElem? (i := 0) rfl)), (List.forall_mem_cons.mpr ⟨(mwsX5_bookTold_2 _ (List.mem_of_getElem? (i := 1) rfl)), (List.forall_mem_cons.mpr ⟨(mwsX5_bookTold_0 _ (List.mem_of_getElem? (i := 3) rfl)), (fun _ h => absurd h List.not_mem_nil)⟩)⟩)⟩)⟩) (by decide +kernel)) ggX5_bookTold_X5_viewsOf
theorem adX5_bookTold_0 : fd_rows (cX5_bookTold.data.toList.drop 0) 0 [(0, some (.iload_n 1), 1), (1, some (.invokestatic 85), 3), (4, some (.astore_n 3), 1), (5, some (.iload_n 2), 1), (6, none, 46), (52, some (.aload_n 0), 1), (53, some (.aload_n 3), 1), (54, some (.invokevirtual 163), 3), (57, some (.ireturn), 1), (58, some (.aload_n 0), 1), (59, some (.getfield 14), 3), (62, some (.iload_n 1), 1), (63, some (.iaload), 1), (64, some (.ireturn), 1), (65, some (.aload_n 0), 1), (66, some (.aload_n 3), 1)] = true := by decide +kernel
theorem adX5_bookTold_1 : fd_rows (cX5_bookTold.data.toList.drop 67) 67 [(67, some (.iconst 0), 1), (68, some (.invokevirtual 96), 3), (71, some (.ireturn), 1), (72, some (.aload_n 0), 1), (73, some (.iload_n 1), 1), (74, some (.aload_n 0), 1), (75, some (.aload_n 3), 1), (76, some (.iconst 0), 1), (77, some (.invokevirtual 96), 3), (80, some (.invokevirtual 189), 3), (83, some (.ireturn), 1), (84, some (.aload_n 0), 1), (85, some (.aload_n 3), 1), (86, some (.iconst 1), 1), (87, some (.invokevirtual 96), 3), (90, some (.ireturn), 1)] = true := by decide +kernel
theorem adX5_bookTold_2 : fd_rows (cX5_bookTold.data.toList.drop 91) 91 [(91, some (.aload_n 0), 1), (92, some (.iload_n 1), 1), (93, some (.aload_n 0), 1), (94, some (.aload_n 3), 1), (95, some (.iconst 1), 1), (96, some (.invokevirtual 96), 3), (99, some (.invokevirtual 189), 3), (102, some (.ireturn), 1), (103, some (.aload_n 0), 1), (104, some (.aload_n 3), 1), (105, some (.invokevirtual 192), 3), (108, some (.ireturn), 1), (109, some (.aload_n 0), 1), (110, some (.iload_n 1), 1), (111, some (.invokevirtual 195), 3), (114, some (.ireturn), 1)] = true := by decide +kernel
theorem adX5_bookTold_3 : fd_rows (cX5_bookTold.data.toList.drop 115) 115 [(115, some (.aload_n 0), 1), (116, some (.iload_n 1), 1), (117, some (.invokevirtual 198), 3), (120, some (.ireturn), 1)] = true := by decide +kernel
theorem dX5_bookTold_0 : decode cX5_bookTold 0 = .ok (.iload_n 1, 1) := fd_get adX5_bookTold_0 (k := 0) rfl
theorem dX5_bookTold_1 : decode cX5_bookTold 1 = .ok (.invokestatic 85, 3) := fd_get adX5_bookTold_0 (k := 1) rfl
theorem dX5_bookTold_4 : decode cX5_bookTold 4 = .ok (.astore_n 3, 1) := fd_get adX5_bookTold_0 (k := 2) rfl
theorem dX5_bookTold_5 : decode cX5_bookTold 5 = .ok (.iload_n 2, 1) := fd_get adX5_bookTold_0 (k := 3) rfl
theorem dX5_bookTold_6 : decode cX5_bookTold 6 = .ok (.tableswitch 109 0 7 #[46, 52, 59, 66, 78, 85, 97, 103], 46) := by decide +kernel
theorem dX5_bookTold_52 : decode cX5_bookTold 52 = .ok (.aload_n 0, 1) := fd_get adX5_bookTold_0 (k := 5) rfl
theorem dX5_bookTold_53 : decode cX5_bookTold 53 = .ok (.aload_n 3, 1) := fd_get adX5_bookTold_0 (k := 6) rfl
theorem dX5_bookTold_54 : decode cX5_bookTold 54 = .ok (.invokevirtual 163, 3) := fd_get adX5_bookTold_0 (k := 7) rfl
theorem dX5_bookTold_57 : decode cX5_bookTold 57 = .ok (.ireturn, 1) := fd_get adX5_bookTold_0 (k := 8) rfl
theorem dX5_bookTold_58 : decode cX5_bookTold 58 = .ok (.aload_n 0, 1) := fd_get adX5_bookTold_0 (k := 9) rfl
theorem dX5_bookTold_59 : decode cX5_bookTold 59 = .ok (.getfield 14, 3) := fd_get adX5_bookTold_0 (k := 10) rfl
theorem dX5_bookTold_62 : decode cX5_bookTold 62 = .ok (.iload_n 1, 1) := fd_get adX5_bookTold_0 (k := 11) rfl
theorem dX5_bookTold_63 : decode cX5_bookTold 63 = .ok (.iaload, 1) := fd_get adX5_bookTold_0 (k := 12) rfl
theorem dX5_bookTold_64 : decode cX5_bookTold 64 = .ok (.ireturn, 1) := fd_get adX5_bookTold_0 (k := 13) rfl
theorem dX5_bookTold_65 : decode cX5_bookTold 65 = .ok (.aload_n 0, 1) := fd_get adX5_bookTold_0 (k := 14) rfl
theorem dX5_bookTold_66 : decode cX5_bookTold 66 = .ok (.aload_n 3, 1) := fd_get adX5_bookTold_0 (k := 15) rfl
theorem dX5_bookTold_67 : decode cX5_bookTold 67 = .ok (.iconst 0, 1) := fd_get adX5_bookTold_1 (k := 0) rfl
theorem dX5_bookTold_68 : decode cX5_bookTold 68 = .ok (.invokevirtual 96, 3) := fd_get adX5_bookTold_1 (k := 1) rfl
theorem dX5_bookTold_71 : decode cX5_bookTold 71 = .ok (.ireturn, 1) := fd_get adX5_bookTold_1 (k := 2) rfl
theorem dX5_bookTold_72 : decode cX5_bookTold 72 = .ok (.aload_n 0, 1) := fd_get adX5_bookTold_1 (k := 3) rfl
theorem dX5_bookTold_73 : decode cX5_bookTold 73 = .ok (.iload_n 1, 1) := fd_get adX5_bookTold_1 (k := 4) rfl
theorem dX5_bookTold_74 : decode cX5_bookTold 74 = .ok (.aload_n 0, 1) := fd_get adX5_bookTold_1 (k := 5) rfl
theorem dX5_bookTold_75 : decode cX5_bookTold 75 = .ok (.aload_n 3, 1) := fd_get adX5_bookTold_1 (k := 6) rfl
theorem dX5_bookTold_76 : decode cX5_bookTold 76 = .ok (.iconst 0, 1) := fd_get adX5_bookTold_1 (k := 7) rfl
theorem dX5_bookTold_77 : decode cX5_bookTold 77 = .ok (.invokevirtual 96, 3) := fd_get adX5_bookTold_1 (k := 8) rfl
theorem dX5_bookTold_80 : decode cX5_bookTold 80 = .ok (.invokevirtual 189, 3) := fd_get adX5_bookTold_1 (k := 9) rfl
theorem dX5_bookTold_83 : decode cX5_bookTold 83 = .ok (.ireturn, 1) := fd_get adX5_bookTold_1 (k := 10) rfl
theorem dX5_bookTold_84 : decode cX5_bookTold 84 = .ok (.aload_n 0, 1) := fd_get adX5_bookTold_1 (k := 11) rfl
theorem dX5_bookTold_85 : decode cX5_bookTold 85 = .ok (.aload_n 3, 1) := fd_get adX5_bookTold_1 (k := 12) rfl
theorem dX5_bookTold_86 : decode cX5_bookTold 86 = .ok (.iconst 1, 1) := fd_get adX5_bookTold_1 (k := 13) rfl
theorem dX5_bookTold_87 : decode cX5_bookTold 87 = .ok (.invokevirtual 96, 3) := fd_get adX5_bookTold_1 (k := 14) rfl
theorem dX5_bookTold_90 : decode cX5_bookTold 90 = .ok (.ireturn, 1) := fd_get adX5_bookTold_1 (k := 15) rfl
theorem dX5_bookTold_91 : decode cX5_bookTold 91 = .ok (.aload_n 0, 1) := fd_get adX5_bookTold_2 (k := 0) rfl
theorem dX5_bookTold_92 : decode cX5_bookTold 92 = .ok (.iload_n 1, 1) := fd_get adX5_bookTold_2 (k := 1) rfl
theorem dX5_bookTold_93 : decode cX5_bookTold 93 = .ok (.aload_n 0, 1) := fd_get adX5_bookTold_2 (k := 2) rfl
theorem dX5_bookTold_94 : decode cX5_bookTold 94 = .ok (.aload_n 3, 1) := fd_get adX5_bookTold_2 (k := 3) rfl
theorem dX5_bookTold_95 : decode cX5_bookTold 95 = .ok (.iconst 1, 1) := fd_get adX5_bookTold_2 (k := 4) rfl
theorem dX5_bookTold_96 : decode cX5_bookTold 96 = .ok (.invokevirtual 96, 3) := fd_get adX5_bookTold_2 (k := 5) rfl
theorem dX5_bookTold_99 : decode cX5_bookTold 99 = .ok (.invokevirtual 189, 3) := fd_get adX5_bookTold_2 (k := 6) rfl
theorem dX5_bookTold_102 : decode cX5_bookTold 102 = .ok (.ireturn, 1) := fd_get adX5_bookTold_2 (k := 7) rfl
theorem dX5_bookTold_103 : decode cX5_bookTold 103 = .ok (.aload_n 0, 1) := fd_get adX5_bookTold_2 (k := 8) rfl
theorem dX5_bookTold_104 : decode cX5_bookTold 104 = .ok (.aload_n 3, 1) := fd_get adX5_bookTold_2 (k := 9) rfl
theorem dX5_bookTold_105 : decode cX5_bookTold 105 = .ok (.invokevirtual 192, 3) := fd_get adX5_bookTold_2 (k := 10) rfl
theorem dX5_bookTold_108 : decode cX5_bookTold 108 = .ok (.ireturn, 1) := fd_get adX5_bookTold_2 (k := 11) rfl
theorem dX5_bookTold_109 : decode cX5_bookTold 109 = .ok (.aload_n 0, 1) := fd_get adX5_bookTold_2 (k := 12) rfl
theorem dX5_bookTold_110 : decode cX5_bookTold 110 = .ok (.iload_n 1, 1) := fd_get adX5_bookTold_2 (k := 13) rfl
theorem dX5_bookTold_111 : decode cX5_bookTold 111 = .ok (.invokevirtual 195, 3) := fd_get adX5_bookTold_2 (k := 14) rfl
theorem dX5_bookTold_114 : decode cX5_bookTold 114 = .ok (.ireturn, 1) := fd_get adX5_bookTold_2 (k := 15) rfl
theorem dX5_bookTold_115 : decode cX5_bookTold 115 = .ok (.aload_n 0, 1) := fd_get adX5_bookTold_3 (k := 0) rfl
theorem dX5_bookTold_116 : decode cX5_bookTold 116 = .ok (.iload_n 1, 1) := fd_get adX5_bookTold_3 (k := 1) rfl
theorem dX5_bookTold_117 : decode cX5_bookTold 117 = .ok (.invokevirtual 198, 3) := fd_get adX5_bookTold_3 (k := 2) rfl
theorem dX5_bookTold_120 : decode cX5_bookTold 120 = .ok (.ireturn, 1) := fd_get adX5_bookTold_3 (k := 3) rfl
theorem mwsX5_ofBook_0 : ∀ w ∈ wsX5_ofBook_r1, w ∈ wsX5_ofBook := fun w h => (List.mem_cons_of_mem _ (List.mem_append_left _ (List.mem_append_left _ h)))
theorem mwsX5_ofBook_1 : ∀ w ∈ wsX5_ofBook_r2, w ∈ wsX5_ofBook := fun w h => (List.mem_cons_of_mem _ (List.mem_append_left _ (List.mem_append_right _ (List.mem_append_left _ h))))
theorem mwsX5_ofBook_2 : ∀ w ∈ wsX5_ofBook_r3, w ∈ wsX5_ofBook := fun w h => (List.mem_cons_of_mem _ (List.mem_append_left _ (List.mem_append_right _ (List.mem_append_right _ h))))
theorem mwsX5_ofBook_3 : ∀ w ∈ wsX50, w ∈ wsX5_ofBook := fun w h => (List.mem_cons_of_mem _ (List.mem_append_right _ h))
set_option maxRecDepth 20000 in
theorem ggX5_ofBook_X5_isNoBook : GoodIn wsX5_ofBook wsX5_isNoBook := goodIn_sub (List.forall_mem_cons.mpr ⟨(mwsX5_ofBook_0 _ (List.mem_of_getElem? (i := 3) rfl)), (List.forall_mem_cons.mpr ⟨(mwsX5_ofBook_0 _ (List.mem_of_getElem? (i := 4) rfl)), (List.forall_mem_cons.mpr ⟨(mwsX5_ofBook_0 _ (List.mem_of_getElem? (i := 5) rfl)), (List.forall_mem_cons.mpr ⟨(mwsX5_ofBook_0 _ (List.mem_of_getElem? (i := 2) rfl)), (List.forall_mem_cons.mpr ⟨(mwsX5_ofBook_0 _ (List.mem_of_getElem? (i := 6) rfl)), (fun _ h => absurd h List.not_mem_nil)⟩)⟩)⟩)⟩)⟩) (by decide +kernel)
set_option maxRecDepth 20000 in
theorem gX5_ofBook_X5_isNoBook : GoodIn wsX5_ofBook (va_wsS RX5 53 yX5_isNoBook wsX5_isNoBook) := goodIn_app (goodIn_sub (List.forall_mem_cons.mpr ⟨(mwsX5_ofBook_0 _ (List.mem_of_getElem? (i := 0) rfl)), (List.forall_mem_cons.mpr ⟨(mwsX5_ofBook_0 _ (List.mem_of_getElem? (i := 1) rfl)), (List.forall_mem_cons.mpr ⟨(mwsX5_ofBook_0 _ (List.mem_of_getElem? (i := 2) rfl)), (fun _ h => absurd h List.not_mem_nil)⟩)⟩)⟩) (by decide +kernel)) ggX5_ofBook_X5_isNoBook
set_option maxRecDepth 20000 in
theorem ggX5_ofBook_X5_start : GoodIn wsX5_ofBook wsX5_start := goodIn_sub (tk_mem 5 _ (fun w h => (mwsX5_ofBook_0 _ (tkB_mem 10 5 h))) (List.forall_mem_cons.mpr ⟨(mwsX5_ofBook_0 _ (List.mem_of_getElem? (i := 2) rfl)), (List.forall_mem_cons.mpr ⟨(mwsX5_ofBook_0 _ (List.mem_of_getElem? (i := 15) rfl)), (tk_mem 13 _ (fun w h => (mwsX5_ofBook_3 _ (tkB_mem 0 13 h))) (fun _ h => absurd h List.not_mem_nil))⟩)⟩)) (by decide +kernel)
set_option maxRecDepth 20000 in
theorem gX5_ofBook_X5_start : GoodIn wsX5_ofBook (wsV RX5 57 RX5 yX5_start wsX5_start) := goodIn_app (goodIn_sub (List.forall_mem_cons.mpr ⟨(mwsX5_ofBook_0 _ (List.mem_of_getElem? (i := 7) rfl)), (List.forall_mem_cons.mpr ⟨(mwsX5_ofBook_0 _ (List.mem_of_getElem? (i := 8) rfl)), (List.forall_mem_cons.mpr ⟨(mwsX5_ofBook_0 _ (List.mem_of_getElem? (i := 9) rfl)), (List.forall_mem_cons.mpr ⟨(mwsX5_ofBook_0 _ (List.mem_of_getElem? (i := 2) rfl)), (fun _ h => absurd h List.not_mem_nil)⟩)⟩)⟩)⟩) (by decide +kernel)) ggX5_ofBook_X5_start
set_option maxRecDepth 20000 in
theorem ggX5_ofBook_X5_isIn : GoodIn wsX5_ofBook wsX5_isIn := goodIn_sub (List.forall_mem_cons.mpr ⟨(mwsX5_ofBook_0 _ (List.mem_of_getElem? (i := 6) rfl)), (fun _ h => absurd h List.not_mem_nil)⟩) (by decide +kernel)
set_option maxRecDepth 20000 in
theorem gX5_ofBook_X5_isIn : GoodIn wsX5_ofBook (va_wsS RX5 49 yX5_isIn wsX5_isIn) := goodIn_app (goodIn_sub (List.forall_mem_cons.mpr ⟨(mwsX5_ofBook_0 _ (List.mem_of_getElem? (i := 4) rfl)), (List.forall_mem_cons.mpr ⟨(mwsX5_ofBook_0 _ (List.mem_of_getElem? (i := 5) rfl)), (List.forall_mem_cons.mpr ⟨(mwsX5_ofBook_0 _ (List.mem_of_getElem? (i := 2) rfl)), (fun _ h => absurd h List.not_mem_nil)⟩)⟩)⟩) (by decide +kernel)) ggX5_ofBook_X5_isIn
set_option maxRecDepth 20000 in
theorem ggX5_ofBook_X5_refuse : GoodIn wsX5_ofBook wsX5_refuse := goodIn_sub (List.forall_mem_cons.mpr ⟨(mwsX5_ofBook_0 _ (List.mem_of_getElem? (i := 15) rfl)), (List.forall_mem_cons.mpr ⟨(mwsX5_ofBook_0 _ (List.mem_of_getElem? (i := 11) rfl)), (tk_mem 13 _ (fun w h => (mwsX5_ofBook_3 _ (tkB_mem 0 13 h))) (fun _ h => absurd h List.not_mem_nil))⟩)⟩) (by decide +kernel)
set_option maxRecDepth 20000 in
theorem gX5_ofBook_X5_refuse : GoodIn wsX5_ofBook (wsV RX5 45 RX5 yX5_refuse wsX5_refuse) := goodIn_app (goodIn_sub (List.forall_mem_cons.mpr ⟨(mwsX5_ofBook_0 _ (List.mem_of_getElem? (i := 12) rfl)), (List.forall_mem_cons.mpr ⟨(mwsX5_ofBook_0 _ (List.mem_of_getElem? (i := 13) rfl)), (List.forall_mem_cons.mpr ⟨(mwsX5_ofBook_0 _ (List.mem_of_getElem? (i := 14) rfl)), (List.forall_mem_cons.mpr ⟨(mwsX5_ofBook_0 _ (List.mem_of_getElem? (i := 2) rfl)), (fun _ h => absurd h List.not_mem_nil)⟩)⟩)⟩)⟩) (by decide +kernel)) ggX5_ofBook_X5_refuse
set_option maxRecDepth 20000 in
theorem ggX5_ofBook_X5_bookTold : GoodIn wsX5_ofBook wsX5_bookTold := goodIn_sub (tk_mem 4 _ (fun w h => (mwsX5_ofBook_0 _ (tkB_mem 19 4 h))) (List.forall_mem_cons.mpr ⟨(mwsX5_ofBook_0 _ (List.mem_of_getElem? (i := 2) rfl)), (List.forall_mem_cons.mpr ⟨(mwsX5_ofBook_0 _ (List.mem_of_getElem? (i := 23) rfl)), (tk_mem 24 _ (fun w h => (mwsX5_ofBook_1 _ (tkB_mem 0 24 h))) (tk_mem 23 _ (fun w h => (mwsX5_ofBook_2 _ (tkB_mem 0 23 h))) (tk_mem 13 _ (fun w h => (mwsX5_ofBook_3 _ (tkB_mem 0 13 h))) (fun _ h => absurd h List.not_mem_nil))))⟩)⟩)) (by decide +kernel)
set_option maxRecDepth 20000 in
theorem gX5_ofBook_X5_bookTold : GoodIn wsX5_ofBook (wsV RX5 201 RX5 yX5_bookTold wsX5_bookTold) := goodIn_app (goodIn_sub (List.forall_mem_cons.mpr ⟨(mwsX5_ofBook_0 _ (List.mem_of_getElem? (i := 16) rfl)), (List.forall_mem_cons.mpr ⟨(mwsX5_ofBook_0 _ (List.mem_of_getElem? (i := 17) rfl)), (List.forall_mem_cons.mpr ⟨(mwsX5_ofBook_0 _ (List.mem_of_getElem? (i := 18) rfl)), (List.forall_mem_cons.mpr ⟨(mwsX5_ofBook_0 _ (List.mem_of_getElem? (i := 2) rfl)), (fun _ h => absurd h List.not_mem_nil)⟩)⟩)⟩)⟩) (by decide +kernel)) ggX5_ofBook_X5_bookTold
theorem adX5_ofBook_0 : fd_rows (cX5_ofBook.data.toList.drop 0) 0 [(0, some (.aload_n 0), 1), (1, some (.iload_n 1), 1), (2, some (.invokestatic 53), 3), (5, some (.iconst 1), 1), (6, some (.invokevirtual 57), 3), (9, some (.ifCond .ne 26), 3), (12, some (.aload_n 0), 1), (13, some (.iload_n 2), 1), (14, some (.iconst 0), 1), (15, some (.bipush 8), 2), (17, some (.invokestatic 49), 3), (20, some (.ifCond .ne 7), 3), (23, some (.iconst 1), 1), (24, some (.goto 4), 3), (27, some (.iconst 0), 1), (28, some (.iconst 2), 1)] = true := by decide +kernel
theorem adX5_ofBook_1 : fd_rows (cX5_ofBook.data.toList.drop 29) 29 [(29, some (.invokevirtual 45), 3), (32, some (.ifCond .eq 7), 3), (35, some (.iconst 0), 1), (36, some (.goto 9), 3), (39, some (.aload_n 0), 1), (40, some (.iload_n 1), 1), (41, some (.iload_n 2), 1), (42, some (.invokevirtual 201), 3), (45, some (.ireturn), 1)] = true := by decide +kernel
theorem dX5_ofBook_0 : decode cX5_ofBook 0 = .ok (.aload_n 0, 1) := fd_get adX5_ofBook_0 (k := 0) rfl
theorem dX5_ofBook_1 : decode cX5_ofBook 1 = .ok (.iload_n 1, 1) := fd_get adX5_ofBook_0 (k := 1) rfl
theorem dX5_ofBook_2 : decode cX5_ofBook 2 = .ok (.invokestatic 53, 3) := fd_get adX5_ofBook_0 (k := 2) rfl
theorem dX5_ofBook_5 : decode cX5_ofBook 5 = .ok (.iconst 1, 1) := fd_get adX5_ofBook_0 (k := 3) rfl
theorem dX5_ofBook_6 : decode cX5_ofBook 6 = .ok (.invokevirtual 57, 3) := fd_get adX5_ofBook_0 (k := 4) rfl
theorem dX5_ofBook_9 : decode cX5_ofBook 9 = .ok (.ifCond .ne 26, 3) := fd_get adX5_ofBook_0 (k := 5) rfl
theorem dX5_ofBook_12 : decode cX5_ofBook 12 = .ok (.aload_n 0, 1) := fd_get adX5_ofBook_0 (k := 6) rfl
theorem dX5_ofBook_13 : decode cX5_ofBook 13 = .ok (.iload_n 2, 1) := fd_get adX5_ofBook_0 (k := 7) rfl
theorem dX5_ofBook_14 : decode cX5_ofBook 14 = .ok (.iconst 0, 1) := fd_get adX5_ofBook_0 (k := 8) rfl
theorem dX5_ofBook_15 : decode cX5_ofBook 15 = .ok (.bipush 8, 2) := fd_get adX5_ofBook_0 (k := 9) rfl
theorem dX5_ofBook_17 : decode cX5_ofBook 17 = .ok (.invokestatic 49, 3) := fd_get adX5_ofBook_0 (k := 10) rfl
theorem dX5_ofBook_20 : decode cX5_ofBook 20 = .ok (.ifCond .ne 7, 3) := fd_get adX5_ofBook_0 (k := 11) rfl
theorem dX5_ofBook_23 : decode cX5_ofBook 23 = .ok (.iconst 1, 1) := fd_get adX5_ofBook_0 (k := 12) rfl
theorem dX5_ofBook_24 : decode cX5_ofBook 24 = .ok (.goto 4, 3) := fd_get adX5_ofBook_0 (k := 13) rfl
theorem dX5_ofBook_27 : decode cX5_ofBook 27 = .ok (.iconst 0, 1) := fd_get adX5_ofBook_0 (k := 14) rfl
theorem dX5_ofBook_28 : decode cX5_ofBook 28 = .ok (.iconst 2, 1) := fd_get adX5_ofBook_0 (k := 15) rfl
theorem dX5_ofBook_29 : decode cX5_ofBook 29 = .ok (.invokevirtual 45, 3) := fd_get adX5_ofBook_1 (k := 0) rfl
theorem dX5_ofBook_32 : decode cX5_ofBook 32 = .ok (.ifCond .eq 7, 3) := fd_get adX5_ofBook_1 (k := 1) rfl
theorem dX5_ofBook_35 : decode cX5_ofBook 35 = .ok (.iconst 0, 1) := fd_get adX5_ofBook_1 (k := 2) rfl
theorem dX5_ofBook_36 : decode cX5_ofBook 36 = .ok (.goto 9, 3) := fd_get adX5_ofBook_1 (k := 3) rfl
theorem dX5_ofBook_39 : decode cX5_ofBook 39 = .ok (.aload_n 0, 1) := fd_get adX5_ofBook_1 (k := 4) rfl
theorem dX5_ofBook_40 : decode cX5_ofBook 40 = .ok (.iload_n 1, 1) := fd_get adX5_ofBook_1 (k := 5) rfl
theorem dX5_ofBook_41 : decode cX5_ofBook 41 = .ok (.iload_n 2, 1) := fd_get adX5_ofBook_1 (k := 6) rfl
theorem dX5_ofBook_42 : decode cX5_ofBook 42 = .ok (.invokevirtual 201, 3) := fd_get adX5_ofBook_1 (k := 7) rfl
theorem dX5_ofBook_45 : decode cX5_ofBook 45 = .ok (.ireturn, 1) := fd_get adX5_ofBook_1 (k := 8) rfl
theorem mwsX5_nearTold_0 : ∀ w ∈ wsX5_nearTold_r1, w ∈ wsX5_nearTold := fun w h => (List.mem_cons_of_mem _ (List.mem_append_left _ (List.mem_append_left _ h)))
theorem mwsX5_nearTold_1 : ∀ w ∈ wsX5_nearTold_r2, w ∈ wsX5_nearTold := fun w h => (List.mem_cons_of_mem _ (List.mem_append_left _ (List.mem_append_right _ h)))
theorem mwsX5_nearTold_2 : ∀ w ∈ wsX50, w ∈ wsX5_nearTold := fun w h => (List.mem_cons_of_mem _ (List.mem_append_right _ h))
set_option maxRecDepth 20000 in
theorem ggX5_nearTold_X5_whole : GoodIn wsX5_nearTold wsX5_whole := goodIn_sub (List.forall_mem_cons.mpr ⟨(mwsX5_nearTold_0 _ (List.mem_of_getElem? (i := 3) rfl)), (List.forall_mem_cons.mpr ⟨(mwsX5_nearTold_0 _ (List.mem_of_getElem? (i := 4) rfl)), (fun _ h => absurd h List.not_mem_nil)⟩)⟩) (by decide +kernel)
set_option maxRecDepth 20000 in
theorem gX5_nearTold_X5_whole : GoodIn wsX5_nearTold (va_wsS RX5 85 yX5_whole wsX5_whole) := goodIn_app (goodIn_sub (List.forall_mem_cons.mpr ⟨(mwsX5_nearTold_0 _ (List.mem_of_getElem? (i := 0) rfl)), (List.forall_mem_cons.mpr ⟨(mwsX5_nearTold_0 _ (List.mem_of_getElem? (i := 1) rfl)), (List.forall_mem_cons.mpr ⟨(mwsX5_nearTold_0 _ (List.mem_of_getElem? (i := 2) rfl)), (fun _ h => absurd h List.not_mem_nil)⟩)⟩)⟩) (by decide +kernel)) ggX5_nearTold_X5_whole
set_option maxRecDepth 20000 in
theorem ggX5_nearTold_X5_nearOf : GoodIn wsX5_nearTold wsX5_nearOf := goodIn_sub (tk_mem 4 _ (fun w h => (mwsX5_nearTold_0 _ (tkB_mem 8 4 h))) (List.forall_mem_cons.mpr ⟨(mwsX5_nearTold_0 _ (List.mem_of_getElem? (i := 2) rfl)), (tk_mem 12 _ (fun w h => (mwsX5_nearTold_0 _ (tkB_mem 12 12 h))) (tk_mem 4 _ (fun w h => (mwsX5_nearTold_1 _ (tkB_mem 0 4 h))) (tk_mem 13 _ (fun w h => (mwsX5_nearTold_2 _ (tkB_mem 0 13 h))) (fun _ h => absurd h List.not_mem_nil))))⟩)) (by decide +kernel)
set_option maxRecDepth 20000 in
theorem gX5_nearTold_X5_nearOf : GoodIn wsX5_nearTold (wsV RX5 115 RX5 yX5_nearOf wsX5_nearOf) := goodIn_app (goodIn_sub (List.forall_mem_cons.mpr ⟨(mwsX5_nearTold_0 _ (List.mem_of_getElem? (i := 5) rfl)), (List.forall_mem_cons.mpr ⟨(mwsX5_nearTold_0 _ (List.mem_of_getElem? (i := 6) rfl)), (List.forall_mem_cons.mpr ⟨(mwsX5_nearTold_0 _ (List.mem_of_getElem? (i := 7) rfl)), (List.forall_mem_cons.mpr ⟨(mwsX5_nearTold_0 _ (List.mem_of_getElem? (i := 2) rfl)), (fun _ h => absurd h List.not_mem_nil)⟩)⟩)⟩)⟩) (by decide +kernel)) ggX5_nearTold_X5_nearOf
set_option maxRecDepth 20000 in
theorem ggX5_nearTold_X5_valueOf : GoodIn wsX5_nearTold wsX5_valueOf := goodIn_sub (List.forall_mem_cons.mpr ⟨(mwsX5_nearTold_1 _ (List.mem_of_getElem? (i := 7) rfl)), (List.forall_mem_cons.mpr ⟨(mwsX5_nearTold_0 _ (List.mem_of_getElem? (i := 23) rfl)), (tk_mem 13 _ (fun w h => (mwsX5_nearTold_2 _ (tkB_mem 0 13 h))) (fun _ h => absurd h List.not_mem_nil))⟩)⟩) (by decide +kernel)
set_option maxRecDepth 20000 in
theorem gX5_nearTold_X5_valueOf : GoodIn wsX5_nearTold (wsV RX5 189 RX5 yX5_valueOf wsX5_valueOf) := goodIn_app (goodIn_sub (List.forall_mem_cons.mpr ⟨(mwsX5_nearTold_1 _ (List.mem_of_getElem? (i := 4) rfl)), (List.forall_mem_cons.mpr ⟨(mwsX5_nearTold_1 _ (List.mem_of_getElem? (i := 5) rfl)), (List.forall_mem_cons.mpr ⟨(mwsX5_nearTold_1 _ (List.mem_of_getElem? (i := 6) rfl)), (List.forall_mem_cons.mpr ⟨(mwsX5_nearTold_0 _ (List.mem_of_getElem? (i := 2) rfl)), (fun _ h => absurd h List.not_mem_nil)⟩)⟩)⟩)⟩) (by decide +kernel)) ggX5_nearTold_X5_valueOf
theorem adX5_nearTold_0 : fd_rows (cX5_nearTold.data.toList.drop 0) 0 [(0, some (.aload_n 0), 1), (1, some (.iload_n 1), 1), (2, some (.invokestatic 85), 3), (5, some (.iload_n 2), 1), (6, some (.iload_n 3), 1), (7, some (.iconst 4), 1), (8, some (.irem), 1), (9, some (.invokevirtual 115), 3), (12, some (.istore 4), 2), (14, some (.iload_n 3), 1), (15, some (.iconst 4), 1), (16, some (.if_icmp .ge 8), 3), (19, some (.iload 4), 2), (21, some (.goto 10), 3), (24, some (.aload_n 0), 1), (25, some (.iload_n 1), 1)] = true := by decide +kernel
theorem adX5_nearTold_1 : fd_rows (cX5_nearTold.data.toList.drop 26) 26 [(26, some (.iload 4), 2), (28, some (.invokevirtual 189), 3), (31, some (.ireturn), 1)] = true := by decide +kernel
theorem dX5_nearTold_0 : decode cX5_nearTold 0 = .ok (.aload_n 0, 1) := fd_get adX5_nearTold_0 (k := 0) rfl
theorem dX5_nearTold_1 : decode cX5_nearTold 1 = .ok (.iload_n 1, 1) := fd_get adX5_nearTold_0 (k := 1) rfl
theorem dX5_nearTold_2 : decode cX5_nearTold 2 = .ok (.invokestatic 85, 3) := fd_get adX5_nearTold_0 (k := 2) rfl
theorem dX5_nearTold_5 : decode cX5_nearTold 5 = .ok (.iload_n 2, 1) := fd_get adX5_nearTold_0 (k := 3) rfl
theorem dX5_nearTold_6 : decode cX5_nearTold 6 = .ok (.iload_n 3, 1) := fd_get adX5_nearTold_0 (k := 4) rfl
theorem dX5_nearTold_7 : decode cX5_nearTold 7 = .ok (.iconst 4, 1) := fd_get adX5_nearTold_0 (k := 5) rfl
theorem dX5_nearTold_8 : decode cX5_nearTold 8 = .ok (.irem, 1) := fd_get adX5_nearTold_0 (k := 6) rfl
theorem dX5_nearTold_9 : decode cX5_nearTold 9 = .ok (.invokevirtual 115, 3) := fd_get adX5_nearTold_0 (k := 7) rfl
theorem dX5_nearTold_12 : decode cX5_nearTold 12 = .ok (.istore 4, 2) := fd_get adX5_nearTold_0 (k := 8) rfl
theorem dX5_nearTold_14 : decode cX5_nearTold 14 = .ok (.iload_n 3, 1) := fd_get adX5_nearTold_0 (k := 9) rfl
theorem dX5_nearTold_15 : decode cX5_nearTold 15 = .ok (.iconst 4, 1) := fd_get adX5_nearTold_0 (k := 10) rfl
theorem dX5_nearTold_16 : decode cX5_nearTold 16 = .ok (.if_icmp .ge 8, 3) := fd_get adX5_nearTold_0 (k := 11) rfl
theorem dX5_nearTold_19 : decode cX5_nearTold 19 = .ok (.iload 4, 2) := fd_get adX5_nearTold_0 (k := 12) rfl
theorem dX5_nearTold_21 : decode cX5_nearTold 21 = .ok (.goto 10, 3) := fd_get adX5_nearTold_0 (k := 13) rfl
theorem dX5_nearTold_24 : decode cX5_nearTold 24 = .ok (.aload_n 0, 1) := fd_get adX5_nearTold_0 (k := 14) rfl
theorem dX5_nearTold_25 : decode cX5_nearTold 25 = .ok (.iload_n 1, 1) := fd_get adX5_nearTold_0 (k := 15) rfl
theorem dX5_nearTold_26 : decode cX5_nearTold 26 = .ok (.iload 4, 2) := fd_get adX5_nearTold_1 (k := 0) rfl
theorem dX5_nearTold_28 : decode cX5_nearTold 28 = .ok (.invokevirtual 189, 3) := fd_get adX5_nearTold_1 (k := 1) rfl
theorem dX5_nearTold_31 : decode cX5_nearTold 31 = .ok (.ireturn, 1) := fd_get adX5_nearTold_1 (k := 2) rfl
theorem mwsX5_near_0 : ∀ w ∈ wsX5_near_r1, w ∈ wsX5_near := fun w h => (List.mem_cons_of_mem _ (List.mem_append_left _ (List.mem_append_left _ h)))
theorem mwsX5_near_1 : ∀ w ∈ wsX5_near_r2, w ∈ wsX5_near := fun w h => (List.mem_cons_of_mem _ (List.mem_append_left _ (List.mem_append_right _ (List.mem_append_left _ h))))
theorem mwsX5_near_2 : ∀ w ∈ wsX5_near_r3, w ∈ wsX5_near := fun w h => (List.mem_cons_of_mem _ (List.mem_append_left _ (List.mem_append_right _ (List.mem_append_right _ h))))
theorem mwsX5_near_3 : ∀ w ∈ wsX50, w ∈ wsX5_near := fun w h => (List.mem_cons_of_mem _ (List.mem_append_right _ h))
set_option maxRecDepth 20000 in
theorem ggX5_near_X5_isBad : GoodIn wsX5_near wsX5_isBad := goodIn_sub (List.forall_mem_cons.mpr ⟨(mwsX5_near_0 _ (List.mem_of_getElem? (i := 4) rfl)), (List.forall_mem_cons.mpr ⟨(mwsX5_near_0 _ (List.mem_of_getElem? (i := 5) rfl)), (List.forall_mem_cons.mpr ⟨(mwsX5_near_0 _ (List.mem_of_getElem? (i := 6) rfl)), (List.forall_mem_cons.mpr ⟨(mwsX5_near_0 _ (List.mem_of_getElem? (i := 3) rfl)), (tk_mem 16 _ (fun w h => (mwsX5_near_0 _ (tkB_mem 7 16 h))) (tk_mem 13 _ (fun w h => (mwsX5_near_3 _ (tkB_mem 0 13 h))) (fun _ h => absurd h List.not_mem_nil)))⟩)⟩)⟩)⟩) (by decide +kernel)
set_option maxRecDepth 20000 in
theorem gX5_near_X5_isBad : GoodIn wsX5_near (wsV RX5 146 RX5 yX5_isBad wsX5_isBad) := goodIn_app (goodIn_sub (tk_mem 4 _ (fun w h => (mwsX5_near_0 _ (tkB_mem 0 4 h))) (fun _ h => absurd h List.not_mem_nil)) (by decide +kernel)) ggX5_near_X5_isBad
set_option maxRecDepth 20000 in
theorem ggX5_near_X5_isIn : GoodIn wsX5_near wsX5_isIn := goodIn_sub (List.forall_mem_cons.mpr ⟨(mwsX5_near_0 _ (List.mem_of_getElem? (i := 10) rfl)), (fun _ h => absurd h List.not_mem_nil)⟩) (by decide +kernel)
set_option maxRecDepth 20000 in
theorem gX5_near_X5_isIn : GoodIn wsX5_near (va_wsS RX5 49 yX5_isIn wsX5_isIn) := goodIn_app (goodIn_sub (List.forall_mem_cons.mpr ⟨(mwsX5_near_0 _ (List.mem_of_getElem? (i := 8) rfl)), (List.forall_mem_cons.mpr ⟨(mwsX5_near_0 _ (List.mem_of_getElem? (i := 9) rfl)), (List.forall_mem_cons.mpr ⟨(mwsX5_near_0 _ (List.mem_of_getElem? (i := 3) rfl)), (fun _ h => absurd h List.not_mem_nil)⟩)⟩)⟩) (by decide +kernel)) ggX5_near_X5_isIn
set_option maxRecDepth 20000 in
theorem ggX5_near_X5_refuse : GoodIn wsX5_near wsX5_refuse := goodIn_sub (List.forall_mem_cons.mpr ⟨(mwsX5_near_0 _ (List.mem_of_getElem? (i := 19) rfl)), (List.forall_mem_cons.mpr ⟨(mwsX5_near_0 _ (List.mem_of_getElem? (i := 15) rfl)), (tk_mem 13 _ (fun w h => (mwsX5_near_3 _ (tkB_mem 0 13 h))) (fun _ h => absurd h List.not_mem_nil))⟩)⟩) (by decide +kernel)
set_option maxRecDepth 20000 in
theorem gX5_near_X5_refuse : GoodIn wsX5_near (wsV RX5 45 RX5 yX5_refuse wsX5_refuse) := goodIn_app (goodIn_sub (List.forall_mem_cons.mpr ⟨(mwsX5_near_0 _ (List.mem_of_getElem? (i := 16) rfl)), (List.forall_mem_cons.mpr ⟨(mwsX5_near_0 _ (List.mem_of_getElem? (i := 17) rfl)), (List.forall_mem_cons.mpr ⟨(mwsX5_near_0 _ (List.mem_of_getElem? (i := 18) rfl)), (List.forall_mem_cons.mpr ⟨(mwsX5_near_0 _ (List.mem_of_getElem? (i := 3) rfl)), (fun _ h => absurd h List.not_mem_nil)⟩)⟩)⟩)⟩) (by decide +kernel)) ggX5_near_X5_refuse
set_option maxRecDepth 20000 in
theorem ggX5_near_X5_nearTold : GoodIn wsX5_near wsX5_nearTold := goodIn_sub (List.forall_mem_cons.mpr ⟨(mwsX5_near_1 _ (List.mem_of_getElem? (i := 2) rfl)), (List.forall_mem_cons.mpr ⟨(mwsX5_near_1 _ (List.mem_of_getElem? (i := 3) rfl)), (List.forall_mem_cons.mpr ⟨(mwsX5_near_1 _ (List.mem_of_getElem? (i := 4) rfl)), (List.forall_mem_cons.mpr ⟨(mwsX5_near_0 _ (List.mem_of_getElem? (i := 3) rfl)), (tk_mem 19 _ (fun w h => (mwsX5_near_1 _ (tkB_mem 5 19 h))) (tk_mem 10 _ (fun w h => (mwsX5_near_2 _ (tkB_mem 0 10 h))) (tk_mem 13 _ (fun w h => (mwsX5_near_3 _ (tkB_mem 0 13 h))) (fun _ h => absurd h List.not_mem_nil))))⟩)⟩)⟩)⟩) (by decide +kernel)
set_option maxRecDepth 20000 in
theorem gX5_near_X5_nearTold : GoodIn wsX5_near (wsV RX5 204 RX5 yX5_nearTold wsX5_nearTold) := goodIn_app (goodIn_sub (List.forall_mem_cons.mpr ⟨(mwsX5_near_0 _ (List.mem_of_getElem? (i := 23) rfl)), (List.forall_mem_cons.mpr ⟨(mwsX5_near_1 _ (List.mem_of_getElem? (i := 0) rfl)), (List.forall_mem_cons.mpr ⟨(mwsX5_near_1 _ (List.mem_of_getElem? (i := 1) rfl)), (List.forall_mem_cons.mpr ⟨(mwsX5_near_0 _ (List.mem_of_getElem? (i := 3) rfl)), (fun _ h => absurd h List.not_mem_nil)⟩)⟩)⟩)⟩) (by decide +kernel)) ggX5_near_X5_nearTold
theorem adX5_near_0 : fd_rows (cX5_near.data.toList.drop 0) 0 [(0, some (.aload_n 0), 1), (1, some (.iload_n 1), 1), (2, some (.iload_n 2), 1), (3, some (.invokevirtual 146), 3), (6, some (.ifCond .ne 26), 3), (9, some (.aload_n 0), 1), (10, some (.iload_n 3), 1), (11, some (.iconst 0), 1), (12, some (.bipush 7), 2), (14, some (.invokestatic 49), 3), (17, some (.ifCond .ne 7), 3), (20, some (.iconst 1), 1), (21, some (.goto 4), 3), (24, some (.iconst 0), 1), (25, some (.iconst 2), 1), (26, some (.invokevirtual 45), 3)] = true := by decide +kernel
theorem adX5_near_1 : fd_rows (cX5_near.data.toList.drop 29) 29 [(29, some (.ifCond .eq 7), 3), (32, some (.iconst 0), 1), (33, some (.goto 10), 3), (36, some (.aload_n 0), 1), (37, some (.iload_n 1), 1), (38, some (.iload_n 2), 1), (39, some (.iload_n 3), 1), (40, some (.invokevirtual 204), 3), (43, some (.ireturn), 1)] = true := by decide +kernel
theorem dX5_near_0 : decode cX5_near 0 = .ok (.aload_n 0, 1) := fd_get adX5_near_0 (k := 0) rfl
theorem dX5_near_1 : decode cX5_near 1 = .ok (.iload_n 1, 1) := fd_get adX5_near_0 (k := 1) rfl
theorem dX5_near_2 : decode cX5_near 2 = .ok (.iload_n 2, 1) := fd_get adX5_near_0 (k := 2) rfl
theorem dX5_near_3 : decode cX5_near 3 = .ok (.invokevirtual 146, 3) := fd_get adX5_near_0 (k := 3) rfl
theorem dX5_near_6 : decode cX5_near 6 = .ok (.ifCond .ne 26, 3) := fd_get adX5_near_0 (k := 4) rfl
theorem dX5_near_9 : decode cX5_near 9 = .ok (.aload_n 0, 1) := fd_get adX5_near_0 (k := 5) rfl
theorem dX5_near_10 : decode cX5_near 10 = .ok (.iload_n 3, 1) := fd_get adX5_near_0 (k := 6) rfl
theorem dX5_near_11 : decode cX5_near 11 = .ok (.iconst 0, 1) := fd_get adX5_near_0 (k := 7) rfl
theorem dX5_near_12 : decode cX5_near 12 = .ok (.bipush 7, 2) := fd_get adX5_near_0 (k := 8) rfl
theorem dX5_near_14 : decode cX5_near 14 = .ok (.invokestatic 49, 3) := fd_get adX5_near_0 (k := 9) rfl
theorem dX5_near_17 : decode cX5_near 17 = .ok (.ifCond .ne 7, 3) := fd_get adX5_near_0 (k := 10) rfl
theorem dX5_near_20 : decode cX5_near 20 = .ok (.iconst 1, 1) := fd_get adX5_near_0 (k := 11) rfl
theorem dX5_near_21 : decode cX5_near 21 = .ok (.goto 4, 3) := fd_get adX5_near_0 (k := 12) rfl
theorem dX5_near_24 : decode cX5_near 24 = .ok (.iconst 0, 1) := fd_get adX5_near_0 (k := 13) rfl
theorem dX5_near_25 : decode cX5_near 25 = .ok (.iconst 2, 1) := fd_get adX5_near_0 (k := 14) rfl
theorem dX5_near_26 : decode cX5_near 26 = .ok (.invokevirtual 45, 3) := fd_get adX5_near_0 (k := 15) rfl
theorem dX5_near_29 : decode cX5_near 29 = .ok (.ifCond .eq 7, 3) := fd_get adX5_near_1 (k := 0) rfl
theorem dX5_near_32 : decode cX5_near 32 = .ok (.iconst 0, 1) := fd_get adX5_near_1 (k := 1) rfl
theorem dX5_near_33 : decode cX5_near 33 = .ok (.goto 10, 3) := fd_get adX5_near_1 (k := 2) rfl
theorem dX5_near_36 : decode cX5_near 36 = .ok (.aload_n 0, 1) := fd_get adX5_near_1 (k := 3) rfl
theorem dX5_near_37 : decode cX5_near 37 = .ok (.iload_n 1, 1) := fd_get adX5_near_1 (k := 4) rfl
theorem dX5_near_38 : decode cX5_near 38 = .ok (.iload_n 2, 1) := fd_get adX5_near_1 (k := 5) rfl
theorem dX5_near_39 : decode cX5_near 39 = .ok (.iload_n 3, 1) := fd_get adX5_near_1 (k := 6) rfl
theorem dX5_near_40 : decode cX5_near 40 = .ok (.invokevirtual 204, 3) := fd_get adX5_near_1 (k := 7) rfl
theorem dX5_near_43 : decode cX5_near 43 = .ok (.ireturn, 1) := fd_get adX5_near_1 (k := 8) rfl
theorem mwsX5_place_0 : ∀ w ∈ wsX5_place_r1, w ∈ wsX5_place := fun w h => (List.mem_cons_of_mem _ (List.mem_append_left _ (List.mem_append_left _ h)))
theorem mwsX5_place_1 : ∀ w ∈ wsX5_place_r2, w ∈ wsX5_place := fun w h => (List.mem_cons_of_mem _ (List.mem_append_left _ (List.mem_append_right _ (List.mem_append_left _ h))))
theorem mwsX5_place_2 : ∀ w ∈ wsX5_place_r3, w ∈ wsX5_place := fun w h => (List.mem_cons_of_mem _ (List.mem_append_left _ (List.mem_append_right _ (List.mem_append_right _ h))))
theorem mwsX5_place_3 : ∀ w ∈ wsX50, w ∈ wsX5_place := fun w h => (List.mem_cons_of_mem _ (List.mem_append_right _ h))
set_option maxRecDepth 20000 in
theorem ggX5_place_X5_isBad : GoodIn wsX5_place wsX5_isBad := goodIn_sub (List.forall_mem_cons.mpr ⟨(mwsX5_place_0 _ (List.mem_of_getElem? (i := 4) rfl)), (List.forall_mem_cons.mpr ⟨(mwsX5_place_0 _ (List.mem_of_getElem? (i := 5) rfl)), (List.forall_mem_cons.mpr ⟨(mwsX5_place_0 _ (List.mem_of_getElem? (i := 6) rfl)), (List.forall_mem_cons.mpr ⟨(mwsX5_place_0 _ (List.mem_of_getElem? (i := 3) rfl)), (tk_mem 16 _ (fun w h => (mwsX5_place_0 _ (tkB_mem 7 16 h))) (tk_mem 13 _ (fun w h => (mwsX5_place_3 _ (tkB_mem 0 13 h))) (fun _ h => absurd h List.not_mem_nil)))⟩)⟩)⟩)⟩) (by decide +kernel)
set_option maxRecDepth 20000 in
theorem gX5_place_X5_isBad : GoodIn wsX5_place (wsV RX5 146 RX5 yX5_isBad wsX5_isBad) := goodIn_app (goodIn_sub (tk_mem 4 _ (fun w h => (mwsX5_place_0 _ (tkB_mem 0 4 h))) (fun _ h => absurd h List.not_mem_nil)) (by decide +kernel)) ggX5_place_X5_isBad
set_option maxRecDepth 20000 in
theorem ggX5_place_X5_ahead : GoodIn wsX5_place wsX5_ahead := goodIn_sub (List.forall_mem_cons.mpr ⟨(mwsX5_place_1 _ (List.mem_of_getElem? (i := 2) rfl)), (List.forall_mem_cons.mpr ⟨(mwsX5_place_1 _ (List.mem_of_getElem? (i := 3) rfl)), (List.forall_mem_cons.mpr ⟨(mwsX5_place_1 _ (List.mem_of_getElem? (i := 4) rfl)), (List.forall_mem_cons.mpr ⟨(mwsX5_place_0 _ (List.mem_of_getElem? (i := 3) rfl)), (tk_mem 19 _ (fun w h => (mwsX5_place_1 _ (tkB_mem 5 19 h))) (List.forall_mem_cons.mpr ⟨(mwsX5_place_2 _ (List.mem_of_getElem? (i := 0) rfl)), (tk_mem 13 _ (fun w h => (mwsX5_place_3 _ (tkB_mem 0 13 h))) (fun _ h => absurd h List.not_mem_nil))⟩))⟩)⟩)⟩)⟩) (by decide +kernel)
set_option maxRecDepth 20000 in
theorem gX5_place_X5_ahead : GoodIn wsX5_place (wsV RX5 207 RX5 yX5_ahead wsX5_ahead) := goodIn_app (goodIn_sub (List.forall_mem_cons.mpr ⟨(mwsX5_place_0 _ (List.mem_of_getElem? (i := 23) rfl)), (List.forall_mem_cons.mpr ⟨(mwsX5_place_1 _ (List.mem_of_getElem? (i := 0) rfl)), (List.forall_mem_cons.mpr ⟨(mwsX5_place_1 _ (List.mem_of_getElem? (i := 1) rfl)), (List.forall_mem_cons.mpr ⟨(mwsX5_place_0 _ (List.mem_of_getElem? (i := 3) rfl)), (fun _ h => absurd h List.not_mem_nil)⟩)⟩)⟩)⟩) (by decide +kernel)) ggX5_place_X5_ahead
theorem adX5_place_0 : fd_rows (cX5_place.data.toList.drop 0) 0 [(0, some (.aload_n 0), 1), (1, some (.iload_n 1), 1), (2, some (.iload_n 2), 1), (3, some (.invokevirtual 146), 3), (6, some (.ifCond .eq 7), 3), (9, some (.iconst 0), 1), (10, some (.goto 9), 3), (13, some (.aload_n 0), 1), (14, some (.iload_n 1), 1), (15, some (.iload_n 2), 1), (16, some (.invokevirtual 207), 3), (19, some (.ireturn), 1)] = true := by decide +kernel
theorem dX5_place_0 : decode cX5_place 0 = .ok (.aload_n 0, 1) := fd_get adX5_place_0 (k := 0) rfl
theorem dX5_place_1 : decode cX5_place 1 = .ok (.iload_n 1, 1) := fd_get adX5_place_0 (k := 1) rfl
theorem dX5_place_2 : decode cX5_place 2 = .ok (.iload_n 2, 1) := fd_get adX5_place_0 (k := 2) rfl
theorem dX5_place_3 : decode cX5_place 3 = .ok (.invokevirtual 146, 3) := fd_get adX5_place_0 (k := 3) rfl
theorem dX5_place_6 : decode cX5_place 6 = .ok (.ifCond .eq 7, 3) := fd_get adX5_place_0 (k := 4) rfl
theorem dX5_place_9 : decode cX5_place 9 = .ok (.iconst 0, 1) := fd_get adX5_place_0 (k := 5) rfl
theorem dX5_place_10 : decode cX5_place 10 = .ok (.goto 9, 3) := fd_get adX5_place_0 (k := 6) rfl
theorem dX5_place_13 : decode cX5_place 13 = .ok (.aload_n 0, 1) := fd_get adX5_place_0 (k := 7) rfl
theorem dX5_place_14 : decode cX5_place 14 = .ok (.iload_n 1, 1) := fd_get adX5_place_0 (k := 8) rfl
theorem dX5_place_15 : decode cX5_place 15 = .ok (.iload_n 2, 1) := fd_get adX5_place_0 (k := 9) rfl
theorem dX5_place_16 : decode cX5_place 16 = .ok (.invokevirtual 207, 3) := fd_get adX5_place_0 (k := 10) rfl
theorem dX5_place_19 : decode cX5_place 19 = .ok (.ireturn, 1) := fd_get adX5_place_0 (k := 11) rfl
theorem mwsX5_at_0 : ∀ w ∈ wsX5_at_r1, w ∈ wsX5_at := fun w h => (List.mem_cons_of_mem _ (List.mem_append_left _ (List.mem_append_left _ h)))
theorem mwsX5_at_1 : ∀ w ∈ wsX5_at_r2, w ∈ wsX5_at := fun w h => (List.mem_cons_of_mem _ (List.mem_append_left _ (List.mem_append_right _ h)))
theorem mwsX5_at_2 : ∀ w ∈ wsX50, w ∈ wsX5_at := fun w h => (List.mem_cons_of_mem _ (List.mem_append_right _ h))
set_option maxRecDepth 20000 in
theorem ggX5_at_X5_isNoBook : GoodIn wsX5_at wsX5_isNoBook := goodIn_sub (List.forall_mem_cons.mpr ⟨(mwsX5_at_0 _ (List.mem_of_getElem? (i := 4) rfl)), (List.forall_mem_cons.mpr ⟨(mwsX5_at_0 _ (List.mem_of_getElem? (i := 5) rfl)), (List.forall_mem_cons.mpr ⟨(mwsX5_at_0 _ (List.mem_of_getElem? (i := 6) rfl)), (List.forall_mem_cons.mpr ⟨(mwsX5_at_0 _ (List.mem_of_getElem? (i := 3) rfl)), (List.forall_mem_cons.mpr ⟨(mwsX5_at_0 _ (List.mem_of_getElem? (i := 7) rfl)), (fun _ h => absurd h List.not_mem_nil)⟩)⟩)⟩)⟩)⟩) (by decide +kernel)
set_option maxRecDepth 20000 in
theorem gX5_at_X5_isNoBook : GoodIn wsX5_at (va_wsS RX5 53 yX5_isNoBook wsX5_isNoBook) := goodIn_app (goodIn_sub (List.forall_mem_cons.mpr ⟨(mwsX5_at_0 _ (List.mem_of_getElem? (i := 1) rfl)), (List.forall_mem_cons.mpr ⟨(mwsX5_at_0 _ (List.mem_of_getElem? (i := 2) rfl)), (List.forall_mem_cons.mpr ⟨(mwsX5_at_0 _ (List.mem_of_getElem? (i := 3) rfl)), (fun _ h => absurd h List.not_mem_nil)⟩)⟩)⟩) (by decide +kernel)) ggX5_at_X5_isNoBook
set_option maxRecDepth 20000 in
theorem ggX5_at_X5_start : GoodIn wsX5_at wsX5_start := goodIn_sub (tk_mem 5 _ (fun w h => (mwsX5_at_0 _ (tkB_mem 11 5 h))) (List.forall_mem_cons.mpr ⟨(mwsX5_at_0 _ (List.mem_of_getElem? (i := 3) rfl)), (List.forall_mem_cons.mpr ⟨(mwsX5_at_0 _ (List.mem_of_getElem? (i := 16) rfl)), (tk_mem 13 _ (fun w h => (mwsX5_at_2 _ (tkB_mem 0 13 h))) (fun _ h => absurd h List.not_mem_nil))⟩)⟩)) (by decide +kernel)
set_option maxRecDepth 20000 in
theorem gX5_at_X5_start : GoodIn wsX5_at (wsV RX5 57 RX5 yX5_start wsX5_start) := goodIn_app (goodIn_sub (List.forall_mem_cons.mpr ⟨(mwsX5_at_0 _ (List.mem_of_getElem? (i := 8) rfl)), (List.forall_mem_cons.mpr ⟨(mwsX5_at_0 _ (List.mem_of_getElem? (i := 9) rfl)), (List.forall_mem_cons.mpr ⟨(mwsX5_at_0 _ (List.mem_of_getElem? (i := 10) rfl)), (List.forall_mem_cons.mpr ⟨(mwsX5_at_0 _ (List.mem_of_getElem? (i := 3) rfl)), (fun _ h => absurd h List.not_mem_nil)⟩)⟩)⟩)⟩) (by decide +kernel)) ggX5_at_X5_start
set_option maxRecDepth 20000 in
theorem ggX5_at_X5_refuse : GoodIn wsX5_at wsX5_refuse := goodIn_sub (List.forall_mem_cons.mpr ⟨(mwsX5_at_0 _ (List.mem_of_getElem? (i := 16) rfl)), (List.forall_mem_cons.mpr ⟨(mwsX5_at_0 _ (List.mem_of_getElem? (i := 12) rfl)), (tk_mem 13 _ (fun w h => (mwsX5_at_2 _ (tkB_mem 0 13 h))) (fun _ h => absurd h List.not_mem_nil))⟩)⟩) (by decide +kernel)
set_option maxRecDepth 20000 in
theorem gX5_at_X5_refuse : GoodIn wsX5_at (wsV RX5 45 RX5 yX5_refuse wsX5_refuse) := goodIn_app (goodIn_sub (List.forall_mem_cons.mpr ⟨(mwsX5_at_0 _ (List.mem_of_getElem? (i := 13) rfl)), (List.forall_mem_cons.mpr ⟨(mwsX5_at_0 _ (List.mem_of_getElem? (i := 14) rfl)), (List.forall_mem_cons.mpr ⟨(mwsX5_at_0 _ (List.mem_of_getElem? (i := 15) rfl)), (List.forall_mem_cons.mpr ⟨(mwsX5_at_0 _ (List.mem_of_getElem? (i := 3) rfl)), (fun _ h => absurd h List.not_mem_nil)⟩)⟩)⟩)⟩) (by decide +kernel)) ggX5_at_X5_refuse
set_option maxRecDepth 20000 in
theorem ggX5_at_X5_ahead : GoodIn wsX5_at wsX5_ahead := goodIn_sub (List.forall_mem_cons.mpr ⟨(mwsX5_at_0 _ (List.mem_of_getElem? (i := 20) rfl)), (List.forall_mem_cons.mpr ⟨(mwsX5_at_0 _ (List.mem_of_getElem? (i := 21) rfl)), (List.forall_mem_cons.mpr ⟨(mwsX5_at_0 _ (List.mem_of_getElem? (i := 22) rfl)), (List.forall_mem_cons.mpr ⟨(mwsX5_at_0 _ (List.mem_of_getElem? (i := 3) rfl)), (List.forall_mem_cons.mpr ⟨(mwsX5_at_0 _ (List.mem_of_getElem? (i := 23) rfl)), (tk_mem 5 _ (fun w h => (mwsX5_at_1 _ (tkB_mem 0 5 h))) (List.forall_mem_cons.mpr ⟨(mwsX5_at_0 _ (List.mem_of_getElem? (i := 0) rfl)), (tk_mem 13 _ (fun w h => (mwsX5_at_1 _ (tkB_mem 5 13 h))) (tk_mem 13 _ (fun w h => (mwsX5_at_2 _ (tkB_mem 0 13 h))) (fun _ h => absurd h List.not_mem_nil)))⟩))⟩)⟩)⟩)⟩)⟩) (by decide +kernel)
set_option maxRecDepth 20000 in
theorem gX5_at_X5_ahead : GoodIn wsX5_at (wsV RX5 207 RX5 yX5_ahead wsX5_ahead) := goodIn_app (goodIn_sub (List.forall_mem_cons.mpr ⟨(mwsX5_at_0 _ (List.mem_of_getElem? (i := 17) rfl)), (List.forall_mem_cons.mpr ⟨(mwsX5_at_0 _ (List.mem_of_getElem? (i := 18) rfl)), (List.forall_mem_cons.mpr ⟨(mwsX5_at_0 _ (List.mem_of_getElem? (i := 19) rfl)), (List.forall_mem_cons.mpr ⟨(mwsX5_at_0 _ (List.mem_of_getElem? (i := 3) rfl)), (fun _ h => absurd h List.not_mem_nil)⟩)⟩)⟩)⟩) (by decide +kernel)) ggX5_at_X5_ahead
theorem adX5_at_0 : fd_rows (cX5_at.data.toList.drop 0) 0 [(0, some (.aload_n 0), 1), (1, some (.iload_n 1), 1), (2, some (.invokestatic 53), 3), (5, some (.iconst 1), 1), (6, some (.invokevirtual 57), 3), (9, some (.ifCond .ne 20), 3), (12, some (.aload_n 0), 1), (13, some (.iload_n 2), 1), (14, some (.ifCond .ge 7), 3), (17, some (.iconst 1), 1), (18, some (.goto 4), 3), (21, some (.iconst 0), 1), (22, some (.iconst 2), 1), (23, some (.invokevirtual 45), 3), (26, some (.ifCond .eq 5), 3), (29, some (.iconst 0), 1)] = true := by decide +kernel
theorem adX5_at_1 : fd_rows (cX5_at.data.toList.drop 30) 30 [(30, some (.ireturn), 1), (31, some (.iconst 0), 1), (32, some (.istore_n 3), 1), (33, some (.iload_n 3), 1), (34, some (.bipush 100), 2), (36, some (.if_icmp .ge 35), 3), (39, some (.aload_n 0), 1), (40, some (.getfield 11), 3), (43, some (.iload_n 1), 1), (44, some (.aaload), 1), (45, some (.iload_n 3), 1), (46, some (.iaload), 1), (47, some (.sipush (-10000)), 3), (50, some (.if_icmp .eq 15), 3), (53, some (.aload_n 0), 1), (54, some (.iload_n 1), 1)] = true := by decide +kernel
theorem adX5_at_2 : fd_rows (cX5_at.data.toList.drop 55) 55 [(55, some (.iload_n 3), 1), (56, some (.invokevirtual 207), 3), (59, some (.iload_n 2), 1), (60, some (.if_icmp .ne 5), 3), (63, some (.iload_n 3), 1), (64, some (.ireturn), 1), (65, some (.iinc 3 1), 3), (68, some (.goto (-35)), 3), (71, some (.sipush (-10000)), 3), (74, some (.ireturn), 1)] = true := by decide +kernel
theorem dX5_at_0 : decode cX5_at 0 = .ok (.aload_n 0, 1) := fd_get adX5_at_0 (k := 0) rfl
theorem dX5_at_1 : decode cX5_at 1 = .ok (.iload_n 1, 1) := fd_get adX5_at_0 (k := 1) rfl
theorem dX5_at_2 : decode cX5_at 2 = .ok (.invokestatic 53, 3) := fd_get adX5_at_0 (k := 2) rfl
theorem dX5_at_5 : decode cX5_at 5 = .ok (.iconst 1, 1) := fd_get adX5_at_0 (k := 3) rfl
theorem dX5_at_6 : decode cX5_at 6 = .ok (.invokevirtual 57, 3) := fd_get adX5_at_0 (k := 4) rfl
theorem dX5_at_9 : decode cX5_at 9 = .ok (.ifCond .ne 20, 3) := fd_get adX5_at_0 (k := 5) rfl
theorem dX5_at_12 : decode cX5_at 12 = .ok (.aload_n 0, 1) := fd_get adX5_at_0 (k := 6) rfl
theorem dX5_at_13 : decode cX5_at 13 = .ok (.iload_n 2, 1) := fd_get adX5_at_0 (k := 7) rfl
theorem dX5_at_14 : decode cX5_at 14 = .ok (.ifCond .ge 7, 3) := fd_get adX5_at_0 (k := 8) rfl
theorem dX5_at_17 : decode cX5_at 17 = .ok (.iconst 1, 1) := fd_get adX5_at_0 (k := 9) rfl
theorem dX5_at_18 : decode cX5_at 18 = .ok (.goto 4, 3) := fd_get adX5_at_0 (k := 10) rfl
theorem dX5_at_21 : decode cX5_at 21 = .ok (.iconst 0, 1) := fd_get adX5_at_0 (k := 11) rfl
theorem dX5_at_22 : decode cX5_at 22 = .ok (.iconst 2, 1) := fd_get adX5_at_0 (k := 12) rfl
theorem dX5_at_23 : decode cX5_at 23 = .ok (.invokevirtual 45, 3) := fd_get adX5_at_0 (k := 13) rfl
theorem dX5_at_26 : decode cX5_at 26 = .ok (.ifCond .eq 5, 3) := fd_get adX5_at_0 (k := 14) rfl
theorem dX5_at_29 : decode cX5_at 29 = .ok (.iconst 0, 1) := fd_get adX5_at_0 (k := 15) rfl
theorem dX5_at_30 : decode cX5_at 30 = .ok (.ireturn, 1) := fd_get adX5_at_1 (k := 0) rfl
theorem dX5_at_31 : decode cX5_at 31 = .ok (.iconst 0, 1) := fd_get adX5_at_1 (k := 1) rfl
theorem dX5_at_32 : decode cX5_at 32 = .ok (.istore_n 3, 1) := fd_get adX5_at_1 (k := 2) rfl
theorem dX5_at_33 : decode cX5_at 33 = .ok (.iload_n 3, 1) := fd_get adX5_at_1 (k := 3) rfl
theorem dX5_at_34 : decode cX5_at 34 = .ok (.bipush 100, 2) := fd_get adX5_at_1 (k := 4) rfl
theorem dX5_at_36 : decode cX5_at 36 = .ok (.if_icmp .ge 35, 3) := fd_get adX5_at_1 (k := 5) rfl
theorem dX5_at_39 : decode cX5_at 39 = .ok (.aload_n 0, 1) := fd_get adX5_at_1 (k := 6) rfl
theorem dX5_at_40 : decode cX5_at 40 = .ok (.getfield 11, 3) := fd_get adX5_at_1 (k := 7) rfl
theorem dX5_at_43 : decode cX5_at 43 = .ok (.iload_n 1, 1) := fd_get adX5_at_1 (k := 8) rfl
theorem dX5_at_44 : decode cX5_at 44 = .ok (.aaload, 1) := fd_get adX5_at_1 (k := 9) rfl
theorem dX5_at_45 : decode cX5_at 45 = .ok (.iload_n 3, 1) := fd_get adX5_at_1 (k := 10) rfl
theorem dX5_at_46 : decode cX5_at 46 = .ok (.iaload, 1) := fd_get adX5_at_1 (k := 11) rfl
theorem dX5_at_47 : decode cX5_at 47 = .ok (.sipush (-10000), 3) := fd_get adX5_at_1 (k := 12) rfl
theorem dX5_at_50 : decode cX5_at 50 = .ok (.if_icmp .eq 15, 3) := fd_get adX5_at_1 (k := 13) rfl
theorem dX5_at_53 : decode cX5_at 53 = .ok (.aload_n 0, 1) := fd_get adX5_at_1 (k := 14) rfl
theorem dX5_at_54 : decode cX5_at 54 = .ok (.iload_n 1, 1) := fd_get adX5_at_1 (k := 15) rfl
theorem dX5_at_55 : decode cX5_at 55 = .ok (.iload_n 3, 1) := fd_get adX5_at_2 (k := 0) rfl
theorem dX5_at_56 : decode cX5_at 56 = .ok (.invokevirtual 207, 3) := fd_get adX5_at_2 (k := 1) rfl
theorem dX5_at_59 : decode cX5_at 59 = .ok (.iload_n 2, 1) := fd_get adX5_at_2 (k := 2) rfl
theorem dX5_at_60 : decode cX5_at 60 = .ok (.if_icmp .ne 5, 3) := fd_get adX5_at_2 (k := 3) rfl
theorem dX5_at_63 : decode cX5_at 63 = .ok (.iload_n 3, 1) := fd_get adX5_at_2 (k := 4) rfl
theorem dX5_at_64 : decode cX5_at 64 = .ok (.ireturn, 1) := fd_get adX5_at_2 (k := 5) rfl
theorem dX5_at_65 : decode cX5_at 65 = .ok (.iinc 3 1, 3) := fd_get adX5_at_2 (k := 6) rfl
theorem dX5_at_68 : decode cX5_at 68 = .ok (.goto (-35), 3) := fd_get adX5_at_2 (k := 7) rfl
theorem dX5_at_71 : decode cX5_at 71 = .ok (.sipush (-10000), 3) := fd_get adX5_at_2 (k := 8) rfl
theorem dX5_at_74 : decode cX5_at 74 = .ok (.ireturn, 1) := fd_get adX5_at_2 (k := 9) rfl
theorem mwsX5_row_0 : ∀ w ∈ wsX5_row_r1, w ∈ wsX5_row := fun w h => (List.mem_cons_of_mem _ (List.mem_append_left _ (List.mem_append_left _ (List.mem_append_left _ (List.mem_append_left _ h)))))
theorem mwsX5_row_1 : ∀ w ∈ wsX5_row_r2, w ∈ wsX5_row := fun w h => (List.mem_cons_of_mem _ (List.mem_append_left _ (List.mem_append_left _ (List.mem_append_left _ (List.mem_append_right _ (List.mem_append_left _ h))))))
theorem mwsX5_row_2 : ∀ w ∈ wsX5_row_r3, w ∈ wsX5_row := fun w h => (List.mem_cons_of_mem _ (List.mem_append_left _ (List.mem_append_left _ (List.mem_append_left _ (List.mem_append_right _ (List.mem_append_right _ (List.mem_append_left _ h)))))))
theorem mwsX5_row_3 : ∀ w ∈ wsX5_row_r4, w ∈ wsX5_row := fun w h => (List.mem_cons_of_mem _ (List.mem_append_left _ (List.mem_append_left _ (List.mem_append_left _ (List.mem_append_right _ (List.mem_append_right _ (List.mem_append_right _ (List.mem_append_left _ h))))))))
theorem mwsX5_row_4 : ∀ w ∈ wsX5_row_r5, w ∈ wsX5_row := fun w h => (List.mem_cons_of_mem _ (List.mem_append_left _ (List.mem_append_left _ (List.mem_append_left _ (List.mem_append_right _ (List.mem_append_right _ (List.mem_append_right _ (List.mem_append_right _ (List.mem_append_left _ h)))))))))
theorem mwsX5_row_5 : ∀ w ∈ wsX5_row_r6, w ∈ wsX5_row := fun w h => (List.mem_cons_of_mem _ (List.mem_append_left _ (List.mem_append_left _ (List.mem_append_left _ (List.mem_append_right _ (List.mem_append_right _ (List.mem_append_right _ (List.mem_append_right _ (List.mem_append_right _ (List.mem_append_left _ h))))))))))
theorem mwsX5_row_6 : ∀ w ∈ wsX5_row_r7, w ∈ wsX5_row := fun w h => (List.mem_cons_of_mem _ (List.mem_append_left _ (List.mem_append_left _ (List.mem_append_left _ (List.mem_append_right _ (List.mem_append_right _ (List.mem_append_right _ (List.mem_append_right _ (List.mem_append_right _ (List.mem_append_right _ (List.mem_append_left _ h)))))))))))
theorem mwsX5_row_7 : ∀ w ∈ wsX5_row_r8, w ∈ wsX5_row := fun w h => (List.mem_cons_of_mem _ (List.mem_append_left _ (List.mem_append_left _ (List.mem_append_left _ (List.mem_append_right _ (List.mem_append_right _ (List.mem_append_right _ (List.mem_append_right _ (List.mem_append_right _ (List.mem_append_right _ (List.mem_append_right _ (List.mem_append_left _ h))))))))))))
theorem mwsX5_row_8 : ∀ w ∈ wsX5_row_r9, w ∈ wsX5_row := fun w h => (List.mem_cons_of_mem _ (List.mem_append_left _ (List.mem_append_left _ (List.mem_append_left _ (List.mem_append_right _ (List.mem_append_right _ (List.mem_append_right _ (List.mem_append_right _ (List.mem_append_right _ (List.mem_append_right _ (List.mem_append_right _ (List.mem_append_right _ (List.mem_append_left _ h)))))))))))))
theorem mwsX5_row_9 : ∀ w ∈ wsX5_row_r10, w ∈ wsX5_row := fun w h => (List.mem_cons_of_mem _ (List.mem_append_left _ (List.mem_append_left _ (List.mem_append_left _ (List.mem_append_right _ (List.mem_append_right _ (List.mem_append_right _ (List.mem_append_right _ (List.mem_append_right _ (List.mem_append_right _ (List.mem_append_right _ (List.mem_append_right _ (List.mem_append_right _ (List.mem_append_left _ h))))))))))))))
theorem mwsX5_row_10 : ∀ w ∈ wsX5_row_r11, w ∈ wsX5_row := fun w h => (List.mem_cons_of_mem _ (List.mem_append_left _ (List.mem_append_left _ (List.mem_append_left _ (List.mem_append_right _ (List.mem_append_right _ (List.mem_append_right _ (List.mem_append_right _ (List.mem_append_right _ (List.mem_append_right _ (List.mem_append_right _ (List.mem_append_right _ (List.mem_append_right _ (List.mem_append_right _ (List.mem_append_left _ h)))))))))))))))
theorem mwsX5_row_11 : ∀ w ∈ wsX5_row_r12, w ∈ wsX5_row := fun w h => (List.mem_cons_of_mem _ (List.mem_append_left _ (List.mem_append_left _ (List.mem_append_left _ (List.mem_append_right _ (List.mem_append_right _ (List.mem_append_right _ (List.mem_append_right _ (List.mem_append_right _ (List.mem_append_right _ (List.mem_append_right _ (List.mem_append_right _ (List.mem_append_right _ (List.mem_append_right _ (List.mem_append_right _ (List.mem_append_left _ h))))))))))))))))
theorem mwsX5_row_12 : ∀ w ∈ wsX5_row_r13, w ∈ wsX5_row := fun w h => (List.mem_cons_of_mem _ (List.mem_append_left _ (List.mem_append_left _ (List.mem_append_left _ (List.mem_append_right _ (List.mem_append_right _ (List.mem_append_right _ (List.mem_append_right _ (List.mem_append_right _ (List.mem_append_right _ (List.mem_append_right _ (List.mem_append_right _ (List.mem_append_right _ (List.mem_append_right _ (List.mem_append_right _ (List.mem_append_right _ h))))))))))))))))
theorem mwsX5_row_13 : ∀ w ∈ wsX50, w ∈ wsX5_row := fun w h => (List.mem_cons_of_mem _ (List.mem_append_left _ (List.mem_append_left _ (List.mem_append_right _ h))))
theorem mwsX5_row_14 : ∀ w ∈ wsJ40, w ∈ wsX5_row := fun w h => (List.mem_cons_of_mem _ (List.mem_append_left _ (List.mem_append_right _ h)))
theorem mwsX5_row_15 : ∀ w ∈ wsJ00, w ∈ wsX5_row := fun w h => (List.mem_cons_of_mem _ (List.mem_append_right _ h))
set_option maxRecDepth 20000 in
theorem ggX5_row_X5_isNoBook : GoodIn wsX5_row wsX5_isNoBook := goodIn_sub (List.forall_mem_cons.mpr ⟨(mwsX5_row_0 _ (List.mem_of_getElem? (i := 3) rfl)), (List.forall_mem_cons.mpr ⟨(mwsX5_row_0 _ (List.mem_of_getElem? (i := 4) rfl)), (List.forall_mem_cons.mpr ⟨(mwsX5_row_0 _ (List.mem_of_getElem? (i := 5) rfl)), (List.forall_mem_cons.mpr ⟨(mwsX5_row_0 _ (List.mem_of_getElem? (i := 2) rfl)), (List.forall_mem_cons.mpr ⟨(mwsX5_row_0 _ (List.mem_of_getElem? (i := 6) rfl)), (fun _ h => absurd h List.not_mem_nil)⟩)⟩)⟩)⟩)⟩) (by decide +kernel)
set_option maxRecDepth 20000 in
theorem gX5_row_X5_isNoBook : GoodIn wsX5_row (va_wsS RX5 53 yX5_isNoBook wsX5_isNoBook) := goodIn_app (goodIn_sub (List.forall_mem_cons.mpr ⟨(mwsX5_row_0 _ (List.mem_of_getElem? (i := 0) rfl)), (List.forall_mem_cons.mpr ⟨(mwsX5_row_0 _ (List.mem_of_getElem? (i := 1) rfl)), (List.forall_mem_cons.mpr ⟨(mwsX5_row_0 _ (List.mem_of_getElem? (i := 2) rfl)), (fun _ h => absurd h List.not_mem_nil)⟩)⟩)⟩) (by decide +kernel)) ggX5_row_X5_isNoBook
set_option maxRecDepth 20000 in
theorem ggX5_row_X5_start : GoodIn wsX5_row wsX5_start := goodIn_sub (tk_mem 5 _ (fun w h => (mwsX5_row_0 _ (tkB_mem 10 5 h))) (List.forall_mem_cons.mpr ⟨(mwsX5_row_0 _ (List.mem_of_getElem? (i := 2) rfl)), (List.forall_mem_cons.mpr ⟨(mwsX5_row_0 _ (List.mem_of_getElem? (i := 15) rfl)), (tk_mem 13 _ (fun w h => (mwsX5_row_13 _ (tkB_mem 0 13 h))) (fun _ h => absurd h List.not_mem_nil))⟩)⟩)) (by decide +kernel)
set_option maxRecDepth 20000 in
theorem gX5_row_X5_start : GoodIn wsX5_row (wsV RX5 57 RX5 yX5_start wsX5_start) := goodIn_app (goodIn_sub (List.forall_mem_cons.mpr ⟨(mwsX5_row_0 _ (List.mem_of_getElem? (i := 7) rfl)), (List.forall_mem_cons.mpr ⟨(mwsX5_row_0 _ (List.mem_of_getElem? (i := 8) rfl)), (List.forall_mem_cons.mpr ⟨(mwsX5_row_0 _ (List.mem_of_getElem? (i := 9) rfl)), (List.forall_mem_cons.mpr ⟨(mwsX5_row_0 _ (List.mem_of_getElem? (i := 2) rfl)), (fun _ h => absurd h List.not_mem_nil)⟩)⟩)⟩)⟩) (by decide +kernel)) ggX5_row_X5_start
set_option maxRecDepth 20000 in
theorem ggX5_row_X5_whole : GoodIn wsX5_row wsX5_whole := goodIn_sub (List.forall_mem_cons.mpr ⟨(mwsX5_row_0 _ (List.mem_of_getElem? (i := 18) rfl)), (List.forall_mem_cons.mpr ⟨(mwsX5_row_0 _ (List.mem_of_getElem? (i := 19) rfl)), (fun _ h => absurd h List.not_mem_nil)⟩)⟩) (by decide +kernel)
set_option maxRecDepth 20000 in
theorem gX5_row_X5_whole : GoodIn wsX5_row (va_wsS RX5 85 yX5_whole wsX5_whole) := goodIn_app (goodIn_sub (List.forall_mem_cons.mpr ⟨(mwsX5_row_0 _ (List.mem_of_getElem? (i := 16) rfl)), (List.forall_mem_cons.mpr ⟨(mwsX5_row_0 _ (List.mem_of_getElem? (i := 17) rfl)), (List.forall_mem_cons.mpr ⟨(mwsX5_row_0 _ (List.mem_of_getElem? (i := 2) rfl)), (fun _ h => absurd h List.not_mem_nil)⟩)⟩)⟩) (by decide +kernel)) ggX5_row_X5_whole
set_option maxRecDepth 20000 in
theorem ggX5_row_X5_told : GoodIn wsX5_row wsX5_told := goodIn_sub (List.forall_mem_cons.mpr ⟨(mwsX5_row_0 _ (List.mem_of_getElem? (i := 23) rfl)), (tk_mem 24 _ (fun w h => (mwsX5_row_1 _ (tkB_mem 0 24 h))) (tk_mem 24 _ (fun w h => (mwsX5_row_2 _ (tkB_mem 0 24 h))) (tk_mem 24 _ (fun w h => (mwsX5_row_3 _ (tkB_mem 0 24 h))) (tk_mem 24 _ (fun w h => (mwsX5_row_4 _ (tkB_mem 0 24 h))) (tk_mem 24 _ (fun w h => (mwsX5_row_5 _ (tkB_mem 0 24 h))) (tk_mem 24 _ (fun w h => (mwsX5_row_6 _ (tkB_mem 0 24 h))) (tk_mem 24 _ (fun w h => (mwsX5_row_7 _ (tkB_mem 0 24 h))) (List.forall_mem_cons.mpr ⟨(mwsX5_row_0 _ (List.mem_of_getElem? (i := 2) rfl)), (tk_mem 24 _ (fun w h => (mwsX5_row_8 _ (tkB_mem 0 24 h))) (tk_mem 24 _ (fun w h => (mwsX5_row_9 _ (tkB_mem 0 24 h))) (tk_mem 24 _ (fun w h => (mwsX5_row_10 _ (tkB_mem 0 24 h))) (tk_mem 24 _ (fun w h => (mwsX5_row_11 _ (tkB_mem 0 24 h))) (tk_mem 7 _ (fun w h => (mwsX5_row_12 _ (tkB_mem 0 7 h))) (tk_mem 4 _ (fun w h => (mwsX5_row_14 _ (tkB_mem 0 4 h))) (tk_mem 13 _ (fun w h => (mwsX5_row_13 _ (tkB_mem 0 13 h))) (tk_mem 4 _ (fun w h => (mwsX5_row_15 _ (tkB_mem 0 4 h))) (fun _ h => absurd h List.not_mem_nil)))))))))⟩))))))))⟩) (by decide +kernel)
set_option maxRecDepth 20000 in
theorem gX5_row_X5_told : GoodIn wsX5_row (wsV RX5 212 RX5 yX5_told wsX5_told) := goodIn_app (goodIn_sub (List.forall_mem_cons.mpr ⟨(mwsX5_row_0 _ (List.mem_of_getElem? (i := 20) rfl)), (List.forall_mem_cons.mpr ⟨(mwsX5_row_0 _ (List.mem_of_getElem? (i := 21) rfl)), (List.forall_mem_cons.mpr ⟨(mwsX5_row_0 _ (List.mem_of_getElem? (i := 22) rfl)), (List.forall_mem_cons.mpr ⟨(mwsX5_row_0 _ (List.mem_of_getElem? (i := 2) rfl)), (fun _ h => absurd h List.not_mem_nil)⟩)⟩)⟩)⟩) (by decide +kernel)) ggX5_row_X5_told
theorem adX5_row_0 : fd_rows (cX5_row.data.toList.drop 0) 0 [(0, some (.aload_n 0), 1), (1, some (.iload_n 1), 1), (2, some (.invokestatic 53), 3), (5, some (.iconst 1), 1), (6, some (.invokevirtual 57), 3), (9, some (.ifCond .eq 8), 3), (12, some (.ldc 210), 2), (14, some (.goto 11), 3), (17, some (.aload_n 0), 1), (18, some (.iload_n 1), 1), (19, some (.invokestatic 85), 3), (22, some (.invokevirtual 212), 3), (25, some (.areturn), 1)] = true := by decide +kernel
theorem dX5_row_0 : decode cX5_row 0 = .ok (.aload_n 0, 1) := fd_get adX5_row_0 (k := 0) rfl
theorem dX5_row_1 : decode cX5_row 1 = .ok (.iload_n 1, 1) := fd_get adX5_row_0 (k := 1) rfl
theorem dX5_row_2 : decode cX5_row 2 = .ok (.invokestatic 53, 3) := fd_get adX5_row_0 (k := 2) rfl
theorem dX5_row_5 : decode cX5_row 5 = .ok (.iconst 1, 1) := fd_get adX5_row_0 (k := 3) rfl
theorem dX5_row_6 : decode cX5_row 6 = .ok (.invokevirtual 57, 3) := fd_get adX5_row_0 (k := 4) rfl
theorem dX5_row_9 : decode cX5_row 9 = .ok (.ifCond .eq 8, 3) := fd_get adX5_row_0 (k := 5) rfl
theorem dX5_row_12 : decode cX5_row 12 = .ok (.ldc 210, 2) := fd_get adX5_row_0 (k := 6) rfl
theorem dX5_row_14 : decode cX5_row 14 = .ok (.goto 11, 3) := fd_get adX5_row_0 (k := 7) rfl
theorem dX5_row_17 : decode cX5_row 17 = .ok (.aload_n 0, 1) := fd_get adX5_row_0 (k := 8) rfl
theorem dX5_row_18 : decode cX5_row 18 = .ok (.iload_n 1, 1) := fd_get adX5_row_0 (k := 9) rfl
theorem dX5_row_19 : decode cX5_row 19 = .ok (.invokestatic 85, 3) := fd_get adX5_row_0 (k := 10) rfl
theorem dX5_row_22 : decode cX5_row 22 = .ok (.invokevirtual 212, 3) := fd_get adX5_row_0 (k := 11) rfl
theorem dX5_row_25 : decode cX5_row 25 = .ok (.areturn, 1) := fd_get adX5_row_0 (k := 12) rfl
theorem adX5_areSame_0 : fd_rows (cX5_areSame.data.toList.drop 0) 0 [(0, some (.iconst 0), 1), (1, some (.istore_n 3), 1), (2, some (.iload_n 3), 1), (3, some (.bipush 100), 2), (5, some (.if_icmp .ge 30), 3), (8, some (.aload_n 0), 1), (9, some (.getfield 11), 3), (12, some (.iload_n 1), 1), (13, some (.aaload), 1), (14, some (.iload_n 3), 1), (15, some (.iaload), 1), (16, some (.aload_n 0), 1), (17, some (.getfield 11), 3), (20, some (.iload_n 2), 1), (21, some (.aaload), 1), (22, some (.iload_n 3), 1)] = true := by decide +kernel
theorem adX5_areSame_1 : fd_rows (cX5_areSame.data.toList.drop 23) 23 [(23, some (.iaload), 1), (24, some (.if_icmp .eq 5), 3), (27, some (.iconst 0), 1), (28, some (.ireturn), 1), (29, some (.iinc 3 1), 3), (32, some (.goto (-30)), 3), (35, some (.iconst 1), 1), (36, some (.ireturn), 1)] = true := by decide +kernel
theorem dX5_areSame_0 : decode cX5_areSame 0 = .ok (.iconst 0, 1) := fd_get adX5_areSame_0 (k := 0) rfl
theorem dX5_areSame_1 : decode cX5_areSame 1 = .ok (.istore_n 3, 1) := fd_get adX5_areSame_0 (k := 1) rfl
theorem dX5_areSame_2 : decode cX5_areSame 2 = .ok (.iload_n 3, 1) := fd_get adX5_areSame_0 (k := 2) rfl
theorem dX5_areSame_3 : decode cX5_areSame 3 = .ok (.bipush 100, 2) := fd_get adX5_areSame_0 (k := 3) rfl
theorem dX5_areSame_5 : decode cX5_areSame 5 = .ok (.if_icmp .ge 30, 3) := fd_get adX5_areSame_0 (k := 4) rfl
theorem dX5_areSame_8 : decode cX5_areSame 8 = .ok (.aload_n 0, 1) := fd_get adX5_areSame_0 (k := 5) rfl
theorem dX5_areSame_9 : decode cX5_areSame 9 = .ok (.getfield 11, 3) := fd_get adX5_areSame_0 (k := 6) rfl
theorem dX5_areSame_12 : decode cX5_areSame 12 = .ok (.iload_n 1, 1) := fd_get adX5_areSame_0 (k := 7) rfl
theorem dX5_areSame_13 : decode cX5_areSame 13 = .ok (.aaload, 1) := fd_get adX5_areSame_0 (k := 8) rfl
theorem dX5_areSame_14 : decode cX5_areSame 14 = .ok (.iload_n 3, 1) := fd_get adX5_areSame_0 (k := 9) rfl
theorem dX5_areSame_15 : decode cX5_areSame 15 = .ok (.iaload, 1) := fd_get adX5_areSame_0 (k := 10) rfl
theorem dX5_areSame_16 : decode cX5_areSame 16 = .ok (.aload_n 0, 1) := fd_get adX5_areSame_0 (k := 11) rfl
theorem dX5_areSame_17 : decode cX5_areSame 17 = .ok (.getfield 11, 3) := fd_get adX5_areSame_0 (k := 12) rfl
theorem dX5_areSame_20 : decode cX5_areSame 20 = .ok (.iload_n 2, 1) := fd_get adX5_areSame_0 (k := 13) rfl
theorem dX5_areSame_21 : decode cX5_areSame 21 = .ok (.aaload, 1) := fd_get adX5_areSame_0 (k := 14) rfl
theorem dX5_areSame_22 : decode cX5_areSame 22 = .ok (.iload_n 3, 1) := fd_get adX5_areSame_0 (k := 15) rfl
theorem dX5_areSame_23 : decode cX5_areSame 23 = .ok (.iaload, 1) := fd_get adX5_areSame_1 (k := 0) rfl
theorem dX5_areSame_24 : decode cX5_areSame 24 = .ok (.if_icmp .eq 5, 3) := fd_get adX5_areSame_1 (k := 1) rfl
theorem dX5_areSame_27 : decode cX5_areSame 27 = .ok (.iconst 0, 1) := fd_get adX5_areSame_1 (k := 2) rfl
theorem dX5_areSame_28 : decode cX5_areSame 28 = .ok (.ireturn, 1) := fd_get adX5_areSame_1 (k := 3) rfl
theorem dX5_areSame_29 : decode cX5_areSame 29 = .ok (.iinc 3 1, 3) := fd_get adX5_areSame_1 (k := 4) rfl
theorem dX5_areSame_32 : decode cX5_areSame 32 = .ok (.goto (-30), 3) := fd_get adX5_areSame_1 (k := 5) rfl
theorem dX5_areSame_35 : decode cX5_areSame 35 = .ok (.iconst 1, 1) := fd_get adX5_areSame_1 (k := 6) rfl
theorem dX5_areSame_36 : decode cX5_areSame 36 = .ok (.ireturn, 1) := fd_get adX5_areSame_1 (k := 7) rfl
theorem mwsX5_same_0 : ∀ w ∈ wsX50, w ∈ wsX5_same := fun w h => (List.mem_cons_of_mem _ (List.mem_append_right _ h))
set_option maxRecDepth 20000 in
theorem ggX5_same_X5_isNoBook : GoodIn wsX5_same wsX5_isNoBook := goodIn_sub (List.forall_mem_cons.mpr ⟨(List.mem_cons_of_mem _ (List.mem_append_left _ (List.mem_of_getElem? (i := 3) rfl))), (List.forall_mem_cons.mpr ⟨(List.mem_cons_of_mem _ (List.mem_append_left _ (List.mem_of_getElem? (i := 4) rfl))), (List.forall_mem_cons.mpr ⟨(List.mem_cons_of_mem _ (List.mem_append_left _ (List.mem_of_getElem? (i := 5) rfl))), (List.forall_mem_cons.mpr ⟨(List.mem_cons_of_mem _ (List.mem_append_left _ (List.mem_of_getElem? (i := 2) rfl))), (List.forall_mem_cons.mpr ⟨(List.mem_cons_of_mem _ (List.mem_append_left _ (List.mem_of_getElem? (i := 6) rfl))), (fun _ h => absurd h List.not_mem_nil)⟩)⟩)⟩)⟩)⟩) (by decide +kernel)
set_option maxRecDepth 20000 in
theorem gX5_same_X5_isNoBook : GoodIn wsX5_same (va_wsS RX5 53 yX5_isNoBook wsX5_isNoBook) := goodIn_app (goodIn_sub (List.forall_mem_cons.mpr ⟨(List.mem_cons_of_mem _ (List.mem_append_left _ (List.mem_of_getElem? (i := 0) rfl))), (List.forall_mem_cons.mpr ⟨(List.mem_cons_of_mem _ (List.mem_append_left _ (List.mem_of_getElem? (i := 1) rfl))), (List.forall_mem_cons.mpr ⟨(List.mem_cons_of_mem _ (List.mem_append_left _ (List.mem_of_getElem? (i := 2) rfl))), (fun _ h => absurd h List.not_mem_nil)⟩)⟩)⟩) (by decide +kernel)) ggX5_same_X5_isNoBook
set_option maxRecDepth 20000 in
theorem ggX5_same_X5_start : GoodIn wsX5_same wsX5_start := goodIn_sub (tk_mem 5 _ (fun w h => (List.mem_cons_of_mem _ (List.mem_append_left _ (tkB_mem 10 5 h)))) (List.forall_mem_cons.mpr ⟨(List.mem_cons_of_mem _ (List.mem_append_left _ (List.mem_of_getElem? (i := 2) rfl))), (List.forall_mem_cons.mpr ⟨(List.mem_cons_of_mem _ (List.mem_append_left _ (List.mem_of_getElem? (i := 15) rfl))), (tk_mem 13 _ (fun w h => (mwsX5_same_0 _ (tkB_mem 0 13 h))) (fun _ h => absurd h List.not_mem_nil))⟩)⟩)) (by decide +kernel)
set_option maxRecDepth 20000 in
theorem gX5_same_X5_start : GoodIn wsX5_same (wsV RX5 57 RX5 yX5_start wsX5_start) := goodIn_app (goodIn_sub (List.forall_mem_cons.mpr ⟨(List.mem_cons_of_mem _ (List.mem_append_left _ (List.mem_of_getElem? (i := 7) rfl))), (List.forall_mem_cons.mpr ⟨(List.mem_cons_of_mem _ (List.mem_append_left _ (List.mem_of_getElem? (i := 8) rfl))), (List.forall_mem_cons.mpr ⟨(List.mem_cons_of_mem _ (List.mem_append_left _ (List.mem_of_getElem? (i := 9) rfl))), (List.forall_mem_cons.mpr ⟨(List.mem_cons_of_mem _ (List.mem_append_left _ (List.mem_of_getElem? (i := 2) rfl))), (fun _ h => absurd h List.not_mem_nil)⟩)⟩)⟩)⟩) (by decide +kernel)) ggX5_same_X5_start
set_option maxRecDepth 20000 in
theorem ggX5_same_X5_areSame : GoodIn wsX5_same wsX5_areSame := goodIn_sub (List.forall_mem_cons.mpr ⟨(List.mem_cons_of_mem _ (List.mem_append_left _ (List.mem_of_getElem? (i := 19) rfl))), (List.forall_mem_cons.mpr ⟨(List.mem_cons_of_mem _ (List.mem_append_left _ (List.mem_of_getElem? (i := 20) rfl))), (tk_mem 13 _ (fun w h => (mwsX5_same_0 _ (tkB_mem 0 13 h))) (fun _ h => absurd h List.not_mem_nil))⟩)⟩) (by decide +kernel)
set_option maxRecDepth 20000 in
theorem gX5_same_X5_areSame : GoodIn wsX5_same (wsV RX5 216 RX5 yX5_areSame wsX5_areSame) := goodIn_app (goodIn_sub (List.forall_mem_cons.mpr ⟨(List.mem_cons_of_mem _ (List.mem_append_left _ (List.mem_of_getElem? (i := 16) rfl))), (List.forall_mem_cons.mpr ⟨(List.mem_cons_of_mem _ (List.mem_append_left _ (List.mem_of_getElem? (i := 17) rfl))), (List.forall_mem_cons.mpr ⟨(List.mem_cons_of_mem _ (List.mem_append_left _ (List.mem_of_getElem? (i := 18) rfl))), (List.forall_mem_cons.mpr ⟨(List.mem_cons_of_mem _ (List.mem_append_left _ (List.mem_of_getElem? (i := 2) rfl))), (fun _ h => absurd h List.not_mem_nil)⟩)⟩)⟩)⟩) (by decide +kernel)) ggX5_same_X5_areSame
theorem adX5_same_0 : fd_rows (cX5_same.data.toList.drop 0) 0 [(0, some (.aload_n 0), 1), (1, some (.iload_n 1), 1), (2, some (.invokestatic 53), 3), (5, some (.ifCond .ne 10), 3), (8, some (.iload_n 2), 1), (9, some (.invokestatic 53), 3), (12, some (.ifCond .eq 7), 3), (15, some (.iconst 1), 1), (16, some (.goto 4), 3), (19, some (.iconst 0), 1), (20, some (.iconst 1), 1), (21, some (.invokevirtual 57), 3), (24, some (.ifCond .ne 16), 3), (27, some (.aload_n 0), 1), (28, some (.iload_n 1), 1), (29, some (.iload_n 2), 1)] = true := by decide +kernel
theorem adX5_same_1 : fd_rows (cX5_same.data.toList.drop 30) 30 [(30, some (.invokevirtual 216), 3), (33, some (.ifCond .eq 7), 3), (36, some (.iconst 1), 1), (37, some (.goto 4), 3), (40, some (.iconst 0), 1), (41, some (.ireturn), 1)] = true := by decide +kernel
theorem dX5_same_0 : decode cX5_same 0 = .ok (.aload_n 0, 1) := fd_get adX5_same_0 (k := 0) rfl
theorem dX5_same_1 : decode cX5_same 1 = .ok (.iload_n 1, 1) := fd_get adX5_same_0 (k := 1) rfl
theorem dX5_same_2 : decode cX5_same 2 = .ok (.invokestatic 53, 3) := fd_get adX5_same_0 (k := 2) rfl
theorem dX5_same_5 : decode cX5_same 5 = .ok (.ifCond .ne 10, 3) := fd_get adX5_same_0 (k := 3) rfl
theorem dX5_same_8 : decode cX5_same 8 = .ok (.iload_n 2, 1) := fd_get adX5_same_0 (k := 4) rfl
theorem dX5_same_9 : decode cX5_same 9 = .ok (.invokestatic 53, 3) := fd_get adX5_same_0 (k := 5) rfl
theorem dX5_same_12 : decode cX5_same 12 = .ok (.ifCond .eq 7, 3) := fd_get adX5_same_0 (k := 6) rfl
theorem dX5_same_15 : decode cX5_same 15 = .ok (.iconst 1, 1) := fd_get adX5_same_0 (k := 7) rfl
theorem dX5_same_16 : decode cX5_same 16 = .ok (.goto 4, 3) := fd_get adX5_same_0 (k := 8) rfl
theorem dX5_same_19 : decode cX5_same 19 = .ok (.iconst 0, 1) := fd_get adX5_same_0 (k := 9) rfl
theorem dX5_same_20 : decode cX5_same 20 = .ok (.iconst 1, 1) := fd_get adX5_same_0 (k := 10) rfl
theorem dX5_same_21 : decode cX5_same 21 = .ok (.invokevirtual 57, 3) := fd_get adX5_same_0 (k := 11) rfl
theorem dX5_same_24 : decode cX5_same 24 = .ok (.ifCond .ne 16, 3) := fd_get adX5_same_0 (k := 12) rfl
theorem dX5_same_27 : decode cX5_same 27 = .ok (.aload_n 0, 1) := fd_get adX5_same_0 (k := 13) rfl
theorem dX5_same_28 : decode cX5_same 28 = .ok (.iload_n 1, 1) := fd_get adX5_same_0 (k := 14) rfl
theorem dX5_same_29 : decode cX5_same 29 = .ok (.iload_n 2, 1) := fd_get adX5_same_0 (k := 15) rfl
theorem dX5_same_30 : decode cX5_same 30 = .ok (.invokevirtual 216, 3) := fd_get adX5_same_1 (k := 0) rfl
theorem dX5_same_33 : decode cX5_same 33 = .ok (.ifCond .eq 7, 3) := fd_get adX5_same_1 (k := 1) rfl
theorem dX5_same_36 : decode cX5_same 36 = .ok (.iconst 1, 1) := fd_get adX5_same_1 (k := 2) rfl
theorem dX5_same_37 : decode cX5_same 37 = .ok (.goto 4, 3) := fd_get adX5_same_1 (k := 3) rfl
theorem dX5_same_40 : decode cX5_same 40 = .ok (.iconst 0, 1) := fd_get adX5_same_1 (k := 4) rfl
theorem dX5_same_41 : decode cX5_same 41 = .ok (.ireturn, 1) := fd_get adX5_same_1 (k := 5) rfl
theorem mwsX5_viewGet_0 : ∀ w ∈ wsX5_viewGet_r1, w ∈ wsX5_viewGet := fun w h => (List.mem_cons_of_mem _ (List.mem_append_left _ (List.mem_append_left _ h)))
theorem mwsX5_viewGet_1 : ∀ w ∈ wsX5_viewGet_r2, w ∈ wsX5_viewGet := fun w h => (List.mem_cons_of_mem _ (List.mem_append_left _ (List.mem_append_right _ h)))
theorem mwsX5_viewGet_2 : ∀ w ∈ wsX50, w ∈ wsX5_viewGet := fun w h => (List.mem_cons_of_mem _ (List.mem_append_right _ h))
set_option maxRecDepth 20000 in
theorem ggX5_viewGet_X5_isNoView : GoodIn wsX5_viewGet wsX5_isNoView := goodIn_sub (List.forall_mem_cons.mpr ⟨(mwsX5_viewGet_0 _ (List.mem_of_getElem? (i := 6) rfl)), (List.forall_mem_cons.mpr ⟨(mwsX5_viewGet_0 _ (List.mem_of_getElem? (i := 0) rfl)), (List.forall_mem_cons.mpr ⟨(mwsX5_viewGet_0 _ (List.mem_of_getElem? (i := 7) rfl)), (List.forall_mem_cons.mpr ⟨(mwsX5_viewGet_0 _ (List.mem_of_getElem? (i := 8) rfl)), (List.forall_mem_cons.mpr ⟨(mwsX5_viewGet_0 _ (List.mem_of_getElem? (i := 5) rfl)), (List.forall_mem_cons.mpr ⟨(mwsX5_viewGet_0 _ (List.mem_of_getElem? (i := 9) rfl)), (tk_mem 13 _ (fun w h => (mwsX5_viewGet_2 _ (tkB_mem 0 13 h))) (fun _ h => absurd h List.not_mem_nil))⟩)⟩)⟩)⟩)⟩)⟩) (by decide +kernel)
set_option maxRecDepth 20000 in
theorem gX5_viewGet_X5_isNoView : GoodIn wsX5_viewGet (wsV RX5 176 RX5 yX5_isNoView wsX5_isNoView) := goodIn_app (goodIn_sub (tk_mem 4 _ (fun w h => (mwsX5_viewGet_0 _ (tkB_mem 2 4 h))) (fun _ h => absurd h List.not_mem_nil)) (by decide +kernel)) ggX5_viewGet_X5_isNoView
set_option maxRecDepth 20000 in
theorem ggX5_viewGet_X5_start : GoodIn wsX5_viewGet wsX5_start := goodIn_sub (tk_mem 5 _ (fun w h => (mwsX5_viewGet_0 _ (tkB_mem 13 5 h))) (List.forall_mem_cons.mpr ⟨(mwsX5_viewGet_0 _ (List.mem_of_getElem? (i := 5) rfl)), (List.forall_mem_cons.mpr ⟨(mwsX5_viewGet_0 _ (List.mem_of_getElem? (i := 18) rfl)), (tk_mem 13 _ (fun w h => (mwsX5_viewGet_2 _ (tkB_mem 0 13 h))) (fun _ h => absurd h List.not_mem_nil))⟩)⟩)) (by decide +kernel)
set_option maxRecDepth 20000 in
theorem gX5_viewGet_X5_start : GoodIn wsX5_viewGet (wsV RX5 57 RX5 yX5_start wsX5_start) := goodIn_app (goodIn_sub (List.forall_mem_cons.mpr ⟨(mwsX5_viewGet_0 _ (List.mem_of_getElem? (i := 10) rfl)), (List.forall_mem_cons.mpr ⟨(mwsX5_viewGet_0 _ (List.mem_of_getElem? (i := 11) rfl)), (List.forall_mem_cons.mpr ⟨(mwsX5_viewGet_0 _ (List.mem_of_getElem? (i := 12) rfl)), (List.forall_mem_cons.mpr ⟨(mwsX5_viewGet_0 _ (List.mem_of_getElem? (i := 5) rfl)), (fun _ h => absurd h List.not_mem_nil)⟩)⟩)⟩)⟩) (by decide +kernel)) ggX5_viewGet_X5_start
set_option maxRecDepth 20000 in
theorem ggX5_viewGet_X5_isNoKey : GoodIn wsX5_viewGet wsX5_isNoKey := goodIn_sub (List.forall_mem_cons.mpr ⟨(mwsX5_viewGet_0 _ (List.mem_of_getElem? (i := 21) rfl)), (List.forall_mem_cons.mpr ⟨(mwsX5_viewGet_0 _ (List.mem_of_getElem? (i := 7) rfl)), (List.forall_mem_cons.mpr ⟨(mwsX5_viewGet_0 _ (List.mem_of_getElem? (i := 8) rfl)), (List.forall_mem_cons.mpr ⟨(mwsX5_viewGet_0 _ (List.mem_of_getElem? (i := 5) rfl)), (List.forall_mem_cons.mpr ⟨(mwsX5_viewGet_0 _ (List.mem_of_getElem? (i := 9) rfl)), (fun _ h => absurd h List.not_mem_nil)⟩)⟩)⟩)⟩)⟩) (by decide +kernel)
set_option maxRecDepth 20000 in
theorem gX5_viewGet_X5_isNoKey : GoodIn wsX5_viewGet (va_wsS RX5 60 yX5_isNoKey wsX5_isNoKey) := goodIn_app (goodIn_sub (List.forall_mem_cons.mpr ⟨(mwsX5_viewGet_0 _ (List.mem_of_getElem? (i := 19) rfl)), (List.forall_mem_cons.mpr ⟨(mwsX5_viewGet_0 _ (List.mem_of_getElem? (i := 20) rfl)), (List.forall_mem_cons.mpr ⟨(mwsX5_viewGet_0 _ (List.mem_of_getElem? (i := 5) rfl)), (fun _ h => absurd h List.not_mem_nil)⟩)⟩)⟩) (by decide +kernel)) ggX5_viewGet_X5_isNoKey
set_option maxRecDepth 20000 in
theorem ggX5_viewGet_X5_refuse : GoodIn wsX5_viewGet wsX5_refuse := goodIn_sub (List.forall_mem_cons.mpr ⟨(mwsX5_viewGet_0 _ (List.mem_of_getElem? (i := 18) rfl)), (List.forall_mem_cons.mpr ⟨(mwsX5_viewGet_0 _ (List.mem_of_getElem? (i := 14) rfl)), (tk_mem 13 _ (fun w h => (mwsX5_viewGet_2 _ (tkB_mem 0 13 h))) (fun _ h => absurd h List.not_mem_nil))⟩)⟩) (by decide +kernel)
set_option maxRecDepth 20000 in
theorem gX5_viewGet_X5_refuse : GoodIn wsX5_viewGet (wsV RX5 45 RX5 yX5_refuse wsX5_refuse) := goodIn_app (goodIn_sub (List.forall_mem_cons.mpr ⟨(mwsX5_viewGet_0 _ (List.mem_of_getElem? (i := 15) rfl)), (List.forall_mem_cons.mpr ⟨(mwsX5_viewGet_0 _ (List.mem_of_getElem? (i := 16) rfl)), (List.forall_mem_cons.mpr ⟨(mwsX5_viewGet_0 _ (List.mem_of_getElem? (i := 17) rfl)), (List.forall_mem_cons.mpr ⟨(mwsX5_viewGet_0 _ (List.mem_of_getElem? (i := 5) rfl)), (fun _ h => absurd h List.not_mem_nil)⟩)⟩)⟩)⟩) (by decide +kernel)) ggX5_viewGet_X5_refuse
set_option maxRecDepth 20000 in
theorem ggX5_viewGet_X5_shows : GoodIn wsX5_viewGet wsX5_shows := goodIn_sub (List.forall_mem_cons.mpr ⟨(mwsX5_viewGet_1 _ (List.mem_of_getElem? (i := 1) rfl)), (List.forall_mem_cons.mpr ⟨(mwsX5_viewGet_0 _ (List.mem_of_getElem? (i := 1) rfl)), (List.forall_mem_cons.mpr ⟨(mwsX5_viewGet_1 _ (List.mem_of_getElem? (i := 2) rfl)), (List.forall_mem_cons.mpr ⟨(mwsX5_viewGet_1 _ (List.mem_of_getElem? (i := 3) rfl)), (List.forall_mem_cons.mpr ⟨(mwsX5_viewGet_1 _ (List.mem_of_getElem? (i := 4) rfl)), (List.forall_mem_cons.mpr ⟨(mwsX5_viewGet_0 _ (List.mem_of_getElem? (i := 5) rfl)), (tk_mem 7 _ (fun w h => (mwsX5_viewGet_1 _ (tkB_mem 5 7 h))) (tk_mem 13 _ (fun w h => (mwsX5_viewGet_2 _ (tkB_mem 0 13 h))) (fun _ h => absurd h List.not_mem_nil)))⟩)⟩)⟩)⟩)⟩)⟩) (by decide +kernel)
set_option maxRecDepth 20000 in
theorem gX5_viewGet_X5_shows : GoodIn wsX5_viewGet (wsV RX5 74 RX5 yX5_shows wsX5_shows) := goodIn_app (goodIn_sub (List.forall_mem_cons.mpr ⟨(mwsX5_viewGet_0 _ (List.mem_of_getElem? (i := 22) rfl)), (List.forall_mem_cons.mpr ⟨(mwsX5_viewGet_0 _ (List.mem_of_getElem? (i := 23) rfl)), (List.forall_mem_cons.mpr ⟨(mwsX5_viewGet_1 _ (List.mem_of_getElem? (i := 0) rfl)), (List.forall_mem_cons.mpr ⟨(mwsX5_viewGet_0 _ (List.mem_of_getElem? (i := 5) rfl)), (fun _ h => absurd h List.not_mem_nil)⟩)⟩)⟩)⟩) (by decide +kernel)) ggX5_viewGet_X5_shows
theorem adX5_viewGet_0 : fd_rows (cX5_viewGet.data.toList.drop 0) 0 [(0, some (.aload_n 0), 1), (1, some (.aload_n 0), 1), (2, some (.iload_n 1), 1), (3, some (.invokevirtual 176), 3), (6, some (.iconst 1), 1), (7, some (.invokevirtual 57), 3), (10, some (.ifCond .ne 15), 3), (13, some (.aload_n 0), 1), (14, some (.iload_n 2), 1), (15, some (.invokestatic 60), 3), (18, some (.iconst 2), 1), (19, some (.invokevirtual 45), 3), (22, some (.ifCond .eq 5), 3), (25, some (.iconst 0), 1), (26, some (.ireturn), 1), (27, some (.aload_n 0), 1)] = true := by decide +kernel
theorem adX5_viewGet_1 : fd_rows (cX5_viewGet.data.toList.drop 28) 28 [(28, some (.aload_n 0), 1), (29, some (.getfield 22), 3), (32, some (.iload_n 1), 1), (33, some (.aaload), 1), (34, some (.iload_n 2), 1), (35, some (.invokevirtual 74), 3), (38, some (.ifCond .eq 21), 3), (41, some (.aload_n 0), 1), (42, some (.getfield 11), 3), (45, some (.aload_n 0), 1), (46, some (.getfield 22), 3), (49, some (.iload_n 1), 1), (50, some (.aaload), 1), (51, some (.iconst 0), 1), (52, some (.iaload), 1), (53, some (.aaload), 1)] = true := by decide +kernel
theorem adX5_viewGet_2 : fd_rows (cX5_viewGet.data.toList.drop 54) 54 [(54, some (.iload_n 2), 1), (55, some (.iaload), 1), (56, some (.goto 6), 3), (59, some (.sipush (-10000)), 3), (62, some (.ireturn), 1)] = true := by decide +kernel
theorem dX5_viewGet_0 : decode cX5_viewGet 0 = .ok (.aload_n 0, 1) := fd_get adX5_viewGet_0 (k := 0) rfl
theorem dX5_viewGet_1 : decode cX5_viewGet 1 = .ok (.aload_n 0, 1) := fd_get adX5_viewGet_0 (k := 1) rfl
theorem dX5_viewGet_2 : decode cX5_viewGet 2 = .ok (.iload_n 1, 1) := fd_get adX5_viewGet_0 (k := 2) rfl
theorem dX5_viewGet_3 : decode cX5_viewGet 3 = .ok (.invokevirtual 176, 3) := fd_get adX5_viewGet_0 (k := 3) rfl
theorem dX5_viewGet_6 : decode cX5_viewGet 6 = .ok (.iconst 1, 1) := fd_get adX5_viewGet_0 (k := 4) rfl
theorem dX5_viewGet_7 : decode cX5_viewGet 7 = .ok (.invokevirtual 57, 3) := fd_get adX5_viewGet_0 (k := 5) rfl
theorem dX5_viewGet_10 : decode cX5_viewGet 10 = .ok (.ifCond .ne 15, 3) := fd_get adX5_viewGet_0 (k := 6) rfl
theorem dX5_viewGet_13 : decode cX5_viewGet 13 = .ok (.aload_n 0, 1) := fd_get adX5_viewGet_0 (k := 7) rfl
theorem dX5_viewGet_14 : decode cX5_viewGet 14 = .ok (.iload_n 2, 1) := fd_get adX5_viewGet_0 (k := 8) rfl
theorem dX5_viewGet_15 : decode cX5_viewGet 15 = .ok (.invokestatic 60, 3) := fd_get adX5_viewGet_0 (k := 9) rfl
theorem dX5_viewGet_18 : decode cX5_viewGet 18 = .ok (.iconst 2, 1) := fd_get adX5_viewGet_0 (k := 10) rfl
theorem dX5_viewGet_19 : decode cX5_viewGet 19 = .ok (.invokevirtual 45, 3) := fd_get adX5_viewGet_0 (k := 11) rfl
theorem dX5_viewGet_22 : decode cX5_viewGet 22 = .ok (.ifCond .eq 5, 3) := fd_get adX5_viewGet_0 (k := 12) rfl
theorem dX5_viewGet_25 : decode cX5_viewGet 25 = .ok (.iconst 0, 1) := fd_get adX5_viewGet_0 (k := 13) rfl
theorem dX5_viewGet_26 : decode cX5_viewGet 26 = .ok (.ireturn, 1) := fd_get adX5_viewGet_0 (k := 14) rfl
theorem dX5_viewGet_27 : decode cX5_viewGet 27 = .ok (.aload_n 0, 1) := fd_get adX5_viewGet_0 (k := 15) rfl
theorem dX5_viewGet_28 : decode cX5_viewGet 28 = .ok (.aload_n 0, 1) := fd_get adX5_viewGet_1 (k := 0) rfl
theorem dX5_viewGet_29 : decode cX5_viewGet 29 = .ok (.getfield 22, 3) := fd_get adX5_viewGet_1 (k := 1) rfl
theorem dX5_viewGet_32 : decode cX5_viewGet 32 = .ok (.iload_n 1, 1) := fd_get adX5_viewGet_1 (k := 2) rfl
theorem dX5_viewGet_33 : decode cX5_viewGet 33 = .ok (.aaload, 1) := fd_get adX5_viewGet_1 (k := 3) rfl
theorem dX5_viewGet_34 : decode cX5_viewGet 34 = .ok (.iload_n 2, 1) := fd_get adX5_viewGet_1 (k := 4) rfl
theorem dX5_viewGet_35 : decode cX5_viewGet 35 = .ok (.invokevirtual 74, 3) := fd_get adX5_viewGet_1 (k := 5) rfl
theorem dX5_viewGet_38 : decode cX5_viewGet 38 = .ok (.ifCond .eq 21, 3) := fd_get adX5_viewGet_1 (k := 6) rfl
theorem dX5_viewGet_41 : decode cX5_viewGet 41 = .ok (.aload_n 0, 1) := fd_get adX5_viewGet_1 (k := 7) rfl
theorem dX5_viewGet_42 : decode cX5_viewGet 42 = .ok (.getfield 11, 3) := fd_get adX5_viewGet_1 (k := 8) rfl
theorem dX5_viewGet_45 : decode cX5_viewGet 45 = .ok (.aload_n 0, 1) := fd_get adX5_viewGet_1 (k := 9) rfl
theorem dX5_viewGet_46 : decode cX5_viewGet 46 = .ok (.getfield 22, 3) := fd_get adX5_viewGet_1 (k := 10) rfl
theorem dX5_viewGet_49 : decode cX5_viewGet 49 = .ok (.iload_n 1, 1) := fd_get adX5_viewGet_1 (k := 11) rfl
theorem dX5_viewGet_50 : decode cX5_viewGet 50 = .ok (.aaload, 1) := fd_get adX5_viewGet_1 (k := 12) rfl
theorem dX5_viewGet_51 : decode cX5_viewGet 51 = .ok (.iconst 0, 1) := fd_get adX5_viewGet_1 (k := 13) rfl
theorem dX5_viewGet_52 : decode cX5_viewGet 52 = .ok (.iaload, 1) := fd_get adX5_viewGet_1 (k := 14) rfl
theorem dX5_viewGet_53 : decode cX5_viewGet 53 = .ok (.aaload, 1) := fd_get adX5_viewGet_1 (k := 15) rfl
theorem dX5_viewGet_54 : decode cX5_viewGet 54 = .ok (.iload_n 2, 1) := fd_get adX5_viewGet_2 (k := 0) rfl
theorem dX5_viewGet_55 : decode cX5_viewGet 55 = .ok (.iaload, 1) := fd_get adX5_viewGet_2 (k := 1) rfl
theorem dX5_viewGet_56 : decode cX5_viewGet 56 = .ok (.goto 6, 3) := fd_get adX5_viewGet_2 (k := 2) rfl
theorem dX5_viewGet_59 : decode cX5_viewGet 59 = .ok (.sipush (-10000), 3) := fd_get adX5_viewGet_2 (k := 3) rfl
theorem dX5_viewGet_62 : decode cX5_viewGet 62 = .ok (.ireturn, 1) := fd_get adX5_viewGet_2 (k := 4) rfl
theorem mwsX5_viewTold_0 : ∀ w ∈ wsX5_viewTold_r1, w ∈ wsX5_viewTold := fun w h => (List.mem_cons_of_mem _ (List.mem_append_left _ (List.mem_append_left _ h)))
theorem mwsX5_viewTold_1 : ∀ w ∈ wsX5_viewTold_r2, w ∈ wsX5_viewTold := fun w h => (List.mem_cons_of_mem _ (List.mem_append_left _ (List.mem_append_right _ h)))
theorem mwsX5_viewTold_2 : ∀ w ∈ wsX50, w ∈ wsX5_viewTold := fun w h => (List.mem_cons_of_mem _ (List.mem_append_right _ h))
set_option maxRecDepth 20000 in
theorem ggX5_viewTold_X5_many : GoodIn wsX5_viewTold wsX5_many := goodIn_sub (tk_mem 4 _ (fun w h => (mwsX5_viewTold_0 _ (tkB_mem 5 4 h))) (List.forall_mem_cons.mpr ⟨(mwsX5_viewTold_0 _ (List.mem_of_getElem? (i := 4) rfl)), (tk_mem 15 _ (fun w h => (mwsX5_viewTold_0 _ (tkB_mem 9 15 h))) (tk_mem 13 _ (fun w h => (mwsX5_viewTold_2 _ (tkB_mem 0 13 h))) (fun _ h => absurd h List.not_mem_nil)))⟩)) (by decide +kernel)
set_option maxRecDepth 20000 in
theorem gX5_viewTold_X5_many : GoodIn wsX5_viewTold (wsV RX5 163 RX5 yX5_many wsX5_many) := goodIn_app (goodIn_sub (tk_mem 4 _ (fun w h => (mwsX5_viewTold_0 _ (tkB_mem 1 4 h))) (fun _ h => absurd h List.not_mem_nil)) (by decide +kernel)) ggX5_viewTold_X5_many
set_option maxRecDepth 20000 in
theorem ggX5_viewTold_X5_end : GoodIn wsX5_viewTold wsX5_end := goodIn_sub (tk_mem 4 _ (fun w h => (mwsX5_viewTold_1 _ (tkB_mem 3 4 h))) (List.forall_mem_cons.mpr ⟨(mwsX5_viewTold_0 _ (List.mem_of_getElem? (i := 4) rfl)), (List.forall_mem_cons.mpr ⟨(mwsX5_viewTold_1 _ (List.mem_of_getElem? (i := 7) rfl)), (tk_mem 15 _ (fun w h => (mwsX5_viewTold_0 _ (tkB_mem 6 15 h))) (tk_mem 13 _ (fun w h => (mwsX5_viewTold_2 _ (tkB_mem 0 13 h))) (fun _ h => absurd h List.not_mem_nil)))⟩)⟩)) (by decide +kernel)
set_option maxRecDepth 20000 in
theorem gX5_viewTold_X5_end : GoodIn wsX5_viewTold (wsV RX5 96 RX5 yX5_end wsX5_end) := goodIn_app (goodIn_sub (List.forall_mem_cons.mpr ⟨(mwsX5_viewTold_1 _ (List.mem_of_getElem? (i := 0) rfl)), (List.forall_mem_cons.mpr ⟨(mwsX5_viewTold_1 _ (List.mem_of_getElem? (i := 1) rfl)), (List.forall_mem_cons.mpr ⟨(mwsX5_viewTold_1 _ (List.mem_of_getElem? (i := 2) rfl)), (List.forall_mem_cons.mpr ⟨(mwsX5_viewTold_0 _ (List.mem_of_getElem? (i := 4) rfl)), (fun _ h => absurd h List.not_mem_nil)⟩)⟩)⟩)⟩) (by decide +kernel)) ggX5_viewTold_X5_end
set_option maxRecDepth 20000 in
theorem ggX5_viewTold_X5_sum : GoodIn wsX5_viewTold wsX5_sum := goodIn_sub (List.forall_mem_cons.mpr ⟨(mwsX5_viewTold_1 _ (List.mem_of_getElem? (i := 11) rfl)), (List.forall_mem_cons.mpr ⟨(mwsX5_viewTold_0 _ (List.mem_of_getElem? (i := 10) rfl)), (List.forall_mem_cons.mpr ⟨(mwsX5_viewTold_0 _ (List.mem_of_getElem? (i := 6) rfl)), (List.forall_mem_cons.mpr ⟨(mwsX5_viewTold_0 _ (List.mem_of_getElem? (i := 7) rfl)), (List.forall_mem_cons.mpr ⟨(mwsX5_viewTold_0 _ (List.mem_of_getElem? (i := 8) rfl)), (List.forall_mem_cons.mpr ⟨(mwsX5_viewTold_0 _ (List.mem_of_getElem? (i := 4) rfl)), (List.forall_mem_cons.mpr ⟨(mwsX5_viewTold_0 _ (List.mem_of_getElem? (i := 9) rfl)), (tk_mem 10 _ (fun w h => (mwsX5_viewTold_0 _ (tkB_mem 11 10 h))) (tk_mem 13 _ (fun w h => (mwsX5_viewTold_2 _ (tkB_mem 0 13 h))) (fun _ h => absurd h List.not_mem_nil)))⟩)⟩)⟩)⟩)⟩)⟩)⟩) (by decide +kernel)
set_option maxRecDepth 20000 in
theorem gX5_viewTold_X5_sum : GoodIn wsX5_viewTold (wsV RX5 192 RX5 yX5_sum wsX5_sum) := goodIn_app (goodIn_sub (List.forall_mem_cons.mpr ⟨(mwsX5_viewTold_1 _ (List.mem_of_getElem? (i := 8) rfl)), (List.forall_mem_cons.mpr ⟨(mwsX5_viewTold_1 _ (List.mem_of_getElem? (i := 9) rfl)), (List.forall_mem_cons.mpr ⟨(mwsX5_viewTold_1 _ (List.mem_of_getElem? (i := 10) rfl)), (List.forall_mem_cons.mpr ⟨(mwsX5_viewTold_0 _ (List.mem_of_getElem? (i := 4) rfl)), (fun _ h => absurd h List.not_mem_nil)⟩)⟩)⟩)⟩) (by decide +kernel)) ggX5_viewTold_X5_sum
theorem adX5_viewTold_0 : fd_rows (cX5_viewTold.data.toList.drop 0) 0 [(0, some (.aload_n 0), 1), (1, some (.getfield 22), 3), (4, some (.iload_n 1), 1), (5, some (.aaload), 1), (6, some (.astore_n 3), 1), (7, some (.iload_n 2), 1), (8, none, 48), (56, some (.aload_n 0), 1), (57, some (.aload_n 3), 1), (58, some (.invokevirtual 163), 3), (61, some (.ireturn), 1), (62, some (.aload_n 3), 1), (63, some (.iconst 0), 1), (64, some (.iaload), 1), (65, some (.ireturn), 1), (66, some (.aload_n 3), 1)] = true := by decide +kernel
theorem adX5_viewTold_1 : fd_rows (cX5_viewTold.data.toList.drop 67) 67 [(67, some (.iconst 1), 1), (68, some (.iaload), 1), (69, some (.ireturn), 1), (70, some (.aload_n 3), 1), (71, some (.iconst 3), 1), (72, some (.iaload), 1), (73, some (.ireturn), 1), (74, some (.aload_n 3), 1), (75, some (.iconst 2), 1), (76, some (.iaload), 1), (77, some (.ireturn), 1), (78, some (.aload_n 3), 1), (79, some (.iconst 4), 1), (80, some (.iaload), 1), (81, some (.ireturn), 1), (82, some (.aload_n 0), 1)] = true := by decide +kernel
theorem adX5_viewTold_2 : fd_rows (cX5_viewTold.data.toList.drop 83) 83 [(83, some (.aload_n 3), 1), (84, some (.iconst 0), 1), (85, some (.invokevirtual 96), 3), (88, some (.ireturn), 1), (89, some (.aload_n 0), 1), (90, some (.aload_n 3), 1), (91, some (.iconst 1), 1), (92, some (.invokevirtual 96), 3), (95, some (.ireturn), 1), (96, some (.aload_n 0), 1), (97, some (.aload_n 3), 1), (98, some (.invokevirtual 192), 3), (101, some (.ireturn), 1)] = true := by decide +kernel
theorem dX5_viewTold_0 : decode cX5_viewTold 0 = .ok (.aload_n 0, 1) := fd_get adX5_viewTold_0 (k := 0) rfl
theorem dX5_viewTold_1 : decode cX5_viewTold 1 = .ok (.getfield 22, 3) := fd_get adX5_viewTold_0 (k := 1) rfl
theorem dX5_viewTold_4 : decode cX5_viewTold 4 = .ok (.iload_n 1, 1) := fd_get adX5_viewTold_0 (k := 2) rfl
theorem dX5_viewTold_5 : decode cX5_viewTold 5 = .ok (.aaload, 1) := fd_get adX5_viewTold_0 (k := 3) rfl
theorem dX5_viewTold_6 : decode cX5_viewTold 6 = .ok (.astore_n 3, 1) := fd_get adX5_viewTold_0 (k := 4) rfl
theorem dX5_viewTold_7 : decode cX5_viewTold 7 = .ok (.iload_n 2, 1) := fd_get adX5_viewTold_0 (k := 5) rfl
theorem dX5_viewTold_8 : decode cX5_viewTold 8 = .ok (.tableswitch 88 0 7 #[48, 54, 58, 62, 66, 70, 74, 81], 48) := by decide +kernel
theorem dX5_viewTold_56 : decode cX5_viewTold 56 = .ok (.aload_n 0, 1) := fd_get adX5_viewTold_0 (k := 7) rfl
theorem dX5_viewTold_57 : decode cX5_viewTold 57 = .ok (.aload_n 3, 1) := fd_get adX5_viewTold_0 (k := 8) rfl
theorem dX5_viewTold_58 : decode cX5_viewTold 58 = .ok (.invokevirtual 163, 3) := fd_get adX5_viewTold_0 (k := 9) rfl
theorem dX5_viewTold_61 : decode cX5_viewTold 61 = .ok (.ireturn, 1) := fd_get adX5_viewTold_0 (k := 10) rfl
theorem dX5_viewTold_62 : decode cX5_viewTold 62 = .ok (.aload_n 3, 1) := fd_get adX5_viewTold_0 (k := 11) rfl
theorem dX5_viewTold_63 : decode cX5_viewTold 63 = .ok (.iconst 0, 1) := fd_get adX5_viewTold_0 (k := 12) rfl
theorem dX5_viewTold_64 : decode cX5_viewTold 64 = .ok (.iaload, 1) := fd_get adX5_viewTold_0 (k := 13) rfl
theorem dX5_viewTold_65 : decode cX5_viewTold 65 = .ok (.ireturn, 1) := fd_get adX5_viewTold_0 (k := 14) rfl
theorem dX5_viewTold_66 : decode cX5_viewTold 66 = .ok (.aload_n 3, 1) := fd_get adX5_viewTold_0 (k := 15) rfl
theorem dX5_viewTold_67 : decode cX5_viewTold 67 = .ok (.iconst 1, 1) := fd_get adX5_viewTold_1 (k := 0) rfl
theorem dX5_viewTold_68 : decode cX5_viewTold 68 = .ok (.iaload, 1) := fd_get adX5_viewTold_1 (k := 1) rfl
theorem dX5_viewTold_69 : decode cX5_viewTold 69 = .ok (.ireturn, 1) := fd_get adX5_viewTold_1 (k := 2) rfl
theorem dX5_viewTold_70 : decode cX5_viewTold 70 = .ok (.aload_n 3, 1) := fd_get adX5_viewTold_1 (k := 3) rfl
theorem dX5_viewTold_71 : decode cX5_viewTold 71 = .ok (.iconst 3, 1) := fd_get adX5_viewTold_1 (k := 4) rfl
theorem dX5_viewTold_72 : decode cX5_viewTold 72 = .ok (.iaload, 1) := fd_get adX5_viewTold_1 (k := 5) rfl
theorem dX5_viewTold_73 : decode cX5_viewTold 73 = .ok (.ireturn, 1) := fd_get adX5_viewTold_1 (k := 6) rfl
theorem dX5_viewTold_74 : decode cX5_viewTold 74 = .ok (.aload_n 3, 1) := fd_get adX5_viewTold_1 (k := 7) rfl
theorem dX5_viewTold_75 : decode cX5_viewTold 75 = .ok (.iconst 2, 1) := fd_get adX5_viewTold_1 (k := 8) rfl
theorem dX5_viewTold_76 : decode cX5_viewTold 76 = .ok (.iaload, 1) := fd_get adX5_viewTold_1 (k := 9) rfl
theorem dX5_viewTold_77 : decode cX5_viewTold 77 = .ok (.ireturn, 1) := fd_get adX5_viewTold_1 (k := 10) rfl
theorem dX5_viewTold_78 : decode cX5_viewTold 78 = .ok (.aload_n 3, 1) := fd_get adX5_viewTold_1 (k := 11) rfl
theorem dX5_viewTold_79 : decode cX5_viewTold 79 = .ok (.iconst 4, 1) := fd_get adX5_viewTold_1 (k := 12) rfl
theorem dX5_viewTold_80 : decode cX5_viewTold 80 = .ok (.iaload, 1) := fd_get adX5_viewTold_1 (k := 13) rfl
theorem dX5_viewTold_81 : decode cX5_viewTold 81 = .ok (.ireturn, 1) := fd_get adX5_viewTold_1 (k := 14) rfl
theorem dX5_viewTold_82 : decode cX5_viewTold 82 = .ok (.aload_n 0, 1) := fd_get adX5_viewTold_1 (k := 15) rfl
theorem dX5_viewTold_83 : decode cX5_viewTold 83 = .ok (.aload_n 3, 1) := fd_get adX5_viewTold_2 (k := 0) rfl
theorem dX5_viewTold_84 : decode cX5_viewTold 84 = .ok (.iconst 0, 1) := fd_get adX5_viewTold_2 (k := 1) rfl
theorem dX5_viewTold_85 : decode cX5_viewTold 85 = .ok (.invokevirtual 96, 3) := fd_get adX5_viewTold_2 (k := 2) rfl
theorem dX5_viewTold_88 : decode cX5_viewTold 88 = .ok (.ireturn, 1) := fd_get adX5_viewTold_2 (k := 3) rfl
theorem dX5_viewTold_89 : decode cX5_viewTold 89 = .ok (.aload_n 0, 1) := fd_get adX5_viewTold_2 (k := 4) rfl
theorem dX5_viewTold_90 : decode cX5_viewTold 90 = .ok (.aload_n 3, 1) := fd_get adX5_viewTold_2 (k := 5) rfl
theorem dX5_viewTold_91 : decode cX5_viewTold 91 = .ok (.iconst 1, 1) := fd_get adX5_viewTold_2 (k := 6) rfl
theorem dX5_viewTold_92 : decode cX5_viewTold 92 = .ok (.invokevirtual 96, 3) := fd_get adX5_viewTold_2 (k := 7) rfl
theorem dX5_viewTold_95 : decode cX5_viewTold 95 = .ok (.ireturn, 1) := fd_get adX5_viewTold_2 (k := 8) rfl
theorem dX5_viewTold_96 : decode cX5_viewTold 96 = .ok (.aload_n 0, 1) := fd_get adX5_viewTold_2 (k := 9) rfl
theorem dX5_viewTold_97 : decode cX5_viewTold 97 = .ok (.aload_n 3, 1) := fd_get adX5_viewTold_2 (k := 10) rfl
theorem dX5_viewTold_98 : decode cX5_viewTold 98 = .ok (.invokevirtual 192, 3) := fd_get adX5_viewTold_2 (k := 11) rfl
theorem dX5_viewTold_101 : decode cX5_viewTold 101 = .ok (.ireturn, 1) := fd_get adX5_viewTold_2 (k := 12) rfl
theorem mwsX5_ofView_0 : ∀ w ∈ wsX5_ofView_r1, w ∈ wsX5_ofView := fun w h => (List.mem_cons_of_mem _ (List.mem_append_left _ (List.mem_append_left _ h)))
theorem mwsX5_ofView_1 : ∀ w ∈ wsX5_ofView_r2, w ∈ wsX5_ofView := fun w h => (List.mem_cons_of_mem _ (List.mem_append_left _ (List.mem_append_right _ (List.mem_append_left _ h))))
theorem mwsX5_ofView_2 : ∀ w ∈ wsX5_ofView_r3, w ∈ wsX5_ofView := fun w h => (List.mem_cons_of_mem _ (List.mem_append_left _ (List.mem_append_right _ (List.mem_append_right _ h))))
theorem mwsX5_ofView_3 : ∀ w ∈ wsX50, w ∈ wsX5_ofView := fun w h => (List.mem_cons_of_mem _ (List.mem_append_right _ h))
set_option maxRecDepth 20000 in
theorem ggX5_ofView_X5_isNoView : GoodIn wsX5_ofView wsX5_isNoView := goodIn_sub (tk_mem 4 _ (fun w h => (mwsX5_ofView_0 _ (tkB_mem 4 4 h))) (List.forall_mem_cons.mpr ⟨(mwsX5_ofView_0 _ (List.mem_of_getElem? (i := 3) rfl)), (List.forall_mem_cons.mpr ⟨(mwsX5_ofView_0 _ (List.mem_of_getElem? (i := 8) rfl)), (tk_mem 13 _ (fun w h => (mwsX5_ofView_3 _ (tkB_mem 0 13 h))) (fun _ h => absurd h List.not_mem_nil))⟩)⟩)) (by decide +kernel)
set_option maxRecDepth 20000 in
theorem gX5_ofView_X5_isNoView : GoodIn wsX5_ofView (wsV RX5 176 RX5 yX5_isNoView wsX5_isNoView) := goodIn_app (goodIn_sub (tk_mem 4 _ (fun w h => (mwsX5_ofView_0 _ (tkB_mem 0 4 h))) (fun _ h => absurd h List.not_mem_nil)) (by decide +kernel)) ggX5_ofView_X5_isNoView
set_option maxRecDepth 20000 in
theorem ggX5_ofView_X5_start : GoodIn wsX5_ofView wsX5_start := goodIn_sub (tk_mem 5 _ (fun w h => (mwsX5_ofView_0 _ (tkB_mem 12 5 h))) (List.forall_mem_cons.mpr ⟨(mwsX5_ofView_0 _ (List.mem_of_getElem? (i := 3) rfl)), (List.forall_mem_cons.mpr ⟨(mwsX5_ofView_0 _ (List.mem_of_getElem? (i := 17) rfl)), (tk_mem 13 _ (fun w h => (mwsX5_ofView_3 _ (tkB_mem 0 13 h))) (fun _ h => absurd h List.not_mem_nil))⟩)⟩)) (by decide +kernel)
set_option maxRecDepth 20000 in
theorem gX5_ofView_X5_start : GoodIn wsX5_ofView (wsV RX5 57 RX5 yX5_start wsX5_start) := goodIn_app (goodIn_sub (List.forall_mem_cons.mpr ⟨(mwsX5_ofView_0 _ (List.mem_of_getElem? (i := 9) rfl)), (List.forall_mem_cons.mpr ⟨(mwsX5_ofView_0 _ (List.mem_of_getElem? (i := 10) rfl)), (List.forall_mem_cons.mpr ⟨(mwsX5_ofView_0 _ (List.mem_of_getElem? (i := 11) rfl)), (List.forall_mem_cons.mpr ⟨(mwsX5_ofView_0 _ (List.mem_of_getElem? (i := 3) rfl)), (fun _ h => absurd h List.not_mem_nil)⟩)⟩)⟩)⟩) (by decide +kernel)) ggX5_ofView_X5_start
set_option maxRecDepth 20000 in
theorem ggX5_ofView_X5_isIn : GoodIn wsX5_ofView wsX5_isIn := goodIn_sub (List.forall_mem_cons.mpr ⟨(mwsX5_ofView_0 _ (List.mem_of_getElem? (i := 8) rfl)), (fun _ h => absurd h List.not_mem_nil)⟩) (by decide +kernel)
set_option maxRecDepth 20000 in
theorem gX5_ofView_X5_isIn : GoodIn wsX5_ofView (va_wsS RX5 49 yX5_isIn wsX5_isIn) := goodIn_app (goodIn_sub (List.forall_mem_cons.mpr ⟨(mwsX5_ofView_0 _ (List.mem_of_getElem? (i := 6) rfl)), (List.forall_mem_cons.mpr ⟨(mwsX5_ofView_0 _ (List.mem_of_getElem? (i := 7) rfl)), (List.forall_mem_cons.mpr ⟨(mwsX5_ofView_0 _ (List.mem_of_getElem? (i := 3) rfl)), (fun _ h => absurd h List.not_mem_nil)⟩)⟩)⟩) (by decide +kernel)) ggX5_ofView_X5_isIn
set_option maxRecDepth 20000 in
theorem ggX5_ofView_X5_refuse : GoodIn wsX5_ofView wsX5_refuse := goodIn_sub (List.forall_mem_cons.mpr ⟨(mwsX5_ofView_0 _ (List.mem_of_getElem? (i := 17) rfl)), (List.forall_mem_cons.mpr ⟨(mwsX5_ofView_0 _ (List.mem_of_getElem? (i := 13) rfl)), (tk_mem 13 _ (fun w h => (mwsX5_ofView_3 _ (tkB_mem 0 13 h))) (fun _ h => absurd h List.not_mem_nil))⟩)⟩) (by decide +kernel)
set_option maxRecDepth 20000 in
theorem gX5_ofView_X5_refuse : GoodIn wsX5_ofView (wsV RX5 45 RX5 yX5_refuse wsX5_refuse) := goodIn_app (goodIn_sub (List.forall_mem_cons.mpr ⟨(mwsX5_ofView_0 _ (List.mem_of_getElem? (i := 14) rfl)), (List.forall_mem_cons.mpr ⟨(mwsX5_ofView_0 _ (List.mem_of_getElem? (i := 15) rfl)), (List.forall_mem_cons.mpr ⟨(mwsX5_ofView_0 _ (List.mem_of_getElem? (i := 16) rfl)), (List.forall_mem_cons.mpr ⟨(mwsX5_ofView_0 _ (List.mem_of_getElem? (i := 3) rfl)), (fun _ h => absurd h List.not_mem_nil)⟩)⟩)⟩)⟩) (by decide +kernel)) ggX5_ofView_X5_refuse
set_option maxRecDepth 20000 in
theorem ggX5_ofView_X5_viewTold : GoodIn wsX5_ofView wsX5_viewTold := goodIn_sub (List.forall_mem_cons.mpr ⟨(mwsX5_ofView_0 _ (List.mem_of_getElem? (i := 21) rfl)), (List.forall_mem_cons.mpr ⟨(mwsX5_ofView_0 _ (List.mem_of_getElem? (i := 5) rfl)), (List.forall_mem_cons.mpr ⟨(mwsX5_ofView_0 _ (List.mem_of_getElem? (i := 22) rfl)), (List.forall_mem_cons.mpr ⟨(mwsX5_ofView_0 _ (List.mem_of_getElem? (i := 23) rfl)), (List.forall_mem_cons.mpr ⟨(mwsX5_ofView_1 _ (List.mem_of_getElem? (i := 0) rfl)), (List.forall_mem_cons.mpr ⟨(mwsX5_ofView_0 _ (List.mem_of_getElem? (i := 3) rfl)), (tk_mem 23 _ (fun w h => (mwsX5_ofView_1 _ (tkB_mem 1 23 h))) (tk_mem 8 _ (fun w h => (mwsX5_ofView_2 _ (tkB_mem 0 8 h))) (tk_mem 13 _ (fun w h => (mwsX5_ofView_3 _ (tkB_mem 0 13 h))) (fun _ h => absurd h List.not_mem_nil))))⟩)⟩)⟩)⟩)⟩)⟩) (by decide +kernel)
set_option maxRecDepth 20000 in
theorem gX5_ofView_X5_viewTold : GoodIn wsX5_ofView (wsV RX5 219 RX5 yX5_viewTold wsX5_viewTold) := goodIn_app (goodIn_sub (List.forall_mem_cons.mpr ⟨(mwsX5_ofView_0 _ (List.mem_of_getElem? (i := 18) rfl)), (List.forall_mem_cons.mpr ⟨(mwsX5_ofView_0 _ (List.mem_of_getElem? (i := 19) rfl)), (List.forall_mem_cons.mpr ⟨(mwsX5_ofView_0 _ (List.mem_of_getElem? (i := 20) rfl)), (List.forall_mem_cons.mpr ⟨(mwsX5_ofView_0 _ (List.mem_of_getElem? (i := 3) rfl)), (fun _ h => absurd h List.not_mem_nil)⟩)⟩)⟩)⟩) (by decide +kernel)) ggX5_ofView_X5_viewTold
theorem adX5_ofView_0 : fd_rows (cX5_ofView.data.toList.drop 0) 0 [(0, some (.aload_n 0), 1), (1, some (.aload_n 0), 1), (2, some (.iload_n 1), 1), (3, some (.invokevirtual 176), 3), (6, some (.iconst 1), 1), (7, some (.invokevirtual 57), 3), (10, some (.ifCond .ne 26), 3), (13, some (.aload_n 0), 1), (14, some (.iload_n 2), 1), (15, some (.iconst 0), 1), (16, some (.bipush 8), 2), (18, some (.invokestatic 49), 3), (21, some (.ifCond .ne 7), 3), (24, some (.iconst 1), 1), (25, some (.goto 4), 3), (28, some (.iconst 0), 1)] = true := by decide +kernel
theorem adX5_ofView_1 : fd_rows (cX5_ofView.data.toList.drop 29) 29 [(29, some (.iconst 2), 1), (30, some (.invokevirtual 45), 3), (33, some (.ifCond .eq 7), 3), (36, some (.iconst 0), 1), (37, some (.goto 9), 3), (40, some (.aload_n 0), 1), (41, some (.iload_n 1), 1), (42, some (.iload_n 2), 1), (43, some (.invokevirtual 219), 3), (46, some (.ireturn), 1)] = true := by decide +kernel
theorem dX5_ofView_0 : decode cX5_ofView 0 = .ok (.aload_n 0, 1) := fd_get adX5_ofView_0 (k := 0) rfl
theorem dX5_ofView_1 : decode cX5_ofView 1 = .ok (.aload_n 0, 1) := fd_get adX5_ofView_0 (k := 1) rfl
theorem dX5_ofView_2 : decode cX5_ofView 2 = .ok (.iload_n 1, 1) := fd_get adX5_ofView_0 (k := 2) rfl
theorem dX5_ofView_3 : decode cX5_ofView 3 = .ok (.invokevirtual 176, 3) := fd_get adX5_ofView_0 (k := 3) rfl
theorem dX5_ofView_6 : decode cX5_ofView 6 = .ok (.iconst 1, 1) := fd_get adX5_ofView_0 (k := 4) rfl
theorem dX5_ofView_7 : decode cX5_ofView 7 = .ok (.invokevirtual 57, 3) := fd_get adX5_ofView_0 (k := 5) rfl
theorem dX5_ofView_10 : decode cX5_ofView 10 = .ok (.ifCond .ne 26, 3) := fd_get adX5_ofView_0 (k := 6) rfl
theorem dX5_ofView_13 : decode cX5_ofView 13 = .ok (.aload_n 0, 1) := fd_get adX5_ofView_0 (k := 7) rfl
theorem dX5_ofView_14 : decode cX5_ofView 14 = .ok (.iload_n 2, 1) := fd_get adX5_ofView_0 (k := 8) rfl
theorem dX5_ofView_15 : decode cX5_ofView 15 = .ok (.iconst 0, 1) := fd_get adX5_ofView_0 (k := 9) rfl
theorem dX5_ofView_16 : decode cX5_ofView 16 = .ok (.bipush 8, 2) := fd_get adX5_ofView_0 (k := 10) rfl
theorem dX5_ofView_18 : decode cX5_ofView 18 = .ok (.invokestatic 49, 3) := fd_get adX5_ofView_0 (k := 11) rfl
theorem dX5_ofView_21 : decode cX5_ofView 21 = .ok (.ifCond .ne 7, 3) := fd_get adX5_ofView_0 (k := 12) rfl
theorem dX5_ofView_24 : decode cX5_ofView 24 = .ok (.iconst 1, 1) := fd_get adX5_ofView_0 (k := 13) rfl
theorem dX5_ofView_25 : decode cX5_ofView 25 = .ok (.goto 4, 3) := fd_get adX5_ofView_0 (k := 14) rfl
theorem dX5_ofView_28 : decode cX5_ofView 28 = .ok (.iconst 0, 1) := fd_get adX5_ofView_0 (k := 15) rfl
theorem dX5_ofView_29 : decode cX5_ofView 29 = .ok (.iconst 2, 1) := fd_get adX5_ofView_1 (k := 0) rfl
theorem dX5_ofView_30 : decode cX5_ofView 30 = .ok (.invokevirtual 45, 3) := fd_get adX5_ofView_1 (k := 1) rfl
theorem dX5_ofView_33 : decode cX5_ofView 33 = .ok (.ifCond .eq 7, 3) := fd_get adX5_ofView_1 (k := 2) rfl
theorem dX5_ofView_36 : decode cX5_ofView 36 = .ok (.iconst 0, 1) := fd_get adX5_ofView_1 (k := 3) rfl
theorem dX5_ofView_37 : decode cX5_ofView 37 = .ok (.goto 9, 3) := fd_get adX5_ofView_1 (k := 4) rfl
theorem dX5_ofView_40 : decode cX5_ofView 40 = .ok (.aload_n 0, 1) := fd_get adX5_ofView_1 (k := 5) rfl
theorem dX5_ofView_41 : decode cX5_ofView 41 = .ok (.iload_n 1, 1) := fd_get adX5_ofView_1 (k := 6) rfl
theorem dX5_ofView_42 : decode cX5_ofView 42 = .ok (.iload_n 2, 1) := fd_get adX5_ofView_1 (k := 7) rfl
theorem dX5_ofView_43 : decode cX5_ofView 43 = .ok (.invokevirtual 219, 3) := fd_get adX5_ofView_1 (k := 8) rfl
theorem dX5_ofView_46 : decode cX5_ofView 46 = .ok (.ireturn, 1) := fd_get adX5_ofView_1 (k := 9) rfl
theorem mwsX5_viewNear_0 : ∀ w ∈ wsX5_viewNear_r1, w ∈ wsX5_viewNear := fun w h => (List.mem_cons_of_mem _ (List.mem_append_left _ (List.mem_append_left _ h)))
theorem mwsX5_viewNear_1 : ∀ w ∈ wsX5_viewNear_r2, w ∈ wsX5_viewNear := fun w h => (List.mem_cons_of_mem _ (List.mem_append_left _ (List.mem_append_right _ h)))
theorem mwsX5_viewNear_2 : ∀ w ∈ wsX50, w ∈ wsX5_viewNear := fun w h => (List.mem_cons_of_mem _ (List.mem_append_right _ h))
set_option maxRecDepth 20000 in
theorem ggX5_viewNear_X5_isNoView : GoodIn wsX5_viewNear wsX5_isNoView := goodIn_sub (List.forall_mem_cons.mpr ⟨(mwsX5_viewNear_0 _ (List.mem_of_getElem? (i := 5) rfl)), (List.forall_mem_cons.mpr ⟨(mwsX5_viewNear_0 _ (List.mem_of_getElem? (i := 0) rfl)), (List.forall_mem_cons.mpr ⟨(mwsX5_viewNear_0 _ (List.mem_of_getElem? (i := 6) rfl)), (List.forall_mem_cons.mpr ⟨(mwsX5_viewNear_0 _ (List.mem_of_getElem? (i := 7) rfl)), (List.forall_mem_cons.mpr ⟨(mwsX5_viewNear_0 _ (List.mem_of_getElem? (i := 4) rfl)), (List.forall_mem_cons.mpr ⟨(mwsX5_viewNear_0 _ (List.mem_of_getElem? (i := 8) rfl)), (tk_mem 13 _ (fun w h => (mwsX5_viewNear_2 _ (tkB_mem 0 13 h))) (fun _ h => absurd h List.not_mem_nil))⟩)⟩)⟩)⟩)⟩)⟩) (by decide +kernel)
set_option maxRecDepth 20000 in
theorem gX5_viewNear_X5_isNoView : GoodIn wsX5_viewNear (wsV RX5 176 RX5 yX5_isNoView wsX5_isNoView) := goodIn_app (goodIn_sub (tk_mem 4 _ (fun w h => (mwsX5_viewNear_0 _ (tkB_mem 1 4 h))) (fun _ h => absurd h List.not_mem_nil)) (by decide +kernel)) ggX5_viewNear_X5_isNoView
set_option maxRecDepth 20000 in
theorem ggX5_viewNear_X5_start : GoodIn wsX5_viewNear wsX5_start := goodIn_sub (tk_mem 5 _ (fun w h => (mwsX5_viewNear_0 _ (tkB_mem 12 5 h))) (List.forall_mem_cons.mpr ⟨(mwsX5_viewNear_0 _ (List.mem_of_getElem? (i := 4) rfl)), (List.forall_mem_cons.mpr ⟨(mwsX5_viewNear_0 _ (List.mem_of_getElem? (i := 17) rfl)), (tk_mem 13 _ (fun w h => (mwsX5_viewNear_2 _ (tkB_mem 0 13 h))) (fun _ h => absurd h List.not_mem_nil))⟩)⟩)) (by decide +kernel)
set_option maxRecDepth 20000 in
theorem gX5_viewNear_X5_start : GoodIn wsX5_viewNear (wsV RX5 57 RX5 yX5_start wsX5_start) := goodIn_app (goodIn_sub (List.forall_mem_cons.mpr ⟨(mwsX5_viewNear_0 _ (List.mem_of_getElem? (i := 9) rfl)), (List.forall_mem_cons.mpr ⟨(mwsX5_viewNear_0 _ (List.mem_of_getElem? (i := 10) rfl)), (List.forall_mem_cons.mpr ⟨(mwsX5_viewNear_0 _ (List.mem_of_getElem? (i := 11) rfl)), (List.forall_mem_cons.mpr ⟨(mwsX5_viewNear_0 _ (List.mem_of_getElem? (i := 4) rfl)), (fun _ h => absurd h List.not_mem_nil)⟩)⟩)⟩)⟩) (by decide +kernel)) ggX5_viewNear_X5_start
set_option maxRecDepth 20000 in
theorem ggX5_viewNear_X5_isNoKey : GoodIn wsX5_viewNear wsX5_isNoKey := goodIn_sub (List.forall_mem_cons.mpr ⟨(mwsX5_viewNear_0 _ (List.mem_of_getElem? (i := 20) rfl)), (List.forall_mem_cons.mpr ⟨(mwsX5_viewNear_0 _ (List.mem_of_getElem? (i := 6) rfl)), (List.forall_mem_cons.mpr ⟨(mwsX5_viewNear_0 _ (List.mem_of_getElem? (i := 7) rfl)), (List.forall_mem_cons.mpr ⟨(mwsX5_viewNear_0 _ (List.mem_of_getElem? (i := 4) rfl)), (List.forall_mem_cons.mpr ⟨(mwsX5_viewNear_0 _ (List.mem_of_getElem? (i := 8) rfl)), (fun _ h => absurd h List.not_mem_nil)⟩)⟩)⟩)⟩)⟩) (by decide +kernel)
set_option maxRecDepth 20000 in
theorem gX5_viewNear_X5_isNoKey : GoodIn wsX5_viewNear (va_wsS RX5 60 yX5_isNoKey wsX5_isNoKey) := goodIn_app (goodIn_sub (List.forall_mem_cons.mpr ⟨(mwsX5_viewNear_0 _ (List.mem_of_getElem? (i := 18) rfl)), (List.forall_mem_cons.mpr ⟨(mwsX5_viewNear_0 _ (List.mem_of_getElem? (i := 19) rfl)), (List.forall_mem_cons.mpr ⟨(mwsX5_viewNear_0 _ (List.mem_of_getElem? (i := 4) rfl)), (fun _ h => absurd h List.not_mem_nil)⟩)⟩)⟩) (by decide +kernel)) ggX5_viewNear_X5_isNoKey
set_option maxRecDepth 20000 in
theorem ggX5_viewNear_X5_isIn : GoodIn wsX5_viewNear wsX5_isIn := goodIn_sub (List.forall_mem_cons.mpr ⟨(mwsX5_viewNear_0 _ (List.mem_of_getElem? (i := 8) rfl)), (fun _ h => absurd h List.not_mem_nil)⟩) (by decide +kernel)
set_option maxRecDepth 20000 in
theorem gX5_viewNear_X5_isIn : GoodIn wsX5_viewNear (va_wsS RX5 49 yX5_isIn wsX5_isIn) := goodIn_app (goodIn_sub (List.forall_mem_cons.mpr ⟨(mwsX5_viewNear_0 _ (List.mem_of_getElem? (i := 6) rfl)), (List.forall_mem_cons.mpr ⟨(mwsX5_viewNear_0 _ (List.mem_of_getElem? (i := 7) rfl)), (List.forall_mem_cons.mpr ⟨(mwsX5_viewNear_0 _ (List.mem_of_getElem? (i := 4) rfl)), (fun _ h => absurd h List.not_mem_nil)⟩)⟩)⟩) (by decide +kernel)) ggX5_viewNear_X5_isIn
set_option maxRecDepth 20000 in
theorem ggX5_viewNear_X5_refuse : GoodIn wsX5_viewNear wsX5_refuse := goodIn_sub (List.forall_mem_cons.mpr ⟨(mwsX5_viewNear_0 _ (List.mem_of_getElem? (i := 17) rfl)), (List.forall_mem_cons.mpr ⟨(mwsX5_viewNear_0 _ (List.mem_of_getElem? (i := 13) rfl)), (tk_mem 13 _ (fun w h => (mwsX5_viewNear_2 _ (tkB_mem 0 13 h))) (fun _ h => absurd h List.not_mem_nil))⟩)⟩) (by decide +kernel)
set_option maxRecDepth 20000 in
theorem gX5_viewNear_X5_refuse : GoodIn wsX5_viewNear (wsV RX5 45 RX5 yX5_refuse wsX5_refuse) := goodIn_app (goodIn_sub (List.forall_mem_cons.mpr ⟨(mwsX5_viewNear_0 _ (List.mem_of_getElem? (i := 14) rfl)), (List.forall_mem_cons.mpr ⟨(mwsX5_viewNear_0 _ (List.mem_of_getElem? (i := 15) rfl)), (List.forall_mem_cons.mpr ⟨(mwsX5_viewNear_0 _ (List.mem_of_getElem? (i := 16) rfl)), (List.forall_mem_cons.mpr ⟨(mwsX5_viewNear_0 _ (List.mem_of_getElem? (i := 4) rfl)), (fun _ h => absurd h List.not_mem_nil)⟩)⟩)⟩)⟩) (by decide +kernel)) ggX5_viewNear_X5_refuse
set_option maxRecDepth 20000 in
theorem ggX5_viewNear_X5_nearOf : GoodIn wsX5_viewNear wsX5_nearOf := goodIn_sub (tk_mem 4 _ (fun w h => (mwsX5_viewNear_1 _ (tkB_mem 0 4 h))) (List.forall_mem_cons.mpr ⟨(mwsX5_viewNear_0 _ (List.mem_of_getElem? (i := 4) rfl)), (tk_mem 16 _ (fun w h => (mwsX5_viewNear_1 _ (tkB_mem 4 16 h))) (tk_mem 13 _ (fun w h => (mwsX5_viewNear_2 _ (tkB_mem 0 13 h))) (fun _ h => absurd h List.not_mem_nil)))⟩)) (by decide +kernel)
set_option maxRecDepth 20000 in
theorem gX5_viewNear_X5_nearOf : GoodIn wsX5_viewNear (wsV RX5 115 RX5 yX5_nearOf wsX5_nearOf) := goodIn_app (goodIn_sub (List.forall_mem_cons.mpr ⟨(mwsX5_viewNear_0 _ (List.mem_of_getElem? (i := 21) rfl)), (List.forall_mem_cons.mpr ⟨(mwsX5_viewNear_0 _ (List.mem_of_getElem? (i := 22) rfl)), (List.forall_mem_cons.mpr ⟨(mwsX5_viewNear_0 _ (List.mem_of_getElem? (i := 23) rfl)), (List.forall_mem_cons.mpr ⟨(mwsX5_viewNear_0 _ (List.mem_of_getElem? (i := 4) rfl)), (fun _ h => absurd h List.not_mem_nil)⟩)⟩)⟩)⟩) (by decide +kernel)) ggX5_viewNear_X5_nearOf
theorem adX5_viewNear_0 : fd_rows (cX5_viewNear.data.toList.drop 0) 0 [(0, some (.aload_n 0), 1), (1, some (.aload_n 0), 1), (2, some (.iload_n 1), 1), (3, some (.invokevirtual 176), 3), (6, some (.iconst 1), 1), (7, some (.invokevirtual 57), 3), (10, some (.ifCond .ne 32), 3), (13, some (.aload_n 0), 1), (14, some (.iload_n 2), 1), (15, some (.invokestatic 60), 3), (18, some (.ifCond .ne 12), 3), (21, some (.iload_n 3), 1), (22, some (.iconst 0), 1), (23, some (.iconst 3), 1), (24, some (.invokestatic 49), 3), (27, some (.ifCond .ne 7), 3)] = true := by decide +kernel
theorem adX5_viewNear_1 : fd_rows (cX5_viewNear.data.toList.drop 30) 30 [(30, some (.iconst 1), 1), (31, some (.goto 4), 3), (34, some (.iconst 0), 1), (35, some (.iconst 2), 1), (36, some (.invokevirtual 45), 3), (39, some (.ifCond .eq 7), 3), (42, some (.iconst 0), 1), (43, some (.goto 15), 3), (46, some (.aload_n 0), 1), (47, some (.aload_n 0), 1), (48, some (.getfield 22), 3), (51, some (.iload_n 1), 1), (52, some (.aaload), 1), (53, some (.iload_n 2), 1), (54, some (.iload_n 3), 1), (55, some (.invokevirtual 115), 3)] = true := by decide +kernel
theorem adX5_viewNear_2 : fd_rows (cX5_viewNear.data.toList.drop 58) 58 [(58, some (.ireturn), 1)] = true := by decide +kernel
theorem dX5_viewNear_0 : decode cX5_viewNear 0 = .ok (.aload_n 0, 1) := fd_get adX5_viewNear_0 (k := 0) rfl
theorem dX5_viewNear_1 : decode cX5_viewNear 1 = .ok (.aload_n 0, 1) := fd_get adX5_viewNear_0 (k := 1) rfl
theorem dX5_viewNear_2 : decode cX5_viewNear 2 = .ok (.iload_n 1, 1) := fd_get adX5_viewNear_0 (k := 2) rfl
theorem dX5_viewNear_3 : decode cX5_viewNear 3 = .ok (.invokevirtual 176, 3) := fd_get adX5_viewNear_0 (k := 3) rfl
theorem dX5_viewNear_6 : decode cX5_viewNear 6 = .ok (.iconst 1, 1) := fd_get adX5_viewNear_0 (k := 4) rfl
theorem dX5_viewNear_7 : decode cX5_viewNear 7 = .ok (.invokevirtual 57, 3) := fd_get adX5_viewNear_0 (k := 5) rfl
theorem dX5_viewNear_10 : decode cX5_viewNear 10 = .ok (.ifCond .ne 32, 3) := fd_get adX5_viewNear_0 (k := 6) rfl
theorem dX5_viewNear_13 : decode cX5_viewNear 13 = .ok (.aload_n 0, 1) := fd_get adX5_viewNear_0 (k := 7) rfl
theorem dX5_viewNear_14 : decode cX5_viewNear 14 = .ok (.iload_n 2, 1) := fd_get adX5_viewNear_0 (k := 8) rfl
theorem dX5_viewNear_15 : decode cX5_viewNear 15 = .ok (.invokestatic 60, 3) := fd_get adX5_viewNear_0 (k := 9) rfl
theorem dX5_viewNear_18 : decode cX5_viewNear 18 = .ok (.ifCond .ne 12, 3) := fd_get adX5_viewNear_0 (k := 10) rfl
theorem dX5_viewNear_21 : decode cX5_viewNear 21 = .ok (.iload_n 3, 1) := fd_get adX5_viewNear_0 (k := 11) rfl
theorem dX5_viewNear_22 : decode cX5_viewNear 22 = .ok (.iconst 0, 1) := fd_get adX5_viewNear_0 (k := 12) rfl
theorem dX5_viewNear_23 : decode cX5_viewNear 23 = .ok (.iconst 3, 1) := fd_get adX5_viewNear_0 (k := 13) rfl
theorem dX5_viewNear_24 : decode cX5_viewNear 24 = .ok (.invokestatic 49, 3) := fd_get adX5_viewNear_0 (k := 14) rfl
theorem dX5_viewNear_27 : decode cX5_viewNear 27 = .ok (.ifCond .ne 7, 3) := fd_get adX5_viewNear_0 (k := 15) rfl
theorem dX5_viewNear_30 : decode cX5_viewNear 30 = .ok (.iconst 1, 1) := fd_get adX5_viewNear_1 (k := 0) rfl
theorem dX5_viewNear_31 : decode cX5_viewNear 31 = .ok (.goto 4, 3) := fd_get adX5_viewNear_1 (k := 1) rfl
theorem dX5_viewNear_34 : decode cX5_viewNear 34 = .ok (.iconst 0, 1) := fd_get adX5_viewNear_1 (k := 2) rfl
theorem dX5_viewNear_35 : decode cX5_viewNear 35 = .ok (.iconst 2, 1) := fd_get adX5_viewNear_1 (k := 3) rfl
theorem dX5_viewNear_36 : decode cX5_viewNear 36 = .ok (.invokevirtual 45, 3) := fd_get adX5_viewNear_1 (k := 4) rfl
theorem dX5_viewNear_39 : decode cX5_viewNear 39 = .ok (.ifCond .eq 7, 3) := fd_get adX5_viewNear_1 (k := 5) rfl
theorem dX5_viewNear_42 : decode cX5_viewNear 42 = .ok (.iconst 0, 1) := fd_get adX5_viewNear_1 (k := 6) rfl
theorem dX5_viewNear_43 : decode cX5_viewNear 43 = .ok (.goto 15, 3) := fd_get adX5_viewNear_1 (k := 7) rfl
theorem dX5_viewNear_46 : decode cX5_viewNear 46 = .ok (.aload_n 0, 1) := fd_get adX5_viewNear_1 (k := 8) rfl
theorem dX5_viewNear_47 : decode cX5_viewNear 47 = .ok (.aload_n 0, 1) := fd_get adX5_viewNear_1 (k := 9) rfl
theorem dX5_viewNear_48 : decode cX5_viewNear 48 = .ok (.getfield 22, 3) := fd_get adX5_viewNear_1 (k := 10) rfl
theorem dX5_viewNear_51 : decode cX5_viewNear 51 = .ok (.iload_n 1, 1) := fd_get adX5_viewNear_1 (k := 11) rfl
theorem dX5_viewNear_52 : decode cX5_viewNear 52 = .ok (.aaload, 1) := fd_get adX5_viewNear_1 (k := 12) rfl
theorem dX5_viewNear_53 : decode cX5_viewNear 53 = .ok (.iload_n 2, 1) := fd_get adX5_viewNear_1 (k := 13) rfl
theorem dX5_viewNear_54 : decode cX5_viewNear 54 = .ok (.iload_n 3, 1) := fd_get adX5_viewNear_1 (k := 14) rfl
theorem dX5_viewNear_55 : decode cX5_viewNear 55 = .ok (.invokevirtual 115, 3) := fd_get adX5_viewNear_1 (k := 15) rfl
theorem dX5_viewNear_58 : decode cX5_viewNear 58 = .ok (.ireturn, 1) := fd_get adX5_viewNear_2 (k := 0) rfl
theorem mwsX5_viewRow_0 : ∀ w ∈ wsX5_viewRow_r1, w ∈ wsX5_viewRow := fun w h => (List.mem_cons_of_mem _ (List.mem_append_left _ (List.mem_append_left _ (List.mem_append_left _ (List.mem_append_left _ h)))))
theorem mwsX5_viewRow_1 : ∀ w ∈ wsX5_viewRow_r2, w ∈ wsX5_viewRow := fun w h => (List.mem_cons_of_mem _ (List.mem_append_left _ (List.mem_append_left _ (List.mem_append_left _ (List.mem_append_right _ (List.mem_append_left _ h))))))
theorem mwsX5_viewRow_2 : ∀ w ∈ wsX5_viewRow_r3, w ∈ wsX5_viewRow := fun w h => (List.mem_cons_of_mem _ (List.mem_append_left _ (List.mem_append_left _ (List.mem_append_left _ (List.mem_append_right _ (List.mem_append_right _ (List.mem_append_left _ h)))))))
theorem mwsX5_viewRow_3 : ∀ w ∈ wsX5_viewRow_r4, w ∈ wsX5_viewRow := fun w h => (List.mem_cons_of_mem _ (List.mem_append_left _ (List.mem_append_left _ (List.mem_append_left _ (List.mem_append_right _ (List.mem_append_right _ (List.mem_append_right _ (List.mem_append_left _ h))))))))
theorem mwsX5_viewRow_4 : ∀ w ∈ wsX5_viewRow_r5, w ∈ wsX5_viewRow := fun w h => (List.mem_cons_of_mem _ (List.mem_append_left _ (List.mem_append_left _ (List.mem_append_left _ (List.mem_append_right _ (List.mem_append_right _ (List.mem_append_right _ (List.mem_append_right _ (List.mem_append_left _ h)))))))))
theorem mwsX5_viewRow_5 : ∀ w ∈ wsX5_viewRow_r6, w ∈ wsX5_viewRow := fun w h => (List.mem_cons_of_mem _ (List.mem_append_left _ (List.mem_append_left _ (List.mem_append_left _ (List.mem_append_right _ (List.mem_append_right _ (List.mem_append_right _ (List.mem_append_right _ (List.mem_append_right _ (List.mem_append_left _ h))))))))))
theorem mwsX5_viewRow_6 : ∀ w ∈ wsX5_viewRow_r7, w ∈ wsX5_viewRow := fun w h => (List.mem_cons_of_mem _ (List.mem_append_left _ (List.mem_append_left _ (List.mem_append_left _ (List.mem_append_right _ (List.mem_append_right _ (List.mem_append_right _ (List.mem_append_right _ (List.mem_append_right _ (List.mem_append_right _ (List.mem_append_left _ h)))))))))))
theorem mwsX5_viewRow_7 : ∀ w ∈ wsX5_viewRow_r8, w ∈ wsX5_viewRow := fun w h => (List.mem_cons_of_mem _ (List.mem_append_left _ (List.mem_append_left _ (List.mem_append_left _ (List.mem_append_right _ (List.mem_append_right _ (List.mem_append_right _ (List.mem_append_right _ (List.mem_append_right _ (List.mem_append_right _ (List.mem_append_right _ (List.mem_append_left _ h))))))))))))
theorem mwsX5_viewRow_8 : ∀ w ∈ wsX5_viewRow_r9, w ∈ wsX5_viewRow := fun w h => (List.mem_cons_of_mem _ (List.mem_append_left _ (List.mem_append_left _ (List.mem_append_left _ (List.mem_append_right _ (List.mem_append_right _ (List.mem_append_right _ (List.mem_append_right _ (List.mem_append_right _ (List.mem_append_right _ (List.mem_append_right _ (List.mem_append_right _ (List.mem_append_left _ h)))))))))))))
theorem mwsX5_viewRow_9 : ∀ w ∈ wsX5_viewRow_r10, w ∈ wsX5_viewRow := fun w h => (List.mem_cons_of_mem _ (List.mem_append_left _ (List.mem_append_left _ (List.mem_append_left _ (List.mem_append_right _ (List.mem_append_right _ (List.mem_append_right _ (List.mem_append_right _ (List.mem_append_right _ (List.mem_append_right _ (List.mem_append_right _ (List.mem_append_right _ (List.mem_append_right _ (List.mem_append_left _ h))))))))))))))
theorem mwsX5_viewRow_10 : ∀ w ∈ wsX5_viewRow_r11, w ∈ wsX5_viewRow := fun w h => (List.mem_cons_of_mem _ (List.mem_append_left _ (List.mem_append_left _ (List.mem_append_left _ (List.mem_append_right _ (List.mem_append_right _ (List.mem_append_right _ (List.mem_append_right _ (List.mem_append_right _ (List.mem_append_right _ (List.mem_append_right _ (List.mem_append_right _ (List.mem_append_right _ (List.mem_append_right _ (List.mem_append_left _ h)))))))))))))))
theorem mwsX5_viewRow_11 : ∀ w ∈ wsX5_viewRow_r12, w ∈ wsX5_viewRow := fun w h => (List.mem_cons_of_mem _ (List.mem_append_left _ (List.mem_append_left _ (List.mem_append_left _ (List.mem_append_right _ (List.mem_append_right _ (List.mem_append_right _ (List.mem_append_right _ (List.mem_append_right _ (List.mem_append_right _ (List.mem_append_right _ (List.mem_append_right _ (List.mem_append_right _ (List.mem_append_right _ (List.mem_append_right _ (List.mem_append_left _ h))))))))))))))))
theorem mwsX5_viewRow_12 : ∀ w ∈ wsX5_viewRow_r13, w ∈ wsX5_viewRow := fun w h => (List.mem_cons_of_mem _ (List.mem_append_left _ (List.mem_append_left _ (List.mem_append_left _ (List.mem_append_right _ (List.mem_append_right _ (List.mem_append_right _ (List.mem_append_right _ (List.mem_append_right _ (List.mem_append_right _ (List.mem_append_right _ (List.mem_append_right _ (List.mem_append_right _ (List.mem_append_right _ (List.mem_append_right _ (List.mem_append_right _ h))))))))))))))))
theorem mwsX5_viewRow_13 : ∀ w ∈ wsX50, w ∈ wsX5_viewRow := fun w h => (List.mem_cons_of_mem _ (List.mem_append_left _ (List.mem_append_left _ (List.mem_append_right _ h))))
theorem mwsX5_viewRow_14 : ∀ w ∈ wsJ40, w ∈ wsX5_viewRow := fun w h => (List.mem_cons_of_mem _ (List.mem_append_left _ (List.mem_append_right _ h)))
theorem mwsX5_viewRow_15 : ∀ w ∈ wsJ00, w ∈ wsX5_viewRow := fun w h => (List.mem_cons_of_mem _ (List.mem_append_right _ h))
set_option maxRecDepth 20000 in
theorem ggX5_viewRow_X5_isNoView : GoodIn wsX5_viewRow wsX5_isNoView := goodIn_sub (List.forall_mem_cons.mpr ⟨(mwsX5_viewRow_0 _ (List.mem_of_getElem? (i := 5) rfl)), (List.forall_mem_cons.mpr ⟨(mwsX5_viewRow_0 _ (List.mem_of_getElem? (i := 0) rfl)), (List.forall_mem_cons.mpr ⟨(mwsX5_viewRow_0 _ (List.mem_of_getElem? (i := 6) rfl)), (List.forall_mem_cons.mpr ⟨(mwsX5_viewRow_0 _ (List.mem_of_getElem? (i := 7) rfl)), (List.forall_mem_cons.mpr ⟨(mwsX5_viewRow_0 _ (List.mem_of_getElem? (i := 4) rfl)), (List.forall_mem_cons.mpr ⟨(mwsX5_viewRow_0 _ (List.mem_of_getElem? (i := 8) rfl)), (tk_mem 13 _ (fun w h => (mwsX5_viewRow_13 _ (tkB_mem 0 13 h))) (fun _ h => absurd h List.not_mem_nil))⟩)⟩)⟩)⟩)⟩)⟩) (by decide +kernel)
set_option maxRecDepth 20000 in
theorem gX5_viewRow_X5_isNoView : GoodIn wsX5_viewRow (wsV RX5 176 RX5 yX5_isNoView wsX5_isNoView) := goodIn_app (goodIn_sub (tk_mem 4 _ (fun w h => (mwsX5_viewRow_0 _ (tkB_mem 1 4 h))) (fun _ h => absurd h List.not_mem_nil)) (by decide +kernel)) ggX5_viewRow_X5_isNoView
set_option maxRecDepth 20000 in
theorem ggX5_viewRow_X5_start : GoodIn wsX5_viewRow wsX5_start := goodIn_sub (tk_mem 5 _ (fun w h => (mwsX5_viewRow_0 _ (tkB_mem 12 5 h))) (List.forall_mem_cons.mpr ⟨(mwsX5_viewRow_0 _ (List.mem_of_getElem? (i := 4) rfl)), (List.forall_mem_cons.mpr ⟨(mwsX5_viewRow_0 _ (List.mem_of_getElem? (i := 17) rfl)), (tk_mem 13 _ (fun w h => (mwsX5_viewRow_13 _ (tkB_mem 0 13 h))) (fun _ h => absurd h List.not_mem_nil))⟩)⟩)) (by decide +kernel)
set_option maxRecDepth 20000 in
theorem gX5_viewRow_X5_start : GoodIn wsX5_viewRow (wsV RX5 57 RX5 yX5_start wsX5_start) := goodIn_app (goodIn_sub (List.forall_mem_cons.mpr ⟨(mwsX5_viewRow_0 _ (List.mem_of_getElem? (i := 9) rfl)), (List.forall_mem_cons.mpr ⟨(mwsX5_viewRow_0 _ (List.mem_of_getElem? (i := 10) rfl)), (List.forall_mem_cons.mpr ⟨(mwsX5_viewRow_0 _ (List.mem_of_getElem? (i := 11) rfl)), (List.forall_mem_cons.mpr ⟨(mwsX5_viewRow_0 _ (List.mem_of_getElem? (i := 4) rfl)), (fun _ h => absurd h List.not_mem_nil)⟩)⟩)⟩)⟩) (by decide +kernel)) ggX5_viewRow_X5_start
set_option maxRecDepth 20000 in
theorem ggX5_viewRow_X5_told : GoodIn wsX5_viewRow wsX5_told := goodIn_sub (List.forall_mem_cons.mpr ⟨(mwsX5_viewRow_0 _ (List.mem_of_getElem? (i := 21) rfl)), (List.forall_mem_cons.mpr ⟨(mwsX5_viewRow_0 _ (List.mem_of_getElem? (i := 22) rfl)), (List.forall_mem_cons.mpr ⟨(mwsX5_viewRow_0 _ (List.mem_of_getElem? (i := 23) rfl)), (tk_mem 24 _ (fun w h => (mwsX5_viewRow_1 _ (tkB_mem 0 24 h))) (tk_mem 24 _ (fun w h => (mwsX5_viewRow_2 _ (tkB_mem 0 24 h))) (tk_mem 24 _ (fun w h => (mwsX5_viewRow_3 _ (tkB_mem 0 24 h))) (tk_mem 24 _ (fun w h => (mwsX5_viewRow_4 _ (tkB_mem 0 24 h))) (tk_mem 24 _ (fun w h => (mwsX5_viewRow_5 _ (tkB_mem 0 24 h))) (tk_mem 24 _ (fun w h => (mwsX5_viewRow_6 _ (tkB_mem 0 24 h))) (tk_mem 22 _ (fun w h => (mwsX5_viewRow_7 _ (tkB_mem 0 22 h))) (List.forall_mem_cons.mpr ⟨(mwsX5_viewRow_0 _ (List.mem_of_getElem? (i := 4) rfl)), (List.forall_mem_cons.mpr ⟨(mwsX5_viewRow_7 _ (List.mem_of_getElem? (i := 22) rfl)), (List.forall_mem_cons.mpr ⟨(mwsX5_viewRow_7 _ (List.mem_of_getElem? (i := 23) rfl)), (tk_mem 24 _ (fun w h => (mwsX5_viewRow_8 _ (tkB_mem 0 24 h))) (tk_mem 24 _ (fun w h => (mwsX5_viewRow_9 _ (tkB_mem 0 24 h))) (tk_mem 24 _ (fun w h => (mwsX5_viewRow_10 _ (tkB_mem 0 24 h))) (tk_mem 24 _ (fun w h => (mwsX5_viewRow_11 _ (tkB_mem 0 24 h))) (tk_mem 5 _ (fun w h => (mwsX5_viewRow_12 _ (tkB_mem 0 5 h))) (tk_mem 4 _ (fun w h => (mwsX5_viewRow_14 _ (tkB_mem 0 4 h))) (tk_mem 13 _ (fun w h => (mwsX5_viewRow_13 _ (tkB_mem 0 13 h))) (tk_mem 4 _ (fun w h => (mwsX5_viewRow_15 _ (tkB_mem 0 4 h))) (fun _ h => absurd h List.not_mem_nil)))))))))⟩)⟩)⟩))))))))⟩)⟩)⟩) (by decide +kernel)
set_option maxRecDepth 20000 in
theorem gX5_viewRow_X5_told : GoodIn wsX5_viewRow (wsV RX5 212 RX5 yX5_told wsX5_told) := goodIn_app (goodIn_sub (List.forall_mem_cons.mpr ⟨(mwsX5_viewRow_0 _ (List.mem_of_getElem? (i := 18) rfl)), (List.forall_mem_cons.mpr ⟨(mwsX5_viewRow_0 _ (List.mem_of_getElem? (i := 19) rfl)), (List.forall_mem_cons.mpr ⟨(mwsX5_viewRow_0 _ (List.mem_of_getElem? (i := 20) rfl)), (List.forall_mem_cons.mpr ⟨(mwsX5_viewRow_0 _ (List.mem_of_getElem? (i := 4) rfl)), (fun _ h => absurd h List.not_mem_nil)⟩)⟩)⟩)⟩) (by decide +kernel)) ggX5_viewRow_X5_told
theorem adX5_viewRow_0 : fd_rows (cX5_viewRow.data.toList.drop 0) 0 [(0, some (.aload_n 0), 1), (1, some (.aload_n 0), 1), (2, some (.iload_n 1), 1), (3, some (.invokevirtual 176), 3), (6, some (.iconst 1), 1), (7, some (.invokevirtual 57), 3), (10, some (.ifCond .eq 8), 3), (13, some (.ldc 210), 2), (15, some (.goto 13), 3), (18, some (.aload_n 0), 1), (19, some (.aload_n 0), 1), (20, some (.getfield 22), 3), (23, some (.iload_n 1), 1), (24, some (.aaload), 1), (25, some (.invokevirtual 212), 3), (28, some (.areturn), 1)] = true := by decide +kernel
theorem dX5_viewRow_0 : decode cX5_viewRow 0 = .ok (.aload_n 0, 1) := fd_get adX5_viewRow_0 (k := 0) rfl
theorem dX5_viewRow_1 : decode cX5_viewRow 1 = .ok (.aload_n 0, 1) := fd_get adX5_viewRow_0 (k := 1) rfl
theorem dX5_viewRow_2 : decode cX5_viewRow 2 = .ok (.iload_n 1, 1) := fd_get adX5_viewRow_0 (k := 2) rfl
theorem dX5_viewRow_3 : decode cX5_viewRow 3 = .ok (.invokevirtual 176, 3) := fd_get adX5_viewRow_0 (k := 3) rfl
theorem dX5_viewRow_6 : decode cX5_viewRow 6 = .ok (.iconst 1, 1) := fd_get adX5_viewRow_0 (k := 4) rfl
theorem dX5_viewRow_7 : decode cX5_viewRow 7 = .ok (.invokevirtual 57, 3) := fd_get adX5_viewRow_0 (k := 5) rfl
theorem dX5_viewRow_10 : decode cX5_viewRow 10 = .ok (.ifCond .eq 8, 3) := fd_get adX5_viewRow_0 (k := 6) rfl
theorem dX5_viewRow_13 : decode cX5_viewRow 13 = .ok (.ldc 210, 2) := fd_get adX5_viewRow_0 (k := 7) rfl
theorem dX5_viewRow_15 : decode cX5_viewRow 15 = .ok (.goto 13, 3) := fd_get adX5_viewRow_0 (k := 8) rfl
theorem dX5_viewRow_18 : decode cX5_viewRow 18 = .ok (.aload_n 0, 1) := fd_get adX5_viewRow_0 (k := 9) rfl
theorem dX5_viewRow_19 : decode cX5_viewRow 19 = .ok (.aload_n 0, 1) := fd_get adX5_viewRow_0 (k := 10) rfl
theorem dX5_viewRow_20 : decode cX5_viewRow 20 = .ok (.getfield 22, 3) := fd_get adX5_viewRow_0 (k := 11) rfl
theorem dX5_viewRow_23 : decode cX5_viewRow 23 = .ok (.iload_n 1, 1) := fd_get adX5_viewRow_0 (k := 12) rfl
theorem dX5_viewRow_24 : decode cX5_viewRow 24 = .ok (.aaload, 1) := fd_get adX5_viewRow_0 (k := 13) rfl
theorem dX5_viewRow_25 : decode cX5_viewRow 25 = .ok (.invokevirtual 212, 3) := fd_get adX5_viewRow_0 (k := 14) rfl
theorem dX5_viewRow_28 : decode cX5_viewRow 28 = .ok (.areturn, 1) := fd_get adX5_viewRow_0 (k := 15) rfl
set_option maxRecDepth 20000 in
theorem ggX5_ledgerTold_X5_one : GoodIn wsX5_ledgerTold wsX5_one := goodIn_sub (List.forall_mem_cons.mpr ⟨(List.mem_cons_of_mem _ (List.mem_append_left _ (List.mem_of_getElem? (i := 11) rfl))), (fun _ h => absurd h List.not_mem_nil)⟩) (by decide +kernel)
set_option maxRecDepth 20000 in
theorem gX5_ledgerTold_X5_one : GoodIn wsX5_ledgerTold (va_wsS RX5 81 yX5_one wsX5_one) := goodIn_app (goodIn_sub (List.forall_mem_cons.mpr ⟨(List.mem_cons_of_mem _ (List.mem_append_left _ (List.mem_of_getElem? (i := 8) rfl))), (List.forall_mem_cons.mpr ⟨(List.mem_cons_of_mem _ (List.mem_append_left _ (List.mem_of_getElem? (i := 9) rfl))), (List.forall_mem_cons.mpr ⟨(List.mem_cons_of_mem _ (List.mem_append_left _ (List.mem_of_getElem? (i := 10) rfl))), (fun _ h => absurd h List.not_mem_nil)⟩)⟩)⟩) (by decide +kernel)) ggX5_ledgerTold_X5_one
theorem adX5_ledgerTold_0 : fd_rows (cX5_ledgerTold.data.toList.drop 0) 0 [(0, some (.iconst 0), 1), (1, some (.istore_n 2), 1), (2, some (.aload_n 0), 1), (3, some (.getfield 22), 3), (6, some (.astore_n 3), 1), (7, some (.aload_n 3), 1), (8, some (.arraylength), 1), (9, some (.istore 4), 2), (11, some (.iconst 0), 1), (12, some (.istore 5), 2), (14, some (.iload 5), 2), (16, some (.iload 4), 2), (18, some (.if_icmp .ge 31), 3), (21, some (.aload_n 3), 1), (22, some (.iload 5), 2), (24, some (.aaload), 1)] = true := by decide +kernel
theorem adX5_ledgerTold_1 : fd_rows (cX5_ledgerTold.data.toList.drop 25) 25 [(25, some (.astore 6), 2), (27, some (.iload_n 2), 1), (28, some (.aload 6), 2), (30, some (.ifnull 7), 3), (33, some (.iconst 1), 1), (34, some (.goto 4), 3), (37, some (.iconst 0), 1), (38, some (.invokestatic 81), 3), (41, some (.iadd), 1), (42, some (.istore_n 2), 1), (43, some (.iinc 5 1), 3), (46, some (.goto (-32)), 3), (49, some (.bipush 7), 2), (51, none, 2), (53, some (.dup), 1), (54, some (.iconst 0), 1)] = true := by decide +kernel
theorem adX5_ledgerTold_2 : fd_rows (cX5_ledgerTold.data.toList.drop 55) 55 [(55, some (.iload_n 2), 1), (56, some (.iastore), 1), (57, some (.dup), 1), (58, some (.iconst 1), 1), (59, some (.aload_n 0), 1), (60, some (.getfield 125), 3), (63, some (.ifnonnull 9), 3), (66, some (.sipush (-10000)), 3), (69, some (.goto 9), 3), (72, some (.aload_n 0), 1), (73, some (.getfield 125), 3), (76, some (.iconst 0), 1), (77, some (.iaload), 1), (78, some (.iastore), 1), (79, some (.dup), 1), (80, some (.iconst 2), 1)] = true := by decide +kernel
theorem adX5_ledgerTold_3 : fd_rows (cX5_ledgerTold.data.toList.drop 81) 81 [(81, some (.aload_n 0), 1), (82, some (.getfield 128), 3), (85, some (.invokestatic 81), 3), (88, some (.iastore), 1), (89, some (.dup), 1), (90, some (.iconst 3), 1), (91, some (.aload_n 0), 1), (92, some (.getfield 29), 3), (95, some (.iastore), 1), (96, some (.dup), 1), (97, some (.iconst 4), 1), (98, some (.aload_n 0), 1), (99, some (.getfield 32), 3), (102, some (.iastore), 1), (103, some (.dup), 1), (104, some (.iconst 5), 1)] = true := by decide +kernel
theorem adX5_ledgerTold_4 : fd_rows (cX5_ledgerTold.data.toList.drop 105) 105 [(105, some (.aload_n 0), 1), (106, some (.getfield 35), 3), (109, some (.iastore), 1), (110, some (.dup), 1), (111, some (.bipush 6), 2), (113, some (.aload_n 0), 1), (114, some (.getfield 186), 3), (117, some (.iastore), 1), (118, some (.astore_n 3), 1), (119, some (.aload_n 3), 1), (120, some (.iload_n 1), 1), (121, some (.iaload), 1), (122, some (.ireturn), 1)] = true := by decide +kernel
theorem dX5_ledgerTold_0 : decode cX5_ledgerTold 0 = .ok (.iconst 0, 1) := fd_get adX5_ledgerTold_0 (k := 0) rfl
theorem dX5_ledgerTold_1 : decode cX5_ledgerTold 1 = .ok (.istore_n 2, 1) := fd_get adX5_ledgerTold_0 (k := 1) rfl
theorem dX5_ledgerTold_2 : decode cX5_ledgerTold 2 = .ok (.aload_n 0, 1) := fd_get adX5_ledgerTold_0 (k := 2) rfl
theorem dX5_ledgerTold_3 : decode cX5_ledgerTold 3 = .ok (.getfield 22, 3) := fd_get adX5_ledgerTold_0 (k := 3) rfl
theorem dX5_ledgerTold_6 : decode cX5_ledgerTold 6 = .ok (.astore_n 3, 1) := fd_get adX5_ledgerTold_0 (k := 4) rfl
theorem dX5_ledgerTold_7 : decode cX5_ledgerTold 7 = .ok (.aload_n 3, 1) := fd_get adX5_ledgerTold_0 (k := 5) rfl
theorem dX5_ledgerTold_8 : decode cX5_ledgerTold 8 = .ok (.arraylength, 1) := fd_get adX5_ledgerTold_0 (k := 6) rfl
theorem dX5_ledgerTold_9 : decode cX5_ledgerTold 9 = .ok (.istore 4, 2) := fd_get adX5_ledgerTold_0 (k := 7) rfl
theorem dX5_ledgerTold_11 : decode cX5_ledgerTold 11 = .ok (.iconst 0, 1) := fd_get adX5_ledgerTold_0 (k := 8) rfl
theorem dX5_ledgerTold_12 : decode cX5_ledgerTold 12 = .ok (.istore 5, 2) := fd_get adX5_ledgerTold_0 (k := 9) rfl
theorem dX5_ledgerTold_14 : decode cX5_ledgerTold 14 = .ok (.iload 5, 2) := fd_get adX5_ledgerTold_0 (k := 10) rfl
theorem dX5_ledgerTold_16 : decode cX5_ledgerTold 16 = .ok (.iload 4, 2) := fd_get adX5_ledgerTold_0 (k := 11) rfl
theorem dX5_ledgerTold_18 : decode cX5_ledgerTold 18 = .ok (.if_icmp .ge 31, 3) := fd_get adX5_ledgerTold_0 (k := 12) rfl
theorem dX5_ledgerTold_21 : decode cX5_ledgerTold 21 = .ok (.aload_n 3, 1) := fd_get adX5_ledgerTold_0 (k := 13) rfl
theorem dX5_ledgerTold_22 : decode cX5_ledgerTold 22 = .ok (.iload 5, 2) := fd_get adX5_ledgerTold_0 (k := 14) rfl
theorem dX5_ledgerTold_24 : decode cX5_ledgerTold 24 = .ok (.aaload, 1) := fd_get adX5_ledgerTold_0 (k := 15) rfl
theorem dX5_ledgerTold_25 : decode cX5_ledgerTold 25 = .ok (.astore 6, 2) := fd_get adX5_ledgerTold_1 (k := 0) rfl
theorem dX5_ledgerTold_27 : decode cX5_ledgerTold 27 = .ok (.iload_n 2, 1) := fd_get adX5_ledgerTold_1 (k := 1) rfl
theorem dX5_ledgerTold_28 : decode cX5_ledgerTold 28 = .ok (.aload 6, 2) := fd_get adX5_ledgerTold_1 (k := 2) rfl
theorem dX5_ledgerTold_30 : decode cX5_ledgerTold 30 = .ok (.ifnull 7, 3) := fd_get adX5_ledgerTold_1 (k := 3) rfl
theorem dX5_ledgerTold_33 : decode cX5_ledgerTold 33 = .ok (.iconst 1, 1) := fd_get adX5_ledgerTold_1 (k := 4) rfl
theorem dX5_ledgerTold_34 : decode cX5_ledgerTold 34 = .ok (.goto 4, 3) := fd_get adX5_ledgerTold_1 (k := 5) rfl
theorem dX5_ledgerTold_37 : decode cX5_ledgerTold 37 = .ok (.iconst 0, 1) := fd_get adX5_ledgerTold_1 (k := 6) rfl
theorem dX5_ledgerTold_38 : decode cX5_ledgerTold 38 = .ok (.invokestatic 81, 3) := fd_get adX5_ledgerTold_1 (k := 7) rfl
theorem dX5_ledgerTold_41 : decode cX5_ledgerTold 41 = .ok (.iadd, 1) := fd_get adX5_ledgerTold_1 (k := 8) rfl
theorem dX5_ledgerTold_42 : decode cX5_ledgerTold 42 = .ok (.istore_n 2, 1) := fd_get adX5_ledgerTold_1 (k := 9) rfl
theorem dX5_ledgerTold_43 : decode cX5_ledgerTold 43 = .ok (.iinc 5 1, 3) := fd_get adX5_ledgerTold_1 (k := 10) rfl
theorem dX5_ledgerTold_46 : decode cX5_ledgerTold 46 = .ok (.goto (-32), 3) := fd_get adX5_ledgerTold_1 (k := 11) rfl
theorem dX5_ledgerTold_49 : decode cX5_ledgerTold 49 = .ok (.bipush 7, 2) := fd_get adX5_ledgerTold_1 (k := 12) rfl
theorem dX5_ledgerTold_51 : decode cX5_ledgerTold 51 = .ok (.newarray .int, 2) := by decide +kernel
theorem dX5_ledgerTold_53 : decode cX5_ledgerTold 53 = .ok (.dup, 1) := fd_get adX5_ledgerTold_1 (k := 14) rfl
theorem dX5_ledgerTold_54 : decode cX5_ledgerTold 54 = .ok (.iconst 0, 1) := fd_get adX5_ledgerTold_1 (k := 15) rfl
theorem dX5_ledgerTold_55 : decode cX5_ledgerTold 55 = .ok (.iload_n 2, 1) := fd_get adX5_ledgerTold_2 (k := 0) rfl
theorem dX5_ledgerTold_56 : decode cX5_ledgerTold 56 = .ok (.iastore, 1) := fd_get adX5_ledgerTold_2 (k := 1) rfl
theorem dX5_ledgerTold_57 : decode cX5_ledgerTold 57 = .ok (.dup, 1) := fd_get adX5_ledgerTold_2 (k := 2) rfl
theorem dX5_ledgerTold_58 : decode cX5_ledgerTold 58 = .ok (.iconst 1, 1) := fd_get adX5_ledgerTold_2 (k := 3) rfl
theorem dX5_ledgerTold_59 : decode cX5_ledgerTold 59 = .ok (.aload_n 0, 1) := fd_get adX5_ledgerTold_2 (k := 4) rfl
theorem dX5_ledgerTold_60 : decode cX5_ledgerTold 60 = .ok (.getfield 125, 3) := fd_get adX5_ledgerTold_2 (k := 5) rfl
theorem dX5_ledgerTold_63 : decode cX5_ledgerTold 63 = .ok (.ifnonnull 9, 3) := fd_get adX5_ledgerTold_2 (k := 6) rfl
theorem dX5_ledgerTold_66 : decode cX5_ledgerTold 66 = .ok (.sipush (-10000), 3) := fd_get adX5_ledgerTold_2 (k := 7) rfl
theorem dX5_ledgerTold_69 : decode cX5_ledgerTold 69 = .ok (.goto 9, 3) := fd_get adX5_ledgerTold_2 (k := 8) rfl
theorem dX5_ledgerTold_72 : decode cX5_ledgerTold 72 = .ok (.aload_n 0, 1) := fd_get adX5_ledgerTold_2 (k := 9) rfl
theorem dX5_ledgerTold_73 : decode cX5_ledgerTold 73 = .ok (.getfield 125, 3) := fd_get adX5_ledgerTold_2 (k := 10) rfl
theorem dX5_ledgerTold_76 : decode cX5_ledgerTold 76 = .ok (.iconst 0, 1) := fd_get adX5_ledgerTold_2 (k := 11) rfl
theorem dX5_ledgerTold_77 : decode cX5_ledgerTold 77 = .ok (.iaload, 1) := fd_get adX5_ledgerTold_2 (k := 12) rfl
theorem dX5_ledgerTold_78 : decode cX5_ledgerTold 78 = .ok (.iastore, 1) := fd_get adX5_ledgerTold_2 (k := 13) rfl
theorem dX5_ledgerTold_79 : decode cX5_ledgerTold 79 = .ok (.dup, 1) := fd_get adX5_ledgerTold_2 (k := 14) rfl
theorem dX5_ledgerTold_80 : decode cX5_ledgerTold 80 = .ok (.iconst 2, 1) := fd_get adX5_ledgerTold_2 (k := 15) rfl
theorem dX5_ledgerTold_81 : decode cX5_ledgerTold 81 = .ok (.aload_n 0, 1) := fd_get adX5_ledgerTold_3 (k := 0) rfl
theorem dX5_ledgerTold_82 : decode cX5_ledgerTold 82 = .ok (.getfield 128, 3) := fd_get adX5_ledgerTold_3 (k := 1) rfl
theorem dX5_ledgerTold_85 : decode cX5_ledgerTold 85 = .ok (.invokestatic 81, 3) := fd_get adX5_ledgerTold_3 (k := 2) rfl
theorem dX5_ledgerTold_88 : decode cX5_ledgerTold 88 = .ok (.iastore, 1) := fd_get adX5_ledgerTold_3 (k := 3) rfl
theorem dX5_ledgerTold_89 : decode cX5_ledgerTold 89 = .ok (.dup, 1) := fd_get adX5_ledgerTold_3 (k := 4) rfl
theorem dX5_ledgerTold_90 : decode cX5_ledgerTold 90 = .ok (.iconst 3, 1) := fd_get adX5_ledgerTold_3 (k := 5) rfl
theorem dX5_ledgerTold_91 : decode cX5_ledgerTold 91 = .ok (.aload_n 0, 1) := fd_get adX5_ledgerTold_3 (k := 6) rfl
theorem dX5_ledgerTold_92 : decode cX5_ledgerTold 92 = .ok (.getfield 29, 3) := fd_get adX5_ledgerTold_3 (k := 7) rfl
theorem dX5_ledgerTold_95 : decode cX5_ledgerTold 95 = .ok (.iastore, 1) := fd_get adX5_ledgerTold_3 (k := 8) rfl
theorem dX5_ledgerTold_96 : decode cX5_ledgerTold 96 = .ok (.dup, 1) := fd_get adX5_ledgerTold_3 (k := 9) rfl
theorem dX5_ledgerTold_97 : decode cX5_ledgerTold 97 = .ok (.iconst 4, 1) := fd_get adX5_ledgerTold_3 (k := 10) rfl
theorem dX5_ledgerTold_98 : decode cX5_ledgerTold 98 = .ok (.aload_n 0, 1) := fd_get adX5_ledgerTold_3 (k := 11) rfl
theorem dX5_ledgerTold_99 : decode cX5_ledgerTold 99 = .ok (.getfield 32, 3) := fd_get adX5_ledgerTold_3 (k := 12) rfl
theorem dX5_ledgerTold_102 : decode cX5_ledgerTold 102 = .ok (.iastore, 1) := fd_get adX5_ledgerTold_3 (k := 13) rfl
theorem dX5_ledgerTold_103 : decode cX5_ledgerTold 103 = .ok (.dup, 1) := fd_get adX5_ledgerTold_3 (k := 14) rfl
theorem dX5_ledgerTold_104 : decode cX5_ledgerTold 104 = .ok (.iconst 5, 1) := fd_get adX5_ledgerTold_3 (k := 15) rfl
theorem dX5_ledgerTold_105 : decode cX5_ledgerTold 105 = .ok (.aload_n 0, 1) := fd_get adX5_ledgerTold_4 (k := 0) rfl
theorem dX5_ledgerTold_106 : decode cX5_ledgerTold 106 = .ok (.getfield 35, 3) := fd_get adX5_ledgerTold_4 (k := 1) rfl
theorem dX5_ledgerTold_109 : decode cX5_ledgerTold 109 = .ok (.iastore, 1) := fd_get adX5_ledgerTold_4 (k := 2) rfl
theorem dX5_ledgerTold_110 : decode cX5_ledgerTold 110 = .ok (.dup, 1) := fd_get adX5_ledgerTold_4 (k := 3) rfl
theorem dX5_ledgerTold_111 : decode cX5_ledgerTold 111 = .ok (.bipush 6, 2) := fd_get adX5_ledgerTold_4 (k := 4) rfl
theorem dX5_ledgerTold_113 : decode cX5_ledgerTold 113 = .ok (.aload_n 0, 1) := fd_get adX5_ledgerTold_4 (k := 5) rfl
theorem dX5_ledgerTold_114 : decode cX5_ledgerTold 114 = .ok (.getfield 186, 3) := fd_get adX5_ledgerTold_4 (k := 6) rfl
theorem dX5_ledgerTold_117 : decode cX5_ledgerTold 117 = .ok (.iastore, 1) := fd_get adX5_ledgerTold_4 (k := 7) rfl
theorem dX5_ledgerTold_118 : decode cX5_ledgerTold 118 = .ok (.astore_n 3, 1) := fd_get adX5_ledgerTold_4 (k := 8) rfl
theorem dX5_ledgerTold_119 : decode cX5_ledgerTold 119 = .ok (.aload_n 3, 1) := fd_get adX5_ledgerTold_4 (k := 9) rfl
theorem dX5_ledgerTold_120 : decode cX5_ledgerTold 120 = .ok (.iload_n 1, 1) := fd_get adX5_ledgerTold_4 (k := 10) rfl
theorem dX5_ledgerTold_121 : decode cX5_ledgerTold 121 = .ok (.iaload, 1) := fd_get adX5_ledgerTold_4 (k := 11) rfl
theorem dX5_ledgerTold_122 : decode cX5_ledgerTold 122 = .ok (.ireturn, 1) := fd_get adX5_ledgerTold_4 (k := 12) rfl
theorem mwsX5_ledger_0 : ∀ w ∈ wsX5_ledger_r1, w ∈ wsX5_ledger := fun w h => (List.mem_cons_of_mem _ (List.mem_append_left _ (List.mem_append_left _ h)))
theorem mwsX5_ledger_1 : ∀ w ∈ wsX5_ledger_r2, w ∈ wsX5_ledger := fun w h => (List.mem_cons_of_mem _ (List.mem_append_left _ (List.mem_append_right _ h)))
theorem mwsX5_ledger_2 : ∀ w ∈ wsX50, w ∈ wsX5_ledger := fun w h => (List.mem_cons_of_mem _ (List.mem_append_right _ h))
set_option maxRecDepth 20000 in
theorem ggX5_ledger_X5_isIn : GoodIn wsX5_ledger wsX5_isIn := goodIn_sub (List.forall_mem_cons.mpr ⟨(mwsX5_ledger_0 _ (List.mem_of_getElem? (i := 3) rfl)), (fun _ h => absurd h List.not_mem_nil)⟩) (by decide +kernel)
set_option maxRecDepth 20000 in
theorem gX5_ledger_X5_isIn : GoodIn wsX5_ledger (va_wsS RX5 49 yX5_isIn wsX5_isIn) := goodIn_app (goodIn_sub (List.forall_mem_cons.mpr ⟨(mwsX5_ledger_0 _ (List.mem_of_getElem? (i := 0) rfl)), (List.forall_mem_cons.mpr ⟨(mwsX5_ledger_0 _ (List.mem_of_getElem? (i := 1) rfl)), (List.forall_mem_cons.mpr ⟨(mwsX5_ledger_0 _ (List.mem_of_getElem? (i := 2) rfl)), (fun _ h => absurd h List.not_mem_nil)⟩)⟩)⟩) (by decide +kernel)) ggX5_ledger_X5_isIn
set_option maxRecDepth 20000 in
theorem ggX5_ledger_X5_start : GoodIn wsX5_ledger wsX5_start := goodIn_sub (tk_mem 5 _ (fun w h => (mwsX5_ledger_0 _ (tkB_mem 7 5 h))) (List.forall_mem_cons.mpr ⟨(mwsX5_ledger_0 _ (List.mem_of_getElem? (i := 2) rfl)), (List.forall_mem_cons.mpr ⟨(mwsX5_ledger_0 _ (List.mem_of_getElem? (i := 12) rfl)), (tk_mem 13 _ (fun w h => (mwsX5_ledger_2 _ (tkB_mem 0 13 h))) (fun _ h => absurd h List.not_mem_nil))⟩)⟩)) (by decide +kernel)
set_option maxRecDepth 20000 in
theorem gX5_ledger_X5_start : GoodIn wsX5_ledger (wsV RX5 57 RX5 yX5_start wsX5_start) := goodIn_app (goodIn_sub (List.forall_mem_cons.mpr ⟨(mwsX5_ledger_0 _ (List.mem_of_getElem? (i := 4) rfl)), (List.forall_mem_cons.mpr ⟨(mwsX5_ledger_0 _ (List.mem_of_getElem? (i := 5) rfl)), (List.forall_mem_cons.mpr ⟨(mwsX5_ledger_0 _ (List.mem_of_getElem? (i := 6) rfl)), (List.forall_mem_cons.mpr ⟨(mwsX5_ledger_0 _ (List.mem_of_getElem? (i := 2) rfl)), (fun _ h => absurd h List.not_mem_nil)⟩)⟩)⟩)⟩) (by decide +kernel)) ggX5_ledger_X5_start
set_option maxRecDepth 20000 in
theorem ggX5_ledger_X5_ledgerTold : GoodIn wsX5_ledger wsX5_ledgerTold := goodIn_sub (tk_mem 8 _ (fun w h => (mwsX5_ledger_0 _ (tkB_mem 16 8 h))) (List.forall_mem_cons.mpr ⟨(mwsX5_ledger_1 _ (List.mem_of_getElem? (i := 0) rfl)), (List.forall_mem_cons.mpr ⟨(mwsX5_ledger_1 _ (List.mem_of_getElem? (i := 1) rfl)), (List.forall_mem_cons.mpr ⟨(mwsX5_ledger_1 _ (List.mem_of_getElem? (i := 2) rfl)), (List.forall_mem_cons.mpr ⟨(mwsX5_ledger_0 _ (List.mem_of_getElem? (i := 2) rfl)), (List.forall_mem_cons.mpr ⟨(mwsX5_ledger_1 _ (List.mem_of_getElem? (i := 3) rfl)), (tk_mem 13 _ (fun w h => (mwsX5_ledger_2 _ (tkB_mem 0 13 h))) (fun _ h => absurd h List.not_mem_nil))⟩)⟩)⟩)⟩)⟩)) (by decide +kernel)
set_option maxRecDepth 20000 in
theorem gX5_ledger_X5_ledgerTold : GoodIn wsX5_ledger (wsV RX5 222 RX5 yX5_ledgerTold wsX5_ledgerTold) := goodIn_app (goodIn_sub (List.forall_mem_cons.mpr ⟨(mwsX5_ledger_0 _ (List.mem_of_getElem? (i := 13) rfl)), (List.forall_mem_cons.mpr ⟨(mwsX5_ledger_0 _ (List.mem_of_getElem? (i := 14) rfl)), (List.forall_mem_cons.mpr ⟨(mwsX5_ledger_0 _ (List.mem_of_getElem? (i := 15) rfl)), (List.forall_mem_cons.mpr ⟨(mwsX5_ledger_0 _ (List.mem_of_getElem? (i := 2) rfl)), (fun _ h => absurd h List.not_mem_nil)⟩)⟩)⟩)⟩) (by decide +kernel)) ggX5_ledger_X5_ledgerTold
theorem adX5_ledger_0 : fd_rows (cX5_ledger.data.toList.drop 0) 0 [(0, some (.aload_n 0), 1), (1, some (.iload_n 1), 1), (2, some (.iconst 0), 1), (3, some (.bipush 6), 2), (5, some (.invokestatic 49), 3), (8, some (.ifCond .ne 7), 3), (11, some (.iconst 1), 1), (12, some (.goto 4), 3), (15, some (.iconst 0), 1), (16, some (.iconst 1), 1), (17, some (.invokevirtual 57), 3), (20, some (.ifCond .eq 7), 3), (23, some (.iconst 0), 1), (24, some (.goto 8), 3), (27, some (.aload_n 0), 1), (28, some (.iload_n 1), 1)] = true := by decide +kernel
theorem adX5_ledger_1 : fd_rows (cX5_ledger.data.toList.drop 29) 29 [(29, some (.invokevirtual 222), 3), (32, some (.ireturn), 1)] = true := by decide +kernel
theorem dX5_ledger_0 : decode cX5_ledger 0 = .ok (.aload_n 0, 1) := fd_get adX5_ledger_0 (k := 0) rfl
theorem dX5_ledger_1 : decode cX5_ledger 1 = .ok (.iload_n 1, 1) := fd_get adX5_ledger_0 (k := 1) rfl
theorem dX5_ledger_2 : decode cX5_ledger 2 = .ok (.iconst 0, 1) := fd_get adX5_ledger_0 (k := 2) rfl
theorem dX5_ledger_3 : decode cX5_ledger 3 = .ok (.bipush 6, 2) := fd_get adX5_ledger_0 (k := 3) rfl
theorem dX5_ledger_5 : decode cX5_ledger 5 = .ok (.invokestatic 49, 3) := fd_get adX5_ledger_0 (k := 4) rfl
theorem dX5_ledger_8 : decode cX5_ledger 8 = .ok (.ifCond .ne 7, 3) := fd_get adX5_ledger_0 (k := 5) rfl
theorem dX5_ledger_11 : decode cX5_ledger 11 = .ok (.iconst 1, 1) := fd_get adX5_ledger_0 (k := 6) rfl
theorem dX5_ledger_12 : decode cX5_ledger 12 = .ok (.goto 4, 3) := fd_get adX5_ledger_0 (k := 7) rfl
theorem dX5_ledger_15 : decode cX5_ledger 15 = .ok (.iconst 0, 1) := fd_get adX5_ledger_0 (k := 8) rfl
theorem dX5_ledger_16 : decode cX5_ledger 16 = .ok (.iconst 1, 1) := fd_get adX5_ledger_0 (k := 9) rfl
theorem dX5_ledger_17 : decode cX5_ledger 17 = .ok (.invokevirtual 57, 3) := fd_get adX5_ledger_0 (k := 10) rfl
theorem dX5_ledger_20 : decode cX5_ledger 20 = .ok (.ifCond .eq 7, 3) := fd_get adX5_ledger_0 (k := 11) rfl
theorem dX5_ledger_23 : decode cX5_ledger 23 = .ok (.iconst 0, 1) := fd_get adX5_ledger_0 (k := 12) rfl
theorem dX5_ledger_24 : decode cX5_ledger 24 = .ok (.goto 8, 3) := fd_get adX5_ledger_0 (k := 13) rfl
theorem dX5_ledger_27 : decode cX5_ledger 27 = .ok (.aload_n 0, 1) := fd_get adX5_ledger_0 (k := 14) rfl
theorem dX5_ledger_28 : decode cX5_ledger 28 = .ok (.iload_n 1, 1) := fd_get adX5_ledger_0 (k := 15) rfl
theorem dX5_ledger_29 : decode cX5_ledger 29 = .ok (.invokevirtual 222, 3) := fd_get adX5_ledger_1 (k := 0) rfl
theorem dX5_ledger_32 : decode cX5_ledger 32 = .ok (.ireturn, 1) := fd_get adX5_ledger_1 (k := 1) rfl
theorem mwsX5_isTrue_0 : ∀ w ∈ wsX5_isTrue_r1, w ∈ wsX5_isTrue := fun w h => (List.mem_cons_of_mem _ (List.mem_append_left _ (List.mem_append_left _ h)))
theorem mwsX5_isTrue_1 : ∀ w ∈ wsX5_isTrue_r2, w ∈ wsX5_isTrue := fun w h => (List.mem_cons_of_mem _ (List.mem_append_left _ (List.mem_append_right _ h)))
theorem mwsX5_isTrue_2 : ∀ w ∈ wsX50, w ∈ wsX5_isTrue := fun w h => (List.mem_cons_of_mem _ (List.mem_append_right _ h))
set_option maxRecDepth 20000 in
theorem ggX5_isTrue_X5_whole : GoodIn wsX5_isTrue wsX5_whole := goodIn_sub (List.forall_mem_cons.mpr ⟨(mwsX5_isTrue_0 _ (List.mem_of_getElem? (i := 3) rfl)), (List.forall_mem_cons.mpr ⟨(mwsX5_isTrue_0 _ (List.mem_of_getElem? (i := 4) rfl)), (fun _ h => absurd h List.not_mem_nil)⟩)⟩) (by decide +kernel)
set_option maxRecDepth 20000 in
theorem gX5_isTrue_X5_whole : GoodIn wsX5_isTrue (va_wsS RX5 85 yX5_whole wsX5_whole) := goodIn_app (goodIn_sub (List.forall_mem_cons.mpr ⟨(mwsX5_isTrue_0 _ (List.mem_of_getElem? (i := 0) rfl)), (List.forall_mem_cons.mpr ⟨(mwsX5_isTrue_0 _ (List.mem_of_getElem? (i := 1) rfl)), (List.forall_mem_cons.mpr ⟨(mwsX5_isTrue_0 _ (List.mem_of_getElem? (i := 2) rfl)), (fun _ h => absurd h List.not_mem_nil)⟩)⟩)⟩) (by decide +kernel)) ggX5_isTrue_X5_whole
set_option maxRecDepth 20000 in
theorem ggX5_isTrue_X5_end : GoodIn wsX5_isTrue wsX5_end := goodIn_sub (tk_mem 4 _ (fun w h => (mwsX5_isTrue_0 _ (tkB_mem 8 4 h))) (List.forall_mem_cons.mpr ⟨(mwsX5_isTrue_0 _ (List.mem_of_getElem? (i := 2) rfl)), (tk_mem 12 _ (fun w h => (mwsX5_isTrue_0 _ (tkB_mem 12 12 h))) (tk_mem 4 _ (fun w h => (mwsX5_isTrue_1 _ (tkB_mem 0 4 h))) (tk_mem 13 _ (fun w h => (mwsX5_isTrue_2 _ (tkB_mem 0 13 h))) (fun _ h => absurd h List.not_mem_nil))))⟩)) (by decide +kernel)
set_option maxRecDepth 20000 in
theorem gX5_isTrue_X5_end : GoodIn wsX5_isTrue (wsV RX5 96 RX5 yX5_end wsX5_end) := goodIn_app (goodIn_sub (List.forall_mem_cons.mpr ⟨(mwsX5_isTrue_0 _ (List.mem_of_getElem? (i := 5) rfl)), (List.forall_mem_cons.mpr ⟨(mwsX5_isTrue_0 _ (List.mem_of_getElem? (i := 6) rfl)), (List.forall_mem_cons.mpr ⟨(mwsX5_isTrue_0 _ (List.mem_of_getElem? (i := 7) rfl)), (List.forall_mem_cons.mpr ⟨(mwsX5_isTrue_0 _ (List.mem_of_getElem? (i := 2) rfl)), (fun _ h => absurd h List.not_mem_nil)⟩)⟩)⟩)⟩) (by decide +kernel)) ggX5_isTrue_X5_end
set_option maxRecDepth 20000 in
theorem ggX5_isTrue_X5_isWithin : GoodIn wsX5_isTrue wsX5_isWithin := goodIn_sub (List.forall_mem_cons.mpr ⟨(mwsX5_isTrue_0 _ (List.mem_of_getElem? (i := 21) rfl)), (List.forall_mem_cons.mpr ⟨(mwsX5_isTrue_0 _ (List.mem_of_getElem? (i := 22) rfl)), (List.forall_mem_cons.mpr ⟨(mwsX5_isTrue_0 _ (List.mem_of_getElem? (i := 23) rfl)), (List.forall_mem_cons.mpr ⟨(mwsX5_isTrue_1 _ (List.mem_of_getElem? (i := 0) rfl)), (List.forall_mem_cons.mpr ⟨(mwsX5_isTrue_0 _ (List.mem_of_getElem? (i := 2) rfl)), (List.forall_mem_cons.mpr ⟨(mwsX5_isTrue_1 _ (List.mem_of_getElem? (i := 1) rfl)), (List.forall_mem_cons.mpr ⟨(mwsX5_isTrue_1 _ (List.mem_of_getElem? (i := 2) rfl)), (List.forall_mem_cons.mpr ⟨(mwsX5_isTrue_1 _ (List.mem_of_getElem? (i := 3) rfl)), (tk_mem 13 _ (fun w h => (mwsX5_isTrue_2 _ (tkB_mem 0 13 h))) (fun _ h => absurd h List.not_mem_nil))⟩)⟩)⟩)⟩)⟩)⟩)⟩)⟩) (by decide +kernel)
set_option maxRecDepth 20000 in
theorem gX5_isTrue_X5_isWithin : GoodIn wsX5_isTrue (wsV RX5 70 RX5 yX5_isWithin wsX5_isWithin) := goodIn_app (goodIn_sub (List.forall_mem_cons.mpr ⟨(mwsX5_isTrue_0 _ (List.mem_of_getElem? (i := 18) rfl)), (List.forall_mem_cons.mpr ⟨(mwsX5_isTrue_0 _ (List.mem_of_getElem? (i := 19) rfl)), (List.forall_mem_cons.mpr ⟨(mwsX5_isTrue_0 _ (List.mem_of_getElem? (i := 20) rfl)), (List.forall_mem_cons.mpr ⟨(mwsX5_isTrue_0 _ (List.mem_of_getElem? (i := 2) rfl)), (fun _ h => absurd h List.not_mem_nil)⟩)⟩)⟩)⟩) (by decide +kernel)) ggX5_isTrue_X5_isWithin
set_option maxRecDepth 20000 in
theorem ggX5_isTrue_X5_nearOf : GoodIn wsX5_isTrue wsX5_nearOf := goodIn_sub (List.forall_mem_cons.mpr ⟨(mwsX5_isTrue_1 _ (List.mem_of_getElem? (i := 7) rfl)), (List.forall_mem_cons.mpr ⟨(mwsX5_isTrue_0 _ (List.mem_of_getElem? (i := 22) rfl)), (List.forall_mem_cons.mpr ⟨(mwsX5_isTrue_0 _ (List.mem_of_getElem? (i := 23) rfl)), (List.forall_mem_cons.mpr ⟨(mwsX5_isTrue_1 _ (List.mem_of_getElem? (i := 0) rfl)), (List.forall_mem_cons.mpr ⟨(mwsX5_isTrue_0 _ (List.mem_of_getElem? (i := 2) rfl)), (List.forall_mem_cons.mpr ⟨(mwsX5_isTrue_1 _ (List.mem_of_getElem? (i := 1) rfl)), (List.forall_mem_cons.mpr ⟨(mwsX5_isTrue_1 _ (List.mem_of_getElem? (i := 2) rfl)), (List.forall_mem_cons.mpr ⟨(mwsX5_isTrue_1 _ (List.mem_of_getElem? (i := 3) rfl)), (tk_mem 13 _ (fun w h => (mwsX5_isTrue_0 _ (tkB_mem 9 13 h))) (tk_mem 13 _ (fun w h => (mwsX5_isTrue_2 _ (tkB_mem 0 13 h))) (fun _ h => absurd h List.not_mem_nil)))⟩)⟩)⟩)⟩)⟩)⟩)⟩)⟩) (by decide +kernel)
set_option maxRecDepth 20000 in
theorem gX5_isTrue_X5_nearOf : GoodIn wsX5_isTrue (wsV RX5 115 RX5 yX5_nearOf wsX5_nearOf) := goodIn_app (goodIn_sub (List.forall_mem_cons.mpr ⟨(mwsX5_isTrue_1 _ (List.mem_of_getElem? (i := 4) rfl)), (List.forall_mem_cons.mpr ⟨(mwsX5_isTrue_1 _ (List.mem_of_getElem? (i := 5) rfl)), (List.forall_mem_cons.mpr ⟨(mwsX5_isTrue_1 _ (List.mem_of_getElem? (i := 6) rfl)), (List.forall_mem_cons.mpr ⟨(mwsX5_isTrue_0 _ (List.mem_of_getElem? (i := 2) rfl)), (fun _ h => absurd h List.not_mem_nil)⟩)⟩)⟩)⟩) (by decide +kernel)) ggX5_isTrue_X5_nearOf
theorem adX5_isTrue_0 : fd_rows (cX5_isTrue.data.toList.drop 0) 0 [(0, some (.aload_n 1), 1), (1, some (.iconst 0), 1), (2, some (.iaload), 1), (3, some (.invokestatic 85), 3), (6, some (.astore_n 2), 1), (7, some (.aload_n 0), 1), (8, some (.aload_n 1), 1), (9, some (.iconst 0), 1), (10, some (.invokevirtual 96), 3), (13, some (.istore_n 3), 1), (14, some (.aload_n 0), 1), (15, some (.aload_n 2), 1), (16, some (.iconst 0), 1), (17, some (.invokevirtual 96), 3), (20, some (.istore 4), 2), (22, some (.iload 4), 2)] = true := by decide +kernel
theorem adX5_isTrue_1 : fd_rows (cX5_isTrue.data.toList.drop 24) 24 [(24, some (.sipush (-10000)), 3), (27, some (.if_icmp .eq 45), 3), (30, some (.aload_n 0), 1), (31, some (.aload_n 1), 1), (32, some (.iload 4), 2), (34, some (.invokevirtual 70), 3), (37, some (.ifCond .ne 6), 3), (40, some (.goto 19), 3), (43, some (.iload 4), 2), (45, some (.iload_n 3), 1), (46, some (.if_icmp .eq 5), 3), (49, some (.iconst 0), 1), (50, some (.ireturn), 1), (51, some (.aload_n 0), 1), (52, some (.aload_n 1), 1), (53, some (.iload_n 3), 1)] = true := by decide +kernel
theorem adX5_isTrue_2 : fd_rows (cX5_isTrue.data.toList.drop 54) 54 [(54, some (.iconst 3), 1), (55, some (.invokevirtual 115), 3), (58, some (.istore_n 3), 1), (59, some (.aload_n 0), 1), (60, some (.aload_n 2), 1), (61, some (.iload 4), 2), (63, some (.iconst 3), 1), (64, some (.invokevirtual 115), 3), (67, some (.istore 4), 2), (69, some (.goto (-47)), 3), (72, some (.iload_n 3), 1), (73, some (.sipush (-10000)), 3), (76, some (.if_icmp .ne 7), 3), (79, some (.iconst 1), 1), (80, some (.goto 4), 3), (83, some (.iconst 0), 1)] = true := by decide +kernel
theorem adX5_isTrue_3 : fd_rows (cX5_isTrue.data.toList.drop 84) 84 [(84, some (.ireturn), 1)] = true := by decide +kernel
theorem dX5_isTrue_0 : decode cX5_isTrue 0 = .ok (.aload_n 1, 1) := fd_get adX5_isTrue_0 (k := 0) rfl
theorem dX5_isTrue_1 : decode cX5_isTrue 1 = .ok (.iconst 0, 1) := fd_get adX5_isTrue_0 (k := 1) rfl
theorem dX5_isTrue_2 : decode cX5_isTrue 2 = .ok (.iaload, 1) := fd_get adX5_isTrue_0 (k := 2) rfl
theorem dX5_isTrue_3 : decode cX5_isTrue 3 = .ok (.invokestatic 85, 3) := fd_get adX5_isTrue_0 (k := 3) rfl
theorem dX5_isTrue_6 : decode cX5_isTrue 6 = .ok (.astore_n 2, 1) := fd_get adX5_isTrue_0 (k := 4) rfl
theorem dX5_isTrue_7 : decode cX5_isTrue 7 = .ok (.aload_n 0, 1) := fd_get adX5_isTrue_0 (k := 5) rfl
theorem dX5_isTrue_8 : decode cX5_isTrue 8 = .ok (.aload_n 1, 1) := fd_get adX5_isTrue_0 (k := 6) rfl
theorem dX5_isTrue_9 : decode cX5_isTrue 9 = .ok (.iconst 0, 1) := fd_get adX5_isTrue_0 (k := 7) rfl
theorem dX5_isTrue_10 : decode cX5_isTrue 10 = .ok (.invokevirtual 96, 3) := fd_get adX5_isTrue_0 (k := 8) rfl
theorem dX5_isTrue_13 : decode cX5_isTrue 13 = .ok (.istore_n 3, 1) := fd_get adX5_isTrue_0 (k := 9) rfl
theorem dX5_isTrue_14 : decode cX5_isTrue 14 = .ok (.aload_n 0, 1) := fd_get adX5_isTrue_0 (k := 10) rfl
theorem dX5_isTrue_15 : decode cX5_isTrue 15 = .ok (.aload_n 2, 1) := fd_get adX5_isTrue_0 (k := 11) rfl
theorem dX5_isTrue_16 : decode cX5_isTrue 16 = .ok (.iconst 0, 1) := fd_get adX5_isTrue_0 (k := 12) rfl
theorem dX5_isTrue_17 : decode cX5_isTrue 17 = .ok (.invokevirtual 96, 3) := fd_get adX5_isTrue_0 (k := 13) rfl
theorem dX5_isTrue_20 : decode cX5_isTrue 20 = .ok (.istore 4, 2) := fd_get adX5_isTrue_0 (k := 14) rfl
theorem dX5_isTrue_22 : decode cX5_isTrue 22 = .ok (.iload 4, 2) := fd_get adX5_isTrue_0 (k := 15) rfl
theorem dX5_isTrue_24 : decode cX5_isTrue 24 = .ok (.sipush (-10000), 3) := fd_get adX5_isTrue_1 (k := 0) rfl
theorem dX5_isTrue_27 : decode cX5_isTrue 27 = .ok (.if_icmp .eq 45, 3) := fd_get adX5_isTrue_1 (k := 1) rfl
theorem dX5_isTrue_30 : decode cX5_isTrue 30 = .ok (.aload_n 0, 1) := fd_get adX5_isTrue_1 (k := 2) rfl
theorem dX5_isTrue_31 : decode cX5_isTrue 31 = .ok (.aload_n 1, 1) := fd_get adX5_isTrue_1 (k := 3) rfl
theorem dX5_isTrue_32 : decode cX5_isTrue 32 = .ok (.iload 4, 2) := fd_get adX5_isTrue_1 (k := 4) rfl
theorem dX5_isTrue_34 : decode cX5_isTrue 34 = .ok (.invokevirtual 70, 3) := fd_get adX5_isTrue_1 (k := 5) rfl
theorem dX5_isTrue_37 : decode cX5_isTrue 37 = .ok (.ifCond .ne 6, 3) := fd_get adX5_isTrue_1 (k := 6) rfl
theorem dX5_isTrue_40 : decode cX5_isTrue 40 = .ok (.goto 19, 3) := fd_get adX5_isTrue_1 (k := 7) rfl
theorem dX5_isTrue_43 : decode cX5_isTrue 43 = .ok (.iload 4, 2) := fd_get adX5_isTrue_1 (k := 8) rfl
theorem dX5_isTrue_45 : decode cX5_isTrue 45 = .ok (.iload_n 3, 1) := fd_get adX5_isTrue_1 (k := 9) rfl
theorem dX5_isTrue_46 : decode cX5_isTrue 46 = .ok (.if_icmp .eq 5, 3) := fd_get adX5_isTrue_1 (k := 10) rfl
theorem dX5_isTrue_49 : decode cX5_isTrue 49 = .ok (.iconst 0, 1) := fd_get adX5_isTrue_1 (k := 11) rfl
theorem dX5_isTrue_50 : decode cX5_isTrue 50 = .ok (.ireturn, 1) := fd_get adX5_isTrue_1 (k := 12) rfl
theorem dX5_isTrue_51 : decode cX5_isTrue 51 = .ok (.aload_n 0, 1) := fd_get adX5_isTrue_1 (k := 13) rfl
theorem dX5_isTrue_52 : decode cX5_isTrue 52 = .ok (.aload_n 1, 1) := fd_get adX5_isTrue_1 (k := 14) rfl
theorem dX5_isTrue_53 : decode cX5_isTrue 53 = .ok (.iload_n 3, 1) := fd_get adX5_isTrue_1 (k := 15) rfl
theorem dX5_isTrue_54 : decode cX5_isTrue 54 = .ok (.iconst 3, 1) := fd_get adX5_isTrue_2 (k := 0) rfl
theorem dX5_isTrue_55 : decode cX5_isTrue 55 = .ok (.invokevirtual 115, 3) := fd_get adX5_isTrue_2 (k := 1) rfl
theorem dX5_isTrue_58 : decode cX5_isTrue 58 = .ok (.istore_n 3, 1) := fd_get adX5_isTrue_2 (k := 2) rfl
theorem dX5_isTrue_59 : decode cX5_isTrue 59 = .ok (.aload_n 0, 1) := fd_get adX5_isTrue_2 (k := 3) rfl
theorem dX5_isTrue_60 : decode cX5_isTrue 60 = .ok (.aload_n 2, 1) := fd_get adX5_isTrue_2 (k := 4) rfl
theorem dX5_isTrue_61 : decode cX5_isTrue 61 = .ok (.iload 4, 2) := fd_get adX5_isTrue_2 (k := 5) rfl
theorem dX5_isTrue_63 : decode cX5_isTrue 63 = .ok (.iconst 3, 1) := fd_get adX5_isTrue_2 (k := 6) rfl
theorem dX5_isTrue_64 : decode cX5_isTrue 64 = .ok (.invokevirtual 115, 3) := fd_get adX5_isTrue_2 (k := 7) rfl
theorem dX5_isTrue_67 : decode cX5_isTrue 67 = .ok (.istore 4, 2) := fd_get adX5_isTrue_2 (k := 8) rfl
theorem dX5_isTrue_69 : decode cX5_isTrue 69 = .ok (.goto (-47), 3) := fd_get adX5_isTrue_2 (k := 9) rfl
theorem dX5_isTrue_72 : decode cX5_isTrue 72 = .ok (.iload_n 3, 1) := fd_get adX5_isTrue_2 (k := 10) rfl
theorem dX5_isTrue_73 : decode cX5_isTrue 73 = .ok (.sipush (-10000), 3) := fd_get adX5_isTrue_2 (k := 11) rfl
theorem dX5_isTrue_76 : decode cX5_isTrue 76 = .ok (.if_icmp .ne 7, 3) := fd_get adX5_isTrue_2 (k := 12) rfl
theorem dX5_isTrue_79 : decode cX5_isTrue 79 = .ok (.iconst 1, 1) := fd_get adX5_isTrue_2 (k := 13) rfl
theorem dX5_isTrue_80 : decode cX5_isTrue 80 = .ok (.goto 4, 3) := fd_get adX5_isTrue_2 (k := 14) rfl
theorem dX5_isTrue_83 : decode cX5_isTrue 83 = .ok (.iconst 0, 1) := fd_get adX5_isTrue_2 (k := 15) rfl
theorem dX5_isTrue_84 : decode cX5_isTrue 84 = .ok (.ireturn, 1) := fd_get adX5_isTrue_3 (k := 0) rfl
theorem mwsX5_isWhole_0 : ∀ w ∈ wsX5_isWhole_r1, w ∈ wsX5_isWhole := fun w h => (List.mem_cons_of_mem _ (List.mem_append_left _ (List.mem_append_left _ h)))
theorem mwsX5_isWhole_1 : ∀ w ∈ wsX5_isWhole_r2, w ∈ wsX5_isWhole := fun w h => (List.mem_cons_of_mem _ (List.mem_append_left _ (List.mem_append_right _ (List.mem_append_left _ h))))
theorem mwsX5_isWhole_2 : ∀ w ∈ wsX5_isWhole_r3, w ∈ wsX5_isWhole := fun w h => (List.mem_cons_of_mem _ (List.mem_append_left _ (List.mem_append_right _ (List.mem_append_right _ h))))
theorem mwsX5_isWhole_3 : ∀ w ∈ wsX50, w ∈ wsX5_isWhole := fun w h => (List.mem_cons_of_mem _ (List.mem_append_right _ h))
set_option maxRecDepth 20000 in
theorem ggX5_isWhole_X5_isTrue : GoodIn wsX5_isWhole wsX5_isTrue := goodIn_sub (List.forall_mem_cons.mpr ⟨(mwsX5_isWhole_0 _ (List.mem_of_getElem? (i := 5) rfl)), (List.forall_mem_cons.mpr ⟨(mwsX5_isWhole_0 _ (List.mem_of_getElem? (i := 6) rfl)), (List.forall_mem_cons.mpr ⟨(mwsX5_isWhole_0 _ (List.mem_of_getElem? (i := 7) rfl)), (List.forall_mem_cons.mpr ⟨(mwsX5_isWhole_0 _ (List.mem_of_getElem? (i := 4) rfl)), (tk_mem 16 _ (fun w h => (mwsX5_isWhole_0 _ (tkB_mem 8 16 h))) (tk_mem 13 _ (fun w h => (mwsX5_isWhole_1 _ (tkB_mem 0 13 h))) (tk_mem 13 _ (fun w h => (mwsX5_isWhole_3 _ (tkB_mem 0 13 h))) (fun _ h => absurd h List.not_mem_nil))))⟩)⟩)⟩)⟩) (by decide +kernel)
set_option maxRecDepth 20000 in
theorem gX5_isWhole_X5_isTrue : GoodIn wsX5_isWhole (wsV RX5 225 RX5 yX5_isTrue wsX5_isTrue) := goodIn_app (goodIn_sub (tk_mem 4 _ (fun w h => (mwsX5_isWhole_0 _ (tkB_mem 1 4 h))) (fun _ h => absurd h List.not_mem_nil)) (by decide +kernel)) ggX5_isWhole_X5_isTrue
set_option maxRecDepth 20000 in
theorem ggX5_isWhole_X5_whole : GoodIn wsX5_isWhole wsX5_whole := goodIn_sub (List.forall_mem_cons.mpr ⟨(mwsX5_isWhole_0 _ (List.mem_of_getElem? (i := 8) rfl)), (List.forall_mem_cons.mpr ⟨(mwsX5_isWhole_0 _ (List.mem_of_getElem? (i := 9) rfl)), (fun _ h => absurd h List.not_mem_nil)⟩)⟩) (by decide +kernel)
set_option maxRecDepth 20000 in
theorem gX5_isWhole_X5_whole : GoodIn wsX5_isWhole (va_wsS RX5 85 yX5_whole wsX5_whole) := goodIn_app (goodIn_sub (List.forall_mem_cons.mpr ⟨(mwsX5_isWhole_0 _ (List.mem_of_getElem? (i := 6) rfl)), (List.forall_mem_cons.mpr ⟨(mwsX5_isWhole_0 _ (List.mem_of_getElem? (i := 7) rfl)), (List.forall_mem_cons.mpr ⟨(mwsX5_isWhole_0 _ (List.mem_of_getElem? (i := 4) rfl)), (fun _ h => absurd h List.not_mem_nil)⟩)⟩)⟩) (by decide +kernel)) ggX5_isWhole_X5_whole
set_option maxRecDepth 20000 in
theorem ggX5_isWhole_X5_end : GoodIn wsX5_isWhole wsX5_end := goodIn_sub (tk_mem 4 _ (fun w h => (mwsX5_isWhole_0 _ (tkB_mem 13 4 h))) (List.forall_mem_cons.mpr ⟨(mwsX5_isWhole_0 _ (List.mem_of_getElem? (i := 4) rfl)), (tk_mem 7 _ (fun w h => (mwsX5_isWhole_0 _ (tkB_mem 17 7 h))) (tk_mem 9 _ (fun w h => (mwsX5_isWhole_1 _ (tkB_mem 0 9 h))) (tk_mem 13 _ (fun w h => (mwsX5_isWhole_3 _ (tkB_mem 0 13 h))) (fun _ h => absurd h List.not_mem_nil))))⟩)) (by decide +kernel)
set_option maxRecDepth 20000 in
theorem gX5_isWhole_X5_end : GoodIn wsX5_isWhole (wsV RX5 96 RX5 yX5_end wsX5_end) := goodIn_app (goodIn_sub (List.forall_mem_cons.mpr ⟨(mwsX5_isWhole_0 _ (List.mem_of_getElem? (i := 10) rfl)), (List.forall_mem_cons.mpr ⟨(mwsX5_isWhole_0 _ (List.mem_of_getElem? (i := 11) rfl)), (List.forall_mem_cons.mpr ⟨(mwsX5_isWhole_0 _ (List.mem_of_getElem? (i := 12) rfl)), (List.forall_mem_cons.mpr ⟨(mwsX5_isWhole_0 _ (List.mem_of_getElem? (i := 4) rfl)), (fun _ h => absurd h List.not_mem_nil)⟩)⟩)⟩)⟩) (by decide +kernel)) ggX5_isWhole_X5_end
set_option maxRecDepth 20000 in
theorem ggX5_isWhole_X5_weight : GoodIn wsX5_isWhole wsX5_weight := goodIn_sub (List.forall_mem_cons.mpr ⟨(mwsX5_isWhole_1 _ (List.mem_of_getElem? (i := 6) rfl)), (List.forall_mem_cons.mpr ⟨(mwsX5_isWhole_1 _ (List.mem_of_getElem? (i := 7) rfl)), (List.forall_mem_cons.mpr ⟨(mwsX5_isWhole_1 _ (List.mem_of_getElem? (i := 8) rfl)), (tk_mem 13 _ (fun w h => (mwsX5_isWhole_3 _ (tkB_mem 0 13 h))) (fun _ h => absurd h List.not_mem_nil))⟩)⟩)⟩) (by decide +kernel)
set_option maxRecDepth 20000 in
theorem gX5_isWhole_X5_weight : GoodIn wsX5_isWhole (wsV RX5 66 RX5 yX5_weight wsX5_weight) := goodIn_app (goodIn_sub (List.forall_mem_cons.mpr ⟨(mwsX5_isWhole_1 _ (List.mem_of_getElem? (i := 3) rfl)), (List.forall_mem_cons.mpr ⟨(mwsX5_isWhole_1 _ (List.mem_of_getElem? (i := 4) rfl)), (List.forall_mem_cons.mpr ⟨(mwsX5_isWhole_1 _ (List.mem_of_getElem? (i := 5) rfl)), (List.forall_mem_cons.mpr ⟨(mwsX5_isWhole_0 _ (List.mem_of_getElem? (i := 4) rfl)), (fun _ h => absurd h List.not_mem_nil)⟩)⟩)⟩)⟩) (by decide +kernel)) ggX5_isWhole_X5_weight
set_option maxRecDepth 20000 in
theorem ggX5_isWhole_X5_nearOf : GoodIn wsX5_isWhole wsX5_nearOf := goodIn_sub (List.forall_mem_cons.mpr ⟨(mwsX5_isWhole_1 _ (List.mem_of_getElem? (i := 12) rfl)), (List.forall_mem_cons.mpr ⟨(mwsX5_isWhole_1 _ (List.mem_of_getElem? (i := 3) rfl)), (List.forall_mem_cons.mpr ⟨(mwsX5_isWhole_1 _ (List.mem_of_getElem? (i := 4) rfl)), (List.forall_mem_cons.mpr ⟨(mwsX5_isWhole_1 _ (List.mem_of_getElem? (i := 5) rfl)), (List.forall_mem_cons.mpr ⟨(mwsX5_isWhole_0 _ (List.mem_of_getElem? (i := 4) rfl)), (List.forall_mem_cons.mpr ⟨(mwsX5_isWhole_1 _ (List.mem_of_getElem? (i := 6) rfl)), (List.forall_mem_cons.mpr ⟨(mwsX5_isWhole_1 _ (List.mem_of_getElem? (i := 7) rfl)), (List.forall_mem_cons.mpr ⟨(mwsX5_isWhole_1 _ (List.mem_of_getElem? (i := 8) rfl)), (tk_mem 10 _ (fun w h => (mwsX5_isWhole_0 _ (tkB_mem 14 10 h))) (List.forall_mem_cons.mpr ⟨(mwsX5_isWhole_1 _ (List.mem_of_getElem? (i := 0) rfl)), (List.forall_mem_cons.mpr ⟨(mwsX5_isWhole_1 _ (List.mem_of_getElem? (i := 1) rfl)), (List.forall_mem_cons.mpr ⟨(mwsX5_isWhole_1 _ (List.mem_of_getElem? (i := 2) rfl)), (tk_mem 13 _ (fun w h => (mwsX5_isWhole_3 _ (tkB_mem 0 13 h))) (fun _ h => absurd h List.not_mem_nil))⟩)⟩)⟩))⟩)⟩)⟩)⟩)⟩)⟩)⟩)⟩) (by decide +kernel)
set_option maxRecDepth 20000 in
theorem gX5_isWhole_X5_nearOf : GoodIn wsX5_isWhole (wsV RX5 115 RX5 yX5_nearOf wsX5_nearOf) := goodIn_app (goodIn_sub (List.forall_mem_cons.mpr ⟨(mwsX5_isWhole_1 _ (List.mem_of_getElem? (i := 9) rfl)), (List.forall_mem_cons.mpr ⟨(mwsX5_isWhole_1 _ (List.mem_of_getElem? (i := 10) rfl)), (List.forall_mem_cons.mpr ⟨(mwsX5_isWhole_1 _ (List.mem_of_getElem? (i := 11) rfl)), (List.forall_mem_cons.mpr ⟨(mwsX5_isWhole_0 _ (List.mem_of_getElem? (i := 4) rfl)), (fun _ h => absurd h List.not_mem_nil)⟩)⟩)⟩)⟩) (by decide +kernel)) ggX5_isWhole_X5_nearOf
set_option maxRecDepth 20000 in
theorem ggX5_isWhole_X5_ahead : GoodIn wsX5_isWhole wsX5_ahead := goodIn_sub (List.forall_mem_cons.mpr ⟨(mwsX5_isWhole_1 _ (List.mem_of_getElem? (i := 16) rfl)), (List.forall_mem_cons.mpr ⟨(mwsX5_isWhole_0 _ (List.mem_of_getElem? (i := 6) rfl)), (List.forall_mem_cons.mpr ⟨(mwsX5_isWhole_0 _ (List.mem_of_getElem? (i := 7) rfl)), (List.forall_mem_cons.mpr ⟨(mwsX5_isWhole_0 _ (List.mem_of_getElem? (i := 4) rfl)), (List.forall_mem_cons.mpr ⟨(mwsX5_isWhole_0 _ (List.mem_of_getElem? (i := 8) rfl)), (List.forall_mem_cons.mpr ⟨(mwsX5_isWhole_0 _ (List.mem_of_getElem? (i := 9) rfl)), (tk_mem 6 _ (fun w h => (mwsX5_isWhole_0 _ (tkB_mem 18 6 h))) (tk_mem 9 _ (fun w h => (mwsX5_isWhole_1 _ (tkB_mem 0 9 h))) (List.forall_mem_cons.mpr ⟨(mwsX5_isWhole_1 _ (List.mem_of_getElem? (i := 17) rfl)), (List.forall_mem_cons.mpr ⟨(mwsX5_isWhole_1 _ (List.mem_of_getElem? (i := 18) rfl)), (List.forall_mem_cons.mpr ⟨(mwsX5_isWhole_1 _ (List.mem_of_getElem? (i := 19) rfl)), (tk_mem 13 _ (fun w h => (mwsX5_isWhole_3 _ (tkB_mem 0 13 h))) (fun _ h => absurd h List.not_mem_nil))⟩)⟩)⟩)))⟩)⟩)⟩)⟩)⟩)⟩) (by decide +kernel)
set_option maxRecDepth 20000 in
theorem gX5_isWhole_X5_ahead : GoodIn wsX5_isWhole (wsV RX5 207 RX5 yX5_ahead wsX5_ahead) := goodIn_app (goodIn_sub (List.forall_mem_cons.mpr ⟨(mwsX5_isWhole_1 _ (List.mem_of_getElem? (i := 13) rfl)), (List.forall_mem_cons.mpr ⟨(mwsX5_isWhole_1 _ (List.mem_of_getElem? (i := 14) rfl)), (List.forall_mem_cons.mpr ⟨(mwsX5_isWhole_1 _ (List.mem_of_getElem? (i := 15) rfl)), (List.forall_mem_cons.mpr ⟨(mwsX5_isWhole_0 _ (List.mem_of_getElem? (i := 4) rfl)), (fun _ h => absurd h List.not_mem_nil)⟩)⟩)⟩)⟩) (by decide +kernel)) ggX5_isWhole_X5_ahead
set_option maxRecDepth 20000 in
theorem ggX5_isWhole_X5_areSame : GoodIn wsX5_isWhole wsX5_areSame := goodIn_sub (List.forall_mem_cons.mpr ⟨(mwsX5_isWhole_1 _ (List.mem_of_getElem? (i := 23) rfl)), (List.forall_mem_cons.mpr ⟨(mwsX5_isWhole_0 _ (List.mem_of_getElem? (i := 22) rfl)), (tk_mem 13 _ (fun w h => (mwsX5_isWhole_3 _ (tkB_mem 0 13 h))) (fun _ h => absurd h List.not_mem_nil))⟩)⟩) (by decide +kernel)
set_option maxRecDepth 20000 in
theorem gX5_isWhole_X5_areSame : GoodIn wsX5_isWhole (wsV RX5 216 RX5 yX5_areSame wsX5_areSame) := goodIn_app (goodIn_sub (List.forall_mem_cons.mpr ⟨(mwsX5_isWhole_1 _ (List.mem_of_getElem? (i := 20) rfl)), (List.forall_mem_cons.mpr ⟨(mwsX5_isWhole_1 _ (List.mem_of_getElem? (i := 21) rfl)), (List.forall_mem_cons.mpr ⟨(mwsX5_isWhole_1 _ (List.mem_of_getElem? (i := 22) rfl)), (List.forall_mem_cons.mpr ⟨(mwsX5_isWhole_0 _ (List.mem_of_getElem? (i := 4) rfl)), (fun _ h => absurd h List.not_mem_nil)⟩)⟩)⟩)⟩) (by decide +kernel)) ggX5_isWhole_X5_areSame
set_option maxRecDepth 20000 in
theorem ggX5_isWhole_X5_many : GoodIn wsX5_isWhole wsX5_many := goodIn_sub (List.forall_mem_cons.mpr ⟨(mwsX5_isWhole_2 _ (List.mem_of_getElem? (i := 3) rfl)), (List.forall_mem_cons.mpr ⟨(mwsX5_isWhole_0 _ (List.mem_of_getElem? (i := 18) rfl)), (List.forall_mem_cons.mpr ⟨(mwsX5_isWhole_0 _ (List.mem_of_getElem? (i := 19) rfl)), (List.forall_mem_cons.mpr ⟨(mwsX5_isWhole_0 _ (List.mem_of_getElem? (i := 20) rfl)), (List.forall_mem_cons.mpr ⟨(mwsX5_isWhole_0 _ (List.mem_of_getElem? (i := 4) rfl)), (List.forall_mem_cons.mpr ⟨(mwsX5_isWhole_0 _ (List.mem_of_getElem? (i := 21) rfl)), (List.forall_mem_cons.mpr ⟨(mwsX5_isWhole_0 _ (List.mem_of_getElem? (i := 22) rfl)), (List.forall_mem_cons.mpr ⟨(mwsX5_isWhole_0 _ (List.mem_of_getElem? (i := 23) rfl)), (tk_mem 9 _ (fun w h => (mwsX5_isWhole_1 _ (tkB_mem 0 9 h))) (List.forall_mem_cons.mpr ⟨(mwsX5_isWhole_1 _ (List.mem_of_getElem? (i := 17) rfl)), (List.forall_mem_cons.mpr ⟨(mwsX5_isWhole_1 _ (List.mem_of_getElem? (i := 18) rfl)), (List.forall_mem_cons.mpr ⟨(mwsX5_isWhole_1 _ (List.mem_of_getElem? (i := 19) rfl)), (tk_mem 13 _ (fun w h => (mwsX5_isWhole_3 _ (tkB_mem 0 13 h))) (fun _ h => absurd h List.not_mem_nil))⟩)⟩)⟩))⟩)⟩)⟩)⟩)⟩)⟩)⟩)⟩) (by decide +kernel)
set_option maxRecDepth 20000 in
theorem gX5_isWhole_X5_many : GoodIn wsX5_isWhole (wsV RX5 163 RX5 yX5_many wsX5_many) := goodIn_app (goodIn_sub (List.forall_mem_cons.mpr ⟨(mwsX5_isWhole_2 _ (List.mem_of_getElem? (i := 0) rfl)), (List.forall_mem_cons.mpr ⟨(mwsX5_isWhole_2 _ (List.mem_of_getElem? (i := 1) rfl)), (List.forall_mem_cons.mpr ⟨(mwsX5_isWhole_2 _ (List.mem_of_getElem? (i := 2) rfl)), (List.forall_mem_cons.mpr ⟨(mwsX5_isWhole_0 _ (List.mem_of_getElem? (i := 4) rfl)), (fun _ h => absurd h List.not_mem_nil)⟩)⟩)⟩)⟩) (by decide +kernel)) ggX5_isWhole_X5_many
set_option maxRecDepth 20000 in
theorem ggX5_isWhole_X5_sum : GoodIn wsX5_isWhole wsX5_sum := goodIn_sub (List.forall_mem_cons.mpr ⟨(mwsX5_isWhole_2 _ (List.mem_of_getElem? (i := 7) rfl)), (List.forall_mem_cons.mpr ⟨(mwsX5_isWhole_0 _ (List.mem_of_getElem? (i := 22) rfl)), (List.forall_mem_cons.mpr ⟨(mwsX5_isWhole_0 _ (List.mem_of_getElem? (i := 18) rfl)), (List.forall_mem_cons.mpr ⟨(mwsX5_isWhole_0 _ (List.mem_of_getElem? (i := 19) rfl)), (List.forall_mem_cons.mpr ⟨(mwsX5_isWhole_0 _ (List.mem_of_getElem? (i := 20) rfl)), (List.forall_mem_cons.mpr ⟨(mwsX5_isWhole_0 _ (List.mem_of_getElem? (i := 4) rfl)), (List.forall_mem_cons.mpr ⟨(mwsX5_isWhole_0 _ (List.mem_of_getElem? (i := 21) rfl)), (List.forall_mem_cons.mpr ⟨(mwsX5_isWhole_0 _ (List.mem_of_getElem? (i := 23) rfl)), (tk_mem 9 _ (fun w h => (mwsX5_isWhole_1 _ (tkB_mem 0 9 h))) (tk_mem 13 _ (fun w h => (mwsX5_isWhole_3 _ (tkB_mem 0 13 h))) (fun _ h => absurd h List.not_mem_nil)))⟩)⟩)⟩)⟩)⟩)⟩)⟩)⟩) (by decide +kernel)
set_option maxRecDepth 20000 in
theorem gX5_isWhole_X5_sum : GoodIn wsX5_isWhole (wsV RX5 192 RX5 yX5_sum wsX5_sum) := goodIn_app (goodIn_sub (List.forall_mem_cons.mpr ⟨(mwsX5_isWhole_2 _ (List.mem_of_getElem? (i := 4) rfl)), (List.forall_mem_cons.mpr ⟨(mwsX5_isWhole_2 _ (List.mem_of_getElem? (i := 5) rfl)), (List.forall_mem_cons.mpr ⟨(mwsX5_isWhole_2 _ (List.mem_of_getElem? (i := 6) rfl)), (List.forall_mem_cons.mpr ⟨(mwsX5_isWhole_0 _ (List.mem_of_getElem? (i := 4) rfl)), (fun _ h => absurd h List.not_mem_nil)⟩)⟩)⟩)⟩) (by decide +kernel)) ggX5_isWhole_X5_sum
theorem adX5_isWhole_0 : fd_rows (cX5_isWhole.data.toList.drop 0) 0 [(0, some (.aload_n 0), 1), (1, some (.getfield 22), 3), (4, some (.astore_n 1), 1), (5, some (.aload_n 1), 1), (6, some (.arraylength), 1), (7, some (.istore_n 2), 1), (8, some (.iconst 0), 1), (9, some (.istore_n 3), 1), (10, some (.iload_n 3), 1), (11, some (.iload_n 2), 1), (12, some (.if_icmp .ge 30), 3), (15, some (.aload_n 1), 1), (16, some (.iload_n 3), 1), (17, some (.aaload), 1), (18, some (.astore 4), 2), (20, some (.aload 4), 2)] = true := by decide +kernel
theorem adX5_isWhole_1 : fd_rows (cX5_isWhole.data.toList.drop 22) 22 [(22, some (.ifnull 14), 3), (25, some (.aload_n 0), 1), (26, some (.aload 4), 2), (28, some (.invokevirtual 225), 3), (31, some (.ifCond .ne 5), 3), (34, some (.iconst 0), 1), (35, some (.ireturn), 1), (36, some (.iinc 3 1), 3), (39, some (.goto (-29)), 3), (42, some (.iconst 0), 1), (43, some (.istore_n 1), 1), (44, some (.iload_n 1), 1), (45, some (.iconst 3), 1), (46, some (.if_icmp .ge 166), 3), (49, some (.iload_n 1), 1), (50, some (.invokestatic 85), 3)] = true := by decide +kernel
theorem adX5_isWhole_2 : fd_rows (cX5_isWhole.data.toList.drop 53) 53 [(53, some (.astore_n 2), 1), (54, some (.sipush (-10000)), 3), (57, some (.istore_n 3), 1), (58, some (.iconst 0), 1), (59, some (.istore 4), 2), (61, some (.aload_n 0), 1), (62, some (.aload_n 2), 1), (63, some (.iconst 0), 1), (64, some (.invokevirtual 96), 3), (67, some (.istore 5), 2), (69, some (.iload 5), 2), (71, some (.sipush (-10000)), 3), (74, some (.if_icmp .eq 71), 3), (77, some (.iload_n 3), 1), (78, some (.sipush (-10000)), 3), (81, some (.if_icmp .eq 19), 3)] = true := by decide +kernel
theorem adX5_isWhole_3 : fd_rows (cX5_isWhole.data.toList.drop 84) 84 [(84, some (.aload_n 0), 1), (85, some (.aload_n 2), 1), (86, some (.iload_n 3), 1), (87, some (.invokevirtual 66), 3), (90, some (.aload_n 0), 1), (91, some (.aload_n 2), 1), (92, some (.iload 5), 2), (94, some (.invokevirtual 66), 3), (97, some (.if_icmp .ge 27), 3), (100, some (.aload_n 0), 1), (101, some (.aload_n 2), 1), (102, some (.iload 5), 2), (104, some (.iconst 0), 1), (105, some (.invokevirtual 115), 3), (108, some (.iload_n 3), 1), (109, some (.if_icmp .ne 15), 3)] = true := by decide +kernel
theorem adX5_isWhole_4 : fd_rows (cX5_isWhole.data.toList.drop 112) 112 [(112, some (.aload_n 0), 1), (113, some (.iload_n 1), 1), (114, some (.iload 5), 2), (116, some (.invokevirtual 207), 3), (119, some (.iload 4), 2), (121, some (.if_icmp .eq 5), 3), (124, some (.iconst 0), 1), (125, some (.ireturn), 1), (126, some (.iload 5), 2), (128, some (.istore_n 3), 1), (129, some (.iinc 4 1), 3), (132, some (.aload_n 0), 1), (133, some (.aload_n 2), 1), (134, some (.iload 5), 2), (136, some (.iconst 3), 1), (137, some (.invokevirtual 115), 3)] = true := by decide +kernel
theorem adX5_isWhole_5 : fd_rows (cX5_isWhole.data.toList.drop 140) 140 [(140, some (.istore 5), 2), (142, some (.goto (-73)), 3), (145, some (.iconst 0), 1), (146, some (.istore 5), 2), (148, some (.iload 5), 2), (150, some (.iconst 3), 1), (151, some (.if_icmp .ge 55), 3), (154, some (.aload_n 0), 1), (155, some (.iload_n 1), 1), (156, some (.iload 5), 2), (158, some (.invokevirtual 216), 3), (161, some (.ifCond .eq 39), 3), (164, some (.aload_n 0), 1), (165, some (.aload_n 2), 1), (166, some (.invokevirtual 163), 3), (169, some (.aload_n 0), 1)] = true := by decide +kernel
theorem adX5_isWhole_6 : fd_rows (cX5_isWhole.data.toList.drop 170) 170 [(170, some (.iload 5), 2), (172, some (.invokestatic 85), 3), (175, some (.invokevirtual 163), 3), (178, some (.if_icmp .ne 20), 3), (181, some (.aload_n 0), 1), (182, some (.aload_n 2), 1), (183, some (.invokevirtual 192), 3), (186, some (.aload_n 0), 1), (187, some (.iload 5), 2), (189, some (.invokestatic 85), 3), (192, some (.invokevirtual 192), 3), (195, some (.if_icmp .eq 5), 3), (198, some (.iconst 0), 1), (199, some (.ireturn), 1), (200, some (.iinc 5 1), 3), (203, some (.goto (-55)), 3)] = true := by decide +kernel
theorem adX5_isWhole_7 : fd_rows (cX5_isWhole.data.toList.drop 206) 206 [(206, some (.iinc 1 1), 3), (209, some (.goto (-165)), 3), (212, some (.iconst 1), 1), (213, some (.ireturn), 1)] = true := by decide +kernel
theorem dX5_isWhole_0 : decode cX5_isWhole 0 = .ok (.aload_n 0, 1) := fd_get adX5_isWhole_0 (k := 0) rfl
theorem dX5_isWhole_1 : decode cX5_isWhole 1 = .ok (.getfield 22, 3) := fd_get adX5_isWhole_0 (k := 1) rfl
theorem dX5_isWhole_4 : decode cX5_isWhole 4 = .ok (.astore_n 1, 1) := fd_get adX5_isWhole_0 (k := 2) rfl
theorem dX5_isWhole_5 : decode cX5_isWhole 5 = .ok (.aload_n 1, 1) := fd_get adX5_isWhole_0 (k := 3) rfl
theorem dX5_isWhole_6 : decode cX5_isWhole 6 = .ok (.arraylength, 1) := fd_get adX5_isWhole_0 (k := 4) rfl
theorem dX5_isWhole_7 : decode cX5_isWhole 7 = .ok (.istore_n 2, 1) := fd_get adX5_isWhole_0 (k := 5) rfl
theorem dX5_isWhole_8 : decode cX5_isWhole 8 = .ok (.iconst 0, 1) := fd_get adX5_isWhole_0 (k := 6) rfl
theorem dX5_isWhole_9 : decode cX5_isWhole 9 = .ok (.istore_n 3, 1) := fd_get adX5_isWhole_0 (k := 7) rfl
theorem dX5_isWhole_10 : decode cX5_isWhole 10 = .ok (.iload_n 3, 1) := fd_get adX5_isWhole_0 (k := 8) rfl
theorem dX5_isWhole_11 : decode cX5_isWhole 11 = .ok (.iload_n 2, 1) := fd_get adX5_isWhole_0 (k := 9) rfl
theorem dX5_isWhole_12 : decode cX5_isWhole 12 = .ok (.if_icmp .ge 30, 3) := fd_get adX5_isWhole_0 (k := 10) rfl
theorem dX5_isWhole_15 : decode cX5_isWhole 15 = .ok (.aload_n 1, 1) := fd_get adX5_isWhole_0 (k := 11) rfl
theorem dX5_isWhole_16 : decode cX5_isWhole 16 = .ok (.iload_n 3, 1) := fd_get adX5_isWhole_0 (k := 12) rfl
theorem dX5_isWhole_17 : decode cX5_isWhole 17 = .ok (.aaload, 1) := fd_get adX5_isWhole_0 (k := 13) rfl
theorem dX5_isWhole_18 : decode cX5_isWhole 18 = .ok (.astore 4, 2) := fd_get adX5_isWhole_0 (k := 14) rfl
theorem dX5_isWhole_20 : decode cX5_isWhole 20 = .ok (.aload 4, 2) := fd_get adX5_isWhole_0 (k := 15) rfl
theorem dX5_isWhole_22 : decode cX5_isWhole 22 = .ok (.ifnull 14, 3) := fd_get adX5_isWhole_1 (k := 0) rfl
theorem dX5_isWhole_25 : decode cX5_isWhole 25 = .ok (.aload_n 0, 1) := fd_get adX5_isWhole_1 (k := 1) rfl
theorem dX5_isWhole_26 : decode cX5_isWhole 26 = .ok (.aload 4, 2) := fd_get adX5_isWhole_1 (k := 2) rfl
theorem dX5_isWhole_28 : decode cX5_isWhole 28 = .ok (.invokevirtual 225, 3) := fd_get adX5_isWhole_1 (k := 3) rfl
theorem dX5_isWhole_31 : decode cX5_isWhole 31 = .ok (.ifCond .ne 5, 3) := fd_get adX5_isWhole_1 (k := 4) rfl
theorem dX5_isWhole_34 : decode cX5_isWhole 34 = .ok (.iconst 0, 1) := fd_get adX5_isWhole_1 (k := 5) rfl
theorem dX5_isWhole_35 : decode cX5_isWhole 35 = .ok (.ireturn, 1) := fd_get adX5_isWhole_1 (k := 6) rfl
theorem dX5_isWhole_36 : decode cX5_isWhole 36 = .ok (.iinc 3 1, 3) := fd_get adX5_isWhole_1 (k := 7) rfl
theorem dX5_isWhole_39 : decode cX5_isWhole 39 = .ok (.goto (-29), 3) := fd_get adX5_isWhole_1 (k := 8) rfl
theorem dX5_isWhole_42 : decode cX5_isWhole 42 = .ok (.iconst 0, 1) := fd_get adX5_isWhole_1 (k := 9) rfl
theorem dX5_isWhole_43 : decode cX5_isWhole 43 = .ok (.istore_n 1, 1) := fd_get adX5_isWhole_1 (k := 10) rfl
theorem dX5_isWhole_44 : decode cX5_isWhole 44 = .ok (.iload_n 1, 1) := fd_get adX5_isWhole_1 (k := 11) rfl
theorem dX5_isWhole_45 : decode cX5_isWhole 45 = .ok (.iconst 3, 1) := fd_get adX5_isWhole_1 (k := 12) rfl
theorem dX5_isWhole_46 : decode cX5_isWhole 46 = .ok (.if_icmp .ge 166, 3) := fd_get adX5_isWhole_1 (k := 13) rfl
theorem dX5_isWhole_49 : decode cX5_isWhole 49 = .ok (.iload_n 1, 1) := fd_get adX5_isWhole_1 (k := 14) rfl
theorem dX5_isWhole_50 : decode cX5_isWhole 50 = .ok (.invokestatic 85, 3) := fd_get adX5_isWhole_1 (k := 15) rfl
theorem dX5_isWhole_53 : decode cX5_isWhole 53 = .ok (.astore_n 2, 1) := fd_get adX5_isWhole_2 (k := 0) rfl
theorem dX5_isWhole_54 : decode cX5_isWhole 54 = .ok (.sipush (-10000), 3) := fd_get adX5_isWhole_2 (k := 1) rfl
theorem dX5_isWhole_57 : decode cX5_isWhole 57 = .ok (.istore_n 3, 1) := fd_get adX5_isWhole_2 (k := 2) rfl
theorem dX5_isWhole_58 : decode cX5_isWhole 58 = .ok (.iconst 0, 1) := fd_get adX5_isWhole_2 (k := 3) rfl
theorem dX5_isWhole_59 : decode cX5_isWhole 59 = .ok (.istore 4, 2) := fd_get adX5_isWhole_2 (k := 4) rfl
theorem dX5_isWhole_61 : decode cX5_isWhole 61 = .ok (.aload_n 0, 1) := fd_get adX5_isWhole_2 (k := 5) rfl
theorem dX5_isWhole_62 : decode cX5_isWhole 62 = .ok (.aload_n 2, 1) := fd_get adX5_isWhole_2 (k := 6) rfl
theorem dX5_isWhole_63 : decode cX5_isWhole 63 = .ok (.iconst 0, 1) := fd_get adX5_isWhole_2 (k := 7) rfl
theorem dX5_isWhole_64 : decode cX5_isWhole 64 = .ok (.invokevirtual 96, 3) := fd_get adX5_isWhole_2 (k := 8) rfl
theorem dX5_isWhole_67 : decode cX5_isWhole 67 = .ok (.istore 5, 2) := fd_get adX5_isWhole_2 (k := 9) rfl
theorem dX5_isWhole_69 : decode cX5_isWhole 69 = .ok (.iload 5, 2) := fd_get adX5_isWhole_2 (k := 10) rfl
theorem dX5_isWhole_71 : decode cX5_isWhole 71 = .ok (.sipush (-10000), 3) := fd_get adX5_isWhole_2 (k := 11) rfl
theorem dX5_isWhole_74 : decode cX5_isWhole 74 = .ok (.if_icmp .eq 71, 3) := fd_get adX5_isWhole_2 (k := 12) rfl
theorem dX5_isWhole_77 : decode cX5_isWhole 77 = .ok (.iload_n 3, 1) := fd_get adX5_isWhole_2 (k := 13) rfl
theorem dX5_isWhole_78 : decode cX5_isWhole 78 = .ok (.sipush (-10000), 3) := fd_get adX5_isWhole_2 (k := 14) rfl
theorem dX5_isWhole_81 : decode cX5_isWhole 81 = .ok (.if_icmp .eq 19, 3) := fd_get adX5_isWhole_2 (k := 15) rfl
theorem dX5_isWhole_84 : decode cX5_isWhole 84 = .ok (.aload_n 0, 1) := fd_get adX5_isWhole_3 (k := 0) rfl
theorem dX5_isWhole_85 : decode cX5_isWhole 85 = .ok (.aload_n 2, 1) := fd_get adX5_isWhole_3 (k := 1) rfl
theorem dX5_isWhole_86 : decode cX5_isWhole 86 = .ok (.iload_n 3, 1) := fd_get adX5_isWhole_3 (k := 2) rfl
theorem dX5_isWhole_87 : decode cX5_isWhole 87 = .ok (.invokevirtual 66, 3) := fd_get adX5_isWhole_3 (k := 3) rfl
theorem dX5_isWhole_90 : decode cX5_isWhole 90 = .ok (.aload_n 0, 1) := fd_get adX5_isWhole_3 (k := 4) rfl
theorem dX5_isWhole_91 : decode cX5_isWhole 91 = .ok (.aload_n 2, 1) := fd_get adX5_isWhole_3 (k := 5) rfl
theorem dX5_isWhole_92 : decode cX5_isWhole 92 = .ok (.iload 5, 2) := fd_get adX5_isWhole_3 (k := 6) rfl
theorem dX5_isWhole_94 : decode cX5_isWhole 94 = .ok (.invokevirtual 66, 3) := fd_get adX5_isWhole_3 (k := 7) rfl
theorem dX5_isWhole_97 : decode cX5_isWhole 97 = .ok (.if_icmp .ge 27, 3) := fd_get adX5_isWhole_3 (k := 8) rfl
theorem dX5_isWhole_100 : decode cX5_isWhole 100 = .ok (.aload_n 0, 1) := fd_get adX5_isWhole_3 (k := 9) rfl
theorem dX5_isWhole_101 : decode cX5_isWhole 101 = .ok (.aload_n 2, 1) := fd_get adX5_isWhole_3 (k := 10) rfl
theorem dX5_isWhole_102 : decode cX5_isWhole 102 = .ok (.iload 5, 2) := fd_get adX5_isWhole_3 (k := 11) rfl
theorem dX5_isWhole_104 : decode cX5_isWhole 104 = .ok (.iconst 0, 1) := fd_get adX5_isWhole_3 (k := 12) rfl
theorem dX5_isWhole_105 : decode cX5_isWhole 105 = .ok (.invokevirtual 115, 3) := fd_get adX5_isWhole_3 (k := 13) rfl
theorem dX5_isWhole_108 : decode cX5_isWhole 108 = .ok (.iload_n 3, 1) := fd_get adX5_isWhole_3 (k := 14) rfl
theorem dX5_isWhole_109 : decode cX5_isWhole 109 = .ok (.if_icmp .ne 15, 3) := fd_get adX5_isWhole_3 (k := 15) rfl
theorem dX5_isWhole_112 : decode cX5_isWhole 112 = .ok (.aload_n 0, 1) := fd_get adX5_isWhole_4 (k := 0) rfl
theorem dX5_isWhole_113 : decode cX5_isWhole 113 = .ok (.iload_n 1, 1) := fd_get adX5_isWhole_4 (k := 1) rfl
theorem dX5_isWhole_114 : decode cX5_isWhole 114 = .ok (.iload 5, 2) := fd_get adX5_isWhole_4 (k := 2) rfl
theorem dX5_isWhole_116 : decode cX5_isWhole 116 = .ok (.invokevirtual 207, 3) := fd_get adX5_isWhole_4 (k := 3) rfl
theorem dX5_isWhole_119 : decode cX5_isWhole 119 = .ok (.iload 4, 2) := fd_get adX5_isWhole_4 (k := 4) rfl
theorem dX5_isWhole_121 : decode cX5_isWhole 121 = .ok (.if_icmp .eq 5, 3) := fd_get adX5_isWhole_4 (k := 5) rfl
theorem dX5_isWhole_124 : decode cX5_isWhole 124 = .ok (.iconst 0, 1) := fd_get adX5_isWhole_4 (k := 6) rfl
theorem dX5_isWhole_125 : decode cX5_isWhole 125 = .ok (.ireturn, 1) := fd_get adX5_isWhole_4 (k := 7) rfl
theorem dX5_isWhole_126 : decode cX5_isWhole 126 = .ok (.iload 5, 2) := fd_get adX5_isWhole_4 (k := 8) rfl
theorem dX5_isWhole_128 : decode cX5_isWhole 128 = .ok (.istore_n 3, 1) := fd_get adX5_isWhole_4 (k := 9) rfl
theorem dX5_isWhole_129 : decode cX5_isWhole 129 = .ok (.iinc 4 1, 3) := fd_get adX5_isWhole_4 (k := 10) rfl
theorem dX5_isWhole_132 : decode cX5_isWhole 132 = .ok (.aload_n 0, 1) := fd_get adX5_isWhole_4 (k := 11) rfl
theorem dX5_isWhole_133 : decode cX5_isWhole 133 = .ok (.aload_n 2, 1) := fd_get adX5_isWhole_4 (k := 12) rfl
theorem dX5_isWhole_134 : decode cX5_isWhole 134 = .ok (.iload 5, 2) := fd_get adX5_isWhole_4 (k := 13) rfl
theorem dX5_isWhole_136 : decode cX5_isWhole 136 = .ok (.iconst 3, 1) := fd_get adX5_isWhole_4 (k := 14) rfl
theorem dX5_isWhole_137 : decode cX5_isWhole 137 = .ok (.invokevirtual 115, 3) := fd_get adX5_isWhole_4 (k := 15) rfl
theorem dX5_isWhole_140 : decode cX5_isWhole 140 = .ok (.istore 5, 2) := fd_get adX5_isWhole_5 (k := 0) rfl
theorem dX5_isWhole_142 : decode cX5_isWhole 142 = .ok (.goto (-73), 3) := fd_get adX5_isWhole_5 (k := 1) rfl
theorem dX5_isWhole_145 : decode cX5_isWhole 145 = .ok (.iconst 0, 1) := fd_get adX5_isWhole_5 (k := 2) rfl
theorem dX5_isWhole_146 : decode cX5_isWhole 146 = .ok (.istore 5, 2) := fd_get adX5_isWhole_5 (k := 3) rfl
theorem dX5_isWhole_148 : decode cX5_isWhole 148 = .ok (.iload 5, 2) := fd_get adX5_isWhole_5 (k := 4) rfl
theorem dX5_isWhole_150 : decode cX5_isWhole 150 = .ok (.iconst 3, 1) := fd_get adX5_isWhole_5 (k := 5) rfl
theorem dX5_isWhole_151 : decode cX5_isWhole 151 = .ok (.if_icmp .ge 55, 3) := fd_get adX5_isWhole_5 (k := 6) rfl
theorem dX5_isWhole_154 : decode cX5_isWhole 154 = .ok (.aload_n 0, 1) := fd_get adX5_isWhole_5 (k := 7) rfl
theorem dX5_isWhole_155 : decode cX5_isWhole 155 = .ok (.iload_n 1, 1) := fd_get adX5_isWhole_5 (k := 8) rfl
theorem dX5_isWhole_156 : decode cX5_isWhole 156 = .ok (.iload 5, 2) := fd_get adX5_isWhole_5 (k := 9) rfl
theorem dX5_isWhole_158 : decode cX5_isWhole 158 = .ok (.invokevirtual 216, 3) := fd_get adX5_isWhole_5 (k := 10) rfl
theorem dX5_isWhole_161 : decode cX5_isWhole 161 = .ok (.ifCond .eq 39, 3) := fd_get adX5_isWhole_5 (k := 11) rfl
theorem dX5_isWhole_164 : decode cX5_isWhole 164 = .ok (.aload_n 0, 1) := fd_get adX5_isWhole_5 (k := 12) rfl
theorem dX5_isWhole_165 : decode cX5_isWhole 165 = .ok (.aload_n 2, 1) := fd_get adX5_isWhole_5 (k := 13) rfl
theorem dX5_isWhole_166 : decode cX5_isWhole 166 = .ok (.invokevirtual 163, 3) := fd_get adX5_isWhole_5 (k := 14) rfl
theorem dX5_isWhole_169 : decode cX5_isWhole 169 = .ok (.aload_n 0, 1) := fd_get adX5_isWhole_5 (k := 15) rfl
theorem dX5_isWhole_170 : decode cX5_isWhole 170 = .ok (.iload 5, 2) := fd_get adX5_isWhole_6 (k := 0) rfl
theorem dX5_isWhole_172 : decode cX5_isWhole 172 = .ok (.invokestatic 85, 3) := fd_get adX5_isWhole_6 (k := 1) rfl
theorem dX5_isWhole_175 : decode cX5_isWhole 175 = .ok (.invokevirtual 163, 3) := fd_get adX5_isWhole_6 (k := 2) rfl
theorem dX5_isWhole_178 : decode cX5_isWhole 178 = .ok (.if_icmp .ne 20, 3) := fd_get adX5_isWhole_6 (k := 3) rfl
theorem dX5_isWhole_181 : decode cX5_isWhole 181 = .ok (.aload_n 0, 1) := fd_get adX5_isWhole_6 (k := 4) rfl
theorem dX5_isWhole_182 : decode cX5_isWhole 182 = .ok (.aload_n 2, 1) := fd_get adX5_isWhole_6 (k := 5) rfl
theorem dX5_isWhole_183 : decode cX5_isWhole 183 = .ok (.invokevirtual 192, 3) := fd_get adX5_isWhole_6 (k := 6) rfl
theorem dX5_isWhole_186 : decode cX5_isWhole 186 = .ok (.aload_n 0, 1) := fd_get adX5_isWhole_6 (k := 7) rfl
theorem dX5_isWhole_187 : decode cX5_isWhole 187 = .ok (.iload 5, 2) := fd_get adX5_isWhole_6 (k := 8) rfl
theorem dX5_isWhole_189 : decode cX5_isWhole 189 = .ok (.invokestatic 85, 3) := fd_get adX5_isWhole_6 (k := 9) rfl
theorem dX5_isWhole_192 : decode cX5_isWhole 192 = .ok (.invokevirtual 192, 3) := fd_get adX5_isWhole_6 (k := 10) rfl
theorem dX5_isWhole_195 : decode cX5_isWhole 195 = .ok (.if_icmp .eq 5, 3) := fd_get adX5_isWhole_6 (k := 11) rfl
theorem dX5_isWhole_198 : decode cX5_isWhole 198 = .ok (.iconst 0, 1) := fd_get adX5_isWhole_6 (k := 12) rfl
theorem dX5_isWhole_199 : decode cX5_isWhole 199 = .ok (.ireturn, 1) := fd_get adX5_isWhole_6 (k := 13) rfl
theorem dX5_isWhole_200 : decode cX5_isWhole 200 = .ok (.iinc 5 1, 3) := fd_get adX5_isWhole_6 (k := 14) rfl
theorem dX5_isWhole_203 : decode cX5_isWhole 203 = .ok (.goto (-55), 3) := fd_get adX5_isWhole_6 (k := 15) rfl
theorem dX5_isWhole_206 : decode cX5_isWhole 206 = .ok (.iinc 1 1, 3) := fd_get adX5_isWhole_7 (k := 0) rfl
theorem dX5_isWhole_209 : decode cX5_isWhole 209 = .ok (.goto (-165), 3) := fd_get adX5_isWhole_7 (k := 1) rfl
theorem dX5_isWhole_212 : decode cX5_isWhole 212 = .ok (.iconst 1, 1) := fd_get adX5_isWhole_7 (k := 2) rfl
theorem dX5_isWhole_213 : decode cX5_isWhole 213 = .ok (.ireturn, 1) := fd_get adX5_isWhole_7 (k := 3) rfl
theorem mwsX5_isSound_0 : ∀ w ∈ wsX5_isSound_r1, w ∈ wsX5_isSound := fun w h => (List.mem_cons_of_mem _ (List.mem_append_left _ (List.mem_append_left _ h)))
theorem mwsX5_isSound_1 : ∀ w ∈ wsX5_isSound_r2, w ∈ wsX5_isSound := fun w h => (List.mem_cons_of_mem _ (List.mem_append_left _ (List.mem_append_right _ (List.mem_append_left _ h))))
theorem mwsX5_isSound_2 : ∀ w ∈ wsX5_isSound_r3, w ∈ wsX5_isSound := fun w h => (List.mem_cons_of_mem _ (List.mem_append_left _ (List.mem_append_right _ (List.mem_append_right _ h))))
theorem mwsX5_isSound_3 : ∀ w ∈ wsX50, w ∈ wsX5_isSound := fun w h => (List.mem_cons_of_mem _ (List.mem_append_right _ h))
set_option maxRecDepth 20000 in
theorem ggX5_isSound_X5_isWhole : GoodIn wsX5_isSound wsX5_isWhole := goodIn_sub (tk_mem 5 _ (fun w h => (mwsX5_isSound_0 _ (tkB_mem 5 5 h))) (List.forall_mem_cons.mpr ⟨(mwsX5_isSound_0 _ (List.mem_of_getElem? (i := 4) rfl)), (tk_mem 14 _ (fun w h => (mwsX5_isSound_0 _ (tkB_mem 10 14 h))) (tk_mem 24 _ (fun w h => (mwsX5_isSound_1 _ (tkB_mem 0 24 h))) (tk_mem 13 _ (fun w h => (mwsX5_isSound_2 _ (tkB_mem 0 13 h))) (tk_mem 13 _ (fun w h => (mwsX5_isSound_3 _ (tkB_mem 0 13 h))) (fun _ h => absurd h List.not_mem_nil)))))⟩)) (by decide +kernel)
set_option maxRecDepth 20000 in
theorem gX5_isSound_X5_isWhole : GoodIn wsX5_isSound (wsV RX5 229 RX5 yX5_isWhole wsX5_isWhole) := goodIn_app (goodIn_sub (tk_mem 4 _ (fun w h => (mwsX5_isSound_0 _ (tkB_mem 1 4 h))) (fun _ h => absurd h List.not_mem_nil)) (by decide +kernel)) ggX5_isSound_X5_isWhole
theorem adX5_isSound_0 : fd_rows (cX5_isSound.data.toList.drop 0) 0 [(0, some (.aload_n 0), 1), (1, some (.iconst 0), 1), (2, some (.putfield 42), 3), (5, some (.aload_n 0), 1), (6, some (.invokevirtual 229), 3), (9, some (.ireturn), 1)] = true := by decide +kernel
theorem dX5_isSound_0 : decode cX5_isSound 0 = .ok (.aload_n 0, 1) := fd_get adX5_isSound_0 (k := 0) rfl
theorem dX5_isSound_1 : decode cX5_isSound 1 = .ok (.iconst 0, 1) := fd_get adX5_isSound_0 (k := 1) rfl
theorem dX5_isSound_2 : decode cX5_isSound 2 = .ok (.putfield 42, 3) := fd_get adX5_isSound_0 (k := 2) rfl
theorem dX5_isSound_5 : decode cX5_isSound 5 = .ok (.aload_n 0, 1) := fd_get adX5_isSound_0 (k := 3) rfl
theorem dX5_isSound_6 : decode cX5_isSound 6 = .ok (.invokevirtual 229, 3) := fd_get adX5_isSound_0 (k := 4) rfl
theorem dX5_isSound_9 : decode cX5_isSound 9 = .ok (.ireturn, 1) := fd_get adX5_isSound_0 (k := 5) rfl
theorem adX5_add_0 : fd_rows (cX5_add.data.toList.drop 0) 0 [(0, some (.lload_n 0), 1), (1, some (.ldc2_w 233), 3), (4, some (.lmul), 1), (5, some (.lload_n 2), 1), (6, some (.ladd), 1), (7, some (.lreturn), 1)] = true := by decide +kernel
theorem dX5_add_0 : decode cX5_add 0 = .ok (.lload_n 0, 1) := fd_get adX5_add_0 (k := 0) rfl
theorem dX5_add_1 : decode cX5_add 1 = .ok (.ldc2_w 233, 3) := fd_get adX5_add_0 (k := 1) rfl
theorem dX5_add_4 : decode cX5_add 4 = .ok (.lmul, 1) := fd_get adX5_add_0 (k := 2) rfl
theorem dX5_add_5 : decode cX5_add 5 = .ok (.lload_n 2, 1) := fd_get adX5_add_0 (k := 3) rfl
theorem dX5_add_6 : decode cX5_add 6 = .ok (.ladd, 1) := fd_get adX5_add_0 (k := 4) rfl
theorem dX5_add_7 : decode cX5_add 7 = .ok (.lreturn, 1) := fd_get adX5_add_0 (k := 5) rfl
theorem mwsX5_digest_0 : ∀ w ∈ wsX5_digest_r1, w ∈ wsX5_digest := fun w h => (List.mem_cons_of_mem _ (List.mem_append_left _ (List.mem_append_left _ (List.mem_append_left _ (List.mem_append_left _ h)))))
theorem mwsX5_digest_1 : ∀ w ∈ wsX5_digest_r2, w ∈ wsX5_digest := fun w h => (List.mem_cons_of_mem _ (List.mem_append_left _ (List.mem_append_left _ (List.mem_append_left _ (List.mem_append_right _ (List.mem_append_left _ h))))))
theorem mwsX5_digest_2 : ∀ w ∈ wsX5_digest_r3, w ∈ wsX5_digest := fun w h => (List.mem_cons_of_mem _ (List.mem_append_left _ (List.mem_append_left _ (List.mem_append_left _ (List.mem_append_right _ (List.mem_append_right _ (List.mem_append_left _ h)))))))
theorem mwsX5_digest_3 : ∀ w ∈ wsX5_digest_r4, w ∈ wsX5_digest := fun w h => (List.mem_cons_of_mem _ (List.mem_append_left _ (List.mem_append_left _ (List.mem_append_left _ (List.mem_append_right _ (List.mem_append_right _ (List.mem_append_right _ (List.mem_append_left _ h))))))))
theorem mwsX5_digest_4 : ∀ w ∈ wsX5_digest_r5, w ∈ wsX5_digest := fun w h => (List.mem_cons_of_mem _ (List.mem_append_left _ (List.mem_append_left _ (List.mem_append_left _ (List.mem_append_right _ (List.mem_append_right _ (List.mem_append_right _ (List.mem_append_right _ (List.mem_append_left _ h)))))))))
theorem mwsX5_digest_5 : ∀ w ∈ wsX5_digest_r6, w ∈ wsX5_digest := fun w h => (List.mem_cons_of_mem _ (List.mem_append_left _ (List.mem_append_left _ (List.mem_append_left _ (List.mem_append_right _ (List.mem_append_right _ (List.mem_append_right _ (List.mem_append_right _ (List.mem_append_right _ (List.mem_append_left _ h))))))))))
theorem mwsX5_digest_6 : ∀ w ∈ wsX5_digest_r7, w ∈ wsX5_digest := fun w h => (List.mem_cons_of_mem _ (List.mem_append_left _ (List.mem_append_left _ (List.mem_append_left _ (List.mem_append_right _ (List.mem_append_right _ (List.mem_append_right _ (List.mem_append_right _ (List.mem_append_right _ (List.mem_append_right _ (List.mem_append_left _ h)))))))))))
theorem mwsX5_digest_7 : ∀ w ∈ wsX5_digest_r8, w ∈ wsX5_digest := fun w h => (List.mem_cons_of_mem _ (List.mem_append_left _ (List.mem_append_left _ (List.mem_append_left _ (List.mem_append_right _ (List.mem_append_right _ (List.mem_append_right _ (List.mem_append_right _ (List.mem_append_right _ (List.mem_append_right _ (List.mem_append_right _ (List.mem_append_left _ h))))))))))))
theorem mwsX5_digest_8 : ∀ w ∈ wsX5_digest_r9, w ∈ wsX5_digest := fun w h => (List.mem_cons_of_mem _ (List.mem_append_left _ (List.mem_append_left _ (List.mem_append_left _ (List.mem_append_right _ (List.mem_append_right _ (List.mem_append_right _ (List.mem_append_right _ (List.mem_append_right _ (List.mem_append_right _ (List.mem_append_right _ (List.mem_append_right _ (List.mem_append_left _ h)))))))))))))
theorem mwsX5_digest_9 : ∀ w ∈ wsX5_digest_r10, w ∈ wsX5_digest := fun w h => (List.mem_cons_of_mem _ (List.mem_append_left _ (List.mem_append_left _ (List.mem_append_left _ (List.mem_append_right _ (List.mem_append_right _ (List.mem_append_right _ (List.mem_append_right _ (List.mem_append_right _ (List.mem_append_right _ (List.mem_append_right _ (List.mem_append_right _ (List.mem_append_right _ (List.mem_append_left _ h))))))))))))))
theorem mwsX5_digest_10 : ∀ w ∈ wsX5_digest_r11, w ∈ wsX5_digest := fun w h => (List.mem_cons_of_mem _ (List.mem_append_left _ (List.mem_append_left _ (List.mem_append_left _ (List.mem_append_right _ (List.mem_append_right _ (List.mem_append_right _ (List.mem_append_right _ (List.mem_append_right _ (List.mem_append_right _ (List.mem_append_right _ (List.mem_append_right _ (List.mem_append_right _ (List.mem_append_right _ (List.mem_append_left _ h)))))))))))))))
theorem mwsX5_digest_11 : ∀ w ∈ wsX5_digest_r12, w ∈ wsX5_digest := fun w h => (List.mem_cons_of_mem _ (List.mem_append_left _ (List.mem_append_left _ (List.mem_append_left _ (List.mem_append_right _ (List.mem_append_right _ (List.mem_append_right _ (List.mem_append_right _ (List.mem_append_right _ (List.mem_append_right _ (List.mem_append_right _ (List.mem_append_right _ (List.mem_append_right _ (List.mem_append_right _ (List.mem_append_right _ (List.mem_append_left _ h))))))))))))))))
theorem mwsX5_digest_12 : ∀ w ∈ wsX5_digest_r13, w ∈ wsX5_digest := fun w h => (List.mem_cons_of_mem _ (List.mem_append_left _ (List.mem_append_left _ (List.mem_append_left _ (List.mem_append_right _ (List.mem_append_right _ (List.mem_append_right _ (List.mem_append_right _ (List.mem_append_right _ (List.mem_append_right _ (List.mem_append_right _ (List.mem_append_right _ (List.mem_append_right _ (List.mem_append_right _ (List.mem_append_right _ (List.mem_append_right _ (List.mem_append_left _ h)))))))))))))))))
theorem mwsX5_digest_13 : ∀ w ∈ wsX5_digest_r14, w ∈ wsX5_digest := fun w h => (List.mem_cons_of_mem _ (List.mem_append_left _ (List.mem_append_left _ (List.mem_append_left _ (List.mem_append_right _ (List.mem_append_right _ (List.mem_append_right _ (List.mem_append_right _ (List.mem_append_right _ (List.mem_append_right _ (List.mem_append_right _ (List.mem_append_right _ (List.mem_append_right _ (List.mem_append_right _ (List.mem_append_right _ (List.mem_append_right _ (List.mem_append_right _ (List.mem_append_left _ h))))))))))))))))))
theorem mwsX5_digest_14 : ∀ w ∈ wsX5_digest_r15, w ∈ wsX5_digest := fun w h => (List.mem_cons_of_mem _ (List.mem_append_left _ (List.mem_append_left _ (List.mem_append_left _ (List.mem_append_right _ (List.mem_append_right _ (List.mem_append_right _ (List.mem_append_right _ (List.mem_append_right _ (List.mem_append_right _ (List.mem_append_right _ (List.mem_append_right _ (List.mem_append_right _ (List.mem_append_right _ (List.mem_append_right _ (List.mem_append_right _ (List.mem_append_right _ (List.mem_append_right _ h))))))))))))))))))
theorem mwsX5_digest_15 : ∀ w ∈ wsX50, w ∈ wsX5_digest := fun w h => (List.mem_cons_of_mem _ (List.mem_append_left _ (List.mem_append_left _ (List.mem_append_right _ h))))
theorem mwsX5_digest_16 : ∀ w ∈ wsJ40, w ∈ wsX5_digest := fun w h => (List.mem_cons_of_mem _ (List.mem_append_left _ (List.mem_append_right _ h)))
theorem mwsX5_digest_17 : ∀ w ∈ wsJ00, w ∈ wsX5_digest := fun w h => (List.mem_cons_of_mem _ (List.mem_append_right _ h))
set_option maxRecDepth 20000 in
theorem ggX5_digest_X5_ledgerTold : GoodIn wsX5_digest wsX5_ledgerTold := goodIn_sub (List.forall_mem_cons.mpr ⟨(mwsX5_digest_0 _ (List.mem_of_getElem? (i := 8) rfl)), (List.forall_mem_cons.mpr ⟨(mwsX5_digest_0 _ (List.mem_of_getElem? (i := 3) rfl)), (tk_mem 9 _ (fun w h => (mwsX5_digest_0 _ (tkB_mem 9 9 h))) (List.forall_mem_cons.mpr ⟨(mwsX5_digest_0 _ (List.mem_of_getElem? (i := 7) rfl)), (List.forall_mem_cons.mpr ⟨(mwsX5_digest_0 _ (List.mem_of_getElem? (i := 18) rfl)), (tk_mem 13 _ (fun w h => (mwsX5_digest_15 _ (tkB_mem 0 13 h))) (fun _ h => absurd h List.not_mem_nil))⟩)⟩))⟩)⟩) (by decide +kernel)
set_option maxRecDepth 20000 in
theorem gX5_digest_X5_ledgerTold : GoodIn wsX5_digest (wsV RX5 222 RX5 yX5_ledgerTold wsX5_ledgerTold) := goodIn_app (goodIn_sub (tk_mem 4 _ (fun w h => (mwsX5_digest_0 _ (tkB_mem 4 4 h))) (fun _ h => absurd h List.not_mem_nil)) (by decide +kernel)) ggX5_digest_X5_ledgerTold
set_option maxRecDepth 20000 in
theorem ggX5_digest_X5_add : GoodIn wsX5_digest wsX5_add := goodIn_sub (List.forall_mem_cons.mpr ⟨(mwsX5_digest_0 _ (List.mem_of_getElem? (i := 21) rfl)), (List.forall_mem_cons.mpr ⟨(mwsX5_digest_0 _ (List.mem_of_getElem? (i := 22) rfl)), (fun _ h => absurd h List.not_mem_nil)⟩)⟩) (by decide +kernel)
set_option maxRecDepth 20000 in
theorem gX5_digest_X5_add : GoodIn wsX5_digest (va_wsS RX5 237 yX5_add wsX5_add) := goodIn_app (goodIn_sub (List.forall_mem_cons.mpr ⟨(mwsX5_digest_0 _ (List.mem_of_getElem? (i := 19) rfl)), (List.forall_mem_cons.mpr ⟨(mwsX5_digest_0 _ (List.mem_of_getElem? (i := 20) rfl)), (List.forall_mem_cons.mpr ⟨(mwsX5_digest_0 _ (List.mem_of_getElem? (i := 7) rfl)), (fun _ h => absurd h List.not_mem_nil)⟩)⟩)⟩) (by decide +kernel)) ggX5_digest_X5_add
set_option maxRecDepth 20000 in
theorem ggX5_digest_X5_whole : GoodIn wsX5_digest wsX5_whole := goodIn_sub (List.forall_mem_cons.mpr ⟨(mwsX5_digest_1 _ (List.mem_of_getElem? (i := 1) rfl)), (List.forall_mem_cons.mpr ⟨(mwsX5_digest_0 _ (List.mem_of_getElem? (i := 9) rfl)), (fun _ h => absurd h List.not_mem_nil)⟩)⟩) (by decide +kernel)
set_option maxRecDepth 20000 in
theorem gX5_digest_X5_whole : GoodIn wsX5_digest (va_wsS RX5 85 yX5_whole wsX5_whole) := goodIn_app (goodIn_sub (List.forall_mem_cons.mpr ⟨(mwsX5_digest_0 _ (List.mem_of_getElem? (i := 23) rfl)), (List.forall_mem_cons.mpr ⟨(mwsX5_digest_1 _ (List.mem_of_getElem? (i := 0) rfl)), (List.forall_mem_cons.mpr ⟨(mwsX5_digest_0 _ (List.mem_of_getElem? (i := 7) rfl)), (fun _ h => absurd h List.not_mem_nil)⟩)⟩)⟩) (by decide +kernel)) ggX5_digest_X5_whole
set_option maxRecDepth 20000 in
theorem ggX5_digest_X5_bookTold : GoodIn wsX5_digest wsX5_bookTold := goodIn_sub (List.forall_mem_cons.mpr ⟨(mwsX5_digest_1 _ (List.mem_of_getElem? (i := 5) rfl)), (List.forall_mem_cons.mpr ⟨(mwsX5_digest_1 _ (List.mem_of_getElem? (i := 6) rfl)), (List.forall_mem_cons.mpr ⟨(mwsX5_digest_0 _ (List.mem_of_getElem? (i := 23) rfl)), (List.forall_mem_cons.mpr ⟨(mwsX5_digest_1 _ (List.mem_of_getElem? (i := 0) rfl)), (List.forall_mem_cons.mpr ⟨(mwsX5_digest_0 _ (List.mem_of_getElem? (i := 7) rfl)), (List.forall_mem_cons.mpr ⟨(mwsX5_digest_1 _ (List.mem_of_getElem? (i := 1) rfl)), (List.forall_mem_cons.mpr ⟨(mwsX5_digest_0 _ (List.mem_of_getElem? (i := 9) rfl)), (tk_mem 8 _ (fun w h => (mwsX5_digest_1 _ (tkB_mem 7 8 h))) (List.forall_mem_cons.mpr ⟨(mwsX5_digest_0 _ (List.mem_of_getElem? (i := 2) rfl)), (tk_mem 9 _ (fun w h => (mwsX5_digest_1 _ (tkB_mem 15 9 h))) (List.forall_mem_cons.mpr ⟨(mwsX5_digest_0 _ (List.mem_of_getElem? (i := 16) rfl)), (List.forall_mem_cons.mpr ⟨(mwsX5_digest_0 _ (List.mem_of_getElem? (i := 17) rfl)), (List.forall_mem_cons.mpr ⟨(mwsX5_digest_0 _ (List.mem_of_getElem? (i := 18) rfl)), (tk_mem 24 _ (fun w h => (mwsX5_digest_2 _ (tkB_mem 0 24 h))) (List.forall_mem_cons.mpr ⟨(mwsX5_digest_0 _ (List.mem_of_getElem? (i := 3) rfl)), (tk_mem 13 _ (fun w h => (mwsX5_digest_15 _ (tkB_mem 0 13 h))) (fun _ h => absurd h List.not_mem_nil))⟩))⟩)⟩)⟩))⟩))⟩)⟩)⟩)⟩)⟩)⟩)⟩) (by decide +kernel)
set_option maxRecDepth 20000 in
theorem gX5_digest_X5_bookTold : GoodIn wsX5_digest (wsV RX5 201 RX5 yX5_bookTold wsX5_bookTold) := goodIn_app (goodIn_sub (List.forall_mem_cons.mpr ⟨(mwsX5_digest_1 _ (List.mem_of_getElem? (i := 2) rfl)), (List.forall_mem_cons.mpr ⟨(mwsX5_digest_1 _ (List.mem_of_getElem? (i := 3) rfl)), (List.forall_mem_cons.mpr ⟨(mwsX5_digest_1 _ (List.mem_of_getElem? (i := 4) rfl)), (List.forall_mem_cons.mpr ⟨(mwsX5_digest_0 _ (List.mem_of_getElem? (i := 7) rfl)), (fun _ h => absurd h List.not_mem_nil)⟩)⟩)⟩)⟩) (by decide +kernel)) ggX5_digest_X5_bookTold
set_option maxRecDepth 20000 in
theorem ggX5_digest_X5_end : GoodIn wsX5_digest wsX5_end := goodIn_sub (tk_mem 4 _ (fun w h => (mwsX5_digest_2 _ (tkB_mem 3 4 h))) (List.forall_mem_cons.mpr ⟨(mwsX5_digest_0 _ (List.mem_of_getElem? (i := 7) rfl)), (List.forall_mem_cons.mpr ⟨(mwsX5_digest_2 _ (List.mem_of_getElem? (i := 7) rfl)), (tk_mem 4 _ (fun w h => (mwsX5_digest_1 _ (tkB_mem 11 4 h))) (List.forall_mem_cons.mpr ⟨(mwsX5_digest_0 _ (List.mem_of_getElem? (i := 2) rfl)), (tk_mem 9 _ (fun w h => (mwsX5_digest_1 _ (tkB_mem 15 9 h))) (List.forall_mem_cons.mpr ⟨(mwsX5_digest_1 _ (List.mem_of_getElem? (i := 6) rfl)), (tk_mem 13 _ (fun w h => (mwsX5_digest_15 _ (tkB_mem 0 13 h))) (fun _ h => absurd h List.not_mem_nil))⟩))⟩))⟩)⟩)) (by decide +kernel)
set_option maxRecDepth 20000 in
theorem gX5_digest_X5_end : GoodIn wsX5_digest (wsV RX5 96 RX5 yX5_end wsX5_end) := goodIn_app (goodIn_sub (List.forall_mem_cons.mpr ⟨(mwsX5_digest_2 _ (List.mem_of_getElem? (i := 0) rfl)), (List.forall_mem_cons.mpr ⟨(mwsX5_digest_2 _ (List.mem_of_getElem? (i := 1) rfl)), (List.forall_mem_cons.mpr ⟨(mwsX5_digest_2 _ (List.mem_of_getElem? (i := 2) rfl)), (List.forall_mem_cons.mpr ⟨(mwsX5_digest_0 _ (List.mem_of_getElem? (i := 7) rfl)), (fun _ h => absurd h List.not_mem_nil)⟩)⟩)⟩)⟩) (by decide +kernel)) ggX5_digest_X5_end
set_option maxRecDepth 20000 in
theorem ggX5_digest_X5_nearOf : GoodIn wsX5_digest wsX5_nearOf := goodIn_sub (List.forall_mem_cons.mpr ⟨(mwsX5_digest_3 _ (List.mem_of_getElem? (i := 3) rfl)), (List.forall_mem_cons.mpr ⟨(mwsX5_digest_1 _ (List.mem_of_getElem? (i := 19) rfl)), (List.forall_mem_cons.mpr ⟨(mwsX5_digest_1 _ (List.mem_of_getElem? (i := 20) rfl)), (List.forall_mem_cons.mpr ⟨(mwsX5_digest_1 _ (List.mem_of_getElem? (i := 21) rfl)), (List.forall_mem_cons.mpr ⟨(mwsX5_digest_0 _ (List.mem_of_getElem? (i := 7) rfl)), (List.forall_mem_cons.mpr ⟨(mwsX5_digest_1 _ (List.mem_of_getElem? (i := 22) rfl)), (List.forall_mem_cons.mpr ⟨(mwsX5_digest_1 _ (List.mem_of_getElem? (i := 23) rfl)), (List.forall_mem_cons.mpr ⟨(mwsX5_digest_1 _ (List.mem_of_getElem? (i := 6) rfl)), (tk_mem 4 _ (fun w h => (mwsX5_digest_2 _ (tkB_mem 4 4 h))) (tk_mem 4 _ (fun w h => (mwsX5_digest_1 _ (tkB_mem 11 4 h))) (List.forall_mem_cons.mpr ⟨(mwsX5_digest_0 _ (List.mem_of_getElem? (i := 2) rfl)), (tk_mem 4 _ (fun w h => (mwsX5_digest_1 _ (tkB_mem 15 4 h))) (tk_mem 13 _ (fun w h => (mwsX5_digest_15 _ (tkB_mem 0 13 h))) (fun _ h => absurd h List.not_mem_nil)))⟩)))⟩)⟩)⟩)⟩)⟩)⟩)⟩)⟩) (by decide +kernel)
set_option maxRecDepth 20000 in
theorem gX5_digest_X5_nearOf : GoodIn wsX5_digest (wsV RX5 115 RX5 yX5_nearOf wsX5_nearOf) := goodIn_app (goodIn_sub (List.forall_mem_cons.mpr ⟨(mwsX5_digest_3 _ (List.mem_of_getElem? (i := 0) rfl)), (List.forall_mem_cons.mpr ⟨(mwsX5_digest_3 _ (List.mem_of_getElem? (i := 1) rfl)), (List.forall_mem_cons.mpr ⟨(mwsX5_digest_3 _ (List.mem_of_getElem? (i := 2) rfl)), (List.forall_mem_cons.mpr ⟨(mwsX5_digest_0 _ (List.mem_of_getElem? (i := 7) rfl)), (fun _ h => absurd h List.not_mem_nil)⟩)⟩)⟩)⟩) (by decide +kernel)) ggX5_digest_X5_nearOf
set_option maxRecDepth 20000 in
theorem ggX5_digest_X5_nearTold : GoodIn wsX5_digest wsX5_nearTold := goodIn_sub (List.forall_mem_cons.mpr ⟨(mwsX5_digest_3 _ (List.mem_of_getElem? (i := 7) rfl)), (List.forall_mem_cons.mpr ⟨(mwsX5_digest_0 _ (List.mem_of_getElem? (i := 23) rfl)), (List.forall_mem_cons.mpr ⟨(mwsX5_digest_1 _ (List.mem_of_getElem? (i := 0) rfl)), (List.forall_mem_cons.mpr ⟨(mwsX5_digest_0 _ (List.mem_of_getElem? (i := 7) rfl)), (List.forall_mem_cons.mpr ⟨(mwsX5_digest_1 _ (List.mem_of_getElem? (i := 1) rfl)), (List.forall_mem_cons.mpr ⟨(mwsX5_digest_0 _ (List.mem_of_getElem? (i := 9) rfl)), (tk_mem 4 _ (fun w h => (mwsX5_digest_3 _ (tkB_mem 0 4 h))) (tk_mem 5 _ (fun w h => (mwsX5_digest_1 _ (tkB_mem 19 5 h))) (List.forall_mem_cons.mpr ⟨(mwsX5_digest_1 _ (List.mem_of_getElem? (i := 6) rfl)), (tk_mem 4 _ (fun w h => (mwsX5_digest_2 _ (tkB_mem 4 4 h))) (tk_mem 4 _ (fun w h => (mwsX5_digest_1 _ (tkB_mem 11 4 h))) (List.forall_mem_cons.mpr ⟨(mwsX5_digest_0 _ (List.mem_of_getElem? (i := 2) rfl)), (tk_mem 4 _ (fun w h => (mwsX5_digest_1 _ (tkB_mem 15 4 h))) (tk_mem 4 _ (fun w h => (mwsX5_digest_2 _ (tkB_mem 8 4 h))) (tk_mem 13 _ (fun w h => (mwsX5_digest_15 _ (tkB_mem 0 13 h))) (fun _ h => absurd h List.not_mem_nil))))⟩)))⟩)))⟩)⟩)⟩)⟩)⟩)⟩) (by decide +kernel)
set_option maxRecDepth 20000 in
theorem gX5_digest_X5_nearTold : GoodIn wsX5_digest (wsV RX5 204 RX5 yX5_nearTold wsX5_nearTold) := goodIn_app (goodIn_sub (List.forall_mem_cons.mpr ⟨(mwsX5_digest_3 _ (List.mem_of_getElem? (i := 4) rfl)), (List.forall_mem_cons.mpr ⟨(mwsX5_digest_3 _ (List.mem_of_getElem? (i := 5) rfl)), (List.forall_mem_cons.mpr ⟨(mwsX5_digest_3 _ (List.mem_of_getElem? (i := 6) rfl)), (List.forall_mem_cons.mpr ⟨(mwsX5_digest_0 _ (List.mem_of_getElem? (i := 7) rfl)), (fun _ h => absurd h List.not_mem_nil)⟩)⟩)⟩)⟩) (by decide +kernel)) ggX5_digest_X5_nearTold
set_option maxRecDepth 20000 in
theorem ggX5_digest_X5_areSame : GoodIn wsX5_digest wsX5_areSame := goodIn_sub (List.forall_mem_cons.mpr ⟨(mwsX5_digest_3 _ (List.mem_of_getElem? (i := 11) rfl)), (List.forall_mem_cons.mpr ⟨(mwsX5_digest_0 _ (List.mem_of_getElem? (i := 2) rfl)), (tk_mem 13 _ (fun w h => (mwsX5_digest_15 _ (tkB_mem 0 13 h))) (fun _ h => absurd h List.not_mem_nil))⟩)⟩) (by decide +kernel)
set_option maxRecDepth 20000 in
theorem gX5_digest_X5_areSame : GoodIn wsX5_digest (wsV RX5 216 RX5 yX5_areSame wsX5_areSame) := goodIn_app (goodIn_sub (List.forall_mem_cons.mpr ⟨(mwsX5_digest_3 _ (List.mem_of_getElem? (i := 8) rfl)), (List.forall_mem_cons.mpr ⟨(mwsX5_digest_3 _ (List.mem_of_getElem? (i := 9) rfl)), (List.forall_mem_cons.mpr ⟨(mwsX5_digest_3 _ (List.mem_of_getElem? (i := 10) rfl)), (List.forall_mem_cons.mpr ⟨(mwsX5_digest_0 _ (List.mem_of_getElem? (i := 7) rfl)), (fun _ h => absurd h List.not_mem_nil)⟩)⟩)⟩)⟩) (by decide +kernel)) ggX5_digest_X5_areSame
set_option maxRecDepth 20000 in
theorem ggX5_digest_X5_one : GoodIn wsX5_digest wsX5_one := goodIn_sub (List.forall_mem_cons.mpr ⟨(mwsX5_digest_0 _ (List.mem_of_getElem? (i := 18) rfl)), (fun _ h => absurd h List.not_mem_nil)⟩) (by decide +kernel)
set_option maxRecDepth 20000 in
theorem gX5_digest_X5_one : GoodIn wsX5_digest (va_wsS RX5 81 yX5_one wsX5_one) := goodIn_app (goodIn_sub (List.forall_mem_cons.mpr ⟨(mwsX5_digest_0 _ (List.mem_of_getElem? (i := 16) rfl)), (List.forall_mem_cons.mpr ⟨(mwsX5_digest_0 _ (List.mem_of_getElem? (i := 17) rfl)), (List.forall_mem_cons.mpr ⟨(mwsX5_digest_0 _ (List.mem_of_getElem? (i := 7) rfl)), (fun _ h => absurd h List.not_mem_nil)⟩)⟩)⟩) (by decide +kernel)) ggX5_digest_X5_one
set_option maxRecDepth 20000 in
theorem ggX5_digest_X5_viewTold : GoodIn wsX5_digest wsX5_viewTold := goodIn_sub (List.forall_mem_cons.mpr ⟨(mwsX5_digest_3 _ (List.mem_of_getElem? (i := 15) rfl)), (List.forall_mem_cons.mpr ⟨(mwsX5_digest_0 _ (List.mem_of_getElem? (i := 3) rfl)), (List.forall_mem_cons.mpr ⟨(mwsX5_digest_1 _ (List.mem_of_getElem? (i := 7) rfl)), (List.forall_mem_cons.mpr ⟨(mwsX5_digest_1 _ (List.mem_of_getElem? (i := 8) rfl)), (List.forall_mem_cons.mpr ⟨(mwsX5_digest_1 _ (List.mem_of_getElem? (i := 9) rfl)), (List.forall_mem_cons.mpr ⟨(mwsX5_digest_0 _ (List.mem_of_getElem? (i := 7) rfl)), (tk_mem 5 _ (fun w h => (mwsX5_digest_1 _ (tkB_mem 10 5 h))) (List.forall_mem_cons.mpr ⟨(mwsX5_digest_0 _ (List.mem_of_getElem? (i := 2) rfl)), (tk_mem 9 _ (fun w h => (mwsX5_digest_1 _ (tkB_mem 15 9 h))) (List.forall_mem_cons.mpr ⟨(mwsX5_digest_1 _ (List.mem_of_getElem? (i := 6) rfl)), (List.forall_mem_cons.mpr ⟨(mwsX5_digest_0 _ (List.mem_of_getElem? (i := 16) rfl)), (List.forall_mem_cons.mpr ⟨(mwsX5_digest_0 _ (List.mem_of_getElem? (i := 17) rfl)), (List.forall_mem_cons.mpr ⟨(mwsX5_digest_0 _ (List.mem_of_getElem? (i := 18) rfl)), (tk_mem 8 _ (fun w h => (mwsX5_digest_2 _ (tkB_mem 0 8 h))) (tk_mem 4 _ (fun w h => (mwsX5_digest_2 _ (tkB_mem 12 4 h))) (tk_mem 13 _ (fun w h => (mwsX5_digest_15 _ (tkB_mem 0 13 h))) (fun _ h => absurd h List.not_mem_nil))))⟩)⟩)⟩)⟩))⟩))⟩)⟩)⟩)⟩)⟩)⟩) (by decide +kernel)
set_option maxRecDepth 20000 in
theorem gX5_digest_X5_viewTold : GoodIn wsX5_digest (wsV RX5 219 RX5 yX5_viewTold wsX5_viewTold) := goodIn_app (goodIn_sub (List.forall_mem_cons.mpr ⟨(mwsX5_digest_3 _ (List.mem_of_getElem? (i := 12) rfl)), (List.forall_mem_cons.mpr ⟨(mwsX5_digest_3 _ (List.mem_of_getElem? (i := 13) rfl)), (List.forall_mem_cons.mpr ⟨(mwsX5_digest_3 _ (List.mem_of_getElem? (i := 14) rfl)), (List.forall_mem_cons.mpr ⟨(mwsX5_digest_0 _ (List.mem_of_getElem? (i := 7) rfl)), (fun _ h => absurd h List.not_mem_nil)⟩)⟩)⟩)⟩) (by decide +kernel)) ggX5_digest_X5_viewTold
set_option maxRecDepth 20000 in
theorem ggX5_digest_X5_told : GoodIn wsX5_digest wsX5_told := goodIn_sub (tk_mem 4 _ (fun w h => (mwsX5_digest_3 _ (tkB_mem 19 4 h))) (List.forall_mem_cons.mpr ⟨(mwsX5_digest_0 _ (List.mem_of_getElem? (i := 2) rfl)), (List.forall_mem_cons.mpr ⟨(mwsX5_digest_3 _ (List.mem_of_getElem? (i := 23) rfl)), (tk_mem 24 _ (fun w h => (mwsX5_digest_4 _ (tkB_mem 0 24 h))) (tk_mem 24 _ (fun w h => (mwsX5_digest_5 _ (tkB_mem 0 24 h))) (tk_mem 24 _ (fun w h => (mwsX5_digest_6 _ (tkB_mem 0 24 h))) (tk_mem 24 _ (fun w h => (mwsX5_digest_7 _ (tkB_mem 0 24 h))) (tk_mem 24 _ (fun w h => (mwsX5_digest_8 _ (tkB_mem 0 24 h))) (tk_mem 24 _ (fun w h => (mwsX5_digest_9 _ (tkB_mem 0 24 h))) (tk_mem 16 _ (fun w h => (mwsX5_digest_10 _ (tkB_mem 0 16 h))) (List.forall_mem_cons.mpr ⟨(mwsX5_digest_2 _ (List.mem_of_getElem? (i := 0) rfl)), (List.forall_mem_cons.mpr ⟨(mwsX5_digest_2 _ (List.mem_of_getElem? (i := 1) rfl)), (List.forall_mem_cons.mpr ⟨(mwsX5_digest_2 _ (List.mem_of_getElem? (i := 2) rfl)), (List.forall_mem_cons.mpr ⟨(mwsX5_digest_0 _ (List.mem_of_getElem? (i := 7) rfl)), (tk_mem 5 _ (fun w h => (mwsX5_digest_2 _ (tkB_mem 3 5 h))) (tk_mem 13 _ (fun w h => (mwsX5_digest_1 _ (tkB_mem 11 13 h))) (List.forall_mem_cons.mpr ⟨(mwsX5_digest_1 _ (List.mem_of_getElem? (i := 6) rfl)), (tk_mem 8 _ (fun w h => (mwsX5_digest_10 _ (tkB_mem 16 8 h))) (tk_mem 24 _ (fun w h => (mwsX5_digest_11 _ (tkB_mem 0 24 h))) (List.forall_mem_cons.mpr ⟨(mwsX5_digest_12 _ (List.mem_of_getElem? (i := 0) rfl)), (List.forall_mem_cons.mpr ⟨(mwsX5_digest_12 _ (List.mem_of_getElem? (i := 1) rfl)), (tk_mem 4 _ (fun w h => (mwsX5_digest_3 _ (tkB_mem 0 4 h))) (tk_mem 22 _ (fun w h => (mwsX5_digest_12 _ (tkB_mem 2 22 h))) (tk_mem 24 _ (fun w h => (mwsX5_digest_13 _ (tkB_mem 0 24 h))) (tk_mem 4 _ (fun w h => (mwsX5_digest_16 _ (tkB_mem 0 4 h))) (tk_mem 13 _ (fun w h => (mwsX5_digest_15 _ (tkB_mem 0 13 h))) (tk_mem 4 _ (fun w h => (mwsX5_digest_17 _ (tkB_mem 0 4 h))) (fun _ h => absurd h List.not_mem_nil)))))))⟩)⟩)))⟩)))⟩)⟩)⟩)⟩))))))))⟩)⟩)) (by decide +kernel)
set_option maxRecDepth 20000 in
theorem gX5_digest_X5_told : GoodIn wsX5_digest (wsV RX5 212 RX5 yX5_told wsX5_told) := goodIn_app (goodIn_sub (List.forall_mem_cons.mpr ⟨(mwsX5_digest_3 _ (List.mem_of_getElem? (i := 16) rfl)), (List.forall_mem_cons.mpr ⟨(mwsX5_digest_3 _ (List.mem_of_getElem? (i := 17) rfl)), (List.forall_mem_cons.mpr ⟨(mwsX5_digest_3 _ (List.mem_of_getElem? (i := 18) rfl)), (List.forall_mem_cons.mpr ⟨(mwsX5_digest_0 _ (List.mem_of_getElem? (i := 7) rfl)), (fun _ h => absurd h List.not_mem_nil)⟩)⟩)⟩)⟩) (by decide +kernel)) ggX5_digest_X5_told
set_option maxRecDepth 20000 in
theorem ggX5_digest_J0_length_8abf5 : GoodIn wsX5_digest wsJ0_length_8abf5 := goodIn_sub (tk_mem 5 _ (fun w h => (mwsX5_digest_4 _ (tkB_mem 18 5 h))) (List.forall_mem_cons.mpr ⟨(mwsX5_digest_4 _ (List.mem_of_getElem? (i := 17) rfl)), (List.forall_mem_cons.mpr ⟨(mwsX5_digest_4 _ (List.mem_of_getElem? (i := 23) rfl)), (List.forall_mem_cons.mpr ⟨(mwsX5_digest_5 _ (List.mem_of_getElem? (i := 0) rfl)), (List.forall_mem_cons.mpr ⟨(mwsX5_digest_5 _ (List.mem_of_getElem? (i := 1) rfl)), (tk_mem 4 _ (fun w h => (mwsX5_digest_17 _ (tkB_mem 0 4 h))) (fun _ h => absurd h List.not_mem_nil))⟩)⟩)⟩)⟩)) (by decide +kernel)
set_option maxRecDepth 20000 in
theorem gX5_digest_J0_length_8abf5 : GoodIn wsX5_digest (wsV RX5 241 RJ0 yJ0_length_8abf5 wsJ0_length_8abf5) := goodIn_app (goodIn_sub (List.forall_mem_cons.mpr ⟨(mwsX5_digest_14 _ (List.mem_of_getElem? (i := 0) rfl)), (List.forall_mem_cons.mpr ⟨(mwsX5_digest_4 _ (List.mem_of_getElem? (i := 15) rfl)), (List.forall_mem_cons.mpr ⟨(mwsX5_digest_4 _ (List.mem_of_getElem? (i := 16) rfl)), (List.forall_mem_cons.mpr ⟨(mwsX5_digest_4 _ (List.mem_of_getElem? (i := 17) rfl)), (fun _ h => absurd h List.not_mem_nil)⟩)⟩)⟩)⟩) (by decide +kernel)) ggX5_digest_J0_length_8abf5
set_option maxRecDepth 20000 in
theorem ggX5_digest_X5_isWhole : GoodIn wsX5_digest wsX5_isWhole := goodIn_sub (List.forall_mem_cons.mpr ⟨(mwsX5_digest_14 _ (List.mem_of_getElem? (i := 4) rfl)), (List.forall_mem_cons.mpr ⟨(mwsX5_digest_0 _ (List.mem_of_getElem? (i := 3) rfl)), (List.forall_mem_cons.mpr ⟨(mwsX5_digest_14 _ (List.mem_of_getElem? (i := 5) rfl)), (List.forall_mem_cons.mpr ⟨(mwsX5_digest_14 _ (List.mem_of_getElem? (i := 6) rfl)), (List.forall_mem_cons.mpr ⟨(mwsX5_digest_14 _ (List.mem_of_getElem? (i := 7) rfl)), (List.forall_mem_cons.mpr ⟨(mwsX5_digest_0 _ (List.mem_of_getElem? (i := 7) rfl)), (List.forall_mem_cons.mpr ⟨(mwsX5_digest_14 _ (List.mem_of_getElem? (i := 8) rfl)), (List.forall_mem_cons.mpr ⟨(mwsX5_digest_0 _ (List.mem_of_getElem? (i := 23) rfl)), (List.forall_mem_cons.mpr ⟨(mwsX5_digest_1 _ (List.mem_of_getElem? (i := 0) rfl)), (List.forall_mem_cons.mpr ⟨(mwsX5_digest_1 _ (List.mem_of_getElem? (i := 1) rfl)), (List.forall_mem_cons.mpr ⟨(mwsX5_digest_0 _ (List.mem_of_getElem? (i := 9) rfl)), (tk_mem 8 _ (fun w h => (mwsX5_digest_2 _ (tkB_mem 0 8 h))) (tk_mem 4 _ (fun w h => (mwsX5_digest_1 _ (tkB_mem 11 4 h))) (List.forall_mem_cons.mpr ⟨(mwsX5_digest_0 _ (List.mem_of_getElem? (i := 2) rfl)), (tk_mem 9 _ (fun w h => (mwsX5_digest_1 _ (tkB_mem 15 9 h))) (List.forall_mem_cons.mpr ⟨(mwsX5_digest_1 _ (List.mem_of_getElem? (i := 6) rfl)), (tk_mem 4 _ (fun w h => (mwsX5_digest_3 _ (tkB_mem 0 4 h))) (tk_mem 4 _ (fun w h => (mwsX5_digest_14 _ (tkB_mem 9 4 h))) (List.forall_mem_cons.mpr ⟨(mwsX5_digest_0 _ (List.mem_of_getElem? (i := 16) rfl)), (List.forall_mem_cons.mpr ⟨(mwsX5_digest_0 _ (List.mem_of_getElem? (i := 17) rfl)), (List.forall_mem_cons.mpr ⟨(mwsX5_digest_0 _ (List.mem_of_getElem? (i := 18) rfl)), (tk_mem 4 _ (fun w h => (mwsX5_digest_3 _ (tkB_mem 8 4 h))) (tk_mem 4 _ (fun w h => (mwsX5_digest_1 _ (tkB_mem 7 4 h))) (tk_mem 4 _ (fun w h => (mwsX5_digest_2 _ (tkB_mem 12 4 h))) (tk_mem 13 _ (fun w h => (mwsX5_digest_15 _ (tkB_mem 0 13 h))) (fun _ h => absurd h List.not_mem_nil)))))⟩)⟩)⟩)))⟩))⟩)))⟩)⟩)⟩)⟩)⟩)⟩)⟩)⟩)⟩)⟩)⟩) (by decide +kernel)
set_option maxRecDepth 20000 in
theorem gX5_digest_X5_isWhole : GoodIn wsX5_digest (wsV RX5 229 RX5 yX5_isWhole wsX5_isWhole) := goodIn_app (goodIn_sub (List.forall_mem_cons.mpr ⟨(mwsX5_digest_14 _ (List.mem_of_getElem? (i := 1) rfl)), (List.forall_mem_cons.mpr ⟨(mwsX5_digest_14 _ (List.mem_of_getElem? (i := 2) rfl)), (List.forall_mem_cons.mpr ⟨(mwsX5_digest_14 _ (List.mem_of_getElem? (i := 3) rfl)), (List.forall_mem_cons.mpr ⟨(mwsX5_digest_0 _ (List.mem_of_getElem? (i := 7) rfl)), (fun _ h => absurd h List.not_mem_nil)⟩)⟩)⟩)⟩) (by decide +kernel)) ggX5_digest_X5_isWhole
theorem adX5_digest_0 : fd_rows (cX5_digest.data.toList.drop 0) 0 [(0, some (.aload_n 0), 1), (1, some (.iconst 0), 1), (2, some (.putfield 42), 3), (5, some (.ldc2_w 235), 3), (8, some (.lstore_n 1), 1), (9, some (.iconst 0), 1), (10, some (.istore_n 3), 1), (11, some (.iload_n 3), 1), (12, some (.bipush 7), 2), (14, some (.if_icmp .ge 20), 3), (17, some (.lload_n 1), 1), (18, some (.aload_n 0), 1), (19, some (.iload_n 3), 1), (20, some (.invokevirtual 222), 3), (23, some (.i2l), 1), (24, some (.invokestatic 237), 3)] = true := by decide +kernel
theorem adX5_digest_1 : fd_rows (cX5_digest.data.toList.drop 27) 27 [(27, some (.lstore_n 1), 1), (28, some (.iinc 3 1), 3), (31, some (.goto (-20)), 3), (34, some (.iconst 0), 1), (35, some (.istore_n 3), 1), (36, some (.iload_n 3), 1), (37, some (.iconst 3), 1), (38, some (.if_icmp .ge 158), 3), (41, some (.iload_n 3), 1), (42, some (.invokestatic 85), 3), (45, some (.astore 4), 2), (47, some (.iconst 0), 1), (48, some (.istore 5), 2), (50, some (.iload 5), 2), (52, some (.bipush 9), 2), (54, some (.if_icmp .ge 22), 3)] = true := by decide +kernel
theorem adX5_digest_2 : fd_rows (cX5_digest.data.toList.drop 57) 57 [(57, some (.lload_n 1), 1), (58, some (.aload_n 0), 1), (59, some (.iload_n 3), 1), (60, some (.iload 5), 2), (62, some (.invokevirtual 201), 3), (65, some (.i2l), 1), (66, some (.invokestatic 237), 3), (69, some (.lstore_n 1), 1), (70, some (.iinc 5 1), 3), (73, some (.goto (-23)), 3), (76, some (.aload_n 0), 1), (77, some (.aload 4), 2), (79, some (.iconst 0), 1), (80, some (.invokevirtual 96), 3), (83, some (.istore 5), 2), (85, some (.iload 5), 2)] = true := by decide +kernel
theorem adX5_digest_3 : fd_rows (cX5_digest.data.toList.drop 87) 87 [(87, some (.sipush (-10000)), 3), (90, some (.if_icmp .eq 38), 3), (93, some (.lload_n 1), 1), (94, some (.iload 5), 2), (96, some (.i2l), 1), (97, some (.invokestatic 237), 3), (100, some (.aload_n 0), 1), (101, some (.getfield 11), 3), (104, some (.iload_n 3), 1), (105, some (.aaload), 1), (106, some (.iload 5), 2), (108, some (.iaload), 1), (109, some (.i2l), 1), (110, some (.invokestatic 237), 3), (113, some (.lstore_n 1), 1), (114, some (.aload_n 0), 1)] = true := by decide +kernel
theorem adX5_digest_4 : fd_rows (cX5_digest.data.toList.drop 115) 115 [(115, some (.aload 4), 2), (117, some (.iload 5), 2), (119, some (.iconst 3), 1), (120, some (.invokevirtual 115), 3), (123, some (.istore 5), 2), (125, some (.goto (-40)), 3), (128, some (.iconst 0), 1), (129, some (.istore 5), 2), (131, some (.iload 5), 2), (133, some (.bipush 8), 2), (135, some (.if_icmp .ge 24), 3), (138, some (.lload_n 1), 1), (139, some (.aload_n 0), 1), (140, some (.iload_n 3), 1), (141, some (.bipush 50), 2), (143, some (.iload 5), 2)] = true := by decide +kernel
theorem adX5_digest_5 : fd_rows (cX5_digest.data.toList.drop 145) 145 [(145, some (.invokevirtual 204), 3), (148, some (.i2l), 1), (149, some (.invokestatic 237), 3), (152, some (.lstore_n 1), 1), (153, some (.iinc 5 1), 3), (156, some (.goto (-25)), 3), (159, some (.iconst 0), 1), (160, some (.istore 5), 2), (162, some (.iload 5), 2), (164, some (.iconst 3), 1), (165, some (.if_icmp .ge 25), 3), (168, some (.lload_n 1), 1), (169, some (.aload_n 0), 1), (170, some (.iload_n 3), 1), (171, some (.iload 5), 2), (173, some (.invokevirtual 216), 3)] = true := by decide +kernel
theorem adX5_digest_6 : fd_rows (cX5_digest.data.toList.drop 176) 176 [(176, some (.invokestatic 81), 3), (179, some (.i2l), 1), (180, some (.invokestatic 237), 3), (183, some (.lstore_n 1), 1), (184, some (.iinc 5 1), 3), (187, some (.goto (-25)), 3), (190, some (.iinc 3 1), 3), (193, some (.goto (-157)), 3), (196, some (.iconst 0), 1), (197, some (.istore_n 3), 1), (198, some (.iload_n 3), 1), (199, some (.iconst 4), 1), (200, some (.if_icmp .ge 111), 3), (203, some (.aload_n 0), 1), (204, some (.getfield 22), 3), (207, some (.iload_n 3), 1)] = true := by decide +kernel
theorem adX5_digest_7 : fd_rows (cX5_digest.data.toList.drop 208) 208 [(208, some (.aaload), 1), (209, some (.ifnonnull 6), 3), (212, some (.goto 93), 3), (215, some (.lload_n 1), 1), (216, some (.iload_n 3), 1), (217, some (.i2l), 1), (218, some (.invokestatic 237), 3), (221, some (.lstore_n 1), 1), (222, some (.iconst 0), 1), (223, some (.istore 4), 2), (225, some (.iload 4), 2), (227, some (.bipush 9), 2), (229, some (.if_icmp .ge 22), 3), (232, some (.lload_n 1), 1), (233, some (.aload_n 0), 1), (234, some (.iload_n 3), 1)] = true := by decide +kernel
theorem adX5_digest_8 : fd_rows (cX5_digest.data.toList.drop 235) 235 [(235, some (.iload 4), 2), (237, some (.invokevirtual 219), 3), (240, some (.i2l), 1), (241, some (.invokestatic 237), 3), (244, some (.lstore_n 1), 1), (245, some (.iinc 4 1), 3), (248, some (.goto (-23)), 3), (251, some (.iconst 0), 1), (252, some (.istore 4), 2), (254, some (.iload 4), 2), (256, some (.iconst 4), 1), (257, some (.if_icmp .ge 29), 3), (260, some (.lload_n 1), 1), (261, some (.aload_n 0), 1), (262, some (.aload_n 0), 1), (263, some (.getfield 22), 3)] = true := by decide +kernel
theorem adX5_digest_9 : fd_rows (cX5_digest.data.toList.drop 266) 266 [(266, some (.iload_n 3), 1), (267, some (.aaload), 1), (268, some (.bipush 50), 2), (270, some (.iload 4), 2), (272, some (.invokevirtual 115), 3), (275, some (.i2l), 1), (276, some (.invokestatic 237), 3), (279, some (.lstore_n 1), 1), (280, some (.iinc 4 1), 3), (283, some (.goto (-29)), 3), (286, some (.lload_n 1), 1), (287, some (.aload_n 0), 1), (288, some (.aload_n 0), 1), (289, some (.getfield 22), 3), (292, some (.iload_n 3), 1), (293, some (.aaload), 1)] = true := by decide +kernel
theorem adX5_digest_10 : fd_rows (cX5_digest.data.toList.drop 294) 294 [(294, some (.invokevirtual 212), 3), (297, some (.invokevirtual 241), 3), (300, some (.i2l), 1), (301, some (.invokestatic 237), 3), (304, some (.lstore_n 1), 1), (305, some (.iinc 3 1), 3), (308, some (.goto (-110)), 3), (311, some (.lload_n 1), 1), (312, some (.aload_n 0), 1), (313, some (.invokevirtual 229), 3), (316, some (.invokestatic 81), 3), (319, some (.i2l), 1), (320, some (.invokestatic 237), 3), (323, some (.lreturn), 1)] = true := by decide +kernel
theorem dX5_digest_0 : decode cX5_digest 0 = .ok (.aload_n 0, 1) := fd_get adX5_digest_0 (k := 0) rfl
theorem dX5_digest_1 : decode cX5_digest 1 = .ok (.iconst 0, 1) := fd_get adX5_digest_0 (k := 1) rfl
theorem dX5_digest_2 : decode cX5_digest 2 = .ok (.putfield 42, 3) := fd_get adX5_digest_0 (k := 2) rfl
theorem dX5_digest_5 : decode cX5_digest 5 = .ok (.ldc2_w 235, 3) := fd_get adX5_digest_0 (k := 3) rfl
theorem dX5_digest_8 : decode cX5_digest 8 = .ok (.lstore_n 1, 1) := fd_get adX5_digest_0 (k := 4) rfl
theorem dX5_digest_9 : decode cX5_digest 9 = .ok (.iconst 0, 1) := fd_get adX5_digest_0 (k := 5) rfl
theorem dX5_digest_10 : decode cX5_digest 10 = .ok (.istore_n 3, 1) := fd_get adX5_digest_0 (k := 6) rfl
theorem dX5_digest_11 : decode cX5_digest 11 = .ok (.iload_n 3, 1) := fd_get adX5_digest_0 (k := 7) rfl
theorem dX5_digest_12 : decode cX5_digest 12 = .ok (.bipush 7, 2) := fd_get adX5_digest_0 (k := 8) rfl
theorem dX5_digest_14 : decode cX5_digest 14 = .ok (.if_icmp .ge 20, 3) := fd_get adX5_digest_0 (k := 9) rfl
theorem dX5_digest_17 : decode cX5_digest 17 = .ok (.lload_n 1, 1) := fd_get adX5_digest_0 (k := 10) rfl
theorem dX5_digest_18 : decode cX5_digest 18 = .ok (.aload_n 0, 1) := fd_get adX5_digest_0 (k := 11) rfl
theorem dX5_digest_19 : decode cX5_digest 19 = .ok (.iload_n 3, 1) := fd_get adX5_digest_0 (k := 12) rfl
theorem dX5_digest_20 : decode cX5_digest 20 = .ok (.invokevirtual 222, 3) := fd_get adX5_digest_0 (k := 13) rfl
theorem dX5_digest_23 : decode cX5_digest 23 = .ok (.i2l, 1) := fd_get adX5_digest_0 (k := 14) rfl
theorem dX5_digest_24 : decode cX5_digest 24 = .ok (.invokestatic 237, 3) := fd_get adX5_digest_0 (k := 15) rfl
theorem dX5_digest_27 : decode cX5_digest 27 = .ok (.lstore_n 1, 1) := fd_get adX5_digest_1 (k := 0) rfl
theorem dX5_digest_28 : decode cX5_digest 28 = .ok (.iinc 3 1, 3) := fd_get adX5_digest_1 (k := 1) rfl
theorem dX5_digest_31 : decode cX5_digest 31 = .ok (.goto (-20), 3) := fd_get adX5_digest_1 (k := 2) rfl
theorem dX5_digest_34 : decode cX5_digest 34 = .ok (.iconst 0, 1) := fd_get adX5_digest_1 (k := 3) rfl
theorem dX5_digest_35 : decode cX5_digest 35 = .ok (.istore_n 3, 1) := fd_get adX5_digest_1 (k := 4) rfl
theorem dX5_digest_36 : decode cX5_digest 36 = .ok (.iload_n 3, 1) := fd_get adX5_digest_1 (k := 5) rfl
theorem dX5_digest_37 : decode cX5_digest 37 = .ok (.iconst 3, 1) := fd_get adX5_digest_1 (k := 6) rfl
theorem dX5_digest_38 : decode cX5_digest 38 = .ok (.if_icmp .ge 158, 3) := fd_get adX5_digest_1 (k := 7) rfl
theorem dX5_digest_41 : decode cX5_digest 41 = .ok (.iload_n 3, 1) := fd_get adX5_digest_1 (k := 8) rfl
theorem dX5_digest_42 : decode cX5_digest 42 = .ok (.invokestatic 85, 3) := fd_get adX5_digest_1 (k := 9) rfl
theorem dX5_digest_45 : decode cX5_digest 45 = .ok (.astore 4, 2) := fd_get adX5_digest_1 (k := 10) rfl
theorem dX5_digest_47 : decode cX5_digest 47 = .ok (.iconst 0, 1) := fd_get adX5_digest_1 (k := 11) rfl
theorem dX5_digest_48 : decode cX5_digest 48 = .ok (.istore 5, 2) := fd_get adX5_digest_1 (k := 12) rfl
theorem dX5_digest_50 : decode cX5_digest 50 = .ok (.iload 5, 2) := fd_get adX5_digest_1 (k := 13) rfl
theorem dX5_digest_52 : decode cX5_digest 52 = .ok (.bipush 9, 2) := fd_get adX5_digest_1 (k := 14) rfl
theorem dX5_digest_54 : decode cX5_digest 54 = .ok (.if_icmp .ge 22, 3) := fd_get adX5_digest_1 (k := 15) rfl
theorem dX5_digest_57 : decode cX5_digest 57 = .ok (.lload_n 1, 1) := fd_get adX5_digest_2 (k := 0) rfl
theorem dX5_digest_58 : decode cX5_digest 58 = .ok (.aload_n 0, 1) := fd_get adX5_digest_2 (k := 1) rfl
theorem dX5_digest_59 : decode cX5_digest 59 = .ok (.iload_n 3, 1) := fd_get adX5_digest_2 (k := 2) rfl
theorem dX5_digest_60 : decode cX5_digest 60 = .ok (.iload 5, 2) := fd_get adX5_digest_2 (k := 3) rfl
theorem dX5_digest_62 : decode cX5_digest 62 = .ok (.invokevirtual 201, 3) := fd_get adX5_digest_2 (k := 4) rfl
theorem dX5_digest_65 : decode cX5_digest 65 = .ok (.i2l, 1) := fd_get adX5_digest_2 (k := 5) rfl
theorem dX5_digest_66 : decode cX5_digest 66 = .ok (.invokestatic 237, 3) := fd_get adX5_digest_2 (k := 6) rfl
theorem dX5_digest_69 : decode cX5_digest 69 = .ok (.lstore_n 1, 1) := fd_get adX5_digest_2 (k := 7) rfl
theorem dX5_digest_70 : decode cX5_digest 70 = .ok (.iinc 5 1, 3) := fd_get adX5_digest_2 (k := 8) rfl
theorem dX5_digest_73 : decode cX5_digest 73 = .ok (.goto (-23), 3) := fd_get adX5_digest_2 (k := 9) rfl
theorem dX5_digest_76 : decode cX5_digest 76 = .ok (.aload_n 0, 1) := fd_get adX5_digest_2 (k := 10) rfl
theorem dX5_digest_77 : decode cX5_digest 77 = .ok (.aload 4, 2) := fd_get adX5_digest_2 (k := 11) rfl
theorem dX5_digest_79 : decode cX5_digest 79 = .ok (.iconst 0, 1) := fd_get adX5_digest_2 (k := 12) rfl
theorem dX5_digest_80 : decode cX5_digest 80 = .ok (.invokevirtual 96, 3) := fd_get adX5_digest_2 (k := 13) rfl
theorem dX5_digest_83 : decode cX5_digest 83 = .ok (.istore 5, 2) := fd_get adX5_digest_2 (k := 14) rfl
theorem dX5_digest_85 : decode cX5_digest 85 = .ok (.iload 5, 2) := fd_get adX5_digest_2 (k := 15) rfl
theorem dX5_digest_87 : decode cX5_digest 87 = .ok (.sipush (-10000), 3) := fd_get adX5_digest_3 (k := 0) rfl
theorem dX5_digest_90 : decode cX5_digest 90 = .ok (.if_icmp .eq 38, 3) := fd_get adX5_digest_3 (k := 1) rfl
theorem dX5_digest_93 : decode cX5_digest 93 = .ok (.lload_n 1, 1) := fd_get adX5_digest_3 (k := 2) rfl
theorem dX5_digest_94 : decode cX5_digest 94 = .ok (.iload 5, 2) := fd_get adX5_digest_3 (k := 3) rfl
theorem dX5_digest_96 : decode cX5_digest 96 = .ok (.i2l, 1) := fd_get adX5_digest_3 (k := 4) rfl
theorem dX5_digest_97 : decode cX5_digest 97 = .ok (.invokestatic 237, 3) := fd_get adX5_digest_3 (k := 5) rfl
theorem dX5_digest_100 : decode cX5_digest 100 = .ok (.aload_n 0, 1) := fd_get adX5_digest_3 (k := 6) rfl
theorem dX5_digest_101 : decode cX5_digest 101 = .ok (.getfield 11, 3) := fd_get adX5_digest_3 (k := 7) rfl
theorem dX5_digest_104 : decode cX5_digest 104 = .ok (.iload_n 3, 1) := fd_get adX5_digest_3 (k := 8) rfl
theorem dX5_digest_105 : decode cX5_digest 105 = .ok (.aaload, 1) := fd_get adX5_digest_3 (k := 9) rfl
theorem dX5_digest_106 : decode cX5_digest 106 = .ok (.iload 5, 2) := fd_get adX5_digest_3 (k := 10) rfl
theorem dX5_digest_108 : decode cX5_digest 108 = .ok (.iaload, 1) := fd_get adX5_digest_3 (k := 11) rfl
theorem dX5_digest_109 : decode cX5_digest 109 = .ok (.i2l, 1) := fd_get adX5_digest_3 (k := 12) rfl
theorem dX5_digest_110 : decode cX5_digest 110 = .ok (.invokestatic 237, 3) := fd_get adX5_digest_3 (k := 13) rfl
theorem dX5_digest_113 : decode cX5_digest 113 = .ok (.lstore_n 1, 1) := fd_get adX5_digest_3 (k := 14) rfl
theorem dX5_digest_114 : decode cX5_digest 114 = .ok (.aload_n 0, 1) := fd_get adX5_digest_3 (k := 15) rfl
theorem dX5_digest_115 : decode cX5_digest 115 = .ok (.aload 4, 2) := fd_get adX5_digest_4 (k := 0) rfl
theorem dX5_digest_117 : decode cX5_digest 117 = .ok (.iload 5, 2) := fd_get adX5_digest_4 (k := 1) rfl
theorem dX5_digest_119 : decode cX5_digest 119 = .ok (.iconst 3, 1) := fd_get adX5_digest_4 (k := 2) rfl
theorem dX5_digest_120 : decode cX5_digest 120 = .ok (.invokevirtual 115, 3) := fd_get adX5_digest_4 (k := 3) rfl
theorem dX5_digest_123 : decode cX5_digest 123 = .ok (.istore 5, 2) := fd_get adX5_digest_4 (k := 4) rfl
theorem dX5_digest_125 : decode cX5_digest 125 = .ok (.goto (-40), 3) := fd_get adX5_digest_4 (k := 5) rfl
theorem dX5_digest_128 : decode cX5_digest 128 = .ok (.iconst 0, 1) := fd_get adX5_digest_4 (k := 6) rfl
theorem dX5_digest_129 : decode cX5_digest 129 = .ok (.istore 5, 2) := fd_get adX5_digest_4 (k := 7) rfl
theorem dX5_digest_131 : decode cX5_digest 131 = .ok (.iload 5, 2) := fd_get adX5_digest_4 (k := 8) rfl
theorem dX5_digest_133 : decode cX5_digest 133 = .ok (.bipush 8, 2) := fd_get adX5_digest_4 (k := 9) rfl
theorem dX5_digest_135 : decode cX5_digest 135 = .ok (.if_icmp .ge 24, 3) := fd_get adX5_digest_4 (k := 10) rfl
theorem dX5_digest_138 : decode cX5_digest 138 = .ok (.lload_n 1, 1) := fd_get adX5_digest_4 (k := 11) rfl
theorem dX5_digest_139 : decode cX5_digest 139 = .ok (.aload_n 0, 1) := fd_get adX5_digest_4 (k := 12) rfl
theorem dX5_digest_140 : decode cX5_digest 140 = .ok (.iload_n 3, 1) := fd_get adX5_digest_4 (k := 13) rfl
theorem dX5_digest_141 : decode cX5_digest 141 = .ok (.bipush 50, 2) := fd_get adX5_digest_4 (k := 14) rfl
theorem dX5_digest_143 : decode cX5_digest 143 = .ok (.iload 5, 2) := fd_get adX5_digest_4 (k := 15) rfl
theorem dX5_digest_145 : decode cX5_digest 145 = .ok (.invokevirtual 204, 3) := fd_get adX5_digest_5 (k := 0) rfl
theorem dX5_digest_148 : decode cX5_digest 148 = .ok (.i2l, 1) := fd_get adX5_digest_5 (k := 1) rfl
theorem dX5_digest_149 : decode cX5_digest 149 = .ok (.invokestatic 237, 3) := fd_get adX5_digest_5 (k := 2) rfl
theorem dX5_digest_152 : decode cX5_digest 152 = .ok (.lstore_n 1, 1) := fd_get adX5_digest_5 (k := 3) rfl
theorem dX5_digest_153 : decode cX5_digest 153 = .ok (.iinc 5 1, 3) := fd_get adX5_digest_5 (k := 4) rfl
theorem dX5_digest_156 : decode cX5_digest 156 = .ok (.goto (-25), 3) := fd_get adX5_digest_5 (k := 5) rfl
theorem dX5_digest_159 : decode cX5_digest 159 = .ok (.iconst 0, 1) := fd_get adX5_digest_5 (k := 6) rfl
theorem dX5_digest_160 : decode cX5_digest 160 = .ok (.istore 5, 2) := fd_get adX5_digest_5 (k := 7) rfl
theorem dX5_digest_162 : decode cX5_digest 162 = .ok (.iload 5, 2) := fd_get adX5_digest_5 (k := 8) rfl
theorem dX5_digest_164 : decode cX5_digest 164 = .ok (.iconst 3, 1) := fd_get adX5_digest_5 (k := 9) rfl
theorem dX5_digest_165 : decode cX5_digest 165 = .ok (.if_icmp .ge 25, 3) := fd_get adX5_digest_5 (k := 10) rfl
theorem dX5_digest_168 : decode cX5_digest 168 = .ok (.lload_n 1, 1) := fd_get adX5_digest_5 (k := 11) rfl
theorem dX5_digest_169 : decode cX5_digest 169 = .ok (.aload_n 0, 1) := fd_get adX5_digest_5 (k := 12) rfl
theorem dX5_digest_170 : decode cX5_digest 170 = .ok (.iload_n 3, 1) := fd_get adX5_digest_5 (k := 13) rfl
theorem dX5_digest_171 : decode cX5_digest 171 = .ok (.iload 5, 2) := fd_get adX5_digest_5 (k := 14) rfl
theorem dX5_digest_173 : decode cX5_digest 173 = .ok (.invokevirtual 216, 3) := fd_get adX5_digest_5 (k := 15) rfl
theorem dX5_digest_176 : decode cX5_digest 176 = .ok (.invokestatic 81, 3) := fd_get adX5_digest_6 (k := 0) rfl
theorem dX5_digest_179 : decode cX5_digest 179 = .ok (.i2l, 1) := fd_get adX5_digest_6 (k := 1) rfl
theorem dX5_digest_180 : decode cX5_digest 180 = .ok (.invokestatic 237, 3) := fd_get adX5_digest_6 (k := 2) rfl
theorem dX5_digest_183 : decode cX5_digest 183 = .ok (.lstore_n 1, 1) := fd_get adX5_digest_6 (k := 3) rfl
theorem dX5_digest_184 : decode cX5_digest 184 = .ok (.iinc 5 1, 3) := fd_get adX5_digest_6 (k := 4) rfl
theorem dX5_digest_187 : decode cX5_digest 187 = .ok (.goto (-25), 3) := fd_get adX5_digest_6 (k := 5) rfl
theorem dX5_digest_190 : decode cX5_digest 190 = .ok (.iinc 3 1, 3) := fd_get adX5_digest_6 (k := 6) rfl
theorem dX5_digest_193 : decode cX5_digest 193 = .ok (.goto (-157), 3) := fd_get adX5_digest_6 (k := 7) rfl
theorem dX5_digest_196 : decode cX5_digest 196 = .ok (.iconst 0, 1) := fd_get adX5_digest_6 (k := 8) rfl
theorem dX5_digest_197 : decode cX5_digest 197 = .ok (.istore_n 3, 1) := fd_get adX5_digest_6 (k := 9) rfl
theorem dX5_digest_198 : decode cX5_digest 198 = .ok (.iload_n 3, 1) := fd_get adX5_digest_6 (k := 10) rfl
theorem dX5_digest_199 : decode cX5_digest 199 = .ok (.iconst 4, 1) := fd_get adX5_digest_6 (k := 11) rfl
theorem dX5_digest_200 : decode cX5_digest 200 = .ok (.if_icmp .ge 111, 3) := fd_get adX5_digest_6 (k := 12) rfl
theorem dX5_digest_203 : decode cX5_digest 203 = .ok (.aload_n 0, 1) := fd_get adX5_digest_6 (k := 13) rfl
theorem dX5_digest_204 : decode cX5_digest 204 = .ok (.getfield 22, 3) := fd_get adX5_digest_6 (k := 14) rfl
theorem dX5_digest_207 : decode cX5_digest 207 = .ok (.iload_n 3, 1) := fd_get adX5_digest_6 (k := 15) rfl
theorem dX5_digest_208 : decode cX5_digest 208 = .ok (.aaload, 1) := fd_get adX5_digest_7 (k := 0) rfl
theorem dX5_digest_209 : decode cX5_digest 209 = .ok (.ifnonnull 6, 3) := fd_get adX5_digest_7 (k := 1) rfl
theorem dX5_digest_212 : decode cX5_digest 212 = .ok (.goto 93, 3) := fd_get adX5_digest_7 (k := 2) rfl
theorem dX5_digest_215 : decode cX5_digest 215 = .ok (.lload_n 1, 1) := fd_get adX5_digest_7 (k := 3) rfl
theorem dX5_digest_216 : decode cX5_digest 216 = .ok (.iload_n 3, 1) := fd_get adX5_digest_7 (k := 4) rfl
theorem dX5_digest_217 : decode cX5_digest 217 = .ok (.i2l, 1) := fd_get adX5_digest_7 (k := 5) rfl
theorem dX5_digest_218 : decode cX5_digest 218 = .ok (.invokestatic 237, 3) := fd_get adX5_digest_7 (k := 6) rfl
theorem dX5_digest_221 : decode cX5_digest 221 = .ok (.lstore_n 1, 1) := fd_get adX5_digest_7 (k := 7) rfl
theorem dX5_digest_222 : decode cX5_digest 222 = .ok (.iconst 0, 1) := fd_get adX5_digest_7 (k := 8) rfl
theorem dX5_digest_223 : decode cX5_digest 223 = .ok (.istore 4, 2) := fd_get adX5_digest_7 (k := 9) rfl
theorem dX5_digest_225 : decode cX5_digest 225 = .ok (.iload 4, 2) := fd_get adX5_digest_7 (k := 10) rfl
theorem dX5_digest_227 : decode cX5_digest 227 = .ok (.bipush 9, 2) := fd_get adX5_digest_7 (k := 11) rfl
theorem dX5_digest_229 : decode cX5_digest 229 = .ok (.if_icmp .ge 22, 3) := fd_get adX5_digest_7 (k := 12) rfl
theorem dX5_digest_232 : decode cX5_digest 232 = .ok (.lload_n 1, 1) := fd_get adX5_digest_7 (k := 13) rfl
theorem dX5_digest_233 : decode cX5_digest 233 = .ok (.aload_n 0, 1) := fd_get adX5_digest_7 (k := 14) rfl
theorem dX5_digest_234 : decode cX5_digest 234 = .ok (.iload_n 3, 1) := fd_get adX5_digest_7 (k := 15) rfl
theorem dX5_digest_235 : decode cX5_digest 235 = .ok (.iload 4, 2) := fd_get adX5_digest_8 (k := 0) rfl
theorem dX5_digest_237 : decode cX5_digest 237 = .ok (.invokevirtual 219, 3) := fd_get adX5_digest_8 (k := 1) rfl
theorem dX5_digest_240 : decode cX5_digest 240 = .ok (.i2l, 1) := fd_get adX5_digest_8 (k := 2) rfl
theorem dX5_digest_241 : decode cX5_digest 241 = .ok (.invokestatic 237, 3) := fd_get adX5_digest_8 (k := 3) rfl
theorem dX5_digest_244 : decode cX5_digest 244 = .ok (.lstore_n 1, 1) := fd_get adX5_digest_8 (k := 4) rfl
theorem dX5_digest_245 : decode cX5_digest 245 = .ok (.iinc 4 1, 3) := fd_get adX5_digest_8 (k := 5) rfl
theorem dX5_digest_248 : decode cX5_digest 248 = .ok (.goto (-23), 3) := fd_get adX5_digest_8 (k := 6) rfl
theorem dX5_digest_251 : decode cX5_digest 251 = .ok (.iconst 0, 1) := fd_get adX5_digest_8 (k := 7) rfl
theorem dX5_digest_252 : decode cX5_digest 252 = .ok (.istore 4, 2) := fd_get adX5_digest_8 (k := 8) rfl
theorem dX5_digest_254 : decode cX5_digest 254 = .ok (.iload 4, 2) := fd_get adX5_digest_8 (k := 9) rfl
theorem dX5_digest_256 : decode cX5_digest 256 = .ok (.iconst 4, 1) := fd_get adX5_digest_8 (k := 10) rfl
theorem dX5_digest_257 : decode cX5_digest 257 = .ok (.if_icmp .ge 29, 3) := fd_get adX5_digest_8 (k := 11) rfl
theorem dX5_digest_260 : decode cX5_digest 260 = .ok (.lload_n 1, 1) := fd_get adX5_digest_8 (k := 12) rfl
theorem dX5_digest_261 : decode cX5_digest 261 = .ok (.aload_n 0, 1) := fd_get adX5_digest_8 (k := 13) rfl
theorem dX5_digest_262 : decode cX5_digest 262 = .ok (.aload_n 0, 1) := fd_get adX5_digest_8 (k := 14) rfl
theorem dX5_digest_263 : decode cX5_digest 263 = .ok (.getfield 22, 3) := fd_get adX5_digest_8 (k := 15) rfl
theorem dX5_digest_266 : decode cX5_digest 266 = .ok (.iload_n 3, 1) := fd_get adX5_digest_9 (k := 0) rfl
theorem dX5_digest_267 : decode cX5_digest 267 = .ok (.aaload, 1) := fd_get adX5_digest_9 (k := 1) rfl
theorem dX5_digest_268 : decode cX5_digest 268 = .ok (.bipush 50, 2) := fd_get adX5_digest_9 (k := 2) rfl
theorem dX5_digest_270 : decode cX5_digest 270 = .ok (.iload 4, 2) := fd_get adX5_digest_9 (k := 3) rfl
theorem dX5_digest_272 : decode cX5_digest 272 = .ok (.invokevirtual 115, 3) := fd_get adX5_digest_9 (k := 4) rfl
theorem dX5_digest_275 : decode cX5_digest 275 = .ok (.i2l, 1) := fd_get adX5_digest_9 (k := 5) rfl
theorem dX5_digest_276 : decode cX5_digest 276 = .ok (.invokestatic 237, 3) := fd_get adX5_digest_9 (k := 6) rfl
theorem dX5_digest_279 : decode cX5_digest 279 = .ok (.lstore_n 1, 1) := fd_get adX5_digest_9 (k := 7) rfl
theorem dX5_digest_280 : decode cX5_digest 280 = .ok (.iinc 4 1, 3) := fd_get adX5_digest_9 (k := 8) rfl
theorem dX5_digest_283 : decode cX5_digest 283 = .ok (.goto (-29), 3) := fd_get adX5_digest_9 (k := 9) rfl
theorem dX5_digest_286 : decode cX5_digest 286 = .ok (.lload_n 1, 1) := fd_get adX5_digest_9 (k := 10) rfl
theorem dX5_digest_287 : decode cX5_digest 287 = .ok (.aload_n 0, 1) := fd_get adX5_digest_9 (k := 11) rfl
theorem dX5_digest_288 : decode cX5_digest 288 = .ok (.aload_n 0, 1) := fd_get adX5_digest_9 (k := 12) rfl
theorem dX5_digest_289 : decode cX5_digest 289 = .ok (.getfield 22, 3) := fd_get adX5_digest_9 (k := 13) rfl
theorem dX5_digest_292 : decode cX5_digest 292 = .ok (.iload_n 3, 1) := fd_get adX5_digest_9 (k := 14) rfl
theorem dX5_digest_293 : decode cX5_digest 293 = .ok (.aaload, 1) := fd_get adX5_digest_9 (k := 15) rfl
theorem dX5_digest_294 : decode cX5_digest 294 = .ok (.invokevirtual 212, 3) := fd_get adX5_digest_10 (k := 0) rfl
theorem dX5_digest_297 : decode cX5_digest 297 = .ok (.invokevirtual 241, 3) := fd_get adX5_digest_10 (k := 1) rfl
theorem dX5_digest_300 : decode cX5_digest 300 = .ok (.i2l, 1) := fd_get adX5_digest_10 (k := 2) rfl
theorem dX5_digest_301 : decode cX5_digest 301 = .ok (.invokestatic 237, 3) := fd_get adX5_digest_10 (k := 3) rfl
theorem dX5_digest_304 : decode cX5_digest 304 = .ok (.lstore_n 1, 1) := fd_get adX5_digest_10 (k := 4) rfl
theorem dX5_digest_305 : decode cX5_digest 305 = .ok (.iinc 3 1, 3) := fd_get adX5_digest_10 (k := 5) rfl
theorem dX5_digest_308 : decode cX5_digest 308 = .ok (.goto (-110), 3) := fd_get adX5_digest_10 (k := 6) rfl
theorem dX5_digest_311 : decode cX5_digest 311 = .ok (.lload_n 1, 1) := fd_get adX5_digest_10 (k := 7) rfl
theorem dX5_digest_312 : decode cX5_digest 312 = .ok (.aload_n 0, 1) := fd_get adX5_digest_10 (k := 8) rfl
theorem dX5_digest_313 : decode cX5_digest 313 = .ok (.invokevirtual 229, 3) := fd_get adX5_digest_10 (k := 9) rfl
theorem dX5_digest_316 : decode cX5_digest 316 = .ok (.invokestatic 81, 3) := fd_get adX5_digest_10 (k := 10) rfl
theorem dX5_digest_319 : decode cX5_digest 319 = .ok (.i2l, 1) := fd_get adX5_digest_10 (k := 11) rfl
theorem dX5_digest_320 : decode cX5_digest 320 = .ok (.invokestatic 237, 3) := fd_get adX5_digest_10 (k := 12) rfl
theorem dX5_digest_323 : decode cX5_digest 323 = .ok (.lreturn, 1) := fd_get adX5_digest_10 (k := 13) rfl
