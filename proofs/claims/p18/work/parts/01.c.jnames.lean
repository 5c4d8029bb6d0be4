theorem adJ5_init_d00df_0 : fd_rows (cJ5_init_d00df.data.toList.drop 0) 0 [(0, some (.aload_n 0), 1), (1, some (.invokespecial 3), 3), (4, some (.getstatic 18), 3), (7, some (.ifCond .eq 18), 3), (10, some (.aload_n 0), 1), (11, some (.iload_n 1), 1), (12, none, 2), (14, some (.putfield 15), 3), (17, some (.aload_n 0), 1), (18, some (.iconst 0), 1), (19, some (.putfield 22), 3), (22, some (.goto 16), 3), (25, some (.aload_n 0), 1), (26, some (.iload_n 1), 1), (27, some (.invokestatic 26), 3), (30, some (.putfield 15), 3)] = true := by decide +kernel
theorem adJ5_init_d00df_1 : fd_rows (cJ5_init_d00df.data.toList.drop 33) 33 [(33, some (.aload_n 0), 1), (34, some (.iconst 1), 1), (35, some (.putfield 22), 3), (38, some (.return_), 1)] = true := by decide +kernel
theorem dJ5_init_d00df_0 : decode cJ5_init_d00df 0 = .ok (.aload_n 0, 1) := fd_get adJ5_init_d00df_0 (k := 0) rfl
theorem dJ5_init_d00df_1 : decode cJ5_init_d00df 1 = .ok (.invokespecial 3, 3) := fd_get adJ5_init_d00df_0 (k := 1) rfl
theorem dJ5_init_d00df_4 : decode cJ5_init_d00df 4 = .ok (.getstatic 18, 3) := fd_get adJ5_init_d00df_0 (k := 2) rfl
theorem dJ5_init_d00df_7 : decode cJ5_init_d00df 7 = .ok (.ifCond .eq 18, 3) := fd_get adJ5_init_d00df_0 (k := 3) rfl
theorem dJ5_init_d00df_10 : decode cJ5_init_d00df 10 = .ok (.aload_n 0, 1) := fd_get adJ5_init_d00df_0 (k := 4) rfl
theorem dJ5_init_d00df_11 : decode cJ5_init_d00df 11 = .ok (.iload_n 1, 1) := fd_get adJ5_init_d00df_0 (k := 5) rfl
theorem dJ5_init_d00df_12 : decode cJ5_init_d00df 12 = .ok (.newarray .byte, 2) := by decide +kernel
theorem dJ5_init_d00df_14 : decode cJ5_init_d00df 14 = .ok (.putfield 15, 3) := fd_get adJ5_init_d00df_0 (k := 7) rfl
theorem dJ5_init_d00df_17 : decode cJ5_init_d00df 17 = .ok (.aload_n 0, 1) := fd_get adJ5_init_d00df_0 (k := 8) rfl
theorem dJ5_init_d00df_18 : decode cJ5_init_d00df 18 = .ok (.iconst 0, 1) := fd_get adJ5_init_d00df_0 (k := 9) rfl
theorem dJ5_init_d00df_19 : decode cJ5_init_d00df 19 = .ok (.putfield 22, 3) := fd_get adJ5_init_d00df_0 (k := 10) rfl
theorem dJ5_init_d00df_22 : decode cJ5_init_d00df 22 = .ok (.goto 16, 3) := fd_get adJ5_init_d00df_0 (k := 11) rfl
theorem dJ5_init_d00df_38 : decode cJ5_init_d00df 38 = .ok (.return_, 1) := fd_get adJ5_init_d00df_1 (k := 3) rfl
theorem mwsJ5_init_a7421_0 : ∀ w ∈ wsJ5_init_a7421_r1, w ∈ wsJ5_init_a7421 := fun w h => (List.mem_cons_of_mem _ (List.mem_append_left _ (List.mem_append_left _ (List.mem_append_left _ h))))
theorem mwsJ5_init_a7421_1 : ∀ w ∈ wsJ5_init_a7421_r2, w ∈ wsJ5_init_a7421 := fun w h => (List.mem_cons_of_mem _ (List.mem_append_left _ (List.mem_append_left _ (List.mem_append_right _ (List.mem_append_left _ h)))))
theorem mwsJ5_init_a7421_2 : ∀ w ∈ wsJ5_init_a7421_r3, w ∈ wsJ5_init_a7421 := fun w h => (List.mem_cons_of_mem _ (List.mem_append_left _ (List.mem_append_left _ (List.mem_append_right _ (List.mem_append_right _ (List.mem_append_left _ h))))))
theorem mwsJ5_init_a7421_3 : ∀ w ∈ wsJ5_init_a7421_r4, w ∈ wsJ5_init_a7421 := fun w h => (List.mem_cons_of_mem _ (List.mem_append_left _ (List.mem_append_left _ (List.mem_append_right _ (List.mem_append_right _ (List.mem_append_right _ (List.mem_append_left _ h)))))))
theorem mwsJ5_init_a7421_4 : ∀ w ∈ wsJ5_init_a7421_r5, w ∈ wsJ5_init_a7421 := fun w h => (List.mem_cons_of_mem _ (List.mem_append_left _ (List.mem_append_left _ (List.mem_append_right _ (List.mem_append_right _ (List.mem_append_right _ (List.mem_append_right _ (List.mem_append_left _ h))))))))
theorem mwsJ5_init_a7421_5 : ∀ w ∈ wsJ5_init_a7421_r6, w ∈ wsJ5_init_a7421 := fun w h => (List.mem_cons_of_mem _ (List.mem_append_left _ (List.mem_append_left _ (List.mem_append_right _ (List.mem_append_right _ (List.mem_append_right _ (List.mem_append_right _ (List.mem_append_right _ (List.mem_append_left _ h)))))))))
theorem mwsJ5_init_a7421_6 : ∀ w ∈ wsJ5_init_a7421_r7, w ∈ wsJ5_init_a7421 := fun w h => (List.mem_cons_of_mem _ (List.mem_append_left _ (List.mem_append_left _ (List.mem_append_right _ (List.mem_append_right _ (List.mem_append_right _ (List.mem_append_right _ (List.mem_append_right _ (List.mem_append_right _ h)))))))))
theorem mwsJ5_init_a7421_7 : ∀ w ∈ wsJ40, w ∈ wsJ5_init_a7421 := fun w h => (List.mem_cons_of_mem _ (List.mem_append_left _ (List.mem_append_right _ h)))
theorem mwsJ5_init_a7421_8 : ∀ w ∈ wsJ00, w ∈ wsJ5_init_a7421 := fun w h => (List.mem_cons_of_mem _ (List.mem_append_right _ h))
set_option maxRecDepth 20000 in
theorem ggJ5_init_a7421_J0_length_8abf5 : GoodIn wsJ5_init_a7421 wsJ0_length_8abf5 := goodIn_sub (tk_mem 5 _ (fun w h => (mwsJ5_init_a7421_0 _ (tkB_mem 12 5 h))) (List.forall_mem_cons.mpr ⟨(mwsJ5_init_a7421_0 _ (List.mem_of_getElem? (i := 11) rfl)), (List.forall_mem_cons.mpr ⟨(mwsJ5_init_a7421_0 _ (List.mem_of_getElem? (i := 17) rfl)), (List.forall_mem_cons.mpr ⟨(mwsJ5_init_a7421_0 _ (List.mem_of_getElem? (i := 18) rfl)), (List.forall_mem_cons.mpr ⟨(mwsJ5_init_a7421_0 _ (List.mem_of_getElem? (i := 19) rfl)), (tk_mem 4 _ (fun w h => (mwsJ5_init_a7421_8 _ (tkB_mem 0 4 h))) (fun _ h => absurd h List.not_mem_nil))⟩)⟩)⟩)⟩)) (by decide +kernel)
set_option maxRecDepth 20000 in
theorem gJ5_init_a7421_J0_length_8abf5 : GoodIn wsJ5_init_a7421 (wsV RJ5 32 RJ0 yJ0_length_8abf5 wsJ0_length_8abf5) := goodIn_app (goodIn_sub (tk_mem 4 _ (fun w h => (mwsJ5_init_a7421_0 _ (tkB_mem 8 4 h))) (fun _ h => absurd h List.not_mem_nil)) (by decide +kernel)) ggJ5_init_a7421_J0_length_8abf5
set_option maxRecDepth 20000 in
theorem ggJ5_init_a7421_J0_coder_7d493 : GoodIn wsJ5_init_a7421 wsJ0_coder_7d493 := goodIn_sub (List.forall_mem_cons.mpr ⟨(mwsJ5_init_a7421_0 _ (List.mem_of_getElem? (i := 17) rfl)), (List.forall_mem_cons.mpr ⟨(mwsJ5_init_a7421_0 _ (List.mem_of_getElem? (i := 18) rfl)), (List.forall_mem_cons.mpr ⟨(mwsJ5_init_a7421_0 _ (List.mem_of_getElem? (i := 19) rfl)), (tk_mem 4 _ (fun w h => (mwsJ5_init_a7421_8 _ (tkB_mem 0 4 h))) (fun _ h => absurd h List.not_mem_nil))⟩)⟩)⟩) (by decide +kernel)
set_option maxRecDepth 20000 in
theorem gJ5_init_a7421_J0_coder_7d493 : GoodIn wsJ5_init_a7421 (wsV RJ5 40 RJ0 yJ0_coder_7d493 wsJ0_coder_7d493) := goodIn_app (goodIn_sub (List.forall_mem_cons.mpr ⟨(mwsJ5_init_a7421_0 _ (List.mem_of_getElem? (i := 20) rfl)), (List.forall_mem_cons.mpr ⟨(mwsJ5_init_a7421_0 _ (List.mem_of_getElem? (i := 15) rfl)), (List.forall_mem_cons.mpr ⟨(mwsJ5_init_a7421_0 _ (List.mem_of_getElem? (i := 16) rfl)), (List.forall_mem_cons.mpr ⟨(mwsJ5_init_a7421_0 _ (List.mem_of_getElem? (i := 11) rfl)), (fun _ h => absurd h List.not_mem_nil)⟩)⟩)⟩)⟩) (by decide +kernel)) ggJ5_init_a7421_J0_coder_7d493
set_option maxRecDepth 20000 in
theorem ggJ5_init_a7421_J4_append_cf1ce : GoodIn wsJ5_init_a7421 wsJ4_append_cf1ce := goodIn_sub (tk_mem 4 _ (fun w h => (mwsJ5_init_a7421_1 _ (tkB_mem 11 4 h))) (List.forall_mem_cons.mpr ⟨(mwsJ5_init_a7421_1 _ (List.mem_of_getElem? (i := 10) rfl)), (List.forall_mem_cons.mpr ⟨(mwsJ5_init_a7421_1 _ (List.mem_of_getElem? (i := 15) rfl)), (List.forall_mem_cons.mpr ⟨(mwsJ5_init_a7421_1 _ (List.mem_of_getElem? (i := 16) rfl)), (List.forall_mem_cons.mpr ⟨(mwsJ5_init_a7421_1 _ (List.mem_of_getElem? (i := 6) rfl)), (tk_mem 7 _ (fun w h => (mwsJ5_init_a7421_1 _ (tkB_mem 17 7 h))) (List.forall_mem_cons.mpr ⟨(mwsJ5_init_a7421_2 _ (List.mem_of_getElem? (i := 0) rfl)), (List.forall_mem_cons.mpr ⟨(mwsJ5_init_a7421_2 _ (List.mem_of_getElem? (i := 1) rfl)), (List.forall_mem_cons.mpr ⟨(mwsJ5_init_a7421_2 _ (List.mem_of_getElem? (i := 2) rfl)), (List.forall_mem_cons.mpr ⟨(mwsJ5_init_a7421_0 _ (List.mem_of_getElem? (i := 7) rfl)), (tk_mem 5 _ (fun w h => (mwsJ5_init_a7421_2 _ (tkB_mem 3 5 h))) (List.forall_mem_cons.mpr ⟨(mwsJ5_init_a7421_0 _ (List.mem_of_getElem? (i := 5) rfl)), (tk_mem 5 _ (fun w h => (mwsJ5_init_a7421_2 _ (tkB_mem 8 5 h))) (List.forall_mem_cons.mpr ⟨(mwsJ5_init_a7421_0 _ (List.mem_of_getElem? (i := 4) rfl)), (tk_mem 11 _ (fun w h => (mwsJ5_init_a7421_2 _ (tkB_mem 13 11 h))) (tk_mem 11 _ (fun w h => (mwsJ5_init_a7421_3 _ (tkB_mem 0 11 h))) (List.forall_mem_cons.mpr ⟨(mwsJ5_init_a7421_0 _ (List.mem_of_getElem? (i := 6) rfl)), (tk_mem 13 _ (fun w h => (mwsJ5_init_a7421_3 _ (tkB_mem 11 13 h))) (List.forall_mem_cons.mpr ⟨(mwsJ5_init_a7421_4 _ (List.mem_of_getElem? (i := 0) rfl)), (List.forall_mem_cons.mpr ⟨(mwsJ5_init_a7421_4 _ (List.mem_of_getElem? (i := 1) rfl)), (List.forall_mem_cons.mpr ⟨(mwsJ5_init_a7421_0 _ (List.mem_of_getElem? (i := 23) rfl)), (tk_mem 10 _ (fun w h => (mwsJ5_init_a7421_4 _ (tkB_mem 2 10 h))) (List.forall_mem_cons.mpr ⟨(mwsJ5_init_a7421_0 _ (List.mem_of_getElem? (i := 11) rfl)), (tk_mem 11 _ (fun w h => (mwsJ5_init_a7421_4 _ (tkB_mem 12 11 h))) (List.forall_mem_cons.mpr ⟨(mwsJ5_init_a7421_0 _ (List.mem_of_getElem? (i := 8) rfl)), (List.forall_mem_cons.mpr ⟨(mwsJ5_init_a7421_0 _ (List.mem_of_getElem? (i := 9) rfl)), (List.forall_mem_cons.mpr ⟨(mwsJ5_init_a7421_0 _ (List.mem_of_getElem? (i := 10) rfl)), (tk_mem 8 _ (fun w h => (mwsJ5_init_a7421_0 _ (tkB_mem 12 8 h))) (List.forall_mem_cons.mpr ⟨(mwsJ5_init_a7421_4 _ (List.mem_of_getElem? (i := 23) rfl)), (tk_mem 9 _ (fun w h => (mwsJ5_init_a7421_5 _ (tkB_mem 0 9 h))) (List.forall_mem_cons.mpr ⟨(mwsJ5_init_a7421_0 _ (List.mem_of_getElem? (i := 20) rfl)), (tk_mem 5 _ (fun w h => (mwsJ5_init_a7421_5 _ (tkB_mem 9 5 h))) (List.forall_mem_cons.mpr ⟨(mwsJ5_init_a7421_0 _ (List.mem_of_getElem? (i := 21) rfl)), (List.forall_mem_cons.mpr ⟨(mwsJ5_init_a7421_0 _ (List.mem_of_getElem? (i := 22) rfl)), (tk_mem 5 _ (fun w h => (mwsJ5_init_a7421_1 _ (tkB_mem 0 5 h))) (tk_mem 10 _ (fun w h => (mwsJ5_init_a7421_5 _ (tkB_mem 14 10 h))) (tk_mem 12 _ (fun w h => (mwsJ5_init_a7421_6 _ (tkB_mem 0 12 h))) (tk_mem 4 _ (fun w h => (mwsJ5_init_a7421_7 _ (tkB_mem 0 4 h))) (tk_mem 4 _ (fun w h => (mwsJ5_init_a7421_8 _ (tkB_mem 0 4 h))) (fun _ h => absurd h List.not_mem_nil))))))⟩)⟩))⟩))⟩))⟩)⟩)⟩))⟩))⟩)⟩)⟩))⟩)))⟩))⟩))⟩)⟩)⟩)⟩))⟩)⟩)⟩)⟩)) (by decide +kernel)
set_option maxRecDepth 20000 in
theorem gJ5_init_a7421_J4_append_cf1ce_u43J4 : GoodIn wsJ5_init_a7421 (va_wsO RJ5 43 RJ4 "java/lang/AbstractStringBuilder" ⟨"java/lang/AbstractStringBuilder", "append", "(Ljava/lang/String;)Ljava/lang/AbstractStringBuilder;"⟩ yJ4_append_cf1ce wsJ4_append_cf1ce) := goodIn_app (goodIn_sub (tk_mem 6 _ (fun w h => (mwsJ5_init_a7421_1 _ (tkB_mem 5 6 h))) (fun _ h => absurd h List.not_mem_nil)) (by decide +kernel)) ggJ5_init_a7421_J4_append_cf1ce
theorem adJ5_init_a7421_0 : fd_rows (cJ5_init_a7421.data.toList.drop 0) 0 [(0, some (.aload_n 0), 1), (1, some (.invokespecial 3), 3), (4, some (.aload_n 1), 1), (5, some (.invokevirtual 32), 3), (8, some (.istore_n 2), 1), (9, some (.iload_n 2), 1), (10, some (.ldc 38), 2), (12, some (.if_icmp .ge 10), 3), (15, some (.iload_n 2), 1), (16, some (.bipush 16), 2), (18, some (.iadd), 1), (19, some (.goto 5), 3), (22, some (.ldc 39), 2), (24, some (.istore_n 3), 1), (25, some (.aload_n 1), 1), (26, some (.invokevirtual 40), 3)] = true := by decide +kernel
theorem adJ5_init_a7421_1 : fd_rows (cJ5_init_a7421.data.toList.drop 29) 29 [(29, some (.istore 4), 2), (31, some (.aload_n 0), 1), (32, some (.iload 4), 2), (34, some (.putfield 22), 3), (37, some (.aload_n 0), 1), (38, some (.iload 4), 2), (40, some (.ifCond .ne 9), 3), (43, some (.iload_n 3), 1), (44, none, 2), (46, some (.goto 7), 3), (49, some (.iload_n 3), 1), (50, some (.invokestatic 26), 3), (53, some (.putfield 15), 3), (56, some (.aload_n 0), 1), (57, some (.aload_n 1), 1), (58, some (.invokevirtual 43), 3)] = true := by decide +kernel
theorem adJ5_init_a7421_2 : fd_rows (cJ5_init_a7421.data.toList.drop 61) 61 [(61, some (.pop), 1), (62, some (.return_), 1)] = true := by decide +kernel
theorem dJ5_init_a7421_0 : decode cJ5_init_a7421 0 = .ok (.aload_n 0, 1) := fd_get adJ5_init_a7421_0 (k := 0) rfl
theorem dJ5_init_a7421_1 : decode cJ5_init_a7421 1 = .ok (.invokespecial 3, 3) := fd_get adJ5_init_a7421_0 (k := 1) rfl
theorem dJ5_init_a7421_4 : decode cJ5_init_a7421 4 = .ok (.aload_n 1, 1) := fd_get adJ5_init_a7421_0 (k := 2) rfl
theorem dJ5_init_a7421_5 : decode cJ5_init_a7421 5 = .ok (.invokevirtual 32, 3) := fd_get adJ5_init_a7421_0 (k := 3) rfl
theorem dJ5_init_a7421_8 : decode cJ5_init_a7421 8 = .ok (.istore_n 2, 1) := fd_get adJ5_init_a7421_0 (k := 4) rfl
theorem dJ5_init_a7421_9 : decode cJ5_init_a7421 9 = .ok (.iload_n 2, 1) := fd_get adJ5_init_a7421_0 (k := 5) rfl
theorem dJ5_init_a7421_10 : decode cJ5_init_a7421 10 = .ok (.ldc 38, 2) := fd_get adJ5_init_a7421_0 (k := 6) rfl
theorem dJ5_init_a7421_12 : decode cJ5_init_a7421 12 = .ok (.if_icmp .ge 10, 3) := fd_get adJ5_init_a7421_0 (k := 7) rfl
theorem dJ5_init_a7421_15 : decode cJ5_init_a7421 15 = .ok (.iload_n 2, 1) := fd_get adJ5_init_a7421_0 (k := 8) rfl
theorem dJ5_init_a7421_16 : decode cJ5_init_a7421 16 = .ok (.bipush 16, 2) := fd_get adJ5_init_a7421_0 (k := 9) rfl
theorem dJ5_init_a7421_18 : decode cJ5_init_a7421 18 = .ok (.iadd, 1) := fd_get adJ5_init_a7421_0 (k := 10) rfl
theorem dJ5_init_a7421_19 : decode cJ5_init_a7421 19 = .ok (.goto 5, 3) := fd_get adJ5_init_a7421_0 (k := 11) rfl
theorem dJ5_init_a7421_24 : decode cJ5_init_a7421 24 = .ok (.istore_n 3, 1) := fd_get adJ5_init_a7421_0 (k := 13) rfl
theorem dJ5_init_a7421_25 : decode cJ5_init_a7421 25 = .ok (.aload_n 1, 1) := fd_get adJ5_init_a7421_0 (k := 14) rfl
theorem dJ5_init_a7421_26 : decode cJ5_init_a7421 26 = .ok (.invokevirtual 40, 3) := fd_get adJ5_init_a7421_0 (k := 15) rfl
theorem dJ5_init_a7421_29 : decode cJ5_init_a7421 29 = .ok (.istore 4, 2) := fd_get adJ5_init_a7421_1 (k := 0) rfl
theorem dJ5_init_a7421_31 : decode cJ5_init_a7421 31 = .ok (.aload_n 0, 1) := fd_get adJ5_init_a7421_1 (k := 1) rfl
theorem dJ5_init_a7421_32 : decode cJ5_init_a7421 32 = .ok (.iload 4, 2) := fd_get adJ5_init_a7421_1 (k := 2) rfl
theorem dJ5_init_a7421_34 : decode cJ5_init_a7421 34 = .ok (.putfield 22, 3) := fd_get adJ5_init_a7421_1 (k := 3) rfl
theorem dJ5_init_a7421_37 : decode cJ5_init_a7421 37 = .ok (.aload_n 0, 1) := fd_get adJ5_init_a7421_1 (k := 4) rfl
theorem dJ5_init_a7421_38 : decode cJ5_init_a7421 38 = .ok (.iload 4, 2) := fd_get adJ5_init_a7421_1 (k := 5) rfl
theorem dJ5_init_a7421_40 : decode cJ5_init_a7421 40 = .ok (.ifCond .ne 9, 3) := fd_get adJ5_init_a7421_1 (k := 6) rfl
theorem dJ5_init_a7421_43 : decode cJ5_init_a7421 43 = .ok (.iload_n 3, 1) := fd_get adJ5_init_a7421_1 (k := 7) rfl
theorem dJ5_init_a7421_44 : decode cJ5_init_a7421 44 = .ok (.newarray .byte, 2) := by decide +kernel
theorem dJ5_init_a7421_46 : decode cJ5_init_a7421 46 = .ok (.goto 7, 3) := fd_get adJ5_init_a7421_1 (k := 9) rfl
theorem dJ5_init_a7421_53 : decode cJ5_init_a7421 53 = .ok (.putfield 15, 3) := fd_get adJ5_init_a7421_1 (k := 12) rfl
theorem dJ5_init_a7421_56 : decode cJ5_init_a7421 56 = .ok (.aload_n 0, 1) := fd_get adJ5_init_a7421_1 (k := 13) rfl
theorem dJ5_init_a7421_57 : decode cJ5_init_a7421 57 = .ok (.aload_n 1, 1) := fd_get adJ5_init_a7421_1 (k := 14) rfl
theorem dJ5_init_a7421_58 : decode cJ5_init_a7421 58 = .ok (.invokevirtual 43, 3) := fd_get adJ5_init_a7421_1 (k := 15) rfl
theorem dJ5_init_a7421_61 : decode cJ5_init_a7421 61 = .ok (.pop, 1) := fd_get adJ5_init_a7421_2 (k := 0) rfl
theorem dJ5_init_a7421_62 : decode cJ5_init_a7421 62 = .ok (.return_, 1) := fd_get adJ5_init_a7421_2 (k := 1) rfl
theorem adJ5_length_8abf5_0 : fd_rows (cJ5_length_8abf5.data.toList.drop 0) 0 [(0, some (.aload_n 0), 1), (1, some (.getfield 79), 3), (4, some (.ireturn), 1)] = true := by decide +kernel
theorem dJ5_length_8abf5_0 : decode cJ5_length_8abf5 0 = .ok (.aload_n 0, 1) := fd_get adJ5_length_8abf5_0 (k := 0) rfl
theorem dJ5_length_8abf5_1 : decode cJ5_length_8abf5 1 = .ok (.getfield 79, 3) := fd_get adJ5_length_8abf5_0 (k := 1) rfl
theorem dJ5_length_8abf5_4 : decode cJ5_length_8abf5 4 = .ok (.ireturn, 1) := fd_get adJ5_length_8abf5_0 (k := 2) rfl
theorem mwsJ5_ensureCapacityInternal_d00df_0 : ∀ w ∈ wsJ5_ensureCapacityInternal_d00df_r1, w ∈ wsJ5_ensureCapacityInternal_d00df := fun w h => (List.mem_cons_of_mem _ (List.mem_append_left _ (List.mem_append_left _ h)))
theorem mwsJ5_ensureCapacityInternal_d00df_1 : ∀ w ∈ wsJ5_ensureCapacityInternal_d00df_r2, w ∈ wsJ5_ensureCapacityInternal_d00df := fun w h => (List.mem_cons_of_mem _ (List.mem_append_left _ (List.mem_append_right _ h)))
theorem mwsJ5_ensureCapacityInternal_d00df_2 : ∀ w ∈ wsJ40, w ∈ wsJ5_ensureCapacityInternal_d00df := fun w h => (List.mem_cons_of_mem _ (List.mem_append_right _ h))
set_option maxRecDepth 20000 in
theorem ggJ5_ensureCapacityInternal_d00df_J5_newCapacity_0f7a4 : GoodIn wsJ5_ensureCapacityInternal_d00df wsJ5_newCapacity_0f7a4 := goodIn_sub (List.forall_mem_cons.mpr ⟨(mwsJ5_ensureCapacityInternal_d00df_0 _ (List.mem_of_getElem? (i := 7) rfl)), (List.forall_mem_cons.mpr ⟨(mwsJ5_ensureCapacityInternal_d00df_0 _ (List.mem_of_getElem? (i := 0) rfl)), (List.forall_mem_cons.mpr ⟨(mwsJ5_ensureCapacityInternal_d00df_0 _ (List.mem_of_getElem? (i := 1) rfl)), (tk_mem 13 _ (fun w h => (mwsJ5_ensureCapacityInternal_d00df_0 _ (tkB_mem 8 13 h))) (tk_mem 4 _ (fun w h => (mwsJ5_ensureCapacityInternal_d00df_2 _ (tkB_mem 0 4 h))) (fun _ h => absurd h List.not_mem_nil)))⟩)⟩)⟩) (by decide +kernel)
set_option maxRecDepth 20000 in
theorem gJ5_ensureCapacityInternal_d00df_J5_newCapacity_0f7a4_u104J4 : GoodIn wsJ5_ensureCapacityInternal_d00df (va_wsU RJ5 104 RJ4 "java/lang/AbstractStringBuilder" ⟨"java/lang/AbstractStringBuilder", "newCapacity", "(I)I"⟩ yJ5_newCapacity_0f7a4 wsJ5_newCapacity_0f7a4) := goodIn_app (goodIn_sub (tk_mem 5 _ (fun w h => (mwsJ5_ensureCapacityInternal_d00df_0 _ (tkB_mem 2 5 h))) (fun _ h => absurd h List.not_mem_nil)) (by decide +kernel)) ggJ5_ensureCapacityInternal_d00df_J5_newCapacity_0f7a4
set_option maxRecDepth 20000 in
theorem ggJ5_ensureCapacityInternal_d00df_J7_copyOf_9075b : GoodIn wsJ5_ensureCapacityInternal_d00df wsJ7_copyOf_9075b := goodIn_sub (tk_mem 10 _ (fun w h => (mwsJ5_ensureCapacityInternal_d00df_1 _ (tkB_mem 0 10 h))) (List.forall_mem_cons.mpr ⟨(mwsJ5_ensureCapacityInternal_d00df_0 _ (List.mem_of_getElem? (i := 15) rfl)), (tk_mem 5 _ (fun w h => (mwsJ5_ensureCapacityInternal_d00df_1 _ (tkB_mem 10 5 h))) (fun _ h => absurd h List.not_mem_nil))⟩)) (by decide +kernel)
set_option maxRecDepth 20000 in
theorem gJ5_ensureCapacityInternal_d00df_J7_copyOf_9075b : GoodIn wsJ5_ensureCapacityInternal_d00df (va_wsS RJ5 108 yJ7_copyOf_9075b wsJ7_copyOf_9075b) := goodIn_app (goodIn_sub (List.forall_mem_cons.mpr ⟨(mwsJ5_ensureCapacityInternal_d00df_0 _ (List.mem_of_getElem? (i := 21) rfl)), (List.forall_mem_cons.mpr ⟨(mwsJ5_ensureCapacityInternal_d00df_0 _ (List.mem_of_getElem? (i := 22) rfl)), (List.forall_mem_cons.mpr ⟨(mwsJ5_ensureCapacityInternal_d00df_0 _ (List.mem_of_getElem? (i := 23) rfl)), (fun _ h => absurd h List.not_mem_nil)⟩)⟩)⟩) (by decide +kernel)) ggJ5_ensureCapacityInternal_d00df_J7_copyOf_9075b
theorem adJ5_ensureCapacityInternal_d00df_0 : fd_rows (cJ5_ensureCapacityInternal_d00df.data.toList.drop 0) 0 [(0, some (.aload_n 0), 1), (1, some (.getfield 15), 3), (4, some (.arraylength), 1), (5, some (.aload_n 0), 1), (6, some (.getfield 22), 3), (9, some (.ishr), 1), (10, some (.istore_n 2), 1), (11, some (.iload_n 1), 1), (12, some (.iload_n 2), 1), (13, some (.isub), 1), (14, some (.ifCond .le 24), 3), (17, some (.aload_n 0), 1), (18, some (.aload_n 0), 1), (19, some (.getfield 15), 3), (22, some (.aload_n 0), 1), (23, some (.iload_n 1), 1)] = true := by decide +kernel
theorem adJ5_ensureCapacityInternal_d00df_1 : fd_rows (cJ5_ensureCapacityInternal_d00df.data.toList.drop 24) 24 [(24, some (.invokevirtual 104), 3), (27, some (.aload_n 0), 1), (28, some (.getfield 22), 3), (31, some (.ishl), 1), (32, some (.invokestatic 108), 3), (35, some (.putfield 15), 3), (38, some (.return_), 1)] = true := by decide +kernel
theorem dJ5_ensureCapacityInternal_d00df_0 : decode cJ5_ensureCapacityInternal_d00df 0 = .ok (.aload_n 0, 1) := fd_get adJ5_ensureCapacityInternal_d00df_0 (k := 0) rfl
theorem dJ5_ensureCapacityInternal_d00df_1 : decode cJ5_ensureCapacityInternal_d00df 1 = .ok (.getfield 15, 3) := fd_get adJ5_ensureCapacityInternal_d00df_0 (k := 1) rfl
theorem dJ5_ensureCapacityInternal_d00df_4 : decode cJ5_ensureCapacityInternal_d00df 4 = .ok (.arraylength, 1) := fd_get adJ5_ensureCapacityInternal_d00df_0 (k := 2) rfl
theorem dJ5_ensureCapacityInternal_d00df_5 : decode cJ5_ensureCapacityInternal_d00df 5 = .ok (.aload_n 0, 1) := fd_get adJ5_ensureCapacityInternal_d00df_0 (k := 3) rfl
theorem dJ5_ensureCapacityInternal_d00df_6 : decode cJ5_ensureCapacityInternal_d00df 6 = .ok (.getfield 22, 3) := fd_get adJ5_ensureCapacityInternal_d00df_0 (k := 4) rfl
theorem dJ5_ensureCapacityInternal_d00df_9 : decode cJ5_ensureCapacityInternal_d00df 9 = .ok (.ishr, 1) := fd_get adJ5_ensureCapacityInternal_d00df_0 (k := 5) rfl
theorem dJ5_ensureCapacityInternal_d00df_10 : decode cJ5_ensureCapacityInternal_d00df 10 = .ok (.istore_n 2, 1) := fd_get adJ5_ensureCapacityInternal_d00df_0 (k := 6) rfl
theorem dJ5_ensureCapacityInternal_d00df_11 : decode cJ5_ensureCapacityInternal_d00df 11 = .ok (.iload_n 1, 1) := fd_get adJ5_ensureCapacityInternal_d00df_0 (k := 7) rfl
theorem dJ5_ensureCapacityInternal_d00df_12 : decode cJ5_ensureCapacityInternal_d00df 12 = .ok (.iload_n 2, 1) := fd_get adJ5_ensureCapacityInternal_d00df_0 (k := 8) rfl
theorem dJ5_ensureCapacityInternal_d00df_13 : decode cJ5_ensureCapacityInternal_d00df 13 = .ok (.isub, 1) := fd_get adJ5_ensureCapacityInternal_d00df_0 (k := 9) rfl
theorem dJ5_ensureCapacityInternal_d00df_14 : decode cJ5_ensureCapacityInternal_d00df 14 = .ok (.ifCond .le 24, 3) := fd_get adJ5_ensureCapacityInternal_d00df_0 (k := 10) rfl
theorem dJ5_ensureCapacityInternal_d00df_17 : decode cJ5_ensureCapacityInternal_d00df 17 = .ok (.aload_n 0, 1) := fd_get adJ5_ensureCapacityInternal_d00df_0 (k := 11) rfl
theorem dJ5_ensureCapacityInternal_d00df_18 : decode cJ5_ensureCapacityInternal_d00df 18 = .ok (.aload_n 0, 1) := fd_get adJ5_ensureCapacityInternal_d00df_0 (k := 12) rfl
theorem dJ5_ensureCapacityInternal_d00df_19 : decode cJ5_ensureCapacityInternal_d00df 19 = .ok (.getfield 15, 3) := fd_get adJ5_ensureCapacityInternal_d00df_0 (k := 13) rfl
theorem dJ5_ensureCapacityInternal_d00df_22 : decode cJ5_ensureCapacityInternal_d00df 22 = .ok (.aload_n 0, 1) := fd_get adJ5_ensureCapacityInternal_d00df_0 (k := 14) rfl
theorem dJ5_ensureCapacityInternal_d00df_23 : decode cJ5_ensureCapacityInternal_d00df 23 = .ok (.iload_n 1, 1) := fd_get adJ5_ensureCapacityInternal_d00df_0 (k := 15) rfl
theorem dJ5_ensureCapacityInternal_d00df_24 : decode cJ5_ensureCapacityInternal_d00df 24 = .ok (.invokevirtual 104, 3) := fd_get adJ5_ensureCapacityInternal_d00df_1 (k := 0) rfl
theorem dJ5_ensureCapacityInternal_d00df_27 : decode cJ5_ensureCapacityInternal_d00df 27 = .ok (.aload_n 0, 1) := fd_get adJ5_ensureCapacityInternal_d00df_1 (k := 1) rfl
theorem dJ5_ensureCapacityInternal_d00df_28 : decode cJ5_ensureCapacityInternal_d00df 28 = .ok (.getfield 22, 3) := fd_get adJ5_ensureCapacityInternal_d00df_1 (k := 2) rfl
theorem dJ5_ensureCapacityInternal_d00df_31 : decode cJ5_ensureCapacityInternal_d00df 31 = .ok (.ishl, 1) := fd_get adJ5_ensureCapacityInternal_d00df_1 (k := 3) rfl
theorem dJ5_ensureCapacityInternal_d00df_32 : decode cJ5_ensureCapacityInternal_d00df 32 = .ok (.invokestatic 108, 3) := fd_get adJ5_ensureCapacityInternal_d00df_1 (k := 4) rfl
theorem dJ5_ensureCapacityInternal_d00df_35 : decode cJ5_ensureCapacityInternal_d00df 35 = .ok (.putfield 15, 3) := fd_get adJ5_ensureCapacityInternal_d00df_1 (k := 5) rfl
theorem dJ5_ensureCapacityInternal_d00df_38 : decode cJ5_ensureCapacityInternal_d00df 38 = .ok (.return_, 1) := fd_get adJ5_ensureCapacityInternal_d00df_1 (k := 6) rfl
set_option maxRecDepth 20000 in
theorem ggJ5_newCapacity_0f7a4_J8_newLength_cabcc : GoodIn wsJ5_newCapacity_0f7a4 wsJ8_newLength_cabcc := goodIn_sub (tk_mem 8 _ (fun w h => (List.mem_cons_of_mem _ (List.mem_append_left _ (tkB_mem 6 8 h)))) (List.forall_mem_cons.mpr ⟨(List.mem_cons_of_mem _ (List.mem_append_left _ (List.mem_of_getElem? (i := 5) rfl))), (List.forall_mem_cons.mpr ⟨(List.mem_cons_of_mem _ (List.mem_append_left _ (List.mem_of_getElem? (i := 14) rfl))), (fun _ h => absurd h List.not_mem_nil)⟩)⟩)) (by decide +kernel)
set_option maxRecDepth 20000 in
theorem gJ5_newCapacity_0f7a4_J8_newLength_cabcc : GoodIn wsJ5_newCapacity_0f7a4 (va_wsS RJ5 114 yJ8_newLength_cabcc wsJ8_newLength_cabcc) := goodIn_app (goodIn_sub (List.forall_mem_cons.mpr ⟨(List.mem_cons_of_mem _ (List.mem_append_left _ (List.mem_of_getElem? (i := 3) rfl))), (List.forall_mem_cons.mpr ⟨(List.mem_cons_of_mem _ (List.mem_append_left _ (List.mem_of_getElem? (i := 4) rfl))), (List.forall_mem_cons.mpr ⟨(List.mem_cons_of_mem _ (List.mem_append_left _ (List.mem_of_getElem? (i := 5) rfl))), (fun _ h => absurd h List.not_mem_nil)⟩)⟩)⟩) (by decide +kernel)) ggJ5_newCapacity_0f7a4_J8_newLength_cabcc
theorem adJ5_newCapacity_0f7a4_0 : fd_rows (cJ5_newCapacity_0f7a4.data.toList.drop 0) 0 [(0, some (.aload_n 0), 1), (1, some (.getfield 15), 3), (4, some (.arraylength), 1), (5, some (.istore_n 2), 1), (6, some (.iload_n 1), 1), (7, some (.aload_n 0), 1), (8, some (.getfield 22), 3), (11, some (.ishl), 1), (12, some (.istore_n 3), 1), (13, some (.iload_n 3), 1), (14, some (.iload_n 2), 1), (15, some (.isub), 1), (16, some (.istore 4), 2), (18, some (.iload_n 2), 1), (19, some (.iload 4), 2), (21, some (.iload_n 2), 1)] = true := by decide +kernel
theorem adJ5_newCapacity_0f7a4_1 : fd_rows (cJ5_newCapacity_0f7a4.data.toList.drop 22) 22 [(22, some (.iconst 2), 1), (23, some (.aload_n 0), 1), (24, some (.getfield 22), 3), (27, some (.ishl), 1), (28, some (.iadd), 1), (29, some (.invokestatic 114), 3), (32, some (.istore 5), 2), (34, some (.iload 5), 2), (36, some (.ldc 39), 2), (38, some (.if_icmp .ne 13), 3), (41, some (.new 120), 3), (44, some (.dup), 1), (45, some (.ldc 122), 2), (47, some (.invokespecial 124), 3), (50, some (.athrow), 1), (51, some (.iload 5), 2)] = true := by decide +kernel
theorem adJ5_newCapacity_0f7a4_2 : fd_rows (cJ5_newCapacity_0f7a4.data.toList.drop 53) 53 [(53, some (.aload_n 0), 1), (54, some (.getfield 22), 3), (57, some (.ishr), 1), (58, some (.ireturn), 1)] = true := by decide +kernel
theorem dJ5_newCapacity_0f7a4_0 : decode cJ5_newCapacity_0f7a4 0 = .ok (.aload_n 0, 1) := fd_get adJ5_newCapacity_0f7a4_0 (k := 0) rfl
theorem dJ5_newCapacity_0f7a4_1 : decode cJ5_newCapacity_0f7a4 1 = .ok (.getfield 15, 3) := fd_get adJ5_newCapacity_0f7a4_0 (k := 1) rfl
theorem dJ5_newCapacity_0f7a4_4 : decode cJ5_newCapacity_0f7a4 4 = .ok (.arraylength, 1) := fd_get adJ5_newCapacity_0f7a4_0 (k := 2) rfl
theorem dJ5_newCapacity_0f7a4_5 : decode cJ5_newCapacity_0f7a4 5 = .ok (.istore_n 2, 1) := fd_get adJ5_newCapacity_0f7a4_0 (k := 3) rfl
theorem dJ5_newCapacity_0f7a4_6 : decode cJ5_newCapacity_0f7a4 6 = .ok (.iload_n 1, 1) := fd_get adJ5_newCapacity_0f7a4_0 (k := 4) rfl
theorem dJ5_newCapacity_0f7a4_7 : decode cJ5_newCapacity_0f7a4 7 = .ok (.aload_n 0, 1) := fd_get adJ5_newCapacity_0f7a4_0 (k := 5) rfl
theorem dJ5_newCapacity_0f7a4_8 : decode cJ5_newCapacity_0f7a4 8 = .ok (.getfield 22, 3) := fd_get adJ5_newCapacity_0f7a4_0 (k := 6) rfl
theorem dJ5_newCapacity_0f7a4_11 : decode cJ5_newCapacity_0f7a4 11 = .ok (.ishl, 1) := fd_get adJ5_newCapacity_0f7a4_0 (k := 7) rfl
theorem dJ5_newCapacity_0f7a4_12 : decode cJ5_newCapacity_0f7a4 12 = .ok (.istore_n 3, 1) := fd_get adJ5_newCapacity_0f7a4_0 (k := 8) rfl
theorem dJ5_newCapacity_0f7a4_13 : decode cJ5_newCapacity_0f7a4 13 = .ok (.iload_n 3, 1) := fd_get adJ5_newCapacity_0f7a4_0 (k := 9) rfl
theorem dJ5_newCapacity_0f7a4_14 : decode cJ5_newCapacity_0f7a4 14 = .ok (.iload_n 2, 1) := fd_get adJ5_newCapacity_0f7a4_0 (k := 10) rfl
theorem dJ5_newCapacity_0f7a4_15 : decode cJ5_newCapacity_0f7a4 15 = .ok (.isub, 1) := fd_get adJ5_newCapacity_0f7a4_0 (k := 11) rfl
theorem dJ5_newCapacity_0f7a4_16 : decode cJ5_newCapacity_0f7a4 16 = .ok (.istore 4, 2) := fd_get adJ5_newCapacity_0f7a4_0 (k := 12) rfl
theorem dJ5_newCapacity_0f7a4_18 : decode cJ5_newCapacity_0f7a4 18 = .ok (.iload_n 2, 1) := fd_get adJ5_newCapacity_0f7a4_0 (k := 13) rfl
theorem dJ5_newCapacity_0f7a4_19 : decode cJ5_newCapacity_0f7a4 19 = .ok (.iload 4, 2) := fd_get adJ5_newCapacity_0f7a4_0 (k := 14) rfl
theorem dJ5_newCapacity_0f7a4_21 : decode cJ5_newCapacity_0f7a4 21 = .ok (.iload_n 2, 1) := fd_get adJ5_newCapacity_0f7a4_0 (k := 15) rfl
theorem dJ5_newCapacity_0f7a4_22 : decode cJ5_newCapacity_0f7a4 22 = .ok (.iconst 2, 1) := fd_get adJ5_newCapacity_0f7a4_1 (k := 0) rfl
theorem dJ5_newCapacity_0f7a4_23 : decode cJ5_newCapacity_0f7a4 23 = .ok (.aload_n 0, 1) := fd_get adJ5_newCapacity_0f7a4_1 (k := 1) rfl
theorem dJ5_newCapacity_0f7a4_24 : decode cJ5_newCapacity_0f7a4 24 = .ok (.getfield 22, 3) := fd_get adJ5_newCapacity_0f7a4_1 (k := 2) rfl
theorem dJ5_newCapacity_0f7a4_27 : decode cJ5_newCapacity_0f7a4 27 = .ok (.ishl, 1) := fd_get adJ5_newCapacity_0f7a4_1 (k := 3) rfl
theorem dJ5_newCapacity_0f7a4_28 : decode cJ5_newCapacity_0f7a4 28 = .ok (.iadd, 1) := fd_get adJ5_newCapacity_0f7a4_1 (k := 4) rfl
theorem dJ5_newCapacity_0f7a4_29 : decode cJ5_newCapacity_0f7a4 29 = .ok (.invokestatic 114, 3) := fd_get adJ5_newCapacity_0f7a4_1 (k := 5) rfl
theorem dJ5_newCapacity_0f7a4_32 : decode cJ5_newCapacity_0f7a4 32 = .ok (.istore 5, 2) := fd_get adJ5_newCapacity_0f7a4_1 (k := 6) rfl
theorem dJ5_newCapacity_0f7a4_34 : decode cJ5_newCapacity_0f7a4 34 = .ok (.iload 5, 2) := fd_get adJ5_newCapacity_0f7a4_1 (k := 7) rfl
theorem dJ5_newCapacity_0f7a4_36 : decode cJ5_newCapacity_0f7a4 36 = .ok (.ldc 39, 2) := fd_get adJ5_newCapacity_0f7a4_1 (k := 8) rfl
theorem dJ5_newCapacity_0f7a4_38 : decode cJ5_newCapacity_0f7a4 38 = .ok (.if_icmp .ne 13, 3) := fd_get adJ5_newCapacity_0f7a4_1 (k := 9) rfl
theorem dJ5_newCapacity_0f7a4_51 : decode cJ5_newCapacity_0f7a4 51 = .ok (.iload 5, 2) := fd_get adJ5_newCapacity_0f7a4_1 (k := 15) rfl
theorem dJ5_newCapacity_0f7a4_53 : decode cJ5_newCapacity_0f7a4 53 = .ok (.aload_n 0, 1) := fd_get adJ5_newCapacity_0f7a4_2 (k := 0) rfl
theorem dJ5_newCapacity_0f7a4_54 : decode cJ5_newCapacity_0f7a4 54 = .ok (.getfield 22, 3) := fd_get adJ5_newCapacity_0f7a4_2 (k := 1) rfl
theorem dJ5_newCapacity_0f7a4_57 : decode cJ5_newCapacity_0f7a4 57 = .ok (.ishr, 1) := fd_get adJ5_newCapacity_0f7a4_2 (k := 2) rfl
theorem dJ5_newCapacity_0f7a4_58 : decode cJ5_newCapacity_0f7a4 58 = .ok (.ireturn, 1) := fd_get adJ5_newCapacity_0f7a4_2 (k := 3) rfl
theorem mwsJ5_append_cf1ce_0 : ∀ w ∈ wsJ5_append_cf1ce_r1, w ∈ wsJ5_append_cf1ce := fun w h => (List.mem_cons_of_mem _ (List.mem_append_left _ (List.mem_append_left _ (List.mem_append_left _ h))))
theorem mwsJ5_append_cf1ce_1 : ∀ w ∈ wsJ5_append_cf1ce_r2, w ∈ wsJ5_append_cf1ce := fun w h => (List.mem_cons_of_mem _ (List.mem_append_left _ (List.mem_append_left _ (List.mem_append_right _ (List.mem_append_left _ h)))))
theorem mwsJ5_append_cf1ce_2 : ∀ w ∈ wsJ5_append_cf1ce_r3, w ∈ wsJ5_append_cf1ce := fun w h => (List.mem_cons_of_mem _ (List.mem_append_left _ (List.mem_append_left _ (List.mem_append_right _ (List.mem_append_right _ (List.mem_append_left _ h))))))
theorem mwsJ5_append_cf1ce_3 : ∀ w ∈ wsJ5_append_cf1ce_r4, w ∈ wsJ5_append_cf1ce := fun w h => (List.mem_cons_of_mem _ (List.mem_append_left _ (List.mem_append_left _ (List.mem_append_right _ (List.mem_append_right _ (List.mem_append_right _ (List.mem_append_left _ h)))))))
theorem mwsJ5_append_cf1ce_4 : ∀ w ∈ wsJ5_append_cf1ce_r5, w ∈ wsJ5_append_cf1ce := fun w h => (List.mem_cons_of_mem _ (List.mem_append_left _ (List.mem_append_left _ (List.mem_append_right _ (List.mem_append_right _ (List.mem_append_right _ (List.mem_append_right _ (List.mem_append_left _ h))))))))
theorem mwsJ5_append_cf1ce_5 : ∀ w ∈ wsJ5_append_cf1ce_r6, w ∈ wsJ5_append_cf1ce := fun w h => (List.mem_cons_of_mem _ (List.mem_append_left _ (List.mem_append_left _ (List.mem_append_right _ (List.mem_append_right _ (List.mem_append_right _ (List.mem_append_right _ (List.mem_append_right _ h))))))))
theorem mwsJ5_append_cf1ce_6 : ∀ w ∈ wsJ40, w ∈ wsJ5_append_cf1ce := fun w h => (List.mem_cons_of_mem _ (List.mem_append_left _ (List.mem_append_right _ h)))
theorem mwsJ5_append_cf1ce_7 : ∀ w ∈ wsJ00, w ∈ wsJ5_append_cf1ce := fun w h => (List.mem_cons_of_mem _ (List.mem_append_right _ h))
set_option maxRecDepth 20000 in
theorem ggJ5_append_cf1ce_J0_length_8abf5 : GoodIn wsJ5_append_cf1ce wsJ0_length_8abf5 := goodIn_sub (tk_mem 5 _ (fun w h => (mwsJ5_append_cf1ce_3 _ (tkB_mem 12 5 h))) (List.forall_mem_cons.mpr ⟨(mwsJ5_append_cf1ce_2 _ (List.mem_of_getElem? (i := 21) rfl)), (List.forall_mem_cons.mpr ⟨(mwsJ5_append_cf1ce_3 _ (List.mem_of_getElem? (i := 17) rfl)), (List.forall_mem_cons.mpr ⟨(mwsJ5_append_cf1ce_3 _ (List.mem_of_getElem? (i := 18) rfl)), (List.forall_mem_cons.mpr ⟨(mwsJ5_append_cf1ce_3 _ (List.mem_of_getElem? (i := 19) rfl)), (tk_mem 4 _ (fun w h => (mwsJ5_append_cf1ce_7 _ (tkB_mem 0 4 h))) (fun _ h => absurd h List.not_mem_nil))⟩)⟩)⟩)⟩)) (by decide +kernel)
set_option maxRecDepth 20000 in
theorem gJ5_append_cf1ce_J0_length_8abf5 : GoodIn wsJ5_append_cf1ce (wsV RJ5 32 RJ0 yJ0_length_8abf5 wsJ0_length_8abf5) := goodIn_app (goodIn_sub (List.forall_mem_cons.mpr ⟨(mwsJ5_append_cf1ce_3 _ (List.mem_of_getElem? (i := 9) rfl)), (List.forall_mem_cons.mpr ⟨(mwsJ5_append_cf1ce_3 _ (List.mem_of_getElem? (i := 10) rfl)), (List.forall_mem_cons.mpr ⟨(mwsJ5_append_cf1ce_3 _ (List.mem_of_getElem? (i := 11) rfl)), (List.forall_mem_cons.mpr ⟨(mwsJ5_append_cf1ce_2 _ (List.mem_of_getElem? (i := 21) rfl)), (fun _ h => absurd h List.not_mem_nil)⟩)⟩)⟩)⟩) (by decide +kernel)) ggJ5_append_cf1ce_J0_length_8abf5
set_option maxRecDepth 20000 in
theorem ggJ5_append_cf1ce_J5_ensureCapacityInternal_d00df : GoodIn wsJ5_append_cf1ce wsJ5_ensureCapacityInternal_d00df := goodIn_sub (List.forall_mem_cons.mpr ⟨(mwsJ5_append_cf1ce_0 _ (List.mem_of_getElem? (i := 12) rfl)), (List.forall_mem_cons.mpr ⟨(mwsJ5_append_cf1ce_0 _ (List.mem_of_getElem? (i := 7) rfl)), (tk_mem 5 _ (fun w h => (mwsJ5_append_cf1ce_0 _ (tkB_mem 13 5 h))) (List.forall_mem_cons.mpr ⟨(mwsJ5_append_cf1ce_0 _ (List.mem_of_getElem? (i := 5) rfl)), (tk_mem 6 _ (fun w h => (mwsJ5_append_cf1ce_0 _ (tkB_mem 18 6 h))) (tk_mem 24 _ (fun w h => (mwsJ5_append_cf1ce_1 _ (tkB_mem 0 24 h))) (List.forall_mem_cons.mpr ⟨(mwsJ5_append_cf1ce_2 _ (List.mem_of_getElem? (i := 0) rfl)), (List.forall_mem_cons.mpr ⟨(mwsJ5_append_cf1ce_2 _ (List.mem_of_getElem? (i := 1) rfl)), (tk_mem 4 _ (fun w h => (mwsJ5_append_cf1ce_6 _ (tkB_mem 0 4 h))) (fun _ h => absurd h List.not_mem_nil))⟩)⟩)))⟩))⟩)⟩) (by decide +kernel)
set_option maxRecDepth 20000 in
theorem gJ5_append_cf1ce_J5_ensureCapacityInternal_d00df_u100J4 : GoodIn wsJ5_append_cf1ce (va_wsU RJ5 100 RJ4 "java/lang/AbstractStringBuilder" ⟨"java/lang/AbstractStringBuilder", "ensureCapacityInternal", "(I)V"⟩ yJ5_ensureCapacityInternal_d00df wsJ5_ensureCapacityInternal_d00df) := goodIn_app (goodIn_sub (tk_mem 4 _ (fun w h => (mwsJ5_append_cf1ce_0 _ (tkB_mem 8 4 h))) (List.forall_mem_cons.mpr ⟨(mwsJ5_append_cf1ce_0 _ (List.mem_of_getElem? (i := 5) rfl)), (fun _ h => absurd h List.not_mem_nil)⟩)) (by decide +kernel)) ggJ5_append_cf1ce_J5_ensureCapacityInternal_d00df
set_option maxRecDepth 20000 in
theorem ggJ5_append_cf1ce_J5_putStringAt_47b60 : GoodIn wsJ5_append_cf1ce wsJ5_putStringAt_47b60 := goodIn_sub (List.forall_mem_cons.mpr ⟨(mwsJ5_append_cf1ce_4 _ (List.mem_of_getElem? (i := 0) rfl)), (List.forall_mem_cons.mpr ⟨(mwsJ5_append_cf1ce_0 _ (List.mem_of_getElem? (i := 7) rfl)), (List.forall_mem_cons.mpr ⟨(mwsJ5_append_cf1ce_0 _ (List.mem_of_getElem? (i := 13) rfl)), (tk_mem 4 _ (fun w h => (mwsJ5_append_cf1ce_4 _ (tkB_mem 1 4 h))) (List.forall_mem_cons.mpr ⟨(mwsJ5_append_cf1ce_0 _ (List.mem_of_getElem? (i := 5) rfl)), (List.forall_mem_cons.mpr ⟨(mwsJ5_append_cf1ce_4 _ (List.mem_of_getElem? (i := 5) rfl)), (List.forall_mem_cons.mpr ⟨(mwsJ5_append_cf1ce_2 _ (List.mem_of_getElem? (i := 7) rfl)), (List.forall_mem_cons.mpr ⟨(mwsJ5_append_cf1ce_4 _ (List.mem_of_getElem? (i := 6) rfl)), (List.forall_mem_cons.mpr ⟨(mwsJ5_append_cf1ce_3 _ (List.mem_of_getElem? (i := 15) rfl)), (List.forall_mem_cons.mpr ⟨(mwsJ5_append_cf1ce_3 _ (List.mem_of_getElem? (i := 16) rfl)), (List.forall_mem_cons.mpr ⟨(mwsJ5_append_cf1ce_2 _ (List.mem_of_getElem? (i := 21) rfl)), (List.forall_mem_cons.mpr ⟨(mwsJ5_append_cf1ce_3 _ (List.mem_of_getElem? (i := 17) rfl)), (List.forall_mem_cons.mpr ⟨(mwsJ5_append_cf1ce_3 _ (List.mem_of_getElem? (i := 18) rfl)), (List.forall_mem_cons.mpr ⟨(mwsJ5_append_cf1ce_3 _ (List.mem_of_getElem? (i := 19) rfl)), (tk_mem 5 _ (fun w h => (mwsJ5_append_cf1ce_4 _ (tkB_mem 7 5 h))) (List.forall_mem_cons.mpr ⟨(mwsJ5_append_cf1ce_0 _ (List.mem_of_getElem? (i := 0) rfl)), (tk_mem 5 _ (fun w h => (mwsJ5_append_cf1ce_2 _ (tkB_mem 2 5 h))) (List.forall_mem_cons.mpr ⟨(mwsJ5_append_cf1ce_4 _ (List.mem_of_getElem? (i := 12) rfl)), (List.forall_mem_cons.mpr ⟨(mwsJ5_append_cf1ce_4 _ (List.mem_of_getElem? (i := 13) rfl)), (List.forall_mem_cons.mpr ⟨(mwsJ5_append_cf1ce_2 _ (List.mem_of_getElem? (i := 10) rfl)), (List.forall_mem_cons.mpr ⟨(mwsJ5_append_cf1ce_4 _ (List.mem_of_getElem? (i := 14) rfl)), (List.forall_mem_cons.mpr ⟨(mwsJ5_append_cf1ce_1 _ (List.mem_of_getElem? (i := 18) rfl)), (tk_mem 9 _ (fun w h => (mwsJ5_append_cf1ce_4 _ (tkB_mem 15 9 h))) (tk_mem 5 _ (fun w h => (mwsJ5_append_cf1ce_5 _ (tkB_mem 0 5 h))) (List.forall_mem_cons.mpr ⟨(mwsJ5_append_cf1ce_2 _ (List.mem_of_getElem? (i := 16) rfl)), (List.forall_mem_cons.mpr ⟨(mwsJ5_append_cf1ce_2 _ (List.mem_of_getElem? (i := 17) rfl)), (List.forall_mem_cons.mpr ⟨(mwsJ5_append_cf1ce_2 _ (List.mem_of_getElem? (i := 18) rfl)), (List.forall_mem_cons.mpr ⟨(mwsJ5_append_cf1ce_5 _ (List.mem_of_getElem? (i := 5) rfl)), (List.forall_mem_cons.mpr ⟨(mwsJ5_append_cf1ce_5 _ (List.mem_of_getElem? (i := 6) rfl)), (List.forall_mem_cons.mpr ⟨(mwsJ5_append_cf1ce_5 _ (List.mem_of_getElem? (i := 7) rfl)), (List.forall_mem_cons.mpr ⟨(mwsJ5_append_cf1ce_2 _ (List.mem_of_getElem? (i := 23) rfl)), (List.forall_mem_cons.mpr ⟨(mwsJ5_append_cf1ce_5 _ (List.mem_of_getElem? (i := 8) rfl)), (List.forall_mem_cons.mpr ⟨(mwsJ5_append_cf1ce_5 _ (List.mem_of_getElem? (i := 9) rfl)), (List.forall_mem_cons.mpr ⟨(mwsJ5_append_cf1ce_3 _ (List.mem_of_getElem? (i := 2) rfl)), (List.forall_mem_cons.mpr ⟨(mwsJ5_append_cf1ce_5 _ (List.mem_of_getElem? (i := 10) rfl)), (List.forall_mem_cons.mpr ⟨(mwsJ5_append_cf1ce_3 _ (List.mem_of_getElem? (i := 4) rfl)), (List.forall_mem_cons.mpr ⟨(mwsJ5_append_cf1ce_3 _ (List.mem_of_getElem? (i := 5) rfl)), (List.forall_mem_cons.mpr ⟨(mwsJ5_append_cf1ce_3 _ (List.mem_of_getElem? (i := 6) rfl)), (List.forall_mem_cons.mpr ⟨(mwsJ5_append_cf1ce_2 _ (List.mem_of_getElem? (i := 12) rfl)), (List.forall_mem_cons.mpr ⟨(mwsJ5_append_cf1ce_3 _ (List.mem_of_getElem? (i := 7) rfl)), (List.forall_mem_cons.mpr ⟨(mwsJ5_append_cf1ce_3 _ (List.mem_of_getElem? (i := 8) rfl)), (tk_mem 4 _ (fun w h => (mwsJ5_append_cf1ce_5 _ (tkB_mem 11 4 h))) (List.forall_mem_cons.mpr ⟨(mwsJ5_append_cf1ce_3 _ (List.mem_of_getElem? (i := 13) rfl)), (List.forall_mem_cons.mpr ⟨(mwsJ5_append_cf1ce_5 _ (List.mem_of_getElem? (i := 15) rfl)), (List.forall_mem_cons.mpr ⟨(mwsJ5_append_cf1ce_1 _ (List.mem_of_getElem? (i := 23) rfl)), (List.forall_mem_cons.mpr ⟨(mwsJ5_append_cf1ce_2 _ (List.mem_of_getElem? (i := 0) rfl)), (List.forall_mem_cons.mpr ⟨(mwsJ5_append_cf1ce_2 _ (List.mem_of_getElem? (i := 1) rfl)), (List.forall_mem_cons.mpr ⟨(mwsJ5_append_cf1ce_3 _ (List.mem_of_getElem? (i := 14) rfl)), (List.forall_mem_cons.mpr ⟨(mwsJ5_append_cf1ce_5 _ (List.mem_of_getElem? (i := 16) rfl)), (tk_mem 4 _ (fun w h => (mwsJ5_append_cf1ce_6 _ (tkB_mem 0 4 h))) (tk_mem 4 _ (fun w h => (mwsJ5_append_cf1ce_7 _ (tkB_mem 0 4 h))) (fun _ h => absurd h List.not_mem_nil)))⟩)⟩)⟩)⟩)⟩)⟩)⟩))⟩)⟩)⟩)⟩)⟩)⟩)⟩)⟩)⟩)⟩)⟩)⟩)⟩)⟩)⟩)⟩)⟩)))⟩)⟩)⟩)⟩)⟩))⟩))⟩)⟩)⟩)⟩)⟩)⟩)⟩)⟩)⟩)⟩))⟩)⟩)⟩) (by decide +kernel)
set_option maxRecDepth 20000 in
theorem gJ5_append_cf1ce_J5_putStringAt_47b60_u208J4 : GoodIn wsJ5_append_cf1ce (va_wsU RJ5 208 RJ4 "java/lang/AbstractStringBuilder" ⟨"java/lang/AbstractStringBuilder", "putStringAt", "(ILjava/lang/String;)V"⟩ yJ5_putStringAt_47b60 wsJ5_putStringAt_47b60) := goodIn_app (goodIn_sub (tk_mem 4 _ (fun w h => (mwsJ5_append_cf1ce_3 _ (tkB_mem 20 4 h))) (List.forall_mem_cons.mpr ⟨(mwsJ5_append_cf1ce_0 _ (List.mem_of_getElem? (i := 5) rfl)), (fun _ h => absurd h List.not_mem_nil)⟩)) (by decide +kernel)) ggJ5_append_cf1ce_J5_putStringAt_47b60
theorem adJ5_append_cf1ce_0 : fd_rows (cJ5_append_cf1ce.data.toList.drop 0) 0 [(0, some (.aload_n 1), 1), (1, some (.ifnonnull 8), 3), (4, some (.aload_n 0), 1), (5, some (.invokevirtual 204), 3), (8, some (.areturn), 1), (9, some (.aload_n 1), 1), (10, some (.invokevirtual 32), 3), (13, some (.istore_n 2), 1), (14, some (.aload_n 0), 1), (15, some (.aload_n 0), 1), (16, some (.getfield 79), 3), (19, some (.iload_n 2), 1), (20, some (.iadd), 1), (21, some (.invokevirtual 100), 3), (24, some (.aload_n 0), 1), (25, some (.aload_n 0), 1)] = true := by decide +kernel
theorem adJ5_append_cf1ce_1 : fd_rows (cJ5_append_cf1ce.data.toList.drop 26) 26 [(26, some (.getfield 79), 3), (29, some (.aload_n 1), 1), (30, some (.invokevirtual 208), 3), (33, some (.aload_n 0), 1), (34, some (.dup), 1), (35, some (.getfield 79), 3), (38, some (.iload_n 2), 1), (39, some (.iadd), 1), (40, some (.putfield 79), 3), (43, some (.aload_n 0), 1), (44, some (.areturn), 1)] = true := by decide +kernel
theorem dJ5_append_cf1ce_0 : decode cJ5_append_cf1ce 0 = .ok (.aload_n 1, 1) := fd_get adJ5_append_cf1ce_0 (k := 0) rfl
theorem dJ5_append_cf1ce_1 : decode cJ5_append_cf1ce 1 = .ok (.ifnonnull 8, 3) := fd_get adJ5_append_cf1ce_0 (k := 1) rfl
theorem dJ5_append_cf1ce_9 : decode cJ5_append_cf1ce 9 = .ok (.aload_n 1, 1) := fd_get adJ5_append_cf1ce_0 (k := 5) rfl
theorem dJ5_append_cf1ce_10 : decode cJ5_append_cf1ce 10 = .ok (.invokevirtual 32, 3) := fd_get adJ5_append_cf1ce_0 (k := 6) rfl
theorem dJ5_append_cf1ce_13 : decode cJ5_append_cf1ce 13 = .ok (.istore_n 2, 1) := fd_get adJ5_append_cf1ce_0 (k := 7) rfl
theorem dJ5_append_cf1ce_14 : decode cJ5_append_cf1ce 14 = .ok (.aload_n 0, 1) := fd_get adJ5_append_cf1ce_0 (k := 8) rfl
theorem dJ5_append_cf1ce_15 : decode cJ5_append_cf1ce 15 = .ok (.aload_n 0, 1) := fd_get adJ5_append_cf1ce_0 (k := 9) rfl
theorem dJ5_append_cf1ce_16 : decode cJ5_append_cf1ce 16 = .ok (.getfield 79, 3) := fd_get adJ5_append_cf1ce_0 (k := 10) rfl
theorem dJ5_append_cf1ce_19 : decode cJ5_append_cf1ce 19 = .ok (.iload_n 2, 1) := fd_get adJ5_append_cf1ce_0 (k := 11) rfl
theorem dJ5_append_cf1ce_20 : decode cJ5_append_cf1ce 20 = .ok (.iadd, 1) := fd_get adJ5_append_cf1ce_0 (k := 12) rfl
theorem dJ5_append_cf1ce_21 : decode cJ5_append_cf1ce 21 = .ok (.invokevirtual 100, 3) := fd_get adJ5_append_cf1ce_0 (k := 13) rfl
theorem dJ5_append_cf1ce_24 : decode cJ5_append_cf1ce 24 = .ok (.aload_n 0, 1) := fd_get adJ5_append_cf1ce_0 (k := 14) rfl
theorem dJ5_append_cf1ce_25 : decode cJ5_append_cf1ce 25 = .ok (.aload_n 0, 1) := fd_get adJ5_append_cf1ce_0 (k := 15) rfl
theorem dJ5_append_cf1ce_26 : decode cJ5_append_cf1ce 26 = .ok (.getfield 79, 3) := fd_get adJ5_append_cf1ce_1 (k := 0) rfl
theorem dJ5_append_cf1ce_29 : decode cJ5_append_cf1ce 29 = .ok (.aload_n 1, 1) := fd_get adJ5_append_cf1ce_1 (k := 1) rfl
theorem dJ5_append_cf1ce_30 : decode cJ5_append_cf1ce 30 = .ok (.invokevirtual 208, 3) := fd_get adJ5_append_cf1ce_1 (k := 2) rfl
theorem dJ5_append_cf1ce_33 : decode cJ5_append_cf1ce 33 = .ok (.aload_n 0, 1) := fd_get adJ5_append_cf1ce_1 (k := 3) rfl
theorem dJ5_append_cf1ce_34 : decode cJ5_append_cf1ce 34 = .ok (.dup, 1) := fd_get adJ5_append_cf1ce_1 (k := 4) rfl
theorem dJ5_append_cf1ce_35 : decode cJ5_append_cf1ce 35 = .ok (.getfield 79, 3) := fd_get adJ5_append_cf1ce_1 (k := 5) rfl
theorem dJ5_append_cf1ce_38 : decode cJ5_append_cf1ce 38 = .ok (.iload_n 2, 1) := fd_get adJ5_append_cf1ce_1 (k := 6) rfl
theorem dJ5_append_cf1ce_39 : decode cJ5_append_cf1ce 39 = .ok (.iadd, 1) := fd_get adJ5_append_cf1ce_1 (k := 7) rfl
theorem dJ5_append_cf1ce_40 : decode cJ5_append_cf1ce 40 = .ok (.putfield 79, 3) := fd_get adJ5_append_cf1ce_1 (k := 8) rfl
theorem dJ5_append_cf1ce_43 : decode cJ5_append_cf1ce 43 = .ok (.aload_n 0, 1) := fd_get adJ5_append_cf1ce_1 (k := 9) rfl
theorem dJ5_append_cf1ce_44 : decode cJ5_append_cf1ce 44 = .ok (.areturn, 1) := fd_get adJ5_append_cf1ce_1 (k := 10) rfl
theorem mwsJ5_append_3fe6f_0 : ∀ w ∈ wsJ5_append_3fe6f_r1, w ∈ wsJ5_append_3fe6f := fun w h => (List.mem_cons_of_mem _ (List.mem_append_left _ (List.mem_append_left _ h)))
theorem mwsJ5_append_3fe6f_1 : ∀ w ∈ wsJ5_append_3fe6f_r2, w ∈ wsJ5_append_3fe6f := fun w h => (List.mem_cons_of_mem _ (List.mem_append_left _ (List.mem_append_right _ (List.mem_append_left _ h))))
theorem mwsJ5_append_3fe6f_2 : ∀ w ∈ wsJ5_append_3fe6f_r3, w ∈ wsJ5_append_3fe6f := fun w h => (List.mem_cons_of_mem _ (List.mem_append_left _ (List.mem_append_right _ (List.mem_append_right _ (List.mem_append_left _ h)))))
theorem mwsJ5_append_3fe6f_5 : ∀ w ∈ wsJ40, w ∈ wsJ5_append_3fe6f := fun w h => (List.mem_cons_of_mem _ (List.mem_append_right _ h))
set_option maxRecDepth 20000 in
theorem ggJ5_append_3fe6f_J5_ensureCapacityInternal_d00df : GoodIn wsJ5_append_3fe6f wsJ5_ensureCapacityInternal_d00df := goodIn_sub (List.forall_mem_cons.mpr ⟨(mwsJ5_append_3fe6f_0 _ (List.mem_of_getElem? (i := 7) rfl)), (List.forall_mem_cons.mpr ⟨(mwsJ5_append_3fe6f_0 _ (List.mem_of_getElem? (i := 1) rfl)), (tk_mem 5 _ (fun w h => (mwsJ5_append_3fe6f_0 _ (tkB_mem 8 5 h))) (List.forall_mem_cons.mpr ⟨(mwsJ5_append_3fe6f_0 _ (List.mem_of_getElem? (i := 6) rfl)), (tk_mem 11 _ (fun w h => (mwsJ5_append_3fe6f_0 _ (tkB_mem 13 11 h))) (tk_mem 21 _ (fun w h => (mwsJ5_append_3fe6f_1 _ (tkB_mem 0 21 h))) (tk_mem 4 _ (fun w h => (mwsJ5_append_3fe6f_5 _ (tkB_mem 0 4 h))) (fun _ h => absurd h List.not_mem_nil))))⟩))⟩)⟩) (by decide +kernel)
set_option maxRecDepth 20000 in
theorem gJ5_append_3fe6f_J5_ensureCapacityInternal_d00df_u100J4 : GoodIn wsJ5_append_3fe6f (va_wsU RJ5 100 RJ4 "java/lang/AbstractStringBuilder" ⟨"java/lang/AbstractStringBuilder", "ensureCapacityInternal", "(I)V"⟩ yJ5_ensureCapacityInternal_d00df wsJ5_ensureCapacityInternal_d00df) := goodIn_app (goodIn_sub (tk_mem 5 _ (fun w h => (mwsJ5_append_3fe6f_0 _ (tkB_mem 2 5 h))) (fun _ h => absurd h List.not_mem_nil)) (by decide +kernel)) ggJ5_append_3fe6f_J5_ensureCapacityInternal_d00df
set_option maxRecDepth 20000 in
theorem ggJ5_append_3fe6f_J5_isLatin1_aae02 : GoodIn wsJ5_append_3fe6f wsJ5_isLatin1_aae02 := goodIn_sub (List.forall_mem_cons.mpr ⟨(mwsJ5_append_3fe6f_2 _ (List.mem_of_getElem? (i := 1) rfl)), (List.forall_mem_cons.mpr ⟨(mwsJ5_append_3fe6f_2 _ (List.mem_of_getElem? (i := 2) rfl)), (List.forall_mem_cons.mpr ⟨(mwsJ5_append_3fe6f_0 _ (List.mem_of_getElem? (i := 8) rfl)), (tk_mem 4 _ (fun w h => (mwsJ5_append_3fe6f_5 _ (tkB_mem 0 4 h))) (fun _ h => absurd h List.not_mem_nil))⟩)⟩)⟩) (by decide +kernel)
set_option maxRecDepth 20000 in
theorem gJ5_append_3fe6f_J5_isLatin1_aae02_u83J4 : GoodIn wsJ5_append_3fe6f (va_wsU RJ5 83 RJ4 "java/lang/AbstractStringBuilder" ⟨"java/lang/AbstractStringBuilder", "isLatin1", "()Z"⟩ yJ5_isLatin1_aae02 wsJ5_isLatin1_aae02) := goodIn_app (goodIn_sub (List.forall_mem_cons.mpr ⟨(mwsJ5_append_3fe6f_1 _ (List.mem_of_getElem? (i := 21) rfl)), (List.forall_mem_cons.mpr ⟨(mwsJ5_append_3fe6f_1 _ (List.mem_of_getElem? (i := 22) rfl)), (List.forall_mem_cons.mpr ⟨(mwsJ5_append_3fe6f_1 _ (List.mem_of_getElem? (i := 23) rfl)), (List.forall_mem_cons.mpr ⟨(mwsJ5_append_3fe6f_2 _ (List.mem_of_getElem? (i := 0) rfl)), (List.forall_mem_cons.mpr ⟨(mwsJ5_append_3fe6f_0 _ (List.mem_of_getElem? (i := 6) rfl)), (fun _ h => absurd h List.not_mem_nil)⟩)⟩)⟩)⟩)⟩) (by decide +kernel)) ggJ5_append_3fe6f_J5_isLatin1_aae02
set_option maxRecDepth 20000 in
theorem ggJ5_append_3fe6f_J1_canEncode_fc78d : GoodIn wsJ5_append_3fe6f wsJ1_canEncode_fc78d := goodIn_sub (List.forall_mem_cons.mpr ⟨(mwsJ5_append_3fe6f_2 _ (List.mem_of_getElem? (i := 6) rfl)), (fun _ h => absurd h List.not_mem_nil)⟩) (by decide +kernel)
set_option maxRecDepth 20000 in
theorem gJ5_append_3fe6f_J1_canEncode_fc78d : GoodIn wsJ5_append_3fe6f (va_wsS RJ5 191 yJ1_canEncode_fc78d wsJ1_canEncode_fc78d) := goodIn_app (goodIn_sub (List.forall_mem_cons.mpr ⟨(mwsJ5_append_3fe6f_2 _ (List.mem_of_getElem? (i := 3) rfl)), (List.forall_mem_cons.mpr ⟨(mwsJ5_append_3fe6f_2 _ (List.mem_of_getElem? (i := 4) rfl)), (List.forall_mem_cons.mpr ⟨(mwsJ5_append_3fe6f_2 _ (List.mem_of_getElem? (i := 5) rfl)), (fun _ h => absurd h List.not_mem_nil)⟩)⟩)⟩) (by decide +kernel)) ggJ5_append_3fe6f_J1_canEncode_fc78d
theorem adJ5_append_3fe6f_0 : fd_rows (cJ5_append_3fe6f.data.toList.drop 0) 0 [(0, some (.aload_n 0), 1), (1, some (.aload_n 0), 1), (2, some (.getfield 79), 3), (5, some (.iconst 1), 1), (6, some (.iadd), 1), (7, some (.invokevirtual 100), 3), (10, some (.aload_n 0), 1), (11, some (.invokevirtual 83), 3), (14, some (.ifCond .eq 31), 3), (17, some (.iload_n 1), 1), (18, some (.invokestatic 191), 3), (21, some (.ifCond .eq 24), 3), (24, some (.aload_n 0), 1), (25, some (.getfield 15), 3), (28, some (.aload_n 0), 1), (29, some (.dup), 1)] = true := by decide +kernel
theorem adJ5_append_3fe6f_1 : fd_rows (cJ5_append_3fe6f.data.toList.drop 30) 30 [(30, some (.getfield 79), 3), (33, some (.dup_x1), 1), (34, some (.iconst 1), 1), (35, some (.iadd), 1), (36, some (.putfield 79), 3), (39, some (.iload_n 1), 1), (40, some (.i2b), 1), (41, some (.bastore), 1), (42, some (.goto 33), 3), (45, some (.aload_n 0), 1), (46, some (.invokevirtual 83), 3), (49, some (.ifCond .eq 7), 3), (52, some (.aload_n 0), 1), (53, some (.invokevirtual 195), 3), (56, some (.aload_n 0), 1), (57, some (.getfield 15), 3)] = true := by decide +kernel
theorem adJ5_append_3fe6f_2 : fd_rows (cJ5_append_3fe6f.data.toList.drop 60) 60 [(60, some (.aload_n 0), 1), (61, some (.dup), 1), (62, some (.getfield 79), 3), (65, some (.dup_x1), 1), (66, some (.iconst 1), 1), (67, some (.iadd), 1), (68, some (.putfield 79), 3), (71, some (.iload_n 1), 1), (72, some (.invokestatic 197), 3), (75, some (.aload_n 0), 1), (76, some (.areturn), 1)] = true := by decide +kernel
theorem dJ5_append_3fe6f_0 : decode cJ5_append_3fe6f 0 = .ok (.aload_n 0, 1) := fd_get adJ5_append_3fe6f_0 (k := 0) rfl
theorem dJ5_append_3fe6f_1 : decode cJ5_append_3fe6f 1 = .ok (.aload_n 0, 1) := fd_get adJ5_append_3fe6f_0 (k := 1) rfl
theorem dJ5_append_3fe6f_2 : decode cJ5_append_3fe6f 2 = .ok (.getfield 79, 3) := fd_get adJ5_append_3fe6f_0 (k := 2) rfl
theorem dJ5_append_3fe6f_5 : decode cJ5_append_3fe6f 5 = .ok (.iconst 1, 1) := fd_get adJ5_append_3fe6f_0 (k := 3) rfl
theorem dJ5_append_3fe6f_6 : decode cJ5_append_3fe6f 6 = .ok (.iadd, 1) := fd_get adJ5_append_3fe6f_0 (k := 4) rfl
theorem dJ5_append_3fe6f_7 : decode cJ5_append_3fe6f 7 = .ok (.invokevirtual 100, 3) := fd_get adJ5_append_3fe6f_0 (k := 5) rfl
theorem dJ5_append_3fe6f_10 : decode cJ5_append_3fe6f 10 = .ok (.aload_n 0, 1) := fd_get adJ5_append_3fe6f_0 (k := 6) rfl
theorem dJ5_append_3fe6f_11 : decode cJ5_append_3fe6f 11 = .ok (.invokevirtual 83, 3) := fd_get adJ5_append_3fe6f_0 (k := 7) rfl
theorem dJ5_append_3fe6f_14 : decode cJ5_append_3fe6f 14 = .ok (.ifCond .eq 31, 3) := fd_get adJ5_append_3fe6f_0 (k := 8) rfl
theorem dJ5_append_3fe6f_17 : decode cJ5_append_3fe6f 17 = .ok (.iload_n 1, 1) := fd_get adJ5_append_3fe6f_0 (k := 9) rfl
theorem dJ5_append_3fe6f_18 : decode cJ5_append_3fe6f 18 = .ok (.invokestatic 191, 3) := fd_get adJ5_append_3fe6f_0 (k := 10) rfl
theorem dJ5_append_3fe6f_21 : decode cJ5_append_3fe6f 21 = .ok (.ifCond .eq 24, 3) := fd_get adJ5_append_3fe6f_0 (k := 11) rfl
theorem dJ5_append_3fe6f_24 : decode cJ5_append_3fe6f 24 = .ok (.aload_n 0, 1) := fd_get adJ5_append_3fe6f_0 (k := 12) rfl
theorem dJ5_append_3fe6f_25 : decode cJ5_append_3fe6f 25 = .ok (.getfield 15, 3) := fd_get adJ5_append_3fe6f_0 (k := 13) rfl
theorem dJ5_append_3fe6f_28 : decode cJ5_append_3fe6f 28 = .ok (.aload_n 0, 1) := fd_get adJ5_append_3fe6f_0 (k := 14) rfl
theorem dJ5_append_3fe6f_29 : decode cJ5_append_3fe6f 29 = .ok (.dup, 1) := fd_get adJ5_append_3fe6f_0 (k := 15) rfl
theorem dJ5_append_3fe6f_30 : decode cJ5_append_3fe6f 30 = .ok (.getfield 79, 3) := fd_get adJ5_append_3fe6f_1 (k := 0) rfl
theorem dJ5_append_3fe6f_33 : decode cJ5_append_3fe6f 33 = .ok (.dup_x1, 1) := fd_get adJ5_append_3fe6f_1 (k := 1) rfl
theorem dJ5_append_3fe6f_34 : decode cJ5_append_3fe6f 34 = .ok (.iconst 1, 1) := fd_get adJ5_append_3fe6f_1 (k := 2) rfl
theorem dJ5_append_3fe6f_35 : decode cJ5_append_3fe6f 35 = .ok (.iadd, 1) := fd_get adJ5_append_3fe6f_1 (k := 3) rfl
theorem dJ5_append_3fe6f_36 : decode cJ5_append_3fe6f 36 = .ok (.putfield 79, 3) := fd_get adJ5_append_3fe6f_1 (k := 4) rfl
theorem dJ5_append_3fe6f_39 : decode cJ5_append_3fe6f 39 = .ok (.iload_n 1, 1) := fd_get adJ5_append_3fe6f_1 (k := 5) rfl
theorem dJ5_append_3fe6f_40 : decode cJ5_append_3fe6f 40 = .ok (.i2b, 1) := fd_get adJ5_append_3fe6f_1 (k := 6) rfl
theorem dJ5_append_3fe6f_41 : decode cJ5_append_3fe6f 41 = .ok (.bastore, 1) := fd_get adJ5_append_3fe6f_1 (k := 7) rfl
theorem dJ5_append_3fe6f_42 : decode cJ5_append_3fe6f 42 = .ok (.goto 33, 3) := fd_get adJ5_append_3fe6f_1 (k := 8) rfl
theorem dJ5_append_3fe6f_75 : decode cJ5_append_3fe6f 75 = .ok (.aload_n 0, 1) := fd_get adJ5_append_3fe6f_2 (k := 9) rfl
theorem dJ5_append_3fe6f_76 : decode cJ5_append_3fe6f 76 = .ok (.areturn, 1) := fd_get adJ5_append_3fe6f_2 (k := 10) rfl
theorem mwsJ5_append_c97b9_0 : ∀ w ∈ wsJ5_append_c97b9_r1, w ∈ wsJ5_append_c97b9 := fun w h => (List.mem_cons_of_mem _ (List.mem_append_left _ (List.mem_append_left _ h)))
theorem mwsJ5_append_c97b9_1 : ∀ w ∈ wsJ5_append_c97b9_r2, w ∈ wsJ5_append_c97b9 := fun w h => (List.mem_cons_of_mem _ (List.mem_append_left _ (List.mem_append_right _ (List.mem_append_left _ h))))
theorem mwsJ5_append_c97b9_2 : ∀ w ∈ wsJ5_append_c97b9_r3, w ∈ wsJ5_append_c97b9 := fun w h => (List.mem_cons_of_mem _ (List.mem_append_left _ (List.mem_append_right _ (List.mem_append_right _ (List.mem_append_left _ h)))))
theorem mwsJ5_append_c97b9_4 : ∀ w ∈ wsJ40, w ∈ wsJ5_append_c97b9 := fun w h => (List.mem_cons_of_mem _ (List.mem_append_right _ h))
set_option maxRecDepth 20000 in
theorem ggJ5_append_c97b9_J6_stringSize_0f7a4 : GoodIn wsJ5_append_c97b9 wsJ6_stringSize_0f7a4 := goodIn_sub (List.forall_mem_cons.mpr ⟨(mwsJ5_append_c97b9_0 _ (List.mem_of_getElem? (i := 5) rfl)), (fun _ h => absurd h List.not_mem_nil)⟩) (by decide +kernel)
set_option maxRecDepth 20000 in
theorem gJ5_append_c97b9_J6_stringSize_0f7a4 : GoodIn wsJ5_append_c97b9 (va_wsS RJ5 245 yJ6_stringSize_0f7a4 wsJ6_stringSize_0f7a4) := goodIn_app (goodIn_sub (List.forall_mem_cons.mpr ⟨(mwsJ5_append_c97b9_0 _ (List.mem_of_getElem? (i := 2) rfl)), (List.forall_mem_cons.mpr ⟨(mwsJ5_append_c97b9_0 _ (List.mem_of_getElem? (i := 3) rfl)), (List.forall_mem_cons.mpr ⟨(mwsJ5_append_c97b9_0 _ (List.mem_of_getElem? (i := 4) rfl)), (fun _ h => absurd h List.not_mem_nil)⟩)⟩)⟩) (by decide +kernel)) ggJ5_append_c97b9_J6_stringSize_0f7a4
set_option maxRecDepth 20000 in
theorem ggJ5_append_c97b9_J5_ensureCapacityInternal_d00df : GoodIn wsJ5_append_c97b9 wsJ5_ensureCapacityInternal_d00df := goodIn_sub (List.forall_mem_cons.mpr ⟨(mwsJ5_append_c97b9_0 _ (List.mem_of_getElem? (i := 11) rfl)), (List.forall_mem_cons.mpr ⟨(mwsJ5_append_c97b9_0 _ (List.mem_of_getElem? (i := 1) rfl)), (tk_mem 5 _ (fun w h => (mwsJ5_append_c97b9_0 _ (tkB_mem 12 5 h))) (List.forall_mem_cons.mpr ⟨(mwsJ5_append_c97b9_0 _ (List.mem_of_getElem? (i := 10) rfl)), (tk_mem 7 _ (fun w h => (mwsJ5_append_c97b9_0 _ (tkB_mem 17 7 h))) (tk_mem 24 _ (fun w h => (mwsJ5_append_c97b9_1 _ (tkB_mem 0 24 h))) (List.forall_mem_cons.mpr ⟨(mwsJ5_append_c97b9_2 _ (List.mem_of_getElem? (i := 0) rfl)), (tk_mem 4 _ (fun w h => (mwsJ5_append_c97b9_4 _ (tkB_mem 0 4 h))) (fun _ h => absurd h List.not_mem_nil))⟩)))⟩))⟩)⟩) (by decide +kernel)
set_option maxRecDepth 20000 in
theorem gJ5_append_c97b9_J5_ensureCapacityInternal_d00df_u100J4 : GoodIn wsJ5_append_c97b9 (va_wsU RJ5 100 RJ4 "java/lang/AbstractStringBuilder" ⟨"java/lang/AbstractStringBuilder", "ensureCapacityInternal", "(I)V"⟩ yJ5_ensureCapacityInternal_d00df wsJ5_ensureCapacityInternal_d00df) := goodIn_app (goodIn_sub (tk_mem 5 _ (fun w h => (mwsJ5_append_c97b9_0 _ (tkB_mem 6 5 h))) (fun _ h => absurd h List.not_mem_nil)) (by decide +kernel)) ggJ5_append_c97b9_J5_ensureCapacityInternal_d00df
set_option maxRecDepth 20000 in
theorem ggJ5_append_c97b9_J5_isLatin1_aae02 : GoodIn wsJ5_append_c97b9 wsJ5_isLatin1_aae02 := goodIn_sub (List.forall_mem_cons.mpr ⟨(mwsJ5_append_c97b9_2 _ (List.mem_of_getElem? (i := 5) rfl)), (List.forall_mem_cons.mpr ⟨(mwsJ5_append_c97b9_2 _ (List.mem_of_getElem? (i := 6) rfl)), (List.forall_mem_cons.mpr ⟨(mwsJ5_append_c97b9_0 _ (List.mem_of_getElem? (i := 12) rfl)), (tk_mem 4 _ (fun w h => (mwsJ5_append_c97b9_4 _ (tkB_mem 0 4 h))) (fun _ h => absurd h List.not_mem_nil))⟩)⟩)⟩) (by decide +kernel)
set_option maxRecDepth 20000 in
theorem gJ5_append_c97b9_J5_isLatin1_aae02_u83J4 : GoodIn wsJ5_append_c97b9 (va_wsU RJ5 83 RJ4 "java/lang/AbstractStringBuilder" ⟨"java/lang/AbstractStringBuilder", "isLatin1", "()Z"⟩ yJ5_isLatin1_aae02 wsJ5_isLatin1_aae02) := goodIn_app (goodIn_sub (tk_mem 4 _ (fun w h => (mwsJ5_append_c97b9_2 _ (tkB_mem 1 4 h))) (List.forall_mem_cons.mpr ⟨(mwsJ5_append_c97b9_0 _ (List.mem_of_getElem? (i := 10) rfl)), (fun _ h => absurd h List.not_mem_nil)⟩)) (by decide +kernel)) ggJ5_append_c97b9_J5_isLatin1_aae02
set_option maxRecDepth 20000 in
theorem ggJ5_append_c97b9_J6_getChars_ba4f3 : GoodIn wsJ5_append_c97b9 wsJ6_getChars_ba4f3 := goodIn_sub (List.forall_mem_cons.mpr ⟨(mwsJ5_append_c97b9_2 _ (List.mem_of_getElem? (i := 9) rfl)), (List.forall_mem_cons.mpr ⟨(mwsJ5_append_c97b9_2 _ (List.mem_of_getElem? (i := 10) rfl)), (List.forall_mem_cons.mpr ⟨(mwsJ5_append_c97b9_2 _ (List.mem_of_getElem? (i := 11) rfl)), (fun _ h => absurd h List.not_mem_nil)⟩)⟩)⟩) (by decide +kernel)
set_option maxRecDepth 20000 in
theorem gJ5_append_c97b9_J6_getChars_ba4f3 : GoodIn wsJ5_append_c97b9 (va_wsS RJ5 248 yJ6_getChars_ba4f3 wsJ6_getChars_ba4f3) := goodIn_app (goodIn_sub (List.forall_mem_cons.mpr ⟨(mwsJ5_append_c97b9_2 _ (List.mem_of_getElem? (i := 7) rfl)), (List.forall_mem_cons.mpr ⟨(mwsJ5_append_c97b9_2 _ (List.mem_of_getElem? (i := 8) rfl)), (List.forall_mem_cons.mpr ⟨(mwsJ5_append_c97b9_0 _ (List.mem_of_getElem? (i := 4) rfl)), (fun _ h => absurd h List.not_mem_nil)⟩)⟩)⟩) (by decide +kernel)) ggJ5_append_c97b9_J6_getChars_ba4f3
theorem adJ5_append_c97b9_0 : fd_rows (cJ5_append_c97b9.data.toList.drop 0) 0 [(0, some (.aload_n 0), 1), (1, some (.getfield 79), 3), (4, some (.istore_n 2), 1), (5, some (.iload_n 2), 1), (6, some (.iload_n 1), 1), (7, some (.invokestatic 245), 3), (10, some (.iadd), 1), (11, some (.istore_n 3), 1), (12, some (.aload_n 0), 1), (13, some (.iload_n 3), 1), (14, some (.invokevirtual 100), 3), (17, some (.aload_n 0), 1), (18, some (.invokevirtual 83), 3), (21, some (.ifCond .eq 16), 3), (24, some (.iload_n 1), 1), (25, some (.iload_n 3), 1)] = true := by decide +kernel
theorem adJ5_append_c97b9_1 : fd_rows (cJ5_append_c97b9.data.toList.drop 26) 26 [(26, some (.aload_n 0), 1), (27, some (.getfield 15), 3), (30, some (.invokestatic 248), 3), (33, some (.pop), 1), (34, some (.goto 14), 3), (37, some (.iload_n 1), 1), (38, some (.iload_n 2), 1), (39, some (.iload_n 3), 1), (40, some (.aload_n 0), 1), (41, some (.getfield 15), 3), (44, some (.invokestatic 251), 3), (47, some (.pop), 1), (48, some (.aload_n 0), 1), (49, some (.iload_n 3), 1), (50, some (.putfield 79), 3), (53, some (.aload_n 0), 1)] = true := by decide +kernel
theorem adJ5_append_c97b9_2 : fd_rows (cJ5_append_c97b9.data.toList.drop 54) 54 [(54, some (.areturn), 1)] = true := by decide +kernel
theorem dJ5_append_c97b9_0 : decode cJ5_append_c97b9 0 = .ok (.aload_n 0, 1) := fd_get adJ5_append_c97b9_0 (k := 0) rfl
theorem dJ5_append_c97b9_1 : decode cJ5_append_c97b9 1 = .ok (.getfield 79, 3) := fd_get adJ5_append_c97b9_0 (k := 1) rfl
theorem dJ5_append_c97b9_4 : decode cJ5_append_c97b9 4 = .ok (.istore_n 2, 1) := fd_get adJ5_append_c97b9_0 (k := 2) rfl
theorem dJ5_append_c97b9_5 : decode cJ5_append_c97b9 5 = .ok (.iload_n 2, 1) := fd_get adJ5_append_c97b9_0 (k := 3) rfl
theorem dJ5_append_c97b9_6 : decode cJ5_append_c97b9 6 = .ok (.iload_n 1, 1) := fd_get adJ5_append_c97b9_0 (k := 4) rfl
theorem dJ5_append_c97b9_7 : decode cJ5_append_c97b9 7 = .ok (.invokestatic 245, 3) := fd_get adJ5_append_c97b9_0 (k := 5) rfl
theorem dJ5_append_c97b9_10 : decode cJ5_append_c97b9 10 = .ok (.iadd, 1) := fd_get adJ5_append_c97b9_0 (k := 6) rfl
theorem dJ5_append_c97b9_11 : decode cJ5_append_c97b9 11 = .ok (.istore_n 3, 1) := fd_get adJ5_append_c97b9_0 (k := 7) rfl
theorem dJ5_append_c97b9_12 : decode cJ5_append_c97b9 12 = .ok (.aload_n 0, 1) := fd_get adJ5_append_c97b9_0 (k := 8) rfl
theorem dJ5_append_c97b9_13 : decode cJ5_append_c97b9 13 = .ok (.iload_n 3, 1) := fd_get adJ5_append_c97b9_0 (k := 9) rfl
theorem dJ5_append_c97b9_14 : decode cJ5_append_c97b9 14 = .ok (.invokevirtual 100, 3) := fd_get adJ5_append_c97b9_0 (k := 10) rfl
theorem dJ5_append_c97b9_17 : decode cJ5_append_c97b9 17 = .ok (.aload_n 0, 1) := fd_get adJ5_append_c97b9_0 (k := 11) rfl
theorem dJ5_append_c97b9_18 : decode cJ5_append_c97b9 18 = .ok (.invokevirtual 83, 3) := fd_get adJ5_append_c97b9_0 (k := 12) rfl
theorem dJ5_append_c97b9_21 : decode cJ5_append_c97b9 21 = .ok (.ifCond .eq 16, 3) := fd_get adJ5_append_c97b9_0 (k := 13) rfl
theorem dJ5_append_c97b9_24 : decode cJ5_append_c97b9 24 = .ok (.iload_n 1, 1) := fd_get adJ5_append_c97b9_0 (k := 14) rfl
theorem dJ5_append_c97b9_25 : decode cJ5_append_c97b9 25 = .ok (.iload_n 3, 1) := fd_get adJ5_append_c97b9_0 (k := 15) rfl
theorem dJ5_append_c97b9_26 : decode cJ5_append_c97b9 26 = .ok (.aload_n 0, 1) := fd_get adJ5_append_c97b9_1 (k := 0) rfl
theorem dJ5_append_c97b9_27 : decode cJ5_append_c97b9 27 = .ok (.getfield 15, 3) := fd_get adJ5_append_c97b9_1 (k := 1) rfl
theorem dJ5_append_c97b9_30 : decode cJ5_append_c97b9 30 = .ok (.invokestatic 248, 3) := fd_get adJ5_append_c97b9_1 (k := 2) rfl
theorem dJ5_append_c97b9_33 : decode cJ5_append_c97b9 33 = .ok (.pop, 1) := fd_get adJ5_append_c97b9_1 (k := 3) rfl
theorem dJ5_append_c97b9_34 : decode cJ5_append_c97b9 34 = .ok (.goto 14, 3) := fd_get adJ5_append_c97b9_1 (k := 4) rfl
theorem dJ5_append_c97b9_48 : decode cJ5_append_c97b9 48 = .ok (.aload_n 0, 1) := fd_get adJ5_append_c97b9_1 (k := 12) rfl
theorem dJ5_append_c97b9_49 : decode cJ5_append_c97b9 49 = .ok (.iload_n 3, 1) := fd_get adJ5_append_c97b9_1 (k := 13) rfl
theorem dJ5_append_c97b9_50 : decode cJ5_append_c97b9 50 = .ok (.putfield 79, 3) := fd_get adJ5_append_c97b9_1 (k := 14) rfl
theorem dJ5_append_c97b9_53 : decode cJ5_append_c97b9 53 = .ok (.aload_n 0, 1) := fd_get adJ5_append_c97b9_1 (k := 15) rfl
theorem dJ5_append_c97b9_54 : decode cJ5_append_c97b9 54 = .ok (.areturn, 1) := fd_get adJ5_append_c97b9_2 (k := 0) rfl
theorem adJ5_getValue_6d5f1_0 : fd_rows (cJ5_getValue_6d5f1.data.toList.drop 0) 0 [(0, some (.aload_n 0), 1), (1, some (.getfield 15), 3), (4, some (.areturn), 1)] = true := by decide +kernel
theorem dJ5_getValue_6d5f1_0 : decode cJ5_getValue_6d5f1 0 = .ok (.aload_n 0, 1) := fd_get adJ5_getValue_6d5f1_0 (k := 0) rfl
theorem dJ5_getValue_6d5f1_1 : decode cJ5_getValue_6d5f1 1 = .ok (.getfield 15, 3) := fd_get adJ5_getValue_6d5f1_0 (k := 1) rfl
theorem dJ5_getValue_6d5f1_4 : decode cJ5_getValue_6d5f1 4 = .ok (.areturn, 1) := fd_get adJ5_getValue_6d5f1_0 (k := 2) rfl
theorem adJ5_isLatin1_aae02_0 : fd_rows (cJ5_isLatin1_aae02.data.toList.drop 0) 0 [(0, some (.getstatic 18), 3), (3, some (.ifCond .eq 14), 3), (6, some (.aload_n 0), 1), (7, some (.getfield 22), 3), (10, some (.ifCond .ne 7), 3), (13, some (.iconst 1), 1), (14, some (.goto 4), 3), (17, some (.iconst 0), 1), (18, some (.ireturn), 1)] = true := by decide +kernel
theorem dJ5_isLatin1_aae02_0 : decode cJ5_isLatin1_aae02 0 = .ok (.getstatic 18, 3) := fd_get adJ5_isLatin1_aae02_0 (k := 0) rfl
theorem dJ5_isLatin1_aae02_3 : decode cJ5_isLatin1_aae02 3 = .ok (.ifCond .eq 14, 3) := fd_get adJ5_isLatin1_aae02_0 (k := 1) rfl
theorem dJ5_isLatin1_aae02_6 : decode cJ5_isLatin1_aae02 6 = .ok (.aload_n 0, 1) := fd_get adJ5_isLatin1_aae02_0 (k := 2) rfl
theorem dJ5_isLatin1_aae02_7 : decode cJ5_isLatin1_aae02 7 = .ok (.getfield 22, 3) := fd_get adJ5_isLatin1_aae02_0 (k := 3) rfl
theorem dJ5_isLatin1_aae02_10 : decode cJ5_isLatin1_aae02 10 = .ok (.ifCond .ne 7, 3) := fd_get adJ5_isLatin1_aae02_0 (k := 4) rfl
theorem dJ5_isLatin1_aae02_13 : decode cJ5_isLatin1_aae02 13 = .ok (.iconst 1, 1) := fd_get adJ5_isLatin1_aae02_0 (k := 5) rfl
theorem dJ5_isLatin1_aae02_14 : decode cJ5_isLatin1_aae02 14 = .ok (.goto 4, 3) := fd_get adJ5_isLatin1_aae02_0 (k := 6) rfl
theorem dJ5_isLatin1_aae02_17 : decode cJ5_isLatin1_aae02 17 = .ok (.iconst 0, 1) := fd_get adJ5_isLatin1_aae02_0 (k := 7) rfl
theorem dJ5_isLatin1_aae02_18 : decode cJ5_isLatin1_aae02 18 = .ok (.ireturn, 1) := fd_get adJ5_isLatin1_aae02_0 (k := 8) rfl
theorem mwsJ5_inflateIfNeededFor_a7421_0 : ∀ w ∈ wsJ5_inflateIfNeededFor_a7421_r1, w ∈ wsJ5_inflateIfNeededFor_a7421 := fun w h => (List.mem_cons_of_mem _ (List.mem_append_left _ (List.mem_append_left _ (List.mem_append_left _ h))))
theorem mwsJ5_inflateIfNeededFor_a7421_4 : ∀ w ∈ wsJ00, w ∈ wsJ5_inflateIfNeededFor_a7421 := fun w h => (List.mem_cons_of_mem _ (List.mem_append_right _ h))
set_option maxRecDepth 20000 in
theorem ggJ5_inflateIfNeededFor_a7421_J0_coder_7d493 : GoodIn wsJ5_inflateIfNeededFor_a7421 wsJ0_coder_7d493 := goodIn_sub (List.forall_mem_cons.mpr ⟨(mwsJ5_inflateIfNeededFor_a7421_0 _ (List.mem_of_getElem? (i := 6) rfl)), (List.forall_mem_cons.mpr ⟨(mwsJ5_inflateIfNeededFor_a7421_0 _ (List.mem_of_getElem? (i := 7) rfl)), (List.forall_mem_cons.mpr ⟨(mwsJ5_inflateIfNeededFor_a7421_0 _ (List.mem_of_getElem? (i := 8) rfl)), (tk_mem 4 _ (fun w h => (mwsJ5_inflateIfNeededFor_a7421_4 _ (tkB_mem 0 4 h))) (fun _ h => absurd h List.not_mem_nil))⟩)⟩)⟩) (by decide +kernel)
set_option maxRecDepth 20000 in
theorem gJ5_inflateIfNeededFor_a7421_J0_coder_7d493 : GoodIn wsJ5_inflateIfNeededFor_a7421 (wsV RJ5 40 RJ0 yJ0_coder_7d493 wsJ0_coder_7d493) := goodIn_app (goodIn_sub (tk_mem 4 _ (fun w h => (mwsJ5_inflateIfNeededFor_a7421_0 _ (tkB_mem 2 4 h))) (fun _ h => absurd h List.not_mem_nil)) (by decide +kernel)) ggJ5_inflateIfNeededFor_a7421_J0_coder_7d493
theorem adJ5_inflateIfNeededFor_a7421_0 : fd_rows (cJ5_inflateIfNeededFor_a7421.data.toList.drop 0) 0 [(0, some (.getstatic 18), 3), (3, some (.ifCond .eq 18), 3), (6, some (.aload_n 0), 1), (7, some (.getfield 22), 3), (10, some (.aload_n 1), 1), (11, some (.invokevirtual 40), 3), (14, some (.if_icmp .eq 7), 3), (17, some (.aload_n 0), 1), (18, some (.invokevirtual 195), 3), (21, some (.return_), 1)] = true := by decide +kernel
theorem dJ5_inflateIfNeededFor_a7421_0 : decode cJ5_inflateIfNeededFor_a7421 0 = .ok (.getstatic 18, 3) := fd_get adJ5_inflateIfNeededFor_a7421_0 (k := 0) rfl
theorem dJ5_inflateIfNeededFor_a7421_3 : decode cJ5_inflateIfNeededFor_a7421 3 = .ok (.ifCond .eq 18, 3) := fd_get adJ5_inflateIfNeededFor_a7421_0 (k := 1) rfl
theorem dJ5_inflateIfNeededFor_a7421_6 : decode cJ5_inflateIfNeededFor_a7421 6 = .ok (.aload_n 0, 1) := fd_get adJ5_inflateIfNeededFor_a7421_0 (k := 2) rfl
theorem dJ5_inflateIfNeededFor_a7421_7 : decode cJ5_inflateIfNeededFor_a7421 7 = .ok (.getfield 22, 3) := fd_get adJ5_inflateIfNeededFor_a7421_0 (k := 3) rfl
theorem dJ5_inflateIfNeededFor_a7421_10 : decode cJ5_inflateIfNeededFor_a7421 10 = .ok (.aload_n 1, 1) := fd_get adJ5_inflateIfNeededFor_a7421_0 (k := 4) rfl
theorem dJ5_inflateIfNeededFor_a7421_11 : decode cJ5_inflateIfNeededFor_a7421 11 = .ok (.invokevirtual 40, 3) := fd_get adJ5_inflateIfNeededFor_a7421_0 (k := 5) rfl
theorem dJ5_inflateIfNeededFor_a7421_14 : decode cJ5_inflateIfNeededFor_a7421 14 = .ok (.if_icmp .eq 7, 3) := fd_get adJ5_inflateIfNeededFor_a7421_0 (k := 6) rfl
theorem dJ5_inflateIfNeededFor_a7421_21 : decode cJ5_inflateIfNeededFor_a7421 21 = .ok (.return_, 1) := fd_get adJ5_inflateIfNeededFor_a7421_0 (k := 9) rfl
theorem mwsJ5_putStringAt_47b60_0 : ∀ w ∈ wsJ5_putStringAt_47b60_r1, w ∈ wsJ5_putStringAt_47b60 := fun w h => (List.mem_cons_of_mem _ (List.mem_append_left _ (List.mem_append_left _ (List.mem_append_left _ h))))
theorem mwsJ5_putStringAt_47b60_1 : ∀ w ∈ wsJ5_putStringAt_47b60_r2, w ∈ wsJ5_putStringAt_47b60 := fun w h => (List.mem_cons_of_mem _ (List.mem_append_left _ (List.mem_append_left _ (List.mem_append_right _ (List.mem_append_left _ h)))))
theorem mwsJ5_putStringAt_47b60_2 : ∀ w ∈ wsJ5_putStringAt_47b60_r3, w ∈ wsJ5_putStringAt_47b60 := fun w h => (List.mem_cons_of_mem _ (List.mem_append_left _ (List.mem_append_left _ (List.mem_append_right _ (List.mem_append_right _ (List.mem_append_left _ h))))))
theorem mwsJ5_putStringAt_47b60_3 : ∀ w ∈ wsJ5_putStringAt_47b60_r4, w ∈ wsJ5_putStringAt_47b60 := fun w h => (List.mem_cons_of_mem _ (List.mem_append_left _ (List.mem_append_left _ (List.mem_append_right _ (List.mem_append_right _ (List.mem_append_right _ h))))))
theorem mwsJ5_putStringAt_47b60_4 : ∀ w ∈ wsJ40, w ∈ wsJ5_putStringAt_47b60 := fun w h => (List.mem_cons_of_mem _ (List.mem_append_left _ (List.mem_append_right _ h)))
theorem mwsJ5_putStringAt_47b60_5 : ∀ w ∈ wsJ00, w ∈ wsJ5_putStringAt_47b60 := fun w h => (List.mem_cons_of_mem _ (List.mem_append_right _ h))
set_option maxRecDepth 20000 in
theorem ggJ5_putStringAt_47b60_J5_inflateIfNeededFor_a7421 : GoodIn wsJ5_putStringAt_47b60 wsJ5_inflateIfNeededFor_a7421 := goodIn_sub (List.forall_mem_cons.mpr ⟨(mwsJ5_putStringAt_47b60_0 _ (List.mem_of_getElem? (i := 7) rfl)), (List.forall_mem_cons.mpr ⟨(mwsJ5_putStringAt_47b60_0 _ (List.mem_of_getElem? (i := 8) rfl)), (List.forall_mem_cons.mpr ⟨(mwsJ5_putStringAt_47b60_0 _ (List.mem_of_getElem? (i := 1) rfl)), (tk_mem 11 _ (fun w h => (mwsJ5_putStringAt_47b60_0 _ (tkB_mem 9 11 h))) (List.forall_mem_cons.mpr ⟨(mwsJ5_putStringAt_47b60_0 _ (List.mem_of_getElem? (i := 6) rfl)), (List.forall_mem_cons.mpr ⟨(mwsJ5_putStringAt_47b60_0 _ (List.mem_of_getElem? (i := 20) rfl)), (List.forall_mem_cons.mpr ⟨(mwsJ5_putStringAt_47b60_0 _ (List.mem_of_getElem? (i := 0) rfl)), (List.forall_mem_cons.mpr ⟨(mwsJ5_putStringAt_47b60_0 _ (List.mem_of_getElem? (i := 21) rfl)), (List.forall_mem_cons.mpr ⟨(mwsJ5_putStringAt_47b60_0 _ (List.mem_of_getElem? (i := 22) rfl)), (List.forall_mem_cons.mpr ⟨(mwsJ5_putStringAt_47b60_0 _ (List.mem_of_getElem? (i := 23) rfl)), (tk_mem 24 _ (fun w h => (mwsJ5_putStringAt_47b60_1 _ (tkB_mem 0 24 h))) (tk_mem 15 _ (fun w h => (mwsJ5_putStringAt_47b60_2 _ (tkB_mem 0 15 h))) (tk_mem 4 _ (fun w h => (mwsJ5_putStringAt_47b60_4 _ (tkB_mem 0 4 h))) (tk_mem 4 _ (fun w h => (mwsJ5_putStringAt_47b60_5 _ (tkB_mem 0 4 h))) (fun _ h => absurd h List.not_mem_nil)))))⟩)⟩)⟩)⟩)⟩)⟩))⟩)⟩)⟩) (by decide +kernel)
set_option maxRecDepth 20000 in
theorem gJ5_putStringAt_47b60_J5_inflateIfNeededFor_a7421_u397J4 : GoodIn wsJ5_putStringAt_47b60 (va_wsU RJ5 397 RJ4 "java/lang/AbstractStringBuilder" ⟨"java/lang/AbstractStringBuilder", "inflateIfNeededFor", "(Ljava/lang/String;)V"⟩ yJ5_inflateIfNeededFor_a7421 wsJ5_inflateIfNeededFor_a7421) := goodIn_app (goodIn_sub (tk_mem 5 _ (fun w h => (mwsJ5_putStringAt_47b60_0 _ (tkB_mem 2 5 h))) (fun _ h => absurd h List.not_mem_nil)) (by decide +kernel)) ggJ5_putStringAt_47b60_J5_inflateIfNeededFor_a7421
set_option maxRecDepth 20000 in
theorem ggJ5_putStringAt_47b60_J0_getBytes_840e7 : GoodIn wsJ5_putStringAt_47b60 wsJ0_getBytes_840e7 := goodIn_sub (tk_mem 6 _ (fun w h => (mwsJ5_putStringAt_47b60_2 _ (tkB_mem 18 6 h))) (List.forall_mem_cons.mpr ⟨(mwsJ5_putStringAt_47b60_3 _ (List.mem_of_getElem? (i := 0) rfl)), (tk_mem 6 _ (fun w h => (mwsJ5_putStringAt_47b60_0 _ (tkB_mem 10 6 h))) (List.forall_mem_cons.mpr ⟨(mwsJ5_putStringAt_47b60_3 _ (List.mem_of_getElem? (i := 1) rfl)), (tk_mem 5 _ (fun w h => (mwsJ5_putStringAt_47b60_1 _ (tkB_mem 13 5 h))) (List.forall_mem_cons.mpr ⟨(mwsJ5_putStringAt_47b60_1 _ (List.mem_of_getElem? (i := 5) rfl)), (tk_mem 6 _ (fun w h => (mwsJ5_putStringAt_47b60_1 _ (tkB_mem 18 6 h))) (tk_mem 15 _ (fun w h => (mwsJ5_putStringAt_47b60_2 _ (tkB_mem 0 15 h))) (tk_mem 4 _ (fun w h => (mwsJ5_putStringAt_47b60_5 _ (tkB_mem 0 4 h))) (fun _ h => absurd h List.not_mem_nil))))⟩))⟩))⟩)) (by decide +kernel)
set_option maxRecDepth 20000 in
theorem gJ5_putStringAt_47b60_J0_getBytes_840e7 : GoodIn wsJ5_putStringAt_47b60 (wsV RJ5 399 RJ0 yJ0_getBytes_840e7 wsJ0_getBytes_840e7) := goodIn_app (goodIn_sub (List.forall_mem_cons.mpr ⟨(mwsJ5_putStringAt_47b60_2 _ (List.mem_of_getElem? (i := 15) rfl)), (List.forall_mem_cons.mpr ⟨(mwsJ5_putStringAt_47b60_2 _ (List.mem_of_getElem? (i := 16) rfl)), (List.forall_mem_cons.mpr ⟨(mwsJ5_putStringAt_47b60_2 _ (List.mem_of_getElem? (i := 17) rfl)), (List.forall_mem_cons.mpr ⟨(mwsJ5_putStringAt_47b60_0 _ (List.mem_of_getElem? (i := 12) rfl)), (fun _ h => absurd h List.not_mem_nil)⟩)⟩)⟩)⟩) (by decide +kernel)) ggJ5_putStringAt_47b60_J0_getBytes_840e7
theorem adJ5_putStringAt_47b60_0 : fd_rows (cJ5_putStringAt_47b60.data.toList.drop 0) 0 [(0, some (.aload_n 0), 1), (1, some (.aload_n 2), 1), (2, some (.invokevirtual 397), 3), (5, some (.aload_n 2), 1), (6, some (.aload_n 0), 1), (7, some (.getfield 15), 3), (10, some (.iload_n 1), 1), (11, some (.aload_n 0), 1), (12, some (.getfield 22), 3), (15, some (.invokevirtual 399), 3), (18, some (.return_), 1)] = true := by decide +kernel
theorem dJ5_putStringAt_47b60_0 : decode cJ5_putStringAt_47b60 0 = .ok (.aload_n 0, 1) := fd_get adJ5_putStringAt_47b60_0 (k := 0) rfl
theorem dJ5_putStringAt_47b60_1 : decode cJ5_putStringAt_47b60 1 = .ok (.aload_n 2, 1) := fd_get adJ5_putStringAt_47b60_0 (k := 1) rfl
theorem dJ5_putStringAt_47b60_2 : decode cJ5_putStringAt_47b60 2 = .ok (.invokevirtual 397, 3) := fd_get adJ5_putStringAt_47b60_0 (k := 2) rfl
theorem dJ5_putStringAt_47b60_5 : decode cJ5_putStringAt_47b60 5 = .ok (.aload_n 2, 1) := fd_get adJ5_putStringAt_47b60_0 (k := 3) rfl
theorem dJ5_putStringAt_47b60_6 : decode cJ5_putStringAt_47b60 6 = .ok (.aload_n 0, 1) := fd_get adJ5_putStringAt_47b60_0 (k := 4) rfl
theorem dJ5_putStringAt_47b60_7 : decode cJ5_putStringAt_47b60 7 = .ok (.getfield 15, 3) := fd_get adJ5_putStringAt_47b60_0 (k := 5) rfl
theorem dJ5_putStringAt_47b60_10 : decode cJ5_putStringAt_47b60 10 = .ok (.iload_n 1, 1) := fd_get adJ5_putStringAt_47b60_0 (k := 6) rfl
theorem dJ5_putStringAt_47b60_11 : decode cJ5_putStringAt_47b60 11 = .ok (.aload_n 0, 1) := fd_get adJ5_putStringAt_47b60_0 (k := 7) rfl
theorem dJ5_putStringAt_47b60_12 : decode cJ5_putStringAt_47b60 12 = .ok (.getfield 22, 3) := fd_get adJ5_putStringAt_47b60_0 (k := 8) rfl
theorem dJ5_putStringAt_47b60_15 : decode cJ5_putStringAt_47b60 15 = .ok (.invokevirtual 399, 3) := fd_get adJ5_putStringAt_47b60_0 (k := 9) rfl
theorem dJ5_putStringAt_47b60_18 : decode cJ5_putStringAt_47b60 18 = .ok (.return_, 1) := fd_get adJ5_putStringAt_47b60_0 (k := 10) rfl
theorem adJ6_getChars_ba4f3_0 : fd_rows (cJ6_getChars_ba4f3.data.toList.drop 0) 0 [(0, some (.iload_n 1), 1), (1, some (.istore 5), 2), (3, some (.iload_n 0), 1), (4, some (.ifCond .ge 7), 3), (7, some (.iconst 1), 1), (8, some (.goto 4), 3), (11, some (.iconst 0), 1), (12, some (.istore 6), 2), (14, some (.iload 6), 2), (16, some (.ifCond .ne 6), 3), (19, some (.iload_n 0), 1), (20, some (.ineg), 1), (21, some (.istore_n 0), 1), (22, some (.iload_n 0), 1), (23, some (.bipush (-100)), 2), (25, some (.if_icmp .gt 47), 3)] = true := by decide +kernel
theorem adJ6_getChars_ba4f3_1 : fd_rows (cJ6_getChars_ba4f3.data.toList.drop 28) 28 [(28, some (.iload_n 0), 1), (29, some (.bipush 100), 2), (31, some (.idiv), 1), (32, some (.istore_n 3), 1), (33, some (.iload_n 3), 1), (34, some (.bipush 100), 2), (36, some (.imul), 1), (37, some (.iload_n 0), 1), (38, some (.isub), 1), (39, some (.istore 4), 2), (41, some (.iload_n 3), 1), (42, some (.istore_n 0), 1), (43, some (.aload_n 2), 1), (44, some (.iinc 5 (-1)), 3), (47, some (.iload 5), 2), (49, some (.getstatic 83), 3)] = true := by decide +kernel
theorem adJ6_getChars_ba4f3_2 : fd_rows (cJ6_getChars_ba4f3.data.toList.drop 52) 52 [(52, some (.iload 4), 2), (54, some (.baload), 1), (55, some (.bastore), 1), (56, some (.aload_n 2), 1), (57, some (.iinc 5 (-1)), 3), (60, some (.iload 5), 2), (62, some (.getstatic 87), 3), (65, some (.iload 4), 2), (67, some (.baload), 1), (68, some (.bastore), 1), (69, some (.goto (-47)), 3), (72, some (.aload_n 2), 1), (73, some (.iinc 5 (-1)), 3), (76, some (.iload 5), 2), (78, some (.getstatic 83), 3), (81, some (.iload_n 0), 1)] = true := by decide +kernel
theorem adJ6_getChars_ba4f3_3 : fd_rows (cJ6_getChars_ba4f3.data.toList.drop 82) 82 [(82, some (.ineg), 1), (83, some (.baload), 1), (84, some (.bastore), 1), (85, some (.iload_n 0), 1), (86, some (.bipush (-9)), 2), (88, some (.if_icmp .ge 16), 3), (91, some (.aload_n 2), 1), (92, some (.iinc 5 (-1)), 3), (95, some (.iload 5), 2), (97, some (.getstatic 87), 3), (100, some (.iload_n 0), 1), (101, some (.ineg), 1), (102, some (.baload), 1), (103, some (.bastore), 1), (104, some (.iload 6), 2), (106, some (.ifCond .eq 12), 3)] = true := by decide +kernel
theorem adJ6_getChars_ba4f3_4 : fd_rows (cJ6_getChars_ba4f3.data.toList.drop 109) 109 [(109, some (.aload_n 2), 1), (110, some (.iinc 5 (-1)), 3), (113, some (.iload 5), 2), (115, some (.bipush 45), 2), (117, some (.bastore), 1), (118, some (.iload 5), 2), (120, some (.ireturn), 1)] = true := by decide +kernel
theorem dJ6_getChars_ba4f3_0 : decode cJ6_getChars_ba4f3 0 = .ok (.iload_n 1, 1) := fd_get adJ6_getChars_ba4f3_0 (k := 0) rfl
theorem dJ6_getChars_ba4f3_1 : decode cJ6_getChars_ba4f3 1 = .ok (.istore 5, 2) := fd_get adJ6_getChars_ba4f3_0 (k := 1) rfl
theorem dJ6_getChars_ba4f3_3 : decode cJ6_getChars_ba4f3 3 = .ok (.iload_n 0, 1) := fd_get adJ6_getChars_ba4f3_0 (k := 2) rfl
theorem dJ6_getChars_ba4f3_4 : decode cJ6_getChars_ba4f3 4 = .ok (.ifCond .ge 7, 3) := fd_get adJ6_getChars_ba4f3_0 (k := 3) rfl
theorem dJ6_getChars_ba4f3_7 : decode cJ6_getChars_ba4f3 7 = .ok (.iconst 1, 1) := fd_get adJ6_getChars_ba4f3_0 (k := 4) rfl
theorem dJ6_getChars_ba4f3_8 : decode cJ6_getChars_ba4f3 8 = .ok (.goto 4, 3) := fd_get adJ6_getChars_ba4f3_0 (k := 5) rfl
theorem dJ6_getChars_ba4f3_11 : decode cJ6_getChars_ba4f3 11 = .ok (.iconst 0, 1) := fd_get adJ6_getChars_ba4f3_0 (k := 6) rfl
theorem dJ6_getChars_ba4f3_12 : decode cJ6_getChars_ba4f3 12 = .ok (.istore 6, 2) := fd_get adJ6_getChars_ba4f3_0 (k := 7) rfl
theorem dJ6_getChars_ba4f3_14 : decode cJ6_getChars_ba4f3 14 = .ok (.iload 6, 2) := fd_get adJ6_getChars_ba4f3_0 (k := 8) rfl
theorem dJ6_getChars_ba4f3_16 : decode cJ6_getChars_ba4f3 16 = .ok (.ifCond .ne 6, 3) := fd_get adJ6_getChars_ba4f3_0 (k := 9) rfl
theorem dJ6_getChars_ba4f3_19 : decode cJ6_getChars_ba4f3 19 = .ok (.iload_n 0, 1) := fd_get adJ6_getChars_ba4f3_0 (k := 10) rfl
theorem dJ6_getChars_ba4f3_20 : decode cJ6_getChars_ba4f3 20 = .ok (.ineg, 1) := fd_get adJ6_getChars_ba4f3_0 (k := 11) rfl
theorem dJ6_getChars_ba4f3_21 : decode cJ6_getChars_ba4f3 21 = .ok (.istore_n 0, 1) := fd_get adJ6_getChars_ba4f3_0 (k := 12) rfl
theorem dJ6_getChars_ba4f3_22 : decode cJ6_getChars_ba4f3 22 = .ok (.iload_n 0, 1) := fd_get adJ6_getChars_ba4f3_0 (k := 13) rfl
theorem dJ6_getChars_ba4f3_23 : decode cJ6_getChars_ba4f3 23 = .ok (.bipush (-100), 2) := fd_get adJ6_getChars_ba4f3_0 (k := 14) rfl
theorem dJ6_getChars_ba4f3_25 : decode cJ6_getChars_ba4f3 25 = .ok (.if_icmp .gt 47, 3) := fd_get adJ6_getChars_ba4f3_0 (k := 15) rfl
theorem dJ6_getChars_ba4f3_28 : decode cJ6_getChars_ba4f3 28 = .ok (.iload_n 0, 1) := fd_get adJ6_getChars_ba4f3_1 (k := 0) rfl
theorem dJ6_getChars_ba4f3_29 : decode cJ6_getChars_ba4f3 29 = .ok (.bipush 100, 2) := fd_get adJ6_getChars_ba4f3_1 (k := 1) rfl
theorem dJ6_getChars_ba4f3_31 : decode cJ6_getChars_ba4f3 31 = .ok (.idiv, 1) := fd_get adJ6_getChars_ba4f3_1 (k := 2) rfl
theorem dJ6_getChars_ba4f3_32 : decode cJ6_getChars_ba4f3 32 = .ok (.istore_n 3, 1) := fd_get adJ6_getChars_ba4f3_1 (k := 3) rfl
theorem dJ6_getChars_ba4f3_33 : decode cJ6_getChars_ba4f3 33 = .ok (.iload_n 3, 1) := fd_get adJ6_getChars_ba4f3_1 (k := 4) rfl
theorem dJ6_getChars_ba4f3_34 : decode cJ6_getChars_ba4f3 34 = .ok (.bipush 100, 2) := fd_get adJ6_getChars_ba4f3_1 (k := 5) rfl
theorem dJ6_getChars_ba4f3_36 : decode cJ6_getChars_ba4f3 36 = .ok (.imul, 1) := fd_get adJ6_getChars_ba4f3_1 (k := 6) rfl
theorem dJ6_getChars_ba4f3_37 : decode cJ6_getChars_ba4f3 37 = .ok (.iload_n 0, 1) := fd_get adJ6_getChars_ba4f3_1 (k := 7) rfl
theorem dJ6_getChars_ba4f3_38 : decode cJ6_getChars_ba4f3 38 = .ok (.isub, 1) := fd_get adJ6_getChars_ba4f3_1 (k := 8) rfl
theorem dJ6_getChars_ba4f3_39 : decode cJ6_getChars_ba4f3 39 = .ok (.istore 4, 2) := fd_get adJ6_getChars_ba4f3_1 (k := 9) rfl
theorem dJ6_getChars_ba4f3_41 : decode cJ6_getChars_ba4f3 41 = .ok (.iload_n 3, 1) := fd_get adJ6_getChars_ba4f3_1 (k := 10) rfl
theorem dJ6_getChars_ba4f3_42 : decode cJ6_getChars_ba4f3 42 = .ok (.istore_n 0, 1) := fd_get adJ6_getChars_ba4f3_1 (k := 11) rfl
theorem dJ6_getChars_ba4f3_43 : decode cJ6_getChars_ba4f3 43 = .ok (.aload_n 2, 1) := fd_get adJ6_getChars_ba4f3_1 (k := 12) rfl
theorem dJ6_getChars_ba4f3_44 : decode cJ6_getChars_ba4f3 44 = .ok (.iinc 5 (-1), 3) := fd_get adJ6_getChars_ba4f3_1 (k := 13) rfl
theorem dJ6_getChars_ba4f3_47 : decode cJ6_getChars_ba4f3 47 = .ok (.iload 5, 2) := fd_get adJ6_getChars_ba4f3_1 (k := 14) rfl
theorem dJ6_getChars_ba4f3_49 : decode cJ6_getChars_ba4f3 49 = .ok (.getstatic 83, 3) := fd_get adJ6_getChars_ba4f3_1 (k := 15) rfl
theorem dJ6_getChars_ba4f3_52 : decode cJ6_getChars_ba4f3 52 = .ok (.iload 4, 2) := fd_get adJ6_getChars_ba4f3_2 (k := 0) rfl
theorem dJ6_getChars_ba4f3_54 : decode cJ6_getChars_ba4f3 54 = .ok (.baload, 1) := fd_get adJ6_getChars_ba4f3_2 (k := 1) rfl
theorem dJ6_getChars_ba4f3_55 : decode cJ6_getChars_ba4f3 55 = .ok (.bastore, 1) := fd_get adJ6_getChars_ba4f3_2 (k := 2) rfl
theorem dJ6_getChars_ba4f3_56 : decode cJ6_getChars_ba4f3 56 = .ok (.aload_n 2, 1) := fd_get adJ6_getChars_ba4f3_2 (k := 3) rfl
theorem dJ6_getChars_ba4f3_57 : decode cJ6_getChars_ba4f3 57 = .ok (.iinc 5 (-1), 3) := fd_get adJ6_getChars_ba4f3_2 (k := 4) rfl
theorem dJ6_getChars_ba4f3_60 : decode cJ6_getChars_ba4f3 60 = .ok (.iload 5, 2) := fd_get adJ6_getChars_ba4f3_2 (k := 5) rfl
theorem dJ6_getChars_ba4f3_62 : decode cJ6_getChars_ba4f3 62 = .ok (.getstatic 87, 3) := fd_get adJ6_getChars_ba4f3_2 (k := 6) rfl
theorem dJ6_getChars_ba4f3_65 : decode cJ6_getChars_ba4f3 65 = .ok (.iload 4, 2) := fd_get adJ6_getChars_ba4f3_2 (k := 7) rfl
theorem dJ6_getChars_ba4f3_67 : decode cJ6_getChars_ba4f3 67 = .ok (.baload, 1) := fd_get adJ6_getChars_ba4f3_2 (k := 8) rfl
theorem dJ6_getChars_ba4f3_68 : decode cJ6_getChars_ba4f3 68 = .ok (.bastore, 1) := fd_get adJ6_getChars_ba4f3_2 (k := 9) rfl
theorem dJ6_getChars_ba4f3_69 : decode cJ6_getChars_ba4f3 69 = .ok (.goto (-47), 3) := fd_get adJ6_getChars_ba4f3_2 (k := 10) rfl
theorem dJ6_getChars_ba4f3_72 : decode cJ6_getChars_ba4f3 72 = .ok (.aload_n 2, 1) := fd_get adJ6_getChars_ba4f3_2 (k := 11) rfl
theorem dJ6_getChars_ba4f3_73 : decode cJ6_getChars_ba4f3 73 = .ok (.iinc 5 (-1), 3) := fd_get adJ6_getChars_ba4f3_2 (k := 12) rfl
theorem dJ6_getChars_ba4f3_76 : decode cJ6_getChars_ba4f3 76 = .ok (.iload 5, 2) := fd_get adJ6_getChars_ba4f3_2 (k := 13) rfl
theorem dJ6_getChars_ba4f3_78 : decode cJ6_getChars_ba4f3 78 = .ok (.getstatic 83, 3) := fd_get adJ6_getChars_ba4f3_2 (k := 14) rfl
theorem dJ6_getChars_ba4f3_81 : decode cJ6_getChars_ba4f3 81 = .ok (.iload_n 0, 1) := fd_get adJ6_getChars_ba4f3_2 (k := 15) rfl
theorem dJ6_getChars_ba4f3_82 : decode cJ6_getChars_ba4f3 82 = .ok (.ineg, 1) := fd_get adJ6_getChars_ba4f3_3 (k := 0) rfl
theorem dJ6_getChars_ba4f3_83 : decode cJ6_getChars_ba4f3 83 = .ok (.baload, 1) := fd_get adJ6_getChars_ba4f3_3 (k := 1) rfl
theorem dJ6_getChars_ba4f3_84 : decode cJ6_getChars_ba4f3 84 = .ok (.bastore, 1) := fd_get adJ6_getChars_ba4f3_3 (k := 2) rfl
theorem dJ6_getChars_ba4f3_85 : decode cJ6_getChars_ba4f3 85 = .ok (.iload_n 0, 1) := fd_get adJ6_getChars_ba4f3_3 (k := 3) rfl
theorem dJ6_getChars_ba4f3_86 : decode cJ6_getChars_ba4f3 86 = .ok (.bipush (-9), 2) := fd_get adJ6_getChars_ba4f3_3 (k := 4) rfl
theorem dJ6_getChars_ba4f3_88 : decode cJ6_getChars_ba4f3 88 = .ok (.if_icmp .ge 16, 3) := fd_get adJ6_getChars_ba4f3_3 (k := 5) rfl
theorem dJ6_getChars_ba4f3_91 : decode cJ6_getChars_ba4f3 91 = .ok (.aload_n 2, 1) := fd_get adJ6_getChars_ba4f3_3 (k := 6) rfl
theorem dJ6_getChars_ba4f3_92 : decode cJ6_getChars_ba4f3 92 = .ok (.iinc 5 (-1), 3) := fd_get adJ6_getChars_ba4f3_3 (k := 7) rfl
theorem dJ6_getChars_ba4f3_95 : decode cJ6_getChars_ba4f3 95 = .ok (.iload 5, 2) := fd_get adJ6_getChars_ba4f3_3 (k := 8) rfl
theorem dJ6_getChars_ba4f3_97 : decode cJ6_getChars_ba4f3 97 = .ok (.getstatic 87, 3) := fd_get adJ6_getChars_ba4f3_3 (k := 9) rfl
theorem dJ6_getChars_ba4f3_100 : decode cJ6_getChars_ba4f3 100 = .ok (.iload_n 0, 1) := fd_get adJ6_getChars_ba4f3_3 (k := 10) rfl
theorem dJ6_getChars_ba4f3_101 : decode cJ6_getChars_ba4f3 101 = .ok (.ineg, 1) := fd_get adJ6_getChars_ba4f3_3 (k := 11) rfl
theorem dJ6_getChars_ba4f3_102 : decode cJ6_getChars_ba4f3 102 = .ok (.baload, 1) := fd_get adJ6_getChars_ba4f3_3 (k := 12) rfl
theorem dJ6_getChars_ba4f3_103 : decode cJ6_getChars_ba4f3 103 = .ok (.bastore, 1) := fd_get adJ6_getChars_ba4f3_3 (k := 13) rfl
theorem dJ6_getChars_ba4f3_104 : decode cJ6_getChars_ba4f3 104 = .ok (.iload 6, 2) := fd_get adJ6_getChars_ba4f3_3 (k := 14) rfl
theorem dJ6_getChars_ba4f3_106 : decode cJ6_getChars_ba4f3 106 = .ok (.ifCond .eq 12, 3) := fd_get adJ6_getChars_ba4f3_3 (k := 15) rfl
theorem dJ6_getChars_ba4f3_109 : decode cJ6_getChars_ba4f3 109 = .ok (.aload_n 2, 1) := fd_get adJ6_getChars_ba4f3_4 (k := 0) rfl
theorem dJ6_getChars_ba4f3_110 : decode cJ6_getChars_ba4f3 110 = .ok (.iinc 5 (-1), 3) := fd_get adJ6_getChars_ba4f3_4 (k := 1) rfl
theorem dJ6_getChars_ba4f3_113 : decode cJ6_getChars_ba4f3 113 = .ok (.iload 5, 2) := fd_get adJ6_getChars_ba4f3_4 (k := 2) rfl
theorem dJ6_getChars_ba4f3_115 : decode cJ6_getChars_ba4f3 115 = .ok (.bipush 45, 2) := fd_get adJ6_getChars_ba4f3_4 (k := 3) rfl
theorem dJ6_getChars_ba4f3_117 : decode cJ6_getChars_ba4f3 117 = .ok (.bastore, 1) := fd_get adJ6_getChars_ba4f3_4 (k := 4) rfl
theorem dJ6_getChars_ba4f3_118 : decode cJ6_getChars_ba4f3 118 = .ok (.iload 5, 2) := fd_get adJ6_getChars_ba4f3_4 (k := 5) rfl
theorem dJ6_getChars_ba4f3_120 : decode cJ6_getChars_ba4f3 120 = .ok (.ireturn, 1) := fd_get adJ6_getChars_ba4f3_4 (k := 6) rfl
theorem adJ6_stringSize_0f7a4_0 : fd_rows (cJ6_stringSize_0f7a4.data.toList.drop 0) 0 [(0, some (.iconst 1), 1), (1, some (.istore_n 1), 1), (2, some (.iload_n 0), 1), (3, some (.ifCond .lt 8), 3), (6, some (.iconst 0), 1), (7, some (.istore_n 1), 1), (8, some (.iload_n 0), 1), (9, some (.ineg), 1), (10, some (.istore_n 0), 1), (11, some (.bipush (-10)), 2), (13, some (.istore_n 2), 1), (14, some (.iconst 1), 1), (15, some (.istore_n 3), 1), (16, some (.iload_n 3), 1), (17, some (.bipush 10), 2), (19, some (.if_icmp .ge 23), 3)] = true := by decide +kernel
theorem adJ6_stringSize_0f7a4_1 : fd_rows (cJ6_stringSize_0f7a4.data.toList.drop 22) 22 [(22, some (.iload_n 0), 1), (23, some (.iload_n 2), 1), (24, some (.if_icmp .le 7), 3), (27, some (.iload_n 3), 1), (28, some (.iload_n 1), 1), (29, some (.iadd), 1), (30, some (.ireturn), 1), (31, some (.bipush 10), 2), (33, some (.iload_n 2), 1), (34, some (.imul), 1), (35, some (.istore_n 2), 1), (36, some (.iinc 3 1), 3), (39, some (.goto (-23)), 3), (42, some (.bipush 10), 2), (44, some (.iload_n 1), 1), (45, some (.iadd), 1)] = true := by decide +kernel
theorem adJ6_stringSize_0f7a4_2 : fd_rows (cJ6_stringSize_0f7a4.data.toList.drop 46) 46 [(46, some (.ireturn), 1)] = true := by decide +kernel
theorem dJ6_stringSize_0f7a4_0 : decode cJ6_stringSize_0f7a4 0 = .ok (.iconst 1, 1) := fd_get adJ6_stringSize_0f7a4_0 (k := 0) rfl
theorem dJ6_stringSize_0f7a4_1 : decode cJ6_stringSize_0f7a4 1 = .ok (.istore_n 1, 1) := fd_get adJ6_stringSize_0f7a4_0 (k := 1) rfl
theorem dJ6_stringSize_0f7a4_2 : decode cJ6_stringSize_0f7a4 2 = .ok (.iload_n 0, 1) := fd_get adJ6_stringSize_0f7a4_0 (k := 2) rfl
theorem dJ6_stringSize_0f7a4_3 : decode cJ6_stringSize_0f7a4 3 = .ok (.ifCond .lt 8, 3) := fd_get adJ6_stringSize_0f7a4_0 (k := 3) rfl
theorem dJ6_stringSize_0f7a4_6 : decode cJ6_stringSize_0f7a4 6 = .ok (.iconst 0, 1) := fd_get adJ6_stringSize_0f7a4_0 (k := 4) rfl
theorem dJ6_stringSize_0f7a4_7 : decode cJ6_stringSize_0f7a4 7 = .ok (.istore_n 1, 1) := fd_get adJ6_stringSize_0f7a4_0 (k := 5) rfl
theorem dJ6_stringSize_0f7a4_8 : decode cJ6_stringSize_0f7a4 8 = .ok (.iload_n 0, 1) := fd_get adJ6_stringSize_0f7a4_0 (k := 6) rfl
theorem dJ6_stringSize_0f7a4_9 : decode cJ6_stringSize_0f7a4 9 = .ok (.ineg, 1) := fd_get adJ6_stringSize_0f7a4_0 (k := 7) rfl
theorem dJ6_stringSize_0f7a4_10 : decode cJ6_stringSize_0f7a4 10 = .ok (.istore_n 0, 1) := fd_get adJ6_stringSize_0f7a4_0 (k := 8) rfl
theorem dJ6_stringSize_0f7a4_11 : decode cJ6_stringSize_0f7a4 11 = .ok (.bipush (-10), 2) := fd_get adJ6_stringSize_0f7a4_0 (k := 9) rfl
theorem dJ6_stringSize_0f7a4_13 : decode cJ6_stringSize_0f7a4 13 = .ok (.istore_n 2, 1) := fd_get adJ6_stringSize_0f7a4_0 (k := 10) rfl
theorem dJ6_stringSize_0f7a4_14 : decode cJ6_stringSize_0f7a4 14 = .ok (.iconst 1, 1) := fd_get adJ6_stringSize_0f7a4_0 (k := 11) rfl
theorem dJ6_stringSize_0f7a4_15 : decode cJ6_stringSize_0f7a4 15 = .ok (.istore_n 3, 1) := fd_get adJ6_stringSize_0f7a4_0 (k := 12) rfl
theorem dJ6_stringSize_0f7a4_16 : decode cJ6_stringSize_0f7a4 16 = .ok (.iload_n 3, 1) := fd_get adJ6_stringSize_0f7a4_0 (k := 13) rfl
theorem dJ6_stringSize_0f7a4_17 : decode cJ6_stringSize_0f7a4 17 = .ok (.bipush 10, 2) := fd_get adJ6_stringSize_0f7a4_0 (k := 14) rfl
theorem dJ6_stringSize_0f7a4_19 : decode cJ6_stringSize_0f7a4 19 = .ok (.if_icmp .ge 23, 3) := fd_get adJ6_stringSize_0f7a4_0 (k := 15) rfl
theorem dJ6_stringSize_0f7a4_22 : decode cJ6_stringSize_0f7a4 22 = .ok (.iload_n 0, 1) := fd_get adJ6_stringSize_0f7a4_1 (k := 0) rfl
theorem dJ6_stringSize_0f7a4_23 : decode cJ6_stringSize_0f7a4 23 = .ok (.iload_n 2, 1) := fd_get adJ6_stringSize_0f7a4_1 (k := 1) rfl
theorem dJ6_stringSize_0f7a4_24 : decode cJ6_stringSize_0f7a4 24 = .ok (.if_icmp .le 7, 3) := fd_get adJ6_stringSize_0f7a4_1 (k := 2) rfl
theorem dJ6_stringSize_0f7a4_27 : decode cJ6_stringSize_0f7a4 27 = .ok (.iload_n 3, 1) := fd_get adJ6_stringSize_0f7a4_1 (k := 3) rfl
theorem dJ6_stringSize_0f7a4_28 : decode cJ6_stringSize_0f7a4 28 = .ok (.iload_n 1, 1) := fd_get adJ6_stringSize_0f7a4_1 (k := 4) rfl
theorem dJ6_stringSize_0f7a4_29 : decode cJ6_stringSize_0f7a4 29 = .ok (.iadd, 1) := fd_get adJ6_stringSize_0f7a4_1 (k := 5) rfl
theorem dJ6_stringSize_0f7a4_30 : decode cJ6_stringSize_0f7a4 30 = .ok (.ireturn, 1) := fd_get adJ6_stringSize_0f7a4_1 (k := 6) rfl
theorem dJ6_stringSize_0f7a4_31 : decode cJ6_stringSize_0f7a4 31 = .ok (.bipush 10, 2) := fd_get adJ6_stringSize_0f7a4_1 (k := 7) rfl
theorem dJ6_stringSize_0f7a4_33 : decode cJ6_stringSize_0f7a4 33 = .ok (.iload_n 2, 1) := fd_get adJ6_stringSize_0f7a4_1 (k := 8) rfl
theorem dJ6_stringSize_0f7a4_34 : decode cJ6_stringSize_0f7a4 34 = .ok (.imul, 1) := fd_get adJ6_stringSize_0f7a4_1 (k := 9) rfl
theorem dJ6_stringSize_0f7a4_35 : decode cJ6_stringSize_0f7a4 35 = .ok (.istore_n 2, 1) := fd_get adJ6_stringSize_0f7a4_1 (k := 10) rfl
theorem dJ6_stringSize_0f7a4_36 : decode cJ6_stringSize_0f7a4 36 = .ok (.iinc 3 1, 3) := fd_get adJ6_stringSize_0f7a4_1 (k := 11) rfl
theorem dJ6_stringSize_0f7a4_39 : decode cJ6_stringSize_0f7a4 39 = .ok (.goto (-23), 3) := fd_get adJ6_stringSize_0f7a4_1 (k := 12) rfl
theorem dJ6_stringSize_0f7a4_42 : decode cJ6_stringSize_0f7a4 42 = .ok (.bipush 10, 2) := fd_get adJ6_stringSize_0f7a4_1 (k := 13) rfl
theorem dJ6_stringSize_0f7a4_44 : decode cJ6_stringSize_0f7a4 44 = .ok (.iload_n 1, 1) := fd_get adJ6_stringSize_0f7a4_1 (k := 14) rfl
theorem dJ6_stringSize_0f7a4_45 : decode cJ6_stringSize_0f7a4 45 = .ok (.iadd, 1) := fd_get adJ6_stringSize_0f7a4_1 (k := 15) rfl
theorem dJ6_stringSize_0f7a4_46 : decode cJ6_stringSize_0f7a4 46 = .ok (.ireturn, 1) := fd_get adJ6_stringSize_0f7a4_2 (k := 0) rfl
theorem mwsJ0_init_81219_0 : ∀ w ∈ wsJ0_init_81219_r1, w ∈ wsJ0_init_81219 := fun w h => (List.mem_cons_of_mem _ (List.mem_append_left _ (List.mem_append_left _ (List.mem_append_left _ h))))
theorem mwsJ0_init_81219_1 : ∀ w ∈ wsJ0_init_81219_r2, w ∈ wsJ0_init_81219 := fun w h => (List.mem_cons_of_mem _ (List.mem_append_left _ (List.mem_append_left _ (List.mem_append_right _ (List.mem_append_left _ h)))))
theorem mwsJ0_init_81219_2 : ∀ w ∈ wsJ0_init_81219_r3, w ∈ wsJ0_init_81219 := fun w h => (List.mem_cons_of_mem _ (List.mem_append_left _ (List.mem_append_left _ (List.mem_append_right _ (List.mem_append_right _ (List.mem_append_left _ h))))))
theorem mwsJ0_init_81219_3 : ∀ w ∈ wsJ0_init_81219_r4, w ∈ wsJ0_init_81219 := fun w h => (List.mem_cons_of_mem _ (List.mem_append_left _ (List.mem_append_left _ (List.mem_append_right _ (List.mem_append_right _ (List.mem_append_right _ (List.mem_append_left _ h)))))))
theorem mwsJ0_init_81219_4 : ∀ w ∈ wsJ0_init_81219_r5, w ∈ wsJ0_init_81219 := fun w h => (List.mem_cons_of_mem _ (List.mem_append_left _ (List.mem_append_left _ (List.mem_append_right _ (List.mem_append_right _ (List.mem_append_right _ (List.mem_append_right _ h)))))))
theorem mwsJ0_init_81219_5 : ∀ w ∈ wsJ00, w ∈ wsJ0_init_81219 := fun w h => (List.mem_cons_of_mem _ (List.mem_append_left _ (List.mem_append_right _ h)))
theorem mwsJ0_init_81219_6 : ∀ w ∈ wsJ40, w ∈ wsJ0_init_81219 := fun w h => (List.mem_cons_of_mem _ (List.mem_append_right _ h))
set_option maxRecDepth 20000 in
theorem ggJ0_init_81219_J0_init_db425 : GoodIn wsJ0_init_81219 wsJ0_init_db425 := goodIn_sub (tk_mem 21 _ (fun w h => (mwsJ0_init_81219_0 _ (tkB_mem 3 21 h))) (tk_mem 24 _ (fun w h => (mwsJ0_init_81219_1 _ (tkB_mem 0 24 h))) (tk_mem 24 _ (fun w h => (mwsJ0_init_81219_2 _ (tkB_mem 0 24 h))) (tk_mem 7 _ (fun w h => (mwsJ0_init_81219_3 _ (tkB_mem 0 7 h))) (List.forall_mem_cons.mpr ⟨(mwsJ0_init_81219_0 _ (List.mem_of_getElem? (i := 2) rfl)), (tk_mem 17 _ (fun w h => (mwsJ0_init_81219_3 _ (tkB_mem 7 17 h))) (List.forall_mem_cons.mpr ⟨(mwsJ0_init_81219_4 _ (List.mem_of_getElem? (i := 0) rfl)), (List.forall_mem_cons.mpr ⟨(mwsJ0_init_81219_4 _ (List.mem_of_getElem? (i := 1) rfl)), (List.forall_mem_cons.mpr ⟨(mwsJ0_init_81219_4 _ (List.mem_of_getElem? (i := 2) rfl)), (tk_mem 4 _ (fun w h => (mwsJ0_init_81219_5 _ (tkB_mem 0 4 h))) (tk_mem 4 _ (fun w h => (mwsJ0_init_81219_6 _ (tkB_mem 0 4 h))) (fun _ h => absurd h List.not_mem_nil)))⟩)⟩)⟩))⟩))))) (by decide +kernel)
set_option maxRecDepth 20000 in
theorem gJ0_init_81219_J0_init_db425 : GoodIn wsJ0_init_81219 (wsJ0_init_db425) := ggJ0_init_81219_J0_init_db425
theorem adJ0_init_81219_0 : fd_rows (cJ0_init_81219.data.toList.drop 0) 0 [(0, some (.aload_n 0), 1), (1, some (.aload_n 1), 1), (2, some (.aconst_null), 1), (3, some (.invokespecial 489), 3), (6, some (.return_), 1)] = true := by decide +kernel
theorem dJ0_init_81219_0 : decode cJ0_init_81219 0 = .ok (.aload_n 0, 1) := fd_get adJ0_init_81219_0 (k := 0) rfl
theorem dJ0_init_81219_1 : decode cJ0_init_81219 1 = .ok (.aload_n 1, 1) := fd_get adJ0_init_81219_0 (k := 1) rfl
theorem dJ0_init_81219_2 : decode cJ0_init_81219 2 = .ok (.aconst_null, 1) := fd_get adJ0_init_81219_0 (k := 2) rfl
theorem dJ0_init_81219_3 : decode cJ0_init_81219 3 = .ok (.invokespecial 489, 3) := fd_get adJ0_init_81219_0 (k := 3) rfl
theorem dJ0_init_81219_6 : decode cJ0_init_81219 6 = .ok (.return_, 1) := fd_get adJ0_init_81219_0 (k := 4) rfl
theorem mwsJ0_length_8abf5_0 : ∀ w ∈ wsJ00, w ∈ wsJ0_length_8abf5 := fun w h => (List.mem_cons_of_mem _ (List.mem_append_right _ h))
set_option maxRecDepth 20000 in
theorem ggJ0_length_8abf5_J0_coder_7d493 : GoodIn wsJ0_length_8abf5 wsJ0_coder_7d493 := goodIn_sub (List.forall_mem_cons.mpr ⟨(List.mem_cons_of_mem _ (List.mem_append_left _ (List.mem_of_getElem? (i := 5) rfl))), (List.forall_mem_cons.mpr ⟨(List.mem_cons_of_mem _ (List.mem_append_left _ (List.mem_of_getElem? (i := 6) rfl))), (List.forall_mem_cons.mpr ⟨(List.mem_cons_of_mem _ (List.mem_append_left _ (List.mem_of_getElem? (i := 7) rfl))), (tk_mem 4 _ (fun w h => (mwsJ0_length_8abf5_0 _ (tkB_mem 0 4 h))) (fun _ h => absurd h List.not_mem_nil))⟩)⟩)⟩) (by decide +kernel)
set_option maxRecDepth 20000 in
theorem gJ0_length_8abf5_J0_coder_7d493 : GoodIn wsJ0_length_8abf5 (wsV RJ0 335 RJ0 yJ0_coder_7d493 wsJ0_coder_7d493) := goodIn_app (goodIn_sub (tk_mem 4 _ (fun w h => (List.mem_cons_of_mem _ (List.mem_append_left _ (tkB_mem 1 4 h)))) (fun _ h => absurd h List.not_mem_nil)) (by decide +kernel)) ggJ0_length_8abf5_J0_coder_7d493
theorem adJ0_length_8abf5_0 : fd_rows (cJ0_length_8abf5.data.toList.drop 0) 0 [(0, some (.aload_n 0), 1), (1, some (.getfield 9), 3), (4, some (.arraylength), 1), (5, some (.aload_n 0), 1), (6, some (.invokevirtual 335), 3), (9, some (.ishr), 1), (10, some (.ireturn), 1)] = true := by decide +kernel
theorem dJ0_length_8abf5_0 : decode cJ0_length_8abf5 0 = .ok (.aload_n 0, 1) := fd_get adJ0_length_8abf5_0 (k := 0) rfl
theorem dJ0_length_8abf5_1 : decode cJ0_length_8abf5 1 = .ok (.getfield 9, 3) := fd_get adJ0_length_8abf5_0 (k := 1) rfl
theorem dJ0_length_8abf5_4 : decode cJ0_length_8abf5 4 = .ok (.arraylength, 1) := fd_get adJ0_length_8abf5_0 (k := 2) rfl
theorem dJ0_length_8abf5_5 : decode cJ0_length_8abf5 5 = .ok (.aload_n 0, 1) := fd_get adJ0_length_8abf5_0 (k := 3) rfl
theorem dJ0_length_8abf5_6 : decode cJ0_length_8abf5 6 = .ok (.invokevirtual 335, 3) := fd_get adJ0_length_8abf5_0 (k := 4) rfl
theorem dJ0_length_8abf5_9 : decode cJ0_length_8abf5 9 = .ok (.ishr, 1) := fd_get adJ0_length_8abf5_0 (k := 5) rfl
theorem dJ0_length_8abf5_10 : decode cJ0_length_8abf5 10 = .ok (.ireturn, 1) := fd_get adJ0_length_8abf5_0 (k := 6) rfl
theorem mwsJ0_getBytes_840e7_0 : ∀ w ∈ wsJ0_getBytes_840e7_r1, w ∈ wsJ0_getBytes_840e7 := fun w h => (List.mem_cons_of_mem _ (List.mem_append_left _ (List.mem_append_left _ h)))
theorem mwsJ0_getBytes_840e7_2 : ∀ w ∈ wsJ00, w ∈ wsJ0_getBytes_840e7 := fun w h => (List.mem_cons_of_mem _ (List.mem_append_right _ h))
set_option maxRecDepth 20000 in
theorem ggJ0_getBytes_840e7_J0_coder_7d493 : GoodIn wsJ0_getBytes_840e7 wsJ0_coder_7d493 := goodIn_sub (List.forall_mem_cons.mpr ⟨(mwsJ0_getBytes_840e7_0 _ (List.mem_of_getElem? (i := 9) rfl)), (List.forall_mem_cons.mpr ⟨(mwsJ0_getBytes_840e7_0 _ (List.mem_of_getElem? (i := 10) rfl)), (List.forall_mem_cons.mpr ⟨(mwsJ0_getBytes_840e7_0 _ (List.mem_of_getElem? (i := 11) rfl)), (tk_mem 4 _ (fun w h => (mwsJ0_getBytes_840e7_2 _ (tkB_mem 0 4 h))) (fun _ h => absurd h List.not_mem_nil))⟩)⟩)⟩) (by decide +kernel)
set_option maxRecDepth 20000 in
theorem gJ0_getBytes_840e7_J0_coder_7d493 : GoodIn wsJ0_getBytes_840e7 (wsV RJ0 335 RJ0 yJ0_coder_7d493 wsJ0_coder_7d493) := goodIn_app (goodIn_sub (tk_mem 4 _ (fun w h => (mwsJ0_getBytes_840e7_0 _ (tkB_mem 5 4 h))) (fun _ h => absurd h List.not_mem_nil)) (by decide +kernel)) ggJ0_getBytes_840e7_J0_coder_7d493
theorem adJ0_getBytes_840e7_0 : fd_rows (cJ0_getBytes_840e7.data.toList.drop 0) 0 [(0, some (.aload_n 0), 1), (1, some (.invokevirtual 335), 3), (4, some (.iload_n 3), 1), (5, some (.if_icmp .ne 23), 3), (8, some (.aload_n 0), 1), (9, some (.getfield 9), 3), (12, some (.iconst 0), 1), (13, some (.aload_n 1), 1), (14, some (.iload_n 2), 1), (15, some (.iload_n 3), 1), (16, some (.ishl), 1), (17, some (.aload_n 0), 1), (18, some (.getfield 9), 3), (21, some (.arraylength), 1), (22, some (.invokestatic 212), 3), (25, some (.goto 18), 3)] = true := by decide +kernel
theorem adJ0_getBytes_840e7_1 : fd_rows (cJ0_getBytes_840e7.data.toList.drop 28) 28 [(28, some (.aload_n 0), 1), (29, some (.getfield 9), 3), (32, some (.iconst 0), 1), (33, some (.aload_n 1), 1), (34, some (.iload_n 2), 1), (35, some (.aload_n 0), 1), (36, some (.getfield 9), 3), (39, some (.arraylength), 1), (40, some (.invokestatic 106), 3), (43, some (.return_), 1)] = true := by decide +kernel
theorem dJ0_getBytes_840e7_0 : decode cJ0_getBytes_840e7 0 = .ok (.aload_n 0, 1) := fd_get adJ0_getBytes_840e7_0 (k := 0) rfl
theorem dJ0_getBytes_840e7_1 : decode cJ0_getBytes_840e7 1 = .ok (.invokevirtual 335, 3) := fd_get adJ0_getBytes_840e7_0 (k := 1) rfl
theorem dJ0_getBytes_840e7_4 : decode cJ0_getBytes_840e7 4 = .ok (.iload_n 3, 1) := fd_get adJ0_getBytes_840e7_0 (k := 2) rfl
theorem dJ0_getBytes_840e7_5 : decode cJ0_getBytes_840e7 5 = .ok (.if_icmp .ne 23, 3) := fd_get adJ0_getBytes_840e7_0 (k := 3) rfl
theorem dJ0_getBytes_840e7_8 : decode cJ0_getBytes_840e7 8 = .ok (.aload_n 0, 1) := fd_get adJ0_getBytes_840e7_0 (k := 4) rfl
theorem dJ0_getBytes_840e7_9 : decode cJ0_getBytes_840e7 9 = .ok (.getfield 9, 3) := fd_get adJ0_getBytes_840e7_0 (k := 5) rfl
theorem dJ0_getBytes_840e7_12 : decode cJ0_getBytes_840e7 12 = .ok (.iconst 0, 1) := fd_get adJ0_getBytes_840e7_0 (k := 6) rfl
theorem dJ0_getBytes_840e7_13 : decode cJ0_getBytes_840e7 13 = .ok (.aload_n 1, 1) := fd_get adJ0_getBytes_840e7_0 (k := 7) rfl
theorem dJ0_getBytes_840e7_14 : decode cJ0_getBytes_840e7 14 = .ok (.iload_n 2, 1) := fd_get adJ0_getBytes_840e7_0 (k := 8) rfl
theorem dJ0_getBytes_840e7_15 : decode cJ0_getBytes_840e7 15 = .ok (.iload_n 3, 1) := fd_get adJ0_getBytes_840e7_0 (k := 9) rfl
theorem dJ0_getBytes_840e7_16 : decode cJ0_getBytes_840e7 16 = .ok (.ishl, 1) := fd_get adJ0_getBytes_840e7_0 (k := 10) rfl
theorem dJ0_getBytes_840e7_17 : decode cJ0_getBytes_840e7 17 = .ok (.aload_n 0, 1) := fd_get adJ0_getBytes_840e7_0 (k := 11) rfl
theorem dJ0_getBytes_840e7_18 : decode cJ0_getBytes_840e7 18 = .ok (.getfield 9, 3) := fd_get adJ0_getBytes_840e7_0 (k := 12) rfl
theorem dJ0_getBytes_840e7_21 : decode cJ0_getBytes_840e7 21 = .ok (.arraylength, 1) := fd_get adJ0_getBytes_840e7_0 (k := 13) rfl
theorem dJ0_getBytes_840e7_22 : decode cJ0_getBytes_840e7 22 = .ok (.invokestatic 212, 3) := fd_get adJ0_getBytes_840e7_0 (k := 14) rfl
theorem dJ0_getBytes_840e7_25 : decode cJ0_getBytes_840e7 25 = .ok (.goto 18, 3) := fd_get adJ0_getBytes_840e7_0 (k := 15) rfl
theorem dJ0_getBytes_840e7_43 : decode cJ0_getBytes_840e7 43 = .ok (.return_, 1) := fd_get adJ0_getBytes_840e7_1 (k := 9) rfl
theorem mwsJ0_init_db425_0 : ∀ w ∈ wsJ0_init_db425_r1, w ∈ wsJ0_init_db425 := fun w h => (List.mem_cons_of_mem _ (List.mem_append_left _ (List.mem_append_left _ (List.mem_append_left _ h))))
theorem mwsJ0_init_db425_1 : ∀ w ∈ wsJ0_init_db425_r2, w ∈ wsJ0_init_db425 := fun w h => (List.mem_cons_of_mem _ (List.mem_append_left _ (List.mem_append_left _ (List.mem_append_right _ (List.mem_append_left _ h)))))
theorem mwsJ0_init_db425_2 : ∀ w ∈ wsJ0_init_db425_r3, w ∈ wsJ0_init_db425 := fun w h => (List.mem_cons_of_mem _ (List.mem_append_left _ (List.mem_append_left _ (List.mem_append_right _ (List.mem_append_right _ (List.mem_append_left _ h))))))
theorem mwsJ0_init_db425_5 : ∀ w ∈ wsJ40, w ∈ wsJ0_init_db425 := fun w h => (List.mem_cons_of_mem _ (List.mem_append_right _ h))
set_option maxRecDepth 20000 in
theorem ggJ0_init_db425_J5_getValue_6d5f1 : GoodIn wsJ0_init_db425 wsJ5_getValue_6d5f1 := goodIn_sub (List.forall_mem_cons.mpr ⟨(mwsJ0_init_db425_0 _ (List.mem_of_getElem? (i := 12) rfl)), (List.forall_mem_cons.mpr ⟨(mwsJ0_init_db425_0 _ (List.mem_of_getElem? (i := 13) rfl)), (tk_mem 4 _ (fun w h => (mwsJ0_init_db425_5 _ (tkB_mem 0 4 h))) (fun _ h => absurd h List.not_mem_nil))⟩)⟩) (by decide +kernel)
set_option maxRecDepth 20000 in
theorem gJ0_init_db425_J5_getValue_6d5f1_u552J4 : GoodIn wsJ0_init_db425 (va_wsU RJ0 552 RJ4 "java/lang/AbstractStringBuilder" ⟨"java/lang/AbstractStringBuilder", "getValue", "()[B"⟩ yJ5_getValue_6d5f1 wsJ5_getValue_6d5f1) := goodIn_app (goodIn_sub (tk_mem 5 _ (fun w h => (mwsJ0_init_db425_0 _ (tkB_mem 7 5 h))) (fun _ h => absurd h List.not_mem_nil)) (by decide +kernel)) ggJ0_init_db425_J5_getValue_6d5f1
set_option maxRecDepth 20000 in
theorem ggJ0_init_db425_J4_length_8abf5 : GoodIn wsJ0_init_db425 wsJ4_length_8abf5 := goodIn_sub (List.forall_mem_cons.mpr ⟨(mwsJ0_init_db425_0 _ (List.mem_of_getElem? (i := 20) rfl)), (List.forall_mem_cons.mpr ⟨(mwsJ0_init_db425_0 _ (List.mem_of_getElem? (i := 21) rfl)), (List.forall_mem_cons.mpr ⟨(mwsJ0_init_db425_0 _ (List.mem_of_getElem? (i := 15) rfl)), (List.forall_mem_cons.mpr ⟨(mwsJ0_init_db425_0 _ (List.mem_of_getElem? (i := 22) rfl)), (List.forall_mem_cons.mpr ⟨(mwsJ0_init_db425_0 _ (List.mem_of_getElem? (i := 23) rfl)), (List.forall_mem_cons.mpr ⟨(mwsJ0_init_db425_0 _ (List.mem_of_getElem? (i := 11) rfl)), (List.forall_mem_cons.mpr ⟨(mwsJ0_init_db425_1 _ (List.mem_of_getElem? (i := 0) rfl)), (List.forall_mem_cons.mpr ⟨(mwsJ0_init_db425_1 _ (List.mem_of_getElem? (i := 1) rfl)), (tk_mem 4 _ (fun w h => (mwsJ0_init_db425_5 _ (tkB_mem 0 4 h))) (fun _ h => absurd h List.not_mem_nil))⟩)⟩)⟩)⟩)⟩)⟩)⟩)⟩) (by decide +kernel)
set_option maxRecDepth 20000 in
theorem gJ0_init_db425_J4_length_8abf5_u549J4 : GoodIn wsJ0_init_db425 (va_wsO RJ0 549 RJ4 "java/lang/AbstractStringBuilder" ⟨"java/lang/AbstractStringBuilder", "length", "()I"⟩ yJ4_length_8abf5 wsJ4_length_8abf5) := goodIn_app (goodIn_sub (tk_mem 6 _ (fun w h => (mwsJ0_init_db425_0 _ (tkB_mem 14 6 h))) (fun _ h => absurd h List.not_mem_nil)) (by decide +kernel)) ggJ0_init_db425_J4_length_8abf5
set_option maxRecDepth 20000 in
theorem ggJ0_init_db425_J5_isLatin1_aae02 : GoodIn wsJ0_init_db425 wsJ5_isLatin1_aae02 := goodIn_sub (List.forall_mem_cons.mpr ⟨(mwsJ0_init_db425_1 _ (List.mem_of_getElem? (i := 6) rfl)), (List.forall_mem_cons.mpr ⟨(mwsJ0_init_db425_1 _ (List.mem_of_getElem? (i := 7) rfl)), (List.forall_mem_cons.mpr ⟨(mwsJ0_init_db425_1 _ (List.mem_of_getElem? (i := 8) rfl)), (tk_mem 4 _ (fun w h => (mwsJ0_init_db425_5 _ (tkB_mem 0 4 h))) (fun _ h => absurd h List.not_mem_nil))⟩)⟩)⟩) (by decide +kernel)
set_option maxRecDepth 20000 in
theorem gJ0_init_db425_J5_isLatin1_aae02_u1047J4 : GoodIn wsJ0_init_db425 (va_wsU RJ0 1047 RJ4 "java/lang/AbstractStringBuilder" ⟨"java/lang/AbstractStringBuilder", "isLatin1", "()Z"⟩ yJ5_isLatin1_aae02 wsJ5_isLatin1_aae02) := goodIn_app (goodIn_sub (tk_mem 4 _ (fun w h => (mwsJ0_init_db425_1 _ (tkB_mem 2 4 h))) (List.forall_mem_cons.mpr ⟨(mwsJ0_init_db425_0 _ (List.mem_of_getElem? (i := 11) rfl)), (fun _ h => absurd h List.not_mem_nil)⟩)) (by decide +kernel)) ggJ0_init_db425_J5_isLatin1_aae02
set_option maxRecDepth 20000 in
theorem ggJ0_init_db425_J7_copyOfRange_39247 : GoodIn wsJ0_init_db425 wsJ7_copyOfRange_39247 := goodIn_sub (tk_mem 9 _ (fun w h => (mwsJ0_init_db425_1 _ (tkB_mem 12 9 h))) (List.forall_mem_cons.mpr ⟨(mwsJ0_init_db425_1 _ (List.mem_of_getElem? (i := 11) rfl)), (List.forall_mem_cons.mpr ⟨(mwsJ0_init_db425_1 _ (List.mem_of_getElem? (i := 21) rfl)), (List.forall_mem_cons.mpr ⟨(mwsJ0_init_db425_1 _ (List.mem_of_getElem? (i := 22) rfl)), (List.forall_mem_cons.mpr ⟨(mwsJ0_init_db425_1 _ (List.mem_of_getElem? (i := 23) rfl)), (tk_mem 12 _ (fun w h => (mwsJ0_init_db425_2 _ (tkB_mem 0 12 h))) (List.forall_mem_cons.mpr ⟨(mwsJ0_init_db425_0 _ (List.mem_of_getElem? (i := 19) rfl)), (tk_mem 4 _ (fun w h => (mwsJ0_init_db425_5 _ (tkB_mem 0 4 h))) (fun _ h => absurd h List.not_mem_nil))⟩))⟩)⟩)⟩)⟩)) (by decide +kernel)
set_option maxRecDepth 20000 in
theorem gJ0_init_db425_J7_copyOfRange_39247 : GoodIn wsJ0_init_db425 (va_wsS RJ0 54 yJ7_copyOfRange_39247 wsJ7_copyOfRange_39247) := goodIn_app (goodIn_sub (List.forall_mem_cons.mpr ⟨(mwsJ0_init_db425_1 _ (List.mem_of_getElem? (i := 9) rfl)), (List.forall_mem_cons.mpr ⟨(mwsJ0_init_db425_1 _ (List.mem_of_getElem? (i := 10) rfl)), (List.forall_mem_cons.mpr ⟨(mwsJ0_init_db425_1 _ (List.mem_of_getElem? (i := 11) rfl)), (fun _ h => absurd h List.not_mem_nil)⟩)⟩)⟩) (by decide +kernel)) ggJ0_init_db425_J7_copyOfRange_39247
theorem adJ0_init_db425_0 : fd_rows (cJ0_init_db425.data.toList.drop 0) 0 [(0, some (.aload_n 0), 1), (1, some (.invokespecial 1), 3), (4, some (.aload_n 1), 1), (5, some (.invokevirtual 552), 3), (8, some (.astore_n 3), 1), (9, some (.aload_n 1), 1), (10, some (.invokevirtual 549), 3), (13, some (.istore 4), 2), (15, some (.aload_n 1), 1), (16, some (.invokevirtual 1047), 3), (19, some (.ifCond .eq 22), 3), (22, some (.aload_n 0), 1), (23, some (.iconst 0), 1), (24, some (.putfield 15), 3), (27, some (.aload_n 0), 1), (28, some (.aload_n 3), 1)] = true := by decide +kernel
theorem adJ0_init_db425_1 : fd_rows (cJ0_init_db425.data.toList.drop 29) 29 [(29, some (.iconst 0), 1), (30, some (.iload 4), 2), (32, some (.invokestatic 54), 3), (35, some (.putfield 9), 3), (38, some (.goto 59), 3), (41, some (.getstatic 38), 3), (44, some (.ifCond .eq 35), 3), (47, some (.aload_n 1), 1), (48, some (.getfield 1048), 3), (51, some (.ifCond .eq 28), 3), (54, some (.aload_n 0), 1), (55, some (.aload_n 3), 1), (56, some (.iconst 0), 1), (57, some (.iload 4), 2), (59, some (.invokestatic 1051), 3), (62, some (.putfield 9), 3)] = true := by decide +kernel
theorem adJ0_init_db425_3 : fd_rows (cJ0_init_db425.data.toList.drop 91) 91 [(91, some (.invokestatic 54), 3), (94, some (.putfield 9), 3), (97, some (.return_), 1)] = true := by decide +kernel
theorem dJ0_init_db425_0 : decode cJ0_init_db425 0 = .ok (.aload_n 0, 1) := fd_get adJ0_init_db425_0 (k := 0) rfl
theorem dJ0_init_db425_1 : decode cJ0_init_db425 1 = .ok (.invokespecial 1, 3) := fd_get adJ0_init_db425_0 (k := 1) rfl
theorem dJ0_init_db425_4 : decode cJ0_init_db425 4 = .ok (.aload_n 1, 1) := fd_get adJ0_init_db425_0 (k := 2) rfl
theorem dJ0_init_db425_5 : decode cJ0_init_db425 5 = .ok (.invokevirtual 552, 3) := fd_get adJ0_init_db425_0 (k := 3) rfl
theorem dJ0_init_db425_8 : decode cJ0_init_db425 8 = .ok (.astore_n 3, 1) := fd_get adJ0_init_db425_0 (k := 4) rfl
theorem dJ0_init_db425_9 : decode cJ0_init_db425 9 = .ok (.aload_n 1, 1) := fd_get adJ0_init_db425_0 (k := 5) rfl
theorem dJ0_init_db425_10 : decode cJ0_init_db425 10 = .ok (.invokevirtual 549, 3) := fd_get adJ0_init_db425_0 (k := 6) rfl
theorem dJ0_init_db425_13 : decode cJ0_init_db425 13 = .ok (.istore 4, 2) := fd_get adJ0_init_db425_0 (k := 7) rfl
theorem dJ0_init_db425_15 : decode cJ0_init_db425 15 = .ok (.aload_n 1, 1) := fd_get adJ0_init_db425_0 (k := 8) rfl
theorem dJ0_init_db425_16 : decode cJ0_init_db425 16 = .ok (.invokevirtual 1047, 3) := fd_get adJ0_init_db425_0 (k := 9) rfl
theorem dJ0_init_db425_19 : decode cJ0_init_db425 19 = .ok (.ifCond .eq 22, 3) := fd_get adJ0_init_db425_0 (k := 10) rfl
theorem dJ0_init_db425_22 : decode cJ0_init_db425 22 = .ok (.aload_n 0, 1) := fd_get adJ0_init_db425_0 (k := 11) rfl
theorem dJ0_init_db425_23 : decode cJ0_init_db425 23 = .ok (.iconst 0, 1) := fd_get adJ0_init_db425_0 (k := 12) rfl
theorem dJ0_init_db425_24 : decode cJ0_init_db425 24 = .ok (.putfield 15, 3) := fd_get adJ0_init_db425_0 (k := 13) rfl
theorem dJ0_init_db425_27 : decode cJ0_init_db425 27 = .ok (.aload_n 0, 1) := fd_get adJ0_init_db425_0 (k := 14) rfl
theorem dJ0_init_db425_28 : decode cJ0_init_db425 28 = .ok (.aload_n 3, 1) := fd_get adJ0_init_db425_0 (k := 15) rfl
theorem dJ0_init_db425_29 : decode cJ0_init_db425 29 = .ok (.iconst 0, 1) := fd_get adJ0_init_db425_1 (k := 0) rfl
theorem dJ0_init_db425_30 : decode cJ0_init_db425 30 = .ok (.iload 4, 2) := fd_get adJ0_init_db425_1 (k := 1) rfl
theorem dJ0_init_db425_32 : decode cJ0_init_db425 32 = .ok (.invokestatic 54, 3) := fd_get adJ0_init_db425_1 (k := 2) rfl
theorem dJ0_init_db425_35 : decode cJ0_init_db425 35 = .ok (.putfield 9, 3) := fd_get adJ0_init_db425_1 (k := 3) rfl
theorem dJ0_init_db425_38 : decode cJ0_init_db425 38 = .ok (.goto 59, 3) := fd_get adJ0_init_db425_1 (k := 4) rfl
theorem dJ0_init_db425_97 : decode cJ0_init_db425 97 = .ok (.return_, 1) := fd_get adJ0_init_db425_3 (k := 2) rfl
theorem adJ0_coder_7d493_0 : fd_rows (cJ0_coder_7d493.data.toList.drop 0) 0 [(0, some (.getstatic 38), 3), (3, some (.ifCond .eq 10), 3), (6, some (.aload_n 0), 1), (7, some (.getfield 15), 3), (10, some (.goto 4), 3), (13, some (.iconst 1), 1), (14, some (.ireturn), 1)] = true := by decide +kernel
theorem dJ0_coder_7d493_0 : decode cJ0_coder_7d493 0 = .ok (.getstatic 38, 3) := fd_get adJ0_coder_7d493_0 (k := 0) rfl
theorem dJ0_coder_7d493_3 : decode cJ0_coder_7d493 3 = .ok (.ifCond .eq 10, 3) := fd_get adJ0_coder_7d493_0 (k := 1) rfl
theorem dJ0_coder_7d493_6 : decode cJ0_coder_7d493 6 = .ok (.aload_n 0, 1) := fd_get adJ0_coder_7d493_0 (k := 2) rfl
theorem dJ0_coder_7d493_7 : decode cJ0_coder_7d493 7 = .ok (.getfield 15, 3) := fd_get adJ0_coder_7d493_0 (k := 3) rfl
theorem dJ0_coder_7d493_10 : decode cJ0_coder_7d493 10 = .ok (.goto 4, 3) := fd_get adJ0_coder_7d493_0 (k := 4) rfl
theorem dJ0_coder_7d493_13 : decode cJ0_coder_7d493 13 = .ok (.iconst 1, 1) := fd_get adJ0_coder_7d493_0 (k := 5) rfl
theorem dJ0_coder_7d493_14 : decode cJ0_coder_7d493 14 = .ok (.ireturn, 1) := fd_get adJ0_coder_7d493_0 (k := 6) rfl
theorem mwsJ4_init_da8c8_0 : ∀ w ∈ wsJ40, w ∈ wsJ4_init_da8c8 := fun w h => (List.mem_cons_of_mem _ (List.mem_append_right _ h))
set_option maxRecDepth 20000 in
theorem ggJ4_init_da8c8_J5_init_d00df : GoodIn wsJ4_init_da8c8 wsJ5_init_d00df := goodIn_sub (tk_mem 16 _ (fun w h => (List.mem_cons_of_mem _ (List.mem_append_left _ (tkB_mem 3 16 h)))) (tk_mem 4 _ (fun w h => (mwsJ4_init_da8c8_0 _ (tkB_mem 0 4 h))) (fun _ h => absurd h List.not_mem_nil))) (by decide +kernel)
set_option maxRecDepth 20000 in
theorem gJ4_init_da8c8_J5_init_d00df : GoodIn wsJ4_init_da8c8 (wsJ5_init_d00df) := ggJ4_init_da8c8_J5_init_d00df
theorem adJ4_init_da8c8_0 : fd_rows (cJ4_init_da8c8.data.toList.drop 0) 0 [(0, some (.aload_n 0), 1), (1, some (.bipush 16), 2), (3, some (.invokespecial 1), 3), (6, some (.return_), 1)] = true := by decide +kernel
theorem dJ4_init_da8c8_0 : decode cJ4_init_da8c8 0 = .ok (.aload_n 0, 1) := fd_get adJ4_init_da8c8_0 (k := 0) rfl
theorem dJ4_init_da8c8_1 : decode cJ4_init_da8c8 1 = .ok (.bipush 16, 2) := fd_get adJ4_init_da8c8_0 (k := 1) rfl
theorem dJ4_init_da8c8_3 : decode cJ4_init_da8c8 3 = .ok (.invokespecial 1, 3) := fd_get adJ4_init_da8c8_0 (k := 2) rfl
theorem dJ4_init_da8c8_6 : decode cJ4_init_da8c8 6 = .ok (.return_, 1) := fd_get adJ4_init_da8c8_0 (k := 3) rfl
theorem mwsJ4_init_a7421_0 : ∀ w ∈ wsJ4_init_a7421_r1, w ∈ wsJ4_init_a7421 := fun w h => (List.mem_cons_of_mem _ (List.mem_append_left _ (List.mem_append_left _ (List.mem_append_left _ h))))
theorem mwsJ4_init_a7421_1 : ∀ w ∈ wsJ4_init_a7421_r2, w ∈ wsJ4_init_a7421 := fun w h => (List.mem_cons_of_mem _ (List.mem_append_left _ (List.mem_append_left _ (List.mem_append_right _ (List.mem_append_left _ h)))))
theorem mwsJ4_init_a7421_2 : ∀ w ∈ wsJ4_init_a7421_r3, w ∈ wsJ4_init_a7421 := fun w h => (List.mem_cons_of_mem _ (List.mem_append_left _ (List.mem_append_left _ (List.mem_append_right _ (List.mem_append_right _ (List.mem_append_left _ h))))))
theorem mwsJ4_init_a7421_3 : ∀ w ∈ wsJ4_init_a7421_r4, w ∈ wsJ4_init_a7421 := fun w h => (List.mem_cons_of_mem _ (List.mem_append_left _ (List.mem_append_left _ (List.mem_append_right _ (List.mem_append_right _ (List.mem_append_right _ (List.mem_append_left _ h)))))))
theorem mwsJ4_init_a7421_4 : ∀ w ∈ wsJ4_init_a7421_r5, w ∈ wsJ4_init_a7421 := fun w h => (List.mem_cons_of_mem _ (List.mem_append_left _ (List.mem_append_left _ (List.mem_append_right _ (List.mem_append_right _ (List.mem_append_right _ (List.mem_append_right _ (List.mem_append_left _ h))))))))
theorem mwsJ4_init_a7421_5 : ∀ w ∈ wsJ4_init_a7421_r6, w ∈ wsJ4_init_a7421 := fun w h => (List.mem_cons_of_mem _ (List.mem_append_left _ (List.mem_append_left _ (List.mem_append_right _ (List.mem_append_right _ (List.mem_append_right _ (List.mem_append_right _ (List.mem_append_right _ (List.mem_append_left _ h)))))))))
theorem mwsJ4_init_a7421_6 : ∀ w ∈ wsJ4_init_a7421_r7, w ∈ wsJ4_init_a7421 := fun w h => (List.mem_cons_of_mem _ (List.mem_append_left _ (List.mem_append_left _ (List.mem_append_right _ (List.mem_append_right _ (List.mem_append_right _ (List.mem_append_right _ (List.mem_append_right _ (List.mem_append_right _ h)))))))))
theorem mwsJ4_init_a7421_7 : ∀ w ∈ wsJ40, w ∈ wsJ4_init_a7421 := fun w h => (List.mem_cons_of_mem _ (List.mem_append_left _ (List.mem_append_right _ h)))
theorem mwsJ4_init_a7421_8 : ∀ w ∈ wsJ00, w ∈ wsJ4_init_a7421 := fun w h => (List.mem_cons_of_mem _ (List.mem_append_right _ h))
set_option maxRecDepth 20000 in
theorem ggJ4_init_a7421_J5_init_a7421 : GoodIn wsJ4_init_a7421 wsJ5_init_a7421 := goodIn_sub (tk_mem 21 _ (fun w h => (mwsJ4_init_a7421_0 _ (tkB_mem 3 21 h))) (tk_mem 23 _ (fun w h => (mwsJ4_init_a7421_1 _ (tkB_mem 0 23 h))) (List.forall_mem_cons.mpr ⟨(mwsJ4_init_a7421_0 _ (List.mem_of_getElem? (i := 2) rfl)), (List.forall_mem_cons.mpr ⟨(mwsJ4_init_a7421_1 _ (List.mem_of_getElem? (i := 23) rfl)), (tk_mem 24 _ (fun w h => (mwsJ4_init_a7421_2 _ (tkB_mem 0 24 h))) (tk_mem 24 _ (fun w h => (mwsJ4_init_a7421_3 _ (tkB_mem 0 24 h))) (tk_mem 24 _ (fun w h => (mwsJ4_init_a7421_4 _ (tkB_mem 0 24 h))) (tk_mem 24 _ (fun w h => (mwsJ4_init_a7421_5 _ (tkB_mem 0 24 h))) (tk_mem 15 _ (fun w h => (mwsJ4_init_a7421_6 _ (tkB_mem 0 15 h))) (tk_mem 4 _ (fun w h => (mwsJ4_init_a7421_7 _ (tkB_mem 0 4 h))) (tk_mem 4 _ (fun w h => (mwsJ4_init_a7421_8 _ (tkB_mem 0 4 h))) (fun _ h => absurd h List.not_mem_nil))))))))⟩)⟩))) (by decide +kernel)
set_option maxRecDepth 20000 in
theorem gJ4_init_a7421_J5_init_a7421 : GoodIn wsJ4_init_a7421 (wsJ5_init_a7421) := ggJ4_init_a7421_J5_init_a7421
theorem adJ4_init_a7421_0 : fd_rows (cJ4_init_a7421.data.toList.drop 0) 0 [(0, some (.aload_n 0), 1), (1, some (.aload_n 1), 1), (2, some (.invokespecial 7), 3), (5, some (.return_), 1)] = true := by decide +kernel
theorem dJ4_init_a7421_0 : decode cJ4_init_a7421 0 = .ok (.aload_n 0, 1) := fd_get adJ4_init_a7421_0 (k := 0) rfl
theorem dJ4_init_a7421_1 : decode cJ4_init_a7421 1 = .ok (.aload_n 1, 1) := fd_get adJ4_init_a7421_0 (k := 1) rfl
theorem dJ4_init_a7421_2 : decode cJ4_init_a7421 2 = .ok (.invokespecial 7, 3) := fd_get adJ4_init_a7421_0 (k := 2) rfl
theorem dJ4_init_a7421_5 : decode cJ4_init_a7421 5 = .ok (.return_, 1) := fd_get adJ4_init_a7421_0 (k := 3) rfl
theorem mwsJ4_append_15ec4_0 : ∀ w ∈ wsJ4_append_15ec4_r1, w ∈ wsJ4_append_15ec4 := fun w h => (List.mem_cons_of_mem _ (List.mem_append_left _ (List.mem_append_left _ (List.mem_append_left _ h))))
theorem mwsJ4_append_15ec4_1 : ∀ w ∈ wsJ4_append_15ec4_r2, w ∈ wsJ4_append_15ec4 := fun w h => (List.mem_cons_of_mem _ (List.mem_append_left _ (List.mem_append_left _ (List.mem_append_right _ (List.mem_append_left _ h)))))
theorem mwsJ4_append_15ec4_2 : ∀ w ∈ wsJ4_append_15ec4_r3, w ∈ wsJ4_append_15ec4 := fun w h => (List.mem_cons_of_mem _ (List.mem_append_left _ (List.mem_append_left _ (List.mem_append_right _ (List.mem_append_right _ (List.mem_append_left _ h))))))
theorem mwsJ4_append_15ec4_3 : ∀ w ∈ wsJ4_append_15ec4_r4, w ∈ wsJ4_append_15ec4 := fun w h => (List.mem_cons_of_mem _ (List.mem_append_left _ (List.mem_append_left _ (List.mem_append_right _ (List.mem_append_right _ (List.mem_append_right _ (List.mem_append_left _ h)))))))
theorem mwsJ4_append_15ec4_4 : ∀ w ∈ wsJ4_append_15ec4_r5, w ∈ wsJ4_append_15ec4 := fun w h => (List.mem_cons_of_mem _ (List.mem_append_left _ (List.mem_append_left _ (List.mem_append_right _ (List.mem_append_right _ (List.mem_append_right _ (List.mem_append_right _ (List.mem_append_left _ h))))))))
theorem mwsJ4_append_15ec4_5 : ∀ w ∈ wsJ4_append_15ec4_r6, w ∈ wsJ4_append_15ec4 := fun w h => (List.mem_cons_of_mem _ (List.mem_append_left _ (List.mem_append_left _ (List.mem_append_right _ (List.mem_append_right _ (List.mem_append_right _ (List.mem_append_right _ (List.mem_append_right _ h))))))))
theorem mwsJ4_append_15ec4_6 : ∀ w ∈ wsJ40, w ∈ wsJ4_append_15ec4 := fun w h => (List.mem_cons_of_mem _ (List.mem_append_left _ (List.mem_append_right _ h)))
theorem mwsJ4_append_15ec4_7 : ∀ w ∈ wsJ00, w ∈ wsJ4_append_15ec4 := fun w h => (List.mem_cons_of_mem _ (List.mem_append_right _ h))
set_option maxRecDepth 20000 in
theorem ggJ4_append_15ec4_J5_append_cf1ce : GoodIn wsJ4_append_15ec4 wsJ5_append_cf1ce := goodIn_sub (tk_mem 6 _ (fun w h => (mwsJ4_append_15ec4_0 _ (tkB_mem 5 6 h))) (List.forall_mem_cons.mpr ⟨(mwsJ4_append_15ec4_0 _ (List.mem_of_getElem? (i := 4) rfl)), (tk_mem 13 _ (fun w h => (mwsJ4_append_15ec4_0 _ (tkB_mem 11 13 h))) (tk_mem 24 _ (fun w h => (mwsJ4_append_15ec4_1 _ (tkB_mem 0 24 h))) (tk_mem 24 _ (fun w h => (mwsJ4_append_15ec4_2 _ (tkB_mem 0 24 h))) (tk_mem 24 _ (fun w h => (mwsJ4_append_15ec4_3 _ (tkB_mem 0 24 h))) (tk_mem 24 _ (fun w h => (mwsJ4_append_15ec4_4 _ (tkB_mem 0 24 h))) (tk_mem 22 _ (fun w h => (mwsJ4_append_15ec4_5 _ (tkB_mem 0 22 h))) (tk_mem 4 _ (fun w h => (mwsJ4_append_15ec4_6 _ (tkB_mem 0 4 h))) (tk_mem 4 _ (fun w h => (mwsJ4_append_15ec4_7 _ (tkB_mem 0 4 h))) (fun _ h => absurd h List.not_mem_nil)))))))))⟩)) (by decide +kernel)
set_option maxRecDepth 20000 in
theorem gJ4_append_15ec4_J5_append_cf1ce_s29 : GoodIn wsJ4_append_15ec4 (va_wsSU RJ4 29 yJ5_append_cf1ce wsJ5_append_cf1ce) := goodIn_app (goodIn_sub (tk_mem 5 _ (fun w h => (mwsJ4_append_15ec4_0 _ (tkB_mem 0 5 h))) (fun _ h => absurd h List.not_mem_nil)) (by decide +kernel)) ggJ4_append_15ec4_J5_append_cf1ce
theorem adJ4_append_15ec4_0 : fd_rows (cJ4_append_15ec4.data.toList.drop 0) 0 [(0, some (.aload_n 0), 1), (1, some (.aload_n 1), 1), (2, some (.invokespecial 29), 3), (5, some (.pop), 1), (6, some (.aload_n 0), 1), (7, some (.areturn), 1)] = true := by decide +kernel
theorem dJ4_append_15ec4_0 : decode cJ4_append_15ec4 0 = .ok (.aload_n 0, 1) := fd_get adJ4_append_15ec4_0 (k := 0) rfl
theorem dJ4_append_15ec4_1 : decode cJ4_append_15ec4 1 = .ok (.aload_n 1, 1) := fd_get adJ4_append_15ec4_0 (k := 1) rfl
theorem dJ4_append_15ec4_2 : decode cJ4_append_15ec4 2 = .ok (.invokespecial 29, 3) := fd_get adJ4_append_15ec4_0 (k := 2) rfl
theorem dJ4_append_15ec4_5 : decode cJ4_append_15ec4 5 = .ok (.pop, 1) := fd_get adJ4_append_15ec4_0 (k := 3) rfl
theorem dJ4_append_15ec4_6 : decode cJ4_append_15ec4 6 = .ok (.aload_n 0, 1) := fd_get adJ4_append_15ec4_0 (k := 4) rfl
theorem dJ4_append_15ec4_7 : decode cJ4_append_15ec4 7 = .ok (.areturn, 1) := fd_get adJ4_append_15ec4_0 (k := 5) rfl
theorem mwsJ4_append_cf468_0 : ∀ w ∈ wsJ4_append_cf468_r1, w ∈ wsJ4_append_cf468 := fun w h => (List.mem_cons_of_mem _ (List.mem_append_left _ (List.mem_append_left _ h)))
theorem mwsJ4_append_cf468_1 : ∀ w ∈ wsJ4_append_cf468_r2, w ∈ wsJ4_append_cf468 := fun w h => (List.mem_cons_of_mem _ (List.mem_append_left _ (List.mem_append_right _ (List.mem_append_left _ h))))
theorem mwsJ4_append_cf468_2 : ∀ w ∈ wsJ4_append_cf468_r3, w ∈ wsJ4_append_cf468 := fun w h => (List.mem_cons_of_mem _ (List.mem_append_left _ (List.mem_append_right _ (List.mem_append_right _ (List.mem_append_left _ h)))))
theorem mwsJ4_append_cf468_3 : ∀ w ∈ wsJ4_append_cf468_r4, w ∈ wsJ4_append_cf468 := fun w h => (List.mem_cons_of_mem _ (List.mem_append_left _ (List.mem_append_right _ (List.mem_append_right _ (List.mem_append_right _ (List.mem_append_left _ h))))))
theorem mwsJ4_append_cf468_4 : ∀ w ∈ wsJ4_append_cf468_r5, w ∈ wsJ4_append_cf468 := fun w h => (List.mem_cons_of_mem _ (List.mem_append_left _ (List.mem_append_right _ (List.mem_append_right _ (List.mem_append_right _ (List.mem_append_right _ h))))))
theorem mwsJ4_append_cf468_5 : ∀ w ∈ wsJ40, w ∈ wsJ4_append_cf468 := fun w h => (List.mem_cons_of_mem _ (List.mem_append_right _ h))
set_option maxRecDepth 20000 in
theorem ggJ4_append_cf468_J5_append_3fe6f : GoodIn wsJ4_append_cf468 wsJ5_append_3fe6f := goodIn_sub (tk_mem 7 _ (fun w h => (mwsJ4_append_cf468_0 _ (tkB_mem 5 7 h))) (List.forall_mem_cons.mpr ⟨(mwsJ4_append_cf468_0 _ (List.mem_of_getElem? (i := 4) rfl)), (tk_mem 12 _ (fun w h => (mwsJ4_append_cf468_0 _ (tkB_mem 12 12 h))) (tk_mem 24 _ (fun w h => (mwsJ4_append_cf468_1 _ (tkB_mem 0 24 h))) (tk_mem 24 _ (fun w h => (mwsJ4_append_cf468_2 _ (tkB_mem 0 24 h))) (tk_mem 24 _ (fun w h => (mwsJ4_append_cf468_3 _ (tkB_mem 0 24 h))) (tk_mem 16 _ (fun w h => (mwsJ4_append_cf468_4 _ (tkB_mem 0 16 h))) (tk_mem 4 _ (fun w h => (mwsJ4_append_cf468_5 _ (tkB_mem 0 4 h))) (fun _ h => absurd h List.not_mem_nil)))))))⟩)) (by decide +kernel)
set_option maxRecDepth 20000 in
theorem gJ4_append_cf468_J5_append_3fe6f_s50 : GoodIn wsJ4_append_cf468 (va_wsSU RJ4 50 yJ5_append_3fe6f wsJ5_append_3fe6f) := goodIn_app (goodIn_sub (tk_mem 5 _ (fun w h => (mwsJ4_append_cf468_0 _ (tkB_mem 0 5 h))) (fun _ h => absurd h List.not_mem_nil)) (by decide +kernel)) ggJ4_append_cf468_J5_append_3fe6f
theorem adJ4_append_cf468_0 : fd_rows (cJ4_append_cf468.data.toList.drop 0) 0 [(0, some (.aload_n 0), 1), (1, some (.iload_n 1), 1), (2, some (.invokespecial 50), 3), (5, some (.pop), 1), (6, some (.aload_n 0), 1), (7, some (.areturn), 1)] = true := by decide +kernel
theorem dJ4_append_cf468_0 : decode cJ4_append_cf468 0 = .ok (.aload_n 0, 1) := fd_get adJ4_append_cf468_0 (k := 0) rfl
theorem dJ4_append_cf468_1 : decode cJ4_append_cf468 1 = .ok (.iload_n 1, 1) := fd_get adJ4_append_cf468_0 (k := 1) rfl
theorem dJ4_append_cf468_2 : decode cJ4_append_cf468 2 = .ok (.invokespecial 50, 3) := fd_get adJ4_append_cf468_0 (k := 2) rfl
theorem dJ4_append_cf468_5 : decode cJ4_append_cf468 5 = .ok (.pop, 1) := fd_get adJ4_append_cf468_0 (k := 3) rfl
theorem dJ4_append_cf468_6 : decode cJ4_append_cf468 6 = .ok (.aload_n 0, 1) := fd_get adJ4_append_cf468_0 (k := 4) rfl
theorem dJ4_append_cf468_7 : decode cJ4_append_cf468 7 = .ok (.areturn, 1) := fd_get adJ4_append_cf468_0 (k := 5) rfl
theorem mwsJ4_append_bf812_0 : ∀ w ∈ wsJ4_append_bf812_r1, w ∈ wsJ4_append_bf812 := fun w h => (List.mem_cons_of_mem _ (List.mem_append_left _ (List.mem_append_left _ h)))
theorem mwsJ4_append_bf812_1 : ∀ w ∈ wsJ4_append_bf812_r2, w ∈ wsJ4_append_bf812 := fun w h => (List.mem_cons_of_mem _ (List.mem_append_left _ (List.mem_append_right _ (List.mem_append_left _ h))))
theorem mwsJ4_append_bf812_2 : ∀ w ∈ wsJ4_append_bf812_r3, w ∈ wsJ4_append_bf812 := fun w h => (List.mem_cons_of_mem _ (List.mem_append_left _ (List.mem_append_right _ (List.mem_append_right _ (List.mem_append_left _ h)))))
theorem mwsJ4_append_bf812_3 : ∀ w ∈ wsJ4_append_bf812_r4, w ∈ wsJ4_append_bf812 := fun w h => (List.mem_cons_of_mem _ (List.mem_append_left _ (List.mem_append_right _ (List.mem_append_right _ (List.mem_append_right _ h)))))
theorem mwsJ4_append_bf812_4 : ∀ w ∈ wsJ40, w ∈ wsJ4_append_bf812 := fun w h => (List.mem_cons_of_mem _ (List.mem_append_right _ h))
set_option maxRecDepth 20000 in
theorem ggJ4_append_bf812_J5_append_c97b9 : GoodIn wsJ4_append_bf812 wsJ5_append_c97b9 := goodIn_sub (tk_mem 11 _ (fun w h => (mwsJ4_append_bf812_0 _ (tkB_mem 5 11 h))) (List.forall_mem_cons.mpr ⟨(mwsJ4_append_bf812_0 _ (List.mem_of_getElem? (i := 4) rfl)), (tk_mem 8 _ (fun w h => (mwsJ4_append_bf812_0 _ (tkB_mem 16 8 h))) (tk_mem 24 _ (fun w h => (mwsJ4_append_bf812_1 _ (tkB_mem 0 24 h))) (tk_mem 24 _ (fun w h => (mwsJ4_append_bf812_2 _ (tkB_mem 0 24 h))) (tk_mem 23 _ (fun w h => (mwsJ4_append_bf812_3 _ (tkB_mem 0 23 h))) (tk_mem 4 _ (fun w h => (mwsJ4_append_bf812_4 _ (tkB_mem 0 4 h))) (fun _ h => absurd h List.not_mem_nil))))))⟩)) (by decide +kernel)
set_option maxRecDepth 20000 in
theorem gJ4_append_bf812_J5_append_c97b9_s53 : GoodIn wsJ4_append_bf812 (va_wsSU RJ4 53 yJ5_append_c97b9 wsJ5_append_c97b9) := goodIn_app (goodIn_sub (tk_mem 5 _ (fun w h => (mwsJ4_append_bf812_0 _ (tkB_mem 0 5 h))) (fun _ h => absurd h List.not_mem_nil)) (by decide +kernel)) ggJ4_append_bf812_J5_append_c97b9
theorem adJ4_append_bf812_0 : fd_rows (cJ4_append_bf812.data.toList.drop 0) 0 [(0, some (.aload_n 0), 1), (1, some (.iload_n 1), 1), (2, some (.invokespecial 53), 3), (5, some (.pop), 1), (6, some (.aload_n 0), 1), (7, some (.areturn), 1)] = true := by decide +kernel
theorem dJ4_append_bf812_0 : decode cJ4_append_bf812 0 = .ok (.aload_n 0, 1) := fd_get adJ4_append_bf812_0 (k := 0) rfl
theorem dJ4_append_bf812_1 : decode cJ4_append_bf812 1 = .ok (.iload_n 1, 1) := fd_get adJ4_append_bf812_0 (k := 1) rfl
theorem dJ4_append_bf812_2 : decode cJ4_append_bf812 2 = .ok (.invokespecial 53, 3) := fd_get adJ4_append_bf812_0 (k := 2) rfl
theorem dJ4_append_bf812_5 : decode cJ4_append_bf812 5 = .ok (.pop, 1) := fd_get adJ4_append_bf812_0 (k := 3) rfl
theorem dJ4_append_bf812_6 : decode cJ4_append_bf812 6 = .ok (.aload_n 0, 1) := fd_get adJ4_append_bf812_0 (k := 4) rfl
theorem dJ4_append_bf812_7 : decode cJ4_append_bf812 7 = .ok (.areturn, 1) := fd_get adJ4_append_bf812_0 (k := 5) rfl
theorem mwsJ4_toString_0e30d_0 : ∀ w ∈ wsJ4_toString_0e30d_r1, w ∈ wsJ4_toString_0e30d := fun w h => (List.mem_cons_of_mem _ (List.mem_append_left _ (List.mem_append_left _ (List.mem_append_left _ h))))
theorem mwsJ4_toString_0e30d_1 : ∀ w ∈ wsJ4_toString_0e30d_r2, w ∈ wsJ4_toString_0e30d := fun w h => (List.mem_cons_of_mem _ (List.mem_append_left _ (List.mem_append_left _ (List.mem_append_right _ (List.mem_append_left _ h)))))
theorem mwsJ4_toString_0e30d_2 : ∀ w ∈ wsJ4_toString_0e30d_r3, w ∈ wsJ4_toString_0e30d := fun w h => (List.mem_cons_of_mem _ (List.mem_append_left _ (List.mem_append_left _ (List.mem_append_right _ (List.mem_append_right _ (List.mem_append_left _ h))))))
theorem mwsJ4_toString_0e30d_3 : ∀ w ∈ wsJ4_toString_0e30d_r4, w ∈ wsJ4_toString_0e30d := fun w h => (List.mem_cons_of_mem _ (List.mem_append_left _ (List.mem_append_left _ (List.mem_append_right _ (List.mem_append_right _ (List.mem_append_right _ (List.mem_append_left _ h)))))))
theorem mwsJ4_toString_0e30d_4 : ∀ w ∈ wsJ4_toString_0e30d_r5, w ∈ wsJ4_toString_0e30d := fun w h => (List.mem_cons_of_mem _ (List.mem_append_left _ (List.mem_append_left _ (List.mem_append_right _ (List.mem_append_right _ (List.mem_append_right _ (List.mem_append_right _ h)))))))
theorem mwsJ4_toString_0e30d_5 : ∀ w ∈ wsJ00, w ∈ wsJ4_toString_0e30d := fun w h => (List.mem_cons_of_mem _ (List.mem_append_left _ (List.mem_append_right _ h)))
theorem mwsJ4_toString_0e30d_6 : ∀ w ∈ wsJ40, w ∈ wsJ4_toString_0e30d := fun w h => (List.mem_cons_of_mem _ (List.mem_append_right _ h))
set_option maxRecDepth 20000 in
theorem ggJ4_toString_0e30d_J0_init_81219 : GoodIn wsJ4_toString_0e30d wsJ0_init_81219 := goodIn_sub (List.forall_mem_cons.mpr ⟨(mwsJ4_toString_0e30d_0 _ (List.mem_of_getElem? (i := 5) rfl)), (List.forall_mem_cons.mpr ⟨(mwsJ4_toString_0e30d_0 _ (List.mem_of_getElem? (i := 6) rfl)), (List.forall_mem_cons.mpr ⟨(mwsJ4_toString_0e30d_0 _ (List.mem_of_getElem? (i := 7) rfl)), (List.forall_mem_cons.mpr ⟨(mwsJ4_toString_0e30d_0 _ (List.mem_of_getElem? (i := 2) rfl)), (tk_mem 16 _ (fun w h => (mwsJ4_toString_0e30d_0 _ (tkB_mem 8 16 h))) (tk_mem 24 _ (fun w h => (mwsJ4_toString_0e30d_1 _ (tkB_mem 0 24 h))) (tk_mem 24 _ (fun w h => (mwsJ4_toString_0e30d_2 _ (tkB_mem 0 24 h))) (tk_mem 24 _ (fun w h => (mwsJ4_toString_0e30d_3 _ (tkB_mem 0 24 h))) (tk_mem 8 _ (fun w h => (mwsJ4_toString_0e30d_4 _ (tkB_mem 0 8 h))) (tk_mem 4 _ (fun w h => (mwsJ4_toString_0e30d_5 _ (tkB_mem 0 4 h))) (tk_mem 4 _ (fun w h => (mwsJ4_toString_0e30d_6 _ (tkB_mem 0 4 h))) (fun _ h => absurd h List.not_mem_nil))))))))⟩)⟩)⟩)⟩) (by decide +kernel)
set_option maxRecDepth 20000 in
theorem gJ4_toString_0e30d_J0_init_81219 : GoodIn wsJ4_toString_0e30d (wsJ0_init_81219) := ggJ4_toString_0e30d_J0_init_81219
theorem adJ4_toString_0e30d_0 : fd_rows (cJ4_toString_0e30d.data.toList.drop 0) 0 [(0, some (.new 18), 3), (3, some (.dup), 1), (4, some (.aload_n 0), 1), (5, some (.invokespecial 137), 3), (8, some (.areturn), 1)] = true := by decide +kernel
theorem dJ4_toString_0e30d_0 : decode cJ4_toString_0e30d 0 = .ok (.new 18, 3) := fd_get adJ4_toString_0e30d_0 (k := 0) rfl
theorem dJ4_toString_0e30d_3 : decode cJ4_toString_0e30d 3 = .ok (.dup, 1) := fd_get adJ4_toString_0e30d_0 (k := 1) rfl
theorem dJ4_toString_0e30d_4 : decode cJ4_toString_0e30d 4 = .ok (.aload_n 0, 1) := fd_get adJ4_toString_0e30d_0 (k := 2) rfl
theorem dJ4_toString_0e30d_5 : decode cJ4_toString_0e30d 5 = .ok (.invokespecial 137, 3) := fd_get adJ4_toString_0e30d_0 (k := 3) rfl
theorem dJ4_toString_0e30d_8 : decode cJ4_toString_0e30d 8 = .ok (.areturn, 1) := fd_get adJ4_toString_0e30d_0 (k := 4) rfl
theorem mwsJ4_append_cf1ce_0 : ∀ w ∈ wsJ4_append_cf1ce_r1, w ∈ wsJ4_append_cf1ce := fun w h => (List.mem_cons_of_mem _ (List.mem_append_left _ (List.mem_append_left _ (List.mem_append_left _ h))))
theorem mwsJ4_append_cf1ce_1 : ∀ w ∈ wsJ4_append_cf1ce_r2, w ∈ wsJ4_append_cf1ce := fun w h => (List.mem_cons_of_mem _ (List.mem_append_left _ (List.mem_append_left _ (List.mem_append_right _ (List.mem_append_left _ h)))))
theorem mwsJ4_append_cf1ce_2 : ∀ w ∈ wsJ4_append_cf1ce_r3, w ∈ wsJ4_append_cf1ce := fun w h => (List.mem_cons_of_mem _ (List.mem_append_left _ (List.mem_append_left _ (List.mem_append_right _ (List.mem_append_right _ (List.mem_append_left _ h))))))
theorem mwsJ4_append_cf1ce_3 : ∀ w ∈ wsJ4_append_cf1ce_r4, w ∈ wsJ4_append_cf1ce := fun w h => (List.mem_cons_of_mem _ (List.mem_append_left _ (List.mem_append_left _ (List.mem_append_right _ (List.mem_append_right _ (List.mem_append_right _ (List.mem_append_left _ h)))))))
theorem mwsJ4_append_cf1ce_4 : ∀ w ∈ wsJ4_append_cf1ce_r5, w ∈ wsJ4_append_cf1ce := fun w h => (List.mem_cons_of_mem _ (List.mem_append_left _ (List.mem_append_left _ (List.mem_append_right _ (List.mem_append_right _ (List.mem_append_right _ (List.mem_append_right _ (List.mem_append_left _ h))))))))
theorem mwsJ4_append_cf1ce_5 : ∀ w ∈ wsJ4_append_cf1ce_r6, w ∈ wsJ4_append_cf1ce := fun w h => (List.mem_cons_of_mem _ (List.mem_append_left _ (List.mem_append_left _ (List.mem_append_right _ (List.mem_append_right _ (List.mem_append_right _ (List.mem_append_right _ (List.mem_append_right _ (List.mem_append_left _ h)))))))))
theorem mwsJ4_append_cf1ce_6 : ∀ w ∈ wsJ4_append_cf1ce_r7, w ∈ wsJ4_append_cf1ce := fun w h => (List.mem_cons_of_mem _ (List.mem_append_left _ (List.mem_append_left _ (List.mem_append_right _ (List.mem_append_right _ (List.mem_append_right _ (List.mem_append_right _ (List.mem_append_right _ (List.mem_append_right _ h)))))))))
theorem mwsJ4_append_cf1ce_7 : ∀ w ∈ wsJ40, w ∈ wsJ4_append_cf1ce := fun w h => (List.mem_cons_of_mem _ (List.mem_append_left _ (List.mem_append_right _ h)))
theorem mwsJ4_append_cf1ce_8 : ∀ w ∈ wsJ00, w ∈ wsJ4_append_cf1ce := fun w h => (List.mem_cons_of_mem _ (List.mem_append_right _ h))
set_option maxRecDepth 20000 in
theorem ggJ4_append_cf1ce_J4_append_15ec4 : GoodIn wsJ4_append_cf1ce wsJ4_append_15ec4 := goodIn_sub (tk_mem 20 _ (fun w h => (mwsJ4_append_cf1ce_0 _ (tkB_mem 4 20 h))) (tk_mem 24 _ (fun w h => (mwsJ4_append_cf1ce_1 _ (tkB_mem 0 24 h))) (tk_mem 24 _ (fun w h => (mwsJ4_append_cf1ce_2 _ (tkB_mem 0 24 h))) (tk_mem 24 _ (fun w h => (mwsJ4_append_cf1ce_3 _ (tkB_mem 0 24 h))) (tk_mem 24 _ (fun w h => (mwsJ4_append_cf1ce_4 _ (tkB_mem 0 24 h))) (tk_mem 24 _ (fun w h => (mwsJ4_append_cf1ce_5 _ (tkB_mem 0 24 h))) (List.forall_mem_cons.mpr ⟨(mwsJ4_append_cf1ce_6 _ (List.mem_of_getElem? (i := 0) rfl)), (List.forall_mem_cons.mpr ⟨(mwsJ4_append_cf1ce_6 _ (List.mem_of_getElem? (i := 1) rfl)), (List.forall_mem_cons.mpr ⟨(mwsJ4_append_cf1ce_6 _ (List.mem_of_getElem? (i := 2) rfl)), (tk_mem 4 _ (fun w h => (mwsJ4_append_cf1ce_7 _ (tkB_mem 0 4 h))) (tk_mem 4 _ (fun w h => (mwsJ4_append_cf1ce_8 _ (tkB_mem 0 4 h))) (fun _ h => absurd h List.not_mem_nil)))⟩)⟩)⟩))))))) (by decide +kernel)
set_option maxRecDepth 20000 in
theorem gJ4_append_cf1ce_J4_append_15ec4 : GoodIn wsJ4_append_cf1ce (wsV RJ4 23 RJ4 yJ4_append_15ec4 wsJ4_append_15ec4) := goodIn_app (goodIn_sub (tk_mem 4 _ (fun w h => (mwsJ4_append_cf1ce_0 _ (tkB_mem 0 4 h))) (fun _ h => absurd h List.not_mem_nil)) (by decide +kernel)) ggJ4_append_cf1ce_J4_append_15ec4
theorem adJ4_append_cf1ce_0 : fd_rows (cJ4_append_cf1ce.data.toList.drop 0) 0 [(0, some (.aload_n 0), 1), (1, some (.aload_n 1), 1), (2, some (.invokevirtual 23), 3), (5, some (.areturn), 1)] = true := by decide +kernel
theorem dJ4_append_cf1ce_0 : decode cJ4_append_cf1ce 0 = .ok (.aload_n 0, 1) := fd_get adJ4_append_cf1ce_0 (k := 0) rfl
theorem dJ4_append_cf1ce_1 : decode cJ4_append_cf1ce 1 = .ok (.aload_n 1, 1) := fd_get adJ4_append_cf1ce_0 (k := 1) rfl
theorem dJ4_append_cf1ce_2 : decode cJ4_append_cf1ce 2 = .ok (.invokevirtual 23, 3) := fd_get adJ4_append_cf1ce_0 (k := 2) rfl
theorem dJ4_append_cf1ce_5 : decode cJ4_append_cf1ce 5 = .ok (.areturn, 1) := fd_get adJ4_append_cf1ce_0 (k := 3) rfl
theorem mwsJ4_length_8abf5_0 : ∀ w ∈ wsJ40, w ∈ wsJ4_length_8abf5 := fun w h => (List.mem_cons_of_mem _ (List.mem_append_right _ h))
set_option maxRecDepth 20000 in
theorem ggJ4_length_8abf5_J5_length_8abf5 : GoodIn wsJ4_length_8abf5 wsJ5_length_8abf5 := goodIn_sub (List.forall_mem_cons.mpr ⟨(List.mem_cons_of_mem _ (List.mem_append_left _ (List.mem_of_getElem? (i := 5) rfl))), (List.forall_mem_cons.mpr ⟨(List.mem_cons_of_mem _ (List.mem_append_left _ (List.mem_of_getElem? (i := 6) rfl))), (tk_mem 4 _ (fun w h => (mwsJ4_length_8abf5_0 _ (tkB_mem 0 4 h))) (fun _ h => absurd h List.not_mem_nil))⟩)⟩) (by decide +kernel)
set_option maxRecDepth 20000 in
theorem gJ4_length_8abf5_J5_length_8abf5_s343 : GoodIn wsJ4_length_8abf5 (va_wsSU RJ4 343 yJ5_length_8abf5 wsJ5_length_8abf5) := goodIn_app (goodIn_sub (tk_mem 5 _ (fun w h => (List.mem_cons_of_mem _ (List.mem_append_left _ (tkB_mem 0 5 h)))) (fun _ h => absurd h List.not_mem_nil)) (by decide +kernel)) ggJ4_length_8abf5_J5_length_8abf5
theorem adJ4_length_8abf5_0 : fd_rows (cJ4_length_8abf5.data.toList.drop 0) 0 [(0, some (.aload_n 0), 1), (1, some (.invokespecial 343), 3), (4, some (.ireturn), 1)] = true := by decide +kernel
theorem dJ4_length_8abf5_0 : decode cJ4_length_8abf5 0 = .ok (.aload_n 0, 1) := fd_get adJ4_length_8abf5_0 (k := 0) rfl
theorem dJ4_length_8abf5_1 : decode cJ4_length_8abf5 1 = .ok (.invokespecial 343, 3) := fd_get adJ4_length_8abf5_0 (k := 1) rfl
theorem dJ4_length_8abf5_4 : decode cJ4_length_8abf5 4 = .ok (.ireturn, 1) := fd_get adJ4_length_8abf5_0 (k := 2) rfl
theorem adJ1_canEncode_fc78d_0 : fd_rows (cJ1_canEncode_fc78d.data.toList.drop 0) 0 [(0, some (.iload_n 0), 1), (1, some (.sipush 255), 3), (4, some (.if_icmp .gt 7), 3), (7, some (.iconst 1), 1), (8, some (.goto 4), 3), (11, some (.iconst 0), 1), (12, some (.ireturn), 1)] = true := by decide +kernel
theorem dJ1_canEncode_fc78d_0 : decode cJ1_canEncode_fc78d 0 = .ok (.iload_n 0, 1) := fd_get adJ1_canEncode_fc78d_0 (k := 0) rfl
theorem dJ1_canEncode_fc78d_1 : decode cJ1_canEncode_fc78d 1 = .ok (.sipush 255, 3) := fd_get adJ1_canEncode_fc78d_0 (k := 1) rfl
theorem dJ1_canEncode_fc78d_4 : decode cJ1_canEncode_fc78d 4 = .ok (.if_icmp .gt 7, 3) := fd_get adJ1_canEncode_fc78d_0 (k := 2) rfl
theorem dJ1_canEncode_fc78d_7 : decode cJ1_canEncode_fc78d 7 = .ok (.iconst 1, 1) := fd_get adJ1_canEncode_fc78d_0 (k := 3) rfl
theorem dJ1_canEncode_fc78d_8 : decode cJ1_canEncode_fc78d 8 = .ok (.goto 4, 3) := fd_get adJ1_canEncode_fc78d_0 (k := 4) rfl
theorem dJ1_canEncode_fc78d_11 : decode cJ1_canEncode_fc78d 11 = .ok (.iconst 0, 1) := fd_get adJ1_canEncode_fc78d_0 (k := 5) rfl
theorem dJ1_canEncode_fc78d_12 : decode cJ1_canEncode_fc78d 12 = .ok (.ireturn, 1) := fd_get adJ1_canEncode_fc78d_0 (k := 6) rfl
theorem adJ7_copyOf_9075b_0 : fd_rows (cJ7_copyOf_9075b.data.toList.drop 0) 0 [(0, some (.iload_n 1), 1), (1, some (.aload_n 0), 1), (2, some (.arraylength), 1), (3, some (.if_icmp .ne 11), 3), (6, some (.aload_n 0), 1), (7, some (.invokevirtual 310), 3), (10, some (.checkcast 311), 3), (13, some (.areturn), 1), (14, some (.iload_n 1), 1), (15, none, 2), (17, some (.astore_n 2), 1), (18, some (.aload_n 0), 1), (19, some (.iconst 0), 1), (20, some (.aload_n 2), 1), (21, some (.iconst 0), 1), (22, some (.aload_n 0), 1)] = true := by decide +kernel
theorem adJ7_copyOf_9075b_1 : fd_rows (cJ7_copyOf_9075b.data.toList.drop 23) 23 [(23, some (.arraylength), 1), (24, some (.iload_n 1), 1), (25, some (.invokestatic 304), 3), (28, some (.invokestatic 150), 3), (31, some (.aload_n 2), 1), (32, some (.areturn), 1)] = true := by decide +kernel
theorem dJ7_copyOf_9075b_0 : decode cJ7_copyOf_9075b 0 = .ok (.iload_n 1, 1) := fd_get adJ7_copyOf_9075b_0 (k := 0) rfl
theorem dJ7_copyOf_9075b_1 : decode cJ7_copyOf_9075b 1 = .ok (.aload_n 0, 1) := fd_get adJ7_copyOf_9075b_0 (k := 1) rfl
theorem dJ7_copyOf_9075b_2 : decode cJ7_copyOf_9075b 2 = .ok (.arraylength, 1) := fd_get adJ7_copyOf_9075b_0 (k := 2) rfl
theorem dJ7_copyOf_9075b_3 : decode cJ7_copyOf_9075b 3 = .ok (.if_icmp .ne 11, 3) := fd_get adJ7_copyOf_9075b_0 (k := 3) rfl
theorem dJ7_copyOf_9075b_14 : decode cJ7_copyOf_9075b 14 = .ok (.iload_n 1, 1) := fd_get adJ7_copyOf_9075b_0 (k := 8) rfl
theorem dJ7_copyOf_9075b_15 : decode cJ7_copyOf_9075b 15 = .ok (.newarray .byte, 2) := by decide +kernel
theorem dJ7_copyOf_9075b_17 : decode cJ7_copyOf_9075b 17 = .ok (.astore_n 2, 1) := fd_get adJ7_copyOf_9075b_0 (k := 10) rfl
theorem dJ7_copyOf_9075b_18 : decode cJ7_copyOf_9075b 18 = .ok (.aload_n 0, 1) := fd_get adJ7_copyOf_9075b_0 (k := 11) rfl
theorem dJ7_copyOf_9075b_19 : decode cJ7_copyOf_9075b 19 = .ok (.iconst 0, 1) := fd_get adJ7_copyOf_9075b_0 (k := 12) rfl
theorem dJ7_copyOf_9075b_20 : decode cJ7_copyOf_9075b 20 = .ok (.aload_n 2, 1) := fd_get adJ7_copyOf_9075b_0 (k := 13) rfl
theorem dJ7_copyOf_9075b_21 : decode cJ7_copyOf_9075b 21 = .ok (.iconst 0, 1) := fd_get adJ7_copyOf_9075b_0 (k := 14) rfl
theorem dJ7_copyOf_9075b_22 : decode cJ7_copyOf_9075b 22 = .ok (.aload_n 0, 1) := fd_get adJ7_copyOf_9075b_0 (k := 15) rfl
theorem dJ7_copyOf_9075b_23 : decode cJ7_copyOf_9075b 23 = .ok (.arraylength, 1) := fd_get adJ7_copyOf_9075b_1 (k := 0) rfl
theorem dJ7_copyOf_9075b_24 : decode cJ7_copyOf_9075b 24 = .ok (.iload_n 1, 1) := fd_get adJ7_copyOf_9075b_1 (k := 1) rfl
theorem dJ7_copyOf_9075b_25 : decode cJ7_copyOf_9075b 25 = .ok (.invokestatic 304, 3) := fd_get adJ7_copyOf_9075b_1 (k := 2) rfl
theorem dJ7_copyOf_9075b_28 : decode cJ7_copyOf_9075b 28 = .ok (.invokestatic 150, 3) := fd_get adJ7_copyOf_9075b_1 (k := 3) rfl
theorem dJ7_copyOf_9075b_31 : decode cJ7_copyOf_9075b 31 = .ok (.aload_n 2, 1) := fd_get adJ7_copyOf_9075b_1 (k := 4) rfl
theorem dJ7_copyOf_9075b_32 : decode cJ7_copyOf_9075b 32 = .ok (.areturn, 1) := fd_get adJ7_copyOf_9075b_1 (k := 5) rfl
theorem adJ7_checkLength_df160_0 : fd_rows (cJ7_checkLength_df160.data.toList.drop 0) 0 [(0, some (.iload_n 1), 1), (1, some (.iload_n 0), 1), (2, some (.if_icmp .ge 35), 3), (5, some (.new 43), 3), (8, some (.dup), 1), (9, some (.new 45), 3), (12, some (.dup), 1), (13, some (.invokespecial 47), 3), (16, some (.iload_n 0), 1), (17, some (.invokevirtual 54), 3), (20, some (.ldc_w 337), 3), (23, some (.invokevirtual 50), 3), (26, some (.iload_n 1), 1), (27, some (.invokevirtual 54), 3), (30, some (.invokevirtual 61), 3), (33, some (.invokespecial 65), 3)] = true := by decide +kernel
theorem adJ7_checkLength_df160_1 : fd_rows (cJ7_checkLength_df160.data.toList.drop 36) 36 [(36, some (.athrow), 1), (37, some (.return_), 1)] = true := by decide +kernel
theorem dJ7_checkLength_df160_0 : decode cJ7_checkLength_df160 0 = .ok (.iload_n 1, 1) := fd_get adJ7_checkLength_df160_0 (k := 0) rfl
theorem dJ7_checkLength_df160_1 : decode cJ7_checkLength_df160 1 = .ok (.iload_n 0, 1) := fd_get adJ7_checkLength_df160_0 (k := 1) rfl
theorem dJ7_checkLength_df160_2 : decode cJ7_checkLength_df160 2 = .ok (.if_icmp .ge 35, 3) := fd_get adJ7_checkLength_df160_0 (k := 2) rfl
theorem dJ7_checkLength_df160_37 : decode cJ7_checkLength_df160 37 = .ok (.return_, 1) := fd_get adJ7_checkLength_df160_1 (k := 1) rfl
theorem mwsJ7_copyOfRange_39247_0 : ∀ w ∈ wsJ7_copyOfRange_39247_r1, w ∈ wsJ7_copyOfRange_39247 := fun w h => (List.mem_cons_of_mem _ (List.mem_append_left _ (List.mem_append_left _ h)))
theorem mwsJ7_copyOfRange_39247_1 : ∀ w ∈ wsJ7_copyOfRange_39247_r2, w ∈ wsJ7_copyOfRange_39247 := fun w h => (List.mem_cons_of_mem _ (List.mem_append_left _ (List.mem_append_right _ h)))
theorem mwsJ7_copyOfRange_39247_2 : ∀ w ∈ wsJ40, w ∈ wsJ7_copyOfRange_39247 := fun w h => (List.mem_cons_of_mem _ (List.mem_append_right _ h))
set_option maxRecDepth 20000 in
theorem ggJ7_copyOfRange_39247_J7_copyOfRangeByte_39247 : GoodIn wsJ7_copyOfRange_39247 wsJ7_copyOfRangeByte_39247 := goodIn_sub (tk_mem 12 _ (fun w h => (mwsJ7_copyOfRange_39247_0 _ (tkB_mem 9 12 h))) (List.forall_mem_cons.mpr ⟨(mwsJ7_copyOfRange_39247_0 _ (List.mem_of_getElem? (i := 8) rfl)), (List.forall_mem_cons.mpr ⟨(mwsJ7_copyOfRange_39247_0 _ (List.mem_of_getElem? (i := 21) rfl)), (List.forall_mem_cons.mpr ⟨(mwsJ7_copyOfRange_39247_0 _ (List.mem_of_getElem? (i := 22) rfl)), (List.forall_mem_cons.mpr ⟨(mwsJ7_copyOfRange_39247_0 _ (List.mem_of_getElem? (i := 23) rfl)), (List.forall_mem_cons.mpr ⟨(mwsJ7_copyOfRange_39247_1 _ (List.mem_of_getElem? (i := 0) rfl)), (tk_mem 4 _ (fun w h => (mwsJ7_copyOfRange_39247_2 _ (tkB_mem 0 4 h))) (fun _ h => absurd h List.not_mem_nil))⟩)⟩)⟩)⟩)⟩)) (by decide +kernel)
set_option maxRecDepth 20000 in
theorem gJ7_copyOfRange_39247_J7_copyOfRangeByte_39247 : GoodIn wsJ7_copyOfRange_39247 (va_wsS RJ7 339 yJ7_copyOfRangeByte_39247 wsJ7_copyOfRangeByte_39247) := goodIn_app (goodIn_sub (List.forall_mem_cons.mpr ⟨(mwsJ7_copyOfRange_39247_0 _ (List.mem_of_getElem? (i := 6) rfl)), (List.forall_mem_cons.mpr ⟨(mwsJ7_copyOfRange_39247_0 _ (List.mem_of_getElem? (i := 7) rfl)), (List.forall_mem_cons.mpr ⟨(mwsJ7_copyOfRange_39247_0 _ (List.mem_of_getElem? (i := 8) rfl)), (fun _ h => absurd h List.not_mem_nil)⟩)⟩)⟩) (by decide +kernel)) ggJ7_copyOfRange_39247_J7_copyOfRangeByte_39247
theorem adJ7_copyOfRange_39247_0 : fd_rows (cJ7_copyOfRange_39247.data.toList.drop 0) 0 [(0, some (.iload_n 1), 1), (1, some (.ifCond .ne 9), 3), (4, some (.iload_n 2), 1), (5, some (.aload_n 0), 1), (6, some (.arraylength), 1), (7, some (.if_icmp .eq 10), 3), (10, some (.aload_n 0), 1), (11, some (.iload_n 1), 1), (12, some (.iload_n 2), 1), (13, some (.invokestatic 339), 3), (16, some (.areturn), 1), (17, some (.aload_n 0), 1), (18, some (.invokevirtual 310), 3), (21, some (.checkcast 311), 3), (24, some (.areturn), 1)] = true := by decide +kernel
theorem dJ7_copyOfRange_39247_0 : decode cJ7_copyOfRange_39247 0 = .ok (.iload_n 1, 1) := fd_get adJ7_copyOfRange_39247_0 (k := 0) rfl
theorem dJ7_copyOfRange_39247_1 : decode cJ7_copyOfRange_39247 1 = .ok (.ifCond .ne 9, 3) := fd_get adJ7_copyOfRange_39247_0 (k := 1) rfl
theorem dJ7_copyOfRange_39247_4 : decode cJ7_copyOfRange_39247 4 = .ok (.iload_n 2, 1) := fd_get adJ7_copyOfRange_39247_0 (k := 2) rfl
theorem dJ7_copyOfRange_39247_5 : decode cJ7_copyOfRange_39247 5 = .ok (.aload_n 0, 1) := fd_get adJ7_copyOfRange_39247_0 (k := 3) rfl
theorem dJ7_copyOfRange_39247_6 : decode cJ7_copyOfRange_39247 6 = .ok (.arraylength, 1) := fd_get adJ7_copyOfRange_39247_0 (k := 4) rfl
theorem dJ7_copyOfRange_39247_7 : decode cJ7_copyOfRange_39247 7 = .ok (.if_icmp .eq 10, 3) := fd_get adJ7_copyOfRange_39247_0 (k := 5) rfl
theorem dJ7_copyOfRange_39247_10 : decode cJ7_copyOfRange_39247 10 = .ok (.aload_n 0, 1) := fd_get adJ7_copyOfRange_39247_0 (k := 6) rfl
theorem dJ7_copyOfRange_39247_11 : decode cJ7_copyOfRange_39247 11 = .ok (.iload_n 1, 1) := fd_get adJ7_copyOfRange_39247_0 (k := 7) rfl
theorem dJ7_copyOfRange_39247_12 : decode cJ7_copyOfRange_39247 12 = .ok (.iload_n 2, 1) := fd_get adJ7_copyOfRange_39247_0 (k := 8) rfl
theorem dJ7_copyOfRange_39247_13 : decode cJ7_copyOfRange_39247 13 = .ok (.invokestatic 339, 3) := fd_get adJ7_copyOfRange_39247_0 (k := 9) rfl
theorem dJ7_copyOfRange_39247_16 : decode cJ7_copyOfRange_39247 16 = .ok (.areturn, 1) := fd_get adJ7_copyOfRange_39247_0 (k := 10) rfl
theorem dJ7_copyOfRange_39247_17 : decode cJ7_copyOfRange_39247 17 = .ok (.aload_n 0, 1) := fd_get adJ7_copyOfRange_39247_0 (k := 11) rfl
theorem dJ7_copyOfRange_39247_18 : decode cJ7_copyOfRange_39247 18 = .ok (.invokevirtual 310, 3) := fd_get adJ7_copyOfRange_39247_0 (k := 12) rfl
theorem dJ7_copyOfRange_39247_21 : decode cJ7_copyOfRange_39247 21 = .ok (.checkcast 311, 3) := fd_get adJ7_copyOfRange_39247_0 (k := 13) rfl
theorem dJ7_copyOfRange_39247_24 : decode cJ7_copyOfRange_39247 24 = .ok (.areturn, 1) := fd_get adJ7_copyOfRange_39247_0 (k := 14) rfl
theorem mwsJ7_copyOfRangeByte_39247_0 : ∀ w ∈ wsJ40, w ∈ wsJ7_copyOfRangeByte_39247 := fun w h => (List.mem_cons_of_mem _ (List.mem_append_right _ h))
set_option maxRecDepth 20000 in
theorem ggJ7_copyOfRangeByte_39247_J7_checkLength_df160 : GoodIn wsJ7_copyOfRangeByte_39247 wsJ7_checkLength_df160 := goodIn_sub (tk_mem 4 _ (fun w h => (List.mem_cons_of_mem _ (List.mem_append_left _ (tkB_mem 12 4 h)))) (tk_mem 4 _ (fun w h => (mwsJ7_copyOfRangeByte_39247_0 _ (tkB_mem 0 4 h))) (fun _ h => absurd h List.not_mem_nil))) (by decide +kernel)
set_option maxRecDepth 20000 in
theorem gJ7_copyOfRangeByte_39247_J7_checkLength_df160 : GoodIn wsJ7_copyOfRangeByte_39247 (va_wsS RJ7 343 yJ7_checkLength_df160 wsJ7_checkLength_df160) := goodIn_app (goodIn_sub (List.forall_mem_cons.mpr ⟨(List.mem_cons_of_mem _ (List.mem_append_left _ (List.mem_of_getElem? (i := 9) rfl))), (List.forall_mem_cons.mpr ⟨(List.mem_cons_of_mem _ (List.mem_append_left _ (List.mem_of_getElem? (i := 10) rfl))), (List.forall_mem_cons.mpr ⟨(List.mem_cons_of_mem _ (List.mem_append_left _ (List.mem_of_getElem? (i := 11) rfl))), (fun _ h => absurd h List.not_mem_nil)⟩)⟩)⟩) (by decide +kernel)) ggJ7_copyOfRangeByte_39247_J7_checkLength_df160
theorem adJ7_copyOfRangeByte_39247_0 : fd_rows (cJ7_copyOfRangeByte_39247.data.toList.drop 0) 0 [(0, some (.iload_n 1), 1), (1, some (.iload_n 2), 1), (2, some (.invokestatic 343), 3), (5, some (.iload_n 2), 1), (6, some (.iload_n 1), 1), (7, some (.isub), 1), (8, some (.istore_n 3), 1), (9, some (.iload_n 3), 1), (10, none, 2), (12, some (.astore 4), 2), (14, some (.aload_n 0), 1), (15, some (.iload_n 1), 1), (16, some (.aload 4), 2), (18, some (.iconst 0), 1), (19, some (.aload_n 0), 1), (20, some (.arraylength), 1)] = true := by decide +kernel
theorem adJ7_copyOfRangeByte_39247_1 : fd_rows (cJ7_copyOfRangeByte_39247.data.toList.drop 21) 21 [(21, some (.iload_n 1), 1), (22, some (.isub), 1), (23, some (.iload_n 3), 1), (24, some (.invokestatic 304), 3), (27, some (.invokestatic 150), 3), (30, some (.aload 4), 2), (32, some (.areturn), 1)] = true := by decide +kernel
theorem dJ7_copyOfRangeByte_39247_0 : decode cJ7_copyOfRangeByte_39247 0 = .ok (.iload_n 1, 1) := fd_get adJ7_copyOfRangeByte_39247_0 (k := 0) rfl
theorem dJ7_copyOfRangeByte_39247_1 : decode cJ7_copyOfRangeByte_39247 1 = .ok (.iload_n 2, 1) := fd_get adJ7_copyOfRangeByte_39247_0 (k := 1) rfl
theorem dJ7_copyOfRangeByte_39247_2 : decode cJ7_copyOfRangeByte_39247 2 = .ok (.invokestatic 343, 3) := fd_get adJ7_copyOfRangeByte_39247_0 (k := 2) rfl
theorem dJ7_copyOfRangeByte_39247_5 : decode cJ7_copyOfRangeByte_39247 5 = .ok (.iload_n 2, 1) := fd_get adJ7_copyOfRangeByte_39247_0 (k := 3) rfl
theorem dJ7_copyOfRangeByte_39247_6 : decode cJ7_copyOfRangeByte_39247 6 = .ok (.iload_n 1, 1) := fd_get adJ7_copyOfRangeByte_39247_0 (k := 4) rfl
theorem dJ7_copyOfRangeByte_39247_7 : decode cJ7_copyOfRangeByte_39247 7 = .ok (.isub, 1) := fd_get adJ7_copyOfRangeByte_39247_0 (k := 5) rfl
theorem dJ7_copyOfRangeByte_39247_8 : decode cJ7_copyOfRangeByte_39247 8 = .ok (.istore_n 3, 1) := fd_get adJ7_copyOfRangeByte_39247_0 (k := 6) rfl
theorem dJ7_copyOfRangeByte_39247_9 : decode cJ7_copyOfRangeByte_39247 9 = .ok (.iload_n 3, 1) := fd_get adJ7_copyOfRangeByte_39247_0 (k := 7) rfl
theorem dJ7_copyOfRangeByte_39247_10 : decode cJ7_copyOfRangeByte_39247 10 = .ok (.newarray .byte, 2) := by decide +kernel
theorem dJ7_copyOfRangeByte_39247_12 : decode cJ7_copyOfRangeByte_39247 12 = .ok (.astore 4, 2) := fd_get adJ7_copyOfRangeByte_39247_0 (k := 9) rfl
theorem dJ7_copyOfRangeByte_39247_14 : decode cJ7_copyOfRangeByte_39247 14 = .ok (.aload_n 0, 1) := fd_get adJ7_copyOfRangeByte_39247_0 (k := 10) rfl
theorem dJ7_copyOfRangeByte_39247_15 : decode cJ7_copyOfRangeByte_39247 15 = .ok (.iload_n 1, 1) := fd_get adJ7_copyOfRangeByte_39247_0 (k := 11) rfl
theorem dJ7_copyOfRangeByte_39247_16 : decode cJ7_copyOfRangeByte_39247 16 = .ok (.aload 4, 2) := fd_get adJ7_copyOfRangeByte_39247_0 (k := 12) rfl
theorem dJ7_copyOfRangeByte_39247_18 : decode cJ7_copyOfRangeByte_39247 18 = .ok (.iconst 0, 1) := fd_get adJ7_copyOfRangeByte_39247_0 (k := 13) rfl
theorem dJ7_copyOfRangeByte_39247_19 : decode cJ7_copyOfRangeByte_39247 19 = .ok (.aload_n 0, 1) := fd_get adJ7_copyOfRangeByte_39247_0 (k := 14) rfl
theorem dJ7_copyOfRangeByte_39247_20 : decode cJ7_copyOfRangeByte_39247 20 = .ok (.arraylength, 1) := fd_get adJ7_copyOfRangeByte_39247_0 (k := 15) rfl
theorem dJ7_copyOfRangeByte_39247_21 : decode cJ7_copyOfRangeByte_39247 21 = .ok (.iload_n 1, 1) := fd_get adJ7_copyOfRangeByte_39247_1 (k := 0) rfl
theorem dJ7_copyOfRangeByte_39247_22 : decode cJ7_copyOfRangeByte_39247 22 = .ok (.isub, 1) := fd_get adJ7_copyOfRangeByte_39247_1 (k := 1) rfl
theorem dJ7_copyOfRangeByte_39247_23 : decode cJ7_copyOfRangeByte_39247 23 = .ok (.iload_n 3, 1) := fd_get adJ7_copyOfRangeByte_39247_1 (k := 2) rfl
theorem dJ7_copyOfRangeByte_39247_24 : decode cJ7_copyOfRangeByte_39247 24 = .ok (.invokestatic 304, 3) := fd_get adJ7_copyOfRangeByte_39247_1 (k := 3) rfl
theorem dJ7_copyOfRangeByte_39247_27 : decode cJ7_copyOfRangeByte_39247 27 = .ok (.invokestatic 150, 3) := fd_get adJ7_copyOfRangeByte_39247_1 (k := 4) rfl
theorem dJ7_copyOfRangeByte_39247_30 : decode cJ7_copyOfRangeByte_39247 30 = .ok (.aload 4, 2) := fd_get adJ7_copyOfRangeByte_39247_1 (k := 5) rfl
theorem dJ7_copyOfRangeByte_39247_32 : decode cJ7_copyOfRangeByte_39247 32 = .ok (.areturn, 1) := fd_get adJ7_copyOfRangeByte_39247_1 (k := 6) rfl
theorem adJ8_newLength_cabcc_0 : fd_rows (cJ8_newLength_cabcc.data.toList.drop 0) 0 [(0, some (.iload_n 0), 1), (1, some (.iload_n 1), 1), (2, some (.iload_n 2), 1), (3, some (.invokestatic 194), 3), (6, some (.iadd), 1), (7, some (.istore_n 3), 1), (8, some (.iconst 0), 1), (9, some (.iload_n 3), 1), (10, some (.if_icmp .ge 11), 3), (13, some (.iload_n 3), 1), (14, some (.ldc 200), 2), (16, some (.if_icmp .gt 5), 3), (19, some (.iload_n 3), 1), (20, some (.ireturn), 1), (21, some (.iload_n 0), 1), (22, some (.iload_n 1), 1)] = true := by decide +kernel
theorem dJ8_newLength_cabcc_0 : decode cJ8_newLength_cabcc 0 = .ok (.iload_n 0, 1) := fd_get adJ8_newLength_cabcc_0 (k := 0) rfl
theorem dJ8_newLength_cabcc_1 : decode cJ8_newLength_cabcc 1 = .ok (.iload_n 1, 1) := fd_get adJ8_newLength_cabcc_0 (k := 1) rfl
theorem dJ8_newLength_cabcc_2 : decode cJ8_newLength_cabcc 2 = .ok (.iload_n 2, 1) := fd_get adJ8_newLength_cabcc_0 (k := 2) rfl
theorem dJ8_newLength_cabcc_3 : decode cJ8_newLength_cabcc 3 = .ok (.invokestatic 194, 3) := fd_get adJ8_newLength_cabcc_0 (k := 3) rfl
theorem dJ8_newLength_cabcc_6 : decode cJ8_newLength_cabcc 6 = .ok (.iadd, 1) := fd_get adJ8_newLength_cabcc_0 (k := 4) rfl
theorem dJ8_newLength_cabcc_7 : decode cJ8_newLength_cabcc 7 = .ok (.istore_n 3, 1) := fd_get adJ8_newLength_cabcc_0 (k := 5) rfl
theorem dJ8_newLength_cabcc_8 : decode cJ8_newLength_cabcc 8 = .ok (.iconst 0, 1) := fd_get adJ8_newLength_cabcc_0 (k := 6) rfl
theorem dJ8_newLength_cabcc_9 : decode cJ8_newLength_cabcc 9 = .ok (.iload_n 3, 1) := fd_get adJ8_newLength_cabcc_0 (k := 7) rfl
theorem dJ8_newLength_cabcc_10 : decode cJ8_newLength_cabcc 10 = .ok (.if_icmp .ge 11, 3) := fd_get adJ8_newLength_cabcc_0 (k := 8) rfl
theorem dJ8_newLength_cabcc_13 : decode cJ8_newLength_cabcc 13 = .ok (.iload_n 3, 1) := fd_get adJ8_newLength_cabcc_0 (k := 9) rfl
theorem dJ8_newLength_cabcc_14 : decode cJ8_newLength_cabcc 14 = .ok (.ldc 200, 2) := fd_get adJ8_newLength_cabcc_0 (k := 10) rfl
theorem dJ8_newLength_cabcc_16 : decode cJ8_newLength_cabcc 16 = .ok (.if_icmp .gt 5, 3) := fd_get adJ8_newLength_cabcc_0 (k := 11) rfl
theorem dJ8_newLength_cabcc_19 : decode cJ8_newLength_cabcc 19 = .ok (.iload_n 3, 1) := fd_get adJ8_newLength_cabcc_0 (k := 12) rfl
theorem dJ8_newLength_cabcc_20 : decode cJ8_newLength_cabcc 20 = .ok (.ireturn, 1) := fd_get adJ8_newLength_cabcc_0 (k := 13) rfl
