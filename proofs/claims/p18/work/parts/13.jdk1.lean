/-! the JDK's own code, by program -/
theorem dv_J0_coder_7d493 : yJ0_coder_7d493.cls = RJ0 ∧ yJ0_coder_7d493.cls ≠ "java/lang/invoke/MethodHandle" ∧ yJ0_coder_7d493.cls ≠ "java/lang/invoke/VarHandle" ∧ (parseMethodDescriptor yJ0_coder_7d493.desc).map (fun d => d.parameters.length) = some 0 := ⟨rfl, nmh_RJ0.1, nmh_RJ0.2, pds_37⟩
theorem ds_J5_length_8abf5 : yJ5_length_8abf5.name ≠ "<init>" ∧ (parseMethodDescriptor yJ5_length_8abf5.desc).map (fun d => d.parameters.length) = some 0 := by decide +kernel
theorem dv_J8_newLength_cabcc_s : yJ8_newLength_cabcc.cls ≠ "java/lang/invoke/MethodHandle" ∧ yJ8_newLength_cabcc.cls ≠ "java/lang/invoke/VarHandle" ∧ (parseMethodDescriptor yJ8_newLength_cabcc.desc).map (fun d => d.parameters.length) = some 3 := ⟨nmh_RJ8.1, nmh_RJ8.2, pds_32⟩
theorem dv_J7_checkLength_df160_s : yJ7_checkLength_df160.cls ≠ "java/lang/invoke/MethodHandle" ∧ yJ7_checkLength_df160.cls ≠ "java/lang/invoke/VarHandle" ∧ (parseMethodDescriptor yJ7_checkLength_df160.desc).map (fun d => d.parameters.length) = some 2 := ⟨nmh_RJ7.1, nmh_RJ7.2, pds_18⟩
theorem dv_J7_copyOfRangeByte_39247_s : yJ7_copyOfRangeByte_39247.cls ≠ "java/lang/invoke/MethodHandle" ∧ yJ7_copyOfRangeByte_39247.cls ≠ "java/lang/invoke/VarHandle" ∧ (parseMethodDescriptor yJ7_copyOfRangeByte_39247.desc).map (fun d => d.parameters.length) = some 3 := ⟨nmh_RJ7.1, nmh_RJ7.2, pds_38⟩
theorem du_J5_newCapacity_0f7a4 : ("java/lang/AbstractStringBuilder" : String) ≠ "java/lang/invoke/MethodHandle" ∧ ("java/lang/AbstractStringBuilder" : String) ≠ "java/lang/invoke/VarHandle" ∧ (parseMethodDescriptor (⟨"java/lang/AbstractStringBuilder", "newCapacity", "(I)I"⟩ : MethodName).desc).map (fun d => d.parameters.length) = some 1 := by decide +kernel
theorem dv_J7_copyOf_9075b_s : yJ7_copyOf_9075b.cls ≠ "java/lang/invoke/MethodHandle" ∧ yJ7_copyOf_9075b.cls ≠ "java/lang/invoke/VarHandle" ∧ (parseMethodDescriptor yJ7_copyOf_9075b.desc).map (fun d => d.parameters.length) = some 2 := ⟨nmh_RJ7.1, nmh_RJ7.2, pds_39⟩
theorem du_J5_inflateIfNeededFor_a7421 : ("java/lang/AbstractStringBuilder" : String) ≠ "java/lang/invoke/MethodHandle" ∧ ("java/lang/AbstractStringBuilder" : String) ≠ "java/lang/invoke/VarHandle" ∧ (parseMethodDescriptor (⟨"java/lang/AbstractStringBuilder", "inflateIfNeededFor", "(Ljava/lang/String;)V"⟩ : MethodName).desc).map (fun d => d.parameters.length) = some 1 := by decide +kernel
theorem dv_J0_getBytes_840e7 : yJ0_getBytes_840e7.cls = RJ0 ∧ yJ0_getBytes_840e7.cls ≠ "java/lang/invoke/MethodHandle" ∧ yJ0_getBytes_840e7.cls ≠ "java/lang/invoke/VarHandle" ∧ (parseMethodDescriptor yJ0_getBytes_840e7.desc).map (fun d => d.parameters.length) = some 3 := ⟨rfl, nmh_RJ0.1, nmh_RJ0.2, pds_40⟩
theorem dv_J0_length_8abf5 : yJ0_length_8abf5.cls = RJ0 ∧ yJ0_length_8abf5.cls ≠ "java/lang/invoke/MethodHandle" ∧ yJ0_length_8abf5.cls ≠ "java/lang/invoke/VarHandle" ∧ (parseMethodDescriptor yJ0_length_8abf5.desc).map (fun d => d.parameters.length) = some 0 := ⟨rfl, nmh_RJ0.1, nmh_RJ0.2, pds_4⟩
theorem du_J5_ensureCapacityInternal_d00df : ("java/lang/AbstractStringBuilder" : String) ≠ "java/lang/invoke/MethodHandle" ∧ ("java/lang/AbstractStringBuilder" : String) ≠ "java/lang/invoke/VarHandle" ∧ (parseMethodDescriptor (⟨"java/lang/AbstractStringBuilder", "ensureCapacityInternal", "(I)V"⟩ : MethodName).desc).map (fun d => d.parameters.length) = some 1 := by decide +kernel
theorem du_J5_putStringAt_47b60 : ("java/lang/AbstractStringBuilder" : String) ≠ "java/lang/invoke/MethodHandle" ∧ ("java/lang/AbstractStringBuilder" : String) ≠ "java/lang/invoke/VarHandle" ∧ (parseMethodDescriptor (⟨"java/lang/AbstractStringBuilder", "putStringAt", "(ILjava/lang/String;)V"⟩ : MethodName).desc).map (fun d => d.parameters.length) = some 2 := by decide +kernel
theorem ds_J5_append_cf1ce : yJ5_append_cf1ce.name ≠ "<init>" ∧ (parseMethodDescriptor yJ5_append_cf1ce.desc).map (fun d => d.parameters.length) = some 1 := by decide +kernel
theorem dv_J4_append_15ec4 : yJ4_append_15ec4.cls = RJ4 ∧ yJ4_append_15ec4.cls ≠ "java/lang/invoke/MethodHandle" ∧ yJ4_append_15ec4.cls ≠ "java/lang/invoke/VarHandle" ∧ (parseMethodDescriptor yJ4_append_15ec4.desc).map (fun d => d.parameters.length) = some 1 := ⟨rfl, nmh_RJ4.1, nmh_RJ4.2, pds_41⟩
theorem du_J5_isLatin1_aae02 : ("java/lang/AbstractStringBuilder" : String) ≠ "java/lang/invoke/MethodHandle" ∧ ("java/lang/AbstractStringBuilder" : String) ≠ "java/lang/invoke/VarHandle" ∧ (parseMethodDescriptor (⟨"java/lang/AbstractStringBuilder", "isLatin1", "()Z"⟩ : MethodName).desc).map (fun d => d.parameters.length) = some 0 := by decide +kernel
theorem dv_J1_canEncode_fc78d_s : yJ1_canEncode_fc78d.cls ≠ "java/lang/invoke/MethodHandle" ∧ yJ1_canEncode_fc78d.cls ≠ "java/lang/invoke/VarHandle" ∧ (parseMethodDescriptor yJ1_canEncode_fc78d.desc).map (fun d => d.parameters.length) = some 1 := ⟨nmh_RJ1.1, nmh_RJ1.2, pds_42⟩
theorem ds_J5_append_3fe6f : yJ5_append_3fe6f.name ≠ "<init>" ∧ (parseMethodDescriptor yJ5_append_3fe6f.desc).map (fun d => d.parameters.length) = some 1 := by decide +kernel
theorem dv_J6_stringSize_0f7a4_s : yJ6_stringSize_0f7a4.cls ≠ "java/lang/invoke/MethodHandle" ∧ yJ6_stringSize_0f7a4.cls ≠ "java/lang/invoke/VarHandle" ∧ (parseMethodDescriptor yJ6_stringSize_0f7a4.desc).map (fun d => d.parameters.length) = some 1 := ⟨nmh_RJ6.1, nmh_RJ6.2, pds_0⟩
theorem dv_J6_getChars_ba4f3_s : yJ6_getChars_ba4f3.cls ≠ "java/lang/invoke/MethodHandle" ∧ yJ6_getChars_ba4f3.cls ≠ "java/lang/invoke/VarHandle" ∧ (parseMethodDescriptor yJ6_getChars_ba4f3.desc).map (fun d => d.parameters.length) = some 3 := ⟨nmh_RJ6.1, nmh_RJ6.2, pds_43⟩
theorem ds_J5_append_c97b9 : yJ5_append_c97b9.name ≠ "<init>" ∧ (parseMethodDescriptor yJ5_append_c97b9.desc).map (fun d => d.parameters.length) = some 1 := by decide +kernel
theorem dv_J5_init_d00df_s : yJ5_init_d00df.cls ≠ "java/lang/invoke/MethodHandle" ∧ yJ5_init_d00df.cls ≠ "java/lang/invoke/VarHandle" ∧ (parseMethodDescriptor yJ5_init_d00df.desc).map (fun d => d.parameters.length) = some 1 := ⟨nmh_RJ5.1, nmh_RJ5.2, pds_10⟩
theorem du_J4_append_cf1ce : ("java/lang/AbstractStringBuilder" : String) ≠ "java/lang/invoke/MethodHandle" ∧ ("java/lang/AbstractStringBuilder" : String) ≠ "java/lang/invoke/VarHandle" ∧ (parseMethodDescriptor (⟨"java/lang/AbstractStringBuilder", "append", "(Ljava/lang/String;)Ljava/lang/AbstractStringBuilder;"⟩ : MethodName).desc).map (fun d => d.parameters.length) = some 1 := by decide +kernel
theorem dv_J5_init_a7421_s : yJ5_init_a7421.cls ≠ "java/lang/invoke/MethodHandle" ∧ yJ5_init_a7421.cls ≠ "java/lang/invoke/VarHandle" ∧ (parseMethodDescriptor yJ5_init_a7421.desc).map (fun d => d.parameters.length) = some 1 := ⟨nmh_RJ5.1, nmh_RJ5.2, pds_44⟩
theorem du_J5_getValue_6d5f1 : ("java/lang/AbstractStringBuilder" : String) ≠ "java/lang/invoke/MethodHandle" ∧ ("java/lang/AbstractStringBuilder" : String) ≠ "java/lang/invoke/VarHandle" ∧ (parseMethodDescriptor (⟨"java/lang/AbstractStringBuilder", "getValue", "()[B"⟩ : MethodName).desc).map (fun d => d.parameters.length) = some 0 := by decide +kernel
theorem du_J4_length_8abf5 : ("java/lang/AbstractStringBuilder" : String) ≠ "java/lang/invoke/MethodHandle" ∧ ("java/lang/AbstractStringBuilder" : String) ≠ "java/lang/invoke/VarHandle" ∧ (parseMethodDescriptor (⟨"java/lang/AbstractStringBuilder", "length", "()I"⟩ : MethodName).desc).map (fun d => d.parameters.length) = some 0 := by decide +kernel
theorem dv_J7_copyOfRange_39247_s : yJ7_copyOfRange_39247.cls ≠ "java/lang/invoke/MethodHandle" ∧ yJ7_copyOfRange_39247.cls ≠ "java/lang/invoke/VarHandle" ∧ (parseMethodDescriptor yJ7_copyOfRange_39247.desc).map (fun d => d.parameters.length) = some 3 := ⟨nmh_RJ7.1, nmh_RJ7.2, pds_38⟩
theorem dv_J0_init_db425_s : yJ0_init_db425.cls ≠ "java/lang/invoke/MethodHandle" ∧ yJ0_init_db425.cls ≠ "java/lang/invoke/VarHandle" ∧ (parseMethodDescriptor yJ0_init_db425.desc).map (fun d => d.parameters.length) = some 2 := ⟨nmh_RJ0.1, nmh_RJ0.2, pds_45⟩
theorem dv_J0_init_81219_s : yJ0_init_81219.cls ≠ "java/lang/invoke/MethodHandle" ∧ yJ0_init_81219.cls ≠ "java/lang/invoke/VarHandle" ∧ (parseMethodDescriptor yJ0_init_81219.desc).map (fun d => d.parameters.length) = some 1 := ⟨nmh_RJ0.1, nmh_RJ0.2, pds_46⟩
set_option maxHeartbeats 4000000 in
set_option maxRecDepth 100000 in
theorem c_J0_coder_7d493L (l : Launch) (G : xG) {M : HM} {nl : Nat} {w : String × Nat × String × List Int32} (hnl : xLits[nl]? = some w) (hwb : bf (fun j => w.2.2.2.getD j 0)) (hwl : (w.2.2.2.length : Int) ≤ 18) : xMet l G yJ0_coder_7d493 wsJ0_coder_7d493 0 0 0 0 [.ref (G.2 (100 + 2 * nl))] M (fun r M1 => r = some (.int (iN 0)) ∧ M1 = M) := by
  refine x_intro (cc := cJ0_coder_7d493) (maxL := 1) (ret := (some .byte)) (by exact pln_RJ0) rfl (Nat.le_of_ble_eq_true rfl) ?_
  intro p e R s m args below meth c ls hRf hRc hRs hRl hC hw hl
  have hl : lv_has ls 1 [(0, .ref (G.2 (100 + 2 * nl)))] := hl
  refine x_gsC hC hw (by decide +kernel) dJ0_coder_7d493_0 ?_
  refine x_if_eq (tgt := 13) hC ⟨by omega, by omega⟩ dJ0_coder_7d493_3 (by decide) (fun c_1 => ?_) (fun c_1 => ?_)
  · refine x_const hC dJ0_coder_7d493_13 ?_
    exact x_bret hC hw (by omega) dJ0_coder_7d493_14 (by omega) (by omega) (by first | exact ⟨rfl, rfl⟩ | (exfalso; omega))
  · refine lv_aload_n hC.1 hC.2.1 dJ0_coder_7d493_6 rfl (lv_at hl 0 rfl) ?_
    refine x_litC hC hw hnl (by decide +kernel) dJ0_coder_7d493_7 ?_
    refine lv_goto (tgt := 14) hC.1 hC.2.1 dJ0_coder_7d493_10 (by decide) ?_
    exact x_bret hC hw (by omega) dJ0_coder_7d493_14 (by omega) (by omega) (by first | exact ⟨rfl, rfl⟩ | (exfalso; omega))
set_option maxHeartbeats 4000000 in
set_option maxRecDepth 100000 in
theorem c_J0_coder_7d493S (l : Launch) (G : xG) {M : HM} {q v : Nat} {h9 z9 : Int32} {nn : Nat} {f : Nat → Int32} (hV : Sv G M q v h9 z9 nn f) : xMet l G yJ0_coder_7d493 wsJ0_coder_7d493 0 0 0 0 [.ref q] M (fun r M1 => r = some (.int (iN 0)) ∧ M1 = M) := by
  refine x_intro (cc := cJ0_coder_7d493) (maxL := 1) (ret := (some .byte)) (by exact pln_RJ0) rfl (Nat.le_of_ble_eq_true rfl) ?_
  intro p e R s m args below meth c ls hRf hRc hRs hRl hC hw hl
  have hinJ0 : ∀ w ∈ wsJ00, w ∈ wsJ0_coder_7d493 := fun w h => (List.mem_cons_of_mem _ (List.mem_append_right _ h))
  have hl : lv_has ls 1 [(0, .ref q)] := hl
  refine x_gsC hC hw (by decide +kernel) dJ0_coder_7d493_0 ?_
  refine x_if_eq (tgt := 13) hC ⟨by omega, by omega⟩ dJ0_coder_7d493_3 (by decide) (fun c_1 => ?_) (fun c_1 => ?_)
  · refine x_const hC dJ0_coder_7d493_13 ?_
    exact x_bret hC hw (by omega) dJ0_coder_7d493_14 (by omega) (by omega) (by first | exact ⟨rfl, rfl⟩ | (exfalso; omega))
  · refine lv_aload_n hC.1 hC.2.1 dJ0_coder_7d493_6 rfl (lv_at hl 0 rfl) ?_
    refine x_get hC hw hV.1 rfl hinJ0 1 (by decide) (List.mem_cons_of_mem _ (List.mem_append_left _ (List.mem_of_getElem? (i := 1) rfl))) rfl dJ0_coder_7d493_7 ?_
    refine lv_goto (tgt := 14) hC.1 hC.2.1 dJ0_coder_7d493_10 (by decide) ?_
    exact x_bret hC hw (by omega) dJ0_coder_7d493_14 (by omega) (by omega) (by first | exact ⟨rfl, rfl⟩ | (exfalso; omega))
set_option maxHeartbeats 4000000 in
set_option maxRecDepth 100000 in
theorem c_J0_length_8abf5L (l : Launch) (G : xG) {M : HM} {nl : Nat} {w : String × Nat × String × List Int32} (hnl : xLits[nl]? = some w) (hwb : bf (fun j => w.2.2.2.getD j 0)) (hwl : (w.2.2.2.length : Int) ≤ 18) : xMet l G yJ0_length_8abf5 wsJ0_length_8abf5 1 20 0 0 [.ref (G.2 (100 + 2 * nl))] M (fun r M1 => r = some (.int (iN w.2.2.2.length)) ∧ M1 = M) := by
  refine x_intro (cc := cJ0_length_8abf5) (maxL := 1) (ret := (some .int)) (by exact pln_RJ0) rfl (Nat.le_of_ble_eq_true rfl) ?_
  intro p e R s m args below meth c ls hRf hRc hRs hRl hC hw hl
  have hl : lv_has ls 1 [(0, .ref (G.2 (100 + 2 * nl)))] := hl
  refine lv_aload_n hC.1 hC.2.1 dJ0_length_8abf5_0 rfl (lv_at hl 0 rfl) ?_
  refine x_litV hC hw hnl (by decide +kernel) dJ0_length_8abf5_1 ?_
  refine x_litN hC hw hnl dJ0_length_8abf5_4 ?_
  refine lv_aload_n hC.1 hC.2.1 dJ0_length_8abf5_5 rfl (lv_at hl 0 rfl) ?_
  refine x_callL hC hw (lv_size hl) hnl (c_J0_coder_7d493L l G (M := M) hnl hwb hwl) gJ0_length_8abf5_J0_coder_7d493 rfl dv_J0_coder_7d493 rfl (Nat.le_of_ble_eq_true rfl) (by rw [hRf]; decide) (by rw [hRl]; decide) (by first | (rw [hRc]; decide) | omega) (by first | (rw [hRs]; decide) | omega) dJ0_length_8abf5_6 (fun r9 M_1 H locs hq hw => ?_)
  obtain ⟨rfl, hM9⟩ := hq
  rw [hM9] at hw
  show W p l e R s m args below meth c H locs _ _ _ (F0 m 9 ls [.int (iN (0)), .int (iN (w.2.2.2.length))])
  refine x_ishr0 hC dJ0_length_8abf5_9 ?_
  exact x_iret hC hw dJ0_length_8abf5_10 (by first | decide | omega) (by first | decide | omega) (by first | exact ⟨rfl, rfl⟩ | (exfalso; omega))
set_option maxHeartbeats 4000000 in
set_option maxRecDepth 100000 in
theorem c_J0_length_8abf5S (l : Launch) (G : xG) {M : HM} {q v : Nat} {h9 z9 : Int32} {nn : Nat} {f : Nat → Int32} (hV : Sv G M q v h9 z9 nn f) : xMet l G yJ0_length_8abf5 wsJ0_length_8abf5 1 20 0 0 [.ref q] M (fun r M1 => r = some (.int (iN nn)) ∧ M1 = M) := by
  refine x_intro (cc := cJ0_length_8abf5) (maxL := 1) (ret := (some .int)) (by exact pln_RJ0) rfl (Nat.le_of_ble_eq_true rfl) ?_
  intro p e R s m args below meth c ls hRf hRc hRs hRl hC hw hl
  have hinJ0 : ∀ w ∈ wsJ00, w ∈ wsJ0_length_8abf5 := fun w h => (List.mem_cons_of_mem _ (List.mem_append_right _ h))
  have hl : lv_has ls 1 [(0, .ref q)] := hl
  refine lv_aload_n hC.1 hC.2.1 dJ0_length_8abf5_0 rfl (lv_at hl 0 rfl) ?_
  refine x_get hC hw hV.1 rfl hinJ0 0 (by decide) (List.mem_cons_of_mem _ (List.mem_append_left _ (List.mem_of_getElem? (i := 0) rfl))) rfl dJ0_length_8abf5_1 ?_
  refine x_alen hC hw 0 hV.2.1 rfl dJ0_length_8abf5_4 ?_
  refine lv_aload_n hC.1 hC.2.1 dJ0_length_8abf5_5 rfl (lv_at hl 0 rfl) ?_
  refine x_callV hC hw (lv_size hl) (c_J0_coder_7d493S l G hV) gJ0_length_8abf5_J0_coder_7d493 rfl dv_J0_coder_7d493 hV.1 rfl rfl (Nat.le_of_ble_eq_true rfl) (by rw [hRf]; decide) (by rw [hRl]; decide) (by first | (rw [hRc]; decide) | omega) (by first | (rw [hRs]; decide) | omega) dJ0_length_8abf5_6 (fun r9 M_1 H locs hq hw => ?_)
  obtain ⟨rfl, hM9⟩ := hq
  rw [hM9] at hw
  show W p l e R s m args below meth c H locs _ _ _ (F0 m 9 ls [.int (iN (0)), .int (iN (nn))])
  refine x_ishr0 hC dJ0_length_8abf5_9 ?_
  exact x_iret hC hw dJ0_length_8abf5_10 (by first | decide | omega) (by first | decide | omega) (by first | exact ⟨rfl, rfl⟩ | (exfalso; omega))
set_option maxHeartbeats 4000000 in
set_option maxRecDepth 100000 in
theorem c_J5_length_8abf5 (l : Launch) (G : xG) {M : HM} {M0 : HM} {q v : Nat} {ml : Int32} {n : Int} {cap : Nat} {f : Nat → Int32} (hS : Sb G M0 M q v ml n cap f) : xMet l G yJ5_length_8abf5 wsJ5_length_8abf5 0 0 0 0 [.ref q] M (fun r M1 => r = some (.int (iN n)) ∧ M1 = M) := by
  refine x_intro (cc := cJ5_length_8abf5) (maxL := 1) (ret := (some .int)) (by exact pln_RJ5) rfl (Nat.le_of_ble_eq_true rfl) ?_
  intro p e R s m args below meth c ls hRf hRc hRs hRl hC hw hl
  have hSb := hS.2.2.2.2
  have hinJ4 : ∀ w ∈ wsJ40, w ∈ wsJ5_length_8abf5 := fun w h => (List.mem_cons_of_mem _ (List.mem_append_right _ h))
  have hl : lv_has ls 1 [(0, .ref q)] := hl
  refine lv_aload_n hC.1 hC.2.1 dJ5_length_8abf5_0 rfl (lv_at hl 0 rfl) ?_
  refine x_get hC hw hS.2.1 rfl hinJ4 3 (by decide) (List.mem_cons_of_mem _ (List.mem_append_left _ (List.mem_of_getElem? (i := 0) rfl))) rfl dJ5_length_8abf5_1 ?_
  exact x_iret hC hw dJ5_length_8abf5_4 (by first | decide | omega) (by first | decide | omega) (by first | exact ⟨rfl, rfl⟩ | (exfalso; omega))
set_option maxHeartbeats 4000000 in
set_option maxRecDepth 100000 in
theorem c_J4_length_8abf5 (l : Launch) (G : xG) {M : HM} {M0 : HM} {q v : Nat} {ml : Int32} {n : Int} {cap : Nat} {f : Nat → Int32} (hS : Sb G M0 M q v ml n cap f) : xMet l G yJ4_length_8abf5 wsJ4_length_8abf5 1 20 0 0 [.ref q] M (fun r M1 => r = some (.int (iN n)) ∧ M1 = M) := by
  refine x_intro (cc := cJ4_length_8abf5) (maxL := 1) (ret := (some .int)) (by exact pln_RJ4) rfl (Nat.le_of_ble_eq_true rfl) ?_
  intro p e R s m args below meth c ls hRf hRc hRs hRl hC hw hl
  have hSb := hS.2.2.2.2
  have hl : lv_has ls 1 [(0, .ref q)] := hl
  refine lv_aload_n hC.1 hC.2.1 dJ4_length_8abf5_0 rfl (lv_at hl 0 rfl) ?_
  refine x_callSU (C := RJ4) (T := TJ4) (N := 4) hC hw (lv_size hl) (c_J5_length_8abf5 l G hS) gJ4_length_8abf5_J5_length_8abf5_s343 rfl ds_J5_length_8abf5 hS.2.1 rfl rfl (Nat.le_of_ble_eq_true rfl) (by rw [hRf]; decide) (by rw [hRl]; decide) (by first | (rw [hRc]; decide) | omega) (by first | (rw [hRs]; decide) | omega) dJ4_length_8abf5_1 (fun r9 M_1 H locs hq hw => ?_)
  obtain ⟨rfl, hM9⟩ := hq
  rw [hM9] at hw
  show W p l e R s m args below meth c H locs _ _ _ (F0 m 4 ls [.int (iN (n))])
  exact x_iret hC hw dJ4_length_8abf5_4 (by first | decide | omega) (by first | decide | omega) (by first | exact ⟨rfl, rfl⟩ | (exfalso; omega))
set_option maxHeartbeats 4000000 in
set_option maxRecDepth 100000 in
theorem c_J5_isLatin1_aae02 (l : Launch) (G : xG) {M : HM} {M0 : HM} {q v : Nat} {ml : Int32} {n : Int} {cap : Nat} {f : Nat → Int32} (hS : Sb G M0 M q v ml n cap f) : xMet l G yJ5_isLatin1_aae02 wsJ5_isLatin1_aae02 0 0 0 0 [.ref q] M (fun r M1 => r = some (.int (iN 1)) ∧ M1 = M) := by
  refine x_intro (cc := cJ5_isLatin1_aae02) (maxL := 1) (ret := (some .boolean)) (by exact pln_RJ5) rfl (Nat.le_of_ble_eq_true rfl) ?_
  intro p e R s m args below meth c ls hRf hRc hRs hRl hC hw hl
  have hSb := hS.2.2.2.2
  have hinJ4 : ∀ w ∈ wsJ40, w ∈ wsJ5_isLatin1_aae02 := fun w h => (List.mem_cons_of_mem _ (List.mem_append_right _ h))
  have hl : lv_has ls 1 [(0, .ref q)] := hl
  refine x_gsC hC hw (by decide +kernel) dJ5_isLatin1_aae02_0 ?_
  refine x_if_eq (tgt := 17) hC ⟨by omega, by omega⟩ dJ5_isLatin1_aae02_3 (by decide) (fun c_1 => ?_) (fun c_1 => ?_)
  · refine x_const hC dJ5_isLatin1_aae02_17 ?_
    exact x_zret hC hw (by omega) dJ5_isLatin1_aae02_18 (by first | decide | omega) (by first | decide | omega) (by first | exact ⟨rfl, rfl⟩ | (exfalso; omega))
  · refine lv_aload_n hC.1 hC.2.1 dJ5_isLatin1_aae02_6 rfl (lv_at hl 0 rfl) ?_
    refine x_get hC hw hS.2.1 rfl hinJ4 1 (by decide) (List.mem_cons_of_mem _ (List.mem_append_left _ (List.mem_of_getElem? (i := 1) rfl))) rfl dJ5_isLatin1_aae02_7 ?_
    refine x_if_ne (tgt := 17) hC ⟨by omega, by omega⟩ dJ5_isLatin1_aae02_10 (by decide) (fun c_2 => ?_) (fun c_2 => ?_)
    · refine x_const hC dJ5_isLatin1_aae02_17 ?_
      exact x_zret hC hw (by omega) dJ5_isLatin1_aae02_18 (by first | decide | omega) (by first | decide | omega) (by first | exact ⟨rfl, rfl⟩ | (exfalso; omega))
    · refine x_const hC dJ5_isLatin1_aae02_13 ?_
      refine lv_goto (tgt := 18) hC.1 hC.2.1 dJ5_isLatin1_aae02_14 (by decide) ?_
      exact x_zret hC hw (by omega) dJ5_isLatin1_aae02_18 (by first | decide | omega) (by first | decide | omega) (by first | exact ⟨rfl, rfl⟩ | (exfalso; omega))
set_option maxHeartbeats 4000000 in
set_option maxRecDepth 100000 in
theorem c_J5_getValue_6d5f1 (l : Launch) (G : xG) {M : HM} {M0 : HM} {q v : Nat} {ml : Int32} {n : Int} {cap : Nat} {f : Nat → Int32} (hS : Sb G M0 M q v ml n cap f) : xMet l G yJ5_getValue_6d5f1 wsJ5_getValue_6d5f1 0 0 0 0 [.ref q] M (fun r M1 => r = some (.ref v) ∧ M1 = M) := by
  refine x_intro (cc := cJ5_getValue_6d5f1) (maxL := 1) (ret := (some (.array .byte))) (by exact pln_RJ5) rfl (Nat.le_of_ble_eq_true rfl) ?_
  intro p e R s m args below meth c ls hRf hRc hRs hRl hC hw hl
  have hSb := hS.2.2.2.2
  have hinJ4 : ∀ w ∈ wsJ40, w ∈ wsJ5_getValue_6d5f1 := fun w h => (List.mem_cons_of_mem _ (List.mem_append_right _ h))
  have hl : lv_has ls 1 [(0, .ref q)] := hl
  refine lv_aload_n hC.1 hC.2.1 dJ5_getValue_6d5f1_0 rfl (lv_at hl 0 rfl) ?_
  refine x_get hC hw hS.2.1 rfl hinJ4 0 (by decide) (List.mem_cons_of_mem _ (List.mem_append_left _ (List.mem_of_getElem? (i := 0) rfl))) rfl dJ5_getValue_6d5f1_1 ?_
  exact x_aret hC hw (by first | exact Or.inl ⟨_, rfl⟩ | exact Or.inr ⟨_, rfl⟩) (Or.inr ⟨_, rfl⟩) dJ5_getValue_6d5f1_4 (by omega) (by omega) (by first | exact ⟨rfl, rfl⟩ | (exfalso; omega))
set_option maxHeartbeats 4000000 in
set_option maxRecDepth 100000 in
theorem c_J1_canEncode_fc78d (l : Launch) (G : xG) {M : HM} {p0 : Int} (hp0 : 0 ≤ p0 ∧ p0 ≤ 255) : xMet l G yJ1_canEncode_fc78d wsJ1_canEncode_fc78d 0 0 0 0 [.int (iN (p0))] M (fun r M1 => r = some (.int (iN 1)) ∧ M1 = M) := by
  refine x_intro (cc := cJ1_canEncode_fc78d) (maxL := 1) (ret := (some .boolean)) (by exact pln_RJ1) rfl (Nat.le_of_ble_eq_true rfl) ?_
  intro p e R s m args below meth c ls hRf hRc hRs hRl hC hw hl
  have hl : lv_has ls 1 [(0, .int (iN (p0)))] := hl
  refine lv_iload_n hC.1 hC.2.1 dJ1_canEncode_fc78d_0 rfl (lv_at hl 0 rfl) ?_
  refine x_sipush hC dJ1_canEncode_fc78d_1 (by decide +kernel) ?_
  refine x_icmp_gt (tgt := 11) hC ⟨by omega, by omega⟩ ⟨by omega, by omega⟩ dJ1_canEncode_fc78d_4 (by decide) (fun c_1 => ?_) (fun c_1 => ?_)
  · refine x_const hC dJ1_canEncode_fc78d_11 ?_
    exact x_zret hC hw (by omega) dJ1_canEncode_fc78d_12 (by first | decide | omega) (by first | decide | omega) (by first | exact ⟨rfl, rfl⟩ | (exfalso; omega))
  · refine x_const hC dJ1_canEncode_fc78d_7 ?_
    refine lv_goto (tgt := 12) hC.1 hC.2.1 dJ1_canEncode_fc78d_8 (by decide) ?_
    exact x_zret hC hw (by omega) dJ1_canEncode_fc78d_12 (by first | decide | omega) (by first | decide | omega) (by first | exact ⟨rfl, rfl⟩ | (exfalso; omega))
set_option maxHeartbeats 4000000 in
set_option maxRecDepth 100000 in
theorem c_J8_newLength_cabcc (l : Launch) (G : xG) {M : HM} {p0 p1 p2 : Int} (hp0 : 0 ≤ p0 ∧ p0 ≤ 100000) (hp1 : 0 < p1 ∧ p1 ≤ p2) (hp2 : p2 ≤ 100000) : xMet l G yJ8_newLength_cabcc wsJ8_newLength_cabcc 1 21 0 0 [.int (iN (p0)), .int (iN (p1)), .int (iN (p2))] M (fun r M1 => r = some (.int (iN (p0 + p2))) ∧ M1 = M) := by
  refine x_intro (cc := cJ8_newLength_cabcc) (maxL := 4) (ret := (some .int)) (by exact pln_RJ8) rfl (Nat.le_of_ble_eq_true rfl) ?_
  intro p e R s m args below meth c ls hRf hRc hRs hRl hC hw hl
  have hl : lv_has ls 4 [(0, .int (iN (p0))), (1, .int (iN (p1))), (2, .int (iN (p2)))] := hl
  refine lv_iload_n hC.1 hC.2.1 dJ8_newLength_cabcc_0 rfl (lv_at hl 0 rfl) ?_
  refine lv_iload_n hC.1 hC.2.1 dJ8_newLength_cabcc_1 rfl (lv_at hl 1 rfl) ?_
  refine lv_iload_n hC.1 hC.2.1 dJ8_newLength_cabcc_2 rfl (lv_at hl 2 rfl) ?_
  refine x_max hC (lv_size hl) ⟨by omega, by omega⟩ ⟨by omega, by omega⟩ (by decide +kernel) (by decide +kernel) (by decide +kernel) (by decide +kernel) (by rw [hRf]; decide) (by rw [hRl]; exact Nat.le_of_ble_eq_true rfl) (by first | (rw [hRc]; decide) | omega) (by first | (rw [hRs]; decide) | omega) dJ8_newLength_cabcc_3 (fun z_1 hz_1 => ?_)
  refine x_iadd hC dJ8_newLength_cabcc_6 ?_
  refine lv_istore_n (lv' := [(3, .int (iN (p0 + z_1))), (0, .int (iN (p0))), (1, .int (iN (p1))), (2, .int (iN (p2)))]) hC.1 hC.2.1 dJ8_newLength_cabcc_7 rfl hl (by decide) rfl (fun ls hl => ?_)
  refine x_const hC dJ8_newLength_cabcc_8 ?_
  refine lv_iload_n hC.1 hC.2.1 dJ8_newLength_cabcc_9 rfl (lv_at hl 0 rfl) ?_
  refine x_icmp_ge (tgt := 21) hC ⟨by omega, by omega⟩ ⟨by omega, by omega⟩ dJ8_newLength_cabcc_10 (by decide) (fun c_2 => ?_) (fun c_2 => ?_)
  · exfalso; omega
  · refine lv_iload_n hC.1 hC.2.1 dJ8_newLength_cabcc_13 rfl (lv_at hl 0 rfl) ?_
    refine x_ldcN hC 2147483639 (by decide +kernel) dJ8_newLength_cabcc_14 ?_
    refine x_icmp_gt (tgt := 21) hC ⟨by omega, by omega⟩ ⟨by omega, by omega⟩ dJ8_newLength_cabcc_16 (by decide) (fun c_3 => ?_) (fun c_3 => ?_)
    · exfalso; omega
    · refine lv_iload_n hC.1 hC.2.1 dJ8_newLength_cabcc_19 rfl (lv_at hl 0 rfl) ?_
      exact x_iret hC hw dJ8_newLength_cabcc_20 (by first | decide | omega) (by first | decide | omega) ⟨by rw [show p0 + z_1 = p0 + p2 by omega], rfl⟩
set_option maxHeartbeats 4000000 in
set_option maxRecDepth 100000 in
theorem c_J5_newCapacity_0f7a4 (l : Launch) (G : xG) {M : HM} {M0 : HM} {q v : Nat} {ml : Int32} {n : Int} {cap : Nat} {f : Nat → Int32} (hS : Sb G M0 M q v ml n cap f) {p0 : Int} (hp0 : (cap : Int) < p0 ∧ p0 ≤ cap + 18) (hcp : 16 ≤ (cap : Int) ∧ (cap : Int) ≤ 20000) : xMet l G yJ5_newCapacity_0f7a4 wsJ5_newCapacity_0f7a4 2 44 0 0 [.ref q, .int (iN (p0))] M (fun r M1 => r = some (.int (iN (2 * cap + 2))) ∧ M1 = M) := by
  refine x_intro (cc := cJ5_newCapacity_0f7a4) (maxL := 6) (ret := (some .int)) (by exact pln_RJ5) rfl (Nat.le_of_ble_eq_true rfl) ?_
  intro p e R s m args below meth c ls hRf hRc hRs hRl hC hw hl
  have hSb := hS.2.2.2.2
  have hinJ4 : ∀ w ∈ wsJ40, w ∈ wsJ5_newCapacity_0f7a4 := fun w h => (List.mem_cons_of_mem _ (List.mem_append_right _ h))
  have hl : lv_has ls 6 [(0, .ref q), (1, .int (iN (p0)))] := hl
  refine lv_aload_n hC.1 hC.2.1 dJ5_newCapacity_0f7a4_0 rfl (lv_at hl 0 rfl) ?_
  refine x_get hC hw hS.2.1 rfl hinJ4 0 (by decide) (List.mem_cons_of_mem _ (List.mem_append_left _ (List.mem_of_getElem? (i := 0) rfl))) rfl dJ5_newCapacity_0f7a4_1 ?_
  refine x_alen hC hw 0 hS.2.2.1 rfl dJ5_newCapacity_0f7a4_4 ?_
  refine lv_istore_n (lv' := [(2, .int (iN (cap))), (0, .ref q), (1, .int (iN (p0)))]) hC.1 hC.2.1 dJ5_newCapacity_0f7a4_5 rfl hl (by decide) rfl (fun ls hl => ?_)
  refine lv_iload_n hC.1 hC.2.1 dJ5_newCapacity_0f7a4_6 rfl (lv_at hl 2 rfl) ?_
  refine lv_aload_n hC.1 hC.2.1 dJ5_newCapacity_0f7a4_7 rfl (lv_at hl 1 rfl) ?_
  refine x_get hC hw hS.2.1 rfl hinJ4 1 (by decide) (List.mem_cons_of_mem _ (List.mem_append_left _ (List.mem_of_getElem? (i := 1) rfl))) rfl dJ5_newCapacity_0f7a4_8 ?_
  refine x_ishl0 hC dJ5_newCapacity_0f7a4_11 ?_
  refine lv_istore_n (lv' := [(3, .int (iN (p0))), (2, .int (iN (cap))), (0, .ref q), (1, .int (iN (p0)))]) hC.1 hC.2.1 dJ5_newCapacity_0f7a4_12 rfl hl (by decide) rfl (fun ls hl => ?_)
  refine lv_iload_n hC.1 hC.2.1 dJ5_newCapacity_0f7a4_13 rfl (lv_at hl 0 rfl) ?_
  refine lv_iload_n hC.1 hC.2.1 dJ5_newCapacity_0f7a4_14 rfl (lv_at hl 1 rfl) ?_
  refine x_isub hC dJ5_newCapacity_0f7a4_15 ?_
  refine lv_istore (lv' := [(4, .int (iN (p0 - cap))), (3, .int (iN (p0))), (2, .int (iN (cap))), (0, .ref q), (1, .int (iN (p0)))]) hC.1 hC.2.1 dJ5_newCapacity_0f7a4_16 hl (by decide) rfl (fun ls hl => ?_)
  refine lv_iload_n hC.1 hC.2.1 dJ5_newCapacity_0f7a4_18 rfl (lv_at hl 2 rfl) ?_
  refine lv_iload hC.1 hC.2.1 dJ5_newCapacity_0f7a4_19 (lv_at hl 0 rfl) ?_
  refine lv_iload_n hC.1 hC.2.1 dJ5_newCapacity_0f7a4_21 rfl (lv_at hl 2 rfl) ?_
  refine x_const hC dJ5_newCapacity_0f7a4_22 ?_
  refine lv_aload_n hC.1 hC.2.1 dJ5_newCapacity_0f7a4_23 rfl (lv_at hl 3 rfl) ?_
  refine x_get hC hw hS.2.1 rfl hinJ4 1 (by decide) (List.mem_cons_of_mem _ (List.mem_append_left _ (List.mem_of_getElem? (i := 1) rfl))) rfl dJ5_newCapacity_0f7a4_24 ?_
  refine x_ishl0 hC dJ5_newCapacity_0f7a4_27 ?_
  refine x_iadd hC dJ5_newCapacity_0f7a4_28 ?_
  refine x_callS hC hw (lv_size hl) (c_J8_newLength_cabcc l G (M := M) (p0 := cap) (p1 := p0 - cap) (p2 := cap + 2) (by omega) (by omega) (by omega)) gJ5_newCapacity_0f7a4_J8_newLength_cabcc rfl dv_J8_newLength_cabcc_s rfl (Nat.le_of_ble_eq_true rfl) (by rw [hRf]; decide) (by rw [hRl]; decide) (by first | (rw [hRc]; decide) | omega) (by first | (rw [hRs]; decide) | omega) dJ5_newCapacity_0f7a4_29 (fun r9 M_1 H locs hq hw => ?_)
  obtain ⟨rfl, hM9⟩ := hq
  rw [hM9] at hw
  show W p l e R s m args below meth c H locs _ _ _ (F0 m 32 ls [.int (iN (cap + (cap + 2)))])
  refine lv_istore (lv' := [(5, .int (iN (cap + (cap + 2)))), (4, .int (iN (p0 - cap))), (3, .int (iN (p0))), (2, .int (iN (cap))), (0, .ref q), (1, .int (iN (p0)))]) hC.1 hC.2.1 dJ5_newCapacity_0f7a4_32 hl (by decide) rfl (fun ls hl => ?_)
  refine lv_iload hC.1 hC.2.1 dJ5_newCapacity_0f7a4_34 (lv_at hl 0 rfl) ?_
  refine x_ldcN hC 2147483647 (by decide +kernel) dJ5_newCapacity_0f7a4_36 ?_
  refine x_icmp_ne (tgt := 51) hC ⟨by omega, by omega⟩ ⟨by omega, by omega⟩ dJ5_newCapacity_0f7a4_38 (by decide) (fun c_2 => ?_) (fun c_2 => ?_)
  · refine lv_iload hC.1 hC.2.1 dJ5_newCapacity_0f7a4_51 (lv_at hl 0 rfl) ?_
    refine lv_aload_n hC.1 hC.2.1 dJ5_newCapacity_0f7a4_53 rfl (lv_at hl 4 rfl) ?_
    refine x_get hC hw hS.2.1 rfl hinJ4 1 (by decide) (List.mem_cons_of_mem _ (List.mem_append_left _ (List.mem_of_getElem? (i := 1) rfl))) rfl dJ5_newCapacity_0f7a4_54 ?_
    refine x_ishr0 hC dJ5_newCapacity_0f7a4_57 ?_
    exact x_iret hC hw dJ5_newCapacity_0f7a4_58 (by first | decide | omega) (by first | decide | omega) ⟨by rw [show cap + (cap + 2) = 2 * (cap : Int) + 2 by omega], rfl⟩
  · exfalso; omega
set_option maxHeartbeats 4000000 in
set_option maxRecDepth 100000 in
theorem c_J7_copyOf_9075b (l : Launch) (G : xG) {M : HM} {v cap N : Nat} {f : Nat → Int32} (hv : M v = some (.inl (G.2 0, cap, .inl f))) (hb : bf f) (hN : cap < N ∧ N ≤ 60000) : xMet l G yJ7_copyOf_9075b wsJ7_copyOf_9075b 1 30 1 N [.ref v, .int (iN (N : Int))] M (fun r M1 => ∃ (q9 : Nat) (f9 : Nat → Int32), r = some (.ref q9) ∧ M q9 = none ∧ xExt M M1 ∧ M1 q9 = some (.inl (G.2 0, N, .inl f9)) ∧ bf f9) := by
  refine x_intro (cc := cJ7_copyOf_9075b) (maxL := 3) (ret := (some (.array .byte))) (by exact pln_RJ7) rfl (Nat.le_of_ble_eq_true rfl) ?_
  intro p e R s m args below meth c ls hRf hRc hRs hRl hC hw hl
  have hl : lv_has ls 3 [(0, .ref v), (1, .int (iN (N)))] := hl
  refine lv_iload_n hC.1 hC.2.1 dJ7_copyOf_9075b_0 rfl (lv_at hl 1 rfl) ?_
  refine lv_aload_n hC.1 hC.2.1 dJ7_copyOf_9075b_1 rfl (lv_at hl 0 rfl) ?_
  refine x_alen hC hw 0 hv rfl dJ7_copyOf_9075b_2 ?_
  refine x_icmp_ne (tgt := 14) hC ⟨by omega, by omega⟩ ⟨by omega, by omega⟩ dJ7_copyOf_9075b_3 (by decide) (fun c_1 => ?_) (fun c_1 => ?_)
  · refine lv_iload_n hC.1 hC.2.1 dJ7_copyOf_9075b_14 rfl (lv_at hl 1 rfl) ?_
    refine x_newB hC hw (by decide +kernel) (N) (by omega) (by omega) (by omega) (by omega) dJ7_copyOf_9075b_15 (fun q_2 H hq_3 hw => ?_)
    obtain ⟨M_4, hM_5⟩ : ∃ z, z = va_up M q_2 (some (.inl (G.2 0, N, .inl (fun _ => 0)))) := ⟨_, rfl⟩
    rw [← hM_5] at hw
    have hx_6 : xExt M M_4 := by rw [hM_5]; exact xExt.new hq_3
    have hA_7 := xup_s hM_5
    have h_8 := hx_6 _ _ hv
    refine lv_astore_n (lv' := [(2, .ref q_2), (0, .ref v), (1, .int (iN (N)))]) hC.1 hC.2.1 dJ7_copyOf_9075b_17 rfl hl (by decide) rfl (fun ls hl => ?_)
    refine lv_aload_n hC.1 hC.2.1 dJ7_copyOf_9075b_18 rfl (lv_at hl 1 rfl) ?_
    refine x_const hC dJ7_copyOf_9075b_19 ?_
    refine lv_aload_n hC.1 hC.2.1 dJ7_copyOf_9075b_20 rfl (lv_at hl 0 rfl) ?_
    refine x_const hC dJ7_copyOf_9075b_21 ?_
    refine lv_aload_n hC.1 hC.2.1 dJ7_copyOf_9075b_22 rfl (lv_at hl 1 rfl) ?_
    refine x_alen hC hw 0 h_8 rfl dJ7_copyOf_9075b_23 ?_
    refine lv_iload_n hC.1 hC.2.1 dJ7_copyOf_9075b_24 rfl (lv_at hl 2 rfl) ?_
    refine x_min hC (lv_size hl) ⟨by omega, by omega⟩ ⟨by omega, by omega⟩ (by decide +kernel) (by decide +kernel) (by decide +kernel) (by decide +kernel) (by rw [hRf]; decide) (by rw [hRl]; exact Nat.le_of_ble_eq_true rfl) (by first | (rw [hRc]; decide) | omega) (by first | (rw [hRs]; decide) | omega) dJ7_copyOf_9075b_25 (fun z_9 hz_9 => ?_)
    refine x_copyB hC hw (lv_size hl) (by decide +kernel) (by decide +kernel) (by decide +kernel) (by decide +kernel) h_8 hA_7 hb (by omega) (by omega) (by omega) (by omega) (by omega) (by omega) (by omega) (by rw [hRf]; decide) (by rw [hRl]; exact Nat.le_of_ble_eq_true rfl) dJ7_copyOf_9075b_28 (fun H locs hw => ?_)
    obtain ⟨M_10, hM_11⟩ : ∃ z, z = va_up M_4 q_2 (some (.inl (G.2 0, N, .inl (va_cpy f (fun _ => 0) (0 : Int).toNat (0 : Int).toNat (z_9).toNat)))) := ⟨_, rfl⟩
    rw [← hM_11] at hw
    have hA_12 := xup_s hM_11
    have hb_13 : bf (va_cpy f (fun _ => 0) (0 : Int).toNat (0 : Int).toNat (z_9).toNat) := (bf_cpy hb bf_0 _ _ _)
    have hx_14 := xExt.upd hq_3 hx_6 hM_11
    have h_15 := hx_14 _ _ hv
    refine lv_aload_n hC.1 hC.2.1 dJ7_copyOf_9075b_31 rfl (lv_at hl 0 rfl) ?_
    exact x_aret hC hw (by first | exact Or.inl ⟨_, rfl⟩ | exact Or.inr ⟨_, rfl⟩) (Or.inr ⟨_, rfl⟩) dJ7_copyOf_9075b_32 (by omega) (by omega) ⟨_, _, rfl, hq_3, hx_14, hA_12, hb_13⟩
  · exfalso; omega
set_option maxHeartbeats 4000000 in
set_option maxRecDepth 100000 in
theorem c_J7_checkLength_df160 (l : Launch) (G : xG) {M : HM} {p0 p1 : Int} (hp0 : 0 ≤ p0 ∧ p0 ≤ p1 ∧ p1 ≤ 100000) : xMet l G yJ7_checkLength_df160 wsJ7_checkLength_df160 0 0 0 0 [.int (iN (p0)), .int (iN (p1))] M (fun r M1 => r = none ∧ M1 = M) := by
  refine x_intro (cc := cJ7_checkLength_df160) (maxL := 2) (ret := none) (by exact pln_RJ7) rfl (Nat.le_of_ble_eq_true rfl) ?_
  intro p e R s m args below meth c ls hRf hRc hRs hRl hC hw hl
  have hl : lv_has ls 2 [(0, .int (iN (p0))), (1, .int (iN (p1)))] := hl
  refine lv_iload_n hC.1 hC.2.1 dJ7_checkLength_df160_0 rfl (lv_at hl 1 rfl) ?_
  refine lv_iload_n hC.1 hC.2.1 dJ7_checkLength_df160_1 rfl (lv_at hl 0 rfl) ?_
  refine x_icmp_ge (tgt := 37) hC ⟨by omega, by omega⟩ ⟨by omega, by omega⟩ dJ7_checkLength_df160_2 (by decide) (fun c_1 => ?_) (fun c_1 => ?_)
  · exact x_vret hC hw dJ7_checkLength_df160_37 (by first | decide | omega) (by first | decide | omega) (by first | exact ⟨rfl, rfl⟩ | (exfalso; omega))
  · exfalso; omega
set_option maxHeartbeats 4000000 in
set_option maxRecDepth 100000 in
theorem c_J7_copyOfRangeByte_39247 (l : Launch) (G : xG) {M : HM} {v cap N : Nat} {f : Nat → Int32} (hv : M v = some (.inl (G.2 0, cap, .inl f))) (hb : bf f) (hN : N ≤ cap ∧ cap ≤ 60000) : xMet l G yJ7_copyOfRangeByte_39247 wsJ7_copyOfRangeByte_39247 1 26 1 N [.ref v, .int (iN (0)), .int (iN (N : Int))] M (fun r M1 => ∃ (q9 : Nat) (f9 : Nat → Int32), r = some (.ref q9) ∧ M q9 = none ∧ xExt M M1 ∧ M1 q9 = some (.inl (G.2 0, N, .inl f9)) ∧ bf f9) := by
  refine x_intro (cc := cJ7_copyOfRangeByte_39247) (maxL := 5) (ret := (some (.array .byte))) (by exact pln_RJ7) rfl (Nat.le_of_ble_eq_true rfl) ?_
  intro p e R s m args below meth c ls hRf hRc hRs hRl hC hw hl
  have hl : lv_has ls 5 [(0, .ref v), (1, .int (iN (0))), (2, .int (iN (N)))] := hl
  refine lv_iload_n hC.1 hC.2.1 dJ7_copyOfRangeByte_39247_0 rfl (lv_at hl 1 rfl) ?_
  refine lv_iload_n hC.1 hC.2.1 dJ7_copyOfRangeByte_39247_1 rfl (lv_at hl 2 rfl) ?_
  refine x_callS hC hw (lv_size hl) (c_J7_checkLength_df160 l G (M := M) (p0 := 0) (p1 := N) (by omega)) gJ7_copyOfRangeByte_39247_J7_checkLength_df160 rfl dv_J7_checkLength_df160_s rfl (Nat.le_of_ble_eq_true rfl) (by rw [hRf]; decide) (by rw [hRl]; decide) (by first | (rw [hRc]; decide) | omega) (by first | (rw [hRs]; decide) | omega) dJ7_copyOfRangeByte_39247_2 (fun r9 M_1 H locs hq hw => ?_)
  obtain ⟨rfl, hM9⟩ := hq
  rw [hM9] at hw
  show W p l e R s m args below meth c H locs _ _ _ (F0 m 5 ls [])
  refine lv_iload_n hC.1 hC.2.1 dJ7_copyOfRangeByte_39247_5 rfl (lv_at hl 2 rfl) ?_
  refine lv_iload_n hC.1 hC.2.1 dJ7_copyOfRangeByte_39247_6 rfl (lv_at hl 1 rfl) ?_
  refine x_isub hC dJ7_copyOfRangeByte_39247_7 ?_
  refine lv_istore_n (lv' := [(3, .int (iN (N - 0))), (0, .ref v), (1, .int (iN (0))), (2, .int (iN (N)))]) hC.1 hC.2.1 dJ7_copyOfRangeByte_39247_8 rfl hl (by decide) rfl (fun ls hl => ?_)
  refine lv_iload_n hC.1 hC.2.1 dJ7_copyOfRangeByte_39247_9 rfl (lv_at hl 0 rfl) ?_
  refine x_newB hC hw (by decide +kernel) (N) (by omega) (by omega) (by omega) (by omega) dJ7_copyOfRangeByte_39247_10 (fun q_2 H hq_3 hw => ?_)
  obtain ⟨M_4, hM_5⟩ : ∃ z, z = va_up M q_2 (some (.inl (G.2 0, N, .inl (fun _ => 0)))) := ⟨_, rfl⟩
  rw [← hM_5] at hw
  have hx_6 : xExt M M_4 := by rw [hM_5]; exact xExt.new hq_3
  have hA_7 := xup_s hM_5
  have h_8 := hx_6 _ _ hv
  refine lv_astore (lv' := [(4, .ref q_2), (3, .int (iN (N - 0))), (0, .ref v), (1, .int (iN (0))), (2, .int (iN (N)))]) hC.1 hC.2.1 dJ7_copyOfRangeByte_39247_12 hl (by decide) rfl (fun ls hl => ?_)
  refine lv_aload_n hC.1 hC.2.1 dJ7_copyOfRangeByte_39247_14 rfl (lv_at hl 2 rfl) ?_
  refine lv_iload_n hC.1 hC.2.1 dJ7_copyOfRangeByte_39247_15 rfl (lv_at hl 3 rfl) ?_
  refine lv_aload hC.1 hC.2.1 dJ7_copyOfRangeByte_39247_16 (lv_at hl 0 rfl) ?_
  refine x_const hC dJ7_copyOfRangeByte_39247_18 ?_
  refine lv_aload_n hC.1 hC.2.1 dJ7_copyOfRangeByte_39247_19 rfl (lv_at hl 2 rfl) ?_
  refine x_alen hC hw 0 h_8 rfl dJ7_copyOfRangeByte_39247_20 ?_
  refine lv_iload_n hC.1 hC.2.1 dJ7_copyOfRangeByte_39247_21 rfl (lv_at hl 3 rfl) ?_
  refine x_isub hC dJ7_copyOfRangeByte_39247_22 ?_
  refine lv_iload_n hC.1 hC.2.1 dJ7_copyOfRangeByte_39247_23 rfl (lv_at hl 1 rfl) ?_
  refine x_min hC (lv_size hl) ⟨by omega, by omega⟩ ⟨by omega, by omega⟩ (by decide +kernel) (by decide +kernel) (by decide +kernel) (by decide +kernel) (by rw [hRf]; decide) (by rw [hRl]; exact Nat.le_of_ble_eq_true rfl) (by first | (rw [hRc]; decide) | omega) (by first | (rw [hRs]; decide) | omega) dJ7_copyOfRangeByte_39247_24 (fun z_9 hz_9 => ?_)
  refine x_copyB hC hw (lv_size hl) (by decide +kernel) (by decide +kernel) (by decide +kernel) (by decide +kernel) h_8 hA_7 hb (by omega) (by omega) (by omega) (by omega) (by omega) (by omega) (by omega) (by rw [hRf]; decide) (by rw [hRl]; exact Nat.le_of_ble_eq_true rfl) dJ7_copyOfRangeByte_39247_27 (fun H locs hw => ?_)
  obtain ⟨M_10, hM_11⟩ : ∃ z, z = va_up M_4 q_2 (some (.inl (G.2 0, N, .inl (va_cpy f (fun _ => 0) (0 : Int).toNat (0 : Int).toNat (z_9).toNat)))) := ⟨_, rfl⟩
  rw [← hM_11] at hw
  have hA_12 := xup_s hM_11
  have hb_13 : bf (va_cpy f (fun _ => 0) (0 : Int).toNat (0 : Int).toNat (z_9).toNat) := (bf_cpy hb bf_0 _ _ _)
  have hx_14 := xExt.upd hq_3 hx_6 hM_11
  have h_15 := hx_14 _ _ hv
  refine lv_aload hC.1 hC.2.1 dJ7_copyOfRangeByte_39247_30 (lv_at hl 0 rfl) ?_
  exact x_aret hC hw (by first | exact Or.inl ⟨_, rfl⟩ | exact Or.inr ⟨_, rfl⟩) (Or.inr ⟨_, rfl⟩) dJ7_copyOfRangeByte_39247_32 (by omega) (by omega) ⟨_, _, rfl, hq_3, hx_14, hA_12, hb_13⟩
set_option maxHeartbeats 4000000 in
set_option maxRecDepth 100000 in
theorem c_J7_copyOfRange_39247 (l : Launch) (G : xG) {M : HM} {v cap N : Nat} {f : Nat → Int32} (hv : M v = some (.inl (G.2 0, cap, .inl f))) (hb : bf f) (hN : N ≤ cap ∧ cap ≤ 60000) : xMet l G yJ7_copyOfRange_39247 wsJ7_copyOfRange_39247 2 50 1 N [.ref v, .int (iN (0)), .int (iN (N : Int))] M (fun r M1 => ∃ (q9 : Nat) (f9 : Nat → Int32), r = some (.ref q9) ∧ M q9 = none ∧ xExt M M1 ∧ M1 q9 = some (.inl (G.2 0, N, .inl f9)) ∧ bf f9) := by
  refine x_intro (cc := cJ7_copyOfRange_39247) (maxL := 3) (ret := (some (.array .byte))) (by exact pln_RJ7) rfl (Nat.le_of_ble_eq_true rfl) ?_
  intro p e R s m args below meth c ls hRf hRc hRs hRl hC hw hl
  have hl : lv_has ls 3 [(0, .ref v), (1, .int (iN (0))), (2, .int (iN (N)))] := hl
  refine lv_iload_n hC.1 hC.2.1 dJ7_copyOfRange_39247_0 rfl (lv_at hl 1 rfl) ?_
  refine x_if_ne (tgt := 10) hC ⟨by omega, by omega⟩ dJ7_copyOfRange_39247_1 (by decide) (fun c_1 => ?_) (fun c_1 => ?_)
  · refine lv_aload_n hC.1 hC.2.1 dJ7_copyOfRange_39247_10 rfl (lv_at hl 0 rfl) ?_
    refine lv_iload_n hC.1 hC.2.1 dJ7_copyOfRange_39247_11 rfl (lv_at hl 1 rfl) ?_
    refine lv_iload_n hC.1 hC.2.1 dJ7_copyOfRange_39247_12 rfl (lv_at hl 2 rfl) ?_
    refine x_callS hC hw (lv_size hl) (c_J7_copyOfRangeByte_39247 l G (N := N) hv hb (by omega)) gJ7_copyOfRange_39247_J7_copyOfRangeByte_39247 rfl dv_J7_copyOfRangeByte_39247_s rfl (Nat.le_of_ble_eq_true rfl) (by rw [hRf]; decide) (by rw [hRl]; decide) (by first | (rw [hRc]; decide) | omega) (by first | (rw [hRs]; decide) | omega) dJ7_copyOfRange_39247_13 (fun r9 M_2 H locs hq hw => ?_)
    obtain ⟨qk_3, fk_3, rfl, hqk_3, hxk_3, hAk_3, hbk_3⟩ := hq
    have h_4 := hxk_3 _ _ hv
    show W p l e R s m args below meth c H locs _ _ _ (F0 m 16 ls [.ref qk_3])
    exact x_aret hC hw (by first | exact Or.inl ⟨_, rfl⟩ | exact Or.inr ⟨_, rfl⟩) (Or.inr ⟨_, rfl⟩) dJ7_copyOfRange_39247_16 (by omega) (by omega) ⟨_, _, rfl, hqk_3, hxk_3, hAk_3, hbk_3⟩
  · refine lv_iload_n hC.1 hC.2.1 dJ7_copyOfRange_39247_4 rfl (lv_at hl 2 rfl) ?_
    refine lv_aload_n hC.1 hC.2.1 dJ7_copyOfRange_39247_5 rfl (lv_at hl 0 rfl) ?_
    refine x_alen hC hw 0 hv rfl dJ7_copyOfRange_39247_6 ?_
    refine x_icmp_eq (tgt := 17) hC ⟨by omega, by omega⟩ ⟨by omega, by omega⟩ dJ7_copyOfRange_39247_7 (by decide) (fun c_5 => ?_) (fun c_5 => ?_)
    · refine lv_aload_n hC.1 hC.2.1 dJ7_copyOfRange_39247_17 rfl (lv_at hl 0 rfl) ?_
      refine x_cloneB hC hw (lv_size hl) hv hb (by decide +kernel) (by decide +kernel) (by decide +kernel) (by decide +kernel) (by decide +kernel) (by rw [hRf]; decide) (by rw [hRl]; exact Nat.le_of_ble_eq_true rfl) (by first | (rw [hRc]; decide) | omega) (by first | (rw [hRs]; decide) | omega) dJ7_copyOfRange_39247_18 (fun q_6 H hq_7 hw => ?_)
      obtain ⟨M_8, hM_9⟩ : ∃ z, z = va_up M q_6 (some (.inl (G.2 0, cap, .inl f))) := ⟨_, rfl⟩
      rw [← hM_9] at hw
      have hx_10 : xExt M M_8 := by rw [hM_9]; exact xExt.new hq_7
      have hA_11 := xup_s hM_9
      have h_12 := hx_10 _ _ hv
      refine x_castB hC hw hA_11 (by decide +kernel) dJ7_copyOfRange_39247_21 ?_
      exact x_aret hC hw (by first | exact Or.inl ⟨_, rfl⟩ | exact Or.inr ⟨_, rfl⟩) (Or.inr ⟨_, rfl⟩) dJ7_copyOfRange_39247_24 (by omega) (by omega) ⟨_, _, rfl, hq_7, hx_10, (by have h7 := hA_11; rw [show cap = N by omega] at h7; exact h7), hb⟩
    · refine lv_aload_n hC.1 hC.2.1 dJ7_copyOfRange_39247_10 rfl (lv_at hl 0 rfl) ?_
      refine lv_iload_n hC.1 hC.2.1 dJ7_copyOfRange_39247_11 rfl (lv_at hl 1 rfl) ?_
      refine lv_iload_n hC.1 hC.2.1 dJ7_copyOfRange_39247_12 rfl (lv_at hl 2 rfl) ?_
      refine x_callS hC hw (lv_size hl) (c_J7_copyOfRangeByte_39247 l G (N := N) hv hb (by omega)) gJ7_copyOfRange_39247_J7_copyOfRangeByte_39247 rfl dv_J7_copyOfRangeByte_39247_s rfl (Nat.le_of_ble_eq_true rfl) (by rw [hRf]; decide) (by rw [hRl]; decide) (by first | (rw [hRc]; decide) | omega) (by first | (rw [hRs]; decide) | omega) dJ7_copyOfRange_39247_13 (fun r9 M_13 H locs hq hw => ?_)
      obtain ⟨qk_14, fk_14, rfl, hqk_14, hxk_14, hAk_14, hbk_14⟩ := hq
      have h_15 := hxk_14 _ _ hv
      show W p l e R s m args below meth c H locs _ _ _ (F0 m 16 ls [.ref qk_14])
      exact x_aret hC hw (by first | exact Or.inl ⟨_, rfl⟩ | exact Or.inr ⟨_, rfl⟩) (Or.inr ⟨_, rfl⟩) dJ7_copyOfRange_39247_16 (by omega) (by omega) ⟨_, _, rfl, hqk_14, hxk_14, hAk_14, hbk_14⟩
set_option maxHeartbeats 4000000 in
set_option maxRecDepth 100000 in
theorem c_J5_ensureCapacityInternal_d00df (l : Launch) (G : xG) {M : HM} {M0 : HM} {q v : Nat} {ml : Int32} {n : Int} {cap : Nat} {f : Nat → Int32} (hS : Sb G M0 M q v ml n cap f) {p0 : Int} (hp0 : 0 ≤ p0 ∧ p0 ≤ cap + 18) {mc ms : Nat} (hr : p0 ≤ cap ∨ (1 ≤ mc ∧ 2 * cap + 2 ≤ ms)) (hcp : 16 ≤ (cap : Int) ∧ (cap : Int) ≤ 20000) : xMet l G yJ5_ensureCapacityInternal_d00df wsJ5_ensureCapacityInternal_d00df 3 69 mc ms [.ref q, .int (iN (p0))] M (fun r M1 => r = none ∧ ∃ (v1 cap1 : Nat) (f1 : Nat → Int32), Sb G M0 M1 q v1 ml (n) cap1 f1 ∧ ((p0 ≤ cap ∧ cap1 = cap) ∨ ((cap : Int) < p0 ∧ cap1 = 2 * cap + 2))) := by
  refine x_intro (cc := cJ5_ensureCapacityInternal_d00df) (maxL := 3) (ret := none) (by exact pln_RJ5) rfl (Nat.le_of_ble_eq_true rfl) ?_
  intro p e R s m args below meth c ls hRf hRc hRs hRl hC hw hl
  have hSb := hS.2.2.2.2
  have hinJ4 : ∀ w ∈ wsJ40, w ∈ wsJ5_ensureCapacityInternal_d00df := fun w h => (List.mem_cons_of_mem _ (List.mem_append_right _ h))
  have hl : lv_has ls 3 [(0, .ref q), (1, .int (iN (p0)))] := hl
  refine lv_aload_n hC.1 hC.2.1 dJ5_ensureCapacityInternal_d00df_0 rfl (lv_at hl 0 rfl) ?_
  refine x_get hC hw hS.2.1 rfl hinJ4 0 (by decide) (List.mem_cons_of_mem _ (List.mem_append_left _ (List.mem_append_left _ (List.mem_of_getElem? (i := 0) rfl)))) rfl dJ5_ensureCapacityInternal_d00df_1 ?_
  refine x_alen hC hw 0 hS.2.2.1 rfl dJ5_ensureCapacityInternal_d00df_4 ?_
  refine lv_aload_n hC.1 hC.2.1 dJ5_ensureCapacityInternal_d00df_5 rfl (lv_at hl 0 rfl) ?_
  refine x_get hC hw hS.2.1 rfl hinJ4 1 (by decide) (List.mem_cons_of_mem _ (List.mem_append_left _ (List.mem_append_left _ (List.mem_of_getElem? (i := 1) rfl)))) rfl dJ5_ensureCapacityInternal_d00df_6 ?_
  refine x_ishr0 hC dJ5_ensureCapacityInternal_d00df_9 ?_
  refine lv_istore_n (lv' := [(2, .int (iN (cap))), (0, .ref q), (1, .int (iN (p0)))]) hC.1 hC.2.1 dJ5_ensureCapacityInternal_d00df_10 rfl hl (by decide) rfl (fun ls hl => ?_)
  refine lv_iload_n hC.1 hC.2.1 dJ5_ensureCapacityInternal_d00df_11 rfl (lv_at hl 2 rfl) ?_
  refine lv_iload_n hC.1 hC.2.1 dJ5_ensureCapacityInternal_d00df_12 rfl (lv_at hl 0 rfl) ?_
  refine x_isub hC dJ5_ensureCapacityInternal_d00df_13 ?_
  refine x_if_le (tgt := 38) hC ⟨by omega, by omega⟩ dJ5_ensureCapacityInternal_d00df_14 (by decide) (fun c_1 => ?_) (fun c_1 => ?_)
  · exact x_vret hC hw dJ5_ensureCapacityInternal_d00df_38 (by first | decide | omega) (by first | decide | omega) ⟨rfl, _, _, _, hS, by omega⟩
  · refine lv_aload_n hC.1 hC.2.1 dJ5_ensureCapacityInternal_d00df_17 rfl (lv_at hl 1 rfl) ?_
    refine lv_aload_n hC.1 hC.2.1 dJ5_ensureCapacityInternal_d00df_18 rfl (lv_at hl 1 rfl) ?_
    refine x_get hC hw hS.2.1 rfl hinJ4 0 (by decide) (List.mem_cons_of_mem _ (List.mem_append_left _ (List.mem_append_left _ (List.mem_of_getElem? (i := 0) rfl)))) rfl dJ5_ensureCapacityInternal_d00df_19 ?_
    refine lv_aload_n hC.1 hC.2.1 dJ5_ensureCapacityInternal_d00df_22 rfl (lv_at hl 1 rfl) ?_
    refine lv_iload_n hC.1 hC.2.1 dJ5_ensureCapacityInternal_d00df_23 rfl (lv_at hl 2 rfl) ?_
    refine x_callU hC hw (lv_size hl) (c_J5_newCapacity_0f7a4 l G hS (p0 := p0) (by first | assumption | omega) (by omega)) gJ5_ensureCapacityInternal_d00df_J5_newCapacity_0f7a4_u104J4 rfl rfl du_J5_newCapacity_0f7a4 hS.2.1 rfl rfl (Nat.le_of_ble_eq_true rfl) (by rw [hRf]; decide) (by rw [hRl]; decide) (by first | (rw [hRc]; decide) | omega) (by first | (rw [hRs]; decide) | omega) dJ5_ensureCapacityInternal_d00df_24 (fun r9 M_2 H locs hq hw => ?_)
    obtain ⟨rfl, hM9⟩ := hq
    rw [hM9] at hw
    show W p l e R s m args below meth c H locs _ _ _ (F0 m 27 ls [.int (iN (2 * cap + 2)), .ref v, .ref q])
    refine lv_aload_n hC.1 hC.2.1 dJ5_ensureCapacityInternal_d00df_27 rfl (lv_at hl 1 rfl) ?_
    refine x_get hC hw hS.2.1 rfl hinJ4 1 (by decide) (List.mem_cons_of_mem _ (List.mem_append_left _ (List.mem_append_left _ (List.mem_of_getElem? (i := 1) rfl)))) rfl dJ5_ensureCapacityInternal_d00df_28 ?_
    refine x_ishl0 hC dJ5_ensureCapacityInternal_d00df_31 ?_
    refine x_callS hC hw (lv_size hl) (c_J7_copyOf_9075b l G (N := 2 * cap + 2) hS.2.2.1 hS.2.2.2.1 (by omega)) gJ5_ensureCapacityInternal_d00df_J7_copyOf_9075b rfl dv_J7_copyOf_9075b_s rfl (Nat.le_of_ble_eq_true rfl) (by rw [hRf]; decide) (by rw [hRl]; decide) (by first | (rw [hRc]; decide) | omega) (by first | (rw [hRs]; decide) | omega) dJ5_ensureCapacityInternal_d00df_32 (fun r9 M_3 H locs hq hw => ?_)
    obtain ⟨qk_4, fk_4, rfl, hqk_4, hxk_4, hAk_4, hbk_4⟩ := hq
    have h_5 := hS.ext hxk_4
    show W p l e R s m args below meth c H locs _ _ _ (F0 m 35 ls [.ref qk_4, .ref q])
    refine x_put (fs2 := [.ref qk_4, .int (iN (0)), .int ml, .int (iN (n))]) hC hw h_5.2.1 rfl hinJ4 tyJ4 tyJ4_ok nmJ4 0 (by decide) (List.mem_cons_of_mem _ (List.mem_append_left _ (List.mem_append_left _ (List.mem_of_getElem? (i := 0) rfl)))) rfl rfl rfl (Nat.le_of_ble_eq_true rfl) rfl dJ5_ensureCapacityInternal_d00df_35 (fun H locs hw => ?_)
    obtain ⟨M_6, hM_7⟩ : ∃ z, z = va_up M_3 q (some (.inr (1, [.ref qk_4, .int (iN (0)), .int ml, .int (iN (n))]))) := ⟨_, rfl⟩
    rw [← hM_7] at hw
    have hS_8 := h_5.sw (xExt.fr hS.1.1 hqk_4) hAk_4 hbk_4 hM_7 ⟨by omega, by omega⟩
    have hbhS_8 := hS_8.2.2.2.2
    exact x_vret hC hw dJ5_ensureCapacityInternal_d00df_38 (by first | decide | omega) (by first | decide | omega) ⟨rfl, _, _, _, hS_8, by omega⟩
set_option maxHeartbeats 4000000 in
set_option maxRecDepth 100000 in
theorem c_J5_inflateIfNeededFor_a7421 (l : Launch) (G : xG) {M : HM} {M0 : HM} {q v : Nat} {ml : Int32} {n : Int} {cap : Nat} {f : Nat → Int32} (hS : Sb G M0 M q v ml n cap f) {nl : Nat} {w : String × Nat × String × List Int32} (hnl : xLits[nl]? = some w) (hwb : bf (fun j => w.2.2.2.getD j 0)) (hwl : (w.2.2.2.length : Int) ≤ 18) : xMet l G yJ5_inflateIfNeededFor_a7421 wsJ5_inflateIfNeededFor_a7421 1 20 0 0 [.ref q, .ref (G.2 (100 + 2 * nl))] M (fun r M1 => r = none ∧ M1 = M) := by
  refine x_intro (cc := cJ5_inflateIfNeededFor_a7421) (maxL := 2) (ret := none) (by exact pln_RJ5) rfl (Nat.le_of_ble_eq_true rfl) ?_
  intro p e R s m args below meth c ls hRf hRc hRs hRl hC hw hl
  have hSb := hS.2.2.2.2
  have hinJ4 : ∀ w ∈ wsJ40, w ∈ wsJ5_inflateIfNeededFor_a7421 := fun w h => (List.mem_cons_of_mem _ (List.mem_append_left _ (List.mem_append_right _ h)))
  have hl : lv_has ls 2 [(0, .ref q), (1, .ref (G.2 (100 + 2 * nl)))] := hl
  refine x_gsC hC hw (by decide +kernel) dJ5_inflateIfNeededFor_a7421_0 ?_
  refine x_if_eq (tgt := 21) hC ⟨by omega, by omega⟩ dJ5_inflateIfNeededFor_a7421_3 (by decide) (fun c_1 => ?_) (fun c_1 => ?_)
  · exact x_vret hC hw dJ5_inflateIfNeededFor_a7421_21 (by first | decide | omega) (by first | decide | omega) (by first | exact ⟨rfl, rfl⟩ | (exfalso; omega))
  · refine lv_aload_n hC.1 hC.2.1 dJ5_inflateIfNeededFor_a7421_6 rfl (lv_at hl 0 rfl) ?_
    refine x_get hC hw hS.2.1 rfl hinJ4 1 (by decide) (List.mem_cons_of_mem _ (List.mem_append_left _ (List.mem_append_left _ (List.mem_append_left _ (List.mem_of_getElem? (i := 1) rfl))))) rfl dJ5_inflateIfNeededFor_a7421_7 ?_
    refine lv_aload_n hC.1 hC.2.1 dJ5_inflateIfNeededFor_a7421_10 rfl (lv_at hl 1 rfl) ?_
    refine x_callL hC hw (lv_size hl) hnl (c_J0_coder_7d493L l G (M := M) hnl hwb hwl) gJ5_inflateIfNeededFor_a7421_J0_coder_7d493 rfl dv_J0_coder_7d493 rfl (Nat.le_of_ble_eq_true rfl) (by rw [hRf]; decide) (by rw [hRl]; decide) (by first | (rw [hRc]; decide) | omega) (by first | (rw [hRs]; decide) | omega) dJ5_inflateIfNeededFor_a7421_11 (fun r9 M_2 H locs hq hw => ?_)
    obtain ⟨rfl, hM9⟩ := hq
    rw [hM9] at hw
    show W p l e R s m args below meth c H locs _ _ _ (F0 m 14 ls [.int (iN (0)), .int (iN (0))])
    refine x_icmp_eq (tgt := 21) hC ⟨by omega, by omega⟩ ⟨by omega, by omega⟩ dJ5_inflateIfNeededFor_a7421_14 (by decide) (fun c_3 => ?_) (fun c_3 => ?_)
    · exact x_vret hC hw dJ5_inflateIfNeededFor_a7421_21 (by first | decide | omega) (by first | decide | omega) (by first | exact ⟨rfl, rfl⟩ | (exfalso; omega))
    · exfalso; omega
set_option maxHeartbeats 4000000 in
set_option maxRecDepth 100000 in
theorem c_J0_getBytes_840e7L (l : Launch) (G : xG) {M : HM} {nl : Nat} {w : String × Nat × String × List Int32} (hnl : xLits[nl]? = some w) (hwb : bf (fun j => w.2.2.2.getD j 0)) (hwl : (w.2.2.2.length : Int) ≤ 18) {v cap : Nat} {f : Nat → Int32} (hm : M = va_up M v (some (.inl (G.2 0, cap, .inl f)))) (hb : bf f) {p0 : Int} (hp0 : 0 ≤ p0 ∧ p0 + (w.2.2.2.length : Int) ≤ cap) (hcp : cap ≤ 60000) : xMet l G yJ0_getBytes_840e7 wsJ0_getBytes_840e7 1 26 0 0 [.ref (G.2 (100 + 2 * nl)), .ref v, .int (iN (p0)), .int (iN (0))] M (fun r M1 => r = none ∧ ∃ f1, bf f1 ∧ M1 = va_up M v (some (.inl (G.2 0, cap, .inl f1)))) := by
  refine x_intro (cc := cJ0_getBytes_840e7) (maxL := 4) (ret := none) (by exact pln_RJ0) rfl (Nat.le_of_ble_eq_true rfl) ?_
  intro p e R s m args below meth c ls hRf hRc hRs hRl hC hw hl
  have hl : lv_has ls 4 [(0, .ref (G.2 (100 + 2 * nl))), (1, .ref v), (2, .int (iN (p0))), (3, .int (iN (0)))] := hl
  refine lv_aload_n hC.1 hC.2.1 dJ0_getBytes_840e7_0 rfl (lv_at hl 0 rfl) ?_
  refine x_callL hC hw (lv_size hl) hnl (c_J0_coder_7d493L l G (M := M) hnl hwb hwl) gJ0_getBytes_840e7_J0_coder_7d493 rfl dv_J0_coder_7d493 rfl (Nat.le_of_ble_eq_true rfl) (by rw [hRf]; decide) (by rw [hRl]; decide) (by first | (rw [hRc]; decide) | omega) (by first | (rw [hRs]; decide) | omega) dJ0_getBytes_840e7_1 (fun r9 M_1 H locs hq hw => ?_)
  obtain ⟨rfl, hM9⟩ := hq
  rw [hM9] at hw
  show W p l e R s m args below meth c H locs _ _ _ (F0 m 4 ls [.int (iN (0))])
  refine lv_iload_n hC.1 hC.2.1 dJ0_getBytes_840e7_4 rfl (lv_at hl 3 rfl) ?_
  refine x_icmp_ne (tgt := 28) hC ⟨by omega, by omega⟩ ⟨by omega, by omega⟩ dJ0_getBytes_840e7_5 (by decide) (fun c_2 => ?_) (fun c_2 => ?_)
  · exfalso; omega
  · refine lv_aload_n hC.1 hC.2.1 dJ0_getBytes_840e7_8 rfl (lv_at hl 0 rfl) ?_
    refine x_litV hC hw hnl (by decide +kernel) dJ0_getBytes_840e7_9 ?_
    refine x_const hC dJ0_getBytes_840e7_12 ?_
    refine lv_aload_n hC.1 hC.2.1 dJ0_getBytes_840e7_13 rfl (lv_at hl 1 rfl) ?_
    refine lv_iload_n hC.1 hC.2.1 dJ0_getBytes_840e7_14 rfl (lv_at hl 2 rfl) ?_
    refine lv_iload_n hC.1 hC.2.1 dJ0_getBytes_840e7_15 rfl (lv_at hl 3 rfl) ?_
    refine x_ishl0 hC dJ0_getBytes_840e7_16 ?_
    refine lv_aload_n hC.1 hC.2.1 dJ0_getBytes_840e7_17 rfl (lv_at hl 0 rfl) ?_
    refine x_litV hC hw hnl (by decide +kernel) dJ0_getBytes_840e7_18 ?_
    refine x_litN hC hw hnl dJ0_getBytes_840e7_21 ?_
    refine x_copyL hC hw (lv_size hl) (by decide +kernel) (by decide +kernel) (by decide +kernel) (by decide +kernel) hnl hwb (xup_s hm) (by omega) (by omega) (by omega) (by omega) (by omega) (by omega) (by omega) (by rw [hRf]; decide) (by rw [hRl]; exact Nat.le_of_ble_eq_true rfl) dJ0_getBytes_840e7_22 (fun H locs hw => ?_)
    obtain ⟨M_3, hM_4⟩ : ∃ z, z = va_up M v (some (.inl (G.2 0, cap, .inl (va_cpy (fun j => w.2.2.2.getD j 0) f (0 : Int).toNat (p0).toNat (w.2.2.2.length : Int).toNat)))) := ⟨_, rfl⟩
    rw [← hM_4] at hw
    have hm_5 := xup_2 hm hM_4
    have hb_6 : bf (va_cpy (fun j => w.2.2.2.getD j 0) f (0 : Int).toNat (p0).toNat (w.2.2.2.length : Int).toNat) := (bf_cpy hwb hb _ _ _)
    refine lv_goto (tgt := 43) hC.1 hC.2.1 dJ0_getBytes_840e7_25 (by decide) ?_
    exact x_vret hC hw dJ0_getBytes_840e7_43 (by first | decide | omega) (by first | decide | omega) ⟨rfl, _, hb_6, hm_5⟩
set_option maxHeartbeats 4000000 in
set_option maxRecDepth 100000 in
theorem c_J5_putStringAt_47b60 (l : Launch) (G : xG) {M : HM} {M0 : HM} {q v : Nat} {ml : Int32} {n : Int} {cap : Nat} {f : Nat → Int32} (hS : Sb G M0 M q v ml n cap f) {nl : Nat} {w : String × Nat × String × List Int32} (hnl : xLits[nl]? = some w) (hwb : bf (fun j => w.2.2.2.getD j 0)) (hwl : (w.2.2.2.length : Int) ≤ 18) {p0 : Int} (hp0 : 0 ≤ p0 ∧ p0 + (w.2.2.2.length : Int) ≤ cap) : xMet l G yJ5_putStringAt_47b60 wsJ5_putStringAt_47b60 2 49 0 0 [.ref q, .int (iN (p0)), .ref (G.2 (100 + 2 * nl))] M (fun r M1 => r = none ∧ ∃ f1, Sb G M0 M1 q v ml n cap f1) := by
  refine x_intro (cc := cJ5_putStringAt_47b60) (maxL := 3) (ret := none) (by exact pln_RJ5) rfl (Nat.le_of_ble_eq_true rfl) ?_
  intro p e R s m args below meth c ls hRf hRc hRs hRl hC hw hl
  have hSb := hS.2.2.2.2
  have hinJ4 : ∀ w ∈ wsJ40, w ∈ wsJ5_putStringAt_47b60 := fun w h => (List.mem_cons_of_mem _ (List.mem_append_left _ (List.mem_append_right _ h)))
  have hl : lv_has ls 3 [(0, .ref q), (1, .int (iN (p0))), (2, .ref (G.2 (100 + 2 * nl)))] := hl
  refine lv_aload_n hC.1 hC.2.1 dJ5_putStringAt_47b60_0 rfl (lv_at hl 0 rfl) ?_
  refine lv_aload_n hC.1 hC.2.1 dJ5_putStringAt_47b60_1 rfl (lv_at hl 2 rfl) ?_
  refine x_callU hC hw (lv_size hl) (c_J5_inflateIfNeededFor_a7421 l G hS hnl hwb hwl) gJ5_putStringAt_47b60_J5_inflateIfNeededFor_a7421_u397J4 rfl rfl du_J5_inflateIfNeededFor_a7421 hS.2.1 rfl rfl (Nat.le_of_ble_eq_true rfl) (by rw [hRf]; decide) (by rw [hRl]; decide) (by first | (rw [hRc]; decide) | omega) (by first | (rw [hRs]; decide) | omega) dJ5_putStringAt_47b60_2 (fun r9 M_1 H locs hq hw => ?_)
  obtain ⟨rfl, hM9⟩ := hq
  rw [hM9] at hw
  show W p l e R s m args below meth c H locs _ _ _ (F0 m 5 ls [])
  refine lv_aload_n hC.1 hC.2.1 dJ5_putStringAt_47b60_5 rfl (lv_at hl 2 rfl) ?_
  refine lv_aload_n hC.1 hC.2.1 dJ5_putStringAt_47b60_6 rfl (lv_at hl 0 rfl) ?_
  refine x_get hC hw hS.2.1 rfl hinJ4 0 (by decide) (List.mem_cons_of_mem _ (List.mem_append_left _ (List.mem_append_left _ (List.mem_append_left _ (List.mem_of_getElem? (i := 0) rfl))))) rfl dJ5_putStringAt_47b60_7 ?_
  refine lv_iload_n hC.1 hC.2.1 dJ5_putStringAt_47b60_10 rfl (lv_at hl 1 rfl) ?_
  refine lv_aload_n hC.1 hC.2.1 dJ5_putStringAt_47b60_11 rfl (lv_at hl 0 rfl) ?_
  refine x_get hC hw hS.2.1 rfl hinJ4 1 (by decide) (List.mem_cons_of_mem _ (List.mem_append_left _ (List.mem_append_left _ (List.mem_append_left _ (List.mem_of_getElem? (i := 1) rfl))))) rfl dJ5_putStringAt_47b60_12 ?_
  refine x_callL hC hw (lv_size hl) hnl (c_J0_getBytes_840e7L l G hnl hwb hwl (xup_i hS.2.2.1) hS.2.2.2.1 (p0 := p0) (by first | assumption | omega) (by omega)) gJ5_putStringAt_47b60_J0_getBytes_840e7 rfl dv_J0_getBytes_840e7 rfl (Nat.le_of_ble_eq_true rfl) (by rw [hRf]; decide) (by rw [hRl]; decide) (by first | (rw [hRc]; decide) | omega) (by first | (rw [hRs]; decide) | omega) dJ5_putStringAt_47b60_15 (fun r9 M_2 H locs hq hw => ?_)
  obtain ⟨rfl, fk_3, hbk_3, hMk_3⟩ := hq
  have hS_4 := hS.arr hMk_3 hbk_3
  show W p l e R s m args below meth c H locs _ _ _ (F0 m 18 ls [])
  exact x_vret hC hw dJ5_putStringAt_47b60_18 (by first | decide | omega) (by first | decide | omega) ⟨rfl, _, hS_4⟩
set_option maxHeartbeats 4000000 in
set_option maxRecDepth 100000 in
theorem c_J5_append_cf1ce (l : Launch) (G : xG) {M : HM} {M0 : HM} {q v : Nat} {ml : Int32} {n : Int} {cap : Nat} {f : Nat → Int32} (hS : Sb G M0 M q v ml n cap f) {nl : Nat} {w : String × Nat × String × List Int32} (hnl : xLits[nl]? = some w) (hwb : bf (fun j => w.2.2.2.getD j 0)) (hwl : (w.2.2.2.length : Int) ≤ 18) {mc ms : Nat} (hr : (n + (w.2.2.2.length : Int)) ≤ cap ∨ (1 ≤ mc ∧ 2 * cap + 2 ≤ ms)) (hcp : 16 ≤ (cap : Int) ∧ (cap : Int) ≤ 20000) : xMet l G yJ5_append_cf1ce wsJ5_append_cf1ce 4 91 mc ms [.ref q, .ref (G.2 (100 + 2 * nl))] M (fun r M1 => r = some (.ref q) ∧ ∃ (v1 cap1 : Nat) (f1 : Nat → Int32), Sb G M0 M1 q v1 ml ((n + (w.2.2.2.length : Int))) cap1 f1 ∧ (((n + (w.2.2.2.length : Int)) ≤ cap ∧ cap1 = cap) ∨ ((cap : Int) < (n + (w.2.2.2.length : Int)) ∧ cap1 = 2 * cap + 2))) := by
  refine x_intro (cc := cJ5_append_cf1ce) (maxL := 3) (ret := (some (.object "java/lang/AbstractStringBuilder"))) (by exact pln_RJ5) rfl (Nat.le_of_ble_eq_true rfl) ?_
  intro p e R s m args below meth c ls hRf hRc hRs hRl hC hw hl
  have hSb := hS.2.2.2.2
  have hinJ4 : ∀ w ∈ wsJ40, w ∈ wsJ5_append_cf1ce := fun w h => (List.mem_cons_of_mem _ (List.mem_append_left _ (List.mem_append_right _ h)))
  have hl : lv_has ls 3 [(0, .ref q), (1, .ref (G.2 (100 + 2 * nl)))] := hl
  refine lv_aload_n hC.1 hC.2.1 dJ5_append_cf1ce_0 rfl (lv_at hl 1 rfl) ?_
  refine lv_ifnonnull (tgt := 9) hC.1 hC.2.1 dJ5_append_cf1ce_1 (by decide) ?_
  refine lv_aload_n hC.1 hC.2.1 dJ5_append_cf1ce_9 rfl (lv_at hl 1 rfl) ?_
  refine x_callL hC hw (lv_size hl) hnl (c_J0_length_8abf5L l G (M := M) hnl hwb hwl) gJ5_append_cf1ce_J0_length_8abf5 rfl dv_J0_length_8abf5 rfl (Nat.le_of_ble_eq_true rfl) (by rw [hRf]; decide) (by rw [hRl]; decide) (by first | (rw [hRc]; decide) | omega) (by first | (rw [hRs]; decide) | omega) dJ5_append_cf1ce_10 (fun r9 M_1 H locs hq hw => ?_)
  obtain ⟨rfl, hM9⟩ := hq
  rw [hM9] at hw
  show W p l e R s m args below meth c H locs _ _ _ (F0 m 13 ls [.int (iN (w.2.2.2.length))])
  refine lv_istore_n (lv' := [(2, .int (iN (w.2.2.2.length))), (0, .ref q), (1, .ref (G.2 (100 + 2 * nl)))]) hC.1 hC.2.1 dJ5_append_cf1ce_13 rfl hl (by decide) rfl (fun ls hl => ?_)
  refine lv_aload_n hC.1 hC.2.1 dJ5_append_cf1ce_14 rfl (lv_at hl 1 rfl) ?_
  refine lv_aload_n hC.1 hC.2.1 dJ5_append_cf1ce_15 rfl (lv_at hl 1 rfl) ?_
  refine x_get hC hw hS.2.1 rfl hinJ4 3 (by decide) (List.mem_cons_of_mem _ (List.mem_append_left _ (List.mem_append_left _ (List.mem_append_left _ (List.mem_of_getElem? (i := 0) rfl))))) rfl dJ5_append_cf1ce_16 ?_
  refine lv_iload_n hC.1 hC.2.1 dJ5_append_cf1ce_19 rfl (lv_at hl 0 rfl) ?_
  refine x_iadd hC dJ5_append_cf1ce_20 ?_
  refine x_callU hC hw (lv_size hl) (c_J5_ensureCapacityInternal_d00df l G hS (p0 := n + w.2.2.2.length) (by omega) (mc := mc) (ms := ms) (by omega) (by omega)) gJ5_append_cf1ce_J5_ensureCapacityInternal_d00df_u100J4 rfl rfl du_J5_ensureCapacityInternal_d00df hS.2.1 rfl rfl (Nat.le_of_ble_eq_true rfl) (by rw [hRf]; decide) (by rw [hRl]; decide) (by first | (rw [hRc]; decide) | omega) (by first | (rw [hRs]; decide) | omega) dJ5_append_cf1ce_21 (fun r9 M_2 H locs hq hw => ?_)
  obtain ⟨rfl, vk_3, capk_3, fk_3, hSk_3, hck_3⟩ := hq
  have hSk_3 : Sb G M0 M_2 q vk_3 ml (n) capk_3 fk_3 := hSk_3
  have hbk_3 := hSk_3.2.2.2.2
  show W p l e R s m args below meth c H locs _ _ _ (F0 m 24 ls [])
  refine lv_aload_n hC.1 hC.2.1 dJ5_append_cf1ce_24 rfl (lv_at hl 1 rfl) ?_
  refine lv_aload_n hC.1 hC.2.1 dJ5_append_cf1ce_25 rfl (lv_at hl 1 rfl) ?_
  refine x_get hC hw hSk_3.2.1 rfl hinJ4 3 (by decide) (List.mem_cons_of_mem _ (List.mem_append_left _ (List.mem_append_left _ (List.mem_append_left _ (List.mem_of_getElem? (i := 0) rfl))))) rfl dJ5_append_cf1ce_26 ?_
  refine lv_aload_n hC.1 hC.2.1 dJ5_append_cf1ce_29 rfl (lv_at hl 2 rfl) ?_
  refine x_callU hC hw (lv_size hl) (c_J5_putStringAt_47b60 l G hSk_3 hnl hwb hwl (p0 := n) (by omega)) gJ5_append_cf1ce_J5_putStringAt_47b60_u208J4 rfl rfl du_J5_putStringAt_47b60 hSk_3.2.1 rfl rfl (Nat.le_of_ble_eq_true rfl) (by rw [hRf]; decide) (by rw [hRl]; decide) (by first | (rw [hRc]; decide) | omega) (by first | (rw [hRs]; decide) | omega) dJ5_append_cf1ce_30 (fun r9 M_4 H locs hq hw => ?_)
  obtain ⟨rfl, fk_5, hSk_5⟩ := hq
  show W p l e R s m args below meth c H locs _ _ _ (F0 m 33 ls [])
  refine lv_aload_n hC.1 hC.2.1 dJ5_append_cf1ce_33 rfl (lv_at hl 1 rfl) ?_
  refine lv_dup hC.1 hC.2.1 dJ5_append_cf1ce_34 rfl ?_
  refine x_get hC hw hSk_5.2.1 rfl hinJ4 3 (by decide) (List.mem_cons_of_mem _ (List.mem_append_left _ (List.mem_append_left _ (List.mem_append_left _ (List.mem_of_getElem? (i := 0) rfl))))) rfl dJ5_append_cf1ce_35 ?_
  refine lv_iload_n hC.1 hC.2.1 dJ5_append_cf1ce_38 rfl (lv_at hl 0 rfl) ?_
  refine x_iadd hC dJ5_append_cf1ce_39 ?_
  refine x_put (fs2 := [.ref vk_3, .int (iN (0)), .int ml, .int (iN (n + w.2.2.2.length))]) hC hw hSk_5.2.1 rfl hinJ4 tyJ4 tyJ4_ok nmJ4 3 (by decide) (List.mem_cons_of_mem _ (List.mem_append_left _ (List.mem_append_left _ (List.mem_append_left _ (List.mem_of_getElem? (i := 0) rfl))))) rfl rfl rfl (Nat.le_of_ble_eq_true rfl) rfl dJ5_append_cf1ce_40 (fun H locs hw => ?_)
  obtain ⟨M_6, hM_7⟩ : ∃ z, z = va_up M_4 q (some (.inr (1, [.ref vk_3, .int (iN (0)), .int ml, .int (iN (n + w.2.2.2.length))]))) := ⟨_, rfl⟩
  rw [← hM_7] at hw
  have hS_8 := hSk_5.obj (n2 := n + w.2.2.2.length) hM_7 (by omega)
  have hbhS_8 := hS_8.2.2.2.2
  refine lv_aload_n hC.1 hC.2.1 dJ5_append_cf1ce_43 rfl (lv_at hl 1 rfl) ?_
  exact x_aret hC hw (by first | exact Or.inl ⟨_, rfl⟩ | exact Or.inr ⟨_, rfl⟩) (Or.inr ⟨_, rfl⟩) dJ5_append_cf1ce_44 (by omega) (by omega) ⟨rfl, _, _, _, hS_8, by omega⟩
set_option maxHeartbeats 4000000 in
set_option maxRecDepth 100000 in
theorem c_J4_append_15ec4 (l : Launch) (G : xG) {M : HM} {M0 : HM} {q v : Nat} {ml : Int32} {n : Int} {cap : Nat} {f : Nat → Int32} (hS : Sb G M0 M q v ml n cap f) {nl : Nat} {w : String × Nat × String × List Int32} (hnl : xLits[nl]? = some w) (hwb : bf (fun j => w.2.2.2.getD j 0)) (hwl : (w.2.2.2.length : Int) ≤ 18) {mc ms : Nat} (hr : (n + (w.2.2.2.length : Int)) ≤ cap ∨ (1 ≤ mc ∧ 2 * cap + 2 ≤ ms)) (hcp : 16 ≤ (cap : Int) ∧ (cap : Int) ≤ 20000) : xMet l G yJ4_append_15ec4 wsJ4_append_15ec4 5 113 mc ms [.ref q, .ref (G.2 (100 + 2 * nl))] M (fun r M1 => r = some (.ref q) ∧ ∃ (v1 cap1 : Nat) (f1 : Nat → Int32), Sb G M0 M1 q v1 ml ((n + (w.2.2.2.length : Int))) cap1 f1 ∧ (((n + (w.2.2.2.length : Int)) ≤ cap ∧ cap1 = cap) ∨ ((cap : Int) < (n + (w.2.2.2.length : Int)) ∧ cap1 = 2 * cap + 2))) := by
  refine x_intro (cc := cJ4_append_15ec4) (maxL := 2) (ret := (some (.object "java/lang/StringBuilder"))) (by exact pln_RJ4) rfl (Nat.le_of_ble_eq_true rfl) ?_
  intro p e R s m args below meth c ls hRf hRc hRs hRl hC hw hl
  have hSb := hS.2.2.2.2
  have hl : lv_has ls 2 [(0, .ref q), (1, .ref (G.2 (100 + 2 * nl)))] := hl
  refine lv_aload_n hC.1 hC.2.1 dJ4_append_15ec4_0 rfl (lv_at hl 0 rfl) ?_
  refine lv_aload_n hC.1 hC.2.1 dJ4_append_15ec4_1 rfl (lv_at hl 1 rfl) ?_
  refine x_callSU (C := RJ4) (T := TJ4) (N := 4) hC hw (lv_size hl) (c_J5_append_cf1ce l G hS hnl hwb hwl (mc := mc) (ms := ms) (by omega) (by omega)) gJ4_append_15ec4_J5_append_cf1ce_s29 rfl ds_J5_append_cf1ce hS.2.1 rfl rfl (Nat.le_of_ble_eq_true rfl) (by rw [hRf]; decide) (by rw [hRl]; decide) (by first | (rw [hRc]; decide) | omega) (by first | (rw [hRs]; decide) | omega) dJ4_append_15ec4_2 (fun r9 M_1 H locs hq hw => ?_)
  obtain ⟨rfl, vk_2, capk_2, fk_2, hSk_2, hck_2⟩ := hq
  have hSk_2 : Sb G M0 M_1 q vk_2 ml (n + w.2.2.2.length) capk_2 fk_2 := hSk_2
  have hbk_2 := hSk_2.2.2.2.2
  show W p l e R s m args below meth c H locs _ _ _ (F0 m 5 ls [.ref q])
  refine lv_pop hC.1 hC.2.1 dJ4_append_15ec4_5 rfl ?_
  refine lv_aload_n hC.1 hC.2.1 dJ4_append_15ec4_6 rfl (lv_at hl 0 rfl) ?_
  exact x_aret hC hw (by first | exact Or.inl ⟨_, rfl⟩ | exact Or.inr ⟨_, rfl⟩) (Or.inr ⟨_, rfl⟩) dJ4_append_15ec4_7 (by omega) (by omega) ⟨rfl, _, _, _, hSk_2, by omega⟩
set_option maxHeartbeats 4000000 in
set_option maxRecDepth 100000 in
theorem c_J4_append_cf1ce (l : Launch) (G : xG) {M : HM} {M0 : HM} {q v : Nat} {ml : Int32} {n : Int} {cap : Nat} {f : Nat → Int32} (hS : Sb G M0 M q v ml n cap f) {nl : Nat} {w : String × Nat × String × List Int32} (hnl : xLits[nl]? = some w) (hwb : bf (fun j => w.2.2.2.getD j 0)) (hwl : (w.2.2.2.length : Int) ≤ 18) {mc ms : Nat} (hr : (n + (w.2.2.2.length : Int)) ≤ cap ∨ (1 ≤ mc ∧ 2 * cap + 2 ≤ ms)) (hcp : 16 ≤ (cap : Int) ∧ (cap : Int) ≤ 20000) : xMet l G yJ4_append_cf1ce wsJ4_append_cf1ce 6 134 mc ms [.ref q, .ref (G.2 (100 + 2 * nl))] M (fun r M1 => r = some (.ref q) ∧ ∃ (v1 cap1 : Nat) (f1 : Nat → Int32), Sb G M0 M1 q v1 ml ((n + (w.2.2.2.length : Int))) cap1 f1 ∧ (((n + (w.2.2.2.length : Int)) ≤ cap ∧ cap1 = cap) ∨ ((cap : Int) < (n + (w.2.2.2.length : Int)) ∧ cap1 = 2 * cap + 2))) := by
  refine x_intro (cc := cJ4_append_cf1ce) (maxL := 2) (ret := (some (.object "java/lang/AbstractStringBuilder"))) (by exact pln_RJ4) rfl (Nat.le_of_ble_eq_true rfl) ?_
  intro p e R s m args below meth c ls hRf hRc hRs hRl hC hw hl
  have hSb := hS.2.2.2.2
  have hl : lv_has ls 2 [(0, .ref q), (1, .ref (G.2 (100 + 2 * nl)))] := hl
  refine lv_aload_n hC.1 hC.2.1 dJ4_append_cf1ce_0 rfl (lv_at hl 0 rfl) ?_
  refine lv_aload_n hC.1 hC.2.1 dJ4_append_cf1ce_1 rfl (lv_at hl 1 rfl) ?_
  refine x_callV hC hw (lv_size hl) (c_J4_append_15ec4 l G hS hnl hwb hwl (mc := mc) (ms := ms) (by omega) (by omega)) gJ4_append_cf1ce_J4_append_15ec4 rfl dv_J4_append_15ec4 hS.2.1 rfl rfl (Nat.le_of_ble_eq_true rfl) (by rw [hRf]; decide) (by rw [hRl]; decide) (by first | (rw [hRc]; decide) | omega) (by first | (rw [hRs]; decide) | omega) dJ4_append_cf1ce_2 (fun r9 M_1 H locs hq hw => ?_)
  obtain ⟨rfl, vk_2, capk_2, fk_2, hSk_2, hck_2⟩ := hq
  have hSk_2 : Sb G M0 M_1 q vk_2 ml (n + w.2.2.2.length) capk_2 fk_2 := hSk_2
  have hbk_2 := hSk_2.2.2.2.2
  show W p l e R s m args below meth c H locs _ _ _ (F0 m 5 ls [.ref q])
  exact x_aret hC hw (by first | exact Or.inl ⟨_, rfl⟩ | exact Or.inr ⟨_, rfl⟩) (Or.inr ⟨_, rfl⟩) dJ4_append_cf1ce_5 (by omega) (by omega) ⟨rfl, _, _, _, hSk_2, by omega⟩
set_option maxHeartbeats 4000000 in
set_option maxRecDepth 100000 in
theorem c_J5_append_3fe6f (l : Launch) (G : xG) {M : HM} {M0 : HM} {q v : Nat} {ml : Int32} {n : Int} {cap : Nat} {f : Nat → Int32} (hS : Sb G M0 M q v ml n cap f) {p0 : Int} (hp0 : 0 ≤ p0 ∧ p0 ≤ 255) {mc ms : Nat} (hr : (n + 1) ≤ cap ∨ (1 ≤ mc ∧ 2 * cap + 2 ≤ ms)) (hcp : 16 ≤ (cap : Int) ∧ (cap : Int) ≤ 20000) : xMet l G yJ5_append_3fe6f wsJ5_append_3fe6f 4 91 mc ms [.ref q, .int (iN (p0))] M (fun r M1 => r = some (.ref q) ∧ ∃ (v1 cap1 : Nat) (f1 : Nat → Int32), Sb G M0 M1 q v1 ml (n + 1) cap1 f1 ∧ (((n + 1) ≤ cap ∧ cap1 = cap) ∨ ((cap : Int) < (n + 1) ∧ cap1 = 2 * cap + 2))) := by
  refine x_intro (cc := cJ5_append_3fe6f) (maxL := 2) (ret := (some (.object "java/lang/AbstractStringBuilder"))) (by exact pln_RJ5) rfl (Nat.le_of_ble_eq_true rfl) ?_
  intro p e R s m args below meth c ls hRf hRc hRs hRl hC hw hl
  have hSb := hS.2.2.2.2
  have hinJ4 : ∀ w ∈ wsJ40, w ∈ wsJ5_append_3fe6f := fun w h => (List.mem_cons_of_mem _ (List.mem_append_right _ h))
  have hl : lv_has ls 2 [(0, .ref q), (1, .int (iN (p0)))] := hl
  refine lv_aload_n hC.1 hC.2.1 dJ5_append_3fe6f_0 rfl (lv_at hl 0 rfl) ?_
  refine lv_aload_n hC.1 hC.2.1 dJ5_append_3fe6f_1 rfl (lv_at hl 0 rfl) ?_
  refine x_get hC hw hS.2.1 rfl hinJ4 3 (by decide) (List.mem_cons_of_mem _ (List.mem_append_left _ (List.mem_append_left _ (List.mem_of_getElem? (i := 0) rfl)))) rfl dJ5_append_3fe6f_2 ?_
  refine x_const hC dJ5_append_3fe6f_5 ?_
  refine x_iadd hC dJ5_append_3fe6f_6 ?_
  refine x_callU hC hw (lv_size hl) (c_J5_ensureCapacityInternal_d00df l G hS (p0 := n + 1) (by omega) (mc := mc) (ms := ms) (by omega) (by omega)) gJ5_append_3fe6f_J5_ensureCapacityInternal_d00df_u100J4 rfl rfl du_J5_ensureCapacityInternal_d00df hS.2.1 rfl rfl (Nat.le_of_ble_eq_true rfl) (by rw [hRf]; decide) (by rw [hRl]; decide) (by first | (rw [hRc]; decide) | omega) (by first | (rw [hRs]; decide) | omega) dJ5_append_3fe6f_7 (fun r9 M_1 H locs hq hw => ?_)
  obtain ⟨rfl, vk_2, capk_2, fk_2, hSk_2, hck_2⟩ := hq
  have hSk_2 : Sb G M0 M_1 q vk_2 ml (n) capk_2 fk_2 := hSk_2
  have hbk_2 := hSk_2.2.2.2.2
  show W p l e R s m args below meth c H locs _ _ _ (F0 m 10 ls [])
  refine lv_aload_n hC.1 hC.2.1 dJ5_append_3fe6f_10 rfl (lv_at hl 0 rfl) ?_
  refine x_callU hC hw (lv_size hl) (c_J5_isLatin1_aae02 l G hSk_2) gJ5_append_3fe6f_J5_isLatin1_aae02_u83J4 rfl rfl du_J5_isLatin1_aae02 hSk_2.2.1 rfl rfl (Nat.le_of_ble_eq_true rfl) (by rw [hRf]; decide) (by rw [hRl]; decide) (by first | (rw [hRc]; decide) | omega) (by first | (rw [hRs]; decide) | omega) dJ5_append_3fe6f_11 (fun r9 M_3 H locs hq hw => ?_)
  obtain ⟨rfl, hM9⟩ := hq
  rw [hM9] at hw
  show W p l e R s m args below meth c H locs _ _ _ (F0 m 14 ls [.int (iN (1))])
  refine x_if_eq (tgt := 45) hC ⟨by omega, by omega⟩ dJ5_append_3fe6f_14 (by decide) (fun c_4 => ?_) (fun c_4 => ?_)
  · exfalso; omega
  · refine lv_iload_n hC.1 hC.2.1 dJ5_append_3fe6f_17 rfl (lv_at hl 1 rfl) ?_
    refine x_callS hC hw (lv_size hl) (c_J1_canEncode_fc78d l G (M := M_1) (p0 := p0) (by first | assumption | omega)) gJ5_append_3fe6f_J1_canEncode_fc78d rfl dv_J1_canEncode_fc78d_s rfl (Nat.le_of_ble_eq_true rfl) (by rw [hRf]; decide) (by rw [hRl]; decide) (by first | (rw [hRc]; decide) | omega) (by first | (rw [hRs]; decide) | omega) dJ5_append_3fe6f_18 (fun r9 M_5 H locs hq hw => ?_)
    obtain ⟨rfl, hM9⟩ := hq
    rw [hM9] at hw
    show W p l e R s m args below meth c H locs _ _ _ (F0 m 21 ls [.int (iN (1))])
    refine x_if_eq (tgt := 45) hC ⟨by omega, by omega⟩ dJ5_append_3fe6f_21 (by decide) (fun c_6 => ?_) (fun c_6 => ?_)
    · exfalso; omega
    · refine lv_aload_n hC.1 hC.2.1 dJ5_append_3fe6f_24 rfl (lv_at hl 0 rfl) ?_
      refine x_get hC hw hSk_2.2.1 rfl hinJ4 0 (by decide) (List.mem_cons_of_mem _ (List.mem_append_left _ (List.mem_append_left _ (List.mem_of_getElem? (i := 1) rfl)))) rfl dJ5_append_3fe6f_25 ?_
      refine lv_aload_n hC.1 hC.2.1 dJ5_append_3fe6f_28 rfl (lv_at hl 0 rfl) ?_
      refine lv_dup hC.1 hC.2.1 dJ5_append_3fe6f_29 rfl ?_
      refine x_get hC hw hSk_2.2.1 rfl hinJ4 3 (by decide) (List.mem_cons_of_mem _ (List.mem_append_left _ (List.mem_append_left _ (List.mem_of_getElem? (i := 0) rfl)))) rfl dJ5_append_3fe6f_30 ?_
      refine lv_dup_x1 hC.1 hC.2.1 dJ5_append_3fe6f_33 rfl rfl ?_
      refine x_const hC dJ5_append_3fe6f_34 ?_
      refine x_iadd hC dJ5_append_3fe6f_35 ?_
      refine x_put (fs2 := [.ref vk_2, .int (iN (0)), .int ml, .int (iN (n + 1))]) hC hw hSk_2.2.1 rfl hinJ4 tyJ4 tyJ4_ok nmJ4 3 (by decide) (List.mem_cons_of_mem _ (List.mem_append_left _ (List.mem_append_left _ (List.mem_of_getElem? (i := 0) rfl)))) rfl rfl rfl (Nat.le_of_ble_eq_true rfl) rfl dJ5_append_3fe6f_36 (fun H locs hw => ?_)
      obtain ⟨M_7, hM_8⟩ : ∃ z, z = va_up M_1 q (some (.inr (1, [.ref vk_2, .int (iN (0)), .int ml, .int (iN (n + 1))]))) := ⟨_, rfl⟩
      rw [← hM_8] at hw
      have hS_9 := hSk_2.obj (n2 := n + 1) hM_8 (by omega)
      have hbhS_9 := hS_9.2.2.2.2
      refine lv_iload_n hC.1 hC.2.1 dJ5_append_3fe6f_39 rfl (lv_at hl 1 rfl) ?_
      refine x_i2b hC dJ5_append_3fe6f_40 (fun z_10 hrz_10 => ?_)
      refine x_bast hC hw hS_9.2.2.1 (by omega) (by omega) (by omega) dJ5_append_3fe6f_41 (fun H locs hw => ?_)
      obtain ⟨M_11, hM_12⟩ : ∃ z, z = va_up M_7 vk_2 (some (.inl (G.2 0, capk_2, .inl (upd fk_2 (n).toNat (vp_nar .byte (iN (z_10))))))) := ⟨_, rfl⟩
      rw [← hM_12] at hw
      have hS_13 := hS_9.arr hM_12 (bf_upd hS_9.2.2.2.1 (bf_nar _))
      refine lv_goto (tgt := 75) hC.1 hC.2.1 dJ5_append_3fe6f_42 (by decide) ?_
      refine lv_aload_n hC.1 hC.2.1 dJ5_append_3fe6f_75 rfl (lv_at hl 0 rfl) ?_
      exact x_aret hC hw (by first | exact Or.inl ⟨_, rfl⟩ | exact Or.inr ⟨_, rfl⟩) (Or.inr ⟨_, rfl⟩) dJ5_append_3fe6f_76 (by omega) (by omega) ⟨rfl, _, _, _, hS_13, by omega⟩
set_option maxHeartbeats 4000000 in
set_option maxRecDepth 100000 in
theorem c_J4_append_cf468 (l : Launch) (G : xG) {M : HM} {M0 : HM} {q v : Nat} {ml : Int32} {n : Int} {cap : Nat} {f : Nat → Int32} (hS : Sb G M0 M q v ml n cap f) {p0 : Int} (hp0 : 0 ≤ p0 ∧ p0 ≤ 255) {mc ms : Nat} (hr : (n + 1) ≤ cap ∨ (1 ≤ mc ∧ 2 * cap + 2 ≤ ms)) (hcp : 16 ≤ (cap : Int) ∧ (cap : Int) ≤ 20000) : xMet l G yJ4_append_cf468 wsJ4_append_cf468 5 112 mc ms [.ref q, .int (iN (p0))] M (fun r M1 => r = some (.ref q) ∧ ∃ (v1 cap1 : Nat) (f1 : Nat → Int32), Sb G M0 M1 q v1 ml (n + 1) cap1 f1 ∧ (((n + 1) ≤ cap ∧ cap1 = cap) ∨ ((cap : Int) < (n + 1) ∧ cap1 = 2 * cap + 2))) := by
  refine x_intro (cc := cJ4_append_cf468) (maxL := 2) (ret := (some (.object "java/lang/StringBuilder"))) (by exact pln_RJ4) rfl (Nat.le_of_ble_eq_true rfl) ?_
  intro p e R s m args below meth c ls hRf hRc hRs hRl hC hw hl
  have hSb := hS.2.2.2.2
  have hl : lv_has ls 2 [(0, .ref q), (1, .int (iN (p0)))] := hl
  refine lv_aload_n hC.1 hC.2.1 dJ4_append_cf468_0 rfl (lv_at hl 0 rfl) ?_
  refine lv_iload_n hC.1 hC.2.1 dJ4_append_cf468_1 rfl (lv_at hl 1 rfl) ?_
  refine x_callSU (C := RJ4) (T := TJ4) (N := 4) hC hw (lv_size hl) (c_J5_append_3fe6f l G hS (p0 := p0) (by first | assumption | omega) (mc := mc) (ms := ms) (by omega) (by omega)) gJ4_append_cf468_J5_append_3fe6f_s50 rfl ds_J5_append_3fe6f hS.2.1 rfl rfl (Nat.le_of_ble_eq_true rfl) (by rw [hRf]; decide) (by rw [hRl]; decide) (by first | (rw [hRc]; decide) | omega) (by first | (rw [hRs]; decide) | omega) dJ4_append_cf468_2 (fun r9 M_1 H locs hq hw => ?_)
  obtain ⟨rfl, vk_2, capk_2, fk_2, hSk_2, hck_2⟩ := hq
  have hSk_2 : Sb G M0 M_1 q vk_2 ml (n + 1) capk_2 fk_2 := hSk_2
  have hbk_2 := hSk_2.2.2.2.2
  show W p l e R s m args below meth c H locs _ _ _ (F0 m 5 ls [.ref q])
  refine lv_pop hC.1 hC.2.1 dJ4_append_cf468_5 rfl ?_
  refine lv_aload_n hC.1 hC.2.1 dJ4_append_cf468_6 rfl (lv_at hl 0 rfl) ?_
  exact x_aret hC hw (by first | exact Or.inl ⟨_, rfl⟩ | exact Or.inr ⟨_, rfl⟩) (Or.inr ⟨_, rfl⟩) dJ4_append_cf468_7 (by omega) (by omega) ⟨rfl, _, _, _, hSk_2, by omega⟩
set_option maxHeartbeats 4000000 in
set_option maxRecDepth 100000 in
theorem c_J6_stringSize_0f7a4 (l : Launch) (G : xG) {M : HM} {p0 : Int} (hp0 : -2147483648 ≤ p0 ∧ p0 ≤ 2147483647) : xMet l G yJ6_stringSize_0f7a4 wsJ6_stringSize_0f7a4 0 0 0 0 [.int (iN (p0))] M (fun r M1 => r = some (.int (iN (dgs p0))) ∧ M1 = M) := by
  refine x_intro (cc := cJ6_stringSize_0f7a4) (maxL := 4) (ret := (some .int)) (by exact pln_RJ6) rfl (Nat.le_of_ble_eq_true rfl) ?_
  intro p e R s m args below meth c ls hRf hRc hRs hRl hC hw hl
  have hl : lv_has ls 4 [(0, .int (iN (p0)))] := hl
  refine x_const hC dJ6_stringSize_0f7a4_0 ?_
  refine lv_istore_n (lv' := [(1, .int (iN (1))), (0, .int (iN (p0)))]) hC.1 hC.2.1 dJ6_stringSize_0f7a4_1 rfl hl (by decide) rfl (fun ls hl => ?_)
  refine lv_iload_n hC.1 hC.2.1 dJ6_stringSize_0f7a4_2 rfl (lv_at hl 1 rfl) ?_
  refine x_if_lt (tgt := 11) hC ⟨by omega, by omega⟩ dJ6_stringSize_0f7a4_3 (by decide) (fun c_1 => ?_) (fun c_1 => ?_)
  · refine x_bipush hC dJ6_stringSize_0f7a4_11 (by decide +kernel) ?_
    refine lv_istore_n (lv' := [(2, .int (iN ((-10)))), (1, .int (iN (1))), (0, .int (iN (p0)))]) hC.1 hC.2.1 dJ6_stringSize_0f7a4_13 rfl hl (by decide) rfl (fun ls hl => ?_)
    refine x_const hC dJ6_stringSize_0f7a4_14 ?_
    refine lv_istore_n (lv' := [(3, .int (iN (1))), (2, .int (iN ((-10)))), (1, .int (iN (1))), (0, .int (iN (p0)))]) hC.1 hC.2.1 dJ6_stringSize_0f7a4_15 rfl hl (by decide) rfl (fun ls hl => ?_)
    refine lv_iload_n hC.1 hC.2.1 dJ6_stringSize_0f7a4_16 rfl (lv_at hl 0 rfl) ?_
    refine x_bipush hC dJ6_stringSize_0f7a4_17 (by decide +kernel) ?_
    refine x_icmp_ge (tgt := 42) hC ⟨by omega, by omega⟩ ⟨by omega, by omega⟩ dJ6_stringSize_0f7a4_19 (by decide) (fun c_2 => absurd c_2 (by omega)) (fun c_2 => ?_)
    refine lv_iload_n hC.1 hC.2.1 dJ6_stringSize_0f7a4_22 rfl (lv_at hl 3 rfl) ?_
    refine lv_iload_n hC.1 hC.2.1 dJ6_stringSize_0f7a4_23 rfl (lv_at hl 1 rfl) ?_
    refine x_icmp_le (tgt := 31) hC ⟨by omega, by omega⟩ ⟨by omega, by omega⟩ dJ6_stringSize_0f7a4_24 (by decide) (fun c_3 => ?_) (fun c_3 => ?_)
    · refine x_bipush hC dJ6_stringSize_0f7a4_31 (by decide +kernel) ?_
      refine lv_iload_n hC.1 hC.2.1 dJ6_stringSize_0f7a4_33 rfl (lv_at hl 1 rfl) ?_
      refine x_imul hC dJ6_stringSize_0f7a4_34 ?_
      refine lv_istore_n (lv' := [(2, .int (iN (10 * (-10)))), (3, .int (iN (1))), (1, .int (iN (1))), (0, .int (iN (p0)))]) hC.1 hC.2.1 dJ6_stringSize_0f7a4_35 rfl hl (by decide) rfl (fun ls hl => ?_)
      refine x_iinc (lv' := [(3, .int (iN (1 + 1))), (2, .int (iN (10 * (-10)))), (1, .int (iN (1))), (0, .int (iN (p0)))]) hC dJ6_stringSize_0f7a4_36 hl (k := 1) rfl (by decide) rfl (fun ls hl => ?_)
      refine lv_goto (tgt := 16) hC.1 hC.2.1 dJ6_stringSize_0f7a4_39 (by decide) ?_
      refine lv_iload_n hC.1 hC.2.1 dJ6_stringSize_0f7a4_16 rfl (lv_at hl 0 rfl) ?_
      refine x_bipush hC dJ6_stringSize_0f7a4_17 (by decide +kernel) ?_
      refine x_icmp_ge (tgt := 42) hC ⟨by omega, by omega⟩ ⟨by omega, by omega⟩ dJ6_stringSize_0f7a4_19 (by decide) (fun c_4 => absurd c_4 (by omega)) (fun c_4 => ?_)
      refine lv_iload_n hC.1 hC.2.1 dJ6_stringSize_0f7a4_22 rfl (lv_at hl 3 rfl) ?_
      refine lv_iload_n hC.1 hC.2.1 dJ6_stringSize_0f7a4_23 rfl (lv_at hl 1 rfl) ?_
      refine x_icmp_le (tgt := 31) hC ⟨by omega, by omega⟩ ⟨by omega, by omega⟩ dJ6_stringSize_0f7a4_24 (by decide) (fun c_5 => ?_) (fun c_5 => ?_)
      · refine x_bipush hC dJ6_stringSize_0f7a4_31 (by decide +kernel) ?_
        refine lv_iload_n hC.1 hC.2.1 dJ6_stringSize_0f7a4_33 rfl (lv_at hl 1 rfl) ?_
        refine x_imul hC dJ6_stringSize_0f7a4_34 ?_
        refine lv_istore_n (lv' := [(2, .int (iN (10 * (10 * (-10))))), (3, .int (iN (1 + 1))), (1, .int (iN (1))), (0, .int (iN (p0)))]) hC.1 hC.2.1 dJ6_stringSize_0f7a4_35 rfl hl (by decide) rfl (fun ls hl => ?_)
        refine x_iinc (lv' := [(3, .int (iN ((1 + 1) + 1))), (2, .int (iN (10 * (10 * (-10))))), (1, .int (iN (1))), (0, .int (iN (p0)))]) hC dJ6_stringSize_0f7a4_36 hl (k := 1) rfl (by decide) rfl (fun ls hl => ?_)
        refine lv_goto (tgt := 16) hC.1 hC.2.1 dJ6_stringSize_0f7a4_39 (by decide) ?_
        refine lv_iload_n hC.1 hC.2.1 dJ6_stringSize_0f7a4_16 rfl (lv_at hl 0 rfl) ?_
        refine x_bipush hC dJ6_stringSize_0f7a4_17 (by decide +kernel) ?_
        refine x_icmp_ge (tgt := 42) hC ⟨by omega, by omega⟩ ⟨by omega, by omega⟩ dJ6_stringSize_0f7a4_19 (by decide) (fun c_6 => absurd c_6 (by omega)) (fun c_6 => ?_)
        refine lv_iload_n hC.1 hC.2.1 dJ6_stringSize_0f7a4_22 rfl (lv_at hl 3 rfl) ?_
        refine lv_iload_n hC.1 hC.2.1 dJ6_stringSize_0f7a4_23 rfl (lv_at hl 1 rfl) ?_
        refine x_icmp_le (tgt := 31) hC ⟨by omega, by omega⟩ ⟨by omega, by omega⟩ dJ6_stringSize_0f7a4_24 (by decide) (fun c_7 => ?_) (fun c_7 => ?_)
        · refine x_bipush hC dJ6_stringSize_0f7a4_31 (by decide +kernel) ?_
          refine lv_iload_n hC.1 hC.2.1 dJ6_stringSize_0f7a4_33 rfl (lv_at hl 1 rfl) ?_
          refine x_imul hC dJ6_stringSize_0f7a4_34 ?_
          refine lv_istore_n (lv' := [(2, .int (iN (10 * (10 * (10 * (-10)))))), (3, .int (iN ((1 + 1) + 1))), (1, .int (iN (1))), (0, .int (iN (p0)))]) hC.1 hC.2.1 dJ6_stringSize_0f7a4_35 rfl hl (by decide) rfl (fun ls hl => ?_)
          refine x_iinc (lv' := [(3, .int (iN (((1 + 1) + 1) + 1))), (2, .int (iN (10 * (10 * (10 * (-10)))))), (1, .int (iN (1))), (0, .int (iN (p0)))]) hC dJ6_stringSize_0f7a4_36 hl (k := 1) rfl (by decide) rfl (fun ls hl => ?_)
          refine lv_goto (tgt := 16) hC.1 hC.2.1 dJ6_stringSize_0f7a4_39 (by decide) ?_
          refine lv_iload_n hC.1 hC.2.1 dJ6_stringSize_0f7a4_16 rfl (lv_at hl 0 rfl) ?_
          refine x_bipush hC dJ6_stringSize_0f7a4_17 (by decide +kernel) ?_
          refine x_icmp_ge (tgt := 42) hC ⟨by omega, by omega⟩ ⟨by omega, by omega⟩ dJ6_stringSize_0f7a4_19 (by decide) (fun c_8 => absurd c_8 (by omega)) (fun c_8 => ?_)
          refine lv_iload_n hC.1 hC.2.1 dJ6_stringSize_0f7a4_22 rfl (lv_at hl 3 rfl) ?_
          refine lv_iload_n hC.1 hC.2.1 dJ6_stringSize_0f7a4_23 rfl (lv_at hl 1 rfl) ?_
          refine x_icmp_le (tgt := 31) hC ⟨by omega, by omega⟩ ⟨by omega, by omega⟩ dJ6_stringSize_0f7a4_24 (by decide) (fun c_9 => ?_) (fun c_9 => ?_)
          · refine x_bipush hC dJ6_stringSize_0f7a4_31 (by decide +kernel) ?_
            refine lv_iload_n hC.1 hC.2.1 dJ6_stringSize_0f7a4_33 rfl (lv_at hl 1 rfl) ?_
            refine x_imul hC dJ6_stringSize_0f7a4_34 ?_
            refine lv_istore_n (lv' := [(2, .int (iN (10 * (10 * (10 * (10 * (-10))))))), (3, .int (iN (((1 + 1) + 1) + 1))), (1, .int (iN (1))), (0, .int (iN (p0)))]) hC.1 hC.2.1 dJ6_stringSize_0f7a4_35 rfl hl (by decide) rfl (fun ls hl => ?_)
            refine x_iinc (lv' := [(3, .int (iN ((((1 + 1) + 1) + 1) + 1))), (2, .int (iN (10 * (10 * (10 * (10 * (-10))))))), (1, .int (iN (1))), (0, .int (iN (p0)))]) hC dJ6_stringSize_0f7a4_36 hl (k := 1) rfl (by decide) rfl (fun ls hl => ?_)
            refine lv_goto (tgt := 16) hC.1 hC.2.1 dJ6_stringSize_0f7a4_39 (by decide) ?_
            refine lv_iload_n hC.1 hC.2.1 dJ6_stringSize_0f7a4_16 rfl (lv_at hl 0 rfl) ?_
            refine x_bipush hC dJ6_stringSize_0f7a4_17 (by decide +kernel) ?_
            refine x_icmp_ge (tgt := 42) hC ⟨by omega, by omega⟩ ⟨by omega, by omega⟩ dJ6_stringSize_0f7a4_19 (by decide) (fun c_10 => absurd c_10 (by omega)) (fun c_10 => ?_)
            refine lv_iload_n hC.1 hC.2.1 dJ6_stringSize_0f7a4_22 rfl (lv_at hl 3 rfl) ?_
            refine lv_iload_n hC.1 hC.2.1 dJ6_stringSize_0f7a4_23 rfl (lv_at hl 1 rfl) ?_
            refine x_icmp_le (tgt := 31) hC ⟨by omega, by omega⟩ ⟨by omega, by omega⟩ dJ6_stringSize_0f7a4_24 (by decide) (fun c_11 => ?_) (fun c_11 => ?_)
            · refine x_bipush hC dJ6_stringSize_0f7a4_31 (by decide +kernel) ?_
              refine lv_iload_n hC.1 hC.2.1 dJ6_stringSize_0f7a4_33 rfl (lv_at hl 1 rfl) ?_
              refine x_imul hC dJ6_stringSize_0f7a4_34 ?_
              refine lv_istore_n (lv' := [(2, .int (iN (10 * (10 * (10 * (10 * (10 * (-10)))))))), (3, .int (iN ((((1 + 1) + 1) + 1) + 1))), (1, .int (iN (1))), (0, .int (iN (p0)))]) hC.1 hC.2.1 dJ6_stringSize_0f7a4_35 rfl hl (by decide) rfl (fun ls hl => ?_)
              refine x_iinc (lv' := [(3, .int (iN (((((1 + 1) + 1) + 1) + 1) + 1))), (2, .int (iN (10 * (10 * (10 * (10 * (10 * (-10)))))))), (1, .int (iN (1))), (0, .int (iN (p0)))]) hC dJ6_stringSize_0f7a4_36 hl (k := 1) rfl (by decide) rfl (fun ls hl => ?_)
              refine lv_goto (tgt := 16) hC.1 hC.2.1 dJ6_stringSize_0f7a4_39 (by decide) ?_
              refine lv_iload_n hC.1 hC.2.1 dJ6_stringSize_0f7a4_16 rfl (lv_at hl 0 rfl) ?_
              refine x_bipush hC dJ6_stringSize_0f7a4_17 (by decide +kernel) ?_
              refine x_icmp_ge (tgt := 42) hC ⟨by omega, by omega⟩ ⟨by omega, by omega⟩ dJ6_stringSize_0f7a4_19 (by decide) (fun c_12 => absurd c_12 (by omega)) (fun c_12 => ?_)
              refine lv_iload_n hC.1 hC.2.1 dJ6_stringSize_0f7a4_22 rfl (lv_at hl 3 rfl) ?_
              refine lv_iload_n hC.1 hC.2.1 dJ6_stringSize_0f7a4_23 rfl (lv_at hl 1 rfl) ?_
              refine x_icmp_le (tgt := 31) hC ⟨by omega, by omega⟩ ⟨by omega, by omega⟩ dJ6_stringSize_0f7a4_24 (by decide) (fun c_13 => ?_) (fun c_13 => ?_)
              · refine x_bipush hC dJ6_stringSize_0f7a4_31 (by decide +kernel) ?_
                refine lv_iload_n hC.1 hC.2.1 dJ6_stringSize_0f7a4_33 rfl (lv_at hl 1 rfl) ?_
                refine x_imul hC dJ6_stringSize_0f7a4_34 ?_
                refine lv_istore_n (lv' := [(2, .int (iN (10 * (10 * (10 * (10 * (10 * (10 * (-10))))))))), (3, .int (iN (((((1 + 1) + 1) + 1) + 1) + 1))), (1, .int (iN (1))), (0, .int (iN (p0)))]) hC.1 hC.2.1 dJ6_stringSize_0f7a4_35 rfl hl (by decide) rfl (fun ls hl => ?_)
                refine x_iinc (lv' := [(3, .int (iN ((((((1 + 1) + 1) + 1) + 1) + 1) + 1))), (2, .int (iN (10 * (10 * (10 * (10 * (10 * (10 * (-10))))))))), (1, .int (iN (1))), (0, .int (iN (p0)))]) hC dJ6_stringSize_0f7a4_36 hl (k := 1) rfl (by decide) rfl (fun ls hl => ?_)
                refine lv_goto (tgt := 16) hC.1 hC.2.1 dJ6_stringSize_0f7a4_39 (by decide) ?_
                refine lv_iload_n hC.1 hC.2.1 dJ6_stringSize_0f7a4_16 rfl (lv_at hl 0 rfl) ?_
                refine x_bipush hC dJ6_stringSize_0f7a4_17 (by decide +kernel) ?_
                refine x_icmp_ge (tgt := 42) hC ⟨by omega, by omega⟩ ⟨by omega, by omega⟩ dJ6_stringSize_0f7a4_19 (by decide) (fun c_14 => absurd c_14 (by omega)) (fun c_14 => ?_)
                refine lv_iload_n hC.1 hC.2.1 dJ6_stringSize_0f7a4_22 rfl (lv_at hl 3 rfl) ?_
                refine lv_iload_n hC.1 hC.2.1 dJ6_stringSize_0f7a4_23 rfl (lv_at hl 1 rfl) ?_
                refine x_icmp_le (tgt := 31) hC ⟨by omega, by omega⟩ ⟨by omega, by omega⟩ dJ6_stringSize_0f7a4_24 (by decide) (fun c_15 => ?_) (fun c_15 => ?_)
                · refine x_bipush hC dJ6_stringSize_0f7a4_31 (by decide +kernel) ?_
                  refine lv_iload_n hC.1 hC.2.1 dJ6_stringSize_0f7a4_33 rfl (lv_at hl 1 rfl) ?_
                  refine x_imul hC dJ6_stringSize_0f7a4_34 ?_
                  refine lv_istore_n (lv' := [(2, .int (iN (10 * (10 * (10 * (10 * (10 * (10 * (10 * (-10)))))))))), (3, .int (iN ((((((1 + 1) + 1) + 1) + 1) + 1) + 1))), (1, .int (iN (1))), (0, .int (iN (p0)))]) hC.1 hC.2.1 dJ6_stringSize_0f7a4_35 rfl hl (by decide) rfl (fun ls hl => ?_)
                  refine x_iinc (lv' := [(3, .int (iN (((((((1 + 1) + 1) + 1) + 1) + 1) + 1) + 1))), (2, .int (iN (10 * (10 * (10 * (10 * (10 * (10 * (10 * (-10)))))))))), (1, .int (iN (1))), (0, .int (iN (p0)))]) hC dJ6_stringSize_0f7a4_36 hl (k := 1) rfl (by decide) rfl (fun ls hl => ?_)
                  refine lv_goto (tgt := 16) hC.1 hC.2.1 dJ6_stringSize_0f7a4_39 (by decide) ?_
                  refine lv_iload_n hC.1 hC.2.1 dJ6_stringSize_0f7a4_16 rfl (lv_at hl 0 rfl) ?_
                  refine x_bipush hC dJ6_stringSize_0f7a4_17 (by decide +kernel) ?_
                  refine x_icmp_ge (tgt := 42) hC ⟨by omega, by omega⟩ ⟨by omega, by omega⟩ dJ6_stringSize_0f7a4_19 (by decide) (fun c_16 => absurd c_16 (by omega)) (fun c_16 => ?_)
                  refine lv_iload_n hC.1 hC.2.1 dJ6_stringSize_0f7a4_22 rfl (lv_at hl 3 rfl) ?_
                  refine lv_iload_n hC.1 hC.2.1 dJ6_stringSize_0f7a4_23 rfl (lv_at hl 1 rfl) ?_
                  refine x_icmp_le (tgt := 31) hC ⟨by omega, by omega⟩ ⟨by omega, by omega⟩ dJ6_stringSize_0f7a4_24 (by decide) (fun c_17 => ?_) (fun c_17 => ?_)
                  · refine x_bipush hC dJ6_stringSize_0f7a4_31 (by decide +kernel) ?_
                    refine lv_iload_n hC.1 hC.2.1 dJ6_stringSize_0f7a4_33 rfl (lv_at hl 1 rfl) ?_
                    refine x_imul hC dJ6_stringSize_0f7a4_34 ?_
                    refine lv_istore_n (lv' := [(2, .int (iN (10 * (10 * (10 * (10 * (10 * (10 * (10 * (10 * (-10))))))))))), (3, .int (iN (((((((1 + 1) + 1) + 1) + 1) + 1) + 1) + 1))), (1, .int (iN (1))), (0, .int (iN (p0)))]) hC.1 hC.2.1 dJ6_stringSize_0f7a4_35 rfl hl (by decide) rfl (fun ls hl => ?_)
                    refine x_iinc (lv' := [(3, .int (iN ((((((((1 + 1) + 1) + 1) + 1) + 1) + 1) + 1) + 1))), (2, .int (iN (10 * (10 * (10 * (10 * (10 * (10 * (10 * (10 * (-10))))))))))), (1, .int (iN (1))), (0, .int (iN (p0)))]) hC dJ6_stringSize_0f7a4_36 hl (k := 1) rfl (by decide) rfl (fun ls hl => ?_)
                    refine lv_goto (tgt := 16) hC.1 hC.2.1 dJ6_stringSize_0f7a4_39 (by decide) ?_
                    refine lv_iload_n hC.1 hC.2.1 dJ6_stringSize_0f7a4_16 rfl (lv_at hl 0 rfl) ?_
                    refine x_bipush hC dJ6_stringSize_0f7a4_17 (by decide +kernel) ?_
                    refine x_icmp_ge (tgt := 42) hC ⟨by omega, by omega⟩ ⟨by omega, by omega⟩ dJ6_stringSize_0f7a4_19 (by decide) (fun c_18 => absurd c_18 (by omega)) (fun c_18 => ?_)
                    refine lv_iload_n hC.1 hC.2.1 dJ6_stringSize_0f7a4_22 rfl (lv_at hl 3 rfl) ?_
                    refine lv_iload_n hC.1 hC.2.1 dJ6_stringSize_0f7a4_23 rfl (lv_at hl 1 rfl) ?_
                    refine x_icmp_le (tgt := 31) hC ⟨by omega, by omega⟩ ⟨by omega, by omega⟩ dJ6_stringSize_0f7a4_24 (by decide) (fun c_19 => ?_) (fun c_19 => ?_)
                    · refine x_bipush hC dJ6_stringSize_0f7a4_31 (by decide +kernel) ?_
                      refine lv_iload_n hC.1 hC.2.1 dJ6_stringSize_0f7a4_33 rfl (lv_at hl 1 rfl) ?_
                      refine x_imul hC dJ6_stringSize_0f7a4_34 ?_
                      refine lv_istore_n (lv' := [(2, .int (iN (10 * (10 * (10 * (10 * (10 * (10 * (10 * (10 * (10 * (-10)))))))))))), (3, .int (iN ((((((((1 + 1) + 1) + 1) + 1) + 1) + 1) + 1) + 1))), (1, .int (iN (1))), (0, .int (iN (p0)))]) hC.1 hC.2.1 dJ6_stringSize_0f7a4_35 rfl hl (by decide) rfl (fun ls hl => ?_)
                      refine x_iinc (lv' := [(3, .int (iN (((((((((1 + 1) + 1) + 1) + 1) + 1) + 1) + 1) + 1) + 1))), (2, .int (iN (10 * (10 * (10 * (10 * (10 * (10 * (10 * (10 * (10 * (-10)))))))))))), (1, .int (iN (1))), (0, .int (iN (p0)))]) hC dJ6_stringSize_0f7a4_36 hl (k := 1) rfl (by decide) rfl (fun ls hl => ?_)
                      refine lv_goto (tgt := 16) hC.1 hC.2.1 dJ6_stringSize_0f7a4_39 (by decide) ?_
                      refine lv_iload_n hC.1 hC.2.1 dJ6_stringSize_0f7a4_16 rfl (lv_at hl 0 rfl) ?_
                      refine x_bipush hC dJ6_stringSize_0f7a4_17 (by decide +kernel) ?_
                      refine x_icmp_ge (tgt := 42) hC ⟨by omega, by omega⟩ ⟨by omega, by omega⟩ dJ6_stringSize_0f7a4_19 (by decide) (fun c_20 => ?_) (fun c_20 => absurd c_20 (by omega))
                      refine x_bipush hC dJ6_stringSize_0f7a4_42 (by decide +kernel) ?_
                      refine lv_iload_n hC.1 hC.2.1 dJ6_stringSize_0f7a4_44 rfl (lv_at hl 2 rfl) ?_
                      refine x_iadd hC dJ6_stringSize_0f7a4_45 ?_
                      exact x_iret hC hw dJ6_stringSize_0f7a4_46 (by first | decide | omega) (by first | decide | omega) ⟨by rw [show (10 + 1 : Int) = dgs p0 by unfold dgs; (rw [if_pos (show p0 < 0 by omega), if_neg (show ¬ p0.natAbs ≤ 9 by omega), if_neg (show ¬ p0.natAbs ≤ 99 by omega), if_neg (show ¬ p0.natAbs ≤ 999 by omega), if_neg (show ¬ p0.natAbs ≤ 9999 by omega), if_neg (show ¬ p0.natAbs ≤ 99999 by omega), if_neg (show ¬ p0.natAbs ≤ 999999 by omega), if_neg (show ¬ p0.natAbs ≤ 9999999 by omega), if_neg (show ¬ p0.natAbs ≤ 99999999 by omega), if_neg (show ¬ p0.natAbs ≤ 999999999 by omega)] <;> rfl)], rfl⟩
                    · refine lv_iload_n hC.1 hC.2.1 dJ6_stringSize_0f7a4_27 rfl (lv_at hl 0 rfl) ?_
                      refine lv_iload_n hC.1 hC.2.1 dJ6_stringSize_0f7a4_28 rfl (lv_at hl 2 rfl) ?_
                      refine x_iadd hC dJ6_stringSize_0f7a4_29 ?_
                      exact x_iret hC hw dJ6_stringSize_0f7a4_30 (by first | decide | omega) (by first | decide | omega) ⟨by rw [show (((((((((1 + 1) + 1) + 1) + 1) + 1) + 1) + 1) + 1) + 1 : Int) = dgs p0 by unfold dgs; (rw [if_pos (show p0 < 0 by omega), if_neg (show ¬ p0.natAbs ≤ 9 by omega), if_neg (show ¬ p0.natAbs ≤ 99 by omega), if_neg (show ¬ p0.natAbs ≤ 999 by omega), if_neg (show ¬ p0.natAbs ≤ 9999 by omega), if_neg (show ¬ p0.natAbs ≤ 99999 by omega), if_neg (show ¬ p0.natAbs ≤ 999999 by omega), if_neg (show ¬ p0.natAbs ≤ 9999999 by omega), if_neg (show ¬ p0.natAbs ≤ 99999999 by omega), if_pos (show p0.natAbs ≤ 999999999 by omega)] <;> rfl)], rfl⟩
                  · refine lv_iload_n hC.1 hC.2.1 dJ6_stringSize_0f7a4_27 rfl (lv_at hl 0 rfl) ?_
                    refine lv_iload_n hC.1 hC.2.1 dJ6_stringSize_0f7a4_28 rfl (lv_at hl 2 rfl) ?_
                    refine x_iadd hC dJ6_stringSize_0f7a4_29 ?_
                    exact x_iret hC hw dJ6_stringSize_0f7a4_30 (by first | decide | omega) (by first | decide | omega) ⟨by rw [show ((((((((1 + 1) + 1) + 1) + 1) + 1) + 1) + 1) + 1 : Int) = dgs p0 by unfold dgs; (rw [if_pos (show p0 < 0 by omega), if_neg (show ¬ p0.natAbs ≤ 9 by omega), if_neg (show ¬ p0.natAbs ≤ 99 by omega), if_neg (show ¬ p0.natAbs ≤ 999 by omega), if_neg (show ¬ p0.natAbs ≤ 9999 by omega), if_neg (show ¬ p0.natAbs ≤ 99999 by omega), if_neg (show ¬ p0.natAbs ≤ 999999 by omega), if_neg (show ¬ p0.natAbs ≤ 9999999 by omega), if_pos (show p0.natAbs ≤ 99999999 by omega)] <;> rfl)], rfl⟩
                · refine lv_iload_n hC.1 hC.2.1 dJ6_stringSize_0f7a4_27 rfl (lv_at hl 0 rfl) ?_
                  refine lv_iload_n hC.1 hC.2.1 dJ6_stringSize_0f7a4_28 rfl (lv_at hl 2 rfl) ?_
                  refine x_iadd hC dJ6_stringSize_0f7a4_29 ?_
                  exact x_iret hC hw dJ6_stringSize_0f7a4_30 (by first | decide | omega) (by first | decide | omega) ⟨by rw [show (((((((1 + 1) + 1) + 1) + 1) + 1) + 1) + 1 : Int) = dgs p0 by unfold dgs; (rw [if_pos (show p0 < 0 by omega), if_neg (show ¬ p0.natAbs ≤ 9 by omega), if_neg (show ¬ p0.natAbs ≤ 99 by omega), if_neg (show ¬ p0.natAbs ≤ 999 by omega), if_neg (show ¬ p0.natAbs ≤ 9999 by omega), if_neg (show ¬ p0.natAbs ≤ 99999 by omega), if_neg (show ¬ p0.natAbs ≤ 999999 by omega), if_pos (show p0.natAbs ≤ 9999999 by omega)] <;> rfl)], rfl⟩
              · refine lv_iload_n hC.1 hC.2.1 dJ6_stringSize_0f7a4_27 rfl (lv_at hl 0 rfl) ?_
                refine lv_iload_n hC.1 hC.2.1 dJ6_stringSize_0f7a4_28 rfl (lv_at hl 2 rfl) ?_
                refine x_iadd hC dJ6_stringSize_0f7a4_29 ?_
                exact x_iret hC hw dJ6_stringSize_0f7a4_30 (by first | decide | omega) (by first | decide | omega) ⟨by rw [show ((((((1 + 1) + 1) + 1) + 1) + 1) + 1 : Int) = dgs p0 by unfold dgs; (rw [if_pos (show p0 < 0 by omega), if_neg (show ¬ p0.natAbs ≤ 9 by omega), if_neg (show ¬ p0.natAbs ≤ 99 by omega), if_neg (show ¬ p0.natAbs ≤ 999 by omega), if_neg (show ¬ p0.natAbs ≤ 9999 by omega), if_neg (show ¬ p0.natAbs ≤ 99999 by omega), if_pos (show p0.natAbs ≤ 999999 by omega)] <;> rfl)], rfl⟩
            · refine lv_iload_n hC.1 hC.2.1 dJ6_stringSize_0f7a4_27 rfl (lv_at hl 0 rfl) ?_
              refine lv_iload_n hC.1 hC.2.1 dJ6_stringSize_0f7a4_28 rfl (lv_at hl 2 rfl) ?_
              refine x_iadd hC dJ6_stringSize_0f7a4_29 ?_
              exact x_iret hC hw dJ6_stringSize_0f7a4_30 (by first | decide | omega) (by first | decide | omega) ⟨by rw [show (((((1 + 1) + 1) + 1) + 1) + 1 : Int) = dgs p0 by unfold dgs; (rw [if_pos (show p0 < 0 by omega), if_neg (show ¬ p0.natAbs ≤ 9 by omega), if_neg (show ¬ p0.natAbs ≤ 99 by omega), if_neg (show ¬ p0.natAbs ≤ 999 by omega), if_neg (show ¬ p0.natAbs ≤ 9999 by omega), if_pos (show p0.natAbs ≤ 99999 by omega)] <;> rfl)], rfl⟩
          · refine lv_iload_n hC.1 hC.2.1 dJ6_stringSize_0f7a4_27 rfl (lv_at hl 0 rfl) ?_
            refine lv_iload_n hC.1 hC.2.1 dJ6_stringSize_0f7a4_28 rfl (lv_at hl 2 rfl) ?_
            refine x_iadd hC dJ6_stringSize_0f7a4_29 ?_
            exact x_iret hC hw dJ6_stringSize_0f7a4_30 (by first | decide | omega) (by first | decide | omega) ⟨by rw [show ((((1 + 1) + 1) + 1) + 1 : Int) = dgs p0 by unfold dgs; (rw [if_pos (show p0 < 0 by omega), if_neg (show ¬ p0.natAbs ≤ 9 by omega), if_neg (show ¬ p0.natAbs ≤ 99 by omega), if_neg (show ¬ p0.natAbs ≤ 999 by omega), if_pos (show p0.natAbs ≤ 9999 by omega)] <;> rfl)], rfl⟩
        · refine lv_iload_n hC.1 hC.2.1 dJ6_stringSize_0f7a4_27 rfl (lv_at hl 0 rfl) ?_
          refine lv_iload_n hC.1 hC.2.1 dJ6_stringSize_0f7a4_28 rfl (lv_at hl 2 rfl) ?_
          refine x_iadd hC dJ6_stringSize_0f7a4_29 ?_
          exact x_iret hC hw dJ6_stringSize_0f7a4_30 (by first | decide | omega) (by first | decide | omega) ⟨by rw [show (((1 + 1) + 1) + 1 : Int) = dgs p0 by unfold dgs; (rw [if_pos (show p0 < 0 by omega), if_neg (show ¬ p0.natAbs ≤ 9 by omega), if_neg (show ¬ p0.natAbs ≤ 99 by omega), if_pos (show p0.natAbs ≤ 999 by omega)] <;> rfl)], rfl⟩
      · refine lv_iload_n hC.1 hC.2.1 dJ6_stringSize_0f7a4_27 rfl (lv_at hl 0 rfl) ?_
        refine lv_iload_n hC.1 hC.2.1 dJ6_stringSize_0f7a4_28 rfl (lv_at hl 2 rfl) ?_
        refine x_iadd hC dJ6_stringSize_0f7a4_29 ?_
        exact x_iret hC hw dJ6_stringSize_0f7a4_30 (by first | decide | omega) (by first | decide | omega) ⟨by rw [show ((1 + 1) + 1 : Int) = dgs p0 by unfold dgs; (rw [if_pos (show p0 < 0 by omega), if_neg (show ¬ p0.natAbs ≤ 9 by omega), if_pos (show p0.natAbs ≤ 99 by omega)] <;> rfl)], rfl⟩
    · refine lv_iload_n hC.1 hC.2.1 dJ6_stringSize_0f7a4_27 rfl (lv_at hl 0 rfl) ?_
      refine lv_iload_n hC.1 hC.2.1 dJ6_stringSize_0f7a4_28 rfl (lv_at hl 2 rfl) ?_
      refine x_iadd hC dJ6_stringSize_0f7a4_29 ?_
      exact x_iret hC hw dJ6_stringSize_0f7a4_30 (by first | decide | omega) (by first | decide | omega) ⟨by rw [show (1 + 1 : Int) = dgs p0 by unfold dgs; (rw [if_pos (show p0 < 0 by omega), if_pos (show p0.natAbs ≤ 9 by omega)] <;> rfl)], rfl⟩
  · refine x_const hC dJ6_stringSize_0f7a4_6 ?_
    refine lv_istore_n (lv' := [(1, .int (iN (0))), (0, .int (iN (p0)))]) hC.1 hC.2.1 dJ6_stringSize_0f7a4_7 rfl hl (by decide) rfl (fun ls hl => ?_)
    refine lv_iload_n hC.1 hC.2.1 dJ6_stringSize_0f7a4_8 rfl (lv_at hl 1 rfl) ?_
    refine x_ineg hC dJ6_stringSize_0f7a4_9 ?_
    refine lv_istore_n (lv' := [(0, .int (iN (-p0))), (1, .int (iN (0)))]) hC.1 hC.2.1 dJ6_stringSize_0f7a4_10 rfl hl (by decide) rfl (fun ls hl => ?_)
    refine x_bipush hC dJ6_stringSize_0f7a4_11 (by decide +kernel) ?_
    refine lv_istore_n (lv' := [(2, .int (iN ((-10)))), (0, .int (iN (-p0))), (1, .int (iN (0)))]) hC.1 hC.2.1 dJ6_stringSize_0f7a4_13 rfl hl (by decide) rfl (fun ls hl => ?_)
    refine x_const hC dJ6_stringSize_0f7a4_14 ?_
    refine lv_istore_n (lv' := [(3, .int (iN (1))), (2, .int (iN ((-10)))), (0, .int (iN (-p0))), (1, .int (iN (0)))]) hC.1 hC.2.1 dJ6_stringSize_0f7a4_15 rfl hl (by decide) rfl (fun ls hl => ?_)
    refine lv_iload_n hC.1 hC.2.1 dJ6_stringSize_0f7a4_16 rfl (lv_at hl 0 rfl) ?_
    refine x_bipush hC dJ6_stringSize_0f7a4_17 (by decide +kernel) ?_
    refine x_icmp_ge (tgt := 42) hC ⟨by omega, by omega⟩ ⟨by omega, by omega⟩ dJ6_stringSize_0f7a4_19 (by decide) (fun c_21 => absurd c_21 (by omega)) (fun c_21 => ?_)
    refine lv_iload_n hC.1 hC.2.1 dJ6_stringSize_0f7a4_22 rfl (lv_at hl 2 rfl) ?_
    refine lv_iload_n hC.1 hC.2.1 dJ6_stringSize_0f7a4_23 rfl (lv_at hl 1 rfl) ?_
    refine x_icmp_le (tgt := 31) hC ⟨by omega, by omega⟩ ⟨by omega, by omega⟩ dJ6_stringSize_0f7a4_24 (by decide) (fun c_22 => ?_) (fun c_22 => ?_)
    · refine x_bipush hC dJ6_stringSize_0f7a4_31 (by decide +kernel) ?_
      refine lv_iload_n hC.1 hC.2.1 dJ6_stringSize_0f7a4_33 rfl (lv_at hl 1 rfl) ?_
      refine x_imul hC dJ6_stringSize_0f7a4_34 ?_
      refine lv_istore_n (lv' := [(2, .int (iN (10 * (-10)))), (3, .int (iN (1))), (0, .int (iN (-p0))), (1, .int (iN (0)))]) hC.1 hC.2.1 dJ6_stringSize_0f7a4_35 rfl hl (by decide) rfl (fun ls hl => ?_)
      refine x_iinc (lv' := [(3, .int (iN (1 + 1))), (2, .int (iN (10 * (-10)))), (0, .int (iN (-p0))), (1, .int (iN (0)))]) hC dJ6_stringSize_0f7a4_36 hl (k := 1) rfl (by decide) rfl (fun ls hl => ?_)
      refine lv_goto (tgt := 16) hC.1 hC.2.1 dJ6_stringSize_0f7a4_39 (by decide) ?_
      refine lv_iload_n hC.1 hC.2.1 dJ6_stringSize_0f7a4_16 rfl (lv_at hl 0 rfl) ?_
      refine x_bipush hC dJ6_stringSize_0f7a4_17 (by decide +kernel) ?_
      refine x_icmp_ge (tgt := 42) hC ⟨by omega, by omega⟩ ⟨by omega, by omega⟩ dJ6_stringSize_0f7a4_19 (by decide) (fun c_23 => absurd c_23 (by omega)) (fun c_23 => ?_)
      refine lv_iload_n hC.1 hC.2.1 dJ6_stringSize_0f7a4_22 rfl (lv_at hl 2 rfl) ?_
      refine lv_iload_n hC.1 hC.2.1 dJ6_stringSize_0f7a4_23 rfl (lv_at hl 1 rfl) ?_
      refine x_icmp_le (tgt := 31) hC ⟨by omega, by omega⟩ ⟨by omega, by omega⟩ dJ6_stringSize_0f7a4_24 (by decide) (fun c_24 => ?_) (fun c_24 => ?_)
      · refine x_bipush hC dJ6_stringSize_0f7a4_31 (by decide +kernel) ?_
        refine lv_iload_n hC.1 hC.2.1 dJ6_stringSize_0f7a4_33 rfl (lv_at hl 1 rfl) ?_
        refine x_imul hC dJ6_stringSize_0f7a4_34 ?_
        refine lv_istore_n (lv' := [(2, .int (iN (10 * (10 * (-10))))), (3, .int (iN (1 + 1))), (0, .int (iN (-p0))), (1, .int (iN (0)))]) hC.1 hC.2.1 dJ6_stringSize_0f7a4_35 rfl hl (by decide) rfl (fun ls hl => ?_)
        refine x_iinc (lv' := [(3, .int (iN ((1 + 1) + 1))), (2, .int (iN (10 * (10 * (-10))))), (0, .int (iN (-p0))), (1, .int (iN (0)))]) hC dJ6_stringSize_0f7a4_36 hl (k := 1) rfl (by decide) rfl (fun ls hl => ?_)
        refine lv_goto (tgt := 16) hC.1 hC.2.1 dJ6_stringSize_0f7a4_39 (by decide) ?_
        refine lv_iload_n hC.1 hC.2.1 dJ6_stringSize_0f7a4_16 rfl (lv_at hl 0 rfl) ?_
        refine x_bipush hC dJ6_stringSize_0f7a4_17 (by decide +kernel) ?_
        refine x_icmp_ge (tgt := 42) hC ⟨by omega, by omega⟩ ⟨by omega, by omega⟩ dJ6_stringSize_0f7a4_19 (by decide) (fun c_25 => absurd c_25 (by omega)) (fun c_25 => ?_)
        refine lv_iload_n hC.1 hC.2.1 dJ6_stringSize_0f7a4_22 rfl (lv_at hl 2 rfl) ?_
        refine lv_iload_n hC.1 hC.2.1 dJ6_stringSize_0f7a4_23 rfl (lv_at hl 1 rfl) ?_
        refine x_icmp_le (tgt := 31) hC ⟨by omega, by omega⟩ ⟨by omega, by omega⟩ dJ6_stringSize_0f7a4_24 (by decide) (fun c_26 => ?_) (fun c_26 => ?_)
        · refine x_bipush hC dJ6_stringSize_0f7a4_31 (by decide +kernel) ?_
          refine lv_iload_n hC.1 hC.2.1 dJ6_stringSize_0f7a4_33 rfl (lv_at hl 1 rfl) ?_
          refine x_imul hC dJ6_stringSize_0f7a4_34 ?_
          refine lv_istore_n (lv' := [(2, .int (iN (10 * (10 * (10 * (-10)))))), (3, .int (iN ((1 + 1) + 1))), (0, .int (iN (-p0))), (1, .int (iN (0)))]) hC.1 hC.2.1 dJ6_stringSize_0f7a4_35 rfl hl (by decide) rfl (fun ls hl => ?_)
          refine x_iinc (lv' := [(3, .int (iN (((1 + 1) + 1) + 1))), (2, .int (iN (10 * (10 * (10 * (-10)))))), (0, .int (iN (-p0))), (1, .int (iN (0)))]) hC dJ6_stringSize_0f7a4_36 hl (k := 1) rfl (by decide) rfl (fun ls hl => ?_)
          refine lv_goto (tgt := 16) hC.1 hC.2.1 dJ6_stringSize_0f7a4_39 (by decide) ?_
          refine lv_iload_n hC.1 hC.2.1 dJ6_stringSize_0f7a4_16 rfl (lv_at hl 0 rfl) ?_
          refine x_bipush hC dJ6_stringSize_0f7a4_17 (by decide +kernel) ?_
          refine x_icmp_ge (tgt := 42) hC ⟨by omega, by omega⟩ ⟨by omega, by omega⟩ dJ6_stringSize_0f7a4_19 (by decide) (fun c_27 => absurd c_27 (by omega)) (fun c_27 => ?_)
          refine lv_iload_n hC.1 hC.2.1 dJ6_stringSize_0f7a4_22 rfl (lv_at hl 2 rfl) ?_
          refine lv_iload_n hC.1 hC.2.1 dJ6_stringSize_0f7a4_23 rfl (lv_at hl 1 rfl) ?_
          refine x_icmp_le (tgt := 31) hC ⟨by omega, by omega⟩ ⟨by omega, by omega⟩ dJ6_stringSize_0f7a4_24 (by decide) (fun c_28 => ?_) (fun c_28 => ?_)
          · refine x_bipush hC dJ6_stringSize_0f7a4_31 (by decide +kernel) ?_
            refine lv_iload_n hC.1 hC.2.1 dJ6_stringSize_0f7a4_33 rfl (lv_at hl 1 rfl) ?_
            refine x_imul hC dJ6_stringSize_0f7a4_34 ?_
            refine lv_istore_n (lv' := [(2, .int (iN (10 * (10 * (10 * (10 * (-10))))))), (3, .int (iN (((1 + 1) + 1) + 1))), (0, .int (iN (-p0))), (1, .int (iN (0)))]) hC.1 hC.2.1 dJ6_stringSize_0f7a4_35 rfl hl (by decide) rfl (fun ls hl => ?_)
            refine x_iinc (lv' := [(3, .int (iN ((((1 + 1) + 1) + 1) + 1))), (2, .int (iN (10 * (10 * (10 * (10 * (-10))))))), (0, .int (iN (-p0))), (1, .int (iN (0)))]) hC dJ6_stringSize_0f7a4_36 hl (k := 1) rfl (by decide) rfl (fun ls hl => ?_)
            refine lv_goto (tgt := 16) hC.1 hC.2.1 dJ6_stringSize_0f7a4_39 (by decide) ?_
            refine lv_iload_n hC.1 hC.2.1 dJ6_stringSize_0f7a4_16 rfl (lv_at hl 0 rfl) ?_
            refine x_bipush hC dJ6_stringSize_0f7a4_17 (by decide +kernel) ?_
            refine x_icmp_ge (tgt := 42) hC ⟨by omega, by omega⟩ ⟨by omega, by omega⟩ dJ6_stringSize_0f7a4_19 (by decide) (fun c_29 => absurd c_29 (by omega)) (fun c_29 => ?_)
            refine lv_iload_n hC.1 hC.2.1 dJ6_stringSize_0f7a4_22 rfl (lv_at hl 2 rfl) ?_
            refine lv_iload_n hC.1 hC.2.1 dJ6_stringSize_0f7a4_23 rfl (lv_at hl 1 rfl) ?_
            refine x_icmp_le (tgt := 31) hC ⟨by omega, by omega⟩ ⟨by omega, by omega⟩ dJ6_stringSize_0f7a4_24 (by decide) (fun c_30 => ?_) (fun c_30 => ?_)
            · refine x_bipush hC dJ6_stringSize_0f7a4_31 (by decide +kernel) ?_
              refine lv_iload_n hC.1 hC.2.1 dJ6_stringSize_0f7a4_33 rfl (lv_at hl 1 rfl) ?_
              refine x_imul hC dJ6_stringSize_0f7a4_34 ?_
              refine lv_istore_n (lv' := [(2, .int (iN (10 * (10 * (10 * (10 * (10 * (-10)))))))), (3, .int (iN ((((1 + 1) + 1) + 1) + 1))), (0, .int (iN (-p0))), (1, .int (iN (0)))]) hC.1 hC.2.1 dJ6_stringSize_0f7a4_35 rfl hl (by decide) rfl (fun ls hl => ?_)
              refine x_iinc (lv' := [(3, .int (iN (((((1 + 1) + 1) + 1) + 1) + 1))), (2, .int (iN (10 * (10 * (10 * (10 * (10 * (-10)))))))), (0, .int (iN (-p0))), (1, .int (iN (0)))]) hC dJ6_stringSize_0f7a4_36 hl (k := 1) rfl (by decide) rfl (fun ls hl => ?_)
              refine lv_goto (tgt := 16) hC.1 hC.2.1 dJ6_stringSize_0f7a4_39 (by decide) ?_
              refine lv_iload_n hC.1 hC.2.1 dJ6_stringSize_0f7a4_16 rfl (lv_at hl 0 rfl) ?_
              refine x_bipush hC dJ6_stringSize_0f7a4_17 (by decide +kernel) ?_
              refine x_icmp_ge (tgt := 42) hC ⟨by omega, by omega⟩ ⟨by omega, by omega⟩ dJ6_stringSize_0f7a4_19 (by decide) (fun c_31 => absurd c_31 (by omega)) (fun c_31 => ?_)
              refine lv_iload_n hC.1 hC.2.1 dJ6_stringSize_0f7a4_22 rfl (lv_at hl 2 rfl) ?_
              refine lv_iload_n hC.1 hC.2.1 dJ6_stringSize_0f7a4_23 rfl (lv_at hl 1 rfl) ?_
              refine x_icmp_le (tgt := 31) hC ⟨by omega, by omega⟩ ⟨by omega, by omega⟩ dJ6_stringSize_0f7a4_24 (by decide) (fun c_32 => ?_) (fun c_32 => ?_)
              · refine x_bipush hC dJ6_stringSize_0f7a4_31 (by decide +kernel) ?_
                refine lv_iload_n hC.1 hC.2.1 dJ6_stringSize_0f7a4_33 rfl (lv_at hl 1 rfl) ?_
                refine x_imul hC dJ6_stringSize_0f7a4_34 ?_
                refine lv_istore_n (lv' := [(2, .int (iN (10 * (10 * (10 * (10 * (10 * (10 * (-10))))))))), (3, .int (iN (((((1 + 1) + 1) + 1) + 1) + 1))), (0, .int (iN (-p0))), (1, .int (iN (0)))]) hC.1 hC.2.1 dJ6_stringSize_0f7a4_35 rfl hl (by decide) rfl (fun ls hl => ?_)
                refine x_iinc (lv' := [(3, .int (iN ((((((1 + 1) + 1) + 1) + 1) + 1) + 1))), (2, .int (iN (10 * (10 * (10 * (10 * (10 * (10 * (-10))))))))), (0, .int (iN (-p0))), (1, .int (iN (0)))]) hC dJ6_stringSize_0f7a4_36 hl (k := 1) rfl (by decide) rfl (fun ls hl => ?_)
                refine lv_goto (tgt := 16) hC.1 hC.2.1 dJ6_stringSize_0f7a4_39 (by decide) ?_
                refine lv_iload_n hC.1 hC.2.1 dJ6_stringSize_0f7a4_16 rfl (lv_at hl 0 rfl) ?_
                refine x_bipush hC dJ6_stringSize_0f7a4_17 (by decide +kernel) ?_
                refine x_icmp_ge (tgt := 42) hC ⟨by omega, by omega⟩ ⟨by omega, by omega⟩ dJ6_stringSize_0f7a4_19 (by decide) (fun c_33 => absurd c_33 (by omega)) (fun c_33 => ?_)
                refine lv_iload_n hC.1 hC.2.1 dJ6_stringSize_0f7a4_22 rfl (lv_at hl 2 rfl) ?_
                refine lv_iload_n hC.1 hC.2.1 dJ6_stringSize_0f7a4_23 rfl (lv_at hl 1 rfl) ?_
                refine x_icmp_le (tgt := 31) hC ⟨by omega, by omega⟩ ⟨by omega, by omega⟩ dJ6_stringSize_0f7a4_24 (by decide) (fun c_34 => ?_) (fun c_34 => ?_)
                · refine x_bipush hC dJ6_stringSize_0f7a4_31 (by decide +kernel) ?_
                  refine lv_iload_n hC.1 hC.2.1 dJ6_stringSize_0f7a4_33 rfl (lv_at hl 1 rfl) ?_
                  refine x_imul hC dJ6_stringSize_0f7a4_34 ?_
                  refine lv_istore_n (lv' := [(2, .int (iN (10 * (10 * (10 * (10 * (10 * (10 * (10 * (-10)))))))))), (3, .int (iN ((((((1 + 1) + 1) + 1) + 1) + 1) + 1))), (0, .int (iN (-p0))), (1, .int (iN (0)))]) hC.1 hC.2.1 dJ6_stringSize_0f7a4_35 rfl hl (by decide) rfl (fun ls hl => ?_)
                  refine x_iinc (lv' := [(3, .int (iN (((((((1 + 1) + 1) + 1) + 1) + 1) + 1) + 1))), (2, .int (iN (10 * (10 * (10 * (10 * (10 * (10 * (10 * (-10)))))))))), (0, .int (iN (-p0))), (1, .int (iN (0)))]) hC dJ6_stringSize_0f7a4_36 hl (k := 1) rfl (by decide) rfl (fun ls hl => ?_)
                  refine lv_goto (tgt := 16) hC.1 hC.2.1 dJ6_stringSize_0f7a4_39 (by decide) ?_
                  refine lv_iload_n hC.1 hC.2.1 dJ6_stringSize_0f7a4_16 rfl (lv_at hl 0 rfl) ?_
                  refine x_bipush hC dJ6_stringSize_0f7a4_17 (by decide +kernel) ?_
                  refine x_icmp_ge (tgt := 42) hC ⟨by omega, by omega⟩ ⟨by omega, by omega⟩ dJ6_stringSize_0f7a4_19 (by decide) (fun c_35 => absurd c_35 (by omega)) (fun c_35 => ?_)
                  refine lv_iload_n hC.1 hC.2.1 dJ6_stringSize_0f7a4_22 rfl (lv_at hl 2 rfl) ?_
                  refine lv_iload_n hC.1 hC.2.1 dJ6_stringSize_0f7a4_23 rfl (lv_at hl 1 rfl) ?_
                  refine x_icmp_le (tgt := 31) hC ⟨by omega, by omega⟩ ⟨by omega, by omega⟩ dJ6_stringSize_0f7a4_24 (by decide) (fun c_36 => ?_) (fun c_36 => ?_)
                  · refine x_bipush hC dJ6_stringSize_0f7a4_31 (by decide +kernel) ?_
                    refine lv_iload_n hC.1 hC.2.1 dJ6_stringSize_0f7a4_33 rfl (lv_at hl 1 rfl) ?_
                    refine x_imul hC dJ6_stringSize_0f7a4_34 ?_
                    refine lv_istore_n (lv' := [(2, .int (iN (10 * (10 * (10 * (10 * (10 * (10 * (10 * (10 * (-10))))))))))), (3, .int (iN (((((((1 + 1) + 1) + 1) + 1) + 1) + 1) + 1))), (0, .int (iN (-p0))), (1, .int (iN (0)))]) hC.1 hC.2.1 dJ6_stringSize_0f7a4_35 rfl hl (by decide) rfl (fun ls hl => ?_)
                    refine x_iinc (lv' := [(3, .int (iN ((((((((1 + 1) + 1) + 1) + 1) + 1) + 1) + 1) + 1))), (2, .int (iN (10 * (10 * (10 * (10 * (10 * (10 * (10 * (10 * (-10))))))))))), (0, .int (iN (-p0))), (1, .int (iN (0)))]) hC dJ6_stringSize_0f7a4_36 hl (k := 1) rfl (by decide) rfl (fun ls hl => ?_)
                    refine lv_goto (tgt := 16) hC.1 hC.2.1 dJ6_stringSize_0f7a4_39 (by decide) ?_
                    refine lv_iload_n hC.1 hC.2.1 dJ6_stringSize_0f7a4_16 rfl (lv_at hl 0 rfl) ?_
                    refine x_bipush hC dJ6_stringSize_0f7a4_17 (by decide +kernel) ?_
                    refine x_icmp_ge (tgt := 42) hC ⟨by omega, by omega⟩ ⟨by omega, by omega⟩ dJ6_stringSize_0f7a4_19 (by decide) (fun c_37 => absurd c_37 (by omega)) (fun c_37 => ?_)
                    refine lv_iload_n hC.1 hC.2.1 dJ6_stringSize_0f7a4_22 rfl (lv_at hl 2 rfl) ?_
                    refine lv_iload_n hC.1 hC.2.1 dJ6_stringSize_0f7a4_23 rfl (lv_at hl 1 rfl) ?_
                    refine x_icmp_le (tgt := 31) hC ⟨by omega, by omega⟩ ⟨by omega, by omega⟩ dJ6_stringSize_0f7a4_24 (by decide) (fun c_38 => ?_) (fun c_38 => ?_)
                    · refine x_bipush hC dJ6_stringSize_0f7a4_31 (by decide +kernel) ?_
                      refine lv_iload_n hC.1 hC.2.1 dJ6_stringSize_0f7a4_33 rfl (lv_at hl 1 rfl) ?_
                      refine x_imul hC dJ6_stringSize_0f7a4_34 ?_
                      refine lv_istore_n (lv' := [(2, .int (iN (10 * (10 * (10 * (10 * (10 * (10 * (10 * (10 * (10 * (-10)))))))))))), (3, .int (iN ((((((((1 + 1) + 1) + 1) + 1) + 1) + 1) + 1) + 1))), (0, .int (iN (-p0))), (1, .int (iN (0)))]) hC.1 hC.2.1 dJ6_stringSize_0f7a4_35 rfl hl (by decide) rfl (fun ls hl => ?_)
                      refine x_iinc (lv' := [(3, .int (iN (((((((((1 + 1) + 1) + 1) + 1) + 1) + 1) + 1) + 1) + 1))), (2, .int (iN (10 * (10 * (10 * (10 * (10 * (10 * (10 * (10 * (10 * (-10)))))))))))), (0, .int (iN (-p0))), (1, .int (iN (0)))]) hC dJ6_stringSize_0f7a4_36 hl (k := 1) rfl (by decide) rfl (fun ls hl => ?_)
                      refine lv_goto (tgt := 16) hC.1 hC.2.1 dJ6_stringSize_0f7a4_39 (by decide) ?_
                      refine lv_iload_n hC.1 hC.2.1 dJ6_stringSize_0f7a4_16 rfl (lv_at hl 0 rfl) ?_
                      refine x_bipush hC dJ6_stringSize_0f7a4_17 (by decide +kernel) ?_
                      refine x_icmp_ge (tgt := 42) hC ⟨by omega, by omega⟩ ⟨by omega, by omega⟩ dJ6_stringSize_0f7a4_19 (by decide) (fun c_39 => ?_) (fun c_39 => absurd c_39 (by omega))
                      refine x_bipush hC dJ6_stringSize_0f7a4_42 (by decide +kernel) ?_
                      refine lv_iload_n hC.1 hC.2.1 dJ6_stringSize_0f7a4_44 rfl (lv_at hl 3 rfl) ?_
                      refine x_iadd hC dJ6_stringSize_0f7a4_45 ?_
                      exact x_iret hC hw dJ6_stringSize_0f7a4_46 (by first | decide | omega) (by first | decide | omega) ⟨by rw [show (10 + 0 : Int) = dgs p0 by unfold dgs; (rw [if_neg (show ¬ p0 < 0 by omega), if_neg (show ¬ p0.natAbs ≤ 9 by omega), if_neg (show ¬ p0.natAbs ≤ 99 by omega), if_neg (show ¬ p0.natAbs ≤ 999 by omega), if_neg (show ¬ p0.natAbs ≤ 9999 by omega), if_neg (show ¬ p0.natAbs ≤ 99999 by omega), if_neg (show ¬ p0.natAbs ≤ 999999 by omega), if_neg (show ¬ p0.natAbs ≤ 9999999 by omega), if_neg (show ¬ p0.natAbs ≤ 99999999 by omega), if_neg (show ¬ p0.natAbs ≤ 999999999 by omega)] <;> rfl)], rfl⟩
                    · refine lv_iload_n hC.1 hC.2.1 dJ6_stringSize_0f7a4_27 rfl (lv_at hl 0 rfl) ?_
                      refine lv_iload_n hC.1 hC.2.1 dJ6_stringSize_0f7a4_28 rfl (lv_at hl 3 rfl) ?_
                      refine x_iadd hC dJ6_stringSize_0f7a4_29 ?_
                      exact x_iret hC hw dJ6_stringSize_0f7a4_30 (by first | decide | omega) (by first | decide | omega) ⟨by rw [show (((((((((1 + 1) + 1) + 1) + 1) + 1) + 1) + 1) + 1) + 0 : Int) = dgs p0 by unfold dgs; (rw [if_neg (show ¬ p0 < 0 by omega), if_neg (show ¬ p0.natAbs ≤ 9 by omega), if_neg (show ¬ p0.natAbs ≤ 99 by omega), if_neg (show ¬ p0.natAbs ≤ 999 by omega), if_neg (show ¬ p0.natAbs ≤ 9999 by omega), if_neg (show ¬ p0.natAbs ≤ 99999 by omega), if_neg (show ¬ p0.natAbs ≤ 999999 by omega), if_neg (show ¬ p0.natAbs ≤ 9999999 by omega), if_neg (show ¬ p0.natAbs ≤ 99999999 by omega), if_pos (show p0.natAbs ≤ 999999999 by omega)] <;> rfl)], rfl⟩
                  · refine lv_iload_n hC.1 hC.2.1 dJ6_stringSize_0f7a4_27 rfl (lv_at hl 0 rfl) ?_
                    refine lv_iload_n hC.1 hC.2.1 dJ6_stringSize_0f7a4_28 rfl (lv_at hl 3 rfl) ?_
                    refine x_iadd hC dJ6_stringSize_0f7a4_29 ?_
                    exact x_iret hC hw dJ6_stringSize_0f7a4_30 (by first | decide | omega) (by first | decide | omega) ⟨by rw [show ((((((((1 + 1) + 1) + 1) + 1) + 1) + 1) + 1) + 0 : Int) = dgs p0 by unfold dgs; (rw [if_neg (show ¬ p0 < 0 by omega), if_neg (show ¬ p0.natAbs ≤ 9 by omega), if_neg (show ¬ p0.natAbs ≤ 99 by omega), if_neg (show ¬ p0.natAbs ≤ 999 by omega), if_neg (show ¬ p0.natAbs ≤ 9999 by omega), if_neg (show ¬ p0.natAbs ≤ 99999 by omega), if_neg (show ¬ p0.natAbs ≤ 999999 by omega), if_neg (show ¬ p0.natAbs ≤ 9999999 by omega), if_pos (show p0.natAbs ≤ 99999999 by omega)] <;> rfl)], rfl⟩
                · refine lv_iload_n hC.1 hC.2.1 dJ6_stringSize_0f7a4_27 rfl (lv_at hl 0 rfl) ?_
                  refine lv_iload_n hC.1 hC.2.1 dJ6_stringSize_0f7a4_28 rfl (lv_at hl 3 rfl) ?_
                  refine x_iadd hC dJ6_stringSize_0f7a4_29 ?_
                  exact x_iret hC hw dJ6_stringSize_0f7a4_30 (by first | decide | omega) (by first | decide | omega) ⟨by rw [show (((((((1 + 1) + 1) + 1) + 1) + 1) + 1) + 0 : Int) = dgs p0 by unfold dgs; (rw [if_neg (show ¬ p0 < 0 by omega), if_neg (show ¬ p0.natAbs ≤ 9 by omega), if_neg (show ¬ p0.natAbs ≤ 99 by omega), if_neg (show ¬ p0.natAbs ≤ 999 by omega), if_neg (show ¬ p0.natAbs ≤ 9999 by omega), if_neg (show ¬ p0.natAbs ≤ 99999 by omega), if_neg (show ¬ p0.natAbs ≤ 999999 by omega), if_pos (show p0.natAbs ≤ 9999999 by omega)] <;> rfl)], rfl⟩
              · refine lv_iload_n hC.1 hC.2.1 dJ6_stringSize_0f7a4_27 rfl (lv_at hl 0 rfl) ?_
                refine lv_iload_n hC.1 hC.2.1 dJ6_stringSize_0f7a4_28 rfl (lv_at hl 3 rfl) ?_
                refine x_iadd hC dJ6_stringSize_0f7a4_29 ?_
                exact x_iret hC hw dJ6_stringSize_0f7a4_30 (by first | decide | omega) (by first | decide | omega) ⟨by rw [show ((((((1 + 1) + 1) + 1) + 1) + 1) + 0 : Int) = dgs p0 by unfold dgs; (rw [if_neg (show ¬ p0 < 0 by omega), if_neg (show ¬ p0.natAbs ≤ 9 by omega), if_neg (show ¬ p0.natAbs ≤ 99 by omega), if_neg (show ¬ p0.natAbs ≤ 999 by omega), if_neg (show ¬ p0.natAbs ≤ 9999 by omega), if_neg (show ¬ p0.natAbs ≤ 99999 by omega), if_pos (show p0.natAbs ≤ 999999 by omega)] <;> rfl)], rfl⟩
            · refine lv_iload_n hC.1 hC.2.1 dJ6_stringSize_0f7a4_27 rfl (lv_at hl 0 rfl) ?_
              refine lv_iload_n hC.1 hC.2.1 dJ6_stringSize_0f7a4_28 rfl (lv_at hl 3 rfl) ?_
              refine x_iadd hC dJ6_stringSize_0f7a4_29 ?_
              exact x_iret hC hw dJ6_stringSize_0f7a4_30 (by first | decide | omega) (by first | decide | omega) ⟨by rw [show (((((1 + 1) + 1) + 1) + 1) + 0 : Int) = dgs p0 by unfold dgs; (rw [if_neg (show ¬ p0 < 0 by omega), if_neg (show ¬ p0.natAbs ≤ 9 by omega), if_neg (show ¬ p0.natAbs ≤ 99 by omega), if_neg (show ¬ p0.natAbs ≤ 999 by omega), if_neg (show ¬ p0.natAbs ≤ 9999 by omega), if_pos (show p0.natAbs ≤ 99999 by omega)] <;> rfl)], rfl⟩
          · refine lv_iload_n hC.1 hC.2.1 dJ6_stringSize_0f7a4_27 rfl (lv_at hl 0 rfl) ?_
            refine lv_iload_n hC.1 hC.2.1 dJ6_stringSize_0f7a4_28 rfl (lv_at hl 3 rfl) ?_
            refine x_iadd hC dJ6_stringSize_0f7a4_29 ?_
            exact x_iret hC hw dJ6_stringSize_0f7a4_30 (by first | decide | omega) (by first | decide | omega) ⟨by rw [show ((((1 + 1) + 1) + 1) + 0 : Int) = dgs p0 by unfold dgs; (rw [if_neg (show ¬ p0 < 0 by omega), if_neg (show ¬ p0.natAbs ≤ 9 by omega), if_neg (show ¬ p0.natAbs ≤ 99 by omega), if_neg (show ¬ p0.natAbs ≤ 999 by omega), if_pos (show p0.natAbs ≤ 9999 by omega)] <;> rfl)], rfl⟩
        · refine lv_iload_n hC.1 hC.2.1 dJ6_stringSize_0f7a4_27 rfl (lv_at hl 0 rfl) ?_
          refine lv_iload_n hC.1 hC.2.1 dJ6_stringSize_0f7a4_28 rfl (lv_at hl 3 rfl) ?_
          refine x_iadd hC dJ6_stringSize_0f7a4_29 ?_
          exact x_iret hC hw dJ6_stringSize_0f7a4_30 (by first | decide | omega) (by first | decide | omega) ⟨by rw [show (((1 + 1) + 1) + 0 : Int) = dgs p0 by unfold dgs; (rw [if_neg (show ¬ p0 < 0 by omega), if_neg (show ¬ p0.natAbs ≤ 9 by omega), if_neg (show ¬ p0.natAbs ≤ 99 by omega), if_pos (show p0.natAbs ≤ 999 by omega)] <;> rfl)], rfl⟩
      · refine lv_iload_n hC.1 hC.2.1 dJ6_stringSize_0f7a4_27 rfl (lv_at hl 0 rfl) ?_
        refine lv_iload_n hC.1 hC.2.1 dJ6_stringSize_0f7a4_28 rfl (lv_at hl 3 rfl) ?_
        refine x_iadd hC dJ6_stringSize_0f7a4_29 ?_
        exact x_iret hC hw dJ6_stringSize_0f7a4_30 (by first | decide | omega) (by first | decide | omega) ⟨by rw [show ((1 + 1) + 0 : Int) = dgs p0 by unfold dgs; (rw [if_neg (show ¬ p0 < 0 by omega), if_neg (show ¬ p0.natAbs ≤ 9 by omega), if_pos (show p0.natAbs ≤ 99 by omega)] <;> rfl)], rfl⟩
    · refine lv_iload_n hC.1 hC.2.1 dJ6_stringSize_0f7a4_27 rfl (lv_at hl 0 rfl) ?_
      refine lv_iload_n hC.1 hC.2.1 dJ6_stringSize_0f7a4_28 rfl (lv_at hl 3 rfl) ?_
      refine x_iadd hC dJ6_stringSize_0f7a4_29 ?_
      exact x_iret hC hw dJ6_stringSize_0f7a4_30 (by first | decide | omega) (by first | decide | omega) ⟨by rw [show (1 + 0 : Int) = dgs p0 by unfold dgs; (rw [if_neg (show ¬ p0 < 0 by omega), if_pos (show p0.natAbs ≤ 9 by omega)] <;> rfl)], rfl⟩
set_option maxHeartbeats 4000000 in
set_option maxRecDepth 100000 in
theorem c_J6_getChars_ba4f3 (l : Launch) (G : xG) {M : HM} {v cap : Nat} {f : Nat → Int32} (hm : M = va_up M v (some (.inl (G.2 0, cap, .inl f)))) (hb : bf f) {p0 p1 : Int} (hp0 : -2147483648 ≤ p0 ∧ p0 ≤ 2147483647) (hp1 : dgs p0 ≤ p1 ∧ p1 ≤ cap) (hcp : cap ≤ 60000) : xMet l G yJ6_getChars_ba4f3 wsJ6_getChars_ba4f3 0 0 0 0 [.int (iN (p0)), .int (iN (p1)), .ref v] M (fun r M1 => (∃ z : Int, r = some (.int (iN z))) ∧ ∃ f1, bf f1 ∧ M1 = va_up M v (some (.inl (G.2 0, cap, .inl f1)))) := by
  refine x_intro (cc := cJ6_getChars_ba4f3) (maxL := 7) (ret := (some .int)) (by exact pln_RJ6) rfl (Nat.le_of_ble_eq_true rfl) ?_
  intro p e R s m args below meth c ls hRf hRc hRs hRl hC hw hl
  obtain ⟨-, tt9, to9, ft9, fo9, hZt, hTt, hZo, hTo, hf9⟩ := hC.2.2.2.2.2.2.2.2.1.2.2.2.2.2.2
  have hdg := (dgs_ge p0).1
  have hdg2 := (dgs_ge p0).2.1
  have hl : lv_has ls 7 [(0, .int (iN (p0))), (1, .int (iN (p1))), (2, .ref v)] := hl
  refine lv_iload_n hC.1 hC.2.1 dJ6_getChars_ba4f3_0 rfl (lv_at hl 1 rfl) ?_
  refine lv_istore (lv' := [(5, .int (iN (p1))), (0, .int (iN (p0))), (1, .int (iN (p1))), (2, .ref v)]) hC.1 hC.2.1 dJ6_getChars_ba4f3_1 hl (by decide) rfl (fun ls hl => ?_)
  refine lv_iload_n hC.1 hC.2.1 dJ6_getChars_ba4f3_3 rfl (lv_at hl 1 rfl) ?_
  refine x_if_ge (tgt := 11) hC ⟨by omega, by omega⟩ dJ6_getChars_ba4f3_4 (by decide) (fun c_1 => ?_) (fun c_1 => ?_)
  · refine x_const hC dJ6_getChars_ba4f3_11 ?_
    refine lv_istore (lv' := [(6, .int (iN (0))), (5, .int (iN (p1))), (0, .int (iN (p0))), (1, .int (iN (p1))), (2, .ref v)]) hC.1 hC.2.1 dJ6_getChars_ba4f3_12 hl (by decide) rfl (fun ls hl => ?_)
    refine lv_iload hC.1 hC.2.1 dJ6_getChars_ba4f3_14 (lv_at hl 0 rfl) ?_
    refine x_if_ne (tgt := 22) hC ⟨by omega, by omega⟩ dJ6_getChars_ba4f3_16 (by decide) (fun c_2 => absurd c_2 (by omega)) (fun c_2 => ?_)
    refine lv_iload_n hC.1 hC.2.1 dJ6_getChars_ba4f3_19 rfl (lv_at hl 2 rfl) ?_
    refine x_ineg hC dJ6_getChars_ba4f3_20 ?_
    refine lv_istore_n (lv' := [(0, .int (iN (-p0))), (6, .int (iN (0))), (5, .int (iN (p1))), (1, .int (iN (p1))), (2, .ref v)]) hC.1 hC.2.1 dJ6_getChars_ba4f3_21 rfl hl (by decide) rfl (fun ls hl => ?_)
    suffices hloop22 : ∀ (n9 : Nat) (x : Int) (cp : Int) (M1 : HM) (f1 : Nat → Int32) (hm1 : M1 = va_up M v (some (.inl (G.2 0, cap, .inl f1)))) (hb1 : bf f1) (H : Heap) (locs : List Loc) (ls : Array Slot), (hmz22 : x.natAbs < n9) → (hi0 : (-2147483648 ≤ x ∧ x ≤ 0) ∧ 0 + 1 ≤ cp ∧ cp ≤ cap ∧ gcI (0) x cp) → xD G (xA M s.heap.size) s M1 H locs → lv_has ls 7 [(0, .int (iN (x))), (1, .int (iN (p1))), (2, .ref v), (5, .int (iN (cp))), (6, .int (iN (0)))] → W p l e R s m args below meth c H locs _ _ _ (F0 m 22 ls []) by
      exact hloop22 _ (-p0) p1 _ _ hm hb _ _ _ (Nat.lt_succ_self _) (⟨⟨by omega, by omega⟩, by omega, by omega, gcI_pos hp1.1⟩) hw (lv_sub hl [0, 3, 4, 2, 1] rfl)
    intro n9
    induction n9 with
    | zero => intro x cp M1 f1 hm1 hb1 H locs ls hmz; exact absurd hmz (Nat.not_lt_zero _)
    | succ n9 ih22 =>
      intro x cp M1 f1 hm1 hb1 H locs ls hmz22 hi0 hw hl
      have hg1 := hi0.2.2.2.1
      have hg2 := hi0.2.2.2.2.1
      refine lv_iload_n hC.1 hC.2.1 dJ6_getChars_ba4f3_22 rfl (lv_at hl 0 rfl) ?_
      refine x_bipush hC dJ6_getChars_ba4f3_23 (by decide +kernel) ?_
      refine x_icmp_gt (tgt := 72) hC ⟨by omega, by omega⟩ ⟨by omega, by omega⟩ dJ6_getChars_ba4f3_25 (by decide) (fun c_3 => ?_) (fun c_3 => ?_)
      · refine lv_aload_n hC.1 hC.2.1 dJ6_getChars_ba4f3_72 rfl (lv_at hl 2 rfl) ?_
        refine x_iinc (lv' := [(5, .int (iN (cp + (-1)))), (0, .int (iN (x))), (1, .int (iN (p1))), (2, .ref v), (6, .int (iN (0)))]) hC dJ6_getChars_ba4f3_73 hl (k := 3) rfl (by decide) rfl (fun ls hl => ?_)
        refine lv_iload hC.1 hC.2.1 dJ6_getChars_ba4f3_76 (lv_at hl 0 rfl) ?_
        refine va_gets hC.1 hC.2.1 hZo hw.2 hC.2.2.2.1 (hC.2.2.2.2.1 _ (by decide +kernel : Cond.fieldLink RJ6 83 "java/lang/Integer" "DigitOnes" "[B" ∈ _)) (fun _ h => h) dJ6_getChars_ba4f3_78 ?_
        refine lv_iload_n hC.1 hC.2.1 dJ6_getChars_ba4f3_81 rfl (lv_at hl 1 rfl) ?_
        refine x_ineg hC dJ6_getChars_ba4f3_82 ?_
        refine x_tab hC hTo hw (by omega) (by omega) dJ6_getChars_ba4f3_83 ?_
        refine x_bast hC hw (xup_s hm1) (by omega) (by omega) (by omega) dJ6_getChars_ba4f3_84 (fun H locs hw => ?_)
        obtain ⟨M_4, hM_5⟩ : ∃ z, z = va_up M1 v (some (.inl (G.2 0, cap, .inl (upd f1 (cp + (-1)).toNat (vp_nar .byte (fo9 (-x).toNat)))))) := ⟨_, rfl⟩
        rw [← hM_5] at hw
        have hm_6 := xup_2 hm1 hM_5
        have hb_7 : bf (upd f1 (cp + (-1)).toNat (vp_nar .byte (fo9 (-x).toNat))) := (bf_upd hb1 (bf_nar _))
        refine lv_iload_n hC.1 hC.2.1 dJ6_getChars_ba4f3_85 rfl (lv_at hl 1 rfl) ?_
        refine x_bipush hC dJ6_getChars_ba4f3_86 (by decide +kernel) ?_
        refine x_icmp_ge (tgt := 104) hC ⟨by omega, by omega⟩ ⟨by omega, by omega⟩ dJ6_getChars_ba4f3_88 (by decide) (fun c_8 => ?_) (fun c_8 => ?_)
        · refine lv_iload hC.1 hC.2.1 dJ6_getChars_ba4f3_104 (lv_at hl 4 rfl) ?_
          refine x_if_eq (tgt := 118) hC ⟨by omega, by omega⟩ dJ6_getChars_ba4f3_106 (by decide) (fun c_9 => ?_) (fun c_9 => absurd c_9 (by omega))
          refine lv_iload hC.1 hC.2.1 dJ6_getChars_ba4f3_118 (lv_at hl 0 rfl) ?_
          exact x_iret hC hw dJ6_getChars_ba4f3_120 (by first | decide | omega) (by first | decide | omega) ⟨⟨_, rfl⟩, _, hb_7, hm_6⟩
        · refine lv_aload_n hC.1 hC.2.1 dJ6_getChars_ba4f3_91 rfl (lv_at hl 3 rfl) ?_
          refine x_iinc (lv' := [(5, .int (iN ((cp + (-1)) + (-1)))), (0, .int (iN (x))), (1, .int (iN (p1))), (2, .ref v), (6, .int (iN (0)))]) hC dJ6_getChars_ba4f3_92 hl (k := 0) rfl (by decide) rfl (fun ls hl => ?_)
          refine lv_iload hC.1 hC.2.1 dJ6_getChars_ba4f3_95 (lv_at hl 0 rfl) ?_
          refine va_gets hC.1 hC.2.1 hZt hw.2 hC.2.2.2.1 (hC.2.2.2.2.1 _ (by decide +kernel : Cond.fieldLink RJ6 87 "java/lang/Integer" "DigitTens" "[B" ∈ _)) (fun _ h => h) dJ6_getChars_ba4f3_97 ?_
          refine lv_iload_n hC.1 hC.2.1 dJ6_getChars_ba4f3_100 rfl (lv_at hl 1 rfl) ?_
          refine x_ineg hC dJ6_getChars_ba4f3_101 ?_
          refine x_tab hC hTt hw (by omega) (by omega) dJ6_getChars_ba4f3_102 ?_
          refine x_bast hC hw (xup_s hm_6) (by omega) (by omega) (by omega) dJ6_getChars_ba4f3_103 (fun H locs hw => ?_)
          obtain ⟨M_10, hM_11⟩ : ∃ z, z = va_up M_4 v (some (.inl (G.2 0, cap, .inl (upd (upd f1 (cp + (-1)).toNat (vp_nar .byte (fo9 (-x).toNat))) ((cp + (-1)) + (-1)).toNat (vp_nar .byte (ft9 (-x).toNat)))))) := ⟨_, rfl⟩
          rw [← hM_11] at hw
          have hm_12 := xup_2 hm_6 hM_11
          have hb_13 : bf (upd (upd f1 (cp + (-1)).toNat (vp_nar .byte (fo9 (-x).toNat))) ((cp + (-1)) + (-1)).toNat (vp_nar .byte (ft9 (-x).toNat))) := (bf_upd hb_7 (bf_nar _))
          refine lv_iload hC.1 hC.2.1 dJ6_getChars_ba4f3_104 (lv_at hl 4 rfl) ?_
          refine x_if_eq (tgt := 118) hC ⟨by omega, by omega⟩ dJ6_getChars_ba4f3_106 (by decide) (fun c_14 => ?_) (fun c_14 => absurd c_14 (by omega))
          refine lv_iload hC.1 hC.2.1 dJ6_getChars_ba4f3_118 (lv_at hl 0 rfl) ?_
          exact x_iret hC hw dJ6_getChars_ba4f3_120 (by first | decide | omega) (by first | decide | omega) ⟨⟨_, rfl⟩, _, hb_13, hm_12⟩
      · refine lv_iload_n hC.1 hC.2.1 dJ6_getChars_ba4f3_28 rfl (lv_at hl 0 rfl) ?_
        refine x_bipush hC dJ6_getChars_ba4f3_29 (by decide +kernel) ?_
        refine x_idiv hC ⟨by omega, by omega⟩ ⟨by omega, by omega⟩ (by omega) (by omega) dJ6_getChars_ba4f3_31 ?_
        obtain ⟨z_15, hz_15⟩ : ∃ z : Int, z = x.tdiv 100 := ⟨_, rfl⟩
        rw [← hz_15]
        have hrz_15 : -2147483648 ≤ z_15 ∧ z_15 ≤ 2147483647 := by rw [hz_15]; exact x_tdiv_rng ⟨by omega, by omega⟩ ⟨by omega, by omega⟩
        have hdz_15 := x_tdb hz_15
        have htz_15 := x_td100 hz_15 (by omega)
        refine lv_istore_n (lv' := [(3, .int (iN (z_15))), (0, .int (iN (x))), (1, .int (iN (p1))), (2, .ref v), (5, .int (iN (cp))), (6, .int (iN (0)))]) hC.1 hC.2.1 dJ6_getChars_ba4f3_32 rfl hl (by decide) rfl (fun ls hl => ?_)
        refine lv_iload_n hC.1 hC.2.1 dJ6_getChars_ba4f3_33 rfl (lv_at hl 0 rfl) ?_
        refine x_bipush hC dJ6_getChars_ba4f3_34 (by decide +kernel) ?_
        refine x_imul hC dJ6_getChars_ba4f3_36 ?_
        refine lv_iload_n hC.1 hC.2.1 dJ6_getChars_ba4f3_37 rfl (lv_at hl 1 rfl) ?_
        refine x_isub hC dJ6_getChars_ba4f3_38 ?_
        refine lv_istore (lv' := [(4, .int (iN ((z_15 * 100) - x))), (3, .int (iN (z_15))), (0, .int (iN (x))), (1, .int (iN (p1))), (2, .ref v), (5, .int (iN (cp))), (6, .int (iN (0)))]) hC.1 hC.2.1 dJ6_getChars_ba4f3_39 hl (by decide) rfl (fun ls hl => ?_)
        refine lv_iload_n hC.1 hC.2.1 dJ6_getChars_ba4f3_41 rfl (lv_at hl 1 rfl) ?_
        refine lv_istore_n (lv' := [(0, .int (iN (z_15))), (4, .int (iN ((z_15 * 100) - x))), (3, .int (iN (z_15))), (1, .int (iN (p1))), (2, .ref v), (5, .int (iN (cp))), (6, .int (iN (0)))]) hC.1 hC.2.1 dJ6_getChars_ba4f3_42 rfl hl (by decide) rfl (fun ls hl => ?_)
        refine lv_aload_n hC.1 hC.2.1 dJ6_getChars_ba4f3_43 rfl (lv_at hl 4 rfl) ?_
        refine x_iinc (lv' := [(5, .int (iN (cp + (-1)))), (0, .int (iN (z_15))), (4, .int (iN ((z_15 * 100) - x))), (3, .int (iN (z_15))), (1, .int (iN (p1))), (2, .ref v), (6, .int (iN (0)))]) hC dJ6_getChars_ba4f3_44 hl (k := 5) rfl (by decide) rfl (fun ls hl => ?_)
        refine lv_iload hC.1 hC.2.1 dJ6_getChars_ba4f3_47 (lv_at hl 0 rfl) ?_
        refine va_gets hC.1 hC.2.1 hZo hw.2 hC.2.2.2.1 (hC.2.2.2.2.1 _ (by decide +kernel : Cond.fieldLink RJ6 83 "java/lang/Integer" "DigitOnes" "[B" ∈ _)) (fun _ h => h) dJ6_getChars_ba4f3_49 ?_
        refine lv_iload hC.1 hC.2.1 dJ6_getChars_ba4f3_52 (lv_at hl 2 rfl) ?_
        refine x_tab hC hTo hw (by omega) (by omega) dJ6_getChars_ba4f3_54 ?_
        refine x_bast hC hw (xup_s hm1) (by omega) (by omega) (by omega) dJ6_getChars_ba4f3_55 (fun H locs hw => ?_)
        obtain ⟨M_16, hM_17⟩ : ∃ z, z = va_up M1 v (some (.inl (G.2 0, cap, .inl (upd f1 (cp + (-1)).toNat (vp_nar .byte (fo9 ((z_15 * 100) - x).toNat)))))) := ⟨_, rfl⟩
        rw [← hM_17] at hw
        have hm_18 := xup_2 hm1 hM_17
        have hb_19 : bf (upd f1 (cp + (-1)).toNat (vp_nar .byte (fo9 ((z_15 * 100) - x).toNat))) := (bf_upd hb1 (bf_nar _))
        refine lv_aload_n hC.1 hC.2.1 dJ6_getChars_ba4f3_56 rfl (lv_at hl 5 rfl) ?_
        refine x_iinc (lv' := [(5, .int (iN ((cp + (-1)) + (-1)))), (0, .int (iN (z_15))), (4, .int (iN ((z_15 * 100) - x))), (3, .int (iN (z_15))), (1, .int (iN (p1))), (2, .ref v), (6, .int (iN (0)))]) hC dJ6_getChars_ba4f3_57 hl (k := 0) rfl (by decide) rfl (fun ls hl => ?_)
        refine lv_iload hC.1 hC.2.1 dJ6_getChars_ba4f3_60 (lv_at hl 0 rfl) ?_
        refine va_gets hC.1 hC.2.1 hZt hw.2 hC.2.2.2.1 (hC.2.2.2.2.1 _ (by decide +kernel : Cond.fieldLink RJ6 87 "java/lang/Integer" "DigitTens" "[B" ∈ _)) (fun _ h => h) dJ6_getChars_ba4f3_62 ?_
        refine lv_iload hC.1 hC.2.1 dJ6_getChars_ba4f3_65 (lv_at hl 2 rfl) ?_
        refine x_tab hC hTt hw (by omega) (by omega) dJ6_getChars_ba4f3_67 ?_
        refine x_bast hC hw (xup_s hm_18) (by omega) (by omega) (by omega) dJ6_getChars_ba4f3_68 (fun H locs hw => ?_)
        obtain ⟨M_20, hM_21⟩ : ∃ z, z = va_up M_16 v (some (.inl (G.2 0, cap, .inl (upd (upd f1 (cp + (-1)).toNat (vp_nar .byte (fo9 ((z_15 * 100) - x).toNat))) ((cp + (-1)) + (-1)).toNat (vp_nar .byte (ft9 ((z_15 * 100) - x).toNat)))))) := ⟨_, rfl⟩
        rw [← hM_21] at hw
        have hm_22 := xup_2 hm_18 hM_21
        have hb_23 : bf (upd (upd f1 (cp + (-1)).toNat (vp_nar .byte (fo9 ((z_15 * 100) - x).toNat))) ((cp + (-1)) + (-1)).toNat (vp_nar .byte (ft9 ((z_15 * 100) - x).toNat))) := (bf_upd hb_19 (bf_nar _))
        refine lv_goto (tgt := 22) hC.1 hC.2.1 dJ6_getChars_ba4f3_69 (by decide) ?_
        exact ih22 z_15 ((cp + (-1)) + (-1)) _ _ hm_22 hb_23 _ _ _ (by omega) (⟨⟨by omega, by omega⟩, by omega, by omega, gcI_next hi0.2.2.2 htz_15 hi0.1.1⟩) hw (lv_sub hl [1, 4, 5, 0, 6] rfl)
  · refine x_const hC dJ6_getChars_ba4f3_7 ?_
    refine lv_goto (tgt := 12) hC.1 hC.2.1 dJ6_getChars_ba4f3_8 (by decide) ?_
    refine lv_istore (lv' := [(6, .int (iN (1))), (5, .int (iN (p1))), (0, .int (iN (p0))), (1, .int (iN (p1))), (2, .ref v)]) hC.1 hC.2.1 dJ6_getChars_ba4f3_12 hl (by decide) rfl (fun ls hl => ?_)
    refine lv_iload hC.1 hC.2.1 dJ6_getChars_ba4f3_14 (lv_at hl 0 rfl) ?_
    refine x_if_ne (tgt := 22) hC ⟨by omega, by omega⟩ dJ6_getChars_ba4f3_16 (by decide) (fun c_24 => ?_) (fun c_24 => absurd c_24 (by omega))
    suffices hloop22 : ∀ (n9 : Nat) (x : Int) (cp : Int) (M1 : HM) (f1 : Nat → Int32) (hm1 : M1 = va_up M v (some (.inl (G.2 0, cap, .inl f1)))) (hb1 : bf f1) (H : Heap) (locs : List Loc) (ls : Array Slot), (hmz22 : x.natAbs < n9) → (hi0 : (-2147483648 ≤ x ∧ x ≤ 0) ∧ 1 + 1 ≤ cp ∧ cp ≤ cap ∧ gcI (1) x cp) → xD G (xA M s.heap.size) s M1 H locs → lv_has ls 7 [(0, .int (iN (x))), (1, .int (iN (p1))), (2, .ref v), (5, .int (iN (cp))), (6, .int (iN (1)))] → W p l e R s m args below meth c H locs _ _ _ (F0 m 22 ls []) by
      exact hloop22 _ p0 p1 _ _ hm hb _ _ _ (Nat.lt_succ_self _) (⟨⟨by omega, by omega⟩, by omega, by omega, gcI_neg hp1.1⟩) hw (lv_sub hl [2, 3, 4, 1, 0] rfl)
    intro n9
    induction n9 with
    | zero => intro x cp M1 f1 hm1 hb1 H locs ls hmz; exact absurd hmz (Nat.not_lt_zero _)
    | succ n9 ih22 =>
      intro x cp M1 f1 hm1 hb1 H locs ls hmz22 hi0 hw hl
      have hg1 := hi0.2.2.2.1
      have hg2 := hi0.2.2.2.2.1
      refine lv_iload_n hC.1 hC.2.1 dJ6_getChars_ba4f3_22 rfl (lv_at hl 0 rfl) ?_
      refine x_bipush hC dJ6_getChars_ba4f3_23 (by decide +kernel) ?_
      refine x_icmp_gt (tgt := 72) hC ⟨by omega, by omega⟩ ⟨by omega, by omega⟩ dJ6_getChars_ba4f3_25 (by decide) (fun c_25 => ?_) (fun c_25 => ?_)
      · refine lv_aload_n hC.1 hC.2.1 dJ6_getChars_ba4f3_72 rfl (lv_at hl 2 rfl) ?_
        refine x_iinc (lv' := [(5, .int (iN (cp + (-1)))), (0, .int (iN (x))), (1, .int (iN (p1))), (2, .ref v), (6, .int (iN (1)))]) hC dJ6_getChars_ba4f3_73 hl (k := 3) rfl (by decide) rfl (fun ls hl => ?_)
        refine lv_iload hC.1 hC.2.1 dJ6_getChars_ba4f3_76 (lv_at hl 0 rfl) ?_
        refine va_gets hC.1 hC.2.1 hZo hw.2 hC.2.2.2.1 (hC.2.2.2.2.1 _ (by decide +kernel : Cond.fieldLink RJ6 83 "java/lang/Integer" "DigitOnes" "[B" ∈ _)) (fun _ h => h) dJ6_getChars_ba4f3_78 ?_
        refine lv_iload_n hC.1 hC.2.1 dJ6_getChars_ba4f3_81 rfl (lv_at hl 1 rfl) ?_
        refine x_ineg hC dJ6_getChars_ba4f3_82 ?_
        refine x_tab hC hTo hw (by omega) (by omega) dJ6_getChars_ba4f3_83 ?_
        refine x_bast hC hw (xup_s hm1) (by omega) (by omega) (by omega) dJ6_getChars_ba4f3_84 (fun H locs hw => ?_)
        obtain ⟨M_26, hM_27⟩ : ∃ z, z = va_up M1 v (some (.inl (G.2 0, cap, .inl (upd f1 (cp + (-1)).toNat (vp_nar .byte (fo9 (-x).toNat)))))) := ⟨_, rfl⟩
        rw [← hM_27] at hw
        have hm_28 := xup_2 hm1 hM_27
        have hb_29 : bf (upd f1 (cp + (-1)).toNat (vp_nar .byte (fo9 (-x).toNat))) := (bf_upd hb1 (bf_nar _))
        refine lv_iload_n hC.1 hC.2.1 dJ6_getChars_ba4f3_85 rfl (lv_at hl 1 rfl) ?_
        refine x_bipush hC dJ6_getChars_ba4f3_86 (by decide +kernel) ?_
        refine x_icmp_ge (tgt := 104) hC ⟨by omega, by omega⟩ ⟨by omega, by omega⟩ dJ6_getChars_ba4f3_88 (by decide) (fun c_30 => ?_) (fun c_30 => ?_)
        · refine lv_iload hC.1 hC.2.1 dJ6_getChars_ba4f3_104 (lv_at hl 4 rfl) ?_
          refine x_if_eq (tgt := 118) hC ⟨by omega, by omega⟩ dJ6_getChars_ba4f3_106 (by decide) (fun c_31 => absurd c_31 (by omega)) (fun c_31 => ?_)
          refine lv_aload_n hC.1 hC.2.1 dJ6_getChars_ba4f3_109 rfl (lv_at hl 3 rfl) ?_
          refine x_iinc (lv' := [(5, .int (iN ((cp + (-1)) + (-1)))), (0, .int (iN (x))), (1, .int (iN (p1))), (2, .ref v), (6, .int (iN (1)))]) hC dJ6_getChars_ba4f3_110 hl (k := 0) rfl (by decide) rfl (fun ls hl => ?_)
          refine lv_iload hC.1 hC.2.1 dJ6_getChars_ba4f3_113 (lv_at hl 0 rfl) ?_
          refine x_bipush hC dJ6_getChars_ba4f3_115 (by decide +kernel) ?_
          refine x_bast hC hw (xup_s hm_28) (by omega) (by omega) (by omega) dJ6_getChars_ba4f3_117 (fun H locs hw => ?_)
          obtain ⟨M_32, hM_33⟩ : ∃ z, z = va_up M_26 v (some (.inl (G.2 0, cap, .inl (upd (upd f1 (cp + (-1)).toNat (vp_nar .byte (fo9 (-x).toNat))) ((cp + (-1)) + (-1)).toNat (vp_nar .byte (iN (45))))))) := ⟨_, rfl⟩
          rw [← hM_33] at hw
          have hm_34 := xup_2 hm_28 hM_33
          have hb_35 : bf (upd (upd f1 (cp + (-1)).toNat (vp_nar .byte (fo9 (-x).toNat))) ((cp + (-1)) + (-1)).toNat (vp_nar .byte (iN (45)))) := (bf_upd hb_29 (bf_nar _))
          refine lv_iload hC.1 hC.2.1 dJ6_getChars_ba4f3_118 (lv_at hl 0 rfl) ?_
          exact x_iret hC hw dJ6_getChars_ba4f3_120 (by first | decide | omega) (by first | decide | omega) ⟨⟨_, rfl⟩, _, hb_35, hm_34⟩
        · refine lv_aload_n hC.1 hC.2.1 dJ6_getChars_ba4f3_91 rfl (lv_at hl 3 rfl) ?_
          refine x_iinc (lv' := [(5, .int (iN ((cp + (-1)) + (-1)))), (0, .int (iN (x))), (1, .int (iN (p1))), (2, .ref v), (6, .int (iN (1)))]) hC dJ6_getChars_ba4f3_92 hl (k := 0) rfl (by decide) rfl (fun ls hl => ?_)
          refine lv_iload hC.1 hC.2.1 dJ6_getChars_ba4f3_95 (lv_at hl 0 rfl) ?_
          refine va_gets hC.1 hC.2.1 hZt hw.2 hC.2.2.2.1 (hC.2.2.2.2.1 _ (by decide +kernel : Cond.fieldLink RJ6 87 "java/lang/Integer" "DigitTens" "[B" ∈ _)) (fun _ h => h) dJ6_getChars_ba4f3_97 ?_
          refine lv_iload_n hC.1 hC.2.1 dJ6_getChars_ba4f3_100 rfl (lv_at hl 1 rfl) ?_
          refine x_ineg hC dJ6_getChars_ba4f3_101 ?_
          refine x_tab hC hTt hw (by omega) (by omega) dJ6_getChars_ba4f3_102 ?_
          refine x_bast hC hw (xup_s hm_28) (by omega) (by omega) (by omega) dJ6_getChars_ba4f3_103 (fun H locs hw => ?_)
          obtain ⟨M_36, hM_37⟩ : ∃ z, z = va_up M_26 v (some (.inl (G.2 0, cap, .inl (upd (upd f1 (cp + (-1)).toNat (vp_nar .byte (fo9 (-x).toNat))) ((cp + (-1)) + (-1)).toNat (vp_nar .byte (ft9 (-x).toNat)))))) := ⟨_, rfl⟩
          rw [← hM_37] at hw
          have hm_38 := xup_2 hm_28 hM_37
          have hb_39 : bf (upd (upd f1 (cp + (-1)).toNat (vp_nar .byte (fo9 (-x).toNat))) ((cp + (-1)) + (-1)).toNat (vp_nar .byte (ft9 (-x).toNat))) := (bf_upd hb_29 (bf_nar _))
          refine lv_iload hC.1 hC.2.1 dJ6_getChars_ba4f3_104 (lv_at hl 4 rfl) ?_
          refine x_if_eq (tgt := 118) hC ⟨by omega, by omega⟩ dJ6_getChars_ba4f3_106 (by decide) (fun c_40 => absurd c_40 (by omega)) (fun c_40 => ?_)
          refine lv_aload_n hC.1 hC.2.1 dJ6_getChars_ba4f3_109 rfl (lv_at hl 3 rfl) ?_
          refine x_iinc (lv' := [(5, .int (iN (((cp + (-1)) + (-1)) + (-1)))), (0, .int (iN (x))), (1, .int (iN (p1))), (2, .ref v), (6, .int (iN (1)))]) hC dJ6_getChars_ba4f3_110 hl (k := 0) rfl (by decide) rfl (fun ls hl => ?_)
          refine lv_iload hC.1 hC.2.1 dJ6_getChars_ba4f3_113 (lv_at hl 0 rfl) ?_
          refine x_bipush hC dJ6_getChars_ba4f3_115 (by decide +kernel) ?_
          refine x_bast hC hw (xup_s hm_38) (by omega) (by omega) (by omega) dJ6_getChars_ba4f3_117 (fun H locs hw => ?_)
          obtain ⟨M_41, hM_42⟩ : ∃ z, z = va_up M_36 v (some (.inl (G.2 0, cap, .inl (upd (upd (upd f1 (cp + (-1)).toNat (vp_nar .byte (fo9 (-x).toNat))) ((cp + (-1)) + (-1)).toNat (vp_nar .byte (ft9 (-x).toNat))) (((cp + (-1)) + (-1)) + (-1)).toNat (vp_nar .byte (iN (45))))))) := ⟨_, rfl⟩
          rw [← hM_42] at hw
          have hm_43 := xup_2 hm_38 hM_42
          have hb_44 : bf (upd (upd (upd f1 (cp + (-1)).toNat (vp_nar .byte (fo9 (-x).toNat))) ((cp + (-1)) + (-1)).toNat (vp_nar .byte (ft9 (-x).toNat))) (((cp + (-1)) + (-1)) + (-1)).toNat (vp_nar .byte (iN (45)))) := (bf_upd hb_39 (bf_nar _))
          refine lv_iload hC.1 hC.2.1 dJ6_getChars_ba4f3_118 (lv_at hl 0 rfl) ?_
          exact x_iret hC hw dJ6_getChars_ba4f3_120 (by first | decide | omega) (by first | decide | omega) ⟨⟨_, rfl⟩, _, hb_44, hm_43⟩
      · refine lv_iload_n hC.1 hC.2.1 dJ6_getChars_ba4f3_28 rfl (lv_at hl 0 rfl) ?_
        refine x_bipush hC dJ6_getChars_ba4f3_29 (by decide +kernel) ?_
        refine x_idiv hC ⟨by omega, by omega⟩ ⟨by omega, by omega⟩ (by omega) (by omega) dJ6_getChars_ba4f3_31 ?_
        obtain ⟨z_45, hz_45⟩ : ∃ z : Int, z = x.tdiv 100 := ⟨_, rfl⟩
        rw [← hz_45]
        have hrz_45 : -2147483648 ≤ z_45 ∧ z_45 ≤ 2147483647 := by rw [hz_45]; exact x_tdiv_rng ⟨by omega, by omega⟩ ⟨by omega, by omega⟩
        have hdz_45 := x_tdb hz_45
        have htz_45 := x_td100 hz_45 (by omega)
        refine lv_istore_n (lv' := [(3, .int (iN (z_45))), (0, .int (iN (x))), (1, .int (iN (p1))), (2, .ref v), (5, .int (iN (cp))), (6, .int (iN (1)))]) hC.1 hC.2.1 dJ6_getChars_ba4f3_32 rfl hl (by decide) rfl (fun ls hl => ?_)
        refine lv_iload_n hC.1 hC.2.1 dJ6_getChars_ba4f3_33 rfl (lv_at hl 0 rfl) ?_
        refine x_bipush hC dJ6_getChars_ba4f3_34 (by decide +kernel) ?_
        refine x_imul hC dJ6_getChars_ba4f3_36 ?_
        refine lv_iload_n hC.1 hC.2.1 dJ6_getChars_ba4f3_37 rfl (lv_at hl 1 rfl) ?_
        refine x_isub hC dJ6_getChars_ba4f3_38 ?_
        refine lv_istore (lv' := [(4, .int (iN ((z_45 * 100) - x))), (3, .int (iN (z_45))), (0, .int (iN (x))), (1, .int (iN (p1))), (2, .ref v), (5, .int (iN (cp))), (6, .int (iN (1)))]) hC.1 hC.2.1 dJ6_getChars_ba4f3_39 hl (by decide) rfl (fun ls hl => ?_)
        refine lv_iload_n hC.1 hC.2.1 dJ6_getChars_ba4f3_41 rfl (lv_at hl 1 rfl) ?_
        refine lv_istore_n (lv' := [(0, .int (iN (z_45))), (4, .int (iN ((z_45 * 100) - x))), (3, .int (iN (z_45))), (1, .int (iN (p1))), (2, .ref v), (5, .int (iN (cp))), (6, .int (iN (1)))]) hC.1 hC.2.1 dJ6_getChars_ba4f3_42 rfl hl (by decide) rfl (fun ls hl => ?_)
        refine lv_aload_n hC.1 hC.2.1 dJ6_getChars_ba4f3_43 rfl (lv_at hl 4 rfl) ?_
        refine x_iinc (lv' := [(5, .int (iN (cp + (-1)))), (0, .int (iN (z_45))), (4, .int (iN ((z_45 * 100) - x))), (3, .int (iN (z_45))), (1, .int (iN (p1))), (2, .ref v), (6, .int (iN (1)))]) hC dJ6_getChars_ba4f3_44 hl (k := 5) rfl (by decide) rfl (fun ls hl => ?_)
        refine lv_iload hC.1 hC.2.1 dJ6_getChars_ba4f3_47 (lv_at hl 0 rfl) ?_
        refine va_gets hC.1 hC.2.1 hZo hw.2 hC.2.2.2.1 (hC.2.2.2.2.1 _ (by decide +kernel : Cond.fieldLink RJ6 83 "java/lang/Integer" "DigitOnes" "[B" ∈ _)) (fun _ h => h) dJ6_getChars_ba4f3_49 ?_
        refine lv_iload hC.1 hC.2.1 dJ6_getChars_ba4f3_52 (lv_at hl 2 rfl) ?_
        refine x_tab hC hTo hw (by omega) (by omega) dJ6_getChars_ba4f3_54 ?_
        refine x_bast hC hw (xup_s hm1) (by omega) (by omega) (by omega) dJ6_getChars_ba4f3_55 (fun H locs hw => ?_)
        obtain ⟨M_46, hM_47⟩ : ∃ z, z = va_up M1 v (some (.inl (G.2 0, cap, .inl (upd f1 (cp + (-1)).toNat (vp_nar .byte (fo9 ((z_45 * 100) - x).toNat)))))) := ⟨_, rfl⟩
        rw [← hM_47] at hw
        have hm_48 := xup_2 hm1 hM_47
        have hb_49 : bf (upd f1 (cp + (-1)).toNat (vp_nar .byte (fo9 ((z_45 * 100) - x).toNat))) := (bf_upd hb1 (bf_nar _))
        refine lv_aload_n hC.1 hC.2.1 dJ6_getChars_ba4f3_56 rfl (lv_at hl 5 rfl) ?_
        refine x_iinc (lv' := [(5, .int (iN ((cp + (-1)) + (-1)))), (0, .int (iN (z_45))), (4, .int (iN ((z_45 * 100) - x))), (3, .int (iN (z_45))), (1, .int (iN (p1))), (2, .ref v), (6, .int (iN (1)))]) hC dJ6_getChars_ba4f3_57 hl (k := 0) rfl (by decide) rfl (fun ls hl => ?_)
        refine lv_iload hC.1 hC.2.1 dJ6_getChars_ba4f3_60 (lv_at hl 0 rfl) ?_
        refine va_gets hC.1 hC.2.1 hZt hw.2 hC.2.2.2.1 (hC.2.2.2.2.1 _ (by decide +kernel : Cond.fieldLink RJ6 87 "java/lang/Integer" "DigitTens" "[B" ∈ _)) (fun _ h => h) dJ6_getChars_ba4f3_62 ?_
        refine lv_iload hC.1 hC.2.1 dJ6_getChars_ba4f3_65 (lv_at hl 2 rfl) ?_
        refine x_tab hC hTt hw (by omega) (by omega) dJ6_getChars_ba4f3_67 ?_
        refine x_bast hC hw (xup_s hm_48) (by omega) (by omega) (by omega) dJ6_getChars_ba4f3_68 (fun H locs hw => ?_)
        obtain ⟨M_50, hM_51⟩ : ∃ z, z = va_up M_46 v (some (.inl (G.2 0, cap, .inl (upd (upd f1 (cp + (-1)).toNat (vp_nar .byte (fo9 ((z_45 * 100) - x).toNat))) ((cp + (-1)) + (-1)).toNat (vp_nar .byte (ft9 ((z_45 * 100) - x).toNat)))))) := ⟨_, rfl⟩
        rw [← hM_51] at hw
        have hm_52 := xup_2 hm_48 hM_51
        have hb_53 : bf (upd (upd f1 (cp + (-1)).toNat (vp_nar .byte (fo9 ((z_45 * 100) - x).toNat))) ((cp + (-1)) + (-1)).toNat (vp_nar .byte (ft9 ((z_45 * 100) - x).toNat))) := (bf_upd hb_49 (bf_nar _))
        refine lv_goto (tgt := 22) hC.1 hC.2.1 dJ6_getChars_ba4f3_69 (by decide) ?_
        exact ih22 z_45 ((cp + (-1)) + (-1)) _ _ hm_52 hb_53 _ _ _ (by omega) (⟨⟨by omega, by omega⟩, by omega, by omega, gcI_next hi0.2.2.2 htz_45 hi0.1.1⟩) hw (lv_sub hl [1, 4, 5, 0, 6] rfl)
set_option maxHeartbeats 4000000 in
set_option maxRecDepth 100000 in
theorem c_J5_append_c97b9 (l : Launch) (G : xG) {M : HM} {M0 : HM} {q v : Nat} {ml : Int32} {n : Int} {cap : Nat} {f : Nat → Int32} (hS : Sb G M0 M q v ml n cap f) {p0 : Int} (hp0 : -2147483648 ≤ p0 ∧ p0 ≤ 2147483647) {mc ms : Nat} (hr : (n + dgs p0) ≤ cap ∨ (1 ≤ mc ∧ 2 * cap + 2 ≤ ms)) (hcp : 16 ≤ (cap : Int) ∧ (cap : Int) ≤ 20000) : xMet l G yJ5_append_c97b9 wsJ5_append_c97b9 4 91 mc ms [.ref q, .int (iN (p0))] M (fun r M1 => r = some (.ref q) ∧ ∃ (v1 cap1 : Nat) (f1 : Nat → Int32), Sb G M0 M1 q v1 ml ((n + dgs p0)) cap1 f1 ∧ (((n + dgs p0) ≤ cap ∧ cap1 = cap) ∨ ((cap : Int) < (n + dgs p0) ∧ cap1 = 2 * cap + 2))) := by
  refine x_intro (cc := cJ5_append_c97b9) (maxL := 4) (ret := (some (.object "java/lang/AbstractStringBuilder"))) (by exact pln_RJ5) rfl (Nat.le_of_ble_eq_true rfl) ?_
  intro p e R s m args below meth c ls hRf hRc hRs hRl hC hw hl
  have hSb := hS.2.2.2.2
  have hdl := dgs_le p0
  have hinJ4 : ∀ w ∈ wsJ40, w ∈ wsJ5_append_c97b9 := fun w h => (List.mem_cons_of_mem _ (List.mem_append_right _ h))
  have hl : lv_has ls 4 [(0, .ref q), (1, .int (iN (p0)))] := hl
  refine lv_aload_n hC.1 hC.2.1 dJ5_append_c97b9_0 rfl (lv_at hl 0 rfl) ?_
  refine x_get hC hw hS.2.1 rfl hinJ4 3 (by decide) (List.mem_cons_of_mem _ (List.mem_append_left _ (List.mem_append_left _ (List.mem_of_getElem? (i := 0) rfl)))) rfl dJ5_append_c97b9_1 ?_
  refine lv_istore_n (lv' := [(2, .int (iN (n))), (0, .ref q), (1, .int (iN (p0)))]) hC.1 hC.2.1 dJ5_append_c97b9_4 rfl hl (by decide) rfl (fun ls hl => ?_)
  refine lv_iload_n hC.1 hC.2.1 dJ5_append_c97b9_5 rfl (lv_at hl 0 rfl) ?_
  refine lv_iload_n hC.1 hC.2.1 dJ5_append_c97b9_6 rfl (lv_at hl 2 rfl) ?_
  refine x_callS hC hw (lv_size hl) (c_J6_stringSize_0f7a4 l G (M := M) (p0 := p0) (by first | assumption | omega)) gJ5_append_c97b9_J6_stringSize_0f7a4 rfl dv_J6_stringSize_0f7a4_s rfl (Nat.le_of_ble_eq_true rfl) (by rw [hRf]; decide) (by rw [hRl]; decide) (by first | (rw [hRc]; decide) | omega) (by first | (rw [hRs]; decide) | omega) dJ5_append_c97b9_7 (fun r9 M_1 H locs hq hw => ?_)
  obtain ⟨rfl, hM9⟩ := hq
  rw [hM9] at hw
  show W p l e R s m args below meth c H locs _ _ _ (F0 m 10 ls [.int (iN (dgs p0)), .int (iN (n))])
  refine x_iadd hC dJ5_append_c97b9_10 ?_
  refine lv_istore_n (lv' := [(3, .int (iN (n + (dgs p0)))), (2, .int (iN (n))), (0, .ref q), (1, .int (iN (p0)))]) hC.1 hC.2.1 dJ5_append_c97b9_11 rfl hl (by decide) rfl (fun ls hl => ?_)
  refine lv_aload_n hC.1 hC.2.1 dJ5_append_c97b9_12 rfl (lv_at hl 2 rfl) ?_
  refine lv_iload_n hC.1 hC.2.1 dJ5_append_c97b9_13 rfl (lv_at hl 0 rfl) ?_
  refine x_callU hC hw (lv_size hl) (c_J5_ensureCapacityInternal_d00df l G hS (p0 := n + (dgs p0)) (by omega) (mc := mc) (ms := ms) (by omega) (by omega)) gJ5_append_c97b9_J5_ensureCapacityInternal_d00df_u100J4 rfl rfl du_J5_ensureCapacityInternal_d00df hS.2.1 rfl rfl (Nat.le_of_ble_eq_true rfl) (by rw [hRf]; decide) (by rw [hRl]; decide) (by first | (rw [hRc]; decide) | omega) (by first | (rw [hRs]; decide) | omega) dJ5_append_c97b9_14 (fun r9 M_2 H locs hq hw => ?_)
  obtain ⟨rfl, vk_3, capk_3, fk_3, hSk_3, hck_3⟩ := hq
  have hSk_3 : Sb G M0 M_2 q vk_3 ml (n) capk_3 fk_3 := hSk_3
  have hbk_3 := hSk_3.2.2.2.2
  show W p l e R s m args below meth c H locs _ _ _ (F0 m 17 ls [])
  refine lv_aload_n hC.1 hC.2.1 dJ5_append_c97b9_17 rfl (lv_at hl 2 rfl) ?_
  refine x_callU hC hw (lv_size hl) (c_J5_isLatin1_aae02 l G hSk_3) gJ5_append_c97b9_J5_isLatin1_aae02_u83J4 rfl rfl du_J5_isLatin1_aae02 hSk_3.2.1 rfl rfl (Nat.le_of_ble_eq_true rfl) (by rw [hRf]; decide) (by rw [hRl]; decide) (by first | (rw [hRc]; decide) | omega) (by first | (rw [hRs]; decide) | omega) dJ5_append_c97b9_18 (fun r9 M_4 H locs hq hw => ?_)
  obtain ⟨rfl, hM9⟩ := hq
  rw [hM9] at hw
  show W p l e R s m args below meth c H locs _ _ _ (F0 m 21 ls [.int (iN (1))])
  refine x_if_eq (tgt := 37) hC ⟨by omega, by omega⟩ dJ5_append_c97b9_21 (by decide) (fun c_5 => absurd c_5 (by omega)) (fun c_5 => ?_)
  refine lv_iload_n hC.1 hC.2.1 dJ5_append_c97b9_24 rfl (lv_at hl 3 rfl) ?_
  refine lv_iload_n hC.1 hC.2.1 dJ5_append_c97b9_25 rfl (lv_at hl 0 rfl) ?_
  refine lv_aload_n hC.1 hC.2.1 dJ5_append_c97b9_26 rfl (lv_at hl 2 rfl) ?_
  refine x_get hC hw hSk_3.2.1 rfl hinJ4 0 (by decide) (List.mem_cons_of_mem _ (List.mem_append_left _ (List.mem_append_left _ (List.mem_of_getElem? (i := 1) rfl)))) rfl dJ5_append_c97b9_27 ?_
  refine x_callS hC hw (lv_size hl) (c_J6_getChars_ba4f3 l G (xup_i hSk_3.2.2.1) hSk_3.2.2.2.1 (p0 := p0) (p1 := n + (dgs p0)) (by omega) (by omega) (by omega)) gJ5_append_c97b9_J6_getChars_ba4f3 rfl dv_J6_getChars_ba4f3_s rfl (Nat.le_of_ble_eq_true rfl) (by rw [hRf]; decide) (by rw [hRl]; decide) (by first | (rw [hRc]; decide) | omega) (by first | (rw [hRs]; decide) | omega) dJ5_append_c97b9_30 (fun r9 M_6 H locs hq hw => ?_)
  obtain ⟨⟨z_8, rfl⟩, fk_7, hbk_7, hMk_7⟩ := hq
  have hS_9 := hSk_3.arr hMk_7 hbk_7
  show W p l e R s m args below meth c H locs _ _ _ (F0 m 33 ls [.int (iN (z_8))])
  refine lv_pop hC.1 hC.2.1 dJ5_append_c97b9_33 rfl ?_
  refine lv_goto (tgt := 48) hC.1 hC.2.1 dJ5_append_c97b9_34 (by decide) ?_
  refine lv_aload_n hC.1 hC.2.1 dJ5_append_c97b9_48 rfl (lv_at hl 2 rfl) ?_
  refine lv_iload_n hC.1 hC.2.1 dJ5_append_c97b9_49 rfl (lv_at hl 0 rfl) ?_
  refine x_put (fs2 := [.ref vk_3, .int (iN (0)), .int ml, .int (iN (n + (dgs p0)))]) hC hw hS_9.2.1 rfl hinJ4 tyJ4 tyJ4_ok nmJ4 3 (by decide) (List.mem_cons_of_mem _ (List.mem_append_left _ (List.mem_append_left _ (List.mem_of_getElem? (i := 0) rfl)))) rfl rfl rfl (Nat.le_of_ble_eq_true rfl) rfl dJ5_append_c97b9_50 (fun H locs hw => ?_)
  obtain ⟨M_10, hM_11⟩ : ∃ z, z = va_up M_6 q (some (.inr (1, [.ref vk_3, .int (iN (0)), .int ml, .int (iN (n + (dgs p0)))]))) := ⟨_, rfl⟩
  rw [← hM_11] at hw
  have hS_12 := hS_9.obj (n2 := n + (dgs p0)) hM_11 (by omega)
  have hbhS_12 := hS_12.2.2.2.2
  refine lv_aload_n hC.1 hC.2.1 dJ5_append_c97b9_53 rfl (lv_at hl 2 rfl) ?_
  exact x_aret hC hw (by first | exact Or.inl ⟨_, rfl⟩ | exact Or.inr ⟨_, rfl⟩) (Or.inr ⟨_, rfl⟩) dJ5_append_c97b9_54 (by omega) (by omega) ⟨rfl, _, _, _, hS_12, by omega⟩
set_option maxHeartbeats 4000000 in
set_option maxRecDepth 100000 in
theorem c_J4_append_bf812 (l : Launch) (G : xG) {M : HM} {M0 : HM} {q v : Nat} {ml : Int32} {n : Int} {cap : Nat} {f : Nat → Int32} (hS : Sb G M0 M q v ml n cap f) {p0 : Int} (hp0 : -2147483648 ≤ p0 ∧ p0 ≤ 2147483647) {mc ms : Nat} (hr : (n + dgs p0) ≤ cap ∨ (1 ≤ mc ∧ 2 * cap + 2 ≤ ms)) (hcp : 16 ≤ (cap : Int) ∧ (cap : Int) ≤ 20000) : xMet l G yJ4_append_bf812 wsJ4_append_bf812 5 114 mc ms [.ref q, .int (iN (p0))] M (fun r M1 => r = some (.ref q) ∧ ∃ (v1 cap1 : Nat) (f1 : Nat → Int32), Sb G M0 M1 q v1 ml ((n + dgs p0)) cap1 f1 ∧ (((n + dgs p0) ≤ cap ∧ cap1 = cap) ∨ ((cap : Int) < (n + dgs p0) ∧ cap1 = 2 * cap + 2))) := by
  refine x_intro (cc := cJ4_append_bf812) (maxL := 2) (ret := (some (.object "java/lang/StringBuilder"))) (by exact pln_RJ4) rfl (Nat.le_of_ble_eq_true rfl) ?_
  intro p e R s m args below meth c ls hRf hRc hRs hRl hC hw hl
  have hSb := hS.2.2.2.2
  have hdl := dgs_le p0
  have hl : lv_has ls 2 [(0, .ref q), (1, .int (iN (p0)))] := hl
  refine lv_aload_n hC.1 hC.2.1 dJ4_append_bf812_0 rfl (lv_at hl 0 rfl) ?_
  refine lv_iload_n hC.1 hC.2.1 dJ4_append_bf812_1 rfl (lv_at hl 1 rfl) ?_
  have hdld_1 := dgs_le p0
  refine x_callSU (C := RJ4) (T := TJ4) (N := 4) hC hw (lv_size hl) (c_J5_append_c97b9 l G hS (p0 := p0) (by first | assumption | omega) (mc := mc) (ms := ms) (by omega) (by omega)) gJ4_append_bf812_J5_append_c97b9_s53 rfl ds_J5_append_c97b9 hS.2.1 rfl rfl (Nat.le_of_ble_eq_true rfl) (by rw [hRf]; decide) (by rw [hRl]; decide) (by first | (rw [hRc]; decide) | omega) (by first | (rw [hRs]; decide) | omega) dJ4_append_bf812_2 (fun r9 M_2 H locs hq hw => ?_)
  obtain ⟨rfl, vk_3, capk_3, fk_3, hSk_3, hck_3⟩ := hq
  have hSk_3 : Sb G M0 M_2 q vk_3 ml (n + dgs p0) capk_3 fk_3 := hSk_3
  have hbk_3 := hSk_3.2.2.2.2
  show W p l e R s m args below meth c H locs _ _ _ (F0 m 5 ls [.ref q])
  refine lv_pop hC.1 hC.2.1 dJ4_append_bf812_5 rfl ?_
  refine lv_aload_n hC.1 hC.2.1 dJ4_append_bf812_6 rfl (lv_at hl 0 rfl) ?_
  exact x_aret hC hw (by first | exact Or.inl ⟨_, rfl⟩ | exact Or.inr ⟨_, rfl⟩) (Or.inr ⟨_, rfl⟩) dJ4_append_bf812_7 (by omega) (by omega) ⟨rfl, _, _, _, hSk_3, by omega⟩
set_option maxHeartbeats 4000000 in
set_option maxRecDepth 100000 in
theorem c_J5_init_d00df (l : Launch) (G : xG) {M : HM} {M0 : HM} {q : Nat} (hO : M q = some (.inr (1, [.null, .int 0, .int 0, .int 0]))) (hq0 : M0 q = none) (hx0 : xExt M0 M) : xMet l G yJ5_init_d00df wsJ5_init_d00df 1 20 1 16 [.ref q, .int (iN (16))] M (fun r M1 => r = none ∧ ∃ (v1 : Nat) (f1 : Nat → Int32), Sb G M0 M1 q v1 0 0 16 f1) := by
  refine x_intro (cc := cJ5_init_d00df) (maxL := 2) (ret := none) (by exact pln_RJ5) rfl (Nat.le_of_ble_eq_true rfl) ?_
  intro p e R s m args below meth c ls hRf hRc hRs hRl hC hw hl
  have hinJ4 : ∀ w ∈ wsJ40, w ∈ wsJ5_init_d00df := fun w h => (List.mem_cons_of_mem _ (List.mem_append_right _ h))
  have hl : lv_has ls 2 [(0, .ref q), (1, .int (iN (16)))] := hl
  refine lv_aload_n hC.1 hC.2.1 dJ5_init_d00df_0 rfl (lv_at hl 0 rfl) ?_
  refine x_objInit hC (lv_size hl) (by decide +kernel) (by decide +kernel) (by decide +kernel) (by rw [hRf]; decide) (by rw [hRl]; exact Nat.le_of_ble_eq_true rfl) dJ5_init_d00df_1 ?_
  refine x_gsC hC hw (by decide +kernel) dJ5_init_d00df_4 ?_
  refine x_if_eq (tgt := 25) hC ⟨by omega, by omega⟩ dJ5_init_d00df_7 (by decide) (fun c_1 => absurd c_1 (by omega)) (fun c_1 => ?_)
  refine lv_aload_n hC.1 hC.2.1 dJ5_init_d00df_10 rfl (lv_at hl 0 rfl) ?_
  refine lv_iload_n hC.1 hC.2.1 dJ5_init_d00df_11 rfl (lv_at hl 1 rfl) ?_
  refine x_newB hC hw (by decide +kernel) (16) (by omega) (by omega) (by omega) (by omega) dJ5_init_d00df_12 (fun q_2 H hq_3 hw => ?_)
  obtain ⟨M_4, hM_5⟩ : ∃ z, z = va_up M q_2 (some (.inl (G.2 0, 16, .inl (fun _ => 0)))) := ⟨_, rfl⟩
  rw [← hM_5] at hw
  have hx_6 : xExt M M_4 := by rw [hM_5]; exact xExt.new hq_3
  have hA_7 := xup_s hM_5
  have hO_9 := hx_6 _ _ hO
  have hx_10 := xExt.tr hx0 hx_6
  refine x_put (fs2 := [.ref q_2, .int 0, .int 0, .int 0]) hC hw hO_9 rfl hinJ4 tyJ4 tyJ4_ok nmJ4 0 (by decide) (List.mem_cons_of_mem _ (List.mem_append_left _ (List.mem_of_getElem? (i := 5) rfl))) rfl rfl rfl (Nat.le_of_ble_eq_true rfl) rfl dJ5_init_d00df_14 (fun H locs hw => ?_)
  obtain ⟨M_11, hM_12⟩ : ∃ z, z = va_up M_4 q (some (.inr (1, [.ref q_2, .int 0, .int 0, .int 0]))) := ⟨_, rfl⟩
  rw [← hM_12] at hw
  have hO_13 := xup_s hM_12
  have hx_14 : xExt M0 M_11 := xExt.upd hq0 hx_10 hM_12
  have hA_15 : M_11 q_2 = some (.inl (G.2 0, 16, .inl (fun _ => 0))) := by rw [hM_12, va_up_ne _ _ (fun z => by have h8 := hA_7; rw [z, hO_9] at h8; cases h8)]; exact hA_7
  refine lv_aload_n hC.1 hC.2.1 dJ5_init_d00df_17 rfl (lv_at hl 0 rfl) ?_
  refine x_const hC dJ5_init_d00df_18 ?_
  refine x_put (fs2 := [.ref q_2, .int (iN (0)), .int 0, .int 0]) hC hw hO_13 rfl hinJ4 tyJ4 tyJ4_ok nmJ4 1 (by decide) (List.mem_cons_of_mem _ (List.mem_append_left _ (List.mem_of_getElem? (i := 6) rfl))) rfl rfl rfl (Nat.le_of_ble_eq_true rfl) rfl dJ5_init_d00df_19 (fun H locs hw => ?_)
  obtain ⟨M_16, hM_17⟩ : ∃ z, z = va_up M_11 q (some (.inr (1, [.ref q_2, .int (iN (0)), .int 0, .int 0]))) := ⟨_, rfl⟩
  rw [← hM_17] at hw
  have hO_18 := xup_s hM_17
  have hx_19 : xExt M0 M_16 := xExt.upd hq0 hx_14 hM_17
  have hA_20 : M_16 q_2 = some (.inl (G.2 0, 16, .inl (fun _ => 0))) := by rw [hM_17, va_up_ne _ _ (fun z => by have h8 := hA_15; rw [z, hO_13] at h8; cases h8)]; exact hA_15
  refine lv_goto (tgt := 38) hC.1 hC.2.1 dJ5_init_d00df_22 (by decide) ?_
  exact x_vret hC hw dJ5_init_d00df_38 (by first | decide | omega) (by first | decide | omega) ⟨rfl, _, _, ⟨hx_19, hq0, xExt.fr hx0 hq_3⟩, hO_18, hA_20, bf_0, by omega⟩
set_option maxHeartbeats 4000000 in
set_option maxRecDepth 100000 in
theorem c_J4_init_da8c8 (l : Launch) (G : xG) {M : HM} {M0 : HM} {q : Nat} (hO : M q = some (.inr (1, [.null, .int 0, .int 0, .int 0]))) (hq0 : M0 q = none) (hx0 : xExt M0 M) : xMet l G yJ4_init_da8c8 wsJ4_init_da8c8 2 41 1 16 [.ref q] M (fun r M1 => r = none ∧ ∃ (v1 : Nat) (f1 : Nat → Int32), Sb G M0 M1 q v1 0 0 16 f1) := by
  refine x_intro (cc := cJ4_init_da8c8) (maxL := 1) (ret := none) (by exact pln_RJ4) rfl (Nat.le_of_ble_eq_true rfl) ?_
  intro p e R s m args below meth c ls hRf hRc hRs hRl hC hw hl
  have hl : lv_has ls 1 [(0, .ref q)] := hl
  refine lv_aload_n hC.1 hC.2.1 dJ4_init_da8c8_0 rfl (lv_at hl 0 rfl) ?_
  refine x_bipush hC dJ4_init_da8c8_1 (by decide +kernel) ?_
  refine x_callI hC hw (lv_size hl) (c_J5_init_d00df l G hO hq0 hx0) gJ4_init_da8c8_J5_init_d00df rfl (by decide +kernel) (by decide +kernel) (by decide +kernel) rfl dv_J5_init_d00df_s rfl (Nat.le_of_ble_eq_true rfl) (by rw [hRf]; decide) (by rw [hRl]; decide) (by first | (rw [hRc]; decide) | omega) (by first | (rw [hRs]; decide) | omega) dJ4_init_da8c8_3 (fun r9 M_1 H locs hq hw => ?_)
  obtain ⟨rfl, vk_2, fk_2, hSk_2⟩ := hq
  have hSk_2 : Sb G M0 M_1 q vk_2 0 (0) (16) fk_2 := hSk_2
  have hbk_2 := hSk_2.2.2.2.2
  show W p l e R s m args below meth c H locs _ _ _ (F0 m 6 ls [])
  exact x_vret hC hw dJ4_init_da8c8_6 (by first | decide | omega) (by first | decide | omega) ⟨rfl, _, _, hSk_2⟩
set_option maxHeartbeats 4000000 in
set_option maxRecDepth 100000 in
theorem c_J5_init_a7421 (l : Launch) (G : xG) {M : HM} {M0 : HM} {q : Nat} (hO : M q = some (.inr (1, [.null, .int 0, .int 0, .int 0]))) (hq0 : M0 q = none) (hx0 : xExt M0 M) {nl : Nat} {w : String × Nat × String × List Int32} (hnl : xLits[nl]? = some w) (hwb : bf (fun j => w.2.2.2.getD j 0)) (hwl : (w.2.2.2.length : Int) ≤ 18) : xMet l G yJ5_init_a7421 wsJ5_init_a7421 7 155 1 (w.2.2.2.length + 16) [.ref q, .ref (G.2 (100 + 2 * nl))] M (fun r M1 => r = none ∧ ∃ (v1 cap1 : Nat) (f1 : Nat → Int32), Sb G M0 M1 q v1 0 (0 + (w.2.2.2.length : Int)) cap1 f1 ∧ cap1 = w.2.2.2.length + 16) := by
  refine x_intro (cc := cJ5_init_a7421) (maxL := 5) (ret := none) (by exact pln_RJ5) rfl (Nat.le_of_ble_eq_true rfl) ?_
  intro p e R s m args below meth c ls hRf hRc hRs hRl hC hw hl
  have hinJ4 : ∀ w ∈ wsJ40, w ∈ wsJ5_init_a7421 := fun w h => (List.mem_cons_of_mem _ (List.mem_append_left _ (List.mem_append_right _ h)))
  have hl : lv_has ls 5 [(0, .ref q), (1, .ref (G.2 (100 + 2 * nl)))] := hl
  refine lv_aload_n hC.1 hC.2.1 dJ5_init_a7421_0 rfl (lv_at hl 0 rfl) ?_
  refine x_objInit hC (lv_size hl) (by decide +kernel) (by decide +kernel) (by decide +kernel) (by rw [hRf]; decide) (by rw [hRl]; exact Nat.le_of_ble_eq_true rfl) dJ5_init_a7421_1 ?_
  refine lv_aload_n hC.1 hC.2.1 dJ5_init_a7421_4 rfl (lv_at hl 1 rfl) ?_
  refine x_callL hC hw (lv_size hl) hnl (c_J0_length_8abf5L l G (M := M) hnl hwb hwl) gJ5_init_a7421_J0_length_8abf5 rfl dv_J0_length_8abf5 rfl (Nat.le_of_ble_eq_true rfl) (by rw [hRf]; decide) (by rw [hRl]; decide) (by first | (rw [hRc]; decide) | omega) (by first | (rw [hRs]; decide) | omega) dJ5_init_a7421_5 (fun r9 M_1 H locs hq hw => ?_)
  obtain ⟨rfl, hM9⟩ := hq
  rw [hM9] at hw
  show W p l e R s m args below meth c H locs _ _ _ (F0 m 8 ls [.int (iN (w.2.2.2.length))])
  refine lv_istore_n (lv' := [(2, .int (iN (w.2.2.2.length))), (0, .ref q), (1, .ref (G.2 (100 + 2 * nl)))]) hC.1 hC.2.1 dJ5_init_a7421_8 rfl hl (by decide) rfl (fun ls hl => ?_)
  refine lv_iload_n hC.1 hC.2.1 dJ5_init_a7421_9 rfl (lv_at hl 0 rfl) ?_
  refine x_ldcN hC 2147483631 (by decide +kernel) dJ5_init_a7421_10 ?_
  refine x_icmp_ge (tgt := 22) hC ⟨by omega, by omega⟩ ⟨by omega, by omega⟩ dJ5_init_a7421_12 (by decide) (fun c_2 => ?_) (fun c_2 => ?_)
  · exfalso; omega
  · refine lv_iload_n hC.1 hC.2.1 dJ5_init_a7421_15 rfl (lv_at hl 0 rfl) ?_
    refine x_bipush hC dJ5_init_a7421_16 (by decide +kernel) ?_
    refine x_iadd hC dJ5_init_a7421_18 ?_
    refine lv_goto (tgt := 24) hC.1 hC.2.1 dJ5_init_a7421_19 (by decide) ?_
    refine lv_istore_n (lv' := [(3, .int (iN (w.2.2.2.length + 16))), (2, .int (iN (w.2.2.2.length))), (0, .ref q), (1, .ref (G.2 (100 + 2 * nl)))]) hC.1 hC.2.1 dJ5_init_a7421_24 rfl hl (by decide) rfl (fun ls hl => ?_)
    refine lv_aload_n hC.1 hC.2.1 dJ5_init_a7421_25 rfl (lv_at hl 3 rfl) ?_
    refine x_callL hC hw (lv_size hl) hnl (c_J0_coder_7d493L l G (M := M) hnl hwb hwl) gJ5_init_a7421_J0_coder_7d493 rfl dv_J0_coder_7d493 rfl (Nat.le_of_ble_eq_true rfl) (by rw [hRf]; decide) (by rw [hRl]; decide) (by first | (rw [hRc]; decide) | omega) (by first | (rw [hRs]; decide) | omega) dJ5_init_a7421_26 (fun r9 M_3 H locs hq hw => ?_)
    obtain ⟨rfl, hM9⟩ := hq
    rw [hM9] at hw
    show W p l e R s m args below meth c H locs _ _ _ (F0 m 29 ls [.int (iN (0))])
    refine lv_istore (lv' := [(4, .int (iN (0))), (3, .int (iN (w.2.2.2.length + 16))), (2, .int (iN (w.2.2.2.length))), (0, .ref q), (1, .ref (G.2 (100 + 2 * nl)))]) hC.1 hC.2.1 dJ5_init_a7421_29 hl (by decide) rfl (fun ls hl => ?_)
    refine lv_aload_n hC.1 hC.2.1 dJ5_init_a7421_31 rfl (lv_at hl 3 rfl) ?_
    refine lv_iload hC.1 hC.2.1 dJ5_init_a7421_32 (lv_at hl 0 rfl) ?_
    refine x_put (fs2 := [.null, .int (iN (0)), .int 0, .int 0]) hC hw hO rfl hinJ4 tyJ4 tyJ4_ok nmJ4 1 (by decide) (List.mem_cons_of_mem _ (List.mem_append_left _ (List.mem_append_left _ (List.mem_append_left _ (List.mem_of_getElem? (i := 5) rfl))))) rfl rfl rfl (Nat.le_of_ble_eq_true rfl) rfl dJ5_init_a7421_34 (fun H locs hw => ?_)
    obtain ⟨M_4, hM_5⟩ : ∃ z, z = va_up M q (some (.inr (1, [.null, .int (iN (0)), .int 0, .int 0]))) := ⟨_, rfl⟩
    rw [← hM_5] at hw
    have hO_6 := xup_s hM_5
    have hx_7 : xExt M0 M_4 := xExt.upd hq0 hx0 hM_5
    refine lv_aload_n hC.1 hC.2.1 dJ5_init_a7421_37 rfl (lv_at hl 3 rfl) ?_
    refine lv_iload hC.1 hC.2.1 dJ5_init_a7421_38 (lv_at hl 0 rfl) ?_
    refine x_if_ne (tgt := 49) hC ⟨by omega, by omega⟩ dJ5_init_a7421_40 (by decide) (fun c_8 => absurd c_8 (by omega)) (fun c_8 => ?_)
    refine lv_iload_n hC.1 hC.2.1 dJ5_init_a7421_43 rfl (lv_at hl 1 rfl) ?_
    refine x_newB hC hw (by decide +kernel) (w.2.2.2.length + 16) (by omega) (by omega) (by omega) (by omega) dJ5_init_a7421_44 (fun q_9 H hq_10 hw => ?_)
    obtain ⟨M_11, hM_12⟩ : ∃ z, z = va_up M_4 q_9 (some (.inl (G.2 0, w.2.2.2.length + 16, .inl (fun _ => 0)))) := ⟨_, rfl⟩
    rw [← hM_12] at hw
    have hx_13 : xExt M_4 M_11 := by rw [hM_12]; exact xExt.new hq_10
    have hA_14 := xup_s hM_12
    have hO_17 := hx_13 _ _ hO_6
    have hx_18 := xExt.tr hx_7 hx_13
    refine lv_goto (tgt := 53) hC.1 hC.2.1 dJ5_init_a7421_46 (by decide) ?_
    refine x_put (fs2 := [.ref q_9, .int (iN (0)), .int 0, .int 0]) hC hw hO_17 rfl hinJ4 tyJ4 tyJ4_ok nmJ4 0 (by decide) (List.mem_cons_of_mem _ (List.mem_append_left _ (List.mem_append_left _ (List.mem_append_left _ (List.mem_of_getElem? (i := 7) rfl))))) rfl rfl rfl (Nat.le_of_ble_eq_true rfl) rfl dJ5_init_a7421_53 (fun H locs hw => ?_)
    obtain ⟨M_19, hM_20⟩ : ∃ z, z = va_up M_11 q (some (.inr (1, [.ref q_9, .int (iN (0)), .int 0, .int 0]))) := ⟨_, rfl⟩
    rw [← hM_20] at hw
    have hO_21 := xup_s hM_20
    have hx_22 : xExt M0 M_19 := xExt.upd hq0 hx_18 hM_20
    have hA_23 : M_19 q_9 = some (.inl (G.2 0, w.2.2.2.length + 16, .inl (fun _ => 0))) := by rw [hM_20, va_up_ne _ _ (fun z => by have h8 := hA_14; rw [z, hO_17] at h8; cases h8)]; exact hA_14
    have hS_24 : Sb G M0 M_19 q q_9 0 0 (w.2.2.2.length + 16) (fun _ => 0) := ⟨⟨hx_22, hq0, xExt.fr hx_7 hq_10⟩, hO_21, hA_23, bf_0, by omega⟩
    have hbhS_24 := hS_24.2.2.2.2
    refine lv_aload_n hC.1 hC.2.1 dJ5_init_a7421_56 rfl (lv_at hl 3 rfl) ?_
    refine lv_aload_n hC.1 hC.2.1 dJ5_init_a7421_57 rfl (lv_at hl 4 rfl) ?_
    refine x_callO hC hw (lv_size hl) (c_J4_append_cf1ce l G hS_24 hnl hwb hwl (mc := 0) (ms := 0) (by omega) (by omega)) gJ5_init_a7421_J4_append_cf1ce_u43J4 rfl (b0 := cJ5_append_cf1ce) (m0 := 3) (r0 := (some (.object "java/lang/AbstractStringBuilder"))) (by decide +kernel) du_J4_append_cf1ce hS_24.2.1 rfl rfl (Nat.le_of_ble_eq_true rfl) (by rw [hRf]; decide) (by rw [hRl]; decide) (by first | (rw [hRc]; decide) | omega) (by first | (rw [hRs]; decide) | omega) dJ5_init_a7421_58 (fun r9 M_25 H locs hq hw => ?_)
    obtain ⟨rfl, vk_26, capk_26, fk_26, hSk_26, hck_26⟩ := hq
    have hSk_26 : Sb G M0 M_25 q vk_26 0 (0 + w.2.2.2.length) capk_26 fk_26 := hSk_26
    have hbk_26 := hSk_26.2.2.2.2
    show W p l e R s m args below meth c H locs _ _ _ (F0 m 61 ls [.ref q])
    refine lv_pop hC.1 hC.2.1 dJ5_init_a7421_61 rfl ?_
    exact x_vret hC hw dJ5_init_a7421_62 (by first | decide | omega) (by first | decide | omega) ⟨rfl, _, _, _, hSk_26, by omega⟩
set_option maxHeartbeats 4000000 in
set_option maxRecDepth 100000 in
theorem c_J4_init_a7421 (l : Launch) (G : xG) {M : HM} {M0 : HM} {q : Nat} (hO : M q = some (.inr (1, [.null, .int 0, .int 0, .int 0]))) (hq0 : M0 q = none) (hx0 : xExt M0 M) {nl : Nat} {w : String × Nat × String × List Int32} (hnl : xLits[nl]? = some w) (hwb : bf (fun j => w.2.2.2.getD j 0)) (hwl : (w.2.2.2.length : Int) ≤ 18) : xMet l G yJ4_init_a7421 wsJ4_init_a7421 8 179 1 (w.2.2.2.length + 16) [.ref q, .ref (G.2 (100 + 2 * nl))] M (fun r M1 => r = none ∧ ∃ (v1 cap1 : Nat) (f1 : Nat → Int32), Sb G M0 M1 q v1 0 (0 + (w.2.2.2.length : Int)) cap1 f1 ∧ cap1 = w.2.2.2.length + 16) := by
  refine x_intro (cc := cJ4_init_a7421) (maxL := 2) (ret := none) (by exact pln_RJ4) rfl (Nat.le_of_ble_eq_true rfl) ?_
  intro p e R s m args below meth c ls hRf hRc hRs hRl hC hw hl
  have hl : lv_has ls 2 [(0, .ref q), (1, .ref (G.2 (100 + 2 * nl)))] := hl
  refine lv_aload_n hC.1 hC.2.1 dJ4_init_a7421_0 rfl (lv_at hl 0 rfl) ?_
  refine lv_aload_n hC.1 hC.2.1 dJ4_init_a7421_1 rfl (lv_at hl 1 rfl) ?_
  refine x_callI hC hw (lv_size hl) (c_J5_init_a7421 l G hO hq0 hx0 hnl hwb hwl) gJ4_init_a7421_J5_init_a7421 rfl (by decide +kernel) (by decide +kernel) (by decide +kernel) rfl dv_J5_init_a7421_s rfl (Nat.le_of_ble_eq_true rfl) (by rw [hRf]; decide) (by rw [hRl]; decide) (by first | (rw [hRc]; decide) | omega) (by first | (rw [hRs]; decide) | omega) dJ4_init_a7421_2 (fun r9 M_1 H locs hq hw => ?_)
  obtain ⟨rfl, vk_2, capk_2, fk_2, hSk_2, hck_2⟩ := hq
  have hSk_2 : Sb G M0 M_1 q vk_2 0 (0 + (w.2.2.2.length : Int)) capk_2 fk_2 := hSk_2
  have hck_2 : capk_2 = w.2.2.2.length + 16 := hck_2
  have hbk_2 := hSk_2.2.2.2.2
  show W p l e R s m args below meth c H locs _ _ _ (F0 m 5 ls [])
  exact x_vret hC hw dJ4_init_a7421_5 (by first | decide | omega) (by first | decide | omega) ⟨rfl, _, _, _, hSk_2, by omega⟩
set_option maxHeartbeats 4000000 in
set_option maxRecDepth 100000 in
theorem c_J0_init_db425 (l : Launch) (G : xG) {M : HM} {M0 : HM} {q v : Nat} {ml : Int32} {n : Int} {cap : Nat} {f : Nat → Int32} (hS : Sb G M0 M q v ml n cap f) {Mb : HM} {o9 : Nat} (hO : M o9 = some (.inr (0, [.null, .int 0, .int 0, .int 0]))) (hq0 : Mb o9 = none) (hx0 : xExt Mb M) (hqs : M0 o9 = none) : xMet l G yJ0_init_db425 wsJ0_init_db425 3 72 1 n.toNat [.ref o9, .ref q, .null] M (fun r M1 => r = none ∧ xExt Mb M1 ∧ ∃ (v9 : Nat) (f9 : Nat → Int32), Sv G M1 o9 v9 0 0 n.toNat f9) := by
  refine x_intro (cc := cJ0_init_db425) (maxL := 5) (ret := none) (by exact pln_RJ0) rfl (Nat.le_of_ble_eq_true rfl) ?_
  intro p e R s m args below meth c ls hRf hRc hRs hRl hC hw hl
  have hSb := hS.2.2.2.2
  obtain ⟨nn, rfl⟩ : ∃ nn : Nat, n = (nn : Int) := ⟨n.toNat, by omega⟩
  have hinJ0 : ∀ w ∈ wsJ00, w ∈ wsJ0_init_db425 := fun w h => (List.mem_cons_of_mem _ (List.mem_append_left _ (List.mem_append_right _ h)))
  have hl : lv_has ls 5 [(0, .ref o9), (1, .ref q), (2, .null)] := hl
  refine lv_aload_n hC.1 hC.2.1 dJ0_init_db425_0 rfl (lv_at hl 0 rfl) ?_
  refine x_objInit hC (lv_size hl) (by decide +kernel) (by decide +kernel) (by decide +kernel) (by rw [hRf]; decide) (by rw [hRl]; exact Nat.le_of_ble_eq_true rfl) dJ0_init_db425_1 ?_
  refine lv_aload_n hC.1 hC.2.1 dJ0_init_db425_4 rfl (lv_at hl 1 rfl) ?_
  refine x_callU hC hw (lv_size hl) (c_J5_getValue_6d5f1 l G hS) gJ0_init_db425_J5_getValue_6d5f1_u552J4 rfl rfl du_J5_getValue_6d5f1 hS.2.1 rfl rfl (Nat.le_of_ble_eq_true rfl) (by rw [hRf]; decide) (by rw [hRl]; decide) (by first | (rw [hRc]; decide) | omega) (by first | (rw [hRs]; decide) | omega) dJ0_init_db425_5 (fun r9 M_1 H locs hq hw => ?_)
  obtain ⟨rfl, hM9⟩ := hq
  rw [hM9] at hw
  show W p l e R s m args below meth c H locs _ _ _ (F0 m 8 ls [.ref v])
  refine lv_astore_n (lv' := [(3, .ref v), (0, .ref o9), (1, .ref q), (2, .null)]) hC.1 hC.2.1 dJ0_init_db425_8 rfl hl (by decide) rfl (fun ls hl => ?_)
  refine lv_aload_n hC.1 hC.2.1 dJ0_init_db425_9 rfl (lv_at hl 2 rfl) ?_
  refine x_callO hC hw (lv_size hl) (c_J4_length_8abf5 l G hS) gJ0_init_db425_J4_length_8abf5_u549J4 rfl (b0 := cJ5_length_8abf5) (m0 := 1) (r0 := (some .int)) (by decide +kernel) du_J4_length_8abf5 hS.2.1 rfl rfl (Nat.le_of_ble_eq_true rfl) (by rw [hRf]; decide) (by rw [hRl]; decide) (by first | (rw [hRc]; decide) | omega) (by first | (rw [hRs]; decide) | omega) dJ0_init_db425_10 (fun r9 M_2 H locs hq hw => ?_)
  obtain ⟨rfl, hM9⟩ := hq
  rw [hM9] at hw
  show W p l e R s m args below meth c H locs _ _ _ (F0 m 13 ls [.int (iN ((nn : Int)))])
  refine lv_istore (lv' := [(4, .int (iN ((nn : Int)))), (3, .ref v), (0, .ref o9), (1, .ref q), (2, .null)]) hC.1 hC.2.1 dJ0_init_db425_13 hl (by decide) rfl (fun ls hl => ?_)
  refine lv_aload_n hC.1 hC.2.1 dJ0_init_db425_15 rfl (lv_at hl 3 rfl) ?_
  refine x_callU hC hw (lv_size hl) (c_J5_isLatin1_aae02 l G hS) gJ0_init_db425_J5_isLatin1_aae02_u1047J4 rfl rfl du_J5_isLatin1_aae02 hS.2.1 rfl rfl (Nat.le_of_ble_eq_true rfl) (by rw [hRf]; decide) (by rw [hRl]; decide) (by first | (rw [hRc]; decide) | omega) (by first | (rw [hRs]; decide) | omega) dJ0_init_db425_16 (fun r9 M_3 H locs hq hw => ?_)
  obtain ⟨rfl, hM9⟩ := hq
  rw [hM9] at hw
  show W p l e R s m args below meth c H locs _ _ _ (F0 m 19 ls [.int (iN (1))])
  refine x_if_eq (tgt := 41) hC ⟨by omega, by omega⟩ dJ0_init_db425_19 (by decide) (fun c_4 => absurd c_4 (by omega)) (fun c_4 => ?_)
  refine lv_aload_n hC.1 hC.2.1 dJ0_init_db425_22 rfl (lv_at hl 2 rfl) ?_
  refine x_const hC dJ0_init_db425_23 ?_
  refine x_putF (fs2 := [.null, .int (iN (0)), .int 0, .int 0]) hC hw hO rfl hinJ0 tyJ0 tyJ0_ok nmJ0 1 (by decide) (by decide +kernel) rfl rfl rfl rfl (Nat.le_of_ble_eq_true rfl) rfl dJ0_init_db425_24 (fun H locs hw => ?_)
  obtain ⟨M_5, hM_6⟩ : ∃ z, z = va_up M o9 (some (.inr (0, [.null, .int (iN (0)), .int 0, .int 0]))) := ⟨_, rfl⟩
  rw [← hM_6] at hw
  have hO_7 := xup_s hM_6
  have hx_8 : xExt Mb M_5 := xExt.upd hq0 hx0 hM_6
  have hS_9 := hS.oth hM_6 hO hqs
  refine lv_aload_n hC.1 hC.2.1 dJ0_init_db425_27 rfl (lv_at hl 2 rfl) ?_
  refine lv_aload_n hC.1 hC.2.1 dJ0_init_db425_28 rfl (lv_at hl 1 rfl) ?_
  refine x_const hC dJ0_init_db425_29 ?_
  refine lv_iload hC.1 hC.2.1 dJ0_init_db425_30 (lv_at hl 0 rfl) ?_
  refine x_callS hC hw (lv_size hl) (c_J7_copyOfRange_39247 l G (N := nn) hS_9.2.2.1 hS_9.2.2.2.1 (by omega)) gJ0_init_db425_J7_copyOfRange_39247 rfl dv_J7_copyOfRange_39247_s rfl (Nat.le_of_ble_eq_true rfl) (by rw [hRf]; decide) (by rw [hRl]; decide) (by first | (rw [hRc]; decide) | omega) (by first | (rw [hRs]; decide) | omega) dJ0_init_db425_32 (fun r9 M_10 H locs hq hw => ?_)
  obtain ⟨qk_11, fk_11, rfl, hqk_11, hxk_11, hAk_11, hbk_11⟩ := hq
  have h_12 := hS_9.ext hxk_11
  have hO_14 := hxk_11 _ _ hO_7
  have hx_15 := xExt.tr hx_8 hxk_11
  show W p l e R s m args below meth c H locs _ _ _ (F0 m 35 ls [.ref qk_11, .ref o9])
  refine x_putF (fs2 := [.ref qk_11, .int (iN (0)), .int 0, .int 0]) hC hw hO_14 rfl hinJ0 tyJ0 tyJ0_ok nmJ0 0 (by decide) (by decide +kernel) rfl rfl rfl rfl (Nat.le_of_ble_eq_true rfl) rfl dJ0_init_db425_35 (fun H locs hw => ?_)
  obtain ⟨M_16, hM_17⟩ : ∃ z, z = va_up M_10 o9 (some (.inr (0, [.ref qk_11, .int (iN (0)), .int 0, .int 0]))) := ⟨_, rfl⟩
  rw [← hM_17] at hw
  have hO_18 := xup_s hM_17
  have hx_19 : xExt Mb M_16 := xExt.upd hq0 hx_15 hM_17
  have hS_20 := h_12.oth hM_17 hO_14 hqs
  have hA_21 : M_16 qk_11 = some (.inl (G.2 0, nn, .inl fk_11)) := by rw [hM_17, va_up_ne _ _ (fun z => by have h8 := hAk_11; rw [z, hO_14] at h8; cases h8)]; exact hAk_11
  refine lv_goto (tgt := 97) hC.1 hC.2.1 dJ0_init_db425_38 (by decide) ?_
  exact x_vret hC hw dJ0_init_db425_97 (by first | decide | omega) (by first | decide | omega) ⟨rfl, hx_19, _, _, hO_18, hA_21, hbk_11, by omega⟩
set_option maxHeartbeats 4000000 in
set_option maxRecDepth 100000 in
theorem c_J0_init_81219 (l : Launch) (G : xG) {M : HM} {M0 : HM} {q v : Nat} {ml : Int32} {n : Int} {cap : Nat} {f : Nat → Int32} (hS : Sb G M0 M q v ml n cap f) {Mb : HM} {o9 : Nat} (hO : M o9 = some (.inr (0, [.null, .int 0, .int 0, .int 0]))) (hq0 : Mb o9 = none) (hx0 : xExt Mb M) (hqs : M0 o9 = none) : xMet l G yJ0_init_81219 wsJ0_init_81219 4 96 1 n.toNat [.ref o9, .ref q] M (fun r M1 => r = none ∧ xExt Mb M1 ∧ ∃ (v9 : Nat) (f9 : Nat → Int32), Sv G M1 o9 v9 0 0 n.toNat f9) := by
  refine x_intro (cc := cJ0_init_81219) (maxL := 2) (ret := none) (by exact pln_RJ0) rfl (Nat.le_of_ble_eq_true rfl) ?_
  intro p e R s m args below meth c ls hRf hRc hRs hRl hC hw hl
  have hSb := hS.2.2.2.2
  obtain ⟨nn, rfl⟩ : ∃ nn : Nat, n = (nn : Int) := ⟨n.toNat, by omega⟩
  have hl : lv_has ls 2 [(0, .ref o9), (1, .ref q)] := hl
  refine lv_aload_n hC.1 hC.2.1 dJ0_init_81219_0 rfl (lv_at hl 0 rfl) ?_
  refine lv_aload_n hC.1 hC.2.1 dJ0_init_81219_1 rfl (lv_at hl 1 rfl) ?_
  refine lv_null hC.1 hC.2.1 dJ0_init_81219_2 ?_
  refine x_callI hC hw (lv_size hl) (c_J0_init_db425 l G hS hO hq0 hx0 hqs) gJ0_init_81219_J0_init_db425 rfl (by decide +kernel) (by decide +kernel) (by decide +kernel) rfl dv_J0_init_db425_s rfl (Nat.le_of_ble_eq_true rfl) (by rw [hRf]; decide) (by rw [hRl]; decide) (by first | (rw [hRc]; decide) | omega) (by first | (rw [hRs]; decide) | omega) dJ0_init_81219_3 (fun r9 M_1 H locs hq hw => ?_)
  obtain ⟨rfl, hxk_2, vk_2, fk_2, hVk_2⟩ := hq
  show W p l e R s m args below meth c H locs _ _ _ (F0 m 6 ls [])
  exact x_vret hC hw dJ0_init_81219_6 (by first | decide | omega) (by first | decide | omega) ⟨rfl, hxk_2, _, _, hVk_2⟩
set_option maxHeartbeats 4000000 in
set_option maxRecDepth 100000 in
theorem c_J4_toString_0e30d (l : Launch) (G : xG) {M : HM} {M0 : HM} {q v : Nat} {ml : Int32} {n : Int} {cap : Nat} {f : Nat → Int32} (hS : Sb G M0 M q v ml n cap f) : xMet l G yJ4_toString_0e30d wsJ4_toString_0e30d 5 117 2 (n.toNat + 4) [.ref q] M (fun r M1 => ∃ (q9 v9 : Nat) (f9 : Nat → Int32), r = some (.ref q9) ∧ xExt M M1 ∧ Sv G M1 q9 v9 0 0 n.toNat f9) := by
  refine x_intro (cc := cJ4_toString_0e30d) (maxL := 1) (ret := (some (.object "java/lang/String"))) (by exact pln_RJ4) rfl (Nat.le_of_ble_eq_true rfl) ?_
  intro p e R s m args below meth c ls hRf hRc hRs hRl hC hw hl
  have hSb := hS.2.2.2.2
  obtain ⟨nn, rfl⟩ : ∃ nn : Nat, n = (nn : Int) := ⟨n.toNat, by omega⟩
  have hinJ0 : ∀ w ∈ wsJ00, w ∈ wsJ4_toString_0e30d := fun w h => (List.mem_cons_of_mem _ (List.mem_append_left _ (List.mem_append_right _ h)))
  have hl : lv_has ls 1 [(0, .ref q)] := hl
  refine x_new (fs := [.null, .int 0, .int 0, .int 0]) (ci := 0) hC hw rfl hinJ0 tyJ0 tyJ0_ok (by decide +kernel) (by decide +kernel) (by decide +kernel) (fun j hj => by rcases (show j = 0 ∨ j = 1 ∨ j = 2 ∨ j = 3 by omega) with rfl | rfl | rfl | rfl <;> rfl) (by omega) (by omega) dJ4_toString_0e30d_0 (fun q_1 H hq_4 hw => ?_)
  obtain ⟨M_2, hM_3⟩ : ∃ z, z = va_up M q_1 (some (.inr (0, [.null, .int 0, .int 0, .int 0]))) := ⟨_, rfl⟩
  rw [← hM_3] at hw
  have hx_5 : xExt M M_2 := by rw [hM_3]; exact xExt.new hq_4
  have hO_6 := xup_s hM_3
  have h_7 := hS.ext hx_5
  refine lv_dup hC.1 hC.2.1 dJ4_toString_0e30d_3 rfl ?_
  refine lv_aload_n hC.1 hC.2.1 dJ4_toString_0e30d_4 rfl (lv_at hl 0 rfl) ?_
  refine x_callI hC hw (lv_size hl) (c_J0_init_81219 l G h_7 hO_6 hq_4 hx_5 (xExt.fr hS.1.1 hq_4)) gJ4_toString_0e30d_J0_init_81219 rfl (by decide +kernel) (by decide +kernel) (by decide +kernel) rfl dv_J0_init_81219_s rfl (Nat.le_of_ble_eq_true rfl) (by rw [hRf]; decide) (by rw [hRl]; decide) (by first | (rw [hRc]; decide) | omega) (by first | (rw [hRs]; decide) | omega) dJ4_toString_0e30d_5 (fun r9 M_8 H locs hq hw => ?_)
  obtain ⟨rfl, hxk_9, vk_9, fk_9, hVk_9⟩ := hq
  show W p l e R s m args below meth c H locs _ _ _ (F0 m 8 ls [.ref q_1])
  exact x_aret hC hw (by first | exact Or.inl ⟨_, rfl⟩ | exact Or.inr ⟨_, rfl⟩) (Or.inr ⟨_, rfl⟩) dJ4_toString_0e30d_8 (by omega) (by omega) ⟨_, _, _, rfl, hxk_9, hVk_9⟩
