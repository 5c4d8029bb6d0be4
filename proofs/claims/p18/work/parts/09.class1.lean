/-! the methods of the class, by program -/
theorem dv_X3_bookAt : yX3_bookAt.cls = RX3 ∧ yX3_bookAt.cls ≠ "java/lang/invoke/MethodHandle" ∧ yX3_bookAt.cls ≠ "java/lang/invoke/VarHandle" ∧ (parseMethodDescriptor yX3_bookAt.desc).map (fun d => d.parameters.length) = some 1 := ⟨rfl, nmh_RX3.1, nmh_RX3.2, pds_9⟩
theorem dv_X3_checkKey_s : yX3_checkKey.cls ≠ "java/lang/invoke/MethodHandle" ∧ yX3_checkKey.cls ≠ "java/lang/invoke/VarHandle" ∧ (parseMethodDescriptor yX3_checkKey.desc).map (fun d => d.parameters.length) = some 1 := ⟨nmh_RX3.1, nmh_RX3.2, pds_10⟩
theorem dv_X0_touch : yX0_touch.cls = RX0 ∧ yX0_touch.cls ≠ "java/lang/invoke/MethodHandle" ∧ yX0_touch.cls ≠ "java/lang/invoke/VarHandle" ∧ (parseMethodDescriptor yX0_touch.desc).map (fun d => d.parameters.length) = some 0 := ⟨rfl, nmh_RX0.1, nmh_RX0.2, pds_11⟩
theorem dv_X3_checkValue_s : yX3_checkValue.cls ≠ "java/lang/invoke/MethodHandle" ∧ yX3_checkValue.cls ≠ "java/lang/invoke/VarHandle" ∧ (parseMethodDescriptor yX3_checkValue.desc).map (fun d => d.parameters.length) = some 1 := ⟨nmh_RX3.1, nmh_RX3.2, pds_10⟩
theorem dv_X3_bookToWritePair : yX3_bookToWritePair.cls = RX3 ∧ yX3_bookToWritePair.cls ≠ "java/lang/invoke/MethodHandle" ∧ yX3_bookToWritePair.cls ≠ "java/lang/invoke/VarHandle" ∧ (parseMethodDescriptor yX3_bookToWritePair.desc).map (fun d => d.parameters.length) = some 3 := ⟨rfl, nmh_RX3.1, nmh_RX3.2, pds_12⟩
theorem dv_X3_bookToWriteKey : yX3_bookToWriteKey.cls = RX3 ∧ yX3_bookToWriteKey.cls ≠ "java/lang/invoke/MethodHandle" ∧ yX3_bookToWriteKey.cls ≠ "java/lang/invoke/VarHandle" ∧ (parseMethodDescriptor yX3_bookToWriteKey.desc).map (fun d => d.parameters.length) = some 2 := ⟨rfl, nmh_RX3.1, nmh_RX3.2, pds_13⟩
theorem dv_X0_putTogether : yX0_putTogether.cls = RX0 ∧ yX0_putTogether.cls ≠ "java/lang/invoke/MethodHandle" ∧ yX0_putTogether.cls ≠ "java/lang/invoke/VarHandle" ∧ (parseMethodDescriptor yX0_putTogether.desc).map (fun d => d.parameters.length) = some 2 := ⟨rfl, nmh_RX0.1, nmh_RX0.2, pds_3⟩
theorem dv_X0_growKey : yX0_growKey.cls = RX0 ∧ yX0_growKey.cls ≠ "java/lang/invoke/MethodHandle" ∧ yX0_growKey.cls ≠ "java/lang/invoke/VarHandle" ∧ (parseMethodDescriptor yX0_growKey.desc).map (fun d => d.parameters.length) = some 1 := ⟨rfl, nmh_RX0.1, nmh_RX0.2, pds_0⟩
theorem dv_X0_halveKey : yX0_halveKey.cls = RX0 ∧ yX0_halveKey.cls ≠ "java/lang/invoke/MethodHandle" ∧ yX0_halveKey.cls ≠ "java/lang/invoke/VarHandle" ∧ (parseMethodDescriptor yX0_halveKey.desc).map (fun d => d.parameters.length) = some 1 := ⟨rfl, nmh_RX0.1, nmh_RX0.2, pds_0⟩
theorem dv_X0_doubleKey : yX0_doubleKey.cls = RX0 ∧ yX0_doubleKey.cls ≠ "java/lang/invoke/MethodHandle" ∧ yX0_doubleKey.cls ≠ "java/lang/invoke/VarHandle" ∧ (parseMethodDescriptor yX0_doubleKey.desc).map (fun d => d.parameters.length) = some 1 := ⟨rfl, nmh_RX0.1, nmh_RX0.2, pds_0⟩
theorem dv_X0_raiseAll : yX0_raiseAll.cls = RX0 ∧ yX0_raiseAll.cls ≠ "java/lang/invoke/MethodHandle" ∧ yX0_raiseAll.cls ≠ "java/lang/invoke/VarHandle" ∧ (parseMethodDescriptor yX0_raiseAll.desc).map (fun d => d.parameters.length) = some 1 := ⟨rfl, nmh_RX0.1, nmh_RX0.2, pds_0⟩
theorem dv_X0_removeMultiples : yX0_removeMultiples.cls = RX0 ∧ yX0_removeMultiples.cls ≠ "java/lang/invoke/MethodHandle" ∧ yX0_removeMultiples.cls ≠ "java/lang/invoke/VarHandle" ∧ (parseMethodDescriptor yX0_removeMultiples.desc).map (fun d => d.parameters.length) = some 1 := ⟨rfl, nmh_RX0.1, nmh_RX0.2, pds_0⟩
theorem dv_X0_countOfValue : yX0_countOfValue.cls = RX0 ∧ yX0_countOfValue.cls ≠ "java/lang/invoke/MethodHandle" ∧ yX0_countOfValue.cls ≠ "java/lang/invoke/VarHandle" ∧ (parseMethodDescriptor yX0_countOfValue.desc).map (fun d => d.parameters.length) = some 1 := ⟨rfl, nmh_RX0.1, nmh_RX0.2, pds_0⟩
theorem dv_X3_openViews : yX3_openViews.cls = RX3 ∧ yX3_openViews.cls ≠ "java/lang/invoke/MethodHandle" ∧ yX3_openViews.cls ≠ "java/lang/invoke/VarHandle" ∧ (parseMethodDescriptor yX3_openViews.desc).map (fun d => d.parameters.length) = some 0 := ⟨rfl, nmh_RX3.1, nmh_RX3.2, pds_4⟩
theorem dv_X3_viewsOnto : yX3_viewsOnto.cls = RX3 ∧ yX3_viewsOnto.cls ≠ "java/lang/invoke/MethodHandle" ∧ yX3_viewsOnto.cls ≠ "java/lang/invoke/VarHandle" ∧ (parseMethodDescriptor yX3_viewsOnto.desc).map (fun d => d.parameters.length) = some 1 := ⟨rfl, nmh_RX3.1, nmh_RX3.2, pds_14⟩
theorem dv_X3_viewAt : yX3_viewAt.cls = RX3 ∧ yX3_viewAt.cls ≠ "java/lang/invoke/MethodHandle" ∧ yX3_viewAt.cls ≠ "java/lang/invoke/VarHandle" ∧ (parseMethodDescriptor yX3_viewAt.desc).map (fun d => d.parameters.length) = some 1 := ⟨rfl, nmh_RX3.1, nmh_RX3.2, pds_15⟩
theorem dv_X2_isBroken : yX2_isBroken.cls = RX2 ∧ yX2_isBroken.cls ≠ "java/lang/invoke/MethodHandle" ∧ yX2_isBroken.cls ≠ "java/lang/invoke/VarHandle" ∧ (parseMethodDescriptor yX2_isBroken.desc).map (fun d => d.parameters.length) = some 0 := ⟨rfl, nmh_RX2.1, nmh_RX2.2, pds_16⟩
theorem dv_X2_init_s : yX2_init.cls ≠ "java/lang/invoke/MethodHandle" ∧ yX2_init.cls ≠ "java/lang/invoke/VarHandle" ∧ (parseMethodDescriptor yX2_init.desc).map (fun d => d.parameters.length) = some 1 := ⟨nmh_RX2.1, nmh_RX2.2, pds_17⟩
theorem dv_X1_size : yX1_size.cls = RX1 ∧ yX1_size.cls ≠ "java/lang/invoke/MethodHandle" ∧ yX1_size.cls ≠ "java/lang/invoke/VarHandle" ∧ (parseMethodDescriptor yX1_size.desc).map (fun d => d.parameters.length) = some 0 := ⟨rfl, nmh_RX1.1, nmh_RX1.2, pds_4⟩
theorem dv_X3_checkUnlike_s : yX3_checkUnlike.cls ≠ "java/lang/invoke/MethodHandle" ∧ yX3_checkUnlike.cls ≠ "java/lang/invoke/VarHandle" ∧ (parseMethodDescriptor yX3_checkUnlike.desc).map (fun d => d.parameters.length) = some 2 := ⟨nmh_RX3.1, nmh_RX3.2, pds_18⟩
theorem dv_X0_becomeLike : yX0_becomeLike.cls = RX0 ∧ yX0_becomeLike.cls ≠ "java/lang/invoke/MethodHandle" ∧ yX0_becomeLike.cls ≠ "java/lang/invoke/VarHandle" ∧ (parseMethodDescriptor yX0_becomeLike.desc).map (fun d => d.parameters.length) = some 1 := ⟨rfl, nmh_RX0.1, nmh_RX0.2, pds_5⟩
theorem dv_X3_shutViewsOnto : yX3_shutViewsOnto.cls = RX3 ∧ yX3_shutViewsOnto.cls ≠ "java/lang/invoke/MethodHandle" ∧ yX3_shutViewsOnto.cls ≠ "java/lang/invoke/VarHandle" ∧ (parseMethodDescriptor yX3_shutViewsOnto.desc).map (fun d => d.parameters.length) = some 1 := ⟨rfl, nmh_RX3.1, nmh_RX3.2, pds_14⟩
theorem dv_X0_removeByOther : yX0_removeByOther.cls = RX0 ∧ yX0_removeByOther.cls ≠ "java/lang/invoke/MethodHandle" ∧ yX0_removeByOther.cls ≠ "java/lang/invoke/VarHandle" ∧ (parseMethodDescriptor yX0_removeByOther.desc).map (fun d => d.parameters.length) = some 2 := ⟨rfl, nmh_RX0.1, nmh_RX0.2, pds_19⟩
theorem dv_X1_init_s : yX1_init.cls ≠ "java/lang/invoke/MethodHandle" ∧ yX1_init.cls ≠ "java/lang/invoke/VarHandle" ∧ (parseMethodDescriptor yX1_init.desc).map (fun d => d.parameters.length) = some 5 := ⟨nmh_RX1.1, nmh_RX1.2, pds_20⟩
theorem dv_X3_openView : yX3_openView.cls = RX3 ∧ yX3_openView.cls ≠ "java/lang/invoke/MethodHandle" ∧ yX3_openView.cls ≠ "java/lang/invoke/VarHandle" ∧ (parseMethodDescriptor yX3_openView.desc).map (fun d => d.parameters.length) = some 1 := ⟨rfl, nmh_RX3.1, nmh_RX3.2, pds_21⟩
theorem dv_X3_checkViewIsFree : yX3_checkViewIsFree.cls = RX3 ∧ yX3_checkViewIsFree.cls ≠ "java/lang/invoke/MethodHandle" ∧ yX3_checkViewIsFree.cls ≠ "java/lang/invoke/VarHandle" ∧ (parseMethodDescriptor yX3_checkViewIsFree.desc).map (fun d => d.parameters.length) = some 0 := ⟨rfl, nmh_RX3.1, nmh_RX3.2, pds_11⟩
theorem dv_X3_viewToWritePair : yX3_viewToWritePair.cls = RX3 ∧ yX3_viewToWritePair.cls ≠ "java/lang/invoke/MethodHandle" ∧ yX3_viewToWritePair.cls ≠ "java/lang/invoke/VarHandle" ∧ (parseMethodDescriptor yX3_viewToWritePair.desc).map (fun d => d.parameters.length) = some 3 := ⟨rfl, nmh_RX3.1, nmh_RX3.2, pds_22⟩
theorem dv_X3_beginWalk : yX3_beginWalk.cls = RX3 ∧ yX3_beginWalk.cls ≠ "java/lang/invoke/MethodHandle" ∧ yX3_beginWalk.cls ≠ "java/lang/invoke/VarHandle" ∧ (parseMethodDescriptor yX3_beginWalk.desc).map (fun d => d.parameters.length) = some 1 := ⟨rfl, nmh_RX3.1, nmh_RX3.2, pds_21⟩
theorem dv_X3_soundWalk : yX3_soundWalk.cls = RX3 ∧ yX3_soundWalk.cls ≠ "java/lang/invoke/MethodHandle" ∧ yX3_soundWalk.cls ≠ "java/lang/invoke/VarHandle" ∧ (parseMethodDescriptor yX3_soundWalk.desc).map (fun d => d.parameters.length) = some 0 := ⟨rfl, nmh_RX3.1, nmh_RX3.2, pds_23⟩
theorem dv_X2_advance : yX2_advance.cls = RX2 ∧ yX2_advance.cls ≠ "java/lang/invoke/MethodHandle" ∧ yX2_advance.cls ≠ "java/lang/invoke/VarHandle" ∧ (parseMethodDescriptor yX2_advance.desc).map (fun d => d.parameters.length) = some 0 := ⟨rfl, nmh_RX2.1, nmh_RX2.2, pds_4⟩
theorem dv_X2_keyAtHand : yX2_keyAtHand.cls = RX2 ∧ yX2_keyAtHand.cls ≠ "java/lang/invoke/MethodHandle" ∧ yX2_keyAtHand.cls ≠ "java/lang/invoke/VarHandle" ∧ (parseMethodDescriptor yX2_keyAtHand.desc).map (fun d => d.parameters.length) = some 0 := ⟨rfl, nmh_RX2.1, nmh_RX2.2, pds_4⟩
theorem dv_X2_canDrop : yX2_canDrop.cls = RX2 ∧ yX2_canDrop.cls ≠ "java/lang/invoke/MethodHandle" ∧ yX2_canDrop.cls ≠ "java/lang/invoke/VarHandle" ∧ (parseMethodDescriptor yX2_canDrop.desc).map (fun d => d.parameters.length) = some 0 := ⟨rfl, nmh_RX2.1, nmh_RX2.2, pds_16⟩
theorem dv_X2_dropLastStep : yX2_dropLastStep.cls = RX2 ∧ yX2_dropLastStep.cls ≠ "java/lang/invoke/MethodHandle" ∧ yX2_dropLastStep.cls ≠ "java/lang/invoke/VarHandle" ∧ (parseMethodDescriptor yX2_dropLastStep.desc).map (fun d => d.parameters.length) = some 0 := ⟨rfl, nmh_RX2.1, nmh_RX2.2, pds_11⟩
theorem dv_X0_isLike : yX0_isLike.cls = RX0 ∧ yX0_isLike.cls ≠ "java/lang/invoke/MethodHandle" ∧ yX0_isLike.cls ≠ "java/lang/invoke/VarHandle" ∧ (parseMethodDescriptor yX0_isLike.desc).map (fun d => d.parameters.length) = some 1 := ⟨rfl, nmh_RX0.1, nmh_RX0.2, pds_24⟩
theorem dv_X3_checkWhat_s : yX3_checkWhat.cls ≠ "java/lang/invoke/MethodHandle" ∧ yX3_checkWhat.cls ≠ "java/lang/invoke/VarHandle" ∧ (parseMethodDescriptor yX3_checkWhat.desc).map (fun d => d.parameters.length) = some 2 := ⟨nmh_RX3.1, nmh_RX3.2, pds_18⟩
theorem dv_X0_unlikeValues : yX0_unlikeValues.cls = RX0 ∧ yX0_unlikeValues.cls ≠ "java/lang/invoke/MethodHandle" ∧ yX0_unlikeValues.cls ≠ "java/lang/invoke/VarHandle" ∧ (parseMethodDescriptor yX0_unlikeValues.desc).map (fun d => d.parameters.length) = some 0 := ⟨rfl, nmh_RX0.1, nmh_RX0.2, pds_4⟩
theorem dv_X0_number : yX0_number.cls = RX0 ∧ yX0_number.cls ≠ "java/lang/invoke/MethodHandle" ∧ yX0_number.cls ≠ "java/lang/invoke/VarHandle" ∧ (parseMethodDescriptor yX0_number.desc).map (fun d => d.parameters.length) = some 0 := ⟨rfl, nmh_RX0.1, nmh_RX0.2, pds_4⟩
theorem dv_X1_lowerBound : yX1_lowerBound.cls = RX1 ∧ yX1_lowerBound.cls ≠ "java/lang/invoke/MethodHandle" ∧ yX1_lowerBound.cls ≠ "java/lang/invoke/VarHandle" ∧ (parseMethodDescriptor yX1_lowerBound.desc).map (fun d => d.parameters.length) = some 0 := ⟨rfl, nmh_RX1.1, nmh_RX1.2, pds_4⟩
theorem dv_X1_upperBound : yX1_upperBound.cls = RX1 ∧ yX1_upperBound.cls ≠ "java/lang/invoke/MethodHandle" ∧ yX1_upperBound.cls ≠ "java/lang/invoke/VarHandle" ∧ (parseMethodDescriptor yX1_upperBound.desc).map (fun d => d.parameters.length) = some 0 := ⟨rfl, nmh_RX1.1, nmh_RX1.2, pds_4⟩
theorem dv_X1_isLowerIn : yX1_isLowerIn.cls = RX1 ∧ yX1_isLowerIn.cls ≠ "java/lang/invoke/MethodHandle" ∧ yX1_isLowerIn.cls ≠ "java/lang/invoke/VarHandle" ∧ (parseMethodDescriptor yX1_isLowerIn.desc).map (fun d => d.parameters.length) = some 0 := ⟨rfl, nmh_RX1.1, nmh_RX1.2, pds_16⟩
theorem dv_X1_isUpperIn : yX1_isUpperIn.cls = RX1 ∧ yX1_isUpperIn.cls ≠ "java/lang/invoke/MethodHandle" ∧ yX1_isUpperIn.cls ≠ "java/lang/invoke/VarHandle" ∧ (parseMethodDescriptor yX1_isUpperIn.desc).map (fun d => d.parameters.length) = some 0 := ⟨rfl, nmh_RX1.1, nmh_RX1.2, pds_16⟩
set_option maxHeartbeats 4000000 in
set_option maxRecDepth 100000 in
theorem c_X3_checkKey (l : Launch) (G : xG) {M : HM} (hst : l.stackTraces = false) {p0 : Int} (hp0 : -2147483648 ≤ p0 ∧ p0 ≤ 2147483647) : xMetX l G yX3_checkKey wsX3_checkKey 6 90 1 6 [.int (iN (p0))] M (fun r M1 => r = none ∧ M1 = M ∧ (0 ≤ p0 ∧ p0 ≤ 99)) (fun E M1 => ((E = xIA ∧ ¬ (0 ≤ p0 ∧ p0 ≤ 99))) ∧ M1 = M) := by
  refine x_introX (cc := cX3_checkKey) (maxL := 1) (ret := none) (by exact pln_RX3) rfl (Nat.le_of_ble_eq_true rfl) ?_
  intro p e R s m args below meth c ls hRf hRc hRs hRl htab hC hw hl
  have hl : lv_has ls 1 [(0, .int (iN (p0)))] := hl
  refine lv_iload_n hC.1 hC.2.1 dX3_checkKey_0 rfl (lv_at hl 0 rfl) ?_
  refine x_if_lt (tgt := 10) hC ⟨by omega, by omega⟩ dX3_checkKey_1 (by decide) (fun c_1 => ?_) (fun c_1 => ?_)
  · exact x_throwW (cls := "java/lang/IllegalArgumentException") (text := "a key is not 0 to 99") (names := ["java/lang/RuntimeException", "java/lang/Exception"]) hC hw hst htab (lv_size hl) tw_f0 tw_nm (List.mem_cons_of_mem _ (List.mem_append_left _ (List.mem_of_getElem? (i := 0) rfl))) (List.mem_cons_of_mem _ (List.mem_append_left _ (List.mem_of_getElem? (i := 1) rfl))) (fun w h => (List.mem_cons_of_mem _ (List.mem_append_right _ h))) tw_k40 tw_k50 (xlit_Rangeledger_323) tw_ca0 dX3_checkKey_10 dX3_checkKey_13 dX3_checkKey_14 dX3_checkKey_17 dX3_checkKey_20 (by rw [hRf]; decide) (by rw [hRl]; exact Nat.le_of_ble_eq_true rfl) (by first | (rw [hRc]; decide) | omega) (by first | (rw [hRs]; decide) | omega) (by omega) (by omega) ⟨⟨rfl, (by first | exact hc9 | omega | trivial)⟩, rfl⟩
  · refine lv_iload_n hC.1 hC.2.1 dX3_checkKey_4 rfl (lv_at hl 0 rfl) ?_
    refine x_bipush hC dX3_checkKey_5 (by decide +kernel) ?_
    refine x_icmp_lt (tgt := 21) hC ⟨by omega, by omega⟩ ⟨by omega, by omega⟩ dX3_checkKey_7 (by decide) (fun c_2 => ?_) (fun c_2 => ?_)
    · exact vx_ret (x_vret hC hw dX3_checkKey_21 (by first | decide | omega) (by first | decide | omega) ⟨rfl, rfl, by omega⟩)
    · exact x_throwW (cls := "java/lang/IllegalArgumentException") (text := "a key is not 0 to 99") (names := ["java/lang/RuntimeException", "java/lang/Exception"]) hC hw hst htab (lv_size hl) tw_f0 tw_nm (List.mem_cons_of_mem _ (List.mem_append_left _ (List.mem_of_getElem? (i := 0) rfl))) (List.mem_cons_of_mem _ (List.mem_append_left _ (List.mem_of_getElem? (i := 1) rfl))) (fun w h => (List.mem_cons_of_mem _ (List.mem_append_right _ h))) tw_k40 tw_k50 (xlit_Rangeledger_323) tw_ca0 dX3_checkKey_10 dX3_checkKey_13 dX3_checkKey_14 dX3_checkKey_17 dX3_checkKey_20 (by rw [hRf]; decide) (by rw [hRl]; exact Nat.le_of_ble_eq_true rfl) (by first | (rw [hRc]; decide) | omega) (by first | (rw [hRs]; decide) | omega) (by omega) (by omega) ⟨⟨rfl, (by first | exact hc9 | omega | trivial)⟩, rfl⟩
set_option maxHeartbeats 4000000 in
set_option maxRecDepth 100000 in
theorem c_X3_checkValue (l : Launch) (G : xG) {M : HM} (hst : l.stackTraces = false) {p0 : Int} (hp0 : -2147483648 ≤ p0 ∧ p0 ≤ 2147483647) : xMetX l G yX3_checkValue wsX3_checkValue 6 90 1 6 [.int (iN (p0))] M (fun r M1 => r = none ∧ M1 = M ∧ (-9999 ≤ p0 ∧ p0 ≤ 9999)) (fun E M1 => ((E = xIA ∧ ¬ (-9999 ≤ p0 ∧ p0 ≤ 9999))) ∧ M1 = M) := by
  refine x_introX (cc := cX3_checkValue) (maxL := 1) (ret := none) (by exact pln_RX3) rfl (Nat.le_of_ble_eq_true rfl) ?_
  intro p e R s m args below meth c ls hRf hRc hRs hRl htab hC hw hl
  have hl : lv_has ls 1 [(0, .int (iN (p0)))] := hl
  refine lv_iload_n hC.1 hC.2.1 dX3_checkValue_0 rfl (lv_at hl 0 rfl) ?_
  refine x_sipush hC dX3_checkValue_1 (by decide +kernel) ?_
  refine x_icmp_lt (tgt := 14) hC ⟨by omega, by omega⟩ ⟨by omega, by omega⟩ dX3_checkValue_4 (by decide) (fun c_1 => ?_) (fun c_1 => ?_)
  · exact x_throwW (cls := "java/lang/IllegalArgumentException") (text := "a value is not -9999 to 9999") (names := ["java/lang/RuntimeException", "java/lang/Exception"]) hC hw hst htab (lv_size hl) tw_f0 tw_nm (List.mem_cons_of_mem _ (List.mem_append_left _ (List.mem_of_getElem? (i := 0) rfl))) (List.mem_cons_of_mem _ (List.mem_append_left _ (List.mem_of_getElem? (i := 1) rfl))) (fun w h => (List.mem_cons_of_mem _ (List.mem_append_right _ h))) tw_k40 tw_k50 (xlit_Rangeledger_325) tw_ca0 dX3_checkValue_14 dX3_checkValue_17 dX3_checkValue_18 dX3_checkValue_21 dX3_checkValue_24 (by rw [hRf]; decide) (by rw [hRl]; exact Nat.le_of_ble_eq_true rfl) (by first | (rw [hRc]; decide) | omega) (by first | (rw [hRs]; decide) | omega) (by omega) (by omega) ⟨⟨rfl, (by first | exact hc9 | omega | trivial)⟩, rfl⟩
  · refine lv_iload_n hC.1 hC.2.1 dX3_checkValue_7 rfl (lv_at hl 0 rfl) ?_
    refine x_sipush hC dX3_checkValue_8 (by decide +kernel) ?_
    refine x_icmp_le (tgt := 25) hC ⟨by omega, by omega⟩ ⟨by omega, by omega⟩ dX3_checkValue_11 (by decide) (fun c_2 => ?_) (fun c_2 => ?_)
    · exact vx_ret (x_vret hC hw dX3_checkValue_25 (by first | decide | omega) (by first | decide | omega) ⟨rfl, rfl, by omega⟩)
    · exact x_throwW (cls := "java/lang/IllegalArgumentException") (text := "a value is not -9999 to 9999") (names := ["java/lang/RuntimeException", "java/lang/Exception"]) hC hw hst htab (lv_size hl) tw_f0 tw_nm (List.mem_cons_of_mem _ (List.mem_append_left _ (List.mem_of_getElem? (i := 0) rfl))) (List.mem_cons_of_mem _ (List.mem_append_left _ (List.mem_of_getElem? (i := 1) rfl))) (fun w h => (List.mem_cons_of_mem _ (List.mem_append_right _ h))) tw_k40 tw_k50 (xlit_Rangeledger_325) tw_ca0 dX3_checkValue_14 dX3_checkValue_17 dX3_checkValue_18 dX3_checkValue_21 dX3_checkValue_24 (by rw [hRf]; decide) (by rw [hRl]; exact Nat.le_of_ble_eq_true rfl) (by first | (rw [hRc]; decide) | omega) (by first | (rw [hRs]; decide) | omega) (by omega) (by omega) ⟨⟨rfl, (by first | exact hc9 | omega | trivial)⟩, rfl⟩
set_option maxHeartbeats 4000000 in
set_option maxRecDepth 100000 in
theorem c_X3_checkWhat (l : Launch) (G : xG) {M : HM} (hst : l.stackTraces = false) {p0 : Int} (hp0 : -2147483648 ≤ p0 ∧ p0 ≤ 2147483647) {p1 : Int} (hp1 : -2147483648 ≤ p1 ∧ p1 ≤ 2147483647) : xMetX l G yX3_checkWhat wsX3_checkWhat 6 90 1 6 [.int (iN (p0)), .int (iN (p1))] M (fun r M1 => r = none ∧ M1 = M ∧ (0 ≤ p0 ∧ p0 ≤ p1)) (fun E M1 => ((E = xIA ∧ ¬ (0 ≤ p0 ∧ p0 ≤ p1))) ∧ M1 = M) := by
  refine x_introX (cc := cX3_checkWhat) (maxL := 2) (ret := none) (by exact pln_RX3) rfl (Nat.le_of_ble_eq_true rfl) ?_
  intro p e R s m args below meth c ls hRf hRc hRs hRl htab hC hw hl
  have hl : lv_has ls 2 [(0, .int (iN (p0))), (1, .int (iN (p1)))] := hl
  refine lv_iload_n hC.1 hC.2.1 dX3_checkWhat_0 rfl (lv_at hl 0 rfl) ?_
  refine x_if_lt (tgt := 9) hC ⟨by omega, by omega⟩ dX3_checkWhat_1 (by decide) (fun c_1 => ?_) (fun c_1 => ?_)
  · exact x_throwW (cls := "java/lang/IllegalArgumentException") (text := "what is not one of those told") (names := ["java/lang/RuntimeException", "java/lang/Exception"]) hC hw hst htab (lv_size hl) tw_f0 tw_nm (List.mem_cons_of_mem _ (List.mem_append_left _ (List.mem_of_getElem? (i := 0) rfl))) (List.mem_cons_of_mem _ (List.mem_append_left _ (List.mem_of_getElem? (i := 1) rfl))) (fun w h => (List.mem_cons_of_mem _ (List.mem_append_right _ h))) tw_k40 tw_k50 (xlit_Rangeledger_327) tw_ca0 dX3_checkWhat_9 dX3_checkWhat_12 dX3_checkWhat_13 dX3_checkWhat_16 dX3_checkWhat_19 (by rw [hRf]; decide) (by rw [hRl]; exact Nat.le_of_ble_eq_true rfl) (by first | (rw [hRc]; decide) | omega) (by first | (rw [hRs]; decide) | omega) (by omega) (by omega) ⟨⟨rfl, (by first | exact hc9 | omega | trivial)⟩, rfl⟩
  · refine lv_iload_n hC.1 hC.2.1 dX3_checkWhat_4 rfl (lv_at hl 0 rfl) ?_
    refine lv_iload_n hC.1 hC.2.1 dX3_checkWhat_5 rfl (lv_at hl 1 rfl) ?_
    refine x_icmp_le (tgt := 20) hC ⟨by omega, by omega⟩ ⟨by omega, by omega⟩ dX3_checkWhat_6 (by decide) (fun c_2 => ?_) (fun c_2 => ?_)
    · exact vx_ret (x_vret hC hw dX3_checkWhat_20 (by first | decide | omega) (by first | decide | omega) ⟨rfl, rfl, by omega⟩)
    · exact x_throwW (cls := "java/lang/IllegalArgumentException") (text := "what is not one of those told") (names := ["java/lang/RuntimeException", "java/lang/Exception"]) hC hw hst htab (lv_size hl) tw_f0 tw_nm (List.mem_cons_of_mem _ (List.mem_append_left _ (List.mem_of_getElem? (i := 0) rfl))) (List.mem_cons_of_mem _ (List.mem_append_left _ (List.mem_of_getElem? (i := 1) rfl))) (fun w h => (List.mem_cons_of_mem _ (List.mem_append_right _ h))) tw_k40 tw_k50 (xlit_Rangeledger_327) tw_ca0 dX3_checkWhat_9 dX3_checkWhat_12 dX3_checkWhat_13 dX3_checkWhat_16 dX3_checkWhat_19 (by rw [hRf]; decide) (by rw [hRl]; exact Nat.le_of_ble_eq_true rfl) (by first | (rw [hRc]; decide) | omega) (by first | (rw [hRs]; decide) | omega) (by omega) (by omega) ⟨⟨rfl, (by first | exact hc9 | omega | trivial)⟩, rfl⟩
set_option maxHeartbeats 4000000 in
set_option maxRecDepth 100000 in
theorem c_X3_checkUnlike (l : Launch) (G : xG) {M : HM} (hst : l.stackTraces = false) {p0 : Int} (hp0 : -2147483648 ≤ p0 ∧ p0 ≤ 2147483647) {p1 : Int} (hp1 : -2147483648 ≤ p1 ∧ p1 ≤ 2147483647) : xMetX l G yX3_checkUnlike wsX3_checkUnlike 6 90 1 6 [.int (iN (p0)), .int (iN (p1))] M (fun r M1 => r = none ∧ M1 = M ∧ (p0 ≠ p1)) (fun E M1 => ((E = xIA ∧ ¬ (p0 ≠ p1))) ∧ M1 = M) := by
  refine x_introX (cc := cX3_checkUnlike) (maxL := 2) (ret := none) (by exact pln_RX3) rfl (Nat.le_of_ble_eq_true rfl) ?_
  intro p e R s m args below meth c ls hRf hRc hRs hRl htab hC hw hl
  have hl : lv_has ls 2 [(0, .int (iN (p0))), (1, .int (iN (p1)))] := hl
  refine lv_iload_n hC.1 hC.2.1 dX3_checkUnlike_0 rfl (lv_at hl 0 rfl) ?_
  refine lv_iload_n hC.1 hC.2.1 dX3_checkUnlike_1 rfl (lv_at hl 1 rfl) ?_
  refine x_icmp_ne (tgt := 16) hC ⟨by omega, by omega⟩ ⟨by omega, by omega⟩ dX3_checkUnlike_2 (by decide) (fun c_1 => ?_) (fun c_1 => ?_)
  · exact vx_ret (x_vret hC hw dX3_checkUnlike_16 (by first | decide | omega) (by first | decide | omega) ⟨rfl, rfl, by omega⟩)
  · exact x_throwW (cls := "java/lang/IllegalArgumentException") (text := "both books are the same") (names := ["java/lang/RuntimeException", "java/lang/Exception"]) hC hw hst htab (lv_size hl) tw_f0 tw_nm (List.mem_cons_of_mem _ (List.mem_append_left _ (List.mem_of_getElem? (i := 0) rfl))) (List.mem_cons_of_mem _ (List.mem_append_left _ (List.mem_of_getElem? (i := 1) rfl))) (fun w h => (List.mem_cons_of_mem _ (List.mem_append_right _ h))) tw_k40 tw_k50 (xlit_Rangeledger_329) tw_ca0 dX3_checkUnlike_5 dX3_checkUnlike_8 dX3_checkUnlike_9 dX3_checkUnlike_12 dX3_checkUnlike_15 (by rw [hRf]; decide) (by rw [hRl]; exact Nat.le_of_ble_eq_true rfl) (by first | (rw [hRc]; decide) | omega) (by first | (rw [hRs]; decide) | omega) (by omega) (by omega) ⟨⟨rfl, (by first | exact hc9 | omega | trivial)⟩, rfl⟩
set_option maxHeartbeats 4000000 in
set_option maxRecDepth 100000 in
theorem c_X3_bookAt (l : Launch) (G : xG) {M : HM} (hst : l.stackTraces = false) {h0 bs vs : Nat} {og : Option Nat} {kk kv rf : Int32} {qb qk qv : Nat → Nat} {fb fv : Nat → Option Nat} {O : OW} {Wv : VW} {V : BW} {T C : Nat → Int} {K : WA} {N : Int} (hR : RGx G M h0 bs vs og kk kv rf qb qk qv fb fv O O Wv V T C K) (hcb : cbN N T C) (hN : N ≤ 590) {p0 : Int} (hp0 : -2147483648 ≤ p0 ∧ p0 ≤ 2147483647) : xMetX l G yX3_bookAt wsX3_bookAt 6 90 1 6 [.ref h0, .int (iN (p0))] M (fun r M1 => r = some (.ref (qb p0.toNat)) ∧ M1 = M ∧ 0 ≤ p0 ∧ p0 < 3) (fun E M1 => ((E = xIO ∧ ¬ (0 ≤ p0 ∧ p0 ≤ 2))) ∧ M1 = M) := by
  refine x_introX (cc := cX3_bookAt) (maxL := 2) (ret := (some (.object "Rangeledger$Book"))) (by exact pln_RX3) rfl (Nat.le_of_ble_eq_true rfl) ?_
  intro p e R s m args below meth c ls hRf hRc hRs hRl htab hC hw hl
  have hinX3 : ∀ w ∈ wsX30, w ∈ wsX3_bookAt := fun w h => (List.mem_cons_of_mem _ (List.mem_append_left _ (List.mem_append_right _ h)))
  have hl : lv_has ls 2 [(0, .ref h0), (1, .int (iN (p0)))] := hl
  refine lv_iload_n hC.1 hC.2.1 dX3_bookAt_0 rfl (lv_at hl 1 rfl) ?_
  refine x_if_lt (tgt := 13) hC ⟨by omega, by omega⟩ dX3_bookAt_1 (by decide) (fun c_1 => ?_) (fun c_1 => ?_)
  · exact x_throwW (cls := "java/lang/IndexOutOfBoundsException") (text := "no such book") (names := ["java/lang/RuntimeException", "java/lang/Exception"]) hC hw hst htab (lv_size hl) tw_f1 tw_nm (List.mem_cons_of_mem _ (List.mem_append_left _ (List.mem_append_left _ (List.mem_of_getElem? (i := 0) rfl)))) (List.mem_cons_of_mem _ (List.mem_append_left _ (List.mem_append_left _ (List.mem_of_getElem? (i := 1) rfl)))) (fun w h => (List.mem_cons_of_mem _ (List.mem_append_right _ h))) tw_k41 tw_k51 (xlit_Rangeledger_311) tw_ca1 dX3_bookAt_13 dX3_bookAt_16 dX3_bookAt_17 dX3_bookAt_20 dX3_bookAt_23 (by rw [hRf]; decide) (by rw [hRl]; exact Nat.le_of_ble_eq_true rfl) (by first | (rw [hRc]; decide) | omega) (by first | (rw [hRs]; decide) | omega) (by omega) (by omega) ⟨⟨rfl, (by first | exact hc9 | omega | trivial)⟩, rfl⟩
  · refine lv_iload_n hC.1 hC.2.1 dX3_bookAt_4 rfl (lv_at hl 1 rfl) ?_
    refine lv_aload_n hC.1 hC.2.1 dX3_bookAt_5 rfl (lv_at hl 0 rfl) ?_
    refine x_get hC hw hR.1 rfl hinX3 0 (by decide) (List.mem_cons_of_mem _ (List.mem_append_left _ (List.mem_append_left _ (List.mem_of_getElem? (i := 2) rfl)))) rfl dX3_bookAt_6 ?_
    refine x_alen hC hw 2 hR.2.1 rfl dX3_bookAt_9 ?_
    refine x_icmp_lt (tgt := 24) hC ⟨by omega, by omega⟩ ⟨by omega, by omega⟩ dX3_bookAt_10 (by decide) (fun c_2 => ?_) (fun c_2 => ?_)
    · refine lv_aload_n hC.1 hC.2.1 dX3_bookAt_24 rfl (lv_at hl 0 rfl) ?_
      refine x_get hC hw hR.1 rfl hinX3 0 (by decide) (List.mem_cons_of_mem _ (List.mem_append_left _ (List.mem_append_left _ (List.mem_of_getElem? (i := 2) rfl)))) rfl dX3_bookAt_25 ?_
      refine lv_iload_n hC.1 hC.2.1 dX3_bookAt_28 rfl (lv_at hl 1 rfl) ?_
      refine x_aldq hC hw 2 hR.2.1 rfl (by omega) (by omega) (by omega) dX3_bookAt_29 ?_
      rw [hR.fb' (show (p0).toNat < 3 from tn_lt (by omega) (by decide))]
      show W p l e R s m args below meth c _ _ _ _ _ (F0 m 30 ls [.ref (qb (p0).toNat)])
      exact vx_ret (x_aret hC hw (by first | exact Or.inl ⟨_, rfl⟩ | exact Or.inr ⟨_, rfl⟩) (Or.inr ⟨_, rfl⟩) dX3_bookAt_30 (by omega) (by omega) ⟨rfl, rfl, by omega, by omega⟩)
    · exact x_throwW (cls := "java/lang/IndexOutOfBoundsException") (text := "no such book") (names := ["java/lang/RuntimeException", "java/lang/Exception"]) hC hw hst htab (lv_size hl) tw_f1 tw_nm (List.mem_cons_of_mem _ (List.mem_append_left _ (List.mem_append_left _ (List.mem_of_getElem? (i := 0) rfl)))) (List.mem_cons_of_mem _ (List.mem_append_left _ (List.mem_append_left _ (List.mem_of_getElem? (i := 1) rfl)))) (fun w h => (List.mem_cons_of_mem _ (List.mem_append_right _ h))) tw_k41 tw_k51 (xlit_Rangeledger_311) tw_ca1 dX3_bookAt_13 dX3_bookAt_16 dX3_bookAt_17 dX3_bookAt_20 dX3_bookAt_23 (by rw [hRf]; decide) (by rw [hRl]; exact Nat.le_of_ble_eq_true rfl) (by first | (rw [hRc]; decide) | omega) (by first | (rw [hRs]; decide) | omega) (by omega) (by omega) ⟨⟨rfl, (by first | exact hc9 | omega | trivial)⟩, rfl⟩
set_option maxHeartbeats 4000000 in
set_option maxRecDepth 100000 in
theorem c_X3_viewAt (l : Launch) (G : xG) {M : HM} (hst : l.stackTraces = false) {h0 bs vs : Nat} {og : Option Nat} {kk kv rf : Int32} {qb qk qv : Nat → Nat} {fb fv : Nat → Option Nat} {O : OW} {Wv : VW} {V : BW} {T C : Nat → Int} {K : WA} {N : Int} (hR : RGx G M h0 bs vs og kk kv rf qb qk qv fb fv O O Wv V T C K) (hcb : cbN N T C) (hN : N ≤ 590) {p0 : Int} (hp0 : -2147483648 ≤ p0 ∧ p0 ≤ 2147483647) : xMetX l G yX3_viewAt wsX3_viewAt 6 90 1 6 [.ref h0, .int (iN (p0))] M (fun r M1 => ∃ y : Nat, r = some (.ref y) ∧ M1 = M ∧ 0 ≤ p0 ∧ p0 < 4 ∧ fv p0.toNat = some y) (fun E M1 => ((E = xIO ∧ ¬ (0 ≤ p0 ∧ p0 ≤ 3 ∧ opN (Wv p0.toNat) = 1))) ∧ M1 = M) := by
  refine x_introX (cc := cX3_viewAt) (maxL := 2) (ret := (some (.object "Rangeledger$View"))) (by exact pln_RX3) rfl (Nat.le_of_ble_eq_true rfl) ?_
  intro p e R s m args below meth c ls hRf hRc hRs hRl htab hC hw hl
  have hinX3 : ∀ w ∈ wsX30, w ∈ wsX3_viewAt := fun w h => (List.mem_cons_of_mem _ (List.mem_append_left _ (List.mem_append_right _ h)))
  have hl : lv_has ls 2 [(0, .ref h0), (1, .int (iN (p0)))] := hl
  refine lv_iload_n hC.1 hC.2.1 dX3_viewAt_0 rfl (lv_at hl 1 rfl) ?_
  refine x_if_lt (tgt := 22) hC ⟨by omega, by omega⟩ dX3_viewAt_1 (by decide) (fun c_1 => ?_) (fun c_1 => ?_)
  · exact x_throwW (cls := "java/lang/IndexOutOfBoundsException") (text := "no such view is open") (names := ["java/lang/RuntimeException", "java/lang/Exception"]) hC hw hst htab (lv_size hl) tw_f1 tw_nm (List.mem_cons_of_mem _ (List.mem_append_left _ (List.mem_append_left _ (List.mem_of_getElem? (i := 0) rfl)))) (List.mem_cons_of_mem _ (List.mem_append_left _ (List.mem_append_left _ (List.mem_of_getElem? (i := 1) rfl)))) (fun w h => (List.mem_cons_of_mem _ (List.mem_append_right _ h))) tw_k41 tw_k51 (xlit_Rangeledger_314) tw_ca1 dX3_viewAt_22 dX3_viewAt_25 dX3_viewAt_26 dX3_viewAt_29 dX3_viewAt_32 (by rw [hRf]; decide) (by rw [hRl]; exact Nat.le_of_ble_eq_true rfl) (by first | (rw [hRc]; decide) | omega) (by first | (rw [hRs]; decide) | omega) (by omega) (by omega) ⟨⟨rfl, (by first | exact hc9 | omega | trivial)⟩, rfl⟩
  · refine lv_iload_n hC.1 hC.2.1 dX3_viewAt_4 rfl (lv_at hl 1 rfl) ?_
    refine lv_aload_n hC.1 hC.2.1 dX3_viewAt_5 rfl (lv_at hl 0 rfl) ?_
    refine x_get hC hw hR.1 rfl hinX3 1 (by decide) (List.mem_cons_of_mem _ (List.mem_append_left _ (List.mem_append_left _ (List.mem_of_getElem? (i := 2) rfl)))) rfl dX3_viewAt_6 ?_
    refine x_alen hC hw 3 hR.2.2.1 rfl dX3_viewAt_9 ?_
    refine x_icmp_ge (tgt := 22) hC ⟨by omega, by omega⟩ ⟨by omega, by omega⟩ dX3_viewAt_10 (by decide) (fun c_2 => ?_) (fun c_2 => ?_)
    · exact x_throwW (cls := "java/lang/IndexOutOfBoundsException") (text := "no such view is open") (names := ["java/lang/RuntimeException", "java/lang/Exception"]) hC hw hst htab (lv_size hl) tw_f1 tw_nm (List.mem_cons_of_mem _ (List.mem_append_left _ (List.mem_append_left _ (List.mem_of_getElem? (i := 0) rfl)))) (List.mem_cons_of_mem _ (List.mem_append_left _ (List.mem_append_left _ (List.mem_of_getElem? (i := 1) rfl)))) (fun w h => (List.mem_cons_of_mem _ (List.mem_append_right _ h))) tw_k41 tw_k51 (xlit_Rangeledger_314) tw_ca1 dX3_viewAt_22 dX3_viewAt_25 dX3_viewAt_26 dX3_viewAt_29 dX3_viewAt_32 (by rw [hRf]; decide) (by rw [hRl]; exact Nat.le_of_ble_eq_true rfl) (by first | (rw [hRc]; decide) | omega) (by first | (rw [hRs]; decide) | omega) (by omega) (by omega) ⟨⟨rfl, (by first | exact hc9 | omega | trivial)⟩, rfl⟩
    · refine lv_aload_n hC.1 hC.2.1 dX3_viewAt_13 rfl (lv_at hl 0 rfl) ?_
      refine x_get hC hw hR.1 rfl hinX3 1 (by decide) (List.mem_cons_of_mem _ (List.mem_append_left _ (List.mem_append_left _ (List.mem_of_getElem? (i := 2) rfl)))) rfl dX3_viewAt_14 ?_
      refine lv_iload_n hC.1 hC.2.1 dX3_viewAt_17 rfl (lv_at hl 1 rfl) ?_
      refine x_aldq hC hw 3 hR.2.2.1 rfl (by omega) (by omega) (by omega) dX3_viewAt_18 ?_
      rcases hy_4 : fv (p0).toNat with _ | y_3
      · have hnhy_4 : Wv (p0).toNat = none := VwO.nil (hR.vwo (show (p0).toNat < 4 from tn_lt (by omega) (by decide))) hy_4
        have hohy_4 := opN_none hnhy_4
        show W p l e R s m args below meth c _ _ _ _ _ (F0 m 19 ls [.null])
        refine lv_ifnonnullN hC.1 hC.2.1 dX3_viewAt_19 ?_
        exact x_throwW (cls := "java/lang/IndexOutOfBoundsException") (text := "no such view is open") (names := ["java/lang/RuntimeException", "java/lang/Exception"]) hC hw hst htab (lv_size hl) tw_f1 tw_nm (List.mem_cons_of_mem _ (List.mem_append_left _ (List.mem_append_left _ (List.mem_of_getElem? (i := 0) rfl)))) (List.mem_cons_of_mem _ (List.mem_append_left _ (List.mem_append_left _ (List.mem_of_getElem? (i := 1) rfl)))) (fun w h => (List.mem_cons_of_mem _ (List.mem_append_right _ h))) tw_k41 tw_k51 (xlit_Rangeledger_314) tw_ca1 dX3_viewAt_22 dX3_viewAt_25 dX3_viewAt_26 dX3_viewAt_29 dX3_viewAt_32 (by rw [hRf]; decide) (by rw [hRl]; exact Nat.le_of_ble_eq_true rfl) (by first | (rw [hRc]; decide) | omega) (by first | (rw [hRs]; decide) | omega) (by omega) (by omega) ⟨⟨rfl, (by first | exact hc9 | omega | trivial)⟩, rfl⟩
      · obtain ⟨ux_5, hux_5, hTx_5⟩ := (hR.vwo (show (p0).toNat < 4 from tn_lt (by omega) (by decide))).yes hy_4
        have hpx_5 := opN_some hux_5
        have hkx_6 := hTx_5.1
        have hvx_6 := hTx_5.2
        have hlix_6 := hvx_6.2.1
        have huix_6 := hvx_6.2.2
        obtain ⟨htax_6, htbx_6, htcx_6, htdx_6, htex_6⟩ := id hkx_6
        obtain ⟨szx_7, fkx_7, fwx_7, hBx_7, hVx_7⟩ := hR.bk htax_6
        obtain ⟨-, -, -, -, hsax_7, hsbx_7⟩ := id hBx_7
        have holx_7 := hR.ol htax_6
        have hctx_7 := hcb.2 _ htax_6
        show W p l e R s m args below meth c _ _ _ _ _ (F0 m 19 ls [.ref y_3])
        refine lv_ifnonnull (tgt := 33) hC.1 hC.2.1 dX3_viewAt_19 (by decide) ?_
        refine lv_aload_n hC.1 hC.2.1 dX3_viewAt_33 rfl (lv_at hl 0 rfl) ?_
        refine x_get hC hw hR.1 rfl hinX3 1 (by decide) (List.mem_cons_of_mem _ (List.mem_append_left _ (List.mem_append_left _ (List.mem_of_getElem? (i := 2) rfl)))) rfl dX3_viewAt_34 ?_
        refine lv_iload_n hC.1 hC.2.1 dX3_viewAt_37 rfl (lv_at hl 1 rfl) ?_
        refine x_aldq hC hw 3 hR.2.2.1 rfl (by omega) (by omega) (by omega) dX3_viewAt_38 ?_
        rw [hy_4]
        show W p l e R s m args below meth c _ _ _ _ _ (F0 m 39 ls [.ref y_3])
        exact vx_ret (x_aret hC hw (by first | exact Or.inl ⟨_, rfl⟩ | exact Or.inr ⟨_, rfl⟩) (Or.inr ⟨_, rfl⟩) dX3_viewAt_39 (by omega) (by omega) ⟨y_3, rfl, rfl, by omega, by omega, by first | exact hy_4 | rfl⟩)
set_option maxHeartbeats 4000000 in
set_option maxRecDepth 100000 in
theorem c_X3_bookToWriteKey (l : Launch) (G : xG) {M : HM} (hst : l.stackTraces = false) {h0 bs vs : Nat} {og : Option Nat} {kk kv rf : Int32} {qb qk qv : Nat → Nat} {fb fv : Nat → Option Nat} {O : OW} {Wv : VW} {V : BW} {T C : Nat → Int} {K : WA} {N : Int} (hR : RGx G M h0 bs vs og kk kv rf qb qk qv fb fv O O Wv V T C K) (hcb : cbN N T C) (hN : N ≤ 590) {p0 : Int} (hp0 : -2147483648 ≤ p0 ∧ p0 ≤ 2147483647) {p1 : Int} (hp1 : -2147483648 ≤ p1 ∧ p1 ≤ 2147483647) : xMetX l G yX3_bookToWriteKey wsX3_bookToWriteKey 7 111 2 12 [.ref h0, .int (iN (p0)), .int (iN (p1))] M (fun r M1 => r = some (.ref (qb p0.toNat)) ∧ RGx G M1 h0 bs vs og kk kv rf qb qk qv fb fv O O Wv V (upV T p0.toNat (T p0.toNat + 1)) C K ∧ (0 ≤ p0 ∧ p0 ≤ 2) ∧ (0 ≤ p1 ∧ p1 ≤ 99)) (fun E M1 => ((E = xIO ∧ ¬ (0 ≤ p0 ∧ p0 ≤ 2)) ∨ (E = xIA ∧ (0 ≤ p0 ∧ p0 ≤ 2) ∧ ¬ (0 ≤ p1 ∧ p1 ≤ 99))) ∧ RGx G M1 h0 bs vs og kk kv rf qb qk qv fb fv O O Wv V T C K) := by
  refine x_introX (cc := cX3_bookToWriteKey) (maxL := 4) (ret := (some (.object "Rangeledger$Book"))) (by exact pln_RX3) rfl (Nat.le_of_ble_eq_true rfl) ?_
  intro p e R s m args below meth c ls hRf hRc hRs hRl htab hC hw hl
  have hl : lv_has ls 4 [(0, .ref h0), (1, .int (iN (p0))), (2, .int (iN (p1)))] := hl
  refine lv_aload_n hC.1 hC.2.1 dX3_bookToWriteKey_0 rfl (lv_at hl 0 rfl) ?_
  refine lv_iload_n hC.1 hC.2.1 dX3_bookToWriteKey_1 rfl (lv_at hl 1 rfl) ?_
  refine x_callVX hC hw (lv_size hl) (c_X3_bookAt l G hst hR hcb hN (p0 := p0) (by first | assumption | omega)) gX3_bookToWriteKey_X3_bookAt rfl dv_X3_bookAt hR.1 rfl rfl (Nat.le_of_ble_eq_true rfl) (by rw [hRf]; decide) (by rw [hRl]; decide) (by first | (rw [hRc]; decide) | omega) (by first | (rw [hRs]; decide) | omega) dX3_bookToWriteKey_2 (fun E ce q9 M_1 H locs hqx hw hcell hcv hcls => ?_) (fun r9 M_1 H locs hq hw => ?_)
  · rw [hqx.2] at hw
    obtain ⟨hE, hc9⟩ := hqx.1
    replace hqx := hqx.2
    subst hE
    exact x_outX hC hw htab hcell hcv hcls (by first | decide | omega) (by first | decide | omega) ⟨Or.inl ⟨rfl, (by first | exact hc9 | omega | trivial)⟩, hR⟩
  obtain ⟨rfl, hM9, hk_2, hk_2b⟩ := hq
  rw [hM9] at hw
  have hik_2 : (p0).toNat < 3 := by omega
  obtain ⟨szx_3, fkx_3, fwx_3, hBx_3, hVx_3⟩ := hR.bk hik_2
  obtain ⟨-, -, -, -, hsax_3, hsbx_3⟩ := id hBx_3
  have holx_3 := hR.ol hik_2
  have hctx_3 := hcb.2 _ hik_2
  show W p l e R s m args below meth c H locs _ _ _ (F0 m 5 ls [.ref (qb ((p0).toNat))])
  refine lv_astore_n (lv' := [(3, .ref (qb ((p0).toNat))), (0, .ref h0), (1, .int (iN (p0))), (2, .int (iN (p1)))]) hC.1 hC.2.1 dX3_bookToWriteKey_5 rfl hl (by decide) rfl (fun ls hl => ?_)
  refine lv_iload_n hC.1 hC.2.1 dX3_bookToWriteKey_6 rfl (lv_at hl 3 rfl) ?_
  refine x_callSX hC hw (lv_size hl) (c_X3_checkKey l G (M := M) hst (p0 := p1) (by first | assumption | omega)) gX3_bookToWriteKey_X3_checkKey rfl dv_X3_checkKey_s rfl (Nat.le_of_ble_eq_true rfl) (by rw [hRf]; decide) (by rw [hRl]; decide) (by first | (rw [hRc]; decide) | omega) (by first | (rw [hRs]; decide) | omega) dX3_bookToWriteKey_7 (fun E ce q9 M_4 H locs hqx hw hcell hcv hcls => ?_) (fun r9 M_4 H locs hq hw => ?_)
  · rw [hqx.2] at hw
    obtain ⟨hE, hc9⟩ := hqx.1
    replace hqx := hqx.2
    subst hE
    exact x_outX hC hw htab hcell hcv hcls (by first | decide | omega) (by first | decide | omega) ⟨Or.inr (⟨rfl, ⟨⟨(by first | omega | trivial), (by first | omega | trivial)⟩, (by first | exact hc9 | omega | trivial)⟩⟩), hR⟩
  obtain ⟨rfl, hM9, hk_5⟩ := hq
  rw [hM9] at hw
  show W p l e R s m args below meth c H locs _ _ _ (F0 m 10 ls [])
  refine lv_aload_n hC.1 hC.2.1 dX3_bookToWriteKey_10 rfl (lv_at hl 0 rfl) ?_
  refine x_callV hC hw (lv_size hl) (c_X0_touch l G hBx_3 (show (O ((p0).toNat)) < 3 by first | assumption | omega) hVx_3 (by first | assumption | omega) (by first | assumption | omega)) gX3_bookToWriteKey_X0_touch rfl dv_X0_touch hBx_3.1 rfl rfl (Nat.le_of_ble_eq_true rfl) (by rw [hRf]; decide) (by rw [hRl]; decide) (by first | (rw [hRc]; decide) | omega) (by first | (rw [hRs]; decide) | omega) dX3_bookToWriteKey_11 (fun r9 M_6 H locs hq hw => ?_)
  obtain ⟨rfl, hBu_7, smu_7⟩ := hq
  have sm_8 := (xSm.rf (M := M) (b := (qb ((p0).toNat))) (k := (qk ((p0).toNat))) (v := (qv ((p0).toNat)))).tr (smu_7)
  have h_9 := hR.book hik_2 hBx_3 hBu_7 hVx_3 smu_7 (by first | omega | (rw [upV_s]; omega)) (by first | omega | (rw [upV_s]; omega))
  rw [show (upB V ((p0).toNat) (V ((p0).toNat))) = V from upB_self rfl, show (upV C ((p0).toNat) (C ((p0).toNat))) = C from upV_same _ _] at h_9
  show W p l e R s m args below meth c H locs _ _ _ (F0 m 14 ls [])
  refine lv_aload_n hC.1 hC.2.1 dX3_bookToWriteKey_14 rfl (lv_at hl 0 rfl) ?_
  exact vx_ret (x_aret hC hw (by first | exact Or.inl ⟨_, rfl⟩ | exact Or.inr ⟨_, rfl⟩) (Or.inr ⟨_, rfl⟩) dX3_bookToWriteKey_15 (by omega) (by omega) ⟨rfl, h_9, by omega, by omega⟩)
set_option maxHeartbeats 4000000 in
set_option maxRecDepth 100000 in
theorem c_X3_bookToWritePair (l : Launch) (G : xG) {M : HM} (hst : l.stackTraces = false) {h0 bs vs : Nat} {og : Option Nat} {kk kv rf : Int32} {qb qk qv : Nat → Nat} {fb fv : Nat → Option Nat} {O : OW} {Wv : VW} {V : BW} {T C : Nat → Int} {K : WA} {N : Int} (hR : RGx G M h0 bs vs og kk kv rf qb qk qv fb fv O O Wv V T C K) (hcb : cbN N T C) (hN : N ≤ 590) {p0 : Int} (hp0 : -2147483648 ≤ p0 ∧ p0 ≤ 2147483647) {p1 : Int} (hp1 : -2147483648 ≤ p1 ∧ p1 ≤ 2147483647) {p2 : Int} (hp2 : -2147483648 ≤ p2 ∧ p2 ≤ 2147483647) : xMetX l G yX3_bookToWritePair wsX3_bookToWritePair 7 111 3 18 [.ref h0, .int (iN (p0)), .int (iN (p1)), .int (iN (p2))] M (fun r M1 => r = some (.ref (qb p0.toNat)) ∧ RGx G M1 h0 bs vs og kk kv rf qb qk qv fb fv O O Wv V (upV T p0.toNat (T p0.toNat + 1)) C K ∧ (0 ≤ p0 ∧ p0 ≤ 2) ∧ (0 ≤ p1 ∧ p1 ≤ 99) ∧ (-9999 ≤ p2 ∧ p2 ≤ 9999)) (fun E M1 => ((E = xIO ∧ ¬ (0 ≤ p0 ∧ p0 ≤ 2)) ∨ (E = xIA ∧ (0 ≤ p0 ∧ p0 ≤ 2) ∧ ¬ ((0 ≤ p1 ∧ p1 ≤ 99) ∧ (-9999 ≤ p2 ∧ p2 ≤ 9999)))) ∧ RGx G M1 h0 bs vs og kk kv rf qb qk qv fb fv O O Wv V T C K) := by
  refine x_introX (cc := cX3_bookToWritePair) (maxL := 5) (ret := (some (.object "Rangeledger$Book"))) (by exact pln_RX3) rfl (Nat.le_of_ble_eq_true rfl) ?_
  intro p e R s m args below meth c ls hRf hRc hRs hRl htab hC hw hl
  have hl : lv_has ls 5 [(0, .ref h0), (1, .int (iN (p0))), (2, .int (iN (p1))), (3, .int (iN (p2)))] := hl
  refine lv_aload_n hC.1 hC.2.1 dX3_bookToWritePair_0 rfl (lv_at hl 0 rfl) ?_
  refine lv_iload_n hC.1 hC.2.1 dX3_bookToWritePair_1 rfl (lv_at hl 1 rfl) ?_
  refine x_callVX hC hw (lv_size hl) (c_X3_bookAt l G hst hR hcb hN (p0 := p0) (by first | assumption | omega)) gX3_bookToWritePair_X3_bookAt rfl dv_X3_bookAt hR.1 rfl rfl (Nat.le_of_ble_eq_true rfl) (by rw [hRf]; decide) (by rw [hRl]; decide) (by first | (rw [hRc]; decide) | omega) (by first | (rw [hRs]; decide) | omega) dX3_bookToWritePair_2 (fun E ce q9 M_1 H locs hqx hw hcell hcv hcls => ?_) (fun r9 M_1 H locs hq hw => ?_)
  · rw [hqx.2] at hw
    obtain ⟨hE, hc9⟩ := hqx.1
    replace hqx := hqx.2
    subst hE
    exact x_outX hC hw htab hcell hcv hcls (by first | decide | omega) (by first | decide | omega) ⟨Or.inl ⟨rfl, (by first | exact hc9 | omega | trivial)⟩, hR⟩
  obtain ⟨rfl, hM9, hk_2, hk_2b⟩ := hq
  rw [hM9] at hw
  have hik_2 : (p0).toNat < 3 := by omega
  obtain ⟨szx_3, fkx_3, fwx_3, hBx_3, hVx_3⟩ := hR.bk hik_2
  obtain ⟨-, -, -, -, hsax_3, hsbx_3⟩ := id hBx_3
  have holx_3 := hR.ol hik_2
  have hctx_3 := hcb.2 _ hik_2
  show W p l e R s m args below meth c H locs _ _ _ (F0 m 5 ls [.ref (qb ((p0).toNat))])
  refine lv_astore (lv' := [(4, .ref (qb ((p0).toNat))), (0, .ref h0), (1, .int (iN (p0))), (2, .int (iN (p1))), (3, .int (iN (p2)))]) hC.1 hC.2.1 dX3_bookToWritePair_5 hl (by decide) rfl (fun ls hl => ?_)
  refine lv_iload_n hC.1 hC.2.1 dX3_bookToWritePair_7 rfl (lv_at hl 3 rfl) ?_
  refine x_callSX hC hw (lv_size hl) (c_X3_checkKey l G (M := M) hst (p0 := p1) (by first | assumption | omega)) gX3_bookToWritePair_X3_checkKey rfl dv_X3_checkKey_s rfl (Nat.le_of_ble_eq_true rfl) (by rw [hRf]; decide) (by rw [hRl]; decide) (by first | (rw [hRc]; decide) | omega) (by first | (rw [hRs]; decide) | omega) dX3_bookToWritePair_8 (fun E ce q9 M_4 H locs hqx hw hcell hcv hcls => ?_) (fun r9 M_4 H locs hq hw => ?_)
  · rw [hqx.2] at hw
    obtain ⟨hE, hc9⟩ := hqx.1
    replace hqx := hqx.2
    subst hE
    exact x_outX hC hw htab hcell hcv hcls (by first | decide | omega) (by first | decide | omega) ⟨Or.inr (⟨rfl, ⟨⟨(by first | omega | trivial), (by first | omega | trivial)⟩, (by first | exact hc9 | omega | trivial)⟩⟩), hR⟩
  obtain ⟨rfl, hM9, hk_5⟩ := hq
  rw [hM9] at hw
  show W p l e R s m args below meth c H locs _ _ _ (F0 m 11 ls [])
  refine lv_iload_n hC.1 hC.2.1 dX3_bookToWritePair_11 rfl (lv_at hl 4 rfl) ?_
  refine x_callSX hC hw (lv_size hl) (c_X3_checkValue l G (M := M) hst (p0 := p2) (by first | assumption | omega)) gX3_bookToWritePair_X3_checkValue rfl dv_X3_checkValue_s rfl (Nat.le_of_ble_eq_true rfl) (by rw [hRf]; decide) (by rw [hRl]; decide) (by first | (rw [hRc]; decide) | omega) (by first | (rw [hRs]; decide) | omega) dX3_bookToWritePair_12 (fun E ce q9 M_6 H locs hqx hw hcell hcv hcls => ?_) (fun r9 M_6 H locs hq hw => ?_)
  · rw [hqx.2] at hw
    obtain ⟨hE, hc9⟩ := hqx.1
    replace hqx := hqx.2
    subst hE
    exact x_outX hC hw htab hcell hcv hcls (by first | decide | omega) (by first | decide | omega) ⟨Or.inr (⟨rfl, ⟨⟨(by first | omega | trivial), (by first | omega | trivial)⟩, (by first | exact hc9 | omega | trivial)⟩⟩), hR⟩
  obtain ⟨rfl, hM9, hk_7⟩ := hq
  rw [hM9] at hw
  show W p l e R s m args below meth c H locs _ _ _ (F0 m 15 ls [])
  refine lv_aload hC.1 hC.2.1 dX3_bookToWritePair_15 (lv_at hl 0 rfl) ?_
  refine x_callV hC hw (lv_size hl) (c_X0_touch l G hBx_3 (show (O ((p0).toNat)) < 3 by first | assumption | omega) hVx_3 (by first | assumption | omega) (by first | assumption | omega)) gX3_bookToWritePair_X0_touch rfl dv_X0_touch hBx_3.1 rfl rfl (Nat.le_of_ble_eq_true rfl) (by rw [hRf]; decide) (by rw [hRl]; decide) (by first | (rw [hRc]; decide) | omega) (by first | (rw [hRs]; decide) | omega) dX3_bookToWritePair_17 (fun r9 M_8 H locs hq hw => ?_)
  obtain ⟨rfl, hBu_9, smu_9⟩ := hq
  have sm_10 := (xSm.rf (M := M) (b := (qb ((p0).toNat))) (k := (qk ((p0).toNat))) (v := (qv ((p0).toNat)))).tr (smu_9)
  have h_11 := hR.book hik_2 hBx_3 hBu_9 hVx_3 smu_9 (by first | omega | (rw [upV_s]; omega)) (by first | omega | (rw [upV_s]; omega))
  rw [show (upB V ((p0).toNat) (V ((p0).toNat))) = V from upB_self rfl, show (upV C ((p0).toNat) (C ((p0).toNat))) = C from upV_same _ _] at h_11
  show W p l e R s m args below meth c H locs _ _ _ (F0 m 20 ls [])
  refine lv_aload hC.1 hC.2.1 dX3_bookToWritePair_20 (lv_at hl 0 rfl) ?_
  exact vx_ret (x_aret hC hw (by first | exact Or.inl ⟨_, rfl⟩ | exact Or.inr ⟨_, rfl⟩) (Or.inr ⟨_, rfl⟩) dX3_bookToWritePair_22 (by omega) (by omega) ⟨rfl, h_11, by omega, by omega, by omega⟩)
set_option maxHeartbeats 4000000 in
set_option maxRecDepth 100000 in
theorem c_X3_put (l : Launch) (G : xG) {M : HM} (hst : l.stackTraces = false) {h0 bs vs : Nat} {og : Option Nat} {kk kv rf : Int32} {qb qk qv : Nat → Nat} {fb fv : Nat → Option Nat} {O : OW} {Wv : VW} {V : BW} {T C : Nat → Int} {K : WA} {N : Int} (hR : RGx G M h0 bs vs og kk kv rf qb qk qv fb fv O O Wv V T C K) (hcb : cbN N T C) (hN : N ≤ 590) {p0 : Int} (hp0 : -2147483648 ≤ p0 ∧ p0 ≤ 2147483647) {p1 : Int} (hp1 : -2147483648 ≤ p1 ∧ p1 ≤ 2147483647) {p2 : Int} (hp2 : -2147483648 ≤ p2 ∧ p2 ≤ 2147483647) : xMetX l G yX3_put wsX3_put 8 135 3 18 [.ref h0, .int (iN (p0)), .int (iN (p1)), .int (iN (p2))] M (fun r M1 => ∃ z : Int, r = some (.int (iN z)) ∧ (-2147483648 ≤ z ∧ z ≤ 2147483647) ∧ ((0 ≤ p0 ∧ p0 ≤ 2) ∧ ((0 ≤ p1 ∧ p1 ≤ 99) ∧ (-9999 ≤ p2 ∧ p2 ≤ 9999))) ∧ z = A_put (O, V, Wv, abK T C K, kk, kv, rf) p0 p1 p2 ∧ RG G M1 h0 (N + 1) (S_put (O, V, Wv, abK T C K, kk, kv, rf) p0 p1 p2)) (fun E M1 => ((E = xIO ∧ ¬ (0 ≤ p0 ∧ p0 ≤ 2)) ∨ (E = xIA ∧ (0 ≤ p0 ∧ p0 ≤ 2) ∧ ¬ ((0 ≤ p1 ∧ p1 ≤ 99) ∧ (-9999 ≤ p2 ∧ p2 ≤ 9999)))) ∧ RG G M1 h0 (N + 1) (O, V, Wv, abK T C K, kk, kv, rf)) := by
  refine x_introX (cc := cX3_put) (maxL := 4) (ret := (some .int)) (by exact pln_RX3) rfl (Nat.le_of_ble_eq_true rfl) ?_
  intro p e R s m args below meth c ls hRf hRc hRs hRl htab hC hw hl
  have hl : lv_has ls 4 [(0, .ref h0), (1, .int (iN (p0))), (2, .int (iN (p1))), (3, .int (iN (p2)))] := hl
  refine lv_aload_n hC.1 hC.2.1 dX3_put_0 rfl (lv_at hl 0 rfl) ?_
  refine lv_iload_n hC.1 hC.2.1 dX3_put_1 rfl (lv_at hl 1 rfl) ?_
  refine lv_iload_n hC.1 hC.2.1 dX3_put_2 rfl (lv_at hl 2 rfl) ?_
  refine lv_iload_n hC.1 hC.2.1 dX3_put_3 rfl (lv_at hl 3 rfl) ?_
  refine x_callVX hC hw (lv_size hl) (c_X3_bookToWritePair l G hst hR hcb hN (p0 := p0) (by first | assumption | omega) (p1 := p1) (by first | assumption | omega) (p2 := p2) (by first | assumption | omega)) gX3_put_X3_bookToWritePair rfl dv_X3_bookToWritePair hR.1 rfl rfl (Nat.le_of_ble_eq_true rfl) (by rw [hRf]; decide) (by rw [hRl]; decide) (by first | (rw [hRc]; decide) | omega) (by first | (rw [hRs]; decide) | omega) dX3_put_4 (fun E ce q9 M_1 H locs hqx hw hcell hcv hcls => ?_) (fun r9 M_1 H locs hq hw => ?_)
  · rcases hqx with ⟨⟨hE, hc9⟩ | ⟨hE, hc9⟩, hqx⟩
    · subst hE
      exact x_outX hC hw htab hcell hcv hcls (by first | decide | omega) (by first | decide | omega) ⟨Or.inl ⟨rfl, (by first | exact hc9 | omega | trivial)⟩, (RG.of (N2 := N + 1) hqx hcb (by omega) (by omega))⟩
    · subst hE
      exact x_outX hC hw htab hcell hcv hcls (by first | decide | omega) (by first | decide | omega) ⟨Or.inr (⟨rfl, ⟨⟨(by first | omega | trivial), (by first | omega | trivial)⟩, (by first | exact hc9 | omega | trivial)⟩⟩), (RG.of (N2 := N + 1) hqx hcb (by omega) (by omega))⟩
  obtain ⟨rfl, hRk_2, hpk_2, hkk_20, hkk_21⟩ := hq
  have hik_2 : (p0).toNat < 3 := by omega
  obtain ⟨szx_3, fkx_3, fwx_3, hBx_3, hVx_3⟩ := hRk_2.bk hik_2
  rw [upV_s] at hBx_3
  obtain ⟨-, -, -, -, hsax_3, hsbx_3⟩ := id hBx_3
  have holx_3 := hRk_2.ol hik_2
  have hctx_3 := hcb.2 _ hik_2
  show W p l e R s m args below meth c H locs _ _ _ (F0 m 7 ls [.ref (qb ((p0).toNat))])
  refine lv_iload_n hC.1 hC.2.1 dX3_put_7 rfl (lv_at hl 2 rfl) ?_
  refine lv_iload_n hC.1 hC.2.1 dX3_put_8 rfl (lv_at hl 3 rfl) ?_
  refine x_callV hC hw (lv_size hl) (c_X0_enter l G hBx_3 (show (O ((p0).toNat)) < 3 by first | assumption | omega) hVx_3 (by first | assumption | omega) (by first | assumption | omega) (p0 := p1) (by first | assumption | omega) (p1 := p2) (by first | assumption | omega) (by omega) (by omega)) gX3_put_X0_enter rfl dv_X0_enter hBx_3.1 rfl rfl (Nat.le_of_ble_eq_true rfl) (by rw [hRf]; decide) (by rw [hRl]; decide) (by first | (rw [hRc]; decide) | omega) (by first | (rw [hRs]; decide) | omega) dX3_put_9 (fun r9 M_4 H locs hq hw => ?_)
  obtain ⟨z_6, rfl, hz_6, hz_6v, kcu_5, szu_5, fku_5, fvu_5, hBu_5, smu_5, hVu_5, hksu_5, hka1u_5, hkb1u_5⟩ := hq
  obtain ⟨-, -, -, -, hsau_5, hsbu_5⟩ := id hBu_5
  obtain ⟨hkau_5, hkbu_5, -⟩ := id hksu_5
  have sm_7 := (xSm.rf (M := M_1) (b := (qb ((p0).toNat))) (k := (qk ((p0).toNat))) (v := (qv ((p0).toNat)))).tr (smu_5)
  have h_8 := hRk_2.book hik_2 hBx_3 hBu_5 hVu_5 smu_5 (by first | omega | (rw [upV_s]; omega)) (by first | omega | (rw [upV_s]; omega))
  rw [show (upV (upV T (p0).toNat (T (p0).toNat + 1)) ((p0).toNat) (T (p0).toNat + 1)) = (upV T (p0).toNat (T (p0).toNat + 1)) from upV_upV] at h_8
  show W p l e R s m args below meth c H locs _ _ _ (F0 m 12 ls [.int (iN (z_6))])
  exact vx_ret (x_iret hC hw dX3_put_12 (by first | decide | omega) (by first | decide | omega) ⟨z_6, rfl, ⟨by omega, by omega⟩, ⟨⟨(by first | omega | trivial), (by first | omega | trivial)⟩, ⟨⟨(by first | omega | trivial), (by first | omega | trivial)⟩, ⟨(by first | omega | trivial), (by first | omega | trivial)⟩⟩⟩, (show _ = (V (p0).toNat (p1).toNat) by omega), (RG.mut hR.wg h_8 (by omega) hksu_5 (by omega) hcb (by omega) (congrArg (upV (V (p0).toNat) (p1).toNat) (show p2 = p2 by first | rfl | omega | ((repeat' split) <;> first | rfl | omega))))⟩)
set_option maxHeartbeats 4000000 in
set_option maxRecDepth 100000 in
theorem c_X3_putAbsent (l : Launch) (G : xG) {M : HM} (hst : l.stackTraces = false) {h0 bs vs : Nat} {og : Option Nat} {kk kv rf : Int32} {qb qk qv : Nat → Nat} {fb fv : Nat → Option Nat} {O : OW} {Wv : VW} {V : BW} {T C : Nat → Int} {K : WA} {N : Int} (hR : RGx G M h0 bs vs og kk kv rf qb qk qv fb fv O O Wv V T C K) (hcb : cbN N T C) (hN : N ≤ 590) {p0 : Int} (hp0 : -2147483648 ≤ p0 ∧ p0 ≤ 2147483647) {p1 : Int} (hp1 : -2147483648 ≤ p1 ∧ p1 ≤ 2147483647) {p2 : Int} (hp2 : -2147483648 ≤ p2 ∧ p2 ≤ 2147483647) : xMetX l G yX3_putAbsent wsX3_putAbsent 8 135 3 18 [.ref h0, .int (iN (p0)), .int (iN (p1)), .int (iN (p2))] M (fun r M1 => ∃ z : Int, r = some (.int (iN z)) ∧ (-2147483648 ≤ z ∧ z ≤ 2147483647) ∧ ((0 ≤ p0 ∧ p0 ≤ 2) ∧ ((0 ≤ p1 ∧ p1 ≤ 99) ∧ (-9999 ≤ p2 ∧ p2 ≤ 9999))) ∧ z = A_putAbsent (O, V, Wv, abK T C K, kk, kv, rf) p0 p1 p2 ∧ RG G M1 h0 (N + 1) (S_putAbsent (O, V, Wv, abK T C K, kk, kv, rf) p0 p1 p2)) (fun E M1 => ((E = xIO ∧ ¬ (0 ≤ p0 ∧ p0 ≤ 2)) ∨ (E = xIA ∧ (0 ≤ p0 ∧ p0 ≤ 2) ∧ ¬ ((0 ≤ p1 ∧ p1 ≤ 99) ∧ (-9999 ≤ p2 ∧ p2 ≤ 9999)))) ∧ RG G M1 h0 (N + 1) (O, V, Wv, abK T C K, kk, kv, rf)) := by
  refine x_introX (cc := cX3_putAbsent) (maxL := 5) (ret := (some .int)) (by exact pln_RX3) rfl (Nat.le_of_ble_eq_true rfl) ?_
  intro p e R s m args below meth c ls hRf hRc hRs hRl htab hC hw hl
  have hl : lv_has ls 5 [(0, .ref h0), (1, .int (iN (p0))), (2, .int (iN (p1))), (3, .int (iN (p2)))] := hl
  refine lv_aload_n hC.1 hC.2.1 dX3_putAbsent_0 rfl (lv_at hl 0 rfl) ?_
  refine lv_iload_n hC.1 hC.2.1 dX3_putAbsent_1 rfl (lv_at hl 1 rfl) ?_
  refine lv_iload_n hC.1 hC.2.1 dX3_putAbsent_2 rfl (lv_at hl 2 rfl) ?_
  refine lv_iload_n hC.1 hC.2.1 dX3_putAbsent_3 rfl (lv_at hl 3 rfl) ?_
  refine x_callVX hC hw (lv_size hl) (c_X3_bookToWritePair l G hst hR hcb hN (p0 := p0) (by first | assumption | omega) (p1 := p1) (by first | assumption | omega) (p2 := p2) (by first | assumption | omega)) gX3_putAbsent_X3_bookToWritePair rfl dv_X3_bookToWritePair hR.1 rfl rfl (Nat.le_of_ble_eq_true rfl) (by rw [hRf]; decide) (by rw [hRl]; decide) (by first | (rw [hRc]; decide) | omega) (by first | (rw [hRs]; decide) | omega) dX3_putAbsent_4 (fun E ce q9 M_1 H locs hqx hw hcell hcv hcls => ?_) (fun r9 M_1 H locs hq hw => ?_)
  · rcases hqx with ⟨⟨hE, hc9⟩ | ⟨hE, hc9⟩, hqx⟩
    · subst hE
      exact x_outX hC hw htab hcell hcv hcls (by first | decide | omega) (by first | decide | omega) ⟨Or.inl ⟨rfl, (by first | exact hc9 | omega | trivial)⟩, (RG.of (N2 := N + 1) hqx hcb (by omega) (by omega))⟩
    · subst hE
      exact x_outX hC hw htab hcell hcv hcls (by first | decide | omega) (by first | decide | omega) ⟨Or.inr (⟨rfl, ⟨⟨(by first | omega | trivial), (by first | omega | trivial)⟩, (by first | exact hc9 | omega | trivial)⟩⟩), (RG.of (N2 := N + 1) hqx hcb (by omega) (by omega))⟩
  obtain ⟨rfl, hRk_2, hpk_2, hkk_20, hkk_21⟩ := hq
  have hik_2 : (p0).toNat < 3 := by omega
  obtain ⟨szx_3, fkx_3, fwx_3, hBx_3, hVx_3⟩ := hRk_2.bk hik_2
  rw [upV_s] at hBx_3
  obtain ⟨-, -, -, -, hsax_3, hsbx_3⟩ := id hBx_3
  have holx_3 := hRk_2.ol hik_2
  have hctx_3 := hcb.2 _ hik_2
  show W p l e R s m args below meth c H locs _ _ _ (F0 m 7 ls [.ref (qb ((p0).toNat))])
  refine lv_astore (lv' := [(4, .ref (qb ((p0).toNat))), (0, .ref h0), (1, .int (iN (p0))), (2, .int (iN (p1))), (3, .int (iN (p2)))]) hC.1 hC.2.1 dX3_putAbsent_7 hl (by decide) rfl (fun ls hl => ?_)
  refine lv_aload hC.1 hC.2.1 dX3_putAbsent_9 (lv_at hl 0 rfl) ?_
  refine lv_iload_n hC.1 hC.2.1 dX3_putAbsent_11 rfl (lv_at hl 3 rfl) ?_
  refine x_callV hC hw (lv_size hl) (c_X0_holds l G hBx_3 (show (O ((p0).toNat)) < 3 by first | assumption | omega) hVx_3 (by first | assumption | omega) (by first | assumption | omega) (p0 := p1) (by first | assumption | omega)) gX3_putAbsent_X0_holds rfl dv_X0_holds hBx_3.1 rfl rfl (Nat.le_of_ble_eq_true rfl) (by rw [hRf]; decide) (by rw [hRl]; decide) (by first | (rw [hRc]; decide) | omega) (by first | (rw [hRs]; decide) | omega) dX3_putAbsent_12 (fun r9 M_4 H locs hq hw => ?_)
  obtain ⟨z_5, rfl, hM9, hz_5, hz_5v⟩ := hq
  rw [hM9] at hw
  show W p l e R s m args below meth c H locs _ _ _ (F0 m 15 ls [.int (iN (z_5))])
  refine x_if_eq (tgt := 27) hC ⟨by omega, by omega⟩ dX3_putAbsent_15 (by decide) (fun c_6 => ?_) (fun c_6 => ?_)
  · refine lv_aload hC.1 hC.2.1 dX3_putAbsent_27 (lv_at hl 0 rfl) ?_
    refine lv_iload_n hC.1 hC.2.1 dX3_putAbsent_29 rfl (lv_at hl 3 rfl) ?_
    refine lv_iload_n hC.1 hC.2.1 dX3_putAbsent_30 rfl (lv_at hl 4 rfl) ?_
    refine x_callV hC hw (lv_size hl) (c_X0_enter l G hBx_3 (show (O ((p0).toNat)) < 3 by first | assumption | omega) hVx_3 (by first | assumption | omega) (by first | assumption | omega) (p0 := p1) (by first | assumption | omega) (p1 := p2) (by first | assumption | omega) (by omega) (by omega)) gX3_putAbsent_X0_enter rfl dv_X0_enter hBx_3.1 rfl rfl (Nat.le_of_ble_eq_true rfl) (by rw [hRf]; decide) (by rw [hRl]; decide) (by first | (rw [hRc]; decide) | omega) (by first | (rw [hRs]; decide) | omega) dX3_putAbsent_31 (fun r9 M_7 H locs hq hw => ?_)
    obtain ⟨z_9, rfl, hz_9, hz_9v, kcu_8, szu_8, fku_8, fvu_8, hBu_8, smu_8, hVu_8, hksu_8, hka1u_8, hkb1u_8⟩ := hq
    obtain ⟨-, -, -, -, hsau_8, hsbu_8⟩ := id hBu_8
    obtain ⟨hkau_8, hkbu_8, -⟩ := id hksu_8
    have sm_10 := (xSm.rf (M := M_1) (b := (qb ((p0).toNat))) (k := (qk ((p0).toNat))) (v := (qv ((p0).toNat)))).tr (smu_8)
    have h_11 := hRk_2.book hik_2 hBx_3 hBu_8 hVu_8 smu_8 (by first | omega | (rw [upV_s]; omega)) (by first | omega | (rw [upV_s]; omega))
    rw [show (upV (upV T (p0).toNat (T (p0).toNat + 1)) ((p0).toNat) (T (p0).toNat + 1)) = (upV T (p0).toNat (T (p0).toNat + 1)) from upV_upV] at h_11
    show W p l e R s m args below meth c H locs _ _ _ (F0 m 34 ls [.int (iN (z_9))])
    exact vx_ret (x_iret hC hw dX3_putAbsent_34 (by first | decide | omega) (by first | decide | omega) ⟨z_9, rfl, ⟨by omega, by omega⟩, ⟨⟨(by first | omega | trivial), (by first | omega | trivial)⟩, ⟨⟨(by first | omega | trivial), (by first | omega | trivial)⟩, ⟨(by first | omega | trivial), (by first | omega | trivial)⟩⟩⟩, (show _ = (V (p0).toNat (p1).toNat) by omega), (RG.mut hR.wg h_11 (by omega) hksu_8 (by omega) hcb (by omega) (congrArg (upV (V (p0).toNat) (p1).toNat) (show p2 = (if (V (p0).toNat (p1).toNat) = -10000 then p2 else (V (p0).toNat (p1).toNat)) by first | rfl | omega | ((repeat' split) <;> first | rfl | omega))))⟩)
  · refine lv_aload hC.1 hC.2.1 dX3_putAbsent_18 (lv_at hl 0 rfl) ?_
    refine lv_iload_n hC.1 hC.2.1 dX3_putAbsent_20 rfl (lv_at hl 3 rfl) ?_
    refine x_callV hC hw (lv_size hl) (c_X0_valueOf l G hBx_3 (show (O ((p0).toNat)) < 3 by first | assumption | omega) hVx_3 (by first | assumption | omega) (by first | assumption | omega) (p0 := p1) (by first | assumption | omega)) gX3_putAbsent_X0_valueOf rfl dv_X0_valueOf hBx_3.1 rfl rfl (Nat.le_of_ble_eq_true rfl) (by rw [hRf]; decide) (by rw [hRl]; decide) (by first | (rw [hRc]; decide) | omega) (by first | (rw [hRs]; decide) | omega) dX3_putAbsent_21 (fun r9 M_13 H locs hq hw => ?_)
    obtain ⟨z_14, rfl, hM9, hz_14, hz_14v, hz_14n⟩ := hq
    rw [hM9] at hw
    show W p l e R s m args below meth c H locs _ _ _ (F0 m 24 ls [.int (iN (z_14))])
    refine lv_goto (tgt := 34) hC.1 hC.2.1 dX3_putAbsent_24 (by decide) ?_
    exact vx_ret (x_iret hC hw dX3_putAbsent_34 (by first | decide | omega) (by first | decide | omega) ⟨z_14, rfl, ⟨by omega, by omega⟩, ⟨⟨(by first | omega | trivial), (by first | omega | trivial)⟩, ⟨⟨(by first | omega | trivial), (by first | omega | trivial)⟩, ⟨(by first | omega | trivial), (by first | omega | trivial)⟩⟩⟩, (show _ = (V (p0).toNat (p1).toNat) by omega), (RG.mut0 hR.wg hRk_2 (by omega) hcb (by omega) (upV_self (show (V (p0).toNat (p1).toNat) = (if (V (p0).toNat (p1).toNat) = -10000 then p2 else (V (p0).toNat (p1).toNat)) by first | rfl | omega | ((repeat' split) <;> first | rfl | omega))).symm)⟩)
set_option maxHeartbeats 4000000 in
set_option maxRecDepth 100000 in
theorem c_X3_replace (l : Launch) (G : xG) {M : HM} (hst : l.stackTraces = false) {h0 bs vs : Nat} {og : Option Nat} {kk kv rf : Int32} {qb qk qv : Nat → Nat} {fb fv : Nat → Option Nat} {O : OW} {Wv : VW} {V : BW} {T C : Nat → Int} {K : WA} {N : Int} (hR : RGx G M h0 bs vs og kk kv rf qb qk qv fb fv O O Wv V T C K) (hcb : cbN N T C) (hN : N ≤ 590) {p0 : Int} (hp0 : -2147483648 ≤ p0 ∧ p0 ≤ 2147483647) {p1 : Int} (hp1 : -2147483648 ≤ p1 ∧ p1 ≤ 2147483647) {p2 : Int} (hp2 : -2147483648 ≤ p2 ∧ p2 ≤ 2147483647) : xMetX l G yX3_replace wsX3_replace 8 135 3 18 [.ref h0, .int (iN (p0)), .int (iN (p1)), .int (iN (p2))] M (fun r M1 => ∃ z : Int, r = some (.int (iN z)) ∧ (-2147483648 ≤ z ∧ z ≤ 2147483647) ∧ ((0 ≤ p0 ∧ p0 ≤ 2) ∧ ((0 ≤ p1 ∧ p1 ≤ 99) ∧ (-9999 ≤ p2 ∧ p2 ≤ 9999))) ∧ z = A_replace (O, V, Wv, abK T C K, kk, kv, rf) p0 p1 p2 ∧ RG G M1 h0 (N + 1) (S_replace (O, V, Wv, abK T C K, kk, kv, rf) p0 p1 p2)) (fun E M1 => ((E = xIO ∧ ¬ (0 ≤ p0 ∧ p0 ≤ 2)) ∨ (E = xIA ∧ (0 ≤ p0 ∧ p0 ≤ 2) ∧ ¬ ((0 ≤ p1 ∧ p1 ≤ 99) ∧ (-9999 ≤ p2 ∧ p2 ≤ 9999)))) ∧ RG G M1 h0 (N + 1) (O, V, Wv, abK T C K, kk, kv, rf)) := by
  refine x_introX (cc := cX3_replace) (maxL := 5) (ret := (some .int)) (by exact pln_RX3) rfl (Nat.le_of_ble_eq_true rfl) ?_
  intro p e R s m args below meth c ls hRf hRc hRs hRl htab hC hw hl
  have hl : lv_has ls 5 [(0, .ref h0), (1, .int (iN (p0))), (2, .int (iN (p1))), (3, .int (iN (p2)))] := hl
  refine lv_aload_n hC.1 hC.2.1 dX3_replace_0 rfl (lv_at hl 0 rfl) ?_
  refine lv_iload_n hC.1 hC.2.1 dX3_replace_1 rfl (lv_at hl 1 rfl) ?_
  refine lv_iload_n hC.1 hC.2.1 dX3_replace_2 rfl (lv_at hl 2 rfl) ?_
  refine lv_iload_n hC.1 hC.2.1 dX3_replace_3 rfl (lv_at hl 3 rfl) ?_
  refine x_callVX hC hw (lv_size hl) (c_X3_bookToWritePair l G hst hR hcb hN (p0 := p0) (by first | assumption | omega) (p1 := p1) (by first | assumption | omega) (p2 := p2) (by first | assumption | omega)) gX3_replace_X3_bookToWritePair rfl dv_X3_bookToWritePair hR.1 rfl rfl (Nat.le_of_ble_eq_true rfl) (by rw [hRf]; decide) (by rw [hRl]; decide) (by first | (rw [hRc]; decide) | omega) (by first | (rw [hRs]; decide) | omega) dX3_replace_4 (fun E ce q9 M_1 H locs hqx hw hcell hcv hcls => ?_) (fun r9 M_1 H locs hq hw => ?_)
  · rcases hqx with ⟨⟨hE, hc9⟩ | ⟨hE, hc9⟩, hqx⟩
    · subst hE
      exact x_outX hC hw htab hcell hcv hcls (by first | decide | omega) (by first | decide | omega) ⟨Or.inl ⟨rfl, (by first | exact hc9 | omega | trivial)⟩, (RG.of (N2 := N + 1) hqx hcb (by omega) (by omega))⟩
    · subst hE
      exact x_outX hC hw htab hcell hcv hcls (by first | decide | omega) (by first | decide | omega) ⟨Or.inr (⟨rfl, ⟨⟨(by first | omega | trivial), (by first | omega | trivial)⟩, (by first | exact hc9 | omega | trivial)⟩⟩), (RG.of (N2 := N + 1) hqx hcb (by omega) (by omega))⟩
  obtain ⟨rfl, hRk_2, hpk_2, hkk_20, hkk_21⟩ := hq
  have hik_2 : (p0).toNat < 3 := by omega
  obtain ⟨szx_3, fkx_3, fwx_3, hBx_3, hVx_3⟩ := hRk_2.bk hik_2
  rw [upV_s] at hBx_3
  obtain ⟨-, -, -, -, hsax_3, hsbx_3⟩ := id hBx_3
  have holx_3 := hRk_2.ol hik_2
  have hctx_3 := hcb.2 _ hik_2
  show W p l e R s m args below meth c H locs _ _ _ (F0 m 7 ls [.ref (qb ((p0).toNat))])
  refine lv_astore (lv' := [(4, .ref (qb ((p0).toNat))), (0, .ref h0), (1, .int (iN (p0))), (2, .int (iN (p1))), (3, .int (iN (p2)))]) hC.1 hC.2.1 dX3_replace_7 hl (by decide) rfl (fun ls hl => ?_)
  refine lv_aload hC.1 hC.2.1 dX3_replace_9 (lv_at hl 0 rfl) ?_
  refine lv_iload_n hC.1 hC.2.1 dX3_replace_11 rfl (lv_at hl 3 rfl) ?_
  refine x_callV hC hw (lv_size hl) (c_X0_holds l G hBx_3 (show (O ((p0).toNat)) < 3 by first | assumption | omega) hVx_3 (by first | assumption | omega) (by first | assumption | omega) (p0 := p1) (by first | assumption | omega)) gX3_replace_X0_holds rfl dv_X0_holds hBx_3.1 rfl rfl (Nat.le_of_ble_eq_true rfl) (by rw [hRf]; decide) (by rw [hRl]; decide) (by first | (rw [hRc]; decide) | omega) (by first | (rw [hRs]; decide) | omega) dX3_replace_12 (fun r9 M_4 H locs hq hw => ?_)
  obtain ⟨z_5, rfl, hM9, hz_5, hz_5v⟩ := hq
  rw [hM9] at hw
  show W p l e R s m args below meth c H locs _ _ _ (F0 m 15 ls [.int (iN (z_5))])
  refine x_if_eq (tgt := 28) hC ⟨by omega, by omega⟩ dX3_replace_15 (by decide) (fun c_6 => ?_) (fun c_6 => ?_)
  · refine x_sipush hC dX3_replace_28 (by decide +kernel) ?_
    exact vx_ret (x_iret hC hw dX3_replace_31 (by first | decide | omega) (by first | decide | omega) ⟨(-10000), rfl, ⟨by omega, by omega⟩, ⟨⟨(by first | omega | trivial), (by first | omega | trivial)⟩, ⟨⟨(by first | omega | trivial), (by first | omega | trivial)⟩, ⟨(by first | omega | trivial), (by first | omega | trivial)⟩⟩⟩, (show _ = (V (p0).toNat (p1).toNat) by omega), (RG.mut0 hR.wg hRk_2 (by omega) hcb (by omega) (upV_self (show (V (p0).toNat (p1).toNat) = (if (V (p0).toNat (p1).toNat) = -10000 then -10000 else p2) by first | rfl | omega | ((repeat' split) <;> first | rfl | omega))).symm)⟩)
  · refine lv_aload hC.1 hC.2.1 dX3_replace_18 (lv_at hl 0 rfl) ?_
    refine lv_iload_n hC.1 hC.2.1 dX3_replace_20 rfl (lv_at hl 3 rfl) ?_
    refine lv_iload_n hC.1 hC.2.1 dX3_replace_21 rfl (lv_at hl 4 rfl) ?_
    refine x_callV hC hw (lv_size hl) (c_X0_enter l G hBx_3 (show (O ((p0).toNat)) < 3 by first | assumption | omega) hVx_3 (by first | assumption | omega) (by first | assumption | omega) (p0 := p1) (by first | assumption | omega) (p1 := p2) (by first | assumption | omega) (by omega) (by omega)) gX3_replace_X0_enter rfl dv_X0_enter hBx_3.1 rfl rfl (Nat.le_of_ble_eq_true rfl) (by rw [hRf]; decide) (by rw [hRl]; decide) (by first | (rw [hRc]; decide) | omega) (by first | (rw [hRs]; decide) | omega) dX3_replace_22 (fun r9 M_7 H locs hq hw => ?_)
    obtain ⟨z_9, rfl, hz_9, hz_9v, kcu_8, szu_8, fku_8, fvu_8, hBu_8, smu_8, hVu_8, hksu_8, hka1u_8, hkb1u_8⟩ := hq
    obtain ⟨-, -, -, -, hsau_8, hsbu_8⟩ := id hBu_8
    obtain ⟨hkau_8, hkbu_8, -⟩ := id hksu_8
    have sm_10 := (xSm.rf (M := M_1) (b := (qb ((p0).toNat))) (k := (qk ((p0).toNat))) (v := (qv ((p0).toNat)))).tr (smu_8)
    have h_11 := hRk_2.book hik_2 hBx_3 hBu_8 hVu_8 smu_8 (by first | omega | (rw [upV_s]; omega)) (by first | omega | (rw [upV_s]; omega))
    rw [show (upV (upV T (p0).toNat (T (p0).toNat + 1)) ((p0).toNat) (T (p0).toNat + 1)) = (upV T (p0).toNat (T (p0).toNat + 1)) from upV_upV] at h_11
    show W p l e R s m args below meth c H locs _ _ _ (F0 m 25 ls [.int (iN (z_9))])
    refine lv_goto (tgt := 31) hC.1 hC.2.1 dX3_replace_25 (by decide) ?_
    exact vx_ret (x_iret hC hw dX3_replace_31 (by first | decide | omega) (by first | decide | omega) ⟨z_9, rfl, ⟨by omega, by omega⟩, ⟨⟨(by first | omega | trivial), (by first | omega | trivial)⟩, ⟨⟨(by first | omega | trivial), (by first | omega | trivial)⟩, ⟨(by first | omega | trivial), (by first | omega | trivial)⟩⟩⟩, (show _ = (V (p0).toNat (p1).toNat) by omega), (RG.mut hR.wg h_11 (by omega) hksu_8 (by omega) hcb (by omega) (congrArg (upV (V (p0).toNat) (p1).toNat) (show p2 = (if (V (p0).toNat (p1).toNat) = -10000 then -10000 else p2) by first | rfl | omega | ((repeat' split) <;> first | rfl | omega))))⟩)
set_option maxHeartbeats 4000000 in
set_option maxRecDepth 100000 in
theorem c_X3_swap (l : Launch) (G : xG) {M : HM} (hst : l.stackTraces = false) {h0 bs vs : Nat} {og : Option Nat} {kk kv rf : Int32} {qb qk qv : Nat → Nat} {fb fv : Nat → Option Nat} {O : OW} {Wv : VW} {V : BW} {T C : Nat → Int} {K : WA} {N : Int} (hR : RGx G M h0 bs vs og kk kv rf qb qk qv fb fv O O Wv V T C K) (hcb : cbN N T C) (hN : N ≤ 590) {p0 : Int} (hp0 : -2147483648 ≤ p0 ∧ p0 ≤ 2147483647) {p1 : Int} (hp1 : -2147483648 ≤ p1 ∧ p1 ≤ 2147483647) {p2 : Int} (hp2 : -2147483648 ≤ p2 ∧ p2 ≤ 2147483647) {p3 : Int} (hp3 : -2147483648 ≤ p3 ∧ p3 ≤ 2147483647) : xMetX l G yX3_swap wsX3_swap 7 111 4 24 [.ref h0, .int (iN (p0)), .int (iN (p1)), .int (iN (p2)), .int (iN (p3))] M (fun r M1 => ∃ z : Int, r = some (.int (iN z)) ∧ (z = 0 ∨ z = 1) ∧ ((0 ≤ p0 ∧ p0 ≤ 2) ∧ ((0 ≤ p1 ∧ p1 ≤ 99) ∧ (-9999 ≤ p2 ∧ p2 ≤ 9999) ∧ (-9999 ≤ p3 ∧ p3 ≤ 9999))) ∧ z = A_swap (O, V, Wv, abK T C K, kk, kv, rf) p0 p1 p2 p3 ∧ RG G M1 h0 (N + 1) (S_swap (O, V, Wv, abK T C K, kk, kv, rf) p0 p1 p2 p3)) (fun E M1 => ((E = xIO ∧ ¬ (0 ≤ p0 ∧ p0 ≤ 2)) ∨ (E = xIA ∧ (0 ≤ p0 ∧ p0 ≤ 2) ∧ ¬ ((0 ≤ p1 ∧ p1 ≤ 99) ∧ (-9999 ≤ p2 ∧ p2 ≤ 9999) ∧ (-9999 ≤ p3 ∧ p3 ≤ 9999)))) ∧ RG G M1 h0 (N + 1) (O, V, Wv, abK T C K, kk, kv, rf)) := by
  refine x_introX (cc := cX3_swap) (maxL := 6) (ret := (some .boolean)) (by exact pln_RX3) rfl (Nat.le_of_ble_eq_true rfl) ?_
  intro p e R s m args below meth c ls hRf hRc hRs hRl htab hC hw hl
  have hl : lv_has ls 6 [(0, .ref h0), (1, .int (iN (p0))), (2, .int (iN (p1))), (3, .int (iN (p2))), (4, .int (iN (p3)))] := hl
  refine lv_aload_n hC.1 hC.2.1 dX3_swap_0 rfl (lv_at hl 0 rfl) ?_
  refine lv_iload_n hC.1 hC.2.1 dX3_swap_1 rfl (lv_at hl 1 rfl) ?_
  refine x_callVX hC hw (lv_size hl) (c_X3_bookAt l G hst hR hcb hN (p0 := p0) (by first | assumption | omega)) gX3_swap_X3_bookAt rfl dv_X3_bookAt hR.1 rfl rfl (Nat.le_of_ble_eq_true rfl) (by rw [hRf]; decide) (by rw [hRl]; decide) (by first | (rw [hRc]; decide) | omega) (by first | (rw [hRs]; decide) | omega) dX3_swap_2 (fun E ce q9 M_1 H locs hqx hw hcell hcv hcls => ?_) (fun r9 M_1 H locs hq hw => ?_)
  · rw [hqx.2] at hw
    obtain ⟨hE, hc9⟩ := hqx.1
    replace hqx := hqx.2
    subst hE
    exact x_outX hC hw htab hcell hcv hcls (by first | decide | omega) (by first | decide | omega) ⟨Or.inl ⟨rfl, (by first | exact hc9 | omega | trivial)⟩, (RG.of (N2 := N + 1) hR hcb (by omega) (by omega))⟩
  obtain ⟨rfl, hM9, hk_2, hk_2b⟩ := hq
  rw [hM9] at hw
  have hik_2 : (p0).toNat < 3 := by omega
  obtain ⟨szx_3, fkx_3, fwx_3, hBx_3, hVx_3⟩ := hR.bk hik_2
  obtain ⟨-, -, -, -, hsax_3, hsbx_3⟩ := id hBx_3
  have holx_3 := hR.ol hik_2
  have hctx_3 := hcb.2 _ hik_2
  show W p l e R s m args below meth c H locs _ _ _ (F0 m 5 ls [.ref (qb ((p0).toNat))])
  refine lv_astore (lv' := [(5, .ref (qb ((p0).toNat))), (0, .ref h0), (1, .int (iN (p0))), (2, .int (iN (p1))), (3, .int (iN (p2))), (4, .int (iN (p3)))]) hC.1 hC.2.1 dX3_swap_5 hl (by decide) rfl (fun ls hl => ?_)
  refine lv_iload_n hC.1 hC.2.1 dX3_swap_7 rfl (lv_at hl 3 rfl) ?_
  refine x_callSX hC hw (lv_size hl) (c_X3_checkKey l G (M := M) hst (p0 := p1) (by first | assumption | omega)) gX3_swap_X3_checkKey rfl dv_X3_checkKey_s rfl (Nat.le_of_ble_eq_true rfl) (by rw [hRf]; decide) (by rw [hRl]; decide) (by first | (rw [hRc]; decide) | omega) (by first | (rw [hRs]; decide) | omega) dX3_swap_8 (fun E ce q9 M_4 H locs hqx hw hcell hcv hcls => ?_) (fun r9 M_4 H locs hq hw => ?_)
  · rw [hqx.2] at hw
    obtain ⟨hE, hc9⟩ := hqx.1
    replace hqx := hqx.2
    subst hE
    exact x_outX hC hw htab hcell hcv hcls (by first | decide | omega) (by first | decide | omega) ⟨Or.inr (⟨rfl, ⟨⟨(by first | omega | trivial), (by first | omega | trivial)⟩, (by first | exact hc9 | omega | trivial)⟩⟩), (RG.of (N2 := N + 1) hR hcb (by omega) (by omega))⟩
  obtain ⟨rfl, hM9, hk_5⟩ := hq
  rw [hM9] at hw
  show W p l e R s m args below meth c H locs _ _ _ (F0 m 11 ls [])
  refine lv_iload_n hC.1 hC.2.1 dX3_swap_11 rfl (lv_at hl 4 rfl) ?_
  refine x_callSX hC hw (lv_size hl) (c_X3_checkValue l G (M := M) hst (p0 := p2) (by first | assumption | omega)) gX3_swap_X3_checkValue rfl dv_X3_checkValue_s rfl (Nat.le_of_ble_eq_true rfl) (by rw [hRf]; decide) (by rw [hRl]; decide) (by first | (rw [hRc]; decide) | omega) (by first | (rw [hRs]; decide) | omega) dX3_swap_12 (fun E ce q9 M_6 H locs hqx hw hcell hcv hcls => ?_) (fun r9 M_6 H locs hq hw => ?_)
  · rw [hqx.2] at hw
    obtain ⟨hE, hc9⟩ := hqx.1
    replace hqx := hqx.2
    subst hE
    exact x_outX hC hw htab hcell hcv hcls (by first | decide | omega) (by first | decide | omega) ⟨Or.inr (⟨rfl, ⟨⟨(by first | omega | trivial), (by first | omega | trivial)⟩, (by first | exact hc9 | omega | trivial)⟩⟩), (RG.of (N2 := N + 1) hR hcb (by omega) (by omega))⟩
  obtain ⟨rfl, hM9, hk_7⟩ := hq
  rw [hM9] at hw
  show W p l e R s m args below meth c H locs _ _ _ (F0 m 15 ls [])
  refine lv_iload hC.1 hC.2.1 dX3_swap_15 (lv_at hl 5 rfl) ?_
  refine x_callSX hC hw (lv_size hl) (c_X3_checkValue l G (M := M) hst (p0 := p3) (by first | assumption | omega)) gX3_swap_X3_checkValue rfl dv_X3_checkValue_s rfl (Nat.le_of_ble_eq_true rfl) (by rw [hRf]; decide) (by rw [hRl]; decide) (by first | (rw [hRc]; decide) | omega) (by first | (rw [hRs]; decide) | omega) dX3_swap_17 (fun E ce q9 M_8 H locs hqx hw hcell hcv hcls => ?_) (fun r9 M_8 H locs hq hw => ?_)
  · rw [hqx.2] at hw
    obtain ⟨hE, hc9⟩ := hqx.1
    replace hqx := hqx.2
    subst hE
    exact x_outX hC hw htab hcell hcv hcls (by first | decide | omega) (by first | decide | omega) ⟨Or.inr (⟨rfl, ⟨⟨(by first | omega | trivial), (by first | omega | trivial)⟩, (by first | exact hc9 | omega | trivial)⟩⟩), (RG.of (N2 := N + 1) hR hcb (by omega) (by omega))⟩
  obtain ⟨rfl, hM9, hk_9⟩ := hq
  rw [hM9] at hw
  show W p l e R s m args below meth c H locs _ _ _ (F0 m 20 ls [])
  refine lv_aload hC.1 hC.2.1 dX3_swap_20 (lv_at hl 0 rfl) ?_
  refine x_callV hC hw (lv_size hl) (c_X0_touch l G hBx_3 (show (O ((p0).toNat)) < 3 by first | assumption | omega) hVx_3 (by first | assumption | omega) (by first | assumption | omega)) gX3_swap_X0_touch rfl dv_X0_touch hBx_3.1 rfl rfl (Nat.le_of_ble_eq_true rfl) (by rw [hRf]; decide) (by rw [hRl]; decide) (by first | (rw [hRc]; decide) | omega) (by first | (rw [hRs]; decide) | omega) dX3_swap_22 (fun r9 M_10 H locs hq hw => ?_)
  obtain ⟨rfl, hBu_11, smu_11⟩ := hq
  have sm_12 := (xSm.rf (M := M) (b := (qb ((p0).toNat))) (k := (qk ((p0).toNat))) (v := (qv ((p0).toNat)))).tr (smu_11)
  have h_13 := hR.book hik_2 hBx_3 hBu_11 hVx_3 smu_11 (by first | omega | (rw [upV_s]; omega)) (by first | omega | (rw [upV_s]; omega))
  rw [show (upB V ((p0).toNat) (V ((p0).toNat))) = V from upB_self rfl, show (upV C ((p0).toNat) (C ((p0).toNat))) = C from upV_same _ _] at h_13
  show W p l e R s m args below meth c H locs _ _ _ (F0 m 25 ls [])
  refine lv_aload hC.1 hC.2.1 dX3_swap_25 (lv_at hl 0 rfl) ?_
  refine lv_iload_n hC.1 hC.2.1 dX3_swap_27 rfl (lv_at hl 3 rfl) ?_
  refine x_callV hC hw (lv_size hl) (c_X0_valueOf l G hBu_11 (show (O ((p0).toNat)) < 3 by first | assumption | omega) hVx_3 (by first | assumption | omega) (by first | assumption | omega) (p0 := p1) (by first | assumption | omega)) gX3_swap_X0_valueOf rfl dv_X0_valueOf hBu_11.1 rfl rfl (Nat.le_of_ble_eq_true rfl) (by rw [hRf]; decide) (by rw [hRl]; decide) (by first | (rw [hRc]; decide) | omega) (by first | (rw [hRs]; decide) | omega) dX3_swap_28 (fun r9 M_15 H locs hq hw => ?_)
  obtain ⟨z_16, rfl, hM9, hz_16, hz_16v, hz_16n⟩ := hq
  rw [hM9] at hw
  show W p l e R s m args below meth c H locs _ _ _ (F0 m 31 ls [.int (iN (z_16))])
  refine lv_iload_n hC.1 hC.2.1 dX3_swap_31 rfl (lv_at hl 4 rfl) ?_
  refine x_icmp_eq (tgt := 37) hC ⟨by omega, by omega⟩ ⟨by omega, by omega⟩ dX3_swap_32 (by decide) (fun c_17 => ?_) (fun c_17 => ?_)
  · refine lv_aload hC.1 hC.2.1 dX3_swap_37 (lv_at hl 0 rfl) ?_
    refine lv_iload_n hC.1 hC.2.1 dX3_swap_39 rfl (lv_at hl 3 rfl) ?_
    refine lv_iload hC.1 hC.2.1 dX3_swap_40 (lv_at hl 5 rfl) ?_
    refine x_callV hC hw (lv_size hl) (c_X0_enter l G hBu_11 (show (O ((p0).toNat)) < 3 by first | assumption | omega) hVx_3 (by first | assumption | omega) (by first | assumption | omega) (p0 := p1) (by first | assumption | omega) (p1 := p3) (by first | assumption | omega) (by omega) (by omega)) gX3_swap_X0_enter rfl dv_X0_enter hBu_11.1 rfl rfl (Nat.le_of_ble_eq_true rfl) (by rw [hRf]; decide) (by rw [hRl]; decide) (by first | (rw [hRc]; decide) | omega) (by first | (rw [hRs]; decide) | omega) dX3_swap_42 (fun r9 M_18 H locs hq hw => ?_)
    obtain ⟨z_20, rfl, hz_20, hz_20v, kcu_19, szu_19, fku_19, fvu_19, hBu_19, smu_19, hVu_19, hksu_19, hka1u_19, hkb1u_19⟩ := hq
    obtain ⟨-, -, -, -, hsau_19, hsbu_19⟩ := id hBu_19
    obtain ⟨hkau_19, hkbu_19, -⟩ := id hksu_19
    have sm_21 := (sm_12).tr (smu_19)
    have h_22 := h_13.book hik_2 hBu_11 hBu_19 hVu_19 smu_19 (by first | omega | (rw [upV_s]; omega)) (by first | omega | (rw [upV_s]; omega))
    rw [show (upV (upV T ((p0).toNat) ((T ((p0).toNat)) + 1)) ((p0).toNat) ((T ((p0).toNat)) + 1)) = (upV T ((p0).toNat) ((T ((p0).toNat)) + 1)) from upV_upV] at h_22
    show W p l e R s m args below meth c H locs _ _ _ (F0 m 45 ls [.int (iN (z_20))])
    refine lv_pop hC.1 hC.2.1 dX3_swap_45 rfl ?_
    refine x_const hC dX3_swap_46 ?_
    exact vx_ret (x_zret hC hw (by omega) dX3_swap_47 (by first | decide | omega) (by first | decide | omega) ⟨1, rfl, by omega, ⟨⟨(by first | omega | trivial), (by first | omega | trivial)⟩, ⟨⟨(by first | omega | trivial), (by first | omega | trivial)⟩, ⟨(by first | omega | trivial), (by first | omega | trivial)⟩, ⟨(by first | omega | trivial), (by first | omega | trivial)⟩⟩⟩, (show _ = (if (V (p0).toNat (p1).toNat) = p2 then 1 else 0) by first | rfl | omega | ((repeat' split) <;> first | rfl | omega)), (RG.mut hR.wg h_22 (by omega) hksu_19 (by omega) hcb (by omega) (congrArg (upV (V (p0).toNat) (p1).toNat) (show p3 = (if (V (p0).toNat (p1).toNat) = p2 then p3 else (V (p0).toNat (p1).toNat)) by first | rfl | omega | ((repeat' split) <;> first | rfl | omega))))⟩)
  · refine x_const hC dX3_swap_35 ?_
    exact vx_ret (x_zret hC hw (by omega) dX3_swap_36 (by first | decide | omega) (by first | decide | omega) ⟨0, rfl, by omega, ⟨⟨(by first | omega | trivial), (by first | omega | trivial)⟩, ⟨⟨(by first | omega | trivial), (by first | omega | trivial)⟩, ⟨(by first | omega | trivial), (by first | omega | trivial)⟩, ⟨(by first | omega | trivial), (by first | omega | trivial)⟩⟩⟩, (show _ = (if (V (p0).toNat (p1).toNat) = p2 then 1 else 0) by first | rfl | omega | ((repeat' split) <;> first | rfl | omega)), (RG.mut0 hR.wg h_13 (by omega) hcb (by omega) (upV_self (show (V (p0).toNat (p1).toNat) = (if (V (p0).toNat (p1).toNat) = p2 then p3 else (V (p0).toNat (p1).toNat)) by first | rfl | omega | ((repeat' split) <;> first | rfl | omega))).symm)⟩)
set_option maxHeartbeats 4000000 in
set_option maxRecDepth 100000 in
theorem c_X3_strike (l : Launch) (G : xG) {M : HM} (hst : l.stackTraces = false) {h0 bs vs : Nat} {og : Option Nat} {kk kv rf : Int32} {qb qk qv : Nat → Nat} {fb fv : Nat → Option Nat} {O : OW} {Wv : VW} {V : BW} {T C : Nat → Int} {K : WA} {N : Int} (hR : RGx G M h0 bs vs og kk kv rf qb qk qv fb fv O O Wv V T C K) (hcb : cbN N T C) (hN : N ≤ 590) {p0 : Int} (hp0 : -2147483648 ≤ p0 ∧ p0 ≤ 2147483647) {p1 : Int} (hp1 : -2147483648 ≤ p1 ∧ p1 ≤ 2147483647) : xMetX l G yX3_strike wsX3_strike 8 134 2 12 [.ref h0, .int (iN (p0)), .int (iN (p1))] M (fun r M1 => ∃ z : Int, r = some (.int (iN z)) ∧ (-2147483648 ≤ z ∧ z ≤ 2147483647) ∧ ((0 ≤ p0 ∧ p0 ≤ 2) ∧ (0 ≤ p1 ∧ p1 ≤ 99)) ∧ z = A_strike (O, V, Wv, abK T C K, kk, kv, rf) p0 p1 ∧ RG G M1 h0 (N + 1) (S_strike (O, V, Wv, abK T C K, kk, kv, rf) p0 p1)) (fun E M1 => ((E = xIO ∧ ¬ (0 ≤ p0 ∧ p0 ≤ 2)) ∨ (E = xIA ∧ (0 ≤ p0 ∧ p0 ≤ 2) ∧ ¬ (0 ≤ p1 ∧ p1 ≤ 99))) ∧ RG G M1 h0 (N + 1) (O, V, Wv, abK T C K, kk, kv, rf)) := by
  refine x_introX (cc := cX3_strike) (maxL := 3) (ret := (some .int)) (by exact pln_RX3) rfl (Nat.le_of_ble_eq_true rfl) ?_
  intro p e R s m args below meth c ls hRf hRc hRs hRl htab hC hw hl
  have hl : lv_has ls 3 [(0, .ref h0), (1, .int (iN (p0))), (2, .int (iN (p1)))] := hl
  refine lv_aload_n hC.1 hC.2.1 dX3_strike_0 rfl (lv_at hl 0 rfl) ?_
  refine lv_iload_n hC.1 hC.2.1 dX3_strike_1 rfl (lv_at hl 1 rfl) ?_
  refine lv_iload_n hC.1 hC.2.1 dX3_strike_2 rfl (lv_at hl 2 rfl) ?_
  refine x_callVX hC hw (lv_size hl) (c_X3_bookToWriteKey l G hst hR hcb hN (p0 := p0) (by first | assumption | omega) (p1 := p1) (by first | assumption | omega)) gX3_strike_X3_bookToWriteKey rfl dv_X3_bookToWriteKey hR.1 rfl rfl (Nat.le_of_ble_eq_true rfl) (by rw [hRf]; decide) (by rw [hRl]; decide) (by first | (rw [hRc]; decide) | omega) (by first | (rw [hRs]; decide) | omega) dX3_strike_3 (fun E ce q9 M_1 H locs hqx hw hcell hcv hcls => ?_) (fun r9 M_1 H locs hq hw => ?_)
  · rcases hqx with ⟨⟨hE, hc9⟩ | ⟨hE, hc9⟩, hqx⟩
    · subst hE
      exact x_outX hC hw htab hcell hcv hcls (by first | decide | omega) (by first | decide | omega) ⟨Or.inl ⟨rfl, (by first | exact hc9 | omega | trivial)⟩, (RG.of (N2 := N + 1) hqx hcb (by omega) (by omega))⟩
    · subst hE
      exact x_outX hC hw htab hcell hcv hcls (by first | decide | omega) (by first | decide | omega) ⟨Or.inr (⟨rfl, ⟨⟨(by first | omega | trivial), (by first | omega | trivial)⟩, (by first | exact hc9 | omega | trivial)⟩⟩), (RG.of (N2 := N + 1) hqx hcb (by omega) (by omega))⟩
  obtain ⟨rfl, hRk_2, hpk_2, hkk_20⟩ := hq
  have hik_2 : (p0).toNat < 3 := by omega
  obtain ⟨szx_3, fkx_3, fwx_3, hBx_3, hVx_3⟩ := hRk_2.bk hik_2
  rw [upV_s] at hBx_3
  obtain ⟨-, -, -, -, hsax_3, hsbx_3⟩ := id hBx_3
  have holx_3 := hRk_2.ol hik_2
  have hctx_3 := hcb.2 _ hik_2
  show W p l e R s m args below meth c H locs _ _ _ (F0 m 6 ls [.ref (qb ((p0).toNat))])
  refine lv_iload_n hC.1 hC.2.1 dX3_strike_6 rfl (lv_at hl 2 rfl) ?_
  refine x_callV hC hw (lv_size hl) (c_X0_removeKey l G hBx_3 (show (O ((p0).toNat)) < 3 by first | assumption | omega) hVx_3 (by first | assumption | omega) (by first | assumption | omega) (p0 := p1) (by first | assumption | omega) (by omega)) gX3_strike_X0_removeKey rfl dv_X0_removeKey hBx_3.1 rfl rfl (Nat.le_of_ble_eq_true rfl) (by rw [hRf]; decide) (by rw [hRl]; decide) (by first | (rw [hRc]; decide) | omega) (by first | (rw [hRs]; decide) | omega) dX3_strike_7 (fun r9 M_4 H locs hq hw => ?_)
  obtain ⟨z_6, rfl, hz_6, hz_6v, kcu_5, szu_5, fku_5, fvu_5, hBu_5, smu_5, hVu_5, hksu_5, hka1u_5, hkb1u_5⟩ := hq
  obtain ⟨-, -, -, -, hsau_5, hsbu_5⟩ := id hBu_5
  obtain ⟨hkau_5, hkbu_5, -⟩ := id hksu_5
  have sm_7 := (xSm.rf (M := M_1) (b := (qb ((p0).toNat))) (k := (qk ((p0).toNat))) (v := (qv ((p0).toNat)))).tr (smu_5)
  have h_8 := hRk_2.book hik_2 hBx_3 hBu_5 hVu_5 smu_5 (by first | omega | (rw [upV_s]; omega)) (by first | omega | (rw [upV_s]; omega))
  rw [show (upV (upV T (p0).toNat (T (p0).toNat + 1)) ((p0).toNat) (T (p0).toNat + 1)) = (upV T (p0).toNat (T (p0).toNat + 1)) from upV_upV] at h_8
  show W p l e R s m args below meth c H locs _ _ _ (F0 m 10 ls [.int (iN (z_6))])
  exact vx_ret (x_iret hC hw dX3_strike_10 (by first | decide | omega) (by first | decide | omega) ⟨z_6, rfl, ⟨by omega, by omega⟩, ⟨⟨(by first | omega | trivial), (by first | omega | trivial)⟩, ⟨(by first | omega | trivial), (by first | omega | trivial)⟩⟩, (show _ = (V (p0).toNat (p1).toNat) by omega), (RG.mut hR.wg h_8 (by omega) hksu_5 (by omega) hcb (by omega) (congrArg (upV (V (p0).toNat) (p1).toNat) (show (-10000) = -10000 by first | rfl | omega | ((repeat' split) <;> first | rfl | omega))))⟩)
set_option maxHeartbeats 4000000 in
set_option maxRecDepth 100000 in
theorem c_X3_strikePair (l : Launch) (G : xG) {M : HM} (hst : l.stackTraces = false) {h0 bs vs : Nat} {og : Option Nat} {kk kv rf : Int32} {qb qk qv : Nat → Nat} {fb fv : Nat → Option Nat} {O : OW} {Wv : VW} {V : BW} {T C : Nat → Int} {K : WA} {N : Int} (hR : RGx G M h0 bs vs og kk kv rf qb qk qv fb fv O O Wv V T C K) (hcb : cbN N T C) (hN : N ≤ 590) {p0 : Int} (hp0 : -2147483648 ≤ p0 ∧ p0 ≤ 2147483647) {p1 : Int} (hp1 : -2147483648 ≤ p1 ∧ p1 ≤ 2147483647) {p2 : Int} (hp2 : -2147483648 ≤ p2 ∧ p2 ≤ 2147483647) : xMetX l G yX3_strikePair wsX3_strikePair 8 135 3 18 [.ref h0, .int (iN (p0)), .int (iN (p1)), .int (iN (p2))] M (fun r M1 => ∃ z : Int, r = some (.int (iN z)) ∧ (z = 0 ∨ z = 1) ∧ ((0 ≤ p0 ∧ p0 ≤ 2) ∧ ((0 ≤ p1 ∧ p1 ≤ 99) ∧ (-9999 ≤ p2 ∧ p2 ≤ 9999))) ∧ z = A_strikePair (O, V, Wv, abK T C K, kk, kv, rf) p0 p1 p2 ∧ RG G M1 h0 (N + 1) (S_strikePair (O, V, Wv, abK T C K, kk, kv, rf) p0 p1 p2)) (fun E M1 => ((E = xIO ∧ ¬ (0 ≤ p0 ∧ p0 ≤ 2)) ∨ (E = xIA ∧ (0 ≤ p0 ∧ p0 ≤ 2) ∧ ¬ ((0 ≤ p1 ∧ p1 ≤ 99) ∧ (-9999 ≤ p2 ∧ p2 ≤ 9999)))) ∧ RG G M1 h0 (N + 1) (O, V, Wv, abK T C K, kk, kv, rf)) := by
  refine x_introX (cc := cX3_strikePair) (maxL := 5) (ret := (some .boolean)) (by exact pln_RX3) rfl (Nat.le_of_ble_eq_true rfl) ?_
  intro p e R s m args below meth c ls hRf hRc hRs hRl htab hC hw hl
  have hl : lv_has ls 5 [(0, .ref h0), (1, .int (iN (p0))), (2, .int (iN (p1))), (3, .int (iN (p2)))] := hl
  refine lv_aload_n hC.1 hC.2.1 dX3_strikePair_0 rfl (lv_at hl 0 rfl) ?_
  refine lv_iload_n hC.1 hC.2.1 dX3_strikePair_1 rfl (lv_at hl 1 rfl) ?_
  refine lv_iload_n hC.1 hC.2.1 dX3_strikePair_2 rfl (lv_at hl 2 rfl) ?_
  refine lv_iload_n hC.1 hC.2.1 dX3_strikePair_3 rfl (lv_at hl 3 rfl) ?_
  refine x_callVX hC hw (lv_size hl) (c_X3_bookToWritePair l G hst hR hcb hN (p0 := p0) (by first | assumption | omega) (p1 := p1) (by first | assumption | omega) (p2 := p2) (by first | assumption | omega)) gX3_strikePair_X3_bookToWritePair rfl dv_X3_bookToWritePair hR.1 rfl rfl (Nat.le_of_ble_eq_true rfl) (by rw [hRf]; decide) (by rw [hRl]; decide) (by first | (rw [hRc]; decide) | omega) (by first | (rw [hRs]; decide) | omega) dX3_strikePair_4 (fun E ce q9 M_1 H locs hqx hw hcell hcv hcls => ?_) (fun r9 M_1 H locs hq hw => ?_)
  · rcases hqx with ⟨⟨hE, hc9⟩ | ⟨hE, hc9⟩, hqx⟩
    · subst hE
      exact x_outX hC hw htab hcell hcv hcls (by first | decide | omega) (by first | decide | omega) ⟨Or.inl ⟨rfl, (by first | exact hc9 | omega | trivial)⟩, (RG.of (N2 := N + 1) hqx hcb (by omega) (by omega))⟩
    · subst hE
      exact x_outX hC hw htab hcell hcv hcls (by first | decide | omega) (by first | decide | omega) ⟨Or.inr (⟨rfl, ⟨⟨(by first | omega | trivial), (by first | omega | trivial)⟩, (by first | exact hc9 | omega | trivial)⟩⟩), (RG.of (N2 := N + 1) hqx hcb (by omega) (by omega))⟩
  obtain ⟨rfl, hRk_2, hpk_2, hkk_20, hkk_21⟩ := hq
  have hik_2 : (p0).toNat < 3 := by omega
  obtain ⟨szx_3, fkx_3, fwx_3, hBx_3, hVx_3⟩ := hRk_2.bk hik_2
  rw [upV_s] at hBx_3
  obtain ⟨-, -, -, -, hsax_3, hsbx_3⟩ := id hBx_3
  have holx_3 := hRk_2.ol hik_2
  have hctx_3 := hcb.2 _ hik_2
  show W p l e R s m args below meth c H locs _ _ _ (F0 m 7 ls [.ref (qb ((p0).toNat))])
  refine lv_astore (lv' := [(4, .ref (qb ((p0).toNat))), (0, .ref h0), (1, .int (iN (p0))), (2, .int (iN (p1))), (3, .int (iN (p2)))]) hC.1 hC.2.1 dX3_strikePair_7 hl (by decide) rfl (fun ls hl => ?_)
  refine lv_aload hC.1 hC.2.1 dX3_strikePair_9 (lv_at hl 0 rfl) ?_
  refine lv_iload_n hC.1 hC.2.1 dX3_strikePair_11 rfl (lv_at hl 3 rfl) ?_
  refine x_callV hC hw (lv_size hl) (c_X0_valueOf l G hBx_3 (show (O ((p0).toNat)) < 3 by first | assumption | omega) hVx_3 (by first | assumption | omega) (by first | assumption | omega) (p0 := p1) (by first | assumption | omega)) gX3_strikePair_X0_valueOf rfl dv_X0_valueOf hBx_3.1 rfl rfl (Nat.le_of_ble_eq_true rfl) (by rw [hRf]; decide) (by rw [hRl]; decide) (by first | (rw [hRc]; decide) | omega) (by first | (rw [hRs]; decide) | omega) dX3_strikePair_12 (fun r9 M_4 H locs hq hw => ?_)
  obtain ⟨z_5, rfl, hM9, hz_5, hz_5v, hz_5n⟩ := hq
  rw [hM9] at hw
  show W p l e R s m args below meth c H locs _ _ _ (F0 m 15 ls [.int (iN (z_5))])
  refine lv_iload_n hC.1 hC.2.1 dX3_strikePair_15 rfl (lv_at hl 4 rfl) ?_
  refine x_icmp_eq (tgt := 21) hC ⟨by omega, by omega⟩ ⟨by omega, by omega⟩ dX3_strikePair_16 (by decide) (fun c_6 => ?_) (fun c_6 => ?_)
  · refine lv_aload hC.1 hC.2.1 dX3_strikePair_21 (lv_at hl 0 rfl) ?_
    refine lv_iload_n hC.1 hC.2.1 dX3_strikePair_23 rfl (lv_at hl 3 rfl) ?_
    refine x_callV hC hw (lv_size hl) (c_X0_removeKey l G hBx_3 (show (O ((p0).toNat)) < 3 by first | assumption | omega) hVx_3 (by first | assumption | omega) (by first | assumption | omega) (p0 := p1) (by first | assumption | omega) (by omega)) gX3_strikePair_X0_removeKey rfl dv_X0_removeKey hBx_3.1 rfl rfl (Nat.le_of_ble_eq_true rfl) (by rw [hRf]; decide) (by rw [hRl]; decide) (by first | (rw [hRc]; decide) | omega) (by first | (rw [hRs]; decide) | omega) dX3_strikePair_24 (fun r9 M_7 H locs hq hw => ?_)
    obtain ⟨z_9, rfl, hz_9, hz_9v, kcu_8, szu_8, fku_8, fvu_8, hBu_8, smu_8, hVu_8, hksu_8, hka1u_8, hkb1u_8⟩ := hq
    obtain ⟨-, -, -, -, hsau_8, hsbu_8⟩ := id hBu_8
    obtain ⟨hkau_8, hkbu_8, -⟩ := id hksu_8
    have sm_10 := (xSm.rf (M := M_1) (b := (qb ((p0).toNat))) (k := (qk ((p0).toNat))) (v := (qv ((p0).toNat)))).tr (smu_8)
    have h_11 := hRk_2.book hik_2 hBx_3 hBu_8 hVu_8 smu_8 (by first | omega | (rw [upV_s]; omega)) (by first | omega | (rw [upV_s]; omega))
    rw [show (upV (upV T (p0).toNat (T (p0).toNat + 1)) ((p0).toNat) (T (p0).toNat + 1)) = (upV T (p0).toNat (T (p0).toNat + 1)) from upV_upV] at h_11
    show W p l e R s m args below meth c H locs _ _ _ (F0 m 27 ls [.int (iN (z_9))])
    refine lv_pop hC.1 hC.2.1 dX3_strikePair_27 rfl ?_
    refine x_const hC dX3_strikePair_28 ?_
    exact vx_ret (x_zret hC hw (by omega) dX3_strikePair_29 (by first | decide | omega) (by first | decide | omega) ⟨1, rfl, by omega, ⟨⟨(by first | omega | trivial), (by first | omega | trivial)⟩, ⟨⟨(by first | omega | trivial), (by first | omega | trivial)⟩, ⟨(by first | omega | trivial), (by first | omega | trivial)⟩⟩⟩, (show _ = (if (V (p0).toNat (p1).toNat) = p2 then 1 else 0) by first | rfl | omega | ((repeat' split) <;> first | rfl | omega)), (RG.mut hR.wg h_11 (by omega) hksu_8 (by omega) hcb (by omega) (congrArg (upV (V (p0).toNat) (p1).toNat) (show (-10000) = (if (V (p0).toNat (p1).toNat) = p2 then -10000 else (V (p0).toNat (p1).toNat)) by first | rfl | omega | ((repeat' split) <;> first | rfl | omega))))⟩)
  · refine x_const hC dX3_strikePair_19 ?_
    exact vx_ret (x_zret hC hw (by omega) dX3_strikePair_20 (by first | decide | omega) (by first | decide | omega) ⟨0, rfl, by omega, ⟨⟨(by first | omega | trivial), (by first | omega | trivial)⟩, ⟨⟨(by first | omega | trivial), (by first | omega | trivial)⟩, ⟨(by first | omega | trivial), (by first | omega | trivial)⟩⟩⟩, (show _ = (if (V (p0).toNat (p1).toNat) = p2 then 1 else 0) by first | rfl | omega | ((repeat' split) <;> first | rfl | omega)), (RG.mut0 hR.wg hRk_2 (by omega) hcb (by omega) (upV_self (show (V (p0).toNat (p1).toNat) = (if (V (p0).toNat (p1).toNat) = p2 then -10000 else (V (p0).toNat (p1).toNat)) by first | rfl | omega | ((repeat' split) <;> first | rfl | omega))).symm)⟩)
set_option maxHeartbeats 4000000 in
set_option maxRecDepth 100000 in
theorem c_X3_merge (l : Launch) (G : xG) {M : HM} (hst : l.stackTraces = false) {h0 bs vs : Nat} {og : Option Nat} {kk kv rf : Int32} {qb qk qv : Nat → Nat} {fb fv : Nat → Option Nat} {O : OW} {Wv : VW} {V : BW} {T C : Nat → Int} {K : WA} {N : Int} (hR : RGx G M h0 bs vs og kk kv rf qb qk qv fb fv O O Wv V T C K) (hcb : cbN N T C) (hN : N ≤ 590) {p0 : Int} (hp0 : -2147483648 ≤ p0 ∧ p0 ≤ 2147483647) {p1 : Int} (hp1 : -2147483648 ≤ p1 ∧ p1 ≤ 2147483647) {p2 : Int} (hp2 : -2147483648 ≤ p2 ∧ p2 ≤ 2147483647) : xMetX l G yX3_merge wsX3_merge 8 138 3 18 [.ref h0, .int (iN (p0)), .int (iN (p1)), .int (iN (p2))] M (fun r M1 => ∃ z : Int, r = some (.int (iN z)) ∧ (-2147483648 ≤ z ∧ z ≤ 2147483647) ∧ ((0 ≤ p0 ∧ p0 ≤ 2) ∧ ((0 ≤ p1 ∧ p1 ≤ 99) ∧ (-9999 ≤ p2 ∧ p2 ≤ 9999))) ∧ z = A_merge (O, V, Wv, abK T C K, kk, kv, rf) p0 p1 p2 ∧ RG G M1 h0 (N + 1) (S_merge (O, V, Wv, abK T C K, kk, kv, rf) p0 p1 p2)) (fun E M1 => ((E = xIO ∧ ¬ (0 ≤ p0 ∧ p0 ≤ 2)) ∨ (E = xIA ∧ (0 ≤ p0 ∧ p0 ≤ 2) ∧ ¬ ((0 ≤ p1 ∧ p1 ≤ 99) ∧ (-9999 ≤ p2 ∧ p2 ≤ 9999)))) ∧ RG G M1 h0 (N + 1) (O, V, Wv, abK T C K, kk, kv, rf)) := by
  refine x_introX (cc := cX3_merge) (maxL := 4) (ret := (some .int)) (by exact pln_RX3) rfl (Nat.le_of_ble_eq_true rfl) ?_
  intro p e R s m args below meth c ls hRf hRc hRs hRl htab hC hw hl
  have hl : lv_has ls 4 [(0, .ref h0), (1, .int (iN (p0))), (2, .int (iN (p1))), (3, .int (iN (p2)))] := hl
  refine lv_aload_n hC.1 hC.2.1 dX3_merge_0 rfl (lv_at hl 0 rfl) ?_
  refine lv_iload_n hC.1 hC.2.1 dX3_merge_1 rfl (lv_at hl 1 rfl) ?_
  refine lv_iload_n hC.1 hC.2.1 dX3_merge_2 rfl (lv_at hl 2 rfl) ?_
  refine lv_iload_n hC.1 hC.2.1 dX3_merge_3 rfl (lv_at hl 3 rfl) ?_
  refine x_callVX hC hw (lv_size hl) (c_X3_bookToWritePair l G hst hR hcb hN (p0 := p0) (by first | assumption | omega) (p1 := p1) (by first | assumption | omega) (p2 := p2) (by first | assumption | omega)) gX3_merge_X3_bookToWritePair rfl dv_X3_bookToWritePair hR.1 rfl rfl (Nat.le_of_ble_eq_true rfl) (by rw [hRf]; decide) (by rw [hRl]; decide) (by first | (rw [hRc]; decide) | omega) (by first | (rw [hRs]; decide) | omega) dX3_merge_4 (fun E ce q9 M_1 H locs hqx hw hcell hcv hcls => ?_) (fun r9 M_1 H locs hq hw => ?_)
  · rcases hqx with ⟨⟨hE, hc9⟩ | ⟨hE, hc9⟩, hqx⟩
    · subst hE
      exact x_outX hC hw htab hcell hcv hcls (by first | decide | omega) (by first | decide | omega) ⟨Or.inl ⟨rfl, (by first | exact hc9 | omega | trivial)⟩, (RG.of (N2 := N + 1) hqx hcb (by omega) (by omega))⟩
    · subst hE
      exact x_outX hC hw htab hcell hcv hcls (by first | decide | omega) (by first | decide | omega) ⟨Or.inr (⟨rfl, ⟨⟨(by first | omega | trivial), (by first | omega | trivial)⟩, (by first | exact hc9 | omega | trivial)⟩⟩), (RG.of (N2 := N + 1) hqx hcb (by omega) (by omega))⟩
  obtain ⟨rfl, hRk_2, hpk_2, hkk_20, hkk_21⟩ := hq
  have hik_2 : (p0).toNat < 3 := by omega
  obtain ⟨szx_3, fkx_3, fwx_3, hBx_3, hVx_3⟩ := hRk_2.bk hik_2
  rw [upV_s] at hBx_3
  obtain ⟨-, -, -, -, hsax_3, hsbx_3⟩ := id hBx_3
  have holx_3 := hRk_2.ol hik_2
  have hctx_3 := hcb.2 _ hik_2
  show W p l e R s m args below meth c H locs _ _ _ (F0 m 7 ls [.ref (qb ((p0).toNat))])
  refine lv_iload_n hC.1 hC.2.1 dX3_merge_7 rfl (lv_at hl 2 rfl) ?_
  refine lv_iload_n hC.1 hC.2.1 dX3_merge_8 rfl (lv_at hl 3 rfl) ?_
  refine x_callV hC hw (lv_size hl) (c_X0_putTogether l G hBx_3 (show (O ((p0).toNat)) < 3 by first | assumption | omega) hVx_3 (by first | assumption | omega) (by first | assumption | omega) (p0 := p1) (by first | assumption | omega) (p1 := p2) (by first | assumption | omega) (by omega) (by omega)) gX3_merge_X0_putTogether rfl dv_X0_putTogether hBx_3.1 rfl rfl (Nat.le_of_ble_eq_true rfl) (by rw [hRf]; decide) (by rw [hRl]; decide) (by first | (rw [hRc]; decide) | omega) (by first | (rw [hRs]; decide) | omega) dX3_merge_9 (fun r9 M_4 H locs hq hw => ?_)
  obtain ⟨z_6, rfl, hz_6, hz_6v, kcu_5, szu_5, fku_5, fvu_5, hBu_5, smu_5, hVu_5, hksu_5⟩ := hq
  obtain ⟨-, -, -, -, hsau_5, hsbu_5⟩ := id hBu_5
  obtain ⟨hkau_5, hkbu_5, -⟩ := id hksu_5
  have sm_7 := (xSm.rf (M := M_1) (b := (qb ((p0).toNat))) (k := (qk ((p0).toNat))) (v := (qv ((p0).toNat)))).tr (smu_5)
  have h_8 := hRk_2.book hik_2 hBx_3 hBu_5 hVu_5 smu_5 (by first | omega | (rw [upV_s]; omega)) (by first | omega | (rw [upV_s]; omega))
  rw [show (upV (upV T (p0).toNat (T (p0).toNat + 1)) ((p0).toNat) (T (p0).toNat + 1)) = (upV T (p0).toNat (T (p0).toNat + 1)) from upV_upV] at h_8
  show W p l e R s m args below meth c H locs _ _ _ (F0 m 12 ls [.int (iN (z_6))])
  exact vx_ret (x_iret hC hw dX3_merge_12 (by first | decide | omega) (by first | decide | omega) ⟨z_6, rfl, ⟨by omega, by omega⟩, ⟨⟨(by first | omega | trivial), (by first | omega | trivial)⟩, ⟨⟨(by first | omega | trivial), (by first | omega | trivial)⟩, ⟨(by first | omega | trivial), (by first | omega | trivial)⟩⟩⟩, (show _ = (mgN (V (p0).toNat (p1).toNat) p2) by omega), (RG.mut hR.wg h_8 (by omega) hksu_5 (by omega) hcb (by omega) (congrArg (upV (V (p0).toNat) (p1).toNat) (show (mgN (((V ((p0).toNat)) (p1).toNat)) p2) = (mgN (V (p0).toNat (p1).toNat) p2) by first | rfl | omega | ((repeat' split) <;> first | rfl | omega))))⟩)
set_option maxHeartbeats 4000000 in
set_option maxRecDepth 100000 in
theorem c_X3_grow (l : Launch) (G : xG) {M : HM} (hst : l.stackTraces = false) {h0 bs vs : Nat} {og : Option Nat} {kk kv rf : Int32} {qb qk qv : Nat → Nat} {fb fv : Nat → Option Nat} {O : OW} {Wv : VW} {V : BW} {T C : Nat → Int} {K : WA} {N : Int} (hR : RGx G M h0 bs vs og kk kv rf qb qk qv fb fv O O Wv V T C K) (hcb : cbN N T C) (hN : N ≤ 590) {p0 : Int} (hp0 : -2147483648 ≤ p0 ∧ p0 ≤ 2147483647) {p1 : Int} (hp1 : -2147483648 ≤ p1 ∧ p1 ≤ 2147483647) : xMetX l G yX3_grow wsX3_grow 8 134 2 12 [.ref h0, .int (iN (p0)), .int (iN (p1))] M (fun r M1 => ∃ z : Int, r = some (.int (iN z)) ∧ (-2147483648 ≤ z ∧ z ≤ 2147483647) ∧ ((0 ≤ p0 ∧ p0 ≤ 2) ∧ (0 ≤ p1 ∧ p1 ≤ 99)) ∧ z = A_grow (O, V, Wv, abK T C K, kk, kv, rf) p0 p1 ∧ RG G M1 h0 (N + 1) (S_grow (O, V, Wv, abK T C K, kk, kv, rf) p0 p1)) (fun E M1 => ((E = xIO ∧ ¬ (0 ≤ p0 ∧ p0 ≤ 2)) ∨ (E = xIA ∧ (0 ≤ p0 ∧ p0 ≤ 2) ∧ ¬ (0 ≤ p1 ∧ p1 ≤ 99))) ∧ RG G M1 h0 (N + 1) (O, V, Wv, abK T C K, kk, kv, rf)) := by
  refine x_introX (cc := cX3_grow) (maxL := 3) (ret := (some .int)) (by exact pln_RX3) rfl (Nat.le_of_ble_eq_true rfl) ?_
  intro p e R s m args below meth c ls hRf hRc hRs hRl htab hC hw hl
  have hl : lv_has ls 3 [(0, .ref h0), (1, .int (iN (p0))), (2, .int (iN (p1)))] := hl
  refine lv_aload_n hC.1 hC.2.1 dX3_grow_0 rfl (lv_at hl 0 rfl) ?_
  refine lv_iload_n hC.1 hC.2.1 dX3_grow_1 rfl (lv_at hl 1 rfl) ?_
  refine lv_iload_n hC.1 hC.2.1 dX3_grow_2 rfl (lv_at hl 2 rfl) ?_
  refine x_callVX hC hw (lv_size hl) (c_X3_bookToWriteKey l G hst hR hcb hN (p0 := p0) (by first | assumption | omega) (p1 := p1) (by first | assumption | omega)) gX3_grow_X3_bookToWriteKey rfl dv_X3_bookToWriteKey hR.1 rfl rfl (Nat.le_of_ble_eq_true rfl) (by rw [hRf]; decide) (by rw [hRl]; decide) (by first | (rw [hRc]; decide) | omega) (by first | (rw [hRs]; decide) | omega) dX3_grow_3 (fun E ce q9 M_1 H locs hqx hw hcell hcv hcls => ?_) (fun r9 M_1 H locs hq hw => ?_)
  · rcases hqx with ⟨⟨hE, hc9⟩ | ⟨hE, hc9⟩, hqx⟩
    · subst hE
      exact x_outX hC hw htab hcell hcv hcls (by first | decide | omega) (by first | decide | omega) ⟨Or.inl ⟨rfl, (by first | exact hc9 | omega | trivial)⟩, (RG.of (N2 := N + 1) hqx hcb (by omega) (by omega))⟩
    · subst hE
      exact x_outX hC hw htab hcell hcv hcls (by first | decide | omega) (by first | decide | omega) ⟨Or.inr (⟨rfl, ⟨⟨(by first | omega | trivial), (by first | omega | trivial)⟩, (by first | exact hc9 | omega | trivial)⟩⟩), (RG.of (N2 := N + 1) hqx hcb (by omega) (by omega))⟩
  obtain ⟨rfl, hRk_2, hpk_2, hkk_20⟩ := hq
  have hik_2 : (p0).toNat < 3 := by omega
  obtain ⟨szx_3, fkx_3, fwx_3, hBx_3, hVx_3⟩ := hRk_2.bk hik_2
  rw [upV_s] at hBx_3
  obtain ⟨-, -, -, -, hsax_3, hsbx_3⟩ := id hBx_3
  have holx_3 := hRk_2.ol hik_2
  have hctx_3 := hcb.2 _ hik_2
  show W p l e R s m args below meth c H locs _ _ _ (F0 m 6 ls [.ref (qb ((p0).toNat))])
  refine lv_iload_n hC.1 hC.2.1 dX3_grow_6 rfl (lv_at hl 2 rfl) ?_
  refine x_callV hC hw (lv_size hl) (c_X0_growKey l G hBx_3 (show (O ((p0).toNat)) < 3 by first | assumption | omega) hVx_3 (by first | assumption | omega) (by first | assumption | omega) (p0 := p1) (by first | assumption | omega) (by omega)) gX3_grow_X0_growKey rfl dv_X0_growKey hBx_3.1 rfl rfl (Nat.le_of_ble_eq_true rfl) (by rw [hRf]; decide) (by rw [hRl]; decide) (by first | (rw [hRc]; decide) | omega) (by first | (rw [hRs]; decide) | omega) dX3_grow_7 (fun r9 M_4 H locs hq hw => ?_)
  obtain ⟨z_6, rfl, hz_6, hz_6v, kcu_5, szu_5, fku_5, fvu_5, hBu_5, smu_5, hVu_5, hksu_5⟩ := hq
  obtain ⟨-, -, -, -, hsau_5, hsbu_5⟩ := id hBu_5
  obtain ⟨hkau_5, hkbu_5, -⟩ := id hksu_5
  have sm_7 := (xSm.rf (M := M_1) (b := (qb ((p0).toNat))) (k := (qk ((p0).toNat))) (v := (qv ((p0).toNat)))).tr (smu_5)
  have h_8 := hRk_2.book hik_2 hBx_3 hBu_5 hVu_5 smu_5 (by first | omega | (rw [upV_s]; omega)) (by first | omega | (rw [upV_s]; omega))
  rw [show (upV (upV T (p0).toNat (T (p0).toNat + 1)) ((p0).toNat) (T (p0).toNat + 1)) = (upV T (p0).toNat (T (p0).toNat + 1)) from upV_upV] at h_8
  show W p l e R s m args below meth c H locs _ _ _ (F0 m 10 ls [.int (iN (z_6))])
  exact vx_ret (x_iret hC hw dX3_grow_10 (by first | decide | omega) (by first | decide | omega) ⟨z_6, rfl, ⟨by omega, by omega⟩, ⟨⟨(by first | omega | trivial), (by first | omega | trivial)⟩, ⟨(by first | omega | trivial), (by first | omega | trivial)⟩⟩, (show _ = (gwN (V (p0).toNat (p1).toNat) p1) by omega), (RG.mut hR.wg h_8 (by omega) hksu_5 (by omega) hcb (by omega) (congrArg (upV (V (p0).toNat) (p1).toNat) (show (gwN (((V ((p0).toNat)) (p1).toNat)) p1) = (gwN (V (p0).toNat (p1).toNat) p1) by first | rfl | omega | ((repeat' split) <;> first | rfl | omega))))⟩)
set_option maxHeartbeats 4000000 in
set_option maxRecDepth 100000 in
theorem c_X3_halve (l : Launch) (G : xG) {M : HM} (hst : l.stackTraces = false) {h0 bs vs : Nat} {og : Option Nat} {kk kv rf : Int32} {qb qk qv : Nat → Nat} {fb fv : Nat → Option Nat} {O : OW} {Wv : VW} {V : BW} {T C : Nat → Int} {K : WA} {N : Int} (hR : RGx G M h0 bs vs og kk kv rf qb qk qv fb fv O O Wv V T C K) (hcb : cbN N T C) (hN : N ≤ 590) {p0 : Int} (hp0 : -2147483648 ≤ p0 ∧ p0 ≤ 2147483647) {p1 : Int} (hp1 : -2147483648 ≤ p1 ∧ p1 ≤ 2147483647) : xMetX l G yX3_halve wsX3_halve 8 136 2 12 [.ref h0, .int (iN (p0)), .int (iN (p1))] M (fun r M1 => ∃ z : Int, r = some (.int (iN z)) ∧ (-2147483648 ≤ z ∧ z ≤ 2147483647) ∧ ((0 ≤ p0 ∧ p0 ≤ 2) ∧ (0 ≤ p1 ∧ p1 ≤ 99)) ∧ z = A_halve (O, V, Wv, abK T C K, kk, kv, rf) p0 p1 ∧ RG G M1 h0 (N + 1) (S_halve (O, V, Wv, abK T C K, kk, kv, rf) p0 p1)) (fun E M1 => ((E = xIO ∧ ¬ (0 ≤ p0 ∧ p0 ≤ 2)) ∨ (E = xIA ∧ (0 ≤ p0 ∧ p0 ≤ 2) ∧ ¬ (0 ≤ p1 ∧ p1 ≤ 99))) ∧ RG G M1 h0 (N + 1) (O, V, Wv, abK T C K, kk, kv, rf)) := by
  refine x_introX (cc := cX3_halve) (maxL := 3) (ret := (some .int)) (by exact pln_RX3) rfl (Nat.le_of_ble_eq_true rfl) ?_
  intro p e R s m args below meth c ls hRf hRc hRs hRl htab hC hw hl
  have hl : lv_has ls 3 [(0, .ref h0), (1, .int (iN (p0))), (2, .int (iN (p1)))] := hl
  refine lv_aload_n hC.1 hC.2.1 dX3_halve_0 rfl (lv_at hl 0 rfl) ?_
  refine lv_iload_n hC.1 hC.2.1 dX3_halve_1 rfl (lv_at hl 1 rfl) ?_
  refine lv_iload_n hC.1 hC.2.1 dX3_halve_2 rfl (lv_at hl 2 rfl) ?_
  refine x_callVX hC hw (lv_size hl) (c_X3_bookToWriteKey l G hst hR hcb hN (p0 := p0) (by first | assumption | omega) (p1 := p1) (by first | assumption | omega)) gX3_halve_X3_bookToWriteKey rfl dv_X3_bookToWriteKey hR.1 rfl rfl (Nat.le_of_ble_eq_true rfl) (by rw [hRf]; decide) (by rw [hRl]; decide) (by first | (rw [hRc]; decide) | omega) (by first | (rw [hRs]; decide) | omega) dX3_halve_3 (fun E ce q9 M_1 H locs hqx hw hcell hcv hcls => ?_) (fun r9 M_1 H locs hq hw => ?_)
  · rcases hqx with ⟨⟨hE, hc9⟩ | ⟨hE, hc9⟩, hqx⟩
    · subst hE
      exact x_outX hC hw htab hcell hcv hcls (by first | decide | omega) (by first | decide | omega) ⟨Or.inl ⟨rfl, (by first | exact hc9 | omega | trivial)⟩, (RG.of (N2 := N + 1) hqx hcb (by omega) (by omega))⟩
    · subst hE
      exact x_outX hC hw htab hcell hcv hcls (by first | decide | omega) (by first | decide | omega) ⟨Or.inr (⟨rfl, ⟨⟨(by first | omega | trivial), (by first | omega | trivial)⟩, (by first | exact hc9 | omega | trivial)⟩⟩), (RG.of (N2 := N + 1) hqx hcb (by omega) (by omega))⟩
  obtain ⟨rfl, hRk_2, hpk_2, hkk_20⟩ := hq
  have hik_2 : (p0).toNat < 3 := by omega
  obtain ⟨szx_3, fkx_3, fwx_3, hBx_3, hVx_3⟩ := hRk_2.bk hik_2
  rw [upV_s] at hBx_3
  obtain ⟨-, -, -, -, hsax_3, hsbx_3⟩ := id hBx_3
  have holx_3 := hRk_2.ol hik_2
  have hctx_3 := hcb.2 _ hik_2
  show W p l e R s m args below meth c H locs _ _ _ (F0 m 6 ls [.ref (qb ((p0).toNat))])
  refine lv_iload_n hC.1 hC.2.1 dX3_halve_6 rfl (lv_at hl 2 rfl) ?_
  refine x_callV hC hw (lv_size hl) (c_X0_halveKey l G hBx_3 (show (O ((p0).toNat)) < 3 by first | assumption | omega) hVx_3 (by first | assumption | omega) (by first | assumption | omega) (p0 := p1) (by first | assumption | omega) (by omega)) gX3_halve_X0_halveKey rfl dv_X0_halveKey hBx_3.1 rfl rfl (Nat.le_of_ble_eq_true rfl) (by rw [hRf]; decide) (by rw [hRl]; decide) (by first | (rw [hRc]; decide) | omega) (by first | (rw [hRs]; decide) | omega) dX3_halve_7 (fun r9 M_4 H locs hq hw => ?_)
  obtain ⟨z_6, rfl, hz_6, hz_6v, kcu_5, szu_5, fku_5, fvu_5, hBu_5, smu_5, hVu_5, hksu_5⟩ := hq
  obtain ⟨-, -, -, -, hsau_5, hsbu_5⟩ := id hBu_5
  obtain ⟨hkau_5, hkbu_5, -⟩ := id hksu_5
  have sm_7 := (xSm.rf (M := M_1) (b := (qb ((p0).toNat))) (k := (qk ((p0).toNat))) (v := (qv ((p0).toNat)))).tr (smu_5)
  have h_8 := hRk_2.book hik_2 hBx_3 hBu_5 hVu_5 smu_5 (by first | omega | (rw [upV_s]; omega)) (by first | omega | (rw [upV_s]; omega))
  rw [show (upV (upV T (p0).toNat (T (p0).toNat + 1)) ((p0).toNat) (T (p0).toNat + 1)) = (upV T (p0).toNat (T (p0).toNat + 1)) from upV_upV] at h_8
  show W p l e R s m args below meth c H locs _ _ _ (F0 m 10 ls [.int (iN (z_6))])
  exact vx_ret (x_iret hC hw dX3_halve_10 (by first | decide | omega) (by first | decide | omega) ⟨z_6, rfl, ⟨by omega, by omega⟩, ⟨⟨(by first | omega | trivial), (by first | omega | trivial)⟩, ⟨(by first | omega | trivial), (by first | omega | trivial)⟩⟩, (show _ = (hvN (V (p0).toNat (p1).toNat)) by omega), (RG.mut hR.wg h_8 (by omega) hksu_5 (by omega) hcb (by omega) (congrArg (upV (V (p0).toNat) (p1).toNat) (show (hvN (((V ((p0).toNat)) (p1).toNat))) = (hvN (V (p0).toNat (p1).toNat)) by first | rfl | omega | ((repeat' split) <;> first | rfl | omega))))⟩)
set_option maxHeartbeats 4000000 in
set_option maxRecDepth 100000 in
theorem c_X3_twice (l : Launch) (G : xG) {M : HM} (hst : l.stackTraces = false) {h0 bs vs : Nat} {og : Option Nat} {kk kv rf : Int32} {qb qk qv : Nat → Nat} {fb fv : Nat → Option Nat} {O : OW} {Wv : VW} {V : BW} {T C : Nat → Int} {K : WA} {N : Int} (hR : RGx G M h0 bs vs og kk kv rf qb qk qv fb fv O O Wv V T C K) (hcb : cbN N T C) (hN : N ≤ 590) {p0 : Int} (hp0 : -2147483648 ≤ p0 ∧ p0 ≤ 2147483647) {p1 : Int} (hp1 : -2147483648 ≤ p1 ∧ p1 ≤ 2147483647) : xMetX l G yX3_twice wsX3_twice 8 134 2 12 [.ref h0, .int (iN (p0)), .int (iN (p1))] M (fun r M1 => ∃ z : Int, r = some (.int (iN z)) ∧ (-2147483648 ≤ z ∧ z ≤ 2147483647) ∧ ((0 ≤ p0 ∧ p0 ≤ 2) ∧ (0 ≤ p1 ∧ p1 ≤ 99)) ∧ z = A_twice (O, V, Wv, abK T C K, kk, kv, rf) p0 p1 ∧ RG G M1 h0 (N + 1) (S_twice (O, V, Wv, abK T C K, kk, kv, rf) p0 p1)) (fun E M1 => ((E = xIO ∧ ¬ (0 ≤ p0 ∧ p0 ≤ 2)) ∨ (E = xIA ∧ (0 ≤ p0 ∧ p0 ≤ 2) ∧ ¬ (0 ≤ p1 ∧ p1 ≤ 99))) ∧ RG G M1 h0 (N + 1) (O, V, Wv, abK T C K, kk, kv, rf)) := by
  refine x_introX (cc := cX3_twice) (maxL := 3) (ret := (some .int)) (by exact pln_RX3) rfl (Nat.le_of_ble_eq_true rfl) ?_
  intro p e R s m args below meth c ls hRf hRc hRs hRl htab hC hw hl
  have hl : lv_has ls 3 [(0, .ref h0), (1, .int (iN (p0))), (2, .int (iN (p1)))] := hl
  refine lv_aload_n hC.1 hC.2.1 dX3_twice_0 rfl (lv_at hl 0 rfl) ?_
  refine lv_iload_n hC.1 hC.2.1 dX3_twice_1 rfl (lv_at hl 1 rfl) ?_
  refine lv_iload_n hC.1 hC.2.1 dX3_twice_2 rfl (lv_at hl 2 rfl) ?_
  refine x_callVX hC hw (lv_size hl) (c_X3_bookToWriteKey l G hst hR hcb hN (p0 := p0) (by first | assumption | omega) (p1 := p1) (by first | assumption | omega)) gX3_twice_X3_bookToWriteKey rfl dv_X3_bookToWriteKey hR.1 rfl rfl (Nat.le_of_ble_eq_true rfl) (by rw [hRf]; decide) (by rw [hRl]; decide) (by first | (rw [hRc]; decide) | omega) (by first | (rw [hRs]; decide) | omega) dX3_twice_3 (fun E ce q9 M_1 H locs hqx hw hcell hcv hcls => ?_) (fun r9 M_1 H locs hq hw => ?_)
  · rcases hqx with ⟨⟨hE, hc9⟩ | ⟨hE, hc9⟩, hqx⟩
    · subst hE
      exact x_outX hC hw htab hcell hcv hcls (by first | decide | omega) (by first | decide | omega) ⟨Or.inl ⟨rfl, (by first | exact hc9 | omega | trivial)⟩, (RG.of (N2 := N + 1) hqx hcb (by omega) (by omega))⟩
    · subst hE
      exact x_outX hC hw htab hcell hcv hcls (by first | decide | omega) (by first | decide | omega) ⟨Or.inr (⟨rfl, ⟨⟨(by first | omega | trivial), (by first | omega | trivial)⟩, (by first | exact hc9 | omega | trivial)⟩⟩), (RG.of (N2 := N + 1) hqx hcb (by omega) (by omega))⟩
  obtain ⟨rfl, hRk_2, hpk_2, hkk_20⟩ := hq
  have hik_2 : (p0).toNat < 3 := by omega
  obtain ⟨szx_3, fkx_3, fwx_3, hBx_3, hVx_3⟩ := hRk_2.bk hik_2
  rw [upV_s] at hBx_3
  obtain ⟨-, -, -, -, hsax_3, hsbx_3⟩ := id hBx_3
  have holx_3 := hRk_2.ol hik_2
  have hctx_3 := hcb.2 _ hik_2
  show W p l e R s m args below meth c H locs _ _ _ (F0 m 6 ls [.ref (qb ((p0).toNat))])
  refine lv_iload_n hC.1 hC.2.1 dX3_twice_6 rfl (lv_at hl 2 rfl) ?_
  refine x_callV hC hw (lv_size hl) (c_X0_doubleKey l G hBx_3 (show (O ((p0).toNat)) < 3 by first | assumption | omega) hVx_3 (by first | assumption | omega) (by first | assumption | omega) (p0 := p1) (by first | assumption | omega) (by omega)) gX3_twice_X0_doubleKey rfl dv_X0_doubleKey hBx_3.1 rfl rfl (Nat.le_of_ble_eq_true rfl) (by rw [hRf]; decide) (by rw [hRl]; decide) (by first | (rw [hRc]; decide) | omega) (by first | (rw [hRs]; decide) | omega) dX3_twice_7 (fun r9 M_4 H locs hq hw => ?_)
  obtain ⟨z_6, rfl, hz_6, hz_6v, kcu_5, szu_5, fku_5, fvu_5, hBu_5, smu_5, hVu_5, hksu_5⟩ := hq
  obtain ⟨-, -, -, -, hsau_5, hsbu_5⟩ := id hBu_5
  obtain ⟨hkau_5, hkbu_5, -⟩ := id hksu_5
  have sm_7 := (xSm.rf (M := M_1) (b := (qb ((p0).toNat))) (k := (qk ((p0).toNat))) (v := (qv ((p0).toNat)))).tr (smu_5)
  have h_8 := hRk_2.book hik_2 hBx_3 hBu_5 hVu_5 smu_5 (by first | omega | (rw [upV_s]; omega)) (by first | omega | (rw [upV_s]; omega))
  rw [show (upV (upV T (p0).toNat (T (p0).toNat + 1)) ((p0).toNat) (T (p0).toNat + 1)) = (upV T (p0).toNat (T (p0).toNat + 1)) from upV_upV] at h_8
  show W p l e R s m args below meth c H locs _ _ _ (F0 m 10 ls [.int (iN (z_6))])
  exact vx_ret (x_iret hC hw dX3_twice_10 (by first | decide | omega) (by first | decide | omega) ⟨z_6, rfl, ⟨by omega, by omega⟩, ⟨⟨(by first | omega | trivial), (by first | omega | trivial)⟩, ⟨(by first | omega | trivial), (by first | omega | trivial)⟩⟩, (show _ = (twN (V (p0).toNat (p1).toNat) p1) by omega), (RG.mut hR.wg h_8 (by omega) hksu_5 (by omega) hcb (by omega) (congrArg (upV (V (p0).toNat) (p1).toNat) (show (twN (((V ((p0).toNat)) (p1).toNat)) p1) = (twN (V (p0).toNat (p1).toNat) p1) by first | rfl | omega | ((repeat' split) <;> first | rfl | omega))))⟩)
set_option maxHeartbeats 4000000 in
set_option maxRecDepth 100000 in
theorem c_X3_poll (l : Launch) (G : xG) {M : HM} (hst : l.stackTraces = false) {h0 bs vs : Nat} {og : Option Nat} {kk kv rf : Int32} {qb qk qv : Nat → Nat} {fb fv : Nat → Option Nat} {O : OW} {Wv : VW} {V : BW} {T C : Nat → Int} {K : WA} {N : Int} (hR : RGx G M h0 bs vs og kk kv rf qb qk qv fb fv O O Wv V T C K) (hcb : cbN N T C) (hN : N ≤ 590) {p0 : Int} (hp0 : -2147483648 ≤ p0 ∧ p0 ≤ 2147483647) {p1 : Int} (hp1 : -2147483648 ≤ p1 ∧ p1 ≤ 2147483647) (hb1 : p1 = 0 ∨ p1 = 1) : xMetX l G yX3_poll wsX3_poll 7 111 1 6 [.ref h0, .int (iN (p0)), .int (iN (p1))] M (fun r M1 => ∃ z : Int, r = some (.int (iN z)) ∧ (-2147483648 ≤ z ∧ z ≤ 2147483647) ∧ ((0 ≤ p0 ∧ p0 ≤ 2)) ∧ z = A_poll (O, V, Wv, abK T C K, kk, kv, rf) p0 p1 ∧ RG G M1 h0 (N + 1) (S_poll (O, V, Wv, abK T C K, kk, kv, rf) p0 p1)) (fun E M1 => ((E = xIO ∧ ¬ (0 ≤ p0 ∧ p0 ≤ 2))) ∧ RG G M1 h0 (N + 1) (O, V, Wv, abK T C K, kk, kv, rf)) := by
  refine x_introX (cc := cX3_poll) (maxL := 4) (ret := (some .int)) (by exact pln_RX3) rfl (Nat.le_of_ble_eq_true rfl) ?_
  intro p e R s m args below meth c ls hRf hRc hRs hRl htab hC hw hl
  have hl : lv_has ls 4 [(0, .ref h0), (1, .int (iN (p0))), (2, .int (iN (p1)))] := hl
  refine lv_aload_n hC.1 hC.2.1 dX3_poll_0 rfl (lv_at hl 0 rfl) ?_
  refine lv_iload_n hC.1 hC.2.1 dX3_poll_1 rfl (lv_at hl 1 rfl) ?_
  refine x_callVX hC hw (lv_size hl) (c_X3_bookAt l G hst hR hcb hN (p0 := p0) (by first | assumption | omega)) gX3_poll_X3_bookAt rfl dv_X3_bookAt hR.1 rfl rfl (Nat.le_of_ble_eq_true rfl) (by rw [hRf]; decide) (by rw [hRl]; decide) (by first | (rw [hRc]; decide) | omega) (by first | (rw [hRs]; decide) | omega) dX3_poll_2 (fun E ce q9 M_1 H locs hqx hw hcell hcv hcls => ?_) (fun r9 M_1 H locs hq hw => ?_)
  · rw [hqx.2] at hw
    obtain ⟨hE, hc9⟩ := hqx.1
    replace hqx := hqx.2
    subst hE
    exact x_outX hC hw htab hcell hcv hcls (by first | decide | omega) (by first | decide | omega) ⟨⟨rfl, (by first | exact hc9 | omega | trivial)⟩, (RG.of (N2 := N + 1) hR hcb (by omega) (by omega))⟩
  obtain ⟨rfl, hM9, hk_2, hk_2b⟩ := hq
  rw [hM9] at hw
  have hik_2 : (p0).toNat < 3 := by omega
  obtain ⟨szx_3, fkx_3, fwx_3, hBx_3, hVx_3⟩ := hR.bk hik_2
  obtain ⟨-, -, -, -, hsax_3, hsbx_3⟩ := id hBx_3
  have holx_3 := hR.ol hik_2
  have hctx_3 := hcb.2 _ hik_2
  show W p l e R s m args below meth c H locs _ _ _ (F0 m 5 ls [.ref (qb ((p0).toNat))])
  refine lv_astore_n (lv' := [(3, .ref (qb ((p0).toNat))), (0, .ref h0), (1, .int (iN (p0))), (2, .int (iN (p1)))]) hC.1 hC.2.1 dX3_poll_5 rfl hl (by decide) rfl (fun ls hl => ?_)
  refine lv_aload_n hC.1 hC.2.1 dX3_poll_6 rfl (lv_at hl 0 rfl) ?_
  refine x_callV hC hw (lv_size hl) (c_X0_touch l G hBx_3 (show (O ((p0).toNat)) < 3 by first | assumption | omega) hVx_3 (by first | assumption | omega) (by first | assumption | omega)) gX3_poll_X0_touch rfl dv_X0_touch hBx_3.1 rfl rfl (Nat.le_of_ble_eq_true rfl) (by rw [hRf]; decide) (by rw [hRl]; decide) (by first | (rw [hRc]; decide) | omega) (by first | (rw [hRs]; decide) | omega) dX3_poll_7 (fun r9 M_4 H locs hq hw => ?_)
  obtain ⟨rfl, hBu_5, smu_5⟩ := hq
  have sm_6 := (xSm.rf (M := M) (b := (qb ((p0).toNat))) (k := (qk ((p0).toNat))) (v := (qv ((p0).toNat)))).tr (smu_5)
  have h_7 := hR.book hik_2 hBx_3 hBu_5 hVx_3 smu_5 (by first | omega | (rw [upV_s]; omega)) (by first | omega | (rw [upV_s]; omega))
  rw [show (upB V ((p0).toNat) (V ((p0).toNat))) = V from upB_self rfl, show (upV C ((p0).toNat) (C ((p0).toNat))) = C from upV_same _ _] at h_7
  show W p l e R s m args below meth c H locs _ _ _ (F0 m 10 ls [])
  refine lv_aload_n hC.1 hC.2.1 dX3_poll_10 rfl (lv_at hl 0 rfl) ?_
  refine lv_iload_n hC.1 hC.2.1 dX3_poll_11 rfl (lv_at hl 3 rfl) ?_
  refine x_if_eq (tgt := 24) hC ⟨by omega, by omega⟩ dX3_poll_12 (by decide) (fun c_9 => ?_) (fun c_9 => ?_)
  · refine x_const hC dX3_poll_24 ?_
    refine x_callV hC hw (lv_size hl) (c_X0_removeAt l G hBu_5 (show (O ((p0).toNat)) < 3 by first | assumption | omega) hVx_3 (by first | assumption | omega) (by first | assumption | omega) (p0 := 0) (by omega)) gX3_poll_X0_removeAt rfl dv_X0_removeAt hBu_5.1 rfl rfl (Nat.le_of_ble_eq_true rfl) (by rw [hRf]; decide) (by rw [hRl]; decide) (by first | (rw [hRc]; decide) | omega) (by first | (rw [hRs]; decide) | omega) dX3_poll_25 (fun r9 M_10 H locs hq hw => ?_)
    obtain ⟨z_12, rfl, hz_12, hz_12n, hz_12k, kcu_11, szu_11, fku_11, fvu_11, hBu_11, smu_11, hVu_11, hksu_11, hsxu_11, hkxu_11, hfxu_11⟩ := hq
    obtain ⟨-, -, -, -, hsau_11, hsbu_11⟩ := id hBu_11
    obtain ⟨hkau_11, hkbu_11, -⟩ := id hksu_11
    have sm_13 := (sm_6).tr (smu_11)
    have h_14 := h_7.book hik_2 hBu_5 hBu_11 hVu_11 smu_11 (by first | omega | (rw [upV_s]; omega)) (by first | omega | (rw [upV_s]; omega))
    rw [show (upV (upV T ((p0).toNat) ((T ((p0).toNat)) + 1)) ((p0).toNat) ((T ((p0).toNat)) + 1)) = (upV T ((p0).toNat) ((T ((p0).toNat)) + 1)) from upV_upV] at h_14
    show W p l e R s m args below meth c H locs _ _ _ (F0 m 28 ls [.int (iN (z_12))])
    exact vx_ret (x_iret hC hw dX3_poll_28 (by first | decide | omega) (by first | decide | omega) ⟨z_12, rfl, ⟨by omega, by omega⟩, ⟨(by first | omega | trivial), (by first | omega | trivial)⟩, (wh_end (by omega) (by omega) hVx_3 (by omega) (show (szx_3 ≤ 0 ∧ z_12 = -10000) ∨ (0 < szx_3 ∧ p1 = 0 ∧ z_12 = (fkx_3 (0 : Int).toNat).toInt) ∨ (0 < szx_3 ∧ p1 ≠ 0 ∧ z_12 = (fkx_3 (szx_3 - 1).toNat).toInt) by omega)), (RG.mut hR.wg h_14 (by omega) hksu_11 (by omega) hcb (by omega) (congrArg (rmV (V (p0).toNat)) (wh_end (by omega) (by omega) hVx_3 (by omega) (show (szx_3 ≤ 0 ∧ z_12 = -10000) ∨ (0 < szx_3 ∧ p1 = 0 ∧ z_12 = (fkx_3 (0 : Int).toNat).toInt) ∨ (0 < szx_3 ∧ p1 ≠ 0 ∧ z_12 = (fkx_3 (szx_3 - 1).toNat).toInt) by omega))))⟩)
  · refine lv_aload_n hC.1 hC.2.1 dX3_poll_15 rfl (lv_at hl 0 rfl) ?_
    refine x_callV hC hw (lv_size hl) (c_X0_size l G hBu_5 (show (O ((p0).toNat)) < 3 by first | assumption | omega) hVx_3 (by first | assumption | omega) (by first | assumption | omega)) gX3_poll_X0_size rfl dv_X0_size hBu_5.1 rfl rfl (Nat.le_of_ble_eq_true rfl) (by rw [hRf]; decide) (by rw [hRl]; decide) (by first | (rw [hRc]; decide) | omega) (by first | (rw [hRs]; decide) | omega) dX3_poll_16 (fun r9 M_16 H locs hq hw => ?_)
    obtain ⟨rfl, hM9⟩ := hq
    rw [hM9] at hw
    show W p l e R s m args below meth c H locs _ _ _ (F0 m 19 ls [.int (iN (szx_3)), .ref (qb ((p0).toNat))])
    refine x_const hC dX3_poll_19 ?_
    refine x_isub hC dX3_poll_20 ?_
    refine lv_goto (tgt := 25) hC.1 hC.2.1 dX3_poll_21 (by decide) ?_
    refine x_callV hC hw (lv_size hl) (c_X0_removeAt l G hBu_5 (show (O ((p0).toNat)) < 3 by first | assumption | omega) hVx_3 (by first | assumption | omega) (by first | assumption | omega) (p0 := (szx_3 - 1)) (by omega)) gX3_poll_X0_removeAt rfl dv_X0_removeAt hBu_5.1 rfl rfl (Nat.le_of_ble_eq_true rfl) (by rw [hRf]; decide) (by rw [hRl]; decide) (by first | (rw [hRc]; decide) | omega) (by first | (rw [hRs]; decide) | omega) dX3_poll_25 (fun r9 M_17 H locs hq hw => ?_)
    obtain ⟨z_19, rfl, hz_19, hz_19n, hz_19k, kcu_18, szu_18, fku_18, fvu_18, hBu_18, smu_18, hVu_18, hksu_18, hsxu_18, hkxu_18, hfxu_18⟩ := hq
    obtain ⟨-, -, -, -, hsau_18, hsbu_18⟩ := id hBu_18
    obtain ⟨hkau_18, hkbu_18, -⟩ := id hksu_18
    have sm_20 := (sm_6).tr (smu_18)
    have h_21 := h_7.book hik_2 hBu_5 hBu_18 hVu_18 smu_18 (by first | omega | (rw [upV_s]; omega)) (by first | omega | (rw [upV_s]; omega))
    rw [show (upV (upV T ((p0).toNat) ((T ((p0).toNat)) + 1)) ((p0).toNat) ((T ((p0).toNat)) + 1)) = (upV T ((p0).toNat) ((T ((p0).toNat)) + 1)) from upV_upV] at h_21
    show W p l e R s m args below meth c H locs _ _ _ (F0 m 28 ls [.int (iN (z_19))])
    exact vx_ret (x_iret hC hw dX3_poll_28 (by first | decide | omega) (by first | decide | omega) ⟨z_19, rfl, ⟨by omega, by omega⟩, ⟨(by first | omega | trivial), (by first | omega | trivial)⟩, (wh_end (by omega) (by omega) hVx_3 (by omega) (show (szx_3 ≤ 0 ∧ z_19 = -10000) ∨ (0 < szx_3 ∧ p1 = 0 ∧ z_19 = (fkx_3 (0 : Int).toNat).toInt) ∨ (0 < szx_3 ∧ p1 ≠ 0 ∧ z_19 = (fkx_3 (szx_3 - 1).toNat).toInt) by omega)), (RG.mut hR.wg h_21 (by omega) hksu_18 (by omega) hcb (by omega) (congrArg (rmV (V (p0).toNat)) (wh_end (by omega) (by omega) hVx_3 (by omega) (show (szx_3 ≤ 0 ∧ z_19 = -10000) ∨ (0 < szx_3 ∧ p1 = 0 ∧ z_19 = (fkx_3 (0 : Int).toNat).toInt) ∨ (0 < szx_3 ∧ p1 ≠ 0 ∧ z_19 = (fkx_3 (szx_3 - 1).toNat).toInt) by omega))))⟩)
set_option maxHeartbeats 4000000 in
set_option maxRecDepth 100000 in
theorem c_X3_raise (l : Launch) (G : xG) {M : HM} (hst : l.stackTraces = false) {h0 bs vs : Nat} {og : Option Nat} {kk kv rf : Int32} {qb qk qv : Nat → Nat} {fb fv : Nat → Option Nat} {O : OW} {Wv : VW} {V : BW} {T C : Nat → Int} {K : WA} {N : Int} (hR : RGx G M h0 bs vs og kk kv rf qb qk qv fb fv O O Wv V T C K) (hcb : cbN N T C) (hN : N ≤ 590) {p0 : Int} (hp0 : -2147483648 ≤ p0 ∧ p0 ≤ 2147483647) {p1 : Int} (hp1 : -2147483648 ≤ p1 ∧ p1 ≤ 2147483647) : xMetX l G yX3_raise wsX3_raise 7 111 2 12 [.ref h0, .int (iN (p0)), .int (iN (p1))] M (fun r M1 => ∃ z : Int, r = some (.int (iN z)) ∧ (-2147483648 ≤ z ∧ z ≤ 2147483647) ∧ ((0 ≤ p0 ∧ p0 ≤ 2) ∧ (-999 ≤ p1 ∧ p1 ≤ 999)) ∧ z = A_raise (O, V, Wv, abK T C K, kk, kv, rf) p0 p1 ∧ RG G M1 h0 (N + 1) (S_raise (O, V, Wv, abK T C K, kk, kv, rf) p0 p1)) (fun E M1 => ((E = xIO ∧ ¬ (0 ≤ p0 ∧ p0 ≤ 2)) ∨ (E = xIA ∧ (0 ≤ p0 ∧ p0 ≤ 2) ∧ ¬ (-999 ≤ p1 ∧ p1 ≤ 999))) ∧ RG G M1 h0 (N + 1) (O, V, Wv, abK T C K, kk, kv, rf)) := by
  refine x_introX (cc := cX3_raise) (maxL := 4) (ret := (some .int)) (by exact pln_RX3) rfl (Nat.le_of_ble_eq_true rfl) ?_
  intro p e R s m args below meth c ls hRf hRc hRs hRl htab hC hw hl
  have hl : lv_has ls 4 [(0, .ref h0), (1, .int (iN (p0))), (2, .int (iN (p1)))] := hl
  refine lv_aload_n hC.1 hC.2.1 dX3_raise_0 rfl (lv_at hl 0 rfl) ?_
  refine lv_iload_n hC.1 hC.2.1 dX3_raise_1 rfl (lv_at hl 1 rfl) ?_
  refine x_callVX hC hw (lv_size hl) (c_X3_bookAt l G hst hR hcb hN (p0 := p0) (by first | assumption | omega)) gX3_raise_X3_bookAt rfl dv_X3_bookAt hR.1 rfl rfl (Nat.le_of_ble_eq_true rfl) (by rw [hRf]; decide) (by rw [hRl]; decide) (by first | (rw [hRc]; decide) | omega) (by first | (rw [hRs]; decide) | omega) dX3_raise_2 (fun E ce q9 M_1 H locs hqx hw hcell hcv hcls => ?_) (fun r9 M_1 H locs hq hw => ?_)
  · rw [hqx.2] at hw
    obtain ⟨hE, hc9⟩ := hqx.1
    replace hqx := hqx.2
    subst hE
    exact x_outX hC hw htab hcell hcv hcls (by first | decide | omega) (by first | decide | omega) ⟨Or.inl ⟨rfl, (by first | exact hc9 | omega | trivial)⟩, (RG.of (N2 := N + 1) hR hcb (by omega) (by omega))⟩
  obtain ⟨rfl, hM9, hk_2, hk_2b⟩ := hq
  rw [hM9] at hw
  have hik_2 : (p0).toNat < 3 := by omega
  obtain ⟨szx_3, fkx_3, fwx_3, hBx_3, hVx_3⟩ := hR.bk hik_2
  obtain ⟨-, -, -, -, hsax_3, hsbx_3⟩ := id hBx_3
  have holx_3 := hR.ol hik_2
  have hctx_3 := hcb.2 _ hik_2
  show W p l e R s m args below meth c H locs _ _ _ (F0 m 5 ls [.ref (qb ((p0).toNat))])
  refine lv_astore_n (lv' := [(3, .ref (qb ((p0).toNat))), (0, .ref h0), (1, .int (iN (p0))), (2, .int (iN (p1)))]) hC.1 hC.2.1 dX3_raise_5 rfl hl (by decide) rfl (fun ls hl => ?_)
  refine lv_iload_n hC.1 hC.2.1 dX3_raise_6 rfl (lv_at hl 3 rfl) ?_
  refine x_sipush hC dX3_raise_7 (by decide +kernel) ?_
  refine x_icmp_lt (tgt := 20) hC ⟨by omega, by omega⟩ ⟨by omega, by omega⟩ dX3_raise_10 (by decide) (fun c_4 => ?_) (fun c_4 => ?_)
  · exact x_throwS (cls := "java/lang/IllegalArgumentException") (text := "by is not -999 to 999") (names := ["java/lang/RuntimeException", "java/lang/Exception"]) hC hw hst htab (lv_size hl) tw_f0 tw_nm (List.mem_cons_of_mem _ (List.mem_append_left _ (List.mem_append_left _ (List.mem_append_left _ (List.mem_append_left _ (List.mem_append_left _ (List.mem_of_getElem? (i := 0) rfl))))))) (List.mem_cons_of_mem _ (List.mem_append_left _ (List.mem_append_left _ (List.mem_append_left _ (List.mem_append_left _ (List.mem_append_left _ (List.mem_of_getElem? (i := 1) rfl))))))) (fun w h => (List.mem_cons_of_mem _ (List.mem_append_left _ (List.mem_append_right _ h)))) tw_k40 tw_k50 (xlit_Rangeledger_88) tw_ca0 dX3_raise_20 dX3_raise_23 dX3_raise_24 dX3_raise_26 dX3_raise_29 (by rw [hRf]; decide) (by rw [hRl]; exact Nat.le_of_ble_eq_true rfl) (by first | (rw [hRc]; decide) | omega) (by first | (rw [hRs]; decide) | omega) (by omega) (by omega) ⟨Or.inr (⟨rfl, ⟨⟨(by first | omega | trivial), (by first | omega | trivial)⟩, (by first | exact hc9 | omega | trivial)⟩⟩), (RG.of (N2 := N + 1) hR hcb (by omega) (by omega))⟩
  · refine lv_iload_n hC.1 hC.2.1 dX3_raise_13 rfl (lv_at hl 3 rfl) ?_
    refine x_sipush hC dX3_raise_14 (by decide +kernel) ?_
    refine x_icmp_le (tgt := 30) hC ⟨by omega, by omega⟩ ⟨by omega, by omega⟩ dX3_raise_17 (by decide) (fun c_5 => ?_) (fun c_5 => ?_)
    · refine lv_aload_n hC.1 hC.2.1 dX3_raise_30 rfl (lv_at hl 0 rfl) ?_
      refine x_callV hC hw (lv_size hl) (c_X0_touch l G hBx_3 (show (O ((p0).toNat)) < 3 by first | assumption | omega) hVx_3 (by first | assumption | omega) (by first | assumption | omega)) gX3_raise_X0_touch rfl dv_X0_touch hBx_3.1 rfl rfl (Nat.le_of_ble_eq_true rfl) (by rw [hRf]; decide) (by rw [hRl]; decide) (by first | (rw [hRc]; decide) | omega) (by first | (rw [hRs]; decide) | omega) dX3_raise_31 (fun r9 M_6 H locs hq hw => ?_)
      obtain ⟨rfl, hBu_7, smu_7⟩ := hq
      have sm_8 := (xSm.rf (M := M) (b := (qb ((p0).toNat))) (k := (qk ((p0).toNat))) (v := (qv ((p0).toNat)))).tr (smu_7)
      have h_9 := hR.book hik_2 hBx_3 hBu_7 hVx_3 smu_7 (by first | omega | (rw [upV_s]; omega)) (by first | omega | (rw [upV_s]; omega))
      rw [show (upB V ((p0).toNat) (V ((p0).toNat))) = V from upB_self rfl, show (upV C ((p0).toNat) (C ((p0).toNat))) = C from upV_same _ _] at h_9
      show W p l e R s m args below meth c H locs _ _ _ (F0 m 34 ls [])
      refine lv_aload_n hC.1 hC.2.1 dX3_raise_34 rfl (lv_at hl 0 rfl) ?_
      refine lv_iload_n hC.1 hC.2.1 dX3_raise_35 rfl (lv_at hl 3 rfl) ?_
      refine x_callV hC hw (lv_size hl) (c_X0_raiseAll l G hBu_7 (show (O ((p0).toNat)) < 3 by first | assumption | omega) hVx_3 (by first | assumption | omega) (by first | assumption | omega) (p0 := p1) (by first | assumption | omega) (by omega)) gX3_raise_X0_raiseAll rfl dv_X0_raiseAll hBu_7.1 rfl rfl (Nat.le_of_ble_eq_true rfl) (by rw [hRf]; decide) (by rw [hRl]; decide) (by first | (rw [hRc]; decide) | omega) (by first | (rw [hRs]; decide) | omega) dX3_raise_36 (fun r9 M_11 H locs hq hw => ?_)
      obtain ⟨z_13, rfl, hz_13, hz_13v, kcu_12, szu_12, fku_12, fvu_12, hBu_12, smu_12, hVu_12, hksu_12⟩ := hq
      obtain ⟨-, -, -, -, hsau_12, hsbu_12⟩ := id hBu_12
      obtain ⟨hkau_12, hkbu_12, -⟩ := id hksu_12
      have sm_14 := (sm_8).tr (smu_12)
      have h_15 := h_9.book hik_2 hBu_7 hBu_12 hVu_12 smu_12 (by first | omega | (rw [upV_s]; omega)) (by first | omega | (rw [upV_s]; omega))
      rw [show (upV (upV T ((p0).toNat) ((T ((p0).toNat)) + 1)) ((p0).toNat) ((T ((p0).toNat)) + 1)) = (upV T ((p0).toNat) ((T ((p0).toNat)) + 1)) from upV_upV] at h_15
      show W p l e R s m args below meth c H locs _ _ _ (F0 m 39 ls [.int (iN (z_13))])
      exact vx_ret (x_iret hC hw dX3_raise_39 (by first | decide | omega) (by first | decide | omega) ⟨z_13, rfl, ⟨by omega, by omega⟩, ⟨⟨(by first | omega | trivial), (by first | omega | trivial)⟩, ⟨(by first | omega | trivial), (by first | omega | trivial)⟩⟩, hz_13v, (RG.mut hR.wg h_15 (by omega) hksu_12 (by omega) hcb (by omega) rfl)⟩)
    · exact x_throwS (cls := "java/lang/IllegalArgumentException") (text := "by is not -999 to 999") (names := ["java/lang/RuntimeException", "java/lang/Exception"]) hC hw hst htab (lv_size hl) tw_f0 tw_nm (List.mem_cons_of_mem _ (List.mem_append_left _ (List.mem_append_left _ (List.mem_append_left _ (List.mem_append_left _ (List.mem_append_left _ (List.mem_of_getElem? (i := 0) rfl))))))) (List.mem_cons_of_mem _ (List.mem_append_left _ (List.mem_append_left _ (List.mem_append_left _ (List.mem_append_left _ (List.mem_append_left _ (List.mem_of_getElem? (i := 1) rfl))))))) (fun w h => (List.mem_cons_of_mem _ (List.mem_append_left _ (List.mem_append_right _ h)))) tw_k40 tw_k50 (xlit_Rangeledger_88) tw_ca0 dX3_raise_20 dX3_raise_23 dX3_raise_24 dX3_raise_26 dX3_raise_29 (by rw [hRf]; decide) (by rw [hRl]; exact Nat.le_of_ble_eq_true rfl) (by first | (rw [hRc]; decide) | omega) (by first | (rw [hRs]; decide) | omega) (by omega) (by omega) ⟨Or.inr (⟨rfl, ⟨⟨(by first | omega | trivial), (by first | omega | trivial)⟩, (by first | exact hc9 | omega | trivial)⟩⟩), (RG.of (N2 := N + 1) hR hcb (by omega) (by omega))⟩
set_option maxHeartbeats 4000000 in
set_option maxRecDepth 100000 in
theorem c_X3_sift (l : Launch) (G : xG) {M : HM} (hst : l.stackTraces = false) {h0 bs vs : Nat} {og : Option Nat} {kk kv rf : Int32} {qb qk qv : Nat → Nat} {fb fv : Nat → Option Nat} {O : OW} {Wv : VW} {V : BW} {T C : Nat → Int} {K : WA} {N : Int} (hR : RGx G M h0 bs vs og kk kv rf qb qk qv fb fv O O Wv V T C K) (hcb : cbN N T C) (hN : N ≤ 590) {p0 : Int} (hp0 : -2147483648 ≤ p0 ∧ p0 ≤ 2147483647) {p1 : Int} (hp1 : -2147483648 ≤ p1 ∧ p1 ≤ 2147483647) : xMetX l G yX3_sift wsX3_sift 7 111 2 12 [.ref h0, .int (iN (p0)), .int (iN (p1))] M (fun r M1 => ∃ z : Int, r = some (.int (iN z)) ∧ (-2147483648 ≤ z ∧ z ≤ 2147483647) ∧ ((0 ≤ p0 ∧ p0 ≤ 2) ∧ (2 ≤ p1 ∧ p1 ≤ 99)) ∧ z = A_sift (O, V, Wv, abK T C K, kk, kv, rf) p0 p1 ∧ RG G M1 h0 (N + 1) (S_sift (O, V, Wv, abK T C K, kk, kv, rf) p0 p1)) (fun E M1 => ((E = xIO ∧ ¬ (0 ≤ p0 ∧ p0 ≤ 2)) ∨ (E = xIA ∧ (0 ≤ p0 ∧ p0 ≤ 2) ∧ ¬ (2 ≤ p1 ∧ p1 ≤ 99))) ∧ RG G M1 h0 (N + 1) (O, V, Wv, abK T C K, kk, kv, rf)) := by
  refine x_introX (cc := cX3_sift) (maxL := 4) (ret := (some .int)) (by exact pln_RX3) rfl (Nat.le_of_ble_eq_true rfl) ?_
  intro p e R s m args below meth c ls hRf hRc hRs hRl htab hC hw hl
  have hl : lv_has ls 4 [(0, .ref h0), (1, .int (iN (p0))), (2, .int (iN (p1)))] := hl
  refine lv_aload_n hC.1 hC.2.1 dX3_sift_0 rfl (lv_at hl 0 rfl) ?_
  refine lv_iload_n hC.1 hC.2.1 dX3_sift_1 rfl (lv_at hl 1 rfl) ?_
  refine x_callVX hC hw (lv_size hl) (c_X3_bookAt l G hst hR hcb hN (p0 := p0) (by first | assumption | omega)) gX3_sift_X3_bookAt rfl dv_X3_bookAt hR.1 rfl rfl (Nat.le_of_ble_eq_true rfl) (by rw [hRf]; decide) (by rw [hRl]; decide) (by first | (rw [hRc]; decide) | omega) (by first | (rw [hRs]; decide) | omega) dX3_sift_2 (fun E ce q9 M_1 H locs hqx hw hcell hcv hcls => ?_) (fun r9 M_1 H locs hq hw => ?_)
  · rw [hqx.2] at hw
    obtain ⟨hE, hc9⟩ := hqx.1
    replace hqx := hqx.2
    subst hE
    exact x_outX hC hw htab hcell hcv hcls (by first | decide | omega) (by first | decide | omega) ⟨Or.inl ⟨rfl, (by first | exact hc9 | omega | trivial)⟩, (RG.of (N2 := N + 1) hR hcb (by omega) (by omega))⟩
  obtain ⟨rfl, hM9, hk_2, hk_2b⟩ := hq
  rw [hM9] at hw
  have hik_2 : (p0).toNat < 3 := by omega
  obtain ⟨szx_3, fkx_3, fwx_3, hBx_3, hVx_3⟩ := hR.bk hik_2
  obtain ⟨-, -, -, -, hsax_3, hsbx_3⟩ := id hBx_3
  have holx_3 := hR.ol hik_2
  have hctx_3 := hcb.2 _ hik_2
  show W p l e R s m args below meth c H locs _ _ _ (F0 m 5 ls [.ref (qb ((p0).toNat))])
  refine lv_astore_n (lv' := [(3, .ref (qb ((p0).toNat))), (0, .ref h0), (1, .int (iN (p0))), (2, .int (iN (p1)))]) hC.1 hC.2.1 dX3_sift_5 rfl hl (by decide) rfl (fun ls hl => ?_)
  refine lv_iload_n hC.1 hC.2.1 dX3_sift_6 rfl (lv_at hl 3 rfl) ?_
  refine x_const hC dX3_sift_7 ?_
  refine x_icmp_lt (tgt := 17) hC ⟨by omega, by omega⟩ ⟨by omega, by omega⟩ dX3_sift_8 (by decide) (fun c_4 => ?_) (fun c_4 => ?_)
  · exact x_throwS (cls := "java/lang/IllegalArgumentException") (text := "by is not 2 to 99") (names := ["java/lang/RuntimeException", "java/lang/Exception"]) hC hw hst htab (lv_size hl) tw_f0 tw_nm (List.mem_cons_of_mem _ (List.mem_append_left _ (List.mem_append_left _ (List.mem_append_left _ (List.mem_append_left _ (List.mem_append_left _ (List.mem_of_getElem? (i := 0) rfl))))))) (List.mem_cons_of_mem _ (List.mem_append_left _ (List.mem_append_left _ (List.mem_append_left _ (List.mem_append_left _ (List.mem_append_left _ (List.mem_of_getElem? (i := 1) rfl))))))) (fun w h => (List.mem_cons_of_mem _ (List.mem_append_left _ (List.mem_append_right _ h)))) tw_k40 tw_k50 (xlit_Rangeledger_96) tw_ca0 dX3_sift_17 dX3_sift_20 dX3_sift_21 dX3_sift_23 dX3_sift_26 (by rw [hRf]; decide) (by rw [hRl]; exact Nat.le_of_ble_eq_true rfl) (by first | (rw [hRc]; decide) | omega) (by first | (rw [hRs]; decide) | omega) (by omega) (by omega) ⟨Or.inr (⟨rfl, ⟨⟨(by first | omega | trivial), (by first | omega | trivial)⟩, (by first | exact hc9 | omega | trivial)⟩⟩), (RG.of (N2 := N + 1) hR hcb (by omega) (by omega))⟩
  · refine lv_iload_n hC.1 hC.2.1 dX3_sift_11 rfl (lv_at hl 3 rfl) ?_
    refine x_bipush hC dX3_sift_12 (by decide +kernel) ?_
    refine x_icmp_le (tgt := 27) hC ⟨by omega, by omega⟩ ⟨by omega, by omega⟩ dX3_sift_14 (by decide) (fun c_5 => ?_) (fun c_5 => ?_)
    · refine lv_aload_n hC.1 hC.2.1 dX3_sift_27 rfl (lv_at hl 0 rfl) ?_
      refine x_callV hC hw (lv_size hl) (c_X0_touch l G hBx_3 (show (O ((p0).toNat)) < 3 by first | assumption | omega) hVx_3 (by first | assumption | omega) (by first | assumption | omega)) gX3_sift_X0_touch rfl dv_X0_touch hBx_3.1 rfl rfl (Nat.le_of_ble_eq_true rfl) (by rw [hRf]; decide) (by rw [hRl]; decide) (by first | (rw [hRc]; decide) | omega) (by first | (rw [hRs]; decide) | omega) dX3_sift_28 (fun r9 M_6 H locs hq hw => ?_)
      obtain ⟨rfl, hBu_7, smu_7⟩ := hq
      have sm_8 := (xSm.rf (M := M) (b := (qb ((p0).toNat))) (k := (qk ((p0).toNat))) (v := (qv ((p0).toNat)))).tr (smu_7)
      have h_9 := hR.book hik_2 hBx_3 hBu_7 hVx_3 smu_7 (by first | omega | (rw [upV_s]; omega)) (by first | omega | (rw [upV_s]; omega))
      rw [show (upB V ((p0).toNat) (V ((p0).toNat))) = V from upB_self rfl, show (upV C ((p0).toNat) (C ((p0).toNat))) = C from upV_same _ _] at h_9
      show W p l e R s m args below meth c H locs _ _ _ (F0 m 31 ls [])
      refine lv_aload_n hC.1 hC.2.1 dX3_sift_31 rfl (lv_at hl 0 rfl) ?_
      refine lv_iload_n hC.1 hC.2.1 dX3_sift_32 rfl (lv_at hl 3 rfl) ?_
      refine x_callV hC hw (lv_size hl) (c_X0_removeMultiples l G hBu_7 (show (O ((p0).toNat)) < 3 by first | assumption | omega) hVx_3 (by first | assumption | omega) (by first | assumption | omega) (p0 := p1) (by first | assumption | omega) (by omega)) gX3_sift_X0_removeMultiples rfl dv_X0_removeMultiples hBu_7.1 rfl rfl (Nat.le_of_ble_eq_true rfl) (by rw [hRf]; decide) (by rw [hRl]; decide) (by first | (rw [hRc]; decide) | omega) (by first | (rw [hRs]; decide) | omega) dX3_sift_33 (fun r9 M_11 H locs hq hw => ?_)
      obtain ⟨z_13, rfl, hz_13, hz_13v, kcu_12, szu_12, fku_12, fvu_12, hBu_12, smu_12, hVu_12, hksu_12⟩ := hq
      obtain ⟨-, -, -, -, hsau_12, hsbu_12⟩ := id hBu_12
      obtain ⟨hkau_12, hkbu_12, -⟩ := id hksu_12
      have sm_14 := (sm_8).tr (smu_12)
      have h_15 := h_9.book hik_2 hBu_7 hBu_12 hVu_12 smu_12 (by first | omega | (rw [upV_s]; omega)) (by first | omega | (rw [upV_s]; omega))
      rw [show (upV (upV T ((p0).toNat) ((T ((p0).toNat)) + 1)) ((p0).toNat) ((T ((p0).toNat)) + 1)) = (upV T ((p0).toNat) ((T ((p0).toNat)) + 1)) from upV_upV] at h_15
      show W p l e R s m args below meth c H locs _ _ _ (F0 m 36 ls [.int (iN (z_13))])
      exact vx_ret (x_iret hC hw dX3_sift_36 (by first | decide | omega) (by first | decide | omega) ⟨z_13, rfl, ⟨by omega, by omega⟩, ⟨⟨(by first | omega | trivial), (by first | omega | trivial)⟩, ⟨(by first | omega | trivial), (by first | omega | trivial)⟩⟩, hz_13v, (RG.mut hR.wg h_15 (by omega) hksu_12 (by omega) hcb (by omega) rfl)⟩)
    · exact x_throwS (cls := "java/lang/IllegalArgumentException") (text := "by is not 2 to 99") (names := ["java/lang/RuntimeException", "java/lang/Exception"]) hC hw hst htab (lv_size hl) tw_f0 tw_nm (List.mem_cons_of_mem _ (List.mem_append_left _ (List.mem_append_left _ (List.mem_append_left _ (List.mem_append_left _ (List.mem_append_left _ (List.mem_of_getElem? (i := 0) rfl))))))) (List.mem_cons_of_mem _ (List.mem_append_left _ (List.mem_append_left _ (List.mem_append_left _ (List.mem_append_left _ (List.mem_append_left _ (List.mem_of_getElem? (i := 1) rfl))))))) (fun w h => (List.mem_cons_of_mem _ (List.mem_append_left _ (List.mem_append_right _ h)))) tw_k40 tw_k50 (xlit_Rangeledger_96) tw_ca0 dX3_sift_17 dX3_sift_20 dX3_sift_21 dX3_sift_23 dX3_sift_26 (by rw [hRf]; decide) (by rw [hRl]; exact Nat.le_of_ble_eq_true rfl) (by first | (rw [hRc]; decide) | omega) (by first | (rw [hRs]; decide) | omega) (by omega) (by omega) ⟨Or.inr (⟨rfl, ⟨⟨(by first | omega | trivial), (by first | omega | trivial)⟩, (by first | exact hc9 | omega | trivial)⟩⟩), (RG.of (N2 := N + 1) hR hcb (by omega) (by omega))⟩
set_option maxHeartbeats 4000000 in
set_option maxRecDepth 100000 in
theorem c_X3_strikeValue (l : Launch) (G : xG) {M : HM} (hst : l.stackTraces = false) {h0 bs vs : Nat} {og : Option Nat} {kk kv rf : Int32} {qb qk qv : Nat → Nat} {fb fv : Nat → Option Nat} {O : OW} {Wv : VW} {V : BW} {T C : Nat → Int} {K : WA} {N : Int} (hR : RGx G M h0 bs vs og kk kv rf qb qk qv fb fv O O Wv V T C K) (hcb : cbN N T C) (hN : N ≤ 590) {p0 : Int} (hp0 : -2147483648 ≤ p0 ∧ p0 ≤ 2147483647) {p1 : Int} (hp1 : -2147483648 ≤ p1 ∧ p1 ≤ 2147483647) : xMetX l G yX3_strikeValue wsX3_strikeValue 7 111 3 18 [.ref h0, .int (iN (p0)), .int (iN (p1))] M (fun r M1 => ∃ z : Int, r = some (.int (iN z)) ∧ (z = 0 ∨ z = 1) ∧ ((0 ≤ p0 ∧ p0 ≤ 2) ∧ (-9999 ≤ p1 ∧ p1 ≤ 9999) ∧ (cvN (V p0.toNat) p1 100 ≤ 1)) ∧ z = A_strikeValue (O, V, Wv, abK T C K, kk, kv, rf) p0 p1 ∧ RG G M1 h0 (N + 1) (S_strikeValue (O, V, Wv, abK T C K, kk, kv, rf) p0 p1)) (fun E M1 => ((E = xIO ∧ ¬ (0 ≤ p0 ∧ p0 ≤ 2)) ∨ (E = xIA ∧ (0 ≤ p0 ∧ p0 ≤ 2) ∧ ¬ (-9999 ≤ p1 ∧ p1 ≤ 9999)) ∨ (E = xIS ∧ (0 ≤ p0 ∧ p0 ≤ 2) ∧ (-9999 ≤ p1 ∧ p1 ≤ 9999) ∧ ¬ (cvN (V p0.toNat) p1 100 ≤ 1))) ∧ RG G M1 h0 (N + 1) (O, V, Wv, abK T C K, kk, kv, rf)) := by
  refine x_introX (cc := cX3_strikeValue) (maxL := 5) (ret := (some .boolean)) (by exact pln_RX3) rfl (Nat.le_of_ble_eq_true rfl) ?_
  intro p e R s m args below meth c ls hRf hRc hRs hRl htab hC hw hl
  have hl : lv_has ls 5 [(0, .ref h0), (1, .int (iN (p0))), (2, .int (iN (p1)))] := hl
  refine lv_aload_n hC.1 hC.2.1 dX3_strikeValue_0 rfl (lv_at hl 0 rfl) ?_
  refine lv_iload_n hC.1 hC.2.1 dX3_strikeValue_1 rfl (lv_at hl 1 rfl) ?_
  refine x_callVX hC hw (lv_size hl) (c_X3_bookAt l G hst hR hcb hN (p0 := p0) (by first | assumption | omega)) gX3_strikeValue_X3_bookAt rfl dv_X3_bookAt hR.1 rfl rfl (Nat.le_of_ble_eq_true rfl) (by rw [hRf]; decide) (by rw [hRl]; decide) (by first | (rw [hRc]; decide) | omega) (by first | (rw [hRs]; decide) | omega) dX3_strikeValue_2 (fun E ce q9 M_1 H locs hqx hw hcell hcv hcls => ?_) (fun r9 M_1 H locs hq hw => ?_)
  · rw [hqx.2] at hw
    obtain ⟨hE, hc9⟩ := hqx.1
    replace hqx := hqx.2
    subst hE
    exact x_outX hC hw htab hcell hcv hcls (by first | decide | omega) (by first | decide | omega) ⟨Or.inl ⟨rfl, (by first | exact hc9 | omega | trivial)⟩, (RG.of (N2 := N + 1) hR hcb (by omega) (by omega))⟩
  obtain ⟨rfl, hM9, hk_2, hk_2b⟩ := hq
  rw [hM9] at hw
  have hik_2 : (p0).toNat < 3 := by omega
  obtain ⟨szx_3, fkx_3, fwx_3, hBx_3, hVx_3⟩ := hR.bk hik_2
  obtain ⟨-, -, -, -, hsax_3, hsbx_3⟩ := id hBx_3
  have holx_3 := hR.ol hik_2
  have hctx_3 := hcb.2 _ hik_2
  show W p l e R s m args below meth c H locs _ _ _ (F0 m 5 ls [.ref (qb ((p0).toNat))])
  refine lv_astore_n (lv' := [(3, .ref (qb ((p0).toNat))), (0, .ref h0), (1, .int (iN (p0))), (2, .int (iN (p1)))]) hC.1 hC.2.1 dX3_strikeValue_5 rfl hl (by decide) rfl (fun ls hl => ?_)
  refine lv_iload_n hC.1 hC.2.1 dX3_strikeValue_6 rfl (lv_at hl 3 rfl) ?_
  refine x_callSX hC hw (lv_size hl) (c_X3_checkValue l G (M := M) hst (p0 := p1) (by first | assumption | omega)) gX3_strikeValue_X3_checkValue rfl dv_X3_checkValue_s rfl (Nat.le_of_ble_eq_true rfl) (by rw [hRf]; decide) (by rw [hRl]; decide) (by first | (rw [hRc]; decide) | omega) (by first | (rw [hRs]; decide) | omega) dX3_strikeValue_7 (fun E ce q9 M_4 H locs hqx hw hcell hcv hcls => ?_) (fun r9 M_4 H locs hq hw => ?_)
  · rw [hqx.2] at hw
    obtain ⟨hE, hc9⟩ := hqx.1
    replace hqx := hqx.2
    subst hE
    exact x_outX hC hw htab hcell hcv hcls (by first | decide | omega) (by first | decide | omega) ⟨Or.inr (Or.inl ⟨rfl, ⟨⟨(by first | omega | trivial), (by first | omega | trivial)⟩, (by first | exact hc9 | omega | trivial)⟩⟩), (RG.of (N2 := N + 1) hR hcb (by omega) (by omega))⟩
  obtain ⟨rfl, hM9, hk_5⟩ := hq
  rw [hM9] at hw
  show W p l e R s m args below meth c H locs _ _ _ (F0 m 10 ls [])
  refine lv_aload_n hC.1 hC.2.1 dX3_strikeValue_10 rfl (lv_at hl 0 rfl) ?_
  refine lv_iload_n hC.1 hC.2.1 dX3_strikeValue_11 rfl (lv_at hl 3 rfl) ?_
  refine x_callV hC hw (lv_size hl) (c_X0_countOfValue l G hBx_3 (show (O ((p0).toNat)) < 3 by first | assumption | omega) hVx_3 (by first | assumption | omega) (by first | assumption | omega) (p0 := p1) (by first | assumption | omega)) gX3_strikeValue_X0_countOfValue rfl dv_X0_countOfValue hBx_3.1 rfl rfl (Nat.le_of_ble_eq_true rfl) (by rw [hRf]; decide) (by rw [hRl]; decide) (by first | (rw [hRc]; decide) | omega) (by first | (rw [hRs]; decide) | omega) dX3_strikeValue_12 (fun r9 M_6 H locs hq hw => ?_)
  obtain ⟨z_7, rfl, hM9, hz_7a, hz_7b, hz_7c⟩ := hq
  rw [hM9] at hw
  show W p l e R s m args below meth c H locs _ _ _ (F0 m 15 ls [.int (iN (z_7))])
  have hcv : z_7 = cvN (V (p0).toNat) p1 100 := hz_7c.trans (cvP_N hVx_3 (by omega))
  refine lv_istore (lv' := [(4, .int (iN (z_7))), (3, .ref (qb ((p0).toNat))), (0, .ref h0), (1, .int (iN (p0))), (2, .int (iN (p1)))]) hC.1 hC.2.1 dX3_strikeValue_15 hl (by decide) rfl (fun ls hl => ?_)
  refine lv_iload hC.1 hC.2.1 dX3_strikeValue_17 (lv_at hl 0 rfl) ?_
  refine x_const hC dX3_strikeValue_19 ?_
  refine x_icmp_le (tgt := 33) hC ⟨by omega, by omega⟩ ⟨by omega, by omega⟩ dX3_strikeValue_20 (by decide) (fun c_8 => ?_) (fun c_8 => ?_)
  · refine lv_aload_n hC.1 hC.2.1 dX3_strikeValue_33 rfl (lv_at hl 1 rfl) ?_
    refine x_callV hC hw (lv_size hl) (c_X0_touch l G hBx_3 (show (O ((p0).toNat)) < 3 by first | assumption | omega) hVx_3 (by first | assumption | omega) (by first | assumption | omega)) gX3_strikeValue_X0_touch rfl dv_X0_touch hBx_3.1 rfl rfl (Nat.le_of_ble_eq_true rfl) (by rw [hRf]; decide) (by rw [hRl]; decide) (by first | (rw [hRc]; decide) | omega) (by first | (rw [hRs]; decide) | omega) dX3_strikeValue_34 (fun r9 M_9 H locs hq hw => ?_)
    obtain ⟨rfl, hBu_10, smu_10⟩ := hq
    have sm_11 := (xSm.rf (M := M) (b := (qb ((p0).toNat))) (k := (qk ((p0).toNat))) (v := (qv ((p0).toNat)))).tr (smu_10)
    have h_12 := hR.book hik_2 hBx_3 hBu_10 hVx_3 smu_10 (by first | omega | (rw [upV_s]; omega)) (by first | omega | (rw [upV_s]; omega))
    rw [show (upB V ((p0).toNat) (V ((p0).toNat))) = V from upB_self rfl, show (upV C ((p0).toNat) (C ((p0).toNat))) = C from upV_same _ _] at h_12
    show W p l e R s m args below meth c H locs _ _ _ (F0 m 37 ls [])
    refine lv_iload hC.1 hC.2.1 dX3_strikeValue_37 (lv_at hl 0 rfl) ?_
    refine x_if_ne (tgt := 44) hC ⟨by omega, by omega⟩ dX3_strikeValue_39 (by decide) (fun c_14 => ?_) (fun c_14 => ?_)
    · refine lv_aload_n hC.1 hC.2.1 dX3_strikeValue_44 rfl (lv_at hl 1 rfl) ?_
      refine lv_aload_n hC.1 hC.2.1 dX3_strikeValue_45 rfl (lv_at hl 1 rfl) ?_
      refine lv_iload_n hC.1 hC.2.1 dX3_strikeValue_46 rfl (lv_at hl 4 rfl) ?_
      refine x_callV hC hw (lv_size hl) (c_X0_firstPlaceOfValue l G hBu_10 (show (O ((p0).toNat)) < 3 by first | assumption | omega) hVx_3 (by first | assumption | omega) (by first | assumption | omega) (p0 := p1) (by first | assumption | omega)) gX3_strikeValue_X0_firstPlaceOfValue rfl dv_X0_firstPlaceOfValue hBu_10.1 rfl rfl (Nat.le_of_ble_eq_true rfl) (by rw [hRf]; decide) (by rw [hRl]; decide) (by first | (rw [hRc]; decide) | omega) (by first | (rw [hRs]; decide) | omega) dX3_strikeValue_47 (fun r9 M_15 H locs hq hw => ?_)
      obtain ⟨z_16, rfl, hM9, hz_16, hz_16f⟩ := hq
      rw [hM9] at hw
      show W p l e R s m args below meth c H locs _ _ _ (F0 m 50 ls [.int (iN (z_16)), .ref (qb ((p0).toNat))])
      have hfp : 0 ≤ z_16 ∧ z_16 < szx_3 ∧ (fwx_3 (z_16).toNat).toInt = p1 := by rcases hz_16f with ⟨e1, e2⟩ | ⟨e1, e2, -⟩; (· exfalso; have e3 := cvP_no (fv := fwx_3) (n := (szx_3).toNat) (v := p1) (fun q9 hq9 => e2 q9 (by omega)); have e4 := hz_7c; omega); (· exact ⟨e1.1, e1.2, e2⟩)
      refine x_callV hC hw (lv_size hl) (c_X0_removeAt l G hBu_10 (show (O ((p0).toNat)) < 3 by first | assumption | omega) hVx_3 (by first | assumption | omega) (by first | assumption | omega) (p0 := z_16) (by omega)) gX3_strikeValue_X0_removeAt rfl dv_X0_removeAt hBu_10.1 rfl rfl (Nat.le_of_ble_eq_true rfl) (by rw [hRf]; decide) (by rw [hRl]; decide) (by first | (rw [hRc]; decide) | omega) (by first | (rw [hRs]; decide) | omega) dX3_strikeValue_50 (fun r9 M_17 H locs hq hw => ?_)
      obtain ⟨z_19, rfl, hz_19, hz_19n, hz_19k, kcu_18, szu_18, fku_18, fvu_18, hBu_18, smu_18, hVu_18, hksu_18, hsxu_18, hkxu_18, hfxu_18⟩ := hq
      obtain ⟨-, -, -, -, hsau_18, hsbu_18⟩ := id hBu_18
      obtain ⟨hkau_18, hkbu_18, -⟩ := id hksu_18
      have sm_20 := (sm_11).tr (smu_18)
      have h_21 := h_12.book hik_2 hBu_10 hBu_18 hVu_18 smu_18 (by first | omega | (rw [upV_s]; omega)) (by first | omega | (rw [upV_s]; omega))
      rw [show (upV (upV T ((p0).toNat) ((T ((p0).toNat)) + 1)) ((p0).toNat) ((T ((p0).toNat)) + 1)) = (upV T ((p0).toNat) ((T ((p0).toNat)) + 1)) from upV_upV] at h_21
      show W p l e R s m args below meth c H locs _ _ _ (F0 m 53 ls [.int (iN (z_19))])
      refine lv_pop hC.1 hC.2.1 dX3_strikeValue_53 rfl ?_
      refine x_const hC dX3_strikeValue_54 ?_
      exact vx_ret (x_zret hC hw (by omega) dX3_strikeValue_55 (by first | decide | omega) (by first | decide | omega) ⟨1, rfl, by omega, ⟨⟨(by first | omega | trivial), (by first | omega | trivial)⟩, ⟨(by first | omega | trivial), (by first | omega | trivial)⟩, (by first | omega | trivial)⟩, (show _ = (if cvN (V (p0).toNat) p1 100 = 0 then 0 else 1) by omega), (RG.mut hR.wg h_21 (by omega) hksu_18 (by omega) hcb (by omega) (sv_1 (by omega) (by omega) (by have e9 := hVx_3.vr' (p0 := z_16) (by omega); rw [show (z_19).toNat = kN fkx_3 (z_16).toNat from (kNz (by omega)).symm]; omega)))⟩)
    · refine x_const hC dX3_strikeValue_42 ?_
      exact vx_ret (x_zret hC hw (by omega) dX3_strikeValue_43 (by first | decide | omega) (by first | decide | omega) ⟨0, rfl, by omega, ⟨⟨(by first | omega | trivial), (by first | omega | trivial)⟩, ⟨(by first | omega | trivial), (by first | omega | trivial)⟩, (by first | omega | trivial)⟩, (show _ = (if cvN (V (p0).toNat) p1 100 = 0 then 0 else 1) by omega), (RG.mut0 hR.wg h_12 (by omega) hcb (by omega) (sv_0 (by omega)))⟩)
  · exact x_throwS (cls := "java/lang/IllegalStateException") (text := "several keys have the value") (names := ["java/lang/RuntimeException", "java/lang/Exception"]) hC hw hst htab (lv_size hl) tw_f2 tw_nm (List.mem_cons_of_mem _ (List.mem_append_left _ (List.mem_append_left _ (List.mem_append_left _ (List.mem_append_left _ (List.mem_append_left _ (List.mem_append_left _ (List.mem_of_getElem? (i := 0) rfl)))))))) (List.mem_cons_of_mem _ (List.mem_append_left _ (List.mem_append_left _ (List.mem_append_left _ (List.mem_append_left _ (List.mem_append_left _ (List.mem_append_left _ (List.mem_of_getElem? (i := 1) rfl)))))))) (fun w h => (List.mem_cons_of_mem _ (List.mem_append_left _ (List.mem_append_left _ (List.mem_append_right _ h))))) tw_k42 tw_k52 (xlit_Rangeledger_106) tw_ca2 dX3_strikeValue_23 dX3_strikeValue_26 dX3_strikeValue_27 dX3_strikeValue_29 dX3_strikeValue_32 (by rw [hRf]; decide) (by rw [hRl]; exact Nat.le_of_ble_eq_true rfl) (by first | (rw [hRc]; decide) | omega) (by first | (rw [hRs]; decide) | omega) (by omega) (by omega) ⟨Or.inr (Or.inr (⟨rfl, ⟨⟨(by first | omega | trivial), (by first | omega | trivial)⟩, ⟨(by first | omega | trivial), (by first | omega | trivial)⟩, (by first | exact hc9 | omega | trivial)⟩⟩)), (RG.of (N2 := N + 1) hR hcb (by omega) (by omega))⟩
set_option maxHeartbeats 4000000 in
set_option maxRecDepth 100000 in
theorem c_X3_clear (l : Launch) (G : xG) {M : HM} (hst : l.stackTraces = false) {h0 bs vs : Nat} {og : Option Nat} {kk kv rf : Int32} {qb qk qv : Nat → Nat} {fb fv : Nat → Option Nat} {O : OW} {Wv : VW} {V : BW} {T C : Nat → Int} {K : WA} {N : Int} (hR : RGx G M h0 bs vs og kk kv rf qb qk qv fb fv O O Wv V T C K) (hcb : cbN N T C) (hN : N ≤ 590) {p0 : Int} (hp0 : -2147483648 ≤ p0 ∧ p0 ≤ 2147483647) : xMetX l G yX3_clear wsX3_clear 7 111 1 6 [.ref h0, .int (iN (p0))] M (fun r M1 => ∃ z : Int, r = some (.int (iN z)) ∧ (-2147483648 ≤ z ∧ z ≤ 2147483647) ∧ ((0 ≤ p0 ∧ p0 ≤ 2)) ∧ z = A_clear (O, V, Wv, abK T C K, kk, kv, rf) p0 ∧ RG G M1 h0 (N + 1) (S_clear (O, V, Wv, abK T C K, kk, kv, rf) p0)) (fun E M1 => ((E = xIO ∧ ¬ (0 ≤ p0 ∧ p0 ≤ 2))) ∧ RG G M1 h0 (N + 1) (O, V, Wv, abK T C K, kk, kv, rf)) := by
  refine x_introX (cc := cX3_clear) (maxL := 3) (ret := (some .int)) (by exact pln_RX3) rfl (Nat.le_of_ble_eq_true rfl) ?_
  intro p e R s m args below meth c ls hRf hRc hRs hRl htab hC hw hl
  have hl : lv_has ls 3 [(0, .ref h0), (1, .int (iN (p0)))] := hl
  refine lv_aload_n hC.1 hC.2.1 dX3_clear_0 rfl (lv_at hl 0 rfl) ?_
  refine lv_iload_n hC.1 hC.2.1 dX3_clear_1 rfl (lv_at hl 1 rfl) ?_
  refine x_callVX hC hw (lv_size hl) (c_X3_bookAt l G hst hR hcb hN (p0 := p0) (by first | assumption | omega)) gX3_clear_X3_bookAt rfl dv_X3_bookAt hR.1 rfl rfl (Nat.le_of_ble_eq_true rfl) (by rw [hRf]; decide) (by rw [hRl]; decide) (by first | (rw [hRc]; decide) | omega) (by first | (rw [hRs]; decide) | omega) dX3_clear_2 (fun E ce q9 M_1 H locs hqx hw hcell hcv hcls => ?_) (fun r9 M_1 H locs hq hw => ?_)
  · rw [hqx.2] at hw
    obtain ⟨hE, hc9⟩ := hqx.1
    replace hqx := hqx.2
    subst hE
    exact x_outX hC hw htab hcell hcv hcls (by first | decide | omega) (by first | decide | omega) ⟨⟨rfl, (by first | exact hc9 | omega | trivial)⟩, (RG.of (N2 := N + 1) hR hcb (by omega) (by omega))⟩
  obtain ⟨rfl, hM9, hk_2, hk_2b⟩ := hq
  rw [hM9] at hw
  have hik_2 : (p0).toNat < 3 := by omega
  obtain ⟨szx_3, fkx_3, fwx_3, hBx_3, hVx_3⟩ := hR.bk hik_2
  obtain ⟨-, -, -, -, hsax_3, hsbx_3⟩ := id hBx_3
  have holx_3 := hR.ol hik_2
  have hctx_3 := hcb.2 _ hik_2
  show W p l e R s m args below meth c H locs _ _ _ (F0 m 5 ls [.ref (qb ((p0).toNat))])
  refine lv_astore_n (lv' := [(2, .ref (qb ((p0).toNat))), (0, .ref h0), (1, .int (iN (p0)))]) hC.1 hC.2.1 dX3_clear_5 rfl hl (by decide) rfl (fun ls hl => ?_)
  refine lv_aload_n hC.1 hC.2.1 dX3_clear_6 rfl (lv_at hl 0 rfl) ?_
  refine x_callV hC hw (lv_size hl) (c_X0_touch l G hBx_3 (show (O ((p0).toNat)) < 3 by first | assumption | omega) hVx_3 (by first | assumption | omega) (by first | assumption | omega)) gX3_clear_X0_touch rfl dv_X0_touch hBx_3.1 rfl rfl (Nat.le_of_ble_eq_true rfl) (by rw [hRf]; decide) (by rw [hRl]; decide) (by first | (rw [hRc]; decide) | omega) (by first | (rw [hRs]; decide) | omega) dX3_clear_7 (fun r9 M_4 H locs hq hw => ?_)
  obtain ⟨rfl, hBu_5, smu_5⟩ := hq
  have sm_6 := (xSm.rf (M := M) (b := (qb ((p0).toNat))) (k := (qk ((p0).toNat))) (v := (qv ((p0).toNat)))).tr (smu_5)
  have h_7 := hR.book hik_2 hBx_3 hBu_5 hVx_3 smu_5 (by first | omega | (rw [upV_s]; omega)) (by first | omega | (rw [upV_s]; omega))
  rw [show (upB V ((p0).toNat) (V ((p0).toNat))) = V from upB_self rfl, show (upV C ((p0).toNat) (C ((p0).toNat))) = C from upV_same _ _] at h_7
  show W p l e R s m args below meth c H locs _ _ _ (F0 m 10 ls [])
  refine lv_aload_n hC.1 hC.2.1 dX3_clear_10 rfl (lv_at hl 0 rfl) ?_
  refine x_const hC dX3_clear_11 ?_
  refine lv_aload_n hC.1 hC.2.1 dX3_clear_12 rfl (lv_at hl 0 rfl) ?_
  refine x_callV hC hw (lv_size hl) (c_X0_size l G hBu_5 (show (O ((p0).toNat)) < 3 by first | assumption | omega) hVx_3 (by first | assumption | omega) (by first | assumption | omega)) gX3_clear_X0_size rfl dv_X0_size hBu_5.1 rfl rfl (Nat.le_of_ble_eq_true rfl) (by rw [hRf]; decide) (by rw [hRl]; decide) (by first | (rw [hRc]; decide) | omega) (by first | (rw [hRs]; decide) | omega) dX3_clear_13 (fun r9 M_9 H locs hq hw => ?_)
  obtain ⟨rfl, hM9⟩ := hq
  rw [hM9] at hw
  show W p l e R s m args below meth c H locs _ _ _ (F0 m 16 ls [.int (iN (szx_3)), .int (iN (0)), .ref (qb ((p0).toNat))])
  refine x_callV hC hw (lv_size hl) (c_X0_removeRange l G hBu_5 (show (O ((p0).toNat)) < 3 by first | assumption | omega) hVx_3 (by first | assumption | omega) (by first | assumption | omega) (p0 := 0) (by omega) (p1 := szx_3) (by omega) (V1 := (mapN (V (p0).toNat) (F_sa O V (whT (p0).toNat)) 100)) (sa1 (t := whT (p0).toNat) (show O (p0).toNat < 3 by first | assumption | omega) (whT_ok (by omega)) hVx_3 wh_st (wh_en (show O (p0).toNat < 3 by first | assumption | omega) hVx_3) (Int.le_refl 0) (by omega)) (sa2 (t := whT (p0).toNat)) (by omega)) gX3_clear_X0_removeRange rfl dv_X0_removeRange hBu_5.1 rfl rfl (Nat.le_of_ble_eq_true rfl) (by rw [hRf]; decide) (by rw [hRl]; decide) (by first | (rw [hRc]; decide) | omega) (by first | (rw [hRs]; decide) | omega) dX3_clear_16 (fun r9 M_10 H locs hq hw => ?_)
  obtain ⟨z_12, rfl, hz_12, hz_12r, kcu_11, szu_11, fku_11, fvu_11, hBu_11, smu_11, hVu_11, hksu_11, hsxu_11, hkxu_11, hfxu_11⟩ := hq
  obtain ⟨-, -, -, -, hsau_11, hsbu_11⟩ := id hBu_11
  obtain ⟨hkau_11, hkbu_11, -⟩ := id hksu_11
  have sm_13 := (sm_6).tr (smu_11)
  have h_14 := h_7.book hik_2 hBu_5 hBu_11 hVu_11 smu_11 (by first | omega | (rw [upV_s]; omega)) (by first | omega | (rw [upV_s]; omega))
  rw [show (upV (upV T ((p0).toNat) ((T ((p0).toNat)) + 1)) ((p0).toNat) ((T ((p0).toNat)) + 1)) = (upV T ((p0).toNat) ((T ((p0).toNat)) + 1)) from upV_upV] at h_14
  show W p l e R s m args below meth c H locs _ _ _ (F0 m 19 ls [.int (iN (z_12))])
  exact vx_ret (x_iret hC hw dX3_clear_19 (by first | decide | omega) (by first | decide | omega) ⟨z_12, rfl, ⟨by omega, by omega⟩, ⟨(by first | omega | trivial), (by first | omega | trivial)⟩, ((show z_12 = szx_3 by omega).trans (wh_mn (by omega) (by omega) hVx_3 (by omega))), (RG.mut hR.wg h_14 (by omega) hksu_11 (by omega) hcb (by omega) rfl)⟩)
set_option maxHeartbeats 4000000 in
set_option maxRecDepth 100000 in
theorem c_X3_get (l : Launch) (G : xG) {M : HM} (hst : l.stackTraces = false) {h0 bs vs : Nat} {og : Option Nat} {kk kv rf : Int32} {qb qk qv : Nat → Nat} {fb fv : Nat → Option Nat} {O : OW} {Wv : VW} {V : BW} {T C : Nat → Int} {K : WA} {N : Int} (hR : RGx G M h0 bs vs og kk kv rf qb qk qv fb fv O O Wv V T C K) (hcb : cbN N T C) (hN : N ≤ 590) {p0 : Int} (hp0 : -2147483648 ≤ p0 ∧ p0 ≤ 2147483647) {p1 : Int} (hp1 : -2147483648 ≤ p1 ∧ p1 ≤ 2147483647) : xMetX l G yX3_get wsX3_get 7 111 2 12 [.ref h0, .int (iN (p0)), .int (iN (p1))] M (fun r M1 => ∃ z : Int, r = some (.int (iN z)) ∧ (-2147483648 ≤ z ∧ z ≤ 2147483647) ∧ ((0 ≤ p0 ∧ p0 ≤ 2) ∧ (0 ≤ p1 ∧ p1 ≤ 99)) ∧ z = A_get (O, V, Wv, abK T C K, kk, kv, rf) p0 p1 ∧ RG G M1 h0 (N + 1) (O, V, Wv, abK T C K, kk, kv, rf)) (fun E M1 => ((E = xIO ∧ ¬ (0 ≤ p0 ∧ p0 ≤ 2)) ∨ (E = xIA ∧ (0 ≤ p0 ∧ p0 ≤ 2) ∧ ¬ (0 ≤ p1 ∧ p1 ≤ 99))) ∧ RG G M1 h0 (N + 1) (O, V, Wv, abK T C K, kk, kv, rf)) := by
  refine x_introX (cc := cX3_get) (maxL := 4) (ret := (some .int)) (by exact pln_RX3) rfl (Nat.le_of_ble_eq_true rfl) ?_
  intro p e R s m args below meth c ls hRf hRc hRs hRl htab hC hw hl
  have hl : lv_has ls 4 [(0, .ref h0), (1, .int (iN (p0))), (2, .int (iN (p1)))] := hl
  refine lv_aload_n hC.1 hC.2.1 dX3_get_0 rfl (lv_at hl 0 rfl) ?_
  refine lv_iload_n hC.1 hC.2.1 dX3_get_1 rfl (lv_at hl 1 rfl) ?_
  refine x_callVX hC hw (lv_size hl) (c_X3_bookAt l G hst hR hcb hN (p0 := p0) (by first | assumption | omega)) gX3_get_X3_bookAt rfl dv_X3_bookAt hR.1 rfl rfl (Nat.le_of_ble_eq_true rfl) (by rw [hRf]; decide) (by rw [hRl]; decide) (by first | (rw [hRc]; decide) | omega) (by first | (rw [hRs]; decide) | omega) dX3_get_2 (fun E ce q9 M_1 H locs hqx hw hcell hcv hcls => ?_) (fun r9 M_1 H locs hq hw => ?_)
  · rw [hqx.2] at hw
    obtain ⟨hE, hc9⟩ := hqx.1
    replace hqx := hqx.2
    subst hE
    exact x_outX hC hw htab hcell hcv hcls (by first | decide | omega) (by first | decide | omega) ⟨Or.inl ⟨rfl, (by first | exact hc9 | omega | trivial)⟩, (RG.of (N2 := N + 1) hR hcb (by omega) (by omega))⟩
  obtain ⟨rfl, hM9, hk_2, hk_2b⟩ := hq
  rw [hM9] at hw
  have hik_2 : (p0).toNat < 3 := by omega
  obtain ⟨szx_3, fkx_3, fwx_3, hBx_3, hVx_3⟩ := hR.bk hik_2
  obtain ⟨-, -, -, -, hsax_3, hsbx_3⟩ := id hBx_3
  have holx_3 := hR.ol hik_2
  have hctx_3 := hcb.2 _ hik_2
  show W p l e R s m args below meth c H locs _ _ _ (F0 m 5 ls [.ref (qb ((p0).toNat))])
  refine lv_astore_n (lv' := [(3, .ref (qb ((p0).toNat))), (0, .ref h0), (1, .int (iN (p0))), (2, .int (iN (p1)))]) hC.1 hC.2.1 dX3_get_5 rfl hl (by decide) rfl (fun ls hl => ?_)
  refine lv_iload_n hC.1 hC.2.1 dX3_get_6 rfl (lv_at hl 3 rfl) ?_
  refine x_callSX hC hw (lv_size hl) (c_X3_checkKey l G (M := M) hst (p0 := p1) (by first | assumption | omega)) gX3_get_X3_checkKey rfl dv_X3_checkKey_s rfl (Nat.le_of_ble_eq_true rfl) (by rw [hRf]; decide) (by rw [hRl]; decide) (by first | (rw [hRc]; decide) | omega) (by first | (rw [hRs]; decide) | omega) dX3_get_7 (fun E ce q9 M_4 H locs hqx hw hcell hcv hcls => ?_) (fun r9 M_4 H locs hq hw => ?_)
  · rw [hqx.2] at hw
    obtain ⟨hE, hc9⟩ := hqx.1
    replace hqx := hqx.2
    subst hE
    exact x_outX hC hw htab hcell hcv hcls (by first | decide | omega) (by first | decide | omega) ⟨Or.inr (⟨rfl, ⟨⟨(by first | omega | trivial), (by first | omega | trivial)⟩, (by first | exact hc9 | omega | trivial)⟩⟩), (RG.of (N2 := N + 1) hR hcb (by omega) (by omega))⟩
  obtain ⟨rfl, hM9, hk_5⟩ := hq
  rw [hM9] at hw
  show W p l e R s m args below meth c H locs _ _ _ (F0 m 10 ls [])
  refine lv_aload_n hC.1 hC.2.1 dX3_get_10 rfl (lv_at hl 0 rfl) ?_
  refine lv_iload_n hC.1 hC.2.1 dX3_get_11 rfl (lv_at hl 3 rfl) ?_
  refine x_callV hC hw (lv_size hl) (c_X0_valueOf l G hBx_3 (show (O ((p0).toNat)) < 3 by first | assumption | omega) hVx_3 (by first | assumption | omega) (by first | assumption | omega) (p0 := p1) (by first | assumption | omega)) gX3_get_X0_valueOf rfl dv_X0_valueOf hBx_3.1 rfl rfl (Nat.le_of_ble_eq_true rfl) (by rw [hRf]; decide) (by rw [hRl]; decide) (by first | (rw [hRc]; decide) | omega) (by first | (rw [hRs]; decide) | omega) dX3_get_12 (fun r9 M_6 H locs hq hw => ?_)
  obtain ⟨z_7, rfl, hM9, hz_7, hz_7v, hz_7n⟩ := hq
  rw [hM9] at hw
  show W p l e R s m args below meth c H locs _ _ _ (F0 m 15 ls [.int (iN (z_7))])
  exact vx_ret (x_iret hC hw dX3_get_15 (by first | decide | omega) (by first | decide | omega) ⟨z_7, rfl, ⟨by omega, by omega⟩, ⟨⟨(by first | omega | trivial), (by first | omega | trivial)⟩, ⟨(by first | omega | trivial), (by first | omega | trivial)⟩⟩, (show _ = V (p0).toNat (p1).toNat by omega), (RG.of (N2 := N + 1) hR hcb (by omega) (by omega))⟩)
set_option maxHeartbeats 4000000 in
set_option maxRecDepth 100000 in
theorem c_X3_getOr (l : Launch) (G : xG) {M : HM} (hst : l.stackTraces = false) {h0 bs vs : Nat} {og : Option Nat} {kk kv rf : Int32} {qb qk qv : Nat → Nat} {fb fv : Nat → Option Nat} {O : OW} {Wv : VW} {V : BW} {T C : Nat → Int} {K : WA} {N : Int} (hR : RGx G M h0 bs vs og kk kv rf qb qk qv fb fv O O Wv V T C K) (hcb : cbN N T C) (hN : N ≤ 590) {p0 : Int} (hp0 : -2147483648 ≤ p0 ∧ p0 ≤ 2147483647) {p1 : Int} (hp1 : -2147483648 ≤ p1 ∧ p1 ≤ 2147483647) {p2 : Int} (hp2 : -2147483648 ≤ p2 ∧ p2 ≤ 2147483647) : xMetX l G yX3_getOr wsX3_getOr 7 112 3 18 [.ref h0, .int (iN (p0)), .int (iN (p1)), .int (iN (p2))] M (fun r M1 => ∃ z : Int, r = some (.int (iN z)) ∧ (-2147483648 ≤ z ∧ z ≤ 2147483647) ∧ ((0 ≤ p0 ∧ p0 ≤ 2) ∧ ((0 ≤ p1 ∧ p1 ≤ 99) ∧ (-9999 ≤ p2 ∧ p2 ≤ 9999))) ∧ z = A_getOr (O, V, Wv, abK T C K, kk, kv, rf) p0 p1 p2 ∧ RG G M1 h0 (N + 1) (O, V, Wv, abK T C K, kk, kv, rf)) (fun E M1 => ((E = xIO ∧ ¬ (0 ≤ p0 ∧ p0 ≤ 2)) ∨ (E = xIA ∧ (0 ≤ p0 ∧ p0 ≤ 2) ∧ ¬ ((0 ≤ p1 ∧ p1 ≤ 99) ∧ (-9999 ≤ p2 ∧ p2 ≤ 9999)))) ∧ RG G M1 h0 (N + 1) (O, V, Wv, abK T C K, kk, kv, rf)) := by
  refine x_introX (cc := cX3_getOr) (maxL := 5) (ret := (some .int)) (by exact pln_RX3) rfl (Nat.le_of_ble_eq_true rfl) ?_
  intro p e R s m args below meth c ls hRf hRc hRs hRl htab hC hw hl
  have hl : lv_has ls 5 [(0, .ref h0), (1, .int (iN (p0))), (2, .int (iN (p1))), (3, .int (iN (p2)))] := hl
  refine lv_aload_n hC.1 hC.2.1 dX3_getOr_0 rfl (lv_at hl 0 rfl) ?_
  refine lv_iload_n hC.1 hC.2.1 dX3_getOr_1 rfl (lv_at hl 1 rfl) ?_
  refine x_callVX hC hw (lv_size hl) (c_X3_bookAt l G hst hR hcb hN (p0 := p0) (by first | assumption | omega)) gX3_getOr_X3_bookAt rfl dv_X3_bookAt hR.1 rfl rfl (Nat.le_of_ble_eq_true rfl) (by rw [hRf]; decide) (by rw [hRl]; decide) (by first | (rw [hRc]; decide) | omega) (by first | (rw [hRs]; decide) | omega) dX3_getOr_2 (fun E ce q9 M_1 H locs hqx hw hcell hcv hcls => ?_) (fun r9 M_1 H locs hq hw => ?_)
  · rw [hqx.2] at hw
    obtain ⟨hE, hc9⟩ := hqx.1
    replace hqx := hqx.2
    subst hE
    exact x_outX hC hw htab hcell hcv hcls (by first | decide | omega) (by first | decide | omega) ⟨Or.inl ⟨rfl, (by first | exact hc9 | omega | trivial)⟩, (RG.of (N2 := N + 1) hR hcb (by omega) (by omega))⟩
  obtain ⟨rfl, hM9, hk_2, hk_2b⟩ := hq
  rw [hM9] at hw
  have hik_2 : (p0).toNat < 3 := by omega
  obtain ⟨szx_3, fkx_3, fwx_3, hBx_3, hVx_3⟩ := hR.bk hik_2
  obtain ⟨-, -, -, -, hsax_3, hsbx_3⟩ := id hBx_3
  have holx_3 := hR.ol hik_2
  have hctx_3 := hcb.2 _ hik_2
  show W p l e R s m args below meth c H locs _ _ _ (F0 m 5 ls [.ref (qb ((p0).toNat))])
  refine lv_astore (lv' := [(4, .ref (qb ((p0).toNat))), (0, .ref h0), (1, .int (iN (p0))), (2, .int (iN (p1))), (3, .int (iN (p2)))]) hC.1 hC.2.1 dX3_getOr_5 hl (by decide) rfl (fun ls hl => ?_)
  refine lv_iload_n hC.1 hC.2.1 dX3_getOr_7 rfl (lv_at hl 3 rfl) ?_
  refine x_callSX hC hw (lv_size hl) (c_X3_checkKey l G (M := M) hst (p0 := p1) (by first | assumption | omega)) gX3_getOr_X3_checkKey rfl dv_X3_checkKey_s rfl (Nat.le_of_ble_eq_true rfl) (by rw [hRf]; decide) (by rw [hRl]; decide) (by first | (rw [hRc]; decide) | omega) (by first | (rw [hRs]; decide) | omega) dX3_getOr_8 (fun E ce q9 M_4 H locs hqx hw hcell hcv hcls => ?_) (fun r9 M_4 H locs hq hw => ?_)
  · rw [hqx.2] at hw
    obtain ⟨hE, hc9⟩ := hqx.1
    replace hqx := hqx.2
    subst hE
    exact x_outX hC hw htab hcell hcv hcls (by first | decide | omega) (by first | decide | omega) ⟨Or.inr (⟨rfl, ⟨⟨(by first | omega | trivial), (by first | omega | trivial)⟩, (by first | exact hc9 | omega | trivial)⟩⟩), (RG.of (N2 := N + 1) hR hcb (by omega) (by omega))⟩
  obtain ⟨rfl, hM9, hk_5⟩ := hq
  rw [hM9] at hw
  show W p l e R s m args below meth c H locs _ _ _ (F0 m 11 ls [])
  refine lv_iload_n hC.1 hC.2.1 dX3_getOr_11 rfl (lv_at hl 4 rfl) ?_
  refine x_callSX hC hw (lv_size hl) (c_X3_checkValue l G (M := M) hst (p0 := p2) (by first | assumption | omega)) gX3_getOr_X3_checkValue rfl dv_X3_checkValue_s rfl (Nat.le_of_ble_eq_true rfl) (by rw [hRf]; decide) (by rw [hRl]; decide) (by first | (rw [hRc]; decide) | omega) (by first | (rw [hRs]; decide) | omega) dX3_getOr_12 (fun E ce q9 M_6 H locs hqx hw hcell hcv hcls => ?_) (fun r9 M_6 H locs hq hw => ?_)
  · rw [hqx.2] at hw
    obtain ⟨hE, hc9⟩ := hqx.1
    replace hqx := hqx.2
    subst hE
    exact x_outX hC hw htab hcell hcv hcls (by first | decide | omega) (by first | decide | omega) ⟨Or.inr (⟨rfl, ⟨⟨(by first | omega | trivial), (by first | omega | trivial)⟩, (by first | exact hc9 | omega | trivial)⟩⟩), (RG.of (N2 := N + 1) hR hcb (by omega) (by omega))⟩
  obtain ⟨rfl, hM9, hk_7⟩ := hq
  rw [hM9] at hw
  show W p l e R s m args below meth c H locs _ _ _ (F0 m 15 ls [])
  refine lv_aload hC.1 hC.2.1 dX3_getOr_15 (lv_at hl 0 rfl) ?_
  refine lv_iload_n hC.1 hC.2.1 dX3_getOr_17 rfl (lv_at hl 3 rfl) ?_
  refine x_callV hC hw (lv_size hl) (c_X0_holds l G hBx_3 (show (O ((p0).toNat)) < 3 by first | assumption | omega) hVx_3 (by first | assumption | omega) (by first | assumption | omega) (p0 := p1) (by first | assumption | omega)) gX3_getOr_X0_holds rfl dv_X0_holds hBx_3.1 rfl rfl (Nat.le_of_ble_eq_true rfl) (by rw [hRf]; decide) (by rw [hRl]; decide) (by first | (rw [hRc]; decide) | omega) (by first | (rw [hRs]; decide) | omega) dX3_getOr_18 (fun r9 M_8 H locs hq hw => ?_)
  obtain ⟨z_9, rfl, hM9, hz_9, hz_9v⟩ := hq
  rw [hM9] at hw
  show W p l e R s m args below meth c H locs _ _ _ (F0 m 21 ls [.int (iN (z_9))])
  refine x_if_eq (tgt := 33) hC ⟨by omega, by omega⟩ dX3_getOr_21 (by decide) (fun c_10 => ?_) (fun c_10 => ?_)
  · refine lv_iload_n hC.1 hC.2.1 dX3_getOr_33 rfl (lv_at hl 4 rfl) ?_
    exact vx_ret (x_iret hC hw dX3_getOr_34 (by first | decide | omega) (by first | decide | omega) ⟨p2, rfl, ⟨by omega, by omega⟩, ⟨⟨(by first | omega | trivial), (by first | omega | trivial)⟩, ⟨⟨(by first | omega | trivial), (by first | omega | trivial)⟩, ⟨(by first | omega | trivial), (by first | omega | trivial)⟩⟩⟩, (show _ = (if V (p0).toNat (p1).toNat = -10000 then p2 else V (p0).toNat (p1).toNat) by omega), (RG.of (N2 := N + 1) hR hcb (by omega) (by omega))⟩)
  · refine lv_aload hC.1 hC.2.1 dX3_getOr_24 (lv_at hl 0 rfl) ?_
    refine lv_iload_n hC.1 hC.2.1 dX3_getOr_26 rfl (lv_at hl 3 rfl) ?_
    refine x_callV hC hw (lv_size hl) (c_X0_valueOf l G hBx_3 (show (O ((p0).toNat)) < 3 by first | assumption | omega) hVx_3 (by first | assumption | omega) (by first | assumption | omega) (p0 := p1) (by first | assumption | omega)) gX3_getOr_X0_valueOf rfl dv_X0_valueOf hBx_3.1 rfl rfl (Nat.le_of_ble_eq_true rfl) (by rw [hRf]; decide) (by rw [hRl]; decide) (by first | (rw [hRc]; decide) | omega) (by first | (rw [hRs]; decide) | omega) dX3_getOr_27 (fun r9 M_11 H locs hq hw => ?_)
    obtain ⟨z_12, rfl, hM9, hz_12, hz_12v, hz_12n⟩ := hq
    rw [hM9] at hw
    show W p l e R s m args below meth c H locs _ _ _ (F0 m 30 ls [.int (iN (z_12))])
    refine lv_goto (tgt := 34) hC.1 hC.2.1 dX3_getOr_30 (by decide) ?_
    exact vx_ret (x_iret hC hw dX3_getOr_34 (by first | decide | omega) (by first | decide | omega) ⟨z_12, rfl, ⟨by omega, by omega⟩, ⟨⟨(by first | omega | trivial), (by first | omega | trivial)⟩, ⟨⟨(by first | omega | trivial), (by first | omega | trivial)⟩, ⟨(by first | omega | trivial), (by first | omega | trivial)⟩⟩⟩, (show _ = (if V (p0).toNat (p1).toNat = -10000 then p2 else V (p0).toNat (p1).toNat) by omega), (RG.of (N2 := N + 1) hR hcb (by omega) (by omega))⟩)
set_option maxHeartbeats 4000000 in
set_option maxRecDepth 100000 in
theorem c_X3_has (l : Launch) (G : xG) {M : HM} (hst : l.stackTraces = false) {h0 bs vs : Nat} {og : Option Nat} {kk kv rf : Int32} {qb qk qv : Nat → Nat} {fb fv : Nat → Option Nat} {O : OW} {Wv : VW} {V : BW} {T C : Nat → Int} {K : WA} {N : Int} (hR : RGx G M h0 bs vs og kk kv rf qb qk qv fb fv O O Wv V T C K) (hcb : cbN N T C) (hN : N ≤ 590) {p0 : Int} (hp0 : -2147483648 ≤ p0 ∧ p0 ≤ 2147483647) {p1 : Int} (hp1 : -2147483648 ≤ p1 ∧ p1 ≤ 2147483647) : xMetX l G yX3_has wsX3_has 7 112 2 12 [.ref h0, .int (iN (p0)), .int (iN (p1))] M (fun r M1 => ∃ z : Int, r = some (.int (iN z)) ∧ (z = 0 ∨ z = 1) ∧ ((0 ≤ p0 ∧ p0 ≤ 2) ∧ (0 ≤ p1 ∧ p1 ≤ 99)) ∧ z = A_has (O, V, Wv, abK T C K, kk, kv, rf) p0 p1 ∧ RG G M1 h0 (N + 1) (O, V, Wv, abK T C K, kk, kv, rf)) (fun E M1 => ((E = xIO ∧ ¬ (0 ≤ p0 ∧ p0 ≤ 2)) ∨ (E = xIA ∧ (0 ≤ p0 ∧ p0 ≤ 2) ∧ ¬ (0 ≤ p1 ∧ p1 ≤ 99))) ∧ RG G M1 h0 (N + 1) (O, V, Wv, abK T C K, kk, kv, rf)) := by
  refine x_introX (cc := cX3_has) (maxL := 4) (ret := (some .boolean)) (by exact pln_RX3) rfl (Nat.le_of_ble_eq_true rfl) ?_
  intro p e R s m args below meth c ls hRf hRc hRs hRl htab hC hw hl
  have hl : lv_has ls 4 [(0, .ref h0), (1, .int (iN (p0))), (2, .int (iN (p1)))] := hl
  refine lv_aload_n hC.1 hC.2.1 dX3_has_0 rfl (lv_at hl 0 rfl) ?_
  refine lv_iload_n hC.1 hC.2.1 dX3_has_1 rfl (lv_at hl 1 rfl) ?_
  refine x_callVX hC hw (lv_size hl) (c_X3_bookAt l G hst hR hcb hN (p0 := p0) (by first | assumption | omega)) gX3_has_X3_bookAt rfl dv_X3_bookAt hR.1 rfl rfl (Nat.le_of_ble_eq_true rfl) (by rw [hRf]; decide) (by rw [hRl]; decide) (by first | (rw [hRc]; decide) | omega) (by first | (rw [hRs]; decide) | omega) dX3_has_2 (fun E ce q9 M_1 H locs hqx hw hcell hcv hcls => ?_) (fun r9 M_1 H locs hq hw => ?_)
  · rw [hqx.2] at hw
    obtain ⟨hE, hc9⟩ := hqx.1
    replace hqx := hqx.2
    subst hE
    exact x_outX hC hw htab hcell hcv hcls (by first | decide | omega) (by first | decide | omega) ⟨Or.inl ⟨rfl, (by first | exact hc9 | omega | trivial)⟩, (RG.of (N2 := N + 1) hR hcb (by omega) (by omega))⟩
  obtain ⟨rfl, hM9, hk_2, hk_2b⟩ := hq
  rw [hM9] at hw
  have hik_2 : (p0).toNat < 3 := by omega
  obtain ⟨szx_3, fkx_3, fwx_3, hBx_3, hVx_3⟩ := hR.bk hik_2
  obtain ⟨-, -, -, -, hsax_3, hsbx_3⟩ := id hBx_3
  have holx_3 := hR.ol hik_2
  have hctx_3 := hcb.2 _ hik_2
  show W p l e R s m args below meth c H locs _ _ _ (F0 m 5 ls [.ref (qb ((p0).toNat))])
  refine lv_astore_n (lv' := [(3, .ref (qb ((p0).toNat))), (0, .ref h0), (1, .int (iN (p0))), (2, .int (iN (p1)))]) hC.1 hC.2.1 dX3_has_5 rfl hl (by decide) rfl (fun ls hl => ?_)
  refine lv_iload_n hC.1 hC.2.1 dX3_has_6 rfl (lv_at hl 3 rfl) ?_
  refine x_callSX hC hw (lv_size hl) (c_X3_checkKey l G (M := M) hst (p0 := p1) (by first | assumption | omega)) gX3_has_X3_checkKey rfl dv_X3_checkKey_s rfl (Nat.le_of_ble_eq_true rfl) (by rw [hRf]; decide) (by rw [hRl]; decide) (by first | (rw [hRc]; decide) | omega) (by first | (rw [hRs]; decide) | omega) dX3_has_7 (fun E ce q9 M_4 H locs hqx hw hcell hcv hcls => ?_) (fun r9 M_4 H locs hq hw => ?_)
  · rw [hqx.2] at hw
    obtain ⟨hE, hc9⟩ := hqx.1
    replace hqx := hqx.2
    subst hE
    exact x_outX hC hw htab hcell hcv hcls (by first | decide | omega) (by first | decide | omega) ⟨Or.inr (⟨rfl, ⟨⟨(by first | omega | trivial), (by first | omega | trivial)⟩, (by first | exact hc9 | omega | trivial)⟩⟩), (RG.of (N2 := N + 1) hR hcb (by omega) (by omega))⟩
  obtain ⟨rfl, hM9, hk_5⟩ := hq
  rw [hM9] at hw
  show W p l e R s m args below meth c H locs _ _ _ (F0 m 10 ls [])
  refine lv_aload_n hC.1 hC.2.1 dX3_has_10 rfl (lv_at hl 0 rfl) ?_
  refine lv_iload_n hC.1 hC.2.1 dX3_has_11 rfl (lv_at hl 3 rfl) ?_
  refine x_callV hC hw (lv_size hl) (c_X0_holds l G hBx_3 (show (O ((p0).toNat)) < 3 by first | assumption | omega) hVx_3 (by first | assumption | omega) (by first | assumption | omega) (p0 := p1) (by first | assumption | omega)) gX3_has_X0_holds rfl dv_X0_holds hBx_3.1 rfl rfl (Nat.le_of_ble_eq_true rfl) (by rw [hRf]; decide) (by rw [hRl]; decide) (by first | (rw [hRc]; decide) | omega) (by first | (rw [hRs]; decide) | omega) dX3_has_12 (fun r9 M_6 H locs hq hw => ?_)
  obtain ⟨z_7, rfl, hM9, hz_7, hz_7v⟩ := hq
  rw [hM9] at hw
  show W p l e R s m args below meth c H locs _ _ _ (F0 m 15 ls [.int (iN (z_7))])
  exact vx_ret (x_zret hC hw (by omega) dX3_has_15 (by first | decide | omega) (by first | decide | omega) ⟨z_7, rfl, by omega, ⟨⟨(by first | omega | trivial), (by first | omega | trivial)⟩, ⟨(by first | omega | trivial), (by first | omega | trivial)⟩⟩, (show _ = (if V (p0).toNat (p1).toNat = -10000 then 0 else 1) by omega), (RG.of (N2 := N + 1) hR hcb (by omega) (by omega))⟩)
set_option maxHeartbeats 4000000 in
set_option maxRecDepth 100000 in
theorem c_X3_hasValue (l : Launch) (G : xG) {M : HM} (hst : l.stackTraces = false) {h0 bs vs : Nat} {og : Option Nat} {kk kv rf : Int32} {qb qk qv : Nat → Nat} {fb fv : Nat → Option Nat} {O : OW} {Wv : VW} {V : BW} {T C : Nat → Int} {K : WA} {N : Int} (hR : RGx G M h0 bs vs og kk kv rf qb qk qv fb fv O O Wv V T C K) (hcb : cbN N T C) (hN : N ≤ 590) {p0 : Int} (hp0 : -2147483648 ≤ p0 ∧ p0 ≤ 2147483647) {p1 : Int} (hp1 : -2147483648 ≤ p1 ∧ p1 ≤ 2147483647) : xMetX l G yX3_hasValue wsX3_hasValue 7 111 2 12 [.ref h0, .int (iN (p0)), .int (iN (p1))] M (fun r M1 => ∃ z : Int, r = some (.int (iN z)) ∧ (z = 0 ∨ z = 1) ∧ ((0 ≤ p0 ∧ p0 ≤ 2) ∧ (-9999 ≤ p1 ∧ p1 ≤ 9999)) ∧ z = A_hasValue (O, V, Wv, abK T C K, kk, kv, rf) p0 p1 ∧ RG G M1 h0 (N + 1) (O, V, Wv, abK T C K, kk, kv, rf)) (fun E M1 => ((E = xIO ∧ ¬ (0 ≤ p0 ∧ p0 ≤ 2)) ∨ (E = xIA ∧ (0 ≤ p0 ∧ p0 ≤ 2) ∧ ¬ (-9999 ≤ p1 ∧ p1 ≤ 9999))) ∧ RG G M1 h0 (N + 1) (O, V, Wv, abK T C K, kk, kv, rf)) := by
  refine x_introX (cc := cX3_hasValue) (maxL := 4) (ret := (some .boolean)) (by exact pln_RX3) rfl (Nat.le_of_ble_eq_true rfl) ?_
  intro p e R s m args below meth c ls hRf hRc hRs hRl htab hC hw hl
  have hl : lv_has ls 4 [(0, .ref h0), (1, .int (iN (p0))), (2, .int (iN (p1)))] := hl
  refine lv_aload_n hC.1 hC.2.1 dX3_hasValue_0 rfl (lv_at hl 0 rfl) ?_
  refine lv_iload_n hC.1 hC.2.1 dX3_hasValue_1 rfl (lv_at hl 1 rfl) ?_
  refine x_callVX hC hw (lv_size hl) (c_X3_bookAt l G hst hR hcb hN (p0 := p0) (by first | assumption | omega)) gX3_hasValue_X3_bookAt rfl dv_X3_bookAt hR.1 rfl rfl (Nat.le_of_ble_eq_true rfl) (by rw [hRf]; decide) (by rw [hRl]; decide) (by first | (rw [hRc]; decide) | omega) (by first | (rw [hRs]; decide) | omega) dX3_hasValue_2 (fun E ce q9 M_1 H locs hqx hw hcell hcv hcls => ?_) (fun r9 M_1 H locs hq hw => ?_)
  · rw [hqx.2] at hw
    obtain ⟨hE, hc9⟩ := hqx.1
    replace hqx := hqx.2
    subst hE
    exact x_outX hC hw htab hcell hcv hcls (by first | decide | omega) (by first | decide | omega) ⟨Or.inl ⟨rfl, (by first | exact hc9 | omega | trivial)⟩, (RG.of (N2 := N + 1) hR hcb (by omega) (by omega))⟩
  obtain ⟨rfl, hM9, hk_2, hk_2b⟩ := hq
  rw [hM9] at hw
  have hik_2 : (p0).toNat < 3 := by omega
  obtain ⟨szx_3, fkx_3, fwx_3, hBx_3, hVx_3⟩ := hR.bk hik_2
  obtain ⟨-, -, -, -, hsax_3, hsbx_3⟩ := id hBx_3
  have holx_3 := hR.ol hik_2
  have hctx_3 := hcb.2 _ hik_2
  show W p l e R s m args below meth c H locs _ _ _ (F0 m 5 ls [.ref (qb ((p0).toNat))])
  refine lv_astore_n (lv' := [(3, .ref (qb ((p0).toNat))), (0, .ref h0), (1, .int (iN (p0))), (2, .int (iN (p1)))]) hC.1 hC.2.1 dX3_hasValue_5 rfl hl (by decide) rfl (fun ls hl => ?_)
  refine lv_iload_n hC.1 hC.2.1 dX3_hasValue_6 rfl (lv_at hl 3 rfl) ?_
  refine x_callSX hC hw (lv_size hl) (c_X3_checkValue l G (M := M) hst (p0 := p1) (by first | assumption | omega)) gX3_hasValue_X3_checkValue rfl dv_X3_checkValue_s rfl (Nat.le_of_ble_eq_true rfl) (by rw [hRf]; decide) (by rw [hRl]; decide) (by first | (rw [hRc]; decide) | omega) (by first | (rw [hRs]; decide) | omega) dX3_hasValue_7 (fun E ce q9 M_4 H locs hqx hw hcell hcv hcls => ?_) (fun r9 M_4 H locs hq hw => ?_)
  · rw [hqx.2] at hw
    obtain ⟨hE, hc9⟩ := hqx.1
    replace hqx := hqx.2
    subst hE
    exact x_outX hC hw htab hcell hcv hcls (by first | decide | omega) (by first | decide | omega) ⟨Or.inr (⟨rfl, ⟨⟨(by first | omega | trivial), (by first | omega | trivial)⟩, (by first | exact hc9 | omega | trivial)⟩⟩), (RG.of (N2 := N + 1) hR hcb (by omega) (by omega))⟩
  obtain ⟨rfl, hM9, hk_5⟩ := hq
  rw [hM9] at hw
  show W p l e R s m args below meth c H locs _ _ _ (F0 m 10 ls [])
  refine lv_aload_n hC.1 hC.2.1 dX3_hasValue_10 rfl (lv_at hl 0 rfl) ?_
  refine lv_iload_n hC.1 hC.2.1 dX3_hasValue_11 rfl (lv_at hl 3 rfl) ?_
  refine x_callV hC hw (lv_size hl) (c_X0_firstPlaceOfValue l G hBx_3 (show (O ((p0).toNat)) < 3 by first | assumption | omega) hVx_3 (by first | assumption | omega) (by first | assumption | omega) (p0 := p1) (by first | assumption | omega)) gX3_hasValue_X0_firstPlaceOfValue rfl dv_X0_firstPlaceOfValue hBx_3.1 rfl rfl (Nat.le_of_ble_eq_true rfl) (by rw [hRf]; decide) (by rw [hRl]; decide) (by first | (rw [hRc]; decide) | omega) (by first | (rw [hRs]; decide) | omega) dX3_hasValue_12 (fun r9 M_6 H locs hq hw => ?_)
  obtain ⟨z_7, rfl, hM9, hz_7, hz_7f⟩ := hq
  rw [hM9] at hw
  show W p l e R s m args below meth c H locs _ _ _ (F0 m 15 ls [.int (iN (z_7))])
  refine x_sipush hC dX3_hasValue_15 (by decide +kernel) ?_
  refine x_icmp_eq (tgt := 25) hC ⟨by omega, by omega⟩ ⟨by omega, by omega⟩ dX3_hasValue_18 (by decide) (fun c_8 => ?_) (fun c_8 => ?_)
  · refine x_const hC dX3_hasValue_25 ?_
    exact vx_ret (x_zret hC hw (by omega) dX3_hasValue_26 (by first | decide | omega) (by first | decide | omega) ⟨0, rfl, by omega, ⟨⟨(by first | omega | trivial), (by first | omega | trivial)⟩, ⟨(by first | omega | trivial), (by first | omega | trivial)⟩⟩, (by have e9 := cvP_N hVx_3 (show p1 ≠ -10000 by omega); rcases hz_7f with ⟨e1, e2⟩ | ⟨e1, e2, -⟩; (· have e3 := cvP_no (fv := fwx_3) (n := (szx_3).toNat) (v := p1) (fun q9 hq9 => e2 q9 (by omega)); show _ = (if cvN (V (p0).toNat) p1 100 = 0 then 0 else 1); omega); (· have e3 := cvP_at (fv := fwx_3) (n := (szx_3).toNat) (v := p1) (show (z_7).toNat < (szx_3).toNat by omega) e2; show _ = (if cvN (V (p0).toNat) p1 100 = 0 then 0 else 1); omega)), (RG.of (N2 := N + 1) hR hcb (by omega) (by omega))⟩)
  · refine x_const hC dX3_hasValue_21 ?_
    refine lv_goto (tgt := 26) hC.1 hC.2.1 dX3_hasValue_22 (by decide) ?_
    exact vx_ret (x_zret hC hw (by omega) dX3_hasValue_26 (by first | decide | omega) (by first | decide | omega) ⟨1, rfl, by omega, ⟨⟨(by first | omega | trivial), (by first | omega | trivial)⟩, ⟨(by first | omega | trivial), (by first | omega | trivial)⟩⟩, (by have e9 := cvP_N hVx_3 (show p1 ≠ -10000 by omega); rcases hz_7f with ⟨e1, e2⟩ | ⟨e1, e2, -⟩; (· have e3 := cvP_no (fv := fwx_3) (n := (szx_3).toNat) (v := p1) (fun q9 hq9 => e2 q9 (by omega)); show _ = (if cvN (V (p0).toNat) p1 100 = 0 then 0 else 1); omega); (· have e3 := cvP_at (fv := fwx_3) (n := (szx_3).toNat) (v := p1) (show (z_7).toNat < (szx_3).toNat by omega) e2; show _ = (if cvN (V (p0).toNat) p1 100 = 0 then 0 else 1); omega)), (RG.of (N2 := N + 1) hR hcb (by omega) (by omega))⟩)
set_option maxHeartbeats 4000000 in
set_option maxRecDepth 100000 in
theorem c_X3_place (l : Launch) (G : xG) {M : HM} (hst : l.stackTraces = false) {h0 bs vs : Nat} {og : Option Nat} {kk kv rf : Int32} {qb qk qv : Nat → Nat} {fb fv : Nat → Option Nat} {O : OW} {Wv : VW} {V : BW} {T C : Nat → Int} {K : WA} {N : Int} (hR : RGx G M h0 bs vs og kk kv rf qb qk qv fb fv O O Wv V T C K) (hcb : cbN N T C) (hN : N ≤ 590) {p0 : Int} (hp0 : -2147483648 ≤ p0 ∧ p0 ≤ 2147483647) {p1 : Int} (hp1 : -2147483648 ≤ p1 ∧ p1 ≤ 2147483647) : xMetX l G yX3_place wsX3_place 7 111 2 12 [.ref h0, .int (iN (p0)), .int (iN (p1))] M (fun r M1 => ∃ z : Int, r = some (.int (iN z)) ∧ (-2147483648 ≤ z ∧ z ≤ 2147483647) ∧ ((0 ≤ p0 ∧ p0 ≤ 2) ∧ (0 ≤ p1 ∧ p1 ≤ 99)) ∧ z = A_place (O, V, Wv, abK T C K, kk, kv, rf) p0 p1 ∧ RG G M1 h0 (N + 1) (O, V, Wv, abK T C K, kk, kv, rf)) (fun E M1 => ((E = xIO ∧ ¬ (0 ≤ p0 ∧ p0 ≤ 2)) ∨ (E = xIA ∧ (0 ≤ p0 ∧ p0 ≤ 2) ∧ ¬ (0 ≤ p1 ∧ p1 ≤ 99))) ∧ RG G M1 h0 (N + 1) (O, V, Wv, abK T C K, kk, kv, rf)) := by
  refine x_introX (cc := cX3_place) (maxL := 4) (ret := (some .int)) (by exact pln_RX3) rfl (Nat.le_of_ble_eq_true rfl) ?_
  intro p e R s m args below meth c ls hRf hRc hRs hRl htab hC hw hl
  have hl : lv_has ls 4 [(0, .ref h0), (1, .int (iN (p0))), (2, .int (iN (p1)))] := hl
  refine lv_aload_n hC.1 hC.2.1 dX3_place_0 rfl (lv_at hl 0 rfl) ?_
  refine lv_iload_n hC.1 hC.2.1 dX3_place_1 rfl (lv_at hl 1 rfl) ?_
  refine x_callVX hC hw (lv_size hl) (c_X3_bookAt l G hst hR hcb hN (p0 := p0) (by first | assumption | omega)) gX3_place_X3_bookAt rfl dv_X3_bookAt hR.1 rfl rfl (Nat.le_of_ble_eq_true rfl) (by rw [hRf]; decide) (by rw [hRl]; decide) (by first | (rw [hRc]; decide) | omega) (by first | (rw [hRs]; decide) | omega) dX3_place_2 (fun E ce q9 M_1 H locs hqx hw hcell hcv hcls => ?_) (fun r9 M_1 H locs hq hw => ?_)
  · rw [hqx.2] at hw
    obtain ⟨hE, hc9⟩ := hqx.1
    replace hqx := hqx.2
    subst hE
    exact x_outX hC hw htab hcell hcv hcls (by first | decide | omega) (by first | decide | omega) ⟨Or.inl ⟨rfl, (by first | exact hc9 | omega | trivial)⟩, (RG.of (N2 := N + 1) hR hcb (by omega) (by omega))⟩
  obtain ⟨rfl, hM9, hk_2, hk_2b⟩ := hq
  rw [hM9] at hw
  have hik_2 : (p0).toNat < 3 := by omega
  obtain ⟨szx_3, fkx_3, fwx_3, hBx_3, hVx_3⟩ := hR.bk hik_2
  obtain ⟨-, -, -, -, hsax_3, hsbx_3⟩ := id hBx_3
  have holx_3 := hR.ol hik_2
  have hctx_3 := hcb.2 _ hik_2
  show W p l e R s m args below meth c H locs _ _ _ (F0 m 5 ls [.ref (qb ((p0).toNat))])
  refine lv_astore_n (lv' := [(3, .ref (qb ((p0).toNat))), (0, .ref h0), (1, .int (iN (p0))), (2, .int (iN (p1)))]) hC.1 hC.2.1 dX3_place_5 rfl hl (by decide) rfl (fun ls hl => ?_)
  refine lv_iload_n hC.1 hC.2.1 dX3_place_6 rfl (lv_at hl 3 rfl) ?_
  refine x_callSX hC hw (lv_size hl) (c_X3_checkKey l G (M := M) hst (p0 := p1) (by first | assumption | omega)) gX3_place_X3_checkKey rfl dv_X3_checkKey_s rfl (Nat.le_of_ble_eq_true rfl) (by rw [hRf]; decide) (by rw [hRl]; decide) (by first | (rw [hRc]; decide) | omega) (by first | (rw [hRs]; decide) | omega) dX3_place_7 (fun E ce q9 M_4 H locs hqx hw hcell hcv hcls => ?_) (fun r9 M_4 H locs hq hw => ?_)
  · rw [hqx.2] at hw
    obtain ⟨hE, hc9⟩ := hqx.1
    replace hqx := hqx.2
    subst hE
    exact x_outX hC hw htab hcell hcv hcls (by first | decide | omega) (by first | decide | omega) ⟨Or.inr (⟨rfl, ⟨⟨(by first | omega | trivial), (by first | omega | trivial)⟩, (by first | exact hc9 | omega | trivial)⟩⟩), (RG.of (N2 := N + 1) hR hcb (by omega) (by omega))⟩
  obtain ⟨rfl, hM9, hk_5⟩ := hq
  rw [hM9] at hw
  show W p l e R s m args below meth c H locs _ _ _ (F0 m 10 ls [])
  refine lv_aload_n hC.1 hC.2.1 dX3_place_10 rfl (lv_at hl 0 rfl) ?_
  refine lv_iload_n hC.1 hC.2.1 dX3_place_11 rfl (lv_at hl 3 rfl) ?_
  refine x_callV hC hw (lv_size hl) (c_X0_placeOf l G hBx_3 (show (O ((p0).toNat)) < 3 by first | assumption | omega) hVx_3 (by first | assumption | omega) (by first | assumption | omega) (p0 := p1) (by first | assumption | omega)) gX3_place_X0_placeOf rfl dv_X0_placeOf hBx_3.1 rfl rfl (Nat.le_of_ble_eq_true rfl) (by rw [hRf]; decide) (by rw [hRl]; decide) (by first | (rw [hRc]; decide) | omega) (by first | (rw [hRs]; decide) | omega) dX3_place_12 (fun r9 M_6 H locs hq hw => ?_)
  obtain ⟨z_7, rfl, hM9, hz_7a, hz_7b, hz_7p, hz_7v⟩ := hq
  rw [hM9] at hw
  show W p l e R s m args below meth c H locs _ _ _ (F0 m 15 ls [.int (iN (z_7))])
  exact vx_ret (x_iret hC hw dX3_place_15 (by first | decide | omega) (by first | decide | omega) ⟨z_7, rfl, ⟨by omega, by omega⟩, ⟨⟨(by first | omega | trivial), (by first | omega | trivial)⟩, ⟨(by first | omega | trivial), (by first | omega | trivial)⟩⟩, (ah_pl (by omega) hVx_3 (show (p1).toNat < 100 from tn_lt (by omega) (by decide)) (by omega) (hz_7p (by omega))), (RG.of (N2 := N + 1) hR hcb (by omega) (by omega))⟩)
set_option maxHeartbeats 4000000 in
set_option maxRecDepth 100000 in
theorem c_X3_at (l : Launch) (G : xG) {M : HM} (hst : l.stackTraces = false) {h0 bs vs : Nat} {og : Option Nat} {kk kv rf : Int32} {qb qk qv : Nat → Nat} {fb fv : Nat → Option Nat} {O : OW} {Wv : VW} {V : BW} {T C : Nat → Int} {K : WA} {N : Int} (hR : RGx G M h0 bs vs og kk kv rf qb qk qv fb fv O O Wv V T C K) (hcb : cbN N T C) (hN : N ≤ 590) {p0 : Int} (hp0 : -2147483648 ≤ p0 ∧ p0 ≤ 2147483647) {p1 : Int} (hp1 : -2147483648 ≤ p1 ∧ p1 ≤ 2147483647) : xMetX l G yX3_at wsX3_at 7 111 2 12 [.ref h0, .int (iN (p0)), .int (iN (p1))] M (fun r M1 => ∃ z : Int, r = some (.int (iN z)) ∧ (-2147483648 ≤ z ∧ z ≤ 2147483647) ∧ ((0 ≤ p0 ∧ p0 ≤ 2) ∧ (0 ≤ p1)) ∧ atQ O V p0.toNat p1 z ∧ RG G M1 h0 (N + 1) (O, V, Wv, abK T C K, kk, kv, rf)) (fun E M1 => ((E = xIO ∧ ¬ (0 ≤ p0 ∧ p0 ≤ 2)) ∨ (E = xIA ∧ (0 ≤ p0 ∧ p0 ≤ 2) ∧ ¬ (0 ≤ p1))) ∧ RG G M1 h0 (N + 1) (O, V, Wv, abK T C K, kk, kv, rf)) := by
  refine x_introX (cc := cX3_at) (maxL := 4) (ret := (some .int)) (by exact pln_RX3) rfl (Nat.le_of_ble_eq_true rfl) ?_
  intro p e R s m args below meth c ls hRf hRc hRs hRl htab hC hw hl
  have hl : lv_has ls 4 [(0, .ref h0), (1, .int (iN (p0))), (2, .int (iN (p1)))] := hl
  refine lv_aload_n hC.1 hC.2.1 dX3_at_0 rfl (lv_at hl 0 rfl) ?_
  refine lv_iload_n hC.1 hC.2.1 dX3_at_1 rfl (lv_at hl 1 rfl) ?_
  refine x_callVX hC hw (lv_size hl) (c_X3_bookAt l G hst hR hcb hN (p0 := p0) (by first | assumption | omega)) gX3_at_X3_bookAt rfl dv_X3_bookAt hR.1 rfl rfl (Nat.le_of_ble_eq_true rfl) (by rw [hRf]; decide) (by rw [hRl]; decide) (by first | (rw [hRc]; decide) | omega) (by first | (rw [hRs]; decide) | omega) dX3_at_2 (fun E ce q9 M_1 H locs hqx hw hcell hcv hcls => ?_) (fun r9 M_1 H locs hq hw => ?_)
  · rw [hqx.2] at hw
    obtain ⟨hE, hc9⟩ := hqx.1
    replace hqx := hqx.2
    subst hE
    exact x_outX hC hw htab hcell hcv hcls (by first | decide | omega) (by first | decide | omega) ⟨Or.inl ⟨rfl, (by first | exact hc9 | omega | trivial)⟩, (RG.of (N2 := N + 1) hR hcb (by omega) (by omega))⟩
  obtain ⟨rfl, hM9, hk_2, hk_2b⟩ := hq
  rw [hM9] at hw
  have hik_2 : (p0).toNat < 3 := by omega
  obtain ⟨szx_3, fkx_3, fwx_3, hBx_3, hVx_3⟩ := hR.bk hik_2
  obtain ⟨-, -, -, -, hsax_3, hsbx_3⟩ := id hBx_3
  have holx_3 := hR.ol hik_2
  have hctx_3 := hcb.2 _ hik_2
  show W p l e R s m args below meth c H locs _ _ _ (F0 m 5 ls [.ref (qb ((p0).toNat))])
  refine lv_astore_n (lv' := [(3, .ref (qb ((p0).toNat))), (0, .ref h0), (1, .int (iN (p0))), (2, .int (iN (p1)))]) hC.1 hC.2.1 dX3_at_5 rfl hl (by decide) rfl (fun ls hl => ?_)
  refine lv_iload_n hC.1 hC.2.1 dX3_at_6 rfl (lv_at hl 3 rfl) ?_
  refine x_if_ge (tgt := 20) hC ⟨by omega, by omega⟩ dX3_at_7 (by decide) (fun c_4 => ?_) (fun c_4 => ?_)
  · refine lv_aload_n hC.1 hC.2.1 dX3_at_20 rfl (lv_at hl 0 rfl) ?_
    refine lv_iload_n hC.1 hC.2.1 dX3_at_21 rfl (lv_at hl 3 rfl) ?_
    refine x_callV hC hw (lv_size hl) (c_X0_keyAt l G hBx_3 (show (O ((p0).toNat)) < 3 by first | assumption | omega) hVx_3 (by first | assumption | omega) (by first | assumption | omega) (p0 := p1) (by first | assumption | omega)) gX3_at_X0_keyAt rfl dv_X0_keyAt hBx_3.1 rfl rfl (Nat.le_of_ble_eq_true rfl) (by rw [hRf]; decide) (by rw [hRl]; decide) (by first | (rw [hRc]; decide) | omega) (by first | (rw [hRs]; decide) | omega) dX3_at_22 (fun r9 M_5 H locs hq hw => ?_)
    obtain ⟨z_6, rfl, hM9, hz_6, hz_6b, hz_6k⟩ := hq
    rw [hM9] at hw
    show W p l e R s m args below meth c H locs _ _ _ (F0 m 25 ls [.int (iN (z_6))])
    exact vx_ret (x_iret hC hw dX3_at_25 (by first | decide | omega) (by first | decide | omega) ⟨z_6, rfl, ⟨by omega, by omega⟩, ⟨⟨(by first | omega | trivial), (by first | omega | trivial)⟩, (by first | omega | trivial)⟩, (at_Q (by omega) hVx_3 (by first | assumption | omega) (by first | assumption | omega)), (RG.of (N2 := N + 1) hR hcb (by omega) (by omega))⟩)
  · exact x_throwS (cls := "java/lang/IllegalArgumentException") (text := "place is below 0") (names := ["java/lang/RuntimeException", "java/lang/Exception"]) hC hw hst htab (lv_size hl) tw_f0 tw_nm (List.mem_cons_of_mem _ (List.mem_append_left _ (List.mem_append_left _ (List.mem_append_left _ (List.mem_append_left _ (List.mem_of_getElem? (i := 0) rfl)))))) (List.mem_cons_of_mem _ (List.mem_append_left _ (List.mem_append_left _ (List.mem_append_left _ (List.mem_append_left _ (List.mem_of_getElem? (i := 1) rfl)))))) (fun w h => (List.mem_cons_of_mem _ (List.mem_append_left _ (List.mem_append_right _ h)))) tw_k40 tw_k50 (xlit_Rangeledger_232) tw_ca0 dX3_at_10 dX3_at_13 dX3_at_14 dX3_at_16 dX3_at_19 (by rw [hRf]; decide) (by rw [hRl]; exact Nat.le_of_ble_eq_true rfl) (by first | (rw [hRc]; decide) | omega) (by first | (rw [hRs]; decide) | omega) (by omega) (by omega) ⟨Or.inr (⟨rfl, ⟨⟨(by first | omega | trivial), (by first | omega | trivial)⟩, (by first | exact hc9 | omega | trivial)⟩⟩), (RG.of (N2 := N + 1) hR hcb (by omega) (by omega))⟩
set_option maxHeartbeats 4000000 in
set_option maxRecDepth 100000 in
theorem c_X3_keep (l : Launch) (G : xG) {M : HM} (hst : l.stackTraces = false) {h0 bs vs : Nat} {og : Option Nat} {kk kv rf : Int32} {qb qk qv : Nat → Nat} {fb fv : Nat → Option Nat} {O : OW} {Wv : VW} {V : BW} {T C : Nat → Int} {K : WA} {N : Int} (hR : RGx G M h0 bs vs og kk kv rf qb qk qv fb fv O O Wv V T C K) (hcb : cbN N T C) (hN : N ≤ 590) {p0 : Int} (hp0 : -2147483648 ≤ p0 ∧ p0 ≤ 2147483647) {p1 : Int} (hp1 : -2147483648 ≤ p1 ∧ p1 ≤ 2147483647) (hb1 : p1 = 0 ∨ p1 = 1) : xMetX l G yX3_keep wsX3_keep 7 111 1 6 [.ref h0, .int (iN (p0)), .int (iN (p1))] M (fun r M1 => ∃ z : Int, r = some (.int (iN z)) ∧ (-2147483648 ≤ z ∧ z ≤ 2147483647) ∧ ((0 ≤ p0 ∧ p0 ≤ 2)) ∧ z = A_keep (O, V, Wv, abK T C K, kk, kv, rf) p0 p1 ∧ RG G M1 h0 (N + 1) (S_keep (O, V, Wv, abK T C K, kk, kv, rf) p0 p1)) (fun E M1 => ((E = xIO ∧ ¬ (0 ≤ p0 ∧ p0 ≤ 2))) ∧ RG G M1 h0 (N + 1) (O, V, Wv, abK T C K, kk, kv, rf)) := by
  refine x_introX (cc := cX3_keep) (maxL := 5) (ret := (some .int)) (by exact pln_RX3) rfl (Nat.le_of_ble_eq_true rfl) ?_
  intro p e R s m args below meth c ls hRf hRc hRs hRl htab hC hw hl
  have hinX3 : ∀ w ∈ wsX30, w ∈ wsX3_keep := fun w h => (List.mem_cons_of_mem _ (List.mem_append_left _ (List.mem_append_left _ (List.mem_append_right _ h))))
  have hl : lv_has ls 5 [(0, .ref h0), (1, .int (iN (p0))), (2, .int (iN (p1)))] := hl
  refine lv_aload_n hC.1 hC.2.1 dX3_keep_0 rfl (lv_at hl 0 rfl) ?_
  refine lv_iload_n hC.1 hC.2.1 dX3_keep_1 rfl (lv_at hl 1 rfl) ?_
  refine x_callVX hC hw (lv_size hl) (c_X3_bookAt l G hst hR hcb hN (p0 := p0) (by first | assumption | omega)) gX3_keep_X3_bookAt rfl dv_X3_bookAt hR.1 rfl rfl (Nat.le_of_ble_eq_true rfl) (by rw [hRf]; decide) (by rw [hRl]; decide) (by first | (rw [hRc]; decide) | omega) (by first | (rw [hRs]; decide) | omega) dX3_keep_2 (fun E ce q9 M_1 H locs hqx hw hcell hcv hcls => ?_) (fun r9 M_1 H locs hq hw => ?_)
  · rw [hqx.2] at hw
    obtain ⟨hE, hc9⟩ := hqx.1
    replace hqx := hqx.2
    subst hE
    exact x_outX hC hw htab hcell hcv hcls (by first | decide | omega) (by first | decide | omega) ⟨⟨rfl, (by first | exact hc9 | omega | trivial)⟩, (RG.of (N2 := N + 1) hR hcb (by omega) (by omega))⟩
  obtain ⟨rfl, hM9, hk_2, hk_2b⟩ := hq
  rw [hM9] at hw
  have hik_2 : (p0).toNat < 3 := by omega
  obtain ⟨szx_3, fkx_3, fwx_3, hBx_3, hVx_3⟩ := hR.bk hik_2
  obtain ⟨-, -, -, -, hsax_3, hsbx_3⟩ := id hBx_3
  have holx_3 := hR.ol hik_2
  have hctx_3 := hcb.2 _ hik_2
  show W p l e R s m args below meth c H locs _ _ _ (F0 m 5 ls [.ref (qb ((p0).toNat))])
  refine lv_astore_n (lv' := [(3, .ref (qb ((p0).toNat))), (0, .ref h0), (1, .int (iN (p0))), (2, .int (iN (p1)))]) hC.1 hC.2.1 dX3_keep_5 rfl hl (by decide) rfl (fun ls hl => ?_)
  refine lv_aload_n hC.1 hC.2.1 dX3_keep_6 rfl (lv_at hl 0 rfl) ?_
  refine x_callV hC hw (lv_size hl) (c_X0_size l G hBx_3 (show (O ((p0).toNat)) < 3 by first | assumption | omega) hVx_3 (by first | assumption | omega) (by first | assumption | omega)) gX3_keep_X0_size rfl dv_X0_size hBx_3.1 rfl rfl (Nat.le_of_ble_eq_true rfl) (by rw [hRf]; decide) (by rw [hRl]; decide) (by first | (rw [hRc]; decide) | omega) (by first | (rw [hRs]; decide) | omega) dX3_keep_7 (fun r9 M_4 H locs hq hw => ?_)
  obtain ⟨rfl, hM9⟩ := hq
  rw [hM9] at hw
  show W p l e R s m args below meth c H locs _ _ _ (F0 m 10 ls [.int (iN (szx_3))])
  refine x_if_ne (tgt := 17) hC ⟨by omega, by omega⟩ dX3_keep_10 (by decide) (fun c_5 => ?_) (fun c_5 => ?_)
  · refine lv_iload_n hC.1 hC.2.1 dX3_keep_17 rfl (lv_at hl 3 rfl) ?_
    refine x_if_eq (tgt := 30) hC ⟨by omega, by omega⟩ dX3_keep_18 (by decide) (fun c_6 => ?_) (fun c_6 => ?_)
    · refine x_const hC dX3_keep_30 ?_
      refine lv_istore (lv' := [(4, .int (iN (0))), (3, .ref (qb ((p0).toNat))), (0, .ref h0), (1, .int (iN (p0))), (2, .int (iN (p1)))]) hC.1 hC.2.1 dX3_keep_31 hl (by decide) rfl (fun ls hl => ?_)
      refine lv_aload_n hC.1 hC.2.1 dX3_keep_33 rfl (lv_at hl 2 rfl) ?_
      refine lv_aload_n hC.1 hC.2.1 dX3_keep_34 rfl (lv_at hl 1 rfl) ?_
      refine lv_iload hC.1 hC.2.1 dX3_keep_35 (lv_at hl 0 rfl) ?_
      refine x_callV hC hw (lv_size hl) (c_X0_keyAt l G hBx_3 (show (O ((p0).toNat)) < 3 by first | assumption | omega) hVx_3 (by first | assumption | omega) (by first | assumption | omega) (p0 := 0) (by omega)) gX3_keep_X0_keyAt rfl dv_X0_keyAt hBx_3.1 rfl rfl (Nat.le_of_ble_eq_true rfl) (by rw [hRf]; decide) (by rw [hRl]; decide) (by first | (rw [hRc]; decide) | omega) (by first | (rw [hRs]; decide) | omega) dX3_keep_37 (fun r9 M_7 H locs hq hw => ?_)
      obtain ⟨z_8, rfl, hM9, hz_8, hz_8b, hz_8k⟩ := hq
      rw [hM9] at hw
      show W p l e R s m args below meth c H locs _ _ _ (F0 m 40 ls [.int (iN (z_8)), .ref h0])
      refine x_put (fs2 := [.ref bs, .ref vs, va_rf (og), .int (iN (z_8)), .int kv, .int rf]) hC hw hR.1 rfl hinX3 tyX3 tyX3_ok nmX3 3 (by decide) (List.mem_cons_of_mem _ (List.mem_append_left _ (List.mem_append_left _ (List.mem_append_left _ (List.mem_append_left _ (List.mem_of_getElem? (i := 0) rfl)))))) rfl rfl rfl (Nat.le_of_ble_eq_true rfl) rfl dX3_keep_40 (fun H locs hw => ?_)
      obtain ⟨M_9, hM_10⟩ : ∃ z, z = va_up M h0 (some (.inr (5, [.ref bs, .ref vs, va_rf (og), .int (iN (z_8)), .int kv, .int rf]))) := ⟨_, rfl⟩
      rw [← hM_10] at hw
      have hR_11 : RGx G M_9 h0 bs vs og (iN (z_8)) kv rf qb qk qv fb fv O O Wv V T C K := hR.obj hM_10 hR.wk hR.wg
      have sm_12 := xS1.up hM_10
      have h_13 := hBx_3.kept1 sm_12 (by decide) hR.1
      refine lv_aload_n hC.1 hC.2.1 dX3_keep_43 rfl (lv_at hl 2 rfl) ?_
      refine lv_aload_n hC.1 hC.2.1 dX3_keep_44 rfl (lv_at hl 1 rfl) ?_
      refine lv_iload hC.1 hC.2.1 dX3_keep_45 (lv_at hl 0 rfl) ?_
      refine x_callV hC hw (lv_size hl) (c_X0_valueAt l G h_13 (show (O ((p0).toNat)) < 3 by first | assumption | omega) hVx_3 (by first | assumption | omega) (by first | assumption | omega) (p0 := 0) (by omega)) gX3_keep_X0_valueAt rfl dv_X0_valueAt h_13.1 rfl rfl (Nat.le_of_ble_eq_true rfl) (by rw [hRf]; decide) (by rw [hRl]; decide) (by first | (rw [hRc]; decide) | omega) (by first | (rw [hRs]; decide) | omega) dX3_keep_47 (fun r9 M_14 H locs hq hw => ?_)
      obtain ⟨z_15, rfl, hM9, hz_15, hz_15b, hz_15k⟩ := hq
      rw [hM9] at hw
      show W p l e R s m args below meth c H locs _ _ _ (F0 m 50 ls [.int (iN (z_15)), .ref h0])
      refine x_put (fs2 := [.ref bs, .ref vs, va_rf (og), .int (iN (z_8)), .int (iN (z_15)), .int rf]) hC hw hR_11.1 rfl hinX3 tyX3 tyX3_ok nmX3 4 (by decide) (List.mem_cons_of_mem _ (List.mem_append_left _ (List.mem_append_left _ (List.mem_append_left _ (List.mem_append_left _ (List.mem_of_getElem? (i := 1) rfl)))))) rfl rfl rfl (Nat.le_of_ble_eq_true rfl) rfl dX3_keep_50 (fun H locs hw => ?_)
      obtain ⟨M_16, hM_17⟩ : ∃ z, z = va_up M_9 h0 (some (.inr (5, [.ref bs, .ref vs, va_rf (og), .int (iN (z_8)), .int (iN (z_15)), .int rf]))) := ⟨_, rfl⟩
      rw [← hM_17] at hw
      have hR_18 : RGx G M_16 h0 bs vs og (iN (z_8)) (iN (z_15)) rf qb qk qv fb fv O O Wv V T C K := hR_11.obj hM_17 hR_11.wk hR_11.wg
      have sm_19 := xS1.up hM_17
      have h_20 := h_13.kept1 sm_19 (by decide) hR_11.1
      refine lv_aload_n hC.1 hC.2.1 dX3_keep_53 rfl (lv_at hl 2 rfl) ?_
      refine x_getR hC hw hR_18.1 rfl hinX3 3 (by decide) (List.mem_cons_of_mem _ (List.mem_append_left _ (List.mem_append_left _ (List.mem_append_left _ (List.mem_append_left _ (List.mem_of_getElem? (i := 0) rfl)))))) rfl dX3_keep_54 ?_
      have hrr_21 := iN_rng (iN (z_8))
      exact vx_ret (x_iret hC hw dX3_keep_57 (by first | decide | omega) (by first | decide | omega) ⟨(iN (z_8)).toInt, rfl, ⟨by omega, by omega⟩, ⟨(by first | omega | trivial), (by first | omega | trivial)⟩, (by first | exact wh_end (by omega) (by omega) hVx_3 (by omega) (show (szx_3 ≤ 0 ∧ z_8 = -10000) ∨ (0 < szx_3 ∧ p1 = 0 ∧ z_8 = (fkx_3 (0 : Int).toNat).toInt) ∨ (0 < szx_3 ∧ p1 ≠ 0 ∧ z_8 = (fkx_3 (szx_3 - 1).toNat).toInt) by omega) | (have e9 := iN_toInt (z := z_8) ⟨by omega, by omega⟩; rw [e9]; exact wh_end (by omega) (by omega) hVx_3 (by omega) (show (szx_3 ≤ 0 ∧ z_8 = -10000) ∨ (0 < szx_3 ∧ p1 = 0 ∧ z_8 = (fkx_3 (0 : Int).toNat).toInt) ∨ (0 < szx_3 ∧ p1 ≠ 0 ∧ z_8 = (fkx_3 (szx_3 - 1).toNat).toInt) by omega))), (by have e9 : z_8 = A_keep (O, V, Wv, abK T C K, kk, kv, rf) p0 p1 := wh_end (by omega) (by omega) hVx_3 (by omega) (show (szx_3 ≤ 0 ∧ z_8 = -10000) ∨ (0 < szx_3 ∧ p1 = 0 ∧ z_8 = (fkx_3 (0 : Int).toNat).toInt) ∨ (0 < szx_3 ∧ p1 ≠ 0 ∧ z_8 = (fkx_3 (szx_3 - 1).toNat).toInt) by omega); have e8 : z_15 = V (p0).toNat (z_8).toNat := by {have e7 := hVx_3.vr' (p0 := (0 : Int)) (by omega); rw [show (z_8).toNat = kN fkx_3 (0 : Int).toNat from (kNz (by omega)).symm]; omega}; rw [S_keep, ← e9, if_neg (by omega)]; have e6 := RG.of (N2 := N + 1) hR_18 hcb (by omega) (by omega); rw [e8] at e6; exact e6)⟩)
    · refine lv_aload_n hC.1 hC.2.1 dX3_keep_21 rfl (lv_at hl 0 rfl) ?_
      refine x_callV hC hw (lv_size hl) (c_X0_size l G hBx_3 (show (O ((p0).toNat)) < 3 by first | assumption | omega) hVx_3 (by first | assumption | omega) (by first | assumption | omega)) gX3_keep_X0_size rfl dv_X0_size hBx_3.1 rfl rfl (Nat.le_of_ble_eq_true rfl) (by rw [hRf]; decide) (by rw [hRl]; decide) (by first | (rw [hRc]; decide) | omega) (by first | (rw [hRs]; decide) | omega) dX3_keep_22 (fun r9 M_22 H locs hq hw => ?_)
      obtain ⟨rfl, hM9⟩ := hq
      rw [hM9] at hw
      show W p l e R s m args below meth c H locs _ _ _ (F0 m 25 ls [.int (iN (szx_3))])
      refine x_const hC dX3_keep_25 ?_
      refine x_isub hC dX3_keep_26 ?_
      refine lv_goto (tgt := 31) hC.1 hC.2.1 dX3_keep_27 (by decide) ?_
      refine lv_istore (lv' := [(4, .int (iN (szx_3 - 1))), (3, .ref (qb ((p0).toNat))), (0, .ref h0), (1, .int (iN (p0))), (2, .int (iN (p1)))]) hC.1 hC.2.1 dX3_keep_31 hl (by decide) rfl (fun ls hl => ?_)
      refine lv_aload_n hC.1 hC.2.1 dX3_keep_33 rfl (lv_at hl 2 rfl) ?_
      refine lv_aload_n hC.1 hC.2.1 dX3_keep_34 rfl (lv_at hl 1 rfl) ?_
      refine lv_iload hC.1 hC.2.1 dX3_keep_35 (lv_at hl 0 rfl) ?_
      refine x_callV hC hw (lv_size hl) (c_X0_keyAt l G hBx_3 (show (O ((p0).toNat)) < 3 by first | assumption | omega) hVx_3 (by first | assumption | omega) (by first | assumption | omega) (p0 := (szx_3 - 1)) (by omega)) gX3_keep_X0_keyAt rfl dv_X0_keyAt hBx_3.1 rfl rfl (Nat.le_of_ble_eq_true rfl) (by rw [hRf]; decide) (by rw [hRl]; decide) (by first | (rw [hRc]; decide) | omega) (by first | (rw [hRs]; decide) | omega) dX3_keep_37 (fun r9 M_23 H locs hq hw => ?_)
      obtain ⟨z_24, rfl, hM9, hz_24, hz_24b, hz_24k⟩ := hq
      rw [hM9] at hw
      show W p l e R s m args below meth c H locs _ _ _ (F0 m 40 ls [.int (iN (z_24)), .ref h0])
      refine x_put (fs2 := [.ref bs, .ref vs, va_rf (og), .int (iN (z_24)), .int kv, .int rf]) hC hw hR.1 rfl hinX3 tyX3 tyX3_ok nmX3 3 (by decide) (List.mem_cons_of_mem _ (List.mem_append_left _ (List.mem_append_left _ (List.mem_append_left _ (List.mem_append_left _ (List.mem_of_getElem? (i := 0) rfl)))))) rfl rfl rfl (Nat.le_of_ble_eq_true rfl) rfl dX3_keep_40 (fun H locs hw => ?_)
      obtain ⟨M_25, hM_26⟩ : ∃ z, z = va_up M h0 (some (.inr (5, [.ref bs, .ref vs, va_rf (og), .int (iN (z_24)), .int kv, .int rf]))) := ⟨_, rfl⟩
      rw [← hM_26] at hw
      have hR_27 : RGx G M_25 h0 bs vs og (iN (z_24)) kv rf qb qk qv fb fv O O Wv V T C K := hR.obj hM_26 hR.wk hR.wg
      have sm_28 := xS1.up hM_26
      have h_29 := hBx_3.kept1 sm_28 (by decide) hR.1
      refine lv_aload_n hC.1 hC.2.1 dX3_keep_43 rfl (lv_at hl 2 rfl) ?_
      refine lv_aload_n hC.1 hC.2.1 dX3_keep_44 rfl (lv_at hl 1 rfl) ?_
      refine lv_iload hC.1 hC.2.1 dX3_keep_45 (lv_at hl 0 rfl) ?_
      refine x_callV hC hw (lv_size hl) (c_X0_valueAt l G h_29 (show (O ((p0).toNat)) < 3 by first | assumption | omega) hVx_3 (by first | assumption | omega) (by first | assumption | omega) (p0 := (szx_3 - 1)) (by omega)) gX3_keep_X0_valueAt rfl dv_X0_valueAt h_29.1 rfl rfl (Nat.le_of_ble_eq_true rfl) (by rw [hRf]; decide) (by rw [hRl]; decide) (by first | (rw [hRc]; decide) | omega) (by first | (rw [hRs]; decide) | omega) dX3_keep_47 (fun r9 M_30 H locs hq hw => ?_)
      obtain ⟨z_31, rfl, hM9, hz_31, hz_31b, hz_31k⟩ := hq
      rw [hM9] at hw
      show W p l e R s m args below meth c H locs _ _ _ (F0 m 50 ls [.int (iN (z_31)), .ref h0])
      refine x_put (fs2 := [.ref bs, .ref vs, va_rf (og), .int (iN (z_24)), .int (iN (z_31)), .int rf]) hC hw hR_27.1 rfl hinX3 tyX3 tyX3_ok nmX3 4 (by decide) (List.mem_cons_of_mem _ (List.mem_append_left _ (List.mem_append_left _ (List.mem_append_left _ (List.mem_append_left _ (List.mem_of_getElem? (i := 1) rfl)))))) rfl rfl rfl (Nat.le_of_ble_eq_true rfl) rfl dX3_keep_50 (fun H locs hw => ?_)
      obtain ⟨M_32, hM_33⟩ : ∃ z, z = va_up M_25 h0 (some (.inr (5, [.ref bs, .ref vs, va_rf (og), .int (iN (z_24)), .int (iN (z_31)), .int rf]))) := ⟨_, rfl⟩
      rw [← hM_33] at hw
      have hR_34 : RGx G M_32 h0 bs vs og (iN (z_24)) (iN (z_31)) rf qb qk qv fb fv O O Wv V T C K := hR_27.obj hM_33 hR_27.wk hR_27.wg
      have sm_35 := xS1.up hM_33
      have h_36 := h_29.kept1 sm_35 (by decide) hR_27.1
      refine lv_aload_n hC.1 hC.2.1 dX3_keep_53 rfl (lv_at hl 2 rfl) ?_
      refine x_getR hC hw hR_34.1 rfl hinX3 3 (by decide) (List.mem_cons_of_mem _ (List.mem_append_left _ (List.mem_append_left _ (List.mem_append_left _ (List.mem_append_left _ (List.mem_of_getElem? (i := 0) rfl)))))) rfl dX3_keep_54 ?_
      have hrr_37 := iN_rng (iN (z_24))
      exact vx_ret (x_iret hC hw dX3_keep_57 (by first | decide | omega) (by first | decide | omega) ⟨(iN (z_24)).toInt, rfl, ⟨by omega, by omega⟩, ⟨(by first | omega | trivial), (by first | omega | trivial)⟩, (by first | exact wh_end (by omega) (by omega) hVx_3 (by omega) (show (szx_3 ≤ 0 ∧ z_24 = -10000) ∨ (0 < szx_3 ∧ p1 = 0 ∧ z_24 = (fkx_3 (0 : Int).toNat).toInt) ∨ (0 < szx_3 ∧ p1 ≠ 0 ∧ z_24 = (fkx_3 (szx_3 - 1).toNat).toInt) by omega) | (have e9 := iN_toInt (z := z_24) ⟨by omega, by omega⟩; rw [e9]; exact wh_end (by omega) (by omega) hVx_3 (by omega) (show (szx_3 ≤ 0 ∧ z_24 = -10000) ∨ (0 < szx_3 ∧ p1 = 0 ∧ z_24 = (fkx_3 (0 : Int).toNat).toInt) ∨ (0 < szx_3 ∧ p1 ≠ 0 ∧ z_24 = (fkx_3 (szx_3 - 1).toNat).toInt) by omega))), (by have e9 : z_24 = A_keep (O, V, Wv, abK T C K, kk, kv, rf) p0 p1 := wh_end (by omega) (by omega) hVx_3 (by omega) (show (szx_3 ≤ 0 ∧ z_24 = -10000) ∨ (0 < szx_3 ∧ p1 = 0 ∧ z_24 = (fkx_3 (0 : Int).toNat).toInt) ∨ (0 < szx_3 ∧ p1 ≠ 0 ∧ z_24 = (fkx_3 (szx_3 - 1).toNat).toInt) by omega); have e8 : z_31 = V (p0).toNat (z_24).toNat := by {have e7 := hVx_3.vr' (p0 := (szx_3 - 1 : Int)) (by omega); rw [show (z_24).toNat = kN fkx_3 (szx_3 - 1 : Int).toNat from (kNz (by omega)).symm]; omega}; rw [S_keep, ← e9, if_neg (by omega)]; have e6 := RG.of (N2 := N + 1) hR_34 hcb (by omega) (by omega); rw [e8] at e6; exact e6)⟩)
  · refine x_sipush hC dX3_keep_13 (by decide +kernel) ?_
    exact vx_ret (x_iret hC hw dX3_keep_16 (by first | decide | omega) (by first | decide | omega) ⟨(-10000), rfl, ⟨by omega, by omega⟩, ⟨(by first | omega | trivial), (by first | omega | trivial)⟩, (wh_end (by omega) (by omega) hVx_3 (by omega) (show (szx_3 ≤ 0 ∧ (-10000) = -10000) ∨ (0 < szx_3 ∧ p1 = 0 ∧ (-10000) = (fkx_3 (0 : Int).toNat).toInt) ∨ (0 < szx_3 ∧ p1 ≠ 0 ∧ (-10000) = (fkx_3 (szx_3 - 1).toNat).toInt) by omega)), (by rw [S_keep, if_pos (show A_keep (O, V, Wv, abK T C K, kk, kv, rf) p0 p1 = -10000 from (wh_end (by omega) (by omega) hVx_3 (by omega) (show (szx_3 ≤ 0 ∧ (-10000) = -10000) ∨ (0 < szx_3 ∧ p1 = 0 ∧ (-10000) = (fkx_3 (0 : Int).toNat).toInt) ∨ (0 < szx_3 ∧ p1 ≠ 0 ∧ (-10000) = (fkx_3 (szx_3 - 1).toNat).toInt) by omega)).symm)]; exact (RG.of (N2 := N + 1) hR hcb (by omega) (by omega)))⟩)
set_option maxHeartbeats 4000000 in
set_option maxRecDepth 100000 in
theorem c_X3_brand (l : Launch) (G : xG) {M : HM} (hst : l.stackTraces = false) {h0 bs vs : Nat} {og : Option Nat} {kk kv rf : Int32} {qb qk qv : Nat → Nat} {fb fv : Nat → Option Nat} {O : OW} {Wv : VW} {V : BW} {T C : Nat → Int} {K : WA} {N : Int} (hR : RGx G M h0 bs vs og kk kv rf qb qk qv fb fv O O Wv V T C K) (hcb : cbN N T C) (hN : N ≤ 590) {p0 : Int} (hp0 : -2147483648 ≤ p0 ∧ p0 ≤ 2147483647) : xMetX l G yX3_brand wsX3_brand 7 110 1 6 [.ref h0, .int (iN (p0))] M (fun r M1 => ∃ z : Int, r = some (.int (iN z)) ∧ (-2147483648 ≤ z ∧ z ≤ 2147483647) ∧ ((-9999 ≤ p0 ∧ p0 ≤ 9999)) ∧ z = A_brand (O, V, Wv, abK T C K, kk, kv, rf) p0 ∧ RG G M1 h0 (N + 1) (S_brand (O, V, Wv, abK T C K, kk, kv, rf) p0)) (fun E M1 => ((E = xIA ∧ ¬ (-9999 ≤ p0 ∧ p0 ≤ 9999))) ∧ RG G M1 h0 (N + 1) (O, V, Wv, abK T C K, kk, kv, rf)) := by
  refine x_introX (cc := cX3_brand) (maxL := 2) (ret := (some .int)) (by exact pln_RX3) rfl (Nat.le_of_ble_eq_true rfl) ?_
  intro p e R s m args below meth c ls hRf hRc hRs hRl htab hC hw hl
  have hinX3 : ∀ w ∈ wsX30, w ∈ wsX3_brand := fun w h => (List.mem_cons_of_mem _ (List.mem_append_left _ (List.mem_append_right _ h)))
  have hl : lv_has ls 2 [(0, .ref h0), (1, .int (iN (p0)))] := hl
  refine lv_iload_n hC.1 hC.2.1 dX3_brand_0 rfl (lv_at hl 1 rfl) ?_
  refine x_callSX hC hw (lv_size hl) (c_X3_checkValue l G (M := M) hst (p0 := p0) (by first | assumption | omega)) gX3_brand_X3_checkValue rfl dv_X3_checkValue_s rfl (Nat.le_of_ble_eq_true rfl) (by rw [hRf]; decide) (by rw [hRl]; decide) (by first | (rw [hRc]; decide) | omega) (by first | (rw [hRs]; decide) | omega) dX3_brand_1 (fun E ce q9 M_1 H locs hqx hw hcell hcv hcls => ?_) (fun r9 M_1 H locs hq hw => ?_)
  · rw [hqx.2] at hw
    obtain ⟨hE, hc9⟩ := hqx.1
    replace hqx := hqx.2
    subst hE
    exact x_outX hC hw htab hcell hcv hcls (by first | decide | omega) (by first | decide | omega) ⟨⟨rfl, (by first | exact hc9 | omega | trivial)⟩, (RG.of (N2 := N + 1) hR hcb (by omega) (by omega))⟩
  obtain ⟨rfl, hM9, hk_2⟩ := hq
  rw [hM9] at hw
  show W p l e R s m args below meth c H locs _ _ _ (F0 m 4 ls [])
  refine lv_aload_n hC.1 hC.2.1 dX3_brand_4 rfl (lv_at hl 0 rfl) ?_
  refine x_getR hC hw hR.1 rfl hinX3 3 (by decide) (List.mem_cons_of_mem _ (List.mem_append_left _ (List.mem_append_left _ (List.mem_of_getElem? (i := 0) rfl)))) rfl dX3_brand_5 ?_
  have hrr_3 := iN_rng kk
  refine x_sipush hC dX3_brand_8 (by decide +kernel) ?_
  refine x_icmp_ne (tgt := 20) hC ⟨by omega, by omega⟩ ⟨by omega, by omega⟩ dX3_brand_11 (by decide) (fun c_4 => ?_) (fun c_4 => ?_)
  · refine x_sipush hC dX3_brand_20 (by decide +kernel) ?_
    exact vx_ret (x_iret hC hw dX3_brand_23 (by first | decide | omega) (by first | decide | omega) ⟨(-20000), rfl, ⟨by omega, by omega⟩, ⟨(by first | omega | trivial), (by first | omega | trivial)⟩, (show _ = (if kk.toInt = -10000 then -10000 else -20000) by omega), (RG.of (N2 := N + 1) hR hcb (by omega) (by omega))⟩)
  · refine x_sipush hC dX3_brand_14 (by decide +kernel) ?_
    refine lv_goto (tgt := 23) hC.1 hC.2.1 dX3_brand_17 (by decide) ?_
    exact vx_ret (x_iret hC hw dX3_brand_23 (by first | decide | omega) (by first | decide | omega) ⟨(-10000), rfl, ⟨by omega, by omega⟩, ⟨(by first | omega | trivial), (by first | omega | trivial)⟩, (show _ = (if kk.toInt = -10000 then -10000 else -20000) by omega), (RG.of (N2 := N + 1) hR hcb (by omega) (by omega))⟩)
set_option maxHeartbeats 4000000 in
set_option maxRecDepth 100000 in
theorem c_X3_knock (l : Launch) (G : xG) {M : HM} {h0 bs vs : Nat} {og : Option Nat} {kk kv rf : Int32} {qb qk qv : Nat → Nat} {fb fv : Nat → Option Nat} {O : OW} {Wv : VW} {V : BW} {T C : Nat → Int} {K : WA} {N : Int} (hR : RGx G M h0 bs vs og kk kv rf qb qk qv fb fv O O Wv V T C K) (hcb : cbN N T C) (hN : N ≤ 590) : xMet l G yX3_knock wsX3_knock 0 0 0 0 [.ref h0] M (fun r M1 => r = some (.int (iN (rf.toInt + 1))) ∧ RG G M1 h0 (N + 1) (S_knock (O, V, Wv, abK T C K, kk, kv, rf))) := by
  refine x_intro (cc := cX3_knock) (maxL := 1) (ret := (some .int)) (by exact pln_RX3) rfl (Nat.le_of_ble_eq_true rfl) ?_
  intro p e R s m args below meth c ls hRf hRc hRs hRl hC hw hl
  have hinX3 : ∀ w ∈ wsX30, w ∈ wsX3_knock := fun w h => (List.mem_cons_of_mem _ (List.mem_append_right _ h))
  have hl : lv_has ls 1 [(0, .ref h0)] := hl
  refine lv_aload_n hC.1 hC.2.1 dX3_knock_0 rfl (lv_at hl 0 rfl) ?_
  refine lv_dup hC.1 hC.2.1 dX3_knock_1 rfl ?_
  refine x_getR hC hw hR.1 rfl hinX3 5 (by decide) (List.mem_cons_of_mem _ (List.mem_append_left _ (List.mem_of_getElem? (i := 0) rfl))) rfl dX3_knock_2 ?_
  have hrr_1 := iN_rng rf
  refine x_const hC dX3_knock_5 ?_
  refine x_iadd hC dX3_knock_6 ?_
  refine x_put (fs2 := [.ref bs, .ref vs, va_rf (og), .int kk, .int kv, .int (iN (rf.toInt + 1))]) hC hw hR.1 rfl hinX3 tyX3 tyX3_ok nmX3 5 (by decide) (List.mem_cons_of_mem _ (List.mem_append_left _ (List.mem_of_getElem? (i := 0) rfl))) rfl rfl rfl (Nat.le_of_ble_eq_true rfl) rfl dX3_knock_7 (fun H locs hw => ?_)
  obtain ⟨M_2, hM_3⟩ : ∃ z, z = va_up M h0 (some (.inr (5, [.ref bs, .ref vs, va_rf (og), .int kk, .int kv, .int (iN (rf.toInt + 1))]))) := ⟨_, rfl⟩
  rw [← hM_3] at hw
  have hR_4 : RGx G M_2 h0 bs vs og kk kv (iN (rf.toInt + 1)) qb qk qv fb fv O O Wv V T C K := hR.obj hM_3 hR.wk hR.wg
  have sm_5 := xS1.up hM_3
  refine lv_aload_n hC.1 hC.2.1 dX3_knock_10 rfl (lv_at hl 0 rfl) ?_
  refine x_getR hC hw hR_4.1 rfl hinX3 5 (by decide) (List.mem_cons_of_mem _ (List.mem_append_left _ (List.mem_of_getElem? (i := 0) rfl))) rfl dX3_knock_11 ?_
  have hrr_6 := iN_rng (iN (rf.toInt + 1))
  exact x_iret hC hw dX3_knock_14 (by first | decide | omega) (by first | decide | omega) ⟨by simp only [iN_asI], (RG.of (N2 := N + 1) hR_4 hcb (by omega) (by omega))⟩
set_option maxHeartbeats 4000000 in
set_option maxRecDepth 100000 in
theorem c_X1_init (l : Launch) (G : xG) {M : HM} {y : Nat} (hO : M y = some (.inr (3, [.null, .int 0, .int 0, .int 0, .int 0, .int 0, .int 0]))) {b k v o : Nat} {no : Int32} {t kc sz : Int} {fk fv : Nat → Int32} {V : Nat → Int} (hB : Bk G M b k v no (iN ((o : Nat) : Int)) (iN (t)) (iN (kc)) sz fk fv) (ho : o < 3) (hV : BV o V sz.toNat fk fv) (htt : 0 ≤ t ∧ t ≤ 1000000) (hkk : 0 ≤ kc ∧ kc ≤ 1000000) {p0 : Int} (hp0 : -2147483648 ≤ p0 ∧ p0 ≤ 2147483647) {p1 : Int} (hp1 : -2147483648 ≤ p1 ∧ p1 ≤ 2147483647) {p2 : Int} (hp2 : -2147483648 ≤ p2 ∧ p2 ≤ 2147483647) {p3 : Int} (hp3 : -2147483648 ≤ p3 ∧ p3 ≤ 2147483647) (hb1 : p1 = 0 ∨ p1 = 1) (hb3 : p3 = 0 ∨ p3 = 1) (hk0 : p0 = -10000 ∨ (0 ≤ p0 ∧ p0 ≤ 99)) (hk2 : p2 = -10000 ∨ (0 ≤ p2 ∧ p2 ≤ 99)) : xMet l G yX1_init wsX1_init 1 23 0 0 [.ref y, .ref b, .int (iN (p0)), .int (iN (p1)), .int (iN (p2)), .int (iN (p3))] M (fun r M1 => r = none ∧ Vw M1 y b (iN (p0)) (iN (p2)) (iN (swN o p0 p1)) (iN (ewN o p0 p1 p2 p3)) p1 p3 ∧ xS1 M M1 y) := by
  refine x_intro (cc := cX1_init) (maxL := 8) (ret := none) (by exact pln_RX1) rfl (Nat.le_of_ble_eq_true rfl) ?_
  intro p e R s m args below meth c ls hRf hRc hRs hRl hC hw hl
  obtain ⟨-, -, -, -, hs0, hs1⟩ := id hB
  have hc0 : p0 ≠ -10000 → cwN o p0.toNat < 1024 := fun h9 => cw_lt ho (by omega)
  have hc2 : p2 ≠ -10000 → cwN o p2.toNat < 1024 := fun h9 => cw_lt ho (by omega)
  have hinX1 : ∀ w ∈ wsX10, w ∈ wsX1_init := fun w h => (List.mem_cons_of_mem _ (List.mem_append_left _ (List.mem_append_right _ h)))
  have hl : lv_has ls 8 [(0, .ref y), (1, .ref b), (2, .int (iN (p0))), (3, .int (iN (p1))), (4, .int (iN (p2))), (5, .int (iN (p3)))] := hl
  refine lv_aload_n hC.1 hC.2.1 dX1_init_0 rfl (lv_at hl 0 rfl) ?_
  refine x_objInit hC (lv_size hl) (by decide +kernel) (by decide +kernel) (by decide +kernel) (by rw [hRf]; decide) (by rw [hRl]; exact Nat.le_of_ble_eq_true rfl) dX1_init_1 ?_
  refine lv_aload_n hC.1 hC.2.1 dX1_init_4 rfl (lv_at hl 0 rfl) ?_
  refine lv_aload_n hC.1 hC.2.1 dX1_init_5 rfl (lv_at hl 1 rfl) ?_
  refine x_putF (fs2 := [.ref b, .int 0, .int 0, .int 0, .int 0, .int 0, .int 0]) hC hw hO rfl hinX1 tyX1 tyX1_ok nmX1 0 (by decide) (by decide +kernel) rfl rfl rfl rfl (Nat.le_of_ble_eq_true rfl) rfl dX1_init_6 (fun H locs hw => ?_)
  obtain ⟨M_1, hM_2⟩ : ∃ z, z = va_up M y (some (.inr (3, [.ref b, .int 0, .int 0, .int 0, .int 0, .int 0, .int 0]))) := ⟨_, rfl⟩
  rw [← hM_2] at hw
  have hO_3 : M_1 y = some (.inr (3, [.ref b, .int 0, .int 0, .int 0, .int 0, .int 0, .int 0])) := by rw [hM_2, va_up_self]
  have sm_4 := xS1.up hM_2
  have h_5 := hB.kept1 sm_4 (by decide) hO
  refine lv_aload_n hC.1 hC.2.1 dX1_init_9 rfl (lv_at hl 0 rfl) ?_
  refine lv_iload_n hC.1 hC.2.1 dX1_init_10 rfl (lv_at hl 2 rfl) ?_
  refine x_putF (fs2 := [.ref b, .int (iN (p0)), .int 0, .int 0, .int 0, .int 0, .int 0]) hC hw hO_3 rfl hinX1 tyX1 tyX1_ok nmX1 1 (by decide) (by decide +kernel) rfl rfl rfl rfl (Nat.le_of_ble_eq_true rfl) rfl dX1_init_11 (fun H locs hw => ?_)
  obtain ⟨M_6, hM_7⟩ : ∃ z, z = va_up M_1 y (some (.inr (3, [.ref b, .int (iN (p0)), .int 0, .int 0, .int 0, .int 0, .int 0]))) := ⟨_, rfl⟩
  rw [← hM_7] at hw
  have hO_8 : M_6 y = some (.inr (3, [.ref b, .int (iN (p0)), .int 0, .int 0, .int 0, .int 0, .int 0])) := by rw [hM_7, va_up_self]
  have sm_9 := xS1.up hM_7
  have h_10 := h_5.kept1 sm_9 (by decide) hO_3
  refine lv_aload_n hC.1 hC.2.1 dX1_init_14 rfl (lv_at hl 0 rfl) ?_
  refine lv_iload_n hC.1 hC.2.1 dX1_init_15 rfl (lv_at hl 3 rfl) ?_
  refine x_putF (fs2 := [.ref b, .int (iN (p0)), .int 0, .int (iN (p1)), .int 0, .int 0, .int 0]) hC hw hO_8 rfl hinX1 tyX1 tyX1_ok nmX1 3 (by decide) (by decide +kernel) rfl rfl (by rcases hb1 with h9 | h9 <;> rw [h9] <;> rfl) (by rcases hb1 with h9 | h9 <;> rw [h9] <;> rfl) (Nat.le_of_ble_eq_true rfl) rfl dX1_init_16 (fun H locs hw => ?_)
  obtain ⟨M_11, hM_12⟩ : ∃ z, z = va_up M_6 y (some (.inr (3, [.ref b, .int (iN (p0)), .int 0, .int (iN (p1)), .int 0, .int 0, .int 0]))) := ⟨_, rfl⟩
  rw [← hM_12] at hw
  have hO_13 : M_11 y = some (.inr (3, [.ref b, .int (iN (p0)), .int 0, .int (iN (p1)), .int 0, .int 0, .int 0])) := by rw [hM_12, va_up_self]
  have sm_14 := xS1.up hM_12
  have h_15 := h_10.kept1 sm_14 (by decide) hO_8
  refine lv_aload_n hC.1 hC.2.1 dX1_init_19 rfl (lv_at hl 0 rfl) ?_
  refine lv_iload hC.1 hC.2.1 dX1_init_20 (lv_at hl 4 rfl) ?_
  refine x_putF (fs2 := [.ref b, .int (iN (p0)), .int (iN (p2)), .int (iN (p1)), .int 0, .int 0, .int 0]) hC hw hO_13 rfl hinX1 tyX1 tyX1_ok nmX1 2 (by decide) (by decide +kernel) rfl rfl rfl rfl (Nat.le_of_ble_eq_true rfl) rfl dX1_init_22 (fun H locs hw => ?_)
  obtain ⟨M_16, hM_17⟩ : ∃ z, z = va_up M_11 y (some (.inr (3, [.ref b, .int (iN (p0)), .int (iN (p2)), .int (iN (p1)), .int 0, .int 0, .int 0]))) := ⟨_, rfl⟩
  rw [← hM_17] at hw
  have hO_18 : M_16 y = some (.inr (3, [.ref b, .int (iN (p0)), .int (iN (p2)), .int (iN (p1)), .int 0, .int 0, .int 0])) := by rw [hM_17, va_up_self]
  have sm_19 := xS1.up hM_17
  have h_20 := h_15.kept1 sm_19 (by decide) hO_13
  refine lv_aload_n hC.1 hC.2.1 dX1_init_25 rfl (lv_at hl 0 rfl) ?_
  refine lv_iload hC.1 hC.2.1 dX1_init_26 (lv_at hl 5 rfl) ?_
  refine x_putF (fs2 := [.ref b, .int (iN (p0)), .int (iN (p2)), .int (iN (p1)), .int (iN (p3)), .int 0, .int 0]) hC hw hO_18 rfl hinX1 tyX1 tyX1_ok nmX1 4 (by decide) (by decide +kernel) rfl rfl (by rcases hb3 with h9 | h9 <;> rw [h9] <;> rfl) (by rcases hb3 with h9 | h9 <;> rw [h9] <;> rfl) (Nat.le_of_ble_eq_true rfl) rfl dX1_init_28 (fun H locs hw => ?_)
  obtain ⟨M_21, hM_22⟩ : ∃ z, z = va_up M_16 y (some (.inr (3, [.ref b, .int (iN (p0)), .int (iN (p2)), .int (iN (p1)), .int (iN (p3)), .int 0, .int 0]))) := ⟨_, rfl⟩
  rw [← hM_22] at hw
  have hO_23 : M_21 y = some (.inr (3, [.ref b, .int (iN (p0)), .int (iN (p2)), .int (iN (p1)), .int (iN (p3)), .int 0, .int 0])) := by rw [hM_22, va_up_self]
  have sm_24 := xS1.up hM_22
  have h_25 := h_20.kept1 sm_24 (by decide) hO_18
  refine lv_iload_n hC.1 hC.2.1 dX1_init_31 rfl (lv_at hl 2 rfl) ?_
  refine x_sipush hC dX1_init_32 (by decide +kernel) ?_
  refine x_icmp_ne (tgt := 42) hC ⟨by omega, by omega⟩ ⟨by omega, by omega⟩ dX1_init_35 (by decide) (fun c_26 => ?_) (fun c_26 => ?_)
  · replace hk0 := hk0.resolve_left (by first | exact c_26 | omega)
    replace hc0 := hc0 (by first | exact c_26 | omega)
    refine lv_aload_n hC.1 hC.2.1 dX1_init_42 rfl (lv_at hl 1 rfl) ?_
    refine lv_iload_n hC.1 hC.2.1 dX1_init_43 rfl (lv_at hl 2 rfl) ?_
    refine x_callV hC hw (lv_size hl) (c_X0_weight l G h_25 (show o < 3 by first | assumption | omega) hV (by first | assumption | omega) (by first | assumption | omega) (p0 := p0) (by first | assumption | omega)) gX1_init_X0_weight rfl dv_X0_weight h_25.1 rfl rfl (Nat.le_of_ble_eq_true rfl) (by rw [hRf]; decide) (by rw [hRl]; decide) (by first | (rw [hRc]; decide) | omega) (by first | (rw [hRs]; decide) | omega) dX1_init_44 (fun r9 M_27 H locs hq hw => ?_)
    obtain ⟨z_28, rfl, hM9, hz_28, hz_28w⟩ := hq
    rw [hM9] at hw
    show W p l e R s m args below meth c H locs _ _ _ (F0 m 47 ls [.int (iN (z_28))])
    refine lv_iload_n hC.1 hC.2.1 dX1_init_47 rfl (lv_at hl 3 rfl) ?_
    refine x_if_eq (tgt := 55) hC ⟨by omega, by omega⟩ dX1_init_48 (by decide) (fun c_29 => ?_) (fun c_29 => ?_)
    · refine x_const hC dX1_init_55 ?_
      refine x_iadd hC dX1_init_56 ?_
      refine lv_istore (lv' := [(6, .int (iN (z_28 + 1))), (0, .ref y), (1, .ref b), (2, .int (iN (p0))), (3, .int (iN (p1))), (4, .int (iN (p2))), (5, .int (iN (p3)))]) hC.1 hC.2.1 dX1_init_57 hl (by decide) rfl (fun ls hl => ?_)
      refine lv_iload hC.1 hC.2.1 dX1_init_59 (lv_at hl 5 rfl) ?_
      refine x_sipush hC dX1_init_61 (by decide +kernel) ?_
      refine x_icmp_ne (tgt := 73) hC ⟨by omega, by omega⟩ ⟨by omega, by omega⟩ dX1_init_64 (by decide) (fun c_30 => ?_) (fun c_30 => ?_)
      · replace hk2 := hk2.resolve_left (by first | exact c_30 | omega)
        replace hc2 := hc2 (by first | exact c_30 | omega)
        refine lv_aload_n hC.1 hC.2.1 dX1_init_73 rfl (lv_at hl 2 rfl) ?_
        refine lv_iload hC.1 hC.2.1 dX1_init_74 (lv_at hl 5 rfl) ?_
        refine x_callV hC hw (lv_size hl) (c_X0_weight l G h_25 (show o < 3 by first | assumption | omega) hV (by first | assumption | omega) (by first | assumption | omega) (p0 := p2) (by first | assumption | omega)) gX1_init_X0_weight rfl dv_X0_weight h_25.1 rfl rfl (Nat.le_of_ble_eq_true rfl) (by rw [hRf]; decide) (by rw [hRl]; decide) (by first | (rw [hRc]; decide) | omega) (by first | (rw [hRs]; decide) | omega) dX1_init_76 (fun r9 M_31 H locs hq hw => ?_)
        obtain ⟨z_32, rfl, hM9, hz_32, hz_32w⟩ := hq
        rw [hM9] at hw
        show W p l e R s m args below meth c H locs _ _ _ (F0 m 79 ls [.int (iN (z_32))])
        refine lv_iload hC.1 hC.2.1 dX1_init_79 (lv_at hl 6 rfl) ?_
        refine x_if_eq (tgt := 88) hC ⟨by omega, by omega⟩ dX1_init_81 (by decide) (fun c_33 => ?_) (fun c_33 => ?_)
        · refine x_const hC dX1_init_88 ?_
          refine x_iadd hC dX1_init_89 ?_
          refine lv_istore (lv' := [(7, .int (iN (z_32 + 0))), (6, .int (iN (z_28 + 1))), (0, .ref y), (1, .ref b), (2, .int (iN (p0))), (3, .int (iN (p1))), (4, .int (iN (p2))), (5, .int (iN (p3)))]) hC.1 hC.2.1 dX1_init_90 hl (by decide) rfl (fun ls hl => ?_)
          refine lv_aload_n hC.1 hC.2.1 dX1_init_92 rfl (lv_at hl 2 rfl) ?_
          refine lv_iload hC.1 hC.2.1 dX1_init_93 (lv_at hl 1 rfl) ?_
          refine x_putF (fs2 := [.ref b, .int (iN (p0)), .int (iN (p2)), .int (iN (p1)), .int (iN (p3)), .int (iN (z_28 + 1)), .int 0]) hC hw hO_23 rfl hinX1 tyX1 tyX1_ok nmX1 5 (by decide) (by decide +kernel) rfl rfl rfl rfl (Nat.le_of_ble_eq_true rfl) rfl dX1_init_95 (fun H locs hw => ?_)
          obtain ⟨M_34, hM_35⟩ : ∃ z, z = va_up M_21 y (some (.inr (3, [.ref b, .int (iN (p0)), .int (iN (p2)), .int (iN (p1)), .int (iN (p3)), .int (iN (z_28 + 1)), .int 0]))) := ⟨_, rfl⟩
          rw [← hM_35] at hw
          have hO_36 : M_34 y = some (.inr (3, [.ref b, .int (iN (p0)), .int (iN (p2)), .int (iN (p1)), .int (iN (p3)), .int (iN (z_28 + 1)), .int 0])) := by rw [hM_35, va_up_self]
          have sm_37 := xS1.up hM_35
          have h_38 := h_25.kept1 sm_37 (by decide) hO_23
          refine lv_aload_n hC.1 hC.2.1 dX1_init_98 rfl (lv_at hl 2 rfl) ?_
          refine lv_iload hC.1 hC.2.1 dX1_init_99 (lv_at hl 1 rfl) ?_
          refine lv_iload hC.1 hC.2.1 dX1_init_101 (lv_at hl 0 rfl) ?_
          refine x_max hC (lv_size hl) ⟨by omega, by omega⟩ ⟨by omega, by omega⟩ (by decide +kernel) (by decide +kernel) (by decide +kernel) (by decide +kernel) (by rw [hRf]; decide) (by rw [hRl]; exact Nat.le_of_ble_eq_true rfl) (by first | (rw [hRc]; decide) | omega) (by first | (rw [hRs]; decide) | omega) dX1_init_103 (fun z_39 hz_39 => ?_)
          refine x_putF (fs2 := [.ref b, .int (iN (p0)), .int (iN (p2)), .int (iN (p1)), .int (iN (p3)), .int (iN (z_28 + 1)), .int (iN (z_39))]) hC hw hO_36 rfl hinX1 tyX1 tyX1_ok nmX1 6 (by decide) (by decide +kernel) rfl rfl rfl rfl (Nat.le_of_ble_eq_true rfl) rfl dX1_init_106 (fun H locs hw => ?_)
          obtain ⟨M_40, hM_41⟩ : ∃ z, z = va_up M_34 y (some (.inr (3, [.ref b, .int (iN (p0)), .int (iN (p2)), .int (iN (p1)), .int (iN (p3)), .int (iN (z_28 + 1)), .int (iN (z_39))]))) := ⟨_, rfl⟩
          rw [← hM_41] at hw
          have hO_42 : M_40 y = some (.inr (3, [.ref b, .int (iN (p0)), .int (iN (p2)), .int (iN (p1)), .int (iN (p3)), .int (iN (z_28 + 1)), .int (iN (z_39))])) := by rw [hM_41, va_up_self]
          have sm_43 := xS1.up hM_41
          have h_44 := h_38.kept1 sm_43 (by decide) hO_36
          exact x_vret hC hw dX1_init_109 (by first | decide | omega) (by first | decide | omega) ⟨rfl, vi_eq (show swN o p0 p1 = z_28 + 1 from sw_end (by omega)) (fun e1 => show ewN o p0 p1 p2 p3 = z_39 from ew_end (e := z_32 + 0) e1 (by omega) hz_39) (fun e1 e2 => by rw [e1, e2]; exact ⟨hO_42, by omega, by omega⟩), fun a q_y => (((((((sm_43 a q_y).trans (sm_37 a q_y)).trans (sm_24 a q_y)).trans (sm_19 a q_y)).trans (sm_14 a q_y)).trans (sm_9 a q_y)).trans (sm_4 a q_y))⟩
        · refine x_const hC dX1_init_84 ?_
          refine lv_goto (tgt := 89) hC.1 hC.2.1 dX1_init_85 (by decide) ?_
          refine x_iadd hC dX1_init_89 ?_
          refine lv_istore (lv' := [(7, .int (iN (z_32 + 1))), (6, .int (iN (z_28 + 1))), (0, .ref y), (1, .ref b), (2, .int (iN (p0))), (3, .int (iN (p1))), (4, .int (iN (p2))), (5, .int (iN (p3)))]) hC.1 hC.2.1 dX1_init_90 hl (by decide) rfl (fun ls hl => ?_)
          refine lv_aload_n hC.1 hC.2.1 dX1_init_92 rfl (lv_at hl 2 rfl) ?_
          refine lv_iload hC.1 hC.2.1 dX1_init_93 (lv_at hl 1 rfl) ?_
          refine x_putF (fs2 := [.ref b, .int (iN (p0)), .int (iN (p2)), .int (iN (p1)), .int (iN (p3)), .int (iN (z_28 + 1)), .int 0]) hC hw hO_23 rfl hinX1 tyX1 tyX1_ok nmX1 5 (by decide) (by decide +kernel) rfl rfl rfl rfl (Nat.le_of_ble_eq_true rfl) rfl dX1_init_95 (fun H locs hw => ?_)
          obtain ⟨M_45, hM_46⟩ : ∃ z, z = va_up M_21 y (some (.inr (3, [.ref b, .int (iN (p0)), .int (iN (p2)), .int (iN (p1)), .int (iN (p3)), .int (iN (z_28 + 1)), .int 0]))) := ⟨_, rfl⟩
          rw [← hM_46] at hw
          have hO_47 : M_45 y = some (.inr (3, [.ref b, .int (iN (p0)), .int (iN (p2)), .int (iN (p1)), .int (iN (p3)), .int (iN (z_28 + 1)), .int 0])) := by rw [hM_46, va_up_self]
          have sm_48 := xS1.up hM_46
          have h_49 := h_25.kept1 sm_48 (by decide) hO_23
          refine lv_aload_n hC.1 hC.2.1 dX1_init_98 rfl (lv_at hl 2 rfl) ?_
          refine lv_iload hC.1 hC.2.1 dX1_init_99 (lv_at hl 1 rfl) ?_
          refine lv_iload hC.1 hC.2.1 dX1_init_101 (lv_at hl 0 rfl) ?_
          refine x_max hC (lv_size hl) ⟨by omega, by omega⟩ ⟨by omega, by omega⟩ (by decide +kernel) (by decide +kernel) (by decide +kernel) (by decide +kernel) (by rw [hRf]; decide) (by rw [hRl]; exact Nat.le_of_ble_eq_true rfl) (by first | (rw [hRc]; decide) | omega) (by first | (rw [hRs]; decide) | omega) dX1_init_103 (fun z_50 hz_50 => ?_)
          refine x_putF (fs2 := [.ref b, .int (iN (p0)), .int (iN (p2)), .int (iN (p1)), .int (iN (p3)), .int (iN (z_28 + 1)), .int (iN (z_50))]) hC hw hO_47 rfl hinX1 tyX1 tyX1_ok nmX1 6 (by decide) (by decide +kernel) rfl rfl rfl rfl (Nat.le_of_ble_eq_true rfl) rfl dX1_init_106 (fun H locs hw => ?_)
          obtain ⟨M_51, hM_52⟩ : ∃ z, z = va_up M_45 y (some (.inr (3, [.ref b, .int (iN (p0)), .int (iN (p2)), .int (iN (p1)), .int (iN (p3)), .int (iN (z_28 + 1)), .int (iN (z_50))]))) := ⟨_, rfl⟩
          rw [← hM_52] at hw
          have hO_53 : M_51 y = some (.inr (3, [.ref b, .int (iN (p0)), .int (iN (p2)), .int (iN (p1)), .int (iN (p3)), .int (iN (z_28 + 1)), .int (iN (z_50))])) := by rw [hM_52, va_up_self]
          have sm_54 := xS1.up hM_52
          have h_55 := h_49.kept1 sm_54 (by decide) hO_47
          exact x_vret hC hw dX1_init_109 (by first | decide | omega) (by first | decide | omega) ⟨rfl, vi_eq (show swN o p0 p1 = z_28 + 1 from sw_end (by omega)) (fun e1 => show ewN o p0 p1 p2 p3 = z_50 from ew_end (e := z_32 + 1) e1 (by omega) hz_50) (fun e1 e2 => by rw [e1, e2]; exact ⟨hO_53, by omega, by omega⟩), fun a q_y => (((((((sm_54 a q_y).trans (sm_48 a q_y)).trans (sm_24 a q_y)).trans (sm_19 a q_y)).trans (sm_14 a q_y)).trans (sm_9 a q_y)).trans (sm_4 a q_y))⟩
      · clear hk2 hc2
        refine x_sipush hC dX1_init_67 (by decide +kernel) ?_
        refine lv_goto (tgt := 90) hC.1 hC.2.1 dX1_init_70 (by decide) ?_
        refine lv_istore (lv' := [(7, .int (iN (1024))), (6, .int (iN (z_28 + 1))), (0, .ref y), (1, .ref b), (2, .int (iN (p0))), (3, .int (iN (p1))), (4, .int (iN (p2))), (5, .int (iN (p3)))]) hC.1 hC.2.1 dX1_init_90 hl (by decide) rfl (fun ls hl => ?_)
        refine lv_aload_n hC.1 hC.2.1 dX1_init_92 rfl (lv_at hl 2 rfl) ?_
        refine lv_iload hC.1 hC.2.1 dX1_init_93 (lv_at hl 1 rfl) ?_
        refine x_putF (fs2 := [.ref b, .int (iN (p0)), .int (iN (p2)), .int (iN (p1)), .int (iN (p3)), .int (iN (z_28 + 1)), .int 0]) hC hw hO_23 rfl hinX1 tyX1 tyX1_ok nmX1 5 (by decide) (by decide +kernel) rfl rfl rfl rfl (Nat.le_of_ble_eq_true rfl) rfl dX1_init_95 (fun H locs hw => ?_)
        obtain ⟨M_56, hM_57⟩ : ∃ z, z = va_up M_21 y (some (.inr (3, [.ref b, .int (iN (p0)), .int (iN (p2)), .int (iN (p1)), .int (iN (p3)), .int (iN (z_28 + 1)), .int 0]))) := ⟨_, rfl⟩
        rw [← hM_57] at hw
        have hO_58 : M_56 y = some (.inr (3, [.ref b, .int (iN (p0)), .int (iN (p2)), .int (iN (p1)), .int (iN (p3)), .int (iN (z_28 + 1)), .int 0])) := by rw [hM_57, va_up_self]
        have sm_59 := xS1.up hM_57
        have h_60 := h_25.kept1 sm_59 (by decide) hO_23
        refine lv_aload_n hC.1 hC.2.1 dX1_init_98 rfl (lv_at hl 2 rfl) ?_
        refine lv_iload hC.1 hC.2.1 dX1_init_99 (lv_at hl 1 rfl) ?_
        refine lv_iload hC.1 hC.2.1 dX1_init_101 (lv_at hl 0 rfl) ?_
        refine x_max hC (lv_size hl) ⟨by omega, by omega⟩ ⟨by omega, by omega⟩ (by decide +kernel) (by decide +kernel) (by decide +kernel) (by decide +kernel) (by rw [hRf]; decide) (by rw [hRl]; exact Nat.le_of_ble_eq_true rfl) (by first | (rw [hRc]; decide) | omega) (by first | (rw [hRs]; decide) | omega) dX1_init_103 (fun z_61 hz_61 => ?_)
        refine x_putF (fs2 := [.ref b, .int (iN (p0)), .int (iN (p2)), .int (iN (p1)), .int (iN (p3)), .int (iN (z_28 + 1)), .int (iN (z_61))]) hC hw hO_58 rfl hinX1 tyX1 tyX1_ok nmX1 6 (by decide) (by decide +kernel) rfl rfl rfl rfl (Nat.le_of_ble_eq_true rfl) rfl dX1_init_106 (fun H locs hw => ?_)
        obtain ⟨M_62, hM_63⟩ : ∃ z, z = va_up M_56 y (some (.inr (3, [.ref b, .int (iN (p0)), .int (iN (p2)), .int (iN (p1)), .int (iN (p3)), .int (iN (z_28 + 1)), .int (iN (z_61))]))) := ⟨_, rfl⟩
        rw [← hM_63] at hw
        have hO_64 : M_62 y = some (.inr (3, [.ref b, .int (iN (p0)), .int (iN (p2)), .int (iN (p1)), .int (iN (p3)), .int (iN (z_28 + 1)), .int (iN (z_61))])) := by rw [hM_63, va_up_self]
        have sm_65 := xS1.up hM_63
        have h_66 := h_60.kept1 sm_65 (by decide) hO_58
        exact x_vret hC hw dX1_init_109 (by first | decide | omega) (by first | decide | omega) ⟨rfl, vi_eq (show swN o p0 p1 = z_28 + 1 from sw_end (by omega)) (fun e1 => show ewN o p0 p1 p2 p3 = z_61 from ew_end (e := 1024) e1 (by omega) hz_61) (fun e1 e2 => by rw [e1, e2]; exact ⟨hO_64, by omega, by omega⟩), fun a q_y => (((((((sm_65 a q_y).trans (sm_59 a q_y)).trans (sm_24 a q_y)).trans (sm_19 a q_y)).trans (sm_14 a q_y)).trans (sm_9 a q_y)).trans (sm_4 a q_y))⟩
    · refine x_const hC dX1_init_51 ?_
      refine lv_goto (tgt := 56) hC.1 hC.2.1 dX1_init_52 (by decide) ?_
      refine x_iadd hC dX1_init_56 ?_
      refine lv_istore (lv' := [(6, .int (iN (z_28 + 0))), (0, .ref y), (1, .ref b), (2, .int (iN (p0))), (3, .int (iN (p1))), (4, .int (iN (p2))), (5, .int (iN (p3)))]) hC.1 hC.2.1 dX1_init_57 hl (by decide) rfl (fun ls hl => ?_)
      refine lv_iload hC.1 hC.2.1 dX1_init_59 (lv_at hl 5 rfl) ?_
      refine x_sipush hC dX1_init_61 (by decide +kernel) ?_
      refine x_icmp_ne (tgt := 73) hC ⟨by omega, by omega⟩ ⟨by omega, by omega⟩ dX1_init_64 (by decide) (fun c_67 => ?_) (fun c_67 => ?_)
      · replace hk2 := hk2.resolve_left (by first | exact c_67 | omega)
        replace hc2 := hc2 (by first | exact c_67 | omega)
        refine lv_aload_n hC.1 hC.2.1 dX1_init_73 rfl (lv_at hl 2 rfl) ?_
        refine lv_iload hC.1 hC.2.1 dX1_init_74 (lv_at hl 5 rfl) ?_
        refine x_callV hC hw (lv_size hl) (c_X0_weight l G h_25 (show o < 3 by first | assumption | omega) hV (by first | assumption | omega) (by first | assumption | omega) (p0 := p2) (by first | assumption | omega)) gX1_init_X0_weight rfl dv_X0_weight h_25.1 rfl rfl (Nat.le_of_ble_eq_true rfl) (by rw [hRf]; decide) (by rw [hRl]; decide) (by first | (rw [hRc]; decide) | omega) (by first | (rw [hRs]; decide) | omega) dX1_init_76 (fun r9 M_68 H locs hq hw => ?_)
        obtain ⟨z_69, rfl, hM9, hz_69, hz_69w⟩ := hq
        rw [hM9] at hw
        show W p l e R s m args below meth c H locs _ _ _ (F0 m 79 ls [.int (iN (z_69))])
        refine lv_iload hC.1 hC.2.1 dX1_init_79 (lv_at hl 6 rfl) ?_
        refine x_if_eq (tgt := 88) hC ⟨by omega, by omega⟩ dX1_init_81 (by decide) (fun c_70 => ?_) (fun c_70 => ?_)
        · refine x_const hC dX1_init_88 ?_
          refine x_iadd hC dX1_init_89 ?_
          refine lv_istore (lv' := [(7, .int (iN (z_69 + 0))), (6, .int (iN (z_28 + 0))), (0, .ref y), (1, .ref b), (2, .int (iN (p0))), (3, .int (iN (p1))), (4, .int (iN (p2))), (5, .int (iN (p3)))]) hC.1 hC.2.1 dX1_init_90 hl (by decide) rfl (fun ls hl => ?_)
          refine lv_aload_n hC.1 hC.2.1 dX1_init_92 rfl (lv_at hl 2 rfl) ?_
          refine lv_iload hC.1 hC.2.1 dX1_init_93 (lv_at hl 1 rfl) ?_
          refine x_putF (fs2 := [.ref b, .int (iN (p0)), .int (iN (p2)), .int (iN (p1)), .int (iN (p3)), .int (iN (z_28 + 0)), .int 0]) hC hw hO_23 rfl hinX1 tyX1 tyX1_ok nmX1 5 (by decide) (by decide +kernel) rfl rfl rfl rfl (Nat.le_of_ble_eq_true rfl) rfl dX1_init_95 (fun H locs hw => ?_)
          obtain ⟨M_71, hM_72⟩ : ∃ z, z = va_up M_21 y (some (.inr (3, [.ref b, .int (iN (p0)), .int (iN (p2)), .int (iN (p1)), .int (iN (p3)), .int (iN (z_28 + 0)), .int 0]))) := ⟨_, rfl⟩
          rw [← hM_72] at hw
          have hO_73 : M_71 y = some (.inr (3, [.ref b, .int (iN (p0)), .int (iN (p2)), .int (iN (p1)), .int (iN (p3)), .int (iN (z_28 + 0)), .int 0])) := by rw [hM_72, va_up_self]
          have sm_74 := xS1.up hM_72
          have h_75 := h_25.kept1 sm_74 (by decide) hO_23
          refine lv_aload_n hC.1 hC.2.1 dX1_init_98 rfl (lv_at hl 2 rfl) ?_
          refine lv_iload hC.1 hC.2.1 dX1_init_99 (lv_at hl 1 rfl) ?_
          refine lv_iload hC.1 hC.2.1 dX1_init_101 (lv_at hl 0 rfl) ?_
          refine x_max hC (lv_size hl) ⟨by omega, by omega⟩ ⟨by omega, by omega⟩ (by decide +kernel) (by decide +kernel) (by decide +kernel) (by decide +kernel) (by rw [hRf]; decide) (by rw [hRl]; exact Nat.le_of_ble_eq_true rfl) (by first | (rw [hRc]; decide) | omega) (by first | (rw [hRs]; decide) | omega) dX1_init_103 (fun z_76 hz_76 => ?_)
          refine x_putF (fs2 := [.ref b, .int (iN (p0)), .int (iN (p2)), .int (iN (p1)), .int (iN (p3)), .int (iN (z_28 + 0)), .int (iN (z_76))]) hC hw hO_73 rfl hinX1 tyX1 tyX1_ok nmX1 6 (by decide) (by decide +kernel) rfl rfl rfl rfl (Nat.le_of_ble_eq_true rfl) rfl dX1_init_106 (fun H locs hw => ?_)
          obtain ⟨M_77, hM_78⟩ : ∃ z, z = va_up M_71 y (some (.inr (3, [.ref b, .int (iN (p0)), .int (iN (p2)), .int (iN (p1)), .int (iN (p3)), .int (iN (z_28 + 0)), .int (iN (z_76))]))) := ⟨_, rfl⟩
          rw [← hM_78] at hw
          have hO_79 : M_77 y = some (.inr (3, [.ref b, .int (iN (p0)), .int (iN (p2)), .int (iN (p1)), .int (iN (p3)), .int (iN (z_28 + 0)), .int (iN (z_76))])) := by rw [hM_78, va_up_self]
          have sm_80 := xS1.up hM_78
          have h_81 := h_75.kept1 sm_80 (by decide) hO_73
          exact x_vret hC hw dX1_init_109 (by first | decide | omega) (by first | decide | omega) ⟨rfl, vi_eq (show swN o p0 p1 = z_28 + 0 from sw_end (by omega)) (fun e1 => show ewN o p0 p1 p2 p3 = z_76 from ew_end (e := z_69 + 0) e1 (by omega) hz_76) (fun e1 e2 => by rw [e1, e2]; exact ⟨hO_79, by omega, by omega⟩), fun a q_y => (((((((sm_80 a q_y).trans (sm_74 a q_y)).trans (sm_24 a q_y)).trans (sm_19 a q_y)).trans (sm_14 a q_y)).trans (sm_9 a q_y)).trans (sm_4 a q_y))⟩
        · refine x_const hC dX1_init_84 ?_
          refine lv_goto (tgt := 89) hC.1 hC.2.1 dX1_init_85 (by decide) ?_
          refine x_iadd hC dX1_init_89 ?_
          refine lv_istore (lv' := [(7, .int (iN (z_69 + 1))), (6, .int (iN (z_28 + 0))), (0, .ref y), (1, .ref b), (2, .int (iN (p0))), (3, .int (iN (p1))), (4, .int (iN (p2))), (5, .int (iN (p3)))]) hC.1 hC.2.1 dX1_init_90 hl (by decide) rfl (fun ls hl => ?_)
          refine lv_aload_n hC.1 hC.2.1 dX1_init_92 rfl (lv_at hl 2 rfl) ?_
          refine lv_iload hC.1 hC.2.1 dX1_init_93 (lv_at hl 1 rfl) ?_
          refine x_putF (fs2 := [.ref b, .int (iN (p0)), .int (iN (p2)), .int (iN (p1)), .int (iN (p3)), .int (iN (z_28 + 0)), .int 0]) hC hw hO_23 rfl hinX1 tyX1 tyX1_ok nmX1 5 (by decide) (by decide +kernel) rfl rfl rfl rfl (Nat.le_of_ble_eq_true rfl) rfl dX1_init_95 (fun H locs hw => ?_)
          obtain ⟨M_82, hM_83⟩ : ∃ z, z = va_up M_21 y (some (.inr (3, [.ref b, .int (iN (p0)), .int (iN (p2)), .int (iN (p1)), .int (iN (p3)), .int (iN (z_28 + 0)), .int 0]))) := ⟨_, rfl⟩
          rw [← hM_83] at hw
          have hO_84 : M_82 y = some (.inr (3, [.ref b, .int (iN (p0)), .int (iN (p2)), .int (iN (p1)), .int (iN (p3)), .int (iN (z_28 + 0)), .int 0])) := by rw [hM_83, va_up_self]
          have sm_85 := xS1.up hM_83
          have h_86 := h_25.kept1 sm_85 (by decide) hO_23
          refine lv_aload_n hC.1 hC.2.1 dX1_init_98 rfl (lv_at hl 2 rfl) ?_
          refine lv_iload hC.1 hC.2.1 dX1_init_99 (lv_at hl 1 rfl) ?_
          refine lv_iload hC.1 hC.2.1 dX1_init_101 (lv_at hl 0 rfl) ?_
          refine x_max hC (lv_size hl) ⟨by omega, by omega⟩ ⟨by omega, by omega⟩ (by decide +kernel) (by decide +kernel) (by decide +kernel) (by decide +kernel) (by rw [hRf]; decide) (by rw [hRl]; exact Nat.le_of_ble_eq_true rfl) (by first | (rw [hRc]; decide) | omega) (by first | (rw [hRs]; decide) | omega) dX1_init_103 (fun z_87 hz_87 => ?_)
          refine x_putF (fs2 := [.ref b, .int (iN (p0)), .int (iN (p2)), .int (iN (p1)), .int (iN (p3)), .int (iN (z_28 + 0)), .int (iN (z_87))]) hC hw hO_84 rfl hinX1 tyX1 tyX1_ok nmX1 6 (by decide) (by decide +kernel) rfl rfl rfl rfl (Nat.le_of_ble_eq_true rfl) rfl dX1_init_106 (fun H locs hw => ?_)
          obtain ⟨M_88, hM_89⟩ : ∃ z, z = va_up M_82 y (some (.inr (3, [.ref b, .int (iN (p0)), .int (iN (p2)), .int (iN (p1)), .int (iN (p3)), .int (iN (z_28 + 0)), .int (iN (z_87))]))) := ⟨_, rfl⟩
          rw [← hM_89] at hw
          have hO_90 : M_88 y = some (.inr (3, [.ref b, .int (iN (p0)), .int (iN (p2)), .int (iN (p1)), .int (iN (p3)), .int (iN (z_28 + 0)), .int (iN (z_87))])) := by rw [hM_89, va_up_self]
          have sm_91 := xS1.up hM_89
          have h_92 := h_86.kept1 sm_91 (by decide) hO_84
          exact x_vret hC hw dX1_init_109 (by first | decide | omega) (by first | decide | omega) ⟨rfl, vi_eq (show swN o p0 p1 = z_28 + 0 from sw_end (by omega)) (fun e1 => show ewN o p0 p1 p2 p3 = z_87 from ew_end (e := z_69 + 1) e1 (by omega) hz_87) (fun e1 e2 => by rw [e1, e2]; exact ⟨hO_90, by omega, by omega⟩), fun a q_y => (((((((sm_91 a q_y).trans (sm_85 a q_y)).trans (sm_24 a q_y)).trans (sm_19 a q_y)).trans (sm_14 a q_y)).trans (sm_9 a q_y)).trans (sm_4 a q_y))⟩
      · clear hk2 hc2
        refine x_sipush hC dX1_init_67 (by decide +kernel) ?_
        refine lv_goto (tgt := 90) hC.1 hC.2.1 dX1_init_70 (by decide) ?_
        refine lv_istore (lv' := [(7, .int (iN (1024))), (6, .int (iN (z_28 + 0))), (0, .ref y), (1, .ref b), (2, .int (iN (p0))), (3, .int (iN (p1))), (4, .int (iN (p2))), (5, .int (iN (p3)))]) hC.1 hC.2.1 dX1_init_90 hl (by decide) rfl (fun ls hl => ?_)
        refine lv_aload_n hC.1 hC.2.1 dX1_init_92 rfl (lv_at hl 2 rfl) ?_
        refine lv_iload hC.1 hC.2.1 dX1_init_93 (lv_at hl 1 rfl) ?_
        refine x_putF (fs2 := [.ref b, .int (iN (p0)), .int (iN (p2)), .int (iN (p1)), .int (iN (p3)), .int (iN (z_28 + 0)), .int 0]) hC hw hO_23 rfl hinX1 tyX1 tyX1_ok nmX1 5 (by decide) (by decide +kernel) rfl rfl rfl rfl (Nat.le_of_ble_eq_true rfl) rfl dX1_init_95 (fun H locs hw => ?_)
        obtain ⟨M_93, hM_94⟩ : ∃ z, z = va_up M_21 y (some (.inr (3, [.ref b, .int (iN (p0)), .int (iN (p2)), .int (iN (p1)), .int (iN (p3)), .int (iN (z_28 + 0)), .int 0]))) := ⟨_, rfl⟩
        rw [← hM_94] at hw
        have hO_95 : M_93 y = some (.inr (3, [.ref b, .int (iN (p0)), .int (iN (p2)), .int (iN (p1)), .int (iN (p3)), .int (iN (z_28 + 0)), .int 0])) := by rw [hM_94, va_up_self]
        have sm_96 := xS1.up hM_94
        have h_97 := h_25.kept1 sm_96 (by decide) hO_23
        refine lv_aload_n hC.1 hC.2.1 dX1_init_98 rfl (lv_at hl 2 rfl) ?_
        refine lv_iload hC.1 hC.2.1 dX1_init_99 (lv_at hl 1 rfl) ?_
        refine lv_iload hC.1 hC.2.1 dX1_init_101 (lv_at hl 0 rfl) ?_
        refine x_max hC (lv_size hl) ⟨by omega, by omega⟩ ⟨by omega, by omega⟩ (by decide +kernel) (by decide +kernel) (by decide +kernel) (by decide +kernel) (by rw [hRf]; decide) (by rw [hRl]; exact Nat.le_of_ble_eq_true rfl) (by first | (rw [hRc]; decide) | omega) (by first | (rw [hRs]; decide) | omega) dX1_init_103 (fun z_98 hz_98 => ?_)
        refine x_putF (fs2 := [.ref b, .int (iN (p0)), .int (iN (p2)), .int (iN (p1)), .int (iN (p3)), .int (iN (z_28 + 0)), .int (iN (z_98))]) hC hw hO_95 rfl hinX1 tyX1 tyX1_ok nmX1 6 (by decide) (by decide +kernel) rfl rfl rfl rfl (Nat.le_of_ble_eq_true rfl) rfl dX1_init_106 (fun H locs hw => ?_)
        obtain ⟨M_99, hM_100⟩ : ∃ z, z = va_up M_93 y (some (.inr (3, [.ref b, .int (iN (p0)), .int (iN (p2)), .int (iN (p1)), .int (iN (p3)), .int (iN (z_28 + 0)), .int (iN (z_98))]))) := ⟨_, rfl⟩
        rw [← hM_100] at hw
        have hO_101 : M_99 y = some (.inr (3, [.ref b, .int (iN (p0)), .int (iN (p2)), .int (iN (p1)), .int (iN (p3)), .int (iN (z_28 + 0)), .int (iN (z_98))])) := by rw [hM_100, va_up_self]
        have sm_102 := xS1.up hM_100
        have h_103 := h_97.kept1 sm_102 (by decide) hO_95
        exact x_vret hC hw dX1_init_109 (by first | decide | omega) (by first | decide | omega) ⟨rfl, vi_eq (show swN o p0 p1 = z_28 + 0 from sw_end (by omega)) (fun e1 => show ewN o p0 p1 p2 p3 = z_98 from ew_end (e := 1024) e1 (by omega) hz_98) (fun e1 e2 => by rw [e1, e2]; exact ⟨hO_101, by omega, by omega⟩), fun a q_y => (((((((sm_102 a q_y).trans (sm_96 a q_y)).trans (sm_24 a q_y)).trans (sm_19 a q_y)).trans (sm_14 a q_y)).trans (sm_9 a q_y)).trans (sm_4 a q_y))⟩
  · clear hk0 hc0
    refine x_const hC dX1_init_38 ?_
    refine lv_goto (tgt := 57) hC.1 hC.2.1 dX1_init_39 (by decide) ?_
    refine lv_istore (lv' := [(6, .int (iN (0))), (0, .ref y), (1, .ref b), (2, .int (iN (p0))), (3, .int (iN (p1))), (4, .int (iN (p2))), (5, .int (iN (p3)))]) hC.1 hC.2.1 dX1_init_57 hl (by decide) rfl (fun ls hl => ?_)
    refine lv_iload hC.1 hC.2.1 dX1_init_59 (lv_at hl 5 rfl) ?_
    refine x_sipush hC dX1_init_61 (by decide +kernel) ?_
    refine x_icmp_ne (tgt := 73) hC ⟨by omega, by omega⟩ ⟨by omega, by omega⟩ dX1_init_64 (by decide) (fun c_104 => ?_) (fun c_104 => ?_)
    · replace hk2 := hk2.resolve_left (by first | exact c_104 | omega)
      replace hc2 := hc2 (by first | exact c_104 | omega)
      refine lv_aload_n hC.1 hC.2.1 dX1_init_73 rfl (lv_at hl 2 rfl) ?_
      refine lv_iload hC.1 hC.2.1 dX1_init_74 (lv_at hl 5 rfl) ?_
      refine x_callV hC hw (lv_size hl) (c_X0_weight l G h_25 (show o < 3 by first | assumption | omega) hV (by first | assumption | omega) (by first | assumption | omega) (p0 := p2) (by first | assumption | omega)) gX1_init_X0_weight rfl dv_X0_weight h_25.1 rfl rfl (Nat.le_of_ble_eq_true rfl) (by rw [hRf]; decide) (by rw [hRl]; decide) (by first | (rw [hRc]; decide) | omega) (by first | (rw [hRs]; decide) | omega) dX1_init_76 (fun r9 M_105 H locs hq hw => ?_)
      obtain ⟨z_106, rfl, hM9, hz_106, hz_106w⟩ := hq
      rw [hM9] at hw
      show W p l e R s m args below meth c H locs _ _ _ (F0 m 79 ls [.int (iN (z_106))])
      refine lv_iload hC.1 hC.2.1 dX1_init_79 (lv_at hl 6 rfl) ?_
      refine x_if_eq (tgt := 88) hC ⟨by omega, by omega⟩ dX1_init_81 (by decide) (fun c_107 => ?_) (fun c_107 => ?_)
      · refine x_const hC dX1_init_88 ?_
        refine x_iadd hC dX1_init_89 ?_
        refine lv_istore (lv' := [(7, .int (iN (z_106 + 0))), (6, .int (iN (0))), (0, .ref y), (1, .ref b), (2, .int (iN (p0))), (3, .int (iN (p1))), (4, .int (iN (p2))), (5, .int (iN (p3)))]) hC.1 hC.2.1 dX1_init_90 hl (by decide) rfl (fun ls hl => ?_)
        refine lv_aload_n hC.1 hC.2.1 dX1_init_92 rfl (lv_at hl 2 rfl) ?_
        refine lv_iload hC.1 hC.2.1 dX1_init_93 (lv_at hl 1 rfl) ?_
        refine x_putF (fs2 := [.ref b, .int (iN (p0)), .int (iN (p2)), .int (iN (p1)), .int (iN (p3)), .int (iN (0)), .int 0]) hC hw hO_23 rfl hinX1 tyX1 tyX1_ok nmX1 5 (by decide) (by decide +kernel) rfl rfl rfl rfl (Nat.le_of_ble_eq_true rfl) rfl dX1_init_95 (fun H locs hw => ?_)
        obtain ⟨M_108, hM_109⟩ : ∃ z, z = va_up M_21 y (some (.inr (3, [.ref b, .int (iN (p0)), .int (iN (p2)), .int (iN (p1)), .int (iN (p3)), .int (iN (0)), .int 0]))) := ⟨_, rfl⟩
        rw [← hM_109] at hw
        have hO_110 : M_108 y = some (.inr (3, [.ref b, .int (iN (p0)), .int (iN (p2)), .int (iN (p1)), .int (iN (p3)), .int (iN (0)), .int 0])) := by rw [hM_109, va_up_self]
        have sm_111 := xS1.up hM_109
        have h_112 := h_25.kept1 sm_111 (by decide) hO_23
        refine lv_aload_n hC.1 hC.2.1 dX1_init_98 rfl (lv_at hl 2 rfl) ?_
        refine lv_iload hC.1 hC.2.1 dX1_init_99 (lv_at hl 1 rfl) ?_
        refine lv_iload hC.1 hC.2.1 dX1_init_101 (lv_at hl 0 rfl) ?_
        refine x_max hC (lv_size hl) ⟨by omega, by omega⟩ ⟨by omega, by omega⟩ (by decide +kernel) (by decide +kernel) (by decide +kernel) (by decide +kernel) (by rw [hRf]; decide) (by rw [hRl]; exact Nat.le_of_ble_eq_true rfl) (by first | (rw [hRc]; decide) | omega) (by first | (rw [hRs]; decide) | omega) dX1_init_103 (fun z_113 hz_113 => ?_)
        refine x_putF (fs2 := [.ref b, .int (iN (p0)), .int (iN (p2)), .int (iN (p1)), .int (iN (p3)), .int (iN (0)), .int (iN (z_113))]) hC hw hO_110 rfl hinX1 tyX1 tyX1_ok nmX1 6 (by decide) (by decide +kernel) rfl rfl rfl rfl (Nat.le_of_ble_eq_true rfl) rfl dX1_init_106 (fun H locs hw => ?_)
        obtain ⟨M_114, hM_115⟩ : ∃ z, z = va_up M_108 y (some (.inr (3, [.ref b, .int (iN (p0)), .int (iN (p2)), .int (iN (p1)), .int (iN (p3)), .int (iN (0)), .int (iN (z_113))]))) := ⟨_, rfl⟩
        rw [← hM_115] at hw
        have hO_116 : M_114 y = some (.inr (3, [.ref b, .int (iN (p0)), .int (iN (p2)), .int (iN (p1)), .int (iN (p3)), .int (iN (0)), .int (iN (z_113))])) := by rw [hM_115, va_up_self]
        have sm_117 := xS1.up hM_115
        have h_118 := h_112.kept1 sm_117 (by decide) hO_110
        exact x_vret hC hw dX1_init_109 (by first | decide | omega) (by first | decide | omega) ⟨rfl, vi_eq (show swN o p0 p1 = 0 from sw_end (by omega)) (fun e1 => show ewN o p0 p1 p2 p3 = z_113 from ew_end (e := z_106 + 0) e1 (by omega) hz_113) (fun e1 e2 => by rw [e1, e2]; exact ⟨hO_116, by omega, by omega⟩), fun a q_y => (((((((sm_117 a q_y).trans (sm_111 a q_y)).trans (sm_24 a q_y)).trans (sm_19 a q_y)).trans (sm_14 a q_y)).trans (sm_9 a q_y)).trans (sm_4 a q_y))⟩
      · refine x_const hC dX1_init_84 ?_
        refine lv_goto (tgt := 89) hC.1 hC.2.1 dX1_init_85 (by decide) ?_
        refine x_iadd hC dX1_init_89 ?_
        refine lv_istore (lv' := [(7, .int (iN (z_106 + 1))), (6, .int (iN (0))), (0, .ref y), (1, .ref b), (2, .int (iN (p0))), (3, .int (iN (p1))), (4, .int (iN (p2))), (5, .int (iN (p3)))]) hC.1 hC.2.1 dX1_init_90 hl (by decide) rfl (fun ls hl => ?_)
        refine lv_aload_n hC.1 hC.2.1 dX1_init_92 rfl (lv_at hl 2 rfl) ?_
        refine lv_iload hC.1 hC.2.1 dX1_init_93 (lv_at hl 1 rfl) ?_
        refine x_putF (fs2 := [.ref b, .int (iN (p0)), .int (iN (p2)), .int (iN (p1)), .int (iN (p3)), .int (iN (0)), .int 0]) hC hw hO_23 rfl hinX1 tyX1 tyX1_ok nmX1 5 (by decide) (by decide +kernel) rfl rfl rfl rfl (Nat.le_of_ble_eq_true rfl) rfl dX1_init_95 (fun H locs hw => ?_)
        obtain ⟨M_119, hM_120⟩ : ∃ z, z = va_up M_21 y (some (.inr (3, [.ref b, .int (iN (p0)), .int (iN (p2)), .int (iN (p1)), .int (iN (p3)), .int (iN (0)), .int 0]))) := ⟨_, rfl⟩
        rw [← hM_120] at hw
        have hO_121 : M_119 y = some (.inr (3, [.ref b, .int (iN (p0)), .int (iN (p2)), .int (iN (p1)), .int (iN (p3)), .int (iN (0)), .int 0])) := by rw [hM_120, va_up_self]
        have sm_122 := xS1.up hM_120
        have h_123 := h_25.kept1 sm_122 (by decide) hO_23
        refine lv_aload_n hC.1 hC.2.1 dX1_init_98 rfl (lv_at hl 2 rfl) ?_
        refine lv_iload hC.1 hC.2.1 dX1_init_99 (lv_at hl 1 rfl) ?_
        refine lv_iload hC.1 hC.2.1 dX1_init_101 (lv_at hl 0 rfl) ?_
        refine x_max hC (lv_size hl) ⟨by omega, by omega⟩ ⟨by omega, by omega⟩ (by decide +kernel) (by decide +kernel) (by decide +kernel) (by decide +kernel) (by rw [hRf]; decide) (by rw [hRl]; exact Nat.le_of_ble_eq_true rfl) (by first | (rw [hRc]; decide) | omega) (by first | (rw [hRs]; decide) | omega) dX1_init_103 (fun z_124 hz_124 => ?_)
        refine x_putF (fs2 := [.ref b, .int (iN (p0)), .int (iN (p2)), .int (iN (p1)), .int (iN (p3)), .int (iN (0)), .int (iN (z_124))]) hC hw hO_121 rfl hinX1 tyX1 tyX1_ok nmX1 6 (by decide) (by decide +kernel) rfl rfl rfl rfl (Nat.le_of_ble_eq_true rfl) rfl dX1_init_106 (fun H locs hw => ?_)
        obtain ⟨M_125, hM_126⟩ : ∃ z, z = va_up M_119 y (some (.inr (3, [.ref b, .int (iN (p0)), .int (iN (p2)), .int (iN (p1)), .int (iN (p3)), .int (iN (0)), .int (iN (z_124))]))) := ⟨_, rfl⟩
        rw [← hM_126] at hw
        have hO_127 : M_125 y = some (.inr (3, [.ref b, .int (iN (p0)), .int (iN (p2)), .int (iN (p1)), .int (iN (p3)), .int (iN (0)), .int (iN (z_124))])) := by rw [hM_126, va_up_self]
        have sm_128 := xS1.up hM_126
        have h_129 := h_123.kept1 sm_128 (by decide) hO_121
        exact x_vret hC hw dX1_init_109 (by first | decide | omega) (by first | decide | omega) ⟨rfl, vi_eq (show swN o p0 p1 = 0 from sw_end (by omega)) (fun e1 => show ewN o p0 p1 p2 p3 = z_124 from ew_end (e := z_106 + 1) e1 (by omega) hz_124) (fun e1 e2 => by rw [e1, e2]; exact ⟨hO_127, by omega, by omega⟩), fun a q_y => (((((((sm_128 a q_y).trans (sm_122 a q_y)).trans (sm_24 a q_y)).trans (sm_19 a q_y)).trans (sm_14 a q_y)).trans (sm_9 a q_y)).trans (sm_4 a q_y))⟩
    · clear hk2 hc2
      refine x_sipush hC dX1_init_67 (by decide +kernel) ?_
      refine lv_goto (tgt := 90) hC.1 hC.2.1 dX1_init_70 (by decide) ?_
      refine lv_istore (lv' := [(7, .int (iN (1024))), (6, .int (iN (0))), (0, .ref y), (1, .ref b), (2, .int (iN (p0))), (3, .int (iN (p1))), (4, .int (iN (p2))), (5, .int (iN (p3)))]) hC.1 hC.2.1 dX1_init_90 hl (by decide) rfl (fun ls hl => ?_)
      refine lv_aload_n hC.1 hC.2.1 dX1_init_92 rfl (lv_at hl 2 rfl) ?_
      refine lv_iload hC.1 hC.2.1 dX1_init_93 (lv_at hl 1 rfl) ?_
      refine x_putF (fs2 := [.ref b, .int (iN (p0)), .int (iN (p2)), .int (iN (p1)), .int (iN (p3)), .int (iN (0)), .int 0]) hC hw hO_23 rfl hinX1 tyX1 tyX1_ok nmX1 5 (by decide) (by decide +kernel) rfl rfl rfl rfl (Nat.le_of_ble_eq_true rfl) rfl dX1_init_95 (fun H locs hw => ?_)
      obtain ⟨M_130, hM_131⟩ : ∃ z, z = va_up M_21 y (some (.inr (3, [.ref b, .int (iN (p0)), .int (iN (p2)), .int (iN (p1)), .int (iN (p3)), .int (iN (0)), .int 0]))) := ⟨_, rfl⟩
      rw [← hM_131] at hw
      have hO_132 : M_130 y = some (.inr (3, [.ref b, .int (iN (p0)), .int (iN (p2)), .int (iN (p1)), .int (iN (p3)), .int (iN (0)), .int 0])) := by rw [hM_131, va_up_self]
      have sm_133 := xS1.up hM_131
      have h_134 := h_25.kept1 sm_133 (by decide) hO_23
      refine lv_aload_n hC.1 hC.2.1 dX1_init_98 rfl (lv_at hl 2 rfl) ?_
      refine lv_iload hC.1 hC.2.1 dX1_init_99 (lv_at hl 1 rfl) ?_
      refine lv_iload hC.1 hC.2.1 dX1_init_101 (lv_at hl 0 rfl) ?_
      refine x_max hC (lv_size hl) ⟨by omega, by omega⟩ ⟨by omega, by omega⟩ (by decide +kernel) (by decide +kernel) (by decide +kernel) (by decide +kernel) (by rw [hRf]; decide) (by rw [hRl]; exact Nat.le_of_ble_eq_true rfl) (by first | (rw [hRc]; decide) | omega) (by first | (rw [hRs]; decide) | omega) dX1_init_103 (fun z_135 hz_135 => ?_)
      refine x_putF (fs2 := [.ref b, .int (iN (p0)), .int (iN (p2)), .int (iN (p1)), .int (iN (p3)), .int (iN (0)), .int (iN (z_135))]) hC hw hO_132 rfl hinX1 tyX1 tyX1_ok nmX1 6 (by decide) (by decide +kernel) rfl rfl rfl rfl (Nat.le_of_ble_eq_true rfl) rfl dX1_init_106 (fun H locs hw => ?_)
      obtain ⟨M_136, hM_137⟩ : ∃ z, z = va_up M_130 y (some (.inr (3, [.ref b, .int (iN (p0)), .int (iN (p2)), .int (iN (p1)), .int (iN (p3)), .int (iN (0)), .int (iN (z_135))]))) := ⟨_, rfl⟩
      rw [← hM_137] at hw
      have hO_138 : M_136 y = some (.inr (3, [.ref b, .int (iN (p0)), .int (iN (p2)), .int (iN (p1)), .int (iN (p3)), .int (iN (0)), .int (iN (z_135))])) := by rw [hM_137, va_up_self]
      have sm_139 := xS1.up hM_137
      have h_140 := h_134.kept1 sm_139 (by decide) hO_132
      exact x_vret hC hw dX1_init_109 (by first | decide | omega) (by first | decide | omega) ⟨rfl, vi_eq (show swN o p0 p1 = 0 from sw_end (by omega)) (fun e1 => show ewN o p0 p1 p2 p3 = z_135 from ew_end (e := 1024) e1 (by omega) hz_135) (fun e1 e2 => by rw [e1, e2]; exact ⟨hO_138, by omega, by omega⟩), fun a q_y => (((((((sm_139 a q_y).trans (sm_133 a q_y)).trans (sm_24 a q_y)).trans (sm_19 a q_y)).trans (sm_14 a q_y)).trans (sm_9 a q_y)).trans (sm_4 a q_y))⟩
set_option maxHeartbeats 4000000 in
set_option maxRecDepth 100000 in
theorem c_X2_init (l : Launch) (G : xG) {M : HM} {w : Nat} (hO : M w = some (.inr (4, [.null, .int 0, .int (iN (0)), .int 0, .int 0]))) {y : Nat} {lo up sw ew : Int32} {li ui : Int} {b k v o : Nat} {no : Int32} {t kc sz : Int} {fk fv : Nat → Int32} {V : Nat → Int} (hv9 : Vw M y b lo up sw ew li ui) (hB : Bk G M b k v no (iN ((o : Nat) : Int)) (iN (t)) (iN (kc)) sz fk fv) (ho : o < 3) (hV : BV o V sz.toNat fk fv) (htt : 0 ≤ t ∧ t ≤ 1000000) (hkk : 0 ≤ kc ∧ kc ≤ 1000000) : xMet l G yX2_init wsX2_init 1 20 0 0 [.ref w, .ref y] M (fun r M1 => r = none ∧ Wk M1 w y (iN (-10000)) (iN (0)) (iN (kc)) 0 ∧ xS1 M M1 w) := by
  refine x_intro (cc := cX2_init) (maxL := 2) (ret := none) (by exact pln_RX2) rfl (Nat.le_of_ble_eq_true rfl) ?_
  intro p e R s m args below meth c ls hRf hRc hRs hRl hC hw hl
  obtain ⟨-, -, -, -, hs0, hs1⟩ := id hB
  have hinX2 : ∀ w ∈ wsX20, w ∈ wsX2_init := fun w h => (List.mem_cons_of_mem _ (List.mem_append_left _ (List.mem_append_left _ (List.mem_append_right _ h))))
  have hl : lv_has ls 2 [(0, .ref w), (1, .ref y)] := hl
  refine lv_aload_n hC.1 hC.2.1 dX2_init_0 rfl (lv_at hl 0 rfl) ?_
  refine x_objInit hC (lv_size hl) (by decide +kernel) (by decide +kernel) (by decide +kernel) (by rw [hRf]; decide) (by rw [hRl]; exact Nat.le_of_ble_eq_true rfl) dX2_init_1 ?_
  refine lv_aload_n hC.1 hC.2.1 dX2_init_4 rfl (lv_at hl 0 rfl) ?_
  refine lv_aload_n hC.1 hC.2.1 dX2_init_5 rfl (lv_at hl 1 rfl) ?_
  refine x_putF (fs2 := [.ref y, .int 0, .int (iN (0)), .int 0, .int 0]) hC hw hO rfl hinX2 tyX2 tyX2_ok nmX2 0 (by decide) (by decide +kernel) rfl rfl rfl rfl (Nat.le_of_ble_eq_true rfl) rfl dX2_init_6 (fun H locs hw => ?_)
  obtain ⟨M_1, hM_2⟩ : ∃ z, z = va_up M w (some (.inr (4, [.ref y, .int 0, .int (iN (0)), .int 0, .int 0]))) := ⟨_, rfl⟩
  rw [← hM_2] at hw
  have hO_3 : M_1 w = some (.inr (4, [.ref y, .int 0, .int (iN (0)), .int 0, .int 0])) := by rw [hM_2, va_up_self]
  have sm_4 := xS1.up hM_2
  have h_5 := hB.kept1 sm_4 (by decide) hO
  have h_6 : Vw _ y b lo up sw ew li ui := And.intro (x_k1 sm_4 hO (by decide) hv9.1) hv9.2
  refine lv_aload_n hC.1 hC.2.1 dX2_init_9 rfl (lv_at hl 0 rfl) ?_
  refine x_sipush hC dX2_init_10 (by decide +kernel) ?_
  refine x_put (fs2 := [.ref y, .int (iN ((-10000))), .int (iN (0)), .int 0, .int 0]) hC hw hO_3 rfl hinX2 tyX2 tyX2_ok nmX2 1 (by decide) (List.mem_cons_of_mem _ (List.mem_append_left _ (List.mem_append_left _ (List.mem_append_left _ (List.mem_of_getElem? (i := 4) rfl))))) rfl rfl rfl (Nat.le_of_ble_eq_true rfl) rfl dX2_init_13 (fun H locs hw => ?_)
  obtain ⟨M_7, hM_8⟩ : ∃ z, z = va_up M_1 w (some (.inr (4, [.ref y, .int (iN ((-10000))), .int (iN (0)), .int 0, .int 0]))) := ⟨_, rfl⟩
  rw [← hM_8] at hw
  have hO_9 : M_7 w = some (.inr (4, [.ref y, .int (iN ((-10000))), .int (iN (0)), .int 0, .int 0])) := by rw [hM_8, va_up_self]
  have sm_10 := xS1.up hM_8
  have h_11 := h_5.kept1 sm_10 (by decide) hO_3
  have h_12 : Vw _ y b lo up sw ew li ui := And.intro (x_k1 sm_10 hO_3 (by decide) h_6.1) h_6.2
  refine lv_aload_n hC.1 hC.2.1 dX2_init_16 rfl (lv_at hl 0 rfl) ?_
  refine lv_aload_n hC.1 hC.2.1 dX2_init_17 rfl (lv_at hl 1 rfl) ?_
  refine x_callV hC hw (lv_size hl) (c_X1_book l G h_12) gX2_init_X1_book rfl dv_X1_book h_12.1 rfl rfl (Nat.le_of_ble_eq_true rfl) (by rw [hRf]; decide) (by rw [hRl]; decide) (by first | (rw [hRc]; decide) | omega) (by first | (rw [hRs]; decide) | omega) dX2_init_18 (fun r9 M_13 H locs hq hw => ?_)
  obtain ⟨rfl, hM9⟩ := hq
  rw [hM9] at hw
  show W p l e R s m args below meth c H locs _ _ _ (F0 m 21 ls [.ref b, .ref w])
  refine x_callV hC hw (lv_size hl) (c_X0_keyChanges l G h_11 (show o < 3 by first | assumption | omega) hV (by first | assumption | omega) (by first | assumption | omega)) gX2_init_X0_keyChanges rfl dv_X0_keyChanges h_11.1 rfl rfl (Nat.le_of_ble_eq_true rfl) (by rw [hRf]; decide) (by rw [hRl]; decide) (by first | (rw [hRc]; decide) | omega) (by first | (rw [hRs]; decide) | omega) dX2_init_21 (fun r9 M_14 H locs hq hw => ?_)
  obtain ⟨rfl, hM9⟩ := hq
  rw [hM9] at hw
  show W p l e R s m args below meth c H locs _ _ _ (F0 m 24 ls [.int (iN (kc)), .ref w])
  refine x_put (fs2 := [.ref y, .int (iN ((-10000))), .int (iN (0)), .int 0, .int (iN (kc))]) hC hw hO_9 rfl hinX2 tyX2 tyX2_ok nmX2 4 (by decide) (List.mem_cons_of_mem _ (List.mem_append_left _ (List.mem_append_left _ (List.mem_append_left _ (List.mem_of_getElem? (i := 5) rfl))))) rfl rfl rfl (Nat.le_of_ble_eq_true rfl) rfl dX2_init_24 (fun H locs hw => ?_)
  obtain ⟨M_15, hM_16⟩ : ∃ z, z = va_up M_7 w (some (.inr (4, [.ref y, .int (iN ((-10000))), .int (iN (0)), .int 0, .int (iN (kc))]))) := ⟨_, rfl⟩
  rw [← hM_16] at hw
  have hO_17 : M_15 w = some (.inr (4, [.ref y, .int (iN ((-10000))), .int (iN (0)), .int 0, .int (iN (kc))])) := by rw [hM_16, va_up_self]
  have sm_18 := xS1.up hM_16
  have h_19 := h_11.kept1 sm_18 (by decide) hO_9
  have h_20 : Vw _ y b lo up sw ew li ui := And.intro (x_k1 sm_18 hO_9 (by decide) h_12.1) h_12.2
  exact x_vret hC hw dX2_init_27 (by first | decide | omega) (by first | decide | omega) ⟨rfl, ⟨hO_17, by omega⟩, fun a q_w => (((sm_18 a q_w).trans (sm_10 a q_w)).trans (sm_4 a q_w))⟩
set_option maxHeartbeats 4000000 in
set_option maxRecDepth 100000 in
theorem c_X3_openViews (l : Launch) (G : xG) {M : HM} {h0 bs vs : Nat} {og : Option Nat} {kk kv rf : Int32} {qb qk qv : Nat → Nat} {fb fv : Nat → Option Nat} {O : OW} {Wv : VW} {V : BW} {T C : Nat → Int} {K : WA} {N : Int} (hR : RGx G M h0 bs vs og kk kv rf qb qk qv fb fv O O Wv V T C K) (hcb : cbN N T C) (hN : N ≤ 590) : xMet l G yX3_openViews wsX3_openViews 0 0 0 0 [.ref h0] M (fun r M1 => ∃ z : Int, r = some (.int (iN z)) ∧ M1 = M ∧ (0 ≤ z ∧ z ≤ 4) ∧ (z = 4 ↔ frN Wv = 4) ∧ z = opC Wv 4) := by
  refine x_intro (cc := cX3_openViews) (maxL := 3) (ret := (some .int)) (by exact pln_RX3) rfl (Nat.le_of_ble_eq_true rfl) ?_
  intro p e R s m args below meth c ls hRf hRc hRs hRl hC hw hl
  have hinX3 : ∀ w ∈ wsX30, w ∈ wsX3_openViews := fun w h => (List.mem_cons_of_mem _ (List.mem_append_right _ h))
  have hl : lv_has ls 3 [(0, .ref h0)] := hl
  refine x_const hC dX3_openViews_0 ?_
  refine lv_istore_n (lv' := [(1, .int (iN (0))), (0, .ref h0)]) hC.1 hC.2.1 dX3_openViews_1 rfl hl (by decide) rfl (fun ls hl => ?_)
  refine x_const hC dX3_openViews_2 ?_
  refine lv_istore_n (lv' := [(2, .int (iN (0))), (1, .int (iN (0))), (0, .ref h0)]) hC.1 hC.2.1 dX3_openViews_3 rfl hl (by decide) rfl (fun ls hl => ?_)
  refine lv_iload_n hC.1 hC.2.1 dX3_openViews_4 rfl (lv_at hl 0 rfl) ?_
  refine lv_aload_n hC.1 hC.2.1 dX3_openViews_5 rfl (lv_at hl 2 rfl) ?_
  refine x_get hC hw hR.1 rfl hinX3 1 (by decide) (List.mem_cons_of_mem _ (List.mem_append_left _ (List.mem_of_getElem? (i := 0) rfl))) rfl dX3_openViews_6 ?_
  refine x_alen hC hw 3 hR.2.2.1 rfl dX3_openViews_9 ?_
  refine x_icmp_ge (tgt := 31) hC ⟨by decide, by decide⟩ ⟨by decide, by decide⟩ dX3_openViews_10 (by decide) (fun c_1 => ?_) (fun c_1 => ?_)
  · exact absurd c_1 (by decide)
  · refine lv_aload_n hC.1 hC.2.1 dX3_openViews_13 rfl (lv_at hl 2 rfl) ?_
    refine x_get hC hw hR.1 rfl hinX3 1 (by decide) (List.mem_cons_of_mem _ (List.mem_append_left _ (List.mem_of_getElem? (i := 0) rfl))) rfl dX3_openViews_14 ?_
    refine lv_iload_n hC.1 hC.2.1 dX3_openViews_17 rfl (lv_at hl 0 rfl) ?_
    refine x_aldq hC hw 3 hR.2.2.1 rfl (by omega) (by omega) (by omega) dX3_openViews_18 ?_
    rcases hy_3 : fv (0 : Int).toNat with _ | y_2
    · have hnhy_3 : Wv 0 = none := VwO.nil (hR.vwo (show (0 : Int).toNat < 4 by decide)) hy_3
      have hohy_3 := opN_none hnhy_3
      show W p l e R s m args below meth c _ _ _ _ _ (F0 m 19 ls [.null])
      refine lv_ifnullN (tgt := 25) hC.1 hC.2.1 dX3_openViews_19 (by decide) ?_
      refine x_iinc (lv' := [(2, .int (iN (0 + 1))), (1, .int (iN (0))), (0, .ref h0)]) hC dX3_openViews_25 hl (k := 0) rfl (by decide) rfl (fun ls hl => ?_)
      refine lv_goto (tgt := 4) hC.1 hC.2.1 dX3_openViews_28 (by decide) ?_
      refine lv_iload_n hC.1 hC.2.1 dX3_openViews_4 rfl (lv_at hl 0 rfl) ?_
      refine lv_aload_n hC.1 hC.2.1 dX3_openViews_5 rfl (lv_at hl 2 rfl) ?_
      refine x_get hC hw hR.1 rfl hinX3 1 (by decide) (List.mem_cons_of_mem _ (List.mem_append_left _ (List.mem_of_getElem? (i := 0) rfl))) rfl dX3_openViews_6 ?_
      refine x_alen hC hw 3 hR.2.2.1 rfl dX3_openViews_9 ?_
      refine x_icmp_ge (tgt := 31) hC ⟨by decide, by decide⟩ ⟨by decide, by decide⟩ dX3_openViews_10 (by decide) (fun c_4 => ?_) (fun c_4 => ?_)
      · exact absurd c_4 (by decide)
      · refine lv_aload_n hC.1 hC.2.1 dX3_openViews_13 rfl (lv_at hl 2 rfl) ?_
        refine x_get hC hw hR.1 rfl hinX3 1 (by decide) (List.mem_cons_of_mem _ (List.mem_append_left _ (List.mem_of_getElem? (i := 0) rfl))) rfl dX3_openViews_14 ?_
        refine lv_iload_n hC.1 hC.2.1 dX3_openViews_17 rfl (lv_at hl 0 rfl) ?_
        refine x_aldq hC hw 3 hR.2.2.1 rfl (by omega) (by omega) (by omega) dX3_openViews_18 ?_
        rcases hy_6 : fv (0 + 1 : Int).toNat with _ | y_5
        · have hnhy_6 : Wv 1 = none := VwO.nil (hR.vwo (show (0 + 1 : Int).toNat < 4 by decide)) hy_6
          have hohy_6 := opN_none hnhy_6
          show W p l e R s m args below meth c _ _ _ _ _ (F0 m 19 ls [.null])
          refine lv_ifnullN (tgt := 25) hC.1 hC.2.1 dX3_openViews_19 (by decide) ?_
          refine x_iinc (lv' := [(2, .int (iN ((0 + 1) + 1))), (1, .int (iN (0))), (0, .ref h0)]) hC dX3_openViews_25 hl (k := 0) rfl (by decide) rfl (fun ls hl => ?_)
          refine lv_goto (tgt := 4) hC.1 hC.2.1 dX3_openViews_28 (by decide) ?_
          refine lv_iload_n hC.1 hC.2.1 dX3_openViews_4 rfl (lv_at hl 0 rfl) ?_
          refine lv_aload_n hC.1 hC.2.1 dX3_openViews_5 rfl (lv_at hl 2 rfl) ?_
          refine x_get hC hw hR.1 rfl hinX3 1 (by decide) (List.mem_cons_of_mem _ (List.mem_append_left _ (List.mem_of_getElem? (i := 0) rfl))) rfl dX3_openViews_6 ?_
          refine x_alen hC hw 3 hR.2.2.1 rfl dX3_openViews_9 ?_
          refine x_icmp_ge (tgt := 31) hC ⟨by decide, by decide⟩ ⟨by decide, by decide⟩ dX3_openViews_10 (by decide) (fun c_7 => ?_) (fun c_7 => ?_)
          · exact absurd c_7 (by decide)
          · refine lv_aload_n hC.1 hC.2.1 dX3_openViews_13 rfl (lv_at hl 2 rfl) ?_
            refine x_get hC hw hR.1 rfl hinX3 1 (by decide) (List.mem_cons_of_mem _ (List.mem_append_left _ (List.mem_of_getElem? (i := 0) rfl))) rfl dX3_openViews_14 ?_
            refine lv_iload_n hC.1 hC.2.1 dX3_openViews_17 rfl (lv_at hl 0 rfl) ?_
            refine x_aldq hC hw 3 hR.2.2.1 rfl (by omega) (by omega) (by omega) dX3_openViews_18 ?_
            rcases hy_9 : fv ((0 + 1) + 1 : Int).toNat with _ | y_8
            · have hnhy_9 : Wv 2 = none := VwO.nil (hR.vwo (show ((0 + 1) + 1 : Int).toNat < 4 by decide)) hy_9
              have hohy_9 := opN_none hnhy_9
              show W p l e R s m args below meth c _ _ _ _ _ (F0 m 19 ls [.null])
              refine lv_ifnullN (tgt := 25) hC.1 hC.2.1 dX3_openViews_19 (by decide) ?_
              refine x_iinc (lv' := [(2, .int (iN (((0 + 1) + 1) + 1))), (1, .int (iN (0))), (0, .ref h0)]) hC dX3_openViews_25 hl (k := 0) rfl (by decide) rfl (fun ls hl => ?_)
              refine lv_goto (tgt := 4) hC.1 hC.2.1 dX3_openViews_28 (by decide) ?_
              refine lv_iload_n hC.1 hC.2.1 dX3_openViews_4 rfl (lv_at hl 0 rfl) ?_
              refine lv_aload_n hC.1 hC.2.1 dX3_openViews_5 rfl (lv_at hl 2 rfl) ?_
              refine x_get hC hw hR.1 rfl hinX3 1 (by decide) (List.mem_cons_of_mem _ (List.mem_append_left _ (List.mem_of_getElem? (i := 0) rfl))) rfl dX3_openViews_6 ?_
              refine x_alen hC hw 3 hR.2.2.1 rfl dX3_openViews_9 ?_
              refine x_icmp_ge (tgt := 31) hC ⟨by decide, by decide⟩ ⟨by decide, by decide⟩ dX3_openViews_10 (by decide) (fun c_10 => ?_) (fun c_10 => ?_)
              · exact absurd c_10 (by decide)
              · refine lv_aload_n hC.1 hC.2.1 dX3_openViews_13 rfl (lv_at hl 2 rfl) ?_
                refine x_get hC hw hR.1 rfl hinX3 1 (by decide) (List.mem_cons_of_mem _ (List.mem_append_left _ (List.mem_of_getElem? (i := 0) rfl))) rfl dX3_openViews_14 ?_
                refine lv_iload_n hC.1 hC.2.1 dX3_openViews_17 rfl (lv_at hl 0 rfl) ?_
                refine x_aldq hC hw 3 hR.2.2.1 rfl (by omega) (by omega) (by omega) dX3_openViews_18 ?_
                rcases hy_12 : fv (((0 + 1) + 1) + 1 : Int).toNat with _ | y_11
                · have hnhy_12 : Wv 3 = none := VwO.nil (hR.vwo (show (((0 + 1) + 1) + 1 : Int).toNat < 4 by decide)) hy_12
                  have hohy_12 := opN_none hnhy_12
                  show W p l e R s m args below meth c _ _ _ _ _ (F0 m 19 ls [.null])
                  refine lv_ifnullN (tgt := 25) hC.1 hC.2.1 dX3_openViews_19 (by decide) ?_
                  refine x_iinc (lv' := [(2, .int (iN ((((0 + 1) + 1) + 1) + 1))), (1, .int (iN (0))), (0, .ref h0)]) hC dX3_openViews_25 hl (k := 0) rfl (by decide) rfl (fun ls hl => ?_)
                  refine lv_goto (tgt := 4) hC.1 hC.2.1 dX3_openViews_28 (by decide) ?_
                  refine lv_iload_n hC.1 hC.2.1 dX3_openViews_4 rfl (lv_at hl 0 rfl) ?_
                  refine lv_aload_n hC.1 hC.2.1 dX3_openViews_5 rfl (lv_at hl 2 rfl) ?_
                  refine x_get hC hw hR.1 rfl hinX3 1 (by decide) (List.mem_cons_of_mem _ (List.mem_append_left _ (List.mem_of_getElem? (i := 0) rfl))) rfl dX3_openViews_6 ?_
                  refine x_alen hC hw 3 hR.2.2.1 rfl dX3_openViews_9 ?_
                  refine x_icmp_ge (tgt := 31) hC ⟨by decide, by decide⟩ ⟨by decide, by decide⟩ dX3_openViews_10 (by decide) (fun c_13 => ?_) (fun c_13 => ?_)
                  · refine lv_iload_n hC.1 hC.2.1 dX3_openViews_31 rfl (lv_at hl 1 rfl) ?_
                    exact x_iret hC hw dX3_openViews_32 (by first | decide | omega) (by first | decide | omega) ⟨0, rfl, rfl, by omega, by simp [frN, hnhy_3, hnhy_6, hnhy_9, hnhy_12], (by simp [opC, sI, opN_none hnhy_3, opN_none hnhy_6, opN_none hnhy_9, opN_none hnhy_12])⟩
                  · exact absurd c_13 (by omega)
                · obtain ⟨ux_14, hux_14, hTx_14⟩ := (hR.vwo (show (((0 + 1) + 1) + 1 : Int).toNat < 4 by decide)).yes hy_12
                  have hpx_14 := opN_some hux_14
                  have hux_149 : Wv 3 = some ux_14 := hux_14
                  show W p l e R s m args below meth c _ _ _ _ _ (F0 m 19 ls [.ref y_11])
                  refine lv_ifnull hC.1 hC.2.1 dX3_openViews_19 ?_
                  refine x_iinc (lv' := [(1, .int (iN (0 + 1))), (2, .int (iN (((0 + 1) + 1) + 1))), (0, .ref h0)]) hC dX3_openViews_22 hl (k := 1) rfl (by decide) rfl (fun ls hl => ?_)
                  refine x_iinc (lv' := [(2, .int (iN ((((0 + 1) + 1) + 1) + 1))), (1, .int (iN (0 + 1))), (0, .ref h0)]) hC dX3_openViews_25 hl (k := 1) rfl (by decide) rfl (fun ls hl => ?_)
                  refine lv_goto (tgt := 4) hC.1 hC.2.1 dX3_openViews_28 (by decide) ?_
                  refine lv_iload_n hC.1 hC.2.1 dX3_openViews_4 rfl (lv_at hl 0 rfl) ?_
                  refine lv_aload_n hC.1 hC.2.1 dX3_openViews_5 rfl (lv_at hl 2 rfl) ?_
                  refine x_get hC hw hR.1 rfl hinX3 1 (by decide) (List.mem_cons_of_mem _ (List.mem_append_left _ (List.mem_of_getElem? (i := 0) rfl))) rfl dX3_openViews_6 ?_
                  refine x_alen hC hw 3 hR.2.2.1 rfl dX3_openViews_9 ?_
                  refine x_icmp_ge (tgt := 31) hC ⟨by decide, by decide⟩ ⟨by decide, by decide⟩ dX3_openViews_10 (by decide) (fun c_15 => ?_) (fun c_15 => ?_)
                  · refine lv_iload_n hC.1 hC.2.1 dX3_openViews_31 rfl (lv_at hl 1 rfl) ?_
                    exact x_iret hC hw dX3_openViews_32 (by first | decide | omega) (by first | decide | omega) ⟨0 + 1, rfl, rfl, by omega, by simp [frN, hnhy_3, hnhy_6, hnhy_9, hux_149], (by simp [opC, sI, opN_none hnhy_3, opN_none hnhy_6, opN_none hnhy_9, opN_some hux_149])⟩
                  · exact absurd c_15 (by omega)
            · obtain ⟨ux_16, hux_16, hTx_16⟩ := (hR.vwo (show ((0 + 1) + 1 : Int).toNat < 4 by decide)).yes hy_9
              have hpx_16 := opN_some hux_16
              have hux_169 : Wv 2 = some ux_16 := hux_16
              show W p l e R s m args below meth c _ _ _ _ _ (F0 m 19 ls [.ref y_8])
              refine lv_ifnull hC.1 hC.2.1 dX3_openViews_19 ?_
              refine x_iinc (lv' := [(1, .int (iN (0 + 1))), (2, .int (iN ((0 + 1) + 1))), (0, .ref h0)]) hC dX3_openViews_22 hl (k := 1) rfl (by decide) rfl (fun ls hl => ?_)
              refine x_iinc (lv' := [(2, .int (iN (((0 + 1) + 1) + 1))), (1, .int (iN (0 + 1))), (0, .ref h0)]) hC dX3_openViews_25 hl (k := 1) rfl (by decide) rfl (fun ls hl => ?_)
              refine lv_goto (tgt := 4) hC.1 hC.2.1 dX3_openViews_28 (by decide) ?_
              refine lv_iload_n hC.1 hC.2.1 dX3_openViews_4 rfl (lv_at hl 0 rfl) ?_
              refine lv_aload_n hC.1 hC.2.1 dX3_openViews_5 rfl (lv_at hl 2 rfl) ?_
              refine x_get hC hw hR.1 rfl hinX3 1 (by decide) (List.mem_cons_of_mem _ (List.mem_append_left _ (List.mem_of_getElem? (i := 0) rfl))) rfl dX3_openViews_6 ?_
              refine x_alen hC hw 3 hR.2.2.1 rfl dX3_openViews_9 ?_
              refine x_icmp_ge (tgt := 31) hC ⟨by decide, by decide⟩ ⟨by decide, by decide⟩ dX3_openViews_10 (by decide) (fun c_17 => ?_) (fun c_17 => ?_)
              · exact absurd c_17 (by decide)
              · refine lv_aload_n hC.1 hC.2.1 dX3_openViews_13 rfl (lv_at hl 2 rfl) ?_
                refine x_get hC hw hR.1 rfl hinX3 1 (by decide) (List.mem_cons_of_mem _ (List.mem_append_left _ (List.mem_of_getElem? (i := 0) rfl))) rfl dX3_openViews_14 ?_
                refine lv_iload_n hC.1 hC.2.1 dX3_openViews_17 rfl (lv_at hl 0 rfl) ?_
                refine x_aldq hC hw 3 hR.2.2.1 rfl (by omega) (by omega) (by omega) dX3_openViews_18 ?_
                rcases hy_19 : fv (((0 + 1) + 1) + 1 : Int).toNat with _ | y_18
                · have hnhy_19 : Wv 3 = none := VwO.nil (hR.vwo (show (((0 + 1) + 1) + 1 : Int).toNat < 4 by decide)) hy_19
                  have hohy_19 := opN_none hnhy_19
                  show W p l e R s m args below meth c _ _ _ _ _ (F0 m 19 ls [.null])
                  refine lv_ifnullN (tgt := 25) hC.1 hC.2.1 dX3_openViews_19 (by decide) ?_
                  refine x_iinc (lv' := [(2, .int (iN ((((0 + 1) + 1) + 1) + 1))), (1, .int (iN (0 + 1))), (0, .ref h0)]) hC dX3_openViews_25 hl (k := 0) rfl (by decide) rfl (fun ls hl => ?_)
                  refine lv_goto (tgt := 4) hC.1 hC.2.1 dX3_openViews_28 (by decide) ?_
                  refine lv_iload_n hC.1 hC.2.1 dX3_openViews_4 rfl (lv_at hl 0 rfl) ?_
                  refine lv_aload_n hC.1 hC.2.1 dX3_openViews_5 rfl (lv_at hl 2 rfl) ?_
                  refine x_get hC hw hR.1 rfl hinX3 1 (by decide) (List.mem_cons_of_mem _ (List.mem_append_left _ (List.mem_of_getElem? (i := 0) rfl))) rfl dX3_openViews_6 ?_
                  refine x_alen hC hw 3 hR.2.2.1 rfl dX3_openViews_9 ?_
                  refine x_icmp_ge (tgt := 31) hC ⟨by decide, by decide⟩ ⟨by decide, by decide⟩ dX3_openViews_10 (by decide) (fun c_20 => ?_) (fun c_20 => ?_)
                  · refine lv_iload_n hC.1 hC.2.1 dX3_openViews_31 rfl (lv_at hl 1 rfl) ?_
                    exact x_iret hC hw dX3_openViews_32 (by first | decide | omega) (by first | decide | omega) ⟨0 + 1, rfl, rfl, by omega, by simp [frN, hnhy_3, hnhy_6, hux_169, hnhy_19], (by simp [opC, sI, opN_none hnhy_3, opN_none hnhy_6, opN_some hux_169, opN_none hnhy_19])⟩
                  · exact absurd c_20 (by omega)
                · obtain ⟨ux_21, hux_21, hTx_21⟩ := (hR.vwo (show (((0 + 1) + 1) + 1 : Int).toNat < 4 by decide)).yes hy_19
                  have hpx_21 := opN_some hux_21
                  have hux_219 : Wv 3 = some ux_21 := hux_21
                  show W p l e R s m args below meth c _ _ _ _ _ (F0 m 19 ls [.ref y_18])
                  refine lv_ifnull hC.1 hC.2.1 dX3_openViews_19 ?_
                  refine x_iinc (lv' := [(1, .int (iN ((0 + 1) + 1))), (2, .int (iN (((0 + 1) + 1) + 1))), (0, .ref h0)]) hC dX3_openViews_22 hl (k := 1) rfl (by decide) rfl (fun ls hl => ?_)
                  refine x_iinc (lv' := [(2, .int (iN ((((0 + 1) + 1) + 1) + 1))), (1, .int (iN ((0 + 1) + 1))), (0, .ref h0)]) hC dX3_openViews_25 hl (k := 1) rfl (by decide) rfl (fun ls hl => ?_)
                  refine lv_goto (tgt := 4) hC.1 hC.2.1 dX3_openViews_28 (by decide) ?_
                  refine lv_iload_n hC.1 hC.2.1 dX3_openViews_4 rfl (lv_at hl 0 rfl) ?_
                  refine lv_aload_n hC.1 hC.2.1 dX3_openViews_5 rfl (lv_at hl 2 rfl) ?_
                  refine x_get hC hw hR.1 rfl hinX3 1 (by decide) (List.mem_cons_of_mem _ (List.mem_append_left _ (List.mem_of_getElem? (i := 0) rfl))) rfl dX3_openViews_6 ?_
                  refine x_alen hC hw 3 hR.2.2.1 rfl dX3_openViews_9 ?_
                  refine x_icmp_ge (tgt := 31) hC ⟨by decide, by decide⟩ ⟨by decide, by decide⟩ dX3_openViews_10 (by decide) (fun c_22 => ?_) (fun c_22 => ?_)
                  · refine lv_iload_n hC.1 hC.2.1 dX3_openViews_31 rfl (lv_at hl 1 rfl) ?_
                    exact x_iret hC hw dX3_openViews_32 (by first | decide | omega) (by first | decide | omega) ⟨(0 + 1) + 1, rfl, rfl, by omega, by simp [frN, hnhy_3, hnhy_6, hux_169, hux_219], (by simp [opC, sI, opN_none hnhy_3, opN_none hnhy_6, opN_some hux_169, opN_some hux_219])⟩
                  · exact absurd c_22 (by omega)
        · obtain ⟨ux_23, hux_23, hTx_23⟩ := (hR.vwo (show (0 + 1 : Int).toNat < 4 by decide)).yes hy_6
          have hpx_23 := opN_some hux_23
          have hux_239 : Wv 1 = some ux_23 := hux_23
          show W p l e R s m args below meth c _ _ _ _ _ (F0 m 19 ls [.ref y_5])
          refine lv_ifnull hC.1 hC.2.1 dX3_openViews_19 ?_
          refine x_iinc (lv' := [(1, .int (iN (0 + 1))), (2, .int (iN (0 + 1))), (0, .ref h0)]) hC dX3_openViews_22 hl (k := 1) rfl (by decide) rfl (fun ls hl => ?_)
          refine x_iinc (lv' := [(2, .int (iN ((0 + 1) + 1))), (1, .int (iN (0 + 1))), (0, .ref h0)]) hC dX3_openViews_25 hl (k := 1) rfl (by decide) rfl (fun ls hl => ?_)
          refine lv_goto (tgt := 4) hC.1 hC.2.1 dX3_openViews_28 (by decide) ?_
          refine lv_iload_n hC.1 hC.2.1 dX3_openViews_4 rfl (lv_at hl 0 rfl) ?_
          refine lv_aload_n hC.1 hC.2.1 dX3_openViews_5 rfl (lv_at hl 2 rfl) ?_
          refine x_get hC hw hR.1 rfl hinX3 1 (by decide) (List.mem_cons_of_mem _ (List.mem_append_left _ (List.mem_of_getElem? (i := 0) rfl))) rfl dX3_openViews_6 ?_
          refine x_alen hC hw 3 hR.2.2.1 rfl dX3_openViews_9 ?_
          refine x_icmp_ge (tgt := 31) hC ⟨by decide, by decide⟩ ⟨by decide, by decide⟩ dX3_openViews_10 (by decide) (fun c_24 => ?_) (fun c_24 => ?_)
          · exact absurd c_24 (by decide)
          · refine lv_aload_n hC.1 hC.2.1 dX3_openViews_13 rfl (lv_at hl 2 rfl) ?_
            refine x_get hC hw hR.1 rfl hinX3 1 (by decide) (List.mem_cons_of_mem _ (List.mem_append_left _ (List.mem_of_getElem? (i := 0) rfl))) rfl dX3_openViews_14 ?_
            refine lv_iload_n hC.1 hC.2.1 dX3_openViews_17 rfl (lv_at hl 0 rfl) ?_
            refine x_aldq hC hw 3 hR.2.2.1 rfl (by omega) (by omega) (by omega) dX3_openViews_18 ?_
            rcases hy_26 : fv ((0 + 1) + 1 : Int).toNat with _ | y_25
            · have hnhy_26 : Wv 2 = none := VwO.nil (hR.vwo (show ((0 + 1) + 1 : Int).toNat < 4 by decide)) hy_26
              have hohy_26 := opN_none hnhy_26
              show W p l e R s m args below meth c _ _ _ _ _ (F0 m 19 ls [.null])
              refine lv_ifnullN (tgt := 25) hC.1 hC.2.1 dX3_openViews_19 (by decide) ?_
              refine x_iinc (lv' := [(2, .int (iN (((0 + 1) + 1) + 1))), (1, .int (iN (0 + 1))), (0, .ref h0)]) hC dX3_openViews_25 hl (k := 0) rfl (by decide) rfl (fun ls hl => ?_)
              refine lv_goto (tgt := 4) hC.1 hC.2.1 dX3_openViews_28 (by decide) ?_
              refine lv_iload_n hC.1 hC.2.1 dX3_openViews_4 rfl (lv_at hl 0 rfl) ?_
              refine lv_aload_n hC.1 hC.2.1 dX3_openViews_5 rfl (lv_at hl 2 rfl) ?_
              refine x_get hC hw hR.1 rfl hinX3 1 (by decide) (List.mem_cons_of_mem _ (List.mem_append_left _ (List.mem_of_getElem? (i := 0) rfl))) rfl dX3_openViews_6 ?_
              refine x_alen hC hw 3 hR.2.2.1 rfl dX3_openViews_9 ?_
              refine x_icmp_ge (tgt := 31) hC ⟨by decide, by decide⟩ ⟨by decide, by decide⟩ dX3_openViews_10 (by decide) (fun c_27 => ?_) (fun c_27 => ?_)
              · exact absurd c_27 (by decide)
              · refine lv_aload_n hC.1 hC.2.1 dX3_openViews_13 rfl (lv_at hl 2 rfl) ?_
                refine x_get hC hw hR.1 rfl hinX3 1 (by decide) (List.mem_cons_of_mem _ (List.mem_append_left _ (List.mem_of_getElem? (i := 0) rfl))) rfl dX3_openViews_14 ?_
                refine lv_iload_n hC.1 hC.2.1 dX3_openViews_17 rfl (lv_at hl 0 rfl) ?_
                refine x_aldq hC hw 3 hR.2.2.1 rfl (by omega) (by omega) (by omega) dX3_openViews_18 ?_
                rcases hy_29 : fv (((0 + 1) + 1) + 1 : Int).toNat with _ | y_28
                · have hnhy_29 : Wv 3 = none := VwO.nil (hR.vwo (show (((0 + 1) + 1) + 1 : Int).toNat < 4 by decide)) hy_29
                  have hohy_29 := opN_none hnhy_29
                  show W p l e R s m args below meth c _ _ _ _ _ (F0 m 19 ls [.null])
                  refine lv_ifnullN (tgt := 25) hC.1 hC.2.1 dX3_openViews_19 (by decide) ?_
                  refine x_iinc (lv' := [(2, .int (iN ((((0 + 1) + 1) + 1) + 1))), (1, .int (iN (0 + 1))), (0, .ref h0)]) hC dX3_openViews_25 hl (k := 0) rfl (by decide) rfl (fun ls hl => ?_)
                  refine lv_goto (tgt := 4) hC.1 hC.2.1 dX3_openViews_28 (by decide) ?_
                  refine lv_iload_n hC.1 hC.2.1 dX3_openViews_4 rfl (lv_at hl 0 rfl) ?_
                  refine lv_aload_n hC.1 hC.2.1 dX3_openViews_5 rfl (lv_at hl 2 rfl) ?_
                  refine x_get hC hw hR.1 rfl hinX3 1 (by decide) (List.mem_cons_of_mem _ (List.mem_append_left _ (List.mem_of_getElem? (i := 0) rfl))) rfl dX3_openViews_6 ?_
                  refine x_alen hC hw 3 hR.2.2.1 rfl dX3_openViews_9 ?_
                  refine x_icmp_ge (tgt := 31) hC ⟨by decide, by decide⟩ ⟨by decide, by decide⟩ dX3_openViews_10 (by decide) (fun c_30 => ?_) (fun c_30 => ?_)
                  · refine lv_iload_n hC.1 hC.2.1 dX3_openViews_31 rfl (lv_at hl 1 rfl) ?_
                    exact x_iret hC hw dX3_openViews_32 (by first | decide | omega) (by first | decide | omega) ⟨0 + 1, rfl, rfl, by omega, by simp [frN, hnhy_3, hux_239, hnhy_26, hnhy_29], (by simp [opC, sI, opN_none hnhy_3, opN_some hux_239, opN_none hnhy_26, opN_none hnhy_29])⟩
                  · exact absurd c_30 (by omega)
                · obtain ⟨ux_31, hux_31, hTx_31⟩ := (hR.vwo (show (((0 + 1) + 1) + 1 : Int).toNat < 4 by decide)).yes hy_29
                  have hpx_31 := opN_some hux_31
                  have hux_319 : Wv 3 = some ux_31 := hux_31
                  show W p l e R s m args below meth c _ _ _ _ _ (F0 m 19 ls [.ref y_28])
                  refine lv_ifnull hC.1 hC.2.1 dX3_openViews_19 ?_
                  refine x_iinc (lv' := [(1, .int (iN ((0 + 1) + 1))), (2, .int (iN (((0 + 1) + 1) + 1))), (0, .ref h0)]) hC dX3_openViews_22 hl (k := 1) rfl (by decide) rfl (fun ls hl => ?_)
                  refine x_iinc (lv' := [(2, .int (iN ((((0 + 1) + 1) + 1) + 1))), (1, .int (iN ((0 + 1) + 1))), (0, .ref h0)]) hC dX3_openViews_25 hl (k := 1) rfl (by decide) rfl (fun ls hl => ?_)
                  refine lv_goto (tgt := 4) hC.1 hC.2.1 dX3_openViews_28 (by decide) ?_
                  refine lv_iload_n hC.1 hC.2.1 dX3_openViews_4 rfl (lv_at hl 0 rfl) ?_
                  refine lv_aload_n hC.1 hC.2.1 dX3_openViews_5 rfl (lv_at hl 2 rfl) ?_
                  refine x_get hC hw hR.1 rfl hinX3 1 (by decide) (List.mem_cons_of_mem _ (List.mem_append_left _ (List.mem_of_getElem? (i := 0) rfl))) rfl dX3_openViews_6 ?_
                  refine x_alen hC hw 3 hR.2.2.1 rfl dX3_openViews_9 ?_
                  refine x_icmp_ge (tgt := 31) hC ⟨by decide, by decide⟩ ⟨by decide, by decide⟩ dX3_openViews_10 (by decide) (fun c_32 => ?_) (fun c_32 => ?_)
                  · refine lv_iload_n hC.1 hC.2.1 dX3_openViews_31 rfl (lv_at hl 1 rfl) ?_
                    exact x_iret hC hw dX3_openViews_32 (by first | decide | omega) (by first | decide | omega) ⟨(0 + 1) + 1, rfl, rfl, by omega, by simp [frN, hnhy_3, hux_239, hnhy_26, hux_319], (by simp [opC, sI, opN_none hnhy_3, opN_some hux_239, opN_none hnhy_26, opN_some hux_319])⟩
                  · exact absurd c_32 (by omega)
            · obtain ⟨ux_33, hux_33, hTx_33⟩ := (hR.vwo (show ((0 + 1) + 1 : Int).toNat < 4 by decide)).yes hy_26
              have hpx_33 := opN_some hux_33
              have hux_339 : Wv 2 = some ux_33 := hux_33
              show W p l e R s m args below meth c _ _ _ _ _ (F0 m 19 ls [.ref y_25])
              refine lv_ifnull hC.1 hC.2.1 dX3_openViews_19 ?_
              refine x_iinc (lv' := [(1, .int (iN ((0 + 1) + 1))), (2, .int (iN ((0 + 1) + 1))), (0, .ref h0)]) hC dX3_openViews_22 hl (k := 1) rfl (by decide) rfl (fun ls hl => ?_)
              refine x_iinc (lv' := [(2, .int (iN (((0 + 1) + 1) + 1))), (1, .int (iN ((0 + 1) + 1))), (0, .ref h0)]) hC dX3_openViews_25 hl (k := 1) rfl (by decide) rfl (fun ls hl => ?_)
              refine lv_goto (tgt := 4) hC.1 hC.2.1 dX3_openViews_28 (by decide) ?_
              refine lv_iload_n hC.1 hC.2.1 dX3_openViews_4 rfl (lv_at hl 0 rfl) ?_
              refine lv_aload_n hC.1 hC.2.1 dX3_openViews_5 rfl (lv_at hl 2 rfl) ?_
              refine x_get hC hw hR.1 rfl hinX3 1 (by decide) (List.mem_cons_of_mem _ (List.mem_append_left _ (List.mem_of_getElem? (i := 0) rfl))) rfl dX3_openViews_6 ?_
              refine x_alen hC hw 3 hR.2.2.1 rfl dX3_openViews_9 ?_
              refine x_icmp_ge (tgt := 31) hC ⟨by decide, by decide⟩ ⟨by decide, by decide⟩ dX3_openViews_10 (by decide) (fun c_34 => ?_) (fun c_34 => ?_)
              · exact absurd c_34 (by decide)
              · refine lv_aload_n hC.1 hC.2.1 dX3_openViews_13 rfl (lv_at hl 2 rfl) ?_
                refine x_get hC hw hR.1 rfl hinX3 1 (by decide) (List.mem_cons_of_mem _ (List.mem_append_left _ (List.mem_of_getElem? (i := 0) rfl))) rfl dX3_openViews_14 ?_
                refine lv_iload_n hC.1 hC.2.1 dX3_openViews_17 rfl (lv_at hl 0 rfl) ?_
                refine x_aldq hC hw 3 hR.2.2.1 rfl (by omega) (by omega) (by omega) dX3_openViews_18 ?_
                rcases hy_36 : fv (((0 + 1) + 1) + 1 : Int).toNat with _ | y_35
                · have hnhy_36 : Wv 3 = none := VwO.nil (hR.vwo (show (((0 + 1) + 1) + 1 : Int).toNat < 4 by decide)) hy_36
                  have hohy_36 := opN_none hnhy_36
                  show W p l e R s m args below meth c _ _ _ _ _ (F0 m 19 ls [.null])
                  refine lv_ifnullN (tgt := 25) hC.1 hC.2.1 dX3_openViews_19 (by decide) ?_
                  refine x_iinc (lv' := [(2, .int (iN ((((0 + 1) + 1) + 1) + 1))), (1, .int (iN ((0 + 1) + 1))), (0, .ref h0)]) hC dX3_openViews_25 hl (k := 0) rfl (by decide) rfl (fun ls hl => ?_)
                  refine lv_goto (tgt := 4) hC.1 hC.2.1 dX3_openViews_28 (by decide) ?_
                  refine lv_iload_n hC.1 hC.2.1 dX3_openViews_4 rfl (lv_at hl 0 rfl) ?_
                  refine lv_aload_n hC.1 hC.2.1 dX3_openViews_5 rfl (lv_at hl 2 rfl) ?_
                  refine x_get hC hw hR.1 rfl hinX3 1 (by decide) (List.mem_cons_of_mem _ (List.mem_append_left _ (List.mem_of_getElem? (i := 0) rfl))) rfl dX3_openViews_6 ?_
                  refine x_alen hC hw 3 hR.2.2.1 rfl dX3_openViews_9 ?_
                  refine x_icmp_ge (tgt := 31) hC ⟨by decide, by decide⟩ ⟨by decide, by decide⟩ dX3_openViews_10 (by decide) (fun c_37 => ?_) (fun c_37 => ?_)
                  · refine lv_iload_n hC.1 hC.2.1 dX3_openViews_31 rfl (lv_at hl 1 rfl) ?_
                    exact x_iret hC hw dX3_openViews_32 (by first | decide | omega) (by first | decide | omega) ⟨(0 + 1) + 1, rfl, rfl, by omega, by simp [frN, hnhy_3, hux_239, hux_339, hnhy_36], (by simp [opC, sI, opN_none hnhy_3, opN_some hux_239, opN_some hux_339, opN_none hnhy_36])⟩
                  · exact absurd c_37 (by omega)
                · obtain ⟨ux_38, hux_38, hTx_38⟩ := (hR.vwo (show (((0 + 1) + 1) + 1 : Int).toNat < 4 by decide)).yes hy_36
                  have hpx_38 := opN_some hux_38
                  have hux_389 : Wv 3 = some ux_38 := hux_38
                  show W p l e R s m args below meth c _ _ _ _ _ (F0 m 19 ls [.ref y_35])
                  refine lv_ifnull hC.1 hC.2.1 dX3_openViews_19 ?_
                  refine x_iinc (lv' := [(1, .int (iN (((0 + 1) + 1) + 1))), (2, .int (iN (((0 + 1) + 1) + 1))), (0, .ref h0)]) hC dX3_openViews_22 hl (k := 1) rfl (by decide) rfl (fun ls hl => ?_)
                  refine x_iinc (lv' := [(2, .int (iN ((((0 + 1) + 1) + 1) + 1))), (1, .int (iN (((0 + 1) + 1) + 1))), (0, .ref h0)]) hC dX3_openViews_25 hl (k := 1) rfl (by decide) rfl (fun ls hl => ?_)
                  refine lv_goto (tgt := 4) hC.1 hC.2.1 dX3_openViews_28 (by decide) ?_
                  refine lv_iload_n hC.1 hC.2.1 dX3_openViews_4 rfl (lv_at hl 0 rfl) ?_
                  refine lv_aload_n hC.1 hC.2.1 dX3_openViews_5 rfl (lv_at hl 2 rfl) ?_
                  refine x_get hC hw hR.1 rfl hinX3 1 (by decide) (List.mem_cons_of_mem _ (List.mem_append_left _ (List.mem_of_getElem? (i := 0) rfl))) rfl dX3_openViews_6 ?_
                  refine x_alen hC hw 3 hR.2.2.1 rfl dX3_openViews_9 ?_
                  refine x_icmp_ge (tgt := 31) hC ⟨by decide, by decide⟩ ⟨by decide, by decide⟩ dX3_openViews_10 (by decide) (fun c_39 => ?_) (fun c_39 => ?_)
                  · refine lv_iload_n hC.1 hC.2.1 dX3_openViews_31 rfl (lv_at hl 1 rfl) ?_
                    exact x_iret hC hw dX3_openViews_32 (by first | decide | omega) (by first | decide | omega) ⟨((0 + 1) + 1) + 1, rfl, rfl, by omega, by simp [frN, hnhy_3, hux_239, hux_339, hux_389], (by simp [opC, sI, opN_none hnhy_3, opN_some hux_239, opN_some hux_339, opN_some hux_389])⟩
                  · exact absurd c_39 (by omega)
    · obtain ⟨ux_40, hux_40, hTx_40⟩ := (hR.vwo (show (0 : Int).toNat < 4 by decide)).yes hy_3
      have hpx_40 := opN_some hux_40
      have hux_409 : Wv 0 = some ux_40 := hux_40
      show W p l e R s m args below meth c _ _ _ _ _ (F0 m 19 ls [.ref y_2])
      refine lv_ifnull hC.1 hC.2.1 dX3_openViews_19 ?_
      refine x_iinc (lv' := [(1, .int (iN (0 + 1))), (2, .int (iN (0))), (0, .ref h0)]) hC dX3_openViews_22 hl (k := 1) rfl (by decide) rfl (fun ls hl => ?_)
      refine x_iinc (lv' := [(2, .int (iN (0 + 1))), (1, .int (iN (0 + 1))), (0, .ref h0)]) hC dX3_openViews_25 hl (k := 1) rfl (by decide) rfl (fun ls hl => ?_)
      refine lv_goto (tgt := 4) hC.1 hC.2.1 dX3_openViews_28 (by decide) ?_
      refine lv_iload_n hC.1 hC.2.1 dX3_openViews_4 rfl (lv_at hl 0 rfl) ?_
      refine lv_aload_n hC.1 hC.2.1 dX3_openViews_5 rfl (lv_at hl 2 rfl) ?_
      refine x_get hC hw hR.1 rfl hinX3 1 (by decide) (List.mem_cons_of_mem _ (List.mem_append_left _ (List.mem_of_getElem? (i := 0) rfl))) rfl dX3_openViews_6 ?_
      refine x_alen hC hw 3 hR.2.2.1 rfl dX3_openViews_9 ?_
      refine x_icmp_ge (tgt := 31) hC ⟨by decide, by decide⟩ ⟨by decide, by decide⟩ dX3_openViews_10 (by decide) (fun c_41 => ?_) (fun c_41 => ?_)
      · exact absurd c_41 (by decide)
      · refine lv_aload_n hC.1 hC.2.1 dX3_openViews_13 rfl (lv_at hl 2 rfl) ?_
        refine x_get hC hw hR.1 rfl hinX3 1 (by decide) (List.mem_cons_of_mem _ (List.mem_append_left _ (List.mem_of_getElem? (i := 0) rfl))) rfl dX3_openViews_14 ?_
        refine lv_iload_n hC.1 hC.2.1 dX3_openViews_17 rfl (lv_at hl 0 rfl) ?_
        refine x_aldq hC hw 3 hR.2.2.1 rfl (by omega) (by omega) (by omega) dX3_openViews_18 ?_
        rcases hy_43 : fv (0 + 1 : Int).toNat with _ | y_42
        · have hnhy_43 : Wv 1 = none := VwO.nil (hR.vwo (show (0 + 1 : Int).toNat < 4 by decide)) hy_43
          have hohy_43 := opN_none hnhy_43
          show W p l e R s m args below meth c _ _ _ _ _ (F0 m 19 ls [.null])
          refine lv_ifnullN (tgt := 25) hC.1 hC.2.1 dX3_openViews_19 (by decide) ?_
          refine x_iinc (lv' := [(2, .int (iN ((0 + 1) + 1))), (1, .int (iN (0 + 1))), (0, .ref h0)]) hC dX3_openViews_25 hl (k := 0) rfl (by decide) rfl (fun ls hl => ?_)
          refine lv_goto (tgt := 4) hC.1 hC.2.1 dX3_openViews_28 (by decide) ?_
          refine lv_iload_n hC.1 hC.2.1 dX3_openViews_4 rfl (lv_at hl 0 rfl) ?_
          refine lv_aload_n hC.1 hC.2.1 dX3_openViews_5 rfl (lv_at hl 2 rfl) ?_
          refine x_get hC hw hR.1 rfl hinX3 1 (by decide) (List.mem_cons_of_mem _ (List.mem_append_left _ (List.mem_of_getElem? (i := 0) rfl))) rfl dX3_openViews_6 ?_
          refine x_alen hC hw 3 hR.2.2.1 rfl dX3_openViews_9 ?_
          refine x_icmp_ge (tgt := 31) hC ⟨by decide, by decide⟩ ⟨by decide, by decide⟩ dX3_openViews_10 (by decide) (fun c_44 => ?_) (fun c_44 => ?_)
          · exact absurd c_44 (by decide)
          · refine lv_aload_n hC.1 hC.2.1 dX3_openViews_13 rfl (lv_at hl 2 rfl) ?_
            refine x_get hC hw hR.1 rfl hinX3 1 (by decide) (List.mem_cons_of_mem _ (List.mem_append_left _ (List.mem_of_getElem? (i := 0) rfl))) rfl dX3_openViews_14 ?_
            refine lv_iload_n hC.1 hC.2.1 dX3_openViews_17 rfl (lv_at hl 0 rfl) ?_
            refine x_aldq hC hw 3 hR.2.2.1 rfl (by omega) (by omega) (by omega) dX3_openViews_18 ?_
            rcases hy_46 : fv ((0 + 1) + 1 : Int).toNat with _ | y_45
            · have hnhy_46 : Wv 2 = none := VwO.nil (hR.vwo (show ((0 + 1) + 1 : Int).toNat < 4 by decide)) hy_46
              have hohy_46 := opN_none hnhy_46
              show W p l e R s m args below meth c _ _ _ _ _ (F0 m 19 ls [.null])
              refine lv_ifnullN (tgt := 25) hC.1 hC.2.1 dX3_openViews_19 (by decide) ?_
              refine x_iinc (lv' := [(2, .int (iN (((0 + 1) + 1) + 1))), (1, .int (iN (0 + 1))), (0, .ref h0)]) hC dX3_openViews_25 hl (k := 0) rfl (by decide) rfl (fun ls hl => ?_)
              refine lv_goto (tgt := 4) hC.1 hC.2.1 dX3_openViews_28 (by decide) ?_
              refine lv_iload_n hC.1 hC.2.1 dX3_openViews_4 rfl (lv_at hl 0 rfl) ?_
              refine lv_aload_n hC.1 hC.2.1 dX3_openViews_5 rfl (lv_at hl 2 rfl) ?_
              refine x_get hC hw hR.1 rfl hinX3 1 (by decide) (List.mem_cons_of_mem _ (List.mem_append_left _ (List.mem_of_getElem? (i := 0) rfl))) rfl dX3_openViews_6 ?_
              refine x_alen hC hw 3 hR.2.2.1 rfl dX3_openViews_9 ?_
              refine x_icmp_ge (tgt := 31) hC ⟨by decide, by decide⟩ ⟨by decide, by decide⟩ dX3_openViews_10 (by decide) (fun c_47 => ?_) (fun c_47 => ?_)
              · exact absurd c_47 (by decide)
              · refine lv_aload_n hC.1 hC.2.1 dX3_openViews_13 rfl (lv_at hl 2 rfl) ?_
                refine x_get hC hw hR.1 rfl hinX3 1 (by decide) (List.mem_cons_of_mem _ (List.mem_append_left _ (List.mem_of_getElem? (i := 0) rfl))) rfl dX3_openViews_14 ?_
                refine lv_iload_n hC.1 hC.2.1 dX3_openViews_17 rfl (lv_at hl 0 rfl) ?_
                refine x_aldq hC hw 3 hR.2.2.1 rfl (by omega) (by omega) (by omega) dX3_openViews_18 ?_
                rcases hy_49 : fv (((0 + 1) + 1) + 1 : Int).toNat with _ | y_48
                · have hnhy_49 : Wv 3 = none := VwO.nil (hR.vwo (show (((0 + 1) + 1) + 1 : Int).toNat < 4 by decide)) hy_49
                  have hohy_49 := opN_none hnhy_49
                  show W p l e R s m args below meth c _ _ _ _ _ (F0 m 19 ls [.null])
                  refine lv_ifnullN (tgt := 25) hC.1 hC.2.1 dX3_openViews_19 (by decide) ?_
                  refine x_iinc (lv' := [(2, .int (iN ((((0 + 1) + 1) + 1) + 1))), (1, .int (iN (0 + 1))), (0, .ref h0)]) hC dX3_openViews_25 hl (k := 0) rfl (by decide) rfl (fun ls hl => ?_)
                  refine lv_goto (tgt := 4) hC.1 hC.2.1 dX3_openViews_28 (by decide) ?_
                  refine lv_iload_n hC.1 hC.2.1 dX3_openViews_4 rfl (lv_at hl 0 rfl) ?_
                  refine lv_aload_n hC.1 hC.2.1 dX3_openViews_5 rfl (lv_at hl 2 rfl) ?_
                  refine x_get hC hw hR.1 rfl hinX3 1 (by decide) (List.mem_cons_of_mem _ (List.mem_append_left _ (List.mem_of_getElem? (i := 0) rfl))) rfl dX3_openViews_6 ?_
                  refine x_alen hC hw 3 hR.2.2.1 rfl dX3_openViews_9 ?_
                  refine x_icmp_ge (tgt := 31) hC ⟨by decide, by decide⟩ ⟨by decide, by decide⟩ dX3_openViews_10 (by decide) (fun c_50 => ?_) (fun c_50 => ?_)
                  · refine lv_iload_n hC.1 hC.2.1 dX3_openViews_31 rfl (lv_at hl 1 rfl) ?_
                    exact x_iret hC hw dX3_openViews_32 (by first | decide | omega) (by first | decide | omega) ⟨0 + 1, rfl, rfl, by omega, by simp [frN, hux_409, hnhy_43, hnhy_46, hnhy_49], (by simp [opC, sI, opN_some hux_409, opN_none hnhy_43, opN_none hnhy_46, opN_none hnhy_49])⟩
                  · exact absurd c_50 (by omega)
                · obtain ⟨ux_51, hux_51, hTx_51⟩ := (hR.vwo (show (((0 + 1) + 1) + 1 : Int).toNat < 4 by decide)).yes hy_49
                  have hpx_51 := opN_some hux_51
                  have hux_519 : Wv 3 = some ux_51 := hux_51
                  show W p l e R s m args below meth c _ _ _ _ _ (F0 m 19 ls [.ref y_48])
                  refine lv_ifnull hC.1 hC.2.1 dX3_openViews_19 ?_
                  refine x_iinc (lv' := [(1, .int (iN ((0 + 1) + 1))), (2, .int (iN (((0 + 1) + 1) + 1))), (0, .ref h0)]) hC dX3_openViews_22 hl (k := 1) rfl (by decide) rfl (fun ls hl => ?_)
                  refine x_iinc (lv' := [(2, .int (iN ((((0 + 1) + 1) + 1) + 1))), (1, .int (iN ((0 + 1) + 1))), (0, .ref h0)]) hC dX3_openViews_25 hl (k := 1) rfl (by decide) rfl (fun ls hl => ?_)
                  refine lv_goto (tgt := 4) hC.1 hC.2.1 dX3_openViews_28 (by decide) ?_
                  refine lv_iload_n hC.1 hC.2.1 dX3_openViews_4 rfl (lv_at hl 0 rfl) ?_
                  refine lv_aload_n hC.1 hC.2.1 dX3_openViews_5 rfl (lv_at hl 2 rfl) ?_
                  refine x_get hC hw hR.1 rfl hinX3 1 (by decide) (List.mem_cons_of_mem _ (List.mem_append_left _ (List.mem_of_getElem? (i := 0) rfl))) rfl dX3_openViews_6 ?_
                  refine x_alen hC hw 3 hR.2.2.1 rfl dX3_openViews_9 ?_
                  refine x_icmp_ge (tgt := 31) hC ⟨by decide, by decide⟩ ⟨by decide, by decide⟩ dX3_openViews_10 (by decide) (fun c_52 => ?_) (fun c_52 => ?_)
                  · refine lv_iload_n hC.1 hC.2.1 dX3_openViews_31 rfl (lv_at hl 1 rfl) ?_
                    exact x_iret hC hw dX3_openViews_32 (by first | decide | omega) (by first | decide | omega) ⟨(0 + 1) + 1, rfl, rfl, by omega, by simp [frN, hux_409, hnhy_43, hnhy_46, hux_519], (by simp [opC, sI, opN_some hux_409, opN_none hnhy_43, opN_none hnhy_46, opN_some hux_519])⟩
                  · exact absurd c_52 (by omega)
            · obtain ⟨ux_53, hux_53, hTx_53⟩ := (hR.vwo (show ((0 + 1) + 1 : Int).toNat < 4 by decide)).yes hy_46
              have hpx_53 := opN_some hux_53
              have hux_539 : Wv 2 = some ux_53 := hux_53
              show W p l e R s m args below meth c _ _ _ _ _ (F0 m 19 ls [.ref y_45])
              refine lv_ifnull hC.1 hC.2.1 dX3_openViews_19 ?_
              refine x_iinc (lv' := [(1, .int (iN ((0 + 1) + 1))), (2, .int (iN ((0 + 1) + 1))), (0, .ref h0)]) hC dX3_openViews_22 hl (k := 1) rfl (by decide) rfl (fun ls hl => ?_)
              refine x_iinc (lv' := [(2, .int (iN (((0 + 1) + 1) + 1))), (1, .int (iN ((0 + 1) + 1))), (0, .ref h0)]) hC dX3_openViews_25 hl (k := 1) rfl (by decide) rfl (fun ls hl => ?_)
              refine lv_goto (tgt := 4) hC.1 hC.2.1 dX3_openViews_28 (by decide) ?_
              refine lv_iload_n hC.1 hC.2.1 dX3_openViews_4 rfl (lv_at hl 0 rfl) ?_
              refine lv_aload_n hC.1 hC.2.1 dX3_openViews_5 rfl (lv_at hl 2 rfl) ?_
              refine x_get hC hw hR.1 rfl hinX3 1 (by decide) (List.mem_cons_of_mem _ (List.mem_append_left _ (List.mem_of_getElem? (i := 0) rfl))) rfl dX3_openViews_6 ?_
              refine x_alen hC hw 3 hR.2.2.1 rfl dX3_openViews_9 ?_
              refine x_icmp_ge (tgt := 31) hC ⟨by decide, by decide⟩ ⟨by decide, by decide⟩ dX3_openViews_10 (by decide) (fun c_54 => ?_) (fun c_54 => ?_)
              · exact absurd c_54 (by decide)
              · refine lv_aload_n hC.1 hC.2.1 dX3_openViews_13 rfl (lv_at hl 2 rfl) ?_
                refine x_get hC hw hR.1 rfl hinX3 1 (by decide) (List.mem_cons_of_mem _ (List.mem_append_left _ (List.mem_of_getElem? (i := 0) rfl))) rfl dX3_openViews_14 ?_
                refine lv_iload_n hC.1 hC.2.1 dX3_openViews_17 rfl (lv_at hl 0 rfl) ?_
                refine x_aldq hC hw 3 hR.2.2.1 rfl (by omega) (by omega) (by omega) dX3_openViews_18 ?_
                rcases hy_56 : fv (((0 + 1) + 1) + 1 : Int).toNat with _ | y_55
                · have hnhy_56 : Wv 3 = none := VwO.nil (hR.vwo (show (((0 + 1) + 1) + 1 : Int).toNat < 4 by decide)) hy_56
                  have hohy_56 := opN_none hnhy_56
                  show W p l e R s m args below meth c _ _ _ _ _ (F0 m 19 ls [.null])
                  refine lv_ifnullN (tgt := 25) hC.1 hC.2.1 dX3_openViews_19 (by decide) ?_
                  refine x_iinc (lv' := [(2, .int (iN ((((0 + 1) + 1) + 1) + 1))), (1, .int (iN ((0 + 1) + 1))), (0, .ref h0)]) hC dX3_openViews_25 hl (k := 0) rfl (by decide) rfl (fun ls hl => ?_)
                  refine lv_goto (tgt := 4) hC.1 hC.2.1 dX3_openViews_28 (by decide) ?_
                  refine lv_iload_n hC.1 hC.2.1 dX3_openViews_4 rfl (lv_at hl 0 rfl) ?_
                  refine lv_aload_n hC.1 hC.2.1 dX3_openViews_5 rfl (lv_at hl 2 rfl) ?_
                  refine x_get hC hw hR.1 rfl hinX3 1 (by decide) (List.mem_cons_of_mem _ (List.mem_append_left _ (List.mem_of_getElem? (i := 0) rfl))) rfl dX3_openViews_6 ?_
                  refine x_alen hC hw 3 hR.2.2.1 rfl dX3_openViews_9 ?_
                  refine x_icmp_ge (tgt := 31) hC ⟨by decide, by decide⟩ ⟨by decide, by decide⟩ dX3_openViews_10 (by decide) (fun c_57 => ?_) (fun c_57 => ?_)
                  · refine lv_iload_n hC.1 hC.2.1 dX3_openViews_31 rfl (lv_at hl 1 rfl) ?_
                    exact x_iret hC hw dX3_openViews_32 (by first | decide | omega) (by first | decide | omega) ⟨(0 + 1) + 1, rfl, rfl, by omega, by simp [frN, hux_409, hnhy_43, hux_539, hnhy_56], (by simp [opC, sI, opN_some hux_409, opN_none hnhy_43, opN_some hux_539, opN_none hnhy_56])⟩
                  · exact absurd c_57 (by omega)
                · obtain ⟨ux_58, hux_58, hTx_58⟩ := (hR.vwo (show (((0 + 1) + 1) + 1 : Int).toNat < 4 by decide)).yes hy_56
                  have hpx_58 := opN_some hux_58
                  have hux_589 : Wv 3 = some ux_58 := hux_58
                  show W p l e R s m args below meth c _ _ _ _ _ (F0 m 19 ls [.ref y_55])
                  refine lv_ifnull hC.1 hC.2.1 dX3_openViews_19 ?_
                  refine x_iinc (lv' := [(1, .int (iN (((0 + 1) + 1) + 1))), (2, .int (iN (((0 + 1) + 1) + 1))), (0, .ref h0)]) hC dX3_openViews_22 hl (k := 1) rfl (by decide) rfl (fun ls hl => ?_)
                  refine x_iinc (lv' := [(2, .int (iN ((((0 + 1) + 1) + 1) + 1))), (1, .int (iN (((0 + 1) + 1) + 1))), (0, .ref h0)]) hC dX3_openViews_25 hl (k := 1) rfl (by decide) rfl (fun ls hl => ?_)
                  refine lv_goto (tgt := 4) hC.1 hC.2.1 dX3_openViews_28 (by decide) ?_
                  refine lv_iload_n hC.1 hC.2.1 dX3_openViews_4 rfl (lv_at hl 0 rfl) ?_
                  refine lv_aload_n hC.1 hC.2.1 dX3_openViews_5 rfl (lv_at hl 2 rfl) ?_
                  refine x_get hC hw hR.1 rfl hinX3 1 (by decide) (List.mem_cons_of_mem _ (List.mem_append_left _ (List.mem_of_getElem? (i := 0) rfl))) rfl dX3_openViews_6 ?_
                  refine x_alen hC hw 3 hR.2.2.1 rfl dX3_openViews_9 ?_
                  refine x_icmp_ge (tgt := 31) hC ⟨by decide, by decide⟩ ⟨by decide, by decide⟩ dX3_openViews_10 (by decide) (fun c_59 => ?_) (fun c_59 => ?_)
                  · refine lv_iload_n hC.1 hC.2.1 dX3_openViews_31 rfl (lv_at hl 1 rfl) ?_
                    exact x_iret hC hw dX3_openViews_32 (by first | decide | omega) (by first | decide | omega) ⟨((0 + 1) + 1) + 1, rfl, rfl, by omega, by simp [frN, hux_409, hnhy_43, hux_539, hux_589], (by simp [opC, sI, opN_some hux_409, opN_none hnhy_43, opN_some hux_539, opN_some hux_589])⟩
                  · exact absurd c_59 (by omega)
        · obtain ⟨ux_60, hux_60, hTx_60⟩ := (hR.vwo (show (0 + 1 : Int).toNat < 4 by decide)).yes hy_43
          have hpx_60 := opN_some hux_60
          have hux_609 : Wv 1 = some ux_60 := hux_60
          show W p l e R s m args below meth c _ _ _ _ _ (F0 m 19 ls [.ref y_42])
          refine lv_ifnull hC.1 hC.2.1 dX3_openViews_19 ?_
          refine x_iinc (lv' := [(1, .int (iN ((0 + 1) + 1))), (2, .int (iN (0 + 1))), (0, .ref h0)]) hC dX3_openViews_22 hl (k := 1) rfl (by decide) rfl (fun ls hl => ?_)
          refine x_iinc (lv' := [(2, .int (iN ((0 + 1) + 1))), (1, .int (iN ((0 + 1) + 1))), (0, .ref h0)]) hC dX3_openViews_25 hl (k := 1) rfl (by decide) rfl (fun ls hl => ?_)
          refine lv_goto (tgt := 4) hC.1 hC.2.1 dX3_openViews_28 (by decide) ?_
          refine lv_iload_n hC.1 hC.2.1 dX3_openViews_4 rfl (lv_at hl 0 rfl) ?_
          refine lv_aload_n hC.1 hC.2.1 dX3_openViews_5 rfl (lv_at hl 2 rfl) ?_
          refine x_get hC hw hR.1 rfl hinX3 1 (by decide) (List.mem_cons_of_mem _ (List.mem_append_left _ (List.mem_of_getElem? (i := 0) rfl))) rfl dX3_openViews_6 ?_
          refine x_alen hC hw 3 hR.2.2.1 rfl dX3_openViews_9 ?_
          refine x_icmp_ge (tgt := 31) hC ⟨by decide, by decide⟩ ⟨by decide, by decide⟩ dX3_openViews_10 (by decide) (fun c_61 => ?_) (fun c_61 => ?_)
          · exact absurd c_61 (by decide)
          · refine lv_aload_n hC.1 hC.2.1 dX3_openViews_13 rfl (lv_at hl 2 rfl) ?_
            refine x_get hC hw hR.1 rfl hinX3 1 (by decide) (List.mem_cons_of_mem _ (List.mem_append_left _ (List.mem_of_getElem? (i := 0) rfl))) rfl dX3_openViews_14 ?_
            refine lv_iload_n hC.1 hC.2.1 dX3_openViews_17 rfl (lv_at hl 0 rfl) ?_
            refine x_aldq hC hw 3 hR.2.2.1 rfl (by omega) (by omega) (by omega) dX3_openViews_18 ?_
            rcases hy_63 : fv ((0 + 1) + 1 : Int).toNat with _ | y_62
            · have hnhy_63 : Wv 2 = none := VwO.nil (hR.vwo (show ((0 + 1) + 1 : Int).toNat < 4 by decide)) hy_63
              have hohy_63 := opN_none hnhy_63
              show W p l e R s m args below meth c _ _ _ _ _ (F0 m 19 ls [.null])
              refine lv_ifnullN (tgt := 25) hC.1 hC.2.1 dX3_openViews_19 (by decide) ?_
              refine x_iinc (lv' := [(2, .int (iN (((0 + 1) + 1) + 1))), (1, .int (iN ((0 + 1) + 1))), (0, .ref h0)]) hC dX3_openViews_25 hl (k := 0) rfl (by decide) rfl (fun ls hl => ?_)
              refine lv_goto (tgt := 4) hC.1 hC.2.1 dX3_openViews_28 (by decide) ?_
              refine lv_iload_n hC.1 hC.2.1 dX3_openViews_4 rfl (lv_at hl 0 rfl) ?_
              refine lv_aload_n hC.1 hC.2.1 dX3_openViews_5 rfl (lv_at hl 2 rfl) ?_
              refine x_get hC hw hR.1 rfl hinX3 1 (by decide) (List.mem_cons_of_mem _ (List.mem_append_left _ (List.mem_of_getElem? (i := 0) rfl))) rfl dX3_openViews_6 ?_
              refine x_alen hC hw 3 hR.2.2.1 rfl dX3_openViews_9 ?_
              refine x_icmp_ge (tgt := 31) hC ⟨by decide, by decide⟩ ⟨by decide, by decide⟩ dX3_openViews_10 (by decide) (fun c_64 => ?_) (fun c_64 => ?_)
              · exact absurd c_64 (by decide)
              · refine lv_aload_n hC.1 hC.2.1 dX3_openViews_13 rfl (lv_at hl 2 rfl) ?_
                refine x_get hC hw hR.1 rfl hinX3 1 (by decide) (List.mem_cons_of_mem _ (List.mem_append_left _ (List.mem_of_getElem? (i := 0) rfl))) rfl dX3_openViews_14 ?_
                refine lv_iload_n hC.1 hC.2.1 dX3_openViews_17 rfl (lv_at hl 0 rfl) ?_
                refine x_aldq hC hw 3 hR.2.2.1 rfl (by omega) (by omega) (by omega) dX3_openViews_18 ?_
                rcases hy_66 : fv (((0 + 1) + 1) + 1 : Int).toNat with _ | y_65
                · have hnhy_66 : Wv 3 = none := VwO.nil (hR.vwo (show (((0 + 1) + 1) + 1 : Int).toNat < 4 by decide)) hy_66
                  have hohy_66 := opN_none hnhy_66
                  show W p l e R s m args below meth c _ _ _ _ _ (F0 m 19 ls [.null])
                  refine lv_ifnullN (tgt := 25) hC.1 hC.2.1 dX3_openViews_19 (by decide) ?_
                  refine x_iinc (lv' := [(2, .int (iN ((((0 + 1) + 1) + 1) + 1))), (1, .int (iN ((0 + 1) + 1))), (0, .ref h0)]) hC dX3_openViews_25 hl (k := 0) rfl (by decide) rfl (fun ls hl => ?_)
                  refine lv_goto (tgt := 4) hC.1 hC.2.1 dX3_openViews_28 (by decide) ?_
                  refine lv_iload_n hC.1 hC.2.1 dX3_openViews_4 rfl (lv_at hl 0 rfl) ?_
                  refine lv_aload_n hC.1 hC.2.1 dX3_openViews_5 rfl (lv_at hl 2 rfl) ?_
                  refine x_get hC hw hR.1 rfl hinX3 1 (by decide) (List.mem_cons_of_mem _ (List.mem_append_left _ (List.mem_of_getElem? (i := 0) rfl))) rfl dX3_openViews_6 ?_
                  refine x_alen hC hw 3 hR.2.2.1 rfl dX3_openViews_9 ?_
                  refine x_icmp_ge (tgt := 31) hC ⟨by decide, by decide⟩ ⟨by decide, by decide⟩ dX3_openViews_10 (by decide) (fun c_67 => ?_) (fun c_67 => ?_)
                  · refine lv_iload_n hC.1 hC.2.1 dX3_openViews_31 rfl (lv_at hl 1 rfl) ?_
                    exact x_iret hC hw dX3_openViews_32 (by first | decide | omega) (by first | decide | omega) ⟨(0 + 1) + 1, rfl, rfl, by omega, by simp [frN, hux_409, hux_609, hnhy_63, hnhy_66], (by simp [opC, sI, opN_some hux_409, opN_some hux_609, opN_none hnhy_63, opN_none hnhy_66])⟩
                  · exact absurd c_67 (by omega)
                · obtain ⟨ux_68, hux_68, hTx_68⟩ := (hR.vwo (show (((0 + 1) + 1) + 1 : Int).toNat < 4 by decide)).yes hy_66
                  have hpx_68 := opN_some hux_68
                  have hux_689 : Wv 3 = some ux_68 := hux_68
                  show W p l e R s m args below meth c _ _ _ _ _ (F0 m 19 ls [.ref y_65])
                  refine lv_ifnull hC.1 hC.2.1 dX3_openViews_19 ?_
                  refine x_iinc (lv' := [(1, .int (iN (((0 + 1) + 1) + 1))), (2, .int (iN (((0 + 1) + 1) + 1))), (0, .ref h0)]) hC dX3_openViews_22 hl (k := 1) rfl (by decide) rfl (fun ls hl => ?_)
                  refine x_iinc (lv' := [(2, .int (iN ((((0 + 1) + 1) + 1) + 1))), (1, .int (iN (((0 + 1) + 1) + 1))), (0, .ref h0)]) hC dX3_openViews_25 hl (k := 1) rfl (by decide) rfl (fun ls hl => ?_)
                  refine lv_goto (tgt := 4) hC.1 hC.2.1 dX3_openViews_28 (by decide) ?_
                  refine lv_iload_n hC.1 hC.2.1 dX3_openViews_4 rfl (lv_at hl 0 rfl) ?_
                  refine lv_aload_n hC.1 hC.2.1 dX3_openViews_5 rfl (lv_at hl 2 rfl) ?_
                  refine x_get hC hw hR.1 rfl hinX3 1 (by decide) (List.mem_cons_of_mem _ (List.mem_append_left _ (List.mem_of_getElem? (i := 0) rfl))) rfl dX3_openViews_6 ?_
                  refine x_alen hC hw 3 hR.2.2.1 rfl dX3_openViews_9 ?_
                  refine x_icmp_ge (tgt := 31) hC ⟨by decide, by decide⟩ ⟨by decide, by decide⟩ dX3_openViews_10 (by decide) (fun c_69 => ?_) (fun c_69 => ?_)
                  · refine lv_iload_n hC.1 hC.2.1 dX3_openViews_31 rfl (lv_at hl 1 rfl) ?_
                    exact x_iret hC hw dX3_openViews_32 (by first | decide | omega) (by first | decide | omega) ⟨((0 + 1) + 1) + 1, rfl, rfl, by omega, by simp [frN, hux_409, hux_609, hnhy_63, hux_689], (by simp [opC, sI, opN_some hux_409, opN_some hux_609, opN_none hnhy_63, opN_some hux_689])⟩
                  · exact absurd c_69 (by omega)
            · obtain ⟨ux_70, hux_70, hTx_70⟩ := (hR.vwo (show ((0 + 1) + 1 : Int).toNat < 4 by decide)).yes hy_63
              have hpx_70 := opN_some hux_70
              have hux_709 : Wv 2 = some ux_70 := hux_70
              show W p l e R s m args below meth c _ _ _ _ _ (F0 m 19 ls [.ref y_62])
              refine lv_ifnull hC.1 hC.2.1 dX3_openViews_19 ?_
              refine x_iinc (lv' := [(1, .int (iN (((0 + 1) + 1) + 1))), (2, .int (iN ((0 + 1) + 1))), (0, .ref h0)]) hC dX3_openViews_22 hl (k := 1) rfl (by decide) rfl (fun ls hl => ?_)
              refine x_iinc (lv' := [(2, .int (iN (((0 + 1) + 1) + 1))), (1, .int (iN (((0 + 1) + 1) + 1))), (0, .ref h0)]) hC dX3_openViews_25 hl (k := 1) rfl (by decide) rfl (fun ls hl => ?_)
              refine lv_goto (tgt := 4) hC.1 hC.2.1 dX3_openViews_28 (by decide) ?_
              refine lv_iload_n hC.1 hC.2.1 dX3_openViews_4 rfl (lv_at hl 0 rfl) ?_
              refine lv_aload_n hC.1 hC.2.1 dX3_openViews_5 rfl (lv_at hl 2 rfl) ?_
              refine x_get hC hw hR.1 rfl hinX3 1 (by decide) (List.mem_cons_of_mem _ (List.mem_append_left _ (List.mem_of_getElem? (i := 0) rfl))) rfl dX3_openViews_6 ?_
              refine x_alen hC hw 3 hR.2.2.1 rfl dX3_openViews_9 ?_
              refine x_icmp_ge (tgt := 31) hC ⟨by decide, by decide⟩ ⟨by decide, by decide⟩ dX3_openViews_10 (by decide) (fun c_71 => ?_) (fun c_71 => ?_)
              · exact absurd c_71 (by decide)
              · refine lv_aload_n hC.1 hC.2.1 dX3_openViews_13 rfl (lv_at hl 2 rfl) ?_
                refine x_get hC hw hR.1 rfl hinX3 1 (by decide) (List.mem_cons_of_mem _ (List.mem_append_left _ (List.mem_of_getElem? (i := 0) rfl))) rfl dX3_openViews_14 ?_
                refine lv_iload_n hC.1 hC.2.1 dX3_openViews_17 rfl (lv_at hl 0 rfl) ?_
                refine x_aldq hC hw 3 hR.2.2.1 rfl (by omega) (by omega) (by omega) dX3_openViews_18 ?_
                rcases hy_73 : fv (((0 + 1) + 1) + 1 : Int).toNat with _ | y_72
                · have hnhy_73 : Wv 3 = none := VwO.nil (hR.vwo (show (((0 + 1) + 1) + 1 : Int).toNat < 4 by decide)) hy_73
                  have hohy_73 := opN_none hnhy_73
                  show W p l e R s m args below meth c _ _ _ _ _ (F0 m 19 ls [.null])
                  refine lv_ifnullN (tgt := 25) hC.1 hC.2.1 dX3_openViews_19 (by decide) ?_
                  refine x_iinc (lv' := [(2, .int (iN ((((0 + 1) + 1) + 1) + 1))), (1, .int (iN (((0 + 1) + 1) + 1))), (0, .ref h0)]) hC dX3_openViews_25 hl (k := 0) rfl (by decide) rfl (fun ls hl => ?_)
                  refine lv_goto (tgt := 4) hC.1 hC.2.1 dX3_openViews_28 (by decide) ?_
                  refine lv_iload_n hC.1 hC.2.1 dX3_openViews_4 rfl (lv_at hl 0 rfl) ?_
                  refine lv_aload_n hC.1 hC.2.1 dX3_openViews_5 rfl (lv_at hl 2 rfl) ?_
                  refine x_get hC hw hR.1 rfl hinX3 1 (by decide) (List.mem_cons_of_mem _ (List.mem_append_left _ (List.mem_of_getElem? (i := 0) rfl))) rfl dX3_openViews_6 ?_
                  refine x_alen hC hw 3 hR.2.2.1 rfl dX3_openViews_9 ?_
                  refine x_icmp_ge (tgt := 31) hC ⟨by decide, by decide⟩ ⟨by decide, by decide⟩ dX3_openViews_10 (by decide) (fun c_74 => ?_) (fun c_74 => ?_)
                  · refine lv_iload_n hC.1 hC.2.1 dX3_openViews_31 rfl (lv_at hl 1 rfl) ?_
                    exact x_iret hC hw dX3_openViews_32 (by first | decide | omega) (by first | decide | omega) ⟨((0 + 1) + 1) + 1, rfl, rfl, by omega, by simp [frN, hux_409, hux_609, hux_709, hnhy_73], (by simp [opC, sI, opN_some hux_409, opN_some hux_609, opN_some hux_709, opN_none hnhy_73])⟩
                  · exact absurd c_74 (by omega)
                · obtain ⟨ux_75, hux_75, hTx_75⟩ := (hR.vwo (show (((0 + 1) + 1) + 1 : Int).toNat < 4 by decide)).yes hy_73
                  have hpx_75 := opN_some hux_75
                  have hux_759 : Wv 3 = some ux_75 := hux_75
                  show W p l e R s m args below meth c _ _ _ _ _ (F0 m 19 ls [.ref y_72])
                  refine lv_ifnull hC.1 hC.2.1 dX3_openViews_19 ?_
                  refine x_iinc (lv' := [(1, .int (iN ((((0 + 1) + 1) + 1) + 1))), (2, .int (iN (((0 + 1) + 1) + 1))), (0, .ref h0)]) hC dX3_openViews_22 hl (k := 1) rfl (by decide) rfl (fun ls hl => ?_)
                  refine x_iinc (lv' := [(2, .int (iN ((((0 + 1) + 1) + 1) + 1))), (1, .int (iN ((((0 + 1) + 1) + 1) + 1))), (0, .ref h0)]) hC dX3_openViews_25 hl (k := 1) rfl (by decide) rfl (fun ls hl => ?_)
                  refine lv_goto (tgt := 4) hC.1 hC.2.1 dX3_openViews_28 (by decide) ?_
                  refine lv_iload_n hC.1 hC.2.1 dX3_openViews_4 rfl (lv_at hl 0 rfl) ?_
                  refine lv_aload_n hC.1 hC.2.1 dX3_openViews_5 rfl (lv_at hl 2 rfl) ?_
                  refine x_get hC hw hR.1 rfl hinX3 1 (by decide) (List.mem_cons_of_mem _ (List.mem_append_left _ (List.mem_of_getElem? (i := 0) rfl))) rfl dX3_openViews_6 ?_
                  refine x_alen hC hw 3 hR.2.2.1 rfl dX3_openViews_9 ?_
                  refine x_icmp_ge (tgt := 31) hC ⟨by decide, by decide⟩ ⟨by decide, by decide⟩ dX3_openViews_10 (by decide) (fun c_76 => ?_) (fun c_76 => ?_)
                  · refine lv_iload_n hC.1 hC.2.1 dX3_openViews_31 rfl (lv_at hl 1 rfl) ?_
                    exact x_iret hC hw dX3_openViews_32 (by first | decide | omega) (by first | decide | omega) ⟨(((0 + 1) + 1) + 1) + 1, rfl, rfl, by omega, by simp [frN, hux_409, hux_609, hux_709, hux_759], (by simp [opC, sI, opN_some hux_409, opN_some hux_609, opN_some hux_709, opN_some hux_759])⟩
                  · exact absurd c_76 (by omega)
set_option maxHeartbeats 4000000 in
set_option maxRecDepth 100000 in
theorem c_X3_viewsOnto (l : Launch) (G : xG) {M : HM} {h0 bs vs : Nat} {og : Option Nat} {kk kv rf : Int32} {qb qk qv : Nat → Nat} {fb fv : Nat → Option Nat} {O : OW} {Wv : VW} {V : BW} {T C : Nat → Int} {K : WA} {P : Nat → Nat} (hR : RGx G M h0 bs vs og kk kv rf qb qk qv fb fv O P Wv V T C K) {bi : Nat} (hbi : bi < 3) : xMet l G yX3_viewsOnto wsX3_viewsOnto 1 20 0 0 [.ref h0, .ref (qb bi)] M (fun r M1 => ∃ z : Int, r = some (.int (iN z)) ∧ M1 = M ∧ (0 ≤ z ∧ z ≤ 4) ∧ z = vwN Wv bi 4) := by
  refine x_intro (cc := cX3_viewsOnto) (maxL := 4) (ret := (some .int)) (by exact pln_RX3) rfl (Nat.le_of_ble_eq_true rfl) ?_
  intro p e R s m args below meth c ls hRf hRc hRs hRl hC hw hl
  have hinX3 : ∀ w ∈ wsX30, w ∈ wsX3_viewsOnto := fun w h => (List.mem_cons_of_mem _ (List.mem_append_left _ (List.mem_append_right _ h)))
  have hl : lv_has ls 4 [(0, .ref h0), (1, .ref (qb bi))] := hl
  refine x_const hC dX3_viewsOnto_0 ?_
  refine lv_istore_n (lv' := [(2, .int (iN (0))), (0, .ref h0), (1, .ref (qb bi))]) hC.1 hC.2.1 dX3_viewsOnto_1 rfl hl (by decide) rfl (fun ls hl => ?_)
  refine x_const hC dX3_viewsOnto_2 ?_
  refine lv_istore_n (lv' := [(3, .int (iN (0))), (2, .int (iN (0))), (0, .ref h0), (1, .ref (qb bi))]) hC.1 hC.2.1 dX3_viewsOnto_3 rfl hl (by decide) rfl (fun ls hl => ?_)
  suffices hloop4 : ∀ (n9 : Nat) (n : Int) (j : Int) (H : Heap) (locs : List Loc) (ls : Array Slot), (hmz4 : (4 - j).toNat < n9) → (hi0 : 0 ≤ j) → (hi1 : j ≤ 4) → (hi2 : 0 ≤ n) → (hi3 : n ≤ j) → (hnv : n = vwN Wv bi (j).toNat) → xD G (xA M s.heap.size) s M H locs → lv_has ls 4 [(0, .ref h0), (1, .ref (qb bi)), (2, .int (iN (n))), (3, .int (iN (j)))] → W p l e R s m args below meth c H locs _ _ _ (F0 m 4 ls []) by
    exact hloop4 _ 0 0  _ _ _ (Nat.lt_succ_self _) (by omega) (by omega) (by omega) (by omega) (rfl) hw (lv_sub hl [2, 3, 1, 0] rfl)
  intro n9
  induction n9 with
  | zero => intro n j  H locs ls hmz; exact absurd hmz (Nat.not_lt_zero _)
  | succ n9 ih4 =>
    intro n j  H locs ls hmz4 hi0 hi1 hi2 hi3 hnv hw hl
    refine lv_iload_n hC.1 hC.2.1 dX3_viewsOnto_4 rfl (lv_at hl 3 rfl) ?_
    refine lv_aload_n hC.1 hC.2.1 dX3_viewsOnto_5 rfl (lv_at hl 0 rfl) ?_
    refine x_get hC hw hR.1 rfl hinX3 1 (by decide) (List.mem_cons_of_mem _ (List.mem_append_left _ (List.mem_append_left _ (List.mem_of_getElem? (i := 0) rfl)))) rfl dX3_viewsOnto_6 ?_
    refine x_alen hC hw 3 hR.2.2.1 rfl dX3_viewsOnto_9 ?_
    refine x_icmp_ge (tgt := 44) hC ⟨by omega, by omega⟩ ⟨by omega, by omega⟩ dX3_viewsOnto_10 (by decide) (fun c_1 => ?_) (fun c_1 => ?_)
    · refine lv_iload_n hC.1 hC.2.1 dX3_viewsOnto_44 rfl (lv_at hl 2 rfl) ?_
      exact x_iret hC hw dX3_viewsOnto_45 (by first | decide | omega) (by first | decide | omega) ⟨n, rfl, rfl, by omega, by rw [show (4 : Nat) = (j).toNat from (tn_eq (by omega)).symm]; exact hnv⟩
    · refine lv_aload_n hC.1 hC.2.1 dX3_viewsOnto_13 rfl (lv_at hl 0 rfl) ?_
      refine x_get hC hw hR.1 rfl hinX3 1 (by decide) (List.mem_cons_of_mem _ (List.mem_append_left _ (List.mem_append_left _ (List.mem_of_getElem? (i := 0) rfl)))) rfl dX3_viewsOnto_14 ?_
      refine lv_iload_n hC.1 hC.2.1 dX3_viewsOnto_17 rfl (lv_at hl 3 rfl) ?_
      refine x_aldq hC hw 3 hR.2.2.1 rfl (by omega) (by omega) (by omega) dX3_viewsOnto_18 ?_
      rcases hy_3 : fv (j).toNat with _ | y_2
      · have hnhy_3 : Wv (j).toNat = none := VwO.nil (hR.vwo (show (j).toNat < 4 from tn_lt (by omega) (by decide))) hy_3
        have hohy_3 := opN_none hnhy_3
        show W p l e R s m args below meth c _ _ _ _ _ (F0 m 19 ls [.null])
        refine lv_ifnullN (tgt := 38) hC.1 hC.2.1 dX3_viewsOnto_19 (by decide) ?_
        refine x_iinc (lv' := [(3, .int (iN (j + 1))), (0, .ref h0), (1, .ref (qb bi)), (2, .int (iN (n)))]) hC dX3_viewsOnto_38 hl (k := 3) rfl (by decide) rfl (fun ls hl => ?_)
        refine lv_goto (tgt := 4) hC.1 hC.2.1 dX3_viewsOnto_41 (by decide) ?_
        exact ih4 n (j + 1)  _ _ _ (by first | exact mu_s hmz4 (by omega) | omega) (by omega) (by omega) (by omega) (by omega) (by rw [vwN_s (by omega) (vbN_nil hnhy_3)]; omega) hw (lv_sub hl [1, 2, 3, 0] rfl)
      · obtain ⟨ux_4, hux_4, hTx_4⟩ := (hR.vwo (show (j).toNat < 4 from tn_lt (by omega) (by decide))).yes hy_3
        have hpx_4 := opN_some hux_4
        have hkx_5 := hTx_4.1
        have hvx_5 := hTx_4.2
        have hlix_5 := hvx_5.2.1
        have huix_5 := hvx_5.2.2
        obtain ⟨htax_5, htbx_5, htcx_5, htdx_5, htex_5⟩ := id hkx_5
        obtain ⟨szx_6, fkx_6, fwx_6, hBx_6, hVx_6⟩ := hR.bk htax_5
        obtain ⟨-, -, -, -, hsax_6, hsbx_6⟩ := id hBx_6
        have holx_6 := hR.ol htax_5
        show W p l e R s m args below meth c _ _ _ _ _ (F0 m 19 ls [.ref y_2])
        refine lv_ifnull hC.1 hC.2.1 dX3_viewsOnto_19 ?_
        refine lv_aload_n hC.1 hC.2.1 dX3_viewsOnto_22 rfl (lv_at hl 0 rfl) ?_
        refine x_get hC hw hR.1 rfl hinX3 1 (by decide) (List.mem_cons_of_mem _ (List.mem_append_left _ (List.mem_append_left _ (List.mem_of_getElem? (i := 0) rfl)))) rfl dX3_viewsOnto_23 ?_
        refine lv_iload_n hC.1 hC.2.1 dX3_viewsOnto_26 rfl (lv_at hl 3 rfl) ?_
        refine x_aldq hC hw 3 hR.2.2.1 rfl (by omega) (by omega) (by omega) dX3_viewsOnto_27 ?_
        rw [hy_3]
        show W p l e R s m args below meth c _ _ _ _ _ (F0 m 28 ls [.ref y_2])
        refine x_callV hC hw (lv_size hl) (c_X1_book l G hvx_5) gX3_viewsOnto_X1_book rfl dv_X1_book hvx_5.1 rfl rfl (Nat.le_of_ble_eq_true rfl) (by rw [hRf]; decide) (by rw [hRl]; decide) (by first | (rw [hRc]; decide) | omega) (by first | (rw [hRs]; decide) | omega) dX3_viewsOnto_28 (fun r9 M_7 H locs hq hw => ?_)
        obtain ⟨rfl, hM9⟩ := hq
        rw [hM9] at hw
        show W p l e R s m args below meth c H locs _ _ _ (F0 m 31 ls [.ref (qb ux_4.b)])
        refine lv_aload_n hC.1 hC.2.1 dX3_viewsOnto_31 rfl (lv_at hl 1 rfl) ?_
        refine x_acmp_ne (tgt := 38) hC dX3_viewsOnto_32 (by decide) (fun c_8 => ?_) (fun c_8 => ?_)
        · refine x_iinc (lv' := [(3, .int (iN (j + 1))), (0, .ref h0), (1, .ref (qb bi)), (2, .int (iN (n)))]) hC dX3_viewsOnto_38 hl (k := 3) rfl (by decide) rfl (fun ls hl => ?_)
          refine lv_goto (tgt := 4) hC.1 hC.2.1 dX3_viewsOnto_41 (by decide) ?_
          exact ih4 n (j + 1)  _ _ _ (by first | exact mu_s hmz4 (by omega) | omega) (by omega) (by omega) (by omega) (by omega) (by rw [vwN_s (by omega) (vbN_ne hux_4 (hR.qne hkx_5.1 hbi c_8))]; omega) hw (lv_sub hl [1, 2, 3, 0] rfl)
        · refine x_iinc (lv' := [(2, .int (iN (n + 1))), (0, .ref h0), (1, .ref (qb bi)), (3, .int (iN (j)))]) hC dX3_viewsOnto_35 hl (k := 2) rfl (by decide) rfl (fun ls hl => ?_)
          refine x_iinc (lv' := [(3, .int (iN (j + 1))), (2, .int (iN (n + 1))), (0, .ref h0), (1, .ref (qb bi))]) hC dX3_viewsOnto_38 hl (k := 3) rfl (by decide) rfl (fun ls hl => ?_)
          refine lv_goto (tgt := 4) hC.1 hC.2.1 dX3_viewsOnto_41 (by decide) ?_
          exact ih4 (n + 1) (j + 1)  _ _ _ (by first | exact mu_s hmz4 (by omega) | omega) (by omega) (by omega) (by omega) (by omega) (by rw [vwN_s (by omega) (vbN_eq hux_4 (hR.qeq hkx_5.1 hbi c_8))]; omega) hw (lv_sub hl [2, 3, 1, 0] rfl)
set_option maxHeartbeats 4000000 in
set_option maxRecDepth 100000 in
theorem c_X3_checkViewIsFree (l : Launch) (G : xG) {M : HM} (hst : l.stackTraces = false) {h0 bs vs : Nat} {og : Option Nat} {kk kv rf : Int32} {qb qk qv : Nat → Nat} {fb fv : Nat → Option Nat} {O : OW} {Wv : VW} {V : BW} {T C : Nat → Int} {K : WA} {N : Int} (hR : RGx G M h0 bs vs og kk kv rf qb qk qv fb fv O O Wv V T C K) (hcb : cbN N T C) (hN : N ≤ 590) : xMetX l G yX3_checkViewIsFree wsX3_checkViewIsFree 6 90 1 6 [.ref h0] M (fun r M1 => r = none ∧ M1 = M ∧ frN Wv < 4) (fun E M1 => ((E = xIS ∧ ¬ (frN Wv < 4))) ∧ M1 = M) := by
  refine x_introX (cc := cX3_checkViewIsFree) (maxL := 1) (ret := none) (by exact pln_RX3) rfl (Nat.le_of_ble_eq_true rfl) ?_
  intro p e R s m args below meth c ls hRf hRc hRs hRl htab hC hw hl
  have hinX3 : ∀ w ∈ wsX30, w ∈ wsX3_checkViewIsFree := fun w h => (List.mem_cons_of_mem _ (List.mem_append_left _ (List.mem_append_right _ h)))
  have hl : lv_has ls 1 [(0, .ref h0)] := hl
  refine lv_aload_n hC.1 hC.2.1 dX3_checkViewIsFree_0 rfl (lv_at hl 0 rfl) ?_
  refine x_callV hC hw (lv_size hl) (c_X3_openViews l G hR hcb hN) gX3_checkViewIsFree_X3_openViews rfl dv_X3_openViews hR.1 rfl rfl (Nat.le_of_ble_eq_true rfl) (by rw [hRf]; decide) (by rw [hRl]; decide) (by first | (rw [hRc]; decide) | omega) (by first | (rw [hRs]; decide) | omega) dX3_checkViewIsFree_1 (fun r9 M_1 H locs hq hw => ?_)
  obtain ⟨z_2, rfl, hM9, hz_2, hz_2f, hz_2o⟩ := hq
  rw [hM9] at hw
  show W p l e R s m args below meth c H locs _ _ _ (F0 m 4 ls [.int (iN (z_2))])
  refine lv_aload_n hC.1 hC.2.1 dX3_checkViewIsFree_4 rfl (lv_at hl 0 rfl) ?_
  refine x_get hC hw hR.1 rfl hinX3 1 (by decide) (List.mem_cons_of_mem _ (List.mem_append_left _ (List.mem_append_left _ (List.mem_of_getElem? (i := 2) rfl)))) rfl dX3_checkViewIsFree_5 ?_
  refine x_alen hC hw 3 hR.2.2.1 rfl dX3_checkViewIsFree_8 ?_
  refine x_icmp_lt (tgt := 23) hC ⟨by omega, by omega⟩ ⟨by omega, by omega⟩ dX3_checkViewIsFree_9 (by decide) (fun c_3 => ?_) (fun c_3 => ?_)
  · exact vx_ret (x_vret hC hw dX3_checkViewIsFree_23 (by first | decide | omega) (by first | decide | omega) ⟨rfl, rfl, by have h9 := frN_le Wv; omega⟩)
  · exact x_throwW (cls := "java/lang/IllegalStateException") (text := "4 views are open") (names := ["java/lang/RuntimeException", "java/lang/Exception"]) hC hw hst htab (lv_size hl) tw_f2 tw_nm (List.mem_cons_of_mem _ (List.mem_append_left _ (List.mem_append_left _ (List.mem_of_getElem? (i := 0) rfl)))) (List.mem_cons_of_mem _ (List.mem_append_left _ (List.mem_append_left _ (List.mem_of_getElem? (i := 1) rfl)))) (fun w h => (List.mem_cons_of_mem _ (List.mem_append_right _ h))) tw_k42 tw_k52 (xlit_Rangeledger_321) tw_ca2 dX3_checkViewIsFree_12 dX3_checkViewIsFree_15 dX3_checkViewIsFree_16 dX3_checkViewIsFree_19 dX3_checkViewIsFree_22 (by rw [hRf]; decide) (by rw [hRl]; exact Nat.le_of_ble_eq_true rfl) (by first | (rw [hRc]; decide) | omega) (by first | (rw [hRs]; decide) | omega) (by omega) (by omega) ⟨⟨rfl, (by first | exact hc9 | omega | trivial)⟩, rfl⟩
set_option maxHeartbeats 4000000 in
set_option maxRecDepth 100000 in
theorem c_X3_shutViewsOnto (l : Launch) (G : xG) {M : HM} {h0 bs vs : Nat} {og : Option Nat} {kk kv rf : Int32} {qb qk qv : Nat → Nat} {fb fv : Nat → Option Nat} {O : OW} {Wv : VW} {V : BW} {T C : Nat → Int} {K : WA} {P : Nat → Nat} (hR : RGx G M h0 bs vs og kk kv rf qb qk qv fb fv O P Wv V T C K) {bi : Nat} (hbi : bi < 3) : xMet l G yX3_shutViewsOnto wsX3_shutViewsOnto 2 43 0 0 [.ref h0, .ref (qb bi)] M (fun r M1 => ∃ z : Int, r = some (.int (iN z)) ∧ ((0 ≤ z ∧ z ≤ 4) ∧ z = vwN Wv bi 4) ∧ ∃ fv1 : Nat → Option Nat, RGx G M1 h0 bs vs og kk kv rf qb qk qv fb fv1 O P (shN Wv bi 4) V T C K) := by
  refine x_intro (cc := cX3_shutViewsOnto) (maxL := 4) (ret := (some .int)) (by exact pln_RX3) rfl (Nat.le_of_ble_eq_true rfl) ?_
  intro p e R s m args below meth c ls hRf hRc hRs hRl hC hw hl
  have hinX3 : ∀ w ∈ wsX30, w ∈ wsX3_shutViewsOnto := fun w h => (List.mem_cons_of_mem _ (List.mem_append_left _ (List.mem_append_right _ h)))
  have hl : lv_has ls 4 [(0, .ref h0), (1, .ref (qb bi))] := hl
  refine lv_aload_n hC.1 hC.2.1 dX3_shutViewsOnto_0 rfl (lv_at hl 0 rfl) ?_
  refine lv_aload_n hC.1 hC.2.1 dX3_shutViewsOnto_1 rfl (lv_at hl 1 rfl) ?_
  refine x_callV hC hw (lv_size hl) (c_X3_viewsOnto l G hR (bi := bi) hbi) gX3_shutViewsOnto_X3_viewsOnto rfl dv_X3_viewsOnto hR.1 rfl rfl (Nat.le_of_ble_eq_true rfl) (by rw [hRf]; decide) (by rw [hRl]; decide) (by first | (rw [hRc]; decide) | omega) (by first | (rw [hRs]; decide) | omega) dX3_shutViewsOnto_2 (fun r9 M_1 H locs hq hw => ?_)
  obtain ⟨z_2, rfl, hM9, hz_2, hz_2v⟩ := hq
  rw [hM9] at hw
  show W p l e R s m args below meth c H locs _ _ _ (F0 m 5 ls [.int (iN (z_2))])
  refine lv_istore_n (lv' := [(2, .int (iN (z_2))), (0, .ref h0), (1, .ref (qb bi))]) hC.1 hC.2.1 dX3_shutViewsOnto_5 rfl hl (by decide) rfl (fun ls hl => ?_)
  refine x_const hC dX3_shutViewsOnto_6 ?_
  refine lv_istore_n (lv' := [(3, .int (iN (0))), (2, .int (iN (z_2))), (0, .ref h0), (1, .ref (qb bi))]) hC.1 hC.2.1 dX3_shutViewsOnto_7 rfl hl (by decide) rfl (fun ls hl => ?_)
  suffices hloop8 : ∀ (n9 : Nat) (n : Int) (j : Int) (M1 : HM) (fv1 : Nat → Option Nat) (W1 : VW) (hR1 : RGx G M1 h0 bs vs og kk kv rf qb qk qv fb fv1 O P W1 V T C K) (hW1 : W1 = shN Wv bi (j).toNat) (H : Heap) (locs : List Loc) (ls : Array Slot), (hmz8 : (4 - j).toNat < n9) → (hi0 : 0 ≤ j) → (hi1 : j ≤ 4) → (hi2 : 0 ≤ n ∧ n ≤ 4) → (hi3 : n = vwN Wv bi 4) → xD G (xA M s.heap.size) s M1 H locs → lv_has ls 4 [(0, .ref h0), (1, .ref (qb bi)), (2, .int (iN (n))), (3, .int (iN (j)))] → W p l e R s m args below meth c H locs _ _ _ (F0 m 8 ls []) by
    exact hloop8 _ z_2 0 _ _ _ hR (shN_0 Wv bi) _ _ _ (Nat.lt_succ_self _) (by omega) (by omega) (by omega) (by omega) hw (lv_sub hl [2, 3, 1, 0] rfl)
  intro n9
  induction n9 with
  | zero => intro n j M1 fv1 W1 hR1 hW1 H locs ls hmz; exact absurd hmz (Nat.not_lt_zero _)
  | succ n9 ih8 =>
    intro n j M1 fv1 W1 hR1 hW1 H locs ls hmz8 hi0 hi1 hi2 hi3 hw hl
    refine lv_iload_n hC.1 hC.2.1 dX3_shutViewsOnto_8 rfl (lv_at hl 3 rfl) ?_
    refine lv_aload_n hC.1 hC.2.1 dX3_shutViewsOnto_9 rfl (lv_at hl 0 rfl) ?_
    refine x_get hC hw hR1.1 rfl hinX3 1 (by decide) (List.mem_cons_of_mem _ (List.mem_append_left _ (List.mem_append_left _ (List.mem_of_getElem? (i := 0) rfl)))) rfl dX3_shutViewsOnto_10 ?_
    refine x_alen hC hw 3 hR1.2.2.1 rfl dX3_shutViewsOnto_13 ?_
    refine x_icmp_ge (tgt := 52) hC ⟨by omega, by omega⟩ ⟨by omega, by omega⟩ dX3_shutViewsOnto_14 (by decide) (fun c_3 => ?_) (fun c_3 => ?_)
    · refine lv_iload_n hC.1 hC.2.1 dX3_shutViewsOnto_52 rfl (lv_at hl 2 rfl) ?_
      exact x_iret hC hw dX3_shutViewsOnto_53 (by first | decide | omega) (by first | decide | omega) ⟨n, rfl, ⟨by omega, by omega⟩, _, (by have e9 : (j).toNat = 4 := by {omega}; rw [e9] at hW1; rw [← hW1]; exact hR1)⟩
    · refine lv_aload_n hC.1 hC.2.1 dX3_shutViewsOnto_17 rfl (lv_at hl 0 rfl) ?_
      refine x_get hC hw hR1.1 rfl hinX3 1 (by decide) (List.mem_cons_of_mem _ (List.mem_append_left _ (List.mem_append_left _ (List.mem_of_getElem? (i := 0) rfl)))) rfl dX3_shutViewsOnto_18 ?_
      refine lv_iload_n hC.1 hC.2.1 dX3_shutViewsOnto_21 rfl (lv_at hl 3 rfl) ?_
      refine x_aldq hC hw 3 hR1.2.2.1 rfl (by omega) (by omega) (by omega) dX3_shutViewsOnto_22 ?_
      rcases hy_5 : fv1 (j).toNat with _ | y_4
      · have hnhy_5 : W1 (j).toNat = none := VwO.nil (hR1.vwo (show (j).toNat < 4 from tn_lt (by omega) (by decide))) hy_5
        have hohy_5 := opN_none hnhy_5
        show W p l e R s m args below meth c _ _ _ _ _ (F0 m 23 ls [.null])
        refine lv_ifnullN (tgt := 46) hC.1 hC.2.1 dX3_shutViewsOnto_23 (by decide) ?_
        refine x_iinc (lv' := [(3, .int (iN (j + 1))), (0, .ref h0), (1, .ref (qb bi)), (2, .int (iN (n)))]) hC dX3_shutViewsOnto_46 hl (k := 3) rfl (by decide) rfl (fun ls hl => ?_)
        refine lv_goto (tgt := 8) hC.1 hC.2.1 dX3_shutViewsOnto_49 (by decide) ?_
        exact ih8 n (j + 1) _ _ _ hR1 (by rw [show (j + 1).toNat = (j).toNat + 1 from tn_s (by omega)]; exact shN_nil hW1 hnhy_5) _ _ _ (by first | exact mu_s hmz8 (by omega) | omega) (by omega) (by omega) (by omega) (by omega) hw (lv_sub hl [1, 2, 3, 0] rfl)
      · obtain ⟨ux_6, hux_6, hTx_6⟩ := (hR1.vwo (show (j).toNat < 4 from tn_lt (by omega) (by decide))).yes hy_5
        have hpx_6 := opN_some hux_6
        have hkx_7 := hTx_6.1
        have hvx_7 := hTx_6.2
        have hlix_7 := hvx_7.2.1
        have huix_7 := hvx_7.2.2
        obtain ⟨htax_7, htbx_7, htcx_7, htdx_7, htex_7⟩ := id hkx_7
        obtain ⟨szx_8, fkx_8, fwx_8, hBx_8, hVx_8⟩ := hR1.bk htax_7
        obtain ⟨-, -, -, -, hsax_8, hsbx_8⟩ := id hBx_8
        have holx_8 := hR1.ol htax_7
        show W p l e R s m args below meth c _ _ _ _ _ (F0 m 23 ls [.ref y_4])
        refine lv_ifnull hC.1 hC.2.1 dX3_shutViewsOnto_23 ?_
        refine lv_aload_n hC.1 hC.2.1 dX3_shutViewsOnto_26 rfl (lv_at hl 0 rfl) ?_
        refine x_get hC hw hR1.1 rfl hinX3 1 (by decide) (List.mem_cons_of_mem _ (List.mem_append_left _ (List.mem_append_left _ (List.mem_of_getElem? (i := 0) rfl)))) rfl dX3_shutViewsOnto_27 ?_
        refine lv_iload_n hC.1 hC.2.1 dX3_shutViewsOnto_30 rfl (lv_at hl 3 rfl) ?_
        refine x_aldq hC hw 3 hR1.2.2.1 rfl (by omega) (by omega) (by omega) dX3_shutViewsOnto_31 ?_
        rw [hy_5]
        show W p l e R s m args below meth c _ _ _ _ _ (F0 m 32 ls [.ref y_4])
        refine x_callV hC hw (lv_size hl) (c_X1_book l G hvx_7) gX3_shutViewsOnto_X1_book rfl dv_X1_book hvx_7.1 rfl rfl (Nat.le_of_ble_eq_true rfl) (by rw [hRf]; decide) (by rw [hRl]; decide) (by first | (rw [hRc]; decide) | omega) (by first | (rw [hRs]; decide) | omega) dX3_shutViewsOnto_32 (fun r9 M_9 H locs hq hw => ?_)
        obtain ⟨rfl, hM9⟩ := hq
        rw [hM9] at hw
        show W p l e R s m args below meth c H locs _ _ _ (F0 m 35 ls [.ref (qb ux_6.b)])
        refine lv_aload_n hC.1 hC.2.1 dX3_shutViewsOnto_35 rfl (lv_at hl 1 rfl) ?_
        refine x_acmp_ne (tgt := 46) hC dX3_shutViewsOnto_36 (by decide) (fun c_10 => ?_) (fun c_10 => ?_)
        · refine x_iinc (lv' := [(3, .int (iN (j + 1))), (0, .ref h0), (1, .ref (qb bi)), (2, .int (iN (n)))]) hC dX3_shutViewsOnto_46 hl (k := 3) rfl (by decide) rfl (fun ls hl => ?_)
          refine lv_goto (tgt := 8) hC.1 hC.2.1 dX3_shutViewsOnto_49 (by decide) ?_
          exact ih8 n (j + 1) _ _ _ hR1 (by rw [show (j + 1).toNat = (j).toNat + 1 from tn_s (by omega)]; exact shN_keep hW1 hux_6 (hR1.qne hkx_7.1 hbi c_10)) _ _ _ (by first | exact mu_s hmz8 (by omega) | omega) (by omega) (by omega) (by omega) (by omega) hw (lv_sub hl [1, 2, 3, 0] rfl)
        · refine lv_aload_n hC.1 hC.2.1 dX3_shutViewsOnto_39 rfl (lv_at hl 0 rfl) ?_
          refine x_get hC hw hR1.1 rfl hinX3 1 (by decide) (List.mem_cons_of_mem _ (List.mem_append_left _ (List.mem_append_left _ (List.mem_of_getElem? (i := 0) rfl)))) rfl dX3_shutViewsOnto_40 ?_
          refine lv_iload_n hC.1 hC.2.1 dX3_shutViewsOnto_43 rfl (lv_at hl 3 rfl) ?_
          refine lv_null hC.1 hC.2.1 dX3_shutViewsOnto_44 ?_
          refine x_astqN hC hw 3 hR1.2.2.1 rfl (by omega) (by omega) (by omega) dX3_shutViewsOnto_45 (fun H locs hw => ?_)
          obtain ⟨M_11, hM_12⟩ : ∃ z, z = va_up M1 vs (some (.inl (G.2 3, 4, .inr (.inr (.inr (.inr (va_up fv1 (j).toNat none))))))) := ⟨_, rfl⟩
          rw [← hM_12] at hw
          have hR_13 : RGx G M_11 h0 bs vs og kk kv rf qb qk qv fb (va_up fv1 (j).toNat none) O P (upW W1 (j).toNat none) V T C K := hR1.views hM_12 (fun j9 hj => by by_cases e9 : j9 = (j).toNat; (· subst e9; rw [va_up_self, upW_s]; exact trivial); (· rw [va_up_ne _ _ e9, upW_n _ _ e9]; exact hR1.vwo hj))
          refine x_iinc (lv' := [(3, .int (iN (j + 1))), (0, .ref h0), (1, .ref (qb bi)), (2, .int (iN (n)))]) hC dX3_shutViewsOnto_46 hl (k := 3) rfl (by decide) rfl (fun ls hl => ?_)
          refine lv_goto (tgt := 8) hC.1 hC.2.1 dX3_shutViewsOnto_49 (by decide) ?_
          exact ih8 n (j + 1) _ _ _ hR_13 (by rw [show (j + 1).toNat = (j).toNat + 1 from tn_s (by omega)]; exact shN_drop hW1 hux_6 (hR1.qeq hkx_7.1 hbi c_10)) _ _ _ (by first | exact mu_s hmz8 (by omega) | omega) (by omega) (by omega) (by omega) (by omega) hw (lv_sub hl [1, 2, 3, 0] rfl)
set_option maxHeartbeats 4000000 in
set_option maxRecDepth 100000 in
theorem c_X3_openView (l : Launch) (G : xG) {M : HM} (hst : l.stackTraces = false) {h0 bs vs : Nat} {og : Option Nat} {kk kv rf : Int32} {qb qk qv : Nat → Nat} {fb fv : Nat → Option Nat} {O : OW} {Wv : VW} {V : BW} {T C : Nat → Int} {K : WA} {N : Int} (hR : RGx G M h0 bs vs og kk kv rf qb qk qv fb fv O O Wv V T C K) (hcb : cbN N T C) (hN : N ≤ 590) {y : Nat} {u9 : VT} (hE : VwT M y qb O u9) : xMetX l G yX3_openView wsX3_openView 6 90 1 6 [.ref h0, .ref y] M (fun r M1 => ∃ z : Int, r = some (.int (iN z)) ∧ (z = frN Wv ∧ frN Wv < 4) ∧ ∃ fv1 : Nat → Option Nat, RGx G M1 h0 bs vs og kk kv rf qb qk qv fb fv1 O O (upW Wv (frN Wv) (some u9)) V T C K) (fun E M1 => ((E = xIS ∧ ¬ (frN Wv < 4))) ∧ RGx G M1 h0 bs vs og kk kv rf qb qk qv fb fv O O Wv V T C K) := by
  refine x_introX (cc := cX3_openView) (maxL := 3) (ret := (some .int)) (by exact pln_RX3) rfl (Nat.le_of_ble_eq_true rfl) ?_
  intro p e R s m args below meth c ls hRf hRc hRs hRl htab hC hw hl
  have hkx_1 := hE.1
  have hvx_1 := hE.2
  have hlix_1 := hvx_1.2.1
  have huix_1 := hvx_1.2.2
  obtain ⟨htax_1, htbx_1, htcx_1, htdx_1, htex_1⟩ := id hkx_1
  obtain ⟨szx_2, fkx_2, fwx_2, hBx_2, hVx_2⟩ := hR.bk htax_1
  obtain ⟨-, -, -, -, hsax_2, hsbx_2⟩ := id hBx_2
  have holx_2 := hR.ol htax_1
  have hctx_2 := hcb.2 _ htax_1
  have hinX3 : ∀ w ∈ wsX30, w ∈ wsX3_openView := fun w h => (List.mem_cons_of_mem _ (List.mem_append_left _ (List.mem_append_right _ h)))
  have hl : lv_has ls 3 [(0, .ref h0), (1, .ref y)] := hl
  refine x_const hC dX3_openView_0 ?_
  refine lv_istore_n (lv' := [(2, .int (iN (0))), (0, .ref h0), (1, .ref y)]) hC.1 hC.2.1 dX3_openView_1 rfl hl (by decide) rfl (fun ls hl => ?_)
  refine lv_iload_n hC.1 hC.2.1 dX3_openView_2 rfl (lv_at hl 0 rfl) ?_
  refine lv_aload_n hC.1 hC.2.1 dX3_openView_3 rfl (lv_at hl 1 rfl) ?_
  refine x_get hC hw hR.1 rfl hinX3 1 (by decide) (List.mem_cons_of_mem _ (List.mem_append_left _ (List.mem_append_left _ (List.mem_of_getElem? (i := 2) rfl)))) rfl dX3_openView_4 ?_
  refine x_alen hC hw 3 hR.2.2.1 rfl dX3_openView_7 ?_
  refine x_icmp_ge (tgt := 35) hC ⟨by decide, by decide⟩ ⟨by decide, by decide⟩ dX3_openView_8 (by decide) (fun c_3 => ?_) (fun c_3 => ?_)
  · exact absurd c_3 (by decide)
  · refine lv_aload_n hC.1 hC.2.1 dX3_openView_11 rfl (lv_at hl 1 rfl) ?_
    refine x_get hC hw hR.1 rfl hinX3 1 (by decide) (List.mem_cons_of_mem _ (List.mem_append_left _ (List.mem_append_left _ (List.mem_of_getElem? (i := 2) rfl)))) rfl dX3_openView_12 ?_
    refine lv_iload_n hC.1 hC.2.1 dX3_openView_15 rfl (lv_at hl 0 rfl) ?_
    refine x_aldq hC hw 3 hR.2.2.1 rfl (by omega) (by omega) (by omega) dX3_openView_16 ?_
    rcases hy_5 : fv (0 : Int).toNat with _ | y_4
    · have hnhy_5 : Wv 0 = none := VwO.nil (hR.vwo (show (0 : Int).toNat < 4 by decide)) hy_5
      have hohy_5 := opN_none hnhy_5
      show W p l e R s m args below meth c _ _ _ _ _ (F0 m 17 ls [.null])
      refine lv_ifnonnullN hC.1 hC.2.1 dX3_openView_17 ?_
      refine lv_aload_n hC.1 hC.2.1 dX3_openView_20 rfl (lv_at hl 1 rfl) ?_
      refine x_get hC hw hR.1 rfl hinX3 1 (by decide) (List.mem_cons_of_mem _ (List.mem_append_left _ (List.mem_append_left _ (List.mem_of_getElem? (i := 2) rfl)))) rfl dX3_openView_21 ?_
      refine lv_iload_n hC.1 hC.2.1 dX3_openView_24 rfl (lv_at hl 0 rfl) ?_
      refine lv_aload_n hC.1 hC.2.1 dX3_openView_25 rfl (lv_at hl 2 rfl) ?_
      refine x_astq hC hw 3 3 hR.2.2.1 rfl hvx_1.1 rfl (by omega) (by omega) (by omega) dX3_openView_26 (fun H locs hw => ?_)
      obtain ⟨M_6, hM_7⟩ : ∃ z, z = va_up M vs (some (.inl (G.2 3, 4, .inr (.inr (.inr (.inr (va_up fv (0 : Int).toNat (some y)))))))) := ⟨_, rfl⟩
      rw [← hM_7] at hw
      have hR_8 : RGx G M_6 h0 bs vs og kk kv rf qb qk qv fb (va_up fv (0 : Int).toNat (some y)) O O (upW Wv (0 : Int).toNat (some u9)) V T C K := hR.views hM_7 (fun j9 hj => by by_cases e9 : j9 = (0 : Int).toNat; (· subst e9; rw [va_up_self, upW_s]; exact ⟨hkx_1, hvx_1⟩); (· rw [va_up_ne _ _ e9, upW_n _ _ e9]; exact hR.vwo hj))
      refine lv_iload_n hC.1 hC.2.1 dX3_openView_27 rfl (lv_at hl 0 rfl) ?_
      exact vx_ret (x_iret hC hw dX3_openView_28 (by first | decide | omega) (by first | decide | omega) (by have hfr : frN Wv = 0 := (by simp [frN, hnhy_5]); exact ⟨0, rfl, (by rw [hfr]; omega), _, (by rw [hfr]; exact hR_8)⟩))
    · obtain ⟨ux_9, hux_9, hTx_9⟩ := (hR.vwo (show (0 : Int).toNat < 4 by decide)).yes hy_5
      have hpx_9 := opN_some hux_9
      have hux_99 : Wv 0 = some ux_9 := hux_9
      show W p l e R s m args below meth c _ _ _ _ _ (F0 m 17 ls [.ref y_4])
      refine lv_ifnonnull (tgt := 29) hC.1 hC.2.1 dX3_openView_17 (by decide) ?_
      refine x_iinc (lv' := [(2, .int (iN (0 + 1))), (0, .ref h0), (1, .ref y)]) hC dX3_openView_29 hl (k := 0) rfl (by decide) rfl (fun ls hl => ?_)
      refine lv_goto (tgt := 2) hC.1 hC.2.1 dX3_openView_32 (by decide) ?_
      refine lv_iload_n hC.1 hC.2.1 dX3_openView_2 rfl (lv_at hl 0 rfl) ?_
      refine lv_aload_n hC.1 hC.2.1 dX3_openView_3 rfl (lv_at hl 1 rfl) ?_
      refine x_get hC hw hR.1 rfl hinX3 1 (by decide) (List.mem_cons_of_mem _ (List.mem_append_left _ (List.mem_append_left _ (List.mem_of_getElem? (i := 2) rfl)))) rfl dX3_openView_4 ?_
      refine x_alen hC hw 3 hR.2.2.1 rfl dX3_openView_7 ?_
      refine x_icmp_ge (tgt := 35) hC ⟨by decide, by decide⟩ ⟨by decide, by decide⟩ dX3_openView_8 (by decide) (fun c_10 => ?_) (fun c_10 => ?_)
      · exact absurd c_10 (by decide)
      · refine lv_aload_n hC.1 hC.2.1 dX3_openView_11 rfl (lv_at hl 1 rfl) ?_
        refine x_get hC hw hR.1 rfl hinX3 1 (by decide) (List.mem_cons_of_mem _ (List.mem_append_left _ (List.mem_append_left _ (List.mem_of_getElem? (i := 2) rfl)))) rfl dX3_openView_12 ?_
        refine lv_iload_n hC.1 hC.2.1 dX3_openView_15 rfl (lv_at hl 0 rfl) ?_
        refine x_aldq hC hw 3 hR.2.2.1 rfl (by omega) (by omega) (by omega) dX3_openView_16 ?_
        rcases hy_12 : fv (0 + 1 : Int).toNat with _ | y_11
        · have hnhy_12 : Wv 1 = none := VwO.nil (hR.vwo (show (0 + 1 : Int).toNat < 4 by decide)) hy_12
          have hohy_12 := opN_none hnhy_12
          show W p l e R s m args below meth c _ _ _ _ _ (F0 m 17 ls [.null])
          refine lv_ifnonnullN hC.1 hC.2.1 dX3_openView_17 ?_
          refine lv_aload_n hC.1 hC.2.1 dX3_openView_20 rfl (lv_at hl 1 rfl) ?_
          refine x_get hC hw hR.1 rfl hinX3 1 (by decide) (List.mem_cons_of_mem _ (List.mem_append_left _ (List.mem_append_left _ (List.mem_of_getElem? (i := 2) rfl)))) rfl dX3_openView_21 ?_
          refine lv_iload_n hC.1 hC.2.1 dX3_openView_24 rfl (lv_at hl 0 rfl) ?_
          refine lv_aload_n hC.1 hC.2.1 dX3_openView_25 rfl (lv_at hl 2 rfl) ?_
          refine x_astq hC hw 3 3 hR.2.2.1 rfl hvx_1.1 rfl (by omega) (by omega) (by omega) dX3_openView_26 (fun H locs hw => ?_)
          obtain ⟨M_13, hM_14⟩ : ∃ z, z = va_up M vs (some (.inl (G.2 3, 4, .inr (.inr (.inr (.inr (va_up fv (0 + 1 : Int).toNat (some y)))))))) := ⟨_, rfl⟩
          rw [← hM_14] at hw
          have hR_15 : RGx G M_13 h0 bs vs og kk kv rf qb qk qv fb (va_up fv (0 + 1 : Int).toNat (some y)) O O (upW Wv (0 + 1 : Int).toNat (some u9)) V T C K := hR.views hM_14 (fun j9 hj => by by_cases e9 : j9 = (0 + 1 : Int).toNat; (· subst e9; rw [va_up_self, upW_s]; exact ⟨hkx_1, hvx_1⟩); (· rw [va_up_ne _ _ e9, upW_n _ _ e9]; exact hR.vwo hj))
          refine lv_iload_n hC.1 hC.2.1 dX3_openView_27 rfl (lv_at hl 0 rfl) ?_
          exact vx_ret (x_iret hC hw dX3_openView_28 (by first | decide | omega) (by first | decide | omega) (by have hfr : frN Wv = 1 := (by simp [frN, hux_99, hnhy_12]); exact ⟨0 + 1, rfl, (by rw [hfr]; omega), _, (by rw [hfr]; exact hR_15)⟩))
        · obtain ⟨ux_16, hux_16, hTx_16⟩ := (hR.vwo (show (0 + 1 : Int).toNat < 4 by decide)).yes hy_12
          have hpx_16 := opN_some hux_16
          have hux_169 : Wv 1 = some ux_16 := hux_16
          show W p l e R s m args below meth c _ _ _ _ _ (F0 m 17 ls [.ref y_11])
          refine lv_ifnonnull (tgt := 29) hC.1 hC.2.1 dX3_openView_17 (by decide) ?_
          refine x_iinc (lv' := [(2, .int (iN ((0 + 1) + 1))), (0, .ref h0), (1, .ref y)]) hC dX3_openView_29 hl (k := 0) rfl (by decide) rfl (fun ls hl => ?_)
          refine lv_goto (tgt := 2) hC.1 hC.2.1 dX3_openView_32 (by decide) ?_
          refine lv_iload_n hC.1 hC.2.1 dX3_openView_2 rfl (lv_at hl 0 rfl) ?_
          refine lv_aload_n hC.1 hC.2.1 dX3_openView_3 rfl (lv_at hl 1 rfl) ?_
          refine x_get hC hw hR.1 rfl hinX3 1 (by decide) (List.mem_cons_of_mem _ (List.mem_append_left _ (List.mem_append_left _ (List.mem_of_getElem? (i := 2) rfl)))) rfl dX3_openView_4 ?_
          refine x_alen hC hw 3 hR.2.2.1 rfl dX3_openView_7 ?_
          refine x_icmp_ge (tgt := 35) hC ⟨by decide, by decide⟩ ⟨by decide, by decide⟩ dX3_openView_8 (by decide) (fun c_17 => ?_) (fun c_17 => ?_)
          · exact absurd c_17 (by decide)
          · refine lv_aload_n hC.1 hC.2.1 dX3_openView_11 rfl (lv_at hl 1 rfl) ?_
            refine x_get hC hw hR.1 rfl hinX3 1 (by decide) (List.mem_cons_of_mem _ (List.mem_append_left _ (List.mem_append_left _ (List.mem_of_getElem? (i := 2) rfl)))) rfl dX3_openView_12 ?_
            refine lv_iload_n hC.1 hC.2.1 dX3_openView_15 rfl (lv_at hl 0 rfl) ?_
            refine x_aldq hC hw 3 hR.2.2.1 rfl (by omega) (by omega) (by omega) dX3_openView_16 ?_
            rcases hy_19 : fv ((0 + 1) + 1 : Int).toNat with _ | y_18
            · have hnhy_19 : Wv 2 = none := VwO.nil (hR.vwo (show ((0 + 1) + 1 : Int).toNat < 4 by decide)) hy_19
              have hohy_19 := opN_none hnhy_19
              show W p l e R s m args below meth c _ _ _ _ _ (F0 m 17 ls [.null])
              refine lv_ifnonnullN hC.1 hC.2.1 dX3_openView_17 ?_
              refine lv_aload_n hC.1 hC.2.1 dX3_openView_20 rfl (lv_at hl 1 rfl) ?_
              refine x_get hC hw hR.1 rfl hinX3 1 (by decide) (List.mem_cons_of_mem _ (List.mem_append_left _ (List.mem_append_left _ (List.mem_of_getElem? (i := 2) rfl)))) rfl dX3_openView_21 ?_
              refine lv_iload_n hC.1 hC.2.1 dX3_openView_24 rfl (lv_at hl 0 rfl) ?_
              refine lv_aload_n hC.1 hC.2.1 dX3_openView_25 rfl (lv_at hl 2 rfl) ?_
              refine x_astq hC hw 3 3 hR.2.2.1 rfl hvx_1.1 rfl (by omega) (by omega) (by omega) dX3_openView_26 (fun H locs hw => ?_)
              obtain ⟨M_20, hM_21⟩ : ∃ z, z = va_up M vs (some (.inl (G.2 3, 4, .inr (.inr (.inr (.inr (va_up fv ((0 + 1) + 1 : Int).toNat (some y)))))))) := ⟨_, rfl⟩
              rw [← hM_21] at hw
              have hR_22 : RGx G M_20 h0 bs vs og kk kv rf qb qk qv fb (va_up fv ((0 + 1) + 1 : Int).toNat (some y)) O O (upW Wv ((0 + 1) + 1 : Int).toNat (some u9)) V T C K := hR.views hM_21 (fun j9 hj => by by_cases e9 : j9 = ((0 + 1) + 1 : Int).toNat; (· subst e9; rw [va_up_self, upW_s]; exact ⟨hkx_1, hvx_1⟩); (· rw [va_up_ne _ _ e9, upW_n _ _ e9]; exact hR.vwo hj))
              refine lv_iload_n hC.1 hC.2.1 dX3_openView_27 rfl (lv_at hl 0 rfl) ?_
              exact vx_ret (x_iret hC hw dX3_openView_28 (by first | decide | omega) (by first | decide | omega) (by have hfr : frN Wv = 2 := (by simp [frN, hux_99, hux_169, hnhy_19]); exact ⟨(0 + 1) + 1, rfl, (by rw [hfr]; omega), _, (by rw [hfr]; exact hR_22)⟩))
            · obtain ⟨ux_23, hux_23, hTx_23⟩ := (hR.vwo (show ((0 + 1) + 1 : Int).toNat < 4 by decide)).yes hy_19
              have hpx_23 := opN_some hux_23
              have hux_239 : Wv 2 = some ux_23 := hux_23
              show W p l e R s m args below meth c _ _ _ _ _ (F0 m 17 ls [.ref y_18])
              refine lv_ifnonnull (tgt := 29) hC.1 hC.2.1 dX3_openView_17 (by decide) ?_
              refine x_iinc (lv' := [(2, .int (iN (((0 + 1) + 1) + 1))), (0, .ref h0), (1, .ref y)]) hC dX3_openView_29 hl (k := 0) rfl (by decide) rfl (fun ls hl => ?_)
              refine lv_goto (tgt := 2) hC.1 hC.2.1 dX3_openView_32 (by decide) ?_
              refine lv_iload_n hC.1 hC.2.1 dX3_openView_2 rfl (lv_at hl 0 rfl) ?_
              refine lv_aload_n hC.1 hC.2.1 dX3_openView_3 rfl (lv_at hl 1 rfl) ?_
              refine x_get hC hw hR.1 rfl hinX3 1 (by decide) (List.mem_cons_of_mem _ (List.mem_append_left _ (List.mem_append_left _ (List.mem_of_getElem? (i := 2) rfl)))) rfl dX3_openView_4 ?_
              refine x_alen hC hw 3 hR.2.2.1 rfl dX3_openView_7 ?_
              refine x_icmp_ge (tgt := 35) hC ⟨by decide, by decide⟩ ⟨by decide, by decide⟩ dX3_openView_8 (by decide) (fun c_24 => ?_) (fun c_24 => ?_)
              · exact absurd c_24 (by decide)
              · refine lv_aload_n hC.1 hC.2.1 dX3_openView_11 rfl (lv_at hl 1 rfl) ?_
                refine x_get hC hw hR.1 rfl hinX3 1 (by decide) (List.mem_cons_of_mem _ (List.mem_append_left _ (List.mem_append_left _ (List.mem_of_getElem? (i := 2) rfl)))) rfl dX3_openView_12 ?_
                refine lv_iload_n hC.1 hC.2.1 dX3_openView_15 rfl (lv_at hl 0 rfl) ?_
                refine x_aldq hC hw 3 hR.2.2.1 rfl (by omega) (by omega) (by omega) dX3_openView_16 ?_
                rcases hy_26 : fv (((0 + 1) + 1) + 1 : Int).toNat with _ | y_25
                · have hnhy_26 : Wv 3 = none := VwO.nil (hR.vwo (show (((0 + 1) + 1) + 1 : Int).toNat < 4 by decide)) hy_26
                  have hohy_26 := opN_none hnhy_26
                  show W p l e R s m args below meth c _ _ _ _ _ (F0 m 17 ls [.null])
                  refine lv_ifnonnullN hC.1 hC.2.1 dX3_openView_17 ?_
                  refine lv_aload_n hC.1 hC.2.1 dX3_openView_20 rfl (lv_at hl 1 rfl) ?_
                  refine x_get hC hw hR.1 rfl hinX3 1 (by decide) (List.mem_cons_of_mem _ (List.mem_append_left _ (List.mem_append_left _ (List.mem_of_getElem? (i := 2) rfl)))) rfl dX3_openView_21 ?_
                  refine lv_iload_n hC.1 hC.2.1 dX3_openView_24 rfl (lv_at hl 0 rfl) ?_
                  refine lv_aload_n hC.1 hC.2.1 dX3_openView_25 rfl (lv_at hl 2 rfl) ?_
                  refine x_astq hC hw 3 3 hR.2.2.1 rfl hvx_1.1 rfl (by omega) (by omega) (by omega) dX3_openView_26 (fun H locs hw => ?_)
                  obtain ⟨M_27, hM_28⟩ : ∃ z, z = va_up M vs (some (.inl (G.2 3, 4, .inr (.inr (.inr (.inr (va_up fv (((0 + 1) + 1) + 1 : Int).toNat (some y)))))))) := ⟨_, rfl⟩
                  rw [← hM_28] at hw
                  have hR_29 : RGx G M_27 h0 bs vs og kk kv rf qb qk qv fb (va_up fv (((0 + 1) + 1) + 1 : Int).toNat (some y)) O O (upW Wv (((0 + 1) + 1) + 1 : Int).toNat (some u9)) V T C K := hR.views hM_28 (fun j9 hj => by by_cases e9 : j9 = (((0 + 1) + 1) + 1 : Int).toNat; (· subst e9; rw [va_up_self, upW_s]; exact ⟨hkx_1, hvx_1⟩); (· rw [va_up_ne _ _ e9, upW_n _ _ e9]; exact hR.vwo hj))
                  refine lv_iload_n hC.1 hC.2.1 dX3_openView_27 rfl (lv_at hl 0 rfl) ?_
                  exact vx_ret (x_iret hC hw dX3_openView_28 (by first | decide | omega) (by first | decide | omega) (by have hfr : frN Wv = 3 := (by simp [frN, hux_99, hux_169, hux_239, hnhy_26]); exact ⟨((0 + 1) + 1) + 1, rfl, (by rw [hfr]; omega), _, (by rw [hfr]; exact hR_29)⟩))
                · obtain ⟨ux_30, hux_30, hTx_30⟩ := (hR.vwo (show (((0 + 1) + 1) + 1 : Int).toNat < 4 by decide)).yes hy_26
                  have hpx_30 := opN_some hux_30
                  have hux_309 : Wv 3 = some ux_30 := hux_30
                  show W p l e R s m args below meth c _ _ _ _ _ (F0 m 17 ls [.ref y_25])
                  refine lv_ifnonnull (tgt := 29) hC.1 hC.2.1 dX3_openView_17 (by decide) ?_
                  refine x_iinc (lv' := [(2, .int (iN ((((0 + 1) + 1) + 1) + 1))), (0, .ref h0), (1, .ref y)]) hC dX3_openView_29 hl (k := 0) rfl (by decide) rfl (fun ls hl => ?_)
                  refine lv_goto (tgt := 2) hC.1 hC.2.1 dX3_openView_32 (by decide) ?_
                  refine lv_iload_n hC.1 hC.2.1 dX3_openView_2 rfl (lv_at hl 0 rfl) ?_
                  refine lv_aload_n hC.1 hC.2.1 dX3_openView_3 rfl (lv_at hl 1 rfl) ?_
                  refine x_get hC hw hR.1 rfl hinX3 1 (by decide) (List.mem_cons_of_mem _ (List.mem_append_left _ (List.mem_append_left _ (List.mem_of_getElem? (i := 2) rfl)))) rfl dX3_openView_4 ?_
                  refine x_alen hC hw 3 hR.2.2.1 rfl dX3_openView_7 ?_
                  refine x_icmp_ge (tgt := 35) hC ⟨by decide, by decide⟩ ⟨by decide, by decide⟩ dX3_openView_8 (by decide) (fun c_31 => ?_) (fun c_31 => ?_)
                  · have hfr4 : frN Wv = 4 := (by simp [frN, hux_99, hux_169, hux_239, hux_309])
                    exact x_throwW (cls := "java/lang/IllegalStateException") (text := "4 views are open") (names := ["java/lang/RuntimeException", "java/lang/Exception"]) hC hw hst htab (lv_size hl) tw_f2 tw_nm (List.mem_cons_of_mem _ (List.mem_append_left _ (List.mem_append_left _ (List.mem_of_getElem? (i := 0) rfl)))) (List.mem_cons_of_mem _ (List.mem_append_left _ (List.mem_append_left _ (List.mem_of_getElem? (i := 1) rfl)))) (fun w h => (List.mem_cons_of_mem _ (List.mem_append_right _ h))) tw_k42 tw_k52 (xlit_Rangeledger_321) tw_ca2 dX3_openView_35 dX3_openView_38 dX3_openView_39 dX3_openView_42 dX3_openView_45 (by rw [hRf]; decide) (by rw [hRl]; exact Nat.le_of_ble_eq_true rfl) (by first | (rw [hRc]; decide) | omega) (by first | (rw [hRs]; decide) | omega) (by omega) (by omega) ⟨⟨rfl, (by first | exact hc9 | omega | trivial)⟩, hR⟩
                  · exact absurd c_31 (by omega)
set_option maxHeartbeats 4000000 in
set_option maxRecDepth 100000 in
theorem c_X3_viewToWritePair (l : Launch) (G : xG) {M : HM} (hst : l.stackTraces = false) {h0 bs vs : Nat} {og : Option Nat} {kk kv rf : Int32} {qb qk qv : Nat → Nat} {fb fv : Nat → Option Nat} {O : OW} {Wv : VW} {V : BW} {T C : Nat → Int} {K : WA} {N : Int} (hR : RGx G M h0 bs vs og kk kv rf qb qk qv fb fv O O Wv V T C K) (hcb : cbN N T C) (hN : N ≤ 590) {p0 : Int} (hp0 : -2147483648 ≤ p0 ∧ p0 ≤ 2147483647) {p1 : Int} (hp1 : -2147483648 ≤ p1 ∧ p1 ≤ 2147483647) {p2 : Int} (hp2 : -2147483648 ≤ p2 ∧ p2 ≤ 2147483647) : xMetX l G yX3_viewToWritePair wsX3_viewToWritePair 7 111 3 18 [.ref h0, .int (iN (p0)), .int (iN (p1)), .int (iN (p2))] M (fun r M1 => ∃ (y : Nat) (u : VT), r = some (.ref y) ∧ Wv p0.toNat = some u ∧ VwT M1 y qb O u ∧ RGx G M1 h0 bs vs og kk kv rf qb qk qv fb fv O O Wv V (upV T u.b (T u.b + 1)) C K ∧ (0 ≤ p0 ∧ p0 ≤ 3) ∧ (0 ≤ p1 ∧ p1 ≤ 99) ∧ (-9999 ≤ p2 ∧ p2 ≤ 9999)) (fun E M1 => ((E = xIO ∧ ¬ (0 ≤ p0 ∧ p0 ≤ 3 ∧ opN (Wv p0.toNat) = 1)) ∨ (E = xIA ∧ (0 ≤ p0 ∧ p0 ≤ 3 ∧ opN (Wv p0.toNat) = 1) ∧ ¬ ((0 ≤ p1 ∧ p1 ≤ 99) ∧ (-9999 ≤ p2 ∧ p2 ≤ 9999)))) ∧ RGx G M1 h0 bs vs og kk kv rf qb qk qv fb fv O O Wv V T C K) := by
  refine x_introX (cc := cX3_viewToWritePair) (maxL := 5) (ret := (some (.object "Rangeledger$View"))) (by exact pln_RX3) rfl (Nat.le_of_ble_eq_true rfl) ?_
  intro p e R s m args below meth c ls hRf hRc hRs hRl htab hC hw hl
  have hl : lv_has ls 5 [(0, .ref h0), (1, .int (iN (p0))), (2, .int (iN (p1))), (3, .int (iN (p2)))] := hl
  refine lv_aload_n hC.1 hC.2.1 dX3_viewToWritePair_0 rfl (lv_at hl 0 rfl) ?_
  refine lv_iload_n hC.1 hC.2.1 dX3_viewToWritePair_1 rfl (lv_at hl 1 rfl) ?_
  refine x_callVX hC hw (lv_size hl) (c_X3_viewAt l G hst hR hcb hN (p0 := p0) (by first | assumption | omega)) gX3_viewToWritePair_X3_viewAt rfl dv_X3_viewAt hR.1 rfl rfl (Nat.le_of_ble_eq_true rfl) (by rw [hRf]; decide) (by rw [hRl]; decide) (by first | (rw [hRc]; decide) | omega) (by first | (rw [hRs]; decide) | omega) dX3_viewToWritePair_2 (fun E ce q9 M_1 H locs hqx hw hcell hcv hcls => ?_) (fun r9 M_1 H locs hq hw => ?_)
  · rw [hqx.2] at hw
    obtain ⟨hE, hc9⟩ := hqx.1
    replace hqx := hqx.2
    subst hE
    exact x_outX hC hw htab hcell hcv hcls (by first | decide | omega) (by first | decide | omega) ⟨Or.inl ⟨rfl, (by first | exact hc9 | omega | trivial)⟩, hR⟩
  obtain ⟨y_3, rfl, hM9, hk_2, hk_2b, hyk_2⟩ := hq
  rw [hM9] at hw
  obtain ⟨ux_4, hux_4, hTx_4⟩ := (hR.vwo (show (p0).toNat < 4 from tn_lt (by omega) (by decide))).yes hyk_2
  have hpx_4 := opN_some hux_4
  have hkx_5 := hTx_4.1
  have hvx_5 := hTx_4.2
  have hlix_5 := hvx_5.2.1
  have huix_5 := hvx_5.2.2
  obtain ⟨htax_5, htbx_5, htcx_5, htdx_5, htex_5⟩ := id hkx_5
  obtain ⟨szx_6, fkx_6, fwx_6, hBx_6, hVx_6⟩ := hR.bk htax_5
  obtain ⟨-, -, -, -, hsax_6, hsbx_6⟩ := id hBx_6
  have holx_6 := hR.ol htax_5
  have hctx_6 := hcb.2 _ htax_5
  show W p l e R s m args below meth c H locs _ _ _ (F0 m 5 ls [.ref y_3])
  refine lv_astore (lv' := [(4, .ref y_3), (0, .ref h0), (1, .int (iN (p0))), (2, .int (iN (p1))), (3, .int (iN (p2)))]) hC.1 hC.2.1 dX3_viewToWritePair_5 hl (by decide) rfl (fun ls hl => ?_)
  refine lv_iload_n hC.1 hC.2.1 dX3_viewToWritePair_7 rfl (lv_at hl 3 rfl) ?_
  refine x_callSX hC hw (lv_size hl) (c_X3_checkKey l G (M := M) hst (p0 := p1) (by first | assumption | omega)) gX3_viewToWritePair_X3_checkKey rfl dv_X3_checkKey_s rfl (Nat.le_of_ble_eq_true rfl) (by rw [hRf]; decide) (by rw [hRl]; decide) (by first | (rw [hRc]; decide) | omega) (by first | (rw [hRs]; decide) | omega) dX3_viewToWritePair_8 (fun E ce q9 M_7 H locs hqx hw hcell hcv hcls => ?_) (fun r9 M_7 H locs hq hw => ?_)
  · rw [hqx.2] at hw
    obtain ⟨hE, hc9⟩ := hqx.1
    replace hqx := hqx.2
    subst hE
    exact x_outX hC hw htab hcell hcv hcls (by first | decide | omega) (by first | decide | omega) ⟨Or.inr (⟨rfl, ⟨⟨(by first | omega | trivial), (by first | omega | trivial), (by first | omega | trivial)⟩, (by first | exact hc9 | omega | trivial)⟩⟩), hR⟩
  obtain ⟨rfl, hM9, hk_8⟩ := hq
  rw [hM9] at hw
  show W p l e R s m args below meth c H locs _ _ _ (F0 m 11 ls [])
  refine lv_iload_n hC.1 hC.2.1 dX3_viewToWritePair_11 rfl (lv_at hl 4 rfl) ?_
  refine x_callSX hC hw (lv_size hl) (c_X3_checkValue l G (M := M) hst (p0 := p2) (by first | assumption | omega)) gX3_viewToWritePair_X3_checkValue rfl dv_X3_checkValue_s rfl (Nat.le_of_ble_eq_true rfl) (by rw [hRf]; decide) (by rw [hRl]; decide) (by first | (rw [hRc]; decide) | omega) (by first | (rw [hRs]; decide) | omega) dX3_viewToWritePair_12 (fun E ce q9 M_9 H locs hqx hw hcell hcv hcls => ?_) (fun r9 M_9 H locs hq hw => ?_)
  · rw [hqx.2] at hw
    obtain ⟨hE, hc9⟩ := hqx.1
    replace hqx := hqx.2
    subst hE
    exact x_outX hC hw htab hcell hcv hcls (by first | decide | omega) (by first | decide | omega) ⟨Or.inr (⟨rfl, ⟨⟨(by first | omega | trivial), (by first | omega | trivial), (by first | omega | trivial)⟩, (by first | exact hc9 | omega | trivial)⟩⟩), hR⟩
  obtain ⟨rfl, hM9, hk_10⟩ := hq
  rw [hM9] at hw
  show W p l e R s m args below meth c H locs _ _ _ (F0 m 15 ls [])
  refine lv_aload hC.1 hC.2.1 dX3_viewToWritePair_15 (lv_at hl 0 rfl) ?_
  refine x_callV hC hw (lv_size hl) (c_X1_book l G hvx_5) gX3_viewToWritePair_X1_book rfl dv_X1_book hvx_5.1 rfl rfl (Nat.le_of_ble_eq_true rfl) (by rw [hRf]; decide) (by rw [hRl]; decide) (by first | (rw [hRc]; decide) | omega) (by first | (rw [hRs]; decide) | omega) dX3_viewToWritePair_17 (fun r9 M_11 H locs hq hw => ?_)
  obtain ⟨rfl, hM9⟩ := hq
  rw [hM9] at hw
  show W p l e R s m args below meth c H locs _ _ _ (F0 m 20 ls [.ref (qb ux_4.b)])
  refine x_callV hC hw (lv_size hl) (c_X0_touch l G hBx_6 (show (O ux_4.b) < 3 by first | assumption | omega) hVx_6 (by first | assumption | omega) (by first | assumption | omega)) gX3_viewToWritePair_X0_touch rfl dv_X0_touch hBx_6.1 rfl rfl (Nat.le_of_ble_eq_true rfl) (by rw [hRf]; decide) (by rw [hRl]; decide) (by first | (rw [hRc]; decide) | omega) (by first | (rw [hRs]; decide) | omega) dX3_viewToWritePair_20 (fun r9 M_12 H locs hq hw => ?_)
  obtain ⟨rfl, hBu_13, smu_13⟩ := hq
  have sm_14 := (xSm.rf (M := M) (b := (qb ux_4.b)) (k := (qk ux_4.b)) (v := (qv ux_4.b))).tr (smu_13)
  have h_15 := hR.book htax_5 hBx_6 hBu_13 hVx_6 smu_13 (by first | omega | (rw [upV_s]; omega)) (by first | omega | (rw [upV_s]; omega))
  rw [show (upB V ux_4.b (V ux_4.b)) = V from upB_self rfl, show (upV C ux_4.b (C ux_4.b)) = C from upV_same _ _] at h_15
  have h_16 : Vw _ y_3 (qb ux_4.b) (iN ux_4.lo) (iN ux_4.up) (iN (swN (O ux_4.b) ux_4.lo ux_4.li)) (iN (ewN (O ux_4.b) ux_4.lo ux_4.li ux_4.up ux_4.ui)) ux_4.li ux_4.ui := And.intro (x_kB hBx_6 smu_13 (by decide) hvx_5.1) hvx_5.2
  show W p l e R s m args below meth c H locs _ _ _ (F0 m 23 ls [])
  refine lv_aload hC.1 hC.2.1 dX3_viewToWritePair_23 (lv_at hl 0 rfl) ?_
  exact vx_ret (x_aret hC hw (by first | exact Or.inl ⟨_, rfl⟩ | exact Or.inr ⟨_, rfl⟩) (Or.inr ⟨_, rfl⟩) dX3_viewToWritePair_25 (by omega) (by omega) ⟨y_3, _, rfl, hux_4, ⟨hkx_5, h_16⟩, h_15, by omega, by omega, by omega⟩)
set_option maxHeartbeats 4000000 in
set_option maxRecDepth 100000 in
theorem c_X3_soundWalk (l : Launch) (G : xG) {M : HM} (hst : l.stackTraces = false) {h0 bs vs : Nat} {og : Option Nat} {kk kv rf : Int32} {qb qk qv : Nat → Nat} {fb fv : Nat → Option Nat} {O : OW} {Wv : VW} {V : BW} {T C : Nat → Int} {K : WA} {N : Int} (hR : RGx G M h0 bs vs og kk kv rf qb qk qv fb fv O O Wv V T C K) (hcb : cbN N T C) (hN : N ≤ 590) : xMetX l G yX3_soundWalk wsX3_soundWalk 6 90 1 6 [.ref h0] M (fun r M1 => ∃ w : Nat, r = some (.ref w) ∧ M1 = M ∧ og = some w ∧ kS (abK T C K) = 1) (fun E M1 => ((E = xIS ∧ ¬ (kS (abK T C K) = 1))) ∧ M1 = M) := by
  refine x_introX (cc := cX3_soundWalk) (maxL := 1) (ret := (some (.object "Rangeledger$Walk"))) (by exact pln_RX3) rfl (Nat.le_of_ble_eq_true rfl) ?_
  intro p e R s m args below meth c ls hRf hRc hRs hRl htab hC hw hl
  have hinX3 : ∀ w ∈ wsX30, w ∈ wsX3_soundWalk := fun w h => (List.mem_cons_of_mem _ (List.mem_append_left _ (List.mem_append_left _ (List.mem_append_left _ (List.mem_append_left _ (List.mem_append_right _ h))))))
  have hl : lv_has ls 1 [(0, .ref h0)] := hl
  refine lv_aload_n hC.1 hC.2.1 dX3_soundWalk_0 rfl (lv_at hl 0 rfl) ?_
  refine x_get hC hw hR.1 rfl hinX3 2 (by decide) (List.mem_cons_of_mem _ (List.mem_append_left _ (List.mem_append_left _ (List.mem_append_left _ (List.mem_append_left _ (List.mem_append_left _ (List.mem_append_left _ (List.mem_of_getElem? (i := 2) rfl)))))))) rfl dX3_soundWalk_1 ?_
  rcases og with _ | w_1
  · have hK_2 := WkO.nil hR.wk
    subst hK_2
    have hks0 := kS_none (T := T) (C := C)
    show W p l e R s m args below meth c _ _ _ _ _ (F0 m 4 ls [.null])
    refine lv_ifnullN (tgt := 17) hC.1 hC.2.1 dX3_soundWalk_4 (by decide) ?_
    exact x_throwW (cls := "java/lang/IllegalStateException") (text := "there is no walk, or it is broken") (names := ["java/lang/RuntimeException", "java/lang/Exception"]) hC hw hst htab (lv_size hl) tw_f2 tw_nm (List.mem_cons_of_mem _ (List.mem_append_left _ (List.mem_append_left _ (List.mem_append_left _ (List.mem_append_left _ (List.mem_append_left _ (List.mem_append_left _ (List.mem_of_getElem? (i := 0) rfl)))))))) (List.mem_cons_of_mem _ (List.mem_append_left _ (List.mem_append_left _ (List.mem_append_left _ (List.mem_append_left _ (List.mem_append_left _ (List.mem_append_left _ (List.mem_of_getElem? (i := 1) rfl)))))))) (fun w h => (List.mem_cons_of_mem _ (List.mem_append_right _ h))) tw_k42 tw_k52 (xlit_Rangeledger_316) tw_ca2 dX3_soundWalk_17 dX3_soundWalk_20 dX3_soundWalk_21 dX3_soundWalk_24 dX3_soundWalk_27 (by rw [hRf]; decide) (by rw [hRl]; exact Nat.le_of_ble_eq_true rfl) (by first | (rw [hRc]; decide) | omega) (by first | (rw [hRs]; decide) | omega) (by omega) (by omega) ⟨⟨rfl, (by first | exact hc9 | omega | trivial)⟩, rfl⟩
  · obtain ⟨tx_3, psx_3, cdx_3, twx_3, kwx_3, yx_3, hKx_3, hWx_3, hTx_3⟩ := WkO.yes hR.wk
    subst hKx_3
    obtain ⟨hwax_3, hwbx_3, hwcx_3, hwdx_3, hwex_3⟩ := hR.wg
    have hwfx_3 := hwcx_3.imp id And.left
    have hkx_4 := hTx_3.1
    have hvx_4 := hTx_3.2
    have hlix_4 := hvx_4.2.1
    have huix_4 := hvx_4.2.2
    obtain ⟨htax_4, htbx_4, htcx_4, htdx_4, htex_4⟩ := id hkx_4
    obtain ⟨szx_5, fkx_5, fwx_5, hBx_5, hVx_5⟩ := hR.bk htax_4
    obtain ⟨-, -, -, -, hsax_5, hsbx_5⟩ := id hBx_5
    have holx_5 := hR.ol htax_4
    have hctx_5 := hcb.2 _ htax_4
    have hksx_3 := kS_ab (T := T) (C := C) (t := tx_3) (ps := psx_3) (cd := cdx_3) (tw := twx_3) (kw := kwx_3)
    have hkhx_3 := kH_ab (T := T) (C := C) (t := tx_3) (ps := psx_3) (cd := cdx_3) (tw := twx_3) (kw := kwx_3)
    have hkcx_3 := kC_ab (T := T) (C := C) (t := tx_3) (ps := psx_3) (cd := cdx_3) (tw := twx_3) (kw := kwx_3)
    have hkbx_3 := kB_ab (T := T) (C := C) (t := tx_3) (ps := psx_3) (cd := cdx_3) (tw := twx_3) (kw := kwx_3)
    have hkpx_3 := kP_ab (T := T) (C := C) (t := tx_3) (ps := psx_3) (cd := cdx_3) (tw := twx_3) (kw := kwx_3)
    show W p l e R s m args below meth c _ _ _ _ _ (F0 m 4 ls [.ref w_1])
    refine lv_ifnull hC.1 hC.2.1 dX3_soundWalk_4 ?_
    refine lv_aload_n hC.1 hC.2.1 dX3_soundWalk_7 rfl (lv_at hl 0 rfl) ?_
    refine x_get hC hw hR.1 rfl hinX3 2 (by decide) (List.mem_cons_of_mem _ (List.mem_append_left _ (List.mem_append_left _ (List.mem_append_left _ (List.mem_append_left _ (List.mem_append_left _ (List.mem_append_left _ (List.mem_of_getElem? (i := 2) rfl)))))))) rfl dX3_soundWalk_8 ?_
    show W p l e R s m args below meth c _ _ _ _ _ (F0 m 11 ls [.ref w_1])
    refine x_callV hC hw (lv_size hl) (c_X2_isBroken l G hWx_3 ⟨by omega, by omega, by omega⟩ hkx_4 hvx_4 hBx_5 (show (O tx_3.b) < 3 by first | assumption | omega) hVx_5 (by first | assumption | omega) (by first | assumption | omega) (O := O) (V := V) (t9 := tx_3)) gX3_soundWalk_X2_isBroken rfl dv_X2_isBroken hWx_3.1 rfl rfl (Nat.le_of_ble_eq_true rfl) (by rw [hRf]; decide) (by rw [hRl]; decide) (by first | (rw [hRc]; decide) | omega) (by first | (rw [hRs]; decide) | omega) dX3_soundWalk_11 (fun r9 M_6 H locs hq hw => ?_)
    obtain ⟨z_7, rfl, hM9, hz_7, hz_7b⟩ := hq
    rw [hM9] at hw
    show W p l e R s m args below meth c H locs _ _ _ (F0 m 14 ls [.int (iN (z_7))])
    refine x_if_eq (tgt := 28) hC ⟨by omega, by omega⟩ dX3_soundWalk_14 (by decide) (fun c_8 => ?_) (fun c_8 => ?_)
    · refine lv_aload_n hC.1 hC.2.1 dX3_soundWalk_28 rfl (lv_at hl 0 rfl) ?_
      refine x_get hC hw hR.1 rfl hinX3 2 (by decide) (List.mem_cons_of_mem _ (List.mem_append_left _ (List.mem_append_left _ (List.mem_append_left _ (List.mem_append_left _ (List.mem_append_left _ (List.mem_append_left _ (List.mem_of_getElem? (i := 2) rfl)))))))) rfl dX3_soundWalk_29 ?_
      show W p l e R s m args below meth c _ _ _ _ _ (F0 m 32 ls [.ref w_1])
      exact vx_ret (x_aret hC hw (by first | exact Or.inl ⟨_, rfl⟩ | exact Or.inr ⟨_, rfl⟩) (Or.inr ⟨_, rfl⟩) dX3_soundWalk_32 (by omega) (by omega) ⟨w_1, rfl, rfl, rfl, hksx_3.mpr (by omega)⟩)
    · exact x_throwW (cls := "java/lang/IllegalStateException") (text := "there is no walk, or it is broken") (names := ["java/lang/RuntimeException", "java/lang/Exception"]) hC hw hst htab (lv_size hl) tw_f2 tw_nm (List.mem_cons_of_mem _ (List.mem_append_left _ (List.mem_append_left _ (List.mem_append_left _ (List.mem_append_left _ (List.mem_append_left _ (List.mem_append_left _ (List.mem_of_getElem? (i := 0) rfl)))))))) (List.mem_cons_of_mem _ (List.mem_append_left _ (List.mem_append_left _ (List.mem_append_left _ (List.mem_append_left _ (List.mem_append_left _ (List.mem_append_left _ (List.mem_of_getElem? (i := 1) rfl)))))))) (fun w h => (List.mem_cons_of_mem _ (List.mem_append_right _ h))) tw_k42 tw_k52 (xlit_Rangeledger_316) tw_ca2 dX3_soundWalk_17 dX3_soundWalk_20 dX3_soundWalk_21 dX3_soundWalk_24 dX3_soundWalk_27 (by rw [hRf]; decide) (by rw [hRl]; exact Nat.le_of_ble_eq_true rfl) (by first | (rw [hRc]; decide) | omega) (by first | (rw [hRs]; decide) | omega) (by omega) (by omega) ⟨⟨rfl, (by first | exact hc9 | omega | trivial)⟩, rfl⟩
set_option maxHeartbeats 4000000 in
set_option maxRecDepth 100000 in
theorem c_X3_beginWalk (l : Launch) (G : xG) {M : HM} {h0 bs vs : Nat} {og : Option Nat} {kk kv rf : Int32} {qb qk qv : Nat → Nat} {fb fv : Nat → Option Nat} {O : OW} {Wv : VW} {V : BW} {T C : Nat → Int} {K : WA} {N : Int} (hR : RGx G M h0 bs vs og kk kv rf qb qk qv fb fv O O Wv V T C K) (hcb : cbN N T C) (hN : N ≤ 590) {y : Nat} {u9 : VT} (hE : VwT M y qb O u9) : xMet l G yX3_beginWalk wsX3_beginWalk 4 88 1 5 [.ref h0, .ref y] M (fun r M1 => ∃ z : Int, r = some (.int (iN z)) ∧ (0 ≤ z ∧ z ≤ 100) ∧ z = mnF O V u9 100 ∧ ∃ w : Nat, RGx G M1 h0 bs vs (some w) kk kv rf qb qk qv fb fv O O Wv V T C (some (u9, -10000, 0, 0, C u9.b))) := by
  refine x_intro (cc := cX3_beginWalk) (maxL := 2) (ret := (some .int)) (by exact pln_RX3) rfl (Nat.le_of_ble_eq_true rfl) ?_
  intro p e R s m args below meth c ls hRf hRc hRs hRl hC hw hl
  have hkx_1 := hE.1
  have hvx_1 := hE.2
  have hlix_1 := hvx_1.2.1
  have huix_1 := hvx_1.2.2
  obtain ⟨htax_1, htbx_1, htcx_1, htdx_1, htex_1⟩ := id hkx_1
  obtain ⟨szx_2, fkx_2, fwx_2, hBx_2, hVx_2⟩ := hR.bk htax_1
  obtain ⟨-, -, -, -, hsax_2, hsbx_2⟩ := id hBx_2
  have holx_2 := hR.ol htax_1
  have hctx_2 := hcb.2 _ htax_1
  have hinX2 : ∀ w ∈ wsX20, w ∈ wsX3_beginWalk := fun w h => (List.mem_cons_of_mem _ (List.mem_append_left _ (List.mem_append_left _ (List.mem_append_left _ (List.mem_append_right _ h)))))
  have hinX3 : ∀ w ∈ wsX30, w ∈ wsX3_beginWalk := fun w h => (List.mem_cons_of_mem _ (List.mem_append_left _ (List.mem_append_left _ (List.mem_append_right _ h))))
  have hl : lv_has ls 2 [(0, .ref h0), (1, .ref y)] := hl
  refine lv_aload_n hC.1 hC.2.1 dX3_beginWalk_0 rfl (lv_at hl 0 rfl) ?_
  refine x_new (fs := [.null, .int 0, .int (iN (0)), .int 0, .int 0]) (ci := 4) hC hw rfl hinX2 tyX2 tyX2_ok (by decide +kernel) (by decide +kernel) (by decide +kernel) (fun j hj => by rcases (show j = 0 ∨ j = 1 ∨ j = 2 ∨ j = 3 ∨ j = 4 by omega) with rfl | rfl | rfl | rfl | rfl <;> rfl) (by omega) (by omega) dX3_beginWalk_1 (fun q_3 H hq_6 hw => ?_)
  obtain ⟨M_4, hM_5⟩ : ∃ z, z = va_up M q_3 (some (.inr (4, [.null, .int 0, .int (iN (0)), .int 0, .int 0]))) := ⟨_, rfl⟩
  rw [← hM_5] at hw
  have hx_7 : xExt M M_4 := by rw [hM_5]; exact xExt.new hq_6
  have hf_8 : M_4 q_3 = some (.inr (4, [.null, .int 0, .int (iN (0)), .int 0, .int 0])) := by rw [hM_5, va_up_self]
  have h_9 := hR.ext hx_7
  have h_10 := hBx_2.ext hx_7
  have h_11 : Vw M_4 y (qb u9.b) (iN u9.lo) (iN u9.up) (iN (swN (O u9.b) u9.lo u9.li)) (iN (ewN (O u9.b) u9.lo u9.li u9.up u9.ui)) u9.li u9.ui := ⟨hx_7 _ _ hvx_1.1, hvx_1.2⟩
  refine lv_dup hC.1 hC.2.1 dX3_beginWalk_4 rfl ?_
  refine lv_aload_n hC.1 hC.2.1 dX3_beginWalk_5 rfl (lv_at hl 1 rfl) ?_
  refine x_callI hC hw (lv_size hl) (c_X2_init l G hf_8 h_11 h_10 (show (O u9.b) < 3 by first | assumption | omega) hVx_2 (by first | assumption | omega) (by first | assumption | omega)) gX3_beginWalk_X2_init rfl (by decide +kernel) (by decide +kernel) (by decide +kernel) rfl dv_X2_init_s rfl (Nat.le_of_ble_eq_true rfl) (by rw [hRf]; decide) (by rw [hRl]; decide) (by first | (rw [hRc]; decide) | omega) (by first | (rw [hRs]; decide) | omega) dX3_beginWalk_6 (fun r9 M_12 H locs hq hw => ?_)
  obtain ⟨rfl, hWk_13, smk_13⟩ := hq
  have hxk_13 : xExt M M_12 := fun a e he => (smk_13 a (fun z => by rw [z, hq_6] at he; cases he)).trans (by rw [hM_5, va_up_ne _ _ (fun z => by rw [z, hq_6] at he; cases he)]; exact he)
  have h_14 := hR.ext hxk_13
  have h_15 := hBx_2.ext hxk_13
  have h_16 : Vw M_12 y (qb u9.b) (iN u9.lo) (iN u9.up) (iN (swN (O u9.b) u9.lo u9.li)) (iN (ewN (O u9.b) u9.lo u9.li u9.up u9.ui)) u9.li u9.ui := ⟨hxk_13 _ _ hvx_1.1, hvx_1.2⟩
  show W p l e R s m args below meth c H locs _ _ _ (F0 m 9 ls [.ref q_3, .ref h0])
  refine x_put (fs2 := [.ref bs, .ref vs, .ref q_3, .int kk, .int kv, .int rf]) hC hw h_14.1 rfl hinX3 tyX3 tyX3_ok nmX3 2 (by decide) (List.mem_cons_of_mem _ (List.mem_append_left _ (List.mem_append_left _ (List.mem_append_left _ (List.mem_append_left _ (List.mem_append_left _ (List.mem_of_getElem? (i := 3) rfl))))))) rfl rfl rfl (Nat.le_of_ble_eq_true rfl) rfl dX3_beginWalk_9 (fun H locs hw => ?_)
  obtain ⟨M_17, hM_18⟩ : ∃ z, z = va_up M_12 h0 (some (.inr (5, [.ref bs, .ref vs, .ref q_3, .int kk, .int kv, .int rf]))) := ⟨_, rfl⟩
  rw [← hM_18] at hw
  have hR_19 : RGx G M_17 h0 bs vs (some q_3) kk kv rf qb qk qv fb fv O O Wv V T C (some (u9, -10000, 0, 0, (C u9.b))) := h_14.obj hM_18 ⟨y, hWk_13, ⟨hkx_1, h_16⟩⟩ ⟨by omega, by omega, Or.inl rfl, by omega, by omega⟩
  have sm_20 := xS1.up hM_18
  have h_21 := h_15.kept1 sm_20 (by decide) h_14.1
  have h_22 : Vw _ y (qb u9.b) (iN u9.lo) (iN u9.up) (iN (swN (O u9.b) u9.lo u9.li)) (iN (ewN (O u9.b) u9.lo u9.li u9.up u9.ui)) u9.li u9.ui := And.intro (x_k1 sm_20 h_14.1 (by decide) h_16.1) h_16.2
  have h_23 : Wk _ q_3 y (iN (-10000)) (iN (0)) (iN ((C u9.b))) 0 := And.intro (x_k1 sm_20 h_14.1 (by decide) hWk_13.1) hWk_13.2
  refine lv_aload_n hC.1 hC.2.1 dX3_beginWalk_12 rfl (lv_at hl 1 rfl) ?_
  refine x_callV hC hw (lv_size hl) (c_X1_size l G hkx_1 h_22 h_21 (show (O u9.b) < 3 by first | assumption | omega) hVx_2 (by first | assumption | omega) (by first | assumption | omega) (O := O) (V := V) (t9 := u9)) gX3_beginWalk_X1_size rfl dv_X1_size h_22.1 rfl rfl (Nat.le_of_ble_eq_true rfl) (by rw [hRf]; decide) (by rw [hRl]; decide) (by first | (rw [hRc]; decide) | omega) (by first | (rw [hRs]; decide) | omega) dX3_beginWalk_13 (fun r9 M_24 H locs hq hw => ?_)
  obtain ⟨z_25, rfl, hM9, hz_25, hz_25m⟩ := hq
  rw [hM9] at hw
  show W p l e R s m args below meth c H locs _ _ _ (F0 m 16 ls [.int (iN (z_25))])
  exact x_iret hC hw dX3_beginWalk_16 (by first | decide | omega) (by first | decide | omega) ⟨z_25, rfl, by omega, hz_25m, _, hR_19⟩
set_option maxHeartbeats 4000000 in
set_option maxRecDepth 100000 in
theorem c_X3_pour (l : Launch) (G : xG) {M : HM} (hst : l.stackTraces = false) {h0 bs vs : Nat} {og : Option Nat} {kk kv rf : Int32} {qb qk qv : Nat → Nat} {fb fv : Nat → Option Nat} {O : OW} {Wv : VW} {V : BW} {T C : Nat → Int} {K : WA} {N : Int} (hR : RGx G M h0 bs vs og kk kv rf qb qk qv fb fv O O Wv V T C K) (hcb : cbN N T C) (hN : N ≤ 590) {p0 : Int} (hp0 : -2147483648 ≤ p0 ∧ p0 ≤ 2147483647) {p1 : Int} (hp1 : -2147483648 ≤ p1 ∧ p1 ≤ 2147483647) : xMetX l G yX3_pour wsX3_pour 7 115 3 18 [.ref h0, .int (iN (p0)), .int (iN (p1))] M (fun r M1 => ∃ z : Int, r = some (.int (iN z)) ∧ (-2147483648 ≤ z ∧ z ≤ 2147483647) ∧ (((0 ≤ p0 ∧ p0 ≤ 2) ∧ (0 ≤ p1 ∧ p1 ≤ 2)) ∧ (p0 ≠ p1)) ∧ z = A_pour (O, V, Wv, abK T C K, kk, kv, rf) p0 p1 ∧ RG G M1 h0 (N + 1) (S_pour (O, V, Wv, abK T C K, kk, kv, rf) p0 p1)) (fun E M1 => ((E = xIO ∧ ¬ ((0 ≤ p0 ∧ p0 ≤ 2) ∧ (0 ≤ p1 ∧ p1 ≤ 2))) ∨ (E = xIA ∧ ((0 ≤ p0 ∧ p0 ≤ 2) ∧ (0 ≤ p1 ∧ p1 ≤ 2)) ∧ ¬ (p0 ≠ p1))) ∧ RG G M1 h0 (N + 1) (O, V, Wv, abK T C K, kk, kv, rf)) := by
  refine x_introX (cc := cX3_pour) (maxL := 5) (ret := (some .int)) (by exact pln_RX3) rfl (Nat.le_of_ble_eq_true rfl) ?_
  intro p e R s m args below meth c ls hRf hRc hRs hRl htab hC hw hl
  have hl : lv_has ls 5 [(0, .ref h0), (1, .int (iN (p0))), (2, .int (iN (p1)))] := hl
  refine lv_aload_n hC.1 hC.2.1 dX3_pour_0 rfl (lv_at hl 0 rfl) ?_
  refine lv_iload_n hC.1 hC.2.1 dX3_pour_1 rfl (lv_at hl 1 rfl) ?_
  refine x_callVX hC hw (lv_size hl) (c_X3_bookAt l G hst hR hcb hN (p0 := p0) (by first | assumption | omega)) gX3_pour_X3_bookAt rfl dv_X3_bookAt hR.1 rfl rfl (Nat.le_of_ble_eq_true rfl) (by rw [hRf]; decide) (by rw [hRl]; decide) (by first | (rw [hRc]; decide) | omega) (by first | (rw [hRs]; decide) | omega) dX3_pour_2 (fun E ce q9 M_1 H locs hqx hw hcell hcv hcls => ?_) (fun r9 M_1 H locs hq hw => ?_)
  · rw [hqx.2] at hw
    obtain ⟨hE, hc9⟩ := hqx.1
    replace hqx := hqx.2
    subst hE
    exact x_outX hC hw htab hcell hcv hcls (by first | decide | omega) (by first | decide | omega) ⟨Or.inl ⟨rfl, (by first | exact hc9 | omega | trivial)⟩, (RG.of (N2 := N + 1) hR hcb (by omega) (by omega))⟩
  obtain ⟨rfl, hM9, hk_2, hk_2b⟩ := hq
  rw [hM9] at hw
  have hik_2 : (p0).toNat < 3 := by omega
  obtain ⟨szx_3, fkx_3, fwx_3, hBx_3, hVx_3⟩ := hR.bk hik_2
  obtain ⟨-, -, -, -, hsax_3, hsbx_3⟩ := id hBx_3
  have holx_3 := hR.ol hik_2
  have hctx_3 := hcb.2 _ hik_2
  show W p l e R s m args below meth c H locs _ _ _ (F0 m 5 ls [.ref (qb ((p0).toNat))])
  refine lv_astore_n (lv' := [(3, .ref (qb ((p0).toNat))), (0, .ref h0), (1, .int (iN (p0))), (2, .int (iN (p1)))]) hC.1 hC.2.1 dX3_pour_5 rfl hl (by decide) rfl (fun ls hl => ?_)
  refine lv_aload_n hC.1 hC.2.1 dX3_pour_6 rfl (lv_at hl 1 rfl) ?_
  refine lv_iload_n hC.1 hC.2.1 dX3_pour_7 rfl (lv_at hl 3 rfl) ?_
  refine x_callVX hC hw (lv_size hl) (c_X3_bookAt l G hst hR hcb hN (p0 := p1) (by first | assumption | omega)) gX3_pour_X3_bookAt rfl dv_X3_bookAt hR.1 rfl rfl (Nat.le_of_ble_eq_true rfl) (by rw [hRf]; decide) (by rw [hRl]; decide) (by first | (rw [hRc]; decide) | omega) (by first | (rw [hRs]; decide) | omega) dX3_pour_8 (fun E ce q9 M_4 H locs hqx hw hcell hcv hcls => ?_) (fun r9 M_4 H locs hq hw => ?_)
  · rw [hqx.2] at hw
    obtain ⟨hE, hc9⟩ := hqx.1
    replace hqx := hqx.2
    subst hE
    exact x_outX hC hw htab hcell hcv hcls (by first | decide | omega) (by first | decide | omega) ⟨Or.inl ⟨rfl, (by first | exact hc9 | omega | trivial)⟩, (RG.of (N2 := N + 1) hR hcb (by omega) (by omega))⟩
  obtain ⟨rfl, hM9, hk_5, hk_5b⟩ := hq
  rw [hM9] at hw
  have hik_5 : (p1).toNat < 3 := by omega
  obtain ⟨szx_6, fkx_6, fwx_6, hBx_6, hVx_6⟩ := hR.bk hik_5
  obtain ⟨-, -, -, -, hsax_6, hsbx_6⟩ := id hBx_6
  have holx_6 := hR.ol hik_5
  have hctx_6 := hcb.2 _ hik_5
  show W p l e R s m args below meth c H locs _ _ _ (F0 m 11 ls [.ref (qb ((p1).toNat))])
  refine lv_astore (lv' := [(4, .ref (qb ((p1).toNat))), (3, .ref (qb ((p0).toNat))), (0, .ref h0), (1, .int (iN (p0))), (2, .int (iN (p1)))]) hC.1 hC.2.1 dX3_pour_11 hl (by decide) rfl (fun ls hl => ?_)
  refine lv_iload_n hC.1 hC.2.1 dX3_pour_13 rfl (lv_at hl 3 rfl) ?_
  refine lv_iload_n hC.1 hC.2.1 dX3_pour_14 rfl (lv_at hl 4 rfl) ?_
  refine x_callSX hC hw (lv_size hl) (c_X3_checkUnlike l G (M := M) hst (p0 := p0) (by first | assumption | omega) (p1 := p1) (by first | assumption | omega)) gX3_pour_X3_checkUnlike rfl dv_X3_checkUnlike_s rfl (Nat.le_of_ble_eq_true rfl) (by rw [hRf]; decide) (by rw [hRl]; decide) (by first | (rw [hRc]; decide) | omega) (by first | (rw [hRs]; decide) | omega) dX3_pour_15 (fun E ce q9 M_7 H locs hqx hw hcell hcv hcls => ?_) (fun r9 M_7 H locs hq hw => ?_)
  · rw [hqx.2] at hw
    obtain ⟨hE, hc9⟩ := hqx.1
    replace hqx := hqx.2
    subst hE
    exact x_outX hC hw htab hcell hcv hcls (by first | decide | omega) (by first | decide | omega) ⟨Or.inr (⟨rfl, ⟨⟨⟨(by first | omega | trivial), (by first | omega | trivial)⟩, ⟨(by first | omega | trivial), (by first | omega | trivial)⟩⟩, (by first | exact hc9 | omega | trivial)⟩⟩), (RG.of (N2 := N + 1) hR hcb (by omega) (by omega))⟩
  obtain ⟨rfl, hM9, hk_8⟩ := hq
  rw [hM9] at hw
  have hap : xAp (qb ((p1).toNat)) (qk ((p1).toNat)) (qv ((p1).toNat)) (qb ((p0).toNat)) (qk ((p0).toNat)) (qv ((p0).toNat)) := hR.ap hik_5 hik_2 (by omega)
  show W p l e R s m args below meth c H locs _ _ _ (F0 m 18 ls [])
  refine lv_aload hC.1 hC.2.1 dX3_pour_18 (lv_at hl 0 rfl) ?_
  refine x_callV hC hw (lv_size hl) (c_X0_touch l G hBx_6 (show (O ((p1).toNat)) < 3 by first | assumption | omega) hVx_6 (by first | assumption | omega) (by first | assumption | omega)) gX3_pour_X0_touch rfl dv_X0_touch hBx_6.1 rfl rfl (Nat.le_of_ble_eq_true rfl) (by rw [hRf]; decide) (by rw [hRl]; decide) (by first | (rw [hRc]; decide) | omega) (by first | (rw [hRs]; decide) | omega) dX3_pour_20 (fun r9 M_9 H locs hq hw => ?_)
  obtain ⟨rfl, hBu_10, smu_10⟩ := hq
  have sm_11 := (xSm.rf (M := M) (b := (qb ((p1).toNat))) (k := (qk ((p1).toNat))) (v := (qv ((p1).toNat)))).tr (smu_10)
  have hB_12 := hBx_3.kept smu_10 hap
  have h_13 := hR.book hik_5 hBx_6 hBu_10 hVx_6 smu_10 (by first | omega | (rw [upV_s]; omega)) (by first | omega | (rw [upV_s]; omega))
  rw [show (upB V ((p1).toNat) (V ((p1).toNat))) = V from upB_self rfl, show (upV C ((p1).toNat) (C ((p1).toNat))) = C from upV_same _ _] at h_13
  show W p l e R s m args below meth c H locs _ _ _ (F0 m 23 ls [])
  refine lv_aload hC.1 hC.2.1 dX3_pour_23 (lv_at hl 0 rfl) ?_
  refine lv_aload_n hC.1 hC.2.1 dX3_pour_25 rfl (lv_at hl 1 rfl) ?_
  refine x_callV hC hw (lv_size hl) (c_X0_enterAll l G hBu_10 (show (O ((p1).toNat)) < 3 by first | assumption | omega) hVx_6 (by first | assumption | omega) (by first | assumption | omega) hB_12 (show (O ((p0).toNat)) < 3 by first | assumption | omega) hVx_3 (by first | assumption | omega) (by first | assumption | omega) hap) gX3_pour_X0_enterAll rfl dv_X0_enterAll hBu_10.1 rfl rfl (Nat.le_of_ble_eq_true rfl) (by rw [hRf]; decide) (by rw [hRl]; decide) (by first | (rw [hRc]; decide) | omega) (by first | (rw [hRs]; decide) | omega) dX3_pour_26 (fun r9 M_16 H locs hq hw => ?_)
  obtain ⟨rfl, kcu_17, szu_17, fku_17, fvu_17, hBu_17, smu_17, hVu_17, hksu_17⟩ := hq
  obtain ⟨-, -, -, -, hsau_17, hsbu_17⟩ := id hBu_17
  obtain ⟨hkau_17, hkbu_17, -⟩ := id hksu_17
  have sm_18 := (sm_11).tr (smu_17)
  have hB_19 := hB_12.kept smu_17 hap
  have h_20 := h_13.book hik_5 hBu_10 hBu_17 hVu_17 smu_17 (by first | omega | (rw [upV_s]; omega)) (by first | omega | (rw [upV_s]; omega))
  rw [show (upV (upV T ((p1).toNat) ((T ((p1).toNat)) + 1)) ((p1).toNat) ((T ((p1).toNat)) + 1)) = (upV T ((p1).toNat) ((T ((p1).toNat)) + 1)) from upV_upV] at h_20
  show W p l e R s m args below meth c H locs _ _ _ (F0 m 29 ls [])
  refine lv_aload hC.1 hC.2.1 dX3_pour_29 (lv_at hl 0 rfl) ?_
  refine x_callV hC hw (lv_size hl) (c_X0_size l G hBu_17 (show (O ((p1).toNat)) < 3 by first | assumption | omega) hVu_17 (by first | assumption | omega) (by first | assumption | omega)) gX3_pour_X0_size rfl dv_X0_size hBu_17.1 rfl rfl (Nat.le_of_ble_eq_true rfl) (by rw [hRf]; decide) (by rw [hRl]; decide) (by first | (rw [hRc]; decide) | omega) (by first | (rw [hRs]; decide) | omega) dX3_pour_31 (fun r9 M_23 H locs hq hw => ?_)
  obtain ⟨rfl, hM9⟩ := hq
  rw [hM9] at hw
  show W p l e R s m args below meth c H locs _ _ _ (F0 m 34 ls [.int (iN (szu_17))])
  exact vx_ret (x_iret hC hw dX3_pour_34 (by first | decide | omega) (by first | decide | omega) ⟨szu_17, rfl, ⟨by omega, by omega⟩, ⟨⟨⟨(by first | omega | trivial), (by first | omega | trivial)⟩, ⟨(by first | omega | trivial), (by first | omega | trivial)⟩⟩, (by first | assumption | omega | trivial)⟩, (by have e9 := hVu_17.cnt; show _ = cntV _; rw [show F_pr (O, V, Wv, abK T C K, kk, kv, rf) p0 p1 = (mapN (V ((p1).toNat)) (F_pour (V ((p1).toNat)) (V ((p0).toNat))) 100) from rfl, e9]; omega), (RG.mut hR.wg h_20 (by omega) hksu_17 (by omega) hcb (by omega) rfl)⟩)
set_option maxHeartbeats 4000000 in
set_option maxRecDepth 100000 in
theorem c_X3_copy (l : Launch) (G : xG) {M : HM} (hst : l.stackTraces = false) {h0 bs vs : Nat} {og : Option Nat} {kk kv rf : Int32} {qb qk qv : Nat → Nat} {fb fv : Nat → Option Nat} {O : OW} {Wv : VW} {V : BW} {T C : Nat → Int} {K : WA} {N : Int} (hR : RGx G M h0 bs vs og kk kv rf qb qk qv fb fv O O Wv V T C K) (hcb : cbN N T C) (hN : N ≤ 590) {p0 : Int} (hp0 : -2147483648 ≤ p0 ∧ p0 ≤ 2147483647) {p1 : Int} (hp1 : -2147483648 ≤ p1 ∧ p1 ≤ 2147483647) : xMetX l G yX3_copy wsX3_copy 7 136 3 18 [.ref h0, .int (iN (p0)), .int (iN (p1))] M (fun r M1 => ∃ z : Int, r = some (.int (iN z)) ∧ (-2147483648 ≤ z ∧ z ≤ 2147483647) ∧ (((0 ≤ p0 ∧ p0 ≤ 2) ∧ (0 ≤ p1 ∧ p1 ≤ 2)) ∧ (p0 ≠ p1)) ∧ z = A_copy (O, V, Wv, abK T C K, kk, kv, rf) p0 p1 ∧ RG G M1 h0 (N + 1) (S_copy (O, V, Wv, abK T C K, kk, kv, rf) p0 p1)) (fun E M1 => ((E = xIO ∧ ¬ ((0 ≤ p0 ∧ p0 ≤ 2) ∧ (0 ≤ p1 ∧ p1 ≤ 2))) ∨ (E = xIA ∧ ((0 ≤ p0 ∧ p0 ≤ 2) ∧ (0 ≤ p1 ∧ p1 ≤ 2)) ∧ ¬ (p0 ≠ p1))) ∧ RG G M1 h0 (N + 1) (O, V, Wv, abK T C K, kk, kv, rf)) := by
  refine x_introX (cc := cX3_copy) (maxL := 5) (ret := (some .int)) (by exact pln_RX3) rfl (Nat.le_of_ble_eq_true rfl) ?_
  intro p e R s m args below meth c ls hRf hRc hRs hRl htab hC hw hl
  have hinX3 : ∀ w ∈ wsX30, w ∈ wsX3_copy := fun w h => (List.mem_cons_of_mem _ (List.mem_append_left _ (List.mem_append_left _ (List.mem_append_left _ (List.mem_append_left _ (List.mem_append_left _ (List.mem_append_right _ h)))))))
  have hl : lv_has ls 5 [(0, .ref h0), (1, .int (iN (p0))), (2, .int (iN (p1)))] := hl
  refine lv_aload_n hC.1 hC.2.1 dX3_copy_0 rfl (lv_at hl 0 rfl) ?_
  refine lv_iload_n hC.1 hC.2.1 dX3_copy_1 rfl (lv_at hl 1 rfl) ?_
  refine x_callVX hC hw (lv_size hl) (c_X3_bookAt l G hst hR hcb hN (p0 := p0) (by first | assumption | omega)) gX3_copy_X3_bookAt rfl dv_X3_bookAt hR.1 rfl rfl (Nat.le_of_ble_eq_true rfl) (by rw [hRf]; decide) (by rw [hRl]; decide) (by first | (rw [hRc]; decide) | omega) (by first | (rw [hRs]; decide) | omega) dX3_copy_2 (fun E ce q9 M_1 H locs hqx hw hcell hcv hcls => ?_) (fun r9 M_1 H locs hq hw => ?_)
  · rw [hqx.2] at hw
    obtain ⟨hE, hc9⟩ := hqx.1
    replace hqx := hqx.2
    subst hE
    exact x_outX hC hw htab hcell hcv hcls (by first | decide | omega) (by first | decide | omega) ⟨Or.inl ⟨rfl, (by first | exact hc9 | omega | trivial)⟩, (RG.of (N2 := N + 1) hR hcb (by omega) (by omega))⟩
  obtain ⟨rfl, hM9, hk_2, hk_2b⟩ := hq
  rw [hM9] at hw
  have hik_2 : (p0).toNat < 3 := by omega
  obtain ⟨szx_3, fkx_3, fwx_3, hBx_3, hVx_3⟩ := hR.bk hik_2
  obtain ⟨-, -, -, -, hsax_3, hsbx_3⟩ := id hBx_3
  have holx_3 := hR.ol hik_2
  have hctx_3 := hcb.2 _ hik_2
  show W p l e R s m args below meth c H locs _ _ _ (F0 m 5 ls [.ref (qb ((p0).toNat))])
  refine lv_astore_n (lv' := [(3, .ref (qb ((p0).toNat))), (0, .ref h0), (1, .int (iN (p0))), (2, .int (iN (p1)))]) hC.1 hC.2.1 dX3_copy_5 rfl hl (by decide) rfl (fun ls hl => ?_)
  refine lv_aload_n hC.1 hC.2.1 dX3_copy_6 rfl (lv_at hl 1 rfl) ?_
  refine lv_iload_n hC.1 hC.2.1 dX3_copy_7 rfl (lv_at hl 3 rfl) ?_
  refine x_callVX hC hw (lv_size hl) (c_X3_bookAt l G hst hR hcb hN (p0 := p1) (by first | assumption | omega)) gX3_copy_X3_bookAt rfl dv_X3_bookAt hR.1 rfl rfl (Nat.le_of_ble_eq_true rfl) (by rw [hRf]; decide) (by rw [hRl]; decide) (by first | (rw [hRc]; decide) | omega) (by first | (rw [hRs]; decide) | omega) dX3_copy_8 (fun E ce q9 M_4 H locs hqx hw hcell hcv hcls => ?_) (fun r9 M_4 H locs hq hw => ?_)
  · rw [hqx.2] at hw
    obtain ⟨hE, hc9⟩ := hqx.1
    replace hqx := hqx.2
    subst hE
    exact x_outX hC hw htab hcell hcv hcls (by first | decide | omega) (by first | decide | omega) ⟨Or.inl ⟨rfl, (by first | exact hc9 | omega | trivial)⟩, (RG.of (N2 := N + 1) hR hcb (by omega) (by omega))⟩
  obtain ⟨rfl, hM9, hk_5, hk_5b⟩ := hq
  rw [hM9] at hw
  have hik_5 : (p1).toNat < 3 := by omega
  obtain ⟨szx_6, fkx_6, fwx_6, hBx_6, hVx_6⟩ := hR.bk hik_5
  obtain ⟨-, -, -, -, hsax_6, hsbx_6⟩ := id hBx_6
  have holx_6 := hR.ol hik_5
  have hctx_6 := hcb.2 _ hik_5
  show W p l e R s m args below meth c H locs _ _ _ (F0 m 11 ls [.ref (qb ((p1).toNat))])
  refine lv_astore (lv' := [(4, .ref (qb ((p1).toNat))), (3, .ref (qb ((p0).toNat))), (0, .ref h0), (1, .int (iN (p0))), (2, .int (iN (p1)))]) hC.1 hC.2.1 dX3_copy_11 hl (by decide) rfl (fun ls hl => ?_)
  refine lv_iload_n hC.1 hC.2.1 dX3_copy_13 rfl (lv_at hl 3 rfl) ?_
  refine lv_iload_n hC.1 hC.2.1 dX3_copy_14 rfl (lv_at hl 4 rfl) ?_
  refine x_callSX hC hw (lv_size hl) (c_X3_checkUnlike l G (M := M) hst (p0 := p0) (by first | assumption | omega) (p1 := p1) (by first | assumption | omega)) gX3_copy_X3_checkUnlike rfl dv_X3_checkUnlike_s rfl (Nat.le_of_ble_eq_true rfl) (by rw [hRf]; decide) (by rw [hRl]; decide) (by first | (rw [hRc]; decide) | omega) (by first | (rw [hRs]; decide) | omega) dX3_copy_15 (fun E ce q9 M_7 H locs hqx hw hcell hcv hcls => ?_) (fun r9 M_7 H locs hq hw => ?_)
  · rw [hqx.2] at hw
    obtain ⟨hE, hc9⟩ := hqx.1
    replace hqx := hqx.2
    subst hE
    exact x_outX hC hw htab hcell hcv hcls (by first | decide | omega) (by first | decide | omega) ⟨Or.inr (⟨rfl, ⟨⟨⟨(by first | omega | trivial), (by first | omega | trivial)⟩, ⟨(by first | omega | trivial), (by first | omega | trivial)⟩⟩, (by first | exact hc9 | omega | trivial)⟩⟩), (RG.of (N2 := N + 1) hR hcb (by omega) (by omega))⟩
  obtain ⟨rfl, hM9, hk_8⟩ := hq
  rw [hM9] at hw
  have hap : xAp (qb ((p1).toNat)) (qk ((p1).toNat)) (qv ((p1).toNat)) (qb ((p0).toNat)) (qk ((p0).toNat)) (qv ((p0).toNat)) := hR.ap hik_5 hik_2 (by omega)
  show W p l e R s m args below meth c H locs _ _ _ (F0 m 18 ls [])
  refine lv_aload hC.1 hC.2.1 dX3_copy_18 (lv_at hl 0 rfl) ?_
  refine lv_aload_n hC.1 hC.2.1 dX3_copy_20 rfl (lv_at hl 1 rfl) ?_
  refine x_callV hC hw (lv_size hl) (c_X0_becomeLike l G hBx_6 (show (O ((p1).toNat)) < 3 by first | assumption | omega) hVx_6 (by first | assumption | omega) (by first | assumption | omega) hBx_3 (show (O ((p0).toNat)) < 3 by first | assumption | omega) hVx_3 (by first | assumption | omega) (by first | assumption | omega) hap) gX3_copy_X0_becomeLike rfl dv_X0_becomeLike hBx_6.1 rfl rfl (Nat.le_of_ble_eq_true rfl) (by rw [hRf]; decide) (by rw [hRl]; decide) (by first | (rw [hRc]; decide) | omega) (by first | (rw [hRs]; decide) | omega) dX3_copy_21 (fun r9 M_9 H locs hq hw => ?_)
  obtain ⟨rfl, kcu_10, szu_10, fku_10, fvu_10, hBu_10, smu_10, hVu_10, hklu_10⟩ := hq
  obtain ⟨-, -, -, -, hsau_10, hsbu_10⟩ := id hBu_10
  have sm_11 := (xSm.rf (M := M) (b := (qb ((p1).toNat))) (k := (qk ((p1).toNat))) (v := (qv ((p1).toNat)))).tr (smu_10)
  have hB_12 := hBx_3.kept smu_10 hap
  have h_13 := hR.bookO hik_5 hBx_6 hBu_10 hVu_10 (o3 := (O ((p0).toNat))) (by omega) smu_10 (by first | omega | (rw [upV_s]; omega)) (by first | omega | (rw [upV_s]; omega))
  rw [show (upV T ((p1).toNat) (T ((p1).toNat))) = T from upV_same _ _] at h_13
  show W p l e R s m args below meth c H locs _ _ _ (F0 m 24 ls [])
  refine lv_aload_n hC.1 hC.2.1 dX3_copy_24 rfl (lv_at hl 2 rfl) ?_
  refine x_get hC hw h_13.1 rfl hinX3 2 (by decide) (List.mem_cons_of_mem _ (List.mem_append_left _ (List.mem_append_left _ (List.mem_append_left _ (List.mem_append_left _ (List.mem_append_left _ (List.mem_append_left _ (List.mem_append_left _ (List.mem_of_getElem? (i := 0) rfl))))))))) rfl dX3_copy_25 ?_
  rcases og with _ | w_16
  · have hK_17 := WkO.nil h_13.wk
    subst hK_17
    have hks0 := kS_none (T := T) (C := C)
    show W p l e R s m args below meth c _ _ _ _ _ (F0 m 28 ls [.null])
    refine lv_ifnullN (tgt := 48) hC.1 hC.2.1 dX3_copy_28 (by decide) ?_
    refine lv_aload_n hC.1 hC.2.1 dX3_copy_48 rfl (lv_at hl 2 rfl) ?_
    refine lv_aload hC.1 hC.2.1 dX3_copy_49 (lv_at hl 0 rfl) ?_
    refine x_callV hC hw (lv_size hl) (c_X3_shutViewsOnto l G h_13 (bi := (p1).toNat) hik_5) gX3_copy_X3_shutViewsOnto rfl dv_X3_shutViewsOnto h_13.1 rfl rfl (Nat.le_of_ble_eq_true rfl) (by rw [hRf]; decide) (by rw [hRl]; decide) (by first | (rw [hRc]; decide) | omega) (by first | (rw [hRs]; decide) | omega) dX3_copy_51 (fun r9 M_18 H locs hq hw => ?_)
    obtain ⟨z_20, rfl, hz_20, fvk_19, hRk_19⟩ := hq
    show W p l e R s m args below meth c H locs _ _ _ (F0 m 54 ls [.int (iN (z_20))])
    exact vx_ret (x_iret hC hw dX3_copy_54 (by first | decide | omega) (by first | decide | omega) ⟨z_20, rfl, ⟨by omega, by omega⟩, ⟨⟨⟨(by first | omega | trivial), (by first | omega | trivial)⟩, ⟨(by first | omega | trivial), (by first | omega | trivial)⟩⟩, (by first | assumption | omega | trivial)⟩, hz_20.2, (RG.copy (hRk_19.reP (fun j9 hj9 t9 ht9 => upO_n _ _ (shN_ne hj9 ht9)) (fun k9 hk9 => nomatch hk9)) rfl (by omega) (by omega) (by omega) hcb (by omega))⟩)
  · obtain ⟨tx_21, psx_21, cdx_21, twx_21, kwx_21, yx_21, hKx_21, hWx_21, hTx_21⟩ := WkO.yes h_13.wk
    subst hKx_21
    obtain ⟨hwax_21, hwbx_21, hwcx_21, hwdx_21, hwex_21⟩ := h_13.wg
    have hwfx_21 := hwcx_21.imp id And.left
    have hkx_22 := hTx_21.1
    have hvx_22 := hTx_21.2
    have hlix_22 := hvx_22.2.1
    have huix_22 := hvx_22.2.2
    obtain ⟨htax_22, htbx_22, htcx_22, htdx_22, htex_22⟩ := id hkx_22
    obtain ⟨szx_23, fkx_23, fwx_23, hBx_23, hVx_23⟩ := h_13.bk htax_22
    obtain ⟨-, -, -, -, hsax_23, hsbx_23⟩ := id hBx_23
    have holx_23 := h_13.ol htax_22
    have hctx_23 := hcb.2 _ htax_22
    have hksx_21 := kS_ab (T := T) (C := C) (t := tx_21) (ps := psx_21) (cd := cdx_21) (tw := twx_21) (kw := kwx_21)
    have hkhx_21 := kH_ab (T := T) (C := C) (t := tx_21) (ps := psx_21) (cd := cdx_21) (tw := twx_21) (kw := kwx_21)
    have hkcx_21 := kC_ab (T := T) (C := C) (t := tx_21) (ps := psx_21) (cd := cdx_21) (tw := twx_21) (kw := kwx_21)
    have hkbx_21 := kB_ab (T := T) (C := C) (t := tx_21) (ps := psx_21) (cd := cdx_21) (tw := twx_21) (kw := kwx_21)
    have hkpx_21 := kP_ab (T := T) (C := C) (t := tx_21) (ps := psx_21) (cd := cdx_21) (tw := twx_21) (kw := kwx_21)
    show W p l e R s m args below meth c _ _ _ _ _ (F0 m 28 ls [.ref w_16])
    refine lv_ifnull hC.1 hC.2.1 dX3_copy_28 ?_
    refine lv_aload_n hC.1 hC.2.1 dX3_copy_31 rfl (lv_at hl 2 rfl) ?_
    refine x_get hC hw h_13.1 rfl hinX3 2 (by decide) (List.mem_cons_of_mem _ (List.mem_append_left _ (List.mem_append_left _ (List.mem_append_left _ (List.mem_append_left _ (List.mem_append_left _ (List.mem_append_left _ (List.mem_append_left _ (List.mem_of_getElem? (i := 0) rfl))))))))) rfl dX3_copy_32 ?_
    show W p l e R s m args below meth c _ _ _ _ _ (F0 m 35 ls [.ref w_16])
    refine x_callV hC hw (lv_size hl) (c_X2_book l G hWx_21 hvx_22) gX3_copy_X2_book rfl dv_X2_book hWx_21.1 rfl rfl (Nat.le_of_ble_eq_true rfl) (by rw [hRf]; decide) (by rw [hRl]; decide) (by first | (rw [hRc]; decide) | omega) (by first | (rw [hRs]; decide) | omega) dX3_copy_35 (fun r9 M_24 H locs hq hw => ?_)
    obtain ⟨rfl, hM9⟩ := hq
    rw [hM9] at hw
    show W p l e R s m args below meth c H locs _ _ _ (F0 m 38 ls [.ref (qb tx_21.b)])
    refine lv_aload hC.1 hC.2.1 dX3_copy_38 (lv_at hl 0 rfl) ?_
    refine x_acmp_ne (tgt := 48) hC dX3_copy_40 (by decide) (fun c_25 => ?_) (fun c_25 => ?_)
    · refine lv_aload_n hC.1 hC.2.1 dX3_copy_48 rfl (lv_at hl 2 rfl) ?_
      refine lv_aload hC.1 hC.2.1 dX3_copy_49 (lv_at hl 0 rfl) ?_
      refine x_callV hC hw (lv_size hl) (c_X3_shutViewsOnto l G h_13 (bi := (p1).toNat) hik_5) gX3_copy_X3_shutViewsOnto rfl dv_X3_shutViewsOnto h_13.1 rfl rfl (Nat.le_of_ble_eq_true rfl) (by rw [hRf]; decide) (by rw [hRl]; decide) (by first | (rw [hRc]; decide) | omega) (by first | (rw [hRs]; decide) | omega) dX3_copy_51 (fun r9 M_26 H locs hq hw => ?_)
      obtain ⟨z_28, rfl, hz_28, fvk_27, hRk_27⟩ := hq
      show W p l e R s m args below meth c H locs _ _ _ (F0 m 54 ls [.int (iN (z_28))])
      exact vx_ret (x_iret hC hw dX3_copy_54 (by first | decide | omega) (by first | decide | omega) ⟨z_28, rfl, ⟨by omega, by omega⟩, ⟨⟨⟨(by first | omega | trivial), (by first | omega | trivial)⟩, ⟨(by first | omega | trivial), (by first | omega | trivial)⟩⟩, (by first | assumption | omega | trivial)⟩, hz_28.2, (RG.copy (hRk_27.reP (fun j9 hj9 t9 ht9 => upO_n _ _ (shN_ne hj9 ht9)) (fun k9 hk9 => by cases hk9; exact upO_n _ _ (hR.qne htax_22 (by omega) c_25))) (abK_cp_ne (hR.qne htax_22 (by omega) c_25)) (by omega) (by omega) (by omega) hcb (by omega))⟩)
    · refine lv_aload_n hC.1 hC.2.1 dX3_copy_43 rfl (lv_at hl 2 rfl) ?_
      refine lv_null hC.1 hC.2.1 dX3_copy_44 ?_
      refine x_put (fs2 := [.ref bs, .ref vs, .null, .int kk, .int kv, .int rf]) hC hw h_13.1 rfl hinX3 tyX3 tyX3_ok nmX3 2 (by decide) (List.mem_cons_of_mem _ (List.mem_append_left _ (List.mem_append_left _ (List.mem_append_left _ (List.mem_append_left _ (List.mem_append_left _ (List.mem_append_left _ (List.mem_append_left _ (List.mem_of_getElem? (i := 0) rfl))))))))) rfl rfl rfl (Nat.le_of_ble_eq_true rfl) rfl dX3_copy_45 (fun H locs hw => ?_)
      obtain ⟨M_29, hM_30⟩ : ∃ z, z = va_up M_9 h0 (some (.inr (5, [.ref bs, .ref vs, .null, .int kk, .int kv, .int rf]))) := ⟨_, rfl⟩
      rw [← hM_30] at hw
      have hR_31 : RGx G M_29 h0 bs vs none kk kv rf qb qk qv fb fv (upO O ((p1).toNat) (O ((p0).toNat))) O Wv (upB V ((p1).toNat) (V ((p0).toNat))) T (upV C ((p1).toNat) kcu_10) none := h_13.obj hM_30 (show WkO _ _ _ none none from trivial) (show WkG _ _ _ none from trivial)
      have sm_32 := xS1.up hM_30
      have h_33 := hB_12.kept1 sm_32 (by decide) h_13.1
      have h_34 := hBu_10.kept1 sm_32 (by decide) h_13.1
      have h_35 := hBx_23.kept1 sm_32 (by decide) h_13.1
      have h_36 : Vw _ yx_21 (qb tx_21.b) (iN tx_21.lo) (iN tx_21.up) (iN (swN (O tx_21.b) tx_21.lo tx_21.li)) (iN (ewN (O tx_21.b) tx_21.lo tx_21.li tx_21.up tx_21.ui)) tx_21.li tx_21.ui := And.intro (x_k1 sm_32 h_13.1 (by decide) hvx_22.1) hvx_22.2
      have h_37 : Wk _ w_16 yx_21 (iN (psx_21)) (iN (twx_21)) (iN (kwx_21)) cdx_21 := And.intro (x_k1 sm_32 h_13.1 (by decide) hWx_21.1) hWx_21.2
      refine lv_aload_n hC.1 hC.2.1 dX3_copy_48 rfl (lv_at hl 2 rfl) ?_
      refine lv_aload hC.1 hC.2.1 dX3_copy_49 (lv_at hl 0 rfl) ?_
      refine x_callV hC hw (lv_size hl) (c_X3_shutViewsOnto l G hR_31 (bi := (p1).toNat) hik_5) gX3_copy_X3_shutViewsOnto rfl dv_X3_shutViewsOnto hR_31.1 rfl rfl (Nat.le_of_ble_eq_true rfl) (by rw [hRf]; decide) (by rw [hRl]; decide) (by first | (rw [hRc]; decide) | omega) (by first | (rw [hRs]; decide) | omega) dX3_copy_51 (fun r9 M_38 H locs hq hw => ?_)
      obtain ⟨z_40, rfl, hz_40, fvk_39, hRk_39⟩ := hq
      show W p l e R s m args below meth c H locs _ _ _ (F0 m 54 ls [.int (iN (z_40))])
      exact vx_ret (x_iret hC hw dX3_copy_54 (by first | decide | omega) (by first | decide | omega) ⟨z_40, rfl, ⟨by omega, by omega⟩, ⟨⟨⟨(by first | omega | trivial), (by first | omega | trivial)⟩, ⟨(by first | omega | trivial), (by first | omega | trivial)⟩⟩, (by first | assumption | omega | trivial)⟩, hz_40.2, (RG.copy (hRk_39.reP (fun j9 hj9 t9 ht9 => upO_n _ _ (shN_ne hj9 ht9)) (fun k9 hk9 => nomatch hk9)) (abK_cp_eq (hR.qeq htax_22 (by omega) c_25)) (by omega) (by omega) (by omega) hcb (by omega))⟩)
set_option maxHeartbeats 4000000 in
set_option maxRecDepth 100000 in
theorem c_X3_thin (l : Launch) (G : xG) {M : HM} (hst : l.stackTraces = false) {h0 bs vs : Nat} {og : Option Nat} {kk kv rf : Int32} {qb qk qv : Nat → Nat} {fb fv : Nat → Option Nat} {O : OW} {Wv : VW} {V : BW} {T C : Nat → Int} {K : WA} {N : Int} (hR : RGx G M h0 bs vs og kk kv rf qb qk qv fb fv O O Wv V T C K) (hcb : cbN N T C) (hN : N ≤ 590) {p0 : Int} (hp0 : -2147483648 ≤ p0 ∧ p0 ≤ 2147483647) {p1 : Int} (hp1 : -2147483648 ≤ p1 ∧ p1 ≤ 2147483647) {p2 : Int} (hp2 : -2147483648 ≤ p2 ∧ p2 ≤ 2147483647) (hb2 : p2 = 0 ∨ p2 = 1) : xMetX l G yX3_thin wsX3_thin 7 136 3 18 [.ref h0, .int (iN (p0)), .int (iN (p1)), .int (iN (p2))] M (fun r M1 => ∃ z : Int, r = some (.int (iN z)) ∧ (-2147483648 ≤ z ∧ z ≤ 2147483647) ∧ (((0 ≤ p0 ∧ p0 ≤ 2) ∧ (0 ≤ p1 ∧ p1 ≤ 2)) ∧ (p0 ≠ p1)) ∧ z = A_thin (O, V, Wv, abK T C K, kk, kv, rf) p0 p1 p2 ∧ RG G M1 h0 (N + 1) (S_thin (O, V, Wv, abK T C K, kk, kv, rf) p0 p1 p2)) (fun E M1 => ((E = xIO ∧ ¬ ((0 ≤ p0 ∧ p0 ≤ 2) ∧ (0 ≤ p1 ∧ p1 ≤ 2))) ∨ (E = xIA ∧ ((0 ≤ p0 ∧ p0 ≤ 2) ∧ (0 ≤ p1 ∧ p1 ≤ 2)) ∧ ¬ (p0 ≠ p1))) ∧ RG G M1 h0 (N + 1) (O, V, Wv, abK T C K, kk, kv, rf)) := by
  refine x_introX (cc := cX3_thin) (maxL := 6) (ret := (some .int)) (by exact pln_RX3) rfl (Nat.le_of_ble_eq_true rfl) ?_
  intro p e R s m args below meth c ls hRf hRc hRs hRl htab hC hw hl
  have hl : lv_has ls 6 [(0, .ref h0), (1, .int (iN (p0))), (2, .int (iN (p1))), (3, .int (iN (p2)))] := hl
  refine lv_aload_n hC.1 hC.2.1 dX3_thin_0 rfl (lv_at hl 0 rfl) ?_
  refine lv_iload_n hC.1 hC.2.1 dX3_thin_1 rfl (lv_at hl 1 rfl) ?_
  refine x_callVX hC hw (lv_size hl) (c_X3_bookAt l G hst hR hcb hN (p0 := p0) (by first | assumption | omega)) gX3_thin_X3_bookAt rfl dv_X3_bookAt hR.1 rfl rfl (Nat.le_of_ble_eq_true rfl) (by rw [hRf]; decide) (by rw [hRl]; decide) (by first | (rw [hRc]; decide) | omega) (by first | (rw [hRs]; decide) | omega) dX3_thin_2 (fun E ce q9 M_1 H locs hqx hw hcell hcv hcls => ?_) (fun r9 M_1 H locs hq hw => ?_)
  · rw [hqx.2] at hw
    obtain ⟨hE, hc9⟩ := hqx.1
    replace hqx := hqx.2
    subst hE
    exact x_outX hC hw htab hcell hcv hcls (by first | decide | omega) (by first | decide | omega) ⟨Or.inl ⟨rfl, (by first | exact hc9 | omega | trivial)⟩, (RG.of (N2 := N + 1) hR hcb (by omega) (by omega))⟩
  obtain ⟨rfl, hM9, hk_2, hk_2b⟩ := hq
  rw [hM9] at hw
  have hik_2 : (p0).toNat < 3 := by omega
  obtain ⟨szx_3, fkx_3, fwx_3, hBx_3, hVx_3⟩ := hR.bk hik_2
  obtain ⟨-, -, -, -, hsax_3, hsbx_3⟩ := id hBx_3
  have holx_3 := hR.ol hik_2
  have hctx_3 := hcb.2 _ hik_2
  show W p l e R s m args below meth c H locs _ _ _ (F0 m 5 ls [.ref (qb ((p0).toNat))])
  refine lv_astore (lv' := [(4, .ref (qb ((p0).toNat))), (0, .ref h0), (1, .int (iN (p0))), (2, .int (iN (p1))), (3, .int (iN (p2)))]) hC.1 hC.2.1 dX3_thin_5 hl (by decide) rfl (fun ls hl => ?_)
  refine lv_aload_n hC.1 hC.2.1 dX3_thin_7 rfl (lv_at hl 1 rfl) ?_
  refine lv_iload_n hC.1 hC.2.1 dX3_thin_8 rfl (lv_at hl 3 rfl) ?_
  refine x_callVX hC hw (lv_size hl) (c_X3_bookAt l G hst hR hcb hN (p0 := p1) (by first | assumption | omega)) gX3_thin_X3_bookAt rfl dv_X3_bookAt hR.1 rfl rfl (Nat.le_of_ble_eq_true rfl) (by rw [hRf]; decide) (by rw [hRl]; decide) (by first | (rw [hRc]; decide) | omega) (by first | (rw [hRs]; decide) | omega) dX3_thin_9 (fun E ce q9 M_4 H locs hqx hw hcell hcv hcls => ?_) (fun r9 M_4 H locs hq hw => ?_)
  · rw [hqx.2] at hw
    obtain ⟨hE, hc9⟩ := hqx.1
    replace hqx := hqx.2
    subst hE
    exact x_outX hC hw htab hcell hcv hcls (by first | decide | omega) (by first | decide | omega) ⟨Or.inl ⟨rfl, (by first | exact hc9 | omega | trivial)⟩, (RG.of (N2 := N + 1) hR hcb (by omega) (by omega))⟩
  obtain ⟨rfl, hM9, hk_5, hk_5b⟩ := hq
  rw [hM9] at hw
  have hik_5 : (p1).toNat < 3 := by omega
  obtain ⟨szx_6, fkx_6, fwx_6, hBx_6, hVx_6⟩ := hR.bk hik_5
  obtain ⟨-, -, -, -, hsax_6, hsbx_6⟩ := id hBx_6
  have holx_6 := hR.ol hik_5
  have hctx_6 := hcb.2 _ hik_5
  show W p l e R s m args below meth c H locs _ _ _ (F0 m 12 ls [.ref (qb ((p1).toNat))])
  refine lv_astore (lv' := [(5, .ref (qb ((p1).toNat))), (4, .ref (qb ((p0).toNat))), (0, .ref h0), (1, .int (iN (p0))), (2, .int (iN (p1))), (3, .int (iN (p2)))]) hC.1 hC.2.1 dX3_thin_12 hl (by decide) rfl (fun ls hl => ?_)
  refine lv_iload_n hC.1 hC.2.1 dX3_thin_14 rfl (lv_at hl 3 rfl) ?_
  refine lv_iload_n hC.1 hC.2.1 dX3_thin_15 rfl (lv_at hl 4 rfl) ?_
  refine x_callSX hC hw (lv_size hl) (c_X3_checkUnlike l G (M := M) hst (p0 := p0) (by first | assumption | omega) (p1 := p1) (by first | assumption | omega)) gX3_thin_X3_checkUnlike rfl dv_X3_checkUnlike_s rfl (Nat.le_of_ble_eq_true rfl) (by rw [hRf]; decide) (by rw [hRl]; decide) (by first | (rw [hRc]; decide) | omega) (by first | (rw [hRs]; decide) | omega) dX3_thin_16 (fun E ce q9 M_7 H locs hqx hw hcell hcv hcls => ?_) (fun r9 M_7 H locs hq hw => ?_)
  · rw [hqx.2] at hw
    obtain ⟨hE, hc9⟩ := hqx.1
    replace hqx := hqx.2
    subst hE
    exact x_outX hC hw htab hcell hcv hcls (by first | decide | omega) (by first | decide | omega) ⟨Or.inr (⟨rfl, ⟨⟨⟨(by first | omega | trivial), (by first | omega | trivial)⟩, ⟨(by first | omega | trivial), (by first | omega | trivial)⟩⟩, (by first | exact hc9 | omega | trivial)⟩⟩), (RG.of (N2 := N + 1) hR hcb (by omega) (by omega))⟩
  obtain ⟨rfl, hM9, hk_8⟩ := hq
  rw [hM9] at hw
  have hap : xAp (qb ((p0).toNat)) (qk ((p0).toNat)) (qv ((p0).toNat)) (qb ((p1).toNat)) (qk ((p1).toNat)) (qv ((p1).toNat)) := hR.ap hik_2 hik_5 (by omega)
  show W p l e R s m args below meth c H locs _ _ _ (F0 m 19 ls [])
  refine lv_aload hC.1 hC.2.1 dX3_thin_19 (lv_at hl 1 rfl) ?_
  refine x_callV hC hw (lv_size hl) (c_X0_touch l G hBx_3 (show (O ((p0).toNat)) < 3 by first | assumption | omega) hVx_3 (by first | assumption | omega) (by first | assumption | omega)) gX3_thin_X0_touch rfl dv_X0_touch hBx_3.1 rfl rfl (Nat.le_of_ble_eq_true rfl) (by rw [hRf]; decide) (by rw [hRl]; decide) (by first | (rw [hRc]; decide) | omega) (by first | (rw [hRs]; decide) | omega) dX3_thin_21 (fun r9 M_9 H locs hq hw => ?_)
  obtain ⟨rfl, hBu_10, smu_10⟩ := hq
  have sm_11 := (xSm.rf (M := M) (b := (qb ((p0).toNat))) (k := (qk ((p0).toNat))) (v := (qv ((p0).toNat)))).tr (smu_10)
  have hB_12 := hBx_6.kept smu_10 hap
  have h_13 := hR.book hik_2 hBx_3 hBu_10 hVx_3 smu_10 (by first | omega | (rw [upV_s]; omega)) (by first | omega | (rw [upV_s]; omega))
  rw [show (upB V ((p0).toNat) (V ((p0).toNat))) = V from upB_self rfl, show (upV C ((p0).toNat) (C ((p0).toNat))) = C from upV_same _ _] at h_13
  show W p l e R s m args below meth c H locs _ _ _ (F0 m 24 ls [])
  refine lv_aload hC.1 hC.2.1 dX3_thin_24 (lv_at hl 1 rfl) ?_
  refine lv_aload hC.1 hC.2.1 dX3_thin_26 (lv_at hl 0 rfl) ?_
  refine lv_iload_n hC.1 hC.2.1 dX3_thin_28 rfl (lv_at hl 5 rfl) ?_
  refine x_callV hC hw (lv_size hl) (c_X0_removeByOther l G hBu_10 (show (O ((p0).toNat)) < 3 by first | assumption | omega) hVx_3 (by first | assumption | omega) (by first | assumption | omega) hB_12 (show (O ((p1).toNat)) < 3 by first | assumption | omega) hVx_6 (by first | assumption | omega) (by first | assumption | omega) (p0 := p2) (by first | assumption | omega) hap (by omega)) gX3_thin_X0_removeByOther rfl dv_X0_removeByOther hBu_10.1 rfl rfl (Nat.le_of_ble_eq_true rfl) (by rw [hRf]; decide) (by rw [hRl]; decide) (by first | (rw [hRc]; decide) | omega) (by first | (rw [hRs]; decide) | omega) dX3_thin_29 (fun r9 M_16 H locs hq hw => ?_)
  obtain ⟨z_18, rfl, hz_18, hz_18v, kcu_17, szu_17, fku_17, fvu_17, hBu_17, smu_17, hVu_17, hksu_17⟩ := hq
  obtain ⟨-, -, -, -, hsau_17, hsbu_17⟩ := id hBu_17
  obtain ⟨hkau_17, hkbu_17, -⟩ := id hksu_17
  have sm_19 := (sm_11).tr (smu_17)
  have hB_20 := hB_12.kept smu_17 hap
  have h_21 := h_13.book hik_2 hBu_10 hBu_17 hVu_17 smu_17 (by first | omega | (rw [upV_s]; omega)) (by first | omega | (rw [upV_s]; omega))
  rw [show (upV (upV T ((p0).toNat) ((T ((p0).toNat)) + 1)) ((p0).toNat) ((T ((p0).toNat)) + 1)) = (upV T ((p0).toNat) ((T ((p0).toNat)) + 1)) from upV_upV] at h_21
  show W p l e R s m args below meth c H locs _ _ _ (F0 m 32 ls [.int (iN (z_18))])
  exact vx_ret (x_iret hC hw dX3_thin_32 (by first | decide | omega) (by first | decide | omega) ⟨z_18, rfl, ⟨by omega, by omega⟩, ⟨⟨⟨(by first | omega | trivial), (by first | omega | trivial)⟩, ⟨(by first | omega | trivial), (by first | omega | trivial)⟩⟩, (by first | assumption | omega | trivial)⟩, hz_18v, (RG.mut hR.wg h_21 (by omega) hksu_17 (by omega) hcb (by omega) rfl)⟩)
set_option maxHeartbeats 4000000 in
set_option maxRecDepth 100000 in
theorem c_X3_head (l : Launch) (G : xG) {M : HM} (hst : l.stackTraces = false) {h0 bs vs : Nat} {og : Option Nat} {kk kv rf : Int32} {qb qk qv : Nat → Nat} {fb fv : Nat → Option Nat} {O : OW} {Wv : VW} {V : BW} {T C : Nat → Int} {K : WA} {N : Int} (hR : RGx G M h0 bs vs og kk kv rf qb qk qv fb fv O O Wv V T C K) (hcb : cbN N T C) (hN : N ≤ 590) {p0 : Int} (hp0 : -2147483648 ≤ p0 ∧ p0 ≤ 2147483647) {p1 : Int} (hp1 : -2147483648 ≤ p1 ∧ p1 ≤ 2147483647) {p2 : Int} (hp2 : -2147483648 ≤ p2 ∧ p2 ≤ 2147483647) (hb2 : p2 = 0 ∨ p2 = 1) : xMetX l G yX3_head wsX3_head 7 112 4 25 [.ref h0, .int (iN (p0)), .int (iN (p1)), .int (iN (p2))] M (fun r M1 => ∃ z : Int, r = some (.int (iN z)) ∧ (-2147483648 ≤ z ∧ z ≤ 2147483647) ∧ ((0 ≤ p0 ∧ p0 ≤ 2) ∧ (0 ≤ p1 ∧ p1 ≤ 99) ∧ (frN Wv < 4)) ∧ z = A_head (O, V, Wv, abK T C K, kk, kv, rf) p0 p1 p2 ∧ RG G M1 h0 (N + 1) (S_head (O, V, Wv, abK T C K, kk, kv, rf) p0 p1 p2)) (fun E M1 => ((E = xIO ∧ ¬ (0 ≤ p0 ∧ p0 ≤ 2)) ∨ (E = xIA ∧ (0 ≤ p0 ∧ p0 ≤ 2) ∧ ¬ (0 ≤ p1 ∧ p1 ≤ 99)) ∨ (E = xIS ∧ (0 ≤ p0 ∧ p0 ≤ 2) ∧ (0 ≤ p1 ∧ p1 ≤ 99) ∧ ¬ (frN Wv < 4))) ∧ RG G M1 h0 (N + 1) (O, V, Wv, abK T C K, kk, kv, rf)) := by
  refine x_introX (cc := cX3_head) (maxL := 5) (ret := (some .int)) (by exact pln_RX3) rfl (Nat.le_of_ble_eq_true rfl) ?_
  intro p e R s m args below meth c ls hRf hRc hRs hRl htab hC hw hl
  have hinX1 : ∀ w ∈ wsX10, w ∈ wsX3_head := fun w h => (List.mem_cons_of_mem _ (List.mem_append_left _ (List.mem_append_left _ (List.mem_append_left _ (List.mem_append_left _ (List.mem_append_left _ (List.mem_append_right _ h)))))))
  have hl : lv_has ls 5 [(0, .ref h0), (1, .int (iN (p0))), (2, .int (iN (p1))), (3, .int (iN (p2)))] := hl
  refine lv_aload_n hC.1 hC.2.1 dX3_head_0 rfl (lv_at hl 0 rfl) ?_
  refine lv_iload_n hC.1 hC.2.1 dX3_head_1 rfl (lv_at hl 1 rfl) ?_
  refine x_callVX hC hw (lv_size hl) (c_X3_bookAt l G hst hR hcb hN (p0 := p0) (by first | assumption | omega)) gX3_head_X3_bookAt rfl dv_X3_bookAt hR.1 rfl rfl (Nat.le_of_ble_eq_true rfl) (by rw [hRf]; decide) (by rw [hRl]; decide) (by first | (rw [hRc]; decide) | omega) (by first | (rw [hRs]; decide) | omega) dX3_head_2 (fun E ce q9 M_1 H locs hqx hw hcell hcv hcls => ?_) (fun r9 M_1 H locs hq hw => ?_)
  · rw [hqx.2] at hw
    obtain ⟨hE, hc9⟩ := hqx.1
    replace hqx := hqx.2
    subst hE
    exact x_outX hC hw htab hcell hcv hcls (by first | decide | omega) (by first | decide | omega) ⟨Or.inl ⟨rfl, (by first | exact hc9 | omega | trivial)⟩, (RG.of (N2 := N + 1) hR hcb (by omega) (by omega))⟩
  obtain ⟨rfl, hM9, hk_2, hk_2b⟩ := hq
  rw [hM9] at hw
  have hik_2 : (p0).toNat < 3 := by omega
  obtain ⟨szx_3, fkx_3, fwx_3, hBx_3, hVx_3⟩ := hR.bk hik_2
  obtain ⟨-, -, -, -, hsax_3, hsbx_3⟩ := id hBx_3
  have holx_3 := hR.ol hik_2
  have hctx_3 := hcb.2 _ hik_2
  show W p l e R s m args below meth c H locs _ _ _ (F0 m 5 ls [.ref (qb ((p0).toNat))])
  refine lv_astore (lv' := [(4, .ref (qb ((p0).toNat))), (0, .ref h0), (1, .int (iN (p0))), (2, .int (iN (p1))), (3, .int (iN (p2)))]) hC.1 hC.2.1 dX3_head_5 hl (by decide) rfl (fun ls hl => ?_)
  refine lv_iload_n hC.1 hC.2.1 dX3_head_7 rfl (lv_at hl 3 rfl) ?_
  refine x_callSX hC hw (lv_size hl) (c_X3_checkKey l G (M := M) hst (p0 := p1) (by first | assumption | omega)) gX3_head_X3_checkKey rfl dv_X3_checkKey_s rfl (Nat.le_of_ble_eq_true rfl) (by rw [hRf]; decide) (by rw [hRl]; decide) (by first | (rw [hRc]; decide) | omega) (by first | (rw [hRs]; decide) | omega) dX3_head_8 (fun E ce q9 M_4 H locs hqx hw hcell hcv hcls => ?_) (fun r9 M_4 H locs hq hw => ?_)
  · rw [hqx.2] at hw
    obtain ⟨hE, hc9⟩ := hqx.1
    replace hqx := hqx.2
    subst hE
    exact x_outX hC hw htab hcell hcv hcls (by first | decide | omega) (by first | decide | omega) ⟨Or.inr (Or.inl ⟨rfl, ⟨⟨(by first | omega | trivial), (by first | omega | trivial)⟩, (by first | exact hc9 | omega | trivial)⟩⟩), (RG.of (N2 := N + 1) hR hcb (by omega) (by omega))⟩
  obtain ⟨rfl, hM9, hk_5⟩ := hq
  rw [hM9] at hw
  show W p l e R s m args below meth c H locs _ _ _ (F0 m 11 ls [])
  refine lv_aload_n hC.1 hC.2.1 dX3_head_11 rfl (lv_at hl 1 rfl) ?_
  refine x_new (fs := [.null, .int 0, .int 0, .int 0, .int 0, .int 0, .int 0]) (ci := 3) hC hw rfl hinX1 tyX1 tyX1_ok (by decide +kernel) (by decide +kernel) (by decide +kernel) (fun j hj => by rcases (show j = 0 ∨ j = 1 ∨ j = 2 ∨ j = 3 ∨ j = 4 ∨ j = 5 ∨ j = 6 by omega) with rfl | rfl | rfl | rfl | rfl | rfl | rfl <;> rfl) (by omega) (by omega) dX3_head_12 (fun q_6 H hq_9 hw => ?_)
  obtain ⟨M_7, hM_8⟩ : ∃ z, z = va_up M q_6 (some (.inr (3, [.null, .int 0, .int 0, .int 0, .int 0, .int 0, .int 0]))) := ⟨_, rfl⟩
  rw [← hM_8] at hw
  have hx_10 : xExt M M_7 := by rw [hM_8]; exact xExt.new hq_9
  have hf_11 : M_7 q_6 = some (.inr (3, [.null, .int 0, .int 0, .int 0, .int 0, .int 0, .int 0])) := by rw [hM_8, va_up_self]
  have h_12 := hR.ext hx_10
  have h_13 := hBx_3.ext hx_10
  refine lv_dup hC.1 hC.2.1 dX3_head_15 rfl ?_
  refine lv_aload hC.1 hC.2.1 dX3_head_16 (lv_at hl 0 rfl) ?_
  refine x_sipush hC dX3_head_18 (by decide +kernel) ?_
  refine x_const hC dX3_head_21 ?_
  refine lv_iload_n hC.1 hC.2.1 dX3_head_22 rfl (lv_at hl 3 rfl) ?_
  refine lv_iload_n hC.1 hC.2.1 dX3_head_23 rfl (lv_at hl 4 rfl) ?_
  refine x_callI hC hw (lv_size hl) (c_X1_init l G hf_11 h_13 (show (O ((p0).toNat)) < 3 by first | assumption | omega) hVx_3 (by first | assumption | omega) (by first | assumption | omega) (p0 := (-10000)) (by omega) (p1 := 0) (by omega) (p2 := p1) (by first | assumption | omega) (p3 := p2) (by first | assumption | omega) (by omega) (by omega) (by omega) (by omega)) gX3_head_X1_init rfl (by decide +kernel) (by decide +kernel) (by decide +kernel) rfl dv_X1_init_s rfl (Nat.le_of_ble_eq_true rfl) (by rw [hRf]; decide) (by rw [hRl]; decide) (by first | (rw [hRc]; decide) | omega) (by first | (rw [hRs]; decide) | omega) dX3_head_24 (fun r9 M_14 H locs hq hw => ?_)
  obtain ⟨rfl, hVk_15, smk_15⟩ := hq
  have hxk_15 : xExt M M_14 := fun a e he => (smk_15 a (fun z => by rw [z, hq_9] at he; cases he)).trans (by rw [hM_8, va_up_ne _ _ (fun z => by rw [z, hq_9] at he; cases he)]; exact he)
  have h_16 := hR.ext hxk_15
  have h_17 := hBx_3.ext hxk_15
  show W p l e R s m args below meth c H locs _ _ _ (F0 m 27 ls [.ref q_6, .ref h0])
  refine x_callVX hC hw (lv_size hl) (c_X3_openView l G hst h_16 hcb hN (y := q_6) (u9 := ((p0).toNat, (-10000), p1, 0, p2)) ⟨(⟨hik_2, (show (-10000) = -10000 ∨ (0 ≤ (-10000) ∧ (-10000) ≤ 99) by omega), (show p1 = -10000 ∨ (0 ≤ p1 ∧ p1 ≤ 99) by omega), (show 0 = 0 ∨ 0 = 1 by omega), (show p2 = 0 ∨ p2 = 1 by omega)⟩ : VT.ok ((p0).toNat, (-10000), p1, 0, p2)), hVk_15⟩) gX3_head_X3_openView rfl dv_X3_openView h_16.1 rfl rfl (Nat.le_of_ble_eq_true rfl) (by rw [hRf]; decide) (by rw [hRl]; decide) (by first | (rw [hRc]; decide) | omega) (by first | (rw [hRs]; decide) | omega) dX3_head_27 (fun E ce q9 M_18 H locs hqx hw hcell hcv hcls => ?_) (fun r9 M_18 H locs hq hw => ?_)
  · obtain ⟨hE, hc9⟩ := hqx.1
    replace hqx := hqx.2
    subst hE
    exact x_outX hC hw htab hcell hcv hcls (by first | decide | omega) (by first | decide | omega) ⟨Or.inr (Or.inr (⟨rfl, ⟨⟨(by first | omega | trivial), (by first | omega | trivial)⟩, ⟨(by first | omega | trivial), (by first | omega | trivial)⟩, (by first | exact hc9 | omega | trivial)⟩⟩)), (RG.of (N2 := N + 1) hqx hcb (by omega) (by omega))⟩
  obtain ⟨z_20, rfl, hz_20, fvk_19, hRk_19⟩ := hq
  show W p l e R s m args below meth c H locs _ _ _ (F0 m 30 ls [.int (iN (z_20))])
  exact vx_ret (x_iret hC hw dX3_head_30 (by first | decide | omega) (by first | decide | omega) ⟨z_20, rfl, ⟨by omega, by omega⟩, ⟨⟨(by first | omega | trivial), (by first | omega | trivial)⟩, ⟨(by first | omega | trivial), (by first | omega | trivial)⟩, (by first | omega | trivial)⟩, (show _ = (frN Wv : Int) by omega), (RG.of (N2 := N + 1) hRk_19 hcb (by omega) (by omega))⟩)
set_option maxHeartbeats 4000000 in
set_option maxRecDepth 100000 in
theorem c_X3_tail (l : Launch) (G : xG) {M : HM} (hst : l.stackTraces = false) {h0 bs vs : Nat} {og : Option Nat} {kk kv rf : Int32} {qb qk qv : Nat → Nat} {fb fv : Nat → Option Nat} {O : OW} {Wv : VW} {V : BW} {T C : Nat → Int} {K : WA} {N : Int} (hR : RGx G M h0 bs vs og kk kv rf qb qk qv fb fv O O Wv V T C K) (hcb : cbN N T C) (hN : N ≤ 590) {p0 : Int} (hp0 : -2147483648 ≤ p0 ∧ p0 ≤ 2147483647) {p1 : Int} (hp1 : -2147483648 ≤ p1 ∧ p1 ≤ 2147483647) {p2 : Int} (hp2 : -2147483648 ≤ p2 ∧ p2 ≤ 2147483647) (hb2 : p2 = 0 ∨ p2 = 1) : xMetX l G yX3_tail wsX3_tail 7 112 4 25 [.ref h0, .int (iN (p0)), .int (iN (p1)), .int (iN (p2))] M (fun r M1 => ∃ z : Int, r = some (.int (iN z)) ∧ (-2147483648 ≤ z ∧ z ≤ 2147483647) ∧ ((0 ≤ p0 ∧ p0 ≤ 2) ∧ (0 ≤ p1 ∧ p1 ≤ 99) ∧ (frN Wv < 4)) ∧ z = A_tail (O, V, Wv, abK T C K, kk, kv, rf) p0 p1 p2 ∧ RG G M1 h0 (N + 1) (S_tail (O, V, Wv, abK T C K, kk, kv, rf) p0 p1 p2)) (fun E M1 => ((E = xIO ∧ ¬ (0 ≤ p0 ∧ p0 ≤ 2)) ∨ (E = xIA ∧ (0 ≤ p0 ∧ p0 ≤ 2) ∧ ¬ (0 ≤ p1 ∧ p1 ≤ 99)) ∨ (E = xIS ∧ (0 ≤ p0 ∧ p0 ≤ 2) ∧ (0 ≤ p1 ∧ p1 ≤ 99) ∧ ¬ (frN Wv < 4))) ∧ RG G M1 h0 (N + 1) (O, V, Wv, abK T C K, kk, kv, rf)) := by
  refine x_introX (cc := cX3_tail) (maxL := 5) (ret := (some .int)) (by exact pln_RX3) rfl (Nat.le_of_ble_eq_true rfl) ?_
  intro p e R s m args below meth c ls hRf hRc hRs hRl htab hC hw hl
  have hinX1 : ∀ w ∈ wsX10, w ∈ wsX3_tail := fun w h => (List.mem_cons_of_mem _ (List.mem_append_left _ (List.mem_append_left _ (List.mem_append_left _ (List.mem_append_left _ (List.mem_append_left _ (List.mem_append_right _ h)))))))
  have hl : lv_has ls 5 [(0, .ref h0), (1, .int (iN (p0))), (2, .int (iN (p1))), (3, .int (iN (p2)))] := hl
  refine lv_aload_n hC.1 hC.2.1 dX3_tail_0 rfl (lv_at hl 0 rfl) ?_
  refine lv_iload_n hC.1 hC.2.1 dX3_tail_1 rfl (lv_at hl 1 rfl) ?_
  refine x_callVX hC hw (lv_size hl) (c_X3_bookAt l G hst hR hcb hN (p0 := p0) (by first | assumption | omega)) gX3_tail_X3_bookAt rfl dv_X3_bookAt hR.1 rfl rfl (Nat.le_of_ble_eq_true rfl) (by rw [hRf]; decide) (by rw [hRl]; decide) (by first | (rw [hRc]; decide) | omega) (by first | (rw [hRs]; decide) | omega) dX3_tail_2 (fun E ce q9 M_1 H locs hqx hw hcell hcv hcls => ?_) (fun r9 M_1 H locs hq hw => ?_)
  · rw [hqx.2] at hw
    obtain ⟨hE, hc9⟩ := hqx.1
    replace hqx := hqx.2
    subst hE
    exact x_outX hC hw htab hcell hcv hcls (by first | decide | omega) (by first | decide | omega) ⟨Or.inl ⟨rfl, (by first | exact hc9 | omega | trivial)⟩, (RG.of (N2 := N + 1) hR hcb (by omega) (by omega))⟩
  obtain ⟨rfl, hM9, hk_2, hk_2b⟩ := hq
  rw [hM9] at hw
  have hik_2 : (p0).toNat < 3 := by omega
  obtain ⟨szx_3, fkx_3, fwx_3, hBx_3, hVx_3⟩ := hR.bk hik_2
  obtain ⟨-, -, -, -, hsax_3, hsbx_3⟩ := id hBx_3
  have holx_3 := hR.ol hik_2
  have hctx_3 := hcb.2 _ hik_2
  show W p l e R s m args below meth c H locs _ _ _ (F0 m 5 ls [.ref (qb ((p0).toNat))])
  refine lv_astore (lv' := [(4, .ref (qb ((p0).toNat))), (0, .ref h0), (1, .int (iN (p0))), (2, .int (iN (p1))), (3, .int (iN (p2)))]) hC.1 hC.2.1 dX3_tail_5 hl (by decide) rfl (fun ls hl => ?_)
  refine lv_iload_n hC.1 hC.2.1 dX3_tail_7 rfl (lv_at hl 3 rfl) ?_
  refine x_callSX hC hw (lv_size hl) (c_X3_checkKey l G (M := M) hst (p0 := p1) (by first | assumption | omega)) gX3_tail_X3_checkKey rfl dv_X3_checkKey_s rfl (Nat.le_of_ble_eq_true rfl) (by rw [hRf]; decide) (by rw [hRl]; decide) (by first | (rw [hRc]; decide) | omega) (by first | (rw [hRs]; decide) | omega) dX3_tail_8 (fun E ce q9 M_4 H locs hqx hw hcell hcv hcls => ?_) (fun r9 M_4 H locs hq hw => ?_)
  · rw [hqx.2] at hw
    obtain ⟨hE, hc9⟩ := hqx.1
    replace hqx := hqx.2
    subst hE
    exact x_outX hC hw htab hcell hcv hcls (by first | decide | omega) (by first | decide | omega) ⟨Or.inr (Or.inl ⟨rfl, ⟨⟨(by first | omega | trivial), (by first | omega | trivial)⟩, (by first | exact hc9 | omega | trivial)⟩⟩), (RG.of (N2 := N + 1) hR hcb (by omega) (by omega))⟩
  obtain ⟨rfl, hM9, hk_5⟩ := hq
  rw [hM9] at hw
  show W p l e R s m args below meth c H locs _ _ _ (F0 m 11 ls [])
  refine lv_aload_n hC.1 hC.2.1 dX3_tail_11 rfl (lv_at hl 1 rfl) ?_
  refine x_new (fs := [.null, .int 0, .int 0, .int 0, .int 0, .int 0, .int 0]) (ci := 3) hC hw rfl hinX1 tyX1 tyX1_ok (by decide +kernel) (by decide +kernel) (by decide +kernel) (fun j hj => by rcases (show j = 0 ∨ j = 1 ∨ j = 2 ∨ j = 3 ∨ j = 4 ∨ j = 5 ∨ j = 6 by omega) with rfl | rfl | rfl | rfl | rfl | rfl | rfl <;> rfl) (by omega) (by omega) dX3_tail_12 (fun q_6 H hq_9 hw => ?_)
  obtain ⟨M_7, hM_8⟩ : ∃ z, z = va_up M q_6 (some (.inr (3, [.null, .int 0, .int 0, .int 0, .int 0, .int 0, .int 0]))) := ⟨_, rfl⟩
  rw [← hM_8] at hw
  have hx_10 : xExt M M_7 := by rw [hM_8]; exact xExt.new hq_9
  have hf_11 : M_7 q_6 = some (.inr (3, [.null, .int 0, .int 0, .int 0, .int 0, .int 0, .int 0])) := by rw [hM_8, va_up_self]
  have h_12 := hR.ext hx_10
  have h_13 := hBx_3.ext hx_10
  refine lv_dup hC.1 hC.2.1 dX3_tail_15 rfl ?_
  refine lv_aload hC.1 hC.2.1 dX3_tail_16 (lv_at hl 0 rfl) ?_
  refine lv_iload_n hC.1 hC.2.1 dX3_tail_18 rfl (lv_at hl 3 rfl) ?_
  refine lv_iload_n hC.1 hC.2.1 dX3_tail_19 rfl (lv_at hl 4 rfl) ?_
  refine x_sipush hC dX3_tail_20 (by decide +kernel) ?_
  refine x_const hC dX3_tail_23 ?_
  refine x_callI hC hw (lv_size hl) (c_X1_init l G hf_11 h_13 (show (O ((p0).toNat)) < 3 by first | assumption | omega) hVx_3 (by first | assumption | omega) (by first | assumption | omega) (p0 := p1) (by first | assumption | omega) (p1 := p2) (by first | assumption | omega) (p2 := (-10000)) (by omega) (p3 := 0) (by omega) (by omega) (by omega) (by omega) (by omega)) gX3_tail_X1_init rfl (by decide +kernel) (by decide +kernel) (by decide +kernel) rfl dv_X1_init_s rfl (Nat.le_of_ble_eq_true rfl) (by rw [hRf]; decide) (by rw [hRl]; decide) (by first | (rw [hRc]; decide) | omega) (by first | (rw [hRs]; decide) | omega) dX3_tail_24 (fun r9 M_14 H locs hq hw => ?_)
  obtain ⟨rfl, hVk_15, smk_15⟩ := hq
  have hxk_15 : xExt M M_14 := fun a e he => (smk_15 a (fun z => by rw [z, hq_9] at he; cases he)).trans (by rw [hM_8, va_up_ne _ _ (fun z => by rw [z, hq_9] at he; cases he)]; exact he)
  have h_16 := hR.ext hxk_15
  have h_17 := hBx_3.ext hxk_15
  show W p l e R s m args below meth c H locs _ _ _ (F0 m 27 ls [.ref q_6, .ref h0])
  refine x_callVX hC hw (lv_size hl) (c_X3_openView l G hst h_16 hcb hN (y := q_6) (u9 := ((p0).toNat, p1, (-10000), p2, 0)) ⟨(⟨hik_2, (show p1 = -10000 ∨ (0 ≤ p1 ∧ p1 ≤ 99) by omega), (show (-10000) = -10000 ∨ (0 ≤ (-10000) ∧ (-10000) ≤ 99) by omega), (show p2 = 0 ∨ p2 = 1 by omega), (show 0 = 0 ∨ 0 = 1 by omega)⟩ : VT.ok ((p0).toNat, p1, (-10000), p2, 0)), hVk_15⟩) gX3_tail_X3_openView rfl dv_X3_openView h_16.1 rfl rfl (Nat.le_of_ble_eq_true rfl) (by rw [hRf]; decide) (by rw [hRl]; decide) (by first | (rw [hRc]; decide) | omega) (by first | (rw [hRs]; decide) | omega) dX3_tail_27 (fun E ce q9 M_18 H locs hqx hw hcell hcv hcls => ?_) (fun r9 M_18 H locs hq hw => ?_)
  · obtain ⟨hE, hc9⟩ := hqx.1
    replace hqx := hqx.2
    subst hE
    exact x_outX hC hw htab hcell hcv hcls (by first | decide | omega) (by first | decide | omega) ⟨Or.inr (Or.inr (⟨rfl, ⟨⟨(by first | omega | trivial), (by first | omega | trivial)⟩, ⟨(by first | omega | trivial), (by first | omega | trivial)⟩, (by first | exact hc9 | omega | trivial)⟩⟩)), (RG.of (N2 := N + 1) hqx hcb (by omega) (by omega))⟩
  obtain ⟨z_20, rfl, hz_20, fvk_19, hRk_19⟩ := hq
  show W p l e R s m args below meth c H locs _ _ _ (F0 m 30 ls [.int (iN (z_20))])
  exact vx_ret (x_iret hC hw dX3_tail_30 (by first | decide | omega) (by first | decide | omega) ⟨z_20, rfl, ⟨by omega, by omega⟩, ⟨⟨(by first | omega | trivial), (by first | omega | trivial)⟩, ⟨(by first | omega | trivial), (by first | omega | trivial)⟩, (by first | omega | trivial)⟩, (show _ = (frN Wv : Int) by omega), (RG.of (N2 := N + 1) hRk_19 hcb (by omega) (by omega))⟩)
set_option maxHeartbeats 4000000 in
set_option maxRecDepth 100000 in
theorem c_X3_sub (l : Launch) (G : xG) {M : HM} (hst : l.stackTraces = false) {h0 bs vs : Nat} {og : Option Nat} {kk kv rf : Int32} {qb qk qv : Nat → Nat} {fb fv : Nat → Option Nat} {O : OW} {Wv : VW} {V : BW} {T C : Nat → Int} {K : WA} {N : Int} (hR : RGx G M h0 bs vs og kk kv rf qb qk qv fb fv O O Wv V T C K) (hcb : cbN N T C) (hN : N ≤ 590) {p0 : Int} (hp0 : -2147483648 ≤ p0 ∧ p0 ≤ 2147483647) {p1 : Int} (hp1 : -2147483648 ≤ p1 ∧ p1 ≤ 2147483647) {p2 : Int} (hp2 : -2147483648 ≤ p2 ∧ p2 ≤ 2147483647) {p3 : Int} (hp3 : -2147483648 ≤ p3 ∧ p3 ≤ 2147483647) {p4 : Int} (hp4 : -2147483648 ≤ p4 ∧ p4 ≤ 2147483647) (hb2 : p2 = 0 ∨ p2 = 1) (hb4 : p4 = 0 ∨ p4 = 1) : xMetX l G yX3_sub wsX3_sub 7 112 6 37 [.ref h0, .int (iN (p0)), .int (iN (p1)), .int (iN (p2)), .int (iN (p3)), .int (iN (p4))] M (fun r M1 => ∃ z : Int, r = some (.int (iN z)) ∧ (-2147483648 ≤ z ∧ z ≤ 2147483647) ∧ ((0 ≤ p0 ∧ p0 ≤ 2) ∧ ((0 ≤ p1 ∧ p1 ≤ 99) ∧ (0 ≤ p3 ∧ p3 ≤ 99)) ∧ (frN Wv < 4)) ∧ z = A_sub (O, V, Wv, abK T C K, kk, kv, rf) p0 p1 p2 p3 p4 ∧ RG G M1 h0 (N + 1) (S_sub (O, V, Wv, abK T C K, kk, kv, rf) p0 p1 p2 p3 p4)) (fun E M1 => ((E = xIO ∧ ¬ (0 ≤ p0 ∧ p0 ≤ 2)) ∨ (E = xIA ∧ (0 ≤ p0 ∧ p0 ≤ 2) ∧ ¬ ((0 ≤ p1 ∧ p1 ≤ 99) ∧ (0 ≤ p3 ∧ p3 ≤ 99))) ∨ (E = xIS ∧ (0 ≤ p0 ∧ p0 ≤ 2) ∧ ((0 ≤ p1 ∧ p1 ≤ 99) ∧ (0 ≤ p3 ∧ p3 ≤ 99)) ∧ ¬ (frN Wv < 4))) ∧ RG G M1 h0 (N + 1) (O, V, Wv, abK T C K, kk, kv, rf)) := by
  refine x_introX (cc := cX3_sub) (maxL := 7) (ret := (some .int)) (by exact pln_RX3) rfl (Nat.le_of_ble_eq_true rfl) ?_
  intro p e R s m args below meth c ls hRf hRc hRs hRl htab hC hw hl
  have hinX1 : ∀ w ∈ wsX10, w ∈ wsX3_sub := fun w h => (List.mem_cons_of_mem _ (List.mem_append_left _ (List.mem_append_left _ (List.mem_append_left _ (List.mem_append_left _ (List.mem_append_left _ (List.mem_append_right _ h)))))))
  have hl : lv_has ls 7 [(0, .ref h0), (1, .int (iN (p0))), (2, .int (iN (p1))), (3, .int (iN (p2))), (4, .int (iN (p3))), (5, .int (iN (p4)))] := hl
  refine lv_aload_n hC.1 hC.2.1 dX3_sub_0 rfl (lv_at hl 0 rfl) ?_
  refine lv_iload_n hC.1 hC.2.1 dX3_sub_1 rfl (lv_at hl 1 rfl) ?_
  refine x_callVX hC hw (lv_size hl) (c_X3_bookAt l G hst hR hcb hN (p0 := p0) (by first | assumption | omega)) gX3_sub_X3_bookAt rfl dv_X3_bookAt hR.1 rfl rfl (Nat.le_of_ble_eq_true rfl) (by rw [hRf]; decide) (by rw [hRl]; decide) (by first | (rw [hRc]; decide) | omega) (by first | (rw [hRs]; decide) | omega) dX3_sub_2 (fun E ce q9 M_1 H locs hqx hw hcell hcv hcls => ?_) (fun r9 M_1 H locs hq hw => ?_)
  · rw [hqx.2] at hw
    obtain ⟨hE, hc9⟩ := hqx.1
    replace hqx := hqx.2
    subst hE
    exact x_outX hC hw htab hcell hcv hcls (by first | decide | omega) (by first | decide | omega) ⟨Or.inl ⟨rfl, (by first | exact hc9 | omega | trivial)⟩, (RG.of (N2 := N + 1) hR hcb (by omega) (by omega))⟩
  obtain ⟨rfl, hM9, hk_2, hk_2b⟩ := hq
  rw [hM9] at hw
  have hik_2 : (p0).toNat < 3 := by omega
  obtain ⟨szx_3, fkx_3, fwx_3, hBx_3, hVx_3⟩ := hR.bk hik_2
  obtain ⟨-, -, -, -, hsax_3, hsbx_3⟩ := id hBx_3
  have holx_3 := hR.ol hik_2
  have hctx_3 := hcb.2 _ hik_2
  show W p l e R s m args below meth c H locs _ _ _ (F0 m 5 ls [.ref (qb ((p0).toNat))])
  refine lv_astore (lv' := [(6, .ref (qb ((p0).toNat))), (0, .ref h0), (1, .int (iN (p0))), (2, .int (iN (p1))), (3, .int (iN (p2))), (4, .int (iN (p3))), (5, .int (iN (p4)))]) hC.1 hC.2.1 dX3_sub_5 hl (by decide) rfl (fun ls hl => ?_)
  refine lv_iload_n hC.1 hC.2.1 dX3_sub_7 rfl (lv_at hl 3 rfl) ?_
  refine x_callSX hC hw (lv_size hl) (c_X3_checkKey l G (M := M) hst (p0 := p1) (by first | assumption | omega)) gX3_sub_X3_checkKey rfl dv_X3_checkKey_s rfl (Nat.le_of_ble_eq_true rfl) (by rw [hRf]; decide) (by rw [hRl]; decide) (by first | (rw [hRc]; decide) | omega) (by first | (rw [hRs]; decide) | omega) dX3_sub_8 (fun E ce q9 M_4 H locs hqx hw hcell hcv hcls => ?_) (fun r9 M_4 H locs hq hw => ?_)
  · rw [hqx.2] at hw
    obtain ⟨hE, hc9⟩ := hqx.1
    replace hqx := hqx.2
    subst hE
    exact x_outX hC hw htab hcell hcv hcls (by first | decide | omega) (by first | decide | omega) ⟨Or.inr (Or.inl ⟨rfl, ⟨⟨(by first | omega | trivial), (by first | omega | trivial)⟩, (by first | exact hc9 | omega | trivial)⟩⟩), (RG.of (N2 := N + 1) hR hcb (by omega) (by omega))⟩
  obtain ⟨rfl, hM9, hk_5⟩ := hq
  rw [hM9] at hw
  show W p l e R s m args below meth c H locs _ _ _ (F0 m 11 ls [])
  refine lv_iload hC.1 hC.2.1 dX3_sub_11 (lv_at hl 5 rfl) ?_
  refine x_callSX hC hw (lv_size hl) (c_X3_checkKey l G (M := M) hst (p0 := p3) (by first | assumption | omega)) gX3_sub_X3_checkKey rfl dv_X3_checkKey_s rfl (Nat.le_of_ble_eq_true rfl) (by rw [hRf]; decide) (by rw [hRl]; decide) (by first | (rw [hRc]; decide) | omega) (by first | (rw [hRs]; decide) | omega) dX3_sub_13 (fun E ce q9 M_6 H locs hqx hw hcell hcv hcls => ?_) (fun r9 M_6 H locs hq hw => ?_)
  · rw [hqx.2] at hw
    obtain ⟨hE, hc9⟩ := hqx.1
    replace hqx := hqx.2
    subst hE
    exact x_outX hC hw htab hcell hcv hcls (by first | decide | omega) (by first | decide | omega) ⟨Or.inr (Or.inl ⟨rfl, ⟨⟨(by first | omega | trivial), (by first | omega | trivial)⟩, (by first | exact hc9 | omega | trivial)⟩⟩), (RG.of (N2 := N + 1) hR hcb (by omega) (by omega))⟩
  obtain ⟨rfl, hM9, hk_7⟩ := hq
  rw [hM9] at hw
  show W p l e R s m args below meth c H locs _ _ _ (F0 m 16 ls [])
  refine lv_aload_n hC.1 hC.2.1 dX3_sub_16 rfl (lv_at hl 1 rfl) ?_
  refine x_callVX hC hw (lv_size hl) (c_X3_checkViewIsFree l G hst hR hcb hN) gX3_sub_X3_checkViewIsFree rfl dv_X3_checkViewIsFree hR.1 rfl rfl (Nat.le_of_ble_eq_true rfl) (by rw [hRf]; decide) (by rw [hRl]; decide) (by first | (rw [hRc]; decide) | omega) (by first | (rw [hRs]; decide) | omega) dX3_sub_17 (fun E ce q9 M_8 H locs hqx hw hcell hcv hcls => ?_) (fun r9 M_8 H locs hq hw => ?_)
  · rw [hqx.2] at hw
    obtain ⟨hE, hc9⟩ := hqx.1
    replace hqx := hqx.2
    subst hE
    exact x_outX hC hw htab hcell hcv hcls (by first | decide | omega) (by first | decide | omega) ⟨Or.inr (Or.inr (⟨rfl, ⟨⟨(by first | omega | trivial), (by first | omega | trivial)⟩, ⟨⟨(by first | omega | trivial), (by first | omega | trivial)⟩, ⟨(by first | omega | trivial), (by first | omega | trivial)⟩⟩, (by first | exact hc9 | omega | trivial)⟩⟩)), (RG.of (N2 := N + 1) hR hcb (by omega) (by omega))⟩
  obtain ⟨rfl, hM9, hk_9⟩ := hq
  rw [hM9] at hw
  show W p l e R s m args below meth c H locs _ _ _ (F0 m 20 ls [])
  refine lv_aload hC.1 hC.2.1 dX3_sub_20 (lv_at hl 0 rfl) ?_
  refine lv_iload hC.1 hC.2.1 dX3_sub_22 (lv_at hl 5 rfl) ?_
  refine lv_iload_n hC.1 hC.2.1 dX3_sub_24 rfl (lv_at hl 3 rfl) ?_
  refine x_callV hC hw (lv_size hl) (c_X0_isAhead l G hBx_3 (show (O ((p0).toNat)) < 3 by first | assumption | omega) hVx_3 (by first | assumption | omega) (by first | assumption | omega) (p0 := p3) (by first | assumption | omega) (p1 := p1) (by first | assumption | omega)) gX3_sub_X0_isAhead rfl dv_X0_isAhead hBx_3.1 rfl rfl (Nat.le_of_ble_eq_true rfl) (by rw [hRf]; decide) (by rw [hRl]; decide) (by first | (rw [hRc]; decide) | omega) (by first | (rw [hRs]; decide) | omega) dX3_sub_25 (fun r9 M_10 H locs hq hw => ?_)
  obtain ⟨z_11, rfl, hM9, hz_11, hz_11w⟩ := hq
  rw [hM9] at hw
  show W p l e R s m args below meth c H locs _ _ _ (F0 m 28 ls [.int (iN (z_11))])
  refine x_if_eq (tgt := 35) hC ⟨by omega, by omega⟩ dX3_sub_28 (by decide) (fun c_12 => ?_) (fun c_12 => ?_)
  · refine lv_aload_n hC.1 hC.2.1 dX3_sub_35 rfl (lv_at hl 1 rfl) ?_
    refine x_new (fs := [.null, .int 0, .int 0, .int 0, .int 0, .int 0, .int 0]) (ci := 3) hC hw rfl hinX1 tyX1 tyX1_ok (by decide +kernel) (by decide +kernel) (by decide +kernel) (fun j hj => by rcases (show j = 0 ∨ j = 1 ∨ j = 2 ∨ j = 3 ∨ j = 4 ∨ j = 5 ∨ j = 6 by omega) with rfl | rfl | rfl | rfl | rfl | rfl | rfl <;> rfl) (by omega) (by omega) dX3_sub_36 (fun q_13 H hq_16 hw => ?_)
    obtain ⟨M_14, hM_15⟩ : ∃ z, z = va_up M q_13 (some (.inr (3, [.null, .int 0, .int 0, .int 0, .int 0, .int 0, .int 0]))) := ⟨_, rfl⟩
    rw [← hM_15] at hw
    have hx_17 : xExt M M_14 := by rw [hM_15]; exact xExt.new hq_16
    have hf_18 : M_14 q_13 = some (.inr (3, [.null, .int 0, .int 0, .int 0, .int 0, .int 0, .int 0])) := by rw [hM_15, va_up_self]
    have h_19 := hR.ext hx_17
    have h_20 := hBx_3.ext hx_17
    refine lv_dup hC.1 hC.2.1 dX3_sub_39 rfl ?_
    refine lv_aload hC.1 hC.2.1 dX3_sub_40 (lv_at hl 0 rfl) ?_
    refine lv_iload_n hC.1 hC.2.1 dX3_sub_42 rfl (lv_at hl 3 rfl) ?_
    refine lv_iload_n hC.1 hC.2.1 dX3_sub_43 rfl (lv_at hl 4 rfl) ?_
    refine lv_iload hC.1 hC.2.1 dX3_sub_44 (lv_at hl 5 rfl) ?_
    refine lv_iload hC.1 hC.2.1 dX3_sub_46 (lv_at hl 6 rfl) ?_
    refine x_callI hC hw (lv_size hl) (c_X1_init l G hf_18 h_20 (show (O ((p0).toNat)) < 3 by first | assumption | omega) hVx_3 (by first | assumption | omega) (by first | assumption | omega) (p0 := p1) (by first | assumption | omega) (p1 := p2) (by first | assumption | omega) (p2 := p3) (by first | assumption | omega) (p3 := p4) (by first | assumption | omega) (by omega) (by omega) (by omega) (by omega)) gX3_sub_X1_init rfl (by decide +kernel) (by decide +kernel) (by decide +kernel) rfl dv_X1_init_s rfl (Nat.le_of_ble_eq_true rfl) (by rw [hRf]; decide) (by rw [hRl]; decide) (by first | (rw [hRc]; decide) | omega) (by first | (rw [hRs]; decide) | omega) dX3_sub_48 (fun r9 M_21 H locs hq hw => ?_)
    obtain ⟨rfl, hVk_22, smk_22⟩ := hq
    have hxk_22 : xExt M M_21 := fun a e he => (smk_22 a (fun z => by rw [z, hq_16] at he; cases he)).trans (by rw [hM_15, va_up_ne _ _ (fun z => by rw [z, hq_16] at he; cases he)]; exact he)
    have h_23 := hR.ext hxk_22
    have h_24 := hBx_3.ext hxk_22
    show W p l e R s m args below meth c H locs _ _ _ (F0 m 51 ls [.ref q_13, .ref h0])
    refine x_callVX hC hw (lv_size hl) (c_X3_openView l G hst h_23 hcb hN (y := q_13) (u9 := ((p0).toNat, p1, p3, p2, p4)) ⟨(⟨hik_2, (show p1 = -10000 ∨ (0 ≤ p1 ∧ p1 ≤ 99) by omega), (show p3 = -10000 ∨ (0 ≤ p3 ∧ p3 ≤ 99) by omega), (show p2 = 0 ∨ p2 = 1 by omega), (show p4 = 0 ∨ p4 = 1 by omega)⟩ : VT.ok ((p0).toNat, p1, p3, p2, p4)), hVk_22⟩) gX3_sub_X3_openView rfl dv_X3_openView h_23.1 rfl rfl (Nat.le_of_ble_eq_true rfl) (by rw [hRf]; decide) (by rw [hRl]; decide) (by first | (rw [hRc]; decide) | omega) (by first | (rw [hRs]; decide) | omega) dX3_sub_51 (fun E ce q9 M_25 H locs hqx hw hcell hcv hcls => ?_) (fun r9 M_25 H locs hq hw => ?_)
    · obtain ⟨hE, hc9⟩ := hqx.1
      replace hqx := hqx.2
      subst hE
      exact x_outX hC hw htab hcell hcv hcls (by first | decide | omega) (by first | decide | omega) ⟨Or.inr (Or.inr (⟨rfl, ⟨⟨(by first | omega | trivial), (by first | omega | trivial)⟩, ⟨⟨(by first | omega | trivial), (by first | omega | trivial)⟩, ⟨(by first | omega | trivial), (by first | omega | trivial)⟩⟩, (by first | exact hc9 | omega | trivial)⟩⟩)), (RG.of (N2 := N + 1) hqx hcb (by omega) (by omega))⟩
    obtain ⟨z_27, rfl, hz_27, fvk_26, hRk_26⟩ := hq
    show W p l e R s m args below meth c H locs _ _ _ (F0 m 54 ls [.int (iN (z_27))])
    exact vx_ret (x_iret hC hw dX3_sub_54 (by first | decide | omega) (by first | decide | omega) ⟨z_27, rfl, ⟨by omega, by omega⟩, ⟨⟨(by first | omega | trivial), (by first | omega | trivial)⟩, ⟨⟨(by first | omega | trivial), (by first | omega | trivial)⟩, ⟨(by first | omega | trivial), (by first | omega | trivial)⟩⟩, (by first | omega | trivial)⟩, (by have m9 := cw_mw (show O p0.toNat < 3 by first | assumption | omega) (show p3.toNat < 100 from tn_lt (by omega) (by decide)) (show p1.toNat < 100 from tn_lt (by omega) (by decide)); show _ = (if mwN (O p0.toNat) p3.toNat < mwN (O p0.toNat) p1.toNat then -20000 else (frN Wv : Int)); omega), (by have m9 := cw_mw (show O p0.toNat < 3 by first | assumption | omega) (show p3.toNat < 100 from tn_lt (by omega) (by decide)) (show p1.toNat < 100 from tn_lt (by omega) (by decide)); show RG _ _ _ _ (if mwN (O p0.toNat) p3.toNat < mwN (O p0.toNat) p1.toNat then _ else _); rw [if_neg (by omega)]; exact (RG.of (N2 := N + 1) hRk_26 hcb (by omega) (by omega)))⟩)
  · refine x_sipush hC dX3_sub_31 (by decide +kernel) ?_
    exact vx_ret (x_iret hC hw dX3_sub_34 (by first | decide | omega) (by first | decide | omega) ⟨(-20000), rfl, ⟨by omega, by omega⟩, ⟨⟨(by first | omega | trivial), (by first | omega | trivial)⟩, ⟨⟨(by first | omega | trivial), (by first | omega | trivial)⟩, ⟨(by first | omega | trivial), (by first | omega | trivial)⟩⟩, (by first | omega | trivial)⟩, (by have m9 := cw_mw (show O p0.toNat < 3 by first | assumption | omega) (show p3.toNat < 100 from tn_lt (by omega) (by decide)) (show p1.toNat < 100 from tn_lt (by omega) (by decide)); show _ = (if mwN (O p0.toNat) p3.toNat < mwN (O p0.toNat) p1.toNat then -20000 else (frN Wv : Int)); omega), (by have m9 := cw_mw (show O p0.toNat < 3 by first | assumption | omega) (show p3.toNat < 100 from tn_lt (by omega) (by decide)) (show p1.toNat < 100 from tn_lt (by omega) (by decide)); show RG _ _ _ _ (if mwN (O p0.toNat) p3.toNat < mwN (O p0.toNat) p1.toNat then _ else _); rw [if_pos (by omega)]; exact (RG.of (N2 := N + 1) hR hcb (by omega) (by omega)))⟩)
set_option maxHeartbeats 4000000 in
set_option maxRecDepth 100000 in
theorem c_X3_part (l : Launch) (G : xG) {M : HM} (hst : l.stackTraces = false) {h0 bs vs : Nat} {og : Option Nat} {kk kv rf : Int32} {qb qk qv : Nat → Nat} {fb fv : Nat → Option Nat} {O : OW} {Wv : VW} {V : BW} {T C : Nat → Int} {K : WA} {N : Int} (hR : RGx G M h0 bs vs og kk kv rf qb qk qv fb fv O O Wv V T C K) (hcb : cbN N T C) (hN : N ≤ 590) {p0 : Int} (hp0 : -2147483648 ≤ p0 ∧ p0 ≤ 2147483647) {p1 : Int} (hp1 : -2147483648 ≤ p1 ∧ p1 ≤ 2147483647) {p2 : Int} (hp2 : -2147483648 ≤ p2 ∧ p2 ≤ 2147483647) {p3 : Int} (hp3 : -2147483648 ≤ p3 ∧ p3 ≤ 2147483647) {p4 : Int} (hp4 : -2147483648 ≤ p4 ∧ p4 ≤ 2147483647) (hb2 : p2 = 0 ∨ p2 = 1) (hb4 : p4 = 0 ∨ p4 = 1) : xMetX l G yX3_part wsX3_part 7 112 6 37 [.ref h0, .int (iN (p0)), .int (iN (p1)), .int (iN (p2)), .int (iN (p3)), .int (iN (p4))] M (fun r M1 => ∃ z : Int, r = some (.int (iN z)) ∧ (-2147483648 ≤ z ∧ z ≤ 2147483647) ∧ ((0 ≤ p0 ∧ p0 ≤ 3 ∧ opN (Wv p0.toNat) = 1) ∧ ((0 ≤ p1 ∧ p1 ≤ 99) ∧ (0 ≤ p3 ∧ p3 ≤ 99)) ∧ (frN Wv < 4)) ∧ z = A_part (O, V, Wv, abK T C K, kk, kv, rf) p0 p1 p2 p3 p4 ∧ RG G M1 h0 (N + 1) (S_part (O, V, Wv, abK T C K, kk, kv, rf) p0 p1 p2 p3 p4)) (fun E M1 => ((E = xIO ∧ ¬ (0 ≤ p0 ∧ p0 ≤ 3 ∧ opN (Wv p0.toNat) = 1)) ∨ (E = xIA ∧ (0 ≤ p0 ∧ p0 ≤ 3 ∧ opN (Wv p0.toNat) = 1) ∧ ¬ ((0 ≤ p1 ∧ p1 ≤ 99) ∧ (0 ≤ p3 ∧ p3 ≤ 99))) ∨ (E = xIS ∧ (0 ≤ p0 ∧ p0 ≤ 3 ∧ opN (Wv p0.toNat) = 1) ∧ ((0 ≤ p1 ∧ p1 ≤ 99) ∧ (0 ≤ p3 ∧ p3 ≤ 99)) ∧ ¬ (frN Wv < 4))) ∧ RG G M1 h0 (N + 1) (O, V, Wv, abK T C K, kk, kv, rf)) := by
  refine x_introX (cc := cX3_part) (maxL := 7) (ret := (some .int)) (by exact pln_RX3) rfl (Nat.le_of_ble_eq_true rfl) ?_
  intro p e R s m args below meth c ls hRf hRc hRs hRl htab hC hw hl
  have hinX1 : ∀ w ∈ wsX10, w ∈ wsX3_part := fun w h => (List.mem_cons_of_mem _ (List.mem_append_left _ (List.mem_append_left _ (List.mem_append_left _ (List.mem_append_left _ (List.mem_append_left _ (List.mem_append_right _ h)))))))
  have hl : lv_has ls 7 [(0, .ref h0), (1, .int (iN (p0))), (2, .int (iN (p1))), (3, .int (iN (p2))), (4, .int (iN (p3))), (5, .int (iN (p4)))] := hl
  refine lv_aload_n hC.1 hC.2.1 dX3_part_0 rfl (lv_at hl 0 rfl) ?_
  refine lv_iload_n hC.1 hC.2.1 dX3_part_1 rfl (lv_at hl 1 rfl) ?_
  refine x_callVX hC hw (lv_size hl) (c_X3_viewAt l G hst hR hcb hN (p0 := p0) (by first | assumption | omega)) gX3_part_X3_viewAt rfl dv_X3_viewAt hR.1 rfl rfl (Nat.le_of_ble_eq_true rfl) (by rw [hRf]; decide) (by rw [hRl]; decide) (by first | (rw [hRc]; decide) | omega) (by first | (rw [hRs]; decide) | omega) dX3_part_2 (fun E ce q9 M_1 H locs hqx hw hcell hcv hcls => ?_) (fun r9 M_1 H locs hq hw => ?_)
  · rw [hqx.2] at hw
    obtain ⟨hE, hc9⟩ := hqx.1
    replace hqx := hqx.2
    subst hE
    exact x_outX hC hw htab hcell hcv hcls (by first | decide | omega) (by first | decide | omega) ⟨Or.inl ⟨rfl, (by first | exact hc9 | omega | trivial)⟩, (RG.of (N2 := N + 1) hR hcb (by omega) (by omega))⟩
  obtain ⟨y_3, rfl, hM9, hk_2, hk_2b, hyk_2⟩ := hq
  rw [hM9] at hw
  obtain ⟨ux_4, hux_4, hTx_4⟩ := (hR.vwo (show (p0).toNat < 4 from tn_lt (by omega) (by decide))).yes hyk_2
  have hpx_4 := opN_some hux_4
  have hkx_5 := hTx_4.1
  have hvx_5 := hTx_4.2
  have hlix_5 := hvx_5.2.1
  have huix_5 := hvx_5.2.2
  obtain ⟨htax_5, htbx_5, htcx_5, htdx_5, htex_5⟩ := id hkx_5
  obtain ⟨szx_6, fkx_6, fwx_6, hBx_6, hVx_6⟩ := hR.bk htax_5
  obtain ⟨-, -, -, -, hsax_6, hsbx_6⟩ := id hBx_6
  have holx_6 := hR.ol htax_5
  have hctx_6 := hcb.2 _ htax_5
  show W p l e R s m args below meth c H locs _ _ _ (F0 m 5 ls [.ref y_3])
  refine lv_astore (lv' := [(6, .ref y_3), (0, .ref h0), (1, .int (iN (p0))), (2, .int (iN (p1))), (3, .int (iN (p2))), (4, .int (iN (p3))), (5, .int (iN (p4)))]) hC.1 hC.2.1 dX3_part_5 hl (by decide) rfl (fun ls hl => ?_)
  refine lv_iload_n hC.1 hC.2.1 dX3_part_7 rfl (lv_at hl 3 rfl) ?_
  refine x_callSX hC hw (lv_size hl) (c_X3_checkKey l G (M := M) hst (p0 := p1) (by first | assumption | omega)) gX3_part_X3_checkKey rfl dv_X3_checkKey_s rfl (Nat.le_of_ble_eq_true rfl) (by rw [hRf]; decide) (by rw [hRl]; decide) (by first | (rw [hRc]; decide) | omega) (by first | (rw [hRs]; decide) | omega) dX3_part_8 (fun E ce q9 M_7 H locs hqx hw hcell hcv hcls => ?_) (fun r9 M_7 H locs hq hw => ?_)
  · rw [hqx.2] at hw
    obtain ⟨hE, hc9⟩ := hqx.1
    replace hqx := hqx.2
    subst hE
    exact x_outX hC hw htab hcell hcv hcls (by first | decide | omega) (by first | decide | omega) ⟨Or.inr (Or.inl ⟨rfl, ⟨⟨(by first | omega | trivial), (by first | omega | trivial), (by first | omega | trivial)⟩, (by first | exact hc9 | omega | trivial)⟩⟩), (RG.of (N2 := N + 1) hR hcb (by omega) (by omega))⟩
  obtain ⟨rfl, hM9, hk_8⟩ := hq
  rw [hM9] at hw
  show W p l e R s m args below meth c H locs _ _ _ (F0 m 11 ls [])
  refine lv_iload hC.1 hC.2.1 dX3_part_11 (lv_at hl 5 rfl) ?_
  refine x_callSX hC hw (lv_size hl) (c_X3_checkKey l G (M := M) hst (p0 := p3) (by first | assumption | omega)) gX3_part_X3_checkKey rfl dv_X3_checkKey_s rfl (Nat.le_of_ble_eq_true rfl) (by rw [hRf]; decide) (by rw [hRl]; decide) (by first | (rw [hRc]; decide) | omega) (by first | (rw [hRs]; decide) | omega) dX3_part_13 (fun E ce q9 M_9 H locs hqx hw hcell hcv hcls => ?_) (fun r9 M_9 H locs hq hw => ?_)
  · rw [hqx.2] at hw
    obtain ⟨hE, hc9⟩ := hqx.1
    replace hqx := hqx.2
    subst hE
    exact x_outX hC hw htab hcell hcv hcls (by first | decide | omega) (by first | decide | omega) ⟨Or.inr (Or.inl ⟨rfl, ⟨⟨(by first | omega | trivial), (by first | omega | trivial), (by first | omega | trivial)⟩, (by first | exact hc9 | omega | trivial)⟩⟩), (RG.of (N2 := N + 1) hR hcb (by omega) (by omega))⟩
  obtain ⟨rfl, hM9, hk_10⟩ := hq
  rw [hM9] at hw
  show W p l e R s m args below meth c H locs _ _ _ (F0 m 16 ls [])
  refine lv_aload_n hC.1 hC.2.1 dX3_part_16 rfl (lv_at hl 1 rfl) ?_
  refine x_callVX hC hw (lv_size hl) (c_X3_checkViewIsFree l G hst hR hcb hN) gX3_part_X3_checkViewIsFree rfl dv_X3_checkViewIsFree hR.1 rfl rfl (Nat.le_of_ble_eq_true rfl) (by rw [hRf]; decide) (by rw [hRl]; decide) (by first | (rw [hRc]; decide) | omega) (by first | (rw [hRs]; decide) | omega) dX3_part_17 (fun E ce q9 M_11 H locs hqx hw hcell hcv hcls => ?_) (fun r9 M_11 H locs hq hw => ?_)
  · rw [hqx.2] at hw
    obtain ⟨hE, hc9⟩ := hqx.1
    replace hqx := hqx.2
    subst hE
    exact x_outX hC hw htab hcell hcv hcls (by first | decide | omega) (by first | decide | omega) ⟨Or.inr (Or.inr (⟨rfl, ⟨⟨(by first | omega | trivial), (by first | omega | trivial), (by first | omega | trivial)⟩, ⟨⟨(by first | omega | trivial), (by first | omega | trivial)⟩, ⟨(by first | omega | trivial), (by first | omega | trivial)⟩⟩, (by first | exact hc9 | omega | trivial)⟩⟩)), (RG.of (N2 := N + 1) hR hcb (by omega) (by omega))⟩
  obtain ⟨rfl, hM9, hk_12⟩ := hq
  rw [hM9] at hw
  show W p l e R s m args below meth c H locs _ _ _ (F0 m 20 ls [])
  refine lv_aload hC.1 hC.2.1 dX3_part_20 (lv_at hl 0 rfl) ?_
  refine lv_iload_n hC.1 hC.2.1 dX3_part_22 rfl (lv_at hl 3 rfl) ?_
  refine x_callV hC hw (lv_size hl) (c_X1_isWithin l G hkx_5 hvx_5 hBx_6 (show (O ux_4.b) < 3 by first | assumption | omega) hVx_6 (by first | assumption | omega) (by first | assumption | omega) (O := O) (V := V) (t9 := ux_4) (p0 := p1) (by first | assumption | omega) (by omega)) gX3_part_X1_isWithin rfl dv_X1_isWithin hvx_5.1 rfl rfl (Nat.le_of_ble_eq_true rfl) (by rw [hRf]; decide) (by rw [hRl]; decide) (by first | (rw [hRc]; decide) | omega) (by first | (rw [hRs]; decide) | omega) dX3_part_23 (fun r9 M_13 H locs hq hw => ?_)
  obtain ⟨z_14, rfl, hM9, hz_14, hz_14w⟩ := hq
  rw [hM9] at hw
  have hz_14i : z_14 = inI (O ux_4.b) ux_4 (p1).toNat := inI_eq (by omega) hz_14w
  show W p l e R s m args below meth c H locs _ _ _ (F0 m 26 ls [.int (iN (z_14))])
  refine x_if_eq (tgt := 53) hC ⟨by omega, by omega⟩ dX3_part_26 (by decide) (fun c_15 => ?_) (fun c_15 => ?_)
  · refine x_sipush hC dX3_part_53 (by decide +kernel) ?_
    exact vx_ret (x_iret hC hw dX3_part_56 (by first | decide | omega) (by first | decide | omega) ⟨(-20000), rfl, ⟨by omega, by omega⟩, ⟨⟨(by first | omega | trivial), (by first | omega | trivial), (by first | omega | trivial)⟩, ⟨⟨(by first | omega | trivial), (by first | omega | trivial)⟩, ⟨(by first | omega | trivial), (by first | omega | trivial)⟩⟩, (by first | omega | trivial)⟩, (by have m9 := cw_mw (show O ux_4.b < 3 by first | assumption | omega) (show p3.toNat < 100 from tn_lt (by omega) (by decide)) (show p1.toNat < 100 from tn_lt (by omega) (by decide)); have i9 := inI_01 (O ux_4.b) p1.toNat ux_4; have i8 := inI_01 (O ux_4.b) p3.toNat ux_4; rw [A_part, show tvW (ST.W (O, V, Wv, abK T C K, kk, kv, rf)) p0.toNat = ux_4 from tvW_some hux_4]; show _ = (if ((inI (O ux_4.b) ux_4 p1.toNat = 1 ∧ inI (O ux_4.b) ux_4 p3.toNat = 1) ∧ ¬ mwN (O ux_4.b) p3.toNat < mwN (O ux_4.b) p1.toNat) then (frN Wv : Int) else -20000); omega), (by have m9 := cw_mw (show O ux_4.b < 3 by first | assumption | omega) (show p3.toNat < 100 from tn_lt (by omega) (by decide)) (show p1.toNat < 100 from tn_lt (by omega) (by decide)); have i9 := inI_01 (O ux_4.b) p1.toNat ux_4; have i8 := inI_01 (O ux_4.b) p3.toNat ux_4; rw [S_part, show tvW (ST.W (O, V, Wv, abK T C K, kk, kv, rf)) p0.toNat = ux_4 from tvW_some hux_4]; show RG _ _ _ _ (if ((inI (O ux_4.b) ux_4 p1.toNat = 1 ∧ inI (O ux_4.b) ux_4 p3.toNat = 1) ∧ ¬ mwN (O ux_4.b) p3.toNat < mwN (O ux_4.b) p1.toNat) then _ else _); rw [if_neg (by omega)]; exact (RG.of (N2 := N + 1) hR hcb (by omega) (by omega)))⟩)
  · refine lv_aload hC.1 hC.2.1 dX3_part_29 (lv_at hl 0 rfl) ?_
    refine lv_iload hC.1 hC.2.1 dX3_part_31 (lv_at hl 5 rfl) ?_
    refine x_callV hC hw (lv_size hl) (c_X1_isWithin l G hkx_5 hvx_5 hBx_6 (show (O ux_4.b) < 3 by first | assumption | omega) hVx_6 (by first | assumption | omega) (by first | assumption | omega) (O := O) (V := V) (t9 := ux_4) (p0 := p3) (by first | assumption | omega) (by omega)) gX3_part_X1_isWithin rfl dv_X1_isWithin hvx_5.1 rfl rfl (Nat.le_of_ble_eq_true rfl) (by rw [hRf]; decide) (by rw [hRl]; decide) (by first | (rw [hRc]; decide) | omega) (by first | (rw [hRs]; decide) | omega) dX3_part_33 (fun r9 M_16 H locs hq hw => ?_)
    obtain ⟨z_17, rfl, hM9, hz_17, hz_17w⟩ := hq
    rw [hM9] at hw
    have hz_17i : z_17 = inI (O ux_4.b) ux_4 (p3).toNat := inI_eq (by omega) hz_17w
    show W p l e R s m args below meth c H locs _ _ _ (F0 m 36 ls [.int (iN (z_17))])
    refine x_if_eq (tgt := 53) hC ⟨by omega, by omega⟩ dX3_part_36 (by decide) (fun c_18 => ?_) (fun c_18 => ?_)
    · refine x_sipush hC dX3_part_53 (by decide +kernel) ?_
      exact vx_ret (x_iret hC hw dX3_part_56 (by first | decide | omega) (by first | decide | omega) ⟨(-20000), rfl, ⟨by omega, by omega⟩, ⟨⟨(by first | omega | trivial), (by first | omega | trivial), (by first | omega | trivial)⟩, ⟨⟨(by first | omega | trivial), (by first | omega | trivial)⟩, ⟨(by first | omega | trivial), (by first | omega | trivial)⟩⟩, (by first | omega | trivial)⟩, (by have m9 := cw_mw (show O ux_4.b < 3 by first | assumption | omega) (show p3.toNat < 100 from tn_lt (by omega) (by decide)) (show p1.toNat < 100 from tn_lt (by omega) (by decide)); have i9 := inI_01 (O ux_4.b) p1.toNat ux_4; have i8 := inI_01 (O ux_4.b) p3.toNat ux_4; rw [A_part, show tvW (ST.W (O, V, Wv, abK T C K, kk, kv, rf)) p0.toNat = ux_4 from tvW_some hux_4]; show _ = (if ((inI (O ux_4.b) ux_4 p1.toNat = 1 ∧ inI (O ux_4.b) ux_4 p3.toNat = 1) ∧ ¬ mwN (O ux_4.b) p3.toNat < mwN (O ux_4.b) p1.toNat) then (frN Wv : Int) else -20000); omega), (by have m9 := cw_mw (show O ux_4.b < 3 by first | assumption | omega) (show p3.toNat < 100 from tn_lt (by omega) (by decide)) (show p1.toNat < 100 from tn_lt (by omega) (by decide)); have i9 := inI_01 (O ux_4.b) p1.toNat ux_4; have i8 := inI_01 (O ux_4.b) p3.toNat ux_4; rw [S_part, show tvW (ST.W (O, V, Wv, abK T C K, kk, kv, rf)) p0.toNat = ux_4 from tvW_some hux_4]; show RG _ _ _ _ (if ((inI (O ux_4.b) ux_4 p1.toNat = 1 ∧ inI (O ux_4.b) ux_4 p3.toNat = 1) ∧ ¬ mwN (O ux_4.b) p3.toNat < mwN (O ux_4.b) p1.toNat) then _ else _); rw [if_neg (by omega)]; exact (RG.of (N2 := N + 1) hR hcb (by omega) (by omega)))⟩)
    · refine lv_aload hC.1 hC.2.1 dX3_part_39 (lv_at hl 0 rfl) ?_
      refine x_callV hC hw (lv_size hl) (c_X1_book l G hvx_5) gX3_part_X1_book rfl dv_X1_book hvx_5.1 rfl rfl (Nat.le_of_ble_eq_true rfl) (by rw [hRf]; decide) (by rw [hRl]; decide) (by first | (rw [hRc]; decide) | omega) (by first | (rw [hRs]; decide) | omega) dX3_part_41 (fun r9 M_19 H locs hq hw => ?_)
      obtain ⟨rfl, hM9⟩ := hq
      rw [hM9] at hw
      show W p l e R s m args below meth c H locs _ _ _ (F0 m 44 ls [.ref (qb ux_4.b)])
      refine lv_iload hC.1 hC.2.1 dX3_part_44 (lv_at hl 5 rfl) ?_
      refine lv_iload_n hC.1 hC.2.1 dX3_part_46 rfl (lv_at hl 3 rfl) ?_
      refine x_callV hC hw (lv_size hl) (c_X0_isAhead l G hBx_6 (show (O ux_4.b) < 3 by first | assumption | omega) hVx_6 (by first | assumption | omega) (by first | assumption | omega) (p0 := p3) (by first | assumption | omega) (p1 := p1) (by first | assumption | omega)) gX3_part_X0_isAhead rfl dv_X0_isAhead hBx_6.1 rfl rfl (Nat.le_of_ble_eq_true rfl) (by rw [hRf]; decide) (by rw [hRl]; decide) (by first | (rw [hRc]; decide) | omega) (by first | (rw [hRs]; decide) | omega) dX3_part_47 (fun r9 M_20 H locs hq hw => ?_)
      obtain ⟨z_21, rfl, hM9, hz_21, hz_21w⟩ := hq
      rw [hM9] at hw
      show W p l e R s m args below meth c H locs _ _ _ (F0 m 50 ls [.int (iN (z_21))])
      refine x_if_eq (tgt := 57) hC ⟨by omega, by omega⟩ dX3_part_50 (by decide) (fun c_22 => ?_) (fun c_22 => ?_)
      · refine lv_aload_n hC.1 hC.2.1 dX3_part_57 rfl (lv_at hl 1 rfl) ?_
        refine x_new (fs := [.null, .int 0, .int 0, .int 0, .int 0, .int 0, .int 0]) (ci := 3) hC hw rfl hinX1 tyX1 tyX1_ok (by decide +kernel) (by decide +kernel) (by decide +kernel) (fun j hj => by rcases (show j = 0 ∨ j = 1 ∨ j = 2 ∨ j = 3 ∨ j = 4 ∨ j = 5 ∨ j = 6 by omega) with rfl | rfl | rfl | rfl | rfl | rfl | rfl <;> rfl) (by omega) (by omega) dX3_part_58 (fun q_23 H hq_26 hw => ?_)
        obtain ⟨M_24, hM_25⟩ : ∃ z, z = va_up M q_23 (some (.inr (3, [.null, .int 0, .int 0, .int 0, .int 0, .int 0, .int 0]))) := ⟨_, rfl⟩
        rw [← hM_25] at hw
        have hx_27 : xExt M M_24 := by rw [hM_25]; exact xExt.new hq_26
        have hf_28 : M_24 q_23 = some (.inr (3, [.null, .int 0, .int 0, .int 0, .int 0, .int 0, .int 0])) := by rw [hM_25, va_up_self]
        have h_29 := hR.ext hx_27
        have h_30 := hBx_6.ext hx_27
        have h_31 : Vw M_24 y_3 (qb ux_4.b) (iN ux_4.lo) (iN ux_4.up) (iN (swN (O ux_4.b) ux_4.lo ux_4.li)) (iN (ewN (O ux_4.b) ux_4.lo ux_4.li ux_4.up ux_4.ui)) ux_4.li ux_4.ui := ⟨hx_27 _ _ hvx_5.1, hvx_5.2⟩
        refine lv_dup hC.1 hC.2.1 dX3_part_61 rfl ?_
        refine lv_aload hC.1 hC.2.1 dX3_part_62 (lv_at hl 0 rfl) ?_
        refine x_callV hC hw (lv_size hl) (c_X1_book l G h_31) gX3_part_X1_book rfl dv_X1_book h_31.1 rfl rfl (Nat.le_of_ble_eq_true rfl) (by rw [hRf]; decide) (by rw [hRl]; decide) (by first | (rw [hRc]; decide) | omega) (by first | (rw [hRs]; decide) | omega) dX3_part_64 (fun r9 M_32 H locs hq hw => ?_)
        obtain ⟨rfl, hM9⟩ := hq
        rw [hM9] at hw
        show W p l e R s m args below meth c H locs _ _ _ (F0 m 67 ls [.ref (qb ux_4.b), .ref q_23, .ref q_23, .ref h0])
        refine lv_iload_n hC.1 hC.2.1 dX3_part_67 rfl (lv_at hl 3 rfl) ?_
        refine lv_iload_n hC.1 hC.2.1 dX3_part_68 rfl (lv_at hl 4 rfl) ?_
        refine lv_iload hC.1 hC.2.1 dX3_part_69 (lv_at hl 5 rfl) ?_
        refine lv_iload hC.1 hC.2.1 dX3_part_71 (lv_at hl 6 rfl) ?_
        refine x_callI hC hw (lv_size hl) (c_X1_init l G hf_28 h_30 (show (O ux_4.b) < 3 by first | assumption | omega) hVx_6 (by first | assumption | omega) (by first | assumption | omega) (p0 := p1) (by first | assumption | omega) (p1 := p2) (by first | assumption | omega) (p2 := p3) (by first | assumption | omega) (p3 := p4) (by first | assumption | omega) (by omega) (by omega) (by omega) (by omega)) gX3_part_X1_init rfl (by decide +kernel) (by decide +kernel) (by decide +kernel) rfl dv_X1_init_s rfl (Nat.le_of_ble_eq_true rfl) (by rw [hRf]; decide) (by rw [hRl]; decide) (by first | (rw [hRc]; decide) | omega) (by first | (rw [hRs]; decide) | omega) dX3_part_73 (fun r9 M_33 H locs hq hw => ?_)
        obtain ⟨rfl, hVk_34, smk_34⟩ := hq
        have hxk_34 : xExt M M_33 := fun a e he => (smk_34 a (fun z => by rw [z, hq_26] at he; cases he)).trans (by rw [hM_25, va_up_ne _ _ (fun z => by rw [z, hq_26] at he; cases he)]; exact he)
        have h_35 := hR.ext hxk_34
        have h_36 := hBx_6.ext hxk_34
        have h_37 : Vw M_33 y_3 (qb ux_4.b) (iN ux_4.lo) (iN ux_4.up) (iN (swN (O ux_4.b) ux_4.lo ux_4.li)) (iN (ewN (O ux_4.b) ux_4.lo ux_4.li ux_4.up ux_4.ui)) ux_4.li ux_4.ui := ⟨hxk_34 _ _ hvx_5.1, hvx_5.2⟩
        show W p l e R s m args below meth c H locs _ _ _ (F0 m 76 ls [.ref q_23, .ref h0])
        refine x_callVX hC hw (lv_size hl) (c_X3_openView l G hst h_35 hcb hN (y := q_23) (u9 := (ux_4.b, p1, p3, p2, p4)) ⟨(⟨htax_5, (show p1 = -10000 ∨ (0 ≤ p1 ∧ p1 ≤ 99) by omega), (show p3 = -10000 ∨ (0 ≤ p3 ∧ p3 ≤ 99) by omega), (show p2 = 0 ∨ p2 = 1 by omega), (show p4 = 0 ∨ p4 = 1 by omega)⟩ : VT.ok (ux_4.b, p1, p3, p2, p4)), hVk_34⟩) gX3_part_X3_openView rfl dv_X3_openView h_35.1 rfl rfl (Nat.le_of_ble_eq_true rfl) (by rw [hRf]; decide) (by rw [hRl]; decide) (by first | (rw [hRc]; decide) | omega) (by first | (rw [hRs]; decide) | omega) dX3_part_76 (fun E ce q9 M_38 H locs hqx hw hcell hcv hcls => ?_) (fun r9 M_38 H locs hq hw => ?_)
        · obtain ⟨hE, hc9⟩ := hqx.1
          replace hqx := hqx.2
          subst hE
          exact x_outX hC hw htab hcell hcv hcls (by first | decide | omega) (by first | decide | omega) ⟨Or.inr (Or.inr (⟨rfl, ⟨⟨(by first | omega | trivial), (by first | omega | trivial), (by first | omega | trivial)⟩, ⟨⟨(by first | omega | trivial), (by first | omega | trivial)⟩, ⟨(by first | omega | trivial), (by first | omega | trivial)⟩⟩, (by first | exact hc9 | omega | trivial)⟩⟩)), (RG.of (N2 := N + 1) hqx hcb (by omega) (by omega))⟩
        obtain ⟨z_40, rfl, hz_40, fvk_39, hRk_39⟩ := hq
        show W p l e R s m args below meth c H locs _ _ _ (F0 m 79 ls [.int (iN (z_40))])
        exact vx_ret (x_iret hC hw dX3_part_79 (by first | decide | omega) (by first | decide | omega) ⟨z_40, rfl, ⟨by omega, by omega⟩, ⟨⟨(by first | omega | trivial), (by first | omega | trivial), (by first | omega | trivial)⟩, ⟨⟨(by first | omega | trivial), (by first | omega | trivial)⟩, ⟨(by first | omega | trivial), (by first | omega | trivial)⟩⟩, (by first | omega | trivial)⟩, (by have m9 := cw_mw (show O ux_4.b < 3 by first | assumption | omega) (show p3.toNat < 100 from tn_lt (by omega) (by decide)) (show p1.toNat < 100 from tn_lt (by omega) (by decide)); have i9 := inI_01 (O ux_4.b) p1.toNat ux_4; have i8 := inI_01 (O ux_4.b) p3.toNat ux_4; rw [A_part, show tvW (ST.W (O, V, Wv, abK T C K, kk, kv, rf)) p0.toNat = ux_4 from tvW_some hux_4]; show _ = (if ((inI (O ux_4.b) ux_4 p1.toNat = 1 ∧ inI (O ux_4.b) ux_4 p3.toNat = 1) ∧ ¬ mwN (O ux_4.b) p3.toNat < mwN (O ux_4.b) p1.toNat) then (frN Wv : Int) else -20000); omega), (by have m9 := cw_mw (show O ux_4.b < 3 by first | assumption | omega) (show p3.toNat < 100 from tn_lt (by omega) (by decide)) (show p1.toNat < 100 from tn_lt (by omega) (by decide)); have i9 := inI_01 (O ux_4.b) p1.toNat ux_4; have i8 := inI_01 (O ux_4.b) p3.toNat ux_4; rw [S_part, show tvW (ST.W (O, V, Wv, abK T C K, kk, kv, rf)) p0.toNat = ux_4 from tvW_some hux_4]; show RG _ _ _ _ (if ((inI (O ux_4.b) ux_4 p1.toNat = 1 ∧ inI (O ux_4.b) ux_4 p3.toNat = 1) ∧ ¬ mwN (O ux_4.b) p3.toNat < mwN (O ux_4.b) p1.toNat) then _ else _); rw [if_pos (by omega)]; exact (RG.of (N2 := N + 1) hRk_39 hcb (by omega) (by omega)))⟩)
      · refine x_sipush hC dX3_part_53 (by decide +kernel) ?_
        exact vx_ret (x_iret hC hw dX3_part_56 (by first | decide | omega) (by first | decide | omega) ⟨(-20000), rfl, ⟨by omega, by omega⟩, ⟨⟨(by first | omega | trivial), (by first | omega | trivial), (by first | omega | trivial)⟩, ⟨⟨(by first | omega | trivial), (by first | omega | trivial)⟩, ⟨(by first | omega | trivial), (by first | omega | trivial)⟩⟩, (by first | omega | trivial)⟩, (by have m9 := cw_mw (show O ux_4.b < 3 by first | assumption | omega) (show p3.toNat < 100 from tn_lt (by omega) (by decide)) (show p1.toNat < 100 from tn_lt (by omega) (by decide)); have i9 := inI_01 (O ux_4.b) p1.toNat ux_4; have i8 := inI_01 (O ux_4.b) p3.toNat ux_4; rw [A_part, show tvW (ST.W (O, V, Wv, abK T C K, kk, kv, rf)) p0.toNat = ux_4 from tvW_some hux_4]; show _ = (if ((inI (O ux_4.b) ux_4 p1.toNat = 1 ∧ inI (O ux_4.b) ux_4 p3.toNat = 1) ∧ ¬ mwN (O ux_4.b) p3.toNat < mwN (O ux_4.b) p1.toNat) then (frN Wv : Int) else -20000); omega), (by have m9 := cw_mw (show O ux_4.b < 3 by first | assumption | omega) (show p3.toNat < 100 from tn_lt (by omega) (by decide)) (show p1.toNat < 100 from tn_lt (by omega) (by decide)); have i9 := inI_01 (O ux_4.b) p1.toNat ux_4; have i8 := inI_01 (O ux_4.b) p3.toNat ux_4; rw [S_part, show tvW (ST.W (O, V, Wv, abK T C K, kk, kv, rf)) p0.toNat = ux_4 from tvW_some hux_4]; show RG _ _ _ _ (if ((inI (O ux_4.b) ux_4 p1.toNat = 1 ∧ inI (O ux_4.b) ux_4 p3.toNat = 1) ∧ ¬ mwN (O ux_4.b) p3.toNat < mwN (O ux_4.b) p1.toNat) then _ else _); rw [if_neg (by omega)]; exact (RG.of (N2 := N + 1) hR hcb (by omega) (by omega)))⟩)
set_option maxHeartbeats 4000000 in
set_option maxRecDepth 100000 in
theorem c_X3_shut (l : Launch) (G : xG) {M : HM} (hst : l.stackTraces = false) {h0 bs vs : Nat} {og : Option Nat} {kk kv rf : Int32} {qb qk qv : Nat → Nat} {fb fv : Nat → Option Nat} {O : OW} {Wv : VW} {V : BW} {T C : Nat → Int} {K : WA} {N : Int} (hR : RGx G M h0 bs vs og kk kv rf qb qk qv fb fv O O Wv V T C K) (hcb : cbN N T C) (hN : N ≤ 590) {p0 : Int} (hp0 : -2147483648 ≤ p0 ∧ p0 ≤ 2147483647) : xMetX l G yX3_shut wsX3_shut 7 111 1 6 [.ref h0, .int (iN (p0))] M (fun r M1 => ∃ z : Int, r = some (.int (iN z)) ∧ (-2147483648 ≤ z ∧ z ≤ 2147483647) ∧ ((0 ≤ p0 ∧ p0 ≤ 3 ∧ opN (Wv p0.toNat) = 1)) ∧ z = A_shut (O, V, Wv, abK T C K, kk, kv, rf) p0 ∧ RG G M1 h0 (N + 1) (S_shut (O, V, Wv, abK T C K, kk, kv, rf) p0)) (fun E M1 => ((E = xIO ∧ ¬ (0 ≤ p0 ∧ p0 ≤ 3 ∧ opN (Wv p0.toNat) = 1))) ∧ RG G M1 h0 (N + 1) (O, V, Wv, abK T C K, kk, kv, rf)) := by
  refine x_introX (cc := cX3_shut) (maxL := 3) (ret := (some .int)) (by exact pln_RX3) rfl (Nat.le_of_ble_eq_true rfl) ?_
  intro p e R s m args below meth c ls hRf hRc hRs hRl htab hC hw hl
  have hinX3 : ∀ w ∈ wsX30, w ∈ wsX3_shut := fun w h => (List.mem_cons_of_mem _ (List.mem_append_left _ (List.mem_append_left _ (List.mem_append_left _ (List.mem_append_right _ h)))))
  have hl : lv_has ls 3 [(0, .ref h0), (1, .int (iN (p0)))] := hl
  refine lv_aload_n hC.1 hC.2.1 dX3_shut_0 rfl (lv_at hl 0 rfl) ?_
  refine lv_iload_n hC.1 hC.2.1 dX3_shut_1 rfl (lv_at hl 1 rfl) ?_
  refine x_callVX hC hw (lv_size hl) (c_X3_viewAt l G hst hR hcb hN (p0 := p0) (by first | assumption | omega)) gX3_shut_X3_viewAt rfl dv_X3_viewAt hR.1 rfl rfl (Nat.le_of_ble_eq_true rfl) (by rw [hRf]; decide) (by rw [hRl]; decide) (by first | (rw [hRc]; decide) | omega) (by first | (rw [hRs]; decide) | omega) dX3_shut_2 (fun E ce q9 M_1 H locs hqx hw hcell hcv hcls => ?_) (fun r9 M_1 H locs hq hw => ?_)
  · rw [hqx.2] at hw
    obtain ⟨hE, hc9⟩ := hqx.1
    replace hqx := hqx.2
    subst hE
    exact x_outX hC hw htab hcell hcv hcls (by first | decide | omega) (by first | decide | omega) ⟨⟨rfl, (by first | exact hc9 | omega | trivial)⟩, (RG.of (N2 := N + 1) hR hcb (by omega) (by omega))⟩
  obtain ⟨y_3, rfl, hM9, hk_2, hk_2b, hyk_2⟩ := hq
  rw [hM9] at hw
  obtain ⟨ux_4, hux_4, hTx_4⟩ := (hR.vwo (show (p0).toNat < 4 from tn_lt (by omega) (by decide))).yes hyk_2
  have hpx_4 := opN_some hux_4
  have hkx_5 := hTx_4.1
  have hvx_5 := hTx_4.2
  have hlix_5 := hvx_5.2.1
  have huix_5 := hvx_5.2.2
  obtain ⟨htax_5, htbx_5, htcx_5, htdx_5, htex_5⟩ := id hkx_5
  obtain ⟨szx_6, fkx_6, fwx_6, hBx_6, hVx_6⟩ := hR.bk htax_5
  obtain ⟨-, -, -, -, hsax_6, hsbx_6⟩ := id hBx_6
  have holx_6 := hR.ol htax_5
  have hctx_6 := hcb.2 _ htax_5
  show W p l e R s m args below meth c H locs _ _ _ (F0 m 5 ls [.ref y_3])
  refine x_callV hC hw (lv_size hl) (c_X1_size l G hkx_5 hvx_5 hBx_6 (show (O ux_4.b) < 3 by first | assumption | omega) hVx_6 (by first | assumption | omega) (by first | assumption | omega) (O := O) (V := V) (t9 := ux_4)) gX3_shut_X1_size rfl dv_X1_size hvx_5.1 rfl rfl (Nat.le_of_ble_eq_true rfl) (by rw [hRf]; decide) (by rw [hRl]; decide) (by first | (rw [hRc]; decide) | omega) (by first | (rw [hRs]; decide) | omega) dX3_shut_5 (fun r9 M_7 H locs hq hw => ?_)
  obtain ⟨z_8, rfl, hM9, hz_8, hz_8m⟩ := hq
  rw [hM9] at hw
  show W p l e R s m args below meth c H locs _ _ _ (F0 m 8 ls [.int (iN (z_8))])
  refine lv_istore_n (lv' := [(2, .int (iN (z_8))), (0, .ref h0), (1, .int (iN (p0)))]) hC.1 hC.2.1 dX3_shut_8 rfl hl (by decide) rfl (fun ls hl => ?_)
  refine lv_aload_n hC.1 hC.2.1 dX3_shut_9 rfl (lv_at hl 1 rfl) ?_
  refine x_get hC hw hR.1 rfl hinX3 1 (by decide) (List.mem_cons_of_mem _ (List.mem_append_left _ (List.mem_append_left _ (List.mem_append_left _ (List.mem_append_left _ (List.mem_append_left _ (List.mem_of_getElem? (i := 0) rfl))))))) rfl dX3_shut_10 ?_
  refine lv_iload_n hC.1 hC.2.1 dX3_shut_13 rfl (lv_at hl 2 rfl) ?_
  refine lv_null hC.1 hC.2.1 dX3_shut_14 ?_
  refine x_astqN hC hw 3 hR.2.2.1 rfl (by omega) (by omega) (by omega) dX3_shut_15 (fun H locs hw => ?_)
  obtain ⟨M_9, hM_10⟩ : ∃ z, z = va_up M vs (some (.inl (G.2 3, 4, .inr (.inr (.inr (.inr (va_up fv (p0).toNat none))))))) := ⟨_, rfl⟩
  rw [← hM_10] at hw
  have hR_11 : RGx G M_9 h0 bs vs og kk kv rf qb qk qv fb (va_up fv (p0).toNat none) O O (upW Wv (p0).toNat none) V T C K := hR.views hM_10 (fun j9 hj => by by_cases e9 : j9 = (p0).toNat; (· subst e9; rw [va_up_self, upW_s]; exact trivial); (· rw [va_up_ne _ _ e9, upW_n _ _ e9]; exact hR.vwo hj))
  refine lv_iload_n hC.1 hC.2.1 dX3_shut_16 rfl (lv_at hl 0 rfl) ?_
  exact vx_ret (x_iret hC hw dX3_shut_17 (by first | decide | omega) (by first | decide | omega) ⟨z_8, rfl, ⟨by omega, by omega⟩, ⟨(by first | omega | trivial), (by first | omega | trivial), (by first | omega | trivial)⟩, (by rw [A_shut, show tvW (ST.W (O, V, Wv, abK T C K, kk, kv, rf)) p0.toNat = ux_4 from tvW_some hux_4]; exact hz_8m), (RG.of (N2 := N + 1) hR_11 hcb (by omega) (by omega))⟩)
set_option maxHeartbeats 4000000 in
set_option maxRecDepth 100000 in
theorem c_X3_viewPut (l : Launch) (G : xG) {M : HM} (hst : l.stackTraces = false) {h0 bs vs : Nat} {og : Option Nat} {kk kv rf : Int32} {qb qk qv : Nat → Nat} {fb fv : Nat → Option Nat} {O : OW} {Wv : VW} {V : BW} {T C : Nat → Int} {K : WA} {N : Int} (hR : RGx G M h0 bs vs og kk kv rf qb qk qv fb fv O O Wv V T C K) (hcb : cbN N T C) (hN : N ≤ 590) {p0 : Int} (hp0 : -2147483648 ≤ p0 ∧ p0 ≤ 2147483647) {p1 : Int} (hp1 : -2147483648 ≤ p1 ∧ p1 ≤ 2147483647) {p2 : Int} (hp2 : -2147483648 ≤ p2 ∧ p2 ≤ 2147483647) : xMetX l G yX3_viewPut wsX3_viewPut 8 135 3 18 [.ref h0, .int (iN (p0)), .int (iN (p1)), .int (iN (p2))] M (fun r M1 => ∃ z : Int, r = some (.int (iN z)) ∧ (-2147483648 ≤ z ∧ z ≤ 2147483647) ∧ ((0 ≤ p0 ∧ p0 ≤ 3 ∧ opN (Wv p0.toNat) = 1) ∧ ((0 ≤ p1 ∧ p1 ≤ 99) ∧ (-9999 ≤ p2 ∧ p2 ≤ 9999))) ∧ z = A_viewPut (O, V, Wv, abK T C K, kk, kv, rf) p0 p1 p2 ∧ RG G M1 h0 (N + 1) (S_viewPut (O, V, Wv, abK T C K, kk, kv, rf) p0 p1 p2)) (fun E M1 => ((E = xIO ∧ ¬ (0 ≤ p0 ∧ p0 ≤ 3 ∧ opN (Wv p0.toNat) = 1)) ∨ (E = xIA ∧ (0 ≤ p0 ∧ p0 ≤ 3 ∧ opN (Wv p0.toNat) = 1) ∧ ¬ ((0 ≤ p1 ∧ p1 ≤ 99) ∧ (-9999 ≤ p2 ∧ p2 ≤ 9999)))) ∧ RG G M1 h0 (N + 1) (O, V, Wv, abK T C K, kk, kv, rf)) := by
  refine x_introX (cc := cX3_viewPut) (maxL := 5) (ret := (some .int)) (by exact pln_RX3) rfl (Nat.le_of_ble_eq_true rfl) ?_
  intro p e R s m args below meth c ls hRf hRc hRs hRl htab hC hw hl
  have hl : lv_has ls 5 [(0, .ref h0), (1, .int (iN (p0))), (2, .int (iN (p1))), (3, .int (iN (p2)))] := hl
  refine lv_aload_n hC.1 hC.2.1 dX3_viewPut_0 rfl (lv_at hl 0 rfl) ?_
  refine lv_iload_n hC.1 hC.2.1 dX3_viewPut_1 rfl (lv_at hl 1 rfl) ?_
  refine lv_iload_n hC.1 hC.2.1 dX3_viewPut_2 rfl (lv_at hl 2 rfl) ?_
  refine lv_iload_n hC.1 hC.2.1 dX3_viewPut_3 rfl (lv_at hl 3 rfl) ?_
  refine x_callVX hC hw (lv_size hl) (c_X3_viewToWritePair l G hst hR hcb hN (p0 := p0) (by first | assumption | omega) (p1 := p1) (by first | assumption | omega) (p2 := p2) (by first | assumption | omega)) gX3_viewPut_X3_viewToWritePair rfl dv_X3_viewToWritePair hR.1 rfl rfl (Nat.le_of_ble_eq_true rfl) (by rw [hRf]; decide) (by rw [hRl]; decide) (by first | (rw [hRc]; decide) | omega) (by first | (rw [hRs]; decide) | omega) dX3_viewPut_4 (fun E ce q9 M_1 H locs hqx hw hcell hcv hcls => ?_) (fun r9 M_1 H locs hq hw => ?_)
  · rcases hqx with ⟨⟨hE, hc9⟩ | ⟨hE, hc9⟩, hqx⟩
    · subst hE
      exact x_outX hC hw htab hcell hcv hcls (by first | decide | omega) (by first | decide | omega) ⟨Or.inl ⟨rfl, (by first | exact hc9 | omega | trivial)⟩, (RG.of (N2 := N + 1) hqx hcb (by omega) (by omega))⟩
    · subst hE
      exact x_outX hC hw htab hcell hcv hcls (by first | decide | omega) (by first | decide | omega) ⟨Or.inr (⟨rfl, ⟨⟨(by first | omega | trivial), (by first | omega | trivial), (by first | omega | trivial)⟩, (by first | exact hc9 | omega | trivial)⟩⟩), (RG.of (N2 := N + 1) hqx hcb (by omega) (by omega))⟩
  obtain ⟨y_3, uk_2, rfl, huk_2, hTk_2, hRk_2, hk_2, hk_2c, hk_2d⟩ := hq
  have hpk_2 := opN_some huk_2
  have hkx_4 := hTk_2.1
  have hvx_4 := hTk_2.2
  have hlix_4 := hvx_4.2.1
  have huix_4 := hvx_4.2.2
  obtain ⟨htax_4, htbx_4, htcx_4, htdx_4, htex_4⟩ := id hkx_4
  obtain ⟨szx_5, fkx_5, fwx_5, hBx_5, hVx_5⟩ := hRk_2.bk htax_4
  rw [upV_s] at hBx_5
  obtain ⟨-, -, -, -, hsax_5, hsbx_5⟩ := id hBx_5
  have holx_5 := hRk_2.ol htax_4
  have hctx_5 := hcb.2 _ htax_4
  show W p l e R s m args below meth c H locs _ _ _ (F0 m 7 ls [.ref y_3])
  refine lv_astore (lv' := [(4, .ref y_3), (0, .ref h0), (1, .int (iN (p0))), (2, .int (iN (p1))), (3, .int (iN (p2)))]) hC.1 hC.2.1 dX3_viewPut_7 hl (by decide) rfl (fun ls hl => ?_)
  refine lv_aload hC.1 hC.2.1 dX3_viewPut_9 (lv_at hl 0 rfl) ?_
  refine lv_iload_n hC.1 hC.2.1 dX3_viewPut_11 rfl (lv_at hl 3 rfl) ?_
  refine x_callV hC hw (lv_size hl) (c_X1_isWithin l G hkx_4 hvx_4 hBx_5 (show (O uk_2.b) < 3 by first | assumption | omega) hVx_5 (by first | assumption | omega) (by first | assumption | omega) (O := O) (V := V) (t9 := uk_2) (p0 := p1) (by first | assumption | omega) (by omega)) gX3_viewPut_X1_isWithin rfl dv_X1_isWithin hvx_4.1 rfl rfl (Nat.le_of_ble_eq_true rfl) (by rw [hRf]; decide) (by rw [hRl]; decide) (by first | (rw [hRc]; decide) | omega) (by first | (rw [hRs]; decide) | omega) dX3_viewPut_12 (fun r9 M_6 H locs hq hw => ?_)
  obtain ⟨z_7, rfl, hM9, hz_7, hz_7w⟩ := hq
  rw [hM9] at hw
  have hz_7i : z_7 = inI (O uk_2.b) uk_2 (p1).toNat := inI_eq (by omega) hz_7w
  show W p l e R s m args below meth c H locs _ _ _ (F0 m 15 ls [.int (iN (z_7))])
  refine x_if_eq (tgt := 31) hC ⟨by omega, by omega⟩ dX3_viewPut_15 (by decide) (fun c_8 => ?_) (fun c_8 => ?_)
  · refine x_sipush hC dX3_viewPut_31 (by decide +kernel) ?_
    exact vx_ret (x_iret hC hw dX3_viewPut_34 (by first | decide | omega) (by first | decide | omega) ⟨(-20000), rfl, ⟨by omega, by omega⟩, ⟨⟨(by first | omega | trivial), (by first | omega | trivial), (by first | omega | trivial)⟩, ⟨⟨(by first | omega | trivial), (by first | omega | trivial)⟩, ⟨(by first | omega | trivial), (by first | omega | trivial)⟩⟩⟩, (by have i9 := inI_01 (O uk_2.b) (p1).toNat uk_2; rw [A_viewPut, (wiB_eq (s := (O, V, Wv, abK T C K, kk, kv, rf)) (p0 := p0) (p1 := p1) huk_2), (vwV_eq (s := (O, V, Wv, abK T C K, kk, kv, rf)) (p0 := p0) (p1 := p1) huk_2)]; show _ = (if inI (O uk_2.b) uk_2 (p1).toNat = 1 then (V uk_2.b (p1).toNat) else -20000); omega), (by rw [S_viewPut, vwS_eq (s := (O, V, Wv, abK T C K, kk, kv, rf)) huk_2 (by rw [(wiB_eq (s := (O, V, Wv, abK T C K, kk, kv, rf)) (p0 := p0) (p1 := p1) huk_2), (vwV_eq (s := (O, V, Wv, abK T C K, kk, kv, rf)) (p0 := p0) (p1 := p1) huk_2)])]; exact RG.mut0 hR.wg hRk_2 (by omega) hcb (by omega) (upV_self (show (V uk_2.b (p1).toNat) = (if inI (O uk_2.b) uk_2 (p1).toNat = 1 then p2 else (V uk_2.b (p1).toNat)) by have i9 := inI_01 (O uk_2.b) (p1).toNat uk_2; first | rfl | omega | ((repeat' split) <;> first | rfl | omega))).symm)⟩)
  · refine lv_aload hC.1 hC.2.1 dX3_viewPut_18 (lv_at hl 0 rfl) ?_
    refine x_callV hC hw (lv_size hl) (c_X1_book l G hvx_4) gX3_viewPut_X1_book rfl dv_X1_book hvx_4.1 rfl rfl (Nat.le_of_ble_eq_true rfl) (by rw [hRf]; decide) (by rw [hRl]; decide) (by first | (rw [hRc]; decide) | omega) (by first | (rw [hRs]; decide) | omega) dX3_viewPut_20 (fun r9 M_9 H locs hq hw => ?_)
    obtain ⟨rfl, hM9⟩ := hq
    rw [hM9] at hw
    show W p l e R s m args below meth c H locs _ _ _ (F0 m 23 ls [.ref (qb uk_2.b)])
    refine lv_iload_n hC.1 hC.2.1 dX3_viewPut_23 rfl (lv_at hl 3 rfl) ?_
    refine lv_iload_n hC.1 hC.2.1 dX3_viewPut_24 rfl (lv_at hl 4 rfl) ?_
    refine x_callV hC hw (lv_size hl) (c_X0_enter l G hBx_5 (show (O uk_2.b) < 3 by first | assumption | omega) hVx_5 (by first | assumption | omega) (by first | assumption | omega) (p0 := p1) (by first | assumption | omega) (p1 := p2) (by first | assumption | omega) (by omega) (by omega)) gX3_viewPut_X0_enter rfl dv_X0_enter hBx_5.1 rfl rfl (Nat.le_of_ble_eq_true rfl) (by rw [hRf]; decide) (by rw [hRl]; decide) (by first | (rw [hRc]; decide) | omega) (by first | (rw [hRs]; decide) | omega) dX3_viewPut_25 (fun r9 M_10 H locs hq hw => ?_)
    obtain ⟨z_12, rfl, hz_12, hz_12v, kcu_11, szu_11, fku_11, fvu_11, hBu_11, smu_11, hVu_11, hksu_11, hka1u_11, hkb1u_11⟩ := hq
    obtain ⟨-, -, -, -, hsau_11, hsbu_11⟩ := id hBu_11
    obtain ⟨hkau_11, hkbu_11, -⟩ := id hksu_11
    have sm_13 := (xSm.rf (M := M_1) (b := (qb uk_2.b)) (k := (qk uk_2.b)) (v := (qv uk_2.b))).tr (smu_11)
    have h_14 := hRk_2.book htax_4 hBx_5 hBu_11 hVu_11 smu_11 (by first | omega | (rw [upV_s]; omega)) (by first | omega | (rw [upV_s]; omega))
    rw [show (upV (upV T uk_2.b (T uk_2.b + 1)) uk_2.b (T uk_2.b + 1)) = (upV T uk_2.b (T uk_2.b + 1)) from upV_upV] at h_14
    have h_15 : Vw _ y_3 (qb uk_2.b) (iN uk_2.lo) (iN uk_2.up) (iN (swN (O uk_2.b) uk_2.lo uk_2.li)) (iN (ewN (O uk_2.b) uk_2.lo uk_2.li uk_2.up uk_2.ui)) uk_2.li uk_2.ui := And.intro (x_kB hBx_5 smu_11 (by decide) hvx_4.1) hvx_4.2
    show W p l e R s m args below meth c H locs _ _ _ (F0 m 28 ls [.int (iN (z_12))])
    refine lv_goto (tgt := 34) hC.1 hC.2.1 dX3_viewPut_28 (by decide) ?_
    exact vx_ret (x_iret hC hw dX3_viewPut_34 (by first | decide | omega) (by first | decide | omega) ⟨z_12, rfl, ⟨by omega, by omega⟩, ⟨⟨(by first | omega | trivial), (by first | omega | trivial), (by first | omega | trivial)⟩, ⟨⟨(by first | omega | trivial), (by first | omega | trivial)⟩, ⟨(by first | omega | trivial), (by first | omega | trivial)⟩⟩⟩, (by have i9 := inI_01 (O uk_2.b) (p1).toNat uk_2; rw [A_viewPut, (wiB_eq (s := (O, V, Wv, abK T C K, kk, kv, rf)) (p0 := p0) (p1 := p1) huk_2), (vwV_eq (s := (O, V, Wv, abK T C K, kk, kv, rf)) (p0 := p0) (p1 := p1) huk_2)]; show _ = (if inI (O uk_2.b) uk_2 (p1).toNat = 1 then (V uk_2.b (p1).toNat) else -20000); omega), (by rw [S_viewPut, vwS_eq (s := (O, V, Wv, abK T C K, kk, kv, rf)) huk_2 (by rw [(wiB_eq (s := (O, V, Wv, abK T C K, kk, kv, rf)) (p0 := p0) (p1 := p1) huk_2), (vwV_eq (s := (O, V, Wv, abK T C K, kk, kv, rf)) (p0 := p0) (p1 := p1) huk_2)])]; exact RG.mut hR.wg h_14 (by omega) hksu_11 (by omega) hcb (by omega) (congrArg (upV (V uk_2.b) (p1).toNat) (show p2 = (if inI (O uk_2.b) uk_2 (p1).toNat = 1 then p2 else (V uk_2.b (p1).toNat)) by have i9 := inI_01 (O uk_2.b) (p1).toNat uk_2; first | rfl | omega | ((repeat' split) <;> first | rfl | omega))))⟩)
set_option maxHeartbeats 4000000 in
set_option maxRecDepth 100000 in
theorem c_X3_viewStrike (l : Launch) (G : xG) {M : HM} (hst : l.stackTraces = false) {h0 bs vs : Nat} {og : Option Nat} {kk kv rf : Int32} {qb qk qv : Nat → Nat} {fb fv : Nat → Option Nat} {O : OW} {Wv : VW} {V : BW} {T C : Nat → Int} {K : WA} {N : Int} (hR : RGx G M h0 bs vs og kk kv rf qb qk qv fb fv O O Wv V T C K) (hcb : cbN N T C) (hN : N ≤ 590) {p0 : Int} (hp0 : -2147483648 ≤ p0 ∧ p0 ≤ 2147483647) {p1 : Int} (hp1 : -2147483648 ≤ p1 ∧ p1 ≤ 2147483647) : xMetX l G yX3_viewStrike wsX3_viewStrike 7 111 2 12 [.ref h0, .int (iN (p0)), .int (iN (p1))] M (fun r M1 => ∃ z : Int, r = some (.int (iN z)) ∧ (-2147483648 ≤ z ∧ z ≤ 2147483647) ∧ ((0 ≤ p0 ∧ p0 ≤ 3 ∧ opN (Wv p0.toNat) = 1) ∧ (0 ≤ p1 ∧ p1 ≤ 99)) ∧ z = A_viewStrike (O, V, Wv, abK T C K, kk, kv, rf) p0 p1 ∧ RG G M1 h0 (N + 1) (S_viewStrike (O, V, Wv, abK T C K, kk, kv, rf) p0 p1)) (fun E M1 => ((E = xIO ∧ ¬ (0 ≤ p0 ∧ p0 ≤ 3 ∧ opN (Wv p0.toNat) = 1)) ∨ (E = xIA ∧ (0 ≤ p0 ∧ p0 ≤ 3 ∧ opN (Wv p0.toNat) = 1) ∧ ¬ (0 ≤ p1 ∧ p1 ≤ 99))) ∧ RG G M1 h0 (N + 1) (O, V, Wv, abK T C K, kk, kv, rf)) := by
  refine x_introX (cc := cX3_viewStrike) (maxL := 4) (ret := (some .int)) (by exact pln_RX3) rfl (Nat.le_of_ble_eq_true rfl) ?_
  intro p e R s m args below meth c ls hRf hRc hRs hRl htab hC hw hl
  have hl : lv_has ls 4 [(0, .ref h0), (1, .int (iN (p0))), (2, .int (iN (p1)))] := hl
  refine lv_aload_n hC.1 hC.2.1 dX3_viewStrike_0 rfl (lv_at hl 0 rfl) ?_
  refine lv_iload_n hC.1 hC.2.1 dX3_viewStrike_1 rfl (lv_at hl 1 rfl) ?_
  refine x_callVX hC hw (lv_size hl) (c_X3_viewAt l G hst hR hcb hN (p0 := p0) (by first | assumption | omega)) gX3_viewStrike_X3_viewAt rfl dv_X3_viewAt hR.1 rfl rfl (Nat.le_of_ble_eq_true rfl) (by rw [hRf]; decide) (by rw [hRl]; decide) (by first | (rw [hRc]; decide) | omega) (by first | (rw [hRs]; decide) | omega) dX3_viewStrike_2 (fun E ce q9 M_1 H locs hqx hw hcell hcv hcls => ?_) (fun r9 M_1 H locs hq hw => ?_)
  · rw [hqx.2] at hw
    obtain ⟨hE, hc9⟩ := hqx.1
    replace hqx := hqx.2
    subst hE
    exact x_outX hC hw htab hcell hcv hcls (by first | decide | omega) (by first | decide | omega) ⟨Or.inl ⟨rfl, (by first | exact hc9 | omega | trivial)⟩, (RG.of (N2 := N + 1) hR hcb (by omega) (by omega))⟩
  obtain ⟨y_3, rfl, hM9, hk_2, hk_2b, hyk_2⟩ := hq
  rw [hM9] at hw
  obtain ⟨ux_4, hux_4, hTx_4⟩ := (hR.vwo (show (p0).toNat < 4 from tn_lt (by omega) (by decide))).yes hyk_2
  have hpx_4 := opN_some hux_4
  have hkx_5 := hTx_4.1
  have hvx_5 := hTx_4.2
  have hlix_5 := hvx_5.2.1
  have huix_5 := hvx_5.2.2
  obtain ⟨htax_5, htbx_5, htcx_5, htdx_5, htex_5⟩ := id hkx_5
  obtain ⟨szx_6, fkx_6, fwx_6, hBx_6, hVx_6⟩ := hR.bk htax_5
  obtain ⟨-, -, -, -, hsax_6, hsbx_6⟩ := id hBx_6
  have holx_6 := hR.ol htax_5
  have hctx_6 := hcb.2 _ htax_5
  show W p l e R s m args below meth c H locs _ _ _ (F0 m 5 ls [.ref y_3])
  refine lv_astore_n (lv' := [(3, .ref y_3), (0, .ref h0), (1, .int (iN (p0))), (2, .int (iN (p1)))]) hC.1 hC.2.1 dX3_viewStrike_5 rfl hl (by decide) rfl (fun ls hl => ?_)
  refine lv_iload_n hC.1 hC.2.1 dX3_viewStrike_6 rfl (lv_at hl 3 rfl) ?_
  refine x_callSX hC hw (lv_size hl) (c_X3_checkKey l G (M := M) hst (p0 := p1) (by first | assumption | omega)) gX3_viewStrike_X3_checkKey rfl dv_X3_checkKey_s rfl (Nat.le_of_ble_eq_true rfl) (by rw [hRf]; decide) (by rw [hRl]; decide) (by first | (rw [hRc]; decide) | omega) (by first | (rw [hRs]; decide) | omega) dX3_viewStrike_7 (fun E ce q9 M_7 H locs hqx hw hcell hcv hcls => ?_) (fun r9 M_7 H locs hq hw => ?_)
  · rw [hqx.2] at hw
    obtain ⟨hE, hc9⟩ := hqx.1
    replace hqx := hqx.2
    subst hE
    exact x_outX hC hw htab hcell hcv hcls (by first | decide | omega) (by first | decide | omega) ⟨Or.inr (⟨rfl, ⟨⟨(by first | omega | trivial), (by first | omega | trivial), (by first | omega | trivial)⟩, (by first | exact hc9 | omega | trivial)⟩⟩), (RG.of (N2 := N + 1) hR hcb (by omega) (by omega))⟩
  obtain ⟨rfl, hM9, hk_8⟩ := hq
  rw [hM9] at hw
  show W p l e R s m args below meth c H locs _ _ _ (F0 m 10 ls [])
  refine lv_aload_n hC.1 hC.2.1 dX3_viewStrike_10 rfl (lv_at hl 0 rfl) ?_
  refine x_callV hC hw (lv_size hl) (c_X1_book l G hvx_5) gX3_viewStrike_X1_book rfl dv_X1_book hvx_5.1 rfl rfl (Nat.le_of_ble_eq_true rfl) (by rw [hRf]; decide) (by rw [hRl]; decide) (by first | (rw [hRc]; decide) | omega) (by first | (rw [hRs]; decide) | omega) dX3_viewStrike_11 (fun r9 M_9 H locs hq hw => ?_)
  obtain ⟨rfl, hM9⟩ := hq
  rw [hM9] at hw
  show W p l e R s m args below meth c H locs _ _ _ (F0 m 14 ls [.ref (qb ux_4.b)])
  refine x_callV hC hw (lv_size hl) (c_X0_touch l G hBx_6 (show (O ux_4.b) < 3 by first | assumption | omega) hVx_6 (by first | assumption | omega) (by first | assumption | omega)) gX3_viewStrike_X0_touch rfl dv_X0_touch hBx_6.1 rfl rfl (Nat.le_of_ble_eq_true rfl) (by rw [hRf]; decide) (by rw [hRl]; decide) (by first | (rw [hRc]; decide) | omega) (by first | (rw [hRs]; decide) | omega) dX3_viewStrike_14 (fun r9 M_10 H locs hq hw => ?_)
  obtain ⟨rfl, hBu_11, smu_11⟩ := hq
  have sm_12 := (xSm.rf (M := M) (b := (qb ux_4.b)) (k := (qk ux_4.b)) (v := (qv ux_4.b))).tr (smu_11)
  have h_13 := hR.book htax_5 hBx_6 hBu_11 hVx_6 smu_11 (by first | omega | (rw [upV_s]; omega)) (by first | omega | (rw [upV_s]; omega))
  rw [show (upB V ux_4.b (V ux_4.b)) = V from upB_self rfl, show (upV C ux_4.b (C ux_4.b)) = C from upV_same _ _] at h_13
  have h_14 : Vw _ y_3 (qb ux_4.b) (iN ux_4.lo) (iN ux_4.up) (iN (swN (O ux_4.b) ux_4.lo ux_4.li)) (iN (ewN (O ux_4.b) ux_4.lo ux_4.li ux_4.up ux_4.ui)) ux_4.li ux_4.ui := And.intro (x_kB hBx_6 smu_11 (by decide) hvx_5.1) hvx_5.2
  show W p l e R s m args below meth c H locs _ _ _ (F0 m 17 ls [])
  refine lv_aload_n hC.1 hC.2.1 dX3_viewStrike_17 rfl (lv_at hl 0 rfl) ?_
  refine lv_iload_n hC.1 hC.2.1 dX3_viewStrike_18 rfl (lv_at hl 3 rfl) ?_
  refine x_callV hC hw (lv_size hl) (c_X1_isWithin l G hkx_5 h_14 hBu_11 (show (O ux_4.b) < 3 by first | assumption | omega) hVx_6 (by first | assumption | omega) (by first | assumption | omega) (O := O) (V := V) (t9 := ux_4) (p0 := p1) (by first | assumption | omega) (by omega)) gX3_viewStrike_X1_isWithin rfl dv_X1_isWithin h_14.1 rfl rfl (Nat.le_of_ble_eq_true rfl) (by rw [hRf]; decide) (by rw [hRl]; decide) (by first | (rw [hRc]; decide) | omega) (by first | (rw [hRs]; decide) | omega) dX3_viewStrike_19 (fun r9 M_16 H locs hq hw => ?_)
  obtain ⟨z_17, rfl, hM9, hz_17, hz_17w⟩ := hq
  rw [hM9] at hw
  have hz_17i : z_17 = inI (O ux_4.b) ux_4 (p1).toNat := inI_eq (by omega) hz_17w
  show W p l e R s m args below meth c H locs _ _ _ (F0 m 22 ls [.int (iN (z_17))])
  refine x_if_eq (tgt := 36) hC ⟨by omega, by omega⟩ dX3_viewStrike_22 (by decide) (fun c_18 => ?_) (fun c_18 => ?_)
  · refine x_sipush hC dX3_viewStrike_36 (by decide +kernel) ?_
    exact vx_ret (x_iret hC hw dX3_viewStrike_39 (by first | decide | omega) (by first | decide | omega) ⟨(-10000), rfl, ⟨by omega, by omega⟩, ⟨⟨(by first | omega | trivial), (by first | omega | trivial), (by first | omega | trivial)⟩, ⟨(by first | omega | trivial), (by first | omega | trivial)⟩⟩, (by have i9 := inI_01 (O ux_4.b) (p1).toNat ux_4; rw [A_viewStrike, (wiB_eq (s := (O, V, Wv, abK T C K, kk, kv, rf)) (p0 := p0) (p1 := p1) hux_4), (vwV_eq (s := (O, V, Wv, abK T C K, kk, kv, rf)) (p0 := p0) (p1 := p1) hux_4)]; show _ = (if inI (O ux_4.b) ux_4 (p1).toNat = 1 then (V ux_4.b (p1).toNat) else -10000); omega), (by rw [S_viewStrike, vwS_eq (s := (O, V, Wv, abK T C K, kk, kv, rf)) hux_4 (by rw [(wiB_eq (s := (O, V, Wv, abK T C K, kk, kv, rf)) (p0 := p0) (p1 := p1) hux_4), (vwV_eq (s := (O, V, Wv, abK T C K, kk, kv, rf)) (p0 := p0) (p1 := p1) hux_4)])]; exact RG.mut0 hR.wg h_13 (by omega) hcb (by omega) (upV_self (show (V ux_4.b (p1).toNat) = (if inI (O ux_4.b) ux_4 (p1).toNat = 1 then -10000 else (V ux_4.b (p1).toNat)) by have i9 := inI_01 (O ux_4.b) (p1).toNat ux_4; first | rfl | omega | ((repeat' split) <;> first | rfl | omega))).symm)⟩)
  · refine lv_aload_n hC.1 hC.2.1 dX3_viewStrike_25 rfl (lv_at hl 0 rfl) ?_
    refine x_callV hC hw (lv_size hl) (c_X1_book l G h_14) gX3_viewStrike_X1_book rfl dv_X1_book h_14.1 rfl rfl (Nat.le_of_ble_eq_true rfl) (by rw [hRf]; decide) (by rw [hRl]; decide) (by first | (rw [hRc]; decide) | omega) (by first | (rw [hRs]; decide) | omega) dX3_viewStrike_26 (fun r9 M_19 H locs hq hw => ?_)
    obtain ⟨rfl, hM9⟩ := hq
    rw [hM9] at hw
    show W p l e R s m args below meth c H locs _ _ _ (F0 m 29 ls [.ref (qb ux_4.b)])
    refine lv_iload_n hC.1 hC.2.1 dX3_viewStrike_29 rfl (lv_at hl 3 rfl) ?_
    refine x_callV hC hw (lv_size hl) (c_X0_removeKey l G hBu_11 (show (O ux_4.b) < 3 by first | assumption | omega) hVx_6 (by first | assumption | omega) (by first | assumption | omega) (p0 := p1) (by first | assumption | omega) (by omega)) gX3_viewStrike_X0_removeKey rfl dv_X0_removeKey hBu_11.1 rfl rfl (Nat.le_of_ble_eq_true rfl) (by rw [hRf]; decide) (by rw [hRl]; decide) (by first | (rw [hRc]; decide) | omega) (by first | (rw [hRs]; decide) | omega) dX3_viewStrike_30 (fun r9 M_20 H locs hq hw => ?_)
    obtain ⟨z_22, rfl, hz_22, hz_22v, kcu_21, szu_21, fku_21, fvu_21, hBu_21, smu_21, hVu_21, hksu_21, hka1u_21, hkb1u_21⟩ := hq
    obtain ⟨-, -, -, -, hsau_21, hsbu_21⟩ := id hBu_21
    obtain ⟨hkau_21, hkbu_21, -⟩ := id hksu_21
    have sm_23 := (sm_12).tr (smu_21)
    have h_24 := h_13.book htax_5 hBu_11 hBu_21 hVu_21 smu_21 (by first | omega | (rw [upV_s]; omega)) (by first | omega | (rw [upV_s]; omega))
    rw [show (upV (upV T ux_4.b ((T ux_4.b) + 1)) ux_4.b ((T ux_4.b) + 1)) = (upV T ux_4.b ((T ux_4.b) + 1)) from upV_upV] at h_24
    have h_25 : Vw _ y_3 (qb ux_4.b) (iN ux_4.lo) (iN ux_4.up) (iN (swN (O ux_4.b) ux_4.lo ux_4.li)) (iN (ewN (O ux_4.b) ux_4.lo ux_4.li ux_4.up ux_4.ui)) ux_4.li ux_4.ui := And.intro (x_kB hBu_11 smu_21 (by decide) h_14.1) h_14.2
    show W p l e R s m args below meth c H locs _ _ _ (F0 m 33 ls [.int (iN (z_22))])
    refine lv_goto (tgt := 39) hC.1 hC.2.1 dX3_viewStrike_33 (by decide) ?_
    exact vx_ret (x_iret hC hw dX3_viewStrike_39 (by first | decide | omega) (by first | decide | omega) ⟨z_22, rfl, ⟨by omega, by omega⟩, ⟨⟨(by first | omega | trivial), (by first | omega | trivial), (by first | omega | trivial)⟩, ⟨(by first | omega | trivial), (by first | omega | trivial)⟩⟩, (by have i9 := inI_01 (O ux_4.b) (p1).toNat ux_4; rw [A_viewStrike, (wiB_eq (s := (O, V, Wv, abK T C K, kk, kv, rf)) (p0 := p0) (p1 := p1) hux_4), (vwV_eq (s := (O, V, Wv, abK T C K, kk, kv, rf)) (p0 := p0) (p1 := p1) hux_4)]; show _ = (if inI (O ux_4.b) ux_4 (p1).toNat = 1 then (V ux_4.b (p1).toNat) else -10000); omega), (by rw [S_viewStrike, vwS_eq (s := (O, V, Wv, abK T C K, kk, kv, rf)) hux_4 (by rw [(wiB_eq (s := (O, V, Wv, abK T C K, kk, kv, rf)) (p0 := p0) (p1 := p1) hux_4), (vwV_eq (s := (O, V, Wv, abK T C K, kk, kv, rf)) (p0 := p0) (p1 := p1) hux_4)])]; exact RG.mut hR.wg h_24 (by omega) hksu_21 (by omega) hcb (by omega) (congrArg (upV (V ux_4.b) (p1).toNat) (show (-10000) = (if inI (O ux_4.b) ux_4 (p1).toNat = 1 then -10000 else (V ux_4.b (p1).toNat)) by have i9 := inI_01 (O ux_4.b) (p1).toNat ux_4; first | rfl | omega | ((repeat' split) <;> first | rfl | omega))))⟩)
set_option maxHeartbeats 4000000 in
set_option maxRecDepth 100000 in
theorem c_X3_viewMerge (l : Launch) (G : xG) {M : HM} (hst : l.stackTraces = false) {h0 bs vs : Nat} {og : Option Nat} {kk kv rf : Int32} {qb qk qv : Nat → Nat} {fb fv : Nat → Option Nat} {O : OW} {Wv : VW} {V : BW} {T C : Nat → Int} {K : WA} {N : Int} (hR : RGx G M h0 bs vs og kk kv rf qb qk qv fb fv O O Wv V T C K) (hcb : cbN N T C) (hN : N ≤ 590) {p0 : Int} (hp0 : -2147483648 ≤ p0 ∧ p0 ≤ 2147483647) {p1 : Int} (hp1 : -2147483648 ≤ p1 ∧ p1 ≤ 2147483647) {p2 : Int} (hp2 : -2147483648 ≤ p2 ∧ p2 ≤ 2147483647) : xMetX l G yX3_viewMerge wsX3_viewMerge 8 138 3 18 [.ref h0, .int (iN (p0)), .int (iN (p1)), .int (iN (p2))] M (fun r M1 => ∃ z : Int, r = some (.int (iN z)) ∧ (-2147483648 ≤ z ∧ z ≤ 2147483647) ∧ ((0 ≤ p0 ∧ p0 ≤ 3 ∧ opN (Wv p0.toNat) = 1) ∧ ((0 ≤ p1 ∧ p1 ≤ 99) ∧ (-9999 ≤ p2 ∧ p2 ≤ 9999))) ∧ z = A_viewMerge (O, V, Wv, abK T C K, kk, kv, rf) p0 p1 p2 ∧ RG G M1 h0 (N + 1) (S_viewMerge (O, V, Wv, abK T C K, kk, kv, rf) p0 p1 p2)) (fun E M1 => ((E = xIO ∧ ¬ (0 ≤ p0 ∧ p0 ≤ 3 ∧ opN (Wv p0.toNat) = 1)) ∨ (E = xIA ∧ (0 ≤ p0 ∧ p0 ≤ 3 ∧ opN (Wv p0.toNat) = 1) ∧ ¬ ((0 ≤ p1 ∧ p1 ≤ 99) ∧ (-9999 ≤ p2 ∧ p2 ≤ 9999)))) ∧ RG G M1 h0 (N + 1) (O, V, Wv, abK T C K, kk, kv, rf)) := by
  refine x_introX (cc := cX3_viewMerge) (maxL := 5) (ret := (some .int)) (by exact pln_RX3) rfl (Nat.le_of_ble_eq_true rfl) ?_
  intro p e R s m args below meth c ls hRf hRc hRs hRl htab hC hw hl
  have hl : lv_has ls 5 [(0, .ref h0), (1, .int (iN (p0))), (2, .int (iN (p1))), (3, .int (iN (p2)))] := hl
  refine lv_aload_n hC.1 hC.2.1 dX3_viewMerge_0 rfl (lv_at hl 0 rfl) ?_
  refine lv_iload_n hC.1 hC.2.1 dX3_viewMerge_1 rfl (lv_at hl 1 rfl) ?_
  refine lv_iload_n hC.1 hC.2.1 dX3_viewMerge_2 rfl (lv_at hl 2 rfl) ?_
  refine lv_iload_n hC.1 hC.2.1 dX3_viewMerge_3 rfl (lv_at hl 3 rfl) ?_
  refine x_callVX hC hw (lv_size hl) (c_X3_viewToWritePair l G hst hR hcb hN (p0 := p0) (by first | assumption | omega) (p1 := p1) (by first | assumption | omega) (p2 := p2) (by first | assumption | omega)) gX3_viewMerge_X3_viewToWritePair rfl dv_X3_viewToWritePair hR.1 rfl rfl (Nat.le_of_ble_eq_true rfl) (by rw [hRf]; decide) (by rw [hRl]; decide) (by first | (rw [hRc]; decide) | omega) (by first | (rw [hRs]; decide) | omega) dX3_viewMerge_4 (fun E ce q9 M_1 H locs hqx hw hcell hcv hcls => ?_) (fun r9 M_1 H locs hq hw => ?_)
  · rcases hqx with ⟨⟨hE, hc9⟩ | ⟨hE, hc9⟩, hqx⟩
    · subst hE
      exact x_outX hC hw htab hcell hcv hcls (by first | decide | omega) (by first | decide | omega) ⟨Or.inl ⟨rfl, (by first | exact hc9 | omega | trivial)⟩, (RG.of (N2 := N + 1) hqx hcb (by omega) (by omega))⟩
    · subst hE
      exact x_outX hC hw htab hcell hcv hcls (by first | decide | omega) (by first | decide | omega) ⟨Or.inr (⟨rfl, ⟨⟨(by first | omega | trivial), (by first | omega | trivial), (by first | omega | trivial)⟩, (by first | exact hc9 | omega | trivial)⟩⟩), (RG.of (N2 := N + 1) hqx hcb (by omega) (by omega))⟩
  obtain ⟨y_3, uk_2, rfl, huk_2, hTk_2, hRk_2, hk_2, hk_2c, hk_2d⟩ := hq
  have hpk_2 := opN_some huk_2
  have hkx_4 := hTk_2.1
  have hvx_4 := hTk_2.2
  have hlix_4 := hvx_4.2.1
  have huix_4 := hvx_4.2.2
  obtain ⟨htax_4, htbx_4, htcx_4, htdx_4, htex_4⟩ := id hkx_4
  obtain ⟨szx_5, fkx_5, fwx_5, hBx_5, hVx_5⟩ := hRk_2.bk htax_4
  rw [upV_s] at hBx_5
  obtain ⟨-, -, -, -, hsax_5, hsbx_5⟩ := id hBx_5
  have holx_5 := hRk_2.ol htax_4
  have hctx_5 := hcb.2 _ htax_4
  show W p l e R s m args below meth c H locs _ _ _ (F0 m 7 ls [.ref y_3])
  refine lv_astore (lv' := [(4, .ref y_3), (0, .ref h0), (1, .int (iN (p0))), (2, .int (iN (p1))), (3, .int (iN (p2)))]) hC.1 hC.2.1 dX3_viewMerge_7 hl (by decide) rfl (fun ls hl => ?_)
  refine lv_aload hC.1 hC.2.1 dX3_viewMerge_9 (lv_at hl 0 rfl) ?_
  refine lv_iload_n hC.1 hC.2.1 dX3_viewMerge_11 rfl (lv_at hl 3 rfl) ?_
  refine x_callV hC hw (lv_size hl) (c_X1_isWithin l G hkx_4 hvx_4 hBx_5 (show (O uk_2.b) < 3 by first | assumption | omega) hVx_5 (by first | assumption | omega) (by first | assumption | omega) (O := O) (V := V) (t9 := uk_2) (p0 := p1) (by first | assumption | omega) (by omega)) gX3_viewMerge_X1_isWithin rfl dv_X1_isWithin hvx_4.1 rfl rfl (Nat.le_of_ble_eq_true rfl) (by rw [hRf]; decide) (by rw [hRl]; decide) (by first | (rw [hRc]; decide) | omega) (by first | (rw [hRs]; decide) | omega) dX3_viewMerge_12 (fun r9 M_6 H locs hq hw => ?_)
  obtain ⟨z_7, rfl, hM9, hz_7, hz_7w⟩ := hq
  rw [hM9] at hw
  have hz_7i : z_7 = inI (O uk_2.b) uk_2 (p1).toNat := inI_eq (by omega) hz_7w
  show W p l e R s m args below meth c H locs _ _ _ (F0 m 15 ls [.int (iN (z_7))])
  refine x_if_eq (tgt := 31) hC ⟨by omega, by omega⟩ dX3_viewMerge_15 (by decide) (fun c_8 => ?_) (fun c_8 => ?_)
  · refine x_sipush hC dX3_viewMerge_31 (by decide +kernel) ?_
    exact vx_ret (x_iret hC hw dX3_viewMerge_34 (by first | decide | omega) (by first | decide | omega) ⟨(-20000), rfl, ⟨by omega, by omega⟩, ⟨⟨(by first | omega | trivial), (by first | omega | trivial), (by first | omega | trivial)⟩, ⟨⟨(by first | omega | trivial), (by first | omega | trivial)⟩, ⟨(by first | omega | trivial), (by first | omega | trivial)⟩⟩⟩, (by have i9 := inI_01 (O uk_2.b) (p1).toNat uk_2; rw [A_viewMerge, (wiB_eq (s := (O, V, Wv, abK T C K, kk, kv, rf)) (p0 := p0) (p1 := p1) huk_2), (vwV_eq (s := (O, V, Wv, abK T C K, kk, kv, rf)) (p0 := p0) (p1 := p1) huk_2)]; show _ = (if inI (O uk_2.b) uk_2 (p1).toNat = 1 then mgN (V uk_2.b (p1).toNat) p2 else -20000); omega), (by rw [S_viewMerge, vwS_eq (s := (O, V, Wv, abK T C K, kk, kv, rf)) huk_2 (by rw [(wiB_eq (s := (O, V, Wv, abK T C K, kk, kv, rf)) (p0 := p0) (p1 := p1) huk_2), (vwV_eq (s := (O, V, Wv, abK T C K, kk, kv, rf)) (p0 := p0) (p1 := p1) huk_2)])]; exact RG.mut0 hR.wg hRk_2 (by omega) hcb (by omega) (upV_self (show (V uk_2.b (p1).toNat) = (if inI (O uk_2.b) uk_2 (p1).toNat = 1 then mgN (V uk_2.b (p1).toNat) p2 else (V uk_2.b (p1).toNat)) by have i9 := inI_01 (O uk_2.b) (p1).toNat uk_2; first | rfl | omega | ((repeat' split) <;> first | rfl | omega))).symm)⟩)
  · refine lv_aload hC.1 hC.2.1 dX3_viewMerge_18 (lv_at hl 0 rfl) ?_
    refine x_callV hC hw (lv_size hl) (c_X1_book l G hvx_4) gX3_viewMerge_X1_book rfl dv_X1_book hvx_4.1 rfl rfl (Nat.le_of_ble_eq_true rfl) (by rw [hRf]; decide) (by rw [hRl]; decide) (by first | (rw [hRc]; decide) | omega) (by first | (rw [hRs]; decide) | omega) dX3_viewMerge_20 (fun r9 M_9 H locs hq hw => ?_)
    obtain ⟨rfl, hM9⟩ := hq
    rw [hM9] at hw
    show W p l e R s m args below meth c H locs _ _ _ (F0 m 23 ls [.ref (qb uk_2.b)])
    refine lv_iload_n hC.1 hC.2.1 dX3_viewMerge_23 rfl (lv_at hl 3 rfl) ?_
    refine lv_iload_n hC.1 hC.2.1 dX3_viewMerge_24 rfl (lv_at hl 4 rfl) ?_
    refine x_callV hC hw (lv_size hl) (c_X0_putTogether l G hBx_5 (show (O uk_2.b) < 3 by first | assumption | omega) hVx_5 (by first | assumption | omega) (by first | assumption | omega) (p0 := p1) (by first | assumption | omega) (p1 := p2) (by first | assumption | omega) (by omega) (by omega)) gX3_viewMerge_X0_putTogether rfl dv_X0_putTogether hBx_5.1 rfl rfl (Nat.le_of_ble_eq_true rfl) (by rw [hRf]; decide) (by rw [hRl]; decide) (by first | (rw [hRc]; decide) | omega) (by first | (rw [hRs]; decide) | omega) dX3_viewMerge_25 (fun r9 M_10 H locs hq hw => ?_)
    obtain ⟨z_12, rfl, hz_12, hz_12v, kcu_11, szu_11, fku_11, fvu_11, hBu_11, smu_11, hVu_11, hksu_11⟩ := hq
    obtain ⟨-, -, -, -, hsau_11, hsbu_11⟩ := id hBu_11
    obtain ⟨hkau_11, hkbu_11, -⟩ := id hksu_11
    have sm_13 := (xSm.rf (M := M_1) (b := (qb uk_2.b)) (k := (qk uk_2.b)) (v := (qv uk_2.b))).tr (smu_11)
    have h_14 := hRk_2.book htax_4 hBx_5 hBu_11 hVu_11 smu_11 (by first | omega | (rw [upV_s]; omega)) (by first | omega | (rw [upV_s]; omega))
    rw [show (upV (upV T uk_2.b (T uk_2.b + 1)) uk_2.b (T uk_2.b + 1)) = (upV T uk_2.b (T uk_2.b + 1)) from upV_upV] at h_14
    have h_15 : Vw _ y_3 (qb uk_2.b) (iN uk_2.lo) (iN uk_2.up) (iN (swN (O uk_2.b) uk_2.lo uk_2.li)) (iN (ewN (O uk_2.b) uk_2.lo uk_2.li uk_2.up uk_2.ui)) uk_2.li uk_2.ui := And.intro (x_kB hBx_5 smu_11 (by decide) hvx_4.1) hvx_4.2
    show W p l e R s m args below meth c H locs _ _ _ (F0 m 28 ls [.int (iN (z_12))])
    refine lv_goto (tgt := 34) hC.1 hC.2.1 dX3_viewMerge_28 (by decide) ?_
    exact vx_ret (x_iret hC hw dX3_viewMerge_34 (by first | decide | omega) (by first | decide | omega) ⟨z_12, rfl, ⟨by omega, by omega⟩, ⟨⟨(by first | omega | trivial), (by first | omega | trivial), (by first | omega | trivial)⟩, ⟨⟨(by first | omega | trivial), (by first | omega | trivial)⟩, ⟨(by first | omega | trivial), (by first | omega | trivial)⟩⟩⟩, (by have i9 := inI_01 (O uk_2.b) (p1).toNat uk_2; rw [A_viewMerge, (wiB_eq (s := (O, V, Wv, abK T C K, kk, kv, rf)) (p0 := p0) (p1 := p1) huk_2), (vwV_eq (s := (O, V, Wv, abK T C K, kk, kv, rf)) (p0 := p0) (p1 := p1) huk_2)]; show _ = (if inI (O uk_2.b) uk_2 (p1).toNat = 1 then mgN (V uk_2.b (p1).toNat) p2 else -20000); omega), (by rw [S_viewMerge, vwS_eq (s := (O, V, Wv, abK T C K, kk, kv, rf)) huk_2 (by rw [(wiB_eq (s := (O, V, Wv, abK T C K, kk, kv, rf)) (p0 := p0) (p1 := p1) huk_2), (vwV_eq (s := (O, V, Wv, abK T C K, kk, kv, rf)) (p0 := p0) (p1 := p1) huk_2)])]; exact RG.mut hR.wg h_14 (by omega) hksu_11 (by omega) hcb (by omega) (congrArg (upV (V uk_2.b) (p1).toNat) (show (mgN (((V uk_2.b) (p1).toNat)) p2) = (if inI (O uk_2.b) uk_2 (p1).toNat = 1 then mgN (V uk_2.b (p1).toNat) p2 else (V uk_2.b (p1).toNat)) by have i9 := inI_01 (O uk_2.b) (p1).toNat uk_2; first | rfl | omega | ((repeat' split) <;> first | rfl | omega))))⟩)
set_option maxHeartbeats 4000000 in
set_option maxRecDepth 100000 in
theorem c_X3_viewPoll (l : Launch) (G : xG) {M : HM} (hst : l.stackTraces = false) {h0 bs vs : Nat} {og : Option Nat} {kk kv rf : Int32} {qb qk qv : Nat → Nat} {fb fv : Nat → Option Nat} {O : OW} {Wv : VW} {V : BW} {T C : Nat → Int} {K : WA} {N : Int} (hR : RGx G M h0 bs vs og kk kv rf qb qk qv fb fv O O Wv V T C K) (hcb : cbN N T C) (hN : N ≤ 590) {p0 : Int} (hp0 : -2147483648 ≤ p0 ∧ p0 ≤ 2147483647) {p1 : Int} (hp1 : -2147483648 ≤ p1 ∧ p1 ≤ 2147483647) (hb1 : p1 = 0 ∨ p1 = 1) : xMetX l G yX3_viewPoll wsX3_viewPoll 7 111 1 6 [.ref h0, .int (iN (p0)), .int (iN (p1))] M (fun r M1 => ∃ z : Int, r = some (.int (iN z)) ∧ (-2147483648 ≤ z ∧ z ≤ 2147483647) ∧ ((0 ≤ p0 ∧ p0 ≤ 3 ∧ opN (Wv p0.toNat) = 1)) ∧ z = A_viewPoll (O, V, Wv, abK T C K, kk, kv, rf) p0 p1 ∧ RG G M1 h0 (N + 1) (S_viewPoll (O, V, Wv, abK T C K, kk, kv, rf) p0 p1)) (fun E M1 => ((E = xIO ∧ ¬ (0 ≤ p0 ∧ p0 ≤ 3 ∧ opN (Wv p0.toNat) = 1))) ∧ RG G M1 h0 (N + 1) (O, V, Wv, abK T C K, kk, kv, rf)) := by
  refine x_introX (cc := cX3_viewPoll) (maxL := 4) (ret := (some .int)) (by exact pln_RX3) rfl (Nat.le_of_ble_eq_true rfl) ?_
  intro p e R s m args below meth c ls hRf hRc hRs hRl htab hC hw hl
  have hl : lv_has ls 4 [(0, .ref h0), (1, .int (iN (p0))), (2, .int (iN (p1)))] := hl
  refine lv_aload_n hC.1 hC.2.1 dX3_viewPoll_0 rfl (lv_at hl 0 rfl) ?_
  refine lv_iload_n hC.1 hC.2.1 dX3_viewPoll_1 rfl (lv_at hl 1 rfl) ?_
  refine x_callVX hC hw (lv_size hl) (c_X3_viewAt l G hst hR hcb hN (p0 := p0) (by first | assumption | omega)) gX3_viewPoll_X3_viewAt rfl dv_X3_viewAt hR.1 rfl rfl (Nat.le_of_ble_eq_true rfl) (by rw [hRf]; decide) (by rw [hRl]; decide) (by first | (rw [hRc]; decide) | omega) (by first | (rw [hRs]; decide) | omega) dX3_viewPoll_2 (fun E ce q9 M_1 H locs hqx hw hcell hcv hcls => ?_) (fun r9 M_1 H locs hq hw => ?_)
  · rw [hqx.2] at hw
    obtain ⟨hE, hc9⟩ := hqx.1
    replace hqx := hqx.2
    subst hE
    exact x_outX hC hw htab hcell hcv hcls (by first | decide | omega) (by first | decide | omega) ⟨⟨rfl, (by first | exact hc9 | omega | trivial)⟩, (RG.of (N2 := N + 1) hR hcb (by omega) (by omega))⟩
  obtain ⟨y_3, rfl, hM9, hk_2, hk_2b, hyk_2⟩ := hq
  rw [hM9] at hw
  obtain ⟨ux_4, hux_4, hTx_4⟩ := (hR.vwo (show (p0).toNat < 4 from tn_lt (by omega) (by decide))).yes hyk_2
  have hpx_4 := opN_some hux_4
  have hkx_5 := hTx_4.1
  have hvx_5 := hTx_4.2
  have hlix_5 := hvx_5.2.1
  have huix_5 := hvx_5.2.2
  obtain ⟨htax_5, htbx_5, htcx_5, htdx_5, htex_5⟩ := id hkx_5
  obtain ⟨szx_6, fkx_6, fwx_6, hBx_6, hVx_6⟩ := hR.bk htax_5
  obtain ⟨-, -, -, -, hsax_6, hsbx_6⟩ := id hBx_6
  have holx_6 := hR.ol htax_5
  have hctx_6 := hcb.2 _ htax_5
  show W p l e R s m args below meth c H locs _ _ _ (F0 m 5 ls [.ref y_3])
  refine lv_astore_n (lv' := [(3, .ref y_3), (0, .ref h0), (1, .int (iN (p0))), (2, .int (iN (p1)))]) hC.1 hC.2.1 dX3_viewPoll_5 rfl hl (by decide) rfl (fun ls hl => ?_)
  refine lv_aload_n hC.1 hC.2.1 dX3_viewPoll_6 rfl (lv_at hl 0 rfl) ?_
  refine x_callV hC hw (lv_size hl) (c_X1_book l G hvx_5) gX3_viewPoll_X1_book rfl dv_X1_book hvx_5.1 rfl rfl (Nat.le_of_ble_eq_true rfl) (by rw [hRf]; decide) (by rw [hRl]; decide) (by first | (rw [hRc]; decide) | omega) (by first | (rw [hRs]; decide) | omega) dX3_viewPoll_7 (fun r9 M_7 H locs hq hw => ?_)
  obtain ⟨rfl, hM9⟩ := hq
  rw [hM9] at hw
  show W p l e R s m args below meth c H locs _ _ _ (F0 m 10 ls [.ref (qb ux_4.b)])
  refine x_callV hC hw (lv_size hl) (c_X0_touch l G hBx_6 (show (O ux_4.b) < 3 by first | assumption | omega) hVx_6 (by first | assumption | omega) (by first | assumption | omega)) gX3_viewPoll_X0_touch rfl dv_X0_touch hBx_6.1 rfl rfl (Nat.le_of_ble_eq_true rfl) (by rw [hRf]; decide) (by rw [hRl]; decide) (by first | (rw [hRc]; decide) | omega) (by first | (rw [hRs]; decide) | omega) dX3_viewPoll_10 (fun r9 M_8 H locs hq hw => ?_)
  obtain ⟨rfl, hBu_9, smu_9⟩ := hq
  have sm_10 := (xSm.rf (M := M) (b := (qb ux_4.b)) (k := (qk ux_4.b)) (v := (qv ux_4.b))).tr (smu_9)
  have h_11 := hR.book htax_5 hBx_6 hBu_9 hVx_6 smu_9 (by first | omega | (rw [upV_s]; omega)) (by first | omega | (rw [upV_s]; omega))
  rw [show (upB V ux_4.b (V ux_4.b)) = V from upB_self rfl, show (upV C ux_4.b (C ux_4.b)) = C from upV_same _ _] at h_11
  have h_12 : Vw _ y_3 (qb ux_4.b) (iN ux_4.lo) (iN ux_4.up) (iN (swN (O ux_4.b) ux_4.lo ux_4.li)) (iN (ewN (O ux_4.b) ux_4.lo ux_4.li ux_4.up ux_4.ui)) ux_4.li ux_4.ui := And.intro (x_kB hBx_6 smu_9 (by decide) hvx_5.1) hvx_5.2
  show W p l e R s m args below meth c H locs _ _ _ (F0 m 13 ls [])
  refine lv_aload_n hC.1 hC.2.1 dX3_viewPoll_13 rfl (lv_at hl 0 rfl) ?_
  refine x_callV hC hw (lv_size hl) (c_X1_size l G hkx_5 h_12 hBu_9 (show (O ux_4.b) < 3 by first | assumption | omega) hVx_6 (by first | assumption | omega) (by first | assumption | omega) (O := O) (V := V) (t9 := ux_4)) gX3_viewPoll_X1_size rfl dv_X1_size h_12.1 rfl rfl (Nat.le_of_ble_eq_true rfl) (by rw [hRf]; decide) (by rw [hRl]; decide) (by first | (rw [hRc]; decide) | omega) (by first | (rw [hRs]; decide) | omega) dX3_viewPoll_14 (fun r9 M_14 H locs hq hw => ?_)
  obtain ⟨z_15, rfl, hM9, hz_15, hz_15m⟩ := hq
  rw [hM9] at hw
  show W p l e R s m args below meth c H locs _ _ _ (F0 m 17 ls [.int (iN (z_15))])
  refine x_if_ne (tgt := 24) hC ⟨by omega, by omega⟩ dX3_viewPoll_17 (by decide) (fun c_16 => ?_) (fun c_16 => ?_)
  · refine lv_aload_n hC.1 hC.2.1 dX3_viewPoll_24 rfl (lv_at hl 0 rfl) ?_
    refine x_callV hC hw (lv_size hl) (c_X1_book l G h_12) gX3_viewPoll_X1_book rfl dv_X1_book h_12.1 rfl rfl (Nat.le_of_ble_eq_true rfl) (by rw [hRf]; decide) (by rw [hRl]; decide) (by first | (rw [hRc]; decide) | omega) (by first | (rw [hRs]; decide) | omega) dX3_viewPoll_25 (fun r9 M_17 H locs hq hw => ?_)
    obtain ⟨rfl, hM9⟩ := hq
    rw [hM9] at hw
    show W p l e R s m args below meth c H locs _ _ _ (F0 m 28 ls [.ref (qb ux_4.b)])
    refine lv_iload_n hC.1 hC.2.1 dX3_viewPoll_28 rfl (lv_at hl 3 rfl) ?_
    refine x_if_eq (tgt := 41) hC ⟨by omega, by omega⟩ dX3_viewPoll_29 (by decide) (fun c_18 => ?_) (fun c_18 => ?_)
    · refine lv_aload_n hC.1 hC.2.1 dX3_viewPoll_41 rfl (lv_at hl 0 rfl) ?_
      refine x_callV hC hw (lv_size hl) (c_X1_start l G hkx_5 h_12 hBu_9 (show (O ux_4.b) < 3 by first | assumption | omega) hVx_6 (by first | assumption | omega) (by first | assumption | omega) (O := O) (V := V) (t9 := ux_4)) gX3_viewPoll_X1_start rfl dv_X1_start h_12.1 rfl rfl (Nat.le_of_ble_eq_true rfl) (by rw [hRf]; decide) (by rw [hRl]; decide) (by first | (rw [hRc]; decide) | omega) (by first | (rw [hRs]; decide) | omega) dX3_viewPoll_42 (fun r9 M_19 H locs hq hw => ?_)
      obtain ⟨z_20, rfl, hM9, hz_20a, hz_20b, hz_20p⟩ := hq
      rw [hM9] at hw
      show W p l e R s m args below meth c H locs _ _ _ (F0 m 45 ls [.int (iN (z_20)), .ref (qb ux_4.b)])
      refine x_callV hC hw (lv_size hl) (c_X0_removeAt l G hBu_9 (show (O ux_4.b) < 3 by first | assumption | omega) hVx_6 (by first | assumption | omega) (by first | assumption | omega) (p0 := z_20) (by omega)) gX3_viewPoll_X0_removeAt rfl dv_X0_removeAt hBu_9.1 rfl rfl (Nat.le_of_ble_eq_true rfl) (by rw [hRf]; decide) (by rw [hRl]; decide) (by first | (rw [hRc]; decide) | omega) (by first | (rw [hRs]; decide) | omega) dX3_viewPoll_45 (fun r9 M_21 H locs hq hw => ?_)
      obtain ⟨z_23, rfl, hz_23, hz_23n, hz_23k, kcu_22, szu_22, fku_22, fvu_22, hBu_22, smu_22, hVu_22, hksu_22, hsxu_22, hkxu_22, hfxu_22⟩ := hq
      obtain ⟨-, -, -, -, hsau_22, hsbu_22⟩ := id hBu_22
      obtain ⟨hkau_22, hkbu_22, -⟩ := id hksu_22
      have sm_24 := (sm_10).tr (smu_22)
      have h_25 := h_11.book htax_5 hBu_9 hBu_22 hVu_22 smu_22 (by first | omega | (rw [upV_s]; omega)) (by first | omega | (rw [upV_s]; omega))
      rw [show (upV (upV T ux_4.b ((T ux_4.b) + 1)) ux_4.b ((T ux_4.b) + 1)) = (upV T ux_4.b ((T ux_4.b) + 1)) from upV_upV] at h_25
      have h_26 : Vw _ y_3 (qb ux_4.b) (iN ux_4.lo) (iN ux_4.up) (iN (swN (O ux_4.b) ux_4.lo ux_4.li)) (iN (ewN (O ux_4.b) ux_4.lo ux_4.li ux_4.up ux_4.ui)) ux_4.li ux_4.ui := And.intro (x_kB hBu_9 smu_22 (by decide) h_12.1) h_12.2
      show W p l e R s m args below meth c H locs _ _ _ (F0 m 48 ls [.int (iN (z_23))])
      exact vx_ret (x_iret hC hw dX3_viewPoll_48 (by first | decide | omega) (by first | decide | omega) ⟨z_23, rfl, ⟨by omega, by omega⟩, ⟨(by first | omega | trivial), (by first | omega | trivial), (by first | omega | trivial)⟩, (by rw [A_viewPoll, show tvW (ST.W (O, V, Wv, abK T C K, kk, kv, rf)) p0.toNat = ux_4 from tvW_some hux_4]; exact (vw_end (by omega) hkx_5 hVx_6 (by omega) hz_15m (Or.inr (Or.inl ⟨by omega, by omega, z_20, hz_20p, by omega, fun h9 => (hz_23k h9).1⟩)))), (by rw [S_viewPoll, A_viewPoll, show tvW (ST.W (O, V, Wv, abK T C K, kk, kv, rf)) p0.toNat = ux_4 from tvW_some hux_4]; exact RG.mut hR.wg h_25 (by omega) hksu_22 (by omega) hcb (by omega) (congrArg (rmV (V ux_4.b)) ((vw_end (by omega) hkx_5 hVx_6 (by omega) hz_15m (Or.inr (Or.inl ⟨by omega, by omega, z_20, hz_20p, by omega, fun h9 => (hz_23k h9).1⟩))))))⟩)
    · refine lv_aload_n hC.1 hC.2.1 dX3_viewPoll_32 rfl (lv_at hl 0 rfl) ?_
      refine x_callV hC hw (lv_size hl) (c_X1_end l G hkx_5 h_12 hBu_9 (show (O ux_4.b) < 3 by first | assumption | omega) hVx_6 (by first | assumption | omega) (by first | assumption | omega) (O := O) (V := V) (t9 := ux_4)) gX3_viewPoll_X1_end rfl dv_X1_end h_12.1 rfl rfl (Nat.le_of_ble_eq_true rfl) (by rw [hRf]; decide) (by rw [hRl]; decide) (by first | (rw [hRc]; decide) | omega) (by first | (rw [hRs]; decide) | omega) dX3_viewPoll_33 (fun r9 M_28 H locs hq hw => ?_)
      obtain ⟨z_29, rfl, hM9, hz_29a, hz_29b, hz_29p⟩ := hq
      rw [hM9] at hw
      show W p l e R s m args below meth c H locs _ _ _ (F0 m 36 ls [.int (iN (z_29)), .ref (qb ux_4.b)])
      refine x_const hC dX3_viewPoll_36 ?_
      refine x_isub hC dX3_viewPoll_37 ?_
      refine lv_goto (tgt := 45) hC.1 hC.2.1 dX3_viewPoll_38 (by decide) ?_
      refine x_callV hC hw (lv_size hl) (c_X0_removeAt l G hBu_9 (show (O ux_4.b) < 3 by first | assumption | omega) hVx_6 (by first | assumption | omega) (by first | assumption | omega) (p0 := (z_29 - 1)) (by omega)) gX3_viewPoll_X0_removeAt rfl dv_X0_removeAt hBu_9.1 rfl rfl (Nat.le_of_ble_eq_true rfl) (by rw [hRf]; decide) (by rw [hRl]; decide) (by first | (rw [hRc]; decide) | omega) (by first | (rw [hRs]; decide) | omega) dX3_viewPoll_45 (fun r9 M_30 H locs hq hw => ?_)
      obtain ⟨z_32, rfl, hz_32, hz_32n, hz_32k, kcu_31, szu_31, fku_31, fvu_31, hBu_31, smu_31, hVu_31, hksu_31, hsxu_31, hkxu_31, hfxu_31⟩ := hq
      obtain ⟨-, -, -, -, hsau_31, hsbu_31⟩ := id hBu_31
      obtain ⟨hkau_31, hkbu_31, -⟩ := id hksu_31
      have sm_33 := (sm_10).tr (smu_31)
      have h_34 := h_11.book htax_5 hBu_9 hBu_31 hVu_31 smu_31 (by first | omega | (rw [upV_s]; omega)) (by first | omega | (rw [upV_s]; omega))
      rw [show (upV (upV T ux_4.b ((T ux_4.b) + 1)) ux_4.b ((T ux_4.b) + 1)) = (upV T ux_4.b ((T ux_4.b) + 1)) from upV_upV] at h_34
      have h_35 : Vw _ y_3 (qb ux_4.b) (iN ux_4.lo) (iN ux_4.up) (iN (swN (O ux_4.b) ux_4.lo ux_4.li)) (iN (ewN (O ux_4.b) ux_4.lo ux_4.li ux_4.up ux_4.ui)) ux_4.li ux_4.ui := And.intro (x_kB hBu_9 smu_31 (by decide) h_12.1) h_12.2
      show W p l e R s m args below meth c H locs _ _ _ (F0 m 48 ls [.int (iN (z_32))])
      exact vx_ret (x_iret hC hw dX3_viewPoll_48 (by first | decide | omega) (by first | decide | omega) ⟨z_32, rfl, ⟨by omega, by omega⟩, ⟨(by first | omega | trivial), (by first | omega | trivial), (by first | omega | trivial)⟩, (by rw [A_viewPoll, show tvW (ST.W (O, V, Wv, abK T C K, kk, kv, rf)) p0.toNat = ux_4 from tvW_some hux_4]; exact (vw_end (by omega) hkx_5 hVx_6 (by omega) hz_15m (Or.inr (Or.inr ⟨by omega, by omega, z_29, hz_29p, by omega, fun h9 => (hz_32k h9).1⟩)))), (by rw [S_viewPoll, A_viewPoll, show tvW (ST.W (O, V, Wv, abK T C K, kk, kv, rf)) p0.toNat = ux_4 from tvW_some hux_4]; exact RG.mut hR.wg h_34 (by omega) hksu_31 (by omega) hcb (by omega) (congrArg (rmV (V ux_4.b)) ((vw_end (by omega) hkx_5 hVx_6 (by omega) hz_15m (Or.inr (Or.inr ⟨by omega, by omega, z_29, hz_29p, by omega, fun h9 => (hz_32k h9).1⟩))))))⟩)
  · refine x_sipush hC dX3_viewPoll_20 (by decide +kernel) ?_
    exact vx_ret (x_iret hC hw dX3_viewPoll_23 (by first | decide | omega) (by first | decide | omega) ⟨(-10000), rfl, ⟨by omega, by omega⟩, ⟨(by first | omega | trivial), (by first | omega | trivial), (by first | omega | trivial)⟩, (by rw [A_viewPoll, show tvW (ST.W (O, V, Wv, abK T C K, kk, kv, rf)) p0.toNat = ux_4 from tvW_some hux_4]; exact (vw_end (by omega) hkx_5 hVx_6 (by omega) hz_15m (Or.inl ⟨by omega, by omega⟩))), (by rw [S_viewPoll, A_viewPoll, show tvW (ST.W (O, V, Wv, abK T C K, kk, kv, rf)) p0.toNat = ux_4 from tvW_some hux_4]; exact RG.mut0 hR.wg h_11 (by omega) hcb (by omega) (rmV_0 (show endF O V ux_4 p1 = -10000 from ((vw_end (by omega) hkx_5 hVx_6 (by omega) hz_15m (Or.inl ⟨by omega, by omega⟩))).symm)).symm)⟩)
set_option maxHeartbeats 4000000 in
set_option maxRecDepth 100000 in
theorem c_X3_viewClear (l : Launch) (G : xG) {M : HM} (hst : l.stackTraces = false) {h0 bs vs : Nat} {og : Option Nat} {kk kv rf : Int32} {qb qk qv : Nat → Nat} {fb fv : Nat → Option Nat} {O : OW} {Wv : VW} {V : BW} {T C : Nat → Int} {K : WA} {N : Int} (hR : RGx G M h0 bs vs og kk kv rf qb qk qv fb fv O O Wv V T C K) (hcb : cbN N T C) (hN : N ≤ 590) {p0 : Int} (hp0 : -2147483648 ≤ p0 ∧ p0 ≤ 2147483647) : xMetX l G yX3_viewClear wsX3_viewClear 7 111 1 6 [.ref h0, .int (iN (p0))] M (fun r M1 => ∃ z : Int, r = some (.int (iN z)) ∧ (-2147483648 ≤ z ∧ z ≤ 2147483647) ∧ ((0 ≤ p0 ∧ p0 ≤ 3 ∧ opN (Wv p0.toNat) = 1)) ∧ z = A_viewClear (O, V, Wv, abK T C K, kk, kv, rf) p0 ∧ RG G M1 h0 (N + 1) (S_viewClear (O, V, Wv, abK T C K, kk, kv, rf) p0)) (fun E M1 => ((E = xIO ∧ ¬ (0 ≤ p0 ∧ p0 ≤ 3 ∧ opN (Wv p0.toNat) = 1))) ∧ RG G M1 h0 (N + 1) (O, V, Wv, abK T C K, kk, kv, rf)) := by
  refine x_introX (cc := cX3_viewClear) (maxL := 3) (ret := (some .int)) (by exact pln_RX3) rfl (Nat.le_of_ble_eq_true rfl) ?_
  intro p e R s m args below meth c ls hRf hRc hRs hRl htab hC hw hl
  have hl : lv_has ls 3 [(0, .ref h0), (1, .int (iN (p0)))] := hl
  refine lv_aload_n hC.1 hC.2.1 dX3_viewClear_0 rfl (lv_at hl 0 rfl) ?_
  refine lv_iload_n hC.1 hC.2.1 dX3_viewClear_1 rfl (lv_at hl 1 rfl) ?_
  refine x_callVX hC hw (lv_size hl) (c_X3_viewAt l G hst hR hcb hN (p0 := p0) (by first | assumption | omega)) gX3_viewClear_X3_viewAt rfl dv_X3_viewAt hR.1 rfl rfl (Nat.le_of_ble_eq_true rfl) (by rw [hRf]; decide) (by rw [hRl]; decide) (by first | (rw [hRc]; decide) | omega) (by first | (rw [hRs]; decide) | omega) dX3_viewClear_2 (fun E ce q9 M_1 H locs hqx hw hcell hcv hcls => ?_) (fun r9 M_1 H locs hq hw => ?_)
  · rw [hqx.2] at hw
    obtain ⟨hE, hc9⟩ := hqx.1
    replace hqx := hqx.2
    subst hE
    exact x_outX hC hw htab hcell hcv hcls (by first | decide | omega) (by first | decide | omega) ⟨⟨rfl, (by first | exact hc9 | omega | trivial)⟩, (RG.of (N2 := N + 1) hR hcb (by omega) (by omega))⟩
  obtain ⟨y_3, rfl, hM9, hk_2, hk_2b, hyk_2⟩ := hq
  rw [hM9] at hw
  obtain ⟨ux_4, hux_4, hTx_4⟩ := (hR.vwo (show (p0).toNat < 4 from tn_lt (by omega) (by decide))).yes hyk_2
  have hpx_4 := opN_some hux_4
  have hkx_5 := hTx_4.1
  have hvx_5 := hTx_4.2
  have hlix_5 := hvx_5.2.1
  have huix_5 := hvx_5.2.2
  obtain ⟨htax_5, htbx_5, htcx_5, htdx_5, htex_5⟩ := id hkx_5
  obtain ⟨szx_6, fkx_6, fwx_6, hBx_6, hVx_6⟩ := hR.bk htax_5
  obtain ⟨-, -, -, -, hsax_6, hsbx_6⟩ := id hBx_6
  have holx_6 := hR.ol htax_5
  have hctx_6 := hcb.2 _ htax_5
  show W p l e R s m args below meth c H locs _ _ _ (F0 m 5 ls [.ref y_3])
  refine lv_astore_n (lv' := [(2, .ref y_3), (0, .ref h0), (1, .int (iN (p0)))]) hC.1 hC.2.1 dX3_viewClear_5 rfl hl (by decide) rfl (fun ls hl => ?_)
  refine lv_aload_n hC.1 hC.2.1 dX3_viewClear_6 rfl (lv_at hl 0 rfl) ?_
  refine x_callV hC hw (lv_size hl) (c_X1_book l G hvx_5) gX3_viewClear_X1_book rfl dv_X1_book hvx_5.1 rfl rfl (Nat.le_of_ble_eq_true rfl) (by rw [hRf]; decide) (by rw [hRl]; decide) (by first | (rw [hRc]; decide) | omega) (by first | (rw [hRs]; decide) | omega) dX3_viewClear_7 (fun r9 M_7 H locs hq hw => ?_)
  obtain ⟨rfl, hM9⟩ := hq
  rw [hM9] at hw
  show W p l e R s m args below meth c H locs _ _ _ (F0 m 10 ls [.ref (qb ux_4.b)])
  refine x_callV hC hw (lv_size hl) (c_X0_touch l G hBx_6 (show (O ux_4.b) < 3 by first | assumption | omega) hVx_6 (by first | assumption | omega) (by first | assumption | omega)) gX3_viewClear_X0_touch rfl dv_X0_touch hBx_6.1 rfl rfl (Nat.le_of_ble_eq_true rfl) (by rw [hRf]; decide) (by rw [hRl]; decide) (by first | (rw [hRc]; decide) | omega) (by first | (rw [hRs]; decide) | omega) dX3_viewClear_10 (fun r9 M_8 H locs hq hw => ?_)
  obtain ⟨rfl, hBu_9, smu_9⟩ := hq
  have sm_10 := (xSm.rf (M := M) (b := (qb ux_4.b)) (k := (qk ux_4.b)) (v := (qv ux_4.b))).tr (smu_9)
  have h_11 := hR.book htax_5 hBx_6 hBu_9 hVx_6 smu_9 (by first | omega | (rw [upV_s]; omega)) (by first | omega | (rw [upV_s]; omega))
  rw [show (upB V ux_4.b (V ux_4.b)) = V from upB_self rfl, show (upV C ux_4.b (C ux_4.b)) = C from upV_same _ _] at h_11
  have h_12 : Vw _ y_3 (qb ux_4.b) (iN ux_4.lo) (iN ux_4.up) (iN (swN (O ux_4.b) ux_4.lo ux_4.li)) (iN (ewN (O ux_4.b) ux_4.lo ux_4.li ux_4.up ux_4.ui)) ux_4.li ux_4.ui := And.intro (x_kB hBx_6 smu_9 (by decide) hvx_5.1) hvx_5.2
  show W p l e R s m args below meth c H locs _ _ _ (F0 m 13 ls [])
  refine lv_aload_n hC.1 hC.2.1 dX3_viewClear_13 rfl (lv_at hl 0 rfl) ?_
  refine x_callV hC hw (lv_size hl) (c_X1_book l G h_12) gX3_viewClear_X1_book rfl dv_X1_book h_12.1 rfl rfl (Nat.le_of_ble_eq_true rfl) (by rw [hRf]; decide) (by rw [hRl]; decide) (by first | (rw [hRc]; decide) | omega) (by first | (rw [hRs]; decide) | omega) dX3_viewClear_14 (fun r9 M_14 H locs hq hw => ?_)
  obtain ⟨rfl, hM9⟩ := hq
  rw [hM9] at hw
  show W p l e R s m args below meth c H locs _ _ _ (F0 m 17 ls [.ref (qb ux_4.b)])
  refine lv_aload_n hC.1 hC.2.1 dX3_viewClear_17 rfl (lv_at hl 0 rfl) ?_
  refine x_callV hC hw (lv_size hl) (c_X1_start l G hkx_5 h_12 hBu_9 (show (O ux_4.b) < 3 by first | assumption | omega) hVx_6 (by first | assumption | omega) (by first | assumption | omega) (O := O) (V := V) (t9 := ux_4)) gX3_viewClear_X1_start rfl dv_X1_start h_12.1 rfl rfl (Nat.le_of_ble_eq_true rfl) (by rw [hRf]; decide) (by rw [hRl]; decide) (by first | (rw [hRc]; decide) | omega) (by first | (rw [hRs]; decide) | omega) dX3_viewClear_18 (fun r9 M_15 H locs hq hw => ?_)
  obtain ⟨z_16, rfl, hM9, hz_16a, hz_16b, hz_16p⟩ := hq
  rw [hM9] at hw
  show W p l e R s m args below meth c H locs _ _ _ (F0 m 21 ls [.int (iN (z_16)), .ref (qb ux_4.b)])
  refine lv_aload_n hC.1 hC.2.1 dX3_viewClear_21 rfl (lv_at hl 0 rfl) ?_
  refine x_callV hC hw (lv_size hl) (c_X1_end l G hkx_5 h_12 hBu_9 (show (O ux_4.b) < 3 by first | assumption | omega) hVx_6 (by first | assumption | omega) (by first | assumption | omega) (O := O) (V := V) (t9 := ux_4)) gX3_viewClear_X1_end rfl dv_X1_end h_12.1 rfl rfl (Nat.le_of_ble_eq_true rfl) (by rw [hRf]; decide) (by rw [hRl]; decide) (by first | (rw [hRc]; decide) | omega) (by first | (rw [hRs]; decide) | omega) dX3_viewClear_22 (fun r9 M_17 H locs hq hw => ?_)
  obtain ⟨z_18, rfl, hM9, hz_18a, hz_18b, hz_18p⟩ := hq
  rw [hM9] at hw
  show W p l e R s m args below meth c H locs _ _ _ (F0 m 25 ls [.int (iN (z_18)), .int (iN (z_16)), .ref (qb ux_4.b)])
  refine x_callV hC hw (lv_size hl) (c_X0_removeRange l G hBu_9 (show (O ux_4.b) < 3 by first | assumption | omega) hVx_6 (by first | assumption | omega) (by first | assumption | omega) (p0 := z_16) (by omega) (p1 := z_18) (by omega) (V1 := (mapN (V ux_4.b) (F_sa O V ux_4) 100)) (sa1 (by omega) hkx_5 hVx_6 hz_16p hz_18p (by omega) (by omega)) (sa2 (t := ux_4)) (by omega)) gX3_viewClear_X0_removeRange rfl dv_X0_removeRange hBu_9.1 rfl rfl (Nat.le_of_ble_eq_true rfl) (by rw [hRf]; decide) (by rw [hRl]; decide) (by first | (rw [hRc]; decide) | omega) (by first | (rw [hRs]; decide) | omega) dX3_viewClear_25 (fun r9 M_19 H locs hq hw => ?_)
  obtain ⟨z_21, rfl, hz_21, hz_21r, kcu_20, szu_20, fku_20, fvu_20, hBu_20, smu_20, hVu_20, hksu_20, hsxu_20, hkxu_20, hfxu_20⟩ := hq
  obtain ⟨-, -, -, -, hsau_20, hsbu_20⟩ := id hBu_20
  obtain ⟨hkau_20, hkbu_20, -⟩ := id hksu_20
  have sm_22 := (sm_10).tr (smu_20)
  have h_23 := h_11.book htax_5 hBu_9 hBu_20 hVu_20 smu_20 (by first | omega | (rw [upV_s]; omega)) (by first | omega | (rw [upV_s]; omega))
  rw [show (upV (upV T ux_4.b ((T ux_4.b) + 1)) ux_4.b ((T ux_4.b) + 1)) = (upV T ux_4.b ((T ux_4.b) + 1)) from upV_upV] at h_23
  have h_24 : Vw _ y_3 (qb ux_4.b) (iN ux_4.lo) (iN ux_4.up) (iN (swN (O ux_4.b) ux_4.lo ux_4.li)) (iN (ewN (O ux_4.b) ux_4.lo ux_4.li ux_4.up ux_4.ui)) ux_4.li ux_4.ui := And.intro (x_kB hBu_9 smu_20 (by decide) h_12.1) h_12.2
  show W p l e R s m args below meth c H locs _ _ _ (F0 m 28 ls [.int (iN (z_21))])
  exact vx_ret (x_iret hC hw dX3_viewClear_28 (by first | decide | omega) (by first | decide | omega) ⟨z_21, rfl, ⟨by omega, by omega⟩, ⟨(by first | omega | trivial), (by first | omega | trivial), (by first | omega | trivial)⟩, (by rw [A_viewClear, show tvW (ST.W (O, V, Wv, abK T C K, kk, kv, rf)) p0.toNat = ux_4 from tvW_some hux_4]; have e8 : z_16 ≤ z_18 := (by have e9 := pl_mono hz_16p hz_18p (sw_le_ew (O ux_4.b) ux_4); omega); have e7 := mnP (by omega) hkx_5 hVx_6 hz_16p hz_18p (by omega) e8; show _ = mnF O V ux_4 100; omega), (by rw [S_viewClear, show tvW (ST.W (O, V, Wv, abK T C K, kk, kv, rf)) p0.toNat = ux_4 from tvW_some hux_4]; exact RG.mut hR.wg h_23 (by omega) hksu_20 (by omega) hcb (by omega) rfl)⟩)
set_option maxHeartbeats 4000000 in
set_option maxRecDepth 100000 in
theorem c_X3_walk (l : Launch) (G : xG) {M : HM} (hst : l.stackTraces = false) {h0 bs vs : Nat} {og : Option Nat} {kk kv rf : Int32} {qb qk qv : Nat → Nat} {fb fv : Nat → Option Nat} {O : OW} {Wv : VW} {V : BW} {T C : Nat → Int} {K : WA} {N : Int} (hR : RGx G M h0 bs vs og kk kv rf qb qk qv fb fv O O Wv V T C K) (hcb : cbN N T C) (hN : N ≤ 590) {p0 : Int} (hp0 : -2147483648 ≤ p0 ∧ p0 ≤ 2147483647) : xMetX l G yX3_walk wsX3_walk 7 111 3 18 [.ref h0, .int (iN (p0))] M (fun r M1 => ∃ z : Int, r = some (.int (iN z)) ∧ (-2147483648 ≤ z ∧ z ≤ 2147483647) ∧ ((0 ≤ p0 ∧ p0 ≤ 2)) ∧ z = A_walk (O, V, Wv, abK T C K, kk, kv, rf) p0 ∧ RG G M1 h0 (N + 1) (S_walk (O, V, Wv, abK T C K, kk, kv, rf) p0)) (fun E M1 => ((E = xIO ∧ ¬ (0 ≤ p0 ∧ p0 ≤ 2))) ∧ RG G M1 h0 (N + 1) (O, V, Wv, abK T C K, kk, kv, rf)) := by
  refine x_introX (cc := cX3_walk) (maxL := 2) (ret := (some .int)) (by exact pln_RX3) rfl (Nat.le_of_ble_eq_true rfl) ?_
  intro p e R s m args below meth c ls hRf hRc hRs hRl htab hC hw hl
  have hinX1 : ∀ w ∈ wsX10, w ∈ wsX3_walk := fun w h => (List.mem_cons_of_mem _ (List.mem_append_left _ (List.mem_append_left _ (List.mem_append_left _ (List.mem_append_left _ (List.mem_append_right _ h))))))
  have hl : lv_has ls 2 [(0, .ref h0), (1, .int (iN (p0)))] := hl
  refine lv_aload_n hC.1 hC.2.1 dX3_walk_0 rfl (lv_at hl 0 rfl) ?_
  refine x_new (fs := [.null, .int 0, .int 0, .int 0, .int 0, .int 0, .int 0]) (ci := 3) hC hw rfl hinX1 tyX1 tyX1_ok (by decide +kernel) (by decide +kernel) (by decide +kernel) (fun j hj => by rcases (show j = 0 ∨ j = 1 ∨ j = 2 ∨ j = 3 ∨ j = 4 ∨ j = 5 ∨ j = 6 by omega) with rfl | rfl | rfl | rfl | rfl | rfl | rfl <;> rfl) (by omega) (by omega) dX3_walk_1 (fun q_1 H hq_4 hw => ?_)
  obtain ⟨M_2, hM_3⟩ : ∃ z, z = va_up M q_1 (some (.inr (3, [.null, .int 0, .int 0, .int 0, .int 0, .int 0, .int 0]))) := ⟨_, rfl⟩
  rw [← hM_3] at hw
  have hx_5 : xExt M M_2 := by rw [hM_3]; exact xExt.new hq_4
  have hf_6 : M_2 q_1 = some (.inr (3, [.null, .int 0, .int 0, .int 0, .int 0, .int 0, .int 0])) := by rw [hM_3, va_up_self]
  have h_7 := hR.ext hx_5
  refine lv_dup hC.1 hC.2.1 dX3_walk_4 rfl ?_
  refine lv_aload_n hC.1 hC.2.1 dX3_walk_5 rfl (lv_at hl 0 rfl) ?_
  refine lv_iload_n hC.1 hC.2.1 dX3_walk_6 rfl (lv_at hl 1 rfl) ?_
  refine x_callVX hC hw (lv_size hl) (c_X3_bookAt l G hst h_7 hcb hN (p0 := p0) (by first | assumption | omega)) gX3_walk_X3_bookAt rfl dv_X3_bookAt h_7.1 rfl rfl (Nat.le_of_ble_eq_true rfl) (by rw [hRf]; decide) (by rw [hRl]; decide) (by first | (rw [hRc]; decide) | omega) (by first | (rw [hRs]; decide) | omega) dX3_walk_7 (fun E ce q9 M_8 H locs hqx hw hcell hcv hcls => ?_) (fun r9 M_8 H locs hq hw => ?_)
  · rw [hqx.2] at hw
    obtain ⟨hE, hc9⟩ := hqx.1
    replace hqx := hqx.2
    subst hE
    exact x_outX hC hw htab hcell hcv hcls (by first | decide | omega) (by first | decide | omega) ⟨⟨rfl, (by first | exact hc9 | omega | trivial)⟩, (RG.of (N2 := N + 1) h_7 hcb (by omega) (by omega))⟩
  obtain ⟨rfl, hM9, hk_9, hk_9b⟩ := hq
  rw [hM9] at hw
  have hik_9 : (p0).toNat < 3 := by omega
  obtain ⟨szx_10, fkx_10, fwx_10, hBx_10, hVx_10⟩ := h_7.bk hik_9
  obtain ⟨-, -, -, -, hsax_10, hsbx_10⟩ := id hBx_10
  have holx_10 := h_7.ol hik_9
  have hctx_10 := hcb.2 _ hik_9
  show W p l e R s m args below meth c H locs _ _ _ (F0 m 10 ls [.ref (qb ((p0).toNat)), .ref q_1, .ref q_1, .ref h0])
  refine x_sipush hC dX3_walk_10 (by decide +kernel) ?_
  refine x_const hC dX3_walk_13 ?_
  refine x_sipush hC dX3_walk_14 (by decide +kernel) ?_
  refine x_const hC dX3_walk_17 ?_
  refine x_callI hC hw (lv_size hl) (c_X1_init l G hf_6 hBx_10 (show (O ((p0).toNat)) < 3 by first | assumption | omega) hVx_10 (by first | assumption | omega) (by first | assumption | omega) (p0 := (-10000)) (by omega) (p1 := 0) (by omega) (p2 := (-10000)) (by omega) (p3 := 0) (by omega) (by omega) (by omega) (by omega) (by omega)) gX3_walk_X1_init rfl (by decide +kernel) (by decide +kernel) (by decide +kernel) rfl dv_X1_init_s rfl (Nat.le_of_ble_eq_true rfl) (by rw [hRf]; decide) (by rw [hRl]; decide) (by first | (rw [hRc]; decide) | omega) (by first | (rw [hRs]; decide) | omega) dX3_walk_18 (fun r9 M_11 H locs hq hw => ?_)
  obtain ⟨rfl, hVk_12, smk_12⟩ := hq
  have hxk_12 : xExt M M_11 := fun a e he => (smk_12 a (fun z => by rw [z, hq_4] at he; cases he)).trans (by rw [hM_3, va_up_ne _ _ (fun z => by rw [z, hq_4] at he; cases he)]; exact he)
  have h_13 := hR.ext hxk_12
  obtain ⟨szx_14, fkx_14, fwx_14, hBx_14, hVx_14⟩ := h_13.bk hik_9
  obtain ⟨-, -, -, -, hsax_14, hsbx_14⟩ := id hBx_14
  have holx_14 := h_13.ol hik_9
  have hctx_14 := hcb.2 _ hik_9
  show W p l e R s m args below meth c H locs _ _ _ (F0 m 21 ls [.ref q_1, .ref h0])
  refine x_callV hC hw (lv_size hl) (c_X3_beginWalk l G h_13 hcb hN (y := q_1) (u9 := ((p0).toNat, (-10000), (-10000), 0, 0)) ⟨(⟨hik_9, (show (-10000) = -10000 ∨ (0 ≤ (-10000) ∧ (-10000) ≤ 99) by omega), (show (-10000) = -10000 ∨ (0 ≤ (-10000) ∧ (-10000) ≤ 99) by omega), (show 0 = 0 ∨ 0 = 1 by omega), (show 0 = 0 ∨ 0 = 1 by omega)⟩ : VT.ok ((p0).toNat, (-10000), (-10000), 0, 0)), hVk_12⟩) gX3_walk_X3_beginWalk rfl dv_X3_beginWalk h_13.1 rfl rfl (Nat.le_of_ble_eq_true rfl) (by rw [hRf]; decide) (by rw [hRl]; decide) (by first | (rw [hRc]; decide) | omega) (by first | (rw [hRs]; decide) | omega) dX3_walk_21 (fun r9 M_15 H locs hq hw => ?_)
  obtain ⟨z_17, rfl, hz_17, hz_17m, wk_16, hRk_16⟩ := hq
  show W p l e R s m args below meth c H locs _ _ _ (F0 m 24 ls [.int (iN (z_17))])
  exact vx_ret (x_iret hC hw dX3_walk_24 (by first | decide | omega) (by first | decide | omega) ⟨z_17, rfl, ⟨by omega, by omega⟩, ⟨(by first | omega | trivial), (by first | omega | trivial)⟩, hz_17m, (by have e9 := (RG.of (N2 := N + 1) hRk_16 hcb (by omega) (by omega)); rw [abK_new rfl] at e9; exact e9)⟩)
set_option maxHeartbeats 4000000 in
set_option maxRecDepth 100000 in
theorem c_X3_viewWalk (l : Launch) (G : xG) {M : HM} (hst : l.stackTraces = false) {h0 bs vs : Nat} {og : Option Nat} {kk kv rf : Int32} {qb qk qv : Nat → Nat} {fb fv : Nat → Option Nat} {O : OW} {Wv : VW} {V : BW} {T C : Nat → Int} {K : WA} {N : Int} (hR : RGx G M h0 bs vs og kk kv rf qb qk qv fb fv O O Wv V T C K) (hcb : cbN N T C) (hN : N ≤ 590) {p0 : Int} (hp0 : -2147483648 ≤ p0 ∧ p0 ≤ 2147483647) : xMetX l G yX3_viewWalk wsX3_viewWalk 7 111 2 11 [.ref h0, .int (iN (p0))] M (fun r M1 => ∃ z : Int, r = some (.int (iN z)) ∧ (-2147483648 ≤ z ∧ z ≤ 2147483647) ∧ ((0 ≤ p0 ∧ p0 ≤ 3 ∧ opN (Wv p0.toNat) = 1)) ∧ z = A_viewWalk (O, V, Wv, abK T C K, kk, kv, rf) p0 ∧ RG G M1 h0 (N + 1) (S_viewWalk (O, V, Wv, abK T C K, kk, kv, rf) p0)) (fun E M1 => ((E = xIO ∧ ¬ (0 ≤ p0 ∧ p0 ≤ 3 ∧ opN (Wv p0.toNat) = 1))) ∧ RG G M1 h0 (N + 1) (O, V, Wv, abK T C K, kk, kv, rf)) := by
  refine x_introX (cc := cX3_viewWalk) (maxL := 2) (ret := (some .int)) (by exact pln_RX3) rfl (Nat.le_of_ble_eq_true rfl) ?_
  intro p e R s m args below meth c ls hRf hRc hRs hRl htab hC hw hl
  have hl : lv_has ls 2 [(0, .ref h0), (1, .int (iN (p0)))] := hl
  refine lv_aload_n hC.1 hC.2.1 dX3_viewWalk_0 rfl (lv_at hl 0 rfl) ?_
  refine lv_aload_n hC.1 hC.2.1 dX3_viewWalk_1 rfl (lv_at hl 0 rfl) ?_
  refine lv_iload_n hC.1 hC.2.1 dX3_viewWalk_2 rfl (lv_at hl 1 rfl) ?_
  refine x_callVX hC hw (lv_size hl) (c_X3_viewAt l G hst hR hcb hN (p0 := p0) (by first | assumption | omega)) gX3_viewWalk_X3_viewAt rfl dv_X3_viewAt hR.1 rfl rfl (Nat.le_of_ble_eq_true rfl) (by rw [hRf]; decide) (by rw [hRl]; decide) (by first | (rw [hRc]; decide) | omega) (by first | (rw [hRs]; decide) | omega) dX3_viewWalk_3 (fun E ce q9 M_1 H locs hqx hw hcell hcv hcls => ?_) (fun r9 M_1 H locs hq hw => ?_)
  · rw [hqx.2] at hw
    obtain ⟨hE, hc9⟩ := hqx.1
    replace hqx := hqx.2
    subst hE
    exact x_outX hC hw htab hcell hcv hcls (by first | decide | omega) (by first | decide | omega) ⟨⟨rfl, (by first | exact hc9 | omega | trivial)⟩, (RG.of (N2 := N + 1) hR hcb (by omega) (by omega))⟩
  obtain ⟨y_3, rfl, hM9, hk_2, hk_2b, hyk_2⟩ := hq
  rw [hM9] at hw
  obtain ⟨ux_4, hux_4, hTx_4⟩ := (hR.vwo (show (p0).toNat < 4 from tn_lt (by omega) (by decide))).yes hyk_2
  have hpx_4 := opN_some hux_4
  have hkx_5 := hTx_4.1
  have hvx_5 := hTx_4.2
  have hlix_5 := hvx_5.2.1
  have huix_5 := hvx_5.2.2
  obtain ⟨htax_5, htbx_5, htcx_5, htdx_5, htex_5⟩ := id hkx_5
  obtain ⟨szx_6, fkx_6, fwx_6, hBx_6, hVx_6⟩ := hR.bk htax_5
  obtain ⟨-, -, -, -, hsax_6, hsbx_6⟩ := id hBx_6
  have holx_6 := hR.ol htax_5
  have hctx_6 := hcb.2 _ htax_5
  show W p l e R s m args below meth c H locs _ _ _ (F0 m 6 ls [.ref y_3, .ref h0])
  refine x_callV hC hw (lv_size hl) (c_X3_beginWalk l G hR hcb hN (y := y_3) (u9 := ux_4) ⟨hkx_5, hvx_5⟩) gX3_viewWalk_X3_beginWalk rfl dv_X3_beginWalk hR.1 rfl rfl (Nat.le_of_ble_eq_true rfl) (by rw [hRf]; decide) (by rw [hRl]; decide) (by first | (rw [hRc]; decide) | omega) (by first | (rw [hRs]; decide) | omega) dX3_viewWalk_6 (fun r9 M_7 H locs hq hw => ?_)
  obtain ⟨z_9, rfl, hz_9, hz_9m, wk_8, hRk_8⟩ := hq
  show W p l e R s m args below meth c H locs _ _ _ (F0 m 9 ls [.int (iN (z_9))])
  exact vx_ret (x_iret hC hw dX3_viewWalk_9 (by first | decide | omega) (by first | decide | omega) ⟨z_9, rfl, ⟨by omega, by omega⟩, ⟨(by first | omega | trivial), (by first | omega | trivial), (by first | omega | trivial)⟩, (by rw [A_viewWalk, show tvW (ST.W (O, V, Wv, abK T C K, kk, kv, rf)) p0.toNat = ux_4 from tvW_some hux_4]; exact hz_9m), (by rw [S_viewWalk, show tvW (ST.W (O, V, Wv, abK T C K, kk, kv, rf)) p0.toNat = ux_4 from tvW_some hux_4]; have e9 := (RG.of (N2 := N + 1) hRk_8 hcb (by omega) (by omega)); rw [abK_new rfl] at e9; exact e9)⟩)
set_option maxHeartbeats 4000000 in
set_option maxRecDepth 100000 in
theorem c_X3_step (l : Launch) (G : xG) {M : HM} (hst : l.stackTraces = false) {h0 bs vs : Nat} {og : Option Nat} {kk kv rf : Int32} {qb qk qv : Nat → Nat} {fb fv : Nat → Option Nat} {O : OW} {Wv : VW} {V : BW} {T C : Nat → Int} {K : WA} {N : Int} (hR : RGx G M h0 bs vs og kk kv rf qb qk qv fb fv O O Wv V T C K) (hcb : cbN N T C) (hN : N ≤ 590) : xMetX l G yX3_step wsX3_step 7 110 1 6 [.ref h0] M (fun r M1 => ∃ z : Int, r = some (.int (iN z)) ∧ (-2147483648 ≤ z ∧ z ≤ 2147483647) ∧ ((kS (abK T C K) = 1)) ∧ z = A_step (O, V, Wv, abK T C K, kk, kv, rf) ∧ RG G M1 h0 (N + 1) (S_step (O, V, Wv, abK T C K, kk, kv, rf))) (fun E M1 => ((E = xIS ∧ ¬ (kS (abK T C K) = 1))) ∧ RG G M1 h0 (N + 1) (O, V, Wv, abK T C K, kk, kv, rf)) := by
  refine x_introX (cc := cX3_step) (maxL := 1) (ret := (some .int)) (by exact pln_RX3) rfl (Nat.le_of_ble_eq_true rfl) ?_
  intro p e R s m args below meth c ls hRf hRc hRs hRl htab hC hw hl
  have hl : lv_has ls 1 [(0, .ref h0)] := hl
  refine lv_aload_n hC.1 hC.2.1 dX3_step_0 rfl (lv_at hl 0 rfl) ?_
  refine x_callVX hC hw (lv_size hl) (c_X3_soundWalk l G hst hR hcb hN) gX3_step_X3_soundWalk rfl dv_X3_soundWalk hR.1 rfl rfl (Nat.le_of_ble_eq_true rfl) (by rw [hRf]; decide) (by rw [hRl]; decide) (by first | (rw [hRc]; decide) | omega) (by first | (rw [hRs]; decide) | omega) dX3_step_1 (fun E ce q9 M_1 H locs hqx hw hcell hcv hcls => ?_) (fun r9 M_1 H locs hq hw => ?_)
  · rw [hqx.2] at hw
    obtain ⟨hE, hc9⟩ := hqx.1
    replace hqx := hqx.2
    subst hE
    exact x_outX hC hw htab hcell hcv hcls (by first | decide | omega) (by first | decide | omega) ⟨⟨rfl, (by first | exact hc9 | omega | trivial)⟩, (RG.of (N2 := N + 1) hR hcb (by omega) (by omega))⟩
  obtain ⟨w_2, rfl, hM9, hog_w_2, hks_w_2⟩ := hq
  rw [hM9] at hw
  subst hog_w_2
  obtain ⟨tx_3, psx_3, cdx_3, twx_3, kwx_3, yx_3, hKx_3, hWx_3, hTx_3⟩ := WkO.yes hR.wk
  subst hKx_3
  obtain ⟨hwax_3, hwbx_3, hwcx_3, hwdx_3, hwex_3⟩ := hR.wg
  have hwfx_3 := hwcx_3.imp id And.left
  have hkx_4 := hTx_3.1
  have hvx_4 := hTx_3.2
  have hlix_4 := hvx_4.2.1
  have huix_4 := hvx_4.2.2
  obtain ⟨htax_4, htbx_4, htcx_4, htdx_4, htex_4⟩ := id hkx_4
  obtain ⟨szx_5, fkx_5, fwx_5, hBx_5, hVx_5⟩ := hR.bk htax_4
  obtain ⟨-, -, -, -, hsax_5, hsbx_5⟩ := id hBx_5
  have holx_5 := hR.ol htax_4
  have hctx_5 := hcb.2 _ htax_4
  have hksx_3 := kS_ab (T := T) (C := C) (t := tx_3) (ps := psx_3) (cd := cdx_3) (tw := twx_3) (kw := kwx_3)
  have hkhx_3 := kH_ab (T := T) (C := C) (t := tx_3) (ps := psx_3) (cd := cdx_3) (tw := twx_3) (kw := kwx_3)
  have hkcx_3 := kC_ab (T := T) (C := C) (t := tx_3) (ps := psx_3) (cd := cdx_3) (tw := twx_3) (kw := kwx_3)
  have hkbx_3 := kB_ab (T := T) (C := C) (t := tx_3) (ps := psx_3) (cd := cdx_3) (tw := twx_3) (kw := kwx_3)
  have hkpx_3 := kP_ab (T := T) (C := C) (t := tx_3) (ps := psx_3) (cd := cdx_3) (tw := twx_3) (kw := kwx_3)
  have hswx_3 : kwx_3 = C tx_3.b := hksx_3.mp hks_w_2
  show W p l e R s m args below meth c H locs _ _ _ (F0 m 4 ls [.ref w_2])
  refine x_callV hC hw (lv_size hl) (c_X2_advance l G hWx_3 ⟨by omega, by omega, by omega⟩ hkx_4 hvx_4 hBx_5 (show (O tx_3.b) < 3 by first | assumption | omega) hVx_5 (by first | assumption | omega) (by first | assumption | omega) (O := O) (V := V) (t9 := tx_3) (fun h9 => (hwcx_3.resolve_left h9).2)) gX3_step_X2_advance rfl dv_X2_advance hWx_3.1 rfl rfl (Nat.le_of_ble_eq_true rfl) (by rw [hRf]; decide) (by rw [hRl]; decide) (by first | (rw [hRc]; decide) | omega) (by first | (rw [hRs]; decide) | omega) dX3_step_4 (fun r9 M_6 H locs hq hw => ?_)
  obtain ⟨z_8, rfl, hz_8, hz_8c, psu_7, ttu_7, cdu_7, hWu_7, smu_7, hxu_7⟩ := hq
  have hcdu_7 := hWu_7.2
  have hgu_7 := WkG.step hR.wg (by omega) hz_8c hxu_7
  have hRu_7 := hR.step hWx_3 hWu_7 smu_7 hgu_7
  show W p l e R s m args below meth c H locs _ _ _ (F0 m 7 ls [.int (iN (z_8))])
  exact vx_ret (x_iret hC hw dX3_step_7 (by first | decide | omega) (by first | decide | omega) ⟨z_8, rfl, ⟨by omega, by omega⟩, (by first | omega | trivial), (RG.step hRu_7 hswx_3 hz_8c hxu_7 hcb (by omega)).1, (RG.step hRu_7 hswx_3 hz_8c hxu_7 hcb (by omega)).2⟩)
set_option maxHeartbeats 4000000 in
set_option maxRecDepth 100000 in
theorem c_X3_write (l : Launch) (G : xG) {M : HM} (hst : l.stackTraces = false) {h0 bs vs : Nat} {og : Option Nat} {kk kv rf : Int32} {qb qk qv : Nat → Nat} {fb fv : Nat → Option Nat} {O : OW} {Wv : VW} {V : BW} {T C : Nat → Int} {K : WA} {N : Int} (hR : RGx G M h0 bs vs og kk kv rf qb qk qv fb fv O O Wv V T C K) (hcb : cbN N T C) (hN : N ≤ 590) {p0 : Int} (hp0 : -2147483648 ≤ p0 ∧ p0 ≤ 2147483647) : xMetX l G yX3_write wsX3_write 7 110 3 18 [.ref h0, .int (iN (p0))] M (fun r M1 => ∃ z : Int, r = some (.int (iN z)) ∧ (-2147483648 ≤ z ∧ z ≤ 2147483647) ∧ ((-9999 ≤ p0 ∧ p0 ≤ 9999) ∧ (kS (abK T C K) = 1 ∧ kH (abK T C K) = 1)) ∧ z = A_write (O, V, Wv, abK T C K, kk, kv, rf) p0 ∧ RG G M1 h0 (N + 1) (S_write (O, V, Wv, abK T C K, kk, kv, rf) p0)) (fun E M1 => ((E = xIA ∧ ¬ (-9999 ≤ p0 ∧ p0 ≤ 9999)) ∨ (E = xIS ∧ (-9999 ≤ p0 ∧ p0 ≤ 9999) ∧ ¬ (kS (abK T C K) = 1 ∧ kH (abK T C K) = 1))) ∧ RG G M1 h0 (N + 1) (O, V, Wv, abK T C K, kk, kv, rf)) := by
  refine x_introX (cc := cX3_write) (maxL := 4) (ret := (some .int)) (by exact pln_RX3) rfl (Nat.le_of_ble_eq_true rfl) ?_
  intro p e R s m args below meth c ls hRf hRc hRs hRl htab hC hw hl
  have hl : lv_has ls 4 [(0, .ref h0), (1, .int (iN (p0)))] := hl
  refine lv_iload_n hC.1 hC.2.1 dX3_write_0 rfl (lv_at hl 1 rfl) ?_
  refine x_callSX hC hw (lv_size hl) (c_X3_checkValue l G (M := M) hst (p0 := p0) (by first | assumption | omega)) gX3_write_X3_checkValue rfl dv_X3_checkValue_s rfl (Nat.le_of_ble_eq_true rfl) (by rw [hRf]; decide) (by rw [hRl]; decide) (by first | (rw [hRc]; decide) | omega) (by first | (rw [hRs]; decide) | omega) dX3_write_1 (fun E ce q9 M_1 H locs hqx hw hcell hcv hcls => ?_) (fun r9 M_1 H locs hq hw => ?_)
  · rw [hqx.2] at hw
    obtain ⟨hE, hc9⟩ := hqx.1
    replace hqx := hqx.2
    subst hE
    exact x_outX hC hw htab hcell hcv hcls (by first | decide | omega) (by first | decide | omega) ⟨Or.inl ⟨rfl, (by first | exact hc9 | omega | trivial)⟩, (RG.of (N2 := N + 1) hR hcb (by omega) (by omega))⟩
  obtain ⟨rfl, hM9, hk_2⟩ := hq
  rw [hM9] at hw
  show W p l e R s m args below meth c H locs _ _ _ (F0 m 4 ls [])
  refine lv_aload_n hC.1 hC.2.1 dX3_write_4 rfl (lv_at hl 0 rfl) ?_
  refine x_callVX hC hw (lv_size hl) (c_X3_soundWalk l G hst hR hcb hN) gX3_write_X3_soundWalk rfl dv_X3_soundWalk hR.1 rfl rfl (Nat.le_of_ble_eq_true rfl) (by rw [hRf]; decide) (by rw [hRl]; decide) (by first | (rw [hRc]; decide) | omega) (by first | (rw [hRs]; decide) | omega) dX3_write_5 (fun E ce q9 M_3 H locs hqx hw hcell hcv hcls => ?_) (fun r9 M_3 H locs hq hw => ?_)
  · rw [hqx.2] at hw
    obtain ⟨hE, hc9⟩ := hqx.1
    replace hqx := hqx.2
    subst hE
    exact x_outX hC hw htab hcell hcv hcls (by first | decide | omega) (by first | decide | omega) ⟨Or.inr (⟨rfl, ⟨⟨(by first | omega | trivial), (by first | omega | trivial)⟩, (by first | exact hc9 | omega | trivial)⟩⟩), (RG.of (N2 := N + 1) hR hcb (by omega) (by omega))⟩
  obtain ⟨w_4, rfl, hM9, hog_w_4, hks_w_4⟩ := hq
  rw [hM9] at hw
  subst hog_w_4
  obtain ⟨tx_5, psx_5, cdx_5, twx_5, kwx_5, yx_5, hKx_5, hWx_5, hTx_5⟩ := WkO.yes hR.wk
  subst hKx_5
  obtain ⟨hwax_5, hwbx_5, hwcx_5, hwdx_5, hwex_5⟩ := hR.wg
  have hwfx_5 := hwcx_5.imp id And.left
  have hkx_6 := hTx_5.1
  have hvx_6 := hTx_5.2
  have hlix_6 := hvx_6.2.1
  have huix_6 := hvx_6.2.2
  obtain ⟨htax_6, htbx_6, htcx_6, htdx_6, htex_6⟩ := id hkx_6
  obtain ⟨szx_7, fkx_7, fwx_7, hBx_7, hVx_7⟩ := hR.bk htax_6
  obtain ⟨-, -, -, -, hsax_7, hsbx_7⟩ := id hBx_7
  have holx_7 := hR.ol htax_6
  have hctx_7 := hcb.2 _ htax_6
  have hksx_5 := kS_ab (T := T) (C := C) (t := tx_5) (ps := psx_5) (cd := cdx_5) (tw := twx_5) (kw := kwx_5)
  have hkhx_5 := kH_ab (T := T) (C := C) (t := tx_5) (ps := psx_5) (cd := cdx_5) (tw := twx_5) (kw := kwx_5)
  have hkcx_5 := kC_ab (T := T) (C := C) (t := tx_5) (ps := psx_5) (cd := cdx_5) (tw := twx_5) (kw := kwx_5)
  have hkbx_5 := kB_ab (T := T) (C := C) (t := tx_5) (ps := psx_5) (cd := cdx_5) (tw := twx_5) (kw := kwx_5)
  have hkpx_5 := kP_ab (T := T) (C := C) (t := tx_5) (ps := psx_5) (cd := cdx_5) (tw := twx_5) (kw := kwx_5)
  have hswx_5 : kwx_5 = C tx_5.b := hksx_5.mp hks_w_4
  show W p l e R s m args below meth c H locs _ _ _ (F0 m 8 ls [.ref w_4])
  refine lv_astore_n (lv' := [(2, .ref w_4), (0, .ref h0), (1, .int (iN (p0)))]) hC.1 hC.2.1 dX3_write_8 rfl hl (by decide) rfl (fun ls hl => ?_)
  refine lv_aload_n hC.1 hC.2.1 dX3_write_9 rfl (lv_at hl 0 rfl) ?_
  refine x_callV hC hw (lv_size hl) (c_X2_keyAtHand l G hWx_5 ⟨by omega, by omega, by omega⟩ hkx_6 hvx_6 hBx_7 (show (O tx_5.b) < 3 by first | assumption | omega) hVx_7 (by first | assumption | omega) (by first | assumption | omega) (O := O) (V := V) (t9 := tx_5)) gX3_write_X2_keyAtHand rfl dv_X2_keyAtHand hWx_5.1 rfl rfl (Nat.le_of_ble_eq_true rfl) (by rw [hRf]; decide) (by rw [hRl]; decide) (by first | (rw [hRc]; decide) | omega) (by first | (rw [hRs]; decide) | omega) dX3_write_10 (fun r9 M_8 H locs hq hw => ?_)
  obtain ⟨z_9, rfl, hM9, hz_9, hz_9h⟩ := hq
  rw [hM9] at hw
  show W p l e R s m args below meth c H locs _ _ _ (F0 m 13 ls [.int (iN (z_9))])
  refine lv_istore_n (lv' := [(3, .int (iN (z_9))), (2, .ref w_4), (0, .ref h0), (1, .int (iN (p0)))]) hC.1 hC.2.1 dX3_write_13 rfl hl (by decide) rfl (fun ls hl => ?_)
  refine lv_iload_n hC.1 hC.2.1 dX3_write_14 rfl (lv_at hl 0 rfl) ?_
  refine x_sipush hC dX3_write_15 (by decide +kernel) ?_
  refine x_icmp_ne (tgt := 31) hC ⟨by omega, by omega⟩ ⟨by omega, by omega⟩ dX3_write_18 (by decide) (fun c_10 => ?_) (fun c_10 => ?_)
  · refine lv_aload_n hC.1 hC.2.1 dX3_write_31 rfl (lv_at hl 1 rfl) ?_
    refine x_callV hC hw (lv_size hl) (c_X2_book l G hWx_5 hvx_6) gX3_write_X2_book rfl dv_X2_book hWx_5.1 rfl rfl (Nat.le_of_ble_eq_true rfl) (by rw [hRf]; decide) (by rw [hRl]; decide) (by first | (rw [hRc]; decide) | omega) (by first | (rw [hRs]; decide) | omega) dX3_write_32 (fun r9 M_11 H locs hq hw => ?_)
    obtain ⟨rfl, hM9⟩ := hq
    rw [hM9] at hw
    show W p l e R s m args below meth c H locs _ _ _ (F0 m 35 ls [.ref (qb tx_5.b)])
    refine lv_iload_n hC.1 hC.2.1 dX3_write_35 rfl (lv_at hl 0 rfl) ?_
    refine lv_iload_n hC.1 hC.2.1 dX3_write_36 rfl (lv_at hl 3 rfl) ?_
    refine x_callV hC hw (lv_size hl) (c_X0_enter l G hBx_7 (show (O tx_5.b) < 3 by first | assumption | omega) hVx_7 (by first | assumption | omega) (by first | assumption | omega) (p0 := z_9) (by omega) (p1 := p0) (by first | assumption | omega) (by omega) (by omega)) gX3_write_X0_enter rfl dv_X0_enter hBx_7.1 rfl rfl (Nat.le_of_ble_eq_true rfl) (by rw [hRf]; decide) (by rw [hRl]; decide) (by first | (rw [hRc]; decide) | omega) (by first | (rw [hRs]; decide) | omega) dX3_write_37 (fun r9 M_12 H locs hq hw => ?_)
    obtain ⟨z_14, rfl, hz_14, hz_14v, kcu_13, szu_13, fku_13, fvu_13, hBu_13, smu_13, hVu_13, hksu_13, hka1u_13, hkb1u_13⟩ := hq
    obtain ⟨-, -, -, -, hsau_13, hsbu_13⟩ := id hBu_13
    obtain ⟨hkau_13, hkbu_13, -⟩ := id hksu_13
    have sm_15 := (xSm.rf (M := M) (b := (qb tx_5.b)) (k := (qk tx_5.b)) (v := (qv tx_5.b))).tr (smu_13)
    have h_16 := hR.book htax_6 hBx_7 hBu_13 hVu_13 smu_13 (by first | omega | (rw [upV_s]; omega)) (by first | omega | (rw [upV_s]; omega))
    rw [show (upV T tx_5.b (T tx_5.b)) = T from upV_same _ _] at h_16
    have h_17 : Vw _ yx_5 (qb tx_5.b) (iN tx_5.lo) (iN tx_5.up) (iN (swN (O tx_5.b) tx_5.lo tx_5.li)) (iN (ewN (O tx_5.b) tx_5.lo tx_5.li tx_5.up tx_5.ui)) tx_5.li tx_5.ui := And.intro (x_kB hBx_7 smu_13 (by decide) hvx_6.1) hvx_6.2
    have h_18 : Wk _ w_4 yx_5 (iN (psx_5)) (iN (twx_5)) (iN (kwx_5)) cdx_5 := And.intro (x_kB hBx_7 smu_13 (by decide) hWx_5.1) hWx_5.2
    show W p l e R s m args below meth c H locs _ _ _ (F0 m 40 ls [.int (iN (z_14))])
    exact vx_ret (x_iret hC hw dX3_write_40 (by first | decide | omega) (by first | decide | omega) ⟨z_14, rfl, ⟨by omega, by omega⟩, ⟨⟨(by first | omega | trivial), (by first | omega | trivial)⟩, ⟨(by first | omega | trivial), (by first | omega | trivial)⟩⟩, (by have e9 := hz_14v; rw [show z_9 = psx_5 by omega] at e9; exact e9), (by have e9 := h_16; rw [show z_9 = psx_5 by omega] at e9; exact RG.write e9 hswx_5 (fun h9 => hka1u_13 (by rw [show z_9 = psx_5 by omega]; exact h9)) (fun h9 => hkb1u_13 (by rw [show z_9 = psx_5 by omega]; exact h9)) (by omega) hcb (by omega))⟩)
  · exact x_throwS (cls := "java/lang/IllegalStateException") (text := "nothing is at hand") (names := ["java/lang/RuntimeException", "java/lang/Exception"]) hC hw hst htab (lv_size hl) tw_f2 tw_nm (List.mem_cons_of_mem _ (List.mem_append_left _ (List.mem_append_left _ (List.mem_append_left _ (List.mem_append_left _ (List.mem_append_left _ (List.mem_append_left _ (List.mem_append_left _ (List.mem_of_getElem? (i := 0) rfl))))))))) (List.mem_cons_of_mem _ (List.mem_append_left _ (List.mem_append_left _ (List.mem_append_left _ (List.mem_append_left _ (List.mem_append_left _ (List.mem_append_left _ (List.mem_append_left _ (List.mem_of_getElem? (i := 1) rfl))))))))) (fun w h => (List.mem_cons_of_mem _ (List.mem_append_left _ (List.mem_append_right _ h)))) tw_k42 tw_k52 (xlit_Rangeledger_190) tw_ca2 dX3_write_21 dX3_write_24 dX3_write_25 dX3_write_27 dX3_write_30 (by rw [hRf]; decide) (by rw [hRl]; exact Nat.le_of_ble_eq_true rfl) (by first | (rw [hRc]; decide) | omega) (by first | (rw [hRs]; decide) | omega) (by omega) (by omega) ⟨Or.inr (⟨rfl, ⟨⟨(by first | omega | trivial), (by first | omega | trivial)⟩, (by first | exact hc9 | omega | trivial)⟩⟩), (RG.of (N2 := N + 1) hR hcb (by omega) (by omega))⟩
set_option maxHeartbeats 4000000 in
set_option maxRecDepth 100000 in
theorem c_X3_drop (l : Launch) (G : xG) {M : HM} (hst : l.stackTraces = false) {h0 bs vs : Nat} {og : Option Nat} {kk kv rf : Int32} {qb qk qv : Nat → Nat} {fb fv : Nat → Option Nat} {O : OW} {Wv : VW} {V : BW} {T C : Nat → Int} {K : WA} {N : Int} (hR : RGx G M h0 bs vs og kk kv rf qb qk qv fb fv O O Wv V T C K) (hcb : cbN N T C) (hN : N ≤ 590) : xMetX l G yX3_drop wsX3_drop 7 112 2 12 [.ref h0] M (fun r M1 => ∃ z : Int, r = some (.int (iN z)) ∧ (-2147483648 ≤ z ∧ z ≤ 2147483647) ∧ ((kS (abK T C K) = 1 ∧ kC (abK T C K) = 1)) ∧ z = A_drop (O, V, Wv, abK T C K, kk, kv, rf) ∧ RG G M1 h0 (N + 1) (S_drop (O, V, Wv, abK T C K, kk, kv, rf))) (fun E M1 => ((E = xIS ∧ ¬ (kS (abK T C K) = 1 ∧ kC (abK T C K) = 1))) ∧ RG G M1 h0 (N + 1) (O, V, Wv, abK T C K, kk, kv, rf)) := by
  refine x_introX (cc := cX3_drop) (maxL := 2) (ret := (some .int)) (by exact pln_RX3) rfl (Nat.le_of_ble_eq_true rfl) ?_
  intro p e R s m args below meth c ls hRf hRc hRs hRl htab hC hw hl
  have hl : lv_has ls 2 [(0, .ref h0)] := hl
  refine lv_aload_n hC.1 hC.2.1 dX3_drop_0 rfl (lv_at hl 0 rfl) ?_
  refine x_callVX hC hw (lv_size hl) (c_X3_soundWalk l G hst hR hcb hN) gX3_drop_X3_soundWalk rfl dv_X3_soundWalk hR.1 rfl rfl (Nat.le_of_ble_eq_true rfl) (by rw [hRf]; decide) (by rw [hRl]; decide) (by first | (rw [hRc]; decide) | omega) (by first | (rw [hRs]; decide) | omega) dX3_drop_1 (fun E ce q9 M_1 H locs hqx hw hcell hcv hcls => ?_) (fun r9 M_1 H locs hq hw => ?_)
  · rw [hqx.2] at hw
    obtain ⟨hE, hc9⟩ := hqx.1
    replace hqx := hqx.2
    subst hE
    exact x_outX hC hw htab hcell hcv hcls (by first | decide | omega) (by first | decide | omega) ⟨⟨rfl, (by first | exact hc9 | omega | trivial)⟩, (RG.of (N2 := N + 1) hR hcb (by omega) (by omega))⟩
  obtain ⟨w_2, rfl, hM9, hog_w_2, hks_w_2⟩ := hq
  rw [hM9] at hw
  subst hog_w_2
  obtain ⟨tx_3, psx_3, cdx_3, twx_3, kwx_3, yx_3, hKx_3, hWx_3, hTx_3⟩ := WkO.yes hR.wk
  subst hKx_3
  obtain ⟨hwax_3, hwbx_3, hwcx_3, hwdx_3, hwex_3⟩ := hR.wg
  have hwfx_3 := hwcx_3.imp id And.left
  have hkx_4 := hTx_3.1
  have hvx_4 := hTx_3.2
  have hlix_4 := hvx_4.2.1
  have huix_4 := hvx_4.2.2
  obtain ⟨htax_4, htbx_4, htcx_4, htdx_4, htex_4⟩ := id hkx_4
  obtain ⟨szx_5, fkx_5, fwx_5, hBx_5, hVx_5⟩ := hR.bk htax_4
  obtain ⟨-, -, -, -, hsax_5, hsbx_5⟩ := id hBx_5
  have holx_5 := hR.ol htax_4
  have hctx_5 := hcb.2 _ htax_4
  have hksx_3 := kS_ab (T := T) (C := C) (t := tx_3) (ps := psx_3) (cd := cdx_3) (tw := twx_3) (kw := kwx_3)
  have hkhx_3 := kH_ab (T := T) (C := C) (t := tx_3) (ps := psx_3) (cd := cdx_3) (tw := twx_3) (kw := kwx_3)
  have hkcx_3 := kC_ab (T := T) (C := C) (t := tx_3) (ps := psx_3) (cd := cdx_3) (tw := twx_3) (kw := kwx_3)
  have hkbx_3 := kB_ab (T := T) (C := C) (t := tx_3) (ps := psx_3) (cd := cdx_3) (tw := twx_3) (kw := kwx_3)
  have hkpx_3 := kP_ab (T := T) (C := C) (t := tx_3) (ps := psx_3) (cd := cdx_3) (tw := twx_3) (kw := kwx_3)
  have hswx_3 : kwx_3 = C tx_3.b := hksx_3.mp hks_w_2
  show W p l e R s m args below meth c H locs _ _ _ (F0 m 4 ls [.ref w_2])
  refine lv_astore_n (lv' := [(1, .ref w_2), (0, .ref h0)]) hC.1 hC.2.1 dX3_drop_4 rfl hl (by decide) rfl (fun ls hl => ?_)
  refine lv_aload_n hC.1 hC.2.1 dX3_drop_5 rfl (lv_at hl 0 rfl) ?_
  refine x_callV hC hw (lv_size hl) (c_X2_canDrop l G hWx_3 hvx_4) gX3_drop_X2_canDrop rfl dv_X2_canDrop hWx_3.1 rfl rfl (Nat.le_of_ble_eq_true rfl) (by rw [hRf]; decide) (by rw [hRl]; decide) (by first | (rw [hRc]; decide) | omega) (by first | (rw [hRs]; decide) | omega) dX3_drop_6 (fun r9 M_6 H locs hq hw => ?_)
  obtain ⟨rfl, hM9⟩ := hq
  rw [hM9] at hw
  show W p l e R s m args below meth c H locs _ _ _ (F0 m 9 ls [.int (iN (cdx_3))])
  refine x_if_ne (tgt := 22) hC ⟨by omega, by omega⟩ dX3_drop_9 (by decide) (fun c_7 => ?_) (fun c_7 => ?_)
  · refine lv_aload_n hC.1 hC.2.1 dX3_drop_22 rfl (lv_at hl 0 rfl) ?_
    refine x_callV hC hw (lv_size hl) (c_X2_dropLastStep l G hWx_3 ⟨by omega, by omega, by omega⟩ hkx_4 hvx_4 hBx_5 (show (O tx_3.b) < 3 by first | assumption | omega) hVx_5 (by first | assumption | omega) (by first | assumption | omega) (O := O) (V := V) (t9 := tx_3) (by omega)) gX3_drop_X2_dropLastStep rfl dv_X2_dropLastStep hWx_3.1 rfl rfl (Nat.le_of_ble_eq_true rfl) (by rw [hRf]; decide) (by rw [hRl]; decide) (by first | (rw [hRc]; decide) | omega) (by first | (rw [hRs]; decide) | omega) dX3_drop_23 (fun r9 M_8 H locs hq hw => ?_)
    obtain ⟨rfl, kcu_9, szu_9, fku_9, fvu_9, hWu_9, hBu_9, hVu_9, hksu_9, fru_9⟩ := hq
    obtain ⟨-, -, -, -, hsau_9, hsbu_9⟩ := id hBu_9
    obtain ⟨hkau_9, hkbu_9, -⟩ := id hksu_9
    have hgu_9 := WkG.dropped (c1 := kcu_9) hR.wg (by omega) (by omega)
    have hRu_9 := hR.drop htax_4 hBx_5 hWx_3 hWu_9 hBu_9 hVu_9 fru_9 hgu_9
    have hTu_9 := hRu_9.wy hWu_9
    have hvu_9 := hTu_9.2
    show W p l e R s m args below meth c H locs _ _ _ (F0 m 26 ls [])
    refine lv_aload_n hC.1 hC.2.1 dX3_drop_26 rfl (lv_at hl 0 rfl) ?_
    refine x_callV hC hw (lv_size hl) (c_X2_book l G hWu_9 hvu_9) gX3_drop_X2_book rfl dv_X2_book hWu_9.1 rfl rfl (Nat.le_of_ble_eq_true rfl) (by rw [hRf]; decide) (by rw [hRl]; decide) (by first | (rw [hRc]; decide) | omega) (by first | (rw [hRs]; decide) | omega) dX3_drop_27 (fun r9 M_10 H locs hq hw => ?_)
    obtain ⟨rfl, hM9⟩ := hq
    rw [hM9] at hw
    show W p l e R s m args below meth c H locs _ _ _ (F0 m 30 ls [.ref (qb tx_3.b)])
    refine x_callV hC hw (lv_size hl) (c_X0_size l G hBu_9 (show (O tx_3.b) < 3 by first | assumption | omega) hVu_9 (by first | assumption | omega) (by first | assumption | omega)) gX3_drop_X0_size rfl dv_X0_size hBu_9.1 rfl rfl (Nat.le_of_ble_eq_true rfl) (by rw [hRf]; decide) (by rw [hRl]; decide) (by first | (rw [hRc]; decide) | omega) (by first | (rw [hRs]; decide) | omega) dX3_drop_30 (fun r9 M_11 H locs hq hw => ?_)
    obtain ⟨rfl, hM9⟩ := hq
    rw [hM9] at hw
    show W p l e R s m args below meth c H locs _ _ _ (F0 m 33 ls [.int (iN (szu_9))])
    exact vx_ret (x_iret hC hw dX3_drop_33 (by first | decide | omega) (by first | decide | omega) ⟨szu_9, rfl, ⟨by omega, by omega⟩, ⟨(by first | omega | trivial), (by first | omega | trivial)⟩, (by have e9 := hVu_9.cnt; show _ = cntV _; rw [show F_dr (O, V, Wv, abK T C (some (tx_3, psx_3, cdx_3, twx_3, kwx_3)), kk, kv, rf) = (upV (V tx_3.b) (psx_3).toNat (-10000)) from rfl, e9]; omega), (RG.drop hRu_9 hksu_9 (by omega) (by omega) hcb (by omega))⟩)
  · exact x_throwS (cls := "java/lang/IllegalStateException") (text := "no step came to a pair that is not dropped") (names := ["java/lang/RuntimeException", "java/lang/Exception"]) hC hw hst htab (lv_size hl) tw_f2 tw_nm (List.mem_cons_of_mem _ (List.mem_append_left _ (List.mem_append_left _ (List.mem_append_left _ (List.mem_append_left _ (List.mem_append_left _ (List.mem_append_left _ (List.mem_of_getElem? (i := 0) rfl)))))))) (List.mem_cons_of_mem _ (List.mem_append_left _ (List.mem_append_left _ (List.mem_append_left _ (List.mem_append_left _ (List.mem_append_left _ (List.mem_append_left _ (List.mem_of_getElem? (i := 1) rfl)))))))) (fun w h => (List.mem_cons_of_mem _ (List.mem_append_right _ h))) tw_k42 tw_k52 (xlit_Rangeledger_196) tw_ca2 dX3_drop_12 dX3_drop_15 dX3_drop_16 dX3_drop_18 dX3_drop_21 (by rw [hRf]; decide) (by rw [hRl]; exact Nat.le_of_ble_eq_true rfl) (by first | (rw [hRc]; decide) | omega) (by first | (rw [hRs]; decide) | omega) (by omega) (by omega) ⟨⟨rfl, (by first | exact hc9 | omega | trivial)⟩, (RG.of (N2 := N + 1) hR hcb (by omega) (by omega))⟩
set_option maxHeartbeats 4000000 in
set_option maxRecDepth 100000 in
theorem c_X3_same (l : Launch) (G : xG) {M : HM} (hst : l.stackTraces = false) {h0 bs vs : Nat} {og : Option Nat} {kk kv rf : Int32} {qb qk qv : Nat → Nat} {fb fv : Nat → Option Nat} {O : OW} {Wv : VW} {V : BW} {T C : Nat → Int} {K : WA} {N : Int} (hR : RGx G M h0 bs vs og kk kv rf qb qk qv fb fv O O Wv V T C K) (hcb : cbN N T C) (hN : N ≤ 590) {p0 : Int} (hp0 : -2147483648 ≤ p0 ∧ p0 ≤ 2147483647) {p1 : Int} (hp1 : -2147483648 ≤ p1 ∧ p1 ≤ 2147483647) : xMetX l G yX3_same wsX3_same 7 113 2 12 [.ref h0, .int (iN (p0)), .int (iN (p1))] M (fun r M1 => ∃ z : Int, r = some (.int (iN z)) ∧ (z = 0 ∨ z = 1) ∧ (((0 ≤ p0 ∧ p0 ≤ 2) ∧ (0 ≤ p1 ∧ p1 ≤ 2))) ∧ z = A_same (O, V, Wv, abK T C K, kk, kv, rf) p0 p1 ∧ RG G M1 h0 (N + 1) (O, V, Wv, abK T C K, kk, kv, rf)) (fun E M1 => ((E = xIO ∧ ¬ ((0 ≤ p0 ∧ p0 ≤ 2) ∧ (0 ≤ p1 ∧ p1 ≤ 2)))) ∧ RG G M1 h0 (N + 1) (O, V, Wv, abK T C K, kk, kv, rf)) := by
  refine x_introX (cc := cX3_same) (maxL := 4) (ret := (some .boolean)) (by exact pln_RX3) rfl (Nat.le_of_ble_eq_true rfl) ?_
  intro p e R s m args below meth c ls hRf hRc hRs hRl htab hC hw hl
  have hl : lv_has ls 4 [(0, .ref h0), (1, .int (iN (p0))), (2, .int (iN (p1)))] := hl
  refine lv_aload_n hC.1 hC.2.1 dX3_same_0 rfl (lv_at hl 0 rfl) ?_
  refine lv_iload_n hC.1 hC.2.1 dX3_same_1 rfl (lv_at hl 1 rfl) ?_
  refine x_callVX hC hw (lv_size hl) (c_X3_bookAt l G hst hR hcb hN (p0 := p0) (by first | assumption | omega)) gX3_same_X3_bookAt rfl dv_X3_bookAt hR.1 rfl rfl (Nat.le_of_ble_eq_true rfl) (by rw [hRf]; decide) (by rw [hRl]; decide) (by first | (rw [hRc]; decide) | omega) (by first | (rw [hRs]; decide) | omega) dX3_same_2 (fun E ce q9 M_1 H locs hqx hw hcell hcv hcls => ?_) (fun r9 M_1 H locs hq hw => ?_)
  · rw [hqx.2] at hw
    obtain ⟨hE, hc9⟩ := hqx.1
    replace hqx := hqx.2
    subst hE
    exact x_outX hC hw htab hcell hcv hcls (by first | decide | omega) (by first | decide | omega) ⟨⟨rfl, (by first | exact hc9 | omega | trivial)⟩, (RG.of (N2 := N + 1) hR hcb (by omega) (by omega))⟩
  obtain ⟨rfl, hM9, hk_2, hk_2b⟩ := hq
  rw [hM9] at hw
  have hik_2 : (p0).toNat < 3 := by omega
  obtain ⟨szx_3, fkx_3, fwx_3, hBx_3, hVx_3⟩ := hR.bk hik_2
  obtain ⟨-, -, -, -, hsax_3, hsbx_3⟩ := id hBx_3
  have holx_3 := hR.ol hik_2
  have hctx_3 := hcb.2 _ hik_2
  show W p l e R s m args below meth c H locs _ _ _ (F0 m 5 ls [.ref (qb ((p0).toNat))])
  refine lv_astore_n (lv' := [(3, .ref (qb ((p0).toNat))), (0, .ref h0), (1, .int (iN (p0))), (2, .int (iN (p1)))]) hC.1 hC.2.1 dX3_same_5 rfl hl (by decide) rfl (fun ls hl => ?_)
  refine lv_aload_n hC.1 hC.2.1 dX3_same_6 rfl (lv_at hl 0 rfl) ?_
  refine lv_aload_n hC.1 hC.2.1 dX3_same_7 rfl (lv_at hl 1 rfl) ?_
  refine lv_iload_n hC.1 hC.2.1 dX3_same_8 rfl (lv_at hl 3 rfl) ?_
  refine x_callVX hC hw (lv_size hl) (c_X3_bookAt l G hst hR hcb hN (p0 := p1) (by first | assumption | omega)) gX3_same_X3_bookAt rfl dv_X3_bookAt hR.1 rfl rfl (Nat.le_of_ble_eq_true rfl) (by rw [hRf]; decide) (by rw [hRl]; decide) (by first | (rw [hRc]; decide) | omega) (by first | (rw [hRs]; decide) | omega) dX3_same_9 (fun E ce q9 M_4 H locs hqx hw hcell hcv hcls => ?_) (fun r9 M_4 H locs hq hw => ?_)
  · rw [hqx.2] at hw
    obtain ⟨hE, hc9⟩ := hqx.1
    replace hqx := hqx.2
    subst hE
    exact x_outX hC hw htab hcell hcv hcls (by first | decide | omega) (by first | decide | omega) ⟨⟨rfl, (by first | exact hc9 | omega | trivial)⟩, (RG.of (N2 := N + 1) hR hcb (by omega) (by omega))⟩
  obtain ⟨rfl, hM9, hk_5, hk_5b⟩ := hq
  rw [hM9] at hw
  have hik_5 : (p1).toNat < 3 := by omega
  obtain ⟨szx_6, fkx_6, fwx_6, hBx_6, hVx_6⟩ := hR.bk hik_5
  obtain ⟨-, -, -, -, hsax_6, hsbx_6⟩ := id hBx_6
  have holx_6 := hR.ol hik_5
  have hctx_6 := hcb.2 _ hik_5
  show W p l e R s m args below meth c H locs _ _ _ (F0 m 12 ls [.ref (qb ((p1).toNat)), .ref (qb ((p0).toNat))])
  refine x_callV hC hw (lv_size hl) (c_X0_isLike l G hBx_3 (show (O ((p0).toNat)) < 3 by first | assumption | omega) hVx_3 (by first | assumption | omega) (by first | assumption | omega) hBx_6 (show (O ((p1).toNat)) < 3 by first | assumption | omega) hVx_6 (by first | assumption | omega) (by first | assumption | omega)) gX3_same_X0_isLike rfl dv_X0_isLike hBx_3.1 rfl rfl (Nat.le_of_ble_eq_true rfl) (by rw [hRf]; decide) (by rw [hRl]; decide) (by first | (rw [hRc]; decide) | omega) (by first | (rw [hRs]; decide) | omega) dX3_same_12 (fun r9 M_7 H locs hq hw => ?_)
  obtain ⟨z_8, rfl, hM9, hz_8, hz_8l⟩ := hq
  rw [hM9] at hw
  show W p l e R s m args below meth c H locs _ _ _ (F0 m 15 ls [.int (iN (z_8))])
  exact vx_ret (x_zret hC hw (by omega) dX3_same_15 (by first | decide | omega) (by first | decide | omega) ⟨z_8, rfl, by omega, ⟨⟨(by first | omega | trivial), (by first | omega | trivial)⟩, ⟨(by first | omega | trivial), (by first | omega | trivial)⟩⟩, (by have e9 := dfF_iff (V := V (p0).toNat) (V2 := V (p1).toNat) (n := 100); have e8 := hz_8l.trans e9.symm; show _ = (if dfF (V (p0).toNat) (V (p1).toNat) 100 = 0 then 1 else 0); omega), (RG.of (N2 := N + 1) hR hcb (by omega) (by omega))⟩)
set_option maxHeartbeats 4000000 in
set_option maxRecDepth 100000 in
theorem c_X3_viewGet (l : Launch) (G : xG) {M : HM} (hst : l.stackTraces = false) {h0 bs vs : Nat} {og : Option Nat} {kk kv rf : Int32} {qb qk qv : Nat → Nat} {fb fv : Nat → Option Nat} {O : OW} {Wv : VW} {V : BW} {T C : Nat → Int} {K : WA} {N : Int} (hR : RGx G M h0 bs vs og kk kv rf qb qk qv fb fv O O Wv V T C K) (hcb : cbN N T C) (hN : N ≤ 590) {p0 : Int} (hp0 : -2147483648 ≤ p0 ∧ p0 ≤ 2147483647) {p1 : Int} (hp1 : -2147483648 ≤ p1 ∧ p1 ≤ 2147483647) : xMetX l G yX3_viewGet wsX3_viewGet 7 111 2 12 [.ref h0, .int (iN (p0)), .int (iN (p1))] M (fun r M1 => ∃ z : Int, r = some (.int (iN z)) ∧ (-2147483648 ≤ z ∧ z ≤ 2147483647) ∧ ((0 ≤ p0 ∧ p0 ≤ 3 ∧ opN (Wv p0.toNat) = 1) ∧ (0 ≤ p1 ∧ p1 ≤ 99)) ∧ z = A_viewGet (O, V, Wv, abK T C K, kk, kv, rf) p0 p1 ∧ RG G M1 h0 (N + 1) (O, V, Wv, abK T C K, kk, kv, rf)) (fun E M1 => ((E = xIO ∧ ¬ (0 ≤ p0 ∧ p0 ≤ 3 ∧ opN (Wv p0.toNat) = 1)) ∨ (E = xIA ∧ (0 ≤ p0 ∧ p0 ≤ 3 ∧ opN (Wv p0.toNat) = 1) ∧ ¬ (0 ≤ p1 ∧ p1 ≤ 99))) ∧ RG G M1 h0 (N + 1) (O, V, Wv, abK T C K, kk, kv, rf)) := by
  refine x_introX (cc := cX3_viewGet) (maxL := 4) (ret := (some .int)) (by exact pln_RX3) rfl (Nat.le_of_ble_eq_true rfl) ?_
  intro p e R s m args below meth c ls hRf hRc hRs hRl htab hC hw hl
  have hl : lv_has ls 4 [(0, .ref h0), (1, .int (iN (p0))), (2, .int (iN (p1)))] := hl
  refine lv_aload_n hC.1 hC.2.1 dX3_viewGet_0 rfl (lv_at hl 0 rfl) ?_
  refine lv_iload_n hC.1 hC.2.1 dX3_viewGet_1 rfl (lv_at hl 1 rfl) ?_
  refine x_callVX hC hw (lv_size hl) (c_X3_viewAt l G hst hR hcb hN (p0 := p0) (by first | assumption | omega)) gX3_viewGet_X3_viewAt rfl dv_X3_viewAt hR.1 rfl rfl (Nat.le_of_ble_eq_true rfl) (by rw [hRf]; decide) (by rw [hRl]; decide) (by first | (rw [hRc]; decide) | omega) (by first | (rw [hRs]; decide) | omega) dX3_viewGet_2 (fun E ce q9 M_1 H locs hqx hw hcell hcv hcls => ?_) (fun r9 M_1 H locs hq hw => ?_)
  · rw [hqx.2] at hw
    obtain ⟨hE, hc9⟩ := hqx.1
    replace hqx := hqx.2
    subst hE
    exact x_outX hC hw htab hcell hcv hcls (by first | decide | omega) (by first | decide | omega) ⟨Or.inl ⟨rfl, (by first | exact hc9 | omega | trivial)⟩, (RG.of (N2 := N + 1) hR hcb (by omega) (by omega))⟩
  obtain ⟨y_3, rfl, hM9, hk_2, hk_2b, hyk_2⟩ := hq
  rw [hM9] at hw
  obtain ⟨ux_4, hux_4, hTx_4⟩ := (hR.vwo (show (p0).toNat < 4 from tn_lt (by omega) (by decide))).yes hyk_2
  have hpx_4 := opN_some hux_4
  have hkx_5 := hTx_4.1
  have hvx_5 := hTx_4.2
  have hlix_5 := hvx_5.2.1
  have huix_5 := hvx_5.2.2
  obtain ⟨htax_5, htbx_5, htcx_5, htdx_5, htex_5⟩ := id hkx_5
  obtain ⟨szx_6, fkx_6, fwx_6, hBx_6, hVx_6⟩ := hR.bk htax_5
  obtain ⟨-, -, -, -, hsax_6, hsbx_6⟩ := id hBx_6
  have holx_6 := hR.ol htax_5
  have hctx_6 := hcb.2 _ htax_5
  show W p l e R s m args below meth c H locs _ _ _ (F0 m 5 ls [.ref y_3])
  refine lv_astore_n (lv' := [(3, .ref y_3), (0, .ref h0), (1, .int (iN (p0))), (2, .int (iN (p1)))]) hC.1 hC.2.1 dX3_viewGet_5 rfl hl (by decide) rfl (fun ls hl => ?_)
  refine lv_iload_n hC.1 hC.2.1 dX3_viewGet_6 rfl (lv_at hl 3 rfl) ?_
  refine x_callSX hC hw (lv_size hl) (c_X3_checkKey l G (M := M) hst (p0 := p1) (by first | assumption | omega)) gX3_viewGet_X3_checkKey rfl dv_X3_checkKey_s rfl (Nat.le_of_ble_eq_true rfl) (by rw [hRf]; decide) (by rw [hRl]; decide) (by first | (rw [hRc]; decide) | omega) (by first | (rw [hRs]; decide) | omega) dX3_viewGet_7 (fun E ce q9 M_7 H locs hqx hw hcell hcv hcls => ?_) (fun r9 M_7 H locs hq hw => ?_)
  · rw [hqx.2] at hw
    obtain ⟨hE, hc9⟩ := hqx.1
    replace hqx := hqx.2
    subst hE
    exact x_outX hC hw htab hcell hcv hcls (by first | decide | omega) (by first | decide | omega) ⟨Or.inr (⟨rfl, ⟨⟨(by first | omega | trivial), (by first | omega | trivial), (by first | omega | trivial)⟩, (by first | exact hc9 | omega | trivial)⟩⟩), (RG.of (N2 := N + 1) hR hcb (by omega) (by omega))⟩
  obtain ⟨rfl, hM9, hk_8⟩ := hq
  rw [hM9] at hw
  show W p l e R s m args below meth c H locs _ _ _ (F0 m 10 ls [])
  refine lv_aload_n hC.1 hC.2.1 dX3_viewGet_10 rfl (lv_at hl 0 rfl) ?_
  refine lv_iload_n hC.1 hC.2.1 dX3_viewGet_11 rfl (lv_at hl 3 rfl) ?_
  refine x_callV hC hw (lv_size hl) (c_X1_isWithin l G hkx_5 hvx_5 hBx_6 (show (O ux_4.b) < 3 by first | assumption | omega) hVx_6 (by first | assumption | omega) (by first | assumption | omega) (O := O) (V := V) (t9 := ux_4) (p0 := p1) (by first | assumption | omega) (by omega)) gX3_viewGet_X1_isWithin rfl dv_X1_isWithin hvx_5.1 rfl rfl (Nat.le_of_ble_eq_true rfl) (by rw [hRf]; decide) (by rw [hRl]; decide) (by first | (rw [hRc]; decide) | omega) (by first | (rw [hRs]; decide) | omega) dX3_viewGet_12 (fun r9 M_9 H locs hq hw => ?_)
  obtain ⟨z_10, rfl, hM9, hz_10, hz_10w⟩ := hq
  rw [hM9] at hw
  have hz_10i : z_10 = inI (O ux_4.b) ux_4 (p1).toNat := inI_eq (by omega) hz_10w
  show W p l e R s m args below meth c H locs _ _ _ (F0 m 15 ls [.int (iN (z_10))])
  refine x_if_eq (tgt := 29) hC ⟨by omega, by omega⟩ dX3_viewGet_15 (by decide) (fun c_11 => ?_) (fun c_11 => ?_)
  · refine x_sipush hC dX3_viewGet_29 (by decide +kernel) ?_
    exact vx_ret (x_iret hC hw dX3_viewGet_32 (by first | decide | omega) (by first | decide | omega) ⟨(-10000), rfl, ⟨by omega, by omega⟩, ⟨⟨(by first | omega | trivial), (by first | omega | trivial), (by first | omega | trivial)⟩, ⟨(by first | omega | trivial), (by first | omega | trivial)⟩⟩, (by have i9 := inI_01 (O ux_4.b) (p1).toNat ux_4; rw [A_viewGet, (wiB_eq (s := (O, V, Wv, abK T C K, kk, kv, rf)) (p0 := p0) (p1 := p1) hux_4), (vwV_eq (s := (O, V, Wv, abK T C K, kk, kv, rf)) (p0 := p0) (p1 := p1) hux_4)]; show _ = (if inI (O ux_4.b) ux_4 (p1).toNat = 1 then V ux_4.b (p1).toNat else -10000); omega), (RG.of (N2 := N + 1) hR hcb (by omega) (by omega))⟩)
  · refine lv_aload_n hC.1 hC.2.1 dX3_viewGet_18 rfl (lv_at hl 0 rfl) ?_
    refine x_callV hC hw (lv_size hl) (c_X1_book l G hvx_5) gX3_viewGet_X1_book rfl dv_X1_book hvx_5.1 rfl rfl (Nat.le_of_ble_eq_true rfl) (by rw [hRf]; decide) (by rw [hRl]; decide) (by first | (rw [hRc]; decide) | omega) (by first | (rw [hRs]; decide) | omega) dX3_viewGet_19 (fun r9 M_12 H locs hq hw => ?_)
    obtain ⟨rfl, hM9⟩ := hq
    rw [hM9] at hw
    show W p l e R s m args below meth c H locs _ _ _ (F0 m 22 ls [.ref (qb ux_4.b)])
    refine lv_iload_n hC.1 hC.2.1 dX3_viewGet_22 rfl (lv_at hl 3 rfl) ?_
    refine x_callV hC hw (lv_size hl) (c_X0_valueOf l G hBx_6 (show (O ux_4.b) < 3 by first | assumption | omega) hVx_6 (by first | assumption | omega) (by first | assumption | omega) (p0 := p1) (by first | assumption | omega)) gX3_viewGet_X0_valueOf rfl dv_X0_valueOf hBx_6.1 rfl rfl (Nat.le_of_ble_eq_true rfl) (by rw [hRf]; decide) (by rw [hRl]; decide) (by first | (rw [hRc]; decide) | omega) (by first | (rw [hRs]; decide) | omega) dX3_viewGet_23 (fun r9 M_13 H locs hq hw => ?_)
    obtain ⟨z_14, rfl, hM9, hz_14, hz_14v, hz_14n⟩ := hq
    rw [hM9] at hw
    show W p l e R s m args below meth c H locs _ _ _ (F0 m 26 ls [.int (iN (z_14))])
    refine lv_goto (tgt := 32) hC.1 hC.2.1 dX3_viewGet_26 (by decide) ?_
    exact vx_ret (x_iret hC hw dX3_viewGet_32 (by first | decide | omega) (by first | decide | omega) ⟨z_14, rfl, ⟨by omega, by omega⟩, ⟨⟨(by first | omega | trivial), (by first | omega | trivial), (by first | omega | trivial)⟩, ⟨(by first | omega | trivial), (by first | omega | trivial)⟩⟩, (by have i9 := inI_01 (O ux_4.b) (p1).toNat ux_4; rw [A_viewGet, (wiB_eq (s := (O, V, Wv, abK T C K, kk, kv, rf)) (p0 := p0) (p1 := p1) hux_4), (vwV_eq (s := (O, V, Wv, abK T C K, kk, kv, rf)) (p0 := p0) (p1 := p1) hux_4)]; show _ = (if inI (O ux_4.b) ux_4 (p1).toNat = 1 then V ux_4.b (p1).toNat else -10000); omega), (RG.of (N2 := N + 1) hR hcb (by omega) (by omega))⟩)
set_option maxHeartbeats 4000000 in
set_option maxRecDepth 100000 in
theorem c_X3_near (l : Launch) (G : xG) {M : HM} (hst : l.stackTraces = false) {h0 bs vs : Nat} {og : Option Nat} {kk kv rf : Int32} {qb qk qv : Nat → Nat} {fb fv : Nat → Option Nat} {O : OW} {Wv : VW} {V : BW} {T C : Nat → Int} {K : WA} {N : Int} (hR : RGx G M h0 bs vs og kk kv rf qb qk qv fb fv O O Wv V T C K) (hcb : cbN N T C) (hN : N ≤ 590) {p0 : Int} (hp0 : -2147483648 ≤ p0 ∧ p0 ≤ 2147483647) {p1 : Int} (hp1 : -2147483648 ≤ p1 ∧ p1 ≤ 2147483647) {p2 : Int} (hp2 : -2147483648 ≤ p2 ∧ p2 ≤ 2147483647) : xMetX l G yX3_near wsX3_near 7 111 3 18 [.ref h0, .int (iN (p0)), .int (iN (p1)), .int (iN (p2))] M (fun r M1 => ∃ z : Int, r = some (.int (iN z)) ∧ (-2147483648 ≤ z ∧ z ≤ 2147483647) ∧ ((0 ≤ p0 ∧ p0 ≤ 2) ∧ ((0 ≤ p1 ∧ p1 ≤ 99) ∧ (0 ≤ p2 ∧ p2 ≤ 7))) ∧ z = A_near (O, V, Wv, abK T C K, kk, kv, rf) p0 p1 p2 ∧ RG G M1 h0 (N + 1) (O, V, Wv, abK T C K, kk, kv, rf)) (fun E M1 => ((E = xIO ∧ ¬ (0 ≤ p0 ∧ p0 ≤ 2)) ∨ (E = xIA ∧ (0 ≤ p0 ∧ p0 ≤ 2) ∧ ¬ ((0 ≤ p1 ∧ p1 ≤ 99) ∧ (0 ≤ p2 ∧ p2 ≤ 7)))) ∧ RG G M1 h0 (N + 1) (O, V, Wv, abK T C K, kk, kv, rf)) := by
  refine x_introX (cc := cX3_near) (maxL := 6) (ret := (some .int)) (by exact pln_RX3) rfl (Nat.le_of_ble_eq_true rfl) ?_
  intro p e R s m args below meth c ls hRf hRc hRs hRl htab hC hw hl
  have hl : lv_has ls 6 [(0, .ref h0), (1, .int (iN (p0))), (2, .int (iN (p1))), (3, .int (iN (p2)))] := hl
  refine lv_aload_n hC.1 hC.2.1 dX3_near_0 rfl (lv_at hl 0 rfl) ?_
  refine lv_iload_n hC.1 hC.2.1 dX3_near_1 rfl (lv_at hl 1 rfl) ?_
  refine x_callVX hC hw (lv_size hl) (c_X3_bookAt l G hst hR hcb hN (p0 := p0) (by first | assumption | omega)) gX3_near_X3_bookAt rfl dv_X3_bookAt hR.1 rfl rfl (Nat.le_of_ble_eq_true rfl) (by rw [hRf]; decide) (by rw [hRl]; decide) (by first | (rw [hRc]; decide) | omega) (by first | (rw [hRs]; decide) | omega) dX3_near_2 (fun E ce q9 M_1 H locs hqx hw hcell hcv hcls => ?_) (fun r9 M_1 H locs hq hw => ?_)
  · rw [hqx.2] at hw
    obtain ⟨hE, hc9⟩ := hqx.1
    replace hqx := hqx.2
    subst hE
    exact x_outX hC hw htab hcell hcv hcls (by first | decide | omega) (by first | decide | omega) ⟨Or.inl ⟨rfl, (by first | exact hc9 | omega | trivial)⟩, (RG.of (N2 := N + 1) hR hcb (by omega) (by omega))⟩
  obtain ⟨rfl, hM9, hk_2, hk_2b⟩ := hq
  rw [hM9] at hw
  have hik_2 : (p0).toNat < 3 := by omega
  obtain ⟨szx_3, fkx_3, fwx_3, hBx_3, hVx_3⟩ := hR.bk hik_2
  obtain ⟨-, -, -, -, hsax_3, hsbx_3⟩ := id hBx_3
  have holx_3 := hR.ol hik_2
  have hctx_3 := hcb.2 _ hik_2
  show W p l e R s m args below meth c H locs _ _ _ (F0 m 5 ls [.ref (qb ((p0).toNat))])
  refine lv_astore (lv' := [(4, .ref (qb ((p0).toNat))), (0, .ref h0), (1, .int (iN (p0))), (2, .int (iN (p1))), (3, .int (iN (p2)))]) hC.1 hC.2.1 dX3_near_5 hl (by decide) rfl (fun ls hl => ?_)
  refine lv_iload_n hC.1 hC.2.1 dX3_near_7 rfl (lv_at hl 3 rfl) ?_
  refine x_callSX hC hw (lv_size hl) (c_X3_checkKey l G (M := M) hst (p0 := p1) (by first | assumption | omega)) gX3_near_X3_checkKey rfl dv_X3_checkKey_s rfl (Nat.le_of_ble_eq_true rfl) (by rw [hRf]; decide) (by rw [hRl]; decide) (by first | (rw [hRc]; decide) | omega) (by first | (rw [hRs]; decide) | omega) dX3_near_8 (fun E ce q9 M_4 H locs hqx hw hcell hcv hcls => ?_) (fun r9 M_4 H locs hq hw => ?_)
  · rw [hqx.2] at hw
    obtain ⟨hE, hc9⟩ := hqx.1
    replace hqx := hqx.2
    subst hE
    exact x_outX hC hw htab hcell hcv hcls (by first | decide | omega) (by first | decide | omega) ⟨Or.inr (⟨rfl, ⟨⟨(by first | omega | trivial), (by first | omega | trivial)⟩, (by first | exact hc9 | omega | trivial)⟩⟩), (RG.of (N2 := N + 1) hR hcb (by omega) (by omega))⟩
  obtain ⟨rfl, hM9, hk_5⟩ := hq
  rw [hM9] at hw
  show W p l e R s m args below meth c H locs _ _ _ (F0 m 11 ls [])
  refine lv_iload_n hC.1 hC.2.1 dX3_near_11 rfl (lv_at hl 4 rfl) ?_
  refine x_bipush hC dX3_near_12 (by decide +kernel) ?_
  refine x_callSX hC hw (lv_size hl) (c_X3_checkWhat l G (M := M) hst (p0 := p2) (by first | assumption | omega) (p1 := 7) (by omega)) gX3_near_X3_checkWhat rfl dv_X3_checkWhat_s rfl (Nat.le_of_ble_eq_true rfl) (by rw [hRf]; decide) (by rw [hRl]; decide) (by first | (rw [hRc]; decide) | omega) (by first | (rw [hRs]; decide) | omega) dX3_near_14 (fun E ce q9 M_6 H locs hqx hw hcell hcv hcls => ?_) (fun r9 M_6 H locs hq hw => ?_)
  · rw [hqx.2] at hw
    obtain ⟨hE, hc9⟩ := hqx.1
    replace hqx := hqx.2
    subst hE
    exact x_outX hC hw htab hcell hcv hcls (by first | decide | omega) (by first | decide | omega) ⟨Or.inr (⟨rfl, ⟨⟨(by first | omega | trivial), (by first | omega | trivial)⟩, (by first | exact hc9 | omega | trivial)⟩⟩), (RG.of (N2 := N + 1) hR hcb (by omega) (by omega))⟩
  obtain ⟨rfl, hM9, hk_7⟩ := hq
  rw [hM9] at hw
  show W p l e R s m args below meth c H locs _ _ _ (F0 m 17 ls [])
  refine lv_aload hC.1 hC.2.1 dX3_near_17 (lv_at hl 0 rfl) ?_
  refine lv_iload_n hC.1 hC.2.1 dX3_near_19 rfl (lv_at hl 3 rfl) ?_
  refine lv_iload_n hC.1 hC.2.1 dX3_near_20 rfl (lv_at hl 4 rfl) ?_
  refine x_const hC dX3_near_21 ?_
  refine x_iremN hC (by omega) (by omega) (by omega) (by omega) dX3_near_22 ?_
  refine x_const hC dX3_near_23 ?_
  refine lv_aload hC.1 hC.2.1 dX3_near_24 (lv_at hl 0 rfl) ?_
  refine x_callV hC hw (lv_size hl) (c_X0_size l G hBx_3 (show (O ((p0).toNat)) < 3 by first | assumption | omega) hVx_3 (by first | assumption | omega) (by first | assumption | omega)) gX3_near_X0_size rfl dv_X0_size hBx_3.1 rfl rfl (Nat.le_of_ble_eq_true rfl) (by rw [hRf]; decide) (by rw [hRl]; decide) (by first | (rw [hRc]; decide) | omega) (by first | (rw [hRs]; decide) | omega) dX3_near_26 (fun r9 M_8 H locs hq hw => ?_)
  obtain ⟨rfl, hM9⟩ := hq
  rw [hM9] at hw
  show W p l e R s m args below meth c H locs _ _ _ (F0 m 29 ls [.int (iN (szx_3)), .int (iN (0)), .int (iN (p2 % 4)), .int (iN (p1)), .ref (qb ((p0).toNat))])
  refine x_callV hC hw (lv_size hl) (c_X0_closest l G hBx_3 (show (O ((p0).toNat)) < 3 by first | assumption | omega) hVx_3 (by first | assumption | omega) (by first | assumption | omega) (p0 := p1) (by first | assumption | omega) (p1 := (p2 % 4)) (by omega) (p2 := 0) (by omega) (p3 := szx_3) (by omega) (by omega) (by omega) (by omega) (by omega)) gX3_near_X0_closest rfl dv_X0_closest hBx_3.1 rfl rfl (Nat.le_of_ble_eq_true rfl) (by rw [hRf]; decide) (by rw [hRl]; decide) (by first | (rw [hRc]; decide) | omega) (by first | (rw [hRs]; decide) | omega) dX3_near_29 (fun r9 M_9 H locs hq hw => ?_)
  obtain ⟨z_10, rfl, hM9, hz_10, hz_10c⟩ := hq
  rw [hM9] at hw
  show W p l e R s m args below meth c H locs _ _ _ (F0 m 32 ls [.int (iN (z_10))])
  refine lv_istore (lv' := [(5, .int (iN (z_10))), (4, .ref (qb ((p0).toNat))), (0, .ref h0), (1, .int (iN (p0))), (2, .int (iN (p1))), (3, .int (iN (p2)))]) hC.1 hC.2.1 dX3_near_32 hl (by decide) rfl (fun ls hl => ?_)
  refine lv_iload_n hC.1 hC.2.1 dX3_near_34 rfl (lv_at hl 5 rfl) ?_
  refine x_const hC dX3_near_35 ?_
  refine x_icmp_ge (tgt := 44) hC ⟨by omega, by omega⟩ ⟨by omega, by omega⟩ dX3_near_36 (by decide) (fun c_11 => ?_) (fun c_11 => ?_)
  · refine lv_aload hC.1 hC.2.1 dX3_near_44 (lv_at hl 1 rfl) ?_
    refine lv_iload hC.1 hC.2.1 dX3_near_46 (lv_at hl 0 rfl) ?_
    refine x_callV hC hw (lv_size hl) (c_X0_valueOf l G hBx_3 (show (O ((p0).toNat)) < 3 by first | assumption | omega) hVx_3 (by first | assumption | omega) (by first | assumption | omega) (p0 := z_10) (by omega)) gX3_near_X0_valueOf rfl dv_X0_valueOf hBx_3.1 rfl rfl (Nat.le_of_ble_eq_true rfl) (by rw [hRf]; decide) (by rw [hRl]; decide) (by first | (rw [hRc]; decide) | omega) (by first | (rw [hRs]; decide) | omega) dX3_near_48 (fun r9 M_12 H locs hq hw => ?_)
    obtain ⟨z_13, rfl, hM9, hz_13, hz_13v, hz_13n⟩ := hq
    rw [hM9] at hw
    show W p l e R s m args below meth c H locs _ _ _ (F0 m 51 ls [.int (iN (z_13))])
    exact vx_ret (x_iret hC hw dX3_near_51 (by first | decide | omega) (by first | decide | omega) ⟨z_13, rfl, ⟨by omega, by omega⟩, ⟨⟨(by first | omega | trivial), (by first | omega | trivial)⟩, ⟨⟨(by first | omega | trivial), (by first | omega | trivial)⟩, ⟨(by first | omega | trivial), (by first | omega | trivial)⟩⟩⟩, (by have e9 := wh_nr (by omega) (by omega) hVx_3 (by omega) (show (p1).toNat < 100 from tn_lt (by omega) (by decide)) (by omega) hz_10c; rw [A_near, if_neg (by omega)]; rw [show p2 % 4 = p2 - 4 by omega] at e9; show _ = vlF (V (p0).toNat) (nrF O V (whT (p0).toNat) (p1).toNat (p2 - 4)); rw [← e9]; simp only [vlF]; split <;> omega), (RG.of (N2 := N + 1) hR hcb (by omega) (by omega))⟩)
  · refine lv_iload hC.1 hC.2.1 dX3_near_39 (lv_at hl 0 rfl) ?_
    refine lv_goto (tgt := 51) hC.1 hC.2.1 dX3_near_41 (by decide) ?_
    exact vx_ret (x_iret hC hw dX3_near_51 (by first | decide | omega) (by first | decide | omega) ⟨z_10, rfl, ⟨by omega, by omega⟩, ⟨⟨(by first | omega | trivial), (by first | omega | trivial)⟩, ⟨⟨(by first | omega | trivial), (by first | omega | trivial)⟩, ⟨(by first | omega | trivial), (by first | omega | trivial)⟩⟩⟩, (by have e9 := wh_nr (by omega) (by omega) hVx_3 (by omega) (show (p1).toNat < 100 from tn_lt (by omega) (by decide)) (by omega) hz_10c; rw [A_near, if_pos (by omega)]; rw [show p2 % 4 = p2 by omega] at e9; exact e9), (RG.of (N2 := N + 1) hR hcb (by omega) (by omega))⟩)
set_option maxHeartbeats 4000000 in
set_option maxRecDepth 100000 in
theorem c_X3_viewNear (l : Launch) (G : xG) {M : HM} (hst : l.stackTraces = false) {h0 bs vs : Nat} {og : Option Nat} {kk kv rf : Int32} {qb qk qv : Nat → Nat} {fb fv : Nat → Option Nat} {O : OW} {Wv : VW} {V : BW} {T C : Nat → Int} {K : WA} {N : Int} (hR : RGx G M h0 bs vs og kk kv rf qb qk qv fb fv O O Wv V T C K) (hcb : cbN N T C) (hN : N ≤ 590) {p0 : Int} (hp0 : -2147483648 ≤ p0 ∧ p0 ≤ 2147483647) {p1 : Int} (hp1 : -2147483648 ≤ p1 ∧ p1 ≤ 2147483647) {p2 : Int} (hp2 : -2147483648 ≤ p2 ∧ p2 ≤ 2147483647) : xMetX l G yX3_viewNear wsX3_viewNear 7 111 3 18 [.ref h0, .int (iN (p0)), .int (iN (p1)), .int (iN (p2))] M (fun r M1 => ∃ z : Int, r = some (.int (iN z)) ∧ (-2147483648 ≤ z ∧ z ≤ 2147483647) ∧ ((0 ≤ p0 ∧ p0 ≤ 3 ∧ opN (Wv p0.toNat) = 1) ∧ ((0 ≤ p1 ∧ p1 ≤ 99) ∧ (0 ≤ p2 ∧ p2 ≤ 3))) ∧ z = A_viewNear (O, V, Wv, abK T C K, kk, kv, rf) p0 p1 p2 ∧ RG G M1 h0 (N + 1) (O, V, Wv, abK T C K, kk, kv, rf)) (fun E M1 => ((E = xIO ∧ ¬ (0 ≤ p0 ∧ p0 ≤ 3 ∧ opN (Wv p0.toNat) = 1)) ∨ (E = xIA ∧ (0 ≤ p0 ∧ p0 ≤ 3 ∧ opN (Wv p0.toNat) = 1) ∧ ¬ ((0 ≤ p1 ∧ p1 ≤ 99) ∧ (0 ≤ p2 ∧ p2 ≤ 3)))) ∧ RG G M1 h0 (N + 1) (O, V, Wv, abK T C K, kk, kv, rf)) := by
  refine x_introX (cc := cX3_viewNear) (maxL := 5) (ret := (some .int)) (by exact pln_RX3) rfl (Nat.le_of_ble_eq_true rfl) ?_
  intro p e R s m args below meth c ls hRf hRc hRs hRl htab hC hw hl
  have hl : lv_has ls 5 [(0, .ref h0), (1, .int (iN (p0))), (2, .int (iN (p1))), (3, .int (iN (p2)))] := hl
  refine lv_aload_n hC.1 hC.2.1 dX3_viewNear_0 rfl (lv_at hl 0 rfl) ?_
  refine lv_iload_n hC.1 hC.2.1 dX3_viewNear_1 rfl (lv_at hl 1 rfl) ?_
  refine x_callVX hC hw (lv_size hl) (c_X3_viewAt l G hst hR hcb hN (p0 := p0) (by first | assumption | omega)) gX3_viewNear_X3_viewAt rfl dv_X3_viewAt hR.1 rfl rfl (Nat.le_of_ble_eq_true rfl) (by rw [hRf]; decide) (by rw [hRl]; decide) (by first | (rw [hRc]; decide) | omega) (by first | (rw [hRs]; decide) | omega) dX3_viewNear_2 (fun E ce q9 M_1 H locs hqx hw hcell hcv hcls => ?_) (fun r9 M_1 H locs hq hw => ?_)
  · rw [hqx.2] at hw
    obtain ⟨hE, hc9⟩ := hqx.1
    replace hqx := hqx.2
    subst hE
    exact x_outX hC hw htab hcell hcv hcls (by first | decide | omega) (by first | decide | omega) ⟨Or.inl ⟨rfl, (by first | exact hc9 | omega | trivial)⟩, (RG.of (N2 := N + 1) hR hcb (by omega) (by omega))⟩
  obtain ⟨y_3, rfl, hM9, hk_2, hk_2b, hyk_2⟩ := hq
  rw [hM9] at hw
  obtain ⟨ux_4, hux_4, hTx_4⟩ := (hR.vwo (show (p0).toNat < 4 from tn_lt (by omega) (by decide))).yes hyk_2
  have hpx_4 := opN_some hux_4
  have hkx_5 := hTx_4.1
  have hvx_5 := hTx_4.2
  have hlix_5 := hvx_5.2.1
  have huix_5 := hvx_5.2.2
  obtain ⟨htax_5, htbx_5, htcx_5, htdx_5, htex_5⟩ := id hkx_5
  obtain ⟨szx_6, fkx_6, fwx_6, hBx_6, hVx_6⟩ := hR.bk htax_5
  obtain ⟨-, -, -, -, hsax_6, hsbx_6⟩ := id hBx_6
  have holx_6 := hR.ol htax_5
  have hctx_6 := hcb.2 _ htax_5
  show W p l e R s m args below meth c H locs _ _ _ (F0 m 5 ls [.ref y_3])
  refine lv_astore (lv' := [(4, .ref y_3), (0, .ref h0), (1, .int (iN (p0))), (2, .int (iN (p1))), (3, .int (iN (p2)))]) hC.1 hC.2.1 dX3_viewNear_5 hl (by decide) rfl (fun ls hl => ?_)
  refine lv_iload_n hC.1 hC.2.1 dX3_viewNear_7 rfl (lv_at hl 3 rfl) ?_
  refine x_callSX hC hw (lv_size hl) (c_X3_checkKey l G (M := M) hst (p0 := p1) (by first | assumption | omega)) gX3_viewNear_X3_checkKey rfl dv_X3_checkKey_s rfl (Nat.le_of_ble_eq_true rfl) (by rw [hRf]; decide) (by rw [hRl]; decide) (by first | (rw [hRc]; decide) | omega) (by first | (rw [hRs]; decide) | omega) dX3_viewNear_8 (fun E ce q9 M_7 H locs hqx hw hcell hcv hcls => ?_) (fun r9 M_7 H locs hq hw => ?_)
  · rw [hqx.2] at hw
    obtain ⟨hE, hc9⟩ := hqx.1
    replace hqx := hqx.2
    subst hE
    exact x_outX hC hw htab hcell hcv hcls (by first | decide | omega) (by first | decide | omega) ⟨Or.inr (⟨rfl, ⟨⟨(by first | omega | trivial), (by first | omega | trivial), (by first | omega | trivial)⟩, (by first | exact hc9 | omega | trivial)⟩⟩), (RG.of (N2 := N + 1) hR hcb (by omega) (by omega))⟩
  obtain ⟨rfl, hM9, hk_8⟩ := hq
  rw [hM9] at hw
  show W p l e R s m args below meth c H locs _ _ _ (F0 m 11 ls [])
  refine lv_iload_n hC.1 hC.2.1 dX3_viewNear_11 rfl (lv_at hl 4 rfl) ?_
  refine x_const hC dX3_viewNear_12 ?_
  refine x_callSX hC hw (lv_size hl) (c_X3_checkWhat l G (M := M) hst (p0 := p2) (by first | assumption | omega) (p1 := 3) (by omega)) gX3_viewNear_X3_checkWhat rfl dv_X3_checkWhat_s rfl (Nat.le_of_ble_eq_true rfl) (by rw [hRf]; decide) (by rw [hRl]; decide) (by first | (rw [hRc]; decide) | omega) (by first | (rw [hRs]; decide) | omega) dX3_viewNear_13 (fun E ce q9 M_9 H locs hqx hw hcell hcv hcls => ?_) (fun r9 M_9 H locs hq hw => ?_)
  · rw [hqx.2] at hw
    obtain ⟨hE, hc9⟩ := hqx.1
    replace hqx := hqx.2
    subst hE
    exact x_outX hC hw htab hcell hcv hcls (by first | decide | omega) (by first | decide | omega) ⟨Or.inr (⟨rfl, ⟨⟨(by first | omega | trivial), (by first | omega | trivial), (by first | omega | trivial)⟩, (by first | exact hc9 | omega | trivial)⟩⟩), (RG.of (N2 := N + 1) hR hcb (by omega) (by omega))⟩
  obtain ⟨rfl, hM9, hk_10⟩ := hq
  rw [hM9] at hw
  show W p l e R s m args below meth c H locs _ _ _ (F0 m 16 ls [])
  refine lv_aload hC.1 hC.2.1 dX3_viewNear_16 (lv_at hl 0 rfl) ?_
  refine x_callV hC hw (lv_size hl) (c_X1_book l G hvx_5) gX3_viewNear_X1_book rfl dv_X1_book hvx_5.1 rfl rfl (Nat.le_of_ble_eq_true rfl) (by rw [hRf]; decide) (by rw [hRl]; decide) (by first | (rw [hRc]; decide) | omega) (by first | (rw [hRs]; decide) | omega) dX3_viewNear_18 (fun r9 M_11 H locs hq hw => ?_)
  obtain ⟨rfl, hM9⟩ := hq
  rw [hM9] at hw
  show W p l e R s m args below meth c H locs _ _ _ (F0 m 21 ls [.ref (qb ux_4.b)])
  refine lv_iload_n hC.1 hC.2.1 dX3_viewNear_21 rfl (lv_at hl 3 rfl) ?_
  refine lv_iload_n hC.1 hC.2.1 dX3_viewNear_22 rfl (lv_at hl 4 rfl) ?_
  refine lv_aload hC.1 hC.2.1 dX3_viewNear_23 (lv_at hl 0 rfl) ?_
  refine x_callV hC hw (lv_size hl) (c_X1_start l G hkx_5 hvx_5 hBx_6 (show (O ux_4.b) < 3 by first | assumption | omega) hVx_6 (by first | assumption | omega) (by first | assumption | omega) (O := O) (V := V) (t9 := ux_4)) gX3_viewNear_X1_start rfl dv_X1_start hvx_5.1 rfl rfl (Nat.le_of_ble_eq_true rfl) (by rw [hRf]; decide) (by rw [hRl]; decide) (by first | (rw [hRc]; decide) | omega) (by first | (rw [hRs]; decide) | omega) dX3_viewNear_25 (fun r9 M_12 H locs hq hw => ?_)
  obtain ⟨z_13, rfl, hM9, hz_13a, hz_13b, hz_13p⟩ := hq
  rw [hM9] at hw
  show W p l e R s m args below meth c H locs _ _ _ (F0 m 28 ls [.int (iN (z_13)), .int (iN (p2)), .int (iN (p1)), .ref (qb ux_4.b)])
  refine lv_aload hC.1 hC.2.1 dX3_viewNear_28 (lv_at hl 0 rfl) ?_
  refine x_callV hC hw (lv_size hl) (c_X1_end l G hkx_5 hvx_5 hBx_6 (show (O ux_4.b) < 3 by first | assumption | omega) hVx_6 (by first | assumption | omega) (by first | assumption | omega) (O := O) (V := V) (t9 := ux_4)) gX3_viewNear_X1_end rfl dv_X1_end hvx_5.1 rfl rfl (Nat.le_of_ble_eq_true rfl) (by rw [hRf]; decide) (by rw [hRl]; decide) (by first | (rw [hRc]; decide) | omega) (by first | (rw [hRs]; decide) | omega) dX3_viewNear_30 (fun r9 M_14 H locs hq hw => ?_)
  obtain ⟨z_15, rfl, hM9, hz_15a, hz_15b, hz_15p⟩ := hq
  rw [hM9] at hw
  show W p l e R s m args below meth c H locs _ _ _ (F0 m 33 ls [.int (iN (z_15)), .int (iN (z_13)), .int (iN (p2)), .int (iN (p1)), .ref (qb ux_4.b)])
  refine x_callV hC hw (lv_size hl) (c_X0_closest l G hBx_6 (show (O ux_4.b) < 3 by first | assumption | omega) hVx_6 (by first | assumption | omega) (by first | assumption | omega) (p0 := p1) (by first | assumption | omega) (p1 := p2) (by first | assumption | omega) (p2 := z_13) (by omega) (p3 := z_15) (by omega) (by omega) (by omega) (by omega) (by omega)) gX3_viewNear_X0_closest rfl dv_X0_closest hBx_6.1 rfl rfl (Nat.le_of_ble_eq_true rfl) (by rw [hRf]; decide) (by rw [hRl]; decide) (by first | (rw [hRc]; decide) | omega) (by first | (rw [hRs]; decide) | omega) dX3_viewNear_33 (fun r9 M_16 H locs hq hw => ?_)
  obtain ⟨z_17, rfl, hM9, hz_17, hz_17c⟩ := hq
  rw [hM9] at hw
  show W p l e R s m args below meth c H locs _ _ _ (F0 m 36 ls [.int (iN (z_17))])
  exact vx_ret (x_iret hC hw dX3_viewNear_36 (by first | decide | omega) (by first | decide | omega) ⟨z_17, rfl, ⟨by omega, by omega⟩, ⟨⟨(by first | omega | trivial), (by first | omega | trivial), (by first | omega | trivial)⟩, ⟨⟨(by first | omega | trivial), (by first | omega | trivial)⟩, ⟨(by first | omega | trivial), (by first | omega | trivial)⟩⟩⟩, (by rw [A_viewNear, show tvW (ST.W (O, V, Wv, abK T C K, kk, kv, rf)) p0.toNat = ux_4 from tvW_some hux_4]; exact clB_F (by omega) hkx_5 hVx_6 hz_13p hz_15p (by omega) (by omega) (show (p1).toNat < 100 from tn_lt (by omega) (by decide)) (by omega) hz_17c), (RG.of (N2 := N + 1) hR hcb (by omega) (by omega))⟩)
set_option maxHeartbeats 4000000 in
set_option maxRecDepth 100000 in
theorem c_X3_ofBook (l : Launch) (G : xG) {M : HM} (hst : l.stackTraces = false) {h0 bs vs : Nat} {og : Option Nat} {kk kv rf : Int32} {qb qk qv : Nat → Nat} {fb fv : Nat → Option Nat} {O : OW} {Wv : VW} {V : BW} {T C : Nat → Int} {K : WA} {N : Int} (hR : RGx G M h0 bs vs og kk kv rf qb qk qv fb fv O O Wv V T C K) (hcb : cbN N T C) (hN : N ≤ 590) {p0 : Int} (hp0 : -2147483648 ≤ p0 ∧ p0 ≤ 2147483647) {p1 : Int} (hp1 : -2147483648 ≤ p1 ∧ p1 ≤ 2147483647) : xMetX l G yX3_ofBook wsX3_ofBook 7 111 2 12 [.ref h0, .int (iN (p0)), .int (iN (p1))] M (fun r M1 => ∃ z : Int, r = some (.int (iN z)) ∧ (-2147483648 ≤ z ∧ z ≤ 2147483647) ∧ ((0 ≤ p0 ∧ p0 ≤ 2) ∧ (0 ≤ p1 ∧ p1 ≤ 8)) ∧ z = A_ofBook (O, V, Wv, abK T C K, kk, kv, rf) p0 p1 ∧ RG G M1 h0 (N + 1) (O, V, Wv, abK T C K, kk, kv, rf)) (fun E M1 => ((E = xIO ∧ ¬ (0 ≤ p0 ∧ p0 ≤ 2)) ∨ (E = xIA ∧ (0 ≤ p0 ∧ p0 ≤ 2) ∧ ¬ (0 ≤ p1 ∧ p1 ≤ 8))) ∧ RG G M1 h0 (N + 1) (O, V, Wv, abK T C K, kk, kv, rf)) := by
  refine x_introX (cc := cX3_ofBook) (maxL := 4) (ret := (some .int)) (by exact pln_RX3) rfl (Nat.le_of_ble_eq_true rfl) ?_
  intro p e R s m args below meth c ls hRf hRc hRs hRl htab hC hw hl
  have hl : lv_has ls 4 [(0, .ref h0), (1, .int (iN (p0))), (2, .int (iN (p1)))] := hl
  refine lv_aload_n hC.1 hC.2.1 dX3_ofBook_0 rfl (lv_at hl 0 rfl) ?_
  refine lv_iload_n hC.1 hC.2.1 dX3_ofBook_1 rfl (lv_at hl 1 rfl) ?_
  refine x_callVX hC hw (lv_size hl) (c_X3_bookAt l G hst hR hcb hN (p0 := p0) (by first | assumption | omega)) gX3_ofBook_X3_bookAt rfl dv_X3_bookAt hR.1 rfl rfl (Nat.le_of_ble_eq_true rfl) (by rw [hRf]; decide) (by rw [hRl]; decide) (by first | (rw [hRc]; decide) | omega) (by first | (rw [hRs]; decide) | omega) dX3_ofBook_2 (fun E ce q9 M_1 H locs hqx hw hcell hcv hcls => ?_) (fun r9 M_1 H locs hq hw => ?_)
  · rw [hqx.2] at hw
    obtain ⟨hE, hc9⟩ := hqx.1
    replace hqx := hqx.2
    subst hE
    exact x_outX hC hw htab hcell hcv hcls (by first | decide | omega) (by first | decide | omega) ⟨Or.inl ⟨rfl, (by first | exact hc9 | omega | trivial)⟩, (RG.of (N2 := N + 1) hR hcb (by omega) (by omega))⟩
  obtain ⟨rfl, hM9, hk_2, hk_2b⟩ := hq
  rw [hM9] at hw
  have hik_2 : (p0).toNat < 3 := by omega
  obtain ⟨szx_3, fkx_3, fwx_3, hBx_3, hVx_3⟩ := hR.bk hik_2
  obtain ⟨-, -, -, -, hsax_3, hsbx_3⟩ := id hBx_3
  have holx_3 := hR.ol hik_2
  have hctx_3 := hcb.2 _ hik_2
  show W p l e R s m args below meth c H locs _ _ _ (F0 m 5 ls [.ref (qb ((p0).toNat))])
  refine lv_astore_n (lv' := [(3, .ref (qb ((p0).toNat))), (0, .ref h0), (1, .int (iN (p0))), (2, .int (iN (p1)))]) hC.1 hC.2.1 dX3_ofBook_5 rfl hl (by decide) rfl (fun ls hl => ?_)
  refine lv_iload_n hC.1 hC.2.1 dX3_ofBook_6 rfl (lv_at hl 3 rfl) ?_
  refine x_bipush hC dX3_ofBook_7 (by decide +kernel) ?_
  refine x_callSX hC hw (lv_size hl) (c_X3_checkWhat l G (M := M) hst (p0 := p1) (by first | assumption | omega) (p1 := 8) (by omega)) gX3_ofBook_X3_checkWhat rfl dv_X3_checkWhat_s rfl (Nat.le_of_ble_eq_true rfl) (by rw [hRf]; decide) (by rw [hRl]; decide) (by first | (rw [hRc]; decide) | omega) (by first | (rw [hRs]; decide) | omega) dX3_ofBook_9 (fun E ce q9 M_4 H locs hqx hw hcell hcv hcls => ?_) (fun r9 M_4 H locs hq hw => ?_)
  · rw [hqx.2] at hw
    obtain ⟨hE, hc9⟩ := hqx.1
    replace hqx := hqx.2
    subst hE
    exact x_outX hC hw htab hcell hcv hcls (by first | decide | omega) (by first | decide | omega) ⟨Or.inr (⟨rfl, ⟨⟨(by first | omega | trivial), (by first | omega | trivial)⟩, (by first | exact hc9 | omega | trivial)⟩⟩), (RG.of (N2 := N + 1) hR hcb (by omega) (by omega))⟩
  obtain ⟨rfl, hM9, hk_5⟩ := hq
  rw [hM9] at hw
  show W p l e R s m args below meth c H locs _ _ _ (F0 m 12 ls [])
  refine lv_iload_n hC.1 hC.2.1 dX3_ofBook_12 rfl (lv_at hl 3 rfl) ?_
  by_cases c_6 : p1 = 0
  · refine x_tsw (off := 47) (tgt := 60) (k := 0) hC (by omega) dX3_ofBook_13 (by decide) (by decide) rfl (by decide) ?_
    refine lv_aload_n hC.1 hC.2.1 dX3_ofBook_60 rfl (lv_at hl 0 rfl) ?_
    refine x_callV hC hw (lv_size hl) (c_X0_size l G hBx_3 (show (O ((p0).toNat)) < 3 by first | assumption | omega) hVx_3 (by first | assumption | omega) (by first | assumption | omega)) gX3_ofBook_X0_size rfl dv_X0_size hBx_3.1 rfl rfl (Nat.le_of_ble_eq_true rfl) (by rw [hRf]; decide) (by rw [hRl]; decide) (by first | (rw [hRc]; decide) | omega) (by first | (rw [hRs]; decide) | omega) dX3_ofBook_61 (fun r9 M_7 H locs hq hw => ?_)
    obtain ⟨rfl, hM9⟩ := hq
    rw [hM9] at hw
    show W p l e R s m args below meth c H locs _ _ _ (F0 m 64 ls [.int (iN (szx_3))])
    exact vx_ret (x_iret hC hw dX3_ofBook_64 (by first | decide | omega) (by first | decide | omega) ⟨szx_3, rfl, ⟨by omega, by omega⟩, ⟨⟨(by first | omega | trivial), (by first | omega | trivial)⟩, ⟨(by first | omega | trivial), (by first | omega | trivial)⟩⟩, (by have e5 : p1 = 0 := (by omega); rw [A_ofBook, e5, if_pos rfl]; first | done | exact wh_mn (by omega) (by omega) hVx_3 (by omega)), (RG.of (N2 := N + 1) hR hcb (by omega) (by omega))⟩)
  have hgec_6 : 1 ≤ p1 := by omega
  clear c_6
  by_cases c_8 : p1 = 1
  · refine x_tsw (off := 52) (tgt := 65) (k := 1) hC (by omega) dX3_ofBook_13 (by decide) (by decide) rfl (by decide) ?_
    refine lv_aload_n hC.1 hC.2.1 dX3_ofBook_65 rfl (lv_at hl 0 rfl) ?_
    refine x_callV hC hw (lv_size hl) (c_X0_order l G hBx_3 (show (O ((p0).toNat)) < 3 by first | assumption | omega) hVx_3 (by first | assumption | omega) (by first | assumption | omega)) gX3_ofBook_X0_order rfl dv_X0_order hBx_3.1 rfl rfl (Nat.le_of_ble_eq_true rfl) (by rw [hRf]; decide) (by rw [hRl]; decide) (by first | (rw [hRc]; decide) | omega) (by first | (rw [hRs]; decide) | omega) dX3_ofBook_66 (fun r9 M_9 H locs hq hw => ?_)
    obtain ⟨rfl, hM9⟩ := hq
    rw [hM9] at hw
    show W p l e R s m args below meth c H locs _ _ _ (F0 m 69 ls [.int (iN ((((O ((p0).toNat)) : Nat) : Int)))])
    exact vx_ret (x_iret hC hw dX3_ofBook_69 (by first | decide | omega) (by first | decide | omega) ⟨(((O ((p0).toNat)) : Nat) : Int), rfl, ⟨by omega, by omega⟩, ⟨⟨(by first | omega | trivial), (by first | omega | trivial)⟩, ⟨(by first | omega | trivial), (by first | omega | trivial)⟩⟩, (by have e5 : p1 = 1 := (by omega); rw [A_ofBook, e5, if_neg (by decide), if_pos rfl]; first | done | exact rfl), (RG.of (N2 := N + 1) hR hcb (by omega) (by omega))⟩)
  have hgec_8 : 2 ≤ p1 := by omega
  clear c_8
  by_cases c_10 : p1 = 2
  · refine x_tsw (off := 57) (tgt := 70) (k := 2) hC (by omega) dX3_ofBook_13 (by decide) (by decide) rfl (by decide) ?_
    refine lv_aload_n hC.1 hC.2.1 dX3_ofBook_70 rfl (lv_at hl 0 rfl) ?_
    refine x_const hC dX3_ofBook_71 ?_
    refine x_callV hC hw (lv_size hl) (c_X0_keyAt l G hBx_3 (show (O ((p0).toNat)) < 3 by first | assumption | omega) hVx_3 (by first | assumption | omega) (by first | assumption | omega) (p0 := 0) (by omega)) gX3_ofBook_X0_keyAt rfl dv_X0_keyAt hBx_3.1 rfl rfl (Nat.le_of_ble_eq_true rfl) (by rw [hRf]; decide) (by rw [hRl]; decide) (by first | (rw [hRc]; decide) | omega) (by first | (rw [hRs]; decide) | omega) dX3_ofBook_72 (fun r9 M_11 H locs hq hw => ?_)
    obtain ⟨z_12, rfl, hM9, hz_12, hz_12b, hz_12k⟩ := hq
    rw [hM9] at hw
    show W p l e R s m args below meth c H locs _ _ _ (F0 m 75 ls [.int (iN (z_12))])
    exact vx_ret (x_iret hC hw dX3_ofBook_75 (by first | decide | omega) (by first | decide | omega) ⟨z_12, rfl, ⟨by omega, by omega⟩, ⟨⟨(by first | omega | trivial), (by first | omega | trivial)⟩, ⟨(by first | omega | trivial), (by first | omega | trivial)⟩⟩, (by have e5 : p1 = 2 := (by omega); rw [A_ofBook, e5, if_neg (by decide), if_neg (by decide), if_pos rfl]; first | done | exact wh_end (by omega) (by omega) hVx_3 (by omega) (show (szx_3 ≤ 0 ∧ z_12 = -10000) ∨ (0 < szx_3 ∧ (0 : Int) = 0 ∧ z_12 = (fkx_3 (0 : Int).toNat).toInt) ∨ (0 < szx_3 ∧ (0 : Int) ≠ 0 ∧ z_12 = (fkx_3 (szx_3 - 1).toNat).toInt) by omega)), (RG.of (N2 := N + 1) hR hcb (by omega) (by omega))⟩)
  have hgec_10 : 3 ≤ p1 := by omega
  clear c_10
  by_cases c_13 : p1 = 3
  · refine x_tsw (off := 63) (tgt := 76) (k := 3) hC (by omega) dX3_ofBook_13 (by decide) (by decide) rfl (by decide) ?_
    refine lv_aload_n hC.1 hC.2.1 dX3_ofBook_76 rfl (lv_at hl 0 rfl) ?_
    refine x_const hC dX3_ofBook_77 ?_
    refine x_callV hC hw (lv_size hl) (c_X0_valueAt l G hBx_3 (show (O ((p0).toNat)) < 3 by first | assumption | omega) hVx_3 (by first | assumption | omega) (by first | assumption | omega) (p0 := 0) (by omega)) gX3_ofBook_X0_valueAt rfl dv_X0_valueAt hBx_3.1 rfl rfl (Nat.le_of_ble_eq_true rfl) (by rw [hRf]; decide) (by rw [hRl]; decide) (by first | (rw [hRc]; decide) | omega) (by first | (rw [hRs]; decide) | omega) dX3_ofBook_78 (fun r9 M_14 H locs hq hw => ?_)
    obtain ⟨z_15, rfl, hM9, hz_15, hz_15b, hz_15k⟩ := hq
    rw [hM9] at hw
    show W p l e R s m args below meth c H locs _ _ _ (F0 m 81 ls [.int (iN (z_15))])
    exact vx_ret (x_iret hC hw dX3_ofBook_81 (by first | decide | omega) (by first | decide | omega) ⟨z_15, rfl, ⟨by omega, by omega⟩, ⟨⟨(by first | omega | trivial), (by first | omega | trivial)⟩, ⟨(by first | omega | trivial), (by first | omega | trivial)⟩⟩, (by have e5 : p1 = 3 := (by omega); rw [A_ofBook, e5, if_neg (by decide), if_neg (by decide), if_neg (by decide), if_pos rfl]; first | done | exact wh_vl (by omega) (by omega) hVx_3 (by omega) (show (szx_3 ≤ 0 ∧ z_15 = -10000) ∨ (0 < szx_3 ∧ (0 : Int) = 0 ∧ z_15 = (fwx_3 (0 : Int).toNat).toInt) ∨ (0 < szx_3 ∧ (0 : Int) ≠ 0 ∧ z_15 = (fwx_3 (szx_3 - 1).toNat).toInt) by omega)), (RG.of (N2 := N + 1) hR hcb (by omega) (by omega))⟩)
  have hgec_13 : 4 ≤ p1 := by omega
  clear c_13
  by_cases c_16 : p1 = 4
  · refine x_tsw (off := 69) (tgt := 82) (k := 4) hC (by omega) dX3_ofBook_13 (by decide) (by decide) rfl (by decide) ?_
    refine lv_aload_n hC.1 hC.2.1 dX3_ofBook_82 rfl (lv_at hl 0 rfl) ?_
    refine lv_aload_n hC.1 hC.2.1 dX3_ofBook_83 rfl (lv_at hl 0 rfl) ?_
    refine x_callV hC hw (lv_size hl) (c_X0_size l G hBx_3 (show (O ((p0).toNat)) < 3 by first | assumption | omega) hVx_3 (by first | assumption | omega) (by first | assumption | omega)) gX3_ofBook_X0_size rfl dv_X0_size hBx_3.1 rfl rfl (Nat.le_of_ble_eq_true rfl) (by rw [hRf]; decide) (by rw [hRl]; decide) (by first | (rw [hRc]; decide) | omega) (by first | (rw [hRs]; decide) | omega) dX3_ofBook_84 (fun r9 M_17 H locs hq hw => ?_)
    obtain ⟨rfl, hM9⟩ := hq
    rw [hM9] at hw
    show W p l e R s m args below meth c H locs _ _ _ (F0 m 87 ls [.int (iN (szx_3)), .ref (qb ((p0).toNat))])
    refine x_const hC dX3_ofBook_87 ?_
    refine x_isub hC dX3_ofBook_88 ?_
    refine x_callV hC hw (lv_size hl) (c_X0_keyAt l G hBx_3 (show (O ((p0).toNat)) < 3 by first | assumption | omega) hVx_3 (by first | assumption | omega) (by first | assumption | omega) (p0 := (szx_3 - 1)) (by omega)) gX3_ofBook_X0_keyAt rfl dv_X0_keyAt hBx_3.1 rfl rfl (Nat.le_of_ble_eq_true rfl) (by rw [hRf]; decide) (by rw [hRl]; decide) (by first | (rw [hRc]; decide) | omega) (by first | (rw [hRs]; decide) | omega) dX3_ofBook_89 (fun r9 M_18 H locs hq hw => ?_)
    obtain ⟨z_19, rfl, hM9, hz_19, hz_19b, hz_19k⟩ := hq
    rw [hM9] at hw
    show W p l e R s m args below meth c H locs _ _ _ (F0 m 92 ls [.int (iN (z_19))])
    exact vx_ret (x_iret hC hw dX3_ofBook_92 (by first | decide | omega) (by first | decide | omega) ⟨z_19, rfl, ⟨by omega, by omega⟩, ⟨⟨(by first | omega | trivial), (by first | omega | trivial)⟩, ⟨(by first | omega | trivial), (by first | omega | trivial)⟩⟩, (by have e5 : p1 = 4 := (by omega); rw [A_ofBook, e5, if_neg (by decide), if_neg (by decide), if_neg (by decide), if_neg (by decide), if_pos rfl]; first | done | exact wh_end (by omega) (by omega) hVx_3 (by omega) (show (szx_3 ≤ 0 ∧ z_19 = -10000) ∨ (0 < szx_3 ∧ (1 : Int) = 0 ∧ z_19 = (fkx_3 (0 : Int).toNat).toInt) ∨ (0 < szx_3 ∧ (1 : Int) ≠ 0 ∧ z_19 = (fkx_3 (szx_3 - 1).toNat).toInt) by omega)), (RG.of (N2 := N + 1) hR hcb (by omega) (by omega))⟩)
  have hgec_16 : 5 ≤ p1 := by omega
  clear c_16
  by_cases c_20 : p1 = 5
  · refine x_tsw (off := 80) (tgt := 93) (k := 5) hC (by omega) dX3_ofBook_13 (by decide) (by decide) rfl (by decide) ?_
    refine lv_aload_n hC.1 hC.2.1 dX3_ofBook_93 rfl (lv_at hl 0 rfl) ?_
    refine lv_aload_n hC.1 hC.2.1 dX3_ofBook_94 rfl (lv_at hl 0 rfl) ?_
    refine x_callV hC hw (lv_size hl) (c_X0_size l G hBx_3 (show (O ((p0).toNat)) < 3 by first | assumption | omega) hVx_3 (by first | assumption | omega) (by first | assumption | omega)) gX3_ofBook_X0_size rfl dv_X0_size hBx_3.1 rfl rfl (Nat.le_of_ble_eq_true rfl) (by rw [hRf]; decide) (by rw [hRl]; decide) (by first | (rw [hRc]; decide) | omega) (by first | (rw [hRs]; decide) | omega) dX3_ofBook_95 (fun r9 M_21 H locs hq hw => ?_)
    obtain ⟨rfl, hM9⟩ := hq
    rw [hM9] at hw
    show W p l e R s m args below meth c H locs _ _ _ (F0 m 98 ls [.int (iN (szx_3)), .ref (qb ((p0).toNat))])
    refine x_const hC dX3_ofBook_98 ?_
    refine x_isub hC dX3_ofBook_99 ?_
    refine x_callV hC hw (lv_size hl) (c_X0_valueAt l G hBx_3 (show (O ((p0).toNat)) < 3 by first | assumption | omega) hVx_3 (by first | assumption | omega) (by first | assumption | omega) (p0 := (szx_3 - 1)) (by omega)) gX3_ofBook_X0_valueAt rfl dv_X0_valueAt hBx_3.1 rfl rfl (Nat.le_of_ble_eq_true rfl) (by rw [hRf]; decide) (by rw [hRl]; decide) (by first | (rw [hRc]; decide) | omega) (by first | (rw [hRs]; decide) | omega) dX3_ofBook_100 (fun r9 M_22 H locs hq hw => ?_)
    obtain ⟨z_23, rfl, hM9, hz_23, hz_23b, hz_23k⟩ := hq
    rw [hM9] at hw
    show W p l e R s m args below meth c H locs _ _ _ (F0 m 103 ls [.int (iN (z_23))])
    exact vx_ret (x_iret hC hw dX3_ofBook_103 (by first | decide | omega) (by first | decide | omega) ⟨z_23, rfl, ⟨by omega, by omega⟩, ⟨⟨(by first | omega | trivial), (by first | omega | trivial)⟩, ⟨(by first | omega | trivial), (by first | omega | trivial)⟩⟩, (by have e5 : p1 = 5 := (by omega); rw [A_ofBook, e5, if_neg (by decide), if_neg (by decide), if_neg (by decide), if_neg (by decide), if_neg (by decide), if_pos rfl]; first | done | exact wh_vl (by omega) (by omega) hVx_3 (by omega) (show (szx_3 ≤ 0 ∧ z_23 = -10000) ∨ (0 < szx_3 ∧ (1 : Int) = 0 ∧ z_23 = (fwx_3 (0 : Int).toNat).toInt) ∨ (0 < szx_3 ∧ (1 : Int) ≠ 0 ∧ z_23 = (fwx_3 (szx_3 - 1).toNat).toInt) by omega)), (RG.of (N2 := N + 1) hR hcb (by omega) (by omega))⟩)
  have hgec_20 : 6 ≤ p1 := by omega
  clear c_20
  by_cases c_24 : p1 = 6
  · refine x_tsw (off := 91) (tgt := 104) (k := 6) hC (by omega) dX3_ofBook_13 (by decide) (by decide) rfl (by decide) ?_
    refine lv_aload_n hC.1 hC.2.1 dX3_ofBook_104 rfl (lv_at hl 0 rfl) ?_
    refine x_const hC dX3_ofBook_105 ?_
    refine lv_aload_n hC.1 hC.2.1 dX3_ofBook_106 rfl (lv_at hl 0 rfl) ?_
    refine x_callV hC hw (lv_size hl) (c_X0_size l G hBx_3 (show (O ((p0).toNat)) < 3 by first | assumption | omega) hVx_3 (by first | assumption | omega) (by first | assumption | omega)) gX3_ofBook_X0_size rfl dv_X0_size hBx_3.1 rfl rfl (Nat.le_of_ble_eq_true rfl) (by rw [hRf]; decide) (by rw [hRl]; decide) (by first | (rw [hRc]; decide) | omega) (by first | (rw [hRs]; decide) | omega) dX3_ofBook_107 (fun r9 M_25 H locs hq hw => ?_)
    obtain ⟨rfl, hM9⟩ := hq
    rw [hM9] at hw
    show W p l e R s m args below meth c H locs _ _ _ (F0 m 110 ls [.int (iN (szx_3)), .int (iN (0)), .ref (qb ((p0).toNat))])
    refine x_callV hC hw (lv_size hl) (c_X0_sum l G hBx_3 (show (O ((p0).toNat)) < 3 by first | assumption | omega) hVx_3 (by first | assumption | omega) (by first | assumption | omega) (p0 := 0) (by omega) (p1 := szx_3) (by omega) (by omega) (by omega)) gX3_ofBook_X0_sum rfl dv_X0_sum hBx_3.1 rfl rfl (Nat.le_of_ble_eq_true rfl) (by rw [hRf]; decide) (by rw [hRl]; decide) (by first | (rw [hRc]; decide) | omega) (by first | (rw [hRs]; decide) | omega) dX3_ofBook_110 (fun r9 M_26 H locs hq hw => ?_)
    obtain ⟨z_27, rfl, hM9, hz_27, hz_27s, hz_27z⟩ := hq
    rw [hM9] at hw
    show W p l e R s m args below meth c H locs _ _ _ (F0 m 113 ls [.int (iN (z_27))])
    exact vx_ret (x_iret hC hw dX3_ofBook_113 (by first | decide | omega) (by first | decide | omega) ⟨z_27, rfl, ⟨by omega, by omega⟩, ⟨⟨(by first | omega | trivial), (by first | omega | trivial)⟩, ⟨(by first | omega | trivial), (by first | omega | trivial)⟩⟩, (by have e5 : p1 = 6 := (by omega); rw [A_ofBook, e5, if_neg (by decide), if_neg (by decide), if_neg (by decide), if_neg (by decide), if_neg (by decide), if_neg (by decide), if_pos rfl]; first | done | exact (hz_27s (by omega)).trans (wh_sm (by omega) (by omega) hVx_3 (by omega))), (RG.of (N2 := N + 1) hR hcb (by omega) (by omega))⟩)
  have hgec_24 : 7 ≤ p1 := by omega
  clear c_24
  by_cases c_28 : p1 = 7
  · refine x_tsw (off := 101) (tgt := 114) (k := 7) hC (by omega) dX3_ofBook_13 (by decide) (by decide) rfl (by decide) ?_
    refine lv_aload_n hC.1 hC.2.1 dX3_ofBook_114 rfl (lv_at hl 0 rfl) ?_
    refine x_callV hC hw (lv_size hl) (c_X0_unlikeValues l G hBx_3 (show (O ((p0).toNat)) < 3 by first | assumption | omega) hVx_3 (by first | assumption | omega) (by first | assumption | omega)) gX3_ofBook_X0_unlikeValues rfl dv_X0_unlikeValues hBx_3.1 rfl rfl (Nat.le_of_ble_eq_true rfl) (by rw [hRf]; decide) (by rw [hRl]; decide) (by first | (rw [hRc]; decide) | omega) (by first | (rw [hRs]; decide) | omega) dX3_ofBook_115 (fun r9 M_29 H locs hq hw => ?_)
    obtain ⟨z_30, rfl, hM9, hz_30, hz_30c⟩ := hq
    rw [hM9] at hw
    show W p l e R s m args below meth c H locs _ _ _ (F0 m 118 ls [.int (iN (z_30))])
    exact vx_ret (x_iret hC hw dX3_ofBook_118 (by first | decide | omega) (by first | decide | omega) ⟨z_30, rfl, ⟨by omega, by omega⟩, ⟨⟨(by first | omega | trivial), (by first | omega | trivial)⟩, ⟨(by first | omega | trivial), (by first | omega | trivial)⟩⟩, (by have e5 : p1 = 7 := (by omega); rw [A_ofBook, e5, if_neg (by decide), if_neg (by decide), if_neg (by decide), if_neg (by decide), if_neg (by decide), if_neg (by decide), if_neg (by decide), if_pos rfl]; first | done | exact hz_30c.trans (un_eq hVx_3)), (RG.of (N2 := N + 1) hR hcb (by omega) (by omega))⟩)
  have hgec_28 : 8 ≤ p1 := by omega
  clear c_28
  refine x_tswd (tgt := 119) hC ⟨by omega, by omega⟩ dX3_ofBook_13 (by omega) (by decide) ?_
  refine lv_aload_n hC.1 hC.2.1 dX3_ofBook_119 rfl (lv_at hl 1 rfl) ?_
  refine lv_aload_n hC.1 hC.2.1 dX3_ofBook_120 rfl (lv_at hl 0 rfl) ?_
  refine x_callV hC hw (lv_size hl) (c_X3_viewsOnto l G hR (bi := (p0).toNat) hik_2) gX3_ofBook_X3_viewsOnto rfl dv_X3_viewsOnto hR.1 rfl rfl (Nat.le_of_ble_eq_true rfl) (by rw [hRf]; decide) (by rw [hRl]; decide) (by first | (rw [hRc]; decide) | omega) (by first | (rw [hRs]; decide) | omega) dX3_ofBook_121 (fun r9 M_31 H locs hq hw => ?_)
  obtain ⟨z_32, rfl, hM9, hz_32, hz_32v⟩ := hq
  rw [hM9] at hw
  show W p l e R s m args below meth c H locs _ _ _ (F0 m 124 ls [.int (iN (z_32))])
  exact vx_ret (x_iret hC hw dX3_ofBook_124 (by first | decide | omega) (by first | decide | omega) ⟨z_32, rfl, ⟨by omega, by omega⟩, ⟨⟨(by first | omega | trivial), (by first | omega | trivial)⟩, ⟨(by first | omega | trivial), (by first | omega | trivial)⟩⟩, (by have e5 : p1 = 8 := (by omega); rw [A_ofBook, e5, if_neg (by decide), if_neg (by decide), if_neg (by decide), if_neg (by decide), if_neg (by decide), if_neg (by decide), if_neg (by decide), if_neg (by decide)]; first | done | exact hz_32v), (RG.of (N2 := N + 1) hR hcb (by omega) (by omega))⟩)
set_option maxHeartbeats 4000000 in
set_option maxRecDepth 100000 in
theorem c_X3_ofView (l : Launch) (G : xG) {M : HM} (hst : l.stackTraces = false) {h0 bs vs : Nat} {og : Option Nat} {kk kv rf : Int32} {qb qk qv : Nat → Nat} {fb fv : Nat → Option Nat} {O : OW} {Wv : VW} {V : BW} {T C : Nat → Int} {K : WA} {N : Int} (hR : RGx G M h0 bs vs og kk kv rf qb qk qv fb fv O O Wv V T C K) (hcb : cbN N T C) (hN : N ≤ 590) {p0 : Int} (hp0 : -2147483648 ≤ p0 ∧ p0 ≤ 2147483647) {p1 : Int} (hp1 : -2147483648 ≤ p1 ∧ p1 ≤ 2147483647) : xMetX l G yX3_ofView wsX3_ofView 7 111 2 12 [.ref h0, .int (iN (p0)), .int (iN (p1))] M (fun r M1 => ∃ z : Int, r = some (.int (iN z)) ∧ (-2147483648 ≤ z ∧ z ≤ 2147483647) ∧ ((0 ≤ p0 ∧ p0 ≤ 3 ∧ opN (Wv p0.toNat) = 1) ∧ (0 ≤ p1 ∧ p1 ≤ 8)) ∧ z = A_ofView (O, V, Wv, abK T C K, kk, kv, rf) p0 p1 ∧ RG G M1 h0 (N + 1) (O, V, Wv, abK T C K, kk, kv, rf)) (fun E M1 => ((E = xIO ∧ ¬ (0 ≤ p0 ∧ p0 ≤ 3 ∧ opN (Wv p0.toNat) = 1)) ∨ (E = xIA ∧ (0 ≤ p0 ∧ p0 ≤ 3 ∧ opN (Wv p0.toNat) = 1) ∧ ¬ (0 ≤ p1 ∧ p1 ≤ 8))) ∧ RG G M1 h0 (N + 1) (O, V, Wv, abK T C K, kk, kv, rf)) := by
  refine x_introX (cc := cX3_ofView) (maxL := 4) (ret := (some .int)) (by exact pln_RX3) rfl (Nat.le_of_ble_eq_true rfl) ?_
  intro p e R s m args below meth c ls hRf hRc hRs hRl htab hC hw hl
  have hl : lv_has ls 4 [(0, .ref h0), (1, .int (iN (p0))), (2, .int (iN (p1)))] := hl
  refine lv_aload_n hC.1 hC.2.1 dX3_ofView_0 rfl (lv_at hl 0 rfl) ?_
  refine lv_iload_n hC.1 hC.2.1 dX3_ofView_1 rfl (lv_at hl 1 rfl) ?_
  refine x_callVX hC hw (lv_size hl) (c_X3_viewAt l G hst hR hcb hN (p0 := p0) (by first | assumption | omega)) gX3_ofView_X3_viewAt rfl dv_X3_viewAt hR.1 rfl rfl (Nat.le_of_ble_eq_true rfl) (by rw [hRf]; decide) (by rw [hRl]; decide) (by first | (rw [hRc]; decide) | omega) (by first | (rw [hRs]; decide) | omega) dX3_ofView_2 (fun E ce q9 M_1 H locs hqx hw hcell hcv hcls => ?_) (fun r9 M_1 H locs hq hw => ?_)
  · rw [hqx.2] at hw
    obtain ⟨hE, hc9⟩ := hqx.1
    replace hqx := hqx.2
    subst hE
    exact x_outX hC hw htab hcell hcv hcls (by first | decide | omega) (by first | decide | omega) ⟨Or.inl ⟨rfl, (by first | exact hc9 | omega | trivial)⟩, (RG.of (N2 := N + 1) hR hcb (by omega) (by omega))⟩
  obtain ⟨y_3, rfl, hM9, hk_2, hk_2b, hyk_2⟩ := hq
  rw [hM9] at hw
  obtain ⟨ux_4, hux_4, hTx_4⟩ := (hR.vwo (show (p0).toNat < 4 from tn_lt (by omega) (by decide))).yes hyk_2
  have hpx_4 := opN_some hux_4
  have hkx_5 := hTx_4.1
  have hvx_5 := hTx_4.2
  have hlix_5 := hvx_5.2.1
  have huix_5 := hvx_5.2.2
  obtain ⟨htax_5, htbx_5, htcx_5, htdx_5, htex_5⟩ := id hkx_5
  obtain ⟨szx_6, fkx_6, fwx_6, hBx_6, hVx_6⟩ := hR.bk htax_5
  obtain ⟨-, -, -, -, hsax_6, hsbx_6⟩ := id hBx_6
  have holx_6 := hR.ol htax_5
  have hctx_6 := hcb.2 _ htax_5
  show W p l e R s m args below meth c H locs _ _ _ (F0 m 5 ls [.ref y_3])
  refine lv_astore_n (lv' := [(3, .ref y_3), (0, .ref h0), (1, .int (iN (p0))), (2, .int (iN (p1)))]) hC.1 hC.2.1 dX3_ofView_5 rfl hl (by decide) rfl (fun ls hl => ?_)
  refine lv_iload_n hC.1 hC.2.1 dX3_ofView_6 rfl (lv_at hl 3 rfl) ?_
  refine x_bipush hC dX3_ofView_7 (by decide +kernel) ?_
  refine x_callSX hC hw (lv_size hl) (c_X3_checkWhat l G (M := M) hst (p0 := p1) (by first | assumption | omega) (p1 := 8) (by omega)) gX3_ofView_X3_checkWhat rfl dv_X3_checkWhat_s rfl (Nat.le_of_ble_eq_true rfl) (by rw [hRf]; decide) (by rw [hRl]; decide) (by first | (rw [hRc]; decide) | omega) (by first | (rw [hRs]; decide) | omega) dX3_ofView_9 (fun E ce q9 M_7 H locs hqx hw hcell hcv hcls => ?_) (fun r9 M_7 H locs hq hw => ?_)
  · rw [hqx.2] at hw
    obtain ⟨hE, hc9⟩ := hqx.1
    replace hqx := hqx.2
    subst hE
    exact x_outX hC hw htab hcell hcv hcls (by first | decide | omega) (by first | decide | omega) ⟨Or.inr (⟨rfl, ⟨⟨(by first | omega | trivial), (by first | omega | trivial), (by first | omega | trivial)⟩, (by first | exact hc9 | omega | trivial)⟩⟩), (RG.of (N2 := N + 1) hR hcb (by omega) (by omega))⟩
  obtain ⟨rfl, hM9, hk_8⟩ := hq
  rw [hM9] at hw
  show W p l e R s m args below meth c H locs _ _ _ (F0 m 12 ls [])
  refine lv_iload_n hC.1 hC.2.1 dX3_ofView_12 rfl (lv_at hl 3 rfl) ?_
  by_cases c_9 : p1 = 0
  · refine x_tsw (off := 47) (tgt := 60) (k := 0) hC (by omega) dX3_ofView_13 (by decide) (by decide) rfl (by decide) ?_
    refine lv_aload_n hC.1 hC.2.1 dX3_ofView_60 rfl (lv_at hl 0 rfl) ?_
    refine x_callV hC hw (lv_size hl) (c_X1_size l G hkx_5 hvx_5 hBx_6 (show (O ux_4.b) < 3 by first | assumption | omega) hVx_6 (by first | assumption | omega) (by first | assumption | omega) (O := O) (V := V) (t9 := ux_4)) gX3_ofView_X1_size rfl dv_X1_size hvx_5.1 rfl rfl (Nat.le_of_ble_eq_true rfl) (by rw [hRf]; decide) (by rw [hRl]; decide) (by first | (rw [hRc]; decide) | omega) (by first | (rw [hRs]; decide) | omega) dX3_ofView_61 (fun r9 M_10 H locs hq hw => ?_)
    obtain ⟨z_11, rfl, hM9, hz_11, hz_11m⟩ := hq
    rw [hM9] at hw
    show W p l e R s m args below meth c H locs _ _ _ (F0 m 64 ls [.int (iN (z_11))])
    exact vx_ret (x_iret hC hw dX3_ofView_64 (by first | decide | omega) (by first | decide | omega) ⟨z_11, rfl, ⟨by omega, by omega⟩, ⟨⟨(by first | omega | trivial), (by first | omega | trivial), (by first | omega | trivial)⟩, ⟨(by first | omega | trivial), (by first | omega | trivial)⟩⟩, (by have e5 : p1 = 0 := (by omega); rw [A_ofView, e5, show tvW (ST.W (O, V, Wv, abK T C K, kk, kv, rf)) p0.toNat = ux_4 from tvW_some hux_4, if_pos rfl]; first | done | exact hz_11m), (RG.of (N2 := N + 1) hR hcb (by omega) (by omega))⟩)
  have hgec_9 : 1 ≤ p1 := by omega
  clear c_9
  by_cases c_12 : p1 = 1
  · refine x_tsw (off := 52) (tgt := 65) (k := 1) hC (by omega) dX3_ofView_13 (by decide) (by decide) rfl (by decide) ?_
    refine lv_aload_n hC.1 hC.2.1 dX3_ofView_65 rfl (lv_at hl 0 rfl) ?_
    refine x_callV hC hw (lv_size hl) (c_X1_book l G hvx_5) gX3_ofView_X1_book rfl dv_X1_book hvx_5.1 rfl rfl (Nat.le_of_ble_eq_true rfl) (by rw [hRf]; decide) (by rw [hRl]; decide) (by first | (rw [hRc]; decide) | omega) (by first | (rw [hRs]; decide) | omega) dX3_ofView_66 (fun r9 M_13 H locs hq hw => ?_)
    obtain ⟨rfl, hM9⟩ := hq
    rw [hM9] at hw
    show W p l e R s m args below meth c H locs _ _ _ (F0 m 69 ls [.ref (qb ux_4.b)])
    refine x_callV hC hw (lv_size hl) (c_X0_number l G hBx_6 (show (O ux_4.b) < 3 by first | assumption | omega) hVx_6 (by first | assumption | omega) (by first | assumption | omega)) gX3_ofView_X0_number rfl dv_X0_number hBx_6.1 rfl rfl (Nat.le_of_ble_eq_true rfl) (by rw [hRf]; decide) (by rw [hRl]; decide) (by first | (rw [hRc]; decide) | omega) (by first | (rw [hRs]; decide) | omega) dX3_ofView_69 (fun r9 M_14 H locs hq hw => ?_)
    obtain ⟨rfl, hM9⟩ := hq
    rw [hM9] at hw
    have hrr_15 := iN_rng (iN ((ux_4.b : Nat) : Int))
    show W p l e R s m args below meth c H locs _ _ _ (F0 m 72 ls [.int (iN ((iN ((ux_4.b : Nat) : Int)).toInt))])
    exact vx_ret (x_iret hC hw dX3_ofView_72 (by first | decide | omega) (by first | decide | omega) ⟨(iN ((ux_4.b : Nat) : Int)).toInt, rfl, ⟨by omega, by omega⟩, ⟨⟨(by first | omega | trivial), (by first | omega | trivial), (by first | omega | trivial)⟩, ⟨(by first | omega | trivial), (by first | omega | trivial)⟩⟩, (by have e5 : p1 = 1 := (by omega); rw [A_ofView, e5, show tvW (ST.W (O, V, Wv, abK T C K, kk, kv, rf)) p0.toNat = ux_4 from tvW_some hux_4, if_neg (by decide), if_pos rfl]; first | done | exact iN_toInt ⟨by omega, by omega⟩), (RG.of (N2 := N + 1) hR hcb (by omega) (by omega))⟩)
  have hgec_12 : 2 ≤ p1 := by omega
  clear c_12
  by_cases c_16 : p1 = 2
  · refine x_tsw (off := 60) (tgt := 73) (k := 2) hC (by omega) dX3_ofView_13 (by decide) (by decide) rfl (by decide) ?_
    refine lv_aload_n hC.1 hC.2.1 dX3_ofView_73 rfl (lv_at hl 0 rfl) ?_
    refine x_callV hC hw (lv_size hl) (c_X1_lowerBound l G hvx_5) gX3_ofView_X1_lowerBound rfl dv_X1_lowerBound hvx_5.1 rfl rfl (Nat.le_of_ble_eq_true rfl) (by rw [hRf]; decide) (by rw [hRl]; decide) (by first | (rw [hRc]; decide) | omega) (by first | (rw [hRs]; decide) | omega) dX3_ofView_74 (fun r9 M_17 H locs hq hw => ?_)
    obtain ⟨rfl, hM9⟩ := hq
    rw [hM9] at hw
    have hrr_18 := iN_rng (iN ux_4.lo)
    have he_19 : (iN ux_4.lo).toInt = ux_4.lo := iN_toInt ⟨by omega, by omega⟩
    show W p l e R s m args below meth c H locs _ _ _ (F0 m 77 ls [.int (iN ((iN ux_4.lo).toInt))])
    exact vx_ret (x_iret hC hw dX3_ofView_77 (by first | decide | omega) (by first | decide | omega) ⟨(iN ux_4.lo).toInt, rfl, ⟨by omega, by omega⟩, ⟨⟨(by first | omega | trivial), (by first | omega | trivial), (by first | omega | trivial)⟩, ⟨(by first | omega | trivial), (by first | omega | trivial)⟩⟩, (by have e5 : p1 = 2 := (by omega); rw [A_ofView, e5, show tvW (ST.W (O, V, Wv, abK T C K, kk, kv, rf)) p0.toNat = ux_4 from tvW_some hux_4, if_neg (by decide), if_neg (by decide), if_pos rfl]; first | done | exact (by omega)), (RG.of (N2 := N + 1) hR hcb (by omega) (by omega))⟩)
  have hgec_16 : 3 ≤ p1 := by omega
  clear c_16
  by_cases c_20 : p1 = 3
  · refine x_tsw (off := 65) (tgt := 78) (k := 3) hC (by omega) dX3_ofView_13 (by decide) (by decide) rfl (by decide) ?_
    refine lv_aload_n hC.1 hC.2.1 dX3_ofView_78 rfl (lv_at hl 0 rfl) ?_
    refine x_callV hC hw (lv_size hl) (c_X1_upperBound l G hvx_5) gX3_ofView_X1_upperBound rfl dv_X1_upperBound hvx_5.1 rfl rfl (Nat.le_of_ble_eq_true rfl) (by rw [hRf]; decide) (by rw [hRl]; decide) (by first | (rw [hRc]; decide) | omega) (by first | (rw [hRs]; decide) | omega) dX3_ofView_79 (fun r9 M_21 H locs hq hw => ?_)
    obtain ⟨rfl, hM9⟩ := hq
    rw [hM9] at hw
    have hrr_22 := iN_rng (iN ux_4.up)
    have he_23 : (iN ux_4.up).toInt = ux_4.up := iN_toInt ⟨by omega, by omega⟩
    show W p l e R s m args below meth c H locs _ _ _ (F0 m 82 ls [.int (iN ((iN ux_4.up).toInt))])
    exact vx_ret (x_iret hC hw dX3_ofView_82 (by first | decide | omega) (by first | decide | omega) ⟨(iN ux_4.up).toInt, rfl, ⟨by omega, by omega⟩, ⟨⟨(by first | omega | trivial), (by first | omega | trivial), (by first | omega | trivial)⟩, ⟨(by first | omega | trivial), (by first | omega | trivial)⟩⟩, (by have e5 : p1 = 3 := (by omega); rw [A_ofView, e5, show tvW (ST.W (O, V, Wv, abK T C K, kk, kv, rf)) p0.toNat = ux_4 from tvW_some hux_4, if_neg (by decide), if_neg (by decide), if_neg (by decide), if_pos rfl]; first | done | exact (by omega)), (RG.of (N2 := N + 1) hR hcb (by omega) (by omega))⟩)
  have hgec_20 : 4 ≤ p1 := by omega
  clear c_20
  by_cases c_24 : p1 = 4
  · refine x_tsw (off := 70) (tgt := 83) (k := 4) hC (by omega) dX3_ofView_13 (by decide) (by decide) rfl (by decide) ?_
    refine lv_aload_n hC.1 hC.2.1 dX3_ofView_83 rfl (lv_at hl 0 rfl) ?_
    refine x_callV hC hw (lv_size hl) (c_X1_isLowerIn l G hvx_5) gX3_ofView_X1_isLowerIn rfl dv_X1_isLowerIn hvx_5.1 rfl rfl (Nat.le_of_ble_eq_true rfl) (by rw [hRf]; decide) (by rw [hRl]; decide) (by first | (rw [hRc]; decide) | omega) (by first | (rw [hRs]; decide) | omega) dX3_ofView_84 (fun r9 M_25 H locs hq hw => ?_)
    obtain ⟨rfl, hM9⟩ := hq
    rw [hM9] at hw
    show W p l e R s m args below meth c H locs _ _ _ (F0 m 87 ls [.int (iN (ux_4.li))])
    refine x_if_eq (tgt := 94) hC ⟨by omega, by omega⟩ dX3_ofView_87 (by decide) (fun c_26 => ?_) (fun c_26 => ?_)
    · refine x_const hC dX3_ofView_94 ?_
      exact vx_ret (x_iret hC hw dX3_ofView_95 (by first | decide | omega) (by first | decide | omega) ⟨0, rfl, ⟨by omega, by omega⟩, ⟨⟨(by first | omega | trivial), (by first | omega | trivial), (by first | omega | trivial)⟩, ⟨(by first | omega | trivial), (by first | omega | trivial)⟩⟩, (by have e5 : p1 = 4 := (by omega); rw [A_ofView, e5, show tvW (ST.W (O, V, Wv, abK T C K, kk, kv, rf)) p0.toNat = ux_4 from tvW_some hux_4, if_neg (by decide), if_neg (by decide), if_neg (by decide), if_neg (by decide), if_pos rfl]; first | done | exact (by omega)), (RG.of (N2 := N + 1) hR hcb (by omega) (by omega))⟩)
    · refine x_const hC dX3_ofView_90 ?_
      refine lv_goto (tgt := 95) hC.1 hC.2.1 dX3_ofView_91 (by decide) ?_
      exact vx_ret (x_iret hC hw dX3_ofView_95 (by first | decide | omega) (by first | decide | omega) ⟨1, rfl, ⟨by omega, by omega⟩, ⟨⟨(by first | omega | trivial), (by first | omega | trivial), (by first | omega | trivial)⟩, ⟨(by first | omega | trivial), (by first | omega | trivial)⟩⟩, (by have e5 : p1 = 4 := (by omega); rw [A_ofView, e5, show tvW (ST.W (O, V, Wv, abK T C K, kk, kv, rf)) p0.toNat = ux_4 from tvW_some hux_4, if_neg (by decide), if_neg (by decide), if_neg (by decide), if_neg (by decide), if_pos rfl]; first | done | exact (by omega)), (RG.of (N2 := N + 1) hR hcb (by omega) (by omega))⟩)
  have hgec_24 : 5 ≤ p1 := by omega
  clear c_24
  by_cases c_27 : p1 = 5
  · refine x_tsw (off := 83) (tgt := 96) (k := 5) hC (by omega) dX3_ofView_13 (by decide) (by decide) rfl (by decide) ?_
    refine lv_aload_n hC.1 hC.2.1 dX3_ofView_96 rfl (lv_at hl 0 rfl) ?_
    refine x_callV hC hw (lv_size hl) (c_X1_isUpperIn l G hvx_5) gX3_ofView_X1_isUpperIn rfl dv_X1_isUpperIn hvx_5.1 rfl rfl (Nat.le_of_ble_eq_true rfl) (by rw [hRf]; decide) (by rw [hRl]; decide) (by first | (rw [hRc]; decide) | omega) (by first | (rw [hRs]; decide) | omega) dX3_ofView_97 (fun r9 M_28 H locs hq hw => ?_)
    obtain ⟨rfl, hM9⟩ := hq
    rw [hM9] at hw
    show W p l e R s m args below meth c H locs _ _ _ (F0 m 100 ls [.int (iN (ux_4.ui))])
    refine x_if_eq (tgt := 107) hC ⟨by omega, by omega⟩ dX3_ofView_100 (by decide) (fun c_29 => ?_) (fun c_29 => ?_)
    · refine x_const hC dX3_ofView_107 ?_
      exact vx_ret (x_iret hC hw dX3_ofView_108 (by first | decide | omega) (by first | decide | omega) ⟨0, rfl, ⟨by omega, by omega⟩, ⟨⟨(by first | omega | trivial), (by first | omega | trivial), (by first | omega | trivial)⟩, ⟨(by first | omega | trivial), (by first | omega | trivial)⟩⟩, (by have e5 : p1 = 5 := (by omega); rw [A_ofView, e5, show tvW (ST.W (O, V, Wv, abK T C K, kk, kv, rf)) p0.toNat = ux_4 from tvW_some hux_4, if_neg (by decide), if_neg (by decide), if_neg (by decide), if_neg (by decide), if_neg (by decide), if_pos rfl]; first | done | exact (by omega)), (RG.of (N2 := N + 1) hR hcb (by omega) (by omega))⟩)
    · refine x_const hC dX3_ofView_103 ?_
      refine lv_goto (tgt := 108) hC.1 hC.2.1 dX3_ofView_104 (by decide) ?_
      exact vx_ret (x_iret hC hw dX3_ofView_108 (by first | decide | omega) (by first | decide | omega) ⟨1, rfl, ⟨by omega, by omega⟩, ⟨⟨(by first | omega | trivial), (by first | omega | trivial), (by first | omega | trivial)⟩, ⟨(by first | omega | trivial), (by first | omega | trivial)⟩⟩, (by have e5 : p1 = 5 := (by omega); rw [A_ofView, e5, show tvW (ST.W (O, V, Wv, abK T C K, kk, kv, rf)) p0.toNat = ux_4 from tvW_some hux_4, if_neg (by decide), if_neg (by decide), if_neg (by decide), if_neg (by decide), if_neg (by decide), if_pos rfl]; first | done | exact (by omega)), (RG.of (N2 := N + 1) hR hcb (by omega) (by omega))⟩)
  have hgec_27 : 6 ≤ p1 := by omega
  clear c_27
  by_cases c_30 : p1 = 6
  · refine x_tsw (off := 96) (tgt := 109) (k := 6) hC (by omega) dX3_ofView_13 (by decide) (by decide) rfl (by decide) ?_
    refine lv_aload_n hC.1 hC.2.1 dX3_ofView_109 rfl (lv_at hl 0 rfl) ?_
    refine x_callV hC hw (lv_size hl) (c_X1_size l G hkx_5 hvx_5 hBx_6 (show (O ux_4.b) < 3 by first | assumption | omega) hVx_6 (by first | assumption | omega) (by first | assumption | omega) (O := O) (V := V) (t9 := ux_4)) gX3_ofView_X1_size rfl dv_X1_size hvx_5.1 rfl rfl (Nat.le_of_ble_eq_true rfl) (by rw [hRf]; decide) (by rw [hRl]; decide) (by first | (rw [hRc]; decide) | omega) (by first | (rw [hRs]; decide) | omega) dX3_ofView_110 (fun r9 M_31 H locs hq hw => ?_)
    obtain ⟨z_32, rfl, hM9, hz_32, hz_32m⟩ := hq
    rw [hM9] at hw
    show W p l e R s m args below meth c H locs _ _ _ (F0 m 113 ls [.int (iN (z_32))])
    refine x_if_ne (tgt := 122) hC ⟨by omega, by omega⟩ dX3_ofView_113 (by decide) (fun c_33 => ?_) (fun c_33 => ?_)
    · refine lv_aload_n hC.1 hC.2.1 dX3_ofView_122 rfl (lv_at hl 0 rfl) ?_
      refine x_callV hC hw (lv_size hl) (c_X1_book l G hvx_5) gX3_ofView_X1_book rfl dv_X1_book hvx_5.1 rfl rfl (Nat.le_of_ble_eq_true rfl) (by rw [hRf]; decide) (by rw [hRl]; decide) (by first | (rw [hRc]; decide) | omega) (by first | (rw [hRs]; decide) | omega) dX3_ofView_123 (fun r9 M_34 H locs hq hw => ?_)
      obtain ⟨rfl, hM9⟩ := hq
      rw [hM9] at hw
      show W p l e R s m args below meth c H locs _ _ _ (F0 m 126 ls [.ref (qb ux_4.b)])
      refine lv_aload_n hC.1 hC.2.1 dX3_ofView_126 rfl (lv_at hl 0 rfl) ?_
      refine x_callV hC hw (lv_size hl) (c_X1_start l G hkx_5 hvx_5 hBx_6 (show (O ux_4.b) < 3 by first | assumption | omega) hVx_6 (by first | assumption | omega) (by first | assumption | omega) (O := O) (V := V) (t9 := ux_4)) gX3_ofView_X1_start rfl dv_X1_start hvx_5.1 rfl rfl (Nat.le_of_ble_eq_true rfl) (by rw [hRf]; decide) (by rw [hRl]; decide) (by first | (rw [hRc]; decide) | omega) (by first | (rw [hRs]; decide) | omega) dX3_ofView_127 (fun r9 M_35 H locs hq hw => ?_)
      obtain ⟨z_36, rfl, hM9, hz_36a, hz_36b, hz_36p⟩ := hq
      rw [hM9] at hw
      show W p l e R s m args below meth c H locs _ _ _ (F0 m 130 ls [.int (iN (z_36)), .ref (qb ux_4.b)])
      refine x_callV hC hw (lv_size hl) (c_X0_keyAt l G hBx_6 (show (O ux_4.b) < 3 by first | assumption | omega) hVx_6 (by first | assumption | omega) (by first | assumption | omega) (p0 := z_36) (by omega)) gX3_ofView_X0_keyAt rfl dv_X0_keyAt hBx_6.1 rfl rfl (Nat.le_of_ble_eq_true rfl) (by rw [hRf]; decide) (by rw [hRl]; decide) (by first | (rw [hRc]; decide) | omega) (by first | (rw [hRs]; decide) | omega) dX3_ofView_130 (fun r9 M_37 H locs hq hw => ?_)
      obtain ⟨z_38, rfl, hM9, hz_38, hz_38b, hz_38k⟩ := hq
      rw [hM9] at hw
      show W p l e R s m args below meth c H locs _ _ _ (F0 m 133 ls [.int (iN (z_38))])
      exact vx_ret (x_iret hC hw dX3_ofView_133 (by first | decide | omega) (by first | decide | omega) ⟨z_38, rfl, ⟨by omega, by omega⟩, ⟨⟨(by first | omega | trivial), (by first | omega | trivial), (by first | omega | trivial)⟩, ⟨(by first | omega | trivial), (by first | omega | trivial)⟩⟩, (by have e5 : p1 = 6 := (by omega); rw [A_ofView, e5, show tvW (ST.W (O, V, Wv, abK T C K, kk, kv, rf)) p0.toNat = ux_4 from tvW_some hux_4, if_neg (by decide), if_neg (by decide), if_neg (by decide), if_neg (by decide), if_neg (by decide), if_neg (by decide), if_pos rfl]; first | done | exact vw_end (by omega) hkx_5 hVx_6 (by omega) hz_32m (Or.inr (Or.inl ⟨by omega, by omega, z_36, hz_36p, by omega, fun h9 => (hz_38k h9).1⟩))), (RG.of (N2 := N + 1) hR hcb (by omega) (by omega))⟩)
    · refine x_sipush hC dX3_ofView_116 (by decide +kernel) ?_
      refine lv_goto (tgt := 133) hC.1 hC.2.1 dX3_ofView_119 (by decide) ?_
      exact vx_ret (x_iret hC hw dX3_ofView_133 (by first | decide | omega) (by first | decide | omega) ⟨(-10000), rfl, ⟨by omega, by omega⟩, ⟨⟨(by first | omega | trivial), (by first | omega | trivial), (by first | omega | trivial)⟩, ⟨(by first | omega | trivial), (by first | omega | trivial)⟩⟩, (by have e5 : p1 = 6 := (by omega); rw [A_ofView, e5, show tvW (ST.W (O, V, Wv, abK T C K, kk, kv, rf)) p0.toNat = ux_4 from tvW_some hux_4, if_neg (by decide), if_neg (by decide), if_neg (by decide), if_neg (by decide), if_neg (by decide), if_neg (by decide), if_pos rfl]; first | done | exact vw_end (by omega) hkx_5 hVx_6 (by omega) hz_32m (Or.inl ⟨by omega, by omega⟩)), (RG.of (N2 := N + 1) hR hcb (by omega) (by omega))⟩)
  have hgec_30 : 7 ≤ p1 := by omega
  clear c_30
  by_cases c_39 : p1 = 7
  · refine x_tsw (off := 121) (tgt := 134) (k := 7) hC (by omega) dX3_ofView_13 (by decide) (by decide) rfl (by decide) ?_
    refine lv_aload_n hC.1 hC.2.1 dX3_ofView_134 rfl (lv_at hl 0 rfl) ?_
    refine x_callV hC hw (lv_size hl) (c_X1_size l G hkx_5 hvx_5 hBx_6 (show (O ux_4.b) < 3 by first | assumption | omega) hVx_6 (by first | assumption | omega) (by first | assumption | omega) (O := O) (V := V) (t9 := ux_4)) gX3_ofView_X1_size rfl dv_X1_size hvx_5.1 rfl rfl (Nat.le_of_ble_eq_true rfl) (by rw [hRf]; decide) (by rw [hRl]; decide) (by first | (rw [hRc]; decide) | omega) (by first | (rw [hRs]; decide) | omega) dX3_ofView_135 (fun r9 M_40 H locs hq hw => ?_)
    obtain ⟨z_41, rfl, hM9, hz_41, hz_41m⟩ := hq
    rw [hM9] at hw
    show W p l e R s m args below meth c H locs _ _ _ (F0 m 138 ls [.int (iN (z_41))])
    refine x_if_ne (tgt := 147) hC ⟨by omega, by omega⟩ dX3_ofView_138 (by decide) (fun c_42 => ?_) (fun c_42 => ?_)
    · refine lv_aload_n hC.1 hC.2.1 dX3_ofView_147 rfl (lv_at hl 0 rfl) ?_
      refine x_callV hC hw (lv_size hl) (c_X1_book l G hvx_5) gX3_ofView_X1_book rfl dv_X1_book hvx_5.1 rfl rfl (Nat.le_of_ble_eq_true rfl) (by rw [hRf]; decide) (by rw [hRl]; decide) (by first | (rw [hRc]; decide) | omega) (by first | (rw [hRs]; decide) | omega) dX3_ofView_148 (fun r9 M_43 H locs hq hw => ?_)
      obtain ⟨rfl, hM9⟩ := hq
      rw [hM9] at hw
      show W p l e R s m args below meth c H locs _ _ _ (F0 m 151 ls [.ref (qb ux_4.b)])
      refine lv_aload_n hC.1 hC.2.1 dX3_ofView_151 rfl (lv_at hl 0 rfl) ?_
      refine x_callV hC hw (lv_size hl) (c_X1_end l G hkx_5 hvx_5 hBx_6 (show (O ux_4.b) < 3 by first | assumption | omega) hVx_6 (by first | assumption | omega) (by first | assumption | omega) (O := O) (V := V) (t9 := ux_4)) gX3_ofView_X1_end rfl dv_X1_end hvx_5.1 rfl rfl (Nat.le_of_ble_eq_true rfl) (by rw [hRf]; decide) (by rw [hRl]; decide) (by first | (rw [hRc]; decide) | omega) (by first | (rw [hRs]; decide) | omega) dX3_ofView_152 (fun r9 M_44 H locs hq hw => ?_)
      obtain ⟨z_45, rfl, hM9, hz_45a, hz_45b, hz_45p⟩ := hq
      rw [hM9] at hw
      show W p l e R s m args below meth c H locs _ _ _ (F0 m 155 ls [.int (iN (z_45)), .ref (qb ux_4.b)])
      refine x_const hC dX3_ofView_155 ?_
      refine x_isub hC dX3_ofView_156 ?_
      refine x_callV hC hw (lv_size hl) (c_X0_keyAt l G hBx_6 (show (O ux_4.b) < 3 by first | assumption | omega) hVx_6 (by first | assumption | omega) (by first | assumption | omega) (p0 := (z_45 - 1)) (by omega)) gX3_ofView_X0_keyAt rfl dv_X0_keyAt hBx_6.1 rfl rfl (Nat.le_of_ble_eq_true rfl) (by rw [hRf]; decide) (by rw [hRl]; decide) (by first | (rw [hRc]; decide) | omega) (by first | (rw [hRs]; decide) | omega) dX3_ofView_157 (fun r9 M_46 H locs hq hw => ?_)
      obtain ⟨z_47, rfl, hM9, hz_47, hz_47b, hz_47k⟩ := hq
      rw [hM9] at hw
      show W p l e R s m args below meth c H locs _ _ _ (F0 m 160 ls [.int (iN (z_47))])
      exact vx_ret (x_iret hC hw dX3_ofView_160 (by first | decide | omega) (by first | decide | omega) ⟨z_47, rfl, ⟨by omega, by omega⟩, ⟨⟨(by first | omega | trivial), (by first | omega | trivial), (by first | omega | trivial)⟩, ⟨(by first | omega | trivial), (by first | omega | trivial)⟩⟩, (by have e5 : p1 = 7 := (by omega); rw [A_ofView, e5, show tvW (ST.W (O, V, Wv, abK T C K, kk, kv, rf)) p0.toNat = ux_4 from tvW_some hux_4, if_neg (by decide), if_neg (by decide), if_neg (by decide), if_neg (by decide), if_neg (by decide), if_neg (by decide), if_neg (by decide), if_pos rfl]; first | done | exact vw_end (by omega) hkx_5 hVx_6 (by omega) hz_41m (Or.inr (Or.inr ⟨by omega, by omega, z_45, hz_45p, by omega, fun h9 => (hz_47k h9).1⟩))), (RG.of (N2 := N + 1) hR hcb (by omega) (by omega))⟩)
    · refine x_sipush hC dX3_ofView_141 (by decide +kernel) ?_
      refine lv_goto (tgt := 160) hC.1 hC.2.1 dX3_ofView_144 (by decide) ?_
      exact vx_ret (x_iret hC hw dX3_ofView_160 (by first | decide | omega) (by first | decide | omega) ⟨(-10000), rfl, ⟨by omega, by omega⟩, ⟨⟨(by first | omega | trivial), (by first | omega | trivial), (by first | omega | trivial)⟩, ⟨(by first | omega | trivial), (by first | omega | trivial)⟩⟩, (by have e5 : p1 = 7 := (by omega); rw [A_ofView, e5, show tvW (ST.W (O, V, Wv, abK T C K, kk, kv, rf)) p0.toNat = ux_4 from tvW_some hux_4, if_neg (by decide), if_neg (by decide), if_neg (by decide), if_neg (by decide), if_neg (by decide), if_neg (by decide), if_neg (by decide), if_pos rfl]; first | done | exact vw_end (by omega) hkx_5 hVx_6 (by omega) hz_41m (Or.inl ⟨by omega, by omega⟩)), (RG.of (N2 := N + 1) hR hcb (by omega) (by omega))⟩)
  have hgec_39 : 8 ≤ p1 := by omega
  clear c_39
  refine x_tswd (tgt := 161) hC ⟨by omega, by omega⟩ dX3_ofView_13 (by omega) (by decide) ?_
  refine lv_aload_n hC.1 hC.2.1 dX3_ofView_161 rfl (lv_at hl 0 rfl) ?_
  refine x_callV hC hw (lv_size hl) (c_X1_book l G hvx_5) gX3_ofView_X1_book rfl dv_X1_book hvx_5.1 rfl rfl (Nat.le_of_ble_eq_true rfl) (by rw [hRf]; decide) (by rw [hRl]; decide) (by first | (rw [hRc]; decide) | omega) (by first | (rw [hRs]; decide) | omega) dX3_ofView_162 (fun r9 M_48 H locs hq hw => ?_)
  obtain ⟨rfl, hM9⟩ := hq
  rw [hM9] at hw
  show W p l e R s m args below meth c H locs _ _ _ (F0 m 165 ls [.ref (qb ux_4.b)])
  refine lv_aload_n hC.1 hC.2.1 dX3_ofView_165 rfl (lv_at hl 0 rfl) ?_
  refine x_callV hC hw (lv_size hl) (c_X1_start l G hkx_5 hvx_5 hBx_6 (show (O ux_4.b) < 3 by first | assumption | omega) hVx_6 (by first | assumption | omega) (by first | assumption | omega) (O := O) (V := V) (t9 := ux_4)) gX3_ofView_X1_start rfl dv_X1_start hvx_5.1 rfl rfl (Nat.le_of_ble_eq_true rfl) (by rw [hRf]; decide) (by rw [hRl]; decide) (by first | (rw [hRc]; decide) | omega) (by first | (rw [hRs]; decide) | omega) dX3_ofView_166 (fun r9 M_49 H locs hq hw => ?_)
  obtain ⟨z_50, rfl, hM9, hz_50a, hz_50b, hz_50p⟩ := hq
  rw [hM9] at hw
  show W p l e R s m args below meth c H locs _ _ _ (F0 m 169 ls [.int (iN (z_50)), .ref (qb ux_4.b)])
  refine lv_aload_n hC.1 hC.2.1 dX3_ofView_169 rfl (lv_at hl 0 rfl) ?_
  refine x_callV hC hw (lv_size hl) (c_X1_end l G hkx_5 hvx_5 hBx_6 (show (O ux_4.b) < 3 by first | assumption | omega) hVx_6 (by first | assumption | omega) (by first | assumption | omega) (O := O) (V := V) (t9 := ux_4)) gX3_ofView_X1_end rfl dv_X1_end hvx_5.1 rfl rfl (Nat.le_of_ble_eq_true rfl) (by rw [hRf]; decide) (by rw [hRl]; decide) (by first | (rw [hRc]; decide) | omega) (by first | (rw [hRs]; decide) | omega) dX3_ofView_170 (fun r9 M_51 H locs hq hw => ?_)
  obtain ⟨z_52, rfl, hM9, hz_52a, hz_52b, hz_52p⟩ := hq
  rw [hM9] at hw
  show W p l e R s m args below meth c H locs _ _ _ (F0 m 173 ls [.int (iN (z_52)), .int (iN (z_50)), .ref (qb ux_4.b)])
  refine x_callV hC hw (lv_size hl) (c_X0_sum l G hBx_6 (show (O ux_4.b) < 3 by first | assumption | omega) hVx_6 (by first | assumption | omega) (by first | assumption | omega) (p0 := z_50) (by omega) (p1 := z_52) (by omega) (by omega) (by omega)) gX3_ofView_X0_sum rfl dv_X0_sum hBx_6.1 rfl rfl (Nat.le_of_ble_eq_true rfl) (by rw [hRf]; decide) (by rw [hRl]; decide) (by first | (rw [hRc]; decide) | omega) (by first | (rw [hRs]; decide) | omega) dX3_ofView_173 (fun r9 M_53 H locs hq hw => ?_)
  obtain ⟨z_54, rfl, hM9, hz_54, hz_54s, hz_54z⟩ := hq
  rw [hM9] at hw
  show W p l e R s m args below meth c H locs _ _ _ (F0 m 176 ls [.int (iN (z_54))])
  exact vx_ret (x_iret hC hw dX3_ofView_176 (by first | decide | omega) (by first | decide | omega) ⟨z_54, rfl, ⟨by omega, by omega⟩, ⟨⟨(by first | omega | trivial), (by first | omega | trivial), (by first | omega | trivial)⟩, ⟨(by first | omega | trivial), (by first | omega | trivial)⟩⟩, (by have e5 : p1 = 8 := (by omega); rw [A_ofView, e5, show tvW (ST.W (O, V, Wv, abK T C K, kk, kv, rf)) p0.toNat = ux_4 from tvW_some hux_4, if_neg (by decide), if_neg (by decide), if_neg (by decide), if_neg (by decide), if_neg (by decide), if_neg (by decide), if_neg (by decide), if_neg (by decide)]; first | done | exact (hz_54s (by have e9 := pl_mono hz_50p hz_52p (sw_le_ew (O ux_4.b) ux_4); omega)).trans (smPF (by omega) hkx_5 hVx_6 hz_50p hz_52p (by omega) (by have e9 := pl_mono hz_50p hz_52p (sw_le_ew (O ux_4.b) ux_4); omega))), (RG.of (N2 := N + 1) hR hcb (by omega) (by omega))⟩)
set_option maxHeartbeats 4000000 in
set_option maxRecDepth 100000 in
theorem c_X3_ledger (l : Launch) (G : xG) {M : HM} (hst : l.stackTraces = false) {h0 bs vs : Nat} {og : Option Nat} {kk kv rf : Int32} {qb qk qv : Nat → Nat} {fb fv : Nat → Option Nat} {O : OW} {Wv : VW} {V : BW} {T C : Nat → Int} {K : WA} {N : Int} (hR : RGx G M h0 bs vs og kk kv rf qb qk qv fb fv O O Wv V T C K) (hcb : cbN N T C) (hN : N ≤ 590) {p0 : Int} (hp0 : -2147483648 ≤ p0 ∧ p0 ≤ 2147483647) : xMetX l G yX3_ledger wsX3_ledger 7 111 1 6 [.ref h0, .int (iN (p0))] M (fun r M1 => ∃ z : Int, r = some (.int (iN z)) ∧ (-2147483648 ≤ z ∧ z ≤ 2147483647) ∧ ((0 ≤ p0 ∧ p0 ≤ 6)) ∧ z = A_ledger (O, V, Wv, abK T C K, kk, kv, rf) p0 ∧ RG G M1 h0 (N + 1) (O, V, Wv, abK T C K, kk, kv, rf)) (fun E M1 => ((E = xIA ∧ ¬ (0 ≤ p0 ∧ p0 ≤ 6))) ∧ RG G M1 h0 (N + 1) (O, V, Wv, abK T C K, kk, kv, rf)) := by
  refine x_introX (cc := cX3_ledger) (maxL := 2) (ret := (some .int)) (by exact pln_RX3) rfl (Nat.le_of_ble_eq_true rfl) ?_
  intro p e R s m args below meth c ls hRf hRc hRs hRl htab hC hw hl
  have hinX3 : ∀ w ∈ wsX30, w ∈ wsX3_ledger := fun w h => (List.mem_cons_of_mem _ (List.mem_append_left _ (List.mem_append_left _ (List.mem_append_left _ (List.mem_append_left _ (List.mem_append_right _ h))))))
  have hl : lv_has ls 2 [(0, .ref h0), (1, .int (iN (p0)))] := hl
  refine lv_iload_n hC.1 hC.2.1 dX3_ledger_0 rfl (lv_at hl 1 rfl) ?_
  refine x_bipush hC dX3_ledger_1 (by decide +kernel) ?_
  refine x_callSX hC hw (lv_size hl) (c_X3_checkWhat l G (M := M) hst (p0 := p0) (by first | assumption | omega) (p1 := 6) (by omega)) gX3_ledger_X3_checkWhat rfl dv_X3_checkWhat_s rfl (Nat.le_of_ble_eq_true rfl) (by rw [hRf]; decide) (by rw [hRl]; decide) (by first | (rw [hRc]; decide) | omega) (by first | (rw [hRs]; decide) | omega) dX3_ledger_3 (fun E ce q9 M_1 H locs hqx hw hcell hcv hcls => ?_) (fun r9 M_1 H locs hq hw => ?_)
  · rw [hqx.2] at hw
    obtain ⟨hE, hc9⟩ := hqx.1
    replace hqx := hqx.2
    subst hE
    exact x_outX hC hw htab hcell hcv hcls (by first | decide | omega) (by first | decide | omega) ⟨⟨rfl, (by first | exact hc9 | omega | trivial)⟩, (RG.of (N2 := N + 1) hR hcb (by omega) (by omega))⟩
  obtain ⟨rfl, hM9, hk_2⟩ := hq
  rw [hM9] at hw
  show W p l e R s m args below meth c H locs _ _ _ (F0 m 6 ls [])
  refine lv_iload_n hC.1 hC.2.1 dX3_ledger_6 rfl (lv_at hl 1 rfl) ?_
  by_cases c_3 : p0 = 0
  · refine x_tsw (off := 37) (tgt := 44) (k := 0) hC (by omega) dX3_ledger_7 (by decide) (by decide) rfl (by decide) ?_
    refine lv_aload_n hC.1 hC.2.1 dX3_ledger_44 rfl (lv_at hl 0 rfl) ?_
    refine x_callV hC hw (lv_size hl) (c_X3_openViews l G hR hcb hN) gX3_ledger_X3_openViews rfl dv_X3_openViews hR.1 rfl rfl (Nat.le_of_ble_eq_true rfl) (by rw [hRf]; decide) (by rw [hRl]; decide) (by first | (rw [hRc]; decide) | omega) (by first | (rw [hRs]; decide) | omega) dX3_ledger_45 (fun r9 M_4 H locs hq hw => ?_)
    obtain ⟨z_5, rfl, hM9, hz_5, hz_5f, hz_5o⟩ := hq
    rw [hM9] at hw
    show W p l e R s m args below meth c H locs _ _ _ (F0 m 48 ls [.int (iN (z_5))])
    exact vx_ret (x_iret hC hw dX3_ledger_48 (by first | decide | omega) (by first | decide | omega) ⟨z_5, rfl, ⟨by omega, by omega⟩, ⟨(by first | omega | trivial), (by first | omega | trivial)⟩, (by have e5 : p0 = 0 := (by omega); rw [A_ledger, e5, if_pos rfl]; first | done | exact hz_5o), (RG.of (N2 := N + 1) hR hcb (by omega) (by omega))⟩)
  have hgec_3 : 1 ≤ p0 := by omega
  clear c_3
  by_cases c_6 : p0 = 1
  · refine x_tsw (off := 42) (tgt := 49) (k := 1) hC (by omega) dX3_ledger_7 (by decide) (by decide) rfl (by decide) ?_
    refine lv_aload_n hC.1 hC.2.1 dX3_ledger_49 rfl (lv_at hl 0 rfl) ?_
    refine x_get hC hw hR.1 rfl hinX3 2 (by decide) (List.mem_cons_of_mem _ (List.mem_append_left _ (List.mem_append_left _ (List.mem_append_left _ (List.mem_append_left _ (List.mem_append_left _ (List.mem_append_left _ (List.mem_of_getElem? (i := 0) rfl)))))))) rfl dX3_ledger_50 ?_
    rcases og with _ | w_7
    · have hK_8 := WkO.nil hR.wk
      subst hK_8
      have hks0 := kS_none (T := T) (C := C)
      show W p l e R s m args below meth c _ _ _ _ _ (F0 m 53 ls [.null])
      refine lv_ifnonnullN hC.1 hC.2.1 dX3_ledger_53 ?_
      refine x_sipush hC dX3_ledger_56 (by decide +kernel) ?_
      refine lv_goto (tgt := 72) hC.1 hC.2.1 dX3_ledger_59 (by decide) ?_
      exact vx_ret (x_iret hC hw dX3_ledger_72 (by first | decide | omega) (by first | decide | omega) ⟨(-10000), rfl, ⟨by omega, by omega⟩, ⟨(by first | omega | trivial), (by first | omega | trivial)⟩, (by have e5 : p0 = 1 := (by omega); rw [A_ledger, e5, if_neg (by decide), if_pos rfl]; first | done | exact rfl), (RG.of (N2 := N + 1) hR hcb (by omega) (by omega))⟩)
    · obtain ⟨tx_9, psx_9, cdx_9, twx_9, kwx_9, yx_9, hKx_9, hWx_9, hTx_9⟩ := WkO.yes hR.wk
      subst hKx_9
      obtain ⟨hwax_9, hwbx_9, hwcx_9, hwdx_9, hwex_9⟩ := hR.wg
      have hwfx_9 := hwcx_9.imp id And.left
      have hkx_10 := hTx_9.1
      have hvx_10 := hTx_9.2
      have hlix_10 := hvx_10.2.1
      have huix_10 := hvx_10.2.2
      obtain ⟨htax_10, htbx_10, htcx_10, htdx_10, htex_10⟩ := id hkx_10
      obtain ⟨szx_11, fkx_11, fwx_11, hBx_11, hVx_11⟩ := hR.bk htax_10
      obtain ⟨-, -, -, -, hsax_11, hsbx_11⟩ := id hBx_11
      have holx_11 := hR.ol htax_10
      have hctx_11 := hcb.2 _ htax_10
      have hksx_9 := kS_ab (T := T) (C := C) (t := tx_9) (ps := psx_9) (cd := cdx_9) (tw := twx_9) (kw := kwx_9)
      have hkhx_9 := kH_ab (T := T) (C := C) (t := tx_9) (ps := psx_9) (cd := cdx_9) (tw := twx_9) (kw := kwx_9)
      have hkcx_9 := kC_ab (T := T) (C := C) (t := tx_9) (ps := psx_9) (cd := cdx_9) (tw := twx_9) (kw := kwx_9)
      have hkbx_9 := kB_ab (T := T) (C := C) (t := tx_9) (ps := psx_9) (cd := cdx_9) (tw := twx_9) (kw := kwx_9)
      have hkpx_9 := kP_ab (T := T) (C := C) (t := tx_9) (ps := psx_9) (cd := cdx_9) (tw := twx_9) (kw := kwx_9)
      show W p l e R s m args below meth c _ _ _ _ _ (F0 m 53 ls [.ref w_7])
      refine lv_ifnonnull (tgt := 62) hC.1 hC.2.1 dX3_ledger_53 (by decide) ?_
      refine lv_aload_n hC.1 hC.2.1 dX3_ledger_62 rfl (lv_at hl 0 rfl) ?_
      refine x_get hC hw hR.1 rfl hinX3 2 (by decide) (List.mem_cons_of_mem _ (List.mem_append_left _ (List.mem_append_left _ (List.mem_append_left _ (List.mem_append_left _ (List.mem_append_left _ (List.mem_append_left _ (List.mem_of_getElem? (i := 0) rfl)))))))) rfl dX3_ledger_63 ?_
      show W p l e R s m args below meth c _ _ _ _ _ (F0 m 66 ls [.ref w_7])
      refine x_callV hC hw (lv_size hl) (c_X2_book l G hWx_9 hvx_10) gX3_ledger_X2_book rfl dv_X2_book hWx_9.1 rfl rfl (Nat.le_of_ble_eq_true rfl) (by rw [hRf]; decide) (by rw [hRl]; decide) (by first | (rw [hRc]; decide) | omega) (by first | (rw [hRs]; decide) | omega) dX3_ledger_66 (fun r9 M_12 H locs hq hw => ?_)
      obtain ⟨rfl, hM9⟩ := hq
      rw [hM9] at hw
      show W p l e R s m args below meth c H locs _ _ _ (F0 m 69 ls [.ref (qb tx_9.b)])
      refine x_callV hC hw (lv_size hl) (c_X0_number l G hBx_11 (show (O tx_9.b) < 3 by first | assumption | omega) hVx_11 (by first | assumption | omega) (by first | assumption | omega)) gX3_ledger_X0_number rfl dv_X0_number hBx_11.1 rfl rfl (Nat.le_of_ble_eq_true rfl) (by rw [hRf]; decide) (by rw [hRl]; decide) (by first | (rw [hRc]; decide) | omega) (by first | (rw [hRs]; decide) | omega) dX3_ledger_69 (fun r9 M_13 H locs hq hw => ?_)
      obtain ⟨rfl, hM9⟩ := hq
      rw [hM9] at hw
      have hrr_14 := iN_rng (iN ((tx_9.b : Nat) : Int))
      show W p l e R s m args below meth c H locs _ _ _ (F0 m 72 ls [.int (iN ((iN ((tx_9.b : Nat) : Int)).toInt))])
      exact vx_ret (x_iret hC hw dX3_ledger_72 (by first | decide | omega) (by first | decide | omega) ⟨(iN ((tx_9.b : Nat) : Int)).toInt, rfl, ⟨by omega, by omega⟩, ⟨(by first | omega | trivial), (by first | omega | trivial)⟩, (by have e5 : p0 = 1 := (by omega); rw [A_ledger, e5, if_neg (by decide), if_pos rfl]; first | done | exact iN_toInt ⟨by omega, by omega⟩), (RG.of (N2 := N + 1) hR hcb (by omega) (by omega))⟩)
  have hgec_6 : 2 ≤ p0 := by omega
  clear c_6
  by_cases c_15 : p0 = 2
  · refine x_tsw (off := 66) (tgt := 73) (k := 2) hC (by omega) dX3_ledger_7 (by decide) (by decide) rfl (by decide) ?_
    refine lv_aload_n hC.1 hC.2.1 dX3_ledger_73 rfl (lv_at hl 0 rfl) ?_
    refine x_get hC hw hR.1 rfl hinX3 2 (by decide) (List.mem_cons_of_mem _ (List.mem_append_left _ (List.mem_append_left _ (List.mem_append_left _ (List.mem_append_left _ (List.mem_append_left _ (List.mem_append_left _ (List.mem_of_getElem? (i := 0) rfl)))))))) rfl dX3_ledger_74 ?_
    rcases og with _ | w_16
    · have hK_17 := WkO.nil hR.wk
      subst hK_17
      have hks0 := kS_none (T := T) (C := C)
      show W p l e R s m args below meth c _ _ _ _ _ (F0 m 77 ls [.null])
      refine lv_ifnullN (tgt := 94) hC.1 hC.2.1 dX3_ledger_77 (by decide) ?_
      refine x_const hC dX3_ledger_94 ?_
      exact vx_ret (x_iret hC hw dX3_ledger_95 (by first | decide | omega) (by first | decide | omega) ⟨0, rfl, ⟨by omega, by omega⟩, ⟨(by first | omega | trivial), (by first | omega | trivial)⟩, (by have e5 : p0 = 2 := (by omega); rw [A_ledger, e5, if_neg (by decide), if_neg (by decide), if_pos rfl]; first | done | exact (by first | rfl | omega)), (RG.of (N2 := N + 1) hR hcb (by omega) (by omega))⟩)
    · obtain ⟨tx_18, psx_18, cdx_18, twx_18, kwx_18, yx_18, hKx_18, hWx_18, hTx_18⟩ := WkO.yes hR.wk
      subst hKx_18
      obtain ⟨hwax_18, hwbx_18, hwcx_18, hwdx_18, hwex_18⟩ := hR.wg
      have hwfx_18 := hwcx_18.imp id And.left
      have hkx_19 := hTx_18.1
      have hvx_19 := hTx_18.2
      have hlix_19 := hvx_19.2.1
      have huix_19 := hvx_19.2.2
      obtain ⟨htax_19, htbx_19, htcx_19, htdx_19, htex_19⟩ := id hkx_19
      obtain ⟨szx_20, fkx_20, fwx_20, hBx_20, hVx_20⟩ := hR.bk htax_19
      obtain ⟨-, -, -, -, hsax_20, hsbx_20⟩ := id hBx_20
      have holx_20 := hR.ol htax_19
      have hctx_20 := hcb.2 _ htax_19
      have hksx_18 := kS_ab (T := T) (C := C) (t := tx_18) (ps := psx_18) (cd := cdx_18) (tw := twx_18) (kw := kwx_18)
      have hkhx_18 := kH_ab (T := T) (C := C) (t := tx_18) (ps := psx_18) (cd := cdx_18) (tw := twx_18) (kw := kwx_18)
      have hkcx_18 := kC_ab (T := T) (C := C) (t := tx_18) (ps := psx_18) (cd := cdx_18) (tw := twx_18) (kw := kwx_18)
      have hkbx_18 := kB_ab (T := T) (C := C) (t := tx_18) (ps := psx_18) (cd := cdx_18) (tw := twx_18) (kw := kwx_18)
      have hkpx_18 := kP_ab (T := T) (C := C) (t := tx_18) (ps := psx_18) (cd := cdx_18) (tw := twx_18) (kw := kwx_18)
      show W p l e R s m args below meth c _ _ _ _ _ (F0 m 77 ls [.ref w_16])
      refine lv_ifnull hC.1 hC.2.1 dX3_ledger_77 ?_
      refine lv_aload_n hC.1 hC.2.1 dX3_ledger_80 rfl (lv_at hl 0 rfl) ?_
      refine x_get hC hw hR.1 rfl hinX3 2 (by decide) (List.mem_cons_of_mem _ (List.mem_append_left _ (List.mem_append_left _ (List.mem_append_left _ (List.mem_append_left _ (List.mem_append_left _ (List.mem_append_left _ (List.mem_of_getElem? (i := 0) rfl)))))))) rfl dX3_ledger_81 ?_
      show W p l e R s m args below meth c _ _ _ _ _ (F0 m 84 ls [.ref w_16])
      refine x_callV hC hw (lv_size hl) (c_X2_isBroken l G hWx_18 ⟨by omega, by omega, by omega⟩ hkx_19 hvx_19 hBx_20 (show (O tx_18.b) < 3 by first | assumption | omega) hVx_20 (by first | assumption | omega) (by first | assumption | omega) (O := O) (V := V) (t9 := tx_18)) gX3_ledger_X2_isBroken rfl dv_X2_isBroken hWx_18.1 rfl rfl (Nat.le_of_ble_eq_true rfl) (by rw [hRf]; decide) (by rw [hRl]; decide) (by first | (rw [hRc]; decide) | omega) (by first | (rw [hRs]; decide) | omega) dX3_ledger_84 (fun r9 M_21 H locs hq hw => ?_)
      obtain ⟨z_22, rfl, hM9, hz_22, hz_22b⟩ := hq
      rw [hM9] at hw
      show W p l e R s m args below meth c H locs _ _ _ (F0 m 87 ls [.int (iN (z_22))])
      refine x_if_eq (tgt := 94) hC ⟨by omega, by omega⟩ dX3_ledger_87 (by decide) (fun c_23 => ?_) (fun c_23 => ?_)
      · refine x_const hC dX3_ledger_94 ?_
        exact vx_ret (x_iret hC hw dX3_ledger_95 (by first | decide | omega) (by first | decide | omega) ⟨0, rfl, ⟨by omega, by omega⟩, ⟨(by first | omega | trivial), (by first | omega | trivial)⟩, (by have e5 : p0 = 2 := (by omega); rw [A_ledger, e5, if_neg (by decide), if_neg (by decide), if_pos rfl]; first | done | exact (hkbx_18.trans (by omega)).symm), (RG.of (N2 := N + 1) hR hcb (by omega) (by omega))⟩)
      · refine x_const hC dX3_ledger_90 ?_
        refine lv_goto (tgt := 95) hC.1 hC.2.1 dX3_ledger_91 (by decide) ?_
        exact vx_ret (x_iret hC hw dX3_ledger_95 (by first | decide | omega) (by first | decide | omega) ⟨1, rfl, ⟨by omega, by omega⟩, ⟨(by first | omega | trivial), (by first | omega | trivial)⟩, (by have e5 : p0 = 2 := (by omega); rw [A_ledger, e5, if_neg (by decide), if_neg (by decide), if_pos rfl]; first | done | exact (hkbx_18.trans (by omega)).symm), (RG.of (N2 := N + 1) hR hcb (by omega) (by omega))⟩)
  have hgec_15 : 3 ≤ p0 := by omega
  clear c_15
  by_cases c_24 : p0 = 3
  · refine x_tsw (off := 89) (tgt := 96) (k := 3) hC (by omega) dX3_ledger_7 (by decide) (by decide) rfl (by decide) ?_
    refine lv_aload_n hC.1 hC.2.1 dX3_ledger_96 rfl (lv_at hl 0 rfl) ?_
    refine x_get hC hw hR.1 rfl hinX3 2 (by decide) (List.mem_cons_of_mem _ (List.mem_append_left _ (List.mem_append_left _ (List.mem_append_left _ (List.mem_append_left _ (List.mem_append_left _ (List.mem_append_left _ (List.mem_of_getElem? (i := 0) rfl)))))))) rfl dX3_ledger_97 ?_
    rcases og with _ | w_25
    · have hK_26 := WkO.nil hR.wk
      subst hK_26
      have hks0 := kS_none (T := T) (C := C)
      show W p l e R s m args below meth c _ _ _ _ _ (F0 m 100 ls [.null])
      refine lv_ifnonnullN hC.1 hC.2.1 dX3_ledger_100 ?_
      refine x_sipush hC dX3_ledger_103 (by decide +kernel) ?_
      refine lv_goto (tgt := 116) hC.1 hC.2.1 dX3_ledger_106 (by decide) ?_
      exact vx_ret (x_iret hC hw dX3_ledger_116 (by first | decide | omega) (by first | decide | omega) ⟨(-10000), rfl, ⟨by omega, by omega⟩, ⟨(by first | omega | trivial), (by first | omega | trivial)⟩, (by have e5 : p0 = 3 := (by omega); rw [A_ledger, e5, if_neg (by decide), if_neg (by decide), if_neg (by decide), if_pos rfl]; first | done | exact rfl), (RG.of (N2 := N + 1) hR hcb (by omega) (by omega))⟩)
    · obtain ⟨tx_27, psx_27, cdx_27, twx_27, kwx_27, yx_27, hKx_27, hWx_27, hTx_27⟩ := WkO.yes hR.wk
      subst hKx_27
      obtain ⟨hwax_27, hwbx_27, hwcx_27, hwdx_27, hwex_27⟩ := hR.wg
      have hwfx_27 := hwcx_27.imp id And.left
      have hkx_28 := hTx_27.1
      have hvx_28 := hTx_27.2
      have hlix_28 := hvx_28.2.1
      have huix_28 := hvx_28.2.2
      obtain ⟨htax_28, htbx_28, htcx_28, htdx_28, htex_28⟩ := id hkx_28
      obtain ⟨szx_29, fkx_29, fwx_29, hBx_29, hVx_29⟩ := hR.bk htax_28
      obtain ⟨-, -, -, -, hsax_29, hsbx_29⟩ := id hBx_29
      have holx_29 := hR.ol htax_28
      have hctx_29 := hcb.2 _ htax_28
      have hksx_27 := kS_ab (T := T) (C := C) (t := tx_27) (ps := psx_27) (cd := cdx_27) (tw := twx_27) (kw := kwx_27)
      have hkhx_27 := kH_ab (T := T) (C := C) (t := tx_27) (ps := psx_27) (cd := cdx_27) (tw := twx_27) (kw := kwx_27)
      have hkcx_27 := kC_ab (T := T) (C := C) (t := tx_27) (ps := psx_27) (cd := cdx_27) (tw := twx_27) (kw := kwx_27)
      have hkbx_27 := kB_ab (T := T) (C := C) (t := tx_27) (ps := psx_27) (cd := cdx_27) (tw := twx_27) (kw := kwx_27)
      have hkpx_27 := kP_ab (T := T) (C := C) (t := tx_27) (ps := psx_27) (cd := cdx_27) (tw := twx_27) (kw := kwx_27)
      show W p l e R s m args below meth c _ _ _ _ _ (F0 m 100 ls [.ref w_25])
      refine lv_ifnonnull (tgt := 109) hC.1 hC.2.1 dX3_ledger_100 (by decide) ?_
      refine lv_aload_n hC.1 hC.2.1 dX3_ledger_109 rfl (lv_at hl 0 rfl) ?_
      refine x_get hC hw hR.1 rfl hinX3 2 (by decide) (List.mem_cons_of_mem _ (List.mem_append_left _ (List.mem_append_left _ (List.mem_append_left _ (List.mem_append_left _ (List.mem_append_left _ (List.mem_append_left _ (List.mem_of_getElem? (i := 0) rfl)))))))) rfl dX3_ledger_110 ?_
      show W p l e R s m args below meth c _ _ _ _ _ (F0 m 113 ls [.ref w_25])
      refine x_callV hC hw (lv_size hl) (c_X2_keyAtHand l G hWx_27 ⟨by omega, by omega, by omega⟩ hkx_28 hvx_28 hBx_29 (show (O tx_27.b) < 3 by first | assumption | omega) hVx_29 (by first | assumption | omega) (by first | assumption | omega) (O := O) (V := V) (t9 := tx_27)) gX3_ledger_X2_keyAtHand rfl dv_X2_keyAtHand hWx_27.1 rfl rfl (Nat.le_of_ble_eq_true rfl) (by rw [hRf]; decide) (by rw [hRl]; decide) (by first | (rw [hRc]; decide) | omega) (by first | (rw [hRs]; decide) | omega) dX3_ledger_113 (fun r9 M_30 H locs hq hw => ?_)
      obtain ⟨z_31, rfl, hM9, hz_31, hz_31h⟩ := hq
      rw [hM9] at hw
      show W p l e R s m args below meth c H locs _ _ _ (F0 m 116 ls [.int (iN (z_31))])
      exact vx_ret (x_iret hC hw dX3_ledger_116 (by first | decide | omega) (by first | decide | omega) ⟨z_31, rfl, ⟨by omega, by omega⟩, ⟨(by first | omega | trivial), (by first | omega | trivial)⟩, (by have e5 : p0 = 3 := (by omega); rw [A_ledger, e5, if_neg (by decide), if_neg (by decide), if_neg (by decide), if_pos rfl]; first | done | exact (by have e9 := hkpx_27; show _ = (if kH (abK T C (some (tx_27, psx_27, cdx_27, twx_27, kwx_27))) = 1 then kP (abK T C (some (tx_27, psx_27, cdx_27, twx_27, kwx_27))) else -10000); omega)), (RG.of (N2 := N + 1) hR hcb (by omega) (by omega))⟩)
  have hgec_24 : 4 ≤ p0 := by omega
  clear c_24
  by_cases c_32 : p0 = 4
  · refine x_tsw (off := 110) (tgt := 117) (k := 4) hC (by omega) dX3_ledger_7 (by decide) (by decide) rfl (by decide) ?_
    refine lv_aload_n hC.1 hC.2.1 dX3_ledger_117 rfl (lv_at hl 0 rfl) ?_
    refine x_getR hC hw hR.1 rfl hinX3 3 (by decide) (List.mem_cons_of_mem _ (List.mem_append_left _ (List.mem_append_left _ (List.mem_append_left _ (List.mem_append_left _ (List.mem_append_left _ (List.mem_append_left _ (List.mem_of_getElem? (i := 1) rfl)))))))) rfl dX3_ledger_118 ?_
    have hrr_33 := iN_rng kk
    exact vx_ret (x_iret hC hw dX3_ledger_121 (by first | decide | omega) (by first | decide | omega) ⟨kk.toInt, rfl, ⟨by omega, by omega⟩, ⟨(by first | omega | trivial), (by first | omega | trivial)⟩, (by have e5 : p0 = 4 := (by omega); rw [A_ledger, e5, if_neg (by decide), if_neg (by decide), if_neg (by decide), if_neg (by decide), if_pos rfl]; first | done | exact rfl), (RG.of (N2 := N + 1) hR hcb (by omega) (by omega))⟩)
  have hgec_32 : 5 ≤ p0 := by omega
  clear c_32
  by_cases c_34 : p0 = 5
  · refine x_tsw (off := 115) (tgt := 122) (k := 5) hC (by omega) dX3_ledger_7 (by decide) (by decide) rfl (by decide) ?_
    refine lv_aload_n hC.1 hC.2.1 dX3_ledger_122 rfl (lv_at hl 0 rfl) ?_
    refine x_getR hC hw hR.1 rfl hinX3 4 (by decide) (List.mem_cons_of_mem _ (List.mem_append_left _ (List.mem_append_left _ (List.mem_append_left _ (List.mem_append_left _ (List.mem_append_left _ (List.mem_append_left _ (List.mem_of_getElem? (i := 2) rfl)))))))) rfl dX3_ledger_123 ?_
    have hrr_35 := iN_rng kv
    exact vx_ret (x_iret hC hw dX3_ledger_126 (by first | decide | omega) (by first | decide | omega) ⟨kv.toInt, rfl, ⟨by omega, by omega⟩, ⟨(by first | omega | trivial), (by first | omega | trivial)⟩, (by have e5 : p0 = 5 := (by omega); rw [A_ledger, e5, if_neg (by decide), if_neg (by decide), if_neg (by decide), if_neg (by decide), if_neg (by decide), if_pos rfl]; first | done | exact rfl), (RG.of (N2 := N + 1) hR hcb (by omega) (by omega))⟩)
  have hgec_34 : 6 ≤ p0 := by omega
  clear c_34
  refine x_tswd (tgt := 127) hC ⟨by omega, by omega⟩ dX3_ledger_7 (by omega) (by decide) ?_
  refine lv_aload_n hC.1 hC.2.1 dX3_ledger_127 rfl (lv_at hl 0 rfl) ?_
  refine x_getR hC hw hR.1 rfl hinX3 5 (by decide) (List.mem_cons_of_mem _ (List.mem_append_left _ (List.mem_append_left _ (List.mem_append_left _ (List.mem_append_left _ (List.mem_append_left _ (List.mem_append_left _ (List.mem_of_getElem? (i := 3) rfl)))))))) rfl dX3_ledger_128 ?_
  have hrr_36 := iN_rng rf
  exact vx_ret (x_iret hC hw dX3_ledger_131 (by first | decide | omega) (by first | decide | omega) ⟨rf.toInt, rfl, ⟨by omega, by omega⟩, ⟨(by first | omega | trivial), (by first | omega | trivial)⟩, (by have e5 : p0 = 6 := (by omega); rw [A_ledger, e5, if_neg (by decide), if_neg (by decide), if_neg (by decide), if_neg (by decide), if_neg (by decide), if_neg (by decide)]; first | done | exact rfl), (RG.of (N2 := N + 1) hR hcb (by omega) (by omega))⟩)
