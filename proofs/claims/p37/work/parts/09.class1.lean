/-! the methods of the class, by program -/
theorem dv_X3_bookAt : yX3_bookAt.cls = RX3 ∧ yX3_bookAt.cls ≠ "java/lang/invoke/MethodHandle" ∧ yX3_bookAt.cls ≠ "java/lang/invoke/VarHandle" ∧ (parseMethodDescriptor yX3_bookAt.desc).map (fun d => d.parameters.length) = some 1 := by decide +kernel
theorem dv_X3_checkKey_s : yX3_checkKey.cls ≠ "java/lang/invoke/MethodHandle" ∧ yX3_checkKey.cls ≠ "java/lang/invoke/VarHandle" ∧ (parseMethodDescriptor yX3_checkKey.desc).map (fun d => d.parameters.length) = some 1 := by decide +kernel
theorem dv_X0_touch : yX0_touch.cls = RX0 ∧ yX0_touch.cls ≠ "java/lang/invoke/MethodHandle" ∧ yX0_touch.cls ≠ "java/lang/invoke/VarHandle" ∧ (parseMethodDescriptor yX0_touch.desc).map (fun d => d.parameters.length) = some 0 := by decide +kernel
theorem dv_X3_checkValue_s : yX3_checkValue.cls ≠ "java/lang/invoke/MethodHandle" ∧ yX3_checkValue.cls ≠ "java/lang/invoke/VarHandle" ∧ (parseMethodDescriptor yX3_checkValue.desc).map (fun d => d.parameters.length) = some 1 := by decide +kernel
theorem dv_X3_bookToWritePair : yX3_bookToWritePair.cls = RX3 ∧ yX3_bookToWritePair.cls ≠ "java/lang/invoke/MethodHandle" ∧ yX3_bookToWritePair.cls ≠ "java/lang/invoke/VarHandle" ∧ (parseMethodDescriptor yX3_bookToWritePair.desc).map (fun d => d.parameters.length) = some 3 := by decide +kernel
theorem dv_X3_bookToWriteKey : yX3_bookToWriteKey.cls = RX3 ∧ yX3_bookToWriteKey.cls ≠ "java/lang/invoke/MethodHandle" ∧ yX3_bookToWriteKey.cls ≠ "java/lang/invoke/VarHandle" ∧ (parseMethodDescriptor yX3_bookToWriteKey.desc).map (fun d => d.parameters.length) = some 2 := by decide +kernel
theorem dv_X0_putTogether : yX0_putTogether.cls = RX0 ∧ yX0_putTogether.cls ≠ "java/lang/invoke/MethodHandle" ∧ yX0_putTogether.cls ≠ "java/lang/invoke/VarHandle" ∧ (parseMethodDescriptor yX0_putTogether.desc).map (fun d => d.parameters.length) = some 2 := by decide +kernel
theorem dv_X0_growKey : yX0_growKey.cls = RX0 ∧ yX0_growKey.cls ≠ "java/lang/invoke/MethodHandle" ∧ yX0_growKey.cls ≠ "java/lang/invoke/VarHandle" ∧ (parseMethodDescriptor yX0_growKey.desc).map (fun d => d.parameters.length) = some 1 := by decide +kernel
theorem dv_X0_halveKey : yX0_halveKey.cls = RX0 ∧ yX0_halveKey.cls ≠ "java/lang/invoke/MethodHandle" ∧ yX0_halveKey.cls ≠ "java/lang/invoke/VarHandle" ∧ (parseMethodDescriptor yX0_halveKey.desc).map (fun d => d.parameters.length) = some 1 := by decide +kernel
theorem dv_X0_doubleKey : yX0_doubleKey.cls = RX0 ∧ yX0_doubleKey.cls ≠ "java/lang/invoke/MethodHandle" ∧ yX0_doubleKey.cls ≠ "java/lang/invoke/VarHandle" ∧ (parseMethodDescriptor yX0_doubleKey.desc).map (fun d => d.parameters.length) = some 1 := by decide +kernel
theorem dv_X0_raiseAll : yX0_raiseAll.cls = RX0 ∧ yX0_raiseAll.cls ≠ "java/lang/invoke/MethodHandle" ∧ yX0_raiseAll.cls ≠ "java/lang/invoke/VarHandle" ∧ (parseMethodDescriptor yX0_raiseAll.desc).map (fun d => d.parameters.length) = some 1 := by decide +kernel
theorem dv_X0_removeMultiples : yX0_removeMultiples.cls = RX0 ∧ yX0_removeMultiples.cls ≠ "java/lang/invoke/MethodHandle" ∧ yX0_removeMultiples.cls ≠ "java/lang/invoke/VarHandle" ∧ (parseMethodDescriptor yX0_removeMultiples.desc).map (fun d => d.parameters.length) = some 1 := by decide +kernel
theorem dv_X0_countOfValue : yX0_countOfValue.cls = RX0 ∧ yX0_countOfValue.cls ≠ "java/lang/invoke/MethodHandle" ∧ yX0_countOfValue.cls ≠ "java/lang/invoke/VarHandle" ∧ (parseMethodDescriptor yX0_countOfValue.desc).map (fun d => d.parameters.length) = some 1 := by decide +kernel
theorem dv_X3_openViews : yX3_openViews.cls = RX3 ∧ yX3_openViews.cls ≠ "java/lang/invoke/MethodHandle" ∧ yX3_openViews.cls ≠ "java/lang/invoke/VarHandle" ∧ (parseMethodDescriptor yX3_openViews.desc).map (fun d => d.parameters.length) = some 0 := by decide +kernel
theorem dv_X3_viewsOnto : yX3_viewsOnto.cls = RX3 ∧ yX3_viewsOnto.cls ≠ "java/lang/invoke/MethodHandle" ∧ yX3_viewsOnto.cls ≠ "java/lang/invoke/VarHandle" ∧ (parseMethodDescriptor yX3_viewsOnto.desc).map (fun d => d.parameters.length) = some 1 := by decide +kernel
theorem dv_X3_viewAt : yX3_viewAt.cls = RX3 ∧ yX3_viewAt.cls ≠ "java/lang/invoke/MethodHandle" ∧ yX3_viewAt.cls ≠ "java/lang/invoke/VarHandle" ∧ (parseMethodDescriptor yX3_viewAt.desc).map (fun d => d.parameters.length) = some 1 := by decide +kernel
theorem dv_X2_isBroken : yX2_isBroken.cls = RX2 ∧ yX2_isBroken.cls ≠ "java/lang/invoke/MethodHandle" ∧ yX2_isBroken.cls ≠ "java/lang/invoke/VarHandle" ∧ (parseMethodDescriptor yX2_isBroken.desc).map (fun d => d.parameters.length) = some 0 := by decide +kernel
theorem dv_X2_init_s : yX2_init.cls ≠ "java/lang/invoke/MethodHandle" ∧ yX2_init.cls ≠ "java/lang/invoke/VarHandle" ∧ (parseMethodDescriptor yX2_init.desc).map (fun d => d.parameters.length) = some 1 := by decide +kernel
theorem dv_X1_size : yX1_size.cls = RX1 ∧ yX1_size.cls ≠ "java/lang/invoke/MethodHandle" ∧ yX1_size.cls ≠ "java/lang/invoke/VarHandle" ∧ (parseMethodDescriptor yX1_size.desc).map (fun d => d.parameters.length) = some 0 := by decide +kernel
theorem dv_X3_checkUnlike_s : yX3_checkUnlike.cls ≠ "java/lang/invoke/MethodHandle" ∧ yX3_checkUnlike.cls ≠ "java/lang/invoke/VarHandle" ∧ (parseMethodDescriptor yX3_checkUnlike.desc).map (fun d => d.parameters.length) = some 2 := by decide +kernel
theorem dv_X0_becomeLike : yX0_becomeLike.cls = RX0 ∧ yX0_becomeLike.cls ≠ "java/lang/invoke/MethodHandle" ∧ yX0_becomeLike.cls ≠ "java/lang/invoke/VarHandle" ∧ (parseMethodDescriptor yX0_becomeLike.desc).map (fun d => d.parameters.length) = some 1 := by decide +kernel
theorem dv_X3_shutViewsOnto : yX3_shutViewsOnto.cls = RX3 ∧ yX3_shutViewsOnto.cls ≠ "java/lang/invoke/MethodHandle" ∧ yX3_shutViewsOnto.cls ≠ "java/lang/invoke/VarHandle" ∧ (parseMethodDescriptor yX3_shutViewsOnto.desc).map (fun d => d.parameters.length) = some 1 := by decide +kernel
theorem dv_X0_removeByOther : yX0_removeByOther.cls = RX0 ∧ yX0_removeByOther.cls ≠ "java/lang/invoke/MethodHandle" ∧ yX0_removeByOther.cls ≠ "java/lang/invoke/VarHandle" ∧ (parseMethodDescriptor yX0_removeByOther.desc).map (fun d => d.parameters.length) = some 2 := by decide +kernel
theorem dv_X1_init_s : yX1_init.cls ≠ "java/lang/invoke/MethodHandle" ∧ yX1_init.cls ≠ "java/lang/invoke/VarHandle" ∧ (parseMethodDescriptor yX1_init.desc).map (fun d => d.parameters.length) = some 5 := by decide +kernel
theorem dv_X3_openView : yX3_openView.cls = RX3 ∧ yX3_openView.cls ≠ "java/lang/invoke/MethodHandle" ∧ yX3_openView.cls ≠ "java/lang/invoke/VarHandle" ∧ (parseMethodDescriptor yX3_openView.desc).map (fun d => d.parameters.length) = some 1 := by decide +kernel
theorem dv_X3_checkViewIsFree : yX3_checkViewIsFree.cls = RX3 ∧ yX3_checkViewIsFree.cls ≠ "java/lang/invoke/MethodHandle" ∧ yX3_checkViewIsFree.cls ≠ "java/lang/invoke/VarHandle" ∧ (parseMethodDescriptor yX3_checkViewIsFree.desc).map (fun d => d.parameters.length) = some 0 := by decide +kernel
theorem dv_X3_viewToWritePair : yX3_viewToWritePair.cls = RX3 ∧ yX3_viewToWritePair.cls ≠ "java/lang/invoke/MethodHandle" ∧ yX3_viewToWritePair.cls ≠ "java/lang/invoke/VarHandle" ∧ (parseMethodDescriptor yX3_viewToWritePair.desc).map (fun d => d.parameters.length) = some 3 := by decide +kernel
theorem dv_X3_beginWalk : yX3_beginWalk.cls = RX3 ∧ yX3_beginWalk.cls ≠ "java/lang/invoke/MethodHandle" ∧ yX3_beginWalk.cls ≠ "java/lang/invoke/VarHandle" ∧ (parseMethodDescriptor yX3_beginWalk.desc).map (fun d => d.parameters.length) = some 1 := by decide +kernel
theorem dv_X3_soundWalk : yX3_soundWalk.cls = RX3 ∧ yX3_soundWalk.cls ≠ "java/lang/invoke/MethodHandle" ∧ yX3_soundWalk.cls ≠ "java/lang/invoke/VarHandle" ∧ (parseMethodDescriptor yX3_soundWalk.desc).map (fun d => d.parameters.length) = some 0 := by decide +kernel
theorem dv_X2_advance : yX2_advance.cls = RX2 ∧ yX2_advance.cls ≠ "java/lang/invoke/MethodHandle" ∧ yX2_advance.cls ≠ "java/lang/invoke/VarHandle" ∧ (parseMethodDescriptor yX2_advance.desc).map (fun d => d.parameters.length) = some 0 := by decide +kernel
theorem dv_X2_keyAtHand : yX2_keyAtHand.cls = RX2 ∧ yX2_keyAtHand.cls ≠ "java/lang/invoke/MethodHandle" ∧ yX2_keyAtHand.cls ≠ "java/lang/invoke/VarHandle" ∧ (parseMethodDescriptor yX2_keyAtHand.desc).map (fun d => d.parameters.length) = some 0 := by decide +kernel
theorem dv_X2_canDrop : yX2_canDrop.cls = RX2 ∧ yX2_canDrop.cls ≠ "java/lang/invoke/MethodHandle" ∧ yX2_canDrop.cls ≠ "java/lang/invoke/VarHandle" ∧ (parseMethodDescriptor yX2_canDrop.desc).map (fun d => d.parameters.length) = some 0 := by decide +kernel
theorem dv_X2_dropLastStep : yX2_dropLastStep.cls = RX2 ∧ yX2_dropLastStep.cls ≠ "java/lang/invoke/MethodHandle" ∧ yX2_dropLastStep.cls ≠ "java/lang/invoke/VarHandle" ∧ (parseMethodDescriptor yX2_dropLastStep.desc).map (fun d => d.parameters.length) = some 0 := by decide +kernel
theorem dv_X0_isLike : yX0_isLike.cls = RX0 ∧ yX0_isLike.cls ≠ "java/lang/invoke/MethodHandle" ∧ yX0_isLike.cls ≠ "java/lang/invoke/VarHandle" ∧ (parseMethodDescriptor yX0_isLike.desc).map (fun d => d.parameters.length) = some 1 := by decide +kernel
theorem dv_X3_checkWhat_s : yX3_checkWhat.cls ≠ "java/lang/invoke/MethodHandle" ∧ yX3_checkWhat.cls ≠ "java/lang/invoke/VarHandle" ∧ (parseMethodDescriptor yX3_checkWhat.desc).map (fun d => d.parameters.length) = some 2 := by decide +kernel
theorem dv_X0_unlikeValues : yX0_unlikeValues.cls = RX0 ∧ yX0_unlikeValues.cls ≠ "java/lang/invoke/MethodHandle" ∧ yX0_unlikeValues.cls ≠ "java/lang/invoke/VarHandle" ∧ (parseMethodDescriptor yX0_unlikeValues.desc).map (fun d => d.parameters.length) = some 0 := by decide +kernel
theorem dv_X0_number : yX0_number.cls = RX0 ∧ yX0_number.cls ≠ "java/lang/invoke/MethodHandle" ∧ yX0_number.cls ≠ "java/lang/invoke/VarHandle" ∧ (parseMethodDescriptor yX0_number.desc).map (fun d => d.parameters.length) = some 0 := by decide +kernel
theorem dv_X1_lowerBound : yX1_lowerBound.cls = RX1 ∧ yX1_lowerBound.cls ≠ "java/lang/invoke/MethodHandle" ∧ yX1_lowerBound.cls ≠ "java/lang/invoke/VarHandle" ∧ (parseMethodDescriptor yX1_lowerBound.desc).map (fun d => d.parameters.length) = some 0 := by decide +kernel
theorem dv_X1_upperBound : yX1_upperBound.cls = RX1 ∧ yX1_upperBound.cls ≠ "java/lang/invoke/MethodHandle" ∧ yX1_upperBound.cls ≠ "java/lang/invoke/VarHandle" ∧ (parseMethodDescriptor yX1_upperBound.desc).map (fun d => d.parameters.length) = some 0 := by decide +kernel
theorem dv_X1_isLowerIn : yX1_isLowerIn.cls = RX1 ∧ yX1_isLowerIn.cls ≠ "java/lang/invoke/MethodHandle" ∧ yX1_isLowerIn.cls ≠ "java/lang/invoke/VarHandle" ∧ (parseMethodDescriptor yX1_isLowerIn.desc).map (fun d => d.parameters.length) = some 0 := by decide +kernel
theorem dv_X1_isUpperIn : yX1_isUpperIn.cls = RX1 ∧ yX1_isUpperIn.cls ≠ "java/lang/invoke/MethodHandle" ∧ yX1_isUpperIn.cls ≠ "java/lang/invoke/VarHandle" ∧ (parseMethodDescriptor yX1_isUpperIn.desc).map (fun d => d.parameters.length) = some 0 := by decide +kernel
set_option maxHeartbeats 4000000 in
set_option maxRecDepth 100000 in
theorem c_X3_checkKey (l : Launch) (G : xG) {M : HM} (hst : l.stackTraces = false) {p0 : Int} (hp0 : -2147483648 ≤ p0 ∧ p0 ≤ 2147483647) : xMetX l G yX3_checkKey wsX3_checkKey 6 90 1 6 [.int (iN (p0))] M (fun r M1 => r = none ∧ M1 = M ∧ (0 ≤ p0 ∧ p0 ≤ 99)) (fun E M1 => E ∈ [xIA] ∧ M1 = M) := by
  refine x_introX (cc := cX3_checkKey) (maxL := 1) (ret := none) (by decide +kernel) rfl (Nat.le_of_ble_eq_true rfl) ?_
  intro p e R s m args below meth c ls hRf hRc hRs hRl htab hC hw hl
  have hl : lv_has ls 1 [(0, .int (iN (p0)))] := hl
  refine lv_iload_n hC.1 hC.2.1 dX3_checkKey_0 rfl (lv_at hl 0 rfl) ?_
  refine x_if_lt (tgt := 10) hC ⟨by omega, by omega⟩ dX3_checkKey_1 (by decide) (fun c_1 => ?_) (fun c_1 => ?_)
  · exact x_throwW (cls := "java/lang/IllegalArgumentException") (text := "a key is not 0 to 99") (names := ["java/lang/RuntimeException", "java/lang/Exception"]) hC hw hst htab (lv_size hl) (by decide +kernel) (by decide +kernel) (by decide +kernel) (by decide +kernel) (by decide +kernel) (by decide +kernel) (by decide +kernel) (xlit_Rangeledger_323) (by decide +kernel) dX3_checkKey_10 dX3_checkKey_13 dX3_checkKey_14 dX3_checkKey_17 dX3_checkKey_20 (by rw [hRf]; decide) (by rw [hRl]; exact Nat.le_of_ble_eq_true rfl) (by omega) (by omega) (by omega) (by omega) ⟨by decide +kernel, rfl⟩
  · refine lv_iload_n hC.1 hC.2.1 dX3_checkKey_4 rfl (lv_at hl 0 rfl) ?_
    refine x_bipush hC dX3_checkKey_5 (by decide +kernel) ?_
    refine x_icmp_lt (tgt := 21) hC ⟨by omega, by omega⟩ ⟨by omega, by omega⟩ dX3_checkKey_7 (by decide) (fun c_2 => ?_) (fun c_2 => ?_)
    · exact vx_ret (x_vret hC hw dX3_checkKey_21 (by omega) (by omega) ⟨rfl, rfl, by omega⟩)
    · exact x_throwW (cls := "java/lang/IllegalArgumentException") (text := "a key is not 0 to 99") (names := ["java/lang/RuntimeException", "java/lang/Exception"]) hC hw hst htab (lv_size hl) (by decide +kernel) (by decide +kernel) (by decide +kernel) (by decide +kernel) (by decide +kernel) (by decide +kernel) (by decide +kernel) (xlit_Rangeledger_323) (by decide +kernel) dX3_checkKey_10 dX3_checkKey_13 dX3_checkKey_14 dX3_checkKey_17 dX3_checkKey_20 (by rw [hRf]; decide) (by rw [hRl]; exact Nat.le_of_ble_eq_true rfl) (by omega) (by omega) (by omega) (by omega) ⟨by decide +kernel, rfl⟩
set_option maxHeartbeats 4000000 in
set_option maxRecDepth 100000 in
theorem c_X3_checkValue (l : Launch) (G : xG) {M : HM} (hst : l.stackTraces = false) {p0 : Int} (hp0 : -2147483648 ≤ p0 ∧ p0 ≤ 2147483647) : xMetX l G yX3_checkValue wsX3_checkValue 6 90 1 6 [.int (iN (p0))] M (fun r M1 => r = none ∧ M1 = M ∧ (-9999 ≤ p0 ∧ p0 ≤ 9999)) (fun E M1 => E ∈ [xIA] ∧ M1 = M) := by
  refine x_introX (cc := cX3_checkValue) (maxL := 1) (ret := none) (by decide +kernel) rfl (Nat.le_of_ble_eq_true rfl) ?_
  intro p e R s m args below meth c ls hRf hRc hRs hRl htab hC hw hl
  have hl : lv_has ls 1 [(0, .int (iN (p0)))] := hl
  refine lv_iload_n hC.1 hC.2.1 dX3_checkValue_0 rfl (lv_at hl 0 rfl) ?_
  refine x_sipush hC dX3_checkValue_1 (by decide +kernel) ?_
  refine x_icmp_lt (tgt := 14) hC ⟨by omega, by omega⟩ ⟨by omega, by omega⟩ dX3_checkValue_4 (by decide) (fun c_1 => ?_) (fun c_1 => ?_)
  · exact x_throwW (cls := "java/lang/IllegalArgumentException") (text := "a value is not -9999 to 9999") (names := ["java/lang/RuntimeException", "java/lang/Exception"]) hC hw hst htab (lv_size hl) (by decide +kernel) (by decide +kernel) (by decide +kernel) (by decide +kernel) (by decide +kernel) (by decide +kernel) (by decide +kernel) (xlit_Rangeledger_325) (by decide +kernel) dX3_checkValue_14 dX3_checkValue_17 dX3_checkValue_18 dX3_checkValue_21 dX3_checkValue_24 (by rw [hRf]; decide) (by rw [hRl]; exact Nat.le_of_ble_eq_true rfl) (by omega) (by omega) (by omega) (by omega) ⟨by decide +kernel, rfl⟩
  · refine lv_iload_n hC.1 hC.2.1 dX3_checkValue_7 rfl (lv_at hl 0 rfl) ?_
    refine x_sipush hC dX3_checkValue_8 (by decide +kernel) ?_
    refine x_icmp_le (tgt := 25) hC ⟨by omega, by omega⟩ ⟨by omega, by omega⟩ dX3_checkValue_11 (by decide) (fun c_2 => ?_) (fun c_2 => ?_)
    · exact vx_ret (x_vret hC hw dX3_checkValue_25 (by omega) (by omega) ⟨rfl, rfl, by omega⟩)
    · exact x_throwW (cls := "java/lang/IllegalArgumentException") (text := "a value is not -9999 to 9999") (names := ["java/lang/RuntimeException", "java/lang/Exception"]) hC hw hst htab (lv_size hl) (by decide +kernel) (by decide +kernel) (by decide +kernel) (by decide +kernel) (by decide +kernel) (by decide +kernel) (by decide +kernel) (xlit_Rangeledger_325) (by decide +kernel) dX3_checkValue_14 dX3_checkValue_17 dX3_checkValue_18 dX3_checkValue_21 dX3_checkValue_24 (by rw [hRf]; decide) (by rw [hRl]; exact Nat.le_of_ble_eq_true rfl) (by omega) (by omega) (by omega) (by omega) ⟨by decide +kernel, rfl⟩
set_option maxHeartbeats 4000000 in
set_option maxRecDepth 100000 in
theorem c_X3_checkWhat (l : Launch) (G : xG) {M : HM} (hst : l.stackTraces = false) {p0 : Int} (hp0 : -2147483648 ≤ p0 ∧ p0 ≤ 2147483647) {p1 : Int} (hp1 : -2147483648 ≤ p1 ∧ p1 ≤ 2147483647) : xMetX l G yX3_checkWhat wsX3_checkWhat 6 90 1 6 [.int (iN (p0)), .int (iN (p1))] M (fun r M1 => r = none ∧ M1 = M ∧ (0 ≤ p0 ∧ p0 ≤ p1)) (fun E M1 => E ∈ [xIA] ∧ M1 = M) := by
  refine x_introX (cc := cX3_checkWhat) (maxL := 2) (ret := none) (by decide +kernel) rfl (Nat.le_of_ble_eq_true rfl) ?_
  intro p e R s m args below meth c ls hRf hRc hRs hRl htab hC hw hl
  have hl : lv_has ls 2 [(0, .int (iN (p0))), (1, .int (iN (p1)))] := hl
  refine lv_iload_n hC.1 hC.2.1 dX3_checkWhat_0 rfl (lv_at hl 0 rfl) ?_
  refine x_if_lt (tgt := 9) hC ⟨by omega, by omega⟩ dX3_checkWhat_1 (by decide) (fun c_1 => ?_) (fun c_1 => ?_)
  · exact x_throwW (cls := "java/lang/IllegalArgumentException") (text := "what is not one of those told") (names := ["java/lang/RuntimeException", "java/lang/Exception"]) hC hw hst htab (lv_size hl) (by decide +kernel) (by decide +kernel) (by decide +kernel) (by decide +kernel) (by decide +kernel) (by decide +kernel) (by decide +kernel) (xlit_Rangeledger_327) (by decide +kernel) dX3_checkWhat_9 dX3_checkWhat_12 dX3_checkWhat_13 dX3_checkWhat_16 dX3_checkWhat_19 (by rw [hRf]; decide) (by rw [hRl]; exact Nat.le_of_ble_eq_true rfl) (by omega) (by omega) (by omega) (by omega) ⟨by decide +kernel, rfl⟩
  · refine lv_iload_n hC.1 hC.2.1 dX3_checkWhat_4 rfl (lv_at hl 0 rfl) ?_
    refine lv_iload_n hC.1 hC.2.1 dX3_checkWhat_5 rfl (lv_at hl 1 rfl) ?_
    refine x_icmp_le (tgt := 20) hC ⟨by omega, by omega⟩ ⟨by omega, by omega⟩ dX3_checkWhat_6 (by decide) (fun c_2 => ?_) (fun c_2 => ?_)
    · exact vx_ret (x_vret hC hw dX3_checkWhat_20 (by omega) (by omega) ⟨rfl, rfl, by omega⟩)
    · exact x_throwW (cls := "java/lang/IllegalArgumentException") (text := "what is not one of those told") (names := ["java/lang/RuntimeException", "java/lang/Exception"]) hC hw hst htab (lv_size hl) (by decide +kernel) (by decide +kernel) (by decide +kernel) (by decide +kernel) (by decide +kernel) (by decide +kernel) (by decide +kernel) (xlit_Rangeledger_327) (by decide +kernel) dX3_checkWhat_9 dX3_checkWhat_12 dX3_checkWhat_13 dX3_checkWhat_16 dX3_checkWhat_19 (by rw [hRf]; decide) (by rw [hRl]; exact Nat.le_of_ble_eq_true rfl) (by omega) (by omega) (by omega) (by omega) ⟨by decide +kernel, rfl⟩
set_option maxHeartbeats 4000000 in
set_option maxRecDepth 100000 in
theorem c_X3_checkUnlike (l : Launch) (G : xG) {M : HM} (hst : l.stackTraces = false) {p0 : Int} (hp0 : -2147483648 ≤ p0 ∧ p0 ≤ 2147483647) {p1 : Int} (hp1 : -2147483648 ≤ p1 ∧ p1 ≤ 2147483647) : xMetX l G yX3_checkUnlike wsX3_checkUnlike 6 90 1 6 [.int (iN (p0)), .int (iN (p1))] M (fun r M1 => r = none ∧ M1 = M ∧ (p0 ≠ p1)) (fun E M1 => E ∈ [xIA] ∧ M1 = M) := by
  refine x_introX (cc := cX3_checkUnlike) (maxL := 2) (ret := none) (by decide +kernel) rfl (Nat.le_of_ble_eq_true rfl) ?_
  intro p e R s m args below meth c ls hRf hRc hRs hRl htab hC hw hl
  have hl : lv_has ls 2 [(0, .int (iN (p0))), (1, .int (iN (p1)))] := hl
  refine lv_iload_n hC.1 hC.2.1 dX3_checkUnlike_0 rfl (lv_at hl 0 rfl) ?_
  refine lv_iload_n hC.1 hC.2.1 dX3_checkUnlike_1 rfl (lv_at hl 1 rfl) ?_
  refine x_icmp_ne (tgt := 16) hC ⟨by omega, by omega⟩ ⟨by omega, by omega⟩ dX3_checkUnlike_2 (by decide) (fun c_1 => ?_) (fun c_1 => ?_)
  · exact vx_ret (x_vret hC hw dX3_checkUnlike_16 (by omega) (by omega) ⟨rfl, rfl, by omega⟩)
  · exact x_throwW (cls := "java/lang/IllegalArgumentException") (text := "both books are the same") (names := ["java/lang/RuntimeException", "java/lang/Exception"]) hC hw hst htab (lv_size hl) (by decide +kernel) (by decide +kernel) (by decide +kernel) (by decide +kernel) (by decide +kernel) (by decide +kernel) (by decide +kernel) (xlit_Rangeledger_329) (by decide +kernel) dX3_checkUnlike_5 dX3_checkUnlike_8 dX3_checkUnlike_9 dX3_checkUnlike_12 dX3_checkUnlike_15 (by rw [hRf]; decide) (by rw [hRl]; exact Nat.le_of_ble_eq_true rfl) (by omega) (by omega) (by omega) (by omega) ⟨by decide +kernel, rfl⟩
set_option maxHeartbeats 4000000 in
set_option maxRecDepth 100000 in
theorem c_X3_bookAt (l : Launch) (G : xG) {M : HM} (hst : l.stackTraces = false) {h0 bs vs : Nat} {og : Option Nat} {kk kv rf : Int32} {qb qk qv : Nat → Nat} {fb fv : Nat → Option Nat} (hR : RGx G M h0 bs vs og kk kv rf qb qk qv fb fv) {p0 : Int} (hp0 : -2147483648 ≤ p0 ∧ p0 ≤ 2147483647) : xMetX l G yX3_bookAt wsX3_bookAt 6 90 1 6 [.ref h0, .int (iN (p0))] M (fun r M1 => r = some (.ref (qb p0.toNat)) ∧ M1 = M ∧ 0 ≤ p0 ∧ p0 < 3) (fun E M1 => E ∈ [xIO] ∧ M1 = M) := by
  refine x_introX (cc := cX3_bookAt) (maxL := 2) (ret := (some (.object "Rangeledger$Book"))) (by decide +kernel) rfl (Nat.le_of_ble_eq_true rfl) ?_
  intro p e R s m args below meth c ls hRf hRc hRs hRl htab hC hw hl
  have hinX3 : ∀ w ∈ wsX30, w ∈ wsX3_bookAt := by decide +kernel
  have hl : lv_has ls 2 [(0, .ref h0), (1, .int (iN (p0)))] := hl
  refine lv_iload_n hC.1 hC.2.1 dX3_bookAt_0 rfl (lv_at hl 1 rfl) ?_
  refine x_if_lt (tgt := 13) hC ⟨by omega, by omega⟩ dX3_bookAt_1 (by decide) (fun c_1 => ?_) (fun c_1 => ?_)
  · exact x_throwW (cls := "java/lang/IndexOutOfBoundsException") (text := "no such book") (names := ["java/lang/RuntimeException", "java/lang/Exception"]) hC hw hst htab (lv_size hl) (by decide +kernel) (by decide +kernel) (by decide +kernel) (by decide +kernel) (by decide +kernel) (by decide +kernel) (by decide +kernel) (xlit_Rangeledger_311) (by decide +kernel) dX3_bookAt_13 dX3_bookAt_16 dX3_bookAt_17 dX3_bookAt_20 dX3_bookAt_23 (by rw [hRf]; decide) (by rw [hRl]; exact Nat.le_of_ble_eq_true rfl) (by omega) (by omega) (by omega) (by omega) ⟨by decide +kernel, rfl⟩
  · refine lv_iload_n hC.1 hC.2.1 dX3_bookAt_4 rfl (lv_at hl 1 rfl) ?_
    refine lv_aload_n hC.1 hC.2.1 dX3_bookAt_5 rfl (lv_at hl 0 rfl) ?_
    refine x_get hC hw hR.1 rfl hinX3 0 (by decide) (by decide +kernel) rfl dX3_bookAt_6 ?_
    refine x_alen hC hw 2 hR.2.1 rfl dX3_bookAt_9 ?_
    refine x_icmp_lt (tgt := 24) hC ⟨by omega, by omega⟩ ⟨by omega, by omega⟩ dX3_bookAt_10 (by decide) (fun c_2 => ?_) (fun c_2 => ?_)
    · refine lv_aload_n hC.1 hC.2.1 dX3_bookAt_24 rfl (lv_at hl 0 rfl) ?_
      refine x_get hC hw hR.1 rfl hinX3 0 (by decide) (by decide +kernel) rfl dX3_bookAt_25 ?_
      refine lv_iload_n hC.1 hC.2.1 dX3_bookAt_28 rfl (lv_at hl 1 rfl) ?_
      refine x_aldq hC hw 2 hR.2.1 rfl (by omega) (by omega) (by omega) dX3_bookAt_29 ?_
      rw [hR.fb' (show (p0).toNat < 3 by omega)]
      show W p l e R s m args below meth c _ _ _ _ _ (F0 m 30 ls [.ref (qb (p0).toNat)])
      exact vx_ret (x_aret hC hw (by first | exact Or.inl ⟨_, rfl⟩ | exact Or.inr ⟨_, rfl⟩) (Or.inr ⟨_, rfl⟩) dX3_bookAt_30 (by omega) (by omega) ⟨rfl, rfl, by omega, by omega⟩)
    · exact x_throwW (cls := "java/lang/IndexOutOfBoundsException") (text := "no such book") (names := ["java/lang/RuntimeException", "java/lang/Exception"]) hC hw hst htab (lv_size hl) (by decide +kernel) (by decide +kernel) (by decide +kernel) (by decide +kernel) (by decide +kernel) (by decide +kernel) (by decide +kernel) (xlit_Rangeledger_311) (by decide +kernel) dX3_bookAt_13 dX3_bookAt_16 dX3_bookAt_17 dX3_bookAt_20 dX3_bookAt_23 (by rw [hRf]; decide) (by rw [hRl]; exact Nat.le_of_ble_eq_true rfl) (by omega) (by omega) (by omega) (by omega) ⟨by decide +kernel, rfl⟩
set_option maxHeartbeats 4000000 in
set_option maxRecDepth 100000 in
theorem c_X3_viewAt (l : Launch) (G : xG) {M : HM} (hst : l.stackTraces = false) {h0 bs vs : Nat} {og : Option Nat} {kk kv rf : Int32} {qb qk qv : Nat → Nat} {fb fv : Nat → Option Nat} (hR : RGx G M h0 bs vs og kk kv rf qb qk qv fb fv) {p0 : Int} (hp0 : -2147483648 ≤ p0 ∧ p0 ≤ 2147483647) : xMetX l G yX3_viewAt wsX3_viewAt 6 90 1 6 [.ref h0, .int (iN (p0))] M (fun r M1 => ∃ y : Nat, r = some (.ref y) ∧ M1 = M ∧ 0 ≤ p0 ∧ p0 < 4 ∧ fv p0.toNat = some y) (fun E M1 => E ∈ [xIO] ∧ M1 = M) := by
  refine x_introX (cc := cX3_viewAt) (maxL := 2) (ret := (some (.object "Rangeledger$View"))) (by decide +kernel) rfl (Nat.le_of_ble_eq_true rfl) ?_
  intro p e R s m args below meth c ls hRf hRc hRs hRl htab hC hw hl
  have hinX3 : ∀ w ∈ wsX30, w ∈ wsX3_viewAt := by decide +kernel
  have hl : lv_has ls 2 [(0, .ref h0), (1, .int (iN (p0)))] := hl
  refine lv_iload_n hC.1 hC.2.1 dX3_viewAt_0 rfl (lv_at hl 1 rfl) ?_
  refine x_if_lt (tgt := 22) hC ⟨by omega, by omega⟩ dX3_viewAt_1 (by decide) (fun c_1 => ?_) (fun c_1 => ?_)
  · exact x_throwW (cls := "java/lang/IndexOutOfBoundsException") (text := "no such view is open") (names := ["java/lang/RuntimeException", "java/lang/Exception"]) hC hw hst htab (lv_size hl) (by decide +kernel) (by decide +kernel) (by decide +kernel) (by decide +kernel) (by decide +kernel) (by decide +kernel) (by decide +kernel) (xlit_Rangeledger_314) (by decide +kernel) dX3_viewAt_22 dX3_viewAt_25 dX3_viewAt_26 dX3_viewAt_29 dX3_viewAt_32 (by rw [hRf]; decide) (by rw [hRl]; exact Nat.le_of_ble_eq_true rfl) (by omega) (by omega) (by omega) (by omega) ⟨by decide +kernel, rfl⟩
  · refine lv_iload_n hC.1 hC.2.1 dX3_viewAt_4 rfl (lv_at hl 1 rfl) ?_
    refine lv_aload_n hC.1 hC.2.1 dX3_viewAt_5 rfl (lv_at hl 0 rfl) ?_
    refine x_get hC hw hR.1 rfl hinX3 1 (by decide) (by decide +kernel) rfl dX3_viewAt_6 ?_
    refine x_alen hC hw 3 hR.2.2.1 rfl dX3_viewAt_9 ?_
    refine x_icmp_ge (tgt := 22) hC ⟨by omega, by omega⟩ ⟨by omega, by omega⟩ dX3_viewAt_10 (by decide) (fun c_2 => ?_) (fun c_2 => ?_)
    · exact x_throwW (cls := "java/lang/IndexOutOfBoundsException") (text := "no such view is open") (names := ["java/lang/RuntimeException", "java/lang/Exception"]) hC hw hst htab (lv_size hl) (by decide +kernel) (by decide +kernel) (by decide +kernel) (by decide +kernel) (by decide +kernel) (by decide +kernel) (by decide +kernel) (xlit_Rangeledger_314) (by decide +kernel) dX3_viewAt_22 dX3_viewAt_25 dX3_viewAt_26 dX3_viewAt_29 dX3_viewAt_32 (by rw [hRf]; decide) (by rw [hRl]; exact Nat.le_of_ble_eq_true rfl) (by omega) (by omega) (by omega) (by omega) ⟨by decide +kernel, rfl⟩
    · refine lv_aload_n hC.1 hC.2.1 dX3_viewAt_13 rfl (lv_at hl 0 rfl) ?_
      refine x_get hC hw hR.1 rfl hinX3 1 (by decide) (by decide +kernel) rfl dX3_viewAt_14 ?_
      refine lv_iload_n hC.1 hC.2.1 dX3_viewAt_17 rfl (lv_at hl 1 rfl) ?_
      refine x_aldq hC hw 3 hR.2.2.1 rfl (by omega) (by omega) (by omega) dX3_viewAt_18 ?_
      rcases hy_4 : fv (p0).toNat with _ | y_3
      · show W p l e R s m args below meth c _ _ _ _ _ (F0 m 19 ls [.null])
        refine lv_ifnonnullN hC.1 hC.2.1 dX3_viewAt_19 ?_
        exact x_throwW (cls := "java/lang/IndexOutOfBoundsException") (text := "no such view is open") (names := ["java/lang/RuntimeException", "java/lang/Exception"]) hC hw hst htab (lv_size hl) (by decide +kernel) (by decide +kernel) (by decide +kernel) (by decide +kernel) (by decide +kernel) (by decide +kernel) (by decide +kernel) (xlit_Rangeledger_314) (by decide +kernel) dX3_viewAt_22 dX3_viewAt_25 dX3_viewAt_26 dX3_viewAt_29 dX3_viewAt_32 (by rw [hRf]; decide) (by rw [hRl]; exact Nat.le_of_ble_eq_true rfl) (by omega) (by omega) (by omega) (by omega) ⟨by decide +kernel, rfl⟩
      · obtain ⟨ix_5, lox_5, upx_5, swx_5, ewx_5, lix_5, uix_5, hix_5, hVx_5⟩ := (hR.vw (show (p0).toNat < 4 by omega) hy_4)
        have hlix_5 := hVx_5.2.1
        have huix_5 := hVx_5.2.2
        obtain ⟨nox_6, ox_6, tx_6, kcx_6, szx_6, fkx_6, fwx_6, hBx_6⟩ := hR.bk hix_5
        obtain ⟨-, -, -, -, hsax_6, hsbx_6⟩ := id hBx_6
        show W p l e R s m args below meth c _ _ _ _ _ (F0 m 19 ls [.ref y_3])
        refine lv_ifnonnull (tgt := 33) hC.1 hC.2.1 dX3_viewAt_19 (by decide) ?_
        refine lv_aload_n hC.1 hC.2.1 dX3_viewAt_33 rfl (lv_at hl 0 rfl) ?_
        refine x_get hC hw hR.1 rfl hinX3 1 (by decide) (by decide +kernel) rfl dX3_viewAt_34 ?_
        refine lv_iload_n hC.1 hC.2.1 dX3_viewAt_37 rfl (lv_at hl 1 rfl) ?_
        refine x_aldq hC hw 3 hR.2.2.1 rfl (by omega) (by omega) (by omega) dX3_viewAt_38 ?_
        rw [hy_4]
        show W p l e R s m args below meth c _ _ _ _ _ (F0 m 39 ls [.ref y_3])
        exact vx_ret (x_aret hC hw (by first | exact Or.inl ⟨_, rfl⟩ | exact Or.inr ⟨_, rfl⟩) (Or.inr ⟨_, rfl⟩) dX3_viewAt_39 (by omega) (by omega) ⟨y_3, rfl, rfl, by omega, by omega, by first | exact hy_4 | rfl⟩)
set_option maxHeartbeats 4000000 in
set_option maxRecDepth 100000 in
theorem c_X3_bookToWriteKey (l : Launch) (G : xG) {M : HM} (hst : l.stackTraces = false) {h0 bs vs : Nat} {og : Option Nat} {kk kv rf : Int32} {qb qk qv : Nat → Nat} {fb fv : Nat → Option Nat} (hR : RGx G M h0 bs vs og kk kv rf qb qk qv fb fv) {p0 : Int} (hp0 : -2147483648 ≤ p0 ∧ p0 ≤ 2147483647) {p1 : Int} (hp1 : -2147483648 ≤ p1 ∧ p1 ≤ 2147483647) : xMetX l G yX3_bookToWriteKey wsX3_bookToWriteKey 7 111 2 12 [.ref h0, .int (iN (p0)), .int (iN (p1))] M (fun r M1 => ∃ i : Nat, i < 3 ∧ p0 = i ∧ r = some (.ref (qb i)) ∧ RGx G M1 h0 bs vs og kk kv rf qb qk qv fb fv ∧ (0 ≤ p1 ∧ p1 ≤ 99)) (fun E M1 => E ∈ [xIO, xIA] ∧ RGx G M1 h0 bs vs og kk kv rf qb qk qv fb fv) := by
  refine x_introX (cc := cX3_bookToWriteKey) (maxL := 4) (ret := (some (.object "Rangeledger$Book"))) (by decide +kernel) rfl (Nat.le_of_ble_eq_true rfl) ?_
  intro p e R s m args below meth c ls hRf hRc hRs hRl htab hC hw hl
  have hl : lv_has ls 4 [(0, .ref h0), (1, .int (iN (p0))), (2, .int (iN (p1)))] := hl
  refine lv_aload_n hC.1 hC.2.1 dX3_bookToWriteKey_0 rfl (lv_at hl 0 rfl) ?_
  refine lv_iload_n hC.1 hC.2.1 dX3_bookToWriteKey_1 rfl (lv_at hl 1 rfl) ?_
  refine x_callVX hC hw (lv_size hl) (c_X3_bookAt l G hst hR (p0 := p0) (by omega)) gX3_bookToWriteKey_X3_bookAt rfl dv_X3_bookAt hR.1 rfl rfl (Nat.le_of_ble_eq_true rfl) (by rw [hRf]; decide) (by rw [hRl]; decide) (by omega) (by omega) dX3_bookToWriteKey_2 (fun E ce q9 M_1 H locs hqx hw hcell hcv hcls => ?_) (fun r9 M_1 H locs hq hw => ?_)
  · rw [hqx.2] at hw
    exact x_outX hC hw htab hcell hcv hcls (by omega) (by omega) ⟨(show ∀ x ∈ [xIO], x ∈ [xIO, xIA] from by decide +kernel) E hqx.1, hR⟩
  obtain ⟨rfl, hM9, hk_2, hk_2b⟩ := hq
  rw [hM9] at hw
  have hik_2 : (p0).toNat < 3 := by omega
  obtain ⟨nox_3, ox_3, tx_3, kcx_3, szx_3, fkx_3, fwx_3, hBx_3⟩ := hR.bk hik_2
  obtain ⟨-, -, -, -, hsax_3, hsbx_3⟩ := id hBx_3
  show W p l e R s m args below meth c H locs _ _ _ (F0 m 5 ls [.ref (qb ((p0).toNat))])
  refine lv_astore_n (lv' := [(3, .ref (qb ((p0).toNat))), (0, .ref h0), (1, .int (iN (p0))), (2, .int (iN (p1)))]) hC.1 hC.2.1 dX3_bookToWriteKey_5 rfl hl (by decide) rfl (fun ls hl => ?_)
  refine lv_iload_n hC.1 hC.2.1 dX3_bookToWriteKey_6 rfl (lv_at hl 3 rfl) ?_
  refine x_callSX hC hw (lv_size hl) (c_X3_checkKey l G (M := M) hst (p0 := p1) (by omega)) gX3_bookToWriteKey_X3_checkKey rfl dv_X3_checkKey_s rfl (Nat.le_of_ble_eq_true rfl) (by rw [hRf]; decide) (by rw [hRl]; decide) (by omega) (by omega) dX3_bookToWriteKey_7 (fun E ce q9 M_4 H locs hqx hw hcell hcv hcls => ?_) (fun r9 M_4 H locs hq hw => ?_)
  · rw [hqx.2] at hw
    exact x_outX hC hw htab hcell hcv hcls (by omega) (by omega) ⟨(show ∀ x ∈ [xIA], x ∈ [xIO, xIA] from by decide +kernel) E hqx.1, hR⟩
  obtain ⟨rfl, hM9, hk_5⟩ := hq
  rw [hM9] at hw
  show W p l e R s m args below meth c H locs _ _ _ (F0 m 10 ls [])
  refine lv_aload_n hC.1 hC.2.1 dX3_bookToWriteKey_10 rfl (lv_at hl 0 rfl) ?_
  refine x_callV hC hw (lv_size hl) (c_X0_touch l G hBx_3) gX3_bookToWriteKey_X0_touch rfl dv_X0_touch hBx_3.1 rfl rfl (Nat.le_of_ble_eq_true rfl) (by rw [hRf]; decide) (by rw [hRl]; decide) (by omega) (by omega) dX3_bookToWriteKey_11 (fun r9 M_6 H locs hq hw => ?_)
  obtain ⟨rfl, ou_7, tu_7, kcu_7, szu_7, fku_7, fvu_7, hBu_7, smu_7⟩ := hq
  obtain ⟨-, -, -, -, hsau_7, hsbu_7⟩ := id hBu_7
  have sm_8 := (xSm.rf (M := M) (b := (qb ((p0).toNat))) (k := (qk ((p0).toNat))) (v := (qv ((p0).toNat)))).tr (smu_7)
  have h_9 := hR.book hik_2 hBx_3 hBu_7 smu_7
  show W p l e R s m args below meth c H locs _ _ _ (F0 m 14 ls [])
  refine lv_aload_n hC.1 hC.2.1 dX3_bookToWriteKey_14 rfl (lv_at hl 0 rfl) ?_
  exact vx_ret (x_aret hC hw (by first | exact Or.inl ⟨_, rfl⟩ | exact Or.inr ⟨_, rfl⟩) (Or.inr ⟨_, rfl⟩) dX3_bookToWriteKey_15 (by omega) (by omega) ⟨(p0).toNat, by omega, by omega, rfl, h_9, by omega⟩)
set_option maxHeartbeats 4000000 in
set_option maxRecDepth 100000 in
theorem c_X3_bookToWritePair (l : Launch) (G : xG) {M : HM} (hst : l.stackTraces = false) {h0 bs vs : Nat} {og : Option Nat} {kk kv rf : Int32} {qb qk qv : Nat → Nat} {fb fv : Nat → Option Nat} (hR : RGx G M h0 bs vs og kk kv rf qb qk qv fb fv) {p0 : Int} (hp0 : -2147483648 ≤ p0 ∧ p0 ≤ 2147483647) {p1 : Int} (hp1 : -2147483648 ≤ p1 ∧ p1 ≤ 2147483647) {p2 : Int} (hp2 : -2147483648 ≤ p2 ∧ p2 ≤ 2147483647) : xMetX l G yX3_bookToWritePair wsX3_bookToWritePair 7 111 3 18 [.ref h0, .int (iN (p0)), .int (iN (p1)), .int (iN (p2))] M (fun r M1 => ∃ i : Nat, i < 3 ∧ p0 = i ∧ r = some (.ref (qb i)) ∧ RGx G M1 h0 bs vs og kk kv rf qb qk qv fb fv ∧ (0 ≤ p1 ∧ p1 ≤ 99) ∧ (-9999 ≤ p2 ∧ p2 ≤ 9999)) (fun E M1 => E ∈ [xIO, xIA] ∧ RGx G M1 h0 bs vs og kk kv rf qb qk qv fb fv) := by
  refine x_introX (cc := cX3_bookToWritePair) (maxL := 5) (ret := (some (.object "Rangeledger$Book"))) (by decide +kernel) rfl (Nat.le_of_ble_eq_true rfl) ?_
  intro p e R s m args below meth c ls hRf hRc hRs hRl htab hC hw hl
  have hl : lv_has ls 5 [(0, .ref h0), (1, .int (iN (p0))), (2, .int (iN (p1))), (3, .int (iN (p2)))] := hl
  refine lv_aload_n hC.1 hC.2.1 dX3_bookToWritePair_0 rfl (lv_at hl 0 rfl) ?_
  refine lv_iload_n hC.1 hC.2.1 dX3_bookToWritePair_1 rfl (lv_at hl 1 rfl) ?_
  refine x_callVX hC hw (lv_size hl) (c_X3_bookAt l G hst hR (p0 := p0) (by omega)) gX3_bookToWritePair_X3_bookAt rfl dv_X3_bookAt hR.1 rfl rfl (Nat.le_of_ble_eq_true rfl) (by rw [hRf]; decide) (by rw [hRl]; decide) (by omega) (by omega) dX3_bookToWritePair_2 (fun E ce q9 M_1 H locs hqx hw hcell hcv hcls => ?_) (fun r9 M_1 H locs hq hw => ?_)
  · rw [hqx.2] at hw
    exact x_outX hC hw htab hcell hcv hcls (by omega) (by omega) ⟨(show ∀ x ∈ [xIO], x ∈ [xIO, xIA] from by decide +kernel) E hqx.1, hR⟩
  obtain ⟨rfl, hM9, hk_2, hk_2b⟩ := hq
  rw [hM9] at hw
  have hik_2 : (p0).toNat < 3 := by omega
  obtain ⟨nox_3, ox_3, tx_3, kcx_3, szx_3, fkx_3, fwx_3, hBx_3⟩ := hR.bk hik_2
  obtain ⟨-, -, -, -, hsax_3, hsbx_3⟩ := id hBx_3
  show W p l e R s m args below meth c H locs _ _ _ (F0 m 5 ls [.ref (qb ((p0).toNat))])
  refine lv_astore (lv' := [(4, .ref (qb ((p0).toNat))), (0, .ref h0), (1, .int (iN (p0))), (2, .int (iN (p1))), (3, .int (iN (p2)))]) hC.1 hC.2.1 dX3_bookToWritePair_5 hl (by decide) rfl (fun ls hl => ?_)
  refine lv_iload_n hC.1 hC.2.1 dX3_bookToWritePair_7 rfl (lv_at hl 3 rfl) ?_
  refine x_callSX hC hw (lv_size hl) (c_X3_checkKey l G (M := M) hst (p0 := p1) (by omega)) gX3_bookToWritePair_X3_checkKey rfl dv_X3_checkKey_s rfl (Nat.le_of_ble_eq_true rfl) (by rw [hRf]; decide) (by rw [hRl]; decide) (by omega) (by omega) dX3_bookToWritePair_8 (fun E ce q9 M_4 H locs hqx hw hcell hcv hcls => ?_) (fun r9 M_4 H locs hq hw => ?_)
  · rw [hqx.2] at hw
    exact x_outX hC hw htab hcell hcv hcls (by omega) (by omega) ⟨(show ∀ x ∈ [xIA], x ∈ [xIO, xIA] from by decide +kernel) E hqx.1, hR⟩
  obtain ⟨rfl, hM9, hk_5⟩ := hq
  rw [hM9] at hw
  show W p l e R s m args below meth c H locs _ _ _ (F0 m 11 ls [])
  refine lv_iload_n hC.1 hC.2.1 dX3_bookToWritePair_11 rfl (lv_at hl 4 rfl) ?_
  refine x_callSX hC hw (lv_size hl) (c_X3_checkValue l G (M := M) hst (p0 := p2) (by omega)) gX3_bookToWritePair_X3_checkValue rfl dv_X3_checkValue_s rfl (Nat.le_of_ble_eq_true rfl) (by rw [hRf]; decide) (by rw [hRl]; decide) (by omega) (by omega) dX3_bookToWritePair_12 (fun E ce q9 M_6 H locs hqx hw hcell hcv hcls => ?_) (fun r9 M_6 H locs hq hw => ?_)
  · rw [hqx.2] at hw
    exact x_outX hC hw htab hcell hcv hcls (by omega) (by omega) ⟨(show ∀ x ∈ [xIA], x ∈ [xIO, xIA] from by decide +kernel) E hqx.1, hR⟩
  obtain ⟨rfl, hM9, hk_7⟩ := hq
  rw [hM9] at hw
  show W p l e R s m args below meth c H locs _ _ _ (F0 m 15 ls [])
  refine lv_aload hC.1 hC.2.1 dX3_bookToWritePair_15 (lv_at hl 0 rfl) ?_
  refine x_callV hC hw (lv_size hl) (c_X0_touch l G hBx_3) gX3_bookToWritePair_X0_touch rfl dv_X0_touch hBx_3.1 rfl rfl (Nat.le_of_ble_eq_true rfl) (by rw [hRf]; decide) (by rw [hRl]; decide) (by omega) (by omega) dX3_bookToWritePair_17 (fun r9 M_8 H locs hq hw => ?_)
  obtain ⟨rfl, ou_9, tu_9, kcu_9, szu_9, fku_9, fvu_9, hBu_9, smu_9⟩ := hq
  obtain ⟨-, -, -, -, hsau_9, hsbu_9⟩ := id hBu_9
  have sm_10 := (xSm.rf (M := M) (b := (qb ((p0).toNat))) (k := (qk ((p0).toNat))) (v := (qv ((p0).toNat)))).tr (smu_9)
  have h_11 := hR.book hik_2 hBx_3 hBu_9 smu_9
  show W p l e R s m args below meth c H locs _ _ _ (F0 m 20 ls [])
  refine lv_aload hC.1 hC.2.1 dX3_bookToWritePair_20 (lv_at hl 0 rfl) ?_
  exact vx_ret (x_aret hC hw (by first | exact Or.inl ⟨_, rfl⟩ | exact Or.inr ⟨_, rfl⟩) (Or.inr ⟨_, rfl⟩) dX3_bookToWritePair_22 (by omega) (by omega) ⟨(p0).toNat, by omega, by omega, rfl, h_11, by omega, by omega⟩)
set_option maxHeartbeats 4000000 in
set_option maxRecDepth 100000 in
theorem c_X3_put (l : Launch) (G : xG) {M : HM} (hst : l.stackTraces = false) {h0 bs vs : Nat} {og : Option Nat} {kk kv rf : Int32} {qb qk qv : Nat → Nat} {fb fv : Nat → Option Nat} (hR : RGx G M h0 bs vs og kk kv rf qb qk qv fb fv) {p0 : Int} (hp0 : -2147483648 ≤ p0 ∧ p0 ≤ 2147483647) {p1 : Int} (hp1 : -2147483648 ≤ p1 ∧ p1 ≤ 2147483647) {p2 : Int} (hp2 : -2147483648 ≤ p2 ∧ p2 ≤ 2147483647) : xMetX l G yX3_put wsX3_put 8 135 3 18 [.ref h0, .int (iN (p0)), .int (iN (p1)), .int (iN (p2))] M (fun r M1 => ∃ z : Int, r = some (.int (iN z)) ∧ (-2147483648 ≤ z ∧ z ≤ 2147483647) ∧ RG G M1 h0 rf) (fun E M1 => E ∈ [xIO, xIA] ∧ RG G M1 h0 rf) := by
  refine x_introX (cc := cX3_put) (maxL := 4) (ret := (some .int)) (by decide +kernel) rfl (Nat.le_of_ble_eq_true rfl) ?_
  intro p e R s m args below meth c ls hRf hRc hRs hRl htab hC hw hl
  have hl : lv_has ls 4 [(0, .ref h0), (1, .int (iN (p0))), (2, .int (iN (p1))), (3, .int (iN (p2)))] := hl
  refine lv_aload_n hC.1 hC.2.1 dX3_put_0 rfl (lv_at hl 0 rfl) ?_
  refine lv_iload_n hC.1 hC.2.1 dX3_put_1 rfl (lv_at hl 1 rfl) ?_
  refine lv_iload_n hC.1 hC.2.1 dX3_put_2 rfl (lv_at hl 2 rfl) ?_
  refine lv_iload_n hC.1 hC.2.1 dX3_put_3 rfl (lv_at hl 3 rfl) ?_
  refine x_callVX hC hw (lv_size hl) (c_X3_bookToWritePair l G hst hR (p0 := p0) (by omega) (p1 := p1) (by omega) (p2 := p2) (by omega)) gX3_put_X3_bookToWritePair rfl dv_X3_bookToWritePair hR.1 rfl rfl (Nat.le_of_ble_eq_true rfl) (by rw [hRf]; decide) (by rw [hRl]; decide) (by omega) (by omega) dX3_put_4 (fun E ce q9 M_1 H locs hqx hw hcell hcv hcls => ?_) (fun r9 M_1 H locs hq hw => ?_)
  · exact x_outX hC hw htab hcell hcv hcls (by omega) (by omega) ⟨(show ∀ x ∈ [xIO, xIA], x ∈ [xIO, xIA] from by decide +kernel) E hqx.1, ⟨_, _, _, _, _, _, _, _, _, _, hqx.2⟩⟩
  obtain ⟨ik_2, hik_2, hpk_2, rfl, hRk_2, hkk_20, hkk_21⟩ := hq
  obtain ⟨nox_3, ox_3, tx_3, kcx_3, szx_3, fkx_3, fwx_3, hBx_3⟩ := hRk_2.bk hik_2
  obtain ⟨-, -, -, -, hsax_3, hsbx_3⟩ := id hBx_3
  show W p l e R s m args below meth c H locs _ _ _ (F0 m 7 ls [.ref (qb ik_2)])
  refine lv_iload_n hC.1 hC.2.1 dX3_put_7 rfl (lv_at hl 2 rfl) ?_
  refine lv_iload_n hC.1 hC.2.1 dX3_put_8 rfl (lv_at hl 3 rfl) ?_
  refine x_callV hC hw (lv_size hl) (c_X0_enter l G hBx_3 (p0 := p1) (by omega) (p1 := p2) (by omega)) gX3_put_X0_enter rfl dv_X0_enter hBx_3.1 rfl rfl (Nat.le_of_ble_eq_true rfl) (by rw [hRf]; decide) (by rw [hRl]; decide) (by omega) (by omega) dX3_put_9 (fun r9 M_4 H locs hq hw => ?_)
  obtain ⟨z_6, rfl, hz_6, ou_5, tu_5, kcu_5, szu_5, fku_5, fvu_5, hBu_5, smu_5⟩ := hq
  obtain ⟨-, -, -, -, hsau_5, hsbu_5⟩ := id hBu_5
  have sm_7 := (xSm.rf (M := M_1) (b := (qb ik_2)) (k := (qk ik_2)) (v := (qv ik_2))).tr (smu_5)
  have h_8 := hRk_2.book hik_2 hBx_3 hBu_5 smu_5
  show W p l e R s m args below meth c H locs _ _ _ (F0 m 12 ls [.int (iN (z_6))])
  exact vx_ret (x_iret hC hw dX3_put_12 (by omega) (by omega) ⟨(iN (z_6)).toInt, by simp only [iN_asI], iN_rng _, ⟨_, _, _, _, _, _, _, _, _, _, h_8⟩⟩)
set_option maxHeartbeats 4000000 in
set_option maxRecDepth 100000 in
theorem c_X3_putAbsent (l : Launch) (G : xG) {M : HM} (hst : l.stackTraces = false) {h0 bs vs : Nat} {og : Option Nat} {kk kv rf : Int32} {qb qk qv : Nat → Nat} {fb fv : Nat → Option Nat} (hR : RGx G M h0 bs vs og kk kv rf qb qk qv fb fv) {p0 : Int} (hp0 : -2147483648 ≤ p0 ∧ p0 ≤ 2147483647) {p1 : Int} (hp1 : -2147483648 ≤ p1 ∧ p1 ≤ 2147483647) {p2 : Int} (hp2 : -2147483648 ≤ p2 ∧ p2 ≤ 2147483647) : xMetX l G yX3_putAbsent wsX3_putAbsent 8 135 3 18 [.ref h0, .int (iN (p0)), .int (iN (p1)), .int (iN (p2))] M (fun r M1 => ∃ z : Int, r = some (.int (iN z)) ∧ (-2147483648 ≤ z ∧ z ≤ 2147483647) ∧ RG G M1 h0 rf) (fun E M1 => E ∈ [xIO, xIA] ∧ RG G M1 h0 rf) := by
  refine x_introX (cc := cX3_putAbsent) (maxL := 5) (ret := (some .int)) (by decide +kernel) rfl (Nat.le_of_ble_eq_true rfl) ?_
  intro p e R s m args below meth c ls hRf hRc hRs hRl htab hC hw hl
  have hl : lv_has ls 5 [(0, .ref h0), (1, .int (iN (p0))), (2, .int (iN (p1))), (3, .int (iN (p2)))] := hl
  refine lv_aload_n hC.1 hC.2.1 dX3_putAbsent_0 rfl (lv_at hl 0 rfl) ?_
  refine lv_iload_n hC.1 hC.2.1 dX3_putAbsent_1 rfl (lv_at hl 1 rfl) ?_
  refine lv_iload_n hC.1 hC.2.1 dX3_putAbsent_2 rfl (lv_at hl 2 rfl) ?_
  refine lv_iload_n hC.1 hC.2.1 dX3_putAbsent_3 rfl (lv_at hl 3 rfl) ?_
  refine x_callVX hC hw (lv_size hl) (c_X3_bookToWritePair l G hst hR (p0 := p0) (by omega) (p1 := p1) (by omega) (p2 := p2) (by omega)) gX3_putAbsent_X3_bookToWritePair rfl dv_X3_bookToWritePair hR.1 rfl rfl (Nat.le_of_ble_eq_true rfl) (by rw [hRf]; decide) (by rw [hRl]; decide) (by omega) (by omega) dX3_putAbsent_4 (fun E ce q9 M_1 H locs hqx hw hcell hcv hcls => ?_) (fun r9 M_1 H locs hq hw => ?_)
  · exact x_outX hC hw htab hcell hcv hcls (by omega) (by omega) ⟨(show ∀ x ∈ [xIO, xIA], x ∈ [xIO, xIA] from by decide +kernel) E hqx.1, ⟨_, _, _, _, _, _, _, _, _, _, hqx.2⟩⟩
  obtain ⟨ik_2, hik_2, hpk_2, rfl, hRk_2, hkk_20, hkk_21⟩ := hq
  obtain ⟨nox_3, ox_3, tx_3, kcx_3, szx_3, fkx_3, fwx_3, hBx_3⟩ := hRk_2.bk hik_2
  obtain ⟨-, -, -, -, hsax_3, hsbx_3⟩ := id hBx_3
  show W p l e R s m args below meth c H locs _ _ _ (F0 m 7 ls [.ref (qb ik_2)])
  refine lv_astore (lv' := [(4, .ref (qb ik_2)), (0, .ref h0), (1, .int (iN (p0))), (2, .int (iN (p1))), (3, .int (iN (p2)))]) hC.1 hC.2.1 dX3_putAbsent_7 hl (by decide) rfl (fun ls hl => ?_)
  refine lv_aload hC.1 hC.2.1 dX3_putAbsent_9 (lv_at hl 0 rfl) ?_
  refine lv_iload_n hC.1 hC.2.1 dX3_putAbsent_11 rfl (lv_at hl 3 rfl) ?_
  refine x_callV hC hw (lv_size hl) (c_X0_holds l G hBx_3 (p0 := p1) (by omega)) gX3_putAbsent_X0_holds rfl dv_X0_holds hBx_3.1 rfl rfl (Nat.le_of_ble_eq_true rfl) (by rw [hRf]; decide) (by rw [hRl]; decide) (by omega) (by omega) dX3_putAbsent_12 (fun r9 M_4 H locs hq hw => ?_)
  obtain ⟨z_5, rfl, hM9, hz_5⟩ := hq
  rw [hM9] at hw
  show W p l e R s m args below meth c H locs _ _ _ (F0 m 15 ls [.int (iN (z_5))])
  refine x_if_eq (tgt := 27) hC ⟨by omega, by omega⟩ dX3_putAbsent_15 (by decide) (fun c_6 => ?_) (fun c_6 => ?_)
  · refine lv_aload hC.1 hC.2.1 dX3_putAbsent_27 (lv_at hl 0 rfl) ?_
    refine lv_iload_n hC.1 hC.2.1 dX3_putAbsent_29 rfl (lv_at hl 3 rfl) ?_
    refine lv_iload_n hC.1 hC.2.1 dX3_putAbsent_30 rfl (lv_at hl 4 rfl) ?_
    refine x_callV hC hw (lv_size hl) (c_X0_enter l G hBx_3 (p0 := p1) (by omega) (p1 := p2) (by omega)) gX3_putAbsent_X0_enter rfl dv_X0_enter hBx_3.1 rfl rfl (Nat.le_of_ble_eq_true rfl) (by rw [hRf]; decide) (by rw [hRl]; decide) (by omega) (by omega) dX3_putAbsent_31 (fun r9 M_7 H locs hq hw => ?_)
    obtain ⟨z_9, rfl, hz_9, ou_8, tu_8, kcu_8, szu_8, fku_8, fvu_8, hBu_8, smu_8⟩ := hq
    obtain ⟨-, -, -, -, hsau_8, hsbu_8⟩ := id hBu_8
    have sm_10 := (xSm.rf (M := M_1) (b := (qb ik_2)) (k := (qk ik_2)) (v := (qv ik_2))).tr (smu_8)
    have h_11 := hRk_2.book hik_2 hBx_3 hBu_8 smu_8
    show W p l e R s m args below meth c H locs _ _ _ (F0 m 34 ls [.int (iN (z_9))])
    exact vx_ret (x_iret hC hw dX3_putAbsent_34 (by omega) (by omega) ⟨(iN (z_9)).toInt, by simp only [iN_asI], iN_rng _, ⟨_, _, _, _, _, _, _, _, _, _, h_11⟩⟩)
  · refine lv_aload hC.1 hC.2.1 dX3_putAbsent_18 (lv_at hl 0 rfl) ?_
    refine lv_iload_n hC.1 hC.2.1 dX3_putAbsent_20 rfl (lv_at hl 3 rfl) ?_
    refine x_callV hC hw (lv_size hl) (c_X0_valueOf l G hBx_3 (p0 := p1) (by omega)) gX3_putAbsent_X0_valueOf rfl dv_X0_valueOf hBx_3.1 rfl rfl (Nat.le_of_ble_eq_true rfl) (by rw [hRf]; decide) (by rw [hRl]; decide) (by omega) (by omega) dX3_putAbsent_21 (fun r9 M_12 H locs hq hw => ?_)
    obtain ⟨z_13, rfl, hM9, hz_13⟩ := hq
    rw [hM9] at hw
    show W p l e R s m args below meth c H locs _ _ _ (F0 m 24 ls [.int (iN (z_13))])
    refine lv_goto (tgt := 34) hC.1 hC.2.1 dX3_putAbsent_24 (by decide) ?_
    exact vx_ret (x_iret hC hw dX3_putAbsent_34 (by omega) (by omega) ⟨(iN (z_13)).toInt, by simp only [iN_asI], iN_rng _, ⟨_, _, _, _, _, _, _, _, _, _, hRk_2⟩⟩)
set_option maxHeartbeats 4000000 in
set_option maxRecDepth 100000 in
theorem c_X3_replace (l : Launch) (G : xG) {M : HM} (hst : l.stackTraces = false) {h0 bs vs : Nat} {og : Option Nat} {kk kv rf : Int32} {qb qk qv : Nat → Nat} {fb fv : Nat → Option Nat} (hR : RGx G M h0 bs vs og kk kv rf qb qk qv fb fv) {p0 : Int} (hp0 : -2147483648 ≤ p0 ∧ p0 ≤ 2147483647) {p1 : Int} (hp1 : -2147483648 ≤ p1 ∧ p1 ≤ 2147483647) {p2 : Int} (hp2 : -2147483648 ≤ p2 ∧ p2 ≤ 2147483647) : xMetX l G yX3_replace wsX3_replace 8 135 3 18 [.ref h0, .int (iN (p0)), .int (iN (p1)), .int (iN (p2))] M (fun r M1 => ∃ z : Int, r = some (.int (iN z)) ∧ (-2147483648 ≤ z ∧ z ≤ 2147483647) ∧ RG G M1 h0 rf) (fun E M1 => E ∈ [xIO, xIA] ∧ RG G M1 h0 rf) := by
  refine x_introX (cc := cX3_replace) (maxL := 5) (ret := (some .int)) (by decide +kernel) rfl (Nat.le_of_ble_eq_true rfl) ?_
  intro p e R s m args below meth c ls hRf hRc hRs hRl htab hC hw hl
  have hl : lv_has ls 5 [(0, .ref h0), (1, .int (iN (p0))), (2, .int (iN (p1))), (3, .int (iN (p2)))] := hl
  refine lv_aload_n hC.1 hC.2.1 dX3_replace_0 rfl (lv_at hl 0 rfl) ?_
  refine lv_iload_n hC.1 hC.2.1 dX3_replace_1 rfl (lv_at hl 1 rfl) ?_
  refine lv_iload_n hC.1 hC.2.1 dX3_replace_2 rfl (lv_at hl 2 rfl) ?_
  refine lv_iload_n hC.1 hC.2.1 dX3_replace_3 rfl (lv_at hl 3 rfl) ?_
  refine x_callVX hC hw (lv_size hl) (c_X3_bookToWritePair l G hst hR (p0 := p0) (by omega) (p1 := p1) (by omega) (p2 := p2) (by omega)) gX3_replace_X3_bookToWritePair rfl dv_X3_bookToWritePair hR.1 rfl rfl (Nat.le_of_ble_eq_true rfl) (by rw [hRf]; decide) (by rw [hRl]; decide) (by omega) (by omega) dX3_replace_4 (fun E ce q9 M_1 H locs hqx hw hcell hcv hcls => ?_) (fun r9 M_1 H locs hq hw => ?_)
  · exact x_outX hC hw htab hcell hcv hcls (by omega) (by omega) ⟨(show ∀ x ∈ [xIO, xIA], x ∈ [xIO, xIA] from by decide +kernel) E hqx.1, ⟨_, _, _, _, _, _, _, _, _, _, hqx.2⟩⟩
  obtain ⟨ik_2, hik_2, hpk_2, rfl, hRk_2, hkk_20, hkk_21⟩ := hq
  obtain ⟨nox_3, ox_3, tx_3, kcx_3, szx_3, fkx_3, fwx_3, hBx_3⟩ := hRk_2.bk hik_2
  obtain ⟨-, -, -, -, hsax_3, hsbx_3⟩ := id hBx_3
  show W p l e R s m args below meth c H locs _ _ _ (F0 m 7 ls [.ref (qb ik_2)])
  refine lv_astore (lv' := [(4, .ref (qb ik_2)), (0, .ref h0), (1, .int (iN (p0))), (2, .int (iN (p1))), (3, .int (iN (p2)))]) hC.1 hC.2.1 dX3_replace_7 hl (by decide) rfl (fun ls hl => ?_)
  refine lv_aload hC.1 hC.2.1 dX3_replace_9 (lv_at hl 0 rfl) ?_
  refine lv_iload_n hC.1 hC.2.1 dX3_replace_11 rfl (lv_at hl 3 rfl) ?_
  refine x_callV hC hw (lv_size hl) (c_X0_holds l G hBx_3 (p0 := p1) (by omega)) gX3_replace_X0_holds rfl dv_X0_holds hBx_3.1 rfl rfl (Nat.le_of_ble_eq_true rfl) (by rw [hRf]; decide) (by rw [hRl]; decide) (by omega) (by omega) dX3_replace_12 (fun r9 M_4 H locs hq hw => ?_)
  obtain ⟨z_5, rfl, hM9, hz_5⟩ := hq
  rw [hM9] at hw
  show W p l e R s m args below meth c H locs _ _ _ (F0 m 15 ls [.int (iN (z_5))])
  refine x_if_eq (tgt := 28) hC ⟨by omega, by omega⟩ dX3_replace_15 (by decide) (fun c_6 => ?_) (fun c_6 => ?_)
  · refine x_sipush hC dX3_replace_28 (by decide +kernel) ?_
    exact vx_ret (x_iret hC hw dX3_replace_31 (by omega) (by omega) ⟨(iN ((-10000))).toInt, by simp only [iN_asI], iN_rng _, ⟨_, _, _, _, _, _, _, _, _, _, hRk_2⟩⟩)
  · refine lv_aload hC.1 hC.2.1 dX3_replace_18 (lv_at hl 0 rfl) ?_
    refine lv_iload_n hC.1 hC.2.1 dX3_replace_20 rfl (lv_at hl 3 rfl) ?_
    refine lv_iload_n hC.1 hC.2.1 dX3_replace_21 rfl (lv_at hl 4 rfl) ?_
    refine x_callV hC hw (lv_size hl) (c_X0_enter l G hBx_3 (p0 := p1) (by omega) (p1 := p2) (by omega)) gX3_replace_X0_enter rfl dv_X0_enter hBx_3.1 rfl rfl (Nat.le_of_ble_eq_true rfl) (by rw [hRf]; decide) (by rw [hRl]; decide) (by omega) (by omega) dX3_replace_22 (fun r9 M_7 H locs hq hw => ?_)
    obtain ⟨z_9, rfl, hz_9, ou_8, tu_8, kcu_8, szu_8, fku_8, fvu_8, hBu_8, smu_8⟩ := hq
    obtain ⟨-, -, -, -, hsau_8, hsbu_8⟩ := id hBu_8
    have sm_10 := (xSm.rf (M := M_1) (b := (qb ik_2)) (k := (qk ik_2)) (v := (qv ik_2))).tr (smu_8)
    have h_11 := hRk_2.book hik_2 hBx_3 hBu_8 smu_8
    show W p l e R s m args below meth c H locs _ _ _ (F0 m 25 ls [.int (iN (z_9))])
    refine lv_goto (tgt := 31) hC.1 hC.2.1 dX3_replace_25 (by decide) ?_
    exact vx_ret (x_iret hC hw dX3_replace_31 (by omega) (by omega) ⟨(iN (z_9)).toInt, by simp only [iN_asI], iN_rng _, ⟨_, _, _, _, _, _, _, _, _, _, h_11⟩⟩)
set_option maxHeartbeats 4000000 in
set_option maxRecDepth 100000 in
theorem c_X3_swap (l : Launch) (G : xG) {M : HM} (hst : l.stackTraces = false) {h0 bs vs : Nat} {og : Option Nat} {kk kv rf : Int32} {qb qk qv : Nat → Nat} {fb fv : Nat → Option Nat} (hR : RGx G M h0 bs vs og kk kv rf qb qk qv fb fv) {p0 : Int} (hp0 : -2147483648 ≤ p0 ∧ p0 ≤ 2147483647) {p1 : Int} (hp1 : -2147483648 ≤ p1 ∧ p1 ≤ 2147483647) {p2 : Int} (hp2 : -2147483648 ≤ p2 ∧ p2 ≤ 2147483647) {p3 : Int} (hp3 : -2147483648 ≤ p3 ∧ p3 ≤ 2147483647) : xMetX l G yX3_swap wsX3_swap 7 111 4 24 [.ref h0, .int (iN (p0)), .int (iN (p1)), .int (iN (p2)), .int (iN (p3))] M (fun r M1 => ∃ z : Int, r = some (.int (iN z)) ∧ (z = 0 ∨ z = 1) ∧ RG G M1 h0 rf) (fun E M1 => E ∈ [xIO, xIA] ∧ RG G M1 h0 rf) := by
  refine x_introX (cc := cX3_swap) (maxL := 6) (ret := (some .boolean)) (by decide +kernel) rfl (Nat.le_of_ble_eq_true rfl) ?_
  intro p e R s m args below meth c ls hRf hRc hRs hRl htab hC hw hl
  have hl : lv_has ls 6 [(0, .ref h0), (1, .int (iN (p0))), (2, .int (iN (p1))), (3, .int (iN (p2))), (4, .int (iN (p3)))] := hl
  refine lv_aload_n hC.1 hC.2.1 dX3_swap_0 rfl (lv_at hl 0 rfl) ?_
  refine lv_iload_n hC.1 hC.2.1 dX3_swap_1 rfl (lv_at hl 1 rfl) ?_
  refine x_callVX hC hw (lv_size hl) (c_X3_bookAt l G hst hR (p0 := p0) (by omega)) gX3_swap_X3_bookAt rfl dv_X3_bookAt hR.1 rfl rfl (Nat.le_of_ble_eq_true rfl) (by rw [hRf]; decide) (by rw [hRl]; decide) (by omega) (by omega) dX3_swap_2 (fun E ce q9 M_1 H locs hqx hw hcell hcv hcls => ?_) (fun r9 M_1 H locs hq hw => ?_)
  · rw [hqx.2] at hw
    exact x_outX hC hw htab hcell hcv hcls (by omega) (by omega) ⟨(show ∀ x ∈ [xIO], x ∈ [xIO, xIA] from by decide +kernel) E hqx.1, ⟨_, _, _, _, _, _, _, _, _, _, hR⟩⟩
  obtain ⟨rfl, hM9, hk_2, hk_2b⟩ := hq
  rw [hM9] at hw
  have hik_2 : (p0).toNat < 3 := by omega
  obtain ⟨nox_3, ox_3, tx_3, kcx_3, szx_3, fkx_3, fwx_3, hBx_3⟩ := hR.bk hik_2
  obtain ⟨-, -, -, -, hsax_3, hsbx_3⟩ := id hBx_3
  show W p l e R s m args below meth c H locs _ _ _ (F0 m 5 ls [.ref (qb ((p0).toNat))])
  refine lv_astore (lv' := [(5, .ref (qb ((p0).toNat))), (0, .ref h0), (1, .int (iN (p0))), (2, .int (iN (p1))), (3, .int (iN (p2))), (4, .int (iN (p3)))]) hC.1 hC.2.1 dX3_swap_5 hl (by decide) rfl (fun ls hl => ?_)
  refine lv_iload_n hC.1 hC.2.1 dX3_swap_7 rfl (lv_at hl 3 rfl) ?_
  refine x_callSX hC hw (lv_size hl) (c_X3_checkKey l G (M := M) hst (p0 := p1) (by omega)) gX3_swap_X3_checkKey rfl dv_X3_checkKey_s rfl (Nat.le_of_ble_eq_true rfl) (by rw [hRf]; decide) (by rw [hRl]; decide) (by omega) (by omega) dX3_swap_8 (fun E ce q9 M_4 H locs hqx hw hcell hcv hcls => ?_) (fun r9 M_4 H locs hq hw => ?_)
  · rw [hqx.2] at hw
    exact x_outX hC hw htab hcell hcv hcls (by omega) (by omega) ⟨(show ∀ x ∈ [xIA], x ∈ [xIO, xIA] from by decide +kernel) E hqx.1, ⟨_, _, _, _, _, _, _, _, _, _, hR⟩⟩
  obtain ⟨rfl, hM9, hk_5⟩ := hq
  rw [hM9] at hw
  show W p l e R s m args below meth c H locs _ _ _ (F0 m 11 ls [])
  refine lv_iload_n hC.1 hC.2.1 dX3_swap_11 rfl (lv_at hl 4 rfl) ?_
  refine x_callSX hC hw (lv_size hl) (c_X3_checkValue l G (M := M) hst (p0 := p2) (by omega)) gX3_swap_X3_checkValue rfl dv_X3_checkValue_s rfl (Nat.le_of_ble_eq_true rfl) (by rw [hRf]; decide) (by rw [hRl]; decide) (by omega) (by omega) dX3_swap_12 (fun E ce q9 M_6 H locs hqx hw hcell hcv hcls => ?_) (fun r9 M_6 H locs hq hw => ?_)
  · rw [hqx.2] at hw
    exact x_outX hC hw htab hcell hcv hcls (by omega) (by omega) ⟨(show ∀ x ∈ [xIA], x ∈ [xIO, xIA] from by decide +kernel) E hqx.1, ⟨_, _, _, _, _, _, _, _, _, _, hR⟩⟩
  obtain ⟨rfl, hM9, hk_7⟩ := hq
  rw [hM9] at hw
  show W p l e R s m args below meth c H locs _ _ _ (F0 m 15 ls [])
  refine lv_iload hC.1 hC.2.1 dX3_swap_15 (lv_at hl 5 rfl) ?_
  refine x_callSX hC hw (lv_size hl) (c_X3_checkValue l G (M := M) hst (p0 := p3) (by omega)) gX3_swap_X3_checkValue rfl dv_X3_checkValue_s rfl (Nat.le_of_ble_eq_true rfl) (by rw [hRf]; decide) (by rw [hRl]; decide) (by omega) (by omega) dX3_swap_17 (fun E ce q9 M_8 H locs hqx hw hcell hcv hcls => ?_) (fun r9 M_8 H locs hq hw => ?_)
  · rw [hqx.2] at hw
    exact x_outX hC hw htab hcell hcv hcls (by omega) (by omega) ⟨(show ∀ x ∈ [xIA], x ∈ [xIO, xIA] from by decide +kernel) E hqx.1, ⟨_, _, _, _, _, _, _, _, _, _, hR⟩⟩
  obtain ⟨rfl, hM9, hk_9⟩ := hq
  rw [hM9] at hw
  show W p l e R s m args below meth c H locs _ _ _ (F0 m 20 ls [])
  refine lv_aload hC.1 hC.2.1 dX3_swap_20 (lv_at hl 0 rfl) ?_
  refine x_callV hC hw (lv_size hl) (c_X0_touch l G hBx_3) gX3_swap_X0_touch rfl dv_X0_touch hBx_3.1 rfl rfl (Nat.le_of_ble_eq_true rfl) (by rw [hRf]; decide) (by rw [hRl]; decide) (by omega) (by omega) dX3_swap_22 (fun r9 M_10 H locs hq hw => ?_)
  obtain ⟨rfl, ou_11, tu_11, kcu_11, szu_11, fku_11, fvu_11, hBu_11, smu_11⟩ := hq
  obtain ⟨-, -, -, -, hsau_11, hsbu_11⟩ := id hBu_11
  have sm_12 := (xSm.rf (M := M) (b := (qb ((p0).toNat))) (k := (qk ((p0).toNat))) (v := (qv ((p0).toNat)))).tr (smu_11)
  have h_13 := hR.book hik_2 hBx_3 hBu_11 smu_11
  show W p l e R s m args below meth c H locs _ _ _ (F0 m 25 ls [])
  refine lv_aload hC.1 hC.2.1 dX3_swap_25 (lv_at hl 0 rfl) ?_
  refine lv_iload_n hC.1 hC.2.1 dX3_swap_27 rfl (lv_at hl 3 rfl) ?_
  refine x_callV hC hw (lv_size hl) (c_X0_valueOf l G hBu_11 (p0 := p1) (by omega)) gX3_swap_X0_valueOf rfl dv_X0_valueOf hBu_11.1 rfl rfl (Nat.le_of_ble_eq_true rfl) (by rw [hRf]; decide) (by rw [hRl]; decide) (by omega) (by omega) dX3_swap_28 (fun r9 M_14 H locs hq hw => ?_)
  obtain ⟨z_15, rfl, hM9, hz_15⟩ := hq
  rw [hM9] at hw
  show W p l e R s m args below meth c H locs _ _ _ (F0 m 31 ls [.int (iN (z_15))])
  refine lv_iload_n hC.1 hC.2.1 dX3_swap_31 rfl (lv_at hl 4 rfl) ?_
  refine x_icmp_eq (tgt := 37) hC ⟨by omega, by omega⟩ ⟨by omega, by omega⟩ dX3_swap_32 (by decide) (fun c_16 => ?_) (fun c_16 => ?_)
  · refine lv_aload hC.1 hC.2.1 dX3_swap_37 (lv_at hl 0 rfl) ?_
    refine lv_iload_n hC.1 hC.2.1 dX3_swap_39 rfl (lv_at hl 3 rfl) ?_
    refine lv_iload hC.1 hC.2.1 dX3_swap_40 (lv_at hl 5 rfl) ?_
    refine x_callV hC hw (lv_size hl) (c_X0_enter l G hBu_11 (p0 := p1) (by omega) (p1 := p3) (by omega)) gX3_swap_X0_enter rfl dv_X0_enter hBu_11.1 rfl rfl (Nat.le_of_ble_eq_true rfl) (by rw [hRf]; decide) (by rw [hRl]; decide) (by omega) (by omega) dX3_swap_42 (fun r9 M_17 H locs hq hw => ?_)
    obtain ⟨z_19, rfl, hz_19, ou_18, tu_18, kcu_18, szu_18, fku_18, fvu_18, hBu_18, smu_18⟩ := hq
    obtain ⟨-, -, -, -, hsau_18, hsbu_18⟩ := id hBu_18
    have sm_20 := (sm_12).tr (smu_18)
    have h_21 := h_13.book hik_2 hBu_11 hBu_18 smu_18
    show W p l e R s m args below meth c H locs _ _ _ (F0 m 45 ls [.int (iN (z_19))])
    refine lv_pop hC.1 hC.2.1 dX3_swap_45 rfl ?_
    refine x_const hC dX3_swap_46 ?_
    exact vx_ret (x_zret hC hw (by omega) dX3_swap_47 (by omega) (by omega) ⟨1, rfl, by omega, ⟨_, _, _, _, _, _, _, _, _, _, h_21⟩⟩)
  · refine x_const hC dX3_swap_35 ?_
    exact vx_ret (x_zret hC hw (by omega) dX3_swap_36 (by omega) (by omega) ⟨0, rfl, by omega, ⟨_, _, _, _, _, _, _, _, _, _, h_13⟩⟩)
set_option maxHeartbeats 4000000 in
set_option maxRecDepth 100000 in
theorem c_X3_strike (l : Launch) (G : xG) {M : HM} (hst : l.stackTraces = false) {h0 bs vs : Nat} {og : Option Nat} {kk kv rf : Int32} {qb qk qv : Nat → Nat} {fb fv : Nat → Option Nat} (hR : RGx G M h0 bs vs og kk kv rf qb qk qv fb fv) {p0 : Int} (hp0 : -2147483648 ≤ p0 ∧ p0 ≤ 2147483647) {p1 : Int} (hp1 : -2147483648 ≤ p1 ∧ p1 ≤ 2147483647) : xMetX l G yX3_strike wsX3_strike 8 134 2 12 [.ref h0, .int (iN (p0)), .int (iN (p1))] M (fun r M1 => ∃ z : Int, r = some (.int (iN z)) ∧ (-2147483648 ≤ z ∧ z ≤ 2147483647) ∧ RG G M1 h0 rf) (fun E M1 => E ∈ [xIO, xIA] ∧ RG G M1 h0 rf) := by
  refine x_introX (cc := cX3_strike) (maxL := 3) (ret := (some .int)) (by decide +kernel) rfl (Nat.le_of_ble_eq_true rfl) ?_
  intro p e R s m args below meth c ls hRf hRc hRs hRl htab hC hw hl
  have hl : lv_has ls 3 [(0, .ref h0), (1, .int (iN (p0))), (2, .int (iN (p1)))] := hl
  refine lv_aload_n hC.1 hC.2.1 dX3_strike_0 rfl (lv_at hl 0 rfl) ?_
  refine lv_iload_n hC.1 hC.2.1 dX3_strike_1 rfl (lv_at hl 1 rfl) ?_
  refine lv_iload_n hC.1 hC.2.1 dX3_strike_2 rfl (lv_at hl 2 rfl) ?_
  refine x_callVX hC hw (lv_size hl) (c_X3_bookToWriteKey l G hst hR (p0 := p0) (by omega) (p1 := p1) (by omega)) gX3_strike_X3_bookToWriteKey rfl dv_X3_bookToWriteKey hR.1 rfl rfl (Nat.le_of_ble_eq_true rfl) (by rw [hRf]; decide) (by rw [hRl]; decide) (by omega) (by omega) dX3_strike_3 (fun E ce q9 M_1 H locs hqx hw hcell hcv hcls => ?_) (fun r9 M_1 H locs hq hw => ?_)
  · exact x_outX hC hw htab hcell hcv hcls (by omega) (by omega) ⟨(show ∀ x ∈ [xIO, xIA], x ∈ [xIO, xIA] from by decide +kernel) E hqx.1, ⟨_, _, _, _, _, _, _, _, _, _, hqx.2⟩⟩
  obtain ⟨ik_2, hik_2, hpk_2, rfl, hRk_2, hkk_20⟩ := hq
  obtain ⟨nox_3, ox_3, tx_3, kcx_3, szx_3, fkx_3, fwx_3, hBx_3⟩ := hRk_2.bk hik_2
  obtain ⟨-, -, -, -, hsax_3, hsbx_3⟩ := id hBx_3
  show W p l e R s m args below meth c H locs _ _ _ (F0 m 6 ls [.ref (qb ik_2)])
  refine lv_iload_n hC.1 hC.2.1 dX3_strike_6 rfl (lv_at hl 2 rfl) ?_
  refine x_callV hC hw (lv_size hl) (c_X0_removeKey l G hBx_3 (p0 := p1) (by omega)) gX3_strike_X0_removeKey rfl dv_X0_removeKey hBx_3.1 rfl rfl (Nat.le_of_ble_eq_true rfl) (by rw [hRf]; decide) (by rw [hRl]; decide) (by omega) (by omega) dX3_strike_7 (fun r9 M_4 H locs hq hw => ?_)
  obtain ⟨z_6, rfl, hz_6, ou_5, tu_5, kcu_5, szu_5, fku_5, fvu_5, hBu_5, smu_5⟩ := hq
  obtain ⟨-, -, -, -, hsau_5, hsbu_5⟩ := id hBu_5
  have sm_7 := (xSm.rf (M := M_1) (b := (qb ik_2)) (k := (qk ik_2)) (v := (qv ik_2))).tr (smu_5)
  have h_8 := hRk_2.book hik_2 hBx_3 hBu_5 smu_5
  show W p l e R s m args below meth c H locs _ _ _ (F0 m 10 ls [.int (iN (z_6))])
  exact vx_ret (x_iret hC hw dX3_strike_10 (by omega) (by omega) ⟨(iN (z_6)).toInt, by simp only [iN_asI], iN_rng _, ⟨_, _, _, _, _, _, _, _, _, _, h_8⟩⟩)
set_option maxHeartbeats 4000000 in
set_option maxRecDepth 100000 in
theorem c_X3_strikePair (l : Launch) (G : xG) {M : HM} (hst : l.stackTraces = false) {h0 bs vs : Nat} {og : Option Nat} {kk kv rf : Int32} {qb qk qv : Nat → Nat} {fb fv : Nat → Option Nat} (hR : RGx G M h0 bs vs og kk kv rf qb qk qv fb fv) {p0 : Int} (hp0 : -2147483648 ≤ p0 ∧ p0 ≤ 2147483647) {p1 : Int} (hp1 : -2147483648 ≤ p1 ∧ p1 ≤ 2147483647) {p2 : Int} (hp2 : -2147483648 ≤ p2 ∧ p2 ≤ 2147483647) : xMetX l G yX3_strikePair wsX3_strikePair 8 135 3 18 [.ref h0, .int (iN (p0)), .int (iN (p1)), .int (iN (p2))] M (fun r M1 => ∃ z : Int, r = some (.int (iN z)) ∧ (z = 0 ∨ z = 1) ∧ RG G M1 h0 rf) (fun E M1 => E ∈ [xIO, xIA] ∧ RG G M1 h0 rf) := by
  refine x_introX (cc := cX3_strikePair) (maxL := 5) (ret := (some .boolean)) (by decide +kernel) rfl (Nat.le_of_ble_eq_true rfl) ?_
  intro p e R s m args below meth c ls hRf hRc hRs hRl htab hC hw hl
  have hl : lv_has ls 5 [(0, .ref h0), (1, .int (iN (p0))), (2, .int (iN (p1))), (3, .int (iN (p2)))] := hl
  refine lv_aload_n hC.1 hC.2.1 dX3_strikePair_0 rfl (lv_at hl 0 rfl) ?_
  refine lv_iload_n hC.1 hC.2.1 dX3_strikePair_1 rfl (lv_at hl 1 rfl) ?_
  refine lv_iload_n hC.1 hC.2.1 dX3_strikePair_2 rfl (lv_at hl 2 rfl) ?_
  refine lv_iload_n hC.1 hC.2.1 dX3_strikePair_3 rfl (lv_at hl 3 rfl) ?_
  refine x_callVX hC hw (lv_size hl) (c_X3_bookToWritePair l G hst hR (p0 := p0) (by omega) (p1 := p1) (by omega) (p2 := p2) (by omega)) gX3_strikePair_X3_bookToWritePair rfl dv_X3_bookToWritePair hR.1 rfl rfl (Nat.le_of_ble_eq_true rfl) (by rw [hRf]; decide) (by rw [hRl]; decide) (by omega) (by omega) dX3_strikePair_4 (fun E ce q9 M_1 H locs hqx hw hcell hcv hcls => ?_) (fun r9 M_1 H locs hq hw => ?_)
  · exact x_outX hC hw htab hcell hcv hcls (by omega) (by omega) ⟨(show ∀ x ∈ [xIO, xIA], x ∈ [xIO, xIA] from by decide +kernel) E hqx.1, ⟨_, _, _, _, _, _, _, _, _, _, hqx.2⟩⟩
  obtain ⟨ik_2, hik_2, hpk_2, rfl, hRk_2, hkk_20, hkk_21⟩ := hq
  obtain ⟨nox_3, ox_3, tx_3, kcx_3, szx_3, fkx_3, fwx_3, hBx_3⟩ := hRk_2.bk hik_2
  obtain ⟨-, -, -, -, hsax_3, hsbx_3⟩ := id hBx_3
  show W p l e R s m args below meth c H locs _ _ _ (F0 m 7 ls [.ref (qb ik_2)])
  refine lv_astore (lv' := [(4, .ref (qb ik_2)), (0, .ref h0), (1, .int (iN (p0))), (2, .int (iN (p1))), (3, .int (iN (p2)))]) hC.1 hC.2.1 dX3_strikePair_7 hl (by decide) rfl (fun ls hl => ?_)
  refine lv_aload hC.1 hC.2.1 dX3_strikePair_9 (lv_at hl 0 rfl) ?_
  refine lv_iload_n hC.1 hC.2.1 dX3_strikePair_11 rfl (lv_at hl 3 rfl) ?_
  refine x_callV hC hw (lv_size hl) (c_X0_valueOf l G hBx_3 (p0 := p1) (by omega)) gX3_strikePair_X0_valueOf rfl dv_X0_valueOf hBx_3.1 rfl rfl (Nat.le_of_ble_eq_true rfl) (by rw [hRf]; decide) (by rw [hRl]; decide) (by omega) (by omega) dX3_strikePair_12 (fun r9 M_4 H locs hq hw => ?_)
  obtain ⟨z_5, rfl, hM9, hz_5⟩ := hq
  rw [hM9] at hw
  show W p l e R s m args below meth c H locs _ _ _ (F0 m 15 ls [.int (iN (z_5))])
  refine lv_iload_n hC.1 hC.2.1 dX3_strikePair_15 rfl (lv_at hl 4 rfl) ?_
  refine x_icmp_eq (tgt := 21) hC ⟨by omega, by omega⟩ ⟨by omega, by omega⟩ dX3_strikePair_16 (by decide) (fun c_6 => ?_) (fun c_6 => ?_)
  · refine lv_aload hC.1 hC.2.1 dX3_strikePair_21 (lv_at hl 0 rfl) ?_
    refine lv_iload_n hC.1 hC.2.1 dX3_strikePair_23 rfl (lv_at hl 3 rfl) ?_
    refine x_callV hC hw (lv_size hl) (c_X0_removeKey l G hBx_3 (p0 := p1) (by omega)) gX3_strikePair_X0_removeKey rfl dv_X0_removeKey hBx_3.1 rfl rfl (Nat.le_of_ble_eq_true rfl) (by rw [hRf]; decide) (by rw [hRl]; decide) (by omega) (by omega) dX3_strikePair_24 (fun r9 M_7 H locs hq hw => ?_)
    obtain ⟨z_9, rfl, hz_9, ou_8, tu_8, kcu_8, szu_8, fku_8, fvu_8, hBu_8, smu_8⟩ := hq
    obtain ⟨-, -, -, -, hsau_8, hsbu_8⟩ := id hBu_8
    have sm_10 := (xSm.rf (M := M_1) (b := (qb ik_2)) (k := (qk ik_2)) (v := (qv ik_2))).tr (smu_8)
    have h_11 := hRk_2.book hik_2 hBx_3 hBu_8 smu_8
    show W p l e R s m args below meth c H locs _ _ _ (F0 m 27 ls [.int (iN (z_9))])
    refine lv_pop hC.1 hC.2.1 dX3_strikePair_27 rfl ?_
    refine x_const hC dX3_strikePair_28 ?_
    exact vx_ret (x_zret hC hw (by omega) dX3_strikePair_29 (by omega) (by omega) ⟨1, rfl, by omega, ⟨_, _, _, _, _, _, _, _, _, _, h_11⟩⟩)
  · refine x_const hC dX3_strikePair_19 ?_
    exact vx_ret (x_zret hC hw (by omega) dX3_strikePair_20 (by omega) (by omega) ⟨0, rfl, by omega, ⟨_, _, _, _, _, _, _, _, _, _, hRk_2⟩⟩)
set_option maxHeartbeats 4000000 in
set_option maxRecDepth 100000 in
theorem c_X3_merge (l : Launch) (G : xG) {M : HM} (hst : l.stackTraces = false) {h0 bs vs : Nat} {og : Option Nat} {kk kv rf : Int32} {qb qk qv : Nat → Nat} {fb fv : Nat → Option Nat} (hR : RGx G M h0 bs vs og kk kv rf qb qk qv fb fv) {p0 : Int} (hp0 : -2147483648 ≤ p0 ∧ p0 ≤ 2147483647) {p1 : Int} (hp1 : -2147483648 ≤ p1 ∧ p1 ≤ 2147483647) {p2 : Int} (hp2 : -2147483648 ≤ p2 ∧ p2 ≤ 2147483647) : xMetX l G yX3_merge wsX3_merge 8 138 3 18 [.ref h0, .int (iN (p0)), .int (iN (p1)), .int (iN (p2))] M (fun r M1 => ∃ z : Int, r = some (.int (iN z)) ∧ (-2147483648 ≤ z ∧ z ≤ 2147483647) ∧ RG G M1 h0 rf) (fun E M1 => E ∈ [xIO, xIA] ∧ RG G M1 h0 rf) := by
  refine x_introX (cc := cX3_merge) (maxL := 4) (ret := (some .int)) (by decide +kernel) rfl (Nat.le_of_ble_eq_true rfl) ?_
  intro p e R s m args below meth c ls hRf hRc hRs hRl htab hC hw hl
  have hl : lv_has ls 4 [(0, .ref h0), (1, .int (iN (p0))), (2, .int (iN (p1))), (3, .int (iN (p2)))] := hl
  refine lv_aload_n hC.1 hC.2.1 dX3_merge_0 rfl (lv_at hl 0 rfl) ?_
  refine lv_iload_n hC.1 hC.2.1 dX3_merge_1 rfl (lv_at hl 1 rfl) ?_
  refine lv_iload_n hC.1 hC.2.1 dX3_merge_2 rfl (lv_at hl 2 rfl) ?_
  refine lv_iload_n hC.1 hC.2.1 dX3_merge_3 rfl (lv_at hl 3 rfl) ?_
  refine x_callVX hC hw (lv_size hl) (c_X3_bookToWritePair l G hst hR (p0 := p0) (by omega) (p1 := p1) (by omega) (p2 := p2) (by omega)) gX3_merge_X3_bookToWritePair rfl dv_X3_bookToWritePair hR.1 rfl rfl (Nat.le_of_ble_eq_true rfl) (by rw [hRf]; decide) (by rw [hRl]; decide) (by omega) (by omega) dX3_merge_4 (fun E ce q9 M_1 H locs hqx hw hcell hcv hcls => ?_) (fun r9 M_1 H locs hq hw => ?_)
  · exact x_outX hC hw htab hcell hcv hcls (by omega) (by omega) ⟨(show ∀ x ∈ [xIO, xIA], x ∈ [xIO, xIA] from by decide +kernel) E hqx.1, ⟨_, _, _, _, _, _, _, _, _, _, hqx.2⟩⟩
  obtain ⟨ik_2, hik_2, hpk_2, rfl, hRk_2, hkk_20, hkk_21⟩ := hq
  obtain ⟨nox_3, ox_3, tx_3, kcx_3, szx_3, fkx_3, fwx_3, hBx_3⟩ := hRk_2.bk hik_2
  obtain ⟨-, -, -, -, hsax_3, hsbx_3⟩ := id hBx_3
  show W p l e R s m args below meth c H locs _ _ _ (F0 m 7 ls [.ref (qb ik_2)])
  refine lv_iload_n hC.1 hC.2.1 dX3_merge_7 rfl (lv_at hl 2 rfl) ?_
  refine lv_iload_n hC.1 hC.2.1 dX3_merge_8 rfl (lv_at hl 3 rfl) ?_
  refine x_callV hC hw (lv_size hl) (c_X0_putTogether l G hBx_3 (p0 := p1) (by omega) (p1 := p2) (by omega)) gX3_merge_X0_putTogether rfl dv_X0_putTogether hBx_3.1 rfl rfl (Nat.le_of_ble_eq_true rfl) (by rw [hRf]; decide) (by rw [hRl]; decide) (by omega) (by omega) dX3_merge_9 (fun r9 M_4 H locs hq hw => ?_)
  obtain ⟨z_6, rfl, hz_6, ou_5, tu_5, kcu_5, szu_5, fku_5, fvu_5, hBu_5, smu_5⟩ := hq
  obtain ⟨-, -, -, -, hsau_5, hsbu_5⟩ := id hBu_5
  have sm_7 := (xSm.rf (M := M_1) (b := (qb ik_2)) (k := (qk ik_2)) (v := (qv ik_2))).tr (smu_5)
  have h_8 := hRk_2.book hik_2 hBx_3 hBu_5 smu_5
  show W p l e R s m args below meth c H locs _ _ _ (F0 m 12 ls [.int (iN (z_6))])
  exact vx_ret (x_iret hC hw dX3_merge_12 (by omega) (by omega) ⟨(iN (z_6)).toInt, by simp only [iN_asI], iN_rng _, ⟨_, _, _, _, _, _, _, _, _, _, h_8⟩⟩)
set_option maxHeartbeats 4000000 in
set_option maxRecDepth 100000 in
theorem c_X3_grow (l : Launch) (G : xG) {M : HM} (hst : l.stackTraces = false) {h0 bs vs : Nat} {og : Option Nat} {kk kv rf : Int32} {qb qk qv : Nat → Nat} {fb fv : Nat → Option Nat} (hR : RGx G M h0 bs vs og kk kv rf qb qk qv fb fv) {p0 : Int} (hp0 : -2147483648 ≤ p0 ∧ p0 ≤ 2147483647) {p1 : Int} (hp1 : -2147483648 ≤ p1 ∧ p1 ≤ 2147483647) : xMetX l G yX3_grow wsX3_grow 8 134 2 12 [.ref h0, .int (iN (p0)), .int (iN (p1))] M (fun r M1 => ∃ z : Int, r = some (.int (iN z)) ∧ (-2147483648 ≤ z ∧ z ≤ 2147483647) ∧ RG G M1 h0 rf) (fun E M1 => E ∈ [xIO, xIA] ∧ RG G M1 h0 rf) := by
  refine x_introX (cc := cX3_grow) (maxL := 3) (ret := (some .int)) (by decide +kernel) rfl (Nat.le_of_ble_eq_true rfl) ?_
  intro p e R s m args below meth c ls hRf hRc hRs hRl htab hC hw hl
  have hl : lv_has ls 3 [(0, .ref h0), (1, .int (iN (p0))), (2, .int (iN (p1)))] := hl
  refine lv_aload_n hC.1 hC.2.1 dX3_grow_0 rfl (lv_at hl 0 rfl) ?_
  refine lv_iload_n hC.1 hC.2.1 dX3_grow_1 rfl (lv_at hl 1 rfl) ?_
  refine lv_iload_n hC.1 hC.2.1 dX3_grow_2 rfl (lv_at hl 2 rfl) ?_
  refine x_callVX hC hw (lv_size hl) (c_X3_bookToWriteKey l G hst hR (p0 := p0) (by omega) (p1 := p1) (by omega)) gX3_grow_X3_bookToWriteKey rfl dv_X3_bookToWriteKey hR.1 rfl rfl (Nat.le_of_ble_eq_true rfl) (by rw [hRf]; decide) (by rw [hRl]; decide) (by omega) (by omega) dX3_grow_3 (fun E ce q9 M_1 H locs hqx hw hcell hcv hcls => ?_) (fun r9 M_1 H locs hq hw => ?_)
  · exact x_outX hC hw htab hcell hcv hcls (by omega) (by omega) ⟨(show ∀ x ∈ [xIO, xIA], x ∈ [xIO, xIA] from by decide +kernel) E hqx.1, ⟨_, _, _, _, _, _, _, _, _, _, hqx.2⟩⟩
  obtain ⟨ik_2, hik_2, hpk_2, rfl, hRk_2, hkk_20⟩ := hq
  obtain ⟨nox_3, ox_3, tx_3, kcx_3, szx_3, fkx_3, fwx_3, hBx_3⟩ := hRk_2.bk hik_2
  obtain ⟨-, -, -, -, hsax_3, hsbx_3⟩ := id hBx_3
  show W p l e R s m args below meth c H locs _ _ _ (F0 m 6 ls [.ref (qb ik_2)])
  refine lv_iload_n hC.1 hC.2.1 dX3_grow_6 rfl (lv_at hl 2 rfl) ?_
  refine x_callV hC hw (lv_size hl) (c_X0_growKey l G hBx_3 (p0 := p1) (by omega)) gX3_grow_X0_growKey rfl dv_X0_growKey hBx_3.1 rfl rfl (Nat.le_of_ble_eq_true rfl) (by rw [hRf]; decide) (by rw [hRl]; decide) (by omega) (by omega) dX3_grow_7 (fun r9 M_4 H locs hq hw => ?_)
  obtain ⟨z_6, rfl, hz_6, ou_5, tu_5, kcu_5, szu_5, fku_5, fvu_5, hBu_5, smu_5⟩ := hq
  obtain ⟨-, -, -, -, hsau_5, hsbu_5⟩ := id hBu_5
  have sm_7 := (xSm.rf (M := M_1) (b := (qb ik_2)) (k := (qk ik_2)) (v := (qv ik_2))).tr (smu_5)
  have h_8 := hRk_2.book hik_2 hBx_3 hBu_5 smu_5
  show W p l e R s m args below meth c H locs _ _ _ (F0 m 10 ls [.int (iN (z_6))])
  exact vx_ret (x_iret hC hw dX3_grow_10 (by omega) (by omega) ⟨(iN (z_6)).toInt, by simp only [iN_asI], iN_rng _, ⟨_, _, _, _, _, _, _, _, _, _, h_8⟩⟩)
set_option maxHeartbeats 4000000 in
set_option maxRecDepth 100000 in
theorem c_X3_halve (l : Launch) (G : xG) {M : HM} (hst : l.stackTraces = false) {h0 bs vs : Nat} {og : Option Nat} {kk kv rf : Int32} {qb qk qv : Nat → Nat} {fb fv : Nat → Option Nat} (hR : RGx G M h0 bs vs og kk kv rf qb qk qv fb fv) {p0 : Int} (hp0 : -2147483648 ≤ p0 ∧ p0 ≤ 2147483647) {p1 : Int} (hp1 : -2147483648 ≤ p1 ∧ p1 ≤ 2147483647) : xMetX l G yX3_halve wsX3_halve 8 136 2 12 [.ref h0, .int (iN (p0)), .int (iN (p1))] M (fun r M1 => ∃ z : Int, r = some (.int (iN z)) ∧ (-2147483648 ≤ z ∧ z ≤ 2147483647) ∧ RG G M1 h0 rf) (fun E M1 => E ∈ [xIO, xIA] ∧ RG G M1 h0 rf) := by
  refine x_introX (cc := cX3_halve) (maxL := 3) (ret := (some .int)) (by decide +kernel) rfl (Nat.le_of_ble_eq_true rfl) ?_
  intro p e R s m args below meth c ls hRf hRc hRs hRl htab hC hw hl
  have hl : lv_has ls 3 [(0, .ref h0), (1, .int (iN (p0))), (2, .int (iN (p1)))] := hl
  refine lv_aload_n hC.1 hC.2.1 dX3_halve_0 rfl (lv_at hl 0 rfl) ?_
  refine lv_iload_n hC.1 hC.2.1 dX3_halve_1 rfl (lv_at hl 1 rfl) ?_
  refine lv_iload_n hC.1 hC.2.1 dX3_halve_2 rfl (lv_at hl 2 rfl) ?_
  refine x_callVX hC hw (lv_size hl) (c_X3_bookToWriteKey l G hst hR (p0 := p0) (by omega) (p1 := p1) (by omega)) gX3_halve_X3_bookToWriteKey rfl dv_X3_bookToWriteKey hR.1 rfl rfl (Nat.le_of_ble_eq_true rfl) (by rw [hRf]; decide) (by rw [hRl]; decide) (by omega) (by omega) dX3_halve_3 (fun E ce q9 M_1 H locs hqx hw hcell hcv hcls => ?_) (fun r9 M_1 H locs hq hw => ?_)
  · exact x_outX hC hw htab hcell hcv hcls (by omega) (by omega) ⟨(show ∀ x ∈ [xIO, xIA], x ∈ [xIO, xIA] from by decide +kernel) E hqx.1, ⟨_, _, _, _, _, _, _, _, _, _, hqx.2⟩⟩
  obtain ⟨ik_2, hik_2, hpk_2, rfl, hRk_2, hkk_20⟩ := hq
  obtain ⟨nox_3, ox_3, tx_3, kcx_3, szx_3, fkx_3, fwx_3, hBx_3⟩ := hRk_2.bk hik_2
  obtain ⟨-, -, -, -, hsax_3, hsbx_3⟩ := id hBx_3
  show W p l e R s m args below meth c H locs _ _ _ (F0 m 6 ls [.ref (qb ik_2)])
  refine lv_iload_n hC.1 hC.2.1 dX3_halve_6 rfl (lv_at hl 2 rfl) ?_
  refine x_callV hC hw (lv_size hl) (c_X0_halveKey l G hBx_3 (p0 := p1) (by omega)) gX3_halve_X0_halveKey rfl dv_X0_halveKey hBx_3.1 rfl rfl (Nat.le_of_ble_eq_true rfl) (by rw [hRf]; decide) (by rw [hRl]; decide) (by omega) (by omega) dX3_halve_7 (fun r9 M_4 H locs hq hw => ?_)
  obtain ⟨z_6, rfl, hz_6, ou_5, tu_5, kcu_5, szu_5, fku_5, fvu_5, hBu_5, smu_5⟩ := hq
  obtain ⟨-, -, -, -, hsau_5, hsbu_5⟩ := id hBu_5
  have sm_7 := (xSm.rf (M := M_1) (b := (qb ik_2)) (k := (qk ik_2)) (v := (qv ik_2))).tr (smu_5)
  have h_8 := hRk_2.book hik_2 hBx_3 hBu_5 smu_5
  show W p l e R s m args below meth c H locs _ _ _ (F0 m 10 ls [.int (iN (z_6))])
  exact vx_ret (x_iret hC hw dX3_halve_10 (by omega) (by omega) ⟨(iN (z_6)).toInt, by simp only [iN_asI], iN_rng _, ⟨_, _, _, _, _, _, _, _, _, _, h_8⟩⟩)
set_option maxHeartbeats 4000000 in
set_option maxRecDepth 100000 in
theorem c_X3_twice (l : Launch) (G : xG) {M : HM} (hst : l.stackTraces = false) {h0 bs vs : Nat} {og : Option Nat} {kk kv rf : Int32} {qb qk qv : Nat → Nat} {fb fv : Nat → Option Nat} (hR : RGx G M h0 bs vs og kk kv rf qb qk qv fb fv) {p0 : Int} (hp0 : -2147483648 ≤ p0 ∧ p0 ≤ 2147483647) {p1 : Int} (hp1 : -2147483648 ≤ p1 ∧ p1 ≤ 2147483647) : xMetX l G yX3_twice wsX3_twice 8 134 2 12 [.ref h0, .int (iN (p0)), .int (iN (p1))] M (fun r M1 => ∃ z : Int, r = some (.int (iN z)) ∧ (-2147483648 ≤ z ∧ z ≤ 2147483647) ∧ RG G M1 h0 rf) (fun E M1 => E ∈ [xIO, xIA] ∧ RG G M1 h0 rf) := by
  refine x_introX (cc := cX3_twice) (maxL := 3) (ret := (some .int)) (by decide +kernel) rfl (Nat.le_of_ble_eq_true rfl) ?_
  intro p e R s m args below meth c ls hRf hRc hRs hRl htab hC hw hl
  have hl : lv_has ls 3 [(0, .ref h0), (1, .int (iN (p0))), (2, .int (iN (p1)))] := hl
  refine lv_aload_n hC.1 hC.2.1 dX3_twice_0 rfl (lv_at hl 0 rfl) ?_
  refine lv_iload_n hC.1 hC.2.1 dX3_twice_1 rfl (lv_at hl 1 rfl) ?_
  refine lv_iload_n hC.1 hC.2.1 dX3_twice_2 rfl (lv_at hl 2 rfl) ?_
  refine x_callVX hC hw (lv_size hl) (c_X3_bookToWriteKey l G hst hR (p0 := p0) (by omega) (p1 := p1) (by omega)) gX3_twice_X3_bookToWriteKey rfl dv_X3_bookToWriteKey hR.1 rfl rfl (Nat.le_of_ble_eq_true rfl) (by rw [hRf]; decide) (by rw [hRl]; decide) (by omega) (by omega) dX3_twice_3 (fun E ce q9 M_1 H locs hqx hw hcell hcv hcls => ?_) (fun r9 M_1 H locs hq hw => ?_)
  · exact x_outX hC hw htab hcell hcv hcls (by omega) (by omega) ⟨(show ∀ x ∈ [xIO, xIA], x ∈ [xIO, xIA] from by decide +kernel) E hqx.1, ⟨_, _, _, _, _, _, _, _, _, _, hqx.2⟩⟩
  obtain ⟨ik_2, hik_2, hpk_2, rfl, hRk_2, hkk_20⟩ := hq
  obtain ⟨nox_3, ox_3, tx_3, kcx_3, szx_3, fkx_3, fwx_3, hBx_3⟩ := hRk_2.bk hik_2
  obtain ⟨-, -, -, -, hsax_3, hsbx_3⟩ := id hBx_3
  show W p l e R s m args below meth c H locs _ _ _ (F0 m 6 ls [.ref (qb ik_2)])
  refine lv_iload_n hC.1 hC.2.1 dX3_twice_6 rfl (lv_at hl 2 rfl) ?_
  refine x_callV hC hw (lv_size hl) (c_X0_doubleKey l G hBx_3 (p0 := p1) (by omega)) gX3_twice_X0_doubleKey rfl dv_X0_doubleKey hBx_3.1 rfl rfl (Nat.le_of_ble_eq_true rfl) (by rw [hRf]; decide) (by rw [hRl]; decide) (by omega) (by omega) dX3_twice_7 (fun r9 M_4 H locs hq hw => ?_)
  obtain ⟨z_6, rfl, hz_6, ou_5, tu_5, kcu_5, szu_5, fku_5, fvu_5, hBu_5, smu_5⟩ := hq
  obtain ⟨-, -, -, -, hsau_5, hsbu_5⟩ := id hBu_5
  have sm_7 := (xSm.rf (M := M_1) (b := (qb ik_2)) (k := (qk ik_2)) (v := (qv ik_2))).tr (smu_5)
  have h_8 := hRk_2.book hik_2 hBx_3 hBu_5 smu_5
  show W p l e R s m args below meth c H locs _ _ _ (F0 m 10 ls [.int (iN (z_6))])
  exact vx_ret (x_iret hC hw dX3_twice_10 (by omega) (by omega) ⟨(iN (z_6)).toInt, by simp only [iN_asI], iN_rng _, ⟨_, _, _, _, _, _, _, _, _, _, h_8⟩⟩)
set_option maxHeartbeats 4000000 in
set_option maxRecDepth 100000 in
theorem c_X3_poll (l : Launch) (G : xG) {M : HM} (hst : l.stackTraces = false) {h0 bs vs : Nat} {og : Option Nat} {kk kv rf : Int32} {qb qk qv : Nat → Nat} {fb fv : Nat → Option Nat} (hR : RGx G M h0 bs vs og kk kv rf qb qk qv fb fv) {p0 : Int} (hp0 : -2147483648 ≤ p0 ∧ p0 ≤ 2147483647) {p1 : Int} (hp1 : -2147483648 ≤ p1 ∧ p1 ≤ 2147483647) (hb1 : p1 = 0 ∨ p1 = 1) : xMetX l G yX3_poll wsX3_poll 7 111 1 6 [.ref h0, .int (iN (p0)), .int (iN (p1))] M (fun r M1 => ∃ z : Int, r = some (.int (iN z)) ∧ (-2147483648 ≤ z ∧ z ≤ 2147483647) ∧ RG G M1 h0 rf) (fun E M1 => E ∈ [xIO] ∧ RG G M1 h0 rf) := by
  refine x_introX (cc := cX3_poll) (maxL := 4) (ret := (some .int)) (by decide +kernel) rfl (Nat.le_of_ble_eq_true rfl) ?_
  intro p e R s m args below meth c ls hRf hRc hRs hRl htab hC hw hl
  have hl : lv_has ls 4 [(0, .ref h0), (1, .int (iN (p0))), (2, .int (iN (p1)))] := hl
  refine lv_aload_n hC.1 hC.2.1 dX3_poll_0 rfl (lv_at hl 0 rfl) ?_
  refine lv_iload_n hC.1 hC.2.1 dX3_poll_1 rfl (lv_at hl 1 rfl) ?_
  refine x_callVX hC hw (lv_size hl) (c_X3_bookAt l G hst hR (p0 := p0) (by omega)) gX3_poll_X3_bookAt rfl dv_X3_bookAt hR.1 rfl rfl (Nat.le_of_ble_eq_true rfl) (by rw [hRf]; decide) (by rw [hRl]; decide) (by omega) (by omega) dX3_poll_2 (fun E ce q9 M_1 H locs hqx hw hcell hcv hcls => ?_) (fun r9 M_1 H locs hq hw => ?_)
  · rw [hqx.2] at hw
    exact x_outX hC hw htab hcell hcv hcls (by omega) (by omega) ⟨(show ∀ x ∈ [xIO], x ∈ [xIO] from by decide +kernel) E hqx.1, ⟨_, _, _, _, _, _, _, _, _, _, hR⟩⟩
  obtain ⟨rfl, hM9, hk_2, hk_2b⟩ := hq
  rw [hM9] at hw
  have hik_2 : (p0).toNat < 3 := by omega
  obtain ⟨nox_3, ox_3, tx_3, kcx_3, szx_3, fkx_3, fwx_3, hBx_3⟩ := hR.bk hik_2
  obtain ⟨-, -, -, -, hsax_3, hsbx_3⟩ := id hBx_3
  show W p l e R s m args below meth c H locs _ _ _ (F0 m 5 ls [.ref (qb ((p0).toNat))])
  refine lv_astore_n (lv' := [(3, .ref (qb ((p0).toNat))), (0, .ref h0), (1, .int (iN (p0))), (2, .int (iN (p1)))]) hC.1 hC.2.1 dX3_poll_5 rfl hl (by decide) rfl (fun ls hl => ?_)
  refine lv_aload_n hC.1 hC.2.1 dX3_poll_6 rfl (lv_at hl 0 rfl) ?_
  refine x_callV hC hw (lv_size hl) (c_X0_touch l G hBx_3) gX3_poll_X0_touch rfl dv_X0_touch hBx_3.1 rfl rfl (Nat.le_of_ble_eq_true rfl) (by rw [hRf]; decide) (by rw [hRl]; decide) (by omega) (by omega) dX3_poll_7 (fun r9 M_4 H locs hq hw => ?_)
  obtain ⟨rfl, ou_5, tu_5, kcu_5, szu_5, fku_5, fvu_5, hBu_5, smu_5⟩ := hq
  obtain ⟨-, -, -, -, hsau_5, hsbu_5⟩ := id hBu_5
  have sm_6 := (xSm.rf (M := M) (b := (qb ((p0).toNat))) (k := (qk ((p0).toNat))) (v := (qv ((p0).toNat)))).tr (smu_5)
  have h_7 := hR.book hik_2 hBx_3 hBu_5 smu_5
  show W p l e R s m args below meth c H locs _ _ _ (F0 m 10 ls [])
  refine lv_aload_n hC.1 hC.2.1 dX3_poll_10 rfl (lv_at hl 0 rfl) ?_
  refine lv_iload_n hC.1 hC.2.1 dX3_poll_11 rfl (lv_at hl 3 rfl) ?_
  refine x_if_eq (tgt := 24) hC ⟨by omega, by omega⟩ dX3_poll_12 (by decide) (fun c_8 => ?_) (fun c_8 => ?_)
  · refine x_const hC dX3_poll_24 ?_
    refine x_callV hC hw (lv_size hl) (c_X0_removeAt l G hBu_5 (p0 := 0) (by omega)) gX3_poll_X0_removeAt rfl dv_X0_removeAt hBu_5.1 rfl rfl (Nat.le_of_ble_eq_true rfl) (by rw [hRf]; decide) (by rw [hRl]; decide) (by omega) (by omega) dX3_poll_25 (fun r9 M_9 H locs hq hw => ?_)
    obtain ⟨z_11, rfl, hz_11, ou_10, tu_10, kcu_10, szu_10, fku_10, fvu_10, hBu_10, smu_10⟩ := hq
    obtain ⟨-, -, -, -, hsau_10, hsbu_10⟩ := id hBu_10
    have sm_12 := (sm_6).tr (smu_10)
    have h_13 := h_7.book hik_2 hBu_5 hBu_10 smu_10
    show W p l e R s m args below meth c H locs _ _ _ (F0 m 28 ls [.int (iN (z_11))])
    exact vx_ret (x_iret hC hw dX3_poll_28 (by omega) (by omega) ⟨(iN (z_11)).toInt, by simp only [iN_asI], iN_rng _, ⟨_, _, _, _, _, _, _, _, _, _, h_13⟩⟩)
  · refine lv_aload_n hC.1 hC.2.1 dX3_poll_15 rfl (lv_at hl 0 rfl) ?_
    refine x_callV hC hw (lv_size hl) (c_X0_size l G hBu_5) gX3_poll_X0_size rfl dv_X0_size hBu_5.1 rfl rfl (Nat.le_of_ble_eq_true rfl) (by rw [hRf]; decide) (by rw [hRl]; decide) (by omega) (by omega) dX3_poll_16 (fun r9 M_14 H locs hq hw => ?_)
    obtain ⟨rfl, hM9⟩ := hq
    rw [hM9] at hw
    show W p l e R s m args below meth c H locs _ _ _ (F0 m 19 ls [.int (iN (szu_5)), .ref (qb ((p0).toNat))])
    refine x_const hC dX3_poll_19 ?_
    refine x_isub hC dX3_poll_20 ?_
    refine lv_goto (tgt := 25) hC.1 hC.2.1 dX3_poll_21 (by decide) ?_
    refine x_callV hC hw (lv_size hl) (c_X0_removeAt l G hBu_5 (p0 := (szu_5 - 1)) (by omega)) gX3_poll_X0_removeAt rfl dv_X0_removeAt hBu_5.1 rfl rfl (Nat.le_of_ble_eq_true rfl) (by rw [hRf]; decide) (by rw [hRl]; decide) (by omega) (by omega) dX3_poll_25 (fun r9 M_15 H locs hq hw => ?_)
    obtain ⟨z_17, rfl, hz_17, ou_16, tu_16, kcu_16, szu_16, fku_16, fvu_16, hBu_16, smu_16⟩ := hq
    obtain ⟨-, -, -, -, hsau_16, hsbu_16⟩ := id hBu_16
    have sm_18 := (sm_6).tr (smu_16)
    have h_19 := h_7.book hik_2 hBu_5 hBu_16 smu_16
    show W p l e R s m args below meth c H locs _ _ _ (F0 m 28 ls [.int (iN (z_17))])
    exact vx_ret (x_iret hC hw dX3_poll_28 (by omega) (by omega) ⟨(iN (z_17)).toInt, by simp only [iN_asI], iN_rng _, ⟨_, _, _, _, _, _, _, _, _, _, h_19⟩⟩)
set_option maxHeartbeats 4000000 in
set_option maxRecDepth 100000 in
theorem c_X3_raise (l : Launch) (G : xG) {M : HM} (hst : l.stackTraces = false) {h0 bs vs : Nat} {og : Option Nat} {kk kv rf : Int32} {qb qk qv : Nat → Nat} {fb fv : Nat → Option Nat} (hR : RGx G M h0 bs vs og kk kv rf qb qk qv fb fv) {p0 : Int} (hp0 : -2147483648 ≤ p0 ∧ p0 ≤ 2147483647) {p1 : Int} (hp1 : -2147483648 ≤ p1 ∧ p1 ≤ 2147483647) : xMetX l G yX3_raise wsX3_raise 7 111 2 12 [.ref h0, .int (iN (p0)), .int (iN (p1))] M (fun r M1 => ∃ z : Int, r = some (.int (iN z)) ∧ (-2147483648 ≤ z ∧ z ≤ 2147483647) ∧ RG G M1 h0 rf) (fun E M1 => E ∈ [xIO, xIA] ∧ RG G M1 h0 rf) := by
  refine x_introX (cc := cX3_raise) (maxL := 4) (ret := (some .int)) (by decide +kernel) rfl (Nat.le_of_ble_eq_true rfl) ?_
  intro p e R s m args below meth c ls hRf hRc hRs hRl htab hC hw hl
  have hl : lv_has ls 4 [(0, .ref h0), (1, .int (iN (p0))), (2, .int (iN (p1)))] := hl
  refine lv_aload_n hC.1 hC.2.1 dX3_raise_0 rfl (lv_at hl 0 rfl) ?_
  refine lv_iload_n hC.1 hC.2.1 dX3_raise_1 rfl (lv_at hl 1 rfl) ?_
  refine x_callVX hC hw (lv_size hl) (c_X3_bookAt l G hst hR (p0 := p0) (by omega)) gX3_raise_X3_bookAt rfl dv_X3_bookAt hR.1 rfl rfl (Nat.le_of_ble_eq_true rfl) (by rw [hRf]; decide) (by rw [hRl]; decide) (by omega) (by omega) dX3_raise_2 (fun E ce q9 M_1 H locs hqx hw hcell hcv hcls => ?_) (fun r9 M_1 H locs hq hw => ?_)
  · rw [hqx.2] at hw
    exact x_outX hC hw htab hcell hcv hcls (by omega) (by omega) ⟨(show ∀ x ∈ [xIO], x ∈ [xIO, xIA] from by decide +kernel) E hqx.1, ⟨_, _, _, _, _, _, _, _, _, _, hR⟩⟩
  obtain ⟨rfl, hM9, hk_2, hk_2b⟩ := hq
  rw [hM9] at hw
  have hik_2 : (p0).toNat < 3 := by omega
  obtain ⟨nox_3, ox_3, tx_3, kcx_3, szx_3, fkx_3, fwx_3, hBx_3⟩ := hR.bk hik_2
  obtain ⟨-, -, -, -, hsax_3, hsbx_3⟩ := id hBx_3
  show W p l e R s m args below meth c H locs _ _ _ (F0 m 5 ls [.ref (qb ((p0).toNat))])
  refine lv_astore_n (lv' := [(3, .ref (qb ((p0).toNat))), (0, .ref h0), (1, .int (iN (p0))), (2, .int (iN (p1)))]) hC.1 hC.2.1 dX3_raise_5 rfl hl (by decide) rfl (fun ls hl => ?_)
  refine lv_iload_n hC.1 hC.2.1 dX3_raise_6 rfl (lv_at hl 3 rfl) ?_
  refine x_sipush hC dX3_raise_7 (by decide +kernel) ?_
  refine x_icmp_lt (tgt := 20) hC ⟨by omega, by omega⟩ ⟨by omega, by omega⟩ dX3_raise_10 (by decide) (fun c_4 => ?_) (fun c_4 => ?_)
  · exact x_throwS (cls := "java/lang/IllegalArgumentException") (text := "by is not -999 to 999") (names := ["java/lang/RuntimeException", "java/lang/Exception"]) hC hw hst htab (lv_size hl) (by decide +kernel) (by decide +kernel) (by decide +kernel) (by decide +kernel) (by decide +kernel) (by decide +kernel) (by decide +kernel) (xlit_Rangeledger_88) (by decide +kernel) dX3_raise_20 dX3_raise_23 dX3_raise_24 dX3_raise_26 dX3_raise_29 (by rw [hRf]; decide) (by rw [hRl]; exact Nat.le_of_ble_eq_true rfl) (by omega) (by omega) (by omega) (by omega) ⟨by decide +kernel, ⟨_, _, _, _, _, _, _, _, _, _, hR⟩⟩
  · refine lv_iload_n hC.1 hC.2.1 dX3_raise_13 rfl (lv_at hl 3 rfl) ?_
    refine x_sipush hC dX3_raise_14 (by decide +kernel) ?_
    refine x_icmp_le (tgt := 30) hC ⟨by omega, by omega⟩ ⟨by omega, by omega⟩ dX3_raise_17 (by decide) (fun c_5 => ?_) (fun c_5 => ?_)
    · refine lv_aload_n hC.1 hC.2.1 dX3_raise_30 rfl (lv_at hl 0 rfl) ?_
      refine x_callV hC hw (lv_size hl) (c_X0_touch l G hBx_3) gX3_raise_X0_touch rfl dv_X0_touch hBx_3.1 rfl rfl (Nat.le_of_ble_eq_true rfl) (by rw [hRf]; decide) (by rw [hRl]; decide) (by omega) (by omega) dX3_raise_31 (fun r9 M_6 H locs hq hw => ?_)
      obtain ⟨rfl, ou_7, tu_7, kcu_7, szu_7, fku_7, fvu_7, hBu_7, smu_7⟩ := hq
      obtain ⟨-, -, -, -, hsau_7, hsbu_7⟩ := id hBu_7
      have sm_8 := (xSm.rf (M := M) (b := (qb ((p0).toNat))) (k := (qk ((p0).toNat))) (v := (qv ((p0).toNat)))).tr (smu_7)
      have h_9 := hR.book hik_2 hBx_3 hBu_7 smu_7
      show W p l e R s m args below meth c H locs _ _ _ (F0 m 34 ls [])
      refine lv_aload_n hC.1 hC.2.1 dX3_raise_34 rfl (lv_at hl 0 rfl) ?_
      refine lv_iload_n hC.1 hC.2.1 dX3_raise_35 rfl (lv_at hl 3 rfl) ?_
      refine x_callV hC hw (lv_size hl) (c_X0_raiseAll l G hBu_7 (p0 := p1) (by omega)) gX3_raise_X0_raiseAll rfl dv_X0_raiseAll hBu_7.1 rfl rfl (Nat.le_of_ble_eq_true rfl) (by rw [hRf]; decide) (by rw [hRl]; decide) (by omega) (by omega) dX3_raise_36 (fun r9 M_10 H locs hq hw => ?_)
      obtain ⟨z_12, rfl, hz_12, ou_11, tu_11, kcu_11, szu_11, fku_11, fvu_11, hBu_11, smu_11⟩ := hq
      obtain ⟨-, -, -, -, hsau_11, hsbu_11⟩ := id hBu_11
      have sm_13 := (sm_8).tr (smu_11)
      have h_14 := h_9.book hik_2 hBu_7 hBu_11 smu_11
      show W p l e R s m args below meth c H locs _ _ _ (F0 m 39 ls [.int (iN (z_12))])
      exact vx_ret (x_iret hC hw dX3_raise_39 (by omega) (by omega) ⟨(iN (z_12)).toInt, by simp only [iN_asI], iN_rng _, ⟨_, _, _, _, _, _, _, _, _, _, h_14⟩⟩)
    · exact x_throwS (cls := "java/lang/IllegalArgumentException") (text := "by is not -999 to 999") (names := ["java/lang/RuntimeException", "java/lang/Exception"]) hC hw hst htab (lv_size hl) (by decide +kernel) (by decide +kernel) (by decide +kernel) (by decide +kernel) (by decide +kernel) (by decide +kernel) (by decide +kernel) (xlit_Rangeledger_88) (by decide +kernel) dX3_raise_20 dX3_raise_23 dX3_raise_24 dX3_raise_26 dX3_raise_29 (by rw [hRf]; decide) (by rw [hRl]; exact Nat.le_of_ble_eq_true rfl) (by omega) (by omega) (by omega) (by omega) ⟨by decide +kernel, ⟨_, _, _, _, _, _, _, _, _, _, hR⟩⟩
set_option maxHeartbeats 4000000 in
set_option maxRecDepth 100000 in
theorem c_X3_sift (l : Launch) (G : xG) {M : HM} (hst : l.stackTraces = false) {h0 bs vs : Nat} {og : Option Nat} {kk kv rf : Int32} {qb qk qv : Nat → Nat} {fb fv : Nat → Option Nat} (hR : RGx G M h0 bs vs og kk kv rf qb qk qv fb fv) {p0 : Int} (hp0 : -2147483648 ≤ p0 ∧ p0 ≤ 2147483647) {p1 : Int} (hp1 : -2147483648 ≤ p1 ∧ p1 ≤ 2147483647) : xMetX l G yX3_sift wsX3_sift 7 111 2 12 [.ref h0, .int (iN (p0)), .int (iN (p1))] M (fun r M1 => ∃ z : Int, r = some (.int (iN z)) ∧ (-2147483648 ≤ z ∧ z ≤ 2147483647) ∧ RG G M1 h0 rf) (fun E M1 => E ∈ [xIO, xIA] ∧ RG G M1 h0 rf) := by
  refine x_introX (cc := cX3_sift) (maxL := 4) (ret := (some .int)) (by decide +kernel) rfl (Nat.le_of_ble_eq_true rfl) ?_
  intro p e R s m args below meth c ls hRf hRc hRs hRl htab hC hw hl
  have hl : lv_has ls 4 [(0, .ref h0), (1, .int (iN (p0))), (2, .int (iN (p1)))] := hl
  refine lv_aload_n hC.1 hC.2.1 dX3_sift_0 rfl (lv_at hl 0 rfl) ?_
  refine lv_iload_n hC.1 hC.2.1 dX3_sift_1 rfl (lv_at hl 1 rfl) ?_
  refine x_callVX hC hw (lv_size hl) (c_X3_bookAt l G hst hR (p0 := p0) (by omega)) gX3_sift_X3_bookAt rfl dv_X3_bookAt hR.1 rfl rfl (Nat.le_of_ble_eq_true rfl) (by rw [hRf]; decide) (by rw [hRl]; decide) (by omega) (by omega) dX3_sift_2 (fun E ce q9 M_1 H locs hqx hw hcell hcv hcls => ?_) (fun r9 M_1 H locs hq hw => ?_)
  · rw [hqx.2] at hw
    exact x_outX hC hw htab hcell hcv hcls (by omega) (by omega) ⟨(show ∀ x ∈ [xIO], x ∈ [xIO, xIA] from by decide +kernel) E hqx.1, ⟨_, _, _, _, _, _, _, _, _, _, hR⟩⟩
  obtain ⟨rfl, hM9, hk_2, hk_2b⟩ := hq
  rw [hM9] at hw
  have hik_2 : (p0).toNat < 3 := by omega
  obtain ⟨nox_3, ox_3, tx_3, kcx_3, szx_3, fkx_3, fwx_3, hBx_3⟩ := hR.bk hik_2
  obtain ⟨-, -, -, -, hsax_3, hsbx_3⟩ := id hBx_3
  show W p l e R s m args below meth c H locs _ _ _ (F0 m 5 ls [.ref (qb ((p0).toNat))])
  refine lv_astore_n (lv' := [(3, .ref (qb ((p0).toNat))), (0, .ref h0), (1, .int (iN (p0))), (2, .int (iN (p1)))]) hC.1 hC.2.1 dX3_sift_5 rfl hl (by decide) rfl (fun ls hl => ?_)
  refine lv_iload_n hC.1 hC.2.1 dX3_sift_6 rfl (lv_at hl 3 rfl) ?_
  refine x_const hC dX3_sift_7 ?_
  refine x_icmp_lt (tgt := 17) hC ⟨by omega, by omega⟩ ⟨by omega, by omega⟩ dX3_sift_8 (by decide) (fun c_4 => ?_) (fun c_4 => ?_)
  · exact x_throwS (cls := "java/lang/IllegalArgumentException") (text := "by is not 2 to 99") (names := ["java/lang/RuntimeException", "java/lang/Exception"]) hC hw hst htab (lv_size hl) (by decide +kernel) (by decide +kernel) (by decide +kernel) (by decide +kernel) (by decide +kernel) (by decide +kernel) (by decide +kernel) (xlit_Rangeledger_96) (by decide +kernel) dX3_sift_17 dX3_sift_20 dX3_sift_21 dX3_sift_23 dX3_sift_26 (by rw [hRf]; decide) (by rw [hRl]; exact Nat.le_of_ble_eq_true rfl) (by omega) (by omega) (by omega) (by omega) ⟨by decide +kernel, ⟨_, _, _, _, _, _, _, _, _, _, hR⟩⟩
  · refine lv_iload_n hC.1 hC.2.1 dX3_sift_11 rfl (lv_at hl 3 rfl) ?_
    refine x_bipush hC dX3_sift_12 (by decide +kernel) ?_
    refine x_icmp_le (tgt := 27) hC ⟨by omega, by omega⟩ ⟨by omega, by omega⟩ dX3_sift_14 (by decide) (fun c_5 => ?_) (fun c_5 => ?_)
    · refine lv_aload_n hC.1 hC.2.1 dX3_sift_27 rfl (lv_at hl 0 rfl) ?_
      refine x_callV hC hw (lv_size hl) (c_X0_touch l G hBx_3) gX3_sift_X0_touch rfl dv_X0_touch hBx_3.1 rfl rfl (Nat.le_of_ble_eq_true rfl) (by rw [hRf]; decide) (by rw [hRl]; decide) (by omega) (by omega) dX3_sift_28 (fun r9 M_6 H locs hq hw => ?_)
      obtain ⟨rfl, ou_7, tu_7, kcu_7, szu_7, fku_7, fvu_7, hBu_7, smu_7⟩ := hq
      obtain ⟨-, -, -, -, hsau_7, hsbu_7⟩ := id hBu_7
      have sm_8 := (xSm.rf (M := M) (b := (qb ((p0).toNat))) (k := (qk ((p0).toNat))) (v := (qv ((p0).toNat)))).tr (smu_7)
      have h_9 := hR.book hik_2 hBx_3 hBu_7 smu_7
      show W p l e R s m args below meth c H locs _ _ _ (F0 m 31 ls [])
      refine lv_aload_n hC.1 hC.2.1 dX3_sift_31 rfl (lv_at hl 0 rfl) ?_
      refine lv_iload_n hC.1 hC.2.1 dX3_sift_32 rfl (lv_at hl 3 rfl) ?_
      refine x_callV hC hw (lv_size hl) (c_X0_removeMultiples l G hBu_7 (p0 := p1) (by omega) (by omega)) gX3_sift_X0_removeMultiples rfl dv_X0_removeMultiples hBu_7.1 rfl rfl (Nat.le_of_ble_eq_true rfl) (by rw [hRf]; decide) (by rw [hRl]; decide) (by omega) (by omega) dX3_sift_33 (fun r9 M_10 H locs hq hw => ?_)
      obtain ⟨z_12, rfl, hz_12, ou_11, tu_11, kcu_11, szu_11, fku_11, fvu_11, hBu_11, smu_11⟩ := hq
      obtain ⟨-, -, -, -, hsau_11, hsbu_11⟩ := id hBu_11
      have sm_13 := (sm_8).tr (smu_11)
      have h_14 := h_9.book hik_2 hBu_7 hBu_11 smu_11
      show W p l e R s m args below meth c H locs _ _ _ (F0 m 36 ls [.int (iN (z_12))])
      exact vx_ret (x_iret hC hw dX3_sift_36 (by omega) (by omega) ⟨(iN (z_12)).toInt, by simp only [iN_asI], iN_rng _, ⟨_, _, _, _, _, _, _, _, _, _, h_14⟩⟩)
    · exact x_throwS (cls := "java/lang/IllegalArgumentException") (text := "by is not 2 to 99") (names := ["java/lang/RuntimeException", "java/lang/Exception"]) hC hw hst htab (lv_size hl) (by decide +kernel) (by decide +kernel) (by decide +kernel) (by decide +kernel) (by decide +kernel) (by decide +kernel) (by decide +kernel) (xlit_Rangeledger_96) (by decide +kernel) dX3_sift_17 dX3_sift_20 dX3_sift_21 dX3_sift_23 dX3_sift_26 (by rw [hRf]; decide) (by rw [hRl]; exact Nat.le_of_ble_eq_true rfl) (by omega) (by omega) (by omega) (by omega) ⟨by decide +kernel, ⟨_, _, _, _, _, _, _, _, _, _, hR⟩⟩
set_option maxHeartbeats 4000000 in
set_option maxRecDepth 100000 in
theorem c_X3_strikeValue (l : Launch) (G : xG) {M : HM} (hst : l.stackTraces = false) {h0 bs vs : Nat} {og : Option Nat} {kk kv rf : Int32} {qb qk qv : Nat → Nat} {fb fv : Nat → Option Nat} (hR : RGx G M h0 bs vs og kk kv rf qb qk qv fb fv) {p0 : Int} (hp0 : -2147483648 ≤ p0 ∧ p0 ≤ 2147483647) {p1 : Int} (hp1 : -2147483648 ≤ p1 ∧ p1 ≤ 2147483647) : xMetX l G yX3_strikeValue wsX3_strikeValue 7 111 3 18 [.ref h0, .int (iN (p0)), .int (iN (p1))] M (fun r M1 => ∃ z : Int, r = some (.int (iN z)) ∧ (z = 0 ∨ z = 1) ∧ RG G M1 h0 rf) (fun E M1 => E ∈ [xIO, xIA, xIS] ∧ RG G M1 h0 rf) := by
  refine x_introX (cc := cX3_strikeValue) (maxL := 5) (ret := (some .boolean)) (by decide +kernel) rfl (Nat.le_of_ble_eq_true rfl) ?_
  intro p e R s m args below meth c ls hRf hRc hRs hRl htab hC hw hl
  have hl : lv_has ls 5 [(0, .ref h0), (1, .int (iN (p0))), (2, .int (iN (p1)))] := hl
  refine lv_aload_n hC.1 hC.2.1 dX3_strikeValue_0 rfl (lv_at hl 0 rfl) ?_
  refine lv_iload_n hC.1 hC.2.1 dX3_strikeValue_1 rfl (lv_at hl 1 rfl) ?_
  refine x_callVX hC hw (lv_size hl) (c_X3_bookAt l G hst hR (p0 := p0) (by omega)) gX3_strikeValue_X3_bookAt rfl dv_X3_bookAt hR.1 rfl rfl (Nat.le_of_ble_eq_true rfl) (by rw [hRf]; decide) (by rw [hRl]; decide) (by omega) (by omega) dX3_strikeValue_2 (fun E ce q9 M_1 H locs hqx hw hcell hcv hcls => ?_) (fun r9 M_1 H locs hq hw => ?_)
  · rw [hqx.2] at hw
    exact x_outX hC hw htab hcell hcv hcls (by omega) (by omega) ⟨(show ∀ x ∈ [xIO], x ∈ [xIO, xIA, xIS] from by decide +kernel) E hqx.1, ⟨_, _, _, _, _, _, _, _, _, _, hR⟩⟩
  obtain ⟨rfl, hM9, hk_2, hk_2b⟩ := hq
  rw [hM9] at hw
  have hik_2 : (p0).toNat < 3 := by omega
  obtain ⟨nox_3, ox_3, tx_3, kcx_3, szx_3, fkx_3, fwx_3, hBx_3⟩ := hR.bk hik_2
  obtain ⟨-, -, -, -, hsax_3, hsbx_3⟩ := id hBx_3
  show W p l e R s m args below meth c H locs _ _ _ (F0 m 5 ls [.ref (qb ((p0).toNat))])
  refine lv_astore_n (lv' := [(3, .ref (qb ((p0).toNat))), (0, .ref h0), (1, .int (iN (p0))), (2, .int (iN (p1)))]) hC.1 hC.2.1 dX3_strikeValue_5 rfl hl (by decide) rfl (fun ls hl => ?_)
  refine lv_iload_n hC.1 hC.2.1 dX3_strikeValue_6 rfl (lv_at hl 3 rfl) ?_
  refine x_callSX hC hw (lv_size hl) (c_X3_checkValue l G (M := M) hst (p0 := p1) (by omega)) gX3_strikeValue_X3_checkValue rfl dv_X3_checkValue_s rfl (Nat.le_of_ble_eq_true rfl) (by rw [hRf]; decide) (by rw [hRl]; decide) (by omega) (by omega) dX3_strikeValue_7 (fun E ce q9 M_4 H locs hqx hw hcell hcv hcls => ?_) (fun r9 M_4 H locs hq hw => ?_)
  · rw [hqx.2] at hw
    exact x_outX hC hw htab hcell hcv hcls (by omega) (by omega) ⟨(show ∀ x ∈ [xIA], x ∈ [xIO, xIA, xIS] from by decide +kernel) E hqx.1, ⟨_, _, _, _, _, _, _, _, _, _, hR⟩⟩
  obtain ⟨rfl, hM9, hk_5⟩ := hq
  rw [hM9] at hw
  show W p l e R s m args below meth c H locs _ _ _ (F0 m 10 ls [])
  refine lv_aload_n hC.1 hC.2.1 dX3_strikeValue_10 rfl (lv_at hl 0 rfl) ?_
  refine lv_iload_n hC.1 hC.2.1 dX3_strikeValue_11 rfl (lv_at hl 3 rfl) ?_
  refine x_callV hC hw (lv_size hl) (c_X0_countOfValue l G hBx_3 (p0 := p1) (by omega)) gX3_strikeValue_X0_countOfValue rfl dv_X0_countOfValue hBx_3.1 rfl rfl (Nat.le_of_ble_eq_true rfl) (by rw [hRf]; decide) (by rw [hRl]; decide) (by omega) (by omega) dX3_strikeValue_12 (fun r9 M_6 H locs hq hw => ?_)
  obtain ⟨z_7, rfl, hM9, hz_7a, hz_7b⟩ := hq
  rw [hM9] at hw
  show W p l e R s m args below meth c H locs _ _ _ (F0 m 15 ls [.int (iN (z_7))])
  refine lv_istore (lv' := [(4, .int (iN (z_7))), (3, .ref (qb ((p0).toNat))), (0, .ref h0), (1, .int (iN (p0))), (2, .int (iN (p1)))]) hC.1 hC.2.1 dX3_strikeValue_15 hl (by decide) rfl (fun ls hl => ?_)
  refine lv_iload hC.1 hC.2.1 dX3_strikeValue_17 (lv_at hl 0 rfl) ?_
  refine x_const hC dX3_strikeValue_19 ?_
  refine x_icmp_le (tgt := 33) hC ⟨by omega, by omega⟩ ⟨by omega, by omega⟩ dX3_strikeValue_20 (by decide) (fun c_8 => ?_) (fun c_8 => ?_)
  · refine lv_aload_n hC.1 hC.2.1 dX3_strikeValue_33 rfl (lv_at hl 1 rfl) ?_
    refine x_callV hC hw (lv_size hl) (c_X0_touch l G hBx_3) gX3_strikeValue_X0_touch rfl dv_X0_touch hBx_3.1 rfl rfl (Nat.le_of_ble_eq_true rfl) (by rw [hRf]; decide) (by rw [hRl]; decide) (by omega) (by omega) dX3_strikeValue_34 (fun r9 M_9 H locs hq hw => ?_)
    obtain ⟨rfl, ou_10, tu_10, kcu_10, szu_10, fku_10, fvu_10, hBu_10, smu_10⟩ := hq
    obtain ⟨-, -, -, -, hsau_10, hsbu_10⟩ := id hBu_10
    have sm_11 := (xSm.rf (M := M) (b := (qb ((p0).toNat))) (k := (qk ((p0).toNat))) (v := (qv ((p0).toNat)))).tr (smu_10)
    have h_12 := hR.book hik_2 hBx_3 hBu_10 smu_10
    show W p l e R s m args below meth c H locs _ _ _ (F0 m 37 ls [])
    refine lv_iload hC.1 hC.2.1 dX3_strikeValue_37 (lv_at hl 0 rfl) ?_
    refine x_if_ne (tgt := 44) hC ⟨by omega, by omega⟩ dX3_strikeValue_39 (by decide) (fun c_13 => ?_) (fun c_13 => ?_)
    · refine lv_aload_n hC.1 hC.2.1 dX3_strikeValue_44 rfl (lv_at hl 1 rfl) ?_
      refine lv_aload_n hC.1 hC.2.1 dX3_strikeValue_45 rfl (lv_at hl 1 rfl) ?_
      refine lv_iload_n hC.1 hC.2.1 dX3_strikeValue_46 rfl (lv_at hl 4 rfl) ?_
      refine x_callV hC hw (lv_size hl) (c_X0_firstPlaceOfValue l G hBu_10 (p0 := p1) (by omega)) gX3_strikeValue_X0_firstPlaceOfValue rfl dv_X0_firstPlaceOfValue hBu_10.1 rfl rfl (Nat.le_of_ble_eq_true rfl) (by rw [hRf]; decide) (by rw [hRl]; decide) (by omega) (by omega) dX3_strikeValue_47 (fun r9 M_14 H locs hq hw => ?_)
      obtain ⟨z_15, rfl, hM9, hz_15⟩ := hq
      rw [hM9] at hw
      show W p l e R s m args below meth c H locs _ _ _ (F0 m 50 ls [.int (iN (z_15)), .ref (qb ((p0).toNat))])
      refine x_callV hC hw (lv_size hl) (c_X0_removeAt l G hBu_10 (p0 := z_15) (by omega)) gX3_strikeValue_X0_removeAt rfl dv_X0_removeAt hBu_10.1 rfl rfl (Nat.le_of_ble_eq_true rfl) (by rw [hRf]; decide) (by rw [hRl]; decide) (by omega) (by omega) dX3_strikeValue_50 (fun r9 M_16 H locs hq hw => ?_)
      obtain ⟨z_18, rfl, hz_18, ou_17, tu_17, kcu_17, szu_17, fku_17, fvu_17, hBu_17, smu_17⟩ := hq
      obtain ⟨-, -, -, -, hsau_17, hsbu_17⟩ := id hBu_17
      have sm_19 := (sm_11).tr (smu_17)
      have h_20 := h_12.book hik_2 hBu_10 hBu_17 smu_17
      show W p l e R s m args below meth c H locs _ _ _ (F0 m 53 ls [.int (iN (z_18))])
      refine lv_pop hC.1 hC.2.1 dX3_strikeValue_53 rfl ?_
      refine x_const hC dX3_strikeValue_54 ?_
      exact vx_ret (x_zret hC hw (by omega) dX3_strikeValue_55 (by omega) (by omega) ⟨1, rfl, by omega, ⟨_, _, _, _, _, _, _, _, _, _, h_20⟩⟩)
    · refine x_const hC dX3_strikeValue_42 ?_
      exact vx_ret (x_zret hC hw (by omega) dX3_strikeValue_43 (by omega) (by omega) ⟨0, rfl, by omega, ⟨_, _, _, _, _, _, _, _, _, _, h_12⟩⟩)
  · exact x_throwS (cls := "java/lang/IllegalStateException") (text := "several keys have the value") (names := ["java/lang/RuntimeException", "java/lang/Exception"]) hC hw hst htab (lv_size hl) (by decide +kernel) (by decide +kernel) (by decide +kernel) (by decide +kernel) (by decide +kernel) (by decide +kernel) (by decide +kernel) (xlit_Rangeledger_106) (by decide +kernel) dX3_strikeValue_23 dX3_strikeValue_26 dX3_strikeValue_27 dX3_strikeValue_29 dX3_strikeValue_32 (by rw [hRf]; decide) (by rw [hRl]; exact Nat.le_of_ble_eq_true rfl) (by omega) (by omega) (by omega) (by omega) ⟨by decide +kernel, ⟨_, _, _, _, _, _, _, _, _, _, hR⟩⟩
set_option maxHeartbeats 4000000 in
set_option maxRecDepth 100000 in
theorem c_X3_clear (l : Launch) (G : xG) {M : HM} (hst : l.stackTraces = false) {h0 bs vs : Nat} {og : Option Nat} {kk kv rf : Int32} {qb qk qv : Nat → Nat} {fb fv : Nat → Option Nat} (hR : RGx G M h0 bs vs og kk kv rf qb qk qv fb fv) {p0 : Int} (hp0 : -2147483648 ≤ p0 ∧ p0 ≤ 2147483647) : xMetX l G yX3_clear wsX3_clear 7 111 1 6 [.ref h0, .int (iN (p0))] M (fun r M1 => ∃ z : Int, r = some (.int (iN z)) ∧ (-2147483648 ≤ z ∧ z ≤ 2147483647) ∧ RG G M1 h0 rf) (fun E M1 => E ∈ [xIO] ∧ RG G M1 h0 rf) := by
  refine x_introX (cc := cX3_clear) (maxL := 3) (ret := (some .int)) (by decide +kernel) rfl (Nat.le_of_ble_eq_true rfl) ?_
  intro p e R s m args below meth c ls hRf hRc hRs hRl htab hC hw hl
  have hl : lv_has ls 3 [(0, .ref h0), (1, .int (iN (p0)))] := hl
  refine lv_aload_n hC.1 hC.2.1 dX3_clear_0 rfl (lv_at hl 0 rfl) ?_
  refine lv_iload_n hC.1 hC.2.1 dX3_clear_1 rfl (lv_at hl 1 rfl) ?_
  refine x_callVX hC hw (lv_size hl) (c_X3_bookAt l G hst hR (p0 := p0) (by omega)) gX3_clear_X3_bookAt rfl dv_X3_bookAt hR.1 rfl rfl (Nat.le_of_ble_eq_true rfl) (by rw [hRf]; decide) (by rw [hRl]; decide) (by omega) (by omega) dX3_clear_2 (fun E ce q9 M_1 H locs hqx hw hcell hcv hcls => ?_) (fun r9 M_1 H locs hq hw => ?_)
  · rw [hqx.2] at hw
    exact x_outX hC hw htab hcell hcv hcls (by omega) (by omega) ⟨(show ∀ x ∈ [xIO], x ∈ [xIO] from by decide +kernel) E hqx.1, ⟨_, _, _, _, _, _, _, _, _, _, hR⟩⟩
  obtain ⟨rfl, hM9, hk_2, hk_2b⟩ := hq
  rw [hM9] at hw
  have hik_2 : (p0).toNat < 3 := by omega
  obtain ⟨nox_3, ox_3, tx_3, kcx_3, szx_3, fkx_3, fwx_3, hBx_3⟩ := hR.bk hik_2
  obtain ⟨-, -, -, -, hsax_3, hsbx_3⟩ := id hBx_3
  show W p l e R s m args below meth c H locs _ _ _ (F0 m 5 ls [.ref (qb ((p0).toNat))])
  refine lv_astore_n (lv' := [(2, .ref (qb ((p0).toNat))), (0, .ref h0), (1, .int (iN (p0)))]) hC.1 hC.2.1 dX3_clear_5 rfl hl (by decide) rfl (fun ls hl => ?_)
  refine lv_aload_n hC.1 hC.2.1 dX3_clear_6 rfl (lv_at hl 0 rfl) ?_
  refine x_callV hC hw (lv_size hl) (c_X0_touch l G hBx_3) gX3_clear_X0_touch rfl dv_X0_touch hBx_3.1 rfl rfl (Nat.le_of_ble_eq_true rfl) (by rw [hRf]; decide) (by rw [hRl]; decide) (by omega) (by omega) dX3_clear_7 (fun r9 M_4 H locs hq hw => ?_)
  obtain ⟨rfl, ou_5, tu_5, kcu_5, szu_5, fku_5, fvu_5, hBu_5, smu_5⟩ := hq
  obtain ⟨-, -, -, -, hsau_5, hsbu_5⟩ := id hBu_5
  have sm_6 := (xSm.rf (M := M) (b := (qb ((p0).toNat))) (k := (qk ((p0).toNat))) (v := (qv ((p0).toNat)))).tr (smu_5)
  have h_7 := hR.book hik_2 hBx_3 hBu_5 smu_5
  show W p l e R s m args below meth c H locs _ _ _ (F0 m 10 ls [])
  refine lv_aload_n hC.1 hC.2.1 dX3_clear_10 rfl (lv_at hl 0 rfl) ?_
  refine x_const hC dX3_clear_11 ?_
  refine lv_aload_n hC.1 hC.2.1 dX3_clear_12 rfl (lv_at hl 0 rfl) ?_
  refine x_callV hC hw (lv_size hl) (c_X0_size l G hBu_5) gX3_clear_X0_size rfl dv_X0_size hBu_5.1 rfl rfl (Nat.le_of_ble_eq_true rfl) (by rw [hRf]; decide) (by rw [hRl]; decide) (by omega) (by omega) dX3_clear_13 (fun r9 M_8 H locs hq hw => ?_)
  obtain ⟨rfl, hM9⟩ := hq
  rw [hM9] at hw
  show W p l e R s m args below meth c H locs _ _ _ (F0 m 16 ls [.int (iN (szu_5)), .int (iN (0)), .ref (qb ((p0).toNat))])
  refine x_callV hC hw (lv_size hl) (c_X0_removeRange l G hBu_5 (p0 := 0) (by omega) (p1 := szu_5) (by omega)) gX3_clear_X0_removeRange rfl dv_X0_removeRange hBu_5.1 rfl rfl (Nat.le_of_ble_eq_true rfl) (by rw [hRf]; decide) (by rw [hRl]; decide) (by omega) (by omega) dX3_clear_16 (fun r9 M_9 H locs hq hw => ?_)
  obtain ⟨z_11, rfl, hz_11, ou_10, tu_10, kcu_10, szu_10, fku_10, fvu_10, hBu_10, smu_10⟩ := hq
  obtain ⟨-, -, -, -, hsau_10, hsbu_10⟩ := id hBu_10
  have sm_12 := (sm_6).tr (smu_10)
  have h_13 := h_7.book hik_2 hBu_5 hBu_10 smu_10
  show W p l e R s m args below meth c H locs _ _ _ (F0 m 19 ls [.int (iN (z_11))])
  exact vx_ret (x_iret hC hw dX3_clear_19 (by omega) (by omega) ⟨(iN (z_11)).toInt, by simp only [iN_asI], iN_rng _, ⟨_, _, _, _, _, _, _, _, _, _, h_13⟩⟩)
set_option maxHeartbeats 4000000 in
set_option maxRecDepth 100000 in
theorem c_X3_get (l : Launch) (G : xG) {M : HM} (hst : l.stackTraces = false) {h0 bs vs : Nat} {og : Option Nat} {kk kv rf : Int32} {qb qk qv : Nat → Nat} {fb fv : Nat → Option Nat} (hR : RGx G M h0 bs vs og kk kv rf qb qk qv fb fv) {p0 : Int} (hp0 : -2147483648 ≤ p0 ∧ p0 ≤ 2147483647) {p1 : Int} (hp1 : -2147483648 ≤ p1 ∧ p1 ≤ 2147483647) : xMetX l G yX3_get wsX3_get 7 111 2 12 [.ref h0, .int (iN (p0)), .int (iN (p1))] M (fun r M1 => ∃ z : Int, r = some (.int (iN z)) ∧ (-2147483648 ≤ z ∧ z ≤ 2147483647) ∧ RG G M1 h0 rf) (fun E M1 => E ∈ [xIO, xIA] ∧ RG G M1 h0 rf) := by
  refine x_introX (cc := cX3_get) (maxL := 4) (ret := (some .int)) (by decide +kernel) rfl (Nat.le_of_ble_eq_true rfl) ?_
  intro p e R s m args below meth c ls hRf hRc hRs hRl htab hC hw hl
  have hl : lv_has ls 4 [(0, .ref h0), (1, .int (iN (p0))), (2, .int (iN (p1)))] := hl
  refine lv_aload_n hC.1 hC.2.1 dX3_get_0 rfl (lv_at hl 0 rfl) ?_
  refine lv_iload_n hC.1 hC.2.1 dX3_get_1 rfl (lv_at hl 1 rfl) ?_
  refine x_callVX hC hw (lv_size hl) (c_X3_bookAt l G hst hR (p0 := p0) (by omega)) gX3_get_X3_bookAt rfl dv_X3_bookAt hR.1 rfl rfl (Nat.le_of_ble_eq_true rfl) (by rw [hRf]; decide) (by rw [hRl]; decide) (by omega) (by omega) dX3_get_2 (fun E ce q9 M_1 H locs hqx hw hcell hcv hcls => ?_) (fun r9 M_1 H locs hq hw => ?_)
  · rw [hqx.2] at hw
    exact x_outX hC hw htab hcell hcv hcls (by omega) (by omega) ⟨(show ∀ x ∈ [xIO], x ∈ [xIO, xIA] from by decide +kernel) E hqx.1, ⟨_, _, _, _, _, _, _, _, _, _, hR⟩⟩
  obtain ⟨rfl, hM9, hk_2, hk_2b⟩ := hq
  rw [hM9] at hw
  have hik_2 : (p0).toNat < 3 := by omega
  obtain ⟨nox_3, ox_3, tx_3, kcx_3, szx_3, fkx_3, fwx_3, hBx_3⟩ := hR.bk hik_2
  obtain ⟨-, -, -, -, hsax_3, hsbx_3⟩ := id hBx_3
  show W p l e R s m args below meth c H locs _ _ _ (F0 m 5 ls [.ref (qb ((p0).toNat))])
  refine lv_astore_n (lv' := [(3, .ref (qb ((p0).toNat))), (0, .ref h0), (1, .int (iN (p0))), (2, .int (iN (p1)))]) hC.1 hC.2.1 dX3_get_5 rfl hl (by decide) rfl (fun ls hl => ?_)
  refine lv_iload_n hC.1 hC.2.1 dX3_get_6 rfl (lv_at hl 3 rfl) ?_
  refine x_callSX hC hw (lv_size hl) (c_X3_checkKey l G (M := M) hst (p0 := p1) (by omega)) gX3_get_X3_checkKey rfl dv_X3_checkKey_s rfl (Nat.le_of_ble_eq_true rfl) (by rw [hRf]; decide) (by rw [hRl]; decide) (by omega) (by omega) dX3_get_7 (fun E ce q9 M_4 H locs hqx hw hcell hcv hcls => ?_) (fun r9 M_4 H locs hq hw => ?_)
  · rw [hqx.2] at hw
    exact x_outX hC hw htab hcell hcv hcls (by omega) (by omega) ⟨(show ∀ x ∈ [xIA], x ∈ [xIO, xIA] from by decide +kernel) E hqx.1, ⟨_, _, _, _, _, _, _, _, _, _, hR⟩⟩
  obtain ⟨rfl, hM9, hk_5⟩ := hq
  rw [hM9] at hw
  show W p l e R s m args below meth c H locs _ _ _ (F0 m 10 ls [])
  refine lv_aload_n hC.1 hC.2.1 dX3_get_10 rfl (lv_at hl 0 rfl) ?_
  refine lv_iload_n hC.1 hC.2.1 dX3_get_11 rfl (lv_at hl 3 rfl) ?_
  refine x_callV hC hw (lv_size hl) (c_X0_valueOf l G hBx_3 (p0 := p1) (by omega)) gX3_get_X0_valueOf rfl dv_X0_valueOf hBx_3.1 rfl rfl (Nat.le_of_ble_eq_true rfl) (by rw [hRf]; decide) (by rw [hRl]; decide) (by omega) (by omega) dX3_get_12 (fun r9 M_6 H locs hq hw => ?_)
  obtain ⟨z_7, rfl, hM9, hz_7⟩ := hq
  rw [hM9] at hw
  show W p l e R s m args below meth c H locs _ _ _ (F0 m 15 ls [.int (iN (z_7))])
  exact vx_ret (x_iret hC hw dX3_get_15 (by omega) (by omega) ⟨(iN (z_7)).toInt, by simp only [iN_asI], iN_rng _, ⟨_, _, _, _, _, _, _, _, _, _, hR⟩⟩)
set_option maxHeartbeats 4000000 in
set_option maxRecDepth 100000 in
theorem c_X3_getOr (l : Launch) (G : xG) {M : HM} (hst : l.stackTraces = false) {h0 bs vs : Nat} {og : Option Nat} {kk kv rf : Int32} {qb qk qv : Nat → Nat} {fb fv : Nat → Option Nat} (hR : RGx G M h0 bs vs og kk kv rf qb qk qv fb fv) {p0 : Int} (hp0 : -2147483648 ≤ p0 ∧ p0 ≤ 2147483647) {p1 : Int} (hp1 : -2147483648 ≤ p1 ∧ p1 ≤ 2147483647) {p2 : Int} (hp2 : -2147483648 ≤ p2 ∧ p2 ≤ 2147483647) : xMetX l G yX3_getOr wsX3_getOr 7 112 3 18 [.ref h0, .int (iN (p0)), .int (iN (p1)), .int (iN (p2))] M (fun r M1 => ∃ z : Int, r = some (.int (iN z)) ∧ (-2147483648 ≤ z ∧ z ≤ 2147483647) ∧ RG G M1 h0 rf) (fun E M1 => E ∈ [xIO, xIA] ∧ RG G M1 h0 rf) := by
  refine x_introX (cc := cX3_getOr) (maxL := 5) (ret := (some .int)) (by decide +kernel) rfl (Nat.le_of_ble_eq_true rfl) ?_
  intro p e R s m args below meth c ls hRf hRc hRs hRl htab hC hw hl
  have hl : lv_has ls 5 [(0, .ref h0), (1, .int (iN (p0))), (2, .int (iN (p1))), (3, .int (iN (p2)))] := hl
  refine lv_aload_n hC.1 hC.2.1 dX3_getOr_0 rfl (lv_at hl 0 rfl) ?_
  refine lv_iload_n hC.1 hC.2.1 dX3_getOr_1 rfl (lv_at hl 1 rfl) ?_
  refine x_callVX hC hw (lv_size hl) (c_X3_bookAt l G hst hR (p0 := p0) (by omega)) gX3_getOr_X3_bookAt rfl dv_X3_bookAt hR.1 rfl rfl (Nat.le_of_ble_eq_true rfl) (by rw [hRf]; decide) (by rw [hRl]; decide) (by omega) (by omega) dX3_getOr_2 (fun E ce q9 M_1 H locs hqx hw hcell hcv hcls => ?_) (fun r9 M_1 H locs hq hw => ?_)
  · rw [hqx.2] at hw
    exact x_outX hC hw htab hcell hcv hcls (by omega) (by omega) ⟨(show ∀ x ∈ [xIO], x ∈ [xIO, xIA] from by decide +kernel) E hqx.1, ⟨_, _, _, _, _, _, _, _, _, _, hR⟩⟩
  obtain ⟨rfl, hM9, hk_2, hk_2b⟩ := hq
  rw [hM9] at hw
  have hik_2 : (p0).toNat < 3 := by omega
  obtain ⟨nox_3, ox_3, tx_3, kcx_3, szx_3, fkx_3, fwx_3, hBx_3⟩ := hR.bk hik_2
  obtain ⟨-, -, -, -, hsax_3, hsbx_3⟩ := id hBx_3
  show W p l e R s m args below meth c H locs _ _ _ (F0 m 5 ls [.ref (qb ((p0).toNat))])
  refine lv_astore (lv' := [(4, .ref (qb ((p0).toNat))), (0, .ref h0), (1, .int (iN (p0))), (2, .int (iN (p1))), (3, .int (iN (p2)))]) hC.1 hC.2.1 dX3_getOr_5 hl (by decide) rfl (fun ls hl => ?_)
  refine lv_iload_n hC.1 hC.2.1 dX3_getOr_7 rfl (lv_at hl 3 rfl) ?_
  refine x_callSX hC hw (lv_size hl) (c_X3_checkKey l G (M := M) hst (p0 := p1) (by omega)) gX3_getOr_X3_checkKey rfl dv_X3_checkKey_s rfl (Nat.le_of_ble_eq_true rfl) (by rw [hRf]; decide) (by rw [hRl]; decide) (by omega) (by omega) dX3_getOr_8 (fun E ce q9 M_4 H locs hqx hw hcell hcv hcls => ?_) (fun r9 M_4 H locs hq hw => ?_)
  · rw [hqx.2] at hw
    exact x_outX hC hw htab hcell hcv hcls (by omega) (by omega) ⟨(show ∀ x ∈ [xIA], x ∈ [xIO, xIA] from by decide +kernel) E hqx.1, ⟨_, _, _, _, _, _, _, _, _, _, hR⟩⟩
  obtain ⟨rfl, hM9, hk_5⟩ := hq
  rw [hM9] at hw
  show W p l e R s m args below meth c H locs _ _ _ (F0 m 11 ls [])
  refine lv_iload_n hC.1 hC.2.1 dX3_getOr_11 rfl (lv_at hl 4 rfl) ?_
  refine x_callSX hC hw (lv_size hl) (c_X3_checkValue l G (M := M) hst (p0 := p2) (by omega)) gX3_getOr_X3_checkValue rfl dv_X3_checkValue_s rfl (Nat.le_of_ble_eq_true rfl) (by rw [hRf]; decide) (by rw [hRl]; decide) (by omega) (by omega) dX3_getOr_12 (fun E ce q9 M_6 H locs hqx hw hcell hcv hcls => ?_) (fun r9 M_6 H locs hq hw => ?_)
  · rw [hqx.2] at hw
    exact x_outX hC hw htab hcell hcv hcls (by omega) (by omega) ⟨(show ∀ x ∈ [xIA], x ∈ [xIO, xIA] from by decide +kernel) E hqx.1, ⟨_, _, _, _, _, _, _, _, _, _, hR⟩⟩
  obtain ⟨rfl, hM9, hk_7⟩ := hq
  rw [hM9] at hw
  show W p l e R s m args below meth c H locs _ _ _ (F0 m 15 ls [])
  refine lv_aload hC.1 hC.2.1 dX3_getOr_15 (lv_at hl 0 rfl) ?_
  refine lv_iload_n hC.1 hC.2.1 dX3_getOr_17 rfl (lv_at hl 3 rfl) ?_
  refine x_callV hC hw (lv_size hl) (c_X0_holds l G hBx_3 (p0 := p1) (by omega)) gX3_getOr_X0_holds rfl dv_X0_holds hBx_3.1 rfl rfl (Nat.le_of_ble_eq_true rfl) (by rw [hRf]; decide) (by rw [hRl]; decide) (by omega) (by omega) dX3_getOr_18 (fun r9 M_8 H locs hq hw => ?_)
  obtain ⟨z_9, rfl, hM9, hz_9⟩ := hq
  rw [hM9] at hw
  show W p l e R s m args below meth c H locs _ _ _ (F0 m 21 ls [.int (iN (z_9))])
  refine x_if_eq (tgt := 33) hC ⟨by omega, by omega⟩ dX3_getOr_21 (by decide) (fun c_10 => ?_) (fun c_10 => ?_)
  · refine lv_iload_n hC.1 hC.2.1 dX3_getOr_33 rfl (lv_at hl 4 rfl) ?_
    exact vx_ret (x_iret hC hw dX3_getOr_34 (by omega) (by omega) ⟨(iN (p2)).toInt, by simp only [iN_asI], iN_rng _, ⟨_, _, _, _, _, _, _, _, _, _, hR⟩⟩)
  · refine lv_aload hC.1 hC.2.1 dX3_getOr_24 (lv_at hl 0 rfl) ?_
    refine lv_iload_n hC.1 hC.2.1 dX3_getOr_26 rfl (lv_at hl 3 rfl) ?_
    refine x_callV hC hw (lv_size hl) (c_X0_valueOf l G hBx_3 (p0 := p1) (by omega)) gX3_getOr_X0_valueOf rfl dv_X0_valueOf hBx_3.1 rfl rfl (Nat.le_of_ble_eq_true rfl) (by rw [hRf]; decide) (by rw [hRl]; decide) (by omega) (by omega) dX3_getOr_27 (fun r9 M_11 H locs hq hw => ?_)
    obtain ⟨z_12, rfl, hM9, hz_12⟩ := hq
    rw [hM9] at hw
    show W p l e R s m args below meth c H locs _ _ _ (F0 m 30 ls [.int (iN (z_12))])
    refine lv_goto (tgt := 34) hC.1 hC.2.1 dX3_getOr_30 (by decide) ?_
    exact vx_ret (x_iret hC hw dX3_getOr_34 (by omega) (by omega) ⟨(iN (z_12)).toInt, by simp only [iN_asI], iN_rng _, ⟨_, _, _, _, _, _, _, _, _, _, hR⟩⟩)
set_option maxHeartbeats 4000000 in
set_option maxRecDepth 100000 in
theorem c_X3_has (l : Launch) (G : xG) {M : HM} (hst : l.stackTraces = false) {h0 bs vs : Nat} {og : Option Nat} {kk kv rf : Int32} {qb qk qv : Nat → Nat} {fb fv : Nat → Option Nat} (hR : RGx G M h0 bs vs og kk kv rf qb qk qv fb fv) {p0 : Int} (hp0 : -2147483648 ≤ p0 ∧ p0 ≤ 2147483647) {p1 : Int} (hp1 : -2147483648 ≤ p1 ∧ p1 ≤ 2147483647) : xMetX l G yX3_has wsX3_has 7 112 2 12 [.ref h0, .int (iN (p0)), .int (iN (p1))] M (fun r M1 => ∃ z : Int, r = some (.int (iN z)) ∧ (z = 0 ∨ z = 1) ∧ RG G M1 h0 rf) (fun E M1 => E ∈ [xIO, xIA] ∧ RG G M1 h0 rf) := by
  refine x_introX (cc := cX3_has) (maxL := 4) (ret := (some .boolean)) (by decide +kernel) rfl (Nat.le_of_ble_eq_true rfl) ?_
  intro p e R s m args below meth c ls hRf hRc hRs hRl htab hC hw hl
  have hl : lv_has ls 4 [(0, .ref h0), (1, .int (iN (p0))), (2, .int (iN (p1)))] := hl
  refine lv_aload_n hC.1 hC.2.1 dX3_has_0 rfl (lv_at hl 0 rfl) ?_
  refine lv_iload_n hC.1 hC.2.1 dX3_has_1 rfl (lv_at hl 1 rfl) ?_
  refine x_callVX hC hw (lv_size hl) (c_X3_bookAt l G hst hR (p0 := p0) (by omega)) gX3_has_X3_bookAt rfl dv_X3_bookAt hR.1 rfl rfl (Nat.le_of_ble_eq_true rfl) (by rw [hRf]; decide) (by rw [hRl]; decide) (by omega) (by omega) dX3_has_2 (fun E ce q9 M_1 H locs hqx hw hcell hcv hcls => ?_) (fun r9 M_1 H locs hq hw => ?_)
  · rw [hqx.2] at hw
    exact x_outX hC hw htab hcell hcv hcls (by omega) (by omega) ⟨(show ∀ x ∈ [xIO], x ∈ [xIO, xIA] from by decide +kernel) E hqx.1, ⟨_, _, _, _, _, _, _, _, _, _, hR⟩⟩
  obtain ⟨rfl, hM9, hk_2, hk_2b⟩ := hq
  rw [hM9] at hw
  have hik_2 : (p0).toNat < 3 := by omega
  obtain ⟨nox_3, ox_3, tx_3, kcx_3, szx_3, fkx_3, fwx_3, hBx_3⟩ := hR.bk hik_2
  obtain ⟨-, -, -, -, hsax_3, hsbx_3⟩ := id hBx_3
  show W p l e R s m args below meth c H locs _ _ _ (F0 m 5 ls [.ref (qb ((p0).toNat))])
  refine lv_astore_n (lv' := [(3, .ref (qb ((p0).toNat))), (0, .ref h0), (1, .int (iN (p0))), (2, .int (iN (p1)))]) hC.1 hC.2.1 dX3_has_5 rfl hl (by decide) rfl (fun ls hl => ?_)
  refine lv_iload_n hC.1 hC.2.1 dX3_has_6 rfl (lv_at hl 3 rfl) ?_
  refine x_callSX hC hw (lv_size hl) (c_X3_checkKey l G (M := M) hst (p0 := p1) (by omega)) gX3_has_X3_checkKey rfl dv_X3_checkKey_s rfl (Nat.le_of_ble_eq_true rfl) (by rw [hRf]; decide) (by rw [hRl]; decide) (by omega) (by omega) dX3_has_7 (fun E ce q9 M_4 H locs hqx hw hcell hcv hcls => ?_) (fun r9 M_4 H locs hq hw => ?_)
  · rw [hqx.2] at hw
    exact x_outX hC hw htab hcell hcv hcls (by omega) (by omega) ⟨(show ∀ x ∈ [xIA], x ∈ [xIO, xIA] from by decide +kernel) E hqx.1, ⟨_, _, _, _, _, _, _, _, _, _, hR⟩⟩
  obtain ⟨rfl, hM9, hk_5⟩ := hq
  rw [hM9] at hw
  show W p l e R s m args below meth c H locs _ _ _ (F0 m 10 ls [])
  refine lv_aload_n hC.1 hC.2.1 dX3_has_10 rfl (lv_at hl 0 rfl) ?_
  refine lv_iload_n hC.1 hC.2.1 dX3_has_11 rfl (lv_at hl 3 rfl) ?_
  refine x_callV hC hw (lv_size hl) (c_X0_holds l G hBx_3 (p0 := p1) (by omega)) gX3_has_X0_holds rfl dv_X0_holds hBx_3.1 rfl rfl (Nat.le_of_ble_eq_true rfl) (by rw [hRf]; decide) (by rw [hRl]; decide) (by omega) (by omega) dX3_has_12 (fun r9 M_6 H locs hq hw => ?_)
  obtain ⟨z_7, rfl, hM9, hz_7⟩ := hq
  rw [hM9] at hw
  show W p l e R s m args below meth c H locs _ _ _ (F0 m 15 ls [.int (iN (z_7))])
  exact vx_ret (x_zret hC hw (by omega) dX3_has_15 (by omega) (by omega) ⟨z_7, rfl, by omega, ⟨_, _, _, _, _, _, _, _, _, _, hR⟩⟩)
set_option maxHeartbeats 4000000 in
set_option maxRecDepth 100000 in
theorem c_X3_hasValue (l : Launch) (G : xG) {M : HM} (hst : l.stackTraces = false) {h0 bs vs : Nat} {og : Option Nat} {kk kv rf : Int32} {qb qk qv : Nat → Nat} {fb fv : Nat → Option Nat} (hR : RGx G M h0 bs vs og kk kv rf qb qk qv fb fv) {p0 : Int} (hp0 : -2147483648 ≤ p0 ∧ p0 ≤ 2147483647) {p1 : Int} (hp1 : -2147483648 ≤ p1 ∧ p1 ≤ 2147483647) : xMetX l G yX3_hasValue wsX3_hasValue 7 111 2 12 [.ref h0, .int (iN (p0)), .int (iN (p1))] M (fun r M1 => ∃ z : Int, r = some (.int (iN z)) ∧ (z = 0 ∨ z = 1) ∧ RG G M1 h0 rf) (fun E M1 => E ∈ [xIO, xIA] ∧ RG G M1 h0 rf) := by
  refine x_introX (cc := cX3_hasValue) (maxL := 4) (ret := (some .boolean)) (by decide +kernel) rfl (Nat.le_of_ble_eq_true rfl) ?_
  intro p e R s m args below meth c ls hRf hRc hRs hRl htab hC hw hl
  have hl : lv_has ls 4 [(0, .ref h0), (1, .int (iN (p0))), (2, .int (iN (p1)))] := hl
  refine lv_aload_n hC.1 hC.2.1 dX3_hasValue_0 rfl (lv_at hl 0 rfl) ?_
  refine lv_iload_n hC.1 hC.2.1 dX3_hasValue_1 rfl (lv_at hl 1 rfl) ?_
  refine x_callVX hC hw (lv_size hl) (c_X3_bookAt l G hst hR (p0 := p0) (by omega)) gX3_hasValue_X3_bookAt rfl dv_X3_bookAt hR.1 rfl rfl (Nat.le_of_ble_eq_true rfl) (by rw [hRf]; decide) (by rw [hRl]; decide) (by omega) (by omega) dX3_hasValue_2 (fun E ce q9 M_1 H locs hqx hw hcell hcv hcls => ?_) (fun r9 M_1 H locs hq hw => ?_)
  · rw [hqx.2] at hw
    exact x_outX hC hw htab hcell hcv hcls (by omega) (by omega) ⟨(show ∀ x ∈ [xIO], x ∈ [xIO, xIA] from by decide +kernel) E hqx.1, ⟨_, _, _, _, _, _, _, _, _, _, hR⟩⟩
  obtain ⟨rfl, hM9, hk_2, hk_2b⟩ := hq
  rw [hM9] at hw
  have hik_2 : (p0).toNat < 3 := by omega
  obtain ⟨nox_3, ox_3, tx_3, kcx_3, szx_3, fkx_3, fwx_3, hBx_3⟩ := hR.bk hik_2
  obtain ⟨-, -, -, -, hsax_3, hsbx_3⟩ := id hBx_3
  show W p l e R s m args below meth c H locs _ _ _ (F0 m 5 ls [.ref (qb ((p0).toNat))])
  refine lv_astore_n (lv' := [(3, .ref (qb ((p0).toNat))), (0, .ref h0), (1, .int (iN (p0))), (2, .int (iN (p1)))]) hC.1 hC.2.1 dX3_hasValue_5 rfl hl (by decide) rfl (fun ls hl => ?_)
  refine lv_iload_n hC.1 hC.2.1 dX3_hasValue_6 rfl (lv_at hl 3 rfl) ?_
  refine x_callSX hC hw (lv_size hl) (c_X3_checkValue l G (M := M) hst (p0 := p1) (by omega)) gX3_hasValue_X3_checkValue rfl dv_X3_checkValue_s rfl (Nat.le_of_ble_eq_true rfl) (by rw [hRf]; decide) (by rw [hRl]; decide) (by omega) (by omega) dX3_hasValue_7 (fun E ce q9 M_4 H locs hqx hw hcell hcv hcls => ?_) (fun r9 M_4 H locs hq hw => ?_)
  · rw [hqx.2] at hw
    exact x_outX hC hw htab hcell hcv hcls (by omega) (by omega) ⟨(show ∀ x ∈ [xIA], x ∈ [xIO, xIA] from by decide +kernel) E hqx.1, ⟨_, _, _, _, _, _, _, _, _, _, hR⟩⟩
  obtain ⟨rfl, hM9, hk_5⟩ := hq
  rw [hM9] at hw
  show W p l e R s m args below meth c H locs _ _ _ (F0 m 10 ls [])
  refine lv_aload_n hC.1 hC.2.1 dX3_hasValue_10 rfl (lv_at hl 0 rfl) ?_
  refine lv_iload_n hC.1 hC.2.1 dX3_hasValue_11 rfl (lv_at hl 3 rfl) ?_
  refine x_callV hC hw (lv_size hl) (c_X0_firstPlaceOfValue l G hBx_3 (p0 := p1) (by omega)) gX3_hasValue_X0_firstPlaceOfValue rfl dv_X0_firstPlaceOfValue hBx_3.1 rfl rfl (Nat.le_of_ble_eq_true rfl) (by rw [hRf]; decide) (by rw [hRl]; decide) (by omega) (by omega) dX3_hasValue_12 (fun r9 M_6 H locs hq hw => ?_)
  obtain ⟨z_7, rfl, hM9, hz_7⟩ := hq
  rw [hM9] at hw
  show W p l e R s m args below meth c H locs _ _ _ (F0 m 15 ls [.int (iN (z_7))])
  refine x_sipush hC dX3_hasValue_15 (by decide +kernel) ?_
  refine x_icmp_eq (tgt := 25) hC ⟨by omega, by omega⟩ ⟨by omega, by omega⟩ dX3_hasValue_18 (by decide) (fun c_8 => ?_) (fun c_8 => ?_)
  · refine x_const hC dX3_hasValue_25 ?_
    exact vx_ret (x_zret hC hw (by omega) dX3_hasValue_26 (by omega) (by omega) ⟨0, rfl, by omega, ⟨_, _, _, _, _, _, _, _, _, _, hR⟩⟩)
  · refine x_const hC dX3_hasValue_21 ?_
    refine lv_goto (tgt := 26) hC.1 hC.2.1 dX3_hasValue_22 (by decide) ?_
    exact vx_ret (x_zret hC hw (by omega) dX3_hasValue_26 (by omega) (by omega) ⟨1, rfl, by omega, ⟨_, _, _, _, _, _, _, _, _, _, hR⟩⟩)
set_option maxHeartbeats 4000000 in
set_option maxRecDepth 100000 in
theorem c_X3_place (l : Launch) (G : xG) {M : HM} (hst : l.stackTraces = false) {h0 bs vs : Nat} {og : Option Nat} {kk kv rf : Int32} {qb qk qv : Nat → Nat} {fb fv : Nat → Option Nat} (hR : RGx G M h0 bs vs og kk kv rf qb qk qv fb fv) {p0 : Int} (hp0 : -2147483648 ≤ p0 ∧ p0 ≤ 2147483647) {p1 : Int} (hp1 : -2147483648 ≤ p1 ∧ p1 ≤ 2147483647) : xMetX l G yX3_place wsX3_place 7 111 2 12 [.ref h0, .int (iN (p0)), .int (iN (p1))] M (fun r M1 => ∃ z : Int, r = some (.int (iN z)) ∧ (-2147483648 ≤ z ∧ z ≤ 2147483647) ∧ RG G M1 h0 rf) (fun E M1 => E ∈ [xIO, xIA] ∧ RG G M1 h0 rf) := by
  refine x_introX (cc := cX3_place) (maxL := 4) (ret := (some .int)) (by decide +kernel) rfl (Nat.le_of_ble_eq_true rfl) ?_
  intro p e R s m args below meth c ls hRf hRc hRs hRl htab hC hw hl
  have hl : lv_has ls 4 [(0, .ref h0), (1, .int (iN (p0))), (2, .int (iN (p1)))] := hl
  refine lv_aload_n hC.1 hC.2.1 dX3_place_0 rfl (lv_at hl 0 rfl) ?_
  refine lv_iload_n hC.1 hC.2.1 dX3_place_1 rfl (lv_at hl 1 rfl) ?_
  refine x_callVX hC hw (lv_size hl) (c_X3_bookAt l G hst hR (p0 := p0) (by omega)) gX3_place_X3_bookAt rfl dv_X3_bookAt hR.1 rfl rfl (Nat.le_of_ble_eq_true rfl) (by rw [hRf]; decide) (by rw [hRl]; decide) (by omega) (by omega) dX3_place_2 (fun E ce q9 M_1 H locs hqx hw hcell hcv hcls => ?_) (fun r9 M_1 H locs hq hw => ?_)
  · rw [hqx.2] at hw
    exact x_outX hC hw htab hcell hcv hcls (by omega) (by omega) ⟨(show ∀ x ∈ [xIO], x ∈ [xIO, xIA] from by decide +kernel) E hqx.1, ⟨_, _, _, _, _, _, _, _, _, _, hR⟩⟩
  obtain ⟨rfl, hM9, hk_2, hk_2b⟩ := hq
  rw [hM9] at hw
  have hik_2 : (p0).toNat < 3 := by omega
  obtain ⟨nox_3, ox_3, tx_3, kcx_3, szx_3, fkx_3, fwx_3, hBx_3⟩ := hR.bk hik_2
  obtain ⟨-, -, -, -, hsax_3, hsbx_3⟩ := id hBx_3
  show W p l e R s m args below meth c H locs _ _ _ (F0 m 5 ls [.ref (qb ((p0).toNat))])
  refine lv_astore_n (lv' := [(3, .ref (qb ((p0).toNat))), (0, .ref h0), (1, .int (iN (p0))), (2, .int (iN (p1)))]) hC.1 hC.2.1 dX3_place_5 rfl hl (by decide) rfl (fun ls hl => ?_)
  refine lv_iload_n hC.1 hC.2.1 dX3_place_6 rfl (lv_at hl 3 rfl) ?_
  refine x_callSX hC hw (lv_size hl) (c_X3_checkKey l G (M := M) hst (p0 := p1) (by omega)) gX3_place_X3_checkKey rfl dv_X3_checkKey_s rfl (Nat.le_of_ble_eq_true rfl) (by rw [hRf]; decide) (by rw [hRl]; decide) (by omega) (by omega) dX3_place_7 (fun E ce q9 M_4 H locs hqx hw hcell hcv hcls => ?_) (fun r9 M_4 H locs hq hw => ?_)
  · rw [hqx.2] at hw
    exact x_outX hC hw htab hcell hcv hcls (by omega) (by omega) ⟨(show ∀ x ∈ [xIA], x ∈ [xIO, xIA] from by decide +kernel) E hqx.1, ⟨_, _, _, _, _, _, _, _, _, _, hR⟩⟩
  obtain ⟨rfl, hM9, hk_5⟩ := hq
  rw [hM9] at hw
  show W p l e R s m args below meth c H locs _ _ _ (F0 m 10 ls [])
  refine lv_aload_n hC.1 hC.2.1 dX3_place_10 rfl (lv_at hl 0 rfl) ?_
  refine lv_iload_n hC.1 hC.2.1 dX3_place_11 rfl (lv_at hl 3 rfl) ?_
  refine x_callV hC hw (lv_size hl) (c_X0_placeOf l G hBx_3 (p0 := p1) (by omega)) gX3_place_X0_placeOf rfl dv_X0_placeOf hBx_3.1 rfl rfl (Nat.le_of_ble_eq_true rfl) (by rw [hRf]; decide) (by rw [hRl]; decide) (by omega) (by omega) dX3_place_12 (fun r9 M_6 H locs hq hw => ?_)
  obtain ⟨z_7, rfl, hM9, hz_7a, hz_7b⟩ := hq
  rw [hM9] at hw
  show W p l e R s m args below meth c H locs _ _ _ (F0 m 15 ls [.int (iN (z_7))])
  exact vx_ret (x_iret hC hw dX3_place_15 (by omega) (by omega) ⟨(iN (z_7)).toInt, by simp only [iN_asI], iN_rng _, ⟨_, _, _, _, _, _, _, _, _, _, hR⟩⟩)
set_option maxHeartbeats 4000000 in
set_option maxRecDepth 100000 in
theorem c_X3_at (l : Launch) (G : xG) {M : HM} (hst : l.stackTraces = false) {h0 bs vs : Nat} {og : Option Nat} {kk kv rf : Int32} {qb qk qv : Nat → Nat} {fb fv : Nat → Option Nat} (hR : RGx G M h0 bs vs og kk kv rf qb qk qv fb fv) {p0 : Int} (hp0 : -2147483648 ≤ p0 ∧ p0 ≤ 2147483647) {p1 : Int} (hp1 : -2147483648 ≤ p1 ∧ p1 ≤ 2147483647) : xMetX l G yX3_at wsX3_at 7 111 2 12 [.ref h0, .int (iN (p0)), .int (iN (p1))] M (fun r M1 => ∃ z : Int, r = some (.int (iN z)) ∧ (-2147483648 ≤ z ∧ z ≤ 2147483647) ∧ RG G M1 h0 rf) (fun E M1 => E ∈ [xIO, xIA] ∧ RG G M1 h0 rf) := by
  refine x_introX (cc := cX3_at) (maxL := 4) (ret := (some .int)) (by decide +kernel) rfl (Nat.le_of_ble_eq_true rfl) ?_
  intro p e R s m args below meth c ls hRf hRc hRs hRl htab hC hw hl
  have hl : lv_has ls 4 [(0, .ref h0), (1, .int (iN (p0))), (2, .int (iN (p1)))] := hl
  refine lv_aload_n hC.1 hC.2.1 dX3_at_0 rfl (lv_at hl 0 rfl) ?_
  refine lv_iload_n hC.1 hC.2.1 dX3_at_1 rfl (lv_at hl 1 rfl) ?_
  refine x_callVX hC hw (lv_size hl) (c_X3_bookAt l G hst hR (p0 := p0) (by omega)) gX3_at_X3_bookAt rfl dv_X3_bookAt hR.1 rfl rfl (Nat.le_of_ble_eq_true rfl) (by rw [hRf]; decide) (by rw [hRl]; decide) (by omega) (by omega) dX3_at_2 (fun E ce q9 M_1 H locs hqx hw hcell hcv hcls => ?_) (fun r9 M_1 H locs hq hw => ?_)
  · rw [hqx.2] at hw
    exact x_outX hC hw htab hcell hcv hcls (by omega) (by omega) ⟨(show ∀ x ∈ [xIO], x ∈ [xIO, xIA] from by decide +kernel) E hqx.1, ⟨_, _, _, _, _, _, _, _, _, _, hR⟩⟩
  obtain ⟨rfl, hM9, hk_2, hk_2b⟩ := hq
  rw [hM9] at hw
  have hik_2 : (p0).toNat < 3 := by omega
  obtain ⟨nox_3, ox_3, tx_3, kcx_3, szx_3, fkx_3, fwx_3, hBx_3⟩ := hR.bk hik_2
  obtain ⟨-, -, -, -, hsax_3, hsbx_3⟩ := id hBx_3
  show W p l e R s m args below meth c H locs _ _ _ (F0 m 5 ls [.ref (qb ((p0).toNat))])
  refine lv_astore_n (lv' := [(3, .ref (qb ((p0).toNat))), (0, .ref h0), (1, .int (iN (p0))), (2, .int (iN (p1)))]) hC.1 hC.2.1 dX3_at_5 rfl hl (by decide) rfl (fun ls hl => ?_)
  refine lv_iload_n hC.1 hC.2.1 dX3_at_6 rfl (lv_at hl 3 rfl) ?_
  refine x_if_ge (tgt := 20) hC ⟨by omega, by omega⟩ dX3_at_7 (by decide) (fun c_4 => ?_) (fun c_4 => ?_)
  · refine lv_aload_n hC.1 hC.2.1 dX3_at_20 rfl (lv_at hl 0 rfl) ?_
    refine lv_iload_n hC.1 hC.2.1 dX3_at_21 rfl (lv_at hl 3 rfl) ?_
    refine x_callV hC hw (lv_size hl) (c_X0_keyAt l G hBx_3 (p0 := p1) (by omega)) gX3_at_X0_keyAt rfl dv_X0_keyAt hBx_3.1 rfl rfl (Nat.le_of_ble_eq_true rfl) (by rw [hRf]; decide) (by rw [hRl]; decide) (by omega) (by omega) dX3_at_22 (fun r9 M_5 H locs hq hw => ?_)
    obtain ⟨z_6, rfl, hM9, hz_6, hz_6b⟩ := hq
    rw [hM9] at hw
    show W p l e R s m args below meth c H locs _ _ _ (F0 m 25 ls [.int (iN (z_6))])
    exact vx_ret (x_iret hC hw dX3_at_25 (by omega) (by omega) ⟨(iN (z_6)).toInt, by simp only [iN_asI], iN_rng _, ⟨_, _, _, _, _, _, _, _, _, _, hR⟩⟩)
  · exact x_throwS (cls := "java/lang/IllegalArgumentException") (text := "place is below 0") (names := ["java/lang/RuntimeException", "java/lang/Exception"]) hC hw hst htab (lv_size hl) (by decide +kernel) (by decide +kernel) (by decide +kernel) (by decide +kernel) (by decide +kernel) (by decide +kernel) (by decide +kernel) (xlit_Rangeledger_232) (by decide +kernel) dX3_at_10 dX3_at_13 dX3_at_14 dX3_at_16 dX3_at_19 (by rw [hRf]; decide) (by rw [hRl]; exact Nat.le_of_ble_eq_true rfl) (by omega) (by omega) (by omega) (by omega) ⟨by decide +kernel, ⟨_, _, _, _, _, _, _, _, _, _, hR⟩⟩
set_option maxHeartbeats 4000000 in
set_option maxRecDepth 100000 in
theorem c_X3_keep (l : Launch) (G : xG) {M : HM} (hst : l.stackTraces = false) {h0 bs vs : Nat} {og : Option Nat} {kk kv rf : Int32} {qb qk qv : Nat → Nat} {fb fv : Nat → Option Nat} (hR : RGx G M h0 bs vs og kk kv rf qb qk qv fb fv) {p0 : Int} (hp0 : -2147483648 ≤ p0 ∧ p0 ≤ 2147483647) {p1 : Int} (hp1 : -2147483648 ≤ p1 ∧ p1 ≤ 2147483647) (hb1 : p1 = 0 ∨ p1 = 1) : xMetX l G yX3_keep wsX3_keep 7 111 1 6 [.ref h0, .int (iN (p0)), .int (iN (p1))] M (fun r M1 => ∃ z : Int, r = some (.int (iN z)) ∧ (-2147483648 ≤ z ∧ z ≤ 2147483647) ∧ RG G M1 h0 rf) (fun E M1 => E ∈ [xIO] ∧ RG G M1 h0 rf) := by
  refine x_introX (cc := cX3_keep) (maxL := 5) (ret := (some .int)) (by decide +kernel) rfl (Nat.le_of_ble_eq_true rfl) ?_
  intro p e R s m args below meth c ls hRf hRc hRs hRl htab hC hw hl
  have hinX3 : ∀ w ∈ wsX30, w ∈ wsX3_keep := by decide +kernel
  have hl : lv_has ls 5 [(0, .ref h0), (1, .int (iN (p0))), (2, .int (iN (p1)))] := hl
  refine lv_aload_n hC.1 hC.2.1 dX3_keep_0 rfl (lv_at hl 0 rfl) ?_
  refine lv_iload_n hC.1 hC.2.1 dX3_keep_1 rfl (lv_at hl 1 rfl) ?_
  refine x_callVX hC hw (lv_size hl) (c_X3_bookAt l G hst hR (p0 := p0) (by omega)) gX3_keep_X3_bookAt rfl dv_X3_bookAt hR.1 rfl rfl (Nat.le_of_ble_eq_true rfl) (by rw [hRf]; decide) (by rw [hRl]; decide) (by omega) (by omega) dX3_keep_2 (fun E ce q9 M_1 H locs hqx hw hcell hcv hcls => ?_) (fun r9 M_1 H locs hq hw => ?_)
  · rw [hqx.2] at hw
    exact x_outX hC hw htab hcell hcv hcls (by omega) (by omega) ⟨(show ∀ x ∈ [xIO], x ∈ [xIO] from by decide +kernel) E hqx.1, ⟨_, _, _, _, _, _, _, _, _, _, hR⟩⟩
  obtain ⟨rfl, hM9, hk_2, hk_2b⟩ := hq
  rw [hM9] at hw
  have hik_2 : (p0).toNat < 3 := by omega
  obtain ⟨nox_3, ox_3, tx_3, kcx_3, szx_3, fkx_3, fwx_3, hBx_3⟩ := hR.bk hik_2
  obtain ⟨-, -, -, -, hsax_3, hsbx_3⟩ := id hBx_3
  show W p l e R s m args below meth c H locs _ _ _ (F0 m 5 ls [.ref (qb ((p0).toNat))])
  refine lv_astore_n (lv' := [(3, .ref (qb ((p0).toNat))), (0, .ref h0), (1, .int (iN (p0))), (2, .int (iN (p1)))]) hC.1 hC.2.1 dX3_keep_5 rfl hl (by decide) rfl (fun ls hl => ?_)
  refine lv_aload_n hC.1 hC.2.1 dX3_keep_6 rfl (lv_at hl 0 rfl) ?_
  refine x_callV hC hw (lv_size hl) (c_X0_size l G hBx_3) gX3_keep_X0_size rfl dv_X0_size hBx_3.1 rfl rfl (Nat.le_of_ble_eq_true rfl) (by rw [hRf]; decide) (by rw [hRl]; decide) (by omega) (by omega) dX3_keep_7 (fun r9 M_4 H locs hq hw => ?_)
  obtain ⟨rfl, hM9⟩ := hq
  rw [hM9] at hw
  show W p l e R s m args below meth c H locs _ _ _ (F0 m 10 ls [.int (iN (szx_3))])
  refine x_if_ne (tgt := 17) hC ⟨by omega, by omega⟩ dX3_keep_10 (by decide) (fun c_5 => ?_) (fun c_5 => ?_)
  · refine lv_iload_n hC.1 hC.2.1 dX3_keep_17 rfl (lv_at hl 3 rfl) ?_
    refine x_if_eq (tgt := 30) hC ⟨by omega, by omega⟩ dX3_keep_18 (by decide) (fun c_6 => ?_) (fun c_6 => ?_)
    · refine x_const hC dX3_keep_30 ?_
      refine lv_istore (lv' := [(4, .int (iN (0))), (3, .ref (qb ((p0).toNat))), (0, .ref h0), (1, .int (iN (p0))), (2, .int (iN (p1)))]) hC.1 hC.2.1 dX3_keep_31 hl (by decide) rfl (fun ls hl => ?_)
      refine lv_aload_n hC.1 hC.2.1 dX3_keep_33 rfl (lv_at hl 2 rfl) ?_
      refine lv_aload_n hC.1 hC.2.1 dX3_keep_34 rfl (lv_at hl 1 rfl) ?_
      refine lv_iload hC.1 hC.2.1 dX3_keep_35 (lv_at hl 0 rfl) ?_
      refine x_callV hC hw (lv_size hl) (c_X0_keyAt l G hBx_3 (p0 := 0) (by omega)) gX3_keep_X0_keyAt rfl dv_X0_keyAt hBx_3.1 rfl rfl (Nat.le_of_ble_eq_true rfl) (by rw [hRf]; decide) (by rw [hRl]; decide) (by omega) (by omega) dX3_keep_37 (fun r9 M_7 H locs hq hw => ?_)
      obtain ⟨z_8, rfl, hM9, hz_8, hz_8b⟩ := hq
      rw [hM9] at hw
      show W p l e R s m args below meth c H locs _ _ _ (F0 m 40 ls [.int (iN (z_8)), .ref h0])
      refine x_put (fs2 := [.ref bs, .ref vs, va_rf (og), .int (iN (z_8)), .int kv, .int rf]) hC hw hR.1 rfl hinX3 tyX3 tyX3_ok nmX3 3 (by decide) (by decide +kernel) rfl rfl rfl (Nat.le_of_ble_eq_true rfl) rfl dX3_keep_40 (fun H locs hw => ?_)
      obtain ⟨M_9, hM_10⟩ : ∃ z, z = va_up M h0 (some (.inr (5, [.ref bs, .ref vs, va_rf (og), .int (iN (z_8)), .int kv, .int rf]))) := ⟨_, rfl⟩
      rw [← hM_10] at hw
      have hR_11 : RGx G M_9 h0 bs vs og (iN (z_8)) kv rf qb qk qv fb fv := hR.obj hM_10 (fun w9 hw9 => hR.wk hw9)
      have sm_12 := xS1.up hM_10
      have h_13 := hBx_3.kept1 sm_12 (by decide) hR.1
      refine lv_aload_n hC.1 hC.2.1 dX3_keep_43 rfl (lv_at hl 2 rfl) ?_
      refine lv_aload_n hC.1 hC.2.1 dX3_keep_44 rfl (lv_at hl 1 rfl) ?_
      refine lv_iload hC.1 hC.2.1 dX3_keep_45 (lv_at hl 0 rfl) ?_
      refine x_callV hC hw (lv_size hl) (c_X0_valueAt l G h_13 (p0 := 0) (by omega)) gX3_keep_X0_valueAt rfl dv_X0_valueAt h_13.1 rfl rfl (Nat.le_of_ble_eq_true rfl) (by rw [hRf]; decide) (by rw [hRl]; decide) (by omega) (by omega) dX3_keep_47 (fun r9 M_14 H locs hq hw => ?_)
      obtain ⟨z_15, rfl, hM9, hz_15, hz_15b⟩ := hq
      rw [hM9] at hw
      show W p l e R s m args below meth c H locs _ _ _ (F0 m 50 ls [.int (iN (z_15)), .ref h0])
      refine x_put (fs2 := [.ref bs, .ref vs, va_rf (og), .int (iN (z_8)), .int (iN (z_15)), .int rf]) hC hw hR_11.1 rfl hinX3 tyX3 tyX3_ok nmX3 4 (by decide) (by decide +kernel) rfl rfl rfl (Nat.le_of_ble_eq_true rfl) rfl dX3_keep_50 (fun H locs hw => ?_)
      obtain ⟨M_16, hM_17⟩ : ∃ z, z = va_up M_9 h0 (some (.inr (5, [.ref bs, .ref vs, va_rf (og), .int (iN (z_8)), .int (iN (z_15)), .int rf]))) := ⟨_, rfl⟩
      rw [← hM_17] at hw
      have hR_18 : RGx G M_16 h0 bs vs og (iN (z_8)) (iN (z_15)) rf qb qk qv fb fv := hR_11.obj hM_17 (fun w9 hw9 => hR_11.wk hw9)
      have sm_19 := xS1.up hM_17
      have h_20 := h_13.kept1 sm_19 (by decide) hR_11.1
      refine lv_aload_n hC.1 hC.2.1 dX3_keep_53 rfl (lv_at hl 2 rfl) ?_
      refine x_getR hC hw hR_18.1 rfl hinX3 3 (by decide) (by decide +kernel) rfl dX3_keep_54 ?_
      have hrr_21 := iN_rng (iN (z_8))
      exact vx_ret (x_iret hC hw dX3_keep_57 (by omega) (by omega) ⟨(iN ((iN (z_8)).toInt)).toInt, by simp only [iN_asI], iN_rng _, ⟨_, _, _, _, _, _, _, _, _, _, hR_18⟩⟩)
    · refine lv_aload_n hC.1 hC.2.1 dX3_keep_21 rfl (lv_at hl 0 rfl) ?_
      refine x_callV hC hw (lv_size hl) (c_X0_size l G hBx_3) gX3_keep_X0_size rfl dv_X0_size hBx_3.1 rfl rfl (Nat.le_of_ble_eq_true rfl) (by rw [hRf]; decide) (by rw [hRl]; decide) (by omega) (by omega) dX3_keep_22 (fun r9 M_22 H locs hq hw => ?_)
      obtain ⟨rfl, hM9⟩ := hq
      rw [hM9] at hw
      show W p l e R s m args below meth c H locs _ _ _ (F0 m 25 ls [.int (iN (szx_3))])
      refine x_const hC dX3_keep_25 ?_
      refine x_isub hC dX3_keep_26 ?_
      refine lv_goto (tgt := 31) hC.1 hC.2.1 dX3_keep_27 (by decide) ?_
      refine lv_istore (lv' := [(4, .int (iN (szx_3 - 1))), (3, .ref (qb ((p0).toNat))), (0, .ref h0), (1, .int (iN (p0))), (2, .int (iN (p1)))]) hC.1 hC.2.1 dX3_keep_31 hl (by decide) rfl (fun ls hl => ?_)
      refine lv_aload_n hC.1 hC.2.1 dX3_keep_33 rfl (lv_at hl 2 rfl) ?_
      refine lv_aload_n hC.1 hC.2.1 dX3_keep_34 rfl (lv_at hl 1 rfl) ?_
      refine lv_iload hC.1 hC.2.1 dX3_keep_35 (lv_at hl 0 rfl) ?_
      refine x_callV hC hw (lv_size hl) (c_X0_keyAt l G hBx_3 (p0 := (szx_3 - 1)) (by omega)) gX3_keep_X0_keyAt rfl dv_X0_keyAt hBx_3.1 rfl rfl (Nat.le_of_ble_eq_true rfl) (by rw [hRf]; decide) (by rw [hRl]; decide) (by omega) (by omega) dX3_keep_37 (fun r9 M_23 H locs hq hw => ?_)
      obtain ⟨z_24, rfl, hM9, hz_24, hz_24b⟩ := hq
      rw [hM9] at hw
      show W p l e R s m args below meth c H locs _ _ _ (F0 m 40 ls [.int (iN (z_24)), .ref h0])
      refine x_put (fs2 := [.ref bs, .ref vs, va_rf (og), .int (iN (z_24)), .int kv, .int rf]) hC hw hR.1 rfl hinX3 tyX3 tyX3_ok nmX3 3 (by decide) (by decide +kernel) rfl rfl rfl (Nat.le_of_ble_eq_true rfl) rfl dX3_keep_40 (fun H locs hw => ?_)
      obtain ⟨M_25, hM_26⟩ : ∃ z, z = va_up M h0 (some (.inr (5, [.ref bs, .ref vs, va_rf (og), .int (iN (z_24)), .int kv, .int rf]))) := ⟨_, rfl⟩
      rw [← hM_26] at hw
      have hR_27 : RGx G M_25 h0 bs vs og (iN (z_24)) kv rf qb qk qv fb fv := hR.obj hM_26 (fun w9 hw9 => hR.wk hw9)
      have sm_28 := xS1.up hM_26
      have h_29 := hBx_3.kept1 sm_28 (by decide) hR.1
      refine lv_aload_n hC.1 hC.2.1 dX3_keep_43 rfl (lv_at hl 2 rfl) ?_
      refine lv_aload_n hC.1 hC.2.1 dX3_keep_44 rfl (lv_at hl 1 rfl) ?_
      refine lv_iload hC.1 hC.2.1 dX3_keep_45 (lv_at hl 0 rfl) ?_
      refine x_callV hC hw (lv_size hl) (c_X0_valueAt l G h_29 (p0 := (szx_3 - 1)) (by omega)) gX3_keep_X0_valueAt rfl dv_X0_valueAt h_29.1 rfl rfl (Nat.le_of_ble_eq_true rfl) (by rw [hRf]; decide) (by rw [hRl]; decide) (by omega) (by omega) dX3_keep_47 (fun r9 M_30 H locs hq hw => ?_)
      obtain ⟨z_31, rfl, hM9, hz_31, hz_31b⟩ := hq
      rw [hM9] at hw
      show W p l e R s m args below meth c H locs _ _ _ (F0 m 50 ls [.int (iN (z_31)), .ref h0])
      refine x_put (fs2 := [.ref bs, .ref vs, va_rf (og), .int (iN (z_24)), .int (iN (z_31)), .int rf]) hC hw hR_27.1 rfl hinX3 tyX3 tyX3_ok nmX3 4 (by decide) (by decide +kernel) rfl rfl rfl (Nat.le_of_ble_eq_true rfl) rfl dX3_keep_50 (fun H locs hw => ?_)
      obtain ⟨M_32, hM_33⟩ : ∃ z, z = va_up M_25 h0 (some (.inr (5, [.ref bs, .ref vs, va_rf (og), .int (iN (z_24)), .int (iN (z_31)), .int rf]))) := ⟨_, rfl⟩
      rw [← hM_33] at hw
      have hR_34 : RGx G M_32 h0 bs vs og (iN (z_24)) (iN (z_31)) rf qb qk qv fb fv := hR_27.obj hM_33 (fun w9 hw9 => hR_27.wk hw9)
      have sm_35 := xS1.up hM_33
      have h_36 := h_29.kept1 sm_35 (by decide) hR_27.1
      refine lv_aload_n hC.1 hC.2.1 dX3_keep_53 rfl (lv_at hl 2 rfl) ?_
      refine x_getR hC hw hR_34.1 rfl hinX3 3 (by decide) (by decide +kernel) rfl dX3_keep_54 ?_
      have hrr_37 := iN_rng (iN (z_24))
      exact vx_ret (x_iret hC hw dX3_keep_57 (by omega) (by omega) ⟨(iN ((iN (z_24)).toInt)).toInt, by simp only [iN_asI], iN_rng _, ⟨_, _, _, _, _, _, _, _, _, _, hR_34⟩⟩)
  · refine x_sipush hC dX3_keep_13 (by decide +kernel) ?_
    exact vx_ret (x_iret hC hw dX3_keep_16 (by omega) (by omega) ⟨(iN ((-10000))).toInt, by simp only [iN_asI], iN_rng _, ⟨_, _, _, _, _, _, _, _, _, _, hR⟩⟩)
set_option maxHeartbeats 4000000 in
set_option maxRecDepth 100000 in
theorem c_X3_brand (l : Launch) (G : xG) {M : HM} (hst : l.stackTraces = false) {h0 bs vs : Nat} {og : Option Nat} {kk kv rf : Int32} {qb qk qv : Nat → Nat} {fb fv : Nat → Option Nat} (hR : RGx G M h0 bs vs og kk kv rf qb qk qv fb fv) {p0 : Int} (hp0 : -2147483648 ≤ p0 ∧ p0 ≤ 2147483647) : xMetX l G yX3_brand wsX3_brand 7 110 1 6 [.ref h0, .int (iN (p0))] M (fun r M1 => ∃ z : Int, r = some (.int (iN z)) ∧ (-2147483648 ≤ z ∧ z ≤ 2147483647) ∧ RG G M1 h0 rf) (fun E M1 => E ∈ [xIA] ∧ RG G M1 h0 rf) := by
  refine x_introX (cc := cX3_brand) (maxL := 2) (ret := (some .int)) (by decide +kernel) rfl (Nat.le_of_ble_eq_true rfl) ?_
  intro p e R s m args below meth c ls hRf hRc hRs hRl htab hC hw hl
  have hinX3 : ∀ w ∈ wsX30, w ∈ wsX3_brand := by decide +kernel
  have hl : lv_has ls 2 [(0, .ref h0), (1, .int (iN (p0)))] := hl
  refine lv_iload_n hC.1 hC.2.1 dX3_brand_0 rfl (lv_at hl 1 rfl) ?_
  refine x_callSX hC hw (lv_size hl) (c_X3_checkValue l G (M := M) hst (p0 := p0) (by omega)) gX3_brand_X3_checkValue rfl dv_X3_checkValue_s rfl (Nat.le_of_ble_eq_true rfl) (by rw [hRf]; decide) (by rw [hRl]; decide) (by omega) (by omega) dX3_brand_1 (fun E ce q9 M_1 H locs hqx hw hcell hcv hcls => ?_) (fun r9 M_1 H locs hq hw => ?_)
  · rw [hqx.2] at hw
    exact x_outX hC hw htab hcell hcv hcls (by omega) (by omega) ⟨(show ∀ x ∈ [xIA], x ∈ [xIA] from by decide +kernel) E hqx.1, ⟨_, _, _, _, _, _, _, _, _, _, hR⟩⟩
  obtain ⟨rfl, hM9, hk_2⟩ := hq
  rw [hM9] at hw
  show W p l e R s m args below meth c H locs _ _ _ (F0 m 4 ls [])
  refine lv_aload_n hC.1 hC.2.1 dX3_brand_4 rfl (lv_at hl 0 rfl) ?_
  refine x_getR hC hw hR.1 rfl hinX3 3 (by decide) (by decide +kernel) rfl dX3_brand_5 ?_
  have hrr_3 := iN_rng kk
  refine x_sipush hC dX3_brand_8 (by decide +kernel) ?_
  refine x_icmp_ne (tgt := 20) hC ⟨by omega, by omega⟩ ⟨by omega, by omega⟩ dX3_brand_11 (by decide) (fun c_4 => ?_) (fun c_4 => ?_)
  · refine x_sipush hC dX3_brand_20 (by decide +kernel) ?_
    exact vx_ret (x_iret hC hw dX3_brand_23 (by omega) (by omega) ⟨(iN ((-20000))).toInt, by simp only [iN_asI], iN_rng _, ⟨_, _, _, _, _, _, _, _, _, _, hR⟩⟩)
  · refine x_sipush hC dX3_brand_14 (by decide +kernel) ?_
    refine lv_goto (tgt := 23) hC.1 hC.2.1 dX3_brand_17 (by decide) ?_
    exact vx_ret (x_iret hC hw dX3_brand_23 (by omega) (by omega) ⟨(iN ((-10000))).toInt, by simp only [iN_asI], iN_rng _, ⟨_, _, _, _, _, _, _, _, _, _, hR⟩⟩)
set_option maxHeartbeats 4000000 in
set_option maxRecDepth 100000 in
theorem c_X3_knock (l : Launch) (G : xG) {M : HM} {h0 bs vs : Nat} {og : Option Nat} {kk kv rf : Int32} {qb qk qv : Nat → Nat} {fb fv : Nat → Option Nat} (hR : RGx G M h0 bs vs og kk kv rf qb qk qv fb fv) : xMet l G yX3_knock wsX3_knock 0 0 0 0 [.ref h0] M (fun r M1 => r = some (.int (iN (rf.toInt + 1))) ∧ RG G M1 h0 (iN (rf.toInt + 1))) := by
  refine x_intro (cc := cX3_knock) (maxL := 1) (ret := (some .int)) (by decide +kernel) rfl (Nat.le_of_ble_eq_true rfl) ?_
  intro p e R s m args below meth c ls hRf hRc hRs hRl hC hw hl
  have hinX3 : ∀ w ∈ wsX30, w ∈ wsX3_knock := by decide +kernel
  have hl : lv_has ls 1 [(0, .ref h0)] := hl
  refine lv_aload_n hC.1 hC.2.1 dX3_knock_0 rfl (lv_at hl 0 rfl) ?_
  refine lv_dup hC.1 hC.2.1 dX3_knock_1 rfl ?_
  refine x_getR hC hw hR.1 rfl hinX3 5 (by decide) (by decide +kernel) rfl dX3_knock_2 ?_
  have hrr_1 := iN_rng rf
  refine x_const hC dX3_knock_5 ?_
  refine x_iadd hC dX3_knock_6 ?_
  refine x_put (fs2 := [.ref bs, .ref vs, va_rf (og), .int kk, .int kv, .int (iN (rf.toInt + 1))]) hC hw hR.1 rfl hinX3 tyX3 tyX3_ok nmX3 5 (by decide) (by decide +kernel) rfl rfl rfl (Nat.le_of_ble_eq_true rfl) rfl dX3_knock_7 (fun H locs hw => ?_)
  obtain ⟨M_2, hM_3⟩ : ∃ z, z = va_up M h0 (some (.inr (5, [.ref bs, .ref vs, va_rf (og), .int kk, .int kv, .int (iN (rf.toInt + 1))]))) := ⟨_, rfl⟩
  rw [← hM_3] at hw
  have hR_4 : RGx G M_2 h0 bs vs og kk kv (iN (rf.toInt + 1)) qb qk qv fb fv := hR.obj hM_3 (fun w9 hw9 => hR.wk hw9)
  have sm_5 := xS1.up hM_3
  refine lv_aload_n hC.1 hC.2.1 dX3_knock_10 rfl (lv_at hl 0 rfl) ?_
  refine x_getR hC hw hR_4.1 rfl hinX3 5 (by decide) (by decide +kernel) rfl dX3_knock_11 ?_
  have hrr_6 := iN_rng (iN (rf.toInt + 1))
  exact x_iret hC hw dX3_knock_14 (by omega) (by omega) ⟨by simp only [iN_asI], ⟨_, _, _, _, _, _, _, _, _, _, hR_4⟩⟩
set_option maxHeartbeats 4000000 in
set_option maxRecDepth 100000 in
theorem c_X1_init (l : Launch) (G : xG) {M : HM} {y : Nat} (hO : M y = some (.inr (3, [.null, .int 0, .int 0, .int 0, .int 0, .int 0, .int 0]))) {b k v : Nat} {no o t kc : Int32} {sz : Int} {fk fv : Nat → Int32} (hB : Bk G M b k v no o t kc sz fk fv) {p0 : Int} (hp0 : -2147483648 ≤ p0 ∧ p0 ≤ 2147483647) {p1 : Int} (hp1 : -2147483648 ≤ p1 ∧ p1 ≤ 2147483647) {p2 : Int} (hp2 : -2147483648 ≤ p2 ∧ p2 ≤ 2147483647) {p3 : Int} (hp3 : -2147483648 ≤ p3 ∧ p3 ≤ 2147483647) (hb1 : p1 = 0 ∨ p1 = 1) (hb3 : p3 = 0 ∨ p3 = 1) : xMet l G yX1_init wsX1_init 1 23 0 0 [.ref y, .ref b, .int (iN (p0)), .int (iN (p1)), .int (iN (p2)), .int (iN (p3))] M (fun r M1 => r = none ∧ (∃ sw ew : Int32, Vw M1 y b (iN (p0)) (iN (p2)) sw ew p1 p3) ∧ xS1 M M1 y) := by
  refine x_intro (cc := cX1_init) (maxL := 8) (ret := none) (by decide +kernel) rfl (Nat.le_of_ble_eq_true rfl) ?_
  intro p e R s m args below meth c ls hRf hRc hRs hRl hC hw hl
  obtain ⟨-, -, -, -, hs0, hs1⟩ := id hB
  have hinX1 : ∀ w ∈ wsX10, w ∈ wsX1_init := by decide +kernel
  have hl : lv_has ls 8 [(0, .ref y), (1, .ref b), (2, .int (iN (p0))), (3, .int (iN (p1))), (4, .int (iN (p2))), (5, .int (iN (p3)))] := hl
  refine lv_aload_n hC.1 hC.2.1 dX1_init_0 rfl (lv_at hl 0 rfl) ?_
  refine x_objInit hC (lv_size hl) (by decide +kernel) (by decide +kernel) (by decide +kernel) (by rw [hRf]; decide) (by rw [hRl]; exact Nat.le_of_ble_eq_true rfl) dX1_init_1 ?_
  refine lv_aload_n hC.1 hC.2.1 dX1_init_4 rfl (lv_at hl 0 rfl) ?_
  refine lv_aload_n hC.1 hC.2.1 dX1_init_5 rfl (lv_at hl 1 rfl) ?_
  refine x_putF (fs2 := [.ref b, .int 0, .int 0, .int 0, .int 0, .int 0, .int 0]) hC hw hO rfl hinX1 tyX1 tyX1_ok nmX1 0 (by decide) (by decide +kernel) rfl rfl rfl rfl (Nat.le_of_ble_eq_true rfl) rfl dX1_init_6 (fun H locs hw => ?_)
  obtain ⟨M_1, hM_2⟩ : ∃ z, z = va_up M y (some (.inr (3, [.ref b, .int 0, .int 0, .int 0, .int 0, .int 0, .int 0]))) := ⟨_, rfl⟩
  rw [← hM_2] at hw
  have hO_3 : M_1 y = some (.inr (3, [.ref b, .int 0, .int 0, .int 0, .int 0, .int 0, .int 0])) := by rw [hM_2, va_up_self]
  have sm_4 := xS1.up hM_2
  have h_5 := hB.kept1 sm_4 (by decide) hO
  refine lv_aload_n hC.1 hC.2.1 dX1_init_9 rfl (lv_at hl 0 rfl) ?_
  refine lv_iload_n hC.1 hC.2.1 dX1_init_10 rfl (lv_at hl 2 rfl) ?_
  refine x_putF (fs2 := [.ref b, .int (iN (p0)), .int 0, .int 0, .int 0, .int 0, .int 0]) hC hw hO_3 rfl hinX1 tyX1 tyX1_ok nmX1 1 (by decide) (by decide +kernel) rfl rfl rfl rfl (Nat.le_of_ble_eq_true rfl) rfl dX1_init_11 (fun H locs hw => ?_)
  obtain ⟨M_6, hM_7⟩ : ∃ z, z = va_up M_1 y (some (.inr (3, [.ref b, .int (iN (p0)), .int 0, .int 0, .int 0, .int 0, .int 0]))) := ⟨_, rfl⟩
  rw [← hM_7] at hw
  have hO_8 : M_6 y = some (.inr (3, [.ref b, .int (iN (p0)), .int 0, .int 0, .int 0, .int 0, .int 0])) := by rw [hM_7, va_up_self]
  have sm_9 := xS1.up hM_7
  have h_10 := h_5.kept1 sm_9 (by decide) hO_3
  refine lv_aload_n hC.1 hC.2.1 dX1_init_14 rfl (lv_at hl 0 rfl) ?_
  refine lv_iload_n hC.1 hC.2.1 dX1_init_15 rfl (lv_at hl 3 rfl) ?_
  refine x_putF (fs2 := [.ref b, .int (iN (p0)), .int 0, .int (iN (p1)), .int 0, .int 0, .int 0]) hC hw hO_8 rfl hinX1 tyX1 tyX1_ok nmX1 3 (by decide) (by decide +kernel) rfl rfl (by rcases hb1 with h9 | h9 <;> rw [h9] <;> rfl) (by rcases hb1 with h9 | h9 <;> rw [h9] <;> rfl) (Nat.le_of_ble_eq_true rfl) rfl dX1_init_16 (fun H locs hw => ?_)
  obtain ⟨M_11, hM_12⟩ : ∃ z, z = va_up M_6 y (some (.inr (3, [.ref b, .int (iN (p0)), .int 0, .int (iN (p1)), .int 0, .int 0, .int 0]))) := ⟨_, rfl⟩
  rw [← hM_12] at hw
  have hO_13 : M_11 y = some (.inr (3, [.ref b, .int (iN (p0)), .int 0, .int (iN (p1)), .int 0, .int 0, .int 0])) := by rw [hM_12, va_up_self]
  have sm_14 := xS1.up hM_12
  have h_15 := h_10.kept1 sm_14 (by decide) hO_8
  refine lv_aload_n hC.1 hC.2.1 dX1_init_19 rfl (lv_at hl 0 rfl) ?_
  refine lv_iload hC.1 hC.2.1 dX1_init_20 (lv_at hl 4 rfl) ?_
  refine x_putF (fs2 := [.ref b, .int (iN (p0)), .int (iN (p2)), .int (iN (p1)), .int 0, .int 0, .int 0]) hC hw hO_13 rfl hinX1 tyX1 tyX1_ok nmX1 2 (by decide) (by decide +kernel) rfl rfl rfl rfl (Nat.le_of_ble_eq_true rfl) rfl dX1_init_22 (fun H locs hw => ?_)
  obtain ⟨M_16, hM_17⟩ : ∃ z, z = va_up M_11 y (some (.inr (3, [.ref b, .int (iN (p0)), .int (iN (p2)), .int (iN (p1)), .int 0, .int 0, .int 0]))) := ⟨_, rfl⟩
  rw [← hM_17] at hw
  have hO_18 : M_16 y = some (.inr (3, [.ref b, .int (iN (p0)), .int (iN (p2)), .int (iN (p1)), .int 0, .int 0, .int 0])) := by rw [hM_17, va_up_self]
  have sm_19 := xS1.up hM_17
  have h_20 := h_15.kept1 sm_19 (by decide) hO_13
  refine lv_aload_n hC.1 hC.2.1 dX1_init_25 rfl (lv_at hl 0 rfl) ?_
  refine lv_iload hC.1 hC.2.1 dX1_init_26 (lv_at hl 5 rfl) ?_
  refine x_putF (fs2 := [.ref b, .int (iN (p0)), .int (iN (p2)), .int (iN (p1)), .int (iN (p3)), .int 0, .int 0]) hC hw hO_18 rfl hinX1 tyX1 tyX1_ok nmX1 4 (by decide) (by decide +kernel) rfl rfl (by rcases hb3 with h9 | h9 <;> rw [h9] <;> rfl) (by rcases hb3 with h9 | h9 <;> rw [h9] <;> rfl) (Nat.le_of_ble_eq_true rfl) rfl dX1_init_28 (fun H locs hw => ?_)
  obtain ⟨M_21, hM_22⟩ : ∃ z, z = va_up M_16 y (some (.inr (3, [.ref b, .int (iN (p0)), .int (iN (p2)), .int (iN (p1)), .int (iN (p3)), .int 0, .int 0]))) := ⟨_, rfl⟩
  rw [← hM_22] at hw
  have hO_23 : M_21 y = some (.inr (3, [.ref b, .int (iN (p0)), .int (iN (p2)), .int (iN (p1)), .int (iN (p3)), .int 0, .int 0])) := by rw [hM_22, va_up_self]
  have sm_24 := xS1.up hM_22
  have h_25 := h_20.kept1 sm_24 (by decide) hO_18
  refine lv_iload_n hC.1 hC.2.1 dX1_init_31 rfl (lv_at hl 2 rfl) ?_
  refine x_sipush hC dX1_init_32 (by decide +kernel) ?_
  refine x_icmp_ne (tgt := 42) hC ⟨by omega, by omega⟩ ⟨by omega, by omega⟩ dX1_init_35 (by decide) (fun c_26 => ?_) (fun c_26 => ?_)
  · refine lv_aload_n hC.1 hC.2.1 dX1_init_42 rfl (lv_at hl 1 rfl) ?_
    refine lv_iload_n hC.1 hC.2.1 dX1_init_43 rfl (lv_at hl 2 rfl) ?_
    refine x_callV hC hw (lv_size hl) (c_X0_weight l G h_25 (p0 := p0) (by omega)) gX1_init_X0_weight rfl dv_X0_weight h_25.1 rfl rfl (Nat.le_of_ble_eq_true rfl) (by rw [hRf]; decide) (by rw [hRl]; decide) (by omega) (by omega) dX1_init_44 (fun r9 M_27 H locs hq hw => ?_)
    obtain ⟨z_28, rfl, hM9, hz_28⟩ := hq
    rw [hM9] at hw
    show W p l e R s m args below meth c H locs _ _ _ (F0 m 47 ls [.int (iN (z_28))])
    refine lv_iload_n hC.1 hC.2.1 dX1_init_47 rfl (lv_at hl 3 rfl) ?_
    refine x_if_eq (tgt := 55) hC ⟨by omega, by omega⟩ dX1_init_48 (by decide) (fun c_29 => ?_) (fun c_29 => ?_)
    · refine x_const hC dX1_init_55 ?_
      refine x_iadd hC dX1_init_56 ?_
      obtain ⟨z_30, hz_30, hrz_30⟩ := x_nrm (z_28 + 1)
      rw [hz_30]
      refine lv_istore (lv' := [(6, .int (iN (z_30))), (0, .ref y), (1, .ref b), (2, .int (iN (p0))), (3, .int (iN (p1))), (4, .int (iN (p2))), (5, .int (iN (p3)))]) hC.1 hC.2.1 dX1_init_57 hl (by decide) rfl (fun ls hl => ?_)
      refine lv_iload hC.1 hC.2.1 dX1_init_59 (lv_at hl 5 rfl) ?_
      refine x_sipush hC dX1_init_61 (by decide +kernel) ?_
      refine x_icmp_ne (tgt := 73) hC ⟨by omega, by omega⟩ ⟨by omega, by omega⟩ dX1_init_64 (by decide) (fun c_31 => ?_) (fun c_31 => ?_)
      · refine lv_aload_n hC.1 hC.2.1 dX1_init_73 rfl (lv_at hl 2 rfl) ?_
        refine lv_iload hC.1 hC.2.1 dX1_init_74 (lv_at hl 5 rfl) ?_
        refine x_callV hC hw (lv_size hl) (c_X0_weight l G h_25 (p0 := p2) (by omega)) gX1_init_X0_weight rfl dv_X0_weight h_25.1 rfl rfl (Nat.le_of_ble_eq_true rfl) (by rw [hRf]; decide) (by rw [hRl]; decide) (by omega) (by omega) dX1_init_76 (fun r9 M_32 H locs hq hw => ?_)
        obtain ⟨z_33, rfl, hM9, hz_33⟩ := hq
        rw [hM9] at hw
        show W p l e R s m args below meth c H locs _ _ _ (F0 m 79 ls [.int (iN (z_33))])
        refine lv_iload hC.1 hC.2.1 dX1_init_79 (lv_at hl 6 rfl) ?_
        refine x_if_eq (tgt := 88) hC ⟨by omega, by omega⟩ dX1_init_81 (by decide) (fun c_34 => ?_) (fun c_34 => ?_)
        · refine x_const hC dX1_init_88 ?_
          refine x_iadd hC dX1_init_89 ?_
          obtain ⟨z_35, hz_35, hrz_35⟩ := x_nrm (z_33 + 0)
          rw [hz_35]
          refine lv_istore (lv' := [(7, .int (iN (z_35))), (6, .int (iN (z_30))), (0, .ref y), (1, .ref b), (2, .int (iN (p0))), (3, .int (iN (p1))), (4, .int (iN (p2))), (5, .int (iN (p3)))]) hC.1 hC.2.1 dX1_init_90 hl (by decide) rfl (fun ls hl => ?_)
          refine lv_aload_n hC.1 hC.2.1 dX1_init_92 rfl (lv_at hl 2 rfl) ?_
          refine lv_iload hC.1 hC.2.1 dX1_init_93 (lv_at hl 1 rfl) ?_
          refine x_putF (fs2 := [.ref b, .int (iN (p0)), .int (iN (p2)), .int (iN (p1)), .int (iN (p3)), .int (iN (z_30)), .int 0]) hC hw hO_23 rfl hinX1 tyX1 tyX1_ok nmX1 5 (by decide) (by decide +kernel) rfl rfl rfl rfl (Nat.le_of_ble_eq_true rfl) rfl dX1_init_95 (fun H locs hw => ?_)
          obtain ⟨M_36, hM_37⟩ : ∃ z, z = va_up M_21 y (some (.inr (3, [.ref b, .int (iN (p0)), .int (iN (p2)), .int (iN (p1)), .int (iN (p3)), .int (iN (z_30)), .int 0]))) := ⟨_, rfl⟩
          rw [← hM_37] at hw
          have hO_38 : M_36 y = some (.inr (3, [.ref b, .int (iN (p0)), .int (iN (p2)), .int (iN (p1)), .int (iN (p3)), .int (iN (z_30)), .int 0])) := by rw [hM_37, va_up_self]
          have sm_39 := xS1.up hM_37
          have h_40 := h_25.kept1 sm_39 (by decide) hO_23
          refine lv_aload_n hC.1 hC.2.1 dX1_init_98 rfl (lv_at hl 2 rfl) ?_
          refine lv_iload hC.1 hC.2.1 dX1_init_99 (lv_at hl 1 rfl) ?_
          refine lv_iload hC.1 hC.2.1 dX1_init_101 (lv_at hl 0 rfl) ?_
          refine x_max hC (lv_size hl) ⟨by omega, by omega⟩ ⟨by omega, by omega⟩ (by decide +kernel) (by decide +kernel) (by decide +kernel) (by decide +kernel) (by rw [hRf]; decide) (by rw [hRl]; exact Nat.le_of_ble_eq_true rfl) (by omega) (by omega) dX1_init_103 (fun z_41 hz_41 => ?_)
          refine x_putF (fs2 := [.ref b, .int (iN (p0)), .int (iN (p2)), .int (iN (p1)), .int (iN (p3)), .int (iN (z_30)), .int (iN (z_41))]) hC hw hO_38 rfl hinX1 tyX1 tyX1_ok nmX1 6 (by decide) (by decide +kernel) rfl rfl rfl rfl (Nat.le_of_ble_eq_true rfl) rfl dX1_init_106 (fun H locs hw => ?_)
          obtain ⟨M_42, hM_43⟩ : ∃ z, z = va_up M_36 y (some (.inr (3, [.ref b, .int (iN (p0)), .int (iN (p2)), .int (iN (p1)), .int (iN (p3)), .int (iN (z_30)), .int (iN (z_41))]))) := ⟨_, rfl⟩
          rw [← hM_43] at hw
          have hO_44 : M_42 y = some (.inr (3, [.ref b, .int (iN (p0)), .int (iN (p2)), .int (iN (p1)), .int (iN (p3)), .int (iN (z_30)), .int (iN (z_41))])) := by rw [hM_43, va_up_self]
          have sm_45 := xS1.up hM_43
          have h_46 := h_40.kept1 sm_45 (by decide) hO_38
          exact x_vret hC hw dX1_init_109 (by omega) (by omega) ⟨rfl, ⟨_, _, hO_44, by omega, by omega⟩, fun a q_y => (((((((sm_45 a q_y).trans (sm_39 a q_y)).trans (sm_24 a q_y)).trans (sm_19 a q_y)).trans (sm_14 a q_y)).trans (sm_9 a q_y)).trans (sm_4 a q_y))⟩
        · refine x_const hC dX1_init_84 ?_
          refine lv_goto (tgt := 89) hC.1 hC.2.1 dX1_init_85 (by decide) ?_
          refine x_iadd hC dX1_init_89 ?_
          obtain ⟨z_47, hz_47, hrz_47⟩ := x_nrm (z_33 + 1)
          rw [hz_47]
          refine lv_istore (lv' := [(7, .int (iN (z_47))), (6, .int (iN (z_30))), (0, .ref y), (1, .ref b), (2, .int (iN (p0))), (3, .int (iN (p1))), (4, .int (iN (p2))), (5, .int (iN (p3)))]) hC.1 hC.2.1 dX1_init_90 hl (by decide) rfl (fun ls hl => ?_)
          refine lv_aload_n hC.1 hC.2.1 dX1_init_92 rfl (lv_at hl 2 rfl) ?_
          refine lv_iload hC.1 hC.2.1 dX1_init_93 (lv_at hl 1 rfl) ?_
          refine x_putF (fs2 := [.ref b, .int (iN (p0)), .int (iN (p2)), .int (iN (p1)), .int (iN (p3)), .int (iN (z_30)), .int 0]) hC hw hO_23 rfl hinX1 tyX1 tyX1_ok nmX1 5 (by decide) (by decide +kernel) rfl rfl rfl rfl (Nat.le_of_ble_eq_true rfl) rfl dX1_init_95 (fun H locs hw => ?_)
          obtain ⟨M_48, hM_49⟩ : ∃ z, z = va_up M_21 y (some (.inr (3, [.ref b, .int (iN (p0)), .int (iN (p2)), .int (iN (p1)), .int (iN (p3)), .int (iN (z_30)), .int 0]))) := ⟨_, rfl⟩
          rw [← hM_49] at hw
          have hO_50 : M_48 y = some (.inr (3, [.ref b, .int (iN (p0)), .int (iN (p2)), .int (iN (p1)), .int (iN (p3)), .int (iN (z_30)), .int 0])) := by rw [hM_49, va_up_self]
          have sm_51 := xS1.up hM_49
          have h_52 := h_25.kept1 sm_51 (by decide) hO_23
          refine lv_aload_n hC.1 hC.2.1 dX1_init_98 rfl (lv_at hl 2 rfl) ?_
          refine lv_iload hC.1 hC.2.1 dX1_init_99 (lv_at hl 1 rfl) ?_
          refine lv_iload hC.1 hC.2.1 dX1_init_101 (lv_at hl 0 rfl) ?_
          refine x_max hC (lv_size hl) ⟨by omega, by omega⟩ ⟨by omega, by omega⟩ (by decide +kernel) (by decide +kernel) (by decide +kernel) (by decide +kernel) (by rw [hRf]; decide) (by rw [hRl]; exact Nat.le_of_ble_eq_true rfl) (by omega) (by omega) dX1_init_103 (fun z_53 hz_53 => ?_)
          refine x_putF (fs2 := [.ref b, .int (iN (p0)), .int (iN (p2)), .int (iN (p1)), .int (iN (p3)), .int (iN (z_30)), .int (iN (z_53))]) hC hw hO_50 rfl hinX1 tyX1 tyX1_ok nmX1 6 (by decide) (by decide +kernel) rfl rfl rfl rfl (Nat.le_of_ble_eq_true rfl) rfl dX1_init_106 (fun H locs hw => ?_)
          obtain ⟨M_54, hM_55⟩ : ∃ z, z = va_up M_48 y (some (.inr (3, [.ref b, .int (iN (p0)), .int (iN (p2)), .int (iN (p1)), .int (iN (p3)), .int (iN (z_30)), .int (iN (z_53))]))) := ⟨_, rfl⟩
          rw [← hM_55] at hw
          have hO_56 : M_54 y = some (.inr (3, [.ref b, .int (iN (p0)), .int (iN (p2)), .int (iN (p1)), .int (iN (p3)), .int (iN (z_30)), .int (iN (z_53))])) := by rw [hM_55, va_up_self]
          have sm_57 := xS1.up hM_55
          have h_58 := h_52.kept1 sm_57 (by decide) hO_50
          exact x_vret hC hw dX1_init_109 (by omega) (by omega) ⟨rfl, ⟨_, _, hO_56, by omega, by omega⟩, fun a q_y => (((((((sm_57 a q_y).trans (sm_51 a q_y)).trans (sm_24 a q_y)).trans (sm_19 a q_y)).trans (sm_14 a q_y)).trans (sm_9 a q_y)).trans (sm_4 a q_y))⟩
      · refine x_sipush hC dX1_init_67 (by decide +kernel) ?_
        refine lv_goto (tgt := 90) hC.1 hC.2.1 dX1_init_70 (by decide) ?_
        refine lv_istore (lv' := [(7, .int (iN (1024))), (6, .int (iN (z_30))), (0, .ref y), (1, .ref b), (2, .int (iN (p0))), (3, .int (iN (p1))), (4, .int (iN (p2))), (5, .int (iN (p3)))]) hC.1 hC.2.1 dX1_init_90 hl (by decide) rfl (fun ls hl => ?_)
        refine lv_aload_n hC.1 hC.2.1 dX1_init_92 rfl (lv_at hl 2 rfl) ?_
        refine lv_iload hC.1 hC.2.1 dX1_init_93 (lv_at hl 1 rfl) ?_
        refine x_putF (fs2 := [.ref b, .int (iN (p0)), .int (iN (p2)), .int (iN (p1)), .int (iN (p3)), .int (iN (z_30)), .int 0]) hC hw hO_23 rfl hinX1 tyX1 tyX1_ok nmX1 5 (by decide) (by decide +kernel) rfl rfl rfl rfl (Nat.le_of_ble_eq_true rfl) rfl dX1_init_95 (fun H locs hw => ?_)
        obtain ⟨M_59, hM_60⟩ : ∃ z, z = va_up M_21 y (some (.inr (3, [.ref b, .int (iN (p0)), .int (iN (p2)), .int (iN (p1)), .int (iN (p3)), .int (iN (z_30)), .int 0]))) := ⟨_, rfl⟩
        rw [← hM_60] at hw
        have hO_61 : M_59 y = some (.inr (3, [.ref b, .int (iN (p0)), .int (iN (p2)), .int (iN (p1)), .int (iN (p3)), .int (iN (z_30)), .int 0])) := by rw [hM_60, va_up_self]
        have sm_62 := xS1.up hM_60
        have h_63 := h_25.kept1 sm_62 (by decide) hO_23
        refine lv_aload_n hC.1 hC.2.1 dX1_init_98 rfl (lv_at hl 2 rfl) ?_
        refine lv_iload hC.1 hC.2.1 dX1_init_99 (lv_at hl 1 rfl) ?_
        refine lv_iload hC.1 hC.2.1 dX1_init_101 (lv_at hl 0 rfl) ?_
        refine x_max hC (lv_size hl) ⟨by omega, by omega⟩ ⟨by omega, by omega⟩ (by decide +kernel) (by decide +kernel) (by decide +kernel) (by decide +kernel) (by rw [hRf]; decide) (by rw [hRl]; exact Nat.le_of_ble_eq_true rfl) (by omega) (by omega) dX1_init_103 (fun z_64 hz_64 => ?_)
        refine x_putF (fs2 := [.ref b, .int (iN (p0)), .int (iN (p2)), .int (iN (p1)), .int (iN (p3)), .int (iN (z_30)), .int (iN (z_64))]) hC hw hO_61 rfl hinX1 tyX1 tyX1_ok nmX1 6 (by decide) (by decide +kernel) rfl rfl rfl rfl (Nat.le_of_ble_eq_true rfl) rfl dX1_init_106 (fun H locs hw => ?_)
        obtain ⟨M_65, hM_66⟩ : ∃ z, z = va_up M_59 y (some (.inr (3, [.ref b, .int (iN (p0)), .int (iN (p2)), .int (iN (p1)), .int (iN (p3)), .int (iN (z_30)), .int (iN (z_64))]))) := ⟨_, rfl⟩
        rw [← hM_66] at hw
        have hO_67 : M_65 y = some (.inr (3, [.ref b, .int (iN (p0)), .int (iN (p2)), .int (iN (p1)), .int (iN (p3)), .int (iN (z_30)), .int (iN (z_64))])) := by rw [hM_66, va_up_self]
        have sm_68 := xS1.up hM_66
        have h_69 := h_63.kept1 sm_68 (by decide) hO_61
        exact x_vret hC hw dX1_init_109 (by omega) (by omega) ⟨rfl, ⟨_, _, hO_67, by omega, by omega⟩, fun a q_y => (((((((sm_68 a q_y).trans (sm_62 a q_y)).trans (sm_24 a q_y)).trans (sm_19 a q_y)).trans (sm_14 a q_y)).trans (sm_9 a q_y)).trans (sm_4 a q_y))⟩
    · refine x_const hC dX1_init_51 ?_
      refine lv_goto (tgt := 56) hC.1 hC.2.1 dX1_init_52 (by decide) ?_
      refine x_iadd hC dX1_init_56 ?_
      obtain ⟨z_70, hz_70, hrz_70⟩ := x_nrm (z_28 + 0)
      rw [hz_70]
      refine lv_istore (lv' := [(6, .int (iN (z_70))), (0, .ref y), (1, .ref b), (2, .int (iN (p0))), (3, .int (iN (p1))), (4, .int (iN (p2))), (5, .int (iN (p3)))]) hC.1 hC.2.1 dX1_init_57 hl (by decide) rfl (fun ls hl => ?_)
      refine lv_iload hC.1 hC.2.1 dX1_init_59 (lv_at hl 5 rfl) ?_
      refine x_sipush hC dX1_init_61 (by decide +kernel) ?_
      refine x_icmp_ne (tgt := 73) hC ⟨by omega, by omega⟩ ⟨by omega, by omega⟩ dX1_init_64 (by decide) (fun c_71 => ?_) (fun c_71 => ?_)
      · refine lv_aload_n hC.1 hC.2.1 dX1_init_73 rfl (lv_at hl 2 rfl) ?_
        refine lv_iload hC.1 hC.2.1 dX1_init_74 (lv_at hl 5 rfl) ?_
        refine x_callV hC hw (lv_size hl) (c_X0_weight l G h_25 (p0 := p2) (by omega)) gX1_init_X0_weight rfl dv_X0_weight h_25.1 rfl rfl (Nat.le_of_ble_eq_true rfl) (by rw [hRf]; decide) (by rw [hRl]; decide) (by omega) (by omega) dX1_init_76 (fun r9 M_72 H locs hq hw => ?_)
        obtain ⟨z_73, rfl, hM9, hz_73⟩ := hq
        rw [hM9] at hw
        show W p l e R s m args below meth c H locs _ _ _ (F0 m 79 ls [.int (iN (z_73))])
        refine lv_iload hC.1 hC.2.1 dX1_init_79 (lv_at hl 6 rfl) ?_
        refine x_if_eq (tgt := 88) hC ⟨by omega, by omega⟩ dX1_init_81 (by decide) (fun c_74 => ?_) (fun c_74 => ?_)
        · refine x_const hC dX1_init_88 ?_
          refine x_iadd hC dX1_init_89 ?_
          obtain ⟨z_75, hz_75, hrz_75⟩ := x_nrm (z_73 + 0)
          rw [hz_75]
          refine lv_istore (lv' := [(7, .int (iN (z_75))), (6, .int (iN (z_70))), (0, .ref y), (1, .ref b), (2, .int (iN (p0))), (3, .int (iN (p1))), (4, .int (iN (p2))), (5, .int (iN (p3)))]) hC.1 hC.2.1 dX1_init_90 hl (by decide) rfl (fun ls hl => ?_)
          refine lv_aload_n hC.1 hC.2.1 dX1_init_92 rfl (lv_at hl 2 rfl) ?_
          refine lv_iload hC.1 hC.2.1 dX1_init_93 (lv_at hl 1 rfl) ?_
          refine x_putF (fs2 := [.ref b, .int (iN (p0)), .int (iN (p2)), .int (iN (p1)), .int (iN (p3)), .int (iN (z_70)), .int 0]) hC hw hO_23 rfl hinX1 tyX1 tyX1_ok nmX1 5 (by decide) (by decide +kernel) rfl rfl rfl rfl (Nat.le_of_ble_eq_true rfl) rfl dX1_init_95 (fun H locs hw => ?_)
          obtain ⟨M_76, hM_77⟩ : ∃ z, z = va_up M_21 y (some (.inr (3, [.ref b, .int (iN (p0)), .int (iN (p2)), .int (iN (p1)), .int (iN (p3)), .int (iN (z_70)), .int 0]))) := ⟨_, rfl⟩
          rw [← hM_77] at hw
          have hO_78 : M_76 y = some (.inr (3, [.ref b, .int (iN (p0)), .int (iN (p2)), .int (iN (p1)), .int (iN (p3)), .int (iN (z_70)), .int 0])) := by rw [hM_77, va_up_self]
          have sm_79 := xS1.up hM_77
          have h_80 := h_25.kept1 sm_79 (by decide) hO_23
          refine lv_aload_n hC.1 hC.2.1 dX1_init_98 rfl (lv_at hl 2 rfl) ?_
          refine lv_iload hC.1 hC.2.1 dX1_init_99 (lv_at hl 1 rfl) ?_
          refine lv_iload hC.1 hC.2.1 dX1_init_101 (lv_at hl 0 rfl) ?_
          refine x_max hC (lv_size hl) ⟨by omega, by omega⟩ ⟨by omega, by omega⟩ (by decide +kernel) (by decide +kernel) (by decide +kernel) (by decide +kernel) (by rw [hRf]; decide) (by rw [hRl]; exact Nat.le_of_ble_eq_true rfl) (by omega) (by omega) dX1_init_103 (fun z_81 hz_81 => ?_)
          refine x_putF (fs2 := [.ref b, .int (iN (p0)), .int (iN (p2)), .int (iN (p1)), .int (iN (p3)), .int (iN (z_70)), .int (iN (z_81))]) hC hw hO_78 rfl hinX1 tyX1 tyX1_ok nmX1 6 (by decide) (by decide +kernel) rfl rfl rfl rfl (Nat.le_of_ble_eq_true rfl) rfl dX1_init_106 (fun H locs hw => ?_)
          obtain ⟨M_82, hM_83⟩ : ∃ z, z = va_up M_76 y (some (.inr (3, [.ref b, .int (iN (p0)), .int (iN (p2)), .int (iN (p1)), .int (iN (p3)), .int (iN (z_70)), .int (iN (z_81))]))) := ⟨_, rfl⟩
          rw [← hM_83] at hw
          have hO_84 : M_82 y = some (.inr (3, [.ref b, .int (iN (p0)), .int (iN (p2)), .int (iN (p1)), .int (iN (p3)), .int (iN (z_70)), .int (iN (z_81))])) := by rw [hM_83, va_up_self]
          have sm_85 := xS1.up hM_83
          have h_86 := h_80.kept1 sm_85 (by decide) hO_78
          exact x_vret hC hw dX1_init_109 (by omega) (by omega) ⟨rfl, ⟨_, _, hO_84, by omega, by omega⟩, fun a q_y => (((((((sm_85 a q_y).trans (sm_79 a q_y)).trans (sm_24 a q_y)).trans (sm_19 a q_y)).trans (sm_14 a q_y)).trans (sm_9 a q_y)).trans (sm_4 a q_y))⟩
        · refine x_const hC dX1_init_84 ?_
          refine lv_goto (tgt := 89) hC.1 hC.2.1 dX1_init_85 (by decide) ?_
          refine x_iadd hC dX1_init_89 ?_
          obtain ⟨z_87, hz_87, hrz_87⟩ := x_nrm (z_73 + 1)
          rw [hz_87]
          refine lv_istore (lv' := [(7, .int (iN (z_87))), (6, .int (iN (z_70))), (0, .ref y), (1, .ref b), (2, .int (iN (p0))), (3, .int (iN (p1))), (4, .int (iN (p2))), (5, .int (iN (p3)))]) hC.1 hC.2.1 dX1_init_90 hl (by decide) rfl (fun ls hl => ?_)
          refine lv_aload_n hC.1 hC.2.1 dX1_init_92 rfl (lv_at hl 2 rfl) ?_
          refine lv_iload hC.1 hC.2.1 dX1_init_93 (lv_at hl 1 rfl) ?_
          refine x_putF (fs2 := [.ref b, .int (iN (p0)), .int (iN (p2)), .int (iN (p1)), .int (iN (p3)), .int (iN (z_70)), .int 0]) hC hw hO_23 rfl hinX1 tyX1 tyX1_ok nmX1 5 (by decide) (by decide +kernel) rfl rfl rfl rfl (Nat.le_of_ble_eq_true rfl) rfl dX1_init_95 (fun H locs hw => ?_)
          obtain ⟨M_88, hM_89⟩ : ∃ z, z = va_up M_21 y (some (.inr (3, [.ref b, .int (iN (p0)), .int (iN (p2)), .int (iN (p1)), .int (iN (p3)), .int (iN (z_70)), .int 0]))) := ⟨_, rfl⟩
          rw [← hM_89] at hw
          have hO_90 : M_88 y = some (.inr (3, [.ref b, .int (iN (p0)), .int (iN (p2)), .int (iN (p1)), .int (iN (p3)), .int (iN (z_70)), .int 0])) := by rw [hM_89, va_up_self]
          have sm_91 := xS1.up hM_89
          have h_92 := h_25.kept1 sm_91 (by decide) hO_23
          refine lv_aload_n hC.1 hC.2.1 dX1_init_98 rfl (lv_at hl 2 rfl) ?_
          refine lv_iload hC.1 hC.2.1 dX1_init_99 (lv_at hl 1 rfl) ?_
          refine lv_iload hC.1 hC.2.1 dX1_init_101 (lv_at hl 0 rfl) ?_
          refine x_max hC (lv_size hl) ⟨by omega, by omega⟩ ⟨by omega, by omega⟩ (by decide +kernel) (by decide +kernel) (by decide +kernel) (by decide +kernel) (by rw [hRf]; decide) (by rw [hRl]; exact Nat.le_of_ble_eq_true rfl) (by omega) (by omega) dX1_init_103 (fun z_93 hz_93 => ?_)
          refine x_putF (fs2 := [.ref b, .int (iN (p0)), .int (iN (p2)), .int (iN (p1)), .int (iN (p3)), .int (iN (z_70)), .int (iN (z_93))]) hC hw hO_90 rfl hinX1 tyX1 tyX1_ok nmX1 6 (by decide) (by decide +kernel) rfl rfl rfl rfl (Nat.le_of_ble_eq_true rfl) rfl dX1_init_106 (fun H locs hw => ?_)
          obtain ⟨M_94, hM_95⟩ : ∃ z, z = va_up M_88 y (some (.inr (3, [.ref b, .int (iN (p0)), .int (iN (p2)), .int (iN (p1)), .int (iN (p3)), .int (iN (z_70)), .int (iN (z_93))]))) := ⟨_, rfl⟩
          rw [← hM_95] at hw
          have hO_96 : M_94 y = some (.inr (3, [.ref b, .int (iN (p0)), .int (iN (p2)), .int (iN (p1)), .int (iN (p3)), .int (iN (z_70)), .int (iN (z_93))])) := by rw [hM_95, va_up_self]
          have sm_97 := xS1.up hM_95
          have h_98 := h_92.kept1 sm_97 (by decide) hO_90
          exact x_vret hC hw dX1_init_109 (by omega) (by omega) ⟨rfl, ⟨_, _, hO_96, by omega, by omega⟩, fun a q_y => (((((((sm_97 a q_y).trans (sm_91 a q_y)).trans (sm_24 a q_y)).trans (sm_19 a q_y)).trans (sm_14 a q_y)).trans (sm_9 a q_y)).trans (sm_4 a q_y))⟩
      · refine x_sipush hC dX1_init_67 (by decide +kernel) ?_
        refine lv_goto (tgt := 90) hC.1 hC.2.1 dX1_init_70 (by decide) ?_
        refine lv_istore (lv' := [(7, .int (iN (1024))), (6, .int (iN (z_70))), (0, .ref y), (1, .ref b), (2, .int (iN (p0))), (3, .int (iN (p1))), (4, .int (iN (p2))), (5, .int (iN (p3)))]) hC.1 hC.2.1 dX1_init_90 hl (by decide) rfl (fun ls hl => ?_)
        refine lv_aload_n hC.1 hC.2.1 dX1_init_92 rfl (lv_at hl 2 rfl) ?_
        refine lv_iload hC.1 hC.2.1 dX1_init_93 (lv_at hl 1 rfl) ?_
        refine x_putF (fs2 := [.ref b, .int (iN (p0)), .int (iN (p2)), .int (iN (p1)), .int (iN (p3)), .int (iN (z_70)), .int 0]) hC hw hO_23 rfl hinX1 tyX1 tyX1_ok nmX1 5 (by decide) (by decide +kernel) rfl rfl rfl rfl (Nat.le_of_ble_eq_true rfl) rfl dX1_init_95 (fun H locs hw => ?_)
        obtain ⟨M_99, hM_100⟩ : ∃ z, z = va_up M_21 y (some (.inr (3, [.ref b, .int (iN (p0)), .int (iN (p2)), .int (iN (p1)), .int (iN (p3)), .int (iN (z_70)), .int 0]))) := ⟨_, rfl⟩
        rw [← hM_100] at hw
        have hO_101 : M_99 y = some (.inr (3, [.ref b, .int (iN (p0)), .int (iN (p2)), .int (iN (p1)), .int (iN (p3)), .int (iN (z_70)), .int 0])) := by rw [hM_100, va_up_self]
        have sm_102 := xS1.up hM_100
        have h_103 := h_25.kept1 sm_102 (by decide) hO_23
        refine lv_aload_n hC.1 hC.2.1 dX1_init_98 rfl (lv_at hl 2 rfl) ?_
        refine lv_iload hC.1 hC.2.1 dX1_init_99 (lv_at hl 1 rfl) ?_
        refine lv_iload hC.1 hC.2.1 dX1_init_101 (lv_at hl 0 rfl) ?_
        refine x_max hC (lv_size hl) ⟨by omega, by omega⟩ ⟨by omega, by omega⟩ (by decide +kernel) (by decide +kernel) (by decide +kernel) (by decide +kernel) (by rw [hRf]; decide) (by rw [hRl]; exact Nat.le_of_ble_eq_true rfl) (by omega) (by omega) dX1_init_103 (fun z_104 hz_104 => ?_)
        refine x_putF (fs2 := [.ref b, .int (iN (p0)), .int (iN (p2)), .int (iN (p1)), .int (iN (p3)), .int (iN (z_70)), .int (iN (z_104))]) hC hw hO_101 rfl hinX1 tyX1 tyX1_ok nmX1 6 (by decide) (by decide +kernel) rfl rfl rfl rfl (Nat.le_of_ble_eq_true rfl) rfl dX1_init_106 (fun H locs hw => ?_)
        obtain ⟨M_105, hM_106⟩ : ∃ z, z = va_up M_99 y (some (.inr (3, [.ref b, .int (iN (p0)), .int (iN (p2)), .int (iN (p1)), .int (iN (p3)), .int (iN (z_70)), .int (iN (z_104))]))) := ⟨_, rfl⟩
        rw [← hM_106] at hw
        have hO_107 : M_105 y = some (.inr (3, [.ref b, .int (iN (p0)), .int (iN (p2)), .int (iN (p1)), .int (iN (p3)), .int (iN (z_70)), .int (iN (z_104))])) := by rw [hM_106, va_up_self]
        have sm_108 := xS1.up hM_106
        have h_109 := h_103.kept1 sm_108 (by decide) hO_101
        exact x_vret hC hw dX1_init_109 (by omega) (by omega) ⟨rfl, ⟨_, _, hO_107, by omega, by omega⟩, fun a q_y => (((((((sm_108 a q_y).trans (sm_102 a q_y)).trans (sm_24 a q_y)).trans (sm_19 a q_y)).trans (sm_14 a q_y)).trans (sm_9 a q_y)).trans (sm_4 a q_y))⟩
  · refine x_const hC dX1_init_38 ?_
    refine lv_goto (tgt := 57) hC.1 hC.2.1 dX1_init_39 (by decide) ?_
    refine lv_istore (lv' := [(6, .int (iN (0))), (0, .ref y), (1, .ref b), (2, .int (iN (p0))), (3, .int (iN (p1))), (4, .int (iN (p2))), (5, .int (iN (p3)))]) hC.1 hC.2.1 dX1_init_57 hl (by decide) rfl (fun ls hl => ?_)
    refine lv_iload hC.1 hC.2.1 dX1_init_59 (lv_at hl 5 rfl) ?_
    refine x_sipush hC dX1_init_61 (by decide +kernel) ?_
    refine x_icmp_ne (tgt := 73) hC ⟨by omega, by omega⟩ ⟨by omega, by omega⟩ dX1_init_64 (by decide) (fun c_110 => ?_) (fun c_110 => ?_)
    · refine lv_aload_n hC.1 hC.2.1 dX1_init_73 rfl (lv_at hl 2 rfl) ?_
      refine lv_iload hC.1 hC.2.1 dX1_init_74 (lv_at hl 5 rfl) ?_
      refine x_callV hC hw (lv_size hl) (c_X0_weight l G h_25 (p0 := p2) (by omega)) gX1_init_X0_weight rfl dv_X0_weight h_25.1 rfl rfl (Nat.le_of_ble_eq_true rfl) (by rw [hRf]; decide) (by rw [hRl]; decide) (by omega) (by omega) dX1_init_76 (fun r9 M_111 H locs hq hw => ?_)
      obtain ⟨z_112, rfl, hM9, hz_112⟩ := hq
      rw [hM9] at hw
      show W p l e R s m args below meth c H locs _ _ _ (F0 m 79 ls [.int (iN (z_112))])
      refine lv_iload hC.1 hC.2.1 dX1_init_79 (lv_at hl 6 rfl) ?_
      refine x_if_eq (tgt := 88) hC ⟨by omega, by omega⟩ dX1_init_81 (by decide) (fun c_113 => ?_) (fun c_113 => ?_)
      · refine x_const hC dX1_init_88 ?_
        refine x_iadd hC dX1_init_89 ?_
        obtain ⟨z_114, hz_114, hrz_114⟩ := x_nrm (z_112 + 0)
        rw [hz_114]
        refine lv_istore (lv' := [(7, .int (iN (z_114))), (6, .int (iN (0))), (0, .ref y), (1, .ref b), (2, .int (iN (p0))), (3, .int (iN (p1))), (4, .int (iN (p2))), (5, .int (iN (p3)))]) hC.1 hC.2.1 dX1_init_90 hl (by decide) rfl (fun ls hl => ?_)
        refine lv_aload_n hC.1 hC.2.1 dX1_init_92 rfl (lv_at hl 2 rfl) ?_
        refine lv_iload hC.1 hC.2.1 dX1_init_93 (lv_at hl 1 rfl) ?_
        refine x_putF (fs2 := [.ref b, .int (iN (p0)), .int (iN (p2)), .int (iN (p1)), .int (iN (p3)), .int (iN (0)), .int 0]) hC hw hO_23 rfl hinX1 tyX1 tyX1_ok nmX1 5 (by decide) (by decide +kernel) rfl rfl rfl rfl (Nat.le_of_ble_eq_true rfl) rfl dX1_init_95 (fun H locs hw => ?_)
        obtain ⟨M_115, hM_116⟩ : ∃ z, z = va_up M_21 y (some (.inr (3, [.ref b, .int (iN (p0)), .int (iN (p2)), .int (iN (p1)), .int (iN (p3)), .int (iN (0)), .int 0]))) := ⟨_, rfl⟩
        rw [← hM_116] at hw
        have hO_117 : M_115 y = some (.inr (3, [.ref b, .int (iN (p0)), .int (iN (p2)), .int (iN (p1)), .int (iN (p3)), .int (iN (0)), .int 0])) := by rw [hM_116, va_up_self]
        have sm_118 := xS1.up hM_116
        have h_119 := h_25.kept1 sm_118 (by decide) hO_23
        refine lv_aload_n hC.1 hC.2.1 dX1_init_98 rfl (lv_at hl 2 rfl) ?_
        refine lv_iload hC.1 hC.2.1 dX1_init_99 (lv_at hl 1 rfl) ?_
        refine lv_iload hC.1 hC.2.1 dX1_init_101 (lv_at hl 0 rfl) ?_
        refine x_max hC (lv_size hl) ⟨by omega, by omega⟩ ⟨by omega, by omega⟩ (by decide +kernel) (by decide +kernel) (by decide +kernel) (by decide +kernel) (by rw [hRf]; decide) (by rw [hRl]; exact Nat.le_of_ble_eq_true rfl) (by omega) (by omega) dX1_init_103 (fun z_120 hz_120 => ?_)
        refine x_putF (fs2 := [.ref b, .int (iN (p0)), .int (iN (p2)), .int (iN (p1)), .int (iN (p3)), .int (iN (0)), .int (iN (z_120))]) hC hw hO_117 rfl hinX1 tyX1 tyX1_ok nmX1 6 (by decide) (by decide +kernel) rfl rfl rfl rfl (Nat.le_of_ble_eq_true rfl) rfl dX1_init_106 (fun H locs hw => ?_)
        obtain ⟨M_121, hM_122⟩ : ∃ z, z = va_up M_115 y (some (.inr (3, [.ref b, .int (iN (p0)), .int (iN (p2)), .int (iN (p1)), .int (iN (p3)), .int (iN (0)), .int (iN (z_120))]))) := ⟨_, rfl⟩
        rw [← hM_122] at hw
        have hO_123 : M_121 y = some (.inr (3, [.ref b, .int (iN (p0)), .int (iN (p2)), .int (iN (p1)), .int (iN (p3)), .int (iN (0)), .int (iN (z_120))])) := by rw [hM_122, va_up_self]
        have sm_124 := xS1.up hM_122
        have h_125 := h_119.kept1 sm_124 (by decide) hO_117
        exact x_vret hC hw dX1_init_109 (by omega) (by omega) ⟨rfl, ⟨_, _, hO_123, by omega, by omega⟩, fun a q_y => (((((((sm_124 a q_y).trans (sm_118 a q_y)).trans (sm_24 a q_y)).trans (sm_19 a q_y)).trans (sm_14 a q_y)).trans (sm_9 a q_y)).trans (sm_4 a q_y))⟩
      · refine x_const hC dX1_init_84 ?_
        refine lv_goto (tgt := 89) hC.1 hC.2.1 dX1_init_85 (by decide) ?_
        refine x_iadd hC dX1_init_89 ?_
        obtain ⟨z_126, hz_126, hrz_126⟩ := x_nrm (z_112 + 1)
        rw [hz_126]
        refine lv_istore (lv' := [(7, .int (iN (z_126))), (6, .int (iN (0))), (0, .ref y), (1, .ref b), (2, .int (iN (p0))), (3, .int (iN (p1))), (4, .int (iN (p2))), (5, .int (iN (p3)))]) hC.1 hC.2.1 dX1_init_90 hl (by decide) rfl (fun ls hl => ?_)
        refine lv_aload_n hC.1 hC.2.1 dX1_init_92 rfl (lv_at hl 2 rfl) ?_
        refine lv_iload hC.1 hC.2.1 dX1_init_93 (lv_at hl 1 rfl) ?_
        refine x_putF (fs2 := [.ref b, .int (iN (p0)), .int (iN (p2)), .int (iN (p1)), .int (iN (p3)), .int (iN (0)), .int 0]) hC hw hO_23 rfl hinX1 tyX1 tyX1_ok nmX1 5 (by decide) (by decide +kernel) rfl rfl rfl rfl (Nat.le_of_ble_eq_true rfl) rfl dX1_init_95 (fun H locs hw => ?_)
        obtain ⟨M_127, hM_128⟩ : ∃ z, z = va_up M_21 y (some (.inr (3, [.ref b, .int (iN (p0)), .int (iN (p2)), .int (iN (p1)), .int (iN (p3)), .int (iN (0)), .int 0]))) := ⟨_, rfl⟩
        rw [← hM_128] at hw
        have hO_129 : M_127 y = some (.inr (3, [.ref b, .int (iN (p0)), .int (iN (p2)), .int (iN (p1)), .int (iN (p3)), .int (iN (0)), .int 0])) := by rw [hM_128, va_up_self]
        have sm_130 := xS1.up hM_128
        have h_131 := h_25.kept1 sm_130 (by decide) hO_23
        refine lv_aload_n hC.1 hC.2.1 dX1_init_98 rfl (lv_at hl 2 rfl) ?_
        refine lv_iload hC.1 hC.2.1 dX1_init_99 (lv_at hl 1 rfl) ?_
        refine lv_iload hC.1 hC.2.1 dX1_init_101 (lv_at hl 0 rfl) ?_
        refine x_max hC (lv_size hl) ⟨by omega, by omega⟩ ⟨by omega, by omega⟩ (by decide +kernel) (by decide +kernel) (by decide +kernel) (by decide +kernel) (by rw [hRf]; decide) (by rw [hRl]; exact Nat.le_of_ble_eq_true rfl) (by omega) (by omega) dX1_init_103 (fun z_132 hz_132 => ?_)
        refine x_putF (fs2 := [.ref b, .int (iN (p0)), .int (iN (p2)), .int (iN (p1)), .int (iN (p3)), .int (iN (0)), .int (iN (z_132))]) hC hw hO_129 rfl hinX1 tyX1 tyX1_ok nmX1 6 (by decide) (by decide +kernel) rfl rfl rfl rfl (Nat.le_of_ble_eq_true rfl) rfl dX1_init_106 (fun H locs hw => ?_)
        obtain ⟨M_133, hM_134⟩ : ∃ z, z = va_up M_127 y (some (.inr (3, [.ref b, .int (iN (p0)), .int (iN (p2)), .int (iN (p1)), .int (iN (p3)), .int (iN (0)), .int (iN (z_132))]))) := ⟨_, rfl⟩
        rw [← hM_134] at hw
        have hO_135 : M_133 y = some (.inr (3, [.ref b, .int (iN (p0)), .int (iN (p2)), .int (iN (p1)), .int (iN (p3)), .int (iN (0)), .int (iN (z_132))])) := by rw [hM_134, va_up_self]
        have sm_136 := xS1.up hM_134
        have h_137 := h_131.kept1 sm_136 (by decide) hO_129
        exact x_vret hC hw dX1_init_109 (by omega) (by omega) ⟨rfl, ⟨_, _, hO_135, by omega, by omega⟩, fun a q_y => (((((((sm_136 a q_y).trans (sm_130 a q_y)).trans (sm_24 a q_y)).trans (sm_19 a q_y)).trans (sm_14 a q_y)).trans (sm_9 a q_y)).trans (sm_4 a q_y))⟩
    · refine x_sipush hC dX1_init_67 (by decide +kernel) ?_
      refine lv_goto (tgt := 90) hC.1 hC.2.1 dX1_init_70 (by decide) ?_
      refine lv_istore (lv' := [(7, .int (iN (1024))), (6, .int (iN (0))), (0, .ref y), (1, .ref b), (2, .int (iN (p0))), (3, .int (iN (p1))), (4, .int (iN (p2))), (5, .int (iN (p3)))]) hC.1 hC.2.1 dX1_init_90 hl (by decide) rfl (fun ls hl => ?_)
      refine lv_aload_n hC.1 hC.2.1 dX1_init_92 rfl (lv_at hl 2 rfl) ?_
      refine lv_iload hC.1 hC.2.1 dX1_init_93 (lv_at hl 1 rfl) ?_
      refine x_putF (fs2 := [.ref b, .int (iN (p0)), .int (iN (p2)), .int (iN (p1)), .int (iN (p3)), .int (iN (0)), .int 0]) hC hw hO_23 rfl hinX1 tyX1 tyX1_ok nmX1 5 (by decide) (by decide +kernel) rfl rfl rfl rfl (Nat.le_of_ble_eq_true rfl) rfl dX1_init_95 (fun H locs hw => ?_)
      obtain ⟨M_138, hM_139⟩ : ∃ z, z = va_up M_21 y (some (.inr (3, [.ref b, .int (iN (p0)), .int (iN (p2)), .int (iN (p1)), .int (iN (p3)), .int (iN (0)), .int 0]))) := ⟨_, rfl⟩
      rw [← hM_139] at hw
      have hO_140 : M_138 y = some (.inr (3, [.ref b, .int (iN (p0)), .int (iN (p2)), .int (iN (p1)), .int (iN (p3)), .int (iN (0)), .int 0])) := by rw [hM_139, va_up_self]
      have sm_141 := xS1.up hM_139
      have h_142 := h_25.kept1 sm_141 (by decide) hO_23
      refine lv_aload_n hC.1 hC.2.1 dX1_init_98 rfl (lv_at hl 2 rfl) ?_
      refine lv_iload hC.1 hC.2.1 dX1_init_99 (lv_at hl 1 rfl) ?_
      refine lv_iload hC.1 hC.2.1 dX1_init_101 (lv_at hl 0 rfl) ?_
      refine x_max hC (lv_size hl) ⟨by omega, by omega⟩ ⟨by omega, by omega⟩ (by decide +kernel) (by decide +kernel) (by decide +kernel) (by decide +kernel) (by rw [hRf]; decide) (by rw [hRl]; exact Nat.le_of_ble_eq_true rfl) (by omega) (by omega) dX1_init_103 (fun z_143 hz_143 => ?_)
      refine x_putF (fs2 := [.ref b, .int (iN (p0)), .int (iN (p2)), .int (iN (p1)), .int (iN (p3)), .int (iN (0)), .int (iN (z_143))]) hC hw hO_140 rfl hinX1 tyX1 tyX1_ok nmX1 6 (by decide) (by decide +kernel) rfl rfl rfl rfl (Nat.le_of_ble_eq_true rfl) rfl dX1_init_106 (fun H locs hw => ?_)
      obtain ⟨M_144, hM_145⟩ : ∃ z, z = va_up M_138 y (some (.inr (3, [.ref b, .int (iN (p0)), .int (iN (p2)), .int (iN (p1)), .int (iN (p3)), .int (iN (0)), .int (iN (z_143))]))) := ⟨_, rfl⟩
      rw [← hM_145] at hw
      have hO_146 : M_144 y = some (.inr (3, [.ref b, .int (iN (p0)), .int (iN (p2)), .int (iN (p1)), .int (iN (p3)), .int (iN (0)), .int (iN (z_143))])) := by rw [hM_145, va_up_self]
      have sm_147 := xS1.up hM_145
      have h_148 := h_142.kept1 sm_147 (by decide) hO_140
      exact x_vret hC hw dX1_init_109 (by omega) (by omega) ⟨rfl, ⟨_, _, hO_146, by omega, by omega⟩, fun a q_y => (((((((sm_147 a q_y).trans (sm_141 a q_y)).trans (sm_24 a q_y)).trans (sm_19 a q_y)).trans (sm_14 a q_y)).trans (sm_9 a q_y)).trans (sm_4 a q_y))⟩
set_option maxHeartbeats 4000000 in
set_option maxRecDepth 100000 in
theorem c_X2_init (l : Launch) (G : xG) {M : HM} {w : Nat} (hO : M w = some (.inr (4, [.null, .int 0, .int (iN (0)), .int 0, .int 0]))) {b k v : Nat} {no o t kc : Int32} {sz : Int} {fk fv : Nat → Int32} {y : Nat} {lo up sw ew : Int32} {li ui : Int} (hV : Vw M y b lo up sw ew li ui) (hB : Bk G M b k v no o t kc sz fk fv) : xMet l G yX2_init wsX2_init 1 20 0 0 [.ref w, .ref y] M (fun r M1 => r = none ∧ (∃ ps t kc : Int32, Wk M1 w y ps t kc 0) ∧ xS1 M M1 w) := by
  refine x_intro (cc := cX2_init) (maxL := 2) (ret := none) (by decide +kernel) rfl (Nat.le_of_ble_eq_true rfl) ?_
  intro p e R s m args below meth c ls hRf hRc hRs hRl hC hw hl
  obtain ⟨-, -, -, -, hs0, hs1⟩ := id hB
  have hinX2 : ∀ w ∈ wsX20, w ∈ wsX2_init := by decide +kernel
  have hl : lv_has ls 2 [(0, .ref w), (1, .ref y)] := hl
  refine lv_aload_n hC.1 hC.2.1 dX2_init_0 rfl (lv_at hl 0 rfl) ?_
  refine x_objInit hC (lv_size hl) (by decide +kernel) (by decide +kernel) (by decide +kernel) (by rw [hRf]; decide) (by rw [hRl]; exact Nat.le_of_ble_eq_true rfl) dX2_init_1 ?_
  refine lv_aload_n hC.1 hC.2.1 dX2_init_4 rfl (lv_at hl 0 rfl) ?_
  refine lv_aload_n hC.1 hC.2.1 dX2_init_5 rfl (lv_at hl 1 rfl) ?_
  refine x_putF (fs2 := [.ref y, .int 0, .int (iN (0)), .int 0, .int 0]) hC hw hO rfl hinX2 tyX2 tyX2_ok nmX2 0 (by decide) (by decide +kernel) rfl rfl rfl rfl (Nat.le_of_ble_eq_true rfl) rfl dX2_init_6 (fun H locs hw => ?_)
  obtain ⟨M_1, hM_2⟩ : ∃ z, z = va_up M w (some (.inr (4, [.ref y, .int 0, .int (iN (0)), .int 0, .int 0]))) := ⟨_, rfl⟩
  rw [← hM_2] at hw
  have hO_3 : M_1 w = some (.inr (4, [.ref y, .int 0, .int (iN (0)), .int 0, .int 0])) := by rw [hM_2, va_up_self]
  have sm_4 := xS1.up hM_2
  have h_5 := hB.kept1 sm_4 (by decide) hO
  have h_6 : Vw _ y b lo up sw ew li ui := And.intro (x_k1 sm_4 hO (by decide) hV.1) hV.2
  refine lv_aload_n hC.1 hC.2.1 dX2_init_9 rfl (lv_at hl 0 rfl) ?_
  refine x_sipush hC dX2_init_10 (by decide +kernel) ?_
  refine x_put (fs2 := [.ref y, .int (iN ((-10000))), .int (iN (0)), .int 0, .int 0]) hC hw hO_3 rfl hinX2 tyX2 tyX2_ok nmX2 1 (by decide) (by decide +kernel) rfl rfl rfl (Nat.le_of_ble_eq_true rfl) rfl dX2_init_13 (fun H locs hw => ?_)
  obtain ⟨M_7, hM_8⟩ : ∃ z, z = va_up M_1 w (some (.inr (4, [.ref y, .int (iN ((-10000))), .int (iN (0)), .int 0, .int 0]))) := ⟨_, rfl⟩
  rw [← hM_8] at hw
  have hO_9 : M_7 w = some (.inr (4, [.ref y, .int (iN ((-10000))), .int (iN (0)), .int 0, .int 0])) := by rw [hM_8, va_up_self]
  have sm_10 := xS1.up hM_8
  have h_11 := h_5.kept1 sm_10 (by decide) hO_3
  have h_12 : Vw _ y b lo up sw ew li ui := And.intro (x_k1 sm_10 hO_3 (by decide) h_6.1) h_6.2
  refine lv_aload_n hC.1 hC.2.1 dX2_init_16 rfl (lv_at hl 0 rfl) ?_
  refine lv_aload_n hC.1 hC.2.1 dX2_init_17 rfl (lv_at hl 1 rfl) ?_
  refine x_callV hC hw (lv_size hl) (c_X1_book l G h_12 h_11) gX2_init_X1_book rfl dv_X1_book h_12.1 rfl rfl (Nat.le_of_ble_eq_true rfl) (by rw [hRf]; decide) (by rw [hRl]; decide) (by omega) (by omega) dX2_init_18 (fun r9 M_13 H locs hq hw => ?_)
  obtain ⟨rfl, hM9⟩ := hq
  rw [hM9] at hw
  show W p l e R s m args below meth c H locs _ _ _ (F0 m 21 ls [.ref b, .ref w])
  refine x_callV hC hw (lv_size hl) (c_X0_keyChanges l G h_11) gX2_init_X0_keyChanges rfl dv_X0_keyChanges h_11.1 rfl rfl (Nat.le_of_ble_eq_true rfl) (by rw [hRf]; decide) (by rw [hRl]; decide) (by omega) (by omega) dX2_init_21 (fun r9 M_14 H locs hq hw => ?_)
  obtain ⟨rfl, hM9⟩ := hq
  rw [hM9] at hw
  have hrr_15 := iN_rng kc
  show W p l e R s m args below meth c H locs _ _ _ (F0 m 24 ls [.int (iN (kc.toInt)), .ref w])
  refine x_put (fs2 := [.ref y, .int (iN ((-10000))), .int (iN (0)), .int 0, .int (iN (kc.toInt))]) hC hw hO_9 rfl hinX2 tyX2 tyX2_ok nmX2 4 (by decide) (by decide +kernel) rfl rfl rfl (Nat.le_of_ble_eq_true rfl) rfl dX2_init_24 (fun H locs hw => ?_)
  obtain ⟨M_16, hM_17⟩ : ∃ z, z = va_up M_7 w (some (.inr (4, [.ref y, .int (iN ((-10000))), .int (iN (0)), .int 0, .int (iN (kc.toInt))]))) := ⟨_, rfl⟩
  rw [← hM_17] at hw
  have hO_18 : M_16 w = some (.inr (4, [.ref y, .int (iN ((-10000))), .int (iN (0)), .int 0, .int (iN (kc.toInt))])) := by rw [hM_17, va_up_self]
  have sm_19 := xS1.up hM_17
  have h_20 := h_11.kept1 sm_19 (by decide) hO_9
  have h_21 : Vw _ y b lo up sw ew li ui := And.intro (x_k1 sm_19 hO_9 (by decide) h_12.1) h_12.2
  exact x_vret hC hw dX2_init_27 (by omega) (by omega) ⟨rfl, ⟨_, _, _, hO_18, by omega⟩, fun a q_w => (((sm_19 a q_w).trans (sm_10 a q_w)).trans (sm_4 a q_w))⟩
set_option maxHeartbeats 4000000 in
set_option maxRecDepth 100000 in
theorem c_X3_openViews (l : Launch) (G : xG) {M : HM} {h0 bs vs : Nat} {og : Option Nat} {kk kv rf : Int32} {qb qk qv : Nat → Nat} {fb fv : Nat → Option Nat} (hR : RGx G M h0 bs vs og kk kv rf qb qk qv fb fv) : xMet l G yX3_openViews wsX3_openViews 0 0 0 0 [.ref h0] M (fun r M1 => ∃ z : Int, r = some (.int (iN z)) ∧ M1 = M ∧ (0 ≤ z ∧ z ≤ 4)) := by
  refine x_intro (cc := cX3_openViews) (maxL := 3) (ret := (some .int)) (by decide +kernel) rfl (Nat.le_of_ble_eq_true rfl) ?_
  intro p e R s m args below meth c ls hRf hRc hRs hRl hC hw hl
  have hinX3 : ∀ w ∈ wsX30, w ∈ wsX3_openViews := by decide +kernel
  have hl : lv_has ls 3 [(0, .ref h0)] := hl
  refine x_const hC dX3_openViews_0 ?_
  refine lv_istore_n (lv' := [(1, .int (iN (0))), (0, .ref h0)]) hC.1 hC.2.1 dX3_openViews_1 rfl hl (by decide) rfl (fun ls hl => ?_)
  refine x_const hC dX3_openViews_2 ?_
  refine lv_istore_n (lv' := [(2, .int (iN (0))), (1, .int (iN (0))), (0, .ref h0)]) hC.1 hC.2.1 dX3_openViews_3 rfl hl (by decide) rfl (fun ls hl => ?_)
  suffices hloop4 : ∀ (n9 : Nat) (n : Int) (j : Int) (H : Heap) (locs : List Loc) (ls : Array Slot), (hmu : (4 - j).toNat < n9) → (hi0 : 0 ≤ j) → (hi1 : j ≤ 4) → (hi2 : 0 ≤ n) → (hi3 : n ≤ j) → xD G (xA M s.heap.size) s M H locs → lv_has ls 3 [(0, .ref h0), (1, .int (iN (n))), (2, .int (iN (j)))] → W p l e R s m args below meth c H locs _ _ _ (F0 m 4 ls []) by
    exact hloop4 _ 0 0  _ _ _ (Nat.lt_succ_self _) (by omega) (by omega) (by omega) (by omega) hw (lv_sub hl [2, 1, 0] rfl)
  intro n9
  induction n9 with
  | zero => intro n j  H locs ls hmu; exact absurd hmu (Nat.not_lt_zero _)
  | succ n9 ih4 =>
    intro n j  H locs ls hmu hi0 hi1 hi2 hi3 hw hl
    refine lv_iload_n hC.1 hC.2.1 dX3_openViews_4 rfl (lv_at hl 2 rfl) ?_
    refine lv_aload_n hC.1 hC.2.1 dX3_openViews_5 rfl (lv_at hl 0 rfl) ?_
    refine x_get hC hw hR.1 rfl hinX3 1 (by decide) (by decide +kernel) rfl dX3_openViews_6 ?_
    refine x_alen hC hw 3 hR.2.2.1 rfl dX3_openViews_9 ?_
    refine x_icmp_ge (tgt := 31) hC ⟨by omega, by omega⟩ ⟨by omega, by omega⟩ dX3_openViews_10 (by decide) (fun c_1 => ?_) (fun c_1 => ?_)
    · refine lv_iload_n hC.1 hC.2.1 dX3_openViews_31 rfl (lv_at hl 1 rfl) ?_
      exact x_iret hC hw dX3_openViews_32 (by omega) (by omega) ⟨n, rfl, rfl, by omega⟩
    · refine lv_aload_n hC.1 hC.2.1 dX3_openViews_13 rfl (lv_at hl 0 rfl) ?_
      refine x_get hC hw hR.1 rfl hinX3 1 (by decide) (by decide +kernel) rfl dX3_openViews_14 ?_
      refine lv_iload_n hC.1 hC.2.1 dX3_openViews_17 rfl (lv_at hl 2 rfl) ?_
      refine x_aldq hC hw 3 hR.2.2.1 rfl (by omega) (by omega) (by omega) dX3_openViews_18 ?_
      rcases hy_3 : fv (j).toNat with _ | y_2
      · show W p l e R s m args below meth c _ _ _ _ _ (F0 m 19 ls [.null])
        refine lv_ifnullN (tgt := 25) hC.1 hC.2.1 dX3_openViews_19 (by decide) ?_
        refine x_iinc (lv' := [(2, .int (iN (j + 1))), (0, .ref h0), (1, .int (iN (n)))]) hC dX3_openViews_25 hl (k := 2) rfl (by decide) rfl (fun ls hl => ?_)
        refine lv_goto (tgt := 4) hC.1 hC.2.1 dX3_openViews_28 (by decide) ?_
        exact ih4 n (j + 1)  _ _ _ (by omega) (by omega) (by omega) (by omega) (by omega) hw (lv_sub hl [1, 2, 0] rfl)
      · obtain ⟨ix_4, lox_4, upx_4, swx_4, ewx_4, lix_4, uix_4, hix_4, hVx_4⟩ := (hR.vw (show (j).toNat < 4 by omega) hy_3)
        have hlix_4 := hVx_4.2.1
        have huix_4 := hVx_4.2.2
        obtain ⟨nox_5, ox_5, tx_5, kcx_5, szx_5, fkx_5, fwx_5, hBx_5⟩ := hR.bk hix_4
        obtain ⟨-, -, -, -, hsax_5, hsbx_5⟩ := id hBx_5
        show W p l e R s m args below meth c _ _ _ _ _ (F0 m 19 ls [.ref y_2])
        refine lv_ifnull hC.1 hC.2.1 dX3_openViews_19 ?_
        refine x_iinc (lv' := [(1, .int (iN (n + 1))), (0, .ref h0), (2, .int (iN (j)))]) hC dX3_openViews_22 hl (k := 1) rfl (by decide) rfl (fun ls hl => ?_)
        refine x_iinc (lv' := [(2, .int (iN (j + 1))), (1, .int (iN (n + 1))), (0, .ref h0)]) hC dX3_openViews_25 hl (k := 2) rfl (by decide) rfl (fun ls hl => ?_)
        refine lv_goto (tgt := 4) hC.1 hC.2.1 dX3_openViews_28 (by decide) ?_
        exact ih4 (n + 1) (j + 1)  _ _ _ (by omega) (by omega) (by omega) (by omega) (by omega) hw (lv_sub hl [2, 1, 0] rfl)
set_option maxHeartbeats 4000000 in
set_option maxRecDepth 100000 in
theorem c_X3_viewsOnto (l : Launch) (G : xG) {M : HM} {h0 bs vs : Nat} {og : Option Nat} {kk kv rf : Int32} {qb qk qv : Nat → Nat} {fb fv : Nat → Option Nat} (hR : RGx G M h0 bs vs og kk kv rf qb qk qv fb fv) {bb : Nat} : xMet l G yX3_viewsOnto wsX3_viewsOnto 1 20 0 0 [.ref h0, .ref bb] M (fun r M1 => ∃ z : Int, r = some (.int (iN z)) ∧ M1 = M ∧ (0 ≤ z ∧ z ≤ 4)) := by
  refine x_intro (cc := cX3_viewsOnto) (maxL := 4) (ret := (some .int)) (by decide +kernel) rfl (Nat.le_of_ble_eq_true rfl) ?_
  intro p e R s m args below meth c ls hRf hRc hRs hRl hC hw hl
  have hinX3 : ∀ w ∈ wsX30, w ∈ wsX3_viewsOnto := by decide +kernel
  have hl : lv_has ls 4 [(0, .ref h0), (1, .ref bb)] := hl
  refine x_const hC dX3_viewsOnto_0 ?_
  refine lv_istore_n (lv' := [(2, .int (iN (0))), (0, .ref h0), (1, .ref bb)]) hC.1 hC.2.1 dX3_viewsOnto_1 rfl hl (by decide) rfl (fun ls hl => ?_)
  refine x_const hC dX3_viewsOnto_2 ?_
  refine lv_istore_n (lv' := [(3, .int (iN (0))), (2, .int (iN (0))), (0, .ref h0), (1, .ref bb)]) hC.1 hC.2.1 dX3_viewsOnto_3 rfl hl (by decide) rfl (fun ls hl => ?_)
  suffices hloop4 : ∀ (n9 : Nat) (n : Int) (j : Int) (H : Heap) (locs : List Loc) (ls : Array Slot), (hmu : (4 - j).toNat < n9) → (hi0 : 0 ≤ j) → (hi1 : j ≤ 4) → (hi2 : 0 ≤ n) → (hi3 : n ≤ j) → xD G (xA M s.heap.size) s M H locs → lv_has ls 4 [(0, .ref h0), (1, .ref bb), (2, .int (iN (n))), (3, .int (iN (j)))] → W p l e R s m args below meth c H locs _ _ _ (F0 m 4 ls []) by
    exact hloop4 _ 0 0  _ _ _ (Nat.lt_succ_self _) (by omega) (by omega) (by omega) (by omega) hw (lv_sub hl [2, 3, 1, 0] rfl)
  intro n9
  induction n9 with
  | zero => intro n j  H locs ls hmu; exact absurd hmu (Nat.not_lt_zero _)
  | succ n9 ih4 =>
    intro n j  H locs ls hmu hi0 hi1 hi2 hi3 hw hl
    refine lv_iload_n hC.1 hC.2.1 dX3_viewsOnto_4 rfl (lv_at hl 3 rfl) ?_
    refine lv_aload_n hC.1 hC.2.1 dX3_viewsOnto_5 rfl (lv_at hl 0 rfl) ?_
    refine x_get hC hw hR.1 rfl hinX3 1 (by decide) (by decide +kernel) rfl dX3_viewsOnto_6 ?_
    refine x_alen hC hw 3 hR.2.2.1 rfl dX3_viewsOnto_9 ?_
    refine x_icmp_ge (tgt := 44) hC ⟨by omega, by omega⟩ ⟨by omega, by omega⟩ dX3_viewsOnto_10 (by decide) (fun c_1 => ?_) (fun c_1 => ?_)
    · refine lv_iload_n hC.1 hC.2.1 dX3_viewsOnto_44 rfl (lv_at hl 2 rfl) ?_
      exact x_iret hC hw dX3_viewsOnto_45 (by omega) (by omega) ⟨n, rfl, rfl, by omega⟩
    · refine lv_aload_n hC.1 hC.2.1 dX3_viewsOnto_13 rfl (lv_at hl 0 rfl) ?_
      refine x_get hC hw hR.1 rfl hinX3 1 (by decide) (by decide +kernel) rfl dX3_viewsOnto_14 ?_
      refine lv_iload_n hC.1 hC.2.1 dX3_viewsOnto_17 rfl (lv_at hl 3 rfl) ?_
      refine x_aldq hC hw 3 hR.2.2.1 rfl (by omega) (by omega) (by omega) dX3_viewsOnto_18 ?_
      rcases hy_3 : fv (j).toNat with _ | y_2
      · show W p l e R s m args below meth c _ _ _ _ _ (F0 m 19 ls [.null])
        refine lv_ifnullN (tgt := 38) hC.1 hC.2.1 dX3_viewsOnto_19 (by decide) ?_
        refine x_iinc (lv' := [(3, .int (iN (j + 1))), (0, .ref h0), (1, .ref bb), (2, .int (iN (n)))]) hC dX3_viewsOnto_38 hl (k := 3) rfl (by decide) rfl (fun ls hl => ?_)
        refine lv_goto (tgt := 4) hC.1 hC.2.1 dX3_viewsOnto_41 (by decide) ?_
        exact ih4 n (j + 1)  _ _ _ (by omega) (by omega) (by omega) (by omega) (by omega) hw (lv_sub hl [1, 2, 3, 0] rfl)
      · obtain ⟨ix_4, lox_4, upx_4, swx_4, ewx_4, lix_4, uix_4, hix_4, hVx_4⟩ := (hR.vw (show (j).toNat < 4 by omega) hy_3)
        have hlix_4 := hVx_4.2.1
        have huix_4 := hVx_4.2.2
        obtain ⟨nox_5, ox_5, tx_5, kcx_5, szx_5, fkx_5, fwx_5, hBx_5⟩ := hR.bk hix_4
        obtain ⟨-, -, -, -, hsax_5, hsbx_5⟩ := id hBx_5
        show W p l e R s m args below meth c _ _ _ _ _ (F0 m 19 ls [.ref y_2])
        refine lv_ifnull hC.1 hC.2.1 dX3_viewsOnto_19 ?_
        refine lv_aload_n hC.1 hC.2.1 dX3_viewsOnto_22 rfl (lv_at hl 0 rfl) ?_
        refine x_get hC hw hR.1 rfl hinX3 1 (by decide) (by decide +kernel) rfl dX3_viewsOnto_23 ?_
        refine lv_iload_n hC.1 hC.2.1 dX3_viewsOnto_26 rfl (lv_at hl 3 rfl) ?_
        refine x_aldq hC hw 3 hR.2.2.1 rfl (by omega) (by omega) (by omega) dX3_viewsOnto_27 ?_
        rw [hy_3]
        show W p l e R s m args below meth c _ _ _ _ _ (F0 m 28 ls [.ref y_2])
        refine x_callV hC hw (lv_size hl) (c_X1_book l G hVx_4 hBx_5) gX3_viewsOnto_X1_book rfl dv_X1_book hVx_4.1 rfl rfl (Nat.le_of_ble_eq_true rfl) (by rw [hRf]; decide) (by rw [hRl]; decide) (by omega) (by omega) dX3_viewsOnto_28 (fun r9 M_6 H locs hq hw => ?_)
        obtain ⟨rfl, hM9⟩ := hq
        rw [hM9] at hw
        show W p l e R s m args below meth c H locs _ _ _ (F0 m 31 ls [.ref (qb ix_4)])
        refine lv_aload_n hC.1 hC.2.1 dX3_viewsOnto_31 rfl (lv_at hl 1 rfl) ?_
        refine x_acmp_ne (tgt := 38) hC dX3_viewsOnto_32 (by decide) (fun c_7 => ?_) (fun c_7 => ?_)
        · refine x_iinc (lv' := [(3, .int (iN (j + 1))), (0, .ref h0), (1, .ref bb), (2, .int (iN (n)))]) hC dX3_viewsOnto_38 hl (k := 3) rfl (by decide) rfl (fun ls hl => ?_)
          refine lv_goto (tgt := 4) hC.1 hC.2.1 dX3_viewsOnto_41 (by decide) ?_
          exact ih4 n (j + 1)  _ _ _ (by omega) (by omega) (by omega) (by omega) (by omega) hw (lv_sub hl [1, 2, 3, 0] rfl)
        · refine x_iinc (lv' := [(2, .int (iN (n + 1))), (0, .ref h0), (1, .ref bb), (3, .int (iN (j)))]) hC dX3_viewsOnto_35 hl (k := 2) rfl (by decide) rfl (fun ls hl => ?_)
          refine x_iinc (lv' := [(3, .int (iN (j + 1))), (2, .int (iN (n + 1))), (0, .ref h0), (1, .ref bb)]) hC dX3_viewsOnto_38 hl (k := 3) rfl (by decide) rfl (fun ls hl => ?_)
          refine lv_goto (tgt := 4) hC.1 hC.2.1 dX3_viewsOnto_41 (by decide) ?_
          exact ih4 (n + 1) (j + 1)  _ _ _ (by omega) (by omega) (by omega) (by omega) (by omega) hw (lv_sub hl [2, 3, 1, 0] rfl)
set_option maxHeartbeats 4000000 in
set_option maxRecDepth 100000 in
theorem c_X3_checkViewIsFree (l : Launch) (G : xG) {M : HM} (hst : l.stackTraces = false) {h0 bs vs : Nat} {og : Option Nat} {kk kv rf : Int32} {qb qk qv : Nat → Nat} {fb fv : Nat → Option Nat} (hR : RGx G M h0 bs vs og kk kv rf qb qk qv fb fv) : xMetX l G yX3_checkViewIsFree wsX3_checkViewIsFree 6 90 1 6 [.ref h0] M (fun r M1 => r = none ∧ M1 = M) (fun E M1 => E ∈ [xIS] ∧ M1 = M) := by
  refine x_introX (cc := cX3_checkViewIsFree) (maxL := 1) (ret := none) (by decide +kernel) rfl (Nat.le_of_ble_eq_true rfl) ?_
  intro p e R s m args below meth c ls hRf hRc hRs hRl htab hC hw hl
  have hinX3 : ∀ w ∈ wsX30, w ∈ wsX3_checkViewIsFree := by decide +kernel
  have hl : lv_has ls 1 [(0, .ref h0)] := hl
  refine lv_aload_n hC.1 hC.2.1 dX3_checkViewIsFree_0 rfl (lv_at hl 0 rfl) ?_
  refine x_callV hC hw (lv_size hl) (c_X3_openViews l G hR) gX3_checkViewIsFree_X3_openViews rfl dv_X3_openViews hR.1 rfl rfl (Nat.le_of_ble_eq_true rfl) (by rw [hRf]; decide) (by rw [hRl]; decide) (by omega) (by omega) dX3_checkViewIsFree_1 (fun r9 M_1 H locs hq hw => ?_)
  obtain ⟨z_2, rfl, hM9, hz_2⟩ := hq
  rw [hM9] at hw
  show W p l e R s m args below meth c H locs _ _ _ (F0 m 4 ls [.int (iN (z_2))])
  refine lv_aload_n hC.1 hC.2.1 dX3_checkViewIsFree_4 rfl (lv_at hl 0 rfl) ?_
  refine x_get hC hw hR.1 rfl hinX3 1 (by decide) (by decide +kernel) rfl dX3_checkViewIsFree_5 ?_
  refine x_alen hC hw 3 hR.2.2.1 rfl dX3_checkViewIsFree_8 ?_
  refine x_icmp_lt (tgt := 23) hC ⟨by omega, by omega⟩ ⟨by omega, by omega⟩ dX3_checkViewIsFree_9 (by decide) (fun c_3 => ?_) (fun c_3 => ?_)
  · exact vx_ret (x_vret hC hw dX3_checkViewIsFree_23 (by omega) (by omega) ⟨rfl, rfl⟩)
  · exact x_throwW (cls := "java/lang/IllegalStateException") (text := "4 views are open") (names := ["java/lang/RuntimeException", "java/lang/Exception"]) hC hw hst htab (lv_size hl) (by decide +kernel) (by decide +kernel) (by decide +kernel) (by decide +kernel) (by decide +kernel) (by decide +kernel) (by decide +kernel) (xlit_Rangeledger_321) (by decide +kernel) dX3_checkViewIsFree_12 dX3_checkViewIsFree_15 dX3_checkViewIsFree_16 dX3_checkViewIsFree_19 dX3_checkViewIsFree_22 (by rw [hRf]; decide) (by rw [hRl]; exact Nat.le_of_ble_eq_true rfl) (by omega) (by omega) (by omega) (by omega) ⟨by decide +kernel, rfl⟩
set_option maxHeartbeats 4000000 in
set_option maxRecDepth 100000 in
theorem c_X3_shutViewsOnto (l : Launch) (G : xG) {M : HM} {h0 bs vs : Nat} {og : Option Nat} {kk kv rf : Int32} {qb qk qv : Nat → Nat} {fb fv : Nat → Option Nat} (hR : RGx G M h0 bs vs og kk kv rf qb qk qv fb fv) {bb : Nat} : xMet l G yX3_shutViewsOnto wsX3_shutViewsOnto 2 43 0 0 [.ref h0, .ref bb] M (fun r M1 => ∃ z : Int, r = some (.int (iN z)) ∧ (-2147483648 ≤ z ∧ z ≤ 2147483647) ∧ ∃ fv1 : Nat → Option Nat, RGx G M1 h0 bs vs og kk kv rf qb qk qv fb fv1) := by
  refine x_intro (cc := cX3_shutViewsOnto) (maxL := 4) (ret := (some .int)) (by decide +kernel) rfl (Nat.le_of_ble_eq_true rfl) ?_
  intro p e R s m args below meth c ls hRf hRc hRs hRl hC hw hl
  have hinX3 : ∀ w ∈ wsX30, w ∈ wsX3_shutViewsOnto := by decide +kernel
  have hl : lv_has ls 4 [(0, .ref h0), (1, .ref bb)] := hl
  refine lv_aload_n hC.1 hC.2.1 dX3_shutViewsOnto_0 rfl (lv_at hl 0 rfl) ?_
  refine lv_aload_n hC.1 hC.2.1 dX3_shutViewsOnto_1 rfl (lv_at hl 1 rfl) ?_
  refine x_callV hC hw (lv_size hl) (c_X3_viewsOnto l G hR (bb := bb)) gX3_shutViewsOnto_X3_viewsOnto rfl dv_X3_viewsOnto hR.1 rfl rfl (Nat.le_of_ble_eq_true rfl) (by rw [hRf]; decide) (by rw [hRl]; decide) (by omega) (by omega) dX3_shutViewsOnto_2 (fun r9 M_1 H locs hq hw => ?_)
  obtain ⟨z_2, rfl, hM9, hz_2⟩ := hq
  rw [hM9] at hw
  show W p l e R s m args below meth c H locs _ _ _ (F0 m 5 ls [.int (iN (z_2))])
  refine lv_istore_n (lv' := [(2, .int (iN (z_2))), (0, .ref h0), (1, .ref bb)]) hC.1 hC.2.1 dX3_shutViewsOnto_5 rfl hl (by decide) rfl (fun ls hl => ?_)
  refine x_const hC dX3_shutViewsOnto_6 ?_
  refine lv_istore_n (lv' := [(3, .int (iN (0))), (2, .int (iN (z_2))), (0, .ref h0), (1, .ref bb)]) hC.1 hC.2.1 dX3_shutViewsOnto_7 rfl hl (by decide) rfl (fun ls hl => ?_)
  suffices hloop8 : ∀ (n9 : Nat) (n : Int) (j : Int) (M1 : HM) (fv1 : Nat → Option Nat) (hR1 : RGx G M1 h0 bs vs og kk kv rf qb qk qv fb fv1) (H : Heap) (locs : List Loc) (ls : Array Slot), (hmu : (4 - j).toNat < n9) → (hi0 : 0 ≤ j) → (hi1 : j ≤ 4) → (hi2 : 0 ≤ n ∧ n ≤ 4) → xD G (xA M s.heap.size) s M1 H locs → lv_has ls 4 [(0, .ref h0), (1, .ref bb), (2, .int (iN (n))), (3, .int (iN (j)))] → W p l e R s m args below meth c H locs _ _ _ (F0 m 8 ls []) by
    exact hloop8 _ z_2 0 _ _ hR _ _ _ (Nat.lt_succ_self _) (by omega) (by omega) (by omega) hw (lv_sub hl [2, 3, 1, 0] rfl)
  intro n9
  induction n9 with
  | zero => intro n j M1 fv1 hR1 H locs ls hmu; exact absurd hmu (Nat.not_lt_zero _)
  | succ n9 ih8 =>
    intro n j M1 fv1 hR1 H locs ls hmu hi0 hi1 hi2 hw hl
    refine lv_iload_n hC.1 hC.2.1 dX3_shutViewsOnto_8 rfl (lv_at hl 3 rfl) ?_
    refine lv_aload_n hC.1 hC.2.1 dX3_shutViewsOnto_9 rfl (lv_at hl 0 rfl) ?_
    refine x_get hC hw hR1.1 rfl hinX3 1 (by decide) (by decide +kernel) rfl dX3_shutViewsOnto_10 ?_
    refine x_alen hC hw 3 hR1.2.2.1 rfl dX3_shutViewsOnto_13 ?_
    refine x_icmp_ge (tgt := 52) hC ⟨by omega, by omega⟩ ⟨by omega, by omega⟩ dX3_shutViewsOnto_14 (by decide) (fun c_3 => ?_) (fun c_3 => ?_)
    · refine lv_iload_n hC.1 hC.2.1 dX3_shutViewsOnto_52 rfl (lv_at hl 2 rfl) ?_
      exact x_iret hC hw dX3_shutViewsOnto_53 (by omega) (by omega) ⟨n, rfl, by omega, _, hR1⟩
    · refine lv_aload_n hC.1 hC.2.1 dX3_shutViewsOnto_17 rfl (lv_at hl 0 rfl) ?_
      refine x_get hC hw hR1.1 rfl hinX3 1 (by decide) (by decide +kernel) rfl dX3_shutViewsOnto_18 ?_
      refine lv_iload_n hC.1 hC.2.1 dX3_shutViewsOnto_21 rfl (lv_at hl 3 rfl) ?_
      refine x_aldq hC hw 3 hR1.2.2.1 rfl (by omega) (by omega) (by omega) dX3_shutViewsOnto_22 ?_
      rcases hy_5 : fv1 (j).toNat with _ | y_4
      · show W p l e R s m args below meth c _ _ _ _ _ (F0 m 23 ls [.null])
        refine lv_ifnullN (tgt := 46) hC.1 hC.2.1 dX3_shutViewsOnto_23 (by decide) ?_
        refine x_iinc (lv' := [(3, .int (iN (j + 1))), (0, .ref h0), (1, .ref bb), (2, .int (iN (n)))]) hC dX3_shutViewsOnto_46 hl (k := 3) rfl (by decide) rfl (fun ls hl => ?_)
        refine lv_goto (tgt := 8) hC.1 hC.2.1 dX3_shutViewsOnto_49 (by decide) ?_
        exact ih8 n (j + 1) _ _ hR1 _ _ _ (by omega) (by omega) (by omega) (by omega) hw (lv_sub hl [1, 2, 3, 0] rfl)
      · obtain ⟨ix_6, lox_6, upx_6, swx_6, ewx_6, lix_6, uix_6, hix_6, hVx_6⟩ := (hR1.vw (show (j).toNat < 4 by omega) hy_5)
        have hlix_6 := hVx_6.2.1
        have huix_6 := hVx_6.2.2
        obtain ⟨nox_7, ox_7, tx_7, kcx_7, szx_7, fkx_7, fwx_7, hBx_7⟩ := hR1.bk hix_6
        obtain ⟨-, -, -, -, hsax_7, hsbx_7⟩ := id hBx_7
        show W p l e R s m args below meth c _ _ _ _ _ (F0 m 23 ls [.ref y_4])
        refine lv_ifnull hC.1 hC.2.1 dX3_shutViewsOnto_23 ?_
        refine lv_aload_n hC.1 hC.2.1 dX3_shutViewsOnto_26 rfl (lv_at hl 0 rfl) ?_
        refine x_get hC hw hR1.1 rfl hinX3 1 (by decide) (by decide +kernel) rfl dX3_shutViewsOnto_27 ?_
        refine lv_iload_n hC.1 hC.2.1 dX3_shutViewsOnto_30 rfl (lv_at hl 3 rfl) ?_
        refine x_aldq hC hw 3 hR1.2.2.1 rfl (by omega) (by omega) (by omega) dX3_shutViewsOnto_31 ?_
        rw [hy_5]
        show W p l e R s m args below meth c _ _ _ _ _ (F0 m 32 ls [.ref y_4])
        refine x_callV hC hw (lv_size hl) (c_X1_book l G hVx_6 hBx_7) gX3_shutViewsOnto_X1_book rfl dv_X1_book hVx_6.1 rfl rfl (Nat.le_of_ble_eq_true rfl) (by rw [hRf]; decide) (by rw [hRl]; decide) (by omega) (by omega) dX3_shutViewsOnto_32 (fun r9 M_8 H locs hq hw => ?_)
        obtain ⟨rfl, hM9⟩ := hq
        rw [hM9] at hw
        show W p l e R s m args below meth c H locs _ _ _ (F0 m 35 ls [.ref (qb ix_6)])
        refine lv_aload_n hC.1 hC.2.1 dX3_shutViewsOnto_35 rfl (lv_at hl 1 rfl) ?_
        refine x_acmp_ne (tgt := 46) hC dX3_shutViewsOnto_36 (by decide) (fun c_9 => ?_) (fun c_9 => ?_)
        · refine x_iinc (lv' := [(3, .int (iN (j + 1))), (0, .ref h0), (1, .ref bb), (2, .int (iN (n)))]) hC dX3_shutViewsOnto_46 hl (k := 3) rfl (by decide) rfl (fun ls hl => ?_)
          refine lv_goto (tgt := 8) hC.1 hC.2.1 dX3_shutViewsOnto_49 (by decide) ?_
          exact ih8 n (j + 1) _ _ hR1 _ _ _ (by omega) (by omega) (by omega) (by omega) hw (lv_sub hl [1, 2, 3, 0] rfl)
        · refine lv_aload_n hC.1 hC.2.1 dX3_shutViewsOnto_39 rfl (lv_at hl 0 rfl) ?_
          refine x_get hC hw hR1.1 rfl hinX3 1 (by decide) (by decide +kernel) rfl dX3_shutViewsOnto_40 ?_
          refine lv_iload_n hC.1 hC.2.1 dX3_shutViewsOnto_43 rfl (lv_at hl 3 rfl) ?_
          refine lv_null hC.1 hC.2.1 dX3_shutViewsOnto_44 ?_
          refine x_astqN hC hw 3 hR1.2.2.1 rfl (by omega) (by omega) (by omega) dX3_shutViewsOnto_45 (fun H locs hw => ?_)
          obtain ⟨M_10, hM_11⟩ : ∃ z, z = va_up M1 vs (some (.inl (G.2 3, 4, .inr (.inr (.inr (.inr (va_up fv1 (j).toNat none))))))) := ⟨_, rfl⟩
          rw [← hM_11] at hw
          have hR_12 : RGx G M_10 h0 bs vs og kk kv rf qb qk qv fb (va_up fv1 (j).toNat none) := hR1.views hM_11 (fun j9 y9 hj hy => by by_cases e9 : j9 = (j).toNat; (· subst e9; rw [va_up_self] at hy; cases hy); (· rw [va_up_ne _ _ e9] at hy; exact hR1.vw hj hy))
          refine x_iinc (lv' := [(3, .int (iN (j + 1))), (0, .ref h0), (1, .ref bb), (2, .int (iN (n)))]) hC dX3_shutViewsOnto_46 hl (k := 3) rfl (by decide) rfl (fun ls hl => ?_)
          refine lv_goto (tgt := 8) hC.1 hC.2.1 dX3_shutViewsOnto_49 (by decide) ?_
          exact ih8 n (j + 1) _ _ hR_12 _ _ _ (by omega) (by omega) (by omega) (by omega) hw (lv_sub hl [1, 2, 3, 0] rfl)
set_option maxHeartbeats 4000000 in
set_option maxRecDepth 100000 in
theorem c_X3_openView (l : Launch) (G : xG) {M : HM} (hst : l.stackTraces = false) {h0 bs vs : Nat} {og : Option Nat} {kk kv rf : Int32} {qb qk qv : Nat → Nat} {fb fv : Nat → Option Nat} (hR : RGx G M h0 bs vs og kk kv rf qb qk qv fb fv) {y : Nat} (hE : VwE M y qb) : xMetX l G yX3_openView wsX3_openView 6 90 1 6 [.ref h0, .ref y] M (fun r M1 => ∃ z : Int, r = some (.int (iN z)) ∧ (-2147483648 ≤ z ∧ z ≤ 2147483647) ∧ ∃ fv1 : Nat → Option Nat, RGx G M1 h0 bs vs og kk kv rf qb qk qv fb fv1) (fun E M1 => E ∈ [xIS] ∧ RGx G M1 h0 bs vs og kk kv rf qb qk qv fb fv) := by
  refine x_introX (cc := cX3_openView) (maxL := 3) (ret := (some .int)) (by decide +kernel) rfl (Nat.le_of_ble_eq_true rfl) ?_
  intro p e R s m args below meth c ls hRf hRc hRs hRl htab hC hw hl
  obtain ⟨i9, lo9, up9, sw9, ew9, li9, ui9, hi9, hV9⟩ := id hE
  obtain ⟨nox_1, ox_1, tx_1, kcx_1, szx_1, fkx_1, fwx_1, hBx_1⟩ := hR.bk hi9
  obtain ⟨-, -, -, -, hsax_1, hsbx_1⟩ := id hBx_1
  have hinX3 : ∀ w ∈ wsX30, w ∈ wsX3_openView := by decide +kernel
  have hl : lv_has ls 3 [(0, .ref h0), (1, .ref y)] := hl
  refine x_const hC dX3_openView_0 ?_
  refine lv_istore_n (lv' := [(2, .int (iN (0))), (0, .ref h0), (1, .ref y)]) hC.1 hC.2.1 dX3_openView_1 rfl hl (by decide) rfl (fun ls hl => ?_)
  suffices hloop2 : ∀ (n9 : Nat) (j : Int) (H : Heap) (locs : List Loc) (ls : Array Slot), (hmu : (4 - j).toNat < n9) → (hi0 : 0 ≤ j) → (hi1 : j ≤ 4) → xD G (xA M s.heap.size) s M H locs → lv_has ls 3 [(0, .ref h0), (1, .ref y), (2, .int (iN (j)))] → W p l e R s m args below meth c H locs _ _ _ (F0 m 2 ls []) by
    exact hloop2 _ 0  _ _ _ (Nat.lt_succ_self _) (by omega) (by omega) hw (lv_sub hl [1, 2, 0] rfl)
  intro n9
  induction n9 with
  | zero => intro j  H locs ls hmu; exact absurd hmu (Nat.not_lt_zero _)
  | succ n9 ih2 =>
    intro j  H locs ls hmu hi0 hi1 hw hl
    refine lv_iload_n hC.1 hC.2.1 dX3_openView_2 rfl (lv_at hl 2 rfl) ?_
    refine lv_aload_n hC.1 hC.2.1 dX3_openView_3 rfl (lv_at hl 0 rfl) ?_
    refine x_get hC hw hR.1 rfl hinX3 1 (by decide) (by decide +kernel) rfl dX3_openView_4 ?_
    refine x_alen hC hw 3 hR.2.2.1 rfl dX3_openView_7 ?_
    refine x_icmp_ge (tgt := 35) hC ⟨by omega, by omega⟩ ⟨by omega, by omega⟩ dX3_openView_8 (by decide) (fun c_2 => ?_) (fun c_2 => ?_)
    · exact x_throwW (cls := "java/lang/IllegalStateException") (text := "4 views are open") (names := ["java/lang/RuntimeException", "java/lang/Exception"]) hC hw hst htab (lv_size hl) (by decide +kernel) (by decide +kernel) (by decide +kernel) (by decide +kernel) (by decide +kernel) (by decide +kernel) (by decide +kernel) (xlit_Rangeledger_321) (by decide +kernel) dX3_openView_35 dX3_openView_38 dX3_openView_39 dX3_openView_42 dX3_openView_45 (by rw [hRf]; decide) (by rw [hRl]; exact Nat.le_of_ble_eq_true rfl) (by omega) (by omega) (by omega) (by omega) ⟨by decide +kernel, hR⟩
    · refine lv_aload_n hC.1 hC.2.1 dX3_openView_11 rfl (lv_at hl 0 rfl) ?_
      refine x_get hC hw hR.1 rfl hinX3 1 (by decide) (by decide +kernel) rfl dX3_openView_12 ?_
      refine lv_iload_n hC.1 hC.2.1 dX3_openView_15 rfl (lv_at hl 2 rfl) ?_
      refine x_aldq hC hw 3 hR.2.2.1 rfl (by omega) (by omega) (by omega) dX3_openView_16 ?_
      rcases hy_4 : fv (j).toNat with _ | y_3
      · show W p l e R s m args below meth c _ _ _ _ _ (F0 m 17 ls [.null])
        refine lv_ifnonnullN hC.1 hC.2.1 dX3_openView_17 ?_
        refine lv_aload_n hC.1 hC.2.1 dX3_openView_20 rfl (lv_at hl 0 rfl) ?_
        refine x_get hC hw hR.1 rfl hinX3 1 (by decide) (by decide +kernel) rfl dX3_openView_21 ?_
        refine lv_iload_n hC.1 hC.2.1 dX3_openView_24 rfl (lv_at hl 2 rfl) ?_
        refine lv_aload_n hC.1 hC.2.1 dX3_openView_25 rfl (lv_at hl 1 rfl) ?_
        refine x_astq hC hw 3 3 hR.2.2.1 rfl hV9.1 rfl (by omega) (by omega) (by omega) dX3_openView_26 (fun H locs hw => ?_)
        obtain ⟨M_5, hM_6⟩ : ∃ z, z = va_up M vs (some (.inl (G.2 3, 4, .inr (.inr (.inr (.inr (va_up fv (j).toNat (some y)))))))) := ⟨_, rfl⟩
        rw [← hM_6] at hw
        have hR_7 : RGx G M_5 h0 bs vs og kk kv rf qb qk qv fb (va_up fv (j).toNat (some y)) := hR.views hM_6 (fun j9 y9 hj hy => by by_cases e9 : j9 = (j).toNat; (· subst e9; rw [va_up_self] at hy; cases hy; exact ⟨i9, _, _, _, _, _, _, hi9, hV9⟩); (· rw [va_up_ne _ _ e9] at hy; exact hR.vw hj hy))
        refine lv_iload_n hC.1 hC.2.1 dX3_openView_27 rfl (lv_at hl 2 rfl) ?_
        exact vx_ret (x_iret hC hw dX3_openView_28 (by omega) (by omega) ⟨j, rfl, by omega, _, hR_7⟩)
      · obtain ⟨ix_8, lox_8, upx_8, swx_8, ewx_8, lix_8, uix_8, hix_8, hVx_8⟩ := (hR.vw (show (j).toNat < 4 by omega) hy_4)
        have hlix_8 := hVx_8.2.1
        have huix_8 := hVx_8.2.2
        obtain ⟨nox_9, ox_9, tx_9, kcx_9, szx_9, fkx_9, fwx_9, hBx_9⟩ := hR.bk hix_8
        obtain ⟨-, -, -, -, hsax_9, hsbx_9⟩ := id hBx_9
        show W p l e R s m args below meth c _ _ _ _ _ (F0 m 17 ls [.ref y_3])
        refine lv_ifnonnull (tgt := 29) hC.1 hC.2.1 dX3_openView_17 (by decide) ?_
        refine x_iinc (lv' := [(2, .int (iN (j + 1))), (0, .ref h0), (1, .ref y)]) hC dX3_openView_29 hl (k := 2) rfl (by decide) rfl (fun ls hl => ?_)
        refine lv_goto (tgt := 2) hC.1 hC.2.1 dX3_openView_32 (by decide) ?_
        exact ih2 (j + 1)  _ _ _ (by omega) (by omega) (by omega) hw (lv_sub hl [1, 2, 0] rfl)
set_option maxHeartbeats 4000000 in
set_option maxRecDepth 100000 in
theorem c_X3_viewToWritePair (l : Launch) (G : xG) {M : HM} (hst : l.stackTraces = false) {h0 bs vs : Nat} {og : Option Nat} {kk kv rf : Int32} {qb qk qv : Nat → Nat} {fb fv : Nat → Option Nat} (hR : RGx G M h0 bs vs og kk kv rf qb qk qv fb fv) {p0 : Int} (hp0 : -2147483648 ≤ p0 ∧ p0 ≤ 2147483647) {p1 : Int} (hp1 : -2147483648 ≤ p1 ∧ p1 ≤ 2147483647) {p2 : Int} (hp2 : -2147483648 ≤ p2 ∧ p2 ≤ 2147483647) : xMetX l G yX3_viewToWritePair wsX3_viewToWritePair 7 111 3 18 [.ref h0, .int (iN (p0)), .int (iN (p1)), .int (iN (p2))] M (fun r M1 => ∃ y : Nat, r = some (.ref y) ∧ RGx G M1 h0 bs vs og kk kv rf qb qk qv fb fv ∧ (0 ≤ p0 ∧ p0 < 4) ∧ (0 ≤ p1 ∧ p1 ≤ 99) ∧ (-9999 ≤ p2 ∧ p2 ≤ 9999) ∧ True ∧ fv p0.toNat = some y) (fun E M1 => E ∈ [xIO, xIA] ∧ RGx G M1 h0 bs vs og kk kv rf qb qk qv fb fv) := by
  refine x_introX (cc := cX3_viewToWritePair) (maxL := 5) (ret := (some (.object "Rangeledger$View"))) (by decide +kernel) rfl (Nat.le_of_ble_eq_true rfl) ?_
  intro p e R s m args below meth c ls hRf hRc hRs hRl htab hC hw hl
  have hl : lv_has ls 5 [(0, .ref h0), (1, .int (iN (p0))), (2, .int (iN (p1))), (3, .int (iN (p2)))] := hl
  refine lv_aload_n hC.1 hC.2.1 dX3_viewToWritePair_0 rfl (lv_at hl 0 rfl) ?_
  refine lv_iload_n hC.1 hC.2.1 dX3_viewToWritePair_1 rfl (lv_at hl 1 rfl) ?_
  refine x_callVX hC hw (lv_size hl) (c_X3_viewAt l G hst hR (p0 := p0) (by omega)) gX3_viewToWritePair_X3_viewAt rfl dv_X3_viewAt hR.1 rfl rfl (Nat.le_of_ble_eq_true rfl) (by rw [hRf]; decide) (by rw [hRl]; decide) (by omega) (by omega) dX3_viewToWritePair_2 (fun E ce q9 M_1 H locs hqx hw hcell hcv hcls => ?_) (fun r9 M_1 H locs hq hw => ?_)
  · rw [hqx.2] at hw
    exact x_outX hC hw htab hcell hcv hcls (by omega) (by omega) ⟨(show ∀ x ∈ [xIO], x ∈ [xIO, xIA] from by decide +kernel) E hqx.1, hR⟩
  obtain ⟨y_3, rfl, hM9, hk_2, hk_2b, hyk_2⟩ := hq
  rw [hM9] at hw
  obtain ⟨ix_4, lox_4, upx_4, swx_4, ewx_4, lix_4, uix_4, hix_4, hVx_4⟩ := (hR.vw (show (p0).toNat < 4 by omega) hyk_2)
  have hlix_4 := hVx_4.2.1
  have huix_4 := hVx_4.2.2
  obtain ⟨nox_5, ox_5, tx_5, kcx_5, szx_5, fkx_5, fwx_5, hBx_5⟩ := hR.bk hix_4
  obtain ⟨-, -, -, -, hsax_5, hsbx_5⟩ := id hBx_5
  show W p l e R s m args below meth c H locs _ _ _ (F0 m 5 ls [.ref y_3])
  refine lv_astore (lv' := [(4, .ref y_3), (0, .ref h0), (1, .int (iN (p0))), (2, .int (iN (p1))), (3, .int (iN (p2)))]) hC.1 hC.2.1 dX3_viewToWritePair_5 hl (by decide) rfl (fun ls hl => ?_)
  refine lv_iload_n hC.1 hC.2.1 dX3_viewToWritePair_7 rfl (lv_at hl 3 rfl) ?_
  refine x_callSX hC hw (lv_size hl) (c_X3_checkKey l G (M := M) hst (p0 := p1) (by omega)) gX3_viewToWritePair_X3_checkKey rfl dv_X3_checkKey_s rfl (Nat.le_of_ble_eq_true rfl) (by rw [hRf]; decide) (by rw [hRl]; decide) (by omega) (by omega) dX3_viewToWritePair_8 (fun E ce q9 M_6 H locs hqx hw hcell hcv hcls => ?_) (fun r9 M_6 H locs hq hw => ?_)
  · rw [hqx.2] at hw
    exact x_outX hC hw htab hcell hcv hcls (by omega) (by omega) ⟨(show ∀ x ∈ [xIA], x ∈ [xIO, xIA] from by decide +kernel) E hqx.1, hR⟩
  obtain ⟨rfl, hM9, hk_7⟩ := hq
  rw [hM9] at hw
  show W p l e R s m args below meth c H locs _ _ _ (F0 m 11 ls [])
  refine lv_iload_n hC.1 hC.2.1 dX3_viewToWritePair_11 rfl (lv_at hl 4 rfl) ?_
  refine x_callSX hC hw (lv_size hl) (c_X3_checkValue l G (M := M) hst (p0 := p2) (by omega)) gX3_viewToWritePair_X3_checkValue rfl dv_X3_checkValue_s rfl (Nat.le_of_ble_eq_true rfl) (by rw [hRf]; decide) (by rw [hRl]; decide) (by omega) (by omega) dX3_viewToWritePair_12 (fun E ce q9 M_8 H locs hqx hw hcell hcv hcls => ?_) (fun r9 M_8 H locs hq hw => ?_)
  · rw [hqx.2] at hw
    exact x_outX hC hw htab hcell hcv hcls (by omega) (by omega) ⟨(show ∀ x ∈ [xIA], x ∈ [xIO, xIA] from by decide +kernel) E hqx.1, hR⟩
  obtain ⟨rfl, hM9, hk_9⟩ := hq
  rw [hM9] at hw
  show W p l e R s m args below meth c H locs _ _ _ (F0 m 15 ls [])
  refine lv_aload hC.1 hC.2.1 dX3_viewToWritePair_15 (lv_at hl 0 rfl) ?_
  refine x_callV hC hw (lv_size hl) (c_X1_book l G hVx_4 hBx_5) gX3_viewToWritePair_X1_book rfl dv_X1_book hVx_4.1 rfl rfl (Nat.le_of_ble_eq_true rfl) (by rw [hRf]; decide) (by rw [hRl]; decide) (by omega) (by omega) dX3_viewToWritePair_17 (fun r9 M_10 H locs hq hw => ?_)
  obtain ⟨rfl, hM9⟩ := hq
  rw [hM9] at hw
  show W p l e R s m args below meth c H locs _ _ _ (F0 m 20 ls [.ref (qb ix_4)])
  refine x_callV hC hw (lv_size hl) (c_X0_touch l G hBx_5) gX3_viewToWritePair_X0_touch rfl dv_X0_touch hBx_5.1 rfl rfl (Nat.le_of_ble_eq_true rfl) (by rw [hRf]; decide) (by rw [hRl]; decide) (by omega) (by omega) dX3_viewToWritePair_20 (fun r9 M_11 H locs hq hw => ?_)
  obtain ⟨rfl, ou_12, tu_12, kcu_12, szu_12, fku_12, fvu_12, hBu_12, smu_12⟩ := hq
  obtain ⟨-, -, -, -, hsau_12, hsbu_12⟩ := id hBu_12
  have sm_13 := (xSm.rf (M := M) (b := (qb ix_4)) (k := (qk ix_4)) (v := (qv ix_4))).tr (smu_12)
  have h_14 := hR.book hix_4 hBx_5 hBu_12 smu_12
  have h_15 : Vw _ y_3 (qb ix_4) lox_4 upx_4 swx_4 ewx_4 lix_4 uix_4 := And.intro (x_kB hBx_5 smu_12 (by decide) hVx_4.1) hVx_4.2
  show W p l e R s m args below meth c H locs _ _ _ (F0 m 23 ls [])
  refine lv_aload hC.1 hC.2.1 dX3_viewToWritePair_23 (lv_at hl 0 rfl) ?_
  exact vx_ret (x_aret hC hw (by first | exact Or.inl ⟨_, rfl⟩ | exact Or.inr ⟨_, rfl⟩) (Or.inr ⟨_, rfl⟩) dX3_viewToWritePair_25 (by omega) (by omega) ⟨y_3, rfl, h_14, by omega, by omega, by omega, trivial, hyk_2⟩)
set_option maxHeartbeats 4000000 in
set_option maxRecDepth 100000 in
theorem c_X3_soundWalk (l : Launch) (G : xG) {M : HM} (hst : l.stackTraces = false) {h0 bs vs : Nat} {og : Option Nat} {kk kv rf : Int32} {qb qk qv : Nat → Nat} {fb fv : Nat → Option Nat} (hR : RGx G M h0 bs vs og kk kv rf qb qk qv fb fv) : xMetX l G yX3_soundWalk wsX3_soundWalk 6 90 1 6 [.ref h0] M (fun r M1 => ∃ w : Nat, r = some (.ref w) ∧ M1 = M ∧ og = some w) (fun E M1 => E ∈ [xIS] ∧ M1 = M) := by
  refine x_introX (cc := cX3_soundWalk) (maxL := 1) (ret := (some (.object "Rangeledger$Walk"))) (by decide +kernel) rfl (Nat.le_of_ble_eq_true rfl) ?_
  intro p e R s m args below meth c ls hRf hRc hRs hRl htab hC hw hl
  have hinX3 : ∀ w ∈ wsX30, w ∈ wsX3_soundWalk := by decide +kernel
  have hl : lv_has ls 1 [(0, .ref h0)] := hl
  refine lv_aload_n hC.1 hC.2.1 dX3_soundWalk_0 rfl (lv_at hl 0 rfl) ?_
  refine x_get hC hw hR.1 rfl hinX3 2 (by decide) (by decide +kernel) rfl dX3_soundWalk_1 ?_
  rcases og with _ | w_1
  · show W p l e R s m args below meth c _ _ _ _ _ (F0 m 4 ls [.null])
    refine lv_ifnullN (tgt := 17) hC.1 hC.2.1 dX3_soundWalk_4 (by decide) ?_
    exact x_throwW (cls := "java/lang/IllegalStateException") (text := "there is no walk, or it is broken") (names := ["java/lang/RuntimeException", "java/lang/Exception"]) hC hw hst htab (lv_size hl) (by decide +kernel) (by decide +kernel) (by decide +kernel) (by decide +kernel) (by decide +kernel) (by decide +kernel) (by decide +kernel) (xlit_Rangeledger_316) (by decide +kernel) dX3_soundWalk_17 dX3_soundWalk_20 dX3_soundWalk_21 dX3_soundWalk_24 dX3_soundWalk_27 (by rw [hRf]; decide) (by rw [hRl]; exact Nat.le_of_ble_eq_true rfl) (by omega) (by omega) (by omega) (by omega) ⟨by decide +kernel, rfl⟩
  · obtain ⟨yx_2, psx_2, tx_2, kcx_2, cdx_2, hWx_2, hEx_2⟩ := hR.wk rfl
    have hcdx_2 := hWx_2.2
    obtain ⟨ix_3, lox_3, upx_3, swx_3, ewx_3, lix_3, uix_3, hix_3, hVx_3⟩ := hEx_2
    have hlix_3 := hVx_3.2.1
    have huix_3 := hVx_3.2.2
    obtain ⟨nox_4, ox_4, tx_4, kcx_4, szx_4, fkx_4, fwx_4, hBx_4⟩ := hR.bk hix_3
    obtain ⟨-, -, -, -, hsax_4, hsbx_4⟩ := id hBx_4
    show W p l e R s m args below meth c _ _ _ _ _ (F0 m 4 ls [.ref w_1])
    refine lv_ifnull hC.1 hC.2.1 dX3_soundWalk_4 ?_
    refine lv_aload_n hC.1 hC.2.1 dX3_soundWalk_7 rfl (lv_at hl 0 rfl) ?_
    refine x_get hC hw hR.1 rfl hinX3 2 (by decide) (by decide +kernel) rfl dX3_soundWalk_8 ?_
    show W p l e R s m args below meth c _ _ _ _ _ (F0 m 11 ls [.ref w_1])
    refine x_callV hC hw (lv_size hl) (c_X2_isBroken l G hWx_2 hVx_3 hBx_4) gX3_soundWalk_X2_isBroken rfl dv_X2_isBroken hWx_2.1 rfl rfl (Nat.le_of_ble_eq_true rfl) (by rw [hRf]; decide) (by rw [hRl]; decide) (by omega) (by omega) dX3_soundWalk_11 (fun r9 M_5 H locs hq hw => ?_)
    obtain ⟨z_6, rfl, hM9, hz_6⟩ := hq
    rw [hM9] at hw
    show W p l e R s m args below meth c H locs _ _ _ (F0 m 14 ls [.int (iN (z_6))])
    refine x_if_eq (tgt := 28) hC ⟨by omega, by omega⟩ dX3_soundWalk_14 (by decide) (fun c_7 => ?_) (fun c_7 => ?_)
    · refine lv_aload_n hC.1 hC.2.1 dX3_soundWalk_28 rfl (lv_at hl 0 rfl) ?_
      refine x_get hC hw hR.1 rfl hinX3 2 (by decide) (by decide +kernel) rfl dX3_soundWalk_29 ?_
      show W p l e R s m args below meth c _ _ _ _ _ (F0 m 32 ls [.ref w_1])
      exact vx_ret (x_aret hC hw (by first | exact Or.inl ⟨_, rfl⟩ | exact Or.inr ⟨_, rfl⟩) (Or.inr ⟨_, rfl⟩) dX3_soundWalk_32 (by omega) (by omega) ⟨w_1, rfl, rfl, rfl⟩)
    · exact x_throwW (cls := "java/lang/IllegalStateException") (text := "there is no walk, or it is broken") (names := ["java/lang/RuntimeException", "java/lang/Exception"]) hC hw hst htab (lv_size hl) (by decide +kernel) (by decide +kernel) (by decide +kernel) (by decide +kernel) (by decide +kernel) (by decide +kernel) (by decide +kernel) (xlit_Rangeledger_316) (by decide +kernel) dX3_soundWalk_17 dX3_soundWalk_20 dX3_soundWalk_21 dX3_soundWalk_24 dX3_soundWalk_27 (by rw [hRf]; decide) (by rw [hRl]; exact Nat.le_of_ble_eq_true rfl) (by omega) (by omega) (by omega) (by omega) ⟨by decide +kernel, rfl⟩
set_option maxHeartbeats 4000000 in
set_option maxRecDepth 100000 in
theorem c_X3_beginWalk (l : Launch) (G : xG) {M : HM} {h0 bs vs : Nat} {og : Option Nat} {kk kv rf : Int32} {qb qk qv : Nat → Nat} {fb fv : Nat → Option Nat} (hR : RGx G M h0 bs vs og kk kv rf qb qk qv fb fv) {y : Nat} (hE : VwE M y qb) : xMet l G yX3_beginWalk wsX3_beginWalk 4 88 1 5 [.ref h0, .ref y] M (fun r M1 => ∃ z : Int, r = some (.int (iN z)) ∧ (-2147483648 ≤ z ∧ z ≤ 2147483647) ∧ ∃ w : Nat, RGx G M1 h0 bs vs (some w) kk kv rf qb qk qv fb fv) := by
  refine x_intro (cc := cX3_beginWalk) (maxL := 2) (ret := (some .int)) (by decide +kernel) rfl (Nat.le_of_ble_eq_true rfl) ?_
  intro p e R s m args below meth c ls hRf hRc hRs hRl hC hw hl
  obtain ⟨i9, lo9, up9, sw9, ew9, li9, ui9, hi9, hV9⟩ := id hE
  obtain ⟨nox_1, ox_1, tx_1, kcx_1, szx_1, fkx_1, fwx_1, hBx_1⟩ := hR.bk hi9
  obtain ⟨-, -, -, -, hsax_1, hsbx_1⟩ := id hBx_1
  have hinX2 : ∀ w ∈ wsX20, w ∈ wsX3_beginWalk := by decide +kernel
  have hinX3 : ∀ w ∈ wsX30, w ∈ wsX3_beginWalk := by decide +kernel
  have hl : lv_has ls 2 [(0, .ref h0), (1, .ref y)] := hl
  refine lv_aload_n hC.1 hC.2.1 dX3_beginWalk_0 rfl (lv_at hl 0 rfl) ?_
  refine x_new (fs := [.null, .int 0, .int (iN (0)), .int 0, .int 0]) (ci := 4) hC hw rfl hinX2 tyX2 tyX2_ok (by decide +kernel) (by decide +kernel) (by decide +kernel) (fun j hj => by rcases (show j = 0 ∨ j = 1 ∨ j = 2 ∨ j = 3 ∨ j = 4 by omega) with rfl | rfl | rfl | rfl | rfl <;> rfl) (by omega) (by omega) dX3_beginWalk_1 (fun q_2 H hq_5 hw => ?_)
  obtain ⟨M_3, hM_4⟩ : ∃ z, z = va_up M q_2 (some (.inr (4, [.null, .int 0, .int (iN (0)), .int 0, .int 0]))) := ⟨_, rfl⟩
  rw [← hM_4] at hw
  have hx_6 : xExt M M_3 := by rw [hM_4]; exact xExt.new hq_5
  have hf_7 : M_3 q_2 = some (.inr (4, [.null, .int 0, .int (iN (0)), .int 0, .int 0])) := by rw [hM_4, va_up_self]
  have h_8 := hR.ext hx_6
  have h_9 := hBx_1.ext hx_6
  have h_10 : Vw M_3 y (qb i9) lo9 up9 sw9 ew9 li9 ui9 := ⟨hx_6 _ _ hV9.1, hV9.2⟩
  refine lv_dup hC.1 hC.2.1 dX3_beginWalk_4 rfl ?_
  refine lv_aload_n hC.1 hC.2.1 dX3_beginWalk_5 rfl (lv_at hl 1 rfl) ?_
  refine x_callI hC hw (lv_size hl) (c_X2_init l G hf_7 h_10 h_9) gX3_beginWalk_X2_init rfl (by decide +kernel) (by decide +kernel) (by decide +kernel) rfl dv_X2_init_s rfl (Nat.le_of_ble_eq_true rfl) (by rw [hRf]; decide) (by rw [hRl]; decide) (by omega) (by omega) dX3_beginWalk_6 (fun r9 M_11 H locs hq hw => ?_)
  obtain ⟨rfl, ⟨psk_12, tk_12, kck_12, hWk_12⟩, smk_12⟩ := hq
  have hxk_12 : xExt M M_11 := fun a e he => (smk_12 a (fun z => by rw [z, hq_5] at he; cases he)).trans (by rw [hM_4, va_up_ne _ _ (fun z => by rw [z, hq_5] at he; cases he)]; exact he)
  have h_13 := hR.ext hxk_12
  have h_14 := hBx_1.ext hxk_12
  have h_15 : Vw M_11 y (qb i9) lo9 up9 sw9 ew9 li9 ui9 := ⟨hxk_12 _ _ hV9.1, hV9.2⟩
  show W p l e R s m args below meth c H locs _ _ _ (F0 m 9 ls [.ref q_2, .ref h0])
  refine x_put (fs2 := [.ref bs, .ref vs, .ref q_2, .int kk, .int kv, .int rf]) hC hw h_13.1 rfl hinX3 tyX3 tyX3_ok nmX3 2 (by decide) (by decide +kernel) rfl rfl rfl (Nat.le_of_ble_eq_true rfl) rfl dX3_beginWalk_9 (fun H locs hw => ?_)
  obtain ⟨M_16, hM_17⟩ : ∃ z, z = va_up M_11 h0 (some (.inr (5, [.ref bs, .ref vs, .ref q_2, .int kk, .int kv, .int rf]))) := ⟨_, rfl⟩
  rw [← hM_17] at hw
  have hR_18 : RGx G M_16 h0 bs vs (some q_2) kk kv rf qb qk qv fb fv := h_13.obj hM_17 (fun w9 hw9 => by cases hw9; exact ⟨y, _, _, _, _, hWk_12, ⟨i9, _, _, _, _, _, _, hi9, h_15⟩⟩)
  have sm_19 := xS1.up hM_17
  have h_20 := h_14.kept1 sm_19 (by decide) h_13.1
  have h_21 : Vw _ y (qb i9) lo9 up9 sw9 ew9 li9 ui9 := And.intro (x_k1 sm_19 h_13.1 (by decide) h_15.1) h_15.2
  have h_22 : Wk _ q_2 y psk_12 tk_12 kck_12 0 := And.intro (x_k1 sm_19 h_13.1 (by decide) hWk_12.1) hWk_12.2
  refine lv_aload_n hC.1 hC.2.1 dX3_beginWalk_12 rfl (lv_at hl 1 rfl) ?_
  refine x_callV hC hw (lv_size hl) (c_X1_size l G h_21 h_20) gX3_beginWalk_X1_size rfl dv_X1_size h_21.1 rfl rfl (Nat.le_of_ble_eq_true rfl) (by rw [hRf]; decide) (by rw [hRl]; decide) (by omega) (by omega) dX3_beginWalk_13 (fun r9 M_23 H locs hq hw => ?_)
  obtain ⟨z_24, rfl, hM9, hz_24a, hz_24b⟩ := hq
  rw [hM9] at hw
  show W p l e R s m args below meth c H locs _ _ _ (F0 m 16 ls [.int (iN (z_24))])
  exact x_iret hC hw dX3_beginWalk_16 (by omega) (by omega) ⟨z_24, rfl, by omega, _, hR_18⟩
set_option maxHeartbeats 4000000 in
set_option maxRecDepth 100000 in
theorem c_X3_pour (l : Launch) (G : xG) {M : HM} (hst : l.stackTraces = false) {h0 bs vs : Nat} {og : Option Nat} {kk kv rf : Int32} {qb qk qv : Nat → Nat} {fb fv : Nat → Option Nat} (hR : RGx G M h0 bs vs og kk kv rf qb qk qv fb fv) {p0 : Int} (hp0 : -2147483648 ≤ p0 ∧ p0 ≤ 2147483647) {p1 : Int} (hp1 : -2147483648 ≤ p1 ∧ p1 ≤ 2147483647) : xMetX l G yX3_pour wsX3_pour 7 115 3 18 [.ref h0, .int (iN (p0)), .int (iN (p1))] M (fun r M1 => ∃ z : Int, r = some (.int (iN z)) ∧ (-2147483648 ≤ z ∧ z ≤ 2147483647) ∧ RG G M1 h0 rf) (fun E M1 => E ∈ [xIO, xIA] ∧ RG G M1 h0 rf) := by
  refine x_introX (cc := cX3_pour) (maxL := 5) (ret := (some .int)) (by decide +kernel) rfl (Nat.le_of_ble_eq_true rfl) ?_
  intro p e R s m args below meth c ls hRf hRc hRs hRl htab hC hw hl
  have hl : lv_has ls 5 [(0, .ref h0), (1, .int (iN (p0))), (2, .int (iN (p1)))] := hl
  refine lv_aload_n hC.1 hC.2.1 dX3_pour_0 rfl (lv_at hl 0 rfl) ?_
  refine lv_iload_n hC.1 hC.2.1 dX3_pour_1 rfl (lv_at hl 1 rfl) ?_
  refine x_callVX hC hw (lv_size hl) (c_X3_bookAt l G hst hR (p0 := p0) (by omega)) gX3_pour_X3_bookAt rfl dv_X3_bookAt hR.1 rfl rfl (Nat.le_of_ble_eq_true rfl) (by rw [hRf]; decide) (by rw [hRl]; decide) (by omega) (by omega) dX3_pour_2 (fun E ce q9 M_1 H locs hqx hw hcell hcv hcls => ?_) (fun r9 M_1 H locs hq hw => ?_)
  · rw [hqx.2] at hw
    exact x_outX hC hw htab hcell hcv hcls (by omega) (by omega) ⟨(show ∀ x ∈ [xIO], x ∈ [xIO, xIA] from by decide +kernel) E hqx.1, ⟨_, _, _, _, _, _, _, _, _, _, hR⟩⟩
  obtain ⟨rfl, hM9, hk_2, hk_2b⟩ := hq
  rw [hM9] at hw
  have hik_2 : (p0).toNat < 3 := by omega
  obtain ⟨nox_3, ox_3, tx_3, kcx_3, szx_3, fkx_3, fwx_3, hBx_3⟩ := hR.bk hik_2
  obtain ⟨-, -, -, -, hsax_3, hsbx_3⟩ := id hBx_3
  show W p l e R s m args below meth c H locs _ _ _ (F0 m 5 ls [.ref (qb ((p0).toNat))])
  refine lv_astore_n (lv' := [(3, .ref (qb ((p0).toNat))), (0, .ref h0), (1, .int (iN (p0))), (2, .int (iN (p1)))]) hC.1 hC.2.1 dX3_pour_5 rfl hl (by decide) rfl (fun ls hl => ?_)
  refine lv_aload_n hC.1 hC.2.1 dX3_pour_6 rfl (lv_at hl 1 rfl) ?_
  refine lv_iload_n hC.1 hC.2.1 dX3_pour_7 rfl (lv_at hl 3 rfl) ?_
  refine x_callVX hC hw (lv_size hl) (c_X3_bookAt l G hst hR (p0 := p1) (by omega)) gX3_pour_X3_bookAt rfl dv_X3_bookAt hR.1 rfl rfl (Nat.le_of_ble_eq_true rfl) (by rw [hRf]; decide) (by rw [hRl]; decide) (by omega) (by omega) dX3_pour_8 (fun E ce q9 M_4 H locs hqx hw hcell hcv hcls => ?_) (fun r9 M_4 H locs hq hw => ?_)
  · rw [hqx.2] at hw
    exact x_outX hC hw htab hcell hcv hcls (by omega) (by omega) ⟨(show ∀ x ∈ [xIO], x ∈ [xIO, xIA] from by decide +kernel) E hqx.1, ⟨_, _, _, _, _, _, _, _, _, _, hR⟩⟩
  obtain ⟨rfl, hM9, hk_5, hk_5b⟩ := hq
  rw [hM9] at hw
  have hik_5 : (p1).toNat < 3 := by omega
  obtain ⟨nox_6, ox_6, tx_6, kcx_6, szx_6, fkx_6, fwx_6, hBx_6⟩ := hR.bk hik_5
  obtain ⟨-, -, -, -, hsax_6, hsbx_6⟩ := id hBx_6
  show W p l e R s m args below meth c H locs _ _ _ (F0 m 11 ls [.ref (qb ((p1).toNat))])
  refine lv_astore (lv' := [(4, .ref (qb ((p1).toNat))), (3, .ref (qb ((p0).toNat))), (0, .ref h0), (1, .int (iN (p0))), (2, .int (iN (p1)))]) hC.1 hC.2.1 dX3_pour_11 hl (by decide) rfl (fun ls hl => ?_)
  refine lv_iload_n hC.1 hC.2.1 dX3_pour_13 rfl (lv_at hl 3 rfl) ?_
  refine lv_iload_n hC.1 hC.2.1 dX3_pour_14 rfl (lv_at hl 4 rfl) ?_
  refine x_callSX hC hw (lv_size hl) (c_X3_checkUnlike l G (M := M) hst (p0 := p0) (by omega) (p1 := p1) (by omega)) gX3_pour_X3_checkUnlike rfl dv_X3_checkUnlike_s rfl (Nat.le_of_ble_eq_true rfl) (by rw [hRf]; decide) (by rw [hRl]; decide) (by omega) (by omega) dX3_pour_15 (fun E ce q9 M_7 H locs hqx hw hcell hcv hcls => ?_) (fun r9 M_7 H locs hq hw => ?_)
  · rw [hqx.2] at hw
    exact x_outX hC hw htab hcell hcv hcls (by omega) (by omega) ⟨(show ∀ x ∈ [xIA], x ∈ [xIO, xIA] from by decide +kernel) E hqx.1, ⟨_, _, _, _, _, _, _, _, _, _, hR⟩⟩
  obtain ⟨rfl, hM9, hk_8⟩ := hq
  rw [hM9] at hw
  have hap : xAp (qb ((p1).toNat)) (qk ((p1).toNat)) (qv ((p1).toNat)) (qb ((p0).toNat)) (qk ((p0).toNat)) (qv ((p0).toNat)) := hR.ap hik_5 hik_2 (by omega)
  show W p l e R s m args below meth c H locs _ _ _ (F0 m 18 ls [])
  refine lv_aload hC.1 hC.2.1 dX3_pour_18 (lv_at hl 0 rfl) ?_
  refine x_callV hC hw (lv_size hl) (c_X0_touch l G hBx_6) gX3_pour_X0_touch rfl dv_X0_touch hBx_6.1 rfl rfl (Nat.le_of_ble_eq_true rfl) (by rw [hRf]; decide) (by rw [hRl]; decide) (by omega) (by omega) dX3_pour_20 (fun r9 M_9 H locs hq hw => ?_)
  obtain ⟨rfl, ou_10, tu_10, kcu_10, szu_10, fku_10, fvu_10, hBu_10, smu_10⟩ := hq
  obtain ⟨-, -, -, -, hsau_10, hsbu_10⟩ := id hBu_10
  have sm_11 := (xSm.rf (M := M) (b := (qb ((p1).toNat))) (k := (qk ((p1).toNat))) (v := (qv ((p1).toNat)))).tr (smu_10)
  have hB_12 := hBx_3.kept smu_10 hap
  have h_13 := hR.book hik_5 hBx_6 hBu_10 smu_10
  show W p l e R s m args below meth c H locs _ _ _ (F0 m 23 ls [])
  refine lv_aload hC.1 hC.2.1 dX3_pour_23 (lv_at hl 0 rfl) ?_
  refine lv_aload_n hC.1 hC.2.1 dX3_pour_25 rfl (lv_at hl 1 rfl) ?_
  refine x_callV hC hw (lv_size hl) (c_X0_enterAll l G hBu_10 hB_12 hap) gX3_pour_X0_enterAll rfl dv_X0_enterAll hBu_10.1 rfl rfl (Nat.le_of_ble_eq_true rfl) (by rw [hRf]; decide) (by rw [hRl]; decide) (by omega) (by omega) dX3_pour_26 (fun r9 M_14 H locs hq hw => ?_)
  obtain ⟨rfl, ou_15, tu_15, kcu_15, szu_15, fku_15, fvu_15, hBu_15, smu_15⟩ := hq
  obtain ⟨-, -, -, -, hsau_15, hsbu_15⟩ := id hBu_15
  have sm_16 := (sm_11).tr (smu_15)
  have hB_17 := hB_12.kept smu_15 hap
  have h_18 := h_13.book hik_5 hBu_10 hBu_15 smu_15
  show W p l e R s m args below meth c H locs _ _ _ (F0 m 29 ls [])
  refine lv_aload hC.1 hC.2.1 dX3_pour_29 (lv_at hl 0 rfl) ?_
  refine x_callV hC hw (lv_size hl) (c_X0_size l G hBu_15) gX3_pour_X0_size rfl dv_X0_size hBu_15.1 rfl rfl (Nat.le_of_ble_eq_true rfl) (by rw [hRf]; decide) (by rw [hRl]; decide) (by omega) (by omega) dX3_pour_31 (fun r9 M_19 H locs hq hw => ?_)
  obtain ⟨rfl, hM9⟩ := hq
  rw [hM9] at hw
  show W p l e R s m args below meth c H locs _ _ _ (F0 m 34 ls [.int (iN (szu_15))])
  exact vx_ret (x_iret hC hw dX3_pour_34 (by omega) (by omega) ⟨(iN (szu_15)).toInt, by simp only [iN_asI], iN_rng _, ⟨_, _, _, _, _, _, _, _, _, _, h_18⟩⟩)
set_option maxHeartbeats 4000000 in
set_option maxRecDepth 100000 in
theorem c_X3_copy (l : Launch) (G : xG) {M : HM} (hst : l.stackTraces = false) {h0 bs vs : Nat} {og : Option Nat} {kk kv rf : Int32} {qb qk qv : Nat → Nat} {fb fv : Nat → Option Nat} (hR : RGx G M h0 bs vs og kk kv rf qb qk qv fb fv) {p0 : Int} (hp0 : -2147483648 ≤ p0 ∧ p0 ≤ 2147483647) {p1 : Int} (hp1 : -2147483648 ≤ p1 ∧ p1 ≤ 2147483647) : xMetX l G yX3_copy wsX3_copy 7 136 3 18 [.ref h0, .int (iN (p0)), .int (iN (p1))] M (fun r M1 => ∃ z : Int, r = some (.int (iN z)) ∧ (-2147483648 ≤ z ∧ z ≤ 2147483647) ∧ RG G M1 h0 rf) (fun E M1 => E ∈ [xIO, xIA] ∧ RG G M1 h0 rf) := by
  refine x_introX (cc := cX3_copy) (maxL := 5) (ret := (some .int)) (by decide +kernel) rfl (Nat.le_of_ble_eq_true rfl) ?_
  intro p e R s m args below meth c ls hRf hRc hRs hRl htab hC hw hl
  have hinX3 : ∀ w ∈ wsX30, w ∈ wsX3_copy := by decide +kernel
  have hl : lv_has ls 5 [(0, .ref h0), (1, .int (iN (p0))), (2, .int (iN (p1)))] := hl
  refine lv_aload_n hC.1 hC.2.1 dX3_copy_0 rfl (lv_at hl 0 rfl) ?_
  refine lv_iload_n hC.1 hC.2.1 dX3_copy_1 rfl (lv_at hl 1 rfl) ?_
  refine x_callVX hC hw (lv_size hl) (c_X3_bookAt l G hst hR (p0 := p0) (by omega)) gX3_copy_X3_bookAt rfl dv_X3_bookAt hR.1 rfl rfl (Nat.le_of_ble_eq_true rfl) (by rw [hRf]; decide) (by rw [hRl]; decide) (by omega) (by omega) dX3_copy_2 (fun E ce q9 M_1 H locs hqx hw hcell hcv hcls => ?_) (fun r9 M_1 H locs hq hw => ?_)
  · rw [hqx.2] at hw
    exact x_outX hC hw htab hcell hcv hcls (by omega) (by omega) ⟨(show ∀ x ∈ [xIO], x ∈ [xIO, xIA] from by decide +kernel) E hqx.1, ⟨_, _, _, _, _, _, _, _, _, _, hR⟩⟩
  obtain ⟨rfl, hM9, hk_2, hk_2b⟩ := hq
  rw [hM9] at hw
  have hik_2 : (p0).toNat < 3 := by omega
  obtain ⟨nox_3, ox_3, tx_3, kcx_3, szx_3, fkx_3, fwx_3, hBx_3⟩ := hR.bk hik_2
  obtain ⟨-, -, -, -, hsax_3, hsbx_3⟩ := id hBx_3
  show W p l e R s m args below meth c H locs _ _ _ (F0 m 5 ls [.ref (qb ((p0).toNat))])
  refine lv_astore_n (lv' := [(3, .ref (qb ((p0).toNat))), (0, .ref h0), (1, .int (iN (p0))), (2, .int (iN (p1)))]) hC.1 hC.2.1 dX3_copy_5 rfl hl (by decide) rfl (fun ls hl => ?_)
  refine lv_aload_n hC.1 hC.2.1 dX3_copy_6 rfl (lv_at hl 1 rfl) ?_
  refine lv_iload_n hC.1 hC.2.1 dX3_copy_7 rfl (lv_at hl 3 rfl) ?_
  refine x_callVX hC hw (lv_size hl) (c_X3_bookAt l G hst hR (p0 := p1) (by omega)) gX3_copy_X3_bookAt rfl dv_X3_bookAt hR.1 rfl rfl (Nat.le_of_ble_eq_true rfl) (by rw [hRf]; decide) (by rw [hRl]; decide) (by omega) (by omega) dX3_copy_8 (fun E ce q9 M_4 H locs hqx hw hcell hcv hcls => ?_) (fun r9 M_4 H locs hq hw => ?_)
  · rw [hqx.2] at hw
    exact x_outX hC hw htab hcell hcv hcls (by omega) (by omega) ⟨(show ∀ x ∈ [xIO], x ∈ [xIO, xIA] from by decide +kernel) E hqx.1, ⟨_, _, _, _, _, _, _, _, _, _, hR⟩⟩
  obtain ⟨rfl, hM9, hk_5, hk_5b⟩ := hq
  rw [hM9] at hw
  have hik_5 : (p1).toNat < 3 := by omega
  obtain ⟨nox_6, ox_6, tx_6, kcx_6, szx_6, fkx_6, fwx_6, hBx_6⟩ := hR.bk hik_5
  obtain ⟨-, -, -, -, hsax_6, hsbx_6⟩ := id hBx_6
  show W p l e R s m args below meth c H locs _ _ _ (F0 m 11 ls [.ref (qb ((p1).toNat))])
  refine lv_astore (lv' := [(4, .ref (qb ((p1).toNat))), (3, .ref (qb ((p0).toNat))), (0, .ref h0), (1, .int (iN (p0))), (2, .int (iN (p1)))]) hC.1 hC.2.1 dX3_copy_11 hl (by decide) rfl (fun ls hl => ?_)
  refine lv_iload_n hC.1 hC.2.1 dX3_copy_13 rfl (lv_at hl 3 rfl) ?_
  refine lv_iload_n hC.1 hC.2.1 dX3_copy_14 rfl (lv_at hl 4 rfl) ?_
  refine x_callSX hC hw (lv_size hl) (c_X3_checkUnlike l G (M := M) hst (p0 := p0) (by omega) (p1 := p1) (by omega)) gX3_copy_X3_checkUnlike rfl dv_X3_checkUnlike_s rfl (Nat.le_of_ble_eq_true rfl) (by rw [hRf]; decide) (by rw [hRl]; decide) (by omega) (by omega) dX3_copy_15 (fun E ce q9 M_7 H locs hqx hw hcell hcv hcls => ?_) (fun r9 M_7 H locs hq hw => ?_)
  · rw [hqx.2] at hw
    exact x_outX hC hw htab hcell hcv hcls (by omega) (by omega) ⟨(show ∀ x ∈ [xIA], x ∈ [xIO, xIA] from by decide +kernel) E hqx.1, ⟨_, _, _, _, _, _, _, _, _, _, hR⟩⟩
  obtain ⟨rfl, hM9, hk_8⟩ := hq
  rw [hM9] at hw
  have hap : xAp (qb ((p1).toNat)) (qk ((p1).toNat)) (qv ((p1).toNat)) (qb ((p0).toNat)) (qk ((p0).toNat)) (qv ((p0).toNat)) := hR.ap hik_5 hik_2 (by omega)
  show W p l e R s m args below meth c H locs _ _ _ (F0 m 18 ls [])
  refine lv_aload hC.1 hC.2.1 dX3_copy_18 (lv_at hl 0 rfl) ?_
  refine lv_aload_n hC.1 hC.2.1 dX3_copy_20 rfl (lv_at hl 1 rfl) ?_
  refine x_callV hC hw (lv_size hl) (c_X0_becomeLike l G hBx_6 hBx_3 hap) gX3_copy_X0_becomeLike rfl dv_X0_becomeLike hBx_6.1 rfl rfl (Nat.le_of_ble_eq_true rfl) (by rw [hRf]; decide) (by rw [hRl]; decide) (by omega) (by omega) dX3_copy_21 (fun r9 M_9 H locs hq hw => ?_)
  obtain ⟨rfl, ou_10, tu_10, kcu_10, szu_10, fku_10, fvu_10, hBu_10, smu_10⟩ := hq
  obtain ⟨-, -, -, -, hsau_10, hsbu_10⟩ := id hBu_10
  have sm_11 := (xSm.rf (M := M) (b := (qb ((p1).toNat))) (k := (qk ((p1).toNat))) (v := (qv ((p1).toNat)))).tr (smu_10)
  have hB_12 := hBx_3.kept smu_10 hap
  have h_13 := hR.book hik_5 hBx_6 hBu_10 smu_10
  show W p l e R s m args below meth c H locs _ _ _ (F0 m 24 ls [])
  refine lv_aload_n hC.1 hC.2.1 dX3_copy_24 rfl (lv_at hl 2 rfl) ?_
  refine x_get hC hw h_13.1 rfl hinX3 2 (by decide) (by decide +kernel) rfl dX3_copy_25 ?_
  rcases og with _ | w_14
  · show W p l e R s m args below meth c _ _ _ _ _ (F0 m 28 ls [.null])
    refine lv_ifnullN (tgt := 48) hC.1 hC.2.1 dX3_copy_28 (by decide) ?_
    refine lv_aload_n hC.1 hC.2.1 dX3_copy_48 rfl (lv_at hl 2 rfl) ?_
    refine lv_aload hC.1 hC.2.1 dX3_copy_49 (lv_at hl 0 rfl) ?_
    refine x_callV hC hw (lv_size hl) (c_X3_shutViewsOnto l G h_13 (bb := (qb ((p1).toNat)))) gX3_copy_X3_shutViewsOnto rfl dv_X3_shutViewsOnto h_13.1 rfl rfl (Nat.le_of_ble_eq_true rfl) (by rw [hRf]; decide) (by rw [hRl]; decide) (by omega) (by omega) dX3_copy_51 (fun r9 M_15 H locs hq hw => ?_)
    obtain ⟨z_17, rfl, hz_17, fvk_16, hRk_16⟩ := hq
    show W p l e R s m args below meth c H locs _ _ _ (F0 m 54 ls [.int (iN (z_17))])
    exact vx_ret (x_iret hC hw dX3_copy_54 (by omega) (by omega) ⟨(iN (z_17)).toInt, by simp only [iN_asI], iN_rng _, ⟨_, _, _, _, _, _, _, _, _, _, hRk_16⟩⟩)
  · obtain ⟨yx_18, psx_18, tx_18, kcx_18, cdx_18, hWx_18, hEx_18⟩ := h_13.wk rfl
    have hcdx_18 := hWx_18.2
    obtain ⟨ix_19, lox_19, upx_19, swx_19, ewx_19, lix_19, uix_19, hix_19, hVx_19⟩ := hEx_18
    have hlix_19 := hVx_19.2.1
    have huix_19 := hVx_19.2.2
    obtain ⟨nox_20, ox_20, tx_20, kcx_20, szx_20, fkx_20, fwx_20, hBx_20⟩ := h_13.bk hix_19
    obtain ⟨-, -, -, -, hsax_20, hsbx_20⟩ := id hBx_20
    show W p l e R s m args below meth c _ _ _ _ _ (F0 m 28 ls [.ref w_14])
    refine lv_ifnull hC.1 hC.2.1 dX3_copy_28 ?_
    refine lv_aload_n hC.1 hC.2.1 dX3_copy_31 rfl (lv_at hl 2 rfl) ?_
    refine x_get hC hw h_13.1 rfl hinX3 2 (by decide) (by decide +kernel) rfl dX3_copy_32 ?_
    show W p l e R s m args below meth c _ _ _ _ _ (F0 m 35 ls [.ref w_14])
    refine x_callV hC hw (lv_size hl) (c_X2_book l G hWx_18 hVx_19 hBx_20) gX3_copy_X2_book rfl dv_X2_book hWx_18.1 rfl rfl (Nat.le_of_ble_eq_true rfl) (by rw [hRf]; decide) (by rw [hRl]; decide) (by omega) (by omega) dX3_copy_35 (fun r9 M_21 H locs hq hw => ?_)
    obtain ⟨rfl, hM9⟩ := hq
    rw [hM9] at hw
    show W p l e R s m args below meth c H locs _ _ _ (F0 m 38 ls [.ref (qb ix_19)])
    refine lv_aload hC.1 hC.2.1 dX3_copy_38 (lv_at hl 0 rfl) ?_
    refine x_acmp_ne (tgt := 48) hC dX3_copy_40 (by decide) (fun c_22 => ?_) (fun c_22 => ?_)
    · refine lv_aload_n hC.1 hC.2.1 dX3_copy_48 rfl (lv_at hl 2 rfl) ?_
      refine lv_aload hC.1 hC.2.1 dX3_copy_49 (lv_at hl 0 rfl) ?_
      refine x_callV hC hw (lv_size hl) (c_X3_shutViewsOnto l G h_13 (bb := (qb ((p1).toNat)))) gX3_copy_X3_shutViewsOnto rfl dv_X3_shutViewsOnto h_13.1 rfl rfl (Nat.le_of_ble_eq_true rfl) (by rw [hRf]; decide) (by rw [hRl]; decide) (by omega) (by omega) dX3_copy_51 (fun r9 M_23 H locs hq hw => ?_)
      obtain ⟨z_25, rfl, hz_25, fvk_24, hRk_24⟩ := hq
      show W p l e R s m args below meth c H locs _ _ _ (F0 m 54 ls [.int (iN (z_25))])
      exact vx_ret (x_iret hC hw dX3_copy_54 (by omega) (by omega) ⟨(iN (z_25)).toInt, by simp only [iN_asI], iN_rng _, ⟨_, _, _, _, _, _, _, _, _, _, hRk_24⟩⟩)
    · refine lv_aload_n hC.1 hC.2.1 dX3_copy_43 rfl (lv_at hl 2 rfl) ?_
      refine lv_null hC.1 hC.2.1 dX3_copy_44 ?_
      refine x_put (fs2 := [.ref bs, .ref vs, .null, .int kk, .int kv, .int rf]) hC hw h_13.1 rfl hinX3 tyX3 tyX3_ok nmX3 2 (by decide) (by decide +kernel) rfl rfl rfl (Nat.le_of_ble_eq_true rfl) rfl dX3_copy_45 (fun H locs hw => ?_)
      obtain ⟨M_26, hM_27⟩ : ∃ z, z = va_up M_9 h0 (some (.inr (5, [.ref bs, .ref vs, .null, .int kk, .int kv, .int rf]))) := ⟨_, rfl⟩
      rw [← hM_27] at hw
      have hR_28 : RGx G M_26 h0 bs vs none kk kv rf qb qk qv fb fv := h_13.obj hM_27 (fun w9 hw9 => nomatch hw9)
      have sm_29 := xS1.up hM_27
      have h_30 := hB_12.kept1 sm_29 (by decide) h_13.1
      have h_31 := hBu_10.kept1 sm_29 (by decide) h_13.1
      have h_32 := hBx_20.kept1 sm_29 (by decide) h_13.1
      have h_33 : Vw _ yx_18 (qb ix_19) lox_19 upx_19 swx_19 ewx_19 lix_19 uix_19 := And.intro (x_k1 sm_29 h_13.1 (by decide) hVx_19.1) hVx_19.2
      have h_34 : Wk _ w_14 yx_18 psx_18 tx_18 kcx_18 cdx_18 := And.intro (x_k1 sm_29 h_13.1 (by decide) hWx_18.1) hWx_18.2
      refine lv_aload_n hC.1 hC.2.1 dX3_copy_48 rfl (lv_at hl 2 rfl) ?_
      refine lv_aload hC.1 hC.2.1 dX3_copy_49 (lv_at hl 0 rfl) ?_
      refine x_callV hC hw (lv_size hl) (c_X3_shutViewsOnto l G hR_28 (bb := (qb ((p1).toNat)))) gX3_copy_X3_shutViewsOnto rfl dv_X3_shutViewsOnto hR_28.1 rfl rfl (Nat.le_of_ble_eq_true rfl) (by rw [hRf]; decide) (by rw [hRl]; decide) (by omega) (by omega) dX3_copy_51 (fun r9 M_35 H locs hq hw => ?_)
      obtain ⟨z_37, rfl, hz_37, fvk_36, hRk_36⟩ := hq
      show W p l e R s m args below meth c H locs _ _ _ (F0 m 54 ls [.int (iN (z_37))])
      exact vx_ret (x_iret hC hw dX3_copy_54 (by omega) (by omega) ⟨(iN (z_37)).toInt, by simp only [iN_asI], iN_rng _, ⟨_, _, _, _, _, _, _, _, _, _, hRk_36⟩⟩)
set_option maxHeartbeats 4000000 in
set_option maxRecDepth 100000 in
theorem c_X3_thin (l : Launch) (G : xG) {M : HM} (hst : l.stackTraces = false) {h0 bs vs : Nat} {og : Option Nat} {kk kv rf : Int32} {qb qk qv : Nat → Nat} {fb fv : Nat → Option Nat} (hR : RGx G M h0 bs vs og kk kv rf qb qk qv fb fv) {p0 : Int} (hp0 : -2147483648 ≤ p0 ∧ p0 ≤ 2147483647) {p1 : Int} (hp1 : -2147483648 ≤ p1 ∧ p1 ≤ 2147483647) {p2 : Int} (hp2 : -2147483648 ≤ p2 ∧ p2 ≤ 2147483647) (hb2 : p2 = 0 ∨ p2 = 1) : xMetX l G yX3_thin wsX3_thin 7 136 3 18 [.ref h0, .int (iN (p0)), .int (iN (p1)), .int (iN (p2))] M (fun r M1 => ∃ z : Int, r = some (.int (iN z)) ∧ (-2147483648 ≤ z ∧ z ≤ 2147483647) ∧ RG G M1 h0 rf) (fun E M1 => E ∈ [xIO, xIA] ∧ RG G M1 h0 rf) := by
  refine x_introX (cc := cX3_thin) (maxL := 6) (ret := (some .int)) (by decide +kernel) rfl (Nat.le_of_ble_eq_true rfl) ?_
  intro p e R s m args below meth c ls hRf hRc hRs hRl htab hC hw hl
  have hl : lv_has ls 6 [(0, .ref h0), (1, .int (iN (p0))), (2, .int (iN (p1))), (3, .int (iN (p2)))] := hl
  refine lv_aload_n hC.1 hC.2.1 dX3_thin_0 rfl (lv_at hl 0 rfl) ?_
  refine lv_iload_n hC.1 hC.2.1 dX3_thin_1 rfl (lv_at hl 1 rfl) ?_
  refine x_callVX hC hw (lv_size hl) (c_X3_bookAt l G hst hR (p0 := p0) (by omega)) gX3_thin_X3_bookAt rfl dv_X3_bookAt hR.1 rfl rfl (Nat.le_of_ble_eq_true rfl) (by rw [hRf]; decide) (by rw [hRl]; decide) (by omega) (by omega) dX3_thin_2 (fun E ce q9 M_1 H locs hqx hw hcell hcv hcls => ?_) (fun r9 M_1 H locs hq hw => ?_)
  · rw [hqx.2] at hw
    exact x_outX hC hw htab hcell hcv hcls (by omega) (by omega) ⟨(show ∀ x ∈ [xIO], x ∈ [xIO, xIA] from by decide +kernel) E hqx.1, ⟨_, _, _, _, _, _, _, _, _, _, hR⟩⟩
  obtain ⟨rfl, hM9, hk_2, hk_2b⟩ := hq
  rw [hM9] at hw
  have hik_2 : (p0).toNat < 3 := by omega
  obtain ⟨nox_3, ox_3, tx_3, kcx_3, szx_3, fkx_3, fwx_3, hBx_3⟩ := hR.bk hik_2
  obtain ⟨-, -, -, -, hsax_3, hsbx_3⟩ := id hBx_3
  show W p l e R s m args below meth c H locs _ _ _ (F0 m 5 ls [.ref (qb ((p0).toNat))])
  refine lv_astore (lv' := [(4, .ref (qb ((p0).toNat))), (0, .ref h0), (1, .int (iN (p0))), (2, .int (iN (p1))), (3, .int (iN (p2)))]) hC.1 hC.2.1 dX3_thin_5 hl (by decide) rfl (fun ls hl => ?_)
  refine lv_aload_n hC.1 hC.2.1 dX3_thin_7 rfl (lv_at hl 1 rfl) ?_
  refine lv_iload_n hC.1 hC.2.1 dX3_thin_8 rfl (lv_at hl 3 rfl) ?_
  refine x_callVX hC hw (lv_size hl) (c_X3_bookAt l G hst hR (p0 := p1) (by omega)) gX3_thin_X3_bookAt rfl dv_X3_bookAt hR.1 rfl rfl (Nat.le_of_ble_eq_true rfl) (by rw [hRf]; decide) (by rw [hRl]; decide) (by omega) (by omega) dX3_thin_9 (fun E ce q9 M_4 H locs hqx hw hcell hcv hcls => ?_) (fun r9 M_4 H locs hq hw => ?_)
  · rw [hqx.2] at hw
    exact x_outX hC hw htab hcell hcv hcls (by omega) (by omega) ⟨(show ∀ x ∈ [xIO], x ∈ [xIO, xIA] from by decide +kernel) E hqx.1, ⟨_, _, _, _, _, _, _, _, _, _, hR⟩⟩
  obtain ⟨rfl, hM9, hk_5, hk_5b⟩ := hq
  rw [hM9] at hw
  have hik_5 : (p1).toNat < 3 := by omega
  obtain ⟨nox_6, ox_6, tx_6, kcx_6, szx_6, fkx_6, fwx_6, hBx_6⟩ := hR.bk hik_5
  obtain ⟨-, -, -, -, hsax_6, hsbx_6⟩ := id hBx_6
  show W p l e R s m args below meth c H locs _ _ _ (F0 m 12 ls [.ref (qb ((p1).toNat))])
  refine lv_astore (lv' := [(5, .ref (qb ((p1).toNat))), (4, .ref (qb ((p0).toNat))), (0, .ref h0), (1, .int (iN (p0))), (2, .int (iN (p1))), (3, .int (iN (p2)))]) hC.1 hC.2.1 dX3_thin_12 hl (by decide) rfl (fun ls hl => ?_)
  refine lv_iload_n hC.1 hC.2.1 dX3_thin_14 rfl (lv_at hl 3 rfl) ?_
  refine lv_iload_n hC.1 hC.2.1 dX3_thin_15 rfl (lv_at hl 4 rfl) ?_
  refine x_callSX hC hw (lv_size hl) (c_X3_checkUnlike l G (M := M) hst (p0 := p0) (by omega) (p1 := p1) (by omega)) gX3_thin_X3_checkUnlike rfl dv_X3_checkUnlike_s rfl (Nat.le_of_ble_eq_true rfl) (by rw [hRf]; decide) (by rw [hRl]; decide) (by omega) (by omega) dX3_thin_16 (fun E ce q9 M_7 H locs hqx hw hcell hcv hcls => ?_) (fun r9 M_7 H locs hq hw => ?_)
  · rw [hqx.2] at hw
    exact x_outX hC hw htab hcell hcv hcls (by omega) (by omega) ⟨(show ∀ x ∈ [xIA], x ∈ [xIO, xIA] from by decide +kernel) E hqx.1, ⟨_, _, _, _, _, _, _, _, _, _, hR⟩⟩
  obtain ⟨rfl, hM9, hk_8⟩ := hq
  rw [hM9] at hw
  have hap : xAp (qb ((p0).toNat)) (qk ((p0).toNat)) (qv ((p0).toNat)) (qb ((p1).toNat)) (qk ((p1).toNat)) (qv ((p1).toNat)) := hR.ap hik_2 hik_5 (by omega)
  show W p l e R s m args below meth c H locs _ _ _ (F0 m 19 ls [])
  refine lv_aload hC.1 hC.2.1 dX3_thin_19 (lv_at hl 1 rfl) ?_
  refine x_callV hC hw (lv_size hl) (c_X0_touch l G hBx_3) gX3_thin_X0_touch rfl dv_X0_touch hBx_3.1 rfl rfl (Nat.le_of_ble_eq_true rfl) (by rw [hRf]; decide) (by rw [hRl]; decide) (by omega) (by omega) dX3_thin_21 (fun r9 M_9 H locs hq hw => ?_)
  obtain ⟨rfl, ou_10, tu_10, kcu_10, szu_10, fku_10, fvu_10, hBu_10, smu_10⟩ := hq
  obtain ⟨-, -, -, -, hsau_10, hsbu_10⟩ := id hBu_10
  have sm_11 := (xSm.rf (M := M) (b := (qb ((p0).toNat))) (k := (qk ((p0).toNat))) (v := (qv ((p0).toNat)))).tr (smu_10)
  have hB_12 := hBx_6.kept smu_10 hap
  have h_13 := hR.book hik_2 hBx_3 hBu_10 smu_10
  show W p l e R s m args below meth c H locs _ _ _ (F0 m 24 ls [])
  refine lv_aload hC.1 hC.2.1 dX3_thin_24 (lv_at hl 1 rfl) ?_
  refine lv_aload hC.1 hC.2.1 dX3_thin_26 (lv_at hl 0 rfl) ?_
  refine lv_iload_n hC.1 hC.2.1 dX3_thin_28 rfl (lv_at hl 5 rfl) ?_
  refine x_callV hC hw (lv_size hl) (c_X0_removeByOther l G hBu_10 hB_12 (p0 := p2) (by omega) hap) gX3_thin_X0_removeByOther rfl dv_X0_removeByOther hBu_10.1 rfl rfl (Nat.le_of_ble_eq_true rfl) (by rw [hRf]; decide) (by rw [hRl]; decide) (by omega) (by omega) dX3_thin_29 (fun r9 M_14 H locs hq hw => ?_)
  obtain ⟨z_16, rfl, hz_16, ou_15, tu_15, kcu_15, szu_15, fku_15, fvu_15, hBu_15, smu_15⟩ := hq
  obtain ⟨-, -, -, -, hsau_15, hsbu_15⟩ := id hBu_15
  have sm_17 := (sm_11).tr (smu_15)
  have hB_18 := hB_12.kept smu_15 hap
  have h_19 := h_13.book hik_2 hBu_10 hBu_15 smu_15
  show W p l e R s m args below meth c H locs _ _ _ (F0 m 32 ls [.int (iN (z_16))])
  exact vx_ret (x_iret hC hw dX3_thin_32 (by omega) (by omega) ⟨(iN (z_16)).toInt, by simp only [iN_asI], iN_rng _, ⟨_, _, _, _, _, _, _, _, _, _, h_19⟩⟩)
set_option maxHeartbeats 4000000 in
set_option maxRecDepth 100000 in
theorem c_X3_head (l : Launch) (G : xG) {M : HM} (hst : l.stackTraces = false) {h0 bs vs : Nat} {og : Option Nat} {kk kv rf : Int32} {qb qk qv : Nat → Nat} {fb fv : Nat → Option Nat} (hR : RGx G M h0 bs vs og kk kv rf qb qk qv fb fv) {p0 : Int} (hp0 : -2147483648 ≤ p0 ∧ p0 ≤ 2147483647) {p1 : Int} (hp1 : -2147483648 ≤ p1 ∧ p1 ≤ 2147483647) {p2 : Int} (hp2 : -2147483648 ≤ p2 ∧ p2 ≤ 2147483647) (hb2 : p2 = 0 ∨ p2 = 1) : xMetX l G yX3_head wsX3_head 7 112 4 25 [.ref h0, .int (iN (p0)), .int (iN (p1)), .int (iN (p2))] M (fun r M1 => ∃ z : Int, r = some (.int (iN z)) ∧ (-2147483648 ≤ z ∧ z ≤ 2147483647) ∧ RG G M1 h0 rf) (fun E M1 => E ∈ [xIO, xIA, xIS] ∧ RG G M1 h0 rf) := by
  refine x_introX (cc := cX3_head) (maxL := 5) (ret := (some .int)) (by decide +kernel) rfl (Nat.le_of_ble_eq_true rfl) ?_
  intro p e R s m args below meth c ls hRf hRc hRs hRl htab hC hw hl
  have hinX1 : ∀ w ∈ wsX10, w ∈ wsX3_head := by decide +kernel
  have hl : lv_has ls 5 [(0, .ref h0), (1, .int (iN (p0))), (2, .int (iN (p1))), (3, .int (iN (p2)))] := hl
  refine lv_aload_n hC.1 hC.2.1 dX3_head_0 rfl (lv_at hl 0 rfl) ?_
  refine lv_iload_n hC.1 hC.2.1 dX3_head_1 rfl (lv_at hl 1 rfl) ?_
  refine x_callVX hC hw (lv_size hl) (c_X3_bookAt l G hst hR (p0 := p0) (by omega)) gX3_head_X3_bookAt rfl dv_X3_bookAt hR.1 rfl rfl (Nat.le_of_ble_eq_true rfl) (by rw [hRf]; decide) (by rw [hRl]; decide) (by omega) (by omega) dX3_head_2 (fun E ce q9 M_1 H locs hqx hw hcell hcv hcls => ?_) (fun r9 M_1 H locs hq hw => ?_)
  · rw [hqx.2] at hw
    exact x_outX hC hw htab hcell hcv hcls (by omega) (by omega) ⟨(show ∀ x ∈ [xIO], x ∈ [xIO, xIA, xIS] from by decide +kernel) E hqx.1, ⟨_, _, _, _, _, _, _, _, _, _, hR⟩⟩
  obtain ⟨rfl, hM9, hk_2, hk_2b⟩ := hq
  rw [hM9] at hw
  have hik_2 : (p0).toNat < 3 := by omega
  obtain ⟨nox_3, ox_3, tx_3, kcx_3, szx_3, fkx_3, fwx_3, hBx_3⟩ := hR.bk hik_2
  obtain ⟨-, -, -, -, hsax_3, hsbx_3⟩ := id hBx_3
  show W p l e R s m args below meth c H locs _ _ _ (F0 m 5 ls [.ref (qb ((p0).toNat))])
  refine lv_astore (lv' := [(4, .ref (qb ((p0).toNat))), (0, .ref h0), (1, .int (iN (p0))), (2, .int (iN (p1))), (3, .int (iN (p2)))]) hC.1 hC.2.1 dX3_head_5 hl (by decide) rfl (fun ls hl => ?_)
  refine lv_iload_n hC.1 hC.2.1 dX3_head_7 rfl (lv_at hl 3 rfl) ?_
  refine x_callSX hC hw (lv_size hl) (c_X3_checkKey l G (M := M) hst (p0 := p1) (by omega)) gX3_head_X3_checkKey rfl dv_X3_checkKey_s rfl (Nat.le_of_ble_eq_true rfl) (by rw [hRf]; decide) (by rw [hRl]; decide) (by omega) (by omega) dX3_head_8 (fun E ce q9 M_4 H locs hqx hw hcell hcv hcls => ?_) (fun r9 M_4 H locs hq hw => ?_)
  · rw [hqx.2] at hw
    exact x_outX hC hw htab hcell hcv hcls (by omega) (by omega) ⟨(show ∀ x ∈ [xIA], x ∈ [xIO, xIA, xIS] from by decide +kernel) E hqx.1, ⟨_, _, _, _, _, _, _, _, _, _, hR⟩⟩
  obtain ⟨rfl, hM9, hk_5⟩ := hq
  rw [hM9] at hw
  show W p l e R s m args below meth c H locs _ _ _ (F0 m 11 ls [])
  refine lv_aload_n hC.1 hC.2.1 dX3_head_11 rfl (lv_at hl 1 rfl) ?_
  refine x_new (fs := [.null, .int 0, .int 0, .int 0, .int 0, .int 0, .int 0]) (ci := 3) hC hw rfl hinX1 tyX1 tyX1_ok (by decide +kernel) (by decide +kernel) (by decide +kernel) (fun j hj => by rcases (show j = 0 ∨ j = 1 ∨ j = 2 ∨ j = 3 ∨ j = 4 ∨ j = 5 ∨ j = 6 by omega) with rfl | rfl | rfl | rfl | rfl | rfl | rfl <;> rfl) (by omega) (by omega) dX3_head_12 (fun q_6 H hq_9 hw => ?_)
  obtain ⟨M_7, hM_8⟩ : ∃ z, z = va_up M q_6 (some (.inr (3, [.null, .int 0, .int 0, .int 0, .int 0, .int 0, .int 0]))) := ⟨_, rfl⟩
  rw [← hM_8] at hw
  have hx_10 : xExt M M_7 := by rw [hM_8]; exact xExt.new hq_9
  have hf_11 : M_7 q_6 = some (.inr (3, [.null, .int 0, .int 0, .int 0, .int 0, .int 0, .int 0])) := by rw [hM_8, va_up_self]
  have h_12 := hR.ext hx_10
  have h_13 := hBx_3.ext hx_10
  refine lv_dup hC.1 hC.2.1 dX3_head_15 rfl ?_
  refine lv_aload hC.1 hC.2.1 dX3_head_16 (lv_at hl 0 rfl) ?_
  refine x_sipush hC dX3_head_18 (by decide +kernel) ?_
  refine x_const hC dX3_head_21 ?_
  refine lv_iload_n hC.1 hC.2.1 dX3_head_22 rfl (lv_at hl 3 rfl) ?_
  refine lv_iload_n hC.1 hC.2.1 dX3_head_23 rfl (lv_at hl 4 rfl) ?_
  refine x_callI hC hw (lv_size hl) (c_X1_init l G hf_11 h_13 (p0 := (-10000)) (by omega) (p1 := 0) (by omega) (p2 := p1) (by omega) (p3 := p2) (by omega) (by omega) (by omega)) gX3_head_X1_init rfl (by decide +kernel) (by decide +kernel) (by decide +kernel) rfl dv_X1_init_s rfl (Nat.le_of_ble_eq_true rfl) (by rw [hRf]; decide) (by rw [hRl]; decide) (by omega) (by omega) dX3_head_24 (fun r9 M_14 H locs hq hw => ?_)
  obtain ⟨rfl, ⟨swk_15, ewk_15, hVk_15⟩, smk_15⟩ := hq
  have hxk_15 : xExt M M_14 := fun a e he => (smk_15 a (fun z => by rw [z, hq_9] at he; cases he)).trans (by rw [hM_8, va_up_ne _ _ (fun z => by rw [z, hq_9] at he; cases he)]; exact he)
  have h_16 := hR.ext hxk_15
  have h_17 := hBx_3.ext hxk_15
  show W p l e R s m args below meth c H locs _ _ _ (F0 m 27 ls [.ref q_6, .ref h0])
  refine x_callVX hC hw (lv_size hl) (c_X3_openView l G hst h_16 (y := q_6) ⟨(p0).toNat, _, _, _, _, _, _, hik_2, hVk_15⟩) gX3_head_X3_openView rfl dv_X3_openView h_16.1 rfl rfl (Nat.le_of_ble_eq_true rfl) (by rw [hRf]; decide) (by rw [hRl]; decide) (by omega) (by omega) dX3_head_27 (fun E ce q9 M_18 H locs hqx hw hcell hcv hcls => ?_) (fun r9 M_18 H locs hq hw => ?_)
  · exact x_outX hC hw htab hcell hcv hcls (by omega) (by omega) ⟨(show ∀ x ∈ [xIS], x ∈ [xIO, xIA, xIS] from by decide +kernel) E hqx.1, ⟨_, _, _, _, _, _, _, _, _, _, hqx.2⟩⟩
  obtain ⟨z_20, rfl, hz_20, fvk_19, hRk_19⟩ := hq
  show W p l e R s m args below meth c H locs _ _ _ (F0 m 30 ls [.int (iN (z_20))])
  exact vx_ret (x_iret hC hw dX3_head_30 (by omega) (by omega) ⟨(iN (z_20)).toInt, by simp only [iN_asI], iN_rng _, ⟨_, _, _, _, _, _, _, _, _, _, hRk_19⟩⟩)
set_option maxHeartbeats 4000000 in
set_option maxRecDepth 100000 in
theorem c_X3_tail (l : Launch) (G : xG) {M : HM} (hst : l.stackTraces = false) {h0 bs vs : Nat} {og : Option Nat} {kk kv rf : Int32} {qb qk qv : Nat → Nat} {fb fv : Nat → Option Nat} (hR : RGx G M h0 bs vs og kk kv rf qb qk qv fb fv) {p0 : Int} (hp0 : -2147483648 ≤ p0 ∧ p0 ≤ 2147483647) {p1 : Int} (hp1 : -2147483648 ≤ p1 ∧ p1 ≤ 2147483647) {p2 : Int} (hp2 : -2147483648 ≤ p2 ∧ p2 ≤ 2147483647) (hb2 : p2 = 0 ∨ p2 = 1) : xMetX l G yX3_tail wsX3_tail 7 112 4 25 [.ref h0, .int (iN (p0)), .int (iN (p1)), .int (iN (p2))] M (fun r M1 => ∃ z : Int, r = some (.int (iN z)) ∧ (-2147483648 ≤ z ∧ z ≤ 2147483647) ∧ RG G M1 h0 rf) (fun E M1 => E ∈ [xIO, xIA, xIS] ∧ RG G M1 h0 rf) := by
  refine x_introX (cc := cX3_tail) (maxL := 5) (ret := (some .int)) (by decide +kernel) rfl (Nat.le_of_ble_eq_true rfl) ?_
  intro p e R s m args below meth c ls hRf hRc hRs hRl htab hC hw hl
  have hinX1 : ∀ w ∈ wsX10, w ∈ wsX3_tail := by decide +kernel
  have hl : lv_has ls 5 [(0, .ref h0), (1, .int (iN (p0))), (2, .int (iN (p1))), (3, .int (iN (p2)))] := hl
  refine lv_aload_n hC.1 hC.2.1 dX3_tail_0 rfl (lv_at hl 0 rfl) ?_
  refine lv_iload_n hC.1 hC.2.1 dX3_tail_1 rfl (lv_at hl 1 rfl) ?_
  refine x_callVX hC hw (lv_size hl) (c_X3_bookAt l G hst hR (p0 := p0) (by omega)) gX3_tail_X3_bookAt rfl dv_X3_bookAt hR.1 rfl rfl (Nat.le_of_ble_eq_true rfl) (by rw [hRf]; decide) (by rw [hRl]; decide) (by omega) (by omega) dX3_tail_2 (fun E ce q9 M_1 H locs hqx hw hcell hcv hcls => ?_) (fun r9 M_1 H locs hq hw => ?_)
  · rw [hqx.2] at hw
    exact x_outX hC hw htab hcell hcv hcls (by omega) (by omega) ⟨(show ∀ x ∈ [xIO], x ∈ [xIO, xIA, xIS] from by decide +kernel) E hqx.1, ⟨_, _, _, _, _, _, _, _, _, _, hR⟩⟩
  obtain ⟨rfl, hM9, hk_2, hk_2b⟩ := hq
  rw [hM9] at hw
  have hik_2 : (p0).toNat < 3 := by omega
  obtain ⟨nox_3, ox_3, tx_3, kcx_3, szx_3, fkx_3, fwx_3, hBx_3⟩ := hR.bk hik_2
  obtain ⟨-, -, -, -, hsax_3, hsbx_3⟩ := id hBx_3
  show W p l e R s m args below meth c H locs _ _ _ (F0 m 5 ls [.ref (qb ((p0).toNat))])
  refine lv_astore (lv' := [(4, .ref (qb ((p0).toNat))), (0, .ref h0), (1, .int (iN (p0))), (2, .int (iN (p1))), (3, .int (iN (p2)))]) hC.1 hC.2.1 dX3_tail_5 hl (by decide) rfl (fun ls hl => ?_)
  refine lv_iload_n hC.1 hC.2.1 dX3_tail_7 rfl (lv_at hl 3 rfl) ?_
  refine x_callSX hC hw (lv_size hl) (c_X3_checkKey l G (M := M) hst (p0 := p1) (by omega)) gX3_tail_X3_checkKey rfl dv_X3_checkKey_s rfl (Nat.le_of_ble_eq_true rfl) (by rw [hRf]; decide) (by rw [hRl]; decide) (by omega) (by omega) dX3_tail_8 (fun E ce q9 M_4 H locs hqx hw hcell hcv hcls => ?_) (fun r9 M_4 H locs hq hw => ?_)
  · rw [hqx.2] at hw
    exact x_outX hC hw htab hcell hcv hcls (by omega) (by omega) ⟨(show ∀ x ∈ [xIA], x ∈ [xIO, xIA, xIS] from by decide +kernel) E hqx.1, ⟨_, _, _, _, _, _, _, _, _, _, hR⟩⟩
  obtain ⟨rfl, hM9, hk_5⟩ := hq
  rw [hM9] at hw
  show W p l e R s m args below meth c H locs _ _ _ (F0 m 11 ls [])
  refine lv_aload_n hC.1 hC.2.1 dX3_tail_11 rfl (lv_at hl 1 rfl) ?_
  refine x_new (fs := [.null, .int 0, .int 0, .int 0, .int 0, .int 0, .int 0]) (ci := 3) hC hw rfl hinX1 tyX1 tyX1_ok (by decide +kernel) (by decide +kernel) (by decide +kernel) (fun j hj => by rcases (show j = 0 ∨ j = 1 ∨ j = 2 ∨ j = 3 ∨ j = 4 ∨ j = 5 ∨ j = 6 by omega) with rfl | rfl | rfl | rfl | rfl | rfl | rfl <;> rfl) (by omega) (by omega) dX3_tail_12 (fun q_6 H hq_9 hw => ?_)
  obtain ⟨M_7, hM_8⟩ : ∃ z, z = va_up M q_6 (some (.inr (3, [.null, .int 0, .int 0, .int 0, .int 0, .int 0, .int 0]))) := ⟨_, rfl⟩
  rw [← hM_8] at hw
  have hx_10 : xExt M M_7 := by rw [hM_8]; exact xExt.new hq_9
  have hf_11 : M_7 q_6 = some (.inr (3, [.null, .int 0, .int 0, .int 0, .int 0, .int 0, .int 0])) := by rw [hM_8, va_up_self]
  have h_12 := hR.ext hx_10
  have h_13 := hBx_3.ext hx_10
  refine lv_dup hC.1 hC.2.1 dX3_tail_15 rfl ?_
  refine lv_aload hC.1 hC.2.1 dX3_tail_16 (lv_at hl 0 rfl) ?_
  refine lv_iload_n hC.1 hC.2.1 dX3_tail_18 rfl (lv_at hl 3 rfl) ?_
  refine lv_iload_n hC.1 hC.2.1 dX3_tail_19 rfl (lv_at hl 4 rfl) ?_
  refine x_sipush hC dX3_tail_20 (by decide +kernel) ?_
  refine x_const hC dX3_tail_23 ?_
  refine x_callI hC hw (lv_size hl) (c_X1_init l G hf_11 h_13 (p0 := p1) (by omega) (p1 := p2) (by omega) (p2 := (-10000)) (by omega) (p3 := 0) (by omega) (by omega) (by omega)) gX3_tail_X1_init rfl (by decide +kernel) (by decide +kernel) (by decide +kernel) rfl dv_X1_init_s rfl (Nat.le_of_ble_eq_true rfl) (by rw [hRf]; decide) (by rw [hRl]; decide) (by omega) (by omega) dX3_tail_24 (fun r9 M_14 H locs hq hw => ?_)
  obtain ⟨rfl, ⟨swk_15, ewk_15, hVk_15⟩, smk_15⟩ := hq
  have hxk_15 : xExt M M_14 := fun a e he => (smk_15 a (fun z => by rw [z, hq_9] at he; cases he)).trans (by rw [hM_8, va_up_ne _ _ (fun z => by rw [z, hq_9] at he; cases he)]; exact he)
  have h_16 := hR.ext hxk_15
  have h_17 := hBx_3.ext hxk_15
  show W p l e R s m args below meth c H locs _ _ _ (F0 m 27 ls [.ref q_6, .ref h0])
  refine x_callVX hC hw (lv_size hl) (c_X3_openView l G hst h_16 (y := q_6) ⟨(p0).toNat, _, _, _, _, _, _, hik_2, hVk_15⟩) gX3_tail_X3_openView rfl dv_X3_openView h_16.1 rfl rfl (Nat.le_of_ble_eq_true rfl) (by rw [hRf]; decide) (by rw [hRl]; decide) (by omega) (by omega) dX3_tail_27 (fun E ce q9 M_18 H locs hqx hw hcell hcv hcls => ?_) (fun r9 M_18 H locs hq hw => ?_)
  · exact x_outX hC hw htab hcell hcv hcls (by omega) (by omega) ⟨(show ∀ x ∈ [xIS], x ∈ [xIO, xIA, xIS] from by decide +kernel) E hqx.1, ⟨_, _, _, _, _, _, _, _, _, _, hqx.2⟩⟩
  obtain ⟨z_20, rfl, hz_20, fvk_19, hRk_19⟩ := hq
  show W p l e R s m args below meth c H locs _ _ _ (F0 m 30 ls [.int (iN (z_20))])
  exact vx_ret (x_iret hC hw dX3_tail_30 (by omega) (by omega) ⟨(iN (z_20)).toInt, by simp only [iN_asI], iN_rng _, ⟨_, _, _, _, _, _, _, _, _, _, hRk_19⟩⟩)
set_option maxHeartbeats 4000000 in
set_option maxRecDepth 100000 in
theorem c_X3_sub (l : Launch) (G : xG) {M : HM} (hst : l.stackTraces = false) {h0 bs vs : Nat} {og : Option Nat} {kk kv rf : Int32} {qb qk qv : Nat → Nat} {fb fv : Nat → Option Nat} (hR : RGx G M h0 bs vs og kk kv rf qb qk qv fb fv) {p0 : Int} (hp0 : -2147483648 ≤ p0 ∧ p0 ≤ 2147483647) {p1 : Int} (hp1 : -2147483648 ≤ p1 ∧ p1 ≤ 2147483647) {p2 : Int} (hp2 : -2147483648 ≤ p2 ∧ p2 ≤ 2147483647) {p3 : Int} (hp3 : -2147483648 ≤ p3 ∧ p3 ≤ 2147483647) {p4 : Int} (hp4 : -2147483648 ≤ p4 ∧ p4 ≤ 2147483647) (hb2 : p2 = 0 ∨ p2 = 1) (hb4 : p4 = 0 ∨ p4 = 1) : xMetX l G yX3_sub wsX3_sub 7 112 6 37 [.ref h0, .int (iN (p0)), .int (iN (p1)), .int (iN (p2)), .int (iN (p3)), .int (iN (p4))] M (fun r M1 => ∃ z : Int, r = some (.int (iN z)) ∧ (-2147483648 ≤ z ∧ z ≤ 2147483647) ∧ RG G M1 h0 rf) (fun E M1 => E ∈ [xIO, xIA, xIS] ∧ RG G M1 h0 rf) := by
  refine x_introX (cc := cX3_sub) (maxL := 7) (ret := (some .int)) (by decide +kernel) rfl (Nat.le_of_ble_eq_true rfl) ?_
  intro p e R s m args below meth c ls hRf hRc hRs hRl htab hC hw hl
  have hinX1 : ∀ w ∈ wsX10, w ∈ wsX3_sub := by decide +kernel
  have hl : lv_has ls 7 [(0, .ref h0), (1, .int (iN (p0))), (2, .int (iN (p1))), (3, .int (iN (p2))), (4, .int (iN (p3))), (5, .int (iN (p4)))] := hl
  refine lv_aload_n hC.1 hC.2.1 dX3_sub_0 rfl (lv_at hl 0 rfl) ?_
  refine lv_iload_n hC.1 hC.2.1 dX3_sub_1 rfl (lv_at hl 1 rfl) ?_
  refine x_callVX hC hw (lv_size hl) (c_X3_bookAt l G hst hR (p0 := p0) (by omega)) gX3_sub_X3_bookAt rfl dv_X3_bookAt hR.1 rfl rfl (Nat.le_of_ble_eq_true rfl) (by rw [hRf]; decide) (by rw [hRl]; decide) (by omega) (by omega) dX3_sub_2 (fun E ce q9 M_1 H locs hqx hw hcell hcv hcls => ?_) (fun r9 M_1 H locs hq hw => ?_)
  · rw [hqx.2] at hw
    exact x_outX hC hw htab hcell hcv hcls (by omega) (by omega) ⟨(show ∀ x ∈ [xIO], x ∈ [xIO, xIA, xIS] from by decide +kernel) E hqx.1, ⟨_, _, _, _, _, _, _, _, _, _, hR⟩⟩
  obtain ⟨rfl, hM9, hk_2, hk_2b⟩ := hq
  rw [hM9] at hw
  have hik_2 : (p0).toNat < 3 := by omega
  obtain ⟨nox_3, ox_3, tx_3, kcx_3, szx_3, fkx_3, fwx_3, hBx_3⟩ := hR.bk hik_2
  obtain ⟨-, -, -, -, hsax_3, hsbx_3⟩ := id hBx_3
  show W p l e R s m args below meth c H locs _ _ _ (F0 m 5 ls [.ref (qb ((p0).toNat))])
  refine lv_astore (lv' := [(6, .ref (qb ((p0).toNat))), (0, .ref h0), (1, .int (iN (p0))), (2, .int (iN (p1))), (3, .int (iN (p2))), (4, .int (iN (p3))), (5, .int (iN (p4)))]) hC.1 hC.2.1 dX3_sub_5 hl (by decide) rfl (fun ls hl => ?_)
  refine lv_iload_n hC.1 hC.2.1 dX3_sub_7 rfl (lv_at hl 3 rfl) ?_
  refine x_callSX hC hw (lv_size hl) (c_X3_checkKey l G (M := M) hst (p0 := p1) (by omega)) gX3_sub_X3_checkKey rfl dv_X3_checkKey_s rfl (Nat.le_of_ble_eq_true rfl) (by rw [hRf]; decide) (by rw [hRl]; decide) (by omega) (by omega) dX3_sub_8 (fun E ce q9 M_4 H locs hqx hw hcell hcv hcls => ?_) (fun r9 M_4 H locs hq hw => ?_)
  · rw [hqx.2] at hw
    exact x_outX hC hw htab hcell hcv hcls (by omega) (by omega) ⟨(show ∀ x ∈ [xIA], x ∈ [xIO, xIA, xIS] from by decide +kernel) E hqx.1, ⟨_, _, _, _, _, _, _, _, _, _, hR⟩⟩
  obtain ⟨rfl, hM9, hk_5⟩ := hq
  rw [hM9] at hw
  show W p l e R s m args below meth c H locs _ _ _ (F0 m 11 ls [])
  refine lv_iload hC.1 hC.2.1 dX3_sub_11 (lv_at hl 5 rfl) ?_
  refine x_callSX hC hw (lv_size hl) (c_X3_checkKey l G (M := M) hst (p0 := p3) (by omega)) gX3_sub_X3_checkKey rfl dv_X3_checkKey_s rfl (Nat.le_of_ble_eq_true rfl) (by rw [hRf]; decide) (by rw [hRl]; decide) (by omega) (by omega) dX3_sub_13 (fun E ce q9 M_6 H locs hqx hw hcell hcv hcls => ?_) (fun r9 M_6 H locs hq hw => ?_)
  · rw [hqx.2] at hw
    exact x_outX hC hw htab hcell hcv hcls (by omega) (by omega) ⟨(show ∀ x ∈ [xIA], x ∈ [xIO, xIA, xIS] from by decide +kernel) E hqx.1, ⟨_, _, _, _, _, _, _, _, _, _, hR⟩⟩
  obtain ⟨rfl, hM9, hk_7⟩ := hq
  rw [hM9] at hw
  show W p l e R s m args below meth c H locs _ _ _ (F0 m 16 ls [])
  refine lv_aload_n hC.1 hC.2.1 dX3_sub_16 rfl (lv_at hl 1 rfl) ?_
  refine x_callVX hC hw (lv_size hl) (c_X3_checkViewIsFree l G hst hR) gX3_sub_X3_checkViewIsFree rfl dv_X3_checkViewIsFree hR.1 rfl rfl (Nat.le_of_ble_eq_true rfl) (by rw [hRf]; decide) (by rw [hRl]; decide) (by omega) (by omega) dX3_sub_17 (fun E ce q9 M_8 H locs hqx hw hcell hcv hcls => ?_) (fun r9 M_8 H locs hq hw => ?_)
  · rw [hqx.2] at hw
    exact x_outX hC hw htab hcell hcv hcls (by omega) (by omega) ⟨(show ∀ x ∈ [xIS], x ∈ [xIO, xIA, xIS] from by decide +kernel) E hqx.1, ⟨_, _, _, _, _, _, _, _, _, _, hR⟩⟩
  obtain ⟨rfl, hM9⟩ := hq
  rw [hM9] at hw
  show W p l e R s m args below meth c H locs _ _ _ (F0 m 20 ls [])
  refine lv_aload hC.1 hC.2.1 dX3_sub_20 (lv_at hl 0 rfl) ?_
  refine lv_iload hC.1 hC.2.1 dX3_sub_22 (lv_at hl 5 rfl) ?_
  refine lv_iload_n hC.1 hC.2.1 dX3_sub_24 rfl (lv_at hl 3 rfl) ?_
  refine x_callV hC hw (lv_size hl) (c_X0_isAhead l G hBx_3 (p0 := p3) (by omega) (p1 := p1) (by omega)) gX3_sub_X0_isAhead rfl dv_X0_isAhead hBx_3.1 rfl rfl (Nat.le_of_ble_eq_true rfl) (by rw [hRf]; decide) (by rw [hRl]; decide) (by omega) (by omega) dX3_sub_25 (fun r9 M_9 H locs hq hw => ?_)
  obtain ⟨z_10, rfl, hM9, hz_10⟩ := hq
  rw [hM9] at hw
  show W p l e R s m args below meth c H locs _ _ _ (F0 m 28 ls [.int (iN (z_10))])
  refine x_if_eq (tgt := 35) hC ⟨by omega, by omega⟩ dX3_sub_28 (by decide) (fun c_11 => ?_) (fun c_11 => ?_)
  · refine lv_aload_n hC.1 hC.2.1 dX3_sub_35 rfl (lv_at hl 1 rfl) ?_
    refine x_new (fs := [.null, .int 0, .int 0, .int 0, .int 0, .int 0, .int 0]) (ci := 3) hC hw rfl hinX1 tyX1 tyX1_ok (by decide +kernel) (by decide +kernel) (by decide +kernel) (fun j hj => by rcases (show j = 0 ∨ j = 1 ∨ j = 2 ∨ j = 3 ∨ j = 4 ∨ j = 5 ∨ j = 6 by omega) with rfl | rfl | rfl | rfl | rfl | rfl | rfl <;> rfl) (by omega) (by omega) dX3_sub_36 (fun q_12 H hq_15 hw => ?_)
    obtain ⟨M_13, hM_14⟩ : ∃ z, z = va_up M q_12 (some (.inr (3, [.null, .int 0, .int 0, .int 0, .int 0, .int 0, .int 0]))) := ⟨_, rfl⟩
    rw [← hM_14] at hw
    have hx_16 : xExt M M_13 := by rw [hM_14]; exact xExt.new hq_15
    have hf_17 : M_13 q_12 = some (.inr (3, [.null, .int 0, .int 0, .int 0, .int 0, .int 0, .int 0])) := by rw [hM_14, va_up_self]
    have h_18 := hR.ext hx_16
    have h_19 := hBx_3.ext hx_16
    refine lv_dup hC.1 hC.2.1 dX3_sub_39 rfl ?_
    refine lv_aload hC.1 hC.2.1 dX3_sub_40 (lv_at hl 0 rfl) ?_
    refine lv_iload_n hC.1 hC.2.1 dX3_sub_42 rfl (lv_at hl 3 rfl) ?_
    refine lv_iload_n hC.1 hC.2.1 dX3_sub_43 rfl (lv_at hl 4 rfl) ?_
    refine lv_iload hC.1 hC.2.1 dX3_sub_44 (lv_at hl 5 rfl) ?_
    refine lv_iload hC.1 hC.2.1 dX3_sub_46 (lv_at hl 6 rfl) ?_
    refine x_callI hC hw (lv_size hl) (c_X1_init l G hf_17 h_19 (p0 := p1) (by omega) (p1 := p2) (by omega) (p2 := p3) (by omega) (p3 := p4) (by omega) (by omega) (by omega)) gX3_sub_X1_init rfl (by decide +kernel) (by decide +kernel) (by decide +kernel) rfl dv_X1_init_s rfl (Nat.le_of_ble_eq_true rfl) (by rw [hRf]; decide) (by rw [hRl]; decide) (by omega) (by omega) dX3_sub_48 (fun r9 M_20 H locs hq hw => ?_)
    obtain ⟨rfl, ⟨swk_21, ewk_21, hVk_21⟩, smk_21⟩ := hq
    have hxk_21 : xExt M M_20 := fun a e he => (smk_21 a (fun z => by rw [z, hq_15] at he; cases he)).trans (by rw [hM_14, va_up_ne _ _ (fun z => by rw [z, hq_15] at he; cases he)]; exact he)
    have h_22 := hR.ext hxk_21
    have h_23 := hBx_3.ext hxk_21
    show W p l e R s m args below meth c H locs _ _ _ (F0 m 51 ls [.ref q_12, .ref h0])
    refine x_callVX hC hw (lv_size hl) (c_X3_openView l G hst h_22 (y := q_12) ⟨(p0).toNat, _, _, _, _, _, _, hik_2, hVk_21⟩) gX3_sub_X3_openView rfl dv_X3_openView h_22.1 rfl rfl (Nat.le_of_ble_eq_true rfl) (by rw [hRf]; decide) (by rw [hRl]; decide) (by omega) (by omega) dX3_sub_51 (fun E ce q9 M_24 H locs hqx hw hcell hcv hcls => ?_) (fun r9 M_24 H locs hq hw => ?_)
    · exact x_outX hC hw htab hcell hcv hcls (by omega) (by omega) ⟨(show ∀ x ∈ [xIS], x ∈ [xIO, xIA, xIS] from by decide +kernel) E hqx.1, ⟨_, _, _, _, _, _, _, _, _, _, hqx.2⟩⟩
    obtain ⟨z_26, rfl, hz_26, fvk_25, hRk_25⟩ := hq
    show W p l e R s m args below meth c H locs _ _ _ (F0 m 54 ls [.int (iN (z_26))])
    exact vx_ret (x_iret hC hw dX3_sub_54 (by omega) (by omega) ⟨(iN (z_26)).toInt, by simp only [iN_asI], iN_rng _, ⟨_, _, _, _, _, _, _, _, _, _, hRk_25⟩⟩)
  · refine x_sipush hC dX3_sub_31 (by decide +kernel) ?_
    exact vx_ret (x_iret hC hw dX3_sub_34 (by omega) (by omega) ⟨(iN ((-20000))).toInt, by simp only [iN_asI], iN_rng _, ⟨_, _, _, _, _, _, _, _, _, _, hR⟩⟩)
set_option maxHeartbeats 4000000 in
set_option maxRecDepth 100000 in
theorem c_X3_part (l : Launch) (G : xG) {M : HM} (hst : l.stackTraces = false) {h0 bs vs : Nat} {og : Option Nat} {kk kv rf : Int32} {qb qk qv : Nat → Nat} {fb fv : Nat → Option Nat} (hR : RGx G M h0 bs vs og kk kv rf qb qk qv fb fv) {p0 : Int} (hp0 : -2147483648 ≤ p0 ∧ p0 ≤ 2147483647) {p1 : Int} (hp1 : -2147483648 ≤ p1 ∧ p1 ≤ 2147483647) {p2 : Int} (hp2 : -2147483648 ≤ p2 ∧ p2 ≤ 2147483647) {p3 : Int} (hp3 : -2147483648 ≤ p3 ∧ p3 ≤ 2147483647) {p4 : Int} (hp4 : -2147483648 ≤ p4 ∧ p4 ≤ 2147483647) (hb2 : p2 = 0 ∨ p2 = 1) (hb4 : p4 = 0 ∨ p4 = 1) : xMetX l G yX3_part wsX3_part 7 112 6 37 [.ref h0, .int (iN (p0)), .int (iN (p1)), .int (iN (p2)), .int (iN (p3)), .int (iN (p4))] M (fun r M1 => ∃ z : Int, r = some (.int (iN z)) ∧ (-2147483648 ≤ z ∧ z ≤ 2147483647) ∧ RG G M1 h0 rf) (fun E M1 => E ∈ [xIO, xIA, xIS] ∧ RG G M1 h0 rf) := by
  refine x_introX (cc := cX3_part) (maxL := 7) (ret := (some .int)) (by decide +kernel) rfl (Nat.le_of_ble_eq_true rfl) ?_
  intro p e R s m args below meth c ls hRf hRc hRs hRl htab hC hw hl
  have hinX1 : ∀ w ∈ wsX10, w ∈ wsX3_part := by decide +kernel
  have hl : lv_has ls 7 [(0, .ref h0), (1, .int (iN (p0))), (2, .int (iN (p1))), (3, .int (iN (p2))), (4, .int (iN (p3))), (5, .int (iN (p4)))] := hl
  refine lv_aload_n hC.1 hC.2.1 dX3_part_0 rfl (lv_at hl 0 rfl) ?_
  refine lv_iload_n hC.1 hC.2.1 dX3_part_1 rfl (lv_at hl 1 rfl) ?_
  refine x_callVX hC hw (lv_size hl) (c_X3_viewAt l G hst hR (p0 := p0) (by omega)) gX3_part_X3_viewAt rfl dv_X3_viewAt hR.1 rfl rfl (Nat.le_of_ble_eq_true rfl) (by rw [hRf]; decide) (by rw [hRl]; decide) (by omega) (by omega) dX3_part_2 (fun E ce q9 M_1 H locs hqx hw hcell hcv hcls => ?_) (fun r9 M_1 H locs hq hw => ?_)
  · rw [hqx.2] at hw
    exact x_outX hC hw htab hcell hcv hcls (by omega) (by omega) ⟨(show ∀ x ∈ [xIO], x ∈ [xIO, xIA, xIS] from by decide +kernel) E hqx.1, ⟨_, _, _, _, _, _, _, _, _, _, hR⟩⟩
  obtain ⟨y_3, rfl, hM9, hk_2, hk_2b, hyk_2⟩ := hq
  rw [hM9] at hw
  obtain ⟨ix_4, lox_4, upx_4, swx_4, ewx_4, lix_4, uix_4, hix_4, hVx_4⟩ := (hR.vw (show (p0).toNat < 4 by omega) hyk_2)
  have hlix_4 := hVx_4.2.1
  have huix_4 := hVx_4.2.2
  obtain ⟨nox_5, ox_5, tx_5, kcx_5, szx_5, fkx_5, fwx_5, hBx_5⟩ := hR.bk hix_4
  obtain ⟨-, -, -, -, hsax_5, hsbx_5⟩ := id hBx_5
  show W p l e R s m args below meth c H locs _ _ _ (F0 m 5 ls [.ref y_3])
  refine lv_astore (lv' := [(6, .ref y_3), (0, .ref h0), (1, .int (iN (p0))), (2, .int (iN (p1))), (3, .int (iN (p2))), (4, .int (iN (p3))), (5, .int (iN (p4)))]) hC.1 hC.2.1 dX3_part_5 hl (by decide) rfl (fun ls hl => ?_)
  refine lv_iload_n hC.1 hC.2.1 dX3_part_7 rfl (lv_at hl 3 rfl) ?_
  refine x_callSX hC hw (lv_size hl) (c_X3_checkKey l G (M := M) hst (p0 := p1) (by omega)) gX3_part_X3_checkKey rfl dv_X3_checkKey_s rfl (Nat.le_of_ble_eq_true rfl) (by rw [hRf]; decide) (by rw [hRl]; decide) (by omega) (by omega) dX3_part_8 (fun E ce q9 M_6 H locs hqx hw hcell hcv hcls => ?_) (fun r9 M_6 H locs hq hw => ?_)
  · rw [hqx.2] at hw
    exact x_outX hC hw htab hcell hcv hcls (by omega) (by omega) ⟨(show ∀ x ∈ [xIA], x ∈ [xIO, xIA, xIS] from by decide +kernel) E hqx.1, ⟨_, _, _, _, _, _, _, _, _, _, hR⟩⟩
  obtain ⟨rfl, hM9, hk_7⟩ := hq
  rw [hM9] at hw
  show W p l e R s m args below meth c H locs _ _ _ (F0 m 11 ls [])
  refine lv_iload hC.1 hC.2.1 dX3_part_11 (lv_at hl 5 rfl) ?_
  refine x_callSX hC hw (lv_size hl) (c_X3_checkKey l G (M := M) hst (p0 := p3) (by omega)) gX3_part_X3_checkKey rfl dv_X3_checkKey_s rfl (Nat.le_of_ble_eq_true rfl) (by rw [hRf]; decide) (by rw [hRl]; decide) (by omega) (by omega) dX3_part_13 (fun E ce q9 M_8 H locs hqx hw hcell hcv hcls => ?_) (fun r9 M_8 H locs hq hw => ?_)
  · rw [hqx.2] at hw
    exact x_outX hC hw htab hcell hcv hcls (by omega) (by omega) ⟨(show ∀ x ∈ [xIA], x ∈ [xIO, xIA, xIS] from by decide +kernel) E hqx.1, ⟨_, _, _, _, _, _, _, _, _, _, hR⟩⟩
  obtain ⟨rfl, hM9, hk_9⟩ := hq
  rw [hM9] at hw
  show W p l e R s m args below meth c H locs _ _ _ (F0 m 16 ls [])
  refine lv_aload_n hC.1 hC.2.1 dX3_part_16 rfl (lv_at hl 1 rfl) ?_
  refine x_callVX hC hw (lv_size hl) (c_X3_checkViewIsFree l G hst hR) gX3_part_X3_checkViewIsFree rfl dv_X3_checkViewIsFree hR.1 rfl rfl (Nat.le_of_ble_eq_true rfl) (by rw [hRf]; decide) (by rw [hRl]; decide) (by omega) (by omega) dX3_part_17 (fun E ce q9 M_10 H locs hqx hw hcell hcv hcls => ?_) (fun r9 M_10 H locs hq hw => ?_)
  · rw [hqx.2] at hw
    exact x_outX hC hw htab hcell hcv hcls (by omega) (by omega) ⟨(show ∀ x ∈ [xIS], x ∈ [xIO, xIA, xIS] from by decide +kernel) E hqx.1, ⟨_, _, _, _, _, _, _, _, _, _, hR⟩⟩
  obtain ⟨rfl, hM9⟩ := hq
  rw [hM9] at hw
  show W p l e R s m args below meth c H locs _ _ _ (F0 m 20 ls [])
  refine lv_aload hC.1 hC.2.1 dX3_part_20 (lv_at hl 0 rfl) ?_
  refine lv_iload_n hC.1 hC.2.1 dX3_part_22 rfl (lv_at hl 3 rfl) ?_
  refine x_callV hC hw (lv_size hl) (c_X1_isWithin l G hVx_4 hBx_5 (p0 := p1) (by omega)) gX3_part_X1_isWithin rfl dv_X1_isWithin hVx_4.1 rfl rfl (Nat.le_of_ble_eq_true rfl) (by rw [hRf]; decide) (by rw [hRl]; decide) (by omega) (by omega) dX3_part_23 (fun r9 M_11 H locs hq hw => ?_)
  obtain ⟨z_12, rfl, hM9, hz_12⟩ := hq
  rw [hM9] at hw
  show W p l e R s m args below meth c H locs _ _ _ (F0 m 26 ls [.int (iN (z_12))])
  refine x_if_eq (tgt := 53) hC ⟨by omega, by omega⟩ dX3_part_26 (by decide) (fun c_13 => ?_) (fun c_13 => ?_)
  · refine x_sipush hC dX3_part_53 (by decide +kernel) ?_
    exact vx_ret (x_iret hC hw dX3_part_56 (by omega) (by omega) ⟨(iN ((-20000))).toInt, by simp only [iN_asI], iN_rng _, ⟨_, _, _, _, _, _, _, _, _, _, hR⟩⟩)
  · refine lv_aload hC.1 hC.2.1 dX3_part_29 (lv_at hl 0 rfl) ?_
    refine lv_iload hC.1 hC.2.1 dX3_part_31 (lv_at hl 5 rfl) ?_
    refine x_callV hC hw (lv_size hl) (c_X1_isWithin l G hVx_4 hBx_5 (p0 := p3) (by omega)) gX3_part_X1_isWithin rfl dv_X1_isWithin hVx_4.1 rfl rfl (Nat.le_of_ble_eq_true rfl) (by rw [hRf]; decide) (by rw [hRl]; decide) (by omega) (by omega) dX3_part_33 (fun r9 M_14 H locs hq hw => ?_)
    obtain ⟨z_15, rfl, hM9, hz_15⟩ := hq
    rw [hM9] at hw
    show W p l e R s m args below meth c H locs _ _ _ (F0 m 36 ls [.int (iN (z_15))])
    refine x_if_eq (tgt := 53) hC ⟨by omega, by omega⟩ dX3_part_36 (by decide) (fun c_16 => ?_) (fun c_16 => ?_)
    · refine x_sipush hC dX3_part_53 (by decide +kernel) ?_
      exact vx_ret (x_iret hC hw dX3_part_56 (by omega) (by omega) ⟨(iN ((-20000))).toInt, by simp only [iN_asI], iN_rng _, ⟨_, _, _, _, _, _, _, _, _, _, hR⟩⟩)
    · refine lv_aload hC.1 hC.2.1 dX3_part_39 (lv_at hl 0 rfl) ?_
      refine x_callV hC hw (lv_size hl) (c_X1_book l G hVx_4 hBx_5) gX3_part_X1_book rfl dv_X1_book hVx_4.1 rfl rfl (Nat.le_of_ble_eq_true rfl) (by rw [hRf]; decide) (by rw [hRl]; decide) (by omega) (by omega) dX3_part_41 (fun r9 M_17 H locs hq hw => ?_)
      obtain ⟨rfl, hM9⟩ := hq
      rw [hM9] at hw
      show W p l e R s m args below meth c H locs _ _ _ (F0 m 44 ls [.ref (qb ix_4)])
      refine lv_iload hC.1 hC.2.1 dX3_part_44 (lv_at hl 5 rfl) ?_
      refine lv_iload_n hC.1 hC.2.1 dX3_part_46 rfl (lv_at hl 3 rfl) ?_
      refine x_callV hC hw (lv_size hl) (c_X0_isAhead l G hBx_5 (p0 := p3) (by omega) (p1 := p1) (by omega)) gX3_part_X0_isAhead rfl dv_X0_isAhead hBx_5.1 rfl rfl (Nat.le_of_ble_eq_true rfl) (by rw [hRf]; decide) (by rw [hRl]; decide) (by omega) (by omega) dX3_part_47 (fun r9 M_18 H locs hq hw => ?_)
      obtain ⟨z_19, rfl, hM9, hz_19⟩ := hq
      rw [hM9] at hw
      show W p l e R s m args below meth c H locs _ _ _ (F0 m 50 ls [.int (iN (z_19))])
      refine x_if_eq (tgt := 57) hC ⟨by omega, by omega⟩ dX3_part_50 (by decide) (fun c_20 => ?_) (fun c_20 => ?_)
      · refine lv_aload_n hC.1 hC.2.1 dX3_part_57 rfl (lv_at hl 1 rfl) ?_
        refine x_new (fs := [.null, .int 0, .int 0, .int 0, .int 0, .int 0, .int 0]) (ci := 3) hC hw rfl hinX1 tyX1 tyX1_ok (by decide +kernel) (by decide +kernel) (by decide +kernel) (fun j hj => by rcases (show j = 0 ∨ j = 1 ∨ j = 2 ∨ j = 3 ∨ j = 4 ∨ j = 5 ∨ j = 6 by omega) with rfl | rfl | rfl | rfl | rfl | rfl | rfl <;> rfl) (by omega) (by omega) dX3_part_58 (fun q_21 H hq_24 hw => ?_)
        obtain ⟨M_22, hM_23⟩ : ∃ z, z = va_up M q_21 (some (.inr (3, [.null, .int 0, .int 0, .int 0, .int 0, .int 0, .int 0]))) := ⟨_, rfl⟩
        rw [← hM_23] at hw
        have hx_25 : xExt M M_22 := by rw [hM_23]; exact xExt.new hq_24
        have hf_26 : M_22 q_21 = some (.inr (3, [.null, .int 0, .int 0, .int 0, .int 0, .int 0, .int 0])) := by rw [hM_23, va_up_self]
        have h_27 := hR.ext hx_25
        have h_28 := hBx_5.ext hx_25
        have h_29 : Vw M_22 y_3 (qb ix_4) lox_4 upx_4 swx_4 ewx_4 lix_4 uix_4 := ⟨hx_25 _ _ hVx_4.1, hVx_4.2⟩
        refine lv_dup hC.1 hC.2.1 dX3_part_61 rfl ?_
        refine lv_aload hC.1 hC.2.1 dX3_part_62 (lv_at hl 0 rfl) ?_
        refine x_callV hC hw (lv_size hl) (c_X1_book l G h_29 h_28) gX3_part_X1_book rfl dv_X1_book h_29.1 rfl rfl (Nat.le_of_ble_eq_true rfl) (by rw [hRf]; decide) (by rw [hRl]; decide) (by omega) (by omega) dX3_part_64 (fun r9 M_30 H locs hq hw => ?_)
        obtain ⟨rfl, hM9⟩ := hq
        rw [hM9] at hw
        show W p l e R s m args below meth c H locs _ _ _ (F0 m 67 ls [.ref (qb ix_4), .ref q_21, .ref q_21, .ref h0])
        refine lv_iload_n hC.1 hC.2.1 dX3_part_67 rfl (lv_at hl 3 rfl) ?_
        refine lv_iload_n hC.1 hC.2.1 dX3_part_68 rfl (lv_at hl 4 rfl) ?_
        refine lv_iload hC.1 hC.2.1 dX3_part_69 (lv_at hl 5 rfl) ?_
        refine lv_iload hC.1 hC.2.1 dX3_part_71 (lv_at hl 6 rfl) ?_
        refine x_callI hC hw (lv_size hl) (c_X1_init l G hf_26 h_28 (p0 := p1) (by omega) (p1 := p2) (by omega) (p2 := p3) (by omega) (p3 := p4) (by omega) (by omega) (by omega)) gX3_part_X1_init rfl (by decide +kernel) (by decide +kernel) (by decide +kernel) rfl dv_X1_init_s rfl (Nat.le_of_ble_eq_true rfl) (by rw [hRf]; decide) (by rw [hRl]; decide) (by omega) (by omega) dX3_part_73 (fun r9 M_31 H locs hq hw => ?_)
        obtain ⟨rfl, ⟨swk_32, ewk_32, hVk_32⟩, smk_32⟩ := hq
        have hxk_32 : xExt M M_31 := fun a e he => (smk_32 a (fun z => by rw [z, hq_24] at he; cases he)).trans (by rw [hM_23, va_up_ne _ _ (fun z => by rw [z, hq_24] at he; cases he)]; exact he)
        have h_33 := hR.ext hxk_32
        have h_34 := hBx_5.ext hxk_32
        have h_35 : Vw M_31 y_3 (qb ix_4) lox_4 upx_4 swx_4 ewx_4 lix_4 uix_4 := ⟨hxk_32 _ _ hVx_4.1, hVx_4.2⟩
        show W p l e R s m args below meth c H locs _ _ _ (F0 m 76 ls [.ref q_21, .ref h0])
        refine x_callVX hC hw (lv_size hl) (c_X3_openView l G hst h_33 (y := q_21) ⟨ix_4, _, _, _, _, _, _, hix_4, hVk_32⟩) gX3_part_X3_openView rfl dv_X3_openView h_33.1 rfl rfl (Nat.le_of_ble_eq_true rfl) (by rw [hRf]; decide) (by rw [hRl]; decide) (by omega) (by omega) dX3_part_76 (fun E ce q9 M_36 H locs hqx hw hcell hcv hcls => ?_) (fun r9 M_36 H locs hq hw => ?_)
        · exact x_outX hC hw htab hcell hcv hcls (by omega) (by omega) ⟨(show ∀ x ∈ [xIS], x ∈ [xIO, xIA, xIS] from by decide +kernel) E hqx.1, ⟨_, _, _, _, _, _, _, _, _, _, hqx.2⟩⟩
        obtain ⟨z_38, rfl, hz_38, fvk_37, hRk_37⟩ := hq
        show W p l e R s m args below meth c H locs _ _ _ (F0 m 79 ls [.int (iN (z_38))])
        exact vx_ret (x_iret hC hw dX3_part_79 (by omega) (by omega) ⟨(iN (z_38)).toInt, by simp only [iN_asI], iN_rng _, ⟨_, _, _, _, _, _, _, _, _, _, hRk_37⟩⟩)
      · refine x_sipush hC dX3_part_53 (by decide +kernel) ?_
        exact vx_ret (x_iret hC hw dX3_part_56 (by omega) (by omega) ⟨(iN ((-20000))).toInt, by simp only [iN_asI], iN_rng _, ⟨_, _, _, _, _, _, _, _, _, _, hR⟩⟩)
set_option maxHeartbeats 4000000 in
set_option maxRecDepth 100000 in
theorem c_X3_shut (l : Launch) (G : xG) {M : HM} (hst : l.stackTraces = false) {h0 bs vs : Nat} {og : Option Nat} {kk kv rf : Int32} {qb qk qv : Nat → Nat} {fb fv : Nat → Option Nat} (hR : RGx G M h0 bs vs og kk kv rf qb qk qv fb fv) {p0 : Int} (hp0 : -2147483648 ≤ p0 ∧ p0 ≤ 2147483647) : xMetX l G yX3_shut wsX3_shut 7 111 1 6 [.ref h0, .int (iN (p0))] M (fun r M1 => ∃ z : Int, r = some (.int (iN z)) ∧ (-2147483648 ≤ z ∧ z ≤ 2147483647) ∧ RG G M1 h0 rf) (fun E M1 => E ∈ [xIO] ∧ RG G M1 h0 rf) := by
  refine x_introX (cc := cX3_shut) (maxL := 3) (ret := (some .int)) (by decide +kernel) rfl (Nat.le_of_ble_eq_true rfl) ?_
  intro p e R s m args below meth c ls hRf hRc hRs hRl htab hC hw hl
  have hinX3 : ∀ w ∈ wsX30, w ∈ wsX3_shut := by decide +kernel
  have hl : lv_has ls 3 [(0, .ref h0), (1, .int (iN (p0)))] := hl
  refine lv_aload_n hC.1 hC.2.1 dX3_shut_0 rfl (lv_at hl 0 rfl) ?_
  refine lv_iload_n hC.1 hC.2.1 dX3_shut_1 rfl (lv_at hl 1 rfl) ?_
  refine x_callVX hC hw (lv_size hl) (c_X3_viewAt l G hst hR (p0 := p0) (by omega)) gX3_shut_X3_viewAt rfl dv_X3_viewAt hR.1 rfl rfl (Nat.le_of_ble_eq_true rfl) (by rw [hRf]; decide) (by rw [hRl]; decide) (by omega) (by omega) dX3_shut_2 (fun E ce q9 M_1 H locs hqx hw hcell hcv hcls => ?_) (fun r9 M_1 H locs hq hw => ?_)
  · rw [hqx.2] at hw
    exact x_outX hC hw htab hcell hcv hcls (by omega) (by omega) ⟨(show ∀ x ∈ [xIO], x ∈ [xIO] from by decide +kernel) E hqx.1, ⟨_, _, _, _, _, _, _, _, _, _, hR⟩⟩
  obtain ⟨y_3, rfl, hM9, hk_2, hk_2b, hyk_2⟩ := hq
  rw [hM9] at hw
  obtain ⟨ix_4, lox_4, upx_4, swx_4, ewx_4, lix_4, uix_4, hix_4, hVx_4⟩ := (hR.vw (show (p0).toNat < 4 by omega) hyk_2)
  have hlix_4 := hVx_4.2.1
  have huix_4 := hVx_4.2.2
  obtain ⟨nox_5, ox_5, tx_5, kcx_5, szx_5, fkx_5, fwx_5, hBx_5⟩ := hR.bk hix_4
  obtain ⟨-, -, -, -, hsax_5, hsbx_5⟩ := id hBx_5
  show W p l e R s m args below meth c H locs _ _ _ (F0 m 5 ls [.ref y_3])
  refine x_callV hC hw (lv_size hl) (c_X1_size l G hVx_4 hBx_5) gX3_shut_X1_size rfl dv_X1_size hVx_4.1 rfl rfl (Nat.le_of_ble_eq_true rfl) (by rw [hRf]; decide) (by rw [hRl]; decide) (by omega) (by omega) dX3_shut_5 (fun r9 M_6 H locs hq hw => ?_)
  obtain ⟨z_7, rfl, hM9, hz_7a, hz_7b⟩ := hq
  rw [hM9] at hw
  show W p l e R s m args below meth c H locs _ _ _ (F0 m 8 ls [.int (iN (z_7))])
  refine lv_istore_n (lv' := [(2, .int (iN (z_7))), (0, .ref h0), (1, .int (iN (p0)))]) hC.1 hC.2.1 dX3_shut_8 rfl hl (by decide) rfl (fun ls hl => ?_)
  refine lv_aload_n hC.1 hC.2.1 dX3_shut_9 rfl (lv_at hl 1 rfl) ?_
  refine x_get hC hw hR.1 rfl hinX3 1 (by decide) (by decide +kernel) rfl dX3_shut_10 ?_
  refine lv_iload_n hC.1 hC.2.1 dX3_shut_13 rfl (lv_at hl 2 rfl) ?_
  refine lv_null hC.1 hC.2.1 dX3_shut_14 ?_
  refine x_astqN hC hw 3 hR.2.2.1 rfl (by omega) (by omega) (by omega) dX3_shut_15 (fun H locs hw => ?_)
  obtain ⟨M_8, hM_9⟩ : ∃ z, z = va_up M vs (some (.inl (G.2 3, 4, .inr (.inr (.inr (.inr (va_up fv (p0).toNat none))))))) := ⟨_, rfl⟩
  rw [← hM_9] at hw
  have hR_10 : RGx G M_8 h0 bs vs og kk kv rf qb qk qv fb (va_up fv (p0).toNat none) := hR.views hM_9 (fun j9 y9 hj hy => by by_cases e9 : j9 = (p0).toNat; (· subst e9; rw [va_up_self] at hy; cases hy); (· rw [va_up_ne _ _ e9] at hy; exact hR.vw hj hy))
  refine lv_iload_n hC.1 hC.2.1 dX3_shut_16 rfl (lv_at hl 0 rfl) ?_
  exact vx_ret (x_iret hC hw dX3_shut_17 (by omega) (by omega) ⟨(iN (z_7)).toInt, by simp only [iN_asI], iN_rng _, ⟨_, _, _, _, _, _, _, _, _, _, hR_10⟩⟩)
set_option maxHeartbeats 4000000 in
set_option maxRecDepth 100000 in
theorem c_X3_viewPut (l : Launch) (G : xG) {M : HM} (hst : l.stackTraces = false) {h0 bs vs : Nat} {og : Option Nat} {kk kv rf : Int32} {qb qk qv : Nat → Nat} {fb fv : Nat → Option Nat} (hR : RGx G M h0 bs vs og kk kv rf qb qk qv fb fv) {p0 : Int} (hp0 : -2147483648 ≤ p0 ∧ p0 ≤ 2147483647) {p1 : Int} (hp1 : -2147483648 ≤ p1 ∧ p1 ≤ 2147483647) {p2 : Int} (hp2 : -2147483648 ≤ p2 ∧ p2 ≤ 2147483647) : xMetX l G yX3_viewPut wsX3_viewPut 8 135 3 18 [.ref h0, .int (iN (p0)), .int (iN (p1)), .int (iN (p2))] M (fun r M1 => ∃ z : Int, r = some (.int (iN z)) ∧ (-2147483648 ≤ z ∧ z ≤ 2147483647) ∧ RG G M1 h0 rf) (fun E M1 => E ∈ [xIO, xIA] ∧ RG G M1 h0 rf) := by
  refine x_introX (cc := cX3_viewPut) (maxL := 5) (ret := (some .int)) (by decide +kernel) rfl (Nat.le_of_ble_eq_true rfl) ?_
  intro p e R s m args below meth c ls hRf hRc hRs hRl htab hC hw hl
  have hl : lv_has ls 5 [(0, .ref h0), (1, .int (iN (p0))), (2, .int (iN (p1))), (3, .int (iN (p2)))] := hl
  refine lv_aload_n hC.1 hC.2.1 dX3_viewPut_0 rfl (lv_at hl 0 rfl) ?_
  refine lv_iload_n hC.1 hC.2.1 dX3_viewPut_1 rfl (lv_at hl 1 rfl) ?_
  refine lv_iload_n hC.1 hC.2.1 dX3_viewPut_2 rfl (lv_at hl 2 rfl) ?_
  refine lv_iload_n hC.1 hC.2.1 dX3_viewPut_3 rfl (lv_at hl 3 rfl) ?_
  refine x_callVX hC hw (lv_size hl) (c_X3_viewToWritePair l G hst hR (p0 := p0) (by omega) (p1 := p1) (by omega) (p2 := p2) (by omega)) gX3_viewPut_X3_viewToWritePair rfl dv_X3_viewToWritePair hR.1 rfl rfl (Nat.le_of_ble_eq_true rfl) (by rw [hRf]; decide) (by rw [hRl]; decide) (by omega) (by omega) dX3_viewPut_4 (fun E ce q9 M_1 H locs hqx hw hcell hcv hcls => ?_) (fun r9 M_1 H locs hq hw => ?_)
  · exact x_outX hC hw htab hcell hcv hcls (by omega) (by omega) ⟨(show ∀ x ∈ [xIO, xIA], x ∈ [xIO, xIA] from by decide +kernel) E hqx.1, ⟨_, _, _, _, _, _, _, _, _, _, hqx.2⟩⟩
  obtain ⟨y_3, rfl, hRk_2, hk_2, hk_2b, hk_2c, hk_2d, hyk_2⟩ := hq
  obtain ⟨ix_4, lox_4, upx_4, swx_4, ewx_4, lix_4, uix_4, hix_4, hVx_4⟩ := (hRk_2.vw (show (p0).toNat < 4 by omega) hyk_2)
  have hlix_4 := hVx_4.2.1
  have huix_4 := hVx_4.2.2
  obtain ⟨nox_5, ox_5, tx_5, kcx_5, szx_5, fkx_5, fwx_5, hBx_5⟩ := hRk_2.bk hix_4
  obtain ⟨-, -, -, -, hsax_5, hsbx_5⟩ := id hBx_5
  show W p l e R s m args below meth c H locs _ _ _ (F0 m 7 ls [.ref y_3])
  refine lv_astore (lv' := [(4, .ref y_3), (0, .ref h0), (1, .int (iN (p0))), (2, .int (iN (p1))), (3, .int (iN (p2)))]) hC.1 hC.2.1 dX3_viewPut_7 hl (by decide) rfl (fun ls hl => ?_)
  refine lv_aload hC.1 hC.2.1 dX3_viewPut_9 (lv_at hl 0 rfl) ?_
  refine lv_iload_n hC.1 hC.2.1 dX3_viewPut_11 rfl (lv_at hl 3 rfl) ?_
  refine x_callV hC hw (lv_size hl) (c_X1_isWithin l G hVx_4 hBx_5 (p0 := p1) (by omega)) gX3_viewPut_X1_isWithin rfl dv_X1_isWithin hVx_4.1 rfl rfl (Nat.le_of_ble_eq_true rfl) (by rw [hRf]; decide) (by rw [hRl]; decide) (by omega) (by omega) dX3_viewPut_12 (fun r9 M_6 H locs hq hw => ?_)
  obtain ⟨z_7, rfl, hM9, hz_7⟩ := hq
  rw [hM9] at hw
  show W p l e R s m args below meth c H locs _ _ _ (F0 m 15 ls [.int (iN (z_7))])
  refine x_if_eq (tgt := 31) hC ⟨by omega, by omega⟩ dX3_viewPut_15 (by decide) (fun c_8 => ?_) (fun c_8 => ?_)
  · refine x_sipush hC dX3_viewPut_31 (by decide +kernel) ?_
    exact vx_ret (x_iret hC hw dX3_viewPut_34 (by omega) (by omega) ⟨(iN ((-20000))).toInt, by simp only [iN_asI], iN_rng _, ⟨_, _, _, _, _, _, _, _, _, _, hRk_2⟩⟩)
  · refine lv_aload hC.1 hC.2.1 dX3_viewPut_18 (lv_at hl 0 rfl) ?_
    refine x_callV hC hw (lv_size hl) (c_X1_book l G hVx_4 hBx_5) gX3_viewPut_X1_book rfl dv_X1_book hVx_4.1 rfl rfl (Nat.le_of_ble_eq_true rfl) (by rw [hRf]; decide) (by rw [hRl]; decide) (by omega) (by omega) dX3_viewPut_20 (fun r9 M_9 H locs hq hw => ?_)
    obtain ⟨rfl, hM9⟩ := hq
    rw [hM9] at hw
    show W p l e R s m args below meth c H locs _ _ _ (F0 m 23 ls [.ref (qb ix_4)])
    refine lv_iload_n hC.1 hC.2.1 dX3_viewPut_23 rfl (lv_at hl 3 rfl) ?_
    refine lv_iload_n hC.1 hC.2.1 dX3_viewPut_24 rfl (lv_at hl 4 rfl) ?_
    refine x_callV hC hw (lv_size hl) (c_X0_enter l G hBx_5 (p0 := p1) (by omega) (p1 := p2) (by omega)) gX3_viewPut_X0_enter rfl dv_X0_enter hBx_5.1 rfl rfl (Nat.le_of_ble_eq_true rfl) (by rw [hRf]; decide) (by rw [hRl]; decide) (by omega) (by omega) dX3_viewPut_25 (fun r9 M_10 H locs hq hw => ?_)
    obtain ⟨z_12, rfl, hz_12, ou_11, tu_11, kcu_11, szu_11, fku_11, fvu_11, hBu_11, smu_11⟩ := hq
    obtain ⟨-, -, -, -, hsau_11, hsbu_11⟩ := id hBu_11
    have sm_13 := (xSm.rf (M := M_1) (b := (qb ix_4)) (k := (qk ix_4)) (v := (qv ix_4))).tr (smu_11)
    have h_14 := hRk_2.book hix_4 hBx_5 hBu_11 smu_11
    have h_15 : Vw _ y_3 (qb ix_4) lox_4 upx_4 swx_4 ewx_4 lix_4 uix_4 := And.intro (x_kB hBx_5 smu_11 (by decide) hVx_4.1) hVx_4.2
    show W p l e R s m args below meth c H locs _ _ _ (F0 m 28 ls [.int (iN (z_12))])
    refine lv_goto (tgt := 34) hC.1 hC.2.1 dX3_viewPut_28 (by decide) ?_
    exact vx_ret (x_iret hC hw dX3_viewPut_34 (by omega) (by omega) ⟨(iN (z_12)).toInt, by simp only [iN_asI], iN_rng _, ⟨_, _, _, _, _, _, _, _, _, _, h_14⟩⟩)
set_option maxHeartbeats 4000000 in
set_option maxRecDepth 100000 in
theorem c_X3_viewStrike (l : Launch) (G : xG) {M : HM} (hst : l.stackTraces = false) {h0 bs vs : Nat} {og : Option Nat} {kk kv rf : Int32} {qb qk qv : Nat → Nat} {fb fv : Nat → Option Nat} (hR : RGx G M h0 bs vs og kk kv rf qb qk qv fb fv) {p0 : Int} (hp0 : -2147483648 ≤ p0 ∧ p0 ≤ 2147483647) {p1 : Int} (hp1 : -2147483648 ≤ p1 ∧ p1 ≤ 2147483647) : xMetX l G yX3_viewStrike wsX3_viewStrike 7 111 2 12 [.ref h0, .int (iN (p0)), .int (iN (p1))] M (fun r M1 => ∃ z : Int, r = some (.int (iN z)) ∧ (-2147483648 ≤ z ∧ z ≤ 2147483647) ∧ RG G M1 h0 rf) (fun E M1 => E ∈ [xIO, xIA] ∧ RG G M1 h0 rf) := by
  refine x_introX (cc := cX3_viewStrike) (maxL := 4) (ret := (some .int)) (by decide +kernel) rfl (Nat.le_of_ble_eq_true rfl) ?_
  intro p e R s m args below meth c ls hRf hRc hRs hRl htab hC hw hl
  have hl : lv_has ls 4 [(0, .ref h0), (1, .int (iN (p0))), (2, .int (iN (p1)))] := hl
  refine lv_aload_n hC.1 hC.2.1 dX3_viewStrike_0 rfl (lv_at hl 0 rfl) ?_
  refine lv_iload_n hC.1 hC.2.1 dX3_viewStrike_1 rfl (lv_at hl 1 rfl) ?_
  refine x_callVX hC hw (lv_size hl) (c_X3_viewAt l G hst hR (p0 := p0) (by omega)) gX3_viewStrike_X3_viewAt rfl dv_X3_viewAt hR.1 rfl rfl (Nat.le_of_ble_eq_true rfl) (by rw [hRf]; decide) (by rw [hRl]; decide) (by omega) (by omega) dX3_viewStrike_2 (fun E ce q9 M_1 H locs hqx hw hcell hcv hcls => ?_) (fun r9 M_1 H locs hq hw => ?_)
  · rw [hqx.2] at hw
    exact x_outX hC hw htab hcell hcv hcls (by omega) (by omega) ⟨(show ∀ x ∈ [xIO], x ∈ [xIO, xIA] from by decide +kernel) E hqx.1, ⟨_, _, _, _, _, _, _, _, _, _, hR⟩⟩
  obtain ⟨y_3, rfl, hM9, hk_2, hk_2b, hyk_2⟩ := hq
  rw [hM9] at hw
  obtain ⟨ix_4, lox_4, upx_4, swx_4, ewx_4, lix_4, uix_4, hix_4, hVx_4⟩ := (hR.vw (show (p0).toNat < 4 by omega) hyk_2)
  have hlix_4 := hVx_4.2.1
  have huix_4 := hVx_4.2.2
  obtain ⟨nox_5, ox_5, tx_5, kcx_5, szx_5, fkx_5, fwx_5, hBx_5⟩ := hR.bk hix_4
  obtain ⟨-, -, -, -, hsax_5, hsbx_5⟩ := id hBx_5
  show W p l e R s m args below meth c H locs _ _ _ (F0 m 5 ls [.ref y_3])
  refine lv_astore_n (lv' := [(3, .ref y_3), (0, .ref h0), (1, .int (iN (p0))), (2, .int (iN (p1)))]) hC.1 hC.2.1 dX3_viewStrike_5 rfl hl (by decide) rfl (fun ls hl => ?_)
  refine lv_iload_n hC.1 hC.2.1 dX3_viewStrike_6 rfl (lv_at hl 3 rfl) ?_
  refine x_callSX hC hw (lv_size hl) (c_X3_checkKey l G (M := M) hst (p0 := p1) (by omega)) gX3_viewStrike_X3_checkKey rfl dv_X3_checkKey_s rfl (Nat.le_of_ble_eq_true rfl) (by rw [hRf]; decide) (by rw [hRl]; decide) (by omega) (by omega) dX3_viewStrike_7 (fun E ce q9 M_6 H locs hqx hw hcell hcv hcls => ?_) (fun r9 M_6 H locs hq hw => ?_)
  · rw [hqx.2] at hw
    exact x_outX hC hw htab hcell hcv hcls (by omega) (by omega) ⟨(show ∀ x ∈ [xIA], x ∈ [xIO, xIA] from by decide +kernel) E hqx.1, ⟨_, _, _, _, _, _, _, _, _, _, hR⟩⟩
  obtain ⟨rfl, hM9, hk_7⟩ := hq
  rw [hM9] at hw
  show W p l e R s m args below meth c H locs _ _ _ (F0 m 10 ls [])
  refine lv_aload_n hC.1 hC.2.1 dX3_viewStrike_10 rfl (lv_at hl 0 rfl) ?_
  refine x_callV hC hw (lv_size hl) (c_X1_book l G hVx_4 hBx_5) gX3_viewStrike_X1_book rfl dv_X1_book hVx_4.1 rfl rfl (Nat.le_of_ble_eq_true rfl) (by rw [hRf]; decide) (by rw [hRl]; decide) (by omega) (by omega) dX3_viewStrike_11 (fun r9 M_8 H locs hq hw => ?_)
  obtain ⟨rfl, hM9⟩ := hq
  rw [hM9] at hw
  show W p l e R s m args below meth c H locs _ _ _ (F0 m 14 ls [.ref (qb ix_4)])
  refine x_callV hC hw (lv_size hl) (c_X0_touch l G hBx_5) gX3_viewStrike_X0_touch rfl dv_X0_touch hBx_5.1 rfl rfl (Nat.le_of_ble_eq_true rfl) (by rw [hRf]; decide) (by rw [hRl]; decide) (by omega) (by omega) dX3_viewStrike_14 (fun r9 M_9 H locs hq hw => ?_)
  obtain ⟨rfl, ou_10, tu_10, kcu_10, szu_10, fku_10, fvu_10, hBu_10, smu_10⟩ := hq
  obtain ⟨-, -, -, -, hsau_10, hsbu_10⟩ := id hBu_10
  have sm_11 := (xSm.rf (M := M) (b := (qb ix_4)) (k := (qk ix_4)) (v := (qv ix_4))).tr (smu_10)
  have h_12 := hR.book hix_4 hBx_5 hBu_10 smu_10
  have h_13 : Vw _ y_3 (qb ix_4) lox_4 upx_4 swx_4 ewx_4 lix_4 uix_4 := And.intro (x_kB hBx_5 smu_10 (by decide) hVx_4.1) hVx_4.2
  show W p l e R s m args below meth c H locs _ _ _ (F0 m 17 ls [])
  refine lv_aload_n hC.1 hC.2.1 dX3_viewStrike_17 rfl (lv_at hl 0 rfl) ?_
  refine lv_iload_n hC.1 hC.2.1 dX3_viewStrike_18 rfl (lv_at hl 3 rfl) ?_
  refine x_callV hC hw (lv_size hl) (c_X1_isWithin l G h_13 hBu_10 (p0 := p1) (by omega)) gX3_viewStrike_X1_isWithin rfl dv_X1_isWithin h_13.1 rfl rfl (Nat.le_of_ble_eq_true rfl) (by rw [hRf]; decide) (by rw [hRl]; decide) (by omega) (by omega) dX3_viewStrike_19 (fun r9 M_14 H locs hq hw => ?_)
  obtain ⟨z_15, rfl, hM9, hz_15⟩ := hq
  rw [hM9] at hw
  show W p l e R s m args below meth c H locs _ _ _ (F0 m 22 ls [.int (iN (z_15))])
  refine x_if_eq (tgt := 36) hC ⟨by omega, by omega⟩ dX3_viewStrike_22 (by decide) (fun c_16 => ?_) (fun c_16 => ?_)
  · refine x_sipush hC dX3_viewStrike_36 (by decide +kernel) ?_
    exact vx_ret (x_iret hC hw dX3_viewStrike_39 (by omega) (by omega) ⟨(iN ((-10000))).toInt, by simp only [iN_asI], iN_rng _, ⟨_, _, _, _, _, _, _, _, _, _, h_12⟩⟩)
  · refine lv_aload_n hC.1 hC.2.1 dX3_viewStrike_25 rfl (lv_at hl 0 rfl) ?_
    refine x_callV hC hw (lv_size hl) (c_X1_book l G h_13 hBu_10) gX3_viewStrike_X1_book rfl dv_X1_book h_13.1 rfl rfl (Nat.le_of_ble_eq_true rfl) (by rw [hRf]; decide) (by rw [hRl]; decide) (by omega) (by omega) dX3_viewStrike_26 (fun r9 M_17 H locs hq hw => ?_)
    obtain ⟨rfl, hM9⟩ := hq
    rw [hM9] at hw
    show W p l e R s m args below meth c H locs _ _ _ (F0 m 29 ls [.ref (qb ix_4)])
    refine lv_iload_n hC.1 hC.2.1 dX3_viewStrike_29 rfl (lv_at hl 3 rfl) ?_
    refine x_callV hC hw (lv_size hl) (c_X0_removeKey l G hBu_10 (p0 := p1) (by omega)) gX3_viewStrike_X0_removeKey rfl dv_X0_removeKey hBu_10.1 rfl rfl (Nat.le_of_ble_eq_true rfl) (by rw [hRf]; decide) (by rw [hRl]; decide) (by omega) (by omega) dX3_viewStrike_30 (fun r9 M_18 H locs hq hw => ?_)
    obtain ⟨z_20, rfl, hz_20, ou_19, tu_19, kcu_19, szu_19, fku_19, fvu_19, hBu_19, smu_19⟩ := hq
    obtain ⟨-, -, -, -, hsau_19, hsbu_19⟩ := id hBu_19
    have sm_21 := (sm_11).tr (smu_19)
    have h_22 := h_12.book hix_4 hBu_10 hBu_19 smu_19
    have h_23 : Vw _ y_3 (qb ix_4) lox_4 upx_4 swx_4 ewx_4 lix_4 uix_4 := And.intro (x_kB hBu_10 smu_19 (by decide) h_13.1) h_13.2
    show W p l e R s m args below meth c H locs _ _ _ (F0 m 33 ls [.int (iN (z_20))])
    refine lv_goto (tgt := 39) hC.1 hC.2.1 dX3_viewStrike_33 (by decide) ?_
    exact vx_ret (x_iret hC hw dX3_viewStrike_39 (by omega) (by omega) ⟨(iN (z_20)).toInt, by simp only [iN_asI], iN_rng _, ⟨_, _, _, _, _, _, _, _, _, _, h_22⟩⟩)
set_option maxHeartbeats 4000000 in
set_option maxRecDepth 100000 in
theorem c_X3_viewMerge (l : Launch) (G : xG) {M : HM} (hst : l.stackTraces = false) {h0 bs vs : Nat} {og : Option Nat} {kk kv rf : Int32} {qb qk qv : Nat → Nat} {fb fv : Nat → Option Nat} (hR : RGx G M h0 bs vs og kk kv rf qb qk qv fb fv) {p0 : Int} (hp0 : -2147483648 ≤ p0 ∧ p0 ≤ 2147483647) {p1 : Int} (hp1 : -2147483648 ≤ p1 ∧ p1 ≤ 2147483647) {p2 : Int} (hp2 : -2147483648 ≤ p2 ∧ p2 ≤ 2147483647) : xMetX l G yX3_viewMerge wsX3_viewMerge 8 138 3 18 [.ref h0, .int (iN (p0)), .int (iN (p1)), .int (iN (p2))] M (fun r M1 => ∃ z : Int, r = some (.int (iN z)) ∧ (-2147483648 ≤ z ∧ z ≤ 2147483647) ∧ RG G M1 h0 rf) (fun E M1 => E ∈ [xIO, xIA] ∧ RG G M1 h0 rf) := by
  refine x_introX (cc := cX3_viewMerge) (maxL := 5) (ret := (some .int)) (by decide +kernel) rfl (Nat.le_of_ble_eq_true rfl) ?_
  intro p e R s m args below meth c ls hRf hRc hRs hRl htab hC hw hl
  have hl : lv_has ls 5 [(0, .ref h0), (1, .int (iN (p0))), (2, .int (iN (p1))), (3, .int (iN (p2)))] := hl
  refine lv_aload_n hC.1 hC.2.1 dX3_viewMerge_0 rfl (lv_at hl 0 rfl) ?_
  refine lv_iload_n hC.1 hC.2.1 dX3_viewMerge_1 rfl (lv_at hl 1 rfl) ?_
  refine lv_iload_n hC.1 hC.2.1 dX3_viewMerge_2 rfl (lv_at hl 2 rfl) ?_
  refine lv_iload_n hC.1 hC.2.1 dX3_viewMerge_3 rfl (lv_at hl 3 rfl) ?_
  refine x_callVX hC hw (lv_size hl) (c_X3_viewToWritePair l G hst hR (p0 := p0) (by omega) (p1 := p1) (by omega) (p2 := p2) (by omega)) gX3_viewMerge_X3_viewToWritePair rfl dv_X3_viewToWritePair hR.1 rfl rfl (Nat.le_of_ble_eq_true rfl) (by rw [hRf]; decide) (by rw [hRl]; decide) (by omega) (by omega) dX3_viewMerge_4 (fun E ce q9 M_1 H locs hqx hw hcell hcv hcls => ?_) (fun r9 M_1 H locs hq hw => ?_)
  · exact x_outX hC hw htab hcell hcv hcls (by omega) (by omega) ⟨(show ∀ x ∈ [xIO, xIA], x ∈ [xIO, xIA] from by decide +kernel) E hqx.1, ⟨_, _, _, _, _, _, _, _, _, _, hqx.2⟩⟩
  obtain ⟨y_3, rfl, hRk_2, hk_2, hk_2b, hk_2c, hk_2d, hyk_2⟩ := hq
  obtain ⟨ix_4, lox_4, upx_4, swx_4, ewx_4, lix_4, uix_4, hix_4, hVx_4⟩ := (hRk_2.vw (show (p0).toNat < 4 by omega) hyk_2)
  have hlix_4 := hVx_4.2.1
  have huix_4 := hVx_4.2.2
  obtain ⟨nox_5, ox_5, tx_5, kcx_5, szx_5, fkx_5, fwx_5, hBx_5⟩ := hRk_2.bk hix_4
  obtain ⟨-, -, -, -, hsax_5, hsbx_5⟩ := id hBx_5
  show W p l e R s m args below meth c H locs _ _ _ (F0 m 7 ls [.ref y_3])
  refine lv_astore (lv' := [(4, .ref y_3), (0, .ref h0), (1, .int (iN (p0))), (2, .int (iN (p1))), (3, .int (iN (p2)))]) hC.1 hC.2.1 dX3_viewMerge_7 hl (by decide) rfl (fun ls hl => ?_)
  refine lv_aload hC.1 hC.2.1 dX3_viewMerge_9 (lv_at hl 0 rfl) ?_
  refine lv_iload_n hC.1 hC.2.1 dX3_viewMerge_11 rfl (lv_at hl 3 rfl) ?_
  refine x_callV hC hw (lv_size hl) (c_X1_isWithin l G hVx_4 hBx_5 (p0 := p1) (by omega)) gX3_viewMerge_X1_isWithin rfl dv_X1_isWithin hVx_4.1 rfl rfl (Nat.le_of_ble_eq_true rfl) (by rw [hRf]; decide) (by rw [hRl]; decide) (by omega) (by omega) dX3_viewMerge_12 (fun r9 M_6 H locs hq hw => ?_)
  obtain ⟨z_7, rfl, hM9, hz_7⟩ := hq
  rw [hM9] at hw
  show W p l e R s m args below meth c H locs _ _ _ (F0 m 15 ls [.int (iN (z_7))])
  refine x_if_eq (tgt := 31) hC ⟨by omega, by omega⟩ dX3_viewMerge_15 (by decide) (fun c_8 => ?_) (fun c_8 => ?_)
  · refine x_sipush hC dX3_viewMerge_31 (by decide +kernel) ?_
    exact vx_ret (x_iret hC hw dX3_viewMerge_34 (by omega) (by omega) ⟨(iN ((-20000))).toInt, by simp only [iN_asI], iN_rng _, ⟨_, _, _, _, _, _, _, _, _, _, hRk_2⟩⟩)
  · refine lv_aload hC.1 hC.2.1 dX3_viewMerge_18 (lv_at hl 0 rfl) ?_
    refine x_callV hC hw (lv_size hl) (c_X1_book l G hVx_4 hBx_5) gX3_viewMerge_X1_book rfl dv_X1_book hVx_4.1 rfl rfl (Nat.le_of_ble_eq_true rfl) (by rw [hRf]; decide) (by rw [hRl]; decide) (by omega) (by omega) dX3_viewMerge_20 (fun r9 M_9 H locs hq hw => ?_)
    obtain ⟨rfl, hM9⟩ := hq
    rw [hM9] at hw
    show W p l e R s m args below meth c H locs _ _ _ (F0 m 23 ls [.ref (qb ix_4)])
    refine lv_iload_n hC.1 hC.2.1 dX3_viewMerge_23 rfl (lv_at hl 3 rfl) ?_
    refine lv_iload_n hC.1 hC.2.1 dX3_viewMerge_24 rfl (lv_at hl 4 rfl) ?_
    refine x_callV hC hw (lv_size hl) (c_X0_putTogether l G hBx_5 (p0 := p1) (by omega) (p1 := p2) (by omega)) gX3_viewMerge_X0_putTogether rfl dv_X0_putTogether hBx_5.1 rfl rfl (Nat.le_of_ble_eq_true rfl) (by rw [hRf]; decide) (by rw [hRl]; decide) (by omega) (by omega) dX3_viewMerge_25 (fun r9 M_10 H locs hq hw => ?_)
    obtain ⟨z_12, rfl, hz_12, ou_11, tu_11, kcu_11, szu_11, fku_11, fvu_11, hBu_11, smu_11⟩ := hq
    obtain ⟨-, -, -, -, hsau_11, hsbu_11⟩ := id hBu_11
    have sm_13 := (xSm.rf (M := M_1) (b := (qb ix_4)) (k := (qk ix_4)) (v := (qv ix_4))).tr (smu_11)
    have h_14 := hRk_2.book hix_4 hBx_5 hBu_11 smu_11
    have h_15 : Vw _ y_3 (qb ix_4) lox_4 upx_4 swx_4 ewx_4 lix_4 uix_4 := And.intro (x_kB hBx_5 smu_11 (by decide) hVx_4.1) hVx_4.2
    show W p l e R s m args below meth c H locs _ _ _ (F0 m 28 ls [.int (iN (z_12))])
    refine lv_goto (tgt := 34) hC.1 hC.2.1 dX3_viewMerge_28 (by decide) ?_
    exact vx_ret (x_iret hC hw dX3_viewMerge_34 (by omega) (by omega) ⟨(iN (z_12)).toInt, by simp only [iN_asI], iN_rng _, ⟨_, _, _, _, _, _, _, _, _, _, h_14⟩⟩)
set_option maxHeartbeats 4000000 in
set_option maxRecDepth 100000 in
theorem c_X3_viewPoll (l : Launch) (G : xG) {M : HM} (hst : l.stackTraces = false) {h0 bs vs : Nat} {og : Option Nat} {kk kv rf : Int32} {qb qk qv : Nat → Nat} {fb fv : Nat → Option Nat} (hR : RGx G M h0 bs vs og kk kv rf qb qk qv fb fv) {p0 : Int} (hp0 : -2147483648 ≤ p0 ∧ p0 ≤ 2147483647) {p1 : Int} (hp1 : -2147483648 ≤ p1 ∧ p1 ≤ 2147483647) (hb1 : p1 = 0 ∨ p1 = 1) : xMetX l G yX3_viewPoll wsX3_viewPoll 7 111 1 6 [.ref h0, .int (iN (p0)), .int (iN (p1))] M (fun r M1 => ∃ z : Int, r = some (.int (iN z)) ∧ (-2147483648 ≤ z ∧ z ≤ 2147483647) ∧ RG G M1 h0 rf) (fun E M1 => E ∈ [xIO] ∧ RG G M1 h0 rf) := by
  refine x_introX (cc := cX3_viewPoll) (maxL := 4) (ret := (some .int)) (by decide +kernel) rfl (Nat.le_of_ble_eq_true rfl) ?_
  intro p e R s m args below meth c ls hRf hRc hRs hRl htab hC hw hl
  have hl : lv_has ls 4 [(0, .ref h0), (1, .int (iN (p0))), (2, .int (iN (p1)))] := hl
  refine lv_aload_n hC.1 hC.2.1 dX3_viewPoll_0 rfl (lv_at hl 0 rfl) ?_
  refine lv_iload_n hC.1 hC.2.1 dX3_viewPoll_1 rfl (lv_at hl 1 rfl) ?_
  refine x_callVX hC hw (lv_size hl) (c_X3_viewAt l G hst hR (p0 := p0) (by omega)) gX3_viewPoll_X3_viewAt rfl dv_X3_viewAt hR.1 rfl rfl (Nat.le_of_ble_eq_true rfl) (by rw [hRf]; decide) (by rw [hRl]; decide) (by omega) (by omega) dX3_viewPoll_2 (fun E ce q9 M_1 H locs hqx hw hcell hcv hcls => ?_) (fun r9 M_1 H locs hq hw => ?_)
  · rw [hqx.2] at hw
    exact x_outX hC hw htab hcell hcv hcls (by omega) (by omega) ⟨(show ∀ x ∈ [xIO], x ∈ [xIO] from by decide +kernel) E hqx.1, ⟨_, _, _, _, _, _, _, _, _, _, hR⟩⟩
  obtain ⟨y_3, rfl, hM9, hk_2, hk_2b, hyk_2⟩ := hq
  rw [hM9] at hw
  obtain ⟨ix_4, lox_4, upx_4, swx_4, ewx_4, lix_4, uix_4, hix_4, hVx_4⟩ := (hR.vw (show (p0).toNat < 4 by omega) hyk_2)
  have hlix_4 := hVx_4.2.1
  have huix_4 := hVx_4.2.2
  obtain ⟨nox_5, ox_5, tx_5, kcx_5, szx_5, fkx_5, fwx_5, hBx_5⟩ := hR.bk hix_4
  obtain ⟨-, -, -, -, hsax_5, hsbx_5⟩ := id hBx_5
  show W p l e R s m args below meth c H locs _ _ _ (F0 m 5 ls [.ref y_3])
  refine lv_astore_n (lv' := [(3, .ref y_3), (0, .ref h0), (1, .int (iN (p0))), (2, .int (iN (p1)))]) hC.1 hC.2.1 dX3_viewPoll_5 rfl hl (by decide) rfl (fun ls hl => ?_)
  refine lv_aload_n hC.1 hC.2.1 dX3_viewPoll_6 rfl (lv_at hl 0 rfl) ?_
  refine x_callV hC hw (lv_size hl) (c_X1_book l G hVx_4 hBx_5) gX3_viewPoll_X1_book rfl dv_X1_book hVx_4.1 rfl rfl (Nat.le_of_ble_eq_true rfl) (by rw [hRf]; decide) (by rw [hRl]; decide) (by omega) (by omega) dX3_viewPoll_7 (fun r9 M_6 H locs hq hw => ?_)
  obtain ⟨rfl, hM9⟩ := hq
  rw [hM9] at hw
  show W p l e R s m args below meth c H locs _ _ _ (F0 m 10 ls [.ref (qb ix_4)])
  refine x_callV hC hw (lv_size hl) (c_X0_touch l G hBx_5) gX3_viewPoll_X0_touch rfl dv_X0_touch hBx_5.1 rfl rfl (Nat.le_of_ble_eq_true rfl) (by rw [hRf]; decide) (by rw [hRl]; decide) (by omega) (by omega) dX3_viewPoll_10 (fun r9 M_7 H locs hq hw => ?_)
  obtain ⟨rfl, ou_8, tu_8, kcu_8, szu_8, fku_8, fvu_8, hBu_8, smu_8⟩ := hq
  obtain ⟨-, -, -, -, hsau_8, hsbu_8⟩ := id hBu_8
  have sm_9 := (xSm.rf (M := M) (b := (qb ix_4)) (k := (qk ix_4)) (v := (qv ix_4))).tr (smu_8)
  have h_10 := hR.book hix_4 hBx_5 hBu_8 smu_8
  have h_11 : Vw _ y_3 (qb ix_4) lox_4 upx_4 swx_4 ewx_4 lix_4 uix_4 := And.intro (x_kB hBx_5 smu_8 (by decide) hVx_4.1) hVx_4.2
  show W p l e R s m args below meth c H locs _ _ _ (F0 m 13 ls [])
  refine lv_aload_n hC.1 hC.2.1 dX3_viewPoll_13 rfl (lv_at hl 0 rfl) ?_
  refine x_callV hC hw (lv_size hl) (c_X1_size l G h_11 hBu_8) gX3_viewPoll_X1_size rfl dv_X1_size h_11.1 rfl rfl (Nat.le_of_ble_eq_true rfl) (by rw [hRf]; decide) (by rw [hRl]; decide) (by omega) (by omega) dX3_viewPoll_14 (fun r9 M_12 H locs hq hw => ?_)
  obtain ⟨z_13, rfl, hM9, hz_13a, hz_13b⟩ := hq
  rw [hM9] at hw
  show W p l e R s m args below meth c H locs _ _ _ (F0 m 17 ls [.int (iN (z_13))])
  refine x_if_ne (tgt := 24) hC ⟨by omega, by omega⟩ dX3_viewPoll_17 (by decide) (fun c_14 => ?_) (fun c_14 => ?_)
  · refine lv_aload_n hC.1 hC.2.1 dX3_viewPoll_24 rfl (lv_at hl 0 rfl) ?_
    refine x_callV hC hw (lv_size hl) (c_X1_book l G h_11 hBu_8) gX3_viewPoll_X1_book rfl dv_X1_book h_11.1 rfl rfl (Nat.le_of_ble_eq_true rfl) (by rw [hRf]; decide) (by rw [hRl]; decide) (by omega) (by omega) dX3_viewPoll_25 (fun r9 M_15 H locs hq hw => ?_)
    obtain ⟨rfl, hM9⟩ := hq
    rw [hM9] at hw
    show W p l e R s m args below meth c H locs _ _ _ (F0 m 28 ls [.ref (qb ix_4)])
    refine lv_iload_n hC.1 hC.2.1 dX3_viewPoll_28 rfl (lv_at hl 3 rfl) ?_
    refine x_if_eq (tgt := 41) hC ⟨by omega, by omega⟩ dX3_viewPoll_29 (by decide) (fun c_16 => ?_) (fun c_16 => ?_)
    · refine lv_aload_n hC.1 hC.2.1 dX3_viewPoll_41 rfl (lv_at hl 0 rfl) ?_
      refine x_callV hC hw (lv_size hl) (c_X1_start l G h_11 hBu_8) gX3_viewPoll_X1_start rfl dv_X1_start h_11.1 rfl rfl (Nat.le_of_ble_eq_true rfl) (by rw [hRf]; decide) (by rw [hRl]; decide) (by omega) (by omega) dX3_viewPoll_42 (fun r9 M_17 H locs hq hw => ?_)
      obtain ⟨z_18, rfl, hM9, hz_18a, hz_18b⟩ := hq
      rw [hM9] at hw
      show W p l e R s m args below meth c H locs _ _ _ (F0 m 45 ls [.int (iN (z_18)), .ref (qb ix_4)])
      refine x_callV hC hw (lv_size hl) (c_X0_removeAt l G hBu_8 (p0 := z_18) (by omega)) gX3_viewPoll_X0_removeAt rfl dv_X0_removeAt hBu_8.1 rfl rfl (Nat.le_of_ble_eq_true rfl) (by rw [hRf]; decide) (by rw [hRl]; decide) (by omega) (by omega) dX3_viewPoll_45 (fun r9 M_19 H locs hq hw => ?_)
      obtain ⟨z_21, rfl, hz_21, ou_20, tu_20, kcu_20, szu_20, fku_20, fvu_20, hBu_20, smu_20⟩ := hq
      obtain ⟨-, -, -, -, hsau_20, hsbu_20⟩ := id hBu_20
      have sm_22 := (sm_9).tr (smu_20)
      have h_23 := h_10.book hix_4 hBu_8 hBu_20 smu_20
      have h_24 : Vw _ y_3 (qb ix_4) lox_4 upx_4 swx_4 ewx_4 lix_4 uix_4 := And.intro (x_kB hBu_8 smu_20 (by decide) h_11.1) h_11.2
      show W p l e R s m args below meth c H locs _ _ _ (F0 m 48 ls [.int (iN (z_21))])
      exact vx_ret (x_iret hC hw dX3_viewPoll_48 (by omega) (by omega) ⟨(iN (z_21)).toInt, by simp only [iN_asI], iN_rng _, ⟨_, _, _, _, _, _, _, _, _, _, h_23⟩⟩)
    · refine lv_aload_n hC.1 hC.2.1 dX3_viewPoll_32 rfl (lv_at hl 0 rfl) ?_
      refine x_callV hC hw (lv_size hl) (c_X1_end l G h_11 hBu_8) gX3_viewPoll_X1_end rfl dv_X1_end h_11.1 rfl rfl (Nat.le_of_ble_eq_true rfl) (by rw [hRf]; decide) (by rw [hRl]; decide) (by omega) (by omega) dX3_viewPoll_33 (fun r9 M_25 H locs hq hw => ?_)
      obtain ⟨z_26, rfl, hM9, hz_26a, hz_26b⟩ := hq
      rw [hM9] at hw
      show W p l e R s m args below meth c H locs _ _ _ (F0 m 36 ls [.int (iN (z_26)), .ref (qb ix_4)])
      refine x_const hC dX3_viewPoll_36 ?_
      refine x_isub hC dX3_viewPoll_37 ?_
      refine lv_goto (tgt := 45) hC.1 hC.2.1 dX3_viewPoll_38 (by decide) ?_
      refine x_callV hC hw (lv_size hl) (c_X0_removeAt l G hBu_8 (p0 := (z_26 - 1)) (by omega)) gX3_viewPoll_X0_removeAt rfl dv_X0_removeAt hBu_8.1 rfl rfl (Nat.le_of_ble_eq_true rfl) (by rw [hRf]; decide) (by rw [hRl]; decide) (by omega) (by omega) dX3_viewPoll_45 (fun r9 M_27 H locs hq hw => ?_)
      obtain ⟨z_29, rfl, hz_29, ou_28, tu_28, kcu_28, szu_28, fku_28, fvu_28, hBu_28, smu_28⟩ := hq
      obtain ⟨-, -, -, -, hsau_28, hsbu_28⟩ := id hBu_28
      have sm_30 := (sm_9).tr (smu_28)
      have h_31 := h_10.book hix_4 hBu_8 hBu_28 smu_28
      have h_32 : Vw _ y_3 (qb ix_4) lox_4 upx_4 swx_4 ewx_4 lix_4 uix_4 := And.intro (x_kB hBu_8 smu_28 (by decide) h_11.1) h_11.2
      show W p l e R s m args below meth c H locs _ _ _ (F0 m 48 ls [.int (iN (z_29))])
      exact vx_ret (x_iret hC hw dX3_viewPoll_48 (by omega) (by omega) ⟨(iN (z_29)).toInt, by simp only [iN_asI], iN_rng _, ⟨_, _, _, _, _, _, _, _, _, _, h_31⟩⟩)
  · refine x_sipush hC dX3_viewPoll_20 (by decide +kernel) ?_
    exact vx_ret (x_iret hC hw dX3_viewPoll_23 (by omega) (by omega) ⟨(iN ((-10000))).toInt, by simp only [iN_asI], iN_rng _, ⟨_, _, _, _, _, _, _, _, _, _, h_10⟩⟩)
set_option maxHeartbeats 4000000 in
set_option maxRecDepth 100000 in
theorem c_X3_viewClear (l : Launch) (G : xG) {M : HM} (hst : l.stackTraces = false) {h0 bs vs : Nat} {og : Option Nat} {kk kv rf : Int32} {qb qk qv : Nat → Nat} {fb fv : Nat → Option Nat} (hR : RGx G M h0 bs vs og kk kv rf qb qk qv fb fv) {p0 : Int} (hp0 : -2147483648 ≤ p0 ∧ p0 ≤ 2147483647) : xMetX l G yX3_viewClear wsX3_viewClear 7 111 1 6 [.ref h0, .int (iN (p0))] M (fun r M1 => ∃ z : Int, r = some (.int (iN z)) ∧ (-2147483648 ≤ z ∧ z ≤ 2147483647) ∧ RG G M1 h0 rf) (fun E M1 => E ∈ [xIO] ∧ RG G M1 h0 rf) := by
  refine x_introX (cc := cX3_viewClear) (maxL := 3) (ret := (some .int)) (by decide +kernel) rfl (Nat.le_of_ble_eq_true rfl) ?_
  intro p e R s m args below meth c ls hRf hRc hRs hRl htab hC hw hl
  have hl : lv_has ls 3 [(0, .ref h0), (1, .int (iN (p0)))] := hl
  refine lv_aload_n hC.1 hC.2.1 dX3_viewClear_0 rfl (lv_at hl 0 rfl) ?_
  refine lv_iload_n hC.1 hC.2.1 dX3_viewClear_1 rfl (lv_at hl 1 rfl) ?_
  refine x_callVX hC hw (lv_size hl) (c_X3_viewAt l G hst hR (p0 := p0) (by omega)) gX3_viewClear_X3_viewAt rfl dv_X3_viewAt hR.1 rfl rfl (Nat.le_of_ble_eq_true rfl) (by rw [hRf]; decide) (by rw [hRl]; decide) (by omega) (by omega) dX3_viewClear_2 (fun E ce q9 M_1 H locs hqx hw hcell hcv hcls => ?_) (fun r9 M_1 H locs hq hw => ?_)
  · rw [hqx.2] at hw
    exact x_outX hC hw htab hcell hcv hcls (by omega) (by omega) ⟨(show ∀ x ∈ [xIO], x ∈ [xIO] from by decide +kernel) E hqx.1, ⟨_, _, _, _, _, _, _, _, _, _, hR⟩⟩
  obtain ⟨y_3, rfl, hM9, hk_2, hk_2b, hyk_2⟩ := hq
  rw [hM9] at hw
  obtain ⟨ix_4, lox_4, upx_4, swx_4, ewx_4, lix_4, uix_4, hix_4, hVx_4⟩ := (hR.vw (show (p0).toNat < 4 by omega) hyk_2)
  have hlix_4 := hVx_4.2.1
  have huix_4 := hVx_4.2.2
  obtain ⟨nox_5, ox_5, tx_5, kcx_5, szx_5, fkx_5, fwx_5, hBx_5⟩ := hR.bk hix_4
  obtain ⟨-, -, -, -, hsax_5, hsbx_5⟩ := id hBx_5
  show W p l e R s m args below meth c H locs _ _ _ (F0 m 5 ls [.ref y_3])
  refine lv_astore_n (lv' := [(2, .ref y_3), (0, .ref h0), (1, .int (iN (p0)))]) hC.1 hC.2.1 dX3_viewClear_5 rfl hl (by decide) rfl (fun ls hl => ?_)
  refine lv_aload_n hC.1 hC.2.1 dX3_viewClear_6 rfl (lv_at hl 0 rfl) ?_
  refine x_callV hC hw (lv_size hl) (c_X1_book l G hVx_4 hBx_5) gX3_viewClear_X1_book rfl dv_X1_book hVx_4.1 rfl rfl (Nat.le_of_ble_eq_true rfl) (by rw [hRf]; decide) (by rw [hRl]; decide) (by omega) (by omega) dX3_viewClear_7 (fun r9 M_6 H locs hq hw => ?_)
  obtain ⟨rfl, hM9⟩ := hq
  rw [hM9] at hw
  show W p l e R s m args below meth c H locs _ _ _ (F0 m 10 ls [.ref (qb ix_4)])
  refine x_callV hC hw (lv_size hl) (c_X0_touch l G hBx_5) gX3_viewClear_X0_touch rfl dv_X0_touch hBx_5.1 rfl rfl (Nat.le_of_ble_eq_true rfl) (by rw [hRf]; decide) (by rw [hRl]; decide) (by omega) (by omega) dX3_viewClear_10 (fun r9 M_7 H locs hq hw => ?_)
  obtain ⟨rfl, ou_8, tu_8, kcu_8, szu_8, fku_8, fvu_8, hBu_8, smu_8⟩ := hq
  obtain ⟨-, -, -, -, hsau_8, hsbu_8⟩ := id hBu_8
  have sm_9 := (xSm.rf (M := M) (b := (qb ix_4)) (k := (qk ix_4)) (v := (qv ix_4))).tr (smu_8)
  have h_10 := hR.book hix_4 hBx_5 hBu_8 smu_8
  have h_11 : Vw _ y_3 (qb ix_4) lox_4 upx_4 swx_4 ewx_4 lix_4 uix_4 := And.intro (x_kB hBx_5 smu_8 (by decide) hVx_4.1) hVx_4.2
  show W p l e R s m args below meth c H locs _ _ _ (F0 m 13 ls [])
  refine lv_aload_n hC.1 hC.2.1 dX3_viewClear_13 rfl (lv_at hl 0 rfl) ?_
  refine x_callV hC hw (lv_size hl) (c_X1_book l G h_11 hBu_8) gX3_viewClear_X1_book rfl dv_X1_book h_11.1 rfl rfl (Nat.le_of_ble_eq_true rfl) (by rw [hRf]; decide) (by rw [hRl]; decide) (by omega) (by omega) dX3_viewClear_14 (fun r9 M_12 H locs hq hw => ?_)
  obtain ⟨rfl, hM9⟩ := hq
  rw [hM9] at hw
  show W p l e R s m args below meth c H locs _ _ _ (F0 m 17 ls [.ref (qb ix_4)])
  refine lv_aload_n hC.1 hC.2.1 dX3_viewClear_17 rfl (lv_at hl 0 rfl) ?_
  refine x_callV hC hw (lv_size hl) (c_X1_start l G h_11 hBu_8) gX3_viewClear_X1_start rfl dv_X1_start h_11.1 rfl rfl (Nat.le_of_ble_eq_true rfl) (by rw [hRf]; decide) (by rw [hRl]; decide) (by omega) (by omega) dX3_viewClear_18 (fun r9 M_13 H locs hq hw => ?_)
  obtain ⟨z_14, rfl, hM9, hz_14a, hz_14b⟩ := hq
  rw [hM9] at hw
  show W p l e R s m args below meth c H locs _ _ _ (F0 m 21 ls [.int (iN (z_14)), .ref (qb ix_4)])
  refine lv_aload_n hC.1 hC.2.1 dX3_viewClear_21 rfl (lv_at hl 0 rfl) ?_
  refine x_callV hC hw (lv_size hl) (c_X1_end l G h_11 hBu_8) gX3_viewClear_X1_end rfl dv_X1_end h_11.1 rfl rfl (Nat.le_of_ble_eq_true rfl) (by rw [hRf]; decide) (by rw [hRl]; decide) (by omega) (by omega) dX3_viewClear_22 (fun r9 M_15 H locs hq hw => ?_)
  obtain ⟨z_16, rfl, hM9, hz_16a, hz_16b⟩ := hq
  rw [hM9] at hw
  show W p l e R s m args below meth c H locs _ _ _ (F0 m 25 ls [.int (iN (z_16)), .int (iN (z_14)), .ref (qb ix_4)])
  refine x_callV hC hw (lv_size hl) (c_X0_removeRange l G hBu_8 (p0 := z_14) (by omega) (p1 := z_16) (by omega)) gX3_viewClear_X0_removeRange rfl dv_X0_removeRange hBu_8.1 rfl rfl (Nat.le_of_ble_eq_true rfl) (by rw [hRf]; decide) (by rw [hRl]; decide) (by omega) (by omega) dX3_viewClear_25 (fun r9 M_17 H locs hq hw => ?_)
  obtain ⟨z_19, rfl, hz_19, ou_18, tu_18, kcu_18, szu_18, fku_18, fvu_18, hBu_18, smu_18⟩ := hq
  obtain ⟨-, -, -, -, hsau_18, hsbu_18⟩ := id hBu_18
  have sm_20 := (sm_9).tr (smu_18)
  have h_21 := h_10.book hix_4 hBu_8 hBu_18 smu_18
  have h_22 : Vw _ y_3 (qb ix_4) lox_4 upx_4 swx_4 ewx_4 lix_4 uix_4 := And.intro (x_kB hBu_8 smu_18 (by decide) h_11.1) h_11.2
  show W p l e R s m args below meth c H locs _ _ _ (F0 m 28 ls [.int (iN (z_19))])
  exact vx_ret (x_iret hC hw dX3_viewClear_28 (by omega) (by omega) ⟨(iN (z_19)).toInt, by simp only [iN_asI], iN_rng _, ⟨_, _, _, _, _, _, _, _, _, _, h_21⟩⟩)
set_option maxHeartbeats 4000000 in
set_option maxRecDepth 100000 in
theorem c_X3_walk (l : Launch) (G : xG) {M : HM} (hst : l.stackTraces = false) {h0 bs vs : Nat} {og : Option Nat} {kk kv rf : Int32} {qb qk qv : Nat → Nat} {fb fv : Nat → Option Nat} (hR : RGx G M h0 bs vs og kk kv rf qb qk qv fb fv) {p0 : Int} (hp0 : -2147483648 ≤ p0 ∧ p0 ≤ 2147483647) : xMetX l G yX3_walk wsX3_walk 7 111 3 18 [.ref h0, .int (iN (p0))] M (fun r M1 => ∃ z : Int, r = some (.int (iN z)) ∧ (-2147483648 ≤ z ∧ z ≤ 2147483647) ∧ RG G M1 h0 rf) (fun E M1 => E ∈ [xIO] ∧ RG G M1 h0 rf) := by
  refine x_introX (cc := cX3_walk) (maxL := 2) (ret := (some .int)) (by decide +kernel) rfl (Nat.le_of_ble_eq_true rfl) ?_
  intro p e R s m args below meth c ls hRf hRc hRs hRl htab hC hw hl
  have hinX1 : ∀ w ∈ wsX10, w ∈ wsX3_walk := by decide +kernel
  have hl : lv_has ls 2 [(0, .ref h0), (1, .int (iN (p0)))] := hl
  refine lv_aload_n hC.1 hC.2.1 dX3_walk_0 rfl (lv_at hl 0 rfl) ?_
  refine x_new (fs := [.null, .int 0, .int 0, .int 0, .int 0, .int 0, .int 0]) (ci := 3) hC hw rfl hinX1 tyX1 tyX1_ok (by decide +kernel) (by decide +kernel) (by decide +kernel) (fun j hj => by rcases (show j = 0 ∨ j = 1 ∨ j = 2 ∨ j = 3 ∨ j = 4 ∨ j = 5 ∨ j = 6 by omega) with rfl | rfl | rfl | rfl | rfl | rfl | rfl <;> rfl) (by omega) (by omega) dX3_walk_1 (fun q_1 H hq_4 hw => ?_)
  obtain ⟨M_2, hM_3⟩ : ∃ z, z = va_up M q_1 (some (.inr (3, [.null, .int 0, .int 0, .int 0, .int 0, .int 0, .int 0]))) := ⟨_, rfl⟩
  rw [← hM_3] at hw
  have hx_5 : xExt M M_2 := by rw [hM_3]; exact xExt.new hq_4
  have hf_6 : M_2 q_1 = some (.inr (3, [.null, .int 0, .int 0, .int 0, .int 0, .int 0, .int 0])) := by rw [hM_3, va_up_self]
  have h_7 := hR.ext hx_5
  refine lv_dup hC.1 hC.2.1 dX3_walk_4 rfl ?_
  refine lv_aload_n hC.1 hC.2.1 dX3_walk_5 rfl (lv_at hl 0 rfl) ?_
  refine lv_iload_n hC.1 hC.2.1 dX3_walk_6 rfl (lv_at hl 1 rfl) ?_
  refine x_callVX hC hw (lv_size hl) (c_X3_bookAt l G hst h_7 (p0 := p0) (by omega)) gX3_walk_X3_bookAt rfl dv_X3_bookAt h_7.1 rfl rfl (Nat.le_of_ble_eq_true rfl) (by rw [hRf]; decide) (by rw [hRl]; decide) (by omega) (by omega) dX3_walk_7 (fun E ce q9 M_8 H locs hqx hw hcell hcv hcls => ?_) (fun r9 M_8 H locs hq hw => ?_)
  · rw [hqx.2] at hw
    exact x_outX hC hw htab hcell hcv hcls (by omega) (by omega) ⟨(show ∀ x ∈ [xIO], x ∈ [xIO] from by decide +kernel) E hqx.1, ⟨_, _, _, _, _, _, _, _, _, _, h_7⟩⟩
  obtain ⟨rfl, hM9, hk_9, hk_9b⟩ := hq
  rw [hM9] at hw
  have hik_9 : (p0).toNat < 3 := by omega
  obtain ⟨nox_10, ox_10, tx_10, kcx_10, szx_10, fkx_10, fwx_10, hBx_10⟩ := h_7.bk hik_9
  obtain ⟨-, -, -, -, hsax_10, hsbx_10⟩ := id hBx_10
  show W p l e R s m args below meth c H locs _ _ _ (F0 m 10 ls [.ref (qb ((p0).toNat)), .ref q_1, .ref q_1, .ref h0])
  refine x_sipush hC dX3_walk_10 (by decide +kernel) ?_
  refine x_const hC dX3_walk_13 ?_
  refine x_sipush hC dX3_walk_14 (by decide +kernel) ?_
  refine x_const hC dX3_walk_17 ?_
  refine x_callI hC hw (lv_size hl) (c_X1_init l G hf_6 hBx_10 (p0 := (-10000)) (by omega) (p1 := 0) (by omega) (p2 := (-10000)) (by omega) (p3 := 0) (by omega) (by omega) (by omega)) gX3_walk_X1_init rfl (by decide +kernel) (by decide +kernel) (by decide +kernel) rfl dv_X1_init_s rfl (Nat.le_of_ble_eq_true rfl) (by rw [hRf]; decide) (by rw [hRl]; decide) (by omega) (by omega) dX3_walk_18 (fun r9 M_11 H locs hq hw => ?_)
  obtain ⟨rfl, ⟨swk_12, ewk_12, hVk_12⟩, smk_12⟩ := hq
  have hxk_12 : xExt M M_11 := fun a e he => (smk_12 a (fun z => by rw [z, hq_4] at he; cases he)).trans (by rw [hM_3, va_up_ne _ _ (fun z => by rw [z, hq_4] at he; cases he)]; exact he)
  have h_13 := hR.ext hxk_12
  obtain ⟨nox_14, ox_14, tx_14, kcx_14, szx_14, fkx_14, fwx_14, hBx_14⟩ := h_13.bk hik_9
  obtain ⟨-, -, -, -, hsax_14, hsbx_14⟩ := id hBx_14
  show W p l e R s m args below meth c H locs _ _ _ (F0 m 21 ls [.ref q_1, .ref h0])
  refine x_callV hC hw (lv_size hl) (c_X3_beginWalk l G h_13 (y := q_1) ⟨(p0).toNat, _, _, _, _, _, _, hik_9, hVk_12⟩) gX3_walk_X3_beginWalk rfl dv_X3_beginWalk h_13.1 rfl rfl (Nat.le_of_ble_eq_true rfl) (by rw [hRf]; decide) (by rw [hRl]; decide) (by omega) (by omega) dX3_walk_21 (fun r9 M_15 H locs hq hw => ?_)
  obtain ⟨z_17, rfl, hz_17, wk_16, hRk_16⟩ := hq
  show W p l e R s m args below meth c H locs _ _ _ (F0 m 24 ls [.int (iN (z_17))])
  exact vx_ret (x_iret hC hw dX3_walk_24 (by omega) (by omega) ⟨(iN (z_17)).toInt, by simp only [iN_asI], iN_rng _, ⟨_, _, _, _, _, _, _, _, _, _, hRk_16⟩⟩)
set_option maxHeartbeats 4000000 in
set_option maxRecDepth 100000 in
theorem c_X3_viewWalk (l : Launch) (G : xG) {M : HM} (hst : l.stackTraces = false) {h0 bs vs : Nat} {og : Option Nat} {kk kv rf : Int32} {qb qk qv : Nat → Nat} {fb fv : Nat → Option Nat} (hR : RGx G M h0 bs vs og kk kv rf qb qk qv fb fv) {p0 : Int} (hp0 : -2147483648 ≤ p0 ∧ p0 ≤ 2147483647) : xMetX l G yX3_viewWalk wsX3_viewWalk 7 111 2 11 [.ref h0, .int (iN (p0))] M (fun r M1 => ∃ z : Int, r = some (.int (iN z)) ∧ (-2147483648 ≤ z ∧ z ≤ 2147483647) ∧ RG G M1 h0 rf) (fun E M1 => E ∈ [xIO] ∧ RG G M1 h0 rf) := by
  refine x_introX (cc := cX3_viewWalk) (maxL := 2) (ret := (some .int)) (by decide +kernel) rfl (Nat.le_of_ble_eq_true rfl) ?_
  intro p e R s m args below meth c ls hRf hRc hRs hRl htab hC hw hl
  have hl : lv_has ls 2 [(0, .ref h0), (1, .int (iN (p0)))] := hl
  refine lv_aload_n hC.1 hC.2.1 dX3_viewWalk_0 rfl (lv_at hl 0 rfl) ?_
  refine lv_aload_n hC.1 hC.2.1 dX3_viewWalk_1 rfl (lv_at hl 0 rfl) ?_
  refine lv_iload_n hC.1 hC.2.1 dX3_viewWalk_2 rfl (lv_at hl 1 rfl) ?_
  refine x_callVX hC hw (lv_size hl) (c_X3_viewAt l G hst hR (p0 := p0) (by omega)) gX3_viewWalk_X3_viewAt rfl dv_X3_viewAt hR.1 rfl rfl (Nat.le_of_ble_eq_true rfl) (by rw [hRf]; decide) (by rw [hRl]; decide) (by omega) (by omega) dX3_viewWalk_3 (fun E ce q9 M_1 H locs hqx hw hcell hcv hcls => ?_) (fun r9 M_1 H locs hq hw => ?_)
  · rw [hqx.2] at hw
    exact x_outX hC hw htab hcell hcv hcls (by omega) (by omega) ⟨(show ∀ x ∈ [xIO], x ∈ [xIO] from by decide +kernel) E hqx.1, ⟨_, _, _, _, _, _, _, _, _, _, hR⟩⟩
  obtain ⟨y_3, rfl, hM9, hk_2, hk_2b, hyk_2⟩ := hq
  rw [hM9] at hw
  obtain ⟨ix_4, lox_4, upx_4, swx_4, ewx_4, lix_4, uix_4, hix_4, hVx_4⟩ := (hR.vw (show (p0).toNat < 4 by omega) hyk_2)
  have hlix_4 := hVx_4.2.1
  have huix_4 := hVx_4.2.2
  obtain ⟨nox_5, ox_5, tx_5, kcx_5, szx_5, fkx_5, fwx_5, hBx_5⟩ := hR.bk hix_4
  obtain ⟨-, -, -, -, hsax_5, hsbx_5⟩ := id hBx_5
  show W p l e R s m args below meth c H locs _ _ _ (F0 m 6 ls [.ref y_3, .ref h0])
  refine x_callV hC hw (lv_size hl) (c_X3_beginWalk l G hR (y := y_3) ⟨ix_4, _, _, _, _, _, _, hix_4, hVx_4⟩) gX3_viewWalk_X3_beginWalk rfl dv_X3_beginWalk hR.1 rfl rfl (Nat.le_of_ble_eq_true rfl) (by rw [hRf]; decide) (by rw [hRl]; decide) (by omega) (by omega) dX3_viewWalk_6 (fun r9 M_6 H locs hq hw => ?_)
  obtain ⟨z_8, rfl, hz_8, wk_7, hRk_7⟩ := hq
  show W p l e R s m args below meth c H locs _ _ _ (F0 m 9 ls [.int (iN (z_8))])
  exact vx_ret (x_iret hC hw dX3_viewWalk_9 (by omega) (by omega) ⟨(iN (z_8)).toInt, by simp only [iN_asI], iN_rng _, ⟨_, _, _, _, _, _, _, _, _, _, hRk_7⟩⟩)
set_option maxHeartbeats 4000000 in
set_option maxRecDepth 100000 in
theorem c_X3_step (l : Launch) (G : xG) {M : HM} (hst : l.stackTraces = false) {h0 bs vs : Nat} {og : Option Nat} {kk kv rf : Int32} {qb qk qv : Nat → Nat} {fb fv : Nat → Option Nat} (hR : RGx G M h0 bs vs og kk kv rf qb qk qv fb fv) : xMetX l G yX3_step wsX3_step 7 110 1 6 [.ref h0] M (fun r M1 => ∃ z : Int, r = some (.int (iN z)) ∧ (-2147483648 ≤ z ∧ z ≤ 2147483647) ∧ RG G M1 h0 rf) (fun E M1 => E ∈ [xIS] ∧ RG G M1 h0 rf) := by
  refine x_introX (cc := cX3_step) (maxL := 1) (ret := (some .int)) (by decide +kernel) rfl (Nat.le_of_ble_eq_true rfl) ?_
  intro p e R s m args below meth c ls hRf hRc hRs hRl htab hC hw hl
  have hl : lv_has ls 1 [(0, .ref h0)] := hl
  refine lv_aload_n hC.1 hC.2.1 dX3_step_0 rfl (lv_at hl 0 rfl) ?_
  refine x_callVX hC hw (lv_size hl) (c_X3_soundWalk l G hst hR) gX3_step_X3_soundWalk rfl dv_X3_soundWalk hR.1 rfl rfl (Nat.le_of_ble_eq_true rfl) (by rw [hRf]; decide) (by rw [hRl]; decide) (by omega) (by omega) dX3_step_1 (fun E ce q9 M_1 H locs hqx hw hcell hcv hcls => ?_) (fun r9 M_1 H locs hq hw => ?_)
  · rw [hqx.2] at hw
    exact x_outX hC hw htab hcell hcv hcls (by omega) (by omega) ⟨(show ∀ x ∈ [xIS], x ∈ [xIS] from by decide +kernel) E hqx.1, ⟨_, _, _, _, _, _, _, _, _, _, hR⟩⟩
  obtain ⟨w_2, rfl, hM9, hog_w_2⟩ := hq
  rw [hM9] at hw
  subst hog_w_2
  obtain ⟨yx_3, psx_3, tx_3, kcx_3, cdx_3, hWx_3, hEx_3⟩ := hR.wk rfl
  have hcdx_3 := hWx_3.2
  obtain ⟨ix_4, lox_4, upx_4, swx_4, ewx_4, lix_4, uix_4, hix_4, hVx_4⟩ := hEx_3
  have hlix_4 := hVx_4.2.1
  have huix_4 := hVx_4.2.2
  obtain ⟨nox_5, ox_5, tx_5, kcx_5, szx_5, fkx_5, fwx_5, hBx_5⟩ := hR.bk hix_4
  obtain ⟨-, -, -, -, hsax_5, hsbx_5⟩ := id hBx_5
  show W p l e R s m args below meth c H locs _ _ _ (F0 m 4 ls [.ref w_2])
  refine x_callV hC hw (lv_size hl) (c_X2_advance l G hWx_3 hVx_4 hBx_5) gX3_step_X2_advance rfl dv_X2_advance hWx_3.1 rfl rfl (Nat.le_of_ble_eq_true rfl) (by rw [hRf]; decide) (by rw [hRl]; decide) (by omega) (by omega) dX3_step_4 (fun r9 M_6 H locs hq hw => ?_)
  obtain ⟨z_8, rfl, hz_8, ou_7, tu_7, kcu_7, szu_7, fku_7, fvu_7, psu_7, ttu_7, kku_7, cdu_7, hWu_7, hBu_7, fru_7⟩ := hq
  obtain ⟨-, -, -, -, hsau_7, hsbu_7⟩ := id hBu_7
  have hcdu_7 := hWu_7.2
  have hRu_7 : RGx G M_6 h0 bs vs (some w_2) kk kv rf qb qk qv fb fv := hR.walk hix_4 hBx_5 hWx_3 hWu_7 hBu_7 fru_7
  obtain ⟨yx_9, psx_9, tx_9, kcx_9, cdx_9, hWx_9, hEx_9⟩ := hRu_7.wk rfl
  have hcdx_9 := hWx_9.2
  obtain ⟨ix_10, lox_10, upx_10, swx_10, ewx_10, lix_10, uix_10, hix_10, hVx_10⟩ := hEx_9
  have hlix_10 := hVx_10.2.1
  have huix_10 := hVx_10.2.2
  obtain ⟨nox_11, ox_11, tx_11, kcx_11, szx_11, fkx_11, fwx_11, hBx_11⟩ := hRu_7.bk hix_10
  obtain ⟨-, -, -, -, hsax_11, hsbx_11⟩ := id hBx_11
  show W p l e R s m args below meth c H locs _ _ _ (F0 m 7 ls [.int (iN (z_8))])
  exact vx_ret (x_iret hC hw dX3_step_7 (by omega) (by omega) ⟨(iN (z_8)).toInt, by simp only [iN_asI], iN_rng _, ⟨_, _, _, _, _, _, _, _, _, _, hRu_7⟩⟩)
set_option maxHeartbeats 4000000 in
set_option maxRecDepth 100000 in
theorem c_X3_write (l : Launch) (G : xG) {M : HM} (hst : l.stackTraces = false) {h0 bs vs : Nat} {og : Option Nat} {kk kv rf : Int32} {qb qk qv : Nat → Nat} {fb fv : Nat → Option Nat} (hR : RGx G M h0 bs vs og kk kv rf qb qk qv fb fv) {p0 : Int} (hp0 : -2147483648 ≤ p0 ∧ p0 ≤ 2147483647) : xMetX l G yX3_write wsX3_write 7 110 3 18 [.ref h0, .int (iN (p0))] M (fun r M1 => ∃ z : Int, r = some (.int (iN z)) ∧ (-2147483648 ≤ z ∧ z ≤ 2147483647) ∧ RG G M1 h0 rf) (fun E M1 => E ∈ [xIA, xIS] ∧ RG G M1 h0 rf) := by
  refine x_introX (cc := cX3_write) (maxL := 4) (ret := (some .int)) (by decide +kernel) rfl (Nat.le_of_ble_eq_true rfl) ?_
  intro p e R s m args below meth c ls hRf hRc hRs hRl htab hC hw hl
  have hl : lv_has ls 4 [(0, .ref h0), (1, .int (iN (p0)))] := hl
  refine lv_iload_n hC.1 hC.2.1 dX3_write_0 rfl (lv_at hl 1 rfl) ?_
  refine x_callSX hC hw (lv_size hl) (c_X3_checkValue l G (M := M) hst (p0 := p0) (by omega)) gX3_write_X3_checkValue rfl dv_X3_checkValue_s rfl (Nat.le_of_ble_eq_true rfl) (by rw [hRf]; decide) (by rw [hRl]; decide) (by omega) (by omega) dX3_write_1 (fun E ce q9 M_1 H locs hqx hw hcell hcv hcls => ?_) (fun r9 M_1 H locs hq hw => ?_)
  · rw [hqx.2] at hw
    exact x_outX hC hw htab hcell hcv hcls (by omega) (by omega) ⟨(show ∀ x ∈ [xIA], x ∈ [xIA, xIS] from by decide +kernel) E hqx.1, ⟨_, _, _, _, _, _, _, _, _, _, hR⟩⟩
  obtain ⟨rfl, hM9, hk_2⟩ := hq
  rw [hM9] at hw
  show W p l e R s m args below meth c H locs _ _ _ (F0 m 4 ls [])
  refine lv_aload_n hC.1 hC.2.1 dX3_write_4 rfl (lv_at hl 0 rfl) ?_
  refine x_callVX hC hw (lv_size hl) (c_X3_soundWalk l G hst hR) gX3_write_X3_soundWalk rfl dv_X3_soundWalk hR.1 rfl rfl (Nat.le_of_ble_eq_true rfl) (by rw [hRf]; decide) (by rw [hRl]; decide) (by omega) (by omega) dX3_write_5 (fun E ce q9 M_3 H locs hqx hw hcell hcv hcls => ?_) (fun r9 M_3 H locs hq hw => ?_)
  · rw [hqx.2] at hw
    exact x_outX hC hw htab hcell hcv hcls (by omega) (by omega) ⟨(show ∀ x ∈ [xIS], x ∈ [xIA, xIS] from by decide +kernel) E hqx.1, ⟨_, _, _, _, _, _, _, _, _, _, hR⟩⟩
  obtain ⟨w_4, rfl, hM9, hog_w_4⟩ := hq
  rw [hM9] at hw
  subst hog_w_4
  obtain ⟨yx_5, psx_5, tx_5, kcx_5, cdx_5, hWx_5, hEx_5⟩ := hR.wk rfl
  have hcdx_5 := hWx_5.2
  obtain ⟨ix_6, lox_6, upx_6, swx_6, ewx_6, lix_6, uix_6, hix_6, hVx_6⟩ := hEx_5
  have hlix_6 := hVx_6.2.1
  have huix_6 := hVx_6.2.2
  obtain ⟨nox_7, ox_7, tx_7, kcx_7, szx_7, fkx_7, fwx_7, hBx_7⟩ := hR.bk hix_6
  obtain ⟨-, -, -, -, hsax_7, hsbx_7⟩ := id hBx_7
  show W p l e R s m args below meth c H locs _ _ _ (F0 m 8 ls [.ref w_4])
  refine lv_astore_n (lv' := [(2, .ref w_4), (0, .ref h0), (1, .int (iN (p0)))]) hC.1 hC.2.1 dX3_write_8 rfl hl (by decide) rfl (fun ls hl => ?_)
  refine lv_aload_n hC.1 hC.2.1 dX3_write_9 rfl (lv_at hl 0 rfl) ?_
  refine x_callV hC hw (lv_size hl) (c_X2_keyAtHand l G hWx_5 hVx_6 hBx_7) gX3_write_X2_keyAtHand rfl dv_X2_keyAtHand hWx_5.1 rfl rfl (Nat.le_of_ble_eq_true rfl) (by rw [hRf]; decide) (by rw [hRl]; decide) (by omega) (by omega) dX3_write_10 (fun r9 M_8 H locs hq hw => ?_)
  obtain ⟨z_9, rfl, hM9, hz_9⟩ := hq
  rw [hM9] at hw
  show W p l e R s m args below meth c H locs _ _ _ (F0 m 13 ls [.int (iN (z_9))])
  refine lv_istore_n (lv' := [(3, .int (iN (z_9))), (2, .ref w_4), (0, .ref h0), (1, .int (iN (p0)))]) hC.1 hC.2.1 dX3_write_13 rfl hl (by decide) rfl (fun ls hl => ?_)
  refine lv_iload_n hC.1 hC.2.1 dX3_write_14 rfl (lv_at hl 0 rfl) ?_
  refine x_sipush hC dX3_write_15 (by decide +kernel) ?_
  refine x_icmp_ne (tgt := 31) hC ⟨by omega, by omega⟩ ⟨by omega, by omega⟩ dX3_write_18 (by decide) (fun c_10 => ?_) (fun c_10 => ?_)
  · refine lv_aload_n hC.1 hC.2.1 dX3_write_31 rfl (lv_at hl 1 rfl) ?_
    refine x_callV hC hw (lv_size hl) (c_X2_book l G hWx_5 hVx_6 hBx_7) gX3_write_X2_book rfl dv_X2_book hWx_5.1 rfl rfl (Nat.le_of_ble_eq_true rfl) (by rw [hRf]; decide) (by rw [hRl]; decide) (by omega) (by omega) dX3_write_32 (fun r9 M_11 H locs hq hw => ?_)
    obtain ⟨rfl, hM9⟩ := hq
    rw [hM9] at hw
    show W p l e R s m args below meth c H locs _ _ _ (F0 m 35 ls [.ref (qb ix_6)])
    refine lv_iload_n hC.1 hC.2.1 dX3_write_35 rfl (lv_at hl 0 rfl) ?_
    refine lv_iload_n hC.1 hC.2.1 dX3_write_36 rfl (lv_at hl 3 rfl) ?_
    refine x_callV hC hw (lv_size hl) (c_X0_enter l G hBx_7 (p0 := z_9) (by omega) (p1 := p0) (by omega)) gX3_write_X0_enter rfl dv_X0_enter hBx_7.1 rfl rfl (Nat.le_of_ble_eq_true rfl) (by rw [hRf]; decide) (by rw [hRl]; decide) (by omega) (by omega) dX3_write_37 (fun r9 M_12 H locs hq hw => ?_)
    obtain ⟨z_14, rfl, hz_14, ou_13, tu_13, kcu_13, szu_13, fku_13, fvu_13, hBu_13, smu_13⟩ := hq
    obtain ⟨-, -, -, -, hsau_13, hsbu_13⟩ := id hBu_13
    have sm_15 := (xSm.rf (M := M) (b := (qb ix_6)) (k := (qk ix_6)) (v := (qv ix_6))).tr (smu_13)
    have h_16 := hR.book hix_6 hBx_7 hBu_13 smu_13
    have h_17 : Vw _ yx_5 (qb ix_6) lox_6 upx_6 swx_6 ewx_6 lix_6 uix_6 := And.intro (x_kB hBx_7 smu_13 (by decide) hVx_6.1) hVx_6.2
    have h_18 : Wk _ w_4 yx_5 psx_5 tx_5 kcx_5 cdx_5 := And.intro (x_kB hBx_7 smu_13 (by decide) hWx_5.1) hWx_5.2
    show W p l e R s m args below meth c H locs _ _ _ (F0 m 40 ls [.int (iN (z_14))])
    exact vx_ret (x_iret hC hw dX3_write_40 (by omega) (by omega) ⟨(iN (z_14)).toInt, by simp only [iN_asI], iN_rng _, ⟨_, _, _, _, _, _, _, _, _, _, h_16⟩⟩)
  · exact x_throwS (cls := "java/lang/IllegalStateException") (text := "nothing is at hand") (names := ["java/lang/RuntimeException", "java/lang/Exception"]) hC hw hst htab (lv_size hl) (by decide +kernel) (by decide +kernel) (by decide +kernel) (by decide +kernel) (by decide +kernel) (by decide +kernel) (by decide +kernel) (xlit_Rangeledger_190) (by decide +kernel) dX3_write_21 dX3_write_24 dX3_write_25 dX3_write_27 dX3_write_30 (by rw [hRf]; decide) (by rw [hRl]; exact Nat.le_of_ble_eq_true rfl) (by omega) (by omega) (by omega) (by omega) ⟨by decide +kernel, ⟨_, _, _, _, _, _, _, _, _, _, hR⟩⟩
set_option maxHeartbeats 4000000 in
set_option maxRecDepth 100000 in
theorem c_X3_drop (l : Launch) (G : xG) {M : HM} (hst : l.stackTraces = false) {h0 bs vs : Nat} {og : Option Nat} {kk kv rf : Int32} {qb qk qv : Nat → Nat} {fb fv : Nat → Option Nat} (hR : RGx G M h0 bs vs og kk kv rf qb qk qv fb fv) : xMetX l G yX3_drop wsX3_drop 7 112 2 12 [.ref h0] M (fun r M1 => ∃ z : Int, r = some (.int (iN z)) ∧ (-2147483648 ≤ z ∧ z ≤ 2147483647) ∧ RG G M1 h0 rf) (fun E M1 => E ∈ [xIS] ∧ RG G M1 h0 rf) := by
  refine x_introX (cc := cX3_drop) (maxL := 2) (ret := (some .int)) (by decide +kernel) rfl (Nat.le_of_ble_eq_true rfl) ?_
  intro p e R s m args below meth c ls hRf hRc hRs hRl htab hC hw hl
  have hl : lv_has ls 2 [(0, .ref h0)] := hl
  refine lv_aload_n hC.1 hC.2.1 dX3_drop_0 rfl (lv_at hl 0 rfl) ?_
  refine x_callVX hC hw (lv_size hl) (c_X3_soundWalk l G hst hR) gX3_drop_X3_soundWalk rfl dv_X3_soundWalk hR.1 rfl rfl (Nat.le_of_ble_eq_true rfl) (by rw [hRf]; decide) (by rw [hRl]; decide) (by omega) (by omega) dX3_drop_1 (fun E ce q9 M_1 H locs hqx hw hcell hcv hcls => ?_) (fun r9 M_1 H locs hq hw => ?_)
  · rw [hqx.2] at hw
    exact x_outX hC hw htab hcell hcv hcls (by omega) (by omega) ⟨(show ∀ x ∈ [xIS], x ∈ [xIS] from by decide +kernel) E hqx.1, ⟨_, _, _, _, _, _, _, _, _, _, hR⟩⟩
  obtain ⟨w_2, rfl, hM9, hog_w_2⟩ := hq
  rw [hM9] at hw
  subst hog_w_2
  obtain ⟨yx_3, psx_3, tx_3, kcx_3, cdx_3, hWx_3, hEx_3⟩ := hR.wk rfl
  have hcdx_3 := hWx_3.2
  obtain ⟨ix_4, lox_4, upx_4, swx_4, ewx_4, lix_4, uix_4, hix_4, hVx_4⟩ := hEx_3
  have hlix_4 := hVx_4.2.1
  have huix_4 := hVx_4.2.2
  obtain ⟨nox_5, ox_5, tx_5, kcx_5, szx_5, fkx_5, fwx_5, hBx_5⟩ := hR.bk hix_4
  obtain ⟨-, -, -, -, hsax_5, hsbx_5⟩ := id hBx_5
  show W p l e R s m args below meth c H locs _ _ _ (F0 m 4 ls [.ref w_2])
  refine lv_astore_n (lv' := [(1, .ref w_2), (0, .ref h0)]) hC.1 hC.2.1 dX3_drop_4 rfl hl (by decide) rfl (fun ls hl => ?_)
  refine lv_aload_n hC.1 hC.2.1 dX3_drop_5 rfl (lv_at hl 0 rfl) ?_
  refine x_callV hC hw (lv_size hl) (c_X2_canDrop l G hWx_3 hVx_4 hBx_5) gX3_drop_X2_canDrop rfl dv_X2_canDrop hWx_3.1 rfl rfl (Nat.le_of_ble_eq_true rfl) (by rw [hRf]; decide) (by rw [hRl]; decide) (by omega) (by omega) dX3_drop_6 (fun r9 M_6 H locs hq hw => ?_)
  obtain ⟨rfl, hM9⟩ := hq
  rw [hM9] at hw
  show W p l e R s m args below meth c H locs _ _ _ (F0 m 9 ls [.int (iN (cdx_3))])
  refine x_if_ne (tgt := 22) hC ⟨by omega, by omega⟩ dX3_drop_9 (by decide) (fun c_7 => ?_) (fun c_7 => ?_)
  · refine lv_aload_n hC.1 hC.2.1 dX3_drop_22 rfl (lv_at hl 0 rfl) ?_
    refine x_callV hC hw (lv_size hl) (c_X2_dropLastStep l G hWx_3 hVx_4 hBx_5) gX3_drop_X2_dropLastStep rfl dv_X2_dropLastStep hWx_3.1 rfl rfl (Nat.le_of_ble_eq_true rfl) (by rw [hRf]; decide) (by rw [hRl]; decide) (by omega) (by omega) dX3_drop_23 (fun r9 M_8 H locs hq hw => ?_)
    obtain ⟨rfl, ou_9, tu_9, kcu_9, szu_9, fku_9, fvu_9, psu_9, ttu_9, kku_9, cdu_9, hWu_9, hBu_9, fru_9⟩ := hq
    obtain ⟨-, -, -, -, hsau_9, hsbu_9⟩ := id hBu_9
    have hcdu_9 := hWu_9.2
    have hRu_9 : RGx G M_8 h0 bs vs (some w_2) kk kv rf qb qk qv fb fv := hR.walk hix_4 hBx_5 hWx_3 hWu_9 hBu_9 fru_9
    obtain ⟨yx_10, psx_10, tx_10, kcx_10, cdx_10, hWx_10, hEx_10⟩ := hRu_9.wk rfl
    have hcdx_10 := hWx_10.2
    obtain ⟨ix_11, lox_11, upx_11, swx_11, ewx_11, lix_11, uix_11, hix_11, hVx_11⟩ := hEx_10
    have hlix_11 := hVx_11.2.1
    have huix_11 := hVx_11.2.2
    obtain ⟨nox_12, ox_12, tx_12, kcx_12, szx_12, fkx_12, fwx_12, hBx_12⟩ := hRu_9.bk hix_11
    obtain ⟨-, -, -, -, hsax_12, hsbx_12⟩ := id hBx_12
    show W p l e R s m args below meth c H locs _ _ _ (F0 m 26 ls [])
    refine lv_aload_n hC.1 hC.2.1 dX3_drop_26 rfl (lv_at hl 0 rfl) ?_
    refine x_callV hC hw (lv_size hl) (c_X2_book l G hWx_10 hVx_11 hBx_12) gX3_drop_X2_book rfl dv_X2_book hWx_10.1 rfl rfl (Nat.le_of_ble_eq_true rfl) (by rw [hRf]; decide) (by rw [hRl]; decide) (by omega) (by omega) dX3_drop_27 (fun r9 M_13 H locs hq hw => ?_)
    obtain ⟨rfl, hM9⟩ := hq
    rw [hM9] at hw
    show W p l e R s m args below meth c H locs _ _ _ (F0 m 30 ls [.ref (qb ix_11)])
    refine x_callV hC hw (lv_size hl) (c_X0_size l G hBx_12) gX3_drop_X0_size rfl dv_X0_size hBx_12.1 rfl rfl (Nat.le_of_ble_eq_true rfl) (by rw [hRf]; decide) (by rw [hRl]; decide) (by omega) (by omega) dX3_drop_30 (fun r9 M_14 H locs hq hw => ?_)
    obtain ⟨rfl, hM9⟩ := hq
    rw [hM9] at hw
    show W p l e R s m args below meth c H locs _ _ _ (F0 m 33 ls [.int (iN (szx_12))])
    exact vx_ret (x_iret hC hw dX3_drop_33 (by omega) (by omega) ⟨(iN (szx_12)).toInt, by simp only [iN_asI], iN_rng _, ⟨_, _, _, _, _, _, _, _, _, _, hRu_9⟩⟩)
  · exact x_throwS (cls := "java/lang/IllegalStateException") (text := "no step came to a pair that is not dropped") (names := ["java/lang/RuntimeException", "java/lang/Exception"]) hC hw hst htab (lv_size hl) (by decide +kernel) (by decide +kernel) (by decide +kernel) (by decide +kernel) (by decide +kernel) (by decide +kernel) (by decide +kernel) (xlit_Rangeledger_196) (by decide +kernel) dX3_drop_12 dX3_drop_15 dX3_drop_16 dX3_drop_18 dX3_drop_21 (by rw [hRf]; decide) (by rw [hRl]; exact Nat.le_of_ble_eq_true rfl) (by omega) (by omega) (by omega) (by omega) ⟨by decide +kernel, ⟨_, _, _, _, _, _, _, _, _, _, hR⟩⟩
set_option maxHeartbeats 4000000 in
set_option maxRecDepth 100000 in
theorem c_X3_same (l : Launch) (G : xG) {M : HM} (hst : l.stackTraces = false) {h0 bs vs : Nat} {og : Option Nat} {kk kv rf : Int32} {qb qk qv : Nat → Nat} {fb fv : Nat → Option Nat} (hR : RGx G M h0 bs vs og kk kv rf qb qk qv fb fv) {p0 : Int} (hp0 : -2147483648 ≤ p0 ∧ p0 ≤ 2147483647) {p1 : Int} (hp1 : -2147483648 ≤ p1 ∧ p1 ≤ 2147483647) : xMetX l G yX3_same wsX3_same 7 113 2 12 [.ref h0, .int (iN (p0)), .int (iN (p1))] M (fun r M1 => ∃ z : Int, r = some (.int (iN z)) ∧ (z = 0 ∨ z = 1) ∧ RG G M1 h0 rf) (fun E M1 => E ∈ [xIO] ∧ RG G M1 h0 rf) := by
  refine x_introX (cc := cX3_same) (maxL := 4) (ret := (some .boolean)) (by decide +kernel) rfl (Nat.le_of_ble_eq_true rfl) ?_
  intro p e R s m args below meth c ls hRf hRc hRs hRl htab hC hw hl
  have hl : lv_has ls 4 [(0, .ref h0), (1, .int (iN (p0))), (2, .int (iN (p1)))] := hl
  refine lv_aload_n hC.1 hC.2.1 dX3_same_0 rfl (lv_at hl 0 rfl) ?_
  refine lv_iload_n hC.1 hC.2.1 dX3_same_1 rfl (lv_at hl 1 rfl) ?_
  refine x_callVX hC hw (lv_size hl) (c_X3_bookAt l G hst hR (p0 := p0) (by omega)) gX3_same_X3_bookAt rfl dv_X3_bookAt hR.1 rfl rfl (Nat.le_of_ble_eq_true rfl) (by rw [hRf]; decide) (by rw [hRl]; decide) (by omega) (by omega) dX3_same_2 (fun E ce q9 M_1 H locs hqx hw hcell hcv hcls => ?_) (fun r9 M_1 H locs hq hw => ?_)
  · rw [hqx.2] at hw
    exact x_outX hC hw htab hcell hcv hcls (by omega) (by omega) ⟨(show ∀ x ∈ [xIO], x ∈ [xIO] from by decide +kernel) E hqx.1, ⟨_, _, _, _, _, _, _, _, _, _, hR⟩⟩
  obtain ⟨rfl, hM9, hk_2, hk_2b⟩ := hq
  rw [hM9] at hw
  have hik_2 : (p0).toNat < 3 := by omega
  obtain ⟨nox_3, ox_3, tx_3, kcx_3, szx_3, fkx_3, fwx_3, hBx_3⟩ := hR.bk hik_2
  obtain ⟨-, -, -, -, hsax_3, hsbx_3⟩ := id hBx_3
  show W p l e R s m args below meth c H locs _ _ _ (F0 m 5 ls [.ref (qb ((p0).toNat))])
  refine lv_astore_n (lv' := [(3, .ref (qb ((p0).toNat))), (0, .ref h0), (1, .int (iN (p0))), (2, .int (iN (p1)))]) hC.1 hC.2.1 dX3_same_5 rfl hl (by decide) rfl (fun ls hl => ?_)
  refine lv_aload_n hC.1 hC.2.1 dX3_same_6 rfl (lv_at hl 0 rfl) ?_
  refine lv_aload_n hC.1 hC.2.1 dX3_same_7 rfl (lv_at hl 1 rfl) ?_
  refine lv_iload_n hC.1 hC.2.1 dX3_same_8 rfl (lv_at hl 3 rfl) ?_
  refine x_callVX hC hw (lv_size hl) (c_X3_bookAt l G hst hR (p0 := p1) (by omega)) gX3_same_X3_bookAt rfl dv_X3_bookAt hR.1 rfl rfl (Nat.le_of_ble_eq_true rfl) (by rw [hRf]; decide) (by rw [hRl]; decide) (by omega) (by omega) dX3_same_9 (fun E ce q9 M_4 H locs hqx hw hcell hcv hcls => ?_) (fun r9 M_4 H locs hq hw => ?_)
  · rw [hqx.2] at hw
    exact x_outX hC hw htab hcell hcv hcls (by omega) (by omega) ⟨(show ∀ x ∈ [xIO], x ∈ [xIO] from by decide +kernel) E hqx.1, ⟨_, _, _, _, _, _, _, _, _, _, hR⟩⟩
  obtain ⟨rfl, hM9, hk_5, hk_5b⟩ := hq
  rw [hM9] at hw
  have hik_5 : (p1).toNat < 3 := by omega
  obtain ⟨nox_6, ox_6, tx_6, kcx_6, szx_6, fkx_6, fwx_6, hBx_6⟩ := hR.bk hik_5
  obtain ⟨-, -, -, -, hsax_6, hsbx_6⟩ := id hBx_6
  show W p l e R s m args below meth c H locs _ _ _ (F0 m 12 ls [.ref (qb ((p1).toNat)), .ref (qb ((p0).toNat))])
  refine x_callV hC hw (lv_size hl) (c_X0_isLike l G hBx_3 hBx_6) gX3_same_X0_isLike rfl dv_X0_isLike hBx_3.1 rfl rfl (Nat.le_of_ble_eq_true rfl) (by rw [hRf]; decide) (by rw [hRl]; decide) (by omega) (by omega) dX3_same_12 (fun r9 M_7 H locs hq hw => ?_)
  obtain ⟨z_8, rfl, hM9, hz_8⟩ := hq
  rw [hM9] at hw
  show W p l e R s m args below meth c H locs _ _ _ (F0 m 15 ls [.int (iN (z_8))])
  exact vx_ret (x_zret hC hw (by omega) dX3_same_15 (by omega) (by omega) ⟨z_8, rfl, by omega, ⟨_, _, _, _, _, _, _, _, _, _, hR⟩⟩)
set_option maxHeartbeats 4000000 in
set_option maxRecDepth 100000 in
theorem c_X3_viewGet (l : Launch) (G : xG) {M : HM} (hst : l.stackTraces = false) {h0 bs vs : Nat} {og : Option Nat} {kk kv rf : Int32} {qb qk qv : Nat → Nat} {fb fv : Nat → Option Nat} (hR : RGx G M h0 bs vs og kk kv rf qb qk qv fb fv) {p0 : Int} (hp0 : -2147483648 ≤ p0 ∧ p0 ≤ 2147483647) {p1 : Int} (hp1 : -2147483648 ≤ p1 ∧ p1 ≤ 2147483647) : xMetX l G yX3_viewGet wsX3_viewGet 7 111 2 12 [.ref h0, .int (iN (p0)), .int (iN (p1))] M (fun r M1 => ∃ z : Int, r = some (.int (iN z)) ∧ (-2147483648 ≤ z ∧ z ≤ 2147483647) ∧ RG G M1 h0 rf) (fun E M1 => E ∈ [xIO, xIA] ∧ RG G M1 h0 rf) := by
  refine x_introX (cc := cX3_viewGet) (maxL := 4) (ret := (some .int)) (by decide +kernel) rfl (Nat.le_of_ble_eq_true rfl) ?_
  intro p e R s m args below meth c ls hRf hRc hRs hRl htab hC hw hl
  have hl : lv_has ls 4 [(0, .ref h0), (1, .int (iN (p0))), (2, .int (iN (p1)))] := hl
  refine lv_aload_n hC.1 hC.2.1 dX3_viewGet_0 rfl (lv_at hl 0 rfl) ?_
  refine lv_iload_n hC.1 hC.2.1 dX3_viewGet_1 rfl (lv_at hl 1 rfl) ?_
  refine x_callVX hC hw (lv_size hl) (c_X3_viewAt l G hst hR (p0 := p0) (by omega)) gX3_viewGet_X3_viewAt rfl dv_X3_viewAt hR.1 rfl rfl (Nat.le_of_ble_eq_true rfl) (by rw [hRf]; decide) (by rw [hRl]; decide) (by omega) (by omega) dX3_viewGet_2 (fun E ce q9 M_1 H locs hqx hw hcell hcv hcls => ?_) (fun r9 M_1 H locs hq hw => ?_)
  · rw [hqx.2] at hw
    exact x_outX hC hw htab hcell hcv hcls (by omega) (by omega) ⟨(show ∀ x ∈ [xIO], x ∈ [xIO, xIA] from by decide +kernel) E hqx.1, ⟨_, _, _, _, _, _, _, _, _, _, hR⟩⟩
  obtain ⟨y_3, rfl, hM9, hk_2, hk_2b, hyk_2⟩ := hq
  rw [hM9] at hw
  obtain ⟨ix_4, lox_4, upx_4, swx_4, ewx_4, lix_4, uix_4, hix_4, hVx_4⟩ := (hR.vw (show (p0).toNat < 4 by omega) hyk_2)
  have hlix_4 := hVx_4.2.1
  have huix_4 := hVx_4.2.2
  obtain ⟨nox_5, ox_5, tx_5, kcx_5, szx_5, fkx_5, fwx_5, hBx_5⟩ := hR.bk hix_4
  obtain ⟨-, -, -, -, hsax_5, hsbx_5⟩ := id hBx_5
  show W p l e R s m args below meth c H locs _ _ _ (F0 m 5 ls [.ref y_3])
  refine lv_astore_n (lv' := [(3, .ref y_3), (0, .ref h0), (1, .int (iN (p0))), (2, .int (iN (p1)))]) hC.1 hC.2.1 dX3_viewGet_5 rfl hl (by decide) rfl (fun ls hl => ?_)
  refine lv_iload_n hC.1 hC.2.1 dX3_viewGet_6 rfl (lv_at hl 3 rfl) ?_
  refine x_callSX hC hw (lv_size hl) (c_X3_checkKey l G (M := M) hst (p0 := p1) (by omega)) gX3_viewGet_X3_checkKey rfl dv_X3_checkKey_s rfl (Nat.le_of_ble_eq_true rfl) (by rw [hRf]; decide) (by rw [hRl]; decide) (by omega) (by omega) dX3_viewGet_7 (fun E ce q9 M_6 H locs hqx hw hcell hcv hcls => ?_) (fun r9 M_6 H locs hq hw => ?_)
  · rw [hqx.2] at hw
    exact x_outX hC hw htab hcell hcv hcls (by omega) (by omega) ⟨(show ∀ x ∈ [xIA], x ∈ [xIO, xIA] from by decide +kernel) E hqx.1, ⟨_, _, _, _, _, _, _, _, _, _, hR⟩⟩
  obtain ⟨rfl, hM9, hk_7⟩ := hq
  rw [hM9] at hw
  show W p l e R s m args below meth c H locs _ _ _ (F0 m 10 ls [])
  refine lv_aload_n hC.1 hC.2.1 dX3_viewGet_10 rfl (lv_at hl 0 rfl) ?_
  refine lv_iload_n hC.1 hC.2.1 dX3_viewGet_11 rfl (lv_at hl 3 rfl) ?_
  refine x_callV hC hw (lv_size hl) (c_X1_isWithin l G hVx_4 hBx_5 (p0 := p1) (by omega)) gX3_viewGet_X1_isWithin rfl dv_X1_isWithin hVx_4.1 rfl rfl (Nat.le_of_ble_eq_true rfl) (by rw [hRf]; decide) (by rw [hRl]; decide) (by omega) (by omega) dX3_viewGet_12 (fun r9 M_8 H locs hq hw => ?_)
  obtain ⟨z_9, rfl, hM9, hz_9⟩ := hq
  rw [hM9] at hw
  show W p l e R s m args below meth c H locs _ _ _ (F0 m 15 ls [.int (iN (z_9))])
  refine x_if_eq (tgt := 29) hC ⟨by omega, by omega⟩ dX3_viewGet_15 (by decide) (fun c_10 => ?_) (fun c_10 => ?_)
  · refine x_sipush hC dX3_viewGet_29 (by decide +kernel) ?_
    exact vx_ret (x_iret hC hw dX3_viewGet_32 (by omega) (by omega) ⟨(iN ((-10000))).toInt, by simp only [iN_asI], iN_rng _, ⟨_, _, _, _, _, _, _, _, _, _, hR⟩⟩)
  · refine lv_aload_n hC.1 hC.2.1 dX3_viewGet_18 rfl (lv_at hl 0 rfl) ?_
    refine x_callV hC hw (lv_size hl) (c_X1_book l G hVx_4 hBx_5) gX3_viewGet_X1_book rfl dv_X1_book hVx_4.1 rfl rfl (Nat.le_of_ble_eq_true rfl) (by rw [hRf]; decide) (by rw [hRl]; decide) (by omega) (by omega) dX3_viewGet_19 (fun r9 M_11 H locs hq hw => ?_)
    obtain ⟨rfl, hM9⟩ := hq
    rw [hM9] at hw
    show W p l e R s m args below meth c H locs _ _ _ (F0 m 22 ls [.ref (qb ix_4)])
    refine lv_iload_n hC.1 hC.2.1 dX3_viewGet_22 rfl (lv_at hl 3 rfl) ?_
    refine x_callV hC hw (lv_size hl) (c_X0_valueOf l G hBx_5 (p0 := p1) (by omega)) gX3_viewGet_X0_valueOf rfl dv_X0_valueOf hBx_5.1 rfl rfl (Nat.le_of_ble_eq_true rfl) (by rw [hRf]; decide) (by rw [hRl]; decide) (by omega) (by omega) dX3_viewGet_23 (fun r9 M_12 H locs hq hw => ?_)
    obtain ⟨z_13, rfl, hM9, hz_13⟩ := hq
    rw [hM9] at hw
    show W p l e R s m args below meth c H locs _ _ _ (F0 m 26 ls [.int (iN (z_13))])
    refine lv_goto (tgt := 32) hC.1 hC.2.1 dX3_viewGet_26 (by decide) ?_
    exact vx_ret (x_iret hC hw dX3_viewGet_32 (by omega) (by omega) ⟨(iN (z_13)).toInt, by simp only [iN_asI], iN_rng _, ⟨_, _, _, _, _, _, _, _, _, _, hR⟩⟩)
set_option maxHeartbeats 4000000 in
set_option maxRecDepth 100000 in
theorem c_X3_near (l : Launch) (G : xG) {M : HM} (hst : l.stackTraces = false) {h0 bs vs : Nat} {og : Option Nat} {kk kv rf : Int32} {qb qk qv : Nat → Nat} {fb fv : Nat → Option Nat} (hR : RGx G M h0 bs vs og kk kv rf qb qk qv fb fv) {p0 : Int} (hp0 : -2147483648 ≤ p0 ∧ p0 ≤ 2147483647) {p1 : Int} (hp1 : -2147483648 ≤ p1 ∧ p1 ≤ 2147483647) {p2 : Int} (hp2 : -2147483648 ≤ p2 ∧ p2 ≤ 2147483647) : xMetX l G yX3_near wsX3_near 7 111 3 18 [.ref h0, .int (iN (p0)), .int (iN (p1)), .int (iN (p2))] M (fun r M1 => ∃ z : Int, r = some (.int (iN z)) ∧ (-2147483648 ≤ z ∧ z ≤ 2147483647) ∧ RG G M1 h0 rf) (fun E M1 => E ∈ [xIO, xIA] ∧ RG G M1 h0 rf) := by
  refine x_introX (cc := cX3_near) (maxL := 6) (ret := (some .int)) (by decide +kernel) rfl (Nat.le_of_ble_eq_true rfl) ?_
  intro p e R s m args below meth c ls hRf hRc hRs hRl htab hC hw hl
  have hl : lv_has ls 6 [(0, .ref h0), (1, .int (iN (p0))), (2, .int (iN (p1))), (3, .int (iN (p2)))] := hl
  refine lv_aload_n hC.1 hC.2.1 dX3_near_0 rfl (lv_at hl 0 rfl) ?_
  refine lv_iload_n hC.1 hC.2.1 dX3_near_1 rfl (lv_at hl 1 rfl) ?_
  refine x_callVX hC hw (lv_size hl) (c_X3_bookAt l G hst hR (p0 := p0) (by omega)) gX3_near_X3_bookAt rfl dv_X3_bookAt hR.1 rfl rfl (Nat.le_of_ble_eq_true rfl) (by rw [hRf]; decide) (by rw [hRl]; decide) (by omega) (by omega) dX3_near_2 (fun E ce q9 M_1 H locs hqx hw hcell hcv hcls => ?_) (fun r9 M_1 H locs hq hw => ?_)
  · rw [hqx.2] at hw
    exact x_outX hC hw htab hcell hcv hcls (by omega) (by omega) ⟨(show ∀ x ∈ [xIO], x ∈ [xIO, xIA] from by decide +kernel) E hqx.1, ⟨_, _, _, _, _, _, _, _, _, _, hR⟩⟩
  obtain ⟨rfl, hM9, hk_2, hk_2b⟩ := hq
  rw [hM9] at hw
  have hik_2 : (p0).toNat < 3 := by omega
  obtain ⟨nox_3, ox_3, tx_3, kcx_3, szx_3, fkx_3, fwx_3, hBx_3⟩ := hR.bk hik_2
  obtain ⟨-, -, -, -, hsax_3, hsbx_3⟩ := id hBx_3
  show W p l e R s m args below meth c H locs _ _ _ (F0 m 5 ls [.ref (qb ((p0).toNat))])
  refine lv_astore (lv' := [(4, .ref (qb ((p0).toNat))), (0, .ref h0), (1, .int (iN (p0))), (2, .int (iN (p1))), (3, .int (iN (p2)))]) hC.1 hC.2.1 dX3_near_5 hl (by decide) rfl (fun ls hl => ?_)
  refine lv_iload_n hC.1 hC.2.1 dX3_near_7 rfl (lv_at hl 3 rfl) ?_
  refine x_callSX hC hw (lv_size hl) (c_X3_checkKey l G (M := M) hst (p0 := p1) (by omega)) gX3_near_X3_checkKey rfl dv_X3_checkKey_s rfl (Nat.le_of_ble_eq_true rfl) (by rw [hRf]; decide) (by rw [hRl]; decide) (by omega) (by omega) dX3_near_8 (fun E ce q9 M_4 H locs hqx hw hcell hcv hcls => ?_) (fun r9 M_4 H locs hq hw => ?_)
  · rw [hqx.2] at hw
    exact x_outX hC hw htab hcell hcv hcls (by omega) (by omega) ⟨(show ∀ x ∈ [xIA], x ∈ [xIO, xIA] from by decide +kernel) E hqx.1, ⟨_, _, _, _, _, _, _, _, _, _, hR⟩⟩
  obtain ⟨rfl, hM9, hk_5⟩ := hq
  rw [hM9] at hw
  show W p l e R s m args below meth c H locs _ _ _ (F0 m 11 ls [])
  refine lv_iload_n hC.1 hC.2.1 dX3_near_11 rfl (lv_at hl 4 rfl) ?_
  refine x_bipush hC dX3_near_12 (by decide +kernel) ?_
  refine x_callSX hC hw (lv_size hl) (c_X3_checkWhat l G (M := M) hst (p0 := p2) (by omega) (p1 := 7) (by omega)) gX3_near_X3_checkWhat rfl dv_X3_checkWhat_s rfl (Nat.le_of_ble_eq_true rfl) (by rw [hRf]; decide) (by rw [hRl]; decide) (by omega) (by omega) dX3_near_14 (fun E ce q9 M_6 H locs hqx hw hcell hcv hcls => ?_) (fun r9 M_6 H locs hq hw => ?_)
  · rw [hqx.2] at hw
    exact x_outX hC hw htab hcell hcv hcls (by omega) (by omega) ⟨(show ∀ x ∈ [xIA], x ∈ [xIO, xIA] from by decide +kernel) E hqx.1, ⟨_, _, _, _, _, _, _, _, _, _, hR⟩⟩
  obtain ⟨rfl, hM9, hk_7⟩ := hq
  rw [hM9] at hw
  show W p l e R s m args below meth c H locs _ _ _ (F0 m 17 ls [])
  refine lv_aload hC.1 hC.2.1 dX3_near_17 (lv_at hl 0 rfl) ?_
  refine lv_iload_n hC.1 hC.2.1 dX3_near_19 rfl (lv_at hl 3 rfl) ?_
  refine lv_iload_n hC.1 hC.2.1 dX3_near_20 rfl (lv_at hl 4 rfl) ?_
  refine x_const hC dX3_near_21 ?_
  refine x_iremN hC (by omega) (by omega) (by omega) (by omega) dX3_near_22 ?_
  refine x_const hC dX3_near_23 ?_
  refine lv_aload hC.1 hC.2.1 dX3_near_24 (lv_at hl 0 rfl) ?_
  refine x_callV hC hw (lv_size hl) (c_X0_size l G hBx_3) gX3_near_X0_size rfl dv_X0_size hBx_3.1 rfl rfl (Nat.le_of_ble_eq_true rfl) (by rw [hRf]; decide) (by rw [hRl]; decide) (by omega) (by omega) dX3_near_26 (fun r9 M_8 H locs hq hw => ?_)
  obtain ⟨rfl, hM9⟩ := hq
  rw [hM9] at hw
  show W p l e R s m args below meth c H locs _ _ _ (F0 m 29 ls [.int (iN (szx_3)), .int (iN (0)), .int (iN (p2 % 4)), .int (iN (p1)), .ref (qb ((p0).toNat))])
  refine x_callV hC hw (lv_size hl) (c_X0_closest l G hBx_3 (p0 := p1) (by omega) (p1 := (p2 % 4)) (by omega) (p2 := 0) (by omega) (p3 := szx_3) (by omega)) gX3_near_X0_closest rfl dv_X0_closest hBx_3.1 rfl rfl (Nat.le_of_ble_eq_true rfl) (by rw [hRf]; decide) (by rw [hRl]; decide) (by omega) (by omega) dX3_near_29 (fun r9 M_9 H locs hq hw => ?_)
  obtain ⟨z_10, rfl, hM9, hz_10⟩ := hq
  rw [hM9] at hw
  show W p l e R s m args below meth c H locs _ _ _ (F0 m 32 ls [.int (iN (z_10))])
  refine lv_istore (lv' := [(5, .int (iN (z_10))), (4, .ref (qb ((p0).toNat))), (0, .ref h0), (1, .int (iN (p0))), (2, .int (iN (p1))), (3, .int (iN (p2)))]) hC.1 hC.2.1 dX3_near_32 hl (by decide) rfl (fun ls hl => ?_)
  refine lv_iload_n hC.1 hC.2.1 dX3_near_34 rfl (lv_at hl 5 rfl) ?_
  refine x_const hC dX3_near_35 ?_
  refine x_icmp_ge (tgt := 44) hC ⟨by omega, by omega⟩ ⟨by omega, by omega⟩ dX3_near_36 (by decide) (fun c_11 => ?_) (fun c_11 => ?_)
  · refine lv_aload hC.1 hC.2.1 dX3_near_44 (lv_at hl 1 rfl) ?_
    refine lv_iload hC.1 hC.2.1 dX3_near_46 (lv_at hl 0 rfl) ?_
    refine x_callV hC hw (lv_size hl) (c_X0_valueOf l G hBx_3 (p0 := z_10) (by omega)) gX3_near_X0_valueOf rfl dv_X0_valueOf hBx_3.1 rfl rfl (Nat.le_of_ble_eq_true rfl) (by rw [hRf]; decide) (by rw [hRl]; decide) (by omega) (by omega) dX3_near_48 (fun r9 M_12 H locs hq hw => ?_)
    obtain ⟨z_13, rfl, hM9, hz_13⟩ := hq
    rw [hM9] at hw
    show W p l e R s m args below meth c H locs _ _ _ (F0 m 51 ls [.int (iN (z_13))])
    exact vx_ret (x_iret hC hw dX3_near_51 (by omega) (by omega) ⟨(iN (z_13)).toInt, by simp only [iN_asI], iN_rng _, ⟨_, _, _, _, _, _, _, _, _, _, hR⟩⟩)
  · refine lv_iload hC.1 hC.2.1 dX3_near_39 (lv_at hl 0 rfl) ?_
    refine lv_goto (tgt := 51) hC.1 hC.2.1 dX3_near_41 (by decide) ?_
    exact vx_ret (x_iret hC hw dX3_near_51 (by omega) (by omega) ⟨(iN (z_10)).toInt, by simp only [iN_asI], iN_rng _, ⟨_, _, _, _, _, _, _, _, _, _, hR⟩⟩)
set_option maxHeartbeats 4000000 in
set_option maxRecDepth 100000 in
theorem c_X3_viewNear (l : Launch) (G : xG) {M : HM} (hst : l.stackTraces = false) {h0 bs vs : Nat} {og : Option Nat} {kk kv rf : Int32} {qb qk qv : Nat → Nat} {fb fv : Nat → Option Nat} (hR : RGx G M h0 bs vs og kk kv rf qb qk qv fb fv) {p0 : Int} (hp0 : -2147483648 ≤ p0 ∧ p0 ≤ 2147483647) {p1 : Int} (hp1 : -2147483648 ≤ p1 ∧ p1 ≤ 2147483647) {p2 : Int} (hp2 : -2147483648 ≤ p2 ∧ p2 ≤ 2147483647) : xMetX l G yX3_viewNear wsX3_viewNear 7 111 3 18 [.ref h0, .int (iN (p0)), .int (iN (p1)), .int (iN (p2))] M (fun r M1 => ∃ z : Int, r = some (.int (iN z)) ∧ (-2147483648 ≤ z ∧ z ≤ 2147483647) ∧ RG G M1 h0 rf) (fun E M1 => E ∈ [xIO, xIA] ∧ RG G M1 h0 rf) := by
  refine x_introX (cc := cX3_viewNear) (maxL := 5) (ret := (some .int)) (by decide +kernel) rfl (Nat.le_of_ble_eq_true rfl) ?_
  intro p e R s m args below meth c ls hRf hRc hRs hRl htab hC hw hl
  have hl : lv_has ls 5 [(0, .ref h0), (1, .int (iN (p0))), (2, .int (iN (p1))), (3, .int (iN (p2)))] := hl
  refine lv_aload_n hC.1 hC.2.1 dX3_viewNear_0 rfl (lv_at hl 0 rfl) ?_
  refine lv_iload_n hC.1 hC.2.1 dX3_viewNear_1 rfl (lv_at hl 1 rfl) ?_
  refine x_callVX hC hw (lv_size hl) (c_X3_viewAt l G hst hR (p0 := p0) (by omega)) gX3_viewNear_X3_viewAt rfl dv_X3_viewAt hR.1 rfl rfl (Nat.le_of_ble_eq_true rfl) (by rw [hRf]; decide) (by rw [hRl]; decide) (by omega) (by omega) dX3_viewNear_2 (fun E ce q9 M_1 H locs hqx hw hcell hcv hcls => ?_) (fun r9 M_1 H locs hq hw => ?_)
  · rw [hqx.2] at hw
    exact x_outX hC hw htab hcell hcv hcls (by omega) (by omega) ⟨(show ∀ x ∈ [xIO], x ∈ [xIO, xIA] from by decide +kernel) E hqx.1, ⟨_, _, _, _, _, _, _, _, _, _, hR⟩⟩
  obtain ⟨y_3, rfl, hM9, hk_2, hk_2b, hyk_2⟩ := hq
  rw [hM9] at hw
  obtain ⟨ix_4, lox_4, upx_4, swx_4, ewx_4, lix_4, uix_4, hix_4, hVx_4⟩ := (hR.vw (show (p0).toNat < 4 by omega) hyk_2)
  have hlix_4 := hVx_4.2.1
  have huix_4 := hVx_4.2.2
  obtain ⟨nox_5, ox_5, tx_5, kcx_5, szx_5, fkx_5, fwx_5, hBx_5⟩ := hR.bk hix_4
  obtain ⟨-, -, -, -, hsax_5, hsbx_5⟩ := id hBx_5
  show W p l e R s m args below meth c H locs _ _ _ (F0 m 5 ls [.ref y_3])
  refine lv_astore (lv' := [(4, .ref y_3), (0, .ref h0), (1, .int (iN (p0))), (2, .int (iN (p1))), (3, .int (iN (p2)))]) hC.1 hC.2.1 dX3_viewNear_5 hl (by decide) rfl (fun ls hl => ?_)
  refine lv_iload_n hC.1 hC.2.1 dX3_viewNear_7 rfl (lv_at hl 3 rfl) ?_
  refine x_callSX hC hw (lv_size hl) (c_X3_checkKey l G (M := M) hst (p0 := p1) (by omega)) gX3_viewNear_X3_checkKey rfl dv_X3_checkKey_s rfl (Nat.le_of_ble_eq_true rfl) (by rw [hRf]; decide) (by rw [hRl]; decide) (by omega) (by omega) dX3_viewNear_8 (fun E ce q9 M_6 H locs hqx hw hcell hcv hcls => ?_) (fun r9 M_6 H locs hq hw => ?_)
  · rw [hqx.2] at hw
    exact x_outX hC hw htab hcell hcv hcls (by omega) (by omega) ⟨(show ∀ x ∈ [xIA], x ∈ [xIO, xIA] from by decide +kernel) E hqx.1, ⟨_, _, _, _, _, _, _, _, _, _, hR⟩⟩
  obtain ⟨rfl, hM9, hk_7⟩ := hq
  rw [hM9] at hw
  show W p l e R s m args below meth c H locs _ _ _ (F0 m 11 ls [])
  refine lv_iload_n hC.1 hC.2.1 dX3_viewNear_11 rfl (lv_at hl 4 rfl) ?_
  refine x_const hC dX3_viewNear_12 ?_
  refine x_callSX hC hw (lv_size hl) (c_X3_checkWhat l G (M := M) hst (p0 := p2) (by omega) (p1 := 3) (by omega)) gX3_viewNear_X3_checkWhat rfl dv_X3_checkWhat_s rfl (Nat.le_of_ble_eq_true rfl) (by rw [hRf]; decide) (by rw [hRl]; decide) (by omega) (by omega) dX3_viewNear_13 (fun E ce q9 M_8 H locs hqx hw hcell hcv hcls => ?_) (fun r9 M_8 H locs hq hw => ?_)
  · rw [hqx.2] at hw
    exact x_outX hC hw htab hcell hcv hcls (by omega) (by omega) ⟨(show ∀ x ∈ [xIA], x ∈ [xIO, xIA] from by decide +kernel) E hqx.1, ⟨_, _, _, _, _, _, _, _, _, _, hR⟩⟩
  obtain ⟨rfl, hM9, hk_9⟩ := hq
  rw [hM9] at hw
  show W p l e R s m args below meth c H locs _ _ _ (F0 m 16 ls [])
  refine lv_aload hC.1 hC.2.1 dX3_viewNear_16 (lv_at hl 0 rfl) ?_
  refine x_callV hC hw (lv_size hl) (c_X1_book l G hVx_4 hBx_5) gX3_viewNear_X1_book rfl dv_X1_book hVx_4.1 rfl rfl (Nat.le_of_ble_eq_true rfl) (by rw [hRf]; decide) (by rw [hRl]; decide) (by omega) (by omega) dX3_viewNear_18 (fun r9 M_10 H locs hq hw => ?_)
  obtain ⟨rfl, hM9⟩ := hq
  rw [hM9] at hw
  show W p l e R s m args below meth c H locs _ _ _ (F0 m 21 ls [.ref (qb ix_4)])
  refine lv_iload_n hC.1 hC.2.1 dX3_viewNear_21 rfl (lv_at hl 3 rfl) ?_
  refine lv_iload_n hC.1 hC.2.1 dX3_viewNear_22 rfl (lv_at hl 4 rfl) ?_
  refine lv_aload hC.1 hC.2.1 dX3_viewNear_23 (lv_at hl 0 rfl) ?_
  refine x_callV hC hw (lv_size hl) (c_X1_start l G hVx_4 hBx_5) gX3_viewNear_X1_start rfl dv_X1_start hVx_4.1 rfl rfl (Nat.le_of_ble_eq_true rfl) (by rw [hRf]; decide) (by rw [hRl]; decide) (by omega) (by omega) dX3_viewNear_25 (fun r9 M_11 H locs hq hw => ?_)
  obtain ⟨z_12, rfl, hM9, hz_12a, hz_12b⟩ := hq
  rw [hM9] at hw
  show W p l e R s m args below meth c H locs _ _ _ (F0 m 28 ls [.int (iN (z_12)), .int (iN (p2)), .int (iN (p1)), .ref (qb ix_4)])
  refine lv_aload hC.1 hC.2.1 dX3_viewNear_28 (lv_at hl 0 rfl) ?_
  refine x_callV hC hw (lv_size hl) (c_X1_end l G hVx_4 hBx_5) gX3_viewNear_X1_end rfl dv_X1_end hVx_4.1 rfl rfl (Nat.le_of_ble_eq_true rfl) (by rw [hRf]; decide) (by rw [hRl]; decide) (by omega) (by omega) dX3_viewNear_30 (fun r9 M_13 H locs hq hw => ?_)
  obtain ⟨z_14, rfl, hM9, hz_14a, hz_14b⟩ := hq
  rw [hM9] at hw
  show W p l e R s m args below meth c H locs _ _ _ (F0 m 33 ls [.int (iN (z_14)), .int (iN (z_12)), .int (iN (p2)), .int (iN (p1)), .ref (qb ix_4)])
  refine x_callV hC hw (lv_size hl) (c_X0_closest l G hBx_5 (p0 := p1) (by omega) (p1 := p2) (by omega) (p2 := z_12) (by omega) (p3 := z_14) (by omega)) gX3_viewNear_X0_closest rfl dv_X0_closest hBx_5.1 rfl rfl (Nat.le_of_ble_eq_true rfl) (by rw [hRf]; decide) (by rw [hRl]; decide) (by omega) (by omega) dX3_viewNear_33 (fun r9 M_15 H locs hq hw => ?_)
  obtain ⟨z_16, rfl, hM9, hz_16⟩ := hq
  rw [hM9] at hw
  show W p l e R s m args below meth c H locs _ _ _ (F0 m 36 ls [.int (iN (z_16))])
  exact vx_ret (x_iret hC hw dX3_viewNear_36 (by omega) (by omega) ⟨(iN (z_16)).toInt, by simp only [iN_asI], iN_rng _, ⟨_, _, _, _, _, _, _, _, _, _, hR⟩⟩)
set_option maxHeartbeats 4000000 in
set_option maxRecDepth 100000 in
theorem c_X3_ofBook (l : Launch) (G : xG) {M : HM} (hst : l.stackTraces = false) {h0 bs vs : Nat} {og : Option Nat} {kk kv rf : Int32} {qb qk qv : Nat → Nat} {fb fv : Nat → Option Nat} (hR : RGx G M h0 bs vs og kk kv rf qb qk qv fb fv) {p0 : Int} (hp0 : -2147483648 ≤ p0 ∧ p0 ≤ 2147483647) {p1 : Int} (hp1 : -2147483648 ≤ p1 ∧ p1 ≤ 2147483647) : xMetX l G yX3_ofBook wsX3_ofBook 7 111 2 12 [.ref h0, .int (iN (p0)), .int (iN (p1))] M (fun r M1 => ∃ z : Int, r = some (.int (iN z)) ∧ (-2147483648 ≤ z ∧ z ≤ 2147483647) ∧ RG G M1 h0 rf) (fun E M1 => E ∈ [xIO, xIA] ∧ RG G M1 h0 rf) := by
  refine x_introX (cc := cX3_ofBook) (maxL := 4) (ret := (some .int)) (by decide +kernel) rfl (Nat.le_of_ble_eq_true rfl) ?_
  intro p e R s m args below meth c ls hRf hRc hRs hRl htab hC hw hl
  have hl : lv_has ls 4 [(0, .ref h0), (1, .int (iN (p0))), (2, .int (iN (p1)))] := hl
  refine lv_aload_n hC.1 hC.2.1 dX3_ofBook_0 rfl (lv_at hl 0 rfl) ?_
  refine lv_iload_n hC.1 hC.2.1 dX3_ofBook_1 rfl (lv_at hl 1 rfl) ?_
  refine x_callVX hC hw (lv_size hl) (c_X3_bookAt l G hst hR (p0 := p0) (by omega)) gX3_ofBook_X3_bookAt rfl dv_X3_bookAt hR.1 rfl rfl (Nat.le_of_ble_eq_true rfl) (by rw [hRf]; decide) (by rw [hRl]; decide) (by omega) (by omega) dX3_ofBook_2 (fun E ce q9 M_1 H locs hqx hw hcell hcv hcls => ?_) (fun r9 M_1 H locs hq hw => ?_)
  · rw [hqx.2] at hw
    exact x_outX hC hw htab hcell hcv hcls (by omega) (by omega) ⟨(show ∀ x ∈ [xIO], x ∈ [xIO, xIA] from by decide +kernel) E hqx.1, ⟨_, _, _, _, _, _, _, _, _, _, hR⟩⟩
  obtain ⟨rfl, hM9, hk_2, hk_2b⟩ := hq
  rw [hM9] at hw
  have hik_2 : (p0).toNat < 3 := by omega
  obtain ⟨nox_3, ox_3, tx_3, kcx_3, szx_3, fkx_3, fwx_3, hBx_3⟩ := hR.bk hik_2
  obtain ⟨-, -, -, -, hsax_3, hsbx_3⟩ := id hBx_3
  show W p l e R s m args below meth c H locs _ _ _ (F0 m 5 ls [.ref (qb ((p0).toNat))])
  refine lv_astore_n (lv' := [(3, .ref (qb ((p0).toNat))), (0, .ref h0), (1, .int (iN (p0))), (2, .int (iN (p1)))]) hC.1 hC.2.1 dX3_ofBook_5 rfl hl (by decide) rfl (fun ls hl => ?_)
  refine lv_iload_n hC.1 hC.2.1 dX3_ofBook_6 rfl (lv_at hl 3 rfl) ?_
  refine x_bipush hC dX3_ofBook_7 (by decide +kernel) ?_
  refine x_callSX hC hw (lv_size hl) (c_X3_checkWhat l G (M := M) hst (p0 := p1) (by omega) (p1 := 8) (by omega)) gX3_ofBook_X3_checkWhat rfl dv_X3_checkWhat_s rfl (Nat.le_of_ble_eq_true rfl) (by rw [hRf]; decide) (by rw [hRl]; decide) (by omega) (by omega) dX3_ofBook_9 (fun E ce q9 M_4 H locs hqx hw hcell hcv hcls => ?_) (fun r9 M_4 H locs hq hw => ?_)
  · rw [hqx.2] at hw
    exact x_outX hC hw htab hcell hcv hcls (by omega) (by omega) ⟨(show ∀ x ∈ [xIA], x ∈ [xIO, xIA] from by decide +kernel) E hqx.1, ⟨_, _, _, _, _, _, _, _, _, _, hR⟩⟩
  obtain ⟨rfl, hM9, hk_5⟩ := hq
  rw [hM9] at hw
  show W p l e R s m args below meth c H locs _ _ _ (F0 m 12 ls [])
  refine lv_iload_n hC.1 hC.2.1 dX3_ofBook_12 rfl (lv_at hl 3 rfl) ?_
  by_cases c_6 : p1 = 0
  · refine x_tsw (off := 47) (tgt := 60) (k := 0) hC (by omega) dX3_ofBook_13 (by decide) (by decide) rfl (by decide) ?_
    refine lv_aload_n hC.1 hC.2.1 dX3_ofBook_60 rfl (lv_at hl 0 rfl) ?_
    refine x_callV hC hw (lv_size hl) (c_X0_size l G hBx_3) gX3_ofBook_X0_size rfl dv_X0_size hBx_3.1 rfl rfl (Nat.le_of_ble_eq_true rfl) (by rw [hRf]; decide) (by rw [hRl]; decide) (by omega) (by omega) dX3_ofBook_61 (fun r9 M_7 H locs hq hw => ?_)
    obtain ⟨rfl, hM9⟩ := hq
    rw [hM9] at hw
    show W p l e R s m args below meth c H locs _ _ _ (F0 m 64 ls [.int (iN (szx_3))])
    exact vx_ret (x_iret hC hw dX3_ofBook_64 (by omega) (by omega) ⟨(iN (szx_3)).toInt, by simp only [iN_asI], iN_rng _, ⟨_, _, _, _, _, _, _, _, _, _, hR⟩⟩)
  by_cases c_8 : p1 = 1
  · refine x_tsw (off := 52) (tgt := 65) (k := 1) hC (by omega) dX3_ofBook_13 (by decide) (by decide) rfl (by decide) ?_
    refine lv_aload_n hC.1 hC.2.1 dX3_ofBook_65 rfl (lv_at hl 0 rfl) ?_
    refine x_callV hC hw (lv_size hl) (c_X0_order l G hBx_3) gX3_ofBook_X0_order rfl dv_X0_order hBx_3.1 rfl rfl (Nat.le_of_ble_eq_true rfl) (by rw [hRf]; decide) (by rw [hRl]; decide) (by omega) (by omega) dX3_ofBook_66 (fun r9 M_9 H locs hq hw => ?_)
    obtain ⟨rfl, hM9⟩ := hq
    rw [hM9] at hw
    have hrr_10 := iN_rng ox_3
    show W p l e R s m args below meth c H locs _ _ _ (F0 m 69 ls [.int (iN (ox_3.toInt))])
    exact vx_ret (x_iret hC hw dX3_ofBook_69 (by omega) (by omega) ⟨(iN (ox_3.toInt)).toInt, by simp only [iN_asI], iN_rng _, ⟨_, _, _, _, _, _, _, _, _, _, hR⟩⟩)
  by_cases c_11 : p1 = 2
  · refine x_tsw (off := 57) (tgt := 70) (k := 2) hC (by omega) dX3_ofBook_13 (by decide) (by decide) rfl (by decide) ?_
    refine lv_aload_n hC.1 hC.2.1 dX3_ofBook_70 rfl (lv_at hl 0 rfl) ?_
    refine x_const hC dX3_ofBook_71 ?_
    refine x_callV hC hw (lv_size hl) (c_X0_keyAt l G hBx_3 (p0 := 0) (by omega)) gX3_ofBook_X0_keyAt rfl dv_X0_keyAt hBx_3.1 rfl rfl (Nat.le_of_ble_eq_true rfl) (by rw [hRf]; decide) (by rw [hRl]; decide) (by omega) (by omega) dX3_ofBook_72 (fun r9 M_12 H locs hq hw => ?_)
    obtain ⟨z_13, rfl, hM9, hz_13, hz_13b⟩ := hq
    rw [hM9] at hw
    show W p l e R s m args below meth c H locs _ _ _ (F0 m 75 ls [.int (iN (z_13))])
    exact vx_ret (x_iret hC hw dX3_ofBook_75 (by omega) (by omega) ⟨(iN (z_13)).toInt, by simp only [iN_asI], iN_rng _, ⟨_, _, _, _, _, _, _, _, _, _, hR⟩⟩)
  by_cases c_14 : p1 = 3
  · refine x_tsw (off := 63) (tgt := 76) (k := 3) hC (by omega) dX3_ofBook_13 (by decide) (by decide) rfl (by decide) ?_
    refine lv_aload_n hC.1 hC.2.1 dX3_ofBook_76 rfl (lv_at hl 0 rfl) ?_
    refine x_const hC dX3_ofBook_77 ?_
    refine x_callV hC hw (lv_size hl) (c_X0_valueAt l G hBx_3 (p0 := 0) (by omega)) gX3_ofBook_X0_valueAt rfl dv_X0_valueAt hBx_3.1 rfl rfl (Nat.le_of_ble_eq_true rfl) (by rw [hRf]; decide) (by rw [hRl]; decide) (by omega) (by omega) dX3_ofBook_78 (fun r9 M_15 H locs hq hw => ?_)
    obtain ⟨z_16, rfl, hM9, hz_16, hz_16b⟩ := hq
    rw [hM9] at hw
    show W p l e R s m args below meth c H locs _ _ _ (F0 m 81 ls [.int (iN (z_16))])
    exact vx_ret (x_iret hC hw dX3_ofBook_81 (by omega) (by omega) ⟨(iN (z_16)).toInt, by simp only [iN_asI], iN_rng _, ⟨_, _, _, _, _, _, _, _, _, _, hR⟩⟩)
  by_cases c_17 : p1 = 4
  · refine x_tsw (off := 69) (tgt := 82) (k := 4) hC (by omega) dX3_ofBook_13 (by decide) (by decide) rfl (by decide) ?_
    refine lv_aload_n hC.1 hC.2.1 dX3_ofBook_82 rfl (lv_at hl 0 rfl) ?_
    refine lv_aload_n hC.1 hC.2.1 dX3_ofBook_83 rfl (lv_at hl 0 rfl) ?_
    refine x_callV hC hw (lv_size hl) (c_X0_size l G hBx_3) gX3_ofBook_X0_size rfl dv_X0_size hBx_3.1 rfl rfl (Nat.le_of_ble_eq_true rfl) (by rw [hRf]; decide) (by rw [hRl]; decide) (by omega) (by omega) dX3_ofBook_84 (fun r9 M_18 H locs hq hw => ?_)
    obtain ⟨rfl, hM9⟩ := hq
    rw [hM9] at hw
    show W p l e R s m args below meth c H locs _ _ _ (F0 m 87 ls [.int (iN (szx_3)), .ref (qb ((p0).toNat))])
    refine x_const hC dX3_ofBook_87 ?_
    refine x_isub hC dX3_ofBook_88 ?_
    refine x_callV hC hw (lv_size hl) (c_X0_keyAt l G hBx_3 (p0 := (szx_3 - 1)) (by omega)) gX3_ofBook_X0_keyAt rfl dv_X0_keyAt hBx_3.1 rfl rfl (Nat.le_of_ble_eq_true rfl) (by rw [hRf]; decide) (by rw [hRl]; decide) (by omega) (by omega) dX3_ofBook_89 (fun r9 M_19 H locs hq hw => ?_)
    obtain ⟨z_20, rfl, hM9, hz_20, hz_20b⟩ := hq
    rw [hM9] at hw
    show W p l e R s m args below meth c H locs _ _ _ (F0 m 92 ls [.int (iN (z_20))])
    exact vx_ret (x_iret hC hw dX3_ofBook_92 (by omega) (by omega) ⟨(iN (z_20)).toInt, by simp only [iN_asI], iN_rng _, ⟨_, _, _, _, _, _, _, _, _, _, hR⟩⟩)
  by_cases c_21 : p1 = 5
  · refine x_tsw (off := 80) (tgt := 93) (k := 5) hC (by omega) dX3_ofBook_13 (by decide) (by decide) rfl (by decide) ?_
    refine lv_aload_n hC.1 hC.2.1 dX3_ofBook_93 rfl (lv_at hl 0 rfl) ?_
    refine lv_aload_n hC.1 hC.2.1 dX3_ofBook_94 rfl (lv_at hl 0 rfl) ?_
    refine x_callV hC hw (lv_size hl) (c_X0_size l G hBx_3) gX3_ofBook_X0_size rfl dv_X0_size hBx_3.1 rfl rfl (Nat.le_of_ble_eq_true rfl) (by rw [hRf]; decide) (by rw [hRl]; decide) (by omega) (by omega) dX3_ofBook_95 (fun r9 M_22 H locs hq hw => ?_)
    obtain ⟨rfl, hM9⟩ := hq
    rw [hM9] at hw
    show W p l e R s m args below meth c H locs _ _ _ (F0 m 98 ls [.int (iN (szx_3)), .ref (qb ((p0).toNat))])
    refine x_const hC dX3_ofBook_98 ?_
    refine x_isub hC dX3_ofBook_99 ?_
    refine x_callV hC hw (lv_size hl) (c_X0_valueAt l G hBx_3 (p0 := (szx_3 - 1)) (by omega)) gX3_ofBook_X0_valueAt rfl dv_X0_valueAt hBx_3.1 rfl rfl (Nat.le_of_ble_eq_true rfl) (by rw [hRf]; decide) (by rw [hRl]; decide) (by omega) (by omega) dX3_ofBook_100 (fun r9 M_23 H locs hq hw => ?_)
    obtain ⟨z_24, rfl, hM9, hz_24, hz_24b⟩ := hq
    rw [hM9] at hw
    show W p l e R s m args below meth c H locs _ _ _ (F0 m 103 ls [.int (iN (z_24))])
    exact vx_ret (x_iret hC hw dX3_ofBook_103 (by omega) (by omega) ⟨(iN (z_24)).toInt, by simp only [iN_asI], iN_rng _, ⟨_, _, _, _, _, _, _, _, _, _, hR⟩⟩)
  by_cases c_25 : p1 = 6
  · refine x_tsw (off := 91) (tgt := 104) (k := 6) hC (by omega) dX3_ofBook_13 (by decide) (by decide) rfl (by decide) ?_
    refine lv_aload_n hC.1 hC.2.1 dX3_ofBook_104 rfl (lv_at hl 0 rfl) ?_
    refine x_const hC dX3_ofBook_105 ?_
    refine lv_aload_n hC.1 hC.2.1 dX3_ofBook_106 rfl (lv_at hl 0 rfl) ?_
    refine x_callV hC hw (lv_size hl) (c_X0_size l G hBx_3) gX3_ofBook_X0_size rfl dv_X0_size hBx_3.1 rfl rfl (Nat.le_of_ble_eq_true rfl) (by rw [hRf]; decide) (by rw [hRl]; decide) (by omega) (by omega) dX3_ofBook_107 (fun r9 M_26 H locs hq hw => ?_)
    obtain ⟨rfl, hM9⟩ := hq
    rw [hM9] at hw
    show W p l e R s m args below meth c H locs _ _ _ (F0 m 110 ls [.int (iN (szx_3)), .int (iN (0)), .ref (qb ((p0).toNat))])
    refine x_callV hC hw (lv_size hl) (c_X0_sum l G hBx_3 (p0 := 0) (by omega) (p1 := szx_3) (by omega)) gX3_ofBook_X0_sum rfl dv_X0_sum hBx_3.1 rfl rfl (Nat.le_of_ble_eq_true rfl) (by rw [hRf]; decide) (by rw [hRl]; decide) (by omega) (by omega) dX3_ofBook_110 (fun r9 M_27 H locs hq hw => ?_)
    obtain ⟨z_28, rfl, hM9, hz_28⟩ := hq
    rw [hM9] at hw
    show W p l e R s m args below meth c H locs _ _ _ (F0 m 113 ls [.int (iN (z_28))])
    exact vx_ret (x_iret hC hw dX3_ofBook_113 (by omega) (by omega) ⟨(iN (z_28)).toInt, by simp only [iN_asI], iN_rng _, ⟨_, _, _, _, _, _, _, _, _, _, hR⟩⟩)
  by_cases c_29 : p1 = 7
  · refine x_tsw (off := 101) (tgt := 114) (k := 7) hC (by omega) dX3_ofBook_13 (by decide) (by decide) rfl (by decide) ?_
    refine lv_aload_n hC.1 hC.2.1 dX3_ofBook_114 rfl (lv_at hl 0 rfl) ?_
    refine x_callV hC hw (lv_size hl) (c_X0_unlikeValues l G hBx_3) gX3_ofBook_X0_unlikeValues rfl dv_X0_unlikeValues hBx_3.1 rfl rfl (Nat.le_of_ble_eq_true rfl) (by rw [hRf]; decide) (by rw [hRl]; decide) (by omega) (by omega) dX3_ofBook_115 (fun r9 M_30 H locs hq hw => ?_)
    obtain ⟨z_31, rfl, hM9, hz_31⟩ := hq
    rw [hM9] at hw
    show W p l e R s m args below meth c H locs _ _ _ (F0 m 118 ls [.int (iN (z_31))])
    exact vx_ret (x_iret hC hw dX3_ofBook_118 (by omega) (by omega) ⟨(iN (z_31)).toInt, by simp only [iN_asI], iN_rng _, ⟨_, _, _, _, _, _, _, _, _, _, hR⟩⟩)
  refine x_tswd (tgt := 119) hC ⟨by omega, by omega⟩ dX3_ofBook_13 (by omega) (by decide) ?_
  refine lv_aload_n hC.1 hC.2.1 dX3_ofBook_119 rfl (lv_at hl 1 rfl) ?_
  refine lv_aload_n hC.1 hC.2.1 dX3_ofBook_120 rfl (lv_at hl 0 rfl) ?_
  refine x_callV hC hw (lv_size hl) (c_X3_viewsOnto l G hR (bb := (qb ((p0).toNat)))) gX3_ofBook_X3_viewsOnto rfl dv_X3_viewsOnto hR.1 rfl rfl (Nat.le_of_ble_eq_true rfl) (by rw [hRf]; decide) (by rw [hRl]; decide) (by omega) (by omega) dX3_ofBook_121 (fun r9 M_32 H locs hq hw => ?_)
  obtain ⟨z_33, rfl, hM9, hz_33⟩ := hq
  rw [hM9] at hw
  show W p l e R s m args below meth c H locs _ _ _ (F0 m 124 ls [.int (iN (z_33))])
  exact vx_ret (x_iret hC hw dX3_ofBook_124 (by omega) (by omega) ⟨(iN (z_33)).toInt, by simp only [iN_asI], iN_rng _, ⟨_, _, _, _, _, _, _, _, _, _, hR⟩⟩)
set_option maxHeartbeats 4000000 in
set_option maxRecDepth 100000 in
theorem c_X3_ofView (l : Launch) (G : xG) {M : HM} (hst : l.stackTraces = false) {h0 bs vs : Nat} {og : Option Nat} {kk kv rf : Int32} {qb qk qv : Nat → Nat} {fb fv : Nat → Option Nat} (hR : RGx G M h0 bs vs og kk kv rf qb qk qv fb fv) {p0 : Int} (hp0 : -2147483648 ≤ p0 ∧ p0 ≤ 2147483647) {p1 : Int} (hp1 : -2147483648 ≤ p1 ∧ p1 ≤ 2147483647) : xMetX l G yX3_ofView wsX3_ofView 7 111 2 12 [.ref h0, .int (iN (p0)), .int (iN (p1))] M (fun r M1 => ∃ z : Int, r = some (.int (iN z)) ∧ (-2147483648 ≤ z ∧ z ≤ 2147483647) ∧ RG G M1 h0 rf) (fun E M1 => E ∈ [xIO, xIA] ∧ RG G M1 h0 rf) := by
  refine x_introX (cc := cX3_ofView) (maxL := 4) (ret := (some .int)) (by decide +kernel) rfl (Nat.le_of_ble_eq_true rfl) ?_
  intro p e R s m args below meth c ls hRf hRc hRs hRl htab hC hw hl
  have hl : lv_has ls 4 [(0, .ref h0), (1, .int (iN (p0))), (2, .int (iN (p1)))] := hl
  refine lv_aload_n hC.1 hC.2.1 dX3_ofView_0 rfl (lv_at hl 0 rfl) ?_
  refine lv_iload_n hC.1 hC.2.1 dX3_ofView_1 rfl (lv_at hl 1 rfl) ?_
  refine x_callVX hC hw (lv_size hl) (c_X3_viewAt l G hst hR (p0 := p0) (by omega)) gX3_ofView_X3_viewAt rfl dv_X3_viewAt hR.1 rfl rfl (Nat.le_of_ble_eq_true rfl) (by rw [hRf]; decide) (by rw [hRl]; decide) (by omega) (by omega) dX3_ofView_2 (fun E ce q9 M_1 H locs hqx hw hcell hcv hcls => ?_) (fun r9 M_1 H locs hq hw => ?_)
  · rw [hqx.2] at hw
    exact x_outX hC hw htab hcell hcv hcls (by omega) (by omega) ⟨(show ∀ x ∈ [xIO], x ∈ [xIO, xIA] from by decide +kernel) E hqx.1, ⟨_, _, _, _, _, _, _, _, _, _, hR⟩⟩
  obtain ⟨y_3, rfl, hM9, hk_2, hk_2b, hyk_2⟩ := hq
  rw [hM9] at hw
  obtain ⟨ix_4, lox_4, upx_4, swx_4, ewx_4, lix_4, uix_4, hix_4, hVx_4⟩ := (hR.vw (show (p0).toNat < 4 by omega) hyk_2)
  have hlix_4 := hVx_4.2.1
  have huix_4 := hVx_4.2.2
  obtain ⟨nox_5, ox_5, tx_5, kcx_5, szx_5, fkx_5, fwx_5, hBx_5⟩ := hR.bk hix_4
  obtain ⟨-, -, -, -, hsax_5, hsbx_5⟩ := id hBx_5
  show W p l e R s m args below meth c H locs _ _ _ (F0 m 5 ls [.ref y_3])
  refine lv_astore_n (lv' := [(3, .ref y_3), (0, .ref h0), (1, .int (iN (p0))), (2, .int (iN (p1)))]) hC.1 hC.2.1 dX3_ofView_5 rfl hl (by decide) rfl (fun ls hl => ?_)
  refine lv_iload_n hC.1 hC.2.1 dX3_ofView_6 rfl (lv_at hl 3 rfl) ?_
  refine x_bipush hC dX3_ofView_7 (by decide +kernel) ?_
  refine x_callSX hC hw (lv_size hl) (c_X3_checkWhat l G (M := M) hst (p0 := p1) (by omega) (p1 := 8) (by omega)) gX3_ofView_X3_checkWhat rfl dv_X3_checkWhat_s rfl (Nat.le_of_ble_eq_true rfl) (by rw [hRf]; decide) (by rw [hRl]; decide) (by omega) (by omega) dX3_ofView_9 (fun E ce q9 M_6 H locs hqx hw hcell hcv hcls => ?_) (fun r9 M_6 H locs hq hw => ?_)
  · rw [hqx.2] at hw
    exact x_outX hC hw htab hcell hcv hcls (by omega) (by omega) ⟨(show ∀ x ∈ [xIA], x ∈ [xIO, xIA] from by decide +kernel) E hqx.1, ⟨_, _, _, _, _, _, _, _, _, _, hR⟩⟩
  obtain ⟨rfl, hM9, hk_7⟩ := hq
  rw [hM9] at hw
  show W p l e R s m args below meth c H locs _ _ _ (F0 m 12 ls [])
  refine lv_iload_n hC.1 hC.2.1 dX3_ofView_12 rfl (lv_at hl 3 rfl) ?_
  by_cases c_8 : p1 = 0
  · refine x_tsw (off := 47) (tgt := 60) (k := 0) hC (by omega) dX3_ofView_13 (by decide) (by decide) rfl (by decide) ?_
    refine lv_aload_n hC.1 hC.2.1 dX3_ofView_60 rfl (lv_at hl 0 rfl) ?_
    refine x_callV hC hw (lv_size hl) (c_X1_size l G hVx_4 hBx_5) gX3_ofView_X1_size rfl dv_X1_size hVx_4.1 rfl rfl (Nat.le_of_ble_eq_true rfl) (by rw [hRf]; decide) (by rw [hRl]; decide) (by omega) (by omega) dX3_ofView_61 (fun r9 M_9 H locs hq hw => ?_)
    obtain ⟨z_10, rfl, hM9, hz_10a, hz_10b⟩ := hq
    rw [hM9] at hw
    show W p l e R s m args below meth c H locs _ _ _ (F0 m 64 ls [.int (iN (z_10))])
    exact vx_ret (x_iret hC hw dX3_ofView_64 (by omega) (by omega) ⟨(iN (z_10)).toInt, by simp only [iN_asI], iN_rng _, ⟨_, _, _, _, _, _, _, _, _, _, hR⟩⟩)
  by_cases c_11 : p1 = 1
  · refine x_tsw (off := 52) (tgt := 65) (k := 1) hC (by omega) dX3_ofView_13 (by decide) (by decide) rfl (by decide) ?_
    refine lv_aload_n hC.1 hC.2.1 dX3_ofView_65 rfl (lv_at hl 0 rfl) ?_
    refine x_callV hC hw (lv_size hl) (c_X1_book l G hVx_4 hBx_5) gX3_ofView_X1_book rfl dv_X1_book hVx_4.1 rfl rfl (Nat.le_of_ble_eq_true rfl) (by rw [hRf]; decide) (by rw [hRl]; decide) (by omega) (by omega) dX3_ofView_66 (fun r9 M_12 H locs hq hw => ?_)
    obtain ⟨rfl, hM9⟩ := hq
    rw [hM9] at hw
    show W p l e R s m args below meth c H locs _ _ _ (F0 m 69 ls [.ref (qb ix_4)])
    refine x_callV hC hw (lv_size hl) (c_X0_number l G hBx_5) gX3_ofView_X0_number rfl dv_X0_number hBx_5.1 rfl rfl (Nat.le_of_ble_eq_true rfl) (by rw [hRf]; decide) (by rw [hRl]; decide) (by omega) (by omega) dX3_ofView_69 (fun r9 M_13 H locs hq hw => ?_)
    obtain ⟨rfl, hM9⟩ := hq
    rw [hM9] at hw
    have hrr_14 := iN_rng nox_5
    show W p l e R s m args below meth c H locs _ _ _ (F0 m 72 ls [.int (iN (nox_5.toInt))])
    exact vx_ret (x_iret hC hw dX3_ofView_72 (by omega) (by omega) ⟨(iN (nox_5.toInt)).toInt, by simp only [iN_asI], iN_rng _, ⟨_, _, _, _, _, _, _, _, _, _, hR⟩⟩)
  by_cases c_15 : p1 = 2
  · refine x_tsw (off := 60) (tgt := 73) (k := 2) hC (by omega) dX3_ofView_13 (by decide) (by decide) rfl (by decide) ?_
    refine lv_aload_n hC.1 hC.2.1 dX3_ofView_73 rfl (lv_at hl 0 rfl) ?_
    refine x_callV hC hw (lv_size hl) (c_X1_lowerBound l G hVx_4 hBx_5) gX3_ofView_X1_lowerBound rfl dv_X1_lowerBound hVx_4.1 rfl rfl (Nat.le_of_ble_eq_true rfl) (by rw [hRf]; decide) (by rw [hRl]; decide) (by omega) (by omega) dX3_ofView_74 (fun r9 M_16 H locs hq hw => ?_)
    obtain ⟨rfl, hM9⟩ := hq
    rw [hM9] at hw
    have hrr_17 := iN_rng lox_4
    show W p l e R s m args below meth c H locs _ _ _ (F0 m 77 ls [.int (iN (lox_4.toInt))])
    exact vx_ret (x_iret hC hw dX3_ofView_77 (by omega) (by omega) ⟨(iN (lox_4.toInt)).toInt, by simp only [iN_asI], iN_rng _, ⟨_, _, _, _, _, _, _, _, _, _, hR⟩⟩)
  by_cases c_18 : p1 = 3
  · refine x_tsw (off := 65) (tgt := 78) (k := 3) hC (by omega) dX3_ofView_13 (by decide) (by decide) rfl (by decide) ?_
    refine lv_aload_n hC.1 hC.2.1 dX3_ofView_78 rfl (lv_at hl 0 rfl) ?_
    refine x_callV hC hw (lv_size hl) (c_X1_upperBound l G hVx_4 hBx_5) gX3_ofView_X1_upperBound rfl dv_X1_upperBound hVx_4.1 rfl rfl (Nat.le_of_ble_eq_true rfl) (by rw [hRf]; decide) (by rw [hRl]; decide) (by omega) (by omega) dX3_ofView_79 (fun r9 M_19 H locs hq hw => ?_)
    obtain ⟨rfl, hM9⟩ := hq
    rw [hM9] at hw
    have hrr_20 := iN_rng upx_4
    show W p l e R s m args below meth c H locs _ _ _ (F0 m 82 ls [.int (iN (upx_4.toInt))])
    exact vx_ret (x_iret hC hw dX3_ofView_82 (by omega) (by omega) ⟨(iN (upx_4.toInt)).toInt, by simp only [iN_asI], iN_rng _, ⟨_, _, _, _, _, _, _, _, _, _, hR⟩⟩)
  by_cases c_21 : p1 = 4
  · refine x_tsw (off := 70) (tgt := 83) (k := 4) hC (by omega) dX3_ofView_13 (by decide) (by decide) rfl (by decide) ?_
    refine lv_aload_n hC.1 hC.2.1 dX3_ofView_83 rfl (lv_at hl 0 rfl) ?_
    refine x_callV hC hw (lv_size hl) (c_X1_isLowerIn l G hVx_4 hBx_5) gX3_ofView_X1_isLowerIn rfl dv_X1_isLowerIn hVx_4.1 rfl rfl (Nat.le_of_ble_eq_true rfl) (by rw [hRf]; decide) (by rw [hRl]; decide) (by omega) (by omega) dX3_ofView_84 (fun r9 M_22 H locs hq hw => ?_)
    obtain ⟨rfl, hM9⟩ := hq
    rw [hM9] at hw
    show W p l e R s m args below meth c H locs _ _ _ (F0 m 87 ls [.int (iN (lix_4))])
    refine x_if_eq (tgt := 94) hC ⟨by omega, by omega⟩ dX3_ofView_87 (by decide) (fun c_23 => ?_) (fun c_23 => ?_)
    · refine x_const hC dX3_ofView_94 ?_
      exact vx_ret (x_iret hC hw dX3_ofView_95 (by omega) (by omega) ⟨(iN (0)).toInt, by simp only [iN_asI], iN_rng _, ⟨_, _, _, _, _, _, _, _, _, _, hR⟩⟩)
    · refine x_const hC dX3_ofView_90 ?_
      refine lv_goto (tgt := 95) hC.1 hC.2.1 dX3_ofView_91 (by decide) ?_
      exact vx_ret (x_iret hC hw dX3_ofView_95 (by omega) (by omega) ⟨(iN (1)).toInt, by simp only [iN_asI], iN_rng _, ⟨_, _, _, _, _, _, _, _, _, _, hR⟩⟩)
  by_cases c_24 : p1 = 5
  · refine x_tsw (off := 83) (tgt := 96) (k := 5) hC (by omega) dX3_ofView_13 (by decide) (by decide) rfl (by decide) ?_
    refine lv_aload_n hC.1 hC.2.1 dX3_ofView_96 rfl (lv_at hl 0 rfl) ?_
    refine x_callV hC hw (lv_size hl) (c_X1_isUpperIn l G hVx_4 hBx_5) gX3_ofView_X1_isUpperIn rfl dv_X1_isUpperIn hVx_4.1 rfl rfl (Nat.le_of_ble_eq_true rfl) (by rw [hRf]; decide) (by rw [hRl]; decide) (by omega) (by omega) dX3_ofView_97 (fun r9 M_25 H locs hq hw => ?_)
    obtain ⟨rfl, hM9⟩ := hq
    rw [hM9] at hw
    show W p l e R s m args below meth c H locs _ _ _ (F0 m 100 ls [.int (iN (uix_4))])
    refine x_if_eq (tgt := 107) hC ⟨by omega, by omega⟩ dX3_ofView_100 (by decide) (fun c_26 => ?_) (fun c_26 => ?_)
    · refine x_const hC dX3_ofView_107 ?_
      exact vx_ret (x_iret hC hw dX3_ofView_108 (by omega) (by omega) ⟨(iN (0)).toInt, by simp only [iN_asI], iN_rng _, ⟨_, _, _, _, _, _, _, _, _, _, hR⟩⟩)
    · refine x_const hC dX3_ofView_103 ?_
      refine lv_goto (tgt := 108) hC.1 hC.2.1 dX3_ofView_104 (by decide) ?_
      exact vx_ret (x_iret hC hw dX3_ofView_108 (by omega) (by omega) ⟨(iN (1)).toInt, by simp only [iN_asI], iN_rng _, ⟨_, _, _, _, _, _, _, _, _, _, hR⟩⟩)
  by_cases c_27 : p1 = 6
  · refine x_tsw (off := 96) (tgt := 109) (k := 6) hC (by omega) dX3_ofView_13 (by decide) (by decide) rfl (by decide) ?_
    refine lv_aload_n hC.1 hC.2.1 dX3_ofView_109 rfl (lv_at hl 0 rfl) ?_
    refine x_callV hC hw (lv_size hl) (c_X1_size l G hVx_4 hBx_5) gX3_ofView_X1_size rfl dv_X1_size hVx_4.1 rfl rfl (Nat.le_of_ble_eq_true rfl) (by rw [hRf]; decide) (by rw [hRl]; decide) (by omega) (by omega) dX3_ofView_110 (fun r9 M_28 H locs hq hw => ?_)
    obtain ⟨z_29, rfl, hM9, hz_29a, hz_29b⟩ := hq
    rw [hM9] at hw
    show W p l e R s m args below meth c H locs _ _ _ (F0 m 113 ls [.int (iN (z_29))])
    refine x_if_ne (tgt := 122) hC ⟨by omega, by omega⟩ dX3_ofView_113 (by decide) (fun c_30 => ?_) (fun c_30 => ?_)
    · refine lv_aload_n hC.1 hC.2.1 dX3_ofView_122 rfl (lv_at hl 0 rfl) ?_
      refine x_callV hC hw (lv_size hl) (c_X1_book l G hVx_4 hBx_5) gX3_ofView_X1_book rfl dv_X1_book hVx_4.1 rfl rfl (Nat.le_of_ble_eq_true rfl) (by rw [hRf]; decide) (by rw [hRl]; decide) (by omega) (by omega) dX3_ofView_123 (fun r9 M_31 H locs hq hw => ?_)
      obtain ⟨rfl, hM9⟩ := hq
      rw [hM9] at hw
      show W p l e R s m args below meth c H locs _ _ _ (F0 m 126 ls [.ref (qb ix_4)])
      refine lv_aload_n hC.1 hC.2.1 dX3_ofView_126 rfl (lv_at hl 0 rfl) ?_
      refine x_callV hC hw (lv_size hl) (c_X1_start l G hVx_4 hBx_5) gX3_ofView_X1_start rfl dv_X1_start hVx_4.1 rfl rfl (Nat.le_of_ble_eq_true rfl) (by rw [hRf]; decide) (by rw [hRl]; decide) (by omega) (by omega) dX3_ofView_127 (fun r9 M_32 H locs hq hw => ?_)
      obtain ⟨z_33, rfl, hM9, hz_33a, hz_33b⟩ := hq
      rw [hM9] at hw
      show W p l e R s m args below meth c H locs _ _ _ (F0 m 130 ls [.int (iN (z_33)), .ref (qb ix_4)])
      refine x_callV hC hw (lv_size hl) (c_X0_keyAt l G hBx_5 (p0 := z_33) (by omega)) gX3_ofView_X0_keyAt rfl dv_X0_keyAt hBx_5.1 rfl rfl (Nat.le_of_ble_eq_true rfl) (by rw [hRf]; decide) (by rw [hRl]; decide) (by omega) (by omega) dX3_ofView_130 (fun r9 M_34 H locs hq hw => ?_)
      obtain ⟨z_35, rfl, hM9, hz_35, hz_35b⟩ := hq
      rw [hM9] at hw
      show W p l e R s m args below meth c H locs _ _ _ (F0 m 133 ls [.int (iN (z_35))])
      exact vx_ret (x_iret hC hw dX3_ofView_133 (by omega) (by omega) ⟨(iN (z_35)).toInt, by simp only [iN_asI], iN_rng _, ⟨_, _, _, _, _, _, _, _, _, _, hR⟩⟩)
    · refine x_sipush hC dX3_ofView_116 (by decide +kernel) ?_
      refine lv_goto (tgt := 133) hC.1 hC.2.1 dX3_ofView_119 (by decide) ?_
      exact vx_ret (x_iret hC hw dX3_ofView_133 (by omega) (by omega) ⟨(iN ((-10000))).toInt, by simp only [iN_asI], iN_rng _, ⟨_, _, _, _, _, _, _, _, _, _, hR⟩⟩)
  by_cases c_36 : p1 = 7
  · refine x_tsw (off := 121) (tgt := 134) (k := 7) hC (by omega) dX3_ofView_13 (by decide) (by decide) rfl (by decide) ?_
    refine lv_aload_n hC.1 hC.2.1 dX3_ofView_134 rfl (lv_at hl 0 rfl) ?_
    refine x_callV hC hw (lv_size hl) (c_X1_size l G hVx_4 hBx_5) gX3_ofView_X1_size rfl dv_X1_size hVx_4.1 rfl rfl (Nat.le_of_ble_eq_true rfl) (by rw [hRf]; decide) (by rw [hRl]; decide) (by omega) (by omega) dX3_ofView_135 (fun r9 M_37 H locs hq hw => ?_)
    obtain ⟨z_38, rfl, hM9, hz_38a, hz_38b⟩ := hq
    rw [hM9] at hw
    show W p l e R s m args below meth c H locs _ _ _ (F0 m 138 ls [.int (iN (z_38))])
    refine x_if_ne (tgt := 147) hC ⟨by omega, by omega⟩ dX3_ofView_138 (by decide) (fun c_39 => ?_) (fun c_39 => ?_)
    · refine lv_aload_n hC.1 hC.2.1 dX3_ofView_147 rfl (lv_at hl 0 rfl) ?_
      refine x_callV hC hw (lv_size hl) (c_X1_book l G hVx_4 hBx_5) gX3_ofView_X1_book rfl dv_X1_book hVx_4.1 rfl rfl (Nat.le_of_ble_eq_true rfl) (by rw [hRf]; decide) (by rw [hRl]; decide) (by omega) (by omega) dX3_ofView_148 (fun r9 M_40 H locs hq hw => ?_)
      obtain ⟨rfl, hM9⟩ := hq
      rw [hM9] at hw
      show W p l e R s m args below meth c H locs _ _ _ (F0 m 151 ls [.ref (qb ix_4)])
      refine lv_aload_n hC.1 hC.2.1 dX3_ofView_151 rfl (lv_at hl 0 rfl) ?_
      refine x_callV hC hw (lv_size hl) (c_X1_end l G hVx_4 hBx_5) gX3_ofView_X1_end rfl dv_X1_end hVx_4.1 rfl rfl (Nat.le_of_ble_eq_true rfl) (by rw [hRf]; decide) (by rw [hRl]; decide) (by omega) (by omega) dX3_ofView_152 (fun r9 M_41 H locs hq hw => ?_)
      obtain ⟨z_42, rfl, hM9, hz_42a, hz_42b⟩ := hq
      rw [hM9] at hw
      show W p l e R s m args below meth c H locs _ _ _ (F0 m 155 ls [.int (iN (z_42)), .ref (qb ix_4)])
      refine x_const hC dX3_ofView_155 ?_
      refine x_isub hC dX3_ofView_156 ?_
      refine x_callV hC hw (lv_size hl) (c_X0_keyAt l G hBx_5 (p0 := (z_42 - 1)) (by omega)) gX3_ofView_X0_keyAt rfl dv_X0_keyAt hBx_5.1 rfl rfl (Nat.le_of_ble_eq_true rfl) (by rw [hRf]; decide) (by rw [hRl]; decide) (by omega) (by omega) dX3_ofView_157 (fun r9 M_43 H locs hq hw => ?_)
      obtain ⟨z_44, rfl, hM9, hz_44, hz_44b⟩ := hq
      rw [hM9] at hw
      show W p l e R s m args below meth c H locs _ _ _ (F0 m 160 ls [.int (iN (z_44))])
      exact vx_ret (x_iret hC hw dX3_ofView_160 (by omega) (by omega) ⟨(iN (z_44)).toInt, by simp only [iN_asI], iN_rng _, ⟨_, _, _, _, _, _, _, _, _, _, hR⟩⟩)
    · refine x_sipush hC dX3_ofView_141 (by decide +kernel) ?_
      refine lv_goto (tgt := 160) hC.1 hC.2.1 dX3_ofView_144 (by decide) ?_
      exact vx_ret (x_iret hC hw dX3_ofView_160 (by omega) (by omega) ⟨(iN ((-10000))).toInt, by simp only [iN_asI], iN_rng _, ⟨_, _, _, _, _, _, _, _, _, _, hR⟩⟩)
  refine x_tswd (tgt := 161) hC ⟨by omega, by omega⟩ dX3_ofView_13 (by omega) (by decide) ?_
  refine lv_aload_n hC.1 hC.2.1 dX3_ofView_161 rfl (lv_at hl 0 rfl) ?_
  refine x_callV hC hw (lv_size hl) (c_X1_book l G hVx_4 hBx_5) gX3_ofView_X1_book rfl dv_X1_book hVx_4.1 rfl rfl (Nat.le_of_ble_eq_true rfl) (by rw [hRf]; decide) (by rw [hRl]; decide) (by omega) (by omega) dX3_ofView_162 (fun r9 M_45 H locs hq hw => ?_)
  obtain ⟨rfl, hM9⟩ := hq
  rw [hM9] at hw
  show W p l e R s m args below meth c H locs _ _ _ (F0 m 165 ls [.ref (qb ix_4)])
  refine lv_aload_n hC.1 hC.2.1 dX3_ofView_165 rfl (lv_at hl 0 rfl) ?_
  refine x_callV hC hw (lv_size hl) (c_X1_start l G hVx_4 hBx_5) gX3_ofView_X1_start rfl dv_X1_start hVx_4.1 rfl rfl (Nat.le_of_ble_eq_true rfl) (by rw [hRf]; decide) (by rw [hRl]; decide) (by omega) (by omega) dX3_ofView_166 (fun r9 M_46 H locs hq hw => ?_)
  obtain ⟨z_47, rfl, hM9, hz_47a, hz_47b⟩ := hq
  rw [hM9] at hw
  show W p l e R s m args below meth c H locs _ _ _ (F0 m 169 ls [.int (iN (z_47)), .ref (qb ix_4)])
  refine lv_aload_n hC.1 hC.2.1 dX3_ofView_169 rfl (lv_at hl 0 rfl) ?_
  refine x_callV hC hw (lv_size hl) (c_X1_end l G hVx_4 hBx_5) gX3_ofView_X1_end rfl dv_X1_end hVx_4.1 rfl rfl (Nat.le_of_ble_eq_true rfl) (by rw [hRf]; decide) (by rw [hRl]; decide) (by omega) (by omega) dX3_ofView_170 (fun r9 M_48 H locs hq hw => ?_)
  obtain ⟨z_49, rfl, hM9, hz_49a, hz_49b⟩ := hq
  rw [hM9] at hw
  show W p l e R s m args below meth c H locs _ _ _ (F0 m 173 ls [.int (iN (z_49)), .int (iN (z_47)), .ref (qb ix_4)])
  refine x_callV hC hw (lv_size hl) (c_X0_sum l G hBx_5 (p0 := z_47) (by omega) (p1 := z_49) (by omega)) gX3_ofView_X0_sum rfl dv_X0_sum hBx_5.1 rfl rfl (Nat.le_of_ble_eq_true rfl) (by rw [hRf]; decide) (by rw [hRl]; decide) (by omega) (by omega) dX3_ofView_173 (fun r9 M_50 H locs hq hw => ?_)
  obtain ⟨z_51, rfl, hM9, hz_51⟩ := hq
  rw [hM9] at hw
  show W p l e R s m args below meth c H locs _ _ _ (F0 m 176 ls [.int (iN (z_51))])
  exact vx_ret (x_iret hC hw dX3_ofView_176 (by omega) (by omega) ⟨(iN (z_51)).toInt, by simp only [iN_asI], iN_rng _, ⟨_, _, _, _, _, _, _, _, _, _, hR⟩⟩)
set_option maxHeartbeats 4000000 in
set_option maxRecDepth 100000 in
theorem c_X3_ledger (l : Launch) (G : xG) {M : HM} (hst : l.stackTraces = false) {h0 bs vs : Nat} {og : Option Nat} {kk kv rf : Int32} {qb qk qv : Nat → Nat} {fb fv : Nat → Option Nat} (hR : RGx G M h0 bs vs og kk kv rf qb qk qv fb fv) {p0 : Int} (hp0 : -2147483648 ≤ p0 ∧ p0 ≤ 2147483647) : xMetX l G yX3_ledger wsX3_ledger 7 111 1 6 [.ref h0, .int (iN (p0))] M (fun r M1 => ∃ z : Int, r = some (.int (iN z)) ∧ (-2147483648 ≤ z ∧ z ≤ 2147483647) ∧ RG G M1 h0 rf) (fun E M1 => E ∈ [xIA] ∧ RG G M1 h0 rf) := by
  refine x_introX (cc := cX3_ledger) (maxL := 2) (ret := (some .int)) (by decide +kernel) rfl (Nat.le_of_ble_eq_true rfl) ?_
  intro p e R s m args below meth c ls hRf hRc hRs hRl htab hC hw hl
  have hinX3 : ∀ w ∈ wsX30, w ∈ wsX3_ledger := by decide +kernel
  have hl : lv_has ls 2 [(0, .ref h0), (1, .int (iN (p0)))] := hl
  refine lv_iload_n hC.1 hC.2.1 dX3_ledger_0 rfl (lv_at hl 1 rfl) ?_
  refine x_bipush hC dX3_ledger_1 (by decide +kernel) ?_
  refine x_callSX hC hw (lv_size hl) (c_X3_checkWhat l G (M := M) hst (p0 := p0) (by omega) (p1 := 6) (by omega)) gX3_ledger_X3_checkWhat rfl dv_X3_checkWhat_s rfl (Nat.le_of_ble_eq_true rfl) (by rw [hRf]; decide) (by rw [hRl]; decide) (by omega) (by omega) dX3_ledger_3 (fun E ce q9 M_1 H locs hqx hw hcell hcv hcls => ?_) (fun r9 M_1 H locs hq hw => ?_)
  · rw [hqx.2] at hw
    exact x_outX hC hw htab hcell hcv hcls (by omega) (by omega) ⟨(show ∀ x ∈ [xIA], x ∈ [xIA] from by decide +kernel) E hqx.1, ⟨_, _, _, _, _, _, _, _, _, _, hR⟩⟩
  obtain ⟨rfl, hM9, hk_2⟩ := hq
  rw [hM9] at hw
  show W p l e R s m args below meth c H locs _ _ _ (F0 m 6 ls [])
  refine lv_iload_n hC.1 hC.2.1 dX3_ledger_6 rfl (lv_at hl 1 rfl) ?_
  by_cases c_3 : p0 = 0
  · refine x_tsw (off := 37) (tgt := 44) (k := 0) hC (by omega) dX3_ledger_7 (by decide) (by decide) rfl (by decide) ?_
    refine lv_aload_n hC.1 hC.2.1 dX3_ledger_44 rfl (lv_at hl 0 rfl) ?_
    refine x_callV hC hw (lv_size hl) (c_X3_openViews l G hR) gX3_ledger_X3_openViews rfl dv_X3_openViews hR.1 rfl rfl (Nat.le_of_ble_eq_true rfl) (by rw [hRf]; decide) (by rw [hRl]; decide) (by omega) (by omega) dX3_ledger_45 (fun r9 M_4 H locs hq hw => ?_)
    obtain ⟨z_5, rfl, hM9, hz_5⟩ := hq
    rw [hM9] at hw
    show W p l e R s m args below meth c H locs _ _ _ (F0 m 48 ls [.int (iN (z_5))])
    exact vx_ret (x_iret hC hw dX3_ledger_48 (by omega) (by omega) ⟨(iN (z_5)).toInt, by simp only [iN_asI], iN_rng _, ⟨_, _, _, _, _, _, _, _, _, _, hR⟩⟩)
  by_cases c_6 : p0 = 1
  · refine x_tsw (off := 42) (tgt := 49) (k := 1) hC (by omega) dX3_ledger_7 (by decide) (by decide) rfl (by decide) ?_
    refine lv_aload_n hC.1 hC.2.1 dX3_ledger_49 rfl (lv_at hl 0 rfl) ?_
    refine x_get hC hw hR.1 rfl hinX3 2 (by decide) (by decide +kernel) rfl dX3_ledger_50 ?_
    rcases og with _ | w_7
    · show W p l e R s m args below meth c _ _ _ _ _ (F0 m 53 ls [.null])
      refine lv_ifnonnullN hC.1 hC.2.1 dX3_ledger_53 ?_
      refine x_sipush hC dX3_ledger_56 (by decide +kernel) ?_
      refine lv_goto (tgt := 72) hC.1 hC.2.1 dX3_ledger_59 (by decide) ?_
      exact vx_ret (x_iret hC hw dX3_ledger_72 (by omega) (by omega) ⟨(iN ((-10000))).toInt, by simp only [iN_asI], iN_rng _, ⟨_, _, _, _, _, _, _, _, _, _, hR⟩⟩)
    · obtain ⟨yx_8, psx_8, tx_8, kcx_8, cdx_8, hWx_8, hEx_8⟩ := hR.wk rfl
      have hcdx_8 := hWx_8.2
      obtain ⟨ix_9, lox_9, upx_9, swx_9, ewx_9, lix_9, uix_9, hix_9, hVx_9⟩ := hEx_8
      have hlix_9 := hVx_9.2.1
      have huix_9 := hVx_9.2.2
      obtain ⟨nox_10, ox_10, tx_10, kcx_10, szx_10, fkx_10, fwx_10, hBx_10⟩ := hR.bk hix_9
      obtain ⟨-, -, -, -, hsax_10, hsbx_10⟩ := id hBx_10
      show W p l e R s m args below meth c _ _ _ _ _ (F0 m 53 ls [.ref w_7])
      refine lv_ifnonnull (tgt := 62) hC.1 hC.2.1 dX3_ledger_53 (by decide) ?_
      refine lv_aload_n hC.1 hC.2.1 dX3_ledger_62 rfl (lv_at hl 0 rfl) ?_
      refine x_get hC hw hR.1 rfl hinX3 2 (by decide) (by decide +kernel) rfl dX3_ledger_63 ?_
      show W p l e R s m args below meth c _ _ _ _ _ (F0 m 66 ls [.ref w_7])
      refine x_callV hC hw (lv_size hl) (c_X2_book l G hWx_8 hVx_9 hBx_10) gX3_ledger_X2_book rfl dv_X2_book hWx_8.1 rfl rfl (Nat.le_of_ble_eq_true rfl) (by rw [hRf]; decide) (by rw [hRl]; decide) (by omega) (by omega) dX3_ledger_66 (fun r9 M_11 H locs hq hw => ?_)
      obtain ⟨rfl, hM9⟩ := hq
      rw [hM9] at hw
      show W p l e R s m args below meth c H locs _ _ _ (F0 m 69 ls [.ref (qb ix_9)])
      refine x_callV hC hw (lv_size hl) (c_X0_number l G hBx_10) gX3_ledger_X0_number rfl dv_X0_number hBx_10.1 rfl rfl (Nat.le_of_ble_eq_true rfl) (by rw [hRf]; decide) (by rw [hRl]; decide) (by omega) (by omega) dX3_ledger_69 (fun r9 M_12 H locs hq hw => ?_)
      obtain ⟨rfl, hM9⟩ := hq
      rw [hM9] at hw
      have hrr_13 := iN_rng nox_10
      show W p l e R s m args below meth c H locs _ _ _ (F0 m 72 ls [.int (iN (nox_10.toInt))])
      exact vx_ret (x_iret hC hw dX3_ledger_72 (by omega) (by omega) ⟨(iN (nox_10.toInt)).toInt, by simp only [iN_asI], iN_rng _, ⟨_, _, _, _, _, _, _, _, _, _, hR⟩⟩)
  by_cases c_14 : p0 = 2
  · refine x_tsw (off := 66) (tgt := 73) (k := 2) hC (by omega) dX3_ledger_7 (by decide) (by decide) rfl (by decide) ?_
    refine lv_aload_n hC.1 hC.2.1 dX3_ledger_73 rfl (lv_at hl 0 rfl) ?_
    refine x_get hC hw hR.1 rfl hinX3 2 (by decide) (by decide +kernel) rfl dX3_ledger_74 ?_
    rcases og with _ | w_15
    · show W p l e R s m args below meth c _ _ _ _ _ (F0 m 77 ls [.null])
      refine lv_ifnullN (tgt := 94) hC.1 hC.2.1 dX3_ledger_77 (by decide) ?_
      refine x_const hC dX3_ledger_94 ?_
      exact vx_ret (x_iret hC hw dX3_ledger_95 (by omega) (by omega) ⟨(iN (0)).toInt, by simp only [iN_asI], iN_rng _, ⟨_, _, _, _, _, _, _, _, _, _, hR⟩⟩)
    · obtain ⟨yx_16, psx_16, tx_16, kcx_16, cdx_16, hWx_16, hEx_16⟩ := hR.wk rfl
      have hcdx_16 := hWx_16.2
      obtain ⟨ix_17, lox_17, upx_17, swx_17, ewx_17, lix_17, uix_17, hix_17, hVx_17⟩ := hEx_16
      have hlix_17 := hVx_17.2.1
      have huix_17 := hVx_17.2.2
      obtain ⟨nox_18, ox_18, tx_18, kcx_18, szx_18, fkx_18, fwx_18, hBx_18⟩ := hR.bk hix_17
      obtain ⟨-, -, -, -, hsax_18, hsbx_18⟩ := id hBx_18
      show W p l e R s m args below meth c _ _ _ _ _ (F0 m 77 ls [.ref w_15])
      refine lv_ifnull hC.1 hC.2.1 dX3_ledger_77 ?_
      refine lv_aload_n hC.1 hC.2.1 dX3_ledger_80 rfl (lv_at hl 0 rfl) ?_
      refine x_get hC hw hR.1 rfl hinX3 2 (by decide) (by decide +kernel) rfl dX3_ledger_81 ?_
      show W p l e R s m args below meth c _ _ _ _ _ (F0 m 84 ls [.ref w_15])
      refine x_callV hC hw (lv_size hl) (c_X2_isBroken l G hWx_16 hVx_17 hBx_18) gX3_ledger_X2_isBroken rfl dv_X2_isBroken hWx_16.1 rfl rfl (Nat.le_of_ble_eq_true rfl) (by rw [hRf]; decide) (by rw [hRl]; decide) (by omega) (by omega) dX3_ledger_84 (fun r9 M_19 H locs hq hw => ?_)
      obtain ⟨z_20, rfl, hM9, hz_20⟩ := hq
      rw [hM9] at hw
      show W p l e R s m args below meth c H locs _ _ _ (F0 m 87 ls [.int (iN (z_20))])
      refine x_if_eq (tgt := 94) hC ⟨by omega, by omega⟩ dX3_ledger_87 (by decide) (fun c_21 => ?_) (fun c_21 => ?_)
      · refine x_const hC dX3_ledger_94 ?_
        exact vx_ret (x_iret hC hw dX3_ledger_95 (by omega) (by omega) ⟨(iN (0)).toInt, by simp only [iN_asI], iN_rng _, ⟨_, _, _, _, _, _, _, _, _, _, hR⟩⟩)
      · refine x_const hC dX3_ledger_90 ?_
        refine lv_goto (tgt := 95) hC.1 hC.2.1 dX3_ledger_91 (by decide) ?_
        exact vx_ret (x_iret hC hw dX3_ledger_95 (by omega) (by omega) ⟨(iN (1)).toInt, by simp only [iN_asI], iN_rng _, ⟨_, _, _, _, _, _, _, _, _, _, hR⟩⟩)
  by_cases c_22 : p0 = 3
  · refine x_tsw (off := 89) (tgt := 96) (k := 3) hC (by omega) dX3_ledger_7 (by decide) (by decide) rfl (by decide) ?_
    refine lv_aload_n hC.1 hC.2.1 dX3_ledger_96 rfl (lv_at hl 0 rfl) ?_
    refine x_get hC hw hR.1 rfl hinX3 2 (by decide) (by decide +kernel) rfl dX3_ledger_97 ?_
    rcases og with _ | w_23
    · show W p l e R s m args below meth c _ _ _ _ _ (F0 m 100 ls [.null])
      refine lv_ifnonnullN hC.1 hC.2.1 dX3_ledger_100 ?_
      refine x_sipush hC dX3_ledger_103 (by decide +kernel) ?_
      refine lv_goto (tgt := 116) hC.1 hC.2.1 dX3_ledger_106 (by decide) ?_
      exact vx_ret (x_iret hC hw dX3_ledger_116 (by omega) (by omega) ⟨(iN ((-10000))).toInt, by simp only [iN_asI], iN_rng _, ⟨_, _, _, _, _, _, _, _, _, _, hR⟩⟩)
    · obtain ⟨yx_24, psx_24, tx_24, kcx_24, cdx_24, hWx_24, hEx_24⟩ := hR.wk rfl
      have hcdx_24 := hWx_24.2
      obtain ⟨ix_25, lox_25, upx_25, swx_25, ewx_25, lix_25, uix_25, hix_25, hVx_25⟩ := hEx_24
      have hlix_25 := hVx_25.2.1
      have huix_25 := hVx_25.2.2
      obtain ⟨nox_26, ox_26, tx_26, kcx_26, szx_26, fkx_26, fwx_26, hBx_26⟩ := hR.bk hix_25
      obtain ⟨-, -, -, -, hsax_26, hsbx_26⟩ := id hBx_26
      show W p l e R s m args below meth c _ _ _ _ _ (F0 m 100 ls [.ref w_23])
      refine lv_ifnonnull (tgt := 109) hC.1 hC.2.1 dX3_ledger_100 (by decide) ?_
      refine lv_aload_n hC.1 hC.2.1 dX3_ledger_109 rfl (lv_at hl 0 rfl) ?_
      refine x_get hC hw hR.1 rfl hinX3 2 (by decide) (by decide +kernel) rfl dX3_ledger_110 ?_
      show W p l e R s m args below meth c _ _ _ _ _ (F0 m 113 ls [.ref w_23])
      refine x_callV hC hw (lv_size hl) (c_X2_keyAtHand l G hWx_24 hVx_25 hBx_26) gX3_ledger_X2_keyAtHand rfl dv_X2_keyAtHand hWx_24.1 rfl rfl (Nat.le_of_ble_eq_true rfl) (by rw [hRf]; decide) (by rw [hRl]; decide) (by omega) (by omega) dX3_ledger_113 (fun r9 M_27 H locs hq hw => ?_)
      obtain ⟨z_28, rfl, hM9, hz_28⟩ := hq
      rw [hM9] at hw
      show W p l e R s m args below meth c H locs _ _ _ (F0 m 116 ls [.int (iN (z_28))])
      exact vx_ret (x_iret hC hw dX3_ledger_116 (by omega) (by omega) ⟨(iN (z_28)).toInt, by simp only [iN_asI], iN_rng _, ⟨_, _, _, _, _, _, _, _, _, _, hR⟩⟩)
  by_cases c_29 : p0 = 4
  · refine x_tsw (off := 110) (tgt := 117) (k := 4) hC (by omega) dX3_ledger_7 (by decide) (by decide) rfl (by decide) ?_
    refine lv_aload_n hC.1 hC.2.1 dX3_ledger_117 rfl (lv_at hl 0 rfl) ?_
    refine x_getR hC hw hR.1 rfl hinX3 3 (by decide) (by decide +kernel) rfl dX3_ledger_118 ?_
    have hrr_30 := iN_rng kk
    exact vx_ret (x_iret hC hw dX3_ledger_121 (by omega) (by omega) ⟨(iN (kk.toInt)).toInt, by simp only [iN_asI], iN_rng _, ⟨_, _, _, _, _, _, _, _, _, _, hR⟩⟩)
  by_cases c_31 : p0 = 5
  · refine x_tsw (off := 115) (tgt := 122) (k := 5) hC (by omega) dX3_ledger_7 (by decide) (by decide) rfl (by decide) ?_
    refine lv_aload_n hC.1 hC.2.1 dX3_ledger_122 rfl (lv_at hl 0 rfl) ?_
    refine x_getR hC hw hR.1 rfl hinX3 4 (by decide) (by decide +kernel) rfl dX3_ledger_123 ?_
    have hrr_32 := iN_rng kv
    exact vx_ret (x_iret hC hw dX3_ledger_126 (by omega) (by omega) ⟨(iN (kv.toInt)).toInt, by simp only [iN_asI], iN_rng _, ⟨_, _, _, _, _, _, _, _, _, _, hR⟩⟩)
  refine x_tswd (tgt := 127) hC ⟨by omega, by omega⟩ dX3_ledger_7 (by omega) (by decide) ?_
  refine lv_aload_n hC.1 hC.2.1 dX3_ledger_127 rfl (lv_at hl 0 rfl) ?_
  refine x_getR hC hw hR.1 rfl hinX3 5 (by decide) (by decide +kernel) rfl dX3_ledger_128 ?_
  have hrr_33 := iN_rng rf
  exact vx_ret (x_iret hC hw dX3_ledger_131 (by omega) (by omega) ⟨(iN (rf.toInt)).toInt, by simp only [iN_asI], iN_rng _, ⟨_, _, _, _, _, _, _, _, _, _, hR⟩⟩)
