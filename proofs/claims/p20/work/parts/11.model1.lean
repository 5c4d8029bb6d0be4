/-! the methods of the model, by program -/
theorem dv_X5_isIn_s : yX5_isIn.cls ≠ "java/lang/invoke/MethodHandle" ∧ yX5_isIn.cls ≠ "java/lang/invoke/VarHandle" ∧ (parseMethodDescriptor yX5_isIn.desc).map (fun d => d.parameters.length) = some 3 := by decide +kernel
theorem dv_X5_refuse : yX5_refuse.cls = RX5 ∧ yX5_refuse.cls ≠ "java/lang/invoke/MethodHandle" ∧ yX5_refuse.cls ≠ "java/lang/invoke/VarHandle" ∧ (parseMethodDescriptor yX5_refuse.desc).map (fun d => d.parameters.length) = some 2 := by decide +kernel
theorem dv_X5_isNoBook_s : yX5_isNoBook.cls ≠ "java/lang/invoke/MethodHandle" ∧ yX5_isNoBook.cls ≠ "java/lang/invoke/VarHandle" ∧ (parseMethodDescriptor yX5_isNoBook.desc).map (fun d => d.parameters.length) = some 1 := by decide +kernel
theorem dv_X5_start : yX5_start.cls = RX5 ∧ yX5_start.cls ≠ "java/lang/invoke/MethodHandle" ∧ yX5_start.cls ≠ "java/lang/invoke/VarHandle" ∧ (parseMethodDescriptor yX5_start.desc).map (fun d => d.parameters.length) = some 2 := by decide +kernel
theorem dv_X5_isNoKey_s : yX5_isNoKey.cls ≠ "java/lang/invoke/MethodHandle" ∧ yX5_isNoKey.cls ≠ "java/lang/invoke/VarHandle" ∧ (parseMethodDescriptor yX5_isNoKey.desc).map (fun d => d.parameters.length) = some 1 := by decide +kernel
theorem dv_X5_isNoValue_s : yX5_isNoValue.cls ≠ "java/lang/invoke/MethodHandle" ∧ yX5_isNoValue.cls ≠ "java/lang/invoke/VarHandle" ∧ (parseMethodDescriptor yX5_isNoValue.desc).map (fun d => d.parameters.length) = some 1 := by decide +kernel
theorem dv_X5_weight : yX5_weight.cls = RX5 ∧ yX5_weight.cls ≠ "java/lang/invoke/MethodHandle" ∧ yX5_weight.cls ≠ "java/lang/invoke/VarHandle" ∧ (parseMethodDescriptor yX5_weight.desc).map (fun d => d.parameters.length) = some 2 := by decide +kernel
theorem dv_X5_isWithin : yX5_isWithin.cls = RX5 ∧ yX5_isWithin.cls ≠ "java/lang/invoke/MethodHandle" ∧ yX5_isWithin.cls ≠ "java/lang/invoke/VarHandle" ∧ (parseMethodDescriptor yX5_isWithin.desc).map (fun d => d.parameters.length) = some 2 := by decide +kernel
theorem dv_X5_shows : yX5_shows.cls = RX5 ∧ yX5_shows.cls ≠ "java/lang/invoke/MethodHandle" ∧ yX5_shows.cls ≠ "java/lang/invoke/VarHandle" ∧ (parseMethodDescriptor yX5_shows.desc).map (fun d => d.parameters.length) = some 2 := by decide +kernel
theorem dv_X5_closest : yX5_closest.cls = RX5 ∧ yX5_closest.cls ≠ "java/lang/invoke/MethodHandle" ∧ yX5_closest.cls ≠ "java/lang/invoke/VarHandle" ∧ (parseMethodDescriptor yX5_closest.desc).map (fun d => d.parameters.length) = some 3 := by decide +kernel
theorem dv_X5_one_s : yX5_one.cls ≠ "java/lang/invoke/MethodHandle" ∧ yX5_one.cls ≠ "java/lang/invoke/VarHandle" ∧ (parseMethodDescriptor yX5_one.desc).map (fun d => d.parameters.length) = some 1 := by decide +kernel
theorem dv_X5_whole_s : yX5_whole.cls ≠ "java/lang/invoke/MethodHandle" ∧ yX5_whole.cls ≠ "java/lang/invoke/VarHandle" ∧ (parseMethodDescriptor yX5_whole.desc).map (fun d => d.parameters.length) = some 1 := by decide +kernel
theorem dv_X5_set : yX5_set.cls = RX5 ∧ yX5_set.cls ≠ "java/lang/invoke/MethodHandle" ∧ yX5_set.cls ≠ "java/lang/invoke/VarHandle" ∧ (parseMethodDescriptor yX5_set.desc).map (fun d => d.parameters.length) = some 3 := by decide +kernel
theorem dv_X5_held_s : yX5_held.cls ≠ "java/lang/invoke/MethodHandle" ∧ yX5_held.cls ≠ "java/lang/invoke/VarHandle" ∧ (parseMethodDescriptor yX5_held.desc).map (fun d => d.parameters.length) = some 1 := by decide +kernel
theorem dv_X5_isBad_ : yX5_isBad_.cls = RX5 ∧ yX5_isBad_.cls ≠ "java/lang/invoke/MethodHandle" ∧ yX5_isBad_.cls ≠ "java/lang/invoke/VarHandle" ∧ (parseMethodDescriptor yX5_isBad_.desc).map (fun d => d.parameters.length) = some 3 := by decide +kernel
theorem dv_X5_touch : yX5_touch.cls = RX5 ∧ yX5_touch.cls ≠ "java/lang/invoke/MethodHandle" ∧ yX5_touch.cls ≠ "java/lang/invoke/VarHandle" ∧ (parseMethodDescriptor yX5_touch.desc).map (fun d => d.parameters.length) = some 1 := by decide +kernel
theorem dv_X5_isBad : yX5_isBad.cls = RX5 ∧ yX5_isBad.cls ≠ "java/lang/invoke/MethodHandle" ∧ yX5_isBad.cls ≠ "java/lang/invoke/VarHandle" ∧ (parseMethodDescriptor yX5_isBad.desc).map (fun d => d.parameters.length) = some 2 := by decide +kernel
theorem dv_X5_mergeOf : yX5_mergeOf.cls = RX5 ∧ yX5_mergeOf.cls ≠ "java/lang/invoke/MethodHandle" ∧ yX5_mergeOf.cls ≠ "java/lang/invoke/VarHandle" ∧ (parseMethodDescriptor yX5_mergeOf.desc).map (fun d => d.parameters.length) = some 3 := by decide +kernel
theorem dv_X5_end : yX5_end.cls = RX5 ∧ yX5_end.cls ≠ "java/lang/invoke/MethodHandle" ∧ yX5_end.cls ≠ "java/lang/invoke/VarHandle" ∧ (parseMethodDescriptor yX5_end.desc).map (fun d => d.parameters.length) = some 2 := by decide +kernel
theorem dv_X5_having : yX5_having.cls = RX5 ∧ yX5_having.cls ≠ "java/lang/invoke/MethodHandle" ∧ yX5_having.cls ≠ "java/lang/invoke/VarHandle" ∧ (parseMethodDescriptor yX5_having.desc).map (fun d => d.parameters.length) = some 2 := by decide +kernel
theorem dv_X5_strikeAll : yX5_strikeAll.cls = RX5 ∧ yX5_strikeAll.cls ≠ "java/lang/invoke/MethodHandle" ∧ yX5_strikeAll.cls ≠ "java/lang/invoke/VarHandle" ∧ (parseMethodDescriptor yX5_strikeAll.desc).map (fun d => d.parameters.length) = some 1 := by decide +kernel
theorem dv_X5_areBad : yX5_areBad.cls = RX5 ∧ yX5_areBad.cls ≠ "java/lang/invoke/MethodHandle" ∧ yX5_areBad.cls ≠ "java/lang/invoke/VarHandle" ∧ (parseMethodDescriptor yX5_areBad.desc).map (fun d => d.parameters.length) = some 2 := by decide +kernel
theorem dv_X5_many : yX5_many.cls = RX5 ∧ yX5_many.cls ≠ "java/lang/invoke/MethodHandle" ∧ yX5_many.cls ≠ "java/lang/invoke/VarHandle" ∧ (parseMethodDescriptor yX5_many.desc).map (fun d => d.parameters.length) = some 1 := by decide +kernel
theorem dv_X5_free : yX5_free.cls = RX5 ∧ yX5_free.cls ≠ "java/lang/invoke/MethodHandle" ∧ yX5_free.cls ≠ "java/lang/invoke/VarHandle" ∧ (parseMethodDescriptor yX5_free.desc).map (fun d => d.parameters.length) = some 0 := by decide +kernel
theorem dv_X5_open : yX5_open.cls = RX5 ∧ yX5_open.cls ≠ "java/lang/invoke/MethodHandle" ∧ yX5_open.cls ≠ "java/lang/invoke/VarHandle" ∧ (parseMethodDescriptor yX5_open.desc).map (fun d => d.parameters.length) = some 1 := by decide +kernel
theorem dv_X5_isNoView : yX5_isNoView.cls = RX5 ∧ yX5_isNoView.cls ≠ "java/lang/invoke/MethodHandle" ∧ yX5_isNoView.cls ≠ "java/lang/invoke/VarHandle" ∧ (parseMethodDescriptor yX5_isNoView.desc).map (fun d => d.parameters.length) = some 1 := by decide +kernel
theorem dv_X5_begin : yX5_begin.cls = RX5 ∧ yX5_begin.cls ≠ "java/lang/invoke/MethodHandle" ∧ yX5_begin.cls ≠ "java/lang/invoke/VarHandle" ∧ (parseMethodDescriptor yX5_begin.desc).map (fun d => d.parameters.length) = some 1 := by decide +kernel
theorem dv_X5_valueOf : yX5_valueOf.cls = RX5 ∧ yX5_valueOf.cls ≠ "java/lang/invoke/MethodHandle" ∧ yX5_valueOf.cls ≠ "java/lang/invoke/VarHandle" ∧ (parseMethodDescriptor yX5_valueOf.desc).map (fun d => d.parameters.length) = some 2 := by decide +kernel
theorem dv_X5_sum : yX5_sum.cls = RX5 ∧ yX5_sum.cls ≠ "java/lang/invoke/MethodHandle" ∧ yX5_sum.cls ≠ "java/lang/invoke/VarHandle" ∧ (parseMethodDescriptor yX5_sum.desc).map (fun d => d.parameters.length) = some 1 := by decide +kernel
theorem dv_X5_unlike : yX5_unlike.cls = RX5 ∧ yX5_unlike.cls ≠ "java/lang/invoke/MethodHandle" ∧ yX5_unlike.cls ≠ "java/lang/invoke/VarHandle" ∧ (parseMethodDescriptor yX5_unlike.desc).map (fun d => d.parameters.length) = some 1 := by decide +kernel
theorem dv_X5_viewsOf : yX5_viewsOf.cls = RX5 ∧ yX5_viewsOf.cls ≠ "java/lang/invoke/MethodHandle" ∧ yX5_viewsOf.cls ≠ "java/lang/invoke/VarHandle" ∧ (parseMethodDescriptor yX5_viewsOf.desc).map (fun d => d.parameters.length) = some 1 := by decide +kernel
theorem dv_X5_bookTold : yX5_bookTold.cls = RX5 ∧ yX5_bookTold.cls ≠ "java/lang/invoke/MethodHandle" ∧ yX5_bookTold.cls ≠ "java/lang/invoke/VarHandle" ∧ (parseMethodDescriptor yX5_bookTold.desc).map (fun d => d.parameters.length) = some 2 := by decide +kernel
theorem dv_X5_nearOf : yX5_nearOf.cls = RX5 ∧ yX5_nearOf.cls ≠ "java/lang/invoke/MethodHandle" ∧ yX5_nearOf.cls ≠ "java/lang/invoke/VarHandle" ∧ (parseMethodDescriptor yX5_nearOf.desc).map (fun d => d.parameters.length) = some 3 := by decide +kernel
theorem dv_X5_nearTold : yX5_nearTold.cls = RX5 ∧ yX5_nearTold.cls ≠ "java/lang/invoke/MethodHandle" ∧ yX5_nearTold.cls ≠ "java/lang/invoke/VarHandle" ∧ (parseMethodDescriptor yX5_nearTold.desc).map (fun d => d.parameters.length) = some 3 := by decide +kernel
theorem dv_X5_ahead : yX5_ahead.cls = RX5 ∧ yX5_ahead.cls ≠ "java/lang/invoke/MethodHandle" ∧ yX5_ahead.cls ≠ "java/lang/invoke/VarHandle" ∧ (parseMethodDescriptor yX5_ahead.desc).map (fun d => d.parameters.length) = some 2 := by decide +kernel
theorem dv_X5_areSame : yX5_areSame.cls = RX5 ∧ yX5_areSame.cls ≠ "java/lang/invoke/MethodHandle" ∧ yX5_areSame.cls ≠ "java/lang/invoke/VarHandle" ∧ (parseMethodDescriptor yX5_areSame.desc).map (fun d => d.parameters.length) = some 2 := by decide +kernel
theorem dv_X5_viewTold : yX5_viewTold.cls = RX5 ∧ yX5_viewTold.cls ≠ "java/lang/invoke/MethodHandle" ∧ yX5_viewTold.cls ≠ "java/lang/invoke/VarHandle" ∧ (parseMethodDescriptor yX5_viewTold.desc).map (fun d => d.parameters.length) = some 2 := by decide +kernel
theorem dv_X5_ledgerTold : yX5_ledgerTold.cls = RX5 ∧ yX5_ledgerTold.cls ≠ "java/lang/invoke/MethodHandle" ∧ yX5_ledgerTold.cls ≠ "java/lang/invoke/VarHandle" ∧ (parseMethodDescriptor yX5_ledgerTold.desc).map (fun d => d.parameters.length) = some 1 := by decide +kernel
set_option maxHeartbeats 4000000 in
set_option maxRecDepth 100000 in
theorem c_X5_isIn (l : Launch) (G : xG) {M : HM} {p0 : Int} (hp0 : -2147483648 ≤ p0 ∧ p0 ≤ 2147483647) {p1 : Int} (hp1 : -2147483648 ≤ p1 ∧ p1 ≤ 2147483647) {p2 : Int} (hp2 : -2147483648 ≤ p2 ∧ p2 ≤ 2147483647) : xMet l G yX5_isIn wsX5_isIn 0 0 0 0 [.int (iN (p0)), .int (iN (p1)), .int (iN (p2))] M (fun r M1 => ∃ z : Int, r = some (.int (iN z)) ∧ M1 = M ∧ (z = 0 ∨ z = 1) ∧ (z ≠ 0 → p1 ≤ p0 ∧ p0 ≤ p2) ∧ (z = 0 → p0 < p1 ∨ p2 < p0)) := by
  refine x_intro (cc := cX5_isIn) (maxL := 3) (ret := (some .boolean)) (by decide +kernel) rfl (Nat.le_of_ble_eq_true rfl) ?_
  intro p e R s m args below meth c ls hRf hRc hRs hRl hC hw hl
  have hl : lv_has ls 3 [(0, .int (iN (p0))), (1, .int (iN (p1))), (2, .int (iN (p2)))] := hl
  refine lv_iload_n hC.1 hC.2.1 dX5_isIn_0 rfl (lv_at hl 0 rfl) ?_
  refine lv_iload_n hC.1 hC.2.1 dX5_isIn_1 rfl (lv_at hl 1 rfl) ?_
  refine x_icmp_lt (tgt := 14) hC ⟨by omega, by omega⟩ ⟨by omega, by omega⟩ dX5_isIn_2 (by decide) (fun c_1 => ?_) (fun c_1 => ?_)
  · refine x_const hC dX5_isIn_14 ?_
    exact x_zret hC hw (by omega) dX5_isIn_15 (by omega) (by omega) ⟨0, rfl, rfl, by omega, by omega, by omega⟩
  · refine lv_iload_n hC.1 hC.2.1 dX5_isIn_5 rfl (lv_at hl 0 rfl) ?_
    refine lv_iload_n hC.1 hC.2.1 dX5_isIn_6 rfl (lv_at hl 2 rfl) ?_
    refine x_icmp_gt (tgt := 14) hC ⟨by omega, by omega⟩ ⟨by omega, by omega⟩ dX5_isIn_7 (by decide) (fun c_2 => ?_) (fun c_2 => ?_)
    · refine x_const hC dX5_isIn_14 ?_
      exact x_zret hC hw (by omega) dX5_isIn_15 (by omega) (by omega) ⟨0, rfl, rfl, by omega, by omega, by omega⟩
    · refine x_const hC dX5_isIn_10 ?_
      refine lv_goto (tgt := 15) hC.1 hC.2.1 dX5_isIn_11 (by decide) ?_
      exact x_zret hC hw (by omega) dX5_isIn_15 (by omega) (by omega) ⟨1, rfl, rfl, by omega, by omega, by omega⟩
set_option maxHeartbeats 4000000 in
set_option maxRecDepth 100000 in
theorem c_X5_one (l : Launch) (G : xG) {M : HM} {p0 : Int} (hp0 : -2147483648 ≤ p0 ∧ p0 ≤ 2147483647) : xMet l G yX5_one wsX5_one 0 0 0 0 [.int (iN (p0))] M (fun r M1 => ∃ z : Int, r = some (.int (iN z)) ∧ M1 = M ∧ (z = 0 ∨ z = 1) ∧ z = (if p0 = 0 then 0 else 1)) := by
  refine x_intro (cc := cX5_one) (maxL := 1) (ret := (some .int)) (by decide +kernel) rfl (Nat.le_of_ble_eq_true rfl) ?_
  intro p e R s m args below meth c ls hRf hRc hRs hRl hC hw hl
  have hl : lv_has ls 1 [(0, .int (iN (p0)))] := hl
  refine lv_iload_n hC.1 hC.2.1 dX5_one_0 rfl (lv_at hl 0 rfl) ?_
  refine x_if_eq (tgt := 8) hC ⟨by omega, by omega⟩ dX5_one_1 (by decide) (fun c_1 => ?_) (fun c_1 => ?_)
  · refine x_const hC dX5_one_8 ?_
    exact x_iret hC hw dX5_one_9 (by omega) (by omega) ⟨0, rfl, rfl, by omega, by omega⟩
  · refine x_const hC dX5_one_4 ?_
    refine lv_goto (tgt := 9) hC.1 hC.2.1 dX5_one_5 (by decide) ?_
    exact x_iret hC hw dX5_one_9 (by omega) (by omega) ⟨1, rfl, rfl, by omega, by omega⟩
set_option maxHeartbeats 4000000 in
set_option maxRecDepth 100000 in
theorem c_X5_held (l : Launch) (G : xG) {M : HM} {p0 : Int} (hp0 : -2147483648 ≤ p0 ∧ p0 ≤ 2147483647) : xMet l G yX5_held wsX5_held 0 0 0 0 [.int (iN (p0))] M (fun r M1 => ∃ z : Int, r = some (.int (iN z)) ∧ M1 = M ∧ (-9999 ≤ z ∧ z ≤ 9999) ∧ ((9999 < p0 ∧ z = 9999) ∨ (p0 < -9999 ∧ z = -9999) ∨ ((-9999 ≤ p0 ∧ p0 ≤ 9999) ∧ z = p0))) := by
  refine x_intro (cc := cX5_held) (maxL := 1) (ret := (some .int)) (by decide +kernel) rfl (Nat.le_of_ble_eq_true rfl) ?_
  intro p e R s m args below meth c ls hRf hRc hRs hRl hC hw hl
  have hl : lv_has ls 1 [(0, .int (iN (p0)))] := hl
  refine lv_iload_n hC.1 hC.2.1 dX5_held_0 rfl (lv_at hl 0 rfl) ?_
  refine x_sipush hC dX5_held_1 (by decide +kernel) ?_
  refine x_icmp_le (tgt := 13) hC ⟨by omega, by omega⟩ ⟨by omega, by omega⟩ dX5_held_4 (by decide) (fun c_1 => ?_) (fun c_1 => ?_)
  · refine lv_iload_n hC.1 hC.2.1 dX5_held_13 rfl (lv_at hl 0 rfl) ?_
    refine x_sipush hC dX5_held_14 (by decide +kernel) ?_
    refine x_icmp_ge (tgt := 26) hC ⟨by omega, by omega⟩ ⟨by omega, by omega⟩ dX5_held_17 (by decide) (fun c_2 => ?_) (fun c_2 => ?_)
    · refine lv_iload_n hC.1 hC.2.1 dX5_held_26 rfl (lv_at hl 0 rfl) ?_
      exact x_iret hC hw dX5_held_27 (by omega) (by omega) ⟨p0, rfl, rfl, by omega, by omega⟩
    · refine x_sipush hC dX5_held_20 (by decide +kernel) ?_
      refine lv_goto (tgt := 27) hC.1 hC.2.1 dX5_held_23 (by decide) ?_
      exact x_iret hC hw dX5_held_27 (by omega) (by omega) ⟨(-9999), rfl, rfl, by omega, by omega⟩
  · refine x_sipush hC dX5_held_7 (by decide +kernel) ?_
    refine lv_goto (tgt := 27) hC.1 hC.2.1 dX5_held_10 (by decide) ?_
    exact x_iret hC hw dX5_held_27 (by omega) (by omega) ⟨9999, rfl, rfl, by omega, by omega⟩
set_option maxHeartbeats 4000000 in
set_option maxRecDepth 100000 in
theorem c_X5_isNoBook (l : Launch) (G : xG) {M : HM} {p0 : Int} (hp0 : -2147483648 ≤ p0 ∧ p0 ≤ 2147483647) : xMet l G yX5_isNoBook wsX5_isNoBook 1 22 0 0 [.int (iN (p0))] M (fun r M1 => ∃ z : Int, r = some (.int (iN z)) ∧ M1 = M ∧ (z = 0 ∨ z = 1) ∧ (z = 0 ↔ (0 ≤ p0 ∧ p0 ≤ 2))) := by
  refine x_intro (cc := cX5_isNoBook) (maxL := 1) (ret := (some .boolean)) (by decide +kernel) rfl (Nat.le_of_ble_eq_true rfl) ?_
  intro p e R s m args below meth c ls hRf hRc hRs hRl hC hw hl
  have hl : lv_has ls 1 [(0, .int (iN (p0)))] := hl
  refine lv_iload_n hC.1 hC.2.1 dX5_isNoBook_0 rfl (lv_at hl 0 rfl) ?_
  refine x_const hC dX5_isNoBook_1 ?_
  refine x_const hC dX5_isNoBook_2 ?_
  refine x_callS hC hw (lv_size hl) (c_X5_isIn l G (M := M) (p0 := p0) (by omega) (p1 := 0) (by omega) (p2 := 2) (by omega)) gX5_isNoBook_X5_isIn rfl dv_X5_isIn_s rfl (Nat.le_of_ble_eq_true rfl) (by rw [hRf]; decide) (by rw [hRl]; decide) (by omega) (by omega) dX5_isNoBook_3 (fun r9 M_1 H locs hq hw => ?_)
  obtain ⟨z_2, rfl, hM9, hz_2a, hz_2b, hz_2c⟩ := hq
  rw [hM9] at hw
  show W p l e R s m args below meth c H locs _ _ _ (F0 m 6 ls [.int (iN (z_2))])
  refine x_if_ne (tgt := 13) hC ⟨by omega, by omega⟩ dX5_isNoBook_6 (by decide) (fun c_3 => ?_) (fun c_3 => ?_)
  · refine x_const hC dX5_isNoBook_13 ?_
    exact x_zret hC hw (by omega) dX5_isNoBook_14 (by omega) (by omega) ⟨0, rfl, rfl, by omega, by omega⟩
  · refine x_const hC dX5_isNoBook_9 ?_
    refine lv_goto (tgt := 14) hC.1 hC.2.1 dX5_isNoBook_10 (by decide) ?_
    exact x_zret hC hw (by omega) dX5_isNoBook_14 (by omega) (by omega) ⟨1, rfl, rfl, by omega, by omega⟩
set_option maxHeartbeats 4000000 in
set_option maxRecDepth 100000 in
theorem c_X5_isNoKey (l : Launch) (G : xG) {M : HM} {p0 : Int} (hp0 : -2147483648 ≤ p0 ∧ p0 ≤ 2147483647) : xMet l G yX5_isNoKey wsX5_isNoKey 1 22 0 0 [.int (iN (p0))] M (fun r M1 => ∃ z : Int, r = some (.int (iN z)) ∧ M1 = M ∧ (z = 0 ∨ z = 1) ∧ (z = 0 ↔ (0 ≤ p0 ∧ p0 ≤ 99))) := by
  refine x_intro (cc := cX5_isNoKey) (maxL := 1) (ret := (some .boolean)) (by decide +kernel) rfl (Nat.le_of_ble_eq_true rfl) ?_
  intro p e R s m args below meth c ls hRf hRc hRs hRl hC hw hl
  have hl : lv_has ls 1 [(0, .int (iN (p0)))] := hl
  refine lv_iload_n hC.1 hC.2.1 dX5_isNoKey_0 rfl (lv_at hl 0 rfl) ?_
  refine x_const hC dX5_isNoKey_1 ?_
  refine x_bipush hC dX5_isNoKey_2 (by decide +kernel) ?_
  refine x_callS hC hw (lv_size hl) (c_X5_isIn l G (M := M) (p0 := p0) (by omega) (p1 := 0) (by omega) (p2 := 99) (by omega)) gX5_isNoKey_X5_isIn rfl dv_X5_isIn_s rfl (Nat.le_of_ble_eq_true rfl) (by rw [hRf]; decide) (by rw [hRl]; decide) (by omega) (by omega) dX5_isNoKey_4 (fun r9 M_1 H locs hq hw => ?_)
  obtain ⟨z_2, rfl, hM9, hz_2a, hz_2b, hz_2c⟩ := hq
  rw [hM9] at hw
  show W p l e R s m args below meth c H locs _ _ _ (F0 m 7 ls [.int (iN (z_2))])
  refine x_if_ne (tgt := 14) hC ⟨by omega, by omega⟩ dX5_isNoKey_7 (by decide) (fun c_3 => ?_) (fun c_3 => ?_)
  · refine x_const hC dX5_isNoKey_14 ?_
    exact x_zret hC hw (by omega) dX5_isNoKey_15 (by omega) (by omega) ⟨0, rfl, rfl, by omega, by omega⟩
  · refine x_const hC dX5_isNoKey_10 ?_
    refine lv_goto (tgt := 15) hC.1 hC.2.1 dX5_isNoKey_11 (by decide) ?_
    exact x_zret hC hw (by omega) dX5_isNoKey_15 (by omega) (by omega) ⟨1, rfl, rfl, by omega, by omega⟩
set_option maxHeartbeats 4000000 in
set_option maxRecDepth 100000 in
theorem c_X5_isNoValue (l : Launch) (G : xG) {M : HM} {p0 : Int} (hp0 : -2147483648 ≤ p0 ∧ p0 ≤ 2147483647) : xMet l G yX5_isNoValue wsX5_isNoValue 1 22 0 0 [.int (iN (p0))] M (fun r M1 => ∃ z : Int, r = some (.int (iN z)) ∧ M1 = M ∧ (z = 0 ∨ z = 1) ∧ (z = 0 ↔ (-9999 ≤ p0 ∧ p0 ≤ 9999))) := by
  refine x_intro (cc := cX5_isNoValue) (maxL := 1) (ret := (some .boolean)) (by decide +kernel) rfl (Nat.le_of_ble_eq_true rfl) ?_
  intro p e R s m args below meth c ls hRf hRc hRs hRl hC hw hl
  have hl : lv_has ls 1 [(0, .int (iN (p0)))] := hl
  refine lv_iload_n hC.1 hC.2.1 dX5_isNoValue_0 rfl (lv_at hl 0 rfl) ?_
  refine x_sipush hC dX5_isNoValue_1 (by decide +kernel) ?_
  refine x_sipush hC dX5_isNoValue_4 (by decide +kernel) ?_
  refine x_callS hC hw (lv_size hl) (c_X5_isIn l G (M := M) (p0 := p0) (by omega) (p1 := (-9999)) (by omega) (p2 := 9999) (by omega)) gX5_isNoValue_X5_isIn rfl dv_X5_isIn_s rfl (Nat.le_of_ble_eq_true rfl) (by rw [hRf]; decide) (by rw [hRl]; decide) (by omega) (by omega) dX5_isNoValue_7 (fun r9 M_1 H locs hq hw => ?_)
  obtain ⟨z_2, rfl, hM9, hz_2a, hz_2b, hz_2c⟩ := hq
  rw [hM9] at hw
  show W p l e R s m args below meth c H locs _ _ _ (F0 m 10 ls [.int (iN (z_2))])
  refine x_if_ne (tgt := 17) hC ⟨by omega, by omega⟩ dX5_isNoValue_10 (by decide) (fun c_3 => ?_) (fun c_3 => ?_)
  · refine x_const hC dX5_isNoValue_17 ?_
    exact x_zret hC hw (by omega) dX5_isNoValue_18 (by omega) (by omega) ⟨0, rfl, rfl, by omega, by omega⟩
  · refine x_const hC dX5_isNoValue_13 ?_
    refine lv_goto (tgt := 18) hC.1 hC.2.1 dX5_isNoValue_14 (by decide) ?_
    exact x_zret hC hw (by omega) dX5_isNoValue_18 (by omega) (by omega) ⟨1, rfl, rfl, by omega, by omega⟩
set_option maxHeartbeats 4000000 in
set_option maxRecDepth 100000 in
theorem c_X5_isNoView (l : Launch) (G : xG) {M : HM} {a va oa wa ya : Nat} {wk : Option Nat} {th : Int} {rfd : Int32} {br re la ha : Int} {kp kv : Int32} {qv qw : Nat → Nat} {fa fb : Nat → Option Nat} {V : BW} {O : OW} {fy : Nat → Option Nat} {Wv : VW} {wt : Option VT} {S : Nat → Bool} (hR : MGx G M a va oa wa ya wk th rfd br re la ha kp kv qv qw fa fb V O fy Wv wt S) {p0 : Int} (hp0 : -2147483648 ≤ p0 ∧ p0 ≤ 2147483647) : xMet l G yX5_isNoView wsX5_isNoView 1 22 0 0 [.ref a, .int (iN (p0))] M (fun r M1 => ∃ z : Int, r = some (.int (iN z)) ∧ M1 = M ∧ (z = 0 ∨ z = 1) ∧ (z = 0 ↔ (0 ≤ p0 ∧ p0 ≤ 3 ∧ opN (Wv p0.toNat) = 1)) ∧ (z = 0 → fy p0.toNat ≠ none)) := by
  refine x_intro (cc := cX5_isNoView) (maxL := 2) (ret := (some .boolean)) (by decide +kernel) rfl (Nat.le_of_ble_eq_true rfl) ?_
  intro p e R s m args below meth c ls hRf hRc hRs hRl hC hw hl
  have hsc0 := hR.sc
  have hinX5 : ∀ w ∈ wsX50, w ∈ wsX5_isNoView := by decide +kernel
  have hl : lv_has ls 2 [(0, .ref a), (1, .int (iN (p0)))] := hl
  refine lv_iload_n hC.1 hC.2.1 dX5_isNoView_0 rfl (lv_at hl 1 rfl) ?_
  refine x_const hC dX5_isNoView_1 ?_
  refine x_const hC dX5_isNoView_2 ?_
  refine x_callS hC hw (lv_size hl) (c_X5_isIn l G (M := M) (p0 := p0) (by omega) (p1 := 0) (by omega) (p2 := 3) (by omega)) gX5_isNoView_X5_isIn rfl dv_X5_isIn_s rfl (Nat.le_of_ble_eq_true rfl) (by rw [hRf]; decide) (by rw [hRl]; decide) (by omega) (by omega) dX5_isNoView_3 (fun r9 M_1 H locs hq hw => ?_)
  obtain ⟨z_2, rfl, hM9, hz_2a, hz_2b, hz_2c⟩ := hq
  rw [hM9] at hw
  show W p l e R s m args below meth c H locs _ _ _ (F0 m 6 ls [.int (iN (z_2))])
  refine x_if_eq (tgt := 18) hC ⟨by omega, by omega⟩ dX5_isNoView_6 (by decide) (fun c_3 => ?_) (fun c_3 => ?_)
  · refine x_const hC dX5_isNoView_18 ?_
    refine lv_goto (tgt := 23) hC.1 hC.2.1 dX5_isNoView_19 (by decide) ?_
    exact x_zret hC hw (by omega) dX5_isNoView_23 (by omega) (by omega) ⟨1, rfl, rfl, by omega, by omega, fun q9 => absurd q9 (by omega)⟩
  · refine lv_aload_n hC.1 hC.2.1 dX5_isNoView_9 rfl (lv_at hl 0 rfl) ?_
    refine x_get hC hw hR.1.1 rfl hinX5 5 (by decide) (by decide +kernel) rfl dX5_isNoView_10 ?_
    refine lv_iload_n hC.1 hC.2.1 dX5_isNoView_13 rfl (lv_at hl 1 rfl) ?_
    refine x_ald4 hC hw hR.1.2.2.2.2.1 (by omega) (by omega) (by omega) dX5_isNoView_14 ?_
    rcases hy_5 : fy ((p0).toNat) with _ | y_4
    · have hnhy_5 : Wv ((p0).toNat) = none := (hR.vw (show (p0).toNat < 4 by omega)).nil hy_5
      have hohy_5 := opN_none hnhy_5
      show W p l e R s m args below meth c _ _ _ _ _ (F0 m 15 ls [.null])
      refine lv_ifnonnullN hC.1 hC.2.1 dX5_isNoView_15 ?_
      refine x_const hC dX5_isNoView_18 ?_
      refine lv_goto (tgt := 23) hC.1 hC.2.1 dX5_isNoView_19 (by decide) ?_
      exact x_zret hC hw (by omega) dX5_isNoView_23 (by omega) (by omega) ⟨1, rfl, rfl, by omega, by omega, fun q9 => absurd q9 (by omega)⟩
    · obtain ⟨ti_6, fi_6, hui_6, hIi_6⟩ := (hR.vw (show (p0).toNat < 4 by omega)).yes hy_5
      obtain ⟨htat_7, htbt_7, htct_7, htdt_7, htet_7⟩ := id hIi_6.2.1
      have hohy_5 := opN_some hui_6
      show W p l e R s m args below meth c _ _ _ _ _ (F0 m 15 ls [.ref y_4])
      refine lv_ifnonnull (tgt := 22) hC.1 hC.2.1 dX5_isNoView_15 (by decide) ?_
      refine x_const hC dX5_isNoView_22 ?_
      exact x_zret hC hw (by omega) dX5_isNoView_23 (by omega) (by omega) ⟨0, rfl, rfl, by omega, by omega, fun _ => by first | exact fun q9 => nomatch q9 | (rw [hy_5]; exact fun q9 => nomatch q9)⟩
set_option maxHeartbeats 4000000 in
set_option maxRecDepth 100000 in
theorem c_X5_refuse (l : Launch) (G : xG) {M : HM} {a va oa wa ya : Nat} {wk : Option Nat} {th : Int} {rfd : Int32} {br re la ha : Int} {kp kv : Int32} {qv qw : Nat → Nat} {fa fb : Nat → Option Nat} {V : BW} {O : OW} {fy : Nat → Option Nat} {Wv : VW} {wt : Option VT} {S : Nat → Bool} (hR : MGx G M a va oa wa ya wk th rfd br re la ha kp kv qv qw fa fb V O fy Wv wt S) {p0 : Int} (hp0 : -2147483648 ≤ p0 ∧ p0 ≤ 2147483647) {p1 : Int} (hp1 : -2147483648 ≤ p1 ∧ p1 ≤ 2147483647) (hop : 1 ≤ p1 ∧ p1 ≤ 3) : xMet l G yX5_refuse wsX5_refuse 0 0 0 0 [.ref a, .int (iN (p0)), .int (iN (p1))] M (fun r M1 => ∃ (z : Int) (th1 : Int), r = some (.int (iN z)) ∧ (z = 0 ∨ z = 1) ∧ (z = 0 ↔ th1 = 0) ∧ (p0 ≠ 0 ∧ th = 0 → th1 = p1) ∧ (¬ (p0 ≠ 0 ∧ th = 0) → th1 = th) ∧ xI5 G M M1 ∧ MGx G M1 a va oa wa ya wk th1 rfd br re la ha kp kv qv qw fa fb V O fy Wv wt S) := by
  refine x_intro (cc := cX5_refuse) (maxL := 3) (ret := (some .boolean)) (by decide +kernel) rfl (Nat.le_of_ble_eq_true rfl) ?_
  intro p e R s m args below meth c ls hRf hRc hRs hRl hC hw hl
  have hsc0 := hR.sc
  have hinX5 : ∀ w ∈ wsX50, w ∈ wsX5_refuse := by decide +kernel
  have hl : lv_has ls 3 [(0, .ref a), (1, .int (iN (p0))), (2, .int (iN (p1)))] := hl
  refine lv_iload_n hC.1 hC.2.1 dX5_refuse_0 rfl (lv_at hl 1 rfl) ?_
  refine x_if_eq (tgt := 16) hC ⟨by omega, by omega⟩ dX5_refuse_1 (by decide) (fun c_1 => ?_) (fun c_1 => ?_)
  · refine lv_aload_n hC.1 hC.2.1 dX5_refuse_16 rfl (lv_at hl 0 rfl) ?_
    refine x_get hC hw hR.1.1 rfl hinX5 0 (by decide) (by decide +kernel) rfl dX5_refuse_17 ?_
    have sc_2 := hR.sc
    refine x_if_le (tgt := 27) hC ⟨by omega, by omega⟩ dX5_refuse_20 (by decide) (fun c_3 => ?_) (fun c_3 => ?_)
    · refine x_const hC dX5_refuse_27 ?_
      exact x_zret hC hw (by omega) dX5_refuse_28 (by omega) (by omega) ⟨0, _, rfl, by omega, by omega, by omega, by omega, xI5.rf, hR⟩
    · refine x_const hC dX5_refuse_23 ?_
      refine lv_goto (tgt := 28) hC.1 hC.2.1 dX5_refuse_24 (by decide) ?_
      exact x_zret hC hw (by omega) dX5_refuse_28 (by omega) (by omega) ⟨1, _, rfl, by omega, by omega, by omega, by omega, xI5.rf, hR⟩
  · refine lv_aload_n hC.1 hC.2.1 dX5_refuse_4 rfl (lv_at hl 0 rfl) ?_
    refine x_get hC hw hR.1.1 rfl hinX5 0 (by decide) (by decide +kernel) rfl dX5_refuse_5 ?_
    have sc_4 := hR.sc
    refine x_if_ne (tgt := 16) hC ⟨by omega, by omega⟩ dX5_refuse_8 (by decide) (fun c_5 => ?_) (fun c_5 => ?_)
    · refine lv_aload_n hC.1 hC.2.1 dX5_refuse_16 rfl (lv_at hl 0 rfl) ?_
      refine x_get hC hw hR.1.1 rfl hinX5 0 (by decide) (by decide +kernel) rfl dX5_refuse_17 ?_
      have sc_6 := hR.sc
      refine x_if_le (tgt := 27) hC ⟨by omega, by omega⟩ dX5_refuse_20 (by decide) (fun c_7 => ?_) (fun c_7 => ?_)
      · refine x_const hC dX5_refuse_27 ?_
        exact x_zret hC hw (by omega) dX5_refuse_28 (by omega) (by omega) ⟨0, _, rfl, by omega, by omega, by omega, by omega, xI5.rf, hR⟩
      · refine x_const hC dX5_refuse_23 ?_
        refine lv_goto (tgt := 28) hC.1 hC.2.1 dX5_refuse_24 (by decide) ?_
        exact x_zret hC hw (by omega) dX5_refuse_28 (by omega) (by omega) ⟨1, _, rfl, by omega, by omega, by omega, by omega, xI5.rf, hR⟩
    · refine lv_aload_n hC.1 hC.2.1 dX5_refuse_11 rfl (lv_at hl 0 rfl) ?_
      refine lv_iload_n hC.1 hC.2.1 dX5_refuse_12 rfl (lv_at hl 2 rfl) ?_
      refine x_put (fs2 := [.int (iN (p1)), .int rfd, .ref va, .ref oa, .ref wa, .ref ya, va_rf (wk), .int (iN (br)), .int (iN (re)), .int (iN (la)), .int (iN (ha)), .int kp, .int kv]) hC hw hR.1.1 rfl hinX5 tyX5 tyX5_ok nmX5 0 (by decide) (by decide +kernel) rfl rfl rfl (Nat.le_of_ble_eq_true rfl) rfl dX5_refuse_13 (fun H locs hw => ?_)
      obtain ⟨M_8, hM_9⟩ : ∃ z, z = va_up M a (some (.inr (7, [.int (iN (p1)), .int rfd, .ref va, .ref oa, .ref wa, .ref ya, va_rf (wk), .int (iN (br)), .int (iN (re)), .int (iN (la)), .int (iN (ha)), .int kp, .int kv]))) := ⟨_, rfl⟩
      rw [← hM_9] at hw
      have hR_10 : MGx G M_8 a va oa wa ya wk p1 rfd br re la ha kp kv qv qw fa fb V O fy Wv wt S := hR.obj hM_9 (by have e9 := hR.sc; omega) hR.wk'
      refine lv_aload_n hC.1 hC.2.1 dX5_refuse_16 rfl (lv_at hl 0 rfl) ?_
      refine x_get hC hw hR_10.1.1 rfl hinX5 0 (by decide) (by decide +kernel) rfl dX5_refuse_17 ?_
      have sc_11 := hR_10.sc
      refine x_if_le (tgt := 27) hC ⟨by omega, by omega⟩ dX5_refuse_20 (by decide) (fun c_12 => ?_) (fun c_12 => ?_)
      · refine x_const hC dX5_refuse_27 ?_
        exact x_zret hC hw (by omega) dX5_refuse_28 (by omega) (by omega) ⟨0, _, rfl, by omega, by omega, by omega, by omega, ((hR.obj5 hM_9)), hR_10⟩
      · refine x_const hC dX5_refuse_23 ?_
        refine lv_goto (tgt := 28) hC.1 hC.2.1 dX5_refuse_24 (by decide) ?_
        exact x_zret hC hw (by omega) dX5_refuse_28 (by omega) (by omega) ⟨1, _, rfl, by omega, by omega, by omega, by omega, ((hR.obj5 hM_9)), hR_10⟩
set_option maxHeartbeats 4000000 in
set_option maxRecDepth 100000 in
theorem c_X5_start (l : Launch) (G : xG) {M : HM} {a va oa wa ya : Nat} {wk : Option Nat} {th : Int} {rfd : Int32} {br re la ha : Int} {kp kv : Int32} {qv qw : Nat → Nat} {fa fb : Nat → Option Nat} {V : BW} {O : OW} {fy : Nat → Option Nat} {Wv : VW} {wt : Option VT} {S : Nat → Bool} (hR : MGx G M a va oa wa ya wk th rfd br re la ha kp kv qv qw fa fb V O fy Wv wt S) {p0 : Int} (hp0 : -2147483648 ≤ p0 ∧ p0 ≤ 2147483647) {p1 : Int} (hp1 : -2147483648 ≤ p1 ∧ p1 ≤ 2147483647) (hop : 1 ≤ p1 ∧ p1 ≤ 3) : xMet l G yX5_start wsX5_start 1 22 0 0 [.ref a, .int (iN (p0)), .int (iN (p1))] M (fun r M1 => ∃ (z : Int) (th1 : Int), r = some (.int (iN z)) ∧ (z = 0 ∨ z = 1) ∧ (z = 0 ↔ th1 = 0) ∧ (p0 = 0 → th1 = 0) ∧ (p0 ≠ 0 → th1 = p1) ∧ xI5 G M M1 ∧ MGx G M1 a va oa wa ya wk th1 rfd br re la ha kp kv qv qw fa fb V O fy Wv wt S) := by
  refine x_intro (cc := cX5_start) (maxL := 3) (ret := (some .boolean)) (by decide +kernel) rfl (Nat.le_of_ble_eq_true rfl) ?_
  intro p e R s m args below meth c ls hRf hRc hRs hRl hC hw hl
  have hsc0 := hR.sc
  have hinX5 : ∀ w ∈ wsX50, w ∈ wsX5_start := by decide +kernel
  have hl : lv_has ls 3 [(0, .ref a), (1, .int (iN (p0))), (2, .int (iN (p1)))] := hl
  refine lv_aload_n hC.1 hC.2.1 dX5_start_0 rfl (lv_at hl 0 rfl) ?_
  refine x_const hC dX5_start_1 ?_
  refine x_put (fs2 := [.int (iN (0)), .int rfd, .ref va, .ref oa, .ref wa, .ref ya, va_rf (wk), .int (iN (br)), .int (iN (re)), .int (iN (la)), .int (iN (ha)), .int kp, .int kv]) hC hw hR.1.1 rfl hinX5 tyX5 tyX5_ok nmX5 0 (by decide) (by decide +kernel) rfl rfl rfl (Nat.le_of_ble_eq_true rfl) rfl dX5_start_2 (fun H locs hw => ?_)
  obtain ⟨M_1, hM_2⟩ : ∃ z, z = va_up M a (some (.inr (7, [.int (iN (0)), .int rfd, .ref va, .ref oa, .ref wa, .ref ya, va_rf (wk), .int (iN (br)), .int (iN (re)), .int (iN (la)), .int (iN (ha)), .int kp, .int kv]))) := ⟨_, rfl⟩
  rw [← hM_2] at hw
  have hR_3 : MGx G M_1 a va oa wa ya wk 0 rfd br re la ha kp kv qv qw fa fb V O fy Wv wt S := hR.obj hM_2 (by have e9 := hR.sc; omega) hR.wk'
  refine lv_aload_n hC.1 hC.2.1 dX5_start_5 rfl (lv_at hl 0 rfl) ?_
  refine lv_iload_n hC.1 hC.2.1 dX5_start_6 rfl (lv_at hl 1 rfl) ?_
  refine lv_iload_n hC.1 hC.2.1 dX5_start_7 rfl (lv_at hl 2 rfl) ?_
  refine x_callV hC hw (lv_size hl) (c_X5_refuse l G hR_3 (p0 := p0) (by omega) (p1 := p1) (by omega) (by omega)) gX5_start_X5_refuse rfl dv_X5_refuse hR_3.1.1 rfl rfl (Nat.le_of_ble_eq_true rfl) (by rw [hRf]; decide) (by rw [hRl]; decide) (by omega) (by omega) dX5_start_8 (fun r9 M_4 H locs hq hw => ?_)
  obtain ⟨z_6, thk_5, rfl, hz_6a, hz_6b, hz_6c0, hz_6c1, hx5k_5, hRk_5⟩ := hq
  have hsck_5 := hRk_5.sc
  show W p l e R s m args below meth c H locs _ _ _ (F0 m 11 ls [.int (iN (z_6))])
  exact x_zret hC hw (by omega) dX5_start_11 (by omega) (by omega) ⟨z_6, _, rfl, by omega, by omega, by omega, by omega, (xI5.tr ((hR.obj5 hM_2)) (hx5k_5)), hRk_5⟩
set_option maxHeartbeats 4000000 in
set_option maxRecDepth 100000 in
theorem c_X5_isBad (l : Launch) (G : xG) {M : HM} {a va oa wa ya : Nat} {wk : Option Nat} {th : Int} {rfd : Int32} {br re la ha : Int} {kp kv : Int32} {qv qw : Nat → Nat} {fa fb : Nat → Option Nat} {V : BW} {O : OW} {fy : Nat → Option Nat} {Wv : VW} {wt : Option VT} {S : Nat → Bool} (hR : MGx G M a va oa wa ya wk th rfd br re la ha kp kv qv qw fa fb V O fy Wv wt S) {p0 : Int} (hp0 : -2147483648 ≤ p0 ∧ p0 ≤ 2147483647) {p1 : Int} (hp1 : -2147483648 ≤ p1 ∧ p1 ≤ 2147483647) : xMet l G yX5_isBad wsX5_isBad 2 44 0 0 [.ref a, .int (iN (p0)), .int (iN (p1))] M (fun r M1 => ∃ (z : Int) (th1 : Int), r = some (.int (iN z)) ∧ (z = 0 ∨ z = 1) ∧ (z = 0 ↔ th1 = 0) ∧ ((0 ≤ p0 ∧ p0 ≤ 2) ∧ (0 ≤ p1 ∧ p1 ≤ 99) → th1 = 0) ∧ (¬ (0 ≤ p0 ∧ p0 ≤ 2) → th1 = 1) ∧ ((0 ≤ p0 ∧ p0 ≤ 2) ∧ ¬ (0 ≤ p1 ∧ p1 ≤ 99) → th1 = 2) ∧ xI5 G M M1 ∧ MGx G M1 a va oa wa ya wk th1 rfd br re la ha kp kv qv qw fa fb V O fy Wv wt S) := by
  refine x_intro (cc := cX5_isBad) (maxL := 3) (ret := (some .boolean)) (by decide +kernel) rfl (Nat.le_of_ble_eq_true rfl) ?_
  intro p e R s m args below meth c ls hRf hRc hRs hRl hC hw hl
  have hsc0 := hR.sc
  have hl : lv_has ls 3 [(0, .ref a), (1, .int (iN (p0))), (2, .int (iN (p1)))] := hl
  refine lv_aload_n hC.1 hC.2.1 dX5_isBad_0 rfl (lv_at hl 0 rfl) ?_
  refine lv_iload_n hC.1 hC.2.1 dX5_isBad_1 rfl (lv_at hl 1 rfl) ?_
  refine x_callS hC hw (lv_size hl) (c_X5_isNoBook l G (M := M) (p0 := p0) (by omega)) gX5_isBad_X5_isNoBook rfl dv_X5_isNoBook_s rfl (Nat.le_of_ble_eq_true rfl) (by rw [hRf]; decide) (by rw [hRl]; decide) (by omega) (by omega) dX5_isBad_2 (fun r9 M_1 H locs hq hw => ?_)
  obtain ⟨z_2, rfl, hM9, hz_2a, hz_2b⟩ := hq
  rw [hM9] at hw
  show W p l e R s m args below meth c H locs _ _ _ (F0 m 5 ls [.int (iN (z_2)), .ref a])
  refine x_const hC dX5_isBad_5 ?_
  refine x_callV hC hw (lv_size hl) (c_X5_start l G hR (p0 := z_2) (by omega) (p1 := 1) (by omega) (by omega)) gX5_isBad_X5_start rfl dv_X5_start hR.1.1 rfl rfl (Nat.le_of_ble_eq_true rfl) (by rw [hRf]; decide) (by rw [hRl]; decide) (by omega) (by omega) dX5_isBad_6 (fun r9 M_3 H locs hq hw => ?_)
  obtain ⟨z_5, thk_4, rfl, hz_5a, hz_5b, hz_5c0, hz_5c1, hx5k_4, hRk_4⟩ := hq
  have hsck_4 := hRk_4.sc
  show W p l e R s m args below meth c H locs _ _ _ (F0 m 9 ls [.int (iN (z_5))])
  refine x_if_ne (tgt := 24) hC ⟨by omega, by omega⟩ dX5_isBad_9 (by decide) (fun c_6 => ?_) (fun c_6 => ?_)
  · refine x_const hC dX5_isBad_24 ?_
    refine lv_goto (tgt := 29) hC.1 hC.2.1 dX5_isBad_25 (by decide) ?_
    exact x_zret hC hw (by omega) dX5_isBad_29 (by omega) (by omega) ⟨1, _, rfl, by omega, by omega, by omega, by omega, by omega, (hx5k_4), hRk_4⟩
  · refine lv_aload_n hC.1 hC.2.1 dX5_isBad_12 rfl (lv_at hl 0 rfl) ?_
    refine lv_iload_n hC.1 hC.2.1 dX5_isBad_13 rfl (lv_at hl 2 rfl) ?_
    refine x_callS hC hw (lv_size hl) (c_X5_isNoKey l G (M := M_3) (p0 := p1) (by omega)) gX5_isBad_X5_isNoKey rfl dv_X5_isNoKey_s rfl (Nat.le_of_ble_eq_true rfl) (by rw [hRf]; decide) (by rw [hRl]; decide) (by omega) (by omega) dX5_isBad_14 (fun r9 M_7 H locs hq hw => ?_)
    obtain ⟨z_8, rfl, hM9, hz_8a, hz_8b⟩ := hq
    rw [hM9] at hw
    show W p l e R s m args below meth c H locs _ _ _ (F0 m 17 ls [.int (iN (z_8)), .ref a])
    refine x_const hC dX5_isBad_17 ?_
    refine x_callV hC hw (lv_size hl) (c_X5_refuse l G hRk_4 (p0 := z_8) (by omega) (p1 := 2) (by omega) (by omega)) gX5_isBad_X5_refuse rfl dv_X5_refuse hRk_4.1.1 rfl rfl (Nat.le_of_ble_eq_true rfl) (by rw [hRf]; decide) (by rw [hRl]; decide) (by omega) (by omega) dX5_isBad_18 (fun r9 M_9 H locs hq hw => ?_)
    obtain ⟨z_11, thk_10, rfl, hz_11a, hz_11b, hz_11c0, hz_11c1, hx5k_10, hRk_10⟩ := hq
    have hsck_10 := hRk_10.sc
    show W p l e R s m args below meth c H locs _ _ _ (F0 m 21 ls [.int (iN (z_11))])
    refine x_if_eq (tgt := 28) hC ⟨by omega, by omega⟩ dX5_isBad_21 (by decide) (fun c_12 => ?_) (fun c_12 => ?_)
    · refine x_const hC dX5_isBad_28 ?_
      exact x_zret hC hw (by omega) dX5_isBad_29 (by omega) (by omega) ⟨0, _, rfl, by omega, by omega, by omega, by omega, by omega, (xI5.tr (hx5k_4) (hx5k_10)), hRk_10⟩
    · refine x_const hC dX5_isBad_24 ?_
      refine lv_goto (tgt := 29) hC.1 hC.2.1 dX5_isBad_25 (by decide) ?_
      exact x_zret hC hw (by omega) dX5_isBad_29 (by omega) (by omega) ⟨1, _, rfl, by omega, by omega, by omega, by omega, by omega, (xI5.tr (hx5k_4) (hx5k_10)), hRk_10⟩
set_option maxHeartbeats 4000000 in
set_option maxRecDepth 100000 in
theorem c_X5_isBad_ (l : Launch) (G : xG) {M : HM} {a va oa wa ya : Nat} {wk : Option Nat} {th : Int} {rfd : Int32} {br re la ha : Int} {kp kv : Int32} {qv qw : Nat → Nat} {fa fb : Nat → Option Nat} {V : BW} {O : OW} {fy : Nat → Option Nat} {Wv : VW} {wt : Option VT} {S : Nat → Bool} (hR : MGx G M a va oa wa ya wk th rfd br re la ha kp kv qv qw fa fb V O fy Wv wt S) {p0 : Int} (hp0 : -2147483648 ≤ p0 ∧ p0 ≤ 2147483647) {p1 : Int} (hp1 : -2147483648 ≤ p1 ∧ p1 ≤ 2147483647) {p2 : Int} (hp2 : -2147483648 ≤ p2 ∧ p2 ≤ 2147483647) : xMet l G yX5_isBad_ wsX5_isBad_ 2 44 0 0 [.ref a, .int (iN (p0)), .int (iN (p1)), .int (iN (p2))] M (fun r M1 => ∃ (z : Int) (th1 : Int), r = some (.int (iN z)) ∧ (z = 0 ∨ z = 1) ∧ (z = 0 ↔ th1 = 0) ∧ ((0 ≤ p0 ∧ p0 ≤ 2) ∧ ((0 ≤ p1 ∧ p1 ≤ 99) ∧ (-9999 ≤ p2 ∧ p2 ≤ 9999)) → th1 = 0) ∧ (¬ (0 ≤ p0 ∧ p0 ≤ 2) → th1 = 1) ∧ ((0 ≤ p0 ∧ p0 ≤ 2) ∧ ¬ ((0 ≤ p1 ∧ p1 ≤ 99) ∧ (-9999 ≤ p2 ∧ p2 ≤ 9999)) → th1 = 2) ∧ xI5 G M M1 ∧ MGx G M1 a va oa wa ya wk th1 rfd br re la ha kp kv qv qw fa fb V O fy Wv wt S) := by
  refine x_intro (cc := cX5_isBad_) (maxL := 4) (ret := (some .boolean)) (by decide +kernel) rfl (Nat.le_of_ble_eq_true rfl) ?_
  intro p e R s m args below meth c ls hRf hRc hRs hRl hC hw hl
  have hsc0 := hR.sc
  have hl : lv_has ls 4 [(0, .ref a), (1, .int (iN (p0))), (2, .int (iN (p1))), (3, .int (iN (p2)))] := hl
  refine lv_aload_n hC.1 hC.2.1 dX5_isBad__0 rfl (lv_at hl 0 rfl) ?_
  refine lv_iload_n hC.1 hC.2.1 dX5_isBad__1 rfl (lv_at hl 1 rfl) ?_
  refine x_callS hC hw (lv_size hl) (c_X5_isNoBook l G (M := M) (p0 := p0) (by omega)) gX5_isBad__X5_isNoBook rfl dv_X5_isNoBook_s rfl (Nat.le_of_ble_eq_true rfl) (by rw [hRf]; decide) (by rw [hRl]; decide) (by omega) (by omega) dX5_isBad__2 (fun r9 M_1 H locs hq hw => ?_)
  obtain ⟨z_2, rfl, hM9, hz_2a, hz_2b⟩ := hq
  rw [hM9] at hw
  show W p l e R s m args below meth c H locs _ _ _ (F0 m 5 ls [.int (iN (z_2)), .ref a])
  refine x_const hC dX5_isBad__5 ?_
  refine x_callV hC hw (lv_size hl) (c_X5_start l G hR (p0 := z_2) (by omega) (p1 := 1) (by omega) (by omega)) gX5_isBad__X5_start rfl dv_X5_start hR.1.1 rfl rfl (Nat.le_of_ble_eq_true rfl) (by rw [hRf]; decide) (by rw [hRl]; decide) (by omega) (by omega) dX5_isBad__6 (fun r9 M_3 H locs hq hw => ?_)
  obtain ⟨z_5, thk_4, rfl, hz_5a, hz_5b, hz_5c0, hz_5c1, hx5k_4, hRk_4⟩ := hq
  have hsck_4 := hRk_4.sc
  show W p l e R s m args below meth c H locs _ _ _ (F0 m 9 ls [.int (iN (z_5))])
  refine x_if_ne (tgt := 39) hC ⟨by omega, by omega⟩ dX5_isBad__9 (by decide) (fun c_6 => ?_) (fun c_6 => ?_)
  · refine x_const hC dX5_isBad__39 ?_
    refine lv_goto (tgt := 44) hC.1 hC.2.1 dX5_isBad__40 (by decide) ?_
    exact x_zret hC hw (by omega) dX5_isBad__44 (by omega) (by omega) ⟨1, _, rfl, by omega, by omega, by omega, by omega, by omega, (hx5k_4), hRk_4⟩
  · refine lv_aload_n hC.1 hC.2.1 dX5_isBad__12 rfl (lv_at hl 0 rfl) ?_
    refine lv_iload_n hC.1 hC.2.1 dX5_isBad__13 rfl (lv_at hl 2 rfl) ?_
    refine x_callS hC hw (lv_size hl) (c_X5_isNoKey l G (M := M_3) (p0 := p1) (by omega)) gX5_isBad__X5_isNoKey rfl dv_X5_isNoKey_s rfl (Nat.le_of_ble_eq_true rfl) (by rw [hRf]; decide) (by rw [hRl]; decide) (by omega) (by omega) dX5_isBad__14 (fun r9 M_7 H locs hq hw => ?_)
    obtain ⟨z_8, rfl, hM9, hz_8a, hz_8b⟩ := hq
    rw [hM9] at hw
    show W p l e R s m args below meth c H locs _ _ _ (F0 m 17 ls [.int (iN (z_8)), .ref a])
    refine x_if_ne (tgt := 27) hC ⟨by omega, by omega⟩ dX5_isBad__17 (by decide) (fun c_9 => ?_) (fun c_9 => ?_)
    · refine x_const hC dX5_isBad__27 ?_
      refine lv_goto (tgt := 32) hC.1 hC.2.1 dX5_isBad__28 (by decide) ?_
      refine x_const hC dX5_isBad__32 ?_
      refine x_callV hC hw (lv_size hl) (c_X5_refuse l G hRk_4 (p0 := 1) (by omega) (p1 := 2) (by omega) (by omega)) gX5_isBad__X5_refuse rfl dv_X5_refuse hRk_4.1.1 rfl rfl (Nat.le_of_ble_eq_true rfl) (by rw [hRf]; decide) (by rw [hRl]; decide) (by omega) (by omega) dX5_isBad__33 (fun r9 M_10 H locs hq hw => ?_)
      obtain ⟨z_12, thk_11, rfl, hz_12a, hz_12b, hz_12c0, hz_12c1, hx5k_11, hRk_11⟩ := hq
      have hsck_11 := hRk_11.sc
      show W p l e R s m args below meth c H locs _ _ _ (F0 m 36 ls [.int (iN (z_12))])
      refine x_if_eq (tgt := 43) hC ⟨by omega, by omega⟩ dX5_isBad__36 (by decide) (fun c_13 => ?_) (fun c_13 => ?_)
      · refine x_const hC dX5_isBad__43 ?_
        exact x_zret hC hw (by omega) dX5_isBad__44 (by omega) (by omega) ⟨0, _, rfl, by omega, by omega, by omega, by omega, by omega, (xI5.tr (hx5k_4) (hx5k_11)), hRk_11⟩
      · refine x_const hC dX5_isBad__39 ?_
        refine lv_goto (tgt := 44) hC.1 hC.2.1 dX5_isBad__40 (by decide) ?_
        exact x_zret hC hw (by omega) dX5_isBad__44 (by omega) (by omega) ⟨1, _, rfl, by omega, by omega, by omega, by omega, by omega, (xI5.tr (hx5k_4) (hx5k_11)), hRk_11⟩
    · refine lv_iload_n hC.1 hC.2.1 dX5_isBad__20 rfl (lv_at hl 3 rfl) ?_
      refine x_callS hC hw (lv_size hl) (c_X5_isNoValue l G (M := M_3) (p0 := p2) (by omega)) gX5_isBad__X5_isNoValue rfl dv_X5_isNoValue_s rfl (Nat.le_of_ble_eq_true rfl) (by rw [hRf]; decide) (by rw [hRl]; decide) (by omega) (by omega) dX5_isBad__21 (fun r9 M_14 H locs hq hw => ?_)
      obtain ⟨z_15, rfl, hM9, hz_15a, hz_15b⟩ := hq
      rw [hM9] at hw
      show W p l e R s m args below meth c H locs _ _ _ (F0 m 24 ls [.int (iN (z_15)), .ref a])
      refine x_if_eq (tgt := 31) hC ⟨by omega, by omega⟩ dX5_isBad__24 (by decide) (fun c_16 => ?_) (fun c_16 => ?_)
      · refine x_const hC dX5_isBad__31 ?_
        refine x_const hC dX5_isBad__32 ?_
        refine x_callV hC hw (lv_size hl) (c_X5_refuse l G hRk_4 (p0 := 0) (by omega) (p1 := 2) (by omega) (by omega)) gX5_isBad__X5_refuse rfl dv_X5_refuse hRk_4.1.1 rfl rfl (Nat.le_of_ble_eq_true rfl) (by rw [hRf]; decide) (by rw [hRl]; decide) (by omega) (by omega) dX5_isBad__33 (fun r9 M_17 H locs hq hw => ?_)
        obtain ⟨z_19, thk_18, rfl, hz_19a, hz_19b, hz_19c0, hz_19c1, hx5k_18, hRk_18⟩ := hq
        have hsck_18 := hRk_18.sc
        show W p l e R s m args below meth c H locs _ _ _ (F0 m 36 ls [.int (iN (z_19))])
        refine x_if_eq (tgt := 43) hC ⟨by omega, by omega⟩ dX5_isBad__36 (by decide) (fun c_20 => ?_) (fun c_20 => ?_)
        · refine x_const hC dX5_isBad__43 ?_
          exact x_zret hC hw (by omega) dX5_isBad__44 (by omega) (by omega) ⟨0, _, rfl, by omega, by omega, by omega, by omega, by omega, (xI5.tr (hx5k_4) (hx5k_18)), hRk_18⟩
        · refine x_const hC dX5_isBad__39 ?_
          refine lv_goto (tgt := 44) hC.1 hC.2.1 dX5_isBad__40 (by decide) ?_
          exact x_zret hC hw (by omega) dX5_isBad__44 (by omega) (by omega) ⟨1, _, rfl, by omega, by omega, by omega, by omega, by omega, (xI5.tr (hx5k_4) (hx5k_18)), hRk_18⟩
      · refine x_const hC dX5_isBad__27 ?_
        refine lv_goto (tgt := 32) hC.1 hC.2.1 dX5_isBad__28 (by decide) ?_
        refine x_const hC dX5_isBad__32 ?_
        refine x_callV hC hw (lv_size hl) (c_X5_refuse l G hRk_4 (p0 := 1) (by omega) (p1 := 2) (by omega) (by omega)) gX5_isBad__X5_refuse rfl dv_X5_refuse hRk_4.1.1 rfl rfl (Nat.le_of_ble_eq_true rfl) (by rw [hRf]; decide) (by rw [hRl]; decide) (by omega) (by omega) dX5_isBad__33 (fun r9 M_21 H locs hq hw => ?_)
        obtain ⟨z_23, thk_22, rfl, hz_23a, hz_23b, hz_23c0, hz_23c1, hx5k_22, hRk_22⟩ := hq
        have hsck_22 := hRk_22.sc
        show W p l e R s m args below meth c H locs _ _ _ (F0 m 36 ls [.int (iN (z_23))])
        refine x_if_eq (tgt := 43) hC ⟨by omega, by omega⟩ dX5_isBad__36 (by decide) (fun c_24 => ?_) (fun c_24 => ?_)
        · refine x_const hC dX5_isBad__43 ?_
          exact x_zret hC hw (by omega) dX5_isBad__44 (by omega) (by omega) ⟨0, _, rfl, by omega, by omega, by omega, by omega, by omega, (xI5.tr (hx5k_4) (hx5k_22)), hRk_22⟩
        · refine x_const hC dX5_isBad__39 ?_
          refine lv_goto (tgt := 44) hC.1 hC.2.1 dX5_isBad__40 (by decide) ?_
          exact x_zret hC hw (by omega) dX5_isBad__44 (by omega) (by omega) ⟨1, _, rfl, by omega, by omega, by omega, by omega, by omega, (xI5.tr (hx5k_4) (hx5k_22)), hRk_22⟩
set_option maxHeartbeats 4000000 in
set_option maxRecDepth 100000 in
theorem c_X5_areBad (l : Launch) (G : xG) {M : HM} {a va oa wa ya : Nat} {wk : Option Nat} {th : Int} {rfd : Int32} {br re la ha : Int} {kp kv : Int32} {qv qw : Nat → Nat} {fa fb : Nat → Option Nat} {V : BW} {O : OW} {fy : Nat → Option Nat} {Wv : VW} {wt : Option VT} {S : Nat → Bool} (hR : MGx G M a va oa wa ya wk th rfd br re la ha kp kv qv qw fa fb V O fy Wv wt S) {p0 : Int} (hp0 : -2147483648 ≤ p0 ∧ p0 ≤ 2147483647) {p1 : Int} (hp1 : -2147483648 ≤ p1 ∧ p1 ≤ 2147483647) : xMet l G yX5_areBad wsX5_areBad 2 44 0 0 [.ref a, .int (iN (p0)), .int (iN (p1))] M (fun r M1 => ∃ (z : Int) (th1 : Int), r = some (.int (iN z)) ∧ (z = 0 ∨ z = 1) ∧ (z = 0 ↔ th1 = 0) ∧ (((0 ≤ p0 ∧ p0 ≤ 2) ∧ (0 ≤ p1 ∧ p1 ≤ 2)) ∧ (p0 ≠ p1) → th1 = 0) ∧ (¬ ((0 ≤ p0 ∧ p0 ≤ 2) ∧ (0 ≤ p1 ∧ p1 ≤ 2)) → th1 = 1) ∧ (((0 ≤ p0 ∧ p0 ≤ 2) ∧ (0 ≤ p1 ∧ p1 ≤ 2)) ∧ ¬ (p0 ≠ p1) → th1 = 2) ∧ xI5 G M M1 ∧ MGx G M1 a va oa wa ya wk th1 rfd br re la ha kp kv qv qw fa fb V O fy Wv wt S) := by
  refine x_intro (cc := cX5_areBad) (maxL := 3) (ret := (some .boolean)) (by decide +kernel) rfl (Nat.le_of_ble_eq_true rfl) ?_
  intro p e R s m args below meth c ls hRf hRc hRs hRl hC hw hl
  have hsc0 := hR.sc
  have hl : lv_has ls 3 [(0, .ref a), (1, .int (iN (p0))), (2, .int (iN (p1)))] := hl
  refine lv_aload_n hC.1 hC.2.1 dX5_areBad_0 rfl (lv_at hl 0 rfl) ?_
  refine lv_iload_n hC.1 hC.2.1 dX5_areBad_1 rfl (lv_at hl 1 rfl) ?_
  refine x_callS hC hw (lv_size hl) (c_X5_isNoBook l G (M := M) (p0 := p0) (by omega)) gX5_areBad_X5_isNoBook rfl dv_X5_isNoBook_s rfl (Nat.le_of_ble_eq_true rfl) (by rw [hRf]; decide) (by rw [hRl]; decide) (by omega) (by omega) dX5_areBad_2 (fun r9 M_1 H locs hq hw => ?_)
  obtain ⟨z_2, rfl, hM9, hz_2a, hz_2b⟩ := hq
  rw [hM9] at hw
  show W p l e R s m args below meth c H locs _ _ _ (F0 m 5 ls [.int (iN (z_2)), .ref a])
  refine x_if_ne (tgt := 15) hC ⟨by omega, by omega⟩ dX5_areBad_5 (by decide) (fun c_3 => ?_) (fun c_3 => ?_)
  · refine x_const hC dX5_areBad_15 ?_
    refine lv_goto (tgt := 20) hC.1 hC.2.1 dX5_areBad_16 (by decide) ?_
    refine x_const hC dX5_areBad_20 ?_
    refine x_callV hC hw (lv_size hl) (c_X5_start l G hR (p0 := 1) (by omega) (p1 := 1) (by omega) (by omega)) gX5_areBad_X5_start rfl dv_X5_start hR.1.1 rfl rfl (Nat.le_of_ble_eq_true rfl) (by rw [hRf]; decide) (by rw [hRl]; decide) (by omega) (by omega) dX5_areBad_21 (fun r9 M_4 H locs hq hw => ?_)
    obtain ⟨z_6, thk_5, rfl, hz_6a, hz_6b, hz_6c0, hz_6c1, hx5k_5, hRk_5⟩ := hq
    have hsck_5 := hRk_5.sc
    show W p l e R s m args below meth c H locs _ _ _ (F0 m 24 ls [.int (iN (z_6))])
    refine x_if_ne (tgt := 45) hC ⟨by omega, by omega⟩ dX5_areBad_24 (by decide) (fun c_7 => ?_) (fun c_7 => ?_)
    · refine x_const hC dX5_areBad_45 ?_
      refine lv_goto (tgt := 50) hC.1 hC.2.1 dX5_areBad_46 (by decide) ?_
      exact x_zret hC hw (by omega) dX5_areBad_50 (by omega) (by omega) ⟨1, _, rfl, by omega, by omega, by omega, by omega, by omega, (hx5k_5), hRk_5⟩
    · refine lv_aload_n hC.1 hC.2.1 dX5_areBad_27 rfl (lv_at hl 0 rfl) ?_
      refine lv_iload_n hC.1 hC.2.1 dX5_areBad_28 rfl (lv_at hl 1 rfl) ?_
      refine lv_iload_n hC.1 hC.2.1 dX5_areBad_29 rfl (lv_at hl 2 rfl) ?_
      refine x_icmp_ne (tgt := 37) hC ⟨by omega, by omega⟩ ⟨by omega, by omega⟩ dX5_areBad_30 (by decide) (fun c_8 => ?_) (fun c_8 => ?_)
      · refine x_const hC dX5_areBad_37 ?_
        refine x_const hC dX5_areBad_38 ?_
        refine x_callV hC hw (lv_size hl) (c_X5_refuse l G hRk_5 (p0 := 0) (by omega) (p1 := 2) (by omega) (by omega)) gX5_areBad_X5_refuse rfl dv_X5_refuse hRk_5.1.1 rfl rfl (Nat.le_of_ble_eq_true rfl) (by rw [hRf]; decide) (by rw [hRl]; decide) (by omega) (by omega) dX5_areBad_39 (fun r9 M_9 H locs hq hw => ?_)
        obtain ⟨z_11, thk_10, rfl, hz_11a, hz_11b, hz_11c0, hz_11c1, hx5k_10, hRk_10⟩ := hq
        have hsck_10 := hRk_10.sc
        show W p l e R s m args below meth c H locs _ _ _ (F0 m 42 ls [.int (iN (z_11))])
        refine x_if_eq (tgt := 49) hC ⟨by omega, by omega⟩ dX5_areBad_42 (by decide) (fun c_12 => ?_) (fun c_12 => ?_)
        · refine x_const hC dX5_areBad_49 ?_
          exact x_zret hC hw (by omega) dX5_areBad_50 (by omega) (by omega) ⟨0, _, rfl, by omega, by omega, by omega, by omega, by omega, (xI5.tr (hx5k_5) (hx5k_10)), hRk_10⟩
        · refine x_const hC dX5_areBad_45 ?_
          refine lv_goto (tgt := 50) hC.1 hC.2.1 dX5_areBad_46 (by decide) ?_
          exact x_zret hC hw (by omega) dX5_areBad_50 (by omega) (by omega) ⟨1, _, rfl, by omega, by omega, by omega, by omega, by omega, (xI5.tr (hx5k_5) (hx5k_10)), hRk_10⟩
      · refine x_const hC dX5_areBad_33 ?_
        refine lv_goto (tgt := 38) hC.1 hC.2.1 dX5_areBad_34 (by decide) ?_
        refine x_const hC dX5_areBad_38 ?_
        refine x_callV hC hw (lv_size hl) (c_X5_refuse l G hRk_5 (p0 := 1) (by omega) (p1 := 2) (by omega) (by omega)) gX5_areBad_X5_refuse rfl dv_X5_refuse hRk_5.1.1 rfl rfl (Nat.le_of_ble_eq_true rfl) (by rw [hRf]; decide) (by rw [hRl]; decide) (by omega) (by omega) dX5_areBad_39 (fun r9 M_13 H locs hq hw => ?_)
        obtain ⟨z_15, thk_14, rfl, hz_15a, hz_15b, hz_15c0, hz_15c1, hx5k_14, hRk_14⟩ := hq
        have hsck_14 := hRk_14.sc
        show W p l e R s m args below meth c H locs _ _ _ (F0 m 42 ls [.int (iN (z_15))])
        refine x_if_eq (tgt := 49) hC ⟨by omega, by omega⟩ dX5_areBad_42 (by decide) (fun c_16 => ?_) (fun c_16 => ?_)
        · refine x_const hC dX5_areBad_49 ?_
          exact x_zret hC hw (by omega) dX5_areBad_50 (by omega) (by omega) ⟨0, _, rfl, by omega, by omega, by omega, by omega, by omega, (xI5.tr (hx5k_5) (hx5k_14)), hRk_14⟩
        · refine x_const hC dX5_areBad_45 ?_
          refine lv_goto (tgt := 50) hC.1 hC.2.1 dX5_areBad_46 (by decide) ?_
          exact x_zret hC hw (by omega) dX5_areBad_50 (by omega) (by omega) ⟨1, _, rfl, by omega, by omega, by omega, by omega, by omega, (xI5.tr (hx5k_5) (hx5k_14)), hRk_14⟩
  · refine lv_iload_n hC.1 hC.2.1 dX5_areBad_8 rfl (lv_at hl 2 rfl) ?_
    refine x_callS hC hw (lv_size hl) (c_X5_isNoBook l G (M := M) (p0 := p1) (by omega)) gX5_areBad_X5_isNoBook rfl dv_X5_isNoBook_s rfl (Nat.le_of_ble_eq_true rfl) (by rw [hRf]; decide) (by rw [hRl]; decide) (by omega) (by omega) dX5_areBad_9 (fun r9 M_17 H locs hq hw => ?_)
    obtain ⟨z_18, rfl, hM9, hz_18a, hz_18b⟩ := hq
    rw [hM9] at hw
    show W p l e R s m args below meth c H locs _ _ _ (F0 m 12 ls [.int (iN (z_18)), .ref a])
    refine x_if_eq (tgt := 19) hC ⟨by omega, by omega⟩ dX5_areBad_12 (by decide) (fun c_19 => ?_) (fun c_19 => ?_)
    · refine x_const hC dX5_areBad_19 ?_
      refine x_const hC dX5_areBad_20 ?_
      refine x_callV hC hw (lv_size hl) (c_X5_start l G hR (p0 := 0) (by omega) (p1 := 1) (by omega) (by omega)) gX5_areBad_X5_start rfl dv_X5_start hR.1.1 rfl rfl (Nat.le_of_ble_eq_true rfl) (by rw [hRf]; decide) (by rw [hRl]; decide) (by omega) (by omega) dX5_areBad_21 (fun r9 M_20 H locs hq hw => ?_)
      obtain ⟨z_22, thk_21, rfl, hz_22a, hz_22b, hz_22c0, hz_22c1, hx5k_21, hRk_21⟩ := hq
      have hsck_21 := hRk_21.sc
      show W p l e R s m args below meth c H locs _ _ _ (F0 m 24 ls [.int (iN (z_22))])
      refine x_if_ne (tgt := 45) hC ⟨by omega, by omega⟩ dX5_areBad_24 (by decide) (fun c_23 => ?_) (fun c_23 => ?_)
      · refine x_const hC dX5_areBad_45 ?_
        refine lv_goto (tgt := 50) hC.1 hC.2.1 dX5_areBad_46 (by decide) ?_
        exact x_zret hC hw (by omega) dX5_areBad_50 (by omega) (by omega) ⟨1, _, rfl, by omega, by omega, by omega, by omega, by omega, (hx5k_21), hRk_21⟩
      · refine lv_aload_n hC.1 hC.2.1 dX5_areBad_27 rfl (lv_at hl 0 rfl) ?_
        refine lv_iload_n hC.1 hC.2.1 dX5_areBad_28 rfl (lv_at hl 1 rfl) ?_
        refine lv_iload_n hC.1 hC.2.1 dX5_areBad_29 rfl (lv_at hl 2 rfl) ?_
        refine x_icmp_ne (tgt := 37) hC ⟨by omega, by omega⟩ ⟨by omega, by omega⟩ dX5_areBad_30 (by decide) (fun c_24 => ?_) (fun c_24 => ?_)
        · refine x_const hC dX5_areBad_37 ?_
          refine x_const hC dX5_areBad_38 ?_
          refine x_callV hC hw (lv_size hl) (c_X5_refuse l G hRk_21 (p0 := 0) (by omega) (p1 := 2) (by omega) (by omega)) gX5_areBad_X5_refuse rfl dv_X5_refuse hRk_21.1.1 rfl rfl (Nat.le_of_ble_eq_true rfl) (by rw [hRf]; decide) (by rw [hRl]; decide) (by omega) (by omega) dX5_areBad_39 (fun r9 M_25 H locs hq hw => ?_)
          obtain ⟨z_27, thk_26, rfl, hz_27a, hz_27b, hz_27c0, hz_27c1, hx5k_26, hRk_26⟩ := hq
          have hsck_26 := hRk_26.sc
          show W p l e R s m args below meth c H locs _ _ _ (F0 m 42 ls [.int (iN (z_27))])
          refine x_if_eq (tgt := 49) hC ⟨by omega, by omega⟩ dX5_areBad_42 (by decide) (fun c_28 => ?_) (fun c_28 => ?_)
          · refine x_const hC dX5_areBad_49 ?_
            exact x_zret hC hw (by omega) dX5_areBad_50 (by omega) (by omega) ⟨0, _, rfl, by omega, by omega, by omega, by omega, by omega, (xI5.tr (hx5k_21) (hx5k_26)), hRk_26⟩
          · refine x_const hC dX5_areBad_45 ?_
            refine lv_goto (tgt := 50) hC.1 hC.2.1 dX5_areBad_46 (by decide) ?_
            exact x_zret hC hw (by omega) dX5_areBad_50 (by omega) (by omega) ⟨1, _, rfl, by omega, by omega, by omega, by omega, by omega, (xI5.tr (hx5k_21) (hx5k_26)), hRk_26⟩
        · refine x_const hC dX5_areBad_33 ?_
          refine lv_goto (tgt := 38) hC.1 hC.2.1 dX5_areBad_34 (by decide) ?_
          refine x_const hC dX5_areBad_38 ?_
          refine x_callV hC hw (lv_size hl) (c_X5_refuse l G hRk_21 (p0 := 1) (by omega) (p1 := 2) (by omega) (by omega)) gX5_areBad_X5_refuse rfl dv_X5_refuse hRk_21.1.1 rfl rfl (Nat.le_of_ble_eq_true rfl) (by rw [hRf]; decide) (by rw [hRl]; decide) (by omega) (by omega) dX5_areBad_39 (fun r9 M_29 H locs hq hw => ?_)
          obtain ⟨z_31, thk_30, rfl, hz_31a, hz_31b, hz_31c0, hz_31c1, hx5k_30, hRk_30⟩ := hq
          have hsck_30 := hRk_30.sc
          show W p l e R s m args below meth c H locs _ _ _ (F0 m 42 ls [.int (iN (z_31))])
          refine x_if_eq (tgt := 49) hC ⟨by omega, by omega⟩ dX5_areBad_42 (by decide) (fun c_32 => ?_) (fun c_32 => ?_)
          · refine x_const hC dX5_areBad_49 ?_
            exact x_zret hC hw (by omega) dX5_areBad_50 (by omega) (by omega) ⟨0, _, rfl, by omega, by omega, by omega, by omega, by omega, (xI5.tr (hx5k_21) (hx5k_30)), hRk_30⟩
          · refine x_const hC dX5_areBad_45 ?_
            refine lv_goto (tgt := 50) hC.1 hC.2.1 dX5_areBad_46 (by decide) ?_
            exact x_zret hC hw (by omega) dX5_areBad_50 (by omega) (by omega) ⟨1, _, rfl, by omega, by omega, by omega, by omega, by omega, (xI5.tr (hx5k_21) (hx5k_30)), hRk_30⟩
    · refine x_const hC dX5_areBad_15 ?_
      refine lv_goto (tgt := 20) hC.1 hC.2.1 dX5_areBad_16 (by decide) ?_
      refine x_const hC dX5_areBad_20 ?_
      refine x_callV hC hw (lv_size hl) (c_X5_start l G hR (p0 := 1) (by omega) (p1 := 1) (by omega) (by omega)) gX5_areBad_X5_start rfl dv_X5_start hR.1.1 rfl rfl (Nat.le_of_ble_eq_true rfl) (by rw [hRf]; decide) (by rw [hRl]; decide) (by omega) (by omega) dX5_areBad_21 (fun r9 M_33 H locs hq hw => ?_)
      obtain ⟨z_35, thk_34, rfl, hz_35a, hz_35b, hz_35c0, hz_35c1, hx5k_34, hRk_34⟩ := hq
      have hsck_34 := hRk_34.sc
      show W p l e R s m args below meth c H locs _ _ _ (F0 m 24 ls [.int (iN (z_35))])
      refine x_if_ne (tgt := 45) hC ⟨by omega, by omega⟩ dX5_areBad_24 (by decide) (fun c_36 => ?_) (fun c_36 => ?_)
      · refine x_const hC dX5_areBad_45 ?_
        refine lv_goto (tgt := 50) hC.1 hC.2.1 dX5_areBad_46 (by decide) ?_
        exact x_zret hC hw (by omega) dX5_areBad_50 (by omega) (by omega) ⟨1, _, rfl, by omega, by omega, by omega, by omega, by omega, (hx5k_34), hRk_34⟩
      · refine lv_aload_n hC.1 hC.2.1 dX5_areBad_27 rfl (lv_at hl 0 rfl) ?_
        refine lv_iload_n hC.1 hC.2.1 dX5_areBad_28 rfl (lv_at hl 1 rfl) ?_
        refine lv_iload_n hC.1 hC.2.1 dX5_areBad_29 rfl (lv_at hl 2 rfl) ?_
        refine x_icmp_ne (tgt := 37) hC ⟨by omega, by omega⟩ ⟨by omega, by omega⟩ dX5_areBad_30 (by decide) (fun c_37 => ?_) (fun c_37 => ?_)
        · refine x_const hC dX5_areBad_37 ?_
          refine x_const hC dX5_areBad_38 ?_
          refine x_callV hC hw (lv_size hl) (c_X5_refuse l G hRk_34 (p0 := 0) (by omega) (p1 := 2) (by omega) (by omega)) gX5_areBad_X5_refuse rfl dv_X5_refuse hRk_34.1.1 rfl rfl (Nat.le_of_ble_eq_true rfl) (by rw [hRf]; decide) (by rw [hRl]; decide) (by omega) (by omega) dX5_areBad_39 (fun r9 M_38 H locs hq hw => ?_)
          obtain ⟨z_40, thk_39, rfl, hz_40a, hz_40b, hz_40c0, hz_40c1, hx5k_39, hRk_39⟩ := hq
          have hsck_39 := hRk_39.sc
          show W p l e R s m args below meth c H locs _ _ _ (F0 m 42 ls [.int (iN (z_40))])
          refine x_if_eq (tgt := 49) hC ⟨by omega, by omega⟩ dX5_areBad_42 (by decide) (fun c_41 => ?_) (fun c_41 => ?_)
          · refine x_const hC dX5_areBad_49 ?_
            exact x_zret hC hw (by omega) dX5_areBad_50 (by omega) (by omega) ⟨0, _, rfl, by omega, by omega, by omega, by omega, by omega, (xI5.tr (hx5k_34) (hx5k_39)), hRk_39⟩
          · refine x_const hC dX5_areBad_45 ?_
            refine lv_goto (tgt := 50) hC.1 hC.2.1 dX5_areBad_46 (by decide) ?_
            exact x_zret hC hw (by omega) dX5_areBad_50 (by omega) (by omega) ⟨1, _, rfl, by omega, by omega, by omega, by omega, by omega, (xI5.tr (hx5k_34) (hx5k_39)), hRk_39⟩
        · refine x_const hC dX5_areBad_33 ?_
          refine lv_goto (tgt := 38) hC.1 hC.2.1 dX5_areBad_34 (by decide) ?_
          refine x_const hC dX5_areBad_38 ?_
          refine x_callV hC hw (lv_size hl) (c_X5_refuse l G hRk_34 (p0 := 1) (by omega) (p1 := 2) (by omega) (by omega)) gX5_areBad_X5_refuse rfl dv_X5_refuse hRk_34.1.1 rfl rfl (Nat.le_of_ble_eq_true rfl) (by rw [hRf]; decide) (by rw [hRl]; decide) (by omega) (by omega) dX5_areBad_39 (fun r9 M_42 H locs hq hw => ?_)
          obtain ⟨z_44, thk_43, rfl, hz_44a, hz_44b, hz_44c0, hz_44c1, hx5k_43, hRk_43⟩ := hq
          have hsck_43 := hRk_43.sc
          show W p l e R s m args below meth c H locs _ _ _ (F0 m 42 ls [.int (iN (z_44))])
          refine x_if_eq (tgt := 49) hC ⟨by omega, by omega⟩ dX5_areBad_42 (by decide) (fun c_45 => ?_) (fun c_45 => ?_)
          · refine x_const hC dX5_areBad_49 ?_
            exact x_zret hC hw (by omega) dX5_areBad_50 (by omega) (by omega) ⟨0, _, rfl, by omega, by omega, by omega, by omega, by omega, (xI5.tr (hx5k_34) (hx5k_43)), hRk_43⟩
          · refine x_const hC dX5_areBad_45 ?_
            refine lv_goto (tgt := 50) hC.1 hC.2.1 dX5_areBad_46 (by decide) ?_
            exact x_zret hC hw (by omega) dX5_areBad_50 (by omega) (by omega) ⟨1, _, rfl, by omega, by omega, by omega, by omega, by omega, (xI5.tr (hx5k_34) (hx5k_43)), hRk_43⟩
set_option maxHeartbeats 4000000 in
set_option maxRecDepth 100000 in
theorem c_X5_whole (l : Launch) (G : xG) {M : HM} {p0 : Int} (hp0 : -2147483648 ≤ p0 ∧ p0 ≤ 2147483647) (hop : 0 ≤ p0 ∧ p0 ≤ 2) : xMet l G yX5_whole wsX5_whole 0 0 1 5 [.int (iN (p0))] M (fun r M1 => ∃ (q : Nat) (f : Nat → Int32), r = some (.ref q) ∧ xExt M M1 ∧ Its G M1 q f (whT p0.toNat)) := by
  refine x_intro (cc := cX5_whole) (maxL := 1) (ret := (some (.array .int))) (by decide +kernel) rfl (Nat.le_of_ble_eq_true rfl) ?_
  intro p e R s m args below meth c ls hRf hRc hRs hRl hC hw hl
  have hl : lv_has ls 1 [(0, .int (iN (p0)))] := hl
  refine x_const hC dX5_whole_0 ?_
  refine x_newI hC hw (by decide +kernel) 5 rfl (by decide) (by omega) (by omega) dX5_whole_1 (fun q_1 H hq_2 hw => ?_)
  obtain ⟨M_3, hM_4⟩ : ∃ z, z = va_up M q_1 (some (.inl (G.2 1, 5, .inl (fun _ => 0)))) := ⟨_, rfl⟩
  rw [← hM_4] at hw
  have hx_5 : xExt M M_3 := by rw [hM_4]; exact xExt.new hq_2
  have hA_6 : M_3 q_1 = some (.inl (G.2 1, 5, .inl (fun _ => 0))) := by rw [hM_4, va_up_self]
  refine lv_dup hC.1 hC.2.1 dX5_whole_3 rfl ?_
  refine x_const hC dX5_whole_4 ?_
  refine lv_iload_n hC.1 hC.2.1 dX5_whole_5 rfl (lv_at hl 0 rfl) ?_
  refine x_iast hC hw hA_6 (by omega) (by omega) (by omega) dX5_whole_6 (fun H locs hw => ?_)
  obtain ⟨M_7, hM_8⟩ : ∃ z, z = va_up M_3 q_1 (some (.inl (G.2 1, 5, .inl (upd (fun _ => 0) (0 : Int).toNat (iN (p0)))))) := ⟨_, rfl⟩
  rw [← hM_8] at hw
  have hA_9 : M_7 q_1 = some (.inl (G.2 1, 5, .inl (upd (fun _ => 0) (0 : Int).toNat (iN (p0))))) := by rw [hM_8, va_up_self]
  have hx_10 := xExt.upd hq_2 hx_5 hM_8
  refine lv_dup hC.1 hC.2.1 dX5_whole_7 rfl ?_
  refine x_const hC dX5_whole_8 ?_
  refine x_sipush hC dX5_whole_9 (by decide +kernel) ?_
  refine x_iast hC hw hA_9 (by omega) (by omega) (by omega) dX5_whole_12 (fun H locs hw => ?_)
  obtain ⟨M_11, hM_12⟩ : ∃ z, z = va_up M_7 q_1 (some (.inl (G.2 1, 5, .inl (upd (upd (fun _ => 0) (0 : Int).toNat (iN (p0))) (1 : Int).toNat (iN ((-10000))))))) := ⟨_, rfl⟩
  rw [← hM_12] at hw
  have hA_13 : M_11 q_1 = some (.inl (G.2 1, 5, .inl (upd (upd (fun _ => 0) (0 : Int).toNat (iN (p0))) (1 : Int).toNat (iN ((-10000)))))) := by rw [hM_12, va_up_self]
  have hx_14 := xExt.upd hq_2 hx_10 hM_12
  refine lv_dup hC.1 hC.2.1 dX5_whole_13 rfl ?_
  refine x_const hC dX5_whole_14 ?_
  refine x_const hC dX5_whole_15 ?_
  refine x_iast hC hw hA_13 (by omega) (by omega) (by omega) dX5_whole_16 (fun H locs hw => ?_)
  obtain ⟨M_15, hM_16⟩ : ∃ z, z = va_up M_11 q_1 (some (.inl (G.2 1, 5, .inl (upd (upd (upd (fun _ => 0) (0 : Int).toNat (iN (p0))) (1 : Int).toNat (iN ((-10000)))) (2 : Int).toNat (iN (0)))))) := ⟨_, rfl⟩
  rw [← hM_16] at hw
  have hA_17 : M_15 q_1 = some (.inl (G.2 1, 5, .inl (upd (upd (upd (fun _ => 0) (0 : Int).toNat (iN (p0))) (1 : Int).toNat (iN ((-10000)))) (2 : Int).toNat (iN (0))))) := by rw [hM_16, va_up_self]
  have hx_18 := xExt.upd hq_2 hx_14 hM_16
  refine lv_dup hC.1 hC.2.1 dX5_whole_17 rfl ?_
  refine x_const hC dX5_whole_18 ?_
  refine x_sipush hC dX5_whole_19 (by decide +kernel) ?_
  refine x_iast hC hw hA_17 (by omega) (by omega) (by omega) dX5_whole_22 (fun H locs hw => ?_)
  obtain ⟨M_19, hM_20⟩ : ∃ z, z = va_up M_15 q_1 (some (.inl (G.2 1, 5, .inl (upd (upd (upd (upd (fun _ => 0) (0 : Int).toNat (iN (p0))) (1 : Int).toNat (iN ((-10000)))) (2 : Int).toNat (iN (0))) (3 : Int).toNat (iN ((-10000))))))) := ⟨_, rfl⟩
  rw [← hM_20] at hw
  have hA_21 : M_19 q_1 = some (.inl (G.2 1, 5, .inl (upd (upd (upd (upd (fun _ => 0) (0 : Int).toNat (iN (p0))) (1 : Int).toNat (iN ((-10000)))) (2 : Int).toNat (iN (0))) (3 : Int).toNat (iN ((-10000)))))) := by rw [hM_20, va_up_self]
  have hx_22 := xExt.upd hq_2 hx_18 hM_20
  refine lv_dup hC.1 hC.2.1 dX5_whole_23 rfl ?_
  refine x_const hC dX5_whole_24 ?_
  refine x_const hC dX5_whole_25 ?_
  refine x_iast hC hw hA_21 (by omega) (by omega) (by omega) dX5_whole_26 (fun H locs hw => ?_)
  obtain ⟨M_23, hM_24⟩ : ∃ z, z = va_up M_19 q_1 (some (.inl (G.2 1, 5, .inl (upd (upd (upd (upd (upd (fun _ => 0) (0 : Int).toNat (iN (p0))) (1 : Int).toNat (iN ((-10000)))) (2 : Int).toNat (iN (0))) (3 : Int).toNat (iN ((-10000)))) (4 : Int).toNat (iN (0)))))) := ⟨_, rfl⟩
  rw [← hM_24] at hw
  have hA_25 : M_23 q_1 = some (.inl (G.2 1, 5, .inl (upd (upd (upd (upd (upd (fun _ => 0) (0 : Int).toNat (iN (p0))) (1 : Int).toNat (iN ((-10000)))) (2 : Int).toNat (iN (0))) (3 : Int).toNat (iN ((-10000)))) (4 : Int).toNat (iN (0))))) := by rw [hM_24, va_up_self]
  have hx_26 := xExt.upd hq_2 hx_22 hM_24
  have hI_27 : Its G M_23 q_1 (upd (upd (upd (upd (upd (fun _ => 0) (0 : Int).toNat (iN (p0))) (1 : Int).toNat (iN ((-10000)))) (2 : Int).toNat (iN (0))) (3 : Int).toNat (iN ((-10000)))) (4 : Int).toNat (iN (0))) ((p0).toNat, (-10000), (-10000), 0, 0) := ⟨hA_25, ⟨(show (p0).toNat < 3 by omega), (show (-10000) = -10000 ∨ (0 ≤ (-10000) ∧ (-10000) ≤ 99) by omega), (show (-10000) = -10000 ∨ (0 ≤ (-10000) ∧ (-10000) ≤ 99) by omega), (show 0 = 0 ∨ 0 = 1 by omega), (show 0 = 0 ∨ 0 = 1 by omega)⟩, (show iN (p0) = iN _ by rw [show p0 = (((p0).toNat : Nat) : Int) by omega]), rfl, rfl, rfl, rfl⟩
  exact x_aret hC hw (by first | exact Or.inl ⟨_, rfl⟩ | exact Or.inr ⟨_, rfl⟩) (Or.inr ⟨_, rfl⟩) dX5_whole_27 (by omega) (by omega) (by have hI9 := hI_27; exact ⟨_, _, rfl, hx_26, hI9⟩)
set_option maxHeartbeats 4000000 in
set_option maxRecDepth 100000 in
theorem c_X5_weight (l : Launch) (G : xG) {M : HM} {a va oa wa ya : Nat} {wk : Option Nat} {th : Int} {rfd : Int32} {br re la ha : Int} {kp kv : Int32} {qv qw : Nat → Nat} {fa fb : Nat → Option Nat} {V : BW} {O : OW} {fy : Nat → Option Nat} {Wv : VW} {wt : Option VT} {S : Nat → Bool} (hR : MGx G M a va oa wa ya wk th rfd br re la ha kp kv qv qw fa fb V O fy Wv wt S) {i : Nat} {fi : Nat → Int32} {ti : VT} (hIi : Its G M i fi ti) {p0 : Int} (hp0 : -2147483648 ≤ p0 ∧ p0 ≤ 2147483647) (hop : 0 ≤ p0 ∧ p0 ≤ 99) : xMet l G yX5_weight wsX5_weight 0 0 0 0 [.ref a, .ref i, .int (iN (p0))] M (fun r M1 => ∃ z : Int, r = some (.int (iN z)) ∧ M1 = M ∧ (0 ≤ z ∧ z ≤ 999) ∧ z = ((mwN (O ti.b) p0.toNat : Nat) : Int)) := by
  refine x_intro (cc := cX5_weight) (maxL := 3) (ret := (some .int)) (by decide +kernel) rfl (Nat.le_of_ble_eq_true rfl) ?_
  intro p e R s m args below meth c ls hRf hRc hRs hRl hC hw hl
  have hsc0 := hR.sc
  obtain ⟨htat_1, htbt_1, htct_1, htdt_1, htet_1⟩ := id hIi.2.1
  have holi := hR.or' hIi.2.1.1
  have hinX5 : ∀ w ∈ wsX50, w ∈ wsX5_weight := by decide +kernel
  have hl : lv_has ls 3 [(0, .ref a), (1, .ref i), (2, .int (iN (p0)))] := hl
  refine lv_aload_n hC.1 hC.2.1 dX5_weight_0 rfl (lv_at hl 0 rfl) ?_
  refine x_get hC hw hR.1.1 rfl hinX5 4 (by decide) (by decide +kernel) rfl dX5_weight_1 ?_
  refine lv_aload_n hC.1 hC.2.1 dX5_weight_4 rfl (lv_at hl 0 rfl) ?_
  refine x_get hC hw hR.1.1 rfl hinX5 3 (by decide) (by decide +kernel) rfl dX5_weight_5 ?_
  refine lv_aload_n hC.1 hC.2.1 dX5_weight_8 rfl (lv_at hl 1 rfl) ?_
  refine x_const hC dX5_weight_9 ?_
  refine x_ialdE (x := ((ti.b : Nat) : Int)) hC hw hIi.1 (by omega) (by omega) (by omega) dX5_weight_10 hIi.2.2.1 ?_
  refine x_ialdE (x := ((O ti.b : Nat) : Int)) hC hw hR.1.2.2.1 (by omega) (by omega) (by omega) dX5_weight_11 rfl ?_
  have hro_2 : O ti.b < 3 := hR.or' (by omega)
  refine x_ald4 hC hw hR.1.2.2.2.1 (by omega) (by omega) (by omega) dX5_weight_12 ?_
  rw [Int.toNat_natCast]
  rw [hR.fb' (show O ti.b < 3 by omega)]
  show W p l e R s m args below meth c _ _ _ _ _ (F0 m 13 ls [.ref (qw (O ti.b))])
  obtain ⟨fww_3, hww_3, hwvw_3⟩ := hR.rw' (show O ti.b < 3 by omega)
  refine lv_iload_n hC.1 hC.2.1 dX5_weight_13 rfl (lv_at hl 2 rfl) ?_
  refine x_ialdE (x := ((mwN (O ti.b) ((p0).toNat) : Nat) : Int)) hC hw hww_3 (by omega) (by omega) (by omega) dX5_weight_14 (hwvw_3 ((p0).toNat) (by omega)) ?_
  have hrw_4 := mw_le (show O ti.b < 3 by omega) (show (p0).toNat < 100 by omega)
  exact x_iret hC hw dX5_weight_15 (by omega) (by omega) ⟨((mwN (O ti.b) ((p0).toNat) : Nat) : Int), rfl, rfl, by omega, rfl⟩
set_option maxHeartbeats 4000000 in
set_option maxRecDepth 100000 in
theorem c_X5_isWithin (l : Launch) (G : xG) {M : HM} {a va oa wa ya : Nat} {wk : Option Nat} {th : Int} {rfd : Int32} {br re la ha : Int} {kp kv : Int32} {qv qw : Nat → Nat} {fa fb : Nat → Option Nat} {V : BW} {O : OW} {fy : Nat → Option Nat} {Wv : VW} {wt : Option VT} {S : Nat → Bool} (hR : MGx G M a va oa wa ya wk th rfd br re la ha kp kv qv qw fa fb V O fy Wv wt S) {i : Nat} {fi : Nat → Int32} {ti : VT} (hIi : Its G M i fi ti) {p0 : Int} (hp0 : -2147483648 ≤ p0 ∧ p0 ≤ 2147483647) (hop : 0 ≤ p0 ∧ p0 ≤ 99) : xMet l G yX5_isWithin wsX5_isWithin 1 22 0 0 [.ref a, .ref i, .int (iN (p0))] M (fun r M1 => ∃ z : Int, r = some (.int (iN z)) ∧ M1 = M ∧ (z = 0 ∨ z = 1) ∧ z = inI (O ti.b) ti p0.toNat) := by
  refine x_intro (cc := cX5_isWithin) (maxL := 4) (ret := (some .boolean)) (by decide +kernel) rfl (Nat.le_of_ble_eq_true rfl) ?_
  intro p e R s m args below meth c ls hRf hRc hRs hRl hC hw hl
  have hsc0 := hR.sc
  obtain ⟨htat_1, htbt_1, htct_1, htdt_1, htet_1⟩ := id hIi.2.1
  have holi := hR.or' hIi.2.1.1
  have hl : lv_has ls 4 [(0, .ref a), (1, .ref i), (2, .int (iN (p0)))] := hl
  refine lv_aload_n hC.1 hC.2.1 dX5_isWithin_0 rfl (lv_at hl 0 rfl) ?_
  refine lv_aload_n hC.1 hC.2.1 dX5_isWithin_1 rfl (lv_at hl 1 rfl) ?_
  refine lv_iload_n hC.1 hC.2.1 dX5_isWithin_2 rfl (lv_at hl 2 rfl) ?_
  refine x_callV hC hw (lv_size hl) (c_X5_weight l G hR hIi (p0 := p0) (by omega) (by omega)) gX5_isWithin_X5_weight rfl dv_X5_weight hR.1.1 rfl rfl (Nat.le_of_ble_eq_true rfl) (by rw [hRf]; decide) (by rw [hRl]; decide) (by omega) (by omega) dX5_isWithin_3 (fun r9 M_2 H locs hq hw => ?_)
  obtain ⟨z_3, rfl, hM9, hz_3a, hz_3b⟩ := hq
  rw [hM9] at hw
  show W p l e R s m args below meth c H locs _ _ _ (F0 m 6 ls [.int (iN (z_3))])
  refine lv_istore_n (lv' := [(3, .int (iN (z_3))), (0, .ref a), (1, .ref i), (2, .int (iN (p0)))]) hC.1 hC.2.1 dX5_isWithin_6 rfl hl (by decide) rfl (fun ls hl => ?_)
  refine lv_aload_n hC.1 hC.2.1 dX5_isWithin_7 rfl (lv_at hl 2 rfl) ?_
  refine x_const hC dX5_isWithin_8 ?_
  refine x_ialdE (x := ti.lo) hC hw hIi.1 (by omega) (by omega) (by omega) dX5_isWithin_9 hIi.2.2.2.1 ?_
  refine x_sipush hC dX5_isWithin_10 (by decide +kernel) ?_
  refine x_icmp_eq (tgt := 36) hC ⟨by omega, by omega⟩ ⟨by omega, by omega⟩ dX5_isWithin_13 (by decide) (fun c_4 => ?_) (fun c_4 => ?_)
  · refine lv_aload_n hC.1 hC.2.1 dX5_isWithin_36 rfl (lv_at hl 2 rfl) ?_
    refine x_const hC dX5_isWithin_37 ?_
    refine x_ialdE (x := ti.up) hC hw hIi.1 (by omega) (by omega) (by omega) dX5_isWithin_38 hIi.2.2.2.2.2.1 ?_
    refine x_sipush hC dX5_isWithin_39 (by decide +kernel) ?_
    refine x_icmp_eq (tgt := 63) hC ⟨by omega, by omega⟩ ⟨by omega, by omega⟩ dX5_isWithin_42 (by decide) (fun c_5 => ?_) (fun c_5 => ?_)
    · refine x_const hC dX5_isWithin_63 ?_
      refine lv_goto (tgt := 68) hC.1 hC.2.1 dX5_isWithin_64 (by decide) ?_
      exact x_zret hC hw (by omega) dX5_isWithin_68 (by omega) (by omega) ⟨1, rfl, rfl, by omega, inI_eq (by omega) (by show _ ↔ ((ti.lo = -10000 ∨ (mwN (O ti.b) ti.lo.toNat : Int) + 1 - ti.li ≤ mwN (O ti.b) (p0).toNat) ∧ (ti.up = -10000 ∨ (mwN (O ti.b) (p0).toNat : Int) ≤ mwN (O ti.b) ti.up.toNat - 1 + ti.ui)); omega)⟩
    · refine lv_iload_n hC.1 hC.2.1 dX5_isWithin_45 rfl (lv_at hl 0 rfl) ?_
      refine lv_aload_n hC.1 hC.2.1 dX5_isWithin_46 rfl (lv_at hl 1 rfl) ?_
      refine lv_aload_n hC.1 hC.2.1 dX5_isWithin_47 rfl (lv_at hl 2 rfl) ?_
      refine lv_aload_n hC.1 hC.2.1 dX5_isWithin_48 rfl (lv_at hl 2 rfl) ?_
      refine x_const hC dX5_isWithin_49 ?_
      refine x_ialdE (x := ti.up) hC hw hIi.1 (by omega) (by omega) (by omega) dX5_isWithin_50 hIi.2.2.2.2.2.1 ?_
      refine x_callV hC hw (lv_size hl) (c_X5_weight l G hR hIi (p0 := ti.up) (by omega) (by omega)) gX5_isWithin_X5_weight rfl dv_X5_weight hR.1.1 rfl rfl (Nat.le_of_ble_eq_true rfl) (by rw [hRf]; decide) (by rw [hRl]; decide) (by omega) (by omega) dX5_isWithin_51 (fun r9 M_6 H locs hq hw => ?_)
      obtain ⟨z_7, rfl, hM9, hz_7a, hz_7b⟩ := hq
      rw [hM9] at hw
      show W p l e R s m args below meth c H locs _ _ _ (F0 m 54 ls [.int (iN (z_7)), .int (iN (z_3))])
      refine x_const hC dX5_isWithin_54 ?_
      refine x_isub hC dX5_isWithin_55 ?_
      refine lv_aload_n hC.1 hC.2.1 dX5_isWithin_56 rfl (lv_at hl 2 rfl) ?_
      refine x_const hC dX5_isWithin_57 ?_
      refine x_ialdE (x := ti.ui) hC hw hIi.1 (by omega) (by omega) (by omega) dX5_isWithin_58 hIi.2.2.2.2.2.2 ?_
      refine x_iadd hC dX5_isWithin_59 ?_
      refine x_icmp_gt (tgt := 67) hC ⟨by omega, by omega⟩ ⟨by omega, by omega⟩ dX5_isWithin_60 (by decide) (fun c_8 => ?_) (fun c_8 => ?_)
      · refine x_const hC dX5_isWithin_67 ?_
        exact x_zret hC hw (by omega) dX5_isWithin_68 (by omega) (by omega) ⟨0, rfl, rfl, by omega, inI_eq (by omega) (by show _ ↔ ((ti.lo = -10000 ∨ (mwN (O ti.b) ti.lo.toNat : Int) + 1 - ti.li ≤ mwN (O ti.b) (p0).toNat) ∧ (ti.up = -10000 ∨ (mwN (O ti.b) (p0).toNat : Int) ≤ mwN (O ti.b) ti.up.toNat - 1 + ti.ui)); omega)⟩
      · refine x_const hC dX5_isWithin_63 ?_
        refine lv_goto (tgt := 68) hC.1 hC.2.1 dX5_isWithin_64 (by decide) ?_
        exact x_zret hC hw (by omega) dX5_isWithin_68 (by omega) (by omega) ⟨1, rfl, rfl, by omega, inI_eq (by omega) (by show _ ↔ ((ti.lo = -10000 ∨ (mwN (O ti.b) ti.lo.toNat : Int) + 1 - ti.li ≤ mwN (O ti.b) (p0).toNat) ∧ (ti.up = -10000 ∨ (mwN (O ti.b) (p0).toNat : Int) ≤ mwN (O ti.b) ti.up.toNat - 1 + ti.ui)); omega)⟩
  · refine lv_iload_n hC.1 hC.2.1 dX5_isWithin_16 rfl (lv_at hl 0 rfl) ?_
    refine lv_aload_n hC.1 hC.2.1 dX5_isWithin_17 rfl (lv_at hl 1 rfl) ?_
    refine lv_aload_n hC.1 hC.2.1 dX5_isWithin_18 rfl (lv_at hl 2 rfl) ?_
    refine lv_aload_n hC.1 hC.2.1 dX5_isWithin_19 rfl (lv_at hl 2 rfl) ?_
    refine x_const hC dX5_isWithin_20 ?_
    refine x_ialdE (x := ti.lo) hC hw hIi.1 (by omega) (by omega) (by omega) dX5_isWithin_21 hIi.2.2.2.1 ?_
    refine x_callV hC hw (lv_size hl) (c_X5_weight l G hR hIi (p0 := ti.lo) (by omega) (by omega)) gX5_isWithin_X5_weight rfl dv_X5_weight hR.1.1 rfl rfl (Nat.le_of_ble_eq_true rfl) (by rw [hRf]; decide) (by rw [hRl]; decide) (by omega) (by omega) dX5_isWithin_22 (fun r9 M_9 H locs hq hw => ?_)
    obtain ⟨z_10, rfl, hM9, hz_10a, hz_10b⟩ := hq
    rw [hM9] at hw
    show W p l e R s m args below meth c H locs _ _ _ (F0 m 25 ls [.int (iN (z_10)), .int (iN (z_3))])
    refine x_const hC dX5_isWithin_25 ?_
    refine x_iadd hC dX5_isWithin_26 ?_
    refine lv_aload_n hC.1 hC.2.1 dX5_isWithin_27 rfl (lv_at hl 2 rfl) ?_
    refine x_const hC dX5_isWithin_28 ?_
    refine x_ialdE (x := ti.li) hC hw hIi.1 (by omega) (by omega) (by omega) dX5_isWithin_29 hIi.2.2.2.2.1 ?_
    refine x_isub hC dX5_isWithin_30 ?_
    refine x_icmp_ge (tgt := 36) hC ⟨by omega, by omega⟩ ⟨by omega, by omega⟩ dX5_isWithin_31 (by decide) (fun c_11 => ?_) (fun c_11 => ?_)
    · refine lv_aload_n hC.1 hC.2.1 dX5_isWithin_36 rfl (lv_at hl 2 rfl) ?_
      refine x_const hC dX5_isWithin_37 ?_
      refine x_ialdE (x := ti.up) hC hw hIi.1 (by omega) (by omega) (by omega) dX5_isWithin_38 hIi.2.2.2.2.2.1 ?_
      refine x_sipush hC dX5_isWithin_39 (by decide +kernel) ?_
      refine x_icmp_eq (tgt := 63) hC ⟨by omega, by omega⟩ ⟨by omega, by omega⟩ dX5_isWithin_42 (by decide) (fun c_12 => ?_) (fun c_12 => ?_)
      · refine x_const hC dX5_isWithin_63 ?_
        refine lv_goto (tgt := 68) hC.1 hC.2.1 dX5_isWithin_64 (by decide) ?_
        exact x_zret hC hw (by omega) dX5_isWithin_68 (by omega) (by omega) ⟨1, rfl, rfl, by omega, inI_eq (by omega) (by show _ ↔ ((ti.lo = -10000 ∨ (mwN (O ti.b) ti.lo.toNat : Int) + 1 - ti.li ≤ mwN (O ti.b) (p0).toNat) ∧ (ti.up = -10000 ∨ (mwN (O ti.b) (p0).toNat : Int) ≤ mwN (O ti.b) ti.up.toNat - 1 + ti.ui)); omega)⟩
      · refine lv_iload_n hC.1 hC.2.1 dX5_isWithin_45 rfl (lv_at hl 0 rfl) ?_
        refine lv_aload_n hC.1 hC.2.1 dX5_isWithin_46 rfl (lv_at hl 1 rfl) ?_
        refine lv_aload_n hC.1 hC.2.1 dX5_isWithin_47 rfl (lv_at hl 2 rfl) ?_
        refine lv_aload_n hC.1 hC.2.1 dX5_isWithin_48 rfl (lv_at hl 2 rfl) ?_
        refine x_const hC dX5_isWithin_49 ?_
        refine x_ialdE (x := ti.up) hC hw hIi.1 (by omega) (by omega) (by omega) dX5_isWithin_50 hIi.2.2.2.2.2.1 ?_
        refine x_callV hC hw (lv_size hl) (c_X5_weight l G hR hIi (p0 := ti.up) (by omega) (by omega)) gX5_isWithin_X5_weight rfl dv_X5_weight hR.1.1 rfl rfl (Nat.le_of_ble_eq_true rfl) (by rw [hRf]; decide) (by rw [hRl]; decide) (by omega) (by omega) dX5_isWithin_51 (fun r9 M_13 H locs hq hw => ?_)
        obtain ⟨z_14, rfl, hM9, hz_14a, hz_14b⟩ := hq
        rw [hM9] at hw
        show W p l e R s m args below meth c H locs _ _ _ (F0 m 54 ls [.int (iN (z_14)), .int (iN (z_3))])
        refine x_const hC dX5_isWithin_54 ?_
        refine x_isub hC dX5_isWithin_55 ?_
        refine lv_aload_n hC.1 hC.2.1 dX5_isWithin_56 rfl (lv_at hl 2 rfl) ?_
        refine x_const hC dX5_isWithin_57 ?_
        refine x_ialdE (x := ti.ui) hC hw hIi.1 (by omega) (by omega) (by omega) dX5_isWithin_58 hIi.2.2.2.2.2.2 ?_
        refine x_iadd hC dX5_isWithin_59 ?_
        refine x_icmp_gt (tgt := 67) hC ⟨by omega, by omega⟩ ⟨by omega, by omega⟩ dX5_isWithin_60 (by decide) (fun c_15 => ?_) (fun c_15 => ?_)
        · refine x_const hC dX5_isWithin_67 ?_
          exact x_zret hC hw (by omega) dX5_isWithin_68 (by omega) (by omega) ⟨0, rfl, rfl, by omega, inI_eq (by omega) (by show _ ↔ ((ti.lo = -10000 ∨ (mwN (O ti.b) ti.lo.toNat : Int) + 1 - ti.li ≤ mwN (O ti.b) (p0).toNat) ∧ (ti.up = -10000 ∨ (mwN (O ti.b) (p0).toNat : Int) ≤ mwN (O ti.b) ti.up.toNat - 1 + ti.ui)); omega)⟩
        · refine x_const hC dX5_isWithin_63 ?_
          refine lv_goto (tgt := 68) hC.1 hC.2.1 dX5_isWithin_64 (by decide) ?_
          exact x_zret hC hw (by omega) dX5_isWithin_68 (by omega) (by omega) ⟨1, rfl, rfl, by omega, inI_eq (by omega) (by show _ ↔ ((ti.lo = -10000 ∨ (mwN (O ti.b) ti.lo.toNat : Int) + 1 - ti.li ≤ mwN (O ti.b) (p0).toNat) ∧ (ti.up = -10000 ∨ (mwN (O ti.b) (p0).toNat : Int) ≤ mwN (O ti.b) ti.up.toNat - 1 + ti.ui)); omega)⟩
    · refine x_const hC dX5_isWithin_34 ?_
      exact x_zret hC hw (by omega) dX5_isWithin_35 (by omega) (by omega) ⟨0, rfl, rfl, by omega, inI_eq (by omega) (by show _ ↔ ((ti.lo = -10000 ∨ (mwN (O ti.b) ti.lo.toNat : Int) + 1 - ti.li ≤ mwN (O ti.b) (p0).toNat) ∧ (ti.up = -10000 ∨ (mwN (O ti.b) (p0).toNat : Int) ≤ mwN (O ti.b) ti.up.toNat - 1 + ti.ui)); omega)⟩
set_option maxHeartbeats 4000000 in
set_option maxRecDepth 100000 in
theorem c_X5_shows (l : Launch) (G : xG) {M : HM} {a va oa wa ya : Nat} {wk : Option Nat} {th : Int} {rfd : Int32} {br re la ha : Int} {kp kv : Int32} {qv qw : Nat → Nat} {fa fb : Nat → Option Nat} {V : BW} {O : OW} {fy : Nat → Option Nat} {Wv : VW} {wt : Option VT} {S : Nat → Bool} (hR : MGx G M a va oa wa ya wk th rfd br re la ha kp kv qv qw fa fb V O fy Wv wt S) {i : Nat} {fi : Nat → Int32} {ti : VT} (hIi : Its G M i fi ti) {p0 : Int} (hp0 : -2147483648 ≤ p0 ∧ p0 ≤ 2147483647) (hop : 0 ≤ p0 ∧ p0 ≤ 99) : xMet l G yX5_shows wsX5_shows 2 45 0 0 [.ref a, .ref i, .int (iN (p0))] M (fun r M1 => ∃ z : Int, r = some (.int (iN z)) ∧ M1 = M ∧ (z = 0 ∨ z = 1) ∧ z = shI O V ti p0.toNat ∧ (z ≠ 0 → mP S V ti p0.toNat)) := by
  refine x_intro (cc := cX5_shows) (maxL := 3) (ret := (some .boolean)) (by decide +kernel) rfl (Nat.le_of_ble_eq_true rfl) ?_
  intro p e R s m args below meth c ls hRf hRc hRs hRl hC hw hl
  have hsc0 := hR.sc
  obtain ⟨htat_1, htbt_1, htct_1, htdt_1, htet_1⟩ := id hIi.2.1
  have holi := hR.or' hIi.2.1.1
  have hinX5 : ∀ w ∈ wsX50, w ∈ wsX5_shows := by decide +kernel
  have hl : lv_has ls 3 [(0, .ref a), (1, .ref i), (2, .int (iN (p0)))] := hl
  refine lv_aload_n hC.1 hC.2.1 dX5_shows_0 rfl (lv_at hl 0 rfl) ?_
  refine x_get hC hw hR.1.1 rfl hinX5 2 (by decide) (by decide +kernel) rfl dX5_shows_1 ?_
  refine lv_aload_n hC.1 hC.2.1 dX5_shows_4 rfl (lv_at hl 1 rfl) ?_
  refine x_const hC dX5_shows_5 ?_
  refine x_ialdE (x := ((ti.b : Nat) : Int)) hC hw hIi.1 (by omega) (by omega) (by omega) dX5_shows_6 hIi.2.2.1 ?_
  refine x_ald4 hC hw hR.1.2.1 (by omega) (by omega) (by omega) dX5_shows_7 ?_
  rw [Int.toNat_natCast]
  rw [hR.fa' (show ti.b < 3 by omega)]
  show W p l e R s m args below meth c _ _ _ _ _ (F0 m 8 ls [.ref (qv ti.b)])
  refine lv_iload_n hC.1 hC.2.1 dX5_shows_8 rfl (lv_at hl 2 rfl) ?_
  refine x_ialdE (x := (V ti.b ((p0).toNat))) hC hw (hR.rv (show ti.b < 3 by omega)) (by omega) (by omega) (by omega) dX5_shows_9 rfl ?_
  have hrv_2 := hR.vr (show ti.b < 3 by omega) (show (p0).toNat < 100 by omega)
  have hpv_2 := hR.vs (show ti.b < 3 by omega) (show (p0).toNat < 100 by omega)
  refine x_sipush hC dX5_shows_10 (by decide +kernel) ?_
  refine x_icmp_eq (tgt := 29) hC ⟨by omega, by omega⟩ ⟨by omega, by omega⟩ dX5_shows_13 (by decide) (fun c_3 => ?_) (fun c_3 => ?_)
  · refine x_const hC dX5_shows_29 ?_
    exact x_zret hC hw (by omega) dX5_shows_30 (by omega) (by omega) ⟨0, rfl, rfl, by omega, by have e9 := shI_iff (O := O) (V := V) (t := ti) (k := (p0).toNat); have e8 := shI_01 O V ti (p0).toNat; omega, fun q9 => ⟨hpv_2 (by omega), by omega⟩⟩
  · refine lv_aload_n hC.1 hC.2.1 dX5_shows_16 rfl (lv_at hl 0 rfl) ?_
    refine lv_aload_n hC.1 hC.2.1 dX5_shows_17 rfl (lv_at hl 1 rfl) ?_
    refine lv_iload_n hC.1 hC.2.1 dX5_shows_18 rfl (lv_at hl 2 rfl) ?_
    refine x_callV hC hw (lv_size hl) (c_X5_isWithin l G hR hIi (p0 := p0) (by omega) (by omega)) gX5_shows_X5_isWithin rfl dv_X5_isWithin hR.1.1 rfl rfl (Nat.le_of_ble_eq_true rfl) (by rw [hRf]; decide) (by rw [hRl]; decide) (by omega) (by omega) dX5_shows_19 (fun r9 M_4 H locs hq hw => ?_)
    obtain ⟨z_5, rfl, hM9, hz_5a, hz_5w⟩ := hq
    rw [hM9] at hw
    show W p l e R s m args below meth c H locs _ _ _ (F0 m 22 ls [.int (iN (z_5))])
    refine x_if_eq (tgt := 29) hC ⟨by omega, by omega⟩ dX5_shows_22 (by decide) (fun c_6 => ?_) (fun c_6 => ?_)
    · refine x_const hC dX5_shows_29 ?_
      exact x_zret hC hw (by omega) dX5_shows_30 (by omega) (by omega) ⟨0, rfl, rfl, by omega, by have e9 := shI_iff (O := O) (V := V) (t := ti) (k := (p0).toNat); have e8 := shI_01 O V ti (p0).toNat; omega, fun q9 => ⟨hpv_2 (by omega), by omega⟩⟩
    · refine x_const hC dX5_shows_25 ?_
      refine lv_goto (tgt := 30) hC.1 hC.2.1 dX5_shows_26 (by decide) ?_
      exact x_zret hC hw (by omega) dX5_shows_30 (by omega) (by omega) ⟨1, rfl, rfl, by omega, by have e9 := shI_iff (O := O) (V := V) (t := ti) (k := (p0).toNat); have e8 := shI_01 O V ti (p0).toNat; omega, fun q9 => ⟨hpv_2 (by omega), by omega⟩⟩
set_option maxHeartbeats 4000000 in
set_option maxRecDepth 100000 in
theorem c_X5_closest (l : Launch) (G : xG) {M : HM} {a va oa wa ya : Nat} {wk : Option Nat} {th : Int} {rfd : Int32} {br re la ha : Int} {kp kv : Int32} {qv qw : Nat → Nat} {fa fb : Nat → Option Nat} {V : BW} {O : OW} {fy : Nat → Option Nat} {Wv : VW} {wt : Option VT} {S : Nat → Bool} (hR : MGx G M a va oa wa ya wk th rfd br re la ha kp kv qv qw fa fb V O fy Wv wt S) {i : Nat} {fi : Nat → Int32} {ti : VT} (hIi : Its G M i fi ti) {p0 : Int} (hp0 : -2147483648 ≤ p0 ∧ p0 ≤ 2147483647) {p1 : Int} (hp1 : -2147483648 ≤ p1 ∧ p1 ≤ 2147483647) (hop : p1 = 0 ∨ p1 = 1) : xMet l G yX5_closest wsX5_closest 3 67 0 0 [.ref a, .ref i, .int (iN (p0)), .int (iN (p1))] M (fun r M1 => ∃ z : Int, r = some (.int (iN z)) ∧ M1 = M ∧ (z = -10000 ∨ (0 ≤ z ∧ z ≤ 99)) ∧ (z ≠ -10000 → mP S V ti z.toNat) ∧ z = clF O V ti p0 p1 100) := by
  refine x_intro (cc := cX5_closest) (maxL := 7) (ret := (some .int)) (by decide +kernel) rfl (Nat.le_of_ble_eq_true rfl) ?_
  intro p e R s m args below meth c ls hRf hRc hRs hRl hC hw hl
  have hsc0 := hR.sc
  obtain ⟨htat_1, htbt_1, htct_1, htdt_1, htet_1⟩ := id hIi.2.1
  have holi := hR.or' hIi.2.1.1
  have hl : lv_has ls 7 [(0, .ref a), (1, .ref i), (2, .int (iN (p0))), (3, .int (iN (p1)))] := hl
  refine x_sipush hC dX5_closest_0 (by decide +kernel) ?_
  refine lv_istore (lv' := [(4, .int (iN ((-10000)))), (0, .ref a), (1, .ref i), (2, .int (iN (p0))), (3, .int (iN (p1)))]) hC.1 hC.2.1 dX5_closest_3 hl (by decide) rfl (fun ls hl => ?_)
  refine x_const hC dX5_closest_5 ?_
  refine lv_istore (lv' := [(5, .int (iN (0))), (4, .int (iN ((-10000)))), (0, .ref a), (1, .ref i), (2, .int (iN (p0))), (3, .int (iN (p1)))]) hC.1 hC.2.1 dX5_closest_6 hl (by decide) rfl (fun ls hl => ?_)
  suffices hloop8 : ∀ (n9 : Nat) (bs : Int) (j : Int) (H : Heap) (locs : List Loc) (ls : Array Slot), (hmu : (100 - j).toNat < n9) → (hi0 : 0 ≤ j ∧ j ≤ 100) → (hi1 : bs = -10000 ∨ (0 ≤ bs ∧ bs ≤ 99)) → (hi2 : bs ≠ -10000 → mP S V ti bs.toNat) → (hcl : bs = clF O V ti p0 p1 j.toNat) → xD G (xA M s.heap.size) s M H locs → lv_has ls 7 [(0, .ref a), (1, .ref i), (2, .int (iN (p0))), (3, .int (iN (p1))), (4, .int (iN (bs))), (5, .int (iN (j)))] → W p l e R s m args below meth c H locs _ _ _ (F0 m 8 ls []) by
    exact hloop8 _ (-10000) 0  _ _ _ (Nat.lt_succ_self _) (by omega) (by omega) (fun q9 => absurd rfl q9) (rfl) hw (lv_sub hl [2, 3, 4, 5, 1, 0] rfl)
  intro n9
  induction n9 with
  | zero => intro bs j  H locs ls hmu; exact absurd hmu (Nat.not_lt_zero _)
  | succ n9 ih8 =>
    intro bs j  H locs ls hmu hi0 hi1 hi2 hcl hw hl
    refine lv_iload hC.1 hC.2.1 dX5_closest_8 (lv_at hl 5 rfl) ?_
    refine x_bipush hC dX5_closest_10 (by decide +kernel) ?_
    refine x_icmp_ge (tgt := 98) hC ⟨by omega, by omega⟩ ⟨by omega, by omega⟩ dX5_closest_12 (by decide) (fun c_2 => ?_) (fun c_2 => ?_)
    · refine lv_iload hC.1 hC.2.1 dX5_closest_98 (lv_at hl 4 rfl) ?_
      exact x_iret hC hw dX5_closest_100 (by omega) (by omega) ⟨bs, rfl, rfl, by omega, hi2, by rw [show (100 : Nat) = (j).toNat by omega]; exact hcl⟩
    · refine lv_aload_n hC.1 hC.2.1 dX5_closest_15 rfl (lv_at hl 0 rfl) ?_
      refine lv_aload_n hC.1 hC.2.1 dX5_closest_16 rfl (lv_at hl 1 rfl) ?_
      refine lv_iload hC.1 hC.2.1 dX5_closest_17 (lv_at hl 5 rfl) ?_
      refine x_callV hC hw (lv_size hl) (c_X5_shows l G hR hIi (p0 := j) (by omega) (by omega)) gX5_closest_X5_shows rfl dv_X5_shows hR.1.1 rfl rfl (Nat.le_of_ble_eq_true rfl) (by rw [hRf]; decide) (by rw [hRl]; decide) (by omega) (by omega) dX5_closest_19 (fun r9 M_3 H locs hq hw => ?_)
      obtain ⟨z_4, rfl, hM9, hz_4a, hz_4s, hz_4S⟩ := hq
      rw [hM9] at hw
      have hz_4i := shI_iff (O := O) (V := V) (t := ti) (k := (j).toNat)
      show W p l e R s m args below meth c H locs _ _ _ (F0 m 22 ls [.int (iN (z_4))])
      refine x_if_ne (tgt := 28) hC ⟨by omega, by omega⟩ dX5_closest_22 (by decide) (fun c_5 => ?_) (fun c_5 => ?_)
      · refine lv_aload_n hC.1 hC.2.1 dX5_closest_28 rfl (lv_at hl 0 rfl) ?_
        refine lv_aload_n hC.1 hC.2.1 dX5_closest_29 rfl (lv_at hl 1 rfl) ?_
        refine lv_iload hC.1 hC.2.1 dX5_closest_30 (lv_at hl 5 rfl) ?_
        refine x_callV hC hw (lv_size hl) (c_X5_weight l G hR hIi (p0 := j) (by omega) (by omega)) gX5_closest_X5_weight rfl dv_X5_weight hR.1.1 rfl rfl (Nat.le_of_ble_eq_true rfl) (by rw [hRf]; decide) (by rw [hRl]; decide) (by omega) (by omega) dX5_closest_32 (fun r9 M_6 H locs hq hw => ?_)
        obtain ⟨z_7, rfl, hM9, hz_7a, hz_7b⟩ := hq
        rw [hM9] at hw
        show W p l e R s m args below meth c H locs _ _ _ (F0 m 35 ls [.int (iN (z_7))])
        refine lv_istore (lv' := [(6, .int (iN (z_7))), (0, .ref a), (1, .ref i), (2, .int (iN (p0))), (3, .int (iN (p1))), (4, .int (iN (bs))), (5, .int (iN (j)))]) hC.1 hC.2.1 dX5_closest_35 hl (by decide) rfl (fun ls hl => ?_)
        refine lv_iload_n hC.1 hC.2.1 dX5_closest_37 rfl (lv_at hl 4 rfl) ?_
        refine x_if_eq (tgt := 50) hC ⟨by omega, by omega⟩ dX5_closest_38 (by decide) (fun c_8 => ?_) (fun c_8 => ?_)
        · refine lv_iload hC.1 hC.2.1 dX5_closest_50 (lv_at hl 0 rfl) ?_
          refine lv_iload_n hC.1 hC.2.1 dX5_closest_52 rfl (lv_at hl 3 rfl) ?_
          refine x_icmp_lt (tgt := 59) hC ⟨by omega, by omega⟩ ⟨by omega, by omega⟩ dX5_closest_53 (by decide) (fun c_9 => ?_) (fun c_9 => ?_)
          · refine lv_iload hC.1 hC.2.1 dX5_closest_59 (lv_at hl 5 rfl) ?_
            refine x_sipush hC dX5_closest_61 (by decide +kernel) ?_
            refine x_icmp_eq (tgt := 88) hC ⟨by omega, by omega⟩ ⟨by omega, by omega⟩ dX5_closest_64 (by decide) (fun c_10 => ?_) (fun c_10 => ?_)
            · refine lv_iload hC.1 hC.2.1 dX5_closest_88 (lv_at hl 6 rfl) ?_
              refine lv_istore (lv' := [(4, .int (iN (j))), (6, .int (iN (z_7))), (0, .ref a), (1, .ref i), (2, .int (iN (p0))), (3, .int (iN (p1))), (5, .int (iN (j)))]) hC.1 hC.2.1 dX5_closest_90 hl (by decide) rfl (fun ls hl => ?_)
              refine x_iinc (lv' := [(5, .int (iN (j + 1))), (4, .int (iN (j))), (6, .int (iN (z_7))), (0, .ref a), (1, .ref i), (2, .int (iN (p0))), (3, .int (iN (p1)))]) hC dX5_closest_92 hl (k := 6) rfl (by decide) rfl (fun ls hl => ?_)
              refine lv_goto (tgt := 8) hC.1 hC.2.1 dX5_closest_95 (by decide) ?_
              exact ih8 j (j + 1)  _ _ _ (by omega) (by omega) (by omega) (by first | exact hi2 | exact fun _ => hz_4S (by omega)) (clF_st (by omega) hcl (by omega)) hw (lv_sub hl [3, 4, 5, 6, 1, 0] rfl)
            · refine lv_iload_n hC.1 hC.2.1 dX5_closest_67 rfl (lv_at hl 4 rfl) ?_
              refine lv_iload hC.1 hC.2.1 dX5_closest_68 (lv_at hl 0 rfl) ?_
              refine lv_aload_n hC.1 hC.2.1 dX5_closest_70 rfl (lv_at hl 1 rfl) ?_
              refine lv_aload_n hC.1 hC.2.1 dX5_closest_71 rfl (lv_at hl 2 rfl) ?_
              refine lv_iload hC.1 hC.2.1 dX5_closest_72 (lv_at hl 5 rfl) ?_
              refine x_callV hC hw (lv_size hl) (c_X5_weight l G hR hIi (p0 := bs) (by omega) (by omega)) gX5_closest_X5_weight rfl dv_X5_weight hR.1.1 rfl rfl (Nat.le_of_ble_eq_true rfl) (by rw [hRf]; decide) (by rw [hRl]; decide) (by omega) (by omega) dX5_closest_74 (fun r9 M_11 H locs hq hw => ?_)
              obtain ⟨z_12, rfl, hM9, hz_12a, hz_12b⟩ := hq
              rw [hM9] at hw
              show W p l e R s m args below meth c H locs _ _ _ (F0 m 77 ls [.int (iN (z_12)), .int (iN (z_7)), .int (iN (p1))])
              refine x_icmp_ge (tgt := 84) hC ⟨by omega, by omega⟩ ⟨by omega, by omega⟩ dX5_closest_77 (by decide) (fun c_13 => ?_) (fun c_13 => ?_)
              · refine x_const hC dX5_closest_84 ?_
                refine x_icmp_ne (tgt := 92) hC ⟨by omega, by omega⟩ ⟨by omega, by omega⟩ dX5_closest_85 (by decide) (fun c_14 => ?_) (fun c_14 => ?_)
                · refine x_iinc (lv' := [(5, .int (iN (j + 1))), (6, .int (iN (z_7))), (0, .ref a), (1, .ref i), (2, .int (iN (p0))), (3, .int (iN (p1))), (4, .int (iN (bs)))]) hC dX5_closest_92 hl (k := 6) rfl (by decide) rfl (fun ls hl => ?_)
                  refine lv_goto (tgt := 8) hC.1 hC.2.1 dX5_closest_95 (by decide) ?_
                  exact ih8 bs (j + 1)  _ _ _ (by omega) (by omega) (by omega) (by first | exact hi2 | exact fun _ => hz_4S (by omega)) (clF_st (by omega) hcl (by omega)) hw (lv_sub hl [2, 3, 4, 5, 6, 0] rfl)
                · refine lv_iload hC.1 hC.2.1 dX5_closest_88 (lv_at hl 6 rfl) ?_
                  refine lv_istore (lv' := [(4, .int (iN (j))), (6, .int (iN (z_7))), (0, .ref a), (1, .ref i), (2, .int (iN (p0))), (3, .int (iN (p1))), (5, .int (iN (j)))]) hC.1 hC.2.1 dX5_closest_90 hl (by decide) rfl (fun ls hl => ?_)
                  refine x_iinc (lv' := [(5, .int (iN (j + 1))), (4, .int (iN (j))), (6, .int (iN (z_7))), (0, .ref a), (1, .ref i), (2, .int (iN (p0))), (3, .int (iN (p1)))]) hC dX5_closest_92 hl (k := 6) rfl (by decide) rfl (fun ls hl => ?_)
                  refine lv_goto (tgt := 8) hC.1 hC.2.1 dX5_closest_95 (by decide) ?_
                  exact ih8 j (j + 1)  _ _ _ (by omega) (by omega) (by omega) (by first | exact hi2 | exact fun _ => hz_4S (by omega)) (clF_st (by omega) hcl (by omega)) hw (lv_sub hl [3, 4, 5, 6, 1, 0] rfl)
              · refine x_const hC dX5_closest_80 ?_
                refine lv_goto (tgt := 85) hC.1 hC.2.1 dX5_closest_81 (by decide) ?_
                refine x_icmp_ne (tgt := 92) hC ⟨by omega, by omega⟩ ⟨by omega, by omega⟩ dX5_closest_85 (by decide) (fun c_15 => ?_) (fun c_15 => ?_)
                · refine x_iinc (lv' := [(5, .int (iN (j + 1))), (6, .int (iN (z_7))), (0, .ref a), (1, .ref i), (2, .int (iN (p0))), (3, .int (iN (p1))), (4, .int (iN (bs)))]) hC dX5_closest_92 hl (k := 6) rfl (by decide) rfl (fun ls hl => ?_)
                  refine lv_goto (tgt := 8) hC.1 hC.2.1 dX5_closest_95 (by decide) ?_
                  exact ih8 bs (j + 1)  _ _ _ (by omega) (by omega) (by omega) (by first | exact hi2 | exact fun _ => hz_4S (by omega)) (clF_st (by omega) hcl (by omega)) hw (lv_sub hl [2, 3, 4, 5, 6, 0] rfl)
                · refine lv_iload hC.1 hC.2.1 dX5_closest_88 (lv_at hl 6 rfl) ?_
                  refine lv_istore (lv' := [(4, .int (iN (j))), (6, .int (iN (z_7))), (0, .ref a), (1, .ref i), (2, .int (iN (p0))), (3, .int (iN (p1))), (5, .int (iN (j)))]) hC.1 hC.2.1 dX5_closest_90 hl (by decide) rfl (fun ls hl => ?_)
                  refine x_iinc (lv' := [(5, .int (iN (j + 1))), (4, .int (iN (j))), (6, .int (iN (z_7))), (0, .ref a), (1, .ref i), (2, .int (iN (p0))), (3, .int (iN (p1)))]) hC dX5_closest_92 hl (k := 6) rfl (by decide) rfl (fun ls hl => ?_)
                  refine lv_goto (tgt := 8) hC.1 hC.2.1 dX5_closest_95 (by decide) ?_
                  exact ih8 j (j + 1)  _ _ _ (by omega) (by omega) (by omega) (by first | exact hi2 | exact fun _ => hz_4S (by omega)) (clF_st (by omega) hcl (by omega)) hw (lv_sub hl [3, 4, 5, 6, 1, 0] rfl)
          · refine lv_goto (tgt := 92) hC.1 hC.2.1 dX5_closest_56 (by decide) ?_
            refine x_iinc (lv' := [(5, .int (iN (j + 1))), (6, .int (iN (z_7))), (0, .ref a), (1, .ref i), (2, .int (iN (p0))), (3, .int (iN (p1))), (4, .int (iN (bs)))]) hC dX5_closest_92 hl (k := 6) rfl (by decide) rfl (fun ls hl => ?_)
            refine lv_goto (tgt := 8) hC.1 hC.2.1 dX5_closest_95 (by decide) ?_
            exact ih8 bs (j + 1)  _ _ _ (by omega) (by omega) (by omega) (by first | exact hi2 | exact fun _ => hz_4S (by omega)) (clF_st (by omega) hcl (by omega)) hw (lv_sub hl [2, 3, 4, 5, 6, 0] rfl)
        · refine lv_iload hC.1 hC.2.1 dX5_closest_41 (lv_at hl 0 rfl) ?_
          refine lv_iload_n hC.1 hC.2.1 dX5_closest_43 rfl (lv_at hl 3 rfl) ?_
          refine x_icmp_gt (tgt := 59) hC ⟨by omega, by omega⟩ ⟨by omega, by omega⟩ dX5_closest_44 (by decide) (fun c_16 => ?_) (fun c_16 => ?_)
          · refine lv_iload hC.1 hC.2.1 dX5_closest_59 (lv_at hl 5 rfl) ?_
            refine x_sipush hC dX5_closest_61 (by decide +kernel) ?_
            refine x_icmp_eq (tgt := 88) hC ⟨by omega, by omega⟩ ⟨by omega, by omega⟩ dX5_closest_64 (by decide) (fun c_17 => ?_) (fun c_17 => ?_)
            · refine lv_iload hC.1 hC.2.1 dX5_closest_88 (lv_at hl 6 rfl) ?_
              refine lv_istore (lv' := [(4, .int (iN (j))), (6, .int (iN (z_7))), (0, .ref a), (1, .ref i), (2, .int (iN (p0))), (3, .int (iN (p1))), (5, .int (iN (j)))]) hC.1 hC.2.1 dX5_closest_90 hl (by decide) rfl (fun ls hl => ?_)
              refine x_iinc (lv' := [(5, .int (iN (j + 1))), (4, .int (iN (j))), (6, .int (iN (z_7))), (0, .ref a), (1, .ref i), (2, .int (iN (p0))), (3, .int (iN (p1)))]) hC dX5_closest_92 hl (k := 6) rfl (by decide) rfl (fun ls hl => ?_)
              refine lv_goto (tgt := 8) hC.1 hC.2.1 dX5_closest_95 (by decide) ?_
              exact ih8 j (j + 1)  _ _ _ (by omega) (by omega) (by omega) (by first | exact hi2 | exact fun _ => hz_4S (by omega)) (clF_st (by omega) hcl (by omega)) hw (lv_sub hl [3, 4, 5, 6, 1, 0] rfl)
            · refine lv_iload_n hC.1 hC.2.1 dX5_closest_67 rfl (lv_at hl 4 rfl) ?_
              refine lv_iload hC.1 hC.2.1 dX5_closest_68 (lv_at hl 0 rfl) ?_
              refine lv_aload_n hC.1 hC.2.1 dX5_closest_70 rfl (lv_at hl 1 rfl) ?_
              refine lv_aload_n hC.1 hC.2.1 dX5_closest_71 rfl (lv_at hl 2 rfl) ?_
              refine lv_iload hC.1 hC.2.1 dX5_closest_72 (lv_at hl 5 rfl) ?_
              refine x_callV hC hw (lv_size hl) (c_X5_weight l G hR hIi (p0 := bs) (by omega) (by omega)) gX5_closest_X5_weight rfl dv_X5_weight hR.1.1 rfl rfl (Nat.le_of_ble_eq_true rfl) (by rw [hRf]; decide) (by rw [hRl]; decide) (by omega) (by omega) dX5_closest_74 (fun r9 M_18 H locs hq hw => ?_)
              obtain ⟨z_19, rfl, hM9, hz_19a, hz_19b⟩ := hq
              rw [hM9] at hw
              show W p l e R s m args below meth c H locs _ _ _ (F0 m 77 ls [.int (iN (z_19)), .int (iN (z_7)), .int (iN (p1))])
              refine x_icmp_ge (tgt := 84) hC ⟨by omega, by omega⟩ ⟨by omega, by omega⟩ dX5_closest_77 (by decide) (fun c_20 => ?_) (fun c_20 => ?_)
              · refine x_const hC dX5_closest_84 ?_
                refine x_icmp_ne (tgt := 92) hC ⟨by omega, by omega⟩ ⟨by omega, by omega⟩ dX5_closest_85 (by decide) (fun c_21 => ?_) (fun c_21 => ?_)
                · refine x_iinc (lv' := [(5, .int (iN (j + 1))), (6, .int (iN (z_7))), (0, .ref a), (1, .ref i), (2, .int (iN (p0))), (3, .int (iN (p1))), (4, .int (iN (bs)))]) hC dX5_closest_92 hl (k := 6) rfl (by decide) rfl (fun ls hl => ?_)
                  refine lv_goto (tgt := 8) hC.1 hC.2.1 dX5_closest_95 (by decide) ?_
                  exact ih8 bs (j + 1)  _ _ _ (by omega) (by omega) (by omega) (by first | exact hi2 | exact fun _ => hz_4S (by omega)) (clF_st (by omega) hcl (by omega)) hw (lv_sub hl [2, 3, 4, 5, 6, 0] rfl)
                · refine lv_iload hC.1 hC.2.1 dX5_closest_88 (lv_at hl 6 rfl) ?_
                  refine lv_istore (lv' := [(4, .int (iN (j))), (6, .int (iN (z_7))), (0, .ref a), (1, .ref i), (2, .int (iN (p0))), (3, .int (iN (p1))), (5, .int (iN (j)))]) hC.1 hC.2.1 dX5_closest_90 hl (by decide) rfl (fun ls hl => ?_)
                  refine x_iinc (lv' := [(5, .int (iN (j + 1))), (4, .int (iN (j))), (6, .int (iN (z_7))), (0, .ref a), (1, .ref i), (2, .int (iN (p0))), (3, .int (iN (p1)))]) hC dX5_closest_92 hl (k := 6) rfl (by decide) rfl (fun ls hl => ?_)
                  refine lv_goto (tgt := 8) hC.1 hC.2.1 dX5_closest_95 (by decide) ?_
                  exact ih8 j (j + 1)  _ _ _ (by omega) (by omega) (by omega) (by first | exact hi2 | exact fun _ => hz_4S (by omega)) (clF_st (by omega) hcl (by omega)) hw (lv_sub hl [3, 4, 5, 6, 1, 0] rfl)
              · refine x_const hC dX5_closest_80 ?_
                refine lv_goto (tgt := 85) hC.1 hC.2.1 dX5_closest_81 (by decide) ?_
                refine x_icmp_ne (tgt := 92) hC ⟨by omega, by omega⟩ ⟨by omega, by omega⟩ dX5_closest_85 (by decide) (fun c_22 => ?_) (fun c_22 => ?_)
                · refine x_iinc (lv' := [(5, .int (iN (j + 1))), (6, .int (iN (z_7))), (0, .ref a), (1, .ref i), (2, .int (iN (p0))), (3, .int (iN (p1))), (4, .int (iN (bs)))]) hC dX5_closest_92 hl (k := 6) rfl (by decide) rfl (fun ls hl => ?_)
                  refine lv_goto (tgt := 8) hC.1 hC.2.1 dX5_closest_95 (by decide) ?_
                  exact ih8 bs (j + 1)  _ _ _ (by omega) (by omega) (by omega) (by first | exact hi2 | exact fun _ => hz_4S (by omega)) (clF_st (by omega) hcl (by omega)) hw (lv_sub hl [2, 3, 4, 5, 6, 0] rfl)
                · refine lv_iload hC.1 hC.2.1 dX5_closest_88 (lv_at hl 6 rfl) ?_
                  refine lv_istore (lv' := [(4, .int (iN (j))), (6, .int (iN (z_7))), (0, .ref a), (1, .ref i), (2, .int (iN (p0))), (3, .int (iN (p1))), (5, .int (iN (j)))]) hC.1 hC.2.1 dX5_closest_90 hl (by decide) rfl (fun ls hl => ?_)
                  refine x_iinc (lv' := [(5, .int (iN (j + 1))), (4, .int (iN (j))), (6, .int (iN (z_7))), (0, .ref a), (1, .ref i), (2, .int (iN (p0))), (3, .int (iN (p1)))]) hC dX5_closest_92 hl (k := 6) rfl (by decide) rfl (fun ls hl => ?_)
                  refine lv_goto (tgt := 8) hC.1 hC.2.1 dX5_closest_95 (by decide) ?_
                  exact ih8 j (j + 1)  _ _ _ (by omega) (by omega) (by omega) (by first | exact hi2 | exact fun _ => hz_4S (by omega)) (clF_st (by omega) hcl (by omega)) hw (lv_sub hl [3, 4, 5, 6, 1, 0] rfl)
          · refine lv_goto (tgt := 92) hC.1 hC.2.1 dX5_closest_47 (by decide) ?_
            refine x_iinc (lv' := [(5, .int (iN (j + 1))), (6, .int (iN (z_7))), (0, .ref a), (1, .ref i), (2, .int (iN (p0))), (3, .int (iN (p1))), (4, .int (iN (bs)))]) hC dX5_closest_92 hl (k := 6) rfl (by decide) rfl (fun ls hl => ?_)
            refine lv_goto (tgt := 8) hC.1 hC.2.1 dX5_closest_95 (by decide) ?_
            exact ih8 bs (j + 1)  _ _ _ (by omega) (by omega) (by omega) (by first | exact hi2 | exact fun _ => hz_4S (by omega)) (clF_st (by omega) hcl (by omega)) hw (lv_sub hl [2, 3, 4, 5, 6, 0] rfl)
      · refine lv_goto (tgt := 92) hC.1 hC.2.1 dX5_closest_25 (by decide) ?_
        refine x_iinc (lv' := [(5, .int (iN (j + 1))), (0, .ref a), (1, .ref i), (2, .int (iN (p0))), (3, .int (iN (p1))), (4, .int (iN (bs)))]) hC dX5_closest_92 hl (k := 5) rfl (by decide) rfl (fun ls hl => ?_)
        refine lv_goto (tgt := 8) hC.1 hC.2.1 dX5_closest_95 (by decide) ?_
        exact ih8 bs (j + 1)  _ _ _ (by omega) (by omega) (by omega) (by first | exact hi2 | exact fun _ => hz_4S (by omega)) (clF_st (by omega) hcl (by omega)) hw (lv_sub hl [1, 2, 3, 4, 5, 0] rfl)
set_option maxHeartbeats 4000000 in
set_option maxRecDepth 100000 in
theorem c_X5_end (l : Launch) (G : xG) {M : HM} {a va oa wa ya : Nat} {wk : Option Nat} {th : Int} {rfd : Int32} {br re la ha : Int} {kp kv : Int32} {qv qw : Nat → Nat} {fa fb : Nat → Option Nat} {V : BW} {O : OW} {fy : Nat → Option Nat} {Wv : VW} {wt : Option VT} {S : Nat → Bool} (hR : MGx G M a va oa wa ya wk th rfd br re la ha kp kv qv qw fa fb V O fy Wv wt S) {i : Nat} {fi : Nat → Int32} {ti : VT} (hIi : Its G M i fi ti) {p0 : Int} (hp0 : -2147483648 ≤ p0 ∧ p0 ≤ 2147483647) : xMet l G yX5_end wsX5_end 4 93 0 0 [.ref a, .ref i, .int (iN (p0))] M (fun r M1 => ∃ z : Int, r = some (.int (iN z)) ∧ M1 = M ∧ (z = -10000 ∨ (0 ≤ z ∧ z ≤ 99)) ∧ (z ≠ -10000 → mP S V ti z.toNat) ∧ z = endF O V ti p0) := by
  refine x_intro (cc := cX5_end) (maxL := 3) (ret := (some .int)) (by decide +kernel) rfl (Nat.le_of_ble_eq_true rfl) ?_
  intro p e R s m args below meth c ls hRf hRc hRs hRl hC hw hl
  have hsc0 := hR.sc
  obtain ⟨htat_1, htbt_1, htct_1, htdt_1, htet_1⟩ := id hIi.2.1
  have holi := hR.or' hIi.2.1.1
  have hl : lv_has ls 3 [(0, .ref a), (1, .ref i), (2, .int (iN (p0)))] := hl
  refine lv_iload_n hC.1 hC.2.1 dX5_end_0 rfl (lv_at hl 2 rfl) ?_
  refine x_if_eq (tgt := 16) hC ⟨by omega, by omega⟩ dX5_end_1 (by decide) (fun c_2 => ?_) (fun c_2 => ?_)
  · refine lv_aload_n hC.1 hC.2.1 dX5_end_16 rfl (lv_at hl 0 rfl) ?_
    refine lv_aload_n hC.1 hC.2.1 dX5_end_17 rfl (lv_at hl 1 rfl) ?_
    refine x_const hC dX5_end_18 ?_
    refine x_const hC dX5_end_19 ?_
    refine x_callV hC hw (lv_size hl) (c_X5_closest l G hR hIi (p0 := (-1)) (by omega) (p1 := 1) (by omega) (by omega)) gX5_end_X5_closest rfl dv_X5_closest hR.1.1 rfl rfl (Nat.le_of_ble_eq_true rfl) (by rw [hRf]; decide) (by rw [hRl]; decide) (by omega) (by omega) dX5_end_20 (fun r9 M_3 H locs hq hw => ?_)
    obtain ⟨z_4, rfl, hM9, hz_4a, hz_4S, hz_4c⟩ := hq
    rw [hM9] at hw
    show W p l e R s m args below meth c H locs _ _ _ (F0 m 23 ls [.int (iN (z_4))])
    exact x_iret hC hw dX5_end_23 (by omega) (by omega) ⟨z_4, rfl, rfl, by omega, hz_4S, (by rw [endF]; first | rw [if_pos (by omega)] | rw [if_neg (by omega)]; exact hz_4c)⟩
  · refine lv_aload_n hC.1 hC.2.1 dX5_end_4 rfl (lv_at hl 0 rfl) ?_
    refine lv_aload_n hC.1 hC.2.1 dX5_end_5 rfl (lv_at hl 1 rfl) ?_
    refine x_sipush hC dX5_end_6 (by decide +kernel) ?_
    refine x_const hC dX5_end_9 ?_
    refine x_callV hC hw (lv_size hl) (c_X5_closest l G hR hIi (p0 := 1000) (by omega) (p1 := 0) (by omega) (by omega)) gX5_end_X5_closest rfl dv_X5_closest hR.1.1 rfl rfl (Nat.le_of_ble_eq_true rfl) (by rw [hRf]; decide) (by rw [hRl]; decide) (by omega) (by omega) dX5_end_10 (fun r9 M_5 H locs hq hw => ?_)
    obtain ⟨z_6, rfl, hM9, hz_6a, hz_6S, hz_6c⟩ := hq
    rw [hM9] at hw
    show W p l e R s m args below meth c H locs _ _ _ (F0 m 13 ls [.int (iN (z_6))])
    refine lv_goto (tgt := 23) hC.1 hC.2.1 dX5_end_13 (by decide) ?_
    exact x_iret hC hw dX5_end_23 (by omega) (by omega) ⟨z_6, rfl, rfl, by omega, hz_6S, (by rw [endF]; first | rw [if_pos (by omega)] | rw [if_neg (by omega)]; exact hz_6c)⟩
set_option maxHeartbeats 4000000 in
set_option maxRecDepth 100000 in
theorem c_X5_nearOf (l : Launch) (G : xG) {M : HM} {a va oa wa ya : Nat} {wk : Option Nat} {th : Int} {rfd : Int32} {br re la ha : Int} {kp kv : Int32} {qv qw : Nat → Nat} {fa fb : Nat → Option Nat} {V : BW} {O : OW} {fy : Nat → Option Nat} {Wv : VW} {wt : Option VT} {S : Nat → Bool} (hR : MGx G M a va oa wa ya wk th rfd br re la ha kp kv qv qw fa fb V O fy Wv wt S) {i : Nat} {fi : Nat → Int32} {ti : VT} (hIi : Its G M i fi ti) {p0 : Int} (hp0 : -2147483648 ≤ p0 ∧ p0 ≤ 2147483647) {p1 : Int} (hp1 : -2147483648 ≤ p1 ∧ p1 ≤ 2147483647) (hop : 0 ≤ p0 ∧ p0 ≤ 99) : xMet l G yX5_nearOf wsX5_nearOf 4 93 0 0 [.ref a, .ref i, .int (iN (p0)), .int (iN (p1))] M (fun r M1 => ∃ z : Int, r = some (.int (iN z)) ∧ M1 = M ∧ (z = -10000 ∨ (0 ≤ z ∧ z ≤ 99)) ∧ (z ≠ -10000 → mP S V ti z.toNat) ∧ z = nrF O V ti p0.toNat p1) := by
  refine x_intro (cc := cX5_nearOf) (maxL := 5) (ret := (some .int)) (by decide +kernel) rfl (Nat.le_of_ble_eq_true rfl) ?_
  intro p e R s m args below meth c ls hRf hRc hRs hRl hC hw hl
  have hsc0 := hR.sc
  obtain ⟨htat_1, htbt_1, htct_1, htdt_1, htet_1⟩ := id hIi.2.1
  have holi := hR.or' hIi.2.1.1
  have hl : lv_has ls 5 [(0, .ref a), (1, .ref i), (2, .int (iN (p0))), (3, .int (iN (p1)))] := hl
  refine lv_aload_n hC.1 hC.2.1 dX5_nearOf_0 rfl (lv_at hl 0 rfl) ?_
  refine lv_aload_n hC.1 hC.2.1 dX5_nearOf_1 rfl (lv_at hl 1 rfl) ?_
  refine lv_iload_n hC.1 hC.2.1 dX5_nearOf_2 rfl (lv_at hl 2 rfl) ?_
  refine x_callV hC hw (lv_size hl) (c_X5_weight l G hR hIi (p0 := p0) (by omega) (by omega)) gX5_nearOf_X5_weight rfl dv_X5_weight hR.1.1 rfl rfl (Nat.le_of_ble_eq_true rfl) (by rw [hRf]; decide) (by rw [hRl]; decide) (by omega) (by omega) dX5_nearOf_3 (fun r9 M_2 H locs hq hw => ?_)
  obtain ⟨z_3, rfl, hM9, hz_3a, hz_3b⟩ := hq
  rw [hM9] at hw
  show W p l e R s m args below meth c H locs _ _ _ (F0 m 6 ls [.int (iN (z_3))])
  refine lv_istore (lv' := [(4, .int (iN (z_3))), (0, .ref a), (1, .ref i), (2, .int (iN (p0))), (3, .int (iN (p1)))]) hC.1 hC.2.1 dX5_nearOf_6 hl (by decide) rfl (fun ls hl => ?_)
  refine lv_iload_n hC.1 hC.2.1 dX5_nearOf_8 rfl (lv_at hl 4 rfl) ?_
  by_cases c_4 : p1 = 0
  · refine x_tsw (off := 27) (tgt := 36) (k := 0) hC (by omega) dX5_nearOf_9 (by decide) (by decide) rfl (by decide) ?_
    refine lv_aload_n hC.1 hC.2.1 dX5_nearOf_36 rfl (lv_at hl 1 rfl) ?_
    refine lv_aload_n hC.1 hC.2.1 dX5_nearOf_37 rfl (lv_at hl 2 rfl) ?_
    refine lv_iload hC.1 hC.2.1 dX5_nearOf_38 (lv_at hl 0 rfl) ?_
    refine x_const hC dX5_nearOf_40 ?_
    refine x_callV hC hw (lv_size hl) (c_X5_closest l G hR hIi (p0 := z_3) (by omega) (p1 := 0) (by omega) (by omega)) gX5_nearOf_X5_closest rfl dv_X5_closest hR.1.1 rfl rfl (Nat.le_of_ble_eq_true rfl) (by rw [hRf]; decide) (by rw [hRl]; decide) (by omega) (by omega) dX5_nearOf_41 (fun r9 M_5 H locs hq hw => ?_)
    obtain ⟨z_6, rfl, hM9, hz_6a, hz_6S, hz_6c⟩ := hq
    rw [hM9] at hw
    show W p l e R s m args below meth c H locs _ _ _ (F0 m 44 ls [.int (iN (z_6))])
    exact x_iret hC hw dX5_nearOf_44 (by omega) (by omega) ⟨z_6, rfl, rfl, by omega, hz_6S, (by have e9 := hz_6c; rw [hz_3b] at e9; rw [nrF, if_pos (by omega)]; exact e9)⟩
  by_cases c_7 : p1 = 1
  · refine x_tsw (off := 36) (tgt := 45) (k := 1) hC (by omega) dX5_nearOf_9 (by decide) (by decide) rfl (by decide) ?_
    refine lv_aload_n hC.1 hC.2.1 dX5_nearOf_45 rfl (lv_at hl 1 rfl) ?_
    refine lv_aload_n hC.1 hC.2.1 dX5_nearOf_46 rfl (lv_at hl 2 rfl) ?_
    refine lv_iload hC.1 hC.2.1 dX5_nearOf_47 (lv_at hl 0 rfl) ?_
    refine x_const hC dX5_nearOf_49 ?_
    refine x_iadd hC dX5_nearOf_50 ?_
    refine x_const hC dX5_nearOf_51 ?_
    refine x_callV hC hw (lv_size hl) (c_X5_closest l G hR hIi (p0 := (z_3 + 1)) (by omega) (p1 := 0) (by omega) (by omega)) gX5_nearOf_X5_closest rfl dv_X5_closest hR.1.1 rfl rfl (Nat.le_of_ble_eq_true rfl) (by rw [hRf]; decide) (by rw [hRl]; decide) (by omega) (by omega) dX5_nearOf_52 (fun r9 M_8 H locs hq hw => ?_)
    obtain ⟨z_9, rfl, hM9, hz_9a, hz_9S, hz_9c⟩ := hq
    rw [hM9] at hw
    show W p l e R s m args below meth c H locs _ _ _ (F0 m 55 ls [.int (iN (z_9))])
    exact x_iret hC hw dX5_nearOf_55 (by omega) (by omega) ⟨z_9, rfl, rfl, by omega, hz_9S, (by have e9 := hz_9c; rw [hz_3b] at e9; rw [nrF, if_neg (by omega), if_pos (by omega)]; exact e9)⟩
  by_cases c_10 : p1 = 2
  · refine x_tsw (off := 47) (tgt := 56) (k := 2) hC (by omega) dX5_nearOf_9 (by decide) (by decide) rfl (by decide) ?_
    refine lv_aload_n hC.1 hC.2.1 dX5_nearOf_56 rfl (lv_at hl 1 rfl) ?_
    refine lv_aload_n hC.1 hC.2.1 dX5_nearOf_57 rfl (lv_at hl 2 rfl) ?_
    refine lv_iload hC.1 hC.2.1 dX5_nearOf_58 (lv_at hl 0 rfl) ?_
    refine x_const hC dX5_nearOf_60 ?_
    refine x_isub hC dX5_nearOf_61 ?_
    refine x_const hC dX5_nearOf_62 ?_
    refine x_callV hC hw (lv_size hl) (c_X5_closest l G hR hIi (p0 := (z_3 - 1)) (by omega) (p1 := 1) (by omega) (by omega)) gX5_nearOf_X5_closest rfl dv_X5_closest hR.1.1 rfl rfl (Nat.le_of_ble_eq_true rfl) (by rw [hRf]; decide) (by rw [hRl]; decide) (by omega) (by omega) dX5_nearOf_63 (fun r9 M_11 H locs hq hw => ?_)
    obtain ⟨z_12, rfl, hM9, hz_12a, hz_12S, hz_12c⟩ := hq
    rw [hM9] at hw
    show W p l e R s m args below meth c H locs _ _ _ (F0 m 66 ls [.int (iN (z_12))])
    exact x_iret hC hw dX5_nearOf_66 (by omega) (by omega) ⟨z_12, rfl, rfl, by omega, hz_12S, (by have e9 := hz_12c; rw [hz_3b] at e9; rw [nrF, if_neg (by omega), if_neg (by omega), if_pos (by omega)]; exact e9)⟩
  refine x_tswd (tgt := 67) hC ⟨by omega, by omega⟩ dX5_nearOf_9 (by omega) (by decide) ?_
  refine lv_aload_n hC.1 hC.2.1 dX5_nearOf_67 rfl (lv_at hl 1 rfl) ?_
  refine lv_aload_n hC.1 hC.2.1 dX5_nearOf_68 rfl (lv_at hl 2 rfl) ?_
  refine lv_iload hC.1 hC.2.1 dX5_nearOf_69 (lv_at hl 0 rfl) ?_
  refine x_const hC dX5_nearOf_71 ?_
  refine x_callV hC hw (lv_size hl) (c_X5_closest l G hR hIi (p0 := z_3) (by omega) (p1 := 1) (by omega) (by omega)) gX5_nearOf_X5_closest rfl dv_X5_closest hR.1.1 rfl rfl (Nat.le_of_ble_eq_true rfl) (by rw [hRf]; decide) (by rw [hRl]; decide) (by omega) (by omega) dX5_nearOf_72 (fun r9 M_13 H locs hq hw => ?_)
  obtain ⟨z_14, rfl, hM9, hz_14a, hz_14S, hz_14c⟩ := hq
  rw [hM9] at hw
  show W p l e R s m args below meth c H locs _ _ _ (F0 m 75 ls [.int (iN (z_14))])
  exact x_iret hC hw dX5_nearOf_75 (by omega) (by omega) ⟨z_14, rfl, rfl, by omega, hz_14S, (by have e9 := hz_14c; rw [hz_3b] at e9; rw [nrF, if_neg (by omega), if_neg (by omega), if_neg (by omega)]; exact e9)⟩
set_option maxHeartbeats 4000000 in
set_option maxRecDepth 100000 in
theorem c_X5_many (l : Launch) (G : xG) {M : HM} {a va oa wa ya : Nat} {wk : Option Nat} {th : Int} {rfd : Int32} {br re la ha : Int} {kp kv : Int32} {qv qw : Nat → Nat} {fa fb : Nat → Option Nat} {V : BW} {O : OW} {fy : Nat → Option Nat} {Wv : VW} {wt : Option VT} {S : Nat → Bool} (hR : MGx G M a va oa wa ya wk th rfd br re la ha kp kv qv qw fa fb V O fy Wv wt S) {i : Nat} {fi : Nat → Int32} {ti : VT} (hIi : Its G M i fi ti) : xMet l G yX5_many wsX5_many 3 67 0 0 [.ref a, .ref i] M (fun r M1 => ∃ z : Int, r = some (.int (iN z)) ∧ M1 = M ∧ (0 ≤ z ∧ z ≤ 100) ∧ z = mnF O V ti 100) := by
  refine x_intro (cc := cX5_many) (maxL := 4) (ret := (some .int)) (by decide +kernel) rfl (Nat.le_of_ble_eq_true rfl) ?_
  intro p e R s m args below meth c ls hRf hRc hRs hRl hC hw hl
  have hsc0 := hR.sc
  obtain ⟨htat_1, htbt_1, htct_1, htdt_1, htet_1⟩ := id hIi.2.1
  have holi := hR.or' hIi.2.1.1
  have hl : lv_has ls 4 [(0, .ref a), (1, .ref i)] := hl
  refine x_const hC dX5_many_0 ?_
  refine lv_istore_n (lv' := [(2, .int (iN (0))), (0, .ref a), (1, .ref i)]) hC.1 hC.2.1 dX5_many_1 rfl hl (by decide) rfl (fun ls hl => ?_)
  refine x_const hC dX5_many_2 ?_
  refine lv_istore_n (lv' := [(3, .int (iN (0))), (2, .int (iN (0))), (0, .ref a), (1, .ref i)]) hC.1 hC.2.1 dX5_many_3 rfl hl (by decide) rfl (fun ls hl => ?_)
  suffices hloop4 : ∀ (n9 : Nat) (n : Int) (j : Int) (H : Heap) (locs : List Loc) (ls : Array Slot), (hmu : (100 - j).toNat < n9) → (hi0 : 0 ≤ j ∧ j ≤ 100) → (hi1 : 0 ≤ n ∧ n ≤ j) → (hcn : n = mnF O V ti j.toNat) → xD G (xA M s.heap.size) s M H locs → lv_has ls 4 [(0, .ref a), (1, .ref i), (2, .int (iN (n))), (3, .int (iN (j)))] → W p l e R s m args below meth c H locs _ _ _ (F0 m 4 ls []) by
    exact hloop4 _ 0 0  _ _ _ (Nat.lt_succ_self _) (by omega) (by omega) (rfl) hw (lv_sub hl [2, 3, 1, 0] rfl)
  intro n9
  induction n9 with
  | zero => intro n j  H locs ls hmu; exact absurd hmu (Nat.not_lt_zero _)
  | succ n9 ih4 =>
    intro n j  H locs ls hmu hi0 hi1 hcn hw hl
    refine lv_iload_n hC.1 hC.2.1 dX5_many_4 rfl (lv_at hl 3 rfl) ?_
    refine x_bipush hC dX5_many_5 (by decide +kernel) ?_
    refine x_icmp_ge (tgt := 28) hC ⟨by omega, by omega⟩ ⟨by omega, by omega⟩ dX5_many_7 (by decide) (fun c_2 => ?_) (fun c_2 => ?_)
    · refine lv_iload_n hC.1 hC.2.1 dX5_many_28 rfl (lv_at hl 2 rfl) ?_
      exact x_iret hC hw dX5_many_29 (by omega) (by omega) ⟨n, rfl, rfl, by omega, by rw [show (100 : Nat) = (j).toNat by omega]; exact hcn⟩
    · refine lv_iload_n hC.1 hC.2.1 dX5_many_10 rfl (lv_at hl 2 rfl) ?_
      refine lv_aload_n hC.1 hC.2.1 dX5_many_11 rfl (lv_at hl 0 rfl) ?_
      refine lv_aload_n hC.1 hC.2.1 dX5_many_12 rfl (lv_at hl 1 rfl) ?_
      refine lv_iload_n hC.1 hC.2.1 dX5_many_13 rfl (lv_at hl 3 rfl) ?_
      refine x_callV hC hw (lv_size hl) (c_X5_shows l G hR hIi (p0 := j) (by omega) (by omega)) gX5_many_X5_shows rfl dv_X5_shows hR.1.1 rfl rfl (Nat.le_of_ble_eq_true rfl) (by rw [hRf]; decide) (by rw [hRl]; decide) (by omega) (by omega) dX5_many_14 (fun r9 M_3 H locs hq hw => ?_)
      obtain ⟨z_4, rfl, hM9, hz_4a, hz_4s, hz_4S⟩ := hq
      rw [hM9] at hw
      have hz_4i := shI_iff (O := O) (V := V) (t := ti) (k := (j).toNat)
      show W p l e R s m args below meth c H locs _ _ _ (F0 m 17 ls [.int (iN (z_4)), .int (iN (n))])
      refine x_callS hC hw (lv_size hl) (c_X5_one l G (M := M) (p0 := z_4) (by omega)) gX5_many_X5_one rfl dv_X5_one_s rfl (Nat.le_of_ble_eq_true rfl) (by rw [hRf]; decide) (by rw [hRl]; decide) (by omega) (by omega) dX5_many_17 (fun r9 M_5 H locs hq hw => ?_)
      obtain ⟨z_6, rfl, hM9, hz_6a, hz_6b⟩ := hq
      rw [hM9] at hw
      show W p l e R s m args below meth c H locs _ _ _ (F0 m 20 ls [.int (iN (z_6)), .int (iN (n))])
      refine x_iadd hC dX5_many_20 ?_
      refine lv_istore_n (lv' := [(2, .int (iN (n + z_6))), (0, .ref a), (1, .ref i), (3, .int (iN (j)))]) hC.1 hC.2.1 dX5_many_21 rfl hl (by decide) rfl (fun ls hl => ?_)
      refine x_iinc (lv' := [(3, .int (iN (j + 1))), (2, .int (iN (n + z_6))), (0, .ref a), (1, .ref i)]) hC dX5_many_22 hl (k := 3) rfl (by decide) rfl (fun ls hl => ?_)
      refine lv_goto (tgt := 4) hC.1 hC.2.1 dX5_many_25 (by decide) ?_
      exact ih4 (n + z_6) (j + 1)  _ _ _ (by omega) (by omega) (by omega) (by rw [mnF_s (by omega) rfl]; omega) hw (lv_sub hl [2, 3, 1, 0] rfl)
set_option maxHeartbeats 4000000 in
set_option maxRecDepth 100000 in
theorem c_X5_sum (l : Launch) (G : xG) {M : HM} {a va oa wa ya : Nat} {wk : Option Nat} {th : Int} {rfd : Int32} {br re la ha : Int} {kp kv : Int32} {qv qw : Nat → Nat} {fa fb : Nat → Option Nat} {V : BW} {O : OW} {fy : Nat → Option Nat} {Wv : VW} {wt : Option VT} {S : Nat → Bool} (hR : MGx G M a va oa wa ya wk th rfd br re la ha kp kv qv qw fa fb V O fy Wv wt S) {i : Nat} {fi : Nat → Int32} {ti : VT} (hIi : Its G M i fi ti) : xMet l G yX5_sum wsX5_sum 3 67 0 0 [.ref a, .ref i] M (fun r M1 => ∃ z : Int, r = some (.int (iN z)) ∧ M1 = M ∧ (-1000000 ≤ z ∧ z ≤ 1000000) ∧ z = smF O V ti 100) := by
  refine x_intro (cc := cX5_sum) (maxL := 4) (ret := (some .int)) (by decide +kernel) rfl (Nat.le_of_ble_eq_true rfl) ?_
  intro p e R s m args below meth c ls hRf hRc hRs hRl hC hw hl
  have hsc0 := hR.sc
  obtain ⟨htat_1, htbt_1, htct_1, htdt_1, htet_1⟩ := id hIi.2.1
  have holi := hR.or' hIi.2.1.1
  have hvr9 := fun k (hk : k < 100) => hR.vr hIi.2.1.1 hk
  have hinX5 : ∀ w ∈ wsX50, w ∈ wsX5_sum := by decide +kernel
  have hl : lv_has ls 4 [(0, .ref a), (1, .ref i)] := hl
  refine x_const hC dX5_sum_0 ?_
  refine lv_istore_n (lv' := [(2, .int (iN (0))), (0, .ref a), (1, .ref i)]) hC.1 hC.2.1 dX5_sum_1 rfl hl (by decide) rfl (fun ls hl => ?_)
  refine x_const hC dX5_sum_2 ?_
  refine lv_istore_n (lv' := [(3, .int (iN (0))), (2, .int (iN (0))), (0, .ref a), (1, .ref i)]) hC.1 hC.2.1 dX5_sum_3 rfl hl (by decide) rfl (fun ls hl => ?_)
  suffices hloop4 : ∀ (n9 : Nat) (n : Int) (j : Int) (H : Heap) (locs : List Loc) (ls : Array Slot), (hmu : (100 - j).toNat < n9) → (hi0 : 0 ≤ j ∧ j ≤ 100) → (hcn : n = smF O V ti j.toNat) → xD G (xA M s.heap.size) s M H locs → lv_has ls 4 [(0, .ref a), (1, .ref i), (2, .int (iN (n))), (3, .int (iN (j)))] → W p l e R s m args below meth c H locs _ _ _ (F0 m 4 ls []) by
    exact hloop4 _ 0 0  _ _ _ (Nat.lt_succ_self _) (by omega) (rfl) hw (lv_sub hl [2, 3, 1, 0] rfl)
  intro n9
  induction n9 with
  | zero => intro n j  H locs ls hmu; exact absurd hmu (Nat.not_lt_zero _)
  | succ n9 ih4 =>
    intro n j  H locs ls hmu hi0 hcn hw hl
    refine lv_iload_n hC.1 hC.2.1 dX5_sum_4 rfl (lv_at hl 3 rfl) ?_
    refine x_bipush hC dX5_sum_5 (by decide +kernel) ?_
    refine x_icmp_ge (tgt := 38) hC ⟨by omega, by omega⟩ ⟨by omega, by omega⟩ dX5_sum_7 (by decide) (fun c_2 => ?_) (fun c_2 => ?_)
    · refine lv_iload_n hC.1 hC.2.1 dX5_sum_38 rfl (lv_at hl 2 rfl) ?_
      exact x_iret hC hw dX5_sum_39 (by omega) (by omega) ⟨n, rfl, rfl, by have e9 := smF_r (O := O) hvr9 (j).toNat (by omega); omega, by rw [show (100 : Nat) = (j).toNat by omega]; exact hcn⟩
    · refine lv_aload_n hC.1 hC.2.1 dX5_sum_10 rfl (lv_at hl 0 rfl) ?_
      refine lv_aload_n hC.1 hC.2.1 dX5_sum_11 rfl (lv_at hl 1 rfl) ?_
      refine lv_iload_n hC.1 hC.2.1 dX5_sum_12 rfl (lv_at hl 3 rfl) ?_
      refine x_callV hC hw (lv_size hl) (c_X5_shows l G hR hIi (p0 := j) (by omega) (by omega)) gX5_sum_X5_shows rfl dv_X5_shows hR.1.1 rfl rfl (Nat.le_of_ble_eq_true rfl) (by rw [hRf]; decide) (by rw [hRl]; decide) (by omega) (by omega) dX5_sum_13 (fun r9 M_3 H locs hq hw => ?_)
      obtain ⟨z_4, rfl, hM9, hz_4a, hz_4s, hz_4S⟩ := hq
      rw [hM9] at hw
      have hz_4i := shI_iff (O := O) (V := V) (t := ti) (k := (j).toNat)
      show W p l e R s m args below meth c H locs _ _ _ (F0 m 16 ls [.int (iN (z_4))])
      refine x_if_eq (tgt := 32) hC ⟨by omega, by omega⟩ dX5_sum_16 (by decide) (fun c_5 => ?_) (fun c_5 => ?_)
      · refine x_iinc (lv' := [(3, .int (iN (j + 1))), (0, .ref a), (1, .ref i), (2, .int (iN (n)))]) hC dX5_sum_32 hl (k := 3) rfl (by decide) rfl (fun ls hl => ?_)
        refine lv_goto (tgt := 4) hC.1 hC.2.1 dX5_sum_35 (by decide) ?_
        exact ih4 n (j + 1)  _ _ _ (by omega) (by omega) (by rw [smF_s (by omega) rfl]; omega) hw (lv_sub hl [1, 2, 3, 0] rfl)
      · refine lv_iload_n hC.1 hC.2.1 dX5_sum_19 rfl (lv_at hl 2 rfl) ?_
        refine lv_aload_n hC.1 hC.2.1 dX5_sum_20 rfl (lv_at hl 0 rfl) ?_
        refine x_get hC hw hR.1.1 rfl hinX5 2 (by decide) (by decide +kernel) rfl dX5_sum_21 ?_
        refine lv_aload_n hC.1 hC.2.1 dX5_sum_24 rfl (lv_at hl 1 rfl) ?_
        refine x_const hC dX5_sum_25 ?_
        refine x_ialdE (x := ((ti.b : Nat) : Int)) hC hw hIi.1 (by omega) (by omega) (by omega) dX5_sum_26 hIi.2.2.1 ?_
        refine x_ald4 hC hw hR.1.2.1 (by omega) (by omega) (by omega) dX5_sum_27 ?_
        rw [Int.toNat_natCast]
        rw [hR.fa' (show ti.b < 3 by omega)]
        show W p l e R s m args below meth c _ _ _ _ _ (F0 m 28 ls [.ref (qv ti.b), .int (iN (n))])
        refine lv_iload_n hC.1 hC.2.1 dX5_sum_28 rfl (lv_at hl 3 rfl) ?_
        refine x_ialdE (x := (V ti.b ((j).toNat))) hC hw (hR.rv (show ti.b < 3 by omega)) (by omega) (by omega) (by omega) dX5_sum_29 rfl ?_
        have hrv_6 := hR.vr (show ti.b < 3 by omega) (show (j).toNat < 100 by omega)
        have hpv_6 := hR.vs (show ti.b < 3 by omega) (show (j).toNat < 100 by omega)
        refine x_iadd hC dX5_sum_30 ?_
        refine lv_istore_n (lv' := [(2, .int (iN (n + (V ti.b ((j).toNat))))), (0, .ref a), (1, .ref i), (3, .int (iN (j)))]) hC.1 hC.2.1 dX5_sum_31 rfl hl (by decide) rfl (fun ls hl => ?_)
        refine x_iinc (lv' := [(3, .int (iN (j + 1))), (2, .int (iN (n + (V ti.b ((j).toNat))))), (0, .ref a), (1, .ref i)]) hC dX5_sum_32 hl (k := 3) rfl (by decide) rfl (fun ls hl => ?_)
        refine lv_goto (tgt := 4) hC.1 hC.2.1 dX5_sum_35 (by decide) ?_
        exact ih4 (n + (V ti.b ((j).toNat))) (j + 1)  _ _ _ (by omega) (by omega) (by rw [smF_s (by omega) rfl]; omega) hw (lv_sub hl [2, 3, 1, 0] rfl)
set_option maxHeartbeats 4000000 in
set_option maxRecDepth 100000 in
theorem c_X5_ahead (l : Launch) (G : xG) {M : HM} {a va oa wa ya : Nat} {wk : Option Nat} {th : Int} {rfd : Int32} {br re la ha : Int} {kp kv : Int32} {qv qw : Nat → Nat} {fa fb : Nat → Option Nat} {V : BW} {O : OW} {fy : Nat → Option Nat} {Wv : VW} {wt : Option VT} {S : Nat → Bool} (hR : MGx G M a va oa wa ya wk th rfd br re la ha kp kv qv qw fa fb V O fy Wv wt S) {p0 : Int} (hp0 : -2147483648 ≤ p0 ∧ p0 ≤ 2147483647) {p1 : Int} (hp1 : -2147483648 ≤ p1 ∧ p1 ≤ 2147483647) (hob : 0 ≤ p0 ∧ p0 ≤ 2) (hok : 0 ≤ p1 ∧ p1 ≤ 99) : xMet l G yX5_ahead wsX5_ahead 3 67 1 5 [.ref a, .int (iN (p0)), .int (iN (p1))] M (fun r M1 => ∃ z : Int, r = some (.int (iN z)) ∧ xExt M M1 ∧ (0 ≤ z ∧ z ≤ 100) ∧ z = ahF O V p0.toNat p1.toNat 100) := by
  refine x_intro (cc := cX5_ahead) (maxL := 6) (ret := (some .int)) (by decide +kernel) rfl (Nat.le_of_ble_eq_true rfl) ?_
  intro p e R s m args below meth c ls hRf hRc hRs hRl hC hw hl
  have hsc0 := hR.sc
  have hl : lv_has ls 6 [(0, .ref a), (1, .int (iN (p0))), (2, .int (iN (p1)))] := hl
  refine lv_iload_n hC.1 hC.2.1 dX5_ahead_0 rfl (lv_at hl 1 rfl) ?_
  refine x_callS hC hw (lv_size hl) (c_X5_whole l G (M := M) (p0 := p0) (by omega) (by omega)) gX5_ahead_X5_whole rfl dv_X5_whole_s rfl (Nat.le_of_ble_eq_true rfl) (by rw [hRf]; decide) (by rw [hRl]; decide) (by omega) (by omega) dX5_ahead_1 (fun r9 M_1 H locs hq hw => ?_)
  obtain ⟨qk_2, fk_2, rfl, hxk_2, hIk_2⟩ := hq
  have h_3 := hR.ext hxk_2
  obtain ⟨htat_4, htbt_4, htct_4, htdt_4, htet_4⟩ := id hIk_2.2.1
  have holk_2 := h_3.or' hIk_2.2.1.1
  show W p l e R s m args below meth c H locs _ _ _ (F0 m 4 ls [.ref qk_2])
  refine lv_astore_n (lv' := [(3, .ref qk_2), (0, .ref a), (1, .int (iN (p0))), (2, .int (iN (p1)))]) hC.1 hC.2.1 dX5_ahead_4 rfl hl (by decide) rfl (fun ls hl => ?_)
  refine x_const hC dX5_ahead_5 ?_
  refine lv_istore (lv' := [(4, .int (iN (0))), (3, .ref qk_2), (0, .ref a), (1, .int (iN (p0))), (2, .int (iN (p1)))]) hC.1 hC.2.1 dX5_ahead_6 hl (by decide) rfl (fun ls hl => ?_)
  refine x_const hC dX5_ahead_8 ?_
  refine lv_istore (lv' := [(5, .int (iN (0))), (4, .int (iN (0))), (3, .ref qk_2), (0, .ref a), (1, .int (iN (p0))), (2, .int (iN (p1)))]) hC.1 hC.2.1 dX5_ahead_9 hl (by decide) rfl (fun ls hl => ?_)
  suffices hloop11 : ∀ (n9 : Nat) (n : Int) (j : Int) (H : Heap) (locs : List Loc) (ls : Array Slot), (hmu : (100 - j).toNat < n9) → (hi0 : 0 ≤ j ∧ j ≤ 100) → (hi1 : 0 ≤ n ∧ n ≤ j) → (hcn : n = ahF O V (p0).toNat (p1).toNat (j).toNat) → xD G (xA M s.heap.size) s M_1 H locs → lv_has ls 6 [(0, .ref a), (1, .int (iN (p0))), (2, .int (iN (p1))), (3, .ref qk_2), (4, .int (iN (n))), (5, .int (iN (j)))] → W p l e R s m args below meth c H locs _ _ _ (F0 m 11 ls []) by
    exact hloop11 _ 0 0  _ _ _ (Nat.lt_succ_self _) (by omega) (by omega) (rfl) hw (lv_sub hl [3, 4, 5, 2, 1, 0] rfl)
  intro n9
  induction n9 with
  | zero => intro n j  H locs ls hmu; exact absurd hmu (Nat.not_lt_zero _)
  | succ n9 ih11 =>
    intro n j  H locs ls hmu hi0 hi1 hcn hw hl
    refine lv_iload hC.1 hC.2.1 dX5_ahead_11 (lv_at hl 5 rfl) ?_
    refine x_bipush hC dX5_ahead_13 (by decide +kernel) ?_
    refine x_icmp_ge (tgt := 63) hC ⟨by omega, by omega⟩ ⟨by omega, by omega⟩ dX5_ahead_15 (by decide) (fun c_5 => ?_) (fun c_5 => ?_)
    · refine lv_iload hC.1 hC.2.1 dX5_ahead_63 (lv_at hl 4 rfl) ?_
      exact x_iret hC hw dX5_ahead_65 (by omega) (by omega) ⟨n, rfl, hxk_2, by omega, by rw [show (100 : Nat) = (j).toNat by omega]; exact hcn⟩
    · refine lv_iload hC.1 hC.2.1 dX5_ahead_18 (lv_at hl 4 rfl) ?_
      refine lv_aload_n hC.1 hC.2.1 dX5_ahead_20 rfl (lv_at hl 0 rfl) ?_
      refine lv_aload_n hC.1 hC.2.1 dX5_ahead_21 rfl (lv_at hl 3 rfl) ?_
      refine lv_iload hC.1 hC.2.1 dX5_ahead_22 (lv_at hl 5 rfl) ?_
      refine x_callV hC hw (lv_size hl) (c_X5_shows l G h_3 hIk_2 (p0 := j) (by omega) (by omega)) gX5_ahead_X5_shows rfl dv_X5_shows h_3.1.1 rfl rfl (Nat.le_of_ble_eq_true rfl) (by rw [hRf]; decide) (by rw [hRl]; decide) (by omega) (by omega) dX5_ahead_24 (fun r9 M_6 H locs hq hw => ?_)
      obtain ⟨z_7, rfl, hM9, hz_7a, hz_7s, hz_7S⟩ := hq
      rw [hM9] at hw
      have hz_7i := shI_iff (O := O) (V := V) (t := (whT ((p0).toNat))) (k := (j).toNat)
      show W p l e R s m args below meth c H locs _ _ _ (F0 m 27 ls [.int (iN (z_7)), .int (iN (n))])
      refine x_if_eq (tgt := 50) hC ⟨by omega, by omega⟩ dX5_ahead_27 (by decide) (fun c_8 => ?_) (fun c_8 => ?_)
      · refine x_const hC dX5_ahead_50 ?_
        refine x_callS hC hw (lv_size hl) (c_X5_one l G (M := M_1) (p0 := 0) (by omega)) gX5_ahead_X5_one rfl dv_X5_one_s rfl (Nat.le_of_ble_eq_true rfl) (by rw [hRf]; decide) (by rw [hRl]; decide) (by omega) (by omega) dX5_ahead_51 (fun r9 M_9 H locs hq hw => ?_)
        obtain ⟨z_10, rfl, hM9, hz_10a, hz_10b⟩ := hq
        rw [hM9] at hw
        show W p l e R s m args below meth c H locs _ _ _ (F0 m 54 ls [.int (iN (z_10)), .int (iN (n))])
        refine x_iadd hC dX5_ahead_54 ?_
        refine lv_istore (lv' := [(4, .int (iN (n + z_10))), (0, .ref a), (1, .int (iN (p0))), (2, .int (iN (p1))), (3, .ref qk_2), (5, .int (iN (j)))]) hC.1 hC.2.1 dX5_ahead_55 hl (by decide) rfl (fun ls hl => ?_)
        refine x_iinc (lv' := [(5, .int (iN (j + 1))), (4, .int (iN (n + z_10))), (0, .ref a), (1, .int (iN (p0))), (2, .int (iN (p1))), (3, .ref qk_2)]) hC dX5_ahead_57 hl (k := 5) rfl (by decide) rfl (fun ls hl => ?_)
        refine lv_goto (tgt := 11) hC.1 hC.2.1 dX5_ahead_60 (by decide) ?_
        exact ih11 (n + z_10) (j + 1)  _ _ _ (by omega) (by omega) (by omega) (by rw [ahF_s (by omega) rfl]; first | omega | (show _ = _ + (if shI O V (whT (p0).toNat) (j).toNat = 1 ∧ (mwN (O (whT (p0).toNat).b) (j).toNat : Int) < mwN (O (whT (p0).toNat).b) (p1).toNat then 1 else 0); omega)) hw (lv_sub hl [2, 3, 4, 5, 1, 0] rfl)
      · refine lv_aload_n hC.1 hC.2.1 dX5_ahead_30 rfl (lv_at hl 0 rfl) ?_
        refine lv_aload_n hC.1 hC.2.1 dX5_ahead_31 rfl (lv_at hl 3 rfl) ?_
        refine lv_iload hC.1 hC.2.1 dX5_ahead_32 (lv_at hl 5 rfl) ?_
        refine x_callV hC hw (lv_size hl) (c_X5_weight l G h_3 hIk_2 (p0 := j) (by omega) (by omega)) gX5_ahead_X5_weight rfl dv_X5_weight h_3.1.1 rfl rfl (Nat.le_of_ble_eq_true rfl) (by rw [hRf]; decide) (by rw [hRl]; decide) (by omega) (by omega) dX5_ahead_34 (fun r9 M_11 H locs hq hw => ?_)
        obtain ⟨z_12, rfl, hM9, hz_12a, hz_12b⟩ := hq
        rw [hM9] at hw
        show W p l e R s m args below meth c H locs _ _ _ (F0 m 37 ls [.int (iN (z_12)), .int (iN (n))])
        refine lv_aload_n hC.1 hC.2.1 dX5_ahead_37 rfl (lv_at hl 0 rfl) ?_
        refine lv_aload_n hC.1 hC.2.1 dX5_ahead_38 rfl (lv_at hl 3 rfl) ?_
        refine lv_iload_n hC.1 hC.2.1 dX5_ahead_39 rfl (lv_at hl 2 rfl) ?_
        refine x_callV hC hw (lv_size hl) (c_X5_weight l G h_3 hIk_2 (p0 := p1) (by omega) (by omega)) gX5_ahead_X5_weight rfl dv_X5_weight h_3.1.1 rfl rfl (Nat.le_of_ble_eq_true rfl) (by rw [hRf]; decide) (by rw [hRl]; decide) (by omega) (by omega) dX5_ahead_40 (fun r9 M_13 H locs hq hw => ?_)
        obtain ⟨z_14, rfl, hM9, hz_14a, hz_14b⟩ := hq
        rw [hM9] at hw
        show W p l e R s m args below meth c H locs _ _ _ (F0 m 43 ls [.int (iN (z_14)), .int (iN (z_12)), .int (iN (n))])
        refine x_icmp_ge (tgt := 50) hC ⟨by omega, by omega⟩ ⟨by omega, by omega⟩ dX5_ahead_43 (by decide) (fun c_15 => ?_) (fun c_15 => ?_)
        · refine x_const hC dX5_ahead_50 ?_
          refine x_callS hC hw (lv_size hl) (c_X5_one l G (M := M_1) (p0 := 0) (by omega)) gX5_ahead_X5_one rfl dv_X5_one_s rfl (Nat.le_of_ble_eq_true rfl) (by rw [hRf]; decide) (by rw [hRl]; decide) (by omega) (by omega) dX5_ahead_51 (fun r9 M_16 H locs hq hw => ?_)
          obtain ⟨z_17, rfl, hM9, hz_17a, hz_17b⟩ := hq
          rw [hM9] at hw
          show W p l e R s m args below meth c H locs _ _ _ (F0 m 54 ls [.int (iN (z_17)), .int (iN (n))])
          refine x_iadd hC dX5_ahead_54 ?_
          refine lv_istore (lv' := [(4, .int (iN (n + z_17))), (0, .ref a), (1, .int (iN (p0))), (2, .int (iN (p1))), (3, .ref qk_2), (5, .int (iN (j)))]) hC.1 hC.2.1 dX5_ahead_55 hl (by decide) rfl (fun ls hl => ?_)
          refine x_iinc (lv' := [(5, .int (iN (j + 1))), (4, .int (iN (n + z_17))), (0, .ref a), (1, .int (iN (p0))), (2, .int (iN (p1))), (3, .ref qk_2)]) hC dX5_ahead_57 hl (k := 5) rfl (by decide) rfl (fun ls hl => ?_)
          refine lv_goto (tgt := 11) hC.1 hC.2.1 dX5_ahead_60 (by decide) ?_
          exact ih11 (n + z_17) (j + 1)  _ _ _ (by omega) (by omega) (by omega) (by rw [ahF_s (by omega) rfl]; first | omega | (show _ = _ + (if shI O V (whT (p0).toNat) (j).toNat = 1 ∧ (mwN (O (whT (p0).toNat).b) (j).toNat : Int) < mwN (O (whT (p0).toNat).b) (p1).toNat then 1 else 0); omega)) hw (lv_sub hl [2, 3, 4, 5, 1, 0] rfl)
        · refine x_const hC dX5_ahead_46 ?_
          refine lv_goto (tgt := 51) hC.1 hC.2.1 dX5_ahead_47 (by decide) ?_
          refine x_callS hC hw (lv_size hl) (c_X5_one l G (M := M_1) (p0 := 1) (by omega)) gX5_ahead_X5_one rfl dv_X5_one_s rfl (Nat.le_of_ble_eq_true rfl) (by rw [hRf]; decide) (by rw [hRl]; decide) (by omega) (by omega) dX5_ahead_51 (fun r9 M_18 H locs hq hw => ?_)
          obtain ⟨z_19, rfl, hM9, hz_19a, hz_19b⟩ := hq
          rw [hM9] at hw
          show W p l e R s m args below meth c H locs _ _ _ (F0 m 54 ls [.int (iN (z_19)), .int (iN (n))])
          refine x_iadd hC dX5_ahead_54 ?_
          refine lv_istore (lv' := [(4, .int (iN (n + z_19))), (0, .ref a), (1, .int (iN (p0))), (2, .int (iN (p1))), (3, .ref qk_2), (5, .int (iN (j)))]) hC.1 hC.2.1 dX5_ahead_55 hl (by decide) rfl (fun ls hl => ?_)
          refine x_iinc (lv' := [(5, .int (iN (j + 1))), (4, .int (iN (n + z_19))), (0, .ref a), (1, .int (iN (p0))), (2, .int (iN (p1))), (3, .ref qk_2)]) hC dX5_ahead_57 hl (k := 5) rfl (by decide) rfl (fun ls hl => ?_)
          refine lv_goto (tgt := 11) hC.1 hC.2.1 dX5_ahead_60 (by decide) ?_
          exact ih11 (n + z_19) (j + 1)  _ _ _ (by omega) (by omega) (by omega) (by rw [ahF_s (by omega) rfl]; first | omega | (show _ = _ + (if shI O V (whT (p0).toNat) (j).toNat = 1 ∧ (mwN (O (whT (p0).toNat).b) (j).toNat : Int) < mwN (O (whT (p0).toNat).b) (p1).toNat then 1 else 0); omega)) hw (lv_sub hl [2, 3, 4, 5, 1, 0] rfl)
set_option maxHeartbeats 4000000 in
set_option maxRecDepth 100000 in
theorem c_X5_touch (l : Launch) (G : xG) {M : HM} {a va oa wa ya : Nat} {wk : Option Nat} {th : Int} {rfd : Int32} {br re la ha : Int} {kp kv : Int32} {qv qw : Nat → Nat} {fa fb : Nat → Option Nat} {V : BW} {O : OW} {fy : Nat → Option Nat} {Wv : VW} {wt : Option VT} {S : Nat → Bool} (hR : MGx G M a va oa wa ya wk th rfd br re la ha kp kv qv qw fa fb V O fy Wv wt S) {p0 : Int} (hp0 : -2147483648 ≤ p0 ∧ p0 ≤ 2147483647) (hob : 0 ≤ p0 ∧ p0 ≤ 2) : xMet l G yX5_touch wsX5_touch 0 0 0 0 [.ref a, .int (iN (p0))] M (fun r M1 => ∃ (ha1 : Int), r = none ∧ ha1 = (if inB wt p0.toNat = 1 then -10000 else ha) ∧ xI5 G M M1 ∧ MGx G M1 a va oa wa ya wk th rfd br re la ha1 kp kv qv qw fa fb V O fy Wv wt S) := by
  refine x_intro (cc := cX5_touch) (maxL := 2) (ret := none) (by decide +kernel) rfl (Nat.le_of_ble_eq_true rfl) ?_
  intro p e R s m args below meth c ls hRf hRc hRs hRl hC hw hl
  have hsc0 := hR.sc
  have hinX5 : ∀ w ∈ wsX50, w ∈ wsX5_touch := by decide +kernel
  have hl : lv_has ls 2 [(0, .ref a), (1, .int (iN (p0)))] := hl
  refine lv_aload_n hC.1 hC.2.1 dX5_touch_0 rfl (lv_at hl 0 rfl) ?_
  refine x_get hC hw hR.1.1 rfl hinX5 6 (by decide) (by decide +kernel) rfl dX5_touch_1 ?_
  rcases wk with _ | w_1
  · have hwt_2 := hR.wk'.nil rfl
    subst hwt_2
    show W p l e R s m args below meth c _ _ _ _ _ (F0 m 4 ls [.null])
    refine lv_ifnullN (tgt := 24) hC.1 hC.2.1 dX5_touch_4 (by decide) ?_
    exact x_vret hC hw dX5_touch_24 (by omega) (by omega) ⟨_, rfl, by have e9 := inB_none (p0).toNat; omega, xI5.rf, hR⟩
  · obtain ⟨ti_3, fi_3, hui_3, hIi_3⟩ := hR.wk'.yes rfl
    obtain ⟨htat_4, htbt_4, htct_4, htdt_4, htet_4⟩ := id hIi_3.2.1
    subst hui_3
    show W p l e R s m args below meth c _ _ _ _ _ (F0 m 4 ls [.ref w_1])
    refine lv_ifnull hC.1 hC.2.1 dX5_touch_4 ?_
    refine lv_aload_n hC.1 hC.2.1 dX5_touch_7 rfl (lv_at hl 0 rfl) ?_
    refine x_get hC hw hR.1.1 rfl hinX5 6 (by decide) (by decide +kernel) rfl dX5_touch_8 ?_
    show W p l e R s m args below meth c _ _ _ _ _ (F0 m 11 ls [.ref w_1])
    refine x_const hC dX5_touch_11 ?_
    refine x_ialdE (x := ((ti_3.b : Nat) : Int)) hC hw hIi_3.1 (by omega) (by omega) (by omega) dX5_touch_12 hIi_3.2.2.1 ?_
    refine lv_iload_n hC.1 hC.2.1 dX5_touch_13 rfl (lv_at hl 1 rfl) ?_
    refine x_icmp_ne (tgt := 24) hC ⟨by omega, by omega⟩ ⟨by omega, by omega⟩ dX5_touch_14 (by decide) (fun c_5 => ?_) (fun c_5 => ?_)
    · exact x_vret hC hw dX5_touch_24 (by omega) (by omega) ⟨_, rfl, by have e9 := inB_val ti_3 (p0).toNat; omega, xI5.rf, hR⟩
    · refine lv_aload_n hC.1 hC.2.1 dX5_touch_17 rfl (lv_at hl 0 rfl) ?_
      refine x_sipush hC dX5_touch_18 (by decide +kernel) ?_
      refine x_put (fs2 := [.int (iN (th)), .int rfd, .ref va, .ref oa, .ref wa, .ref ya, .ref w_1, .int (iN (br)), .int (iN (re)), .int (iN (la)), .int (iN ((-10000))), .int kp, .int kv]) hC hw hR.1.1 rfl hinX5 tyX5 tyX5_ok nmX5 10 (by decide) (by decide +kernel) rfl rfl rfl (Nat.le_of_ble_eq_true rfl) rfl dX5_touch_21 (fun H locs hw => ?_)
      obtain ⟨M_6, hM_7⟩ : ∃ z, z = va_up M a (some (.inr (7, [.int (iN (th)), .int rfd, .ref va, .ref oa, .ref wa, .ref ya, .ref w_1, .int (iN (br)), .int (iN (re)), .int (iN (la)), .int (iN ((-10000))), .int kp, .int kv]))) := ⟨_, rfl⟩
      rw [← hM_7] at hw
      have hR_8 : MGx G M_6 a va oa wa ya (some w_1) th rfd br re la (-10000) kp kv qv qw fa fb V O fy Wv (some ti_3) S := hR.obj hM_7 (by have e9 := hR.sc; omega) hR.wk'
      have h_9 := hIi_3.x5 (hR.obj5 hM_7)
      exact x_vret hC hw dX5_touch_24 (by omega) (by omega) ⟨_, rfl, by have e9 := inB_val ti_3 (p0).toNat; omega, ((hR.obj5 hM_7)), hR_8⟩
set_option maxHeartbeats 4000000 in
set_option maxRecDepth 100000 in
theorem c_X5_set (l : Launch) (G : xG) {M : HM} {a va oa wa ya : Nat} {wk : Option Nat} {th : Int} {rfd : Int32} {br re la ha : Int} {kp kv : Int32} {qv qw : Nat → Nat} {fa fb : Nat → Option Nat} {V : BW} {O : OW} {fy : Nat → Option Nat} {Wv : VW} {wt : Option VT} {S : Nat → Bool} (hR : MGx G M a va oa wa ya wk th rfd br re la ha kp kv qv qw fa fb V O fy Wv wt S) {p0 : Int} (hp0 : -2147483648 ≤ p0 ∧ p0 ≤ 2147483647) {p1 : Int} (hp1 : -2147483648 ≤ p1 ∧ p1 ≤ 2147483647) {p2 : Int} (hp2 : -2147483648 ≤ p2 ∧ p2 ≤ 2147483647) (hob : 0 ≤ p0 ∧ p0 ≤ 2) (hok : 0 ≤ p1 ∧ p1 ≤ 99) (hov : -10000 ≤ p2 ∧ p2 ≤ 9999) (hsv : p2 ≠ -10000 → S p1.toNat = true) : xMet l G yX5_set wsX5_set 0 0 0 0 [.ref a, .int (iN (p0)), .int (iN (p1)), .int (iN (p2))] M (fun r M1 => ∃ (z : Int) (br1 : Int) (V1 : BW), r = some (.int (iN z)) ∧ (-10000 ≤ z ∧ z ≤ 9999) ∧ z = V p0.toNat p1.toNat ∧ (z ≠ -10000 → S p1.toNat = true) ∧ br1 = (if inB wt p0.toNat = 1 ∧ ¬ (V p0.toNat p1.toNat = -10000 ↔ p2 = -10000) then 1 else br) ∧ V1 = upB V p0.toNat (upV (V p0.toNat) p1.toNat p2) ∧ xI5 G M M1 ∧ MGx G M1 a va oa wa ya wk th rfd br1 re la ha kp kv qv qw fa fb V1 O fy Wv wt S) := by
  refine x_intro (cc := cX5_set) (maxL := 5) (ret := (some .int)) (by decide +kernel) rfl (Nat.le_of_ble_eq_true rfl) ?_
  intro p e R s m args below meth c ls hRf hRc hRs hRl hC hw hl
  have hsc0 := hR.sc
  have hinX5 : ∀ w ∈ wsX50, w ∈ wsX5_set := by decide +kernel
  have hl : lv_has ls 5 [(0, .ref a), (1, .int (iN (p0))), (2, .int (iN (p1))), (3, .int (iN (p2)))] := hl
  refine lv_aload_n hC.1 hC.2.1 dX5_set_0 rfl (lv_at hl 0 rfl) ?_
  refine x_get hC hw hR.1.1 rfl hinX5 2 (by decide) (by decide +kernel) rfl dX5_set_1 ?_
  refine lv_iload_n hC.1 hC.2.1 dX5_set_4 rfl (lv_at hl 1 rfl) ?_
  refine x_ald4 hC hw hR.1.2.1 (by omega) (by omega) (by omega) dX5_set_5 ?_
  rw [hR.fa' (show (p0).toNat < 3 by omega)]
  show W p l e R s m args below meth c _ _ _ _ _ (F0 m 6 ls [.ref (qv ((p0).toNat))])
  refine lv_iload_n hC.1 hC.2.1 dX5_set_6 rfl (lv_at hl 2 rfl) ?_
  refine x_ialdE (x := (V ((p0).toNat) ((p1).toNat))) hC hw (hR.rv (show ((p0).toNat) < 3 by omega)) (by omega) (by omega) (by omega) dX5_set_7 rfl ?_
  have hrv_1 := hR.vr (show ((p0).toNat) < 3 by omega) (show (p1).toNat < 100 by omega)
  have hpv_1 := hR.vs (show ((p0).toNat) < 3 by omega) (show (p1).toNat < 100 by omega)
  refine lv_istore (lv' := [(4, .int (iN ((V ((p0).toNat) ((p1).toNat))))), (0, .ref a), (1, .int (iN (p0))), (2, .int (iN (p1))), (3, .int (iN (p2)))]) hC.1 hC.2.1 dX5_set_8 hl (by decide) rfl (fun ls hl => ?_)
  refine lv_aload_n hC.1 hC.2.1 dX5_set_10 rfl (lv_at hl 1 rfl) ?_
  refine x_get hC hw hR.1.1 rfl hinX5 2 (by decide) (by decide +kernel) rfl dX5_set_11 ?_
  refine lv_iload_n hC.1 hC.2.1 dX5_set_14 rfl (lv_at hl 2 rfl) ?_
  refine x_ald4 hC hw hR.1.2.1 (by omega) (by omega) (by omega) dX5_set_15 ?_
  rw [hR.fa' (show (p0).toNat < 3 by omega)]
  show W p l e R s m args below meth c _ _ _ _ _ (F0 m 16 ls [.ref (qv ((p0).toNat))])
  refine lv_iload_n hC.1 hC.2.1 dX5_set_16 rfl (lv_at hl 3 rfl) ?_
  refine lv_iload_n hC.1 hC.2.1 dX5_set_17 rfl (lv_at hl 4 rfl) ?_
  refine x_iast hC hw (hR.rv (show ((p0).toNat) < 3 by omega)) (by omega) (by omega) (by omega) dX5_set_18 (fun H locs hw => ?_)
  obtain ⟨M_2, hM_3⟩ : ∃ z, z = va_up M (qv ((p0).toNat)) (some (.inl (G.2 1, 100, .inl (upd (fun k9 => iN (V ((p0).toNat) k9)) (p1).toNat (iN (p2)))))) := ⟨_, rfl⟩
  rw [← hM_3] at hw
  have hR_4 := hR.val (j := ((p0).toNat)) (v := p2) (by omega) hM_3 (by omega) (by intro q9; first | exact absurd rfl q9 | assumption | exact hpv_1 q9 | exact hpv_1 (by omega) | exact hsv q9)
  obtain ⟨V_5, hV_5⟩ : ∃ z, z = (upB V ((p0).toNat) (upV (V ((p0).toNat)) ((p1).toNat) p2)) := ⟨_, rfl⟩
  rw [← hV_5] at hR_4
  refine lv_aload_n hC.1 hC.2.1 dX5_set_19 rfl (lv_at hl 1 rfl) ?_
  refine x_get hC hw hR_4.1.1 rfl hinX5 6 (by decide) (by decide +kernel) rfl dX5_set_20 ?_
  rcases wk with _ | w_6
  · have hwt_7 := hR_4.wk'.nil rfl
    subst hwt_7
    show W p l e R s m args below meth c _ _ _ _ _ (F0 m 23 ls [.null])
    refine lv_ifnullN (tgt := 69) hC.1 hC.2.1 dX5_set_23 (by decide) ?_
    refine lv_iload hC.1 hC.2.1 dX5_set_69 (lv_at hl 0 rfl) ?_
    exact x_iret hC hw dX5_set_71 (by omega) (by omega) ⟨(V ((p0).toNat) ((p1).toNat)), _, _, rfl, by omega, rfl, hpv_1, by have e9 := inB_none (p0).toNat; omega, hV_5, ((hR.val5 (show ((p0).toNat) < 3 by omega) hM_3)), hR_4⟩
  · obtain ⟨ti_8, fi_8, hui_8, hIi_8⟩ := hR_4.wk'.yes rfl
    obtain ⟨htat_9, htbt_9, htct_9, htdt_9, htet_9⟩ := id hIi_8.2.1
    subst hui_8
    show W p l e R s m args below meth c _ _ _ _ _ (F0 m 23 ls [.ref w_6])
    refine lv_ifnull hC.1 hC.2.1 dX5_set_23 ?_
    refine lv_aload_n hC.1 hC.2.1 dX5_set_26 rfl (lv_at hl 1 rfl) ?_
    refine x_get hC hw hR_4.1.1 rfl hinX5 6 (by decide) (by decide +kernel) rfl dX5_set_27 ?_
    show W p l e R s m args below meth c _ _ _ _ _ (F0 m 30 ls [.ref w_6])
    refine x_const hC dX5_set_30 ?_
    refine x_ialdE (x := ((ti_8.b : Nat) : Int)) hC hw hIi_8.1 (by omega) (by omega) (by omega) dX5_set_31 hIi_8.2.2.1 ?_
    refine lv_iload_n hC.1 hC.2.1 dX5_set_32 rfl (lv_at hl 2 rfl) ?_
    refine x_icmp_ne (tgt := 69) hC ⟨by omega, by omega⟩ ⟨by omega, by omega⟩ dX5_set_33 (by decide) (fun c_10 => ?_) (fun c_10 => ?_)
    · refine lv_iload hC.1 hC.2.1 dX5_set_69 (lv_at hl 0 rfl) ?_
      exact x_iret hC hw dX5_set_71 (by omega) (by omega) ⟨(V ((p0).toNat) ((p1).toNat)), _, _, rfl, by omega, rfl, hpv_1, by have e9 := inB_val ti_8 (p0).toNat; omega, hV_5, ((hR.val5 (show ((p0).toNat) < 3 by omega) hM_3)), hR_4⟩
    · refine lv_iload hC.1 hC.2.1 dX5_set_36 (lv_at hl 0 rfl) ?_
      refine x_sipush hC dX5_set_38 (by decide +kernel) ?_
      refine x_icmp_ne (tgt := 48) hC ⟨by omega, by omega⟩ ⟨by omega, by omega⟩ dX5_set_41 (by decide) (fun c_11 => ?_) (fun c_11 => ?_)
      · refine x_const hC dX5_set_48 ?_
        refine lv_iload_n hC.1 hC.2.1 dX5_set_49 rfl (lv_at hl 4 rfl) ?_
        refine x_sipush hC dX5_set_50 (by decide +kernel) ?_
        refine x_icmp_ne (tgt := 60) hC ⟨by omega, by omega⟩ ⟨by omega, by omega⟩ dX5_set_53 (by decide) (fun c_12 => ?_) (fun c_12 => ?_)
        · refine x_const hC dX5_set_60 ?_
          refine x_icmp_eq (tgt := 69) hC ⟨by omega, by omega⟩ ⟨by omega, by omega⟩ dX5_set_61 (by decide) (fun c_13 => ?_) (fun c_13 => ?_)
          · refine lv_iload hC.1 hC.2.1 dX5_set_69 (lv_at hl 0 rfl) ?_
            exact x_iret hC hw dX5_set_71 (by omega) (by omega) ⟨(V ((p0).toNat) ((p1).toNat)), _, _, rfl, by omega, rfl, hpv_1, by have e9 := inB_val ti_8 (p0).toNat; omega, hV_5, ((hR.val5 (show ((p0).toNat) < 3 by omega) hM_3)), hR_4⟩
          · refine lv_aload_n hC.1 hC.2.1 dX5_set_64 rfl (lv_at hl 1 rfl) ?_
            refine x_const hC dX5_set_65 ?_
            refine x_put (fs2 := [.int (iN (th)), .int rfd, .ref va, .ref oa, .ref wa, .ref ya, .ref w_6, .int (iN (1)), .int (iN (re)), .int (iN (la)), .int (iN (ha)), .int kp, .int kv]) hC hw hR_4.1.1 rfl hinX5 tyX5 tyX5_ok nmX5 7 (by decide) (by decide +kernel) rfl rfl rfl (Nat.le_of_ble_eq_true rfl) rfl dX5_set_66 (fun H locs hw => ?_)
            obtain ⟨M_14, hM_15⟩ : ∃ z, z = va_up M_2 a (some (.inr (7, [.int (iN (th)), .int rfd, .ref va, .ref oa, .ref wa, .ref ya, .ref w_6, .int (iN (1)), .int (iN (re)), .int (iN (la)), .int (iN (ha)), .int kp, .int kv]))) := ⟨_, rfl⟩
            rw [← hM_15] at hw
            have hR_16 : MGx G M_14 a va oa wa ya (some w_6) th rfd 1 re la ha kp kv qv qw fa fb V_5 O fy Wv (some ti_8) S := hR_4.obj hM_15 (by have e9 := hR_4.sc; omega) hR_4.wk'
            have h_17 := hIi_8.x5 (hR_4.obj5 hM_15)
            refine lv_iload hC.1 hC.2.1 dX5_set_69 (lv_at hl 0 rfl) ?_
            exact x_iret hC hw dX5_set_71 (by omega) (by omega) ⟨(V ((p0).toNat) ((p1).toNat)), _, _, rfl, by omega, rfl, hpv_1, by have e9 := inB_val ti_8 (p0).toNat; omega, hV_5, (xI5.tr ((hR.val5 (show ((p0).toNat) < 3 by omega) hM_3)) ((hR_4.obj5 hM_15))), hR_16⟩
        · refine x_const hC dX5_set_56 ?_
          refine lv_goto (tgt := 61) hC.1 hC.2.1 dX5_set_57 (by decide) ?_
          refine x_icmp_eq (tgt := 69) hC ⟨by omega, by omega⟩ ⟨by omega, by omega⟩ dX5_set_61 (by decide) (fun c_18 => ?_) (fun c_18 => ?_)
          · refine lv_iload hC.1 hC.2.1 dX5_set_69 (lv_at hl 0 rfl) ?_
            exact x_iret hC hw dX5_set_71 (by omega) (by omega) ⟨(V ((p0).toNat) ((p1).toNat)), _, _, rfl, by omega, rfl, hpv_1, by have e9 := inB_val ti_8 (p0).toNat; omega, hV_5, ((hR.val5 (show ((p0).toNat) < 3 by omega) hM_3)), hR_4⟩
          · refine lv_aload_n hC.1 hC.2.1 dX5_set_64 rfl (lv_at hl 1 rfl) ?_
            refine x_const hC dX5_set_65 ?_
            refine x_put (fs2 := [.int (iN (th)), .int rfd, .ref va, .ref oa, .ref wa, .ref ya, .ref w_6, .int (iN (1)), .int (iN (re)), .int (iN (la)), .int (iN (ha)), .int kp, .int kv]) hC hw hR_4.1.1 rfl hinX5 tyX5 tyX5_ok nmX5 7 (by decide) (by decide +kernel) rfl rfl rfl (Nat.le_of_ble_eq_true rfl) rfl dX5_set_66 (fun H locs hw => ?_)
            obtain ⟨M_19, hM_20⟩ : ∃ z, z = va_up M_2 a (some (.inr (7, [.int (iN (th)), .int rfd, .ref va, .ref oa, .ref wa, .ref ya, .ref w_6, .int (iN (1)), .int (iN (re)), .int (iN (la)), .int (iN (ha)), .int kp, .int kv]))) := ⟨_, rfl⟩
            rw [← hM_20] at hw
            have hR_21 : MGx G M_19 a va oa wa ya (some w_6) th rfd 1 re la ha kp kv qv qw fa fb V_5 O fy Wv (some ti_8) S := hR_4.obj hM_20 (by have e9 := hR_4.sc; omega) hR_4.wk'
            have h_22 := hIi_8.x5 (hR_4.obj5 hM_20)
            refine lv_iload hC.1 hC.2.1 dX5_set_69 (lv_at hl 0 rfl) ?_
            exact x_iret hC hw dX5_set_71 (by omega) (by omega) ⟨(V ((p0).toNat) ((p1).toNat)), _, _, rfl, by omega, rfl, hpv_1, by have e9 := inB_val ti_8 (p0).toNat; omega, hV_5, (xI5.tr ((hR.val5 (show ((p0).toNat) < 3 by omega) hM_3)) ((hR_4.obj5 hM_20))), hR_21⟩
      · refine x_const hC dX5_set_44 ?_
        refine lv_goto (tgt := 49) hC.1 hC.2.1 dX5_set_45 (by decide) ?_
        refine lv_iload_n hC.1 hC.2.1 dX5_set_49 rfl (lv_at hl 4 rfl) ?_
        refine x_sipush hC dX5_set_50 (by decide +kernel) ?_
        refine x_icmp_ne (tgt := 60) hC ⟨by omega, by omega⟩ ⟨by omega, by omega⟩ dX5_set_53 (by decide) (fun c_23 => ?_) (fun c_23 => ?_)
        · refine x_const hC dX5_set_60 ?_
          refine x_icmp_eq (tgt := 69) hC ⟨by omega, by omega⟩ ⟨by omega, by omega⟩ dX5_set_61 (by decide) (fun c_24 => ?_) (fun c_24 => ?_)
          · refine lv_iload hC.1 hC.2.1 dX5_set_69 (lv_at hl 0 rfl) ?_
            exact x_iret hC hw dX5_set_71 (by omega) (by omega) ⟨(V ((p0).toNat) ((p1).toNat)), _, _, rfl, by omega, rfl, hpv_1, by have e9 := inB_val ti_8 (p0).toNat; omega, hV_5, ((hR.val5 (show ((p0).toNat) < 3 by omega) hM_3)), hR_4⟩
          · refine lv_aload_n hC.1 hC.2.1 dX5_set_64 rfl (lv_at hl 1 rfl) ?_
            refine x_const hC dX5_set_65 ?_
            refine x_put (fs2 := [.int (iN (th)), .int rfd, .ref va, .ref oa, .ref wa, .ref ya, .ref w_6, .int (iN (1)), .int (iN (re)), .int (iN (la)), .int (iN (ha)), .int kp, .int kv]) hC hw hR_4.1.1 rfl hinX5 tyX5 tyX5_ok nmX5 7 (by decide) (by decide +kernel) rfl rfl rfl (Nat.le_of_ble_eq_true rfl) rfl dX5_set_66 (fun H locs hw => ?_)
            obtain ⟨M_25, hM_26⟩ : ∃ z, z = va_up M_2 a (some (.inr (7, [.int (iN (th)), .int rfd, .ref va, .ref oa, .ref wa, .ref ya, .ref w_6, .int (iN (1)), .int (iN (re)), .int (iN (la)), .int (iN (ha)), .int kp, .int kv]))) := ⟨_, rfl⟩
            rw [← hM_26] at hw
            have hR_27 : MGx G M_25 a va oa wa ya (some w_6) th rfd 1 re la ha kp kv qv qw fa fb V_5 O fy Wv (some ti_8) S := hR_4.obj hM_26 (by have e9 := hR_4.sc; omega) hR_4.wk'
            have h_28 := hIi_8.x5 (hR_4.obj5 hM_26)
            refine lv_iload hC.1 hC.2.1 dX5_set_69 (lv_at hl 0 rfl) ?_
            exact x_iret hC hw dX5_set_71 (by omega) (by omega) ⟨(V ((p0).toNat) ((p1).toNat)), _, _, rfl, by omega, rfl, hpv_1, by have e9 := inB_val ti_8 (p0).toNat; omega, hV_5, (xI5.tr ((hR.val5 (show ((p0).toNat) < 3 by omega) hM_3)) ((hR_4.obj5 hM_26))), hR_27⟩
        · refine x_const hC dX5_set_56 ?_
          refine lv_goto (tgt := 61) hC.1 hC.2.1 dX5_set_57 (by decide) ?_
          refine x_icmp_eq (tgt := 69) hC ⟨by omega, by omega⟩ ⟨by omega, by omega⟩ dX5_set_61 (by decide) (fun c_29 => ?_) (fun c_29 => ?_)
          · refine lv_iload hC.1 hC.2.1 dX5_set_69 (lv_at hl 0 rfl) ?_
            exact x_iret hC hw dX5_set_71 (by omega) (by omega) ⟨(V ((p0).toNat) ((p1).toNat)), _, _, rfl, by omega, rfl, hpv_1, by have e9 := inB_val ti_8 (p0).toNat; omega, hV_5, ((hR.val5 (show ((p0).toNat) < 3 by omega) hM_3)), hR_4⟩
          · refine lv_aload_n hC.1 hC.2.1 dX5_set_64 rfl (lv_at hl 1 rfl) ?_
            refine x_const hC dX5_set_65 ?_
            refine x_put (fs2 := [.int (iN (th)), .int rfd, .ref va, .ref oa, .ref wa, .ref ya, .ref w_6, .int (iN (1)), .int (iN (re)), .int (iN (la)), .int (iN (ha)), .int kp, .int kv]) hC hw hR_4.1.1 rfl hinX5 tyX5 tyX5_ok nmX5 7 (by decide) (by decide +kernel) rfl rfl rfl (Nat.le_of_ble_eq_true rfl) rfl dX5_set_66 (fun H locs hw => ?_)
            obtain ⟨M_30, hM_31⟩ : ∃ z, z = va_up M_2 a (some (.inr (7, [.int (iN (th)), .int rfd, .ref va, .ref oa, .ref wa, .ref ya, .ref w_6, .int (iN (1)), .int (iN (re)), .int (iN (la)), .int (iN (ha)), .int kp, .int kv]))) := ⟨_, rfl⟩
            rw [← hM_31] at hw
            have hR_32 : MGx G M_30 a va oa wa ya (some w_6) th rfd 1 re la ha kp kv qv qw fa fb V_5 O fy Wv (some ti_8) S := hR_4.obj hM_31 (by have e9 := hR_4.sc; omega) hR_4.wk'
            have h_33 := hIi_8.x5 (hR_4.obj5 hM_31)
            refine lv_iload hC.1 hC.2.1 dX5_set_69 (lv_at hl 0 rfl) ?_
            exact x_iret hC hw dX5_set_71 (by omega) (by omega) ⟨(V ((p0).toNat) ((p1).toNat)), _, _, rfl, by omega, rfl, hpv_1, by have e9 := inB_val ti_8 (p0).toNat; omega, hV_5, (xI5.tr ((hR.val5 (show ((p0).toNat) < 3 by omega) hM_3)) ((hR_4.obj5 hM_31))), hR_32⟩
set_option maxHeartbeats 4000000 in
set_option maxRecDepth 100000 in
theorem c_X5_strikeAll (l : Launch) (G : xG) {M : HM} {a va oa wa ya : Nat} {wk : Option Nat} {th : Int} {rfd : Int32} {br re la ha : Int} {kp kv : Int32} {qv qw : Nat → Nat} {fa fb : Nat → Option Nat} {V : BW} {O : OW} {fy : Nat → Option Nat} {Wv : VW} {wt : Option VT} {S : Nat → Bool} (hR : MGx G M a va oa wa ya wk th rfd br re la ha kp kv qv qw fa fb V O fy Wv wt S) {i : Nat} {fi : Nat → Int32} {ti : VT} (hIi : Its G M i fi ti) : xMet l G yX5_strikeAll wsX5_strikeAll 3 67 0 0 [.ref a, .ref i] M (fun r M1 => ∃ (z : Int) (br1 : Int) (V1 : BW), r = some (.int (iN z)) ∧ (0 ≤ z ∧ z ≤ 100) ∧ z = mnF O V ti 100 ∧ br1 = brL wt ti.b (V ti.b) (F_sa O V ti) 100 br ∧ V1 = upB V ti.b (mapN (V ti.b) (F_sa O V ti) 100) ∧ xI5 G M M1 ∧ MGx G M1 a va oa wa ya wk th rfd br1 re la ha kp kv qv qw fa fb V1 O fy Wv wt S) := by
  refine x_intro (cc := cX5_strikeAll) (maxL := 4) (ret := (some .int)) (by decide +kernel) rfl (Nat.le_of_ble_eq_true rfl) ?_
  intro p e R s m args below meth c ls hRf hRc hRs hRl hC hw hl
  have hsc0 := hR.sc
  obtain ⟨htat_1, htbt_1, htct_1, htdt_1, htet_1⟩ := id hIi.2.1
  have holi := hR.or' hIi.2.1.1
  have hl : lv_has ls 4 [(0, .ref a), (1, .ref i)] := hl
  refine x_const hC dX5_strikeAll_0 ?_
  refine lv_istore_n (lv' := [(2, .int (iN (0))), (0, .ref a), (1, .ref i)]) hC.1 hC.2.1 dX5_strikeAll_1 rfl hl (by decide) rfl (fun ls hl => ?_)
  refine x_const hC dX5_strikeAll_2 ?_
  refine lv_istore_n (lv' := [(3, .int (iN (0))), (2, .int (iN (0))), (0, .ref a), (1, .ref i)]) hC.1 hC.2.1 dX5_strikeAll_3 rfl hl (by decide) rfl (fun ls hl => ?_)
  suffices hloop4 : ∀ (n9 : Nat) (n : Int) (j : Int) (M1 : HM) (br1 : Int) (V1 : BW) (hR1 : MGx G M1 a va oa wa ya wk th rfd br1 re la ha kp kv qv qw fa fb V1 O fy Wv wt S) (hx1 : xI5 G M M1) (hV1 : V1 = upB V ti.b (mapN (V ti.b) (F_sa O V ti) (j).toNat)) (hbr1 : br1 = brL wt ti.b (V ti.b) (F_sa O V ti) (j).toNat br) (H : Heap) (locs : List Loc) (ls : Array Slot), (hmu : (100 - j).toNat < n9) → (hi0 : 0 ≤ j ∧ j ≤ 100) → (hi1 : 0 ≤ n ∧ n ≤ j) → (hcn : n = mnF O V ti j.toNat) → xD G (xA M s.heap.size) s M1 H locs → lv_has ls 4 [(0, .ref a), (1, .ref i), (2, .int (iN (n))), (3, .int (iN (j)))] → W p l e R s m args below meth c H locs _ _ _ (F0 m 4 ls []) by
    exact hloop4 _ 0 0 _ _ _ hR xI5.rf ml_0 bl_0 _ _ _ (Nat.lt_succ_self _) (by omega) (by omega) (rfl) hw (lv_sub hl [2, 3, 1, 0] rfl)
  intro n9
  induction n9 with
  | zero => intro n j M1 br1 V1 hR1 hx1 hV1 hbr1 H locs ls hmu; exact absurd hmu (Nat.not_lt_zero _)
  | succ n9 ih4 =>
    intro n j M1 br1 V1 hR1 hx1 hV1 hbr1 H locs ls hmu hi0 hi1 hcn hw hl
    have hvj : V1 ti.b (j).toNat = V ti.b (j).toNat := ml_at hV1
    have h_2 := hIi.x5 hx1
    have hsc1 := hR1.sc
    refine lv_iload_n hC.1 hC.2.1 dX5_strikeAll_4 rfl (lv_at hl 3 rfl) ?_
    refine x_bipush hC dX5_strikeAll_5 (by decide +kernel) ?_
    refine x_icmp_ge (tgt := 43) hC ⟨by omega, by omega⟩ ⟨by omega, by omega⟩ dX5_strikeAll_7 (by decide) (fun c_3 => ?_) (fun c_3 => ?_)
    · refine lv_iload_n hC.1 hC.2.1 dX5_strikeAll_43 rfl (lv_at hl 2 rfl) ?_
      exact x_iret hC hw dX5_strikeAll_44 (by omega) (by omega) ⟨n, _, _, rfl, by omega, by rw [show (100 : Nat) = (j).toNat by omega]; exact hcn, (by rw [show (100 : Nat) = (j).toNat by omega]; exact hbr1), (by rw [show (100 : Nat) = (j).toNat by omega]; exact hV1), hx1, hR1⟩
    · refine lv_aload_n hC.1 hC.2.1 dX5_strikeAll_10 rfl (lv_at hl 0 rfl) ?_
      refine lv_aload_n hC.1 hC.2.1 dX5_strikeAll_11 rfl (lv_at hl 1 rfl) ?_
      refine lv_iload_n hC.1 hC.2.1 dX5_strikeAll_12 rfl (lv_at hl 3 rfl) ?_
      refine x_callV hC hw (lv_size hl) (c_X5_shows l G hR1 h_2 (p0 := j) (by omega) (by omega)) gX5_strikeAll_X5_shows rfl dv_X5_shows hR1.1.1 rfl rfl (Nat.le_of_ble_eq_true rfl) (by rw [hRf]; decide) (by rw [hRl]; decide) (by omega) (by omega) dX5_strikeAll_13 (fun r9 M_4 H locs hq hw => ?_)
      obtain ⟨z_5, rfl, hM9, hz_5a, hz_5s, hz_5S⟩ := hq
      rw [hM9] at hw
      have hz_5i := shI_iff (O := O) (V := V1) (t := ti) (k := (j).toNat)
      show W p l e R s m args below meth c H locs _ _ _ (F0 m 16 ls [.int (iN (z_5))])
      refine x_if_ne (tgt := 22) hC ⟨by omega, by omega⟩ dX5_strikeAll_16 (by decide) (fun c_6 => ?_) (fun c_6 => ?_)
      · refine lv_aload_n hC.1 hC.2.1 dX5_strikeAll_22 rfl (lv_at hl 0 rfl) ?_
        refine lv_aload_n hC.1 hC.2.1 dX5_strikeAll_23 rfl (lv_at hl 1 rfl) ?_
        refine x_const hC dX5_strikeAll_24 ?_
        refine x_ialdE (x := ((ti.b : Nat) : Int)) hC hw h_2.1 (by omega) (by omega) (by omega) dX5_strikeAll_25 h_2.2.2.1 ?_
        refine lv_iload_n hC.1 hC.2.1 dX5_strikeAll_26 rfl (lv_at hl 3 rfl) ?_
        refine x_sipush hC dX5_strikeAll_27 (by decide +kernel) ?_
        refine x_callV hC hw (lv_size hl) (c_X5_set l G hR1 (p0 := ((ti.b : Nat) : Int)) (by omega) (p1 := j) (by omega) (p2 := (-10000)) (by omega) (by omega) (by omega) (by omega) (fun q9 => absurd rfl q9)) gX5_strikeAll_X5_set rfl dv_X5_set hR1.1.1 rfl rfl (Nat.le_of_ble_eq_true rfl) (by rw [hRf]; decide) (by rw [hRl]; decide) (by omega) (by omega) dX5_strikeAll_30 (fun r9 M_7 H locs hq hw => ?_)
        simp only [Int.toNat_natCast] at hq
        obtain ⟨z_9, brk_8, Vk_8, rfl, hz_9a, hz_9v, hz_9b, he0k_8, he1k_8, hx5k_8, hRk_8⟩ := hq
        have h_10 := h_2.x5 hx5k_8
        have hsck_8 := hRk_8.sc
        show W p l e R s m args below meth c H locs _ _ _ (F0 m 33 ls [.int (iN (z_9))])
        refine lv_pop hC.1 hC.2.1 dX5_strikeAll_33 rfl ?_
        refine x_iinc (lv' := [(2, .int (iN (n + 1))), (0, .ref a), (1, .ref i), (3, .int (iN (j)))]) hC dX5_strikeAll_34 hl (k := 2) rfl (by decide) rfl (fun ls hl => ?_)
        refine x_iinc (lv' := [(3, .int (iN (j + 1))), (2, .int (iN (n + 1))), (0, .ref a), (1, .ref i)]) hC dX5_strikeAll_37 hl (k := 3) rfl (by decide) rfl (fun ls hl => ?_)
        refine lv_goto (tgt := 4) hC.1 hC.2.1 dX5_strikeAll_40 (by decide) ?_
        exact ih4 (n + 1) (j + 1) _ _ _ hRk_8 (xI5.tr hx1 (hx5k_8)) (ml_set (by omega) hV1 he1k_8 (show (-10000) = (F_sa O V ti) (j).toNat by have e7 := shI_b (O := O) (V := V) (V2 := V1) (t := ti) (k := (j).toNat) hvj; simp only [F_sa]; rw [if_pos (shI_t (show shI O V ti (j).toNat = 1 by omega))])) (bl_set (by omega) hV1 hbr1 (show (-10000) = (F_sa O V ti) (j).toNat by have e7 := shI_b (O := O) (V := V) (V2 := V1) (t := ti) (k := (j).toNat) hvj; simp only [F_sa]; rw [if_pos (shI_t (show shI O V ti (j).toNat = 1 by omega))]) he0k_8) _ _ _ (by omega) (by omega) (by omega) (by have e7 := shI_b (O := O) (V := V) (V2 := V1) (t := ti) (k := (j).toNat) hvj; rw [mnF_s (by omega) rfl]; omega) hw (lv_sub hl [2, 3, 1, 0] rfl)
      · refine lv_goto (tgt := 37) hC.1 hC.2.1 dX5_strikeAll_19 (by decide) ?_
        refine x_iinc (lv' := [(3, .int (iN (j + 1))), (0, .ref a), (1, .ref i), (2, .int (iN (n)))]) hC dX5_strikeAll_37 hl (k := 3) rfl (by decide) rfl (fun ls hl => ?_)
        refine lv_goto (tgt := 4) hC.1 hC.2.1 dX5_strikeAll_40 (by decide) ?_
        exact ih4 n (j + 1) _ _ _ hR1 hx1 (ml_skip (by omega) hV1 (show (F_sa O V ti) (j).toNat = V ti.b (j).toNat by have e7 := shI_b (O := O) (V := V) (V2 := V1) (t := ti) (k := (j).toNat) hvj; simp only [F_sa]; rw [if_neg (shI_f (show shI O V ti (j).toNat ≠ 1 by omega))])) (bl_skip (by omega) hbr1 (show (F_sa O V ti) (j).toNat = V ti.b (j).toNat by have e7 := shI_b (O := O) (V := V) (V2 := V1) (t := ti) (k := (j).toNat) hvj; simp only [F_sa]; rw [if_neg (shI_f (show shI O V ti (j).toNat ≠ 1 by omega))])) _ _ _ (by omega) (by omega) (by omega) (by have e7 := shI_b (O := O) (V := V) (V2 := V1) (t := ti) (k := (j).toNat) hvj; rw [mnF_s (by omega) rfl]; omega) hw (lv_sub hl [1, 2, 3, 0] rfl)
set_option maxHeartbeats 4000000 in
set_option maxRecDepth 100000 in
theorem c_X5_mergeOf (l : Launch) (G : xG) {M : HM} {a va oa wa ya : Nat} {wk : Option Nat} {th : Int} {rfd : Int32} {br re la ha : Int} {kp kv : Int32} {qv qw : Nat → Nat} {fa fb : Nat → Option Nat} {V : BW} {O : OW} {fy : Nat → Option Nat} {Wv : VW} {wt : Option VT} {S : Nat → Bool} (hR : MGx G M a va oa wa ya wk th rfd br re la ha kp kv qv qw fa fb V O fy Wv wt S) {p0 : Int} (hp0 : -2147483648 ≤ p0 ∧ p0 ≤ 2147483647) {p1 : Int} (hp1 : -2147483648 ≤ p1 ∧ p1 ≤ 2147483647) {p2 : Int} (hp2 : -2147483648 ≤ p2 ∧ p2 ≤ 2147483647) (hob : 0 ≤ p0 ∧ p0 ≤ 2) (hok : 0 ≤ p1 ∧ p1 ≤ 99) (hov : -9999 ≤ p2 ∧ p2 ≤ 9999) (hsk : S p1.toNat = true) : xMet l G yX5_mergeOf wsX5_mergeOf 1 24 0 0 [.ref a, .int (iN (p0)), .int (iN (p1)), .int (iN (p2))] M (fun r M1 => ∃ (z : Int) (br1 : Int) (V1 : BW), r = some (.int (iN z)) ∧ (-10000 ≤ z ∧ z ≤ 9999) ∧ z = mgN (V p0.toNat p1.toNat) p2 ∧ br1 = (if inB wt p0.toNat = 1 ∧ ¬ (V p0.toNat p1.toNat = -10000 ↔ mgN (V p0.toNat p1.toNat) p2 = -10000) then 1 else br) ∧ V1 = upB V p0.toNat (upV (V p0.toNat) p1.toNat (mgN (V p0.toNat p1.toNat) p2)) ∧ xI5 G M M1 ∧ MGx G M1 a va oa wa ya wk th rfd br1 re la ha kp kv qv qw fa fb V1 O fy Wv wt S) := by
  refine x_intro (cc := cX5_mergeOf) (maxL := 6) (ret := (some .int)) (by decide +kernel) rfl (Nat.le_of_ble_eq_true rfl) ?_
  intro p e R s m args below meth c ls hRf hRc hRs hRl hC hw hl
  have hsc0 := hR.sc
  have hinX5 : ∀ w ∈ wsX50, w ∈ wsX5_mergeOf := by decide +kernel
  have hl : lv_has ls 6 [(0, .ref a), (1, .int (iN (p0))), (2, .int (iN (p1))), (3, .int (iN (p2)))] := hl
  refine lv_aload_n hC.1 hC.2.1 dX5_mergeOf_0 rfl (lv_at hl 0 rfl) ?_
  refine x_get hC hw hR.1.1 rfl hinX5 2 (by decide) (by decide +kernel) rfl dX5_mergeOf_1 ?_
  refine lv_iload_n hC.1 hC.2.1 dX5_mergeOf_4 rfl (lv_at hl 1 rfl) ?_
  refine x_ald4 hC hw hR.1.2.1 (by omega) (by omega) (by omega) dX5_mergeOf_5 ?_
  rw [hR.fa' (show (p0).toNat < 3 by omega)]
  show W p l e R s m args below meth c _ _ _ _ _ (F0 m 6 ls [.ref (qv ((p0).toNat))])
  refine lv_iload_n hC.1 hC.2.1 dX5_mergeOf_6 rfl (lv_at hl 2 rfl) ?_
  refine x_ialdE (x := (V ((p0).toNat) ((p1).toNat))) hC hw (hR.rv (show ((p0).toNat) < 3 by omega)) (by omega) (by omega) (by omega) dX5_mergeOf_7 rfl ?_
  have hrv_1 := hR.vr (show ((p0).toNat) < 3 by omega) (show (p1).toNat < 100 by omega)
  have hpv_1 := hR.vs (show ((p0).toNat) < 3 by omega) (show (p1).toNat < 100 by omega)
  refine lv_istore (lv' := [(4, .int (iN ((V ((p0).toNat) ((p1).toNat))))), (0, .ref a), (1, .int (iN (p0))), (2, .int (iN (p1))), (3, .int (iN (p2)))]) hC.1 hC.2.1 dX5_mergeOf_8 hl (by decide) rfl (fun ls hl => ?_)
  refine lv_iload hC.1 hC.2.1 dX5_mergeOf_10 (lv_at hl 0 rfl) ?_
  refine x_sipush hC dX5_mergeOf_12 (by decide +kernel) ?_
  refine x_icmp_ne (tgt := 22) hC ⟨by omega, by omega⟩ ⟨by omega, by omega⟩ dX5_mergeOf_15 (by decide) (fun c_2 => ?_) (fun c_2 => ?_)
  · refine lv_iload hC.1 hC.2.1 dX5_mergeOf_22 (lv_at hl 0 rfl) ?_
    refine lv_iload_n hC.1 hC.2.1 dX5_mergeOf_24 rfl (lv_at hl 4 rfl) ?_
    refine x_iadd hC dX5_mergeOf_25 ?_
    refine x_callS hC hw (lv_size hl) (c_X5_held l G (M := M) (p0 := ((V ((p0).toNat) ((p1).toNat)) + p2)) (by omega)) gX5_mergeOf_X5_held rfl dv_X5_held_s rfl (Nat.le_of_ble_eq_true rfl) (by rw [hRf]; decide) (by rw [hRl]; decide) (by omega) (by omega) dX5_mergeOf_26 (fun r9 M_3 H locs hq hw => ?_)
    obtain ⟨z_4, rfl, hM9, hz_4a, hz_4d⟩ := hq
    rw [hM9] at hw
    show W p l e R s m args below meth c H locs _ _ _ (F0 m 29 ls [.int (iN (z_4))])
    refine lv_istore (lv' := [(5, .int (iN (z_4))), (4, .int (iN ((V ((p0).toNat) ((p1).toNat))))), (0, .ref a), (1, .int (iN (p0))), (2, .int (iN (p1))), (3, .int (iN (p2)))]) hC.1 hC.2.1 dX5_mergeOf_29 hl (by decide) rfl (fun ls hl => ?_)
    refine lv_iload hC.1 hC.2.1 dX5_mergeOf_31 (lv_at hl 1 rfl) ?_
    refine x_sipush hC dX5_mergeOf_33 (by decide +kernel) ?_
    refine x_icmp_eq (tgt := 49) hC ⟨by omega, by omega⟩ ⟨by omega, by omega⟩ dX5_mergeOf_36 (by decide) (fun c_5 => ?_) (fun c_5 => ?_)
    · refine lv_aload_n hC.1 hC.2.1 dX5_mergeOf_49 rfl (lv_at hl 2 rfl) ?_
      refine lv_iload_n hC.1 hC.2.1 dX5_mergeOf_50 rfl (lv_at hl 3 rfl) ?_
      refine lv_iload_n hC.1 hC.2.1 dX5_mergeOf_51 rfl (lv_at hl 4 rfl) ?_
      refine lv_iload hC.1 hC.2.1 dX5_mergeOf_52 (lv_at hl 0 rfl) ?_
      refine x_callV hC hw (lv_size hl) (c_X5_set l G hR (p0 := p0) (by omega) (p1 := p1) (by omega) (p2 := z_4) (by omega) (by omega) (by omega) (by omega) (by intro q9; first | exact absurd rfl q9 | assumption | exact hpv_1 q9 | exact hpv_1 (by omega))) gX5_mergeOf_X5_set rfl dv_X5_set hR.1.1 rfl rfl (Nat.le_of_ble_eq_true rfl) (by rw [hRf]; decide) (by rw [hRl]; decide) (by omega) (by omega) dX5_mergeOf_54 (fun r9 M_6 H locs hq hw => ?_)
      obtain ⟨z_8, brk_7, Vk_7, rfl, hz_8a, hz_8v, hz_8b, he0k_7, he1k_7, hx5k_7, hRk_7⟩ := hq
      have hsck_7 := hRk_7.sc
      show W p l e R s m args below meth c H locs _ _ _ (F0 m 57 ls [.int (iN (z_8))])
      refine lv_pop hC.1 hC.2.1 dX5_mergeOf_57 rfl ?_
      refine lv_iload hC.1 hC.2.1 dX5_mergeOf_58 (lv_at hl 0 rfl) ?_
      exact x_iret hC hw dX5_mergeOf_60 (by omega) (by omega) ⟨z_4, _, _, rfl, by omega, ((show mgN (V (p0).toNat (p1).toNat) p2 = z_4 by have e9 := bdN_eq hz_4d; simp only [mgN]; rw [if_neg (by omega), e9]; first | (rw [if_pos (by omega)]; done) | (rw [if_neg (by omega)]; done))).symm, (by rw [(show mgN (V (p0).toNat (p1).toNat) p2 = z_4 by have e9 := bdN_eq hz_4d; simp only [mgN]; rw [if_neg (by omega), e9]; first | (rw [if_pos (by omega)]; done) | (rw [if_neg (by omega)]; done))]; exact he0k_7), (by rw [(show mgN (V (p0).toNat (p1).toNat) p2 = z_4 by have e9 := bdN_eq hz_4d; simp only [mgN]; rw [if_neg (by omega), e9]; first | (rw [if_pos (by omega)]; done) | (rw [if_neg (by omega)]; done))]; exact he1k_7), (hx5k_7), hRk_7⟩
    · refine lv_iload hC.1 hC.2.1 dX5_mergeOf_39 (lv_at hl 0 rfl) ?_
      refine x_if_ne (tgt := 49) hC ⟨by omega, by omega⟩ dX5_mergeOf_41 (by decide) (fun c_9 => ?_) (fun c_9 => ?_)
      · refine lv_aload_n hC.1 hC.2.1 dX5_mergeOf_49 rfl (lv_at hl 2 rfl) ?_
        refine lv_iload_n hC.1 hC.2.1 dX5_mergeOf_50 rfl (lv_at hl 3 rfl) ?_
        refine lv_iload_n hC.1 hC.2.1 dX5_mergeOf_51 rfl (lv_at hl 4 rfl) ?_
        refine lv_iload hC.1 hC.2.1 dX5_mergeOf_52 (lv_at hl 0 rfl) ?_
        refine x_callV hC hw (lv_size hl) (c_X5_set l G hR (p0 := p0) (by omega) (p1 := p1) (by omega) (p2 := z_4) (by omega) (by omega) (by omega) (by omega) (by intro q9; first | exact absurd rfl q9 | assumption | exact hpv_1 q9 | exact hpv_1 (by omega))) gX5_mergeOf_X5_set rfl dv_X5_set hR.1.1 rfl rfl (Nat.le_of_ble_eq_true rfl) (by rw [hRf]; decide) (by rw [hRl]; decide) (by omega) (by omega) dX5_mergeOf_54 (fun r9 M_10 H locs hq hw => ?_)
        obtain ⟨z_12, brk_11, Vk_11, rfl, hz_12a, hz_12v, hz_12b, he0k_11, he1k_11, hx5k_11, hRk_11⟩ := hq
        have hsck_11 := hRk_11.sc
        show W p l e R s m args below meth c H locs _ _ _ (F0 m 57 ls [.int (iN (z_12))])
        refine lv_pop hC.1 hC.2.1 dX5_mergeOf_57 rfl ?_
        refine lv_iload hC.1 hC.2.1 dX5_mergeOf_58 (lv_at hl 0 rfl) ?_
        exact x_iret hC hw dX5_mergeOf_60 (by omega) (by omega) ⟨z_4, _, _, rfl, by omega, ((show mgN (V (p0).toNat (p1).toNat) p2 = z_4 by have e9 := bdN_eq hz_4d; simp only [mgN]; rw [if_neg (by omega), e9]; first | (rw [if_pos (by omega)]; done) | (rw [if_neg (by omega)]; done))).symm, (by rw [(show mgN (V (p0).toNat (p1).toNat) p2 = z_4 by have e9 := bdN_eq hz_4d; simp only [mgN]; rw [if_neg (by omega), e9]; first | (rw [if_pos (by omega)]; done) | (rw [if_neg (by omega)]; done))]; exact he0k_11), (by rw [(show mgN (V (p0).toNat (p1).toNat) p2 = z_4 by have e9 := bdN_eq hz_4d; simp only [mgN]; rw [if_neg (by omega), e9]; first | (rw [if_pos (by omega)]; done) | (rw [if_neg (by omega)]; done))]; exact he1k_11), (hx5k_11), hRk_11⟩
      · refine x_sipush hC dX5_mergeOf_44 (by decide +kernel) ?_
        refine lv_istore (lv' := [(5, .int (iN ((-10000)))), (4, .int (iN ((V ((p0).toNat) ((p1).toNat))))), (0, .ref a), (1, .int (iN (p0))), (2, .int (iN (p1))), (3, .int (iN (p2)))]) hC.1 hC.2.1 dX5_mergeOf_47 hl (by decide) rfl (fun ls hl => ?_)
        refine lv_aload_n hC.1 hC.2.1 dX5_mergeOf_49 rfl (lv_at hl 2 rfl) ?_
        refine lv_iload_n hC.1 hC.2.1 dX5_mergeOf_50 rfl (lv_at hl 3 rfl) ?_
        refine lv_iload_n hC.1 hC.2.1 dX5_mergeOf_51 rfl (lv_at hl 4 rfl) ?_
        refine lv_iload hC.1 hC.2.1 dX5_mergeOf_52 (lv_at hl 0 rfl) ?_
        refine x_callV hC hw (lv_size hl) (c_X5_set l G hR (p0 := p0) (by omega) (p1 := p1) (by omega) (p2 := (-10000)) (by omega) (by omega) (by omega) (by omega) (fun q9 => absurd rfl q9)) gX5_mergeOf_X5_set rfl dv_X5_set hR.1.1 rfl rfl (Nat.le_of_ble_eq_true rfl) (by rw [hRf]; decide) (by rw [hRl]; decide) (by omega) (by omega) dX5_mergeOf_54 (fun r9 M_13 H locs hq hw => ?_)
        obtain ⟨z_15, brk_14, Vk_14, rfl, hz_15a, hz_15v, hz_15b, he0k_14, he1k_14, hx5k_14, hRk_14⟩ := hq
        have hsck_14 := hRk_14.sc
        show W p l e R s m args below meth c H locs _ _ _ (F0 m 57 ls [.int (iN (z_15))])
        refine lv_pop hC.1 hC.2.1 dX5_mergeOf_57 rfl ?_
        refine lv_iload hC.1 hC.2.1 dX5_mergeOf_58 (lv_at hl 0 rfl) ?_
        exact x_iret hC hw dX5_mergeOf_60 (by omega) (by omega) ⟨(-10000), _, _, rfl, by omega, ((show mgN (V (p0).toNat (p1).toNat) p2 = (-10000) by have e9 := bdN_eq hz_4d; simp only [mgN]; rw [if_neg (by omega), e9]; first | (rw [if_pos (by omega)]; done) | (rw [if_neg (by omega)]; done))).symm, (by rw [(show mgN (V (p0).toNat (p1).toNat) p2 = (-10000) by have e9 := bdN_eq hz_4d; simp only [mgN]; rw [if_neg (by omega), e9]; first | (rw [if_pos (by omega)]; done) | (rw [if_neg (by omega)]; done))]; exact he0k_14), (by rw [(show mgN (V (p0).toNat (p1).toNat) p2 = (-10000) by have e9 := bdN_eq hz_4d; simp only [mgN]; rw [if_neg (by omega), e9]; first | (rw [if_pos (by omega)]; done) | (rw [if_neg (by omega)]; done))]; exact he1k_14), (hx5k_14), hRk_14⟩
  · refine lv_iload_n hC.1 hC.2.1 dX5_mergeOf_18 rfl (lv_at hl 4 rfl) ?_
    refine lv_goto (tgt := 29) hC.1 hC.2.1 dX5_mergeOf_19 (by decide) ?_
    refine lv_istore (lv' := [(5, .int (iN (p2))), (4, .int (iN ((V ((p0).toNat) ((p1).toNat))))), (0, .ref a), (1, .int (iN (p0))), (2, .int (iN (p1))), (3, .int (iN (p2)))]) hC.1 hC.2.1 dX5_mergeOf_29 hl (by decide) rfl (fun ls hl => ?_)
    refine lv_iload hC.1 hC.2.1 dX5_mergeOf_31 (lv_at hl 1 rfl) ?_
    refine x_sipush hC dX5_mergeOf_33 (by decide +kernel) ?_
    refine x_icmp_eq (tgt := 49) hC ⟨by omega, by omega⟩ ⟨by omega, by omega⟩ dX5_mergeOf_36 (by decide) (fun c_16 => ?_) (fun c_16 => ?_)
    · refine lv_aload_n hC.1 hC.2.1 dX5_mergeOf_49 rfl (lv_at hl 2 rfl) ?_
      refine lv_iload_n hC.1 hC.2.1 dX5_mergeOf_50 rfl (lv_at hl 3 rfl) ?_
      refine lv_iload_n hC.1 hC.2.1 dX5_mergeOf_51 rfl (lv_at hl 4 rfl) ?_
      refine lv_iload hC.1 hC.2.1 dX5_mergeOf_52 (lv_at hl 0 rfl) ?_
      refine x_callV hC hw (lv_size hl) (c_X5_set l G hR (p0 := p0) (by omega) (p1 := p1) (by omega) (p2 := p2) (by omega) (by omega) (by omega) (by omega) (by intro q9; first | exact absurd rfl q9 | assumption | exact hpv_1 q9 | exact hpv_1 (by omega))) gX5_mergeOf_X5_set rfl dv_X5_set hR.1.1 rfl rfl (Nat.le_of_ble_eq_true rfl) (by rw [hRf]; decide) (by rw [hRl]; decide) (by omega) (by omega) dX5_mergeOf_54 (fun r9 M_17 H locs hq hw => ?_)
      obtain ⟨z_19, brk_18, Vk_18, rfl, hz_19a, hz_19v, hz_19b, he0k_18, he1k_18, hx5k_18, hRk_18⟩ := hq
      have hsck_18 := hRk_18.sc
      show W p l e R s m args below meth c H locs _ _ _ (F0 m 57 ls [.int (iN (z_19))])
      refine lv_pop hC.1 hC.2.1 dX5_mergeOf_57 rfl ?_
      refine lv_iload hC.1 hC.2.1 dX5_mergeOf_58 (lv_at hl 0 rfl) ?_
      exact x_iret hC hw dX5_mergeOf_60 (by omega) (by omega) ⟨p2, _, _, rfl, by omega, ((show mgN (V (p0).toNat (p1).toNat) p2 = p2 by simp only [mgN]; rw [if_pos (by omega)])).symm, (by rw [(show mgN (V (p0).toNat (p1).toNat) p2 = p2 by simp only [mgN]; rw [if_pos (by omega)])]; exact he0k_18), (by rw [(show mgN (V (p0).toNat (p1).toNat) p2 = p2 by simp only [mgN]; rw [if_pos (by omega)])]; exact he1k_18), (hx5k_18), hRk_18⟩
    · refine lv_iload hC.1 hC.2.1 dX5_mergeOf_39 (lv_at hl 0 rfl) ?_
      refine x_if_ne (tgt := 49) hC ⟨by omega, by omega⟩ dX5_mergeOf_41 (by decide) (fun c_20 => ?_) (fun c_20 => ?_)
      · refine lv_aload_n hC.1 hC.2.1 dX5_mergeOf_49 rfl (lv_at hl 2 rfl) ?_
        refine lv_iload_n hC.1 hC.2.1 dX5_mergeOf_50 rfl (lv_at hl 3 rfl) ?_
        refine lv_iload_n hC.1 hC.2.1 dX5_mergeOf_51 rfl (lv_at hl 4 rfl) ?_
        refine lv_iload hC.1 hC.2.1 dX5_mergeOf_52 (lv_at hl 0 rfl) ?_
        refine x_callV hC hw (lv_size hl) (c_X5_set l G hR (p0 := p0) (by omega) (p1 := p1) (by omega) (p2 := p2) (by omega) (by omega) (by omega) (by omega) (by intro q9; first | exact absurd rfl q9 | assumption | exact hpv_1 q9 | exact hpv_1 (by omega))) gX5_mergeOf_X5_set rfl dv_X5_set hR.1.1 rfl rfl (Nat.le_of_ble_eq_true rfl) (by rw [hRf]; decide) (by rw [hRl]; decide) (by omega) (by omega) dX5_mergeOf_54 (fun r9 M_21 H locs hq hw => ?_)
        obtain ⟨z_23, brk_22, Vk_22, rfl, hz_23a, hz_23v, hz_23b, he0k_22, he1k_22, hx5k_22, hRk_22⟩ := hq
        have hsck_22 := hRk_22.sc
        show W p l e R s m args below meth c H locs _ _ _ (F0 m 57 ls [.int (iN (z_23))])
        refine lv_pop hC.1 hC.2.1 dX5_mergeOf_57 rfl ?_
        refine lv_iload hC.1 hC.2.1 dX5_mergeOf_58 (lv_at hl 0 rfl) ?_
        exact x_iret hC hw dX5_mergeOf_60 (by omega) (by omega) ⟨p2, _, _, rfl, by omega, ((show mgN (V (p0).toNat (p1).toNat) p2 = p2 by simp only [mgN]; rw [if_pos (by omega)])).symm, (by rw [(show mgN (V (p0).toNat (p1).toNat) p2 = p2 by simp only [mgN]; rw [if_pos (by omega)])]; exact he0k_22), (by rw [(show mgN (V (p0).toNat (p1).toNat) p2 = p2 by simp only [mgN]; rw [if_pos (by omega)])]; exact he1k_22), (hx5k_22), hRk_22⟩
      · refine x_sipush hC dX5_mergeOf_44 (by decide +kernel) ?_
        refine lv_istore (lv' := [(5, .int (iN ((-10000)))), (4, .int (iN ((V ((p0).toNat) ((p1).toNat))))), (0, .ref a), (1, .int (iN (p0))), (2, .int (iN (p1))), (3, .int (iN (p2)))]) hC.1 hC.2.1 dX5_mergeOf_47 hl (by decide) rfl (fun ls hl => ?_)
        refine lv_aload_n hC.1 hC.2.1 dX5_mergeOf_49 rfl (lv_at hl 2 rfl) ?_
        refine lv_iload_n hC.1 hC.2.1 dX5_mergeOf_50 rfl (lv_at hl 3 rfl) ?_
        refine lv_iload_n hC.1 hC.2.1 dX5_mergeOf_51 rfl (lv_at hl 4 rfl) ?_
        refine lv_iload hC.1 hC.2.1 dX5_mergeOf_52 (lv_at hl 0 rfl) ?_
        refine x_callV hC hw (lv_size hl) (c_X5_set l G hR (p0 := p0) (by omega) (p1 := p1) (by omega) (p2 := (-10000)) (by omega) (by omega) (by omega) (by omega) (fun q9 => absurd rfl q9)) gX5_mergeOf_X5_set rfl dv_X5_set hR.1.1 rfl rfl (Nat.le_of_ble_eq_true rfl) (by rw [hRf]; decide) (by rw [hRl]; decide) (by omega) (by omega) dX5_mergeOf_54 (fun r9 M_24 H locs hq hw => ?_)
        obtain ⟨z_26, brk_25, Vk_25, rfl, hz_26a, hz_26v, hz_26b, he0k_25, he1k_25, hx5k_25, hRk_25⟩ := hq
        have hsck_25 := hRk_25.sc
        show W p l e R s m args below meth c H locs _ _ _ (F0 m 57 ls [.int (iN (z_26))])
        refine lv_pop hC.1 hC.2.1 dX5_mergeOf_57 rfl ?_
        refine lv_iload hC.1 hC.2.1 dX5_mergeOf_58 (lv_at hl 0 rfl) ?_
        exact x_iret hC hw dX5_mergeOf_60 (by omega) (by omega) ⟨(-10000), _, _, rfl, by omega, ((show mgN (V (p0).toNat (p1).toNat) p2 = (-10000) by simp only [mgN]; rw [if_pos (by omega)])).symm, (by rw [(show mgN (V (p0).toNat (p1).toNat) p2 = (-10000) by simp only [mgN]; rw [if_pos (by omega)])]; exact he0k_25), (by rw [(show mgN (V (p0).toNat (p1).toNat) p2 = (-10000) by simp only [mgN]; rw [if_pos (by omega)])]; exact he1k_25), (hx5k_25), hRk_25⟩
set_option maxHeartbeats 4000000 in
set_option maxRecDepth 100000 in
theorem c_X5_put (l : Launch) (G : xG) {M : HM} {a va oa wa ya : Nat} {wk : Option Nat} {th : Int} {rfd : Int32} {br re la ha : Int} {kp kv : Int32} {qv qw : Nat → Nat} {fa fb : Nat → Option Nat} {V : BW} {O : OW} {fy : Nat → Option Nat} {Wv : VW} {wt : Option VT} {S : Nat → Bool} (hR : MGx G M a va oa wa ya wk th rfd br re la ha kp kv qv qw fa fb V O fy Wv wt S) {K : WA} (hK : abM O wt br re la ha K) {p0 : Int} (hp0 : -2147483648 ≤ p0 ∧ p0 ≤ 2147483647) {p1 : Int} (hp1 : -2147483648 ≤ p1 ∧ p1 ≤ 2147483647) {p2 : Int} (hp2 : -2147483648 ≤ p2 ∧ p2 ≤ 2147483647) (hSk : 0 ≤ p1 ∧ p1 ≤ 99 → S p1.toNat = true) : xMet l G yX5_put wsX5_put 3 67 0 0 [.ref a, .int (iN (p0)), .int (iN (p1)), .int (iN (p2))] M (fun r M1 => ∃ (z th1 : Int), r = some (.int (iN z)) ∧ (-2147483648 ≤ z ∧ z ≤ 2147483647) ∧ ((th1 = 0 ∧ ((0 ≤ p0 ∧ p0 ≤ 2) ∧ ((0 ≤ p1 ∧ p1 ≤ 99) ∧ (-9999 ≤ p2 ∧ p2 ≤ 9999))) ∧ z = A_put (O, V, Wv, K, kp, kv, rfd) p0 p1 p2 ∧ MGm G M1 a S th1 (S_put (O, V, Wv, K, kp, kv, rfd) p0 p1 p2)) ∨ (th1 ≠ 0 ∧ ((th1 = 1 ∧ ¬ (0 ≤ p0 ∧ p0 ≤ 2)) ∨ (th1 = 2 ∧ (0 ≤ p0 ∧ p0 ≤ 2) ∧ ¬ ((0 ≤ p1 ∧ p1 ≤ 99) ∧ (-9999 ≤ p2 ∧ p2 ≤ 9999)))) ∧ MGm G M1 a S th1 (O, V, Wv, K, kp, kv, rfd)))) := by
  refine x_intro (cc := cX5_put) (maxL := 4) (ret := (some .int)) (by decide +kernel) rfl (Nat.le_of_ble_eq_true rfl) ?_
  intro p e R s m args below meth c ls hRf hRc hRs hRl hC hw hl
  have hsc0 := hR.sc
  have hl : lv_has ls 4 [(0, .ref a), (1, .int (iN (p0))), (2, .int (iN (p1))), (3, .int (iN (p2)))] := hl
  refine lv_aload_n hC.1 hC.2.1 dX5_put_0 rfl (lv_at hl 0 rfl) ?_
  refine lv_iload_n hC.1 hC.2.1 dX5_put_1 rfl (lv_at hl 1 rfl) ?_
  refine lv_iload_n hC.1 hC.2.1 dX5_put_2 rfl (lv_at hl 2 rfl) ?_
  refine lv_iload_n hC.1 hC.2.1 dX5_put_3 rfl (lv_at hl 3 rfl) ?_
  refine x_callV hC hw (lv_size hl) (c_X5_isBad_ l G hR (p0 := p0) (by omega) (p1 := p1) (by omega) (p2 := p2) (by omega)) gX5_put_X5_isBad_ rfl dv_X5_isBad_ hR.1.1 rfl rfl (Nat.le_of_ble_eq_true rfl) (by rw [hRf]; decide) (by rw [hRl]; decide) (by omega) (by omega) dX5_put_4 (fun r9 M_1 H locs hq hw => ?_)
  obtain ⟨z_3, thk_2, rfl, hz_3a, hz_3b, hz_3c0, hz_3c1, hz_3c2, hx5k_2, hRk_2⟩ := hq
  have hsck_2 := hRk_2.sc
  show W p l e R s m args below meth c H locs _ _ _ (F0 m 7 ls [.int (iN (z_3))])
  refine x_if_eq (tgt := 12) hC ⟨by omega, by omega⟩ dX5_put_7 (by decide) (fun c_4 => ?_) (fun c_4 => ?_)
  · refine lv_aload_n hC.1 hC.2.1 dX5_put_12 rfl (lv_at hl 0 rfl) ?_
    refine lv_iload_n hC.1 hC.2.1 dX5_put_13 rfl (lv_at hl 1 rfl) ?_
    refine x_callV hC hw (lv_size hl) (c_X5_touch l G hRk_2 (p0 := p0) (by omega) (by omega)) gX5_put_X5_touch rfl dv_X5_touch hRk_2.1.1 rfl rfl (Nat.le_of_ble_eq_true rfl) (by rw [hRf]; decide) (by rw [hRl]; decide) (by omega) (by omega) dX5_put_14 (fun r9 M_5 H locs hq hw => ?_)
    obtain ⟨hak_6, rfl, he0k_6, hx5k_6, hRk_6⟩ := hq
    have hsck_6 := hRk_6.sc
    show W p l e R s m args below meth c H locs _ _ _ (F0 m 17 ls [])
    refine lv_aload_n hC.1 hC.2.1 dX5_put_17 rfl (lv_at hl 0 rfl) ?_
    refine lv_iload_n hC.1 hC.2.1 dX5_put_18 rfl (lv_at hl 1 rfl) ?_
    refine lv_iload_n hC.1 hC.2.1 dX5_put_19 rfl (lv_at hl 2 rfl) ?_
    refine lv_iload_n hC.1 hC.2.1 dX5_put_20 rfl (lv_at hl 3 rfl) ?_
    refine x_callV hC hw (lv_size hl) (c_X5_set l G hRk_6 (p0 := p0) (by omega) (p1 := p1) (by omega) (p2 := p2) (by omega) (by omega) (by omega) (by omega) (by intro q9; first | exact absurd rfl q9 | assumption | exact hSk (by omega))) gX5_put_X5_set rfl dv_X5_set hRk_6.1.1 rfl rfl (Nat.le_of_ble_eq_true rfl) (by rw [hRf]; decide) (by rw [hRl]; decide) (by omega) (by omega) dX5_put_21 (fun r9 M_7 H locs hq hw => ?_)
    obtain ⟨z_9, brk_8, Vk_8, rfl, hz_9a, hz_9v, hz_9b, he0k_8, he1k_8, hx5k_8, hRk_8⟩ := hq
    have hsck_8 := hRk_8.sc
    show W p l e R s m args below meth c H locs _ _ _ (F0 m 24 ls [.int (iN (z_9))])
    exact x_iret hC hw dX5_put_24 (by omega) (by omega) ⟨z_9, _, rfl, by omega, Or.inl ⟨by omega, by first | trivial | omega, (show _ = (V (p0).toNat (p1).toNat) by first | rfl | omega | ((repeat' split) <;> first | rfl | omega)), (MGm.mut he1k_8 hRk_8 hK (bl_one (by omega) he0k_8) he0k_6 (congrArg (upV (V (p0).toNat) (p1).toNat) (show p2 = p2 by first | rfl | omega | ((repeat' split) <;> first | rfl | omega))))⟩⟩
  · refine x_const hC dX5_put_10 ?_
    exact x_iret hC hw dX5_put_11 (by omega) (by omega) ⟨0, _, rfl, by omega, Or.inr ⟨by omega, by omega, MGm.of hRk_2 hK⟩⟩
set_option maxHeartbeats 4000000 in
set_option maxRecDepth 100000 in
theorem c_X5_putAbsent (l : Launch) (G : xG) {M : HM} {a va oa wa ya : Nat} {wk : Option Nat} {th : Int} {rfd : Int32} {br re la ha : Int} {kp kv : Int32} {qv qw : Nat → Nat} {fa fb : Nat → Option Nat} {V : BW} {O : OW} {fy : Nat → Option Nat} {Wv : VW} {wt : Option VT} {S : Nat → Bool} (hR : MGx G M a va oa wa ya wk th rfd br re la ha kp kv qv qw fa fb V O fy Wv wt S) {K : WA} (hK : abM O wt br re la ha K) {p0 : Int} (hp0 : -2147483648 ≤ p0 ∧ p0 ≤ 2147483647) {p1 : Int} (hp1 : -2147483648 ≤ p1 ∧ p1 ≤ 2147483647) {p2 : Int} (hp2 : -2147483648 ≤ p2 ∧ p2 ≤ 2147483647) (hSk : 0 ≤ p1 ∧ p1 ≤ 99 → S p1.toNat = true) : xMet l G yX5_putAbsent wsX5_putAbsent 3 67 0 0 [.ref a, .int (iN (p0)), .int (iN (p1)), .int (iN (p2))] M (fun r M1 => ∃ (z th1 : Int), r = some (.int (iN z)) ∧ (-2147483648 ≤ z ∧ z ≤ 2147483647) ∧ ((th1 = 0 ∧ ((0 ≤ p0 ∧ p0 ≤ 2) ∧ ((0 ≤ p1 ∧ p1 ≤ 99) ∧ (-9999 ≤ p2 ∧ p2 ≤ 9999))) ∧ z = A_putAbsent (O, V, Wv, K, kp, kv, rfd) p0 p1 p2 ∧ MGm G M1 a S th1 (S_putAbsent (O, V, Wv, K, kp, kv, rfd) p0 p1 p2)) ∨ (th1 ≠ 0 ∧ ((th1 = 1 ∧ ¬ (0 ≤ p0 ∧ p0 ≤ 2)) ∨ (th1 = 2 ∧ (0 ≤ p0 ∧ p0 ≤ 2) ∧ ¬ ((0 ≤ p1 ∧ p1 ≤ 99) ∧ (-9999 ≤ p2 ∧ p2 ≤ 9999)))) ∧ MGm G M1 a S th1 (O, V, Wv, K, kp, kv, rfd)))) := by
  refine x_intro (cc := cX5_putAbsent) (maxL := 5) (ret := (some .int)) (by decide +kernel) rfl (Nat.le_of_ble_eq_true rfl) ?_
  intro p e R s m args below meth c ls hRf hRc hRs hRl hC hw hl
  have hsc0 := hR.sc
  have hinX5 : ∀ w ∈ wsX50, w ∈ wsX5_putAbsent := by decide +kernel
  have hl : lv_has ls 5 [(0, .ref a), (1, .int (iN (p0))), (2, .int (iN (p1))), (3, .int (iN (p2)))] := hl
  refine lv_aload_n hC.1 hC.2.1 dX5_putAbsent_0 rfl (lv_at hl 0 rfl) ?_
  refine lv_iload_n hC.1 hC.2.1 dX5_putAbsent_1 rfl (lv_at hl 1 rfl) ?_
  refine lv_iload_n hC.1 hC.2.1 dX5_putAbsent_2 rfl (lv_at hl 2 rfl) ?_
  refine lv_iload_n hC.1 hC.2.1 dX5_putAbsent_3 rfl (lv_at hl 3 rfl) ?_
  refine x_callV hC hw (lv_size hl) (c_X5_isBad_ l G hR (p0 := p0) (by omega) (p1 := p1) (by omega) (p2 := p2) (by omega)) gX5_putAbsent_X5_isBad_ rfl dv_X5_isBad_ hR.1.1 rfl rfl (Nat.le_of_ble_eq_true rfl) (by rw [hRf]; decide) (by rw [hRl]; decide) (by omega) (by omega) dX5_putAbsent_4 (fun r9 M_1 H locs hq hw => ?_)
  obtain ⟨z_3, thk_2, rfl, hz_3a, hz_3b, hz_3c0, hz_3c1, hz_3c2, hx5k_2, hRk_2⟩ := hq
  have hsck_2 := hRk_2.sc
  show W p l e R s m args below meth c H locs _ _ _ (F0 m 7 ls [.int (iN (z_3))])
  refine x_if_eq (tgt := 12) hC ⟨by omega, by omega⟩ dX5_putAbsent_7 (by decide) (fun c_4 => ?_) (fun c_4 => ?_)
  · refine lv_aload_n hC.1 hC.2.1 dX5_putAbsent_12 rfl (lv_at hl 0 rfl) ?_
    refine lv_iload_n hC.1 hC.2.1 dX5_putAbsent_13 rfl (lv_at hl 1 rfl) ?_
    refine x_callV hC hw (lv_size hl) (c_X5_touch l G hRk_2 (p0 := p0) (by omega) (by omega)) gX5_putAbsent_X5_touch rfl dv_X5_touch hRk_2.1.1 rfl rfl (Nat.le_of_ble_eq_true rfl) (by rw [hRf]; decide) (by rw [hRl]; decide) (by omega) (by omega) dX5_putAbsent_14 (fun r9 M_5 H locs hq hw => ?_)
    obtain ⟨hak_6, rfl, he0k_6, hx5k_6, hRk_6⟩ := hq
    have hsck_6 := hRk_6.sc
    show W p l e R s m args below meth c H locs _ _ _ (F0 m 17 ls [])
    refine lv_aload_n hC.1 hC.2.1 dX5_putAbsent_17 rfl (lv_at hl 0 rfl) ?_
    refine x_get hC hw hRk_6.1.1 rfl hinX5 2 (by decide) (by decide +kernel) rfl dX5_putAbsent_18 ?_
    refine lv_iload_n hC.1 hC.2.1 dX5_putAbsent_21 rfl (lv_at hl 1 rfl) ?_
    refine x_ald4 hC hw hRk_6.1.2.1 (by omega) (by omega) (by omega) dX5_putAbsent_22 ?_
    rw [hRk_6.fa' (show (p0).toNat < 3 by omega)]
    show W p l e R s m args below meth c _ _ _ _ _ (F0 m 23 ls [.ref (qv ((p0).toNat))])
    refine lv_iload_n hC.1 hC.2.1 dX5_putAbsent_23 rfl (lv_at hl 2 rfl) ?_
    refine x_ialdE (x := (V ((p0).toNat) ((p1).toNat))) hC hw (hRk_6.rv (show ((p0).toNat) < 3 by omega)) (by omega) (by omega) (by omega) dX5_putAbsent_24 rfl ?_
    have hrv_7 := hRk_6.vr (show ((p0).toNat) < 3 by omega) (show (p1).toNat < 100 by omega)
    have hpv_7 := hRk_6.vs (show ((p0).toNat) < 3 by omega) (show (p1).toNat < 100 by omega)
    refine lv_istore (lv' := [(4, .int (iN ((V ((p0).toNat) ((p1).toNat))))), (0, .ref a), (1, .int (iN (p0))), (2, .int (iN (p1))), (3, .int (iN (p2)))]) hC.1 hC.2.1 dX5_putAbsent_25 hl (by decide) rfl (fun ls hl => ?_)
    refine lv_iload hC.1 hC.2.1 dX5_putAbsent_27 (lv_at hl 0 rfl) ?_
    refine x_sipush hC dX5_putAbsent_29 (by decide +kernel) ?_
    refine x_icmp_ne (tgt := 43) hC ⟨by omega, by omega⟩ ⟨by omega, by omega⟩ dX5_putAbsent_32 (by decide) (fun c_8 => ?_) (fun c_8 => ?_)
    · refine lv_iload hC.1 hC.2.1 dX5_putAbsent_43 (lv_at hl 0 rfl) ?_
      exact x_iret hC hw dX5_putAbsent_45 (by omega) (by omega) ⟨(V ((p0).toNat) ((p1).toNat)), _, rfl, by omega, Or.inl ⟨by omega, by first | trivial | omega, (show _ = (V (p0).toNat (p1).toNat) by first | rfl | omega | ((repeat' split) <;> first | rfl | omega)), (MGm.mut (F := V ((p0).toNat)) (upB_self rfl).symm hRk_6 hK bl_rf he0k_6 (upV_self (show (V (p0).toNat (p1).toNat) = (if (V (p0).toNat (p1).toNat) = -10000 then p2 else (V (p0).toNat (p1).toNat)) by first | rfl | omega | ((repeat' split) <;> first | rfl | omega))).symm)⟩⟩
    · refine lv_aload_n hC.1 hC.2.1 dX5_putAbsent_35 rfl (lv_at hl 1 rfl) ?_
      refine lv_iload_n hC.1 hC.2.1 dX5_putAbsent_36 rfl (lv_at hl 2 rfl) ?_
      refine lv_iload_n hC.1 hC.2.1 dX5_putAbsent_37 rfl (lv_at hl 3 rfl) ?_
      refine lv_iload_n hC.1 hC.2.1 dX5_putAbsent_38 rfl (lv_at hl 4 rfl) ?_
      refine x_callV hC hw (lv_size hl) (c_X5_set l G hRk_6 (p0 := p0) (by omega) (p1 := p1) (by omega) (p2 := p2) (by omega) (by omega) (by omega) (by omega) (by intro q9; first | exact absurd rfl q9 | assumption | exact hpv_7 q9 | exact hpv_7 (by omega) | exact hSk (by omega))) gX5_putAbsent_X5_set rfl dv_X5_set hRk_6.1.1 rfl rfl (Nat.le_of_ble_eq_true rfl) (by rw [hRf]; decide) (by rw [hRl]; decide) (by omega) (by omega) dX5_putAbsent_39 (fun r9 M_9 H locs hq hw => ?_)
      obtain ⟨z_11, brk_10, Vk_10, rfl, hz_11a, hz_11v, hz_11b, he0k_10, he1k_10, hx5k_10, hRk_10⟩ := hq
      have hsck_10 := hRk_10.sc
      show W p l e R s m args below meth c H locs _ _ _ (F0 m 42 ls [.int (iN (z_11))])
      refine lv_pop hC.1 hC.2.1 dX5_putAbsent_42 rfl ?_
      refine lv_iload hC.1 hC.2.1 dX5_putAbsent_43 (lv_at hl 0 rfl) ?_
      exact x_iret hC hw dX5_putAbsent_45 (by omega) (by omega) ⟨(V ((p0).toNat) ((p1).toNat)), _, rfl, by omega, Or.inl ⟨by omega, by first | trivial | omega, (show _ = (V (p0).toNat (p1).toNat) by first | rfl | omega | ((repeat' split) <;> first | rfl | omega)), (MGm.mut he1k_10 hRk_10 hK (bl_one (by omega) he0k_10) he0k_6 (congrArg (upV (V (p0).toNat) (p1).toNat) (show p2 = (if (V (p0).toNat (p1).toNat) = -10000 then p2 else (V (p0).toNat (p1).toNat)) by first | rfl | omega | ((repeat' split) <;> first | rfl | omega))))⟩⟩
  · refine x_const hC dX5_putAbsent_10 ?_
    exact x_iret hC hw dX5_putAbsent_11 (by omega) (by omega) ⟨0, _, rfl, by omega, Or.inr ⟨by omega, by omega, MGm.of hRk_2 hK⟩⟩
set_option maxHeartbeats 4000000 in
set_option maxRecDepth 100000 in
theorem c_X5_replace (l : Launch) (G : xG) {M : HM} {a va oa wa ya : Nat} {wk : Option Nat} {th : Int} {rfd : Int32} {br re la ha : Int} {kp kv : Int32} {qv qw : Nat → Nat} {fa fb : Nat → Option Nat} {V : BW} {O : OW} {fy : Nat → Option Nat} {Wv : VW} {wt : Option VT} {S : Nat → Bool} (hR : MGx G M a va oa wa ya wk th rfd br re la ha kp kv qv qw fa fb V O fy Wv wt S) {K : WA} (hK : abM O wt br re la ha K) {p0 : Int} (hp0 : -2147483648 ≤ p0 ∧ p0 ≤ 2147483647) {p1 : Int} (hp1 : -2147483648 ≤ p1 ∧ p1 ≤ 2147483647) {p2 : Int} (hp2 : -2147483648 ≤ p2 ∧ p2 ≤ 2147483647) (hSk : 0 ≤ p1 ∧ p1 ≤ 99 → S p1.toNat = true) : xMet l G yX5_replace wsX5_replace 3 67 0 0 [.ref a, .int (iN (p0)), .int (iN (p1)), .int (iN (p2))] M (fun r M1 => ∃ (z th1 : Int), r = some (.int (iN z)) ∧ (-2147483648 ≤ z ∧ z ≤ 2147483647) ∧ ((th1 = 0 ∧ ((0 ≤ p0 ∧ p0 ≤ 2) ∧ ((0 ≤ p1 ∧ p1 ≤ 99) ∧ (-9999 ≤ p2 ∧ p2 ≤ 9999))) ∧ z = A_replace (O, V, Wv, K, kp, kv, rfd) p0 p1 p2 ∧ MGm G M1 a S th1 (S_replace (O, V, Wv, K, kp, kv, rfd) p0 p1 p2)) ∨ (th1 ≠ 0 ∧ ((th1 = 1 ∧ ¬ (0 ≤ p0 ∧ p0 ≤ 2)) ∨ (th1 = 2 ∧ (0 ≤ p0 ∧ p0 ≤ 2) ∧ ¬ ((0 ≤ p1 ∧ p1 ≤ 99) ∧ (-9999 ≤ p2 ∧ p2 ≤ 9999)))) ∧ MGm G M1 a S th1 (O, V, Wv, K, kp, kv, rfd)))) := by
  refine x_intro (cc := cX5_replace) (maxL := 5) (ret := (some .int)) (by decide +kernel) rfl (Nat.le_of_ble_eq_true rfl) ?_
  intro p e R s m args below meth c ls hRf hRc hRs hRl hC hw hl
  have hsc0 := hR.sc
  have hinX5 : ∀ w ∈ wsX50, w ∈ wsX5_replace := by decide +kernel
  have hl : lv_has ls 5 [(0, .ref a), (1, .int (iN (p0))), (2, .int (iN (p1))), (3, .int (iN (p2)))] := hl
  refine lv_aload_n hC.1 hC.2.1 dX5_replace_0 rfl (lv_at hl 0 rfl) ?_
  refine lv_iload_n hC.1 hC.2.1 dX5_replace_1 rfl (lv_at hl 1 rfl) ?_
  refine lv_iload_n hC.1 hC.2.1 dX5_replace_2 rfl (lv_at hl 2 rfl) ?_
  refine lv_iload_n hC.1 hC.2.1 dX5_replace_3 rfl (lv_at hl 3 rfl) ?_
  refine x_callV hC hw (lv_size hl) (c_X5_isBad_ l G hR (p0 := p0) (by omega) (p1 := p1) (by omega) (p2 := p2) (by omega)) gX5_replace_X5_isBad_ rfl dv_X5_isBad_ hR.1.1 rfl rfl (Nat.le_of_ble_eq_true rfl) (by rw [hRf]; decide) (by rw [hRl]; decide) (by omega) (by omega) dX5_replace_4 (fun r9 M_1 H locs hq hw => ?_)
  obtain ⟨z_3, thk_2, rfl, hz_3a, hz_3b, hz_3c0, hz_3c1, hz_3c2, hx5k_2, hRk_2⟩ := hq
  have hsck_2 := hRk_2.sc
  show W p l e R s m args below meth c H locs _ _ _ (F0 m 7 ls [.int (iN (z_3))])
  refine x_if_eq (tgt := 12) hC ⟨by omega, by omega⟩ dX5_replace_7 (by decide) (fun c_4 => ?_) (fun c_4 => ?_)
  · refine lv_aload_n hC.1 hC.2.1 dX5_replace_12 rfl (lv_at hl 0 rfl) ?_
    refine lv_iload_n hC.1 hC.2.1 dX5_replace_13 rfl (lv_at hl 1 rfl) ?_
    refine x_callV hC hw (lv_size hl) (c_X5_touch l G hRk_2 (p0 := p0) (by omega) (by omega)) gX5_replace_X5_touch rfl dv_X5_touch hRk_2.1.1 rfl rfl (Nat.le_of_ble_eq_true rfl) (by rw [hRf]; decide) (by rw [hRl]; decide) (by omega) (by omega) dX5_replace_14 (fun r9 M_5 H locs hq hw => ?_)
    obtain ⟨hak_6, rfl, he0k_6, hx5k_6, hRk_6⟩ := hq
    have hsck_6 := hRk_6.sc
    show W p l e R s m args below meth c H locs _ _ _ (F0 m 17 ls [])
    refine lv_aload_n hC.1 hC.2.1 dX5_replace_17 rfl (lv_at hl 0 rfl) ?_
    refine x_get hC hw hRk_6.1.1 rfl hinX5 2 (by decide) (by decide +kernel) rfl dX5_replace_18 ?_
    refine lv_iload_n hC.1 hC.2.1 dX5_replace_21 rfl (lv_at hl 1 rfl) ?_
    refine x_ald4 hC hw hRk_6.1.2.1 (by omega) (by omega) (by omega) dX5_replace_22 ?_
    rw [hRk_6.fa' (show (p0).toNat < 3 by omega)]
    show W p l e R s m args below meth c _ _ _ _ _ (F0 m 23 ls [.ref (qv ((p0).toNat))])
    refine lv_iload_n hC.1 hC.2.1 dX5_replace_23 rfl (lv_at hl 2 rfl) ?_
    refine x_ialdE (x := (V ((p0).toNat) ((p1).toNat))) hC hw (hRk_6.rv (show ((p0).toNat) < 3 by omega)) (by omega) (by omega) (by omega) dX5_replace_24 rfl ?_
    have hrv_7 := hRk_6.vr (show ((p0).toNat) < 3 by omega) (show (p1).toNat < 100 by omega)
    have hpv_7 := hRk_6.vs (show ((p0).toNat) < 3 by omega) (show (p1).toNat < 100 by omega)
    refine lv_istore (lv' := [(4, .int (iN ((V ((p0).toNat) ((p1).toNat))))), (0, .ref a), (1, .int (iN (p0))), (2, .int (iN (p1))), (3, .int (iN (p2)))]) hC.1 hC.2.1 dX5_replace_25 hl (by decide) rfl (fun ls hl => ?_)
    refine lv_iload hC.1 hC.2.1 dX5_replace_27 (lv_at hl 0 rfl) ?_
    refine x_sipush hC dX5_replace_29 (by decide +kernel) ?_
    refine x_icmp_eq (tgt := 43) hC ⟨by omega, by omega⟩ ⟨by omega, by omega⟩ dX5_replace_32 (by decide) (fun c_8 => ?_) (fun c_8 => ?_)
    · refine lv_iload hC.1 hC.2.1 dX5_replace_43 (lv_at hl 0 rfl) ?_
      exact x_iret hC hw dX5_replace_45 (by omega) (by omega) ⟨(V ((p0).toNat) ((p1).toNat)), _, rfl, by omega, Or.inl ⟨by omega, by first | trivial | omega, (show _ = (V (p0).toNat (p1).toNat) by first | rfl | omega | ((repeat' split) <;> first | rfl | omega)), (MGm.mut (F := V ((p0).toNat)) (upB_self rfl).symm hRk_6 hK bl_rf he0k_6 (upV_self (show (V (p0).toNat (p1).toNat) = (if (V (p0).toNat (p1).toNat) = -10000 then -10000 else p2) by first | rfl | omega | ((repeat' split) <;> first | rfl | omega))).symm)⟩⟩
    · refine lv_aload_n hC.1 hC.2.1 dX5_replace_35 rfl (lv_at hl 1 rfl) ?_
      refine lv_iload_n hC.1 hC.2.1 dX5_replace_36 rfl (lv_at hl 2 rfl) ?_
      refine lv_iload_n hC.1 hC.2.1 dX5_replace_37 rfl (lv_at hl 3 rfl) ?_
      refine lv_iload_n hC.1 hC.2.1 dX5_replace_38 rfl (lv_at hl 4 rfl) ?_
      refine x_callV hC hw (lv_size hl) (c_X5_set l G hRk_6 (p0 := p0) (by omega) (p1 := p1) (by omega) (p2 := p2) (by omega) (by omega) (by omega) (by omega) (by intro q9; first | exact absurd rfl q9 | assumption | exact hpv_7 q9 | exact hpv_7 (by omega) | exact hSk (by omega))) gX5_replace_X5_set rfl dv_X5_set hRk_6.1.1 rfl rfl (Nat.le_of_ble_eq_true rfl) (by rw [hRf]; decide) (by rw [hRl]; decide) (by omega) (by omega) dX5_replace_39 (fun r9 M_9 H locs hq hw => ?_)
      obtain ⟨z_11, brk_10, Vk_10, rfl, hz_11a, hz_11v, hz_11b, he0k_10, he1k_10, hx5k_10, hRk_10⟩ := hq
      have hsck_10 := hRk_10.sc
      show W p l e R s m args below meth c H locs _ _ _ (F0 m 42 ls [.int (iN (z_11))])
      refine lv_pop hC.1 hC.2.1 dX5_replace_42 rfl ?_
      refine lv_iload hC.1 hC.2.1 dX5_replace_43 (lv_at hl 0 rfl) ?_
      exact x_iret hC hw dX5_replace_45 (by omega) (by omega) ⟨(V ((p0).toNat) ((p1).toNat)), _, rfl, by omega, Or.inl ⟨by omega, by first | trivial | omega, (show _ = (V (p0).toNat (p1).toNat) by first | rfl | omega | ((repeat' split) <;> first | rfl | omega)), (MGm.mut he1k_10 hRk_10 hK (bl_one (by omega) he0k_10) he0k_6 (congrArg (upV (V (p0).toNat) (p1).toNat) (show p2 = (if (V (p0).toNat (p1).toNat) = -10000 then -10000 else p2) by first | rfl | omega | ((repeat' split) <;> first | rfl | omega))))⟩⟩
  · refine x_const hC dX5_replace_10 ?_
    exact x_iret hC hw dX5_replace_11 (by omega) (by omega) ⟨0, _, rfl, by omega, Or.inr ⟨by omega, by omega, MGm.of hRk_2 hK⟩⟩
set_option maxHeartbeats 4000000 in
set_option maxRecDepth 100000 in
theorem c_X5_swap (l : Launch) (G : xG) {M : HM} {a va oa wa ya : Nat} {wk : Option Nat} {th : Int} {rfd : Int32} {br re la ha : Int} {kp kv : Int32} {qv qw : Nat → Nat} {fa fb : Nat → Option Nat} {V : BW} {O : OW} {fy : Nat → Option Nat} {Wv : VW} {wt : Option VT} {S : Nat → Bool} (hR : MGx G M a va oa wa ya wk th rfd br re la ha kp kv qv qw fa fb V O fy Wv wt S) {K : WA} (hK : abM O wt br re la ha K) {p0 : Int} (hp0 : -2147483648 ≤ p0 ∧ p0 ≤ 2147483647) {p1 : Int} (hp1 : -2147483648 ≤ p1 ∧ p1 ≤ 2147483647) {p2 : Int} (hp2 : -2147483648 ≤ p2 ∧ p2 ≤ 2147483647) {p3 : Int} (hp3 : -2147483648 ≤ p3 ∧ p3 ≤ 2147483647) (hSk : 0 ≤ p1 ∧ p1 ≤ 99 → S p1.toNat = true) : xMet l G yX5_swap wsX5_swap 3 67 0 0 [.ref a, .int (iN (p0)), .int (iN (p1)), .int (iN (p2)), .int (iN (p3))] M (fun r M1 => ∃ (z th1 : Int), r = some (.int (iN z)) ∧ (z = 0 ∨ z = 1) ∧ ((th1 = 0 ∧ ((0 ≤ p0 ∧ p0 ≤ 2) ∧ ((0 ≤ p1 ∧ p1 ≤ 99) ∧ (-9999 ≤ p2 ∧ p2 ≤ 9999) ∧ (-9999 ≤ p3 ∧ p3 ≤ 9999))) ∧ z = A_swap (O, V, Wv, K, kp, kv, rfd) p0 p1 p2 p3 ∧ MGm G M1 a S th1 (S_swap (O, V, Wv, K, kp, kv, rfd) p0 p1 p2 p3)) ∨ (th1 ≠ 0 ∧ ((th1 = 1 ∧ ¬ (0 ≤ p0 ∧ p0 ≤ 2)) ∨ (th1 = 2 ∧ (0 ≤ p0 ∧ p0 ≤ 2) ∧ ¬ ((0 ≤ p1 ∧ p1 ≤ 99) ∧ (-9999 ≤ p2 ∧ p2 ≤ 9999) ∧ (-9999 ≤ p3 ∧ p3 ≤ 9999)))) ∧ MGm G M1 a S th1 (O, V, Wv, K, kp, kv, rfd)))) := by
  refine x_intro (cc := cX5_swap) (maxL := 5) (ret := (some .boolean)) (by decide +kernel) rfl (Nat.le_of_ble_eq_true rfl) ?_
  intro p e R s m args below meth c ls hRf hRc hRs hRl hC hw hl
  have hsc0 := hR.sc
  have hinX5 : ∀ w ∈ wsX50, w ∈ wsX5_swap := by decide +kernel
  have hl : lv_has ls 5 [(0, .ref a), (1, .int (iN (p0))), (2, .int (iN (p1))), (3, .int (iN (p2))), (4, .int (iN (p3)))] := hl
  refine lv_aload_n hC.1 hC.2.1 dX5_swap_0 rfl (lv_at hl 0 rfl) ?_
  refine lv_iload_n hC.1 hC.2.1 dX5_swap_1 rfl (lv_at hl 1 rfl) ?_
  refine lv_iload_n hC.1 hC.2.1 dX5_swap_2 rfl (lv_at hl 2 rfl) ?_
  refine lv_iload hC.1 hC.2.1 dX5_swap_3 (lv_at hl 4 rfl) ?_
  refine x_callV hC hw (lv_size hl) (c_X5_isBad_ l G hR (p0 := p0) (by omega) (p1 := p1) (by omega) (p2 := p3) (by omega)) gX5_swap_X5_isBad_ rfl dv_X5_isBad_ hR.1.1 rfl rfl (Nat.le_of_ble_eq_true rfl) (by rw [hRf]; decide) (by rw [hRl]; decide) (by omega) (by omega) dX5_swap_5 (fun r9 M_1 H locs hq hw => ?_)
  obtain ⟨z_3, thk_2, rfl, hz_3a, hz_3b, hz_3c0, hz_3c1, hz_3c2, hx5k_2, hRk_2⟩ := hq
  have hsck_2 := hRk_2.sc
  show W p l e R s m args below meth c H locs _ _ _ (F0 m 8 ls [.int (iN (z_3))])
  refine x_if_ne (tgt := 23) hC ⟨by omega, by omega⟩ dX5_swap_8 (by decide) (fun c_4 => ?_) (fun c_4 => ?_)
  · refine x_const hC dX5_swap_23 ?_
    exact x_zret hC hw (by omega) dX5_swap_24 (by omega) (by omega) ⟨0, _, rfl, by omega, Or.inr ⟨by omega, by omega, MGm.of hRk_2 hK⟩⟩
  · refine lv_aload_n hC.1 hC.2.1 dX5_swap_11 rfl (lv_at hl 0 rfl) ?_
    refine lv_iload_n hC.1 hC.2.1 dX5_swap_12 rfl (lv_at hl 3 rfl) ?_
    refine x_callS hC hw (lv_size hl) (c_X5_isNoValue l G (M := M_1) (p0 := p2) (by omega)) gX5_swap_X5_isNoValue rfl dv_X5_isNoValue_s rfl (Nat.le_of_ble_eq_true rfl) (by rw [hRf]; decide) (by rw [hRl]; decide) (by omega) (by omega) dX5_swap_13 (fun r9 M_5 H locs hq hw => ?_)
    obtain ⟨z_6, rfl, hM9, hz_6a, hz_6b⟩ := hq
    rw [hM9] at hw
    show W p l e R s m args below meth c H locs _ _ _ (F0 m 16 ls [.int (iN (z_6)), .ref a])
    refine x_const hC dX5_swap_16 ?_
    refine x_callV hC hw (lv_size hl) (c_X5_refuse l G hRk_2 (p0 := z_6) (by omega) (p1 := 2) (by omega) (by omega)) gX5_swap_X5_refuse rfl dv_X5_refuse hRk_2.1.1 rfl rfl (Nat.le_of_ble_eq_true rfl) (by rw [hRf]; decide) (by rw [hRl]; decide) (by omega) (by omega) dX5_swap_17 (fun r9 M_7 H locs hq hw => ?_)
    obtain ⟨z_9, thk_8, rfl, hz_9a, hz_9b, hz_9c0, hz_9c1, hx5k_8, hRk_8⟩ := hq
    have hsck_8 := hRk_8.sc
    show W p l e R s m args below meth c H locs _ _ _ (F0 m 20 ls [.int (iN (z_9))])
    refine x_if_eq (tgt := 25) hC ⟨by omega, by omega⟩ dX5_swap_20 (by decide) (fun c_10 => ?_) (fun c_10 => ?_)
    · refine lv_aload_n hC.1 hC.2.1 dX5_swap_25 rfl (lv_at hl 0 rfl) ?_
      refine lv_iload_n hC.1 hC.2.1 dX5_swap_26 rfl (lv_at hl 1 rfl) ?_
      refine x_callV hC hw (lv_size hl) (c_X5_touch l G hRk_8 (p0 := p0) (by omega) (by omega)) gX5_swap_X5_touch rfl dv_X5_touch hRk_8.1.1 rfl rfl (Nat.le_of_ble_eq_true rfl) (by rw [hRf]; decide) (by rw [hRl]; decide) (by omega) (by omega) dX5_swap_27 (fun r9 M_11 H locs hq hw => ?_)
      obtain ⟨hak_12, rfl, he0k_12, hx5k_12, hRk_12⟩ := hq
      have hsck_12 := hRk_12.sc
      show W p l e R s m args below meth c H locs _ _ _ (F0 m 30 ls [])
      refine lv_aload_n hC.1 hC.2.1 dX5_swap_30 rfl (lv_at hl 0 rfl) ?_
      refine x_get hC hw hRk_12.1.1 rfl hinX5 2 (by decide) (by decide +kernel) rfl dX5_swap_31 ?_
      refine lv_iload_n hC.1 hC.2.1 dX5_swap_34 rfl (lv_at hl 1 rfl) ?_
      refine x_ald4 hC hw hRk_12.1.2.1 (by omega) (by omega) (by omega) dX5_swap_35 ?_
      rw [hRk_12.fa' (show (p0).toNat < 3 by omega)]
      show W p l e R s m args below meth c _ _ _ _ _ (F0 m 36 ls [.ref (qv ((p0).toNat))])
      refine lv_iload_n hC.1 hC.2.1 dX5_swap_36 rfl (lv_at hl 2 rfl) ?_
      refine x_ialdE (x := (V ((p0).toNat) ((p1).toNat))) hC hw (hRk_12.rv (show ((p0).toNat) < 3 by omega)) (by omega) (by omega) (by omega) dX5_swap_37 rfl ?_
      have hrv_13 := hRk_12.vr (show ((p0).toNat) < 3 by omega) (show (p1).toNat < 100 by omega)
      have hpv_13 := hRk_12.vs (show ((p0).toNat) < 3 by omega) (show (p1).toNat < 100 by omega)
      refine lv_iload_n hC.1 hC.2.1 dX5_swap_38 rfl (lv_at hl 3 rfl) ?_
      refine x_icmp_eq (tgt := 44) hC ⟨by omega, by omega⟩ ⟨by omega, by omega⟩ dX5_swap_39 (by decide) (fun c_14 => ?_) (fun c_14 => ?_)
      · refine lv_aload_n hC.1 hC.2.1 dX5_swap_44 rfl (lv_at hl 0 rfl) ?_
        refine lv_iload_n hC.1 hC.2.1 dX5_swap_45 rfl (lv_at hl 1 rfl) ?_
        refine lv_iload_n hC.1 hC.2.1 dX5_swap_46 rfl (lv_at hl 2 rfl) ?_
        refine lv_iload hC.1 hC.2.1 dX5_swap_47 (lv_at hl 4 rfl) ?_
        refine x_callV hC hw (lv_size hl) (c_X5_set l G hRk_12 (p0 := p0) (by omega) (p1 := p1) (by omega) (p2 := p3) (by omega) (by omega) (by omega) (by omega) (by intro q9; first | exact absurd rfl q9 | assumption | exact hpv_13 q9 | exact hpv_13 (by omega) | exact hSk (by omega))) gX5_swap_X5_set rfl dv_X5_set hRk_12.1.1 rfl rfl (Nat.le_of_ble_eq_true rfl) (by rw [hRf]; decide) (by rw [hRl]; decide) (by omega) (by omega) dX5_swap_49 (fun r9 M_15 H locs hq hw => ?_)
        obtain ⟨z_17, brk_16, Vk_16, rfl, hz_17a, hz_17v, hz_17b, he0k_16, he1k_16, hx5k_16, hRk_16⟩ := hq
        have hsck_16 := hRk_16.sc
        show W p l e R s m args below meth c H locs _ _ _ (F0 m 52 ls [.int (iN (z_17))])
        refine lv_pop hC.1 hC.2.1 dX5_swap_52 rfl ?_
        refine x_const hC dX5_swap_53 ?_
        exact x_zret hC hw (by omega) dX5_swap_54 (by omega) (by omega) ⟨1, _, rfl, by omega, Or.inl ⟨by omega, by first | trivial | omega, (show _ = (if (V (p0).toNat (p1).toNat) = p2 then 1 else 0) by first | rfl | omega | ((repeat' split) <;> first | rfl | omega)), (MGm.mut he1k_16 hRk_16 hK (bl_one (by omega) he0k_16) he0k_12 (congrArg (upV (V (p0).toNat) (p1).toNat) (show p3 = (if (V (p0).toNat (p1).toNat) = p2 then p3 else (V (p0).toNat (p1).toNat)) by first | rfl | omega | ((repeat' split) <;> first | rfl | omega))))⟩⟩
      · refine x_const hC dX5_swap_42 ?_
        exact x_zret hC hw (by omega) dX5_swap_43 (by omega) (by omega) ⟨0, _, rfl, by omega, Or.inl ⟨by omega, by first | trivial | omega, (show _ = (if (V (p0).toNat (p1).toNat) = p2 then 1 else 0) by first | rfl | omega | ((repeat' split) <;> first | rfl | omega)), (MGm.mut (F := V ((p0).toNat)) (upB_self rfl).symm hRk_12 hK bl_rf he0k_12 (upV_self (show (V (p0).toNat (p1).toNat) = (if (V (p0).toNat (p1).toNat) = p2 then p3 else (V (p0).toNat (p1).toNat)) by first | rfl | omega | ((repeat' split) <;> first | rfl | omega))).symm)⟩⟩
    · refine x_const hC dX5_swap_23 ?_
      exact x_zret hC hw (by omega) dX5_swap_24 (by omega) (by omega) ⟨0, _, rfl, by omega, Or.inr ⟨by omega, by omega, MGm.of hRk_8 hK⟩⟩
set_option maxHeartbeats 4000000 in
set_option maxRecDepth 100000 in
theorem c_X5_strike (l : Launch) (G : xG) {M : HM} {a va oa wa ya : Nat} {wk : Option Nat} {th : Int} {rfd : Int32} {br re la ha : Int} {kp kv : Int32} {qv qw : Nat → Nat} {fa fb : Nat → Option Nat} {V : BW} {O : OW} {fy : Nat → Option Nat} {Wv : VW} {wt : Option VT} {S : Nat → Bool} (hR : MGx G M a va oa wa ya wk th rfd br re la ha kp kv qv qw fa fb V O fy Wv wt S) {K : WA} (hK : abM O wt br re la ha K) {p0 : Int} (hp0 : -2147483648 ≤ p0 ∧ p0 ≤ 2147483647) {p1 : Int} (hp1 : -2147483648 ≤ p1 ∧ p1 ≤ 2147483647) : xMet l G yX5_strike wsX5_strike 3 66 0 0 [.ref a, .int (iN (p0)), .int (iN (p1))] M (fun r M1 => ∃ (z th1 : Int), r = some (.int (iN z)) ∧ (-2147483648 ≤ z ∧ z ≤ 2147483647) ∧ ((th1 = 0 ∧ ((0 ≤ p0 ∧ p0 ≤ 2) ∧ (0 ≤ p1 ∧ p1 ≤ 99)) ∧ z = A_strike (O, V, Wv, K, kp, kv, rfd) p0 p1 ∧ MGm G M1 a S th1 (S_strike (O, V, Wv, K, kp, kv, rfd) p0 p1)) ∨ (th1 ≠ 0 ∧ ((th1 = 1 ∧ ¬ (0 ≤ p0 ∧ p0 ≤ 2)) ∨ (th1 = 2 ∧ (0 ≤ p0 ∧ p0 ≤ 2) ∧ ¬ (0 ≤ p1 ∧ p1 ≤ 99))) ∧ MGm G M1 a S th1 (O, V, Wv, K, kp, kv, rfd)))) := by
  refine x_intro (cc := cX5_strike) (maxL := 3) (ret := (some .int)) (by decide +kernel) rfl (Nat.le_of_ble_eq_true rfl) ?_
  intro p e R s m args below meth c ls hRf hRc hRs hRl hC hw hl
  have hsc0 := hR.sc
  have hl : lv_has ls 3 [(0, .ref a), (1, .int (iN (p0))), (2, .int (iN (p1)))] := hl
  refine lv_aload_n hC.1 hC.2.1 dX5_strike_0 rfl (lv_at hl 0 rfl) ?_
  refine lv_iload_n hC.1 hC.2.1 dX5_strike_1 rfl (lv_at hl 1 rfl) ?_
  refine lv_iload_n hC.1 hC.2.1 dX5_strike_2 rfl (lv_at hl 2 rfl) ?_
  refine x_callV hC hw (lv_size hl) (c_X5_isBad l G hR (p0 := p0) (by omega) (p1 := p1) (by omega)) gX5_strike_X5_isBad rfl dv_X5_isBad hR.1.1 rfl rfl (Nat.le_of_ble_eq_true rfl) (by rw [hRf]; decide) (by rw [hRl]; decide) (by omega) (by omega) dX5_strike_3 (fun r9 M_1 H locs hq hw => ?_)
  obtain ⟨z_3, thk_2, rfl, hz_3a, hz_3b, hz_3c0, hz_3c1, hz_3c2, hx5k_2, hRk_2⟩ := hq
  have hsck_2 := hRk_2.sc
  show W p l e R s m args below meth c H locs _ _ _ (F0 m 6 ls [.int (iN (z_3))])
  refine x_if_eq (tgt := 11) hC ⟨by omega, by omega⟩ dX5_strike_6 (by decide) (fun c_4 => ?_) (fun c_4 => ?_)
  · refine lv_aload_n hC.1 hC.2.1 dX5_strike_11 rfl (lv_at hl 0 rfl) ?_
    refine lv_iload_n hC.1 hC.2.1 dX5_strike_12 rfl (lv_at hl 1 rfl) ?_
    refine x_callV hC hw (lv_size hl) (c_X5_touch l G hRk_2 (p0 := p0) (by omega) (by omega)) gX5_strike_X5_touch rfl dv_X5_touch hRk_2.1.1 rfl rfl (Nat.le_of_ble_eq_true rfl) (by rw [hRf]; decide) (by rw [hRl]; decide) (by omega) (by omega) dX5_strike_13 (fun r9 M_5 H locs hq hw => ?_)
    obtain ⟨hak_6, rfl, he0k_6, hx5k_6, hRk_6⟩ := hq
    have hsck_6 := hRk_6.sc
    show W p l e R s m args below meth c H locs _ _ _ (F0 m 16 ls [])
    refine lv_aload_n hC.1 hC.2.1 dX5_strike_16 rfl (lv_at hl 0 rfl) ?_
    refine lv_iload_n hC.1 hC.2.1 dX5_strike_17 rfl (lv_at hl 1 rfl) ?_
    refine lv_iload_n hC.1 hC.2.1 dX5_strike_18 rfl (lv_at hl 2 rfl) ?_
    refine x_sipush hC dX5_strike_19 (by decide +kernel) ?_
    refine x_callV hC hw (lv_size hl) (c_X5_set l G hRk_6 (p0 := p0) (by omega) (p1 := p1) (by omega) (p2 := (-10000)) (by omega) (by omega) (by omega) (by omega) (fun q9 => absurd rfl q9)) gX5_strike_X5_set rfl dv_X5_set hRk_6.1.1 rfl rfl (Nat.le_of_ble_eq_true rfl) (by rw [hRf]; decide) (by rw [hRl]; decide) (by omega) (by omega) dX5_strike_22 (fun r9 M_7 H locs hq hw => ?_)
    obtain ⟨z_9, brk_8, Vk_8, rfl, hz_9a, hz_9v, hz_9b, he0k_8, he1k_8, hx5k_8, hRk_8⟩ := hq
    have hsck_8 := hRk_8.sc
    show W p l e R s m args below meth c H locs _ _ _ (F0 m 25 ls [.int (iN (z_9))])
    exact x_iret hC hw dX5_strike_25 (by omega) (by omega) ⟨z_9, _, rfl, by omega, Or.inl ⟨by omega, by first | trivial | omega, (show _ = (V (p0).toNat (p1).toNat) by first | rfl | omega | ((repeat' split) <;> first | rfl | omega)), (MGm.mut he1k_8 hRk_8 hK (bl_one (by omega) he0k_8) he0k_6 (congrArg (upV (V (p0).toNat) (p1).toNat) (show (-10000) = -10000 by first | rfl | omega | ((repeat' split) <;> first | rfl | omega))))⟩⟩
  · refine x_const hC dX5_strike_9 ?_
    exact x_iret hC hw dX5_strike_10 (by omega) (by omega) ⟨0, _, rfl, by omega, Or.inr ⟨by omega, by omega, MGm.of hRk_2 hK⟩⟩
set_option maxHeartbeats 4000000 in
set_option maxRecDepth 100000 in
theorem c_X5_strikePair (l : Launch) (G : xG) {M : HM} {a va oa wa ya : Nat} {wk : Option Nat} {th : Int} {rfd : Int32} {br re la ha : Int} {kp kv : Int32} {qv qw : Nat → Nat} {fa fb : Nat → Option Nat} {V : BW} {O : OW} {fy : Nat → Option Nat} {Wv : VW} {wt : Option VT} {S : Nat → Bool} (hR : MGx G M a va oa wa ya wk th rfd br re la ha kp kv qv qw fa fb V O fy Wv wt S) {K : WA} (hK : abM O wt br re la ha K) {p0 : Int} (hp0 : -2147483648 ≤ p0 ∧ p0 ≤ 2147483647) {p1 : Int} (hp1 : -2147483648 ≤ p1 ∧ p1 ≤ 2147483647) {p2 : Int} (hp2 : -2147483648 ≤ p2 ∧ p2 ≤ 2147483647) : xMet l G yX5_strikePair wsX5_strikePair 3 67 0 0 [.ref a, .int (iN (p0)), .int (iN (p1)), .int (iN (p2))] M (fun r M1 => ∃ (z th1 : Int), r = some (.int (iN z)) ∧ (z = 0 ∨ z = 1) ∧ ((th1 = 0 ∧ ((0 ≤ p0 ∧ p0 ≤ 2) ∧ ((0 ≤ p1 ∧ p1 ≤ 99) ∧ (-9999 ≤ p2 ∧ p2 ≤ 9999))) ∧ z = A_strikePair (O, V, Wv, K, kp, kv, rfd) p0 p1 p2 ∧ MGm G M1 a S th1 (S_strikePair (O, V, Wv, K, kp, kv, rfd) p0 p1 p2)) ∨ (th1 ≠ 0 ∧ ((th1 = 1 ∧ ¬ (0 ≤ p0 ∧ p0 ≤ 2)) ∨ (th1 = 2 ∧ (0 ≤ p0 ∧ p0 ≤ 2) ∧ ¬ ((0 ≤ p1 ∧ p1 ≤ 99) ∧ (-9999 ≤ p2 ∧ p2 ≤ 9999)))) ∧ MGm G M1 a S th1 (O, V, Wv, K, kp, kv, rfd)))) := by
  refine x_intro (cc := cX5_strikePair) (maxL := 4) (ret := (some .boolean)) (by decide +kernel) rfl (Nat.le_of_ble_eq_true rfl) ?_
  intro p e R s m args below meth c ls hRf hRc hRs hRl hC hw hl
  have hsc0 := hR.sc
  have hinX5 : ∀ w ∈ wsX50, w ∈ wsX5_strikePair := by decide +kernel
  have hl : lv_has ls 4 [(0, .ref a), (1, .int (iN (p0))), (2, .int (iN (p1))), (3, .int (iN (p2)))] := hl
  refine lv_aload_n hC.1 hC.2.1 dX5_strikePair_0 rfl (lv_at hl 0 rfl) ?_
  refine lv_iload_n hC.1 hC.2.1 dX5_strikePair_1 rfl (lv_at hl 1 rfl) ?_
  refine lv_iload_n hC.1 hC.2.1 dX5_strikePair_2 rfl (lv_at hl 2 rfl) ?_
  refine lv_iload_n hC.1 hC.2.1 dX5_strikePair_3 rfl (lv_at hl 3 rfl) ?_
  refine x_callV hC hw (lv_size hl) (c_X5_isBad_ l G hR (p0 := p0) (by omega) (p1 := p1) (by omega) (p2 := p2) (by omega)) gX5_strikePair_X5_isBad_ rfl dv_X5_isBad_ hR.1.1 rfl rfl (Nat.le_of_ble_eq_true rfl) (by rw [hRf]; decide) (by rw [hRl]; decide) (by omega) (by omega) dX5_strikePair_4 (fun r9 M_1 H locs hq hw => ?_)
  obtain ⟨z_3, thk_2, rfl, hz_3a, hz_3b, hz_3c0, hz_3c1, hz_3c2, hx5k_2, hRk_2⟩ := hq
  have hsck_2 := hRk_2.sc
  show W p l e R s m args below meth c H locs _ _ _ (F0 m 7 ls [.int (iN (z_3))])
  refine x_if_eq (tgt := 12) hC ⟨by omega, by omega⟩ dX5_strikePair_7 (by decide) (fun c_4 => ?_) (fun c_4 => ?_)
  · refine lv_aload_n hC.1 hC.2.1 dX5_strikePair_12 rfl (lv_at hl 0 rfl) ?_
    refine lv_iload_n hC.1 hC.2.1 dX5_strikePair_13 rfl (lv_at hl 1 rfl) ?_
    refine x_callV hC hw (lv_size hl) (c_X5_touch l G hRk_2 (p0 := p0) (by omega) (by omega)) gX5_strikePair_X5_touch rfl dv_X5_touch hRk_2.1.1 rfl rfl (Nat.le_of_ble_eq_true rfl) (by rw [hRf]; decide) (by rw [hRl]; decide) (by omega) (by omega) dX5_strikePair_14 (fun r9 M_5 H locs hq hw => ?_)
    obtain ⟨hak_6, rfl, he0k_6, hx5k_6, hRk_6⟩ := hq
    have hsck_6 := hRk_6.sc
    show W p l e R s m args below meth c H locs _ _ _ (F0 m 17 ls [])
    refine lv_aload_n hC.1 hC.2.1 dX5_strikePair_17 rfl (lv_at hl 0 rfl) ?_
    refine x_get hC hw hRk_6.1.1 rfl hinX5 2 (by decide) (by decide +kernel) rfl dX5_strikePair_18 ?_
    refine lv_iload_n hC.1 hC.2.1 dX5_strikePair_21 rfl (lv_at hl 1 rfl) ?_
    refine x_ald4 hC hw hRk_6.1.2.1 (by omega) (by omega) (by omega) dX5_strikePair_22 ?_
    rw [hRk_6.fa' (show (p0).toNat < 3 by omega)]
    show W p l e R s m args below meth c _ _ _ _ _ (F0 m 23 ls [.ref (qv ((p0).toNat))])
    refine lv_iload_n hC.1 hC.2.1 dX5_strikePair_23 rfl (lv_at hl 2 rfl) ?_
    refine x_ialdE (x := (V ((p0).toNat) ((p1).toNat))) hC hw (hRk_6.rv (show ((p0).toNat) < 3 by omega)) (by omega) (by omega) (by omega) dX5_strikePair_24 rfl ?_
    have hrv_7 := hRk_6.vr (show ((p0).toNat) < 3 by omega) (show (p1).toNat < 100 by omega)
    have hpv_7 := hRk_6.vs (show ((p0).toNat) < 3 by omega) (show (p1).toNat < 100 by omega)
    refine lv_iload_n hC.1 hC.2.1 dX5_strikePair_25 rfl (lv_at hl 3 rfl) ?_
    refine x_icmp_eq (tgt := 31) hC ⟨by omega, by omega⟩ ⟨by omega, by omega⟩ dX5_strikePair_26 (by decide) (fun c_8 => ?_) (fun c_8 => ?_)
    · refine lv_aload_n hC.1 hC.2.1 dX5_strikePair_31 rfl (lv_at hl 0 rfl) ?_
      refine lv_iload_n hC.1 hC.2.1 dX5_strikePair_32 rfl (lv_at hl 1 rfl) ?_
      refine lv_iload_n hC.1 hC.2.1 dX5_strikePair_33 rfl (lv_at hl 2 rfl) ?_
      refine x_sipush hC dX5_strikePair_34 (by decide +kernel) ?_
      refine x_callV hC hw (lv_size hl) (c_X5_set l G hRk_6 (p0 := p0) (by omega) (p1 := p1) (by omega) (p2 := (-10000)) (by omega) (by omega) (by omega) (by omega) (fun q9 => absurd rfl q9)) gX5_strikePair_X5_set rfl dv_X5_set hRk_6.1.1 rfl rfl (Nat.le_of_ble_eq_true rfl) (by rw [hRf]; decide) (by rw [hRl]; decide) (by omega) (by omega) dX5_strikePair_37 (fun r9 M_9 H locs hq hw => ?_)
      obtain ⟨z_11, brk_10, Vk_10, rfl, hz_11a, hz_11v, hz_11b, he0k_10, he1k_10, hx5k_10, hRk_10⟩ := hq
      have hsck_10 := hRk_10.sc
      show W p l e R s m args below meth c H locs _ _ _ (F0 m 40 ls [.int (iN (z_11))])
      refine lv_pop hC.1 hC.2.1 dX5_strikePair_40 rfl ?_
      refine x_const hC dX5_strikePair_41 ?_
      exact x_zret hC hw (by omega) dX5_strikePair_42 (by omega) (by omega) ⟨1, _, rfl, by omega, Or.inl ⟨by omega, by first | trivial | omega, (show _ = (if (V (p0).toNat (p1).toNat) = p2 then 1 else 0) by first | rfl | omega | ((repeat' split) <;> first | rfl | omega)), (MGm.mut he1k_10 hRk_10 hK (bl_one (by omega) he0k_10) he0k_6 (congrArg (upV (V (p0).toNat) (p1).toNat) (show (-10000) = (if (V (p0).toNat (p1).toNat) = p2 then -10000 else (V (p0).toNat (p1).toNat)) by first | rfl | omega | ((repeat' split) <;> first | rfl | omega))))⟩⟩
    · refine x_const hC dX5_strikePair_29 ?_
      exact x_zret hC hw (by omega) dX5_strikePair_30 (by omega) (by omega) ⟨0, _, rfl, by omega, Or.inl ⟨by omega, by first | trivial | omega, (show _ = (if (V (p0).toNat (p1).toNat) = p2 then 1 else 0) by first | rfl | omega | ((repeat' split) <;> first | rfl | omega)), (MGm.mut (F := V ((p0).toNat)) (upB_self rfl).symm hRk_6 hK bl_rf he0k_6 (upV_self (show (V (p0).toNat (p1).toNat) = (if (V (p0).toNat (p1).toNat) = p2 then -10000 else (V (p0).toNat (p1).toNat)) by first | rfl | omega | ((repeat' split) <;> first | rfl | omega))).symm)⟩⟩
  · refine x_const hC dX5_strikePair_10 ?_
    exact x_zret hC hw (by omega) dX5_strikePair_11 (by omega) (by omega) ⟨0, _, rfl, by omega, Or.inr ⟨by omega, by omega, MGm.of hRk_2 hK⟩⟩
set_option maxHeartbeats 4000000 in
set_option maxRecDepth 100000 in
theorem c_X5_merge (l : Launch) (G : xG) {M : HM} {a va oa wa ya : Nat} {wk : Option Nat} {th : Int} {rfd : Int32} {br re la ha : Int} {kp kv : Int32} {qv qw : Nat → Nat} {fa fb : Nat → Option Nat} {V : BW} {O : OW} {fy : Nat → Option Nat} {Wv : VW} {wt : Option VT} {S : Nat → Bool} (hR : MGx G M a va oa wa ya wk th rfd br re la ha kp kv qv qw fa fb V O fy Wv wt S) {K : WA} (hK : abM O wt br re la ha K) {p0 : Int} (hp0 : -2147483648 ≤ p0 ∧ p0 ≤ 2147483647) {p1 : Int} (hp1 : -2147483648 ≤ p1 ∧ p1 ≤ 2147483647) {p2 : Int} (hp2 : -2147483648 ≤ p2 ∧ p2 ≤ 2147483647) (hSk : 0 ≤ p1 ∧ p1 ≤ 99 → S p1.toNat = true) : xMet l G yX5_merge wsX5_merge 3 67 0 0 [.ref a, .int (iN (p0)), .int (iN (p1)), .int (iN (p2))] M (fun r M1 => ∃ (z th1 : Int), r = some (.int (iN z)) ∧ (-2147483648 ≤ z ∧ z ≤ 2147483647) ∧ ((th1 = 0 ∧ ((0 ≤ p0 ∧ p0 ≤ 2) ∧ ((0 ≤ p1 ∧ p1 ≤ 99) ∧ (-9999 ≤ p2 ∧ p2 ≤ 9999))) ∧ z = A_merge (O, V, Wv, K, kp, kv, rfd) p0 p1 p2 ∧ MGm G M1 a S th1 (S_merge (O, V, Wv, K, kp, kv, rfd) p0 p1 p2)) ∨ (th1 ≠ 0 ∧ ((th1 = 1 ∧ ¬ (0 ≤ p0 ∧ p0 ≤ 2)) ∨ (th1 = 2 ∧ (0 ≤ p0 ∧ p0 ≤ 2) ∧ ¬ ((0 ≤ p1 ∧ p1 ≤ 99) ∧ (-9999 ≤ p2 ∧ p2 ≤ 9999)))) ∧ MGm G M1 a S th1 (O, V, Wv, K, kp, kv, rfd)))) := by
  refine x_intro (cc := cX5_merge) (maxL := 4) (ret := (some .int)) (by decide +kernel) rfl (Nat.le_of_ble_eq_true rfl) ?_
  intro p e R s m args below meth c ls hRf hRc hRs hRl hC hw hl
  have hsc0 := hR.sc
  have hl : lv_has ls 4 [(0, .ref a), (1, .int (iN (p0))), (2, .int (iN (p1))), (3, .int (iN (p2)))] := hl
  refine lv_aload_n hC.1 hC.2.1 dX5_merge_0 rfl (lv_at hl 0 rfl) ?_
  refine lv_iload_n hC.1 hC.2.1 dX5_merge_1 rfl (lv_at hl 1 rfl) ?_
  refine lv_iload_n hC.1 hC.2.1 dX5_merge_2 rfl (lv_at hl 2 rfl) ?_
  refine lv_iload_n hC.1 hC.2.1 dX5_merge_3 rfl (lv_at hl 3 rfl) ?_
  refine x_callV hC hw (lv_size hl) (c_X5_isBad_ l G hR (p0 := p0) (by omega) (p1 := p1) (by omega) (p2 := p2) (by omega)) gX5_merge_X5_isBad_ rfl dv_X5_isBad_ hR.1.1 rfl rfl (Nat.le_of_ble_eq_true rfl) (by rw [hRf]; decide) (by rw [hRl]; decide) (by omega) (by omega) dX5_merge_4 (fun r9 M_1 H locs hq hw => ?_)
  obtain ⟨z_3, thk_2, rfl, hz_3a, hz_3b, hz_3c0, hz_3c1, hz_3c2, hx5k_2, hRk_2⟩ := hq
  have hsck_2 := hRk_2.sc
  show W p l e R s m args below meth c H locs _ _ _ (F0 m 7 ls [.int (iN (z_3))])
  refine x_if_eq (tgt := 12) hC ⟨by omega, by omega⟩ dX5_merge_7 (by decide) (fun c_4 => ?_) (fun c_4 => ?_)
  · refine lv_aload_n hC.1 hC.2.1 dX5_merge_12 rfl (lv_at hl 0 rfl) ?_
    refine lv_iload_n hC.1 hC.2.1 dX5_merge_13 rfl (lv_at hl 1 rfl) ?_
    refine x_callV hC hw (lv_size hl) (c_X5_touch l G hRk_2 (p0 := p0) (by omega) (by omega)) gX5_merge_X5_touch rfl dv_X5_touch hRk_2.1.1 rfl rfl (Nat.le_of_ble_eq_true rfl) (by rw [hRf]; decide) (by rw [hRl]; decide) (by omega) (by omega) dX5_merge_14 (fun r9 M_5 H locs hq hw => ?_)
    obtain ⟨hak_6, rfl, he0k_6, hx5k_6, hRk_6⟩ := hq
    have hsck_6 := hRk_6.sc
    show W p l e R s m args below meth c H locs _ _ _ (F0 m 17 ls [])
    refine lv_aload_n hC.1 hC.2.1 dX5_merge_17 rfl (lv_at hl 0 rfl) ?_
    refine lv_iload_n hC.1 hC.2.1 dX5_merge_18 rfl (lv_at hl 1 rfl) ?_
    refine lv_iload_n hC.1 hC.2.1 dX5_merge_19 rfl (lv_at hl 2 rfl) ?_
    refine lv_iload_n hC.1 hC.2.1 dX5_merge_20 rfl (lv_at hl 3 rfl) ?_
    refine x_callV hC hw (lv_size hl) (c_X5_mergeOf l G hRk_6 (p0 := p0) (by omega) (p1 := p1) (by omega) (p2 := p2) (by omega) (by omega) (by omega) (by omega) (by first | assumption | exact hSk (by omega) | assumption)) gX5_merge_X5_mergeOf rfl dv_X5_mergeOf hRk_6.1.1 rfl rfl (Nat.le_of_ble_eq_true rfl) (by rw [hRf]; decide) (by rw [hRl]; decide) (by omega) (by omega) dX5_merge_21 (fun r9 M_7 H locs hq hw => ?_)
    obtain ⟨z_9, brk_8, Vk_8, rfl, hz_9a, hz_9v, he0k_8, he1k_8, hx5k_8, hRk_8⟩ := hq
    have hsck_8 := hRk_8.sc
    show W p l e R s m args below meth c H locs _ _ _ (F0 m 24 ls [.int (iN (z_9))])
    exact x_iret hC hw dX5_merge_24 (by omega) (by omega) ⟨z_9, _, rfl, by omega, Or.inl ⟨by omega, by first | trivial | omega, (show _ = (mgN (V (p0).toNat (p1).toNat) p2) by first | rfl | omega | ((repeat' split) <;> first | rfl | omega)), (MGm.mut he1k_8 hRk_8 hK (bl_one (by omega) he0k_8) he0k_6 (congrArg (upV (V (p0).toNat) (p1).toNat) (show (mgN (V ((p0).toNat) ((p1).toNat)) p2) = (mgN (V (p0).toNat (p1).toNat) p2) by first | rfl | omega | ((repeat' split) <;> first | rfl | omega))))⟩⟩
  · refine x_const hC dX5_merge_10 ?_
    exact x_iret hC hw dX5_merge_11 (by omega) (by omega) ⟨0, _, rfl, by omega, Or.inr ⟨by omega, by omega, MGm.of hRk_2 hK⟩⟩
set_option maxHeartbeats 4000000 in
set_option maxRecDepth 100000 in
theorem c_X5_grow (l : Launch) (G : xG) {M : HM} {a va oa wa ya : Nat} {wk : Option Nat} {th : Int} {rfd : Int32} {br re la ha : Int} {kp kv : Int32} {qv qw : Nat → Nat} {fa fb : Nat → Option Nat} {V : BW} {O : OW} {fy : Nat → Option Nat} {Wv : VW} {wt : Option VT} {S : Nat → Bool} (hR : MGx G M a va oa wa ya wk th rfd br re la ha kp kv qv qw fa fb V O fy Wv wt S) {K : WA} (hK : abM O wt br re la ha K) {p0 : Int} (hp0 : -2147483648 ≤ p0 ∧ p0 ≤ 2147483647) {p1 : Int} (hp1 : -2147483648 ≤ p1 ∧ p1 ≤ 2147483647) (hSk : 0 ≤ p1 ∧ p1 ≤ 99 → S p1.toNat = true) : xMet l G yX5_grow wsX5_grow 3 66 0 0 [.ref a, .int (iN (p0)), .int (iN (p1))] M (fun r M1 => ∃ (z th1 : Int), r = some (.int (iN z)) ∧ (-2147483648 ≤ z ∧ z ≤ 2147483647) ∧ ((th1 = 0 ∧ ((0 ≤ p0 ∧ p0 ≤ 2) ∧ (0 ≤ p1 ∧ p1 ≤ 99)) ∧ z = A_grow (O, V, Wv, K, kp, kv, rfd) p0 p1 ∧ MGm G M1 a S th1 (S_grow (O, V, Wv, K, kp, kv, rfd) p0 p1)) ∨ (th1 ≠ 0 ∧ ((th1 = 1 ∧ ¬ (0 ≤ p0 ∧ p0 ≤ 2)) ∨ (th1 = 2 ∧ (0 ≤ p0 ∧ p0 ≤ 2) ∧ ¬ (0 ≤ p1 ∧ p1 ≤ 99))) ∧ MGm G M1 a S th1 (O, V, Wv, K, kp, kv, rfd)))) := by
  refine x_intro (cc := cX5_grow) (maxL := 3) (ret := (some .int)) (by decide +kernel) rfl (Nat.le_of_ble_eq_true rfl) ?_
  intro p e R s m args below meth c ls hRf hRc hRs hRl hC hw hl
  have hsc0 := hR.sc
  have hinX5 : ∀ w ∈ wsX50, w ∈ wsX5_grow := by decide +kernel
  have hl : lv_has ls 3 [(0, .ref a), (1, .int (iN (p0))), (2, .int (iN (p1)))] := hl
  refine lv_aload_n hC.1 hC.2.1 dX5_grow_0 rfl (lv_at hl 0 rfl) ?_
  refine lv_iload_n hC.1 hC.2.1 dX5_grow_1 rfl (lv_at hl 1 rfl) ?_
  refine lv_iload_n hC.1 hC.2.1 dX5_grow_2 rfl (lv_at hl 2 rfl) ?_
  refine x_callV hC hw (lv_size hl) (c_X5_isBad l G hR (p0 := p0) (by omega) (p1 := p1) (by omega)) gX5_grow_X5_isBad rfl dv_X5_isBad hR.1.1 rfl rfl (Nat.le_of_ble_eq_true rfl) (by rw [hRf]; decide) (by rw [hRl]; decide) (by omega) (by omega) dX5_grow_3 (fun r9 M_1 H locs hq hw => ?_)
  obtain ⟨z_3, thk_2, rfl, hz_3a, hz_3b, hz_3c0, hz_3c1, hz_3c2, hx5k_2, hRk_2⟩ := hq
  have hsck_2 := hRk_2.sc
  show W p l e R s m args below meth c H locs _ _ _ (F0 m 6 ls [.int (iN (z_3))])
  refine x_if_eq (tgt := 11) hC ⟨by omega, by omega⟩ dX5_grow_6 (by decide) (fun c_4 => ?_) (fun c_4 => ?_)
  · refine lv_aload_n hC.1 hC.2.1 dX5_grow_11 rfl (lv_at hl 0 rfl) ?_
    refine lv_iload_n hC.1 hC.2.1 dX5_grow_12 rfl (lv_at hl 1 rfl) ?_
    refine x_callV hC hw (lv_size hl) (c_X5_touch l G hRk_2 (p0 := p0) (by omega) (by omega)) gX5_grow_X5_touch rfl dv_X5_touch hRk_2.1.1 rfl rfl (Nat.le_of_ble_eq_true rfl) (by rw [hRf]; decide) (by rw [hRl]; decide) (by omega) (by omega) dX5_grow_13 (fun r9 M_5 H locs hq hw => ?_)
    obtain ⟨hak_6, rfl, he0k_6, hx5k_6, hRk_6⟩ := hq
    have hsck_6 := hRk_6.sc
    show W p l e R s m args below meth c H locs _ _ _ (F0 m 16 ls [])
    refine lv_aload_n hC.1 hC.2.1 dX5_grow_16 rfl (lv_at hl 0 rfl) ?_
    refine x_get hC hw hRk_6.1.1 rfl hinX5 2 (by decide) (by decide +kernel) rfl dX5_grow_17 ?_
    refine lv_iload_n hC.1 hC.2.1 dX5_grow_20 rfl (lv_at hl 1 rfl) ?_
    refine x_ald4 hC hw hRk_6.1.2.1 (by omega) (by omega) (by omega) dX5_grow_21 ?_
    rw [hRk_6.fa' (show (p0).toNat < 3 by omega)]
    show W p l e R s m args below meth c _ _ _ _ _ (F0 m 22 ls [.ref (qv ((p0).toNat))])
    refine lv_iload_n hC.1 hC.2.1 dX5_grow_22 rfl (lv_at hl 2 rfl) ?_
    refine x_ialdE (x := (V ((p0).toNat) ((p1).toNat))) hC hw (hRk_6.rv (show ((p0).toNat) < 3 by omega)) (by omega) (by omega) (by omega) dX5_grow_23 rfl ?_
    have hrv_7 := hRk_6.vr (show ((p0).toNat) < 3 by omega) (show (p1).toNat < 100 by omega)
    have hpv_7 := hRk_6.vs (show ((p0).toNat) < 3 by omega) (show (p1).toNat < 100 by omega)
    refine x_sipush hC dX5_grow_24 (by decide +kernel) ?_
    refine x_icmp_ne (tgt := 50) hC ⟨by omega, by omega⟩ ⟨by omega, by omega⟩ dX5_grow_27 (by decide) (fun c_8 => ?_) (fun c_8 => ?_)
    · refine lv_aload_n hC.1 hC.2.1 dX5_grow_50 rfl (lv_at hl 0 rfl) ?_
      refine x_get hC hw hRk_6.1.1 rfl hinX5 2 (by decide) (by decide +kernel) rfl dX5_grow_51 ?_
      refine lv_iload_n hC.1 hC.2.1 dX5_grow_54 rfl (lv_at hl 1 rfl) ?_
      refine x_ald4 hC hw hRk_6.1.2.1 (by omega) (by omega) (by omega) dX5_grow_55 ?_
      rw [hRk_6.fa' (show (p0).toNat < 3 by omega)]
      show W p l e R s m args below meth c _ _ _ _ _ (F0 m 56 ls [.ref (qv ((p0).toNat))])
      refine lv_iload_n hC.1 hC.2.1 dX5_grow_56 rfl (lv_at hl 2 rfl) ?_
      refine x_ialdE (x := (V ((p0).toNat) ((p1).toNat))) hC hw (hRk_6.rv (show ((p0).toNat) < 3 by omega)) (by omega) (by omega) (by omega) dX5_grow_57 rfl ?_
      have hrv_9 := hRk_6.vr (show ((p0).toNat) < 3 by omega) (show (p1).toNat < 100 by omega)
      have hpv_9 := hRk_6.vs (show ((p0).toNat) < 3 by omega) (show (p1).toNat < 100 by omega)
      exact x_iret hC hw dX5_grow_58 (by omega) (by omega) ⟨(V ((p0).toNat) ((p1).toNat)), _, rfl, by omega, Or.inl ⟨by omega, by first | trivial | omega, (show _ = (gwN (V (p0).toNat (p1).toNat) p1) by first | rfl | omega | ((repeat' split) <;> first | rfl | omega)), (MGm.mut (F := V ((p0).toNat)) (upB_self rfl).symm hRk_6 hK bl_rf he0k_6 (upV_self (show (V (p0).toNat (p1).toNat) = (gwN (V (p0).toNat (p1).toNat) p1) by first | rfl | omega | ((repeat' split) <;> first | rfl | omega))).symm)⟩⟩
    · refine lv_iload_n hC.1 hC.2.1 dX5_grow_30 rfl (lv_at hl 2 rfl) ?_
      refine x_bipush hC dX5_grow_31 (by decide +kernel) ?_
      refine x_irem hC ⟨by omega, by omega⟩ ⟨by omega, by omega⟩ (by omega) (by omega) dX5_grow_33 ?_
      obtain ⟨z_10, hz_10⟩ : ∃ z : Int, z = p1.tmod 7 := ⟨_, rfl⟩
      rw [← hz_10]
      have hrz_10 : -2147483648 ≤ z_10 ∧ z_10 ≤ 2147483647 := by rw [hz_10]; exact x_tmod_rng ⟨by omega, by omega⟩ (by omega)
      refine x_if_eq (tgt := 50) hC ⟨by omega, by omega⟩ dX5_grow_34 (by decide) (fun c_11 => ?_) (fun c_11 => ?_)
      · refine lv_aload_n hC.1 hC.2.1 dX5_grow_50 rfl (lv_at hl 0 rfl) ?_
        refine x_get hC hw hRk_6.1.1 rfl hinX5 2 (by decide) (by decide +kernel) rfl dX5_grow_51 ?_
        refine lv_iload_n hC.1 hC.2.1 dX5_grow_54 rfl (lv_at hl 1 rfl) ?_
        refine x_ald4 hC hw hRk_6.1.2.1 (by omega) (by omega) (by omega) dX5_grow_55 ?_
        rw [hRk_6.fa' (show (p0).toNat < 3 by omega)]
        show W p l e R s m args below meth c _ _ _ _ _ (F0 m 56 ls [.ref (qv ((p0).toNat))])
        refine lv_iload_n hC.1 hC.2.1 dX5_grow_56 rfl (lv_at hl 2 rfl) ?_
        refine x_ialdE (x := (V ((p0).toNat) ((p1).toNat))) hC hw (hRk_6.rv (show ((p0).toNat) < 3 by omega)) (by omega) (by omega) (by omega) dX5_grow_57 rfl ?_
        have hrv_12 := hRk_6.vr (show ((p0).toNat) < 3 by omega) (show (p1).toNat < 100 by omega)
        have hpv_12 := hRk_6.vs (show ((p0).toNat) < 3 by omega) (show (p1).toNat < 100 by omega)
        exact x_iret hC hw dX5_grow_58 (by omega) (by omega) ⟨(V ((p0).toNat) ((p1).toNat)), _, rfl, by omega, Or.inl ⟨by omega, by first | trivial | omega, (show _ = (gwN (V (p0).toNat (p1).toNat) p1) by first | rfl | omega | ((repeat' split) <;> first | rfl | omega)), (MGm.mut (F := V ((p0).toNat)) (upB_self rfl).symm hRk_6 hK bl_rf he0k_6 (upV_self (show (V (p0).toNat (p1).toNat) = (gwN (V (p0).toNat (p1).toNat) p1) by first | rfl | omega | ((repeat' split) <;> first | rfl | omega))).symm)⟩⟩
      · refine lv_aload_n hC.1 hC.2.1 dX5_grow_37 rfl (lv_at hl 0 rfl) ?_
        refine lv_iload_n hC.1 hC.2.1 dX5_grow_38 rfl (lv_at hl 1 rfl) ?_
        refine lv_iload_n hC.1 hC.2.1 dX5_grow_39 rfl (lv_at hl 2 rfl) ?_
        refine x_const hC dX5_grow_40 ?_
        refine lv_iload_n hC.1 hC.2.1 dX5_grow_41 rfl (lv_at hl 2 rfl) ?_
        refine x_imul hC dX5_grow_42 ?_
        refine x_bipush hC dX5_grow_43 (by decide +kernel) ?_
        refine x_isub hC dX5_grow_45 ?_
        refine x_callV hC hw (lv_size hl) (c_X5_set l G hRk_6 (p0 := p0) (by omega) (p1 := p1) (by omega) (p2 := ((3 * p1) - 50)) (by omega) (by omega) (by omega) (by omega) (by intro q9; first | exact absurd rfl q9 | assumption | exact hpv_7 q9 | exact hpv_7 (by omega) | exact hSk (by omega))) gX5_grow_X5_set rfl dv_X5_set hRk_6.1.1 rfl rfl (Nat.le_of_ble_eq_true rfl) (by rw [hRf]; decide) (by rw [hRl]; decide) (by omega) (by omega) dX5_grow_46 (fun r9 M_13 H locs hq hw => ?_)
        obtain ⟨z_15, brk_14, Vk_14, rfl, hz_15a, hz_15v, hz_15b, he0k_14, he1k_14, hx5k_14, hRk_14⟩ := hq
        have hsck_14 := hRk_14.sc
        show W p l e R s m args below meth c H locs _ _ _ (F0 m 49 ls [.int (iN (z_15))])
        refine lv_pop hC.1 hC.2.1 dX5_grow_49 rfl ?_
        refine lv_aload_n hC.1 hC.2.1 dX5_grow_50 rfl (lv_at hl 0 rfl) ?_
        refine x_get hC hw hRk_14.1.1 rfl hinX5 2 (by decide) (by decide +kernel) rfl dX5_grow_51 ?_
        refine lv_iload_n hC.1 hC.2.1 dX5_grow_54 rfl (lv_at hl 1 rfl) ?_
        refine x_ald4 hC hw hRk_14.1.2.1 (by omega) (by omega) (by omega) dX5_grow_55 ?_
        rw [hRk_14.fa' (show (p0).toNat < 3 by omega)]
        show W p l e R s m args below meth c _ _ _ _ _ (F0 m 56 ls [.ref (qv ((p0).toNat))])
        refine lv_iload_n hC.1 hC.2.1 dX5_grow_56 rfl (lv_at hl 2 rfl) ?_
        refine x_ialdE (x := (Vk_14 ((p0).toNat) ((p1).toNat))) hC hw (hRk_14.rv (show ((p0).toNat) < 3 by omega)) (by omega) (by omega) (by omega) dX5_grow_57 rfl ?_
        have hrv_16 := hRk_14.vr (show ((p0).toNat) < 3 by omega) (show (p1).toNat < 100 by omega)
        have hpv_16 := hRk_14.vs (show ((p0).toNat) < 3 by omega) (show (p1).toNat < 100 by omega)
        exact x_iret hC hw dX5_grow_58 (by omega) (by omega) ⟨(Vk_14 ((p0).toNat) ((p1).toNat)), _, rfl, by omega, Or.inl ⟨by omega, by first | trivial | omega, (show _ = (gwN (V (p0).toNat (p1).toNat) p1) by have e9 := upB_upV he1k_14; first | rfl | omega | ((repeat' split) <;> first | rfl | omega)), (MGm.mut he1k_14 hRk_14 hK (bl_one (by omega) he0k_14) he0k_6 (congrArg (upV (V (p0).toNat) (p1).toNat) (show ((3 * p1) - 50) = (gwN (V (p0).toNat (p1).toNat) p1) by first | rfl | omega | ((repeat' split) <;> first | rfl | omega))))⟩⟩
  · refine x_const hC dX5_grow_9 ?_
    exact x_iret hC hw dX5_grow_10 (by omega) (by omega) ⟨0, _, rfl, by omega, Or.inr ⟨by omega, by omega, MGm.of hRk_2 hK⟩⟩
set_option maxHeartbeats 4000000 in
set_option maxRecDepth 100000 in
theorem c_X5_halve (l : Launch) (G : xG) {M : HM} {a va oa wa ya : Nat} {wk : Option Nat} {th : Int} {rfd : Int32} {br re la ha : Int} {kp kv : Int32} {qv qw : Nat → Nat} {fa fb : Nat → Option Nat} {V : BW} {O : OW} {fy : Nat → Option Nat} {Wv : VW} {wt : Option VT} {S : Nat → Bool} (hR : MGx G M a va oa wa ya wk th rfd br re la ha kp kv qv qw fa fb V O fy Wv wt S) {K : WA} (hK : abM O wt br re la ha K) {p0 : Int} (hp0 : -2147483648 ≤ p0 ∧ p0 ≤ 2147483647) {p1 : Int} (hp1 : -2147483648 ≤ p1 ∧ p1 ≤ 2147483647) : xMet l G yX5_halve wsX5_halve 3 66 0 0 [.ref a, .int (iN (p0)), .int (iN (p1))] M (fun r M1 => ∃ (z th1 : Int), r = some (.int (iN z)) ∧ (-2147483648 ≤ z ∧ z ≤ 2147483647) ∧ ((th1 = 0 ∧ ((0 ≤ p0 ∧ p0 ≤ 2) ∧ (0 ≤ p1 ∧ p1 ≤ 99)) ∧ z = A_halve (O, V, Wv, K, kp, kv, rfd) p0 p1 ∧ MGm G M1 a S th1 (S_halve (O, V, Wv, K, kp, kv, rfd) p0 p1)) ∨ (th1 ≠ 0 ∧ ((th1 = 1 ∧ ¬ (0 ≤ p0 ∧ p0 ≤ 2)) ∨ (th1 = 2 ∧ (0 ≤ p0 ∧ p0 ≤ 2) ∧ ¬ (0 ≤ p1 ∧ p1 ≤ 99))) ∧ MGm G M1 a S th1 (O, V, Wv, K, kp, kv, rfd)))) := by
  refine x_intro (cc := cX5_halve) (maxL := 4) (ret := (some .int)) (by decide +kernel) rfl (Nat.le_of_ble_eq_true rfl) ?_
  intro p e R s m args below meth c ls hRf hRc hRs hRl hC hw hl
  have hsc0 := hR.sc
  have hinX5 : ∀ w ∈ wsX50, w ∈ wsX5_halve := by decide +kernel
  have hl : lv_has ls 4 [(0, .ref a), (1, .int (iN (p0))), (2, .int (iN (p1)))] := hl
  refine lv_aload_n hC.1 hC.2.1 dX5_halve_0 rfl (lv_at hl 0 rfl) ?_
  refine lv_iload_n hC.1 hC.2.1 dX5_halve_1 rfl (lv_at hl 1 rfl) ?_
  refine lv_iload_n hC.1 hC.2.1 dX5_halve_2 rfl (lv_at hl 2 rfl) ?_
  refine x_callV hC hw (lv_size hl) (c_X5_isBad l G hR (p0 := p0) (by omega) (p1 := p1) (by omega)) gX5_halve_X5_isBad rfl dv_X5_isBad hR.1.1 rfl rfl (Nat.le_of_ble_eq_true rfl) (by rw [hRf]; decide) (by rw [hRl]; decide) (by omega) (by omega) dX5_halve_3 (fun r9 M_1 H locs hq hw => ?_)
  obtain ⟨z_3, thk_2, rfl, hz_3a, hz_3b, hz_3c0, hz_3c1, hz_3c2, hx5k_2, hRk_2⟩ := hq
  have hsck_2 := hRk_2.sc
  show W p l e R s m args below meth c H locs _ _ _ (F0 m 6 ls [.int (iN (z_3))])
  refine x_if_eq (tgt := 11) hC ⟨by omega, by omega⟩ dX5_halve_6 (by decide) (fun c_4 => ?_) (fun c_4 => ?_)
  · refine lv_aload_n hC.1 hC.2.1 dX5_halve_11 rfl (lv_at hl 0 rfl) ?_
    refine lv_iload_n hC.1 hC.2.1 dX5_halve_12 rfl (lv_at hl 1 rfl) ?_
    refine x_callV hC hw (lv_size hl) (c_X5_touch l G hRk_2 (p0 := p0) (by omega) (by omega)) gX5_halve_X5_touch rfl dv_X5_touch hRk_2.1.1 rfl rfl (Nat.le_of_ble_eq_true rfl) (by rw [hRf]; decide) (by rw [hRl]; decide) (by omega) (by omega) dX5_halve_13 (fun r9 M_5 H locs hq hw => ?_)
    obtain ⟨hak_6, rfl, he0k_6, hx5k_6, hRk_6⟩ := hq
    have hsck_6 := hRk_6.sc
    show W p l e R s m args below meth c H locs _ _ _ (F0 m 16 ls [])
    refine lv_aload_n hC.1 hC.2.1 dX5_halve_16 rfl (lv_at hl 0 rfl) ?_
    refine x_get hC hw hRk_6.1.1 rfl hinX5 2 (by decide) (by decide +kernel) rfl dX5_halve_17 ?_
    refine lv_iload_n hC.1 hC.2.1 dX5_halve_20 rfl (lv_at hl 1 rfl) ?_
    refine x_ald4 hC hw hRk_6.1.2.1 (by omega) (by omega) (by omega) dX5_halve_21 ?_
    rw [hRk_6.fa' (show (p0).toNat < 3 by omega)]
    show W p l e R s m args below meth c _ _ _ _ _ (F0 m 22 ls [.ref (qv ((p0).toNat))])
    refine lv_iload_n hC.1 hC.2.1 dX5_halve_22 rfl (lv_at hl 2 rfl) ?_
    refine x_ialdE (x := (V ((p0).toNat) ((p1).toNat))) hC hw (hRk_6.rv (show ((p0).toNat) < 3 by omega)) (by omega) (by omega) (by omega) dX5_halve_23 rfl ?_
    have hrv_7 := hRk_6.vr (show ((p0).toNat) < 3 by omega) (show (p1).toNat < 100 by omega)
    have hpv_7 := hRk_6.vs (show ((p0).toNat) < 3 by omega) (show (p1).toNat < 100 by omega)
    refine lv_istore_n (lv' := [(3, .int (iN ((V ((p0).toNat) ((p1).toNat))))), (0, .ref a), (1, .int (iN (p0))), (2, .int (iN (p1)))]) hC.1 hC.2.1 dX5_halve_24 rfl hl (by decide) rfl (fun ls hl => ?_)
    refine lv_iload_n hC.1 hC.2.1 dX5_halve_25 rfl (lv_at hl 0 rfl) ?_
    refine x_sipush hC dX5_halve_26 (by decide +kernel) ?_
    refine x_icmp_eq (tgt := 54) hC ⟨by omega, by omega⟩ ⟨by omega, by omega⟩ dX5_halve_29 (by decide) (fun c_8 => ?_) (fun c_8 => ?_)
    · refine lv_aload_n hC.1 hC.2.1 dX5_halve_54 rfl (lv_at hl 1 rfl) ?_
      refine x_get hC hw hRk_6.1.1 rfl hinX5 2 (by decide) (by decide +kernel) rfl dX5_halve_55 ?_
      refine lv_iload_n hC.1 hC.2.1 dX5_halve_58 rfl (lv_at hl 2 rfl) ?_
      refine x_ald4 hC hw hRk_6.1.2.1 (by omega) (by omega) (by omega) dX5_halve_59 ?_
      rw [hRk_6.fa' (show (p0).toNat < 3 by omega)]
      show W p l e R s m args below meth c _ _ _ _ _ (F0 m 60 ls [.ref (qv ((p0).toNat))])
      refine lv_iload_n hC.1 hC.2.1 dX5_halve_60 rfl (lv_at hl 3 rfl) ?_
      refine x_ialdE (x := (V ((p0).toNat) ((p1).toNat))) hC hw (hRk_6.rv (show ((p0).toNat) < 3 by omega)) (by omega) (by omega) (by omega) dX5_halve_61 rfl ?_
      have hrv_9 := hRk_6.vr (show ((p0).toNat) < 3 by omega) (show (p1).toNat < 100 by omega)
      have hpv_9 := hRk_6.vs (show ((p0).toNat) < 3 by omega) (show (p1).toNat < 100 by omega)
      exact x_iret hC hw dX5_halve_62 (by omega) (by omega) ⟨(V ((p0).toNat) ((p1).toNat)), _, rfl, by omega, Or.inl ⟨by omega, by first | trivial | omega, (show _ = (hvN (V (p0).toNat (p1).toNat)) by first | rfl | omega | ((repeat' split) <;> first | rfl | omega)), (MGm.mut (F := V ((p0).toNat)) (upB_self rfl).symm hRk_6 hK bl_rf he0k_6 (upV_self (show (V (p0).toNat (p1).toNat) = (hvN (V (p0).toNat (p1).toNat)) by first | rfl | omega | ((repeat' split) <;> first | rfl | omega))).symm)⟩⟩
    · refine lv_aload_n hC.1 hC.2.1 dX5_halve_32 rfl (lv_at hl 1 rfl) ?_
      refine lv_iload_n hC.1 hC.2.1 dX5_halve_33 rfl (lv_at hl 2 rfl) ?_
      refine lv_iload_n hC.1 hC.2.1 dX5_halve_34 rfl (lv_at hl 3 rfl) ?_
      refine lv_iload_n hC.1 hC.2.1 dX5_halve_35 rfl (lv_at hl 0 rfl) ?_
      refine x_const hC dX5_halve_36 ?_
      refine x_idiv hC ⟨by omega, by omega⟩ ⟨by omega, by omega⟩ (by omega) (by omega) dX5_halve_37 ?_
      obtain ⟨z_10, hz_10⟩ : ∃ z : Int, z = (V ((p0).toNat) ((p1).toNat)).tdiv 2 := ⟨_, rfl⟩
      rw [← hz_10]
      have hrz_10 : -2147483648 ≤ z_10 ∧ z_10 ≤ 2147483647 := by rw [hz_10]; exact x_tdiv_rng ⟨by omega, by omega⟩ ⟨by omega, by omega⟩
      have hdz_10 := x_tdb hz_10
      refine x_if_ne (tgt := 47) hC ⟨by omega, by omega⟩ dX5_halve_38 (by decide) (fun c_11 => ?_) (fun c_11 => ?_)
      · refine lv_iload_n hC.1 hC.2.1 dX5_halve_47 rfl (lv_at hl 0 rfl) ?_
        refine x_const hC dX5_halve_48 ?_
        refine x_idiv hC ⟨by omega, by omega⟩ ⟨by omega, by omega⟩ (by omega) (by omega) dX5_halve_49 ?_
        obtain ⟨z_12, hz_12⟩ : ∃ z : Int, z = (V ((p0).toNat) ((p1).toNat)).tdiv 2 := ⟨_, rfl⟩
        rw [← hz_12]
        have hrz_12 : -2147483648 ≤ z_12 ∧ z_12 ≤ 2147483647 := by rw [hz_12]; exact x_tdiv_rng ⟨by omega, by omega⟩ ⟨by omega, by omega⟩
        have hdz_12 := x_tdb hz_12
        refine x_callV hC hw (lv_size hl) (c_X5_set l G hRk_6 (p0 := p0) (by omega) (p1 := p1) (by omega) (p2 := z_12) (by omega) (by omega) (by omega) (by omega) (by intro q9; first | exact absurd rfl q9 | assumption | exact hpv_7 q9 | exact hpv_7 (by omega))) gX5_halve_X5_set rfl dv_X5_set hRk_6.1.1 rfl rfl (Nat.le_of_ble_eq_true rfl) (by rw [hRf]; decide) (by rw [hRl]; decide) (by omega) (by omega) dX5_halve_50 (fun r9 M_13 H locs hq hw => ?_)
        obtain ⟨z_15, brk_14, Vk_14, rfl, hz_15a, hz_15v, hz_15b, he0k_14, he1k_14, hx5k_14, hRk_14⟩ := hq
        have hsck_14 := hRk_14.sc
        show W p l e R s m args below meth c H locs _ _ _ (F0 m 53 ls [.int (iN (z_15))])
        refine lv_pop hC.1 hC.2.1 dX5_halve_53 rfl ?_
        refine lv_aload_n hC.1 hC.2.1 dX5_halve_54 rfl (lv_at hl 1 rfl) ?_
        refine x_get hC hw hRk_14.1.1 rfl hinX5 2 (by decide) (by decide +kernel) rfl dX5_halve_55 ?_
        refine lv_iload_n hC.1 hC.2.1 dX5_halve_58 rfl (lv_at hl 2 rfl) ?_
        refine x_ald4 hC hw hRk_14.1.2.1 (by omega) (by omega) (by omega) dX5_halve_59 ?_
        rw [hRk_14.fa' (show (p0).toNat < 3 by omega)]
        show W p l e R s m args below meth c _ _ _ _ _ (F0 m 60 ls [.ref (qv ((p0).toNat))])
        refine lv_iload_n hC.1 hC.2.1 dX5_halve_60 rfl (lv_at hl 3 rfl) ?_
        refine x_ialdE (x := (Vk_14 ((p0).toNat) ((p1).toNat))) hC hw (hRk_14.rv (show ((p0).toNat) < 3 by omega)) (by omega) (by omega) (by omega) dX5_halve_61 rfl ?_
        have hrv_16 := hRk_14.vr (show ((p0).toNat) < 3 by omega) (show (p1).toNat < 100 by omega)
        have hpv_16 := hRk_14.vs (show ((p0).toNat) < 3 by omega) (show (p1).toNat < 100 by omega)
        exact x_iret hC hw dX5_halve_62 (by omega) (by omega) ⟨(Vk_14 ((p0).toNat) ((p1).toNat)), _, rfl, by omega, Or.inl ⟨by omega, by first | trivial | omega, (show _ = (hvN (V (p0).toNat (p1).toNat)) by have e9 := upB_upV he1k_14; first | rfl | omega | ((repeat' split) <;> first | rfl | omega)), (MGm.mut he1k_14 hRk_14 hK (bl_one (by omega) he0k_14) he0k_6 (congrArg (upV (V (p0).toNat) (p1).toNat) (show z_12 = (hvN (V (p0).toNat (p1).toNat)) by first | rfl | omega | ((repeat' split) <;> first | rfl | omega))))⟩⟩
      · refine x_sipush hC dX5_halve_41 (by decide +kernel) ?_
        refine lv_goto (tgt := 50) hC.1 hC.2.1 dX5_halve_44 (by decide) ?_
        refine x_callV hC hw (lv_size hl) (c_X5_set l G hRk_6 (p0 := p0) (by omega) (p1 := p1) (by omega) (p2 := (-10000)) (by omega) (by omega) (by omega) (by omega) (fun q9 => absurd rfl q9)) gX5_halve_X5_set rfl dv_X5_set hRk_6.1.1 rfl rfl (Nat.le_of_ble_eq_true rfl) (by rw [hRf]; decide) (by rw [hRl]; decide) (by omega) (by omega) dX5_halve_50 (fun r9 M_17 H locs hq hw => ?_)
        obtain ⟨z_19, brk_18, Vk_18, rfl, hz_19a, hz_19v, hz_19b, he0k_18, he1k_18, hx5k_18, hRk_18⟩ := hq
        have hsck_18 := hRk_18.sc
        show W p l e R s m args below meth c H locs _ _ _ (F0 m 53 ls [.int (iN (z_19))])
        refine lv_pop hC.1 hC.2.1 dX5_halve_53 rfl ?_
        refine lv_aload_n hC.1 hC.2.1 dX5_halve_54 rfl (lv_at hl 1 rfl) ?_
        refine x_get hC hw hRk_18.1.1 rfl hinX5 2 (by decide) (by decide +kernel) rfl dX5_halve_55 ?_
        refine lv_iload_n hC.1 hC.2.1 dX5_halve_58 rfl (lv_at hl 2 rfl) ?_
        refine x_ald4 hC hw hRk_18.1.2.1 (by omega) (by omega) (by omega) dX5_halve_59 ?_
        rw [hRk_18.fa' (show (p0).toNat < 3 by omega)]
        show W p l e R s m args below meth c _ _ _ _ _ (F0 m 60 ls [.ref (qv ((p0).toNat))])
        refine lv_iload_n hC.1 hC.2.1 dX5_halve_60 rfl (lv_at hl 3 rfl) ?_
        refine x_ialdE (x := (Vk_18 ((p0).toNat) ((p1).toNat))) hC hw (hRk_18.rv (show ((p0).toNat) < 3 by omega)) (by omega) (by omega) (by omega) dX5_halve_61 rfl ?_
        have hrv_20 := hRk_18.vr (show ((p0).toNat) < 3 by omega) (show (p1).toNat < 100 by omega)
        have hpv_20 := hRk_18.vs (show ((p0).toNat) < 3 by omega) (show (p1).toNat < 100 by omega)
        exact x_iret hC hw dX5_halve_62 (by omega) (by omega) ⟨(Vk_18 ((p0).toNat) ((p1).toNat)), _, rfl, by omega, Or.inl ⟨by omega, by first | trivial | omega, (show _ = (hvN (V (p0).toNat (p1).toNat)) by have e9 := upB_upV he1k_18; first | rfl | omega | ((repeat' split) <;> first | rfl | omega)), (MGm.mut he1k_18 hRk_18 hK (bl_one (by omega) he0k_18) he0k_6 (congrArg (upV (V (p0).toNat) (p1).toNat) (show (-10000) = (hvN (V (p0).toNat (p1).toNat)) by first | rfl | omega | ((repeat' split) <;> first | rfl | omega))))⟩⟩
  · refine x_const hC dX5_halve_9 ?_
    exact x_iret hC hw dX5_halve_10 (by omega) (by omega) ⟨0, _, rfl, by omega, Or.inr ⟨by omega, by omega, MGm.of hRk_2 hK⟩⟩
set_option maxHeartbeats 4000000 in
set_option maxRecDepth 100000 in
theorem c_X5_twice (l : Launch) (G : xG) {M : HM} {a va oa wa ya : Nat} {wk : Option Nat} {th : Int} {rfd : Int32} {br re la ha : Int} {kp kv : Int32} {qv qw : Nat → Nat} {fa fb : Nat → Option Nat} {V : BW} {O : OW} {fy : Nat → Option Nat} {Wv : VW} {wt : Option VT} {S : Nat → Bool} (hR : MGx G M a va oa wa ya wk th rfd br re la ha kp kv qv qw fa fb V O fy Wv wt S) {K : WA} (hK : abM O wt br re la ha K) {p0 : Int} (hp0 : -2147483648 ≤ p0 ∧ p0 ≤ 2147483647) {p1 : Int} (hp1 : -2147483648 ≤ p1 ∧ p1 ≤ 2147483647) (hSk : 0 ≤ p1 ∧ p1 ≤ 99 → S p1.toNat = true) : xMet l G yX5_twice wsX5_twice 3 66 0 0 [.ref a, .int (iN (p0)), .int (iN (p1))] M (fun r M1 => ∃ (z th1 : Int), r = some (.int (iN z)) ∧ (-2147483648 ≤ z ∧ z ≤ 2147483647) ∧ ((th1 = 0 ∧ ((0 ≤ p0 ∧ p0 ≤ 2) ∧ (0 ≤ p1 ∧ p1 ≤ 99)) ∧ z = A_twice (O, V, Wv, K, kp, kv, rfd) p0 p1 ∧ MGm G M1 a S th1 (S_twice (O, V, Wv, K, kp, kv, rfd) p0 p1)) ∨ (th1 ≠ 0 ∧ ((th1 = 1 ∧ ¬ (0 ≤ p0 ∧ p0 ≤ 2)) ∨ (th1 = 2 ∧ (0 ≤ p0 ∧ p0 ≤ 2) ∧ ¬ (0 ≤ p1 ∧ p1 ≤ 99))) ∧ MGm G M1 a S th1 (O, V, Wv, K, kp, kv, rfd)))) := by
  refine x_intro (cc := cX5_twice) (maxL := 4) (ret := (some .int)) (by decide +kernel) rfl (Nat.le_of_ble_eq_true rfl) ?_
  intro p e R s m args below meth c ls hRf hRc hRs hRl hC hw hl
  have hsc0 := hR.sc
  have hinX5 : ∀ w ∈ wsX50, w ∈ wsX5_twice := by decide +kernel
  have hl : lv_has ls 4 [(0, .ref a), (1, .int (iN (p0))), (2, .int (iN (p1)))] := hl
  refine lv_aload_n hC.1 hC.2.1 dX5_twice_0 rfl (lv_at hl 0 rfl) ?_
  refine lv_iload_n hC.1 hC.2.1 dX5_twice_1 rfl (lv_at hl 1 rfl) ?_
  refine lv_iload_n hC.1 hC.2.1 dX5_twice_2 rfl (lv_at hl 2 rfl) ?_
  refine x_callV hC hw (lv_size hl) (c_X5_isBad l G hR (p0 := p0) (by omega) (p1 := p1) (by omega)) gX5_twice_X5_isBad rfl dv_X5_isBad hR.1.1 rfl rfl (Nat.le_of_ble_eq_true rfl) (by rw [hRf]; decide) (by rw [hRl]; decide) (by omega) (by omega) dX5_twice_3 (fun r9 M_1 H locs hq hw => ?_)
  obtain ⟨z_3, thk_2, rfl, hz_3a, hz_3b, hz_3c0, hz_3c1, hz_3c2, hx5k_2, hRk_2⟩ := hq
  have hsck_2 := hRk_2.sc
  show W p l e R s m args below meth c H locs _ _ _ (F0 m 6 ls [.int (iN (z_3))])
  refine x_if_eq (tgt := 11) hC ⟨by omega, by omega⟩ dX5_twice_6 (by decide) (fun c_4 => ?_) (fun c_4 => ?_)
  · refine lv_aload_n hC.1 hC.2.1 dX5_twice_11 rfl (lv_at hl 0 rfl) ?_
    refine lv_iload_n hC.1 hC.2.1 dX5_twice_12 rfl (lv_at hl 1 rfl) ?_
    refine x_callV hC hw (lv_size hl) (c_X5_touch l G hRk_2 (p0 := p0) (by omega) (by omega)) gX5_twice_X5_touch rfl dv_X5_touch hRk_2.1.1 rfl rfl (Nat.le_of_ble_eq_true rfl) (by rw [hRf]; decide) (by rw [hRl]; decide) (by omega) (by omega) dX5_twice_13 (fun r9 M_5 H locs hq hw => ?_)
    obtain ⟨hak_6, rfl, he0k_6, hx5k_6, hRk_6⟩ := hq
    have hsck_6 := hRk_6.sc
    show W p l e R s m args below meth c H locs _ _ _ (F0 m 16 ls [])
    refine lv_aload_n hC.1 hC.2.1 dX5_twice_16 rfl (lv_at hl 0 rfl) ?_
    refine x_get hC hw hRk_6.1.1 rfl hinX5 2 (by decide) (by decide +kernel) rfl dX5_twice_17 ?_
    refine lv_iload_n hC.1 hC.2.1 dX5_twice_20 rfl (lv_at hl 1 rfl) ?_
    refine x_ald4 hC hw hRk_6.1.2.1 (by omega) (by omega) (by omega) dX5_twice_21 ?_
    rw [hRk_6.fa' (show (p0).toNat < 3 by omega)]
    show W p l e R s m args below meth c _ _ _ _ _ (F0 m 22 ls [.ref (qv ((p0).toNat))])
    refine lv_iload_n hC.1 hC.2.1 dX5_twice_22 rfl (lv_at hl 2 rfl) ?_
    refine x_ialdE (x := (V ((p0).toNat) ((p1).toNat))) hC hw (hRk_6.rv (show ((p0).toNat) < 3 by omega)) (by omega) (by omega) (by omega) dX5_twice_23 rfl ?_
    have hrv_7 := hRk_6.vr (show ((p0).toNat) < 3 by omega) (show (p1).toNat < 100 by omega)
    have hpv_7 := hRk_6.vs (show ((p0).toNat) < 3 by omega) (show (p1).toNat < 100 by omega)
    refine lv_istore_n (lv' := [(3, .int (iN ((V ((p0).toNat) ((p1).toNat))))), (0, .ref a), (1, .int (iN (p0))), (2, .int (iN (p1)))]) hC.1 hC.2.1 dX5_twice_24 rfl hl (by decide) rfl (fun ls hl => ?_)
    refine lv_aload_n hC.1 hC.2.1 dX5_twice_25 rfl (lv_at hl 1 rfl) ?_
    refine lv_iload_n hC.1 hC.2.1 dX5_twice_26 rfl (lv_at hl 2 rfl) ?_
    refine lv_iload_n hC.1 hC.2.1 dX5_twice_27 rfl (lv_at hl 3 rfl) ?_
    refine lv_iload_n hC.1 hC.2.1 dX5_twice_28 rfl (lv_at hl 0 rfl) ?_
    refine x_sipush hC dX5_twice_29 (by decide +kernel) ?_
    refine x_icmp_ne (tgt := 39) hC ⟨by omega, by omega⟩ ⟨by omega, by omega⟩ dX5_twice_32 (by decide) (fun c_8 => ?_) (fun c_8 => ?_)
    · refine lv_iload_n hC.1 hC.2.1 dX5_twice_39 rfl (lv_at hl 0 rfl) ?_
      refine x_sipush hC dX5_twice_40 (by decide +kernel) ?_
      refine x_sipush hC dX5_twice_43 (by decide +kernel) ?_
      refine x_callS hC hw (lv_size hl) (c_X5_isIn l G (M := M_5) (p0 := (V ((p0).toNat) ((p1).toNat))) (by omega) (p1 := (-500)) (by omega) (p2 := 500) (by omega)) gX5_twice_X5_isIn rfl dv_X5_isIn_s rfl (Nat.le_of_ble_eq_true rfl) (by rw [hRf]; decide) (by rw [hRl]; decide) (by omega) (by omega) dX5_twice_46 (fun r9 M_9 H locs hq hw => ?_)
      obtain ⟨z_10, rfl, hM9, hz_10a, hz_10b, hz_10c⟩ := hq
      rw [hM9] at hw
      show W p l e R s m args below meth c H locs _ _ _ (F0 m 49 ls [.int (iN (z_10)), .int (iN (p1)), .int (iN (p0)), .ref a])
      refine x_if_eq (tgt := 58) hC ⟨by omega, by omega⟩ dX5_twice_49 (by decide) (fun c_11 => ?_) (fun c_11 => ?_)
      · refine x_sipush hC dX5_twice_58 (by decide +kernel) ?_
        refine x_callV hC hw (lv_size hl) (c_X5_set l G hRk_6 (p0 := p0) (by omega) (p1 := p1) (by omega) (p2 := (-10000)) (by omega) (by omega) (by omega) (by omega) (fun q9 => absurd rfl q9)) gX5_twice_X5_set rfl dv_X5_set hRk_6.1.1 rfl rfl (Nat.le_of_ble_eq_true rfl) (by rw [hRf]; decide) (by rw [hRl]; decide) (by omega) (by omega) dX5_twice_61 (fun r9 M_12 H locs hq hw => ?_)
        obtain ⟨z_14, brk_13, Vk_13, rfl, hz_14a, hz_14v, hz_14b, he0k_13, he1k_13, hx5k_13, hRk_13⟩ := hq
        have hsck_13 := hRk_13.sc
        show W p l e R s m args below meth c H locs _ _ _ (F0 m 64 ls [.int (iN (z_14))])
        refine lv_pop hC.1 hC.2.1 dX5_twice_64 rfl ?_
        refine lv_aload_n hC.1 hC.2.1 dX5_twice_65 rfl (lv_at hl 1 rfl) ?_
        refine x_get hC hw hRk_13.1.1 rfl hinX5 2 (by decide) (by decide +kernel) rfl dX5_twice_66 ?_
        refine lv_iload_n hC.1 hC.2.1 dX5_twice_69 rfl (lv_at hl 2 rfl) ?_
        refine x_ald4 hC hw hRk_13.1.2.1 (by omega) (by omega) (by omega) dX5_twice_70 ?_
        rw [hRk_13.fa' (show (p0).toNat < 3 by omega)]
        show W p l e R s m args below meth c _ _ _ _ _ (F0 m 71 ls [.ref (qv ((p0).toNat))])
        refine lv_iload_n hC.1 hC.2.1 dX5_twice_71 rfl (lv_at hl 3 rfl) ?_
        refine x_ialdE (x := (Vk_13 ((p0).toNat) ((p1).toNat))) hC hw (hRk_13.rv (show ((p0).toNat) < 3 by omega)) (by omega) (by omega) (by omega) dX5_twice_72 rfl ?_
        have hrv_15 := hRk_13.vr (show ((p0).toNat) < 3 by omega) (show (p1).toNat < 100 by omega)
        have hpv_15 := hRk_13.vs (show ((p0).toNat) < 3 by omega) (show (p1).toNat < 100 by omega)
        exact x_iret hC hw dX5_twice_73 (by omega) (by omega) ⟨(Vk_13 ((p0).toNat) ((p1).toNat)), _, rfl, by omega, Or.inl ⟨by omega, by first | trivial | omega, (show _ = (twN (V (p0).toNat (p1).toNat) p1) by have e9 := upB_upV he1k_13; first | rfl | omega | ((repeat' split) <;> first | rfl | omega)), (MGm.mut he1k_13 hRk_13 hK (bl_one (by omega) he0k_13) he0k_6 (congrArg (upV (V (p0).toNat) (p1).toNat) (show (-10000) = (twN (V (p0).toNat (p1).toNat) p1) by first | rfl | omega | ((repeat' split) <;> first | rfl | omega))))⟩⟩
      · refine x_const hC dX5_twice_52 ?_
        refine lv_iload_n hC.1 hC.2.1 dX5_twice_53 rfl (lv_at hl 0 rfl) ?_
        refine x_imul hC dX5_twice_54 ?_
        refine lv_goto (tgt := 61) hC.1 hC.2.1 dX5_twice_55 (by decide) ?_
        refine x_callV hC hw (lv_size hl) (c_X5_set l G hRk_6 (p0 := p0) (by omega) (p1 := p1) (by omega) (p2 := (2 * (V ((p0).toNat) ((p1).toNat)))) (by omega) (by omega) (by omega) (by omega) (by intro q9; first | exact absurd rfl q9 | assumption | exact hpv_7 q9 | exact hpv_7 (by omega) | exact hSk (by omega))) gX5_twice_X5_set rfl dv_X5_set hRk_6.1.1 rfl rfl (Nat.le_of_ble_eq_true rfl) (by rw [hRf]; decide) (by rw [hRl]; decide) (by omega) (by omega) dX5_twice_61 (fun r9 M_16 H locs hq hw => ?_)
        obtain ⟨z_18, brk_17, Vk_17, rfl, hz_18a, hz_18v, hz_18b, he0k_17, he1k_17, hx5k_17, hRk_17⟩ := hq
        have hsck_17 := hRk_17.sc
        show W p l e R s m args below meth c H locs _ _ _ (F0 m 64 ls [.int (iN (z_18))])
        refine lv_pop hC.1 hC.2.1 dX5_twice_64 rfl ?_
        refine lv_aload_n hC.1 hC.2.1 dX5_twice_65 rfl (lv_at hl 1 rfl) ?_
        refine x_get hC hw hRk_17.1.1 rfl hinX5 2 (by decide) (by decide +kernel) rfl dX5_twice_66 ?_
        refine lv_iload_n hC.1 hC.2.1 dX5_twice_69 rfl (lv_at hl 2 rfl) ?_
        refine x_ald4 hC hw hRk_17.1.2.1 (by omega) (by omega) (by omega) dX5_twice_70 ?_
        rw [hRk_17.fa' (show (p0).toNat < 3 by omega)]
        show W p l e R s m args below meth c _ _ _ _ _ (F0 m 71 ls [.ref (qv ((p0).toNat))])
        refine lv_iload_n hC.1 hC.2.1 dX5_twice_71 rfl (lv_at hl 3 rfl) ?_
        refine x_ialdE (x := (Vk_17 ((p0).toNat) ((p1).toNat))) hC hw (hRk_17.rv (show ((p0).toNat) < 3 by omega)) (by omega) (by omega) (by omega) dX5_twice_72 rfl ?_
        have hrv_19 := hRk_17.vr (show ((p0).toNat) < 3 by omega) (show (p1).toNat < 100 by omega)
        have hpv_19 := hRk_17.vs (show ((p0).toNat) < 3 by omega) (show (p1).toNat < 100 by omega)
        exact x_iret hC hw dX5_twice_73 (by omega) (by omega) ⟨(Vk_17 ((p0).toNat) ((p1).toNat)), _, rfl, by omega, Or.inl ⟨by omega, by first | trivial | omega, (show _ = (twN (V (p0).toNat (p1).toNat) p1) by have e9 := upB_upV he1k_17; first | rfl | omega | ((repeat' split) <;> first | rfl | omega)), (MGm.mut he1k_17 hRk_17 hK (bl_one (by omega) he0k_17) he0k_6 (congrArg (upV (V (p0).toNat) (p1).toNat) (show (2 * (V ((p0).toNat) ((p1).toNat))) = (twN (V (p0).toNat (p1).toNat) p1) by first | rfl | omega | ((repeat' split) <;> first | rfl | omega))))⟩⟩
    · refine lv_iload_n hC.1 hC.2.1 dX5_twice_35 rfl (lv_at hl 3 rfl) ?_
      refine lv_goto (tgt := 61) hC.1 hC.2.1 dX5_twice_36 (by decide) ?_
      refine x_callV hC hw (lv_size hl) (c_X5_set l G hRk_6 (p0 := p0) (by omega) (p1 := p1) (by omega) (p2 := p1) (by omega) (by omega) (by omega) (by omega) (by intro q9; first | exact absurd rfl q9 | assumption | exact hpv_7 q9 | exact hpv_7 (by omega) | exact hSk (by omega))) gX5_twice_X5_set rfl dv_X5_set hRk_6.1.1 rfl rfl (Nat.le_of_ble_eq_true rfl) (by rw [hRf]; decide) (by rw [hRl]; decide) (by omega) (by omega) dX5_twice_61 (fun r9 M_20 H locs hq hw => ?_)
      obtain ⟨z_22, brk_21, Vk_21, rfl, hz_22a, hz_22v, hz_22b, he0k_21, he1k_21, hx5k_21, hRk_21⟩ := hq
      have hsck_21 := hRk_21.sc
      show W p l e R s m args below meth c H locs _ _ _ (F0 m 64 ls [.int (iN (z_22))])
      refine lv_pop hC.1 hC.2.1 dX5_twice_64 rfl ?_
      refine lv_aload_n hC.1 hC.2.1 dX5_twice_65 rfl (lv_at hl 1 rfl) ?_
      refine x_get hC hw hRk_21.1.1 rfl hinX5 2 (by decide) (by decide +kernel) rfl dX5_twice_66 ?_
      refine lv_iload_n hC.1 hC.2.1 dX5_twice_69 rfl (lv_at hl 2 rfl) ?_
      refine x_ald4 hC hw hRk_21.1.2.1 (by omega) (by omega) (by omega) dX5_twice_70 ?_
      rw [hRk_21.fa' (show (p0).toNat < 3 by omega)]
      show W p l e R s m args below meth c _ _ _ _ _ (F0 m 71 ls [.ref (qv ((p0).toNat))])
      refine lv_iload_n hC.1 hC.2.1 dX5_twice_71 rfl (lv_at hl 3 rfl) ?_
      refine x_ialdE (x := (Vk_21 ((p0).toNat) ((p1).toNat))) hC hw (hRk_21.rv (show ((p0).toNat) < 3 by omega)) (by omega) (by omega) (by omega) dX5_twice_72 rfl ?_
      have hrv_23 := hRk_21.vr (show ((p0).toNat) < 3 by omega) (show (p1).toNat < 100 by omega)
      have hpv_23 := hRk_21.vs (show ((p0).toNat) < 3 by omega) (show (p1).toNat < 100 by omega)
      exact x_iret hC hw dX5_twice_73 (by omega) (by omega) ⟨(Vk_21 ((p0).toNat) ((p1).toNat)), _, rfl, by omega, Or.inl ⟨by omega, by first | trivial | omega, (show _ = (twN (V (p0).toNat (p1).toNat) p1) by have e9 := upB_upV he1k_21; first | rfl | omega | ((repeat' split) <;> first | rfl | omega)), (MGm.mut he1k_21 hRk_21 hK (bl_one (by omega) he0k_21) he0k_6 (congrArg (upV (V (p0).toNat) (p1).toNat) (show p1 = (twN (V (p0).toNat (p1).toNat) p1) by first | rfl | omega | ((repeat' split) <;> first | rfl | omega))))⟩⟩
  · refine x_const hC dX5_twice_9 ?_
    exact x_iret hC hw dX5_twice_10 (by omega) (by omega) ⟨0, _, rfl, by omega, Or.inr ⟨by omega, by omega, MGm.of hRk_2 hK⟩⟩
set_option maxHeartbeats 4000000 in
set_option maxRecDepth 100000 in
theorem c_X5_poll (l : Launch) (G : xG) {M : HM} {a va oa wa ya : Nat} {wk : Option Nat} {th : Int} {rfd : Int32} {br re la ha : Int} {kp kv : Int32} {qv qw : Nat → Nat} {fa fb : Nat → Option Nat} {V : BW} {O : OW} {fy : Nat → Option Nat} {Wv : VW} {wt : Option VT} {S : Nat → Bool} (hR : MGx G M a va oa wa ya wk th rfd br re la ha kp kv qv qw fa fb V O fy Wv wt S) {K : WA} (hK : abM O wt br re la ha K) {p0 : Int} (hp0 : -2147483648 ≤ p0 ∧ p0 ≤ 2147483647) {p1 : Int} (hp1 : -2147483648 ≤ p1 ∧ p1 ≤ 2147483647) : xMet l G yX5_poll wsX5_poll 5 115 1 5 [.ref a, .int (iN (p0)), .int (iN (p1))] M (fun r M1 => ∃ (z th1 : Int), r = some (.int (iN z)) ∧ (-2147483648 ≤ z ∧ z ≤ 2147483647) ∧ ((th1 = 0 ∧ ((0 ≤ p0 ∧ p0 ≤ 2)) ∧ z = A_poll (O, V, Wv, K, kp, kv, rfd) p0 p1 ∧ MGm G M1 a S th1 (S_poll (O, V, Wv, K, kp, kv, rfd) p0 p1)) ∨ (th1 ≠ 0 ∧ ((th1 = 1 ∧ ¬ (0 ≤ p0 ∧ p0 ≤ 2))) ∧ MGm G M1 a S th1 (O, V, Wv, K, kp, kv, rfd)))) := by
  refine x_intro (cc := cX5_poll) (maxL := 4) (ret := (some .int)) (by decide +kernel) rfl (Nat.le_of_ble_eq_true rfl) ?_
  intro p e R s m args below meth c ls hRf hRc hRs hRl hC hw hl
  have hsc0 := hR.sc
  have hl : lv_has ls 4 [(0, .ref a), (1, .int (iN (p0))), (2, .int (iN (p1)))] := hl
  refine lv_aload_n hC.1 hC.2.1 dX5_poll_0 rfl (lv_at hl 0 rfl) ?_
  refine lv_iload_n hC.1 hC.2.1 dX5_poll_1 rfl (lv_at hl 1 rfl) ?_
  refine x_callS hC hw (lv_size hl) (c_X5_isNoBook l G (M := M) (p0 := p0) (by omega)) gX5_poll_X5_isNoBook rfl dv_X5_isNoBook_s rfl (Nat.le_of_ble_eq_true rfl) (by rw [hRf]; decide) (by rw [hRl]; decide) (by omega) (by omega) dX5_poll_2 (fun r9 M_1 H locs hq hw => ?_)
  obtain ⟨z_2, rfl, hM9, hz_2a, hz_2b⟩ := hq
  rw [hM9] at hw
  show W p l e R s m args below meth c H locs _ _ _ (F0 m 5 ls [.int (iN (z_2)), .ref a])
  refine x_const hC dX5_poll_5 ?_
  refine x_callV hC hw (lv_size hl) (c_X5_start l G hR (p0 := z_2) (by omega) (p1 := 1) (by omega) (by omega)) gX5_poll_X5_start rfl dv_X5_start hR.1.1 rfl rfl (Nat.le_of_ble_eq_true rfl) (by rw [hRf]; decide) (by rw [hRl]; decide) (by omega) (by omega) dX5_poll_6 (fun r9 M_3 H locs hq hw => ?_)
  obtain ⟨z_5, thk_4, rfl, hz_5a, hz_5b, hz_5c0, hz_5c1, hx5k_4, hRk_4⟩ := hq
  have hsck_4 := hRk_4.sc
  show W p l e R s m args below meth c H locs _ _ _ (F0 m 9 ls [.int (iN (z_5))])
  refine x_if_eq (tgt := 14) hC ⟨by omega, by omega⟩ dX5_poll_9 (by decide) (fun c_6 => ?_) (fun c_6 => ?_)
  · refine lv_aload_n hC.1 hC.2.1 dX5_poll_14 rfl (lv_at hl 0 rfl) ?_
    refine lv_iload_n hC.1 hC.2.1 dX5_poll_15 rfl (lv_at hl 1 rfl) ?_
    refine x_callV hC hw (lv_size hl) (c_X5_touch l G hRk_4 (p0 := p0) (by omega) (by omega)) gX5_poll_X5_touch rfl dv_X5_touch hRk_4.1.1 rfl rfl (Nat.le_of_ble_eq_true rfl) (by rw [hRf]; decide) (by rw [hRl]; decide) (by omega) (by omega) dX5_poll_16 (fun r9 M_7 H locs hq hw => ?_)
    obtain ⟨hak_8, rfl, he0k_8, hx5k_8, hRk_8⟩ := hq
    have hsck_8 := hRk_8.sc
    show W p l e R s m args below meth c H locs _ _ _ (F0 m 19 ls [])
    refine lv_aload_n hC.1 hC.2.1 dX5_poll_19 rfl (lv_at hl 0 rfl) ?_
    refine lv_iload_n hC.1 hC.2.1 dX5_poll_20 rfl (lv_at hl 1 rfl) ?_
    refine x_callS hC hw (lv_size hl) (c_X5_whole l G (M := M_7) (p0 := p0) (by omega) (by omega)) gX5_poll_X5_whole rfl dv_X5_whole_s rfl (Nat.le_of_ble_eq_true rfl) (by rw [hRf]; decide) (by rw [hRl]; decide) (by omega) (by omega) dX5_poll_21 (fun r9 M_9 H locs hq hw => ?_)
    obtain ⟨qk_10, fk_10, rfl, hxk_10, hIk_10⟩ := hq
    have h_11 := hRk_8.ext hxk_10
    obtain ⟨htat_12, htbt_12, htct_12, htdt_12, htet_12⟩ := id hIk_10.2.1
    have holk_10 := h_11.or' hIk_10.2.1.1
    show W p l e R s m args below meth c H locs _ _ _ (F0 m 24 ls [.ref qk_10, .ref a])
    refine lv_iload_n hC.1 hC.2.1 dX5_poll_24 rfl (lv_at hl 2 rfl) ?_
    refine x_callV hC hw (lv_size hl) (c_X5_end l G h_11 hIk_10 (p0 := p1) (by omega)) gX5_poll_X5_end rfl dv_X5_end h_11.1.1 rfl rfl (Nat.le_of_ble_eq_true rfl) (by rw [hRf]; decide) (by rw [hRl]; decide) (by omega) (by omega) dX5_poll_25 (fun r9 M_13 H locs hq hw => ?_)
    obtain ⟨z_14, rfl, hM9, hz_14a, hz_14S, hz_14e⟩ := hq
    rw [hM9] at hw
    show W p l e R s m args below meth c H locs _ _ _ (F0 m 28 ls [.int (iN (z_14))])
    refine lv_istore_n (lv' := [(3, .int (iN (z_14))), (0, .ref a), (1, .int (iN (p0))), (2, .int (iN (p1)))]) hC.1 hC.2.1 dX5_poll_28 rfl hl (by decide) rfl (fun ls hl => ?_)
    refine lv_iload_n hC.1 hC.2.1 dX5_poll_29 rfl (lv_at hl 0 rfl) ?_
    refine x_sipush hC dX5_poll_30 (by decide +kernel) ?_
    refine x_icmp_eq (tgt := 46) hC ⟨by omega, by omega⟩ ⟨by omega, by omega⟩ dX5_poll_33 (by decide) (fun c_15 => ?_) (fun c_15 => ?_)
    · refine lv_iload_n hC.1 hC.2.1 dX5_poll_46 rfl (lv_at hl 0 rfl) ?_
      exact x_iret hC hw dX5_poll_47 (by omega) (by omega) ⟨z_14, _, rfl, by omega, Or.inl ⟨by omega, by first | trivial | omega, (hz_14e), (MGm.mut (F := V ((p0).toNat)) (upB_self rfl).symm h_11 hK bl_rf he0k_8 (by rw [show A_poll (O, V, Wv, K, kp, kv, rfd) p0 p1 = z_14 from (hz_14e).symm]; exact (rmV_0 (by omega)).symm))⟩⟩
    · refine lv_aload_n hC.1 hC.2.1 dX5_poll_36 rfl (lv_at hl 1 rfl) ?_
      refine lv_iload_n hC.1 hC.2.1 dX5_poll_37 rfl (lv_at hl 2 rfl) ?_
      refine lv_iload_n hC.1 hC.2.1 dX5_poll_38 rfl (lv_at hl 0 rfl) ?_
      refine x_sipush hC dX5_poll_39 (by decide +kernel) ?_
      refine x_callV hC hw (lv_size hl) (c_X5_set l G h_11 (p0 := p0) (by omega) (p1 := z_14) (by omega) (p2 := (-10000)) (by omega) (by omega) (by omega) (by omega) (fun q9 => absurd rfl q9)) gX5_poll_X5_set rfl dv_X5_set h_11.1.1 rfl rfl (Nat.le_of_ble_eq_true rfl) (by rw [hRf]; decide) (by rw [hRl]; decide) (by omega) (by omega) dX5_poll_42 (fun r9 M_16 H locs hq hw => ?_)
      obtain ⟨z_18, brk_17, Vk_17, rfl, hz_18a, hz_18v, hz_18b, he0k_17, he1k_17, hx5k_17, hRk_17⟩ := hq
      have h_19 := hIk_10.x5 hx5k_17
      have hsck_17 := hRk_17.sc
      show W p l e R s m args below meth c H locs _ _ _ (F0 m 45 ls [.int (iN (z_18))])
      refine lv_pop hC.1 hC.2.1 dX5_poll_45 rfl ?_
      refine lv_iload_n hC.1 hC.2.1 dX5_poll_46 rfl (lv_at hl 0 rfl) ?_
      exact x_iret hC hw dX5_poll_47 (by omega) (by omega) ⟨z_14, _, rfl, by omega, Or.inl ⟨by omega, by first | trivial | omega, (hz_14e), (MGm.mut he1k_17 hRk_17 hK (bl_one (by omega) he0k_17) he0k_8 (by rw [show A_poll (O, V, Wv, K, kp, kv, rfd) p0 p1 = z_14 from (hz_14e).symm]; exact (rmV_1 (by omega)).symm))⟩⟩
  · refine x_const hC dX5_poll_12 ?_
    exact x_iret hC hw dX5_poll_13 (by omega) (by omega) ⟨0, _, rfl, by omega, Or.inr ⟨by omega, by omega, MGm.of hRk_4 hK⟩⟩
set_option maxHeartbeats 4000000 in
set_option maxRecDepth 100000 in
theorem c_X5_raise (l : Launch) (G : xG) {M : HM} {a va oa wa ya : Nat} {wk : Option Nat} {th : Int} {rfd : Int32} {br re la ha : Int} {kp kv : Int32} {qv qw : Nat → Nat} {fa fb : Nat → Option Nat} {V : BW} {O : OW} {fy : Nat → Option Nat} {Wv : VW} {wt : Option VT} {S : Nat → Bool} (hR : MGx G M a va oa wa ya wk th rfd br re la ha kp kv qv qw fa fb V O fy Wv wt S) {K : WA} (hK : abM O wt br re la ha K) {p0 : Int} (hp0 : -2147483648 ≤ p0 ∧ p0 ≤ 2147483647) {p1 : Int} (hp1 : -2147483648 ≤ p1 ∧ p1 ≤ 2147483647) : xMet l G yX5_raise wsX5_raise 2 44 0 0 [.ref a, .int (iN (p0)), .int (iN (p1))] M (fun r M1 => ∃ (z th1 : Int), r = some (.int (iN z)) ∧ (-2147483648 ≤ z ∧ z ≤ 2147483647) ∧ ((th1 = 0 ∧ ((0 ≤ p0 ∧ p0 ≤ 2) ∧ (-999 ≤ p1 ∧ p1 ≤ 999)) ∧ z = A_raise (O, V, Wv, K, kp, kv, rfd) p0 p1 ∧ MGm G M1 a S th1 (S_raise (O, V, Wv, K, kp, kv, rfd) p0 p1)) ∨ (th1 ≠ 0 ∧ ((th1 = 1 ∧ ¬ (0 ≤ p0 ∧ p0 ≤ 2)) ∨ (th1 = 2 ∧ (0 ≤ p0 ∧ p0 ≤ 2) ∧ ¬ (-999 ≤ p1 ∧ p1 ≤ 999))) ∧ MGm G M1 a S th1 (O, V, Wv, K, kp, kv, rfd)))) := by
  refine x_intro (cc := cX5_raise) (maxL := 6) (ret := (some .int)) (by decide +kernel) rfl (Nat.le_of_ble_eq_true rfl) ?_
  intro p e R s m args below meth c ls hRf hRc hRs hRl hC hw hl
  have hsc0 := hR.sc
  have hinX5 : ∀ w ∈ wsX50, w ∈ wsX5_raise := by decide +kernel
  have hl : lv_has ls 6 [(0, .ref a), (1, .int (iN (p0))), (2, .int (iN (p1)))] := hl
  refine lv_aload_n hC.1 hC.2.1 dX5_raise_0 rfl (lv_at hl 0 rfl) ?_
  refine lv_iload_n hC.1 hC.2.1 dX5_raise_1 rfl (lv_at hl 1 rfl) ?_
  refine x_callS hC hw (lv_size hl) (c_X5_isNoBook l G (M := M) (p0 := p0) (by omega)) gX5_raise_X5_isNoBook rfl dv_X5_isNoBook_s rfl (Nat.le_of_ble_eq_true rfl) (by rw [hRf]; decide) (by rw [hRl]; decide) (by omega) (by omega) dX5_raise_2 (fun r9 M_1 H locs hq hw => ?_)
  obtain ⟨z_2, rfl, hM9, hz_2a, hz_2b⟩ := hq
  rw [hM9] at hw
  show W p l e R s m args below meth c H locs _ _ _ (F0 m 5 ls [.int (iN (z_2)), .ref a])
  refine x_const hC dX5_raise_5 ?_
  refine x_callV hC hw (lv_size hl) (c_X5_start l G hR (p0 := z_2) (by omega) (p1 := 1) (by omega) (by omega)) gX5_raise_X5_start rfl dv_X5_start hR.1.1 rfl rfl (Nat.le_of_ble_eq_true rfl) (by rw [hRf]; decide) (by rw [hRl]; decide) (by omega) (by omega) dX5_raise_6 (fun r9 M_3 H locs hq hw => ?_)
  obtain ⟨z_5, thk_4, rfl, hz_5a, hz_5b, hz_5c0, hz_5c1, hx5k_4, hRk_4⟩ := hq
  have hsck_4 := hRk_4.sc
  show W p l e R s m args below meth c H locs _ _ _ (F0 m 9 ls [.int (iN (z_5))])
  refine x_if_ne (tgt := 38) hC ⟨by omega, by omega⟩ dX5_raise_9 (by decide) (fun c_6 => ?_) (fun c_6 => ?_)
  · refine x_const hC dX5_raise_38 ?_
    exact x_iret hC hw dX5_raise_39 (by omega) (by omega) ⟨0, _, rfl, by omega, Or.inr ⟨by omega, by omega, MGm.of hRk_4 hK⟩⟩
  · refine lv_aload_n hC.1 hC.2.1 dX5_raise_12 rfl (lv_at hl 0 rfl) ?_
    refine lv_iload_n hC.1 hC.2.1 dX5_raise_13 rfl (lv_at hl 2 rfl) ?_
    refine x_sipush hC dX5_raise_14 (by decide +kernel) ?_
    refine x_sipush hC dX5_raise_17 (by decide +kernel) ?_
    refine x_callS hC hw (lv_size hl) (c_X5_isIn l G (M := M_3) (p0 := p1) (by omega) (p1 := (-999)) (by omega) (p2 := 999) (by omega)) gX5_raise_X5_isIn rfl dv_X5_isIn_s rfl (Nat.le_of_ble_eq_true rfl) (by rw [hRf]; decide) (by rw [hRl]; decide) (by omega) (by omega) dX5_raise_20 (fun r9 M_7 H locs hq hw => ?_)
    obtain ⟨z_8, rfl, hM9, hz_8a, hz_8b, hz_8c⟩ := hq
    rw [hM9] at hw
    show W p l e R s m args below meth c H locs _ _ _ (F0 m 23 ls [.int (iN (z_8)), .ref a])
    refine x_if_ne (tgt := 30) hC ⟨by omega, by omega⟩ dX5_raise_23 (by decide) (fun c_9 => ?_) (fun c_9 => ?_)
    · refine x_const hC dX5_raise_30 ?_
      refine x_const hC dX5_raise_31 ?_
      refine x_callV hC hw (lv_size hl) (c_X5_refuse l G hRk_4 (p0 := 0) (by omega) (p1 := 2) (by omega) (by omega)) gX5_raise_X5_refuse rfl dv_X5_refuse hRk_4.1.1 rfl rfl (Nat.le_of_ble_eq_true rfl) (by rw [hRf]; decide) (by rw [hRl]; decide) (by omega) (by omega) dX5_raise_32 (fun r9 M_10 H locs hq hw => ?_)
      obtain ⟨z_12, thk_11, rfl, hz_12a, hz_12b, hz_12c0, hz_12c1, hx5k_11, hRk_11⟩ := hq
      have hsck_11 := hRk_11.sc
      show W p l e R s m args below meth c H locs _ _ _ (F0 m 35 ls [.int (iN (z_12))])
      refine x_if_eq (tgt := 40) hC ⟨by omega, by omega⟩ dX5_raise_35 (by decide) (fun c_13 => ?_) (fun c_13 => ?_)
      · refine lv_aload_n hC.1 hC.2.1 dX5_raise_40 rfl (lv_at hl 0 rfl) ?_
        refine lv_iload_n hC.1 hC.2.1 dX5_raise_41 rfl (lv_at hl 1 rfl) ?_
        refine x_callV hC hw (lv_size hl) (c_X5_touch l G hRk_11 (p0 := p0) (by omega) (by omega)) gX5_raise_X5_touch rfl dv_X5_touch hRk_11.1.1 rfl rfl (Nat.le_of_ble_eq_true rfl) (by rw [hRf]; decide) (by rw [hRl]; decide) (by omega) (by omega) dX5_raise_42 (fun r9 M_14 H locs hq hw => ?_)
        obtain ⟨hak_15, rfl, he0k_15, hx5k_15, hRk_15⟩ := hq
        have hsck_15 := hRk_15.sc
        show W p l e R s m args below meth c H locs _ _ _ (F0 m 45 ls [])
        refine x_const hC dX5_raise_45 ?_
        refine lv_istore_n (lv' := [(3, .int (iN (0))), (0, .ref a), (1, .int (iN (p0))), (2, .int (iN (p1)))]) hC.1 hC.2.1 dX5_raise_46 rfl hl (by decide) rfl (fun ls hl => ?_)
        refine x_const hC dX5_raise_47 ?_
        refine lv_istore (lv' := [(4, .int (iN (0))), (3, .int (iN (0))), (0, .ref a), (1, .int (iN (p0))), (2, .int (iN (p1)))]) hC.1 hC.2.1 dX5_raise_48 hl (by decide) rfl (fun ls hl => ?_)
        suffices hloop50 : ∀ (n9 : Nat) (n : Int) (j : Int) (M1 : HM) (br1 : Int) (V1 : BW) (hR1 : MGx G M1 a va oa wa ya wk thk_11 rfd br1 re la hak_15 kp kv qv qw fa fb V1 O fy Wv wt S) (hx1 : xI5 G M M1) (hV1 : V1 = upB V ((p0).toNat) (mapN (V ((p0).toNat)) (F_raise (V (p0).toNat) p1) (j).toNat)) (hbr1 : br1 = brL wt ((p0).toNat) (V ((p0).toNat)) (F_raise (V (p0).toNat) p1) (j).toNat br) (H : Heap) (locs : List Loc) (ls : Array Slot), (hmu : (100 - j).toNat < n9) → (hi0 : 0 ≤ j ∧ j ≤ 100) → (hi1 : 0 ≤ n ∧ n ≤ j) → (hcn : n = rsN (V (p0).toNat) p1 (j).toNat) → xD G (xA M s.heap.size) s M1 H locs → lv_has ls 6 [(0, .ref a), (1, .int (iN (p0))), (2, .int (iN (p1))), (3, .int (iN (n))), (4, .int (iN (j)))] → W p l e R s m args below meth c H locs _ _ _ (F0 m 50 ls []) by
          exact hloop50 _ 0 0 _ _ _ hRk_15 (xI5.tr (xI5.tr (hx5k_4) (hx5k_11)) (hx5k_15)) ml_0 bl_0 _ _ _ (Nat.lt_succ_self _) (by omega) (by omega) (rfl) hw (lv_sub hl [2, 3, 4, 1, 0] rfl)
        intro n9
        induction n9 with
        | zero => intro n j M1 br1 V1 hR1 hx1 hV1 hbr1 H locs ls hmu; exact absurd hmu (Nat.not_lt_zero _)
        | succ n9 ih50 =>
          intro n j M1 br1 V1 hR1 hx1 hV1 hbr1 H locs ls hmu hi0 hi1 hcn hw hl
          have hvj : V1 ((p0).toNat) (j).toNat = V ((p0).toNat) (j).toNat := ml_at hV1
          have hsc1 := hR1.sc
          refine lv_iload hC.1 hC.2.1 dX5_raise_50 (lv_at hl 4 rfl) ?_
          refine x_bipush hC dX5_raise_52 (by decide +kernel) ?_
          refine x_icmp_ge (tgt := 125) hC ⟨by omega, by omega⟩ ⟨by omega, by omega⟩ dX5_raise_54 (by decide) (fun c_16 => ?_) (fun c_16 => ?_)
          · refine lv_iload_n hC.1 hC.2.1 dX5_raise_125 rfl (lv_at hl 3 rfl) ?_
            exact x_iret hC hw dX5_raise_126 (by omega) (by omega) ⟨n, _, rfl, by omega, Or.inl ⟨by omega, by first | trivial | omega, (by have e9 : (j).toNat = 100 := (by omega); rw [e9] at hcn; exact hcn), (by have e9 : (j).toNat = 100 := (by omega); rw [e9] at hV1 hbr1; exact MGm.mut hV1 hR1 hK (bl_map hbr1) he0k_15 rfl)⟩⟩
          · refine lv_aload_n hC.1 hC.2.1 dX5_raise_57 rfl (lv_at hl 0 rfl) ?_
            refine x_get hC hw hR1.1.1 rfl hinX5 2 (by decide) (by decide +kernel) rfl dX5_raise_58 ?_
            refine lv_iload_n hC.1 hC.2.1 dX5_raise_61 rfl (lv_at hl 1 rfl) ?_
            refine x_ald4 hC hw hR1.1.2.1 (by omega) (by omega) (by omega) dX5_raise_62 ?_
            rw [hR1.fa' (show (p0).toNat < 3 by omega)]
            show W p l e R s m args below meth c _ _ _ _ _ (F0 m 63 ls [.ref (qv ((p0).toNat))])
            refine lv_iload hC.1 hC.2.1 dX5_raise_63 (lv_at hl 4 rfl) ?_
            refine x_ialdE (x := (V1 ((p0).toNat) ((j).toNat))) hC hw (hR1.rv (show ((p0).toNat) < 3 by omega)) (by omega) (by omega) (by omega) dX5_raise_65 rfl ?_
            have hrv_17 := hR1.vr (show ((p0).toNat) < 3 by omega) (show (j).toNat < 100 by omega)
            have hpv_17 := hR1.vs (show ((p0).toNat) < 3 by omega) (show (j).toNat < 100 by omega)
            refine lv_istore (lv' := [(5, .int (iN ((V1 ((p0).toNat) ((j).toNat))))), (0, .ref a), (1, .int (iN (p0))), (2, .int (iN (p1))), (3, .int (iN (n))), (4, .int (iN (j)))]) hC.1 hC.2.1 dX5_raise_66 hl (by decide) rfl (fun ls hl => ?_)
            refine lv_iload hC.1 hC.2.1 dX5_raise_68 (lv_at hl 0 rfl) ?_
            refine x_sipush hC dX5_raise_70 (by decide +kernel) ?_
            refine x_icmp_ne (tgt := 79) hC ⟨by omega, by omega⟩ ⟨by omega, by omega⟩ dX5_raise_73 (by decide) (fun c_18 => ?_) (fun c_18 => ?_)
            · refine lv_aload_n hC.1 hC.2.1 dX5_raise_79 rfl (lv_at hl 1 rfl) ?_
              refine lv_iload_n hC.1 hC.2.1 dX5_raise_80 rfl (lv_at hl 2 rfl) ?_
              refine lv_iload hC.1 hC.2.1 dX5_raise_81 (lv_at hl 5 rfl) ?_
              refine lv_iload hC.1 hC.2.1 dX5_raise_83 (lv_at hl 0 rfl) ?_
              refine lv_iload_n hC.1 hC.2.1 dX5_raise_85 rfl (lv_at hl 3 rfl) ?_
              refine x_iadd hC dX5_raise_86 ?_
              refine x_callS hC hw (lv_size hl) (c_X5_held l G (M := M1) (p0 := ((V1 ((p0).toNat) ((j).toNat)) + p1)) (by omega)) gX5_raise_X5_held rfl dv_X5_held_s rfl (Nat.le_of_ble_eq_true rfl) (by rw [hRf]; decide) (by rw [hRl]; decide) (by omega) (by omega) dX5_raise_87 (fun r9 M_19 H locs hq hw => ?_)
              obtain ⟨z_20, rfl, hM9, hz_20a, hz_20d⟩ := hq
              rw [hM9] at hw
              show W p l e R s m args below meth c H locs _ _ _ (F0 m 90 ls [.int (iN (z_20)), .int (iN (j)), .int (iN (p0)), .ref a])
              refine x_callV hC hw (lv_size hl) (c_X5_set l G hR1 (p0 := p0) (by omega) (p1 := j) (by omega) (p2 := z_20) (by omega) (by omega) (by omega) (by omega) (by intro q9; first | exact absurd rfl q9 | assumption | exact hpv_17 q9 | exact hpv_17 (by omega))) gX5_raise_X5_set rfl dv_X5_set hR1.1.1 rfl rfl (Nat.le_of_ble_eq_true rfl) (by rw [hRf]; decide) (by rw [hRl]; decide) (by omega) (by omega) dX5_raise_90 (fun r9 M_21 H locs hq hw => ?_)
              obtain ⟨z_23, brk_22, Vk_22, rfl, hz_23a, hz_23v, hz_23b, he0k_22, he1k_22, hx5k_22, hRk_22⟩ := hq
              have hsck_22 := hRk_22.sc
              show W p l e R s m args below meth c H locs _ _ _ (F0 m 93 ls [.int (iN (z_23))])
              refine lv_pop hC.1 hC.2.1 dX5_raise_93 rfl ?_
              refine lv_iload_n hC.1 hC.2.1 dX5_raise_94 rfl (lv_at hl 4 rfl) ?_
              refine lv_aload_n hC.1 hC.2.1 dX5_raise_95 rfl (lv_at hl 1 rfl) ?_
              refine x_get hC hw hRk_22.1.1 rfl hinX5 2 (by decide) (by decide +kernel) rfl dX5_raise_96 ?_
              refine lv_iload_n hC.1 hC.2.1 dX5_raise_99 rfl (lv_at hl 2 rfl) ?_
              refine x_ald4 hC hw hRk_22.1.2.1 (by omega) (by omega) (by omega) dX5_raise_100 ?_
              rw [hRk_22.fa' (show (p0).toNat < 3 by omega)]
              show W p l e R s m args below meth c _ _ _ _ _ (F0 m 101 ls [.ref (qv ((p0).toNat)), .int (iN (n))])
              refine lv_iload hC.1 hC.2.1 dX5_raise_101 (lv_at hl 5 rfl) ?_
              refine x_ialdE (x := (Vk_22 ((p0).toNat) ((j).toNat))) hC hw (hRk_22.rv (show ((p0).toNat) < 3 by omega)) (by omega) (by omega) (by omega) dX5_raise_103 rfl ?_
              have hrv_24 := hRk_22.vr (show ((p0).toNat) < 3 by omega) (show (j).toNat < 100 by omega)
              have hpv_24 := hRk_22.vs (show ((p0).toNat) < 3 by omega) (show (j).toNat < 100 by omega)
              refine lv_iload hC.1 hC.2.1 dX5_raise_104 (lv_at hl 0 rfl) ?_
              refine x_icmp_eq (tgt := 113) hC ⟨by omega, by omega⟩ ⟨by omega, by omega⟩ dX5_raise_106 (by decide) (fun c_25 => ?_) (fun c_25 => ?_)
              · refine x_const hC dX5_raise_113 ?_
                refine x_callS hC hw (lv_size hl) (c_X5_one l G (M := M_21) (p0 := 0) (by omega)) gX5_raise_X5_one rfl dv_X5_one_s rfl (Nat.le_of_ble_eq_true rfl) (by rw [hRf]; decide) (by rw [hRl]; decide) (by omega) (by omega) dX5_raise_114 (fun r9 M_26 H locs hq hw => ?_)
                obtain ⟨z_27, rfl, hM9, hz_27a, hz_27b⟩ := hq
                rw [hM9] at hw
                show W p l e R s m args below meth c H locs _ _ _ (F0 m 117 ls [.int (iN (z_27)), .int (iN (n))])
                refine x_iadd hC dX5_raise_117 ?_
                refine lv_istore_n (lv' := [(3, .int (iN (n + z_27))), (5, .int (iN ((V1 ((p0).toNat) ((j).toNat))))), (0, .ref a), (1, .int (iN (p0))), (2, .int (iN (p1))), (4, .int (iN (j)))]) hC.1 hC.2.1 dX5_raise_118 rfl hl (by decide) rfl (fun ls hl => ?_)
                refine x_iinc (lv' := [(4, .int (iN (j + 1))), (3, .int (iN (n + z_27))), (5, .int (iN ((V1 ((p0).toNat) ((j).toNat))))), (0, .ref a), (1, .int (iN (p0))), (2, .int (iN (p1)))]) hC dX5_raise_119 hl (k := 5) rfl (by decide) rfl (fun ls hl => ?_)
                refine lv_goto (tgt := 50) hC.1 hC.2.1 dX5_raise_122 (by decide) ?_
                exact ih50 (n + z_27) (j + 1) _ _ _ hRk_22 (xI5.tr hx1 (hx5k_22)) (ml_set (by omega) hV1 he1k_22 (show z_20 = (F_raise (V (p0).toNat) p1) (j).toNat by have e9 := bdN_eq hz_20d; rw [hvj] at e9; simp only [F_raise]; rw [if_neg (by omega)]; exact e9.symm)) (bl_set (by omega) hV1 hbr1 (show z_20 = (F_raise (V (p0).toNat) p1) (j).toNat by have e9 := bdN_eq hz_20d; rw [hvj] at e9; simp only [F_raise]; rw [if_neg (by omega)]; exact e9.symm) he0k_22) _ _ _ (by omega) (by omega) (by omega) (by have e9 := bdN_eq hz_20d; rw [hvj] at e9; have e8 := upB_upV he1k_22; rw [rsN_s (by omega) rfl, if_neg (by omega), e9]; omega) hw (lv_sub hl [3, 4, 5, 1, 0] rfl)
              · refine x_const hC dX5_raise_109 ?_
                refine lv_goto (tgt := 114) hC.1 hC.2.1 dX5_raise_110 (by decide) ?_
                refine x_callS hC hw (lv_size hl) (c_X5_one l G (M := M_21) (p0 := 1) (by omega)) gX5_raise_X5_one rfl dv_X5_one_s rfl (Nat.le_of_ble_eq_true rfl) (by rw [hRf]; decide) (by rw [hRl]; decide) (by omega) (by omega) dX5_raise_114 (fun r9 M_28 H locs hq hw => ?_)
                obtain ⟨z_29, rfl, hM9, hz_29a, hz_29b⟩ := hq
                rw [hM9] at hw
                show W p l e R s m args below meth c H locs _ _ _ (F0 m 117 ls [.int (iN (z_29)), .int (iN (n))])
                refine x_iadd hC dX5_raise_117 ?_
                refine lv_istore_n (lv' := [(3, .int (iN (n + z_29))), (5, .int (iN ((V1 ((p0).toNat) ((j).toNat))))), (0, .ref a), (1, .int (iN (p0))), (2, .int (iN (p1))), (4, .int (iN (j)))]) hC.1 hC.2.1 dX5_raise_118 rfl hl (by decide) rfl (fun ls hl => ?_)
                refine x_iinc (lv' := [(4, .int (iN (j + 1))), (3, .int (iN (n + z_29))), (5, .int (iN ((V1 ((p0).toNat) ((j).toNat))))), (0, .ref a), (1, .int (iN (p0))), (2, .int (iN (p1)))]) hC dX5_raise_119 hl (k := 5) rfl (by decide) rfl (fun ls hl => ?_)
                refine lv_goto (tgt := 50) hC.1 hC.2.1 dX5_raise_122 (by decide) ?_
                exact ih50 (n + z_29) (j + 1) _ _ _ hRk_22 (xI5.tr hx1 (hx5k_22)) (ml_set (by omega) hV1 he1k_22 (show z_20 = (F_raise (V (p0).toNat) p1) (j).toNat by have e9 := bdN_eq hz_20d; rw [hvj] at e9; simp only [F_raise]; rw [if_neg (by omega)]; exact e9.symm)) (bl_set (by omega) hV1 hbr1 (show z_20 = (F_raise (V (p0).toNat) p1) (j).toNat by have e9 := bdN_eq hz_20d; rw [hvj] at e9; simp only [F_raise]; rw [if_neg (by omega)]; exact e9.symm) he0k_22) _ _ _ (by omega) (by omega) (by omega) (by have e9 := bdN_eq hz_20d; rw [hvj] at e9; have e8 := upB_upV he1k_22; rw [rsN_s (by omega) rfl, if_neg (by omega), e9]; omega) hw (lv_sub hl [3, 4, 5, 1, 0] rfl)
            · refine lv_goto (tgt := 119) hC.1 hC.2.1 dX5_raise_76 (by decide) ?_
              refine x_iinc (lv' := [(4, .int (iN (j + 1))), (5, .int (iN ((V1 ((p0).toNat) ((j).toNat))))), (0, .ref a), (1, .int (iN (p0))), (2, .int (iN (p1))), (3, .int (iN (n)))]) hC dX5_raise_119 hl (k := 5) rfl (by decide) rfl (fun ls hl => ?_)
              refine lv_goto (tgt := 50) hC.1 hC.2.1 dX5_raise_122 (by decide) ?_
              exact ih50 n (j + 1) _ _ _ hR1 hx1 (ml_skip (by omega) hV1 (show (F_raise (V (p0).toNat) p1) (j).toNat = V ((p0).toNat) (j).toNat by simp only [F_raise]; rw [if_pos (by omega)]; omega)) (bl_skip (by omega) hbr1 (show (F_raise (V (p0).toNat) p1) (j).toNat = V ((p0).toNat) (j).toNat by simp only [F_raise]; rw [if_pos (by omega)]; omega)) _ _ _ (by omega) (by omega) (by omega) (by rw [rsN_s (by omega) rfl, if_pos (by omega)]; omega) hw (lv_sub hl [2, 3, 4, 5, 0] rfl)
      · refine x_const hC dX5_raise_38 ?_
        exact x_iret hC hw dX5_raise_39 (by omega) (by omega) ⟨0, _, rfl, by omega, Or.inr ⟨by omega, by omega, MGm.of hRk_11 hK⟩⟩
    · refine x_const hC dX5_raise_26 ?_
      refine lv_goto (tgt := 31) hC.1 hC.2.1 dX5_raise_27 (by decide) ?_
      refine x_const hC dX5_raise_31 ?_
      refine x_callV hC hw (lv_size hl) (c_X5_refuse l G hRk_4 (p0 := 1) (by omega) (p1 := 2) (by omega) (by omega)) gX5_raise_X5_refuse rfl dv_X5_refuse hRk_4.1.1 rfl rfl (Nat.le_of_ble_eq_true rfl) (by rw [hRf]; decide) (by rw [hRl]; decide) (by omega) (by omega) dX5_raise_32 (fun r9 M_30 H locs hq hw => ?_)
      obtain ⟨z_32, thk_31, rfl, hz_32a, hz_32b, hz_32c0, hz_32c1, hx5k_31, hRk_31⟩ := hq
      have hsck_31 := hRk_31.sc
      show W p l e R s m args below meth c H locs _ _ _ (F0 m 35 ls [.int (iN (z_32))])
      refine x_if_eq (tgt := 40) hC ⟨by omega, by omega⟩ dX5_raise_35 (by decide) (fun c_33 => ?_) (fun c_33 => ?_)
      · refine lv_aload_n hC.1 hC.2.1 dX5_raise_40 rfl (lv_at hl 0 rfl) ?_
        refine lv_iload_n hC.1 hC.2.1 dX5_raise_41 rfl (lv_at hl 1 rfl) ?_
        refine x_callV hC hw (lv_size hl) (c_X5_touch l G hRk_31 (p0 := p0) (by omega) (by omega)) gX5_raise_X5_touch rfl dv_X5_touch hRk_31.1.1 rfl rfl (Nat.le_of_ble_eq_true rfl) (by rw [hRf]; decide) (by rw [hRl]; decide) (by omega) (by omega) dX5_raise_42 (fun r9 M_34 H locs hq hw => ?_)
        obtain ⟨hak_35, rfl, he0k_35, hx5k_35, hRk_35⟩ := hq
        have hsck_35 := hRk_35.sc
        show W p l e R s m args below meth c H locs _ _ _ (F0 m 45 ls [])
        refine x_const hC dX5_raise_45 ?_
        refine lv_istore_n (lv' := [(3, .int (iN (0))), (0, .ref a), (1, .int (iN (p0))), (2, .int (iN (p1)))]) hC.1 hC.2.1 dX5_raise_46 rfl hl (by decide) rfl (fun ls hl => ?_)
        refine x_const hC dX5_raise_47 ?_
        refine lv_istore (lv' := [(4, .int (iN (0))), (3, .int (iN (0))), (0, .ref a), (1, .int (iN (p0))), (2, .int (iN (p1)))]) hC.1 hC.2.1 dX5_raise_48 hl (by decide) rfl (fun ls hl => ?_)
        suffices hloop50 : ∀ (n9 : Nat) (n : Int) (j : Int) (M1 : HM) (br1 : Int) (V1 : BW) (hR1 : MGx G M1 a va oa wa ya wk thk_31 rfd br1 re la hak_35 kp kv qv qw fa fb V1 O fy Wv wt S) (hx1 : xI5 G M M1) (hV1 : V1 = upB V ((p0).toNat) (mapN (V ((p0).toNat)) (F_raise (V (p0).toNat) p1) (j).toNat)) (hbr1 : br1 = brL wt ((p0).toNat) (V ((p0).toNat)) (F_raise (V (p0).toNat) p1) (j).toNat br) (H : Heap) (locs : List Loc) (ls : Array Slot), (hmu : (100 - j).toNat < n9) → (hi0 : 0 ≤ j ∧ j ≤ 100) → (hi1 : 0 ≤ n ∧ n ≤ j) → (hcn : n = rsN (V (p0).toNat) p1 (j).toNat) → xD G (xA M s.heap.size) s M1 H locs → lv_has ls 6 [(0, .ref a), (1, .int (iN (p0))), (2, .int (iN (p1))), (3, .int (iN (n))), (4, .int (iN (j)))] → W p l e R s m args below meth c H locs _ _ _ (F0 m 50 ls []) by
          exact hloop50 _ 0 0 _ _ _ hRk_35 (xI5.tr (xI5.tr (hx5k_4) (hx5k_31)) (hx5k_35)) ml_0 bl_0 _ _ _ (Nat.lt_succ_self _) (by omega) (by omega) (rfl) hw (lv_sub hl [2, 3, 4, 1, 0] rfl)
        intro n9
        induction n9 with
        | zero => intro n j M1 br1 V1 hR1 hx1 hV1 hbr1 H locs ls hmu; exact absurd hmu (Nat.not_lt_zero _)
        | succ n9 ih50 =>
          intro n j M1 br1 V1 hR1 hx1 hV1 hbr1 H locs ls hmu hi0 hi1 hcn hw hl
          have hvj : V1 ((p0).toNat) (j).toNat = V ((p0).toNat) (j).toNat := ml_at hV1
          have hsc1 := hR1.sc
          refine lv_iload hC.1 hC.2.1 dX5_raise_50 (lv_at hl 4 rfl) ?_
          refine x_bipush hC dX5_raise_52 (by decide +kernel) ?_
          refine x_icmp_ge (tgt := 125) hC ⟨by omega, by omega⟩ ⟨by omega, by omega⟩ dX5_raise_54 (by decide) (fun c_36 => ?_) (fun c_36 => ?_)
          · refine lv_iload_n hC.1 hC.2.1 dX5_raise_125 rfl (lv_at hl 3 rfl) ?_
            exact x_iret hC hw dX5_raise_126 (by omega) (by omega) ⟨n, _, rfl, by omega, Or.inl ⟨by omega, by first | trivial | omega, (by have e9 : (j).toNat = 100 := (by omega); rw [e9] at hcn; exact hcn), (by have e9 : (j).toNat = 100 := (by omega); rw [e9] at hV1 hbr1; exact MGm.mut hV1 hR1 hK (bl_map hbr1) he0k_35 rfl)⟩⟩
          · refine lv_aload_n hC.1 hC.2.1 dX5_raise_57 rfl (lv_at hl 0 rfl) ?_
            refine x_get hC hw hR1.1.1 rfl hinX5 2 (by decide) (by decide +kernel) rfl dX5_raise_58 ?_
            refine lv_iload_n hC.1 hC.2.1 dX5_raise_61 rfl (lv_at hl 1 rfl) ?_
            refine x_ald4 hC hw hR1.1.2.1 (by omega) (by omega) (by omega) dX5_raise_62 ?_
            rw [hR1.fa' (show (p0).toNat < 3 by omega)]
            show W p l e R s m args below meth c _ _ _ _ _ (F0 m 63 ls [.ref (qv ((p0).toNat))])
            refine lv_iload hC.1 hC.2.1 dX5_raise_63 (lv_at hl 4 rfl) ?_
            refine x_ialdE (x := (V1 ((p0).toNat) ((j).toNat))) hC hw (hR1.rv (show ((p0).toNat) < 3 by omega)) (by omega) (by omega) (by omega) dX5_raise_65 rfl ?_
            have hrv_37 := hR1.vr (show ((p0).toNat) < 3 by omega) (show (j).toNat < 100 by omega)
            have hpv_37 := hR1.vs (show ((p0).toNat) < 3 by omega) (show (j).toNat < 100 by omega)
            refine lv_istore (lv' := [(5, .int (iN ((V1 ((p0).toNat) ((j).toNat))))), (0, .ref a), (1, .int (iN (p0))), (2, .int (iN (p1))), (3, .int (iN (n))), (4, .int (iN (j)))]) hC.1 hC.2.1 dX5_raise_66 hl (by decide) rfl (fun ls hl => ?_)
            refine lv_iload hC.1 hC.2.1 dX5_raise_68 (lv_at hl 0 rfl) ?_
            refine x_sipush hC dX5_raise_70 (by decide +kernel) ?_
            refine x_icmp_ne (tgt := 79) hC ⟨by omega, by omega⟩ ⟨by omega, by omega⟩ dX5_raise_73 (by decide) (fun c_38 => ?_) (fun c_38 => ?_)
            · refine lv_aload_n hC.1 hC.2.1 dX5_raise_79 rfl (lv_at hl 1 rfl) ?_
              refine lv_iload_n hC.1 hC.2.1 dX5_raise_80 rfl (lv_at hl 2 rfl) ?_
              refine lv_iload hC.1 hC.2.1 dX5_raise_81 (lv_at hl 5 rfl) ?_
              refine lv_iload hC.1 hC.2.1 dX5_raise_83 (lv_at hl 0 rfl) ?_
              refine lv_iload_n hC.1 hC.2.1 dX5_raise_85 rfl (lv_at hl 3 rfl) ?_
              refine x_iadd hC dX5_raise_86 ?_
              refine x_callS hC hw (lv_size hl) (c_X5_held l G (M := M1) (p0 := ((V1 ((p0).toNat) ((j).toNat)) + p1)) (by omega)) gX5_raise_X5_held rfl dv_X5_held_s rfl (Nat.le_of_ble_eq_true rfl) (by rw [hRf]; decide) (by rw [hRl]; decide) (by omega) (by omega) dX5_raise_87 (fun r9 M_39 H locs hq hw => ?_)
              obtain ⟨z_40, rfl, hM9, hz_40a, hz_40d⟩ := hq
              rw [hM9] at hw
              show W p l e R s m args below meth c H locs _ _ _ (F0 m 90 ls [.int (iN (z_40)), .int (iN (j)), .int (iN (p0)), .ref a])
              refine x_callV hC hw (lv_size hl) (c_X5_set l G hR1 (p0 := p0) (by omega) (p1 := j) (by omega) (p2 := z_40) (by omega) (by omega) (by omega) (by omega) (by intro q9; first | exact absurd rfl q9 | assumption | exact hpv_37 q9 | exact hpv_37 (by omega))) gX5_raise_X5_set rfl dv_X5_set hR1.1.1 rfl rfl (Nat.le_of_ble_eq_true rfl) (by rw [hRf]; decide) (by rw [hRl]; decide) (by omega) (by omega) dX5_raise_90 (fun r9 M_41 H locs hq hw => ?_)
              obtain ⟨z_43, brk_42, Vk_42, rfl, hz_43a, hz_43v, hz_43b, he0k_42, he1k_42, hx5k_42, hRk_42⟩ := hq
              have hsck_42 := hRk_42.sc
              show W p l e R s m args below meth c H locs _ _ _ (F0 m 93 ls [.int (iN (z_43))])
              refine lv_pop hC.1 hC.2.1 dX5_raise_93 rfl ?_
              refine lv_iload_n hC.1 hC.2.1 dX5_raise_94 rfl (lv_at hl 4 rfl) ?_
              refine lv_aload_n hC.1 hC.2.1 dX5_raise_95 rfl (lv_at hl 1 rfl) ?_
              refine x_get hC hw hRk_42.1.1 rfl hinX5 2 (by decide) (by decide +kernel) rfl dX5_raise_96 ?_
              refine lv_iload_n hC.1 hC.2.1 dX5_raise_99 rfl (lv_at hl 2 rfl) ?_
              refine x_ald4 hC hw hRk_42.1.2.1 (by omega) (by omega) (by omega) dX5_raise_100 ?_
              rw [hRk_42.fa' (show (p0).toNat < 3 by omega)]
              show W p l e R s m args below meth c _ _ _ _ _ (F0 m 101 ls [.ref (qv ((p0).toNat)), .int (iN (n))])
              refine lv_iload hC.1 hC.2.1 dX5_raise_101 (lv_at hl 5 rfl) ?_
              refine x_ialdE (x := (Vk_42 ((p0).toNat) ((j).toNat))) hC hw (hRk_42.rv (show ((p0).toNat) < 3 by omega)) (by omega) (by omega) (by omega) dX5_raise_103 rfl ?_
              have hrv_44 := hRk_42.vr (show ((p0).toNat) < 3 by omega) (show (j).toNat < 100 by omega)
              have hpv_44 := hRk_42.vs (show ((p0).toNat) < 3 by omega) (show (j).toNat < 100 by omega)
              refine lv_iload hC.1 hC.2.1 dX5_raise_104 (lv_at hl 0 rfl) ?_
              refine x_icmp_eq (tgt := 113) hC ⟨by omega, by omega⟩ ⟨by omega, by omega⟩ dX5_raise_106 (by decide) (fun c_45 => ?_) (fun c_45 => ?_)
              · refine x_const hC dX5_raise_113 ?_
                refine x_callS hC hw (lv_size hl) (c_X5_one l G (M := M_41) (p0 := 0) (by omega)) gX5_raise_X5_one rfl dv_X5_one_s rfl (Nat.le_of_ble_eq_true rfl) (by rw [hRf]; decide) (by rw [hRl]; decide) (by omega) (by omega) dX5_raise_114 (fun r9 M_46 H locs hq hw => ?_)
                obtain ⟨z_47, rfl, hM9, hz_47a, hz_47b⟩ := hq
                rw [hM9] at hw
                show W p l e R s m args below meth c H locs _ _ _ (F0 m 117 ls [.int (iN (z_47)), .int (iN (n))])
                refine x_iadd hC dX5_raise_117 ?_
                refine lv_istore_n (lv' := [(3, .int (iN (n + z_47))), (5, .int (iN ((V1 ((p0).toNat) ((j).toNat))))), (0, .ref a), (1, .int (iN (p0))), (2, .int (iN (p1))), (4, .int (iN (j)))]) hC.1 hC.2.1 dX5_raise_118 rfl hl (by decide) rfl (fun ls hl => ?_)
                refine x_iinc (lv' := [(4, .int (iN (j + 1))), (3, .int (iN (n + z_47))), (5, .int (iN ((V1 ((p0).toNat) ((j).toNat))))), (0, .ref a), (1, .int (iN (p0))), (2, .int (iN (p1)))]) hC dX5_raise_119 hl (k := 5) rfl (by decide) rfl (fun ls hl => ?_)
                refine lv_goto (tgt := 50) hC.1 hC.2.1 dX5_raise_122 (by decide) ?_
                exact ih50 (n + z_47) (j + 1) _ _ _ hRk_42 (xI5.tr hx1 (hx5k_42)) (ml_set (by omega) hV1 he1k_42 (show z_40 = (F_raise (V (p0).toNat) p1) (j).toNat by have e9 := bdN_eq hz_40d; rw [hvj] at e9; simp only [F_raise]; rw [if_neg (by omega)]; exact e9.symm)) (bl_set (by omega) hV1 hbr1 (show z_40 = (F_raise (V (p0).toNat) p1) (j).toNat by have e9 := bdN_eq hz_40d; rw [hvj] at e9; simp only [F_raise]; rw [if_neg (by omega)]; exact e9.symm) he0k_42) _ _ _ (by omega) (by omega) (by omega) (by have e9 := bdN_eq hz_40d; rw [hvj] at e9; have e8 := upB_upV he1k_42; rw [rsN_s (by omega) rfl, if_neg (by omega), e9]; omega) hw (lv_sub hl [3, 4, 5, 1, 0] rfl)
              · refine x_const hC dX5_raise_109 ?_
                refine lv_goto (tgt := 114) hC.1 hC.2.1 dX5_raise_110 (by decide) ?_
                refine x_callS hC hw (lv_size hl) (c_X5_one l G (M := M_41) (p0 := 1) (by omega)) gX5_raise_X5_one rfl dv_X5_one_s rfl (Nat.le_of_ble_eq_true rfl) (by rw [hRf]; decide) (by rw [hRl]; decide) (by omega) (by omega) dX5_raise_114 (fun r9 M_48 H locs hq hw => ?_)
                obtain ⟨z_49, rfl, hM9, hz_49a, hz_49b⟩ := hq
                rw [hM9] at hw
                show W p l e R s m args below meth c H locs _ _ _ (F0 m 117 ls [.int (iN (z_49)), .int (iN (n))])
                refine x_iadd hC dX5_raise_117 ?_
                refine lv_istore_n (lv' := [(3, .int (iN (n + z_49))), (5, .int (iN ((V1 ((p0).toNat) ((j).toNat))))), (0, .ref a), (1, .int (iN (p0))), (2, .int (iN (p1))), (4, .int (iN (j)))]) hC.1 hC.2.1 dX5_raise_118 rfl hl (by decide) rfl (fun ls hl => ?_)
                refine x_iinc (lv' := [(4, .int (iN (j + 1))), (3, .int (iN (n + z_49))), (5, .int (iN ((V1 ((p0).toNat) ((j).toNat))))), (0, .ref a), (1, .int (iN (p0))), (2, .int (iN (p1)))]) hC dX5_raise_119 hl (k := 5) rfl (by decide) rfl (fun ls hl => ?_)
                refine lv_goto (tgt := 50) hC.1 hC.2.1 dX5_raise_122 (by decide) ?_
                exact ih50 (n + z_49) (j + 1) _ _ _ hRk_42 (xI5.tr hx1 (hx5k_42)) (ml_set (by omega) hV1 he1k_42 (show z_40 = (F_raise (V (p0).toNat) p1) (j).toNat by have e9 := bdN_eq hz_40d; rw [hvj] at e9; simp only [F_raise]; rw [if_neg (by omega)]; exact e9.symm)) (bl_set (by omega) hV1 hbr1 (show z_40 = (F_raise (V (p0).toNat) p1) (j).toNat by have e9 := bdN_eq hz_40d; rw [hvj] at e9; simp only [F_raise]; rw [if_neg (by omega)]; exact e9.symm) he0k_42) _ _ _ (by omega) (by omega) (by omega) (by have e9 := bdN_eq hz_40d; rw [hvj] at e9; have e8 := upB_upV he1k_42; rw [rsN_s (by omega) rfl, if_neg (by omega), e9]; omega) hw (lv_sub hl [3, 4, 5, 1, 0] rfl)
            · refine lv_goto (tgt := 119) hC.1 hC.2.1 dX5_raise_76 (by decide) ?_
              refine x_iinc (lv' := [(4, .int (iN (j + 1))), (5, .int (iN ((V1 ((p0).toNat) ((j).toNat))))), (0, .ref a), (1, .int (iN (p0))), (2, .int (iN (p1))), (3, .int (iN (n)))]) hC dX5_raise_119 hl (k := 5) rfl (by decide) rfl (fun ls hl => ?_)
              refine lv_goto (tgt := 50) hC.1 hC.2.1 dX5_raise_122 (by decide) ?_
              exact ih50 n (j + 1) _ _ _ hR1 hx1 (ml_skip (by omega) hV1 (show (F_raise (V (p0).toNat) p1) (j).toNat = V ((p0).toNat) (j).toNat by simp only [F_raise]; rw [if_pos (by omega)]; omega)) (bl_skip (by omega) hbr1 (show (F_raise (V (p0).toNat) p1) (j).toNat = V ((p0).toNat) (j).toNat by simp only [F_raise]; rw [if_pos (by omega)]; omega)) _ _ _ (by omega) (by omega) (by omega) (by rw [rsN_s (by omega) rfl, if_pos (by omega)]; omega) hw (lv_sub hl [2, 3, 4, 5, 0] rfl)
      · refine x_const hC dX5_raise_38 ?_
        exact x_iret hC hw dX5_raise_39 (by omega) (by omega) ⟨0, _, rfl, by omega, Or.inr ⟨by omega, by omega, MGm.of hRk_31 hK⟩⟩
set_option maxHeartbeats 4000000 in
set_option maxRecDepth 100000 in
theorem c_X5_sift (l : Launch) (G : xG) {M : HM} {a va oa wa ya : Nat} {wk : Option Nat} {th : Int} {rfd : Int32} {br re la ha : Int} {kp kv : Int32} {qv qw : Nat → Nat} {fa fb : Nat → Option Nat} {V : BW} {O : OW} {fy : Nat → Option Nat} {Wv : VW} {wt : Option VT} {S : Nat → Bool} (hR : MGx G M a va oa wa ya wk th rfd br re la ha kp kv qv qw fa fb V O fy Wv wt S) {K : WA} (hK : abM O wt br re la ha K) {p0 : Int} (hp0 : -2147483648 ≤ p0 ∧ p0 ≤ 2147483647) {p1 : Int} (hp1 : -2147483648 ≤ p1 ∧ p1 ≤ 2147483647) : xMet l G yX5_sift wsX5_sift 2 44 0 0 [.ref a, .int (iN (p0)), .int (iN (p1))] M (fun r M1 => ∃ (z th1 : Int), r = some (.int (iN z)) ∧ (-2147483648 ≤ z ∧ z ≤ 2147483647) ∧ ((th1 = 0 ∧ ((0 ≤ p0 ∧ p0 ≤ 2) ∧ (2 ≤ p1 ∧ p1 ≤ 99)) ∧ z = A_sift (O, V, Wv, K, kp, kv, rfd) p0 p1 ∧ MGm G M1 a S th1 (S_sift (O, V, Wv, K, kp, kv, rfd) p0 p1)) ∨ (th1 ≠ 0 ∧ ((th1 = 1 ∧ ¬ (0 ≤ p0 ∧ p0 ≤ 2)) ∨ (th1 = 2 ∧ (0 ≤ p0 ∧ p0 ≤ 2) ∧ ¬ (2 ≤ p1 ∧ p1 ≤ 99))) ∧ MGm G M1 a S th1 (O, V, Wv, K, kp, kv, rfd)))) := by
  refine x_intro (cc := cX5_sift) (maxL := 5) (ret := (some .int)) (by decide +kernel) rfl (Nat.le_of_ble_eq_true rfl) ?_
  intro p e R s m args below meth c ls hRf hRc hRs hRl hC hw hl
  have hsc0 := hR.sc
  have hinX5 : ∀ w ∈ wsX50, w ∈ wsX5_sift := by decide +kernel
  have hl : lv_has ls 5 [(0, .ref a), (1, .int (iN (p0))), (2, .int (iN (p1)))] := hl
  refine lv_aload_n hC.1 hC.2.1 dX5_sift_0 rfl (lv_at hl 0 rfl) ?_
  refine lv_iload_n hC.1 hC.2.1 dX5_sift_1 rfl (lv_at hl 1 rfl) ?_
  refine x_callS hC hw (lv_size hl) (c_X5_isNoBook l G (M := M) (p0 := p0) (by omega)) gX5_sift_X5_isNoBook rfl dv_X5_isNoBook_s rfl (Nat.le_of_ble_eq_true rfl) (by rw [hRf]; decide) (by rw [hRl]; decide) (by omega) (by omega) dX5_sift_2 (fun r9 M_1 H locs hq hw => ?_)
  obtain ⟨z_2, rfl, hM9, hz_2a, hz_2b⟩ := hq
  rw [hM9] at hw
  show W p l e R s m args below meth c H locs _ _ _ (F0 m 5 ls [.int (iN (z_2)), .ref a])
  refine x_const hC dX5_sift_5 ?_
  refine x_callV hC hw (lv_size hl) (c_X5_start l G hR (p0 := z_2) (by omega) (p1 := 1) (by omega) (by omega)) gX5_sift_X5_start rfl dv_X5_start hR.1.1 rfl rfl (Nat.le_of_ble_eq_true rfl) (by rw [hRf]; decide) (by rw [hRl]; decide) (by omega) (by omega) dX5_sift_6 (fun r9 M_3 H locs hq hw => ?_)
  obtain ⟨z_5, thk_4, rfl, hz_5a, hz_5b, hz_5c0, hz_5c1, hx5k_4, hRk_4⟩ := hq
  have hsck_4 := hRk_4.sc
  show W p l e R s m args below meth c H locs _ _ _ (F0 m 9 ls [.int (iN (z_5))])
  refine x_if_ne (tgt := 35) hC ⟨by omega, by omega⟩ dX5_sift_9 (by decide) (fun c_6 => ?_) (fun c_6 => ?_)
  · refine x_const hC dX5_sift_35 ?_
    exact x_iret hC hw dX5_sift_36 (by omega) (by omega) ⟨0, _, rfl, by omega, Or.inr ⟨by omega, by omega, MGm.of hRk_4 hK⟩⟩
  · refine lv_aload_n hC.1 hC.2.1 dX5_sift_12 rfl (lv_at hl 0 rfl) ?_
    refine lv_iload_n hC.1 hC.2.1 dX5_sift_13 rfl (lv_at hl 2 rfl) ?_
    refine x_const hC dX5_sift_14 ?_
    refine x_bipush hC dX5_sift_15 (by decide +kernel) ?_
    refine x_callS hC hw (lv_size hl) (c_X5_isIn l G (M := M_3) (p0 := p1) (by omega) (p1 := 2) (by omega) (p2 := 99) (by omega)) gX5_sift_X5_isIn rfl dv_X5_isIn_s rfl (Nat.le_of_ble_eq_true rfl) (by rw [hRf]; decide) (by rw [hRl]; decide) (by omega) (by omega) dX5_sift_17 (fun r9 M_7 H locs hq hw => ?_)
    obtain ⟨z_8, rfl, hM9, hz_8a, hz_8b, hz_8c⟩ := hq
    rw [hM9] at hw
    show W p l e R s m args below meth c H locs _ _ _ (F0 m 20 ls [.int (iN (z_8)), .ref a])
    refine x_if_ne (tgt := 27) hC ⟨by omega, by omega⟩ dX5_sift_20 (by decide) (fun c_9 => ?_) (fun c_9 => ?_)
    · refine x_const hC dX5_sift_27 ?_
      refine x_const hC dX5_sift_28 ?_
      refine x_callV hC hw (lv_size hl) (c_X5_refuse l G hRk_4 (p0 := 0) (by omega) (p1 := 2) (by omega) (by omega)) gX5_sift_X5_refuse rfl dv_X5_refuse hRk_4.1.1 rfl rfl (Nat.le_of_ble_eq_true rfl) (by rw [hRf]; decide) (by rw [hRl]; decide) (by omega) (by omega) dX5_sift_29 (fun r9 M_10 H locs hq hw => ?_)
      obtain ⟨z_12, thk_11, rfl, hz_12a, hz_12b, hz_12c0, hz_12c1, hx5k_11, hRk_11⟩ := hq
      have hsck_11 := hRk_11.sc
      show W p l e R s m args below meth c H locs _ _ _ (F0 m 32 ls [.int (iN (z_12))])
      refine x_if_eq (tgt := 37) hC ⟨by omega, by omega⟩ dX5_sift_32 (by decide) (fun c_13 => ?_) (fun c_13 => ?_)
      · refine lv_aload_n hC.1 hC.2.1 dX5_sift_37 rfl (lv_at hl 0 rfl) ?_
        refine lv_iload_n hC.1 hC.2.1 dX5_sift_38 rfl (lv_at hl 1 rfl) ?_
        refine x_callV hC hw (lv_size hl) (c_X5_touch l G hRk_11 (p0 := p0) (by omega) (by omega)) gX5_sift_X5_touch rfl dv_X5_touch hRk_11.1.1 rfl rfl (Nat.le_of_ble_eq_true rfl) (by rw [hRf]; decide) (by rw [hRl]; decide) (by omega) (by omega) dX5_sift_39 (fun r9 M_14 H locs hq hw => ?_)
        obtain ⟨hak_15, rfl, he0k_15, hx5k_15, hRk_15⟩ := hq
        have hsck_15 := hRk_15.sc
        show W p l e R s m args below meth c H locs _ _ _ (F0 m 42 ls [])
        refine x_const hC dX5_sift_42 ?_
        refine lv_istore_n (lv' := [(3, .int (iN (0))), (0, .ref a), (1, .int (iN (p0))), (2, .int (iN (p1)))]) hC.1 hC.2.1 dX5_sift_43 rfl hl (by decide) rfl (fun ls hl => ?_)
        refine x_const hC dX5_sift_44 ?_
        refine lv_istore (lv' := [(4, .int (iN (0))), (3, .int (iN (0))), (0, .ref a), (1, .int (iN (p0))), (2, .int (iN (p1)))]) hC.1 hC.2.1 dX5_sift_45 hl (by decide) rfl (fun ls hl => ?_)
        suffices hloop47 : ∀ (n9 : Nat) (n : Int) (j : Int) (M1 : HM) (br1 : Int) (V1 : BW) (hR1 : MGx G M1 a va oa wa ya wk thk_11 rfd br1 re la hak_15 kp kv qv qw fa fb V1 O fy Wv wt S) (hx1 : xI5 G M M1) (hV1 : V1 = upB V ((p0).toNat) (mapN (V ((p0).toNat)) (F_sift (V (p0).toNat) p1) (j).toNat)) (hbr1 : br1 = brL wt ((p0).toNat) (V ((p0).toNat)) (F_sift (V (p0).toNat) p1) (j).toNat br) (H : Heap) (locs : List Loc) (ls : Array Slot), (hmu : (100 - j).toNat < n9) → (hi0 : 0 ≤ j ∧ j ≤ 100) → (hi1 : 0 ≤ n ∧ n ≤ j) → (hcn : n = stN (V (p0).toNat) (F_sift (V (p0).toNat) p1) (j).toNat) → xD G (xA M s.heap.size) s M1 H locs → lv_has ls 5 [(0, .ref a), (1, .int (iN (p0))), (2, .int (iN (p1))), (3, .int (iN (n))), (4, .int (iN (j)))] → W p l e R s m args below meth c H locs _ _ _ (F0 m 47 ls []) by
          exact hloop47 _ 0 0 _ _ _ hRk_15 (xI5.tr (xI5.tr (hx5k_4) (hx5k_11)) (hx5k_15)) ml_0 bl_0 _ _ _ (Nat.lt_succ_self _) (by omega) (by omega) (rfl) hw (lv_sub hl [2, 3, 4, 1, 0] rfl)
        intro n9
        induction n9 with
        | zero => intro n j M1 br1 V1 hR1 hx1 hV1 hbr1 H locs ls hmu; exact absurd hmu (Nat.not_lt_zero _)
        | succ n9 ih47 =>
          intro n j M1 br1 V1 hR1 hx1 hV1 hbr1 H locs ls hmu hi0 hi1 hcn hw hl
          have hvj : V1 ((p0).toNat) (j).toNat = V ((p0).toNat) (j).toNat := ml_at hV1
          have hsc1 := hR1.sc
          refine lv_iload hC.1 hC.2.1 dX5_sift_47 (lv_at hl 4 rfl) ?_
          refine x_bipush hC dX5_sift_49 (by decide +kernel) ?_
          refine x_icmp_ge (tgt := 106) hC ⟨by omega, by omega⟩ ⟨by omega, by omega⟩ dX5_sift_51 (by decide) (fun c_16 => ?_) (fun c_16 => ?_)
          · refine lv_iload_n hC.1 hC.2.1 dX5_sift_106 rfl (lv_at hl 3 rfl) ?_
            exact x_iret hC hw dX5_sift_107 (by omega) (by omega) ⟨n, _, rfl, by omega, Or.inl ⟨by omega, by first | trivial | omega, (by have e9 : (j).toNat = 100 := (by omega); rw [e9] at hcn; exact hcn), (by have e9 : (j).toNat = 100 := (by omega); rw [e9] at hV1 hbr1; exact MGm.mut hV1 hR1 hK (bl_map hbr1) he0k_15 rfl)⟩⟩
          · refine lv_aload_n hC.1 hC.2.1 dX5_sift_54 rfl (lv_at hl 0 rfl) ?_
            refine x_get hC hw hR1.1.1 rfl hinX5 2 (by decide) (by decide +kernel) rfl dX5_sift_55 ?_
            refine lv_iload_n hC.1 hC.2.1 dX5_sift_58 rfl (lv_at hl 1 rfl) ?_
            refine x_ald4 hC hw hR1.1.2.1 (by omega) (by omega) (by omega) dX5_sift_59 ?_
            rw [hR1.fa' (show (p0).toNat < 3 by omega)]
            show W p l e R s m args below meth c _ _ _ _ _ (F0 m 60 ls [.ref (qv ((p0).toNat))])
            refine lv_iload hC.1 hC.2.1 dX5_sift_60 (lv_at hl 4 rfl) ?_
            refine x_ialdE (x := (V1 ((p0).toNat) ((j).toNat))) hC hw (hR1.rv (show ((p0).toNat) < 3 by omega)) (by omega) (by omega) (by omega) dX5_sift_62 rfl ?_
            have hrv_17 := hR1.vr (show ((p0).toNat) < 3 by omega) (show (j).toNat < 100 by omega)
            have hpv_17 := hR1.vs (show ((p0).toNat) < 3 by omega) (show (j).toNat < 100 by omega)
            refine x_sipush hC dX5_sift_63 (by decide +kernel) ?_
            refine x_icmp_eq (tgt := 100) hC ⟨by omega, by omega⟩ ⟨by omega, by omega⟩ dX5_sift_66 (by decide) (fun c_18 => ?_) (fun c_18 => ?_)
            · refine x_iinc (lv' := [(4, .int (iN (j + 1))), (0, .ref a), (1, .int (iN (p0))), (2, .int (iN (p1))), (3, .int (iN (n)))]) hC dX5_sift_100 hl (k := 4) rfl (by decide) rfl (fun ls hl => ?_)
              refine lv_goto (tgt := 47) hC.1 hC.2.1 dX5_sift_103 (by decide) ?_
              exact ih47 n (j + 1) _ _ _ hR1 hx1 (ml_skip (by omega) hV1 (show (F_sift (V (p0).toNat) p1) (j).toNat = V ((p0).toNat) (j).toNat by simp only [F_sift]; rw [if_neg (fun q9 => q9.1 (by omega))])) (bl_skip (by omega) hbr1 (show (F_sift (V (p0).toNat) p1) (j).toNat = V ((p0).toNat) (j).toNat by simp only [F_sift]; rw [if_neg (fun q9 => q9.1 (by omega))])) _ _ _ (by omega) (by omega) (by omega) (by rw [stN_s (by omega) rfl, if_neg (fun q8 => by have e8 := q8.2; rw [show (F_sift (V (p0).toNat) p1) (j).toNat = V (p0).toNat (j).toNat by simp only [F_sift]; rw [if_neg (fun q9 => q9.1 (by omega))]] at e8; exact q8.1 e8)]; omega) hw (lv_sub hl [1, 2, 3, 4, 0] rfl)
            · refine lv_aload_n hC.1 hC.2.1 dX5_sift_69 rfl (lv_at hl 0 rfl) ?_
              refine x_get hC hw hR1.1.1 rfl hinX5 2 (by decide) (by decide +kernel) rfl dX5_sift_70 ?_
              refine lv_iload_n hC.1 hC.2.1 dX5_sift_73 rfl (lv_at hl 1 rfl) ?_
              refine x_ald4 hC hw hR1.1.2.1 (by omega) (by omega) (by omega) dX5_sift_74 ?_
              rw [hR1.fa' (show (p0).toNat < 3 by omega)]
              show W p l e R s m args below meth c _ _ _ _ _ (F0 m 75 ls [.ref (qv ((p0).toNat))])
              refine lv_iload hC.1 hC.2.1 dX5_sift_75 (lv_at hl 4 rfl) ?_
              refine x_ialdE (x := (V1 ((p0).toNat) ((j).toNat))) hC hw (hR1.rv (show ((p0).toNat) < 3 by omega)) (by omega) (by omega) (by omega) dX5_sift_77 rfl ?_
              have hrv_19 := hR1.vr (show ((p0).toNat) < 3 by omega) (show (j).toNat < 100 by omega)
              have hpv_19 := hR1.vs (show ((p0).toNat) < 3 by omega) (show (j).toNat < 100 by omega)
              refine lv_iload_n hC.1 hC.2.1 dX5_sift_78 rfl (lv_at hl 2 rfl) ?_
              refine x_irem hC ⟨by omega, by omega⟩ ⟨by omega, by omega⟩ (by omega) (by omega) dX5_sift_79 ?_
              obtain ⟨z_20, hz_20⟩ : ∃ z : Int, z = (V1 ((p0).toNat) ((j).toNat)).tmod p1 := ⟨_, rfl⟩
              rw [← hz_20]
              have hrz_20 : -2147483648 ≤ z_20 ∧ z_20 ≤ 2147483647 := by rw [hz_20]; exact x_tmod_rng ⟨by omega, by omega⟩ (by omega)
              refine x_if_eq (tgt := 86) hC ⟨by omega, by omega⟩ dX5_sift_80 (by decide) (fun c_21 => ?_) (fun c_21 => ?_)
              · refine lv_aload_n hC.1 hC.2.1 dX5_sift_86 rfl (lv_at hl 0 rfl) ?_
                refine lv_iload_n hC.1 hC.2.1 dX5_sift_87 rfl (lv_at hl 1 rfl) ?_
                refine lv_iload hC.1 hC.2.1 dX5_sift_88 (lv_at hl 4 rfl) ?_
                refine x_sipush hC dX5_sift_90 (by decide +kernel) ?_
                refine x_callV hC hw (lv_size hl) (c_X5_set l G hR1 (p0 := p0) (by omega) (p1 := j) (by omega) (p2 := (-10000)) (by omega) (by omega) (by omega) (by omega) (fun q9 => absurd rfl q9)) gX5_sift_X5_set rfl dv_X5_set hR1.1.1 rfl rfl (Nat.le_of_ble_eq_true rfl) (by rw [hRf]; decide) (by rw [hRl]; decide) (by omega) (by omega) dX5_sift_93 (fun r9 M_22 H locs hq hw => ?_)
                obtain ⟨z_24, brk_23, Vk_23, rfl, hz_24a, hz_24v, hz_24b, he0k_23, he1k_23, hx5k_23, hRk_23⟩ := hq
                have hsck_23 := hRk_23.sc
                show W p l e R s m args below meth c H locs _ _ _ (F0 m 96 ls [.int (iN (z_24))])
                refine lv_pop hC.1 hC.2.1 dX5_sift_96 rfl ?_
                refine x_iinc (lv' := [(3, .int (iN (n + 1))), (0, .ref a), (1, .int (iN (p0))), (2, .int (iN (p1))), (4, .int (iN (j)))]) hC dX5_sift_97 hl (k := 3) rfl (by decide) rfl (fun ls hl => ?_)
                refine x_iinc (lv' := [(4, .int (iN (j + 1))), (3, .int (iN (n + 1))), (0, .ref a), (1, .int (iN (p0))), (2, .int (iN (p1)))]) hC dX5_sift_100 hl (k := 4) rfl (by decide) rfl (fun ls hl => ?_)
                refine lv_goto (tgt := 47) hC.1 hC.2.1 dX5_sift_103 (by decide) ?_
                exact ih47 (n + 1) (j + 1) _ _ _ hRk_23 (xI5.tr hx1 (hx5k_23)) (ml_set (by omega) hV1 he1k_23 (show (-10000) = (F_sift (V (p0).toNat) p1) (j).toNat by simp only [F_sift]; rw [if_pos ⟨by omega, by rw [← hvj, ← hz_20]; omega⟩])) (bl_set (by omega) hV1 hbr1 (show (-10000) = (F_sift (V (p0).toNat) p1) (j).toNat by simp only [F_sift]; rw [if_pos ⟨by omega, by rw [← hvj, ← hz_20]; omega⟩]) he0k_23) _ _ _ (by omega) (by omega) (by omega) (by rw [stN_s (by omega) rfl, if_pos ⟨by omega, (show -10000 = (F_sift (V (p0).toNat) p1) (j).toNat by simp only [F_sift]; rw [if_pos ⟨by omega, by rw [← hvj, ← hz_20]; omega⟩]).symm⟩]; omega) hw (lv_sub hl [2, 3, 4, 1, 0] rfl)
              · refine lv_goto (tgt := 100) hC.1 hC.2.1 dX5_sift_83 (by decide) ?_
                refine x_iinc (lv' := [(4, .int (iN (j + 1))), (0, .ref a), (1, .int (iN (p0))), (2, .int (iN (p1))), (3, .int (iN (n)))]) hC dX5_sift_100 hl (k := 4) rfl (by decide) rfl (fun ls hl => ?_)
                refine lv_goto (tgt := 47) hC.1 hC.2.1 dX5_sift_103 (by decide) ?_
                exact ih47 n (j + 1) _ _ _ hR1 hx1 (ml_skip (by omega) hV1 (show (F_sift (V (p0).toNat) p1) (j).toNat = V ((p0).toNat) (j).toNat by simp only [F_sift]; rw [if_neg (fun q9 => by have e9 := q9.2; rw [← hvj, ← hz_20] at e9; omega)])) (bl_skip (by omega) hbr1 (show (F_sift (V (p0).toNat) p1) (j).toNat = V ((p0).toNat) (j).toNat by simp only [F_sift]; rw [if_neg (fun q9 => by have e9 := q9.2; rw [← hvj, ← hz_20] at e9; omega)])) _ _ _ (by omega) (by omega) (by omega) (by rw [stN_s (by omega) rfl, if_neg (fun q8 => by have e8 := q8.2; rw [show (F_sift (V (p0).toNat) p1) (j).toNat = V (p0).toNat (j).toNat by simp only [F_sift]; rw [if_neg (fun q9 => by have e9 := q9.2; rw [← hvj, ← hz_20] at e9; omega)]] at e8; exact q8.1 e8)]; omega) hw (lv_sub hl [1, 2, 3, 4, 0] rfl)
      · refine x_const hC dX5_sift_35 ?_
        exact x_iret hC hw dX5_sift_36 (by omega) (by omega) ⟨0, _, rfl, by omega, Or.inr ⟨by omega, by omega, MGm.of hRk_11 hK⟩⟩
    · refine x_const hC dX5_sift_23 ?_
      refine lv_goto (tgt := 28) hC.1 hC.2.1 dX5_sift_24 (by decide) ?_
      refine x_const hC dX5_sift_28 ?_
      refine x_callV hC hw (lv_size hl) (c_X5_refuse l G hRk_4 (p0 := 1) (by omega) (p1 := 2) (by omega) (by omega)) gX5_sift_X5_refuse rfl dv_X5_refuse hRk_4.1.1 rfl rfl (Nat.le_of_ble_eq_true rfl) (by rw [hRf]; decide) (by rw [hRl]; decide) (by omega) (by omega) dX5_sift_29 (fun r9 M_25 H locs hq hw => ?_)
      obtain ⟨z_27, thk_26, rfl, hz_27a, hz_27b, hz_27c0, hz_27c1, hx5k_26, hRk_26⟩ := hq
      have hsck_26 := hRk_26.sc
      show W p l e R s m args below meth c H locs _ _ _ (F0 m 32 ls [.int (iN (z_27))])
      refine x_if_eq (tgt := 37) hC ⟨by omega, by omega⟩ dX5_sift_32 (by decide) (fun c_28 => ?_) (fun c_28 => ?_)
      · refine lv_aload_n hC.1 hC.2.1 dX5_sift_37 rfl (lv_at hl 0 rfl) ?_
        refine lv_iload_n hC.1 hC.2.1 dX5_sift_38 rfl (lv_at hl 1 rfl) ?_
        refine x_callV hC hw (lv_size hl) (c_X5_touch l G hRk_26 (p0 := p0) (by omega) (by omega)) gX5_sift_X5_touch rfl dv_X5_touch hRk_26.1.1 rfl rfl (Nat.le_of_ble_eq_true rfl) (by rw [hRf]; decide) (by rw [hRl]; decide) (by omega) (by omega) dX5_sift_39 (fun r9 M_29 H locs hq hw => ?_)
        obtain ⟨hak_30, rfl, he0k_30, hx5k_30, hRk_30⟩ := hq
        have hsck_30 := hRk_30.sc
        show W p l e R s m args below meth c H locs _ _ _ (F0 m 42 ls [])
        refine x_const hC dX5_sift_42 ?_
        refine lv_istore_n (lv' := [(3, .int (iN (0))), (0, .ref a), (1, .int (iN (p0))), (2, .int (iN (p1)))]) hC.1 hC.2.1 dX5_sift_43 rfl hl (by decide) rfl (fun ls hl => ?_)
        refine x_const hC dX5_sift_44 ?_
        refine lv_istore (lv' := [(4, .int (iN (0))), (3, .int (iN (0))), (0, .ref a), (1, .int (iN (p0))), (2, .int (iN (p1)))]) hC.1 hC.2.1 dX5_sift_45 hl (by decide) rfl (fun ls hl => ?_)
        suffices hloop47 : ∀ (n9 : Nat) (n : Int) (j : Int) (M1 : HM) (br1 : Int) (V1 : BW) (hR1 : MGx G M1 a va oa wa ya wk thk_26 rfd br1 re la hak_30 kp kv qv qw fa fb V1 O fy Wv wt S) (hx1 : xI5 G M M1) (hV1 : V1 = upB V ((p0).toNat) (mapN (V ((p0).toNat)) (F_sift (V (p0).toNat) p1) (j).toNat)) (hbr1 : br1 = brL wt ((p0).toNat) (V ((p0).toNat)) (F_sift (V (p0).toNat) p1) (j).toNat br) (H : Heap) (locs : List Loc) (ls : Array Slot), (hmu : (100 - j).toNat < n9) → (hi0 : 0 ≤ j ∧ j ≤ 100) → (hi1 : 0 ≤ n ∧ n ≤ j) → (hcn : n = stN (V (p0).toNat) (F_sift (V (p0).toNat) p1) (j).toNat) → xD G (xA M s.heap.size) s M1 H locs → lv_has ls 5 [(0, .ref a), (1, .int (iN (p0))), (2, .int (iN (p1))), (3, .int (iN (n))), (4, .int (iN (j)))] → W p l e R s m args below meth c H locs _ _ _ (F0 m 47 ls []) by
          exact hloop47 _ 0 0 _ _ _ hRk_30 (xI5.tr (xI5.tr (hx5k_4) (hx5k_26)) (hx5k_30)) ml_0 bl_0 _ _ _ (Nat.lt_succ_self _) (by omega) (by omega) (rfl) hw (lv_sub hl [2, 3, 4, 1, 0] rfl)
        intro n9
        induction n9 with
        | zero => intro n j M1 br1 V1 hR1 hx1 hV1 hbr1 H locs ls hmu; exact absurd hmu (Nat.not_lt_zero _)
        | succ n9 ih47 =>
          intro n j M1 br1 V1 hR1 hx1 hV1 hbr1 H locs ls hmu hi0 hi1 hcn hw hl
          have hvj : V1 ((p0).toNat) (j).toNat = V ((p0).toNat) (j).toNat := ml_at hV1
          have hsc1 := hR1.sc
          refine lv_iload hC.1 hC.2.1 dX5_sift_47 (lv_at hl 4 rfl) ?_
          refine x_bipush hC dX5_sift_49 (by decide +kernel) ?_
          refine x_icmp_ge (tgt := 106) hC ⟨by omega, by omega⟩ ⟨by omega, by omega⟩ dX5_sift_51 (by decide) (fun c_31 => ?_) (fun c_31 => ?_)
          · refine lv_iload_n hC.1 hC.2.1 dX5_sift_106 rfl (lv_at hl 3 rfl) ?_
            exact x_iret hC hw dX5_sift_107 (by omega) (by omega) ⟨n, _, rfl, by omega, Or.inl ⟨by omega, by first | trivial | omega, (by have e9 : (j).toNat = 100 := (by omega); rw [e9] at hcn; exact hcn), (by have e9 : (j).toNat = 100 := (by omega); rw [e9] at hV1 hbr1; exact MGm.mut hV1 hR1 hK (bl_map hbr1) he0k_30 rfl)⟩⟩
          · refine lv_aload_n hC.1 hC.2.1 dX5_sift_54 rfl (lv_at hl 0 rfl) ?_
            refine x_get hC hw hR1.1.1 rfl hinX5 2 (by decide) (by decide +kernel) rfl dX5_sift_55 ?_
            refine lv_iload_n hC.1 hC.2.1 dX5_sift_58 rfl (lv_at hl 1 rfl) ?_
            refine x_ald4 hC hw hR1.1.2.1 (by omega) (by omega) (by omega) dX5_sift_59 ?_
            rw [hR1.fa' (show (p0).toNat < 3 by omega)]
            show W p l e R s m args below meth c _ _ _ _ _ (F0 m 60 ls [.ref (qv ((p0).toNat))])
            refine lv_iload hC.1 hC.2.1 dX5_sift_60 (lv_at hl 4 rfl) ?_
            refine x_ialdE (x := (V1 ((p0).toNat) ((j).toNat))) hC hw (hR1.rv (show ((p0).toNat) < 3 by omega)) (by omega) (by omega) (by omega) dX5_sift_62 rfl ?_
            have hrv_32 := hR1.vr (show ((p0).toNat) < 3 by omega) (show (j).toNat < 100 by omega)
            have hpv_32 := hR1.vs (show ((p0).toNat) < 3 by omega) (show (j).toNat < 100 by omega)
            refine x_sipush hC dX5_sift_63 (by decide +kernel) ?_
            refine x_icmp_eq (tgt := 100) hC ⟨by omega, by omega⟩ ⟨by omega, by omega⟩ dX5_sift_66 (by decide) (fun c_33 => ?_) (fun c_33 => ?_)
            · refine x_iinc (lv' := [(4, .int (iN (j + 1))), (0, .ref a), (1, .int (iN (p0))), (2, .int (iN (p1))), (3, .int (iN (n)))]) hC dX5_sift_100 hl (k := 4) rfl (by decide) rfl (fun ls hl => ?_)
              refine lv_goto (tgt := 47) hC.1 hC.2.1 dX5_sift_103 (by decide) ?_
              exact ih47 n (j + 1) _ _ _ hR1 hx1 (ml_skip (by omega) hV1 (show (F_sift (V (p0).toNat) p1) (j).toNat = V ((p0).toNat) (j).toNat by simp only [F_sift]; rw [if_neg (fun q9 => q9.1 (by omega))])) (bl_skip (by omega) hbr1 (show (F_sift (V (p0).toNat) p1) (j).toNat = V ((p0).toNat) (j).toNat by simp only [F_sift]; rw [if_neg (fun q9 => q9.1 (by omega))])) _ _ _ (by omega) (by omega) (by omega) (by rw [stN_s (by omega) rfl, if_neg (fun q8 => by have e8 := q8.2; rw [show (F_sift (V (p0).toNat) p1) (j).toNat = V (p0).toNat (j).toNat by simp only [F_sift]; rw [if_neg (fun q9 => q9.1 (by omega))]] at e8; exact q8.1 e8)]; omega) hw (lv_sub hl [1, 2, 3, 4, 0] rfl)
            · refine lv_aload_n hC.1 hC.2.1 dX5_sift_69 rfl (lv_at hl 0 rfl) ?_
              refine x_get hC hw hR1.1.1 rfl hinX5 2 (by decide) (by decide +kernel) rfl dX5_sift_70 ?_
              refine lv_iload_n hC.1 hC.2.1 dX5_sift_73 rfl (lv_at hl 1 rfl) ?_
              refine x_ald4 hC hw hR1.1.2.1 (by omega) (by omega) (by omega) dX5_sift_74 ?_
              rw [hR1.fa' (show (p0).toNat < 3 by omega)]
              show W p l e R s m args below meth c _ _ _ _ _ (F0 m 75 ls [.ref (qv ((p0).toNat))])
              refine lv_iload hC.1 hC.2.1 dX5_sift_75 (lv_at hl 4 rfl) ?_
              refine x_ialdE (x := (V1 ((p0).toNat) ((j).toNat))) hC hw (hR1.rv (show ((p0).toNat) < 3 by omega)) (by omega) (by omega) (by omega) dX5_sift_77 rfl ?_
              have hrv_34 := hR1.vr (show ((p0).toNat) < 3 by omega) (show (j).toNat < 100 by omega)
              have hpv_34 := hR1.vs (show ((p0).toNat) < 3 by omega) (show (j).toNat < 100 by omega)
              refine lv_iload_n hC.1 hC.2.1 dX5_sift_78 rfl (lv_at hl 2 rfl) ?_
              refine x_irem hC ⟨by omega, by omega⟩ ⟨by omega, by omega⟩ (by omega) (by omega) dX5_sift_79 ?_
              obtain ⟨z_35, hz_35⟩ : ∃ z : Int, z = (V1 ((p0).toNat) ((j).toNat)).tmod p1 := ⟨_, rfl⟩
              rw [← hz_35]
              have hrz_35 : -2147483648 ≤ z_35 ∧ z_35 ≤ 2147483647 := by rw [hz_35]; exact x_tmod_rng ⟨by omega, by omega⟩ (by omega)
              refine x_if_eq (tgt := 86) hC ⟨by omega, by omega⟩ dX5_sift_80 (by decide) (fun c_36 => ?_) (fun c_36 => ?_)
              · refine lv_aload_n hC.1 hC.2.1 dX5_sift_86 rfl (lv_at hl 0 rfl) ?_
                refine lv_iload_n hC.1 hC.2.1 dX5_sift_87 rfl (lv_at hl 1 rfl) ?_
                refine lv_iload hC.1 hC.2.1 dX5_sift_88 (lv_at hl 4 rfl) ?_
                refine x_sipush hC dX5_sift_90 (by decide +kernel) ?_
                refine x_callV hC hw (lv_size hl) (c_X5_set l G hR1 (p0 := p0) (by omega) (p1 := j) (by omega) (p2 := (-10000)) (by omega) (by omega) (by omega) (by omega) (fun q9 => absurd rfl q9)) gX5_sift_X5_set rfl dv_X5_set hR1.1.1 rfl rfl (Nat.le_of_ble_eq_true rfl) (by rw [hRf]; decide) (by rw [hRl]; decide) (by omega) (by omega) dX5_sift_93 (fun r9 M_37 H locs hq hw => ?_)
                obtain ⟨z_39, brk_38, Vk_38, rfl, hz_39a, hz_39v, hz_39b, he0k_38, he1k_38, hx5k_38, hRk_38⟩ := hq
                have hsck_38 := hRk_38.sc
                show W p l e R s m args below meth c H locs _ _ _ (F0 m 96 ls [.int (iN (z_39))])
                refine lv_pop hC.1 hC.2.1 dX5_sift_96 rfl ?_
                refine x_iinc (lv' := [(3, .int (iN (n + 1))), (0, .ref a), (1, .int (iN (p0))), (2, .int (iN (p1))), (4, .int (iN (j)))]) hC dX5_sift_97 hl (k := 3) rfl (by decide) rfl (fun ls hl => ?_)
                refine x_iinc (lv' := [(4, .int (iN (j + 1))), (3, .int (iN (n + 1))), (0, .ref a), (1, .int (iN (p0))), (2, .int (iN (p1)))]) hC dX5_sift_100 hl (k := 4) rfl (by decide) rfl (fun ls hl => ?_)
                refine lv_goto (tgt := 47) hC.1 hC.2.1 dX5_sift_103 (by decide) ?_
                exact ih47 (n + 1) (j + 1) _ _ _ hRk_38 (xI5.tr hx1 (hx5k_38)) (ml_set (by omega) hV1 he1k_38 (show (-10000) = (F_sift (V (p0).toNat) p1) (j).toNat by simp only [F_sift]; rw [if_pos ⟨by omega, by rw [← hvj, ← hz_35]; omega⟩])) (bl_set (by omega) hV1 hbr1 (show (-10000) = (F_sift (V (p0).toNat) p1) (j).toNat by simp only [F_sift]; rw [if_pos ⟨by omega, by rw [← hvj, ← hz_35]; omega⟩]) he0k_38) _ _ _ (by omega) (by omega) (by omega) (by rw [stN_s (by omega) rfl, if_pos ⟨by omega, (show -10000 = (F_sift (V (p0).toNat) p1) (j).toNat by simp only [F_sift]; rw [if_pos ⟨by omega, by rw [← hvj, ← hz_35]; omega⟩]).symm⟩]; omega) hw (lv_sub hl [2, 3, 4, 1, 0] rfl)
              · refine lv_goto (tgt := 100) hC.1 hC.2.1 dX5_sift_83 (by decide) ?_
                refine x_iinc (lv' := [(4, .int (iN (j + 1))), (0, .ref a), (1, .int (iN (p0))), (2, .int (iN (p1))), (3, .int (iN (n)))]) hC dX5_sift_100 hl (k := 4) rfl (by decide) rfl (fun ls hl => ?_)
                refine lv_goto (tgt := 47) hC.1 hC.2.1 dX5_sift_103 (by decide) ?_
                exact ih47 n (j + 1) _ _ _ hR1 hx1 (ml_skip (by omega) hV1 (show (F_sift (V (p0).toNat) p1) (j).toNat = V ((p0).toNat) (j).toNat by simp only [F_sift]; rw [if_neg (fun q9 => by have e9 := q9.2; rw [← hvj, ← hz_35] at e9; omega)])) (bl_skip (by omega) hbr1 (show (F_sift (V (p0).toNat) p1) (j).toNat = V ((p0).toNat) (j).toNat by simp only [F_sift]; rw [if_neg (fun q9 => by have e9 := q9.2; rw [← hvj, ← hz_35] at e9; omega)])) _ _ _ (by omega) (by omega) (by omega) (by rw [stN_s (by omega) rfl, if_neg (fun q8 => by have e8 := q8.2; rw [show (F_sift (V (p0).toNat) p1) (j).toNat = V (p0).toNat (j).toNat by simp only [F_sift]; rw [if_neg (fun q9 => by have e9 := q9.2; rw [← hvj, ← hz_35] at e9; omega)]] at e8; exact q8.1 e8)]; omega) hw (lv_sub hl [1, 2, 3, 4, 0] rfl)
      · refine x_const hC dX5_sift_35 ?_
        exact x_iret hC hw dX5_sift_36 (by omega) (by omega) ⟨0, _, rfl, by omega, Or.inr ⟨by omega, by omega, MGm.of hRk_26 hK⟩⟩
set_option maxHeartbeats 4000000 in
set_option maxRecDepth 100000 in
theorem c_X5_having (l : Launch) (G : xG) {M : HM} {a va oa wa ya : Nat} {wk : Option Nat} {th : Int} {rfd : Int32} {br re la ha : Int} {kp kv : Int32} {qv qw : Nat → Nat} {fa fb : Nat → Option Nat} {V : BW} {O : OW} {fy : Nat → Option Nat} {Wv : VW} {wt : Option VT} {S : Nat → Bool} (hR : MGx G M a va oa wa ya wk th rfd br re la ha kp kv qv qw fa fb V O fy Wv wt S) {p0 : Int} (hp0 : -2147483648 ≤ p0 ∧ p0 ≤ 2147483647) {p1 : Int} (hp1 : -2147483648 ≤ p1 ∧ p1 ≤ 2147483647) (hob : 0 ≤ p0 ∧ p0 ≤ 2) : xMet l G yX5_having wsX5_having 1 20 0 0 [.ref a, .int (iN (p0)), .int (iN (p1))] M (fun r M1 => ∃ z : Int, r = some (.int (iN z)) ∧ M1 = M ∧ (0 ≤ z ∧ z ≤ 100) ∧ z = cvN (V p0.toNat) p1 100) := by
  refine x_intro (cc := cX5_having) (maxL := 8) (ret := (some .int)) (by decide +kernel) rfl (Nat.le_of_ble_eq_true rfl) ?_
  intro p e R s m args below meth c ls hRf hRc hRs hRl hC hw hl
  have hsc0 := hR.sc
  have hinX5 : ∀ w ∈ wsX50, w ∈ wsX5_having := by decide +kernel
  have hl : lv_has ls 8 [(0, .ref a), (1, .int (iN (p0))), (2, .int (iN (p1)))] := hl
  refine x_const hC dX5_having_0 ?_
  refine lv_istore_n (lv' := [(3, .int (iN (0))), (0, .ref a), (1, .int (iN (p0))), (2, .int (iN (p1)))]) hC.1 hC.2.1 dX5_having_1 rfl hl (by decide) rfl (fun ls hl => ?_)
  refine lv_aload_n hC.1 hC.2.1 dX5_having_2 rfl (lv_at hl 1 rfl) ?_
  refine x_get hC hw hR.1.1 rfl hinX5 2 (by decide) (by decide +kernel) rfl dX5_having_3 ?_
  refine lv_iload_n hC.1 hC.2.1 dX5_having_6 rfl (lv_at hl 2 rfl) ?_
  refine x_ald4 hC hw hR.1.2.1 (by omega) (by omega) (by omega) dX5_having_7 ?_
  rw [hR.fa' (show (p0).toNat < 3 by omega)]
  show W p l e R s m args below meth c _ _ _ _ _ (F0 m 8 ls [.ref (qv ((p0).toNat))])
  refine lv_astore (lv' := [(4, .ref (qv ((p0).toNat))), (3, .int (iN (0))), (0, .ref a), (1, .int (iN (p0))), (2, .int (iN (p1)))]) hC.1 hC.2.1 dX5_having_8 hl (by decide) rfl (fun ls hl => ?_)
  refine lv_aload hC.1 hC.2.1 dX5_having_10 (lv_at hl 0 rfl) ?_
  refine x_alen hC hw 1 (hR.rv (show ((p0).toNat) < 3 by omega)) rfl dX5_having_12 ?_
  refine lv_istore (lv' := [(5, .int (iN (100))), (4, .ref (qv ((p0).toNat))), (3, .int (iN (0))), (0, .ref a), (1, .int (iN (p0))), (2, .int (iN (p1)))]) hC.1 hC.2.1 dX5_having_13 hl (by decide) rfl (fun ls hl => ?_)
  refine x_const hC dX5_having_15 ?_
  refine lv_istore (lv' := [(6, .int (iN (0))), (5, .int (iN (100))), (4, .ref (qv ((p0).toNat))), (3, .int (iN (0))), (0, .ref a), (1, .int (iN (p0))), (2, .int (iN (p1)))]) hC.1 hC.2.1 dX5_having_16 hl (by decide) rfl (fun ls hl => ?_)
  suffices hloop18 : ∀ (n9 : Nat) (n : Int) (j : Int) (H : Heap) (locs : List Loc) (ls : Array Slot), (hmu : (100 - j).toNat < n9) → (hi0 : 0 ≤ j ∧ j ≤ 100) → (hi1 : 0 ≤ n ∧ n ≤ j) → (hcn : n = cvN (V (p0).toNat) p1 (j).toNat) → xD G (xA M s.heap.size) s M H locs → lv_has ls 8 [(0, .ref a), (1, .int (iN (p0))), (2, .int (iN (p1))), (3, .int (iN (n))), (4, .ref (qv (p0).toNat)), (5, .int (iN (100))), (6, .int (iN (j)))] → W p l e R s m args below meth c H locs _ _ _ (F0 m 18 ls []) by
    exact hloop18 _ 0 0  _ _ _ (Nat.lt_succ_self _) (by omega) (by omega) (rfl) hw (lv_sub hl [4, 5, 6, 3, 2, 1, 0] rfl)
  intro n9
  induction n9 with
  | zero => intro n j  H locs ls hmu; exact absurd hmu (Nat.not_lt_zero _)
  | succ n9 ih18 =>
    intro n j  H locs ls hmu hi0 hi1 hcn hw hl
    refine lv_iload hC.1 hC.2.1 dX5_having_18 (lv_at hl 6 rfl) ?_
    refine lv_iload hC.1 hC.2.1 dX5_having_20 (lv_at hl 5 rfl) ?_
    refine x_icmp_ge (tgt := 55) hC ⟨by omega, by omega⟩ ⟨by omega, by omega⟩ dX5_having_22 (by decide) (fun c_1 => ?_) (fun c_1 => ?_)
    · refine lv_iload_n hC.1 hC.2.1 dX5_having_55 rfl (lv_at hl 3 rfl) ?_
      exact x_iret hC hw dX5_having_56 (by omega) (by omega) ⟨n, rfl, rfl, by omega, by rw [show (100 : Nat) = (j).toNat by omega]; exact hcn⟩
    · refine lv_aload hC.1 hC.2.1 dX5_having_25 (lv_at hl 4 rfl) ?_
      refine lv_iload hC.1 hC.2.1 dX5_having_27 (lv_at hl 6 rfl) ?_
      refine x_ialdE (x := (V ((p0).toNat) ((j).toNat))) hC hw (hR.rv (show (p0).toNat < 3 by omega)) (by omega) (by omega) (by omega) dX5_having_29 rfl ?_
      have hrv_2 := hR.vr (show (p0).toNat < 3 by omega) (show (j).toNat < 100 by omega)
      have hpv_2 := hR.vs (show (p0).toNat < 3 by omega) (show (j).toNat < 100 by omega)
      refine lv_istore (lv' := [(7, .int (iN ((V ((p0).toNat) ((j).toNat))))), (0, .ref a), (1, .int (iN (p0))), (2, .int (iN (p1))), (3, .int (iN (n))), (4, .ref (qv (p0).toNat)), (5, .int (iN (100))), (6, .int (iN (j)))]) hC.1 hC.2.1 dX5_having_30 hl (by decide) rfl (fun ls hl => ?_)
      refine lv_iload_n hC.1 hC.2.1 dX5_having_32 rfl (lv_at hl 4 rfl) ?_
      refine lv_iload hC.1 hC.2.1 dX5_having_33 (lv_at hl 0 rfl) ?_
      refine lv_iload_n hC.1 hC.2.1 dX5_having_35 rfl (lv_at hl 3 rfl) ?_
      refine x_icmp_ne (tgt := 43) hC ⟨by omega, by omega⟩ ⟨by omega, by omega⟩ dX5_having_36 (by decide) (fun c_3 => ?_) (fun c_3 => ?_)
      · refine x_const hC dX5_having_43 ?_
        refine x_callS hC hw (lv_size hl) (c_X5_one l G (M := M) (p0 := 0) (by omega)) gX5_having_X5_one rfl dv_X5_one_s rfl (Nat.le_of_ble_eq_true rfl) (by rw [hRf]; decide) (by rw [hRl]; decide) (by omega) (by omega) dX5_having_44 (fun r9 M_4 H locs hq hw => ?_)
        obtain ⟨z_5, rfl, hM9, hz_5a, hz_5b⟩ := hq
        rw [hM9] at hw
        show W p l e R s m args below meth c H locs _ _ _ (F0 m 47 ls [.int (iN (z_5)), .int (iN (n))])
        refine x_iadd hC dX5_having_47 ?_
        refine lv_istore_n (lv' := [(3, .int (iN (n + z_5))), (7, .int (iN ((V ((p0).toNat) ((j).toNat))))), (0, .ref a), (1, .int (iN (p0))), (2, .int (iN (p1))), (4, .ref (qv (p0).toNat)), (5, .int (iN (100))), (6, .int (iN (j)))]) hC.1 hC.2.1 dX5_having_48 rfl hl (by decide) rfl (fun ls hl => ?_)
        refine x_iinc (lv' := [(6, .int (iN (j + 1))), (3, .int (iN (n + z_5))), (7, .int (iN ((V ((p0).toNat) ((j).toNat))))), (0, .ref a), (1, .int (iN (p0))), (2, .int (iN (p1))), (4, .ref (qv (p0).toNat)), (5, .int (iN (100)))]) hC dX5_having_49 hl (k := 7) rfl (by decide) rfl (fun ls hl => ?_)
        refine lv_goto (tgt := 18) hC.1 hC.2.1 dX5_having_52 (by decide) ?_
        exact ih18 (n + z_5) (j + 1)  _ _ _ (by omega) (by omega) (by omega) (by rw [cvN_s (b := (p0).toNat) (by omega) rfl]; omega) hw (lv_sub hl [3, 4, 5, 1, 6, 7, 0] rfl)
      · refine x_const hC dX5_having_39 ?_
        refine lv_goto (tgt := 44) hC.1 hC.2.1 dX5_having_40 (by decide) ?_
        refine x_callS hC hw (lv_size hl) (c_X5_one l G (M := M) (p0 := 1) (by omega)) gX5_having_X5_one rfl dv_X5_one_s rfl (Nat.le_of_ble_eq_true rfl) (by rw [hRf]; decide) (by rw [hRl]; decide) (by omega) (by omega) dX5_having_44 (fun r9 M_6 H locs hq hw => ?_)
        obtain ⟨z_7, rfl, hM9, hz_7a, hz_7b⟩ := hq
        rw [hM9] at hw
        show W p l e R s m args below meth c H locs _ _ _ (F0 m 47 ls [.int (iN (z_7)), .int (iN (n))])
        refine x_iadd hC dX5_having_47 ?_
        refine lv_istore_n (lv' := [(3, .int (iN (n + z_7))), (7, .int (iN ((V ((p0).toNat) ((j).toNat))))), (0, .ref a), (1, .int (iN (p0))), (2, .int (iN (p1))), (4, .ref (qv (p0).toNat)), (5, .int (iN (100))), (6, .int (iN (j)))]) hC.1 hC.2.1 dX5_having_48 rfl hl (by decide) rfl (fun ls hl => ?_)
        refine x_iinc (lv' := [(6, .int (iN (j + 1))), (3, .int (iN (n + z_7))), (7, .int (iN ((V ((p0).toNat) ((j).toNat))))), (0, .ref a), (1, .int (iN (p0))), (2, .int (iN (p1))), (4, .ref (qv (p0).toNat)), (5, .int (iN (100)))]) hC dX5_having_49 hl (k := 7) rfl (by decide) rfl (fun ls hl => ?_)
        refine lv_goto (tgt := 18) hC.1 hC.2.1 dX5_having_52 (by decide) ?_
        exact ih18 (n + z_7) (j + 1)  _ _ _ (by omega) (by omega) (by omega) (by rw [cvN_s (b := (p0).toNat) (by omega) rfl]; omega) hw (lv_sub hl [3, 4, 5, 1, 6, 7, 0] rfl)
set_option maxHeartbeats 4000000 in
set_option maxRecDepth 100000 in
theorem c_X5_strikeValue (l : Launch) (G : xG) {M : HM} {a va oa wa ya : Nat} {wk : Option Nat} {th : Int} {rfd : Int32} {br re la ha : Int} {kp kv : Int32} {qv qw : Nat → Nat} {fa fb : Nat → Option Nat} {V : BW} {O : OW} {fy : Nat → Option Nat} {Wv : VW} {wt : Option VT} {S : Nat → Bool} (hR : MGx G M a va oa wa ya wk th rfd br re la ha kp kv qv qw fa fb V O fy Wv wt S) {K : WA} (hK : abM O wt br re la ha K) {p0 : Int} (hp0 : -2147483648 ≤ p0 ∧ p0 ≤ 2147483647) {p1 : Int} (hp1 : -2147483648 ≤ p1 ∧ p1 ≤ 2147483647) : xMet l G yX5_strikeValue wsX5_strikeValue 2 47 0 0 [.ref a, .int (iN (p0)), .int (iN (p1))] M (fun r M1 => ∃ (z th1 : Int), r = some (.int (iN z)) ∧ (z = 0 ∨ z = 1) ∧ ((th1 = 0 ∧ ((0 ≤ p0 ∧ p0 ≤ 2) ∧ (-9999 ≤ p1 ∧ p1 ≤ 9999) ∧ (cvN (V p0.toNat) p1 100 ≤ 1)) ∧ z = A_strikeValue (O, V, Wv, K, kp, kv, rfd) p0 p1 ∧ MGm G M1 a S th1 (S_strikeValue (O, V, Wv, K, kp, kv, rfd) p0 p1)) ∨ (th1 ≠ 0 ∧ ((th1 = 1 ∧ ¬ (0 ≤ p0 ∧ p0 ≤ 2)) ∨ (th1 = 2 ∧ (0 ≤ p0 ∧ p0 ≤ 2) ∧ ¬ (-9999 ≤ p1 ∧ p1 ≤ 9999)) ∨ (th1 = 3 ∧ (0 ≤ p0 ∧ p0 ≤ 2) ∧ (-9999 ≤ p1 ∧ p1 ≤ 9999) ∧ ¬ (cvN (V p0.toNat) p1 100 ≤ 1))) ∧ MGm G M1 a S th1 (O, V, Wv, K, kp, kv, rfd)))) := by
  refine x_intro (cc := cX5_strikeValue) (maxL := 4) (ret := (some .boolean)) (by decide +kernel) rfl (Nat.le_of_ble_eq_true rfl) ?_
  intro p e R s m args below meth c ls hRf hRc hRs hRl hC hw hl
  have hsc0 := hR.sc
  have hinX5 : ∀ w ∈ wsX50, w ∈ wsX5_strikeValue := by decide +kernel
  have hl : lv_has ls 4 [(0, .ref a), (1, .int (iN (p0))), (2, .int (iN (p1)))] := hl
  refine lv_aload_n hC.1 hC.2.1 dX5_strikeValue_0 rfl (lv_at hl 0 rfl) ?_
  refine lv_iload_n hC.1 hC.2.1 dX5_strikeValue_1 rfl (lv_at hl 1 rfl) ?_
  refine x_callS hC hw (lv_size hl) (c_X5_isNoBook l G (M := M) (p0 := p0) (by omega)) gX5_strikeValue_X5_isNoBook rfl dv_X5_isNoBook_s rfl (Nat.le_of_ble_eq_true rfl) (by rw [hRf]; decide) (by rw [hRl]; decide) (by omega) (by omega) dX5_strikeValue_2 (fun r9 M_1 H locs hq hw => ?_)
  obtain ⟨z_2, rfl, hM9, hz_2a, hz_2b⟩ := hq
  rw [hM9] at hw
  show W p l e R s m args below meth c H locs _ _ _ (F0 m 5 ls [.int (iN (z_2)), .ref a])
  refine x_const hC dX5_strikeValue_5 ?_
  refine x_callV hC hw (lv_size hl) (c_X5_start l G hR (p0 := z_2) (by omega) (p1 := 1) (by omega) (by omega)) gX5_strikeValue_X5_start rfl dv_X5_start hR.1.1 rfl rfl (Nat.le_of_ble_eq_true rfl) (by rw [hRf]; decide) (by rw [hRl]; decide) (by omega) (by omega) dX5_strikeValue_6 (fun r9 M_3 H locs hq hw => ?_)
  obtain ⟨z_5, thk_4, rfl, hz_5a, hz_5b, hz_5c0, hz_5c1, hx5k_4, hRk_4⟩ := hq
  have hsck_4 := hRk_4.sc
  show W p l e R s m args below meth c H locs _ _ _ (F0 m 9 ls [.int (iN (z_5))])
  refine x_if_ne (tgt := 47) hC ⟨by omega, by omega⟩ dX5_strikeValue_9 (by decide) (fun c_6 => ?_) (fun c_6 => ?_)
  · refine x_const hC dX5_strikeValue_47 ?_
    exact x_zret hC hw (by omega) dX5_strikeValue_48 (by omega) (by omega) ⟨0, _, rfl, by omega, Or.inr ⟨by omega, by omega, MGm.of hRk_4 hK⟩⟩
  · refine lv_aload_n hC.1 hC.2.1 dX5_strikeValue_12 rfl (lv_at hl 0 rfl) ?_
    refine lv_iload_n hC.1 hC.2.1 dX5_strikeValue_13 rfl (lv_at hl 2 rfl) ?_
    refine x_callS hC hw (lv_size hl) (c_X5_isNoValue l G (M := M_3) (p0 := p1) (by omega)) gX5_strikeValue_X5_isNoValue rfl dv_X5_isNoValue_s rfl (Nat.le_of_ble_eq_true rfl) (by rw [hRf]; decide) (by rw [hRl]; decide) (by omega) (by omega) dX5_strikeValue_14 (fun r9 M_7 H locs hq hw => ?_)
    obtain ⟨z_8, rfl, hM9, hz_8a, hz_8b⟩ := hq
    rw [hM9] at hw
    show W p l e R s m args below meth c H locs _ _ _ (F0 m 17 ls [.int (iN (z_8)), .ref a])
    refine x_const hC dX5_strikeValue_17 ?_
    refine x_callV hC hw (lv_size hl) (c_X5_refuse l G hRk_4 (p0 := z_8) (by omega) (p1 := 2) (by omega) (by omega)) gX5_strikeValue_X5_refuse rfl dv_X5_refuse hRk_4.1.1 rfl rfl (Nat.le_of_ble_eq_true rfl) (by rw [hRf]; decide) (by rw [hRl]; decide) (by omega) (by omega) dX5_strikeValue_18 (fun r9 M_9 H locs hq hw => ?_)
    obtain ⟨z_11, thk_10, rfl, hz_11a, hz_11b, hz_11c0, hz_11c1, hx5k_10, hRk_10⟩ := hq
    have hsck_10 := hRk_10.sc
    show W p l e R s m args below meth c H locs _ _ _ (F0 m 21 ls [.int (iN (z_11))])
    refine x_if_ne (tgt := 47) hC ⟨by omega, by omega⟩ dX5_strikeValue_21 (by decide) (fun c_12 => ?_) (fun c_12 => ?_)
    · refine x_const hC dX5_strikeValue_47 ?_
      exact x_zret hC hw (by omega) dX5_strikeValue_48 (by omega) (by omega) ⟨0, _, rfl, by omega, Or.inr ⟨by omega, by omega, MGm.of hRk_10 hK⟩⟩
    · refine lv_aload_n hC.1 hC.2.1 dX5_strikeValue_24 rfl (lv_at hl 0 rfl) ?_
      refine lv_aload_n hC.1 hC.2.1 dX5_strikeValue_25 rfl (lv_at hl 0 rfl) ?_
      refine lv_iload_n hC.1 hC.2.1 dX5_strikeValue_26 rfl (lv_at hl 1 rfl) ?_
      refine lv_iload_n hC.1 hC.2.1 dX5_strikeValue_27 rfl (lv_at hl 2 rfl) ?_
      refine x_callV hC hw (lv_size hl) (c_X5_having l G hRk_10 (p0 := p0) (by omega) (p1 := p1) (by omega) (by omega)) gX5_strikeValue_X5_having rfl dv_X5_having hRk_10.1.1 rfl rfl (Nat.le_of_ble_eq_true rfl) (by rw [hRf]; decide) (by rw [hRl]; decide) (by omega) (by omega) dX5_strikeValue_28 (fun r9 M_13 H locs hq hw => ?_)
      obtain ⟨z_14, rfl, hM9, hz_14a, hz_14c⟩ := hq
      rw [hM9] at hw
      show W p l e R s m args below meth c H locs _ _ _ (F0 m 31 ls [.int (iN (z_14)), .ref a])
      refine x_const hC dX5_strikeValue_31 ?_
      refine x_icmp_le (tgt := 39) hC ⟨by omega, by omega⟩ ⟨by omega, by omega⟩ dX5_strikeValue_32 (by decide) (fun c_15 => ?_) (fun c_15 => ?_)
      · refine x_const hC dX5_strikeValue_39 ?_
        refine x_const hC dX5_strikeValue_40 ?_
        refine x_callV hC hw (lv_size hl) (c_X5_refuse l G hRk_10 (p0 := 0) (by omega) (p1 := 3) (by omega) (by omega)) gX5_strikeValue_X5_refuse rfl dv_X5_refuse hRk_10.1.1 rfl rfl (Nat.le_of_ble_eq_true rfl) (by rw [hRf]; decide) (by rw [hRl]; decide) (by omega) (by omega) dX5_strikeValue_41 (fun r9 M_16 H locs hq hw => ?_)
        obtain ⟨z_18, thk_17, rfl, hz_18a, hz_18b, hz_18c0, hz_18c1, hx5k_17, hRk_17⟩ := hq
        have hsck_17 := hRk_17.sc
        show W p l e R s m args below meth c H locs _ _ _ (F0 m 44 ls [.int (iN (z_18))])
        refine x_if_eq (tgt := 49) hC ⟨by omega, by omega⟩ dX5_strikeValue_44 (by decide) (fun c_19 => ?_) (fun c_19 => ?_)
        · refine lv_aload_n hC.1 hC.2.1 dX5_strikeValue_49 rfl (lv_at hl 0 rfl) ?_
          refine lv_iload_n hC.1 hC.2.1 dX5_strikeValue_50 rfl (lv_at hl 1 rfl) ?_
          refine x_callV hC hw (lv_size hl) (c_X5_touch l G hRk_17 (p0 := p0) (by omega) (by omega)) gX5_strikeValue_X5_touch rfl dv_X5_touch hRk_17.1.1 rfl rfl (Nat.le_of_ble_eq_true rfl) (by rw [hRf]; decide) (by rw [hRl]; decide) (by omega) (by omega) dX5_strikeValue_51 (fun r9 M_20 H locs hq hw => ?_)
          obtain ⟨hak_21, rfl, he0k_21, hx5k_21, hRk_21⟩ := hq
          have hsck_21 := hRk_21.sc
          show W p l e R s m args below meth c H locs _ _ _ (F0 m 54 ls [])
          refine x_const hC dX5_strikeValue_54 ?_
          refine lv_istore_n (lv' := [(3, .int (iN (0))), (0, .ref a), (1, .int (iN (p0))), (2, .int (iN (p1)))]) hC.1 hC.2.1 dX5_strikeValue_55 rfl hl (by decide) rfl (fun ls hl => ?_)
          suffices hloop56 : ∀ (n9 : Nat) (j : Int) (H : Heap) (locs : List Loc) (ls : Array Slot), (hmu : (100 - j).toNat < n9) → (hi0 : 0 ≤ j ∧ j ≤ 100) → (hno : ∀ k : Nat, (k : Int) < j → V (p0).toNat k ≠ p1) → xD G (xA M s.heap.size) s M_20 H locs → lv_has ls 4 [(0, .ref a), (1, .int (iN (p0))), (2, .int (iN (p1))), (3, .int (iN (j)))] → W p l e R s m args below meth c H locs _ _ _ (F0 m 56 ls []) by
            exact hloop56 _ 0  _ _ _ (Nat.lt_succ_self _) (by omega) (fun k9 hk9 => absurd hk9 (by omega)) hw (lv_sub hl [1, 2, 3, 0] rfl)
          intro n9
          induction n9 with
          | zero => intro j  H locs ls hmu; exact absurd hmu (Nat.not_lt_zero _)
          | succ n9 ih56 =>
            intro j  H locs ls hmu hi0 hno hw hl
            refine lv_iload_n hC.1 hC.2.1 dX5_strikeValue_56 rfl (lv_at hl 3 rfl) ?_
            refine x_bipush hC dX5_strikeValue_57 (by decide +kernel) ?_
            refine x_icmp_ge (tgt := 95) hC ⟨by omega, by omega⟩ ⟨by omega, by omega⟩ dX5_strikeValue_59 (by decide) (fun c_22 => ?_) (fun c_22 => ?_)
            · refine x_const hC dX5_strikeValue_95 ?_
              exact x_zret hC hw (by omega) dX5_strikeValue_96 (by omega) (by omega) ⟨0, _, rfl, by omega, Or.inl ⟨by omega, by first | trivial | omega, (by have e9 := cvN_no (X := V (p0).toNat) (v := p1) (fun k9 hk9 => hno k9 (by omega)); show _ = (if cvN (V (p0).toNat) p1 100 = 0 then 0 else 1); omega), (MGm.mut (F := V ((p0).toNat)) (upB_self rfl).symm hRk_21 hK bl_rf he0k_21 (sv_0 (cvN_no (fun k9 hk9 => hno k9 (by omega)))))⟩⟩
            · refine lv_aload_n hC.1 hC.2.1 dX5_strikeValue_62 rfl (lv_at hl 0 rfl) ?_
              refine x_get hC hw hRk_21.1.1 rfl hinX5 2 (by decide) (by decide +kernel) rfl dX5_strikeValue_63 ?_
              refine lv_iload_n hC.1 hC.2.1 dX5_strikeValue_66 rfl (lv_at hl 1 rfl) ?_
              refine x_ald4 hC hw hRk_21.1.2.1 (by omega) (by omega) (by omega) dX5_strikeValue_67 ?_
              rw [hRk_21.fa' (show (p0).toNat < 3 by omega)]
              show W p l e R s m args below meth c _ _ _ _ _ (F0 m 68 ls [.ref (qv ((p0).toNat))])
              refine lv_iload_n hC.1 hC.2.1 dX5_strikeValue_68 rfl (lv_at hl 3 rfl) ?_
              refine x_ialdE (x := (V ((p0).toNat) ((j).toNat))) hC hw (hRk_21.rv (show ((p0).toNat) < 3 by omega)) (by omega) (by omega) (by omega) dX5_strikeValue_69 rfl ?_
              have hrv_23 := hRk_21.vr (show ((p0).toNat) < 3 by omega) (show (j).toNat < 100 by omega)
              have hpv_23 := hRk_21.vs (show ((p0).toNat) < 3 by omega) (show (j).toNat < 100 by omega)
              refine lv_iload_n hC.1 hC.2.1 dX5_strikeValue_70 rfl (lv_at hl 2 rfl) ?_
              refine x_icmp_eq (tgt := 77) hC ⟨by omega, by omega⟩ ⟨by omega, by omega⟩ dX5_strikeValue_71 (by decide) (fun c_24 => ?_) (fun c_24 => ?_)
              · refine lv_aload_n hC.1 hC.2.1 dX5_strikeValue_77 rfl (lv_at hl 0 rfl) ?_
                refine lv_iload_n hC.1 hC.2.1 dX5_strikeValue_78 rfl (lv_at hl 1 rfl) ?_
                refine lv_iload_n hC.1 hC.2.1 dX5_strikeValue_79 rfl (lv_at hl 3 rfl) ?_
                refine x_sipush hC dX5_strikeValue_80 (by decide +kernel) ?_
                refine x_callV hC hw (lv_size hl) (c_X5_set l G hRk_21 (p0 := p0) (by omega) (p1 := j) (by omega) (p2 := (-10000)) (by omega) (by omega) (by omega) (by omega) (fun q9 => absurd rfl q9)) gX5_strikeValue_X5_set rfl dv_X5_set hRk_21.1.1 rfl rfl (Nat.le_of_ble_eq_true rfl) (by rw [hRf]; decide) (by rw [hRl]; decide) (by omega) (by omega) dX5_strikeValue_83 (fun r9 M_25 H locs hq hw => ?_)
                obtain ⟨z_27, brk_26, Vk_26, rfl, hz_27a, hz_27v, hz_27b, he0k_26, he1k_26, hx5k_26, hRk_26⟩ := hq
                have hsck_26 := hRk_26.sc
                show W p l e R s m args below meth c H locs _ _ _ (F0 m 86 ls [.int (iN (z_27))])
                refine lv_pop hC.1 hC.2.1 dX5_strikeValue_86 rfl ?_
                refine x_const hC dX5_strikeValue_87 ?_
                exact x_zret hC hw (by omega) dX5_strikeValue_88 (by omega) (by omega) ⟨1, _, rfl, by omega, Or.inl ⟨by omega, by first | trivial | omega, (by have e9 := cvN_at (X := V (p0).toNat) (v := p1) (show (j).toNat < 100 by omega) (by omega); show _ = (if cvN (V (p0).toNat) p1 100 = 0 then 0 else 1); omega), (MGm.mut he1k_26 hRk_26 hK (bl_one (by omega) he0k_26) he0k_21 ((rmV_1 (show j ≠ -10000 by omega)).symm.trans (sv_1 (by have e9 := hz_14c; omega) (by omega) (by omega))))⟩⟩
              · refine lv_goto (tgt := 89) hC.1 hC.2.1 dX5_strikeValue_74 (by decide) ?_
                refine x_iinc (lv' := [(3, .int (iN (j + 1))), (0, .ref a), (1, .int (iN (p0))), (2, .int (iN (p1)))]) hC dX5_strikeValue_89 hl (k := 3) rfl (by decide) rfl (fun ls hl => ?_)
                refine lv_goto (tgt := 56) hC.1 hC.2.1 dX5_strikeValue_92 (by decide) ?_
                exact ih56 (j + 1)  _ _ _ (by omega) (by omega) (fun k9 hk9 => by by_cases e9 : (k9 : Int) < j; (· exact hno k9 e9); (· rw [show k9 = (j).toNat by omega]; omega)) hw (lv_sub hl [1, 2, 3, 0] rfl)
        · refine x_const hC dX5_strikeValue_47 ?_
          exact x_zret hC hw (by omega) dX5_strikeValue_48 (by omega) (by omega) ⟨0, _, rfl, by omega, Or.inr ⟨by omega, by omega, MGm.of hRk_17 hK⟩⟩
      · refine x_const hC dX5_strikeValue_35 ?_
        refine lv_goto (tgt := 40) hC.1 hC.2.1 dX5_strikeValue_36 (by decide) ?_
        refine x_const hC dX5_strikeValue_40 ?_
        refine x_callV hC hw (lv_size hl) (c_X5_refuse l G hRk_10 (p0 := 1) (by omega) (p1 := 3) (by omega) (by omega)) gX5_strikeValue_X5_refuse rfl dv_X5_refuse hRk_10.1.1 rfl rfl (Nat.le_of_ble_eq_true rfl) (by rw [hRf]; decide) (by rw [hRl]; decide) (by omega) (by omega) dX5_strikeValue_41 (fun r9 M_28 H locs hq hw => ?_)
        obtain ⟨z_30, thk_29, rfl, hz_30a, hz_30b, hz_30c0, hz_30c1, hx5k_29, hRk_29⟩ := hq
        have hsck_29 := hRk_29.sc
        show W p l e R s m args below meth c H locs _ _ _ (F0 m 44 ls [.int (iN (z_30))])
        refine x_if_eq (tgt := 49) hC ⟨by omega, by omega⟩ dX5_strikeValue_44 (by decide) (fun c_31 => ?_) (fun c_31 => ?_)
        · refine lv_aload_n hC.1 hC.2.1 dX5_strikeValue_49 rfl (lv_at hl 0 rfl) ?_
          refine lv_iload_n hC.1 hC.2.1 dX5_strikeValue_50 rfl (lv_at hl 1 rfl) ?_
          refine x_callV hC hw (lv_size hl) (c_X5_touch l G hRk_29 (p0 := p0) (by omega) (by omega)) gX5_strikeValue_X5_touch rfl dv_X5_touch hRk_29.1.1 rfl rfl (Nat.le_of_ble_eq_true rfl) (by rw [hRf]; decide) (by rw [hRl]; decide) (by omega) (by omega) dX5_strikeValue_51 (fun r9 M_32 H locs hq hw => ?_)
          obtain ⟨hak_33, rfl, he0k_33, hx5k_33, hRk_33⟩ := hq
          have hsck_33 := hRk_33.sc
          show W p l e R s m args below meth c H locs _ _ _ (F0 m 54 ls [])
          refine x_const hC dX5_strikeValue_54 ?_
          refine lv_istore_n (lv' := [(3, .int (iN (0))), (0, .ref a), (1, .int (iN (p0))), (2, .int (iN (p1)))]) hC.1 hC.2.1 dX5_strikeValue_55 rfl hl (by decide) rfl (fun ls hl => ?_)
          suffices hloop56 : ∀ (n9 : Nat) (j : Int) (H : Heap) (locs : List Loc) (ls : Array Slot), (hmu : (100 - j).toNat < n9) → (hi0 : 0 ≤ j ∧ j ≤ 100) → (hno : ∀ k : Nat, (k : Int) < j → V (p0).toNat k ≠ p1) → xD G (xA M s.heap.size) s M_32 H locs → lv_has ls 4 [(0, .ref a), (1, .int (iN (p0))), (2, .int (iN (p1))), (3, .int (iN (j)))] → W p l e R s m args below meth c H locs _ _ _ (F0 m 56 ls []) by
            exact hloop56 _ 0  _ _ _ (Nat.lt_succ_self _) (by omega) (fun k9 hk9 => absurd hk9 (by omega)) hw (lv_sub hl [1, 2, 3, 0] rfl)
          intro n9
          induction n9 with
          | zero => intro j  H locs ls hmu; exact absurd hmu (Nat.not_lt_zero _)
          | succ n9 ih56 =>
            intro j  H locs ls hmu hi0 hno hw hl
            refine lv_iload_n hC.1 hC.2.1 dX5_strikeValue_56 rfl (lv_at hl 3 rfl) ?_
            refine x_bipush hC dX5_strikeValue_57 (by decide +kernel) ?_
            refine x_icmp_ge (tgt := 95) hC ⟨by omega, by omega⟩ ⟨by omega, by omega⟩ dX5_strikeValue_59 (by decide) (fun c_34 => ?_) (fun c_34 => ?_)
            · refine x_const hC dX5_strikeValue_95 ?_
              exact x_zret hC hw (by omega) dX5_strikeValue_96 (by omega) (by omega) ⟨0, _, rfl, by omega, Or.inl ⟨by omega, by first | trivial | omega, (by have e9 := cvN_no (X := V (p0).toNat) (v := p1) (fun k9 hk9 => hno k9 (by omega)); show _ = (if cvN (V (p0).toNat) p1 100 = 0 then 0 else 1); omega), (MGm.mut (F := V ((p0).toNat)) (upB_self rfl).symm hRk_33 hK bl_rf he0k_33 (sv_0 (cvN_no (fun k9 hk9 => hno k9 (by omega)))))⟩⟩
            · refine lv_aload_n hC.1 hC.2.1 dX5_strikeValue_62 rfl (lv_at hl 0 rfl) ?_
              refine x_get hC hw hRk_33.1.1 rfl hinX5 2 (by decide) (by decide +kernel) rfl dX5_strikeValue_63 ?_
              refine lv_iload_n hC.1 hC.2.1 dX5_strikeValue_66 rfl (lv_at hl 1 rfl) ?_
              refine x_ald4 hC hw hRk_33.1.2.1 (by omega) (by omega) (by omega) dX5_strikeValue_67 ?_
              rw [hRk_33.fa' (show (p0).toNat < 3 by omega)]
              show W p l e R s m args below meth c _ _ _ _ _ (F0 m 68 ls [.ref (qv ((p0).toNat))])
              refine lv_iload_n hC.1 hC.2.1 dX5_strikeValue_68 rfl (lv_at hl 3 rfl) ?_
              refine x_ialdE (x := (V ((p0).toNat) ((j).toNat))) hC hw (hRk_33.rv (show ((p0).toNat) < 3 by omega)) (by omega) (by omega) (by omega) dX5_strikeValue_69 rfl ?_
              have hrv_35 := hRk_33.vr (show ((p0).toNat) < 3 by omega) (show (j).toNat < 100 by omega)
              have hpv_35 := hRk_33.vs (show ((p0).toNat) < 3 by omega) (show (j).toNat < 100 by omega)
              refine lv_iload_n hC.1 hC.2.1 dX5_strikeValue_70 rfl (lv_at hl 2 rfl) ?_
              refine x_icmp_eq (tgt := 77) hC ⟨by omega, by omega⟩ ⟨by omega, by omega⟩ dX5_strikeValue_71 (by decide) (fun c_36 => ?_) (fun c_36 => ?_)
              · refine lv_aload_n hC.1 hC.2.1 dX5_strikeValue_77 rfl (lv_at hl 0 rfl) ?_
                refine lv_iload_n hC.1 hC.2.1 dX5_strikeValue_78 rfl (lv_at hl 1 rfl) ?_
                refine lv_iload_n hC.1 hC.2.1 dX5_strikeValue_79 rfl (lv_at hl 3 rfl) ?_
                refine x_sipush hC dX5_strikeValue_80 (by decide +kernel) ?_
                refine x_callV hC hw (lv_size hl) (c_X5_set l G hRk_33 (p0 := p0) (by omega) (p1 := j) (by omega) (p2 := (-10000)) (by omega) (by omega) (by omega) (by omega) (fun q9 => absurd rfl q9)) gX5_strikeValue_X5_set rfl dv_X5_set hRk_33.1.1 rfl rfl (Nat.le_of_ble_eq_true rfl) (by rw [hRf]; decide) (by rw [hRl]; decide) (by omega) (by omega) dX5_strikeValue_83 (fun r9 M_37 H locs hq hw => ?_)
                obtain ⟨z_39, brk_38, Vk_38, rfl, hz_39a, hz_39v, hz_39b, he0k_38, he1k_38, hx5k_38, hRk_38⟩ := hq
                have hsck_38 := hRk_38.sc
                show W p l e R s m args below meth c H locs _ _ _ (F0 m 86 ls [.int (iN (z_39))])
                refine lv_pop hC.1 hC.2.1 dX5_strikeValue_86 rfl ?_
                refine x_const hC dX5_strikeValue_87 ?_
                exact x_zret hC hw (by omega) dX5_strikeValue_88 (by omega) (by omega) ⟨1, _, rfl, by omega, Or.inl ⟨by omega, by first | trivial | omega, (by have e9 := cvN_at (X := V (p0).toNat) (v := p1) (show (j).toNat < 100 by omega) (by omega); show _ = (if cvN (V (p0).toNat) p1 100 = 0 then 0 else 1); omega), (MGm.mut he1k_38 hRk_38 hK (bl_one (by omega) he0k_38) he0k_33 ((rmV_1 (show j ≠ -10000 by omega)).symm.trans (sv_1 (by have e9 := hz_14c; omega) (by omega) (by omega))))⟩⟩
              · refine lv_goto (tgt := 89) hC.1 hC.2.1 dX5_strikeValue_74 (by decide) ?_
                refine x_iinc (lv' := [(3, .int (iN (j + 1))), (0, .ref a), (1, .int (iN (p0))), (2, .int (iN (p1)))]) hC dX5_strikeValue_89 hl (k := 3) rfl (by decide) rfl (fun ls hl => ?_)
                refine lv_goto (tgt := 56) hC.1 hC.2.1 dX5_strikeValue_92 (by decide) ?_
                exact ih56 (j + 1)  _ _ _ (by omega) (by omega) (fun k9 hk9 => by by_cases e9 : (k9 : Int) < j; (· exact hno k9 e9); (· rw [show k9 = (j).toNat by omega]; omega)) hw (lv_sub hl [1, 2, 3, 0] rfl)
        · refine x_const hC dX5_strikeValue_47 ?_
          exact x_zret hC hw (by omega) dX5_strikeValue_48 (by omega) (by omega) ⟨0, _, rfl, by omega, Or.inr ⟨by omega, by omega, MGm.of hRk_29 hK⟩⟩
set_option maxHeartbeats 4000000 in
set_option maxRecDepth 100000 in
theorem c_X5_clear (l : Launch) (G : xG) {M : HM} {a va oa wa ya : Nat} {wk : Option Nat} {th : Int} {rfd : Int32} {br re la ha : Int} {kp kv : Int32} {qv qw : Nat → Nat} {fa fb : Nat → Option Nat} {V : BW} {O : OW} {fy : Nat → Option Nat} {Wv : VW} {wt : Option VT} {S : Nat → Bool} (hR : MGx G M a va oa wa ya wk th rfd br re la ha kp kv qv qw fa fb V O fy Wv wt S) {K : WA} (hK : abM O wt br re la ha K) {p0 : Int} (hp0 : -2147483648 ≤ p0 ∧ p0 ≤ 2147483647) : xMet l G yX5_clear wsX5_clear 4 90 1 5 [.ref a, .int (iN (p0))] M (fun r M1 => ∃ (z th1 : Int), r = some (.int (iN z)) ∧ (-2147483648 ≤ z ∧ z ≤ 2147483647) ∧ ((th1 = 0 ∧ ((0 ≤ p0 ∧ p0 ≤ 2)) ∧ z = A_clear (O, V, Wv, K, kp, kv, rfd) p0 ∧ MGm G M1 a S th1 (S_clear (O, V, Wv, K, kp, kv, rfd) p0)) ∨ (th1 ≠ 0 ∧ ((th1 = 1 ∧ ¬ (0 ≤ p0 ∧ p0 ≤ 2))) ∧ MGm G M1 a S th1 (O, V, Wv, K, kp, kv, rfd)))) := by
  refine x_intro (cc := cX5_clear) (maxL := 2) (ret := (some .int)) (by decide +kernel) rfl (Nat.le_of_ble_eq_true rfl) ?_
  intro p e R s m args below meth c ls hRf hRc hRs hRl hC hw hl
  have hsc0 := hR.sc
  have hl : lv_has ls 2 [(0, .ref a), (1, .int (iN (p0)))] := hl
  refine lv_aload_n hC.1 hC.2.1 dX5_clear_0 rfl (lv_at hl 0 rfl) ?_
  refine lv_iload_n hC.1 hC.2.1 dX5_clear_1 rfl (lv_at hl 1 rfl) ?_
  refine x_callS hC hw (lv_size hl) (c_X5_isNoBook l G (M := M) (p0 := p0) (by omega)) gX5_clear_X5_isNoBook rfl dv_X5_isNoBook_s rfl (Nat.le_of_ble_eq_true rfl) (by rw [hRf]; decide) (by rw [hRl]; decide) (by omega) (by omega) dX5_clear_2 (fun r9 M_1 H locs hq hw => ?_)
  obtain ⟨z_2, rfl, hM9, hz_2a, hz_2b⟩ := hq
  rw [hM9] at hw
  show W p l e R s m args below meth c H locs _ _ _ (F0 m 5 ls [.int (iN (z_2)), .ref a])
  refine x_const hC dX5_clear_5 ?_
  refine x_callV hC hw (lv_size hl) (c_X5_start l G hR (p0 := z_2) (by omega) (p1 := 1) (by omega) (by omega)) gX5_clear_X5_start rfl dv_X5_start hR.1.1 rfl rfl (Nat.le_of_ble_eq_true rfl) (by rw [hRf]; decide) (by rw [hRl]; decide) (by omega) (by omega) dX5_clear_6 (fun r9 M_3 H locs hq hw => ?_)
  obtain ⟨z_5, thk_4, rfl, hz_5a, hz_5b, hz_5c0, hz_5c1, hx5k_4, hRk_4⟩ := hq
  have hsck_4 := hRk_4.sc
  show W p l e R s m args below meth c H locs _ _ _ (F0 m 9 ls [.int (iN (z_5))])
  refine x_if_eq (tgt := 14) hC ⟨by omega, by omega⟩ dX5_clear_9 (by decide) (fun c_6 => ?_) (fun c_6 => ?_)
  · refine lv_aload_n hC.1 hC.2.1 dX5_clear_14 rfl (lv_at hl 0 rfl) ?_
    refine lv_iload_n hC.1 hC.2.1 dX5_clear_15 rfl (lv_at hl 1 rfl) ?_
    refine x_callV hC hw (lv_size hl) (c_X5_touch l G hRk_4 (p0 := p0) (by omega) (by omega)) gX5_clear_X5_touch rfl dv_X5_touch hRk_4.1.1 rfl rfl (Nat.le_of_ble_eq_true rfl) (by rw [hRf]; decide) (by rw [hRl]; decide) (by omega) (by omega) dX5_clear_16 (fun r9 M_7 H locs hq hw => ?_)
    obtain ⟨hak_8, rfl, he0k_8, hx5k_8, hRk_8⟩ := hq
    have hsck_8 := hRk_8.sc
    show W p l e R s m args below meth c H locs _ _ _ (F0 m 19 ls [])
    refine lv_aload_n hC.1 hC.2.1 dX5_clear_19 rfl (lv_at hl 0 rfl) ?_
    refine lv_iload_n hC.1 hC.2.1 dX5_clear_20 rfl (lv_at hl 1 rfl) ?_
    refine x_callS hC hw (lv_size hl) (c_X5_whole l G (M := M_7) (p0 := p0) (by omega) (by omega)) gX5_clear_X5_whole rfl dv_X5_whole_s rfl (Nat.le_of_ble_eq_true rfl) (by rw [hRf]; decide) (by rw [hRl]; decide) (by omega) (by omega) dX5_clear_21 (fun r9 M_9 H locs hq hw => ?_)
    obtain ⟨qk_10, fk_10, rfl, hxk_10, hIk_10⟩ := hq
    have h_11 := hRk_8.ext hxk_10
    obtain ⟨htat_12, htbt_12, htct_12, htdt_12, htet_12⟩ := id hIk_10.2.1
    have holk_10 := h_11.or' hIk_10.2.1.1
    show W p l e R s m args below meth c H locs _ _ _ (F0 m 24 ls [.ref qk_10, .ref a])
    refine x_callV hC hw (lv_size hl) (c_X5_strikeAll l G h_11 hIk_10) gX5_clear_X5_strikeAll rfl dv_X5_strikeAll h_11.1.1 rfl rfl (Nat.le_of_ble_eq_true rfl) (by rw [hRf]; decide) (by rw [hRl]; decide) (by omega) (by omega) dX5_clear_24 (fun r9 M_13 H locs hq hw => ?_)
    obtain ⟨z_15, brk_14, Vk_14, rfl, hz_15a, hz_15m, he0k_14, he1k_14, hx5k_14, hRk_14⟩ := hq
    have h_16 := hIk_10.x5 hx5k_14
    have hsck_14 := hRk_14.sc
    show W p l e R s m args below meth c H locs _ _ _ (F0 m 27 ls [.int (iN (z_15))])
    exact x_iret hC hw dX5_clear_27 (by omega) (by omega) ⟨z_15, _, rfl, by omega, Or.inl ⟨by omega, by first | trivial | omega, hz_15m, (MGm.mut he1k_14 hRk_14 hK (bl_map he0k_14) he0k_8 rfl)⟩⟩
  · refine x_const hC dX5_clear_12 ?_
    exact x_iret hC hw dX5_clear_13 (by omega) (by omega) ⟨0, _, rfl, by omega, Or.inr ⟨by omega, by omega, MGm.of hRk_4 hK⟩⟩
set_option maxHeartbeats 4000000 in
set_option maxRecDepth 100000 in
theorem c_X5_pour (l : Launch) (G : xG) {M : HM} {a va oa wa ya : Nat} {wk : Option Nat} {th : Int} {rfd : Int32} {br re la ha : Int} {kp kv : Int32} {qv qw : Nat → Nat} {fa fb : Nat → Option Nat} {V : BW} {O : OW} {fy : Nat → Option Nat} {Wv : VW} {wt : Option VT} {S : Nat → Bool} (hR : MGx G M a va oa wa ya wk th rfd br re la ha kp kv qv qw fa fb V O fy Wv wt S) {K : WA} (hK : abM O wt br re la ha K) {p0 : Int} (hp0 : -2147483648 ≤ p0 ∧ p0 ≤ 2147483647) {p1 : Int} (hp1 : -2147483648 ≤ p1 ∧ p1 ≤ 2147483647) : xMet l G yX5_pour wsX5_pour 4 90 1 5 [.ref a, .int (iN (p0)), .int (iN (p1))] M (fun r M1 => ∃ (z th1 : Int), r = some (.int (iN z)) ∧ (-2147483648 ≤ z ∧ z ≤ 2147483647) ∧ ((th1 = 0 ∧ (((0 ≤ p0 ∧ p0 ≤ 2) ∧ (0 ≤ p1 ∧ p1 ≤ 2)) ∧ (p0 ≠ p1)) ∧ z = A_pour (O, V, Wv, K, kp, kv, rfd) p0 p1 ∧ MGm G M1 a S th1 (S_pour (O, V, Wv, K, kp, kv, rfd) p0 p1)) ∨ (th1 ≠ 0 ∧ ((th1 = 1 ∧ ¬ ((0 ≤ p0 ∧ p0 ≤ 2) ∧ (0 ≤ p1 ∧ p1 ≤ 2))) ∨ (th1 = 2 ∧ ((0 ≤ p0 ∧ p0 ≤ 2) ∧ (0 ≤ p1 ∧ p1 ≤ 2)) ∧ ¬ (p0 ≠ p1))) ∧ MGm G M1 a S th1 (O, V, Wv, K, kp, kv, rfd)))) := by
  refine x_intro (cc := cX5_pour) (maxL := 4) (ret := (some .int)) (by decide +kernel) rfl (Nat.le_of_ble_eq_true rfl) ?_
  intro p e R s m args below meth c ls hRf hRc hRs hRl hC hw hl
  have hsc0 := hR.sc
  have hinX5 : ∀ w ∈ wsX50, w ∈ wsX5_pour := by decide +kernel
  have hl : lv_has ls 4 [(0, .ref a), (1, .int (iN (p0))), (2, .int (iN (p1)))] := hl
  refine lv_aload_n hC.1 hC.2.1 dX5_pour_0 rfl (lv_at hl 0 rfl) ?_
  refine lv_iload_n hC.1 hC.2.1 dX5_pour_1 rfl (lv_at hl 1 rfl) ?_
  refine lv_iload_n hC.1 hC.2.1 dX5_pour_2 rfl (lv_at hl 2 rfl) ?_
  refine x_callV hC hw (lv_size hl) (c_X5_areBad l G hR (p0 := p0) (by omega) (p1 := p1) (by omega)) gX5_pour_X5_areBad rfl dv_X5_areBad hR.1.1 rfl rfl (Nat.le_of_ble_eq_true rfl) (by rw [hRf]; decide) (by rw [hRl]; decide) (by omega) (by omega) dX5_pour_3 (fun r9 M_1 H locs hq hw => ?_)
  obtain ⟨z_3, thk_2, rfl, hz_3a, hz_3b, hz_3c0, hz_3c1, hz_3c2, hx5k_2, hRk_2⟩ := hq
  have hsck_2 := hRk_2.sc
  show W p l e R s m args below meth c H locs _ _ _ (F0 m 6 ls [.int (iN (z_3))])
  refine x_if_eq (tgt := 11) hC ⟨by omega, by omega⟩ dX5_pour_6 (by decide) (fun c_4 => ?_) (fun c_4 => ?_)
  · refine lv_aload_n hC.1 hC.2.1 dX5_pour_11 rfl (lv_at hl 0 rfl) ?_
    refine lv_iload_n hC.1 hC.2.1 dX5_pour_12 rfl (lv_at hl 2 rfl) ?_
    refine x_callV hC hw (lv_size hl) (c_X5_touch l G hRk_2 (p0 := p1) (by omega) (by omega)) gX5_pour_X5_touch rfl dv_X5_touch hRk_2.1.1 rfl rfl (Nat.le_of_ble_eq_true rfl) (by rw [hRf]; decide) (by rw [hRl]; decide) (by omega) (by omega) dX5_pour_13 (fun r9 M_5 H locs hq hw => ?_)
    obtain ⟨hak_6, rfl, he0k_6, hx5k_6, hRk_6⟩ := hq
    have hsck_6 := hRk_6.sc
    show W p l e R s m args below meth c H locs _ _ _ (F0 m 16 ls [])
    refine x_const hC dX5_pour_16 ?_
    refine lv_istore_n (lv' := [(3, .int (iN (0))), (0, .ref a), (1, .int (iN (p0))), (2, .int (iN (p1)))]) hC.1 hC.2.1 dX5_pour_17 rfl hl (by decide) rfl (fun ls hl => ?_)
    suffices hloop18 : ∀ (n9 : Nat) (j : Int) (M1 : HM) (br1 : Int) (V1 : BW) (hR1 : MGx G M1 a va oa wa ya wk thk_2 rfd br1 re la hak_6 kp kv qv qw fa fb V1 O fy Wv wt S) (hx1 : xI5 G M M1) (hV1 : V1 = upB V ((p1).toNat) (mapN (V ((p1).toNat)) (F_pour (V (p1).toNat) (V (p0).toNat)) (j).toNat)) (hbr1 : br1 = brL wt ((p1).toNat) (V ((p1).toNat)) (F_pour (V (p1).toNat) (V (p0).toNat)) (j).toNat br) (H : Heap) (locs : List Loc) (ls : Array Slot), (hmu : (100 - j).toNat < n9) → (hi0 : 0 ≤ j ∧ j ≤ 100) → xD G (xA M s.heap.size) s M1 H locs → lv_has ls 4 [(0, .ref a), (1, .int (iN (p0))), (2, .int (iN (p1))), (3, .int (iN (j)))] → W p l e R s m args below meth c H locs _ _ _ (F0 m 18 ls []) by
      exact hloop18 _ 0 _ _ _ hRk_6 (xI5.tr (hx5k_2) (hx5k_6)) ml_0 bl_0 _ _ _ (Nat.lt_succ_self _) (by omega) hw (lv_sub hl [1, 2, 3, 0] rfl)
    intro n9
    induction n9 with
    | zero => intro j M1 br1 V1 hR1 hx1 hV1 hbr1 H locs ls hmu; exact absurd hmu (Nat.not_lt_zero _)
    | succ n9 ih18 =>
      intro j M1 br1 V1 hR1 hx1 hV1 hbr1 H locs ls hmu hi0 hw hl
      have hvj : V1 ((p1).toNat) (j).toNat = V ((p1).toNat) (j).toNat := ml_at hV1
      have hsc1 := hR1.sc
      have hvo : V1 (p0).toNat (j).toNat = V (p0).toNat (j).toNat := by rw [hV1, upB_n _ _ (by omega)]
      refine lv_iload_n hC.1 hC.2.1 dX5_pour_18 rfl (lv_at hl 3 rfl) ?_
      refine x_bipush hC dX5_pour_19 (by decide +kernel) ?_
      refine x_icmp_ge (tgt := 59) hC ⟨by omega, by omega⟩ ⟨by omega, by omega⟩ dX5_pour_21 (by decide) (fun c_7 => ?_) (fun c_7 => ?_)
      · refine lv_aload_n hC.1 hC.2.1 dX5_pour_59 rfl (lv_at hl 0 rfl) ?_
        refine lv_iload_n hC.1 hC.2.1 dX5_pour_60 rfl (lv_at hl 2 rfl) ?_
        refine x_callS hC hw (lv_size hl) (c_X5_whole l G (M := M1) (p0 := p1) (by omega) (by omega)) gX5_pour_X5_whole rfl dv_X5_whole_s rfl (Nat.le_of_ble_eq_true rfl) (by rw [hRf]; decide) (by rw [hRl]; decide) (by omega) (by omega) dX5_pour_61 (fun r9 M_8 H locs hq hw => ?_)
        obtain ⟨qk_9, fk_9, rfl, hxk_9, hIk_9⟩ := hq
        have h_10 := hR1.ext hxk_9
        obtain ⟨htat_11, htbt_11, htct_11, htdt_11, htet_11⟩ := id hIk_9.2.1
        have holk_9 := h_10.or' hIk_9.2.1.1
        show W p l e R s m args below meth c H locs _ _ _ (F0 m 64 ls [.ref qk_9, .ref a])
        refine x_callV hC hw (lv_size hl) (c_X5_many l G h_10 hIk_9) gX5_pour_X5_many rfl dv_X5_many h_10.1.1 rfl rfl (Nat.le_of_ble_eq_true rfl) (by rw [hRf]; decide) (by rw [hRl]; decide) (by omega) (by omega) dX5_pour_64 (fun r9 M_12 H locs hq hw => ?_)
        obtain ⟨z_13, rfl, hM9, hz_13a, hz_13m⟩ := hq
        rw [hM9] at hw
        show W p l e R s m args below meth c H locs _ _ _ (F0 m 67 ls [.int (iN (z_13))])
        exact x_iret hC hw dX5_pour_67 (by omega) (by omega) ⟨z_13, _, rfl, by omega, Or.inl ⟨by omega, by first | trivial | omega, (by have e9 : (j).toNat = 100 := (by omega); rw [e9] at hV1; have e8 := hz_13m; rw [mn_cnt, hV1, upB_s] at e8; exact e8), (by have e9 : (j).toNat = 100 := (by omega); rw [e9] at hV1 hbr1; exact MGm.mut hV1 h_10 hK (bl_map hbr1) he0k_6 rfl)⟩⟩
      · refine lv_aload_n hC.1 hC.2.1 dX5_pour_24 rfl (lv_at hl 0 rfl) ?_
        refine x_get hC hw hR1.1.1 rfl hinX5 2 (by decide) (by decide +kernel) rfl dX5_pour_25 ?_
        refine lv_iload_n hC.1 hC.2.1 dX5_pour_28 rfl (lv_at hl 1 rfl) ?_
        refine x_ald4 hC hw hR1.1.2.1 (by omega) (by omega) (by omega) dX5_pour_29 ?_
        rw [hR1.fa' (show (p0).toNat < 3 by omega)]
        show W p l e R s m args below meth c _ _ _ _ _ (F0 m 30 ls [.ref (qv ((p0).toNat))])
        refine lv_iload_n hC.1 hC.2.1 dX5_pour_30 rfl (lv_at hl 3 rfl) ?_
        refine x_ialdE (x := (V1 ((p0).toNat) ((j).toNat))) hC hw (hR1.rv (show ((p0).toNat) < 3 by omega)) (by omega) (by omega) (by omega) dX5_pour_31 rfl ?_
        have hrv_14 := hR1.vr (show ((p0).toNat) < 3 by omega) (show (j).toNat < 100 by omega)
        have hpv_14 := hR1.vs (show ((p0).toNat) < 3 by omega) (show (j).toNat < 100 by omega)
        refine x_sipush hC dX5_pour_32 (by decide +kernel) ?_
        refine x_icmp_eq (tgt := 53) hC ⟨by omega, by omega⟩ ⟨by omega, by omega⟩ dX5_pour_35 (by decide) (fun c_15 => ?_) (fun c_15 => ?_)
        · refine x_iinc (lv' := [(3, .int (iN (j + 1))), (0, .ref a), (1, .int (iN (p0))), (2, .int (iN (p1)))]) hC dX5_pour_53 hl (k := 3) rfl (by decide) rfl (fun ls hl => ?_)
          refine lv_goto (tgt := 18) hC.1 hC.2.1 dX5_pour_56 (by decide) ?_
          exact ih18 (j + 1) _ _ _ hR1 hx1 (ml_skip (by omega) hV1 (show (F_pour (V (p1).toNat) (V (p0).toNat)) (j).toNat = V ((p1).toNat) (j).toNat by simp only [F_pour]; rw [if_pos (by omega)])) (bl_skip (by omega) hbr1 (show (F_pour (V (p1).toNat) (V (p0).toNat)) (j).toNat = V ((p1).toNat) (j).toNat by simp only [F_pour]; rw [if_pos (by omega)])) _ _ _ (by omega) (by omega) hw (lv_sub hl [1, 2, 3, 0] rfl)
        · refine lv_aload_n hC.1 hC.2.1 dX5_pour_38 rfl (lv_at hl 0 rfl) ?_
          refine lv_iload_n hC.1 hC.2.1 dX5_pour_39 rfl (lv_at hl 2 rfl) ?_
          refine lv_iload_n hC.1 hC.2.1 dX5_pour_40 rfl (lv_at hl 3 rfl) ?_
          refine lv_aload_n hC.1 hC.2.1 dX5_pour_41 rfl (lv_at hl 0 rfl) ?_
          refine x_get hC hw hR1.1.1 rfl hinX5 2 (by decide) (by decide +kernel) rfl dX5_pour_42 ?_
          refine lv_iload_n hC.1 hC.2.1 dX5_pour_45 rfl (lv_at hl 1 rfl) ?_
          refine x_ald4 hC hw hR1.1.2.1 (by omega) (by omega) (by omega) dX5_pour_46 ?_
          rw [hR1.fa' (show (p0).toNat < 3 by omega)]
          show W p l e R s m args below meth c _ _ _ _ _ (F0 m 47 ls [.ref (qv ((p0).toNat)), .int (iN (j)), .int (iN (p1)), .ref a])
          refine lv_iload_n hC.1 hC.2.1 dX5_pour_47 rfl (lv_at hl 3 rfl) ?_
          refine x_ialdE (x := (V1 ((p0).toNat) ((j).toNat))) hC hw (hR1.rv (show ((p0).toNat) < 3 by omega)) (by omega) (by omega) (by omega) dX5_pour_48 rfl ?_
          have hrv_16 := hR1.vr (show ((p0).toNat) < 3 by omega) (show (j).toNat < 100 by omega)
          have hpv_16 := hR1.vs (show ((p0).toNat) < 3 by omega) (show (j).toNat < 100 by omega)
          refine x_callV hC hw (lv_size hl) (c_X5_set l G hR1 (p0 := p1) (by omega) (p1 := j) (by omega) (p2 := (V1 ((p0).toNat) ((j).toNat))) (by omega) (by omega) (by omega) (by omega) (by intro q9; first | exact absurd rfl q9 | assumption | exact hpv_14 q9 | exact hpv_16 q9 | exact hpv_14 (by omega) | exact hpv_16 (by omega))) gX5_pour_X5_set rfl dv_X5_set hR1.1.1 rfl rfl (Nat.le_of_ble_eq_true rfl) (by rw [hRf]; decide) (by rw [hRl]; decide) (by omega) (by omega) dX5_pour_49 (fun r9 M_17 H locs hq hw => ?_)
          obtain ⟨z_19, brk_18, Vk_18, rfl, hz_19a, hz_19v, hz_19b, he0k_18, he1k_18, hx5k_18, hRk_18⟩ := hq
          have hsck_18 := hRk_18.sc
          show W p l e R s m args below meth c H locs _ _ _ (F0 m 52 ls [.int (iN (z_19))])
          refine lv_pop hC.1 hC.2.1 dX5_pour_52 rfl ?_
          refine x_iinc (lv' := [(3, .int (iN (j + 1))), (0, .ref a), (1, .int (iN (p0))), (2, .int (iN (p1)))]) hC dX5_pour_53 hl (k := 3) rfl (by decide) rfl (fun ls hl => ?_)
          refine lv_goto (tgt := 18) hC.1 hC.2.1 dX5_pour_56 (by decide) ?_
          exact ih18 (j + 1) _ _ _ hRk_18 (xI5.tr hx1 (hx5k_18)) (ml_set (by omega) hV1 he1k_18 (show (V1 ((p0).toNat) ((j).toNat)) = (F_pour (V (p1).toNat) (V (p0).toNat)) (j).toNat by simp only [F_pour]; rw [if_neg (by omega)]; omega)) (bl_set (by omega) hV1 hbr1 (show (V1 ((p0).toNat) ((j).toNat)) = (F_pour (V (p1).toNat) (V (p0).toNat)) (j).toNat by simp only [F_pour]; rw [if_neg (by omega)]; omega) he0k_18) _ _ _ (by omega) (by omega) hw (lv_sub hl [1, 2, 3, 0] rfl)
  · refine x_const hC dX5_pour_9 ?_
    exact x_iret hC hw dX5_pour_10 (by omega) (by omega) ⟨0, _, rfl, by omega, Or.inr ⟨by omega, by omega, MGm.of hRk_2 hK⟩⟩
set_option maxHeartbeats 4000000 in
set_option maxRecDepth 100000 in
theorem c_X5_thin (l : Launch) (G : xG) {M : HM} {a va oa wa ya : Nat} {wk : Option Nat} {th : Int} {rfd : Int32} {br re la ha : Int} {kp kv : Int32} {qv qw : Nat → Nat} {fa fb : Nat → Option Nat} {V : BW} {O : OW} {fy : Nat → Option Nat} {Wv : VW} {wt : Option VT} {S : Nat → Bool} (hR : MGx G M a va oa wa ya wk th rfd br re la ha kp kv qv qw fa fb V O fy Wv wt S) {K : WA} (hK : abM O wt br re la ha K) {p0 : Int} (hp0 : -2147483648 ≤ p0 ∧ p0 ≤ 2147483647) {p1 : Int} (hp1 : -2147483648 ≤ p1 ∧ p1 ≤ 2147483647) {p2 : Int} (hp2 : -2147483648 ≤ p2 ∧ p2 ≤ 2147483647) (hb2 : p2 = 0 ∨ p2 = 1) : xMet l G yX5_thin wsX5_thin 3 66 0 0 [.ref a, .int (iN (p0)), .int (iN (p1)), .int (iN (p2))] M (fun r M1 => ∃ (z th1 : Int), r = some (.int (iN z)) ∧ (-2147483648 ≤ z ∧ z ≤ 2147483647) ∧ ((th1 = 0 ∧ (((0 ≤ p0 ∧ p0 ≤ 2) ∧ (0 ≤ p1 ∧ p1 ≤ 2)) ∧ (p0 ≠ p1)) ∧ z = A_thin (O, V, Wv, K, kp, kv, rfd) p0 p1 p2 ∧ MGm G M1 a S th1 (S_thin (O, V, Wv, K, kp, kv, rfd) p0 p1 p2)) ∨ (th1 ≠ 0 ∧ ((th1 = 1 ∧ ¬ ((0 ≤ p0 ∧ p0 ≤ 2) ∧ (0 ≤ p1 ∧ p1 ≤ 2))) ∨ (th1 = 2 ∧ ((0 ≤ p0 ∧ p0 ≤ 2) ∧ (0 ≤ p1 ∧ p1 ≤ 2)) ∧ ¬ (p0 ≠ p1))) ∧ MGm G M1 a S th1 (O, V, Wv, K, kp, kv, rfd)))) := by
  refine x_intro (cc := cX5_thin) (maxL := 6) (ret := (some .int)) (by decide +kernel) rfl (Nat.le_of_ble_eq_true rfl) ?_
  intro p e R s m args below meth c ls hRf hRc hRs hRl hC hw hl
  have hsc0 := hR.sc
  have hinX5 : ∀ w ∈ wsX50, w ∈ wsX5_thin := by decide +kernel
  have hl : lv_has ls 6 [(0, .ref a), (1, .int (iN (p0))), (2, .int (iN (p1))), (3, .int (iN (p2)))] := hl
  refine lv_aload_n hC.1 hC.2.1 dX5_thin_0 rfl (lv_at hl 0 rfl) ?_
  refine lv_iload_n hC.1 hC.2.1 dX5_thin_1 rfl (lv_at hl 1 rfl) ?_
  refine lv_iload_n hC.1 hC.2.1 dX5_thin_2 rfl (lv_at hl 2 rfl) ?_
  refine x_callV hC hw (lv_size hl) (c_X5_areBad l G hR (p0 := p0) (by omega) (p1 := p1) (by omega)) gX5_thin_X5_areBad rfl dv_X5_areBad hR.1.1 rfl rfl (Nat.le_of_ble_eq_true rfl) (by rw [hRf]; decide) (by rw [hRl]; decide) (by omega) (by omega) dX5_thin_3 (fun r9 M_1 H locs hq hw => ?_)
  obtain ⟨z_3, thk_2, rfl, hz_3a, hz_3b, hz_3c0, hz_3c1, hz_3c2, hx5k_2, hRk_2⟩ := hq
  have hsck_2 := hRk_2.sc
  show W p l e R s m args below meth c H locs _ _ _ (F0 m 6 ls [.int (iN (z_3))])
  refine x_if_eq (tgt := 11) hC ⟨by omega, by omega⟩ dX5_thin_6 (by decide) (fun c_4 => ?_) (fun c_4 => ?_)
  · refine lv_aload_n hC.1 hC.2.1 dX5_thin_11 rfl (lv_at hl 0 rfl) ?_
    refine lv_iload_n hC.1 hC.2.1 dX5_thin_12 rfl (lv_at hl 1 rfl) ?_
    refine x_callV hC hw (lv_size hl) (c_X5_touch l G hRk_2 (p0 := p0) (by omega) (by omega)) gX5_thin_X5_touch rfl dv_X5_touch hRk_2.1.1 rfl rfl (Nat.le_of_ble_eq_true rfl) (by rw [hRf]; decide) (by rw [hRl]; decide) (by omega) (by omega) dX5_thin_13 (fun r9 M_5 H locs hq hw => ?_)
    obtain ⟨hak_6, rfl, he0k_6, hx5k_6, hRk_6⟩ := hq
    have hsck_6 := hRk_6.sc
    show W p l e R s m args below meth c H locs _ _ _ (F0 m 16 ls [])
    refine x_const hC dX5_thin_16 ?_
    refine lv_istore (lv' := [(4, .int (iN (0))), (0, .ref a), (1, .int (iN (p0))), (2, .int (iN (p1))), (3, .int (iN (p2)))]) hC.1 hC.2.1 dX5_thin_17 hl (by decide) rfl (fun ls hl => ?_)
    refine x_const hC dX5_thin_19 ?_
    refine lv_istore (lv' := [(5, .int (iN (0))), (4, .int (iN (0))), (0, .ref a), (1, .int (iN (p0))), (2, .int (iN (p1))), (3, .int (iN (p2)))]) hC.1 hC.2.1 dX5_thin_20 hl (by decide) rfl (fun ls hl => ?_)
    suffices hloop22 : ∀ (n9 : Nat) (n : Int) (j : Int) (M1 : HM) (br1 : Int) (V1 : BW) (hR1 : MGx G M1 a va oa wa ya wk thk_2 rfd br1 re la hak_6 kp kv qv qw fa fb V1 O fy Wv wt S) (hx1 : xI5 G M M1) (hV1 : V1 = upB V ((p0).toNat) (mapN (V ((p0).toNat)) (F_thin (V (p0).toNat) (V (p1).toNat) p2) (j).toNat)) (hbr1 : br1 = brL wt ((p0).toNat) (V ((p0).toNat)) (F_thin (V (p0).toNat) (V (p1).toNat) p2) (j).toNat br) (H : Heap) (locs : List Loc) (ls : Array Slot), (hmu : (100 - j).toNat < n9) → (hi0 : 0 ≤ j ∧ j ≤ 100) → (hi1 : 0 ≤ n ∧ n ≤ j) → (hcn : n = stN (V (p0).toNat) (F_thin (V (p0).toNat) (V (p1).toNat) p2) (j).toNat) → xD G (xA M s.heap.size) s M1 H locs → lv_has ls 6 [(0, .ref a), (1, .int (iN (p0))), (2, .int (iN (p1))), (3, .int (iN (p2))), (4, .int (iN (n))), (5, .int (iN (j)))] → W p l e R s m args below meth c H locs _ _ _ (F0 m 22 ls []) by
      exact hloop22 _ 0 0 _ _ _ hRk_6 (xI5.tr (hx5k_2) (hx5k_6)) ml_0 bl_0 _ _ _ (Nat.lt_succ_self _) (by omega) (by omega) (rfl) hw (lv_sub hl [2, 3, 4, 5, 1, 0] rfl)
    intro n9
    induction n9 with
    | zero => intro n j M1 br1 V1 hR1 hx1 hV1 hbr1 H locs ls hmu; exact absurd hmu (Nat.not_lt_zero _)
    | succ n9 ih22 =>
      intro n j M1 br1 V1 hR1 hx1 hV1 hbr1 H locs ls hmu hi0 hi1 hcn hw hl
      have hvj : V1 ((p0).toNat) (j).toNat = V ((p0).toNat) (j).toNat := ml_at hV1
      have hsc1 := hR1.sc
      have hvo : V1 (p1).toNat (j).toNat = V (p1).toNat (j).toNat := by rw [hV1, upB_n _ _ (by omega)]
      refine lv_iload hC.1 hC.2.1 dX5_thin_22 (lv_at hl 5 rfl) ?_
      refine x_bipush hC dX5_thin_24 (by decide +kernel) ?_
      refine x_icmp_ge (tgt := 91) hC ⟨by omega, by omega⟩ ⟨by omega, by omega⟩ dX5_thin_26 (by decide) (fun c_7 => ?_) (fun c_7 => ?_)
      · refine lv_iload hC.1 hC.2.1 dX5_thin_91 (lv_at hl 4 rfl) ?_
        exact x_iret hC hw dX5_thin_93 (by omega) (by omega) ⟨n, _, rfl, by omega, Or.inl ⟨by omega, by first | trivial | omega, (by have e9 : (j).toNat = 100 := (by omega); rw [e9] at hcn; exact hcn), (by have e9 : (j).toNat = 100 := (by omega); rw [e9] at hV1 hbr1; exact MGm.mut hV1 hR1 hK (bl_map hbr1) he0k_6 rfl)⟩⟩
      · refine lv_aload_n hC.1 hC.2.1 dX5_thin_29 rfl (lv_at hl 0 rfl) ?_
        refine x_get hC hw hR1.1.1 rfl hinX5 2 (by decide) (by decide +kernel) rfl dX5_thin_30 ?_
        refine lv_iload_n hC.1 hC.2.1 dX5_thin_33 rfl (lv_at hl 1 rfl) ?_
        refine x_ald4 hC hw hR1.1.2.1 (by omega) (by omega) (by omega) dX5_thin_34 ?_
        rw [hR1.fa' (show (p0).toNat < 3 by omega)]
        show W p l e R s m args below meth c _ _ _ _ _ (F0 m 35 ls [.ref (qv ((p0).toNat))])
        refine lv_iload hC.1 hC.2.1 dX5_thin_35 (lv_at hl 5 rfl) ?_
        refine x_ialdE (x := (V1 ((p0).toNat) ((j).toNat))) hC hw (hR1.rv (show ((p0).toNat) < 3 by omega)) (by omega) (by omega) (by omega) dX5_thin_37 rfl ?_
        have hrv_8 := hR1.vr (show ((p0).toNat) < 3 by omega) (show (j).toNat < 100 by omega)
        have hpv_8 := hR1.vs (show ((p0).toNat) < 3 by omega) (show (j).toNat < 100 by omega)
        refine x_sipush hC dX5_thin_38 (by decide +kernel) ?_
        refine x_icmp_eq (tgt := 85) hC ⟨by omega, by omega⟩ ⟨by omega, by omega⟩ dX5_thin_41 (by decide) (fun c_9 => ?_) (fun c_9 => ?_)
        · refine x_iinc (lv' := [(5, .int (iN (j + 1))), (0, .ref a), (1, .int (iN (p0))), (2, .int (iN (p1))), (3, .int (iN (p2))), (4, .int (iN (n)))]) hC dX5_thin_85 hl (k := 5) rfl (by decide) rfl (fun ls hl => ?_)
          refine lv_goto (tgt := 22) hC.1 hC.2.1 dX5_thin_88 (by decide) ?_
          exact ih22 n (j + 1) _ _ _ hR1 hx1 (ml_skip (by omega) hV1 (show (F_thin (V (p0).toNat) (V (p1).toNat) p2) (j).toNat = V ((p0).toNat) (j).toNat by simp only [F_thin]; split <;> omega)) (bl_skip (by omega) hbr1 (show (F_thin (V (p0).toNat) (V (p1).toNat) p2) (j).toNat = V ((p0).toNat) (j).toNat by simp only [F_thin]; split <;> omega)) _ _ _ (by omega) (by omega) (by omega) (by rw [stN_s (by omega) rfl, if_neg (fun q8 => by have e8 := q8.2; rw [show (F_thin (V (p0).toNat) (V (p1).toNat) p2) (j).toNat = V (p0).toNat (j).toNat by simp only [F_thin]; split <;> omega] at e8; exact q8.1 e8)]; omega) hw (lv_sub hl [1, 2, 3, 4, 5, 0] rfl)
        · refine lv_aload_n hC.1 hC.2.1 dX5_thin_44 rfl (lv_at hl 0 rfl) ?_
          refine x_get hC hw hR1.1.1 rfl hinX5 2 (by decide) (by decide +kernel) rfl dX5_thin_45 ?_
          refine lv_iload_n hC.1 hC.2.1 dX5_thin_48 rfl (lv_at hl 2 rfl) ?_
          refine x_ald4 hC hw hR1.1.2.1 (by omega) (by omega) (by omega) dX5_thin_49 ?_
          rw [hR1.fa' (show (p1).toNat < 3 by omega)]
          show W p l e R s m args below meth c _ _ _ _ _ (F0 m 50 ls [.ref (qv ((p1).toNat))])
          refine lv_iload hC.1 hC.2.1 dX5_thin_50 (lv_at hl 5 rfl) ?_
          refine x_ialdE (x := (V1 ((p1).toNat) ((j).toNat))) hC hw (hR1.rv (show ((p1).toNat) < 3 by omega)) (by omega) (by omega) (by omega) dX5_thin_52 rfl ?_
          have hrv_10 := hR1.vr (show ((p1).toNat) < 3 by omega) (show (j).toNat < 100 by omega)
          have hpv_10 := hR1.vs (show ((p1).toNat) < 3 by omega) (show (j).toNat < 100 by omega)
          refine x_sipush hC dX5_thin_53 (by decide +kernel) ?_
          refine x_icmp_eq (tgt := 63) hC ⟨by omega, by omega⟩ ⟨by omega, by omega⟩ dX5_thin_56 (by decide) (fun c_11 => ?_) (fun c_11 => ?_)
          · refine x_const hC dX5_thin_63 ?_
            refine lv_iload_n hC.1 hC.2.1 dX5_thin_64 rfl (lv_at hl 3 rfl) ?_
            refine x_icmp_eq (tgt := 71) hC ⟨by omega, by omega⟩ ⟨by omega, by omega⟩ dX5_thin_65 (by decide) (fun c_12 => ?_) (fun c_12 => ?_)
            · refine lv_aload_n hC.1 hC.2.1 dX5_thin_71 rfl (lv_at hl 0 rfl) ?_
              refine lv_iload_n hC.1 hC.2.1 dX5_thin_72 rfl (lv_at hl 1 rfl) ?_
              refine lv_iload hC.1 hC.2.1 dX5_thin_73 (lv_at hl 5 rfl) ?_
              refine x_sipush hC dX5_thin_75 (by decide +kernel) ?_
              refine x_callV hC hw (lv_size hl) (c_X5_set l G hR1 (p0 := p0) (by omega) (p1 := j) (by omega) (p2 := (-10000)) (by omega) (by omega) (by omega) (by omega) (fun q9 => absurd rfl q9)) gX5_thin_X5_set rfl dv_X5_set hR1.1.1 rfl rfl (Nat.le_of_ble_eq_true rfl) (by rw [hRf]; decide) (by rw [hRl]; decide) (by omega) (by omega) dX5_thin_78 (fun r9 M_13 H locs hq hw => ?_)
              obtain ⟨z_15, brk_14, Vk_14, rfl, hz_15a, hz_15v, hz_15b, he0k_14, he1k_14, hx5k_14, hRk_14⟩ := hq
              have hsck_14 := hRk_14.sc
              show W p l e R s m args below meth c H locs _ _ _ (F0 m 81 ls [.int (iN (z_15))])
              refine lv_pop hC.1 hC.2.1 dX5_thin_81 rfl ?_
              refine x_iinc (lv' := [(4, .int (iN (n + 1))), (0, .ref a), (1, .int (iN (p0))), (2, .int (iN (p1))), (3, .int (iN (p2))), (5, .int (iN (j)))]) hC dX5_thin_82 hl (k := 4) rfl (by decide) rfl (fun ls hl => ?_)
              refine x_iinc (lv' := [(5, .int (iN (j + 1))), (4, .int (iN (n + 1))), (0, .ref a), (1, .int (iN (p0))), (2, .int (iN (p1))), (3, .int (iN (p2)))]) hC dX5_thin_85 hl (k := 5) rfl (by decide) rfl (fun ls hl => ?_)
              refine lv_goto (tgt := 22) hC.1 hC.2.1 dX5_thin_88 (by decide) ?_
              exact ih22 (n + 1) (j + 1) _ _ _ hRk_14 (xI5.tr hx1 (hx5k_14)) (ml_set (by omega) hV1 he1k_14 (show (-10000) = (F_thin (V (p0).toNat) (V (p1).toNat) p2) (j).toNat by simp only [F_thin]; split <;> omega)) (bl_set (by omega) hV1 hbr1 (show (-10000) = (F_thin (V (p0).toNat) (V (p1).toNat) p2) (j).toNat by simp only [F_thin]; split <;> omega) he0k_14) _ _ _ (by omega) (by omega) (by omega) (by rw [stN_s (by omega) rfl, if_pos ⟨by omega, (show -10000 = (F_thin (V (p0).toNat) (V (p1).toNat) p2) (j).toNat by simp only [F_thin]; split <;> omega).symm⟩]; omega) hw (lv_sub hl [2, 3, 4, 5, 1, 0] rfl)
            · refine lv_goto (tgt := 85) hC.1 hC.2.1 dX5_thin_68 (by decide) ?_
              refine x_iinc (lv' := [(5, .int (iN (j + 1))), (0, .ref a), (1, .int (iN (p0))), (2, .int (iN (p1))), (3, .int (iN (p2))), (4, .int (iN (n)))]) hC dX5_thin_85 hl (k := 5) rfl (by decide) rfl (fun ls hl => ?_)
              refine lv_goto (tgt := 22) hC.1 hC.2.1 dX5_thin_88 (by decide) ?_
              exact ih22 n (j + 1) _ _ _ hR1 hx1 (ml_skip (by omega) hV1 (show (F_thin (V (p0).toNat) (V (p1).toNat) p2) (j).toNat = V ((p0).toNat) (j).toNat by simp only [F_thin]; split <;> omega)) (bl_skip (by omega) hbr1 (show (F_thin (V (p0).toNat) (V (p1).toNat) p2) (j).toNat = V ((p0).toNat) (j).toNat by simp only [F_thin]; split <;> omega)) _ _ _ (by omega) (by omega) (by omega) (by rw [stN_s (by omega) rfl, if_neg (fun q8 => by have e8 := q8.2; rw [show (F_thin (V (p0).toNat) (V (p1).toNat) p2) (j).toNat = V (p0).toNat (j).toNat by simp only [F_thin]; split <;> omega] at e8; exact q8.1 e8)]; omega) hw (lv_sub hl [1, 2, 3, 4, 5, 0] rfl)
          · refine x_const hC dX5_thin_59 ?_
            refine lv_goto (tgt := 64) hC.1 hC.2.1 dX5_thin_60 (by decide) ?_
            refine lv_iload_n hC.1 hC.2.1 dX5_thin_64 rfl (lv_at hl 3 rfl) ?_
            refine x_icmp_eq (tgt := 71) hC ⟨by omega, by omega⟩ ⟨by omega, by omega⟩ dX5_thin_65 (by decide) (fun c_16 => ?_) (fun c_16 => ?_)
            · refine lv_aload_n hC.1 hC.2.1 dX5_thin_71 rfl (lv_at hl 0 rfl) ?_
              refine lv_iload_n hC.1 hC.2.1 dX5_thin_72 rfl (lv_at hl 1 rfl) ?_
              refine lv_iload hC.1 hC.2.1 dX5_thin_73 (lv_at hl 5 rfl) ?_
              refine x_sipush hC dX5_thin_75 (by decide +kernel) ?_
              refine x_callV hC hw (lv_size hl) (c_X5_set l G hR1 (p0 := p0) (by omega) (p1 := j) (by omega) (p2 := (-10000)) (by omega) (by omega) (by omega) (by omega) (fun q9 => absurd rfl q9)) gX5_thin_X5_set rfl dv_X5_set hR1.1.1 rfl rfl (Nat.le_of_ble_eq_true rfl) (by rw [hRf]; decide) (by rw [hRl]; decide) (by omega) (by omega) dX5_thin_78 (fun r9 M_17 H locs hq hw => ?_)
              obtain ⟨z_19, brk_18, Vk_18, rfl, hz_19a, hz_19v, hz_19b, he0k_18, he1k_18, hx5k_18, hRk_18⟩ := hq
              have hsck_18 := hRk_18.sc
              show W p l e R s m args below meth c H locs _ _ _ (F0 m 81 ls [.int (iN (z_19))])
              refine lv_pop hC.1 hC.2.1 dX5_thin_81 rfl ?_
              refine x_iinc (lv' := [(4, .int (iN (n + 1))), (0, .ref a), (1, .int (iN (p0))), (2, .int (iN (p1))), (3, .int (iN (p2))), (5, .int (iN (j)))]) hC dX5_thin_82 hl (k := 4) rfl (by decide) rfl (fun ls hl => ?_)
              refine x_iinc (lv' := [(5, .int (iN (j + 1))), (4, .int (iN (n + 1))), (0, .ref a), (1, .int (iN (p0))), (2, .int (iN (p1))), (3, .int (iN (p2)))]) hC dX5_thin_85 hl (k := 5) rfl (by decide) rfl (fun ls hl => ?_)
              refine lv_goto (tgt := 22) hC.1 hC.2.1 dX5_thin_88 (by decide) ?_
              exact ih22 (n + 1) (j + 1) _ _ _ hRk_18 (xI5.tr hx1 (hx5k_18)) (ml_set (by omega) hV1 he1k_18 (show (-10000) = (F_thin (V (p0).toNat) (V (p1).toNat) p2) (j).toNat by simp only [F_thin]; split <;> omega)) (bl_set (by omega) hV1 hbr1 (show (-10000) = (F_thin (V (p0).toNat) (V (p1).toNat) p2) (j).toNat by simp only [F_thin]; split <;> omega) he0k_18) _ _ _ (by omega) (by omega) (by omega) (by rw [stN_s (by omega) rfl, if_pos ⟨by omega, (show -10000 = (F_thin (V (p0).toNat) (V (p1).toNat) p2) (j).toNat by simp only [F_thin]; split <;> omega).symm⟩]; omega) hw (lv_sub hl [2, 3, 4, 5, 1, 0] rfl)
            · refine lv_goto (tgt := 85) hC.1 hC.2.1 dX5_thin_68 (by decide) ?_
              refine x_iinc (lv' := [(5, .int (iN (j + 1))), (0, .ref a), (1, .int (iN (p0))), (2, .int (iN (p1))), (3, .int (iN (p2))), (4, .int (iN (n)))]) hC dX5_thin_85 hl (k := 5) rfl (by decide) rfl (fun ls hl => ?_)
              refine lv_goto (tgt := 22) hC.1 hC.2.1 dX5_thin_88 (by decide) ?_
              exact ih22 n (j + 1) _ _ _ hR1 hx1 (ml_skip (by omega) hV1 (show (F_thin (V (p0).toNat) (V (p1).toNat) p2) (j).toNat = V ((p0).toNat) (j).toNat by simp only [F_thin]; split <;> omega)) (bl_skip (by omega) hbr1 (show (F_thin (V (p0).toNat) (V (p1).toNat) p2) (j).toNat = V ((p0).toNat) (j).toNat by simp only [F_thin]; split <;> omega)) _ _ _ (by omega) (by omega) (by omega) (by rw [stN_s (by omega) rfl, if_neg (fun q8 => by have e8 := q8.2; rw [show (F_thin (V (p0).toNat) (V (p1).toNat) p2) (j).toNat = V (p0).toNat (j).toNat by simp only [F_thin]; split <;> omega] at e8; exact q8.1 e8)]; omega) hw (lv_sub hl [1, 2, 3, 4, 5, 0] rfl)
  · refine x_const hC dX5_thin_9 ?_
    exact x_iret hC hw dX5_thin_10 (by omega) (by omega) ⟨0, _, rfl, by omega, Or.inr ⟨by omega, by omega, MGm.of hRk_2 hK⟩⟩
set_option maxHeartbeats 4000000 in
set_option maxRecDepth 100000 in
theorem c_X5_begin (l : Launch) (G : xG) {M : HM} {a va oa wa ya : Nat} {wk : Option Nat} {th : Int} {rfd : Int32} {br re la ha : Int} {kp kv : Int32} {qv qw : Nat → Nat} {fa fb : Nat → Option Nat} {V : BW} {O : OW} {fy : Nat → Option Nat} {Wv : VW} {wt : Option VT} {S : Nat → Bool} (hR : MGx G M a va oa wa ya wk th rfd br re la ha kp kv qv qw fa fb V O fy Wv wt S) {i : Nat} {fi : Nat → Int32} {ti : VT} (hIi : Its G M i fi ti) : xMet l G yX5_begin wsX5_begin 0 0 0 0 [.ref a, .ref i] M (fun r M1 => r = none ∧ xI5 G M M1 ∧ MGx G M1 a va oa wa ya (some i) th rfd 0 (-1) (-10000) (-10000) kp kv qv qw fa fb V O fy Wv (some ti) S) := by
  refine x_intro (cc := cX5_begin) (maxL := 2) (ret := none) (by decide +kernel) rfl (Nat.le_of_ble_eq_true rfl) ?_
  intro p e R s m args below meth c ls hRf hRc hRs hRl hC hw hl
  have hsc0 := hR.sc
  obtain ⟨htat_1, htbt_1, htct_1, htdt_1, htet_1⟩ := id hIi.2.1
  have holi := hR.or' hIi.2.1.1
  have hinX5 : ∀ w ∈ wsX50, w ∈ wsX5_begin := by decide +kernel
  have hl : lv_has ls 2 [(0, .ref a), (1, .ref i)] := hl
  refine lv_aload_n hC.1 hC.2.1 dX5_begin_0 rfl (lv_at hl 0 rfl) ?_
  refine lv_aload_n hC.1 hC.2.1 dX5_begin_1 rfl (lv_at hl 1 rfl) ?_
  refine x_put (fs2 := [.int (iN (th)), .int rfd, .ref va, .ref oa, .ref wa, .ref ya, .ref i, .int (iN (br)), .int (iN (re)), .int (iN (la)), .int (iN (ha)), .int kp, .int kv]) hC hw hR.1.1 rfl hinX5 tyX5 tyX5_ok nmX5 6 (by decide) (by decide +kernel) rfl rfl rfl (Nat.le_of_ble_eq_true rfl) rfl dX5_begin_2 (fun H locs hw => ?_)
  obtain ⟨M_2, hM_3⟩ : ∃ z, z = va_up M a (some (.inr (7, [.int (iN (th)), .int rfd, .ref va, .ref oa, .ref wa, .ref ya, .ref i, .int (iN (br)), .int (iN (re)), .int (iN (la)), .int (iN (ha)), .int kp, .int kv]))) := ⟨_, rfl⟩
  rw [← hM_3] at hw
  have hR_4 : MGx G M_2 a va oa wa ya (some i) th rfd br re la ha kp kv qv qw fa fb V O fy Wv (some ti) S := hR.obj hM_3 (by have e9 := hR.sc; omega) (show ItO G _ (some i) (some ti) from ⟨_, hIi⟩)
  have h_5 := hIi.x5 (hR.obj5 hM_3)
  refine lv_aload_n hC.1 hC.2.1 dX5_begin_5 rfl (lv_at hl 0 rfl) ?_
  refine x_const hC dX5_begin_6 ?_
  refine x_put (fs2 := [.int (iN (th)), .int rfd, .ref va, .ref oa, .ref wa, .ref ya, .ref i, .int (iN (0)), .int (iN (re)), .int (iN (la)), .int (iN (ha)), .int kp, .int kv]) hC hw hR_4.1.1 rfl hinX5 tyX5 tyX5_ok nmX5 7 (by decide) (by decide +kernel) rfl rfl rfl (Nat.le_of_ble_eq_true rfl) rfl dX5_begin_7 (fun H locs hw => ?_)
  obtain ⟨M_6, hM_7⟩ : ∃ z, z = va_up M_2 a (some (.inr (7, [.int (iN (th)), .int rfd, .ref va, .ref oa, .ref wa, .ref ya, .ref i, .int (iN (0)), .int (iN (re)), .int (iN (la)), .int (iN (ha)), .int kp, .int kv]))) := ⟨_, rfl⟩
  rw [← hM_7] at hw
  have hR_8 : MGx G M_6 a va oa wa ya (some i) th rfd 0 re la ha kp kv qv qw fa fb V O fy Wv (some ti) S := hR_4.obj hM_7 (by have e9 := hR_4.sc; omega) hR_4.wk'
  have h_9 := h_5.x5 (hR_4.obj5 hM_7)
  refine lv_aload_n hC.1 hC.2.1 dX5_begin_10 rfl (lv_at hl 0 rfl) ?_
  refine x_const hC dX5_begin_11 ?_
  refine x_put (fs2 := [.int (iN (th)), .int rfd, .ref va, .ref oa, .ref wa, .ref ya, .ref i, .int (iN (0)), .int (iN ((-1))), .int (iN (la)), .int (iN (ha)), .int kp, .int kv]) hC hw hR_8.1.1 rfl hinX5 tyX5 tyX5_ok nmX5 8 (by decide) (by decide +kernel) rfl rfl rfl (Nat.le_of_ble_eq_true rfl) rfl dX5_begin_12 (fun H locs hw => ?_)
  obtain ⟨M_10, hM_11⟩ : ∃ z, z = va_up M_6 a (some (.inr (7, [.int (iN (th)), .int rfd, .ref va, .ref oa, .ref wa, .ref ya, .ref i, .int (iN (0)), .int (iN ((-1))), .int (iN (la)), .int (iN (ha)), .int kp, .int kv]))) := ⟨_, rfl⟩
  rw [← hM_11] at hw
  have hR_12 : MGx G M_10 a va oa wa ya (some i) th rfd 0 (-1) la ha kp kv qv qw fa fb V O fy Wv (some ti) S := hR_8.obj hM_11 (by have e9 := hR_8.sc; omega) hR_8.wk'
  have h_13 := h_9.x5 (hR_8.obj5 hM_11)
  refine lv_aload_n hC.1 hC.2.1 dX5_begin_15 rfl (lv_at hl 0 rfl) ?_
  refine x_sipush hC dX5_begin_16 (by decide +kernel) ?_
  refine x_put (fs2 := [.int (iN (th)), .int rfd, .ref va, .ref oa, .ref wa, .ref ya, .ref i, .int (iN (0)), .int (iN ((-1))), .int (iN ((-10000))), .int (iN (ha)), .int kp, .int kv]) hC hw hR_12.1.1 rfl hinX5 tyX5 tyX5_ok nmX5 9 (by decide) (by decide +kernel) rfl rfl rfl (Nat.le_of_ble_eq_true rfl) rfl dX5_begin_19 (fun H locs hw => ?_)
  obtain ⟨M_14, hM_15⟩ : ∃ z, z = va_up M_10 a (some (.inr (7, [.int (iN (th)), .int rfd, .ref va, .ref oa, .ref wa, .ref ya, .ref i, .int (iN (0)), .int (iN ((-1))), .int (iN ((-10000))), .int (iN (ha)), .int kp, .int kv]))) := ⟨_, rfl⟩
  rw [← hM_15] at hw
  have hR_16 : MGx G M_14 a va oa wa ya (some i) th rfd 0 (-1) (-10000) ha kp kv qv qw fa fb V O fy Wv (some ti) S := hR_12.obj hM_15 (by have e9 := hR_12.sc; omega) hR_12.wk'
  have h_17 := h_13.x5 (hR_12.obj5 hM_15)
  refine lv_aload_n hC.1 hC.2.1 dX5_begin_22 rfl (lv_at hl 0 rfl) ?_
  refine x_sipush hC dX5_begin_23 (by decide +kernel) ?_
  refine x_put (fs2 := [.int (iN (th)), .int rfd, .ref va, .ref oa, .ref wa, .ref ya, .ref i, .int (iN (0)), .int (iN ((-1))), .int (iN ((-10000))), .int (iN ((-10000))), .int kp, .int kv]) hC hw hR_16.1.1 rfl hinX5 tyX5 tyX5_ok nmX5 10 (by decide) (by decide +kernel) rfl rfl rfl (Nat.le_of_ble_eq_true rfl) rfl dX5_begin_26 (fun H locs hw => ?_)
  obtain ⟨M_18, hM_19⟩ : ∃ z, z = va_up M_14 a (some (.inr (7, [.int (iN (th)), .int rfd, .ref va, .ref oa, .ref wa, .ref ya, .ref i, .int (iN (0)), .int (iN ((-1))), .int (iN ((-10000))), .int (iN ((-10000))), .int kp, .int kv]))) := ⟨_, rfl⟩
  rw [← hM_19] at hw
  have hR_20 : MGx G M_18 a va oa wa ya (some i) th rfd 0 (-1) (-10000) (-10000) kp kv qv qw fa fb V O fy Wv (some ti) S := hR_16.obj hM_19 (by have e9 := hR_16.sc; omega) hR_16.wk'
  have h_21 := h_17.x5 (hR_16.obj5 hM_19)
  exact x_vret hC hw dX5_begin_29 (by omega) (by omega) ⟨rfl, (xI5.tr (xI5.tr (xI5.tr (xI5.tr ((hR.obj5 hM_3)) ((hR_4.obj5 hM_7))) ((hR_8.obj5 hM_11))) ((hR_12.obj5 hM_15))) ((hR_16.obj5 hM_19))), hR_20⟩
set_option maxHeartbeats 4000000 in
set_option maxRecDepth 100000 in
theorem c_X5_begin0 (l : Launch) (G : xG) {M : HM} {a va oa wa ya : Nat} {wk : Option Nat} {th : Int} {rfd : Int32} {br re la ha : Int} {kp kv : Int32} {qv qw : Nat → Nat} {fa fb : Nat → Option Nat} {V : BW} {O : OW} {fy : Nat → Option Nat} {Wv : VW} {wt : Option VT} {S : Nat → Bool} (hR : MGx G M a va oa wa ya wk th rfd br re la ha kp kv qv qw fa fb V O fy Wv wt S) : xMet l G yX5_begin wsX5_begin 0 0 0 0 [.ref a, .null] M (fun r M1 => r = none ∧ xI5 G M M1 ∧ MGx G M1 a va oa wa ya none th rfd 0 (-1) (-10000) (-10000) kp kv qv qw fa fb V O fy Wv none S) := by
  refine x_intro (cc := cX5_begin) (maxL := 2) (ret := none) (by decide +kernel) rfl (Nat.le_of_ble_eq_true rfl) ?_
  intro p e R s m args below meth c ls hRf hRc hRs hRl hC hw hl
  have hsc0 := hR.sc
  have hinX5 : ∀ w ∈ wsX50, w ∈ wsX5_begin := by decide +kernel
  have hl : lv_has ls 2 [(0, .ref a), (1, .null)] := hl
  refine lv_aload_n hC.1 hC.2.1 dX5_begin_0 rfl (lv_at hl 0 rfl) ?_
  refine lv_aload_nN hC.1 hC.2.1 dX5_begin_1 rfl (lv_at hl 1 rfl) ?_
  refine x_put (fs2 := [.int (iN (th)), .int rfd, .ref va, .ref oa, .ref wa, .ref ya, .null, .int (iN (br)), .int (iN (re)), .int (iN (la)), .int (iN (ha)), .int kp, .int kv]) hC hw hR.1.1 rfl hinX5 tyX5 tyX5_ok nmX5 6 (by decide) (by decide +kernel) rfl rfl rfl (Nat.le_of_ble_eq_true rfl) rfl dX5_begin_2 (fun H locs hw => ?_)
  obtain ⟨M_1, hM_2⟩ : ∃ z, z = va_up M a (some (.inr (7, [.int (iN (th)), .int rfd, .ref va, .ref oa, .ref wa, .ref ya, .null, .int (iN (br)), .int (iN (re)), .int (iN (la)), .int (iN (ha)), .int kp, .int kv]))) := ⟨_, rfl⟩
  rw [← hM_2] at hw
  have hR_3 : MGx G M_1 a va oa wa ya none th rfd br re la ha kp kv qv qw fa fb V O fy Wv none S := hR.obj hM_2 (by have e9 := hR.sc; omega) (show ItO G _ none none from trivial)
  refine lv_aload_n hC.1 hC.2.1 dX5_begin_5 rfl (lv_at hl 0 rfl) ?_
  refine x_const hC dX5_begin_6 ?_
  refine x_put (fs2 := [.int (iN (th)), .int rfd, .ref va, .ref oa, .ref wa, .ref ya, .null, .int (iN (0)), .int (iN (re)), .int (iN (la)), .int (iN (ha)), .int kp, .int kv]) hC hw hR_3.1.1 rfl hinX5 tyX5 tyX5_ok nmX5 7 (by decide) (by decide +kernel) rfl rfl rfl (Nat.le_of_ble_eq_true rfl) rfl dX5_begin_7 (fun H locs hw => ?_)
  obtain ⟨M_4, hM_5⟩ : ∃ z, z = va_up M_1 a (some (.inr (7, [.int (iN (th)), .int rfd, .ref va, .ref oa, .ref wa, .ref ya, .null, .int (iN (0)), .int (iN (re)), .int (iN (la)), .int (iN (ha)), .int kp, .int kv]))) := ⟨_, rfl⟩
  rw [← hM_5] at hw
  have hR_6 : MGx G M_4 a va oa wa ya none th rfd 0 re la ha kp kv qv qw fa fb V O fy Wv none S := hR_3.obj hM_5 (by have e9 := hR_3.sc; omega) hR_3.wk'
  refine lv_aload_n hC.1 hC.2.1 dX5_begin_10 rfl (lv_at hl 0 rfl) ?_
  refine x_const hC dX5_begin_11 ?_
  refine x_put (fs2 := [.int (iN (th)), .int rfd, .ref va, .ref oa, .ref wa, .ref ya, .null, .int (iN (0)), .int (iN ((-1))), .int (iN (la)), .int (iN (ha)), .int kp, .int kv]) hC hw hR_6.1.1 rfl hinX5 tyX5 tyX5_ok nmX5 8 (by decide) (by decide +kernel) rfl rfl rfl (Nat.le_of_ble_eq_true rfl) rfl dX5_begin_12 (fun H locs hw => ?_)
  obtain ⟨M_7, hM_8⟩ : ∃ z, z = va_up M_4 a (some (.inr (7, [.int (iN (th)), .int rfd, .ref va, .ref oa, .ref wa, .ref ya, .null, .int (iN (0)), .int (iN ((-1))), .int (iN (la)), .int (iN (ha)), .int kp, .int kv]))) := ⟨_, rfl⟩
  rw [← hM_8] at hw
  have hR_9 : MGx G M_7 a va oa wa ya none th rfd 0 (-1) la ha kp kv qv qw fa fb V O fy Wv none S := hR_6.obj hM_8 (by have e9 := hR_6.sc; omega) hR_6.wk'
  refine lv_aload_n hC.1 hC.2.1 dX5_begin_15 rfl (lv_at hl 0 rfl) ?_
  refine x_sipush hC dX5_begin_16 (by decide +kernel) ?_
  refine x_put (fs2 := [.int (iN (th)), .int rfd, .ref va, .ref oa, .ref wa, .ref ya, .null, .int (iN (0)), .int (iN ((-1))), .int (iN ((-10000))), .int (iN (ha)), .int kp, .int kv]) hC hw hR_9.1.1 rfl hinX5 tyX5 tyX5_ok nmX5 9 (by decide) (by decide +kernel) rfl rfl rfl (Nat.le_of_ble_eq_true rfl) rfl dX5_begin_19 (fun H locs hw => ?_)
  obtain ⟨M_10, hM_11⟩ : ∃ z, z = va_up M_7 a (some (.inr (7, [.int (iN (th)), .int rfd, .ref va, .ref oa, .ref wa, .ref ya, .null, .int (iN (0)), .int (iN ((-1))), .int (iN ((-10000))), .int (iN (ha)), .int kp, .int kv]))) := ⟨_, rfl⟩
  rw [← hM_11] at hw
  have hR_12 : MGx G M_10 a va oa wa ya none th rfd 0 (-1) (-10000) ha kp kv qv qw fa fb V O fy Wv none S := hR_9.obj hM_11 (by have e9 := hR_9.sc; omega) hR_9.wk'
  refine lv_aload_n hC.1 hC.2.1 dX5_begin_22 rfl (lv_at hl 0 rfl) ?_
  refine x_sipush hC dX5_begin_23 (by decide +kernel) ?_
  refine x_put (fs2 := [.int (iN (th)), .int rfd, .ref va, .ref oa, .ref wa, .ref ya, .null, .int (iN (0)), .int (iN ((-1))), .int (iN ((-10000))), .int (iN ((-10000))), .int kp, .int kv]) hC hw hR_12.1.1 rfl hinX5 tyX5 tyX5_ok nmX5 10 (by decide) (by decide +kernel) rfl rfl rfl (Nat.le_of_ble_eq_true rfl) rfl dX5_begin_26 (fun H locs hw => ?_)
  obtain ⟨M_13, hM_14⟩ : ∃ z, z = va_up M_10 a (some (.inr (7, [.int (iN (th)), .int rfd, .ref va, .ref oa, .ref wa, .ref ya, .null, .int (iN (0)), .int (iN ((-1))), .int (iN ((-10000))), .int (iN ((-10000))), .int kp, .int kv]))) := ⟨_, rfl⟩
  rw [← hM_14] at hw
  have hR_15 : MGx G M_13 a va oa wa ya none th rfd 0 (-1) (-10000) (-10000) kp kv qv qw fa fb V O fy Wv none S := hR_12.obj hM_14 (by have e9 := hR_12.sc; omega) hR_12.wk'
  exact x_vret hC hw dX5_begin_29 (by omega) (by omega) ⟨rfl, (xI5.tr (xI5.tr (xI5.tr (xI5.tr ((hR.obj5 hM_2)) ((hR_3.obj5 hM_5))) ((hR_6.obj5 hM_8))) ((hR_9.obj5 hM_11))) ((hR_12.obj5 hM_14))), hR_15⟩
set_option maxHeartbeats 4000000 in
set_option maxRecDepth 100000 in
theorem c_X5_free (l : Launch) (G : xG) {M : HM} {a va oa wa ya : Nat} {wk : Option Nat} {th : Int} {rfd : Int32} {br re la ha : Int} {kp kv : Int32} {qv qw : Nat → Nat} {fa fb : Nat → Option Nat} {V : BW} {O : OW} {fy : Nat → Option Nat} {Wv : VW} {wt : Option VT} {S : Nat → Bool} (hR : MGx G M a va oa wa ya wk th rfd br re la ha kp kv qv qw fa fb V O fy Wv wt S) : xMet l G yX5_free wsX5_free 0 0 0 0 [.ref a] M (fun r M1 => ∃ z : Int, r = some (.int (iN z)) ∧ M1 = M ∧ (z = -10000 ∨ (0 ≤ z ∧ z ≤ 3)) ∧ ((frN Wv < 4 ∧ z = ((frN Wv : Nat) : Int)) ∨ (frN Wv = 4 ∧ z = -10000))) := by
  refine x_intro (cc := cX5_free) (maxL := 2) (ret := (some .int)) (by decide +kernel) rfl (Nat.le_of_ble_eq_true rfl) ?_
  intro p e R s m args below meth c ls hRf hRc hRs hRl hC hw hl
  have hsc0 := hR.sc
  have hinX5 : ∀ w ∈ wsX50, w ∈ wsX5_free := by decide +kernel
  have hl : lv_has ls 2 [(0, .ref a)] := hl
  refine x_const hC dX5_free_0 ?_
  refine lv_istore_n (lv' := [(1, .int (iN (0))), (0, .ref a)]) hC.1 hC.2.1 dX5_free_1 rfl hl (by decide) rfl (fun ls hl => ?_)
  suffices hloop2 : ∀ (n9 : Nat) (j : Int) (H : Heap) (locs : List Loc) (ls : Array Slot), (hmu : (4 - j).toNat < n9) → (hi0 : 0 ≤ j ∧ j ≤ 4) → (hi2 : ∀ i : Nat, i < j.toNat → Wv i ≠ none) → xD G (xA M s.heap.size) s M H locs → lv_has ls 2 [(0, .ref a), (1, .int (iN (j)))] → W p l e R s m args below meth c H locs _ _ _ (F0 m 2 ls []) by
    exact hloop2 _ 0  _ _ _ (Nat.lt_succ_self _) (by omega) (fun i9 hi9 => absurd hi9 (by omega)) hw (lv_sub hl [1, 0] rfl)
  intro n9
  induction n9 with
  | zero => intro j  H locs ls hmu; exact absurd hmu (Nat.not_lt_zero _)
  | succ n9 ih2 =>
    intro j  H locs ls hmu hi0 hi2 hw hl
    refine lv_iload_n hC.1 hC.2.1 dX5_free_2 rfl (lv_at hl 1 rfl) ?_
    refine x_const hC dX5_free_3 ?_
    refine x_icmp_ge (tgt := 24) hC ⟨by omega, by omega⟩ ⟨by omega, by omega⟩ dX5_free_4 (by decide) (fun c_1 => ?_) (fun c_1 => ?_)
    · refine x_sipush hC dX5_free_24 (by decide +kernel) ?_
      exact x_iret hC hw dX5_free_27 (by omega) (by omega) ⟨(-10000), rfl, rfl, by omega, Or.inr ⟨frN_no (fun i9 hi9 => hi2 i9 (by omega)), rfl⟩⟩
    · refine lv_aload_n hC.1 hC.2.1 dX5_free_7 rfl (lv_at hl 0 rfl) ?_
      refine x_get hC hw hR.1.1 rfl hinX5 5 (by decide) (by decide +kernel) rfl dX5_free_8 ?_
      refine lv_iload_n hC.1 hC.2.1 dX5_free_11 rfl (lv_at hl 1 rfl) ?_
      refine x_ald4 hC hw hR.1.2.2.2.2.1 (by omega) (by omega) (by omega) dX5_free_12 ?_
      rcases hy_3 : fy ((j).toNat) with _ | y_2
      · have hnhy_3 : Wv ((j).toNat) = none := (hR.vw (show (j).toNat < 4 by omega)).nil hy_3
        have hohy_3 := opN_none hnhy_3
        show W p l e R s m args below meth c _ _ _ _ _ (F0 m 13 ls [.null])
        refine lv_ifnonnullN hC.1 hC.2.1 dX5_free_13 ?_
        refine lv_iload_n hC.1 hC.2.1 dX5_free_16 rfl (lv_at hl 1 rfl) ?_
        exact x_iret hC hw dX5_free_17 (by omega) (by omega) ⟨j, rfl, rfl, by omega, Or.inl ⟨by have e9 := frN_at (j := (j).toNat) (by omega) hnhy_3 (fun i9 hi9 => hi2 i9 (by omega)); omega, by have e9 := frN_at (j := (j).toNat) (by omega) hnhy_3 (fun i9 hi9 => hi2 i9 (by omega)); omega⟩⟩
      · obtain ⟨ti_4, fi_4, hui_4, hIi_4⟩ := (hR.vw (show (j).toNat < 4 by omega)).yes hy_3
        obtain ⟨htat_5, htbt_5, htct_5, htdt_5, htet_5⟩ := id hIi_4.2.1
        have hohy_3 := opN_some hui_4
        show W p l e R s m args below meth c _ _ _ _ _ (F0 m 13 ls [.ref y_2])
        refine lv_ifnonnull (tgt := 18) hC.1 hC.2.1 dX5_free_13 (by decide) ?_
        refine x_iinc (lv' := [(1, .int (iN (j + 1))), (0, .ref a)]) hC dX5_free_18 hl (k := 1) rfl (by decide) rfl (fun ls hl => ?_)
        refine lv_goto (tgt := 2) hC.1 hC.2.1 dX5_free_21 (by decide) ?_
        exact ih2 (j + 1)  _ _ _ (by omega) (by omega) (fun i9 hi9 => by by_cases e9 : i9 = (j).toNat; (· rw [e9, hui_4]; exact fun q9 => nomatch q9); (· exact hi2 i9 (by omega))) hw (lv_sub hl [1, 0] rfl)
set_option maxHeartbeats 4000000 in
set_option maxRecDepth 100000 in
theorem c_X5_open (l : Launch) (G : xG) {M : HM} {a va oa wa ya : Nat} {wk : Option Nat} {th : Int} {rfd : Int32} {br re la ha : Int} {kp kv : Int32} {qv qw : Nat → Nat} {fa fb : Nat → Option Nat} {V : BW} {O : OW} {fy : Nat → Option Nat} {Wv : VW} {wt : Option VT} {S : Nat → Bool} (hR : MGx G M a va oa wa ya wk th rfd br re la ha kp kv qv qw fa fb V O fy Wv wt S) {i : Nat} {fi : Nat → Int32} {ti : VT} (hIi : Its G M i fi ti) (hof : frN Wv < 4) : xMet l G yX5_open wsX5_open 1 21 0 0 [.ref a, .ref i] M (fun r M1 => ∃ (z : Int) (fy1 : Nat → Option Nat) (Wv1 : VW), r = some (.int (iN z)) ∧ (0 ≤ z ∧ z ≤ 3) ∧ z = ((frN Wv : Nat) : Int) ∧ Wv1 = upW Wv (frN Wv) (some ti) ∧ xI5 G M M1 ∧ MGx G M1 a va oa wa ya wk th rfd br re la ha kp kv qv qw fa fb V O fy1 Wv1 wt S) := by
  refine x_intro (cc := cX5_open) (maxL := 3) (ret := (some .int)) (by decide +kernel) rfl (Nat.le_of_ble_eq_true rfl) ?_
  intro p e R s m args below meth c ls hRf hRc hRs hRl hC hw hl
  have hsc0 := hR.sc
  obtain ⟨htat_1, htbt_1, htct_1, htdt_1, htet_1⟩ := id hIi.2.1
  have holi := hR.or' hIi.2.1.1
  have hinX5 : ∀ w ∈ wsX50, w ∈ wsX5_open := by decide +kernel
  have hl : lv_has ls 3 [(0, .ref a), (1, .ref i)] := hl
  refine lv_aload_n hC.1 hC.2.1 dX5_open_0 rfl (lv_at hl 0 rfl) ?_
  refine x_callV hC hw (lv_size hl) (c_X5_free l G hR) gX5_open_X5_free rfl dv_X5_free hR.1.1 rfl rfl (Nat.le_of_ble_eq_true rfl) (by rw [hRf]; decide) (by rw [hRl]; decide) (by omega) (by omega) dX5_open_1 (fun r9 M_2 H locs hq hw => ?_)
  obtain ⟨z_3, rfl, hM9, hz_3a, hz_3f⟩ := hq
  rw [hM9] at hw
  show W p l e R s m args below meth c H locs _ _ _ (F0 m 4 ls [.int (iN (z_3))])
  refine lv_istore_n (lv' := [(2, .int (iN (z_3))), (0, .ref a), (1, .ref i)]) hC.1 hC.2.1 dX5_open_4 rfl hl (by decide) rfl (fun ls hl => ?_)
  refine lv_aload_n hC.1 hC.2.1 dX5_open_5 rfl (lv_at hl 1 rfl) ?_
  refine x_get hC hw hR.1.1 rfl hinX5 5 (by decide) (by decide +kernel) rfl dX5_open_6 ?_
  refine lv_iload_n hC.1 hC.2.1 dX5_open_9 rfl (lv_at hl 0 rfl) ?_
  refine lv_aload_n hC.1 hC.2.1 dX5_open_10 rfl (lv_at hl 2 rfl) ?_
  refine x_ast4 hC hw hR.1.2.2.2.2.1 hIi.1 (by omega) (by omega) (by omega) dX5_open_11 (fun H locs hw => ?_)
  obtain ⟨M_4, hM_5⟩ : ∃ z, z = va_up M ya (some (.inl (G.2 4, 4, .inr (.inr (.inr (.inr (va_up fy (z_3).toNat (some i)))))))) := ⟨_, rfl⟩
  rw [← hM_5] at hw
  have hR_6 := hR.vws (W2 := (upW Wv ((z_3).toNat) (some ti))) hM_5 (fun j9 hj => by by_cases e9 : j9 = (z_3).toNat; (· subst e9; rw [va_up_self, upW_s]; exact ⟨_, hIi⟩); (· rw [va_up_ne _ _ e9, upW_n _ _ e9]; exact hR.vw hj))
  obtain ⟨fy_7, hfy_7⟩ : ∃ z, z = (va_up fy (z_3).toNat (some i)) := ⟨_, rfl⟩
  rw [← hfy_7] at hR_6
  obtain ⟨Wv_8, hWv_8⟩ : ∃ z, z = (upW Wv ((z_3).toNat) (some ti)) := ⟨_, rfl⟩
  rw [← hWv_8] at hR_6
  have h_9 := hIi.x5 (hR.vws5 hM_5)
  refine lv_iload_n hC.1 hC.2.1 dX5_open_12 rfl (lv_at hl 0 rfl) ?_
  exact x_iret hC hw dX5_open_13 (by omega) (by omega) ⟨z_3, _, _, rfl, by omega, by omega, (by rw [hWv_8, show (z_3).toNat = frN Wv by omega]), ((hR.vws5 hM_5)), hR_6⟩
set_option maxHeartbeats 4000000 in
set_option maxRecDepth 100000 in
theorem c_X5_head (l : Launch) (G : xG) {M : HM} {a va oa wa ya : Nat} {wk : Option Nat} {th : Int} {rfd : Int32} {br re la ha : Int} {kp kv : Int32} {qv qw : Nat → Nat} {fa fb : Nat → Option Nat} {V : BW} {O : OW} {fy : Nat → Option Nat} {Wv : VW} {wt : Option VT} {S : Nat → Bool} (hR : MGx G M a va oa wa ya wk th rfd br re la ha kp kv qv qw fa fb V O fy Wv wt S) {K : WA} (hK : abM O wt br re la ha K) {p0 : Int} (hp0 : -2147483648 ≤ p0 ∧ p0 ≤ 2147483647) {p1 : Int} (hp1 : -2147483648 ≤ p1 ∧ p1 ≤ 2147483647) {p2 : Int} (hp2 : -2147483648 ≤ p2 ∧ p2 ≤ 2147483647) (hb2 : p2 = 0 ∨ p2 = 1) : xMet l G yX5_head wsX5_head 3 66 1 5 [.ref a, .int (iN (p0)), .int (iN (p1)), .int (iN (p2))] M (fun r M1 => ∃ (z th1 : Int), r = some (.int (iN z)) ∧ (-2147483648 ≤ z ∧ z ≤ 2147483647) ∧ ((th1 = 0 ∧ ((0 ≤ p0 ∧ p0 ≤ 2) ∧ (0 ≤ p1 ∧ p1 ≤ 99) ∧ (frN Wv < 4)) ∧ z = A_head (O, V, Wv, K, kp, kv, rfd) p0 p1 p2 ∧ MGm G M1 a S th1 (S_head (O, V, Wv, K, kp, kv, rfd) p0 p1 p2)) ∨ (th1 ≠ 0 ∧ ((th1 = 1 ∧ ¬ (0 ≤ p0 ∧ p0 ≤ 2)) ∨ (th1 = 2 ∧ (0 ≤ p0 ∧ p0 ≤ 2) ∧ ¬ (0 ≤ p1 ∧ p1 ≤ 99)) ∨ (th1 = 3 ∧ (0 ≤ p0 ∧ p0 ≤ 2) ∧ (0 ≤ p1 ∧ p1 ≤ 99) ∧ ¬ (frN Wv < 4))) ∧ MGm G M1 a S th1 (O, V, Wv, K, kp, kv, rfd)))) := by
  refine x_intro (cc := cX5_head) (maxL := 4) (ret := (some .int)) (by decide +kernel) rfl (Nat.le_of_ble_eq_true rfl) ?_
  intro p e R s m args below meth c ls hRf hRc hRs hRl hC hw hl
  have hsc0 := hR.sc
  have hl : lv_has ls 4 [(0, .ref a), (1, .int (iN (p0))), (2, .int (iN (p1))), (3, .int (iN (p2)))] := hl
  refine lv_aload_n hC.1 hC.2.1 dX5_head_0 rfl (lv_at hl 0 rfl) ?_
  refine lv_iload_n hC.1 hC.2.1 dX5_head_1 rfl (lv_at hl 1 rfl) ?_
  refine lv_iload_n hC.1 hC.2.1 dX5_head_2 rfl (lv_at hl 2 rfl) ?_
  refine x_callV hC hw (lv_size hl) (c_X5_isBad l G hR (p0 := p0) (by omega) (p1 := p1) (by omega)) gX5_head_X5_isBad rfl dv_X5_isBad hR.1.1 rfl rfl (Nat.le_of_ble_eq_true rfl) (by rw [hRf]; decide) (by rw [hRl]; decide) (by omega) (by omega) dX5_head_3 (fun r9 M_1 H locs hq hw => ?_)
  obtain ⟨z_3, thk_2, rfl, hz_3a, hz_3b, hz_3c0, hz_3c1, hz_3c2, hx5k_2, hRk_2⟩ := hq
  have hsck_2 := hRk_2.sc
  show W p l e R s m args below meth c H locs _ _ _ (F0 m 6 ls [.int (iN (z_3))])
  refine x_if_ne (tgt := 32) hC ⟨by omega, by omega⟩ dX5_head_6 (by decide) (fun c_4 => ?_) (fun c_4 => ?_)
  · refine x_const hC dX5_head_32 ?_
    refine lv_goto (tgt := 68) hC.1 hC.2.1 dX5_head_33 (by decide) ?_
    exact x_iret hC hw dX5_head_68 (by omega) (by omega) ⟨0, _, rfl, by omega, Or.inr ⟨by omega, by omega, MGm.of hRk_2 hK⟩⟩
  · refine lv_aload_n hC.1 hC.2.1 dX5_head_9 rfl (lv_at hl 0 rfl) ?_
    refine lv_aload_n hC.1 hC.2.1 dX5_head_10 rfl (lv_at hl 0 rfl) ?_
    refine x_callV hC hw (lv_size hl) (c_X5_free l G hRk_2) gX5_head_X5_free rfl dv_X5_free hRk_2.1.1 rfl rfl (Nat.le_of_ble_eq_true rfl) (by rw [hRf]; decide) (by rw [hRl]; decide) (by omega) (by omega) dX5_head_11 (fun r9 M_5 H locs hq hw => ?_)
    obtain ⟨z_6, rfl, hM9, hz_6a, hz_6f⟩ := hq
    rw [hM9] at hw
    show W p l e R s m args below meth c H locs _ _ _ (F0 m 14 ls [.int (iN (z_6)), .ref a])
    refine x_sipush hC dX5_head_14 (by decide +kernel) ?_
    refine x_icmp_ne (tgt := 24) hC ⟨by omega, by omega⟩ ⟨by omega, by omega⟩ dX5_head_17 (by decide) (fun c_7 => ?_) (fun c_7 => ?_)
    · refine x_const hC dX5_head_24 ?_
      refine x_const hC dX5_head_25 ?_
      refine x_callV hC hw (lv_size hl) (c_X5_refuse l G hRk_2 (p0 := 0) (by omega) (p1 := 3) (by omega) (by omega)) gX5_head_X5_refuse rfl dv_X5_refuse hRk_2.1.1 rfl rfl (Nat.le_of_ble_eq_true rfl) (by rw [hRf]; decide) (by rw [hRl]; decide) (by omega) (by omega) dX5_head_26 (fun r9 M_8 H locs hq hw => ?_)
      obtain ⟨z_10, thk_9, rfl, hz_10a, hz_10b, hz_10c0, hz_10c1, hx5k_9, hRk_9⟩ := hq
      have hsck_9 := hRk_9.sc
      show W p l e R s m args below meth c H locs _ _ _ (F0 m 29 ls [.int (iN (z_10))])
      refine x_if_eq (tgt := 36) hC ⟨by omega, by omega⟩ dX5_head_29 (by decide) (fun c_11 => ?_) (fun c_11 => ?_)
      · refine lv_aload_n hC.1 hC.2.1 dX5_head_36 rfl (lv_at hl 0 rfl) ?_
        refine x_const hC dX5_head_37 ?_
        refine x_newI hC hw (by decide +kernel) 5 rfl (by decide) (by omega) (by omega) dX5_head_38 (fun q_12 H hq_13 hw => ?_)
        obtain ⟨M_14, hM_15⟩ : ∃ z, z = va_up M_8 q_12 (some (.inl (G.2 1, 5, .inl (fun _ => 0)))) := ⟨_, rfl⟩
        rw [← hM_15] at hw
        have hx_16 : xExt M_8 M_14 := by rw [hM_15]; exact xExt.new hq_13
        have hA_17 : M_14 q_12 = some (.inl (G.2 1, 5, .inl (fun _ => 0))) := by rw [hM_15, va_up_self]
        have h_18 := hRk_9.ext hx_16
        refine lv_dup hC.1 hC.2.1 dX5_head_40 rfl ?_
        refine x_const hC dX5_head_41 ?_
        refine lv_iload_n hC.1 hC.2.1 dX5_head_42 rfl (lv_at hl 1 rfl) ?_
        refine x_iast hC hw hA_17 (by omega) (by omega) (by omega) dX5_head_43 (fun H locs hw => ?_)
        obtain ⟨M_19, hM_20⟩ : ∃ z, z = va_up M_14 q_12 (some (.inl (G.2 1, 5, .inl (upd (fun _ => 0) (0 : Int).toNat (iN (p0)))))) := ⟨_, rfl⟩
        rw [← hM_20] at hw
        have hA_21 : M_19 q_12 = some (.inl (G.2 1, 5, .inl (upd (fun _ => 0) (0 : Int).toNat (iN (p0))))) := by rw [hM_20, va_up_self]
        have hx_22 := xExt.upd hq_13 hx_16 hM_20
        have h_23 := hRk_9.ext hx_22
        refine lv_dup hC.1 hC.2.1 dX5_head_44 rfl ?_
        refine x_const hC dX5_head_45 ?_
        refine x_sipush hC dX5_head_46 (by decide +kernel) ?_
        refine x_iast hC hw hA_21 (by omega) (by omega) (by omega) dX5_head_49 (fun H locs hw => ?_)
        obtain ⟨M_24, hM_25⟩ : ∃ z, z = va_up M_19 q_12 (some (.inl (G.2 1, 5, .inl (upd (upd (fun _ => 0) (0 : Int).toNat (iN (p0))) (1 : Int).toNat (iN ((-10000))))))) := ⟨_, rfl⟩
        rw [← hM_25] at hw
        have hA_26 : M_24 q_12 = some (.inl (G.2 1, 5, .inl (upd (upd (fun _ => 0) (0 : Int).toNat (iN (p0))) (1 : Int).toNat (iN ((-10000)))))) := by rw [hM_25, va_up_self]
        have hx_27 := xExt.upd hq_13 hx_22 hM_25
        have h_28 := hRk_9.ext hx_27
        refine lv_dup hC.1 hC.2.1 dX5_head_50 rfl ?_
        refine x_const hC dX5_head_51 ?_
        refine x_const hC dX5_head_52 ?_
        refine x_iast hC hw hA_26 (by omega) (by omega) (by omega) dX5_head_53 (fun H locs hw => ?_)
        obtain ⟨M_29, hM_30⟩ : ∃ z, z = va_up M_24 q_12 (some (.inl (G.2 1, 5, .inl (upd (upd (upd (fun _ => 0) (0 : Int).toNat (iN (p0))) (1 : Int).toNat (iN ((-10000)))) (2 : Int).toNat (iN (0)))))) := ⟨_, rfl⟩
        rw [← hM_30] at hw
        have hA_31 : M_29 q_12 = some (.inl (G.2 1, 5, .inl (upd (upd (upd (fun _ => 0) (0 : Int).toNat (iN (p0))) (1 : Int).toNat (iN ((-10000)))) (2 : Int).toNat (iN (0))))) := by rw [hM_30, va_up_self]
        have hx_32 := xExt.upd hq_13 hx_27 hM_30
        have h_33 := hRk_9.ext hx_32
        refine lv_dup hC.1 hC.2.1 dX5_head_54 rfl ?_
        refine x_const hC dX5_head_55 ?_
        refine lv_iload_n hC.1 hC.2.1 dX5_head_56 rfl (lv_at hl 2 rfl) ?_
        refine x_iast hC hw hA_31 (by omega) (by omega) (by omega) dX5_head_57 (fun H locs hw => ?_)
        obtain ⟨M_34, hM_35⟩ : ∃ z, z = va_up M_29 q_12 (some (.inl (G.2 1, 5, .inl (upd (upd (upd (upd (fun _ => 0) (0 : Int).toNat (iN (p0))) (1 : Int).toNat (iN ((-10000)))) (2 : Int).toNat (iN (0))) (3 : Int).toNat (iN (p1)))))) := ⟨_, rfl⟩
        rw [← hM_35] at hw
        have hA_36 : M_34 q_12 = some (.inl (G.2 1, 5, .inl (upd (upd (upd (upd (fun _ => 0) (0 : Int).toNat (iN (p0))) (1 : Int).toNat (iN ((-10000)))) (2 : Int).toNat (iN (0))) (3 : Int).toNat (iN (p1))))) := by rw [hM_35, va_up_self]
        have hx_37 := xExt.upd hq_13 hx_32 hM_35
        have h_38 := hRk_9.ext hx_37
        refine lv_dup hC.1 hC.2.1 dX5_head_58 rfl ?_
        refine x_const hC dX5_head_59 ?_
        refine lv_iload_n hC.1 hC.2.1 dX5_head_60 rfl (lv_at hl 3 rfl) ?_
        refine x_callS hC hw (lv_size hl) (c_X5_one l G (M := M_34) (p0 := p2) (by omega)) gX5_head_X5_one rfl dv_X5_one_s rfl (Nat.le_of_ble_eq_true rfl) (by rw [hRf]; decide) (by rw [hRl]; decide) (by omega) (by omega) dX5_head_61 (fun r9 M_39 H locs hq hw => ?_)
        obtain ⟨z_40, rfl, hM9, hz_40a, hz_40b⟩ := hq
        rw [hM9] at hw
        show W p l e R s m args below meth c H locs _ _ _ (F0 m 64 ls [.int (iN (z_40)), .int (iN (4)), .ref q_12, .ref q_12, .ref a])
        refine x_iast hC hw hA_36 (by omega) (by omega) (by omega) dX5_head_64 (fun H locs hw => ?_)
        obtain ⟨M_41, hM_42⟩ : ∃ z, z = va_up M_34 q_12 (some (.inl (G.2 1, 5, .inl (upd (upd (upd (upd (upd (fun _ => 0) (0 : Int).toNat (iN (p0))) (1 : Int).toNat (iN ((-10000)))) (2 : Int).toNat (iN (0))) (3 : Int).toNat (iN (p1))) (4 : Int).toNat (iN (z_40)))))) := ⟨_, rfl⟩
        rw [← hM_42] at hw
        have hA_43 : M_41 q_12 = some (.inl (G.2 1, 5, .inl (upd (upd (upd (upd (upd (fun _ => 0) (0 : Int).toNat (iN (p0))) (1 : Int).toNat (iN ((-10000)))) (2 : Int).toNat (iN (0))) (3 : Int).toNat (iN (p1))) (4 : Int).toNat (iN (z_40))))) := by rw [hM_42, va_up_self]
        have hx_44 := xExt.upd hq_13 hx_37 hM_42
        have h_45 := hRk_9.ext hx_44
        have hI_46 : Its G M_41 q_12 (upd (upd (upd (upd (upd (fun _ => 0) (0 : Int).toNat (iN (p0))) (1 : Int).toNat (iN ((-10000)))) (2 : Int).toNat (iN (0))) (3 : Int).toNat (iN (p1))) (4 : Int).toNat (iN (z_40))) ((p0).toNat, (-10000), p1, 0, p2) := ⟨hA_43, ⟨(show (p0).toNat < 3 by omega), (show (-10000) = -10000 ∨ (0 ≤ (-10000) ∧ (-10000) ≤ 99) by omega), (show p1 = -10000 ∨ (0 ≤ p1 ∧ p1 ≤ 99) by omega), (show 0 = 0 ∨ 0 = 1 by omega), (show p2 = 0 ∨ p2 = 1 by omega)⟩, (show iN (p0) = iN _ by rw [show p0 = (((p0).toNat : Nat) : Int) by omega]), rfl, rfl, rfl, (show iN (z_40) = iN _ by rw [show z_40 = p2 by omega])⟩
        refine x_callV hC hw (lv_size hl) (c_X5_open l G h_45 hI_46 (by omega)) gX5_head_X5_open rfl dv_X5_open h_45.1.1 rfl rfl (Nat.le_of_ble_eq_true rfl) (by rw [hRf]; decide) (by rw [hRl]; decide) (by omega) (by omega) dX5_head_65 (fun r9 M_47 H locs hq hw => ?_)
        obtain ⟨z_49, fyk_48, Wvk_48, rfl, hz_49a, hz_49f, he0k_48, hx5k_48, hRk_48⟩ := hq
        have h_50 := hI_46.x5 hx5k_48
        have hsck_48 := hRk_48.sc
        show W p l e R s m args below meth c H locs _ _ _ (F0 m 68 ls [.int (iN (z_49))])
        exact x_iret hC hw dX5_head_68 (by omega) (by omega) ⟨z_49, _, rfl, by omega, Or.inl ⟨by omega, by first | trivial | omega, hz_49f, (by have e9 := hRk_48; rw [he0k_48] at e9; exact MGm.of e9 hK)⟩⟩
      · refine x_const hC dX5_head_32 ?_
        refine lv_goto (tgt := 68) hC.1 hC.2.1 dX5_head_33 (by decide) ?_
        exact x_iret hC hw dX5_head_68 (by omega) (by omega) ⟨0, _, rfl, by omega, Or.inr ⟨by omega, by omega, MGm.of hRk_9 hK⟩⟩
    · refine x_const hC dX5_head_20 ?_
      refine lv_goto (tgt := 25) hC.1 hC.2.1 dX5_head_21 (by decide) ?_
      refine x_const hC dX5_head_25 ?_
      refine x_callV hC hw (lv_size hl) (c_X5_refuse l G hRk_2 (p0 := 1) (by omega) (p1 := 3) (by omega) (by omega)) gX5_head_X5_refuse rfl dv_X5_refuse hRk_2.1.1 rfl rfl (Nat.le_of_ble_eq_true rfl) (by rw [hRf]; decide) (by rw [hRl]; decide) (by omega) (by omega) dX5_head_26 (fun r9 M_51 H locs hq hw => ?_)
      obtain ⟨z_53, thk_52, rfl, hz_53a, hz_53b, hz_53c0, hz_53c1, hx5k_52, hRk_52⟩ := hq
      have hsck_52 := hRk_52.sc
      show W p l e R s m args below meth c H locs _ _ _ (F0 m 29 ls [.int (iN (z_53))])
      refine x_if_eq (tgt := 36) hC ⟨by omega, by omega⟩ dX5_head_29 (by decide) (fun c_54 => ?_) (fun c_54 => ?_)
      · refine lv_aload_n hC.1 hC.2.1 dX5_head_36 rfl (lv_at hl 0 rfl) ?_
        refine x_const hC dX5_head_37 ?_
        refine x_newI hC hw (by decide +kernel) 5 rfl (by decide) (by omega) (by omega) dX5_head_38 (fun q_55 H hq_56 hw => ?_)
        obtain ⟨M_57, hM_58⟩ : ∃ z, z = va_up M_51 q_55 (some (.inl (G.2 1, 5, .inl (fun _ => 0)))) := ⟨_, rfl⟩
        rw [← hM_58] at hw
        have hx_59 : xExt M_51 M_57 := by rw [hM_58]; exact xExt.new hq_56
        have hA_60 : M_57 q_55 = some (.inl (G.2 1, 5, .inl (fun _ => 0))) := by rw [hM_58, va_up_self]
        have h_61 := hRk_52.ext hx_59
        refine lv_dup hC.1 hC.2.1 dX5_head_40 rfl ?_
        refine x_const hC dX5_head_41 ?_
        refine lv_iload_n hC.1 hC.2.1 dX5_head_42 rfl (lv_at hl 1 rfl) ?_
        refine x_iast hC hw hA_60 (by omega) (by omega) (by omega) dX5_head_43 (fun H locs hw => ?_)
        obtain ⟨M_62, hM_63⟩ : ∃ z, z = va_up M_57 q_55 (some (.inl (G.2 1, 5, .inl (upd (fun _ => 0) (0 : Int).toNat (iN (p0)))))) := ⟨_, rfl⟩
        rw [← hM_63] at hw
        have hA_64 : M_62 q_55 = some (.inl (G.2 1, 5, .inl (upd (fun _ => 0) (0 : Int).toNat (iN (p0))))) := by rw [hM_63, va_up_self]
        have hx_65 := xExt.upd hq_56 hx_59 hM_63
        have h_66 := hRk_52.ext hx_65
        refine lv_dup hC.1 hC.2.1 dX5_head_44 rfl ?_
        refine x_const hC dX5_head_45 ?_
        refine x_sipush hC dX5_head_46 (by decide +kernel) ?_
        refine x_iast hC hw hA_64 (by omega) (by omega) (by omega) dX5_head_49 (fun H locs hw => ?_)
        obtain ⟨M_67, hM_68⟩ : ∃ z, z = va_up M_62 q_55 (some (.inl (G.2 1, 5, .inl (upd (upd (fun _ => 0) (0 : Int).toNat (iN (p0))) (1 : Int).toNat (iN ((-10000))))))) := ⟨_, rfl⟩
        rw [← hM_68] at hw
        have hA_69 : M_67 q_55 = some (.inl (G.2 1, 5, .inl (upd (upd (fun _ => 0) (0 : Int).toNat (iN (p0))) (1 : Int).toNat (iN ((-10000)))))) := by rw [hM_68, va_up_self]
        have hx_70 := xExt.upd hq_56 hx_65 hM_68
        have h_71 := hRk_52.ext hx_70
        refine lv_dup hC.1 hC.2.1 dX5_head_50 rfl ?_
        refine x_const hC dX5_head_51 ?_
        refine x_const hC dX5_head_52 ?_
        refine x_iast hC hw hA_69 (by omega) (by omega) (by omega) dX5_head_53 (fun H locs hw => ?_)
        obtain ⟨M_72, hM_73⟩ : ∃ z, z = va_up M_67 q_55 (some (.inl (G.2 1, 5, .inl (upd (upd (upd (fun _ => 0) (0 : Int).toNat (iN (p0))) (1 : Int).toNat (iN ((-10000)))) (2 : Int).toNat (iN (0)))))) := ⟨_, rfl⟩
        rw [← hM_73] at hw
        have hA_74 : M_72 q_55 = some (.inl (G.2 1, 5, .inl (upd (upd (upd (fun _ => 0) (0 : Int).toNat (iN (p0))) (1 : Int).toNat (iN ((-10000)))) (2 : Int).toNat (iN (0))))) := by rw [hM_73, va_up_self]
        have hx_75 := xExt.upd hq_56 hx_70 hM_73
        have h_76 := hRk_52.ext hx_75
        refine lv_dup hC.1 hC.2.1 dX5_head_54 rfl ?_
        refine x_const hC dX5_head_55 ?_
        refine lv_iload_n hC.1 hC.2.1 dX5_head_56 rfl (lv_at hl 2 rfl) ?_
        refine x_iast hC hw hA_74 (by omega) (by omega) (by omega) dX5_head_57 (fun H locs hw => ?_)
        obtain ⟨M_77, hM_78⟩ : ∃ z, z = va_up M_72 q_55 (some (.inl (G.2 1, 5, .inl (upd (upd (upd (upd (fun _ => 0) (0 : Int).toNat (iN (p0))) (1 : Int).toNat (iN ((-10000)))) (2 : Int).toNat (iN (0))) (3 : Int).toNat (iN (p1)))))) := ⟨_, rfl⟩
        rw [← hM_78] at hw
        have hA_79 : M_77 q_55 = some (.inl (G.2 1, 5, .inl (upd (upd (upd (upd (fun _ => 0) (0 : Int).toNat (iN (p0))) (1 : Int).toNat (iN ((-10000)))) (2 : Int).toNat (iN (0))) (3 : Int).toNat (iN (p1))))) := by rw [hM_78, va_up_self]
        have hx_80 := xExt.upd hq_56 hx_75 hM_78
        have h_81 := hRk_52.ext hx_80
        refine lv_dup hC.1 hC.2.1 dX5_head_58 rfl ?_
        refine x_const hC dX5_head_59 ?_
        refine lv_iload_n hC.1 hC.2.1 dX5_head_60 rfl (lv_at hl 3 rfl) ?_
        refine x_callS hC hw (lv_size hl) (c_X5_one l G (M := M_77) (p0 := p2) (by omega)) gX5_head_X5_one rfl dv_X5_one_s rfl (Nat.le_of_ble_eq_true rfl) (by rw [hRf]; decide) (by rw [hRl]; decide) (by omega) (by omega) dX5_head_61 (fun r9 M_82 H locs hq hw => ?_)
        obtain ⟨z_83, rfl, hM9, hz_83a, hz_83b⟩ := hq
        rw [hM9] at hw
        show W p l e R s m args below meth c H locs _ _ _ (F0 m 64 ls [.int (iN (z_83)), .int (iN (4)), .ref q_55, .ref q_55, .ref a])
        refine x_iast hC hw hA_79 (by omega) (by omega) (by omega) dX5_head_64 (fun H locs hw => ?_)
        obtain ⟨M_84, hM_85⟩ : ∃ z, z = va_up M_77 q_55 (some (.inl (G.2 1, 5, .inl (upd (upd (upd (upd (upd (fun _ => 0) (0 : Int).toNat (iN (p0))) (1 : Int).toNat (iN ((-10000)))) (2 : Int).toNat (iN (0))) (3 : Int).toNat (iN (p1))) (4 : Int).toNat (iN (z_83)))))) := ⟨_, rfl⟩
        rw [← hM_85] at hw
        have hA_86 : M_84 q_55 = some (.inl (G.2 1, 5, .inl (upd (upd (upd (upd (upd (fun _ => 0) (0 : Int).toNat (iN (p0))) (1 : Int).toNat (iN ((-10000)))) (2 : Int).toNat (iN (0))) (3 : Int).toNat (iN (p1))) (4 : Int).toNat (iN (z_83))))) := by rw [hM_85, va_up_self]
        have hx_87 := xExt.upd hq_56 hx_80 hM_85
        have h_88 := hRk_52.ext hx_87
        have hI_89 : Its G M_84 q_55 (upd (upd (upd (upd (upd (fun _ => 0) (0 : Int).toNat (iN (p0))) (1 : Int).toNat (iN ((-10000)))) (2 : Int).toNat (iN (0))) (3 : Int).toNat (iN (p1))) (4 : Int).toNat (iN (z_83))) ((p0).toNat, (-10000), p1, 0, p2) := ⟨hA_86, ⟨(show (p0).toNat < 3 by omega), (show (-10000) = -10000 ∨ (0 ≤ (-10000) ∧ (-10000) ≤ 99) by omega), (show p1 = -10000 ∨ (0 ≤ p1 ∧ p1 ≤ 99) by omega), (show 0 = 0 ∨ 0 = 1 by omega), (show p2 = 0 ∨ p2 = 1 by omega)⟩, (show iN (p0) = iN _ by rw [show p0 = (((p0).toNat : Nat) : Int) by omega]), rfl, rfl, rfl, (show iN (z_83) = iN _ by rw [show z_83 = p2 by omega])⟩
        refine x_callV hC hw (lv_size hl) (c_X5_open l G h_88 hI_89 (by omega)) gX5_head_X5_open rfl dv_X5_open h_88.1.1 rfl rfl (Nat.le_of_ble_eq_true rfl) (by rw [hRf]; decide) (by rw [hRl]; decide) (by omega) (by omega) dX5_head_65 (fun r9 M_90 H locs hq hw => ?_)
        obtain ⟨z_92, fyk_91, Wvk_91, rfl, hz_92a, hz_92f, he0k_91, hx5k_91, hRk_91⟩ := hq
        have h_93 := hI_89.x5 hx5k_91
        have hsck_91 := hRk_91.sc
        show W p l e R s m args below meth c H locs _ _ _ (F0 m 68 ls [.int (iN (z_92))])
        exact x_iret hC hw dX5_head_68 (by omega) (by omega) ⟨z_92, _, rfl, by omega, Or.inl ⟨by omega, by first | trivial | omega, hz_92f, (by have e9 := hRk_91; rw [he0k_91] at e9; exact MGm.of e9 hK)⟩⟩
      · refine x_const hC dX5_head_32 ?_
        refine lv_goto (tgt := 68) hC.1 hC.2.1 dX5_head_33 (by decide) ?_
        exact x_iret hC hw dX5_head_68 (by omega) (by omega) ⟨0, _, rfl, by omega, Or.inr ⟨by omega, by omega, MGm.of hRk_52 hK⟩⟩
set_option maxHeartbeats 4000000 in
set_option maxRecDepth 100000 in
theorem c_X5_tail (l : Launch) (G : xG) {M : HM} {a va oa wa ya : Nat} {wk : Option Nat} {th : Int} {rfd : Int32} {br re la ha : Int} {kp kv : Int32} {qv qw : Nat → Nat} {fa fb : Nat → Option Nat} {V : BW} {O : OW} {fy : Nat → Option Nat} {Wv : VW} {wt : Option VT} {S : Nat → Bool} (hR : MGx G M a va oa wa ya wk th rfd br re la ha kp kv qv qw fa fb V O fy Wv wt S) {K : WA} (hK : abM O wt br re la ha K) {p0 : Int} (hp0 : -2147483648 ≤ p0 ∧ p0 ≤ 2147483647) {p1 : Int} (hp1 : -2147483648 ≤ p1 ∧ p1 ≤ 2147483647) {p2 : Int} (hp2 : -2147483648 ≤ p2 ∧ p2 ≤ 2147483647) (hb2 : p2 = 0 ∨ p2 = 1) : xMet l G yX5_tail wsX5_tail 3 66 1 5 [.ref a, .int (iN (p0)), .int (iN (p1)), .int (iN (p2))] M (fun r M1 => ∃ (z th1 : Int), r = some (.int (iN z)) ∧ (-2147483648 ≤ z ∧ z ≤ 2147483647) ∧ ((th1 = 0 ∧ ((0 ≤ p0 ∧ p0 ≤ 2) ∧ (0 ≤ p1 ∧ p1 ≤ 99) ∧ (frN Wv < 4)) ∧ z = A_tail (O, V, Wv, K, kp, kv, rfd) p0 p1 p2 ∧ MGm G M1 a S th1 (S_tail (O, V, Wv, K, kp, kv, rfd) p0 p1 p2)) ∨ (th1 ≠ 0 ∧ ((th1 = 1 ∧ ¬ (0 ≤ p0 ∧ p0 ≤ 2)) ∨ (th1 = 2 ∧ (0 ≤ p0 ∧ p0 ≤ 2) ∧ ¬ (0 ≤ p1 ∧ p1 ≤ 99)) ∨ (th1 = 3 ∧ (0 ≤ p0 ∧ p0 ≤ 2) ∧ (0 ≤ p1 ∧ p1 ≤ 99) ∧ ¬ (frN Wv < 4))) ∧ MGm G M1 a S th1 (O, V, Wv, K, kp, kv, rfd)))) := by
  refine x_intro (cc := cX5_tail) (maxL := 4) (ret := (some .int)) (by decide +kernel) rfl (Nat.le_of_ble_eq_true rfl) ?_
  intro p e R s m args below meth c ls hRf hRc hRs hRl hC hw hl
  have hsc0 := hR.sc
  have hl : lv_has ls 4 [(0, .ref a), (1, .int (iN (p0))), (2, .int (iN (p1))), (3, .int (iN (p2)))] := hl
  refine lv_aload_n hC.1 hC.2.1 dX5_tail_0 rfl (lv_at hl 0 rfl) ?_
  refine lv_iload_n hC.1 hC.2.1 dX5_tail_1 rfl (lv_at hl 1 rfl) ?_
  refine lv_iload_n hC.1 hC.2.1 dX5_tail_2 rfl (lv_at hl 2 rfl) ?_
  refine x_callV hC hw (lv_size hl) (c_X5_isBad l G hR (p0 := p0) (by omega) (p1 := p1) (by omega)) gX5_tail_X5_isBad rfl dv_X5_isBad hR.1.1 rfl rfl (Nat.le_of_ble_eq_true rfl) (by rw [hRf]; decide) (by rw [hRl]; decide) (by omega) (by omega) dX5_tail_3 (fun r9 M_1 H locs hq hw => ?_)
  obtain ⟨z_3, thk_2, rfl, hz_3a, hz_3b, hz_3c0, hz_3c1, hz_3c2, hx5k_2, hRk_2⟩ := hq
  have hsck_2 := hRk_2.sc
  show W p l e R s m args below meth c H locs _ _ _ (F0 m 6 ls [.int (iN (z_3))])
  refine x_if_ne (tgt := 32) hC ⟨by omega, by omega⟩ dX5_tail_6 (by decide) (fun c_4 => ?_) (fun c_4 => ?_)
  · refine x_const hC dX5_tail_32 ?_
    refine lv_goto (tgt := 68) hC.1 hC.2.1 dX5_tail_33 (by decide) ?_
    exact x_iret hC hw dX5_tail_68 (by omega) (by omega) ⟨0, _, rfl, by omega, Or.inr ⟨by omega, by omega, MGm.of hRk_2 hK⟩⟩
  · refine lv_aload_n hC.1 hC.2.1 dX5_tail_9 rfl (lv_at hl 0 rfl) ?_
    refine lv_aload_n hC.1 hC.2.1 dX5_tail_10 rfl (lv_at hl 0 rfl) ?_
    refine x_callV hC hw (lv_size hl) (c_X5_free l G hRk_2) gX5_tail_X5_free rfl dv_X5_free hRk_2.1.1 rfl rfl (Nat.le_of_ble_eq_true rfl) (by rw [hRf]; decide) (by rw [hRl]; decide) (by omega) (by omega) dX5_tail_11 (fun r9 M_5 H locs hq hw => ?_)
    obtain ⟨z_6, rfl, hM9, hz_6a, hz_6f⟩ := hq
    rw [hM9] at hw
    show W p l e R s m args below meth c H locs _ _ _ (F0 m 14 ls [.int (iN (z_6)), .ref a])
    refine x_sipush hC dX5_tail_14 (by decide +kernel) ?_
    refine x_icmp_ne (tgt := 24) hC ⟨by omega, by omega⟩ ⟨by omega, by omega⟩ dX5_tail_17 (by decide) (fun c_7 => ?_) (fun c_7 => ?_)
    · refine x_const hC dX5_tail_24 ?_
      refine x_const hC dX5_tail_25 ?_
      refine x_callV hC hw (lv_size hl) (c_X5_refuse l G hRk_2 (p0 := 0) (by omega) (p1 := 3) (by omega) (by omega)) gX5_tail_X5_refuse rfl dv_X5_refuse hRk_2.1.1 rfl rfl (Nat.le_of_ble_eq_true rfl) (by rw [hRf]; decide) (by rw [hRl]; decide) (by omega) (by omega) dX5_tail_26 (fun r9 M_8 H locs hq hw => ?_)
      obtain ⟨z_10, thk_9, rfl, hz_10a, hz_10b, hz_10c0, hz_10c1, hx5k_9, hRk_9⟩ := hq
      have hsck_9 := hRk_9.sc
      show W p l e R s m args below meth c H locs _ _ _ (F0 m 29 ls [.int (iN (z_10))])
      refine x_if_eq (tgt := 36) hC ⟨by omega, by omega⟩ dX5_tail_29 (by decide) (fun c_11 => ?_) (fun c_11 => ?_)
      · refine lv_aload_n hC.1 hC.2.1 dX5_tail_36 rfl (lv_at hl 0 rfl) ?_
        refine x_const hC dX5_tail_37 ?_
        refine x_newI hC hw (by decide +kernel) 5 rfl (by decide) (by omega) (by omega) dX5_tail_38 (fun q_12 H hq_13 hw => ?_)
        obtain ⟨M_14, hM_15⟩ : ∃ z, z = va_up M_8 q_12 (some (.inl (G.2 1, 5, .inl (fun _ => 0)))) := ⟨_, rfl⟩
        rw [← hM_15] at hw
        have hx_16 : xExt M_8 M_14 := by rw [hM_15]; exact xExt.new hq_13
        have hA_17 : M_14 q_12 = some (.inl (G.2 1, 5, .inl (fun _ => 0))) := by rw [hM_15, va_up_self]
        have h_18 := hRk_9.ext hx_16
        refine lv_dup hC.1 hC.2.1 dX5_tail_40 rfl ?_
        refine x_const hC dX5_tail_41 ?_
        refine lv_iload_n hC.1 hC.2.1 dX5_tail_42 rfl (lv_at hl 1 rfl) ?_
        refine x_iast hC hw hA_17 (by omega) (by omega) (by omega) dX5_tail_43 (fun H locs hw => ?_)
        obtain ⟨M_19, hM_20⟩ : ∃ z, z = va_up M_14 q_12 (some (.inl (G.2 1, 5, .inl (upd (fun _ => 0) (0 : Int).toNat (iN (p0)))))) := ⟨_, rfl⟩
        rw [← hM_20] at hw
        have hA_21 : M_19 q_12 = some (.inl (G.2 1, 5, .inl (upd (fun _ => 0) (0 : Int).toNat (iN (p0))))) := by rw [hM_20, va_up_self]
        have hx_22 := xExt.upd hq_13 hx_16 hM_20
        have h_23 := hRk_9.ext hx_22
        refine lv_dup hC.1 hC.2.1 dX5_tail_44 rfl ?_
        refine x_const hC dX5_tail_45 ?_
        refine lv_iload_n hC.1 hC.2.1 dX5_tail_46 rfl (lv_at hl 2 rfl) ?_
        refine x_iast hC hw hA_21 (by omega) (by omega) (by omega) dX5_tail_47 (fun H locs hw => ?_)
        obtain ⟨M_24, hM_25⟩ : ∃ z, z = va_up M_19 q_12 (some (.inl (G.2 1, 5, .inl (upd (upd (fun _ => 0) (0 : Int).toNat (iN (p0))) (1 : Int).toNat (iN (p1)))))) := ⟨_, rfl⟩
        rw [← hM_25] at hw
        have hA_26 : M_24 q_12 = some (.inl (G.2 1, 5, .inl (upd (upd (fun _ => 0) (0 : Int).toNat (iN (p0))) (1 : Int).toNat (iN (p1))))) := by rw [hM_25, va_up_self]
        have hx_27 := xExt.upd hq_13 hx_22 hM_25
        have h_28 := hRk_9.ext hx_27
        refine lv_dup hC.1 hC.2.1 dX5_tail_48 rfl ?_
        refine x_const hC dX5_tail_49 ?_
        refine lv_iload_n hC.1 hC.2.1 dX5_tail_50 rfl (lv_at hl 3 rfl) ?_
        refine x_callS hC hw (lv_size hl) (c_X5_one l G (M := M_24) (p0 := p2) (by omega)) gX5_tail_X5_one rfl dv_X5_one_s rfl (Nat.le_of_ble_eq_true rfl) (by rw [hRf]; decide) (by rw [hRl]; decide) (by omega) (by omega) dX5_tail_51 (fun r9 M_29 H locs hq hw => ?_)
        obtain ⟨z_30, rfl, hM9, hz_30a, hz_30b⟩ := hq
        rw [hM9] at hw
        show W p l e R s m args below meth c H locs _ _ _ (F0 m 54 ls [.int (iN (z_30)), .int (iN (2)), .ref q_12, .ref q_12, .ref a])
        refine x_iast hC hw hA_26 (by omega) (by omega) (by omega) dX5_tail_54 (fun H locs hw => ?_)
        obtain ⟨M_31, hM_32⟩ : ∃ z, z = va_up M_24 q_12 (some (.inl (G.2 1, 5, .inl (upd (upd (upd (fun _ => 0) (0 : Int).toNat (iN (p0))) (1 : Int).toNat (iN (p1))) (2 : Int).toNat (iN (z_30)))))) := ⟨_, rfl⟩
        rw [← hM_32] at hw
        have hA_33 : M_31 q_12 = some (.inl (G.2 1, 5, .inl (upd (upd (upd (fun _ => 0) (0 : Int).toNat (iN (p0))) (1 : Int).toNat (iN (p1))) (2 : Int).toNat (iN (z_30))))) := by rw [hM_32, va_up_self]
        have hx_34 := xExt.upd hq_13 hx_27 hM_32
        have h_35 := hRk_9.ext hx_34
        refine lv_dup hC.1 hC.2.1 dX5_tail_55 rfl ?_
        refine x_const hC dX5_tail_56 ?_
        refine x_sipush hC dX5_tail_57 (by decide +kernel) ?_
        refine x_iast hC hw hA_33 (by omega) (by omega) (by omega) dX5_tail_60 (fun H locs hw => ?_)
        obtain ⟨M_36, hM_37⟩ : ∃ z, z = va_up M_31 q_12 (some (.inl (G.2 1, 5, .inl (upd (upd (upd (upd (fun _ => 0) (0 : Int).toNat (iN (p0))) (1 : Int).toNat (iN (p1))) (2 : Int).toNat (iN (z_30))) (3 : Int).toNat (iN ((-10000))))))) := ⟨_, rfl⟩
        rw [← hM_37] at hw
        have hA_38 : M_36 q_12 = some (.inl (G.2 1, 5, .inl (upd (upd (upd (upd (fun _ => 0) (0 : Int).toNat (iN (p0))) (1 : Int).toNat (iN (p1))) (2 : Int).toNat (iN (z_30))) (3 : Int).toNat (iN ((-10000)))))) := by rw [hM_37, va_up_self]
        have hx_39 := xExt.upd hq_13 hx_34 hM_37
        have h_40 := hRk_9.ext hx_39
        refine lv_dup hC.1 hC.2.1 dX5_tail_61 rfl ?_
        refine x_const hC dX5_tail_62 ?_
        refine x_const hC dX5_tail_63 ?_
        refine x_iast hC hw hA_38 (by omega) (by omega) (by omega) dX5_tail_64 (fun H locs hw => ?_)
        obtain ⟨M_41, hM_42⟩ : ∃ z, z = va_up M_36 q_12 (some (.inl (G.2 1, 5, .inl (upd (upd (upd (upd (upd (fun _ => 0) (0 : Int).toNat (iN (p0))) (1 : Int).toNat (iN (p1))) (2 : Int).toNat (iN (z_30))) (3 : Int).toNat (iN ((-10000)))) (4 : Int).toNat (iN (0)))))) := ⟨_, rfl⟩
        rw [← hM_42] at hw
        have hA_43 : M_41 q_12 = some (.inl (G.2 1, 5, .inl (upd (upd (upd (upd (upd (fun _ => 0) (0 : Int).toNat (iN (p0))) (1 : Int).toNat (iN (p1))) (2 : Int).toNat (iN (z_30))) (3 : Int).toNat (iN ((-10000)))) (4 : Int).toNat (iN (0))))) := by rw [hM_42, va_up_self]
        have hx_44 := xExt.upd hq_13 hx_39 hM_42
        have h_45 := hRk_9.ext hx_44
        have hI_46 : Its G M_41 q_12 (upd (upd (upd (upd (upd (fun _ => 0) (0 : Int).toNat (iN (p0))) (1 : Int).toNat (iN (p1))) (2 : Int).toNat (iN (z_30))) (3 : Int).toNat (iN ((-10000)))) (4 : Int).toNat (iN (0))) ((p0).toNat, p1, (-10000), p2, 0) := ⟨hA_43, ⟨(show (p0).toNat < 3 by omega), (show p1 = -10000 ∨ (0 ≤ p1 ∧ p1 ≤ 99) by omega), (show (-10000) = -10000 ∨ (0 ≤ (-10000) ∧ (-10000) ≤ 99) by omega), (show p2 = 0 ∨ p2 = 1 by omega), (show 0 = 0 ∨ 0 = 1 by omega)⟩, (show iN (p0) = iN _ by rw [show p0 = (((p0).toNat : Nat) : Int) by omega]), rfl, (show iN (z_30) = iN _ by rw [show z_30 = p2 by omega]), rfl, rfl⟩
        refine x_callV hC hw (lv_size hl) (c_X5_open l G h_45 hI_46 (by omega)) gX5_tail_X5_open rfl dv_X5_open h_45.1.1 rfl rfl (Nat.le_of_ble_eq_true rfl) (by rw [hRf]; decide) (by rw [hRl]; decide) (by omega) (by omega) dX5_tail_65 (fun r9 M_47 H locs hq hw => ?_)
        obtain ⟨z_49, fyk_48, Wvk_48, rfl, hz_49a, hz_49f, he0k_48, hx5k_48, hRk_48⟩ := hq
        have h_50 := hI_46.x5 hx5k_48
        have hsck_48 := hRk_48.sc
        show W p l e R s m args below meth c H locs _ _ _ (F0 m 68 ls [.int (iN (z_49))])
        exact x_iret hC hw dX5_tail_68 (by omega) (by omega) ⟨z_49, _, rfl, by omega, Or.inl ⟨by omega, by first | trivial | omega, hz_49f, (by have e9 := hRk_48; rw [he0k_48] at e9; exact MGm.of e9 hK)⟩⟩
      · refine x_const hC dX5_tail_32 ?_
        refine lv_goto (tgt := 68) hC.1 hC.2.1 dX5_tail_33 (by decide) ?_
        exact x_iret hC hw dX5_tail_68 (by omega) (by omega) ⟨0, _, rfl, by omega, Or.inr ⟨by omega, by omega, MGm.of hRk_9 hK⟩⟩
    · refine x_const hC dX5_tail_20 ?_
      refine lv_goto (tgt := 25) hC.1 hC.2.1 dX5_tail_21 (by decide) ?_
      refine x_const hC dX5_tail_25 ?_
      refine x_callV hC hw (lv_size hl) (c_X5_refuse l G hRk_2 (p0 := 1) (by omega) (p1 := 3) (by omega) (by omega)) gX5_tail_X5_refuse rfl dv_X5_refuse hRk_2.1.1 rfl rfl (Nat.le_of_ble_eq_true rfl) (by rw [hRf]; decide) (by rw [hRl]; decide) (by omega) (by omega) dX5_tail_26 (fun r9 M_51 H locs hq hw => ?_)
      obtain ⟨z_53, thk_52, rfl, hz_53a, hz_53b, hz_53c0, hz_53c1, hx5k_52, hRk_52⟩ := hq
      have hsck_52 := hRk_52.sc
      show W p l e R s m args below meth c H locs _ _ _ (F0 m 29 ls [.int (iN (z_53))])
      refine x_if_eq (tgt := 36) hC ⟨by omega, by omega⟩ dX5_tail_29 (by decide) (fun c_54 => ?_) (fun c_54 => ?_)
      · refine lv_aload_n hC.1 hC.2.1 dX5_tail_36 rfl (lv_at hl 0 rfl) ?_
        refine x_const hC dX5_tail_37 ?_
        refine x_newI hC hw (by decide +kernel) 5 rfl (by decide) (by omega) (by omega) dX5_tail_38 (fun q_55 H hq_56 hw => ?_)
        obtain ⟨M_57, hM_58⟩ : ∃ z, z = va_up M_51 q_55 (some (.inl (G.2 1, 5, .inl (fun _ => 0)))) := ⟨_, rfl⟩
        rw [← hM_58] at hw
        have hx_59 : xExt M_51 M_57 := by rw [hM_58]; exact xExt.new hq_56
        have hA_60 : M_57 q_55 = some (.inl (G.2 1, 5, .inl (fun _ => 0))) := by rw [hM_58, va_up_self]
        have h_61 := hRk_52.ext hx_59
        refine lv_dup hC.1 hC.2.1 dX5_tail_40 rfl ?_
        refine x_const hC dX5_tail_41 ?_
        refine lv_iload_n hC.1 hC.2.1 dX5_tail_42 rfl (lv_at hl 1 rfl) ?_
        refine x_iast hC hw hA_60 (by omega) (by omega) (by omega) dX5_tail_43 (fun H locs hw => ?_)
        obtain ⟨M_62, hM_63⟩ : ∃ z, z = va_up M_57 q_55 (some (.inl (G.2 1, 5, .inl (upd (fun _ => 0) (0 : Int).toNat (iN (p0)))))) := ⟨_, rfl⟩
        rw [← hM_63] at hw
        have hA_64 : M_62 q_55 = some (.inl (G.2 1, 5, .inl (upd (fun _ => 0) (0 : Int).toNat (iN (p0))))) := by rw [hM_63, va_up_self]
        have hx_65 := xExt.upd hq_56 hx_59 hM_63
        have h_66 := hRk_52.ext hx_65
        refine lv_dup hC.1 hC.2.1 dX5_tail_44 rfl ?_
        refine x_const hC dX5_tail_45 ?_
        refine lv_iload_n hC.1 hC.2.1 dX5_tail_46 rfl (lv_at hl 2 rfl) ?_
        refine x_iast hC hw hA_64 (by omega) (by omega) (by omega) dX5_tail_47 (fun H locs hw => ?_)
        obtain ⟨M_67, hM_68⟩ : ∃ z, z = va_up M_62 q_55 (some (.inl (G.2 1, 5, .inl (upd (upd (fun _ => 0) (0 : Int).toNat (iN (p0))) (1 : Int).toNat (iN (p1)))))) := ⟨_, rfl⟩
        rw [← hM_68] at hw
        have hA_69 : M_67 q_55 = some (.inl (G.2 1, 5, .inl (upd (upd (fun _ => 0) (0 : Int).toNat (iN (p0))) (1 : Int).toNat (iN (p1))))) := by rw [hM_68, va_up_self]
        have hx_70 := xExt.upd hq_56 hx_65 hM_68
        have h_71 := hRk_52.ext hx_70
        refine lv_dup hC.1 hC.2.1 dX5_tail_48 rfl ?_
        refine x_const hC dX5_tail_49 ?_
        refine lv_iload_n hC.1 hC.2.1 dX5_tail_50 rfl (lv_at hl 3 rfl) ?_
        refine x_callS hC hw (lv_size hl) (c_X5_one l G (M := M_67) (p0 := p2) (by omega)) gX5_tail_X5_one rfl dv_X5_one_s rfl (Nat.le_of_ble_eq_true rfl) (by rw [hRf]; decide) (by rw [hRl]; decide) (by omega) (by omega) dX5_tail_51 (fun r9 M_72 H locs hq hw => ?_)
        obtain ⟨z_73, rfl, hM9, hz_73a, hz_73b⟩ := hq
        rw [hM9] at hw
        show W p l e R s m args below meth c H locs _ _ _ (F0 m 54 ls [.int (iN (z_73)), .int (iN (2)), .ref q_55, .ref q_55, .ref a])
        refine x_iast hC hw hA_69 (by omega) (by omega) (by omega) dX5_tail_54 (fun H locs hw => ?_)
        obtain ⟨M_74, hM_75⟩ : ∃ z, z = va_up M_67 q_55 (some (.inl (G.2 1, 5, .inl (upd (upd (upd (fun _ => 0) (0 : Int).toNat (iN (p0))) (1 : Int).toNat (iN (p1))) (2 : Int).toNat (iN (z_73)))))) := ⟨_, rfl⟩
        rw [← hM_75] at hw
        have hA_76 : M_74 q_55 = some (.inl (G.2 1, 5, .inl (upd (upd (upd (fun _ => 0) (0 : Int).toNat (iN (p0))) (1 : Int).toNat (iN (p1))) (2 : Int).toNat (iN (z_73))))) := by rw [hM_75, va_up_self]
        have hx_77 := xExt.upd hq_56 hx_70 hM_75
        have h_78 := hRk_52.ext hx_77
        refine lv_dup hC.1 hC.2.1 dX5_tail_55 rfl ?_
        refine x_const hC dX5_tail_56 ?_
        refine x_sipush hC dX5_tail_57 (by decide +kernel) ?_
        refine x_iast hC hw hA_76 (by omega) (by omega) (by omega) dX5_tail_60 (fun H locs hw => ?_)
        obtain ⟨M_79, hM_80⟩ : ∃ z, z = va_up M_74 q_55 (some (.inl (G.2 1, 5, .inl (upd (upd (upd (upd (fun _ => 0) (0 : Int).toNat (iN (p0))) (1 : Int).toNat (iN (p1))) (2 : Int).toNat (iN (z_73))) (3 : Int).toNat (iN ((-10000))))))) := ⟨_, rfl⟩
        rw [← hM_80] at hw
        have hA_81 : M_79 q_55 = some (.inl (G.2 1, 5, .inl (upd (upd (upd (upd (fun _ => 0) (0 : Int).toNat (iN (p0))) (1 : Int).toNat (iN (p1))) (2 : Int).toNat (iN (z_73))) (3 : Int).toNat (iN ((-10000)))))) := by rw [hM_80, va_up_self]
        have hx_82 := xExt.upd hq_56 hx_77 hM_80
        have h_83 := hRk_52.ext hx_82
        refine lv_dup hC.1 hC.2.1 dX5_tail_61 rfl ?_
        refine x_const hC dX5_tail_62 ?_
        refine x_const hC dX5_tail_63 ?_
        refine x_iast hC hw hA_81 (by omega) (by omega) (by omega) dX5_tail_64 (fun H locs hw => ?_)
        obtain ⟨M_84, hM_85⟩ : ∃ z, z = va_up M_79 q_55 (some (.inl (G.2 1, 5, .inl (upd (upd (upd (upd (upd (fun _ => 0) (0 : Int).toNat (iN (p0))) (1 : Int).toNat (iN (p1))) (2 : Int).toNat (iN (z_73))) (3 : Int).toNat (iN ((-10000)))) (4 : Int).toNat (iN (0)))))) := ⟨_, rfl⟩
        rw [← hM_85] at hw
        have hA_86 : M_84 q_55 = some (.inl (G.2 1, 5, .inl (upd (upd (upd (upd (upd (fun _ => 0) (0 : Int).toNat (iN (p0))) (1 : Int).toNat (iN (p1))) (2 : Int).toNat (iN (z_73))) (3 : Int).toNat (iN ((-10000)))) (4 : Int).toNat (iN (0))))) := by rw [hM_85, va_up_self]
        have hx_87 := xExt.upd hq_56 hx_82 hM_85
        have h_88 := hRk_52.ext hx_87
        have hI_89 : Its G M_84 q_55 (upd (upd (upd (upd (upd (fun _ => 0) (0 : Int).toNat (iN (p0))) (1 : Int).toNat (iN (p1))) (2 : Int).toNat (iN (z_73))) (3 : Int).toNat (iN ((-10000)))) (4 : Int).toNat (iN (0))) ((p0).toNat, p1, (-10000), p2, 0) := ⟨hA_86, ⟨(show (p0).toNat < 3 by omega), (show p1 = -10000 ∨ (0 ≤ p1 ∧ p1 ≤ 99) by omega), (show (-10000) = -10000 ∨ (0 ≤ (-10000) ∧ (-10000) ≤ 99) by omega), (show p2 = 0 ∨ p2 = 1 by omega), (show 0 = 0 ∨ 0 = 1 by omega)⟩, (show iN (p0) = iN _ by rw [show p0 = (((p0).toNat : Nat) : Int) by omega]), rfl, (show iN (z_73) = iN _ by rw [show z_73 = p2 by omega]), rfl, rfl⟩
        refine x_callV hC hw (lv_size hl) (c_X5_open l G h_88 hI_89 (by omega)) gX5_tail_X5_open rfl dv_X5_open h_88.1.1 rfl rfl (Nat.le_of_ble_eq_true rfl) (by rw [hRf]; decide) (by rw [hRl]; decide) (by omega) (by omega) dX5_tail_65 (fun r9 M_90 H locs hq hw => ?_)
        obtain ⟨z_92, fyk_91, Wvk_91, rfl, hz_92a, hz_92f, he0k_91, hx5k_91, hRk_91⟩ := hq
        have h_93 := hI_89.x5 hx5k_91
        have hsck_91 := hRk_91.sc
        show W p l e R s m args below meth c H locs _ _ _ (F0 m 68 ls [.int (iN (z_92))])
        exact x_iret hC hw dX5_tail_68 (by omega) (by omega) ⟨z_92, _, rfl, by omega, Or.inl ⟨by omega, by first | trivial | omega, hz_92f, (by have e9 := hRk_91; rw [he0k_91] at e9; exact MGm.of e9 hK)⟩⟩
      · refine x_const hC dX5_tail_32 ?_
        refine lv_goto (tgt := 68) hC.1 hC.2.1 dX5_tail_33 (by decide) ?_
        exact x_iret hC hw dX5_tail_68 (by omega) (by omega) ⟨0, _, rfl, by omega, Or.inr ⟨by omega, by omega, MGm.of hRk_52 hK⟩⟩
set_option maxHeartbeats 4000000 in
set_option maxRecDepth 100000 in
theorem c_X5_sub (l : Launch) (G : xG) {M : HM} {a va oa wa ya : Nat} {wk : Option Nat} {th : Int} {rfd : Int32} {br re la ha : Int} {kp kv : Int32} {qv qw : Nat → Nat} {fa fb : Nat → Option Nat} {V : BW} {O : OW} {fy : Nat → Option Nat} {Wv : VW} {wt : Option VT} {S : Nat → Bool} (hR : MGx G M a va oa wa ya wk th rfd br re la ha kp kv qv qw fa fb V O fy Wv wt S) {K : WA} (hK : abM O wt br re la ha K) {p0 : Int} (hp0 : -2147483648 ≤ p0 ∧ p0 ≤ 2147483647) {p1 : Int} (hp1 : -2147483648 ≤ p1 ∧ p1 ≤ 2147483647) {p2 : Int} (hp2 : -2147483648 ≤ p2 ∧ p2 ≤ 2147483647) {p3 : Int} (hp3 : -2147483648 ≤ p3 ∧ p3 ≤ 2147483647) {p4 : Int} (hp4 : -2147483648 ≤ p4 ∧ p4 ≤ 2147483647) (hb2 : p2 = 0 ∨ p2 = 1) (hb4 : p4 = 0 ∨ p4 = 1) : xMet l G yX5_sub wsX5_sub 3 66 1 5 [.ref a, .int (iN (p0)), .int (iN (p1)), .int (iN (p2)), .int (iN (p3)), .int (iN (p4))] M (fun r M1 => ∃ (z th1 : Int), r = some (.int (iN z)) ∧ (-2147483648 ≤ z ∧ z ≤ 2147483647) ∧ ((th1 = 0 ∧ ((0 ≤ p0 ∧ p0 ≤ 2) ∧ ((0 ≤ p1 ∧ p1 ≤ 99) ∧ (0 ≤ p3 ∧ p3 ≤ 99)) ∧ (frN Wv < 4)) ∧ z = A_sub (O, V, Wv, K, kp, kv, rfd) p0 p1 p2 p3 p4 ∧ MGm G M1 a S th1 (S_sub (O, V, Wv, K, kp, kv, rfd) p0 p1 p2 p3 p4)) ∨ (th1 ≠ 0 ∧ ((th1 = 1 ∧ ¬ (0 ≤ p0 ∧ p0 ≤ 2)) ∨ (th1 = 2 ∧ (0 ≤ p0 ∧ p0 ≤ 2) ∧ ¬ ((0 ≤ p1 ∧ p1 ≤ 99) ∧ (0 ≤ p3 ∧ p3 ≤ 99))) ∨ (th1 = 3 ∧ (0 ≤ p0 ∧ p0 ≤ 2) ∧ ((0 ≤ p1 ∧ p1 ≤ 99) ∧ (0 ≤ p3 ∧ p3 ≤ 99)) ∧ ¬ (frN Wv < 4))) ∧ MGm G M1 a S th1 (O, V, Wv, K, kp, kv, rfd)))) := by
  refine x_intro (cc := cX5_sub) (maxL := 7) (ret := (some .int)) (by decide +kernel) rfl (Nat.le_of_ble_eq_true rfl) ?_
  intro p e R s m args below meth c ls hRf hRc hRs hRl hC hw hl
  have hsc0 := hR.sc
  have hl : lv_has ls 7 [(0, .ref a), (1, .int (iN (p0))), (2, .int (iN (p1))), (3, .int (iN (p2))), (4, .int (iN (p3))), (5, .int (iN (p4)))] := hl
  refine lv_aload_n hC.1 hC.2.1 dX5_sub_0 rfl (lv_at hl 0 rfl) ?_
  refine lv_iload_n hC.1 hC.2.1 dX5_sub_1 rfl (lv_at hl 1 rfl) ?_
  refine lv_iload_n hC.1 hC.2.1 dX5_sub_2 rfl (lv_at hl 2 rfl) ?_
  refine x_callV hC hw (lv_size hl) (c_X5_isBad l G hR (p0 := p0) (by omega) (p1 := p1) (by omega)) gX5_sub_X5_isBad rfl dv_X5_isBad hR.1.1 rfl rfl (Nat.le_of_ble_eq_true rfl) (by rw [hRf]; decide) (by rw [hRl]; decide) (by omega) (by omega) dX5_sub_3 (fun r9 M_1 H locs hq hw => ?_)
  obtain ⟨z_3, thk_2, rfl, hz_3a, hz_3b, hz_3c0, hz_3c1, hz_3c2, hx5k_2, hRk_2⟩ := hq
  have hsck_2 := hRk_2.sc
  show W p l e R s m args below meth c H locs _ _ _ (F0 m 6 ls [.int (iN (z_3))])
  refine x_if_ne (tgt := 45) hC ⟨by omega, by omega⟩ dX5_sub_6 (by decide) (fun c_4 => ?_) (fun c_4 => ?_)
  · refine x_const hC dX5_sub_45 ?_
    exact x_iret hC hw dX5_sub_46 (by omega) (by omega) ⟨0, _, rfl, by omega, Or.inr ⟨by omega, by omega, MGm.of hRk_2 hK⟩⟩
  · refine lv_aload_n hC.1 hC.2.1 dX5_sub_9 rfl (lv_at hl 0 rfl) ?_
    refine lv_iload hC.1 hC.2.1 dX5_sub_10 (lv_at hl 4 rfl) ?_
    refine x_callS hC hw (lv_size hl) (c_X5_isNoKey l G (M := M_1) (p0 := p3) (by omega)) gX5_sub_X5_isNoKey rfl dv_X5_isNoKey_s rfl (Nat.le_of_ble_eq_true rfl) (by rw [hRf]; decide) (by rw [hRl]; decide) (by omega) (by omega) dX5_sub_12 (fun r9 M_5 H locs hq hw => ?_)
    obtain ⟨z_6, rfl, hM9, hz_6a, hz_6b⟩ := hq
    rw [hM9] at hw
    show W p l e R s m args below meth c H locs _ _ _ (F0 m 15 ls [.int (iN (z_6)), .ref a])
    refine x_const hC dX5_sub_15 ?_
    refine x_callV hC hw (lv_size hl) (c_X5_refuse l G hRk_2 (p0 := z_6) (by omega) (p1 := 2) (by omega) (by omega)) gX5_sub_X5_refuse rfl dv_X5_refuse hRk_2.1.1 rfl rfl (Nat.le_of_ble_eq_true rfl) (by rw [hRf]; decide) (by rw [hRl]; decide) (by omega) (by omega) dX5_sub_16 (fun r9 M_7 H locs hq hw => ?_)
    obtain ⟨z_9, thk_8, rfl, hz_9a, hz_9b, hz_9c0, hz_9c1, hx5k_8, hRk_8⟩ := hq
    have hsck_8 := hRk_8.sc
    show W p l e R s m args below meth c H locs _ _ _ (F0 m 19 ls [.int (iN (z_9))])
    refine x_if_ne (tgt := 45) hC ⟨by omega, by omega⟩ dX5_sub_19 (by decide) (fun c_10 => ?_) (fun c_10 => ?_)
    · refine x_const hC dX5_sub_45 ?_
      exact x_iret hC hw dX5_sub_46 (by omega) (by omega) ⟨0, _, rfl, by omega, Or.inr ⟨by omega, by omega, MGm.of hRk_8 hK⟩⟩
    · refine lv_aload_n hC.1 hC.2.1 dX5_sub_22 rfl (lv_at hl 0 rfl) ?_
      refine lv_aload_n hC.1 hC.2.1 dX5_sub_23 rfl (lv_at hl 0 rfl) ?_
      refine x_callV hC hw (lv_size hl) (c_X5_free l G hRk_8) gX5_sub_X5_free rfl dv_X5_free hRk_8.1.1 rfl rfl (Nat.le_of_ble_eq_true rfl) (by rw [hRf]; decide) (by rw [hRl]; decide) (by omega) (by omega) dX5_sub_24 (fun r9 M_11 H locs hq hw => ?_)
      obtain ⟨z_12, rfl, hM9, hz_12a, hz_12f⟩ := hq
      rw [hM9] at hw
      show W p l e R s m args below meth c H locs _ _ _ (F0 m 27 ls [.int (iN (z_12)), .ref a])
      refine x_sipush hC dX5_sub_27 (by decide +kernel) ?_
      refine x_icmp_ne (tgt := 37) hC ⟨by omega, by omega⟩ ⟨by omega, by omega⟩ dX5_sub_30 (by decide) (fun c_13 => ?_) (fun c_13 => ?_)
      · refine x_const hC dX5_sub_37 ?_
        refine x_const hC dX5_sub_38 ?_
        refine x_callV hC hw (lv_size hl) (c_X5_refuse l G hRk_8 (p0 := 0) (by omega) (p1 := 3) (by omega) (by omega)) gX5_sub_X5_refuse rfl dv_X5_refuse hRk_8.1.1 rfl rfl (Nat.le_of_ble_eq_true rfl) (by rw [hRf]; decide) (by rw [hRl]; decide) (by omega) (by omega) dX5_sub_39 (fun r9 M_14 H locs hq hw => ?_)
        obtain ⟨z_16, thk_15, rfl, hz_16a, hz_16b, hz_16c0, hz_16c1, hx5k_15, hRk_15⟩ := hq
        have hsck_15 := hRk_15.sc
        show W p l e R s m args below meth c H locs _ _ _ (F0 m 42 ls [.int (iN (z_16))])
        refine x_if_eq (tgt := 47) hC ⟨by omega, by omega⟩ dX5_sub_42 (by decide) (fun c_17 => ?_) (fun c_17 => ?_)
        · refine x_const hC dX5_sub_47 ?_
          refine x_newI hC hw (by decide +kernel) 5 rfl (by decide) (by omega) (by omega) dX5_sub_48 (fun q_18 H hq_19 hw => ?_)
          obtain ⟨M_20, hM_21⟩ : ∃ z, z = va_up M_14 q_18 (some (.inl (G.2 1, 5, .inl (fun _ => 0)))) := ⟨_, rfl⟩
          rw [← hM_21] at hw
          have hx_22 : xExt M_14 M_20 := by rw [hM_21]; exact xExt.new hq_19
          have hA_23 : M_20 q_18 = some (.inl (G.2 1, 5, .inl (fun _ => 0))) := by rw [hM_21, va_up_self]
          have h_24 := hRk_15.ext hx_22
          refine lv_dup hC.1 hC.2.1 dX5_sub_50 rfl ?_
          refine x_const hC dX5_sub_51 ?_
          refine lv_iload_n hC.1 hC.2.1 dX5_sub_52 rfl (lv_at hl 1 rfl) ?_
          refine x_iast hC hw hA_23 (by omega) (by omega) (by omega) dX5_sub_53 (fun H locs hw => ?_)
          obtain ⟨M_25, hM_26⟩ : ∃ z, z = va_up M_20 q_18 (some (.inl (G.2 1, 5, .inl (upd (fun _ => 0) (0 : Int).toNat (iN (p0)))))) := ⟨_, rfl⟩
          rw [← hM_26] at hw
          have hA_27 : M_25 q_18 = some (.inl (G.2 1, 5, .inl (upd (fun _ => 0) (0 : Int).toNat (iN (p0))))) := by rw [hM_26, va_up_self]
          have hx_28 := xExt.upd hq_19 hx_22 hM_26
          have h_29 := hRk_15.ext hx_28
          refine lv_dup hC.1 hC.2.1 dX5_sub_54 rfl ?_
          refine x_const hC dX5_sub_55 ?_
          refine lv_iload_n hC.1 hC.2.1 dX5_sub_56 rfl (lv_at hl 2 rfl) ?_
          refine x_iast hC hw hA_27 (by omega) (by omega) (by omega) dX5_sub_57 (fun H locs hw => ?_)
          obtain ⟨M_30, hM_31⟩ : ∃ z, z = va_up M_25 q_18 (some (.inl (G.2 1, 5, .inl (upd (upd (fun _ => 0) (0 : Int).toNat (iN (p0))) (1 : Int).toNat (iN (p1)))))) := ⟨_, rfl⟩
          rw [← hM_31] at hw
          have hA_32 : M_30 q_18 = some (.inl (G.2 1, 5, .inl (upd (upd (fun _ => 0) (0 : Int).toNat (iN (p0))) (1 : Int).toNat (iN (p1))))) := by rw [hM_31, va_up_self]
          have hx_33 := xExt.upd hq_19 hx_28 hM_31
          have h_34 := hRk_15.ext hx_33
          refine lv_dup hC.1 hC.2.1 dX5_sub_58 rfl ?_
          refine x_const hC dX5_sub_59 ?_
          refine lv_iload_n hC.1 hC.2.1 dX5_sub_60 rfl (lv_at hl 3 rfl) ?_
          refine x_callS hC hw (lv_size hl) (c_X5_one l G (M := M_30) (p0 := p2) (by omega)) gX5_sub_X5_one rfl dv_X5_one_s rfl (Nat.le_of_ble_eq_true rfl) (by rw [hRf]; decide) (by rw [hRl]; decide) (by omega) (by omega) dX5_sub_61 (fun r9 M_35 H locs hq hw => ?_)
          obtain ⟨z_36, rfl, hM9, hz_36a, hz_36b⟩ := hq
          rw [hM9] at hw
          show W p l e R s m args below meth c H locs _ _ _ (F0 m 64 ls [.int (iN (z_36)), .int (iN (2)), .ref q_18, .ref q_18])
          refine x_iast hC hw hA_32 (by omega) (by omega) (by omega) dX5_sub_64 (fun H locs hw => ?_)
          obtain ⟨M_37, hM_38⟩ : ∃ z, z = va_up M_30 q_18 (some (.inl (G.2 1, 5, .inl (upd (upd (upd (fun _ => 0) (0 : Int).toNat (iN (p0))) (1 : Int).toNat (iN (p1))) (2 : Int).toNat (iN (z_36)))))) := ⟨_, rfl⟩
          rw [← hM_38] at hw
          have hA_39 : M_37 q_18 = some (.inl (G.2 1, 5, .inl (upd (upd (upd (fun _ => 0) (0 : Int).toNat (iN (p0))) (1 : Int).toNat (iN (p1))) (2 : Int).toNat (iN (z_36))))) := by rw [hM_38, va_up_self]
          have hx_40 := xExt.upd hq_19 hx_33 hM_38
          have h_41 := hRk_15.ext hx_40
          refine lv_dup hC.1 hC.2.1 dX5_sub_65 rfl ?_
          refine x_const hC dX5_sub_66 ?_
          refine lv_iload hC.1 hC.2.1 dX5_sub_67 (lv_at hl 4 rfl) ?_
          refine x_iast hC hw hA_39 (by omega) (by omega) (by omega) dX5_sub_69 (fun H locs hw => ?_)
          obtain ⟨M_42, hM_43⟩ : ∃ z, z = va_up M_37 q_18 (some (.inl (G.2 1, 5, .inl (upd (upd (upd (upd (fun _ => 0) (0 : Int).toNat (iN (p0))) (1 : Int).toNat (iN (p1))) (2 : Int).toNat (iN (z_36))) (3 : Int).toNat (iN (p3)))))) := ⟨_, rfl⟩
          rw [← hM_43] at hw
          have hA_44 : M_42 q_18 = some (.inl (G.2 1, 5, .inl (upd (upd (upd (upd (fun _ => 0) (0 : Int).toNat (iN (p0))) (1 : Int).toNat (iN (p1))) (2 : Int).toNat (iN (z_36))) (3 : Int).toNat (iN (p3))))) := by rw [hM_43, va_up_self]
          have hx_45 := xExt.upd hq_19 hx_40 hM_43
          have h_46 := hRk_15.ext hx_45
          refine lv_dup hC.1 hC.2.1 dX5_sub_70 rfl ?_
          refine x_const hC dX5_sub_71 ?_
          refine lv_iload hC.1 hC.2.1 dX5_sub_72 (lv_at hl 5 rfl) ?_
          refine x_callS hC hw (lv_size hl) (c_X5_one l G (M := M_42) (p0 := p4) (by omega)) gX5_sub_X5_one rfl dv_X5_one_s rfl (Nat.le_of_ble_eq_true rfl) (by rw [hRf]; decide) (by rw [hRl]; decide) (by omega) (by omega) dX5_sub_74 (fun r9 M_47 H locs hq hw => ?_)
          obtain ⟨z_48, rfl, hM9, hz_48a, hz_48b⟩ := hq
          rw [hM9] at hw
          show W p l e R s m args below meth c H locs _ _ _ (F0 m 77 ls [.int (iN (z_48)), .int (iN (4)), .ref q_18, .ref q_18])
          refine x_iast hC hw hA_44 (by omega) (by omega) (by omega) dX5_sub_77 (fun H locs hw => ?_)
          obtain ⟨M_49, hM_50⟩ : ∃ z, z = va_up M_42 q_18 (some (.inl (G.2 1, 5, .inl (upd (upd (upd (upd (upd (fun _ => 0) (0 : Int).toNat (iN (p0))) (1 : Int).toNat (iN (p1))) (2 : Int).toNat (iN (z_36))) (3 : Int).toNat (iN (p3))) (4 : Int).toNat (iN (z_48)))))) := ⟨_, rfl⟩
          rw [← hM_50] at hw
          have hA_51 : M_49 q_18 = some (.inl (G.2 1, 5, .inl (upd (upd (upd (upd (upd (fun _ => 0) (0 : Int).toNat (iN (p0))) (1 : Int).toNat (iN (p1))) (2 : Int).toNat (iN (z_36))) (3 : Int).toNat (iN (p3))) (4 : Int).toNat (iN (z_48))))) := by rw [hM_50, va_up_self]
          have hx_52 := xExt.upd hq_19 hx_45 hM_50
          have h_53 := hRk_15.ext hx_52
          refine lv_astore (lv' := [(6, .ref q_18), (0, .ref a), (1, .int (iN (p0))), (2, .int (iN (p1))), (3, .int (iN (p2))), (4, .int (iN (p3))), (5, .int (iN (p4)))]) hC.1 hC.2.1 dX5_sub_78 hl (by decide) rfl (fun ls hl => ?_)
          refine lv_aload_n hC.1 hC.2.1 dX5_sub_80 rfl (lv_at hl 1 rfl) ?_
          refine lv_aload hC.1 hC.2.1 dX5_sub_81 (lv_at hl 0 rfl) ?_
          refine lv_iload_n hC.1 hC.2.1 dX5_sub_83 rfl (lv_at hl 3 rfl) ?_
          have hI_54 : Its G M_49 q_18 (upd (upd (upd (upd (upd (fun _ => 0) (0 : Int).toNat (iN (p0))) (1 : Int).toNat (iN (p1))) (2 : Int).toNat (iN (z_36))) (3 : Int).toNat (iN (p3))) (4 : Int).toNat (iN (z_48))) ((p0).toNat, p1, p3, p2, p4) := ⟨hA_51, ⟨(show (p0).toNat < 3 by omega), (show p1 = -10000 ∨ (0 ≤ p1 ∧ p1 ≤ 99) by omega), (show p3 = -10000 ∨ (0 ≤ p3 ∧ p3 ≤ 99) by omega), (show p2 = 0 ∨ p2 = 1 by omega), (show p4 = 0 ∨ p4 = 1 by omega)⟩, (show iN (p0) = iN _ by rw [show p0 = (((p0).toNat : Nat) : Int) by omega]), rfl, (show iN (z_36) = iN _ by rw [show z_36 = p2 by omega]), rfl, (show iN (z_48) = iN _ by rw [show z_48 = p4 by omega])⟩
          refine x_callV hC hw (lv_size hl) (c_X5_weight l G h_53 hI_54 (p0 := p1) (by omega) (by omega)) gX5_sub_X5_weight rfl dv_X5_weight h_53.1.1 rfl rfl (Nat.le_of_ble_eq_true rfl) (by rw [hRf]; decide) (by rw [hRl]; decide) (by omega) (by omega) dX5_sub_84 (fun r9 M_55 H locs hq hw => ?_)
          obtain ⟨z_56, rfl, hM9, hz_56a, hz_56b⟩ := hq
          rw [hM9] at hw
          show W p l e R s m args below meth c H locs _ _ _ (F0 m 87 ls [.int (iN (z_56))])
          refine lv_aload_n hC.1 hC.2.1 dX5_sub_87 rfl (lv_at hl 1 rfl) ?_
          refine lv_aload hC.1 hC.2.1 dX5_sub_88 (lv_at hl 0 rfl) ?_
          refine lv_iload hC.1 hC.2.1 dX5_sub_90 (lv_at hl 5 rfl) ?_
          refine x_callV hC hw (lv_size hl) (c_X5_weight l G h_53 hI_54 (p0 := p3) (by omega) (by omega)) gX5_sub_X5_weight rfl dv_X5_weight h_53.1.1 rfl rfl (Nat.le_of_ble_eq_true rfl) (by rw [hRf]; decide) (by rw [hRl]; decide) (by omega) (by omega) dX5_sub_92 (fun r9 M_57 H locs hq hw => ?_)
          obtain ⟨z_58, rfl, hM9, hz_58a, hz_58b⟩ := hq
          rw [hM9] at hw
          show W p l e R s m args below meth c H locs _ _ _ (F0 m 95 ls [.int (iN (z_58)), .int (iN (z_56))])
          refine x_icmp_le (tgt := 104) hC ⟨by omega, by omega⟩ ⟨by omega, by omega⟩ dX5_sub_95 (by decide) (fun c_59 => ?_) (fun c_59 => ?_)
          · refine lv_aload_n hC.1 hC.2.1 dX5_sub_104 rfl (lv_at hl 1 rfl) ?_
            refine lv_aload hC.1 hC.2.1 dX5_sub_105 (lv_at hl 0 rfl) ?_
            refine x_callV hC hw (lv_size hl) (c_X5_open l G h_53 hI_54 (by omega)) gX5_sub_X5_open rfl dv_X5_open h_53.1.1 rfl rfl (Nat.le_of_ble_eq_true rfl) (by rw [hRf]; decide) (by rw [hRl]; decide) (by omega) (by omega) dX5_sub_107 (fun r9 M_60 H locs hq hw => ?_)
            obtain ⟨z_62, fyk_61, Wvk_61, rfl, hz_62a, hz_62f, he0k_61, hx5k_61, hRk_61⟩ := hq
            have h_63 := hI_54.x5 hx5k_61
            have hsck_61 := hRk_61.sc
            show W p l e R s m args below meth c H locs _ _ _ (F0 m 110 ls [.int (iN (z_62))])
            exact x_iret hC hw dX5_sub_110 (by omega) (by omega) ⟨z_62, _, rfl, by omega, Or.inl ⟨by omega, by first | trivial | omega, (by show _ = (if mwN (O (p0).toNat) (p3).toNat < mwN (O (p0).toNat) (p1).toNat then -20000 else (frN Wv : Int)); have e8 : z_56 = ((mwN (O (p0).toNat) (p1).toNat : Nat) : Int) := hz_56b; have e7 : z_58 = ((mwN (O (p0).toNat) (p3).toNat : Nat) : Int) := hz_58b; omega), (by show MGm _ _ _ _ _ (if mwN (O (p0).toNat) (p3).toNat < mwN (O (p0).toNat) (p1).toNat then _ else _); have e8 : z_56 = ((mwN (O (p0).toNat) (p1).toNat : Nat) : Int) := hz_56b; have e7 : z_58 = ((mwN (O (p0).toNat) (p3).toNat : Nat) : Int) := hz_58b; rw [if_neg (by omega)]; exact (by have e9 := hRk_61; rw [he0k_61] at e9; exact MGm.of e9 hK))⟩⟩
          · refine x_sipush hC dX5_sub_98 (by decide +kernel) ?_
            refine lv_goto (tgt := 110) hC.1 hC.2.1 dX5_sub_101 (by decide) ?_
            exact x_iret hC hw dX5_sub_110 (by omega) (by omega) ⟨(-20000), _, rfl, by omega, Or.inl ⟨by omega, by first | trivial | omega, (by show _ = (if mwN (O (p0).toNat) (p3).toNat < mwN (O (p0).toNat) (p1).toNat then -20000 else (frN Wv : Int)); have e8 : z_56 = ((mwN (O (p0).toNat) (p1).toNat : Nat) : Int) := hz_56b; have e7 : z_58 = ((mwN (O (p0).toNat) (p3).toNat : Nat) : Int) := hz_58b; omega), (by show MGm _ _ _ _ _ (if mwN (O (p0).toNat) (p3).toNat < mwN (O (p0).toNat) (p1).toNat then _ else _); have e8 : z_56 = ((mwN (O (p0).toNat) (p1).toNat : Nat) : Int) := hz_56b; have e7 : z_58 = ((mwN (O (p0).toNat) (p3).toNat : Nat) : Int) := hz_58b; rw [if_pos (by omega)]; exact MGm.of h_53 hK)⟩⟩
        · refine x_const hC dX5_sub_45 ?_
          exact x_iret hC hw dX5_sub_46 (by omega) (by omega) ⟨0, _, rfl, by omega, Or.inr ⟨by omega, by omega, MGm.of hRk_15 hK⟩⟩
      · refine x_const hC dX5_sub_33 ?_
        refine lv_goto (tgt := 38) hC.1 hC.2.1 dX5_sub_34 (by decide) ?_
        refine x_const hC dX5_sub_38 ?_
        refine x_callV hC hw (lv_size hl) (c_X5_refuse l G hRk_8 (p0 := 1) (by omega) (p1 := 3) (by omega) (by omega)) gX5_sub_X5_refuse rfl dv_X5_refuse hRk_8.1.1 rfl rfl (Nat.le_of_ble_eq_true rfl) (by rw [hRf]; decide) (by rw [hRl]; decide) (by omega) (by omega) dX5_sub_39 (fun r9 M_64 H locs hq hw => ?_)
        obtain ⟨z_66, thk_65, rfl, hz_66a, hz_66b, hz_66c0, hz_66c1, hx5k_65, hRk_65⟩ := hq
        have hsck_65 := hRk_65.sc
        show W p l e R s m args below meth c H locs _ _ _ (F0 m 42 ls [.int (iN (z_66))])
        refine x_if_eq (tgt := 47) hC ⟨by omega, by omega⟩ dX5_sub_42 (by decide) (fun c_67 => ?_) (fun c_67 => ?_)
        · refine x_const hC dX5_sub_47 ?_
          refine x_newI hC hw (by decide +kernel) 5 rfl (by decide) (by omega) (by omega) dX5_sub_48 (fun q_68 H hq_69 hw => ?_)
          obtain ⟨M_70, hM_71⟩ : ∃ z, z = va_up M_64 q_68 (some (.inl (G.2 1, 5, .inl (fun _ => 0)))) := ⟨_, rfl⟩
          rw [← hM_71] at hw
          have hx_72 : xExt M_64 M_70 := by rw [hM_71]; exact xExt.new hq_69
          have hA_73 : M_70 q_68 = some (.inl (G.2 1, 5, .inl (fun _ => 0))) := by rw [hM_71, va_up_self]
          have h_74 := hRk_65.ext hx_72
          refine lv_dup hC.1 hC.2.1 dX5_sub_50 rfl ?_
          refine x_const hC dX5_sub_51 ?_
          refine lv_iload_n hC.1 hC.2.1 dX5_sub_52 rfl (lv_at hl 1 rfl) ?_
          refine x_iast hC hw hA_73 (by omega) (by omega) (by omega) dX5_sub_53 (fun H locs hw => ?_)
          obtain ⟨M_75, hM_76⟩ : ∃ z, z = va_up M_70 q_68 (some (.inl (G.2 1, 5, .inl (upd (fun _ => 0) (0 : Int).toNat (iN (p0)))))) := ⟨_, rfl⟩
          rw [← hM_76] at hw
          have hA_77 : M_75 q_68 = some (.inl (G.2 1, 5, .inl (upd (fun _ => 0) (0 : Int).toNat (iN (p0))))) := by rw [hM_76, va_up_self]
          have hx_78 := xExt.upd hq_69 hx_72 hM_76
          have h_79 := hRk_65.ext hx_78
          refine lv_dup hC.1 hC.2.1 dX5_sub_54 rfl ?_
          refine x_const hC dX5_sub_55 ?_
          refine lv_iload_n hC.1 hC.2.1 dX5_sub_56 rfl (lv_at hl 2 rfl) ?_
          refine x_iast hC hw hA_77 (by omega) (by omega) (by omega) dX5_sub_57 (fun H locs hw => ?_)
          obtain ⟨M_80, hM_81⟩ : ∃ z, z = va_up M_75 q_68 (some (.inl (G.2 1, 5, .inl (upd (upd (fun _ => 0) (0 : Int).toNat (iN (p0))) (1 : Int).toNat (iN (p1)))))) := ⟨_, rfl⟩
          rw [← hM_81] at hw
          have hA_82 : M_80 q_68 = some (.inl (G.2 1, 5, .inl (upd (upd (fun _ => 0) (0 : Int).toNat (iN (p0))) (1 : Int).toNat (iN (p1))))) := by rw [hM_81, va_up_self]
          have hx_83 := xExt.upd hq_69 hx_78 hM_81
          have h_84 := hRk_65.ext hx_83
          refine lv_dup hC.1 hC.2.1 dX5_sub_58 rfl ?_
          refine x_const hC dX5_sub_59 ?_
          refine lv_iload_n hC.1 hC.2.1 dX5_sub_60 rfl (lv_at hl 3 rfl) ?_
          refine x_callS hC hw (lv_size hl) (c_X5_one l G (M := M_80) (p0 := p2) (by omega)) gX5_sub_X5_one rfl dv_X5_one_s rfl (Nat.le_of_ble_eq_true rfl) (by rw [hRf]; decide) (by rw [hRl]; decide) (by omega) (by omega) dX5_sub_61 (fun r9 M_85 H locs hq hw => ?_)
          obtain ⟨z_86, rfl, hM9, hz_86a, hz_86b⟩ := hq
          rw [hM9] at hw
          show W p l e R s m args below meth c H locs _ _ _ (F0 m 64 ls [.int (iN (z_86)), .int (iN (2)), .ref q_68, .ref q_68])
          refine x_iast hC hw hA_82 (by omega) (by omega) (by omega) dX5_sub_64 (fun H locs hw => ?_)
          obtain ⟨M_87, hM_88⟩ : ∃ z, z = va_up M_80 q_68 (some (.inl (G.2 1, 5, .inl (upd (upd (upd (fun _ => 0) (0 : Int).toNat (iN (p0))) (1 : Int).toNat (iN (p1))) (2 : Int).toNat (iN (z_86)))))) := ⟨_, rfl⟩
          rw [← hM_88] at hw
          have hA_89 : M_87 q_68 = some (.inl (G.2 1, 5, .inl (upd (upd (upd (fun _ => 0) (0 : Int).toNat (iN (p0))) (1 : Int).toNat (iN (p1))) (2 : Int).toNat (iN (z_86))))) := by rw [hM_88, va_up_self]
          have hx_90 := xExt.upd hq_69 hx_83 hM_88
          have h_91 := hRk_65.ext hx_90
          refine lv_dup hC.1 hC.2.1 dX5_sub_65 rfl ?_
          refine x_const hC dX5_sub_66 ?_
          refine lv_iload hC.1 hC.2.1 dX5_sub_67 (lv_at hl 4 rfl) ?_
          refine x_iast hC hw hA_89 (by omega) (by omega) (by omega) dX5_sub_69 (fun H locs hw => ?_)
          obtain ⟨M_92, hM_93⟩ : ∃ z, z = va_up M_87 q_68 (some (.inl (G.2 1, 5, .inl (upd (upd (upd (upd (fun _ => 0) (0 : Int).toNat (iN (p0))) (1 : Int).toNat (iN (p1))) (2 : Int).toNat (iN (z_86))) (3 : Int).toNat (iN (p3)))))) := ⟨_, rfl⟩
          rw [← hM_93] at hw
          have hA_94 : M_92 q_68 = some (.inl (G.2 1, 5, .inl (upd (upd (upd (upd (fun _ => 0) (0 : Int).toNat (iN (p0))) (1 : Int).toNat (iN (p1))) (2 : Int).toNat (iN (z_86))) (3 : Int).toNat (iN (p3))))) := by rw [hM_93, va_up_self]
          have hx_95 := xExt.upd hq_69 hx_90 hM_93
          have h_96 := hRk_65.ext hx_95
          refine lv_dup hC.1 hC.2.1 dX5_sub_70 rfl ?_
          refine x_const hC dX5_sub_71 ?_
          refine lv_iload hC.1 hC.2.1 dX5_sub_72 (lv_at hl 5 rfl) ?_
          refine x_callS hC hw (lv_size hl) (c_X5_one l G (M := M_92) (p0 := p4) (by omega)) gX5_sub_X5_one rfl dv_X5_one_s rfl (Nat.le_of_ble_eq_true rfl) (by rw [hRf]; decide) (by rw [hRl]; decide) (by omega) (by omega) dX5_sub_74 (fun r9 M_97 H locs hq hw => ?_)
          obtain ⟨z_98, rfl, hM9, hz_98a, hz_98b⟩ := hq
          rw [hM9] at hw
          show W p l e R s m args below meth c H locs _ _ _ (F0 m 77 ls [.int (iN (z_98)), .int (iN (4)), .ref q_68, .ref q_68])
          refine x_iast hC hw hA_94 (by omega) (by omega) (by omega) dX5_sub_77 (fun H locs hw => ?_)
          obtain ⟨M_99, hM_100⟩ : ∃ z, z = va_up M_92 q_68 (some (.inl (G.2 1, 5, .inl (upd (upd (upd (upd (upd (fun _ => 0) (0 : Int).toNat (iN (p0))) (1 : Int).toNat (iN (p1))) (2 : Int).toNat (iN (z_86))) (3 : Int).toNat (iN (p3))) (4 : Int).toNat (iN (z_98)))))) := ⟨_, rfl⟩
          rw [← hM_100] at hw
          have hA_101 : M_99 q_68 = some (.inl (G.2 1, 5, .inl (upd (upd (upd (upd (upd (fun _ => 0) (0 : Int).toNat (iN (p0))) (1 : Int).toNat (iN (p1))) (2 : Int).toNat (iN (z_86))) (3 : Int).toNat (iN (p3))) (4 : Int).toNat (iN (z_98))))) := by rw [hM_100, va_up_self]
          have hx_102 := xExt.upd hq_69 hx_95 hM_100
          have h_103 := hRk_65.ext hx_102
          refine lv_astore (lv' := [(6, .ref q_68), (0, .ref a), (1, .int (iN (p0))), (2, .int (iN (p1))), (3, .int (iN (p2))), (4, .int (iN (p3))), (5, .int (iN (p4)))]) hC.1 hC.2.1 dX5_sub_78 hl (by decide) rfl (fun ls hl => ?_)
          refine lv_aload_n hC.1 hC.2.1 dX5_sub_80 rfl (lv_at hl 1 rfl) ?_
          refine lv_aload hC.1 hC.2.1 dX5_sub_81 (lv_at hl 0 rfl) ?_
          refine lv_iload_n hC.1 hC.2.1 dX5_sub_83 rfl (lv_at hl 3 rfl) ?_
          have hI_104 : Its G M_99 q_68 (upd (upd (upd (upd (upd (fun _ => 0) (0 : Int).toNat (iN (p0))) (1 : Int).toNat (iN (p1))) (2 : Int).toNat (iN (z_86))) (3 : Int).toNat (iN (p3))) (4 : Int).toNat (iN (z_98))) ((p0).toNat, p1, p3, p2, p4) := ⟨hA_101, ⟨(show (p0).toNat < 3 by omega), (show p1 = -10000 ∨ (0 ≤ p1 ∧ p1 ≤ 99) by omega), (show p3 = -10000 ∨ (0 ≤ p3 ∧ p3 ≤ 99) by omega), (show p2 = 0 ∨ p2 = 1 by omega), (show p4 = 0 ∨ p4 = 1 by omega)⟩, (show iN (p0) = iN _ by rw [show p0 = (((p0).toNat : Nat) : Int) by omega]), rfl, (show iN (z_86) = iN _ by rw [show z_86 = p2 by omega]), rfl, (show iN (z_98) = iN _ by rw [show z_98 = p4 by omega])⟩
          refine x_callV hC hw (lv_size hl) (c_X5_weight l G h_103 hI_104 (p0 := p1) (by omega) (by omega)) gX5_sub_X5_weight rfl dv_X5_weight h_103.1.1 rfl rfl (Nat.le_of_ble_eq_true rfl) (by rw [hRf]; decide) (by rw [hRl]; decide) (by omega) (by omega) dX5_sub_84 (fun r9 M_105 H locs hq hw => ?_)
          obtain ⟨z_106, rfl, hM9, hz_106a, hz_106b⟩ := hq
          rw [hM9] at hw
          show W p l e R s m args below meth c H locs _ _ _ (F0 m 87 ls [.int (iN (z_106))])
          refine lv_aload_n hC.1 hC.2.1 dX5_sub_87 rfl (lv_at hl 1 rfl) ?_
          refine lv_aload hC.1 hC.2.1 dX5_sub_88 (lv_at hl 0 rfl) ?_
          refine lv_iload hC.1 hC.2.1 dX5_sub_90 (lv_at hl 5 rfl) ?_
          refine x_callV hC hw (lv_size hl) (c_X5_weight l G h_103 hI_104 (p0 := p3) (by omega) (by omega)) gX5_sub_X5_weight rfl dv_X5_weight h_103.1.1 rfl rfl (Nat.le_of_ble_eq_true rfl) (by rw [hRf]; decide) (by rw [hRl]; decide) (by omega) (by omega) dX5_sub_92 (fun r9 M_107 H locs hq hw => ?_)
          obtain ⟨z_108, rfl, hM9, hz_108a, hz_108b⟩ := hq
          rw [hM9] at hw
          show W p l e R s m args below meth c H locs _ _ _ (F0 m 95 ls [.int (iN (z_108)), .int (iN (z_106))])
          refine x_icmp_le (tgt := 104) hC ⟨by omega, by omega⟩ ⟨by omega, by omega⟩ dX5_sub_95 (by decide) (fun c_109 => ?_) (fun c_109 => ?_)
          · refine lv_aload_n hC.1 hC.2.1 dX5_sub_104 rfl (lv_at hl 1 rfl) ?_
            refine lv_aload hC.1 hC.2.1 dX5_sub_105 (lv_at hl 0 rfl) ?_
            refine x_callV hC hw (lv_size hl) (c_X5_open l G h_103 hI_104 (by omega)) gX5_sub_X5_open rfl dv_X5_open h_103.1.1 rfl rfl (Nat.le_of_ble_eq_true rfl) (by rw [hRf]; decide) (by rw [hRl]; decide) (by omega) (by omega) dX5_sub_107 (fun r9 M_110 H locs hq hw => ?_)
            obtain ⟨z_112, fyk_111, Wvk_111, rfl, hz_112a, hz_112f, he0k_111, hx5k_111, hRk_111⟩ := hq
            have h_113 := hI_104.x5 hx5k_111
            have hsck_111 := hRk_111.sc
            show W p l e R s m args below meth c H locs _ _ _ (F0 m 110 ls [.int (iN (z_112))])
            exact x_iret hC hw dX5_sub_110 (by omega) (by omega) ⟨z_112, _, rfl, by omega, Or.inl ⟨by omega, by first | trivial | omega, (by show _ = (if mwN (O (p0).toNat) (p3).toNat < mwN (O (p0).toNat) (p1).toNat then -20000 else (frN Wv : Int)); have e8 : z_106 = ((mwN (O (p0).toNat) (p1).toNat : Nat) : Int) := hz_106b; have e7 : z_108 = ((mwN (O (p0).toNat) (p3).toNat : Nat) : Int) := hz_108b; omega), (by show MGm _ _ _ _ _ (if mwN (O (p0).toNat) (p3).toNat < mwN (O (p0).toNat) (p1).toNat then _ else _); have e8 : z_106 = ((mwN (O (p0).toNat) (p1).toNat : Nat) : Int) := hz_106b; have e7 : z_108 = ((mwN (O (p0).toNat) (p3).toNat : Nat) : Int) := hz_108b; rw [if_neg (by omega)]; exact (by have e9 := hRk_111; rw [he0k_111] at e9; exact MGm.of e9 hK))⟩⟩
          · refine x_sipush hC dX5_sub_98 (by decide +kernel) ?_
            refine lv_goto (tgt := 110) hC.1 hC.2.1 dX5_sub_101 (by decide) ?_
            exact x_iret hC hw dX5_sub_110 (by omega) (by omega) ⟨(-20000), _, rfl, by omega, Or.inl ⟨by omega, by first | trivial | omega, (by show _ = (if mwN (O (p0).toNat) (p3).toNat < mwN (O (p0).toNat) (p1).toNat then -20000 else (frN Wv : Int)); have e8 : z_106 = ((mwN (O (p0).toNat) (p1).toNat : Nat) : Int) := hz_106b; have e7 : z_108 = ((mwN (O (p0).toNat) (p3).toNat : Nat) : Int) := hz_108b; omega), (by show MGm _ _ _ _ _ (if mwN (O (p0).toNat) (p3).toNat < mwN (O (p0).toNat) (p1).toNat then _ else _); have e8 : z_106 = ((mwN (O (p0).toNat) (p1).toNat : Nat) : Int) := hz_106b; have e7 : z_108 = ((mwN (O (p0).toNat) (p3).toNat : Nat) : Int) := hz_108b; rw [if_pos (by omega)]; exact MGm.of h_103 hK)⟩⟩
        · refine x_const hC dX5_sub_45 ?_
          exact x_iret hC hw dX5_sub_46 (by omega) (by omega) ⟨0, _, rfl, by omega, Or.inr ⟨by omega, by omega, MGm.of hRk_65 hK⟩⟩
set_option maxHeartbeats 4000000 in
set_option maxRecDepth 100000 in
theorem c_X5_part (l : Launch) (G : xG) {M : HM} {a va oa wa ya : Nat} {wk : Option Nat} {th : Int} {rfd : Int32} {br re la ha : Int} {kp kv : Int32} {qv qw : Nat → Nat} {fa fb : Nat → Option Nat} {V : BW} {O : OW} {fy : Nat → Option Nat} {Wv : VW} {wt : Option VT} {S : Nat → Bool} (hR : MGx G M a va oa wa ya wk th rfd br re la ha kp kv qv qw fa fb V O fy Wv wt S) {K : WA} (hK : abM O wt br re la ha K) {p0 : Int} (hp0 : -2147483648 ≤ p0 ∧ p0 ≤ 2147483647) {p1 : Int} (hp1 : -2147483648 ≤ p1 ∧ p1 ≤ 2147483647) {p2 : Int} (hp2 : -2147483648 ≤ p2 ∧ p2 ≤ 2147483647) {p3 : Int} (hp3 : -2147483648 ≤ p3 ∧ p3 ≤ 2147483647) {p4 : Int} (hp4 : -2147483648 ≤ p4 ∧ p4 ≤ 2147483647) (hb2 : p2 = 0 ∨ p2 = 1) (hb4 : p4 = 0 ∨ p4 = 1) : xMet l G yX5_part wsX5_part 2 45 1 5 [.ref a, .int (iN (p0)), .int (iN (p1)), .int (iN (p2)), .int (iN (p3)), .int (iN (p4))] M (fun r M1 => ∃ (z th1 : Int), r = some (.int (iN z)) ∧ (-2147483648 ≤ z ∧ z ≤ 2147483647) ∧ ((th1 = 0 ∧ ((0 ≤ p0 ∧ p0 ≤ 3 ∧ opN (Wv p0.toNat) = 1) ∧ ((0 ≤ p1 ∧ p1 ≤ 99) ∧ (0 ≤ p3 ∧ p3 ≤ 99)) ∧ (frN Wv < 4)) ∧ z = A_part (O, V, Wv, K, kp, kv, rfd) p0 p1 p2 p3 p4 ∧ MGm G M1 a S th1 (S_part (O, V, Wv, K, kp, kv, rfd) p0 p1 p2 p3 p4)) ∨ (th1 ≠ 0 ∧ ((th1 = 1 ∧ ¬ (0 ≤ p0 ∧ p0 ≤ 3 ∧ opN (Wv p0.toNat) = 1)) ∨ (th1 = 2 ∧ (0 ≤ p0 ∧ p0 ≤ 3 ∧ opN (Wv p0.toNat) = 1) ∧ ¬ ((0 ≤ p1 ∧ p1 ≤ 99) ∧ (0 ≤ p3 ∧ p3 ≤ 99))) ∨ (th1 = 3 ∧ (0 ≤ p0 ∧ p0 ≤ 3 ∧ opN (Wv p0.toNat) = 1) ∧ ((0 ≤ p1 ∧ p1 ≤ 99) ∧ (0 ≤ p3 ∧ p3 ≤ 99)) ∧ ¬ (frN Wv < 4))) ∧ MGm G M1 a S th1 (O, V, Wv, K, kp, kv, rfd)))) := by
  refine x_intro (cc := cX5_part) (maxL := 7) (ret := (some .int)) (by decide +kernel) rfl (Nat.le_of_ble_eq_true rfl) ?_
  intro p e R s m args below meth c ls hRf hRc hRs hRl hC hw hl
  have hsc0 := hR.sc
  have hinX5 : ∀ w ∈ wsX50, w ∈ wsX5_part := by decide +kernel
  have hl : lv_has ls 7 [(0, .ref a), (1, .int (iN (p0))), (2, .int (iN (p1))), (3, .int (iN (p2))), (4, .int (iN (p3))), (5, .int (iN (p4)))] := hl
  refine lv_aload_n hC.1 hC.2.1 dX5_part_0 rfl (lv_at hl 0 rfl) ?_
  refine lv_aload_n hC.1 hC.2.1 dX5_part_1 rfl (lv_at hl 0 rfl) ?_
  refine lv_iload_n hC.1 hC.2.1 dX5_part_2 rfl (lv_at hl 1 rfl) ?_
  refine x_callV hC hw (lv_size hl) (c_X5_isNoView l G hR (p0 := p0) (by omega)) gX5_part_X5_isNoView rfl dv_X5_isNoView hR.1.1 rfl rfl (Nat.le_of_ble_eq_true rfl) (by rw [hRf]; decide) (by rw [hRl]; decide) (by omega) (by omega) dX5_part_3 (fun r9 M_1 H locs hq hw => ?_)
  obtain ⟨z_2, rfl, hM9, hz_2a, hz_2b, hz_2n⟩ := hq
  rw [hM9] at hw
  show W p l e R s m args below meth c H locs _ _ _ (F0 m 6 ls [.int (iN (z_2)), .ref a])
  refine x_const hC dX5_part_6 ?_
  refine x_callV hC hw (lv_size hl) (c_X5_start l G hR (p0 := z_2) (by omega) (p1 := 1) (by omega) (by omega)) gX5_part_X5_start rfl dv_X5_start hR.1.1 rfl rfl (Nat.le_of_ble_eq_true rfl) (by rw [hRf]; decide) (by rw [hRl]; decide) (by omega) (by omega) dX5_part_7 (fun r9 M_3 H locs hq hw => ?_)
  obtain ⟨z_5, thk_4, rfl, hz_5a, hz_5b, hz_5c0, hz_5c1, hx5k_4, hRk_4⟩ := hq
  have hsck_4 := hRk_4.sc
  show W p l e R s m args below meth c H locs _ _ _ (F0 m 10 ls [.int (iN (z_5))])
  refine x_if_ne (tgt := 64) hC ⟨by omega, by omega⟩ dX5_part_10 (by decide) (fun c_6 => ?_) (fun c_6 => ?_)
  · refine x_const hC dX5_part_64 ?_
    exact x_iret hC hw dX5_part_65 (by omega) (by omega) ⟨0, _, rfl, by omega, Or.inr ⟨by omega, by omega, MGm.of hRk_4 hK⟩⟩
  · refine lv_aload_n hC.1 hC.2.1 dX5_part_13 rfl (lv_at hl 0 rfl) ?_
    refine lv_iload_n hC.1 hC.2.1 dX5_part_14 rfl (lv_at hl 2 rfl) ?_
    refine x_callS hC hw (lv_size hl) (c_X5_isNoKey l G (M := M_3) (p0 := p1) (by omega)) gX5_part_X5_isNoKey rfl dv_X5_isNoKey_s rfl (Nat.le_of_ble_eq_true rfl) (by rw [hRf]; decide) (by rw [hRl]; decide) (by omega) (by omega) dX5_part_15 (fun r9 M_7 H locs hq hw => ?_)
    obtain ⟨z_8, rfl, hM9, hz_8a, hz_8b⟩ := hq
    rw [hM9] at hw
    show W p l e R s m args below meth c H locs _ _ _ (F0 m 18 ls [.int (iN (z_8)), .ref a])
    refine x_if_ne (tgt := 29) hC ⟨by omega, by omega⟩ dX5_part_18 (by decide) (fun c_9 => ?_) (fun c_9 => ?_)
    · refine x_const hC dX5_part_29 ?_
      refine lv_goto (tgt := 34) hC.1 hC.2.1 dX5_part_30 (by decide) ?_
      refine x_const hC dX5_part_34 ?_
      refine x_callV hC hw (lv_size hl) (c_X5_refuse l G hRk_4 (p0 := 1) (by omega) (p1 := 2) (by omega) (by omega)) gX5_part_X5_refuse rfl dv_X5_refuse hRk_4.1.1 rfl rfl (Nat.le_of_ble_eq_true rfl) (by rw [hRf]; decide) (by rw [hRl]; decide) (by omega) (by omega) dX5_part_35 (fun r9 M_10 H locs hq hw => ?_)
      obtain ⟨z_12, thk_11, rfl, hz_12a, hz_12b, hz_12c0, hz_12c1, hx5k_11, hRk_11⟩ := hq
      have hsck_11 := hRk_11.sc
      show W p l e R s m args below meth c H locs _ _ _ (F0 m 38 ls [.int (iN (z_12))])
      refine x_if_ne (tgt := 64) hC ⟨by omega, by omega⟩ dX5_part_38 (by decide) (fun c_13 => ?_) (fun c_13 => ?_)
      · refine x_const hC dX5_part_64 ?_
        exact x_iret hC hw dX5_part_65 (by omega) (by omega) ⟨0, _, rfl, by omega, Or.inr ⟨by omega, by omega, MGm.of hRk_11 hK⟩⟩
      · refine lv_aload_n hC.1 hC.2.1 dX5_part_41 rfl (lv_at hl 0 rfl) ?_
        refine lv_aload_n hC.1 hC.2.1 dX5_part_42 rfl (lv_at hl 0 rfl) ?_
        refine x_callV hC hw (lv_size hl) (c_X5_free l G hRk_11) gX5_part_X5_free rfl dv_X5_free hRk_11.1.1 rfl rfl (Nat.le_of_ble_eq_true rfl) (by rw [hRf]; decide) (by rw [hRl]; decide) (by omega) (by omega) dX5_part_43 (fun r9 M_14 H locs hq hw => ?_)
        obtain ⟨z_15, rfl, hM9, hz_15a, hz_15f⟩ := hq
        rw [hM9] at hw
        show W p l e R s m args below meth c H locs _ _ _ (F0 m 46 ls [.int (iN (z_15)), .ref a])
        refine x_sipush hC dX5_part_46 (by decide +kernel) ?_
        refine x_icmp_ne (tgt := 56) hC ⟨by omega, by omega⟩ ⟨by omega, by omega⟩ dX5_part_49 (by decide) (fun c_16 => ?_) (fun c_16 => ?_)
        · refine x_const hC dX5_part_56 ?_
          refine x_const hC dX5_part_57 ?_
          refine x_callV hC hw (lv_size hl) (c_X5_refuse l G hRk_11 (p0 := 0) (by omega) (p1 := 3) (by omega) (by omega)) gX5_part_X5_refuse rfl dv_X5_refuse hRk_11.1.1 rfl rfl (Nat.le_of_ble_eq_true rfl) (by rw [hRf]; decide) (by rw [hRl]; decide) (by omega) (by omega) dX5_part_58 (fun r9 M_17 H locs hq hw => ?_)
          obtain ⟨z_19, thk_18, rfl, hz_19a, hz_19b, hz_19c0, hz_19c1, hx5k_18, hRk_18⟩ := hq
          have hsck_18 := hRk_18.sc
          show W p l e R s m args below meth c H locs _ _ _ (F0 m 61 ls [.int (iN (z_19))])
          refine x_if_eq (tgt := 66) hC ⟨by omega, by omega⟩ dX5_part_61 (by decide) (fun c_20 => ?_) (fun c_20 => ?_)
          · refine lv_aload_n hC.1 hC.2.1 dX5_part_66 rfl (lv_at hl 0 rfl) ?_
            refine x_get hC hw hRk_18.1.1 rfl hinX5 5 (by decide) (by decide +kernel) rfl dX5_part_67 ?_
            refine lv_iload_n hC.1 hC.2.1 dX5_part_70 rfl (lv_at hl 1 rfl) ?_
            refine x_ald4 hC hw hRk_18.1.2.2.2.2.1 (by omega) (by omega) (by omega) dX5_part_71 ?_
            obtain ⟨y_21, hy_22⟩ := x_some (hz_2n (by omega))
            rw [hy_22]
            obtain ⟨ti_23, fi_23, hui_23, hIi_23⟩ := (hRk_18.vw (show (p0).toNat < 4 by omega)).yes hy_22
            obtain ⟨htat_24, htbt_24, htct_24, htdt_24, htet_24⟩ := id hIi_23.2.1
            show W p l e R s m args below meth c _ _ _ _ _ (F0 m 72 ls [.ref y_21])
            refine lv_astore (lv' := [(6, .ref y_21), (0, .ref a), (1, .int (iN (p0))), (2, .int (iN (p1))), (3, .int (iN (p2))), (4, .int (iN (p3))), (5, .int (iN (p4)))]) hC.1 hC.2.1 dX5_part_72 hl (by decide) rfl (fun ls hl => ?_)
            refine lv_aload_n hC.1 hC.2.1 dX5_part_74 rfl (lv_at hl 1 rfl) ?_
            refine lv_aload hC.1 hC.2.1 dX5_part_75 (lv_at hl 0 rfl) ?_
            refine lv_iload_n hC.1 hC.2.1 dX5_part_77 rfl (lv_at hl 3 rfl) ?_
            refine x_callV hC hw (lv_size hl) (c_X5_isWithin l G hRk_18 hIi_23 (p0 := p1) (by omega) (by omega)) gX5_part_X5_isWithin rfl dv_X5_isWithin hRk_18.1.1 rfl rfl (Nat.le_of_ble_eq_true rfl) (by rw [hRf]; decide) (by rw [hRl]; decide) (by omega) (by omega) dX5_part_78 (fun r9 M_25 H locs hq hw => ?_)
            obtain ⟨z_26, rfl, hM9, hz_26a, hz_26w⟩ := hq
            rw [hM9] at hw
            show W p l e R s m args below meth c H locs _ _ _ (F0 m 81 ls [.int (iN (z_26))])
            refine x_if_eq (tgt := 113) hC ⟨by omega, by omega⟩ dX5_part_81 (by decide) (fun c_27 => ?_) (fun c_27 => ?_)
            · refine x_sipush hC dX5_part_113 (by decide +kernel) ?_
              exact x_iret hC hw dX5_part_116 (by omega) (by omega) ⟨(-20000), _, rfl, by omega, Or.inl ⟨by omega, by first | trivial | omega, (by have i9 := inI_01 (O ti_23.b) (p1).toNat ti_23; have i8 := inI_01 (O ti_23.b) (p3).toNat ti_23; rw [A_part, show tvW (ST.W (O, V, Wv, K, kp, kv, rfd)) p0.toNat = ti_23 from tvW_some hui_23]; show _ = (if ((inI (O ti_23.b) ti_23 (p1).toNat = 1 ∧ inI (O ti_23.b) ti_23 (p3).toNat = 1) ∧ ¬ mwN (O ti_23.b) (p3).toNat < mwN (O ti_23.b) (p1).toNat) then (frN Wv : Int) else -20000); omega), (by have i9 := inI_01 (O ti_23.b) (p1).toNat ti_23; have i8 := inI_01 (O ti_23.b) (p3).toNat ti_23; rw [S_part, show tvW (ST.W (O, V, Wv, K, kp, kv, rfd)) p0.toNat = ti_23 from tvW_some hui_23]; show MGm _ _ _ _ _ (if ((inI (O ti_23.b) ti_23 (p1).toNat = 1 ∧ inI (O ti_23.b) ti_23 (p3).toNat = 1) ∧ ¬ mwN (O ti_23.b) (p3).toNat < mwN (O ti_23.b) (p1).toNat) then _ else _); rw [if_neg (by omega)]; exact MGm.of hRk_18 hK)⟩⟩
            · refine lv_aload_n hC.1 hC.2.1 dX5_part_84 rfl (lv_at hl 1 rfl) ?_
              refine lv_aload hC.1 hC.2.1 dX5_part_85 (lv_at hl 0 rfl) ?_
              refine lv_iload hC.1 hC.2.1 dX5_part_87 (lv_at hl 5 rfl) ?_
              refine x_callV hC hw (lv_size hl) (c_X5_isWithin l G hRk_18 hIi_23 (p0 := p3) (by omega) (by omega)) gX5_part_X5_isWithin rfl dv_X5_isWithin hRk_18.1.1 rfl rfl (Nat.le_of_ble_eq_true rfl) (by rw [hRf]; decide) (by rw [hRl]; decide) (by omega) (by omega) dX5_part_89 (fun r9 M_28 H locs hq hw => ?_)
              obtain ⟨z_29, rfl, hM9, hz_29a, hz_29w⟩ := hq
              rw [hM9] at hw
              show W p l e R s m args below meth c H locs _ _ _ (F0 m 92 ls [.int (iN (z_29))])
              refine x_if_eq (tgt := 113) hC ⟨by omega, by omega⟩ dX5_part_92 (by decide) (fun c_30 => ?_) (fun c_30 => ?_)
              · refine x_sipush hC dX5_part_113 (by decide +kernel) ?_
                exact x_iret hC hw dX5_part_116 (by omega) (by omega) ⟨(-20000), _, rfl, by omega, Or.inl ⟨by omega, by first | trivial | omega, (by have i9 := inI_01 (O ti_23.b) (p1).toNat ti_23; have i8 := inI_01 (O ti_23.b) (p3).toNat ti_23; rw [A_part, show tvW (ST.W (O, V, Wv, K, kp, kv, rfd)) p0.toNat = ti_23 from tvW_some hui_23]; show _ = (if ((inI (O ti_23.b) ti_23 (p1).toNat = 1 ∧ inI (O ti_23.b) ti_23 (p3).toNat = 1) ∧ ¬ mwN (O ti_23.b) (p3).toNat < mwN (O ti_23.b) (p1).toNat) then (frN Wv : Int) else -20000); omega), (by have i9 := inI_01 (O ti_23.b) (p1).toNat ti_23; have i8 := inI_01 (O ti_23.b) (p3).toNat ti_23; rw [S_part, show tvW (ST.W (O, V, Wv, K, kp, kv, rfd)) p0.toNat = ti_23 from tvW_some hui_23]; show MGm _ _ _ _ _ (if ((inI (O ti_23.b) ti_23 (p1).toNat = 1 ∧ inI (O ti_23.b) ti_23 (p3).toNat = 1) ∧ ¬ mwN (O ti_23.b) (p3).toNat < mwN (O ti_23.b) (p1).toNat) then _ else _); rw [if_neg (by omega)]; exact MGm.of hRk_18 hK)⟩⟩
              · refine lv_aload_n hC.1 hC.2.1 dX5_part_95 rfl (lv_at hl 1 rfl) ?_
                refine lv_aload hC.1 hC.2.1 dX5_part_96 (lv_at hl 0 rfl) ?_
                refine lv_iload_n hC.1 hC.2.1 dX5_part_98 rfl (lv_at hl 3 rfl) ?_
                refine x_callV hC hw (lv_size hl) (c_X5_weight l G hRk_18 hIi_23 (p0 := p1) (by omega) (by omega)) gX5_part_X5_weight rfl dv_X5_weight hRk_18.1.1 rfl rfl (Nat.le_of_ble_eq_true rfl) (by rw [hRf]; decide) (by rw [hRl]; decide) (by omega) (by omega) dX5_part_99 (fun r9 M_31 H locs hq hw => ?_)
                obtain ⟨z_32, rfl, hM9, hz_32a, hz_32b⟩ := hq
                rw [hM9] at hw
                show W p l e R s m args below meth c H locs _ _ _ (F0 m 102 ls [.int (iN (z_32))])
                refine lv_aload_n hC.1 hC.2.1 dX5_part_102 rfl (lv_at hl 1 rfl) ?_
                refine lv_aload hC.1 hC.2.1 dX5_part_103 (lv_at hl 0 rfl) ?_
                refine lv_iload hC.1 hC.2.1 dX5_part_105 (lv_at hl 5 rfl) ?_
                refine x_callV hC hw (lv_size hl) (c_X5_weight l G hRk_18 hIi_23 (p0 := p3) (by omega) (by omega)) gX5_part_X5_weight rfl dv_X5_weight hRk_18.1.1 rfl rfl (Nat.le_of_ble_eq_true rfl) (by rw [hRf]; decide) (by rw [hRl]; decide) (by omega) (by omega) dX5_part_107 (fun r9 M_33 H locs hq hw => ?_)
                obtain ⟨z_34, rfl, hM9, hz_34a, hz_34b⟩ := hq
                rw [hM9] at hw
                show W p l e R s m args below meth c H locs _ _ _ (F0 m 110 ls [.int (iN (z_34)), .int (iN (z_32))])
                refine x_icmp_le (tgt := 117) hC ⟨by omega, by omega⟩ ⟨by omega, by omega⟩ dX5_part_110 (by decide) (fun c_35 => ?_) (fun c_35 => ?_)
                · refine lv_aload_n hC.1 hC.2.1 dX5_part_117 rfl (lv_at hl 1 rfl) ?_
                  refine x_const hC dX5_part_118 ?_
                  refine x_newI hC hw (by decide +kernel) 5 rfl (by decide) (by omega) (by omega) dX5_part_119 (fun q_36 H hq_37 hw => ?_)
                  obtain ⟨M_38, hM_39⟩ : ∃ z, z = va_up M_17 q_36 (some (.inl (G.2 1, 5, .inl (fun _ => 0)))) := ⟨_, rfl⟩
                  rw [← hM_39] at hw
                  have hx_40 : xExt M_17 M_38 := by rw [hM_39]; exact xExt.new hq_37
                  have hA_41 : M_38 q_36 = some (.inl (G.2 1, 5, .inl (fun _ => 0))) := by rw [hM_39, va_up_self]
                  have h_42 := hRk_18.ext hx_40
                  have h_43 := hIi_23.x5 (xExt.x5 hx_40)
                  refine lv_dup hC.1 hC.2.1 dX5_part_121 rfl ?_
                  refine x_const hC dX5_part_122 ?_
                  refine lv_aload hC.1 hC.2.1 dX5_part_123 (lv_at hl 0 rfl) ?_
                  refine x_const hC dX5_part_125 ?_
                  refine x_ialdE (x := ((ti_23.b : Nat) : Int)) hC hw h_43.1 (by omega) (by omega) (by omega) dX5_part_126 h_43.2.2.1 ?_
                  refine x_iast hC hw hA_41 (by omega) (by omega) (by omega) dX5_part_127 (fun H locs hw => ?_)
                  obtain ⟨M_44, hM_45⟩ : ∃ z, z = va_up M_38 q_36 (some (.inl (G.2 1, 5, .inl (upd (fun _ => 0) (0 : Int).toNat (iN (((ti_23.b : Nat) : Int))))))) := ⟨_, rfl⟩
                  rw [← hM_45] at hw
                  have hA_46 : M_44 q_36 = some (.inl (G.2 1, 5, .inl (upd (fun _ => 0) (0 : Int).toNat (iN (((ti_23.b : Nat) : Int)))))) := by rw [hM_45, va_up_self]
                  have hx_47 := xExt.upd hq_37 hx_40 hM_45
                  have h_48 := hRk_18.ext hx_47
                  have h_49 := hIi_23.x5 (xExt.x5 hx_47)
                  refine lv_dup hC.1 hC.2.1 dX5_part_128 rfl ?_
                  refine x_const hC dX5_part_129 ?_
                  refine lv_iload_n hC.1 hC.2.1 dX5_part_130 rfl (lv_at hl 3 rfl) ?_
                  refine x_iast hC hw hA_46 (by omega) (by omega) (by omega) dX5_part_131 (fun H locs hw => ?_)
                  obtain ⟨M_50, hM_51⟩ : ∃ z, z = va_up M_44 q_36 (some (.inl (G.2 1, 5, .inl (upd (upd (fun _ => 0) (0 : Int).toNat (iN (((ti_23.b : Nat) : Int)))) (1 : Int).toNat (iN (p1)))))) := ⟨_, rfl⟩
                  rw [← hM_51] at hw
                  have hA_52 : M_50 q_36 = some (.inl (G.2 1, 5, .inl (upd (upd (fun _ => 0) (0 : Int).toNat (iN (((ti_23.b : Nat) : Int)))) (1 : Int).toNat (iN (p1))))) := by rw [hM_51, va_up_self]
                  have hx_53 := xExt.upd hq_37 hx_47 hM_51
                  have h_54 := hRk_18.ext hx_53
                  have h_55 := hIi_23.x5 (xExt.x5 hx_53)
                  refine lv_dup hC.1 hC.2.1 dX5_part_132 rfl ?_
                  refine x_const hC dX5_part_133 ?_
                  refine lv_iload_n hC.1 hC.2.1 dX5_part_134 rfl (lv_at hl 4 rfl) ?_
                  refine x_callS hC hw (lv_size hl) (c_X5_one l G (M := M_50) (p0 := p2) (by omega)) gX5_part_X5_one rfl dv_X5_one_s rfl (Nat.le_of_ble_eq_true rfl) (by rw [hRf]; decide) (by rw [hRl]; decide) (by omega) (by omega) dX5_part_135 (fun r9 M_56 H locs hq hw => ?_)
                  obtain ⟨z_57, rfl, hM9, hz_57a, hz_57b⟩ := hq
                  rw [hM9] at hw
                  show W p l e R s m args below meth c H locs _ _ _ (F0 m 138 ls [.int (iN (z_57)), .int (iN (2)), .ref q_36, .ref q_36, .ref a])
                  refine x_iast hC hw hA_52 (by omega) (by omega) (by omega) dX5_part_138 (fun H locs hw => ?_)
                  obtain ⟨M_58, hM_59⟩ : ∃ z, z = va_up M_50 q_36 (some (.inl (G.2 1, 5, .inl (upd (upd (upd (fun _ => 0) (0 : Int).toNat (iN (((ti_23.b : Nat) : Int)))) (1 : Int).toNat (iN (p1))) (2 : Int).toNat (iN (z_57)))))) := ⟨_, rfl⟩
                  rw [← hM_59] at hw
                  have hA_60 : M_58 q_36 = some (.inl (G.2 1, 5, .inl (upd (upd (upd (fun _ => 0) (0 : Int).toNat (iN (((ti_23.b : Nat) : Int)))) (1 : Int).toNat (iN (p1))) (2 : Int).toNat (iN (z_57))))) := by rw [hM_59, va_up_self]
                  have hx_61 := xExt.upd hq_37 hx_53 hM_59
                  have h_62 := hRk_18.ext hx_61
                  have h_63 := hIi_23.x5 (xExt.x5 hx_61)
                  refine lv_dup hC.1 hC.2.1 dX5_part_139 rfl ?_
                  refine x_const hC dX5_part_140 ?_
                  refine lv_iload hC.1 hC.2.1 dX5_part_141 (lv_at hl 5 rfl) ?_
                  refine x_iast hC hw hA_60 (by omega) (by omega) (by omega) dX5_part_143 (fun H locs hw => ?_)
                  obtain ⟨M_64, hM_65⟩ : ∃ z, z = va_up M_58 q_36 (some (.inl (G.2 1, 5, .inl (upd (upd (upd (upd (fun _ => 0) (0 : Int).toNat (iN (((ti_23.b : Nat) : Int)))) (1 : Int).toNat (iN (p1))) (2 : Int).toNat (iN (z_57))) (3 : Int).toNat (iN (p3)))))) := ⟨_, rfl⟩
                  rw [← hM_65] at hw
                  have hA_66 : M_64 q_36 = some (.inl (G.2 1, 5, .inl (upd (upd (upd (upd (fun _ => 0) (0 : Int).toNat (iN (((ti_23.b : Nat) : Int)))) (1 : Int).toNat (iN (p1))) (2 : Int).toNat (iN (z_57))) (3 : Int).toNat (iN (p3))))) := by rw [hM_65, va_up_self]
                  have hx_67 := xExt.upd hq_37 hx_61 hM_65
                  have h_68 := hRk_18.ext hx_67
                  have h_69 := hIi_23.x5 (xExt.x5 hx_67)
                  refine lv_dup hC.1 hC.2.1 dX5_part_144 rfl ?_
                  refine x_const hC dX5_part_145 ?_
                  refine lv_iload hC.1 hC.2.1 dX5_part_146 (lv_at hl 6 rfl) ?_
                  refine x_callS hC hw (lv_size hl) (c_X5_one l G (M := M_64) (p0 := p4) (by omega)) gX5_part_X5_one rfl dv_X5_one_s rfl (Nat.le_of_ble_eq_true rfl) (by rw [hRf]; decide) (by rw [hRl]; decide) (by omega) (by omega) dX5_part_148 (fun r9 M_70 H locs hq hw => ?_)
                  obtain ⟨z_71, rfl, hM9, hz_71a, hz_71b⟩ := hq
                  rw [hM9] at hw
                  show W p l e R s m args below meth c H locs _ _ _ (F0 m 151 ls [.int (iN (z_71)), .int (iN (4)), .ref q_36, .ref q_36, .ref a])
                  refine x_iast hC hw hA_66 (by omega) (by omega) (by omega) dX5_part_151 (fun H locs hw => ?_)
                  obtain ⟨M_72, hM_73⟩ : ∃ z, z = va_up M_64 q_36 (some (.inl (G.2 1, 5, .inl (upd (upd (upd (upd (upd (fun _ => 0) (0 : Int).toNat (iN (((ti_23.b : Nat) : Int)))) (1 : Int).toNat (iN (p1))) (2 : Int).toNat (iN (z_57))) (3 : Int).toNat (iN (p3))) (4 : Int).toNat (iN (z_71)))))) := ⟨_, rfl⟩
                  rw [← hM_73] at hw
                  have hA_74 : M_72 q_36 = some (.inl (G.2 1, 5, .inl (upd (upd (upd (upd (upd (fun _ => 0) (0 : Int).toNat (iN (((ti_23.b : Nat) : Int)))) (1 : Int).toNat (iN (p1))) (2 : Int).toNat (iN (z_57))) (3 : Int).toNat (iN (p3))) (4 : Int).toNat (iN (z_71))))) := by rw [hM_73, va_up_self]
                  have hx_75 := xExt.upd hq_37 hx_67 hM_73
                  have h_76 := hRk_18.ext hx_75
                  have h_77 := hIi_23.x5 (xExt.x5 hx_75)
                  have hI_78 : Its G M_72 q_36 (upd (upd (upd (upd (upd (fun _ => 0) (0 : Int).toNat (iN (((ti_23.b : Nat) : Int)))) (1 : Int).toNat (iN (p1))) (2 : Int).toNat (iN (z_57))) (3 : Int).toNat (iN (p3))) (4 : Int).toNat (iN (z_71))) (ti_23.b, p1, p3, p2, p4) := ⟨hA_74, ⟨(show ti_23.b < 3 by omega), (show p1 = -10000 ∨ (0 ≤ p1 ∧ p1 ≤ 99) by omega), (show p3 = -10000 ∨ (0 ≤ p3 ∧ p3 ≤ 99) by omega), (show p2 = 0 ∨ p2 = 1 by omega), (show p4 = 0 ∨ p4 = 1 by omega)⟩, rfl, rfl, (show iN (z_57) = iN _ by rw [show z_57 = p2 by omega]), rfl, (show iN (z_71) = iN _ by rw [show z_71 = p4 by omega])⟩
                  refine x_callV hC hw (lv_size hl) (c_X5_open l G h_76 hI_78 (by omega)) gX5_part_X5_open rfl dv_X5_open h_76.1.1 rfl rfl (Nat.le_of_ble_eq_true rfl) (by rw [hRf]; decide) (by rw [hRl]; decide) (by omega) (by omega) dX5_part_152 (fun r9 M_79 H locs hq hw => ?_)
                  obtain ⟨z_81, fyk_80, Wvk_80, rfl, hz_81a, hz_81f, he0k_80, hx5k_80, hRk_80⟩ := hq
                  have h_82 := h_77.x5 hx5k_80
                  have h_83 := hI_78.x5 hx5k_80
                  have hsck_80 := hRk_80.sc
                  show W p l e R s m args below meth c H locs _ _ _ (F0 m 155 ls [.int (iN (z_81))])
                  exact x_iret hC hw dX5_part_155 (by omega) (by omega) ⟨z_81, _, rfl, by omega, Or.inl ⟨by omega, by first | trivial | omega, (by have i9 := inI_01 (O ti_23.b) (p1).toNat ti_23; have i8 := inI_01 (O ti_23.b) (p3).toNat ti_23; rw [A_part, show tvW (ST.W (O, V, Wv, K, kp, kv, rfd)) p0.toNat = ti_23 from tvW_some hui_23]; show _ = (if ((inI (O ti_23.b) ti_23 (p1).toNat = 1 ∧ inI (O ti_23.b) ti_23 (p3).toNat = 1) ∧ ¬ mwN (O ti_23.b) (p3).toNat < mwN (O ti_23.b) (p1).toNat) then (frN Wv : Int) else -20000); omega), (by have i9 := inI_01 (O ti_23.b) (p1).toNat ti_23; have i8 := inI_01 (O ti_23.b) (p3).toNat ti_23; rw [S_part, show tvW (ST.W (O, V, Wv, K, kp, kv, rfd)) p0.toNat = ti_23 from tvW_some hui_23]; show MGm _ _ _ _ _ (if ((inI (O ti_23.b) ti_23 (p1).toNat = 1 ∧ inI (O ti_23.b) ti_23 (p3).toNat = 1) ∧ ¬ mwN (O ti_23.b) (p3).toNat < mwN (O ti_23.b) (p1).toNat) then _ else _); rw [if_pos (by omega)]; exact (by have e9 := hRk_80; rw [he0k_80] at e9; exact MGm.of e9 hK))⟩⟩
                · refine x_sipush hC dX5_part_113 (by decide +kernel) ?_
                  exact x_iret hC hw dX5_part_116 (by omega) (by omega) ⟨(-20000), _, rfl, by omega, Or.inl ⟨by omega, by first | trivial | omega, (by have i9 := inI_01 (O ti_23.b) (p1).toNat ti_23; have i8 := inI_01 (O ti_23.b) (p3).toNat ti_23; rw [A_part, show tvW (ST.W (O, V, Wv, K, kp, kv, rfd)) p0.toNat = ti_23 from tvW_some hui_23]; show _ = (if ((inI (O ti_23.b) ti_23 (p1).toNat = 1 ∧ inI (O ti_23.b) ti_23 (p3).toNat = 1) ∧ ¬ mwN (O ti_23.b) (p3).toNat < mwN (O ti_23.b) (p1).toNat) then (frN Wv : Int) else -20000); omega), (by have i9 := inI_01 (O ti_23.b) (p1).toNat ti_23; have i8 := inI_01 (O ti_23.b) (p3).toNat ti_23; rw [S_part, show tvW (ST.W (O, V, Wv, K, kp, kv, rfd)) p0.toNat = ti_23 from tvW_some hui_23]; show MGm _ _ _ _ _ (if ((inI (O ti_23.b) ti_23 (p1).toNat = 1 ∧ inI (O ti_23.b) ti_23 (p3).toNat = 1) ∧ ¬ mwN (O ti_23.b) (p3).toNat < mwN (O ti_23.b) (p1).toNat) then _ else _); rw [if_neg (by omega)]; exact MGm.of hRk_18 hK)⟩⟩
          · refine x_const hC dX5_part_64 ?_
            exact x_iret hC hw dX5_part_65 (by omega) (by omega) ⟨0, _, rfl, by omega, Or.inr ⟨by omega, by omega, MGm.of hRk_18 hK⟩⟩
        · refine x_const hC dX5_part_52 ?_
          refine lv_goto (tgt := 57) hC.1 hC.2.1 dX5_part_53 (by decide) ?_
          refine x_const hC dX5_part_57 ?_
          refine x_callV hC hw (lv_size hl) (c_X5_refuse l G hRk_11 (p0 := 1) (by omega) (p1 := 3) (by omega) (by omega)) gX5_part_X5_refuse rfl dv_X5_refuse hRk_11.1.1 rfl rfl (Nat.le_of_ble_eq_true rfl) (by rw [hRf]; decide) (by rw [hRl]; decide) (by omega) (by omega) dX5_part_58 (fun r9 M_84 H locs hq hw => ?_)
          obtain ⟨z_86, thk_85, rfl, hz_86a, hz_86b, hz_86c0, hz_86c1, hx5k_85, hRk_85⟩ := hq
          have hsck_85 := hRk_85.sc
          show W p l e R s m args below meth c H locs _ _ _ (F0 m 61 ls [.int (iN (z_86))])
          refine x_if_eq (tgt := 66) hC ⟨by omega, by omega⟩ dX5_part_61 (by decide) (fun c_87 => ?_) (fun c_87 => ?_)
          · refine lv_aload_n hC.1 hC.2.1 dX5_part_66 rfl (lv_at hl 0 rfl) ?_
            refine x_get hC hw hRk_85.1.1 rfl hinX5 5 (by decide) (by decide +kernel) rfl dX5_part_67 ?_
            refine lv_iload_n hC.1 hC.2.1 dX5_part_70 rfl (lv_at hl 1 rfl) ?_
            refine x_ald4 hC hw hRk_85.1.2.2.2.2.1 (by omega) (by omega) (by omega) dX5_part_71 ?_
            obtain ⟨y_88, hy_89⟩ := x_some (hz_2n (by omega))
            rw [hy_89]
            obtain ⟨ti_90, fi_90, hui_90, hIi_90⟩ := (hRk_85.vw (show (p0).toNat < 4 by omega)).yes hy_89
            obtain ⟨htat_91, htbt_91, htct_91, htdt_91, htet_91⟩ := id hIi_90.2.1
            show W p l e R s m args below meth c _ _ _ _ _ (F0 m 72 ls [.ref y_88])
            refine lv_astore (lv' := [(6, .ref y_88), (0, .ref a), (1, .int (iN (p0))), (2, .int (iN (p1))), (3, .int (iN (p2))), (4, .int (iN (p3))), (5, .int (iN (p4)))]) hC.1 hC.2.1 dX5_part_72 hl (by decide) rfl (fun ls hl => ?_)
            refine lv_aload_n hC.1 hC.2.1 dX5_part_74 rfl (lv_at hl 1 rfl) ?_
            refine lv_aload hC.1 hC.2.1 dX5_part_75 (lv_at hl 0 rfl) ?_
            refine lv_iload_n hC.1 hC.2.1 dX5_part_77 rfl (lv_at hl 3 rfl) ?_
            refine x_callV hC hw (lv_size hl) (c_X5_isWithin l G hRk_85 hIi_90 (p0 := p1) (by omega) (by omega)) gX5_part_X5_isWithin rfl dv_X5_isWithin hRk_85.1.1 rfl rfl (Nat.le_of_ble_eq_true rfl) (by rw [hRf]; decide) (by rw [hRl]; decide) (by omega) (by omega) dX5_part_78 (fun r9 M_92 H locs hq hw => ?_)
            obtain ⟨z_93, rfl, hM9, hz_93a, hz_93w⟩ := hq
            rw [hM9] at hw
            show W p l e R s m args below meth c H locs _ _ _ (F0 m 81 ls [.int (iN (z_93))])
            refine x_if_eq (tgt := 113) hC ⟨by omega, by omega⟩ dX5_part_81 (by decide) (fun c_94 => ?_) (fun c_94 => ?_)
            · refine x_sipush hC dX5_part_113 (by decide +kernel) ?_
              exact x_iret hC hw dX5_part_116 (by omega) (by omega) ⟨(-20000), _, rfl, by omega, Or.inl ⟨by omega, by first | trivial | omega, (by have i9 := inI_01 (O ti_90.b) (p1).toNat ti_90; have i8 := inI_01 (O ti_90.b) (p3).toNat ti_90; rw [A_part, show tvW (ST.W (O, V, Wv, K, kp, kv, rfd)) p0.toNat = ti_90 from tvW_some hui_90]; show _ = (if ((inI (O ti_90.b) ti_90 (p1).toNat = 1 ∧ inI (O ti_90.b) ti_90 (p3).toNat = 1) ∧ ¬ mwN (O ti_90.b) (p3).toNat < mwN (O ti_90.b) (p1).toNat) then (frN Wv : Int) else -20000); omega), (by have i9 := inI_01 (O ti_90.b) (p1).toNat ti_90; have i8 := inI_01 (O ti_90.b) (p3).toNat ti_90; rw [S_part, show tvW (ST.W (O, V, Wv, K, kp, kv, rfd)) p0.toNat = ti_90 from tvW_some hui_90]; show MGm _ _ _ _ _ (if ((inI (O ti_90.b) ti_90 (p1).toNat = 1 ∧ inI (O ti_90.b) ti_90 (p3).toNat = 1) ∧ ¬ mwN (O ti_90.b) (p3).toNat < mwN (O ti_90.b) (p1).toNat) then _ else _); rw [if_neg (by omega)]; exact MGm.of hRk_85 hK)⟩⟩
            · refine lv_aload_n hC.1 hC.2.1 dX5_part_84 rfl (lv_at hl 1 rfl) ?_
              refine lv_aload hC.1 hC.2.1 dX5_part_85 (lv_at hl 0 rfl) ?_
              refine lv_iload hC.1 hC.2.1 dX5_part_87 (lv_at hl 5 rfl) ?_
              refine x_callV hC hw (lv_size hl) (c_X5_isWithin l G hRk_85 hIi_90 (p0 := p3) (by omega) (by omega)) gX5_part_X5_isWithin rfl dv_X5_isWithin hRk_85.1.1 rfl rfl (Nat.le_of_ble_eq_true rfl) (by rw [hRf]; decide) (by rw [hRl]; decide) (by omega) (by omega) dX5_part_89 (fun r9 M_95 H locs hq hw => ?_)
              obtain ⟨z_96, rfl, hM9, hz_96a, hz_96w⟩ := hq
              rw [hM9] at hw
              show W p l e R s m args below meth c H locs _ _ _ (F0 m 92 ls [.int (iN (z_96))])
              refine x_if_eq (tgt := 113) hC ⟨by omega, by omega⟩ dX5_part_92 (by decide) (fun c_97 => ?_) (fun c_97 => ?_)
              · refine x_sipush hC dX5_part_113 (by decide +kernel) ?_
                exact x_iret hC hw dX5_part_116 (by omega) (by omega) ⟨(-20000), _, rfl, by omega, Or.inl ⟨by omega, by first | trivial | omega, (by have i9 := inI_01 (O ti_90.b) (p1).toNat ti_90; have i8 := inI_01 (O ti_90.b) (p3).toNat ti_90; rw [A_part, show tvW (ST.W (O, V, Wv, K, kp, kv, rfd)) p0.toNat = ti_90 from tvW_some hui_90]; show _ = (if ((inI (O ti_90.b) ti_90 (p1).toNat = 1 ∧ inI (O ti_90.b) ti_90 (p3).toNat = 1) ∧ ¬ mwN (O ti_90.b) (p3).toNat < mwN (O ti_90.b) (p1).toNat) then (frN Wv : Int) else -20000); omega), (by have i9 := inI_01 (O ti_90.b) (p1).toNat ti_90; have i8 := inI_01 (O ti_90.b) (p3).toNat ti_90; rw [S_part, show tvW (ST.W (O, V, Wv, K, kp, kv, rfd)) p0.toNat = ti_90 from tvW_some hui_90]; show MGm _ _ _ _ _ (if ((inI (O ti_90.b) ti_90 (p1).toNat = 1 ∧ inI (O ti_90.b) ti_90 (p3).toNat = 1) ∧ ¬ mwN (O ti_90.b) (p3).toNat < mwN (O ti_90.b) (p1).toNat) then _ else _); rw [if_neg (by omega)]; exact MGm.of hRk_85 hK)⟩⟩
              · refine lv_aload_n hC.1 hC.2.1 dX5_part_95 rfl (lv_at hl 1 rfl) ?_
                refine lv_aload hC.1 hC.2.1 dX5_part_96 (lv_at hl 0 rfl) ?_
                refine lv_iload_n hC.1 hC.2.1 dX5_part_98 rfl (lv_at hl 3 rfl) ?_
                refine x_callV hC hw (lv_size hl) (c_X5_weight l G hRk_85 hIi_90 (p0 := p1) (by omega) (by omega)) gX5_part_X5_weight rfl dv_X5_weight hRk_85.1.1 rfl rfl (Nat.le_of_ble_eq_true rfl) (by rw [hRf]; decide) (by rw [hRl]; decide) (by omega) (by omega) dX5_part_99 (fun r9 M_98 H locs hq hw => ?_)
                obtain ⟨z_99, rfl, hM9, hz_99a, hz_99b⟩ := hq
                rw [hM9] at hw
                show W p l e R s m args below meth c H locs _ _ _ (F0 m 102 ls [.int (iN (z_99))])
                refine lv_aload_n hC.1 hC.2.1 dX5_part_102 rfl (lv_at hl 1 rfl) ?_
                refine lv_aload hC.1 hC.2.1 dX5_part_103 (lv_at hl 0 rfl) ?_
                refine lv_iload hC.1 hC.2.1 dX5_part_105 (lv_at hl 5 rfl) ?_
                refine x_callV hC hw (lv_size hl) (c_X5_weight l G hRk_85 hIi_90 (p0 := p3) (by omega) (by omega)) gX5_part_X5_weight rfl dv_X5_weight hRk_85.1.1 rfl rfl (Nat.le_of_ble_eq_true rfl) (by rw [hRf]; decide) (by rw [hRl]; decide) (by omega) (by omega) dX5_part_107 (fun r9 M_100 H locs hq hw => ?_)
                obtain ⟨z_101, rfl, hM9, hz_101a, hz_101b⟩ := hq
                rw [hM9] at hw
                show W p l e R s m args below meth c H locs _ _ _ (F0 m 110 ls [.int (iN (z_101)), .int (iN (z_99))])
                refine x_icmp_le (tgt := 117) hC ⟨by omega, by omega⟩ ⟨by omega, by omega⟩ dX5_part_110 (by decide) (fun c_102 => ?_) (fun c_102 => ?_)
                · refine lv_aload_n hC.1 hC.2.1 dX5_part_117 rfl (lv_at hl 1 rfl) ?_
                  refine x_const hC dX5_part_118 ?_
                  refine x_newI hC hw (by decide +kernel) 5 rfl (by decide) (by omega) (by omega) dX5_part_119 (fun q_103 H hq_104 hw => ?_)
                  obtain ⟨M_105, hM_106⟩ : ∃ z, z = va_up M_84 q_103 (some (.inl (G.2 1, 5, .inl (fun _ => 0)))) := ⟨_, rfl⟩
                  rw [← hM_106] at hw
                  have hx_107 : xExt M_84 M_105 := by rw [hM_106]; exact xExt.new hq_104
                  have hA_108 : M_105 q_103 = some (.inl (G.2 1, 5, .inl (fun _ => 0))) := by rw [hM_106, va_up_self]
                  have h_109 := hRk_85.ext hx_107
                  have h_110 := hIi_90.x5 (xExt.x5 hx_107)
                  refine lv_dup hC.1 hC.2.1 dX5_part_121 rfl ?_
                  refine x_const hC dX5_part_122 ?_
                  refine lv_aload hC.1 hC.2.1 dX5_part_123 (lv_at hl 0 rfl) ?_
                  refine x_const hC dX5_part_125 ?_
                  refine x_ialdE (x := ((ti_90.b : Nat) : Int)) hC hw h_110.1 (by omega) (by omega) (by omega) dX5_part_126 h_110.2.2.1 ?_
                  refine x_iast hC hw hA_108 (by omega) (by omega) (by omega) dX5_part_127 (fun H locs hw => ?_)
                  obtain ⟨M_111, hM_112⟩ : ∃ z, z = va_up M_105 q_103 (some (.inl (G.2 1, 5, .inl (upd (fun _ => 0) (0 : Int).toNat (iN (((ti_90.b : Nat) : Int))))))) := ⟨_, rfl⟩
                  rw [← hM_112] at hw
                  have hA_113 : M_111 q_103 = some (.inl (G.2 1, 5, .inl (upd (fun _ => 0) (0 : Int).toNat (iN (((ti_90.b : Nat) : Int)))))) := by rw [hM_112, va_up_self]
                  have hx_114 := xExt.upd hq_104 hx_107 hM_112
                  have h_115 := hRk_85.ext hx_114
                  have h_116 := hIi_90.x5 (xExt.x5 hx_114)
                  refine lv_dup hC.1 hC.2.1 dX5_part_128 rfl ?_
                  refine x_const hC dX5_part_129 ?_
                  refine lv_iload_n hC.1 hC.2.1 dX5_part_130 rfl (lv_at hl 3 rfl) ?_
                  refine x_iast hC hw hA_113 (by omega) (by omega) (by omega) dX5_part_131 (fun H locs hw => ?_)
                  obtain ⟨M_117, hM_118⟩ : ∃ z, z = va_up M_111 q_103 (some (.inl (G.2 1, 5, .inl (upd (upd (fun _ => 0) (0 : Int).toNat (iN (((ti_90.b : Nat) : Int)))) (1 : Int).toNat (iN (p1)))))) := ⟨_, rfl⟩
                  rw [← hM_118] at hw
                  have hA_119 : M_117 q_103 = some (.inl (G.2 1, 5, .inl (upd (upd (fun _ => 0) (0 : Int).toNat (iN (((ti_90.b : Nat) : Int)))) (1 : Int).toNat (iN (p1))))) := by rw [hM_118, va_up_self]
                  have hx_120 := xExt.upd hq_104 hx_114 hM_118
                  have h_121 := hRk_85.ext hx_120
                  have h_122 := hIi_90.x5 (xExt.x5 hx_120)
                  refine lv_dup hC.1 hC.2.1 dX5_part_132 rfl ?_
                  refine x_const hC dX5_part_133 ?_
                  refine lv_iload_n hC.1 hC.2.1 dX5_part_134 rfl (lv_at hl 4 rfl) ?_
                  refine x_callS hC hw (lv_size hl) (c_X5_one l G (M := M_117) (p0 := p2) (by omega)) gX5_part_X5_one rfl dv_X5_one_s rfl (Nat.le_of_ble_eq_true rfl) (by rw [hRf]; decide) (by rw [hRl]; decide) (by omega) (by omega) dX5_part_135 (fun r9 M_123 H locs hq hw => ?_)
                  obtain ⟨z_124, rfl, hM9, hz_124a, hz_124b⟩ := hq
                  rw [hM9] at hw
                  show W p l e R s m args below meth c H locs _ _ _ (F0 m 138 ls [.int (iN (z_124)), .int (iN (2)), .ref q_103, .ref q_103, .ref a])
                  refine x_iast hC hw hA_119 (by omega) (by omega) (by omega) dX5_part_138 (fun H locs hw => ?_)
                  obtain ⟨M_125, hM_126⟩ : ∃ z, z = va_up M_117 q_103 (some (.inl (G.2 1, 5, .inl (upd (upd (upd (fun _ => 0) (0 : Int).toNat (iN (((ti_90.b : Nat) : Int)))) (1 : Int).toNat (iN (p1))) (2 : Int).toNat (iN (z_124)))))) := ⟨_, rfl⟩
                  rw [← hM_126] at hw
                  have hA_127 : M_125 q_103 = some (.inl (G.2 1, 5, .inl (upd (upd (upd (fun _ => 0) (0 : Int).toNat (iN (((ti_90.b : Nat) : Int)))) (1 : Int).toNat (iN (p1))) (2 : Int).toNat (iN (z_124))))) := by rw [hM_126, va_up_self]
                  have hx_128 := xExt.upd hq_104 hx_120 hM_126
                  have h_129 := hRk_85.ext hx_128
                  have h_130 := hIi_90.x5 (xExt.x5 hx_128)
                  refine lv_dup hC.1 hC.2.1 dX5_part_139 rfl ?_
                  refine x_const hC dX5_part_140 ?_
                  refine lv_iload hC.1 hC.2.1 dX5_part_141 (lv_at hl 5 rfl) ?_
                  refine x_iast hC hw hA_127 (by omega) (by omega) (by omega) dX5_part_143 (fun H locs hw => ?_)
                  obtain ⟨M_131, hM_132⟩ : ∃ z, z = va_up M_125 q_103 (some (.inl (G.2 1, 5, .inl (upd (upd (upd (upd (fun _ => 0) (0 : Int).toNat (iN (((ti_90.b : Nat) : Int)))) (1 : Int).toNat (iN (p1))) (2 : Int).toNat (iN (z_124))) (3 : Int).toNat (iN (p3)))))) := ⟨_, rfl⟩
                  rw [← hM_132] at hw
                  have hA_133 : M_131 q_103 = some (.inl (G.2 1, 5, .inl (upd (upd (upd (upd (fun _ => 0) (0 : Int).toNat (iN (((ti_90.b : Nat) : Int)))) (1 : Int).toNat (iN (p1))) (2 : Int).toNat (iN (z_124))) (3 : Int).toNat (iN (p3))))) := by rw [hM_132, va_up_self]
                  have hx_134 := xExt.upd hq_104 hx_128 hM_132
                  have h_135 := hRk_85.ext hx_134
                  have h_136 := hIi_90.x5 (xExt.x5 hx_134)
                  refine lv_dup hC.1 hC.2.1 dX5_part_144 rfl ?_
                  refine x_const hC dX5_part_145 ?_
                  refine lv_iload hC.1 hC.2.1 dX5_part_146 (lv_at hl 6 rfl) ?_
                  refine x_callS hC hw (lv_size hl) (c_X5_one l G (M := M_131) (p0 := p4) (by omega)) gX5_part_X5_one rfl dv_X5_one_s rfl (Nat.le_of_ble_eq_true rfl) (by rw [hRf]; decide) (by rw [hRl]; decide) (by omega) (by omega) dX5_part_148 (fun r9 M_137 H locs hq hw => ?_)
                  obtain ⟨z_138, rfl, hM9, hz_138a, hz_138b⟩ := hq
                  rw [hM9] at hw
                  show W p l e R s m args below meth c H locs _ _ _ (F0 m 151 ls [.int (iN (z_138)), .int (iN (4)), .ref q_103, .ref q_103, .ref a])
                  refine x_iast hC hw hA_133 (by omega) (by omega) (by omega) dX5_part_151 (fun H locs hw => ?_)
                  obtain ⟨M_139, hM_140⟩ : ∃ z, z = va_up M_131 q_103 (some (.inl (G.2 1, 5, .inl (upd (upd (upd (upd (upd (fun _ => 0) (0 : Int).toNat (iN (((ti_90.b : Nat) : Int)))) (1 : Int).toNat (iN (p1))) (2 : Int).toNat (iN (z_124))) (3 : Int).toNat (iN (p3))) (4 : Int).toNat (iN (z_138)))))) := ⟨_, rfl⟩
                  rw [← hM_140] at hw
                  have hA_141 : M_139 q_103 = some (.inl (G.2 1, 5, .inl (upd (upd (upd (upd (upd (fun _ => 0) (0 : Int).toNat (iN (((ti_90.b : Nat) : Int)))) (1 : Int).toNat (iN (p1))) (2 : Int).toNat (iN (z_124))) (3 : Int).toNat (iN (p3))) (4 : Int).toNat (iN (z_138))))) := by rw [hM_140, va_up_self]
                  have hx_142 := xExt.upd hq_104 hx_134 hM_140
                  have h_143 := hRk_85.ext hx_142
                  have h_144 := hIi_90.x5 (xExt.x5 hx_142)
                  have hI_145 : Its G M_139 q_103 (upd (upd (upd (upd (upd (fun _ => 0) (0 : Int).toNat (iN (((ti_90.b : Nat) : Int)))) (1 : Int).toNat (iN (p1))) (2 : Int).toNat (iN (z_124))) (3 : Int).toNat (iN (p3))) (4 : Int).toNat (iN (z_138))) (ti_90.b, p1, p3, p2, p4) := ⟨hA_141, ⟨(show ti_90.b < 3 by omega), (show p1 = -10000 ∨ (0 ≤ p1 ∧ p1 ≤ 99) by omega), (show p3 = -10000 ∨ (0 ≤ p3 ∧ p3 ≤ 99) by omega), (show p2 = 0 ∨ p2 = 1 by omega), (show p4 = 0 ∨ p4 = 1 by omega)⟩, rfl, rfl, (show iN (z_124) = iN _ by rw [show z_124 = p2 by omega]), rfl, (show iN (z_138) = iN _ by rw [show z_138 = p4 by omega])⟩
                  refine x_callV hC hw (lv_size hl) (c_X5_open l G h_143 hI_145 (by omega)) gX5_part_X5_open rfl dv_X5_open h_143.1.1 rfl rfl (Nat.le_of_ble_eq_true rfl) (by rw [hRf]; decide) (by rw [hRl]; decide) (by omega) (by omega) dX5_part_152 (fun r9 M_146 H locs hq hw => ?_)
                  obtain ⟨z_148, fyk_147, Wvk_147, rfl, hz_148a, hz_148f, he0k_147, hx5k_147, hRk_147⟩ := hq
                  have h_149 := h_144.x5 hx5k_147
                  have h_150 := hI_145.x5 hx5k_147
                  have hsck_147 := hRk_147.sc
                  show W p l e R s m args below meth c H locs _ _ _ (F0 m 155 ls [.int (iN (z_148))])
                  exact x_iret hC hw dX5_part_155 (by omega) (by omega) ⟨z_148, _, rfl, by omega, Or.inl ⟨by omega, by first | trivial | omega, (by have i9 := inI_01 (O ti_90.b) (p1).toNat ti_90; have i8 := inI_01 (O ti_90.b) (p3).toNat ti_90; rw [A_part, show tvW (ST.W (O, V, Wv, K, kp, kv, rfd)) p0.toNat = ti_90 from tvW_some hui_90]; show _ = (if ((inI (O ti_90.b) ti_90 (p1).toNat = 1 ∧ inI (O ti_90.b) ti_90 (p3).toNat = 1) ∧ ¬ mwN (O ti_90.b) (p3).toNat < mwN (O ti_90.b) (p1).toNat) then (frN Wv : Int) else -20000); omega), (by have i9 := inI_01 (O ti_90.b) (p1).toNat ti_90; have i8 := inI_01 (O ti_90.b) (p3).toNat ti_90; rw [S_part, show tvW (ST.W (O, V, Wv, K, kp, kv, rfd)) p0.toNat = ti_90 from tvW_some hui_90]; show MGm _ _ _ _ _ (if ((inI (O ti_90.b) ti_90 (p1).toNat = 1 ∧ inI (O ti_90.b) ti_90 (p3).toNat = 1) ∧ ¬ mwN (O ti_90.b) (p3).toNat < mwN (O ti_90.b) (p1).toNat) then _ else _); rw [if_pos (by omega)]; exact (by have e9 := hRk_147; rw [he0k_147] at e9; exact MGm.of e9 hK))⟩⟩
                · refine x_sipush hC dX5_part_113 (by decide +kernel) ?_
                  exact x_iret hC hw dX5_part_116 (by omega) (by omega) ⟨(-20000), _, rfl, by omega, Or.inl ⟨by omega, by first | trivial | omega, (by have i9 := inI_01 (O ti_90.b) (p1).toNat ti_90; have i8 := inI_01 (O ti_90.b) (p3).toNat ti_90; rw [A_part, show tvW (ST.W (O, V, Wv, K, kp, kv, rfd)) p0.toNat = ti_90 from tvW_some hui_90]; show _ = (if ((inI (O ti_90.b) ti_90 (p1).toNat = 1 ∧ inI (O ti_90.b) ti_90 (p3).toNat = 1) ∧ ¬ mwN (O ti_90.b) (p3).toNat < mwN (O ti_90.b) (p1).toNat) then (frN Wv : Int) else -20000); omega), (by have i9 := inI_01 (O ti_90.b) (p1).toNat ti_90; have i8 := inI_01 (O ti_90.b) (p3).toNat ti_90; rw [S_part, show tvW (ST.W (O, V, Wv, K, kp, kv, rfd)) p0.toNat = ti_90 from tvW_some hui_90]; show MGm _ _ _ _ _ (if ((inI (O ti_90.b) ti_90 (p1).toNat = 1 ∧ inI (O ti_90.b) ti_90 (p3).toNat = 1) ∧ ¬ mwN (O ti_90.b) (p3).toNat < mwN (O ti_90.b) (p1).toNat) then _ else _); rw [if_neg (by omega)]; exact MGm.of hRk_85 hK)⟩⟩
          · refine x_const hC dX5_part_64 ?_
            exact x_iret hC hw dX5_part_65 (by omega) (by omega) ⟨0, _, rfl, by omega, Or.inr ⟨by omega, by omega, MGm.of hRk_85 hK⟩⟩
    · refine lv_iload hC.1 hC.2.1 dX5_part_21 (lv_at hl 4 rfl) ?_
      refine x_callS hC hw (lv_size hl) (c_X5_isNoKey l G (M := M_3) (p0 := p3) (by omega)) gX5_part_X5_isNoKey rfl dv_X5_isNoKey_s rfl (Nat.le_of_ble_eq_true rfl) (by rw [hRf]; decide) (by rw [hRl]; decide) (by omega) (by omega) dX5_part_23 (fun r9 M_151 H locs hq hw => ?_)
      obtain ⟨z_152, rfl, hM9, hz_152a, hz_152b⟩ := hq
      rw [hM9] at hw
      show W p l e R s m args below meth c H locs _ _ _ (F0 m 26 ls [.int (iN (z_152)), .ref a])
      refine x_if_eq (tgt := 33) hC ⟨by omega, by omega⟩ dX5_part_26 (by decide) (fun c_153 => ?_) (fun c_153 => ?_)
      · refine x_const hC dX5_part_33 ?_
        refine x_const hC dX5_part_34 ?_
        refine x_callV hC hw (lv_size hl) (c_X5_refuse l G hRk_4 (p0 := 0) (by omega) (p1 := 2) (by omega) (by omega)) gX5_part_X5_refuse rfl dv_X5_refuse hRk_4.1.1 rfl rfl (Nat.le_of_ble_eq_true rfl) (by rw [hRf]; decide) (by rw [hRl]; decide) (by omega) (by omega) dX5_part_35 (fun r9 M_154 H locs hq hw => ?_)
        obtain ⟨z_156, thk_155, rfl, hz_156a, hz_156b, hz_156c0, hz_156c1, hx5k_155, hRk_155⟩ := hq
        have hsck_155 := hRk_155.sc
        show W p l e R s m args below meth c H locs _ _ _ (F0 m 38 ls [.int (iN (z_156))])
        refine x_if_ne (tgt := 64) hC ⟨by omega, by omega⟩ dX5_part_38 (by decide) (fun c_157 => ?_) (fun c_157 => ?_)
        · refine x_const hC dX5_part_64 ?_
          exact x_iret hC hw dX5_part_65 (by omega) (by omega) ⟨0, _, rfl, by omega, Or.inr ⟨by omega, by omega, MGm.of hRk_155 hK⟩⟩
        · refine lv_aload_n hC.1 hC.2.1 dX5_part_41 rfl (lv_at hl 0 rfl) ?_
          refine lv_aload_n hC.1 hC.2.1 dX5_part_42 rfl (lv_at hl 0 rfl) ?_
          refine x_callV hC hw (lv_size hl) (c_X5_free l G hRk_155) gX5_part_X5_free rfl dv_X5_free hRk_155.1.1 rfl rfl (Nat.le_of_ble_eq_true rfl) (by rw [hRf]; decide) (by rw [hRl]; decide) (by omega) (by omega) dX5_part_43 (fun r9 M_158 H locs hq hw => ?_)
          obtain ⟨z_159, rfl, hM9, hz_159a, hz_159f⟩ := hq
          rw [hM9] at hw
          show W p l e R s m args below meth c H locs _ _ _ (F0 m 46 ls [.int (iN (z_159)), .ref a])
          refine x_sipush hC dX5_part_46 (by decide +kernel) ?_
          refine x_icmp_ne (tgt := 56) hC ⟨by omega, by omega⟩ ⟨by omega, by omega⟩ dX5_part_49 (by decide) (fun c_160 => ?_) (fun c_160 => ?_)
          · refine x_const hC dX5_part_56 ?_
            refine x_const hC dX5_part_57 ?_
            refine x_callV hC hw (lv_size hl) (c_X5_refuse l G hRk_155 (p0 := 0) (by omega) (p1 := 3) (by omega) (by omega)) gX5_part_X5_refuse rfl dv_X5_refuse hRk_155.1.1 rfl rfl (Nat.le_of_ble_eq_true rfl) (by rw [hRf]; decide) (by rw [hRl]; decide) (by omega) (by omega) dX5_part_58 (fun r9 M_161 H locs hq hw => ?_)
            obtain ⟨z_163, thk_162, rfl, hz_163a, hz_163b, hz_163c0, hz_163c1, hx5k_162, hRk_162⟩ := hq
            have hsck_162 := hRk_162.sc
            show W p l e R s m args below meth c H locs _ _ _ (F0 m 61 ls [.int (iN (z_163))])
            refine x_if_eq (tgt := 66) hC ⟨by omega, by omega⟩ dX5_part_61 (by decide) (fun c_164 => ?_) (fun c_164 => ?_)
            · refine lv_aload_n hC.1 hC.2.1 dX5_part_66 rfl (lv_at hl 0 rfl) ?_
              refine x_get hC hw hRk_162.1.1 rfl hinX5 5 (by decide) (by decide +kernel) rfl dX5_part_67 ?_
              refine lv_iload_n hC.1 hC.2.1 dX5_part_70 rfl (lv_at hl 1 rfl) ?_
              refine x_ald4 hC hw hRk_162.1.2.2.2.2.1 (by omega) (by omega) (by omega) dX5_part_71 ?_
              obtain ⟨y_165, hy_166⟩ := x_some (hz_2n (by omega))
              rw [hy_166]
              obtain ⟨ti_167, fi_167, hui_167, hIi_167⟩ := (hRk_162.vw (show (p0).toNat < 4 by omega)).yes hy_166
              obtain ⟨htat_168, htbt_168, htct_168, htdt_168, htet_168⟩ := id hIi_167.2.1
              show W p l e R s m args below meth c _ _ _ _ _ (F0 m 72 ls [.ref y_165])
              refine lv_astore (lv' := [(6, .ref y_165), (0, .ref a), (1, .int (iN (p0))), (2, .int (iN (p1))), (3, .int (iN (p2))), (4, .int (iN (p3))), (5, .int (iN (p4)))]) hC.1 hC.2.1 dX5_part_72 hl (by decide) rfl (fun ls hl => ?_)
              refine lv_aload_n hC.1 hC.2.1 dX5_part_74 rfl (lv_at hl 1 rfl) ?_
              refine lv_aload hC.1 hC.2.1 dX5_part_75 (lv_at hl 0 rfl) ?_
              refine lv_iload_n hC.1 hC.2.1 dX5_part_77 rfl (lv_at hl 3 rfl) ?_
              refine x_callV hC hw (lv_size hl) (c_X5_isWithin l G hRk_162 hIi_167 (p0 := p1) (by omega) (by omega)) gX5_part_X5_isWithin rfl dv_X5_isWithin hRk_162.1.1 rfl rfl (Nat.le_of_ble_eq_true rfl) (by rw [hRf]; decide) (by rw [hRl]; decide) (by omega) (by omega) dX5_part_78 (fun r9 M_169 H locs hq hw => ?_)
              obtain ⟨z_170, rfl, hM9, hz_170a, hz_170w⟩ := hq
              rw [hM9] at hw
              show W p l e R s m args below meth c H locs _ _ _ (F0 m 81 ls [.int (iN (z_170))])
              refine x_if_eq (tgt := 113) hC ⟨by omega, by omega⟩ dX5_part_81 (by decide) (fun c_171 => ?_) (fun c_171 => ?_)
              · refine x_sipush hC dX5_part_113 (by decide +kernel) ?_
                exact x_iret hC hw dX5_part_116 (by omega) (by omega) ⟨(-20000), _, rfl, by omega, Or.inl ⟨by omega, by first | trivial | omega, (by have i9 := inI_01 (O ti_167.b) (p1).toNat ti_167; have i8 := inI_01 (O ti_167.b) (p3).toNat ti_167; rw [A_part, show tvW (ST.W (O, V, Wv, K, kp, kv, rfd)) p0.toNat = ti_167 from tvW_some hui_167]; show _ = (if ((inI (O ti_167.b) ti_167 (p1).toNat = 1 ∧ inI (O ti_167.b) ti_167 (p3).toNat = 1) ∧ ¬ mwN (O ti_167.b) (p3).toNat < mwN (O ti_167.b) (p1).toNat) then (frN Wv : Int) else -20000); omega), (by have i9 := inI_01 (O ti_167.b) (p1).toNat ti_167; have i8 := inI_01 (O ti_167.b) (p3).toNat ti_167; rw [S_part, show tvW (ST.W (O, V, Wv, K, kp, kv, rfd)) p0.toNat = ti_167 from tvW_some hui_167]; show MGm _ _ _ _ _ (if ((inI (O ti_167.b) ti_167 (p1).toNat = 1 ∧ inI (O ti_167.b) ti_167 (p3).toNat = 1) ∧ ¬ mwN (O ti_167.b) (p3).toNat < mwN (O ti_167.b) (p1).toNat) then _ else _); rw [if_neg (by omega)]; exact MGm.of hRk_162 hK)⟩⟩
              · refine lv_aload_n hC.1 hC.2.1 dX5_part_84 rfl (lv_at hl 1 rfl) ?_
                refine lv_aload hC.1 hC.2.1 dX5_part_85 (lv_at hl 0 rfl) ?_
                refine lv_iload hC.1 hC.2.1 dX5_part_87 (lv_at hl 5 rfl) ?_
                refine x_callV hC hw (lv_size hl) (c_X5_isWithin l G hRk_162 hIi_167 (p0 := p3) (by omega) (by omega)) gX5_part_X5_isWithin rfl dv_X5_isWithin hRk_162.1.1 rfl rfl (Nat.le_of_ble_eq_true rfl) (by rw [hRf]; decide) (by rw [hRl]; decide) (by omega) (by omega) dX5_part_89 (fun r9 M_172 H locs hq hw => ?_)
                obtain ⟨z_173, rfl, hM9, hz_173a, hz_173w⟩ := hq
                rw [hM9] at hw
                show W p l e R s m args below meth c H locs _ _ _ (F0 m 92 ls [.int (iN (z_173))])
                refine x_if_eq (tgt := 113) hC ⟨by omega, by omega⟩ dX5_part_92 (by decide) (fun c_174 => ?_) (fun c_174 => ?_)
                · refine x_sipush hC dX5_part_113 (by decide +kernel) ?_
                  exact x_iret hC hw dX5_part_116 (by omega) (by omega) ⟨(-20000), _, rfl, by omega, Or.inl ⟨by omega, by first | trivial | omega, (by have i9 := inI_01 (O ti_167.b) (p1).toNat ti_167; have i8 := inI_01 (O ti_167.b) (p3).toNat ti_167; rw [A_part, show tvW (ST.W (O, V, Wv, K, kp, kv, rfd)) p0.toNat = ti_167 from tvW_some hui_167]; show _ = (if ((inI (O ti_167.b) ti_167 (p1).toNat = 1 ∧ inI (O ti_167.b) ti_167 (p3).toNat = 1) ∧ ¬ mwN (O ti_167.b) (p3).toNat < mwN (O ti_167.b) (p1).toNat) then (frN Wv : Int) else -20000); omega), (by have i9 := inI_01 (O ti_167.b) (p1).toNat ti_167; have i8 := inI_01 (O ti_167.b) (p3).toNat ti_167; rw [S_part, show tvW (ST.W (O, V, Wv, K, kp, kv, rfd)) p0.toNat = ti_167 from tvW_some hui_167]; show MGm _ _ _ _ _ (if ((inI (O ti_167.b) ti_167 (p1).toNat = 1 ∧ inI (O ti_167.b) ti_167 (p3).toNat = 1) ∧ ¬ mwN (O ti_167.b) (p3).toNat < mwN (O ti_167.b) (p1).toNat) then _ else _); rw [if_neg (by omega)]; exact MGm.of hRk_162 hK)⟩⟩
                · refine lv_aload_n hC.1 hC.2.1 dX5_part_95 rfl (lv_at hl 1 rfl) ?_
                  refine lv_aload hC.1 hC.2.1 dX5_part_96 (lv_at hl 0 rfl) ?_
                  refine lv_iload_n hC.1 hC.2.1 dX5_part_98 rfl (lv_at hl 3 rfl) ?_
                  refine x_callV hC hw (lv_size hl) (c_X5_weight l G hRk_162 hIi_167 (p0 := p1) (by omega) (by omega)) gX5_part_X5_weight rfl dv_X5_weight hRk_162.1.1 rfl rfl (Nat.le_of_ble_eq_true rfl) (by rw [hRf]; decide) (by rw [hRl]; decide) (by omega) (by omega) dX5_part_99 (fun r9 M_175 H locs hq hw => ?_)
                  obtain ⟨z_176, rfl, hM9, hz_176a, hz_176b⟩ := hq
                  rw [hM9] at hw
                  show W p l e R s m args below meth c H locs _ _ _ (F0 m 102 ls [.int (iN (z_176))])
                  refine lv_aload_n hC.1 hC.2.1 dX5_part_102 rfl (lv_at hl 1 rfl) ?_
                  refine lv_aload hC.1 hC.2.1 dX5_part_103 (lv_at hl 0 rfl) ?_
                  refine lv_iload hC.1 hC.2.1 dX5_part_105 (lv_at hl 5 rfl) ?_
                  refine x_callV hC hw (lv_size hl) (c_X5_weight l G hRk_162 hIi_167 (p0 := p3) (by omega) (by omega)) gX5_part_X5_weight rfl dv_X5_weight hRk_162.1.1 rfl rfl (Nat.le_of_ble_eq_true rfl) (by rw [hRf]; decide) (by rw [hRl]; decide) (by omega) (by omega) dX5_part_107 (fun r9 M_177 H locs hq hw => ?_)
                  obtain ⟨z_178, rfl, hM9, hz_178a, hz_178b⟩ := hq
                  rw [hM9] at hw
                  show W p l e R s m args below meth c H locs _ _ _ (F0 m 110 ls [.int (iN (z_178)), .int (iN (z_176))])
                  refine x_icmp_le (tgt := 117) hC ⟨by omega, by omega⟩ ⟨by omega, by omega⟩ dX5_part_110 (by decide) (fun c_179 => ?_) (fun c_179 => ?_)
                  · refine lv_aload_n hC.1 hC.2.1 dX5_part_117 rfl (lv_at hl 1 rfl) ?_
                    refine x_const hC dX5_part_118 ?_
                    refine x_newI hC hw (by decide +kernel) 5 rfl (by decide) (by omega) (by omega) dX5_part_119 (fun q_180 H hq_181 hw => ?_)
                    obtain ⟨M_182, hM_183⟩ : ∃ z, z = va_up M_161 q_180 (some (.inl (G.2 1, 5, .inl (fun _ => 0)))) := ⟨_, rfl⟩
                    rw [← hM_183] at hw
                    have hx_184 : xExt M_161 M_182 := by rw [hM_183]; exact xExt.new hq_181
                    have hA_185 : M_182 q_180 = some (.inl (G.2 1, 5, .inl (fun _ => 0))) := by rw [hM_183, va_up_self]
                    have h_186 := hRk_162.ext hx_184
                    have h_187 := hIi_167.x5 (xExt.x5 hx_184)
                    refine lv_dup hC.1 hC.2.1 dX5_part_121 rfl ?_
                    refine x_const hC dX5_part_122 ?_
                    refine lv_aload hC.1 hC.2.1 dX5_part_123 (lv_at hl 0 rfl) ?_
                    refine x_const hC dX5_part_125 ?_
                    refine x_ialdE (x := ((ti_167.b : Nat) : Int)) hC hw h_187.1 (by omega) (by omega) (by omega) dX5_part_126 h_187.2.2.1 ?_
                    refine x_iast hC hw hA_185 (by omega) (by omega) (by omega) dX5_part_127 (fun H locs hw => ?_)
                    obtain ⟨M_188, hM_189⟩ : ∃ z, z = va_up M_182 q_180 (some (.inl (G.2 1, 5, .inl (upd (fun _ => 0) (0 : Int).toNat (iN (((ti_167.b : Nat) : Int))))))) := ⟨_, rfl⟩
                    rw [← hM_189] at hw
                    have hA_190 : M_188 q_180 = some (.inl (G.2 1, 5, .inl (upd (fun _ => 0) (0 : Int).toNat (iN (((ti_167.b : Nat) : Int)))))) := by rw [hM_189, va_up_self]
                    have hx_191 := xExt.upd hq_181 hx_184 hM_189
                    have h_192 := hRk_162.ext hx_191
                    have h_193 := hIi_167.x5 (xExt.x5 hx_191)
                    refine lv_dup hC.1 hC.2.1 dX5_part_128 rfl ?_
                    refine x_const hC dX5_part_129 ?_
                    refine lv_iload_n hC.1 hC.2.1 dX5_part_130 rfl (lv_at hl 3 rfl) ?_
                    refine x_iast hC hw hA_190 (by omega) (by omega) (by omega) dX5_part_131 (fun H locs hw => ?_)
                    obtain ⟨M_194, hM_195⟩ : ∃ z, z = va_up M_188 q_180 (some (.inl (G.2 1, 5, .inl (upd (upd (fun _ => 0) (0 : Int).toNat (iN (((ti_167.b : Nat) : Int)))) (1 : Int).toNat (iN (p1)))))) := ⟨_, rfl⟩
                    rw [← hM_195] at hw
                    have hA_196 : M_194 q_180 = some (.inl (G.2 1, 5, .inl (upd (upd (fun _ => 0) (0 : Int).toNat (iN (((ti_167.b : Nat) : Int)))) (1 : Int).toNat (iN (p1))))) := by rw [hM_195, va_up_self]
                    have hx_197 := xExt.upd hq_181 hx_191 hM_195
                    have h_198 := hRk_162.ext hx_197
                    have h_199 := hIi_167.x5 (xExt.x5 hx_197)
                    refine lv_dup hC.1 hC.2.1 dX5_part_132 rfl ?_
                    refine x_const hC dX5_part_133 ?_
                    refine lv_iload_n hC.1 hC.2.1 dX5_part_134 rfl (lv_at hl 4 rfl) ?_
                    refine x_callS hC hw (lv_size hl) (c_X5_one l G (M := M_194) (p0 := p2) (by omega)) gX5_part_X5_one rfl dv_X5_one_s rfl (Nat.le_of_ble_eq_true rfl) (by rw [hRf]; decide) (by rw [hRl]; decide) (by omega) (by omega) dX5_part_135 (fun r9 M_200 H locs hq hw => ?_)
                    obtain ⟨z_201, rfl, hM9, hz_201a, hz_201b⟩ := hq
                    rw [hM9] at hw
                    show W p l e R s m args below meth c H locs _ _ _ (F0 m 138 ls [.int (iN (z_201)), .int (iN (2)), .ref q_180, .ref q_180, .ref a])
                    refine x_iast hC hw hA_196 (by omega) (by omega) (by omega) dX5_part_138 (fun H locs hw => ?_)
                    obtain ⟨M_202, hM_203⟩ : ∃ z, z = va_up M_194 q_180 (some (.inl (G.2 1, 5, .inl (upd (upd (upd (fun _ => 0) (0 : Int).toNat (iN (((ti_167.b : Nat) : Int)))) (1 : Int).toNat (iN (p1))) (2 : Int).toNat (iN (z_201)))))) := ⟨_, rfl⟩
                    rw [← hM_203] at hw
                    have hA_204 : M_202 q_180 = some (.inl (G.2 1, 5, .inl (upd (upd (upd (fun _ => 0) (0 : Int).toNat (iN (((ti_167.b : Nat) : Int)))) (1 : Int).toNat (iN (p1))) (2 : Int).toNat (iN (z_201))))) := by rw [hM_203, va_up_self]
                    have hx_205 := xExt.upd hq_181 hx_197 hM_203
                    have h_206 := hRk_162.ext hx_205
                    have h_207 := hIi_167.x5 (xExt.x5 hx_205)
                    refine lv_dup hC.1 hC.2.1 dX5_part_139 rfl ?_
                    refine x_const hC dX5_part_140 ?_
                    refine lv_iload hC.1 hC.2.1 dX5_part_141 (lv_at hl 5 rfl) ?_
                    refine x_iast hC hw hA_204 (by omega) (by omega) (by omega) dX5_part_143 (fun H locs hw => ?_)
                    obtain ⟨M_208, hM_209⟩ : ∃ z, z = va_up M_202 q_180 (some (.inl (G.2 1, 5, .inl (upd (upd (upd (upd (fun _ => 0) (0 : Int).toNat (iN (((ti_167.b : Nat) : Int)))) (1 : Int).toNat (iN (p1))) (2 : Int).toNat (iN (z_201))) (3 : Int).toNat (iN (p3)))))) := ⟨_, rfl⟩
                    rw [← hM_209] at hw
                    have hA_210 : M_208 q_180 = some (.inl (G.2 1, 5, .inl (upd (upd (upd (upd (fun _ => 0) (0 : Int).toNat (iN (((ti_167.b : Nat) : Int)))) (1 : Int).toNat (iN (p1))) (2 : Int).toNat (iN (z_201))) (3 : Int).toNat (iN (p3))))) := by rw [hM_209, va_up_self]
                    have hx_211 := xExt.upd hq_181 hx_205 hM_209
                    have h_212 := hRk_162.ext hx_211
                    have h_213 := hIi_167.x5 (xExt.x5 hx_211)
                    refine lv_dup hC.1 hC.2.1 dX5_part_144 rfl ?_
                    refine x_const hC dX5_part_145 ?_
                    refine lv_iload hC.1 hC.2.1 dX5_part_146 (lv_at hl 6 rfl) ?_
                    refine x_callS hC hw (lv_size hl) (c_X5_one l G (M := M_208) (p0 := p4) (by omega)) gX5_part_X5_one rfl dv_X5_one_s rfl (Nat.le_of_ble_eq_true rfl) (by rw [hRf]; decide) (by rw [hRl]; decide) (by omega) (by omega) dX5_part_148 (fun r9 M_214 H locs hq hw => ?_)
                    obtain ⟨z_215, rfl, hM9, hz_215a, hz_215b⟩ := hq
                    rw [hM9] at hw
                    show W p l e R s m args below meth c H locs _ _ _ (F0 m 151 ls [.int (iN (z_215)), .int (iN (4)), .ref q_180, .ref q_180, .ref a])
                    refine x_iast hC hw hA_210 (by omega) (by omega) (by omega) dX5_part_151 (fun H locs hw => ?_)
                    obtain ⟨M_216, hM_217⟩ : ∃ z, z = va_up M_208 q_180 (some (.inl (G.2 1, 5, .inl (upd (upd (upd (upd (upd (fun _ => 0) (0 : Int).toNat (iN (((ti_167.b : Nat) : Int)))) (1 : Int).toNat (iN (p1))) (2 : Int).toNat (iN (z_201))) (3 : Int).toNat (iN (p3))) (4 : Int).toNat (iN (z_215)))))) := ⟨_, rfl⟩
                    rw [← hM_217] at hw
                    have hA_218 : M_216 q_180 = some (.inl (G.2 1, 5, .inl (upd (upd (upd (upd (upd (fun _ => 0) (0 : Int).toNat (iN (((ti_167.b : Nat) : Int)))) (1 : Int).toNat (iN (p1))) (2 : Int).toNat (iN (z_201))) (3 : Int).toNat (iN (p3))) (4 : Int).toNat (iN (z_215))))) := by rw [hM_217, va_up_self]
                    have hx_219 := xExt.upd hq_181 hx_211 hM_217
                    have h_220 := hRk_162.ext hx_219
                    have h_221 := hIi_167.x5 (xExt.x5 hx_219)
                    have hI_222 : Its G M_216 q_180 (upd (upd (upd (upd (upd (fun _ => 0) (0 : Int).toNat (iN (((ti_167.b : Nat) : Int)))) (1 : Int).toNat (iN (p1))) (2 : Int).toNat (iN (z_201))) (3 : Int).toNat (iN (p3))) (4 : Int).toNat (iN (z_215))) (ti_167.b, p1, p3, p2, p4) := ⟨hA_218, ⟨(show ti_167.b < 3 by omega), (show p1 = -10000 ∨ (0 ≤ p1 ∧ p1 ≤ 99) by omega), (show p3 = -10000 ∨ (0 ≤ p3 ∧ p3 ≤ 99) by omega), (show p2 = 0 ∨ p2 = 1 by omega), (show p4 = 0 ∨ p4 = 1 by omega)⟩, rfl, rfl, (show iN (z_201) = iN _ by rw [show z_201 = p2 by omega]), rfl, (show iN (z_215) = iN _ by rw [show z_215 = p4 by omega])⟩
                    refine x_callV hC hw (lv_size hl) (c_X5_open l G h_220 hI_222 (by omega)) gX5_part_X5_open rfl dv_X5_open h_220.1.1 rfl rfl (Nat.le_of_ble_eq_true rfl) (by rw [hRf]; decide) (by rw [hRl]; decide) (by omega) (by omega) dX5_part_152 (fun r9 M_223 H locs hq hw => ?_)
                    obtain ⟨z_225, fyk_224, Wvk_224, rfl, hz_225a, hz_225f, he0k_224, hx5k_224, hRk_224⟩ := hq
                    have h_226 := h_221.x5 hx5k_224
                    have h_227 := hI_222.x5 hx5k_224
                    have hsck_224 := hRk_224.sc
                    show W p l e R s m args below meth c H locs _ _ _ (F0 m 155 ls [.int (iN (z_225))])
                    exact x_iret hC hw dX5_part_155 (by omega) (by omega) ⟨z_225, _, rfl, by omega, Or.inl ⟨by omega, by first | trivial | omega, (by have i9 := inI_01 (O ti_167.b) (p1).toNat ti_167; have i8 := inI_01 (O ti_167.b) (p3).toNat ti_167; rw [A_part, show tvW (ST.W (O, V, Wv, K, kp, kv, rfd)) p0.toNat = ti_167 from tvW_some hui_167]; show _ = (if ((inI (O ti_167.b) ti_167 (p1).toNat = 1 ∧ inI (O ti_167.b) ti_167 (p3).toNat = 1) ∧ ¬ mwN (O ti_167.b) (p3).toNat < mwN (O ti_167.b) (p1).toNat) then (frN Wv : Int) else -20000); omega), (by have i9 := inI_01 (O ti_167.b) (p1).toNat ti_167; have i8 := inI_01 (O ti_167.b) (p3).toNat ti_167; rw [S_part, show tvW (ST.W (O, V, Wv, K, kp, kv, rfd)) p0.toNat = ti_167 from tvW_some hui_167]; show MGm _ _ _ _ _ (if ((inI (O ti_167.b) ti_167 (p1).toNat = 1 ∧ inI (O ti_167.b) ti_167 (p3).toNat = 1) ∧ ¬ mwN (O ti_167.b) (p3).toNat < mwN (O ti_167.b) (p1).toNat) then _ else _); rw [if_pos (by omega)]; exact (by have e9 := hRk_224; rw [he0k_224] at e9; exact MGm.of e9 hK))⟩⟩
                  · refine x_sipush hC dX5_part_113 (by decide +kernel) ?_
                    exact x_iret hC hw dX5_part_116 (by omega) (by omega) ⟨(-20000), _, rfl, by omega, Or.inl ⟨by omega, by first | trivial | omega, (by have i9 := inI_01 (O ti_167.b) (p1).toNat ti_167; have i8 := inI_01 (O ti_167.b) (p3).toNat ti_167; rw [A_part, show tvW (ST.W (O, V, Wv, K, kp, kv, rfd)) p0.toNat = ti_167 from tvW_some hui_167]; show _ = (if ((inI (O ti_167.b) ti_167 (p1).toNat = 1 ∧ inI (O ti_167.b) ti_167 (p3).toNat = 1) ∧ ¬ mwN (O ti_167.b) (p3).toNat < mwN (O ti_167.b) (p1).toNat) then (frN Wv : Int) else -20000); omega), (by have i9 := inI_01 (O ti_167.b) (p1).toNat ti_167; have i8 := inI_01 (O ti_167.b) (p3).toNat ti_167; rw [S_part, show tvW (ST.W (O, V, Wv, K, kp, kv, rfd)) p0.toNat = ti_167 from tvW_some hui_167]; show MGm _ _ _ _ _ (if ((inI (O ti_167.b) ti_167 (p1).toNat = 1 ∧ inI (O ti_167.b) ti_167 (p3).toNat = 1) ∧ ¬ mwN (O ti_167.b) (p3).toNat < mwN (O ti_167.b) (p1).toNat) then _ else _); rw [if_neg (by omega)]; exact MGm.of hRk_162 hK)⟩⟩
            · refine x_const hC dX5_part_64 ?_
              exact x_iret hC hw dX5_part_65 (by omega) (by omega) ⟨0, _, rfl, by omega, Or.inr ⟨by omega, by omega, MGm.of hRk_162 hK⟩⟩
          · refine x_const hC dX5_part_52 ?_
            refine lv_goto (tgt := 57) hC.1 hC.2.1 dX5_part_53 (by decide) ?_
            refine x_const hC dX5_part_57 ?_
            refine x_callV hC hw (lv_size hl) (c_X5_refuse l G hRk_155 (p0 := 1) (by omega) (p1 := 3) (by omega) (by omega)) gX5_part_X5_refuse rfl dv_X5_refuse hRk_155.1.1 rfl rfl (Nat.le_of_ble_eq_true rfl) (by rw [hRf]; decide) (by rw [hRl]; decide) (by omega) (by omega) dX5_part_58 (fun r9 M_228 H locs hq hw => ?_)
            obtain ⟨z_230, thk_229, rfl, hz_230a, hz_230b, hz_230c0, hz_230c1, hx5k_229, hRk_229⟩ := hq
            have hsck_229 := hRk_229.sc
            show W p l e R s m args below meth c H locs _ _ _ (F0 m 61 ls [.int (iN (z_230))])
            refine x_if_eq (tgt := 66) hC ⟨by omega, by omega⟩ dX5_part_61 (by decide) (fun c_231 => ?_) (fun c_231 => ?_)
            · refine lv_aload_n hC.1 hC.2.1 dX5_part_66 rfl (lv_at hl 0 rfl) ?_
              refine x_get hC hw hRk_229.1.1 rfl hinX5 5 (by decide) (by decide +kernel) rfl dX5_part_67 ?_
              refine lv_iload_n hC.1 hC.2.1 dX5_part_70 rfl (lv_at hl 1 rfl) ?_
              refine x_ald4 hC hw hRk_229.1.2.2.2.2.1 (by omega) (by omega) (by omega) dX5_part_71 ?_
              obtain ⟨y_232, hy_233⟩ := x_some (hz_2n (by omega))
              rw [hy_233]
              obtain ⟨ti_234, fi_234, hui_234, hIi_234⟩ := (hRk_229.vw (show (p0).toNat < 4 by omega)).yes hy_233
              obtain ⟨htat_235, htbt_235, htct_235, htdt_235, htet_235⟩ := id hIi_234.2.1
              show W p l e R s m args below meth c _ _ _ _ _ (F0 m 72 ls [.ref y_232])
              refine lv_astore (lv' := [(6, .ref y_232), (0, .ref a), (1, .int (iN (p0))), (2, .int (iN (p1))), (3, .int (iN (p2))), (4, .int (iN (p3))), (5, .int (iN (p4)))]) hC.1 hC.2.1 dX5_part_72 hl (by decide) rfl (fun ls hl => ?_)
              refine lv_aload_n hC.1 hC.2.1 dX5_part_74 rfl (lv_at hl 1 rfl) ?_
              refine lv_aload hC.1 hC.2.1 dX5_part_75 (lv_at hl 0 rfl) ?_
              refine lv_iload_n hC.1 hC.2.1 dX5_part_77 rfl (lv_at hl 3 rfl) ?_
              refine x_callV hC hw (lv_size hl) (c_X5_isWithin l G hRk_229 hIi_234 (p0 := p1) (by omega) (by omega)) gX5_part_X5_isWithin rfl dv_X5_isWithin hRk_229.1.1 rfl rfl (Nat.le_of_ble_eq_true rfl) (by rw [hRf]; decide) (by rw [hRl]; decide) (by omega) (by omega) dX5_part_78 (fun r9 M_236 H locs hq hw => ?_)
              obtain ⟨z_237, rfl, hM9, hz_237a, hz_237w⟩ := hq
              rw [hM9] at hw
              show W p l e R s m args below meth c H locs _ _ _ (F0 m 81 ls [.int (iN (z_237))])
              refine x_if_eq (tgt := 113) hC ⟨by omega, by omega⟩ dX5_part_81 (by decide) (fun c_238 => ?_) (fun c_238 => ?_)
              · refine x_sipush hC dX5_part_113 (by decide +kernel) ?_
                exact x_iret hC hw dX5_part_116 (by omega) (by omega) ⟨(-20000), _, rfl, by omega, Or.inl ⟨by omega, by first | trivial | omega, (by have i9 := inI_01 (O ti_234.b) (p1).toNat ti_234; have i8 := inI_01 (O ti_234.b) (p3).toNat ti_234; rw [A_part, show tvW (ST.W (O, V, Wv, K, kp, kv, rfd)) p0.toNat = ti_234 from tvW_some hui_234]; show _ = (if ((inI (O ti_234.b) ti_234 (p1).toNat = 1 ∧ inI (O ti_234.b) ti_234 (p3).toNat = 1) ∧ ¬ mwN (O ti_234.b) (p3).toNat < mwN (O ti_234.b) (p1).toNat) then (frN Wv : Int) else -20000); omega), (by have i9 := inI_01 (O ti_234.b) (p1).toNat ti_234; have i8 := inI_01 (O ti_234.b) (p3).toNat ti_234; rw [S_part, show tvW (ST.W (O, V, Wv, K, kp, kv, rfd)) p0.toNat = ti_234 from tvW_some hui_234]; show MGm _ _ _ _ _ (if ((inI (O ti_234.b) ti_234 (p1).toNat = 1 ∧ inI (O ti_234.b) ti_234 (p3).toNat = 1) ∧ ¬ mwN (O ti_234.b) (p3).toNat < mwN (O ti_234.b) (p1).toNat) then _ else _); rw [if_neg (by omega)]; exact MGm.of hRk_229 hK)⟩⟩
              · refine lv_aload_n hC.1 hC.2.1 dX5_part_84 rfl (lv_at hl 1 rfl) ?_
                refine lv_aload hC.1 hC.2.1 dX5_part_85 (lv_at hl 0 rfl) ?_
                refine lv_iload hC.1 hC.2.1 dX5_part_87 (lv_at hl 5 rfl) ?_
                refine x_callV hC hw (lv_size hl) (c_X5_isWithin l G hRk_229 hIi_234 (p0 := p3) (by omega) (by omega)) gX5_part_X5_isWithin rfl dv_X5_isWithin hRk_229.1.1 rfl rfl (Nat.le_of_ble_eq_true rfl) (by rw [hRf]; decide) (by rw [hRl]; decide) (by omega) (by omega) dX5_part_89 (fun r9 M_239 H locs hq hw => ?_)
                obtain ⟨z_240, rfl, hM9, hz_240a, hz_240w⟩ := hq
                rw [hM9] at hw
                show W p l e R s m args below meth c H locs _ _ _ (F0 m 92 ls [.int (iN (z_240))])
                refine x_if_eq (tgt := 113) hC ⟨by omega, by omega⟩ dX5_part_92 (by decide) (fun c_241 => ?_) (fun c_241 => ?_)
                · refine x_sipush hC dX5_part_113 (by decide +kernel) ?_
                  exact x_iret hC hw dX5_part_116 (by omega) (by omega) ⟨(-20000), _, rfl, by omega, Or.inl ⟨by omega, by first | trivial | omega, (by have i9 := inI_01 (O ti_234.b) (p1).toNat ti_234; have i8 := inI_01 (O ti_234.b) (p3).toNat ti_234; rw [A_part, show tvW (ST.W (O, V, Wv, K, kp, kv, rfd)) p0.toNat = ti_234 from tvW_some hui_234]; show _ = (if ((inI (O ti_234.b) ti_234 (p1).toNat = 1 ∧ inI (O ti_234.b) ti_234 (p3).toNat = 1) ∧ ¬ mwN (O ti_234.b) (p3).toNat < mwN (O ti_234.b) (p1).toNat) then (frN Wv : Int) else -20000); omega), (by have i9 := inI_01 (O ti_234.b) (p1).toNat ti_234; have i8 := inI_01 (O ti_234.b) (p3).toNat ti_234; rw [S_part, show tvW (ST.W (O, V, Wv, K, kp, kv, rfd)) p0.toNat = ti_234 from tvW_some hui_234]; show MGm _ _ _ _ _ (if ((inI (O ti_234.b) ti_234 (p1).toNat = 1 ∧ inI (O ti_234.b) ti_234 (p3).toNat = 1) ∧ ¬ mwN (O ti_234.b) (p3).toNat < mwN (O ti_234.b) (p1).toNat) then _ else _); rw [if_neg (by omega)]; exact MGm.of hRk_229 hK)⟩⟩
                · refine lv_aload_n hC.1 hC.2.1 dX5_part_95 rfl (lv_at hl 1 rfl) ?_
                  refine lv_aload hC.1 hC.2.1 dX5_part_96 (lv_at hl 0 rfl) ?_
                  refine lv_iload_n hC.1 hC.2.1 dX5_part_98 rfl (lv_at hl 3 rfl) ?_
                  refine x_callV hC hw (lv_size hl) (c_X5_weight l G hRk_229 hIi_234 (p0 := p1) (by omega) (by omega)) gX5_part_X5_weight rfl dv_X5_weight hRk_229.1.1 rfl rfl (Nat.le_of_ble_eq_true rfl) (by rw [hRf]; decide) (by rw [hRl]; decide) (by omega) (by omega) dX5_part_99 (fun r9 M_242 H locs hq hw => ?_)
                  obtain ⟨z_243, rfl, hM9, hz_243a, hz_243b⟩ := hq
                  rw [hM9] at hw
                  show W p l e R s m args below meth c H locs _ _ _ (F0 m 102 ls [.int (iN (z_243))])
                  refine lv_aload_n hC.1 hC.2.1 dX5_part_102 rfl (lv_at hl 1 rfl) ?_
                  refine lv_aload hC.1 hC.2.1 dX5_part_103 (lv_at hl 0 rfl) ?_
                  refine lv_iload hC.1 hC.2.1 dX5_part_105 (lv_at hl 5 rfl) ?_
                  refine x_callV hC hw (lv_size hl) (c_X5_weight l G hRk_229 hIi_234 (p0 := p3) (by omega) (by omega)) gX5_part_X5_weight rfl dv_X5_weight hRk_229.1.1 rfl rfl (Nat.le_of_ble_eq_true rfl) (by rw [hRf]; decide) (by rw [hRl]; decide) (by omega) (by omega) dX5_part_107 (fun r9 M_244 H locs hq hw => ?_)
                  obtain ⟨z_245, rfl, hM9, hz_245a, hz_245b⟩ := hq
                  rw [hM9] at hw
                  show W p l e R s m args below meth c H locs _ _ _ (F0 m 110 ls [.int (iN (z_245)), .int (iN (z_243))])
                  refine x_icmp_le (tgt := 117) hC ⟨by omega, by omega⟩ ⟨by omega, by omega⟩ dX5_part_110 (by decide) (fun c_246 => ?_) (fun c_246 => ?_)
                  · refine lv_aload_n hC.1 hC.2.1 dX5_part_117 rfl (lv_at hl 1 rfl) ?_
                    refine x_const hC dX5_part_118 ?_
                    refine x_newI hC hw (by decide +kernel) 5 rfl (by decide) (by omega) (by omega) dX5_part_119 (fun q_247 H hq_248 hw => ?_)
                    obtain ⟨M_249, hM_250⟩ : ∃ z, z = va_up M_228 q_247 (some (.inl (G.2 1, 5, .inl (fun _ => 0)))) := ⟨_, rfl⟩
                    rw [← hM_250] at hw
                    have hx_251 : xExt M_228 M_249 := by rw [hM_250]; exact xExt.new hq_248
                    have hA_252 : M_249 q_247 = some (.inl (G.2 1, 5, .inl (fun _ => 0))) := by rw [hM_250, va_up_self]
                    have h_253 := hRk_229.ext hx_251
                    have h_254 := hIi_234.x5 (xExt.x5 hx_251)
                    refine lv_dup hC.1 hC.2.1 dX5_part_121 rfl ?_
                    refine x_const hC dX5_part_122 ?_
                    refine lv_aload hC.1 hC.2.1 dX5_part_123 (lv_at hl 0 rfl) ?_
                    refine x_const hC dX5_part_125 ?_
                    refine x_ialdE (x := ((ti_234.b : Nat) : Int)) hC hw h_254.1 (by omega) (by omega) (by omega) dX5_part_126 h_254.2.2.1 ?_
                    refine x_iast hC hw hA_252 (by omega) (by omega) (by omega) dX5_part_127 (fun H locs hw => ?_)
                    obtain ⟨M_255, hM_256⟩ : ∃ z, z = va_up M_249 q_247 (some (.inl (G.2 1, 5, .inl (upd (fun _ => 0) (0 : Int).toNat (iN (((ti_234.b : Nat) : Int))))))) := ⟨_, rfl⟩
                    rw [← hM_256] at hw
                    have hA_257 : M_255 q_247 = some (.inl (G.2 1, 5, .inl (upd (fun _ => 0) (0 : Int).toNat (iN (((ti_234.b : Nat) : Int)))))) := by rw [hM_256, va_up_self]
                    have hx_258 := xExt.upd hq_248 hx_251 hM_256
                    have h_259 := hRk_229.ext hx_258
                    have h_260 := hIi_234.x5 (xExt.x5 hx_258)
                    refine lv_dup hC.1 hC.2.1 dX5_part_128 rfl ?_
                    refine x_const hC dX5_part_129 ?_
                    refine lv_iload_n hC.1 hC.2.1 dX5_part_130 rfl (lv_at hl 3 rfl) ?_
                    refine x_iast hC hw hA_257 (by omega) (by omega) (by omega) dX5_part_131 (fun H locs hw => ?_)
                    obtain ⟨M_261, hM_262⟩ : ∃ z, z = va_up M_255 q_247 (some (.inl (G.2 1, 5, .inl (upd (upd (fun _ => 0) (0 : Int).toNat (iN (((ti_234.b : Nat) : Int)))) (1 : Int).toNat (iN (p1)))))) := ⟨_, rfl⟩
                    rw [← hM_262] at hw
                    have hA_263 : M_261 q_247 = some (.inl (G.2 1, 5, .inl (upd (upd (fun _ => 0) (0 : Int).toNat (iN (((ti_234.b : Nat) : Int)))) (1 : Int).toNat (iN (p1))))) := by rw [hM_262, va_up_self]
                    have hx_264 := xExt.upd hq_248 hx_258 hM_262
                    have h_265 := hRk_229.ext hx_264
                    have h_266 := hIi_234.x5 (xExt.x5 hx_264)
                    refine lv_dup hC.1 hC.2.1 dX5_part_132 rfl ?_
                    refine x_const hC dX5_part_133 ?_
                    refine lv_iload_n hC.1 hC.2.1 dX5_part_134 rfl (lv_at hl 4 rfl) ?_
                    refine x_callS hC hw (lv_size hl) (c_X5_one l G (M := M_261) (p0 := p2) (by omega)) gX5_part_X5_one rfl dv_X5_one_s rfl (Nat.le_of_ble_eq_true rfl) (by rw [hRf]; decide) (by rw [hRl]; decide) (by omega) (by omega) dX5_part_135 (fun r9 M_267 H locs hq hw => ?_)
                    obtain ⟨z_268, rfl, hM9, hz_268a, hz_268b⟩ := hq
                    rw [hM9] at hw
                    show W p l e R s m args below meth c H locs _ _ _ (F0 m 138 ls [.int (iN (z_268)), .int (iN (2)), .ref q_247, .ref q_247, .ref a])
                    refine x_iast hC hw hA_263 (by omega) (by omega) (by omega) dX5_part_138 (fun H locs hw => ?_)
                    obtain ⟨M_269, hM_270⟩ : ∃ z, z = va_up M_261 q_247 (some (.inl (G.2 1, 5, .inl (upd (upd (upd (fun _ => 0) (0 : Int).toNat (iN (((ti_234.b : Nat) : Int)))) (1 : Int).toNat (iN (p1))) (2 : Int).toNat (iN (z_268)))))) := ⟨_, rfl⟩
                    rw [← hM_270] at hw
                    have hA_271 : M_269 q_247 = some (.inl (G.2 1, 5, .inl (upd (upd (upd (fun _ => 0) (0 : Int).toNat (iN (((ti_234.b : Nat) : Int)))) (1 : Int).toNat (iN (p1))) (2 : Int).toNat (iN (z_268))))) := by rw [hM_270, va_up_self]
                    have hx_272 := xExt.upd hq_248 hx_264 hM_270
                    have h_273 := hRk_229.ext hx_272
                    have h_274 := hIi_234.x5 (xExt.x5 hx_272)
                    refine lv_dup hC.1 hC.2.1 dX5_part_139 rfl ?_
                    refine x_const hC dX5_part_140 ?_
                    refine lv_iload hC.1 hC.2.1 dX5_part_141 (lv_at hl 5 rfl) ?_
                    refine x_iast hC hw hA_271 (by omega) (by omega) (by omega) dX5_part_143 (fun H locs hw => ?_)
                    obtain ⟨M_275, hM_276⟩ : ∃ z, z = va_up M_269 q_247 (some (.inl (G.2 1, 5, .inl (upd (upd (upd (upd (fun _ => 0) (0 : Int).toNat (iN (((ti_234.b : Nat) : Int)))) (1 : Int).toNat (iN (p1))) (2 : Int).toNat (iN (z_268))) (3 : Int).toNat (iN (p3)))))) := ⟨_, rfl⟩
                    rw [← hM_276] at hw
                    have hA_277 : M_275 q_247 = some (.inl (G.2 1, 5, .inl (upd (upd (upd (upd (fun _ => 0) (0 : Int).toNat (iN (((ti_234.b : Nat) : Int)))) (1 : Int).toNat (iN (p1))) (2 : Int).toNat (iN (z_268))) (3 : Int).toNat (iN (p3))))) := by rw [hM_276, va_up_self]
                    have hx_278 := xExt.upd hq_248 hx_272 hM_276
                    have h_279 := hRk_229.ext hx_278
                    have h_280 := hIi_234.x5 (xExt.x5 hx_278)
                    refine lv_dup hC.1 hC.2.1 dX5_part_144 rfl ?_
                    refine x_const hC dX5_part_145 ?_
                    refine lv_iload hC.1 hC.2.1 dX5_part_146 (lv_at hl 6 rfl) ?_
                    refine x_callS hC hw (lv_size hl) (c_X5_one l G (M := M_275) (p0 := p4) (by omega)) gX5_part_X5_one rfl dv_X5_one_s rfl (Nat.le_of_ble_eq_true rfl) (by rw [hRf]; decide) (by rw [hRl]; decide) (by omega) (by omega) dX5_part_148 (fun r9 M_281 H locs hq hw => ?_)
                    obtain ⟨z_282, rfl, hM9, hz_282a, hz_282b⟩ := hq
                    rw [hM9] at hw
                    show W p l e R s m args below meth c H locs _ _ _ (F0 m 151 ls [.int (iN (z_282)), .int (iN (4)), .ref q_247, .ref q_247, .ref a])
                    refine x_iast hC hw hA_277 (by omega) (by omega) (by omega) dX5_part_151 (fun H locs hw => ?_)
                    obtain ⟨M_283, hM_284⟩ : ∃ z, z = va_up M_275 q_247 (some (.inl (G.2 1, 5, .inl (upd (upd (upd (upd (upd (fun _ => 0) (0 : Int).toNat (iN (((ti_234.b : Nat) : Int)))) (1 : Int).toNat (iN (p1))) (2 : Int).toNat (iN (z_268))) (3 : Int).toNat (iN (p3))) (4 : Int).toNat (iN (z_282)))))) := ⟨_, rfl⟩
                    rw [← hM_284] at hw
                    have hA_285 : M_283 q_247 = some (.inl (G.2 1, 5, .inl (upd (upd (upd (upd (upd (fun _ => 0) (0 : Int).toNat (iN (((ti_234.b : Nat) : Int)))) (1 : Int).toNat (iN (p1))) (2 : Int).toNat (iN (z_268))) (3 : Int).toNat (iN (p3))) (4 : Int).toNat (iN (z_282))))) := by rw [hM_284, va_up_self]
                    have hx_286 := xExt.upd hq_248 hx_278 hM_284
                    have h_287 := hRk_229.ext hx_286
                    have h_288 := hIi_234.x5 (xExt.x5 hx_286)
                    have hI_289 : Its G M_283 q_247 (upd (upd (upd (upd (upd (fun _ => 0) (0 : Int).toNat (iN (((ti_234.b : Nat) : Int)))) (1 : Int).toNat (iN (p1))) (2 : Int).toNat (iN (z_268))) (3 : Int).toNat (iN (p3))) (4 : Int).toNat (iN (z_282))) (ti_234.b, p1, p3, p2, p4) := ⟨hA_285, ⟨(show ti_234.b < 3 by omega), (show p1 = -10000 ∨ (0 ≤ p1 ∧ p1 ≤ 99) by omega), (show p3 = -10000 ∨ (0 ≤ p3 ∧ p3 ≤ 99) by omega), (show p2 = 0 ∨ p2 = 1 by omega), (show p4 = 0 ∨ p4 = 1 by omega)⟩, rfl, rfl, (show iN (z_268) = iN _ by rw [show z_268 = p2 by omega]), rfl, (show iN (z_282) = iN _ by rw [show z_282 = p4 by omega])⟩
                    refine x_callV hC hw (lv_size hl) (c_X5_open l G h_287 hI_289 (by omega)) gX5_part_X5_open rfl dv_X5_open h_287.1.1 rfl rfl (Nat.le_of_ble_eq_true rfl) (by rw [hRf]; decide) (by rw [hRl]; decide) (by omega) (by omega) dX5_part_152 (fun r9 M_290 H locs hq hw => ?_)
                    obtain ⟨z_292, fyk_291, Wvk_291, rfl, hz_292a, hz_292f, he0k_291, hx5k_291, hRk_291⟩ := hq
                    have h_293 := h_288.x5 hx5k_291
                    have h_294 := hI_289.x5 hx5k_291
                    have hsck_291 := hRk_291.sc
                    show W p l e R s m args below meth c H locs _ _ _ (F0 m 155 ls [.int (iN (z_292))])
                    exact x_iret hC hw dX5_part_155 (by omega) (by omega) ⟨z_292, _, rfl, by omega, Or.inl ⟨by omega, by first | trivial | omega, (by have i9 := inI_01 (O ti_234.b) (p1).toNat ti_234; have i8 := inI_01 (O ti_234.b) (p3).toNat ti_234; rw [A_part, show tvW (ST.W (O, V, Wv, K, kp, kv, rfd)) p0.toNat = ti_234 from tvW_some hui_234]; show _ = (if ((inI (O ti_234.b) ti_234 (p1).toNat = 1 ∧ inI (O ti_234.b) ti_234 (p3).toNat = 1) ∧ ¬ mwN (O ti_234.b) (p3).toNat < mwN (O ti_234.b) (p1).toNat) then (frN Wv : Int) else -20000); omega), (by have i9 := inI_01 (O ti_234.b) (p1).toNat ti_234; have i8 := inI_01 (O ti_234.b) (p3).toNat ti_234; rw [S_part, show tvW (ST.W (O, V, Wv, K, kp, kv, rfd)) p0.toNat = ti_234 from tvW_some hui_234]; show MGm _ _ _ _ _ (if ((inI (O ti_234.b) ti_234 (p1).toNat = 1 ∧ inI (O ti_234.b) ti_234 (p3).toNat = 1) ∧ ¬ mwN (O ti_234.b) (p3).toNat < mwN (O ti_234.b) (p1).toNat) then _ else _); rw [if_pos (by omega)]; exact (by have e9 := hRk_291; rw [he0k_291] at e9; exact MGm.of e9 hK))⟩⟩
                  · refine x_sipush hC dX5_part_113 (by decide +kernel) ?_
                    exact x_iret hC hw dX5_part_116 (by omega) (by omega) ⟨(-20000), _, rfl, by omega, Or.inl ⟨by omega, by first | trivial | omega, (by have i9 := inI_01 (O ti_234.b) (p1).toNat ti_234; have i8 := inI_01 (O ti_234.b) (p3).toNat ti_234; rw [A_part, show tvW (ST.W (O, V, Wv, K, kp, kv, rfd)) p0.toNat = ti_234 from tvW_some hui_234]; show _ = (if ((inI (O ti_234.b) ti_234 (p1).toNat = 1 ∧ inI (O ti_234.b) ti_234 (p3).toNat = 1) ∧ ¬ mwN (O ti_234.b) (p3).toNat < mwN (O ti_234.b) (p1).toNat) then (frN Wv : Int) else -20000); omega), (by have i9 := inI_01 (O ti_234.b) (p1).toNat ti_234; have i8 := inI_01 (O ti_234.b) (p3).toNat ti_234; rw [S_part, show tvW (ST.W (O, V, Wv, K, kp, kv, rfd)) p0.toNat = ti_234 from tvW_some hui_234]; show MGm _ _ _ _ _ (if ((inI (O ti_234.b) ti_234 (p1).toNat = 1 ∧ inI (O ti_234.b) ti_234 (p3).toNat = 1) ∧ ¬ mwN (O ti_234.b) (p3).toNat < mwN (O ti_234.b) (p1).toNat) then _ else _); rw [if_neg (by omega)]; exact MGm.of hRk_229 hK)⟩⟩
            · refine x_const hC dX5_part_64 ?_
              exact x_iret hC hw dX5_part_65 (by omega) (by omega) ⟨0, _, rfl, by omega, Or.inr ⟨by omega, by omega, MGm.of hRk_229 hK⟩⟩
      · refine x_const hC dX5_part_29 ?_
        refine lv_goto (tgt := 34) hC.1 hC.2.1 dX5_part_30 (by decide) ?_
        refine x_const hC dX5_part_34 ?_
        refine x_callV hC hw (lv_size hl) (c_X5_refuse l G hRk_4 (p0 := 1) (by omega) (p1 := 2) (by omega) (by omega)) gX5_part_X5_refuse rfl dv_X5_refuse hRk_4.1.1 rfl rfl (Nat.le_of_ble_eq_true rfl) (by rw [hRf]; decide) (by rw [hRl]; decide) (by omega) (by omega) dX5_part_35 (fun r9 M_295 H locs hq hw => ?_)
        obtain ⟨z_297, thk_296, rfl, hz_297a, hz_297b, hz_297c0, hz_297c1, hx5k_296, hRk_296⟩ := hq
        have hsck_296 := hRk_296.sc
        show W p l e R s m args below meth c H locs _ _ _ (F0 m 38 ls [.int (iN (z_297))])
        refine x_if_ne (tgt := 64) hC ⟨by omega, by omega⟩ dX5_part_38 (by decide) (fun c_298 => ?_) (fun c_298 => ?_)
        · refine x_const hC dX5_part_64 ?_
          exact x_iret hC hw dX5_part_65 (by omega) (by omega) ⟨0, _, rfl, by omega, Or.inr ⟨by omega, by omega, MGm.of hRk_296 hK⟩⟩
        · refine lv_aload_n hC.1 hC.2.1 dX5_part_41 rfl (lv_at hl 0 rfl) ?_
          refine lv_aload_n hC.1 hC.2.1 dX5_part_42 rfl (lv_at hl 0 rfl) ?_
          refine x_callV hC hw (lv_size hl) (c_X5_free l G hRk_296) gX5_part_X5_free rfl dv_X5_free hRk_296.1.1 rfl rfl (Nat.le_of_ble_eq_true rfl) (by rw [hRf]; decide) (by rw [hRl]; decide) (by omega) (by omega) dX5_part_43 (fun r9 M_299 H locs hq hw => ?_)
          obtain ⟨z_300, rfl, hM9, hz_300a, hz_300f⟩ := hq
          rw [hM9] at hw
          show W p l e R s m args below meth c H locs _ _ _ (F0 m 46 ls [.int (iN (z_300)), .ref a])
          refine x_sipush hC dX5_part_46 (by decide +kernel) ?_
          refine x_icmp_ne (tgt := 56) hC ⟨by omega, by omega⟩ ⟨by omega, by omega⟩ dX5_part_49 (by decide) (fun c_301 => ?_) (fun c_301 => ?_)
          · refine x_const hC dX5_part_56 ?_
            refine x_const hC dX5_part_57 ?_
            refine x_callV hC hw (lv_size hl) (c_X5_refuse l G hRk_296 (p0 := 0) (by omega) (p1 := 3) (by omega) (by omega)) gX5_part_X5_refuse rfl dv_X5_refuse hRk_296.1.1 rfl rfl (Nat.le_of_ble_eq_true rfl) (by rw [hRf]; decide) (by rw [hRl]; decide) (by omega) (by omega) dX5_part_58 (fun r9 M_302 H locs hq hw => ?_)
            obtain ⟨z_304, thk_303, rfl, hz_304a, hz_304b, hz_304c0, hz_304c1, hx5k_303, hRk_303⟩ := hq
            have hsck_303 := hRk_303.sc
            show W p l e R s m args below meth c H locs _ _ _ (F0 m 61 ls [.int (iN (z_304))])
            refine x_if_eq (tgt := 66) hC ⟨by omega, by omega⟩ dX5_part_61 (by decide) (fun c_305 => ?_) (fun c_305 => ?_)
            · refine lv_aload_n hC.1 hC.2.1 dX5_part_66 rfl (lv_at hl 0 rfl) ?_
              refine x_get hC hw hRk_303.1.1 rfl hinX5 5 (by decide) (by decide +kernel) rfl dX5_part_67 ?_
              refine lv_iload_n hC.1 hC.2.1 dX5_part_70 rfl (lv_at hl 1 rfl) ?_
              refine x_ald4 hC hw hRk_303.1.2.2.2.2.1 (by omega) (by omega) (by omega) dX5_part_71 ?_
              obtain ⟨y_306, hy_307⟩ := x_some (hz_2n (by omega))
              rw [hy_307]
              obtain ⟨ti_308, fi_308, hui_308, hIi_308⟩ := (hRk_303.vw (show (p0).toNat < 4 by omega)).yes hy_307
              obtain ⟨htat_309, htbt_309, htct_309, htdt_309, htet_309⟩ := id hIi_308.2.1
              show W p l e R s m args below meth c _ _ _ _ _ (F0 m 72 ls [.ref y_306])
              refine lv_astore (lv' := [(6, .ref y_306), (0, .ref a), (1, .int (iN (p0))), (2, .int (iN (p1))), (3, .int (iN (p2))), (4, .int (iN (p3))), (5, .int (iN (p4)))]) hC.1 hC.2.1 dX5_part_72 hl (by decide) rfl (fun ls hl => ?_)
              refine lv_aload_n hC.1 hC.2.1 dX5_part_74 rfl (lv_at hl 1 rfl) ?_
              refine lv_aload hC.1 hC.2.1 dX5_part_75 (lv_at hl 0 rfl) ?_
              refine lv_iload_n hC.1 hC.2.1 dX5_part_77 rfl (lv_at hl 3 rfl) ?_
              refine x_callV hC hw (lv_size hl) (c_X5_isWithin l G hRk_303 hIi_308 (p0 := p1) (by omega) (by omega)) gX5_part_X5_isWithin rfl dv_X5_isWithin hRk_303.1.1 rfl rfl (Nat.le_of_ble_eq_true rfl) (by rw [hRf]; decide) (by rw [hRl]; decide) (by omega) (by omega) dX5_part_78 (fun r9 M_310 H locs hq hw => ?_)
              obtain ⟨z_311, rfl, hM9, hz_311a, hz_311w⟩ := hq
              rw [hM9] at hw
              show W p l e R s m args below meth c H locs _ _ _ (F0 m 81 ls [.int (iN (z_311))])
              refine x_if_eq (tgt := 113) hC ⟨by omega, by omega⟩ dX5_part_81 (by decide) (fun c_312 => ?_) (fun c_312 => ?_)
              · refine x_sipush hC dX5_part_113 (by decide +kernel) ?_
                exact x_iret hC hw dX5_part_116 (by omega) (by omega) ⟨(-20000), _, rfl, by omega, Or.inl ⟨by omega, by first | trivial | omega, (by have i9 := inI_01 (O ti_308.b) (p1).toNat ti_308; have i8 := inI_01 (O ti_308.b) (p3).toNat ti_308; rw [A_part, show tvW (ST.W (O, V, Wv, K, kp, kv, rfd)) p0.toNat = ti_308 from tvW_some hui_308]; show _ = (if ((inI (O ti_308.b) ti_308 (p1).toNat = 1 ∧ inI (O ti_308.b) ti_308 (p3).toNat = 1) ∧ ¬ mwN (O ti_308.b) (p3).toNat < mwN (O ti_308.b) (p1).toNat) then (frN Wv : Int) else -20000); omega), (by have i9 := inI_01 (O ti_308.b) (p1).toNat ti_308; have i8 := inI_01 (O ti_308.b) (p3).toNat ti_308; rw [S_part, show tvW (ST.W (O, V, Wv, K, kp, kv, rfd)) p0.toNat = ti_308 from tvW_some hui_308]; show MGm _ _ _ _ _ (if ((inI (O ti_308.b) ti_308 (p1).toNat = 1 ∧ inI (O ti_308.b) ti_308 (p3).toNat = 1) ∧ ¬ mwN (O ti_308.b) (p3).toNat < mwN (O ti_308.b) (p1).toNat) then _ else _); rw [if_neg (by omega)]; exact MGm.of hRk_303 hK)⟩⟩
              · refine lv_aload_n hC.1 hC.2.1 dX5_part_84 rfl (lv_at hl 1 rfl) ?_
                refine lv_aload hC.1 hC.2.1 dX5_part_85 (lv_at hl 0 rfl) ?_
                refine lv_iload hC.1 hC.2.1 dX5_part_87 (lv_at hl 5 rfl) ?_
                refine x_callV hC hw (lv_size hl) (c_X5_isWithin l G hRk_303 hIi_308 (p0 := p3) (by omega) (by omega)) gX5_part_X5_isWithin rfl dv_X5_isWithin hRk_303.1.1 rfl rfl (Nat.le_of_ble_eq_true rfl) (by rw [hRf]; decide) (by rw [hRl]; decide) (by omega) (by omega) dX5_part_89 (fun r9 M_313 H locs hq hw => ?_)
                obtain ⟨z_314, rfl, hM9, hz_314a, hz_314w⟩ := hq
                rw [hM9] at hw
                show W p l e R s m args below meth c H locs _ _ _ (F0 m 92 ls [.int (iN (z_314))])
                refine x_if_eq (tgt := 113) hC ⟨by omega, by omega⟩ dX5_part_92 (by decide) (fun c_315 => ?_) (fun c_315 => ?_)
                · refine x_sipush hC dX5_part_113 (by decide +kernel) ?_
                  exact x_iret hC hw dX5_part_116 (by omega) (by omega) ⟨(-20000), _, rfl, by omega, Or.inl ⟨by omega, by first | trivial | omega, (by have i9 := inI_01 (O ti_308.b) (p1).toNat ti_308; have i8 := inI_01 (O ti_308.b) (p3).toNat ti_308; rw [A_part, show tvW (ST.W (O, V, Wv, K, kp, kv, rfd)) p0.toNat = ti_308 from tvW_some hui_308]; show _ = (if ((inI (O ti_308.b) ti_308 (p1).toNat = 1 ∧ inI (O ti_308.b) ti_308 (p3).toNat = 1) ∧ ¬ mwN (O ti_308.b) (p3).toNat < mwN (O ti_308.b) (p1).toNat) then (frN Wv : Int) else -20000); omega), (by have i9 := inI_01 (O ti_308.b) (p1).toNat ti_308; have i8 := inI_01 (O ti_308.b) (p3).toNat ti_308; rw [S_part, show tvW (ST.W (O, V, Wv, K, kp, kv, rfd)) p0.toNat = ti_308 from tvW_some hui_308]; show MGm _ _ _ _ _ (if ((inI (O ti_308.b) ti_308 (p1).toNat = 1 ∧ inI (O ti_308.b) ti_308 (p3).toNat = 1) ∧ ¬ mwN (O ti_308.b) (p3).toNat < mwN (O ti_308.b) (p1).toNat) then _ else _); rw [if_neg (by omega)]; exact MGm.of hRk_303 hK)⟩⟩
                · refine lv_aload_n hC.1 hC.2.1 dX5_part_95 rfl (lv_at hl 1 rfl) ?_
                  refine lv_aload hC.1 hC.2.1 dX5_part_96 (lv_at hl 0 rfl) ?_
                  refine lv_iload_n hC.1 hC.2.1 dX5_part_98 rfl (lv_at hl 3 rfl) ?_
                  refine x_callV hC hw (lv_size hl) (c_X5_weight l G hRk_303 hIi_308 (p0 := p1) (by omega) (by omega)) gX5_part_X5_weight rfl dv_X5_weight hRk_303.1.1 rfl rfl (Nat.le_of_ble_eq_true rfl) (by rw [hRf]; decide) (by rw [hRl]; decide) (by omega) (by omega) dX5_part_99 (fun r9 M_316 H locs hq hw => ?_)
                  obtain ⟨z_317, rfl, hM9, hz_317a, hz_317b⟩ := hq
                  rw [hM9] at hw
                  show W p l e R s m args below meth c H locs _ _ _ (F0 m 102 ls [.int (iN (z_317))])
                  refine lv_aload_n hC.1 hC.2.1 dX5_part_102 rfl (lv_at hl 1 rfl) ?_
                  refine lv_aload hC.1 hC.2.1 dX5_part_103 (lv_at hl 0 rfl) ?_
                  refine lv_iload hC.1 hC.2.1 dX5_part_105 (lv_at hl 5 rfl) ?_
                  refine x_callV hC hw (lv_size hl) (c_X5_weight l G hRk_303 hIi_308 (p0 := p3) (by omega) (by omega)) gX5_part_X5_weight rfl dv_X5_weight hRk_303.1.1 rfl rfl (Nat.le_of_ble_eq_true rfl) (by rw [hRf]; decide) (by rw [hRl]; decide) (by omega) (by omega) dX5_part_107 (fun r9 M_318 H locs hq hw => ?_)
                  obtain ⟨z_319, rfl, hM9, hz_319a, hz_319b⟩ := hq
                  rw [hM9] at hw
                  show W p l e R s m args below meth c H locs _ _ _ (F0 m 110 ls [.int (iN (z_319)), .int (iN (z_317))])
                  refine x_icmp_le (tgt := 117) hC ⟨by omega, by omega⟩ ⟨by omega, by omega⟩ dX5_part_110 (by decide) (fun c_320 => ?_) (fun c_320 => ?_)
                  · refine lv_aload_n hC.1 hC.2.1 dX5_part_117 rfl (lv_at hl 1 rfl) ?_
                    refine x_const hC dX5_part_118 ?_
                    refine x_newI hC hw (by decide +kernel) 5 rfl (by decide) (by omega) (by omega) dX5_part_119 (fun q_321 H hq_322 hw => ?_)
                    obtain ⟨M_323, hM_324⟩ : ∃ z, z = va_up M_302 q_321 (some (.inl (G.2 1, 5, .inl (fun _ => 0)))) := ⟨_, rfl⟩
                    rw [← hM_324] at hw
                    have hx_325 : xExt M_302 M_323 := by rw [hM_324]; exact xExt.new hq_322
                    have hA_326 : M_323 q_321 = some (.inl (G.2 1, 5, .inl (fun _ => 0))) := by rw [hM_324, va_up_self]
                    have h_327 := hRk_303.ext hx_325
                    have h_328 := hIi_308.x5 (xExt.x5 hx_325)
                    refine lv_dup hC.1 hC.2.1 dX5_part_121 rfl ?_
                    refine x_const hC dX5_part_122 ?_
                    refine lv_aload hC.1 hC.2.1 dX5_part_123 (lv_at hl 0 rfl) ?_
                    refine x_const hC dX5_part_125 ?_
                    refine x_ialdE (x := ((ti_308.b : Nat) : Int)) hC hw h_328.1 (by omega) (by omega) (by omega) dX5_part_126 h_328.2.2.1 ?_
                    refine x_iast hC hw hA_326 (by omega) (by omega) (by omega) dX5_part_127 (fun H locs hw => ?_)
                    obtain ⟨M_329, hM_330⟩ : ∃ z, z = va_up M_323 q_321 (some (.inl (G.2 1, 5, .inl (upd (fun _ => 0) (0 : Int).toNat (iN (((ti_308.b : Nat) : Int))))))) := ⟨_, rfl⟩
                    rw [← hM_330] at hw
                    have hA_331 : M_329 q_321 = some (.inl (G.2 1, 5, .inl (upd (fun _ => 0) (0 : Int).toNat (iN (((ti_308.b : Nat) : Int)))))) := by rw [hM_330, va_up_self]
                    have hx_332 := xExt.upd hq_322 hx_325 hM_330
                    have h_333 := hRk_303.ext hx_332
                    have h_334 := hIi_308.x5 (xExt.x5 hx_332)
                    refine lv_dup hC.1 hC.2.1 dX5_part_128 rfl ?_
                    refine x_const hC dX5_part_129 ?_
                    refine lv_iload_n hC.1 hC.2.1 dX5_part_130 rfl (lv_at hl 3 rfl) ?_
                    refine x_iast hC hw hA_331 (by omega) (by omega) (by omega) dX5_part_131 (fun H locs hw => ?_)
                    obtain ⟨M_335, hM_336⟩ : ∃ z, z = va_up M_329 q_321 (some (.inl (G.2 1, 5, .inl (upd (upd (fun _ => 0) (0 : Int).toNat (iN (((ti_308.b : Nat) : Int)))) (1 : Int).toNat (iN (p1)))))) := ⟨_, rfl⟩
                    rw [← hM_336] at hw
                    have hA_337 : M_335 q_321 = some (.inl (G.2 1, 5, .inl (upd (upd (fun _ => 0) (0 : Int).toNat (iN (((ti_308.b : Nat) : Int)))) (1 : Int).toNat (iN (p1))))) := by rw [hM_336, va_up_self]
                    have hx_338 := xExt.upd hq_322 hx_332 hM_336
                    have h_339 := hRk_303.ext hx_338
                    have h_340 := hIi_308.x5 (xExt.x5 hx_338)
                    refine lv_dup hC.1 hC.2.1 dX5_part_132 rfl ?_
                    refine x_const hC dX5_part_133 ?_
                    refine lv_iload_n hC.1 hC.2.1 dX5_part_134 rfl (lv_at hl 4 rfl) ?_
                    refine x_callS hC hw (lv_size hl) (c_X5_one l G (M := M_335) (p0 := p2) (by omega)) gX5_part_X5_one rfl dv_X5_one_s rfl (Nat.le_of_ble_eq_true rfl) (by rw [hRf]; decide) (by rw [hRl]; decide) (by omega) (by omega) dX5_part_135 (fun r9 M_341 H locs hq hw => ?_)
                    obtain ⟨z_342, rfl, hM9, hz_342a, hz_342b⟩ := hq
                    rw [hM9] at hw
                    show W p l e R s m args below meth c H locs _ _ _ (F0 m 138 ls [.int (iN (z_342)), .int (iN (2)), .ref q_321, .ref q_321, .ref a])
                    refine x_iast hC hw hA_337 (by omega) (by omega) (by omega) dX5_part_138 (fun H locs hw => ?_)
                    obtain ⟨M_343, hM_344⟩ : ∃ z, z = va_up M_335 q_321 (some (.inl (G.2 1, 5, .inl (upd (upd (upd (fun _ => 0) (0 : Int).toNat (iN (((ti_308.b : Nat) : Int)))) (1 : Int).toNat (iN (p1))) (2 : Int).toNat (iN (z_342)))))) := ⟨_, rfl⟩
                    rw [← hM_344] at hw
                    have hA_345 : M_343 q_321 = some (.inl (G.2 1, 5, .inl (upd (upd (upd (fun _ => 0) (0 : Int).toNat (iN (((ti_308.b : Nat) : Int)))) (1 : Int).toNat (iN (p1))) (2 : Int).toNat (iN (z_342))))) := by rw [hM_344, va_up_self]
                    have hx_346 := xExt.upd hq_322 hx_338 hM_344
                    have h_347 := hRk_303.ext hx_346
                    have h_348 := hIi_308.x5 (xExt.x5 hx_346)
                    refine lv_dup hC.1 hC.2.1 dX5_part_139 rfl ?_
                    refine x_const hC dX5_part_140 ?_
                    refine lv_iload hC.1 hC.2.1 dX5_part_141 (lv_at hl 5 rfl) ?_
                    refine x_iast hC hw hA_345 (by omega) (by omega) (by omega) dX5_part_143 (fun H locs hw => ?_)
                    obtain ⟨M_349, hM_350⟩ : ∃ z, z = va_up M_343 q_321 (some (.inl (G.2 1, 5, .inl (upd (upd (upd (upd (fun _ => 0) (0 : Int).toNat (iN (((ti_308.b : Nat) : Int)))) (1 : Int).toNat (iN (p1))) (2 : Int).toNat (iN (z_342))) (3 : Int).toNat (iN (p3)))))) := ⟨_, rfl⟩
                    rw [← hM_350] at hw
                    have hA_351 : M_349 q_321 = some (.inl (G.2 1, 5, .inl (upd (upd (upd (upd (fun _ => 0) (0 : Int).toNat (iN (((ti_308.b : Nat) : Int)))) (1 : Int).toNat (iN (p1))) (2 : Int).toNat (iN (z_342))) (3 : Int).toNat (iN (p3))))) := by rw [hM_350, va_up_self]
                    have hx_352 := xExt.upd hq_322 hx_346 hM_350
                    have h_353 := hRk_303.ext hx_352
                    have h_354 := hIi_308.x5 (xExt.x5 hx_352)
                    refine lv_dup hC.1 hC.2.1 dX5_part_144 rfl ?_
                    refine x_const hC dX5_part_145 ?_
                    refine lv_iload hC.1 hC.2.1 dX5_part_146 (lv_at hl 6 rfl) ?_
                    refine x_callS hC hw (lv_size hl) (c_X5_one l G (M := M_349) (p0 := p4) (by omega)) gX5_part_X5_one rfl dv_X5_one_s rfl (Nat.le_of_ble_eq_true rfl) (by rw [hRf]; decide) (by rw [hRl]; decide) (by omega) (by omega) dX5_part_148 (fun r9 M_355 H locs hq hw => ?_)
                    obtain ⟨z_356, rfl, hM9, hz_356a, hz_356b⟩ := hq
                    rw [hM9] at hw
                    show W p l e R s m args below meth c H locs _ _ _ (F0 m 151 ls [.int (iN (z_356)), .int (iN (4)), .ref q_321, .ref q_321, .ref a])
                    refine x_iast hC hw hA_351 (by omega) (by omega) (by omega) dX5_part_151 (fun H locs hw => ?_)
                    obtain ⟨M_357, hM_358⟩ : ∃ z, z = va_up M_349 q_321 (some (.inl (G.2 1, 5, .inl (upd (upd (upd (upd (upd (fun _ => 0) (0 : Int).toNat (iN (((ti_308.b : Nat) : Int)))) (1 : Int).toNat (iN (p1))) (2 : Int).toNat (iN (z_342))) (3 : Int).toNat (iN (p3))) (4 : Int).toNat (iN (z_356)))))) := ⟨_, rfl⟩
                    rw [← hM_358] at hw
                    have hA_359 : M_357 q_321 = some (.inl (G.2 1, 5, .inl (upd (upd (upd (upd (upd (fun _ => 0) (0 : Int).toNat (iN (((ti_308.b : Nat) : Int)))) (1 : Int).toNat (iN (p1))) (2 : Int).toNat (iN (z_342))) (3 : Int).toNat (iN (p3))) (4 : Int).toNat (iN (z_356))))) := by rw [hM_358, va_up_self]
                    have hx_360 := xExt.upd hq_322 hx_352 hM_358
                    have h_361 := hRk_303.ext hx_360
                    have h_362 := hIi_308.x5 (xExt.x5 hx_360)
                    have hI_363 : Its G M_357 q_321 (upd (upd (upd (upd (upd (fun _ => 0) (0 : Int).toNat (iN (((ti_308.b : Nat) : Int)))) (1 : Int).toNat (iN (p1))) (2 : Int).toNat (iN (z_342))) (3 : Int).toNat (iN (p3))) (4 : Int).toNat (iN (z_356))) (ti_308.b, p1, p3, p2, p4) := ⟨hA_359, ⟨(show ti_308.b < 3 by omega), (show p1 = -10000 ∨ (0 ≤ p1 ∧ p1 ≤ 99) by omega), (show p3 = -10000 ∨ (0 ≤ p3 ∧ p3 ≤ 99) by omega), (show p2 = 0 ∨ p2 = 1 by omega), (show p4 = 0 ∨ p4 = 1 by omega)⟩, rfl, rfl, (show iN (z_342) = iN _ by rw [show z_342 = p2 by omega]), rfl, (show iN (z_356) = iN _ by rw [show z_356 = p4 by omega])⟩
                    refine x_callV hC hw (lv_size hl) (c_X5_open l G h_361 hI_363 (by omega)) gX5_part_X5_open rfl dv_X5_open h_361.1.1 rfl rfl (Nat.le_of_ble_eq_true rfl) (by rw [hRf]; decide) (by rw [hRl]; decide) (by omega) (by omega) dX5_part_152 (fun r9 M_364 H locs hq hw => ?_)
                    obtain ⟨z_366, fyk_365, Wvk_365, rfl, hz_366a, hz_366f, he0k_365, hx5k_365, hRk_365⟩ := hq
                    have h_367 := h_362.x5 hx5k_365
                    have h_368 := hI_363.x5 hx5k_365
                    have hsck_365 := hRk_365.sc
                    show W p l e R s m args below meth c H locs _ _ _ (F0 m 155 ls [.int (iN (z_366))])
                    exact x_iret hC hw dX5_part_155 (by omega) (by omega) ⟨z_366, _, rfl, by omega, Or.inl ⟨by omega, by first | trivial | omega, (by have i9 := inI_01 (O ti_308.b) (p1).toNat ti_308; have i8 := inI_01 (O ti_308.b) (p3).toNat ti_308; rw [A_part, show tvW (ST.W (O, V, Wv, K, kp, kv, rfd)) p0.toNat = ti_308 from tvW_some hui_308]; show _ = (if ((inI (O ti_308.b) ti_308 (p1).toNat = 1 ∧ inI (O ti_308.b) ti_308 (p3).toNat = 1) ∧ ¬ mwN (O ti_308.b) (p3).toNat < mwN (O ti_308.b) (p1).toNat) then (frN Wv : Int) else -20000); omega), (by have i9 := inI_01 (O ti_308.b) (p1).toNat ti_308; have i8 := inI_01 (O ti_308.b) (p3).toNat ti_308; rw [S_part, show tvW (ST.W (O, V, Wv, K, kp, kv, rfd)) p0.toNat = ti_308 from tvW_some hui_308]; show MGm _ _ _ _ _ (if ((inI (O ti_308.b) ti_308 (p1).toNat = 1 ∧ inI (O ti_308.b) ti_308 (p3).toNat = 1) ∧ ¬ mwN (O ti_308.b) (p3).toNat < mwN (O ti_308.b) (p1).toNat) then _ else _); rw [if_pos (by omega)]; exact (by have e9 := hRk_365; rw [he0k_365] at e9; exact MGm.of e9 hK))⟩⟩
                  · refine x_sipush hC dX5_part_113 (by decide +kernel) ?_
                    exact x_iret hC hw dX5_part_116 (by omega) (by omega) ⟨(-20000), _, rfl, by omega, Or.inl ⟨by omega, by first | trivial | omega, (by have i9 := inI_01 (O ti_308.b) (p1).toNat ti_308; have i8 := inI_01 (O ti_308.b) (p3).toNat ti_308; rw [A_part, show tvW (ST.W (O, V, Wv, K, kp, kv, rfd)) p0.toNat = ti_308 from tvW_some hui_308]; show _ = (if ((inI (O ti_308.b) ti_308 (p1).toNat = 1 ∧ inI (O ti_308.b) ti_308 (p3).toNat = 1) ∧ ¬ mwN (O ti_308.b) (p3).toNat < mwN (O ti_308.b) (p1).toNat) then (frN Wv : Int) else -20000); omega), (by have i9 := inI_01 (O ti_308.b) (p1).toNat ti_308; have i8 := inI_01 (O ti_308.b) (p3).toNat ti_308; rw [S_part, show tvW (ST.W (O, V, Wv, K, kp, kv, rfd)) p0.toNat = ti_308 from tvW_some hui_308]; show MGm _ _ _ _ _ (if ((inI (O ti_308.b) ti_308 (p1).toNat = 1 ∧ inI (O ti_308.b) ti_308 (p3).toNat = 1) ∧ ¬ mwN (O ti_308.b) (p3).toNat < mwN (O ti_308.b) (p1).toNat) then _ else _); rw [if_neg (by omega)]; exact MGm.of hRk_303 hK)⟩⟩
            · refine x_const hC dX5_part_64 ?_
              exact x_iret hC hw dX5_part_65 (by omega) (by omega) ⟨0, _, rfl, by omega, Or.inr ⟨by omega, by omega, MGm.of hRk_303 hK⟩⟩
          · refine x_const hC dX5_part_52 ?_
            refine lv_goto (tgt := 57) hC.1 hC.2.1 dX5_part_53 (by decide) ?_
            refine x_const hC dX5_part_57 ?_
            refine x_callV hC hw (lv_size hl) (c_X5_refuse l G hRk_296 (p0 := 1) (by omega) (p1 := 3) (by omega) (by omega)) gX5_part_X5_refuse rfl dv_X5_refuse hRk_296.1.1 rfl rfl (Nat.le_of_ble_eq_true rfl) (by rw [hRf]; decide) (by rw [hRl]; decide) (by omega) (by omega) dX5_part_58 (fun r9 M_369 H locs hq hw => ?_)
            obtain ⟨z_371, thk_370, rfl, hz_371a, hz_371b, hz_371c0, hz_371c1, hx5k_370, hRk_370⟩ := hq
            have hsck_370 := hRk_370.sc
            show W p l e R s m args below meth c H locs _ _ _ (F0 m 61 ls [.int (iN (z_371))])
            refine x_if_eq (tgt := 66) hC ⟨by omega, by omega⟩ dX5_part_61 (by decide) (fun c_372 => ?_) (fun c_372 => ?_)
            · refine lv_aload_n hC.1 hC.2.1 dX5_part_66 rfl (lv_at hl 0 rfl) ?_
              refine x_get hC hw hRk_370.1.1 rfl hinX5 5 (by decide) (by decide +kernel) rfl dX5_part_67 ?_
              refine lv_iload_n hC.1 hC.2.1 dX5_part_70 rfl (lv_at hl 1 rfl) ?_
              refine x_ald4 hC hw hRk_370.1.2.2.2.2.1 (by omega) (by omega) (by omega) dX5_part_71 ?_
              obtain ⟨y_373, hy_374⟩ := x_some (hz_2n (by omega))
              rw [hy_374]
              obtain ⟨ti_375, fi_375, hui_375, hIi_375⟩ := (hRk_370.vw (show (p0).toNat < 4 by omega)).yes hy_374
              obtain ⟨htat_376, htbt_376, htct_376, htdt_376, htet_376⟩ := id hIi_375.2.1
              show W p l e R s m args below meth c _ _ _ _ _ (F0 m 72 ls [.ref y_373])
              refine lv_astore (lv' := [(6, .ref y_373), (0, .ref a), (1, .int (iN (p0))), (2, .int (iN (p1))), (3, .int (iN (p2))), (4, .int (iN (p3))), (5, .int (iN (p4)))]) hC.1 hC.2.1 dX5_part_72 hl (by decide) rfl (fun ls hl => ?_)
              refine lv_aload_n hC.1 hC.2.1 dX5_part_74 rfl (lv_at hl 1 rfl) ?_
              refine lv_aload hC.1 hC.2.1 dX5_part_75 (lv_at hl 0 rfl) ?_
              refine lv_iload_n hC.1 hC.2.1 dX5_part_77 rfl (lv_at hl 3 rfl) ?_
              refine x_callV hC hw (lv_size hl) (c_X5_isWithin l G hRk_370 hIi_375 (p0 := p1) (by omega) (by omega)) gX5_part_X5_isWithin rfl dv_X5_isWithin hRk_370.1.1 rfl rfl (Nat.le_of_ble_eq_true rfl) (by rw [hRf]; decide) (by rw [hRl]; decide) (by omega) (by omega) dX5_part_78 (fun r9 M_377 H locs hq hw => ?_)
              obtain ⟨z_378, rfl, hM9, hz_378a, hz_378w⟩ := hq
              rw [hM9] at hw
              show W p l e R s m args below meth c H locs _ _ _ (F0 m 81 ls [.int (iN (z_378))])
              refine x_if_eq (tgt := 113) hC ⟨by omega, by omega⟩ dX5_part_81 (by decide) (fun c_379 => ?_) (fun c_379 => ?_)
              · refine x_sipush hC dX5_part_113 (by decide +kernel) ?_
                exact x_iret hC hw dX5_part_116 (by omega) (by omega) ⟨(-20000), _, rfl, by omega, Or.inl ⟨by omega, by first | trivial | omega, (by have i9 := inI_01 (O ti_375.b) (p1).toNat ti_375; have i8 := inI_01 (O ti_375.b) (p3).toNat ti_375; rw [A_part, show tvW (ST.W (O, V, Wv, K, kp, kv, rfd)) p0.toNat = ti_375 from tvW_some hui_375]; show _ = (if ((inI (O ti_375.b) ti_375 (p1).toNat = 1 ∧ inI (O ti_375.b) ti_375 (p3).toNat = 1) ∧ ¬ mwN (O ti_375.b) (p3).toNat < mwN (O ti_375.b) (p1).toNat) then (frN Wv : Int) else -20000); omega), (by have i9 := inI_01 (O ti_375.b) (p1).toNat ti_375; have i8 := inI_01 (O ti_375.b) (p3).toNat ti_375; rw [S_part, show tvW (ST.W (O, V, Wv, K, kp, kv, rfd)) p0.toNat = ti_375 from tvW_some hui_375]; show MGm _ _ _ _ _ (if ((inI (O ti_375.b) ti_375 (p1).toNat = 1 ∧ inI (O ti_375.b) ti_375 (p3).toNat = 1) ∧ ¬ mwN (O ti_375.b) (p3).toNat < mwN (O ti_375.b) (p1).toNat) then _ else _); rw [if_neg (by omega)]; exact MGm.of hRk_370 hK)⟩⟩
              · refine lv_aload_n hC.1 hC.2.1 dX5_part_84 rfl (lv_at hl 1 rfl) ?_
                refine lv_aload hC.1 hC.2.1 dX5_part_85 (lv_at hl 0 rfl) ?_
                refine lv_iload hC.1 hC.2.1 dX5_part_87 (lv_at hl 5 rfl) ?_
                refine x_callV hC hw (lv_size hl) (c_X5_isWithin l G hRk_370 hIi_375 (p0 := p3) (by omega) (by omega)) gX5_part_X5_isWithin rfl dv_X5_isWithin hRk_370.1.1 rfl rfl (Nat.le_of_ble_eq_true rfl) (by rw [hRf]; decide) (by rw [hRl]; decide) (by omega) (by omega) dX5_part_89 (fun r9 M_380 H locs hq hw => ?_)
                obtain ⟨z_381, rfl, hM9, hz_381a, hz_381w⟩ := hq
                rw [hM9] at hw
                show W p l e R s m args below meth c H locs _ _ _ (F0 m 92 ls [.int (iN (z_381))])
                refine x_if_eq (tgt := 113) hC ⟨by omega, by omega⟩ dX5_part_92 (by decide) (fun c_382 => ?_) (fun c_382 => ?_)
                · refine x_sipush hC dX5_part_113 (by decide +kernel) ?_
                  exact x_iret hC hw dX5_part_116 (by omega) (by omega) ⟨(-20000), _, rfl, by omega, Or.inl ⟨by omega, by first | trivial | omega, (by have i9 := inI_01 (O ti_375.b) (p1).toNat ti_375; have i8 := inI_01 (O ti_375.b) (p3).toNat ti_375; rw [A_part, show tvW (ST.W (O, V, Wv, K, kp, kv, rfd)) p0.toNat = ti_375 from tvW_some hui_375]; show _ = (if ((inI (O ti_375.b) ti_375 (p1).toNat = 1 ∧ inI (O ti_375.b) ti_375 (p3).toNat = 1) ∧ ¬ mwN (O ti_375.b) (p3).toNat < mwN (O ti_375.b) (p1).toNat) then (frN Wv : Int) else -20000); omega), (by have i9 := inI_01 (O ti_375.b) (p1).toNat ti_375; have i8 := inI_01 (O ti_375.b) (p3).toNat ti_375; rw [S_part, show tvW (ST.W (O, V, Wv, K, kp, kv, rfd)) p0.toNat = ti_375 from tvW_some hui_375]; show MGm _ _ _ _ _ (if ((inI (O ti_375.b) ti_375 (p1).toNat = 1 ∧ inI (O ti_375.b) ti_375 (p3).toNat = 1) ∧ ¬ mwN (O ti_375.b) (p3).toNat < mwN (O ti_375.b) (p1).toNat) then _ else _); rw [if_neg (by omega)]; exact MGm.of hRk_370 hK)⟩⟩
                · refine lv_aload_n hC.1 hC.2.1 dX5_part_95 rfl (lv_at hl 1 rfl) ?_
                  refine lv_aload hC.1 hC.2.1 dX5_part_96 (lv_at hl 0 rfl) ?_
                  refine lv_iload_n hC.1 hC.2.1 dX5_part_98 rfl (lv_at hl 3 rfl) ?_
                  refine x_callV hC hw (lv_size hl) (c_X5_weight l G hRk_370 hIi_375 (p0 := p1) (by omega) (by omega)) gX5_part_X5_weight rfl dv_X5_weight hRk_370.1.1 rfl rfl (Nat.le_of_ble_eq_true rfl) (by rw [hRf]; decide) (by rw [hRl]; decide) (by omega) (by omega) dX5_part_99 (fun r9 M_383 H locs hq hw => ?_)
                  obtain ⟨z_384, rfl, hM9, hz_384a, hz_384b⟩ := hq
                  rw [hM9] at hw
                  show W p l e R s m args below meth c H locs _ _ _ (F0 m 102 ls [.int (iN (z_384))])
                  refine lv_aload_n hC.1 hC.2.1 dX5_part_102 rfl (lv_at hl 1 rfl) ?_
                  refine lv_aload hC.1 hC.2.1 dX5_part_103 (lv_at hl 0 rfl) ?_
                  refine lv_iload hC.1 hC.2.1 dX5_part_105 (lv_at hl 5 rfl) ?_
                  refine x_callV hC hw (lv_size hl) (c_X5_weight l G hRk_370 hIi_375 (p0 := p3) (by omega) (by omega)) gX5_part_X5_weight rfl dv_X5_weight hRk_370.1.1 rfl rfl (Nat.le_of_ble_eq_true rfl) (by rw [hRf]; decide) (by rw [hRl]; decide) (by omega) (by omega) dX5_part_107 (fun r9 M_385 H locs hq hw => ?_)
                  obtain ⟨z_386, rfl, hM9, hz_386a, hz_386b⟩ := hq
                  rw [hM9] at hw
                  show W p l e R s m args below meth c H locs _ _ _ (F0 m 110 ls [.int (iN (z_386)), .int (iN (z_384))])
                  refine x_icmp_le (tgt := 117) hC ⟨by omega, by omega⟩ ⟨by omega, by omega⟩ dX5_part_110 (by decide) (fun c_387 => ?_) (fun c_387 => ?_)
                  · refine lv_aload_n hC.1 hC.2.1 dX5_part_117 rfl (lv_at hl 1 rfl) ?_
                    refine x_const hC dX5_part_118 ?_
                    refine x_newI hC hw (by decide +kernel) 5 rfl (by decide) (by omega) (by omega) dX5_part_119 (fun q_388 H hq_389 hw => ?_)
                    obtain ⟨M_390, hM_391⟩ : ∃ z, z = va_up M_369 q_388 (some (.inl (G.2 1, 5, .inl (fun _ => 0)))) := ⟨_, rfl⟩
                    rw [← hM_391] at hw
                    have hx_392 : xExt M_369 M_390 := by rw [hM_391]; exact xExt.new hq_389
                    have hA_393 : M_390 q_388 = some (.inl (G.2 1, 5, .inl (fun _ => 0))) := by rw [hM_391, va_up_self]
                    have h_394 := hRk_370.ext hx_392
                    have h_395 := hIi_375.x5 (xExt.x5 hx_392)
                    refine lv_dup hC.1 hC.2.1 dX5_part_121 rfl ?_
                    refine x_const hC dX5_part_122 ?_
                    refine lv_aload hC.1 hC.2.1 dX5_part_123 (lv_at hl 0 rfl) ?_
                    refine x_const hC dX5_part_125 ?_
                    refine x_ialdE (x := ((ti_375.b : Nat) : Int)) hC hw h_395.1 (by omega) (by omega) (by omega) dX5_part_126 h_395.2.2.1 ?_
                    refine x_iast hC hw hA_393 (by omega) (by omega) (by omega) dX5_part_127 (fun H locs hw => ?_)
                    obtain ⟨M_396, hM_397⟩ : ∃ z, z = va_up M_390 q_388 (some (.inl (G.2 1, 5, .inl (upd (fun _ => 0) (0 : Int).toNat (iN (((ti_375.b : Nat) : Int))))))) := ⟨_, rfl⟩
                    rw [← hM_397] at hw
                    have hA_398 : M_396 q_388 = some (.inl (G.2 1, 5, .inl (upd (fun _ => 0) (0 : Int).toNat (iN (((ti_375.b : Nat) : Int)))))) := by rw [hM_397, va_up_self]
                    have hx_399 := xExt.upd hq_389 hx_392 hM_397
                    have h_400 := hRk_370.ext hx_399
                    have h_401 := hIi_375.x5 (xExt.x5 hx_399)
                    refine lv_dup hC.1 hC.2.1 dX5_part_128 rfl ?_
                    refine x_const hC dX5_part_129 ?_
                    refine lv_iload_n hC.1 hC.2.1 dX5_part_130 rfl (lv_at hl 3 rfl) ?_
                    refine x_iast hC hw hA_398 (by omega) (by omega) (by omega) dX5_part_131 (fun H locs hw => ?_)
                    obtain ⟨M_402, hM_403⟩ : ∃ z, z = va_up M_396 q_388 (some (.inl (G.2 1, 5, .inl (upd (upd (fun _ => 0) (0 : Int).toNat (iN (((ti_375.b : Nat) : Int)))) (1 : Int).toNat (iN (p1)))))) := ⟨_, rfl⟩
                    rw [← hM_403] at hw
                    have hA_404 : M_402 q_388 = some (.inl (G.2 1, 5, .inl (upd (upd (fun _ => 0) (0 : Int).toNat (iN (((ti_375.b : Nat) : Int)))) (1 : Int).toNat (iN (p1))))) := by rw [hM_403, va_up_self]
                    have hx_405 := xExt.upd hq_389 hx_399 hM_403
                    have h_406 := hRk_370.ext hx_405
                    have h_407 := hIi_375.x5 (xExt.x5 hx_405)
                    refine lv_dup hC.1 hC.2.1 dX5_part_132 rfl ?_
                    refine x_const hC dX5_part_133 ?_
                    refine lv_iload_n hC.1 hC.2.1 dX5_part_134 rfl (lv_at hl 4 rfl) ?_
                    refine x_callS hC hw (lv_size hl) (c_X5_one l G (M := M_402) (p0 := p2) (by omega)) gX5_part_X5_one rfl dv_X5_one_s rfl (Nat.le_of_ble_eq_true rfl) (by rw [hRf]; decide) (by rw [hRl]; decide) (by omega) (by omega) dX5_part_135 (fun r9 M_408 H locs hq hw => ?_)
                    obtain ⟨z_409, rfl, hM9, hz_409a, hz_409b⟩ := hq
                    rw [hM9] at hw
                    show W p l e R s m args below meth c H locs _ _ _ (F0 m 138 ls [.int (iN (z_409)), .int (iN (2)), .ref q_388, .ref q_388, .ref a])
                    refine x_iast hC hw hA_404 (by omega) (by omega) (by omega) dX5_part_138 (fun H locs hw => ?_)
                    obtain ⟨M_410, hM_411⟩ : ∃ z, z = va_up M_402 q_388 (some (.inl (G.2 1, 5, .inl (upd (upd (upd (fun _ => 0) (0 : Int).toNat (iN (((ti_375.b : Nat) : Int)))) (1 : Int).toNat (iN (p1))) (2 : Int).toNat (iN (z_409)))))) := ⟨_, rfl⟩
                    rw [← hM_411] at hw
                    have hA_412 : M_410 q_388 = some (.inl (G.2 1, 5, .inl (upd (upd (upd (fun _ => 0) (0 : Int).toNat (iN (((ti_375.b : Nat) : Int)))) (1 : Int).toNat (iN (p1))) (2 : Int).toNat (iN (z_409))))) := by rw [hM_411, va_up_self]
                    have hx_413 := xExt.upd hq_389 hx_405 hM_411
                    have h_414 := hRk_370.ext hx_413
                    have h_415 := hIi_375.x5 (xExt.x5 hx_413)
                    refine lv_dup hC.1 hC.2.1 dX5_part_139 rfl ?_
                    refine x_const hC dX5_part_140 ?_
                    refine lv_iload hC.1 hC.2.1 dX5_part_141 (lv_at hl 5 rfl) ?_
                    refine x_iast hC hw hA_412 (by omega) (by omega) (by omega) dX5_part_143 (fun H locs hw => ?_)
                    obtain ⟨M_416, hM_417⟩ : ∃ z, z = va_up M_410 q_388 (some (.inl (G.2 1, 5, .inl (upd (upd (upd (upd (fun _ => 0) (0 : Int).toNat (iN (((ti_375.b : Nat) : Int)))) (1 : Int).toNat (iN (p1))) (2 : Int).toNat (iN (z_409))) (3 : Int).toNat (iN (p3)))))) := ⟨_, rfl⟩
                    rw [← hM_417] at hw
                    have hA_418 : M_416 q_388 = some (.inl (G.2 1, 5, .inl (upd (upd (upd (upd (fun _ => 0) (0 : Int).toNat (iN (((ti_375.b : Nat) : Int)))) (1 : Int).toNat (iN (p1))) (2 : Int).toNat (iN (z_409))) (3 : Int).toNat (iN (p3))))) := by rw [hM_417, va_up_self]
                    have hx_419 := xExt.upd hq_389 hx_413 hM_417
                    have h_420 := hRk_370.ext hx_419
                    have h_421 := hIi_375.x5 (xExt.x5 hx_419)
                    refine lv_dup hC.1 hC.2.1 dX5_part_144 rfl ?_
                    refine x_const hC dX5_part_145 ?_
                    refine lv_iload hC.1 hC.2.1 dX5_part_146 (lv_at hl 6 rfl) ?_
                    refine x_callS hC hw (lv_size hl) (c_X5_one l G (M := M_416) (p0 := p4) (by omega)) gX5_part_X5_one rfl dv_X5_one_s rfl (Nat.le_of_ble_eq_true rfl) (by rw [hRf]; decide) (by rw [hRl]; decide) (by omega) (by omega) dX5_part_148 (fun r9 M_422 H locs hq hw => ?_)
                    obtain ⟨z_423, rfl, hM9, hz_423a, hz_423b⟩ := hq
                    rw [hM9] at hw
                    show W p l e R s m args below meth c H locs _ _ _ (F0 m 151 ls [.int (iN (z_423)), .int (iN (4)), .ref q_388, .ref q_388, .ref a])
                    refine x_iast hC hw hA_418 (by omega) (by omega) (by omega) dX5_part_151 (fun H locs hw => ?_)
                    obtain ⟨M_424, hM_425⟩ : ∃ z, z = va_up M_416 q_388 (some (.inl (G.2 1, 5, .inl (upd (upd (upd (upd (upd (fun _ => 0) (0 : Int).toNat (iN (((ti_375.b : Nat) : Int)))) (1 : Int).toNat (iN (p1))) (2 : Int).toNat (iN (z_409))) (3 : Int).toNat (iN (p3))) (4 : Int).toNat (iN (z_423)))))) := ⟨_, rfl⟩
                    rw [← hM_425] at hw
                    have hA_426 : M_424 q_388 = some (.inl (G.2 1, 5, .inl (upd (upd (upd (upd (upd (fun _ => 0) (0 : Int).toNat (iN (((ti_375.b : Nat) : Int)))) (1 : Int).toNat (iN (p1))) (2 : Int).toNat (iN (z_409))) (3 : Int).toNat (iN (p3))) (4 : Int).toNat (iN (z_423))))) := by rw [hM_425, va_up_self]
                    have hx_427 := xExt.upd hq_389 hx_419 hM_425
                    have h_428 := hRk_370.ext hx_427
                    have h_429 := hIi_375.x5 (xExt.x5 hx_427)
                    have hI_430 : Its G M_424 q_388 (upd (upd (upd (upd (upd (fun _ => 0) (0 : Int).toNat (iN (((ti_375.b : Nat) : Int)))) (1 : Int).toNat (iN (p1))) (2 : Int).toNat (iN (z_409))) (3 : Int).toNat (iN (p3))) (4 : Int).toNat (iN (z_423))) (ti_375.b, p1, p3, p2, p4) := ⟨hA_426, ⟨(show ti_375.b < 3 by omega), (show p1 = -10000 ∨ (0 ≤ p1 ∧ p1 ≤ 99) by omega), (show p3 = -10000 ∨ (0 ≤ p3 ∧ p3 ≤ 99) by omega), (show p2 = 0 ∨ p2 = 1 by omega), (show p4 = 0 ∨ p4 = 1 by omega)⟩, rfl, rfl, (show iN (z_409) = iN _ by rw [show z_409 = p2 by omega]), rfl, (show iN (z_423) = iN _ by rw [show z_423 = p4 by omega])⟩
                    refine x_callV hC hw (lv_size hl) (c_X5_open l G h_428 hI_430 (by omega)) gX5_part_X5_open rfl dv_X5_open h_428.1.1 rfl rfl (Nat.le_of_ble_eq_true rfl) (by rw [hRf]; decide) (by rw [hRl]; decide) (by omega) (by omega) dX5_part_152 (fun r9 M_431 H locs hq hw => ?_)
                    obtain ⟨z_433, fyk_432, Wvk_432, rfl, hz_433a, hz_433f, he0k_432, hx5k_432, hRk_432⟩ := hq
                    have h_434 := h_429.x5 hx5k_432
                    have h_435 := hI_430.x5 hx5k_432
                    have hsck_432 := hRk_432.sc
                    show W p l e R s m args below meth c H locs _ _ _ (F0 m 155 ls [.int (iN (z_433))])
                    exact x_iret hC hw dX5_part_155 (by omega) (by omega) ⟨z_433, _, rfl, by omega, Or.inl ⟨by omega, by first | trivial | omega, (by have i9 := inI_01 (O ti_375.b) (p1).toNat ti_375; have i8 := inI_01 (O ti_375.b) (p3).toNat ti_375; rw [A_part, show tvW (ST.W (O, V, Wv, K, kp, kv, rfd)) p0.toNat = ti_375 from tvW_some hui_375]; show _ = (if ((inI (O ti_375.b) ti_375 (p1).toNat = 1 ∧ inI (O ti_375.b) ti_375 (p3).toNat = 1) ∧ ¬ mwN (O ti_375.b) (p3).toNat < mwN (O ti_375.b) (p1).toNat) then (frN Wv : Int) else -20000); omega), (by have i9 := inI_01 (O ti_375.b) (p1).toNat ti_375; have i8 := inI_01 (O ti_375.b) (p3).toNat ti_375; rw [S_part, show tvW (ST.W (O, V, Wv, K, kp, kv, rfd)) p0.toNat = ti_375 from tvW_some hui_375]; show MGm _ _ _ _ _ (if ((inI (O ti_375.b) ti_375 (p1).toNat = 1 ∧ inI (O ti_375.b) ti_375 (p3).toNat = 1) ∧ ¬ mwN (O ti_375.b) (p3).toNat < mwN (O ti_375.b) (p1).toNat) then _ else _); rw [if_pos (by omega)]; exact (by have e9 := hRk_432; rw [he0k_432] at e9; exact MGm.of e9 hK))⟩⟩
                  · refine x_sipush hC dX5_part_113 (by decide +kernel) ?_
                    exact x_iret hC hw dX5_part_116 (by omega) (by omega) ⟨(-20000), _, rfl, by omega, Or.inl ⟨by omega, by first | trivial | omega, (by have i9 := inI_01 (O ti_375.b) (p1).toNat ti_375; have i8 := inI_01 (O ti_375.b) (p3).toNat ti_375; rw [A_part, show tvW (ST.W (O, V, Wv, K, kp, kv, rfd)) p0.toNat = ti_375 from tvW_some hui_375]; show _ = (if ((inI (O ti_375.b) ti_375 (p1).toNat = 1 ∧ inI (O ti_375.b) ti_375 (p3).toNat = 1) ∧ ¬ mwN (O ti_375.b) (p3).toNat < mwN (O ti_375.b) (p1).toNat) then (frN Wv : Int) else -20000); omega), (by have i9 := inI_01 (O ti_375.b) (p1).toNat ti_375; have i8 := inI_01 (O ti_375.b) (p3).toNat ti_375; rw [S_part, show tvW (ST.W (O, V, Wv, K, kp, kv, rfd)) p0.toNat = ti_375 from tvW_some hui_375]; show MGm _ _ _ _ _ (if ((inI (O ti_375.b) ti_375 (p1).toNat = 1 ∧ inI (O ti_375.b) ti_375 (p3).toNat = 1) ∧ ¬ mwN (O ti_375.b) (p3).toNat < mwN (O ti_375.b) (p1).toNat) then _ else _); rw [if_neg (by omega)]; exact MGm.of hRk_370 hK)⟩⟩
            · refine x_const hC dX5_part_64 ?_
              exact x_iret hC hw dX5_part_65 (by omega) (by omega) ⟨0, _, rfl, by omega, Or.inr ⟨by omega, by omega, MGm.of hRk_370 hK⟩⟩
set_option maxHeartbeats 4000000 in
set_option maxRecDepth 100000 in
theorem c_X5_shut (l : Launch) (G : xG) {M : HM} {a va oa wa ya : Nat} {wk : Option Nat} {th : Int} {rfd : Int32} {br re la ha : Int} {kp kv : Int32} {qv qw : Nat → Nat} {fa fb : Nat → Option Nat} {V : BW} {O : OW} {fy : Nat → Option Nat} {Wv : VW} {wt : Option VT} {S : Nat → Bool} (hR : MGx G M a va oa wa ya wk th rfd br re la ha kp kv qv qw fa fb V O fy Wv wt S) {K : WA} (hK : abM O wt br re la ha K) {p0 : Int} (hp0 : -2147483648 ≤ p0 ∧ p0 ≤ 2147483647) : xMet l G yX5_shut wsX5_shut 4 90 0 0 [.ref a, .int (iN (p0))] M (fun r M1 => ∃ (z th1 : Int), r = some (.int (iN z)) ∧ (-2147483648 ≤ z ∧ z ≤ 2147483647) ∧ ((th1 = 0 ∧ ((0 ≤ p0 ∧ p0 ≤ 3 ∧ opN (Wv p0.toNat) = 1)) ∧ z = A_shut (O, V, Wv, K, kp, kv, rfd) p0 ∧ MGm G M1 a S th1 (S_shut (O, V, Wv, K, kp, kv, rfd) p0)) ∨ (th1 ≠ 0 ∧ ((th1 = 1 ∧ ¬ (0 ≤ p0 ∧ p0 ≤ 3 ∧ opN (Wv p0.toNat) = 1))) ∧ MGm G M1 a S th1 (O, V, Wv, K, kp, kv, rfd)))) := by
  refine x_intro (cc := cX5_shut) (maxL := 3) (ret := (some .int)) (by decide +kernel) rfl (Nat.le_of_ble_eq_true rfl) ?_
  intro p e R s m args below meth c ls hRf hRc hRs hRl hC hw hl
  have hsc0 := hR.sc
  have hinX5 : ∀ w ∈ wsX50, w ∈ wsX5_shut := by decide +kernel
  have hl : lv_has ls 3 [(0, .ref a), (1, .int (iN (p0)))] := hl
  refine lv_aload_n hC.1 hC.2.1 dX5_shut_0 rfl (lv_at hl 0 rfl) ?_
  refine lv_aload_n hC.1 hC.2.1 dX5_shut_1 rfl (lv_at hl 0 rfl) ?_
  refine lv_iload_n hC.1 hC.2.1 dX5_shut_2 rfl (lv_at hl 1 rfl) ?_
  refine x_callV hC hw (lv_size hl) (c_X5_isNoView l G hR (p0 := p0) (by omega)) gX5_shut_X5_isNoView rfl dv_X5_isNoView hR.1.1 rfl rfl (Nat.le_of_ble_eq_true rfl) (by rw [hRf]; decide) (by rw [hRl]; decide) (by omega) (by omega) dX5_shut_3 (fun r9 M_1 H locs hq hw => ?_)
  obtain ⟨z_2, rfl, hM9, hz_2a, hz_2b, hz_2n⟩ := hq
  rw [hM9] at hw
  show W p l e R s m args below meth c H locs _ _ _ (F0 m 6 ls [.int (iN (z_2)), .ref a])
  refine x_const hC dX5_shut_6 ?_
  refine x_callV hC hw (lv_size hl) (c_X5_start l G hR (p0 := z_2) (by omega) (p1 := 1) (by omega) (by omega)) gX5_shut_X5_start rfl dv_X5_start hR.1.1 rfl rfl (Nat.le_of_ble_eq_true rfl) (by rw [hRf]; decide) (by rw [hRl]; decide) (by omega) (by omega) dX5_shut_7 (fun r9 M_3 H locs hq hw => ?_)
  obtain ⟨z_5, thk_4, rfl, hz_5a, hz_5b, hz_5c0, hz_5c1, hx5k_4, hRk_4⟩ := hq
  have hsck_4 := hRk_4.sc
  show W p l e R s m args below meth c H locs _ _ _ (F0 m 10 ls [.int (iN (z_5))])
  refine x_if_eq (tgt := 15) hC ⟨by omega, by omega⟩ dX5_shut_10 (by decide) (fun c_6 => ?_) (fun c_6 => ?_)
  · refine lv_aload_n hC.1 hC.2.1 dX5_shut_15 rfl (lv_at hl 0 rfl) ?_
    refine lv_aload_n hC.1 hC.2.1 dX5_shut_16 rfl (lv_at hl 0 rfl) ?_
    refine x_get hC hw hRk_4.1.1 rfl hinX5 5 (by decide) (by decide +kernel) rfl dX5_shut_17 ?_
    refine lv_iload_n hC.1 hC.2.1 dX5_shut_20 rfl (lv_at hl 1 rfl) ?_
    refine x_ald4 hC hw hRk_4.1.2.2.2.2.1 (by omega) (by omega) (by omega) dX5_shut_21 ?_
    obtain ⟨y_7, hy_8⟩ := x_some (hz_2n (by omega))
    rw [hy_8]
    obtain ⟨ti_9, fi_9, hui_9, hIi_9⟩ := (hRk_4.vw (show (p0).toNat < 4 by omega)).yes hy_8
    obtain ⟨htat_10, htbt_10, htct_10, htdt_10, htet_10⟩ := id hIi_9.2.1
    show W p l e R s m args below meth c _ _ _ _ _ (F0 m 22 ls [.ref y_7, .ref a])
    refine x_callV hC hw (lv_size hl) (c_X5_many l G hRk_4 hIi_9) gX5_shut_X5_many rfl dv_X5_many hRk_4.1.1 rfl rfl (Nat.le_of_ble_eq_true rfl) (by rw [hRf]; decide) (by rw [hRl]; decide) (by omega) (by omega) dX5_shut_22 (fun r9 M_11 H locs hq hw => ?_)
    obtain ⟨z_12, rfl, hM9, hz_12a, hz_12m⟩ := hq
    rw [hM9] at hw
    show W p l e R s m args below meth c H locs _ _ _ (F0 m 25 ls [.int (iN (z_12))])
    refine lv_istore_n (lv' := [(2, .int (iN (z_12))), (0, .ref a), (1, .int (iN (p0)))]) hC.1 hC.2.1 dX5_shut_25 rfl hl (by decide) rfl (fun ls hl => ?_)
    refine lv_aload_n hC.1 hC.2.1 dX5_shut_26 rfl (lv_at hl 1 rfl) ?_
    refine x_get hC hw hRk_4.1.1 rfl hinX5 5 (by decide) (by decide +kernel) rfl dX5_shut_27 ?_
    refine lv_iload_n hC.1 hC.2.1 dX5_shut_30 rfl (lv_at hl 2 rfl) ?_
    refine lv_null hC.1 hC.2.1 dX5_shut_31 ?_
    refine x_ast4N hC hw hRk_4.1.2.2.2.2.1 (by omega) (by omega) (by omega) dX5_shut_32 (fun H locs hw => ?_)
    obtain ⟨M_13, hM_14⟩ : ∃ z, z = va_up M_3 ya (some (.inl (G.2 4, 4, .inr (.inr (.inr (.inr (va_up fy (p0).toNat none))))))) := ⟨_, rfl⟩
    rw [← hM_14] at hw
    have hR_15 := hRk_4.vws (W2 := (upW Wv ((p0).toNat) none)) hM_14 (fun j9 hj => by by_cases e9 : j9 = (p0).toNat; (· subst e9; rw [va_up_self, upW_s]; trivial); (· rw [va_up_ne _ _ e9, upW_n _ _ e9]; exact hRk_4.vw hj))
    obtain ⟨fy_16, hfy_16⟩ : ∃ z, z = (va_up fy (p0).toNat none) := ⟨_, rfl⟩
    rw [← hfy_16] at hR_15
    obtain ⟨Wv_17, hWv_17⟩ : ∃ z, z = (upW Wv ((p0).toNat) none) := ⟨_, rfl⟩
    rw [← hWv_17] at hR_15
    have h_18 := hIi_9.x5 (hRk_4.vws5 hM_14)
    refine lv_iload_n hC.1 hC.2.1 dX5_shut_33 rfl (lv_at hl 0 rfl) ?_
    exact x_iret hC hw dX5_shut_34 (by omega) (by omega) ⟨z_12, _, rfl, by omega, Or.inl ⟨by omega, by first | trivial | omega, (by rw [A_shut, show tvW (ST.W (O, V, Wv, K, kp, kv, rfd)) p0.toNat = ti_9 from tvW_some hui_9]; exact hz_12m), (by have e9 := hR_15; rw [hWv_17] at e9; exact MGm.of e9 hK)⟩⟩
  · refine x_const hC dX5_shut_13 ?_
    exact x_iret hC hw dX5_shut_14 (by omega) (by omega) ⟨0, _, rfl, by omega, Or.inr ⟨by omega, by omega, MGm.of hRk_4 hK⟩⟩
set_option maxHeartbeats 4000000 in
set_option maxRecDepth 100000 in
theorem c_X5_viewPut (l : Launch) (G : xG) {M : HM} {a va oa wa ya : Nat} {wk : Option Nat} {th : Int} {rfd : Int32} {br re la ha : Int} {kp kv : Int32} {qv qw : Nat → Nat} {fa fb : Nat → Option Nat} {V : BW} {O : OW} {fy : Nat → Option Nat} {Wv : VW} {wt : Option VT} {S : Nat → Bool} (hR : MGx G M a va oa wa ya wk th rfd br re la ha kp kv qv qw fa fb V O fy Wv wt S) {K : WA} (hK : abM O wt br re la ha K) {p0 : Int} (hp0 : -2147483648 ≤ p0 ∧ p0 ≤ 2147483647) {p1 : Int} (hp1 : -2147483648 ≤ p1 ∧ p1 ≤ 2147483647) {p2 : Int} (hp2 : -2147483648 ≤ p2 ∧ p2 ≤ 2147483647) (hSk : 0 ≤ p1 ∧ p1 ≤ 99 → S p1.toNat = true) : xMet l G yX5_viewPut wsX5_viewPut 2 45 0 0 [.ref a, .int (iN (p0)), .int (iN (p1)), .int (iN (p2))] M (fun r M1 => ∃ (z th1 : Int), r = some (.int (iN z)) ∧ (-2147483648 ≤ z ∧ z ≤ 2147483647) ∧ ((th1 = 0 ∧ ((0 ≤ p0 ∧ p0 ≤ 3 ∧ opN (Wv p0.toNat) = 1) ∧ ((0 ≤ p1 ∧ p1 ≤ 99) ∧ (-9999 ≤ p2 ∧ p2 ≤ 9999))) ∧ z = A_viewPut (O, V, Wv, K, kp, kv, rfd) p0 p1 p2 ∧ MGm G M1 a S th1 (S_viewPut (O, V, Wv, K, kp, kv, rfd) p0 p1 p2)) ∨ (th1 ≠ 0 ∧ ((th1 = 1 ∧ ¬ (0 ≤ p0 ∧ p0 ≤ 3 ∧ opN (Wv p0.toNat) = 1)) ∨ (th1 = 2 ∧ (0 ≤ p0 ∧ p0 ≤ 3 ∧ opN (Wv p0.toNat) = 1) ∧ ¬ ((0 ≤ p1 ∧ p1 ≤ 99) ∧ (-9999 ≤ p2 ∧ p2 ≤ 9999)))) ∧ MGm G M1 a S th1 (O, V, Wv, K, kp, kv, rfd)))) := by
  refine x_intro (cc := cX5_viewPut) (maxL := 4) (ret := (some .int)) (by decide +kernel) rfl (Nat.le_of_ble_eq_true rfl) ?_
  intro p e R s m args below meth c ls hRf hRc hRs hRl hC hw hl
  have hsc0 := hR.sc
  have hinX5 : ∀ w ∈ wsX50, w ∈ wsX5_viewPut := by decide +kernel
  have hl : lv_has ls 4 [(0, .ref a), (1, .int (iN (p0))), (2, .int (iN (p1))), (3, .int (iN (p2)))] := hl
  refine lv_aload_n hC.1 hC.2.1 dX5_viewPut_0 rfl (lv_at hl 0 rfl) ?_
  refine lv_aload_n hC.1 hC.2.1 dX5_viewPut_1 rfl (lv_at hl 0 rfl) ?_
  refine lv_iload_n hC.1 hC.2.1 dX5_viewPut_2 rfl (lv_at hl 1 rfl) ?_
  refine x_callV hC hw (lv_size hl) (c_X5_isNoView l G hR (p0 := p0) (by omega)) gX5_viewPut_X5_isNoView rfl dv_X5_isNoView hR.1.1 rfl rfl (Nat.le_of_ble_eq_true rfl) (by rw [hRf]; decide) (by rw [hRl]; decide) (by omega) (by omega) dX5_viewPut_3 (fun r9 M_1 H locs hq hw => ?_)
  obtain ⟨z_2, rfl, hM9, hz_2a, hz_2b, hz_2n⟩ := hq
  rw [hM9] at hw
  show W p l e R s m args below meth c H locs _ _ _ (F0 m 6 ls [.int (iN (z_2)), .ref a])
  refine x_const hC dX5_viewPut_6 ?_
  refine x_callV hC hw (lv_size hl) (c_X5_start l G hR (p0 := z_2) (by omega) (p1 := 1) (by omega) (by omega)) gX5_viewPut_X5_start rfl dv_X5_start hR.1.1 rfl rfl (Nat.le_of_ble_eq_true rfl) (by rw [hRf]; decide) (by rw [hRl]; decide) (by omega) (by omega) dX5_viewPut_7 (fun r9 M_3 H locs hq hw => ?_)
  obtain ⟨z_5, thk_4, rfl, hz_5a, hz_5b, hz_5c0, hz_5c1, hx5k_4, hRk_4⟩ := hq
  have hsck_4 := hRk_4.sc
  show W p l e R s m args below meth c H locs _ _ _ (F0 m 10 ls [.int (iN (z_5))])
  refine x_if_ne (tgt := 40) hC ⟨by omega, by omega⟩ dX5_viewPut_10 (by decide) (fun c_6 => ?_) (fun c_6 => ?_)
  · refine x_const hC dX5_viewPut_40 ?_
    exact x_iret hC hw dX5_viewPut_41 (by omega) (by omega) ⟨0, _, rfl, by omega, Or.inr ⟨by omega, by omega, MGm.of hRk_4 hK⟩⟩
  · refine lv_aload_n hC.1 hC.2.1 dX5_viewPut_13 rfl (lv_at hl 0 rfl) ?_
    refine lv_iload_n hC.1 hC.2.1 dX5_viewPut_14 rfl (lv_at hl 2 rfl) ?_
    refine x_callS hC hw (lv_size hl) (c_X5_isNoKey l G (M := M_3) (p0 := p1) (by omega)) gX5_viewPut_X5_isNoKey rfl dv_X5_isNoKey_s rfl (Nat.le_of_ble_eq_true rfl) (by rw [hRf]; decide) (by rw [hRl]; decide) (by omega) (by omega) dX5_viewPut_15 (fun r9 M_7 H locs hq hw => ?_)
    obtain ⟨z_8, rfl, hM9, hz_8a, hz_8b⟩ := hq
    rw [hM9] at hw
    show W p l e R s m args below meth c H locs _ _ _ (F0 m 18 ls [.int (iN (z_8)), .ref a])
    refine x_if_ne (tgt := 28) hC ⟨by omega, by omega⟩ dX5_viewPut_18 (by decide) (fun c_9 => ?_) (fun c_9 => ?_)
    · refine x_const hC dX5_viewPut_28 ?_
      refine lv_goto (tgt := 33) hC.1 hC.2.1 dX5_viewPut_29 (by decide) ?_
      refine x_const hC dX5_viewPut_33 ?_
      refine x_callV hC hw (lv_size hl) (c_X5_refuse l G hRk_4 (p0 := 1) (by omega) (p1 := 2) (by omega) (by omega)) gX5_viewPut_X5_refuse rfl dv_X5_refuse hRk_4.1.1 rfl rfl (Nat.le_of_ble_eq_true rfl) (by rw [hRf]; decide) (by rw [hRl]; decide) (by omega) (by omega) dX5_viewPut_34 (fun r9 M_10 H locs hq hw => ?_)
      obtain ⟨z_12, thk_11, rfl, hz_12a, hz_12b, hz_12c0, hz_12c1, hx5k_11, hRk_11⟩ := hq
      have hsck_11 := hRk_11.sc
      show W p l e R s m args below meth c H locs _ _ _ (F0 m 37 ls [.int (iN (z_12))])
      refine x_if_eq (tgt := 42) hC ⟨by omega, by omega⟩ dX5_viewPut_37 (by decide) (fun c_13 => ?_) (fun c_13 => ?_)
      · refine lv_aload_n hC.1 hC.2.1 dX5_viewPut_42 rfl (lv_at hl 0 rfl) ?_
        refine lv_aload_n hC.1 hC.2.1 dX5_viewPut_43 rfl (lv_at hl 0 rfl) ?_
        refine x_get hC hw hRk_11.1.1 rfl hinX5 5 (by decide) (by decide +kernel) rfl dX5_viewPut_44 ?_
        refine lv_iload_n hC.1 hC.2.1 dX5_viewPut_47 rfl (lv_at hl 1 rfl) ?_
        refine x_ald4 hC hw hRk_11.1.2.2.2.2.1 (by omega) (by omega) (by omega) dX5_viewPut_48 ?_
        obtain ⟨y_14, hy_15⟩ := x_some (hz_2n (by omega))
        rw [hy_15]
        obtain ⟨ti_16, fi_16, hui_16, hIi_16⟩ := (hRk_11.vw (show (p0).toNat < 4 by omega)).yes hy_15
        obtain ⟨htat_17, htbt_17, htct_17, htdt_17, htet_17⟩ := id hIi_16.2.1
        show W p l e R s m args below meth c _ _ _ _ _ (F0 m 49 ls [.ref y_14, .ref a])
        refine x_const hC dX5_viewPut_49 ?_
        refine x_ialdE (x := ((ti_16.b : Nat) : Int)) hC hw hIi_16.1 (by omega) (by omega) (by omega) dX5_viewPut_50 hIi_16.2.2.1 ?_
        refine x_callV hC hw (lv_size hl) (c_X5_touch l G hRk_11 (p0 := ((ti_16.b : Nat) : Int)) (by omega) (by omega)) gX5_viewPut_X5_touch rfl dv_X5_touch hRk_11.1.1 rfl rfl (Nat.le_of_ble_eq_true rfl) (by rw [hRf]; decide) (by rw [hRl]; decide) (by omega) (by omega) dX5_viewPut_51 (fun r9 M_18 H locs hq hw => ?_)
        simp only [Int.toNat_natCast] at hq
        obtain ⟨hak_19, rfl, he0k_19, hx5k_19, hRk_19⟩ := hq
        have h_20 := hIi_16.x5 hx5k_19
        have hsck_19 := hRk_19.sc
        show W p l e R s m args below meth c H locs _ _ _ (F0 m 54 ls [])
        refine lv_aload_n hC.1 hC.2.1 dX5_viewPut_54 rfl (lv_at hl 0 rfl) ?_
        refine lv_aload_n hC.1 hC.2.1 dX5_viewPut_55 rfl (lv_at hl 0 rfl) ?_
        refine x_get hC hw hRk_19.1.1 rfl hinX5 5 (by decide) (by decide +kernel) rfl dX5_viewPut_56 ?_
        refine lv_iload_n hC.1 hC.2.1 dX5_viewPut_59 rfl (lv_at hl 1 rfl) ?_
        refine x_ald4 hC hw hRk_19.1.2.2.2.2.1 (by omega) (by omega) (by omega) dX5_viewPut_60 ?_
        rw [hy_15]
        show W p l e R s m args below meth c _ _ _ _ _ (F0 m 61 ls [.ref y_14, .ref a])
        refine lv_iload_n hC.1 hC.2.1 dX5_viewPut_61 rfl (lv_at hl 2 rfl) ?_
        refine x_callV hC hw (lv_size hl) (c_X5_isWithin l G hRk_19 h_20 (p0 := p1) (by omega) (by omega)) gX5_viewPut_X5_isWithin rfl dv_X5_isWithin hRk_19.1.1 rfl rfl (Nat.le_of_ble_eq_true rfl) (by rw [hRf]; decide) (by rw [hRl]; decide) (by omega) (by omega) dX5_viewPut_62 (fun r9 M_21 H locs hq hw => ?_)
        obtain ⟨z_22, rfl, hM9, hz_22a, hz_22w⟩ := hq
        rw [hM9] at hw
        show W p l e R s m args below meth c H locs _ _ _ (F0 m 65 ls [.int (iN (z_22))])
        refine x_if_eq (tgt := 85) hC ⟨by omega, by omega⟩ dX5_viewPut_65 (by decide) (fun c_23 => ?_) (fun c_23 => ?_)
        · refine x_sipush hC dX5_viewPut_85 (by decide +kernel) ?_
          exact x_iret hC hw dX5_viewPut_88 (by omega) (by omega) ⟨(-20000), _, rfl, by omega, Or.inl ⟨by omega, by first | trivial | omega, (by have i9 := inI_01 (O ti_16.b) (p1).toNat ti_16; rw [A_viewPut, (wiB_eq (s := (O, V, Wv, K, kp, kv, rfd)) (p0 := p0) (p1 := p1) hui_16), (vwV_eq (s := (O, V, Wv, K, kp, kv, rfd)) (p0 := p0) (p1 := p1) hui_16)]; show _ = (if inI (O ti_16.b) ti_16 (p1).toNat = 1 then (V ti_16.b (p1).toNat) else -20000); first | rfl | omega | ((repeat' split) <;> first | rfl | omega)), (by rw [S_viewPut, vwS_eq (s := (O, V, Wv, K, kp, kv, rfd)) hui_16 (by rw [(wiB_eq (s := (O, V, Wv, K, kp, kv, rfd)) (p0 := p0) (p1 := p1) hui_16), (vwV_eq (s := (O, V, Wv, K, kp, kv, rfd)) (p0 := p0) (p1 := p1) hui_16)])]; exact MGm.mut (F := V ti_16.b) (upB_self rfl).symm hRk_19 hK bl_rf he0k_19 (upV_self (show (V ti_16.b (p1).toNat) = (if inI (O ti_16.b) ti_16 (p1).toNat = 1 then p2 else (V ti_16.b (p1).toNat)) by have i9 := inI_01 (O ti_16.b) (p1).toNat ti_16; first | rfl | omega | ((repeat' split) <;> first | rfl | omega))).symm)⟩⟩
        · refine lv_aload_n hC.1 hC.2.1 dX5_viewPut_68 rfl (lv_at hl 0 rfl) ?_
          refine lv_aload_n hC.1 hC.2.1 dX5_viewPut_69 rfl (lv_at hl 0 rfl) ?_
          refine x_get hC hw hRk_19.1.1 rfl hinX5 5 (by decide) (by decide +kernel) rfl dX5_viewPut_70 ?_
          refine lv_iload_n hC.1 hC.2.1 dX5_viewPut_73 rfl (lv_at hl 1 rfl) ?_
          refine x_ald4 hC hw hRk_19.1.2.2.2.2.1 (by omega) (by omega) (by omega) dX5_viewPut_74 ?_
          rw [hy_15]
          show W p l e R s m args below meth c _ _ _ _ _ (F0 m 75 ls [.ref y_14, .ref a])
          refine x_const hC dX5_viewPut_75 ?_
          refine x_ialdE (x := ((ti_16.b : Nat) : Int)) hC hw h_20.1 (by omega) (by omega) (by omega) dX5_viewPut_76 h_20.2.2.1 ?_
          refine lv_iload_n hC.1 hC.2.1 dX5_viewPut_77 rfl (lv_at hl 2 rfl) ?_
          refine lv_iload_n hC.1 hC.2.1 dX5_viewPut_78 rfl (lv_at hl 3 rfl) ?_
          refine x_callV hC hw (lv_size hl) (c_X5_set l G hRk_19 (p0 := ((ti_16.b : Nat) : Int)) (by omega) (p1 := p1) (by omega) (p2 := p2) (by omega) (by omega) (by omega) (by omega) (by intro q9; first | exact absurd rfl q9 | assumption | exact hSk (by omega))) gX5_viewPut_X5_set rfl dv_X5_set hRk_19.1.1 rfl rfl (Nat.le_of_ble_eq_true rfl) (by rw [hRf]; decide) (by rw [hRl]; decide) (by omega) (by omega) dX5_viewPut_79 (fun r9 M_24 H locs hq hw => ?_)
          simp only [Int.toNat_natCast] at hq
          obtain ⟨z_26, brk_25, Vk_25, rfl, hz_26a, hz_26v, hz_26b, he0k_25, he1k_25, hx5k_25, hRk_25⟩ := hq
          have h_27 := h_20.x5 hx5k_25
          have hsck_25 := hRk_25.sc
          show W p l e R s m args below meth c H locs _ _ _ (F0 m 82 ls [.int (iN (z_26))])
          refine lv_goto (tgt := 88) hC.1 hC.2.1 dX5_viewPut_82 (by decide) ?_
          exact x_iret hC hw dX5_viewPut_88 (by omega) (by omega) ⟨z_26, _, rfl, by omega, Or.inl ⟨by omega, by first | trivial | omega, (by have i9 := inI_01 (O ti_16.b) (p1).toNat ti_16; rw [A_viewPut, (wiB_eq (s := (O, V, Wv, K, kp, kv, rfd)) (p0 := p0) (p1 := p1) hui_16), (vwV_eq (s := (O, V, Wv, K, kp, kv, rfd)) (p0 := p0) (p1 := p1) hui_16)]; show _ = (if inI (O ti_16.b) ti_16 (p1).toNat = 1 then (V ti_16.b (p1).toNat) else -20000); first | rfl | omega | ((repeat' split) <;> first | rfl | omega)), (by rw [S_viewPut, vwS_eq (s := (O, V, Wv, K, kp, kv, rfd)) hui_16 (by rw [(wiB_eq (s := (O, V, Wv, K, kp, kv, rfd)) (p0 := p0) (p1 := p1) hui_16), (vwV_eq (s := (O, V, Wv, K, kp, kv, rfd)) (p0 := p0) (p1 := p1) hui_16)])]; exact MGm.mut he1k_25 hRk_25 hK (bl_one (by omega) he0k_25) he0k_19 (congrArg (upV (V ti_16.b) (p1).toNat) (show p2 = (if inI (O ti_16.b) ti_16 (p1).toNat = 1 then p2 else (V ti_16.b (p1).toNat)) by have i9 := inI_01 (O ti_16.b) (p1).toNat ti_16; first | rfl | omega | ((repeat' split) <;> first | rfl | omega))))⟩⟩
      · refine x_const hC dX5_viewPut_40 ?_
        exact x_iret hC hw dX5_viewPut_41 (by omega) (by omega) ⟨0, _, rfl, by omega, Or.inr ⟨by omega, by omega, MGm.of hRk_11 hK⟩⟩
    · refine lv_iload_n hC.1 hC.2.1 dX5_viewPut_21 rfl (lv_at hl 3 rfl) ?_
      refine x_callS hC hw (lv_size hl) (c_X5_isNoValue l G (M := M_3) (p0 := p2) (by omega)) gX5_viewPut_X5_isNoValue rfl dv_X5_isNoValue_s rfl (Nat.le_of_ble_eq_true rfl) (by rw [hRf]; decide) (by rw [hRl]; decide) (by omega) (by omega) dX5_viewPut_22 (fun r9 M_28 H locs hq hw => ?_)
      obtain ⟨z_29, rfl, hM9, hz_29a, hz_29b⟩ := hq
      rw [hM9] at hw
      show W p l e R s m args below meth c H locs _ _ _ (F0 m 25 ls [.int (iN (z_29)), .ref a])
      refine x_if_eq (tgt := 32) hC ⟨by omega, by omega⟩ dX5_viewPut_25 (by decide) (fun c_30 => ?_) (fun c_30 => ?_)
      · refine x_const hC dX5_viewPut_32 ?_
        refine x_const hC dX5_viewPut_33 ?_
        refine x_callV hC hw (lv_size hl) (c_X5_refuse l G hRk_4 (p0 := 0) (by omega) (p1 := 2) (by omega) (by omega)) gX5_viewPut_X5_refuse rfl dv_X5_refuse hRk_4.1.1 rfl rfl (Nat.le_of_ble_eq_true rfl) (by rw [hRf]; decide) (by rw [hRl]; decide) (by omega) (by omega) dX5_viewPut_34 (fun r9 M_31 H locs hq hw => ?_)
        obtain ⟨z_33, thk_32, rfl, hz_33a, hz_33b, hz_33c0, hz_33c1, hx5k_32, hRk_32⟩ := hq
        have hsck_32 := hRk_32.sc
        show W p l e R s m args below meth c H locs _ _ _ (F0 m 37 ls [.int (iN (z_33))])
        refine x_if_eq (tgt := 42) hC ⟨by omega, by omega⟩ dX5_viewPut_37 (by decide) (fun c_34 => ?_) (fun c_34 => ?_)
        · refine lv_aload_n hC.1 hC.2.1 dX5_viewPut_42 rfl (lv_at hl 0 rfl) ?_
          refine lv_aload_n hC.1 hC.2.1 dX5_viewPut_43 rfl (lv_at hl 0 rfl) ?_
          refine x_get hC hw hRk_32.1.1 rfl hinX5 5 (by decide) (by decide +kernel) rfl dX5_viewPut_44 ?_
          refine lv_iload_n hC.1 hC.2.1 dX5_viewPut_47 rfl (lv_at hl 1 rfl) ?_
          refine x_ald4 hC hw hRk_32.1.2.2.2.2.1 (by omega) (by omega) (by omega) dX5_viewPut_48 ?_
          obtain ⟨y_35, hy_36⟩ := x_some (hz_2n (by omega))
          rw [hy_36]
          obtain ⟨ti_37, fi_37, hui_37, hIi_37⟩ := (hRk_32.vw (show (p0).toNat < 4 by omega)).yes hy_36
          obtain ⟨htat_38, htbt_38, htct_38, htdt_38, htet_38⟩ := id hIi_37.2.1
          show W p l e R s m args below meth c _ _ _ _ _ (F0 m 49 ls [.ref y_35, .ref a])
          refine x_const hC dX5_viewPut_49 ?_
          refine x_ialdE (x := ((ti_37.b : Nat) : Int)) hC hw hIi_37.1 (by omega) (by omega) (by omega) dX5_viewPut_50 hIi_37.2.2.1 ?_
          refine x_callV hC hw (lv_size hl) (c_X5_touch l G hRk_32 (p0 := ((ti_37.b : Nat) : Int)) (by omega) (by omega)) gX5_viewPut_X5_touch rfl dv_X5_touch hRk_32.1.1 rfl rfl (Nat.le_of_ble_eq_true rfl) (by rw [hRf]; decide) (by rw [hRl]; decide) (by omega) (by omega) dX5_viewPut_51 (fun r9 M_39 H locs hq hw => ?_)
          simp only [Int.toNat_natCast] at hq
          obtain ⟨hak_40, rfl, he0k_40, hx5k_40, hRk_40⟩ := hq
          have h_41 := hIi_37.x5 hx5k_40
          have hsck_40 := hRk_40.sc
          show W p l e R s m args below meth c H locs _ _ _ (F0 m 54 ls [])
          refine lv_aload_n hC.1 hC.2.1 dX5_viewPut_54 rfl (lv_at hl 0 rfl) ?_
          refine lv_aload_n hC.1 hC.2.1 dX5_viewPut_55 rfl (lv_at hl 0 rfl) ?_
          refine x_get hC hw hRk_40.1.1 rfl hinX5 5 (by decide) (by decide +kernel) rfl dX5_viewPut_56 ?_
          refine lv_iload_n hC.1 hC.2.1 dX5_viewPut_59 rfl (lv_at hl 1 rfl) ?_
          refine x_ald4 hC hw hRk_40.1.2.2.2.2.1 (by omega) (by omega) (by omega) dX5_viewPut_60 ?_
          rw [hy_36]
          show W p l e R s m args below meth c _ _ _ _ _ (F0 m 61 ls [.ref y_35, .ref a])
          refine lv_iload_n hC.1 hC.2.1 dX5_viewPut_61 rfl (lv_at hl 2 rfl) ?_
          refine x_callV hC hw (lv_size hl) (c_X5_isWithin l G hRk_40 h_41 (p0 := p1) (by omega) (by omega)) gX5_viewPut_X5_isWithin rfl dv_X5_isWithin hRk_40.1.1 rfl rfl (Nat.le_of_ble_eq_true rfl) (by rw [hRf]; decide) (by rw [hRl]; decide) (by omega) (by omega) dX5_viewPut_62 (fun r9 M_42 H locs hq hw => ?_)
          obtain ⟨z_43, rfl, hM9, hz_43a, hz_43w⟩ := hq
          rw [hM9] at hw
          show W p l e R s m args below meth c H locs _ _ _ (F0 m 65 ls [.int (iN (z_43))])
          refine x_if_eq (tgt := 85) hC ⟨by omega, by omega⟩ dX5_viewPut_65 (by decide) (fun c_44 => ?_) (fun c_44 => ?_)
          · refine x_sipush hC dX5_viewPut_85 (by decide +kernel) ?_
            exact x_iret hC hw dX5_viewPut_88 (by omega) (by omega) ⟨(-20000), _, rfl, by omega, Or.inl ⟨by omega, by first | trivial | omega, (by have i9 := inI_01 (O ti_37.b) (p1).toNat ti_37; rw [A_viewPut, (wiB_eq (s := (O, V, Wv, K, kp, kv, rfd)) (p0 := p0) (p1 := p1) hui_37), (vwV_eq (s := (O, V, Wv, K, kp, kv, rfd)) (p0 := p0) (p1 := p1) hui_37)]; show _ = (if inI (O ti_37.b) ti_37 (p1).toNat = 1 then (V ti_37.b (p1).toNat) else -20000); first | rfl | omega | ((repeat' split) <;> first | rfl | omega)), (by rw [S_viewPut, vwS_eq (s := (O, V, Wv, K, kp, kv, rfd)) hui_37 (by rw [(wiB_eq (s := (O, V, Wv, K, kp, kv, rfd)) (p0 := p0) (p1 := p1) hui_37), (vwV_eq (s := (O, V, Wv, K, kp, kv, rfd)) (p0 := p0) (p1 := p1) hui_37)])]; exact MGm.mut (F := V ti_37.b) (upB_self rfl).symm hRk_40 hK bl_rf he0k_40 (upV_self (show (V ti_37.b (p1).toNat) = (if inI (O ti_37.b) ti_37 (p1).toNat = 1 then p2 else (V ti_37.b (p1).toNat)) by have i9 := inI_01 (O ti_37.b) (p1).toNat ti_37; first | rfl | omega | ((repeat' split) <;> first | rfl | omega))).symm)⟩⟩
          · refine lv_aload_n hC.1 hC.2.1 dX5_viewPut_68 rfl (lv_at hl 0 rfl) ?_
            refine lv_aload_n hC.1 hC.2.1 dX5_viewPut_69 rfl (lv_at hl 0 rfl) ?_
            refine x_get hC hw hRk_40.1.1 rfl hinX5 5 (by decide) (by decide +kernel) rfl dX5_viewPut_70 ?_
            refine lv_iload_n hC.1 hC.2.1 dX5_viewPut_73 rfl (lv_at hl 1 rfl) ?_
            refine x_ald4 hC hw hRk_40.1.2.2.2.2.1 (by omega) (by omega) (by omega) dX5_viewPut_74 ?_
            rw [hy_36]
            show W p l e R s m args below meth c _ _ _ _ _ (F0 m 75 ls [.ref y_35, .ref a])
            refine x_const hC dX5_viewPut_75 ?_
            refine x_ialdE (x := ((ti_37.b : Nat) : Int)) hC hw h_41.1 (by omega) (by omega) (by omega) dX5_viewPut_76 h_41.2.2.1 ?_
            refine lv_iload_n hC.1 hC.2.1 dX5_viewPut_77 rfl (lv_at hl 2 rfl) ?_
            refine lv_iload_n hC.1 hC.2.1 dX5_viewPut_78 rfl (lv_at hl 3 rfl) ?_
            refine x_callV hC hw (lv_size hl) (c_X5_set l G hRk_40 (p0 := ((ti_37.b : Nat) : Int)) (by omega) (p1 := p1) (by omega) (p2 := p2) (by omega) (by omega) (by omega) (by omega) (by intro q9; first | exact absurd rfl q9 | assumption | exact hSk (by omega))) gX5_viewPut_X5_set rfl dv_X5_set hRk_40.1.1 rfl rfl (Nat.le_of_ble_eq_true rfl) (by rw [hRf]; decide) (by rw [hRl]; decide) (by omega) (by omega) dX5_viewPut_79 (fun r9 M_45 H locs hq hw => ?_)
            simp only [Int.toNat_natCast] at hq
            obtain ⟨z_47, brk_46, Vk_46, rfl, hz_47a, hz_47v, hz_47b, he0k_46, he1k_46, hx5k_46, hRk_46⟩ := hq
            have h_48 := h_41.x5 hx5k_46
            have hsck_46 := hRk_46.sc
            show W p l e R s m args below meth c H locs _ _ _ (F0 m 82 ls [.int (iN (z_47))])
            refine lv_goto (tgt := 88) hC.1 hC.2.1 dX5_viewPut_82 (by decide) ?_
            exact x_iret hC hw dX5_viewPut_88 (by omega) (by omega) ⟨z_47, _, rfl, by omega, Or.inl ⟨by omega, by first | trivial | omega, (by have i9 := inI_01 (O ti_37.b) (p1).toNat ti_37; rw [A_viewPut, (wiB_eq (s := (O, V, Wv, K, kp, kv, rfd)) (p0 := p0) (p1 := p1) hui_37), (vwV_eq (s := (O, V, Wv, K, kp, kv, rfd)) (p0 := p0) (p1 := p1) hui_37)]; show _ = (if inI (O ti_37.b) ti_37 (p1).toNat = 1 then (V ti_37.b (p1).toNat) else -20000); first | rfl | omega | ((repeat' split) <;> first | rfl | omega)), (by rw [S_viewPut, vwS_eq (s := (O, V, Wv, K, kp, kv, rfd)) hui_37 (by rw [(wiB_eq (s := (O, V, Wv, K, kp, kv, rfd)) (p0 := p0) (p1 := p1) hui_37), (vwV_eq (s := (O, V, Wv, K, kp, kv, rfd)) (p0 := p0) (p1 := p1) hui_37)])]; exact MGm.mut he1k_46 hRk_46 hK (bl_one (by omega) he0k_46) he0k_40 (congrArg (upV (V ti_37.b) (p1).toNat) (show p2 = (if inI (O ti_37.b) ti_37 (p1).toNat = 1 then p2 else (V ti_37.b (p1).toNat)) by have i9 := inI_01 (O ti_37.b) (p1).toNat ti_37; first | rfl | omega | ((repeat' split) <;> first | rfl | omega))))⟩⟩
        · refine x_const hC dX5_viewPut_40 ?_
          exact x_iret hC hw dX5_viewPut_41 (by omega) (by omega) ⟨0, _, rfl, by omega, Or.inr ⟨by omega, by omega, MGm.of hRk_32 hK⟩⟩
      · refine x_const hC dX5_viewPut_28 ?_
        refine lv_goto (tgt := 33) hC.1 hC.2.1 dX5_viewPut_29 (by decide) ?_
        refine x_const hC dX5_viewPut_33 ?_
        refine x_callV hC hw (lv_size hl) (c_X5_refuse l G hRk_4 (p0 := 1) (by omega) (p1 := 2) (by omega) (by omega)) gX5_viewPut_X5_refuse rfl dv_X5_refuse hRk_4.1.1 rfl rfl (Nat.le_of_ble_eq_true rfl) (by rw [hRf]; decide) (by rw [hRl]; decide) (by omega) (by omega) dX5_viewPut_34 (fun r9 M_49 H locs hq hw => ?_)
        obtain ⟨z_51, thk_50, rfl, hz_51a, hz_51b, hz_51c0, hz_51c1, hx5k_50, hRk_50⟩ := hq
        have hsck_50 := hRk_50.sc
        show W p l e R s m args below meth c H locs _ _ _ (F0 m 37 ls [.int (iN (z_51))])
        refine x_if_eq (tgt := 42) hC ⟨by omega, by omega⟩ dX5_viewPut_37 (by decide) (fun c_52 => ?_) (fun c_52 => ?_)
        · refine lv_aload_n hC.1 hC.2.1 dX5_viewPut_42 rfl (lv_at hl 0 rfl) ?_
          refine lv_aload_n hC.1 hC.2.1 dX5_viewPut_43 rfl (lv_at hl 0 rfl) ?_
          refine x_get hC hw hRk_50.1.1 rfl hinX5 5 (by decide) (by decide +kernel) rfl dX5_viewPut_44 ?_
          refine lv_iload_n hC.1 hC.2.1 dX5_viewPut_47 rfl (lv_at hl 1 rfl) ?_
          refine x_ald4 hC hw hRk_50.1.2.2.2.2.1 (by omega) (by omega) (by omega) dX5_viewPut_48 ?_
          obtain ⟨y_53, hy_54⟩ := x_some (hz_2n (by omega))
          rw [hy_54]
          obtain ⟨ti_55, fi_55, hui_55, hIi_55⟩ := (hRk_50.vw (show (p0).toNat < 4 by omega)).yes hy_54
          obtain ⟨htat_56, htbt_56, htct_56, htdt_56, htet_56⟩ := id hIi_55.2.1
          show W p l e R s m args below meth c _ _ _ _ _ (F0 m 49 ls [.ref y_53, .ref a])
          refine x_const hC dX5_viewPut_49 ?_
          refine x_ialdE (x := ((ti_55.b : Nat) : Int)) hC hw hIi_55.1 (by omega) (by omega) (by omega) dX5_viewPut_50 hIi_55.2.2.1 ?_
          refine x_callV hC hw (lv_size hl) (c_X5_touch l G hRk_50 (p0 := ((ti_55.b : Nat) : Int)) (by omega) (by omega)) gX5_viewPut_X5_touch rfl dv_X5_touch hRk_50.1.1 rfl rfl (Nat.le_of_ble_eq_true rfl) (by rw [hRf]; decide) (by rw [hRl]; decide) (by omega) (by omega) dX5_viewPut_51 (fun r9 M_57 H locs hq hw => ?_)
          simp only [Int.toNat_natCast] at hq
          obtain ⟨hak_58, rfl, he0k_58, hx5k_58, hRk_58⟩ := hq
          have h_59 := hIi_55.x5 hx5k_58
          have hsck_58 := hRk_58.sc
          show W p l e R s m args below meth c H locs _ _ _ (F0 m 54 ls [])
          refine lv_aload_n hC.1 hC.2.1 dX5_viewPut_54 rfl (lv_at hl 0 rfl) ?_
          refine lv_aload_n hC.1 hC.2.1 dX5_viewPut_55 rfl (lv_at hl 0 rfl) ?_
          refine x_get hC hw hRk_58.1.1 rfl hinX5 5 (by decide) (by decide +kernel) rfl dX5_viewPut_56 ?_
          refine lv_iload_n hC.1 hC.2.1 dX5_viewPut_59 rfl (lv_at hl 1 rfl) ?_
          refine x_ald4 hC hw hRk_58.1.2.2.2.2.1 (by omega) (by omega) (by omega) dX5_viewPut_60 ?_
          rw [hy_54]
          show W p l e R s m args below meth c _ _ _ _ _ (F0 m 61 ls [.ref y_53, .ref a])
          refine lv_iload_n hC.1 hC.2.1 dX5_viewPut_61 rfl (lv_at hl 2 rfl) ?_
          refine x_callV hC hw (lv_size hl) (c_X5_isWithin l G hRk_58 h_59 (p0 := p1) (by omega) (by omega)) gX5_viewPut_X5_isWithin rfl dv_X5_isWithin hRk_58.1.1 rfl rfl (Nat.le_of_ble_eq_true rfl) (by rw [hRf]; decide) (by rw [hRl]; decide) (by omega) (by omega) dX5_viewPut_62 (fun r9 M_60 H locs hq hw => ?_)
          obtain ⟨z_61, rfl, hM9, hz_61a, hz_61w⟩ := hq
          rw [hM9] at hw
          show W p l e R s m args below meth c H locs _ _ _ (F0 m 65 ls [.int (iN (z_61))])
          refine x_if_eq (tgt := 85) hC ⟨by omega, by omega⟩ dX5_viewPut_65 (by decide) (fun c_62 => ?_) (fun c_62 => ?_)
          · refine x_sipush hC dX5_viewPut_85 (by decide +kernel) ?_
            exact x_iret hC hw dX5_viewPut_88 (by omega) (by omega) ⟨(-20000), _, rfl, by omega, Or.inl ⟨by omega, by first | trivial | omega, (by have i9 := inI_01 (O ti_55.b) (p1).toNat ti_55; rw [A_viewPut, (wiB_eq (s := (O, V, Wv, K, kp, kv, rfd)) (p0 := p0) (p1 := p1) hui_55), (vwV_eq (s := (O, V, Wv, K, kp, kv, rfd)) (p0 := p0) (p1 := p1) hui_55)]; show _ = (if inI (O ti_55.b) ti_55 (p1).toNat = 1 then (V ti_55.b (p1).toNat) else -20000); first | rfl | omega | ((repeat' split) <;> first | rfl | omega)), (by rw [S_viewPut, vwS_eq (s := (O, V, Wv, K, kp, kv, rfd)) hui_55 (by rw [(wiB_eq (s := (O, V, Wv, K, kp, kv, rfd)) (p0 := p0) (p1 := p1) hui_55), (vwV_eq (s := (O, V, Wv, K, kp, kv, rfd)) (p0 := p0) (p1 := p1) hui_55)])]; exact MGm.mut (F := V ti_55.b) (upB_self rfl).symm hRk_58 hK bl_rf he0k_58 (upV_self (show (V ti_55.b (p1).toNat) = (if inI (O ti_55.b) ti_55 (p1).toNat = 1 then p2 else (V ti_55.b (p1).toNat)) by have i9 := inI_01 (O ti_55.b) (p1).toNat ti_55; first | rfl | omega | ((repeat' split) <;> first | rfl | omega))).symm)⟩⟩
          · refine lv_aload_n hC.1 hC.2.1 dX5_viewPut_68 rfl (lv_at hl 0 rfl) ?_
            refine lv_aload_n hC.1 hC.2.1 dX5_viewPut_69 rfl (lv_at hl 0 rfl) ?_
            refine x_get hC hw hRk_58.1.1 rfl hinX5 5 (by decide) (by decide +kernel) rfl dX5_viewPut_70 ?_
            refine lv_iload_n hC.1 hC.2.1 dX5_viewPut_73 rfl (lv_at hl 1 rfl) ?_
            refine x_ald4 hC hw hRk_58.1.2.2.2.2.1 (by omega) (by omega) (by omega) dX5_viewPut_74 ?_
            rw [hy_54]
            show W p l e R s m args below meth c _ _ _ _ _ (F0 m 75 ls [.ref y_53, .ref a])
            refine x_const hC dX5_viewPut_75 ?_
            refine x_ialdE (x := ((ti_55.b : Nat) : Int)) hC hw h_59.1 (by omega) (by omega) (by omega) dX5_viewPut_76 h_59.2.2.1 ?_
            refine lv_iload_n hC.1 hC.2.1 dX5_viewPut_77 rfl (lv_at hl 2 rfl) ?_
            refine lv_iload_n hC.1 hC.2.1 dX5_viewPut_78 rfl (lv_at hl 3 rfl) ?_
            refine x_callV hC hw (lv_size hl) (c_X5_set l G hRk_58 (p0 := ((ti_55.b : Nat) : Int)) (by omega) (p1 := p1) (by omega) (p2 := p2) (by omega) (by omega) (by omega) (by omega) (by intro q9; first | exact absurd rfl q9 | assumption | exact hSk (by omega))) gX5_viewPut_X5_set rfl dv_X5_set hRk_58.1.1 rfl rfl (Nat.le_of_ble_eq_true rfl) (by rw [hRf]; decide) (by rw [hRl]; decide) (by omega) (by omega) dX5_viewPut_79 (fun r9 M_63 H locs hq hw => ?_)
            simp only [Int.toNat_natCast] at hq
            obtain ⟨z_65, brk_64, Vk_64, rfl, hz_65a, hz_65v, hz_65b, he0k_64, he1k_64, hx5k_64, hRk_64⟩ := hq
            have h_66 := h_59.x5 hx5k_64
            have hsck_64 := hRk_64.sc
            show W p l e R s m args below meth c H locs _ _ _ (F0 m 82 ls [.int (iN (z_65))])
            refine lv_goto (tgt := 88) hC.1 hC.2.1 dX5_viewPut_82 (by decide) ?_
            exact x_iret hC hw dX5_viewPut_88 (by omega) (by omega) ⟨z_65, _, rfl, by omega, Or.inl ⟨by omega, by first | trivial | omega, (by have i9 := inI_01 (O ti_55.b) (p1).toNat ti_55; rw [A_viewPut, (wiB_eq (s := (O, V, Wv, K, kp, kv, rfd)) (p0 := p0) (p1 := p1) hui_55), (vwV_eq (s := (O, V, Wv, K, kp, kv, rfd)) (p0 := p0) (p1 := p1) hui_55)]; show _ = (if inI (O ti_55.b) ti_55 (p1).toNat = 1 then (V ti_55.b (p1).toNat) else -20000); first | rfl | omega | ((repeat' split) <;> first | rfl | omega)), (by rw [S_viewPut, vwS_eq (s := (O, V, Wv, K, kp, kv, rfd)) hui_55 (by rw [(wiB_eq (s := (O, V, Wv, K, kp, kv, rfd)) (p0 := p0) (p1 := p1) hui_55), (vwV_eq (s := (O, V, Wv, K, kp, kv, rfd)) (p0 := p0) (p1 := p1) hui_55)])]; exact MGm.mut he1k_64 hRk_64 hK (bl_one (by omega) he0k_64) he0k_58 (congrArg (upV (V ti_55.b) (p1).toNat) (show p2 = (if inI (O ti_55.b) ti_55 (p1).toNat = 1 then p2 else (V ti_55.b (p1).toNat)) by have i9 := inI_01 (O ti_55.b) (p1).toNat ti_55; first | rfl | omega | ((repeat' split) <;> first | rfl | omega))))⟩⟩
        · refine x_const hC dX5_viewPut_40 ?_
          exact x_iret hC hw dX5_viewPut_41 (by omega) (by omega) ⟨0, _, rfl, by omega, Or.inr ⟨by omega, by omega, MGm.of hRk_50 hK⟩⟩
set_option maxHeartbeats 4000000 in
set_option maxRecDepth 100000 in
theorem c_X5_viewStrike (l : Launch) (G : xG) {M : HM} {a va oa wa ya : Nat} {wk : Option Nat} {th : Int} {rfd : Int32} {br re la ha : Int} {kp kv : Int32} {qv qw : Nat → Nat} {fa fb : Nat → Option Nat} {V : BW} {O : OW} {fy : Nat → Option Nat} {Wv : VW} {wt : Option VT} {S : Nat → Bool} (hR : MGx G M a va oa wa ya wk th rfd br re la ha kp kv qv qw fa fb V O fy Wv wt S) {K : WA} (hK : abM O wt br re la ha K) {p0 : Int} (hp0 : -2147483648 ≤ p0 ∧ p0 ≤ 2147483647) {p1 : Int} (hp1 : -2147483648 ≤ p1 ∧ p1 ≤ 2147483647) : xMet l G yX5_viewStrike wsX5_viewStrike 3 67 0 0 [.ref a, .int (iN (p0)), .int (iN (p1))] M (fun r M1 => ∃ (z th1 : Int), r = some (.int (iN z)) ∧ (-2147483648 ≤ z ∧ z ≤ 2147483647) ∧ ((th1 = 0 ∧ ((0 ≤ p0 ∧ p0 ≤ 3 ∧ opN (Wv p0.toNat) = 1) ∧ (0 ≤ p1 ∧ p1 ≤ 99)) ∧ z = A_viewStrike (O, V, Wv, K, kp, kv, rfd) p0 p1 ∧ MGm G M1 a S th1 (S_viewStrike (O, V, Wv, K, kp, kv, rfd) p0 p1)) ∨ (th1 ≠ 0 ∧ ((th1 = 1 ∧ ¬ (0 ≤ p0 ∧ p0 ≤ 3 ∧ opN (Wv p0.toNat) = 1)) ∨ (th1 = 2 ∧ (0 ≤ p0 ∧ p0 ≤ 3 ∧ opN (Wv p0.toNat) = 1) ∧ ¬ (0 ≤ p1 ∧ p1 ≤ 99))) ∧ MGm G M1 a S th1 (O, V, Wv, K, kp, kv, rfd)))) := by
  refine x_intro (cc := cX5_viewStrike) (maxL := 3) (ret := (some .int)) (by decide +kernel) rfl (Nat.le_of_ble_eq_true rfl) ?_
  intro p e R s m args below meth c ls hRf hRc hRs hRl hC hw hl
  have hsc0 := hR.sc
  have hinX5 : ∀ w ∈ wsX50, w ∈ wsX5_viewStrike := by decide +kernel
  have hl : lv_has ls 3 [(0, .ref a), (1, .int (iN (p0))), (2, .int (iN (p1)))] := hl
  refine lv_aload_n hC.1 hC.2.1 dX5_viewStrike_0 rfl (lv_at hl 0 rfl) ?_
  refine lv_aload_n hC.1 hC.2.1 dX5_viewStrike_1 rfl (lv_at hl 0 rfl) ?_
  refine lv_iload_n hC.1 hC.2.1 dX5_viewStrike_2 rfl (lv_at hl 1 rfl) ?_
  refine x_callV hC hw (lv_size hl) (c_X5_isNoView l G hR (p0 := p0) (by omega)) gX5_viewStrike_X5_isNoView rfl dv_X5_isNoView hR.1.1 rfl rfl (Nat.le_of_ble_eq_true rfl) (by rw [hRf]; decide) (by rw [hRl]; decide) (by omega) (by omega) dX5_viewStrike_3 (fun r9 M_1 H locs hq hw => ?_)
  obtain ⟨z_2, rfl, hM9, hz_2a, hz_2b, hz_2n⟩ := hq
  rw [hM9] at hw
  show W p l e R s m args below meth c H locs _ _ _ (F0 m 6 ls [.int (iN (z_2)), .ref a])
  refine x_const hC dX5_viewStrike_6 ?_
  refine x_callV hC hw (lv_size hl) (c_X5_start l G hR (p0 := z_2) (by omega) (p1 := 1) (by omega) (by omega)) gX5_viewStrike_X5_start rfl dv_X5_start hR.1.1 rfl rfl (Nat.le_of_ble_eq_true rfl) (by rw [hRf]; decide) (by rw [hRl]; decide) (by omega) (by omega) dX5_viewStrike_7 (fun r9 M_3 H locs hq hw => ?_)
  obtain ⟨z_5, thk_4, rfl, hz_5a, hz_5b, hz_5c0, hz_5c1, hx5k_4, hRk_4⟩ := hq
  have hsck_4 := hRk_4.sc
  show W p l e R s m args below meth c H locs _ _ _ (F0 m 10 ls [.int (iN (z_5))])
  refine x_if_ne (tgt := 25) hC ⟨by omega, by omega⟩ dX5_viewStrike_10 (by decide) (fun c_6 => ?_) (fun c_6 => ?_)
  · refine x_const hC dX5_viewStrike_25 ?_
    exact x_iret hC hw dX5_viewStrike_26 (by omega) (by omega) ⟨0, _, rfl, by omega, Or.inr ⟨by omega, by omega, MGm.of hRk_4 hK⟩⟩
  · refine lv_aload_n hC.1 hC.2.1 dX5_viewStrike_13 rfl (lv_at hl 0 rfl) ?_
    refine lv_iload_n hC.1 hC.2.1 dX5_viewStrike_14 rfl (lv_at hl 2 rfl) ?_
    refine x_callS hC hw (lv_size hl) (c_X5_isNoKey l G (M := M_3) (p0 := p1) (by omega)) gX5_viewStrike_X5_isNoKey rfl dv_X5_isNoKey_s rfl (Nat.le_of_ble_eq_true rfl) (by rw [hRf]; decide) (by rw [hRl]; decide) (by omega) (by omega) dX5_viewStrike_15 (fun r9 M_7 H locs hq hw => ?_)
    obtain ⟨z_8, rfl, hM9, hz_8a, hz_8b⟩ := hq
    rw [hM9] at hw
    show W p l e R s m args below meth c H locs _ _ _ (F0 m 18 ls [.int (iN (z_8)), .ref a])
    refine x_const hC dX5_viewStrike_18 ?_
    refine x_callV hC hw (lv_size hl) (c_X5_refuse l G hRk_4 (p0 := z_8) (by omega) (p1 := 2) (by omega) (by omega)) gX5_viewStrike_X5_refuse rfl dv_X5_refuse hRk_4.1.1 rfl rfl (Nat.le_of_ble_eq_true rfl) (by rw [hRf]; decide) (by rw [hRl]; decide) (by omega) (by omega) dX5_viewStrike_19 (fun r9 M_9 H locs hq hw => ?_)
    obtain ⟨z_11, thk_10, rfl, hz_11a, hz_11b, hz_11c0, hz_11c1, hx5k_10, hRk_10⟩ := hq
    have hsck_10 := hRk_10.sc
    show W p l e R s m args below meth c H locs _ _ _ (F0 m 22 ls [.int (iN (z_11))])
    refine x_if_eq (tgt := 27) hC ⟨by omega, by omega⟩ dX5_viewStrike_22 (by decide) (fun c_12 => ?_) (fun c_12 => ?_)
    · refine lv_aload_n hC.1 hC.2.1 dX5_viewStrike_27 rfl (lv_at hl 0 rfl) ?_
      refine lv_aload_n hC.1 hC.2.1 dX5_viewStrike_28 rfl (lv_at hl 0 rfl) ?_
      refine x_get hC hw hRk_10.1.1 rfl hinX5 5 (by decide) (by decide +kernel) rfl dX5_viewStrike_29 ?_
      refine lv_iload_n hC.1 hC.2.1 dX5_viewStrike_32 rfl (lv_at hl 1 rfl) ?_
      refine x_ald4 hC hw hRk_10.1.2.2.2.2.1 (by omega) (by omega) (by omega) dX5_viewStrike_33 ?_
      obtain ⟨y_13, hy_14⟩ := x_some (hz_2n (by omega))
      rw [hy_14]
      obtain ⟨ti_15, fi_15, hui_15, hIi_15⟩ := (hRk_10.vw (show (p0).toNat < 4 by omega)).yes hy_14
      obtain ⟨htat_16, htbt_16, htct_16, htdt_16, htet_16⟩ := id hIi_15.2.1
      show W p l e R s m args below meth c _ _ _ _ _ (F0 m 34 ls [.ref y_13, .ref a])
      refine x_const hC dX5_viewStrike_34 ?_
      refine x_ialdE (x := ((ti_15.b : Nat) : Int)) hC hw hIi_15.1 (by omega) (by omega) (by omega) dX5_viewStrike_35 hIi_15.2.2.1 ?_
      refine x_callV hC hw (lv_size hl) (c_X5_touch l G hRk_10 (p0 := ((ti_15.b : Nat) : Int)) (by omega) (by omega)) gX5_viewStrike_X5_touch rfl dv_X5_touch hRk_10.1.1 rfl rfl (Nat.le_of_ble_eq_true rfl) (by rw [hRf]; decide) (by rw [hRl]; decide) (by omega) (by omega) dX5_viewStrike_36 (fun r9 M_17 H locs hq hw => ?_)
      simp only [Int.toNat_natCast] at hq
      obtain ⟨hak_18, rfl, he0k_18, hx5k_18, hRk_18⟩ := hq
      have h_19 := hIi_15.x5 hx5k_18
      have hsck_18 := hRk_18.sc
      show W p l e R s m args below meth c H locs _ _ _ (F0 m 39 ls [])
      refine lv_aload_n hC.1 hC.2.1 dX5_viewStrike_39 rfl (lv_at hl 0 rfl) ?_
      refine lv_aload_n hC.1 hC.2.1 dX5_viewStrike_40 rfl (lv_at hl 0 rfl) ?_
      refine x_get hC hw hRk_18.1.1 rfl hinX5 5 (by decide) (by decide +kernel) rfl dX5_viewStrike_41 ?_
      refine lv_iload_n hC.1 hC.2.1 dX5_viewStrike_44 rfl (lv_at hl 1 rfl) ?_
      refine x_ald4 hC hw hRk_18.1.2.2.2.2.1 (by omega) (by omega) (by omega) dX5_viewStrike_45 ?_
      rw [hy_14]
      show W p l e R s m args below meth c _ _ _ _ _ (F0 m 46 ls [.ref y_13, .ref a])
      refine lv_iload_n hC.1 hC.2.1 dX5_viewStrike_46 rfl (lv_at hl 2 rfl) ?_
      refine x_callV hC hw (lv_size hl) (c_X5_shows l G hRk_18 h_19 (p0 := p1) (by omega) (by omega)) gX5_viewStrike_X5_shows rfl dv_X5_shows hRk_18.1.1 rfl rfl (Nat.le_of_ble_eq_true rfl) (by rw [hRf]; decide) (by rw [hRl]; decide) (by omega) (by omega) dX5_viewStrike_47 (fun r9 M_20 H locs hq hw => ?_)
      obtain ⟨z_21, rfl, hM9, hz_21a, hz_21s, hz_21S⟩ := hq
      rw [hM9] at hw
      have hz_21i := shI_iff (O := O) (V := V) (t := ti_15) (k := (p1).toNat)
      show W p l e R s m args below meth c H locs _ _ _ (F0 m 50 ls [.int (iN (z_21))])
      refine x_if_eq (tgt := 72) hC ⟨by omega, by omega⟩ dX5_viewStrike_50 (by decide) (fun c_22 => ?_) (fun c_22 => ?_)
      · refine x_sipush hC dX5_viewStrike_72 (by decide +kernel) ?_
        exact x_iret hC hw dX5_viewStrike_75 (by omega) (by omega) ⟨(-10000), _, rfl, by omega, Or.inl ⟨by omega, by first | trivial | omega, (by have i9 := inI_01 (O ti_15.b) (p1).toNat ti_15; rw [A_viewStrike, (wiB_eq (s := (O, V, Wv, K, kp, kv, rfd)) (p0 := p0) (p1 := p1) hui_15), (vwV_eq (s := (O, V, Wv, K, kp, kv, rfd)) (p0 := p0) (p1 := p1) hui_15)]; show _ = (if inI (O ti_15.b) ti_15 (p1).toNat = 1 then (V ti_15.b (p1).toNat) else -10000); first | rfl | omega | ((repeat' split) <;> first | rfl | omega)), (by rw [S_viewStrike, vwS_eq (s := (O, V, Wv, K, kp, kv, rfd)) hui_15 (by rw [(wiB_eq (s := (O, V, Wv, K, kp, kv, rfd)) (p0 := p0) (p1 := p1) hui_15), (vwV_eq (s := (O, V, Wv, K, kp, kv, rfd)) (p0 := p0) (p1 := p1) hui_15)])]; exact MGm.mut (F := V ti_15.b) (upB_self rfl).symm hRk_18 hK bl_rf he0k_18 (upV_self (show (V ti_15.b (p1).toNat) = (if inI (O ti_15.b) ti_15 (p1).toNat = 1 then -10000 else (V ti_15.b (p1).toNat)) by have i9 := inI_01 (O ti_15.b) (p1).toNat ti_15; first | rfl | omega | ((repeat' split) <;> first | rfl | omega))).symm)⟩⟩
      · refine lv_aload_n hC.1 hC.2.1 dX5_viewStrike_53 rfl (lv_at hl 0 rfl) ?_
        refine lv_aload_n hC.1 hC.2.1 dX5_viewStrike_54 rfl (lv_at hl 0 rfl) ?_
        refine x_get hC hw hRk_18.1.1 rfl hinX5 5 (by decide) (by decide +kernel) rfl dX5_viewStrike_55 ?_
        refine lv_iload_n hC.1 hC.2.1 dX5_viewStrike_58 rfl (lv_at hl 1 rfl) ?_
        refine x_ald4 hC hw hRk_18.1.2.2.2.2.1 (by omega) (by omega) (by omega) dX5_viewStrike_59 ?_
        rw [hy_14]
        show W p l e R s m args below meth c _ _ _ _ _ (F0 m 60 ls [.ref y_13, .ref a])
        refine x_const hC dX5_viewStrike_60 ?_
        refine x_ialdE (x := ((ti_15.b : Nat) : Int)) hC hw h_19.1 (by omega) (by omega) (by omega) dX5_viewStrike_61 h_19.2.2.1 ?_
        refine lv_iload_n hC.1 hC.2.1 dX5_viewStrike_62 rfl (lv_at hl 2 rfl) ?_
        refine x_sipush hC dX5_viewStrike_63 (by decide +kernel) ?_
        refine x_callV hC hw (lv_size hl) (c_X5_set l G hRk_18 (p0 := ((ti_15.b : Nat) : Int)) (by omega) (p1 := p1) (by omega) (p2 := (-10000)) (by omega) (by omega) (by omega) (by omega) (fun q9 => absurd rfl q9)) gX5_viewStrike_X5_set rfl dv_X5_set hRk_18.1.1 rfl rfl (Nat.le_of_ble_eq_true rfl) (by rw [hRf]; decide) (by rw [hRl]; decide) (by omega) (by omega) dX5_viewStrike_66 (fun r9 M_23 H locs hq hw => ?_)
        simp only [Int.toNat_natCast] at hq
        obtain ⟨z_25, brk_24, Vk_24, rfl, hz_25a, hz_25v, hz_25b, he0k_24, he1k_24, hx5k_24, hRk_24⟩ := hq
        have h_26 := h_19.x5 hx5k_24
        have hsck_24 := hRk_24.sc
        show W p l e R s m args below meth c H locs _ _ _ (F0 m 69 ls [.int (iN (z_25))])
        refine lv_goto (tgt := 75) hC.1 hC.2.1 dX5_viewStrike_69 (by decide) ?_
        exact x_iret hC hw dX5_viewStrike_75 (by omega) (by omega) ⟨z_25, _, rfl, by omega, Or.inl ⟨by omega, by first | trivial | omega, (by have i9 := inI_01 (O ti_15.b) (p1).toNat ti_15; rw [A_viewStrike, (wiB_eq (s := (O, V, Wv, K, kp, kv, rfd)) (p0 := p0) (p1 := p1) hui_15), (vwV_eq (s := (O, V, Wv, K, kp, kv, rfd)) (p0 := p0) (p1 := p1) hui_15)]; show _ = (if inI (O ti_15.b) ti_15 (p1).toNat = 1 then (V ti_15.b (p1).toNat) else -10000); first | rfl | omega | ((repeat' split) <;> first | rfl | omega)), (by rw [S_viewStrike, vwS_eq (s := (O, V, Wv, K, kp, kv, rfd)) hui_15 (by rw [(wiB_eq (s := (O, V, Wv, K, kp, kv, rfd)) (p0 := p0) (p1 := p1) hui_15), (vwV_eq (s := (O, V, Wv, K, kp, kv, rfd)) (p0 := p0) (p1 := p1) hui_15)])]; exact MGm.mut he1k_24 hRk_24 hK (bl_one (by omega) he0k_24) he0k_18 (congrArg (upV (V ti_15.b) (p1).toNat) (show (-10000) = (if inI (O ti_15.b) ti_15 (p1).toNat = 1 then -10000 else (V ti_15.b (p1).toNat)) by have i9 := inI_01 (O ti_15.b) (p1).toNat ti_15; first | rfl | omega | ((repeat' split) <;> first | rfl | omega))))⟩⟩
    · refine x_const hC dX5_viewStrike_25 ?_
      exact x_iret hC hw dX5_viewStrike_26 (by omega) (by omega) ⟨0, _, rfl, by omega, Or.inr ⟨by omega, by omega, MGm.of hRk_10 hK⟩⟩
set_option maxHeartbeats 4000000 in
set_option maxRecDepth 100000 in
theorem c_X5_viewMerge (l : Launch) (G : xG) {M : HM} {a va oa wa ya : Nat} {wk : Option Nat} {th : Int} {rfd : Int32} {br re la ha : Int} {kp kv : Int32} {qv qw : Nat → Nat} {fa fb : Nat → Option Nat} {V : BW} {O : OW} {fy : Nat → Option Nat} {Wv : VW} {wt : Option VT} {S : Nat → Bool} (hR : MGx G M a va oa wa ya wk th rfd br re la ha kp kv qv qw fa fb V O fy Wv wt S) {K : WA} (hK : abM O wt br re la ha K) {p0 : Int} (hp0 : -2147483648 ≤ p0 ∧ p0 ≤ 2147483647) {p1 : Int} (hp1 : -2147483648 ≤ p1 ∧ p1 ≤ 2147483647) {p2 : Int} (hp2 : -2147483648 ≤ p2 ∧ p2 ≤ 2147483647) (hSk : 0 ≤ p1 ∧ p1 ≤ 99 → S p1.toNat = true) : xMet l G yX5_viewMerge wsX5_viewMerge 2 49 0 0 [.ref a, .int (iN (p0)), .int (iN (p1)), .int (iN (p2))] M (fun r M1 => ∃ (z th1 : Int), r = some (.int (iN z)) ∧ (-2147483648 ≤ z ∧ z ≤ 2147483647) ∧ ((th1 = 0 ∧ ((0 ≤ p0 ∧ p0 ≤ 3 ∧ opN (Wv p0.toNat) = 1) ∧ ((0 ≤ p1 ∧ p1 ≤ 99) ∧ (-9999 ≤ p2 ∧ p2 ≤ 9999))) ∧ z = A_viewMerge (O, V, Wv, K, kp, kv, rfd) p0 p1 p2 ∧ MGm G M1 a S th1 (S_viewMerge (O, V, Wv, K, kp, kv, rfd) p0 p1 p2)) ∨ (th1 ≠ 0 ∧ ((th1 = 1 ∧ ¬ (0 ≤ p0 ∧ p0 ≤ 3 ∧ opN (Wv p0.toNat) = 1)) ∨ (th1 = 2 ∧ (0 ≤ p0 ∧ p0 ≤ 3 ∧ opN (Wv p0.toNat) = 1) ∧ ¬ ((0 ≤ p1 ∧ p1 ≤ 99) ∧ (-9999 ≤ p2 ∧ p2 ≤ 9999)))) ∧ MGm G M1 a S th1 (O, V, Wv, K, kp, kv, rfd)))) := by
  refine x_intro (cc := cX5_viewMerge) (maxL := 4) (ret := (some .int)) (by decide +kernel) rfl (Nat.le_of_ble_eq_true rfl) ?_
  intro p e R s m args below meth c ls hRf hRc hRs hRl hC hw hl
  have hsc0 := hR.sc
  have hinX5 : ∀ w ∈ wsX50, w ∈ wsX5_viewMerge := by decide +kernel
  have hl : lv_has ls 4 [(0, .ref a), (1, .int (iN (p0))), (2, .int (iN (p1))), (3, .int (iN (p2)))] := hl
  refine lv_aload_n hC.1 hC.2.1 dX5_viewMerge_0 rfl (lv_at hl 0 rfl) ?_
  refine lv_aload_n hC.1 hC.2.1 dX5_viewMerge_1 rfl (lv_at hl 0 rfl) ?_
  refine lv_iload_n hC.1 hC.2.1 dX5_viewMerge_2 rfl (lv_at hl 1 rfl) ?_
  refine x_callV hC hw (lv_size hl) (c_X5_isNoView l G hR (p0 := p0) (by omega)) gX5_viewMerge_X5_isNoView rfl dv_X5_isNoView hR.1.1 rfl rfl (Nat.le_of_ble_eq_true rfl) (by rw [hRf]; decide) (by rw [hRl]; decide) (by omega) (by omega) dX5_viewMerge_3 (fun r9 M_1 H locs hq hw => ?_)
  obtain ⟨z_2, rfl, hM9, hz_2a, hz_2b, hz_2n⟩ := hq
  rw [hM9] at hw
  show W p l e R s m args below meth c H locs _ _ _ (F0 m 6 ls [.int (iN (z_2)), .ref a])
  refine x_const hC dX5_viewMerge_6 ?_
  refine x_callV hC hw (lv_size hl) (c_X5_start l G hR (p0 := z_2) (by omega) (p1 := 1) (by omega) (by omega)) gX5_viewMerge_X5_start rfl dv_X5_start hR.1.1 rfl rfl (Nat.le_of_ble_eq_true rfl) (by rw [hRf]; decide) (by rw [hRl]; decide) (by omega) (by omega) dX5_viewMerge_7 (fun r9 M_3 H locs hq hw => ?_)
  obtain ⟨z_5, thk_4, rfl, hz_5a, hz_5b, hz_5c0, hz_5c1, hx5k_4, hRk_4⟩ := hq
  have hsck_4 := hRk_4.sc
  show W p l e R s m args below meth c H locs _ _ _ (F0 m 10 ls [.int (iN (z_5))])
  refine x_if_ne (tgt := 40) hC ⟨by omega, by omega⟩ dX5_viewMerge_10 (by decide) (fun c_6 => ?_) (fun c_6 => ?_)
  · refine x_const hC dX5_viewMerge_40 ?_
    exact x_iret hC hw dX5_viewMerge_41 (by omega) (by omega) ⟨0, _, rfl, by omega, Or.inr ⟨by omega, by omega, MGm.of hRk_4 hK⟩⟩
  · refine lv_aload_n hC.1 hC.2.1 dX5_viewMerge_13 rfl (lv_at hl 0 rfl) ?_
    refine lv_iload_n hC.1 hC.2.1 dX5_viewMerge_14 rfl (lv_at hl 2 rfl) ?_
    refine x_callS hC hw (lv_size hl) (c_X5_isNoKey l G (M := M_3) (p0 := p1) (by omega)) gX5_viewMerge_X5_isNoKey rfl dv_X5_isNoKey_s rfl (Nat.le_of_ble_eq_true rfl) (by rw [hRf]; decide) (by rw [hRl]; decide) (by omega) (by omega) dX5_viewMerge_15 (fun r9 M_7 H locs hq hw => ?_)
    obtain ⟨z_8, rfl, hM9, hz_8a, hz_8b⟩ := hq
    rw [hM9] at hw
    show W p l e R s m args below meth c H locs _ _ _ (F0 m 18 ls [.int (iN (z_8)), .ref a])
    refine x_if_ne (tgt := 28) hC ⟨by omega, by omega⟩ dX5_viewMerge_18 (by decide) (fun c_9 => ?_) (fun c_9 => ?_)
    · refine x_const hC dX5_viewMerge_28 ?_
      refine lv_goto (tgt := 33) hC.1 hC.2.1 dX5_viewMerge_29 (by decide) ?_
      refine x_const hC dX5_viewMerge_33 ?_
      refine x_callV hC hw (lv_size hl) (c_X5_refuse l G hRk_4 (p0 := 1) (by omega) (p1 := 2) (by omega) (by omega)) gX5_viewMerge_X5_refuse rfl dv_X5_refuse hRk_4.1.1 rfl rfl (Nat.le_of_ble_eq_true rfl) (by rw [hRf]; decide) (by rw [hRl]; decide) (by omega) (by omega) dX5_viewMerge_34 (fun r9 M_10 H locs hq hw => ?_)
      obtain ⟨z_12, thk_11, rfl, hz_12a, hz_12b, hz_12c0, hz_12c1, hx5k_11, hRk_11⟩ := hq
      have hsck_11 := hRk_11.sc
      show W p l e R s m args below meth c H locs _ _ _ (F0 m 37 ls [.int (iN (z_12))])
      refine x_if_eq (tgt := 42) hC ⟨by omega, by omega⟩ dX5_viewMerge_37 (by decide) (fun c_13 => ?_) (fun c_13 => ?_)
      · refine lv_aload_n hC.1 hC.2.1 dX5_viewMerge_42 rfl (lv_at hl 0 rfl) ?_
        refine lv_aload_n hC.1 hC.2.1 dX5_viewMerge_43 rfl (lv_at hl 0 rfl) ?_
        refine x_get hC hw hRk_11.1.1 rfl hinX5 5 (by decide) (by decide +kernel) rfl dX5_viewMerge_44 ?_
        refine lv_iload_n hC.1 hC.2.1 dX5_viewMerge_47 rfl (lv_at hl 1 rfl) ?_
        refine x_ald4 hC hw hRk_11.1.2.2.2.2.1 (by omega) (by omega) (by omega) dX5_viewMerge_48 ?_
        obtain ⟨y_14, hy_15⟩ := x_some (hz_2n (by omega))
        rw [hy_15]
        obtain ⟨ti_16, fi_16, hui_16, hIi_16⟩ := (hRk_11.vw (show (p0).toNat < 4 by omega)).yes hy_15
        obtain ⟨htat_17, htbt_17, htct_17, htdt_17, htet_17⟩ := id hIi_16.2.1
        show W p l e R s m args below meth c _ _ _ _ _ (F0 m 49 ls [.ref y_14, .ref a])
        refine x_const hC dX5_viewMerge_49 ?_
        refine x_ialdE (x := ((ti_16.b : Nat) : Int)) hC hw hIi_16.1 (by omega) (by omega) (by omega) dX5_viewMerge_50 hIi_16.2.2.1 ?_
        refine x_callV hC hw (lv_size hl) (c_X5_touch l G hRk_11 (p0 := ((ti_16.b : Nat) : Int)) (by omega) (by omega)) gX5_viewMerge_X5_touch rfl dv_X5_touch hRk_11.1.1 rfl rfl (Nat.le_of_ble_eq_true rfl) (by rw [hRf]; decide) (by rw [hRl]; decide) (by omega) (by omega) dX5_viewMerge_51 (fun r9 M_18 H locs hq hw => ?_)
        simp only [Int.toNat_natCast] at hq
        obtain ⟨hak_19, rfl, he0k_19, hx5k_19, hRk_19⟩ := hq
        have h_20 := hIi_16.x5 hx5k_19
        have hsck_19 := hRk_19.sc
        show W p l e R s m args below meth c H locs _ _ _ (F0 m 54 ls [])
        refine lv_aload_n hC.1 hC.2.1 dX5_viewMerge_54 rfl (lv_at hl 0 rfl) ?_
        refine lv_aload_n hC.1 hC.2.1 dX5_viewMerge_55 rfl (lv_at hl 0 rfl) ?_
        refine x_get hC hw hRk_19.1.1 rfl hinX5 5 (by decide) (by decide +kernel) rfl dX5_viewMerge_56 ?_
        refine lv_iload_n hC.1 hC.2.1 dX5_viewMerge_59 rfl (lv_at hl 1 rfl) ?_
        refine x_ald4 hC hw hRk_19.1.2.2.2.2.1 (by omega) (by omega) (by omega) dX5_viewMerge_60 ?_
        rw [hy_15]
        show W p l e R s m args below meth c _ _ _ _ _ (F0 m 61 ls [.ref y_14, .ref a])
        refine lv_iload_n hC.1 hC.2.1 dX5_viewMerge_61 rfl (lv_at hl 2 rfl) ?_
        refine x_callV hC hw (lv_size hl) (c_X5_isWithin l G hRk_19 h_20 (p0 := p1) (by omega) (by omega)) gX5_viewMerge_X5_isWithin rfl dv_X5_isWithin hRk_19.1.1 rfl rfl (Nat.le_of_ble_eq_true rfl) (by rw [hRf]; decide) (by rw [hRl]; decide) (by omega) (by omega) dX5_viewMerge_62 (fun r9 M_21 H locs hq hw => ?_)
        obtain ⟨z_22, rfl, hM9, hz_22a, hz_22w⟩ := hq
        rw [hM9] at hw
        show W p l e R s m args below meth c H locs _ _ _ (F0 m 65 ls [.int (iN (z_22))])
        refine x_if_eq (tgt := 85) hC ⟨by omega, by omega⟩ dX5_viewMerge_65 (by decide) (fun c_23 => ?_) (fun c_23 => ?_)
        · refine x_sipush hC dX5_viewMerge_85 (by decide +kernel) ?_
          exact x_iret hC hw dX5_viewMerge_88 (by omega) (by omega) ⟨(-20000), _, rfl, by omega, Or.inl ⟨by omega, by first | trivial | omega, (by have i9 := inI_01 (O ti_16.b) (p1).toNat ti_16; rw [A_viewMerge, (wiB_eq (s := (O, V, Wv, K, kp, kv, rfd)) (p0 := p0) (p1 := p1) hui_16), (vwV_eq (s := (O, V, Wv, K, kp, kv, rfd)) (p0 := p0) (p1 := p1) hui_16)]; show _ = (if inI (O ti_16.b) ti_16 (p1).toNat = 1 then mgN (V ti_16.b (p1).toNat) p2 else -20000); first | rfl | omega | ((repeat' split) <;> first | rfl | omega)), (by rw [S_viewMerge, vwS_eq (s := (O, V, Wv, K, kp, kv, rfd)) hui_16 (by rw [(wiB_eq (s := (O, V, Wv, K, kp, kv, rfd)) (p0 := p0) (p1 := p1) hui_16), (vwV_eq (s := (O, V, Wv, K, kp, kv, rfd)) (p0 := p0) (p1 := p1) hui_16)])]; exact MGm.mut (F := V ti_16.b) (upB_self rfl).symm hRk_19 hK bl_rf he0k_19 (upV_self (show (V ti_16.b (p1).toNat) = (if inI (O ti_16.b) ti_16 (p1).toNat = 1 then mgN (V ti_16.b (p1).toNat) p2 else (V ti_16.b (p1).toNat)) by have i9 := inI_01 (O ti_16.b) (p1).toNat ti_16; first | rfl | omega | ((repeat' split) <;> first | rfl | omega))).symm)⟩⟩
        · refine lv_aload_n hC.1 hC.2.1 dX5_viewMerge_68 rfl (lv_at hl 0 rfl) ?_
          refine lv_aload_n hC.1 hC.2.1 dX5_viewMerge_69 rfl (lv_at hl 0 rfl) ?_
          refine x_get hC hw hRk_19.1.1 rfl hinX5 5 (by decide) (by decide +kernel) rfl dX5_viewMerge_70 ?_
          refine lv_iload_n hC.1 hC.2.1 dX5_viewMerge_73 rfl (lv_at hl 1 rfl) ?_
          refine x_ald4 hC hw hRk_19.1.2.2.2.2.1 (by omega) (by omega) (by omega) dX5_viewMerge_74 ?_
          rw [hy_15]
          show W p l e R s m args below meth c _ _ _ _ _ (F0 m 75 ls [.ref y_14, .ref a])
          refine x_const hC dX5_viewMerge_75 ?_
          refine x_ialdE (x := ((ti_16.b : Nat) : Int)) hC hw h_20.1 (by omega) (by omega) (by omega) dX5_viewMerge_76 h_20.2.2.1 ?_
          refine lv_iload_n hC.1 hC.2.1 dX5_viewMerge_77 rfl (lv_at hl 2 rfl) ?_
          refine lv_iload_n hC.1 hC.2.1 dX5_viewMerge_78 rfl (lv_at hl 3 rfl) ?_
          refine x_callV hC hw (lv_size hl) (c_X5_mergeOf l G hRk_19 (p0 := ((ti_16.b : Nat) : Int)) (by omega) (p1 := p1) (by omega) (p2 := p2) (by omega) (by omega) (by omega) (by omega) (by first | assumption | exact hSk (by omega) | assumption)) gX5_viewMerge_X5_mergeOf rfl dv_X5_mergeOf hRk_19.1.1 rfl rfl (Nat.le_of_ble_eq_true rfl) (by rw [hRf]; decide) (by rw [hRl]; decide) (by omega) (by omega) dX5_viewMerge_79 (fun r9 M_24 H locs hq hw => ?_)
          simp only [Int.toNat_natCast] at hq
          obtain ⟨z_26, brk_25, Vk_25, rfl, hz_26a, hz_26v, he0k_25, he1k_25, hx5k_25, hRk_25⟩ := hq
          have h_27 := h_20.x5 hx5k_25
          have hsck_25 := hRk_25.sc
          show W p l e R s m args below meth c H locs _ _ _ (F0 m 82 ls [.int (iN (z_26))])
          refine lv_goto (tgt := 88) hC.1 hC.2.1 dX5_viewMerge_82 (by decide) ?_
          exact x_iret hC hw dX5_viewMerge_88 (by omega) (by omega) ⟨z_26, _, rfl, by omega, Or.inl ⟨by omega, by first | trivial | omega, (by have i9 := inI_01 (O ti_16.b) (p1).toNat ti_16; rw [A_viewMerge, (wiB_eq (s := (O, V, Wv, K, kp, kv, rfd)) (p0 := p0) (p1 := p1) hui_16), (vwV_eq (s := (O, V, Wv, K, kp, kv, rfd)) (p0 := p0) (p1 := p1) hui_16)]; show _ = (if inI (O ti_16.b) ti_16 (p1).toNat = 1 then mgN (V ti_16.b (p1).toNat) p2 else -20000); first | rfl | omega | ((repeat' split) <;> first | rfl | omega)), (by rw [S_viewMerge, vwS_eq (s := (O, V, Wv, K, kp, kv, rfd)) hui_16 (by rw [(wiB_eq (s := (O, V, Wv, K, kp, kv, rfd)) (p0 := p0) (p1 := p1) hui_16), (vwV_eq (s := (O, V, Wv, K, kp, kv, rfd)) (p0 := p0) (p1 := p1) hui_16)])]; exact MGm.mut he1k_25 hRk_25 hK (bl_one (by omega) he0k_25) he0k_19 (congrArg (upV (V ti_16.b) (p1).toNat) (show (mgN (V ti_16.b ((p1).toNat)) p2) = (if inI (O ti_16.b) ti_16 (p1).toNat = 1 then mgN (V ti_16.b (p1).toNat) p2 else (V ti_16.b (p1).toNat)) by have i9 := inI_01 (O ti_16.b) (p1).toNat ti_16; first | rfl | omega | ((repeat' split) <;> first | rfl | omega))))⟩⟩
      · refine x_const hC dX5_viewMerge_40 ?_
        exact x_iret hC hw dX5_viewMerge_41 (by omega) (by omega) ⟨0, _, rfl, by omega, Or.inr ⟨by omega, by omega, MGm.of hRk_11 hK⟩⟩
    · refine lv_iload_n hC.1 hC.2.1 dX5_viewMerge_21 rfl (lv_at hl 3 rfl) ?_
      refine x_callS hC hw (lv_size hl) (c_X5_isNoValue l G (M := M_3) (p0 := p2) (by omega)) gX5_viewMerge_X5_isNoValue rfl dv_X5_isNoValue_s rfl (Nat.le_of_ble_eq_true rfl) (by rw [hRf]; decide) (by rw [hRl]; decide) (by omega) (by omega) dX5_viewMerge_22 (fun r9 M_28 H locs hq hw => ?_)
      obtain ⟨z_29, rfl, hM9, hz_29a, hz_29b⟩ := hq
      rw [hM9] at hw
      show W p l e R s m args below meth c H locs _ _ _ (F0 m 25 ls [.int (iN (z_29)), .ref a])
      refine x_if_eq (tgt := 32) hC ⟨by omega, by omega⟩ dX5_viewMerge_25 (by decide) (fun c_30 => ?_) (fun c_30 => ?_)
      · refine x_const hC dX5_viewMerge_32 ?_
        refine x_const hC dX5_viewMerge_33 ?_
        refine x_callV hC hw (lv_size hl) (c_X5_refuse l G hRk_4 (p0 := 0) (by omega) (p1 := 2) (by omega) (by omega)) gX5_viewMerge_X5_refuse rfl dv_X5_refuse hRk_4.1.1 rfl rfl (Nat.le_of_ble_eq_true rfl) (by rw [hRf]; decide) (by rw [hRl]; decide) (by omega) (by omega) dX5_viewMerge_34 (fun r9 M_31 H locs hq hw => ?_)
        obtain ⟨z_33, thk_32, rfl, hz_33a, hz_33b, hz_33c0, hz_33c1, hx5k_32, hRk_32⟩ := hq
        have hsck_32 := hRk_32.sc
        show W p l e R s m args below meth c H locs _ _ _ (F0 m 37 ls [.int (iN (z_33))])
        refine x_if_eq (tgt := 42) hC ⟨by omega, by omega⟩ dX5_viewMerge_37 (by decide) (fun c_34 => ?_) (fun c_34 => ?_)
        · refine lv_aload_n hC.1 hC.2.1 dX5_viewMerge_42 rfl (lv_at hl 0 rfl) ?_
          refine lv_aload_n hC.1 hC.2.1 dX5_viewMerge_43 rfl (lv_at hl 0 rfl) ?_
          refine x_get hC hw hRk_32.1.1 rfl hinX5 5 (by decide) (by decide +kernel) rfl dX5_viewMerge_44 ?_
          refine lv_iload_n hC.1 hC.2.1 dX5_viewMerge_47 rfl (lv_at hl 1 rfl) ?_
          refine x_ald4 hC hw hRk_32.1.2.2.2.2.1 (by omega) (by omega) (by omega) dX5_viewMerge_48 ?_
          obtain ⟨y_35, hy_36⟩ := x_some (hz_2n (by omega))
          rw [hy_36]
          obtain ⟨ti_37, fi_37, hui_37, hIi_37⟩ := (hRk_32.vw (show (p0).toNat < 4 by omega)).yes hy_36
          obtain ⟨htat_38, htbt_38, htct_38, htdt_38, htet_38⟩ := id hIi_37.2.1
          show W p l e R s m args below meth c _ _ _ _ _ (F0 m 49 ls [.ref y_35, .ref a])
          refine x_const hC dX5_viewMerge_49 ?_
          refine x_ialdE (x := ((ti_37.b : Nat) : Int)) hC hw hIi_37.1 (by omega) (by omega) (by omega) dX5_viewMerge_50 hIi_37.2.2.1 ?_
          refine x_callV hC hw (lv_size hl) (c_X5_touch l G hRk_32 (p0 := ((ti_37.b : Nat) : Int)) (by omega) (by omega)) gX5_viewMerge_X5_touch rfl dv_X5_touch hRk_32.1.1 rfl rfl (Nat.le_of_ble_eq_true rfl) (by rw [hRf]; decide) (by rw [hRl]; decide) (by omega) (by omega) dX5_viewMerge_51 (fun r9 M_39 H locs hq hw => ?_)
          simp only [Int.toNat_natCast] at hq
          obtain ⟨hak_40, rfl, he0k_40, hx5k_40, hRk_40⟩ := hq
          have h_41 := hIi_37.x5 hx5k_40
          have hsck_40 := hRk_40.sc
          show W p l e R s m args below meth c H locs _ _ _ (F0 m 54 ls [])
          refine lv_aload_n hC.1 hC.2.1 dX5_viewMerge_54 rfl (lv_at hl 0 rfl) ?_
          refine lv_aload_n hC.1 hC.2.1 dX5_viewMerge_55 rfl (lv_at hl 0 rfl) ?_
          refine x_get hC hw hRk_40.1.1 rfl hinX5 5 (by decide) (by decide +kernel) rfl dX5_viewMerge_56 ?_
          refine lv_iload_n hC.1 hC.2.1 dX5_viewMerge_59 rfl (lv_at hl 1 rfl) ?_
          refine x_ald4 hC hw hRk_40.1.2.2.2.2.1 (by omega) (by omega) (by omega) dX5_viewMerge_60 ?_
          rw [hy_36]
          show W p l e R s m args below meth c _ _ _ _ _ (F0 m 61 ls [.ref y_35, .ref a])
          refine lv_iload_n hC.1 hC.2.1 dX5_viewMerge_61 rfl (lv_at hl 2 rfl) ?_
          refine x_callV hC hw (lv_size hl) (c_X5_isWithin l G hRk_40 h_41 (p0 := p1) (by omega) (by omega)) gX5_viewMerge_X5_isWithin rfl dv_X5_isWithin hRk_40.1.1 rfl rfl (Nat.le_of_ble_eq_true rfl) (by rw [hRf]; decide) (by rw [hRl]; decide) (by omega) (by omega) dX5_viewMerge_62 (fun r9 M_42 H locs hq hw => ?_)
          obtain ⟨z_43, rfl, hM9, hz_43a, hz_43w⟩ := hq
          rw [hM9] at hw
          show W p l e R s m args below meth c H locs _ _ _ (F0 m 65 ls [.int (iN (z_43))])
          refine x_if_eq (tgt := 85) hC ⟨by omega, by omega⟩ dX5_viewMerge_65 (by decide) (fun c_44 => ?_) (fun c_44 => ?_)
          · refine x_sipush hC dX5_viewMerge_85 (by decide +kernel) ?_
            exact x_iret hC hw dX5_viewMerge_88 (by omega) (by omega) ⟨(-20000), _, rfl, by omega, Or.inl ⟨by omega, by first | trivial | omega, (by have i9 := inI_01 (O ti_37.b) (p1).toNat ti_37; rw [A_viewMerge, (wiB_eq (s := (O, V, Wv, K, kp, kv, rfd)) (p0 := p0) (p1 := p1) hui_37), (vwV_eq (s := (O, V, Wv, K, kp, kv, rfd)) (p0 := p0) (p1 := p1) hui_37)]; show _ = (if inI (O ti_37.b) ti_37 (p1).toNat = 1 then mgN (V ti_37.b (p1).toNat) p2 else -20000); first | rfl | omega | ((repeat' split) <;> first | rfl | omega)), (by rw [S_viewMerge, vwS_eq (s := (O, V, Wv, K, kp, kv, rfd)) hui_37 (by rw [(wiB_eq (s := (O, V, Wv, K, kp, kv, rfd)) (p0 := p0) (p1 := p1) hui_37), (vwV_eq (s := (O, V, Wv, K, kp, kv, rfd)) (p0 := p0) (p1 := p1) hui_37)])]; exact MGm.mut (F := V ti_37.b) (upB_self rfl).symm hRk_40 hK bl_rf he0k_40 (upV_self (show (V ti_37.b (p1).toNat) = (if inI (O ti_37.b) ti_37 (p1).toNat = 1 then mgN (V ti_37.b (p1).toNat) p2 else (V ti_37.b (p1).toNat)) by have i9 := inI_01 (O ti_37.b) (p1).toNat ti_37; first | rfl | omega | ((repeat' split) <;> first | rfl | omega))).symm)⟩⟩
          · refine lv_aload_n hC.1 hC.2.1 dX5_viewMerge_68 rfl (lv_at hl 0 rfl) ?_
            refine lv_aload_n hC.1 hC.2.1 dX5_viewMerge_69 rfl (lv_at hl 0 rfl) ?_
            refine x_get hC hw hRk_40.1.1 rfl hinX5 5 (by decide) (by decide +kernel) rfl dX5_viewMerge_70 ?_
            refine lv_iload_n hC.1 hC.2.1 dX5_viewMerge_73 rfl (lv_at hl 1 rfl) ?_
            refine x_ald4 hC hw hRk_40.1.2.2.2.2.1 (by omega) (by omega) (by omega) dX5_viewMerge_74 ?_
            rw [hy_36]
            show W p l e R s m args below meth c _ _ _ _ _ (F0 m 75 ls [.ref y_35, .ref a])
            refine x_const hC dX5_viewMerge_75 ?_
            refine x_ialdE (x := ((ti_37.b : Nat) : Int)) hC hw h_41.1 (by omega) (by omega) (by omega) dX5_viewMerge_76 h_41.2.2.1 ?_
            refine lv_iload_n hC.1 hC.2.1 dX5_viewMerge_77 rfl (lv_at hl 2 rfl) ?_
            refine lv_iload_n hC.1 hC.2.1 dX5_viewMerge_78 rfl (lv_at hl 3 rfl) ?_
            refine x_callV hC hw (lv_size hl) (c_X5_mergeOf l G hRk_40 (p0 := ((ti_37.b : Nat) : Int)) (by omega) (p1 := p1) (by omega) (p2 := p2) (by omega) (by omega) (by omega) (by omega) (by first | assumption | exact hSk (by omega) | assumption)) gX5_viewMerge_X5_mergeOf rfl dv_X5_mergeOf hRk_40.1.1 rfl rfl (Nat.le_of_ble_eq_true rfl) (by rw [hRf]; decide) (by rw [hRl]; decide) (by omega) (by omega) dX5_viewMerge_79 (fun r9 M_45 H locs hq hw => ?_)
            simp only [Int.toNat_natCast] at hq
            obtain ⟨z_47, brk_46, Vk_46, rfl, hz_47a, hz_47v, he0k_46, he1k_46, hx5k_46, hRk_46⟩ := hq
            have h_48 := h_41.x5 hx5k_46
            have hsck_46 := hRk_46.sc
            show W p l e R s m args below meth c H locs _ _ _ (F0 m 82 ls [.int (iN (z_47))])
            refine lv_goto (tgt := 88) hC.1 hC.2.1 dX5_viewMerge_82 (by decide) ?_
            exact x_iret hC hw dX5_viewMerge_88 (by omega) (by omega) ⟨z_47, _, rfl, by omega, Or.inl ⟨by omega, by first | trivial | omega, (by have i9 := inI_01 (O ti_37.b) (p1).toNat ti_37; rw [A_viewMerge, (wiB_eq (s := (O, V, Wv, K, kp, kv, rfd)) (p0 := p0) (p1 := p1) hui_37), (vwV_eq (s := (O, V, Wv, K, kp, kv, rfd)) (p0 := p0) (p1 := p1) hui_37)]; show _ = (if inI (O ti_37.b) ti_37 (p1).toNat = 1 then mgN (V ti_37.b (p1).toNat) p2 else -20000); first | rfl | omega | ((repeat' split) <;> first | rfl | omega)), (by rw [S_viewMerge, vwS_eq (s := (O, V, Wv, K, kp, kv, rfd)) hui_37 (by rw [(wiB_eq (s := (O, V, Wv, K, kp, kv, rfd)) (p0 := p0) (p1 := p1) hui_37), (vwV_eq (s := (O, V, Wv, K, kp, kv, rfd)) (p0 := p0) (p1 := p1) hui_37)])]; exact MGm.mut he1k_46 hRk_46 hK (bl_one (by omega) he0k_46) he0k_40 (congrArg (upV (V ti_37.b) (p1).toNat) (show (mgN (V ti_37.b ((p1).toNat)) p2) = (if inI (O ti_37.b) ti_37 (p1).toNat = 1 then mgN (V ti_37.b (p1).toNat) p2 else (V ti_37.b (p1).toNat)) by have i9 := inI_01 (O ti_37.b) (p1).toNat ti_37; first | rfl | omega | ((repeat' split) <;> first | rfl | omega))))⟩⟩
        · refine x_const hC dX5_viewMerge_40 ?_
          exact x_iret hC hw dX5_viewMerge_41 (by omega) (by omega) ⟨0, _, rfl, by omega, Or.inr ⟨by omega, by omega, MGm.of hRk_32 hK⟩⟩
      · refine x_const hC dX5_viewMerge_28 ?_
        refine lv_goto (tgt := 33) hC.1 hC.2.1 dX5_viewMerge_29 (by decide) ?_
        refine x_const hC dX5_viewMerge_33 ?_
        refine x_callV hC hw (lv_size hl) (c_X5_refuse l G hRk_4 (p0 := 1) (by omega) (p1 := 2) (by omega) (by omega)) gX5_viewMerge_X5_refuse rfl dv_X5_refuse hRk_4.1.1 rfl rfl (Nat.le_of_ble_eq_true rfl) (by rw [hRf]; decide) (by rw [hRl]; decide) (by omega) (by omega) dX5_viewMerge_34 (fun r9 M_49 H locs hq hw => ?_)
        obtain ⟨z_51, thk_50, rfl, hz_51a, hz_51b, hz_51c0, hz_51c1, hx5k_50, hRk_50⟩ := hq
        have hsck_50 := hRk_50.sc
        show W p l e R s m args below meth c H locs _ _ _ (F0 m 37 ls [.int (iN (z_51))])
        refine x_if_eq (tgt := 42) hC ⟨by omega, by omega⟩ dX5_viewMerge_37 (by decide) (fun c_52 => ?_) (fun c_52 => ?_)
        · refine lv_aload_n hC.1 hC.2.1 dX5_viewMerge_42 rfl (lv_at hl 0 rfl) ?_
          refine lv_aload_n hC.1 hC.2.1 dX5_viewMerge_43 rfl (lv_at hl 0 rfl) ?_
          refine x_get hC hw hRk_50.1.1 rfl hinX5 5 (by decide) (by decide +kernel) rfl dX5_viewMerge_44 ?_
          refine lv_iload_n hC.1 hC.2.1 dX5_viewMerge_47 rfl (lv_at hl 1 rfl) ?_
          refine x_ald4 hC hw hRk_50.1.2.2.2.2.1 (by omega) (by omega) (by omega) dX5_viewMerge_48 ?_
          obtain ⟨y_53, hy_54⟩ := x_some (hz_2n (by omega))
          rw [hy_54]
          obtain ⟨ti_55, fi_55, hui_55, hIi_55⟩ := (hRk_50.vw (show (p0).toNat < 4 by omega)).yes hy_54
          obtain ⟨htat_56, htbt_56, htct_56, htdt_56, htet_56⟩ := id hIi_55.2.1
          show W p l e R s m args below meth c _ _ _ _ _ (F0 m 49 ls [.ref y_53, .ref a])
          refine x_const hC dX5_viewMerge_49 ?_
          refine x_ialdE (x := ((ti_55.b : Nat) : Int)) hC hw hIi_55.1 (by omega) (by omega) (by omega) dX5_viewMerge_50 hIi_55.2.2.1 ?_
          refine x_callV hC hw (lv_size hl) (c_X5_touch l G hRk_50 (p0 := ((ti_55.b : Nat) : Int)) (by omega) (by omega)) gX5_viewMerge_X5_touch rfl dv_X5_touch hRk_50.1.1 rfl rfl (Nat.le_of_ble_eq_true rfl) (by rw [hRf]; decide) (by rw [hRl]; decide) (by omega) (by omega) dX5_viewMerge_51 (fun r9 M_57 H locs hq hw => ?_)
          simp only [Int.toNat_natCast] at hq
          obtain ⟨hak_58, rfl, he0k_58, hx5k_58, hRk_58⟩ := hq
          have h_59 := hIi_55.x5 hx5k_58
          have hsck_58 := hRk_58.sc
          show W p l e R s m args below meth c H locs _ _ _ (F0 m 54 ls [])
          refine lv_aload_n hC.1 hC.2.1 dX5_viewMerge_54 rfl (lv_at hl 0 rfl) ?_
          refine lv_aload_n hC.1 hC.2.1 dX5_viewMerge_55 rfl (lv_at hl 0 rfl) ?_
          refine x_get hC hw hRk_58.1.1 rfl hinX5 5 (by decide) (by decide +kernel) rfl dX5_viewMerge_56 ?_
          refine lv_iload_n hC.1 hC.2.1 dX5_viewMerge_59 rfl (lv_at hl 1 rfl) ?_
          refine x_ald4 hC hw hRk_58.1.2.2.2.2.1 (by omega) (by omega) (by omega) dX5_viewMerge_60 ?_
          rw [hy_54]
          show W p l e R s m args below meth c _ _ _ _ _ (F0 m 61 ls [.ref y_53, .ref a])
          refine lv_iload_n hC.1 hC.2.1 dX5_viewMerge_61 rfl (lv_at hl 2 rfl) ?_
          refine x_callV hC hw (lv_size hl) (c_X5_isWithin l G hRk_58 h_59 (p0 := p1) (by omega) (by omega)) gX5_viewMerge_X5_isWithin rfl dv_X5_isWithin hRk_58.1.1 rfl rfl (Nat.le_of_ble_eq_true rfl) (by rw [hRf]; decide) (by rw [hRl]; decide) (by omega) (by omega) dX5_viewMerge_62 (fun r9 M_60 H locs hq hw => ?_)
          obtain ⟨z_61, rfl, hM9, hz_61a, hz_61w⟩ := hq
          rw [hM9] at hw
          show W p l e R s m args below meth c H locs _ _ _ (F0 m 65 ls [.int (iN (z_61))])
          refine x_if_eq (tgt := 85) hC ⟨by omega, by omega⟩ dX5_viewMerge_65 (by decide) (fun c_62 => ?_) (fun c_62 => ?_)
          · refine x_sipush hC dX5_viewMerge_85 (by decide +kernel) ?_
            exact x_iret hC hw dX5_viewMerge_88 (by omega) (by omega) ⟨(-20000), _, rfl, by omega, Or.inl ⟨by omega, by first | trivial | omega, (by have i9 := inI_01 (O ti_55.b) (p1).toNat ti_55; rw [A_viewMerge, (wiB_eq (s := (O, V, Wv, K, kp, kv, rfd)) (p0 := p0) (p1 := p1) hui_55), (vwV_eq (s := (O, V, Wv, K, kp, kv, rfd)) (p0 := p0) (p1 := p1) hui_55)]; show _ = (if inI (O ti_55.b) ti_55 (p1).toNat = 1 then mgN (V ti_55.b (p1).toNat) p2 else -20000); first | rfl | omega | ((repeat' split) <;> first | rfl | omega)), (by rw [S_viewMerge, vwS_eq (s := (O, V, Wv, K, kp, kv, rfd)) hui_55 (by rw [(wiB_eq (s := (O, V, Wv, K, kp, kv, rfd)) (p0 := p0) (p1 := p1) hui_55), (vwV_eq (s := (O, V, Wv, K, kp, kv, rfd)) (p0 := p0) (p1 := p1) hui_55)])]; exact MGm.mut (F := V ti_55.b) (upB_self rfl).symm hRk_58 hK bl_rf he0k_58 (upV_self (show (V ti_55.b (p1).toNat) = (if inI (O ti_55.b) ti_55 (p1).toNat = 1 then mgN (V ti_55.b (p1).toNat) p2 else (V ti_55.b (p1).toNat)) by have i9 := inI_01 (O ti_55.b) (p1).toNat ti_55; first | rfl | omega | ((repeat' split) <;> first | rfl | omega))).symm)⟩⟩
          · refine lv_aload_n hC.1 hC.2.1 dX5_viewMerge_68 rfl (lv_at hl 0 rfl) ?_
            refine lv_aload_n hC.1 hC.2.1 dX5_viewMerge_69 rfl (lv_at hl 0 rfl) ?_
            refine x_get hC hw hRk_58.1.1 rfl hinX5 5 (by decide) (by decide +kernel) rfl dX5_viewMerge_70 ?_
            refine lv_iload_n hC.1 hC.2.1 dX5_viewMerge_73 rfl (lv_at hl 1 rfl) ?_
            refine x_ald4 hC hw hRk_58.1.2.2.2.2.1 (by omega) (by omega) (by omega) dX5_viewMerge_74 ?_
            rw [hy_54]
            show W p l e R s m args below meth c _ _ _ _ _ (F0 m 75 ls [.ref y_53, .ref a])
            refine x_const hC dX5_viewMerge_75 ?_
            refine x_ialdE (x := ((ti_55.b : Nat) : Int)) hC hw h_59.1 (by omega) (by omega) (by omega) dX5_viewMerge_76 h_59.2.2.1 ?_
            refine lv_iload_n hC.1 hC.2.1 dX5_viewMerge_77 rfl (lv_at hl 2 rfl) ?_
            refine lv_iload_n hC.1 hC.2.1 dX5_viewMerge_78 rfl (lv_at hl 3 rfl) ?_
            refine x_callV hC hw (lv_size hl) (c_X5_mergeOf l G hRk_58 (p0 := ((ti_55.b : Nat) : Int)) (by omega) (p1 := p1) (by omega) (p2 := p2) (by omega) (by omega) (by omega) (by omega) (by first | assumption | exact hSk (by omega) | assumption)) gX5_viewMerge_X5_mergeOf rfl dv_X5_mergeOf hRk_58.1.1 rfl rfl (Nat.le_of_ble_eq_true rfl) (by rw [hRf]; decide) (by rw [hRl]; decide) (by omega) (by omega) dX5_viewMerge_79 (fun r9 M_63 H locs hq hw => ?_)
            simp only [Int.toNat_natCast] at hq
            obtain ⟨z_65, brk_64, Vk_64, rfl, hz_65a, hz_65v, he0k_64, he1k_64, hx5k_64, hRk_64⟩ := hq
            have h_66 := h_59.x5 hx5k_64
            have hsck_64 := hRk_64.sc
            show W p l e R s m args below meth c H locs _ _ _ (F0 m 82 ls [.int (iN (z_65))])
            refine lv_goto (tgt := 88) hC.1 hC.2.1 dX5_viewMerge_82 (by decide) ?_
            exact x_iret hC hw dX5_viewMerge_88 (by omega) (by omega) ⟨z_65, _, rfl, by omega, Or.inl ⟨by omega, by first | trivial | omega, (by have i9 := inI_01 (O ti_55.b) (p1).toNat ti_55; rw [A_viewMerge, (wiB_eq (s := (O, V, Wv, K, kp, kv, rfd)) (p0 := p0) (p1 := p1) hui_55), (vwV_eq (s := (O, V, Wv, K, kp, kv, rfd)) (p0 := p0) (p1 := p1) hui_55)]; show _ = (if inI (O ti_55.b) ti_55 (p1).toNat = 1 then mgN (V ti_55.b (p1).toNat) p2 else -20000); first | rfl | omega | ((repeat' split) <;> first | rfl | omega)), (by rw [S_viewMerge, vwS_eq (s := (O, V, Wv, K, kp, kv, rfd)) hui_55 (by rw [(wiB_eq (s := (O, V, Wv, K, kp, kv, rfd)) (p0 := p0) (p1 := p1) hui_55), (vwV_eq (s := (O, V, Wv, K, kp, kv, rfd)) (p0 := p0) (p1 := p1) hui_55)])]; exact MGm.mut he1k_64 hRk_64 hK (bl_one (by omega) he0k_64) he0k_58 (congrArg (upV (V ti_55.b) (p1).toNat) (show (mgN (V ti_55.b ((p1).toNat)) p2) = (if inI (O ti_55.b) ti_55 (p1).toNat = 1 then mgN (V ti_55.b (p1).toNat) p2 else (V ti_55.b (p1).toNat)) by have i9 := inI_01 (O ti_55.b) (p1).toNat ti_55; first | rfl | omega | ((repeat' split) <;> first | rfl | omega))))⟩⟩
        · refine x_const hC dX5_viewMerge_40 ?_
          exact x_iret hC hw dX5_viewMerge_41 (by omega) (by omega) ⟨0, _, rfl, by omega, Or.inr ⟨by omega, by omega, MGm.of hRk_50 hK⟩⟩
set_option maxHeartbeats 4000000 in
set_option maxRecDepth 100000 in
theorem c_X5_viewPoll (l : Launch) (G : xG) {M : HM} {a va oa wa ya : Nat} {wk : Option Nat} {th : Int} {rfd : Int32} {br re la ha : Int} {kp kv : Int32} {qv qw : Nat → Nat} {fa fb : Nat → Option Nat} {V : BW} {O : OW} {fy : Nat → Option Nat} {Wv : VW} {wt : Option VT} {S : Nat → Bool} (hR : MGx G M a va oa wa ya wk th rfd br re la ha kp kv qv qw fa fb V O fy Wv wt S) {K : WA} (hK : abM O wt br re la ha K) {p0 : Int} (hp0 : -2147483648 ≤ p0 ∧ p0 ≤ 2147483647) {p1 : Int} (hp1 : -2147483648 ≤ p1 ∧ p1 ≤ 2147483647) : xMet l G yX5_viewPoll wsX5_viewPoll 5 115 0 0 [.ref a, .int (iN (p0)), .int (iN (p1))] M (fun r M1 => ∃ (z th1 : Int), r = some (.int (iN z)) ∧ (-2147483648 ≤ z ∧ z ≤ 2147483647) ∧ ((th1 = 0 ∧ ((0 ≤ p0 ∧ p0 ≤ 3 ∧ opN (Wv p0.toNat) = 1)) ∧ z = A_viewPoll (O, V, Wv, K, kp, kv, rfd) p0 p1 ∧ MGm G M1 a S th1 (S_viewPoll (O, V, Wv, K, kp, kv, rfd) p0 p1)) ∨ (th1 ≠ 0 ∧ ((th1 = 1 ∧ ¬ (0 ≤ p0 ∧ p0 ≤ 3 ∧ opN (Wv p0.toNat) = 1))) ∧ MGm G M1 a S th1 (O, V, Wv, K, kp, kv, rfd)))) := by
  refine x_intro (cc := cX5_viewPoll) (maxL := 4) (ret := (some .int)) (by decide +kernel) rfl (Nat.le_of_ble_eq_true rfl) ?_
  intro p e R s m args below meth c ls hRf hRc hRs hRl hC hw hl
  have hsc0 := hR.sc
  have hinX5 : ∀ w ∈ wsX50, w ∈ wsX5_viewPoll := by decide +kernel
  have hl : lv_has ls 4 [(0, .ref a), (1, .int (iN (p0))), (2, .int (iN (p1)))] := hl
  refine lv_aload_n hC.1 hC.2.1 dX5_viewPoll_0 rfl (lv_at hl 0 rfl) ?_
  refine lv_aload_n hC.1 hC.2.1 dX5_viewPoll_1 rfl (lv_at hl 0 rfl) ?_
  refine lv_iload_n hC.1 hC.2.1 dX5_viewPoll_2 rfl (lv_at hl 1 rfl) ?_
  refine x_callV hC hw (lv_size hl) (c_X5_isNoView l G hR (p0 := p0) (by omega)) gX5_viewPoll_X5_isNoView rfl dv_X5_isNoView hR.1.1 rfl rfl (Nat.le_of_ble_eq_true rfl) (by rw [hRf]; decide) (by rw [hRl]; decide) (by omega) (by omega) dX5_viewPoll_3 (fun r9 M_1 H locs hq hw => ?_)
  obtain ⟨z_2, rfl, hM9, hz_2a, hz_2b, hz_2n⟩ := hq
  rw [hM9] at hw
  show W p l e R s m args below meth c H locs _ _ _ (F0 m 6 ls [.int (iN (z_2)), .ref a])
  refine x_const hC dX5_viewPoll_6 ?_
  refine x_callV hC hw (lv_size hl) (c_X5_start l G hR (p0 := z_2) (by omega) (p1 := 1) (by omega) (by omega)) gX5_viewPoll_X5_start rfl dv_X5_start hR.1.1 rfl rfl (Nat.le_of_ble_eq_true rfl) (by rw [hRf]; decide) (by rw [hRl]; decide) (by omega) (by omega) dX5_viewPoll_7 (fun r9 M_3 H locs hq hw => ?_)
  obtain ⟨z_5, thk_4, rfl, hz_5a, hz_5b, hz_5c0, hz_5c1, hx5k_4, hRk_4⟩ := hq
  have hsck_4 := hRk_4.sc
  show W p l e R s m args below meth c H locs _ _ _ (F0 m 10 ls [.int (iN (z_5))])
  refine x_if_eq (tgt := 15) hC ⟨by omega, by omega⟩ dX5_viewPoll_10 (by decide) (fun c_6 => ?_) (fun c_6 => ?_)
  · refine lv_aload_n hC.1 hC.2.1 dX5_viewPoll_15 rfl (lv_at hl 0 rfl) ?_
    refine lv_aload_n hC.1 hC.2.1 dX5_viewPoll_16 rfl (lv_at hl 0 rfl) ?_
    refine x_get hC hw hRk_4.1.1 rfl hinX5 5 (by decide) (by decide +kernel) rfl dX5_viewPoll_17 ?_
    refine lv_iload_n hC.1 hC.2.1 dX5_viewPoll_20 rfl (lv_at hl 1 rfl) ?_
    refine x_ald4 hC hw hRk_4.1.2.2.2.2.1 (by omega) (by omega) (by omega) dX5_viewPoll_21 ?_
    obtain ⟨y_7, hy_8⟩ := x_some (hz_2n (by omega))
    rw [hy_8]
    obtain ⟨ti_9, fi_9, hui_9, hIi_9⟩ := (hRk_4.vw (show (p0).toNat < 4 by omega)).yes hy_8
    obtain ⟨htat_10, htbt_10, htct_10, htdt_10, htet_10⟩ := id hIi_9.2.1
    show W p l e R s m args below meth c _ _ _ _ _ (F0 m 22 ls [.ref y_7, .ref a])
    refine x_const hC dX5_viewPoll_22 ?_
    refine x_ialdE (x := ((ti_9.b : Nat) : Int)) hC hw hIi_9.1 (by omega) (by omega) (by omega) dX5_viewPoll_23 hIi_9.2.2.1 ?_
    refine x_callV hC hw (lv_size hl) (c_X5_touch l G hRk_4 (p0 := ((ti_9.b : Nat) : Int)) (by omega) (by omega)) gX5_viewPoll_X5_touch rfl dv_X5_touch hRk_4.1.1 rfl rfl (Nat.le_of_ble_eq_true rfl) (by rw [hRf]; decide) (by rw [hRl]; decide) (by omega) (by omega) dX5_viewPoll_24 (fun r9 M_11 H locs hq hw => ?_)
    simp only [Int.toNat_natCast] at hq
    obtain ⟨hak_12, rfl, he0k_12, hx5k_12, hRk_12⟩ := hq
    have h_13 := hIi_9.x5 hx5k_12
    have hsck_12 := hRk_12.sc
    show W p l e R s m args below meth c H locs _ _ _ (F0 m 27 ls [])
    refine lv_aload_n hC.1 hC.2.1 dX5_viewPoll_27 rfl (lv_at hl 0 rfl) ?_
    refine lv_aload_n hC.1 hC.2.1 dX5_viewPoll_28 rfl (lv_at hl 0 rfl) ?_
    refine x_get hC hw hRk_12.1.1 rfl hinX5 5 (by decide) (by decide +kernel) rfl dX5_viewPoll_29 ?_
    refine lv_iload_n hC.1 hC.2.1 dX5_viewPoll_32 rfl (lv_at hl 1 rfl) ?_
    refine x_ald4 hC hw hRk_12.1.2.2.2.2.1 (by omega) (by omega) (by omega) dX5_viewPoll_33 ?_
    rw [hy_8]
    show W p l e R s m args below meth c _ _ _ _ _ (F0 m 34 ls [.ref y_7, .ref a])
    refine lv_iload_n hC.1 hC.2.1 dX5_viewPoll_34 rfl (lv_at hl 2 rfl) ?_
    refine x_callV hC hw (lv_size hl) (c_X5_end l G hRk_12 h_13 (p0 := p1) (by omega)) gX5_viewPoll_X5_end rfl dv_X5_end hRk_12.1.1 rfl rfl (Nat.le_of_ble_eq_true rfl) (by rw [hRf]; decide) (by rw [hRl]; decide) (by omega) (by omega) dX5_viewPoll_35 (fun r9 M_14 H locs hq hw => ?_)
    obtain ⟨z_15, rfl, hM9, hz_15a, hz_15S, hz_15e⟩ := hq
    rw [hM9] at hw
    show W p l e R s m args below meth c H locs _ _ _ (F0 m 38 ls [.int (iN (z_15))])
    refine lv_istore_n (lv' := [(3, .int (iN (z_15))), (0, .ref a), (1, .int (iN (p0))), (2, .int (iN (p1)))]) hC.1 hC.2.1 dX5_viewPoll_38 rfl hl (by decide) rfl (fun ls hl => ?_)
    refine lv_iload_n hC.1 hC.2.1 dX5_viewPoll_39 rfl (lv_at hl 0 rfl) ?_
    refine x_sipush hC dX5_viewPoll_40 (by decide +kernel) ?_
    refine x_icmp_eq (tgt := 63) hC ⟨by omega, by omega⟩ ⟨by omega, by omega⟩ dX5_viewPoll_43 (by decide) (fun c_16 => ?_) (fun c_16 => ?_)
    · refine lv_iload_n hC.1 hC.2.1 dX5_viewPoll_63 rfl (lv_at hl 0 rfl) ?_
      exact x_iret hC hw dX5_viewPoll_64 (by omega) (by omega) ⟨z_15, _, rfl, by omega, Or.inl ⟨by omega, by first | trivial | omega, ((by rw [A_viewPoll, show tvW (ST.W (O, V, Wv, K, kp, kv, rfd)) p0.toNat = ti_9 from tvW_some hui_9]; exact (hz_15e).symm).symm), (by rw [S_viewPoll, show tvW (ST.W (O, V, Wv, K, kp, kv, rfd)) p0.toNat = ti_9 from tvW_some hui_9]; exact MGm.mut (F := V ti_9.b) (upB_self rfl).symm hRk_12 hK bl_rf he0k_12 (by rw [show A_viewPoll (O, V, Wv, K, kp, kv, rfd) p0 p1 = z_15 from ((by rw [A_viewPoll, show tvW (ST.W (O, V, Wv, K, kp, kv, rfd)) p0.toNat = ti_9 from tvW_some hui_9]; exact (hz_15e).symm).symm).symm]; exact (rmV_0 (by omega)).symm))⟩⟩
    · refine lv_aload_n hC.1 hC.2.1 dX5_viewPoll_46 rfl (lv_at hl 1 rfl) ?_
      refine lv_aload_n hC.1 hC.2.1 dX5_viewPoll_47 rfl (lv_at hl 1 rfl) ?_
      refine x_get hC hw hRk_12.1.1 rfl hinX5 5 (by decide) (by decide +kernel) rfl dX5_viewPoll_48 ?_
      refine lv_iload_n hC.1 hC.2.1 dX5_viewPoll_51 rfl (lv_at hl 2 rfl) ?_
      refine x_ald4 hC hw hRk_12.1.2.2.2.2.1 (by omega) (by omega) (by omega) dX5_viewPoll_52 ?_
      rw [hy_8]
      show W p l e R s m args below meth c _ _ _ _ _ (F0 m 53 ls [.ref y_7, .ref a])
      refine x_const hC dX5_viewPoll_53 ?_
      refine x_ialdE (x := ((ti_9.b : Nat) : Int)) hC hw h_13.1 (by omega) (by omega) (by omega) dX5_viewPoll_54 h_13.2.2.1 ?_
      refine lv_iload_n hC.1 hC.2.1 dX5_viewPoll_55 rfl (lv_at hl 0 rfl) ?_
      refine x_sipush hC dX5_viewPoll_56 (by decide +kernel) ?_
      refine x_callV hC hw (lv_size hl) (c_X5_set l G hRk_12 (p0 := ((ti_9.b : Nat) : Int)) (by omega) (p1 := z_15) (by omega) (p2 := (-10000)) (by omega) (by omega) (by omega) (by omega) (fun q9 => absurd rfl q9)) gX5_viewPoll_X5_set rfl dv_X5_set hRk_12.1.1 rfl rfl (Nat.le_of_ble_eq_true rfl) (by rw [hRf]; decide) (by rw [hRl]; decide) (by omega) (by omega) dX5_viewPoll_59 (fun r9 M_17 H locs hq hw => ?_)
      simp only [Int.toNat_natCast] at hq
      obtain ⟨z_19, brk_18, Vk_18, rfl, hz_19a, hz_19v, hz_19b, he0k_18, he1k_18, hx5k_18, hRk_18⟩ := hq
      have h_20 := h_13.x5 hx5k_18
      have hsck_18 := hRk_18.sc
      show W p l e R s m args below meth c H locs _ _ _ (F0 m 62 ls [.int (iN (z_19))])
      refine lv_pop hC.1 hC.2.1 dX5_viewPoll_62 rfl ?_
      refine lv_iload_n hC.1 hC.2.1 dX5_viewPoll_63 rfl (lv_at hl 0 rfl) ?_
      exact x_iret hC hw dX5_viewPoll_64 (by omega) (by omega) ⟨z_15, _, rfl, by omega, Or.inl ⟨by omega, by first | trivial | omega, ((by rw [A_viewPoll, show tvW (ST.W (O, V, Wv, K, kp, kv, rfd)) p0.toNat = ti_9 from tvW_some hui_9]; exact (hz_15e).symm).symm), (by rw [S_viewPoll, show tvW (ST.W (O, V, Wv, K, kp, kv, rfd)) p0.toNat = ti_9 from tvW_some hui_9]; exact MGm.mut he1k_18 hRk_18 hK (bl_one (by omega) he0k_18) he0k_12 (by rw [show A_viewPoll (O, V, Wv, K, kp, kv, rfd) p0 p1 = z_15 from ((by rw [A_viewPoll, show tvW (ST.W (O, V, Wv, K, kp, kv, rfd)) p0.toNat = ti_9 from tvW_some hui_9]; exact (hz_15e).symm).symm).symm]; exact (rmV_1 (by omega)).symm))⟩⟩
  · refine x_const hC dX5_viewPoll_13 ?_
    exact x_iret hC hw dX5_viewPoll_14 (by omega) (by omega) ⟨0, _, rfl, by omega, Or.inr ⟨by omega, by omega, MGm.of hRk_4 hK⟩⟩
set_option maxHeartbeats 4000000 in
set_option maxRecDepth 100000 in
theorem c_X5_viewClear (l : Launch) (G : xG) {M : HM} {a va oa wa ya : Nat} {wk : Option Nat} {th : Int} {rfd : Int32} {br re la ha : Int} {kp kv : Int32} {qv qw : Nat → Nat} {fa fb : Nat → Option Nat} {V : BW} {O : OW} {fy : Nat → Option Nat} {Wv : VW} {wt : Option VT} {S : Nat → Bool} (hR : MGx G M a va oa wa ya wk th rfd br re la ha kp kv qv qw fa fb V O fy Wv wt S) {K : WA} (hK : abM O wt br re la ha K) {p0 : Int} (hp0 : -2147483648 ≤ p0 ∧ p0 ≤ 2147483647) : xMet l G yX5_viewClear wsX5_viewClear 4 90 0 0 [.ref a, .int (iN (p0))] M (fun r M1 => ∃ (z th1 : Int), r = some (.int (iN z)) ∧ (-2147483648 ≤ z ∧ z ≤ 2147483647) ∧ ((th1 = 0 ∧ ((0 ≤ p0 ∧ p0 ≤ 3 ∧ opN (Wv p0.toNat) = 1)) ∧ z = A_viewClear (O, V, Wv, K, kp, kv, rfd) p0 ∧ MGm G M1 a S th1 (S_viewClear (O, V, Wv, K, kp, kv, rfd) p0)) ∨ (th1 ≠ 0 ∧ ((th1 = 1 ∧ ¬ (0 ≤ p0 ∧ p0 ≤ 3 ∧ opN (Wv p0.toNat) = 1))) ∧ MGm G M1 a S th1 (O, V, Wv, K, kp, kv, rfd)))) := by
  refine x_intro (cc := cX5_viewClear) (maxL := 2) (ret := (some .int)) (by decide +kernel) rfl (Nat.le_of_ble_eq_true rfl) ?_
  intro p e R s m args below meth c ls hRf hRc hRs hRl hC hw hl
  have hsc0 := hR.sc
  have hinX5 : ∀ w ∈ wsX50, w ∈ wsX5_viewClear := by decide +kernel
  have hl : lv_has ls 2 [(0, .ref a), (1, .int (iN (p0)))] := hl
  refine lv_aload_n hC.1 hC.2.1 dX5_viewClear_0 rfl (lv_at hl 0 rfl) ?_
  refine lv_aload_n hC.1 hC.2.1 dX5_viewClear_1 rfl (lv_at hl 0 rfl) ?_
  refine lv_iload_n hC.1 hC.2.1 dX5_viewClear_2 rfl (lv_at hl 1 rfl) ?_
  refine x_callV hC hw (lv_size hl) (c_X5_isNoView l G hR (p0 := p0) (by omega)) gX5_viewClear_X5_isNoView rfl dv_X5_isNoView hR.1.1 rfl rfl (Nat.le_of_ble_eq_true rfl) (by rw [hRf]; decide) (by rw [hRl]; decide) (by omega) (by omega) dX5_viewClear_3 (fun r9 M_1 H locs hq hw => ?_)
  obtain ⟨z_2, rfl, hM9, hz_2a, hz_2b, hz_2n⟩ := hq
  rw [hM9] at hw
  show W p l e R s m args below meth c H locs _ _ _ (F0 m 6 ls [.int (iN (z_2)), .ref a])
  refine x_const hC dX5_viewClear_6 ?_
  refine x_callV hC hw (lv_size hl) (c_X5_start l G hR (p0 := z_2) (by omega) (p1 := 1) (by omega) (by omega)) gX5_viewClear_X5_start rfl dv_X5_start hR.1.1 rfl rfl (Nat.le_of_ble_eq_true rfl) (by rw [hRf]; decide) (by rw [hRl]; decide) (by omega) (by omega) dX5_viewClear_7 (fun r9 M_3 H locs hq hw => ?_)
  obtain ⟨z_5, thk_4, rfl, hz_5a, hz_5b, hz_5c0, hz_5c1, hx5k_4, hRk_4⟩ := hq
  have hsck_4 := hRk_4.sc
  show W p l e R s m args below meth c H locs _ _ _ (F0 m 10 ls [.int (iN (z_5))])
  refine x_if_eq (tgt := 15) hC ⟨by omega, by omega⟩ dX5_viewClear_10 (by decide) (fun c_6 => ?_) (fun c_6 => ?_)
  · refine lv_aload_n hC.1 hC.2.1 dX5_viewClear_15 rfl (lv_at hl 0 rfl) ?_
    refine lv_aload_n hC.1 hC.2.1 dX5_viewClear_16 rfl (lv_at hl 0 rfl) ?_
    refine x_get hC hw hRk_4.1.1 rfl hinX5 5 (by decide) (by decide +kernel) rfl dX5_viewClear_17 ?_
    refine lv_iload_n hC.1 hC.2.1 dX5_viewClear_20 rfl (lv_at hl 1 rfl) ?_
    refine x_ald4 hC hw hRk_4.1.2.2.2.2.1 (by omega) (by omega) (by omega) dX5_viewClear_21 ?_
    obtain ⟨y_7, hy_8⟩ := x_some (hz_2n (by omega))
    rw [hy_8]
    obtain ⟨ti_9, fi_9, hui_9, hIi_9⟩ := (hRk_4.vw (show (p0).toNat < 4 by omega)).yes hy_8
    obtain ⟨htat_10, htbt_10, htct_10, htdt_10, htet_10⟩ := id hIi_9.2.1
    show W p l e R s m args below meth c _ _ _ _ _ (F0 m 22 ls [.ref y_7, .ref a])
    refine x_const hC dX5_viewClear_22 ?_
    refine x_ialdE (x := ((ti_9.b : Nat) : Int)) hC hw hIi_9.1 (by omega) (by omega) (by omega) dX5_viewClear_23 hIi_9.2.2.1 ?_
    refine x_callV hC hw (lv_size hl) (c_X5_touch l G hRk_4 (p0 := ((ti_9.b : Nat) : Int)) (by omega) (by omega)) gX5_viewClear_X5_touch rfl dv_X5_touch hRk_4.1.1 rfl rfl (Nat.le_of_ble_eq_true rfl) (by rw [hRf]; decide) (by rw [hRl]; decide) (by omega) (by omega) dX5_viewClear_24 (fun r9 M_11 H locs hq hw => ?_)
    simp only [Int.toNat_natCast] at hq
    obtain ⟨hak_12, rfl, he0k_12, hx5k_12, hRk_12⟩ := hq
    have h_13 := hIi_9.x5 hx5k_12
    have hsck_12 := hRk_12.sc
    show W p l e R s m args below meth c H locs _ _ _ (F0 m 27 ls [])
    refine lv_aload_n hC.1 hC.2.1 dX5_viewClear_27 rfl (lv_at hl 0 rfl) ?_
    refine lv_aload_n hC.1 hC.2.1 dX5_viewClear_28 rfl (lv_at hl 0 rfl) ?_
    refine x_get hC hw hRk_12.1.1 rfl hinX5 5 (by decide) (by decide +kernel) rfl dX5_viewClear_29 ?_
    refine lv_iload_n hC.1 hC.2.1 dX5_viewClear_32 rfl (lv_at hl 1 rfl) ?_
    refine x_ald4 hC hw hRk_12.1.2.2.2.2.1 (by omega) (by omega) (by omega) dX5_viewClear_33 ?_
    rw [hy_8]
    show W p l e R s m args below meth c _ _ _ _ _ (F0 m 34 ls [.ref y_7, .ref a])
    refine x_callV hC hw (lv_size hl) (c_X5_strikeAll l G hRk_12 h_13) gX5_viewClear_X5_strikeAll rfl dv_X5_strikeAll hRk_12.1.1 rfl rfl (Nat.le_of_ble_eq_true rfl) (by rw [hRf]; decide) (by rw [hRl]; decide) (by omega) (by omega) dX5_viewClear_34 (fun r9 M_14 H locs hq hw => ?_)
    obtain ⟨z_16, brk_15, Vk_15, rfl, hz_16a, hz_16m, he0k_15, he1k_15, hx5k_15, hRk_15⟩ := hq
    have h_17 := h_13.x5 hx5k_15
    have hsck_15 := hRk_15.sc
    show W p l e R s m args below meth c H locs _ _ _ (F0 m 37 ls [.int (iN (z_16))])
    exact x_iret hC hw dX5_viewClear_37 (by omega) (by omega) ⟨z_16, _, rfl, by omega, Or.inl ⟨by omega, by first | trivial | omega, (by rw [A_viewClear, show tvW (ST.W (O, V, Wv, K, kp, kv, rfd)) p0.toNat = ti_9 from tvW_some hui_9]; exact hz_16m), (by rw [S_viewClear, show tvW (ST.W (O, V, Wv, K, kp, kv, rfd)) p0.toNat = ti_9 from tvW_some hui_9]; exact MGm.mut he1k_15 hRk_15 hK (bl_map he0k_15) he0k_12 rfl)⟩⟩
  · refine x_const hC dX5_viewClear_13 ?_
    exact x_iret hC hw dX5_viewClear_14 (by omega) (by omega) ⟨0, _, rfl, by omega, Or.inr ⟨by omega, by omega, MGm.of hRk_4 hK⟩⟩
set_option maxHeartbeats 4000000 in
set_option maxRecDepth 100000 in
theorem c_X5_walk (l : Launch) (G : xG) {M : HM} {a va oa wa ya : Nat} {wk : Option Nat} {th : Int} {rfd : Int32} {br re la ha : Int} {kp kv : Int32} {qv qw : Nat → Nat} {fa fb : Nat → Option Nat} {V : BW} {O : OW} {fy : Nat → Option Nat} {Wv : VW} {wt : Option VT} {S : Nat → Bool} (hR : MGx G M a va oa wa ya wk th rfd br re la ha kp kv qv qw fa fb V O fy Wv wt S) {K : WA} (hK : abM O wt br re la ha K) {p0 : Int} (hp0 : -2147483648 ≤ p0 ∧ p0 ≤ 2147483647) : xMet l G yX5_walk wsX5_walk 4 90 1 5 [.ref a, .int (iN (p0))] M (fun r M1 => ∃ (z th1 : Int), r = some (.int (iN z)) ∧ (-2147483648 ≤ z ∧ z ≤ 2147483647) ∧ ((th1 = 0 ∧ ((0 ≤ p0 ∧ p0 ≤ 2)) ∧ z = A_walk (O, V, Wv, K, kp, kv, rfd) p0 ∧ MGm G M1 a S th1 (S_walk (O, V, Wv, K, kp, kv, rfd) p0)) ∨ (th1 ≠ 0 ∧ ((th1 = 1 ∧ ¬ (0 ≤ p0 ∧ p0 ≤ 2))) ∧ MGm G M1 a S th1 (O, V, Wv, K, kp, kv, rfd)))) := by
  refine x_intro (cc := cX5_walk) (maxL := 2) (ret := (some .int)) (by decide +kernel) rfl (Nat.le_of_ble_eq_true rfl) ?_
  intro p e R s m args below meth c ls hRf hRc hRs hRl hC hw hl
  have hsc0 := hR.sc
  have hinX5 : ∀ w ∈ wsX50, w ∈ wsX5_walk := by decide +kernel
  have hl : lv_has ls 2 [(0, .ref a), (1, .int (iN (p0)))] := hl
  refine lv_aload_n hC.1 hC.2.1 dX5_walk_0 rfl (lv_at hl 0 rfl) ?_
  refine lv_iload_n hC.1 hC.2.1 dX5_walk_1 rfl (lv_at hl 1 rfl) ?_
  refine x_callS hC hw (lv_size hl) (c_X5_isNoBook l G (M := M) (p0 := p0) (by omega)) gX5_walk_X5_isNoBook rfl dv_X5_isNoBook_s rfl (Nat.le_of_ble_eq_true rfl) (by rw [hRf]; decide) (by rw [hRl]; decide) (by omega) (by omega) dX5_walk_2 (fun r9 M_1 H locs hq hw => ?_)
  obtain ⟨z_2, rfl, hM9, hz_2a, hz_2b⟩ := hq
  rw [hM9] at hw
  show W p l e R s m args below meth c H locs _ _ _ (F0 m 5 ls [.int (iN (z_2)), .ref a])
  refine x_const hC dX5_walk_5 ?_
  refine x_callV hC hw (lv_size hl) (c_X5_start l G hR (p0 := z_2) (by omega) (p1 := 1) (by omega) (by omega)) gX5_walk_X5_start rfl dv_X5_start hR.1.1 rfl rfl (Nat.le_of_ble_eq_true rfl) (by rw [hRf]; decide) (by rw [hRl]; decide) (by omega) (by omega) dX5_walk_6 (fun r9 M_3 H locs hq hw => ?_)
  obtain ⟨z_5, thk_4, rfl, hz_5a, hz_5b, hz_5c0, hz_5c1, hx5k_4, hRk_4⟩ := hq
  have hsck_4 := hRk_4.sc
  show W p l e R s m args below meth c H locs _ _ _ (F0 m 9 ls [.int (iN (z_5))])
  refine x_if_eq (tgt := 14) hC ⟨by omega, by omega⟩ dX5_walk_9 (by decide) (fun c_6 => ?_) (fun c_6 => ?_)
  · refine lv_aload_n hC.1 hC.2.1 dX5_walk_14 rfl (lv_at hl 0 rfl) ?_
    refine lv_iload_n hC.1 hC.2.1 dX5_walk_15 rfl (lv_at hl 1 rfl) ?_
    refine x_callS hC hw (lv_size hl) (c_X5_whole l G (M := M_3) (p0 := p0) (by omega) (by omega)) gX5_walk_X5_whole rfl dv_X5_whole_s rfl (Nat.le_of_ble_eq_true rfl) (by rw [hRf]; decide) (by rw [hRl]; decide) (by omega) (by omega) dX5_walk_16 (fun r9 M_7 H locs hq hw => ?_)
    obtain ⟨qk_8, fk_8, rfl, hxk_8, hIk_8⟩ := hq
    have h_9 := hRk_4.ext hxk_8
    obtain ⟨htat_10, htbt_10, htct_10, htdt_10, htet_10⟩ := id hIk_8.2.1
    have holk_8 := h_9.or' hIk_8.2.1.1
    show W p l e R s m args below meth c H locs _ _ _ (F0 m 19 ls [.ref qk_8, .ref a])
    refine x_callV hC hw (lv_size hl) (c_X5_begin l G h_9 hIk_8) gX5_walk_X5_begin rfl dv_X5_begin h_9.1.1 rfl rfl (Nat.le_of_ble_eq_true rfl) (by rw [hRf]; decide) (by rw [hRl]; decide) (by omega) (by omega) dX5_walk_19 (fun r9 M_11 H locs hq hw => ?_)
    obtain ⟨rfl, hx5k_12, hRk_12⟩ := hq
    have h_13 := hIk_8.x5 hx5k_12
    show W p l e R s m args below meth c H locs _ _ _ (F0 m 22 ls [])
    refine lv_aload_n hC.1 hC.2.1 dX5_walk_22 rfl (lv_at hl 0 rfl) ?_
    refine lv_aload_n hC.1 hC.2.1 dX5_walk_23 rfl (lv_at hl 0 rfl) ?_
    refine x_get hC hw hRk_12.1.1 rfl hinX5 6 (by decide) (by decide +kernel) rfl dX5_walk_24 ?_
    show W p l e R s m args below meth c _ _ _ _ _ (F0 m 27 ls [.ref qk_8, .ref a])
    refine x_callV hC hw (lv_size hl) (c_X5_many l G hRk_12 h_13) gX5_walk_X5_many rfl dv_X5_many hRk_12.1.1 rfl rfl (Nat.le_of_ble_eq_true rfl) (by rw [hRf]; decide) (by rw [hRl]; decide) (by omega) (by omega) dX5_walk_27 (fun r9 M_14 H locs hq hw => ?_)
    obtain ⟨z_15, rfl, hM9, hz_15a, hz_15m⟩ := hq
    rw [hM9] at hw
    show W p l e R s m args below meth c H locs _ _ _ (F0 m 30 ls [.int (iN (z_15))])
    exact x_iret hC hw dX5_walk_30 (by omega) (by omega) ⟨z_15, _, rfl, by omega, Or.inl ⟨by omega, by first | trivial | omega, hz_15m, (MGm.of hRk_12 abM_new)⟩⟩
  · refine x_const hC dX5_walk_12 ?_
    exact x_iret hC hw dX5_walk_13 (by omega) (by omega) ⟨0, _, rfl, by omega, Or.inr ⟨by omega, by omega, MGm.of hRk_4 hK⟩⟩
set_option maxHeartbeats 4000000 in
set_option maxRecDepth 100000 in
theorem c_X5_viewWalk (l : Launch) (G : xG) {M : HM} {a va oa wa ya : Nat} {wk : Option Nat} {th : Int} {rfd : Int32} {br re la ha : Int} {kp kv : Int32} {qv qw : Nat → Nat} {fa fb : Nat → Option Nat} {V : BW} {O : OW} {fy : Nat → Option Nat} {Wv : VW} {wt : Option VT} {S : Nat → Bool} (hR : MGx G M a va oa wa ya wk th rfd br re la ha kp kv qv qw fa fb V O fy Wv wt S) {K : WA} (hK : abM O wt br re la ha K) {p0 : Int} (hp0 : -2147483648 ≤ p0 ∧ p0 ≤ 2147483647) : xMet l G yX5_viewWalk wsX5_viewWalk 4 90 1 5 [.ref a, .int (iN (p0))] M (fun r M1 => ∃ (z th1 : Int), r = some (.int (iN z)) ∧ (-2147483648 ≤ z ∧ z ≤ 2147483647) ∧ ((th1 = 0 ∧ ((0 ≤ p0 ∧ p0 ≤ 3 ∧ opN (Wv p0.toNat) = 1)) ∧ z = A_viewWalk (O, V, Wv, K, kp, kv, rfd) p0 ∧ MGm G M1 a S th1 (S_viewWalk (O, V, Wv, K, kp, kv, rfd) p0)) ∨ (th1 ≠ 0 ∧ ((th1 = 1 ∧ ¬ (0 ≤ p0 ∧ p0 ≤ 3 ∧ opN (Wv p0.toNat) = 1))) ∧ MGm G M1 a S th1 (O, V, Wv, K, kp, kv, rfd)))) := by
  refine x_intro (cc := cX5_viewWalk) (maxL := 2) (ret := (some .int)) (by decide +kernel) rfl (Nat.le_of_ble_eq_true rfl) ?_
  intro p e R s m args below meth c ls hRf hRc hRs hRl hC hw hl
  have hsc0 := hR.sc
  have hinX5 : ∀ w ∈ wsX50, w ∈ wsX5_viewWalk := by decide +kernel
  have hl : lv_has ls 2 [(0, .ref a), (1, .int (iN (p0)))] := hl
  refine lv_aload_n hC.1 hC.2.1 dX5_viewWalk_0 rfl (lv_at hl 0 rfl) ?_
  refine lv_aload_n hC.1 hC.2.1 dX5_viewWalk_1 rfl (lv_at hl 0 rfl) ?_
  refine lv_iload_n hC.1 hC.2.1 dX5_viewWalk_2 rfl (lv_at hl 1 rfl) ?_
  refine x_callV hC hw (lv_size hl) (c_X5_isNoView l G hR (p0 := p0) (by omega)) gX5_viewWalk_X5_isNoView rfl dv_X5_isNoView hR.1.1 rfl rfl (Nat.le_of_ble_eq_true rfl) (by rw [hRf]; decide) (by rw [hRl]; decide) (by omega) (by omega) dX5_viewWalk_3 (fun r9 M_1 H locs hq hw => ?_)
  obtain ⟨z_2, rfl, hM9, hz_2a, hz_2b, hz_2n⟩ := hq
  rw [hM9] at hw
  show W p l e R s m args below meth c H locs _ _ _ (F0 m 6 ls [.int (iN (z_2)), .ref a])
  refine x_const hC dX5_viewWalk_6 ?_
  refine x_callV hC hw (lv_size hl) (c_X5_start l G hR (p0 := z_2) (by omega) (p1 := 1) (by omega) (by omega)) gX5_viewWalk_X5_start rfl dv_X5_start hR.1.1 rfl rfl (Nat.le_of_ble_eq_true rfl) (by rw [hRf]; decide) (by rw [hRl]; decide) (by omega) (by omega) dX5_viewWalk_7 (fun r9 M_3 H locs hq hw => ?_)
  obtain ⟨z_5, thk_4, rfl, hz_5a, hz_5b, hz_5c0, hz_5c1, hx5k_4, hRk_4⟩ := hq
  have hsck_4 := hRk_4.sc
  show W p l e R s m args below meth c H locs _ _ _ (F0 m 10 ls [.int (iN (z_5))])
  refine x_if_eq (tgt := 15) hC ⟨by omega, by omega⟩ dX5_viewWalk_10 (by decide) (fun c_6 => ?_) (fun c_6 => ?_)
  · refine lv_aload_n hC.1 hC.2.1 dX5_viewWalk_15 rfl (lv_at hl 0 rfl) ?_
    refine lv_aload_n hC.1 hC.2.1 dX5_viewWalk_16 rfl (lv_at hl 0 rfl) ?_
    refine x_get hC hw hRk_4.1.1 rfl hinX5 5 (by decide) (by decide +kernel) rfl dX5_viewWalk_17 ?_
    refine lv_iload_n hC.1 hC.2.1 dX5_viewWalk_20 rfl (lv_at hl 1 rfl) ?_
    refine x_ald4 hC hw hRk_4.1.2.2.2.2.1 (by omega) (by omega) (by omega) dX5_viewWalk_21 ?_
    obtain ⟨y_7, hy_8⟩ := x_some (hz_2n (by omega))
    rw [hy_8]
    obtain ⟨ti_9, fi_9, hui_9, hIi_9⟩ := (hRk_4.vw (show (p0).toNat < 4 by omega)).yes hy_8
    obtain ⟨htat_10, htbt_10, htct_10, htdt_10, htet_10⟩ := id hIi_9.2.1
    show W p l e R s m args below meth c _ _ _ _ _ (F0 m 22 ls [.ref y_7, .ref a])
    refine x_clone1 hC hw (lv_size hl) hIi_9.1 (by decide +kernel) (by decide +kernel) (by decide +kernel) (by decide +kernel) (by decide +kernel) (by rw [hRf]; decide) (by rw [hRl]; exact Nat.le_of_ble_eq_true rfl) (by omega) (by omega) dX5_viewWalk_22 (fun q_11 H hq_12 hw => ?_)
    obtain ⟨M_13, hM_14⟩ : ∃ z, z = va_up M_3 q_11 (some (.inl (G.2 1, 5, .inl fi_9))) := ⟨_, rfl⟩
    rw [← hM_14] at hw
    have hx_15 : xExt M_3 M_13 := by rw [hM_14]; exact xExt.new hq_12
    have hI_16 : Its G M_13 q_11 fi_9 ti_9 := ⟨by rw [hM_14, va_up_self], hIi_9.2⟩
    have h_17 := hRk_4.ext hx_15
    have h_18 := hIi_9.x5 (xExt.x5 hx_15)
    refine x_castI hC hw hI_16.1 (by decide +kernel) dX5_viewWalk_25 ?_
    refine x_callV hC hw (lv_size hl) (c_X5_begin l G h_17 hI_16) gX5_viewWalk_X5_begin rfl dv_X5_begin h_17.1.1 rfl rfl (Nat.le_of_ble_eq_true rfl) (by rw [hRf]; decide) (by rw [hRl]; decide) (by omega) (by omega) dX5_viewWalk_28 (fun r9 M_19 H locs hq hw => ?_)
    obtain ⟨rfl, hx5k_20, hRk_20⟩ := hq
    have h_21 := h_18.x5 hx5k_20
    have h_22 := hI_16.x5 hx5k_20
    show W p l e R s m args below meth c H locs _ _ _ (F0 m 31 ls [])
    refine lv_aload_n hC.1 hC.2.1 dX5_viewWalk_31 rfl (lv_at hl 0 rfl) ?_
    refine lv_aload_n hC.1 hC.2.1 dX5_viewWalk_32 rfl (lv_at hl 0 rfl) ?_
    refine x_get hC hw hRk_20.1.1 rfl hinX5 6 (by decide) (by decide +kernel) rfl dX5_viewWalk_33 ?_
    show W p l e R s m args below meth c _ _ _ _ _ (F0 m 36 ls [.ref q_11, .ref a])
    refine x_callV hC hw (lv_size hl) (c_X5_many l G hRk_20 h_22) gX5_viewWalk_X5_many rfl dv_X5_many hRk_20.1.1 rfl rfl (Nat.le_of_ble_eq_true rfl) (by rw [hRf]; decide) (by rw [hRl]; decide) (by omega) (by omega) dX5_viewWalk_36 (fun r9 M_23 H locs hq hw => ?_)
    obtain ⟨z_24, rfl, hM9, hz_24a, hz_24m⟩ := hq
    rw [hM9] at hw
    show W p l e R s m args below meth c H locs _ _ _ (F0 m 39 ls [.int (iN (z_24))])
    exact x_iret hC hw dX5_viewWalk_39 (by omega) (by omega) ⟨z_24, _, rfl, by omega, Or.inl ⟨by omega, by first | trivial | omega, (by rw [A_viewWalk, show tvW (ST.W (O, V, Wv, K, kp, kv, rfd)) p0.toNat = ti_9 from tvW_some hui_9]; exact hz_24m), (by rw [S_viewWalk, show tvW (ST.W (O, V, Wv, K, kp, kv, rfd)) p0.toNat = ti_9 from tvW_some hui_9]; exact MGm.of hRk_20 abM_new)⟩⟩
  · refine x_const hC dX5_viewWalk_13 ?_
    exact x_iret hC hw dX5_viewWalk_14 (by omega) (by omega) ⟨0, _, rfl, by omega, Or.inr ⟨by omega, by omega, MGm.of hRk_4 hK⟩⟩
set_option maxHeartbeats 4000000 in
set_option maxRecDepth 100000 in
theorem c_X5_step (l : Launch) (G : xG) {M : HM} {a va oa wa ya : Nat} {wk : Option Nat} {th : Int} {rfd : Int32} {br re la ha : Int} {kp kv : Int32} {qv qw : Nat → Nat} {fa fb : Nat → Option Nat} {V : BW} {O : OW} {fy : Nat → Option Nat} {Wv : VW} {wt : Option VT} {S : Nat → Bool} (hR : MGx G M a va oa wa ya wk th rfd br re la ha kp kv qv qw fa fb V O fy Wv wt S) {K : WA} (hK : abM O wt br re la ha K) : xMet l G yX5_step wsX5_step 4 93 0 0 [.ref a] M (fun r M1 => ∃ (z th1 : Int), r = some (.int (iN z)) ∧ (-2147483648 ≤ z ∧ z ≤ 2147483647) ∧ ((th1 = 0 ∧ ((kS (K) = 1)) ∧ z = A_step (O, V, Wv, K, kp, kv, rfd) ∧ MGm G M1 a S th1 (S_step (O, V, Wv, K, kp, kv, rfd))) ∨ (th1 ≠ 0 ∧ ((th1 = 1 ∧ ¬ (kS (K) = 1))) ∧ MGm G M1 a S th1 (O, V, Wv, K, kp, kv, rfd)))) := by
  refine x_intro (cc := cX5_step) (maxL := 2) (ret := (some .int)) (by decide +kernel) rfl (Nat.le_of_ble_eq_true rfl) ?_
  intro p e R s m args below meth c ls hRf hRc hRs hRl hC hw hl
  have hsc0 := hR.sc
  have hinX5 : ∀ w ∈ wsX50, w ∈ wsX5_step := by decide +kernel
  have hl : lv_has ls 2 [(0, .ref a)] := hl
  refine lv_aload_n hC.1 hC.2.1 dX5_step_0 rfl (lv_at hl 0 rfl) ?_
  refine lv_aload_n hC.1 hC.2.1 dX5_step_1 rfl (lv_at hl 0 rfl) ?_
  refine x_get hC hw hR.1.1 rfl hinX5 6 (by decide) (by decide +kernel) rfl dX5_step_2 ?_
  rcases wk with _ | w_1
  · have hwt_2 := hR.wk'.nil rfl
    subst hwt_2
    have hkn := abM_none hK
    subst hkn
    have hks0 := kS_nil
    show W p l e R s m args below meth c _ _ _ _ _ (F0 m 5 ls [.null, .ref a])
    refine lv_ifnullN (tgt := 15) hC.1 hC.2.1 dX5_step_5 (by decide) ?_
    refine x_const hC dX5_step_15 ?_
    refine lv_goto (tgt := 20) hC.1 hC.2.1 dX5_step_16 (by decide) ?_
    refine x_const hC dX5_step_20 ?_
    refine x_callV hC hw (lv_size hl) (c_X5_start l G hR (p0 := 1) (by omega) (p1 := 1) (by omega) (by omega)) gX5_step_X5_start rfl dv_X5_start hR.1.1 rfl rfl (Nat.le_of_ble_eq_true rfl) (by rw [hRf]; decide) (by rw [hRl]; decide) (by omega) (by omega) dX5_step_21 (fun r9 M_3 H locs hq hw => ?_)
    obtain ⟨z_5, thk_4, rfl, hz_5a, hz_5b, hz_5c0, hz_5c1, hx5k_4, hRk_4⟩ := hq
    have hsck_4 := hRk_4.sc
    show W p l e R s m args below meth c H locs _ _ _ (F0 m 24 ls [.int (iN (z_5))])
    refine x_if_eq (tgt := 29) hC ⟨by omega, by omega⟩ dX5_step_24 (by decide) (fun c_6 => ?_) (fun c_6 => ?_)
    · refine lv_aload_n hC.1 hC.2.1 dX5_step_29 rfl (lv_at hl 0 rfl) ?_
      refine lv_aload_n hC.1 hC.2.1 dX5_step_30 rfl (lv_at hl 0 rfl) ?_
      refine x_get hC hw hRk_4.1.1 rfl hinX5 6 (by decide) (by decide +kernel) rfl dX5_step_31 ?_
      show W p l e R s m args below meth c _ _ _ _ _ (F0 m 34 ls [.null, .ref a])
      refine lv_aload_n hC.1 hC.2.1 dX5_step_34 rfl (lv_at hl 0 rfl) ?_
      refine x_get hC hw hRk_4.1.1 rfl hinX5 8 (by decide) (by decide +kernel) rfl dX5_step_35 ?_
      have sc_7 := hRk_4.sc
      refine x_const hC dX5_step_38 ?_
      exfalso; omega
    · refine x_const hC dX5_step_27 ?_
      exact x_iret hC hw dX5_step_28 (by omega) (by omega) ⟨0, _, rfl, by omega, Or.inr ⟨by omega, by omega, MGm.of hRk_4 hK⟩⟩
  · obtain ⟨ti_8, fi_8, hui_8, hIi_8⟩ := hR.wk'.yes rfl
    obtain ⟨htat_9, htbt_9, htct_9, htdt_9, htet_9⟩ := id hIi_8.2.1
    subst hui_8
    obtain ⟨ps9, cd9, hd9, hkn, hre9, hla9, hha9, hcd9, hhd9, hhc9, hcp9, hps9⟩ := abM_some hK
    subst hkn
    have hks9 := kS_some (t := ti_8) (ps := ps9) (cd := cd9) (hd := hd9) (br := br)
    show W p l e R s m args below meth c _ _ _ _ _ (F0 m 5 ls [.ref w_1, .ref a])
    refine lv_ifnull hC.1 hC.2.1 dX5_step_5 ?_
    refine lv_aload_n hC.1 hC.2.1 dX5_step_8 rfl (lv_at hl 0 rfl) ?_
    refine x_get hC hw hR.1.1 rfl hinX5 7 (by decide) (by decide +kernel) rfl dX5_step_9 ?_
    have sc_10 := hR.sc
    refine x_if_eq (tgt := 19) hC ⟨by omega, by omega⟩ dX5_step_12 (by decide) (fun c_11 => ?_) (fun c_11 => ?_)
    · refine x_const hC dX5_step_19 ?_
      refine x_const hC dX5_step_20 ?_
      refine x_callV hC hw (lv_size hl) (c_X5_start l G hR (p0 := 0) (by omega) (p1 := 1) (by omega) (by omega)) gX5_step_X5_start rfl dv_X5_start hR.1.1 rfl rfl (Nat.le_of_ble_eq_true rfl) (by rw [hRf]; decide) (by rw [hRl]; decide) (by omega) (by omega) dX5_step_21 (fun r9 M_12 H locs hq hw => ?_)
      obtain ⟨z_14, thk_13, rfl, hz_14a, hz_14b, hz_14c0, hz_14c1, hx5k_13, hRk_13⟩ := hq
      have h_15 := hIi_8.x5 hx5k_13
      have hsck_13 := hRk_13.sc
      show W p l e R s m args below meth c H locs _ _ _ (F0 m 24 ls [.int (iN (z_14))])
      refine x_if_eq (tgt := 29) hC ⟨by omega, by omega⟩ dX5_step_24 (by decide) (fun c_16 => ?_) (fun c_16 => ?_)
      · refine lv_aload_n hC.1 hC.2.1 dX5_step_29 rfl (lv_at hl 0 rfl) ?_
        refine lv_aload_n hC.1 hC.2.1 dX5_step_30 rfl (lv_at hl 0 rfl) ?_
        refine x_get hC hw hRk_13.1.1 rfl hinX5 6 (by decide) (by decide +kernel) rfl dX5_step_31 ?_
        show W p l e R s m args below meth c _ _ _ _ _ (F0 m 34 ls [.ref w_1, .ref a])
        refine lv_aload_n hC.1 hC.2.1 dX5_step_34 rfl (lv_at hl 0 rfl) ?_
        refine x_get hC hw hRk_13.1.1 rfl hinX5 8 (by decide) (by decide +kernel) rfl dX5_step_35 ?_
        have sc_17 := hRk_13.sc
        refine x_const hC dX5_step_38 ?_
        refine x_callV hC hw (lv_size hl) (c_X5_closest l G hRk_13 h_15 (p0 := re) (by omega) (p1 := 1) (by omega) (by omega)) gX5_step_X5_closest rfl dv_X5_closest hRk_13.1.1 rfl rfl (Nat.le_of_ble_eq_true rfl) (by rw [hRf]; decide) (by rw [hRl]; decide) (by omega) (by omega) dX5_step_39 (fun r9 M_18 H locs hq hw => ?_)
        obtain ⟨z_19, rfl, hM9, hz_19a, hz_19S, hz_19c⟩ := hq
        rw [hM9] at hw
        show W p l e R s m args below meth c H locs _ _ _ (F0 m 42 ls [.int (iN (z_19))])
        refine lv_istore_n (lv' := [(1, .int (iN (z_19))), (0, .ref a)]) hC.1 hC.2.1 dX5_step_42 rfl hl (by decide) rfl (fun ls hl => ?_)
        refine lv_iload_n hC.1 hC.2.1 dX5_step_43 rfl (lv_at hl 0 rfl) ?_
        refine x_sipush hC dX5_step_44 (by decide +kernel) ?_
        refine x_icmp_ne (tgt := 54) hC ⟨by omega, by omega⟩ ⟨by omega, by omega⟩ dX5_step_47 (by decide) (fun c_20 => ?_) (fun c_20 => ?_)
        · refine lv_aload_n hC.1 hC.2.1 dX5_step_54 rfl (lv_at hl 1 rfl) ?_
          refine lv_aload_n hC.1 hC.2.1 dX5_step_55 rfl (lv_at hl 1 rfl) ?_
          refine lv_aload_n hC.1 hC.2.1 dX5_step_56 rfl (lv_at hl 1 rfl) ?_
          refine x_get hC hw hRk_13.1.1 rfl hinX5 6 (by decide) (by decide +kernel) rfl dX5_step_57 ?_
          show W p l e R s m args below meth c _ _ _ _ _ (F0 m 60 ls [.ref w_1, .ref a, .ref a])
          refine lv_iload_n hC.1 hC.2.1 dX5_step_60 rfl (lv_at hl 0 rfl) ?_
          refine x_callV hC hw (lv_size hl) (c_X5_weight l G hRk_13 h_15 (p0 := z_19) (by omega) (by omega)) gX5_step_X5_weight rfl dv_X5_weight hRk_13.1.1 rfl rfl (Nat.le_of_ble_eq_true rfl) (by rw [hRf]; decide) (by rw [hRl]; decide) (by omega) (by omega) dX5_step_61 (fun r9 M_21 H locs hq hw => ?_)
          obtain ⟨z_22, rfl, hM9, hz_22a, hz_22b⟩ := hq
          rw [hM9] at hw
          show W p l e R s m args below meth c H locs _ _ _ (F0 m 64 ls [.int (iN (z_22)), .ref a])
          refine x_put (fs2 := [.int (iN (thk_13)), .int rfd, .ref va, .ref oa, .ref wa, .ref ya, .ref w_1, .int (iN (br)), .int (iN (z_22)), .int (iN (la)), .int (iN (ha)), .int kp, .int kv]) hC hw hRk_13.1.1 rfl hinX5 tyX5 tyX5_ok nmX5 8 (by decide) (by decide +kernel) rfl rfl rfl (Nat.le_of_ble_eq_true rfl) rfl dX5_step_64 (fun H locs hw => ?_)
          obtain ⟨M_23, hM_24⟩ : ∃ z, z = va_up M_12 a (some (.inr (7, [.int (iN (thk_13)), .int rfd, .ref va, .ref oa, .ref wa, .ref ya, .ref w_1, .int (iN (br)), .int (iN (z_22)), .int (iN (la)), .int (iN (ha)), .int kp, .int kv]))) := ⟨_, rfl⟩
          rw [← hM_24] at hw
          have hR_25 : MGx G M_23 a va oa wa ya (some w_1) thk_13 rfd br z_22 la ha kp kv qv qw fa fb V O fy Wv (some ti_8) S := hRk_13.obj hM_24 (by have e9 := hRk_13.sc; omega) hRk_13.wk'
          have h_26 := h_15.x5 (hRk_13.obj5 hM_24)
          refine lv_aload_n hC.1 hC.2.1 dX5_step_67 rfl (lv_at hl 1 rfl) ?_
          refine lv_iload_n hC.1 hC.2.1 dX5_step_68 rfl (lv_at hl 0 rfl) ?_
          refine x_put (fs2 := [.int (iN (thk_13)), .int rfd, .ref va, .ref oa, .ref wa, .ref ya, .ref w_1, .int (iN (br)), .int (iN (z_22)), .int (iN (z_19)), .int (iN (ha)), .int kp, .int kv]) hC hw hR_25.1.1 rfl hinX5 tyX5 tyX5_ok nmX5 9 (by decide) (by decide +kernel) rfl rfl rfl (Nat.le_of_ble_eq_true rfl) rfl dX5_step_69 (fun H locs hw => ?_)
          obtain ⟨M_27, hM_28⟩ : ∃ z, z = va_up M_23 a (some (.inr (7, [.int (iN (thk_13)), .int rfd, .ref va, .ref oa, .ref wa, .ref ya, .ref w_1, .int (iN (br)), .int (iN (z_22)), .int (iN (z_19)), .int (iN (ha)), .int kp, .int kv]))) := ⟨_, rfl⟩
          rw [← hM_28] at hw
          have hR_29 : MGx G M_27 a va oa wa ya (some w_1) thk_13 rfd br z_22 z_19 ha kp kv qv qw fa fb V O fy Wv (some ti_8) S := hR_25.obj hM_28 (by have e9 := hR_25.sc; omega) hR_25.wk'
          have h_30 := h_26.x5 (hR_25.obj5 hM_28)
          refine lv_aload_n hC.1 hC.2.1 dX5_step_72 rfl (lv_at hl 1 rfl) ?_
          refine lv_iload_n hC.1 hC.2.1 dX5_step_73 rfl (lv_at hl 0 rfl) ?_
          refine x_put (fs2 := [.int (iN (thk_13)), .int rfd, .ref va, .ref oa, .ref wa, .ref ya, .ref w_1, .int (iN (br)), .int (iN (z_22)), .int (iN (z_19)), .int (iN (z_19)), .int kp, .int kv]) hC hw hR_29.1.1 rfl hinX5 tyX5 tyX5_ok nmX5 10 (by decide) (by decide +kernel) rfl rfl rfl (Nat.le_of_ble_eq_true rfl) rfl dX5_step_74 (fun H locs hw => ?_)
          obtain ⟨M_31, hM_32⟩ : ∃ z, z = va_up M_27 a (some (.inr (7, [.int (iN (thk_13)), .int rfd, .ref va, .ref oa, .ref wa, .ref ya, .ref w_1, .int (iN (br)), .int (iN (z_22)), .int (iN (z_19)), .int (iN (z_19)), .int kp, .int kv]))) := ⟨_, rfl⟩
          rw [← hM_32] at hw
          have hR_33 : MGx G M_31 a va oa wa ya (some w_1) thk_13 rfd br z_22 z_19 z_19 kp kv qv qw fa fb V O fy Wv (some ti_8) S := hR_29.obj hM_32 (by have e9 := hR_29.sc; omega) hR_29.wk'
          have h_34 := h_30.x5 (hR_29.obj5 hM_32)
          refine lv_iload_n hC.1 hC.2.1 dX5_step_77 rfl (lv_at hl 0 rfl) ?_
          exact x_iret hC hw dX5_step_78 (by omega) (by omega) ⟨z_19, _, rfl, by omega, Or.inl ⟨by omega, by first | trivial | omega, (show z_19 = clF O V ti_8 (rcW O ti_8 ps9) 1 100 by have e9 := hz_19c; rw [hre9] at e9; exact e9), (by rw [S_step, (show A_step (O, V, Wv, (some (ti_8, ps9, cd9, hd9, br)), kp, kv, rfd) = z_19 from by have e9 := hz_19c; rw [hre9] at e9; exact e9.symm), if_neg (by omega)]; exact MGm.of (K := some (ti_8, z_19, 1, 1, br)) hR_33 ⟨rfl, rfl, by rw [rcW, if_neg (by omega)]; exact hz_22b, (if_pos rfl).symm, (if_pos rfl).symm, Or.inr rfl, Or.inr rfl, fun _ => rfl, fun _ => by omega, by omega, by omega⟩)⟩⟩
        · refine x_sipush hC dX5_step_50 (by decide +kernel) ?_
          exact x_iret hC hw dX5_step_53 (by omega) (by omega) ⟨(-10000), _, rfl, by omega, Or.inl ⟨by omega, by first | trivial | omega, (show _ = clF O V ti_8 (rcW O ti_8 ps9) 1 100 by have e9 := hz_19c; rw [hre9] at e9; omega), (by rw [S_step, if_pos ((show A_step (O, V, Wv, (some (ti_8, ps9, cd9, hd9, br)), kp, kv, rfd) = z_19 from by have e9 := hz_19c; rw [hre9] at e9; exact e9.symm).trans (by omega))]; exact MGm.of hRk_13 hK)⟩⟩
      · refine x_const hC dX5_step_27 ?_
        exact x_iret hC hw dX5_step_28 (by omega) (by omega) ⟨0, _, rfl, by omega, Or.inr ⟨by omega, by omega, MGm.of hRk_13 hK⟩⟩
    · refine x_const hC dX5_step_15 ?_
      refine lv_goto (tgt := 20) hC.1 hC.2.1 dX5_step_16 (by decide) ?_
      refine x_const hC dX5_step_20 ?_
      refine x_callV hC hw (lv_size hl) (c_X5_start l G hR (p0 := 1) (by omega) (p1 := 1) (by omega) (by omega)) gX5_step_X5_start rfl dv_X5_start hR.1.1 rfl rfl (Nat.le_of_ble_eq_true rfl) (by rw [hRf]; decide) (by rw [hRl]; decide) (by omega) (by omega) dX5_step_21 (fun r9 M_35 H locs hq hw => ?_)
      obtain ⟨z_37, thk_36, rfl, hz_37a, hz_37b, hz_37c0, hz_37c1, hx5k_36, hRk_36⟩ := hq
      have h_38 := hIi_8.x5 hx5k_36
      have hsck_36 := hRk_36.sc
      show W p l e R s m args below meth c H locs _ _ _ (F0 m 24 ls [.int (iN (z_37))])
      refine x_if_eq (tgt := 29) hC ⟨by omega, by omega⟩ dX5_step_24 (by decide) (fun c_39 => ?_) (fun c_39 => ?_)
      · refine lv_aload_n hC.1 hC.2.1 dX5_step_29 rfl (lv_at hl 0 rfl) ?_
        refine lv_aload_n hC.1 hC.2.1 dX5_step_30 rfl (lv_at hl 0 rfl) ?_
        refine x_get hC hw hRk_36.1.1 rfl hinX5 6 (by decide) (by decide +kernel) rfl dX5_step_31 ?_
        show W p l e R s m args below meth c _ _ _ _ _ (F0 m 34 ls [.ref w_1, .ref a])
        refine lv_aload_n hC.1 hC.2.1 dX5_step_34 rfl (lv_at hl 0 rfl) ?_
        refine x_get hC hw hRk_36.1.1 rfl hinX5 8 (by decide) (by decide +kernel) rfl dX5_step_35 ?_
        have sc_40 := hRk_36.sc
        refine x_const hC dX5_step_38 ?_
        refine x_callV hC hw (lv_size hl) (c_X5_closest l G hRk_36 h_38 (p0 := re) (by omega) (p1 := 1) (by omega) (by omega)) gX5_step_X5_closest rfl dv_X5_closest hRk_36.1.1 rfl rfl (Nat.le_of_ble_eq_true rfl) (by rw [hRf]; decide) (by rw [hRl]; decide) (by omega) (by omega) dX5_step_39 (fun r9 M_41 H locs hq hw => ?_)
        obtain ⟨z_42, rfl, hM9, hz_42a, hz_42S, hz_42c⟩ := hq
        rw [hM9] at hw
        show W p l e R s m args below meth c H locs _ _ _ (F0 m 42 ls [.int (iN (z_42))])
        refine lv_istore_n (lv' := [(1, .int (iN (z_42))), (0, .ref a)]) hC.1 hC.2.1 dX5_step_42 rfl hl (by decide) rfl (fun ls hl => ?_)
        refine lv_iload_n hC.1 hC.2.1 dX5_step_43 rfl (lv_at hl 0 rfl) ?_
        refine x_sipush hC dX5_step_44 (by decide +kernel) ?_
        refine x_icmp_ne (tgt := 54) hC ⟨by omega, by omega⟩ ⟨by omega, by omega⟩ dX5_step_47 (by decide) (fun c_43 => ?_) (fun c_43 => ?_)
        · refine lv_aload_n hC.1 hC.2.1 dX5_step_54 rfl (lv_at hl 1 rfl) ?_
          refine lv_aload_n hC.1 hC.2.1 dX5_step_55 rfl (lv_at hl 1 rfl) ?_
          refine lv_aload_n hC.1 hC.2.1 dX5_step_56 rfl (lv_at hl 1 rfl) ?_
          refine x_get hC hw hRk_36.1.1 rfl hinX5 6 (by decide) (by decide +kernel) rfl dX5_step_57 ?_
          show W p l e R s m args below meth c _ _ _ _ _ (F0 m 60 ls [.ref w_1, .ref a, .ref a])
          refine lv_iload_n hC.1 hC.2.1 dX5_step_60 rfl (lv_at hl 0 rfl) ?_
          refine x_callV hC hw (lv_size hl) (c_X5_weight l G hRk_36 h_38 (p0 := z_42) (by omega) (by omega)) gX5_step_X5_weight rfl dv_X5_weight hRk_36.1.1 rfl rfl (Nat.le_of_ble_eq_true rfl) (by rw [hRf]; decide) (by rw [hRl]; decide) (by omega) (by omega) dX5_step_61 (fun r9 M_44 H locs hq hw => ?_)
          obtain ⟨z_45, rfl, hM9, hz_45a, hz_45b⟩ := hq
          rw [hM9] at hw
          show W p l e R s m args below meth c H locs _ _ _ (F0 m 64 ls [.int (iN (z_45)), .ref a])
          refine x_put (fs2 := [.int (iN (thk_36)), .int rfd, .ref va, .ref oa, .ref wa, .ref ya, .ref w_1, .int (iN (br)), .int (iN (z_45)), .int (iN (la)), .int (iN (ha)), .int kp, .int kv]) hC hw hRk_36.1.1 rfl hinX5 tyX5 tyX5_ok nmX5 8 (by decide) (by decide +kernel) rfl rfl rfl (Nat.le_of_ble_eq_true rfl) rfl dX5_step_64 (fun H locs hw => ?_)
          obtain ⟨M_46, hM_47⟩ : ∃ z, z = va_up M_35 a (some (.inr (7, [.int (iN (thk_36)), .int rfd, .ref va, .ref oa, .ref wa, .ref ya, .ref w_1, .int (iN (br)), .int (iN (z_45)), .int (iN (la)), .int (iN (ha)), .int kp, .int kv]))) := ⟨_, rfl⟩
          rw [← hM_47] at hw
          have hR_48 : MGx G M_46 a va oa wa ya (some w_1) thk_36 rfd br z_45 la ha kp kv qv qw fa fb V O fy Wv (some ti_8) S := hRk_36.obj hM_47 (by have e9 := hRk_36.sc; omega) hRk_36.wk'
          have h_49 := h_38.x5 (hRk_36.obj5 hM_47)
          refine lv_aload_n hC.1 hC.2.1 dX5_step_67 rfl (lv_at hl 1 rfl) ?_
          refine lv_iload_n hC.1 hC.2.1 dX5_step_68 rfl (lv_at hl 0 rfl) ?_
          refine x_put (fs2 := [.int (iN (thk_36)), .int rfd, .ref va, .ref oa, .ref wa, .ref ya, .ref w_1, .int (iN (br)), .int (iN (z_45)), .int (iN (z_42)), .int (iN (ha)), .int kp, .int kv]) hC hw hR_48.1.1 rfl hinX5 tyX5 tyX5_ok nmX5 9 (by decide) (by decide +kernel) rfl rfl rfl (Nat.le_of_ble_eq_true rfl) rfl dX5_step_69 (fun H locs hw => ?_)
          obtain ⟨M_50, hM_51⟩ : ∃ z, z = va_up M_46 a (some (.inr (7, [.int (iN (thk_36)), .int rfd, .ref va, .ref oa, .ref wa, .ref ya, .ref w_1, .int (iN (br)), .int (iN (z_45)), .int (iN (z_42)), .int (iN (ha)), .int kp, .int kv]))) := ⟨_, rfl⟩
          rw [← hM_51] at hw
          have hR_52 : MGx G M_50 a va oa wa ya (some w_1) thk_36 rfd br z_45 z_42 ha kp kv qv qw fa fb V O fy Wv (some ti_8) S := hR_48.obj hM_51 (by have e9 := hR_48.sc; omega) hR_48.wk'
          have h_53 := h_49.x5 (hR_48.obj5 hM_51)
          refine lv_aload_n hC.1 hC.2.1 dX5_step_72 rfl (lv_at hl 1 rfl) ?_
          refine lv_iload_n hC.1 hC.2.1 dX5_step_73 rfl (lv_at hl 0 rfl) ?_
          refine x_put (fs2 := [.int (iN (thk_36)), .int rfd, .ref va, .ref oa, .ref wa, .ref ya, .ref w_1, .int (iN (br)), .int (iN (z_45)), .int (iN (z_42)), .int (iN (z_42)), .int kp, .int kv]) hC hw hR_52.1.1 rfl hinX5 tyX5 tyX5_ok nmX5 10 (by decide) (by decide +kernel) rfl rfl rfl (Nat.le_of_ble_eq_true rfl) rfl dX5_step_74 (fun H locs hw => ?_)
          obtain ⟨M_54, hM_55⟩ : ∃ z, z = va_up M_50 a (some (.inr (7, [.int (iN (thk_36)), .int rfd, .ref va, .ref oa, .ref wa, .ref ya, .ref w_1, .int (iN (br)), .int (iN (z_45)), .int (iN (z_42)), .int (iN (z_42)), .int kp, .int kv]))) := ⟨_, rfl⟩
          rw [← hM_55] at hw
          have hR_56 : MGx G M_54 a va oa wa ya (some w_1) thk_36 rfd br z_45 z_42 z_42 kp kv qv qw fa fb V O fy Wv (some ti_8) S := hR_52.obj hM_55 (by have e9 := hR_52.sc; omega) hR_52.wk'
          have h_57 := h_53.x5 (hR_52.obj5 hM_55)
          refine lv_iload_n hC.1 hC.2.1 dX5_step_77 rfl (lv_at hl 0 rfl) ?_
          exact x_iret hC hw dX5_step_78 (by omega) (by omega) ⟨z_42, _, rfl, by omega, Or.inl ⟨by omega, by first | trivial | omega, (show z_42 = clF O V ti_8 (rcW O ti_8 ps9) 1 100 by have e9 := hz_42c; rw [hre9] at e9; exact e9), (by rw [S_step, (show A_step (O, V, Wv, (some (ti_8, ps9, cd9, hd9, br)), kp, kv, rfd) = z_42 from by have e9 := hz_42c; rw [hre9] at e9; exact e9.symm), if_neg (by omega)]; exact MGm.of (K := some (ti_8, z_42, 1, 1, br)) hR_56 ⟨rfl, rfl, by rw [rcW, if_neg (by omega)]; exact hz_45b, (if_pos rfl).symm, (if_pos rfl).symm, Or.inr rfl, Or.inr rfl, fun _ => rfl, fun _ => by omega, by omega, by omega⟩)⟩⟩
        · refine x_sipush hC dX5_step_50 (by decide +kernel) ?_
          exact x_iret hC hw dX5_step_53 (by omega) (by omega) ⟨(-10000), _, rfl, by omega, Or.inl ⟨by omega, by first | trivial | omega, (show _ = clF O V ti_8 (rcW O ti_8 ps9) 1 100 by have e9 := hz_42c; rw [hre9] at e9; omega), (by rw [S_step, if_pos ((show A_step (O, V, Wv, (some (ti_8, ps9, cd9, hd9, br)), kp, kv, rfd) = z_42 from by have e9 := hz_42c; rw [hre9] at e9; exact e9.symm).trans (by omega))]; exact MGm.of hRk_36 hK)⟩⟩
      · refine x_const hC dX5_step_27 ?_
        exact x_iret hC hw dX5_step_28 (by omega) (by omega) ⟨0, _, rfl, by omega, Or.inr ⟨by omega, by omega, MGm.of hRk_36 hK⟩⟩
set_option maxHeartbeats 4000000 in
set_option maxRecDepth 100000 in
theorem c_X5_write (l : Launch) (G : xG) {M : HM} {a va oa wa ya : Nat} {wk : Option Nat} {th : Int} {rfd : Int32} {br re la ha : Int} {kp kv : Int32} {qv qw : Nat → Nat} {fa fb : Nat → Option Nat} {V : BW} {O : OW} {fy : Nat → Option Nat} {Wv : VW} {wt : Option VT} {S : Nat → Bool} (hR : MGx G M a va oa wa ya wk th rfd br re la ha kp kv qv qw fa fb V O fy Wv wt S) {K : WA} (hK : abM O wt br re la ha K) {p0 : Int} (hp0 : -2147483648 ≤ p0 ∧ p0 ≤ 2147483647) (hSk : ha ≠ -10000 → S ha.toNat = true) : xMet l G yX5_write wsX5_write 2 44 0 0 [.ref a, .int (iN (p0))] M (fun r M1 => ∃ (z th1 : Int), r = some (.int (iN z)) ∧ (-2147483648 ≤ z ∧ z ≤ 2147483647) ∧ ((th1 = 0 ∧ ((-9999 ≤ p0 ∧ p0 ≤ 9999) ∧ (kS (K) = 1 ∧ kH (K) = 1)) ∧ z = A_write (O, V, Wv, K, kp, kv, rfd) p0 ∧ MGm G M1 a S th1 (S_write (O, V, Wv, K, kp, kv, rfd) p0)) ∨ (th1 ≠ 0 ∧ ((th1 = 1 ∧ ¬ (-9999 ≤ p0 ∧ p0 ≤ 9999)) ∨ (th1 = 2 ∧ (-9999 ≤ p0 ∧ p0 ≤ 9999) ∧ ¬ (kS (K) = 1 ∧ kH (K) = 1))) ∧ MGm G M1 a S th1 (O, V, Wv, K, kp, kv, rfd)))) := by
  refine x_intro (cc := cX5_write) (maxL := 2) (ret := (some .int)) (by decide +kernel) rfl (Nat.le_of_ble_eq_true rfl) ?_
  intro p e R s m args below meth c ls hRf hRc hRs hRl hC hw hl
  have hsc0 := hR.sc
  have hinX5 : ∀ w ∈ wsX50, w ∈ wsX5_write := by decide +kernel
  have hl : lv_has ls 2 [(0, .ref a), (1, .int (iN (p0)))] := hl
  refine lv_aload_n hC.1 hC.2.1 dX5_write_0 rfl (lv_at hl 0 rfl) ?_
  refine lv_iload_n hC.1 hC.2.1 dX5_write_1 rfl (lv_at hl 1 rfl) ?_
  refine x_callS hC hw (lv_size hl) (c_X5_isNoValue l G (M := M) (p0 := p0) (by omega)) gX5_write_X5_isNoValue rfl dv_X5_isNoValue_s rfl (Nat.le_of_ble_eq_true rfl) (by rw [hRf]; decide) (by rw [hRl]; decide) (by omega) (by omega) dX5_write_2 (fun r9 M_1 H locs hq hw => ?_)
  obtain ⟨z_2, rfl, hM9, hz_2a, hz_2b⟩ := hq
  rw [hM9] at hw
  show W p l e R s m args below meth c H locs _ _ _ (F0 m 5 ls [.int (iN (z_2)), .ref a])
  refine x_const hC dX5_write_5 ?_
  refine x_callV hC hw (lv_size hl) (c_X5_start l G hR (p0 := z_2) (by omega) (p1 := 1) (by omega) (by omega)) gX5_write_X5_start rfl dv_X5_start hR.1.1 rfl rfl (Nat.le_of_ble_eq_true rfl) (by rw [hRf]; decide) (by rw [hRl]; decide) (by omega) (by omega) dX5_write_6 (fun r9 M_3 H locs hq hw => ?_)
  obtain ⟨z_5, thk_4, rfl, hz_5a, hz_5b, hz_5c0, hz_5c1, hx5k_4, hRk_4⟩ := hq
  have hsck_4 := hRk_4.sc
  show W p l e R s m args below meth c H locs _ _ _ (F0 m 9 ls [.int (iN (z_5))])
  refine x_if_ne (tgt := 49) hC ⟨by omega, by omega⟩ dX5_write_9 (by decide) (fun c_6 => ?_) (fun c_6 => ?_)
  · refine x_const hC dX5_write_49 ?_
    exact x_iret hC hw dX5_write_50 (by omega) (by omega) ⟨0, _, rfl, by omega, Or.inr ⟨by omega, by omega, MGm.of hRk_4 hK⟩⟩
  · refine lv_aload_n hC.1 hC.2.1 dX5_write_12 rfl (lv_at hl 0 rfl) ?_
    refine lv_aload_n hC.1 hC.2.1 dX5_write_13 rfl (lv_at hl 0 rfl) ?_
    refine x_get hC hw hRk_4.1.1 rfl hinX5 6 (by decide) (by decide +kernel) rfl dX5_write_14 ?_
    rcases wk with _ | w_7
    · have hwt_8 := hRk_4.wk'.nil rfl
      subst hwt_8
      have hkn := abM_none hK
      subst hkn
      have hks0 := kS_nil
      show W p l e R s m args below meth c _ _ _ _ _ (F0 m 17 ls [.null, .ref a])
      refine lv_ifnullN (tgt := 37) hC.1 hC.2.1 dX5_write_17 (by decide) ?_
      refine x_const hC dX5_write_37 ?_
      refine lv_goto (tgt := 42) hC.1 hC.2.1 dX5_write_38 (by decide) ?_
      refine x_const hC dX5_write_42 ?_
      refine x_callV hC hw (lv_size hl) (c_X5_refuse l G hRk_4 (p0 := 1) (by omega) (p1 := 2) (by omega) (by omega)) gX5_write_X5_refuse rfl dv_X5_refuse hRk_4.1.1 rfl rfl (Nat.le_of_ble_eq_true rfl) (by rw [hRf]; decide) (by rw [hRl]; decide) (by omega) (by omega) dX5_write_43 (fun r9 M_9 H locs hq hw => ?_)
      obtain ⟨z_11, thk_10, rfl, hz_11a, hz_11b, hz_11c0, hz_11c1, hx5k_10, hRk_10⟩ := hq
      have hsck_10 := hRk_10.sc
      show W p l e R s m args below meth c H locs _ _ _ (F0 m 46 ls [.int (iN (z_11))])
      refine x_if_eq (tgt := 51) hC ⟨by omega, by omega⟩ dX5_write_46 (by decide) (fun c_12 => ?_) (fun c_12 => ?_)
      · refine lv_aload_n hC.1 hC.2.1 dX5_write_51 rfl (lv_at hl 0 rfl) ?_
        refine lv_aload_n hC.1 hC.2.1 dX5_write_52 rfl (lv_at hl 0 rfl) ?_
        refine x_get hC hw hRk_10.1.1 rfl hinX5 6 (by decide) (by decide +kernel) rfl dX5_write_53 ?_
        show W p l e R s m args below meth c _ _ _ _ _ (F0 m 56 ls [.null, .ref a])
        refine x_const hC dX5_write_56 ?_
        exfalso; omega
      · refine x_const hC dX5_write_49 ?_
        exact x_iret hC hw dX5_write_50 (by omega) (by omega) ⟨0, _, rfl, by omega, Or.inr ⟨by omega, by omega, MGm.of hRk_10 hK⟩⟩
    · obtain ⟨ti_13, fi_13, hui_13, hIi_13⟩ := hRk_4.wk'.yes rfl
      obtain ⟨htat_14, htbt_14, htct_14, htdt_14, htet_14⟩ := id hIi_13.2.1
      subst hui_13
      obtain ⟨ps9, cd9, hd9, hkn, hre9, hla9, hha9, hcd9, hhd9, hhc9, hcp9, hps9⟩ := abM_some hK
      subst hkn
      have hks9 := kS_some (t := ti_13) (ps := ps9) (cd := cd9) (hd := hd9) (br := br)
      show W p l e R s m args below meth c _ _ _ _ _ (F0 m 17 ls [.ref w_7, .ref a])
      refine lv_ifnull hC.1 hC.2.1 dX5_write_17 ?_
      refine lv_aload_n hC.1 hC.2.1 dX5_write_20 rfl (lv_at hl 0 rfl) ?_
      refine x_get hC hw hRk_4.1.1 rfl hinX5 7 (by decide) (by decide +kernel) rfl dX5_write_21 ?_
      have sc_15 := hRk_4.sc
      refine x_if_ne (tgt := 37) hC ⟨by omega, by omega⟩ dX5_write_24 (by decide) (fun c_16 => ?_) (fun c_16 => ?_)
      · refine x_const hC dX5_write_37 ?_
        refine lv_goto (tgt := 42) hC.1 hC.2.1 dX5_write_38 (by decide) ?_
        refine x_const hC dX5_write_42 ?_
        refine x_callV hC hw (lv_size hl) (c_X5_refuse l G hRk_4 (p0 := 1) (by omega) (p1 := 2) (by omega) (by omega)) gX5_write_X5_refuse rfl dv_X5_refuse hRk_4.1.1 rfl rfl (Nat.le_of_ble_eq_true rfl) (by rw [hRf]; decide) (by rw [hRl]; decide) (by omega) (by omega) dX5_write_43 (fun r9 M_17 H locs hq hw => ?_)
        obtain ⟨z_19, thk_18, rfl, hz_19a, hz_19b, hz_19c0, hz_19c1, hx5k_18, hRk_18⟩ := hq
        have h_20 := hIi_13.x5 hx5k_18
        have hsck_18 := hRk_18.sc
        show W p l e R s m args below meth c H locs _ _ _ (F0 m 46 ls [.int (iN (z_19))])
        refine x_if_eq (tgt := 51) hC ⟨by omega, by omega⟩ dX5_write_46 (by decide) (fun c_21 => ?_) (fun c_21 => ?_)
        · refine lv_aload_n hC.1 hC.2.1 dX5_write_51 rfl (lv_at hl 0 rfl) ?_
          refine lv_aload_n hC.1 hC.2.1 dX5_write_52 rfl (lv_at hl 0 rfl) ?_
          refine x_get hC hw hRk_18.1.1 rfl hinX5 6 (by decide) (by decide +kernel) rfl dX5_write_53 ?_
          show W p l e R s m args below meth c _ _ _ _ _ (F0 m 56 ls [.ref w_7, .ref a])
          refine x_const hC dX5_write_56 ?_
          refine x_ialdE (x := ((ti_13.b : Nat) : Int)) hC hw h_20.1 (by omega) (by omega) (by omega) dX5_write_57 h_20.2.2.1 ?_
          refine lv_aload_n hC.1 hC.2.1 dX5_write_58 rfl (lv_at hl 0 rfl) ?_
          refine x_get hC hw hRk_18.1.1 rfl hinX5 10 (by decide) (by decide +kernel) rfl dX5_write_59 ?_
          have sc_22 := hRk_18.sc
          refine lv_iload_n hC.1 hC.2.1 dX5_write_62 rfl (lv_at hl 1 rfl) ?_
          refine x_callV hC hw (lv_size hl) (c_X5_set l G hRk_18 (p0 := ((ti_13.b : Nat) : Int)) (by omega) (p1 := ha) (by omega) (p2 := p0) (by omega) (by omega) (by omega) (by omega) (by intro q9; first | exact absurd rfl q9 | assumption | exact hSk (by omega))) gX5_write_X5_set rfl dv_X5_set hRk_18.1.1 rfl rfl (Nat.le_of_ble_eq_true rfl) (by rw [hRf]; decide) (by rw [hRl]; decide) (by omega) (by omega) dX5_write_63 (fun r9 M_23 H locs hq hw => ?_)
          simp only [Int.toNat_natCast] at hq
          obtain ⟨z_25, brk_24, Vk_24, rfl, hz_25a, hz_25v, hz_25b, he0k_24, he1k_24, hx5k_24, hRk_24⟩ := hq
          have h_26 := h_20.x5 hx5k_24
          have hsck_24 := hRk_24.sc
          show W p l e R s m args below meth c H locs _ _ _ (F0 m 66 ls [.int (iN (z_25))])
          exact x_iret hC hw dX5_write_66 (by omega) (by omega) ⟨z_25, _, rfl, by omega, Or.inl ⟨by omega, by first | trivial | omega, (show z_25 = V ti_13.b (ps9).toNat by have e9 := hz_25v; rw [show ha = ps9 by omega] at e9; exact e9), (MGm.write (ps := ps9) (cd := cd9) (hd := hd9) hRk_24 (by have e9 := he1k_24; rw [show ha = ps9 by omega] at e9; exact e9) (by have e9 := he0k_24; rw [show ha = ps9 by omega] at e9; exact e9) hK (by omega) (by omega))⟩⟩
        · refine x_const hC dX5_write_49 ?_
          exact x_iret hC hw dX5_write_50 (by omega) (by omega) ⟨0, _, rfl, by omega, Or.inr ⟨by omega, by omega, MGm.of hRk_18 hK⟩⟩
      · refine lv_aload_n hC.1 hC.2.1 dX5_write_27 rfl (lv_at hl 0 rfl) ?_
        refine x_get hC hw hRk_4.1.1 rfl hinX5 10 (by decide) (by decide +kernel) rfl dX5_write_28 ?_
        have sc_27 := hRk_4.sc
        refine x_sipush hC dX5_write_31 (by decide +kernel) ?_
        refine x_icmp_ne (tgt := 41) hC ⟨by omega, by omega⟩ ⟨by omega, by omega⟩ dX5_write_34 (by decide) (fun c_28 => ?_) (fun c_28 => ?_)
        · refine x_const hC dX5_write_41 ?_
          refine x_const hC dX5_write_42 ?_
          refine x_callV hC hw (lv_size hl) (c_X5_refuse l G hRk_4 (p0 := 0) (by omega) (p1 := 2) (by omega) (by omega)) gX5_write_X5_refuse rfl dv_X5_refuse hRk_4.1.1 rfl rfl (Nat.le_of_ble_eq_true rfl) (by rw [hRf]; decide) (by rw [hRl]; decide) (by omega) (by omega) dX5_write_43 (fun r9 M_29 H locs hq hw => ?_)
          obtain ⟨z_31, thk_30, rfl, hz_31a, hz_31b, hz_31c0, hz_31c1, hx5k_30, hRk_30⟩ := hq
          have h_32 := hIi_13.x5 hx5k_30
          have hsck_30 := hRk_30.sc
          show W p l e R s m args below meth c H locs _ _ _ (F0 m 46 ls [.int (iN (z_31))])
          refine x_if_eq (tgt := 51) hC ⟨by omega, by omega⟩ dX5_write_46 (by decide) (fun c_33 => ?_) (fun c_33 => ?_)
          · refine lv_aload_n hC.1 hC.2.1 dX5_write_51 rfl (lv_at hl 0 rfl) ?_
            refine lv_aload_n hC.1 hC.2.1 dX5_write_52 rfl (lv_at hl 0 rfl) ?_
            refine x_get hC hw hRk_30.1.1 rfl hinX5 6 (by decide) (by decide +kernel) rfl dX5_write_53 ?_
            show W p l e R s m args below meth c _ _ _ _ _ (F0 m 56 ls [.ref w_7, .ref a])
            refine x_const hC dX5_write_56 ?_
            refine x_ialdE (x := ((ti_13.b : Nat) : Int)) hC hw h_32.1 (by omega) (by omega) (by omega) dX5_write_57 h_32.2.2.1 ?_
            refine lv_aload_n hC.1 hC.2.1 dX5_write_58 rfl (lv_at hl 0 rfl) ?_
            refine x_get hC hw hRk_30.1.1 rfl hinX5 10 (by decide) (by decide +kernel) rfl dX5_write_59 ?_
            have sc_34 := hRk_30.sc
            refine lv_iload_n hC.1 hC.2.1 dX5_write_62 rfl (lv_at hl 1 rfl) ?_
            refine x_callV hC hw (lv_size hl) (c_X5_set l G hRk_30 (p0 := ((ti_13.b : Nat) : Int)) (by omega) (p1 := ha) (by omega) (p2 := p0) (by omega) (by omega) (by omega) (by omega) (by intro q9; first | exact absurd rfl q9 | assumption | exact hSk (by omega))) gX5_write_X5_set rfl dv_X5_set hRk_30.1.1 rfl rfl (Nat.le_of_ble_eq_true rfl) (by rw [hRf]; decide) (by rw [hRl]; decide) (by omega) (by omega) dX5_write_63 (fun r9 M_35 H locs hq hw => ?_)
            simp only [Int.toNat_natCast] at hq
            obtain ⟨z_37, brk_36, Vk_36, rfl, hz_37a, hz_37v, hz_37b, he0k_36, he1k_36, hx5k_36, hRk_36⟩ := hq
            have h_38 := h_32.x5 hx5k_36
            have hsck_36 := hRk_36.sc
            show W p l e R s m args below meth c H locs _ _ _ (F0 m 66 ls [.int (iN (z_37))])
            exact x_iret hC hw dX5_write_66 (by omega) (by omega) ⟨z_37, _, rfl, by omega, Or.inl ⟨by omega, by first | trivial | omega, (show z_37 = V ti_13.b (ps9).toNat by have e9 := hz_37v; rw [show ha = ps9 by omega] at e9; exact e9), (MGm.write (ps := ps9) (cd := cd9) (hd := hd9) hRk_36 (by have e9 := he1k_36; rw [show ha = ps9 by omega] at e9; exact e9) (by have e9 := he0k_36; rw [show ha = ps9 by omega] at e9; exact e9) hK (by omega) (by omega))⟩⟩
          · refine x_const hC dX5_write_49 ?_
            exact x_iret hC hw dX5_write_50 (by omega) (by omega) ⟨0, _, rfl, by omega, Or.inr ⟨by omega, by omega, MGm.of hRk_30 hK⟩⟩
        · refine x_const hC dX5_write_37 ?_
          refine lv_goto (tgt := 42) hC.1 hC.2.1 dX5_write_38 (by decide) ?_
          refine x_const hC dX5_write_42 ?_
          refine x_callV hC hw (lv_size hl) (c_X5_refuse l G hRk_4 (p0 := 1) (by omega) (p1 := 2) (by omega) (by omega)) gX5_write_X5_refuse rfl dv_X5_refuse hRk_4.1.1 rfl rfl (Nat.le_of_ble_eq_true rfl) (by rw [hRf]; decide) (by rw [hRl]; decide) (by omega) (by omega) dX5_write_43 (fun r9 M_39 H locs hq hw => ?_)
          obtain ⟨z_41, thk_40, rfl, hz_41a, hz_41b, hz_41c0, hz_41c1, hx5k_40, hRk_40⟩ := hq
          have h_42 := hIi_13.x5 hx5k_40
          have hsck_40 := hRk_40.sc
          show W p l e R s m args below meth c H locs _ _ _ (F0 m 46 ls [.int (iN (z_41))])
          refine x_if_eq (tgt := 51) hC ⟨by omega, by omega⟩ dX5_write_46 (by decide) (fun c_43 => ?_) (fun c_43 => ?_)
          · refine lv_aload_n hC.1 hC.2.1 dX5_write_51 rfl (lv_at hl 0 rfl) ?_
            refine lv_aload_n hC.1 hC.2.1 dX5_write_52 rfl (lv_at hl 0 rfl) ?_
            refine x_get hC hw hRk_40.1.1 rfl hinX5 6 (by decide) (by decide +kernel) rfl dX5_write_53 ?_
            show W p l e R s m args below meth c _ _ _ _ _ (F0 m 56 ls [.ref w_7, .ref a])
            refine x_const hC dX5_write_56 ?_
            refine x_ialdE (x := ((ti_13.b : Nat) : Int)) hC hw h_42.1 (by omega) (by omega) (by omega) dX5_write_57 h_42.2.2.1 ?_
            refine lv_aload_n hC.1 hC.2.1 dX5_write_58 rfl (lv_at hl 0 rfl) ?_
            refine x_get hC hw hRk_40.1.1 rfl hinX5 10 (by decide) (by decide +kernel) rfl dX5_write_59 ?_
            have sc_44 := hRk_40.sc
            refine lv_iload_n hC.1 hC.2.1 dX5_write_62 rfl (lv_at hl 1 rfl) ?_
            refine x_callV hC hw (lv_size hl) (c_X5_set l G hRk_40 (p0 := ((ti_13.b : Nat) : Int)) (by omega) (p1 := ha) (by omega) (p2 := p0) (by omega) (by omega) (by omega) (by omega) (by intro q9; first | exact absurd rfl q9 | assumption | exact hSk (by omega))) gX5_write_X5_set rfl dv_X5_set hRk_40.1.1 rfl rfl (Nat.le_of_ble_eq_true rfl) (by rw [hRf]; decide) (by rw [hRl]; decide) (by omega) (by omega) dX5_write_63 (fun r9 M_45 H locs hq hw => ?_)
            simp only [Int.toNat_natCast] at hq
            obtain ⟨z_47, brk_46, Vk_46, rfl, hz_47a, hz_47v, hz_47b, he0k_46, he1k_46, hx5k_46, hRk_46⟩ := hq
            have h_48 := h_42.x5 hx5k_46
            have hsck_46 := hRk_46.sc
            show W p l e R s m args below meth c H locs _ _ _ (F0 m 66 ls [.int (iN (z_47))])
            exact x_iret hC hw dX5_write_66 (by omega) (by omega) ⟨z_47, _, rfl, by omega, Or.inl ⟨by omega, by first | trivial | omega, (show z_47 = V ti_13.b (ps9).toNat by have e9 := hz_47v; rw [show ha = ps9 by omega] at e9; exact e9), (MGm.write (ps := ps9) (cd := cd9) (hd := hd9) hRk_46 (by have e9 := he1k_46; rw [show ha = ps9 by omega] at e9; exact e9) (by have e9 := he0k_46; rw [show ha = ps9 by omega] at e9; exact e9) hK (by omega) (by omega))⟩⟩
          · refine x_const hC dX5_write_49 ?_
            exact x_iret hC hw dX5_write_50 (by omega) (by omega) ⟨0, _, rfl, by omega, Or.inr ⟨by omega, by omega, MGm.of hRk_40 hK⟩⟩
set_option maxHeartbeats 4000000 in
set_option maxRecDepth 100000 in
theorem c_X5_drop (l : Launch) (G : xG) {M : HM} {a va oa wa ya : Nat} {wk : Option Nat} {th : Int} {rfd : Int32} {br re la ha : Int} {kp kv : Int32} {qv qw : Nat → Nat} {fa fb : Nat → Option Nat} {V : BW} {O : OW} {fy : Nat → Option Nat} {Wv : VW} {wt : Option VT} {S : Nat → Bool} (hR : MGx G M a va oa wa ya wk th rfd br re la ha kp kv qv qw fa fb V O fy Wv wt S) {K : WA} (hK : abM O wt br re la ha K) : xMet l G yX5_drop wsX5_drop 4 90 1 5 [.ref a] M (fun r M1 => ∃ (z th1 : Int), r = some (.int (iN z)) ∧ (-2147483648 ≤ z ∧ z ≤ 2147483647) ∧ ((th1 = 0 ∧ ((kS (K) = 1 ∧ kC (K) = 1)) ∧ z = A_drop (O, V, Wv, K, kp, kv, rfd) ∧ MGm G M1 a S th1 (S_drop (O, V, Wv, K, kp, kv, rfd))) ∨ (th1 ≠ 0 ∧ ((th1 = 1 ∧ ¬ (kS (K) = 1 ∧ kC (K) = 1))) ∧ MGm G M1 a S th1 (O, V, Wv, K, kp, kv, rfd)))) := by
  refine x_intro (cc := cX5_drop) (maxL := 1) (ret := (some .int)) (by decide +kernel) rfl (Nat.le_of_ble_eq_true rfl) ?_
  intro p e R s m args below meth c ls hRf hRc hRs hRl hC hw hl
  have hsc0 := hR.sc
  have hinX5 : ∀ w ∈ wsX50, w ∈ wsX5_drop := by decide +kernel
  have hl : lv_has ls 1 [(0, .ref a)] := hl
  refine lv_aload_n hC.1 hC.2.1 dX5_drop_0 rfl (lv_at hl 0 rfl) ?_
  refine lv_aload_n hC.1 hC.2.1 dX5_drop_1 rfl (lv_at hl 0 rfl) ?_
  refine x_get hC hw hR.1.1 rfl hinX5 6 (by decide) (by decide +kernel) rfl dX5_drop_2 ?_
  rcases wk with _ | w_1
  · have hwt_2 := hR.wk'.nil rfl
    subst hwt_2
    have hkn := abM_none hK
    subst hkn
    have hks0 := kS_nil
    show W p l e R s m args below meth c _ _ _ _ _ (F0 m 5 ls [.null, .ref a])
    refine lv_ifnullN (tgt := 25) hC.1 hC.2.1 dX5_drop_5 (by decide) ?_
    refine x_const hC dX5_drop_25 ?_
    refine lv_goto (tgt := 30) hC.1 hC.2.1 dX5_drop_26 (by decide) ?_
    refine x_const hC dX5_drop_30 ?_
    refine x_callV hC hw (lv_size hl) (c_X5_start l G hR (p0 := 1) (by omega) (p1 := 1) (by omega) (by omega)) gX5_drop_X5_start rfl dv_X5_start hR.1.1 rfl rfl (Nat.le_of_ble_eq_true rfl) (by rw [hRf]; decide) (by rw [hRl]; decide) (by omega) (by omega) dX5_drop_31 (fun r9 M_3 H locs hq hw => ?_)
    obtain ⟨z_5, thk_4, rfl, hz_5a, hz_5b, hz_5c0, hz_5c1, hx5k_4, hRk_4⟩ := hq
    have hsck_4 := hRk_4.sc
    show W p l e R s m args below meth c H locs _ _ _ (F0 m 34 ls [.int (iN (z_5))])
    refine x_if_eq (tgt := 39) hC ⟨by omega, by omega⟩ dX5_drop_34 (by decide) (fun c_6 => ?_) (fun c_6 => ?_)
    · refine lv_aload_n hC.1 hC.2.1 dX5_drop_39 rfl (lv_at hl 0 rfl) ?_
      refine x_get hC hw hRk_4.1.1 rfl hinX5 2 (by decide) (by decide +kernel) rfl dX5_drop_40 ?_
      refine lv_aload_n hC.1 hC.2.1 dX5_drop_43 rfl (lv_at hl 0 rfl) ?_
      refine x_get hC hw hRk_4.1.1 rfl hinX5 6 (by decide) (by decide +kernel) rfl dX5_drop_44 ?_
      show W p l e R s m args below meth c _ _ _ _ _ (F0 m 47 ls [.null, .ref va])
      refine x_const hC dX5_drop_47 ?_
      exfalso; omega
    · refine x_const hC dX5_drop_37 ?_
      exact x_iret hC hw dX5_drop_38 (by omega) (by omega) ⟨0, _, rfl, by omega, Or.inr ⟨by omega, by omega, MGm.of hRk_4 hK⟩⟩
  · obtain ⟨ti_7, fi_7, hui_7, hIi_7⟩ := hR.wk'.yes rfl
    obtain ⟨htat_8, htbt_8, htct_8, htdt_8, htet_8⟩ := id hIi_7.2.1
    subst hui_7
    obtain ⟨ps9, cd9, hd9, hkn, hre9, hla9, hha9, hcd9, hhd9, hhc9, hcp9, hps9⟩ := abM_some hK
    subst hkn
    have hks9 := kS_some (t := ti_7) (ps := ps9) (cd := cd9) (hd := hd9) (br := br)
    show W p l e R s m args below meth c _ _ _ _ _ (F0 m 5 ls [.ref w_1, .ref a])
    refine lv_ifnull hC.1 hC.2.1 dX5_drop_5 ?_
    refine lv_aload_n hC.1 hC.2.1 dX5_drop_8 rfl (lv_at hl 0 rfl) ?_
    refine x_get hC hw hR.1.1 rfl hinX5 7 (by decide) (by decide +kernel) rfl dX5_drop_9 ?_
    have sc_9 := hR.sc
    refine x_if_ne (tgt := 25) hC ⟨by omega, by omega⟩ dX5_drop_12 (by decide) (fun c_10 => ?_) (fun c_10 => ?_)
    · refine x_const hC dX5_drop_25 ?_
      refine lv_goto (tgt := 30) hC.1 hC.2.1 dX5_drop_26 (by decide) ?_
      refine x_const hC dX5_drop_30 ?_
      refine x_callV hC hw (lv_size hl) (c_X5_start l G hR (p0 := 1) (by omega) (p1 := 1) (by omega) (by omega)) gX5_drop_X5_start rfl dv_X5_start hR.1.1 rfl rfl (Nat.le_of_ble_eq_true rfl) (by rw [hRf]; decide) (by rw [hRl]; decide) (by omega) (by omega) dX5_drop_31 (fun r9 M_11 H locs hq hw => ?_)
      obtain ⟨z_13, thk_12, rfl, hz_13a, hz_13b, hz_13c0, hz_13c1, hx5k_12, hRk_12⟩ := hq
      have h_14 := hIi_7.x5 hx5k_12
      have hsck_12 := hRk_12.sc
      show W p l e R s m args below meth c H locs _ _ _ (F0 m 34 ls [.int (iN (z_13))])
      refine x_if_eq (tgt := 39) hC ⟨by omega, by omega⟩ dX5_drop_34 (by decide) (fun c_15 => ?_) (fun c_15 => ?_)
      · refine lv_aload_n hC.1 hC.2.1 dX5_drop_39 rfl (lv_at hl 0 rfl) ?_
        refine x_get hC hw hRk_12.1.1 rfl hinX5 2 (by decide) (by decide +kernel) rfl dX5_drop_40 ?_
        refine lv_aload_n hC.1 hC.2.1 dX5_drop_43 rfl (lv_at hl 0 rfl) ?_
        refine x_get hC hw hRk_12.1.1 rfl hinX5 6 (by decide) (by decide +kernel) rfl dX5_drop_44 ?_
        show W p l e R s m args below meth c _ _ _ _ _ (F0 m 47 ls [.ref w_1, .ref va])
        refine x_const hC dX5_drop_47 ?_
        refine x_ialdE (x := ((ti_7.b : Nat) : Int)) hC hw h_14.1 (by omega) (by omega) (by omega) dX5_drop_48 h_14.2.2.1 ?_
        refine x_ald4 hC hw hRk_12.1.2.1 (by omega) (by omega) (by omega) dX5_drop_49 ?_
        rw [Int.toNat_natCast]
        rw [hRk_12.fa' (show ti_7.b < 3 by omega)]
        show W p l e R s m args below meth c _ _ _ _ _ (F0 m 50 ls [.ref (qv ti_7.b)])
        refine lv_aload_n hC.1 hC.2.1 dX5_drop_50 rfl (lv_at hl 0 rfl) ?_
        refine x_get hC hw hRk_12.1.1 rfl hinX5 9 (by decide) (by decide +kernel) rfl dX5_drop_51 ?_
        have sc_16 := hRk_12.sc
        refine x_sipush hC dX5_drop_54 (by decide +kernel) ?_
        refine x_iast hC hw (hRk_12.rv (show ti_7.b < 3 by omega)) (by omega) (by omega) (by omega) dX5_drop_57 (fun H locs hw => ?_)
        obtain ⟨M_17, hM_18⟩ : ∃ z, z = va_up M_11 (qv ti_7.b) (some (.inl (G.2 1, 100, .inl (upd (fun k9 => iN (V ti_7.b k9)) (la).toNat (iN ((-10000))))))) := ⟨_, rfl⟩
        rw [← hM_18] at hw
        have hR_19 := hRk_12.val (j := ti_7.b) (v := (-10000)) (by omega) hM_18 (by omega) (fun q9 => absurd rfl q9)
        obtain ⟨V_20, hV_20⟩ : ∃ z, z = (upB V ti_7.b (upV (V ti_7.b) ((la).toNat) (-10000))) := ⟨_, rfl⟩
        rw [← hV_20] at hR_19
        have h_21 := h_14.x5 (hRk_12.val5 (show ti_7.b < 3 by omega) hM_18)
        refine lv_aload_n hC.1 hC.2.1 dX5_drop_58 rfl (lv_at hl 0 rfl) ?_
        refine x_sipush hC dX5_drop_59 (by decide +kernel) ?_
        refine x_put (fs2 := [.int (iN (thk_12)), .int rfd, .ref va, .ref oa, .ref wa, .ref ya, .ref w_1, .int (iN (br)), .int (iN (re)), .int (iN ((-10000))), .int (iN (ha)), .int kp, .int kv]) hC hw hR_19.1.1 rfl hinX5 tyX5 tyX5_ok nmX5 9 (by decide) (by decide +kernel) rfl rfl rfl (Nat.le_of_ble_eq_true rfl) rfl dX5_drop_62 (fun H locs hw => ?_)
        obtain ⟨M_22, hM_23⟩ : ∃ z, z = va_up M_17 a (some (.inr (7, [.int (iN (thk_12)), .int rfd, .ref va, .ref oa, .ref wa, .ref ya, .ref w_1, .int (iN (br)), .int (iN (re)), .int (iN ((-10000))), .int (iN (ha)), .int kp, .int kv]))) := ⟨_, rfl⟩
        rw [← hM_23] at hw
        have hR_24 : MGx G M_22 a va oa wa ya (some w_1) thk_12 rfd br re (-10000) ha kp kv qv qw fa fb V_20 O fy Wv (some ti_7) S := hR_19.obj hM_23 (by have e9 := hR_19.sc; omega) hR_19.wk'
        have h_25 := h_21.x5 (hR_19.obj5 hM_23)
        refine lv_aload_n hC.1 hC.2.1 dX5_drop_65 rfl (lv_at hl 0 rfl) ?_
        refine x_sipush hC dX5_drop_66 (by decide +kernel) ?_
        refine x_put (fs2 := [.int (iN (thk_12)), .int rfd, .ref va, .ref oa, .ref wa, .ref ya, .ref w_1, .int (iN (br)), .int (iN (re)), .int (iN ((-10000))), .int (iN ((-10000))), .int kp, .int kv]) hC hw hR_24.1.1 rfl hinX5 tyX5 tyX5_ok nmX5 10 (by decide) (by decide +kernel) rfl rfl rfl (Nat.le_of_ble_eq_true rfl) rfl dX5_drop_69 (fun H locs hw => ?_)
        obtain ⟨M_26, hM_27⟩ : ∃ z, z = va_up M_22 a (some (.inr (7, [.int (iN (thk_12)), .int rfd, .ref va, .ref oa, .ref wa, .ref ya, .ref w_1, .int (iN (br)), .int (iN (re)), .int (iN ((-10000))), .int (iN ((-10000))), .int kp, .int kv]))) := ⟨_, rfl⟩
        rw [← hM_27] at hw
        have hR_28 : MGx G M_26 a va oa wa ya (some w_1) thk_12 rfd br re (-10000) (-10000) kp kv qv qw fa fb V_20 O fy Wv (some ti_7) S := hR_24.obj hM_27 (by have e9 := hR_24.sc; omega) hR_24.wk'
        have h_29 := h_25.x5 (hR_24.obj5 hM_27)
        refine lv_aload_n hC.1 hC.2.1 dX5_drop_72 rfl (lv_at hl 0 rfl) ?_
        refine lv_aload_n hC.1 hC.2.1 dX5_drop_73 rfl (lv_at hl 0 rfl) ?_
        refine x_get hC hw hR_28.1.1 rfl hinX5 6 (by decide) (by decide +kernel) rfl dX5_drop_74 ?_
        show W p l e R s m args below meth c _ _ _ _ _ (F0 m 77 ls [.ref w_1, .ref a])
        refine x_const hC dX5_drop_77 ?_
        refine x_ialdE (x := ((ti_7.b : Nat) : Int)) hC hw h_29.1 (by omega) (by omega) (by omega) dX5_drop_78 h_29.2.2.1 ?_
        refine x_callS hC hw (lv_size hl) (c_X5_whole l G (M := M_26) (p0 := ((ti_7.b : Nat) : Int)) (by omega) (by omega)) gX5_drop_X5_whole rfl dv_X5_whole_s rfl (Nat.le_of_ble_eq_true rfl) (by rw [hRf]; decide) (by rw [hRl]; decide) (by omega) (by omega) dX5_drop_79 (fun r9 M_30 H locs hq hw => ?_)
        simp only [Int.toNat_natCast] at hq
        obtain ⟨qk_31, fk_31, rfl, hxk_31, hIk_31⟩ := hq
        have h_32 := hR_28.ext hxk_31
        have h_33 := h_29.x5 (xExt.x5 hxk_31)
        obtain ⟨htat_34, htbt_34, htct_34, htdt_34, htet_34⟩ := id hIk_31.2.1
        have holk_31 := h_32.or' hIk_31.2.1.1
        show W p l e R s m args below meth c H locs _ _ _ (F0 m 82 ls [.ref qk_31, .ref a])
        refine x_callV hC hw (lv_size hl) (c_X5_many l G h_32 hIk_31) gX5_drop_X5_many rfl dv_X5_many h_32.1.1 rfl rfl (Nat.le_of_ble_eq_true rfl) (by rw [hRf]; decide) (by rw [hRl]; decide) (by omega) (by omega) dX5_drop_82 (fun r9 M_35 H locs hq hw => ?_)
        obtain ⟨z_36, rfl, hM9, hz_36a, hz_36m⟩ := hq
        rw [hM9] at hw
        show W p l e R s m args below meth c H locs _ _ _ (F0 m 85 ls [.int (iN (z_36))])
        exact x_iret hC hw dX5_drop_85 (by omega) (by omega) ⟨z_36, _, rfl, by omega, Or.inl ⟨by omega, by first | trivial | omega, (by have e8 := hz_36m; rw [mn_cnt, hV_20, upB_s, show la = ps9 by omega] at e8; exact e8), (by have e9 := h_32; rw [hV_20, show la = ps9 by omega] at e9; exact MGm.of (K := some (ti_7, ps9, 0, 0, 0)) e9 ⟨rfl, by omega, hre9, (if_neg (by omega)).symm, (if_neg (by omega)).symm, Or.inl rfl, Or.inl rfl, fun q9 => by omega, fun q9 => by omega, by omega, by omega⟩)⟩⟩
      · refine x_const hC dX5_drop_37 ?_
        exact x_iret hC hw dX5_drop_38 (by omega) (by omega) ⟨0, _, rfl, by omega, Or.inr ⟨by omega, by omega, MGm.of hRk_12 hK⟩⟩
    · refine lv_aload_n hC.1 hC.2.1 dX5_drop_15 rfl (lv_at hl 0 rfl) ?_
      refine x_get hC hw hR.1.1 rfl hinX5 9 (by decide) (by decide +kernel) rfl dX5_drop_16 ?_
      have sc_37 := hR.sc
      refine x_sipush hC dX5_drop_19 (by decide +kernel) ?_
      refine x_icmp_ne (tgt := 29) hC ⟨by omega, by omega⟩ ⟨by omega, by omega⟩ dX5_drop_22 (by decide) (fun c_38 => ?_) (fun c_38 => ?_)
      · refine x_const hC dX5_drop_29 ?_
        refine x_const hC dX5_drop_30 ?_
        refine x_callV hC hw (lv_size hl) (c_X5_start l G hR (p0 := 0) (by omega) (p1 := 1) (by omega) (by omega)) gX5_drop_X5_start rfl dv_X5_start hR.1.1 rfl rfl (Nat.le_of_ble_eq_true rfl) (by rw [hRf]; decide) (by rw [hRl]; decide) (by omega) (by omega) dX5_drop_31 (fun r9 M_39 H locs hq hw => ?_)
        obtain ⟨z_41, thk_40, rfl, hz_41a, hz_41b, hz_41c0, hz_41c1, hx5k_40, hRk_40⟩ := hq
        have h_42 := hIi_7.x5 hx5k_40
        have hsck_40 := hRk_40.sc
        show W p l e R s m args below meth c H locs _ _ _ (F0 m 34 ls [.int (iN (z_41))])
        refine x_if_eq (tgt := 39) hC ⟨by omega, by omega⟩ dX5_drop_34 (by decide) (fun c_43 => ?_) (fun c_43 => ?_)
        · refine lv_aload_n hC.1 hC.2.1 dX5_drop_39 rfl (lv_at hl 0 rfl) ?_
          refine x_get hC hw hRk_40.1.1 rfl hinX5 2 (by decide) (by decide +kernel) rfl dX5_drop_40 ?_
          refine lv_aload_n hC.1 hC.2.1 dX5_drop_43 rfl (lv_at hl 0 rfl) ?_
          refine x_get hC hw hRk_40.1.1 rfl hinX5 6 (by decide) (by decide +kernel) rfl dX5_drop_44 ?_
          show W p l e R s m args below meth c _ _ _ _ _ (F0 m 47 ls [.ref w_1, .ref va])
          refine x_const hC dX5_drop_47 ?_
          refine x_ialdE (x := ((ti_7.b : Nat) : Int)) hC hw h_42.1 (by omega) (by omega) (by omega) dX5_drop_48 h_42.2.2.1 ?_
          refine x_ald4 hC hw hRk_40.1.2.1 (by omega) (by omega) (by omega) dX5_drop_49 ?_
          rw [Int.toNat_natCast]
          rw [hRk_40.fa' (show ti_7.b < 3 by omega)]
          show W p l e R s m args below meth c _ _ _ _ _ (F0 m 50 ls [.ref (qv ti_7.b)])
          refine lv_aload_n hC.1 hC.2.1 dX5_drop_50 rfl (lv_at hl 0 rfl) ?_
          refine x_get hC hw hRk_40.1.1 rfl hinX5 9 (by decide) (by decide +kernel) rfl dX5_drop_51 ?_
          have sc_44 := hRk_40.sc
          refine x_sipush hC dX5_drop_54 (by decide +kernel) ?_
          refine x_iast hC hw (hRk_40.rv (show ti_7.b < 3 by omega)) (by omega) (by omega) (by omega) dX5_drop_57 (fun H locs hw => ?_)
          obtain ⟨M_45, hM_46⟩ : ∃ z, z = va_up M_39 (qv ti_7.b) (some (.inl (G.2 1, 100, .inl (upd (fun k9 => iN (V ti_7.b k9)) (la).toNat (iN ((-10000))))))) := ⟨_, rfl⟩
          rw [← hM_46] at hw
          have hR_47 := hRk_40.val (j := ti_7.b) (v := (-10000)) (by omega) hM_46 (by omega) (fun q9 => absurd rfl q9)
          obtain ⟨V_48, hV_48⟩ : ∃ z, z = (upB V ti_7.b (upV (V ti_7.b) ((la).toNat) (-10000))) := ⟨_, rfl⟩
          rw [← hV_48] at hR_47
          have h_49 := h_42.x5 (hRk_40.val5 (show ti_7.b < 3 by omega) hM_46)
          refine lv_aload_n hC.1 hC.2.1 dX5_drop_58 rfl (lv_at hl 0 rfl) ?_
          refine x_sipush hC dX5_drop_59 (by decide +kernel) ?_
          refine x_put (fs2 := [.int (iN (thk_40)), .int rfd, .ref va, .ref oa, .ref wa, .ref ya, .ref w_1, .int (iN (br)), .int (iN (re)), .int (iN ((-10000))), .int (iN (ha)), .int kp, .int kv]) hC hw hR_47.1.1 rfl hinX5 tyX5 tyX5_ok nmX5 9 (by decide) (by decide +kernel) rfl rfl rfl (Nat.le_of_ble_eq_true rfl) rfl dX5_drop_62 (fun H locs hw => ?_)
          obtain ⟨M_50, hM_51⟩ : ∃ z, z = va_up M_45 a (some (.inr (7, [.int (iN (thk_40)), .int rfd, .ref va, .ref oa, .ref wa, .ref ya, .ref w_1, .int (iN (br)), .int (iN (re)), .int (iN ((-10000))), .int (iN (ha)), .int kp, .int kv]))) := ⟨_, rfl⟩
          rw [← hM_51] at hw
          have hR_52 : MGx G M_50 a va oa wa ya (some w_1) thk_40 rfd br re (-10000) ha kp kv qv qw fa fb V_48 O fy Wv (some ti_7) S := hR_47.obj hM_51 (by have e9 := hR_47.sc; omega) hR_47.wk'
          have h_53 := h_49.x5 (hR_47.obj5 hM_51)
          refine lv_aload_n hC.1 hC.2.1 dX5_drop_65 rfl (lv_at hl 0 rfl) ?_
          refine x_sipush hC dX5_drop_66 (by decide +kernel) ?_
          refine x_put (fs2 := [.int (iN (thk_40)), .int rfd, .ref va, .ref oa, .ref wa, .ref ya, .ref w_1, .int (iN (br)), .int (iN (re)), .int (iN ((-10000))), .int (iN ((-10000))), .int kp, .int kv]) hC hw hR_52.1.1 rfl hinX5 tyX5 tyX5_ok nmX5 10 (by decide) (by decide +kernel) rfl rfl rfl (Nat.le_of_ble_eq_true rfl) rfl dX5_drop_69 (fun H locs hw => ?_)
          obtain ⟨M_54, hM_55⟩ : ∃ z, z = va_up M_50 a (some (.inr (7, [.int (iN (thk_40)), .int rfd, .ref va, .ref oa, .ref wa, .ref ya, .ref w_1, .int (iN (br)), .int (iN (re)), .int (iN ((-10000))), .int (iN ((-10000))), .int kp, .int kv]))) := ⟨_, rfl⟩
          rw [← hM_55] at hw
          have hR_56 : MGx G M_54 a va oa wa ya (some w_1) thk_40 rfd br re (-10000) (-10000) kp kv qv qw fa fb V_48 O fy Wv (some ti_7) S := hR_52.obj hM_55 (by have e9 := hR_52.sc; omega) hR_52.wk'
          have h_57 := h_53.x5 (hR_52.obj5 hM_55)
          refine lv_aload_n hC.1 hC.2.1 dX5_drop_72 rfl (lv_at hl 0 rfl) ?_
          refine lv_aload_n hC.1 hC.2.1 dX5_drop_73 rfl (lv_at hl 0 rfl) ?_
          refine x_get hC hw hR_56.1.1 rfl hinX5 6 (by decide) (by decide +kernel) rfl dX5_drop_74 ?_
          show W p l e R s m args below meth c _ _ _ _ _ (F0 m 77 ls [.ref w_1, .ref a])
          refine x_const hC dX5_drop_77 ?_
          refine x_ialdE (x := ((ti_7.b : Nat) : Int)) hC hw h_57.1 (by omega) (by omega) (by omega) dX5_drop_78 h_57.2.2.1 ?_
          refine x_callS hC hw (lv_size hl) (c_X5_whole l G (M := M_54) (p0 := ((ti_7.b : Nat) : Int)) (by omega) (by omega)) gX5_drop_X5_whole rfl dv_X5_whole_s rfl (Nat.le_of_ble_eq_true rfl) (by rw [hRf]; decide) (by rw [hRl]; decide) (by omega) (by omega) dX5_drop_79 (fun r9 M_58 H locs hq hw => ?_)
          simp only [Int.toNat_natCast] at hq
          obtain ⟨qk_59, fk_59, rfl, hxk_59, hIk_59⟩ := hq
          have h_60 := hR_56.ext hxk_59
          have h_61 := h_57.x5 (xExt.x5 hxk_59)
          obtain ⟨htat_62, htbt_62, htct_62, htdt_62, htet_62⟩ := id hIk_59.2.1
          have holk_59 := h_60.or' hIk_59.2.1.1
          show W p l e R s m args below meth c H locs _ _ _ (F0 m 82 ls [.ref qk_59, .ref a])
          refine x_callV hC hw (lv_size hl) (c_X5_many l G h_60 hIk_59) gX5_drop_X5_many rfl dv_X5_many h_60.1.1 rfl rfl (Nat.le_of_ble_eq_true rfl) (by rw [hRf]; decide) (by rw [hRl]; decide) (by omega) (by omega) dX5_drop_82 (fun r9 M_63 H locs hq hw => ?_)
          obtain ⟨z_64, rfl, hM9, hz_64a, hz_64m⟩ := hq
          rw [hM9] at hw
          show W p l e R s m args below meth c H locs _ _ _ (F0 m 85 ls [.int (iN (z_64))])
          exact x_iret hC hw dX5_drop_85 (by omega) (by omega) ⟨z_64, _, rfl, by omega, Or.inl ⟨by omega, by first | trivial | omega, (by have e8 := hz_64m; rw [mn_cnt, hV_48, upB_s, show la = ps9 by omega] at e8; exact e8), (by have e9 := h_60; rw [hV_48, show la = ps9 by omega] at e9; exact MGm.of (K := some (ti_7, ps9, 0, 0, 0)) e9 ⟨rfl, by omega, hre9, (if_neg (by omega)).symm, (if_neg (by omega)).symm, Or.inl rfl, Or.inl rfl, fun q9 => by omega, fun q9 => by omega, by omega, by omega⟩)⟩⟩
        · refine x_const hC dX5_drop_37 ?_
          exact x_iret hC hw dX5_drop_38 (by omega) (by omega) ⟨0, _, rfl, by omega, Or.inr ⟨by omega, by omega, MGm.of hRk_40 hK⟩⟩
      · refine x_const hC dX5_drop_25 ?_
        refine lv_goto (tgt := 30) hC.1 hC.2.1 dX5_drop_26 (by decide) ?_
        refine x_const hC dX5_drop_30 ?_
        refine x_callV hC hw (lv_size hl) (c_X5_start l G hR (p0 := 1) (by omega) (p1 := 1) (by omega) (by omega)) gX5_drop_X5_start rfl dv_X5_start hR.1.1 rfl rfl (Nat.le_of_ble_eq_true rfl) (by rw [hRf]; decide) (by rw [hRl]; decide) (by omega) (by omega) dX5_drop_31 (fun r9 M_65 H locs hq hw => ?_)
        obtain ⟨z_67, thk_66, rfl, hz_67a, hz_67b, hz_67c0, hz_67c1, hx5k_66, hRk_66⟩ := hq
        have h_68 := hIi_7.x5 hx5k_66
        have hsck_66 := hRk_66.sc
        show W p l e R s m args below meth c H locs _ _ _ (F0 m 34 ls [.int (iN (z_67))])
        refine x_if_eq (tgt := 39) hC ⟨by omega, by omega⟩ dX5_drop_34 (by decide) (fun c_69 => ?_) (fun c_69 => ?_)
        · refine lv_aload_n hC.1 hC.2.1 dX5_drop_39 rfl (lv_at hl 0 rfl) ?_
          refine x_get hC hw hRk_66.1.1 rfl hinX5 2 (by decide) (by decide +kernel) rfl dX5_drop_40 ?_
          refine lv_aload_n hC.1 hC.2.1 dX5_drop_43 rfl (lv_at hl 0 rfl) ?_
          refine x_get hC hw hRk_66.1.1 rfl hinX5 6 (by decide) (by decide +kernel) rfl dX5_drop_44 ?_
          show W p l e R s m args below meth c _ _ _ _ _ (F0 m 47 ls [.ref w_1, .ref va])
          refine x_const hC dX5_drop_47 ?_
          refine x_ialdE (x := ((ti_7.b : Nat) : Int)) hC hw h_68.1 (by omega) (by omega) (by omega) dX5_drop_48 h_68.2.2.1 ?_
          refine x_ald4 hC hw hRk_66.1.2.1 (by omega) (by omega) (by omega) dX5_drop_49 ?_
          rw [Int.toNat_natCast]
          rw [hRk_66.fa' (show ti_7.b < 3 by omega)]
          show W p l e R s m args below meth c _ _ _ _ _ (F0 m 50 ls [.ref (qv ti_7.b)])
          refine lv_aload_n hC.1 hC.2.1 dX5_drop_50 rfl (lv_at hl 0 rfl) ?_
          refine x_get hC hw hRk_66.1.1 rfl hinX5 9 (by decide) (by decide +kernel) rfl dX5_drop_51 ?_
          have sc_70 := hRk_66.sc
          refine x_sipush hC dX5_drop_54 (by decide +kernel) ?_
          refine x_iast hC hw (hRk_66.rv (show ti_7.b < 3 by omega)) (by omega) (by omega) (by omega) dX5_drop_57 (fun H locs hw => ?_)
          obtain ⟨M_71, hM_72⟩ : ∃ z, z = va_up M_65 (qv ti_7.b) (some (.inl (G.2 1, 100, .inl (upd (fun k9 => iN (V ti_7.b k9)) (la).toNat (iN ((-10000))))))) := ⟨_, rfl⟩
          rw [← hM_72] at hw
          have hR_73 := hRk_66.val (j := ti_7.b) (v := (-10000)) (by omega) hM_72 (by omega) (fun q9 => absurd rfl q9)
          obtain ⟨V_74, hV_74⟩ : ∃ z, z = (upB V ti_7.b (upV (V ti_7.b) ((la).toNat) (-10000))) := ⟨_, rfl⟩
          rw [← hV_74] at hR_73
          have h_75 := h_68.x5 (hRk_66.val5 (show ti_7.b < 3 by omega) hM_72)
          refine lv_aload_n hC.1 hC.2.1 dX5_drop_58 rfl (lv_at hl 0 rfl) ?_
          refine x_sipush hC dX5_drop_59 (by decide +kernel) ?_
          refine x_put (fs2 := [.int (iN (thk_66)), .int rfd, .ref va, .ref oa, .ref wa, .ref ya, .ref w_1, .int (iN (br)), .int (iN (re)), .int (iN ((-10000))), .int (iN (ha)), .int kp, .int kv]) hC hw hR_73.1.1 rfl hinX5 tyX5 tyX5_ok nmX5 9 (by decide) (by decide +kernel) rfl rfl rfl (Nat.le_of_ble_eq_true rfl) rfl dX5_drop_62 (fun H locs hw => ?_)
          obtain ⟨M_76, hM_77⟩ : ∃ z, z = va_up M_71 a (some (.inr (7, [.int (iN (thk_66)), .int rfd, .ref va, .ref oa, .ref wa, .ref ya, .ref w_1, .int (iN (br)), .int (iN (re)), .int (iN ((-10000))), .int (iN (ha)), .int kp, .int kv]))) := ⟨_, rfl⟩
          rw [← hM_77] at hw
          have hR_78 : MGx G M_76 a va oa wa ya (some w_1) thk_66 rfd br re (-10000) ha kp kv qv qw fa fb V_74 O fy Wv (some ti_7) S := hR_73.obj hM_77 (by have e9 := hR_73.sc; omega) hR_73.wk'
          have h_79 := h_75.x5 (hR_73.obj5 hM_77)
          refine lv_aload_n hC.1 hC.2.1 dX5_drop_65 rfl (lv_at hl 0 rfl) ?_
          refine x_sipush hC dX5_drop_66 (by decide +kernel) ?_
          refine x_put (fs2 := [.int (iN (thk_66)), .int rfd, .ref va, .ref oa, .ref wa, .ref ya, .ref w_1, .int (iN (br)), .int (iN (re)), .int (iN ((-10000))), .int (iN ((-10000))), .int kp, .int kv]) hC hw hR_78.1.1 rfl hinX5 tyX5 tyX5_ok nmX5 10 (by decide) (by decide +kernel) rfl rfl rfl (Nat.le_of_ble_eq_true rfl) rfl dX5_drop_69 (fun H locs hw => ?_)
          obtain ⟨M_80, hM_81⟩ : ∃ z, z = va_up M_76 a (some (.inr (7, [.int (iN (thk_66)), .int rfd, .ref va, .ref oa, .ref wa, .ref ya, .ref w_1, .int (iN (br)), .int (iN (re)), .int (iN ((-10000))), .int (iN ((-10000))), .int kp, .int kv]))) := ⟨_, rfl⟩
          rw [← hM_81] at hw
          have hR_82 : MGx G M_80 a va oa wa ya (some w_1) thk_66 rfd br re (-10000) (-10000) kp kv qv qw fa fb V_74 O fy Wv (some ti_7) S := hR_78.obj hM_81 (by have e9 := hR_78.sc; omega) hR_78.wk'
          have h_83 := h_79.x5 (hR_78.obj5 hM_81)
          refine lv_aload_n hC.1 hC.2.1 dX5_drop_72 rfl (lv_at hl 0 rfl) ?_
          refine lv_aload_n hC.1 hC.2.1 dX5_drop_73 rfl (lv_at hl 0 rfl) ?_
          refine x_get hC hw hR_82.1.1 rfl hinX5 6 (by decide) (by decide +kernel) rfl dX5_drop_74 ?_
          show W p l e R s m args below meth c _ _ _ _ _ (F0 m 77 ls [.ref w_1, .ref a])
          refine x_const hC dX5_drop_77 ?_
          refine x_ialdE (x := ((ti_7.b : Nat) : Int)) hC hw h_83.1 (by omega) (by omega) (by omega) dX5_drop_78 h_83.2.2.1 ?_
          refine x_callS hC hw (lv_size hl) (c_X5_whole l G (M := M_80) (p0 := ((ti_7.b : Nat) : Int)) (by omega) (by omega)) gX5_drop_X5_whole rfl dv_X5_whole_s rfl (Nat.le_of_ble_eq_true rfl) (by rw [hRf]; decide) (by rw [hRl]; decide) (by omega) (by omega) dX5_drop_79 (fun r9 M_84 H locs hq hw => ?_)
          simp only [Int.toNat_natCast] at hq
          obtain ⟨qk_85, fk_85, rfl, hxk_85, hIk_85⟩ := hq
          have h_86 := hR_82.ext hxk_85
          have h_87 := h_83.x5 (xExt.x5 hxk_85)
          obtain ⟨htat_88, htbt_88, htct_88, htdt_88, htet_88⟩ := id hIk_85.2.1
          have holk_85 := h_86.or' hIk_85.2.1.1
          show W p l e R s m args below meth c H locs _ _ _ (F0 m 82 ls [.ref qk_85, .ref a])
          refine x_callV hC hw (lv_size hl) (c_X5_many l G h_86 hIk_85) gX5_drop_X5_many rfl dv_X5_many h_86.1.1 rfl rfl (Nat.le_of_ble_eq_true rfl) (by rw [hRf]; decide) (by rw [hRl]; decide) (by omega) (by omega) dX5_drop_82 (fun r9 M_89 H locs hq hw => ?_)
          obtain ⟨z_90, rfl, hM9, hz_90a, hz_90m⟩ := hq
          rw [hM9] at hw
          show W p l e R s m args below meth c H locs _ _ _ (F0 m 85 ls [.int (iN (z_90))])
          exact x_iret hC hw dX5_drop_85 (by omega) (by omega) ⟨z_90, _, rfl, by omega, Or.inl ⟨by omega, by first | trivial | omega, (by have e8 := hz_90m; rw [mn_cnt, hV_74, upB_s, show la = ps9 by omega] at e8; exact e8), (by have e9 := h_86; rw [hV_74, show la = ps9 by omega] at e9; exact MGm.of (K := some (ti_7, ps9, 0, 0, 0)) e9 ⟨rfl, by omega, hre9, (if_neg (by omega)).symm, (if_neg (by omega)).symm, Or.inl rfl, Or.inl rfl, fun q9 => by omega, fun q9 => by omega, by omega, by omega⟩)⟩⟩
        · refine x_const hC dX5_drop_37 ?_
          exact x_iret hC hw dX5_drop_38 (by omega) (by omega) ⟨0, _, rfl, by omega, Or.inr ⟨by omega, by omega, MGm.of hRk_66 hK⟩⟩
set_option maxHeartbeats 4000000 in
set_option maxRecDepth 100000 in
theorem c_X5_keep (l : Launch) (G : xG) {M : HM} {a va oa wa ya : Nat} {wk : Option Nat} {th : Int} {rfd : Int32} {br re la ha : Int} {kp kv : Int32} {qv qw : Nat → Nat} {fa fb : Nat → Option Nat} {V : BW} {O : OW} {fy : Nat → Option Nat} {Wv : VW} {wt : Option VT} {S : Nat → Bool} (hR : MGx G M a va oa wa ya wk th rfd br re la ha kp kv qv qw fa fb V O fy Wv wt S) {K : WA} (hK : abM O wt br re la ha K) {p0 : Int} (hp0 : -2147483648 ≤ p0 ∧ p0 ≤ 2147483647) {p1 : Int} (hp1 : -2147483648 ≤ p1 ∧ p1 ≤ 2147483647) : xMet l G yX5_keep wsX5_keep 5 115 1 5 [.ref a, .int (iN (p0)), .int (iN (p1))] M (fun r M1 => ∃ (z th1 : Int), r = some (.int (iN z)) ∧ (-2147483648 ≤ z ∧ z ≤ 2147483647) ∧ ((th1 = 0 ∧ ((0 ≤ p0 ∧ p0 ≤ 2)) ∧ z = A_keep (O, V, Wv, K, kp, kv, rfd) p0 p1 ∧ MGm G M1 a S th1 (S_keep (O, V, Wv, K, kp, kv, rfd) p0 p1)) ∨ (th1 ≠ 0 ∧ ((th1 = 1 ∧ ¬ (0 ≤ p0 ∧ p0 ≤ 2))) ∧ MGm G M1 a S th1 (O, V, Wv, K, kp, kv, rfd)))) := by
  refine x_intro (cc := cX5_keep) (maxL := 4) (ret := (some .int)) (by decide +kernel) rfl (Nat.le_of_ble_eq_true rfl) ?_
  intro p e R s m args below meth c ls hRf hRc hRs hRl hC hw hl
  have hsc0 := hR.sc
  have hinX5 : ∀ w ∈ wsX50, w ∈ wsX5_keep := by decide +kernel
  have hl : lv_has ls 4 [(0, .ref a), (1, .int (iN (p0))), (2, .int (iN (p1)))] := hl
  refine lv_aload_n hC.1 hC.2.1 dX5_keep_0 rfl (lv_at hl 0 rfl) ?_
  refine lv_iload_n hC.1 hC.2.1 dX5_keep_1 rfl (lv_at hl 1 rfl) ?_
  refine x_callS hC hw (lv_size hl) (c_X5_isNoBook l G (M := M) (p0 := p0) (by omega)) gX5_keep_X5_isNoBook rfl dv_X5_isNoBook_s rfl (Nat.le_of_ble_eq_true rfl) (by rw [hRf]; decide) (by rw [hRl]; decide) (by omega) (by omega) dX5_keep_2 (fun r9 M_1 H locs hq hw => ?_)
  obtain ⟨z_2, rfl, hM9, hz_2a, hz_2b⟩ := hq
  rw [hM9] at hw
  show W p l e R s m args below meth c H locs _ _ _ (F0 m 5 ls [.int (iN (z_2)), .ref a])
  refine x_const hC dX5_keep_5 ?_
  refine x_callV hC hw (lv_size hl) (c_X5_start l G hR (p0 := z_2) (by omega) (p1 := 1) (by omega) (by omega)) gX5_keep_X5_start rfl dv_X5_start hR.1.1 rfl rfl (Nat.le_of_ble_eq_true rfl) (by rw [hRf]; decide) (by rw [hRl]; decide) (by omega) (by omega) dX5_keep_6 (fun r9 M_3 H locs hq hw => ?_)
  obtain ⟨z_5, thk_4, rfl, hz_5a, hz_5b, hz_5c0, hz_5c1, hx5k_4, hRk_4⟩ := hq
  have hsck_4 := hRk_4.sc
  show W p l e R s m args below meth c H locs _ _ _ (F0 m 9 ls [.int (iN (z_5))])
  refine x_if_eq (tgt := 14) hC ⟨by omega, by omega⟩ dX5_keep_9 (by decide) (fun c_6 => ?_) (fun c_6 => ?_)
  · refine lv_aload_n hC.1 hC.2.1 dX5_keep_14 rfl (lv_at hl 0 rfl) ?_
    refine lv_iload_n hC.1 hC.2.1 dX5_keep_15 rfl (lv_at hl 1 rfl) ?_
    refine x_callS hC hw (lv_size hl) (c_X5_whole l G (M := M_3) (p0 := p0) (by omega) (by omega)) gX5_keep_X5_whole rfl dv_X5_whole_s rfl (Nat.le_of_ble_eq_true rfl) (by rw [hRf]; decide) (by rw [hRl]; decide) (by omega) (by omega) dX5_keep_16 (fun r9 M_7 H locs hq hw => ?_)
    obtain ⟨qk_8, fk_8, rfl, hxk_8, hIk_8⟩ := hq
    have h_9 := hRk_4.ext hxk_8
    obtain ⟨htat_10, htbt_10, htct_10, htdt_10, htet_10⟩ := id hIk_8.2.1
    have holk_8 := h_9.or' hIk_8.2.1.1
    show W p l e R s m args below meth c H locs _ _ _ (F0 m 19 ls [.ref qk_8, .ref a])
    refine lv_iload_n hC.1 hC.2.1 dX5_keep_19 rfl (lv_at hl 2 rfl) ?_
    refine x_callV hC hw (lv_size hl) (c_X5_end l G h_9 hIk_8 (p0 := p1) (by omega)) gX5_keep_X5_end rfl dv_X5_end h_9.1.1 rfl rfl (Nat.le_of_ble_eq_true rfl) (by rw [hRf]; decide) (by rw [hRl]; decide) (by omega) (by omega) dX5_keep_20 (fun r9 M_11 H locs hq hw => ?_)
    obtain ⟨z_12, rfl, hM9, hz_12a, hz_12S, hz_12e⟩ := hq
    rw [hM9] at hw
    show W p l e R s m args below meth c H locs _ _ _ (F0 m 23 ls [.int (iN (z_12))])
    refine lv_istore_n (lv' := [(3, .int (iN (z_12))), (0, .ref a), (1, .int (iN (p0))), (2, .int (iN (p1)))]) hC.1 hC.2.1 dX5_keep_23 rfl hl (by decide) rfl (fun ls hl => ?_)
    refine lv_iload_n hC.1 hC.2.1 dX5_keep_24 rfl (lv_at hl 0 rfl) ?_
    refine x_sipush hC dX5_keep_25 (by decide +kernel) ?_
    refine x_icmp_ne (tgt := 35) hC ⟨by omega, by omega⟩ ⟨by omega, by omega⟩ dX5_keep_28 (by decide) (fun c_13 => ?_) (fun c_13 => ?_)
    · refine lv_aload_n hC.1 hC.2.1 dX5_keep_35 rfl (lv_at hl 1 rfl) ?_
      refine lv_iload_n hC.1 hC.2.1 dX5_keep_36 rfl (lv_at hl 0 rfl) ?_
      refine x_put (fs2 := [.int (iN (thk_4)), .int rfd, .ref va, .ref oa, .ref wa, .ref ya, va_rf (wk), .int (iN (br)), .int (iN (re)), .int (iN (la)), .int (iN (ha)), .int (iN (z_12)), .int kv]) hC hw h_9.1.1 rfl hinX5 tyX5 tyX5_ok nmX5 11 (by decide) (by decide +kernel) rfl rfl rfl (Nat.le_of_ble_eq_true rfl) rfl dX5_keep_37 (fun H locs hw => ?_)
      obtain ⟨M_14, hM_15⟩ : ∃ z, z = va_up M_7 a (some (.inr (7, [.int (iN (thk_4)), .int rfd, .ref va, .ref oa, .ref wa, .ref ya, va_rf (wk), .int (iN (br)), .int (iN (re)), .int (iN (la)), .int (iN (ha)), .int (iN (z_12)), .int kv]))) := ⟨_, rfl⟩
      rw [← hM_15] at hw
      have hR_16 : MGx G M_14 a va oa wa ya wk thk_4 rfd br re la ha (iN (z_12)) kv qv qw fa fb V O fy Wv wt S := h_9.obj hM_15 (by have e9 := h_9.sc; omega) h_9.wk'
      have h_17 := hIk_8.x5 (h_9.obj5 hM_15)
      refine lv_aload_n hC.1 hC.2.1 dX5_keep_40 rfl (lv_at hl 1 rfl) ?_
      refine lv_aload_n hC.1 hC.2.1 dX5_keep_41 rfl (lv_at hl 1 rfl) ?_
      refine x_get hC hw hR_16.1.1 rfl hinX5 2 (by decide) (by decide +kernel) rfl dX5_keep_42 ?_
      refine lv_iload_n hC.1 hC.2.1 dX5_keep_45 rfl (lv_at hl 2 rfl) ?_
      refine x_ald4 hC hw hR_16.1.2.1 (by omega) (by omega) (by omega) dX5_keep_46 ?_
      rw [hR_16.fa' (show (p0).toNat < 3 by omega)]
      show W p l e R s m args below meth c _ _ _ _ _ (F0 m 47 ls [.ref (qv ((p0).toNat)), .ref a])
      refine lv_iload_n hC.1 hC.2.1 dX5_keep_47 rfl (lv_at hl 0 rfl) ?_
      refine x_ialdE (x := (V ((p0).toNat) ((z_12).toNat))) hC hw (hR_16.rv (show ((p0).toNat) < 3 by omega)) (by omega) (by omega) (by omega) dX5_keep_48 rfl ?_
      have hrv_18 := hR_16.vr (show ((p0).toNat) < 3 by omega) (show (z_12).toNat < 100 by omega)
      have hpv_18 := hR_16.vs (show ((p0).toNat) < 3 by omega) (show (z_12).toNat < 100 by omega)
      refine x_put (fs2 := [.int (iN (thk_4)), .int rfd, .ref va, .ref oa, .ref wa, .ref ya, va_rf (wk), .int (iN (br)), .int (iN (re)), .int (iN (la)), .int (iN (ha)), .int (iN (z_12)), .int (iN ((V ((p0).toNat) ((z_12).toNat))))]) hC hw hR_16.1.1 rfl hinX5 tyX5 tyX5_ok nmX5 12 (by decide) (by decide +kernel) rfl rfl rfl (Nat.le_of_ble_eq_true rfl) rfl dX5_keep_49 (fun H locs hw => ?_)
      obtain ⟨M_19, hM_20⟩ : ∃ z, z = va_up M_14 a (some (.inr (7, [.int (iN (thk_4)), .int rfd, .ref va, .ref oa, .ref wa, .ref ya, va_rf (wk), .int (iN (br)), .int (iN (re)), .int (iN (la)), .int (iN (ha)), .int (iN (z_12)), .int (iN ((V ((p0).toNat) ((z_12).toNat))))]))) := ⟨_, rfl⟩
      rw [← hM_20] at hw
      have hR_21 : MGx G M_19 a va oa wa ya wk thk_4 rfd br re la ha (iN (z_12)) (iN ((V ((p0).toNat) ((z_12).toNat)))) qv qw fa fb V O fy Wv wt S := hR_16.obj hM_20 (by have e9 := hR_16.sc; omega) hR_16.wk'
      have h_22 := h_17.x5 (hR_16.obj5 hM_20)
      refine lv_iload_n hC.1 hC.2.1 dX5_keep_52 rfl (lv_at hl 0 rfl) ?_
      exact x_iret hC hw dX5_keep_53 (by omega) (by omega) ⟨z_12, _, rfl, by omega, Or.inl ⟨by omega, by first | trivial | omega, hz_12e, (by rw [S_keep, (show A_keep (O, V, Wv, K, kp, kv, rfd) p0 p1 = z_12 from (hz_12e).symm), if_neg (by omega)]; exact MGm.of hR_21 hK)⟩⟩
    · refine x_sipush hC dX5_keep_31 (by decide +kernel) ?_
      exact x_iret hC hw dX5_keep_34 (by omega) (by omega) ⟨(-10000), _, rfl, by omega, Or.inl ⟨by omega, by first | trivial | omega, (show _ = endF O V (whT (p0).toNat) p1 by have e9 := hz_12e; omega), (by rw [S_keep, if_pos ((show A_keep (O, V, Wv, K, kp, kv, rfd) p0 p1 = z_12 from (hz_12e).symm).trans (by omega))]; exact MGm.of h_9 hK)⟩⟩
  · refine x_const hC dX5_keep_12 ?_
    exact x_iret hC hw dX5_keep_13 (by omega) (by omega) ⟨0, _, rfl, by omega, Or.inr ⟨by omega, by omega, MGm.of hRk_4 hK⟩⟩
set_option maxHeartbeats 4000000 in
set_option maxRecDepth 100000 in
theorem c_X5_brand (l : Launch) (G : xG) {M : HM} {a va oa wa ya : Nat} {wk : Option Nat} {th : Int} {rfd : Int32} {br re la ha : Int} {kp kv : Int32} {qv qw : Nat → Nat} {fa fb : Nat → Option Nat} {V : BW} {O : OW} {fy : Nat → Option Nat} {Wv : VW} {wt : Option VT} {S : Nat → Bool} (hR : MGx G M a va oa wa ya wk th rfd br re la ha kp kv qv qw fa fb V O fy Wv wt S) {K : WA} (hK : abM O wt br re la ha K) {p0 : Int} (hp0 : -2147483648 ≤ p0 ∧ p0 ≤ 2147483647) : xMet l G yX5_brand wsX5_brand 2 44 0 0 [.ref a, .int (iN (p0))] M (fun r M1 => ∃ (z th1 : Int), r = some (.int (iN z)) ∧ (-2147483648 ≤ z ∧ z ≤ 2147483647) ∧ ((th1 = 0 ∧ ((-9999 ≤ p0 ∧ p0 ≤ 9999)) ∧ z = A_brand (O, V, Wv, K, kp, kv, rfd) p0 ∧ MGm G M1 a S th1 (S_brand (O, V, Wv, K, kp, kv, rfd) p0)) ∨ (th1 ≠ 0 ∧ ((th1 = 1 ∧ ¬ (-9999 ≤ p0 ∧ p0 ≤ 9999))) ∧ MGm G M1 a S th1 (O, V, Wv, K, kp, kv, rfd)))) := by
  refine x_intro (cc := cX5_brand) (maxL := 2) (ret := (some .int)) (by decide +kernel) rfl (Nat.le_of_ble_eq_true rfl) ?_
  intro p e R s m args below meth c ls hRf hRc hRs hRl hC hw hl
  have hsc0 := hR.sc
  have hinX5 : ∀ w ∈ wsX50, w ∈ wsX5_brand := by decide +kernel
  have hl : lv_has ls 2 [(0, .ref a), (1, .int (iN (p0)))] := hl
  refine lv_aload_n hC.1 hC.2.1 dX5_brand_0 rfl (lv_at hl 0 rfl) ?_
  refine lv_iload_n hC.1 hC.2.1 dX5_brand_1 rfl (lv_at hl 1 rfl) ?_
  refine x_callS hC hw (lv_size hl) (c_X5_isNoValue l G (M := M) (p0 := p0) (by omega)) gX5_brand_X5_isNoValue rfl dv_X5_isNoValue_s rfl (Nat.le_of_ble_eq_true rfl) (by rw [hRf]; decide) (by rw [hRl]; decide) (by omega) (by omega) dX5_brand_2 (fun r9 M_1 H locs hq hw => ?_)
  obtain ⟨z_2, rfl, hM9, hz_2a, hz_2b⟩ := hq
  rw [hM9] at hw
  show W p l e R s m args below meth c H locs _ _ _ (F0 m 5 ls [.int (iN (z_2)), .ref a])
  refine x_const hC dX5_brand_5 ?_
  refine x_callV hC hw (lv_size hl) (c_X5_start l G hR (p0 := z_2) (by omega) (p1 := 1) (by omega) (by omega)) gX5_brand_X5_start rfl dv_X5_start hR.1.1 rfl rfl (Nat.le_of_ble_eq_true rfl) (by rw [hRf]; decide) (by rw [hRl]; decide) (by omega) (by omega) dX5_brand_6 (fun r9 M_3 H locs hq hw => ?_)
  obtain ⟨z_5, thk_4, rfl, hz_5a, hz_5b, hz_5c0, hz_5c1, hx5k_4, hRk_4⟩ := hq
  have hsck_4 := hRk_4.sc
  show W p l e R s m args below meth c H locs _ _ _ (F0 m 9 ls [.int (iN (z_5))])
  refine x_if_eq (tgt := 14) hC ⟨by omega, by omega⟩ dX5_brand_9 (by decide) (fun c_6 => ?_) (fun c_6 => ?_)
  · refine lv_aload_n hC.1 hC.2.1 dX5_brand_14 rfl (lv_at hl 0 rfl) ?_
    refine x_getR hC hw hRk_4.1.1 rfl hinX5 11 (by decide) (by decide +kernel) rfl dX5_brand_15 ?_
    have hrr_7 := iN_rng kp
    refine x_sipush hC dX5_brand_18 (by decide +kernel) ?_
    refine x_icmp_ne (tgt := 30) hC ⟨by omega, by omega⟩ ⟨by omega, by omega⟩ dX5_brand_21 (by decide) (fun c_8 => ?_) (fun c_8 => ?_)
    · refine x_sipush hC dX5_brand_30 (by decide +kernel) ?_
      exact x_iret hC hw dX5_brand_33 (by omega) (by omega) ⟨(-20000), _, rfl, by omega, Or.inl ⟨by omega, by first | trivial | omega, (show _ = (if kp.toInt = -10000 then -10000 else -20000) by omega), MGm.of hRk_4 hK⟩⟩
    · refine x_sipush hC dX5_brand_24 (by decide +kernel) ?_
      refine lv_goto (tgt := 33) hC.1 hC.2.1 dX5_brand_27 (by decide) ?_
      exact x_iret hC hw dX5_brand_33 (by omega) (by omega) ⟨(-10000), _, rfl, by omega, Or.inl ⟨by omega, by first | trivial | omega, (show _ = (if kp.toInt = -10000 then -10000 else -20000) by omega), MGm.of hRk_4 hK⟩⟩
  · refine x_const hC dX5_brand_12 ?_
    exact x_iret hC hw dX5_brand_13 (by omega) (by omega) ⟨0, _, rfl, by omega, Or.inr ⟨by omega, by omega, MGm.of hRk_4 hK⟩⟩
set_option maxHeartbeats 4000000 in
set_option maxRecDepth 100000 in
theorem c_X5_knock (l : Launch) (G : xG) {M : HM} {a va oa wa ya : Nat} {wk : Option Nat} {th : Int} {rfd : Int32} {br re la ha : Int} {kp kv : Int32} {qv qw : Nat → Nat} {fa fb : Nat → Option Nat} {V : BW} {O : OW} {fy : Nat → Option Nat} {Wv : VW} {wt : Option VT} {S : Nat → Bool} (hR : MGx G M a va oa wa ya wk th rfd br re la ha kp kv qv qw fa fb V O fy Wv wt S) {K : WA} (hK : abM O wt br re la ha K) : xMet l G yX5_knock wsX5_knock 0 0 0 0 [.ref a] M (fun r M1 => r = some (.int (iN (rfd.toInt + 1))) ∧ MGm G M1 a S 0 (S_knock (O, V, Wv, K, kp, kv, rfd))) := by
  refine x_intro (cc := cX5_knock) (maxL := 1) (ret := (some .int)) (by decide +kernel) rfl (Nat.le_of_ble_eq_true rfl) ?_
  intro p e R s m args below meth c ls hRf hRc hRs hRl hC hw hl
  have hsc0 := hR.sc
  have hinX5 : ∀ w ∈ wsX50, w ∈ wsX5_knock := by decide +kernel
  have hl : lv_has ls 1 [(0, .ref a)] := hl
  refine lv_aload_n hC.1 hC.2.1 dX5_knock_0 rfl (lv_at hl 0 rfl) ?_
  refine x_const hC dX5_knock_1 ?_
  refine x_put (fs2 := [.int (iN (0)), .int rfd, .ref va, .ref oa, .ref wa, .ref ya, va_rf (wk), .int (iN (br)), .int (iN (re)), .int (iN (la)), .int (iN (ha)), .int kp, .int kv]) hC hw hR.1.1 rfl hinX5 tyX5 tyX5_ok nmX5 0 (by decide) (by decide +kernel) rfl rfl rfl (Nat.le_of_ble_eq_true rfl) rfl dX5_knock_2 (fun H locs hw => ?_)
  obtain ⟨M_1, hM_2⟩ : ∃ z, z = va_up M a (some (.inr (7, [.int (iN (0)), .int rfd, .ref va, .ref oa, .ref wa, .ref ya, va_rf (wk), .int (iN (br)), .int (iN (re)), .int (iN (la)), .int (iN (ha)), .int kp, .int kv]))) := ⟨_, rfl⟩
  rw [← hM_2] at hw
  have hR_3 : MGx G M_1 a va oa wa ya wk 0 rfd br re la ha kp kv qv qw fa fb V O fy Wv wt S := hR.obj hM_2 (by have e9 := hR.sc; omega) hR.wk'
  refine lv_aload_n hC.1 hC.2.1 dX5_knock_5 rfl (lv_at hl 0 rfl) ?_
  refine lv_dup hC.1 hC.2.1 dX5_knock_6 rfl ?_
  refine x_getR hC hw hR_3.1.1 rfl hinX5 1 (by decide) (by decide +kernel) rfl dX5_knock_7 ?_
  have hrr_4 := iN_rng rfd
  refine x_const hC dX5_knock_10 ?_
  refine x_iadd hC dX5_knock_11 ?_
  refine x_put (fs2 := [.int (iN (0)), .int (iN (rfd.toInt + 1)), .ref va, .ref oa, .ref wa, .ref ya, va_rf (wk), .int (iN (br)), .int (iN (re)), .int (iN (la)), .int (iN (ha)), .int kp, .int kv]) hC hw hR_3.1.1 rfl hinX5 tyX5 tyX5_ok nmX5 1 (by decide) (by decide +kernel) rfl rfl rfl (Nat.le_of_ble_eq_true rfl) rfl dX5_knock_12 (fun H locs hw => ?_)
  obtain ⟨M_5, hM_6⟩ : ∃ z, z = va_up M_1 a (some (.inr (7, [.int (iN (0)), .int (iN (rfd.toInt + 1)), .ref va, .ref oa, .ref wa, .ref ya, va_rf (wk), .int (iN (br)), .int (iN (re)), .int (iN (la)), .int (iN (ha)), .int kp, .int kv]))) := ⟨_, rfl⟩
  rw [← hM_6] at hw
  have hR_7 : MGx G M_5 a va oa wa ya wk 0 (iN (rfd.toInt + 1)) br re la ha kp kv qv qw fa fb V O fy Wv wt S := hR_3.obj hM_6 (by have e9 := hR_3.sc; omega) hR_3.wk'
  refine lv_aload_n hC.1 hC.2.1 dX5_knock_15 rfl (lv_at hl 0 rfl) ?_
  refine x_getR hC hw hR_7.1.1 rfl hinX5 1 (by decide) (by decide +kernel) rfl dX5_knock_16 ?_
  have hrr_8 := iN_rng (iN (rfd.toInt + 1))
  exact x_iret hC hw dX5_knock_19 (by omega) (by omega) ⟨by simp only [iN_asI], MGm.of hR_7 hK⟩
set_option maxHeartbeats 4000000 in
set_option maxRecDepth 100000 in
theorem c_X5_copy (l : Launch) (G : xG) {M : HM} {a va oa wa ya : Nat} {wk : Option Nat} {th : Int} {rfd : Int32} {br re la ha : Int} {kp kv : Int32} {qv qw : Nat → Nat} {fa fb : Nat → Option Nat} {V : BW} {O : OW} {fy : Nat → Option Nat} {Wv : VW} {wt : Option VT} {S : Nat → Bool} (hR : MGx G M a va oa wa ya wk th rfd br re la ha kp kv qv qw fa fb V O fy Wv wt S) {K : WA} (hK : abM O wt br re la ha K) {p0 : Int} (hp0 : -2147483648 ≤ p0 ∧ p0 ≤ 2147483647) {p1 : Int} (hp1 : -2147483648 ≤ p1 ∧ p1 ≤ 2147483647) : xMet l G yX5_copy wsX5_copy 3 66 0 0 [.ref a, .int (iN (p0)), .int (iN (p1))] M (fun r M1 => ∃ (z th1 : Int), r = some (.int (iN z)) ∧ (-2147483648 ≤ z ∧ z ≤ 2147483647) ∧ ((th1 = 0 ∧ (((0 ≤ p0 ∧ p0 ≤ 2) ∧ (0 ≤ p1 ∧ p1 ≤ 2)) ∧ (p0 ≠ p1)) ∧ z = A_copy (O, V, Wv, K, kp, kv, rfd) p0 p1 ∧ MGm G M1 a S th1 (S_copy (O, V, Wv, K, kp, kv, rfd) p0 p1)) ∨ (th1 ≠ 0 ∧ ((th1 = 1 ∧ ¬ ((0 ≤ p0 ∧ p0 ≤ 2) ∧ (0 ≤ p1 ∧ p1 ≤ 2))) ∨ (th1 = 2 ∧ ((0 ≤ p0 ∧ p0 ≤ 2) ∧ (0 ≤ p1 ∧ p1 ≤ 2)) ∧ ¬ (p0 ≠ p1))) ∧ MGm G M1 a S th1 (O, V, Wv, K, kp, kv, rfd)))) := by
  refine x_intro (cc := cX5_copy) (maxL := 5) (ret := (some .int)) (by decide +kernel) rfl (Nat.le_of_ble_eq_true rfl) ?_
  intro p e R s m args below meth c ls hRf hRc hRs hRl hC hw hl
  have hsc0 := hR.sc
  have hinX5 : ∀ w ∈ wsX50, w ∈ wsX5_copy := by decide +kernel
  have hl : lv_has ls 5 [(0, .ref a), (1, .int (iN (p0))), (2, .int (iN (p1)))] := hl
  refine lv_aload_n hC.1 hC.2.1 dX5_copy_0 rfl (lv_at hl 0 rfl) ?_
  refine lv_iload_n hC.1 hC.2.1 dX5_copy_1 rfl (lv_at hl 1 rfl) ?_
  refine lv_iload_n hC.1 hC.2.1 dX5_copy_2 rfl (lv_at hl 2 rfl) ?_
  refine x_callV hC hw (lv_size hl) (c_X5_areBad l G hR (p0 := p0) (by omega) (p1 := p1) (by omega)) gX5_copy_X5_areBad rfl dv_X5_areBad hR.1.1 rfl rfl (Nat.le_of_ble_eq_true rfl) (by rw [hRf]; decide) (by rw [hRl]; decide) (by omega) (by omega) dX5_copy_3 (fun r9 M_1 H locs hq hw => ?_)
  obtain ⟨z_3, thk_2, rfl, hz_3a, hz_3b, hz_3c0, hz_3c1, hz_3c2, hx5k_2, hRk_2⟩ := hq
  have hsck_2 := hRk_2.sc
  show W p l e R s m args below meth c H locs _ _ _ (F0 m 6 ls [.int (iN (z_3))])
  refine x_if_eq (tgt := 11) hC ⟨by omega, by omega⟩ dX5_copy_6 (by decide) (fun c_4 => ?_) (fun c_4 => ?_)
  · refine lv_aload_n hC.1 hC.2.1 dX5_copy_11 rfl (lv_at hl 0 rfl) ?_
    refine x_get hC hw hRk_2.1.1 rfl hinX5 6 (by decide) (by decide +kernel) rfl dX5_copy_12 ?_
    rcases wk with _ | w_5
    · have hwt_6 := hRk_2.wk'.nil rfl
      subst hwt_6
      have hkn := abM_none hK
      subst hkn
      have hks0 := kS_nil
      show W p l e R s m args below meth c _ _ _ _ _ (F0 m 15 ls [.null])
      refine lv_ifnullN (tgt := 33) hC.1 hC.2.1 dX5_copy_15 (by decide) ?_
      refine x_const hC dX5_copy_33 ?_
      refine lv_istore_n (lv' := [(3, .int (iN (0))), (0, .ref a), (1, .int (iN (p0))), (2, .int (iN (p1)))]) hC.1 hC.2.1 dX5_copy_34 rfl hl (by decide) rfl (fun ls hl => ?_)
      refine x_const hC dX5_copy_35 ?_
      refine lv_istore (lv' := [(4, .int (iN (0))), (3, .int (iN (0))), (0, .ref a), (1, .int (iN (p0))), (2, .int (iN (p1)))]) hC.1 hC.2.1 dX5_copy_36 hl (by decide) rfl (fun ls hl => ?_)
      suffices hloop38 : ∀ (n9 : Nat) (n : Int) (j : Int) (M1 : HM) (fy1 : Nat → Option Nat) (Wv1 : VW) (hR1 : MGx G M1 a va oa wa ya none thk_2 rfd br re la ha kp kv qv qw fa fb V O fy1 Wv1 none S) (hW1 : Wv1 = shN Wv (p1).toNat (j).toNat) (hx0 : xI5 G M M1) (H : Heap) (locs : List Loc) (ls : Array Slot), (hmu : (4 - j).toNat < n9) → (hi0 : 0 ≤ j ∧ j ≤ 4) → (hi1 : 0 ≤ n ∧ n ≤ j) → (hcn : n = vwN Wv (p1).toNat (j).toNat) → xD G (xA M s.heap.size) s M1 H locs → lv_has ls 5 [(0, .ref a), (1, .int (iN (p0))), (2, .int (iN (p1))), (3, .int (iN (n))), (4, .int (iN (j)))] → W p l e R s m args below meth c H locs _ _ _ (F0 m 38 ls []) by
        exact hloop38 _ 0 0 _ _ _ hRk_2 (shN_0 Wv (p1).toNat) (hx5k_2) _ _ _ (Nat.lt_succ_self _) (by omega) (by omega) (rfl) hw (lv_sub hl [2, 3, 4, 1, 0] rfl)
      intro n9
      induction n9 with
      | zero => intro n j M1 fy1 Wv1 hR1 hW1 hx0 H locs ls hmu; exact absurd hmu (Nat.not_lt_zero _)
      | succ n9 ih38 =>
        intro n j M1 fy1 Wv1 hR1 hW1 hx0 H locs ls hmu hi0 hi1 hcn hw hl
        have hsc1 := hR1.sc
        refine lv_iload hC.1 hC.2.1 dX5_copy_38 (lv_at hl 4 rfl) ?_
        refine x_const hC dX5_copy_40 ?_
        refine x_icmp_ge (tgt := 87) hC ⟨by omega, by omega⟩ ⟨by omega, by omega⟩ dX5_copy_41 (by decide) (fun c_7 => ?_) (fun c_7 => ?_)
        · have hW9 : Wv1 = shN Wv (p1).toNat 4 := by rw [hW1, show (j).toNat = 4 by omega]
          have hcn9 : n = vwN Wv (p1).toNat 4 := by rw [show (4 : Nat) = (j).toNat by omega]; exact hcn
          refine lv_aload_n hC.1 hC.2.1 dX5_copy_87 rfl (lv_at hl 0 rfl) ?_
          refine x_get hC hw hR1.1.1 rfl hinX5 3 (by decide) (by decide +kernel) rfl dX5_copy_88 ?_
          refine lv_iload_n hC.1 hC.2.1 dX5_copy_91 rfl (lv_at hl 2 rfl) ?_
          refine lv_aload_n hC.1 hC.2.1 dX5_copy_92 rfl (lv_at hl 0 rfl) ?_
          refine x_get hC hw hR1.1.1 rfl hinX5 3 (by decide) (by decide +kernel) rfl dX5_copy_93 ?_
          refine lv_iload_n hC.1 hC.2.1 dX5_copy_96 rfl (lv_at hl 1 rfl) ?_
          refine x_ialdE (x := ((O ((p0).toNat) : Nat) : Int)) hC hw hR1.1.2.2.1 (by omega) (by omega) (by omega) dX5_copy_97 rfl ?_
          have hro_8 : O ((p0).toNat) < 3 := hR1.or' (by omega)
          refine x_iast hC hw hR1.1.2.2.1 (by omega) (by omega) (by omega) dX5_copy_98 (fun H locs hw => ?_)
          obtain ⟨M_9, hM_10⟩ : ∃ z, z = va_up M1 oa (some (.inl (G.2 1, 3, .inl (upd (fun j9 => iN ((O j9 : Nat) : Int)) (p1).toNat (iN (((O ((p0).toNat) : Nat) : Int))))))) := ⟨_, rfl⟩
          rw [← hM_10] at hw
          have hR_11 := hR1.ord (o := O ((p0).toNat)) hM_10 (by omega) (by omega)
          obtain ⟨O_12, hO_12⟩ : ∃ z, z = (upO O ((p1).toNat) (O ((p0).toNat))) := ⟨_, rfl⟩
          rw [← hO_12] at hR_11
          refine x_const hC dX5_copy_99 ?_
          refine lv_istore (lv' := [(4, .int (iN (0))), (0, .ref a), (1, .int (iN (p0))), (2, .int (iN (p1))), (3, .int (iN (n)))]) hC.1 hC.2.1 dX5_copy_100 hl (by decide) rfl (fun ls hl => ?_)
          suffices hloop102 : ∀ (n9 : Nat) (j : Int) (M1 : HM) (br1 : Int) (V1 : BW) (hR1 : MGx G M1 a va oa wa ya none thk_2 rfd br1 re la ha kp kv qv qw fa fb V1 O_12 fy1 Wv1 none S) (hx1 : xI5 G M M1) (hV1 : V1 = upB V ((p1).toNat) (mapN (V ((p1).toNat)) (V (p0).toNat) (j).toNat)) (hbr1 : br1 = brL none ((p1).toNat) (V ((p1).toNat)) (V (p0).toNat) (j).toNat br) (H : Heap) (locs : List Loc) (ls : Array Slot), (hmu : (100 - j).toNat < n9) → (hi0 : 0 ≤ j ∧ j ≤ 100) → xD G (xA M s.heap.size) s M1 H locs → lv_has ls 5 [(0, .ref a), (1, .int (iN (p0))), (2, .int (iN (p1))), (3, .int (iN (n))), (4, .int (iN (j)))] → W p l e R s m args below meth c H locs _ _ _ (F0 m 102 ls []) by
            exact hloop102 _ 0 _ _ _ hR_11 (xI5.tr hx0 ((hR1.ord5 hM_10))) ml_0 bl_0 _ _ _ (Nat.lt_succ_self _) (by omega) hw (lv_sub hl [1, 2, 3, 4, 0] rfl)
          intro n9
          induction n9 with
          | zero => intro j M1 br1 V1 hR1 hx1 hV1 hbr1 H locs ls hmu; exact absurd hmu (Nat.not_lt_zero _)
          | succ n9 ih102 =>
            intro j M1 br1 V1 hR1 hx1 hV1 hbr1 H locs ls hmu hi0 hw hl
            have hvj : V1 ((p1).toNat) (j).toNat = V ((p1).toNat) (j).toNat := ml_at hV1
            have hsc1 := hR1.sc
            have hvo : V1 (p0).toNat (j).toNat = V (p0).toNat (j).toNat := by rw [hV1, upB_n _ _ (by omega)]
            refine lv_iload hC.1 hC.2.1 dX5_copy_102 (lv_at hl 4 rfl) ?_
            refine x_bipush hC dX5_copy_104 (by decide +kernel) ?_
            refine x_icmp_ge (tgt := 132) hC ⟨by omega, by omega⟩ ⟨by omega, by omega⟩ dX5_copy_106 (by decide) (fun c_13 => ?_) (fun c_13 => ?_)
            · refine lv_iload_n hC.1 hC.2.1 dX5_copy_132 rfl (lv_at hl 3 rfl) ?_
              exact x_iret hC hw dX5_copy_133 (by omega) (by omega) ⟨n, _, rfl, by omega, Or.inl ⟨by omega, by first | trivial | omega, hcn9, (by have e9 : (j).toNat = 100 := (by omega); rw [e9] at hV1 hbr1; have e8 := hR1; rw [hV1, hW9, hO_12] at e8; exact MGm.of e8 (by rw [brL_no (inB_none _)] at hbr1; rw [hbr1]; exact abM_cp0 hK))⟩⟩
            · refine lv_aload_n hC.1 hC.2.1 dX5_copy_109 rfl (lv_at hl 0 rfl) ?_
              refine lv_iload_n hC.1 hC.2.1 dX5_copy_110 rfl (lv_at hl 2 rfl) ?_
              refine lv_iload hC.1 hC.2.1 dX5_copy_111 (lv_at hl 4 rfl) ?_
              refine lv_aload_n hC.1 hC.2.1 dX5_copy_113 rfl (lv_at hl 0 rfl) ?_
              refine x_get hC hw hR1.1.1 rfl hinX5 2 (by decide) (by decide +kernel) rfl dX5_copy_114 ?_
              refine lv_iload_n hC.1 hC.2.1 dX5_copy_117 rfl (lv_at hl 1 rfl) ?_
              refine x_ald4 hC hw hR1.1.2.1 (by omega) (by omega) (by omega) dX5_copy_118 ?_
              rw [hR1.fa' (show (p0).toNat < 3 by omega)]
              show W p l e R s m args below meth c _ _ _ _ _ (F0 m 119 ls [.ref (qv ((p0).toNat)), .int (iN (j)), .int (iN (p1)), .ref a])
              refine lv_iload hC.1 hC.2.1 dX5_copy_119 (lv_at hl 4 rfl) ?_
              refine x_ialdE (x := (V1 ((p0).toNat) ((j).toNat))) hC hw (hR1.rv (show ((p0).toNat) < 3 by omega)) (by omega) (by omega) (by omega) dX5_copy_121 rfl ?_
              have hrv_14 := hR1.vr (show ((p0).toNat) < 3 by omega) (show (j).toNat < 100 by omega)
              have hpv_14 := hR1.vs (show ((p0).toNat) < 3 by omega) (show (j).toNat < 100 by omega)
              refine x_callV hC hw (lv_size hl) (c_X5_set l G hR1 (p0 := p1) (by omega) (p1 := j) (by omega) (p2 := (V1 ((p0).toNat) ((j).toNat))) (by omega) (by omega) (by omega) (by omega) (by intro q9; first | exact absurd rfl q9 | assumption | exact hpv_14 q9 | exact hpv_14 (by omega))) gX5_copy_X5_set rfl dv_X5_set hR1.1.1 rfl rfl (Nat.le_of_ble_eq_true rfl) (by rw [hRf]; decide) (by rw [hRl]; decide) (by omega) (by omega) dX5_copy_122 (fun r9 M_15 H locs hq hw => ?_)
              obtain ⟨z_17, brk_16, Vk_16, rfl, hz_17a, hz_17v, hz_17b, he0k_16, he1k_16, hx5k_16, hRk_16⟩ := hq
              have hsck_16 := hRk_16.sc
              show W p l e R s m args below meth c H locs _ _ _ (F0 m 125 ls [.int (iN (z_17))])
              refine lv_pop hC.1 hC.2.1 dX5_copy_125 rfl ?_
              refine x_iinc (lv' := [(4, .int (iN (j + 1))), (0, .ref a), (1, .int (iN (p0))), (2, .int (iN (p1))), (3, .int (iN (n)))]) hC dX5_copy_126 hl (k := 4) rfl (by decide) rfl (fun ls hl => ?_)
              refine lv_goto (tgt := 102) hC.1 hC.2.1 dX5_copy_129 (by decide) ?_
              exact ih102 (j + 1) _ _ _ hRk_16 (xI5.tr hx1 (hx5k_16)) (ml_set (by omega) hV1 he1k_16 (show (V1 ((p0).toNat) ((j).toNat)) = (V (p0).toNat) (j).toNat by exact hvo)) (bl_set (by omega) hV1 hbr1 (show (V1 ((p0).toNat) ((j).toNat)) = (V (p0).toNat) (j).toNat by exact hvo) he0k_16) _ _ _ (by omega) (by omega) hw (lv_sub hl [1, 2, 3, 4, 0] rfl)
        · refine lv_aload_n hC.1 hC.2.1 dX5_copy_44 rfl (lv_at hl 0 rfl) ?_
          refine x_get hC hw hR1.1.1 rfl hinX5 5 (by decide) (by decide +kernel) rfl dX5_copy_45 ?_
          refine lv_iload hC.1 hC.2.1 dX5_copy_48 (lv_at hl 4 rfl) ?_
          refine x_ald4 hC hw hR1.1.2.2.2.2.1 (by omega) (by omega) (by omega) dX5_copy_50 ?_
          rcases hy_19 : fy1 ((j).toNat) with _ | y_18
          · have hnhy_19 : Wv1 ((j).toNat) = none := (hR1.vw (show (j).toNat < 4 by omega)).nil hy_19
            have hohy_19 := opN_none hnhy_19
            show W p l e R s m args below meth c _ _ _ _ _ (F0 m 51 ls [.null])
            refine lv_ifnullN (tgt := 81) hC.1 hC.2.1 dX5_copy_51 (by decide) ?_
            refine x_iinc (lv' := [(4, .int (iN (j + 1))), (0, .ref a), (1, .int (iN (p0))), (2, .int (iN (p1))), (3, .int (iN (n)))]) hC dX5_copy_81 hl (k := 4) rfl (by decide) rfl (fun ls hl => ?_)
            refine lv_goto (tgt := 38) hC.1 hC.2.1 dX5_copy_84 (by decide) ?_
            exact ih38 n (j + 1) _ _ _ hR1 (by rw [show (j + 1).toNat = (j).toNat + 1 by omega]; exact shN_nil hW1 hnhy_19) hx0 _ _ _ (by omega) (by omega) (by omega) (by rw [vwN_s (by omega) (vbN_nil (show Wv (j).toNat = none by rw [← shN_at hW1]; exact hnhy_19))]; omega) hw (lv_sub hl [1, 2, 3, 4, 0] rfl)
          · obtain ⟨ti_20, fi_20, hui_20, hIi_20⟩ := (hR1.vw (show (j).toNat < 4 by omega)).yes hy_19
            obtain ⟨htat_21, htbt_21, htct_21, htdt_21, htet_21⟩ := id hIi_20.2.1
            have hohy_19 := opN_some hui_20
            show W p l e R s m args below meth c _ _ _ _ _ (F0 m 51 ls [.ref y_18])
            refine lv_ifnull hC.1 hC.2.1 dX5_copy_51 ?_
            refine lv_aload_n hC.1 hC.2.1 dX5_copy_54 rfl (lv_at hl 0 rfl) ?_
            refine x_get hC hw hR1.1.1 rfl hinX5 5 (by decide) (by decide +kernel) rfl dX5_copy_55 ?_
            refine lv_iload hC.1 hC.2.1 dX5_copy_58 (lv_at hl 4 rfl) ?_
            refine x_ald4 hC hw hR1.1.2.2.2.2.1 (by omega) (by omega) (by omega) dX5_copy_60 ?_
            rw [hy_19]
            show W p l e R s m args below meth c _ _ _ _ _ (F0 m 61 ls [.ref y_18])
            refine x_const hC dX5_copy_61 ?_
            refine x_ialdE (x := ((ti_20.b : Nat) : Int)) hC hw hIi_20.1 (by omega) (by omega) (by omega) dX5_copy_62 hIi_20.2.2.1 ?_
            refine lv_iload_n hC.1 hC.2.1 dX5_copy_63 rfl (lv_at hl 2 rfl) ?_
            refine x_icmp_eq (tgt := 70) hC ⟨by omega, by omega⟩ ⟨by omega, by omega⟩ dX5_copy_64 (by decide) (fun c_22 => ?_) (fun c_22 => ?_)
            · refine lv_aload_n hC.1 hC.2.1 dX5_copy_70 rfl (lv_at hl 0 rfl) ?_
              refine x_get hC hw hR1.1.1 rfl hinX5 5 (by decide) (by decide +kernel) rfl dX5_copy_71 ?_
              refine lv_iload hC.1 hC.2.1 dX5_copy_74 (lv_at hl 4 rfl) ?_
              refine lv_null hC.1 hC.2.1 dX5_copy_76 ?_
              refine x_ast4N hC hw hR1.1.2.2.2.2.1 (by omega) (by omega) (by omega) dX5_copy_77 (fun H locs hw => ?_)
              obtain ⟨M_23, hM_24⟩ : ∃ z, z = va_up M1 ya (some (.inl (G.2 4, 4, .inr (.inr (.inr (.inr (va_up fy1 (j).toNat none))))))) := ⟨_, rfl⟩
              rw [← hM_24] at hw
              have hR_25 := hR1.vws (W2 := (upW Wv1 ((j).toNat) none)) hM_24 (fun j9 hj => by by_cases e9 : j9 = (j).toNat; (· subst e9; rw [va_up_self, upW_s]; trivial); (· rw [va_up_ne _ _ e9, upW_n _ _ e9]; exact hR1.vw hj))
              obtain ⟨fy_26, hfy_26⟩ : ∃ z, z = (va_up fy1 (j).toNat none) := ⟨_, rfl⟩
              rw [← hfy_26] at hR_25
              obtain ⟨Wv_27, hWv_27⟩ : ∃ z, z = (upW Wv1 ((j).toNat) none) := ⟨_, rfl⟩
              rw [← hWv_27] at hR_25
              have h_28 := hIi_20.x5 (hR1.vws5 hM_24)
              refine x_iinc (lv' := [(3, .int (iN (n + 1))), (0, .ref a), (1, .int (iN (p0))), (2, .int (iN (p1))), (4, .int (iN (j)))]) hC dX5_copy_78 hl (k := 3) rfl (by decide) rfl (fun ls hl => ?_)
              refine x_iinc (lv' := [(4, .int (iN (j + 1))), (3, .int (iN (n + 1))), (0, .ref a), (1, .int (iN (p0))), (2, .int (iN (p1)))]) hC dX5_copy_81 hl (k := 4) rfl (by decide) rfl (fun ls hl => ?_)
              refine lv_goto (tgt := 38) hC.1 hC.2.1 dX5_copy_84 (by decide) ?_
              exact ih38 (n + 1) (j + 1) _ _ _ hR_25 (by rw [show (j + 1).toNat = (j).toNat + 1 by omega]; exact (by rw [hWv_27]; exact shN_drop hW1 hui_20 (by omega))) (xI5.tr hx0 ((hR1.vws5 hM_24))) _ _ _ (by omega) (by omega) (by omega) (by rw [vwN_s (by omega) (vbN_eq (show Wv (j).toNat = some ti_20 by rw [← shN_at hW1]; exact hui_20) (by omega))]; omega) hw (lv_sub hl [2, 3, 4, 1, 0] rfl)
            · refine lv_goto (tgt := 81) hC.1 hC.2.1 dX5_copy_67 (by decide) ?_
              refine x_iinc (lv' := [(4, .int (iN (j + 1))), (0, .ref a), (1, .int (iN (p0))), (2, .int (iN (p1))), (3, .int (iN (n)))]) hC dX5_copy_81 hl (k := 4) rfl (by decide) rfl (fun ls hl => ?_)
              refine lv_goto (tgt := 38) hC.1 hC.2.1 dX5_copy_84 (by decide) ?_
              exact ih38 n (j + 1) _ _ _ hR1 (by rw [show (j + 1).toNat = (j).toNat + 1 by omega]; exact shN_keep hW1 hui_20 (by omega)) hx0 _ _ _ (by omega) (by omega) (by omega) (by rw [vwN_s (by omega) (vbN_ne (show Wv (j).toNat = some ti_20 by rw [← shN_at hW1]; exact hui_20) (by omega))]; omega) hw (lv_sub hl [1, 2, 3, 4, 0] rfl)
    · obtain ⟨ti_29, fi_29, hui_29, hIi_29⟩ := hRk_2.wk'.yes rfl
      obtain ⟨htat_30, htbt_30, htct_30, htdt_30, htet_30⟩ := id hIi_29.2.1
      subst hui_29
      obtain ⟨ps9, cd9, hd9, hkn, hre9, hla9, hha9, hcd9, hhd9, hhc9, hcp9, hps9⟩ := abM_some hK
      subst hkn
      have hks9 := kS_some (t := ti_29) (ps := ps9) (cd := cd9) (hd := hd9) (br := br)
      show W p l e R s m args below meth c _ _ _ _ _ (F0 m 15 ls [.ref w_5])
      refine lv_ifnull hC.1 hC.2.1 dX5_copy_15 ?_
      refine lv_aload_n hC.1 hC.2.1 dX5_copy_18 rfl (lv_at hl 0 rfl) ?_
      refine x_get hC hw hRk_2.1.1 rfl hinX5 6 (by decide) (by decide +kernel) rfl dX5_copy_19 ?_
      show W p l e R s m args below meth c _ _ _ _ _ (F0 m 22 ls [.ref w_5])
      refine x_const hC dX5_copy_22 ?_
      refine x_ialdE (x := ((ti_29.b : Nat) : Int)) hC hw hIi_29.1 (by omega) (by omega) (by omega) dX5_copy_23 hIi_29.2.2.1 ?_
      refine lv_iload_n hC.1 hC.2.1 dX5_copy_24 rfl (lv_at hl 2 rfl) ?_
      refine x_icmp_ne (tgt := 33) hC ⟨by omega, by omega⟩ ⟨by omega, by omega⟩ dX5_copy_25 (by decide) (fun c_31 => ?_) (fun c_31 => ?_)
      · refine x_const hC dX5_copy_33 ?_
        refine lv_istore_n (lv' := [(3, .int (iN (0))), (0, .ref a), (1, .int (iN (p0))), (2, .int (iN (p1)))]) hC.1 hC.2.1 dX5_copy_34 rfl hl (by decide) rfl (fun ls hl => ?_)
        refine x_const hC dX5_copy_35 ?_
        refine lv_istore (lv' := [(4, .int (iN (0))), (3, .int (iN (0))), (0, .ref a), (1, .int (iN (p0))), (2, .int (iN (p1)))]) hC.1 hC.2.1 dX5_copy_36 hl (by decide) rfl (fun ls hl => ?_)
        suffices hloop38 : ∀ (n9 : Nat) (n : Int) (j : Int) (M1 : HM) (fy1 : Nat → Option Nat) (Wv1 : VW) (hR1 : MGx G M1 a va oa wa ya (some w_5) thk_2 rfd br re la ha kp kv qv qw fa fb V O fy1 Wv1 (some ti_29) S) (hW1 : Wv1 = shN Wv (p1).toNat (j).toNat) (hx0 : xI5 G M M1) (H : Heap) (locs : List Loc) (ls : Array Slot), (hmu : (4 - j).toNat < n9) → (hi0 : 0 ≤ j ∧ j ≤ 4) → (hi1 : 0 ≤ n ∧ n ≤ j) → (hcn : n = vwN Wv (p1).toNat (j).toNat) → xD G (xA M s.heap.size) s M1 H locs → lv_has ls 5 [(0, .ref a), (1, .int (iN (p0))), (2, .int (iN (p1))), (3, .int (iN (n))), (4, .int (iN (j)))] → W p l e R s m args below meth c H locs _ _ _ (F0 m 38 ls []) by
          exact hloop38 _ 0 0 _ _ _ hRk_2 (shN_0 Wv (p1).toNat) (hx5k_2) _ _ _ (Nat.lt_succ_self _) (by omega) (by omega) (rfl) hw (lv_sub hl [2, 3, 4, 1, 0] rfl)
        intro n9
        induction n9 with
        | zero => intro n j M1 fy1 Wv1 hR1 hW1 hx0 H locs ls hmu; exact absurd hmu (Nat.not_lt_zero _)
        | succ n9 ih38 =>
          intro n j M1 fy1 Wv1 hR1 hW1 hx0 H locs ls hmu hi0 hi1 hcn hw hl
          have hsc1 := hR1.sc
          refine lv_iload hC.1 hC.2.1 dX5_copy_38 (lv_at hl 4 rfl) ?_
          refine x_const hC dX5_copy_40 ?_
          refine x_icmp_ge (tgt := 87) hC ⟨by omega, by omega⟩ ⟨by omega, by omega⟩ dX5_copy_41 (by decide) (fun c_32 => ?_) (fun c_32 => ?_)
          · have hW9 : Wv1 = shN Wv (p1).toNat 4 := by rw [hW1, show (j).toNat = 4 by omega]
            have hcn9 : n = vwN Wv (p1).toNat 4 := by rw [show (4 : Nat) = (j).toNat by omega]; exact hcn
            refine lv_aload_n hC.1 hC.2.1 dX5_copy_87 rfl (lv_at hl 0 rfl) ?_
            refine x_get hC hw hR1.1.1 rfl hinX5 3 (by decide) (by decide +kernel) rfl dX5_copy_88 ?_
            refine lv_iload_n hC.1 hC.2.1 dX5_copy_91 rfl (lv_at hl 2 rfl) ?_
            refine lv_aload_n hC.1 hC.2.1 dX5_copy_92 rfl (lv_at hl 0 rfl) ?_
            refine x_get hC hw hR1.1.1 rfl hinX5 3 (by decide) (by decide +kernel) rfl dX5_copy_93 ?_
            refine lv_iload_n hC.1 hC.2.1 dX5_copy_96 rfl (lv_at hl 1 rfl) ?_
            refine x_ialdE (x := ((O ((p0).toNat) : Nat) : Int)) hC hw hR1.1.2.2.1 (by omega) (by omega) (by omega) dX5_copy_97 rfl ?_
            have hro_33 : O ((p0).toNat) < 3 := hR1.or' (by omega)
            refine x_iast hC hw hR1.1.2.2.1 (by omega) (by omega) (by omega) dX5_copy_98 (fun H locs hw => ?_)
            obtain ⟨M_34, hM_35⟩ : ∃ z, z = va_up M1 oa (some (.inl (G.2 1, 3, .inl (upd (fun j9 => iN ((O j9 : Nat) : Int)) (p1).toNat (iN (((O ((p0).toNat) : Nat) : Int))))))) := ⟨_, rfl⟩
            rw [← hM_35] at hw
            have hR_36 := hR1.ord (o := O ((p0).toNat)) hM_35 (by omega) (by omega)
            obtain ⟨O_37, hO_37⟩ : ∃ z, z = (upO O ((p1).toNat) (O ((p0).toNat))) := ⟨_, rfl⟩
            rw [← hO_37] at hR_36
            refine x_const hC dX5_copy_99 ?_
            refine lv_istore (lv' := [(4, .int (iN (0))), (0, .ref a), (1, .int (iN (p0))), (2, .int (iN (p1))), (3, .int (iN (n)))]) hC.1 hC.2.1 dX5_copy_100 hl (by decide) rfl (fun ls hl => ?_)
            suffices hloop102 : ∀ (n9 : Nat) (j : Int) (M1 : HM) (br1 : Int) (V1 : BW) (hR1 : MGx G M1 a va oa wa ya (some w_5) thk_2 rfd br1 re la ha kp kv qv qw fa fb V1 O_37 fy1 Wv1 (some ti_29) S) (hx1 : xI5 G M M1) (hV1 : V1 = upB V ((p1).toNat) (mapN (V ((p1).toNat)) (V (p0).toNat) (j).toNat)) (hbr1 : br1 = brL (some ti_29) ((p1).toNat) (V ((p1).toNat)) (V (p0).toNat) (j).toNat br) (H : Heap) (locs : List Loc) (ls : Array Slot), (hmu : (100 - j).toNat < n9) → (hi0 : 0 ≤ j ∧ j ≤ 100) → xD G (xA M s.heap.size) s M1 H locs → lv_has ls 5 [(0, .ref a), (1, .int (iN (p0))), (2, .int (iN (p1))), (3, .int (iN (n))), (4, .int (iN (j)))] → W p l e R s m args below meth c H locs _ _ _ (F0 m 102 ls []) by
              exact hloop102 _ 0 _ _ _ hR_36 (xI5.tr hx0 ((hR1.ord5 hM_35))) ml_0 bl_0 _ _ _ (Nat.lt_succ_self _) (by omega) hw (lv_sub hl [1, 2, 3, 4, 0] rfl)
            intro n9
            induction n9 with
            | zero => intro j M1 br1 V1 hR1 hx1 hV1 hbr1 H locs ls hmu; exact absurd hmu (Nat.not_lt_zero _)
            | succ n9 ih102 =>
              intro j M1 br1 V1 hR1 hx1 hV1 hbr1 H locs ls hmu hi0 hw hl
              have hvj : V1 ((p1).toNat) (j).toNat = V ((p1).toNat) (j).toNat := ml_at hV1
              have hsc1 := hR1.sc
              have hvo : V1 (p0).toNat (j).toNat = V (p0).toNat (j).toNat := by rw [hV1, upB_n _ _ (by omega)]
              refine lv_iload hC.1 hC.2.1 dX5_copy_102 (lv_at hl 4 rfl) ?_
              refine x_bipush hC dX5_copy_104 (by decide +kernel) ?_
              refine x_icmp_ge (tgt := 132) hC ⟨by omega, by omega⟩ ⟨by omega, by omega⟩ dX5_copy_106 (by decide) (fun c_38 => ?_) (fun c_38 => ?_)
              · refine lv_iload_n hC.1 hC.2.1 dX5_copy_132 rfl (lv_at hl 3 rfl) ?_
                exact x_iret hC hw dX5_copy_133 (by omega) (by omega) ⟨n, _, rfl, by omega, Or.inl ⟨by omega, by first | trivial | omega, hcn9, (by have e9 : (j).toNat = 100 := (by omega); rw [e9] at hV1 hbr1; have e8 := hR1; rw [hV1, hW9, hO_37] at e8; exact MGm.of e8 (by rw [brL_no (inB_ne (by omega))] at hbr1; rw [hbr1]; exact abM_cpn hK (by omega)))⟩⟩
              · refine lv_aload_n hC.1 hC.2.1 dX5_copy_109 rfl (lv_at hl 0 rfl) ?_
                refine lv_iload_n hC.1 hC.2.1 dX5_copy_110 rfl (lv_at hl 2 rfl) ?_
                refine lv_iload hC.1 hC.2.1 dX5_copy_111 (lv_at hl 4 rfl) ?_
                refine lv_aload_n hC.1 hC.2.1 dX5_copy_113 rfl (lv_at hl 0 rfl) ?_
                refine x_get hC hw hR1.1.1 rfl hinX5 2 (by decide) (by decide +kernel) rfl dX5_copy_114 ?_
                refine lv_iload_n hC.1 hC.2.1 dX5_copy_117 rfl (lv_at hl 1 rfl) ?_
                refine x_ald4 hC hw hR1.1.2.1 (by omega) (by omega) (by omega) dX5_copy_118 ?_
                rw [hR1.fa' (show (p0).toNat < 3 by omega)]
                show W p l e R s m args below meth c _ _ _ _ _ (F0 m 119 ls [.ref (qv ((p0).toNat)), .int (iN (j)), .int (iN (p1)), .ref a])
                refine lv_iload hC.1 hC.2.1 dX5_copy_119 (lv_at hl 4 rfl) ?_
                refine x_ialdE (x := (V1 ((p0).toNat) ((j).toNat))) hC hw (hR1.rv (show ((p0).toNat) < 3 by omega)) (by omega) (by omega) (by omega) dX5_copy_121 rfl ?_
                have hrv_39 := hR1.vr (show ((p0).toNat) < 3 by omega) (show (j).toNat < 100 by omega)
                have hpv_39 := hR1.vs (show ((p0).toNat) < 3 by omega) (show (j).toNat < 100 by omega)
                refine x_callV hC hw (lv_size hl) (c_X5_set l G hR1 (p0 := p1) (by omega) (p1 := j) (by omega) (p2 := (V1 ((p0).toNat) ((j).toNat))) (by omega) (by omega) (by omega) (by omega) (by intro q9; first | exact absurd rfl q9 | assumption | exact hpv_39 q9 | exact hpv_39 (by omega))) gX5_copy_X5_set rfl dv_X5_set hR1.1.1 rfl rfl (Nat.le_of_ble_eq_true rfl) (by rw [hRf]; decide) (by rw [hRl]; decide) (by omega) (by omega) dX5_copy_122 (fun r9 M_40 H locs hq hw => ?_)
                obtain ⟨z_42, brk_41, Vk_41, rfl, hz_42a, hz_42v, hz_42b, he0k_41, he1k_41, hx5k_41, hRk_41⟩ := hq
                have hsck_41 := hRk_41.sc
                show W p l e R s m args below meth c H locs _ _ _ (F0 m 125 ls [.int (iN (z_42))])
                refine lv_pop hC.1 hC.2.1 dX5_copy_125 rfl ?_
                refine x_iinc (lv' := [(4, .int (iN (j + 1))), (0, .ref a), (1, .int (iN (p0))), (2, .int (iN (p1))), (3, .int (iN (n)))]) hC dX5_copy_126 hl (k := 4) rfl (by decide) rfl (fun ls hl => ?_)
                refine lv_goto (tgt := 102) hC.1 hC.2.1 dX5_copy_129 (by decide) ?_
                exact ih102 (j + 1) _ _ _ hRk_41 (xI5.tr hx1 (hx5k_41)) (ml_set (by omega) hV1 he1k_41 (show (V1 ((p0).toNat) ((j).toNat)) = (V (p0).toNat) (j).toNat by exact hvo)) (bl_set (by omega) hV1 hbr1 (show (V1 ((p0).toNat) ((j).toNat)) = (V (p0).toNat) (j).toNat by exact hvo) he0k_41) _ _ _ (by omega) (by omega) hw (lv_sub hl [1, 2, 3, 4, 0] rfl)
          · refine lv_aload_n hC.1 hC.2.1 dX5_copy_44 rfl (lv_at hl 0 rfl) ?_
            refine x_get hC hw hR1.1.1 rfl hinX5 5 (by decide) (by decide +kernel) rfl dX5_copy_45 ?_
            refine lv_iload hC.1 hC.2.1 dX5_copy_48 (lv_at hl 4 rfl) ?_
            refine x_ald4 hC hw hR1.1.2.2.2.2.1 (by omega) (by omega) (by omega) dX5_copy_50 ?_
            rcases hy_44 : fy1 ((j).toNat) with _ | y_43
            · have hnhy_44 : Wv1 ((j).toNat) = none := (hR1.vw (show (j).toNat < 4 by omega)).nil hy_44
              have hohy_44 := opN_none hnhy_44
              show W p l e R s m args below meth c _ _ _ _ _ (F0 m 51 ls [.null])
              refine lv_ifnullN (tgt := 81) hC.1 hC.2.1 dX5_copy_51 (by decide) ?_
              refine x_iinc (lv' := [(4, .int (iN (j + 1))), (0, .ref a), (1, .int (iN (p0))), (2, .int (iN (p1))), (3, .int (iN (n)))]) hC dX5_copy_81 hl (k := 4) rfl (by decide) rfl (fun ls hl => ?_)
              refine lv_goto (tgt := 38) hC.1 hC.2.1 dX5_copy_84 (by decide) ?_
              exact ih38 n (j + 1) _ _ _ hR1 (by rw [show (j + 1).toNat = (j).toNat + 1 by omega]; exact shN_nil hW1 hnhy_44) hx0 _ _ _ (by omega) (by omega) (by omega) (by rw [vwN_s (by omega) (vbN_nil (show Wv (j).toNat = none by rw [← shN_at hW1]; exact hnhy_44))]; omega) hw (lv_sub hl [1, 2, 3, 4, 0] rfl)
            · obtain ⟨ti_45, fi_45, hui_45, hIi_45⟩ := (hR1.vw (show (j).toNat < 4 by omega)).yes hy_44
              obtain ⟨htat_46, htbt_46, htct_46, htdt_46, htet_46⟩ := id hIi_45.2.1
              have hohy_44 := opN_some hui_45
              show W p l e R s m args below meth c _ _ _ _ _ (F0 m 51 ls [.ref y_43])
              refine lv_ifnull hC.1 hC.2.1 dX5_copy_51 ?_
              refine lv_aload_n hC.1 hC.2.1 dX5_copy_54 rfl (lv_at hl 0 rfl) ?_
              refine x_get hC hw hR1.1.1 rfl hinX5 5 (by decide) (by decide +kernel) rfl dX5_copy_55 ?_
              refine lv_iload hC.1 hC.2.1 dX5_copy_58 (lv_at hl 4 rfl) ?_
              refine x_ald4 hC hw hR1.1.2.2.2.2.1 (by omega) (by omega) (by omega) dX5_copy_60 ?_
              rw [hy_44]
              show W p l e R s m args below meth c _ _ _ _ _ (F0 m 61 ls [.ref y_43])
              refine x_const hC dX5_copy_61 ?_
              refine x_ialdE (x := ((ti_45.b : Nat) : Int)) hC hw hIi_45.1 (by omega) (by omega) (by omega) dX5_copy_62 hIi_45.2.2.1 ?_
              refine lv_iload_n hC.1 hC.2.1 dX5_copy_63 rfl (lv_at hl 2 rfl) ?_
              refine x_icmp_eq (tgt := 70) hC ⟨by omega, by omega⟩ ⟨by omega, by omega⟩ dX5_copy_64 (by decide) (fun c_47 => ?_) (fun c_47 => ?_)
              · refine lv_aload_n hC.1 hC.2.1 dX5_copy_70 rfl (lv_at hl 0 rfl) ?_
                refine x_get hC hw hR1.1.1 rfl hinX5 5 (by decide) (by decide +kernel) rfl dX5_copy_71 ?_
                refine lv_iload hC.1 hC.2.1 dX5_copy_74 (lv_at hl 4 rfl) ?_
                refine lv_null hC.1 hC.2.1 dX5_copy_76 ?_
                refine x_ast4N hC hw hR1.1.2.2.2.2.1 (by omega) (by omega) (by omega) dX5_copy_77 (fun H locs hw => ?_)
                obtain ⟨M_48, hM_49⟩ : ∃ z, z = va_up M1 ya (some (.inl (G.2 4, 4, .inr (.inr (.inr (.inr (va_up fy1 (j).toNat none))))))) := ⟨_, rfl⟩
                rw [← hM_49] at hw
                have hR_50 := hR1.vws (W2 := (upW Wv1 ((j).toNat) none)) hM_49 (fun j9 hj => by by_cases e9 : j9 = (j).toNat; (· subst e9; rw [va_up_self, upW_s]; trivial); (· rw [va_up_ne _ _ e9, upW_n _ _ e9]; exact hR1.vw hj))
                obtain ⟨fy_51, hfy_51⟩ : ∃ z, z = (va_up fy1 (j).toNat none) := ⟨_, rfl⟩
                rw [← hfy_51] at hR_50
                obtain ⟨Wv_52, hWv_52⟩ : ∃ z, z = (upW Wv1 ((j).toNat) none) := ⟨_, rfl⟩
                rw [← hWv_52] at hR_50
                have h_53 := hIi_45.x5 (hR1.vws5 hM_49)
                refine x_iinc (lv' := [(3, .int (iN (n + 1))), (0, .ref a), (1, .int (iN (p0))), (2, .int (iN (p1))), (4, .int (iN (j)))]) hC dX5_copy_78 hl (k := 3) rfl (by decide) rfl (fun ls hl => ?_)
                refine x_iinc (lv' := [(4, .int (iN (j + 1))), (3, .int (iN (n + 1))), (0, .ref a), (1, .int (iN (p0))), (2, .int (iN (p1)))]) hC dX5_copy_81 hl (k := 4) rfl (by decide) rfl (fun ls hl => ?_)
                refine lv_goto (tgt := 38) hC.1 hC.2.1 dX5_copy_84 (by decide) ?_
                exact ih38 (n + 1) (j + 1) _ _ _ hR_50 (by rw [show (j + 1).toNat = (j).toNat + 1 by omega]; exact (by rw [hWv_52]; exact shN_drop hW1 hui_45 (by omega))) (xI5.tr hx0 ((hR1.vws5 hM_49))) _ _ _ (by omega) (by omega) (by omega) (by rw [vwN_s (by omega) (vbN_eq (show Wv (j).toNat = some ti_45 by rw [← shN_at hW1]; exact hui_45) (by omega))]; omega) hw (lv_sub hl [2, 3, 4, 1, 0] rfl)
              · refine lv_goto (tgt := 81) hC.1 hC.2.1 dX5_copy_67 (by decide) ?_
                refine x_iinc (lv' := [(4, .int (iN (j + 1))), (0, .ref a), (1, .int (iN (p0))), (2, .int (iN (p1))), (3, .int (iN (n)))]) hC dX5_copy_81 hl (k := 4) rfl (by decide) rfl (fun ls hl => ?_)
                refine lv_goto (tgt := 38) hC.1 hC.2.1 dX5_copy_84 (by decide) ?_
                exact ih38 n (j + 1) _ _ _ hR1 (by rw [show (j + 1).toNat = (j).toNat + 1 by omega]; exact shN_keep hW1 hui_45 (by omega)) hx0 _ _ _ (by omega) (by omega) (by omega) (by rw [vwN_s (by omega) (vbN_ne (show Wv (j).toNat = some ti_45 by rw [← shN_at hW1]; exact hui_45) (by omega))]; omega) hw (lv_sub hl [1, 2, 3, 4, 0] rfl)
      · refine lv_aload_n hC.1 hC.2.1 dX5_copy_28 rfl (lv_at hl 0 rfl) ?_
        refine lv_null hC.1 hC.2.1 dX5_copy_29 ?_
        refine x_callV hC hw (lv_size hl) (c_X5_begin0 l G hRk_2) gX5_copy_X5_begin rfl dv_X5_begin hRk_2.1.1 rfl rfl (Nat.le_of_ble_eq_true rfl) (by rw [hRf]; decide) (by rw [hRl]; decide) (by omega) (by omega) dX5_copy_30 (fun r9 M_54 H locs hq hw => ?_)
        obtain ⟨rfl, hx5k_55, hRk_55⟩ := hq
        have h_56 := hIi_29.x5 hx5k_55
        show W p l e R s m args below meth c H locs _ _ _ (F0 m 33 ls [])
        refine x_const hC dX5_copy_33 ?_
        refine lv_istore_n (lv' := [(3, .int (iN (0))), (0, .ref a), (1, .int (iN (p0))), (2, .int (iN (p1)))]) hC.1 hC.2.1 dX5_copy_34 rfl hl (by decide) rfl (fun ls hl => ?_)
        refine x_const hC dX5_copy_35 ?_
        refine lv_istore (lv' := [(4, .int (iN (0))), (3, .int (iN (0))), (0, .ref a), (1, .int (iN (p0))), (2, .int (iN (p1)))]) hC.1 hC.2.1 dX5_copy_36 hl (by decide) rfl (fun ls hl => ?_)
        suffices hloop38 : ∀ (n9 : Nat) (n : Int) (j : Int) (M1 : HM) (fy1 : Nat → Option Nat) (Wv1 : VW) (hR1 : MGx G M1 a va oa wa ya none thk_2 rfd 0 (-1) (-10000) (-10000) kp kv qv qw fa fb V O fy1 Wv1 none S) (hW1 : Wv1 = shN Wv (p1).toNat (j).toNat) (hx0 : xI5 G M M1) (H : Heap) (locs : List Loc) (ls : Array Slot), (hmu : (4 - j).toNat < n9) → (hi0 : 0 ≤ j ∧ j ≤ 4) → (hi1 : 0 ≤ n ∧ n ≤ j) → (hcn : n = vwN Wv (p1).toNat (j).toNat) → xD G (xA M s.heap.size) s M1 H locs → lv_has ls 5 [(0, .ref a), (1, .int (iN (p0))), (2, .int (iN (p1))), (3, .int (iN (n))), (4, .int (iN (j)))] → W p l e R s m args below meth c H locs _ _ _ (F0 m 38 ls []) by
          exact hloop38 _ 0 0 _ _ _ hRk_55 (shN_0 Wv (p1).toNat) (xI5.tr (hx5k_2) (hx5k_55)) _ _ _ (Nat.lt_succ_self _) (by omega) (by omega) (rfl) hw (lv_sub hl [2, 3, 4, 1, 0] rfl)
        intro n9
        induction n9 with
        | zero => intro n j M1 fy1 Wv1 hR1 hW1 hx0 H locs ls hmu; exact absurd hmu (Nat.not_lt_zero _)
        | succ n9 ih38 =>
          intro n j M1 fy1 Wv1 hR1 hW1 hx0 H locs ls hmu hi0 hi1 hcn hw hl
          have hsc1 := hR1.sc
          refine lv_iload hC.1 hC.2.1 dX5_copy_38 (lv_at hl 4 rfl) ?_
          refine x_const hC dX5_copy_40 ?_
          refine x_icmp_ge (tgt := 87) hC ⟨by omega, by omega⟩ ⟨by omega, by omega⟩ dX5_copy_41 (by decide) (fun c_57 => ?_) (fun c_57 => ?_)
          · have hW9 : Wv1 = shN Wv (p1).toNat 4 := by rw [hW1, show (j).toNat = 4 by omega]
            have hcn9 : n = vwN Wv (p1).toNat 4 := by rw [show (4 : Nat) = (j).toNat by omega]; exact hcn
            refine lv_aload_n hC.1 hC.2.1 dX5_copy_87 rfl (lv_at hl 0 rfl) ?_
            refine x_get hC hw hR1.1.1 rfl hinX5 3 (by decide) (by decide +kernel) rfl dX5_copy_88 ?_
            refine lv_iload_n hC.1 hC.2.1 dX5_copy_91 rfl (lv_at hl 2 rfl) ?_
            refine lv_aload_n hC.1 hC.2.1 dX5_copy_92 rfl (lv_at hl 0 rfl) ?_
            refine x_get hC hw hR1.1.1 rfl hinX5 3 (by decide) (by decide +kernel) rfl dX5_copy_93 ?_
            refine lv_iload_n hC.1 hC.2.1 dX5_copy_96 rfl (lv_at hl 1 rfl) ?_
            refine x_ialdE (x := ((O ((p0).toNat) : Nat) : Int)) hC hw hR1.1.2.2.1 (by omega) (by omega) (by omega) dX5_copy_97 rfl ?_
            have hro_58 : O ((p0).toNat) < 3 := hR1.or' (by omega)
            refine x_iast hC hw hR1.1.2.2.1 (by omega) (by omega) (by omega) dX5_copy_98 (fun H locs hw => ?_)
            obtain ⟨M_59, hM_60⟩ : ∃ z, z = va_up M1 oa (some (.inl (G.2 1, 3, .inl (upd (fun j9 => iN ((O j9 : Nat) : Int)) (p1).toNat (iN (((O ((p0).toNat) : Nat) : Int))))))) := ⟨_, rfl⟩
            rw [← hM_60] at hw
            have hR_61 := hR1.ord (o := O ((p0).toNat)) hM_60 (by omega) (by omega)
            obtain ⟨O_62, hO_62⟩ : ∃ z, z = (upO O ((p1).toNat) (O ((p0).toNat))) := ⟨_, rfl⟩
            rw [← hO_62] at hR_61
            refine x_const hC dX5_copy_99 ?_
            refine lv_istore (lv' := [(4, .int (iN (0))), (0, .ref a), (1, .int (iN (p0))), (2, .int (iN (p1))), (3, .int (iN (n)))]) hC.1 hC.2.1 dX5_copy_100 hl (by decide) rfl (fun ls hl => ?_)
            suffices hloop102 : ∀ (n9 : Nat) (j : Int) (M1 : HM) (br1 : Int) (V1 : BW) (hR1 : MGx G M1 a va oa wa ya none thk_2 rfd br1 (-1) (-10000) (-10000) kp kv qv qw fa fb V1 O_62 fy1 Wv1 none S) (hx1 : xI5 G M M1) (hV1 : V1 = upB V ((p1).toNat) (mapN (V ((p1).toNat)) (V (p0).toNat) (j).toNat)) (hbr1 : br1 = brL none ((p1).toNat) (V ((p1).toNat)) (V (p0).toNat) (j).toNat 0) (H : Heap) (locs : List Loc) (ls : Array Slot), (hmu : (100 - j).toNat < n9) → (hi0 : 0 ≤ j ∧ j ≤ 100) → xD G (xA M s.heap.size) s M1 H locs → lv_has ls 5 [(0, .ref a), (1, .int (iN (p0))), (2, .int (iN (p1))), (3, .int (iN (n))), (4, .int (iN (j)))] → W p l e R s m args below meth c H locs _ _ _ (F0 m 102 ls []) by
              exact hloop102 _ 0 _ _ _ hR_61 (xI5.tr hx0 ((hR1.ord5 hM_60))) ml_0 bl_0 _ _ _ (Nat.lt_succ_self _) (by omega) hw (lv_sub hl [1, 2, 3, 4, 0] rfl)
            intro n9
            induction n9 with
            | zero => intro j M1 br1 V1 hR1 hx1 hV1 hbr1 H locs ls hmu; exact absurd hmu (Nat.not_lt_zero _)
            | succ n9 ih102 =>
              intro j M1 br1 V1 hR1 hx1 hV1 hbr1 H locs ls hmu hi0 hw hl
              have hvj : V1 ((p1).toNat) (j).toNat = V ((p1).toNat) (j).toNat := ml_at hV1
              have hsc1 := hR1.sc
              have hvo : V1 (p0).toNat (j).toNat = V (p0).toNat (j).toNat := by rw [hV1, upB_n _ _ (by omega)]
              refine lv_iload hC.1 hC.2.1 dX5_copy_102 (lv_at hl 4 rfl) ?_
              refine x_bipush hC dX5_copy_104 (by decide +kernel) ?_
              refine x_icmp_ge (tgt := 132) hC ⟨by omega, by omega⟩ ⟨by omega, by omega⟩ dX5_copy_106 (by decide) (fun c_63 => ?_) (fun c_63 => ?_)
              · refine lv_iload_n hC.1 hC.2.1 dX5_copy_132 rfl (lv_at hl 3 rfl) ?_
                exact x_iret hC hw dX5_copy_133 (by omega) (by omega) ⟨n, _, rfl, by omega, Or.inl ⟨by omega, by first | trivial | omega, hcn9, (by have e9 : (j).toNat = 100 := (by omega); rw [e9] at hV1 hbr1; have e8 := hR1; rw [hV1, hW9, hO_62] at e8; exact MGm.of e8 (by rw [brL_no (inB_none _)] at hbr1; rw [hbr1]; exact abM_cpe (by omega)))⟩⟩
              · refine lv_aload_n hC.1 hC.2.1 dX5_copy_109 rfl (lv_at hl 0 rfl) ?_
                refine lv_iload_n hC.1 hC.2.1 dX5_copy_110 rfl (lv_at hl 2 rfl) ?_
                refine lv_iload hC.1 hC.2.1 dX5_copy_111 (lv_at hl 4 rfl) ?_
                refine lv_aload_n hC.1 hC.2.1 dX5_copy_113 rfl (lv_at hl 0 rfl) ?_
                refine x_get hC hw hR1.1.1 rfl hinX5 2 (by decide) (by decide +kernel) rfl dX5_copy_114 ?_
                refine lv_iload_n hC.1 hC.2.1 dX5_copy_117 rfl (lv_at hl 1 rfl) ?_
                refine x_ald4 hC hw hR1.1.2.1 (by omega) (by omega) (by omega) dX5_copy_118 ?_
                rw [hR1.fa' (show (p0).toNat < 3 by omega)]
                show W p l e R s m args below meth c _ _ _ _ _ (F0 m 119 ls [.ref (qv ((p0).toNat)), .int (iN (j)), .int (iN (p1)), .ref a])
                refine lv_iload hC.1 hC.2.1 dX5_copy_119 (lv_at hl 4 rfl) ?_
                refine x_ialdE (x := (V1 ((p0).toNat) ((j).toNat))) hC hw (hR1.rv (show ((p0).toNat) < 3 by omega)) (by omega) (by omega) (by omega) dX5_copy_121 rfl ?_
                have hrv_64 := hR1.vr (show ((p0).toNat) < 3 by omega) (show (j).toNat < 100 by omega)
                have hpv_64 := hR1.vs (show ((p0).toNat) < 3 by omega) (show (j).toNat < 100 by omega)
                refine x_callV hC hw (lv_size hl) (c_X5_set l G hR1 (p0 := p1) (by omega) (p1 := j) (by omega) (p2 := (V1 ((p0).toNat) ((j).toNat))) (by omega) (by omega) (by omega) (by omega) (by intro q9; first | exact absurd rfl q9 | assumption | exact hpv_64 q9 | exact hpv_64 (by omega))) gX5_copy_X5_set rfl dv_X5_set hR1.1.1 rfl rfl (Nat.le_of_ble_eq_true rfl) (by rw [hRf]; decide) (by rw [hRl]; decide) (by omega) (by omega) dX5_copy_122 (fun r9 M_65 H locs hq hw => ?_)
                obtain ⟨z_67, brk_66, Vk_66, rfl, hz_67a, hz_67v, hz_67b, he0k_66, he1k_66, hx5k_66, hRk_66⟩ := hq
                have hsck_66 := hRk_66.sc
                show W p l e R s m args below meth c H locs _ _ _ (F0 m 125 ls [.int (iN (z_67))])
                refine lv_pop hC.1 hC.2.1 dX5_copy_125 rfl ?_
                refine x_iinc (lv' := [(4, .int (iN (j + 1))), (0, .ref a), (1, .int (iN (p0))), (2, .int (iN (p1))), (3, .int (iN (n)))]) hC dX5_copy_126 hl (k := 4) rfl (by decide) rfl (fun ls hl => ?_)
                refine lv_goto (tgt := 102) hC.1 hC.2.1 dX5_copy_129 (by decide) ?_
                exact ih102 (j + 1) _ _ _ hRk_66 (xI5.tr hx1 (hx5k_66)) (ml_set (by omega) hV1 he1k_66 (show (V1 ((p0).toNat) ((j).toNat)) = (V (p0).toNat) (j).toNat by exact hvo)) (bl_set (by omega) hV1 hbr1 (show (V1 ((p0).toNat) ((j).toNat)) = (V (p0).toNat) (j).toNat by exact hvo) he0k_66) _ _ _ (by omega) (by omega) hw (lv_sub hl [1, 2, 3, 4, 0] rfl)
          · refine lv_aload_n hC.1 hC.2.1 dX5_copy_44 rfl (lv_at hl 0 rfl) ?_
            refine x_get hC hw hR1.1.1 rfl hinX5 5 (by decide) (by decide +kernel) rfl dX5_copy_45 ?_
            refine lv_iload hC.1 hC.2.1 dX5_copy_48 (lv_at hl 4 rfl) ?_
            refine x_ald4 hC hw hR1.1.2.2.2.2.1 (by omega) (by omega) (by omega) dX5_copy_50 ?_
            rcases hy_69 : fy1 ((j).toNat) with _ | y_68
            · have hnhy_69 : Wv1 ((j).toNat) = none := (hR1.vw (show (j).toNat < 4 by omega)).nil hy_69
              have hohy_69 := opN_none hnhy_69
              show W p l e R s m args below meth c _ _ _ _ _ (F0 m 51 ls [.null])
              refine lv_ifnullN (tgt := 81) hC.1 hC.2.1 dX5_copy_51 (by decide) ?_
              refine x_iinc (lv' := [(4, .int (iN (j + 1))), (0, .ref a), (1, .int (iN (p0))), (2, .int (iN (p1))), (3, .int (iN (n)))]) hC dX5_copy_81 hl (k := 4) rfl (by decide) rfl (fun ls hl => ?_)
              refine lv_goto (tgt := 38) hC.1 hC.2.1 dX5_copy_84 (by decide) ?_
              exact ih38 n (j + 1) _ _ _ hR1 (by rw [show (j + 1).toNat = (j).toNat + 1 by omega]; exact shN_nil hW1 hnhy_69) hx0 _ _ _ (by omega) (by omega) (by omega) (by rw [vwN_s (by omega) (vbN_nil (show Wv (j).toNat = none by rw [← shN_at hW1]; exact hnhy_69))]; omega) hw (lv_sub hl [1, 2, 3, 4, 0] rfl)
            · obtain ⟨ti_70, fi_70, hui_70, hIi_70⟩ := (hR1.vw (show (j).toNat < 4 by omega)).yes hy_69
              obtain ⟨htat_71, htbt_71, htct_71, htdt_71, htet_71⟩ := id hIi_70.2.1
              have hohy_69 := opN_some hui_70
              show W p l e R s m args below meth c _ _ _ _ _ (F0 m 51 ls [.ref y_68])
              refine lv_ifnull hC.1 hC.2.1 dX5_copy_51 ?_
              refine lv_aload_n hC.1 hC.2.1 dX5_copy_54 rfl (lv_at hl 0 rfl) ?_
              refine x_get hC hw hR1.1.1 rfl hinX5 5 (by decide) (by decide +kernel) rfl dX5_copy_55 ?_
              refine lv_iload hC.1 hC.2.1 dX5_copy_58 (lv_at hl 4 rfl) ?_
              refine x_ald4 hC hw hR1.1.2.2.2.2.1 (by omega) (by omega) (by omega) dX5_copy_60 ?_
              rw [hy_69]
              show W p l e R s m args below meth c _ _ _ _ _ (F0 m 61 ls [.ref y_68])
              refine x_const hC dX5_copy_61 ?_
              refine x_ialdE (x := ((ti_70.b : Nat) : Int)) hC hw hIi_70.1 (by omega) (by omega) (by omega) dX5_copy_62 hIi_70.2.2.1 ?_
              refine lv_iload_n hC.1 hC.2.1 dX5_copy_63 rfl (lv_at hl 2 rfl) ?_
              refine x_icmp_eq (tgt := 70) hC ⟨by omega, by omega⟩ ⟨by omega, by omega⟩ dX5_copy_64 (by decide) (fun c_72 => ?_) (fun c_72 => ?_)
              · refine lv_aload_n hC.1 hC.2.1 dX5_copy_70 rfl (lv_at hl 0 rfl) ?_
                refine x_get hC hw hR1.1.1 rfl hinX5 5 (by decide) (by decide +kernel) rfl dX5_copy_71 ?_
                refine lv_iload hC.1 hC.2.1 dX5_copy_74 (lv_at hl 4 rfl) ?_
                refine lv_null hC.1 hC.2.1 dX5_copy_76 ?_
                refine x_ast4N hC hw hR1.1.2.2.2.2.1 (by omega) (by omega) (by omega) dX5_copy_77 (fun H locs hw => ?_)
                obtain ⟨M_73, hM_74⟩ : ∃ z, z = va_up M1 ya (some (.inl (G.2 4, 4, .inr (.inr (.inr (.inr (va_up fy1 (j).toNat none))))))) := ⟨_, rfl⟩
                rw [← hM_74] at hw
                have hR_75 := hR1.vws (W2 := (upW Wv1 ((j).toNat) none)) hM_74 (fun j9 hj => by by_cases e9 : j9 = (j).toNat; (· subst e9; rw [va_up_self, upW_s]; trivial); (· rw [va_up_ne _ _ e9, upW_n _ _ e9]; exact hR1.vw hj))
                obtain ⟨fy_76, hfy_76⟩ : ∃ z, z = (va_up fy1 (j).toNat none) := ⟨_, rfl⟩
                rw [← hfy_76] at hR_75
                obtain ⟨Wv_77, hWv_77⟩ : ∃ z, z = (upW Wv1 ((j).toNat) none) := ⟨_, rfl⟩
                rw [← hWv_77] at hR_75
                have h_78 := hIi_70.x5 (hR1.vws5 hM_74)
                refine x_iinc (lv' := [(3, .int (iN (n + 1))), (0, .ref a), (1, .int (iN (p0))), (2, .int (iN (p1))), (4, .int (iN (j)))]) hC dX5_copy_78 hl (k := 3) rfl (by decide) rfl (fun ls hl => ?_)
                refine x_iinc (lv' := [(4, .int (iN (j + 1))), (3, .int (iN (n + 1))), (0, .ref a), (1, .int (iN (p0))), (2, .int (iN (p1)))]) hC dX5_copy_81 hl (k := 4) rfl (by decide) rfl (fun ls hl => ?_)
                refine lv_goto (tgt := 38) hC.1 hC.2.1 dX5_copy_84 (by decide) ?_
                exact ih38 (n + 1) (j + 1) _ _ _ hR_75 (by rw [show (j + 1).toNat = (j).toNat + 1 by omega]; exact (by rw [hWv_77]; exact shN_drop hW1 hui_70 (by omega))) (xI5.tr hx0 ((hR1.vws5 hM_74))) _ _ _ (by omega) (by omega) (by omega) (by rw [vwN_s (by omega) (vbN_eq (show Wv (j).toNat = some ti_70 by rw [← shN_at hW1]; exact hui_70) (by omega))]; omega) hw (lv_sub hl [2, 3, 4, 1, 0] rfl)
              · refine lv_goto (tgt := 81) hC.1 hC.2.1 dX5_copy_67 (by decide) ?_
                refine x_iinc (lv' := [(4, .int (iN (j + 1))), (0, .ref a), (1, .int (iN (p0))), (2, .int (iN (p1))), (3, .int (iN (n)))]) hC dX5_copy_81 hl (k := 4) rfl (by decide) rfl (fun ls hl => ?_)
                refine lv_goto (tgt := 38) hC.1 hC.2.1 dX5_copy_84 (by decide) ?_
                exact ih38 n (j + 1) _ _ _ hR1 (by rw [show (j + 1).toNat = (j).toNat + 1 by omega]; exact shN_keep hW1 hui_70 (by omega)) hx0 _ _ _ (by omega) (by omega) (by omega) (by rw [vwN_s (by omega) (vbN_ne (show Wv (j).toNat = some ti_70 by rw [← shN_at hW1]; exact hui_70) (by omega))]; omega) hw (lv_sub hl [1, 2, 3, 4, 0] rfl)
  · refine x_const hC dX5_copy_9 ?_
    exact x_iret hC hw dX5_copy_10 (by omega) (by omega) ⟨0, _, rfl, by omega, Or.inr ⟨by omega, by omega, MGm.of hRk_2 hK⟩⟩
set_option maxHeartbeats 4000000 in
set_option maxRecDepth 100000 in
theorem c_X5_get (l : Launch) (G : xG) {M : HM} {a va oa wa ya : Nat} {wk : Option Nat} {th : Int} {rfd : Int32} {br re la ha : Int} {kp kv : Int32} {qv qw : Nat → Nat} {fa fb : Nat → Option Nat} {V : BW} {O : OW} {fy : Nat → Option Nat} {Wv : VW} {wt : Option VT} {S : Nat → Bool} (hR : MGx G M a va oa wa ya wk th rfd br re la ha kp kv qv qw fa fb V O fy Wv wt S) {K : WA} (hK : abM O wt br re la ha K) {p0 : Int} (hp0 : -2147483648 ≤ p0 ∧ p0 ≤ 2147483647) {p1 : Int} (hp1 : -2147483648 ≤ p1 ∧ p1 ≤ 2147483647) : xMet l G yX5_get wsX5_get 3 66 0 0 [.ref a, .int (iN (p0)), .int (iN (p1))] M (fun r M1 => ∃ (z th1 : Int), r = some (.int (iN z)) ∧ (-2147483648 ≤ z ∧ z ≤ 2147483647) ∧ ((th1 = 0 ∧ ((0 ≤ p0 ∧ p0 ≤ 2) ∧ (0 ≤ p1 ∧ p1 ≤ 99)) ∧ z = A_get (O, V, Wv, K, kp, kv, rfd) p0 p1 ∧ MGm G M1 a S th1 (O, V, Wv, K, kp, kv, rfd)) ∨ (th1 ≠ 0 ∧ ((th1 = 1 ∧ ¬ (0 ≤ p0 ∧ p0 ≤ 2)) ∨ (th1 = 2 ∧ (0 ≤ p0 ∧ p0 ≤ 2) ∧ ¬ (0 ≤ p1 ∧ p1 ≤ 99))) ∧ MGm G M1 a S th1 (O, V, Wv, K, kp, kv, rfd)))) := by
  refine x_intro (cc := cX5_get) (maxL := 3) (ret := (some .int)) (by decide +kernel) rfl (Nat.le_of_ble_eq_true rfl) ?_
  intro p e R s m args below meth c ls hRf hRc hRs hRl hC hw hl
  have hsc0 := hR.sc
  have hinX5 : ∀ w ∈ wsX50, w ∈ wsX5_get := by decide +kernel
  have hl : lv_has ls 3 [(0, .ref a), (1, .int (iN (p0))), (2, .int (iN (p1)))] := hl
  refine lv_aload_n hC.1 hC.2.1 dX5_get_0 rfl (lv_at hl 0 rfl) ?_
  refine lv_iload_n hC.1 hC.2.1 dX5_get_1 rfl (lv_at hl 1 rfl) ?_
  refine lv_iload_n hC.1 hC.2.1 dX5_get_2 rfl (lv_at hl 2 rfl) ?_
  refine x_callV hC hw (lv_size hl) (c_X5_isBad l G hR (p0 := p0) (by omega) (p1 := p1) (by omega)) gX5_get_X5_isBad rfl dv_X5_isBad hR.1.1 rfl rfl (Nat.le_of_ble_eq_true rfl) (by rw [hRf]; decide) (by rw [hRl]; decide) (by omega) (by omega) dX5_get_3 (fun r9 M_1 H locs hq hw => ?_)
  obtain ⟨z_3, thk_2, rfl, hz_3a, hz_3b, hz_3c0, hz_3c1, hz_3c2, hx5k_2, hRk_2⟩ := hq
  have hsck_2 := hRk_2.sc
  show W p l e R s m args below meth c H locs _ _ _ (F0 m 6 ls [.int (iN (z_3))])
  refine x_if_eq (tgt := 13) hC ⟨by omega, by omega⟩ dX5_get_6 (by decide) (fun c_4 => ?_) (fun c_4 => ?_)
  · refine lv_aload_n hC.1 hC.2.1 dX5_get_13 rfl (lv_at hl 0 rfl) ?_
    refine x_get hC hw hRk_2.1.1 rfl hinX5 2 (by decide) (by decide +kernel) rfl dX5_get_14 ?_
    refine lv_iload_n hC.1 hC.2.1 dX5_get_17 rfl (lv_at hl 1 rfl) ?_
    refine x_ald4 hC hw hRk_2.1.2.1 (by omega) (by omega) (by omega) dX5_get_18 ?_
    rw [hRk_2.fa' (show (p0).toNat < 3 by omega)]
    show W p l e R s m args below meth c _ _ _ _ _ (F0 m 19 ls [.ref (qv ((p0).toNat))])
    refine lv_iload_n hC.1 hC.2.1 dX5_get_19 rfl (lv_at hl 2 rfl) ?_
    refine x_ialdE (x := (V ((p0).toNat) ((p1).toNat))) hC hw (hRk_2.rv (show ((p0).toNat) < 3 by omega)) (by omega) (by omega) (by omega) dX5_get_20 rfl ?_
    have hrv_5 := hRk_2.vr (show ((p0).toNat) < 3 by omega) (show (p1).toNat < 100 by omega)
    have hpv_5 := hRk_2.vs (show ((p0).toNat) < 3 by omega) (show (p1).toNat < 100 by omega)
    exact x_iret hC hw dX5_get_21 (by omega) (by omega) ⟨(V ((p0).toNat) ((p1).toNat)), _, rfl, by omega, Or.inl ⟨by omega, by first | trivial | omega, (show _ = V (p0).toNat (p1).toNat by rfl), MGm.of hRk_2 hK⟩⟩
  · refine x_const hC dX5_get_9 ?_
    refine lv_goto (tgt := 21) hC.1 hC.2.1 dX5_get_10 (by decide) ?_
    exact x_iret hC hw dX5_get_21 (by omega) (by omega) ⟨0, _, rfl, by omega, Or.inr ⟨by omega, by omega, MGm.of hRk_2 hK⟩⟩
set_option maxHeartbeats 4000000 in
set_option maxRecDepth 100000 in
theorem c_X5_getOr (l : Launch) (G : xG) {M : HM} {a va oa wa ya : Nat} {wk : Option Nat} {th : Int} {rfd : Int32} {br re la ha : Int} {kp kv : Int32} {qv qw : Nat → Nat} {fa fb : Nat → Option Nat} {V : BW} {O : OW} {fy : Nat → Option Nat} {Wv : VW} {wt : Option VT} {S : Nat → Bool} (hR : MGx G M a va oa wa ya wk th rfd br re la ha kp kv qv qw fa fb V O fy Wv wt S) {K : WA} (hK : abM O wt br re la ha K) {p0 : Int} (hp0 : -2147483648 ≤ p0 ∧ p0 ≤ 2147483647) {p1 : Int} (hp1 : -2147483648 ≤ p1 ∧ p1 ≤ 2147483647) {p2 : Int} (hp2 : -2147483648 ≤ p2 ∧ p2 ≤ 2147483647) : xMet l G yX5_getOr wsX5_getOr 3 67 0 0 [.ref a, .int (iN (p0)), .int (iN (p1)), .int (iN (p2))] M (fun r M1 => ∃ (z th1 : Int), r = some (.int (iN z)) ∧ (-2147483648 ≤ z ∧ z ≤ 2147483647) ∧ ((th1 = 0 ∧ ((0 ≤ p0 ∧ p0 ≤ 2) ∧ ((0 ≤ p1 ∧ p1 ≤ 99) ∧ (-9999 ≤ p2 ∧ p2 ≤ 9999))) ∧ z = A_getOr (O, V, Wv, K, kp, kv, rfd) p0 p1 p2 ∧ MGm G M1 a S th1 (O, V, Wv, K, kp, kv, rfd)) ∨ (th1 ≠ 0 ∧ ((th1 = 1 ∧ ¬ (0 ≤ p0 ∧ p0 ≤ 2)) ∨ (th1 = 2 ∧ (0 ≤ p0 ∧ p0 ≤ 2) ∧ ¬ ((0 ≤ p1 ∧ p1 ≤ 99) ∧ (-9999 ≤ p2 ∧ p2 ≤ 9999)))) ∧ MGm G M1 a S th1 (O, V, Wv, K, kp, kv, rfd)))) := by
  refine x_intro (cc := cX5_getOr) (maxL := 4) (ret := (some .int)) (by decide +kernel) rfl (Nat.le_of_ble_eq_true rfl) ?_
  intro p e R s m args below meth c ls hRf hRc hRs hRl hC hw hl
  have hsc0 := hR.sc
  have hinX5 : ∀ w ∈ wsX50, w ∈ wsX5_getOr := by decide +kernel
  have hl : lv_has ls 4 [(0, .ref a), (1, .int (iN (p0))), (2, .int (iN (p1))), (3, .int (iN (p2)))] := hl
  refine lv_aload_n hC.1 hC.2.1 dX5_getOr_0 rfl (lv_at hl 0 rfl) ?_
  refine lv_iload_n hC.1 hC.2.1 dX5_getOr_1 rfl (lv_at hl 1 rfl) ?_
  refine lv_iload_n hC.1 hC.2.1 dX5_getOr_2 rfl (lv_at hl 2 rfl) ?_
  refine lv_iload_n hC.1 hC.2.1 dX5_getOr_3 rfl (lv_at hl 3 rfl) ?_
  refine x_callV hC hw (lv_size hl) (c_X5_isBad_ l G hR (p0 := p0) (by omega) (p1 := p1) (by omega) (p2 := p2) (by omega)) gX5_getOr_X5_isBad_ rfl dv_X5_isBad_ hR.1.1 rfl rfl (Nat.le_of_ble_eq_true rfl) (by rw [hRf]; decide) (by rw [hRl]; decide) (by omega) (by omega) dX5_getOr_4 (fun r9 M_1 H locs hq hw => ?_)
  obtain ⟨z_3, thk_2, rfl, hz_3a, hz_3b, hz_3c0, hz_3c1, hz_3c2, hx5k_2, hRk_2⟩ := hq
  have hsck_2 := hRk_2.sc
  show W p l e R s m args below meth c H locs _ _ _ (F0 m 7 ls [.int (iN (z_3))])
  refine x_if_eq (tgt := 12) hC ⟨by omega, by omega⟩ dX5_getOr_7 (by decide) (fun c_4 => ?_) (fun c_4 => ?_)
  · refine lv_aload_n hC.1 hC.2.1 dX5_getOr_12 rfl (lv_at hl 0 rfl) ?_
    refine x_get hC hw hRk_2.1.1 rfl hinX5 2 (by decide) (by decide +kernel) rfl dX5_getOr_13 ?_
    refine lv_iload_n hC.1 hC.2.1 dX5_getOr_16 rfl (lv_at hl 1 rfl) ?_
    refine x_ald4 hC hw hRk_2.1.2.1 (by omega) (by omega) (by omega) dX5_getOr_17 ?_
    rw [hRk_2.fa' (show (p0).toNat < 3 by omega)]
    show W p l e R s m args below meth c _ _ _ _ _ (F0 m 18 ls [.ref (qv ((p0).toNat))])
    refine lv_iload_n hC.1 hC.2.1 dX5_getOr_18 rfl (lv_at hl 2 rfl) ?_
    refine x_ialdE (x := (V ((p0).toNat) ((p1).toNat))) hC hw (hRk_2.rv (show ((p0).toNat) < 3 by omega)) (by omega) (by omega) (by omega) dX5_getOr_19 rfl ?_
    have hrv_5 := hRk_2.vr (show ((p0).toNat) < 3 by omega) (show (p1).toNat < 100 by omega)
    have hpv_5 := hRk_2.vs (show ((p0).toNat) < 3 by omega) (show (p1).toNat < 100 by omega)
    refine x_sipush hC dX5_getOr_20 (by decide +kernel) ?_
    refine x_icmp_ne (tgt := 30) hC ⟨by omega, by omega⟩ ⟨by omega, by omega⟩ dX5_getOr_23 (by decide) (fun c_6 => ?_) (fun c_6 => ?_)
    · refine lv_aload_n hC.1 hC.2.1 dX5_getOr_30 rfl (lv_at hl 0 rfl) ?_
      refine x_get hC hw hRk_2.1.1 rfl hinX5 2 (by decide) (by decide +kernel) rfl dX5_getOr_31 ?_
      refine lv_iload_n hC.1 hC.2.1 dX5_getOr_34 rfl (lv_at hl 1 rfl) ?_
      refine x_ald4 hC hw hRk_2.1.2.1 (by omega) (by omega) (by omega) dX5_getOr_35 ?_
      rw [hRk_2.fa' (show (p0).toNat < 3 by omega)]
      show W p l e R s m args below meth c _ _ _ _ _ (F0 m 36 ls [.ref (qv ((p0).toNat))])
      refine lv_iload_n hC.1 hC.2.1 dX5_getOr_36 rfl (lv_at hl 2 rfl) ?_
      refine x_ialdE (x := (V ((p0).toNat) ((p1).toNat))) hC hw (hRk_2.rv (show ((p0).toNat) < 3 by omega)) (by omega) (by omega) (by omega) dX5_getOr_37 rfl ?_
      have hrv_7 := hRk_2.vr (show ((p0).toNat) < 3 by omega) (show (p1).toNat < 100 by omega)
      have hpv_7 := hRk_2.vs (show ((p0).toNat) < 3 by omega) (show (p1).toNat < 100 by omega)
      exact x_iret hC hw dX5_getOr_38 (by omega) (by omega) ⟨(V ((p0).toNat) ((p1).toNat)), _, rfl, by omega, Or.inl ⟨by omega, by first | trivial | omega, (show _ = (if V (p0).toNat (p1).toNat = -10000 then p2 else V (p0).toNat (p1).toNat) by omega), MGm.of hRk_2 hK⟩⟩
    · refine lv_iload_n hC.1 hC.2.1 dX5_getOr_26 rfl (lv_at hl 3 rfl) ?_
      refine lv_goto (tgt := 38) hC.1 hC.2.1 dX5_getOr_27 (by decide) ?_
      exact x_iret hC hw dX5_getOr_38 (by omega) (by omega) ⟨p2, _, rfl, by omega, Or.inl ⟨by omega, by first | trivial | omega, (show _ = (if V (p0).toNat (p1).toNat = -10000 then p2 else V (p0).toNat (p1).toNat) by omega), MGm.of hRk_2 hK⟩⟩
  · refine x_const hC dX5_getOr_10 ?_
    exact x_iret hC hw dX5_getOr_11 (by omega) (by omega) ⟨0, _, rfl, by omega, Or.inr ⟨by omega, by omega, MGm.of hRk_2 hK⟩⟩
set_option maxHeartbeats 4000000 in
set_option maxRecDepth 100000 in
theorem c_X5_has (l : Launch) (G : xG) {M : HM} {a va oa wa ya : Nat} {wk : Option Nat} {th : Int} {rfd : Int32} {br re la ha : Int} {kp kv : Int32} {qv qw : Nat → Nat} {fa fb : Nat → Option Nat} {V : BW} {O : OW} {fy : Nat → Option Nat} {Wv : VW} {wt : Option VT} {S : Nat → Bool} (hR : MGx G M a va oa wa ya wk th rfd br re la ha kp kv qv qw fa fb V O fy Wv wt S) {K : WA} (hK : abM O wt br re la ha K) {p0 : Int} (hp0 : -2147483648 ≤ p0 ∧ p0 ≤ 2147483647) {p1 : Int} (hp1 : -2147483648 ≤ p1 ∧ p1 ≤ 2147483647) : xMet l G yX5_has wsX5_has 3 66 0 0 [.ref a, .int (iN (p0)), .int (iN (p1))] M (fun r M1 => ∃ (z th1 : Int), r = some (.int (iN z)) ∧ (z = 0 ∨ z = 1) ∧ ((th1 = 0 ∧ ((0 ≤ p0 ∧ p0 ≤ 2) ∧ (0 ≤ p1 ∧ p1 ≤ 99)) ∧ z = A_has (O, V, Wv, K, kp, kv, rfd) p0 p1 ∧ MGm G M1 a S th1 (O, V, Wv, K, kp, kv, rfd)) ∨ (th1 ≠ 0 ∧ ((th1 = 1 ∧ ¬ (0 ≤ p0 ∧ p0 ≤ 2)) ∨ (th1 = 2 ∧ (0 ≤ p0 ∧ p0 ≤ 2) ∧ ¬ (0 ≤ p1 ∧ p1 ≤ 99))) ∧ MGm G M1 a S th1 (O, V, Wv, K, kp, kv, rfd)))) := by
  refine x_intro (cc := cX5_has) (maxL := 3) (ret := (some .boolean)) (by decide +kernel) rfl (Nat.le_of_ble_eq_true rfl) ?_
  intro p e R s m args below meth c ls hRf hRc hRs hRl hC hw hl
  have hsc0 := hR.sc
  have hinX5 : ∀ w ∈ wsX50, w ∈ wsX5_has := by decide +kernel
  have hl : lv_has ls 3 [(0, .ref a), (1, .int (iN (p0))), (2, .int (iN (p1)))] := hl
  refine lv_aload_n hC.1 hC.2.1 dX5_has_0 rfl (lv_at hl 0 rfl) ?_
  refine lv_iload_n hC.1 hC.2.1 dX5_has_1 rfl (lv_at hl 1 rfl) ?_
  refine lv_iload_n hC.1 hC.2.1 dX5_has_2 rfl (lv_at hl 2 rfl) ?_
  refine x_callV hC hw (lv_size hl) (c_X5_isBad l G hR (p0 := p0) (by omega) (p1 := p1) (by omega)) gX5_has_X5_isBad rfl dv_X5_isBad hR.1.1 rfl rfl (Nat.le_of_ble_eq_true rfl) (by rw [hRf]; decide) (by rw [hRl]; decide) (by omega) (by omega) dX5_has_3 (fun r9 M_1 H locs hq hw => ?_)
  obtain ⟨z_3, thk_2, rfl, hz_3a, hz_3b, hz_3c0, hz_3c1, hz_3c2, hx5k_2, hRk_2⟩ := hq
  have hsck_2 := hRk_2.sc
  show W p l e R s m args below meth c H locs _ _ _ (F0 m 6 ls [.int (iN (z_3))])
  refine x_if_ne (tgt := 27) hC ⟨by omega, by omega⟩ dX5_has_6 (by decide) (fun c_4 => ?_) (fun c_4 => ?_)
  · refine x_const hC dX5_has_27 ?_
    exact x_zret hC hw (by omega) dX5_has_28 (by omega) (by omega) ⟨0, _, rfl, by omega, Or.inr ⟨by omega, by omega, MGm.of hRk_2 hK⟩⟩
  · refine lv_aload_n hC.1 hC.2.1 dX5_has_9 rfl (lv_at hl 0 rfl) ?_
    refine x_get hC hw hRk_2.1.1 rfl hinX5 2 (by decide) (by decide +kernel) rfl dX5_has_10 ?_
    refine lv_iload_n hC.1 hC.2.1 dX5_has_13 rfl (lv_at hl 1 rfl) ?_
    refine x_ald4 hC hw hRk_2.1.2.1 (by omega) (by omega) (by omega) dX5_has_14 ?_
    rw [hRk_2.fa' (show (p0).toNat < 3 by omega)]
    show W p l e R s m args below meth c _ _ _ _ _ (F0 m 15 ls [.ref (qv ((p0).toNat))])
    refine lv_iload_n hC.1 hC.2.1 dX5_has_15 rfl (lv_at hl 2 rfl) ?_
    refine x_ialdE (x := (V ((p0).toNat) ((p1).toNat))) hC hw (hRk_2.rv (show ((p0).toNat) < 3 by omega)) (by omega) (by omega) (by omega) dX5_has_16 rfl ?_
    have hrv_5 := hRk_2.vr (show ((p0).toNat) < 3 by omega) (show (p1).toNat < 100 by omega)
    have hpv_5 := hRk_2.vs (show ((p0).toNat) < 3 by omega) (show (p1).toNat < 100 by omega)
    refine x_sipush hC dX5_has_17 (by decide +kernel) ?_
    refine x_icmp_eq (tgt := 27) hC ⟨by omega, by omega⟩ ⟨by omega, by omega⟩ dX5_has_20 (by decide) (fun c_6 => ?_) (fun c_6 => ?_)
    · refine x_const hC dX5_has_27 ?_
      exact x_zret hC hw (by omega) dX5_has_28 (by omega) (by omega) ⟨0, _, rfl, by omega, Or.inl ⟨by omega, by first | trivial | omega, (show _ = (if V (p0).toNat (p1).toNat = -10000 then 0 else 1) by omega), MGm.of hRk_2 hK⟩⟩
    · refine x_const hC dX5_has_23 ?_
      refine lv_goto (tgt := 28) hC.1 hC.2.1 dX5_has_24 (by decide) ?_
      exact x_zret hC hw (by omega) dX5_has_28 (by omega) (by omega) ⟨1, _, rfl, by omega, Or.inl ⟨by omega, by first | trivial | omega, (show _ = (if V (p0).toNat (p1).toNat = -10000 then 0 else 1) by omega), MGm.of hRk_2 hK⟩⟩
set_option maxHeartbeats 4000000 in
set_option maxRecDepth 100000 in
theorem c_X5_hasValue (l : Launch) (G : xG) {M : HM} {a va oa wa ya : Nat} {wk : Option Nat} {th : Int} {rfd : Int32} {br re la ha : Int} {kp kv : Int32} {qv qw : Nat → Nat} {fa fb : Nat → Option Nat} {V : BW} {O : OW} {fy : Nat → Option Nat} {Wv : VW} {wt : Option VT} {S : Nat → Bool} (hR : MGx G M a va oa wa ya wk th rfd br re la ha kp kv qv qw fa fb V O fy Wv wt S) {K : WA} (hK : abM O wt br re la ha K) {p0 : Int} (hp0 : -2147483648 ≤ p0 ∧ p0 ≤ 2147483647) {p1 : Int} (hp1 : -2147483648 ≤ p1 ∧ p1 ≤ 2147483647) : xMet l G yX5_hasValue wsX5_hasValue 2 47 0 0 [.ref a, .int (iN (p0)), .int (iN (p1))] M (fun r M1 => ∃ (z th1 : Int), r = some (.int (iN z)) ∧ (z = 0 ∨ z = 1) ∧ ((th1 = 0 ∧ ((0 ≤ p0 ∧ p0 ≤ 2) ∧ (-9999 ≤ p1 ∧ p1 ≤ 9999)) ∧ z = A_hasValue (O, V, Wv, K, kp, kv, rfd) p0 p1 ∧ MGm G M1 a S th1 (O, V, Wv, K, kp, kv, rfd)) ∨ (th1 ≠ 0 ∧ ((th1 = 1 ∧ ¬ (0 ≤ p0 ∧ p0 ≤ 2)) ∨ (th1 = 2 ∧ (0 ≤ p0 ∧ p0 ≤ 2) ∧ ¬ (-9999 ≤ p1 ∧ p1 ≤ 9999))) ∧ MGm G M1 a S th1 (O, V, Wv, K, kp, kv, rfd)))) := by
  refine x_intro (cc := cX5_hasValue) (maxL := 3) (ret := (some .boolean)) (by decide +kernel) rfl (Nat.le_of_ble_eq_true rfl) ?_
  intro p e R s m args below meth c ls hRf hRc hRs hRl hC hw hl
  have hsc0 := hR.sc
  have hl : lv_has ls 3 [(0, .ref a), (1, .int (iN (p0))), (2, .int (iN (p1)))] := hl
  refine lv_aload_n hC.1 hC.2.1 dX5_hasValue_0 rfl (lv_at hl 0 rfl) ?_
  refine lv_iload_n hC.1 hC.2.1 dX5_hasValue_1 rfl (lv_at hl 1 rfl) ?_
  refine x_callS hC hw (lv_size hl) (c_X5_isNoBook l G (M := M) (p0 := p0) (by omega)) gX5_hasValue_X5_isNoBook rfl dv_X5_isNoBook_s rfl (Nat.le_of_ble_eq_true rfl) (by rw [hRf]; decide) (by rw [hRl]; decide) (by omega) (by omega) dX5_hasValue_2 (fun r9 M_1 H locs hq hw => ?_)
  obtain ⟨z_2, rfl, hM9, hz_2a, hz_2b⟩ := hq
  rw [hM9] at hw
  show W p l e R s m args below meth c H locs _ _ _ (F0 m 5 ls [.int (iN (z_2)), .ref a])
  refine x_const hC dX5_hasValue_5 ?_
  refine x_callV hC hw (lv_size hl) (c_X5_start l G hR (p0 := z_2) (by omega) (p1 := 1) (by omega) (by omega)) gX5_hasValue_X5_start rfl dv_X5_start hR.1.1 rfl rfl (Nat.le_of_ble_eq_true rfl) (by rw [hRf]; decide) (by rw [hRl]; decide) (by omega) (by omega) dX5_hasValue_6 (fun r9 M_3 H locs hq hw => ?_)
  obtain ⟨z_5, thk_4, rfl, hz_5a, hz_5b, hz_5c0, hz_5c1, hx5k_4, hRk_4⟩ := hq
  have hsck_4 := hRk_4.sc
  show W p l e R s m args below meth c H locs _ _ _ (F0 m 9 ls [.int (iN (z_5))])
  refine x_if_ne (tgt := 37) hC ⟨by omega, by omega⟩ dX5_hasValue_9 (by decide) (fun c_6 => ?_) (fun c_6 => ?_)
  · refine x_const hC dX5_hasValue_37 ?_
    exact x_zret hC hw (by omega) dX5_hasValue_38 (by omega) (by omega) ⟨0, _, rfl, by omega, Or.inr ⟨by omega, by omega, MGm.of hRk_4 hK⟩⟩
  · refine lv_aload_n hC.1 hC.2.1 dX5_hasValue_12 rfl (lv_at hl 0 rfl) ?_
    refine lv_iload_n hC.1 hC.2.1 dX5_hasValue_13 rfl (lv_at hl 2 rfl) ?_
    refine x_callS hC hw (lv_size hl) (c_X5_isNoValue l G (M := M_3) (p0 := p1) (by omega)) gX5_hasValue_X5_isNoValue rfl dv_X5_isNoValue_s rfl (Nat.le_of_ble_eq_true rfl) (by rw [hRf]; decide) (by rw [hRl]; decide) (by omega) (by omega) dX5_hasValue_14 (fun r9 M_7 H locs hq hw => ?_)
    obtain ⟨z_8, rfl, hM9, hz_8a, hz_8b⟩ := hq
    rw [hM9] at hw
    show W p l e R s m args below meth c H locs _ _ _ (F0 m 17 ls [.int (iN (z_8)), .ref a])
    refine x_const hC dX5_hasValue_17 ?_
    refine x_callV hC hw (lv_size hl) (c_X5_refuse l G hRk_4 (p0 := z_8) (by omega) (p1 := 2) (by omega) (by omega)) gX5_hasValue_X5_refuse rfl dv_X5_refuse hRk_4.1.1 rfl rfl (Nat.le_of_ble_eq_true rfl) (by rw [hRf]; decide) (by rw [hRl]; decide) (by omega) (by omega) dX5_hasValue_18 (fun r9 M_9 H locs hq hw => ?_)
    obtain ⟨z_11, thk_10, rfl, hz_11a, hz_11b, hz_11c0, hz_11c1, hx5k_10, hRk_10⟩ := hq
    have hsck_10 := hRk_10.sc
    show W p l e R s m args below meth c H locs _ _ _ (F0 m 21 ls [.int (iN (z_11))])
    refine x_if_ne (tgt := 37) hC ⟨by omega, by omega⟩ dX5_hasValue_21 (by decide) (fun c_12 => ?_) (fun c_12 => ?_)
    · refine x_const hC dX5_hasValue_37 ?_
      exact x_zret hC hw (by omega) dX5_hasValue_38 (by omega) (by omega) ⟨0, _, rfl, by omega, Or.inr ⟨by omega, by omega, MGm.of hRk_10 hK⟩⟩
    · refine lv_aload_n hC.1 hC.2.1 dX5_hasValue_24 rfl (lv_at hl 0 rfl) ?_
      refine lv_iload_n hC.1 hC.2.1 dX5_hasValue_25 rfl (lv_at hl 1 rfl) ?_
      refine lv_iload_n hC.1 hC.2.1 dX5_hasValue_26 rfl (lv_at hl 2 rfl) ?_
      refine x_callV hC hw (lv_size hl) (c_X5_having l G hRk_10 (p0 := p0) (by omega) (p1 := p1) (by omega) (by omega)) gX5_hasValue_X5_having rfl dv_X5_having hRk_10.1.1 rfl rfl (Nat.le_of_ble_eq_true rfl) (by rw [hRf]; decide) (by rw [hRl]; decide) (by omega) (by omega) dX5_hasValue_27 (fun r9 M_13 H locs hq hw => ?_)
      obtain ⟨z_14, rfl, hM9, hz_14a, hz_14c⟩ := hq
      rw [hM9] at hw
      show W p l e R s m args below meth c H locs _ _ _ (F0 m 30 ls [.int (iN (z_14))])
      refine x_if_le (tgt := 37) hC ⟨by omega, by omega⟩ dX5_hasValue_30 (by decide) (fun c_15 => ?_) (fun c_15 => ?_)
      · refine x_const hC dX5_hasValue_37 ?_
        exact x_zret hC hw (by omega) dX5_hasValue_38 (by omega) (by omega) ⟨0, _, rfl, by omega, Or.inl ⟨by omega, by first | trivial | omega, (show _ = (if cvN (V (p0).toNat) p1 100 = 0 then 0 else 1) by have e9 := hz_14c; omega), MGm.of hRk_10 hK⟩⟩
      · refine x_const hC dX5_hasValue_33 ?_
        refine lv_goto (tgt := 38) hC.1 hC.2.1 dX5_hasValue_34 (by decide) ?_
        exact x_zret hC hw (by omega) dX5_hasValue_38 (by omega) (by omega) ⟨1, _, rfl, by omega, Or.inl ⟨by omega, by first | trivial | omega, (show _ = (if cvN (V (p0).toNat) p1 100 = 0 then 0 else 1) by have e9 := hz_14c; omega), MGm.of hRk_10 hK⟩⟩
set_option maxHeartbeats 4000000 in
set_option maxRecDepth 100000 in
theorem c_X5_valueOf (l : Launch) (G : xG) {M : HM} {a va oa wa ya : Nat} {wk : Option Nat} {th : Int} {rfd : Int32} {br re la ha : Int} {kp kv : Int32} {qv qw : Nat → Nat} {fa fb : Nat → Option Nat} {V : BW} {O : OW} {fy : Nat → Option Nat} {Wv : VW} {wt : Option VT} {S : Nat → Bool} (hR : MGx G M a va oa wa ya wk th rfd br re la ha kp kv qv qw fa fb V O fy Wv wt S) {p0 : Int} (hp0 : -2147483648 ≤ p0 ∧ p0 ≤ 2147483647) {p1 : Int} (hp1 : -2147483648 ≤ p1 ∧ p1 ≤ 2147483647) (hob : 0 ≤ p0 ∧ p0 ≤ 2) (hok : p1 = -10000 ∨ (0 ≤ p1 ∧ p1 ≤ 99)) : xMet l G yX5_valueOf wsX5_valueOf 0 0 0 0 [.ref a, .int (iN (p0)), .int (iN (p1))] M (fun r M1 => ∃ z : Int, r = some (.int (iN z)) ∧ M1 = M ∧ (-10000 ≤ z ∧ z ≤ 9999) ∧ z = vlF (V p0.toNat) p1) := by
  refine x_intro (cc := cX5_valueOf) (maxL := 3) (ret := (some .int)) (by decide +kernel) rfl (Nat.le_of_ble_eq_true rfl) ?_
  intro p e R s m args below meth c ls hRf hRc hRs hRl hC hw hl
  have hsc0 := hR.sc
  have hinX5 : ∀ w ∈ wsX50, w ∈ wsX5_valueOf := by decide +kernel
  have hl : lv_has ls 3 [(0, .ref a), (1, .int (iN (p0))), (2, .int (iN (p1)))] := hl
  refine lv_iload_n hC.1 hC.2.1 dX5_valueOf_0 rfl (lv_at hl 2 rfl) ?_
  refine x_sipush hC dX5_valueOf_1 (by decide +kernel) ?_
  refine x_icmp_ne (tgt := 13) hC ⟨by omega, by omega⟩ ⟨by omega, by omega⟩ dX5_valueOf_4 (by decide) (fun c_1 => ?_) (fun c_1 => ?_)
  · refine lv_aload_n hC.1 hC.2.1 dX5_valueOf_13 rfl (lv_at hl 0 rfl) ?_
    refine x_get hC hw hR.1.1 rfl hinX5 2 (by decide) (by decide +kernel) rfl dX5_valueOf_14 ?_
    refine lv_iload_n hC.1 hC.2.1 dX5_valueOf_17 rfl (lv_at hl 1 rfl) ?_
    refine x_ald4 hC hw hR.1.2.1 (by omega) (by omega) (by omega) dX5_valueOf_18 ?_
    rw [hR.fa' (show (p0).toNat < 3 by omega)]
    show W p l e R s m args below meth c _ _ _ _ _ (F0 m 19 ls [.ref (qv ((p0).toNat))])
    refine lv_iload_n hC.1 hC.2.1 dX5_valueOf_19 rfl (lv_at hl 2 rfl) ?_
    refine x_ialdE (x := (V ((p0).toNat) ((p1).toNat))) hC hw (hR.rv (show ((p0).toNat) < 3 by omega)) (by omega) (by omega) (by omega) dX5_valueOf_20 rfl ?_
    have hrv_2 := hR.vr (show ((p0).toNat) < 3 by omega) (show (p1).toNat < 100 by omega)
    have hpv_2 := hR.vs (show ((p0).toNat) < 3 by omega) (show (p1).toNat < 100 by omega)
    exact x_iret hC hw dX5_valueOf_21 (by omega) (by omega) ⟨(V ((p0).toNat) ((p1).toNat)), rfl, rfl, by omega, (by rw [vlF]; first | (rw [if_pos (by omega)]; done) | (rw [if_neg (by omega)]; done))⟩
  · refine x_sipush hC dX5_valueOf_7 (by decide +kernel) ?_
    refine lv_goto (tgt := 21) hC.1 hC.2.1 dX5_valueOf_10 (by decide) ?_
    exact x_iret hC hw dX5_valueOf_21 (by omega) (by omega) ⟨(-10000), rfl, rfl, by omega, (by rw [vlF]; first | (rw [if_pos (by omega)]; done) | (rw [if_neg (by omega)]; done))⟩
set_option maxHeartbeats 4000000 in
set_option maxRecDepth 100000 in
theorem c_X5_unlike (l : Launch) (G : xG) {M : HM} {a va oa wa ya : Nat} {wk : Option Nat} {th : Int} {rfd : Int32} {br re la ha : Int} {kp kv : Int32} {qv qw : Nat → Nat} {fa fb : Nat → Option Nat} {V : BW} {O : OW} {fy : Nat → Option Nat} {Wv : VW} {wt : Option VT} {S : Nat → Bool} (hR : MGx G M a va oa wa ya wk th rfd br re la ha kp kv qv qw fa fb V O fy Wv wt S) {p0 : Int} (hp0 : -2147483648 ≤ p0 ∧ p0 ≤ 2147483647) (hob : 0 ≤ p0 ∧ p0 ≤ 2) : xMet l G yX5_unlike wsX5_unlike 1 20 0 0 [.ref a, .int (iN (p0))] M (fun r M1 => ∃ z : Int, r = some (.int (iN z)) ∧ M1 = M ∧ (0 ≤ z ∧ z ≤ 100) ∧ z = unF (V p0.toNat) 100) := by
  refine x_intro (cc := cX5_unlike) (maxL := 6) (ret := (some .int)) (by decide +kernel) rfl (Nat.le_of_ble_eq_true rfl) ?_
  intro p e R s m args below meth c ls hRf hRc hRs hRl hC hw hl
  have hsc0 := hR.sc
  have hinX5 : ∀ w ∈ wsX50, w ∈ wsX5_unlike := by decide +kernel
  have hl : lv_has ls 6 [(0, .ref a), (1, .int (iN (p0)))] := hl
  refine x_const hC dX5_unlike_0 ?_
  refine lv_istore_n (lv' := [(2, .int (iN (0))), (0, .ref a), (1, .int (iN (p0)))]) hC.1 hC.2.1 dX5_unlike_1 rfl hl (by decide) rfl (fun ls hl => ?_)
  refine x_const hC dX5_unlike_2 ?_
  refine lv_istore_n (lv' := [(3, .int (iN (0))), (2, .int (iN (0))), (0, .ref a), (1, .int (iN (p0)))]) hC.1 hC.2.1 dX5_unlike_3 rfl hl (by decide) rfl (fun ls hl => ?_)
  suffices hloop4 : ∀ (n9 : Nat) (n : Int) (j : Int) (H : Heap) (locs : List Loc) (ls : Array Slot), (hmu : (100 - j).toNat < n9) → (hi0 : 0 ≤ j ∧ j ≤ 100) → (hi1 : 0 ≤ n ∧ n ≤ j) → (hcn : n = unF (V (p0).toNat) (j).toNat) → xD G (xA M s.heap.size) s M H locs → lv_has ls 6 [(0, .ref a), (1, .int (iN (p0))), (2, .int (iN (n))), (3, .int (iN (j)))] → W p l e R s m args below meth c H locs _ _ _ (F0 m 4 ls []) by
    exact hloop4 _ 0 0  _ _ _ (Nat.lt_succ_self _) (by omega) (by omega) (rfl) hw (lv_sub hl [2, 3, 1, 0] rfl)
  intro n9
  induction n9 with
  | zero => intro n j  H locs ls hmu; exact absurd hmu (Nat.not_lt_zero _)
  | succ n9 ih4 =>
    intro n j  H locs ls hmu hi0 hi1 hcn hw hl
    refine lv_iload_n hC.1 hC.2.1 dX5_unlike_4 rfl (lv_at hl 3 rfl) ?_
    refine x_bipush hC dX5_unlike_5 (by decide +kernel) ?_
    refine x_icmp_ge (tgt := 97) hC ⟨by omega, by omega⟩ ⟨by omega, by omega⟩ dX5_unlike_7 (by decide) (fun c_1 => ?_) (fun c_1 => ?_)
    · refine lv_iload_n hC.1 hC.2.1 dX5_unlike_97 rfl (lv_at hl 2 rfl) ?_
      exact x_iret hC hw dX5_unlike_98 (by omega) (by omega) ⟨n, rfl, rfl, by omega, by rw [show (100 : Nat) = (j).toNat by omega]; exact hcn⟩
    · refine x_const hC dX5_unlike_10 ?_
      refine lv_istore (lv' := [(4, .int (iN (0))), (0, .ref a), (1, .int (iN (p0))), (2, .int (iN (n))), (3, .int (iN (j)))]) hC.1 hC.2.1 dX5_unlike_11 hl (by decide) rfl (fun ls hl => ?_)
      refine lv_iload_n hC.1 hC.2.1 dX5_unlike_13 rfl (lv_at hl 4 rfl) ?_
      refine x_const hC dX5_unlike_14 ?_
      refine x_iadd hC dX5_unlike_15 ?_
      refine lv_istore (lv' := [(5, .int (iN (j + 1))), (4, .int (iN (0))), (0, .ref a), (1, .int (iN (p0))), (2, .int (iN (n))), (3, .int (iN (j)))]) hC.1 hC.2.1 dX5_unlike_16 hl (by decide) rfl (fun ls hl => ?_)
      suffices hloop18 : ∀ (n9 : Nat) (mo : Int) (h : Int) (H : Heap) (locs : List Loc) (ls : Array Slot), (hmu : (100 - h).toNat < n9) → (hi2 : 0 ≤ h ∧ h ≤ 100 ∧ j < h) → (hi3 : mo = 0 ∨ mo = 1) → (hla : mo = 0 ↔ laF (V (p0).toNat) (j).toNat (h).toNat = 0) → xD G (xA M s.heap.size) s M H locs → lv_has ls 6 [(0, .ref a), (1, .int (iN (p0))), (2, .int (iN (n))), (3, .int (iN (j))), (4, .int (iN (mo))), (5, .int (iN (h)))] → W p l e R s m args below meth c H locs _ _ _ (F0 m 18 ls []) by
        exact hloop18 _ 0 (j + 1)  _ _ _ (Nat.lt_succ_self _) (by omega) (by omega) (by rw [laF_init (by omega)]; omega) hw (lv_sub hl [2, 3, 4, 5, 1, 0] rfl)
      intro n9
      induction n9 with
      | zero => intro mo h  H locs ls hmu; exact absurd hmu (Nat.not_lt_zero _)
      | succ n9 ih18 =>
        intro mo h  H locs ls hmu hi2 hi3 hla hw hl
        refine lv_iload hC.1 hC.2.1 dX5_unlike_18 (lv_at hl 5 rfl) ?_
        refine x_bipush hC dX5_unlike_20 (by decide +kernel) ?_
        refine x_icmp_ge (tgt := 61) hC ⟨by omega, by omega⟩ ⟨by omega, by omega⟩ dX5_unlike_22 (by decide) (fun c_2 => ?_) (fun c_2 => ?_)
        · refine lv_iload_n hC.1 hC.2.1 dX5_unlike_61 rfl (lv_at hl 2 rfl) ?_
          refine lv_aload_n hC.1 hC.2.1 dX5_unlike_62 rfl (lv_at hl 0 rfl) ?_
          refine x_get hC hw hR.1.1 rfl hinX5 2 (by decide) (by decide +kernel) rfl dX5_unlike_63 ?_
          refine lv_iload_n hC.1 hC.2.1 dX5_unlike_66 rfl (lv_at hl 1 rfl) ?_
          refine x_ald4 hC hw hR.1.2.1 (by omega) (by omega) (by omega) dX5_unlike_67 ?_
          rw [hR.fa' (show (p0).toNat < 3 by omega)]
          show W p l e R s m args below meth c _ _ _ _ _ (F0 m 68 ls [.ref (qv ((p0).toNat)), .int (iN (n))])
          refine lv_iload_n hC.1 hC.2.1 dX5_unlike_68 rfl (lv_at hl 3 rfl) ?_
          refine x_ialdE (x := (V ((p0).toNat) ((j).toNat))) hC hw (hR.rv (show ((p0).toNat) < 3 by omega)) (by omega) (by omega) (by omega) dX5_unlike_69 rfl ?_
          have hrv_3 := hR.vr (show ((p0).toNat) < 3 by omega) (show (j).toNat < 100 by omega)
          have hpv_3 := hR.vs (show ((p0).toNat) < 3 by omega) (show (j).toNat < 100 by omega)
          refine x_sipush hC dX5_unlike_70 (by decide +kernel) ?_
          refine x_icmp_eq (tgt := 85) hC ⟨by omega, by omega⟩ ⟨by omega, by omega⟩ dX5_unlike_73 (by decide) (fun c_4 => ?_) (fun c_4 => ?_)
          · refine x_const hC dX5_unlike_85 ?_
            refine x_callS hC hw (lv_size hl) (c_X5_one l G (M := M) (p0 := 0) (by omega)) gX5_unlike_X5_one rfl dv_X5_one_s rfl (Nat.le_of_ble_eq_true rfl) (by rw [hRf]; decide) (by rw [hRl]; decide) (by omega) (by omega) dX5_unlike_86 (fun r9 M_5 H locs hq hw => ?_)
            obtain ⟨z_6, rfl, hM9, hz_6a, hz_6b⟩ := hq
            rw [hM9] at hw
            show W p l e R s m args below meth c H locs _ _ _ (F0 m 89 ls [.int (iN (z_6)), .int (iN (n))])
            refine x_iadd hC dX5_unlike_89 ?_
            refine lv_istore_n (lv' := [(2, .int (iN (n + z_6))), (0, .ref a), (1, .int (iN (p0))), (3, .int (iN (j))), (4, .int (iN (mo))), (5, .int (iN (h)))]) hC.1 hC.2.1 dX5_unlike_90 rfl hl (by decide) rfl (fun ls hl => ?_)
            refine x_iinc (lv' := [(3, .int (iN (j + 1))), (2, .int (iN (n + z_6))), (0, .ref a), (1, .int (iN (p0))), (4, .int (iN (mo))), (5, .int (iN (h)))]) hC dX5_unlike_91 hl (k := 3) rfl (by decide) rfl (fun ls hl => ?_)
            refine lv_goto (tgt := 4) hC.1 hC.2.1 dX5_unlike_94 (by decide) ?_
            exact ih4 (n + z_6) (j + 1)  _ _ _ (by omega) (by omega) (by omega) (by rw [unF_s (by omega) rfl, show (100 : Nat) = (h).toNat by omega]; have e8 := laF_nn (V (p0).toNat) (j).toNat (h).toNat; omega) hw (lv_sub hl [2, 3, 1, 0] rfl)
          · refine lv_iload hC.1 hC.2.1 dX5_unlike_76 (lv_at hl 4 rfl) ?_
            refine x_if_ne (tgt := 85) hC ⟨by omega, by omega⟩ dX5_unlike_78 (by decide) (fun c_7 => ?_) (fun c_7 => ?_)
            · refine x_const hC dX5_unlike_85 ?_
              refine x_callS hC hw (lv_size hl) (c_X5_one l G (M := M) (p0 := 0) (by omega)) gX5_unlike_X5_one rfl dv_X5_one_s rfl (Nat.le_of_ble_eq_true rfl) (by rw [hRf]; decide) (by rw [hRl]; decide) (by omega) (by omega) dX5_unlike_86 (fun r9 M_8 H locs hq hw => ?_)
              obtain ⟨z_9, rfl, hM9, hz_9a, hz_9b⟩ := hq
              rw [hM9] at hw
              show W p l e R s m args below meth c H locs _ _ _ (F0 m 89 ls [.int (iN (z_9)), .int (iN (n))])
              refine x_iadd hC dX5_unlike_89 ?_
              refine lv_istore_n (lv' := [(2, .int (iN (n + z_9))), (0, .ref a), (1, .int (iN (p0))), (3, .int (iN (j))), (4, .int (iN (mo))), (5, .int (iN (h)))]) hC.1 hC.2.1 dX5_unlike_90 rfl hl (by decide) rfl (fun ls hl => ?_)
              refine x_iinc (lv' := [(3, .int (iN (j + 1))), (2, .int (iN (n + z_9))), (0, .ref a), (1, .int (iN (p0))), (4, .int (iN (mo))), (5, .int (iN (h)))]) hC dX5_unlike_91 hl (k := 3) rfl (by decide) rfl (fun ls hl => ?_)
              refine lv_goto (tgt := 4) hC.1 hC.2.1 dX5_unlike_94 (by decide) ?_
              exact ih4 (n + z_9) (j + 1)  _ _ _ (by omega) (by omega) (by omega) (by rw [unF_s (by omega) rfl, show (100 : Nat) = (h).toNat by omega]; have e8 := laF_nn (V (p0).toNat) (j).toNat (h).toNat; omega) hw (lv_sub hl [2, 3, 1, 0] rfl)
            · refine x_const hC dX5_unlike_81 ?_
              refine lv_goto (tgt := 86) hC.1 hC.2.1 dX5_unlike_82 (by decide) ?_
              refine x_callS hC hw (lv_size hl) (c_X5_one l G (M := M) (p0 := 1) (by omega)) gX5_unlike_X5_one rfl dv_X5_one_s rfl (Nat.le_of_ble_eq_true rfl) (by rw [hRf]; decide) (by rw [hRl]; decide) (by omega) (by omega) dX5_unlike_86 (fun r9 M_10 H locs hq hw => ?_)
              obtain ⟨z_11, rfl, hM9, hz_11a, hz_11b⟩ := hq
              rw [hM9] at hw
              show W p l e R s m args below meth c H locs _ _ _ (F0 m 89 ls [.int (iN (z_11)), .int (iN (n))])
              refine x_iadd hC dX5_unlike_89 ?_
              refine lv_istore_n (lv' := [(2, .int (iN (n + z_11))), (0, .ref a), (1, .int (iN (p0))), (3, .int (iN (j))), (4, .int (iN (mo))), (5, .int (iN (h)))]) hC.1 hC.2.1 dX5_unlike_90 rfl hl (by decide) rfl (fun ls hl => ?_)
              refine x_iinc (lv' := [(3, .int (iN (j + 1))), (2, .int (iN (n + z_11))), (0, .ref a), (1, .int (iN (p0))), (4, .int (iN (mo))), (5, .int (iN (h)))]) hC dX5_unlike_91 hl (k := 3) rfl (by decide) rfl (fun ls hl => ?_)
              refine lv_goto (tgt := 4) hC.1 hC.2.1 dX5_unlike_94 (by decide) ?_
              exact ih4 (n + z_11) (j + 1)  _ _ _ (by omega) (by omega) (by omega) (by rw [unF_s (by omega) rfl, show (100 : Nat) = (h).toNat by omega]; have e8 := laF_nn (V (p0).toNat) (j).toNat (h).toNat; omega) hw (lv_sub hl [2, 3, 1, 0] rfl)
        · refine lv_iload hC.1 hC.2.1 dX5_unlike_25 (lv_at hl 4 rfl) ?_
          refine lv_aload_n hC.1 hC.2.1 dX5_unlike_27 rfl (lv_at hl 0 rfl) ?_
          refine x_get hC hw hR.1.1 rfl hinX5 2 (by decide) (by decide +kernel) rfl dX5_unlike_28 ?_
          refine lv_iload_n hC.1 hC.2.1 dX5_unlike_31 rfl (lv_at hl 1 rfl) ?_
          refine x_ald4 hC hw hR.1.2.1 (by omega) (by omega) (by omega) dX5_unlike_32 ?_
          rw [hR.fa' (show (p0).toNat < 3 by omega)]
          show W p l e R s m args below meth c _ _ _ _ _ (F0 m 33 ls [.ref (qv ((p0).toNat)), .int (iN (mo))])
          refine lv_iload hC.1 hC.2.1 dX5_unlike_33 (lv_at hl 5 rfl) ?_
          refine x_ialdE (x := (V ((p0).toNat) ((h).toNat))) hC hw (hR.rv (show ((p0).toNat) < 3 by omega)) (by omega) (by omega) (by omega) dX5_unlike_35 rfl ?_
          have hrv_12 := hR.vr (show ((p0).toNat) < 3 by omega) (show (h).toNat < 100 by omega)
          have hpv_12 := hR.vs (show ((p0).toNat) < 3 by omega) (show (h).toNat < 100 by omega)
          refine lv_aload_n hC.1 hC.2.1 dX5_unlike_36 rfl (lv_at hl 0 rfl) ?_
          refine x_get hC hw hR.1.1 rfl hinX5 2 (by decide) (by decide +kernel) rfl dX5_unlike_37 ?_
          refine lv_iload_n hC.1 hC.2.1 dX5_unlike_40 rfl (lv_at hl 1 rfl) ?_
          refine x_ald4 hC hw hR.1.2.1 (by omega) (by omega) (by omega) dX5_unlike_41 ?_
          rw [hR.fa' (show (p0).toNat < 3 by omega)]
          show W p l e R s m args below meth c _ _ _ _ _ (F0 m 42 ls [.ref (qv ((p0).toNat)), .int (iN ((V ((p0).toNat) ((h).toNat)))), .int (iN (mo))])
          refine lv_iload_n hC.1 hC.2.1 dX5_unlike_42 rfl (lv_at hl 3 rfl) ?_
          refine x_ialdE (x := (V ((p0).toNat) ((j).toNat))) hC hw (hR.rv (show ((p0).toNat) < 3 by omega)) (by omega) (by omega) (by omega) dX5_unlike_43 rfl ?_
          have hrv_13 := hR.vr (show ((p0).toNat) < 3 by omega) (show (j).toNat < 100 by omega)
          have hpv_13 := hR.vs (show ((p0).toNat) < 3 by omega) (show (j).toNat < 100 by omega)
          refine x_icmp_ne (tgt := 51) hC ⟨by omega, by omega⟩ ⟨by omega, by omega⟩ dX5_unlike_44 (by decide) (fun c_14 => ?_) (fun c_14 => ?_)
          · refine x_const hC dX5_unlike_51 ?_
            refine x_ior hC dX5_unlike_52 (fun z_15 hrz_15 => ?_)
            refine lv_istore (lv' := [(4, .int (iN (z_15))), (0, .ref a), (1, .int (iN (p0))), (2, .int (iN (n))), (3, .int (iN (j))), (5, .int (iN (h)))]) hC.1 hC.2.1 dX5_unlike_53 hl (by decide) rfl (fun ls hl => ?_)
            refine x_iinc (lv' := [(5, .int (iN (h + 1))), (4, .int (iN (z_15))), (0, .ref a), (1, .int (iN (p0))), (2, .int (iN (n))), (3, .int (iN (j)))]) hC dX5_unlike_55 hl (k := 5) rfl (by decide) rfl (fun ls hl => ?_)
            refine lv_goto (tgt := 18) hC.1 hC.2.1 dX5_unlike_58 (by decide) ?_
            exact ih18 z_15 (h + 1)  _ _ _ (by omega) (by omega) (by omega) (by have e9 := laF_nn (V (p0).toNat) (j).toNat (h).toNat; rw [laF_s (by omega) rfl]; omega) hw (lv_sub hl [2, 3, 4, 5, 1, 0] rfl)
          · refine x_const hC dX5_unlike_47 ?_
            refine lv_goto (tgt := 52) hC.1 hC.2.1 dX5_unlike_48 (by decide) ?_
            refine x_ior hC dX5_unlike_52 (fun z_16 hrz_16 => ?_)
            refine lv_istore (lv' := [(4, .int (iN (z_16))), (0, .ref a), (1, .int (iN (p0))), (2, .int (iN (n))), (3, .int (iN (j))), (5, .int (iN (h)))]) hC.1 hC.2.1 dX5_unlike_53 hl (by decide) rfl (fun ls hl => ?_)
            refine x_iinc (lv' := [(5, .int (iN (h + 1))), (4, .int (iN (z_16))), (0, .ref a), (1, .int (iN (p0))), (2, .int (iN (n))), (3, .int (iN (j)))]) hC dX5_unlike_55 hl (k := 5) rfl (by decide) rfl (fun ls hl => ?_)
            refine lv_goto (tgt := 18) hC.1 hC.2.1 dX5_unlike_58 (by decide) ?_
            exact ih18 z_16 (h + 1)  _ _ _ (by omega) (by omega) (by omega) (by have e9 := laF_nn (V (p0).toNat) (j).toNat (h).toNat; rw [laF_s (by omega) rfl]; omega) hw (lv_sub hl [2, 3, 4, 5, 1, 0] rfl)
set_option maxHeartbeats 4000000 in
set_option maxRecDepth 100000 in
theorem c_X5_viewsOf (l : Launch) (G : xG) {M : HM} {a va oa wa ya : Nat} {wk : Option Nat} {th : Int} {rfd : Int32} {br re la ha : Int} {kp kv : Int32} {qv qw : Nat → Nat} {fa fb : Nat → Option Nat} {V : BW} {O : OW} {fy : Nat → Option Nat} {Wv : VW} {wt : Option VT} {S : Nat → Bool} (hR : MGx G M a va oa wa ya wk th rfd br re la ha kp kv qv qw fa fb V O fy Wv wt S) {p0 : Int} (hp0 : -2147483648 ≤ p0 ∧ p0 ≤ 2147483647) (hob : 0 ≤ p0 ∧ p0 ≤ 2) : xMet l G yX5_viewsOf wsX5_viewsOf 1 20 0 0 [.ref a, .int (iN (p0))] M (fun r M1 => ∃ z : Int, r = some (.int (iN z)) ∧ M1 = M ∧ (0 ≤ z ∧ z ≤ 4) ∧ z = vwN Wv p0.toNat 4) := by
  refine x_intro (cc := cX5_viewsOf) (maxL := 7) (ret := (some .int)) (by decide +kernel) rfl (Nat.le_of_ble_eq_true rfl) ?_
  intro p e R s m args below meth c ls hRf hRc hRs hRl hC hw hl
  have hsc0 := hR.sc
  have hinX5 : ∀ w ∈ wsX50, w ∈ wsX5_viewsOf := by decide +kernel
  have hl : lv_has ls 7 [(0, .ref a), (1, .int (iN (p0)))] := hl
  refine x_const hC dX5_viewsOf_0 ?_
  refine lv_istore_n (lv' := [(2, .int (iN (0))), (0, .ref a), (1, .int (iN (p0)))]) hC.1 hC.2.1 dX5_viewsOf_1 rfl hl (by decide) rfl (fun ls hl => ?_)
  refine lv_aload_n hC.1 hC.2.1 dX5_viewsOf_2 rfl (lv_at hl 1 rfl) ?_
  refine x_get hC hw hR.1.1 rfl hinX5 5 (by decide) (by decide +kernel) rfl dX5_viewsOf_3 ?_
  refine lv_astore_n (lv' := [(3, .ref ya), (2, .int (iN (0))), (0, .ref a), (1, .int (iN (p0)))]) hC.1 hC.2.1 dX5_viewsOf_6 rfl hl (by decide) rfl (fun ls hl => ?_)
  refine lv_aload_n hC.1 hC.2.1 dX5_viewsOf_7 rfl (lv_at hl 0 rfl) ?_
  refine x_alen hC hw 4 hR.1.2.2.2.2.1 rfl dX5_viewsOf_8 ?_
  refine lv_istore (lv' := [(4, .int (iN (4))), (3, .ref ya), (2, .int (iN (0))), (0, .ref a), (1, .int (iN (p0)))]) hC.1 hC.2.1 dX5_viewsOf_9 hl (by decide) rfl (fun ls hl => ?_)
  refine x_const hC dX5_viewsOf_11 ?_
  refine lv_istore (lv' := [(5, .int (iN (0))), (4, .int (iN (4))), (3, .ref ya), (2, .int (iN (0))), (0, .ref a), (1, .int (iN (p0)))]) hC.1 hC.2.1 dX5_viewsOf_12 hl (by decide) rfl (fun ls hl => ?_)
  suffices hloop14 : ∀ (n9 : Nat) (n : Int) (j : Int) (H : Heap) (locs : List Loc) (ls : Array Slot), (hmu : (4 - j).toNat < n9) → (hi0 : 0 ≤ j ∧ j ≤ 4) → (hi1 : 0 ≤ n ∧ n ≤ j) → (hcn : n = vwN Wv (p0).toNat (j).toNat) → xD G (xA M s.heap.size) s M H locs → lv_has ls 7 [(0, .ref a), (1, .int (iN (p0))), (2, .int (iN (n))), (3, .ref ya), (4, .int (iN (4))), (5, .int (iN (j)))] → W p l e R s m args below meth c H locs _ _ _ (F0 m 14 ls []) by
    exact hloop14 _ 0 0  _ _ _ (Nat.lt_succ_self _) (by omega) (by omega) (rfl) hw (lv_sub hl [4, 5, 3, 2, 1, 0] rfl)
  intro n9
  induction n9 with
  | zero => intro n j  H locs ls hmu; exact absurd hmu (Nat.not_lt_zero _)
  | succ n9 ih14 =>
    intro n j  H locs ls hmu hi0 hi1 hcn hw hl
    refine lv_iload hC.1 hC.2.1 dX5_viewsOf_14 (lv_at hl 5 rfl) ?_
    refine lv_iload hC.1 hC.2.1 dX5_viewsOf_16 (lv_at hl 4 rfl) ?_
    refine x_icmp_ge (tgt := 57) hC ⟨by omega, by omega⟩ ⟨by omega, by omega⟩ dX5_viewsOf_18 (by decide) (fun c_1 => ?_) (fun c_1 => ?_)
    · refine lv_iload_n hC.1 hC.2.1 dX5_viewsOf_57 rfl (lv_at hl 2 rfl) ?_
      exact x_iret hC hw dX5_viewsOf_58 (by omega) (by omega) ⟨n, rfl, rfl, by omega, by rw [show (4 : Nat) = (j).toNat by omega]; exact hcn⟩
    · refine lv_aload_n hC.1 hC.2.1 dX5_viewsOf_21 rfl (lv_at hl 3 rfl) ?_
      refine lv_iload hC.1 hC.2.1 dX5_viewsOf_22 (lv_at hl 5 rfl) ?_
      refine x_ald4 hC hw hR.1.2.2.2.2.1 (by omega) (by omega) (by omega) dX5_viewsOf_24 ?_
      rcases hy_3 : fy ((j).toNat) with _ | y_2
      · have hnhy_3 : Wv ((j).toNat) = none := (hR.vw (show (j).toNat < 4 by omega)).nil hy_3
        have hohy_3 := opN_none hnhy_3
        show W p l e R s m args below meth c _ _ _ _ _ (F0 m 25 ls [.null])
        refine lv_astoreN (lv' := [(6, .null), (0, .ref a), (1, .int (iN (p0))), (2, .int (iN (n))), (3, .ref ya), (4, .int (iN (4))), (5, .int (iN (j)))]) hC.1 hC.2.1 dX5_viewsOf_25 hl (by decide) rfl (fun ls hl => ?_)
        refine lv_iload_n hC.1 hC.2.1 dX5_viewsOf_27 rfl (lv_at hl 3 rfl) ?_
        refine lv_aloadN hC.1 hC.2.1 dX5_viewsOf_28 (lv_at hl 0 rfl) ?_
        refine lv_ifnullN (tgt := 45) hC.1 hC.2.1 dX5_viewsOf_30 (by decide) ?_
        refine x_const hC dX5_viewsOf_45 ?_
        refine x_callS hC hw (lv_size hl) (c_X5_one l G (M := M) (p0 := 0) (by omega)) gX5_viewsOf_X5_one rfl dv_X5_one_s rfl (Nat.le_of_ble_eq_true rfl) (by rw [hRf]; decide) (by rw [hRl]; decide) (by omega) (by omega) dX5_viewsOf_46 (fun r9 M_4 H locs hq hw => ?_)
        obtain ⟨z_5, rfl, hM9, hz_5a, hz_5b⟩ := hq
        rw [hM9] at hw
        show W p l e R s m args below meth c H locs _ _ _ (F0 m 49 ls [.int (iN (z_5)), .int (iN (n))])
        refine x_iadd hC dX5_viewsOf_49 ?_
        refine lv_istore_n (lv' := [(2, .int (iN (n + z_5))), (6, .null), (0, .ref a), (1, .int (iN (p0))), (3, .ref ya), (4, .int (iN (4))), (5, .int (iN (j)))]) hC.1 hC.2.1 dX5_viewsOf_50 rfl hl (by decide) rfl (fun ls hl => ?_)
        refine x_iinc (lv' := [(5, .int (iN (j + 1))), (2, .int (iN (n + z_5))), (6, .null), (0, .ref a), (1, .int (iN (p0))), (3, .ref ya), (4, .int (iN (4)))]) hC dX5_viewsOf_51 hl (k := 6) rfl (by decide) rfl (fun ls hl => ?_)
        refine lv_goto (tgt := 14) hC.1 hC.2.1 dX5_viewsOf_54 (by decide) ?_
        exact ih14 (n + z_5) (j + 1)  _ _ _ (by omega) (by omega) (by omega) (by rw [vwN_s (by omega) (vbN_nil hnhy_3)]; omega) hw (lv_sub hl [3, 4, 1, 5, 6, 0] rfl)
      · obtain ⟨ti_6, fi_6, hui_6, hIi_6⟩ := (hR.vw (show (j).toNat < 4 by omega)).yes hy_3
        obtain ⟨htat_7, htbt_7, htct_7, htdt_7, htet_7⟩ := id hIi_6.2.1
        have hohy_3 := opN_some hui_6
        show W p l e R s m args below meth c _ _ _ _ _ (F0 m 25 ls [.ref y_2])
        refine lv_astore (lv' := [(6, .ref y_2), (0, .ref a), (1, .int (iN (p0))), (2, .int (iN (n))), (3, .ref ya), (4, .int (iN (4))), (5, .int (iN (j)))]) hC.1 hC.2.1 dX5_viewsOf_25 hl (by decide) rfl (fun ls hl => ?_)
        refine lv_iload_n hC.1 hC.2.1 dX5_viewsOf_27 rfl (lv_at hl 3 rfl) ?_
        refine lv_aload hC.1 hC.2.1 dX5_viewsOf_28 (lv_at hl 0 rfl) ?_
        refine lv_ifnull hC.1 hC.2.1 dX5_viewsOf_30 ?_
        refine lv_aload hC.1 hC.2.1 dX5_viewsOf_33 (lv_at hl 0 rfl) ?_
        refine x_const hC dX5_viewsOf_35 ?_
        refine x_ialdE (x := ((ti_6.b : Nat) : Int)) hC hw hIi_6.1 (by omega) (by omega) (by omega) dX5_viewsOf_36 hIi_6.2.2.1 ?_
        refine lv_iload_n hC.1 hC.2.1 dX5_viewsOf_37 rfl (lv_at hl 2 rfl) ?_
        refine x_icmp_ne (tgt := 45) hC ⟨by omega, by omega⟩ ⟨by omega, by omega⟩ dX5_viewsOf_38 (by decide) (fun c_8 => ?_) (fun c_8 => ?_)
        · refine x_const hC dX5_viewsOf_45 ?_
          refine x_callS hC hw (lv_size hl) (c_X5_one l G (M := M) (p0 := 0) (by omega)) gX5_viewsOf_X5_one rfl dv_X5_one_s rfl (Nat.le_of_ble_eq_true rfl) (by rw [hRf]; decide) (by rw [hRl]; decide) (by omega) (by omega) dX5_viewsOf_46 (fun r9 M_9 H locs hq hw => ?_)
          obtain ⟨z_10, rfl, hM9, hz_10a, hz_10b⟩ := hq
          rw [hM9] at hw
          show W p l e R s m args below meth c H locs _ _ _ (F0 m 49 ls [.int (iN (z_10)), .int (iN (n))])
          refine x_iadd hC dX5_viewsOf_49 ?_
          refine lv_istore_n (lv' := [(2, .int (iN (n + z_10))), (6, .ref y_2), (0, .ref a), (1, .int (iN (p0))), (3, .ref ya), (4, .int (iN (4))), (5, .int (iN (j)))]) hC.1 hC.2.1 dX5_viewsOf_50 rfl hl (by decide) rfl (fun ls hl => ?_)
          refine x_iinc (lv' := [(5, .int (iN (j + 1))), (2, .int (iN (n + z_10))), (6, .ref y_2), (0, .ref a), (1, .int (iN (p0))), (3, .ref ya), (4, .int (iN (4)))]) hC dX5_viewsOf_51 hl (k := 6) rfl (by decide) rfl (fun ls hl => ?_)
          refine lv_goto (tgt := 14) hC.1 hC.2.1 dX5_viewsOf_54 (by decide) ?_
          exact ih14 (n + z_10) (j + 1)  _ _ _ (by omega) (by omega) (by omega) (by rw [vwN_s (by omega) (vbN_ne hui_6 (by omega))]; omega) hw (lv_sub hl [3, 4, 1, 5, 6, 0] rfl)
        · refine x_const hC dX5_viewsOf_41 ?_
          refine lv_goto (tgt := 46) hC.1 hC.2.1 dX5_viewsOf_42 (by decide) ?_
          refine x_callS hC hw (lv_size hl) (c_X5_one l G (M := M) (p0 := 1) (by omega)) gX5_viewsOf_X5_one rfl dv_X5_one_s rfl (Nat.le_of_ble_eq_true rfl) (by rw [hRf]; decide) (by rw [hRl]; decide) (by omega) (by omega) dX5_viewsOf_46 (fun r9 M_11 H locs hq hw => ?_)
          obtain ⟨z_12, rfl, hM9, hz_12a, hz_12b⟩ := hq
          rw [hM9] at hw
          show W p l e R s m args below meth c H locs _ _ _ (F0 m 49 ls [.int (iN (z_12)), .int (iN (n))])
          refine x_iadd hC dX5_viewsOf_49 ?_
          refine lv_istore_n (lv' := [(2, .int (iN (n + z_12))), (6, .ref y_2), (0, .ref a), (1, .int (iN (p0))), (3, .ref ya), (4, .int (iN (4))), (5, .int (iN (j)))]) hC.1 hC.2.1 dX5_viewsOf_50 rfl hl (by decide) rfl (fun ls hl => ?_)
          refine x_iinc (lv' := [(5, .int (iN (j + 1))), (2, .int (iN (n + z_12))), (6, .ref y_2), (0, .ref a), (1, .int (iN (p0))), (3, .ref ya), (4, .int (iN (4)))]) hC dX5_viewsOf_51 hl (k := 6) rfl (by decide) rfl (fun ls hl => ?_)
          refine lv_goto (tgt := 14) hC.1 hC.2.1 dX5_viewsOf_54 (by decide) ?_
          exact ih14 (n + z_12) (j + 1)  _ _ _ (by omega) (by omega) (by omega) (by rw [vwN_s (by omega) (vbN_eq hui_6 (by omega))]; omega) hw (lv_sub hl [3, 4, 1, 5, 6, 0] rfl)
set_option maxHeartbeats 4000000 in
set_option maxRecDepth 100000 in
theorem c_X5_bookTold (l : Launch) (G : xG) {M : HM} {a va oa wa ya : Nat} {wk : Option Nat} {th : Int} {rfd : Int32} {br re la ha : Int} {kp kv : Int32} {qv qw : Nat → Nat} {fa fb : Nat → Option Nat} {V : BW} {O : OW} {fy : Nat → Option Nat} {Wv : VW} {wt : Option VT} {S : Nat → Bool} (hR : MGx G M a va oa wa ya wk th rfd br re la ha kp kv qv qw fa fb V O fy Wv wt S) {p0 : Int} (hp0 : -2147483648 ≤ p0 ∧ p0 ≤ 2147483647) {p1 : Int} (hp1 : -2147483648 ≤ p1 ∧ p1 ≤ 2147483647) (hob : 0 ≤ p0 ∧ p0 ≤ 2) (how : 0 ≤ p1 ∧ p1 ≤ 8) : xMet l G yX5_bookTold wsX5_bookTold 5 115 1 5 [.ref a, .int (iN (p0)), .int (iN (p1))] M (fun r M1 => ∃ z : Int, r = some (.int (iN z)) ∧ xExt M M1 ∧ (-2147483648 ≤ z ∧ z ≤ 2147483647) ∧ z = A_ofBook (O, V, Wv, (none : WA), kp, kv, rfd) p0 p1) := by
  refine x_intro (cc := cX5_bookTold) (maxL := 4) (ret := (some .int)) (by decide +kernel) rfl (Nat.le_of_ble_eq_true rfl) ?_
  intro p e R s m args below meth c ls hRf hRc hRs hRl hC hw hl
  have hsc0 := hR.sc
  have hinX5 : ∀ w ∈ wsX50, w ∈ wsX5_bookTold := by decide +kernel
  have hl : lv_has ls 4 [(0, .ref a), (1, .int (iN (p0))), (2, .int (iN (p1)))] := hl
  refine lv_iload_n hC.1 hC.2.1 dX5_bookTold_0 rfl (lv_at hl 1 rfl) ?_
  refine x_callS hC hw (lv_size hl) (c_X5_whole l G (M := M) (p0 := p0) (by omega) (by omega)) gX5_bookTold_X5_whole rfl dv_X5_whole_s rfl (Nat.le_of_ble_eq_true rfl) (by rw [hRf]; decide) (by rw [hRl]; decide) (by omega) (by omega) dX5_bookTold_1 (fun r9 M_1 H locs hq hw => ?_)
  obtain ⟨qk_2, fk_2, rfl, hxk_2, hIk_2⟩ := hq
  have h_3 := hR.ext hxk_2
  obtain ⟨htat_4, htbt_4, htct_4, htdt_4, htet_4⟩ := id hIk_2.2.1
  have holk_2 := h_3.or' hIk_2.2.1.1
  show W p l e R s m args below meth c H locs _ _ _ (F0 m 4 ls [.ref qk_2])
  refine lv_astore_n (lv' := [(3, .ref qk_2), (0, .ref a), (1, .int (iN (p0))), (2, .int (iN (p1)))]) hC.1 hC.2.1 dX5_bookTold_4 rfl hl (by decide) rfl (fun ls hl => ?_)
  refine lv_iload_n hC.1 hC.2.1 dX5_bookTold_5 rfl (lv_at hl 3 rfl) ?_
  by_cases c_5 : p1 = 0
  · refine x_tsw (off := 46) (tgt := 52) (k := 0) hC (by omega) dX5_bookTold_6 (by decide) (by decide) rfl (by decide) ?_
    refine lv_aload_n hC.1 hC.2.1 dX5_bookTold_52 rfl (lv_at hl 1 rfl) ?_
    refine lv_aload_n hC.1 hC.2.1 dX5_bookTold_53 rfl (lv_at hl 0 rfl) ?_
    refine x_callV hC hw (lv_size hl) (c_X5_many l G h_3 hIk_2) gX5_bookTold_X5_many rfl dv_X5_many h_3.1.1 rfl rfl (Nat.le_of_ble_eq_true rfl) (by rw [hRf]; decide) (by rw [hRl]; decide) (by omega) (by omega) dX5_bookTold_54 (fun r9 M_6 H locs hq hw => ?_)
    obtain ⟨z_7, rfl, hM9, hz_7a, hz_7m⟩ := hq
    rw [hM9] at hw
    show W p l e R s m args below meth c H locs _ _ _ (F0 m 57 ls [.int (iN (z_7))])
    exact x_iret hC hw dX5_bookTold_57 (by omega) (by omega) ⟨z_7, rfl, hxk_2, by omega, (by rw [A_ofBook, if_pos (by omega)]; first | done | exact hz_7m)⟩
  by_cases c_8 : p1 = 1
  · refine x_tsw (off := 52) (tgt := 58) (k := 1) hC (by omega) dX5_bookTold_6 (by decide) (by decide) rfl (by decide) ?_
    refine lv_aload_n hC.1 hC.2.1 dX5_bookTold_58 rfl (lv_at hl 1 rfl) ?_
    refine x_get hC hw h_3.1.1 rfl hinX5 3 (by decide) (by decide +kernel) rfl dX5_bookTold_59 ?_
    refine lv_iload_n hC.1 hC.2.1 dX5_bookTold_62 rfl (lv_at hl 2 rfl) ?_
    refine x_ialdE (x := ((O ((p0).toNat) : Nat) : Int)) hC hw h_3.1.2.2.1 (by omega) (by omega) (by omega) dX5_bookTold_63 rfl ?_
    have hro_9 : O ((p0).toNat) < 3 := h_3.or' (by omega)
    exact x_iret hC hw dX5_bookTold_64 (by omega) (by omega) ⟨((O ((p0).toNat) : Nat) : Int), rfl, hxk_2, by omega, (by rw [A_ofBook, if_neg (by omega), if_pos (by omega)]; first | done | exact rfl)⟩
  by_cases c_10 : p1 = 2
  · refine x_tsw (off := 59) (tgt := 65) (k := 2) hC (by omega) dX5_bookTold_6 (by decide) (by decide) rfl (by decide) ?_
    refine lv_aload_n hC.1 hC.2.1 dX5_bookTold_65 rfl (lv_at hl 1 rfl) ?_
    refine lv_aload_n hC.1 hC.2.1 dX5_bookTold_66 rfl (lv_at hl 0 rfl) ?_
    refine x_const hC dX5_bookTold_67 ?_
    refine x_callV hC hw (lv_size hl) (c_X5_end l G h_3 hIk_2 (p0 := 0) (by omega)) gX5_bookTold_X5_end rfl dv_X5_end h_3.1.1 rfl rfl (Nat.le_of_ble_eq_true rfl) (by rw [hRf]; decide) (by rw [hRl]; decide) (by omega) (by omega) dX5_bookTold_68 (fun r9 M_11 H locs hq hw => ?_)
    obtain ⟨z_12, rfl, hM9, hz_12a, hz_12S, hz_12e⟩ := hq
    rw [hM9] at hw
    show W p l e R s m args below meth c H locs _ _ _ (F0 m 71 ls [.int (iN (z_12))])
    exact x_iret hC hw dX5_bookTold_71 (by omega) (by omega) ⟨z_12, rfl, hxk_2, by omega, (by rw [A_ofBook, if_neg (by omega), if_neg (by omega), if_pos (by omega)]; first | done | exact hz_12e)⟩
  by_cases c_13 : p1 = 3
  · refine x_tsw (off := 66) (tgt := 72) (k := 3) hC (by omega) dX5_bookTold_6 (by decide) (by decide) rfl (by decide) ?_
    refine lv_aload_n hC.1 hC.2.1 dX5_bookTold_72 rfl (lv_at hl 1 rfl) ?_
    refine lv_iload_n hC.1 hC.2.1 dX5_bookTold_73 rfl (lv_at hl 2 rfl) ?_
    refine lv_aload_n hC.1 hC.2.1 dX5_bookTold_74 rfl (lv_at hl 1 rfl) ?_
    refine lv_aload_n hC.1 hC.2.1 dX5_bookTold_75 rfl (lv_at hl 0 rfl) ?_
    refine x_const hC dX5_bookTold_76 ?_
    refine x_callV hC hw (lv_size hl) (c_X5_end l G h_3 hIk_2 (p0 := 0) (by omega)) gX5_bookTold_X5_end rfl dv_X5_end h_3.1.1 rfl rfl (Nat.le_of_ble_eq_true rfl) (by rw [hRf]; decide) (by rw [hRl]; decide) (by omega) (by omega) dX5_bookTold_77 (fun r9 M_14 H locs hq hw => ?_)
    obtain ⟨z_15, rfl, hM9, hz_15a, hz_15S, hz_15e⟩ := hq
    rw [hM9] at hw
    show W p l e R s m args below meth c H locs _ _ _ (F0 m 80 ls [.int (iN (z_15)), .int (iN (p0)), .ref a])
    refine x_callV hC hw (lv_size hl) (c_X5_valueOf l G h_3 (p0 := p0) (by omega) (p1 := z_15) (by omega) (by omega) (by omega)) gX5_bookTold_X5_valueOf rfl dv_X5_valueOf h_3.1.1 rfl rfl (Nat.le_of_ble_eq_true rfl) (by rw [hRf]; decide) (by rw [hRl]; decide) (by omega) (by omega) dX5_bookTold_80 (fun r9 M_16 H locs hq hw => ?_)
    obtain ⟨z_17, rfl, hM9, hz_17a, hz_17l⟩ := hq
    rw [hM9] at hw
    show W p l e R s m args below meth c H locs _ _ _ (F0 m 83 ls [.int (iN (z_17))])
    exact x_iret hC hw dX5_bookTold_83 (by omega) (by omega) ⟨z_17, rfl, hxk_2, by omega, (by rw [A_ofBook, if_neg (by omega), if_neg (by omega), if_neg (by omega), if_pos (by omega)]; first | done | exact (by have e9 := hz_17l; rw [hz_15e] at e9; exact e9))⟩
  by_cases c_18 : p1 = 4
  · refine x_tsw (off := 78) (tgt := 84) (k := 4) hC (by omega) dX5_bookTold_6 (by decide) (by decide) rfl (by decide) ?_
    refine lv_aload_n hC.1 hC.2.1 dX5_bookTold_84 rfl (lv_at hl 1 rfl) ?_
    refine lv_aload_n hC.1 hC.2.1 dX5_bookTold_85 rfl (lv_at hl 0 rfl) ?_
    refine x_const hC dX5_bookTold_86 ?_
    refine x_callV hC hw (lv_size hl) (c_X5_end l G h_3 hIk_2 (p0 := 1) (by omega)) gX5_bookTold_X5_end rfl dv_X5_end h_3.1.1 rfl rfl (Nat.le_of_ble_eq_true rfl) (by rw [hRf]; decide) (by rw [hRl]; decide) (by omega) (by omega) dX5_bookTold_87 (fun r9 M_19 H locs hq hw => ?_)
    obtain ⟨z_20, rfl, hM9, hz_20a, hz_20S, hz_20e⟩ := hq
    rw [hM9] at hw
    show W p l e R s m args below meth c H locs _ _ _ (F0 m 90 ls [.int (iN (z_20))])
    exact x_iret hC hw dX5_bookTold_90 (by omega) (by omega) ⟨z_20, rfl, hxk_2, by omega, (by rw [A_ofBook, if_neg (by omega), if_neg (by omega), if_neg (by omega), if_neg (by omega), if_pos (by omega)]; first | done | exact hz_20e)⟩
  by_cases c_21 : p1 = 5
  · refine x_tsw (off := 85) (tgt := 91) (k := 5) hC (by omega) dX5_bookTold_6 (by decide) (by decide) rfl (by decide) ?_
    refine lv_aload_n hC.1 hC.2.1 dX5_bookTold_91 rfl (lv_at hl 1 rfl) ?_
    refine lv_iload_n hC.1 hC.2.1 dX5_bookTold_92 rfl (lv_at hl 2 rfl) ?_
    refine lv_aload_n hC.1 hC.2.1 dX5_bookTold_93 rfl (lv_at hl 1 rfl) ?_
    refine lv_aload_n hC.1 hC.2.1 dX5_bookTold_94 rfl (lv_at hl 0 rfl) ?_
    refine x_const hC dX5_bookTold_95 ?_
    refine x_callV hC hw (lv_size hl) (c_X5_end l G h_3 hIk_2 (p0 := 1) (by omega)) gX5_bookTold_X5_end rfl dv_X5_end h_3.1.1 rfl rfl (Nat.le_of_ble_eq_true rfl) (by rw [hRf]; decide) (by rw [hRl]; decide) (by omega) (by omega) dX5_bookTold_96 (fun r9 M_22 H locs hq hw => ?_)
    obtain ⟨z_23, rfl, hM9, hz_23a, hz_23S, hz_23e⟩ := hq
    rw [hM9] at hw
    show W p l e R s m args below meth c H locs _ _ _ (F0 m 99 ls [.int (iN (z_23)), .int (iN (p0)), .ref a])
    refine x_callV hC hw (lv_size hl) (c_X5_valueOf l G h_3 (p0 := p0) (by omega) (p1 := z_23) (by omega) (by omega) (by omega)) gX5_bookTold_X5_valueOf rfl dv_X5_valueOf h_3.1.1 rfl rfl (Nat.le_of_ble_eq_true rfl) (by rw [hRf]; decide) (by rw [hRl]; decide) (by omega) (by omega) dX5_bookTold_99 (fun r9 M_24 H locs hq hw => ?_)
    obtain ⟨z_25, rfl, hM9, hz_25a, hz_25l⟩ := hq
    rw [hM9] at hw
    show W p l e R s m args below meth c H locs _ _ _ (F0 m 102 ls [.int (iN (z_25))])
    exact x_iret hC hw dX5_bookTold_102 (by omega) (by omega) ⟨z_25, rfl, hxk_2, by omega, (by rw [A_ofBook, if_neg (by omega), if_neg (by omega), if_neg (by omega), if_neg (by omega), if_neg (by omega), if_pos (by omega)]; first | done | exact (by have e9 := hz_25l; rw [hz_23e] at e9; exact e9))⟩
  by_cases c_26 : p1 = 6
  · refine x_tsw (off := 97) (tgt := 103) (k := 6) hC (by omega) dX5_bookTold_6 (by decide) (by decide) rfl (by decide) ?_
    refine lv_aload_n hC.1 hC.2.1 dX5_bookTold_103 rfl (lv_at hl 1 rfl) ?_
    refine lv_aload_n hC.1 hC.2.1 dX5_bookTold_104 rfl (lv_at hl 0 rfl) ?_
    refine x_callV hC hw (lv_size hl) (c_X5_sum l G h_3 hIk_2) gX5_bookTold_X5_sum rfl dv_X5_sum h_3.1.1 rfl rfl (Nat.le_of_ble_eq_true rfl) (by rw [hRf]; decide) (by rw [hRl]; decide) (by omega) (by omega) dX5_bookTold_105 (fun r9 M_27 H locs hq hw => ?_)
    obtain ⟨z_28, rfl, hM9, hz_28a, hz_28m⟩ := hq
    rw [hM9] at hw
    show W p l e R s m args below meth c H locs _ _ _ (F0 m 108 ls [.int (iN (z_28))])
    exact x_iret hC hw dX5_bookTold_108 (by omega) (by omega) ⟨z_28, rfl, hxk_2, by omega, (by rw [A_ofBook, if_neg (by omega), if_neg (by omega), if_neg (by omega), if_neg (by omega), if_neg (by omega), if_neg (by omega), if_pos (by omega)]; first | done | exact hz_28m)⟩
  by_cases c_29 : p1 = 7
  · refine x_tsw (off := 103) (tgt := 109) (k := 7) hC (by omega) dX5_bookTold_6 (by decide) (by decide) rfl (by decide) ?_
    refine lv_aload_n hC.1 hC.2.1 dX5_bookTold_109 rfl (lv_at hl 1 rfl) ?_
    refine lv_iload_n hC.1 hC.2.1 dX5_bookTold_110 rfl (lv_at hl 2 rfl) ?_
    refine x_callV hC hw (lv_size hl) (c_X5_unlike l G h_3 (p0 := p0) (by omega) (by omega)) gX5_bookTold_X5_unlike rfl dv_X5_unlike h_3.1.1 rfl rfl (Nat.le_of_ble_eq_true rfl) (by rw [hRf]; decide) (by rw [hRl]; decide) (by omega) (by omega) dX5_bookTold_111 (fun r9 M_30 H locs hq hw => ?_)
    obtain ⟨z_31, rfl, hM9, hz_31a, hz_31u⟩ := hq
    rw [hM9] at hw
    show W p l e R s m args below meth c H locs _ _ _ (F0 m 114 ls [.int (iN (z_31))])
    exact x_iret hC hw dX5_bookTold_114 (by omega) (by omega) ⟨z_31, rfl, hxk_2, by omega, (by rw [A_ofBook, if_neg (by omega), if_neg (by omega), if_neg (by omega), if_neg (by omega), if_neg (by omega), if_neg (by omega), if_neg (by omega), if_pos (by omega)]; first | done | exact hz_31u)⟩
  refine x_tswd (tgt := 115) hC ⟨by omega, by omega⟩ dX5_bookTold_6 (by omega) (by decide) ?_
  refine lv_aload_n hC.1 hC.2.1 dX5_bookTold_115 rfl (lv_at hl 1 rfl) ?_
  refine lv_iload_n hC.1 hC.2.1 dX5_bookTold_116 rfl (lv_at hl 2 rfl) ?_
  refine x_callV hC hw (lv_size hl) (c_X5_viewsOf l G h_3 (p0 := p0) (by omega) (by omega)) gX5_bookTold_X5_viewsOf rfl dv_X5_viewsOf h_3.1.1 rfl rfl (Nat.le_of_ble_eq_true rfl) (by rw [hRf]; decide) (by rw [hRl]; decide) (by omega) (by omega) dX5_bookTold_117 (fun r9 M_32 H locs hq hw => ?_)
  obtain ⟨z_33, rfl, hM9, hz_33a, hz_33v⟩ := hq
  rw [hM9] at hw
  show W p l e R s m args below meth c H locs _ _ _ (F0 m 120 ls [.int (iN (z_33))])
  exact x_iret hC hw dX5_bookTold_120 (by omega) (by omega) ⟨z_33, rfl, hxk_2, by omega, (by rw [A_ofBook, if_neg (by omega), if_neg (by omega), if_neg (by omega), if_neg (by omega), if_neg (by omega), if_neg (by omega), if_neg (by omega), if_neg (by omega)]; first | done | exact hz_33v)⟩
set_option maxHeartbeats 4000000 in
set_option maxRecDepth 100000 in
theorem c_X5_ofBook (l : Launch) (G : xG) {M : HM} {a va oa wa ya : Nat} {wk : Option Nat} {th : Int} {rfd : Int32} {br re la ha : Int} {kp kv : Int32} {qv qw : Nat → Nat} {fa fb : Nat → Option Nat} {V : BW} {O : OW} {fy : Nat → Option Nat} {Wv : VW} {wt : Option VT} {S : Nat → Bool} (hR : MGx G M a va oa wa ya wk th rfd br re la ha kp kv qv qw fa fb V O fy Wv wt S) {K : WA} (hK : abM O wt br re la ha K) {p0 : Int} (hp0 : -2147483648 ≤ p0 ∧ p0 ≤ 2147483647) {p1 : Int} (hp1 : -2147483648 ≤ p1 ∧ p1 ≤ 2147483647) : xMet l G yX5_ofBook wsX5_ofBook 6 138 1 5 [.ref a, .int (iN (p0)), .int (iN (p1))] M (fun r M1 => ∃ (z th1 : Int), r = some (.int (iN z)) ∧ (-2147483648 ≤ z ∧ z ≤ 2147483647) ∧ ((th1 = 0 ∧ ((0 ≤ p0 ∧ p0 ≤ 2) ∧ (0 ≤ p1 ∧ p1 ≤ 8)) ∧ z = A_ofBook (O, V, Wv, K, kp, kv, rfd) p0 p1 ∧ MGm G M1 a S th1 (O, V, Wv, K, kp, kv, rfd)) ∨ (th1 ≠ 0 ∧ ((th1 = 1 ∧ ¬ (0 ≤ p0 ∧ p0 ≤ 2)) ∨ (th1 = 2 ∧ (0 ≤ p0 ∧ p0 ≤ 2) ∧ ¬ (0 ≤ p1 ∧ p1 ≤ 8))) ∧ MGm G M1 a S th1 (O, V, Wv, K, kp, kv, rfd)))) := by
  refine x_intro (cc := cX5_ofBook) (maxL := 3) (ret := (some .int)) (by decide +kernel) rfl (Nat.le_of_ble_eq_true rfl) ?_
  intro p e R s m args below meth c ls hRf hRc hRs hRl hC hw hl
  have hsc0 := hR.sc
  have hl : lv_has ls 3 [(0, .ref a), (1, .int (iN (p0))), (2, .int (iN (p1)))] := hl
  refine lv_aload_n hC.1 hC.2.1 dX5_ofBook_0 rfl (lv_at hl 0 rfl) ?_
  refine lv_iload_n hC.1 hC.2.1 dX5_ofBook_1 rfl (lv_at hl 1 rfl) ?_
  refine x_callS hC hw (lv_size hl) (c_X5_isNoBook l G (M := M) (p0 := p0) (by omega)) gX5_ofBook_X5_isNoBook rfl dv_X5_isNoBook_s rfl (Nat.le_of_ble_eq_true rfl) (by rw [hRf]; decide) (by rw [hRl]; decide) (by omega) (by omega) dX5_ofBook_2 (fun r9 M_1 H locs hq hw => ?_)
  obtain ⟨z_2, rfl, hM9, hz_2a, hz_2b⟩ := hq
  rw [hM9] at hw
  show W p l e R s m args below meth c H locs _ _ _ (F0 m 5 ls [.int (iN (z_2)), .ref a])
  refine x_const hC dX5_ofBook_5 ?_
  refine x_callV hC hw (lv_size hl) (c_X5_start l G hR (p0 := z_2) (by omega) (p1 := 1) (by omega) (by omega)) gX5_ofBook_X5_start rfl dv_X5_start hR.1.1 rfl rfl (Nat.le_of_ble_eq_true rfl) (by rw [hRf]; decide) (by rw [hRl]; decide) (by omega) (by omega) dX5_ofBook_6 (fun r9 M_3 H locs hq hw => ?_)
  obtain ⟨z_5, thk_4, rfl, hz_5a, hz_5b, hz_5c0, hz_5c1, hx5k_4, hRk_4⟩ := hq
  have hsck_4 := hRk_4.sc
  show W p l e R s m args below meth c H locs _ _ _ (F0 m 9 ls [.int (iN (z_5))])
  refine x_if_ne (tgt := 35) hC ⟨by omega, by omega⟩ dX5_ofBook_9 (by decide) (fun c_6 => ?_) (fun c_6 => ?_)
  · refine x_const hC dX5_ofBook_35 ?_
    refine lv_goto (tgt := 45) hC.1 hC.2.1 dX5_ofBook_36 (by decide) ?_
    exact x_iret hC hw dX5_ofBook_45 (by omega) (by omega) ⟨0, _, rfl, by omega, Or.inr ⟨by omega, by omega, MGm.of hRk_4 hK⟩⟩
  · refine lv_aload_n hC.1 hC.2.1 dX5_ofBook_12 rfl (lv_at hl 0 rfl) ?_
    refine lv_iload_n hC.1 hC.2.1 dX5_ofBook_13 rfl (lv_at hl 2 rfl) ?_
    refine x_const hC dX5_ofBook_14 ?_
    refine x_bipush hC dX5_ofBook_15 (by decide +kernel) ?_
    refine x_callS hC hw (lv_size hl) (c_X5_isIn l G (M := M_3) (p0 := p1) (by omega) (p1 := 0) (by omega) (p2 := 8) (by omega)) gX5_ofBook_X5_isIn rfl dv_X5_isIn_s rfl (Nat.le_of_ble_eq_true rfl) (by rw [hRf]; decide) (by rw [hRl]; decide) (by omega) (by omega) dX5_ofBook_17 (fun r9 M_7 H locs hq hw => ?_)
    obtain ⟨z_8, rfl, hM9, hz_8a, hz_8b, hz_8c⟩ := hq
    rw [hM9] at hw
    show W p l e R s m args below meth c H locs _ _ _ (F0 m 20 ls [.int (iN (z_8)), .ref a])
    refine x_if_ne (tgt := 27) hC ⟨by omega, by omega⟩ dX5_ofBook_20 (by decide) (fun c_9 => ?_) (fun c_9 => ?_)
    · refine x_const hC dX5_ofBook_27 ?_
      refine x_const hC dX5_ofBook_28 ?_
      refine x_callV hC hw (lv_size hl) (c_X5_refuse l G hRk_4 (p0 := 0) (by omega) (p1 := 2) (by omega) (by omega)) gX5_ofBook_X5_refuse rfl dv_X5_refuse hRk_4.1.1 rfl rfl (Nat.le_of_ble_eq_true rfl) (by rw [hRf]; decide) (by rw [hRl]; decide) (by omega) (by omega) dX5_ofBook_29 (fun r9 M_10 H locs hq hw => ?_)
      obtain ⟨z_12, thk_11, rfl, hz_12a, hz_12b, hz_12c0, hz_12c1, hx5k_11, hRk_11⟩ := hq
      have hsck_11 := hRk_11.sc
      show W p l e R s m args below meth c H locs _ _ _ (F0 m 32 ls [.int (iN (z_12))])
      refine x_if_eq (tgt := 39) hC ⟨by omega, by omega⟩ dX5_ofBook_32 (by decide) (fun c_13 => ?_) (fun c_13 => ?_)
      · refine lv_aload_n hC.1 hC.2.1 dX5_ofBook_39 rfl (lv_at hl 0 rfl) ?_
        refine lv_iload_n hC.1 hC.2.1 dX5_ofBook_40 rfl (lv_at hl 1 rfl) ?_
        refine lv_iload_n hC.1 hC.2.1 dX5_ofBook_41 rfl (lv_at hl 2 rfl) ?_
        refine x_callV hC hw (lv_size hl) (c_X5_bookTold l G hRk_11 (p0 := p0) (by omega) (p1 := p1) (by omega) (by omega) (by omega)) gX5_ofBook_X5_bookTold rfl dv_X5_bookTold hRk_11.1.1 rfl rfl (Nat.le_of_ble_eq_true rfl) (by rw [hRf]; decide) (by rw [hRl]; decide) (by omega) (by omega) dX5_ofBook_42 (fun r9 M_14 H locs hq hw => ?_)
        obtain ⟨z_15, rfl, hxz_15, hz_15a, hz_15o⟩ := hq
        have h_16 := hRk_11.ext hxz_15
        show W p l e R s m args below meth c H locs _ _ _ (F0 m 45 ls [.int (iN (z_15))])
        exact x_iret hC hw dX5_ofBook_45 (by omega) (by omega) ⟨z_15, _, rfl, by omega, Or.inl ⟨by omega, by first | trivial | omega, hz_15o, MGm.of h_16 hK⟩⟩
      · refine x_const hC dX5_ofBook_35 ?_
        refine lv_goto (tgt := 45) hC.1 hC.2.1 dX5_ofBook_36 (by decide) ?_
        exact x_iret hC hw dX5_ofBook_45 (by omega) (by omega) ⟨0, _, rfl, by omega, Or.inr ⟨by omega, by omega, MGm.of hRk_11 hK⟩⟩
    · refine x_const hC dX5_ofBook_23 ?_
      refine lv_goto (tgt := 28) hC.1 hC.2.1 dX5_ofBook_24 (by decide) ?_
      refine x_const hC dX5_ofBook_28 ?_
      refine x_callV hC hw (lv_size hl) (c_X5_refuse l G hRk_4 (p0 := 1) (by omega) (p1 := 2) (by omega) (by omega)) gX5_ofBook_X5_refuse rfl dv_X5_refuse hRk_4.1.1 rfl rfl (Nat.le_of_ble_eq_true rfl) (by rw [hRf]; decide) (by rw [hRl]; decide) (by omega) (by omega) dX5_ofBook_29 (fun r9 M_17 H locs hq hw => ?_)
      obtain ⟨z_19, thk_18, rfl, hz_19a, hz_19b, hz_19c0, hz_19c1, hx5k_18, hRk_18⟩ := hq
      have hsck_18 := hRk_18.sc
      show W p l e R s m args below meth c H locs _ _ _ (F0 m 32 ls [.int (iN (z_19))])
      refine x_if_eq (tgt := 39) hC ⟨by omega, by omega⟩ dX5_ofBook_32 (by decide) (fun c_20 => ?_) (fun c_20 => ?_)
      · refine lv_aload_n hC.1 hC.2.1 dX5_ofBook_39 rfl (lv_at hl 0 rfl) ?_
        refine lv_iload_n hC.1 hC.2.1 dX5_ofBook_40 rfl (lv_at hl 1 rfl) ?_
        refine lv_iload_n hC.1 hC.2.1 dX5_ofBook_41 rfl (lv_at hl 2 rfl) ?_
        refine x_callV hC hw (lv_size hl) (c_X5_bookTold l G hRk_18 (p0 := p0) (by omega) (p1 := p1) (by omega) (by omega) (by omega)) gX5_ofBook_X5_bookTold rfl dv_X5_bookTold hRk_18.1.1 rfl rfl (Nat.le_of_ble_eq_true rfl) (by rw [hRf]; decide) (by rw [hRl]; decide) (by omega) (by omega) dX5_ofBook_42 (fun r9 M_21 H locs hq hw => ?_)
        obtain ⟨z_22, rfl, hxz_22, hz_22a, hz_22o⟩ := hq
        have h_23 := hRk_18.ext hxz_22
        show W p l e R s m args below meth c H locs _ _ _ (F0 m 45 ls [.int (iN (z_22))])
        exact x_iret hC hw dX5_ofBook_45 (by omega) (by omega) ⟨z_22, _, rfl, by omega, Or.inl ⟨by omega, by first | trivial | omega, hz_22o, MGm.of h_23 hK⟩⟩
      · refine x_const hC dX5_ofBook_35 ?_
        refine lv_goto (tgt := 45) hC.1 hC.2.1 dX5_ofBook_36 (by decide) ?_
        exact x_iret hC hw dX5_ofBook_45 (by omega) (by omega) ⟨0, _, rfl, by omega, Or.inr ⟨by omega, by omega, MGm.of hRk_18 hK⟩⟩
set_option maxHeartbeats 4000000 in
set_option maxRecDepth 100000 in
theorem c_X5_nearTold (l : Launch) (G : xG) {M : HM} {a va oa wa ya : Nat} {wk : Option Nat} {th : Int} {rfd : Int32} {br re la ha : Int} {kp kv : Int32} {qv qw : Nat → Nat} {fa fb : Nat → Option Nat} {V : BW} {O : OW} {fy : Nat → Option Nat} {Wv : VW} {wt : Option VT} {S : Nat → Bool} (hR : MGx G M a va oa wa ya wk th rfd br re la ha kp kv qv qw fa fb V O fy Wv wt S) {p0 : Int} (hp0 : -2147483648 ≤ p0 ∧ p0 ≤ 2147483647) {p1 : Int} (hp1 : -2147483648 ≤ p1 ∧ p1 ≤ 2147483647) {p2 : Int} (hp2 : -2147483648 ≤ p2 ∧ p2 ≤ 2147483647) (hob : 0 ≤ p0 ∧ p0 ≤ 2) (hok : 0 ≤ p1 ∧ p1 ≤ 99) (how : 0 ≤ p2 ∧ p2 ≤ 7) : xMet l G yX5_nearTold wsX5_nearTold 5 117 1 5 [.ref a, .int (iN (p0)), .int (iN (p1)), .int (iN (p2))] M (fun r M1 => ∃ z : Int, r = some (.int (iN z)) ∧ xExt M M1 ∧ (-2147483648 ≤ z ∧ z ≤ 2147483647) ∧ z = A_near (O, V, Wv, (none : WA), kp, kv, rfd) p0 p1 p2) := by
  refine x_intro (cc := cX5_nearTold) (maxL := 5) (ret := (some .int)) (by decide +kernel) rfl (Nat.le_of_ble_eq_true rfl) ?_
  intro p e R s m args below meth c ls hRf hRc hRs hRl hC hw hl
  have hsc0 := hR.sc
  have hl : lv_has ls 5 [(0, .ref a), (1, .int (iN (p0))), (2, .int (iN (p1))), (3, .int (iN (p2)))] := hl
  refine lv_aload_n hC.1 hC.2.1 dX5_nearTold_0 rfl (lv_at hl 0 rfl) ?_
  refine lv_iload_n hC.1 hC.2.1 dX5_nearTold_1 rfl (lv_at hl 1 rfl) ?_
  refine x_callS hC hw (lv_size hl) (c_X5_whole l G (M := M) (p0 := p0) (by omega) (by omega)) gX5_nearTold_X5_whole rfl dv_X5_whole_s rfl (Nat.le_of_ble_eq_true rfl) (by rw [hRf]; decide) (by rw [hRl]; decide) (by omega) (by omega) dX5_nearTold_2 (fun r9 M_1 H locs hq hw => ?_)
  obtain ⟨qk_2, fk_2, rfl, hxk_2, hIk_2⟩ := hq
  have h_3 := hR.ext hxk_2
  obtain ⟨htat_4, htbt_4, htct_4, htdt_4, htet_4⟩ := id hIk_2.2.1
  have holk_2 := h_3.or' hIk_2.2.1.1
  show W p l e R s m args below meth c H locs _ _ _ (F0 m 5 ls [.ref qk_2, .ref a])
  refine lv_iload_n hC.1 hC.2.1 dX5_nearTold_5 rfl (lv_at hl 2 rfl) ?_
  refine lv_iload_n hC.1 hC.2.1 dX5_nearTold_6 rfl (lv_at hl 3 rfl) ?_
  refine x_const hC dX5_nearTold_7 ?_
  refine x_iremN hC (by omega) (by omega) (by omega) (by omega) dX5_nearTold_8 ?_
  refine x_callV hC hw (lv_size hl) (c_X5_nearOf l G h_3 hIk_2 (p0 := p1) (by omega) (p1 := (p2 % 4)) (by omega) (by omega)) gX5_nearTold_X5_nearOf rfl dv_X5_nearOf h_3.1.1 rfl rfl (Nat.le_of_ble_eq_true rfl) (by rw [hRf]; decide) (by rw [hRl]; decide) (by omega) (by omega) dX5_nearTold_9 (fun r9 M_5 H locs hq hw => ?_)
  obtain ⟨z_6, rfl, hM9, hz_6a, hz_6S, hz_6n⟩ := hq
  rw [hM9] at hw
  show W p l e R s m args below meth c H locs _ _ _ (F0 m 12 ls [.int (iN (z_6))])
  refine lv_istore (lv' := [(4, .int (iN (z_6))), (0, .ref a), (1, .int (iN (p0))), (2, .int (iN (p1))), (3, .int (iN (p2)))]) hC.1 hC.2.1 dX5_nearTold_12 hl (by decide) rfl (fun ls hl => ?_)
  refine lv_iload_n hC.1 hC.2.1 dX5_nearTold_14 rfl (lv_at hl 4 rfl) ?_
  refine x_const hC dX5_nearTold_15 ?_
  refine x_icmp_ge (tgt := 24) hC ⟨by omega, by omega⟩ ⟨by omega, by omega⟩ dX5_nearTold_16 (by decide) (fun c_7 => ?_) (fun c_7 => ?_)
  · refine lv_aload_n hC.1 hC.2.1 dX5_nearTold_24 rfl (lv_at hl 1 rfl) ?_
    refine lv_iload_n hC.1 hC.2.1 dX5_nearTold_25 rfl (lv_at hl 2 rfl) ?_
    refine lv_iload hC.1 hC.2.1 dX5_nearTold_26 (lv_at hl 0 rfl) ?_
    refine x_callV hC hw (lv_size hl) (c_X5_valueOf l G h_3 (p0 := p0) (by omega) (p1 := z_6) (by omega) (by omega) (by omega)) gX5_nearTold_X5_valueOf rfl dv_X5_valueOf h_3.1.1 rfl rfl (Nat.le_of_ble_eq_true rfl) (by rw [hRf]; decide) (by rw [hRl]; decide) (by omega) (by omega) dX5_nearTold_28 (fun r9 M_8 H locs hq hw => ?_)
    obtain ⟨z_9, rfl, hM9, hz_9a, hz_9l⟩ := hq
    rw [hM9] at hw
    show W p l e R s m args below meth c H locs _ _ _ (F0 m 31 ls [.int (iN (z_9))])
    exact x_iret hC hw dX5_nearTold_31 (by omega) (by omega) ⟨z_9, rfl, hxk_2, by omega, (by have e9 := hz_6n; rw [A_near, if_neg (by omega)]; rw [show p2 % 4 = p2 - 4 by omega] at e9; have e8 := hz_9l; rw [e9] at e8; exact e8)⟩
  · refine lv_iload hC.1 hC.2.1 dX5_nearTold_19 (lv_at hl 0 rfl) ?_
    refine lv_goto (tgt := 31) hC.1 hC.2.1 dX5_nearTold_21 (by decide) ?_
    exact x_iret hC hw dX5_nearTold_31 (by omega) (by omega) ⟨z_6, rfl, hxk_2, by omega, (by have e9 := hz_6n; rw [A_near, if_pos (by omega)]; rw [show p2 % 4 = p2 by omega] at e9; exact e9)⟩
set_option maxHeartbeats 4000000 in
set_option maxRecDepth 100000 in
theorem c_X5_near (l : Launch) (G : xG) {M : HM} {a va oa wa ya : Nat} {wk : Option Nat} {th : Int} {rfd : Int32} {br re la ha : Int} {kp kv : Int32} {qv qw : Nat → Nat} {fa fb : Nat → Option Nat} {V : BW} {O : OW} {fy : Nat → Option Nat} {Wv : VW} {wt : Option VT} {S : Nat → Bool} (hR : MGx G M a va oa wa ya wk th rfd br re la ha kp kv qv qw fa fb V O fy Wv wt S) {K : WA} (hK : abM O wt br re la ha K) {p0 : Int} (hp0 : -2147483648 ≤ p0 ∧ p0 ≤ 2147483647) {p1 : Int} (hp1 : -2147483648 ≤ p1 ∧ p1 ≤ 2147483647) {p2 : Int} (hp2 : -2147483648 ≤ p2 ∧ p2 ≤ 2147483647) : xMet l G yX5_near wsX5_near 6 141 1 5 [.ref a, .int (iN (p0)), .int (iN (p1)), .int (iN (p2))] M (fun r M1 => ∃ (z th1 : Int), r = some (.int (iN z)) ∧ (-2147483648 ≤ z ∧ z ≤ 2147483647) ∧ ((th1 = 0 ∧ ((0 ≤ p0 ∧ p0 ≤ 2) ∧ ((0 ≤ p1 ∧ p1 ≤ 99) ∧ (0 ≤ p2 ∧ p2 ≤ 7))) ∧ z = A_near (O, V, Wv, K, kp, kv, rfd) p0 p1 p2 ∧ MGm G M1 a S th1 (O, V, Wv, K, kp, kv, rfd)) ∨ (th1 ≠ 0 ∧ ((th1 = 1 ∧ ¬ (0 ≤ p0 ∧ p0 ≤ 2)) ∨ (th1 = 2 ∧ (0 ≤ p0 ∧ p0 ≤ 2) ∧ ¬ ((0 ≤ p1 ∧ p1 ≤ 99) ∧ (0 ≤ p2 ∧ p2 ≤ 7)))) ∧ MGm G M1 a S th1 (O, V, Wv, K, kp, kv, rfd)))) := by
  refine x_intro (cc := cX5_near) (maxL := 4) (ret := (some .int)) (by decide +kernel) rfl (Nat.le_of_ble_eq_true rfl) ?_
  intro p e R s m args below meth c ls hRf hRc hRs hRl hC hw hl
  have hsc0 := hR.sc
  have hl : lv_has ls 4 [(0, .ref a), (1, .int (iN (p0))), (2, .int (iN (p1))), (3, .int (iN (p2)))] := hl
  refine lv_aload_n hC.1 hC.2.1 dX5_near_0 rfl (lv_at hl 0 rfl) ?_
  refine lv_iload_n hC.1 hC.2.1 dX5_near_1 rfl (lv_at hl 1 rfl) ?_
  refine lv_iload_n hC.1 hC.2.1 dX5_near_2 rfl (lv_at hl 2 rfl) ?_
  refine x_callV hC hw (lv_size hl) (c_X5_isBad l G hR (p0 := p0) (by omega) (p1 := p1) (by omega)) gX5_near_X5_isBad rfl dv_X5_isBad hR.1.1 rfl rfl (Nat.le_of_ble_eq_true rfl) (by rw [hRf]; decide) (by rw [hRl]; decide) (by omega) (by omega) dX5_near_3 (fun r9 M_1 H locs hq hw => ?_)
  obtain ⟨z_3, thk_2, rfl, hz_3a, hz_3b, hz_3c0, hz_3c1, hz_3c2, hx5k_2, hRk_2⟩ := hq
  have hsck_2 := hRk_2.sc
  show W p l e R s m args below meth c H locs _ _ _ (F0 m 6 ls [.int (iN (z_3))])
  refine x_if_ne (tgt := 32) hC ⟨by omega, by omega⟩ dX5_near_6 (by decide) (fun c_4 => ?_) (fun c_4 => ?_)
  · refine x_const hC dX5_near_32 ?_
    refine lv_goto (tgt := 43) hC.1 hC.2.1 dX5_near_33 (by decide) ?_
    exact x_iret hC hw dX5_near_43 (by omega) (by omega) ⟨0, _, rfl, by omega, Or.inr ⟨by omega, by omega, MGm.of hRk_2 hK⟩⟩
  · refine lv_aload_n hC.1 hC.2.1 dX5_near_9 rfl (lv_at hl 0 rfl) ?_
    refine lv_iload_n hC.1 hC.2.1 dX5_near_10 rfl (lv_at hl 3 rfl) ?_
    refine x_const hC dX5_near_11 ?_
    refine x_bipush hC dX5_near_12 (by decide +kernel) ?_
    refine x_callS hC hw (lv_size hl) (c_X5_isIn l G (M := M_1) (p0 := p2) (by omega) (p1 := 0) (by omega) (p2 := 7) (by omega)) gX5_near_X5_isIn rfl dv_X5_isIn_s rfl (Nat.le_of_ble_eq_true rfl) (by rw [hRf]; decide) (by rw [hRl]; decide) (by omega) (by omega) dX5_near_14 (fun r9 M_5 H locs hq hw => ?_)
    obtain ⟨z_6, rfl, hM9, hz_6a, hz_6b, hz_6c⟩ := hq
    rw [hM9] at hw
    show W p l e R s m args below meth c H locs _ _ _ (F0 m 17 ls [.int (iN (z_6)), .ref a])
    refine x_if_ne (tgt := 24) hC ⟨by omega, by omega⟩ dX5_near_17 (by decide) (fun c_7 => ?_) (fun c_7 => ?_)
    · refine x_const hC dX5_near_24 ?_
      refine x_const hC dX5_near_25 ?_
      refine x_callV hC hw (lv_size hl) (c_X5_refuse l G hRk_2 (p0 := 0) (by omega) (p1 := 2) (by omega) (by omega)) gX5_near_X5_refuse rfl dv_X5_refuse hRk_2.1.1 rfl rfl (Nat.le_of_ble_eq_true rfl) (by rw [hRf]; decide) (by rw [hRl]; decide) (by omega) (by omega) dX5_near_26 (fun r9 M_8 H locs hq hw => ?_)
      obtain ⟨z_10, thk_9, rfl, hz_10a, hz_10b, hz_10c0, hz_10c1, hx5k_9, hRk_9⟩ := hq
      have hsck_9 := hRk_9.sc
      show W p l e R s m args below meth c H locs _ _ _ (F0 m 29 ls [.int (iN (z_10))])
      refine x_if_eq (tgt := 36) hC ⟨by omega, by omega⟩ dX5_near_29 (by decide) (fun c_11 => ?_) (fun c_11 => ?_)
      · refine lv_aload_n hC.1 hC.2.1 dX5_near_36 rfl (lv_at hl 0 rfl) ?_
        refine lv_iload_n hC.1 hC.2.1 dX5_near_37 rfl (lv_at hl 1 rfl) ?_
        refine lv_iload_n hC.1 hC.2.1 dX5_near_38 rfl (lv_at hl 2 rfl) ?_
        refine lv_iload_n hC.1 hC.2.1 dX5_near_39 rfl (lv_at hl 3 rfl) ?_
        refine x_callV hC hw (lv_size hl) (c_X5_nearTold l G hRk_9 (p0 := p0) (by omega) (p1 := p1) (by omega) (p2 := p2) (by omega) (by omega) (by omega) (by omega)) gX5_near_X5_nearTold rfl dv_X5_nearTold hRk_9.1.1 rfl rfl (Nat.le_of_ble_eq_true rfl) (by rw [hRf]; decide) (by rw [hRl]; decide) (by omega) (by omega) dX5_near_40 (fun r9 M_12 H locs hq hw => ?_)
        obtain ⟨z_13, rfl, hxz_13, hz_13a, hz_13n⟩ := hq
        have h_14 := hRk_9.ext hxz_13
        show W p l e R s m args below meth c H locs _ _ _ (F0 m 43 ls [.int (iN (z_13))])
        exact x_iret hC hw dX5_near_43 (by omega) (by omega) ⟨z_13, _, rfl, by omega, Or.inl ⟨by omega, by first | trivial | omega, hz_13n, MGm.of h_14 hK⟩⟩
      · refine x_const hC dX5_near_32 ?_
        refine lv_goto (tgt := 43) hC.1 hC.2.1 dX5_near_33 (by decide) ?_
        exact x_iret hC hw dX5_near_43 (by omega) (by omega) ⟨0, _, rfl, by omega, Or.inr ⟨by omega, by omega, MGm.of hRk_9 hK⟩⟩
    · refine x_const hC dX5_near_20 ?_
      refine lv_goto (tgt := 25) hC.1 hC.2.1 dX5_near_21 (by decide) ?_
      refine x_const hC dX5_near_25 ?_
      refine x_callV hC hw (lv_size hl) (c_X5_refuse l G hRk_2 (p0 := 1) (by omega) (p1 := 2) (by omega) (by omega)) gX5_near_X5_refuse rfl dv_X5_refuse hRk_2.1.1 rfl rfl (Nat.le_of_ble_eq_true rfl) (by rw [hRf]; decide) (by rw [hRl]; decide) (by omega) (by omega) dX5_near_26 (fun r9 M_15 H locs hq hw => ?_)
      obtain ⟨z_17, thk_16, rfl, hz_17a, hz_17b, hz_17c0, hz_17c1, hx5k_16, hRk_16⟩ := hq
      have hsck_16 := hRk_16.sc
      show W p l e R s m args below meth c H locs _ _ _ (F0 m 29 ls [.int (iN (z_17))])
      refine x_if_eq (tgt := 36) hC ⟨by omega, by omega⟩ dX5_near_29 (by decide) (fun c_18 => ?_) (fun c_18 => ?_)
      · refine lv_aload_n hC.1 hC.2.1 dX5_near_36 rfl (lv_at hl 0 rfl) ?_
        refine lv_iload_n hC.1 hC.2.1 dX5_near_37 rfl (lv_at hl 1 rfl) ?_
        refine lv_iload_n hC.1 hC.2.1 dX5_near_38 rfl (lv_at hl 2 rfl) ?_
        refine lv_iload_n hC.1 hC.2.1 dX5_near_39 rfl (lv_at hl 3 rfl) ?_
        refine x_callV hC hw (lv_size hl) (c_X5_nearTold l G hRk_16 (p0 := p0) (by omega) (p1 := p1) (by omega) (p2 := p2) (by omega) (by omega) (by omega) (by omega)) gX5_near_X5_nearTold rfl dv_X5_nearTold hRk_16.1.1 rfl rfl (Nat.le_of_ble_eq_true rfl) (by rw [hRf]; decide) (by rw [hRl]; decide) (by omega) (by omega) dX5_near_40 (fun r9 M_19 H locs hq hw => ?_)
        obtain ⟨z_20, rfl, hxz_20, hz_20a, hz_20n⟩ := hq
        have h_21 := hRk_16.ext hxz_20
        show W p l e R s m args below meth c H locs _ _ _ (F0 m 43 ls [.int (iN (z_20))])
        exact x_iret hC hw dX5_near_43 (by omega) (by omega) ⟨z_20, _, rfl, by omega, Or.inl ⟨by omega, by first | trivial | omega, hz_20n, MGm.of h_21 hK⟩⟩
      · refine x_const hC dX5_near_32 ?_
        refine lv_goto (tgt := 43) hC.1 hC.2.1 dX5_near_33 (by decide) ?_
        exact x_iret hC hw dX5_near_43 (by omega) (by omega) ⟨0, _, rfl, by omega, Or.inr ⟨by omega, by omega, MGm.of hRk_16 hK⟩⟩
set_option maxHeartbeats 4000000 in
set_option maxRecDepth 100000 in
theorem c_X5_place (l : Launch) (G : xG) {M : HM} {a va oa wa ya : Nat} {wk : Option Nat} {th : Int} {rfd : Int32} {br re la ha : Int} {kp kv : Int32} {qv qw : Nat → Nat} {fa fb : Nat → Option Nat} {V : BW} {O : OW} {fy : Nat → Option Nat} {Wv : VW} {wt : Option VT} {S : Nat → Bool} (hR : MGx G M a va oa wa ya wk th rfd br re la ha kp kv qv qw fa fb V O fy Wv wt S) {K : WA} (hK : abM O wt br re la ha K) {p0 : Int} (hp0 : -2147483648 ≤ p0 ∧ p0 ≤ 2147483647) {p1 : Int} (hp1 : -2147483648 ≤ p1 ∧ p1 ≤ 2147483647) : xMet l G yX5_place wsX5_place 4 92 1 5 [.ref a, .int (iN (p0)), .int (iN (p1))] M (fun r M1 => ∃ (z th1 : Int), r = some (.int (iN z)) ∧ (-2147483648 ≤ z ∧ z ≤ 2147483647) ∧ ((th1 = 0 ∧ ((0 ≤ p0 ∧ p0 ≤ 2) ∧ (0 ≤ p1 ∧ p1 ≤ 99)) ∧ z = A_place (O, V, Wv, K, kp, kv, rfd) p0 p1 ∧ MGm G M1 a S th1 (O, V, Wv, K, kp, kv, rfd)) ∨ (th1 ≠ 0 ∧ ((th1 = 1 ∧ ¬ (0 ≤ p0 ∧ p0 ≤ 2)) ∨ (th1 = 2 ∧ (0 ≤ p0 ∧ p0 ≤ 2) ∧ ¬ (0 ≤ p1 ∧ p1 ≤ 99))) ∧ MGm G M1 a S th1 (O, V, Wv, K, kp, kv, rfd)))) := by
  refine x_intro (cc := cX5_place) (maxL := 3) (ret := (some .int)) (by decide +kernel) rfl (Nat.le_of_ble_eq_true rfl) ?_
  intro p e R s m args below meth c ls hRf hRc hRs hRl hC hw hl
  have hsc0 := hR.sc
  have hl : lv_has ls 3 [(0, .ref a), (1, .int (iN (p0))), (2, .int (iN (p1)))] := hl
  refine lv_aload_n hC.1 hC.2.1 dX5_place_0 rfl (lv_at hl 0 rfl) ?_
  refine lv_iload_n hC.1 hC.2.1 dX5_place_1 rfl (lv_at hl 1 rfl) ?_
  refine lv_iload_n hC.1 hC.2.1 dX5_place_2 rfl (lv_at hl 2 rfl) ?_
  refine x_callV hC hw (lv_size hl) (c_X5_isBad l G hR (p0 := p0) (by omega) (p1 := p1) (by omega)) gX5_place_X5_isBad rfl dv_X5_isBad hR.1.1 rfl rfl (Nat.le_of_ble_eq_true rfl) (by rw [hRf]; decide) (by rw [hRl]; decide) (by omega) (by omega) dX5_place_3 (fun r9 M_1 H locs hq hw => ?_)
  obtain ⟨z_3, thk_2, rfl, hz_3a, hz_3b, hz_3c0, hz_3c1, hz_3c2, hx5k_2, hRk_2⟩ := hq
  have hsck_2 := hRk_2.sc
  show W p l e R s m args below meth c H locs _ _ _ (F0 m 6 ls [.int (iN (z_3))])
  refine x_if_eq (tgt := 13) hC ⟨by omega, by omega⟩ dX5_place_6 (by decide) (fun c_4 => ?_) (fun c_4 => ?_)
  · refine lv_aload_n hC.1 hC.2.1 dX5_place_13 rfl (lv_at hl 0 rfl) ?_
    refine lv_iload_n hC.1 hC.2.1 dX5_place_14 rfl (lv_at hl 1 rfl) ?_
    refine lv_iload_n hC.1 hC.2.1 dX5_place_15 rfl (lv_at hl 2 rfl) ?_
    refine x_callV hC hw (lv_size hl) (c_X5_ahead l G hRk_2 (p0 := p0) (by omega) (p1 := p1) (by omega) (by omega) (by omega)) gX5_place_X5_ahead rfl dv_X5_ahead hRk_2.1.1 rfl rfl (Nat.le_of_ble_eq_true rfl) (by rw [hRf]; decide) (by rw [hRl]; decide) (by omega) (by omega) dX5_place_16 (fun r9 M_5 H locs hq hw => ?_)
    obtain ⟨z_6, rfl, hxz_6, hz_6a, hz_6h⟩ := hq
    have h_7 := hRk_2.ext hxz_6
    show W p l e R s m args below meth c H locs _ _ _ (F0 m 19 ls [.int (iN (z_6))])
    exact x_iret hC hw dX5_place_19 (by omega) (by omega) ⟨z_6, _, rfl, by omega, Or.inl ⟨by omega, by first | trivial | omega, hz_6h, MGm.of h_7 hK⟩⟩
  · refine x_const hC dX5_place_9 ?_
    refine lv_goto (tgt := 19) hC.1 hC.2.1 dX5_place_10 (by decide) ?_
    exact x_iret hC hw dX5_place_19 (by omega) (by omega) ⟨0, _, rfl, by omega, Or.inr ⟨by omega, by omega, MGm.of hRk_2 hK⟩⟩
set_option maxHeartbeats 4000000 in
set_option maxRecDepth 100000 in
theorem c_X5_at (l : Launch) (G : xG) {M : HM} {a va oa wa ya : Nat} {wk : Option Nat} {th : Int} {rfd : Int32} {br re la ha : Int} {kp kv : Int32} {qv qw : Nat → Nat} {fa fb : Nat → Option Nat} {V : BW} {O : OW} {fy : Nat → Option Nat} {Wv : VW} {wt : Option VT} {S : Nat → Bool} (hR : MGx G M a va oa wa ya wk th rfd br re la ha kp kv qv qw fa fb V O fy Wv wt S) {K : WA} (hK : abM O wt br re la ha K) {p0 : Int} (hp0 : -2147483648 ≤ p0 ∧ p0 ≤ 2147483647) {p1 : Int} (hp1 : -2147483648 ≤ p1 ∧ p1 ≤ 2147483647) : xMet l G yX5_at wsX5_at 4 92 100 500 [.ref a, .int (iN (p0)), .int (iN (p1))] M (fun r M1 => ∃ (z th1 : Int), r = some (.int (iN z)) ∧ (-2147483648 ≤ z ∧ z ≤ 2147483647) ∧ ((th1 = 0 ∧ ((0 ≤ p0 ∧ p0 ≤ 2) ∧ (0 ≤ p1)) ∧ atQ O V p0.toNat p1 z ∧ MGm G M1 a S th1 (O, V, Wv, K, kp, kv, rfd)) ∨ (th1 ≠ 0 ∧ ((th1 = 1 ∧ ¬ (0 ≤ p0 ∧ p0 ≤ 2)) ∨ (th1 = 2 ∧ (0 ≤ p0 ∧ p0 ≤ 2) ∧ ¬ (0 ≤ p1))) ∧ MGm G M1 a S th1 (O, V, Wv, K, kp, kv, rfd)))) := by
  refine x_intro (cc := cX5_at) (maxL := 4) (ret := (some .int)) (by decide +kernel) rfl (Nat.le_of_ble_eq_true rfl) ?_
  intro p e R s m args below meth c ls hRf hRc hRs hRl hC hw hl
  have hsc0 := hR.sc
  have hinX5 : ∀ w ∈ wsX50, w ∈ wsX5_at := by decide +kernel
  have hl : lv_has ls 4 [(0, .ref a), (1, .int (iN (p0))), (2, .int (iN (p1)))] := hl
  refine lv_aload_n hC.1 hC.2.1 dX5_at_0 rfl (lv_at hl 0 rfl) ?_
  refine lv_iload_n hC.1 hC.2.1 dX5_at_1 rfl (lv_at hl 1 rfl) ?_
  refine x_callS hC hw (lv_size hl) (c_X5_isNoBook l G (M := M) (p0 := p0) (by omega)) gX5_at_X5_isNoBook rfl dv_X5_isNoBook_s rfl (Nat.le_of_ble_eq_true rfl) (by rw [hRf]; decide) (by rw [hRl]; decide) (by omega) (by omega) dX5_at_2 (fun r9 M_1 H locs hq hw => ?_)
  obtain ⟨z_2, rfl, hM9, hz_2a, hz_2b⟩ := hq
  rw [hM9] at hw
  show W p l e R s m args below meth c H locs _ _ _ (F0 m 5 ls [.int (iN (z_2)), .ref a])
  refine x_const hC dX5_at_5 ?_
  refine x_callV hC hw (lv_size hl) (c_X5_start l G hR (p0 := z_2) (by omega) (p1 := 1) (by omega) (by omega)) gX5_at_X5_start rfl dv_X5_start hR.1.1 rfl rfl (Nat.le_of_ble_eq_true rfl) (by rw [hRf]; decide) (by rw [hRl]; decide) (by omega) (by omega) dX5_at_6 (fun r9 M_3 H locs hq hw => ?_)
  obtain ⟨z_5, thk_4, rfl, hz_5a, hz_5b, hz_5c0, hz_5c1, hx5k_4, hRk_4⟩ := hq
  have hsck_4 := hRk_4.sc
  show W p l e R s m args below meth c H locs _ _ _ (F0 m 9 ls [.int (iN (z_5))])
  refine x_if_ne (tgt := 29) hC ⟨by omega, by omega⟩ dX5_at_9 (by decide) (fun c_6 => ?_) (fun c_6 => ?_)
  · refine x_const hC dX5_at_29 ?_
    exact x_iret hC hw dX5_at_30 (by omega) (by omega) ⟨0, _, rfl, by omega, Or.inr ⟨by omega, by omega, MGm.of hRk_4 hK⟩⟩
  · refine lv_aload_n hC.1 hC.2.1 dX5_at_12 rfl (lv_at hl 0 rfl) ?_
    refine lv_iload_n hC.1 hC.2.1 dX5_at_13 rfl (lv_at hl 2 rfl) ?_
    refine x_if_ge (tgt := 21) hC ⟨by omega, by omega⟩ dX5_at_14 (by decide) (fun c_7 => ?_) (fun c_7 => ?_)
    · refine x_const hC dX5_at_21 ?_
      refine x_const hC dX5_at_22 ?_
      refine x_callV hC hw (lv_size hl) (c_X5_refuse l G hRk_4 (p0 := 0) (by omega) (p1 := 2) (by omega) (by omega)) gX5_at_X5_refuse rfl dv_X5_refuse hRk_4.1.1 rfl rfl (Nat.le_of_ble_eq_true rfl) (by rw [hRf]; decide) (by rw [hRl]; decide) (by omega) (by omega) dX5_at_23 (fun r9 M_8 H locs hq hw => ?_)
      obtain ⟨z_10, thk_9, rfl, hz_10a, hz_10b, hz_10c0, hz_10c1, hx5k_9, hRk_9⟩ := hq
      have hsck_9 := hRk_9.sc
      show W p l e R s m args below meth c H locs _ _ _ (F0 m 26 ls [.int (iN (z_10))])
      refine x_if_eq (tgt := 31) hC ⟨by omega, by omega⟩ dX5_at_26 (by decide) (fun c_11 => ?_) (fun c_11 => ?_)
      · refine x_const hC dX5_at_31 ?_
        refine lv_istore_n (lv' := [(3, .int (iN (0))), (0, .ref a), (1, .int (iN (p0))), (2, .int (iN (p1)))]) hC.1 hC.2.1 dX5_at_32 rfl hl (by decide) rfl (fun ls hl => ?_)
        suffices hloop33 : ∀ (n9 : Nat) (j : Int) (cu33 : Nat) (su33 : Nat) (Ma : HM) (hxa : xExt M_8 Ma) (H : Heap) (locs : List Loc) (ls : Array Slot), (hmu : (100 - j).toNat < n9) → (hi0 : 0 ≤ j ∧ j ≤ 100) → (hno : ∀ k : Nat, (k : Int) < j → V (p0).toNat k ≠ -10000 → ahF O V (p0).toNat k 100 ≠ p1) → (hcu33 : (cu33 : Int) ≤ j) → (hsu33 : (su33 : Int) ≤ 5 * j) → xD G (xA M s.heap.size) s Ma H locs → lv_has ls 4 [(0, .ref a), (1, .int (iN (p0))), (2, .int (iN (p1))), (3, .int (iN (j)))] → W p l e R s m args below meth c H locs cu33 su33 _ (F0 m 33 ls []) by
          exact hloop33 _ 0 0 0 _ xExt.rf _ _ _ (Nat.lt_succ_self _) (by omega) (fun k9 hk9 => absurd hk9 (by omega)) (by omega) (by omega) hw (lv_sub hl [1, 2, 3, 0] rfl)
        intro n9
        induction n9 with
        | zero => intro j cu33 su33 Ma hxa H locs ls hmu; exact absurd hmu (Nat.not_lt_zero _)
        | succ n9 ih33 =>
          intro j cu33 su33 Ma hxa H locs ls hmu hi0 hno hcu33 hsu33 hw hl
          have h_12 := hRk_9.ext hxa
          refine lv_iload_n hC.1 hC.2.1 dX5_at_33 rfl (lv_at hl 3 rfl) ?_
          refine x_bipush hC dX5_at_34 (by decide +kernel) ?_
          refine x_icmp_ge (tgt := 71) hC ⟨by omega, by omega⟩ ⟨by omega, by omega⟩ dX5_at_36 (by decide) (fun c_13 => ?_) (fun c_13 => ?_)
          · refine x_sipush hC dX5_at_71 (by decide +kernel) ?_
            exact x_iret hC hw dX5_at_74 (by omega) (by omega) ⟨(-10000), _, rfl, by omega, Or.inl ⟨by omega, by first | trivial | omega, (Or.inl ⟨rfl, fun k9 hk9 hv9 => hno k9 (by omega) hv9⟩), MGm.of h_12 hK⟩⟩
          · refine lv_aload_n hC.1 hC.2.1 dX5_at_39 rfl (lv_at hl 0 rfl) ?_
            refine x_get hC hw h_12.1.1 rfl hinX5 2 (by decide) (by decide +kernel) rfl dX5_at_40 ?_
            refine lv_iload_n hC.1 hC.2.1 dX5_at_43 rfl (lv_at hl 1 rfl) ?_
            refine x_ald4 hC hw h_12.1.2.1 (by omega) (by omega) (by omega) dX5_at_44 ?_
            rw [h_12.fa' (show (p0).toNat < 3 by omega)]
            show W p l e R s m args below meth c _ _ _ _ _ (F0 m 45 ls [.ref (qv ((p0).toNat))])
            refine lv_iload_n hC.1 hC.2.1 dX5_at_45 rfl (lv_at hl 3 rfl) ?_
            refine x_ialdE (x := (V ((p0).toNat) ((j).toNat))) hC hw (h_12.rv (show ((p0).toNat) < 3 by omega)) (by omega) (by omega) (by omega) dX5_at_46 rfl ?_
            have hrv_14 := h_12.vr (show ((p0).toNat) < 3 by omega) (show (j).toNat < 100 by omega)
            have hpv_14 := h_12.vs (show ((p0).toNat) < 3 by omega) (show (j).toNat < 100 by omega)
            refine x_sipush hC dX5_at_47 (by decide +kernel) ?_
            refine x_icmp_eq (tgt := 65) hC ⟨by omega, by omega⟩ ⟨by omega, by omega⟩ dX5_at_50 (by decide) (fun c_15 => ?_) (fun c_15 => ?_)
            · refine x_iinc (lv' := [(3, .int (iN (j + 1))), (0, .ref a), (1, .int (iN (p0))), (2, .int (iN (p1)))]) hC dX5_at_65 hl (k := 3) rfl (by decide) rfl (fun ls hl => ?_)
              refine lv_goto (tgt := 33) hC.1 hC.2.1 dX5_at_68 (by decide) ?_
              exact ih33 (j + 1) cu33 su33 _ (hxa) _ _ _ (by omega) (by omega) (<function at_back at 0x7f5cc3855a80>) (by omega) (by omega) hw (lv_sub hl [1, 2, 3, 0] rfl)
            · refine lv_aload_n hC.1 hC.2.1 dX5_at_53 rfl (lv_at hl 0 rfl) ?_
              refine lv_iload_n hC.1 hC.2.1 dX5_at_54 rfl (lv_at hl 1 rfl) ?_
              refine lv_iload_n hC.1 hC.2.1 dX5_at_55 rfl (lv_at hl 3 rfl) ?_
              refine x_callV hC hw (lv_size hl) (c_X5_ahead l G h_12 (p0 := p0) (by omega) (p1 := j) (by omega) (by omega) (by omega)) gX5_at_X5_ahead rfl dv_X5_ahead h_12.1.1 rfl rfl (Nat.le_of_ble_eq_true rfl) (by rw [hRf]; decide) (by rw [hRl]; decide) (by omega) (by omega) dX5_at_56 (fun r9 M_16 H locs hq hw => ?_)
              obtain ⟨z_17, rfl, hxz_17, hz_17a, hz_17h⟩ := hq
              have h_18 := h_12.ext hxz_17
              show W p l e R s m args below meth c H locs _ _ _ (F0 m 59 ls [.int (iN (z_17))])
              refine lv_iload_n hC.1 hC.2.1 dX5_at_59 rfl (lv_at hl 2 rfl) ?_
              refine x_icmp_ne (tgt := 65) hC ⟨by omega, by omega⟩ ⟨by omega, by omega⟩ dX5_at_60 (by decide) (fun c_19 => ?_) (fun c_19 => ?_)
              · refine x_iinc (lv' := [(3, .int (iN (j + 1))), (0, .ref a), (1, .int (iN (p0))), (2, .int (iN (p1)))]) hC dX5_at_65 hl (k := 3) rfl (by decide) rfl (fun ls hl => ?_)
                refine lv_goto (tgt := 33) hC.1 hC.2.1 dX5_at_68 (by decide) ?_
                exact ih33 (j + 1) (cu33 + 1) (su33 + 5) _ ((xExt.tr hxa hxz_17)) _ _ _ (by omega) (by omega) (<function at_back at 0x7f5cc3855a80>) (by omega) (by omega) hw (lv_sub hl [1, 2, 3, 0] rfl)
              · refine lv_iload_n hC.1 hC.2.1 dX5_at_63 rfl (lv_at hl 3 rfl) ?_
                exact x_iret hC hw dX5_at_64 (by omega) (by omega) ⟨j, _, rfl, by omega, Or.inl ⟨by omega, by first | trivial | omega, (Or.inr ⟨by omega, by omega, by have e9 := hz_17h; omega⟩), MGm.of h_18 hK⟩⟩
      · refine x_const hC dX5_at_29 ?_
        exact x_iret hC hw dX5_at_30 (by omega) (by omega) ⟨0, _, rfl, by omega, Or.inr ⟨by omega, by omega, MGm.of hRk_9 hK⟩⟩
    · refine x_const hC dX5_at_17 ?_
      refine lv_goto (tgt := 22) hC.1 hC.2.1 dX5_at_18 (by decide) ?_
      refine x_const hC dX5_at_22 ?_
      refine x_callV hC hw (lv_size hl) (c_X5_refuse l G hRk_4 (p0 := 1) (by omega) (p1 := 2) (by omega) (by omega)) gX5_at_X5_refuse rfl dv_X5_refuse hRk_4.1.1 rfl rfl (Nat.le_of_ble_eq_true rfl) (by rw [hRf]; decide) (by rw [hRl]; decide) (by omega) (by omega) dX5_at_23 (fun r9 M_20 H locs hq hw => ?_)
      obtain ⟨z_22, thk_21, rfl, hz_22a, hz_22b, hz_22c0, hz_22c1, hx5k_21, hRk_21⟩ := hq
      have hsck_21 := hRk_21.sc
      show W p l e R s m args below meth c H locs _ _ _ (F0 m 26 ls [.int (iN (z_22))])
      refine x_if_eq (tgt := 31) hC ⟨by omega, by omega⟩ dX5_at_26 (by decide) (fun c_23 => ?_) (fun c_23 => ?_)
      · refine x_const hC dX5_at_31 ?_
        refine lv_istore_n (lv' := [(3, .int (iN (0))), (0, .ref a), (1, .int (iN (p0))), (2, .int (iN (p1)))]) hC.1 hC.2.1 dX5_at_32 rfl hl (by decide) rfl (fun ls hl => ?_)
        suffices hloop33 : ∀ (n9 : Nat) (j : Int) (cu33 : Nat) (su33 : Nat) (Ma : HM) (hxa : xExt M_20 Ma) (H : Heap) (locs : List Loc) (ls : Array Slot), (hmu : (100 - j).toNat < n9) → (hi0 : 0 ≤ j ∧ j ≤ 100) → (hno : ∀ k : Nat, (k : Int) < j → V (p0).toNat k ≠ -10000 → ahF O V (p0).toNat k 100 ≠ p1) → (hcu33 : (cu33 : Int) ≤ j) → (hsu33 : (su33 : Int) ≤ 5 * j) → xD G (xA M s.heap.size) s Ma H locs → lv_has ls 4 [(0, .ref a), (1, .int (iN (p0))), (2, .int (iN (p1))), (3, .int (iN (j)))] → W p l e R s m args below meth c H locs cu33 su33 _ (F0 m 33 ls []) by
          exact hloop33 _ 0 0 0 _ xExt.rf _ _ _ (Nat.lt_succ_self _) (by omega) (fun k9 hk9 => absurd hk9 (by omega)) (by omega) (by omega) hw (lv_sub hl [1, 2, 3, 0] rfl)
        intro n9
        induction n9 with
        | zero => intro j cu33 su33 Ma hxa H locs ls hmu; exact absurd hmu (Nat.not_lt_zero _)
        | succ n9 ih33 =>
          intro j cu33 su33 Ma hxa H locs ls hmu hi0 hno hcu33 hsu33 hw hl
          have h_24 := hRk_21.ext hxa
          refine lv_iload_n hC.1 hC.2.1 dX5_at_33 rfl (lv_at hl 3 rfl) ?_
          refine x_bipush hC dX5_at_34 (by decide +kernel) ?_
          refine x_icmp_ge (tgt := 71) hC ⟨by omega, by omega⟩ ⟨by omega, by omega⟩ dX5_at_36 (by decide) (fun c_25 => ?_) (fun c_25 => ?_)
          · refine x_sipush hC dX5_at_71 (by decide +kernel) ?_
            exact x_iret hC hw dX5_at_74 (by omega) (by omega) ⟨(-10000), _, rfl, by omega, Or.inl ⟨by omega, by first | trivial | omega, (Or.inl ⟨rfl, fun k9 hk9 hv9 => hno k9 (by omega) hv9⟩), MGm.of h_24 hK⟩⟩
          · refine lv_aload_n hC.1 hC.2.1 dX5_at_39 rfl (lv_at hl 0 rfl) ?_
            refine x_get hC hw h_24.1.1 rfl hinX5 2 (by decide) (by decide +kernel) rfl dX5_at_40 ?_
            refine lv_iload_n hC.1 hC.2.1 dX5_at_43 rfl (lv_at hl 1 rfl) ?_
            refine x_ald4 hC hw h_24.1.2.1 (by omega) (by omega) (by omega) dX5_at_44 ?_
            rw [h_24.fa' (show (p0).toNat < 3 by omega)]
            show W p l e R s m args below meth c _ _ _ _ _ (F0 m 45 ls [.ref (qv ((p0).toNat))])
            refine lv_iload_n hC.1 hC.2.1 dX5_at_45 rfl (lv_at hl 3 rfl) ?_
            refine x_ialdE (x := (V ((p0).toNat) ((j).toNat))) hC hw (h_24.rv (show ((p0).toNat) < 3 by omega)) (by omega) (by omega) (by omega) dX5_at_46 rfl ?_
            have hrv_26 := h_24.vr (show ((p0).toNat) < 3 by omega) (show (j).toNat < 100 by omega)
            have hpv_26 := h_24.vs (show ((p0).toNat) < 3 by omega) (show (j).toNat < 100 by omega)
            refine x_sipush hC dX5_at_47 (by decide +kernel) ?_
            refine x_icmp_eq (tgt := 65) hC ⟨by omega, by omega⟩ ⟨by omega, by omega⟩ dX5_at_50 (by decide) (fun c_27 => ?_) (fun c_27 => ?_)
            · refine x_iinc (lv' := [(3, .int (iN (j + 1))), (0, .ref a), (1, .int (iN (p0))), (2, .int (iN (p1)))]) hC dX5_at_65 hl (k := 3) rfl (by decide) rfl (fun ls hl => ?_)
              refine lv_goto (tgt := 33) hC.1 hC.2.1 dX5_at_68 (by decide) ?_
              exact ih33 (j + 1) cu33 su33 _ (hxa) _ _ _ (by omega) (by omega) (<function at_back at 0x7f5cc3855a80>) (by omega) (by omega) hw (lv_sub hl [1, 2, 3, 0] rfl)
            · refine lv_aload_n hC.1 hC.2.1 dX5_at_53 rfl (lv_at hl 0 rfl) ?_
              refine lv_iload_n hC.1 hC.2.1 dX5_at_54 rfl (lv_at hl 1 rfl) ?_
              refine lv_iload_n hC.1 hC.2.1 dX5_at_55 rfl (lv_at hl 3 rfl) ?_
              refine x_callV hC hw (lv_size hl) (c_X5_ahead l G h_24 (p0 := p0) (by omega) (p1 := j) (by omega) (by omega) (by omega)) gX5_at_X5_ahead rfl dv_X5_ahead h_24.1.1 rfl rfl (Nat.le_of_ble_eq_true rfl) (by rw [hRf]; decide) (by rw [hRl]; decide) (by omega) (by omega) dX5_at_56 (fun r9 M_28 H locs hq hw => ?_)
              obtain ⟨z_29, rfl, hxz_29, hz_29a, hz_29h⟩ := hq
              have h_30 := h_24.ext hxz_29
              show W p l e R s m args below meth c H locs _ _ _ (F0 m 59 ls [.int (iN (z_29))])
              refine lv_iload_n hC.1 hC.2.1 dX5_at_59 rfl (lv_at hl 2 rfl) ?_
              refine x_icmp_ne (tgt := 65) hC ⟨by omega, by omega⟩ ⟨by omega, by omega⟩ dX5_at_60 (by decide) (fun c_31 => ?_) (fun c_31 => ?_)
              · refine x_iinc (lv' := [(3, .int (iN (j + 1))), (0, .ref a), (1, .int (iN (p0))), (2, .int (iN (p1)))]) hC dX5_at_65 hl (k := 3) rfl (by decide) rfl (fun ls hl => ?_)
                refine lv_goto (tgt := 33) hC.1 hC.2.1 dX5_at_68 (by decide) ?_
                exact ih33 (j + 1) (cu33 + 1) (su33 + 5) _ ((xExt.tr hxa hxz_29)) _ _ _ (by omega) (by omega) (<function at_back at 0x7f5cc3855a80>) (by omega) (by omega) hw (lv_sub hl [1, 2, 3, 0] rfl)
              · refine lv_iload_n hC.1 hC.2.1 dX5_at_63 rfl (lv_at hl 3 rfl) ?_
                exact x_iret hC hw dX5_at_64 (by omega) (by omega) ⟨j, _, rfl, by omega, Or.inl ⟨by omega, by first | trivial | omega, (Or.inr ⟨by omega, by omega, by have e9 := hz_29h; omega⟩), MGm.of h_30 hK⟩⟩
      · refine x_const hC dX5_at_29 ?_
        exact x_iret hC hw dX5_at_30 (by omega) (by omega) ⟨0, _, rfl, by omega, Or.inr ⟨by omega, by omega, MGm.of hRk_21 hK⟩⟩
set_option maxHeartbeats 4000000 in
set_option maxRecDepth 100000 in
theorem c_X5_areSame (l : Launch) (G : xG) {M : HM} {a va oa wa ya : Nat} {wk : Option Nat} {th : Int} {rfd : Int32} {br re la ha : Int} {kp kv : Int32} {qv qw : Nat → Nat} {fa fb : Nat → Option Nat} {V : BW} {O : OW} {fy : Nat → Option Nat} {Wv : VW} {wt : Option VT} {S : Nat → Bool} (hR : MGx G M a va oa wa ya wk th rfd br re la ha kp kv qv qw fa fb V O fy Wv wt S) {p0 : Int} (hp0 : -2147483648 ≤ p0 ∧ p0 ≤ 2147483647) {p1 : Int} (hp1 : -2147483648 ≤ p1 ∧ p1 ≤ 2147483647) (hob : 0 ≤ p0 ∧ p0 ≤ 2) (hoc : 0 ≤ p1 ∧ p1 ≤ 2) : xMet l G yX5_areSame wsX5_areSame 0 0 0 0 [.ref a, .int (iN (p0)), .int (iN (p1))] M (fun r M1 => ∃ z : Int, r = some (.int (iN z)) ∧ M1 = M ∧ (z = 0 ∨ z = 1) ∧ z = (if dfF (V p0.toNat) (V p1.toNat) 100 = 0 then 1 else 0)) := by
  refine x_intro (cc := cX5_areSame) (maxL := 4) (ret := (some .boolean)) (by decide +kernel) rfl (Nat.le_of_ble_eq_true rfl) ?_
  intro p e R s m args below meth c ls hRf hRc hRs hRl hC hw hl
  have hsc0 := hR.sc
  have hinX5 : ∀ w ∈ wsX50, w ∈ wsX5_areSame := by decide +kernel
  have hl : lv_has ls 4 [(0, .ref a), (1, .int (iN (p0))), (2, .int (iN (p1)))] := hl
  refine x_const hC dX5_areSame_0 ?_
  refine lv_istore_n (lv' := [(3, .int (iN (0))), (0, .ref a), (1, .int (iN (p0))), (2, .int (iN (p1)))]) hC.1 hC.2.1 dX5_areSame_1 rfl hl (by decide) rfl (fun ls hl => ?_)
  suffices hloop2 : ∀ (n9 : Nat) (j : Int) (H : Heap) (locs : List Loc) (ls : Array Slot), (hmu : (100 - j).toNat < n9) → (hi0 : 0 ≤ j ∧ j ≤ 100) → (hdf : dfF (V (p0).toNat) (V (p1).toNat) (j).toNat = 0) → xD G (xA M s.heap.size) s M H locs → lv_has ls 4 [(0, .ref a), (1, .int (iN (p0))), (2, .int (iN (p1))), (3, .int (iN (j)))] → W p l e R s m args below meth c H locs _ _ _ (F0 m 2 ls []) by
    exact hloop2 _ 0  _ _ _ (Nat.lt_succ_self _) (by omega) (rfl) hw (lv_sub hl [1, 2, 3, 0] rfl)
  intro n9
  induction n9 with
  | zero => intro j  H locs ls hmu; exact absurd hmu (Nat.not_lt_zero _)
  | succ n9 ih2 =>
    intro j  H locs ls hmu hi0 hdf hw hl
    refine lv_iload_n hC.1 hC.2.1 dX5_areSame_2 rfl (lv_at hl 3 rfl) ?_
    refine x_bipush hC dX5_areSame_3 (by decide +kernel) ?_
    refine x_icmp_ge (tgt := 35) hC ⟨by omega, by omega⟩ ⟨by omega, by omega⟩ dX5_areSame_5 (by decide) (fun c_1 => ?_) (fun c_1 => ?_)
    · refine x_const hC dX5_areSame_35 ?_
      exact x_zret hC hw (by omega) dX5_areSame_36 (by omega) (by omega) ⟨1, rfl, rfl, by omega, (by rw [show (100 : Nat) = (j).toNat by omega, hdf]; rfl)⟩
    · refine lv_aload_n hC.1 hC.2.1 dX5_areSame_8 rfl (lv_at hl 0 rfl) ?_
      refine x_get hC hw hR.1.1 rfl hinX5 2 (by decide) (by decide +kernel) rfl dX5_areSame_9 ?_
      refine lv_iload_n hC.1 hC.2.1 dX5_areSame_12 rfl (lv_at hl 1 rfl) ?_
      refine x_ald4 hC hw hR.1.2.1 (by omega) (by omega) (by omega) dX5_areSame_13 ?_
      rw [hR.fa' (show (p0).toNat < 3 by omega)]
      show W p l e R s m args below meth c _ _ _ _ _ (F0 m 14 ls [.ref (qv ((p0).toNat))])
      refine lv_iload_n hC.1 hC.2.1 dX5_areSame_14 rfl (lv_at hl 3 rfl) ?_
      refine x_ialdE (x := (V ((p0).toNat) ((j).toNat))) hC hw (hR.rv (show ((p0).toNat) < 3 by omega)) (by omega) (by omega) (by omega) dX5_areSame_15 rfl ?_
      have hrv_2 := hR.vr (show ((p0).toNat) < 3 by omega) (show (j).toNat < 100 by omega)
      have hpv_2 := hR.vs (show ((p0).toNat) < 3 by omega) (show (j).toNat < 100 by omega)
      refine lv_aload_n hC.1 hC.2.1 dX5_areSame_16 rfl (lv_at hl 0 rfl) ?_
      refine x_get hC hw hR.1.1 rfl hinX5 2 (by decide) (by decide +kernel) rfl dX5_areSame_17 ?_
      refine lv_iload_n hC.1 hC.2.1 dX5_areSame_20 rfl (lv_at hl 2 rfl) ?_
      refine x_ald4 hC hw hR.1.2.1 (by omega) (by omega) (by omega) dX5_areSame_21 ?_
      rw [hR.fa' (show (p1).toNat < 3 by omega)]
      show W p l e R s m args below meth c _ _ _ _ _ (F0 m 22 ls [.ref (qv ((p1).toNat)), .int (iN ((V ((p0).toNat) ((j).toNat))))])
      refine lv_iload_n hC.1 hC.2.1 dX5_areSame_22 rfl (lv_at hl 3 rfl) ?_
      refine x_ialdE (x := (V ((p1).toNat) ((j).toNat))) hC hw (hR.rv (show ((p1).toNat) < 3 by omega)) (by omega) (by omega) (by omega) dX5_areSame_23 rfl ?_
      have hrv_3 := hR.vr (show ((p1).toNat) < 3 by omega) (show (j).toNat < 100 by omega)
      have hpv_3 := hR.vs (show ((p1).toNat) < 3 by omega) (show (j).toNat < 100 by omega)
      refine x_icmp_eq (tgt := 29) hC ⟨by omega, by omega⟩ ⟨by omega, by omega⟩ dX5_areSame_24 (by decide) (fun c_4 => ?_) (fun c_4 => ?_)
      · refine x_iinc (lv' := [(3, .int (iN (j + 1))), (0, .ref a), (1, .int (iN (p0))), (2, .int (iN (p1)))]) hC dX5_areSame_29 hl (k := 3) rfl (by decide) rfl (fun ls hl => ?_)
        refine lv_goto (tgt := 2) hC.1 hC.2.1 dX5_areSame_32 (by decide) ?_
        exact ih2 (j + 1)  _ _ _ (by omega) (by omega) (by rw [dfF_s (by omega) rfl, if_pos (by omega), hdf]; rfl) hw (lv_sub hl [1, 2, 3, 0] rfl)
      · refine x_const hC dX5_areSame_27 ?_
        exact x_zret hC hw (by omega) dX5_areSame_28 (by omega) (by omega) ⟨0, rfl, rfl, by omega, (by have e9 := dfF_ne (X := V (p0).toNat) (Y := V (p1).toNat) (show (j).toNat < 100 by omega) (by omega); rw [if_neg e9])⟩
set_option maxHeartbeats 4000000 in
set_option maxRecDepth 100000 in
theorem c_X5_same (l : Launch) (G : xG) {M : HM} {a va oa wa ya : Nat} {wk : Option Nat} {th : Int} {rfd : Int32} {br re la ha : Int} {kp kv : Int32} {qv qw : Nat → Nat} {fa fb : Nat → Option Nat} {V : BW} {O : OW} {fy : Nat → Option Nat} {Wv : VW} {wt : Option VT} {S : Nat → Bool} (hR : MGx G M a va oa wa ya wk th rfd br re la ha kp kv qv qw fa fb V O fy Wv wt S) {K : WA} (hK : abM O wt br re la ha K) {p0 : Int} (hp0 : -2147483648 ≤ p0 ∧ p0 ≤ 2147483647) {p1 : Int} (hp1 : -2147483648 ≤ p1 ∧ p1 ≤ 2147483647) : xMet l G yX5_same wsX5_same 2 44 0 0 [.ref a, .int (iN (p0)), .int (iN (p1))] M (fun r M1 => ∃ (z th1 : Int), r = some (.int (iN z)) ∧ (z = 0 ∨ z = 1) ∧ ((th1 = 0 ∧ (((0 ≤ p0 ∧ p0 ≤ 2) ∧ (0 ≤ p1 ∧ p1 ≤ 2))) ∧ z = A_same (O, V, Wv, K, kp, kv, rfd) p0 p1 ∧ MGm G M1 a S th1 (O, V, Wv, K, kp, kv, rfd)) ∨ (th1 ≠ 0 ∧ ((th1 = 1 ∧ ¬ ((0 ≤ p0 ∧ p0 ≤ 2) ∧ (0 ≤ p1 ∧ p1 ≤ 2)))) ∧ MGm G M1 a S th1 (O, V, Wv, K, kp, kv, rfd)))) := by
  refine x_intro (cc := cX5_same) (maxL := 3) (ret := (some .boolean)) (by decide +kernel) rfl (Nat.le_of_ble_eq_true rfl) ?_
  intro p e R s m args below meth c ls hRf hRc hRs hRl hC hw hl
  have hsc0 := hR.sc
  have hl : lv_has ls 3 [(0, .ref a), (1, .int (iN (p0))), (2, .int (iN (p1)))] := hl
  refine lv_aload_n hC.1 hC.2.1 dX5_same_0 rfl (lv_at hl 0 rfl) ?_
  refine lv_iload_n hC.1 hC.2.1 dX5_same_1 rfl (lv_at hl 1 rfl) ?_
  refine x_callS hC hw (lv_size hl) (c_X5_isNoBook l G (M := M) (p0 := p0) (by omega)) gX5_same_X5_isNoBook rfl dv_X5_isNoBook_s rfl (Nat.le_of_ble_eq_true rfl) (by rw [hRf]; decide) (by rw [hRl]; decide) (by omega) (by omega) dX5_same_2 (fun r9 M_1 H locs hq hw => ?_)
  obtain ⟨z_2, rfl, hM9, hz_2a, hz_2b⟩ := hq
  rw [hM9] at hw
  show W p l e R s m args below meth c H locs _ _ _ (F0 m 5 ls [.int (iN (z_2)), .ref a])
  refine x_if_ne (tgt := 15) hC ⟨by omega, by omega⟩ dX5_same_5 (by decide) (fun c_3 => ?_) (fun c_3 => ?_)
  · refine x_const hC dX5_same_15 ?_
    refine lv_goto (tgt := 20) hC.1 hC.2.1 dX5_same_16 (by decide) ?_
    refine x_const hC dX5_same_20 ?_
    refine x_callV hC hw (lv_size hl) (c_X5_start l G hR (p0 := 1) (by omega) (p1 := 1) (by omega) (by omega)) gX5_same_X5_start rfl dv_X5_start hR.1.1 rfl rfl (Nat.le_of_ble_eq_true rfl) (by rw [hRf]; decide) (by rw [hRl]; decide) (by omega) (by omega) dX5_same_21 (fun r9 M_4 H locs hq hw => ?_)
    obtain ⟨z_6, thk_5, rfl, hz_6a, hz_6b, hz_6c0, hz_6c1, hx5k_5, hRk_5⟩ := hq
    have hsck_5 := hRk_5.sc
    show W p l e R s m args below meth c H locs _ _ _ (F0 m 24 ls [.int (iN (z_6))])
    refine x_if_ne (tgt := 40) hC ⟨by omega, by omega⟩ dX5_same_24 (by decide) (fun c_7 => ?_) (fun c_7 => ?_)
    · refine x_const hC dX5_same_40 ?_
      exact x_zret hC hw (by omega) dX5_same_41 (by omega) (by omega) ⟨0, _, rfl, by omega, Or.inr ⟨by omega, by omega, MGm.of hRk_5 hK⟩⟩
    · refine lv_aload_n hC.1 hC.2.1 dX5_same_27 rfl (lv_at hl 0 rfl) ?_
      refine lv_iload_n hC.1 hC.2.1 dX5_same_28 rfl (lv_at hl 1 rfl) ?_
      refine lv_iload_n hC.1 hC.2.1 dX5_same_29 rfl (lv_at hl 2 rfl) ?_
      refine x_callV hC hw (lv_size hl) (c_X5_areSame l G hRk_5 (p0 := p0) (by omega) (p1 := p1) (by omega) (by omega) (by omega)) gX5_same_X5_areSame rfl dv_X5_areSame hRk_5.1.1 rfl rfl (Nat.le_of_ble_eq_true rfl) (by rw [hRf]; decide) (by rw [hRl]; decide) (by omega) (by omega) dX5_same_30 (fun r9 M_8 H locs hq hw => ?_)
      obtain ⟨z_9, rfl, hM9, hz_9a, hz_9d⟩ := hq
      rw [hM9] at hw
      show W p l e R s m args below meth c H locs _ _ _ (F0 m 33 ls [.int (iN (z_9))])
      refine x_if_eq (tgt := 40) hC ⟨by omega, by omega⟩ dX5_same_33 (by decide) (fun c_10 => ?_) (fun c_10 => ?_)
      · refine x_const hC dX5_same_40 ?_
        exact x_zret hC hw (by omega) dX5_same_41 (by omega) (by omega) ⟨0, _, rfl, by omega, Or.inl ⟨by omega, by first | trivial | omega, (show _ = (if dfF (V (p0).toNat) (V (p1).toNat) 100 = 0 then 1 else 0) by have e9 := hz_9d; omega), MGm.of hRk_5 hK⟩⟩
      · refine x_const hC dX5_same_36 ?_
        refine lv_goto (tgt := 41) hC.1 hC.2.1 dX5_same_37 (by decide) ?_
        exact x_zret hC hw (by omega) dX5_same_41 (by omega) (by omega) ⟨1, _, rfl, by omega, Or.inl ⟨by omega, by first | trivial | omega, (show _ = (if dfF (V (p0).toNat) (V (p1).toNat) 100 = 0 then 1 else 0) by have e9 := hz_9d; omega), MGm.of hRk_5 hK⟩⟩
  · refine lv_iload_n hC.1 hC.2.1 dX5_same_8 rfl (lv_at hl 2 rfl) ?_
    refine x_callS hC hw (lv_size hl) (c_X5_isNoBook l G (M := M) (p0 := p1) (by omega)) gX5_same_X5_isNoBook rfl dv_X5_isNoBook_s rfl (Nat.le_of_ble_eq_true rfl) (by rw [hRf]; decide) (by rw [hRl]; decide) (by omega) (by omega) dX5_same_9 (fun r9 M_11 H locs hq hw => ?_)
    obtain ⟨z_12, rfl, hM9, hz_12a, hz_12b⟩ := hq
    rw [hM9] at hw
    show W p l e R s m args below meth c H locs _ _ _ (F0 m 12 ls [.int (iN (z_12)), .ref a])
    refine x_if_eq (tgt := 19) hC ⟨by omega, by omega⟩ dX5_same_12 (by decide) (fun c_13 => ?_) (fun c_13 => ?_)
    · refine x_const hC dX5_same_19 ?_
      refine x_const hC dX5_same_20 ?_
      refine x_callV hC hw (lv_size hl) (c_X5_start l G hR (p0 := 0) (by omega) (p1 := 1) (by omega) (by omega)) gX5_same_X5_start rfl dv_X5_start hR.1.1 rfl rfl (Nat.le_of_ble_eq_true rfl) (by rw [hRf]; decide) (by rw [hRl]; decide) (by omega) (by omega) dX5_same_21 (fun r9 M_14 H locs hq hw => ?_)
      obtain ⟨z_16, thk_15, rfl, hz_16a, hz_16b, hz_16c0, hz_16c1, hx5k_15, hRk_15⟩ := hq
      have hsck_15 := hRk_15.sc
      show W p l e R s m args below meth c H locs _ _ _ (F0 m 24 ls [.int (iN (z_16))])
      refine x_if_ne (tgt := 40) hC ⟨by omega, by omega⟩ dX5_same_24 (by decide) (fun c_17 => ?_) (fun c_17 => ?_)
      · refine x_const hC dX5_same_40 ?_
        exact x_zret hC hw (by omega) dX5_same_41 (by omega) (by omega) ⟨0, _, rfl, by omega, Or.inr ⟨by omega, by omega, MGm.of hRk_15 hK⟩⟩
      · refine lv_aload_n hC.1 hC.2.1 dX5_same_27 rfl (lv_at hl 0 rfl) ?_
        refine lv_iload_n hC.1 hC.2.1 dX5_same_28 rfl (lv_at hl 1 rfl) ?_
        refine lv_iload_n hC.1 hC.2.1 dX5_same_29 rfl (lv_at hl 2 rfl) ?_
        refine x_callV hC hw (lv_size hl) (c_X5_areSame l G hRk_15 (p0 := p0) (by omega) (p1 := p1) (by omega) (by omega) (by omega)) gX5_same_X5_areSame rfl dv_X5_areSame hRk_15.1.1 rfl rfl (Nat.le_of_ble_eq_true rfl) (by rw [hRf]; decide) (by rw [hRl]; decide) (by omega) (by omega) dX5_same_30 (fun r9 M_18 H locs hq hw => ?_)
        obtain ⟨z_19, rfl, hM9, hz_19a, hz_19d⟩ := hq
        rw [hM9] at hw
        show W p l e R s m args below meth c H locs _ _ _ (F0 m 33 ls [.int (iN (z_19))])
        refine x_if_eq (tgt := 40) hC ⟨by omega, by omega⟩ dX5_same_33 (by decide) (fun c_20 => ?_) (fun c_20 => ?_)
        · refine x_const hC dX5_same_40 ?_
          exact x_zret hC hw (by omega) dX5_same_41 (by omega) (by omega) ⟨0, _, rfl, by omega, Or.inl ⟨by omega, by first | trivial | omega, (show _ = (if dfF (V (p0).toNat) (V (p1).toNat) 100 = 0 then 1 else 0) by have e9 := hz_19d; omega), MGm.of hRk_15 hK⟩⟩
        · refine x_const hC dX5_same_36 ?_
          refine lv_goto (tgt := 41) hC.1 hC.2.1 dX5_same_37 (by decide) ?_
          exact x_zret hC hw (by omega) dX5_same_41 (by omega) (by omega) ⟨1, _, rfl, by omega, Or.inl ⟨by omega, by first | trivial | omega, (show _ = (if dfF (V (p0).toNat) (V (p1).toNat) 100 = 0 then 1 else 0) by have e9 := hz_19d; omega), MGm.of hRk_15 hK⟩⟩
    · refine x_const hC dX5_same_15 ?_
      refine lv_goto (tgt := 20) hC.1 hC.2.1 dX5_same_16 (by decide) ?_
      refine x_const hC dX5_same_20 ?_
      refine x_callV hC hw (lv_size hl) (c_X5_start l G hR (p0 := 1) (by omega) (p1 := 1) (by omega) (by omega)) gX5_same_X5_start rfl dv_X5_start hR.1.1 rfl rfl (Nat.le_of_ble_eq_true rfl) (by rw [hRf]; decide) (by rw [hRl]; decide) (by omega) (by omega) dX5_same_21 (fun r9 M_21 H locs hq hw => ?_)
      obtain ⟨z_23, thk_22, rfl, hz_23a, hz_23b, hz_23c0, hz_23c1, hx5k_22, hRk_22⟩ := hq
      have hsck_22 := hRk_22.sc
      show W p l e R s m args below meth c H locs _ _ _ (F0 m 24 ls [.int (iN (z_23))])
      refine x_if_ne (tgt := 40) hC ⟨by omega, by omega⟩ dX5_same_24 (by decide) (fun c_24 => ?_) (fun c_24 => ?_)
      · refine x_const hC dX5_same_40 ?_
        exact x_zret hC hw (by omega) dX5_same_41 (by omega) (by omega) ⟨0, _, rfl, by omega, Or.inr ⟨by omega, by omega, MGm.of hRk_22 hK⟩⟩
      · refine lv_aload_n hC.1 hC.2.1 dX5_same_27 rfl (lv_at hl 0 rfl) ?_
        refine lv_iload_n hC.1 hC.2.1 dX5_same_28 rfl (lv_at hl 1 rfl) ?_
        refine lv_iload_n hC.1 hC.2.1 dX5_same_29 rfl (lv_at hl 2 rfl) ?_
        refine x_callV hC hw (lv_size hl) (c_X5_areSame l G hRk_22 (p0 := p0) (by omega) (p1 := p1) (by omega) (by omega) (by omega)) gX5_same_X5_areSame rfl dv_X5_areSame hRk_22.1.1 rfl rfl (Nat.le_of_ble_eq_true rfl) (by rw [hRf]; decide) (by rw [hRl]; decide) (by omega) (by omega) dX5_same_30 (fun r9 M_25 H locs hq hw => ?_)
        obtain ⟨z_26, rfl, hM9, hz_26a, hz_26d⟩ := hq
        rw [hM9] at hw
        show W p l e R s m args below meth c H locs _ _ _ (F0 m 33 ls [.int (iN (z_26))])
        refine x_if_eq (tgt := 40) hC ⟨by omega, by omega⟩ dX5_same_33 (by decide) (fun c_27 => ?_) (fun c_27 => ?_)
        · refine x_const hC dX5_same_40 ?_
          exact x_zret hC hw (by omega) dX5_same_41 (by omega) (by omega) ⟨0, _, rfl, by omega, Or.inl ⟨by omega, by first | trivial | omega, (show _ = (if dfF (V (p0).toNat) (V (p1).toNat) 100 = 0 then 1 else 0) by have e9 := hz_26d; omega), MGm.of hRk_22 hK⟩⟩
        · refine x_const hC dX5_same_36 ?_
          refine lv_goto (tgt := 41) hC.1 hC.2.1 dX5_same_37 (by decide) ?_
          exact x_zret hC hw (by omega) dX5_same_41 (by omega) (by omega) ⟨1, _, rfl, by omega, Or.inl ⟨by omega, by first | trivial | omega, (show _ = (if dfF (V (p0).toNat) (V (p1).toNat) 100 = 0 then 1 else 0) by have e9 := hz_26d; omega), MGm.of hRk_22 hK⟩⟩
set_option maxHeartbeats 4000000 in
set_option maxRecDepth 100000 in
theorem c_X5_viewGet (l : Launch) (G : xG) {M : HM} {a va oa wa ya : Nat} {wk : Option Nat} {th : Int} {rfd : Int32} {br re la ha : Int} {kp kv : Int32} {qv qw : Nat → Nat} {fa fb : Nat → Option Nat} {V : BW} {O : OW} {fy : Nat → Option Nat} {Wv : VW} {wt : Option VT} {S : Nat → Bool} (hR : MGx G M a va oa wa ya wk th rfd br re la ha kp kv qv qw fa fb V O fy Wv wt S) {K : WA} (hK : abM O wt br re la ha K) {p0 : Int} (hp0 : -2147483648 ≤ p0 ∧ p0 ≤ 2147483647) {p1 : Int} (hp1 : -2147483648 ≤ p1 ∧ p1 ≤ 2147483647) : xMet l G yX5_viewGet wsX5_viewGet 3 67 0 0 [.ref a, .int (iN (p0)), .int (iN (p1))] M (fun r M1 => ∃ (z th1 : Int), r = some (.int (iN z)) ∧ (-2147483648 ≤ z ∧ z ≤ 2147483647) ∧ ((th1 = 0 ∧ ((0 ≤ p0 ∧ p0 ≤ 3 ∧ opN (Wv p0.toNat) = 1) ∧ (0 ≤ p1 ∧ p1 ≤ 99)) ∧ z = A_viewGet (O, V, Wv, K, kp, kv, rfd) p0 p1 ∧ MGm G M1 a S th1 (O, V, Wv, K, kp, kv, rfd)) ∨ (th1 ≠ 0 ∧ ((th1 = 1 ∧ ¬ (0 ≤ p0 ∧ p0 ≤ 3 ∧ opN (Wv p0.toNat) = 1)) ∨ (th1 = 2 ∧ (0 ≤ p0 ∧ p0 ≤ 3 ∧ opN (Wv p0.toNat) = 1) ∧ ¬ (0 ≤ p1 ∧ p1 ≤ 99))) ∧ MGm G M1 a S th1 (O, V, Wv, K, kp, kv, rfd)))) := by
  refine x_intro (cc := cX5_viewGet) (maxL := 3) (ret := (some .int)) (by decide +kernel) rfl (Nat.le_of_ble_eq_true rfl) ?_
  intro p e R s m args below meth c ls hRf hRc hRs hRl hC hw hl
  have hsc0 := hR.sc
  have hinX5 : ∀ w ∈ wsX50, w ∈ wsX5_viewGet := by decide +kernel
  have hl : lv_has ls 3 [(0, .ref a), (1, .int (iN (p0))), (2, .int (iN (p1)))] := hl
  refine lv_aload_n hC.1 hC.2.1 dX5_viewGet_0 rfl (lv_at hl 0 rfl) ?_
  refine lv_aload_n hC.1 hC.2.1 dX5_viewGet_1 rfl (lv_at hl 0 rfl) ?_
  refine lv_iload_n hC.1 hC.2.1 dX5_viewGet_2 rfl (lv_at hl 1 rfl) ?_
  refine x_callV hC hw (lv_size hl) (c_X5_isNoView l G hR (p0 := p0) (by omega)) gX5_viewGet_X5_isNoView rfl dv_X5_isNoView hR.1.1 rfl rfl (Nat.le_of_ble_eq_true rfl) (by rw [hRf]; decide) (by rw [hRl]; decide) (by omega) (by omega) dX5_viewGet_3 (fun r9 M_1 H locs hq hw => ?_)
  obtain ⟨z_2, rfl, hM9, hz_2a, hz_2b, hz_2n⟩ := hq
  rw [hM9] at hw
  show W p l e R s m args below meth c H locs _ _ _ (F0 m 6 ls [.int (iN (z_2)), .ref a])
  refine x_const hC dX5_viewGet_6 ?_
  refine x_callV hC hw (lv_size hl) (c_X5_start l G hR (p0 := z_2) (by omega) (p1 := 1) (by omega) (by omega)) gX5_viewGet_X5_start rfl dv_X5_start hR.1.1 rfl rfl (Nat.le_of_ble_eq_true rfl) (by rw [hRf]; decide) (by rw [hRl]; decide) (by omega) (by omega) dX5_viewGet_7 (fun r9 M_3 H locs hq hw => ?_)
  obtain ⟨z_5, thk_4, rfl, hz_5a, hz_5b, hz_5c0, hz_5c1, hx5k_4, hRk_4⟩ := hq
  have hsck_4 := hRk_4.sc
  show W p l e R s m args below meth c H locs _ _ _ (F0 m 10 ls [.int (iN (z_5))])
  refine x_if_ne (tgt := 25) hC ⟨by omega, by omega⟩ dX5_viewGet_10 (by decide) (fun c_6 => ?_) (fun c_6 => ?_)
  · refine x_const hC dX5_viewGet_25 ?_
    exact x_iret hC hw dX5_viewGet_26 (by omega) (by omega) ⟨0, _, rfl, by omega, Or.inr ⟨by omega, by omega, MGm.of hRk_4 hK⟩⟩
  · refine lv_aload_n hC.1 hC.2.1 dX5_viewGet_13 rfl (lv_at hl 0 rfl) ?_
    refine lv_iload_n hC.1 hC.2.1 dX5_viewGet_14 rfl (lv_at hl 2 rfl) ?_
    refine x_callS hC hw (lv_size hl) (c_X5_isNoKey l G (M := M_3) (p0 := p1) (by omega)) gX5_viewGet_X5_isNoKey rfl dv_X5_isNoKey_s rfl (Nat.le_of_ble_eq_true rfl) (by rw [hRf]; decide) (by rw [hRl]; decide) (by omega) (by omega) dX5_viewGet_15 (fun r9 M_7 H locs hq hw => ?_)
    obtain ⟨z_8, rfl, hM9, hz_8a, hz_8b⟩ := hq
    rw [hM9] at hw
    show W p l e R s m args below meth c H locs _ _ _ (F0 m 18 ls [.int (iN (z_8)), .ref a])
    refine x_const hC dX5_viewGet_18 ?_
    refine x_callV hC hw (lv_size hl) (c_X5_refuse l G hRk_4 (p0 := z_8) (by omega) (p1 := 2) (by omega) (by omega)) gX5_viewGet_X5_refuse rfl dv_X5_refuse hRk_4.1.1 rfl rfl (Nat.le_of_ble_eq_true rfl) (by rw [hRf]; decide) (by rw [hRl]; decide) (by omega) (by omega) dX5_viewGet_19 (fun r9 M_9 H locs hq hw => ?_)
    obtain ⟨z_11, thk_10, rfl, hz_11a, hz_11b, hz_11c0, hz_11c1, hx5k_10, hRk_10⟩ := hq
    have hsck_10 := hRk_10.sc
    show W p l e R s m args below meth c H locs _ _ _ (F0 m 22 ls [.int (iN (z_11))])
    refine x_if_eq (tgt := 27) hC ⟨by omega, by omega⟩ dX5_viewGet_22 (by decide) (fun c_12 => ?_) (fun c_12 => ?_)
    · refine lv_aload_n hC.1 hC.2.1 dX5_viewGet_27 rfl (lv_at hl 0 rfl) ?_
      refine lv_aload_n hC.1 hC.2.1 dX5_viewGet_28 rfl (lv_at hl 0 rfl) ?_
      refine x_get hC hw hRk_10.1.1 rfl hinX5 5 (by decide) (by decide +kernel) rfl dX5_viewGet_29 ?_
      refine lv_iload_n hC.1 hC.2.1 dX5_viewGet_32 rfl (lv_at hl 1 rfl) ?_
      refine x_ald4 hC hw hRk_10.1.2.2.2.2.1 (by omega) (by omega) (by omega) dX5_viewGet_33 ?_
      obtain ⟨y_13, hy_14⟩ := x_some (hz_2n (by omega))
      rw [hy_14]
      obtain ⟨ti_15, fi_15, hui_15, hIi_15⟩ := (hRk_10.vw (show (p0).toNat < 4 by omega)).yes hy_14
      obtain ⟨htat_16, htbt_16, htct_16, htdt_16, htet_16⟩ := id hIi_15.2.1
      show W p l e R s m args below meth c _ _ _ _ _ (F0 m 34 ls [.ref y_13, .ref a])
      refine lv_iload_n hC.1 hC.2.1 dX5_viewGet_34 rfl (lv_at hl 2 rfl) ?_
      refine x_callV hC hw (lv_size hl) (c_X5_shows l G hRk_10 hIi_15 (p0 := p1) (by omega) (by omega)) gX5_viewGet_X5_shows rfl dv_X5_shows hRk_10.1.1 rfl rfl (Nat.le_of_ble_eq_true rfl) (by rw [hRf]; decide) (by rw [hRl]; decide) (by omega) (by omega) dX5_viewGet_35 (fun r9 M_17 H locs hq hw => ?_)
      obtain ⟨z_18, rfl, hM9, hz_18a, hz_18s, hz_18S⟩ := hq
      rw [hM9] at hw
      have hz_18i := shI_iff (O := O) (V := V) (t := ti_15) (k := (p1).toNat)
      show W p l e R s m args below meth c H locs _ _ _ (F0 m 38 ls [.int (iN (z_18))])
      refine x_if_eq (tgt := 59) hC ⟨by omega, by omega⟩ dX5_viewGet_38 (by decide) (fun c_19 => ?_) (fun c_19 => ?_)
      · refine x_sipush hC dX5_viewGet_59 (by decide +kernel) ?_
        exact x_iret hC hw dX5_viewGet_62 (by omega) (by omega) ⟨(-10000), _, rfl, by omega, Or.inl ⟨by omega, by first | trivial | omega, (by have i9 := inI_01 (O ti_15.b) (p1).toNat ti_15; rw [A_viewGet, (wiB_eq (s := (O, V, Wv, K, kp, kv, rfd)) (p0 := p0) (p1 := p1) hui_15), (vwV_eq (s := (O, V, Wv, K, kp, kv, rfd)) (p0 := p0) (p1 := p1) hui_15)]; show _ = (if inI (O ti_15.b) ti_15 (p1).toNat = 1 then V ti_15.b (p1).toNat else -10000); omega), MGm.of hRk_10 hK⟩⟩
      · refine lv_aload_n hC.1 hC.2.1 dX5_viewGet_41 rfl (lv_at hl 0 rfl) ?_
        refine x_get hC hw hRk_10.1.1 rfl hinX5 2 (by decide) (by decide +kernel) rfl dX5_viewGet_42 ?_
        refine lv_aload_n hC.1 hC.2.1 dX5_viewGet_45 rfl (lv_at hl 0 rfl) ?_
        refine x_get hC hw hRk_10.1.1 rfl hinX5 5 (by decide) (by decide +kernel) rfl dX5_viewGet_46 ?_
        refine lv_iload_n hC.1 hC.2.1 dX5_viewGet_49 rfl (lv_at hl 1 rfl) ?_
        refine x_ald4 hC hw hRk_10.1.2.2.2.2.1 (by omega) (by omega) (by omega) dX5_viewGet_50 ?_
        rw [hy_14]
        show W p l e R s m args below meth c _ _ _ _ _ (F0 m 51 ls [.ref y_13, .ref va])
        refine x_const hC dX5_viewGet_51 ?_
        refine x_ialdE (x := ((ti_15.b : Nat) : Int)) hC hw hIi_15.1 (by omega) (by omega) (by omega) dX5_viewGet_52 hIi_15.2.2.1 ?_
        refine x_ald4 hC hw hRk_10.1.2.1 (by omega) (by omega) (by omega) dX5_viewGet_53 ?_
        rw [Int.toNat_natCast]
        rw [hRk_10.fa' (show ti_15.b < 3 by omega)]
        show W p l e R s m args below meth c _ _ _ _ _ (F0 m 54 ls [.ref (qv ti_15.b)])
        refine lv_iload_n hC.1 hC.2.1 dX5_viewGet_54 rfl (lv_at hl 2 rfl) ?_
        refine x_ialdE (x := (V ti_15.b ((p1).toNat))) hC hw (hRk_10.rv (show ti_15.b < 3 by omega)) (by omega) (by omega) (by omega) dX5_viewGet_55 rfl ?_
        have hrv_20 := hRk_10.vr (show ti_15.b < 3 by omega) (show (p1).toNat < 100 by omega)
        have hpv_20 := hRk_10.vs (show ti_15.b < 3 by omega) (show (p1).toNat < 100 by omega)
        refine lv_goto (tgt := 62) hC.1 hC.2.1 dX5_viewGet_56 (by decide) ?_
        exact x_iret hC hw dX5_viewGet_62 (by omega) (by omega) ⟨(V ti_15.b ((p1).toNat)), _, rfl, by omega, Or.inl ⟨by omega, by first | trivial | omega, (by have i9 := inI_01 (O ti_15.b) (p1).toNat ti_15; rw [A_viewGet, (wiB_eq (s := (O, V, Wv, K, kp, kv, rfd)) (p0 := p0) (p1 := p1) hui_15), (vwV_eq (s := (O, V, Wv, K, kp, kv, rfd)) (p0 := p0) (p1 := p1) hui_15)]; show _ = (if inI (O ti_15.b) ti_15 (p1).toNat = 1 then V ti_15.b (p1).toNat else -10000); omega), MGm.of hRk_10 hK⟩⟩
    · refine x_const hC dX5_viewGet_25 ?_
      exact x_iret hC hw dX5_viewGet_26 (by omega) (by omega) ⟨0, _, rfl, by omega, Or.inr ⟨by omega, by omega, MGm.of hRk_10 hK⟩⟩
set_option maxHeartbeats 4000000 in
set_option maxRecDepth 100000 in
theorem c_X5_viewTold (l : Launch) (G : xG) {M : HM} {a va oa wa ya : Nat} {wk : Option Nat} {th : Int} {rfd : Int32} {br re la ha : Int} {kp kv : Int32} {qv qw : Nat → Nat} {fa fb : Nat → Option Nat} {V : BW} {O : OW} {fy : Nat → Option Nat} {Wv : VW} {wt : Option VT} {S : Nat → Bool} (hR : MGx G M a va oa wa ya wk th rfd br re la ha kp kv qv qw fa fb V O fy Wv wt S) {p0 : Int} (hp0 : -2147483648 ≤ p0 ∧ p0 ≤ 2147483647) {p1 : Int} (hp1 : -2147483648 ≤ p1 ∧ p1 ≤ 2147483647) (hob : 0 ≤ p0 ∧ p0 ≤ 3) (how : 0 ≤ p1 ∧ p1 ≤ 8) (hnn : fy p0.toNat ≠ none) : xMet l G yX5_viewTold wsX5_viewTold 5 115 0 0 [.ref a, .int (iN (p0)), .int (iN (p1))] M (fun r M1 => ∃ z : Int, r = some (.int (iN z)) ∧ M1 = M ∧ (-2147483648 ≤ z ∧ z ≤ 2147483647) ∧ z = A_ofView (O, V, Wv, (none : WA), kp, kv, rfd) p0 p1) := by
  refine x_intro (cc := cX5_viewTold) (maxL := 4) (ret := (some .int)) (by decide +kernel) rfl (Nat.le_of_ble_eq_true rfl) ?_
  intro p e R s m args below meth c ls hRf hRc hRs hRl hC hw hl
  have hsc0 := hR.sc
  have hn0 : (0 : Int) = 0 → fy (p0).toNat ≠ none := fun _ => hnn
  have hinX5 : ∀ w ∈ wsX50, w ∈ wsX5_viewTold := by decide +kernel
  have hl : lv_has ls 4 [(0, .ref a), (1, .int (iN (p0))), (2, .int (iN (p1)))] := hl
  refine lv_aload_n hC.1 hC.2.1 dX5_viewTold_0 rfl (lv_at hl 0 rfl) ?_
  refine x_get hC hw hR.1.1 rfl hinX5 5 (by decide) (by decide +kernel) rfl dX5_viewTold_1 ?_
  refine lv_iload_n hC.1 hC.2.1 dX5_viewTold_4 rfl (lv_at hl 1 rfl) ?_
  refine x_ald4 hC hw hR.1.2.2.2.2.1 (by omega) (by omega) (by omega) dX5_viewTold_5 ?_
  obtain ⟨y_1, hy_2⟩ := x_some (hn0 (by omega))
  rw [hy_2]
  obtain ⟨ti_3, fi_3, hui_3, hIi_3⟩ := (hR.vw (show (p0).toNat < 4 by omega)).yes hy_2
  obtain ⟨htat_4, htbt_4, htct_4, htdt_4, htet_4⟩ := id hIi_3.2.1
  show W p l e R s m args below meth c _ _ _ _ _ (F0 m 6 ls [.ref y_1])
  refine lv_astore_n (lv' := [(3, .ref y_1), (0, .ref a), (1, .int (iN (p0))), (2, .int (iN (p1)))]) hC.1 hC.2.1 dX5_viewTold_6 rfl hl (by decide) rfl (fun ls hl => ?_)
  refine lv_iload_n hC.1 hC.2.1 dX5_viewTold_7 rfl (lv_at hl 3 rfl) ?_
  by_cases c_5 : p1 = 0
  · refine x_tsw (off := 48) (tgt := 56) (k := 0) hC (by omega) dX5_viewTold_8 (by decide) (by decide) rfl (by decide) ?_
    refine lv_aload_n hC.1 hC.2.1 dX5_viewTold_56 rfl (lv_at hl 1 rfl) ?_
    refine lv_aload_n hC.1 hC.2.1 dX5_viewTold_57 rfl (lv_at hl 0 rfl) ?_
    refine x_callV hC hw (lv_size hl) (c_X5_many l G hR hIi_3) gX5_viewTold_X5_many rfl dv_X5_many hR.1.1 rfl rfl (Nat.le_of_ble_eq_true rfl) (by rw [hRf]; decide) (by rw [hRl]; decide) (by omega) (by omega) dX5_viewTold_58 (fun r9 M_6 H locs hq hw => ?_)
    obtain ⟨z_7, rfl, hM9, hz_7a, hz_7m⟩ := hq
    rw [hM9] at hw
    show W p l e R s m args below meth c H locs _ _ _ (F0 m 61 ls [.int (iN (z_7))])
    exact x_iret hC hw dX5_viewTold_61 (by omega) (by omega) ⟨z_7, rfl, rfl, by omega, (by rw [A_ofView, show tvW (ST.W (O, V, Wv, (none : WA), kp, kv, rfd)) p0.toNat = ti_3 from tvW_some hui_3, if_pos (by omega)]; first | done | exact hz_7m)⟩
  by_cases c_8 : p1 = 1
  · refine x_tsw (off := 54) (tgt := 62) (k := 1) hC (by omega) dX5_viewTold_8 (by decide) (by decide) rfl (by decide) ?_
    refine lv_aload_n hC.1 hC.2.1 dX5_viewTold_62 rfl (lv_at hl 0 rfl) ?_
    refine x_const hC dX5_viewTold_63 ?_
    refine x_ialdE (x := ((ti_3.b : Nat) : Int)) hC hw hIi_3.1 (by omega) (by omega) (by omega) dX5_viewTold_64 hIi_3.2.2.1 ?_
    exact x_iret hC hw dX5_viewTold_65 (by omega) (by omega) ⟨((ti_3.b : Nat) : Int), rfl, rfl, by omega, (by rw [A_ofView, show tvW (ST.W (O, V, Wv, (none : WA), kp, kv, rfd)) p0.toNat = ti_3 from tvW_some hui_3, if_neg (by omega), if_pos (by omega)]; first | done | exact rfl)⟩
  by_cases c_9 : p1 = 2
  · refine x_tsw (off := 58) (tgt := 66) (k := 2) hC (by omega) dX5_viewTold_8 (by decide) (by decide) rfl (by decide) ?_
    refine lv_aload_n hC.1 hC.2.1 dX5_viewTold_66 rfl (lv_at hl 0 rfl) ?_
    refine x_const hC dX5_viewTold_67 ?_
    refine x_ialdE (x := ti_3.lo) hC hw hIi_3.1 (by omega) (by omega) (by omega) dX5_viewTold_68 hIi_3.2.2.2.1 ?_
    exact x_iret hC hw dX5_viewTold_69 (by omega) (by omega) ⟨ti_3.lo, rfl, rfl, by omega, (by rw [A_ofView, show tvW (ST.W (O, V, Wv, (none : WA), kp, kv, rfd)) p0.toNat = ti_3 from tvW_some hui_3, if_neg (by omega), if_neg (by omega), if_pos (by omega)]; first | done | exact rfl)⟩
  by_cases c_10 : p1 = 3
  · refine x_tsw (off := 62) (tgt := 70) (k := 3) hC (by omega) dX5_viewTold_8 (by decide) (by decide) rfl (by decide) ?_
    refine lv_aload_n hC.1 hC.2.1 dX5_viewTold_70 rfl (lv_at hl 0 rfl) ?_
    refine x_const hC dX5_viewTold_71 ?_
    refine x_ialdE (x := ti_3.up) hC hw hIi_3.1 (by omega) (by omega) (by omega) dX5_viewTold_72 hIi_3.2.2.2.2.2.1 ?_
    exact x_iret hC hw dX5_viewTold_73 (by omega) (by omega) ⟨ti_3.up, rfl, rfl, by omega, (by rw [A_ofView, show tvW (ST.W (O, V, Wv, (none : WA), kp, kv, rfd)) p0.toNat = ti_3 from tvW_some hui_3, if_neg (by omega), if_neg (by omega), if_neg (by omega), if_pos (by omega)]; first | done | exact rfl)⟩
  by_cases c_11 : p1 = 4
  · refine x_tsw (off := 66) (tgt := 74) (k := 4) hC (by omega) dX5_viewTold_8 (by decide) (by decide) rfl (by decide) ?_
    refine lv_aload_n hC.1 hC.2.1 dX5_viewTold_74 rfl (lv_at hl 0 rfl) ?_
    refine x_const hC dX5_viewTold_75 ?_
    refine x_ialdE (x := ti_3.li) hC hw hIi_3.1 (by omega) (by omega) (by omega) dX5_viewTold_76 hIi_3.2.2.2.2.1 ?_
    exact x_iret hC hw dX5_viewTold_77 (by omega) (by omega) ⟨ti_3.li, rfl, rfl, by omega, (by rw [A_ofView, show tvW (ST.W (O, V, Wv, (none : WA), kp, kv, rfd)) p0.toNat = ti_3 from tvW_some hui_3, if_neg (by omega), if_neg (by omega), if_neg (by omega), if_neg (by omega), if_pos (by omega)]; first | done | exact rfl)⟩
  by_cases c_12 : p1 = 5
  · refine x_tsw (off := 70) (tgt := 78) (k := 5) hC (by omega) dX5_viewTold_8 (by decide) (by decide) rfl (by decide) ?_
    refine lv_aload_n hC.1 hC.2.1 dX5_viewTold_78 rfl (lv_at hl 0 rfl) ?_
    refine x_const hC dX5_viewTold_79 ?_
    refine x_ialdE (x := ti_3.ui) hC hw hIi_3.1 (by omega) (by omega) (by omega) dX5_viewTold_80 hIi_3.2.2.2.2.2.2 ?_
    exact x_iret hC hw dX5_viewTold_81 (by omega) (by omega) ⟨ti_3.ui, rfl, rfl, by omega, (by rw [A_ofView, show tvW (ST.W (O, V, Wv, (none : WA), kp, kv, rfd)) p0.toNat = ti_3 from tvW_some hui_3, if_neg (by omega), if_neg (by omega), if_neg (by omega), if_neg (by omega), if_neg (by omega), if_pos (by omega)]; first | done | exact rfl)⟩
  by_cases c_13 : p1 = 6
  · refine x_tsw (off := 74) (tgt := 82) (k := 6) hC (by omega) dX5_viewTold_8 (by decide) (by decide) rfl (by decide) ?_
    refine lv_aload_n hC.1 hC.2.1 dX5_viewTold_82 rfl (lv_at hl 1 rfl) ?_
    refine lv_aload_n hC.1 hC.2.1 dX5_viewTold_83 rfl (lv_at hl 0 rfl) ?_
    refine x_const hC dX5_viewTold_84 ?_
    refine x_callV hC hw (lv_size hl) (c_X5_end l G hR hIi_3 (p0 := 0) (by omega)) gX5_viewTold_X5_end rfl dv_X5_end hR.1.1 rfl rfl (Nat.le_of_ble_eq_true rfl) (by rw [hRf]; decide) (by rw [hRl]; decide) (by omega) (by omega) dX5_viewTold_85 (fun r9 M_14 H locs hq hw => ?_)
    obtain ⟨z_15, rfl, hM9, hz_15a, hz_15S, hz_15e⟩ := hq
    rw [hM9] at hw
    show W p l e R s m args below meth c H locs _ _ _ (F0 m 88 ls [.int (iN (z_15))])
    exact x_iret hC hw dX5_viewTold_88 (by omega) (by omega) ⟨z_15, rfl, rfl, by omega, (by rw [A_ofView, show tvW (ST.W (O, V, Wv, (none : WA), kp, kv, rfd)) p0.toNat = ti_3 from tvW_some hui_3, if_neg (by omega), if_neg (by omega), if_neg (by omega), if_neg (by omega), if_neg (by omega), if_neg (by omega), if_pos (by omega)]; first | done | exact hz_15e)⟩
  by_cases c_16 : p1 = 7
  · refine x_tsw (off := 81) (tgt := 89) (k := 7) hC (by omega) dX5_viewTold_8 (by decide) (by decide) rfl (by decide) ?_
    refine lv_aload_n hC.1 hC.2.1 dX5_viewTold_89 rfl (lv_at hl 1 rfl) ?_
    refine lv_aload_n hC.1 hC.2.1 dX5_viewTold_90 rfl (lv_at hl 0 rfl) ?_
    refine x_const hC dX5_viewTold_91 ?_
    refine x_callV hC hw (lv_size hl) (c_X5_end l G hR hIi_3 (p0 := 1) (by omega)) gX5_viewTold_X5_end rfl dv_X5_end hR.1.1 rfl rfl (Nat.le_of_ble_eq_true rfl) (by rw [hRf]; decide) (by rw [hRl]; decide) (by omega) (by omega) dX5_viewTold_92 (fun r9 M_17 H locs hq hw => ?_)
    obtain ⟨z_18, rfl, hM9, hz_18a, hz_18S, hz_18e⟩ := hq
    rw [hM9] at hw
    show W p l e R s m args below meth c H locs _ _ _ (F0 m 95 ls [.int (iN (z_18))])
    exact x_iret hC hw dX5_viewTold_95 (by omega) (by omega) ⟨z_18, rfl, rfl, by omega, (by rw [A_ofView, show tvW (ST.W (O, V, Wv, (none : WA), kp, kv, rfd)) p0.toNat = ti_3 from tvW_some hui_3, if_neg (by omega), if_neg (by omega), if_neg (by omega), if_neg (by omega), if_neg (by omega), if_neg (by omega), if_neg (by omega), if_pos (by omega)]; first | done | exact hz_18e)⟩
  refine x_tswd (tgt := 96) hC ⟨by omega, by omega⟩ dX5_viewTold_8 (by omega) (by decide) ?_
  refine lv_aload_n hC.1 hC.2.1 dX5_viewTold_96 rfl (lv_at hl 1 rfl) ?_
  refine lv_aload_n hC.1 hC.2.1 dX5_viewTold_97 rfl (lv_at hl 0 rfl) ?_
  refine x_callV hC hw (lv_size hl) (c_X5_sum l G hR hIi_3) gX5_viewTold_X5_sum rfl dv_X5_sum hR.1.1 rfl rfl (Nat.le_of_ble_eq_true rfl) (by rw [hRf]; decide) (by rw [hRl]; decide) (by omega) (by omega) dX5_viewTold_98 (fun r9 M_19 H locs hq hw => ?_)
  obtain ⟨z_20, rfl, hM9, hz_20a, hz_20m⟩ := hq
  rw [hM9] at hw
  show W p l e R s m args below meth c H locs _ _ _ (F0 m 101 ls [.int (iN (z_20))])
  exact x_iret hC hw dX5_viewTold_101 (by omega) (by omega) ⟨z_20, rfl, rfl, by omega, (by rw [A_ofView, show tvW (ST.W (O, V, Wv, (none : WA), kp, kv, rfd)) p0.toNat = ti_3 from tvW_some hui_3, if_neg (by omega), if_neg (by omega), if_neg (by omega), if_neg (by omega), if_neg (by omega), if_neg (by omega), if_neg (by omega), if_neg (by omega)]; first | done | exact hz_20m)⟩
set_option maxHeartbeats 4000000 in
set_option maxRecDepth 100000 in
theorem c_X5_ofView (l : Launch) (G : xG) {M : HM} {a va oa wa ya : Nat} {wk : Option Nat} {th : Int} {rfd : Int32} {br re la ha : Int} {kp kv : Int32} {qv qw : Nat → Nat} {fa fb : Nat → Option Nat} {V : BW} {O : OW} {fy : Nat → Option Nat} {Wv : VW} {wt : Option VT} {S : Nat → Bool} (hR : MGx G M a va oa wa ya wk th rfd br re la ha kp kv qv qw fa fb V O fy Wv wt S) {K : WA} (hK : abM O wt br re la ha K) {p0 : Int} (hp0 : -2147483648 ≤ p0 ∧ p0 ≤ 2147483647) {p1 : Int} (hp1 : -2147483648 ≤ p1 ∧ p1 ≤ 2147483647) : xMet l G yX5_ofView wsX5_ofView 6 138 0 0 [.ref a, .int (iN (p0)), .int (iN (p1))] M (fun r M1 => ∃ (z th1 : Int), r = some (.int (iN z)) ∧ (-2147483648 ≤ z ∧ z ≤ 2147483647) ∧ ((th1 = 0 ∧ ((0 ≤ p0 ∧ p0 ≤ 3 ∧ opN (Wv p0.toNat) = 1) ∧ (0 ≤ p1 ∧ p1 ≤ 8)) ∧ z = A_ofView (O, V, Wv, K, kp, kv, rfd) p0 p1 ∧ MGm G M1 a S th1 (O, V, Wv, K, kp, kv, rfd)) ∨ (th1 ≠ 0 ∧ ((th1 = 1 ∧ ¬ (0 ≤ p0 ∧ p0 ≤ 3 ∧ opN (Wv p0.toNat) = 1)) ∨ (th1 = 2 ∧ (0 ≤ p0 ∧ p0 ≤ 3 ∧ opN (Wv p0.toNat) = 1) ∧ ¬ (0 ≤ p1 ∧ p1 ≤ 8))) ∧ MGm G M1 a S th1 (O, V, Wv, K, kp, kv, rfd)))) := by
  refine x_intro (cc := cX5_ofView) (maxL := 3) (ret := (some .int)) (by decide +kernel) rfl (Nat.le_of_ble_eq_true rfl) ?_
  intro p e R s m args below meth c ls hRf hRc hRs hRl hC hw hl
  have hsc0 := hR.sc
  have hl : lv_has ls 3 [(0, .ref a), (1, .int (iN (p0))), (2, .int (iN (p1)))] := hl
  refine lv_aload_n hC.1 hC.2.1 dX5_ofView_0 rfl (lv_at hl 0 rfl) ?_
  refine lv_aload_n hC.1 hC.2.1 dX5_ofView_1 rfl (lv_at hl 0 rfl) ?_
  refine lv_iload_n hC.1 hC.2.1 dX5_ofView_2 rfl (lv_at hl 1 rfl) ?_
  refine x_callV hC hw (lv_size hl) (c_X5_isNoView l G hR (p0 := p0) (by omega)) gX5_ofView_X5_isNoView rfl dv_X5_isNoView hR.1.1 rfl rfl (Nat.le_of_ble_eq_true rfl) (by rw [hRf]; decide) (by rw [hRl]; decide) (by omega) (by omega) dX5_ofView_3 (fun r9 M_1 H locs hq hw => ?_)
  obtain ⟨z_2, rfl, hM9, hz_2a, hz_2b, hz_2n⟩ := hq
  rw [hM9] at hw
  show W p l e R s m args below meth c H locs _ _ _ (F0 m 6 ls [.int (iN (z_2)), .ref a])
  refine x_const hC dX5_ofView_6 ?_
  refine x_callV hC hw (lv_size hl) (c_X5_start l G hR (p0 := z_2) (by omega) (p1 := 1) (by omega) (by omega)) gX5_ofView_X5_start rfl dv_X5_start hR.1.1 rfl rfl (Nat.le_of_ble_eq_true rfl) (by rw [hRf]; decide) (by rw [hRl]; decide) (by omega) (by omega) dX5_ofView_7 (fun r9 M_3 H locs hq hw => ?_)
  obtain ⟨z_5, thk_4, rfl, hz_5a, hz_5b, hz_5c0, hz_5c1, hx5k_4, hRk_4⟩ := hq
  have hsck_4 := hRk_4.sc
  show W p l e R s m args below meth c H locs _ _ _ (F0 m 10 ls [.int (iN (z_5))])
  refine x_if_ne (tgt := 36) hC ⟨by omega, by omega⟩ dX5_ofView_10 (by decide) (fun c_6 => ?_) (fun c_6 => ?_)
  · refine x_const hC dX5_ofView_36 ?_
    refine lv_goto (tgt := 46) hC.1 hC.2.1 dX5_ofView_37 (by decide) ?_
    exact x_iret hC hw dX5_ofView_46 (by omega) (by omega) ⟨0, _, rfl, by omega, Or.inr ⟨by omega, by omega, MGm.of hRk_4 hK⟩⟩
  · refine lv_aload_n hC.1 hC.2.1 dX5_ofView_13 rfl (lv_at hl 0 rfl) ?_
    refine lv_iload_n hC.1 hC.2.1 dX5_ofView_14 rfl (lv_at hl 2 rfl) ?_
    refine x_const hC dX5_ofView_15 ?_
    refine x_bipush hC dX5_ofView_16 (by decide +kernel) ?_
    refine x_callS hC hw (lv_size hl) (c_X5_isIn l G (M := M_3) (p0 := p1) (by omega) (p1 := 0) (by omega) (p2 := 8) (by omega)) gX5_ofView_X5_isIn rfl dv_X5_isIn_s rfl (Nat.le_of_ble_eq_true rfl) (by rw [hRf]; decide) (by rw [hRl]; decide) (by omega) (by omega) dX5_ofView_18 (fun r9 M_7 H locs hq hw => ?_)
    obtain ⟨z_8, rfl, hM9, hz_8a, hz_8b, hz_8c⟩ := hq
    rw [hM9] at hw
    show W p l e R s m args below meth c H locs _ _ _ (F0 m 21 ls [.int (iN (z_8)), .ref a])
    refine x_if_ne (tgt := 28) hC ⟨by omega, by omega⟩ dX5_ofView_21 (by decide) (fun c_9 => ?_) (fun c_9 => ?_)
    · refine x_const hC dX5_ofView_28 ?_
      refine x_const hC dX5_ofView_29 ?_
      refine x_callV hC hw (lv_size hl) (c_X5_refuse l G hRk_4 (p0 := 0) (by omega) (p1 := 2) (by omega) (by omega)) gX5_ofView_X5_refuse rfl dv_X5_refuse hRk_4.1.1 rfl rfl (Nat.le_of_ble_eq_true rfl) (by rw [hRf]; decide) (by rw [hRl]; decide) (by omega) (by omega) dX5_ofView_30 (fun r9 M_10 H locs hq hw => ?_)
      obtain ⟨z_12, thk_11, rfl, hz_12a, hz_12b, hz_12c0, hz_12c1, hx5k_11, hRk_11⟩ := hq
      have hsck_11 := hRk_11.sc
      show W p l e R s m args below meth c H locs _ _ _ (F0 m 33 ls [.int (iN (z_12))])
      refine x_if_eq (tgt := 40) hC ⟨by omega, by omega⟩ dX5_ofView_33 (by decide) (fun c_13 => ?_) (fun c_13 => ?_)
      · refine lv_aload_n hC.1 hC.2.1 dX5_ofView_40 rfl (lv_at hl 0 rfl) ?_
        refine lv_iload_n hC.1 hC.2.1 dX5_ofView_41 rfl (lv_at hl 1 rfl) ?_
        refine lv_iload_n hC.1 hC.2.1 dX5_ofView_42 rfl (lv_at hl 2 rfl) ?_
        refine x_callV hC hw (lv_size hl) (c_X5_viewTold l G hRk_11 (p0 := p0) (by omega) (p1 := p1) (by omega) (by omega) (by omega) (hz_2n (by omega))) gX5_ofView_X5_viewTold rfl dv_X5_viewTold hRk_11.1.1 rfl rfl (Nat.le_of_ble_eq_true rfl) (by rw [hRf]; decide) (by rw [hRl]; decide) (by omega) (by omega) dX5_ofView_43 (fun r9 M_14 H locs hq hw => ?_)
        obtain ⟨z_15, rfl, hM9, hz_15a, hz_15w⟩ := hq
        rw [hM9] at hw
        show W p l e R s m args below meth c H locs _ _ _ (F0 m 46 ls [.int (iN (z_15))])
        exact x_iret hC hw dX5_ofView_46 (by omega) (by omega) ⟨z_15, _, rfl, by omega, Or.inl ⟨by omega, by first | trivial | omega, hz_15w, MGm.of hRk_11 hK⟩⟩
      · refine x_const hC dX5_ofView_36 ?_
        refine lv_goto (tgt := 46) hC.1 hC.2.1 dX5_ofView_37 (by decide) ?_
        exact x_iret hC hw dX5_ofView_46 (by omega) (by omega) ⟨0, _, rfl, by omega, Or.inr ⟨by omega, by omega, MGm.of hRk_11 hK⟩⟩
    · refine x_const hC dX5_ofView_24 ?_
      refine lv_goto (tgt := 29) hC.1 hC.2.1 dX5_ofView_25 (by decide) ?_
      refine x_const hC dX5_ofView_29 ?_
      refine x_callV hC hw (lv_size hl) (c_X5_refuse l G hRk_4 (p0 := 1) (by omega) (p1 := 2) (by omega) (by omega)) gX5_ofView_X5_refuse rfl dv_X5_refuse hRk_4.1.1 rfl rfl (Nat.le_of_ble_eq_true rfl) (by rw [hRf]; decide) (by rw [hRl]; decide) (by omega) (by omega) dX5_ofView_30 (fun r9 M_16 H locs hq hw => ?_)
      obtain ⟨z_18, thk_17, rfl, hz_18a, hz_18b, hz_18c0, hz_18c1, hx5k_17, hRk_17⟩ := hq
      have hsck_17 := hRk_17.sc
      show W p l e R s m args below meth c H locs _ _ _ (F0 m 33 ls [.int (iN (z_18))])
      refine x_if_eq (tgt := 40) hC ⟨by omega, by omega⟩ dX5_ofView_33 (by decide) (fun c_19 => ?_) (fun c_19 => ?_)
      · refine lv_aload_n hC.1 hC.2.1 dX5_ofView_40 rfl (lv_at hl 0 rfl) ?_
        refine lv_iload_n hC.1 hC.2.1 dX5_ofView_41 rfl (lv_at hl 1 rfl) ?_
        refine lv_iload_n hC.1 hC.2.1 dX5_ofView_42 rfl (lv_at hl 2 rfl) ?_
        refine x_callV hC hw (lv_size hl) (c_X5_viewTold l G hRk_17 (p0 := p0) (by omega) (p1 := p1) (by omega) (by omega) (by omega) (hz_2n (by omega))) gX5_ofView_X5_viewTold rfl dv_X5_viewTold hRk_17.1.1 rfl rfl (Nat.le_of_ble_eq_true rfl) (by rw [hRf]; decide) (by rw [hRl]; decide) (by omega) (by omega) dX5_ofView_43 (fun r9 M_20 H locs hq hw => ?_)
        obtain ⟨z_21, rfl, hM9, hz_21a, hz_21w⟩ := hq
        rw [hM9] at hw
        show W p l e R s m args below meth c H locs _ _ _ (F0 m 46 ls [.int (iN (z_21))])
        exact x_iret hC hw dX5_ofView_46 (by omega) (by omega) ⟨z_21, _, rfl, by omega, Or.inl ⟨by omega, by first | trivial | omega, hz_21w, MGm.of hRk_17 hK⟩⟩
      · refine x_const hC dX5_ofView_36 ?_
        refine lv_goto (tgt := 46) hC.1 hC.2.1 dX5_ofView_37 (by decide) ?_
        exact x_iret hC hw dX5_ofView_46 (by omega) (by omega) ⟨0, _, rfl, by omega, Or.inr ⟨by omega, by omega, MGm.of hRk_17 hK⟩⟩
set_option maxHeartbeats 4000000 in
set_option maxRecDepth 100000 in
theorem c_X5_viewNear (l : Launch) (G : xG) {M : HM} {a va oa wa ya : Nat} {wk : Option Nat} {th : Int} {rfd : Int32} {br re la ha : Int} {kp kv : Int32} {qv qw : Nat → Nat} {fa fb : Nat → Option Nat} {V : BW} {O : OW} {fy : Nat → Option Nat} {Wv : VW} {wt : Option VT} {S : Nat → Bool} (hR : MGx G M a va oa wa ya wk th rfd br re la ha kp kv qv qw fa fb V O fy Wv wt S) {K : WA} (hK : abM O wt br re la ha K) {p0 : Int} (hp0 : -2147483648 ≤ p0 ∧ p0 ≤ 2147483647) {p1 : Int} (hp1 : -2147483648 ≤ p1 ∧ p1 ≤ 2147483647) {p2 : Int} (hp2 : -2147483648 ≤ p2 ∧ p2 ≤ 2147483647) : xMet l G yX5_viewNear wsX5_viewNear 5 117 0 0 [.ref a, .int (iN (p0)), .int (iN (p1)), .int (iN (p2))] M (fun r M1 => ∃ (z th1 : Int), r = some (.int (iN z)) ∧ (-2147483648 ≤ z ∧ z ≤ 2147483647) ∧ ((th1 = 0 ∧ ((0 ≤ p0 ∧ p0 ≤ 3 ∧ opN (Wv p0.toNat) = 1) ∧ ((0 ≤ p1 ∧ p1 ≤ 99) ∧ (0 ≤ p2 ∧ p2 ≤ 3))) ∧ z = A_viewNear (O, V, Wv, K, kp, kv, rfd) p0 p1 p2 ∧ MGm G M1 a S th1 (O, V, Wv, K, kp, kv, rfd)) ∨ (th1 ≠ 0 ∧ ((th1 = 1 ∧ ¬ (0 ≤ p0 ∧ p0 ≤ 3 ∧ opN (Wv p0.toNat) = 1)) ∨ (th1 = 2 ∧ (0 ≤ p0 ∧ p0 ≤ 3 ∧ opN (Wv p0.toNat) = 1) ∧ ¬ ((0 ≤ p1 ∧ p1 ≤ 99) ∧ (0 ≤ p2 ∧ p2 ≤ 3)))) ∧ MGm G M1 a S th1 (O, V, Wv, K, kp, kv, rfd)))) := by
  refine x_intro (cc := cX5_viewNear) (maxL := 4) (ret := (some .int)) (by decide +kernel) rfl (Nat.le_of_ble_eq_true rfl) ?_
  intro p e R s m args below meth c ls hRf hRc hRs hRl hC hw hl
  have hsc0 := hR.sc
  have hinX5 : ∀ w ∈ wsX50, w ∈ wsX5_viewNear := by decide +kernel
  have hl : lv_has ls 4 [(0, .ref a), (1, .int (iN (p0))), (2, .int (iN (p1))), (3, .int (iN (p2)))] := hl
  refine lv_aload_n hC.1 hC.2.1 dX5_viewNear_0 rfl (lv_at hl 0 rfl) ?_
  refine lv_aload_n hC.1 hC.2.1 dX5_viewNear_1 rfl (lv_at hl 0 rfl) ?_
  refine lv_iload_n hC.1 hC.2.1 dX5_viewNear_2 rfl (lv_at hl 1 rfl) ?_
  refine x_callV hC hw (lv_size hl) (c_X5_isNoView l G hR (p0 := p0) (by omega)) gX5_viewNear_X5_isNoView rfl dv_X5_isNoView hR.1.1 rfl rfl (Nat.le_of_ble_eq_true rfl) (by rw [hRf]; decide) (by rw [hRl]; decide) (by omega) (by omega) dX5_viewNear_3 (fun r9 M_1 H locs hq hw => ?_)
  obtain ⟨z_2, rfl, hM9, hz_2a, hz_2b, hz_2n⟩ := hq
  rw [hM9] at hw
  show W p l e R s m args below meth c H locs _ _ _ (F0 m 6 ls [.int (iN (z_2)), .ref a])
  refine x_const hC dX5_viewNear_6 ?_
  refine x_callV hC hw (lv_size hl) (c_X5_start l G hR (p0 := z_2) (by omega) (p1 := 1) (by omega) (by omega)) gX5_viewNear_X5_start rfl dv_X5_start hR.1.1 rfl rfl (Nat.le_of_ble_eq_true rfl) (by rw [hRf]; decide) (by rw [hRl]; decide) (by omega) (by omega) dX5_viewNear_7 (fun r9 M_3 H locs hq hw => ?_)
  obtain ⟨z_5, thk_4, rfl, hz_5a, hz_5b, hz_5c0, hz_5c1, hx5k_4, hRk_4⟩ := hq
  have hsck_4 := hRk_4.sc
  show W p l e R s m args below meth c H locs _ _ _ (F0 m 10 ls [.int (iN (z_5))])
  refine x_if_ne (tgt := 42) hC ⟨by omega, by omega⟩ dX5_viewNear_10 (by decide) (fun c_6 => ?_) (fun c_6 => ?_)
  · refine x_const hC dX5_viewNear_42 ?_
    refine lv_goto (tgt := 58) hC.1 hC.2.1 dX5_viewNear_43 (by decide) ?_
    exact x_iret hC hw dX5_viewNear_58 (by omega) (by omega) ⟨0, _, rfl, by omega, Or.inr ⟨by omega, by omega, MGm.of hRk_4 hK⟩⟩
  · refine lv_aload_n hC.1 hC.2.1 dX5_viewNear_13 rfl (lv_at hl 0 rfl) ?_
    refine lv_iload_n hC.1 hC.2.1 dX5_viewNear_14 rfl (lv_at hl 2 rfl) ?_
    refine x_callS hC hw (lv_size hl) (c_X5_isNoKey l G (M := M_3) (p0 := p1) (by omega)) gX5_viewNear_X5_isNoKey rfl dv_X5_isNoKey_s rfl (Nat.le_of_ble_eq_true rfl) (by rw [hRf]; decide) (by rw [hRl]; decide) (by omega) (by omega) dX5_viewNear_15 (fun r9 M_7 H locs hq hw => ?_)
    obtain ⟨z_8, rfl, hM9, hz_8a, hz_8b⟩ := hq
    rw [hM9] at hw
    show W p l e R s m args below meth c H locs _ _ _ (F0 m 18 ls [.int (iN (z_8)), .ref a])
    refine x_if_ne (tgt := 30) hC ⟨by omega, by omega⟩ dX5_viewNear_18 (by decide) (fun c_9 => ?_) (fun c_9 => ?_)
    · refine x_const hC dX5_viewNear_30 ?_
      refine lv_goto (tgt := 35) hC.1 hC.2.1 dX5_viewNear_31 (by decide) ?_
      refine x_const hC dX5_viewNear_35 ?_
      refine x_callV hC hw (lv_size hl) (c_X5_refuse l G hRk_4 (p0 := 1) (by omega) (p1 := 2) (by omega) (by omega)) gX5_viewNear_X5_refuse rfl dv_X5_refuse hRk_4.1.1 rfl rfl (Nat.le_of_ble_eq_true rfl) (by rw [hRf]; decide) (by rw [hRl]; decide) (by omega) (by omega) dX5_viewNear_36 (fun r9 M_10 H locs hq hw => ?_)
      obtain ⟨z_12, thk_11, rfl, hz_12a, hz_12b, hz_12c0, hz_12c1, hx5k_11, hRk_11⟩ := hq
      have hsck_11 := hRk_11.sc
      show W p l e R s m args below meth c H locs _ _ _ (F0 m 39 ls [.int (iN (z_12))])
      refine x_if_eq (tgt := 46) hC ⟨by omega, by omega⟩ dX5_viewNear_39 (by decide) (fun c_13 => ?_) (fun c_13 => ?_)
      · refine lv_aload_n hC.1 hC.2.1 dX5_viewNear_46 rfl (lv_at hl 0 rfl) ?_
        refine lv_aload_n hC.1 hC.2.1 dX5_viewNear_47 rfl (lv_at hl 0 rfl) ?_
        refine x_get hC hw hRk_11.1.1 rfl hinX5 5 (by decide) (by decide +kernel) rfl dX5_viewNear_48 ?_
        refine lv_iload_n hC.1 hC.2.1 dX5_viewNear_51 rfl (lv_at hl 1 rfl) ?_
        refine x_ald4 hC hw hRk_11.1.2.2.2.2.1 (by omega) (by omega) (by omega) dX5_viewNear_52 ?_
        obtain ⟨y_14, hy_15⟩ := x_some (hz_2n (by omega))
        rw [hy_15]
        obtain ⟨ti_16, fi_16, hui_16, hIi_16⟩ := (hRk_11.vw (show (p0).toNat < 4 by omega)).yes hy_15
        obtain ⟨htat_17, htbt_17, htct_17, htdt_17, htet_17⟩ := id hIi_16.2.1
        show W p l e R s m args below meth c _ _ _ _ _ (F0 m 53 ls [.ref y_14, .ref a])
        refine lv_iload_n hC.1 hC.2.1 dX5_viewNear_53 rfl (lv_at hl 2 rfl) ?_
        refine lv_iload_n hC.1 hC.2.1 dX5_viewNear_54 rfl (lv_at hl 3 rfl) ?_
        refine x_callV hC hw (lv_size hl) (c_X5_nearOf l G hRk_11 hIi_16 (p0 := p1) (by omega) (p1 := p2) (by omega) (by omega)) gX5_viewNear_X5_nearOf rfl dv_X5_nearOf hRk_11.1.1 rfl rfl (Nat.le_of_ble_eq_true rfl) (by rw [hRf]; decide) (by rw [hRl]; decide) (by omega) (by omega) dX5_viewNear_55 (fun r9 M_18 H locs hq hw => ?_)
        obtain ⟨z_19, rfl, hM9, hz_19a, hz_19S, hz_19n⟩ := hq
        rw [hM9] at hw
        show W p l e R s m args below meth c H locs _ _ _ (F0 m 58 ls [.int (iN (z_19))])
        exact x_iret hC hw dX5_viewNear_58 (by omega) (by omega) ⟨z_19, _, rfl, by omega, Or.inl ⟨by omega, by first | trivial | omega, (by rw [A_viewNear, show tvW (ST.W (O, V, Wv, K, kp, kv, rfd)) p0.toNat = ti_16 from tvW_some hui_16]; exact hz_19n), MGm.of hRk_11 hK⟩⟩
      · refine x_const hC dX5_viewNear_42 ?_
        refine lv_goto (tgt := 58) hC.1 hC.2.1 dX5_viewNear_43 (by decide) ?_
        exact x_iret hC hw dX5_viewNear_58 (by omega) (by omega) ⟨0, _, rfl, by omega, Or.inr ⟨by omega, by omega, MGm.of hRk_11 hK⟩⟩
    · refine lv_iload_n hC.1 hC.2.1 dX5_viewNear_21 rfl (lv_at hl 3 rfl) ?_
      refine x_const hC dX5_viewNear_22 ?_
      refine x_const hC dX5_viewNear_23 ?_
      refine x_callS hC hw (lv_size hl) (c_X5_isIn l G (M := M_3) (p0 := p2) (by omega) (p1 := 0) (by omega) (p2 := 3) (by omega)) gX5_viewNear_X5_isIn rfl dv_X5_isIn_s rfl (Nat.le_of_ble_eq_true rfl) (by rw [hRf]; decide) (by rw [hRl]; decide) (by omega) (by omega) dX5_viewNear_24 (fun r9 M_20 H locs hq hw => ?_)
      obtain ⟨z_21, rfl, hM9, hz_21a, hz_21b, hz_21c⟩ := hq
      rw [hM9] at hw
      show W p l e R s m args below meth c H locs _ _ _ (F0 m 27 ls [.int (iN (z_21)), .ref a])
      refine x_if_ne (tgt := 34) hC ⟨by omega, by omega⟩ dX5_viewNear_27 (by decide) (fun c_22 => ?_) (fun c_22 => ?_)
      · refine x_const hC dX5_viewNear_34 ?_
        refine x_const hC dX5_viewNear_35 ?_
        refine x_callV hC hw (lv_size hl) (c_X5_refuse l G hRk_4 (p0 := 0) (by omega) (p1 := 2) (by omega) (by omega)) gX5_viewNear_X5_refuse rfl dv_X5_refuse hRk_4.1.1 rfl rfl (Nat.le_of_ble_eq_true rfl) (by rw [hRf]; decide) (by rw [hRl]; decide) (by omega) (by omega) dX5_viewNear_36 (fun r9 M_23 H locs hq hw => ?_)
        obtain ⟨z_25, thk_24, rfl, hz_25a, hz_25b, hz_25c0, hz_25c1, hx5k_24, hRk_24⟩ := hq
        have hsck_24 := hRk_24.sc
        show W p l e R s m args below meth c H locs _ _ _ (F0 m 39 ls [.int (iN (z_25))])
        refine x_if_eq (tgt := 46) hC ⟨by omega, by omega⟩ dX5_viewNear_39 (by decide) (fun c_26 => ?_) (fun c_26 => ?_)
        · refine lv_aload_n hC.1 hC.2.1 dX5_viewNear_46 rfl (lv_at hl 0 rfl) ?_
          refine lv_aload_n hC.1 hC.2.1 dX5_viewNear_47 rfl (lv_at hl 0 rfl) ?_
          refine x_get hC hw hRk_24.1.1 rfl hinX5 5 (by decide) (by decide +kernel) rfl dX5_viewNear_48 ?_
          refine lv_iload_n hC.1 hC.2.1 dX5_viewNear_51 rfl (lv_at hl 1 rfl) ?_
          refine x_ald4 hC hw hRk_24.1.2.2.2.2.1 (by omega) (by omega) (by omega) dX5_viewNear_52 ?_
          obtain ⟨y_27, hy_28⟩ := x_some (hz_2n (by omega))
          rw [hy_28]
          obtain ⟨ti_29, fi_29, hui_29, hIi_29⟩ := (hRk_24.vw (show (p0).toNat < 4 by omega)).yes hy_28
          obtain ⟨htat_30, htbt_30, htct_30, htdt_30, htet_30⟩ := id hIi_29.2.1
          show W p l e R s m args below meth c _ _ _ _ _ (F0 m 53 ls [.ref y_27, .ref a])
          refine lv_iload_n hC.1 hC.2.1 dX5_viewNear_53 rfl (lv_at hl 2 rfl) ?_
          refine lv_iload_n hC.1 hC.2.1 dX5_viewNear_54 rfl (lv_at hl 3 rfl) ?_
          refine x_callV hC hw (lv_size hl) (c_X5_nearOf l G hRk_24 hIi_29 (p0 := p1) (by omega) (p1 := p2) (by omega) (by omega)) gX5_viewNear_X5_nearOf rfl dv_X5_nearOf hRk_24.1.1 rfl rfl (Nat.le_of_ble_eq_true rfl) (by rw [hRf]; decide) (by rw [hRl]; decide) (by omega) (by omega) dX5_viewNear_55 (fun r9 M_31 H locs hq hw => ?_)
          obtain ⟨z_32, rfl, hM9, hz_32a, hz_32S, hz_32n⟩ := hq
          rw [hM9] at hw
          show W p l e R s m args below meth c H locs _ _ _ (F0 m 58 ls [.int (iN (z_32))])
          exact x_iret hC hw dX5_viewNear_58 (by omega) (by omega) ⟨z_32, _, rfl, by omega, Or.inl ⟨by omega, by first | trivial | omega, (by rw [A_viewNear, show tvW (ST.W (O, V, Wv, K, kp, kv, rfd)) p0.toNat = ti_29 from tvW_some hui_29]; exact hz_32n), MGm.of hRk_24 hK⟩⟩
        · refine x_const hC dX5_viewNear_42 ?_
          refine lv_goto (tgt := 58) hC.1 hC.2.1 dX5_viewNear_43 (by decide) ?_
          exact x_iret hC hw dX5_viewNear_58 (by omega) (by omega) ⟨0, _, rfl, by omega, Or.inr ⟨by omega, by omega, MGm.of hRk_24 hK⟩⟩
      · refine x_const hC dX5_viewNear_30 ?_
        refine lv_goto (tgt := 35) hC.1 hC.2.1 dX5_viewNear_31 (by decide) ?_
        refine x_const hC dX5_viewNear_35 ?_
        refine x_callV hC hw (lv_size hl) (c_X5_refuse l G hRk_4 (p0 := 1) (by omega) (p1 := 2) (by omega) (by omega)) gX5_viewNear_X5_refuse rfl dv_X5_refuse hRk_4.1.1 rfl rfl (Nat.le_of_ble_eq_true rfl) (by rw [hRf]; decide) (by rw [hRl]; decide) (by omega) (by omega) dX5_viewNear_36 (fun r9 M_33 H locs hq hw => ?_)
        obtain ⟨z_35, thk_34, rfl, hz_35a, hz_35b, hz_35c0, hz_35c1, hx5k_34, hRk_34⟩ := hq
        have hsck_34 := hRk_34.sc
        show W p l e R s m args below meth c H locs _ _ _ (F0 m 39 ls [.int (iN (z_35))])
        refine x_if_eq (tgt := 46) hC ⟨by omega, by omega⟩ dX5_viewNear_39 (by decide) (fun c_36 => ?_) (fun c_36 => ?_)
        · refine lv_aload_n hC.1 hC.2.1 dX5_viewNear_46 rfl (lv_at hl 0 rfl) ?_
          refine lv_aload_n hC.1 hC.2.1 dX5_viewNear_47 rfl (lv_at hl 0 rfl) ?_
          refine x_get hC hw hRk_34.1.1 rfl hinX5 5 (by decide) (by decide +kernel) rfl dX5_viewNear_48 ?_
          refine lv_iload_n hC.1 hC.2.1 dX5_viewNear_51 rfl (lv_at hl 1 rfl) ?_
          refine x_ald4 hC hw hRk_34.1.2.2.2.2.1 (by omega) (by omega) (by omega) dX5_viewNear_52 ?_
          obtain ⟨y_37, hy_38⟩ := x_some (hz_2n (by omega))
          rw [hy_38]
          obtain ⟨ti_39, fi_39, hui_39, hIi_39⟩ := (hRk_34.vw (show (p0).toNat < 4 by omega)).yes hy_38
          obtain ⟨htat_40, htbt_40, htct_40, htdt_40, htet_40⟩ := id hIi_39.2.1
          show W p l e R s m args below meth c _ _ _ _ _ (F0 m 53 ls [.ref y_37, .ref a])
          refine lv_iload_n hC.1 hC.2.1 dX5_viewNear_53 rfl (lv_at hl 2 rfl) ?_
          refine lv_iload_n hC.1 hC.2.1 dX5_viewNear_54 rfl (lv_at hl 3 rfl) ?_
          refine x_callV hC hw (lv_size hl) (c_X5_nearOf l G hRk_34 hIi_39 (p0 := p1) (by omega) (p1 := p2) (by omega) (by omega)) gX5_viewNear_X5_nearOf rfl dv_X5_nearOf hRk_34.1.1 rfl rfl (Nat.le_of_ble_eq_true rfl) (by rw [hRf]; decide) (by rw [hRl]; decide) (by omega) (by omega) dX5_viewNear_55 (fun r9 M_41 H locs hq hw => ?_)
          obtain ⟨z_42, rfl, hM9, hz_42a, hz_42S, hz_42n⟩ := hq
          rw [hM9] at hw
          show W p l e R s m args below meth c H locs _ _ _ (F0 m 58 ls [.int (iN (z_42))])
          exact x_iret hC hw dX5_viewNear_58 (by omega) (by omega) ⟨z_42, _, rfl, by omega, Or.inl ⟨by omega, by first | trivial | omega, (by rw [A_viewNear, show tvW (ST.W (O, V, Wv, K, kp, kv, rfd)) p0.toNat = ti_39 from tvW_some hui_39]; exact hz_42n), MGm.of hRk_34 hK⟩⟩
        · refine x_const hC dX5_viewNear_42 ?_
          refine lv_goto (tgt := 58) hC.1 hC.2.1 dX5_viewNear_43 (by decide) ?_
          exact x_iret hC hw dX5_viewNear_58 (by omega) (by omega) ⟨0, _, rfl, by omega, Or.inr ⟨by omega, by omega, MGm.of hRk_34 hK⟩⟩
set_option maxHeartbeats 4000000 in
set_option maxRecDepth 100000 in
theorem c_X5_ledgerTold (l : Launch) (G : xG) {M : HM} {a va oa wa ya : Nat} {wk : Option Nat} {th : Int} {rfd : Int32} {br re la ha : Int} {kp kv : Int32} {qv qw : Nat → Nat} {fa fb : Nat → Option Nat} {V : BW} {O : OW} {fy : Nat → Option Nat} {Wv : VW} {wt : Option VT} {S : Nat → Bool} (hR : MGx G M a va oa wa ya wk th rfd br re la ha kp kv qv qw fa fb V O fy Wv wt S) {p0 : Int} (hp0 : -2147483648 ≤ p0 ∧ p0 ≤ 2147483647) (hob : 0 ≤ p0 ∧ p0 ≤ 6) : xMet l G yX5_ledgerTold wsX5_ledgerTold 1 20 1 7 [.ref a, .int (iN (p0))] M (fun r M1 => ∃ z : Int, r = some (.int (iN z)) ∧ xExt M M1 ∧ (-2147483648 ≤ z ∧ z ≤ 2147483647) ∧ ((p0 = 0 ∧ z = opC Wv 4) ∨ (p0 = 1 ∧ z = bkO wt) ∨ (p0 = 2 ∧ z = br) ∨ (p0 = 3 ∧ z = ha) ∨ (p0 = 4 ∧ z = kp.toInt) ∨ (p0 = 5 ∧ z = kv.toInt) ∨ (p0 = 6 ∧ z = rfd.toInt))) := by
  refine x_intro (cc := cX5_ledgerTold) (maxL := 7) (ret := (some .int)) (by decide +kernel) rfl (Nat.le_of_ble_eq_true rfl) ?_
  intro p e R s m args below meth c ls hRf hRc hRs hRl hC hw hl
  have hsc0 := hR.sc
  have hinX5 : ∀ w ∈ wsX50, w ∈ wsX5_ledgerTold := by decide +kernel
  have hl : lv_has ls 7 [(0, .ref a), (1, .int (iN (p0)))] := hl
  refine x_const hC dX5_ledgerTold_0 ?_
  refine lv_istore_n (lv' := [(2, .int (iN (0))), (0, .ref a), (1, .int (iN (p0)))]) hC.1 hC.2.1 dX5_ledgerTold_1 rfl hl (by decide) rfl (fun ls hl => ?_)
  refine lv_aload_n hC.1 hC.2.1 dX5_ledgerTold_2 rfl (lv_at hl 1 rfl) ?_
  refine x_get hC hw hR.1.1 rfl hinX5 5 (by decide) (by decide +kernel) rfl dX5_ledgerTold_3 ?_
  refine lv_astore_n (lv' := [(3, .ref ya), (2, .int (iN (0))), (0, .ref a), (1, .int (iN (p0)))]) hC.1 hC.2.1 dX5_ledgerTold_6 rfl hl (by decide) rfl (fun ls hl => ?_)
  refine lv_aload_n hC.1 hC.2.1 dX5_ledgerTold_7 rfl (lv_at hl 0 rfl) ?_
  refine x_alen hC hw 4 hR.1.2.2.2.2.1 rfl dX5_ledgerTold_8 ?_
  refine lv_istore (lv' := [(4, .int (iN (4))), (3, .ref ya), (2, .int (iN (0))), (0, .ref a), (1, .int (iN (p0)))]) hC.1 hC.2.1 dX5_ledgerTold_9 hl (by decide) rfl (fun ls hl => ?_)
  refine x_const hC dX5_ledgerTold_11 ?_
  refine lv_istore (lv' := [(5, .int (iN (0))), (4, .int (iN (4))), (3, .ref ya), (2, .int (iN (0))), (0, .ref a), (1, .int (iN (p0)))]) hC.1 hC.2.1 dX5_ledgerTold_12 hl (by decide) rfl (fun ls hl => ?_)
  suffices hloop14 : ∀ (n9 : Nat) (n : Int) (j : Int) (H : Heap) (locs : List Loc) (ls : Array Slot), (hmu : (4 - j).toNat < n9) → (hi0 : 0 ≤ j ∧ j ≤ 4) → (hi1 : 0 ≤ n ∧ n ≤ j) → (hcn : n = opC Wv (j).toNat) → xD G (xA M s.heap.size) s M H locs → lv_has ls 7 [(0, .ref a), (1, .int (iN (p0))), (2, .int (iN (n))), (3, .ref ya), (4, .int (iN (4))), (5, .int (iN (j)))] → W p l e R s m args below meth c H locs _ _ _ (F0 m 14 ls []) by
    exact hloop14 _ 0 0  _ _ _ (Nat.lt_succ_self _) (by omega) (by omega) (rfl) hw (lv_sub hl [4, 5, 3, 2, 1, 0] rfl)
  intro n9
  induction n9 with
  | zero => intro n j  H locs ls hmu; exact absurd hmu (Nat.not_lt_zero _)
  | succ n9 ih14 =>
    intro n j  H locs ls hmu hi0 hi1 hcn hw hl
    refine lv_iload hC.1 hC.2.1 dX5_ledgerTold_14 (lv_at hl 5 rfl) ?_
    refine lv_iload hC.1 hC.2.1 dX5_ledgerTold_16 (lv_at hl 4 rfl) ?_
    refine x_icmp_ge (tgt := 49) hC ⟨by omega, by omega⟩ ⟨by omega, by omega⟩ dX5_ledgerTold_18 (by decide) (fun c_1 => ?_) (fun c_1 => ?_)
    · refine x_bipush hC dX5_ledgerTold_49 (by decide +kernel) ?_
      refine x_newI hC hw (by decide +kernel) 7 rfl (by decide) (by omega) (by omega) dX5_ledgerTold_51 (fun q_2 H hq_3 hw => ?_)
      obtain ⟨M_4, hM_5⟩ : ∃ z, z = va_up M q_2 (some (.inl (G.2 1, 7, .inl (fun _ => 0)))) := ⟨_, rfl⟩
      rw [← hM_5] at hw
      have hx_6 : xExt M M_4 := by rw [hM_5]; exact xExt.new hq_3
      have hA_7 : M_4 q_2 = some (.inl (G.2 1, 7, .inl (fun _ => 0))) := by rw [hM_5, va_up_self]
      have h_8 := hR.ext hx_6
      refine lv_dup hC.1 hC.2.1 dX5_ledgerTold_53 rfl ?_
      refine x_const hC dX5_ledgerTold_54 ?_
      refine lv_iload_n hC.1 hC.2.1 dX5_ledgerTold_55 rfl (lv_at hl 2 rfl) ?_
      refine x_iast hC hw hA_7 (by omega) (by omega) (by omega) dX5_ledgerTold_56 (fun H locs hw => ?_)
      obtain ⟨M_9, hM_10⟩ : ∃ z, z = va_up M_4 q_2 (some (.inl (G.2 1, 7, .inl (upd (fun _ => 0) (0 : Int).toNat (iN (n)))))) := ⟨_, rfl⟩
      rw [← hM_10] at hw
      have hA_11 : M_9 q_2 = some (.inl (G.2 1, 7, .inl (upd (fun _ => 0) (0 : Int).toNat (iN (n))))) := by rw [hM_10, va_up_self]
      have hx_12 := xExt.upd hq_3 hx_6 hM_10
      have h_13 := hR.ext hx_12
      refine lv_dup hC.1 hC.2.1 dX5_ledgerTold_57 rfl ?_
      refine x_const hC dX5_ledgerTold_58 ?_
      refine lv_aload_n hC.1 hC.2.1 dX5_ledgerTold_59 rfl (lv_at hl 0 rfl) ?_
      refine x_get hC hw h_13.1.1 rfl hinX5 6 (by decide) (by decide +kernel) rfl dX5_ledgerTold_60 ?_
      rcases wk with _ | w_14
      · have hwt_15 := h_13.wk'.nil rfl
        subst hwt_15
        show W p l e R s m args below meth c _ _ _ _ _ (F0 m 63 ls [.null, .int (iN (1)), .ref q_2, .ref q_2])
        refine lv_ifnonnullN hC.1 hC.2.1 dX5_ledgerTold_63 ?_
        refine x_sipush hC dX5_ledgerTold_66 (by decide +kernel) ?_
        refine lv_goto (tgt := 78) hC.1 hC.2.1 dX5_ledgerTold_69 (by decide) ?_
        refine x_iast hC hw hA_11 (by omega) (by omega) (by omega) dX5_ledgerTold_78 (fun H locs hw => ?_)
        obtain ⟨M_16, hM_17⟩ : ∃ z, z = va_up M_9 q_2 (some (.inl (G.2 1, 7, .inl (upd (upd (fun _ => 0) (0 : Int).toNat (iN (n))) (1 : Int).toNat (iN ((-10000))))))) := ⟨_, rfl⟩
        rw [← hM_17] at hw
        have hA_18 : M_16 q_2 = some (.inl (G.2 1, 7, .inl (upd (upd (fun _ => 0) (0 : Int).toNat (iN (n))) (1 : Int).toNat (iN ((-10000)))))) := by rw [hM_17, va_up_self]
        have hx_19 := xExt.upd hq_3 hx_12 hM_17
        have h_20 := hR.ext hx_19
        refine lv_dup hC.1 hC.2.1 dX5_ledgerTold_79 rfl ?_
        refine x_const hC dX5_ledgerTold_80 ?_
        refine lv_aload_n hC.1 hC.2.1 dX5_ledgerTold_81 rfl (lv_at hl 0 rfl) ?_
        refine x_get hC hw h_20.1.1 rfl hinX5 7 (by decide) (by decide +kernel) rfl dX5_ledgerTold_82 ?_
        have sc_21 := h_20.sc
        refine x_callS hC hw (lv_size hl) (c_X5_one l G (M := M_16) (p0 := br) (by omega)) gX5_ledgerTold_X5_one rfl dv_X5_one_s rfl (Nat.le_of_ble_eq_true rfl) (by rw [hRf]; decide) (by rw [hRl]; decide) (by omega) (by omega) dX5_ledgerTold_85 (fun r9 M_22 H locs hq hw => ?_)
        obtain ⟨z_23, rfl, hM9, hz_23a, hz_23b⟩ := hq
        rw [hM9] at hw
        show W p l e R s m args below meth c H locs _ _ _ (F0 m 88 ls [.int (iN (z_23)), .int (iN (2)), .ref q_2, .ref q_2])
        refine x_iast hC hw hA_18 (by omega) (by omega) (by omega) dX5_ledgerTold_88 (fun H locs hw => ?_)
        obtain ⟨M_24, hM_25⟩ : ∃ z, z = va_up M_16 q_2 (some (.inl (G.2 1, 7, .inl (upd (upd (upd (fun _ => 0) (0 : Int).toNat (iN (n))) (1 : Int).toNat (iN ((-10000)))) (2 : Int).toNat (iN (z_23)))))) := ⟨_, rfl⟩
        rw [← hM_25] at hw
        have hA_26 : M_24 q_2 = some (.inl (G.2 1, 7, .inl (upd (upd (upd (fun _ => 0) (0 : Int).toNat (iN (n))) (1 : Int).toNat (iN ((-10000)))) (2 : Int).toNat (iN (z_23))))) := by rw [hM_25, va_up_self]
        have hx_27 := xExt.upd hq_3 hx_19 hM_25
        have h_28 := hR.ext hx_27
        refine lv_dup hC.1 hC.2.1 dX5_ledgerTold_89 rfl ?_
        refine x_const hC dX5_ledgerTold_90 ?_
        refine lv_aload_n hC.1 hC.2.1 dX5_ledgerTold_91 rfl (lv_at hl 0 rfl) ?_
        refine x_get hC hw h_28.1.1 rfl hinX5 10 (by decide) (by decide +kernel) rfl dX5_ledgerTold_92 ?_
        have sc_29 := h_28.sc
        refine x_iast hC hw hA_26 (by omega) (by omega) (by omega) dX5_ledgerTold_95 (fun H locs hw => ?_)
        obtain ⟨M_30, hM_31⟩ : ∃ z, z = va_up M_24 q_2 (some (.inl (G.2 1, 7, .inl (upd (upd (upd (upd (fun _ => 0) (0 : Int).toNat (iN (n))) (1 : Int).toNat (iN ((-10000)))) (2 : Int).toNat (iN (z_23))) (3 : Int).toNat (iN (ha)))))) := ⟨_, rfl⟩
        rw [← hM_31] at hw
        have hA_32 : M_30 q_2 = some (.inl (G.2 1, 7, .inl (upd (upd (upd (upd (fun _ => 0) (0 : Int).toNat (iN (n))) (1 : Int).toNat (iN ((-10000)))) (2 : Int).toNat (iN (z_23))) (3 : Int).toNat (iN (ha))))) := by rw [hM_31, va_up_self]
        have hx_33 := xExt.upd hq_3 hx_27 hM_31
        have h_34 := hR.ext hx_33
        refine lv_dup hC.1 hC.2.1 dX5_ledgerTold_96 rfl ?_
        refine x_const hC dX5_ledgerTold_97 ?_
        refine lv_aload_n hC.1 hC.2.1 dX5_ledgerTold_98 rfl (lv_at hl 0 rfl) ?_
        refine x_getR hC hw h_34.1.1 rfl hinX5 11 (by decide) (by decide +kernel) rfl dX5_ledgerTold_99 ?_
        have hrr_35 := iN_rng kp
        refine x_iast hC hw hA_32 (by omega) (by omega) (by omega) dX5_ledgerTold_102 (fun H locs hw => ?_)
        obtain ⟨M_36, hM_37⟩ : ∃ z, z = va_up M_30 q_2 (some (.inl (G.2 1, 7, .inl (upd (upd (upd (upd (upd (fun _ => 0) (0 : Int).toNat (iN (n))) (1 : Int).toNat (iN ((-10000)))) (2 : Int).toNat (iN (z_23))) (3 : Int).toNat (iN (ha))) (4 : Int).toNat (iN (kp.toInt)))))) := ⟨_, rfl⟩
        rw [← hM_37] at hw
        have hA_38 : M_36 q_2 = some (.inl (G.2 1, 7, .inl (upd (upd (upd (upd (upd (fun _ => 0) (0 : Int).toNat (iN (n))) (1 : Int).toNat (iN ((-10000)))) (2 : Int).toNat (iN (z_23))) (3 : Int).toNat (iN (ha))) (4 : Int).toNat (iN (kp.toInt))))) := by rw [hM_37, va_up_self]
        have hx_39 := xExt.upd hq_3 hx_33 hM_37
        have h_40 := hR.ext hx_39
        refine lv_dup hC.1 hC.2.1 dX5_ledgerTold_103 rfl ?_
        refine x_const hC dX5_ledgerTold_104 ?_
        refine lv_aload_n hC.1 hC.2.1 dX5_ledgerTold_105 rfl (lv_at hl 0 rfl) ?_
        refine x_getR hC hw h_40.1.1 rfl hinX5 12 (by decide) (by decide +kernel) rfl dX5_ledgerTold_106 ?_
        have hrr_41 := iN_rng kv
        refine x_iast hC hw hA_38 (by omega) (by omega) (by omega) dX5_ledgerTold_109 (fun H locs hw => ?_)
        obtain ⟨M_42, hM_43⟩ : ∃ z, z = va_up M_36 q_2 (some (.inl (G.2 1, 7, .inl (upd (upd (upd (upd (upd (upd (fun _ => 0) (0 : Int).toNat (iN (n))) (1 : Int).toNat (iN ((-10000)))) (2 : Int).toNat (iN (z_23))) (3 : Int).toNat (iN (ha))) (4 : Int).toNat (iN (kp.toInt))) (5 : Int).toNat (iN (kv.toInt)))))) := ⟨_, rfl⟩
        rw [← hM_43] at hw
        have hA_44 : M_42 q_2 = some (.inl (G.2 1, 7, .inl (upd (upd (upd (upd (upd (upd (fun _ => 0) (0 : Int).toNat (iN (n))) (1 : Int).toNat (iN ((-10000)))) (2 : Int).toNat (iN (z_23))) (3 : Int).toNat (iN (ha))) (4 : Int).toNat (iN (kp.toInt))) (5 : Int).toNat (iN (kv.toInt))))) := by rw [hM_43, va_up_self]
        have hx_45 := xExt.upd hq_3 hx_39 hM_43
        have h_46 := hR.ext hx_45
        refine lv_dup hC.1 hC.2.1 dX5_ledgerTold_110 rfl ?_
        refine x_bipush hC dX5_ledgerTold_111 (by decide +kernel) ?_
        refine lv_aload_n hC.1 hC.2.1 dX5_ledgerTold_113 rfl (lv_at hl 0 rfl) ?_
        refine x_getR hC hw h_46.1.1 rfl hinX5 1 (by decide) (by decide +kernel) rfl dX5_ledgerTold_114 ?_
        have hrr_47 := iN_rng rfd
        refine x_iast hC hw hA_44 (by omega) (by omega) (by omega) dX5_ledgerTold_117 (fun H locs hw => ?_)
        obtain ⟨M_48, hM_49⟩ : ∃ z, z = va_up M_42 q_2 (some (.inl (G.2 1, 7, .inl (upd (upd (upd (upd (upd (upd (upd (fun _ => 0) (0 : Int).toNat (iN (n))) (1 : Int).toNat (iN ((-10000)))) (2 : Int).toNat (iN (z_23))) (3 : Int).toNat (iN (ha))) (4 : Int).toNat (iN (kp.toInt))) (5 : Int).toNat (iN (kv.toInt))) (6 : Int).toNat (iN (rfd.toInt)))))) := ⟨_, rfl⟩
        rw [← hM_49] at hw
        have hA_50 : M_48 q_2 = some (.inl (G.2 1, 7, .inl (upd (upd (upd (upd (upd (upd (upd (fun _ => 0) (0 : Int).toNat (iN (n))) (1 : Int).toNat (iN ((-10000)))) (2 : Int).toNat (iN (z_23))) (3 : Int).toNat (iN (ha))) (4 : Int).toNat (iN (kp.toInt))) (5 : Int).toNat (iN (kv.toInt))) (6 : Int).toNat (iN (rfd.toInt))))) := by rw [hM_49, va_up_self]
        have hx_51 := xExt.upd hq_3 hx_45 hM_49
        have h_52 := hR.ext hx_51
        refine lv_astore_n (lv' := [(3, .ref q_2), (0, .ref a), (1, .int (iN (p0))), (2, .int (iN (n))), (4, .int (iN (4))), (5, .int (iN (j)))]) hC.1 hC.2.1 dX5_ledgerTold_118 rfl hl (by decide) rfl (fun ls hl => ?_)
        refine lv_aload_n hC.1 hC.2.1 dX5_ledgerTold_119 rfl (lv_at hl 0 rfl) ?_
        refine lv_iload_n hC.1 hC.2.1 dX5_ledgerTold_120 rfl (lv_at hl 2 rfl) ?_
        refine x_iald hC hw hA_50 (by omega) (by omega) (by omega) dX5_ledgerTold_121 ?_
        obtain ⟨z_53, hz_53⟩ : ∃ z : Int, z = ((upd (upd (upd (upd (upd (upd (upd (fun _ => 0) (0 : Int).toNat (iN (n))) (1 : Int).toNat (iN ((-10000)))) (2 : Int).toNat (iN (z_23))) (3 : Int).toNat (iN (ha))) (4 : Int).toNat (iN (kp.toInt))) (5 : Int).toNat (iN (kv.toInt))) (6 : Int).toNat (iN (rfd.toInt))) (p0).toNat).toInt := ⟨_, rfl⟩
        rw [← hz_53]
        have hrz_53 : -2147483648 ≤ z_53 ∧ z_53 ≤ 2147483647 := by rw [hz_53]; exact iN_rng _
        exact x_iret hC hw dX5_ledgerTold_122 (by omega) (by omega) ⟨z_53, rfl, hx_51, by omega, (by have e7 : bkO none = -10000 := rfl; rcases (show p0 = 0 ∨ p0 = 1 ∨ p0 = 2 ∨ p0 = 3 ∨ p0 = 4 ∨ p0 = 5 ∨ p0 = 6 by omega) with rfl | rfl | rfl | rfl | rfl | rfl | rfl; (· have e8 : z_53 = (iN (n)).toInt := hz_53; rw [iN_toInt ⟨by omega, by omega⟩] at e8; omega); (· have e8 : z_53 = (iN ((-10000))).toInt := hz_53; rw [iN_toInt ⟨by omega, by omega⟩] at e8; omega); (· have e8 : z_53 = (iN (z_23)).toInt := hz_53; rw [iN_toInt ⟨by omega, by omega⟩] at e8; omega); (· have e8 : z_53 = (iN (ha)).toInt := hz_53; rw [iN_toInt ⟨by omega, by omega⟩] at e8; omega); (· have e8 : z_53 = (iN (kp.toInt)).toInt := hz_53; rw [iN_toInt ⟨by omega, by omega⟩] at e8; omega); (· have e8 : z_53 = (iN (kv.toInt)).toInt := hz_53; rw [iN_toInt ⟨by omega, by omega⟩] at e8; omega); (· have e8 : z_53 = (iN (rfd.toInt)).toInt := hz_53; rw [iN_toInt ⟨by omega, by omega⟩] at e8; omega))⟩
      · obtain ⟨ti_54, fi_54, hui_54, hIi_54⟩ := h_13.wk'.yes rfl
        obtain ⟨htat_55, htbt_55, htct_55, htdt_55, htet_55⟩ := id hIi_54.2.1
        subst hui_54
        show W p l e R s m args below meth c _ _ _ _ _ (F0 m 63 ls [.ref w_14, .int (iN (1)), .ref q_2, .ref q_2])
        refine lv_ifnonnull (tgt := 72) hC.1 hC.2.1 dX5_ledgerTold_63 (by decide) ?_
        refine lv_aload_n hC.1 hC.2.1 dX5_ledgerTold_72 rfl (lv_at hl 0 rfl) ?_
        refine x_get hC hw h_13.1.1 rfl hinX5 6 (by decide) (by decide +kernel) rfl dX5_ledgerTold_73 ?_
        show W p l e R s m args below meth c _ _ _ _ _ (F0 m 76 ls [.ref w_14, .int (iN (1)), .ref q_2, .ref q_2])
        refine x_const hC dX5_ledgerTold_76 ?_
        refine x_ialdE (x := ((ti_54.b : Nat) : Int)) hC hw hIi_54.1 (by omega) (by omega) (by omega) dX5_ledgerTold_77 hIi_54.2.2.1 ?_
        refine x_iast hC hw hA_11 (by omega) (by omega) (by omega) dX5_ledgerTold_78 (fun H locs hw => ?_)
        obtain ⟨M_56, hM_57⟩ : ∃ z, z = va_up M_9 q_2 (some (.inl (G.2 1, 7, .inl (upd (upd (fun _ => 0) (0 : Int).toNat (iN (n))) (1 : Int).toNat (iN (((ti_54.b : Nat) : Int))))))) := ⟨_, rfl⟩
        rw [← hM_57] at hw
        have hA_58 : M_56 q_2 = some (.inl (G.2 1, 7, .inl (upd (upd (fun _ => 0) (0 : Int).toNat (iN (n))) (1 : Int).toNat (iN (((ti_54.b : Nat) : Int)))))) := by rw [hM_57, va_up_self]
        have hx_59 := xExt.upd hq_3 hx_12 hM_57
        have h_60 := hR.ext hx_59
        refine lv_dup hC.1 hC.2.1 dX5_ledgerTold_79 rfl ?_
        refine x_const hC dX5_ledgerTold_80 ?_
        refine lv_aload_n hC.1 hC.2.1 dX5_ledgerTold_81 rfl (lv_at hl 0 rfl) ?_
        refine x_get hC hw h_60.1.1 rfl hinX5 7 (by decide) (by decide +kernel) rfl dX5_ledgerTold_82 ?_
        have sc_61 := h_60.sc
        refine x_callS hC hw (lv_size hl) (c_X5_one l G (M := M_56) (p0 := br) (by omega)) gX5_ledgerTold_X5_one rfl dv_X5_one_s rfl (Nat.le_of_ble_eq_true rfl) (by rw [hRf]; decide) (by rw [hRl]; decide) (by omega) (by omega) dX5_ledgerTold_85 (fun r9 M_62 H locs hq hw => ?_)
        obtain ⟨z_63, rfl, hM9, hz_63a, hz_63b⟩ := hq
        rw [hM9] at hw
        show W p l e R s m args below meth c H locs _ _ _ (F0 m 88 ls [.int (iN (z_63)), .int (iN (2)), .ref q_2, .ref q_2])
        refine x_iast hC hw hA_58 (by omega) (by omega) (by omega) dX5_ledgerTold_88 (fun H locs hw => ?_)
        obtain ⟨M_64, hM_65⟩ : ∃ z, z = va_up M_56 q_2 (some (.inl (G.2 1, 7, .inl (upd (upd (upd (fun _ => 0) (0 : Int).toNat (iN (n))) (1 : Int).toNat (iN (((ti_54.b : Nat) : Int)))) (2 : Int).toNat (iN (z_63)))))) := ⟨_, rfl⟩
        rw [← hM_65] at hw
        have hA_66 : M_64 q_2 = some (.inl (G.2 1, 7, .inl (upd (upd (upd (fun _ => 0) (0 : Int).toNat (iN (n))) (1 : Int).toNat (iN (((ti_54.b : Nat) : Int)))) (2 : Int).toNat (iN (z_63))))) := by rw [hM_65, va_up_self]
        have hx_67 := xExt.upd hq_3 hx_59 hM_65
        have h_68 := hR.ext hx_67
        refine lv_dup hC.1 hC.2.1 dX5_ledgerTold_89 rfl ?_
        refine x_const hC dX5_ledgerTold_90 ?_
        refine lv_aload_n hC.1 hC.2.1 dX5_ledgerTold_91 rfl (lv_at hl 0 rfl) ?_
        refine x_get hC hw h_68.1.1 rfl hinX5 10 (by decide) (by decide +kernel) rfl dX5_ledgerTold_92 ?_
        have sc_69 := h_68.sc
        refine x_iast hC hw hA_66 (by omega) (by omega) (by omega) dX5_ledgerTold_95 (fun H locs hw => ?_)
        obtain ⟨M_70, hM_71⟩ : ∃ z, z = va_up M_64 q_2 (some (.inl (G.2 1, 7, .inl (upd (upd (upd (upd (fun _ => 0) (0 : Int).toNat (iN (n))) (1 : Int).toNat (iN (((ti_54.b : Nat) : Int)))) (2 : Int).toNat (iN (z_63))) (3 : Int).toNat (iN (ha)))))) := ⟨_, rfl⟩
        rw [← hM_71] at hw
        have hA_72 : M_70 q_2 = some (.inl (G.2 1, 7, .inl (upd (upd (upd (upd (fun _ => 0) (0 : Int).toNat (iN (n))) (1 : Int).toNat (iN (((ti_54.b : Nat) : Int)))) (2 : Int).toNat (iN (z_63))) (3 : Int).toNat (iN (ha))))) := by rw [hM_71, va_up_self]
        have hx_73 := xExt.upd hq_3 hx_67 hM_71
        have h_74 := hR.ext hx_73
        refine lv_dup hC.1 hC.2.1 dX5_ledgerTold_96 rfl ?_
        refine x_const hC dX5_ledgerTold_97 ?_
        refine lv_aload_n hC.1 hC.2.1 dX5_ledgerTold_98 rfl (lv_at hl 0 rfl) ?_
        refine x_getR hC hw h_74.1.1 rfl hinX5 11 (by decide) (by decide +kernel) rfl dX5_ledgerTold_99 ?_
        have hrr_75 := iN_rng kp
        refine x_iast hC hw hA_72 (by omega) (by omega) (by omega) dX5_ledgerTold_102 (fun H locs hw => ?_)
        obtain ⟨M_76, hM_77⟩ : ∃ z, z = va_up M_70 q_2 (some (.inl (G.2 1, 7, .inl (upd (upd (upd (upd (upd (fun _ => 0) (0 : Int).toNat (iN (n))) (1 : Int).toNat (iN (((ti_54.b : Nat) : Int)))) (2 : Int).toNat (iN (z_63))) (3 : Int).toNat (iN (ha))) (4 : Int).toNat (iN (kp.toInt)))))) := ⟨_, rfl⟩
        rw [← hM_77] at hw
        have hA_78 : M_76 q_2 = some (.inl (G.2 1, 7, .inl (upd (upd (upd (upd (upd (fun _ => 0) (0 : Int).toNat (iN (n))) (1 : Int).toNat (iN (((ti_54.b : Nat) : Int)))) (2 : Int).toNat (iN (z_63))) (3 : Int).toNat (iN (ha))) (4 : Int).toNat (iN (kp.toInt))))) := by rw [hM_77, va_up_self]
        have hx_79 := xExt.upd hq_3 hx_73 hM_77
        have h_80 := hR.ext hx_79
        refine lv_dup hC.1 hC.2.1 dX5_ledgerTold_103 rfl ?_
        refine x_const hC dX5_ledgerTold_104 ?_
        refine lv_aload_n hC.1 hC.2.1 dX5_ledgerTold_105 rfl (lv_at hl 0 rfl) ?_
        refine x_getR hC hw h_80.1.1 rfl hinX5 12 (by decide) (by decide +kernel) rfl dX5_ledgerTold_106 ?_
        have hrr_81 := iN_rng kv
        refine x_iast hC hw hA_78 (by omega) (by omega) (by omega) dX5_ledgerTold_109 (fun H locs hw => ?_)
        obtain ⟨M_82, hM_83⟩ : ∃ z, z = va_up M_76 q_2 (some (.inl (G.2 1, 7, .inl (upd (upd (upd (upd (upd (upd (fun _ => 0) (0 : Int).toNat (iN (n))) (1 : Int).toNat (iN (((ti_54.b : Nat) : Int)))) (2 : Int).toNat (iN (z_63))) (3 : Int).toNat (iN (ha))) (4 : Int).toNat (iN (kp.toInt))) (5 : Int).toNat (iN (kv.toInt)))))) := ⟨_, rfl⟩
        rw [← hM_83] at hw
        have hA_84 : M_82 q_2 = some (.inl (G.2 1, 7, .inl (upd (upd (upd (upd (upd (upd (fun _ => 0) (0 : Int).toNat (iN (n))) (1 : Int).toNat (iN (((ti_54.b : Nat) : Int)))) (2 : Int).toNat (iN (z_63))) (3 : Int).toNat (iN (ha))) (4 : Int).toNat (iN (kp.toInt))) (5 : Int).toNat (iN (kv.toInt))))) := by rw [hM_83, va_up_self]
        have hx_85 := xExt.upd hq_3 hx_79 hM_83
        have h_86 := hR.ext hx_85
        refine lv_dup hC.1 hC.2.1 dX5_ledgerTold_110 rfl ?_
        refine x_bipush hC dX5_ledgerTold_111 (by decide +kernel) ?_
        refine lv_aload_n hC.1 hC.2.1 dX5_ledgerTold_113 rfl (lv_at hl 0 rfl) ?_
        refine x_getR hC hw h_86.1.1 rfl hinX5 1 (by decide) (by decide +kernel) rfl dX5_ledgerTold_114 ?_
        have hrr_87 := iN_rng rfd
        refine x_iast hC hw hA_84 (by omega) (by omega) (by omega) dX5_ledgerTold_117 (fun H locs hw => ?_)
        obtain ⟨M_88, hM_89⟩ : ∃ z, z = va_up M_82 q_2 (some (.inl (G.2 1, 7, .inl (upd (upd (upd (upd (upd (upd (upd (fun _ => 0) (0 : Int).toNat (iN (n))) (1 : Int).toNat (iN (((ti_54.b : Nat) : Int)))) (2 : Int).toNat (iN (z_63))) (3 : Int).toNat (iN (ha))) (4 : Int).toNat (iN (kp.toInt))) (5 : Int).toNat (iN (kv.toInt))) (6 : Int).toNat (iN (rfd.toInt)))))) := ⟨_, rfl⟩
        rw [← hM_89] at hw
        have hA_90 : M_88 q_2 = some (.inl (G.2 1, 7, .inl (upd (upd (upd (upd (upd (upd (upd (fun _ => 0) (0 : Int).toNat (iN (n))) (1 : Int).toNat (iN (((ti_54.b : Nat) : Int)))) (2 : Int).toNat (iN (z_63))) (3 : Int).toNat (iN (ha))) (4 : Int).toNat (iN (kp.toInt))) (5 : Int).toNat (iN (kv.toInt))) (6 : Int).toNat (iN (rfd.toInt))))) := by rw [hM_89, va_up_self]
        have hx_91 := xExt.upd hq_3 hx_85 hM_89
        have h_92 := hR.ext hx_91
        refine lv_astore_n (lv' := [(3, .ref q_2), (0, .ref a), (1, .int (iN (p0))), (2, .int (iN (n))), (4, .int (iN (4))), (5, .int (iN (j)))]) hC.1 hC.2.1 dX5_ledgerTold_118 rfl hl (by decide) rfl (fun ls hl => ?_)
        refine lv_aload_n hC.1 hC.2.1 dX5_ledgerTold_119 rfl (lv_at hl 0 rfl) ?_
        refine lv_iload_n hC.1 hC.2.1 dX5_ledgerTold_120 rfl (lv_at hl 2 rfl) ?_
        refine x_iald hC hw hA_90 (by omega) (by omega) (by omega) dX5_ledgerTold_121 ?_
        obtain ⟨z_93, hz_93⟩ : ∃ z : Int, z = ((upd (upd (upd (upd (upd (upd (upd (fun _ => 0) (0 : Int).toNat (iN (n))) (1 : Int).toNat (iN (((ti_54.b : Nat) : Int)))) (2 : Int).toNat (iN (z_63))) (3 : Int).toNat (iN (ha))) (4 : Int).toNat (iN (kp.toInt))) (5 : Int).toNat (iN (kv.toInt))) (6 : Int).toNat (iN (rfd.toInt))) (p0).toNat).toInt := ⟨_, rfl⟩
        rw [← hz_93]
        have hrz_93 : -2147483648 ≤ z_93 ∧ z_93 ≤ 2147483647 := by rw [hz_93]; exact iN_rng _
        exact x_iret hC hw dX5_ledgerTold_122 (by omega) (by omega) ⟨z_93, rfl, hx_91, by omega, (by have e7 : bkO (some ti_54) = ((ti_54.b : Nat) : Int) := rfl; rcases (show p0 = 0 ∨ p0 = 1 ∨ p0 = 2 ∨ p0 = 3 ∨ p0 = 4 ∨ p0 = 5 ∨ p0 = 6 by omega) with rfl | rfl | rfl | rfl | rfl | rfl | rfl; (· have e8 : z_93 = (iN (n)).toInt := hz_93; rw [iN_toInt ⟨by omega, by omega⟩] at e8; omega); (· have e8 : z_93 = (iN (((ti_54.b : Nat) : Int))).toInt := hz_93; rw [iN_toInt ⟨by omega, by omega⟩] at e8; omega); (· have e8 : z_93 = (iN (z_63)).toInt := hz_93; rw [iN_toInt ⟨by omega, by omega⟩] at e8; omega); (· have e8 : z_93 = (iN (ha)).toInt := hz_93; rw [iN_toInt ⟨by omega, by omega⟩] at e8; omega); (· have e8 : z_93 = (iN (kp.toInt)).toInt := hz_93; rw [iN_toInt ⟨by omega, by omega⟩] at e8; omega); (· have e8 : z_93 = (iN (kv.toInt)).toInt := hz_93; rw [iN_toInt ⟨by omega, by omega⟩] at e8; omega); (· have e8 : z_93 = (iN (rfd.toInt)).toInt := hz_93; rw [iN_toInt ⟨by omega, by omega⟩] at e8; omega))⟩
    · refine lv_aload_n hC.1 hC.2.1 dX5_ledgerTold_21 rfl (lv_at hl 3 rfl) ?_
      refine lv_iload hC.1 hC.2.1 dX5_ledgerTold_22 (lv_at hl 5 rfl) ?_
      refine x_ald4 hC hw hR.1.2.2.2.2.1 (by omega) (by omega) (by omega) dX5_ledgerTold_24 ?_
      rcases hy_95 : fy ((j).toNat) with _ | y_94
      · have hnhy_95 : Wv ((j).toNat) = none := (hR.vw (show (j).toNat < 4 by omega)).nil hy_95
        have hohy_95 := opN_none hnhy_95
        show W p l e R s m args below meth c _ _ _ _ _ (F0 m 25 ls [.null])
        refine lv_astoreN (lv' := [(6, .null), (0, .ref a), (1, .int (iN (p0))), (2, .int (iN (n))), (3, .ref ya), (4, .int (iN (4))), (5, .int (iN (j)))]) hC.1 hC.2.1 dX5_ledgerTold_25 hl (by decide) rfl (fun ls hl => ?_)
        refine lv_iload_n hC.1 hC.2.1 dX5_ledgerTold_27 rfl (lv_at hl 3 rfl) ?_
        refine lv_aloadN hC.1 hC.2.1 dX5_ledgerTold_28 (lv_at hl 0 rfl) ?_
        refine lv_ifnullN (tgt := 37) hC.1 hC.2.1 dX5_ledgerTold_30 (by decide) ?_
        refine x_const hC dX5_ledgerTold_37 ?_
        refine x_callS hC hw (lv_size hl) (c_X5_one l G (M := M) (p0 := 0) (by omega)) gX5_ledgerTold_X5_one rfl dv_X5_one_s rfl (Nat.le_of_ble_eq_true rfl) (by rw [hRf]; decide) (by rw [hRl]; decide) (by omega) (by omega) dX5_ledgerTold_38 (fun r9 M_96 H locs hq hw => ?_)
        obtain ⟨z_97, rfl, hM9, hz_97a, hz_97b⟩ := hq
        rw [hM9] at hw
        show W p l e R s m args below meth c H locs _ _ _ (F0 m 41 ls [.int (iN (z_97)), .int (iN (n))])
        refine x_iadd hC dX5_ledgerTold_41 ?_
        refine lv_istore_n (lv' := [(2, .int (iN (n + z_97))), (6, .null), (0, .ref a), (1, .int (iN (p0))), (3, .ref ya), (4, .int (iN (4))), (5, .int (iN (j)))]) hC.1 hC.2.1 dX5_ledgerTold_42 rfl hl (by decide) rfl (fun ls hl => ?_)
        refine x_iinc (lv' := [(5, .int (iN (j + 1))), (2, .int (iN (n + z_97))), (6, .null), (0, .ref a), (1, .int (iN (p0))), (3, .ref ya), (4, .int (iN (4)))]) hC dX5_ledgerTold_43 hl (k := 6) rfl (by decide) rfl (fun ls hl => ?_)
        refine lv_goto (tgt := 14) hC.1 hC.2.1 dX5_ledgerTold_46 (by decide) ?_
        exact ih14 (n + z_97) (j + 1)  _ _ _ (by omega) (by omega) (by omega) (by rw [opC_s (by omega) (by rw [opN_none hnhy_95]; rfl)]; omega) hw (lv_sub hl [3, 4, 1, 5, 6, 0] rfl)
      · obtain ⟨ti_98, fi_98, hui_98, hIi_98⟩ := (hR.vw (show (j).toNat < 4 by omega)).yes hy_95
        obtain ⟨htat_99, htbt_99, htct_99, htdt_99, htet_99⟩ := id hIi_98.2.1
        have hohy_95 := opN_some hui_98
        show W p l e R s m args below meth c _ _ _ _ _ (F0 m 25 ls [.ref y_94])
        refine lv_astore (lv' := [(6, .ref y_94), (0, .ref a), (1, .int (iN (p0))), (2, .int (iN (n))), (3, .ref ya), (4, .int (iN (4))), (5, .int (iN (j)))]) hC.1 hC.2.1 dX5_ledgerTold_25 hl (by decide) rfl (fun ls hl => ?_)
        refine lv_iload_n hC.1 hC.2.1 dX5_ledgerTold_27 rfl (lv_at hl 3 rfl) ?_
        refine lv_aload hC.1 hC.2.1 dX5_ledgerTold_28 (lv_at hl 0 rfl) ?_
        refine lv_ifnull hC.1 hC.2.1 dX5_ledgerTold_30 ?_
        refine x_const hC dX5_ledgerTold_33 ?_
        refine lv_goto (tgt := 38) hC.1 hC.2.1 dX5_ledgerTold_34 (by decide) ?_
        refine x_callS hC hw (lv_size hl) (c_X5_one l G (M := M) (p0 := 1) (by omega)) gX5_ledgerTold_X5_one rfl dv_X5_one_s rfl (Nat.le_of_ble_eq_true rfl) (by rw [hRf]; decide) (by rw [hRl]; decide) (by omega) (by omega) dX5_ledgerTold_38 (fun r9 M_100 H locs hq hw => ?_)
        obtain ⟨z_101, rfl, hM9, hz_101a, hz_101b⟩ := hq
        rw [hM9] at hw
        show W p l e R s m args below meth c H locs _ _ _ (F0 m 41 ls [.int (iN (z_101)), .int (iN (n))])
        refine x_iadd hC dX5_ledgerTold_41 ?_
        refine lv_istore_n (lv' := [(2, .int (iN (n + z_101))), (6, .ref y_94), (0, .ref a), (1, .int (iN (p0))), (3, .ref ya), (4, .int (iN (4))), (5, .int (iN (j)))]) hC.1 hC.2.1 dX5_ledgerTold_42 rfl hl (by decide) rfl (fun ls hl => ?_)
        refine x_iinc (lv' := [(5, .int (iN (j + 1))), (2, .int (iN (n + z_101))), (6, .ref y_94), (0, .ref a), (1, .int (iN (p0))), (3, .ref ya), (4, .int (iN (4)))]) hC dX5_ledgerTold_43 hl (k := 6) rfl (by decide) rfl (fun ls hl => ?_)
        refine lv_goto (tgt := 14) hC.1 hC.2.1 dX5_ledgerTold_46 (by decide) ?_
        exact ih14 (n + z_101) (j + 1)  _ _ _ (by omega) (by omega) (by omega) (by rw [opC_s (by omega) (by rw [opN_some hui_98]; rfl)]; omega) hw (lv_sub hl [3, 4, 1, 5, 6, 0] rfl)
set_option maxHeartbeats 4000000 in
set_option maxRecDepth 100000 in
theorem c_X5_ledger (l : Launch) (G : xG) {M : HM} {a va oa wa ya : Nat} {wk : Option Nat} {th : Int} {rfd : Int32} {br re la ha : Int} {kp kv : Int32} {qv qw : Nat → Nat} {fa fb : Nat → Option Nat} {V : BW} {O : OW} {fy : Nat → Option Nat} {Wv : VW} {wt : Option VT} {S : Nat → Bool} (hR : MGx G M a va oa wa ya wk th rfd br re la ha kp kv qv qw fa fb V O fy Wv wt S) {K : WA} (hK : abM O wt br re la ha K) {p0 : Int} (hp0 : -2147483648 ≤ p0 ∧ p0 ≤ 2147483647) : xMet l G yX5_ledger wsX5_ledger 2 46 1 7 [.ref a, .int (iN (p0))] M (fun r M1 => ∃ (z th1 : Int), r = some (.int (iN z)) ∧ (-2147483648 ≤ z ∧ z ≤ 2147483647) ∧ ((th1 = 0 ∧ ((0 ≤ p0 ∧ p0 ≤ 6)) ∧ z = A_ledger (O, V, Wv, K, kp, kv, rfd) p0 ∧ MGm G M1 a S th1 (O, V, Wv, K, kp, kv, rfd)) ∨ (th1 ≠ 0 ∧ ((th1 = 1 ∧ ¬ (0 ≤ p0 ∧ p0 ≤ 6))) ∧ MGm G M1 a S th1 (O, V, Wv, K, kp, kv, rfd)))) := by
  refine x_intro (cc := cX5_ledger) (maxL := 2) (ret := (some .int)) (by decide +kernel) rfl (Nat.le_of_ble_eq_true rfl) ?_
  intro p e R s m args below meth c ls hRf hRc hRs hRl hC hw hl
  have hsc0 := hR.sc
  have hl : lv_has ls 2 [(0, .ref a), (1, .int (iN (p0)))] := hl
  refine lv_aload_n hC.1 hC.2.1 dX5_ledger_0 rfl (lv_at hl 0 rfl) ?_
  refine lv_iload_n hC.1 hC.2.1 dX5_ledger_1 rfl (lv_at hl 1 rfl) ?_
  refine x_const hC dX5_ledger_2 ?_
  refine x_bipush hC dX5_ledger_3 (by decide +kernel) ?_
  refine x_callS hC hw (lv_size hl) (c_X5_isIn l G (M := M) (p0 := p0) (by omega) (p1 := 0) (by omega) (p2 := 6) (by omega)) gX5_ledger_X5_isIn rfl dv_X5_isIn_s rfl (Nat.le_of_ble_eq_true rfl) (by rw [hRf]; decide) (by rw [hRl]; decide) (by omega) (by omega) dX5_ledger_5 (fun r9 M_1 H locs hq hw => ?_)
  obtain ⟨z_2, rfl, hM9, hz_2a, hz_2b, hz_2c⟩ := hq
  rw [hM9] at hw
  show W p l e R s m args below meth c H locs _ _ _ (F0 m 8 ls [.int (iN (z_2)), .ref a])
  refine x_if_ne (tgt := 15) hC ⟨by omega, by omega⟩ dX5_ledger_8 (by decide) (fun c_3 => ?_) (fun c_3 => ?_)
  · refine x_const hC dX5_ledger_15 ?_
    refine x_const hC dX5_ledger_16 ?_
    refine x_callV hC hw (lv_size hl) (c_X5_start l G hR (p0 := 0) (by omega) (p1 := 1) (by omega) (by omega)) gX5_ledger_X5_start rfl dv_X5_start hR.1.1 rfl rfl (Nat.le_of_ble_eq_true rfl) (by rw [hRf]; decide) (by rw [hRl]; decide) (by omega) (by omega) dX5_ledger_17 (fun r9 M_4 H locs hq hw => ?_)
    obtain ⟨z_6, thk_5, rfl, hz_6a, hz_6b, hz_6c0, hz_6c1, hx5k_5, hRk_5⟩ := hq
    have hsck_5 := hRk_5.sc
    show W p l e R s m args below meth c H locs _ _ _ (F0 m 20 ls [.int (iN (z_6))])
    refine x_if_eq (tgt := 27) hC ⟨by omega, by omega⟩ dX5_ledger_20 (by decide) (fun c_7 => ?_) (fun c_7 => ?_)
    · refine lv_aload_n hC.1 hC.2.1 dX5_ledger_27 rfl (lv_at hl 0 rfl) ?_
      refine lv_iload_n hC.1 hC.2.1 dX5_ledger_28 rfl (lv_at hl 1 rfl) ?_
      refine x_callV hC hw (lv_size hl) (c_X5_ledgerTold l G hRk_5 (p0 := p0) (by omega) (by omega)) gX5_ledger_X5_ledgerTold rfl dv_X5_ledgerTold hRk_5.1.1 rfl rfl (Nat.le_of_ble_eq_true rfl) (by rw [hRf]; decide) (by rw [hRl]; decide) (by omega) (by omega) dX5_ledger_29 (fun r9 M_8 H locs hq hw => ?_)
      obtain ⟨z_9, rfl, hxz_9, hz_9a, hz_9l⟩ := hq
      have h_10 := hRk_5.ext hxz_9
      show W p l e R s m args below meth c H locs _ _ _ (F0 m 32 ls [.int (iN (z_9))])
      exact x_iret hC hw dX5_ledger_32 (by omega) (by omega) ⟨z_9, _, rfl, by omega, Or.inl ⟨by omega, by first | trivial | omega, (led_A hK (by omega) hz_9l), MGm.of h_10 hK⟩⟩
    · refine x_const hC dX5_ledger_23 ?_
      refine lv_goto (tgt := 32) hC.1 hC.2.1 dX5_ledger_24 (by decide) ?_
      exact x_iret hC hw dX5_ledger_32 (by omega) (by omega) ⟨0, _, rfl, by omega, Or.inr ⟨by omega, by omega, MGm.of hRk_5 hK⟩⟩
  · refine x_const hC dX5_ledger_11 ?_
    refine lv_goto (tgt := 16) hC.1 hC.2.1 dX5_ledger_12 (by decide) ?_
    refine x_const hC dX5_ledger_16 ?_
    refine x_callV hC hw (lv_size hl) (c_X5_start l G hR (p0 := 1) (by omega) (p1 := 1) (by omega) (by omega)) gX5_ledger_X5_start rfl dv_X5_start hR.1.1 rfl rfl (Nat.le_of_ble_eq_true rfl) (by rw [hRf]; decide) (by rw [hRl]; decide) (by omega) (by omega) dX5_ledger_17 (fun r9 M_11 H locs hq hw => ?_)
    obtain ⟨z_13, thk_12, rfl, hz_13a, hz_13b, hz_13c0, hz_13c1, hx5k_12, hRk_12⟩ := hq
    have hsck_12 := hRk_12.sc
    show W p l e R s m args below meth c H locs _ _ _ (F0 m 20 ls [.int (iN (z_13))])
    refine x_if_eq (tgt := 27) hC ⟨by omega, by omega⟩ dX5_ledger_20 (by decide) (fun c_14 => ?_) (fun c_14 => ?_)
    · refine lv_aload_n hC.1 hC.2.1 dX5_ledger_27 rfl (lv_at hl 0 rfl) ?_
      refine lv_iload_n hC.1 hC.2.1 dX5_ledger_28 rfl (lv_at hl 1 rfl) ?_
      refine x_callV hC hw (lv_size hl) (c_X5_ledgerTold l G hRk_12 (p0 := p0) (by omega) (by omega)) gX5_ledger_X5_ledgerTold rfl dv_X5_ledgerTold hRk_12.1.1 rfl rfl (Nat.le_of_ble_eq_true rfl) (by rw [hRf]; decide) (by rw [hRl]; decide) (by omega) (by omega) dX5_ledger_29 (fun r9 M_15 H locs hq hw => ?_)
      obtain ⟨z_16, rfl, hxz_16, hz_16a, hz_16l⟩ := hq
      have h_17 := hRk_12.ext hxz_16
      show W p l e R s m args below meth c H locs _ _ _ (F0 m 32 ls [.int (iN (z_16))])
      exact x_iret hC hw dX5_ledger_32 (by omega) (by omega) ⟨z_16, _, rfl, by omega, Or.inl ⟨by omega, by first | trivial | omega, (led_A hK (by omega) hz_16l), MGm.of h_17 hK⟩⟩
    · refine x_const hC dX5_ledger_23 ?_
      refine lv_goto (tgt := 32) hC.1 hC.2.1 dX5_ledger_24 (by decide) ?_
      exact x_iret hC hw dX5_ledger_32 (by omega) (by omega) ⟨0, _, rfl, by omega, Or.inr ⟨by omega, by omega, MGm.of hRk_12 hK⟩⟩
