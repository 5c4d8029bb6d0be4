/-! the methods of the model -/
theorem dv_X5_isIn_s : yX5_isIn.cls ≠ "java/lang/invoke/MethodHandle" ∧ yX5_isIn.cls ≠ "java/lang/invoke/VarHandle" ∧ (parseMethodDescriptor yX5_isIn.desc).map (fun d => d.parameters.length) = some 3 := by decide +kernel
theorem dv_X5_refuse : yX5_refuse.cls = RX5 ∧ yX5_refuse.cls ≠ "java/lang/invoke/MethodHandle" ∧ yX5_refuse.cls ≠ "java/lang/invoke/VarHandle" ∧ (parseMethodDescriptor yX5_refuse.desc).map (fun d => d.parameters.length) = some 2 := by decide +kernel
theorem dv_X5_isNoBook_s : yX5_isNoBook.cls ≠ "java/lang/invoke/MethodHandle" ∧ yX5_isNoBook.cls ≠ "java/lang/invoke/VarHandle" ∧ (parseMethodDescriptor yX5_isNoBook.desc).map (fun d => d.parameters.length) = some 1 := by decide +kernel
theorem dv_X5_start : yX5_start.cls = RX5 ∧ yX5_start.cls ≠ "java/lang/invoke/MethodHandle" ∧ yX5_start.cls ≠ "java/lang/invoke/VarHandle" ∧ (parseMethodDescriptor yX5_start.desc).map (fun d => d.parameters.length) = some 2 := by decide +kernel
theorem dv_X5_isNoKey_s : yX5_isNoKey.cls ≠ "java/lang/invoke/MethodHandle" ∧ yX5_isNoKey.cls ≠ "java/lang/invoke/VarHandle" ∧ (parseMethodDescriptor yX5_isNoKey.desc).map (fun d => d.parameters.length) = some 1 := by decide +kernel
theorem dv_X5_isNoValue_s : yX5_isNoValue.cls ≠ "java/lang/invoke/MethodHandle" ∧ yX5_isNoValue.cls ≠ "java/lang/invoke/VarHandle" ∧ (parseMethodDescriptor yX5_isNoValue.desc).map (fun d => d.parameters.length) = some 1 := by decide +kernel
theorem dv_X5_weight : yX5_weight.cls = RX5 ∧ yX5_weight.cls ≠ "java/lang/invoke/MethodHandle" ∧ yX5_weight.cls ≠ "java/lang/invoke/VarHandle" ∧ (parseMethodDescriptor yX5_weight.desc).map (fun d => d.parameters.length) = some 2 := by decide +kernel
theorem dv_X5_isWithin : yX5_isWithin.cls = RX5 ∧ yX5_isWithin.cls ≠ "java/lang/invoke/MethodHandle" ∧ yX5_isWithin.cls ≠ "java/lang/invoke/VarHandle" ∧ (parseMethodDescriptor yX5_isWithin.desc).map (fun d => d.parameters.length) = some 2 := by decide +kernel
theorem dv_X5_shows : yX5_shows.cls = RX5 ∧ yX5_shows.cls ≠ "java/lang/invoke/MethodHandle" ∧ yX5_shows.cls ≠ "java/lang/invoke/VarHandle" ∧ (parseMethodDescriptor yX5_shows.desc).map (fun d => d.parameters.length) = some 2 := by decide +kernel
theorem dv_X5_closest : yX5_closest.cls = RX5 ∧ yX5_closest.cls ≠ "java/lang/invoke/MethodHandle" ∧ yX5_closest.cls ≠ "java/lang/invoke/VarHandle" ∧ (parseMethodDescriptor yX5_closest.desc).map (fun d => d.parameters.length) = some 3 := by decide +kernel
theorem dv_X5_one_s : yX5_one.cls ≠ "java/lang/invoke/MethodHandle" ∧ yX5_one.cls ≠ "java/lang/invoke/VarHandle" ∧ (parseMethodDescriptor yX5_one.desc).map (fun d => d.parameters.length) = some 1 := by decide +kernel
theorem dv_X5_whole_s : yX5_whole.cls ≠ "java/lang/invoke/MethodHandle" ∧ yX5_whole.cls ≠ "java/lang/invoke/VarHandle" ∧ (parseMethodDescriptor yX5_whole.desc).map (fun d => d.parameters.length) = some 1 := by decide +kernel
theorem dv_X5_set : yX5_set.cls = RX5 ∧ yX5_set.cls ≠ "java/lang/invoke/MethodHandle" ∧ yX5_set.cls ≠ "java/lang/invoke/VarHandle" ∧ (parseMethodDescriptor yX5_set.desc).map (fun d => d.parameters.length) = some 3 := by decide +kernel
theorem dv_X5_held_s : yX5_held.cls ≠ "java/lang/invoke/MethodHandle" ∧ yX5_held.cls ≠ "java/lang/invoke/VarHandle" ∧ (parseMethodDescriptor yX5_held.desc).map (fun d => d.parameters.length) = some 1 := by decide +kernel
theorem dv_X5_isBad_ : yX5_isBad_.cls = RX5 ∧ yX5_isBad_.cls ≠ "java/lang/invoke/MethodHandle" ∧ yX5_isBad_.cls ≠ "java/lang/invoke/VarHandle" ∧ (parseMethodDescriptor yX5_isBad_.desc).map (fun d => d.parameters.length) = some 3 := by decide +kernel
theorem dv_X5_touch : yX5_touch.cls = RX5 ∧ yX5_touch.cls ≠ "java/lang/invoke/MethodHandle" ∧ yX5_touch.cls ≠ "java/lang/invoke/VarHandle" ∧ (parseMethodDescriptor yX5_touch.desc).map (fun d => d.parameters.length) = some 1 := by decide +kernel
theorem dv_X5_isBad : yX5_isBad.cls = RX5 ∧ yX5_isBad.cls ≠ "java/lang/invoke/MethodHandle" ∧ yX5_isBad.cls ≠ "java/lang/invoke/VarHandle" ∧ (parseMethodDescriptor yX5_isBad.desc).map (fun d => d.parameters.length) = some 2 := by decide +kernel
theorem dv_X5_mergeOf : yX5_mergeOf.cls = RX5 ∧ yX5_mergeOf.cls ≠ "java/lang/invoke/MethodHandle" ∧ yX5_mergeOf.cls ≠ "java/lang/invoke/VarHandle" ∧ (parseMethodDescriptor yX5_mergeOf.desc).map (fun d => d.parameters.length) = some 3 := by decide +kernel
theorem dv_X5_end : yX5_end.cls = RX5 ∧ yX5_end.cls ≠ "java/lang/invoke/MethodHandle" ∧ yX5_end.cls ≠ "java/lang/invoke/VarHandle" ∧ (parseMethodDescriptor yX5_end.desc).map (fun d => d.parameters.length) = some 2 := by decide +kernel
theorem dv_X5_having : yX5_having.cls = RX5 ∧ yX5_having.cls ≠ "java/lang/invoke/MethodHandle" ∧ yX5_having.cls ≠ "java/lang/invoke/VarHandle" ∧ (parseMethodDescriptor yX5_having.desc).map (fun d => d.parameters.length) = some 2 := by decide +kernel
theorem dv_X5_strikeAll : yX5_strikeAll.cls = RX5 ∧ yX5_strikeAll.cls ≠ "java/lang/invoke/MethodHandle" ∧ yX5_strikeAll.cls ≠ "java/lang/invoke/VarHandle" ∧ (parseMethodDescriptor yX5_strikeAll.desc).map (fun d => d.parameters.length) = some 1 := by decide +kernel
theorem dv_X5_areBad : yX5_areBad.cls = RX5 ∧ yX5_areBad.cls ≠ "java/lang/invoke/MethodHandle" ∧ yX5_areBad.cls ≠ "java/lang/invoke/VarHandle" ∧ (parseMethodDescriptor yX5_areBad.desc).map (fun d => d.parameters.length) = some 2 := by decide +kernel
theorem dv_X5_many : yX5_many.cls = RX5 ∧ yX5_many.cls ≠ "java/lang/invoke/MethodHandle" ∧ yX5_many.cls ≠ "java/lang/invoke/VarHandle" ∧ (parseMethodDescriptor yX5_many.desc).map (fun d => d.parameters.length) = some 1 := by decide +kernel
theorem dv_X5_begin : yX5_begin.cls = RX5 ∧ yX5_begin.cls ≠ "java/lang/invoke/MethodHandle" ∧ yX5_begin.cls ≠ "java/lang/invoke/VarHandle" ∧ (parseMethodDescriptor yX5_begin.desc).map (fun d => d.parameters.length) = some 1 := by decide +kernel
theorem dv_X5_free : yX5_free.cls = RX5 ∧ yX5_free.cls ≠ "java/lang/invoke/MethodHandle" ∧ yX5_free.cls ≠ "java/lang/invoke/VarHandle" ∧ (parseMethodDescriptor yX5_free.desc).map (fun d => d.parameters.length) = some 0 := by decide +kernel
theorem dv_X5_open : yX5_open.cls = RX5 ∧ yX5_open.cls ≠ "java/lang/invoke/MethodHandle" ∧ yX5_open.cls ≠ "java/lang/invoke/VarHandle" ∧ (parseMethodDescriptor yX5_open.desc).map (fun d => d.parameters.length) = some 1 := by decide +kernel
theorem dv_X5_isNoView : yX5_isNoView.cls = RX5 ∧ yX5_isNoView.cls ≠ "java/lang/invoke/MethodHandle" ∧ yX5_isNoView.cls ≠ "java/lang/invoke/VarHandle" ∧ (parseMethodDescriptor yX5_isNoView.desc).map (fun d => d.parameters.length) = some 1 := by decide +kernel
theorem dv_X5_valueOf : yX5_valueOf.cls = RX5 ∧ yX5_valueOf.cls ≠ "java/lang/invoke/MethodHandle" ∧ yX5_valueOf.cls ≠ "java/lang/invoke/VarHandle" ∧ (parseMethodDescriptor yX5_valueOf.desc).map (fun d => d.parameters.length) = some 2 := by decide +kernel
theorem dv_X5_sum : yX5_sum.cls = RX5 ∧ yX5_sum.cls ≠ "java/lang/invoke/MethodHandle" ∧ yX5_sum.cls ≠ "java/lang/invoke/VarHandle" ∧ (parseMethodDescriptor yX5_sum.desc).map (fun d => d.parameters.length) = some 1 := by decide +kernel
theorem dv_X5_unlike : yX5_unlike.cls = RX5 ∧ yX5_unlike.cls ≠ "java/lang/invoke/MethodHandle" ∧ yX5_unlike.cls ≠ "java/lang/invoke/VarHandle" ∧ (parseMethodDescriptor yX5_unlike.desc).map (fun d => d.parameters.length) = some 1 := by decide +kernel
theorem dv_X5_viewsOf : yX5_viewsOf.cls = RX5 ∧ yX5_viewsOf.cls ≠ "java/lang/invoke/MethodHandle" ∧ yX5_viewsOf.cls ≠ "java/lang/invoke/VarHandle" ∧ (parseMethodDescriptor yX5_viewsOf.desc).map (fun d => d.parameters.length) = some 1 := by decide +kernel
theorem dv_X5_bookTold : yX5_bookTold.cls = RX5 ∧ yX5_bookTold.cls ≠ "java/lang/invoke/MethodHandle" ∧ yX5_bookTold.cls ≠ "java/lang/invoke/VarHandle" ∧ (parseMethodDescriptor yX5_bookTold.desc).map (fun d => d.parameters.length) = some 2 := by decide +kernel
theorem dv_X5_nearOf : yX5_nearOf.cls = RX5 ∧ yX5_nearOf.cls ≠ "java/lang/invoke/MethodHandle" ∧ yX5_nearOf.cls ≠ "java/lang/invoke/VarHandle" ∧ (parseMethodDescriptor yX5_nearOf.desc).map (fun d => d.parameters.length) = some 3 := by decide +kernel
theorem dv_X5_nearTold : yX5_nearTold.cls = RX5 ∧ yX5_nearTold.cls ≠ "java/lang/invoke/MethodHandle" ∧ yX5_nearTold.cls ≠ "java/lang/invoke/VarHandle" ∧ (parseMethodDescriptor yX5_nearTold.desc).map (fun d => d.parameters.length) = some 3 := by decide +kernel
theorem dv_X5_ahead : yX5_ahead.cls = RX5 ∧ yX5_ahead.cls ≠ "java/lang/invoke/MethodHandle" ∧ yX5_ahead.cls ≠ "java/lang/invoke/VarHandle" ∧ (parseMethodDescriptor yX5_ahead.desc).map (fun d => d.parameters.length) = some 2 := by decide +kernel
theorem dv_X5_areSame : yX5_areSame.cls = RX5 ∧ yX5_areSame.cls ≠ "java/lang/invoke/MethodHandle" ∧ yX5_areSame.cls ≠ "java/lang/invoke/VarHandle" ∧ (parseMethodDescriptor yX5_areSame.desc).map (fun d => d.parameters.length) = some 2 := by decide +kernel
theorem dv_X5_viewTold : yX5_viewTold.cls = RX5 ∧ yX5_viewTold.cls ≠ "java/lang/invoke/MethodHandle" ∧ yX5_viewTold.cls ≠ "java/lang/invoke/VarHandle" ∧ (parseMethodDescriptor yX5_viewTold.desc).map (fun d => d.parameters.length) = some 2 := by decide +kernel
theorem dv_X5_ledgerTold : yX5_ledgerTold.cls = RX5 ∧ yX5_ledgerTold.cls ≠ "java/lang/invoke/MethodHandle" ∧ yX5_ledgerTold.cls ≠ "java/lang/invoke/VarHandle" ∧ (parseMethodDescriptor yX5_ledgerTold.desc).map (fun d => d.parameters.length) = some 1 := by decide +kernel
set_option maxHeartbeats 4000000 in
set_option maxRecDepth 100000 in
theorem c_X5_isIn (l : Launch) (G : xG) {M : HM} {p0 : Int} (hp0 : -2147483648 ≤ p0 ∧ p0 ≤ 2147483647) {p1 : Int} (hp1 : -2147483648 ≤ p1 ∧ p1 ≤ 2147483647) {p2 : Int} (hp2 : -2147483648 ≤ p2 ∧ p2 ≤ 2147483647) : xMet l G yX5_isIn wsX5_isIn 0 0 0 0 [.int (iN (p0)), .int (iN (p1)), .int (iN (p2))] M (fun r M1 => ∃ z : Int, r = some (.int (iN z)) ∧ M1 = M ∧ (z = 0 ∨ z = 1) ∧ (z ≠ 0 → p1 ≤ p0 ∧ p0 ≤ p2) ∧ (z = 0 → p0 < p1 ∨ p2 < p0)) := by
  refine x_intro (cc := cX5_isIn) (maxL := 3) (ret := (some .boolean)) (by decide +kernel) rfl (Nat.le_of_ble_eq_true rfl) ?_
  intro p e R s m args below meth c ls hRf hRc hRs hRl hC hw hl
  have hl : lv_has ls 3 [(0, .int (iN (p0))), (1, .int (iN (p1))), (2, .int (iN (p2)))] := hl
  refine lv_iload_n hC.1 hC.2.1 dX5_isIn_0 rfl (lv_at hl 0 rfl) ?_
  refine lv_iload_n hC.1 hC.2.1 dX5_isIn_1 rfl (lv_at hl 1 rfl) ?_
  refine x_icmp_lt (tgt := 14) hC ⟨by omega, by omega⟩ ⟨by omega, by omega⟩ dX5_isIn_2 (by decide) (fun c_1 => ?_) (fun c_1 => ?_)
  · refine x_const hC dX5_isIn_14 ?_
    exact x_zret hC hw (by omega) dX5_isIn_15 (by omega) (by omega) ⟨0, rfl, rfl, by omega, by omega, by omega⟩
  · refine lv_iload_n hC.1 hC.2.1 dX5_isIn_5 rfl (lv_at hl 0 rfl) ?_
    refine lv_iload_n hC.1 hC.2.1 dX5_isIn_6 rfl (lv_at hl 2 rfl) ?_
    refine x_icmp_gt (tgt := 14) hC ⟨by omega, by omega⟩ ⟨by omega, by omega⟩ dX5_isIn_7 (by decide) (fun c_2 => ?_) (fun c_2 => ?_)
    · refine x_const hC dX5_isIn_14 ?_
      exact x_zret hC hw (by omega) dX5_isIn_15 (by omega) (by omega) ⟨0, rfl, rfl, by omega, by omega, by omega⟩
    · refine x_const hC dX5_isIn_10 ?_
      refine lv_goto (tgt := 15) hC.1 hC.2.1 dX5_isIn_11 (by decide) ?_
      exact x_zret hC hw (by omega) dX5_isIn_15 (by omega) (by omega) ⟨1, rfl, rfl, by omega, by omega, by omega⟩
set_option maxHeartbeats 4000000 in
set_option maxRecDepth 100000 in
theorem c_X5_one (l : Launch) (G : xG) {M : HM} {p0 : Int} (hp0 : -2147483648 ≤ p0 ∧ p0 ≤ 2147483647) : xMet l G yX5_one wsX5_one 0 0 0 0 [.int (iN (p0))] M (fun r M1 => ∃ z : Int, r = some (.int (iN z)) ∧ M1 = M ∧ (z = 0 ∨ z = 1) ∧ (z = 0 ↔ p0 = 0)) := by
  refine x_intro (cc := cX5_one) (maxL := 1) (ret := (some .int)) (by decide +kernel) rfl (Nat.le_of_ble_eq_true rfl) ?_
  intro p e R s m args below meth c ls hRf hRc hRs hRl hC hw hl
  have hl : lv_has ls 1 [(0, .int (iN (p0)))] := hl
  refine lv_iload_n hC.1 hC.2.1 dX5_one_0 rfl (lv_at hl 0 rfl) ?_
  refine x_if_eq (tgt := 8) hC ⟨by omega, by omega⟩ dX5_one_1 (by decide) (fun c_1 => ?_) (fun c_1 => ?_)
  · refine x_const hC dX5_one_8 ?_
    exact x_iret hC hw dX5_one_9 (by omega) (by omega) ⟨0, rfl, rfl, by omega, by omega⟩
  · refine x_const hC dX5_one_4 ?_
    refine lv_goto (tgt := 9) hC.1 hC.2.1 dX5_one_5 (by decide) ?_
    exact x_iret hC hw dX5_one_9 (by omega) (by omega) ⟨1, rfl, rfl, by omega, by omega⟩
set_option maxHeartbeats 4000000 in
set_option maxRecDepth 100000 in
theorem c_X5_held (l : Launch) (G : xG) {M : HM} {p0 : Int} (hp0 : -2147483648 ≤ p0 ∧ p0 ≤ 2147483647) : xMet l G yX5_held wsX5_held 0 0 0 0 [.int (iN (p0))] M (fun r M1 => ∃ z : Int, r = some (.int (iN z)) ∧ M1 = M ∧ (-9999 ≤ z ∧ z ≤ 9999)) := by
  refine x_intro (cc := cX5_held) (maxL := 1) (ret := (some .int)) (by decide +kernel) rfl (Nat.le_of_ble_eq_true rfl) ?_
  intro p e R s m args below meth c ls hRf hRc hRs hRl hC hw hl
  have hl : lv_has ls 1 [(0, .int (iN (p0)))] := hl
  refine lv_iload_n hC.1 hC.2.1 dX5_held_0 rfl (lv_at hl 0 rfl) ?_
  refine x_sipush hC dX5_held_1 (by decide +kernel) ?_
  refine x_icmp_le (tgt := 13) hC ⟨by omega, by omega⟩ ⟨by omega, by omega⟩ dX5_held_4 (by decide) (fun c_1 => ?_) (fun c_1 => ?_)
  · refine lv_iload_n hC.1 hC.2.1 dX5_held_13 rfl (lv_at hl 0 rfl) ?_
    refine x_sipush hC dX5_held_14 (by decide +kernel) ?_
    refine x_icmp_ge (tgt := 26) hC ⟨by omega, by omega⟩ ⟨by omega, by omega⟩ dX5_held_17 (by decide) (fun c_2 => ?_) (fun c_2 => ?_)
    · refine lv_iload_n hC.1 hC.2.1 dX5_held_26 rfl (lv_at hl 0 rfl) ?_
      exact x_iret hC hw dX5_held_27 (by omega) (by omega) ⟨p0, rfl, rfl, by omega⟩
    · refine x_sipush hC dX5_held_20 (by decide +kernel) ?_
      refine lv_goto (tgt := 27) hC.1 hC.2.1 dX5_held_23 (by decide) ?_
      exact x_iret hC hw dX5_held_27 (by omega) (by omega) ⟨(-9999), rfl, rfl, by omega⟩
  · refine x_sipush hC dX5_held_7 (by decide +kernel) ?_
    refine lv_goto (tgt := 27) hC.1 hC.2.1 dX5_held_10 (by decide) ?_
    exact x_iret hC hw dX5_held_27 (by omega) (by omega) ⟨9999, rfl, rfl, by omega⟩
set_option maxHeartbeats 4000000 in
set_option maxRecDepth 100000 in
theorem c_X5_isNoBook (l : Launch) (G : xG) {M : HM} {p0 : Int} (hp0 : -2147483648 ≤ p0 ∧ p0 ≤ 2147483647) : xMet l G yX5_isNoBook wsX5_isNoBook 1 22 0 0 [.int (iN (p0))] M (fun r M1 => ∃ z : Int, r = some (.int (iN z)) ∧ M1 = M ∧ (z = 0 ∨ z = 1) ∧ (z = 0 → 0 ≤ p0 ∧ p0 ≤ 2)) := by
  refine x_intro (cc := cX5_isNoBook) (maxL := 1) (ret := (some .boolean)) (by decide +kernel) rfl (Nat.le_of_ble_eq_true rfl) ?_
  intro p e R s m args below meth c ls hRf hRc hRs hRl hC hw hl
  have hl : lv_has ls 1 [(0, .int (iN (p0)))] := hl
  refine lv_iload_n hC.1 hC.2.1 dX5_isNoBook_0 rfl (lv_at hl 0 rfl) ?_
  refine x_const hC dX5_isNoBook_1 ?_
  refine x_const hC dX5_isNoBook_2 ?_
  refine x_callS hC hw (lv_size hl) (c_X5_isIn l G (M := M) (p0 := p0) (by omega) (p1 := 0) (by omega) (p2 := 2) (by omega)) gX5_isNoBook_X5_isIn rfl dv_X5_isIn_s rfl (Nat.le_of_ble_eq_true rfl) (by rw [hRf]; decide) (by rw [hRl]; decide) (by omega) (by omega) dX5_isNoBook_3 (fun r9 M_1 H locs hq hw => ?_)
  obtain ⟨z_2, rfl, hM9, hz_2a, hz_2b, hz_2c⟩ := hq
  rw [hM9] at hw
  show W p l e R s m args below meth c H locs _ _ _ (F0 m 6 ls [.int (iN (z_2))])
  refine x_if_ne (tgt := 13) hC ⟨by omega, by omega⟩ dX5_isNoBook_6 (by decide) (fun c_3 => ?_) (fun c_3 => ?_)
  · refine x_const hC dX5_isNoBook_13 ?_
    exact x_zret hC hw (by omega) dX5_isNoBook_14 (by omega) (by omega) ⟨0, rfl, rfl, by omega, by omega⟩
  · refine x_const hC dX5_isNoBook_9 ?_
    refine lv_goto (tgt := 14) hC.1 hC.2.1 dX5_isNoBook_10 (by decide) ?_
    exact x_zret hC hw (by omega) dX5_isNoBook_14 (by omega) (by omega) ⟨1, rfl, rfl, by omega, by omega⟩
set_option maxHeartbeats 4000000 in
set_option maxRecDepth 100000 in
theorem c_X5_isNoKey (l : Launch) (G : xG) {M : HM} {p0 : Int} (hp0 : -2147483648 ≤ p0 ∧ p0 ≤ 2147483647) : xMet l G yX5_isNoKey wsX5_isNoKey 1 22 0 0 [.int (iN (p0))] M (fun r M1 => ∃ z : Int, r = some (.int (iN z)) ∧ M1 = M ∧ (z = 0 ∨ z = 1) ∧ (z = 0 → 0 ≤ p0 ∧ p0 ≤ 99)) := by
  refine x_intro (cc := cX5_isNoKey) (maxL := 1) (ret := (some .boolean)) (by decide +kernel) rfl (Nat.le_of_ble_eq_true rfl) ?_
  intro p e R s m args below meth c ls hRf hRc hRs hRl hC hw hl
  have hl : lv_has ls 1 [(0, .int (iN (p0)))] := hl
  refine lv_iload_n hC.1 hC.2.1 dX5_isNoKey_0 rfl (lv_at hl 0 rfl) ?_
  refine x_const hC dX5_isNoKey_1 ?_
  refine x_bipush hC dX5_isNoKey_2 (by decide +kernel) ?_
  refine x_callS hC hw (lv_size hl) (c_X5_isIn l G (M := M) (p0 := p0) (by omega) (p1 := 0) (by omega) (p2 := 99) (by omega)) gX5_isNoKey_X5_isIn rfl dv_X5_isIn_s rfl (Nat.le_of_ble_eq_true rfl) (by rw [hRf]; decide) (by rw [hRl]; decide) (by omega) (by omega) dX5_isNoKey_4 (fun r9 M_1 H locs hq hw => ?_)
  obtain ⟨z_2, rfl, hM9, hz_2a, hz_2b, hz_2c⟩ := hq
  rw [hM9] at hw
  show W p l e R s m args below meth c H locs _ _ _ (F0 m 7 ls [.int (iN (z_2))])
  refine x_if_ne (tgt := 14) hC ⟨by omega, by omega⟩ dX5_isNoKey_7 (by decide) (fun c_3 => ?_) (fun c_3 => ?_)
  · refine x_const hC dX5_isNoKey_14 ?_
    exact x_zret hC hw (by omega) dX5_isNoKey_15 (by omega) (by omega) ⟨0, rfl, rfl, by omega, by omega⟩
  · refine x_const hC dX5_isNoKey_10 ?_
    refine lv_goto (tgt := 15) hC.1 hC.2.1 dX5_isNoKey_11 (by decide) ?_
    exact x_zret hC hw (by omega) dX5_isNoKey_15 (by omega) (by omega) ⟨1, rfl, rfl, by omega, by omega⟩
set_option maxHeartbeats 4000000 in
set_option maxRecDepth 100000 in
theorem c_X5_isNoValue (l : Launch) (G : xG) {M : HM} {p0 : Int} (hp0 : -2147483648 ≤ p0 ∧ p0 ≤ 2147483647) : xMet l G yX5_isNoValue wsX5_isNoValue 1 22 0 0 [.int (iN (p0))] M (fun r M1 => ∃ z : Int, r = some (.int (iN z)) ∧ M1 = M ∧ (z = 0 ∨ z = 1) ∧ (z = 0 → -9999 ≤ p0 ∧ p0 ≤ 9999)) := by
  refine x_intro (cc := cX5_isNoValue) (maxL := 1) (ret := (some .boolean)) (by decide +kernel) rfl (Nat.le_of_ble_eq_true rfl) ?_
  intro p e R s m args below meth c ls hRf hRc hRs hRl hC hw hl
  have hl : lv_has ls 1 [(0, .int (iN (p0)))] := hl
  refine lv_iload_n hC.1 hC.2.1 dX5_isNoValue_0 rfl (lv_at hl 0 rfl) ?_
  refine x_sipush hC dX5_isNoValue_1 (by decide +kernel) ?_
  refine x_sipush hC dX5_isNoValue_4 (by decide +kernel) ?_
  refine x_callS hC hw (lv_size hl) (c_X5_isIn l G (M := M) (p0 := p0) (by omega) (p1 := (-9999)) (by omega) (p2 := 9999) (by omega)) gX5_isNoValue_X5_isIn rfl dv_X5_isIn_s rfl (Nat.le_of_ble_eq_true rfl) (by rw [hRf]; decide) (by rw [hRl]; decide) (by omega) (by omega) dX5_isNoValue_7 (fun r9 M_1 H locs hq hw => ?_)
  obtain ⟨z_2, rfl, hM9, hz_2a, hz_2b, hz_2c⟩ := hq
  rw [hM9] at hw
  show W p l e R s m args below meth c H locs _ _ _ (F0 m 10 ls [.int (iN (z_2))])
  refine x_if_ne (tgt := 17) hC ⟨by omega, by omega⟩ dX5_isNoValue_10 (by decide) (fun c_3 => ?_) (fun c_3 => ?_)
  · refine x_const hC dX5_isNoValue_17 ?_
    exact x_zret hC hw (by omega) dX5_isNoValue_18 (by omega) (by omega) ⟨0, rfl, rfl, by omega, by omega⟩
  · refine x_const hC dX5_isNoValue_13 ?_
    refine lv_goto (tgt := 18) hC.1 hC.2.1 dX5_isNoValue_14 (by decide) ?_
    exact x_zret hC hw (by omega) dX5_isNoValue_18 (by omega) (by omega) ⟨1, rfl, rfl, by omega, by omega⟩
set_option maxHeartbeats 4000000 in
set_option maxRecDepth 100000 in
theorem c_X5_isNoView (l : Launch) (G : xG) {M : HM} {a va oa wa ya : Nat} {wk : Option Nat} {th rfd br re la ha kp kv : Int32} {qv qw : Nat → Nat} {fa fb : Nat → Option Nat} {fvv fw : Nat → Nat → Int32} {fo : Nat → Int32} {fy : Nat → Option Nat} {S : Nat → Bool} (hR : MGx G M a va oa wa ya wk th rfd br re la ha kp kv qv qw fa fb fvv fw fo fy S) {p0 : Int} (hp0 : -2147483648 ≤ p0 ∧ p0 ≤ 2147483647) : xMet l G yX5_isNoView wsX5_isNoView 1 22 0 0 [.ref a, .int (iN (p0))] M (fun r M1 => ∃ z : Int, r = some (.int (iN z)) ∧ M1 = M ∧ (z = 0 ∨ z = 1) ∧ (z = 0 → 0 ≤ p0 ∧ p0 ≤ 3) ∧ (z = 0 → fy p0.toNat ≠ none)) := by
  refine x_intro (cc := cX5_isNoView) (maxL := 2) (ret := (some .boolean)) (by decide +kernel) rfl (Nat.le_of_ble_eq_true rfl) ?_
  intro p e R s m args below meth c ls hRf hRc hRs hRl hC hw hl
  have hinX5 : ∀ w ∈ wsX50, w ∈ wsX5_isNoView := by decide +kernel
  have hl : lv_has ls 2 [(0, .ref a), (1, .int (iN (p0)))] := hl
  refine lv_iload_n hC.1 hC.2.1 dX5_isNoView_0 rfl (lv_at hl 1 rfl) ?_
  refine x_const hC dX5_isNoView_1 ?_
  refine x_const hC dX5_isNoView_2 ?_
  refine x_callS hC hw (lv_size hl) (c_X5_isIn l G (M := M) (p0 := p0) (by omega) (p1 := 0) (by omega) (p2 := 3) (by omega)) gX5_isNoView_X5_isIn rfl dv_X5_isIn_s rfl (Nat.le_of_ble_eq_true rfl) (by rw [hRf]; decide) (by rw [hRl]; decide) (by omega) (by omega) dX5_isNoView_3 (fun r9 M_1 H locs hq hw => ?_)
  obtain ⟨z_2, rfl, hM9, hz_2a, hz_2b, hz_2c⟩ := hq
  rw [hM9] at hw
  show W p l e R s m args below meth c H locs _ _ _ (F0 m 6 ls [.int (iN (z_2))])
  refine x_if_eq (tgt := 18) hC ⟨by omega, by omega⟩ dX5_isNoView_6 (by decide) (fun c_3 => ?_) (fun c_3 => ?_)
  · refine x_const hC dX5_isNoView_18 ?_
    refine lv_goto (tgt := 23) hC.1 hC.2.1 dX5_isNoView_19 (by decide) ?_
    exact x_zret hC hw (by omega) dX5_isNoView_23 (by omega) (by omega) ⟨1, rfl, rfl, by omega, by omega, fun q9 => absurd q9 (by omega)⟩
  · refine lv_aload_n hC.1 hC.2.1 dX5_isNoView_9 rfl (lv_at hl 0 rfl) ?_
    refine x_get hC hw hR.1.1 rfl hinX5 5 (by decide) (by decide +kernel) rfl dX5_isNoView_10 ?_
    refine lv_iload_n hC.1 hC.2.1 dX5_isNoView_13 rfl (lv_at hl 1 rfl) ?_
    refine x_ald4 hC hw hR.1.2.2.2.2.1 (by omega) (by omega) (by omega) dX5_isNoView_14 ?_
    rcases hy_5 : fy (p0).toNat with _ | y_4
    · show W p l e R s m args below meth c _ _ _ _ _ (F0 m 15 ls [.null])
      refine lv_ifnonnullN hC.1 hC.2.1 dX5_isNoView_15 ?_
      refine x_const hC dX5_isNoView_18 ?_
      refine lv_goto (tgt := 23) hC.1 hC.2.1 dX5_isNoView_19 (by decide) ?_
      exact x_zret hC hw (by omega) dX5_isNoView_23 (by omega) (by omega) ⟨1, rfl, rfl, by omega, by omega, fun q9 => absurd q9 (by omega)⟩
    · obtain ⟨fi_6, hIi_6⟩ := (hR.vw (show (p0).toNat < 4 by omega) hy_5)
      obtain ⟨hvt_7, hat_7, hbt_7, hct_7, hdt_7, het_7⟩ := id hIi_6
      show W p l e R s m args below meth c _ _ _ _ _ (F0 m 15 ls [.ref y_4])
      refine lv_ifnonnull (tgt := 22) hC.1 hC.2.1 dX5_isNoView_15 (by decide) ?_
      refine x_const hC dX5_isNoView_22 ?_
      exact x_zret hC hw (by omega) dX5_isNoView_23 (by omega) (by omega) ⟨0, rfl, rfl, by omega, by omega, fun _ => by first | exact fun q9 => nomatch q9 | (rw [hy_5]; exact fun q9 => nomatch q9)⟩
set_option maxHeartbeats 4000000 in
set_option maxRecDepth 100000 in
theorem c_X5_refuse (l : Launch) (G : xG) {M : HM} {a va oa wa ya : Nat} {wk : Option Nat} {th rfd br re la ha kp kv : Int32} {qv qw : Nat → Nat} {fa fb : Nat → Option Nat} {fvv fw : Nat → Nat → Int32} {fo : Nat → Int32} {fy : Nat → Option Nat} {S : Nat → Bool} (hR : MGx G M a va oa wa ya wk th rfd br re la ha kp kv qv qw fa fb fvv fw fo fy S) {p0 : Int} (hp0 : -2147483648 ≤ p0 ∧ p0 ≤ 2147483647) {p1 : Int} (hp1 : -2147483648 ≤ p1 ∧ p1 ≤ 2147483647) (hop : 1 ≤ p1) : xMet l G yX5_refuse wsX5_refuse 0 0 0 0 [.ref a, .int (iN (p0)), .int (iN (p1))] M (fun r M1 => ∃ (z : Int), r = some (.int (iN z)) ∧ (z = 0 ∨ z = 1) ∧ (z = 0 → p0 = 0) ∧ ∃ (th1 : Int32), MGx G M1 a va oa wa ya wk th1 rfd br re la ha kp kv qv qw fa fb fvv fw fo fy S) := by
  refine x_intro (cc := cX5_refuse) (maxL := 3) (ret := (some .boolean)) (by decide +kernel) rfl (Nat.le_of_ble_eq_true rfl) ?_
  intro p e R s m args below meth c ls hRf hRc hRs hRl hC hw hl
  have hinX5 : ∀ w ∈ wsX50, w ∈ wsX5_refuse := by decide +kernel
  have hl : lv_has ls 3 [(0, .ref a), (1, .int (iN (p0))), (2, .int (iN (p1)))] := hl
  refine lv_iload_n hC.1 hC.2.1 dX5_refuse_0 rfl (lv_at hl 1 rfl) ?_
  refine x_if_eq (tgt := 16) hC ⟨by omega, by omega⟩ dX5_refuse_1 (by decide) (fun c_1 => ?_) (fun c_1 => ?_)
  · refine lv_aload_n hC.1 hC.2.1 dX5_refuse_16 rfl (lv_at hl 0 rfl) ?_
    refine x_getR hC hw hR.1.1 rfl hinX5 0 (by decide) (by decide +kernel) rfl dX5_refuse_17 ?_
    have hrr_2 := iN_rng th
    have sc_3 := hR.sc
    refine x_if_le (tgt := 27) hC ⟨by omega, by omega⟩ dX5_refuse_20 (by decide) (fun c_4 => ?_) (fun c_4 => ?_)
    · refine x_const hC dX5_refuse_27 ?_
      exact x_zret hC hw (by omega) dX5_refuse_28 (by omega) (by omega) ⟨0, rfl, by omega, by omega, _, hR⟩
    · refine x_const hC dX5_refuse_23 ?_
      refine lv_goto (tgt := 28) hC.1 hC.2.1 dX5_refuse_24 (by decide) ?_
      exact x_zret hC hw (by omega) dX5_refuse_28 (by omega) (by omega) ⟨1, rfl, by omega, by omega, _, hR⟩
  · refine lv_aload_n hC.1 hC.2.1 dX5_refuse_4 rfl (lv_at hl 0 rfl) ?_
    refine x_getR hC hw hR.1.1 rfl hinX5 0 (by decide) (by decide +kernel) rfl dX5_refuse_5 ?_
    have hrr_5 := iN_rng th
    have sc_6 := hR.sc
    refine x_if_ne (tgt := 16) hC ⟨by omega, by omega⟩ dX5_refuse_8 (by decide) (fun c_7 => ?_) (fun c_7 => ?_)
    · refine lv_aload_n hC.1 hC.2.1 dX5_refuse_16 rfl (lv_at hl 0 rfl) ?_
      refine x_getR hC hw hR.1.1 rfl hinX5 0 (by decide) (by decide +kernel) rfl dX5_refuse_17 ?_
      have hrr_8 := iN_rng th
      have sc_9 := hR.sc
      refine x_if_le (tgt := 27) hC ⟨by omega, by omega⟩ dX5_refuse_20 (by decide) (fun c_10 => ?_) (fun c_10 => ?_)
      · refine x_const hC dX5_refuse_27 ?_
        exact x_zret hC hw (by omega) dX5_refuse_28 (by omega) (by omega) ⟨0, rfl, by omega, by omega, _, hR⟩
      · refine x_const hC dX5_refuse_23 ?_
        refine lv_goto (tgt := 28) hC.1 hC.2.1 dX5_refuse_24 (by decide) ?_
        exact x_zret hC hw (by omega) dX5_refuse_28 (by omega) (by omega) ⟨1, rfl, by omega, by omega, _, hR⟩
    · refine lv_aload_n hC.1 hC.2.1 dX5_refuse_11 rfl (lv_at hl 0 rfl) ?_
      refine lv_iload_n hC.1 hC.2.1 dX5_refuse_12 rfl (lv_at hl 2 rfl) ?_
      refine x_put (fs2 := [.int (iN (p1)), .int rfd, .ref va, .ref oa, .ref wa, .ref ya, va_rf (wk), .int br, .int re, .int la, .int ha, .int kp, .int kv]) hC hw hR.1.1 rfl hinX5 tyX5 tyX5_ok nmX5 0 (by decide) (by decide +kernel) rfl rfl rfl (Nat.le_of_ble_eq_true rfl) rfl dX5_refuse_13 (fun H locs hw => ?_)
      obtain ⟨M_11, hM_12⟩ : ∃ z, z = va_up M a (some (.inr (7, [.int (iN (p1)), .int rfd, .ref va, .ref oa, .ref wa, .ref ya, va_rf (wk), .int br, .int re, .int la, .int ha, .int kp, .int kv]))) := ⟨_, rfl⟩
      rw [← hM_12] at hw
      have hR_13 : MGx G M_11 a va oa wa ya wk (iN (p1)) rfd br re la ha kp kv qv qw fa fb fvv fw fo fy S := hR.obj hM_12 (by rw [iN_toInt ⟨by omega, by omega⟩]; omega) hR.sc.2.1 hR.sc.2.2 (fun y9 h9 => hR.wk' h9)
      refine lv_aload_n hC.1 hC.2.1 dX5_refuse_16 rfl (lv_at hl 0 rfl) ?_
      refine x_getR hC hw hR_13.1.1 rfl hinX5 0 (by decide) (by decide +kernel) rfl dX5_refuse_17 ?_
      have hrr_14 := iN_rng (iN (p1))
      have he_15 : (iN (p1)).toInt = p1 := iN_toInt ⟨by omega, by omega⟩
      refine x_if_le (tgt := 27) hC ⟨by omega, by omega⟩ dX5_refuse_20 (by decide) (fun c_16 => ?_) (fun c_16 => ?_)
      · refine x_const hC dX5_refuse_27 ?_
        exact x_zret hC hw (by omega) dX5_refuse_28 (by omega) (by omega) ⟨0, rfl, by omega, by omega, _, hR_13⟩
      · refine x_const hC dX5_refuse_23 ?_
        refine lv_goto (tgt := 28) hC.1 hC.2.1 dX5_refuse_24 (by decide) ?_
        exact x_zret hC hw (by omega) dX5_refuse_28 (by omega) (by omega) ⟨1, rfl, by omega, by omega, _, hR_13⟩
set_option maxHeartbeats 4000000 in
set_option maxRecDepth 100000 in
theorem c_X5_start (l : Launch) (G : xG) {M : HM} {a va oa wa ya : Nat} {wk : Option Nat} {th rfd br re la ha kp kv : Int32} {qv qw : Nat → Nat} {fa fb : Nat → Option Nat} {fvv fw : Nat → Nat → Int32} {fo : Nat → Int32} {fy : Nat → Option Nat} {S : Nat → Bool} (hR : MGx G M a va oa wa ya wk th rfd br re la ha kp kv qv qw fa fb fvv fw fo fy S) {p0 : Int} (hp0 : -2147483648 ≤ p0 ∧ p0 ≤ 2147483647) {p1 : Int} (hp1 : -2147483648 ≤ p1 ∧ p1 ≤ 2147483647) (hop : 1 ≤ p1) : xMet l G yX5_start wsX5_start 1 22 0 0 [.ref a, .int (iN (p0)), .int (iN (p1))] M (fun r M1 => ∃ (z : Int), r = some (.int (iN z)) ∧ (z = 0 ∨ z = 1) ∧ (z = 0 → p0 = 0) ∧ ∃ (th1 : Int32), MGx G M1 a va oa wa ya wk th1 rfd br re la ha kp kv qv qw fa fb fvv fw fo fy S) := by
  refine x_intro (cc := cX5_start) (maxL := 3) (ret := (some .boolean)) (by decide +kernel) rfl (Nat.le_of_ble_eq_true rfl) ?_
  intro p e R s m args below meth c ls hRf hRc hRs hRl hC hw hl
  have hinX5 : ∀ w ∈ wsX50, w ∈ wsX5_start := by decide +kernel
  have hl : lv_has ls 3 [(0, .ref a), (1, .int (iN (p0))), (2, .int (iN (p1)))] := hl
  refine lv_aload_n hC.1 hC.2.1 dX5_start_0 rfl (lv_at hl 0 rfl) ?_
  refine x_const hC dX5_start_1 ?_
  refine x_put (fs2 := [.int (iN (0)), .int rfd, .ref va, .ref oa, .ref wa, .ref ya, va_rf (wk), .int br, .int re, .int la, .int ha, .int kp, .int kv]) hC hw hR.1.1 rfl hinX5 tyX5 tyX5_ok nmX5 0 (by decide) (by decide +kernel) rfl rfl rfl (Nat.le_of_ble_eq_true rfl) rfl dX5_start_2 (fun H locs hw => ?_)
  obtain ⟨M_1, hM_2⟩ : ∃ z, z = va_up M a (some (.inr (7, [.int (iN (0)), .int rfd, .ref va, .ref oa, .ref wa, .ref ya, va_rf (wk), .int br, .int re, .int la, .int ha, .int kp, .int kv]))) := ⟨_, rfl⟩
  rw [← hM_2] at hw
  have hR_3 : MGx G M_1 a va oa wa ya wk (iN (0)) rfd br re la ha kp kv qv qw fa fb fvv fw fo fy S := hR.obj hM_2 (by rw [iN_toInt ⟨by omega, by omega⟩]; omega) hR.sc.2.1 hR.sc.2.2 (fun y9 h9 => hR.wk' h9)
  refine lv_aload_n hC.1 hC.2.1 dX5_start_5 rfl (lv_at hl 0 rfl) ?_
  refine lv_iload_n hC.1 hC.2.1 dX5_start_6 rfl (lv_at hl 1 rfl) ?_
  refine lv_iload_n hC.1 hC.2.1 dX5_start_7 rfl (lv_at hl 2 rfl) ?_
  refine x_callV hC hw (lv_size hl) (c_X5_refuse l G hR_3 (p0 := p0) (by omega) (p1 := p1) (by omega) (by omega)) gX5_start_X5_refuse rfl dv_X5_refuse hR_3.1.1 rfl rfl (Nat.le_of_ble_eq_true rfl) (by rw [hRf]; decide) (by rw [hRl]; decide) (by omega) (by omega) dX5_start_8 (fun r9 M_4 H locs hq hw => ?_)
  obtain ⟨z_5, rfl, hz_5a, hz_5b, thk_6, hRk_6⟩ := hq
  show W p l e R s m args below meth c H locs _ _ _ (F0 m 11 ls [.int (iN (z_5))])
  exact x_zret hC hw (by omega) dX5_start_11 (by omega) (by omega) ⟨z_5, rfl, by omega, by omega, _, hRk_6⟩
set_option maxHeartbeats 4000000 in
set_option maxRecDepth 100000 in
theorem c_X5_isBad (l : Launch) (G : xG) {M : HM} {a va oa wa ya : Nat} {wk : Option Nat} {th rfd br re la ha kp kv : Int32} {qv qw : Nat → Nat} {fa fb : Nat → Option Nat} {fvv fw : Nat → Nat → Int32} {fo : Nat → Int32} {fy : Nat → Option Nat} {S : Nat → Bool} (hR : MGx G M a va oa wa ya wk th rfd br re la ha kp kv qv qw fa fb fvv fw fo fy S) {p0 : Int} (hp0 : -2147483648 ≤ p0 ∧ p0 ≤ 2147483647) {p1 : Int} (hp1 : -2147483648 ≤ p1 ∧ p1 ≤ 2147483647) : xMet l G yX5_isBad wsX5_isBad 2 44 0 0 [.ref a, .int (iN (p0)), .int (iN (p1))] M (fun r M1 => ∃ (z : Int), r = some (.int (iN z)) ∧ (z = 0 ∨ z = 1) ∧ (z = 0 → (0 ≤ p0 ∧ p0 ≤ 2) ∧ 0 ≤ p1 ∧ p1 ≤ 99) ∧ ∃ (th1 : Int32), MGx G M1 a va oa wa ya wk th1 rfd br re la ha kp kv qv qw fa fb fvv fw fo fy S) := by
  refine x_intro (cc := cX5_isBad) (maxL := 3) (ret := (some .boolean)) (by decide +kernel) rfl (Nat.le_of_ble_eq_true rfl) ?_
  intro p e R s m args below meth c ls hRf hRc hRs hRl hC hw hl
  have hl : lv_has ls 3 [(0, .ref a), (1, .int (iN (p0))), (2, .int (iN (p1)))] := hl
  refine lv_aload_n hC.1 hC.2.1 dX5_isBad_0 rfl (lv_at hl 0 rfl) ?_
  refine lv_iload_n hC.1 hC.2.1 dX5_isBad_1 rfl (lv_at hl 1 rfl) ?_
  refine x_callS hC hw (lv_size hl) (c_X5_isNoBook l G (M := M) (p0 := p0) (by omega)) gX5_isBad_X5_isNoBook rfl dv_X5_isNoBook_s rfl (Nat.le_of_ble_eq_true rfl) (by rw [hRf]; decide) (by rw [hRl]; decide) (by omega) (by omega) dX5_isBad_2 (fun r9 M_1 H locs hq hw => ?_)
  obtain ⟨z_2, rfl, hM9, hz_2a, hz_2b⟩ := hq
  rw [hM9] at hw
  show W p l e R s m args below meth c H locs _ _ _ (F0 m 5 ls [.int (iN (z_2)), .ref a])
  refine x_const hC dX5_isBad_5 ?_
  refine x_callV hC hw (lv_size hl) (c_X5_start l G hR (p0 := z_2) (by omega) (p1 := 1) (by omega) (by omega)) gX5_isBad_X5_start rfl dv_X5_start hR.1.1 rfl rfl (Nat.le_of_ble_eq_true rfl) (by rw [hRf]; decide) (by rw [hRl]; decide) (by omega) (by omega) dX5_isBad_6 (fun r9 M_3 H locs hq hw => ?_)
  obtain ⟨z_4, rfl, hz_4a, hz_4b, thk_5, hRk_5⟩ := hq
  show W p l e R s m args below meth c H locs _ _ _ (F0 m 9 ls [.int (iN (z_4))])
  refine x_if_ne (tgt := 24) hC ⟨by omega, by omega⟩ dX5_isBad_9 (by decide) (fun c_6 => ?_) (fun c_6 => ?_)
  · refine x_const hC dX5_isBad_24 ?_
    refine lv_goto (tgt := 29) hC.1 hC.2.1 dX5_isBad_25 (by decide) ?_
    exact x_zret hC hw (by omega) dX5_isBad_29 (by omega) (by omega) ⟨1, rfl, by omega, by omega, _, hRk_5⟩
  · refine lv_aload_n hC.1 hC.2.1 dX5_isBad_12 rfl (lv_at hl 0 rfl) ?_
    refine lv_iload_n hC.1 hC.2.1 dX5_isBad_13 rfl (lv_at hl 2 rfl) ?_
    refine x_callS hC hw (lv_size hl) (c_X5_isNoKey l G (M := M_3) (p0 := p1) (by omega)) gX5_isBad_X5_isNoKey rfl dv_X5_isNoKey_s rfl (Nat.le_of_ble_eq_true rfl) (by rw [hRf]; decide) (by rw [hRl]; decide) (by omega) (by omega) dX5_isBad_14 (fun r9 M_7 H locs hq hw => ?_)
    obtain ⟨z_8, rfl, hM9, hz_8a, hz_8b⟩ := hq
    rw [hM9] at hw
    show W p l e R s m args below meth c H locs _ _ _ (F0 m 17 ls [.int (iN (z_8)), .ref a])
    refine x_const hC dX5_isBad_17 ?_
    refine x_callV hC hw (lv_size hl) (c_X5_refuse l G hRk_5 (p0 := z_8) (by omega) (p1 := 2) (by omega) (by omega)) gX5_isBad_X5_refuse rfl dv_X5_refuse hRk_5.1.1 rfl rfl (Nat.le_of_ble_eq_true rfl) (by rw [hRf]; decide) (by rw [hRl]; decide) (by omega) (by omega) dX5_isBad_18 (fun r9 M_9 H locs hq hw => ?_)
    obtain ⟨z_10, rfl, hz_10a, hz_10b, thk_11, hRk_11⟩ := hq
    show W p l e R s m args below meth c H locs _ _ _ (F0 m 21 ls [.int (iN (z_10))])
    refine x_if_eq (tgt := 28) hC ⟨by omega, by omega⟩ dX5_isBad_21 (by decide) (fun c_12 => ?_) (fun c_12 => ?_)
    · refine x_const hC dX5_isBad_28 ?_
      exact x_zret hC hw (by omega) dX5_isBad_29 (by omega) (by omega) ⟨0, rfl, by omega, by omega, _, hRk_11⟩
    · refine x_const hC dX5_isBad_24 ?_
      refine lv_goto (tgt := 29) hC.1 hC.2.1 dX5_isBad_25 (by decide) ?_
      exact x_zret hC hw (by omega) dX5_isBad_29 (by omega) (by omega) ⟨1, rfl, by omega, by omega, _, hRk_11⟩
set_option maxHeartbeats 4000000 in
set_option maxRecDepth 100000 in
theorem c_X5_isBad_ (l : Launch) (G : xG) {M : HM} {a va oa wa ya : Nat} {wk : Option Nat} {th rfd br re la ha kp kv : Int32} {qv qw : Nat → Nat} {fa fb : Nat → Option Nat} {fvv fw : Nat → Nat → Int32} {fo : Nat → Int32} {fy : Nat → Option Nat} {S : Nat → Bool} (hR : MGx G M a va oa wa ya wk th rfd br re la ha kp kv qv qw fa fb fvv fw fo fy S) {p0 : Int} (hp0 : -2147483648 ≤ p0 ∧ p0 ≤ 2147483647) {p1 : Int} (hp1 : -2147483648 ≤ p1 ∧ p1 ≤ 2147483647) {p2 : Int} (hp2 : -2147483648 ≤ p2 ∧ p2 ≤ 2147483647) : xMet l G yX5_isBad_ wsX5_isBad_ 2 44 0 0 [.ref a, .int (iN (p0)), .int (iN (p1)), .int (iN (p2))] M (fun r M1 => ∃ (z : Int), r = some (.int (iN z)) ∧ (z = 0 ∨ z = 1) ∧ (z = 0 → (0 ≤ p0 ∧ p0 ≤ 2) ∧ (0 ≤ p1 ∧ p1 ≤ 99) ∧ -9999 ≤ p2 ∧ p2 ≤ 9999) ∧ ∃ (th1 : Int32), MGx G M1 a va oa wa ya wk th1 rfd br re la ha kp kv qv qw fa fb fvv fw fo fy S) := by
  refine x_intro (cc := cX5_isBad_) (maxL := 4) (ret := (some .boolean)) (by decide +kernel) rfl (Nat.le_of_ble_eq_true rfl) ?_
  intro p e R s m args below meth c ls hRf hRc hRs hRl hC hw hl
  have hl : lv_has ls 4 [(0, .ref a), (1, .int (iN (p0))), (2, .int (iN (p1))), (3, .int (iN (p2)))] := hl
  refine lv_aload_n hC.1 hC.2.1 dX5_isBad__0 rfl (lv_at hl 0 rfl) ?_
  refine lv_iload_n hC.1 hC.2.1 dX5_isBad__1 rfl (lv_at hl 1 rfl) ?_
  refine x_callS hC hw (lv_size hl) (c_X5_isNoBook l G (M := M) (p0 := p0) (by omega)) gX5_isBad__X5_isNoBook rfl dv_X5_isNoBook_s rfl (Nat.le_of_ble_eq_true rfl) (by rw [hRf]; decide) (by rw [hRl]; decide) (by omega) (by omega) dX5_isBad__2 (fun r9 M_1 H locs hq hw => ?_)
  obtain ⟨z_2, rfl, hM9, hz_2a, hz_2b⟩ := hq
  rw [hM9] at hw
  show W p l e R s m args below meth c H locs _ _ _ (F0 m 5 ls [.int (iN (z_2)), .ref a])
  refine x_const hC dX5_isBad__5 ?_
  refine x_callV hC hw (lv_size hl) (c_X5_start l G hR (p0 := z_2) (by omega) (p1 := 1) (by omega) (by omega)) gX5_isBad__X5_start rfl dv_X5_start hR.1.1 rfl rfl (Nat.le_of_ble_eq_true rfl) (by rw [hRf]; decide) (by rw [hRl]; decide) (by omega) (by omega) dX5_isBad__6 (fun r9 M_3 H locs hq hw => ?_)
  obtain ⟨z_4, rfl, hz_4a, hz_4b, thk_5, hRk_5⟩ := hq
  show W p l e R s m args below meth c H locs _ _ _ (F0 m 9 ls [.int (iN (z_4))])
  refine x_if_ne (tgt := 39) hC ⟨by omega, by omega⟩ dX5_isBad__9 (by decide) (fun c_6 => ?_) (fun c_6 => ?_)
  · refine x_const hC dX5_isBad__39 ?_
    refine lv_goto (tgt := 44) hC.1 hC.2.1 dX5_isBad__40 (by decide) ?_
    exact x_zret hC hw (by omega) dX5_isBad__44 (by omega) (by omega) ⟨1, rfl, by omega, by omega, _, hRk_5⟩
  · refine lv_aload_n hC.1 hC.2.1 dX5_isBad__12 rfl (lv_at hl 0 rfl) ?_
    refine lv_iload_n hC.1 hC.2.1 dX5_isBad__13 rfl (lv_at hl 2 rfl) ?_
    refine x_callS hC hw (lv_size hl) (c_X5_isNoKey l G (M := M_3) (p0 := p1) (by omega)) gX5_isBad__X5_isNoKey rfl dv_X5_isNoKey_s rfl (Nat.le_of_ble_eq_true rfl) (by rw [hRf]; decide) (by rw [hRl]; decide) (by omega) (by omega) dX5_isBad__14 (fun r9 M_7 H locs hq hw => ?_)
    obtain ⟨z_8, rfl, hM9, hz_8a, hz_8b⟩ := hq
    rw [hM9] at hw
    show W p l e R s m args below meth c H locs _ _ _ (F0 m 17 ls [.int (iN (z_8)), .ref a])
    refine x_if_ne (tgt := 27) hC ⟨by omega, by omega⟩ dX5_isBad__17 (by decide) (fun c_9 => ?_) (fun c_9 => ?_)
    · refine x_const hC dX5_isBad__27 ?_
      refine lv_goto (tgt := 32) hC.1 hC.2.1 dX5_isBad__28 (by decide) ?_
      refine x_const hC dX5_isBad__32 ?_
      refine x_callV hC hw (lv_size hl) (c_X5_refuse l G hRk_5 (p0 := 1) (by omega) (p1 := 2) (by omega) (by omega)) gX5_isBad__X5_refuse rfl dv_X5_refuse hRk_5.1.1 rfl rfl (Nat.le_of_ble_eq_true rfl) (by rw [hRf]; decide) (by rw [hRl]; decide) (by omega) (by omega) dX5_isBad__33 (fun r9 M_10 H locs hq hw => ?_)
      obtain ⟨z_11, rfl, hz_11a, hz_11b, thk_12, hRk_12⟩ := hq
      show W p l e R s m args below meth c H locs _ _ _ (F0 m 36 ls [.int (iN (z_11))])
      refine x_if_eq (tgt := 43) hC ⟨by omega, by omega⟩ dX5_isBad__36 (by decide) (fun c_13 => ?_) (fun c_13 => ?_)
      · refine x_const hC dX5_isBad__43 ?_
        exact x_zret hC hw (by omega) dX5_isBad__44 (by omega) (by omega) ⟨0, rfl, by omega, by omega, _, hRk_12⟩
      · refine x_const hC dX5_isBad__39 ?_
        refine lv_goto (tgt := 44) hC.1 hC.2.1 dX5_isBad__40 (by decide) ?_
        exact x_zret hC hw (by omega) dX5_isBad__44 (by omega) (by omega) ⟨1, rfl, by omega, by omega, _, hRk_12⟩
    · refine lv_iload_n hC.1 hC.2.1 dX5_isBad__20 rfl (lv_at hl 3 rfl) ?_
      refine x_callS hC hw (lv_size hl) (c_X5_isNoValue l G (M := M_3) (p0 := p2) (by omega)) gX5_isBad__X5_isNoValue rfl dv_X5_isNoValue_s rfl (Nat.le_of_ble_eq_true rfl) (by rw [hRf]; decide) (by rw [hRl]; decide) (by omega) (by omega) dX5_isBad__21 (fun r9 M_14 H locs hq hw => ?_)
      obtain ⟨z_15, rfl, hM9, hz_15a, hz_15b⟩ := hq
      rw [hM9] at hw
      show W p l e R s m args below meth c H locs _ _ _ (F0 m 24 ls [.int (iN (z_15)), .ref a])
      refine x_if_eq (tgt := 31) hC ⟨by omega, by omega⟩ dX5_isBad__24 (by decide) (fun c_16 => ?_) (fun c_16 => ?_)
      · refine x_const hC dX5_isBad__31 ?_
        refine x_const hC dX5_isBad__32 ?_
        refine x_callV hC hw (lv_size hl) (c_X5_refuse l G hRk_5 (p0 := 0) (by omega) (p1 := 2) (by omega) (by omega)) gX5_isBad__X5_refuse rfl dv_X5_refuse hRk_5.1.1 rfl rfl (Nat.le_of_ble_eq_true rfl) (by rw [hRf]; decide) (by rw [hRl]; decide) (by omega) (by omega) dX5_isBad__33 (fun r9 M_17 H locs hq hw => ?_)
        obtain ⟨z_18, rfl, hz_18a, hz_18b, thk_19, hRk_19⟩ := hq
        show W p l e R s m args below meth c H locs _ _ _ (F0 m 36 ls [.int (iN (z_18))])
        refine x_if_eq (tgt := 43) hC ⟨by omega, by omega⟩ dX5_isBad__36 (by decide) (fun c_20 => ?_) (fun c_20 => ?_)
        · refine x_const hC dX5_isBad__43 ?_
          exact x_zret hC hw (by omega) dX5_isBad__44 (by omega) (by omega) ⟨0, rfl, by omega, by omega, _, hRk_19⟩
        · refine x_const hC dX5_isBad__39 ?_
          refine lv_goto (tgt := 44) hC.1 hC.2.1 dX5_isBad__40 (by decide) ?_
          exact x_zret hC hw (by omega) dX5_isBad__44 (by omega) (by omega) ⟨1, rfl, by omega, by omega, _, hRk_19⟩
      · refine x_const hC dX5_isBad__27 ?_
        refine lv_goto (tgt := 32) hC.1 hC.2.1 dX5_isBad__28 (by decide) ?_
        refine x_const hC dX5_isBad__32 ?_
        refine x_callV hC hw (lv_size hl) (c_X5_refuse l G hRk_5 (p0 := 1) (by omega) (p1 := 2) (by omega) (by omega)) gX5_isBad__X5_refuse rfl dv_X5_refuse hRk_5.1.1 rfl rfl (Nat.le_of_ble_eq_true rfl) (by rw [hRf]; decide) (by rw [hRl]; decide) (by omega) (by omega) dX5_isBad__33 (fun r9 M_21 H locs hq hw => ?_)
        obtain ⟨z_22, rfl, hz_22a, hz_22b, thk_23, hRk_23⟩ := hq
        show W p l e R s m args below meth c H locs _ _ _ (F0 m 36 ls [.int (iN (z_22))])
        refine x_if_eq (tgt := 43) hC ⟨by omega, by omega⟩ dX5_isBad__36 (by decide) (fun c_24 => ?_) (fun c_24 => ?_)
        · refine x_const hC dX5_isBad__43 ?_
          exact x_zret hC hw (by omega) dX5_isBad__44 (by omega) (by omega) ⟨0, rfl, by omega, by omega, _, hRk_23⟩
        · refine x_const hC dX5_isBad__39 ?_
          refine lv_goto (tgt := 44) hC.1 hC.2.1 dX5_isBad__40 (by decide) ?_
          exact x_zret hC hw (by omega) dX5_isBad__44 (by omega) (by omega) ⟨1, rfl, by omega, by omega, _, hRk_23⟩
set_option maxHeartbeats 4000000 in
set_option maxRecDepth 100000 in
theorem c_X5_areBad (l : Launch) (G : xG) {M : HM} {a va oa wa ya : Nat} {wk : Option Nat} {th rfd br re la ha kp kv : Int32} {qv qw : Nat → Nat} {fa fb : Nat → Option Nat} {fvv fw : Nat → Nat → Int32} {fo : Nat → Int32} {fy : Nat → Option Nat} {S : Nat → Bool} (hR : MGx G M a va oa wa ya wk th rfd br re la ha kp kv qv qw fa fb fvv fw fo fy S) {p0 : Int} (hp0 : -2147483648 ≤ p0 ∧ p0 ≤ 2147483647) {p1 : Int} (hp1 : -2147483648 ≤ p1 ∧ p1 ≤ 2147483647) : xMet l G yX5_areBad wsX5_areBad 2 44 0 0 [.ref a, .int (iN (p0)), .int (iN (p1))] M (fun r M1 => ∃ (z : Int), r = some (.int (iN z)) ∧ (z = 0 ∨ z = 1) ∧ (z = 0 → (0 ≤ p0 ∧ p0 ≤ 2) ∧ (0 ≤ p1 ∧ p1 ≤ 2) ∧ p0 ≠ p1) ∧ ∃ (th1 : Int32), MGx G M1 a va oa wa ya wk th1 rfd br re la ha kp kv qv qw fa fb fvv fw fo fy S) := by
  refine x_intro (cc := cX5_areBad) (maxL := 3) (ret := (some .boolean)) (by decide +kernel) rfl (Nat.le_of_ble_eq_true rfl) ?_
  intro p e R s m args below meth c ls hRf hRc hRs hRl hC hw hl
  have hl : lv_has ls 3 [(0, .ref a), (1, .int (iN (p0))), (2, .int (iN (p1)))] := hl
  refine lv_aload_n hC.1 hC.2.1 dX5_areBad_0 rfl (lv_at hl 0 rfl) ?_
  refine lv_iload_n hC.1 hC.2.1 dX5_areBad_1 rfl (lv_at hl 1 rfl) ?_
  refine x_callS hC hw (lv_size hl) (c_X5_isNoBook l G (M := M) (p0 := p0) (by omega)) gX5_areBad_X5_isNoBook rfl dv_X5_isNoBook_s rfl (Nat.le_of_ble_eq_true rfl) (by rw [hRf]; decide) (by rw [hRl]; decide) (by omega) (by omega) dX5_areBad_2 (fun r9 M_1 H locs hq hw => ?_)
  obtain ⟨z_2, rfl, hM9, hz_2a, hz_2b⟩ := hq
  rw [hM9] at hw
  show W p l e R s m args below meth c H locs _ _ _ (F0 m 5 ls [.int (iN (z_2)), .ref a])
  refine x_if_ne (tgt := 15) hC ⟨by omega, by omega⟩ dX5_areBad_5 (by decide) (fun c_3 => ?_) (fun c_3 => ?_)
  · refine x_const hC dX5_areBad_15 ?_
    refine lv_goto (tgt := 20) hC.1 hC.2.1 dX5_areBad_16 (by decide) ?_
    refine x_const hC dX5_areBad_20 ?_
    refine x_callV hC hw (lv_size hl) (c_X5_start l G hR (p0 := 1) (by omega) (p1 := 1) (by omega) (by omega)) gX5_areBad_X5_start rfl dv_X5_start hR.1.1 rfl rfl (Nat.le_of_ble_eq_true rfl) (by rw [hRf]; decide) (by rw [hRl]; decide) (by omega) (by omega) dX5_areBad_21 (fun r9 M_4 H locs hq hw => ?_)
    obtain ⟨z_5, rfl, hz_5a, hz_5b, thk_6, hRk_6⟩ := hq
    show W p l e R s m args below meth c H locs _ _ _ (F0 m 24 ls [.int (iN (z_5))])
    refine x_if_ne (tgt := 45) hC ⟨by omega, by omega⟩ dX5_areBad_24 (by decide) (fun c_7 => ?_) (fun c_7 => ?_)
    · refine x_const hC dX5_areBad_45 ?_
      refine lv_goto (tgt := 50) hC.1 hC.2.1 dX5_areBad_46 (by decide) ?_
      exact x_zret hC hw (by omega) dX5_areBad_50 (by omega) (by omega) ⟨1, rfl, by omega, by omega, _, hRk_6⟩
    · refine lv_aload_n hC.1 hC.2.1 dX5_areBad_27 rfl (lv_at hl 0 rfl) ?_
      refine lv_iload_n hC.1 hC.2.1 dX5_areBad_28 rfl (lv_at hl 1 rfl) ?_
      refine lv_iload_n hC.1 hC.2.1 dX5_areBad_29 rfl (lv_at hl 2 rfl) ?_
      refine x_icmp_ne (tgt := 37) hC ⟨by omega, by omega⟩ ⟨by omega, by omega⟩ dX5_areBad_30 (by decide) (fun c_8 => ?_) (fun c_8 => ?_)
      · refine x_const hC dX5_areBad_37 ?_
        refine x_const hC dX5_areBad_38 ?_
        refine x_callV hC hw (lv_size hl) (c_X5_refuse l G hRk_6 (p0 := 0) (by omega) (p1 := 2) (by omega) (by omega)) gX5_areBad_X5_refuse rfl dv_X5_refuse hRk_6.1.1 rfl rfl (Nat.le_of_ble_eq_true rfl) (by rw [hRf]; decide) (by rw [hRl]; decide) (by omega) (by omega) dX5_areBad_39 (fun r9 M_9 H locs hq hw => ?_)
        obtain ⟨z_10, rfl, hz_10a, hz_10b, thk_11, hRk_11⟩ := hq
        show W p l e R s m args below meth c H locs _ _ _ (F0 m 42 ls [.int (iN (z_10))])
        refine x_if_eq (tgt := 49) hC ⟨by omega, by omega⟩ dX5_areBad_42 (by decide) (fun c_12 => ?_) (fun c_12 => ?_)
        · refine x_const hC dX5_areBad_49 ?_
          exact x_zret hC hw (by omega) dX5_areBad_50 (by omega) (by omega) ⟨0, rfl, by omega, by omega, _, hRk_11⟩
        · refine x_const hC dX5_areBad_45 ?_
          refine lv_goto (tgt := 50) hC.1 hC.2.1 dX5_areBad_46 (by decide) ?_
          exact x_zret hC hw (by omega) dX5_areBad_50 (by omega) (by omega) ⟨1, rfl, by omega, by omega, _, hRk_11⟩
      · refine x_const hC dX5_areBad_33 ?_
        refine lv_goto (tgt := 38) hC.1 hC.2.1 dX5_areBad_34 (by decide) ?_
        refine x_const hC dX5_areBad_38 ?_
        refine x_callV hC hw (lv_size hl) (c_X5_refuse l G hRk_6 (p0 := 1) (by omega) (p1 := 2) (by omega) (by omega)) gX5_areBad_X5_refuse rfl dv_X5_refuse hRk_6.1.1 rfl rfl (Nat.le_of_ble_eq_true rfl) (by rw [hRf]; decide) (by rw [hRl]; decide) (by omega) (by omega) dX5_areBad_39 (fun r9 M_13 H locs hq hw => ?_)
        obtain ⟨z_14, rfl, hz_14a, hz_14b, thk_15, hRk_15⟩ := hq
        show W p l e R s m args below meth c H locs _ _ _ (F0 m 42 ls [.int (iN (z_14))])
        refine x_if_eq (tgt := 49) hC ⟨by omega, by omega⟩ dX5_areBad_42 (by decide) (fun c_16 => ?_) (fun c_16 => ?_)
        · refine x_const hC dX5_areBad_49 ?_
          exact x_zret hC hw (by omega) dX5_areBad_50 (by omega) (by omega) ⟨0, rfl, by omega, by omega, _, hRk_15⟩
        · refine x_const hC dX5_areBad_45 ?_
          refine lv_goto (tgt := 50) hC.1 hC.2.1 dX5_areBad_46 (by decide) ?_
          exact x_zret hC hw (by omega) dX5_areBad_50 (by omega) (by omega) ⟨1, rfl, by omega, by omega, _, hRk_15⟩
  · refine lv_iload_n hC.1 hC.2.1 dX5_areBad_8 rfl (lv_at hl 2 rfl) ?_
    refine x_callS hC hw (lv_size hl) (c_X5_isNoBook l G (M := M) (p0 := p1) (by omega)) gX5_areBad_X5_isNoBook rfl dv_X5_isNoBook_s rfl (Nat.le_of_ble_eq_true rfl) (by rw [hRf]; decide) (by rw [hRl]; decide) (by omega) (by omega) dX5_areBad_9 (fun r9 M_17 H locs hq hw => ?_)
    obtain ⟨z_18, rfl, hM9, hz_18a, hz_18b⟩ := hq
    rw [hM9] at hw
    show W p l e R s m args below meth c H locs _ _ _ (F0 m 12 ls [.int (iN (z_18)), .ref a])
    refine x_if_eq (tgt := 19) hC ⟨by omega, by omega⟩ dX5_areBad_12 (by decide) (fun c_19 => ?_) (fun c_19 => ?_)
    · refine x_const hC dX5_areBad_19 ?_
      refine x_const hC dX5_areBad_20 ?_
      refine x_callV hC hw (lv_size hl) (c_X5_start l G hR (p0 := 0) (by omega) (p1 := 1) (by omega) (by omega)) gX5_areBad_X5_start rfl dv_X5_start hR.1.1 rfl rfl (Nat.le_of_ble_eq_true rfl) (by rw [hRf]; decide) (by rw [hRl]; decide) (by omega) (by omega) dX5_areBad_21 (fun r9 M_20 H locs hq hw => ?_)
      obtain ⟨z_21, rfl, hz_21a, hz_21b, thk_22, hRk_22⟩ := hq
      show W p l e R s m args below meth c H locs _ _ _ (F0 m 24 ls [.int (iN (z_21))])
      refine x_if_ne (tgt := 45) hC ⟨by omega, by omega⟩ dX5_areBad_24 (by decide) (fun c_23 => ?_) (fun c_23 => ?_)
      · refine x_const hC dX5_areBad_45 ?_
        refine lv_goto (tgt := 50) hC.1 hC.2.1 dX5_areBad_46 (by decide) ?_
        exact x_zret hC hw (by omega) dX5_areBad_50 (by omega) (by omega) ⟨1, rfl, by omega, by omega, _, hRk_22⟩
      · refine lv_aload_n hC.1 hC.2.1 dX5_areBad_27 rfl (lv_at hl 0 rfl) ?_
        refine lv_iload_n hC.1 hC.2.1 dX5_areBad_28 rfl (lv_at hl 1 rfl) ?_
        refine lv_iload_n hC.1 hC.2.1 dX5_areBad_29 rfl (lv_at hl 2 rfl) ?_
        refine x_icmp_ne (tgt := 37) hC ⟨by omega, by omega⟩ ⟨by omega, by omega⟩ dX5_areBad_30 (by decide) (fun c_24 => ?_) (fun c_24 => ?_)
        · refine x_const hC dX5_areBad_37 ?_
          refine x_const hC dX5_areBad_38 ?_
          refine x_callV hC hw (lv_size hl) (c_X5_refuse l G hRk_22 (p0 := 0) (by omega) (p1 := 2) (by omega) (by omega)) gX5_areBad_X5_refuse rfl dv_X5_refuse hRk_22.1.1 rfl rfl (Nat.le_of_ble_eq_true rfl) (by rw [hRf]; decide) (by rw [hRl]; decide) (by omega) (by omega) dX5_areBad_39 (fun r9 M_25 H locs hq hw => ?_)
          obtain ⟨z_26, rfl, hz_26a, hz_26b, thk_27, hRk_27⟩ := hq
          show W p l e R s m args below meth c H locs _ _ _ (F0 m 42 ls [.int (iN (z_26))])
          refine x_if_eq (tgt := 49) hC ⟨by omega, by omega⟩ dX5_areBad_42 (by decide) (fun c_28 => ?_) (fun c_28 => ?_)
          · refine x_const hC dX5_areBad_49 ?_
            exact x_zret hC hw (by omega) dX5_areBad_50 (by omega) (by omega) ⟨0, rfl, by omega, by omega, _, hRk_27⟩
          · refine x_const hC dX5_areBad_45 ?_
            refine lv_goto (tgt := 50) hC.1 hC.2.1 dX5_areBad_46 (by decide) ?_
            exact x_zret hC hw (by omega) dX5_areBad_50 (by omega) (by omega) ⟨1, rfl, by omega, by omega, _, hRk_27⟩
        · refine x_const hC dX5_areBad_33 ?_
          refine lv_goto (tgt := 38) hC.1 hC.2.1 dX5_areBad_34 (by decide) ?_
          refine x_const hC dX5_areBad_38 ?_
          refine x_callV hC hw (lv_size hl) (c_X5_refuse l G hRk_22 (p0 := 1) (by omega) (p1 := 2) (by omega) (by omega)) gX5_areBad_X5_refuse rfl dv_X5_refuse hRk_22.1.1 rfl rfl (Nat.le_of_ble_eq_true rfl) (by rw [hRf]; decide) (by rw [hRl]; decide) (by omega) (by omega) dX5_areBad_39 (fun r9 M_29 H locs hq hw => ?_)
          obtain ⟨z_30, rfl, hz_30a, hz_30b, thk_31, hRk_31⟩ := hq
          show W p l e R s m args below meth c H locs _ _ _ (F0 m 42 ls [.int (iN (z_30))])
          refine x_if_eq (tgt := 49) hC ⟨by omega, by omega⟩ dX5_areBad_42 (by decide) (fun c_32 => ?_) (fun c_32 => ?_)
          · refine x_const hC dX5_areBad_49 ?_
            exact x_zret hC hw (by omega) dX5_areBad_50 (by omega) (by omega) ⟨0, rfl, by omega, by omega, _, hRk_31⟩
          · refine x_const hC dX5_areBad_45 ?_
            refine lv_goto (tgt := 50) hC.1 hC.2.1 dX5_areBad_46 (by decide) ?_
            exact x_zret hC hw (by omega) dX5_areBad_50 (by omega) (by omega) ⟨1, rfl, by omega, by omega, _, hRk_31⟩
    · refine x_const hC dX5_areBad_15 ?_
      refine lv_goto (tgt := 20) hC.1 hC.2.1 dX5_areBad_16 (by decide) ?_
      refine x_const hC dX5_areBad_20 ?_
      refine x_callV hC hw (lv_size hl) (c_X5_start l G hR (p0 := 1) (by omega) (p1 := 1) (by omega) (by omega)) gX5_areBad_X5_start rfl dv_X5_start hR.1.1 rfl rfl (Nat.le_of_ble_eq_true rfl) (by rw [hRf]; decide) (by rw [hRl]; decide) (by omega) (by omega) dX5_areBad_21 (fun r9 M_33 H locs hq hw => ?_)
      obtain ⟨z_34, rfl, hz_34a, hz_34b, thk_35, hRk_35⟩ := hq
      show W p l e R s m args below meth c H locs _ _ _ (F0 m 24 ls [.int (iN (z_34))])
      refine x_if_ne (tgt := 45) hC ⟨by omega, by omega⟩ dX5_areBad_24 (by decide) (fun c_36 => ?_) (fun c_36 => ?_)
      · refine x_const hC dX5_areBad_45 ?_
        refine lv_goto (tgt := 50) hC.1 hC.2.1 dX5_areBad_46 (by decide) ?_
        exact x_zret hC hw (by omega) dX5_areBad_50 (by omega) (by omega) ⟨1, rfl, by omega, by omega, _, hRk_35⟩
      · refine lv_aload_n hC.1 hC.2.1 dX5_areBad_27 rfl (lv_at hl 0 rfl) ?_
        refine lv_iload_n hC.1 hC.2.1 dX5_areBad_28 rfl (lv_at hl 1 rfl) ?_
        refine lv_iload_n hC.1 hC.2.1 dX5_areBad_29 rfl (lv_at hl 2 rfl) ?_
        refine x_icmp_ne (tgt := 37) hC ⟨by omega, by omega⟩ ⟨by omega, by omega⟩ dX5_areBad_30 (by decide) (fun c_37 => ?_) (fun c_37 => ?_)
        · refine x_const hC dX5_areBad_37 ?_
          refine x_const hC dX5_areBad_38 ?_
          refine x_callV hC hw (lv_size hl) (c_X5_refuse l G hRk_35 (p0 := 0) (by omega) (p1 := 2) (by omega) (by omega)) gX5_areBad_X5_refuse rfl dv_X5_refuse hRk_35.1.1 rfl rfl (Nat.le_of_ble_eq_true rfl) (by rw [hRf]; decide) (by rw [hRl]; decide) (by omega) (by omega) dX5_areBad_39 (fun r9 M_38 H locs hq hw => ?_)
          obtain ⟨z_39, rfl, hz_39a, hz_39b, thk_40, hRk_40⟩ := hq
          show W p l e R s m args below meth c H locs _ _ _ (F0 m 42 ls [.int (iN (z_39))])
          refine x_if_eq (tgt := 49) hC ⟨by omega, by omega⟩ dX5_areBad_42 (by decide) (fun c_41 => ?_) (fun c_41 => ?_)
          · refine x_const hC dX5_areBad_49 ?_
            exact x_zret hC hw (by omega) dX5_areBad_50 (by omega) (by omega) ⟨0, rfl, by omega, by omega, _, hRk_40⟩
          · refine x_const hC dX5_areBad_45 ?_
            refine lv_goto (tgt := 50) hC.1 hC.2.1 dX5_areBad_46 (by decide) ?_
            exact x_zret hC hw (by omega) dX5_areBad_50 (by omega) (by omega) ⟨1, rfl, by omega, by omega, _, hRk_40⟩
        · refine x_const hC dX5_areBad_33 ?_
          refine lv_goto (tgt := 38) hC.1 hC.2.1 dX5_areBad_34 (by decide) ?_
          refine x_const hC dX5_areBad_38 ?_
          refine x_callV hC hw (lv_size hl) (c_X5_refuse l G hRk_35 (p0 := 1) (by omega) (p1 := 2) (by omega) (by omega)) gX5_areBad_X5_refuse rfl dv_X5_refuse hRk_35.1.1 rfl rfl (Nat.le_of_ble_eq_true rfl) (by rw [hRf]; decide) (by rw [hRl]; decide) (by omega) (by omega) dX5_areBad_39 (fun r9 M_42 H locs hq hw => ?_)
          obtain ⟨z_43, rfl, hz_43a, hz_43b, thk_44, hRk_44⟩ := hq
          show W p l e R s m args below meth c H locs _ _ _ (F0 m 42 ls [.int (iN (z_43))])
          refine x_if_eq (tgt := 49) hC ⟨by omega, by omega⟩ dX5_areBad_42 (by decide) (fun c_45 => ?_) (fun c_45 => ?_)
          · refine x_const hC dX5_areBad_49 ?_
            exact x_zret hC hw (by omega) dX5_areBad_50 (by omega) (by omega) ⟨0, rfl, by omega, by omega, _, hRk_44⟩
          · refine x_const hC dX5_areBad_45 ?_
            refine lv_goto (tgt := 50) hC.1 hC.2.1 dX5_areBad_46 (by decide) ?_
            exact x_zret hC hw (by omega) dX5_areBad_50 (by omega) (by omega) ⟨1, rfl, by omega, by omega, _, hRk_44⟩
set_option maxHeartbeats 4000000 in
set_option maxRecDepth 100000 in
theorem c_X5_whole (l : Launch) (G : xG) {M : HM} {p0 : Int} (hp0 : -2147483648 ≤ p0 ∧ p0 ≤ 2147483647) (hop : 0 ≤ p0 ∧ p0 ≤ 2) : xMet l G yX5_whole wsX5_whole 0 0 1 5 [.int (iN (p0))] M (fun r M1 => ∃ (q : Nat) (f : Nat → Int32), r = some (.ref q) ∧ xExt M M1 ∧ Its G M1 q f ∧ (f 0).toInt = p0) := by
  refine x_intro (cc := cX5_whole) (maxL := 1) (ret := (some (.array .int))) (by decide +kernel) rfl (Nat.le_of_ble_eq_true rfl) ?_
  intro p e R s m args below meth c ls hRf hRc hRs hRl hC hw hl
  have hl : lv_has ls 1 [(0, .int (iN (p0)))] := hl
  refine x_const hC dX5_whole_0 ?_
  refine x_newI hC hw (by decide +kernel) 5 rfl (by decide) (by omega) (by omega) dX5_whole_1 (fun q_1 H hq_2 hw => ?_)
  obtain ⟨M_3, hM_4⟩ : ∃ z, z = va_up M q_1 (some (.inl (G.2 1, 5, .inl (fun _ => 0)))) := ⟨_, rfl⟩
  rw [← hM_4] at hw
  have hx_5 : xExt M M_3 := by rw [hM_4]; exact xExt.new hq_2
  have hA_6 : M_3 q_1 = some (.inl (G.2 1, 5, .inl (fun _ => 0))) := by rw [hM_4, va_up_self]
  refine lv_dup hC.1 hC.2.1 dX5_whole_3 rfl ?_
  refine x_const hC dX5_whole_4 ?_
  refine lv_iload_n hC.1 hC.2.1 dX5_whole_5 rfl (lv_at hl 0 rfl) ?_
  refine x_iast hC hw hA_6 (by omega) (by omega) (by omega) dX5_whole_6 (fun H locs hw => ?_)
  obtain ⟨M_7, hM_8⟩ : ∃ z, z = va_up M_3 q_1 (some (.inl (G.2 1, 5, .inl (upd (fun _ => 0) (0 : Int).toNat (iN (p0)))))) := ⟨_, rfl⟩
  rw [← hM_8] at hw
  have hA_9 : M_7 q_1 = some (.inl (G.2 1, 5, .inl (upd (fun _ => 0) (0 : Int).toNat (iN (p0))))) := by rw [hM_8, va_up_self]
  have hx_10 := xExt.upd hq_2 hx_5 hM_8
  refine lv_dup hC.1 hC.2.1 dX5_whole_7 rfl ?_
  refine x_const hC dX5_whole_8 ?_
  refine x_sipush hC dX5_whole_9 (by decide +kernel) ?_
  refine x_iast hC hw hA_9 (by omega) (by omega) (by omega) dX5_whole_12 (fun H locs hw => ?_)
  obtain ⟨M_11, hM_12⟩ : ∃ z, z = va_up M_7 q_1 (some (.inl (G.2 1, 5, .inl (upd (upd (fun _ => 0) (0 : Int).toNat (iN (p0))) (1 : Int).toNat (iN ((-10000))))))) := ⟨_, rfl⟩
  rw [← hM_12] at hw
  have hA_13 : M_11 q_1 = some (.inl (G.2 1, 5, .inl (upd (upd (fun _ => 0) (0 : Int).toNat (iN (p0))) (1 : Int).toNat (iN ((-10000)))))) := by rw [hM_12, va_up_self]
  have hx_14 := xExt.upd hq_2 hx_10 hM_12
  refine lv_dup hC.1 hC.2.1 dX5_whole_13 rfl ?_
  refine x_const hC dX5_whole_14 ?_
  refine x_const hC dX5_whole_15 ?_
  refine x_iast hC hw hA_13 (by omega) (by omega) (by omega) dX5_whole_16 (fun H locs hw => ?_)
  obtain ⟨M_15, hM_16⟩ : ∃ z, z = va_up M_11 q_1 (some (.inl (G.2 1, 5, .inl (upd (upd (upd (fun _ => 0) (0 : Int).toNat (iN (p0))) (1 : Int).toNat (iN ((-10000)))) (2 : Int).toNat (iN (0)))))) := ⟨_, rfl⟩
  rw [← hM_16] at hw
  have hA_17 : M_15 q_1 = some (.inl (G.2 1, 5, .inl (upd (upd (upd (fun _ => 0) (0 : Int).toNat (iN (p0))) (1 : Int).toNat (iN ((-10000)))) (2 : Int).toNat (iN (0))))) := by rw [hM_16, va_up_self]
  have hx_18 := xExt.upd hq_2 hx_14 hM_16
  refine lv_dup hC.1 hC.2.1 dX5_whole_17 rfl ?_
  refine x_const hC dX5_whole_18 ?_
  refine x_sipush hC dX5_whole_19 (by decide +kernel) ?_
  refine x_iast hC hw hA_17 (by omega) (by omega) (by omega) dX5_whole_22 (fun H locs hw => ?_)
  obtain ⟨M_19, hM_20⟩ : ∃ z, z = va_up M_15 q_1 (some (.inl (G.2 1, 5, .inl (upd (upd (upd (upd (fun _ => 0) (0 : Int).toNat (iN (p0))) (1 : Int).toNat (iN ((-10000)))) (2 : Int).toNat (iN (0))) (3 : Int).toNat (iN ((-10000))))))) := ⟨_, rfl⟩
  rw [← hM_20] at hw
  have hA_21 : M_19 q_1 = some (.inl (G.2 1, 5, .inl (upd (upd (upd (upd (fun _ => 0) (0 : Int).toNat (iN (p0))) (1 : Int).toNat (iN ((-10000)))) (2 : Int).toNat (iN (0))) (3 : Int).toNat (iN ((-10000)))))) := by rw [hM_20, va_up_self]
  have hx_22 := xExt.upd hq_2 hx_18 hM_20
  refine lv_dup hC.1 hC.2.1 dX5_whole_23 rfl ?_
  refine x_const hC dX5_whole_24 ?_
  refine x_const hC dX5_whole_25 ?_
  refine x_iast hC hw hA_21 (by omega) (by omega) (by omega) dX5_whole_26 (fun H locs hw => ?_)
  obtain ⟨M_23, hM_24⟩ : ∃ z, z = va_up M_19 q_1 (some (.inl (G.2 1, 5, .inl (upd (upd (upd (upd (upd (fun _ => 0) (0 : Int).toNat (iN (p0))) (1 : Int).toNat (iN ((-10000)))) (2 : Int).toNat (iN (0))) (3 : Int).toNat (iN ((-10000)))) (4 : Int).toNat (iN (0)))))) := ⟨_, rfl⟩
  rw [← hM_24] at hw
  have hA_25 : M_23 q_1 = some (.inl (G.2 1, 5, .inl (upd (upd (upd (upd (upd (fun _ => 0) (0 : Int).toNat (iN (p0))) (1 : Int).toNat (iN ((-10000)))) (2 : Int).toNat (iN (0))) (3 : Int).toNat (iN ((-10000)))) (4 : Int).toNat (iN (0))))) := by rw [hM_24, va_up_self]
  have hx_26 := xExt.upd hq_2 hx_22 hM_24
  have hI_27 : Its G M_23 q_1 (upd (upd (upd (upd (upd (fun _ => 0) (0 : Int).toNat (iN (p0))) (1 : Int).toNat (iN ((-10000)))) (2 : Int).toNat (iN (0))) (3 : Int).toNat (iN ((-10000)))) (4 : Int).toNat (iN (0))) := ⟨hA_25, (show 0 ≤ (iN (p0)).toInt ∧ (iN (p0)).toInt ≤ 2 by rw [iN_toInt ⟨by omega, by omega⟩]; omega), (show (iN ((-10000))).toInt = -10000 ∨ (0 ≤ (iN ((-10000))).toInt ∧ (iN ((-10000))).toInt ≤ 99) by rw [iN_toInt ⟨by omega, by omega⟩]; omega), (show 0 ≤ (iN (0)).toInt ∧ (iN (0)).toInt ≤ 1 by rw [iN_toInt ⟨by omega, by omega⟩]; omega), (show (iN ((-10000))).toInt = -10000 ∨ (0 ≤ (iN ((-10000))).toInt ∧ (iN ((-10000))).toInt ≤ 99) by rw [iN_toInt ⟨by omega, by omega⟩]; omega), (show 0 ≤ (iN (0)).toInt ∧ (iN (0)).toInt ≤ 1 by rw [iN_toInt ⟨by omega, by omega⟩]; omega)⟩
  exact x_aret hC hw (by first | exact Or.inl ⟨_, rfl⟩ | exact Or.inr ⟨_, rfl⟩) (Or.inr ⟨_, rfl⟩) dX5_whole_27 (by omega) (by omega) (by have hI9 : Its G M_23 q_1 _ := hI_27; exact ⟨_, _, rfl, hx_26, hI9, (show (iN (p0)).toInt = p0 from iN_toInt ⟨by omega, by omega⟩)⟩)
set_option maxHeartbeats 4000000 in
set_option maxRecDepth 100000 in
theorem c_X5_weight (l : Launch) (G : xG) {M : HM} {a va oa wa ya : Nat} {wk : Option Nat} {th rfd br re la ha kp kv : Int32} {qv qw : Nat → Nat} {fa fb : Nat → Option Nat} {fvv fw : Nat → Nat → Int32} {fo : Nat → Int32} {fy : Nat → Option Nat} {S : Nat → Bool} (hR : MGx G M a va oa wa ya wk th rfd br re la ha kp kv qv qw fa fb fvv fw fo fy S) {i : Nat} {fi : Nat → Int32} (hIi : Its G M i fi) {p0 : Int} (hp0 : -2147483648 ≤ p0 ∧ p0 ≤ 2147483647) (hop : 0 ≤ p0 ∧ p0 ≤ 99) : xMet l G yX5_weight wsX5_weight 0 0 0 0 [.ref a, .ref i, .int (iN (p0))] M (fun r M1 => ∃ z : Int, r = some (.int (iN z)) ∧ M1 = M ∧ (0 ≤ z ∧ z ≤ 999) ∧ z = mW fw fo fi p0.toNat) := by
  refine x_intro (cc := cX5_weight) (maxL := 3) (ret := (some .int)) (by decide +kernel) rfl (Nat.le_of_ble_eq_true rfl) ?_
  intro p e R s m args below meth c ls hRf hRc hRs hRl hC hw hl
  obtain ⟨hvt_1, hat_1, hbt_1, hct_1, hdt_1, het_1⟩ := id hIi
  have hinX5 : ∀ w ∈ wsX50, w ∈ wsX5_weight := by decide +kernel
  have hl : lv_has ls 3 [(0, .ref a), (1, .ref i), (2, .int (iN (p0)))] := hl
  refine lv_aload_n hC.1 hC.2.1 dX5_weight_0 rfl (lv_at hl 0 rfl) ?_
  refine x_get hC hw hR.1.1 rfl hinX5 4 (by decide) (by decide +kernel) rfl dX5_weight_1 ?_
  refine lv_aload_n hC.1 hC.2.1 dX5_weight_4 rfl (lv_at hl 0 rfl) ?_
  refine x_get hC hw hR.1.1 rfl hinX5 3 (by decide) (by decide +kernel) rfl dX5_weight_5 ?_
  refine lv_aload_n hC.1 hC.2.1 dX5_weight_8 rfl (lv_at hl 1 rfl) ?_
  refine x_const hC dX5_weight_9 ?_
  refine x_iald hC hw hIi.1 (by omega) (by omega) (by omega) dX5_weight_10 ?_
  obtain ⟨z_2, hz_2⟩ : ∃ z : Int, z = (fi (0 : Int).toNat).toInt := ⟨_, rfl⟩
  rw [← hz_2]
  have hz_2' : z_2 = (fi 0).toInt := hz_2
  have hrz_2 : -2147483648 ≤ z_2 ∧ z_2 ≤ 2147483647 := by rw [hz_2]; exact iN_rng _
  refine x_iald hC hw hR.1.2.2.1 (by omega) (by omega) (by omega) dX5_weight_11 ?_
  obtain ⟨z_3, hz_3⟩ : ∃ z : Int, z = (fo (z_2).toNat).toInt := ⟨_, rfl⟩
  rw [← hz_3]
  have hrz_3 : 0 ≤ z_3 ∧ z_3 ≤ 2 := by rw [hz_3]; exact hR.or' (by omega)
  refine x_ald4 hC hw hR.1.2.2.2.1 (by omega) (by omega) (by omega) dX5_weight_12 ?_
  rw [hR.fb' (show (z_3).toNat < 3 by omega)]
  show W p l e R s m args below meth c _ _ _ _ _ (F0 m 13 ls [.ref (qw (z_3).toNat)])
  refine lv_iload_n hC.1 hC.2.1 dX5_weight_13 rfl (lv_at hl 2 rfl) ?_
  refine x_iald hC hw (hR.rw' (show (z_3).toNat < 3 by omega)) (by omega) (by omega) (by omega) dX5_weight_14 ?_
  obtain ⟨z_4, hz_4⟩ : ∃ z : Int, z = ((fw (z_3).toNat) (p0).toNat).toInt := ⟨_, rfl⟩
  rw [← hz_4]
  have hrz_4 : 0 ≤ z_4 ∧ z_4 ≤ 999 := by rw [hz_4]; exact hR.wr (by omega) (by omega)
  exact x_iret hC hw dX5_weight_15 (by omega) (by omega) ⟨z_4, rfl, rfl, by omega, by rw [hz_4, hz_3, hz_2]; rfl⟩
set_option maxHeartbeats 4000000 in
set_option maxRecDepth 100000 in
theorem c_X5_isWithin (l : Launch) (G : xG) {M : HM} {a va oa wa ya : Nat} {wk : Option Nat} {th rfd br re la ha kp kv : Int32} {qv qw : Nat → Nat} {fa fb : Nat → Option Nat} {fvv fw : Nat → Nat → Int32} {fo : Nat → Int32} {fy : Nat → Option Nat} {S : Nat → Bool} (hR : MGx G M a va oa wa ya wk th rfd br re la ha kp kv qv qw fa fb fvv fw fo fy S) {i : Nat} {fi : Nat → Int32} (hIi : Its G M i fi) {p0 : Int} (hp0 : -2147483648 ≤ p0 ∧ p0 ≤ 2147483647) (hop : 0 ≤ p0 ∧ p0 ≤ 99) : xMet l G yX5_isWithin wsX5_isWithin 1 22 0 0 [.ref a, .ref i, .int (iN (p0))] M (fun r M1 => ∃ z : Int, r = some (.int (iN z)) ∧ M1 = M ∧ (z = 0 ∨ z = 1)) := by
  refine x_intro (cc := cX5_isWithin) (maxL := 4) (ret := (some .boolean)) (by decide +kernel) rfl (Nat.le_of_ble_eq_true rfl) ?_
  intro p e R s m args below meth c ls hRf hRc hRs hRl hC hw hl
  obtain ⟨hvt_1, hat_1, hbt_1, hct_1, hdt_1, het_1⟩ := id hIi
  have hl : lv_has ls 4 [(0, .ref a), (1, .ref i), (2, .int (iN (p0)))] := hl
  refine lv_aload_n hC.1 hC.2.1 dX5_isWithin_0 rfl (lv_at hl 0 rfl) ?_
  refine lv_aload_n hC.1 hC.2.1 dX5_isWithin_1 rfl (lv_at hl 1 rfl) ?_
  refine lv_iload_n hC.1 hC.2.1 dX5_isWithin_2 rfl (lv_at hl 2 rfl) ?_
  refine x_callV hC hw (lv_size hl) (c_X5_weight l G hR hIi (p0 := p0) (by omega) (by omega)) gX5_isWithin_X5_weight rfl dv_X5_weight hR.1.1 rfl rfl (Nat.le_of_ble_eq_true rfl) (by rw [hRf]; decide) (by rw [hRl]; decide) (by omega) (by omega) dX5_isWithin_3 (fun r9 M_2 H locs hq hw => ?_)
  obtain ⟨z_3, rfl, hM9, hz_3a, hz_3b⟩ := hq
  rw [hM9] at hw
  show W p l e R s m args below meth c H locs _ _ _ (F0 m 6 ls [.int (iN (z_3))])
  refine lv_istore_n (lv' := [(3, .int (iN (z_3))), (0, .ref a), (1, .ref i), (2, .int (iN (p0)))]) hC.1 hC.2.1 dX5_isWithin_6 rfl hl (by decide) rfl (fun ls hl => ?_)
  refine lv_aload_n hC.1 hC.2.1 dX5_isWithin_7 rfl (lv_at hl 2 rfl) ?_
  refine x_const hC dX5_isWithin_8 ?_
  refine x_iald hC hw hIi.1 (by omega) (by omega) (by omega) dX5_isWithin_9 ?_
  obtain ⟨z_4, hz_4⟩ : ∃ z : Int, z = (fi (1 : Int).toNat).toInt := ⟨_, rfl⟩
  rw [← hz_4]
  have hz_4' : z_4 = (fi 1).toInt := hz_4
  have hrz_4 : -2147483648 ≤ z_4 ∧ z_4 ≤ 2147483647 := by rw [hz_4]; exact iN_rng _
  refine x_sipush hC dX5_isWithin_10 (by decide +kernel) ?_
  refine x_icmp_eq (tgt := 36) hC ⟨by omega, by omega⟩ ⟨by omega, by omega⟩ dX5_isWithin_13 (by decide) (fun c_5 => ?_) (fun c_5 => ?_)
  · refine lv_aload_n hC.1 hC.2.1 dX5_isWithin_36 rfl (lv_at hl 2 rfl) ?_
    refine x_const hC dX5_isWithin_37 ?_
    refine x_iald hC hw hIi.1 (by omega) (by omega) (by omega) dX5_isWithin_38 ?_
    obtain ⟨z_6, hz_6⟩ : ∃ z : Int, z = (fi (3 : Int).toNat).toInt := ⟨_, rfl⟩
    rw [← hz_6]
    have hz_6' : z_6 = (fi 3).toInt := hz_6
    have hrz_6 : -2147483648 ≤ z_6 ∧ z_6 ≤ 2147483647 := by rw [hz_6]; exact iN_rng _
    refine x_sipush hC dX5_isWithin_39 (by decide +kernel) ?_
    refine x_icmp_eq (tgt := 63) hC ⟨by omega, by omega⟩ ⟨by omega, by omega⟩ dX5_isWithin_42 (by decide) (fun c_7 => ?_) (fun c_7 => ?_)
    · refine x_const hC dX5_isWithin_63 ?_
      refine lv_goto (tgt := 68) hC.1 hC.2.1 dX5_isWithin_64 (by decide) ?_
      exact x_zret hC hw (by omega) dX5_isWithin_68 (by omega) (by omega) ⟨1, rfl, rfl, by omega⟩
    · refine lv_iload_n hC.1 hC.2.1 dX5_isWithin_45 rfl (lv_at hl 0 rfl) ?_
      refine lv_aload_n hC.1 hC.2.1 dX5_isWithin_46 rfl (lv_at hl 1 rfl) ?_
      refine lv_aload_n hC.1 hC.2.1 dX5_isWithin_47 rfl (lv_at hl 2 rfl) ?_
      refine lv_aload_n hC.1 hC.2.1 dX5_isWithin_48 rfl (lv_at hl 2 rfl) ?_
      refine x_const hC dX5_isWithin_49 ?_
      refine x_iald hC hw hIi.1 (by omega) (by omega) (by omega) dX5_isWithin_50 ?_
      obtain ⟨z_8, hz_8⟩ : ∃ z : Int, z = (fi (3 : Int).toNat).toInt := ⟨_, rfl⟩
      rw [← hz_8]
      have hz_8' : z_8 = (fi 3).toInt := hz_8
      have hrz_8 : -2147483648 ≤ z_8 ∧ z_8 ≤ 2147483647 := by rw [hz_8]; exact iN_rng _
      refine x_callV hC hw (lv_size hl) (c_X5_weight l G hR hIi (p0 := z_8) (by omega) (by omega)) gX5_isWithin_X5_weight rfl dv_X5_weight hR.1.1 rfl rfl (Nat.le_of_ble_eq_true rfl) (by rw [hRf]; decide) (by rw [hRl]; decide) (by omega) (by omega) dX5_isWithin_51 (fun r9 M_9 H locs hq hw => ?_)
      obtain ⟨z_10, rfl, hM9, hz_10a, hz_10b⟩ := hq
      rw [hM9] at hw
      show W p l e R s m args below meth c H locs _ _ _ (F0 m 54 ls [.int (iN (z_10)), .int (iN (z_3))])
      refine x_const hC dX5_isWithin_54 ?_
      refine x_isub hC dX5_isWithin_55 ?_
      refine lv_aload_n hC.1 hC.2.1 dX5_isWithin_56 rfl (lv_at hl 2 rfl) ?_
      refine x_const hC dX5_isWithin_57 ?_
      refine x_iald hC hw hIi.1 (by omega) (by omega) (by omega) dX5_isWithin_58 ?_
      obtain ⟨z_11, hz_11⟩ : ∃ z : Int, z = (fi (4 : Int).toNat).toInt := ⟨_, rfl⟩
      rw [← hz_11]
      have hz_11' : z_11 = (fi 4).toInt := hz_11
      have hrz_11 : -2147483648 ≤ z_11 ∧ z_11 ≤ 2147483647 := by rw [hz_11]; exact iN_rng _
      refine x_iadd hC dX5_isWithin_59 ?_
      refine x_icmp_gt (tgt := 67) hC ⟨by omega, by omega⟩ ⟨by omega, by omega⟩ dX5_isWithin_60 (by decide) (fun c_12 => ?_) (fun c_12 => ?_)
      · refine x_const hC dX5_isWithin_67 ?_
        exact x_zret hC hw (by omega) dX5_isWithin_68 (by omega) (by omega) ⟨0, rfl, rfl, by omega⟩
      · refine x_const hC dX5_isWithin_63 ?_
        refine lv_goto (tgt := 68) hC.1 hC.2.1 dX5_isWithin_64 (by decide) ?_
        exact x_zret hC hw (by omega) dX5_isWithin_68 (by omega) (by omega) ⟨1, rfl, rfl, by omega⟩
  · refine lv_iload_n hC.1 hC.2.1 dX5_isWithin_16 rfl (lv_at hl 0 rfl) ?_
    refine lv_aload_n hC.1 hC.2.1 dX5_isWithin_17 rfl (lv_at hl 1 rfl) ?_
    refine lv_aload_n hC.1 hC.2.1 dX5_isWithin_18 rfl (lv_at hl 2 rfl) ?_
    refine lv_aload_n hC.1 hC.2.1 dX5_isWithin_19 rfl (lv_at hl 2 rfl) ?_
    refine x_const hC dX5_isWithin_20 ?_
    refine x_iald hC hw hIi.1 (by omega) (by omega) (by omega) dX5_isWithin_21 ?_
    obtain ⟨z_13, hz_13⟩ : ∃ z : Int, z = (fi (1 : Int).toNat).toInt := ⟨_, rfl⟩
    rw [← hz_13]
    have hz_13' : z_13 = (fi 1).toInt := hz_13
    have hrz_13 : -2147483648 ≤ z_13 ∧ z_13 ≤ 2147483647 := by rw [hz_13]; exact iN_rng _
    refine x_callV hC hw (lv_size hl) (c_X5_weight l G hR hIi (p0 := z_13) (by omega) (by omega)) gX5_isWithin_X5_weight rfl dv_X5_weight hR.1.1 rfl rfl (Nat.le_of_ble_eq_true rfl) (by rw [hRf]; decide) (by rw [hRl]; decide) (by omega) (by omega) dX5_isWithin_22 (fun r9 M_14 H locs hq hw => ?_)
    obtain ⟨z_15, rfl, hM9, hz_15a, hz_15b⟩ := hq
    rw [hM9] at hw
    show W p l e R s m args below meth c H locs _ _ _ (F0 m 25 ls [.int (iN (z_15)), .int (iN (z_3))])
    refine x_const hC dX5_isWithin_25 ?_
    refine x_iadd hC dX5_isWithin_26 ?_
    refine lv_aload_n hC.1 hC.2.1 dX5_isWithin_27 rfl (lv_at hl 2 rfl) ?_
    refine x_const hC dX5_isWithin_28 ?_
    refine x_iald hC hw hIi.1 (by omega) (by omega) (by omega) dX5_isWithin_29 ?_
    obtain ⟨z_16, hz_16⟩ : ∃ z : Int, z = (fi (2 : Int).toNat).toInt := ⟨_, rfl⟩
    rw [← hz_16]
    have hz_16' : z_16 = (fi 2).toInt := hz_16
    have hrz_16 : -2147483648 ≤ z_16 ∧ z_16 ≤ 2147483647 := by rw [hz_16]; exact iN_rng _
    refine x_isub hC dX5_isWithin_30 ?_
    refine x_icmp_ge (tgt := 36) hC ⟨by omega, by omega⟩ ⟨by omega, by omega⟩ dX5_isWithin_31 (by decide) (fun c_17 => ?_) (fun c_17 => ?_)
    · refine lv_aload_n hC.1 hC.2.1 dX5_isWithin_36 rfl (lv_at hl 2 rfl) ?_
      refine x_const hC dX5_isWithin_37 ?_
      refine x_iald hC hw hIi.1 (by omega) (by omega) (by omega) dX5_isWithin_38 ?_
      obtain ⟨z_18, hz_18⟩ : ∃ z : Int, z = (fi (3 : Int).toNat).toInt := ⟨_, rfl⟩
      rw [← hz_18]
      have hz_18' : z_18 = (fi 3).toInt := hz_18
      have hrz_18 : -2147483648 ≤ z_18 ∧ z_18 ≤ 2147483647 := by rw [hz_18]; exact iN_rng _
      refine x_sipush hC dX5_isWithin_39 (by decide +kernel) ?_
      refine x_icmp_eq (tgt := 63) hC ⟨by omega, by omega⟩ ⟨by omega, by omega⟩ dX5_isWithin_42 (by decide) (fun c_19 => ?_) (fun c_19 => ?_)
      · refine x_const hC dX5_isWithin_63 ?_
        refine lv_goto (tgt := 68) hC.1 hC.2.1 dX5_isWithin_64 (by decide) ?_
        exact x_zret hC hw (by omega) dX5_isWithin_68 (by omega) (by omega) ⟨1, rfl, rfl, by omega⟩
      · refine lv_iload_n hC.1 hC.2.1 dX5_isWithin_45 rfl (lv_at hl 0 rfl) ?_
        refine lv_aload_n hC.1 hC.2.1 dX5_isWithin_46 rfl (lv_at hl 1 rfl) ?_
        refine lv_aload_n hC.1 hC.2.1 dX5_isWithin_47 rfl (lv_at hl 2 rfl) ?_
        refine lv_aload_n hC.1 hC.2.1 dX5_isWithin_48 rfl (lv_at hl 2 rfl) ?_
        refine x_const hC dX5_isWithin_49 ?_
        refine x_iald hC hw hIi.1 (by omega) (by omega) (by omega) dX5_isWithin_50 ?_
        obtain ⟨z_20, hz_20⟩ : ∃ z : Int, z = (fi (3 : Int).toNat).toInt := ⟨_, rfl⟩
        rw [← hz_20]
        have hz_20' : z_20 = (fi 3).toInt := hz_20
        have hrz_20 : -2147483648 ≤ z_20 ∧ z_20 ≤ 2147483647 := by rw [hz_20]; exact iN_rng _
        refine x_callV hC hw (lv_size hl) (c_X5_weight l G hR hIi (p0 := z_20) (by omega) (by omega)) gX5_isWithin_X5_weight rfl dv_X5_weight hR.1.1 rfl rfl (Nat.le_of_ble_eq_true rfl) (by rw [hRf]; decide) (by rw [hRl]; decide) (by omega) (by omega) dX5_isWithin_51 (fun r9 M_21 H locs hq hw => ?_)
        obtain ⟨z_22, rfl, hM9, hz_22a, hz_22b⟩ := hq
        rw [hM9] at hw
        show W p l e R s m args below meth c H locs _ _ _ (F0 m 54 ls [.int (iN (z_22)), .int (iN (z_3))])
        refine x_const hC dX5_isWithin_54 ?_
        refine x_isub hC dX5_isWithin_55 ?_
        refine lv_aload_n hC.1 hC.2.1 dX5_isWithin_56 rfl (lv_at hl 2 rfl) ?_
        refine x_const hC dX5_isWithin_57 ?_
        refine x_iald hC hw hIi.1 (by omega) (by omega) (by omega) dX5_isWithin_58 ?_
        obtain ⟨z_23, hz_23⟩ : ∃ z : Int, z = (fi (4 : Int).toNat).toInt := ⟨_, rfl⟩
        rw [← hz_23]
        have hz_23' : z_23 = (fi 4).toInt := hz_23
        have hrz_23 : -2147483648 ≤ z_23 ∧ z_23 ≤ 2147483647 := by rw [hz_23]; exact iN_rng _
        refine x_iadd hC dX5_isWithin_59 ?_
        refine x_icmp_gt (tgt := 67) hC ⟨by omega, by omega⟩ ⟨by omega, by omega⟩ dX5_isWithin_60 (by decide) (fun c_24 => ?_) (fun c_24 => ?_)
        · refine x_const hC dX5_isWithin_67 ?_
          exact x_zret hC hw (by omega) dX5_isWithin_68 (by omega) (by omega) ⟨0, rfl, rfl, by omega⟩
        · refine x_const hC dX5_isWithin_63 ?_
          refine lv_goto (tgt := 68) hC.1 hC.2.1 dX5_isWithin_64 (by decide) ?_
          exact x_zret hC hw (by omega) dX5_isWithin_68 (by omega) (by omega) ⟨1, rfl, rfl, by omega⟩
    · refine x_const hC dX5_isWithin_34 ?_
      exact x_zret hC hw (by omega) dX5_isWithin_35 (by omega) (by omega) ⟨0, rfl, rfl, by omega⟩
set_option maxHeartbeats 4000000 in
set_option maxRecDepth 100000 in
theorem c_X5_shows (l : Launch) (G : xG) {M : HM} {a va oa wa ya : Nat} {wk : Option Nat} {th rfd br re la ha kp kv : Int32} {qv qw : Nat → Nat} {fa fb : Nat → Option Nat} {fvv fw : Nat → Nat → Int32} {fo : Nat → Int32} {fy : Nat → Option Nat} {S : Nat → Bool} (hR : MGx G M a va oa wa ya wk th rfd br re la ha kp kv qv qw fa fb fvv fw fo fy S) {i : Nat} {fi : Nat → Int32} (hIi : Its G M i fi) {p0 : Int} (hp0 : -2147483648 ≤ p0 ∧ p0 ≤ 2147483647) (hop : 0 ≤ p0 ∧ p0 ≤ 99) : xMet l G yX5_shows wsX5_shows 2 45 0 0 [.ref a, .ref i, .int (iN (p0))] M (fun r M1 => ∃ z : Int, r = some (.int (iN z)) ∧ M1 = M ∧ (z = 0 ∨ z = 1) ∧ (z ≠ 0 → mP S fvv fi p0.toNat)) := by
  refine x_intro (cc := cX5_shows) (maxL := 3) (ret := (some .boolean)) (by decide +kernel) rfl (Nat.le_of_ble_eq_true rfl) ?_
  intro p e R s m args below meth c ls hRf hRc hRs hRl hC hw hl
  obtain ⟨hvt_1, hat_1, hbt_1, hct_1, hdt_1, het_1⟩ := id hIi
  have hinX5 : ∀ w ∈ wsX50, w ∈ wsX5_shows := by decide +kernel
  have hl : lv_has ls 3 [(0, .ref a), (1, .ref i), (2, .int (iN (p0)))] := hl
  refine lv_aload_n hC.1 hC.2.1 dX5_shows_0 rfl (lv_at hl 0 rfl) ?_
  refine x_get hC hw hR.1.1 rfl hinX5 2 (by decide) (by decide +kernel) rfl dX5_shows_1 ?_
  refine lv_aload_n hC.1 hC.2.1 dX5_shows_4 rfl (lv_at hl 1 rfl) ?_
  refine x_const hC dX5_shows_5 ?_
  refine x_iald hC hw hIi.1 (by omega) (by omega) (by omega) dX5_shows_6 ?_
  obtain ⟨z_2, hz_2⟩ : ∃ z : Int, z = (fi (0 : Int).toNat).toInt := ⟨_, rfl⟩
  rw [← hz_2]
  have hz_2' : z_2 = (fi 0).toInt := hz_2
  have hrz_2 : -2147483648 ≤ z_2 ∧ z_2 ≤ 2147483647 := by rw [hz_2]; exact iN_rng _
  refine x_ald4 hC hw hR.1.2.1 (by omega) (by omega) (by omega) dX5_shows_7 ?_
  rw [hR.fa' (show (z_2).toNat < 3 by omega)]
  show W p l e R s m args below meth c _ _ _ _ _ (F0 m 8 ls [.ref (qv (z_2).toNat)])
  refine lv_iload_n hC.1 hC.2.1 dX5_shows_8 rfl (lv_at hl 2 rfl) ?_
  refine x_iald hC hw (hR.rv (show (z_2).toNat < 3 by omega)) (by omega) (by omega) (by omega) dX5_shows_9 ?_
  obtain ⟨z_3, hz_3⟩ : ∃ z : Int, z = ((fvv (z_2).toNat) (p0).toNat).toInt := ⟨_, rfl⟩
  rw [← hz_3]
  have hrz_3 : -10000 ≤ z_3 ∧ z_3 ≤ 9999 := by rw [hz_3]; exact hR.vr (by omega) (by omega)
  have hpz_3 : z_3 ≠ -10000 → S (p0).toNat = true := by rw [hz_3]; exact hR.vs (by omega) (by omega)
  refine x_sipush hC dX5_shows_10 (by decide +kernel) ?_
  refine x_icmp_eq (tgt := 29) hC ⟨by omega, by omega⟩ ⟨by omega, by omega⟩ dX5_shows_13 (by decide) (fun c_4 => ?_) (fun c_4 => ?_)
  · refine x_const hC dX5_shows_29 ?_
    exact x_zret hC hw (by omega) dX5_shows_30 (by omega) (by omega) ⟨0, rfl, rfl, by omega, fun q9 => absurd rfl q9⟩
  · refine lv_aload_n hC.1 hC.2.1 dX5_shows_16 rfl (lv_at hl 0 rfl) ?_
    refine lv_aload_n hC.1 hC.2.1 dX5_shows_17 rfl (lv_at hl 1 rfl) ?_
    refine lv_iload_n hC.1 hC.2.1 dX5_shows_18 rfl (lv_at hl 2 rfl) ?_
    refine x_callV hC hw (lv_size hl) (c_X5_isWithin l G hR hIi (p0 := p0) (by omega) (by omega)) gX5_shows_X5_isWithin rfl dv_X5_isWithin hR.1.1 rfl rfl (Nat.le_of_ble_eq_true rfl) (by rw [hRf]; decide) (by rw [hRl]; decide) (by omega) (by omega) dX5_shows_19 (fun r9 M_5 H locs hq hw => ?_)
    obtain ⟨z_6, rfl, hM9, hz_6a⟩ := hq
    rw [hM9] at hw
    show W p l e R s m args below meth c H locs _ _ _ (F0 m 22 ls [.int (iN (z_6))])
    refine x_if_eq (tgt := 29) hC ⟨by omega, by omega⟩ dX5_shows_22 (by decide) (fun c_7 => ?_) (fun c_7 => ?_)
    · refine x_const hC dX5_shows_29 ?_
      exact x_zret hC hw (by omega) dX5_shows_30 (by omega) (by omega) ⟨0, rfl, rfl, by omega, fun q9 => absurd rfl q9⟩
    · refine x_const hC dX5_shows_25 ?_
      refine lv_goto (tgt := 30) hC.1 hC.2.1 dX5_shows_26 (by decide) ?_
      exact x_zret hC hw (by omega) dX5_shows_30 (by omega) (by omega) ⟨1, rfl, rfl, by omega, fun q9 => ⟨hpz_3 (by omega), by have e9 := hz_3; rw [hz_2'] at e9; rw [← e9]; omega⟩⟩
set_option maxHeartbeats 4000000 in
set_option maxRecDepth 100000 in
theorem c_X5_closest (l : Launch) (G : xG) {M : HM} {a va oa wa ya : Nat} {wk : Option Nat} {th rfd br re la ha kp kv : Int32} {qv qw : Nat → Nat} {fa fb : Nat → Option Nat} {fvv fw : Nat → Nat → Int32} {fo : Nat → Int32} {fy : Nat → Option Nat} {S : Nat → Bool} (hR : MGx G M a va oa wa ya wk th rfd br re la ha kp kv qv qw fa fb fvv fw fo fy S) {i : Nat} {fi : Nat → Int32} (hIi : Its G M i fi) {p0 : Int} (hp0 : -2147483648 ≤ p0 ∧ p0 ≤ 2147483647) {p1 : Int} (hp1 : -2147483648 ≤ p1 ∧ p1 ≤ 2147483647) : xMet l G yX5_closest wsX5_closest 3 67 0 0 [.ref a, .ref i, .int (iN (p0)), .int (iN (p1))] M (fun r M1 => ∃ z : Int, r = some (.int (iN z)) ∧ M1 = M ∧ (z = -10000 ∨ (0 ≤ z ∧ z ≤ 99)) ∧ (z ≠ -10000 → mP S fvv fi z.toNat) ∧ (z ≠ -10000 → (p1 ≠ 0 → p0 < mW fw fo fi z.toNat) ∧ (p1 = 0 → mW fw fo fi z.toNat < p0))) := by
  refine x_intro (cc := cX5_closest) (maxL := 7) (ret := (some .int)) (by decide +kernel) rfl (Nat.le_of_ble_eq_true rfl) ?_
  intro p e R s m args below meth c ls hRf hRc hRs hRl hC hw hl
  obtain ⟨hvt_1, hat_1, hbt_1, hct_1, hdt_1, het_1⟩ := id hIi
  have hl : lv_has ls 7 [(0, .ref a), (1, .ref i), (2, .int (iN (p0))), (3, .int (iN (p1)))] := hl
  refine x_sipush hC dX5_closest_0 (by decide +kernel) ?_
  refine lv_istore (lv' := [(4, .int (iN ((-10000)))), (0, .ref a), (1, .ref i), (2, .int (iN (p0))), (3, .int (iN (p1)))]) hC.1 hC.2.1 dX5_closest_3 hl (by decide) rfl (fun ls hl => ?_)
  refine x_const hC dX5_closest_5 ?_
  refine lv_istore (lv' := [(5, .int (iN (0))), (4, .int (iN ((-10000)))), (0, .ref a), (1, .ref i), (2, .int (iN (p0))), (3, .int (iN (p1)))]) hC.1 hC.2.1 dX5_closest_6 hl (by decide) rfl (fun ls hl => ?_)
  suffices hloop8 : ∀ (n9 : Nat) (bs : Int) (j : Int) (H : Heap) (locs : List Loc) (ls : Array Slot), (hmu : (100 - j).toNat < n9) → (hi0 : 0 ≤ j ∧ j ≤ 100) → (hi1 : bs = -10000 ∨ (0 ≤ bs ∧ bs ≤ 99)) → (hi2 : bs ≠ -10000 → mP S fvv fi bs.toNat) → (hi3 : bs ≠ -10000 → (p1 ≠ 0 → p0 < mW fw fo fi bs.toNat) ∧ (p1 = 0 → mW fw fo fi bs.toNat < p0)) → xD G (xA M s.heap.size) s M H locs → lv_has ls 7 [(0, .ref a), (1, .ref i), (2, .int (iN (p0))), (3, .int (iN (p1))), (4, .int (iN (bs))), (5, .int (iN (j)))] → W p l e R s m args below meth c H locs _ _ _ (F0 m 8 ls []) by
    exact hloop8 _ (-10000) 0  _ _ _ (Nat.lt_succ_self _) (by omega) (by omega) (fun q9 => absurd rfl q9) (by omega) hw (lv_sub hl [2, 3, 4, 5, 1, 0] rfl)
  intro n9
  induction n9 with
  | zero => intro bs j  H locs ls hmu; exact absurd hmu (Nat.not_lt_zero _)
  | succ n9 ih8 =>
    intro bs j  H locs ls hmu hi0 hi1 hi2 hi3 hw hl
    refine lv_iload hC.1 hC.2.1 dX5_closest_8 (lv_at hl 5 rfl) ?_
    refine x_bipush hC dX5_closest_10 (by decide +kernel) ?_
    refine x_icmp_ge (tgt := 98) hC ⟨by omega, by omega⟩ ⟨by omega, by omega⟩ dX5_closest_12 (by decide) (fun c_2 => ?_) (fun c_2 => ?_)
    · refine lv_iload hC.1 hC.2.1 dX5_closest_98 (lv_at hl 4 rfl) ?_
      exact x_iret hC hw dX5_closest_100 (by omega) (by omega) ⟨bs, rfl, rfl, by omega, hi2, by omega⟩
    · refine lv_aload_n hC.1 hC.2.1 dX5_closest_15 rfl (lv_at hl 0 rfl) ?_
      refine lv_aload_n hC.1 hC.2.1 dX5_closest_16 rfl (lv_at hl 1 rfl) ?_
      refine lv_iload hC.1 hC.2.1 dX5_closest_17 (lv_at hl 5 rfl) ?_
      refine x_callV hC hw (lv_size hl) (c_X5_shows l G hR hIi (p0 := j) (by omega) (by omega)) gX5_closest_X5_shows rfl dv_X5_shows hR.1.1 rfl rfl (Nat.le_of_ble_eq_true rfl) (by rw [hRf]; decide) (by rw [hRl]; decide) (by omega) (by omega) dX5_closest_19 (fun r9 M_3 H locs hq hw => ?_)
      obtain ⟨z_4, rfl, hM9, hz_4a, hz_4S⟩ := hq
      rw [hM9] at hw
      show W p l e R s m args below meth c H locs _ _ _ (F0 m 22 ls [.int (iN (z_4))])
      refine x_if_ne (tgt := 28) hC ⟨by omega, by omega⟩ dX5_closest_22 (by decide) (fun c_5 => ?_) (fun c_5 => ?_)
      · refine lv_aload_n hC.1 hC.2.1 dX5_closest_28 rfl (lv_at hl 0 rfl) ?_
        refine lv_aload_n hC.1 hC.2.1 dX5_closest_29 rfl (lv_at hl 1 rfl) ?_
        refine lv_iload hC.1 hC.2.1 dX5_closest_30 (lv_at hl 5 rfl) ?_
        refine x_callV hC hw (lv_size hl) (c_X5_weight l G hR hIi (p0 := j) (by omega) (by omega)) gX5_closest_X5_weight rfl dv_X5_weight hR.1.1 rfl rfl (Nat.le_of_ble_eq_true rfl) (by rw [hRf]; decide) (by rw [hRl]; decide) (by omega) (by omega) dX5_closest_32 (fun r9 M_6 H locs hq hw => ?_)
        obtain ⟨z_7, rfl, hM9, hz_7a, hz_7b⟩ := hq
        rw [hM9] at hw
        show W p l e R s m args below meth c H locs _ _ _ (F0 m 35 ls [.int (iN (z_7))])
        refine lv_istore (lv' := [(6, .int (iN (z_7))), (0, .ref a), (1, .ref i), (2, .int (iN (p0))), (3, .int (iN (p1))), (4, .int (iN (bs))), (5, .int (iN (j)))]) hC.1 hC.2.1 dX5_closest_35 hl (by decide) rfl (fun ls hl => ?_)
        refine lv_iload_n hC.1 hC.2.1 dX5_closest_37 rfl (lv_at hl 4 rfl) ?_
        refine x_if_eq (tgt := 50) hC ⟨by omega, by omega⟩ dX5_closest_38 (by decide) (fun c_8 => ?_) (fun c_8 => ?_)
        · refine lv_iload hC.1 hC.2.1 dX5_closest_50 (lv_at hl 0 rfl) ?_
          refine lv_iload_n hC.1 hC.2.1 dX5_closest_52 rfl (lv_at hl 3 rfl) ?_
          refine x_icmp_lt (tgt := 59) hC ⟨by omega, by omega⟩ ⟨by omega, by omega⟩ dX5_closest_53 (by decide) (fun c_9 => ?_) (fun c_9 => ?_)
          · refine lv_iload hC.1 hC.2.1 dX5_closest_59 (lv_at hl 5 rfl) ?_
            refine x_sipush hC dX5_closest_61 (by decide +kernel) ?_
            refine x_icmp_eq (tgt := 88) hC ⟨by omega, by omega⟩ ⟨by omega, by omega⟩ dX5_closest_64 (by decide) (fun c_10 => ?_) (fun c_10 => ?_)
            · refine lv_iload hC.1 hC.2.1 dX5_closest_88 (lv_at hl 6 rfl) ?_
              refine lv_istore (lv' := [(4, .int (iN (j))), (6, .int (iN (z_7))), (0, .ref a), (1, .ref i), (2, .int (iN (p0))), (3, .int (iN (p1))), (5, .int (iN (j)))]) hC.1 hC.2.1 dX5_closest_90 hl (by decide) rfl (fun ls hl => ?_)
              refine x_iinc (lv' := [(5, .int (iN (j + 1))), (4, .int (iN (j))), (6, .int (iN (z_7))), (0, .ref a), (1, .ref i), (2, .int (iN (p0))), (3, .int (iN (p1)))]) hC dX5_closest_92 hl (k := 6) rfl (by decide) rfl (fun ls hl => ?_)
              refine lv_goto (tgt := 8) hC.1 hC.2.1 dX5_closest_95 (by decide) ?_
              exact ih8 j (j + 1)  _ _ _ (by omega) (by omega) (by omega) (by first | exact hi2 | exact fun _ => hz_4S (by omega)) (by omega) hw (lv_sub hl [3, 4, 5, 6, 1, 0] rfl)
            · refine lv_iload_n hC.1 hC.2.1 dX5_closest_67 rfl (lv_at hl 4 rfl) ?_
              refine lv_iload hC.1 hC.2.1 dX5_closest_68 (lv_at hl 0 rfl) ?_
              refine lv_aload_n hC.1 hC.2.1 dX5_closest_70 rfl (lv_at hl 1 rfl) ?_
              refine lv_aload_n hC.1 hC.2.1 dX5_closest_71 rfl (lv_at hl 2 rfl) ?_
              refine lv_iload hC.1 hC.2.1 dX5_closest_72 (lv_at hl 5 rfl) ?_
              refine x_callV hC hw (lv_size hl) (c_X5_weight l G hR hIi (p0 := bs) (by omega) (by omega)) gX5_closest_X5_weight rfl dv_X5_weight hR.1.1 rfl rfl (Nat.le_of_ble_eq_true rfl) (by rw [hRf]; decide) (by rw [hRl]; decide) (by omega) (by omega) dX5_closest_74 (fun r9 M_11 H locs hq hw => ?_)
              obtain ⟨z_12, rfl, hM9, hz_12a, hz_12b⟩ := hq
              rw [hM9] at hw
              show W p l e R s m args below meth c H locs _ _ _ (F0 m 77 ls [.int (iN (z_12)), .int (iN (z_7)), .int (iN (p1))])
              refine x_icmp_ge (tgt := 84) hC ⟨by omega, by omega⟩ ⟨by omega, by omega⟩ dX5_closest_77 (by decide) (fun c_13 => ?_) (fun c_13 => ?_)
              · refine x_const hC dX5_closest_84 ?_
                refine x_icmp_ne (tgt := 92) hC ⟨by omega, by omega⟩ ⟨by omega, by omega⟩ dX5_closest_85 (by decide) (fun c_14 => ?_) (fun c_14 => ?_)
                · refine x_iinc (lv' := [(5, .int (iN (j + 1))), (6, .int (iN (z_7))), (0, .ref a), (1, .ref i), (2, .int (iN (p0))), (3, .int (iN (p1))), (4, .int (iN (bs)))]) hC dX5_closest_92 hl (k := 6) rfl (by decide) rfl (fun ls hl => ?_)
                  refine lv_goto (tgt := 8) hC.1 hC.2.1 dX5_closest_95 (by decide) ?_
                  exact ih8 bs (j + 1)  _ _ _ (by omega) (by omega) (by omega) (by first | exact hi2 | exact fun _ => hz_4S (by omega)) (by omega) hw (lv_sub hl [2, 3, 4, 5, 6, 0] rfl)
                · refine lv_iload hC.1 hC.2.1 dX5_closest_88 (lv_at hl 6 rfl) ?_
                  refine lv_istore (lv' := [(4, .int (iN (j))), (6, .int (iN (z_7))), (0, .ref a), (1, .ref i), (2, .int (iN (p0))), (3, .int (iN (p1))), (5, .int (iN (j)))]) hC.1 hC.2.1 dX5_closest_90 hl (by decide) rfl (fun ls hl => ?_)
                  refine x_iinc (lv' := [(5, .int (iN (j + 1))), (4, .int (iN (j))), (6, .int (iN (z_7))), (0, .ref a), (1, .ref i), (2, .int (iN (p0))), (3, .int (iN (p1)))]) hC dX5_closest_92 hl (k := 6) rfl (by decide) rfl (fun ls hl => ?_)
                  refine lv_goto (tgt := 8) hC.1 hC.2.1 dX5_closest_95 (by decide) ?_
                  exact ih8 j (j + 1)  _ _ _ (by omega) (by omega) (by omega) (by first | exact hi2 | exact fun _ => hz_4S (by omega)) (by omega) hw (lv_sub hl [3, 4, 5, 6, 1, 0] rfl)
              · refine x_const hC dX5_closest_80 ?_
                refine lv_goto (tgt := 85) hC.1 hC.2.1 dX5_closest_81 (by decide) ?_
                refine x_icmp_ne (tgt := 92) hC ⟨by omega, by omega⟩ ⟨by omega, by omega⟩ dX5_closest_85 (by decide) (fun c_15 => ?_) (fun c_15 => ?_)
                · refine x_iinc (lv' := [(5, .int (iN (j + 1))), (6, .int (iN (z_7))), (0, .ref a), (1, .ref i), (2, .int (iN (p0))), (3, .int (iN (p1))), (4, .int (iN (bs)))]) hC dX5_closest_92 hl (k := 6) rfl (by decide) rfl (fun ls hl => ?_)
                  refine lv_goto (tgt := 8) hC.1 hC.2.1 dX5_closest_95 (by decide) ?_
                  exact ih8 bs (j + 1)  _ _ _ (by omega) (by omega) (by omega) (by first | exact hi2 | exact fun _ => hz_4S (by omega)) (by omega) hw (lv_sub hl [2, 3, 4, 5, 6, 0] rfl)
                · refine lv_iload hC.1 hC.2.1 dX5_closest_88 (lv_at hl 6 rfl) ?_
                  refine lv_istore (lv' := [(4, .int (iN (j))), (6, .int (iN (z_7))), (0, .ref a), (1, .ref i), (2, .int (iN (p0))), (3, .int (iN (p1))), (5, .int (iN (j)))]) hC.1 hC.2.1 dX5_closest_90 hl (by decide) rfl (fun ls hl => ?_)
                  refine x_iinc (lv' := [(5, .int (iN (j + 1))), (4, .int (iN (j))), (6, .int (iN (z_7))), (0, .ref a), (1, .ref i), (2, .int (iN (p0))), (3, .int (iN (p1)))]) hC dX5_closest_92 hl (k := 6) rfl (by decide) rfl (fun ls hl => ?_)
                  refine lv_goto (tgt := 8) hC.1 hC.2.1 dX5_closest_95 (by decide) ?_
                  exact ih8 j (j + 1)  _ _ _ (by omega) (by omega) (by omega) (by first | exact hi2 | exact fun _ => hz_4S (by omega)) (by omega) hw (lv_sub hl [3, 4, 5, 6, 1, 0] rfl)
          · refine lv_goto (tgt := 92) hC.1 hC.2.1 dX5_closest_56 (by decide) ?_
            refine x_iinc (lv' := [(5, .int (iN (j + 1))), (6, .int (iN (z_7))), (0, .ref a), (1, .ref i), (2, .int (iN (p0))), (3, .int (iN (p1))), (4, .int (iN (bs)))]) hC dX5_closest_92 hl (k := 6) rfl (by decide) rfl (fun ls hl => ?_)
            refine lv_goto (tgt := 8) hC.1 hC.2.1 dX5_closest_95 (by decide) ?_
            exact ih8 bs (j + 1)  _ _ _ (by omega) (by omega) (by omega) (by first | exact hi2 | exact fun _ => hz_4S (by omega)) (by omega) hw (lv_sub hl [2, 3, 4, 5, 6, 0] rfl)
        · refine lv_iload hC.1 hC.2.1 dX5_closest_41 (lv_at hl 0 rfl) ?_
          refine lv_iload_n hC.1 hC.2.1 dX5_closest_43 rfl (lv_at hl 3 rfl) ?_
          refine x_icmp_gt (tgt := 59) hC ⟨by omega, by omega⟩ ⟨by omega, by omega⟩ dX5_closest_44 (by decide) (fun c_16 => ?_) (fun c_16 => ?_)
          · refine lv_iload hC.1 hC.2.1 dX5_closest_59 (lv_at hl 5 rfl) ?_
            refine x_sipush hC dX5_closest_61 (by decide +kernel) ?_
            refine x_icmp_eq (tgt := 88) hC ⟨by omega, by omega⟩ ⟨by omega, by omega⟩ dX5_closest_64 (by decide) (fun c_17 => ?_) (fun c_17 => ?_)
            · refine lv_iload hC.1 hC.2.1 dX5_closest_88 (lv_at hl 6 rfl) ?_
              refine lv_istore (lv' := [(4, .int (iN (j))), (6, .int (iN (z_7))), (0, .ref a), (1, .ref i), (2, .int (iN (p0))), (3, .int (iN (p1))), (5, .int (iN (j)))]) hC.1 hC.2.1 dX5_closest_90 hl (by decide) rfl (fun ls hl => ?_)
              refine x_iinc (lv' := [(5, .int (iN (j + 1))), (4, .int (iN (j))), (6, .int (iN (z_7))), (0, .ref a), (1, .ref i), (2, .int (iN (p0))), (3, .int (iN (p1)))]) hC dX5_closest_92 hl (k := 6) rfl (by decide) rfl (fun ls hl => ?_)
              refine lv_goto (tgt := 8) hC.1 hC.2.1 dX5_closest_95 (by decide) ?_
              exact ih8 j (j + 1)  _ _ _ (by omega) (by omega) (by omega) (by first | exact hi2 | exact fun _ => hz_4S (by omega)) (by omega) hw (lv_sub hl [3, 4, 5, 6, 1, 0] rfl)
            · refine lv_iload_n hC.1 hC.2.1 dX5_closest_67 rfl (lv_at hl 4 rfl) ?_
              refine lv_iload hC.1 hC.2.1 dX5_closest_68 (lv_at hl 0 rfl) ?_
              refine lv_aload_n hC.1 hC.2.1 dX5_closest_70 rfl (lv_at hl 1 rfl) ?_
              refine lv_aload_n hC.1 hC.2.1 dX5_closest_71 rfl (lv_at hl 2 rfl) ?_
              refine lv_iload hC.1 hC.2.1 dX5_closest_72 (lv_at hl 5 rfl) ?_
              refine x_callV hC hw (lv_size hl) (c_X5_weight l G hR hIi (p0 := bs) (by omega) (by omega)) gX5_closest_X5_weight rfl dv_X5_weight hR.1.1 rfl rfl (Nat.le_of_ble_eq_true rfl) (by rw [hRf]; decide) (by rw [hRl]; decide) (by omega) (by omega) dX5_closest_74 (fun r9 M_18 H locs hq hw => ?_)
              obtain ⟨z_19, rfl, hM9, hz_19a, hz_19b⟩ := hq
              rw [hM9] at hw
              show W p l e R s m args below meth c H locs _ _ _ (F0 m 77 ls [.int (iN (z_19)), .int (iN (z_7)), .int (iN (p1))])
              refine x_icmp_ge (tgt := 84) hC ⟨by omega, by omega⟩ ⟨by omega, by omega⟩ dX5_closest_77 (by decide) (fun c_20 => ?_) (fun c_20 => ?_)
              · refine x_const hC dX5_closest_84 ?_
                refine x_icmp_ne (tgt := 92) hC ⟨by omega, by omega⟩ ⟨by omega, by omega⟩ dX5_closest_85 (by decide) (fun c_21 => ?_) (fun c_21 => ?_)
                · refine x_iinc (lv' := [(5, .int (iN (j + 1))), (6, .int (iN (z_7))), (0, .ref a), (1, .ref i), (2, .int (iN (p0))), (3, .int (iN (p1))), (4, .int (iN (bs)))]) hC dX5_closest_92 hl (k := 6) rfl (by decide) rfl (fun ls hl => ?_)
                  refine lv_goto (tgt := 8) hC.1 hC.2.1 dX5_closest_95 (by decide) ?_
                  exact ih8 bs (j + 1)  _ _ _ (by omega) (by omega) (by omega) (by first | exact hi2 | exact fun _ => hz_4S (by omega)) (by omega) hw (lv_sub hl [2, 3, 4, 5, 6, 0] rfl)
                · refine lv_iload hC.1 hC.2.1 dX5_closest_88 (lv_at hl 6 rfl) ?_
                  refine lv_istore (lv' := [(4, .int (iN (j))), (6, .int (iN (z_7))), (0, .ref a), (1, .ref i), (2, .int (iN (p0))), (3, .int (iN (p1))), (5, .int (iN (j)))]) hC.1 hC.2.1 dX5_closest_90 hl (by decide) rfl (fun ls hl => ?_)
                  refine x_iinc (lv' := [(5, .int (iN (j + 1))), (4, .int (iN (j))), (6, .int (iN (z_7))), (0, .ref a), (1, .ref i), (2, .int (iN (p0))), (3, .int (iN (p1)))]) hC dX5_closest_92 hl (k := 6) rfl (by decide) rfl (fun ls hl => ?_)
                  refine lv_goto (tgt := 8) hC.1 hC.2.1 dX5_closest_95 (by decide) ?_
                  exact ih8 j (j + 1)  _ _ _ (by omega) (by omega) (by omega) (by first | exact hi2 | exact fun _ => hz_4S (by omega)) (by omega) hw (lv_sub hl [3, 4, 5, 6, 1, 0] rfl)
              · refine x_const hC dX5_closest_80 ?_
                refine lv_goto (tgt := 85) hC.1 hC.2.1 dX5_closest_81 (by decide) ?_
                refine x_icmp_ne (tgt := 92) hC ⟨by omega, by omega⟩ ⟨by omega, by omega⟩ dX5_closest_85 (by decide) (fun c_22 => ?_) (fun c_22 => ?_)
                · refine x_iinc (lv' := [(5, .int (iN (j + 1))), (6, .int (iN (z_7))), (0, .ref a), (1, .ref i), (2, .int (iN (p0))), (3, .int (iN (p1))), (4, .int (iN (bs)))]) hC dX5_closest_92 hl (k := 6) rfl (by decide) rfl (fun ls hl => ?_)
                  refine lv_goto (tgt := 8) hC.1 hC.2.1 dX5_closest_95 (by decide) ?_
                  exact ih8 bs (j + 1)  _ _ _ (by omega) (by omega) (by omega) (by first | exact hi2 | exact fun _ => hz_4S (by omega)) (by omega) hw (lv_sub hl [2, 3, 4, 5, 6, 0] rfl)
                · refine lv_iload hC.1 hC.2.1 dX5_closest_88 (lv_at hl 6 rfl) ?_
                  refine lv_istore (lv' := [(4, .int (iN (j))), (6, .int (iN (z_7))), (0, .ref a), (1, .ref i), (2, .int (iN (p0))), (3, .int (iN (p1))), (5, .int (iN (j)))]) hC.1 hC.2.1 dX5_closest_90 hl (by decide) rfl (fun ls hl => ?_)
                  refine x_iinc (lv' := [(5, .int (iN (j + 1))), (4, .int (iN (j))), (6, .int (iN (z_7))), (0, .ref a), (1, .ref i), (2, .int (iN (p0))), (3, .int (iN (p1)))]) hC dX5_closest_92 hl (k := 6) rfl (by decide) rfl (fun ls hl => ?_)
                  refine lv_goto (tgt := 8) hC.1 hC.2.1 dX5_closest_95 (by decide) ?_
                  exact ih8 j (j + 1)  _ _ _ (by omega) (by omega) (by omega) (by first | exact hi2 | exact fun _ => hz_4S (by omega)) (by omega) hw (lv_sub hl [3, 4, 5, 6, 1, 0] rfl)
          · refine lv_goto (tgt := 92) hC.1 hC.2.1 dX5_closest_47 (by decide) ?_
            refine x_iinc (lv' := [(5, .int (iN (j + 1))), (6, .int (iN (z_7))), (0, .ref a), (1, .ref i), (2, .int (iN (p0))), (3, .int (iN (p1))), (4, .int (iN (bs)))]) hC dX5_closest_92 hl (k := 6) rfl (by decide) rfl (fun ls hl => ?_)
            refine lv_goto (tgt := 8) hC.1 hC.2.1 dX5_closest_95 (by decide) ?_
            exact ih8 bs (j + 1)  _ _ _ (by omega) (by omega) (by omega) (by first | exact hi2 | exact fun _ => hz_4S (by omega)) (by omega) hw (lv_sub hl [2, 3, 4, 5, 6, 0] rfl)
      · refine lv_goto (tgt := 92) hC.1 hC.2.1 dX5_closest_25 (by decide) ?_
        refine x_iinc (lv' := [(5, .int (iN (j + 1))), (0, .ref a), (1, .ref i), (2, .int (iN (p0))), (3, .int (iN (p1))), (4, .int (iN (bs)))]) hC dX5_closest_92 hl (k := 5) rfl (by decide) rfl (fun ls hl => ?_)
        refine lv_goto (tgt := 8) hC.1 hC.2.1 dX5_closest_95 (by decide) ?_
        exact ih8 bs (j + 1)  _ _ _ (by omega) (by omega) (by omega) (by first | exact hi2 | exact fun _ => hz_4S (by omega)) (by omega) hw (lv_sub hl [1, 2, 3, 4, 5, 0] rfl)
set_option maxHeartbeats 4000000 in
set_option maxRecDepth 100000 in
theorem c_X5_end (l : Launch) (G : xG) {M : HM} {a va oa wa ya : Nat} {wk : Option Nat} {th rfd br re la ha kp kv : Int32} {qv qw : Nat → Nat} {fa fb : Nat → Option Nat} {fvv fw : Nat → Nat → Int32} {fo : Nat → Int32} {fy : Nat → Option Nat} {S : Nat → Bool} (hR : MGx G M a va oa wa ya wk th rfd br re la ha kp kv qv qw fa fb fvv fw fo fy S) {i : Nat} {fi : Nat → Int32} (hIi : Its G M i fi) {p0 : Int} (hp0 : -2147483648 ≤ p0 ∧ p0 ≤ 2147483647) : xMet l G yX5_end wsX5_end 4 93 0 0 [.ref a, .ref i, .int (iN (p0))] M (fun r M1 => ∃ z : Int, r = some (.int (iN z)) ∧ M1 = M ∧ (z = -10000 ∨ (0 ≤ z ∧ z ≤ 99)) ∧ (z ≠ -10000 → mP S fvv fi z.toNat)) := by
  refine x_intro (cc := cX5_end) (maxL := 3) (ret := (some .int)) (by decide +kernel) rfl (Nat.le_of_ble_eq_true rfl) ?_
  intro p e R s m args below meth c ls hRf hRc hRs hRl hC hw hl
  obtain ⟨hvt_1, hat_1, hbt_1, hct_1, hdt_1, het_1⟩ := id hIi
  have hl : lv_has ls 3 [(0, .ref a), (1, .ref i), (2, .int (iN (p0)))] := hl
  refine lv_iload_n hC.1 hC.2.1 dX5_end_0 rfl (lv_at hl 2 rfl) ?_
  refine x_if_eq (tgt := 16) hC ⟨by omega, by omega⟩ dX5_end_1 (by decide) (fun c_2 => ?_) (fun c_2 => ?_)
  · refine lv_aload_n hC.1 hC.2.1 dX5_end_16 rfl (lv_at hl 0 rfl) ?_
    refine lv_aload_n hC.1 hC.2.1 dX5_end_17 rfl (lv_at hl 1 rfl) ?_
    refine x_const hC dX5_end_18 ?_
    refine x_const hC dX5_end_19 ?_
    refine x_callV hC hw (lv_size hl) (c_X5_closest l G hR hIi (p0 := (-1)) (by omega) (p1 := 1) (by omega)) gX5_end_X5_closest rfl dv_X5_closest hR.1.1 rfl rfl (Nat.le_of_ble_eq_true rfl) (by rw [hRf]; decide) (by rw [hRl]; decide) (by omega) (by omega) dX5_end_20 (fun r9 M_3 H locs hq hw => ?_)
    obtain ⟨z_4, rfl, hM9, hz_4a, hz_4S, hz_4w⟩ := hq
    rw [hM9] at hw
    show W p l e R s m args below meth c H locs _ _ _ (F0 m 23 ls [.int (iN (z_4))])
    exact x_iret hC hw dX5_end_23 (by omega) (by omega) ⟨z_4, rfl, rfl, by omega, hz_4S⟩
  · refine lv_aload_n hC.1 hC.2.1 dX5_end_4 rfl (lv_at hl 0 rfl) ?_
    refine lv_aload_n hC.1 hC.2.1 dX5_end_5 rfl (lv_at hl 1 rfl) ?_
    refine x_sipush hC dX5_end_6 (by decide +kernel) ?_
    refine x_const hC dX5_end_9 ?_
    refine x_callV hC hw (lv_size hl) (c_X5_closest l G hR hIi (p0 := 1000) (by omega) (p1 := 0) (by omega)) gX5_end_X5_closest rfl dv_X5_closest hR.1.1 rfl rfl (Nat.le_of_ble_eq_true rfl) (by rw [hRf]; decide) (by rw [hRl]; decide) (by omega) (by omega) dX5_end_10 (fun r9 M_5 H locs hq hw => ?_)
    obtain ⟨z_6, rfl, hM9, hz_6a, hz_6S, hz_6w⟩ := hq
    rw [hM9] at hw
    show W p l e R s m args below meth c H locs _ _ _ (F0 m 13 ls [.int (iN (z_6))])
    refine lv_goto (tgt := 23) hC.1 hC.2.1 dX5_end_13 (by decide) ?_
    exact x_iret hC hw dX5_end_23 (by omega) (by omega) ⟨z_6, rfl, rfl, by omega, hz_6S⟩
set_option maxHeartbeats 4000000 in
set_option maxRecDepth 100000 in
theorem c_X5_nearOf (l : Launch) (G : xG) {M : HM} {a va oa wa ya : Nat} {wk : Option Nat} {th rfd br re la ha kp kv : Int32} {qv qw : Nat → Nat} {fa fb : Nat → Option Nat} {fvv fw : Nat → Nat → Int32} {fo : Nat → Int32} {fy : Nat → Option Nat} {S : Nat → Bool} (hR : MGx G M a va oa wa ya wk th rfd br re la ha kp kv qv qw fa fb fvv fw fo fy S) {i : Nat} {fi : Nat → Int32} (hIi : Its G M i fi) {p0 : Int} (hp0 : -2147483648 ≤ p0 ∧ p0 ≤ 2147483647) {p1 : Int} (hp1 : -2147483648 ≤ p1 ∧ p1 ≤ 2147483647) (hop : 0 ≤ p0 ∧ p0 ≤ 99) : xMet l G yX5_nearOf wsX5_nearOf 4 93 0 0 [.ref a, .ref i, .int (iN (p0)), .int (iN (p1))] M (fun r M1 => ∃ z : Int, r = some (.int (iN z)) ∧ M1 = M ∧ (z = -10000 ∨ (0 ≤ z ∧ z ≤ 99)) ∧ (z ≠ -10000 → mP S fvv fi z.toNat) ∧ (z ≠ -10000 → p1 = 3 → mW fw fo fi p0.toNat < mW fw fo fi z.toNat)) := by
  refine x_intro (cc := cX5_nearOf) (maxL := 5) (ret := (some .int)) (by decide +kernel) rfl (Nat.le_of_ble_eq_true rfl) ?_
  intro p e R s m args below meth c ls hRf hRc hRs hRl hC hw hl
  obtain ⟨hvt_1, hat_1, hbt_1, hct_1, hdt_1, het_1⟩ := id hIi
  have hl : lv_has ls 5 [(0, .ref a), (1, .ref i), (2, .int (iN (p0))), (3, .int (iN (p1)))] := hl
  refine lv_aload_n hC.1 hC.2.1 dX5_nearOf_0 rfl (lv_at hl 0 rfl) ?_
  refine lv_aload_n hC.1 hC.2.1 dX5_nearOf_1 rfl (lv_at hl 1 rfl) ?_
  refine lv_iload_n hC.1 hC.2.1 dX5_nearOf_2 rfl (lv_at hl 2 rfl) ?_
  refine x_callV hC hw (lv_size hl) (c_X5_weight l G hR hIi (p0 := p0) (by omega) (by omega)) gX5_nearOf_X5_weight rfl dv_X5_weight hR.1.1 rfl rfl (Nat.le_of_ble_eq_true rfl) (by rw [hRf]; decide) (by rw [hRl]; decide) (by omega) (by omega) dX5_nearOf_3 (fun r9 M_2 H locs hq hw => ?_)
  obtain ⟨z_3, rfl, hM9, hz_3a, hz_3b⟩ := hq
  rw [hM9] at hw
  show W p l e R s m args below meth c H locs _ _ _ (F0 m 6 ls [.int (iN (z_3))])
  refine lv_istore (lv' := [(4, .int (iN (z_3))), (0, .ref a), (1, .ref i), (2, .int (iN (p0))), (3, .int (iN (p1)))]) hC.1 hC.2.1 dX5_nearOf_6 hl (by decide) rfl (fun ls hl => ?_)
  refine lv_iload_n hC.1 hC.2.1 dX5_nearOf_8 rfl (lv_at hl 4 rfl) ?_
  by_cases c_4 : p1 = 0
  · refine x_tsw (off := 27) (tgt := 36) (k := 0) hC (by omega) dX5_nearOf_9 (by decide) (by decide) rfl (by decide) ?_
    refine lv_aload_n hC.1 hC.2.1 dX5_nearOf_36 rfl (lv_at hl 1 rfl) ?_
    refine lv_aload_n hC.1 hC.2.1 dX5_nearOf_37 rfl (lv_at hl 2 rfl) ?_
    refine lv_iload hC.1 hC.2.1 dX5_nearOf_38 (lv_at hl 0 rfl) ?_
    refine x_const hC dX5_nearOf_40 ?_
    refine x_callV hC hw (lv_size hl) (c_X5_closest l G hR hIi (p0 := z_3) (by omega) (p1 := 0) (by omega)) gX5_nearOf_X5_closest rfl dv_X5_closest hR.1.1 rfl rfl (Nat.le_of_ble_eq_true rfl) (by rw [hRf]; decide) (by rw [hRl]; decide) (by omega) (by omega) dX5_nearOf_41 (fun r9 M_5 H locs hq hw => ?_)
    obtain ⟨z_6, rfl, hM9, hz_6a, hz_6S, hz_6w⟩ := hq
    rw [hM9] at hw
    show W p l e R s m args below meth c H locs _ _ _ (F0 m 44 ls [.int (iN (z_6))])
    exact x_iret hC hw dX5_nearOf_44 (by omega) (by omega) ⟨z_6, rfl, rfl, by omega, hz_6S, by omega⟩
  by_cases c_7 : p1 = 1
  · refine x_tsw (off := 36) (tgt := 45) (k := 1) hC (by omega) dX5_nearOf_9 (by decide) (by decide) rfl (by decide) ?_
    refine lv_aload_n hC.1 hC.2.1 dX5_nearOf_45 rfl (lv_at hl 1 rfl) ?_
    refine lv_aload_n hC.1 hC.2.1 dX5_nearOf_46 rfl (lv_at hl 2 rfl) ?_
    refine lv_iload hC.1 hC.2.1 dX5_nearOf_47 (lv_at hl 0 rfl) ?_
    refine x_const hC dX5_nearOf_49 ?_
    refine x_iadd hC dX5_nearOf_50 ?_
    refine x_const hC dX5_nearOf_51 ?_
    refine x_callV hC hw (lv_size hl) (c_X5_closest l G hR hIi (p0 := (z_3 + 1)) (by omega) (p1 := 0) (by omega)) gX5_nearOf_X5_closest rfl dv_X5_closest hR.1.1 rfl rfl (Nat.le_of_ble_eq_true rfl) (by rw [hRf]; decide) (by rw [hRl]; decide) (by omega) (by omega) dX5_nearOf_52 (fun r9 M_8 H locs hq hw => ?_)
    obtain ⟨z_9, rfl, hM9, hz_9a, hz_9S, hz_9w⟩ := hq
    rw [hM9] at hw
    show W p l e R s m args below meth c H locs _ _ _ (F0 m 55 ls [.int (iN (z_9))])
    exact x_iret hC hw dX5_nearOf_55 (by omega) (by omega) ⟨z_9, rfl, rfl, by omega, hz_9S, by omega⟩
  by_cases c_10 : p1 = 2
  · refine x_tsw (off := 47) (tgt := 56) (k := 2) hC (by omega) dX5_nearOf_9 (by decide) (by decide) rfl (by decide) ?_
    refine lv_aload_n hC.1 hC.2.1 dX5_nearOf_56 rfl (lv_at hl 1 rfl) ?_
    refine lv_aload_n hC.1 hC.2.1 dX5_nearOf_57 rfl (lv_at hl 2 rfl) ?_
    refine lv_iload hC.1 hC.2.1 dX5_nearOf_58 (lv_at hl 0 rfl) ?_
    refine x_const hC dX5_nearOf_60 ?_
    refine x_isub hC dX5_nearOf_61 ?_
    refine x_const hC dX5_nearOf_62 ?_
    refine x_callV hC hw (lv_size hl) (c_X5_closest l G hR hIi (p0 := (z_3 - 1)) (by omega) (p1 := 1) (by omega)) gX5_nearOf_X5_closest rfl dv_X5_closest hR.1.1 rfl rfl (Nat.le_of_ble_eq_true rfl) (by rw [hRf]; decide) (by rw [hRl]; decide) (by omega) (by omega) dX5_nearOf_63 (fun r9 M_11 H locs hq hw => ?_)
    obtain ⟨z_12, rfl, hM9, hz_12a, hz_12S, hz_12w⟩ := hq
    rw [hM9] at hw
    show W p l e R s m args below meth c H locs _ _ _ (F0 m 66 ls [.int (iN (z_12))])
    exact x_iret hC hw dX5_nearOf_66 (by omega) (by omega) ⟨z_12, rfl, rfl, by omega, hz_12S, by omega⟩
  refine x_tswd (tgt := 67) hC ⟨by omega, by omega⟩ dX5_nearOf_9 (by omega) (by decide) ?_
  refine lv_aload_n hC.1 hC.2.1 dX5_nearOf_67 rfl (lv_at hl 1 rfl) ?_
  refine lv_aload_n hC.1 hC.2.1 dX5_nearOf_68 rfl (lv_at hl 2 rfl) ?_
  refine lv_iload hC.1 hC.2.1 dX5_nearOf_69 (lv_at hl 0 rfl) ?_
  refine x_const hC dX5_nearOf_71 ?_
  refine x_callV hC hw (lv_size hl) (c_X5_closest l G hR hIi (p0 := z_3) (by omega) (p1 := 1) (by omega)) gX5_nearOf_X5_closest rfl dv_X5_closest hR.1.1 rfl rfl (Nat.le_of_ble_eq_true rfl) (by rw [hRf]; decide) (by rw [hRl]; decide) (by omega) (by omega) dX5_nearOf_72 (fun r9 M_13 H locs hq hw => ?_)
  obtain ⟨z_14, rfl, hM9, hz_14a, hz_14S, hz_14w⟩ := hq
  rw [hM9] at hw
  show W p l e R s m args below meth c H locs _ _ _ (F0 m 75 ls [.int (iN (z_14))])
  exact x_iret hC hw dX5_nearOf_75 (by omega) (by omega) ⟨z_14, rfl, rfl, by omega, hz_14S, by omega⟩
set_option maxHeartbeats 4000000 in
set_option maxRecDepth 100000 in
theorem c_X5_many (l : Launch) (G : xG) {M : HM} {a va oa wa ya : Nat} {wk : Option Nat} {th rfd br re la ha kp kv : Int32} {qv qw : Nat → Nat} {fa fb : Nat → Option Nat} {fvv fw : Nat → Nat → Int32} {fo : Nat → Int32} {fy : Nat → Option Nat} {S : Nat → Bool} (hR : MGx G M a va oa wa ya wk th rfd br re la ha kp kv qv qw fa fb fvv fw fo fy S) {i : Nat} {fi : Nat → Int32} (hIi : Its G M i fi) : xMet l G yX5_many wsX5_many 3 67 0 0 [.ref a, .ref i] M (fun r M1 => ∃ z : Int, r = some (.int (iN z)) ∧ M1 = M ∧ (0 ≤ z ∧ z ≤ 100)) := by
  refine x_intro (cc := cX5_many) (maxL := 4) (ret := (some .int)) (by decide +kernel) rfl (Nat.le_of_ble_eq_true rfl) ?_
  intro p e R s m args below meth c ls hRf hRc hRs hRl hC hw hl
  obtain ⟨hvt_1, hat_1, hbt_1, hct_1, hdt_1, het_1⟩ := id hIi
  have hl : lv_has ls 4 [(0, .ref a), (1, .ref i)] := hl
  refine x_const hC dX5_many_0 ?_
  refine lv_istore_n (lv' := [(2, .int (iN (0))), (0, .ref a), (1, .ref i)]) hC.1 hC.2.1 dX5_many_1 rfl hl (by decide) rfl (fun ls hl => ?_)
  refine x_const hC dX5_many_2 ?_
  refine lv_istore_n (lv' := [(3, .int (iN (0))), (2, .int (iN (0))), (0, .ref a), (1, .ref i)]) hC.1 hC.2.1 dX5_many_3 rfl hl (by decide) rfl (fun ls hl => ?_)
  suffices hloop4 : ∀ (n9 : Nat) (n : Int) (j : Int) (H : Heap) (locs : List Loc) (ls : Array Slot), (hmu : (100 - j).toNat < n9) → (hi0 : 0 ≤ j ∧ j ≤ 100) → (hi1 : 0 ≤ n ∧ n ≤ j) → xD G (xA M s.heap.size) s M H locs → lv_has ls 4 [(0, .ref a), (1, .ref i), (2, .int (iN (n))), (3, .int (iN (j)))] → W p l e R s m args below meth c H locs _ _ _ (F0 m 4 ls []) by
    exact hloop4 _ 0 0  _ _ _ (Nat.lt_succ_self _) (by omega) (by omega) hw (lv_sub hl [2, 3, 1, 0] rfl)
  intro n9
  induction n9 with
  | zero => intro n j  H locs ls hmu; exact absurd hmu (Nat.not_lt_zero _)
  | succ n9 ih4 =>
    intro n j  H locs ls hmu hi0 hi1 hw hl
    refine lv_iload_n hC.1 hC.2.1 dX5_many_4 rfl (lv_at hl 3 rfl) ?_
    refine x_bipush hC dX5_many_5 (by decide +kernel) ?_
    refine x_icmp_ge (tgt := 28) hC ⟨by omega, by omega⟩ ⟨by omega, by omega⟩ dX5_many_7 (by decide) (fun c_2 => ?_) (fun c_2 => ?_)
    · refine lv_iload_n hC.1 hC.2.1 dX5_many_28 rfl (lv_at hl 2 rfl) ?_
      exact x_iret hC hw dX5_many_29 (by omega) (by omega) ⟨n, rfl, rfl, by omega⟩
    · refine lv_iload_n hC.1 hC.2.1 dX5_many_10 rfl (lv_at hl 2 rfl) ?_
      refine lv_aload_n hC.1 hC.2.1 dX5_many_11 rfl (lv_at hl 0 rfl) ?_
      refine lv_aload_n hC.1 hC.2.1 dX5_many_12 rfl (lv_at hl 1 rfl) ?_
      refine lv_iload_n hC.1 hC.2.1 dX5_many_13 rfl (lv_at hl 3 rfl) ?_
      refine x_callV hC hw (lv_size hl) (c_X5_shows l G hR hIi (p0 := j) (by omega) (by omega)) gX5_many_X5_shows rfl dv_X5_shows hR.1.1 rfl rfl (Nat.le_of_ble_eq_true rfl) (by rw [hRf]; decide) (by rw [hRl]; decide) (by omega) (by omega) dX5_many_14 (fun r9 M_3 H locs hq hw => ?_)
      obtain ⟨z_4, rfl, hM9, hz_4a, hz_4S⟩ := hq
      rw [hM9] at hw
      show W p l e R s m args below meth c H locs _ _ _ (F0 m 17 ls [.int (iN (z_4)), .int (iN (n))])
      refine x_callS hC hw (lv_size hl) (c_X5_one l G (M := M) (p0 := z_4) (by omega)) gX5_many_X5_one rfl dv_X5_one_s rfl (Nat.le_of_ble_eq_true rfl) (by rw [hRf]; decide) (by rw [hRl]; decide) (by omega) (by omega) dX5_many_17 (fun r9 M_5 H locs hq hw => ?_)
      obtain ⟨z_6, rfl, hM9, hz_6a, hz_6b⟩ := hq
      rw [hM9] at hw
      show W p l e R s m args below meth c H locs _ _ _ (F0 m 20 ls [.int (iN (z_6)), .int (iN (n))])
      refine x_iadd hC dX5_many_20 ?_
      refine lv_istore_n (lv' := [(2, .int (iN (n + z_6))), (0, .ref a), (1, .ref i), (3, .int (iN (j)))]) hC.1 hC.2.1 dX5_many_21 rfl hl (by decide) rfl (fun ls hl => ?_)
      refine x_iinc (lv' := [(3, .int (iN (j + 1))), (2, .int (iN (n + z_6))), (0, .ref a), (1, .ref i)]) hC dX5_many_22 hl (k := 3) rfl (by decide) rfl (fun ls hl => ?_)
      refine lv_goto (tgt := 4) hC.1 hC.2.1 dX5_many_25 (by decide) ?_
      exact ih4 (n + z_6) (j + 1)  _ _ _ (by omega) (by omega) (by omega) hw (lv_sub hl [2, 3, 1, 0] rfl)
set_option maxHeartbeats 4000000 in
set_option maxRecDepth 100000 in
theorem c_X5_sum (l : Launch) (G : xG) {M : HM} {a va oa wa ya : Nat} {wk : Option Nat} {th rfd br re la ha kp kv : Int32} {qv qw : Nat → Nat} {fa fb : Nat → Option Nat} {fvv fw : Nat → Nat → Int32} {fo : Nat → Int32} {fy : Nat → Option Nat} {S : Nat → Bool} (hR : MGx G M a va oa wa ya wk th rfd br re la ha kp kv qv qw fa fb fvv fw fo fy S) {i : Nat} {fi : Nat → Int32} (hIi : Its G M i fi) : xMet l G yX5_sum wsX5_sum 3 67 0 0 [.ref a, .ref i] M (fun r M1 => ∃ z : Int, r = some (.int (iN z)) ∧ M1 = M ∧ (-2147483648 ≤ z ∧ z ≤ 2147483647)) := by
  refine x_intro (cc := cX5_sum) (maxL := 4) (ret := (some .int)) (by decide +kernel) rfl (Nat.le_of_ble_eq_true rfl) ?_
  intro p e R s m args below meth c ls hRf hRc hRs hRl hC hw hl
  obtain ⟨hvt_1, hat_1, hbt_1, hct_1, hdt_1, het_1⟩ := id hIi
  have hinX5 : ∀ w ∈ wsX50, w ∈ wsX5_sum := by decide +kernel
  have hl : lv_has ls 4 [(0, .ref a), (1, .ref i)] := hl
  refine x_const hC dX5_sum_0 ?_
  refine lv_istore_n (lv' := [(2, .int (iN (0))), (0, .ref a), (1, .ref i)]) hC.1 hC.2.1 dX5_sum_1 rfl hl (by decide) rfl (fun ls hl => ?_)
  refine x_const hC dX5_sum_2 ?_
  refine lv_istore_n (lv' := [(3, .int (iN (0))), (2, .int (iN (0))), (0, .ref a), (1, .ref i)]) hC.1 hC.2.1 dX5_sum_3 rfl hl (by decide) rfl (fun ls hl => ?_)
  suffices hloop4 : ∀ (n9 : Nat) (n : Int) (j : Int) (H : Heap) (locs : List Loc) (ls : Array Slot), (hmu : (100 - j).toNat < n9) → (hi0 : 0 ≤ j ∧ j ≤ 100) → (hi1 : -2147483648 ≤ n ∧ n ≤ 2147483647) → xD G (xA M s.heap.size) s M H locs → lv_has ls 4 [(0, .ref a), (1, .ref i), (2, .int (iN (n))), (3, .int (iN (j)))] → W p l e R s m args below meth c H locs _ _ _ (F0 m 4 ls []) by
    exact hloop4 _ 0 0  _ _ _ (Nat.lt_succ_self _) (by omega) (by omega) hw (lv_sub hl [2, 3, 1, 0] rfl)
  intro n9
  induction n9 with
  | zero => intro n j  H locs ls hmu; exact absurd hmu (Nat.not_lt_zero _)
  | succ n9 ih4 =>
    intro n j  H locs ls hmu hi0 hi1 hw hl
    refine lv_iload_n hC.1 hC.2.1 dX5_sum_4 rfl (lv_at hl 3 rfl) ?_
    refine x_bipush hC dX5_sum_5 (by decide +kernel) ?_
    refine x_icmp_ge (tgt := 38) hC ⟨by omega, by omega⟩ ⟨by omega, by omega⟩ dX5_sum_7 (by decide) (fun c_2 => ?_) (fun c_2 => ?_)
    · refine lv_iload_n hC.1 hC.2.1 dX5_sum_38 rfl (lv_at hl 2 rfl) ?_
      exact x_iret hC hw dX5_sum_39 (by omega) (by omega) ⟨n, rfl, rfl, by omega⟩
    · refine lv_aload_n hC.1 hC.2.1 dX5_sum_10 rfl (lv_at hl 0 rfl) ?_
      refine lv_aload_n hC.1 hC.2.1 dX5_sum_11 rfl (lv_at hl 1 rfl) ?_
      refine lv_iload_n hC.1 hC.2.1 dX5_sum_12 rfl (lv_at hl 3 rfl) ?_
      refine x_callV hC hw (lv_size hl) (c_X5_shows l G hR hIi (p0 := j) (by omega) (by omega)) gX5_sum_X5_shows rfl dv_X5_shows hR.1.1 rfl rfl (Nat.le_of_ble_eq_true rfl) (by rw [hRf]; decide) (by rw [hRl]; decide) (by omega) (by omega) dX5_sum_13 (fun r9 M_3 H locs hq hw => ?_)
      obtain ⟨z_4, rfl, hM9, hz_4a, hz_4S⟩ := hq
      rw [hM9] at hw
      show W p l e R s m args below meth c H locs _ _ _ (F0 m 16 ls [.int (iN (z_4))])
      refine x_if_eq (tgt := 32) hC ⟨by omega, by omega⟩ dX5_sum_16 (by decide) (fun c_5 => ?_) (fun c_5 => ?_)
      · refine x_iinc (lv' := [(3, .int (iN (j + 1))), (0, .ref a), (1, .ref i), (2, .int (iN (n)))]) hC dX5_sum_32 hl (k := 3) rfl (by decide) rfl (fun ls hl => ?_)
        refine lv_goto (tgt := 4) hC.1 hC.2.1 dX5_sum_35 (by decide) ?_
        exact ih4 n (j + 1)  _ _ _ (by omega) (by omega) (by omega) hw (lv_sub hl [1, 2, 3, 0] rfl)
      · refine lv_iload_n hC.1 hC.2.1 dX5_sum_19 rfl (lv_at hl 2 rfl) ?_
        refine lv_aload_n hC.1 hC.2.1 dX5_sum_20 rfl (lv_at hl 0 rfl) ?_
        refine x_get hC hw hR.1.1 rfl hinX5 2 (by decide) (by decide +kernel) rfl dX5_sum_21 ?_
        refine lv_aload_n hC.1 hC.2.1 dX5_sum_24 rfl (lv_at hl 1 rfl) ?_
        refine x_const hC dX5_sum_25 ?_
        refine x_iald hC hw hIi.1 (by omega) (by omega) (by omega) dX5_sum_26 ?_
        obtain ⟨z_6, hz_6⟩ : ∃ z : Int, z = (fi (0 : Int).toNat).toInt := ⟨_, rfl⟩
        rw [← hz_6]
        have hz_6' : z_6 = (fi 0).toInt := hz_6
        have hrz_6 : -2147483648 ≤ z_6 ∧ z_6 ≤ 2147483647 := by rw [hz_6]; exact iN_rng _
        refine x_ald4 hC hw hR.1.2.1 (by omega) (by omega) (by omega) dX5_sum_27 ?_
        rw [hR.fa' (show (z_6).toNat < 3 by omega)]
        show W p l e R s m args below meth c _ _ _ _ _ (F0 m 28 ls [.ref (qv (z_6).toNat), .int (iN (n))])
        refine lv_iload_n hC.1 hC.2.1 dX5_sum_28 rfl (lv_at hl 3 rfl) ?_
        refine x_iald hC hw (hR.rv (show (z_6).toNat < 3 by omega)) (by omega) (by omega) (by omega) dX5_sum_29 ?_
        obtain ⟨z_7, hz_7⟩ : ∃ z : Int, z = ((fvv (z_6).toNat) (j).toNat).toInt := ⟨_, rfl⟩
        rw [← hz_7]
        have hrz_7 : -10000 ≤ z_7 ∧ z_7 ≤ 9999 := by rw [hz_7]; exact hR.vr (by omega) (by omega)
        have hpz_7 : z_7 ≠ -10000 → S (j).toNat = true := by rw [hz_7]; exact hR.vs (by omega) (by omega)
        refine x_iadd hC dX5_sum_30 ?_
        obtain ⟨z_8, hz_8, hrz_8⟩ := x_nrm (n + z_7)
        rw [hz_8]
        refine lv_istore_n (lv' := [(2, .int (iN (z_8))), (0, .ref a), (1, .ref i), (3, .int (iN (j)))]) hC.1 hC.2.1 dX5_sum_31 rfl hl (by decide) rfl (fun ls hl => ?_)
        refine x_iinc (lv' := [(3, .int (iN (j + 1))), (2, .int (iN (z_8))), (0, .ref a), (1, .ref i)]) hC dX5_sum_32 hl (k := 3) rfl (by decide) rfl (fun ls hl => ?_)
        refine lv_goto (tgt := 4) hC.1 hC.2.1 dX5_sum_35 (by decide) ?_
        exact ih4 z_8 (j + 1)  _ _ _ (by omega) (by omega) (by omega) hw (lv_sub hl [2, 3, 1, 0] rfl)
set_option maxHeartbeats 4000000 in
set_option maxRecDepth 100000 in
theorem c_X5_ahead (l : Launch) (G : xG) {M : HM} {a va oa wa ya : Nat} {wk : Option Nat} {th rfd br re la ha kp kv : Int32} {qv qw : Nat → Nat} {fa fb : Nat → Option Nat} {fvv fw : Nat → Nat → Int32} {fo : Nat → Int32} {fy : Nat → Option Nat} {S : Nat → Bool} (hR : MGx G M a va oa wa ya wk th rfd br re la ha kp kv qv qw fa fb fvv fw fo fy S) {p0 : Int} (hp0 : -2147483648 ≤ p0 ∧ p0 ≤ 2147483647) {p1 : Int} (hp1 : -2147483648 ≤ p1 ∧ p1 ≤ 2147483647) (hob : 0 ≤ p0 ∧ p0 ≤ 2) (hok : 0 ≤ p1 ∧ p1 ≤ 99) : xMet l G yX5_ahead wsX5_ahead 3 67 1 5 [.ref a, .int (iN (p0)), .int (iN (p1))] M (fun r M1 => ∃ z : Int, r = some (.int (iN z)) ∧ xExt M M1 ∧ (0 ≤ z ∧ z ≤ 100)) := by
  refine x_intro (cc := cX5_ahead) (maxL := 6) (ret := (some .int)) (by decide +kernel) rfl (Nat.le_of_ble_eq_true rfl) ?_
  intro p e R s m args below meth c ls hRf hRc hRs hRl hC hw hl
  have hl : lv_has ls 6 [(0, .ref a), (1, .int (iN (p0))), (2, .int (iN (p1)))] := hl
  refine lv_iload_n hC.1 hC.2.1 dX5_ahead_0 rfl (lv_at hl 1 rfl) ?_
  refine x_callS hC hw (lv_size hl) (c_X5_whole l G (M := M) (p0 := p0) (by omega) (by omega)) gX5_ahead_X5_whole rfl dv_X5_whole_s rfl (Nat.le_of_ble_eq_true rfl) (by rw [hRf]; decide) (by rw [hRl]; decide) (by omega) (by omega) dX5_ahead_1 (fun r9 M_1 H locs hq hw => ?_)
  obtain ⟨qk_2, fk_2, rfl, hxk_2, hIk_2, hfk_2⟩ := hq
  have h_3 := hR.ext hxk_2
  obtain ⟨hvt_4, hat_4, hbt_4, hct_4, hdt_4, het_4⟩ := id hIk_2
  show W p l e R s m args below meth c H locs _ _ _ (F0 m 4 ls [.ref qk_2])
  refine lv_astore_n (lv' := [(3, .ref qk_2), (0, .ref a), (1, .int (iN (p0))), (2, .int (iN (p1)))]) hC.1 hC.2.1 dX5_ahead_4 rfl hl (by decide) rfl (fun ls hl => ?_)
  refine x_const hC dX5_ahead_5 ?_
  refine lv_istore (lv' := [(4, .int (iN (0))), (3, .ref qk_2), (0, .ref a), (1, .int (iN (p0))), (2, .int (iN (p1)))]) hC.1 hC.2.1 dX5_ahead_6 hl (by decide) rfl (fun ls hl => ?_)
  refine x_const hC dX5_ahead_8 ?_
  refine lv_istore (lv' := [(5, .int (iN (0))), (4, .int (iN (0))), (3, .ref qk_2), (0, .ref a), (1, .int (iN (p0))), (2, .int (iN (p1)))]) hC.1 hC.2.1 dX5_ahead_9 hl (by decide) rfl (fun ls hl => ?_)
  suffices hloop11 : ∀ (n9 : Nat) (n : Int) (j : Int) (H : Heap) (locs : List Loc) (ls : Array Slot), (hmu : (100 - j).toNat < n9) → (hi0 : 0 ≤ j ∧ j ≤ 100) → (hi1 : 0 ≤ n ∧ n ≤ j) → xD G (xA M s.heap.size) s M_1 H locs → lv_has ls 6 [(0, .ref a), (1, .int (iN (p0))), (2, .int (iN (p1))), (3, .ref qk_2), (4, .int (iN (n))), (5, .int (iN (j)))] → W p l e R s m args below meth c H locs _ _ _ (F0 m 11 ls []) by
    exact hloop11 _ 0 0  _ _ _ (Nat.lt_succ_self _) (by omega) (by omega) hw (lv_sub hl [3, 4, 5, 2, 1, 0] rfl)
  intro n9
  induction n9 with
  | zero => intro n j  H locs ls hmu; exact absurd hmu (Nat.not_lt_zero _)
  | succ n9 ih11 =>
    intro n j  H locs ls hmu hi0 hi1 hw hl
    refine lv_iload hC.1 hC.2.1 dX5_ahead_11 (lv_at hl 5 rfl) ?_
    refine x_bipush hC dX5_ahead_13 (by decide +kernel) ?_
    refine x_icmp_ge (tgt := 63) hC ⟨by omega, by omega⟩ ⟨by omega, by omega⟩ dX5_ahead_15 (by decide) (fun c_5 => ?_) (fun c_5 => ?_)
    · refine lv_iload hC.1 hC.2.1 dX5_ahead_63 (lv_at hl 4 rfl) ?_
      exact x_iret hC hw dX5_ahead_65 (by omega) (by omega) ⟨n, rfl, hxk_2, by omega⟩
    · refine lv_iload hC.1 hC.2.1 dX5_ahead_18 (lv_at hl 4 rfl) ?_
      refine lv_aload_n hC.1 hC.2.1 dX5_ahead_20 rfl (lv_at hl 0 rfl) ?_
      refine lv_aload_n hC.1 hC.2.1 dX5_ahead_21 rfl (lv_at hl 3 rfl) ?_
      refine lv_iload hC.1 hC.2.1 dX5_ahead_22 (lv_at hl 5 rfl) ?_
      refine x_callV hC hw (lv_size hl) (c_X5_shows l G h_3 hIk_2 (p0 := j) (by omega) (by omega)) gX5_ahead_X5_shows rfl dv_X5_shows h_3.1.1 rfl rfl (Nat.le_of_ble_eq_true rfl) (by rw [hRf]; decide) (by rw [hRl]; decide) (by omega) (by omega) dX5_ahead_24 (fun r9 M_6 H locs hq hw => ?_)
      obtain ⟨z_7, rfl, hM9, hz_7a, hz_7S⟩ := hq
      rw [hM9] at hw
      show W p l e R s m args below meth c H locs _ _ _ (F0 m 27 ls [.int (iN (z_7)), .int (iN (n))])
      refine x_if_eq (tgt := 50) hC ⟨by omega, by omega⟩ dX5_ahead_27 (by decide) (fun c_8 => ?_) (fun c_8 => ?_)
      · refine x_const hC dX5_ahead_50 ?_
        refine x_callS hC hw (lv_size hl) (c_X5_one l G (M := M_1) (p0 := 0) (by omega)) gX5_ahead_X5_one rfl dv_X5_one_s rfl (Nat.le_of_ble_eq_true rfl) (by rw [hRf]; decide) (by rw [hRl]; decide) (by omega) (by omega) dX5_ahead_51 (fun r9 M_9 H locs hq hw => ?_)
        obtain ⟨z_10, rfl, hM9, hz_10a, hz_10b⟩ := hq
        rw [hM9] at hw
        show W p l e R s m args below meth c H locs _ _ _ (F0 m 54 ls [.int (iN (z_10)), .int (iN (n))])
        refine x_iadd hC dX5_ahead_54 ?_
        refine lv_istore (lv' := [(4, .int (iN (n + z_10))), (0, .ref a), (1, .int (iN (p0))), (2, .int (iN (p1))), (3, .ref qk_2), (5, .int (iN (j)))]) hC.1 hC.2.1 dX5_ahead_55 hl (by decide) rfl (fun ls hl => ?_)
        refine x_iinc (lv' := [(5, .int (iN (j + 1))), (4, .int (iN (n + z_10))), (0, .ref a), (1, .int (iN (p0))), (2, .int (iN (p1))), (3, .ref qk_2)]) hC dX5_ahead_57 hl (k := 5) rfl (by decide) rfl (fun ls hl => ?_)
        refine lv_goto (tgt := 11) hC.1 hC.2.1 dX5_ahead_60 (by decide) ?_
        exact ih11 (n + z_10) (j + 1)  _ _ _ (by omega) (by omega) (by omega) hw (lv_sub hl [2, 3, 4, 5, 1, 0] rfl)
      · refine lv_aload_n hC.1 hC.2.1 dX5_ahead_30 rfl (lv_at hl 0 rfl) ?_
        refine lv_aload_n hC.1 hC.2.1 dX5_ahead_31 rfl (lv_at hl 3 rfl) ?_
        refine lv_iload hC.1 hC.2.1 dX5_ahead_32 (lv_at hl 5 rfl) ?_
        refine x_callV hC hw (lv_size hl) (c_X5_weight l G h_3 hIk_2 (p0 := j) (by omega) (by omega)) gX5_ahead_X5_weight rfl dv_X5_weight h_3.1.1 rfl rfl (Nat.le_of_ble_eq_true rfl) (by rw [hRf]; decide) (by rw [hRl]; decide) (by omega) (by omega) dX5_ahead_34 (fun r9 M_11 H locs hq hw => ?_)
        obtain ⟨z_12, rfl, hM9, hz_12a, hz_12b⟩ := hq
        rw [hM9] at hw
        show W p l e R s m args below meth c H locs _ _ _ (F0 m 37 ls [.int (iN (z_12)), .int (iN (n))])
        refine lv_aload_n hC.1 hC.2.1 dX5_ahead_37 rfl (lv_at hl 0 rfl) ?_
        refine lv_aload_n hC.1 hC.2.1 dX5_ahead_38 rfl (lv_at hl 3 rfl) ?_
        refine lv_iload_n hC.1 hC.2.1 dX5_ahead_39 rfl (lv_at hl 2 rfl) ?_
        refine x_callV hC hw (lv_size hl) (c_X5_weight l G h_3 hIk_2 (p0 := p1) (by omega) (by omega)) gX5_ahead_X5_weight rfl dv_X5_weight h_3.1.1 rfl rfl (Nat.le_of_ble_eq_true rfl) (by rw [hRf]; decide) (by rw [hRl]; decide) (by omega) (by omega) dX5_ahead_40 (fun r9 M_13 H locs hq hw => ?_)
        obtain ⟨z_14, rfl, hM9, hz_14a, hz_14b⟩ := hq
        rw [hM9] at hw
        show W p l e R s m args below meth c H locs _ _ _ (F0 m 43 ls [.int (iN (z_14)), .int (iN (z_12)), .int (iN (n))])
        refine x_icmp_ge (tgt := 50) hC ⟨by omega, by omega⟩ ⟨by omega, by omega⟩ dX5_ahead_43 (by decide) (fun c_15 => ?_) (fun c_15 => ?_)
        · refine x_const hC dX5_ahead_50 ?_
          refine x_callS hC hw (lv_size hl) (c_X5_one l G (M := M_1) (p0 := 0) (by omega)) gX5_ahead_X5_one rfl dv_X5_one_s rfl (Nat.le_of_ble_eq_true rfl) (by rw [hRf]; decide) (by rw [hRl]; decide) (by omega) (by omega) dX5_ahead_51 (fun r9 M_16 H locs hq hw => ?_)
          obtain ⟨z_17, rfl, hM9, hz_17a, hz_17b⟩ := hq
          rw [hM9] at hw
          show W p l e R s m args below meth c H locs _ _ _ (F0 m 54 ls [.int (iN (z_17)), .int (iN (n))])
          refine x_iadd hC dX5_ahead_54 ?_
          refine lv_istore (lv' := [(4, .int (iN (n + z_17))), (0, .ref a), (1, .int (iN (p0))), (2, .int (iN (p1))), (3, .ref qk_2), (5, .int (iN (j)))]) hC.1 hC.2.1 dX5_ahead_55 hl (by decide) rfl (fun ls hl => ?_)
          refine x_iinc (lv' := [(5, .int (iN (j + 1))), (4, .int (iN (n + z_17))), (0, .ref a), (1, .int (iN (p0))), (2, .int (iN (p1))), (3, .ref qk_2)]) hC dX5_ahead_57 hl (k := 5) rfl (by decide) rfl (fun ls hl => ?_)
          refine lv_goto (tgt := 11) hC.1 hC.2.1 dX5_ahead_60 (by decide) ?_
          exact ih11 (n + z_17) (j + 1)  _ _ _ (by omega) (by omega) (by omega) hw (lv_sub hl [2, 3, 4, 5, 1, 0] rfl)
        · refine x_const hC dX5_ahead_46 ?_
          refine lv_goto (tgt := 51) hC.1 hC.2.1 dX5_ahead_47 (by decide) ?_
          refine x_callS hC hw (lv_size hl) (c_X5_one l G (M := M_1) (p0 := 1) (by omega)) gX5_ahead_X5_one rfl dv_X5_one_s rfl (Nat.le_of_ble_eq_true rfl) (by rw [hRf]; decide) (by rw [hRl]; decide) (by omega) (by omega) dX5_ahead_51 (fun r9 M_18 H locs hq hw => ?_)
          obtain ⟨z_19, rfl, hM9, hz_19a, hz_19b⟩ := hq
          rw [hM9] at hw
          show W p l e R s m args below meth c H locs _ _ _ (F0 m 54 ls [.int (iN (z_19)), .int (iN (n))])
          refine x_iadd hC dX5_ahead_54 ?_
          refine lv_istore (lv' := [(4, .int (iN (n + z_19))), (0, .ref a), (1, .int (iN (p0))), (2, .int (iN (p1))), (3, .ref qk_2), (5, .int (iN (j)))]) hC.1 hC.2.1 dX5_ahead_55 hl (by decide) rfl (fun ls hl => ?_)
          refine x_iinc (lv' := [(5, .int (iN (j + 1))), (4, .int (iN (n + z_19))), (0, .ref a), (1, .int (iN (p0))), (2, .int (iN (p1))), (3, .ref qk_2)]) hC dX5_ahead_57 hl (k := 5) rfl (by decide) rfl (fun ls hl => ?_)
          refine lv_goto (tgt := 11) hC.1 hC.2.1 dX5_ahead_60 (by decide) ?_
          exact ih11 (n + z_19) (j + 1)  _ _ _ (by omega) (by omega) (by omega) hw (lv_sub hl [2, 3, 4, 5, 1, 0] rfl)
set_option maxHeartbeats 4000000 in
set_option maxRecDepth 100000 in
theorem c_X5_touch (l : Launch) (G : xG) {M : HM} {a va oa wa ya : Nat} {wk : Option Nat} {th rfd br re la ha kp kv : Int32} {qv qw : Nat → Nat} {fa fb : Nat → Option Nat} {fvv fw : Nat → Nat → Int32} {fo : Nat → Int32} {fy : Nat → Option Nat} {S : Nat → Bool} (hR : MGx G M a va oa wa ya wk th rfd br re la ha kp kv qv qw fa fb fvv fw fo fy S) {p0 : Int} (hp0 : -2147483648 ≤ p0 ∧ p0 ≤ 2147483647) : xMet l G yX5_touch wsX5_touch 0 0 0 0 [.ref a, .int (iN (p0))] M (fun r M1 => r = none ∧ ∃ (ha1 : Int32), MGx G M1 a va oa wa ya wk th rfd br re la ha1 kp kv qv qw fa fb fvv fw fo fy S) := by
  refine x_intro (cc := cX5_touch) (maxL := 2) (ret := none) (by decide +kernel) rfl (Nat.le_of_ble_eq_true rfl) ?_
  intro p e R s m args below meth c ls hRf hRc hRs hRl hC hw hl
  have hinX5 : ∀ w ∈ wsX50, w ∈ wsX5_touch := by decide +kernel
  have hl : lv_has ls 2 [(0, .ref a), (1, .int (iN (p0)))] := hl
  refine lv_aload_n hC.1 hC.2.1 dX5_touch_0 rfl (lv_at hl 0 rfl) ?_
  refine x_get hC hw hR.1.1 rfl hinX5 6 (by decide) (by decide +kernel) rfl dX5_touch_1 ?_
  rcases wk with _ | w_1
  · show W p l e R s m args below meth c _ _ _ _ _ (F0 m 4 ls [.null])
    refine lv_ifnullN (tgt := 24) hC.1 hC.2.1 dX5_touch_4 (by decide) ?_
    exact x_vret hC hw dX5_touch_24 (by omega) (by omega) ⟨rfl, _, hR⟩
  · obtain ⟨fi_2, hIi_2⟩ := (hR.wk' rfl)
    obtain ⟨hvt_3, hat_3, hbt_3, hct_3, hdt_3, het_3⟩ := id hIi_2
    show W p l e R s m args below meth c _ _ _ _ _ (F0 m 4 ls [.ref w_1])
    refine lv_ifnull hC.1 hC.2.1 dX5_touch_4 ?_
    refine lv_aload_n hC.1 hC.2.1 dX5_touch_7 rfl (lv_at hl 0 rfl) ?_
    refine x_get hC hw hR.1.1 rfl hinX5 6 (by decide) (by decide +kernel) rfl dX5_touch_8 ?_
    show W p l e R s m args below meth c _ _ _ _ _ (F0 m 11 ls [.ref w_1])
    refine x_const hC dX5_touch_11 ?_
    refine x_iald hC hw hIi_2.1 (by omega) (by omega) (by omega) dX5_touch_12 ?_
    obtain ⟨z_4, hz_4⟩ : ∃ z : Int, z = (fi_2 (0 : Int).toNat).toInt := ⟨_, rfl⟩
    rw [← hz_4]
    have hz_4' : z_4 = (fi_2 0).toInt := hz_4
    have hrz_4 : -2147483648 ≤ z_4 ∧ z_4 ≤ 2147483647 := by rw [hz_4]; exact iN_rng _
    refine lv_iload_n hC.1 hC.2.1 dX5_touch_13 rfl (lv_at hl 1 rfl) ?_
    refine x_icmp_ne (tgt := 24) hC ⟨by omega, by omega⟩ ⟨by omega, by omega⟩ dX5_touch_14 (by decide) (fun c_5 => ?_) (fun c_5 => ?_)
    · exact x_vret hC hw dX5_touch_24 (by omega) (by omega) ⟨rfl, _, hR⟩
    · refine lv_aload_n hC.1 hC.2.1 dX5_touch_17 rfl (lv_at hl 0 rfl) ?_
      refine x_sipush hC dX5_touch_18 (by decide +kernel) ?_
      refine x_put (fs2 := [.int th, .int rfd, .ref va, .ref oa, .ref wa, .ref ya, .ref w_1, .int br, .int re, .int la, .int (iN ((-10000))), .int kp, .int kv]) hC hw hR.1.1 rfl hinX5 tyX5 tyX5_ok nmX5 10 (by decide) (by decide +kernel) rfl rfl rfl (Nat.le_of_ble_eq_true rfl) rfl dX5_touch_21 (fun H locs hw => ?_)
      obtain ⟨M_6, hM_7⟩ : ∃ z, z = va_up M a (some (.inr (7, [.int th, .int rfd, .ref va, .ref oa, .ref wa, .ref ya, .ref w_1, .int br, .int re, .int la, .int (iN ((-10000))), .int kp, .int kv]))) := ⟨_, rfl⟩
      rw [← hM_7] at hw
      have hR_8 : MGx G M_6 a va oa wa ya (some w_1) th rfd br re la (iN ((-10000))) kp kv qv qw fa fb fvv fw fo fy S := hR.obj hM_7 hR.sc.1 hR.sc.2.1 (by rw [iN_toInt ⟨by omega, by omega⟩]; omega) (fun y9 h9 => hR.wk' h9)
      have h_9 := hIi_2.x5 (hR.obj5 hM_7)
      exact x_vret hC hw dX5_touch_24 (by omega) (by omega) ⟨rfl, _, hR_8⟩
set_option maxHeartbeats 4000000 in
set_option maxRecDepth 100000 in
theorem c_X5_set (l : Launch) (G : xG) {M : HM} {a va oa wa ya : Nat} {wk : Option Nat} {th rfd br re la ha kp kv : Int32} {qv qw : Nat → Nat} {fa fb : Nat → Option Nat} {fvv fw : Nat → Nat → Int32} {fo : Nat → Int32} {fy : Nat → Option Nat} {S : Nat → Bool} (hR : MGx G M a va oa wa ya wk th rfd br re la ha kp kv qv qw fa fb fvv fw fo fy S) {p0 : Int} (hp0 : -2147483648 ≤ p0 ∧ p0 ≤ 2147483647) {p1 : Int} (hp1 : -2147483648 ≤ p1 ∧ p1 ≤ 2147483647) {p2 : Int} (hp2 : -2147483648 ≤ p2 ∧ p2 ≤ 2147483647) (hob : 0 ≤ p0 ∧ p0 ≤ 2) (hok : 0 ≤ p1 ∧ p1 ≤ 99) (hov : -10000 ≤ p2 ∧ p2 ≤ 9999) (hsv : p2 ≠ -10000 → S p1.toNat = true) : xMet l G yX5_set wsX5_set 0 0 0 0 [.ref a, .int (iN (p0)), .int (iN (p1)), .int (iN (p2))] M (fun r M1 => ∃ z : Int, r = some (.int (iN z)) ∧ (-10000 ≤ z ∧ z ≤ 9999) ∧ (z ≠ -10000 → S p1.toNat = true) ∧ xI5 G M M1 ∧ ∃ (br1 : Int32) (fvv1 : Nat → Nat → Int32), MGx G M1 a va oa wa ya wk th rfd br1 re la ha kp kv qv qw fa fb fvv1 fw fo fy S) := by
  refine x_intro (cc := cX5_set) (maxL := 5) (ret := (some .int)) (by decide +kernel) rfl (Nat.le_of_ble_eq_true rfl) ?_
  intro p e R s m args below meth c ls hRf hRc hRs hRl hC hw hl
  have hinX5 : ∀ w ∈ wsX50, w ∈ wsX5_set := by decide +kernel
  have hl : lv_has ls 5 [(0, .ref a), (1, .int (iN (p0))), (2, .int (iN (p1))), (3, .int (iN (p2)))] := hl
  refine lv_aload_n hC.1 hC.2.1 dX5_set_0 rfl (lv_at hl 0 rfl) ?_
  refine x_get hC hw hR.1.1 rfl hinX5 2 (by decide) (by decide +kernel) rfl dX5_set_1 ?_
  refine lv_iload_n hC.1 hC.2.1 dX5_set_4 rfl (lv_at hl 1 rfl) ?_
  refine x_ald4 hC hw hR.1.2.1 (by omega) (by omega) (by omega) dX5_set_5 ?_
  rw [hR.fa' (show (p0).toNat < 3 by omega)]
  show W p l e R s m args below meth c _ _ _ _ _ (F0 m 6 ls [.ref (qv (p0).toNat)])
  refine lv_iload_n hC.1 hC.2.1 dX5_set_6 rfl (lv_at hl 2 rfl) ?_
  refine x_iald hC hw (hR.rv (show (p0).toNat < 3 by omega)) (by omega) (by omega) (by omega) dX5_set_7 ?_
  obtain ⟨z_1, hz_1⟩ : ∃ z : Int, z = ((fvv (p0).toNat) (p1).toNat).toInt := ⟨_, rfl⟩
  rw [← hz_1]
  have hrz_1 : -10000 ≤ z_1 ∧ z_1 ≤ 9999 := by rw [hz_1]; exact hR.vr (by omega) (by omega)
  have hpz_1 : z_1 ≠ -10000 → S (p1).toNat = true := by rw [hz_1]; exact hR.vs (by omega) (by omega)
  refine lv_istore (lv' := [(4, .int (iN (z_1))), (0, .ref a), (1, .int (iN (p0))), (2, .int (iN (p1))), (3, .int (iN (p2)))]) hC.1 hC.2.1 dX5_set_8 hl (by decide) rfl (fun ls hl => ?_)
  refine lv_aload_n hC.1 hC.2.1 dX5_set_10 rfl (lv_at hl 1 rfl) ?_
  refine x_get hC hw hR.1.1 rfl hinX5 2 (by decide) (by decide +kernel) rfl dX5_set_11 ?_
  refine lv_iload_n hC.1 hC.2.1 dX5_set_14 rfl (lv_at hl 2 rfl) ?_
  refine x_ald4 hC hw hR.1.2.1 (by omega) (by omega) (by omega) dX5_set_15 ?_
  rw [hR.fa' (show (p0).toNat < 3 by omega)]
  show W p l e R s m args below meth c _ _ _ _ _ (F0 m 16 ls [.ref (qv (p0).toNat)])
  refine lv_iload_n hC.1 hC.2.1 dX5_set_16 rfl (lv_at hl 3 rfl) ?_
  refine lv_iload_n hC.1 hC.2.1 dX5_set_17 rfl (lv_at hl 4 rfl) ?_
  refine x_iast hC hw (hR.rv (show (p0).toNat < 3 by omega)) (by omega) (by omega) (by omega) dX5_set_18 (fun H locs hw => ?_)
  obtain ⟨M_2, hM_3⟩ : ∃ z, z = va_up M (qv (p0).toNat) (some (.inl (G.2 1, 100, .inl (upd (fvv (p0).toNat) (p1).toNat (iN (p2)))))) := ⟨_, rfl⟩
  rw [← hM_3] at hw
  have hR_4 := hR.val (j := (p0).toNat) (v := p2) (by omega) hM_3 (by omega) (by intro q9; first | exact absurd rfl q9 | assumption | exact hpz_1 q9 | exact hpz_1 (by omega) | exact hsv q9)
  obtain ⟨fvv_5, hfvv_5⟩ : ∃ z, z = (vUp fvv (p0).toNat (upd (fvv (p0).toNat) (p1).toNat (iN (p2)))) := ⟨_, rfl⟩
  rw [← hfvv_5] at hR_4
  refine lv_aload_n hC.1 hC.2.1 dX5_set_19 rfl (lv_at hl 1 rfl) ?_
  refine x_get hC hw hR_4.1.1 rfl hinX5 6 (by decide) (by decide +kernel) rfl dX5_set_20 ?_
  rcases wk with _ | w_6
  · show W p l e R s m args below meth c _ _ _ _ _ (F0 m 23 ls [.null])
    refine lv_ifnullN (tgt := 69) hC.1 hC.2.1 dX5_set_23 (by decide) ?_
    refine lv_iload hC.1 hC.2.1 dX5_set_69 (lv_at hl 0 rfl) ?_
    exact x_iret hC hw dX5_set_71 (by omega) (by omega) ⟨z_1, rfl, by omega, hpz_1, ((hR.val5 (show (p0).toNat < 3 by omega) hM_3)), _, _, hR_4⟩
  · obtain ⟨fi_7, hIi_7⟩ := (hR_4.wk' rfl)
    obtain ⟨hvt_8, hat_8, hbt_8, hct_8, hdt_8, het_8⟩ := id hIi_7
    show W p l e R s m args below meth c _ _ _ _ _ (F0 m 23 ls [.ref w_6])
    refine lv_ifnull hC.1 hC.2.1 dX5_set_23 ?_
    refine lv_aload_n hC.1 hC.2.1 dX5_set_26 rfl (lv_at hl 1 rfl) ?_
    refine x_get hC hw hR_4.1.1 rfl hinX5 6 (by decide) (by decide +kernel) rfl dX5_set_27 ?_
    show W p l e R s m args below meth c _ _ _ _ _ (F0 m 30 ls [.ref w_6])
    refine x_const hC dX5_set_30 ?_
    refine x_iald hC hw hIi_7.1 (by omega) (by omega) (by omega) dX5_set_31 ?_
    obtain ⟨z_9, hz_9⟩ : ∃ z : Int, z = (fi_7 (0 : Int).toNat).toInt := ⟨_, rfl⟩
    rw [← hz_9]
    have hz_9' : z_9 = (fi_7 0).toInt := hz_9
    have hrz_9 : -2147483648 ≤ z_9 ∧ z_9 ≤ 2147483647 := by rw [hz_9]; exact iN_rng _
    refine lv_iload_n hC.1 hC.2.1 dX5_set_32 rfl (lv_at hl 2 rfl) ?_
    refine x_icmp_ne (tgt := 69) hC ⟨by omega, by omega⟩ ⟨by omega, by omega⟩ dX5_set_33 (by decide) (fun c_10 => ?_) (fun c_10 => ?_)
    · refine lv_iload hC.1 hC.2.1 dX5_set_69 (lv_at hl 0 rfl) ?_
      exact x_iret hC hw dX5_set_71 (by omega) (by omega) ⟨z_1, rfl, by omega, hpz_1, ((hR.val5 (show (p0).toNat < 3 by omega) hM_3)), _, _, hR_4⟩
    · refine lv_iload hC.1 hC.2.1 dX5_set_36 (lv_at hl 0 rfl) ?_
      refine x_sipush hC dX5_set_38 (by decide +kernel) ?_
      refine x_icmp_ne (tgt := 48) hC ⟨by omega, by omega⟩ ⟨by omega, by omega⟩ dX5_set_41 (by decide) (fun c_11 => ?_) (fun c_11 => ?_)
      · refine x_const hC dX5_set_48 ?_
        refine lv_iload_n hC.1 hC.2.1 dX5_set_49 rfl (lv_at hl 4 rfl) ?_
        refine x_sipush hC dX5_set_50 (by decide +kernel) ?_
        refine x_icmp_ne (tgt := 60) hC ⟨by omega, by omega⟩ ⟨by omega, by omega⟩ dX5_set_53 (by decide) (fun c_12 => ?_) (fun c_12 => ?_)
        · refine x_const hC dX5_set_60 ?_
          refine x_icmp_eq (tgt := 69) hC ⟨by omega, by omega⟩ ⟨by omega, by omega⟩ dX5_set_61 (by decide) (fun c_13 => ?_) (fun c_13 => ?_)
          · refine lv_iload hC.1 hC.2.1 dX5_set_69 (lv_at hl 0 rfl) ?_
            exact x_iret hC hw dX5_set_71 (by omega) (by omega) ⟨z_1, rfl, by omega, hpz_1, ((hR.val5 (show (p0).toNat < 3 by omega) hM_3)), _, _, hR_4⟩
          · refine lv_aload_n hC.1 hC.2.1 dX5_set_64 rfl (lv_at hl 1 rfl) ?_
            refine x_const hC dX5_set_65 ?_
            refine x_put (fs2 := [.int th, .int rfd, .ref va, .ref oa, .ref wa, .ref ya, .ref w_6, .int (iN (1)), .int re, .int la, .int ha, .int kp, .int kv]) hC hw hR_4.1.1 rfl hinX5 tyX5 tyX5_ok nmX5 7 (by decide) (by decide +kernel) rfl rfl rfl (Nat.le_of_ble_eq_true rfl) rfl dX5_set_66 (fun H locs hw => ?_)
            obtain ⟨M_14, hM_15⟩ : ∃ z, z = va_up M_2 a (some (.inr (7, [.int th, .int rfd, .ref va, .ref oa, .ref wa, .ref ya, .ref w_6, .int (iN (1)), .int re, .int la, .int ha, .int kp, .int kv]))) := ⟨_, rfl⟩
            rw [← hM_15] at hw
            have hR_16 : MGx G M_14 a va oa wa ya (some w_6) th rfd (iN (1)) re la ha kp kv qv qw fa fb fvv_5 fw fo fy S := hR_4.obj hM_15 hR_4.sc.1 hR_4.sc.2.1 hR_4.sc.2.2 (fun y9 h9 => hR_4.wk' h9)
            have h_17 := hIi_7.x5 (hR_4.obj5 hM_15)
            refine lv_iload hC.1 hC.2.1 dX5_set_69 (lv_at hl 0 rfl) ?_
            exact x_iret hC hw dX5_set_71 (by omega) (by omega) ⟨z_1, rfl, by omega, hpz_1, (xI5.tr ((hR.val5 (show (p0).toNat < 3 by omega) hM_3)) ((hR_4.obj5 hM_15))), _, _, hR_16⟩
        · refine x_const hC dX5_set_56 ?_
          refine lv_goto (tgt := 61) hC.1 hC.2.1 dX5_set_57 (by decide) ?_
          refine x_icmp_eq (tgt := 69) hC ⟨by omega, by omega⟩ ⟨by omega, by omega⟩ dX5_set_61 (by decide) (fun c_18 => ?_) (fun c_18 => ?_)
          · refine lv_iload hC.1 hC.2.1 dX5_set_69 (lv_at hl 0 rfl) ?_
            exact x_iret hC hw dX5_set_71 (by omega) (by omega) ⟨z_1, rfl, by omega, hpz_1, ((hR.val5 (show (p0).toNat < 3 by omega) hM_3)), _, _, hR_4⟩
          · refine lv_aload_n hC.1 hC.2.1 dX5_set_64 rfl (lv_at hl 1 rfl) ?_
            refine x_const hC dX5_set_65 ?_
            refine x_put (fs2 := [.int th, .int rfd, .ref va, .ref oa, .ref wa, .ref ya, .ref w_6, .int (iN (1)), .int re, .int la, .int ha, .int kp, .int kv]) hC hw hR_4.1.1 rfl hinX5 tyX5 tyX5_ok nmX5 7 (by decide) (by decide +kernel) rfl rfl rfl (Nat.le_of_ble_eq_true rfl) rfl dX5_set_66 (fun H locs hw => ?_)
            obtain ⟨M_19, hM_20⟩ : ∃ z, z = va_up M_2 a (some (.inr (7, [.int th, .int rfd, .ref va, .ref oa, .ref wa, .ref ya, .ref w_6, .int (iN (1)), .int re, .int la, .int ha, .int kp, .int kv]))) := ⟨_, rfl⟩
            rw [← hM_20] at hw
            have hR_21 : MGx G M_19 a va oa wa ya (some w_6) th rfd (iN (1)) re la ha kp kv qv qw fa fb fvv_5 fw fo fy S := hR_4.obj hM_20 hR_4.sc.1 hR_4.sc.2.1 hR_4.sc.2.2 (fun y9 h9 => hR_4.wk' h9)
            have h_22 := hIi_7.x5 (hR_4.obj5 hM_20)
            refine lv_iload hC.1 hC.2.1 dX5_set_69 (lv_at hl 0 rfl) ?_
            exact x_iret hC hw dX5_set_71 (by omega) (by omega) ⟨z_1, rfl, by omega, hpz_1, (xI5.tr ((hR.val5 (show (p0).toNat < 3 by omega) hM_3)) ((hR_4.obj5 hM_20))), _, _, hR_21⟩
      · refine x_const hC dX5_set_44 ?_
        refine lv_goto (tgt := 49) hC.1 hC.2.1 dX5_set_45 (by decide) ?_
        refine lv_iload_n hC.1 hC.2.1 dX5_set_49 rfl (lv_at hl 4 rfl) ?_
        refine x_sipush hC dX5_set_50 (by decide +kernel) ?_
        refine x_icmp_ne (tgt := 60) hC ⟨by omega, by omega⟩ ⟨by omega, by omega⟩ dX5_set_53 (by decide) (fun c_23 => ?_) (fun c_23 => ?_)
        · refine x_const hC dX5_set_60 ?_
          refine x_icmp_eq (tgt := 69) hC ⟨by omega, by omega⟩ ⟨by omega, by omega⟩ dX5_set_61 (by decide) (fun c_24 => ?_) (fun c_24 => ?_)
          · refine lv_iload hC.1 hC.2.1 dX5_set_69 (lv_at hl 0 rfl) ?_
            exact x_iret hC hw dX5_set_71 (by omega) (by omega) ⟨z_1, rfl, by omega, hpz_1, ((hR.val5 (show (p0).toNat < 3 by omega) hM_3)), _, _, hR_4⟩
          · refine lv_aload_n hC.1 hC.2.1 dX5_set_64 rfl (lv_at hl 1 rfl) ?_
            refine x_const hC dX5_set_65 ?_
            refine x_put (fs2 := [.int th, .int rfd, .ref va, .ref oa, .ref wa, .ref ya, .ref w_6, .int (iN (1)), .int re, .int la, .int ha, .int kp, .int kv]) hC hw hR_4.1.1 rfl hinX5 tyX5 tyX5_ok nmX5 7 (by decide) (by decide +kernel) rfl rfl rfl (Nat.le_of_ble_eq_true rfl) rfl dX5_set_66 (fun H locs hw => ?_)
            obtain ⟨M_25, hM_26⟩ : ∃ z, z = va_up M_2 a (some (.inr (7, [.int th, .int rfd, .ref va, .ref oa, .ref wa, .ref ya, .ref w_6, .int (iN (1)), .int re, .int la, .int ha, .int kp, .int kv]))) := ⟨_, rfl⟩
            rw [← hM_26] at hw
            have hR_27 : MGx G M_25 a va oa wa ya (some w_6) th rfd (iN (1)) re la ha kp kv qv qw fa fb fvv_5 fw fo fy S := hR_4.obj hM_26 hR_4.sc.1 hR_4.sc.2.1 hR_4.sc.2.2 (fun y9 h9 => hR_4.wk' h9)
            have h_28 := hIi_7.x5 (hR_4.obj5 hM_26)
            refine lv_iload hC.1 hC.2.1 dX5_set_69 (lv_at hl 0 rfl) ?_
            exact x_iret hC hw dX5_set_71 (by omega) (by omega) ⟨z_1, rfl, by omega, hpz_1, (xI5.tr ((hR.val5 (show (p0).toNat < 3 by omega) hM_3)) ((hR_4.obj5 hM_26))), _, _, hR_27⟩
        · refine x_const hC dX5_set_56 ?_
          refine lv_goto (tgt := 61) hC.1 hC.2.1 dX5_set_57 (by decide) ?_
          refine x_icmp_eq (tgt := 69) hC ⟨by omega, by omega⟩ ⟨by omega, by omega⟩ dX5_set_61 (by decide) (fun c_29 => ?_) (fun c_29 => ?_)
          · refine lv_iload hC.1 hC.2.1 dX5_set_69 (lv_at hl 0 rfl) ?_
            exact x_iret hC hw dX5_set_71 (by omega) (by omega) ⟨z_1, rfl, by omega, hpz_1, ((hR.val5 (show (p0).toNat < 3 by omega) hM_3)), _, _, hR_4⟩
          · refine lv_aload_n hC.1 hC.2.1 dX5_set_64 rfl (lv_at hl 1 rfl) ?_
            refine x_const hC dX5_set_65 ?_
            refine x_put (fs2 := [.int th, .int rfd, .ref va, .ref oa, .ref wa, .ref ya, .ref w_6, .int (iN (1)), .int re, .int la, .int ha, .int kp, .int kv]) hC hw hR_4.1.1 rfl hinX5 tyX5 tyX5_ok nmX5 7 (by decide) (by decide +kernel) rfl rfl rfl (Nat.le_of_ble_eq_true rfl) rfl dX5_set_66 (fun H locs hw => ?_)
            obtain ⟨M_30, hM_31⟩ : ∃ z, z = va_up M_2 a (some (.inr (7, [.int th, .int rfd, .ref va, .ref oa, .ref wa, .ref ya, .ref w_6, .int (iN (1)), .int re, .int la, .int ha, .int kp, .int kv]))) := ⟨_, rfl⟩
            rw [← hM_31] at hw
            have hR_32 : MGx G M_30 a va oa wa ya (some w_6) th rfd (iN (1)) re la ha kp kv qv qw fa fb fvv_5 fw fo fy S := hR_4.obj hM_31 hR_4.sc.1 hR_4.sc.2.1 hR_4.sc.2.2 (fun y9 h9 => hR_4.wk' h9)
            have h_33 := hIi_7.x5 (hR_4.obj5 hM_31)
            refine lv_iload hC.1 hC.2.1 dX5_set_69 (lv_at hl 0 rfl) ?_
            exact x_iret hC hw dX5_set_71 (by omega) (by omega) ⟨z_1, rfl, by omega, hpz_1, (xI5.tr ((hR.val5 (show (p0).toNat < 3 by omega) hM_3)) ((hR_4.obj5 hM_31))), _, _, hR_32⟩
set_option maxHeartbeats 4000000 in
set_option maxRecDepth 100000 in
theorem c_X5_strikeAll (l : Launch) (G : xG) {M : HM} {a va oa wa ya : Nat} {wk : Option Nat} {th rfd br re la ha kp kv : Int32} {qv qw : Nat → Nat} {fa fb : Nat → Option Nat} {fvv fw : Nat → Nat → Int32} {fo : Nat → Int32} {fy : Nat → Option Nat} {S : Nat → Bool} (hR : MGx G M a va oa wa ya wk th rfd br re la ha kp kv qv qw fa fb fvv fw fo fy S) {i : Nat} {fi : Nat → Int32} (hIi : Its G M i fi) : xMet l G yX5_strikeAll wsX5_strikeAll 3 67 0 0 [.ref a, .ref i] M (fun r M1 => ∃ (z : Int), r = some (.int (iN z)) ∧ (0 ≤ z ∧ z ≤ 100) ∧ ∃ (br1 : Int32) (fvv1 : Nat → Nat → Int32), MGx G M1 a va oa wa ya wk th rfd br1 re la ha kp kv qv qw fa fb fvv1 fw fo fy S) := by
  refine x_intro (cc := cX5_strikeAll) (maxL := 4) (ret := (some .int)) (by decide +kernel) rfl (Nat.le_of_ble_eq_true rfl) ?_
  intro p e R s m args below meth c ls hRf hRc hRs hRl hC hw hl
  obtain ⟨hvt_1, hat_1, hbt_1, hct_1, hdt_1, het_1⟩ := id hIi
  have hl : lv_has ls 4 [(0, .ref a), (1, .ref i)] := hl
  refine x_const hC dX5_strikeAll_0 ?_
  refine lv_istore_n (lv' := [(2, .int (iN (0))), (0, .ref a), (1, .ref i)]) hC.1 hC.2.1 dX5_strikeAll_1 rfl hl (by decide) rfl (fun ls hl => ?_)
  refine x_const hC dX5_strikeAll_2 ?_
  refine lv_istore_n (lv' := [(3, .int (iN (0))), (2, .int (iN (0))), (0, .ref a), (1, .ref i)]) hC.1 hC.2.1 dX5_strikeAll_3 rfl hl (by decide) rfl (fun ls hl => ?_)
  suffices hloop4 : ∀ (n9 : Nat) (n : Int) (j : Int) (M1 : HM) (br1 : Int32) (fvv1 : Nat → Nat → Int32) (hR1 : MGx G M1 a va oa wa ya wk th rfd br1 re la ha kp kv qv qw fa fb fvv1 fw fo fy S) (hx1 : xI5 G M M1) (H : Heap) (locs : List Loc) (ls : Array Slot), (hmu : (100 - j).toNat < n9) → (hi0 : 0 ≤ j ∧ j ≤ 100) → (hi1 : 0 ≤ n ∧ n ≤ j) → xD G (xA M s.heap.size) s M1 H locs → lv_has ls 4 [(0, .ref a), (1, .ref i), (2, .int (iN (n))), (3, .int (iN (j)))] → W p l e R s m args below meth c H locs _ _ _ (F0 m 4 ls []) by
    exact hloop4 _ 0 0 _ _ _ hR xI5.rf _ _ _ (Nat.lt_succ_self _) (by omega) (by omega) hw (lv_sub hl [2, 3, 1, 0] rfl)
  intro n9
  induction n9 with
  | zero => intro n j M1 br1 fvv1 hR1 hx1 H locs ls hmu; exact absurd hmu (Nat.not_lt_zero _)
  | succ n9 ih4 =>
    intro n j M1 br1 fvv1 hR1 hx1 H locs ls hmu hi0 hi1 hw hl
    have h_2 := hIi.x5 hx1
    refine lv_iload_n hC.1 hC.2.1 dX5_strikeAll_4 rfl (lv_at hl 3 rfl) ?_
    refine x_bipush hC dX5_strikeAll_5 (by decide +kernel) ?_
    refine x_icmp_ge (tgt := 43) hC ⟨by omega, by omega⟩ ⟨by omega, by omega⟩ dX5_strikeAll_7 (by decide) (fun c_3 => ?_) (fun c_3 => ?_)
    · refine lv_iload_n hC.1 hC.2.1 dX5_strikeAll_43 rfl (lv_at hl 2 rfl) ?_
      exact x_iret hC hw dX5_strikeAll_44 (by omega) (by omega) ⟨n, rfl, by omega, _, _, hR1⟩
    · refine lv_aload_n hC.1 hC.2.1 dX5_strikeAll_10 rfl (lv_at hl 0 rfl) ?_
      refine lv_aload_n hC.1 hC.2.1 dX5_strikeAll_11 rfl (lv_at hl 1 rfl) ?_
      refine lv_iload_n hC.1 hC.2.1 dX5_strikeAll_12 rfl (lv_at hl 3 rfl) ?_
      refine x_callV hC hw (lv_size hl) (c_X5_shows l G hR1 h_2 (p0 := j) (by omega) (by omega)) gX5_strikeAll_X5_shows rfl dv_X5_shows hR1.1.1 rfl rfl (Nat.le_of_ble_eq_true rfl) (by rw [hRf]; decide) (by rw [hRl]; decide) (by omega) (by omega) dX5_strikeAll_13 (fun r9 M_4 H locs hq hw => ?_)
      obtain ⟨z_5, rfl, hM9, hz_5a, hz_5S⟩ := hq
      rw [hM9] at hw
      show W p l e R s m args below meth c H locs _ _ _ (F0 m 16 ls [.int (iN (z_5))])
      refine x_if_ne (tgt := 22) hC ⟨by omega, by omega⟩ dX5_strikeAll_16 (by decide) (fun c_6 => ?_) (fun c_6 => ?_)
      · refine lv_aload_n hC.1 hC.2.1 dX5_strikeAll_22 rfl (lv_at hl 0 rfl) ?_
        refine lv_aload_n hC.1 hC.2.1 dX5_strikeAll_23 rfl (lv_at hl 1 rfl) ?_
        refine x_const hC dX5_strikeAll_24 ?_
        refine x_iald hC hw h_2.1 (by omega) (by omega) (by omega) dX5_strikeAll_25 ?_
        obtain ⟨z_7, hz_7⟩ : ∃ z : Int, z = (fi (0 : Int).toNat).toInt := ⟨_, rfl⟩
        rw [← hz_7]
        have hz_7' : z_7 = (fi 0).toInt := hz_7
        have hrz_7 : -2147483648 ≤ z_7 ∧ z_7 ≤ 2147483647 := by rw [hz_7]; exact iN_rng _
        refine lv_iload_n hC.1 hC.2.1 dX5_strikeAll_26 rfl (lv_at hl 3 rfl) ?_
        refine x_sipush hC dX5_strikeAll_27 (by decide +kernel) ?_
        refine x_callV hC hw (lv_size hl) (c_X5_set l G hR1 (p0 := z_7) (by omega) (p1 := j) (by omega) (p2 := (-10000)) (by omega) (by omega) (by omega) (by omega) (fun q9 => absurd rfl q9)) gX5_strikeAll_X5_set rfl dv_X5_set hR1.1.1 rfl rfl (Nat.le_of_ble_eq_true rfl) (by rw [hRf]; decide) (by rw [hRl]; decide) (by omega) (by omega) dX5_strikeAll_30 (fun r9 M_8 H locs hq hw => ?_)
        obtain ⟨z_9, rfl, hz_9a, hz_9b, hx5k_10, brk_10, fvvk_10, hRk_10⟩ := hq
        have h_11 := h_2.x5 hx5k_10
        show W p l e R s m args below meth c H locs _ _ _ (F0 m 33 ls [.int (iN (z_9))])
        refine lv_pop hC.1 hC.2.1 dX5_strikeAll_33 rfl ?_
        refine x_iinc (lv' := [(2, .int (iN (n + 1))), (0, .ref a), (1, .ref i), (3, .int (iN (j)))]) hC dX5_strikeAll_34 hl (k := 2) rfl (by decide) rfl (fun ls hl => ?_)
        refine x_iinc (lv' := [(3, .int (iN (j + 1))), (2, .int (iN (n + 1))), (0, .ref a), (1, .ref i)]) hC dX5_strikeAll_37 hl (k := 3) rfl (by decide) rfl (fun ls hl => ?_)
        refine lv_goto (tgt := 4) hC.1 hC.2.1 dX5_strikeAll_40 (by decide) ?_
        exact ih4 (n + 1) (j + 1) _ _ _ hRk_10 (xI5.tr hx1 (hx5k_10)) _ _ _ (by omega) (by omega) (by omega) hw (lv_sub hl [2, 3, 1, 0] rfl)
      · refine lv_goto (tgt := 37) hC.1 hC.2.1 dX5_strikeAll_19 (by decide) ?_
        refine x_iinc (lv' := [(3, .int (iN (j + 1))), (0, .ref a), (1, .ref i), (2, .int (iN (n)))]) hC dX5_strikeAll_37 hl (k := 3) rfl (by decide) rfl (fun ls hl => ?_)
        refine lv_goto (tgt := 4) hC.1 hC.2.1 dX5_strikeAll_40 (by decide) ?_
        exact ih4 n (j + 1) _ _ _ hR1 hx1 _ _ _ (by omega) (by omega) (by omega) hw (lv_sub hl [1, 2, 3, 0] rfl)
set_option maxHeartbeats 4000000 in
set_option maxRecDepth 100000 in
theorem c_X5_mergeOf (l : Launch) (G : xG) {M : HM} {a va oa wa ya : Nat} {wk : Option Nat} {th rfd br re la ha kp kv : Int32} {qv qw : Nat → Nat} {fa fb : Nat → Option Nat} {fvv fw : Nat → Nat → Int32} {fo : Nat → Int32} {fy : Nat → Option Nat} {S : Nat → Bool} (hR : MGx G M a va oa wa ya wk th rfd br re la ha kp kv qv qw fa fb fvv fw fo fy S) {p0 : Int} (hp0 : -2147483648 ≤ p0 ∧ p0 ≤ 2147483647) {p1 : Int} (hp1 : -2147483648 ≤ p1 ∧ p1 ≤ 2147483647) {p2 : Int} (hp2 : -2147483648 ≤ p2 ∧ p2 ≤ 2147483647) (hob : 0 ≤ p0 ∧ p0 ≤ 2) (hok : 0 ≤ p1 ∧ p1 ≤ 99) (hov : -9999 ≤ p2 ∧ p2 ≤ 9999) (hsk : S p1.toNat = true) : xMet l G yX5_mergeOf wsX5_mergeOf 1 24 0 0 [.ref a, .int (iN (p0)), .int (iN (p1)), .int (iN (p2))] M (fun r M1 => ∃ (z : Int), r = some (.int (iN z)) ∧ (-10000 ≤ z ∧ z ≤ 9999) ∧ ∃ (br1 : Int32) (fvv1 : Nat → Nat → Int32), MGx G M1 a va oa wa ya wk th rfd br1 re la ha kp kv qv qw fa fb fvv1 fw fo fy S) := by
  refine x_intro (cc := cX5_mergeOf) (maxL := 6) (ret := (some .int)) (by decide +kernel) rfl (Nat.le_of_ble_eq_true rfl) ?_
  intro p e R s m args below meth c ls hRf hRc hRs hRl hC hw hl
  have hinX5 : ∀ w ∈ wsX50, w ∈ wsX5_mergeOf := by decide +kernel
  have hl : lv_has ls 6 [(0, .ref a), (1, .int (iN (p0))), (2, .int (iN (p1))), (3, .int (iN (p2)))] := hl
  refine lv_aload_n hC.1 hC.2.1 dX5_mergeOf_0 rfl (lv_at hl 0 rfl) ?_
  refine x_get hC hw hR.1.1 rfl hinX5 2 (by decide) (by decide +kernel) rfl dX5_mergeOf_1 ?_
  refine lv_iload_n hC.1 hC.2.1 dX5_mergeOf_4 rfl (lv_at hl 1 rfl) ?_
  refine x_ald4 hC hw hR.1.2.1 (by omega) (by omega) (by omega) dX5_mergeOf_5 ?_
  rw [hR.fa' (show (p0).toNat < 3 by omega)]
  show W p l e R s m args below meth c _ _ _ _ _ (F0 m 6 ls [.ref (qv (p0).toNat)])
  refine lv_iload_n hC.1 hC.2.1 dX5_mergeOf_6 rfl (lv_at hl 2 rfl) ?_
  refine x_iald hC hw (hR.rv (show (p0).toNat < 3 by omega)) (by omega) (by omega) (by omega) dX5_mergeOf_7 ?_
  obtain ⟨z_1, hz_1⟩ : ∃ z : Int, z = ((fvv (p0).toNat) (p1).toNat).toInt := ⟨_, rfl⟩
  rw [← hz_1]
  have hrz_1 : -10000 ≤ z_1 ∧ z_1 ≤ 9999 := by rw [hz_1]; exact hR.vr (by omega) (by omega)
  have hpz_1 : z_1 ≠ -10000 → S (p1).toNat = true := by rw [hz_1]; exact hR.vs (by omega) (by omega)
  refine lv_istore (lv' := [(4, .int (iN (z_1))), (0, .ref a), (1, .int (iN (p0))), (2, .int (iN (p1))), (3, .int (iN (p2)))]) hC.1 hC.2.1 dX5_mergeOf_8 hl (by decide) rfl (fun ls hl => ?_)
  refine lv_iload hC.1 hC.2.1 dX5_mergeOf_10 (lv_at hl 0 rfl) ?_
  refine x_sipush hC dX5_mergeOf_12 (by decide +kernel) ?_
  refine x_icmp_ne (tgt := 22) hC ⟨by omega, by omega⟩ ⟨by omega, by omega⟩ dX5_mergeOf_15 (by decide) (fun c_2 => ?_) (fun c_2 => ?_)
  · refine lv_iload hC.1 hC.2.1 dX5_mergeOf_22 (lv_at hl 0 rfl) ?_
    refine lv_iload_n hC.1 hC.2.1 dX5_mergeOf_24 rfl (lv_at hl 4 rfl) ?_
    refine x_iadd hC dX5_mergeOf_25 ?_
    refine x_callS hC hw (lv_size hl) (c_X5_held l G (M := M) (p0 := (z_1 + p2)) (by omega)) gX5_mergeOf_X5_held rfl dv_X5_held_s rfl (Nat.le_of_ble_eq_true rfl) (by rw [hRf]; decide) (by rw [hRl]; decide) (by omega) (by omega) dX5_mergeOf_26 (fun r9 M_3 H locs hq hw => ?_)
    obtain ⟨z_4, rfl, hM9, hz_4a⟩ := hq
    rw [hM9] at hw
    show W p l e R s m args below meth c H locs _ _ _ (F0 m 29 ls [.int (iN (z_4))])
    refine lv_istore (lv' := [(5, .int (iN (z_4))), (4, .int (iN (z_1))), (0, .ref a), (1, .int (iN (p0))), (2, .int (iN (p1))), (3, .int (iN (p2)))]) hC.1 hC.2.1 dX5_mergeOf_29 hl (by decide) rfl (fun ls hl => ?_)
    refine lv_iload hC.1 hC.2.1 dX5_mergeOf_31 (lv_at hl 1 rfl) ?_
    refine x_sipush hC dX5_mergeOf_33 (by decide +kernel) ?_
    refine x_icmp_eq (tgt := 49) hC ⟨by omega, by omega⟩ ⟨by omega, by omega⟩ dX5_mergeOf_36 (by decide) (fun c_5 => ?_) (fun c_5 => ?_)
    · refine lv_aload_n hC.1 hC.2.1 dX5_mergeOf_49 rfl (lv_at hl 2 rfl) ?_
      refine lv_iload_n hC.1 hC.2.1 dX5_mergeOf_50 rfl (lv_at hl 3 rfl) ?_
      refine lv_iload_n hC.1 hC.2.1 dX5_mergeOf_51 rfl (lv_at hl 4 rfl) ?_
      refine lv_iload hC.1 hC.2.1 dX5_mergeOf_52 (lv_at hl 0 rfl) ?_
      refine x_callV hC hw (lv_size hl) (c_X5_set l G hR (p0 := p0) (by omega) (p1 := p1) (by omega) (p2 := z_4) (by omega) (by omega) (by omega) (by omega) (by intro q9; first | exact absurd rfl q9 | assumption | exact hpz_1 q9 | exact hpz_1 (by omega))) gX5_mergeOf_X5_set rfl dv_X5_set hR.1.1 rfl rfl (Nat.le_of_ble_eq_true rfl) (by rw [hRf]; decide) (by rw [hRl]; decide) (by omega) (by omega) dX5_mergeOf_54 (fun r9 M_6 H locs hq hw => ?_)
      obtain ⟨z_7, rfl, hz_7a, hz_7b, hx5k_8, brk_8, fvvk_8, hRk_8⟩ := hq
      show W p l e R s m args below meth c H locs _ _ _ (F0 m 57 ls [.int (iN (z_7))])
      refine lv_pop hC.1 hC.2.1 dX5_mergeOf_57 rfl ?_
      refine lv_iload hC.1 hC.2.1 dX5_mergeOf_58 (lv_at hl 0 rfl) ?_
      exact x_iret hC hw dX5_mergeOf_60 (by omega) (by omega) ⟨z_4, rfl, by omega, _, _, hRk_8⟩
    · refine lv_iload hC.1 hC.2.1 dX5_mergeOf_39 (lv_at hl 0 rfl) ?_
      refine x_if_ne (tgt := 49) hC ⟨by omega, by omega⟩ dX5_mergeOf_41 (by decide) (fun c_9 => ?_) (fun c_9 => ?_)
      · refine lv_aload_n hC.1 hC.2.1 dX5_mergeOf_49 rfl (lv_at hl 2 rfl) ?_
        refine lv_iload_n hC.1 hC.2.1 dX5_mergeOf_50 rfl (lv_at hl 3 rfl) ?_
        refine lv_iload_n hC.1 hC.2.1 dX5_mergeOf_51 rfl (lv_at hl 4 rfl) ?_
        refine lv_iload hC.1 hC.2.1 dX5_mergeOf_52 (lv_at hl 0 rfl) ?_
        refine x_callV hC hw (lv_size hl) (c_X5_set l G hR (p0 := p0) (by omega) (p1 := p1) (by omega) (p2 := z_4) (by omega) (by omega) (by omega) (by omega) (by intro q9; first | exact absurd rfl q9 | assumption | exact hpz_1 q9 | exact hpz_1 (by omega))) gX5_mergeOf_X5_set rfl dv_X5_set hR.1.1 rfl rfl (Nat.le_of_ble_eq_true rfl) (by rw [hRf]; decide) (by rw [hRl]; decide) (by omega) (by omega) dX5_mergeOf_54 (fun r9 M_10 H locs hq hw => ?_)
        obtain ⟨z_11, rfl, hz_11a, hz_11b, hx5k_12, brk_12, fvvk_12, hRk_12⟩ := hq
        show W p l e R s m args below meth c H locs _ _ _ (F0 m 57 ls [.int (iN (z_11))])
        refine lv_pop hC.1 hC.2.1 dX5_mergeOf_57 rfl ?_
        refine lv_iload hC.1 hC.2.1 dX5_mergeOf_58 (lv_at hl 0 rfl) ?_
        exact x_iret hC hw dX5_mergeOf_60 (by omega) (by omega) ⟨z_4, rfl, by omega, _, _, hRk_12⟩
      · refine x_sipush hC dX5_mergeOf_44 (by decide +kernel) ?_
        refine lv_istore (lv' := [(5, .int (iN ((-10000)))), (4, .int (iN (z_1))), (0, .ref a), (1, .int (iN (p0))), (2, .int (iN (p1))), (3, .int (iN (p2)))]) hC.1 hC.2.1 dX5_mergeOf_47 hl (by decide) rfl (fun ls hl => ?_)
        refine lv_aload_n hC.1 hC.2.1 dX5_mergeOf_49 rfl (lv_at hl 2 rfl) ?_
        refine lv_iload_n hC.1 hC.2.1 dX5_mergeOf_50 rfl (lv_at hl 3 rfl) ?_
        refine lv_iload_n hC.1 hC.2.1 dX5_mergeOf_51 rfl (lv_at hl 4 rfl) ?_
        refine lv_iload hC.1 hC.2.1 dX5_mergeOf_52 (lv_at hl 0 rfl) ?_
        refine x_callV hC hw (lv_size hl) (c_X5_set l G hR (p0 := p0) (by omega) (p1 := p1) (by omega) (p2 := (-10000)) (by omega) (by omega) (by omega) (by omega) (fun q9 => absurd rfl q9)) gX5_mergeOf_X5_set rfl dv_X5_set hR.1.1 rfl rfl (Nat.le_of_ble_eq_true rfl) (by rw [hRf]; decide) (by rw [hRl]; decide) (by omega) (by omega) dX5_mergeOf_54 (fun r9 M_13 H locs hq hw => ?_)
        obtain ⟨z_14, rfl, hz_14a, hz_14b, hx5k_15, brk_15, fvvk_15, hRk_15⟩ := hq
        show W p l e R s m args below meth c H locs _ _ _ (F0 m 57 ls [.int (iN (z_14))])
        refine lv_pop hC.1 hC.2.1 dX5_mergeOf_57 rfl ?_
        refine lv_iload hC.1 hC.2.1 dX5_mergeOf_58 (lv_at hl 0 rfl) ?_
        exact x_iret hC hw dX5_mergeOf_60 (by omega) (by omega) ⟨(-10000), rfl, by omega, _, _, hRk_15⟩
  · refine lv_iload_n hC.1 hC.2.1 dX5_mergeOf_18 rfl (lv_at hl 4 rfl) ?_
    refine lv_goto (tgt := 29) hC.1 hC.2.1 dX5_mergeOf_19 (by decide) ?_
    refine lv_istore (lv' := [(5, .int (iN (p2))), (4, .int (iN (z_1))), (0, .ref a), (1, .int (iN (p0))), (2, .int (iN (p1))), (3, .int (iN (p2)))]) hC.1 hC.2.1 dX5_mergeOf_29 hl (by decide) rfl (fun ls hl => ?_)
    refine lv_iload hC.1 hC.2.1 dX5_mergeOf_31 (lv_at hl 1 rfl) ?_
    refine x_sipush hC dX5_mergeOf_33 (by decide +kernel) ?_
    refine x_icmp_eq (tgt := 49) hC ⟨by omega, by omega⟩ ⟨by omega, by omega⟩ dX5_mergeOf_36 (by decide) (fun c_16 => ?_) (fun c_16 => ?_)
    · refine lv_aload_n hC.1 hC.2.1 dX5_mergeOf_49 rfl (lv_at hl 2 rfl) ?_
      refine lv_iload_n hC.1 hC.2.1 dX5_mergeOf_50 rfl (lv_at hl 3 rfl) ?_
      refine lv_iload_n hC.1 hC.2.1 dX5_mergeOf_51 rfl (lv_at hl 4 rfl) ?_
      refine lv_iload hC.1 hC.2.1 dX5_mergeOf_52 (lv_at hl 0 rfl) ?_
      refine x_callV hC hw (lv_size hl) (c_X5_set l G hR (p0 := p0) (by omega) (p1 := p1) (by omega) (p2 := p2) (by omega) (by omega) (by omega) (by omega) (by intro q9; first | exact absurd rfl q9 | assumption | exact hpz_1 q9 | exact hpz_1 (by omega))) gX5_mergeOf_X5_set rfl dv_X5_set hR.1.1 rfl rfl (Nat.le_of_ble_eq_true rfl) (by rw [hRf]; decide) (by rw [hRl]; decide) (by omega) (by omega) dX5_mergeOf_54 (fun r9 M_17 H locs hq hw => ?_)
      obtain ⟨z_18, rfl, hz_18a, hz_18b, hx5k_19, brk_19, fvvk_19, hRk_19⟩ := hq
      show W p l e R s m args below meth c H locs _ _ _ (F0 m 57 ls [.int (iN (z_18))])
      refine lv_pop hC.1 hC.2.1 dX5_mergeOf_57 rfl ?_
      refine lv_iload hC.1 hC.2.1 dX5_mergeOf_58 (lv_at hl 0 rfl) ?_
      exact x_iret hC hw dX5_mergeOf_60 (by omega) (by omega) ⟨p2, rfl, by omega, _, _, hRk_19⟩
    · refine lv_iload hC.1 hC.2.1 dX5_mergeOf_39 (lv_at hl 0 rfl) ?_
      refine x_if_ne (tgt := 49) hC ⟨by omega, by omega⟩ dX5_mergeOf_41 (by decide) (fun c_20 => ?_) (fun c_20 => ?_)
      · refine lv_aload_n hC.1 hC.2.1 dX5_mergeOf_49 rfl (lv_at hl 2 rfl) ?_
        refine lv_iload_n hC.1 hC.2.1 dX5_mergeOf_50 rfl (lv_at hl 3 rfl) ?_
        refine lv_iload_n hC.1 hC.2.1 dX5_mergeOf_51 rfl (lv_at hl 4 rfl) ?_
        refine lv_iload hC.1 hC.2.1 dX5_mergeOf_52 (lv_at hl 0 rfl) ?_
        refine x_callV hC hw (lv_size hl) (c_X5_set l G hR (p0 := p0) (by omega) (p1 := p1) (by omega) (p2 := p2) (by omega) (by omega) (by omega) (by omega) (by intro q9; first | exact absurd rfl q9 | assumption | exact hpz_1 q9 | exact hpz_1 (by omega))) gX5_mergeOf_X5_set rfl dv_X5_set hR.1.1 rfl rfl (Nat.le_of_ble_eq_true rfl) (by rw [hRf]; decide) (by rw [hRl]; decide) (by omega) (by omega) dX5_mergeOf_54 (fun r9 M_21 H locs hq hw => ?_)
        obtain ⟨z_22, rfl, hz_22a, hz_22b, hx5k_23, brk_23, fvvk_23, hRk_23⟩ := hq
        show W p l e R s m args below meth c H locs _ _ _ (F0 m 57 ls [.int (iN (z_22))])
        refine lv_pop hC.1 hC.2.1 dX5_mergeOf_57 rfl ?_
        refine lv_iload hC.1 hC.2.1 dX5_mergeOf_58 (lv_at hl 0 rfl) ?_
        exact x_iret hC hw dX5_mergeOf_60 (by omega) (by omega) ⟨p2, rfl, by omega, _, _, hRk_23⟩
      · refine x_sipush hC dX5_mergeOf_44 (by decide +kernel) ?_
        refine lv_istore (lv' := [(5, .int (iN ((-10000)))), (4, .int (iN (z_1))), (0, .ref a), (1, .int (iN (p0))), (2, .int (iN (p1))), (3, .int (iN (p2)))]) hC.1 hC.2.1 dX5_mergeOf_47 hl (by decide) rfl (fun ls hl => ?_)
        refine lv_aload_n hC.1 hC.2.1 dX5_mergeOf_49 rfl (lv_at hl 2 rfl) ?_
        refine lv_iload_n hC.1 hC.2.1 dX5_mergeOf_50 rfl (lv_at hl 3 rfl) ?_
        refine lv_iload_n hC.1 hC.2.1 dX5_mergeOf_51 rfl (lv_at hl 4 rfl) ?_
        refine lv_iload hC.1 hC.2.1 dX5_mergeOf_52 (lv_at hl 0 rfl) ?_
        refine x_callV hC hw (lv_size hl) (c_X5_set l G hR (p0 := p0) (by omega) (p1 := p1) (by omega) (p2 := (-10000)) (by omega) (by omega) (by omega) (by omega) (fun q9 => absurd rfl q9)) gX5_mergeOf_X5_set rfl dv_X5_set hR.1.1 rfl rfl (Nat.le_of_ble_eq_true rfl) (by rw [hRf]; decide) (by rw [hRl]; decide) (by omega) (by omega) dX5_mergeOf_54 (fun r9 M_24 H locs hq hw => ?_)
        obtain ⟨z_25, rfl, hz_25a, hz_25b, hx5k_26, brk_26, fvvk_26, hRk_26⟩ := hq
        show W p l e R s m args below meth c H locs _ _ _ (F0 m 57 ls [.int (iN (z_25))])
        refine lv_pop hC.1 hC.2.1 dX5_mergeOf_57 rfl ?_
        refine lv_iload hC.1 hC.2.1 dX5_mergeOf_58 (lv_at hl 0 rfl) ?_
        exact x_iret hC hw dX5_mergeOf_60 (by omega) (by omega) ⟨(-10000), rfl, by omega, _, _, hRk_26⟩
set_option maxHeartbeats 4000000 in
set_option maxRecDepth 100000 in
theorem c_X5_put (l : Launch) (G : xG) {M : HM} {a va oa wa ya : Nat} {wk : Option Nat} {th rfd br re la ha kp kv : Int32} {qv qw : Nat → Nat} {fa fb : Nat → Option Nat} {fvv fw : Nat → Nat → Int32} {fo : Nat → Int32} {fy : Nat → Option Nat} {S : Nat → Bool} (hR : MGx G M a va oa wa ya wk th rfd br re la ha kp kv qv qw fa fb fvv fw fo fy S) {p0 : Int} (hp0 : -2147483648 ≤ p0 ∧ p0 ≤ 2147483647) {p1 : Int} (hp1 : -2147483648 ≤ p1 ∧ p1 ≤ 2147483647) {p2 : Int} (hp2 : -2147483648 ≤ p2 ∧ p2 ≤ 2147483647) (hSk : 0 ≤ p1 ∧ p1 ≤ 99 → S p1.toNat = true) : xMet l G yX5_put wsX5_put 3 67 0 0 [.ref a, .int (iN (p0)), .int (iN (p1)), .int (iN (p2))] M (fun r M1 => ∃ z : Int, r = some (.int (iN z)) ∧ (-2147483648 ≤ z ∧ z ≤ 2147483647) ∧ MGm G M1 a rfd S) := by
  refine x_intro (cc := cX5_put) (maxL := 4) (ret := (some .int)) (by decide +kernel) rfl (Nat.le_of_ble_eq_true rfl) ?_
  intro p e R s m args below meth c ls hRf hRc hRs hRl hC hw hl
  have hl : lv_has ls 4 [(0, .ref a), (1, .int (iN (p0))), (2, .int (iN (p1))), (3, .int (iN (p2)))] := hl
  refine lv_aload_n hC.1 hC.2.1 dX5_put_0 rfl (lv_at hl 0 rfl) ?_
  refine lv_iload_n hC.1 hC.2.1 dX5_put_1 rfl (lv_at hl 1 rfl) ?_
  refine lv_iload_n hC.1 hC.2.1 dX5_put_2 rfl (lv_at hl 2 rfl) ?_
  refine lv_iload_n hC.1 hC.2.1 dX5_put_3 rfl (lv_at hl 3 rfl) ?_
  refine x_callV hC hw (lv_size hl) (c_X5_isBad_ l G hR (p0 := p0) (by omega) (p1 := p1) (by omega) (p2 := p2) (by omega)) gX5_put_X5_isBad_ rfl dv_X5_isBad_ hR.1.1 rfl rfl (Nat.le_of_ble_eq_true rfl) (by rw [hRf]; decide) (by rw [hRl]; decide) (by omega) (by omega) dX5_put_4 (fun r9 M_1 H locs hq hw => ?_)
  obtain ⟨z_2, rfl, hz_2a, hz_2b, thk_3, hRk_3⟩ := hq
  show W p l e R s m args below meth c H locs _ _ _ (F0 m 7 ls [.int (iN (z_2))])
  refine x_if_eq (tgt := 12) hC ⟨by omega, by omega⟩ dX5_put_7 (by decide) (fun c_4 => ?_) (fun c_4 => ?_)
  · refine lv_aload_n hC.1 hC.2.1 dX5_put_12 rfl (lv_at hl 0 rfl) ?_
    refine lv_iload_n hC.1 hC.2.1 dX5_put_13 rfl (lv_at hl 1 rfl) ?_
    refine x_callV hC hw (lv_size hl) (c_X5_touch l G hRk_3 (p0 := p0) (by omega)) gX5_put_X5_touch rfl dv_X5_touch hRk_3.1.1 rfl rfl (Nat.le_of_ble_eq_true rfl) (by rw [hRf]; decide) (by rw [hRl]; decide) (by omega) (by omega) dX5_put_14 (fun r9 M_5 H locs hq hw => ?_)
    obtain ⟨rfl, hak_7, hRk_7⟩ := hq
    show W p l e R s m args below meth c H locs _ _ _ (F0 m 17 ls [])
    refine lv_aload_n hC.1 hC.2.1 dX5_put_17 rfl (lv_at hl 0 rfl) ?_
    refine lv_iload_n hC.1 hC.2.1 dX5_put_18 rfl (lv_at hl 1 rfl) ?_
    refine lv_iload_n hC.1 hC.2.1 dX5_put_19 rfl (lv_at hl 2 rfl) ?_
    refine lv_iload_n hC.1 hC.2.1 dX5_put_20 rfl (lv_at hl 3 rfl) ?_
    refine x_callV hC hw (lv_size hl) (c_X5_set l G hRk_7 (p0 := p0) (by omega) (p1 := p1) (by omega) (p2 := p2) (by omega) (by omega) (by omega) (by omega) (by intro q9; first | exact absurd rfl q9 | assumption | exact hSk (by omega))) gX5_put_X5_set rfl dv_X5_set hRk_7.1.1 rfl rfl (Nat.le_of_ble_eq_true rfl) (by rw [hRf]; decide) (by rw [hRl]; decide) (by omega) (by omega) dX5_put_21 (fun r9 M_8 H locs hq hw => ?_)
    obtain ⟨z_9, rfl, hz_9a, hz_9b, hx5k_10, brk_10, fvvk_10, hRk_10⟩ := hq
    show W p l e R s m args below meth c H locs _ _ _ (F0 m 24 ls [.int (iN (z_9))])
    exact x_iret hC hw dX5_put_24 (by omega) (by omega) ⟨z_9, rfl, by omega, ⟨_, _, _, _, _, _, _, _, _, _, _, _, _, _, _, _, _, _, _, _, hRk_10⟩⟩
  · refine x_const hC dX5_put_10 ?_
    exact x_iret hC hw dX5_put_11 (by omega) (by omega) ⟨0, rfl, by omega, ⟨_, _, _, _, _, _, _, _, _, _, _, _, _, _, _, _, _, _, _, _, hRk_3⟩⟩
set_option maxHeartbeats 4000000 in
set_option maxRecDepth 100000 in
theorem c_X5_putAbsent (l : Launch) (G : xG) {M : HM} {a va oa wa ya : Nat} {wk : Option Nat} {th rfd br re la ha kp kv : Int32} {qv qw : Nat → Nat} {fa fb : Nat → Option Nat} {fvv fw : Nat → Nat → Int32} {fo : Nat → Int32} {fy : Nat → Option Nat} {S : Nat → Bool} (hR : MGx G M a va oa wa ya wk th rfd br re la ha kp kv qv qw fa fb fvv fw fo fy S) {p0 : Int} (hp0 : -2147483648 ≤ p0 ∧ p0 ≤ 2147483647) {p1 : Int} (hp1 : -2147483648 ≤ p1 ∧ p1 ≤ 2147483647) {p2 : Int} (hp2 : -2147483648 ≤ p2 ∧ p2 ≤ 2147483647) (hSk : 0 ≤ p1 ∧ p1 ≤ 99 → S p1.toNat = true) : xMet l G yX5_putAbsent wsX5_putAbsent 3 67 0 0 [.ref a, .int (iN (p0)), .int (iN (p1)), .int (iN (p2))] M (fun r M1 => ∃ z : Int, r = some (.int (iN z)) ∧ (-2147483648 ≤ z ∧ z ≤ 2147483647) ∧ MGm G M1 a rfd S) := by
  refine x_intro (cc := cX5_putAbsent) (maxL := 5) (ret := (some .int)) (by decide +kernel) rfl (Nat.le_of_ble_eq_true rfl) ?_
  intro p e R s m args below meth c ls hRf hRc hRs hRl hC hw hl
  have hinX5 : ∀ w ∈ wsX50, w ∈ wsX5_putAbsent := by decide +kernel
  have hl : lv_has ls 5 [(0, .ref a), (1, .int (iN (p0))), (2, .int (iN (p1))), (3, .int (iN (p2)))] := hl
  refine lv_aload_n hC.1 hC.2.1 dX5_putAbsent_0 rfl (lv_at hl 0 rfl) ?_
  refine lv_iload_n hC.1 hC.2.1 dX5_putAbsent_1 rfl (lv_at hl 1 rfl) ?_
  refine lv_iload_n hC.1 hC.2.1 dX5_putAbsent_2 rfl (lv_at hl 2 rfl) ?_
  refine lv_iload_n hC.1 hC.2.1 dX5_putAbsent_3 rfl (lv_at hl 3 rfl) ?_
  refine x_callV hC hw (lv_size hl) (c_X5_isBad_ l G hR (p0 := p0) (by omega) (p1 := p1) (by omega) (p2 := p2) (by omega)) gX5_putAbsent_X5_isBad_ rfl dv_X5_isBad_ hR.1.1 rfl rfl (Nat.le_of_ble_eq_true rfl) (by rw [hRf]; decide) (by rw [hRl]; decide) (by omega) (by omega) dX5_putAbsent_4 (fun r9 M_1 H locs hq hw => ?_)
  obtain ⟨z_2, rfl, hz_2a, hz_2b, thk_3, hRk_3⟩ := hq
  show W p l e R s m args below meth c H locs _ _ _ (F0 m 7 ls [.int (iN (z_2))])
  refine x_if_eq (tgt := 12) hC ⟨by omega, by omega⟩ dX5_putAbsent_7 (by decide) (fun c_4 => ?_) (fun c_4 => ?_)
  · refine lv_aload_n hC.1 hC.2.1 dX5_putAbsent_12 rfl (lv_at hl 0 rfl) ?_
    refine lv_iload_n hC.1 hC.2.1 dX5_putAbsent_13 rfl (lv_at hl 1 rfl) ?_
    refine x_callV hC hw (lv_size hl) (c_X5_touch l G hRk_3 (p0 := p0) (by omega)) gX5_putAbsent_X5_touch rfl dv_X5_touch hRk_3.1.1 rfl rfl (Nat.le_of_ble_eq_true rfl) (by rw [hRf]; decide) (by rw [hRl]; decide) (by omega) (by omega) dX5_putAbsent_14 (fun r9 M_5 H locs hq hw => ?_)
    obtain ⟨rfl, hak_7, hRk_7⟩ := hq
    show W p l e R s m args below meth c H locs _ _ _ (F0 m 17 ls [])
    refine lv_aload_n hC.1 hC.2.1 dX5_putAbsent_17 rfl (lv_at hl 0 rfl) ?_
    refine x_get hC hw hRk_7.1.1 rfl hinX5 2 (by decide) (by decide +kernel) rfl dX5_putAbsent_18 ?_
    refine lv_iload_n hC.1 hC.2.1 dX5_putAbsent_21 rfl (lv_at hl 1 rfl) ?_
    refine x_ald4 hC hw hRk_7.1.2.1 (by omega) (by omega) (by omega) dX5_putAbsent_22 ?_
    rw [hRk_7.fa' (show (p0).toNat < 3 by omega)]
    show W p l e R s m args below meth c _ _ _ _ _ (F0 m 23 ls [.ref (qv (p0).toNat)])
    refine lv_iload_n hC.1 hC.2.1 dX5_putAbsent_23 rfl (lv_at hl 2 rfl) ?_
    refine x_iald hC hw (hRk_7.rv (show (p0).toNat < 3 by omega)) (by omega) (by omega) (by omega) dX5_putAbsent_24 ?_
    obtain ⟨z_8, hz_8⟩ : ∃ z : Int, z = ((fvv (p0).toNat) (p1).toNat).toInt := ⟨_, rfl⟩
    rw [← hz_8]
    have hrz_8 : -10000 ≤ z_8 ∧ z_8 ≤ 9999 := by rw [hz_8]; exact hRk_7.vr (by omega) (by omega)
    have hpz_8 : z_8 ≠ -10000 → S (p1).toNat = true := by rw [hz_8]; exact hRk_7.vs (by omega) (by omega)
    refine lv_istore (lv' := [(4, .int (iN (z_8))), (0, .ref a), (1, .int (iN (p0))), (2, .int (iN (p1))), (3, .int (iN (p2)))]) hC.1 hC.2.1 dX5_putAbsent_25 hl (by decide) rfl (fun ls hl => ?_)
    refine lv_iload hC.1 hC.2.1 dX5_putAbsent_27 (lv_at hl 0 rfl) ?_
    refine x_sipush hC dX5_putAbsent_29 (by decide +kernel) ?_
    refine x_icmp_ne (tgt := 43) hC ⟨by omega, by omega⟩ ⟨by omega, by omega⟩ dX5_putAbsent_32 (by decide) (fun c_9 => ?_) (fun c_9 => ?_)
    · refine lv_iload hC.1 hC.2.1 dX5_putAbsent_43 (lv_at hl 0 rfl) ?_
      exact x_iret hC hw dX5_putAbsent_45 (by omega) (by omega) ⟨z_8, rfl, by omega, ⟨_, _, _, _, _, _, _, _, _, _, _, _, _, _, _, _, _, _, _, _, hRk_7⟩⟩
    · refine lv_aload_n hC.1 hC.2.1 dX5_putAbsent_35 rfl (lv_at hl 1 rfl) ?_
      refine lv_iload_n hC.1 hC.2.1 dX5_putAbsent_36 rfl (lv_at hl 2 rfl) ?_
      refine lv_iload_n hC.1 hC.2.1 dX5_putAbsent_37 rfl (lv_at hl 3 rfl) ?_
      refine lv_iload_n hC.1 hC.2.1 dX5_putAbsent_38 rfl (lv_at hl 4 rfl) ?_
      refine x_callV hC hw (lv_size hl) (c_X5_set l G hRk_7 (p0 := p0) (by omega) (p1 := p1) (by omega) (p2 := p2) (by omega) (by omega) (by omega) (by omega) (by intro q9; first | exact absurd rfl q9 | assumption | exact hpz_8 q9 | exact hpz_8 (by omega) | exact hSk (by omega))) gX5_putAbsent_X5_set rfl dv_X5_set hRk_7.1.1 rfl rfl (Nat.le_of_ble_eq_true rfl) (by rw [hRf]; decide) (by rw [hRl]; decide) (by omega) (by omega) dX5_putAbsent_39 (fun r9 M_10 H locs hq hw => ?_)
      obtain ⟨z_11, rfl, hz_11a, hz_11b, hx5k_12, brk_12, fvvk_12, hRk_12⟩ := hq
      show W p l e R s m args below meth c H locs _ _ _ (F0 m 42 ls [.int (iN (z_11))])
      refine lv_pop hC.1 hC.2.1 dX5_putAbsent_42 rfl ?_
      refine lv_iload hC.1 hC.2.1 dX5_putAbsent_43 (lv_at hl 0 rfl) ?_
      exact x_iret hC hw dX5_putAbsent_45 (by omega) (by omega) ⟨z_8, rfl, by omega, ⟨_, _, _, _, _, _, _, _, _, _, _, _, _, _, _, _, _, _, _, _, hRk_12⟩⟩
  · refine x_const hC dX5_putAbsent_10 ?_
    exact x_iret hC hw dX5_putAbsent_11 (by omega) (by omega) ⟨0, rfl, by omega, ⟨_, _, _, _, _, _, _, _, _, _, _, _, _, _, _, _, _, _, _, _, hRk_3⟩⟩
set_option maxHeartbeats 4000000 in
set_option maxRecDepth 100000 in
theorem c_X5_replace (l : Launch) (G : xG) {M : HM} {a va oa wa ya : Nat} {wk : Option Nat} {th rfd br re la ha kp kv : Int32} {qv qw : Nat → Nat} {fa fb : Nat → Option Nat} {fvv fw : Nat → Nat → Int32} {fo : Nat → Int32} {fy : Nat → Option Nat} {S : Nat → Bool} (hR : MGx G M a va oa wa ya wk th rfd br re la ha kp kv qv qw fa fb fvv fw fo fy S) {p0 : Int} (hp0 : -2147483648 ≤ p0 ∧ p0 ≤ 2147483647) {p1 : Int} (hp1 : -2147483648 ≤ p1 ∧ p1 ≤ 2147483647) {p2 : Int} (hp2 : -2147483648 ≤ p2 ∧ p2 ≤ 2147483647) (hSk : 0 ≤ p1 ∧ p1 ≤ 99 → S p1.toNat = true) : xMet l G yX5_replace wsX5_replace 3 67 0 0 [.ref a, .int (iN (p0)), .int (iN (p1)), .int (iN (p2))] M (fun r M1 => ∃ z : Int, r = some (.int (iN z)) ∧ (-2147483648 ≤ z ∧ z ≤ 2147483647) ∧ MGm G M1 a rfd S) := by
  refine x_intro (cc := cX5_replace) (maxL := 5) (ret := (some .int)) (by decide +kernel) rfl (Nat.le_of_ble_eq_true rfl) ?_
  intro p e R s m args below meth c ls hRf hRc hRs hRl hC hw hl
  have hinX5 : ∀ w ∈ wsX50, w ∈ wsX5_replace := by decide +kernel
  have hl : lv_has ls 5 [(0, .ref a), (1, .int (iN (p0))), (2, .int (iN (p1))), (3, .int (iN (p2)))] := hl
  refine lv_aload_n hC.1 hC.2.1 dX5_replace_0 rfl (lv_at hl 0 rfl) ?_
  refine lv_iload_n hC.1 hC.2.1 dX5_replace_1 rfl (lv_at hl 1 rfl) ?_
  refine lv_iload_n hC.1 hC.2.1 dX5_replace_2 rfl (lv_at hl 2 rfl) ?_
  refine lv_iload_n hC.1 hC.2.1 dX5_replace_3 rfl (lv_at hl 3 rfl) ?_
  refine x_callV hC hw (lv_size hl) (c_X5_isBad_ l G hR (p0 := p0) (by omega) (p1 := p1) (by omega) (p2 := p2) (by omega)) gX5_replace_X5_isBad_ rfl dv_X5_isBad_ hR.1.1 rfl rfl (Nat.le_of_ble_eq_true rfl) (by rw [hRf]; decide) (by rw [hRl]; decide) (by omega) (by omega) dX5_replace_4 (fun r9 M_1 H locs hq hw => ?_)
  obtain ⟨z_2, rfl, hz_2a, hz_2b, thk_3, hRk_3⟩ := hq
  show W p l e R s m args below meth c H locs _ _ _ (F0 m 7 ls [.int (iN (z_2))])
  refine x_if_eq (tgt := 12) hC ⟨by omega, by omega⟩ dX5_replace_7 (by decide) (fun c_4 => ?_) (fun c_4 => ?_)
  · refine lv_aload_n hC.1 hC.2.1 dX5_replace_12 rfl (lv_at hl 0 rfl) ?_
    refine lv_iload_n hC.1 hC.2.1 dX5_replace_13 rfl (lv_at hl 1 rfl) ?_
    refine x_callV hC hw (lv_size hl) (c_X5_touch l G hRk_3 (p0 := p0) (by omega)) gX5_replace_X5_touch rfl dv_X5_touch hRk_3.1.1 rfl rfl (Nat.le_of_ble_eq_true rfl) (by rw [hRf]; decide) (by rw [hRl]; decide) (by omega) (by omega) dX5_replace_14 (fun r9 M_5 H locs hq hw => ?_)
    obtain ⟨rfl, hak_7, hRk_7⟩ := hq
    show W p l e R s m args below meth c H locs _ _ _ (F0 m 17 ls [])
    refine lv_aload_n hC.1 hC.2.1 dX5_replace_17 rfl (lv_at hl 0 rfl) ?_
    refine x_get hC hw hRk_7.1.1 rfl hinX5 2 (by decide) (by decide +kernel) rfl dX5_replace_18 ?_
    refine lv_iload_n hC.1 hC.2.1 dX5_replace_21 rfl (lv_at hl 1 rfl) ?_
    refine x_ald4 hC hw hRk_7.1.2.1 (by omega) (by omega) (by omega) dX5_replace_22 ?_
    rw [hRk_7.fa' (show (p0).toNat < 3 by omega)]
    show W p l e R s m args below meth c _ _ _ _ _ (F0 m 23 ls [.ref (qv (p0).toNat)])
    refine lv_iload_n hC.1 hC.2.1 dX5_replace_23 rfl (lv_at hl 2 rfl) ?_
    refine x_iald hC hw (hRk_7.rv (show (p0).toNat < 3 by omega)) (by omega) (by omega) (by omega) dX5_replace_24 ?_
    obtain ⟨z_8, hz_8⟩ : ∃ z : Int, z = ((fvv (p0).toNat) (p1).toNat).toInt := ⟨_, rfl⟩
    rw [← hz_8]
    have hrz_8 : -10000 ≤ z_8 ∧ z_8 ≤ 9999 := by rw [hz_8]; exact hRk_7.vr (by omega) (by omega)
    have hpz_8 : z_8 ≠ -10000 → S (p1).toNat = true := by rw [hz_8]; exact hRk_7.vs (by omega) (by omega)
    refine lv_istore (lv' := [(4, .int (iN (z_8))), (0, .ref a), (1, .int (iN (p0))), (2, .int (iN (p1))), (3, .int (iN (p2)))]) hC.1 hC.2.1 dX5_replace_25 hl (by decide) rfl (fun ls hl => ?_)
    refine lv_iload hC.1 hC.2.1 dX5_replace_27 (lv_at hl 0 rfl) ?_
    refine x_sipush hC dX5_replace_29 (by decide +kernel) ?_
    refine x_icmp_eq (tgt := 43) hC ⟨by omega, by omega⟩ ⟨by omega, by omega⟩ dX5_replace_32 (by decide) (fun c_9 => ?_) (fun c_9 => ?_)
    · refine lv_iload hC.1 hC.2.1 dX5_replace_43 (lv_at hl 0 rfl) ?_
      exact x_iret hC hw dX5_replace_45 (by omega) (by omega) ⟨z_8, rfl, by omega, ⟨_, _, _, _, _, _, _, _, _, _, _, _, _, _, _, _, _, _, _, _, hRk_7⟩⟩
    · refine lv_aload_n hC.1 hC.2.1 dX5_replace_35 rfl (lv_at hl 1 rfl) ?_
      refine lv_iload_n hC.1 hC.2.1 dX5_replace_36 rfl (lv_at hl 2 rfl) ?_
      refine lv_iload_n hC.1 hC.2.1 dX5_replace_37 rfl (lv_at hl 3 rfl) ?_
      refine lv_iload_n hC.1 hC.2.1 dX5_replace_38 rfl (lv_at hl 4 rfl) ?_
      refine x_callV hC hw (lv_size hl) (c_X5_set l G hRk_7 (p0 := p0) (by omega) (p1 := p1) (by omega) (p2 := p2) (by omega) (by omega) (by omega) (by omega) (by intro q9; first | exact absurd rfl q9 | assumption | exact hpz_8 q9 | exact hpz_8 (by omega) | exact hSk (by omega))) gX5_replace_X5_set rfl dv_X5_set hRk_7.1.1 rfl rfl (Nat.le_of_ble_eq_true rfl) (by rw [hRf]; decide) (by rw [hRl]; decide) (by omega) (by omega) dX5_replace_39 (fun r9 M_10 H locs hq hw => ?_)
      obtain ⟨z_11, rfl, hz_11a, hz_11b, hx5k_12, brk_12, fvvk_12, hRk_12⟩ := hq
      show W p l e R s m args below meth c H locs _ _ _ (F0 m 42 ls [.int (iN (z_11))])
      refine lv_pop hC.1 hC.2.1 dX5_replace_42 rfl ?_
      refine lv_iload hC.1 hC.2.1 dX5_replace_43 (lv_at hl 0 rfl) ?_
      exact x_iret hC hw dX5_replace_45 (by omega) (by omega) ⟨z_8, rfl, by omega, ⟨_, _, _, _, _, _, _, _, _, _, _, _, _, _, _, _, _, _, _, _, hRk_12⟩⟩
  · refine x_const hC dX5_replace_10 ?_
    exact x_iret hC hw dX5_replace_11 (by omega) (by omega) ⟨0, rfl, by omega, ⟨_, _, _, _, _, _, _, _, _, _, _, _, _, _, _, _, _, _, _, _, hRk_3⟩⟩
set_option maxHeartbeats 4000000 in
set_option maxRecDepth 100000 in
theorem c_X5_swap (l : Launch) (G : xG) {M : HM} {a va oa wa ya : Nat} {wk : Option Nat} {th rfd br re la ha kp kv : Int32} {qv qw : Nat → Nat} {fa fb : Nat → Option Nat} {fvv fw : Nat → Nat → Int32} {fo : Nat → Int32} {fy : Nat → Option Nat} {S : Nat → Bool} (hR : MGx G M a va oa wa ya wk th rfd br re la ha kp kv qv qw fa fb fvv fw fo fy S) {p0 : Int} (hp0 : -2147483648 ≤ p0 ∧ p0 ≤ 2147483647) {p1 : Int} (hp1 : -2147483648 ≤ p1 ∧ p1 ≤ 2147483647) {p2 : Int} (hp2 : -2147483648 ≤ p2 ∧ p2 ≤ 2147483647) {p3 : Int} (hp3 : -2147483648 ≤ p3 ∧ p3 ≤ 2147483647) (hSk : 0 ≤ p1 ∧ p1 ≤ 99 → S p1.toNat = true) : xMet l G yX5_swap wsX5_swap 3 67 0 0 [.ref a, .int (iN (p0)), .int (iN (p1)), .int (iN (p2)), .int (iN (p3))] M (fun r M1 => ∃ z : Int, r = some (.int (iN z)) ∧ (z = 0 ∨ z = 1) ∧ MGm G M1 a rfd S) := by
  refine x_intro (cc := cX5_swap) (maxL := 5) (ret := (some .boolean)) (by decide +kernel) rfl (Nat.le_of_ble_eq_true rfl) ?_
  intro p e R s m args below meth c ls hRf hRc hRs hRl hC hw hl
  have hinX5 : ∀ w ∈ wsX50, w ∈ wsX5_swap := by decide +kernel
  have hl : lv_has ls 5 [(0, .ref a), (1, .int (iN (p0))), (2, .int (iN (p1))), (3, .int (iN (p2))), (4, .int (iN (p3)))] := hl
  refine lv_aload_n hC.1 hC.2.1 dX5_swap_0 rfl (lv_at hl 0 rfl) ?_
  refine lv_iload_n hC.1 hC.2.1 dX5_swap_1 rfl (lv_at hl 1 rfl) ?_
  refine lv_iload_n hC.1 hC.2.1 dX5_swap_2 rfl (lv_at hl 2 rfl) ?_
  refine lv_iload hC.1 hC.2.1 dX5_swap_3 (lv_at hl 4 rfl) ?_
  refine x_callV hC hw (lv_size hl) (c_X5_isBad_ l G hR (p0 := p0) (by omega) (p1 := p1) (by omega) (p2 := p3) (by omega)) gX5_swap_X5_isBad_ rfl dv_X5_isBad_ hR.1.1 rfl rfl (Nat.le_of_ble_eq_true rfl) (by rw [hRf]; decide) (by rw [hRl]; decide) (by omega) (by omega) dX5_swap_5 (fun r9 M_1 H locs hq hw => ?_)
  obtain ⟨z_2, rfl, hz_2a, hz_2b, thk_3, hRk_3⟩ := hq
  show W p l e R s m args below meth c H locs _ _ _ (F0 m 8 ls [.int (iN (z_2))])
  refine x_if_ne (tgt := 23) hC ⟨by omega, by omega⟩ dX5_swap_8 (by decide) (fun c_4 => ?_) (fun c_4 => ?_)
  · refine x_const hC dX5_swap_23 ?_
    exact x_zret hC hw (by omega) dX5_swap_24 (by omega) (by omega) ⟨0, rfl, by omega, ⟨_, _, _, _, _, _, _, _, _, _, _, _, _, _, _, _, _, _, _, _, hRk_3⟩⟩
  · refine lv_aload_n hC.1 hC.2.1 dX5_swap_11 rfl (lv_at hl 0 rfl) ?_
    refine lv_iload_n hC.1 hC.2.1 dX5_swap_12 rfl (lv_at hl 3 rfl) ?_
    refine x_callS hC hw (lv_size hl) (c_X5_isNoValue l G (M := M_1) (p0 := p2) (by omega)) gX5_swap_X5_isNoValue rfl dv_X5_isNoValue_s rfl (Nat.le_of_ble_eq_true rfl) (by rw [hRf]; decide) (by rw [hRl]; decide) (by omega) (by omega) dX5_swap_13 (fun r9 M_5 H locs hq hw => ?_)
    obtain ⟨z_6, rfl, hM9, hz_6a, hz_6b⟩ := hq
    rw [hM9] at hw
    show W p l e R s m args below meth c H locs _ _ _ (F0 m 16 ls [.int (iN (z_6)), .ref a])
    refine x_const hC dX5_swap_16 ?_
    refine x_callV hC hw (lv_size hl) (c_X5_refuse l G hRk_3 (p0 := z_6) (by omega) (p1 := 2) (by omega) (by omega)) gX5_swap_X5_refuse rfl dv_X5_refuse hRk_3.1.1 rfl rfl (Nat.le_of_ble_eq_true rfl) (by rw [hRf]; decide) (by rw [hRl]; decide) (by omega) (by omega) dX5_swap_17 (fun r9 M_7 H locs hq hw => ?_)
    obtain ⟨z_8, rfl, hz_8a, hz_8b, thk_9, hRk_9⟩ := hq
    show W p l e R s m args below meth c H locs _ _ _ (F0 m 20 ls [.int (iN (z_8))])
    refine x_if_eq (tgt := 25) hC ⟨by omega, by omega⟩ dX5_swap_20 (by decide) (fun c_10 => ?_) (fun c_10 => ?_)
    · refine lv_aload_n hC.1 hC.2.1 dX5_swap_25 rfl (lv_at hl 0 rfl) ?_
      refine lv_iload_n hC.1 hC.2.1 dX5_swap_26 rfl (lv_at hl 1 rfl) ?_
      refine x_callV hC hw (lv_size hl) (c_X5_touch l G hRk_9 (p0 := p0) (by omega)) gX5_swap_X5_touch rfl dv_X5_touch hRk_9.1.1 rfl rfl (Nat.le_of_ble_eq_true rfl) (by rw [hRf]; decide) (by rw [hRl]; decide) (by omega) (by omega) dX5_swap_27 (fun r9 M_11 H locs hq hw => ?_)
      obtain ⟨rfl, hak_13, hRk_13⟩ := hq
      show W p l e R s m args below meth c H locs _ _ _ (F0 m 30 ls [])
      refine lv_aload_n hC.1 hC.2.1 dX5_swap_30 rfl (lv_at hl 0 rfl) ?_
      refine x_get hC hw hRk_13.1.1 rfl hinX5 2 (by decide) (by decide +kernel) rfl dX5_swap_31 ?_
      refine lv_iload_n hC.1 hC.2.1 dX5_swap_34 rfl (lv_at hl 1 rfl) ?_
      refine x_ald4 hC hw hRk_13.1.2.1 (by omega) (by omega) (by omega) dX5_swap_35 ?_
      rw [hRk_13.fa' (show (p0).toNat < 3 by omega)]
      show W p l e R s m args below meth c _ _ _ _ _ (F0 m 36 ls [.ref (qv (p0).toNat)])
      refine lv_iload_n hC.1 hC.2.1 dX5_swap_36 rfl (lv_at hl 2 rfl) ?_
      refine x_iald hC hw (hRk_13.rv (show (p0).toNat < 3 by omega)) (by omega) (by omega) (by omega) dX5_swap_37 ?_
      obtain ⟨z_14, hz_14⟩ : ∃ z : Int, z = ((fvv (p0).toNat) (p1).toNat).toInt := ⟨_, rfl⟩
      rw [← hz_14]
      have hrz_14 : -10000 ≤ z_14 ∧ z_14 ≤ 9999 := by rw [hz_14]; exact hRk_13.vr (by omega) (by omega)
      have hpz_14 : z_14 ≠ -10000 → S (p1).toNat = true := by rw [hz_14]; exact hRk_13.vs (by omega) (by omega)
      refine lv_iload_n hC.1 hC.2.1 dX5_swap_38 rfl (lv_at hl 3 rfl) ?_
      refine x_icmp_eq (tgt := 44) hC ⟨by omega, by omega⟩ ⟨by omega, by omega⟩ dX5_swap_39 (by decide) (fun c_15 => ?_) (fun c_15 => ?_)
      · refine lv_aload_n hC.1 hC.2.1 dX5_swap_44 rfl (lv_at hl 0 rfl) ?_
        refine lv_iload_n hC.1 hC.2.1 dX5_swap_45 rfl (lv_at hl 1 rfl) ?_
        refine lv_iload_n hC.1 hC.2.1 dX5_swap_46 rfl (lv_at hl 2 rfl) ?_
        refine lv_iload hC.1 hC.2.1 dX5_swap_47 (lv_at hl 4 rfl) ?_
        refine x_callV hC hw (lv_size hl) (c_X5_set l G hRk_13 (p0 := p0) (by omega) (p1 := p1) (by omega) (p2 := p3) (by omega) (by omega) (by omega) (by omega) (by intro q9; first | exact absurd rfl q9 | assumption | exact hpz_14 q9 | exact hpz_14 (by omega) | exact hSk (by omega))) gX5_swap_X5_set rfl dv_X5_set hRk_13.1.1 rfl rfl (Nat.le_of_ble_eq_true rfl) (by rw [hRf]; decide) (by rw [hRl]; decide) (by omega) (by omega) dX5_swap_49 (fun r9 M_16 H locs hq hw => ?_)
        obtain ⟨z_17, rfl, hz_17a, hz_17b, hx5k_18, brk_18, fvvk_18, hRk_18⟩ := hq
        show W p l e R s m args below meth c H locs _ _ _ (F0 m 52 ls [.int (iN (z_17))])
        refine lv_pop hC.1 hC.2.1 dX5_swap_52 rfl ?_
        refine x_const hC dX5_swap_53 ?_
        exact x_zret hC hw (by omega) dX5_swap_54 (by omega) (by omega) ⟨1, rfl, by omega, ⟨_, _, _, _, _, _, _, _, _, _, _, _, _, _, _, _, _, _, _, _, hRk_18⟩⟩
      · refine x_const hC dX5_swap_42 ?_
        exact x_zret hC hw (by omega) dX5_swap_43 (by omega) (by omega) ⟨0, rfl, by omega, ⟨_, _, _, _, _, _, _, _, _, _, _, _, _, _, _, _, _, _, _, _, hRk_13⟩⟩
    · refine x_const hC dX5_swap_23 ?_
      exact x_zret hC hw (by omega) dX5_swap_24 (by omega) (by omega) ⟨0, rfl, by omega, ⟨_, _, _, _, _, _, _, _, _, _, _, _, _, _, _, _, _, _, _, _, hRk_9⟩⟩
set_option maxHeartbeats 4000000 in
set_option maxRecDepth 100000 in
theorem c_X5_strike (l : Launch) (G : xG) {M : HM} {a va oa wa ya : Nat} {wk : Option Nat} {th rfd br re la ha kp kv : Int32} {qv qw : Nat → Nat} {fa fb : Nat → Option Nat} {fvv fw : Nat → Nat → Int32} {fo : Nat → Int32} {fy : Nat → Option Nat} {S : Nat → Bool} (hR : MGx G M a va oa wa ya wk th rfd br re la ha kp kv qv qw fa fb fvv fw fo fy S) {p0 : Int} (hp0 : -2147483648 ≤ p0 ∧ p0 ≤ 2147483647) {p1 : Int} (hp1 : -2147483648 ≤ p1 ∧ p1 ≤ 2147483647) : xMet l G yX5_strike wsX5_strike 3 66 0 0 [.ref a, .int (iN (p0)), .int (iN (p1))] M (fun r M1 => ∃ z : Int, r = some (.int (iN z)) ∧ (-2147483648 ≤ z ∧ z ≤ 2147483647) ∧ MGm G M1 a rfd S) := by
  refine x_intro (cc := cX5_strike) (maxL := 3) (ret := (some .int)) (by decide +kernel) rfl (Nat.le_of_ble_eq_true rfl) ?_
  intro p e R s m args below meth c ls hRf hRc hRs hRl hC hw hl
  have hl : lv_has ls 3 [(0, .ref a), (1, .int (iN (p0))), (2, .int (iN (p1)))] := hl
  refine lv_aload_n hC.1 hC.2.1 dX5_strike_0 rfl (lv_at hl 0 rfl) ?_
  refine lv_iload_n hC.1 hC.2.1 dX5_strike_1 rfl (lv_at hl 1 rfl) ?_
  refine lv_iload_n hC.1 hC.2.1 dX5_strike_2 rfl (lv_at hl 2 rfl) ?_
  refine x_callV hC hw (lv_size hl) (c_X5_isBad l G hR (p0 := p0) (by omega) (p1 := p1) (by omega)) gX5_strike_X5_isBad rfl dv_X5_isBad hR.1.1 rfl rfl (Nat.le_of_ble_eq_true rfl) (by rw [hRf]; decide) (by rw [hRl]; decide) (by omega) (by omega) dX5_strike_3 (fun r9 M_1 H locs hq hw => ?_)
  obtain ⟨z_2, rfl, hz_2a, hz_2b, thk_3, hRk_3⟩ := hq
  show W p l e R s m args below meth c H locs _ _ _ (F0 m 6 ls [.int (iN (z_2))])
  refine x_if_eq (tgt := 11) hC ⟨by omega, by omega⟩ dX5_strike_6 (by decide) (fun c_4 => ?_) (fun c_4 => ?_)
  · refine lv_aload_n hC.1 hC.2.1 dX5_strike_11 rfl (lv_at hl 0 rfl) ?_
    refine lv_iload_n hC.1 hC.2.1 dX5_strike_12 rfl (lv_at hl 1 rfl) ?_
    refine x_callV hC hw (lv_size hl) (c_X5_touch l G hRk_3 (p0 := p0) (by omega)) gX5_strike_X5_touch rfl dv_X5_touch hRk_3.1.1 rfl rfl (Nat.le_of_ble_eq_true rfl) (by rw [hRf]; decide) (by rw [hRl]; decide) (by omega) (by omega) dX5_strike_13 (fun r9 M_5 H locs hq hw => ?_)
    obtain ⟨rfl, hak_7, hRk_7⟩ := hq
    show W p l e R s m args below meth c H locs _ _ _ (F0 m 16 ls [])
    refine lv_aload_n hC.1 hC.2.1 dX5_strike_16 rfl (lv_at hl 0 rfl) ?_
    refine lv_iload_n hC.1 hC.2.1 dX5_strike_17 rfl (lv_at hl 1 rfl) ?_
    refine lv_iload_n hC.1 hC.2.1 dX5_strike_18 rfl (lv_at hl 2 rfl) ?_
    refine x_sipush hC dX5_strike_19 (by decide +kernel) ?_
    refine x_callV hC hw (lv_size hl) (c_X5_set l G hRk_7 (p0 := p0) (by omega) (p1 := p1) (by omega) (p2 := (-10000)) (by omega) (by omega) (by omega) (by omega) (fun q9 => absurd rfl q9)) gX5_strike_X5_set rfl dv_X5_set hRk_7.1.1 rfl rfl (Nat.le_of_ble_eq_true rfl) (by rw [hRf]; decide) (by rw [hRl]; decide) (by omega) (by omega) dX5_strike_22 (fun r9 M_8 H locs hq hw => ?_)
    obtain ⟨z_9, rfl, hz_9a, hz_9b, hx5k_10, brk_10, fvvk_10, hRk_10⟩ := hq
    show W p l e R s m args below meth c H locs _ _ _ (F0 m 25 ls [.int (iN (z_9))])
    exact x_iret hC hw dX5_strike_25 (by omega) (by omega) ⟨z_9, rfl, by omega, ⟨_, _, _, _, _, _, _, _, _, _, _, _, _, _, _, _, _, _, _, _, hRk_10⟩⟩
  · refine x_const hC dX5_strike_9 ?_
    exact x_iret hC hw dX5_strike_10 (by omega) (by omega) ⟨0, rfl, by omega, ⟨_, _, _, _, _, _, _, _, _, _, _, _, _, _, _, _, _, _, _, _, hRk_3⟩⟩
set_option maxHeartbeats 4000000 in
set_option maxRecDepth 100000 in
theorem c_X5_strikePair (l : Launch) (G : xG) {M : HM} {a va oa wa ya : Nat} {wk : Option Nat} {th rfd br re la ha kp kv : Int32} {qv qw : Nat → Nat} {fa fb : Nat → Option Nat} {fvv fw : Nat → Nat → Int32} {fo : Nat → Int32} {fy : Nat → Option Nat} {S : Nat → Bool} (hR : MGx G M a va oa wa ya wk th rfd br re la ha kp kv qv qw fa fb fvv fw fo fy S) {p0 : Int} (hp0 : -2147483648 ≤ p0 ∧ p0 ≤ 2147483647) {p1 : Int} (hp1 : -2147483648 ≤ p1 ∧ p1 ≤ 2147483647) {p2 : Int} (hp2 : -2147483648 ≤ p2 ∧ p2 ≤ 2147483647) : xMet l G yX5_strikePair wsX5_strikePair 3 67 0 0 [.ref a, .int (iN (p0)), .int (iN (p1)), .int (iN (p2))] M (fun r M1 => ∃ z : Int, r = some (.int (iN z)) ∧ (z = 0 ∨ z = 1) ∧ MGm G M1 a rfd S) := by
  refine x_intro (cc := cX5_strikePair) (maxL := 4) (ret := (some .boolean)) (by decide +kernel) rfl (Nat.le_of_ble_eq_true rfl) ?_
  intro p e R s m args below meth c ls hRf hRc hRs hRl hC hw hl
  have hinX5 : ∀ w ∈ wsX50, w ∈ wsX5_strikePair := by decide +kernel
  have hl : lv_has ls 4 [(0, .ref a), (1, .int (iN (p0))), (2, .int (iN (p1))), (3, .int (iN (p2)))] := hl
  refine lv_aload_n hC.1 hC.2.1 dX5_strikePair_0 rfl (lv_at hl 0 rfl) ?_
  refine lv_iload_n hC.1 hC.2.1 dX5_strikePair_1 rfl (lv_at hl 1 rfl) ?_
  refine lv_iload_n hC.1 hC.2.1 dX5_strikePair_2 rfl (lv_at hl 2 rfl) ?_
  refine lv_iload_n hC.1 hC.2.1 dX5_strikePair_3 rfl (lv_at hl 3 rfl) ?_
  refine x_callV hC hw (lv_size hl) (c_X5_isBad_ l G hR (p0 := p0) (by omega) (p1 := p1) (by omega) (p2 := p2) (by omega)) gX5_strikePair_X5_isBad_ rfl dv_X5_isBad_ hR.1.1 rfl rfl (Nat.le_of_ble_eq_true rfl) (by rw [hRf]; decide) (by rw [hRl]; decide) (by omega) (by omega) dX5_strikePair_4 (fun r9 M_1 H locs hq hw => ?_)
  obtain ⟨z_2, rfl, hz_2a, hz_2b, thk_3, hRk_3⟩ := hq
  show W p l e R s m args below meth c H locs _ _ _ (F0 m 7 ls [.int (iN (z_2))])
  refine x_if_eq (tgt := 12) hC ⟨by omega, by omega⟩ dX5_strikePair_7 (by decide) (fun c_4 => ?_) (fun c_4 => ?_)
  · refine lv_aload_n hC.1 hC.2.1 dX5_strikePair_12 rfl (lv_at hl 0 rfl) ?_
    refine lv_iload_n hC.1 hC.2.1 dX5_strikePair_13 rfl (lv_at hl 1 rfl) ?_
    refine x_callV hC hw (lv_size hl) (c_X5_touch l G hRk_3 (p0 := p0) (by omega)) gX5_strikePair_X5_touch rfl dv_X5_touch hRk_3.1.1 rfl rfl (Nat.le_of_ble_eq_true rfl) (by rw [hRf]; decide) (by rw [hRl]; decide) (by omega) (by omega) dX5_strikePair_14 (fun r9 M_5 H locs hq hw => ?_)
    obtain ⟨rfl, hak_7, hRk_7⟩ := hq
    show W p l e R s m args below meth c H locs _ _ _ (F0 m 17 ls [])
    refine lv_aload_n hC.1 hC.2.1 dX5_strikePair_17 rfl (lv_at hl 0 rfl) ?_
    refine x_get hC hw hRk_7.1.1 rfl hinX5 2 (by decide) (by decide +kernel) rfl dX5_strikePair_18 ?_
    refine lv_iload_n hC.1 hC.2.1 dX5_strikePair_21 rfl (lv_at hl 1 rfl) ?_
    refine x_ald4 hC hw hRk_7.1.2.1 (by omega) (by omega) (by omega) dX5_strikePair_22 ?_
    rw [hRk_7.fa' (show (p0).toNat < 3 by omega)]
    show W p l e R s m args below meth c _ _ _ _ _ (F0 m 23 ls [.ref (qv (p0).toNat)])
    refine lv_iload_n hC.1 hC.2.1 dX5_strikePair_23 rfl (lv_at hl 2 rfl) ?_
    refine x_iald hC hw (hRk_7.rv (show (p0).toNat < 3 by omega)) (by omega) (by omega) (by omega) dX5_strikePair_24 ?_
    obtain ⟨z_8, hz_8⟩ : ∃ z : Int, z = ((fvv (p0).toNat) (p1).toNat).toInt := ⟨_, rfl⟩
    rw [← hz_8]
    have hrz_8 : -10000 ≤ z_8 ∧ z_8 ≤ 9999 := by rw [hz_8]; exact hRk_7.vr (by omega) (by omega)
    have hpz_8 : z_8 ≠ -10000 → S (p1).toNat = true := by rw [hz_8]; exact hRk_7.vs (by omega) (by omega)
    refine lv_iload_n hC.1 hC.2.1 dX5_strikePair_25 rfl (lv_at hl 3 rfl) ?_
    refine x_icmp_eq (tgt := 31) hC ⟨by omega, by omega⟩ ⟨by omega, by omega⟩ dX5_strikePair_26 (by decide) (fun c_9 => ?_) (fun c_9 => ?_)
    · refine lv_aload_n hC.1 hC.2.1 dX5_strikePair_31 rfl (lv_at hl 0 rfl) ?_
      refine lv_iload_n hC.1 hC.2.1 dX5_strikePair_32 rfl (lv_at hl 1 rfl) ?_
      refine lv_iload_n hC.1 hC.2.1 dX5_strikePair_33 rfl (lv_at hl 2 rfl) ?_
      refine x_sipush hC dX5_strikePair_34 (by decide +kernel) ?_
      refine x_callV hC hw (lv_size hl) (c_X5_set l G hRk_7 (p0 := p0) (by omega) (p1 := p1) (by omega) (p2 := (-10000)) (by omega) (by omega) (by omega) (by omega) (fun q9 => absurd rfl q9)) gX5_strikePair_X5_set rfl dv_X5_set hRk_7.1.1 rfl rfl (Nat.le_of_ble_eq_true rfl) (by rw [hRf]; decide) (by rw [hRl]; decide) (by omega) (by omega) dX5_strikePair_37 (fun r9 M_10 H locs hq hw => ?_)
      obtain ⟨z_11, rfl, hz_11a, hz_11b, hx5k_12, brk_12, fvvk_12, hRk_12⟩ := hq
      show W p l e R s m args below meth c H locs _ _ _ (F0 m 40 ls [.int (iN (z_11))])
      refine lv_pop hC.1 hC.2.1 dX5_strikePair_40 rfl ?_
      refine x_const hC dX5_strikePair_41 ?_
      exact x_zret hC hw (by omega) dX5_strikePair_42 (by omega) (by omega) ⟨1, rfl, by omega, ⟨_, _, _, _, _, _, _, _, _, _, _, _, _, _, _, _, _, _, _, _, hRk_12⟩⟩
    · refine x_const hC dX5_strikePair_29 ?_
      exact x_zret hC hw (by omega) dX5_strikePair_30 (by omega) (by omega) ⟨0, rfl, by omega, ⟨_, _, _, _, _, _, _, _, _, _, _, _, _, _, _, _, _, _, _, _, hRk_7⟩⟩
  · refine x_const hC dX5_strikePair_10 ?_
    exact x_zret hC hw (by omega) dX5_strikePair_11 (by omega) (by omega) ⟨0, rfl, by omega, ⟨_, _, _, _, _, _, _, _, _, _, _, _, _, _, _, _, _, _, _, _, hRk_3⟩⟩
set_option maxHeartbeats 4000000 in
set_option maxRecDepth 100000 in
theorem c_X5_merge (l : Launch) (G : xG) {M : HM} {a va oa wa ya : Nat} {wk : Option Nat} {th rfd br re la ha kp kv : Int32} {qv qw : Nat → Nat} {fa fb : Nat → Option Nat} {fvv fw : Nat → Nat → Int32} {fo : Nat → Int32} {fy : Nat → Option Nat} {S : Nat → Bool} (hR : MGx G M a va oa wa ya wk th rfd br re la ha kp kv qv qw fa fb fvv fw fo fy S) {p0 : Int} (hp0 : -2147483648 ≤ p0 ∧ p0 ≤ 2147483647) {p1 : Int} (hp1 : -2147483648 ≤ p1 ∧ p1 ≤ 2147483647) {p2 : Int} (hp2 : -2147483648 ≤ p2 ∧ p2 ≤ 2147483647) (hSk : 0 ≤ p1 ∧ p1 ≤ 99 → S p1.toNat = true) : xMet l G yX5_merge wsX5_merge 3 67 0 0 [.ref a, .int (iN (p0)), .int (iN (p1)), .int (iN (p2))] M (fun r M1 => ∃ z : Int, r = some (.int (iN z)) ∧ (-2147483648 ≤ z ∧ z ≤ 2147483647) ∧ MGm G M1 a rfd S) := by
  refine x_intro (cc := cX5_merge) (maxL := 4) (ret := (some .int)) (by decide +kernel) rfl (Nat.le_of_ble_eq_true rfl) ?_
  intro p e R s m args below meth c ls hRf hRc hRs hRl hC hw hl
  have hl : lv_has ls 4 [(0, .ref a), (1, .int (iN (p0))), (2, .int (iN (p1))), (3, .int (iN (p2)))] := hl
  refine lv_aload_n hC.1 hC.2.1 dX5_merge_0 rfl (lv_at hl 0 rfl) ?_
  refine lv_iload_n hC.1 hC.2.1 dX5_merge_1 rfl (lv_at hl 1 rfl) ?_
  refine lv_iload_n hC.1 hC.2.1 dX5_merge_2 rfl (lv_at hl 2 rfl) ?_
  refine lv_iload_n hC.1 hC.2.1 dX5_merge_3 rfl (lv_at hl 3 rfl) ?_
  refine x_callV hC hw (lv_size hl) (c_X5_isBad_ l G hR (p0 := p0) (by omega) (p1 := p1) (by omega) (p2 := p2) (by omega)) gX5_merge_X5_isBad_ rfl dv_X5_isBad_ hR.1.1 rfl rfl (Nat.le_of_ble_eq_true rfl) (by rw [hRf]; decide) (by rw [hRl]; decide) (by omega) (by omega) dX5_merge_4 (fun r9 M_1 H locs hq hw => ?_)
  obtain ⟨z_2, rfl, hz_2a, hz_2b, thk_3, hRk_3⟩ := hq
  show W p l e R s m args below meth c H locs _ _ _ (F0 m 7 ls [.int (iN (z_2))])
  refine x_if_eq (tgt := 12) hC ⟨by omega, by omega⟩ dX5_merge_7 (by decide) (fun c_4 => ?_) (fun c_4 => ?_)
  · refine lv_aload_n hC.1 hC.2.1 dX5_merge_12 rfl (lv_at hl 0 rfl) ?_
    refine lv_iload_n hC.1 hC.2.1 dX5_merge_13 rfl (lv_at hl 1 rfl) ?_
    refine x_callV hC hw (lv_size hl) (c_X5_touch l G hRk_3 (p0 := p0) (by omega)) gX5_merge_X5_touch rfl dv_X5_touch hRk_3.1.1 rfl rfl (Nat.le_of_ble_eq_true rfl) (by rw [hRf]; decide) (by rw [hRl]; decide) (by omega) (by omega) dX5_merge_14 (fun r9 M_5 H locs hq hw => ?_)
    obtain ⟨rfl, hak_7, hRk_7⟩ := hq
    show W p l e R s m args below meth c H locs _ _ _ (F0 m 17 ls [])
    refine lv_aload_n hC.1 hC.2.1 dX5_merge_17 rfl (lv_at hl 0 rfl) ?_
    refine lv_iload_n hC.1 hC.2.1 dX5_merge_18 rfl (lv_at hl 1 rfl) ?_
    refine lv_iload_n hC.1 hC.2.1 dX5_merge_19 rfl (lv_at hl 2 rfl) ?_
    refine lv_iload_n hC.1 hC.2.1 dX5_merge_20 rfl (lv_at hl 3 rfl) ?_
    refine x_callV hC hw (lv_size hl) (c_X5_mergeOf l G hRk_7 (p0 := p0) (by omega) (p1 := p1) (by omega) (p2 := p2) (by omega) (by omega) (by omega) (by omega) (by first | assumption | exact hSk (by omega) | assumption)) gX5_merge_X5_mergeOf rfl dv_X5_mergeOf hRk_7.1.1 rfl rfl (Nat.le_of_ble_eq_true rfl) (by rw [hRf]; decide) (by rw [hRl]; decide) (by omega) (by omega) dX5_merge_21 (fun r9 M_8 H locs hq hw => ?_)
    obtain ⟨z_9, rfl, hz_9a, brk_10, fvvk_10, hRk_10⟩ := hq
    show W p l e R s m args below meth c H locs _ _ _ (F0 m 24 ls [.int (iN (z_9))])
    exact x_iret hC hw dX5_merge_24 (by omega) (by omega) ⟨z_9, rfl, by omega, ⟨_, _, _, _, _, _, _, _, _, _, _, _, _, _, _, _, _, _, _, _, hRk_10⟩⟩
  · refine x_const hC dX5_merge_10 ?_
    exact x_iret hC hw dX5_merge_11 (by omega) (by omega) ⟨0, rfl, by omega, ⟨_, _, _, _, _, _, _, _, _, _, _, _, _, _, _, _, _, _, _, _, hRk_3⟩⟩
set_option maxHeartbeats 4000000 in
set_option maxRecDepth 100000 in
theorem c_X5_grow (l : Launch) (G : xG) {M : HM} {a va oa wa ya : Nat} {wk : Option Nat} {th rfd br re la ha kp kv : Int32} {qv qw : Nat → Nat} {fa fb : Nat → Option Nat} {fvv fw : Nat → Nat → Int32} {fo : Nat → Int32} {fy : Nat → Option Nat} {S : Nat → Bool} (hR : MGx G M a va oa wa ya wk th rfd br re la ha kp kv qv qw fa fb fvv fw fo fy S) {p0 : Int} (hp0 : -2147483648 ≤ p0 ∧ p0 ≤ 2147483647) {p1 : Int} (hp1 : -2147483648 ≤ p1 ∧ p1 ≤ 2147483647) (hSk : 0 ≤ p1 ∧ p1 ≤ 99 → S p1.toNat = true) : xMet l G yX5_grow wsX5_grow 3 66 0 0 [.ref a, .int (iN (p0)), .int (iN (p1))] M (fun r M1 => ∃ z : Int, r = some (.int (iN z)) ∧ (-2147483648 ≤ z ∧ z ≤ 2147483647) ∧ MGm G M1 a rfd S) := by
  refine x_intro (cc := cX5_grow) (maxL := 3) (ret := (some .int)) (by decide +kernel) rfl (Nat.le_of_ble_eq_true rfl) ?_
  intro p e R s m args below meth c ls hRf hRc hRs hRl hC hw hl
  have hinX5 : ∀ w ∈ wsX50, w ∈ wsX5_grow := by decide +kernel
  have hl : lv_has ls 3 [(0, .ref a), (1, .int (iN (p0))), (2, .int (iN (p1)))] := hl
  refine lv_aload_n hC.1 hC.2.1 dX5_grow_0 rfl (lv_at hl 0 rfl) ?_
  refine lv_iload_n hC.1 hC.2.1 dX5_grow_1 rfl (lv_at hl 1 rfl) ?_
  refine lv_iload_n hC.1 hC.2.1 dX5_grow_2 rfl (lv_at hl 2 rfl) ?_
  refine x_callV hC hw (lv_size hl) (c_X5_isBad l G hR (p0 := p0) (by omega) (p1 := p1) (by omega)) gX5_grow_X5_isBad rfl dv_X5_isBad hR.1.1 rfl rfl (Nat.le_of_ble_eq_true rfl) (by rw [hRf]; decide) (by rw [hRl]; decide) (by omega) (by omega) dX5_grow_3 (fun r9 M_1 H locs hq hw => ?_)
  obtain ⟨z_2, rfl, hz_2a, hz_2b, thk_3, hRk_3⟩ := hq
  show W p l e R s m args below meth c H locs _ _ _ (F0 m 6 ls [.int (iN (z_2))])
  refine x_if_eq (tgt := 11) hC ⟨by omega, by omega⟩ dX5_grow_6 (by decide) (fun c_4 => ?_) (fun c_4 => ?_)
  · refine lv_aload_n hC.1 hC.2.1 dX5_grow_11 rfl (lv_at hl 0 rfl) ?_
    refine lv_iload_n hC.1 hC.2.1 dX5_grow_12 rfl (lv_at hl 1 rfl) ?_
    refine x_callV hC hw (lv_size hl) (c_X5_touch l G hRk_3 (p0 := p0) (by omega)) gX5_grow_X5_touch rfl dv_X5_touch hRk_3.1.1 rfl rfl (Nat.le_of_ble_eq_true rfl) (by rw [hRf]; decide) (by rw [hRl]; decide) (by omega) (by omega) dX5_grow_13 (fun r9 M_5 H locs hq hw => ?_)
    obtain ⟨rfl, hak_7, hRk_7⟩ := hq
    show W p l e R s m args below meth c H locs _ _ _ (F0 m 16 ls [])
    refine lv_aload_n hC.1 hC.2.1 dX5_grow_16 rfl (lv_at hl 0 rfl) ?_
    refine x_get hC hw hRk_7.1.1 rfl hinX5 2 (by decide) (by decide +kernel) rfl dX5_grow_17 ?_
    refine lv_iload_n hC.1 hC.2.1 dX5_grow_20 rfl (lv_at hl 1 rfl) ?_
    refine x_ald4 hC hw hRk_7.1.2.1 (by omega) (by omega) (by omega) dX5_grow_21 ?_
    rw [hRk_7.fa' (show (p0).toNat < 3 by omega)]
    show W p l e R s m args below meth c _ _ _ _ _ (F0 m 22 ls [.ref (qv (p0).toNat)])
    refine lv_iload_n hC.1 hC.2.1 dX5_grow_22 rfl (lv_at hl 2 rfl) ?_
    refine x_iald hC hw (hRk_7.rv (show (p0).toNat < 3 by omega)) (by omega) (by omega) (by omega) dX5_grow_23 ?_
    obtain ⟨z_8, hz_8⟩ : ∃ z : Int, z = ((fvv (p0).toNat) (p1).toNat).toInt := ⟨_, rfl⟩
    rw [← hz_8]
    have hrz_8 : -10000 ≤ z_8 ∧ z_8 ≤ 9999 := by rw [hz_8]; exact hRk_7.vr (by omega) (by omega)
    have hpz_8 : z_8 ≠ -10000 → S (p1).toNat = true := by rw [hz_8]; exact hRk_7.vs (by omega) (by omega)
    refine x_sipush hC dX5_grow_24 (by decide +kernel) ?_
    refine x_icmp_ne (tgt := 50) hC ⟨by omega, by omega⟩ ⟨by omega, by omega⟩ dX5_grow_27 (by decide) (fun c_9 => ?_) (fun c_9 => ?_)
    · refine lv_aload_n hC.1 hC.2.1 dX5_grow_50 rfl (lv_at hl 0 rfl) ?_
      refine x_get hC hw hRk_7.1.1 rfl hinX5 2 (by decide) (by decide +kernel) rfl dX5_grow_51 ?_
      refine lv_iload_n hC.1 hC.2.1 dX5_grow_54 rfl (lv_at hl 1 rfl) ?_
      refine x_ald4 hC hw hRk_7.1.2.1 (by omega) (by omega) (by omega) dX5_grow_55 ?_
      rw [hRk_7.fa' (show (p0).toNat < 3 by omega)]
      show W p l e R s m args below meth c _ _ _ _ _ (F0 m 56 ls [.ref (qv (p0).toNat)])
      refine lv_iload_n hC.1 hC.2.1 dX5_grow_56 rfl (lv_at hl 2 rfl) ?_
      refine x_iald hC hw (hRk_7.rv (show (p0).toNat < 3 by omega)) (by omega) (by omega) (by omega) dX5_grow_57 ?_
      obtain ⟨z_10, hz_10⟩ : ∃ z : Int, z = ((fvv (p0).toNat) (p1).toNat).toInt := ⟨_, rfl⟩
      rw [← hz_10]
      have hrz_10 : -10000 ≤ z_10 ∧ z_10 ≤ 9999 := by rw [hz_10]; exact hRk_7.vr (by omega) (by omega)
      have hpz_10 : z_10 ≠ -10000 → S (p1).toNat = true := by rw [hz_10]; exact hRk_7.vs (by omega) (by omega)
      exact x_iret hC hw dX5_grow_58 (by omega) (by omega) ⟨z_10, rfl, by omega, ⟨_, _, _, _, _, _, _, _, _, _, _, _, _, _, _, _, _, _, _, _, hRk_7⟩⟩
    · refine lv_iload_n hC.1 hC.2.1 dX5_grow_30 rfl (lv_at hl 2 rfl) ?_
      refine x_bipush hC dX5_grow_31 (by decide +kernel) ?_
      refine x_irem hC ⟨by omega, by omega⟩ ⟨by omega, by omega⟩ (by omega) (by omega) dX5_grow_33 ?_
      obtain ⟨z_11, hz_11⟩ : ∃ z : Int, z = p1.tmod 7 := ⟨_, rfl⟩
      rw [← hz_11]
      have hrz_11 : -2147483648 ≤ z_11 ∧ z_11 ≤ 2147483647 := by rw [hz_11]; exact x_tmod_rng ⟨by omega, by omega⟩ (by omega)
      refine x_if_eq (tgt := 50) hC ⟨by omega, by omega⟩ dX5_grow_34 (by decide) (fun c_12 => ?_) (fun c_12 => ?_)
      · refine lv_aload_n hC.1 hC.2.1 dX5_grow_50 rfl (lv_at hl 0 rfl) ?_
        refine x_get hC hw hRk_7.1.1 rfl hinX5 2 (by decide) (by decide +kernel) rfl dX5_grow_51 ?_
        refine lv_iload_n hC.1 hC.2.1 dX5_grow_54 rfl (lv_at hl 1 rfl) ?_
        refine x_ald4 hC hw hRk_7.1.2.1 (by omega) (by omega) (by omega) dX5_grow_55 ?_
        rw [hRk_7.fa' (show (p0).toNat < 3 by omega)]
        show W p l e R s m args below meth c _ _ _ _ _ (F0 m 56 ls [.ref (qv (p0).toNat)])
        refine lv_iload_n hC.1 hC.2.1 dX5_grow_56 rfl (lv_at hl 2 rfl) ?_
        refine x_iald hC hw (hRk_7.rv (show (p0).toNat < 3 by omega)) (by omega) (by omega) (by omega) dX5_grow_57 ?_
        obtain ⟨z_13, hz_13⟩ : ∃ z : Int, z = ((fvv (p0).toNat) (p1).toNat).toInt := ⟨_, rfl⟩
        rw [← hz_13]
        have hrz_13 : -10000 ≤ z_13 ∧ z_13 ≤ 9999 := by rw [hz_13]; exact hRk_7.vr (by omega) (by omega)
        have hpz_13 : z_13 ≠ -10000 → S (p1).toNat = true := by rw [hz_13]; exact hRk_7.vs (by omega) (by omega)
        exact x_iret hC hw dX5_grow_58 (by omega) (by omega) ⟨z_13, rfl, by omega, ⟨_, _, _, _, _, _, _, _, _, _, _, _, _, _, _, _, _, _, _, _, hRk_7⟩⟩
      · refine lv_aload_n hC.1 hC.2.1 dX5_grow_37 rfl (lv_at hl 0 rfl) ?_
        refine lv_iload_n hC.1 hC.2.1 dX5_grow_38 rfl (lv_at hl 1 rfl) ?_
        refine lv_iload_n hC.1 hC.2.1 dX5_grow_39 rfl (lv_at hl 2 rfl) ?_
        refine x_const hC dX5_grow_40 ?_
        refine lv_iload_n hC.1 hC.2.1 dX5_grow_41 rfl (lv_at hl 2 rfl) ?_
        refine x_imul hC dX5_grow_42 ?_
        refine x_bipush hC dX5_grow_43 (by decide +kernel) ?_
        refine x_isub hC dX5_grow_45 ?_
        refine x_callV hC hw (lv_size hl) (c_X5_set l G hRk_7 (p0 := p0) (by omega) (p1 := p1) (by omega) (p2 := ((3 * p1) - 50)) (by omega) (by omega) (by omega) (by omega) (by intro q9; first | exact absurd rfl q9 | assumption | exact hpz_8 q9 | exact hpz_8 (by omega) | exact hSk (by omega))) gX5_grow_X5_set rfl dv_X5_set hRk_7.1.1 rfl rfl (Nat.le_of_ble_eq_true rfl) (by rw [hRf]; decide) (by rw [hRl]; decide) (by omega) (by omega) dX5_grow_46 (fun r9 M_14 H locs hq hw => ?_)
        obtain ⟨z_15, rfl, hz_15a, hz_15b, hx5k_16, brk_16, fvvk_16, hRk_16⟩ := hq
        show W p l e R s m args below meth c H locs _ _ _ (F0 m 49 ls [.int (iN (z_15))])
        refine lv_pop hC.1 hC.2.1 dX5_grow_49 rfl ?_
        refine lv_aload_n hC.1 hC.2.1 dX5_grow_50 rfl (lv_at hl 0 rfl) ?_
        refine x_get hC hw hRk_16.1.1 rfl hinX5 2 (by decide) (by decide +kernel) rfl dX5_grow_51 ?_
        refine lv_iload_n hC.1 hC.2.1 dX5_grow_54 rfl (lv_at hl 1 rfl) ?_
        refine x_ald4 hC hw hRk_16.1.2.1 (by omega) (by omega) (by omega) dX5_grow_55 ?_
        rw [hRk_16.fa' (show (p0).toNat < 3 by omega)]
        show W p l e R s m args below meth c _ _ _ _ _ (F0 m 56 ls [.ref (qv (p0).toNat)])
        refine lv_iload_n hC.1 hC.2.1 dX5_grow_56 rfl (lv_at hl 2 rfl) ?_
        refine x_iald hC hw (hRk_16.rv (show (p0).toNat < 3 by omega)) (by omega) (by omega) (by omega) dX5_grow_57 ?_
        obtain ⟨z_17, hz_17⟩ : ∃ z : Int, z = ((fvvk_16 (p0).toNat) (p1).toNat).toInt := ⟨_, rfl⟩
        rw [← hz_17]
        have hrz_17 : -10000 ≤ z_17 ∧ z_17 ≤ 9999 := by rw [hz_17]; exact hRk_16.vr (by omega) (by omega)
        have hpz_17 : z_17 ≠ -10000 → S (p1).toNat = true := by rw [hz_17]; exact hRk_16.vs (by omega) (by omega)
        exact x_iret hC hw dX5_grow_58 (by omega) (by omega) ⟨z_17, rfl, by omega, ⟨_, _, _, _, _, _, _, _, _, _, _, _, _, _, _, _, _, _, _, _, hRk_16⟩⟩
  · refine x_const hC dX5_grow_9 ?_
    exact x_iret hC hw dX5_grow_10 (by omega) (by omega) ⟨0, rfl, by omega, ⟨_, _, _, _, _, _, _, _, _, _, _, _, _, _, _, _, _, _, _, _, hRk_3⟩⟩
set_option maxHeartbeats 4000000 in
set_option maxRecDepth 100000 in
theorem c_X5_halve (l : Launch) (G : xG) {M : HM} {a va oa wa ya : Nat} {wk : Option Nat} {th rfd br re la ha kp kv : Int32} {qv qw : Nat → Nat} {fa fb : Nat → Option Nat} {fvv fw : Nat → Nat → Int32} {fo : Nat → Int32} {fy : Nat → Option Nat} {S : Nat → Bool} (hR : MGx G M a va oa wa ya wk th rfd br re la ha kp kv qv qw fa fb fvv fw fo fy S) {p0 : Int} (hp0 : -2147483648 ≤ p0 ∧ p0 ≤ 2147483647) {p1 : Int} (hp1 : -2147483648 ≤ p1 ∧ p1 ≤ 2147483647) : xMet l G yX5_halve wsX5_halve 3 66 0 0 [.ref a, .int (iN (p0)), .int (iN (p1))] M (fun r M1 => ∃ z : Int, r = some (.int (iN z)) ∧ (-2147483648 ≤ z ∧ z ≤ 2147483647) ∧ MGm G M1 a rfd S) := by
  refine x_intro (cc := cX5_halve) (maxL := 4) (ret := (some .int)) (by decide +kernel) rfl (Nat.le_of_ble_eq_true rfl) ?_
  intro p e R s m args below meth c ls hRf hRc hRs hRl hC hw hl
  have hinX5 : ∀ w ∈ wsX50, w ∈ wsX5_halve := by decide +kernel
  have hl : lv_has ls 4 [(0, .ref a), (1, .int (iN (p0))), (2, .int (iN (p1)))] := hl
  refine lv_aload_n hC.1 hC.2.1 dX5_halve_0 rfl (lv_at hl 0 rfl) ?_
  refine lv_iload_n hC.1 hC.2.1 dX5_halve_1 rfl (lv_at hl 1 rfl) ?_
  refine lv_iload_n hC.1 hC.2.1 dX5_halve_2 rfl (lv_at hl 2 rfl) ?_
  refine x_callV hC hw (lv_size hl) (c_X5_isBad l G hR (p0 := p0) (by omega) (p1 := p1) (by omega)) gX5_halve_X5_isBad rfl dv_X5_isBad hR.1.1 rfl rfl (Nat.le_of_ble_eq_true rfl) (by rw [hRf]; decide) (by rw [hRl]; decide) (by omega) (by omega) dX5_halve_3 (fun r9 M_1 H locs hq hw => ?_)
  obtain ⟨z_2, rfl, hz_2a, hz_2b, thk_3, hRk_3⟩ := hq
  show W p l e R s m args below meth c H locs _ _ _ (F0 m 6 ls [.int (iN (z_2))])
  refine x_if_eq (tgt := 11) hC ⟨by omega, by omega⟩ dX5_halve_6 (by decide) (fun c_4 => ?_) (fun c_4 => ?_)
  · refine lv_aload_n hC.1 hC.2.1 dX5_halve_11 rfl (lv_at hl 0 rfl) ?_
    refine lv_iload_n hC.1 hC.2.1 dX5_halve_12 rfl (lv_at hl 1 rfl) ?_
    refine x_callV hC hw (lv_size hl) (c_X5_touch l G hRk_3 (p0 := p0) (by omega)) gX5_halve_X5_touch rfl dv_X5_touch hRk_3.1.1 rfl rfl (Nat.le_of_ble_eq_true rfl) (by rw [hRf]; decide) (by rw [hRl]; decide) (by omega) (by omega) dX5_halve_13 (fun r9 M_5 H locs hq hw => ?_)
    obtain ⟨rfl, hak_7, hRk_7⟩ := hq
    show W p l e R s m args below meth c H locs _ _ _ (F0 m 16 ls [])
    refine lv_aload_n hC.1 hC.2.1 dX5_halve_16 rfl (lv_at hl 0 rfl) ?_
    refine x_get hC hw hRk_7.1.1 rfl hinX5 2 (by decide) (by decide +kernel) rfl dX5_halve_17 ?_
    refine lv_iload_n hC.1 hC.2.1 dX5_halve_20 rfl (lv_at hl 1 rfl) ?_
    refine x_ald4 hC hw hRk_7.1.2.1 (by omega) (by omega) (by omega) dX5_halve_21 ?_
    rw [hRk_7.fa' (show (p0).toNat < 3 by omega)]
    show W p l e R s m args below meth c _ _ _ _ _ (F0 m 22 ls [.ref (qv (p0).toNat)])
    refine lv_iload_n hC.1 hC.2.1 dX5_halve_22 rfl (lv_at hl 2 rfl) ?_
    refine x_iald hC hw (hRk_7.rv (show (p0).toNat < 3 by omega)) (by omega) (by omega) (by omega) dX5_halve_23 ?_
    obtain ⟨z_8, hz_8⟩ : ∃ z : Int, z = ((fvv (p0).toNat) (p1).toNat).toInt := ⟨_, rfl⟩
    rw [← hz_8]
    have hrz_8 : -10000 ≤ z_8 ∧ z_8 ≤ 9999 := by rw [hz_8]; exact hRk_7.vr (by omega) (by omega)
    have hpz_8 : z_8 ≠ -10000 → S (p1).toNat = true := by rw [hz_8]; exact hRk_7.vs (by omega) (by omega)
    refine lv_istore_n (lv' := [(3, .int (iN (z_8))), (0, .ref a), (1, .int (iN (p0))), (2, .int (iN (p1)))]) hC.1 hC.2.1 dX5_halve_24 rfl hl (by decide) rfl (fun ls hl => ?_)
    refine lv_iload_n hC.1 hC.2.1 dX5_halve_25 rfl (lv_at hl 0 rfl) ?_
    refine x_sipush hC dX5_halve_26 (by decide +kernel) ?_
    refine x_icmp_eq (tgt := 54) hC ⟨by omega, by omega⟩ ⟨by omega, by omega⟩ dX5_halve_29 (by decide) (fun c_9 => ?_) (fun c_9 => ?_)
    · refine lv_aload_n hC.1 hC.2.1 dX5_halve_54 rfl (lv_at hl 1 rfl) ?_
      refine x_get hC hw hRk_7.1.1 rfl hinX5 2 (by decide) (by decide +kernel) rfl dX5_halve_55 ?_
      refine lv_iload_n hC.1 hC.2.1 dX5_halve_58 rfl (lv_at hl 2 rfl) ?_
      refine x_ald4 hC hw hRk_7.1.2.1 (by omega) (by omega) (by omega) dX5_halve_59 ?_
      rw [hRk_7.fa' (show (p0).toNat < 3 by omega)]
      show W p l e R s m args below meth c _ _ _ _ _ (F0 m 60 ls [.ref (qv (p0).toNat)])
      refine lv_iload_n hC.1 hC.2.1 dX5_halve_60 rfl (lv_at hl 3 rfl) ?_
      refine x_iald hC hw (hRk_7.rv (show (p0).toNat < 3 by omega)) (by omega) (by omega) (by omega) dX5_halve_61 ?_
      obtain ⟨z_10, hz_10⟩ : ∃ z : Int, z = ((fvv (p0).toNat) (p1).toNat).toInt := ⟨_, rfl⟩
      rw [← hz_10]
      have hrz_10 : -10000 ≤ z_10 ∧ z_10 ≤ 9999 := by rw [hz_10]; exact hRk_7.vr (by omega) (by omega)
      have hpz_10 : z_10 ≠ -10000 → S (p1).toNat = true := by rw [hz_10]; exact hRk_7.vs (by omega) (by omega)
      exact x_iret hC hw dX5_halve_62 (by omega) (by omega) ⟨z_10, rfl, by omega, ⟨_, _, _, _, _, _, _, _, _, _, _, _, _, _, _, _, _, _, _, _, hRk_7⟩⟩
    · refine lv_aload_n hC.1 hC.2.1 dX5_halve_32 rfl (lv_at hl 1 rfl) ?_
      refine lv_iload_n hC.1 hC.2.1 dX5_halve_33 rfl (lv_at hl 2 rfl) ?_
      refine lv_iload_n hC.1 hC.2.1 dX5_halve_34 rfl (lv_at hl 3 rfl) ?_
      refine lv_iload_n hC.1 hC.2.1 dX5_halve_35 rfl (lv_at hl 0 rfl) ?_
      refine x_const hC dX5_halve_36 ?_
      refine x_idiv hC ⟨by omega, by omega⟩ ⟨by omega, by omega⟩ (by omega) (by omega) dX5_halve_37 ?_
      obtain ⟨z_11, hz_11⟩ : ∃ z : Int, z = z_8.tdiv 2 := ⟨_, rfl⟩
      rw [← hz_11]
      have hrz_11 : -2147483648 ≤ z_11 ∧ z_11 ≤ 2147483647 := by rw [hz_11]; exact x_tdiv_rng ⟨by omega, by omega⟩ ⟨by omega, by omega⟩
      have hdz_11 := x_tdb hz_11
      refine x_if_ne (tgt := 47) hC ⟨by omega, by omega⟩ dX5_halve_38 (by decide) (fun c_12 => ?_) (fun c_12 => ?_)
      · refine lv_iload_n hC.1 hC.2.1 dX5_halve_47 rfl (lv_at hl 0 rfl) ?_
        refine x_const hC dX5_halve_48 ?_
        refine x_idiv hC ⟨by omega, by omega⟩ ⟨by omega, by omega⟩ (by omega) (by omega) dX5_halve_49 ?_
        obtain ⟨z_13, hz_13⟩ : ∃ z : Int, z = z_8.tdiv 2 := ⟨_, rfl⟩
        rw [← hz_13]
        have hrz_13 : -2147483648 ≤ z_13 ∧ z_13 ≤ 2147483647 := by rw [hz_13]; exact x_tdiv_rng ⟨by omega, by omega⟩ ⟨by omega, by omega⟩
        have hdz_13 := x_tdb hz_13
        refine x_callV hC hw (lv_size hl) (c_X5_set l G hRk_7 (p0 := p0) (by omega) (p1 := p1) (by omega) (p2 := z_13) (by omega) (by omega) (by omega) (by omega) (by intro q9; first | exact absurd rfl q9 | assumption | exact hpz_8 q9 | exact hpz_8 (by omega))) gX5_halve_X5_set rfl dv_X5_set hRk_7.1.1 rfl rfl (Nat.le_of_ble_eq_true rfl) (by rw [hRf]; decide) (by rw [hRl]; decide) (by omega) (by omega) dX5_halve_50 (fun r9 M_14 H locs hq hw => ?_)
        obtain ⟨z_15, rfl, hz_15a, hz_15b, hx5k_16, brk_16, fvvk_16, hRk_16⟩ := hq
        show W p l e R s m args below meth c H locs _ _ _ (F0 m 53 ls [.int (iN (z_15))])
        refine lv_pop hC.1 hC.2.1 dX5_halve_53 rfl ?_
        refine lv_aload_n hC.1 hC.2.1 dX5_halve_54 rfl (lv_at hl 1 rfl) ?_
        refine x_get hC hw hRk_16.1.1 rfl hinX5 2 (by decide) (by decide +kernel) rfl dX5_halve_55 ?_
        refine lv_iload_n hC.1 hC.2.1 dX5_halve_58 rfl (lv_at hl 2 rfl) ?_
        refine x_ald4 hC hw hRk_16.1.2.1 (by omega) (by omega) (by omega) dX5_halve_59 ?_
        rw [hRk_16.fa' (show (p0).toNat < 3 by omega)]
        show W p l e R s m args below meth c _ _ _ _ _ (F0 m 60 ls [.ref (qv (p0).toNat)])
        refine lv_iload_n hC.1 hC.2.1 dX5_halve_60 rfl (lv_at hl 3 rfl) ?_
        refine x_iald hC hw (hRk_16.rv (show (p0).toNat < 3 by omega)) (by omega) (by omega) (by omega) dX5_halve_61 ?_
        obtain ⟨z_17, hz_17⟩ : ∃ z : Int, z = ((fvvk_16 (p0).toNat) (p1).toNat).toInt := ⟨_, rfl⟩
        rw [← hz_17]
        have hrz_17 : -10000 ≤ z_17 ∧ z_17 ≤ 9999 := by rw [hz_17]; exact hRk_16.vr (by omega) (by omega)
        have hpz_17 : z_17 ≠ -10000 → S (p1).toNat = true := by rw [hz_17]; exact hRk_16.vs (by omega) (by omega)
        exact x_iret hC hw dX5_halve_62 (by omega) (by omega) ⟨z_17, rfl, by omega, ⟨_, _, _, _, _, _, _, _, _, _, _, _, _, _, _, _, _, _, _, _, hRk_16⟩⟩
      · refine x_sipush hC dX5_halve_41 (by decide +kernel) ?_
        refine lv_goto (tgt := 50) hC.1 hC.2.1 dX5_halve_44 (by decide) ?_
        refine x_callV hC hw (lv_size hl) (c_X5_set l G hRk_7 (p0 := p0) (by omega) (p1 := p1) (by omega) (p2 := (-10000)) (by omega) (by omega) (by omega) (by omega) (fun q9 => absurd rfl q9)) gX5_halve_X5_set rfl dv_X5_set hRk_7.1.1 rfl rfl (Nat.le_of_ble_eq_true rfl) (by rw [hRf]; decide) (by rw [hRl]; decide) (by omega) (by omega) dX5_halve_50 (fun r9 M_18 H locs hq hw => ?_)
        obtain ⟨z_19, rfl, hz_19a, hz_19b, hx5k_20, brk_20, fvvk_20, hRk_20⟩ := hq
        show W p l e R s m args below meth c H locs _ _ _ (F0 m 53 ls [.int (iN (z_19))])
        refine lv_pop hC.1 hC.2.1 dX5_halve_53 rfl ?_
        refine lv_aload_n hC.1 hC.2.1 dX5_halve_54 rfl (lv_at hl 1 rfl) ?_
        refine x_get hC hw hRk_20.1.1 rfl hinX5 2 (by decide) (by decide +kernel) rfl dX5_halve_55 ?_
        refine lv_iload_n hC.1 hC.2.1 dX5_halve_58 rfl (lv_at hl 2 rfl) ?_
        refine x_ald4 hC hw hRk_20.1.2.1 (by omega) (by omega) (by omega) dX5_halve_59 ?_
        rw [hRk_20.fa' (show (p0).toNat < 3 by omega)]
        show W p l e R s m args below meth c _ _ _ _ _ (F0 m 60 ls [.ref (qv (p0).toNat)])
        refine lv_iload_n hC.1 hC.2.1 dX5_halve_60 rfl (lv_at hl 3 rfl) ?_
        refine x_iald hC hw (hRk_20.rv (show (p0).toNat < 3 by omega)) (by omega) (by omega) (by omega) dX5_halve_61 ?_
        obtain ⟨z_21, hz_21⟩ : ∃ z : Int, z = ((fvvk_20 (p0).toNat) (p1).toNat).toInt := ⟨_, rfl⟩
        rw [← hz_21]
        have hrz_21 : -10000 ≤ z_21 ∧ z_21 ≤ 9999 := by rw [hz_21]; exact hRk_20.vr (by omega) (by omega)
        have hpz_21 : z_21 ≠ -10000 → S (p1).toNat = true := by rw [hz_21]; exact hRk_20.vs (by omega) (by omega)
        exact x_iret hC hw dX5_halve_62 (by omega) (by omega) ⟨z_21, rfl, by omega, ⟨_, _, _, _, _, _, _, _, _, _, _, _, _, _, _, _, _, _, _, _, hRk_20⟩⟩
  · refine x_const hC dX5_halve_9 ?_
    exact x_iret hC hw dX5_halve_10 (by omega) (by omega) ⟨0, rfl, by omega, ⟨_, _, _, _, _, _, _, _, _, _, _, _, _, _, _, _, _, _, _, _, hRk_3⟩⟩
set_option maxHeartbeats 4000000 in
set_option maxRecDepth 100000 in
theorem c_X5_twice (l : Launch) (G : xG) {M : HM} {a va oa wa ya : Nat} {wk : Option Nat} {th rfd br re la ha kp kv : Int32} {qv qw : Nat → Nat} {fa fb : Nat → Option Nat} {fvv fw : Nat → Nat → Int32} {fo : Nat → Int32} {fy : Nat → Option Nat} {S : Nat → Bool} (hR : MGx G M a va oa wa ya wk th rfd br re la ha kp kv qv qw fa fb fvv fw fo fy S) {p0 : Int} (hp0 : -2147483648 ≤ p0 ∧ p0 ≤ 2147483647) {p1 : Int} (hp1 : -2147483648 ≤ p1 ∧ p1 ≤ 2147483647) (hSk : 0 ≤ p1 ∧ p1 ≤ 99 → S p1.toNat = true) : xMet l G yX5_twice wsX5_twice 3 66 0 0 [.ref a, .int (iN (p0)), .int (iN (p1))] M (fun r M1 => ∃ z : Int, r = some (.int (iN z)) ∧ (-2147483648 ≤ z ∧ z ≤ 2147483647) ∧ MGm G M1 a rfd S) := by
  refine x_intro (cc := cX5_twice) (maxL := 4) (ret := (some .int)) (by decide +kernel) rfl (Nat.le_of_ble_eq_true rfl) ?_
  intro p e R s m args below meth c ls hRf hRc hRs hRl hC hw hl
  have hinX5 : ∀ w ∈ wsX50, w ∈ wsX5_twice := by decide +kernel
  have hl : lv_has ls 4 [(0, .ref a), (1, .int (iN (p0))), (2, .int (iN (p1)))] := hl
  refine lv_aload_n hC.1 hC.2.1 dX5_twice_0 rfl (lv_at hl 0 rfl) ?_
  refine lv_iload_n hC.1 hC.2.1 dX5_twice_1 rfl (lv_at hl 1 rfl) ?_
  refine lv_iload_n hC.1 hC.2.1 dX5_twice_2 rfl (lv_at hl 2 rfl) ?_
  refine x_callV hC hw (lv_size hl) (c_X5_isBad l G hR (p0 := p0) (by omega) (p1 := p1) (by omega)) gX5_twice_X5_isBad rfl dv_X5_isBad hR.1.1 rfl rfl (Nat.le_of_ble_eq_true rfl) (by rw [hRf]; decide) (by rw [hRl]; decide) (by omega) (by omega) dX5_twice_3 (fun r9 M_1 H locs hq hw => ?_)
  obtain ⟨z_2, rfl, hz_2a, hz_2b, thk_3, hRk_3⟩ := hq
  show W p l e R s m args below meth c H locs _ _ _ (F0 m 6 ls [.int (iN (z_2))])
  refine x_if_eq (tgt := 11) hC ⟨by omega, by omega⟩ dX5_twice_6 (by decide) (fun c_4 => ?_) (fun c_4 => ?_)
  · refine lv_aload_n hC.1 hC.2.1 dX5_twice_11 rfl (lv_at hl 0 rfl) ?_
    refine lv_iload_n hC.1 hC.2.1 dX5_twice_12 rfl (lv_at hl 1 rfl) ?_
    refine x_callV hC hw (lv_size hl) (c_X5_touch l G hRk_3 (p0 := p0) (by omega)) gX5_twice_X5_touch rfl dv_X5_touch hRk_3.1.1 rfl rfl (Nat.le_of_ble_eq_true rfl) (by rw [hRf]; decide) (by rw [hRl]; decide) (by omega) (by omega) dX5_twice_13 (fun r9 M_5 H locs hq hw => ?_)
    obtain ⟨rfl, hak_7, hRk_7⟩ := hq
    show W p l e R s m args below meth c H locs _ _ _ (F0 m 16 ls [])
    refine lv_aload_n hC.1 hC.2.1 dX5_twice_16 rfl (lv_at hl 0 rfl) ?_
    refine x_get hC hw hRk_7.1.1 rfl hinX5 2 (by decide) (by decide +kernel) rfl dX5_twice_17 ?_
    refine lv_iload_n hC.1 hC.2.1 dX5_twice_20 rfl (lv_at hl 1 rfl) ?_
    refine x_ald4 hC hw hRk_7.1.2.1 (by omega) (by omega) (by omega) dX5_twice_21 ?_
    rw [hRk_7.fa' (show (p0).toNat < 3 by omega)]
    show W p l e R s m args below meth c _ _ _ _ _ (F0 m 22 ls [.ref (qv (p0).toNat)])
    refine lv_iload_n hC.1 hC.2.1 dX5_twice_22 rfl (lv_at hl 2 rfl) ?_
    refine x_iald hC hw (hRk_7.rv (show (p0).toNat < 3 by omega)) (by omega) (by omega) (by omega) dX5_twice_23 ?_
    obtain ⟨z_8, hz_8⟩ : ∃ z : Int, z = ((fvv (p0).toNat) (p1).toNat).toInt := ⟨_, rfl⟩
    rw [← hz_8]
    have hrz_8 : -10000 ≤ z_8 ∧ z_8 ≤ 9999 := by rw [hz_8]; exact hRk_7.vr (by omega) (by omega)
    have hpz_8 : z_8 ≠ -10000 → S (p1).toNat = true := by rw [hz_8]; exact hRk_7.vs (by omega) (by omega)
    refine lv_istore_n (lv' := [(3, .int (iN (z_8))), (0, .ref a), (1, .int (iN (p0))), (2, .int (iN (p1)))]) hC.1 hC.2.1 dX5_twice_24 rfl hl (by decide) rfl (fun ls hl => ?_)
    refine lv_aload_n hC.1 hC.2.1 dX5_twice_25 rfl (lv_at hl 1 rfl) ?_
    refine lv_iload_n hC.1 hC.2.1 dX5_twice_26 rfl (lv_at hl 2 rfl) ?_
    refine lv_iload_n hC.1 hC.2.1 dX5_twice_27 rfl (lv_at hl 3 rfl) ?_
    refine lv_iload_n hC.1 hC.2.1 dX5_twice_28 rfl (lv_at hl 0 rfl) ?_
    refine x_sipush hC dX5_twice_29 (by decide +kernel) ?_
    refine x_icmp_ne (tgt := 39) hC ⟨by omega, by omega⟩ ⟨by omega, by omega⟩ dX5_twice_32 (by decide) (fun c_9 => ?_) (fun c_9 => ?_)
    · refine lv_iload_n hC.1 hC.2.1 dX5_twice_39 rfl (lv_at hl 0 rfl) ?_
      refine x_sipush hC dX5_twice_40 (by decide +kernel) ?_
      refine x_sipush hC dX5_twice_43 (by decide +kernel) ?_
      refine x_callS hC hw (lv_size hl) (c_X5_isIn l G (M := M_5) (p0 := z_8) (by omega) (p1 := (-500)) (by omega) (p2 := 500) (by omega)) gX5_twice_X5_isIn rfl dv_X5_isIn_s rfl (Nat.le_of_ble_eq_true rfl) (by rw [hRf]; decide) (by rw [hRl]; decide) (by omega) (by omega) dX5_twice_46 (fun r9 M_10 H locs hq hw => ?_)
      obtain ⟨z_11, rfl, hM9, hz_11a, hz_11b, hz_11c⟩ := hq
      rw [hM9] at hw
      show W p l e R s m args below meth c H locs _ _ _ (F0 m 49 ls [.int (iN (z_11)), .int (iN (p1)), .int (iN (p0)), .ref a])
      refine x_if_eq (tgt := 58) hC ⟨by omega, by omega⟩ dX5_twice_49 (by decide) (fun c_12 => ?_) (fun c_12 => ?_)
      · refine x_sipush hC dX5_twice_58 (by decide +kernel) ?_
        refine x_callV hC hw (lv_size hl) (c_X5_set l G hRk_7 (p0 := p0) (by omega) (p1 := p1) (by omega) (p2 := (-10000)) (by omega) (by omega) (by omega) (by omega) (fun q9 => absurd rfl q9)) gX5_twice_X5_set rfl dv_X5_set hRk_7.1.1 rfl rfl (Nat.le_of_ble_eq_true rfl) (by rw [hRf]; decide) (by rw [hRl]; decide) (by omega) (by omega) dX5_twice_61 (fun r9 M_13 H locs hq hw => ?_)
        obtain ⟨z_14, rfl, hz_14a, hz_14b, hx5k_15, brk_15, fvvk_15, hRk_15⟩ := hq
        show W p l e R s m args below meth c H locs _ _ _ (F0 m 64 ls [.int (iN (z_14))])
        refine lv_pop hC.1 hC.2.1 dX5_twice_64 rfl ?_
        refine lv_aload_n hC.1 hC.2.1 dX5_twice_65 rfl (lv_at hl 1 rfl) ?_
        refine x_get hC hw hRk_15.1.1 rfl hinX5 2 (by decide) (by decide +kernel) rfl dX5_twice_66 ?_
        refine lv_iload_n hC.1 hC.2.1 dX5_twice_69 rfl (lv_at hl 2 rfl) ?_
        refine x_ald4 hC hw hRk_15.1.2.1 (by omega) (by omega) (by omega) dX5_twice_70 ?_
        rw [hRk_15.fa' (show (p0).toNat < 3 by omega)]
        show W p l e R s m args below meth c _ _ _ _ _ (F0 m 71 ls [.ref (qv (p0).toNat)])
        refine lv_iload_n hC.1 hC.2.1 dX5_twice_71 rfl (lv_at hl 3 rfl) ?_
        refine x_iald hC hw (hRk_15.rv (show (p0).toNat < 3 by omega)) (by omega) (by omega) (by omega) dX5_twice_72 ?_
        obtain ⟨z_16, hz_16⟩ : ∃ z : Int, z = ((fvvk_15 (p0).toNat) (p1).toNat).toInt := ⟨_, rfl⟩
        rw [← hz_16]
        have hrz_16 : -10000 ≤ z_16 ∧ z_16 ≤ 9999 := by rw [hz_16]; exact hRk_15.vr (by omega) (by omega)
        have hpz_16 : z_16 ≠ -10000 → S (p1).toNat = true := by rw [hz_16]; exact hRk_15.vs (by omega) (by omega)
        exact x_iret hC hw dX5_twice_73 (by omega) (by omega) ⟨z_16, rfl, by omega, ⟨_, _, _, _, _, _, _, _, _, _, _, _, _, _, _, _, _, _, _, _, hRk_15⟩⟩
      · refine x_const hC dX5_twice_52 ?_
        refine lv_iload_n hC.1 hC.2.1 dX5_twice_53 rfl (lv_at hl 0 rfl) ?_
        refine x_imul hC dX5_twice_54 ?_
        refine lv_goto (tgt := 61) hC.1 hC.2.1 dX5_twice_55 (by decide) ?_
        refine x_callV hC hw (lv_size hl) (c_X5_set l G hRk_7 (p0 := p0) (by omega) (p1 := p1) (by omega) (p2 := (2 * z_8)) (by omega) (by omega) (by omega) (by omega) (by intro q9; first | exact absurd rfl q9 | assumption | exact hpz_8 q9 | exact hpz_8 (by omega) | exact hSk (by omega))) gX5_twice_X5_set rfl dv_X5_set hRk_7.1.1 rfl rfl (Nat.le_of_ble_eq_true rfl) (by rw [hRf]; decide) (by rw [hRl]; decide) (by omega) (by omega) dX5_twice_61 (fun r9 M_17 H locs hq hw => ?_)
        obtain ⟨z_18, rfl, hz_18a, hz_18b, hx5k_19, brk_19, fvvk_19, hRk_19⟩ := hq
        show W p l e R s m args below meth c H locs _ _ _ (F0 m 64 ls [.int (iN (z_18))])
        refine lv_pop hC.1 hC.2.1 dX5_twice_64 rfl ?_
        refine lv_aload_n hC.1 hC.2.1 dX5_twice_65 rfl (lv_at hl 1 rfl) ?_
        refine x_get hC hw hRk_19.1.1 rfl hinX5 2 (by decide) (by decide +kernel) rfl dX5_twice_66 ?_
        refine lv_iload_n hC.1 hC.2.1 dX5_twice_69 rfl (lv_at hl 2 rfl) ?_
        refine x_ald4 hC hw hRk_19.1.2.1 (by omega) (by omega) (by omega) dX5_twice_70 ?_
        rw [hRk_19.fa' (show (p0).toNat < 3 by omega)]
        show W p l e R s m args below meth c _ _ _ _ _ (F0 m 71 ls [.ref (qv (p0).toNat)])
        refine lv_iload_n hC.1 hC.2.1 dX5_twice_71 rfl (lv_at hl 3 rfl) ?_
        refine x_iald hC hw (hRk_19.rv (show (p0).toNat < 3 by omega)) (by omega) (by omega) (by omega) dX5_twice_72 ?_
        obtain ⟨z_20, hz_20⟩ : ∃ z : Int, z = ((fvvk_19 (p0).toNat) (p1).toNat).toInt := ⟨_, rfl⟩
        rw [← hz_20]
        have hrz_20 : -10000 ≤ z_20 ∧ z_20 ≤ 9999 := by rw [hz_20]; exact hRk_19.vr (by omega) (by omega)
        have hpz_20 : z_20 ≠ -10000 → S (p1).toNat = true := by rw [hz_20]; exact hRk_19.vs (by omega) (by omega)
        exact x_iret hC hw dX5_twice_73 (by omega) (by omega) ⟨z_20, rfl, by omega, ⟨_, _, _, _, _, _, _, _, _, _, _, _, _, _, _, _, _, _, _, _, hRk_19⟩⟩
    · refine lv_iload_n hC.1 hC.2.1 dX5_twice_35 rfl (lv_at hl 3 rfl) ?_
      refine lv_goto (tgt := 61) hC.1 hC.2.1 dX5_twice_36 (by decide) ?_
      refine x_callV hC hw (lv_size hl) (c_X5_set l G hRk_7 (p0 := p0) (by omega) (p1 := p1) (by omega) (p2 := p1) (by omega) (by omega) (by omega) (by omega) (by intro q9; first | exact absurd rfl q9 | assumption | exact hpz_8 q9 | exact hpz_8 (by omega) | exact hSk (by omega))) gX5_twice_X5_set rfl dv_X5_set hRk_7.1.1 rfl rfl (Nat.le_of_ble_eq_true rfl) (by rw [hRf]; decide) (by rw [hRl]; decide) (by omega) (by omega) dX5_twice_61 (fun r9 M_21 H locs hq hw => ?_)
      obtain ⟨z_22, rfl, hz_22a, hz_22b, hx5k_23, brk_23, fvvk_23, hRk_23⟩ := hq
      show W p l e R s m args below meth c H locs _ _ _ (F0 m 64 ls [.int (iN (z_22))])
      refine lv_pop hC.1 hC.2.1 dX5_twice_64 rfl ?_
      refine lv_aload_n hC.1 hC.2.1 dX5_twice_65 rfl (lv_at hl 1 rfl) ?_
      refine x_get hC hw hRk_23.1.1 rfl hinX5 2 (by decide) (by decide +kernel) rfl dX5_twice_66 ?_
      refine lv_iload_n hC.1 hC.2.1 dX5_twice_69 rfl (lv_at hl 2 rfl) ?_
      refine x_ald4 hC hw hRk_23.1.2.1 (by omega) (by omega) (by omega) dX5_twice_70 ?_
      rw [hRk_23.fa' (show (p0).toNat < 3 by omega)]
      show W p l e R s m args below meth c _ _ _ _ _ (F0 m 71 ls [.ref (qv (p0).toNat)])
      refine lv_iload_n hC.1 hC.2.1 dX5_twice_71 rfl (lv_at hl 3 rfl) ?_
      refine x_iald hC hw (hRk_23.rv (show (p0).toNat < 3 by omega)) (by omega) (by omega) (by omega) dX5_twice_72 ?_
      obtain ⟨z_24, hz_24⟩ : ∃ z : Int, z = ((fvvk_23 (p0).toNat) (p1).toNat).toInt := ⟨_, rfl⟩
      rw [← hz_24]
      have hrz_24 : -10000 ≤ z_24 ∧ z_24 ≤ 9999 := by rw [hz_24]; exact hRk_23.vr (by omega) (by omega)
      have hpz_24 : z_24 ≠ -10000 → S (p1).toNat = true := by rw [hz_24]; exact hRk_23.vs (by omega) (by omega)
      exact x_iret hC hw dX5_twice_73 (by omega) (by omega) ⟨z_24, rfl, by omega, ⟨_, _, _, _, _, _, _, _, _, _, _, _, _, _, _, _, _, _, _, _, hRk_23⟩⟩
  · refine x_const hC dX5_twice_9 ?_
    exact x_iret hC hw dX5_twice_10 (by omega) (by omega) ⟨0, rfl, by omega, ⟨_, _, _, _, _, _, _, _, _, _, _, _, _, _, _, _, _, _, _, _, hRk_3⟩⟩
set_option maxHeartbeats 4000000 in
set_option maxRecDepth 100000 in
theorem c_X5_poll (l : Launch) (G : xG) {M : HM} {a va oa wa ya : Nat} {wk : Option Nat} {th rfd br re la ha kp kv : Int32} {qv qw : Nat → Nat} {fa fb : Nat → Option Nat} {fvv fw : Nat → Nat → Int32} {fo : Nat → Int32} {fy : Nat → Option Nat} {S : Nat → Bool} (hR : MGx G M a va oa wa ya wk th rfd br re la ha kp kv qv qw fa fb fvv fw fo fy S) {p0 : Int} (hp0 : -2147483648 ≤ p0 ∧ p0 ≤ 2147483647) {p1 : Int} (hp1 : -2147483648 ≤ p1 ∧ p1 ≤ 2147483647) : xMet l G yX5_poll wsX5_poll 5 115 1 5 [.ref a, .int (iN (p0)), .int (iN (p1))] M (fun r M1 => ∃ z : Int, r = some (.int (iN z)) ∧ (-2147483648 ≤ z ∧ z ≤ 2147483647) ∧ MGm G M1 a rfd S) := by
  refine x_intro (cc := cX5_poll) (maxL := 4) (ret := (some .int)) (by decide +kernel) rfl (Nat.le_of_ble_eq_true rfl) ?_
  intro p e R s m args below meth c ls hRf hRc hRs hRl hC hw hl
  have hl : lv_has ls 4 [(0, .ref a), (1, .int (iN (p0))), (2, .int (iN (p1)))] := hl
  refine lv_aload_n hC.1 hC.2.1 dX5_poll_0 rfl (lv_at hl 0 rfl) ?_
  refine lv_iload_n hC.1 hC.2.1 dX5_poll_1 rfl (lv_at hl 1 rfl) ?_
  refine x_callS hC hw (lv_size hl) (c_X5_isNoBook l G (M := M) (p0 := p0) (by omega)) gX5_poll_X5_isNoBook rfl dv_X5_isNoBook_s rfl (Nat.le_of_ble_eq_true rfl) (by rw [hRf]; decide) (by rw [hRl]; decide) (by omega) (by omega) dX5_poll_2 (fun r9 M_1 H locs hq hw => ?_)
  obtain ⟨z_2, rfl, hM9, hz_2a, hz_2b⟩ := hq
  rw [hM9] at hw
  show W p l e R s m args below meth c H locs _ _ _ (F0 m 5 ls [.int (iN (z_2)), .ref a])
  refine x_const hC dX5_poll_5 ?_
  refine x_callV hC hw (lv_size hl) (c_X5_start l G hR (p0 := z_2) (by omega) (p1 := 1) (by omega) (by omega)) gX5_poll_X5_start rfl dv_X5_start hR.1.1 rfl rfl (Nat.le_of_ble_eq_true rfl) (by rw [hRf]; decide) (by rw [hRl]; decide) (by omega) (by omega) dX5_poll_6 (fun r9 M_3 H locs hq hw => ?_)
  obtain ⟨z_4, rfl, hz_4a, hz_4b, thk_5, hRk_5⟩ := hq
  show W p l e R s m args below meth c H locs _ _ _ (F0 m 9 ls [.int (iN (z_4))])
  refine x_if_eq (tgt := 14) hC ⟨by omega, by omega⟩ dX5_poll_9 (by decide) (fun c_6 => ?_) (fun c_6 => ?_)
  · refine lv_aload_n hC.1 hC.2.1 dX5_poll_14 rfl (lv_at hl 0 rfl) ?_
    refine lv_iload_n hC.1 hC.2.1 dX5_poll_15 rfl (lv_at hl 1 rfl) ?_
    refine x_callV hC hw (lv_size hl) (c_X5_touch l G hRk_5 (p0 := p0) (by omega)) gX5_poll_X5_touch rfl dv_X5_touch hRk_5.1.1 rfl rfl (Nat.le_of_ble_eq_true rfl) (by rw [hRf]; decide) (by rw [hRl]; decide) (by omega) (by omega) dX5_poll_16 (fun r9 M_7 H locs hq hw => ?_)
    obtain ⟨rfl, hak_9, hRk_9⟩ := hq
    show W p l e R s m args below meth c H locs _ _ _ (F0 m 19 ls [])
    refine lv_aload_n hC.1 hC.2.1 dX5_poll_19 rfl (lv_at hl 0 rfl) ?_
    refine lv_iload_n hC.1 hC.2.1 dX5_poll_20 rfl (lv_at hl 1 rfl) ?_
    refine x_callS hC hw (lv_size hl) (c_X5_whole l G (M := M_7) (p0 := p0) (by omega) (by omega)) gX5_poll_X5_whole rfl dv_X5_whole_s rfl (Nat.le_of_ble_eq_true rfl) (by rw [hRf]; decide) (by rw [hRl]; decide) (by omega) (by omega) dX5_poll_21 (fun r9 M_10 H locs hq hw => ?_)
    obtain ⟨qk_11, fk_11, rfl, hxk_11, hIk_11, hfk_11⟩ := hq
    have h_12 := hRk_9.ext hxk_11
    obtain ⟨hvt_13, hat_13, hbt_13, hct_13, hdt_13, het_13⟩ := id hIk_11
    show W p l e R s m args below meth c H locs _ _ _ (F0 m 24 ls [.ref qk_11, .ref a])
    refine lv_iload_n hC.1 hC.2.1 dX5_poll_24 rfl (lv_at hl 2 rfl) ?_
    refine x_callV hC hw (lv_size hl) (c_X5_end l G h_12 hIk_11 (p0 := p1) (by omega)) gX5_poll_X5_end rfl dv_X5_end h_12.1.1 rfl rfl (Nat.le_of_ble_eq_true rfl) (by rw [hRf]; decide) (by rw [hRl]; decide) (by omega) (by omega) dX5_poll_25 (fun r9 M_14 H locs hq hw => ?_)
    obtain ⟨z_15, rfl, hM9, hz_15a, hz_15S⟩ := hq
    rw [hM9] at hw
    show W p l e R s m args below meth c H locs _ _ _ (F0 m 28 ls [.int (iN (z_15))])
    refine lv_istore_n (lv' := [(3, .int (iN (z_15))), (0, .ref a), (1, .int (iN (p0))), (2, .int (iN (p1)))]) hC.1 hC.2.1 dX5_poll_28 rfl hl (by decide) rfl (fun ls hl => ?_)
    refine lv_iload_n hC.1 hC.2.1 dX5_poll_29 rfl (lv_at hl 0 rfl) ?_
    refine x_sipush hC dX5_poll_30 (by decide +kernel) ?_
    refine x_icmp_eq (tgt := 46) hC ⟨by omega, by omega⟩ ⟨by omega, by omega⟩ dX5_poll_33 (by decide) (fun c_16 => ?_) (fun c_16 => ?_)
    · refine lv_iload_n hC.1 hC.2.1 dX5_poll_46 rfl (lv_at hl 0 rfl) ?_
      exact x_iret hC hw dX5_poll_47 (by omega) (by omega) ⟨z_15, rfl, by omega, ⟨_, _, _, _, _, _, _, _, _, _, _, _, _, _, _, _, _, _, _, _, h_12⟩⟩
    · refine lv_aload_n hC.1 hC.2.1 dX5_poll_36 rfl (lv_at hl 1 rfl) ?_
      refine lv_iload_n hC.1 hC.2.1 dX5_poll_37 rfl (lv_at hl 2 rfl) ?_
      refine lv_iload_n hC.1 hC.2.1 dX5_poll_38 rfl (lv_at hl 0 rfl) ?_
      refine x_sipush hC dX5_poll_39 (by decide +kernel) ?_
      refine x_callV hC hw (lv_size hl) (c_X5_set l G h_12 (p0 := p0) (by omega) (p1 := z_15) (by omega) (p2 := (-10000)) (by omega) (by omega) (by omega) (by omega) (fun q9 => absurd rfl q9)) gX5_poll_X5_set rfl dv_X5_set h_12.1.1 rfl rfl (Nat.le_of_ble_eq_true rfl) (by rw [hRf]; decide) (by rw [hRl]; decide) (by omega) (by omega) dX5_poll_42 (fun r9 M_17 H locs hq hw => ?_)
      obtain ⟨z_18, rfl, hz_18a, hz_18b, hx5k_19, brk_19, fvvk_19, hRk_19⟩ := hq
      have h_20 := hIk_11.x5 hx5k_19
      show W p l e R s m args below meth c H locs _ _ _ (F0 m 45 ls [.int (iN (z_18))])
      refine lv_pop hC.1 hC.2.1 dX5_poll_45 rfl ?_
      refine lv_iload_n hC.1 hC.2.1 dX5_poll_46 rfl (lv_at hl 0 rfl) ?_
      exact x_iret hC hw dX5_poll_47 (by omega) (by omega) ⟨z_15, rfl, by omega, ⟨_, _, _, _, _, _, _, _, _, _, _, _, _, _, _, _, _, _, _, _, hRk_19⟩⟩
  · refine x_const hC dX5_poll_12 ?_
    exact x_iret hC hw dX5_poll_13 (by omega) (by omega) ⟨0, rfl, by omega, ⟨_, _, _, _, _, _, _, _, _, _, _, _, _, _, _, _, _, _, _, _, hRk_5⟩⟩
set_option maxHeartbeats 4000000 in
set_option maxRecDepth 100000 in
theorem c_X5_raise (l : Launch) (G : xG) {M : HM} {a va oa wa ya : Nat} {wk : Option Nat} {th rfd br re la ha kp kv : Int32} {qv qw : Nat → Nat} {fa fb : Nat → Option Nat} {fvv fw : Nat → Nat → Int32} {fo : Nat → Int32} {fy : Nat → Option Nat} {S : Nat → Bool} (hR : MGx G M a va oa wa ya wk th rfd br re la ha kp kv qv qw fa fb fvv fw fo fy S) {p0 : Int} (hp0 : -2147483648 ≤ p0 ∧ p0 ≤ 2147483647) {p1 : Int} (hp1 : -2147483648 ≤ p1 ∧ p1 ≤ 2147483647) : xMet l G yX5_raise wsX5_raise 2 44 0 0 [.ref a, .int (iN (p0)), .int (iN (p1))] M (fun r M1 => ∃ z : Int, r = some (.int (iN z)) ∧ (-2147483648 ≤ z ∧ z ≤ 2147483647) ∧ MGm G M1 a rfd S) := by
  refine x_intro (cc := cX5_raise) (maxL := 6) (ret := (some .int)) (by decide +kernel) rfl (Nat.le_of_ble_eq_true rfl) ?_
  intro p e R s m args below meth c ls hRf hRc hRs hRl hC hw hl
  have hinX5 : ∀ w ∈ wsX50, w ∈ wsX5_raise := by decide +kernel
  have hl : lv_has ls 6 [(0, .ref a), (1, .int (iN (p0))), (2, .int (iN (p1)))] := hl
  refine lv_aload_n hC.1 hC.2.1 dX5_raise_0 rfl (lv_at hl 0 rfl) ?_
  refine lv_iload_n hC.1 hC.2.1 dX5_raise_1 rfl (lv_at hl 1 rfl) ?_
  refine x_callS hC hw (lv_size hl) (c_X5_isNoBook l G (M := M) (p0 := p0) (by omega)) gX5_raise_X5_isNoBook rfl dv_X5_isNoBook_s rfl (Nat.le_of_ble_eq_true rfl) (by rw [hRf]; decide) (by rw [hRl]; decide) (by omega) (by omega) dX5_raise_2 (fun r9 M_1 H locs hq hw => ?_)
  obtain ⟨z_2, rfl, hM9, hz_2a, hz_2b⟩ := hq
  rw [hM9] at hw
  show W p l e R s m args below meth c H locs _ _ _ (F0 m 5 ls [.int (iN (z_2)), .ref a])
  refine x_const hC dX5_raise_5 ?_
  refine x_callV hC hw (lv_size hl) (c_X5_start l G hR (p0 := z_2) (by omega) (p1 := 1) (by omega) (by omega)) gX5_raise_X5_start rfl dv_X5_start hR.1.1 rfl rfl (Nat.le_of_ble_eq_true rfl) (by rw [hRf]; decide) (by rw [hRl]; decide) (by omega) (by omega) dX5_raise_6 (fun r9 M_3 H locs hq hw => ?_)
  obtain ⟨z_4, rfl, hz_4a, hz_4b, thk_5, hRk_5⟩ := hq
  show W p l e R s m args below meth c H locs _ _ _ (F0 m 9 ls [.int (iN (z_4))])
  refine x_if_ne (tgt := 38) hC ⟨by omega, by omega⟩ dX5_raise_9 (by decide) (fun c_6 => ?_) (fun c_6 => ?_)
  · refine x_const hC dX5_raise_38 ?_
    exact x_iret hC hw dX5_raise_39 (by omega) (by omega) ⟨0, rfl, by omega, ⟨_, _, _, _, _, _, _, _, _, _, _, _, _, _, _, _, _, _, _, _, hRk_5⟩⟩
  · refine lv_aload_n hC.1 hC.2.1 dX5_raise_12 rfl (lv_at hl 0 rfl) ?_
    refine lv_iload_n hC.1 hC.2.1 dX5_raise_13 rfl (lv_at hl 2 rfl) ?_
    refine x_sipush hC dX5_raise_14 (by decide +kernel) ?_
    refine x_sipush hC dX5_raise_17 (by decide +kernel) ?_
    refine x_callS hC hw (lv_size hl) (c_X5_isIn l G (M := M_3) (p0 := p1) (by omega) (p1 := (-999)) (by omega) (p2 := 999) (by omega)) gX5_raise_X5_isIn rfl dv_X5_isIn_s rfl (Nat.le_of_ble_eq_true rfl) (by rw [hRf]; decide) (by rw [hRl]; decide) (by omega) (by omega) dX5_raise_20 (fun r9 M_7 H locs hq hw => ?_)
    obtain ⟨z_8, rfl, hM9, hz_8a, hz_8b, hz_8c⟩ := hq
    rw [hM9] at hw
    show W p l e R s m args below meth c H locs _ _ _ (F0 m 23 ls [.int (iN (z_8)), .ref a])
    refine x_if_ne (tgt := 30) hC ⟨by omega, by omega⟩ dX5_raise_23 (by decide) (fun c_9 => ?_) (fun c_9 => ?_)
    · refine x_const hC dX5_raise_30 ?_
      refine x_const hC dX5_raise_31 ?_
      refine x_callV hC hw (lv_size hl) (c_X5_refuse l G hRk_5 (p0 := 0) (by omega) (p1 := 2) (by omega) (by omega)) gX5_raise_X5_refuse rfl dv_X5_refuse hRk_5.1.1 rfl rfl (Nat.le_of_ble_eq_true rfl) (by rw [hRf]; decide) (by rw [hRl]; decide) (by omega) (by omega) dX5_raise_32 (fun r9 M_10 H locs hq hw => ?_)
      obtain ⟨z_11, rfl, hz_11a, hz_11b, thk_12, hRk_12⟩ := hq
      show W p l e R s m args below meth c H locs _ _ _ (F0 m 35 ls [.int (iN (z_11))])
      refine x_if_eq (tgt := 40) hC ⟨by omega, by omega⟩ dX5_raise_35 (by decide) (fun c_13 => ?_) (fun c_13 => ?_)
      · refine lv_aload_n hC.1 hC.2.1 dX5_raise_40 rfl (lv_at hl 0 rfl) ?_
        refine lv_iload_n hC.1 hC.2.1 dX5_raise_41 rfl (lv_at hl 1 rfl) ?_
        refine x_callV hC hw (lv_size hl) (c_X5_touch l G hRk_12 (p0 := p0) (by omega)) gX5_raise_X5_touch rfl dv_X5_touch hRk_12.1.1 rfl rfl (Nat.le_of_ble_eq_true rfl) (by rw [hRf]; decide) (by rw [hRl]; decide) (by omega) (by omega) dX5_raise_42 (fun r9 M_14 H locs hq hw => ?_)
        obtain ⟨rfl, hak_16, hRk_16⟩ := hq
        show W p l e R s m args below meth c H locs _ _ _ (F0 m 45 ls [])
        refine x_const hC dX5_raise_45 ?_
        refine lv_istore_n (lv' := [(3, .int (iN (0))), (0, .ref a), (1, .int (iN (p0))), (2, .int (iN (p1)))]) hC.1 hC.2.1 dX5_raise_46 rfl hl (by decide) rfl (fun ls hl => ?_)
        refine x_const hC dX5_raise_47 ?_
        refine lv_istore (lv' := [(4, .int (iN (0))), (3, .int (iN (0))), (0, .ref a), (1, .int (iN (p0))), (2, .int (iN (p1)))]) hC.1 hC.2.1 dX5_raise_48 hl (by decide) rfl (fun ls hl => ?_)
        suffices hloop50 : ∀ (n9 : Nat) (n : Int) (j : Int) (M1 : HM) (br1 : Int32) (fvv1 : Nat → Nat → Int32) (hR1 : MGx G M1 a va oa wa ya wk thk_12 rfd br1 re la hak_16 kp kv qv qw fa fb fvv1 fw fo fy S) (H : Heap) (locs : List Loc) (ls : Array Slot), (hmu : (100 - j).toNat < n9) → (hi0 : 0 ≤ j ∧ j ≤ 100) → (hi1 : 0 ≤ n ∧ n ≤ j) → xD G (xA M s.heap.size) s M1 H locs → lv_has ls 6 [(0, .ref a), (1, .int (iN (p0))), (2, .int (iN (p1))), (3, .int (iN (n))), (4, .int (iN (j)))] → W p l e R s m args below meth c H locs _ _ _ (F0 m 50 ls []) by
          exact hloop50 _ 0 0 _ _ _ hRk_16 _ _ _ (Nat.lt_succ_self _) (by omega) (by omega) hw (lv_sub hl [2, 3, 4, 1, 0] rfl)
        intro n9
        induction n9 with
        | zero => intro n j M1 br1 fvv1 hR1 H locs ls hmu; exact absurd hmu (Nat.not_lt_zero _)
        | succ n9 ih50 =>
          intro n j M1 br1 fvv1 hR1 H locs ls hmu hi0 hi1 hw hl
          refine lv_iload hC.1 hC.2.1 dX5_raise_50 (lv_at hl 4 rfl) ?_
          refine x_bipush hC dX5_raise_52 (by decide +kernel) ?_
          refine x_icmp_ge (tgt := 125) hC ⟨by omega, by omega⟩ ⟨by omega, by omega⟩ dX5_raise_54 (by decide) (fun c_17 => ?_) (fun c_17 => ?_)
          · refine lv_iload_n hC.1 hC.2.1 dX5_raise_125 rfl (lv_at hl 3 rfl) ?_
            exact x_iret hC hw dX5_raise_126 (by omega) (by omega) ⟨n, rfl, by omega, ⟨_, _, _, _, _, _, _, _, _, _, _, _, _, _, _, _, _, _, _, _, hR1⟩⟩
          · refine lv_aload_n hC.1 hC.2.1 dX5_raise_57 rfl (lv_at hl 0 rfl) ?_
            refine x_get hC hw hR1.1.1 rfl hinX5 2 (by decide) (by decide +kernel) rfl dX5_raise_58 ?_
            refine lv_iload_n hC.1 hC.2.1 dX5_raise_61 rfl (lv_at hl 1 rfl) ?_
            refine x_ald4 hC hw hR1.1.2.1 (by omega) (by omega) (by omega) dX5_raise_62 ?_
            rw [hR1.fa' (show (p0).toNat < 3 by omega)]
            show W p l e R s m args below meth c _ _ _ _ _ (F0 m 63 ls [.ref (qv (p0).toNat)])
            refine lv_iload hC.1 hC.2.1 dX5_raise_63 (lv_at hl 4 rfl) ?_
            refine x_iald hC hw (hR1.rv (show (p0).toNat < 3 by omega)) (by omega) (by omega) (by omega) dX5_raise_65 ?_
            obtain ⟨z_18, hz_18⟩ : ∃ z : Int, z = ((fvv1 (p0).toNat) (j).toNat).toInt := ⟨_, rfl⟩
            rw [← hz_18]
            have hrz_18 : -10000 ≤ z_18 ∧ z_18 ≤ 9999 := by rw [hz_18]; exact hR1.vr (by omega) (by omega)
            have hpz_18 : z_18 ≠ -10000 → S (j).toNat = true := by rw [hz_18]; exact hR1.vs (by omega) (by omega)
            refine lv_istore (lv' := [(5, .int (iN (z_18))), (0, .ref a), (1, .int (iN (p0))), (2, .int (iN (p1))), (3, .int (iN (n))), (4, .int (iN (j)))]) hC.1 hC.2.1 dX5_raise_66 hl (by decide) rfl (fun ls hl => ?_)
            refine lv_iload hC.1 hC.2.1 dX5_raise_68 (lv_at hl 0 rfl) ?_
            refine x_sipush hC dX5_raise_70 (by decide +kernel) ?_
            refine x_icmp_ne (tgt := 79) hC ⟨by omega, by omega⟩ ⟨by omega, by omega⟩ dX5_raise_73 (by decide) (fun c_19 => ?_) (fun c_19 => ?_)
            · refine lv_aload_n hC.1 hC.2.1 dX5_raise_79 rfl (lv_at hl 1 rfl) ?_
              refine lv_iload_n hC.1 hC.2.1 dX5_raise_80 rfl (lv_at hl 2 rfl) ?_
              refine lv_iload hC.1 hC.2.1 dX5_raise_81 (lv_at hl 5 rfl) ?_
              refine lv_iload hC.1 hC.2.1 dX5_raise_83 (lv_at hl 0 rfl) ?_
              refine lv_iload_n hC.1 hC.2.1 dX5_raise_85 rfl (lv_at hl 3 rfl) ?_
              refine x_iadd hC dX5_raise_86 ?_
              obtain ⟨z_20, hz_20, hrz_20⟩ := x_nrm (z_18 + p1)
              rw [hz_20]
              refine x_callS hC hw (lv_size hl) (c_X5_held l G (M := M1) (p0 := z_20) (by omega)) gX5_raise_X5_held rfl dv_X5_held_s rfl (Nat.le_of_ble_eq_true rfl) (by rw [hRf]; decide) (by rw [hRl]; decide) (by omega) (by omega) dX5_raise_87 (fun r9 M_21 H locs hq hw => ?_)
              obtain ⟨z_22, rfl, hM9, hz_22a⟩ := hq
              rw [hM9] at hw
              show W p l e R s m args below meth c H locs _ _ _ (F0 m 90 ls [.int (iN (z_22)), .int (iN (j)), .int (iN (p0)), .ref a])
              refine x_callV hC hw (lv_size hl) (c_X5_set l G hR1 (p0 := p0) (by omega) (p1 := j) (by omega) (p2 := z_22) (by omega) (by omega) (by omega) (by omega) (by intro q9; first | exact absurd rfl q9 | assumption | exact hpz_18 q9 | exact hpz_18 (by omega))) gX5_raise_X5_set rfl dv_X5_set hR1.1.1 rfl rfl (Nat.le_of_ble_eq_true rfl) (by rw [hRf]; decide) (by rw [hRl]; decide) (by omega) (by omega) dX5_raise_90 (fun r9 M_23 H locs hq hw => ?_)
              obtain ⟨z_24, rfl, hz_24a, hz_24b, hx5k_25, brk_25, fvvk_25, hRk_25⟩ := hq
              show W p l e R s m args below meth c H locs _ _ _ (F0 m 93 ls [.int (iN (z_24))])
              refine lv_pop hC.1 hC.2.1 dX5_raise_93 rfl ?_
              refine lv_iload_n hC.1 hC.2.1 dX5_raise_94 rfl (lv_at hl 4 rfl) ?_
              refine lv_aload_n hC.1 hC.2.1 dX5_raise_95 rfl (lv_at hl 1 rfl) ?_
              refine x_get hC hw hRk_25.1.1 rfl hinX5 2 (by decide) (by decide +kernel) rfl dX5_raise_96 ?_
              refine lv_iload_n hC.1 hC.2.1 dX5_raise_99 rfl (lv_at hl 2 rfl) ?_
              refine x_ald4 hC hw hRk_25.1.2.1 (by omega) (by omega) (by omega) dX5_raise_100 ?_
              rw [hRk_25.fa' (show (p0).toNat < 3 by omega)]
              show W p l e R s m args below meth c _ _ _ _ _ (F0 m 101 ls [.ref (qv (p0).toNat), .int (iN (n))])
              refine lv_iload hC.1 hC.2.1 dX5_raise_101 (lv_at hl 5 rfl) ?_
              refine x_iald hC hw (hRk_25.rv (show (p0).toNat < 3 by omega)) (by omega) (by omega) (by omega) dX5_raise_103 ?_
              obtain ⟨z_26, hz_26⟩ : ∃ z : Int, z = ((fvvk_25 (p0).toNat) (j).toNat).toInt := ⟨_, rfl⟩
              rw [← hz_26]
              have hrz_26 : -10000 ≤ z_26 ∧ z_26 ≤ 9999 := by rw [hz_26]; exact hRk_25.vr (by omega) (by omega)
              have hpz_26 : z_26 ≠ -10000 → S (j).toNat = true := by rw [hz_26]; exact hRk_25.vs (by omega) (by omega)
              refine lv_iload hC.1 hC.2.1 dX5_raise_104 (lv_at hl 0 rfl) ?_
              refine x_icmp_eq (tgt := 113) hC ⟨by omega, by omega⟩ ⟨by omega, by omega⟩ dX5_raise_106 (by decide) (fun c_27 => ?_) (fun c_27 => ?_)
              · refine x_const hC dX5_raise_113 ?_
                refine x_callS hC hw (lv_size hl) (c_X5_one l G (M := M_23) (p0 := 0) (by omega)) gX5_raise_X5_one rfl dv_X5_one_s rfl (Nat.le_of_ble_eq_true rfl) (by rw [hRf]; decide) (by rw [hRl]; decide) (by omega) (by omega) dX5_raise_114 (fun r9 M_28 H locs hq hw => ?_)
                obtain ⟨z_29, rfl, hM9, hz_29a, hz_29b⟩ := hq
                rw [hM9] at hw
                show W p l e R s m args below meth c H locs _ _ _ (F0 m 117 ls [.int (iN (z_29)), .int (iN (n))])
                refine x_iadd hC dX5_raise_117 ?_
                refine lv_istore_n (lv' := [(3, .int (iN (n + z_29))), (5, .int (iN (z_18))), (0, .ref a), (1, .int (iN (p0))), (2, .int (iN (p1))), (4, .int (iN (j)))]) hC.1 hC.2.1 dX5_raise_118 rfl hl (by decide) rfl (fun ls hl => ?_)
                refine x_iinc (lv' := [(4, .int (iN (j + 1))), (3, .int (iN (n + z_29))), (5, .int (iN (z_18))), (0, .ref a), (1, .int (iN (p0))), (2, .int (iN (p1)))]) hC dX5_raise_119 hl (k := 5) rfl (by decide) rfl (fun ls hl => ?_)
                refine lv_goto (tgt := 50) hC.1 hC.2.1 dX5_raise_122 (by decide) ?_
                exact ih50 (n + z_29) (j + 1) _ _ _ hRk_25 _ _ _ (by omega) (by omega) (by omega) hw (lv_sub hl [3, 4, 5, 1, 0] rfl)
              · refine x_const hC dX5_raise_109 ?_
                refine lv_goto (tgt := 114) hC.1 hC.2.1 dX5_raise_110 (by decide) ?_
                refine x_callS hC hw (lv_size hl) (c_X5_one l G (M := M_23) (p0 := 1) (by omega)) gX5_raise_X5_one rfl dv_X5_one_s rfl (Nat.le_of_ble_eq_true rfl) (by rw [hRf]; decide) (by rw [hRl]; decide) (by omega) (by omega) dX5_raise_114 (fun r9 M_30 H locs hq hw => ?_)
                obtain ⟨z_31, rfl, hM9, hz_31a, hz_31b⟩ := hq
                rw [hM9] at hw
                show W p l e R s m args below meth c H locs _ _ _ (F0 m 117 ls [.int (iN (z_31)), .int (iN (n))])
                refine x_iadd hC dX5_raise_117 ?_
                refine lv_istore_n (lv' := [(3, .int (iN (n + z_31))), (5, .int (iN (z_18))), (0, .ref a), (1, .int (iN (p0))), (2, .int (iN (p1))), (4, .int (iN (j)))]) hC.1 hC.2.1 dX5_raise_118 rfl hl (by decide) rfl (fun ls hl => ?_)
                refine x_iinc (lv' := [(4, .int (iN (j + 1))), (3, .int (iN (n + z_31))), (5, .int (iN (z_18))), (0, .ref a), (1, .int (iN (p0))), (2, .int (iN (p1)))]) hC dX5_raise_119 hl (k := 5) rfl (by decide) rfl (fun ls hl => ?_)
                refine lv_goto (tgt := 50) hC.1 hC.2.1 dX5_raise_122 (by decide) ?_
                exact ih50 (n + z_31) (j + 1) _ _ _ hRk_25 _ _ _ (by omega) (by omega) (by omega) hw (lv_sub hl [3, 4, 5, 1, 0] rfl)
            · refine lv_goto (tgt := 119) hC.1 hC.2.1 dX5_raise_76 (by decide) ?_
              refine x_iinc (lv' := [(4, .int (iN (j + 1))), (5, .int (iN (z_18))), (0, .ref a), (1, .int (iN (p0))), (2, .int (iN (p1))), (3, .int (iN (n)))]) hC dX5_raise_119 hl (k := 5) rfl (by decide) rfl (fun ls hl => ?_)
              refine lv_goto (tgt := 50) hC.1 hC.2.1 dX5_raise_122 (by decide) ?_
              exact ih50 n (j + 1) _ _ _ hR1 _ _ _ (by omega) (by omega) (by omega) hw (lv_sub hl [2, 3, 4, 5, 0] rfl)
      · refine x_const hC dX5_raise_38 ?_
        exact x_iret hC hw dX5_raise_39 (by omega) (by omega) ⟨0, rfl, by omega, ⟨_, _, _, _, _, _, _, _, _, _, _, _, _, _, _, _, _, _, _, _, hRk_12⟩⟩
    · refine x_const hC dX5_raise_26 ?_
      refine lv_goto (tgt := 31) hC.1 hC.2.1 dX5_raise_27 (by decide) ?_
      refine x_const hC dX5_raise_31 ?_
      refine x_callV hC hw (lv_size hl) (c_X5_refuse l G hRk_5 (p0 := 1) (by omega) (p1 := 2) (by omega) (by omega)) gX5_raise_X5_refuse rfl dv_X5_refuse hRk_5.1.1 rfl rfl (Nat.le_of_ble_eq_true rfl) (by rw [hRf]; decide) (by rw [hRl]; decide) (by omega) (by omega) dX5_raise_32 (fun r9 M_32 H locs hq hw => ?_)
      obtain ⟨z_33, rfl, hz_33a, hz_33b, thk_34, hRk_34⟩ := hq
      show W p l e R s m args below meth c H locs _ _ _ (F0 m 35 ls [.int (iN (z_33))])
      refine x_if_eq (tgt := 40) hC ⟨by omega, by omega⟩ dX5_raise_35 (by decide) (fun c_35 => ?_) (fun c_35 => ?_)
      · refine lv_aload_n hC.1 hC.2.1 dX5_raise_40 rfl (lv_at hl 0 rfl) ?_
        refine lv_iload_n hC.1 hC.2.1 dX5_raise_41 rfl (lv_at hl 1 rfl) ?_
        refine x_callV hC hw (lv_size hl) (c_X5_touch l G hRk_34 (p0 := p0) (by omega)) gX5_raise_X5_touch rfl dv_X5_touch hRk_34.1.1 rfl rfl (Nat.le_of_ble_eq_true rfl) (by rw [hRf]; decide) (by rw [hRl]; decide) (by omega) (by omega) dX5_raise_42 (fun r9 M_36 H locs hq hw => ?_)
        obtain ⟨rfl, hak_38, hRk_38⟩ := hq
        show W p l e R s m args below meth c H locs _ _ _ (F0 m 45 ls [])
        refine x_const hC dX5_raise_45 ?_
        refine lv_istore_n (lv' := [(3, .int (iN (0))), (0, .ref a), (1, .int (iN (p0))), (2, .int (iN (p1)))]) hC.1 hC.2.1 dX5_raise_46 rfl hl (by decide) rfl (fun ls hl => ?_)
        refine x_const hC dX5_raise_47 ?_
        refine lv_istore (lv' := [(4, .int (iN (0))), (3, .int (iN (0))), (0, .ref a), (1, .int (iN (p0))), (2, .int (iN (p1)))]) hC.1 hC.2.1 dX5_raise_48 hl (by decide) rfl (fun ls hl => ?_)
        suffices hloop50 : ∀ (n9 : Nat) (n : Int) (j : Int) (M1 : HM) (br1 : Int32) (fvv1 : Nat → Nat → Int32) (hR1 : MGx G M1 a va oa wa ya wk thk_34 rfd br1 re la hak_38 kp kv qv qw fa fb fvv1 fw fo fy S) (H : Heap) (locs : List Loc) (ls : Array Slot), (hmu : (100 - j).toNat < n9) → (hi0 : 0 ≤ j ∧ j ≤ 100) → (hi1 : 0 ≤ n ∧ n ≤ j) → xD G (xA M s.heap.size) s M1 H locs → lv_has ls 6 [(0, .ref a), (1, .int (iN (p0))), (2, .int (iN (p1))), (3, .int (iN (n))), (4, .int (iN (j)))] → W p l e R s m args below meth c H locs _ _ _ (F0 m 50 ls []) by
          exact hloop50 _ 0 0 _ _ _ hRk_38 _ _ _ (Nat.lt_succ_self _) (by omega) (by omega) hw (lv_sub hl [2, 3, 4, 1, 0] rfl)
        intro n9
        induction n9 with
        | zero => intro n j M1 br1 fvv1 hR1 H locs ls hmu; exact absurd hmu (Nat.not_lt_zero _)
        | succ n9 ih50 =>
          intro n j M1 br1 fvv1 hR1 H locs ls hmu hi0 hi1 hw hl
          refine lv_iload hC.1 hC.2.1 dX5_raise_50 (lv_at hl 4 rfl) ?_
          refine x_bipush hC dX5_raise_52 (by decide +kernel) ?_
          refine x_icmp_ge (tgt := 125) hC ⟨by omega, by omega⟩ ⟨by omega, by omega⟩ dX5_raise_54 (by decide) (fun c_39 => ?_) (fun c_39 => ?_)
          · refine lv_iload_n hC.1 hC.2.1 dX5_raise_125 rfl (lv_at hl 3 rfl) ?_
            exact x_iret hC hw dX5_raise_126 (by omega) (by omega) ⟨n, rfl, by omega, ⟨_, _, _, _, _, _, _, _, _, _, _, _, _, _, _, _, _, _, _, _, hR1⟩⟩
          · refine lv_aload_n hC.1 hC.2.1 dX5_raise_57 rfl (lv_at hl 0 rfl) ?_
            refine x_get hC hw hR1.1.1 rfl hinX5 2 (by decide) (by decide +kernel) rfl dX5_raise_58 ?_
            refine lv_iload_n hC.1 hC.2.1 dX5_raise_61 rfl (lv_at hl 1 rfl) ?_
            refine x_ald4 hC hw hR1.1.2.1 (by omega) (by omega) (by omega) dX5_raise_62 ?_
            rw [hR1.fa' (show (p0).toNat < 3 by omega)]
            show W p l e R s m args below meth c _ _ _ _ _ (F0 m 63 ls [.ref (qv (p0).toNat)])
            refine lv_iload hC.1 hC.2.1 dX5_raise_63 (lv_at hl 4 rfl) ?_
            refine x_iald hC hw (hR1.rv (show (p0).toNat < 3 by omega)) (by omega) (by omega) (by omega) dX5_raise_65 ?_
            obtain ⟨z_40, hz_40⟩ : ∃ z : Int, z = ((fvv1 (p0).toNat) (j).toNat).toInt := ⟨_, rfl⟩
            rw [← hz_40]
            have hrz_40 : -10000 ≤ z_40 ∧ z_40 ≤ 9999 := by rw [hz_40]; exact hR1.vr (by omega) (by omega)
            have hpz_40 : z_40 ≠ -10000 → S (j).toNat = true := by rw [hz_40]; exact hR1.vs (by omega) (by omega)
            refine lv_istore (lv' := [(5, .int (iN (z_40))), (0, .ref a), (1, .int (iN (p0))), (2, .int (iN (p1))), (3, .int (iN (n))), (4, .int (iN (j)))]) hC.1 hC.2.1 dX5_raise_66 hl (by decide) rfl (fun ls hl => ?_)
            refine lv_iload hC.1 hC.2.1 dX5_raise_68 (lv_at hl 0 rfl) ?_
            refine x_sipush hC dX5_raise_70 (by decide +kernel) ?_
            refine x_icmp_ne (tgt := 79) hC ⟨by omega, by omega⟩ ⟨by omega, by omega⟩ dX5_raise_73 (by decide) (fun c_41 => ?_) (fun c_41 => ?_)
            · refine lv_aload_n hC.1 hC.2.1 dX5_raise_79 rfl (lv_at hl 1 rfl) ?_
              refine lv_iload_n hC.1 hC.2.1 dX5_raise_80 rfl (lv_at hl 2 rfl) ?_
              refine lv_iload hC.1 hC.2.1 dX5_raise_81 (lv_at hl 5 rfl) ?_
              refine lv_iload hC.1 hC.2.1 dX5_raise_83 (lv_at hl 0 rfl) ?_
              refine lv_iload_n hC.1 hC.2.1 dX5_raise_85 rfl (lv_at hl 3 rfl) ?_
              refine x_iadd hC dX5_raise_86 ?_
              obtain ⟨z_42, hz_42, hrz_42⟩ := x_nrm (z_40 + p1)
              rw [hz_42]
              refine x_callS hC hw (lv_size hl) (c_X5_held l G (M := M1) (p0 := z_42) (by omega)) gX5_raise_X5_held rfl dv_X5_held_s rfl (Nat.le_of_ble_eq_true rfl) (by rw [hRf]; decide) (by rw [hRl]; decide) (by omega) (by omega) dX5_raise_87 (fun r9 M_43 H locs hq hw => ?_)
              obtain ⟨z_44, rfl, hM9, hz_44a⟩ := hq
              rw [hM9] at hw
              show W p l e R s m args below meth c H locs _ _ _ (F0 m 90 ls [.int (iN (z_44)), .int (iN (j)), .int (iN (p0)), .ref a])
              refine x_callV hC hw (lv_size hl) (c_X5_set l G hR1 (p0 := p0) (by omega) (p1 := j) (by omega) (p2 := z_44) (by omega) (by omega) (by omega) (by omega) (by intro q9; first | exact absurd rfl q9 | assumption | exact hpz_40 q9 | exact hpz_40 (by omega))) gX5_raise_X5_set rfl dv_X5_set hR1.1.1 rfl rfl (Nat.le_of_ble_eq_true rfl) (by rw [hRf]; decide) (by rw [hRl]; decide) (by omega) (by omega) dX5_raise_90 (fun r9 M_45 H locs hq hw => ?_)
              obtain ⟨z_46, rfl, hz_46a, hz_46b, hx5k_47, brk_47, fvvk_47, hRk_47⟩ := hq
              show W p l e R s m args below meth c H locs _ _ _ (F0 m 93 ls [.int (iN (z_46))])
              refine lv_pop hC.1 hC.2.1 dX5_raise_93 rfl ?_
              refine lv_iload_n hC.1 hC.2.1 dX5_raise_94 rfl (lv_at hl 4 rfl) ?_
              refine lv_aload_n hC.1 hC.2.1 dX5_raise_95 rfl (lv_at hl 1 rfl) ?_
              refine x_get hC hw hRk_47.1.1 rfl hinX5 2 (by decide) (by decide +kernel) rfl dX5_raise_96 ?_
              refine lv_iload_n hC.1 hC.2.1 dX5_raise_99 rfl (lv_at hl 2 rfl) ?_
              refine x_ald4 hC hw hRk_47.1.2.1 (by omega) (by omega) (by omega) dX5_raise_100 ?_
              rw [hRk_47.fa' (show (p0).toNat < 3 by omega)]
              show W p l e R s m args below meth c _ _ _ _ _ (F0 m 101 ls [.ref (qv (p0).toNat), .int (iN (n))])
              refine lv_iload hC.1 hC.2.1 dX5_raise_101 (lv_at hl 5 rfl) ?_
              refine x_iald hC hw (hRk_47.rv (show (p0).toNat < 3 by omega)) (by omega) (by omega) (by omega) dX5_raise_103 ?_
              obtain ⟨z_48, hz_48⟩ : ∃ z : Int, z = ((fvvk_47 (p0).toNat) (j).toNat).toInt := ⟨_, rfl⟩
              rw [← hz_48]
              have hrz_48 : -10000 ≤ z_48 ∧ z_48 ≤ 9999 := by rw [hz_48]; exact hRk_47.vr (by omega) (by omega)
              have hpz_48 : z_48 ≠ -10000 → S (j).toNat = true := by rw [hz_48]; exact hRk_47.vs (by omega) (by omega)
              refine lv_iload hC.1 hC.2.1 dX5_raise_104 (lv_at hl 0 rfl) ?_
              refine x_icmp_eq (tgt := 113) hC ⟨by omega, by omega⟩ ⟨by omega, by omega⟩ dX5_raise_106 (by decide) (fun c_49 => ?_) (fun c_49 => ?_)
              · refine x_const hC dX5_raise_113 ?_
                refine x_callS hC hw (lv_size hl) (c_X5_one l G (M := M_45) (p0 := 0) (by omega)) gX5_raise_X5_one rfl dv_X5_one_s rfl (Nat.le_of_ble_eq_true rfl) (by rw [hRf]; decide) (by rw [hRl]; decide) (by omega) (by omega) dX5_raise_114 (fun r9 M_50 H locs hq hw => ?_)
                obtain ⟨z_51, rfl, hM9, hz_51a, hz_51b⟩ := hq
                rw [hM9] at hw
                show W p l e R s m args below meth c H locs _ _ _ (F0 m 117 ls [.int (iN (z_51)), .int (iN (n))])
                refine x_iadd hC dX5_raise_117 ?_
                refine lv_istore_n (lv' := [(3, .int (iN (n + z_51))), (5, .int (iN (z_40))), (0, .ref a), (1, .int (iN (p0))), (2, .int (iN (p1))), (4, .int (iN (j)))]) hC.1 hC.2.1 dX5_raise_118 rfl hl (by decide) rfl (fun ls hl => ?_)
                refine x_iinc (lv' := [(4, .int (iN (j + 1))), (3, .int (iN (n + z_51))), (5, .int (iN (z_40))), (0, .ref a), (1, .int (iN (p0))), (2, .int (iN (p1)))]) hC dX5_raise_119 hl (k := 5) rfl (by decide) rfl (fun ls hl => ?_)
                refine lv_goto (tgt := 50) hC.1 hC.2.1 dX5_raise_122 (by decide) ?_
                exact ih50 (n + z_51) (j + 1) _ _ _ hRk_47 _ _ _ (by omega) (by omega) (by omega) hw (lv_sub hl [3, 4, 5, 1, 0] rfl)
              · refine x_const hC dX5_raise_109 ?_
                refine lv_goto (tgt := 114) hC.1 hC.2.1 dX5_raise_110 (by decide) ?_
                refine x_callS hC hw (lv_size hl) (c_X5_one l G (M := M_45) (p0 := 1) (by omega)) gX5_raise_X5_one rfl dv_X5_one_s rfl (Nat.le_of_ble_eq_true rfl) (by rw [hRf]; decide) (by rw [hRl]; decide) (by omega) (by omega) dX5_raise_114 (fun r9 M_52 H locs hq hw => ?_)
                obtain ⟨z_53, rfl, hM9, hz_53a, hz_53b⟩ := hq
                rw [hM9] at hw
                show W p l e R s m args below meth c H locs _ _ _ (F0 m 117 ls [.int (iN (z_53)), .int (iN (n))])
                refine x_iadd hC dX5_raise_117 ?_
                refine lv_istore_n (lv' := [(3, .int (iN (n + z_53))), (5, .int (iN (z_40))), (0, .ref a), (1, .int (iN (p0))), (2, .int (iN (p1))), (4, .int (iN (j)))]) hC.1 hC.2.1 dX5_raise_118 rfl hl (by decide) rfl (fun ls hl => ?_)
                refine x_iinc (lv' := [(4, .int (iN (j + 1))), (3, .int (iN (n + z_53))), (5, .int (iN (z_40))), (0, .ref a), (1, .int (iN (p0))), (2, .int (iN (p1)))]) hC dX5_raise_119 hl (k := 5) rfl (by decide) rfl (fun ls hl => ?_)
                refine lv_goto (tgt := 50) hC.1 hC.2.1 dX5_raise_122 (by decide) ?_
                exact ih50 (n + z_53) (j + 1) _ _ _ hRk_47 _ _ _ (by omega) (by omega) (by omega) hw (lv_sub hl [3, 4, 5, 1, 0] rfl)
            · refine lv_goto (tgt := 119) hC.1 hC.2.1 dX5_raise_76 (by decide) ?_
              refine x_iinc (lv' := [(4, .int (iN (j + 1))), (5, .int (iN (z_40))), (0, .ref a), (1, .int (iN (p0))), (2, .int (iN (p1))), (3, .int (iN (n)))]) hC dX5_raise_119 hl (k := 5) rfl (by decide) rfl (fun ls hl => ?_)
              refine lv_goto (tgt := 50) hC.1 hC.2.1 dX5_raise_122 (by decide) ?_
              exact ih50 n (j + 1) _ _ _ hR1 _ _ _ (by omega) (by omega) (by omega) hw (lv_sub hl [2, 3, 4, 5, 0] rfl)
      · refine x_const hC dX5_raise_38 ?_
        exact x_iret hC hw dX5_raise_39 (by omega) (by omega) ⟨0, rfl, by omega, ⟨_, _, _, _, _, _, _, _, _, _, _, _, _, _, _, _, _, _, _, _, hRk_34⟩⟩
set_option maxHeartbeats 4000000 in
set_option maxRecDepth 100000 in
theorem c_X5_sift (l : Launch) (G : xG) {M : HM} {a va oa wa ya : Nat} {wk : Option Nat} {th rfd br re la ha kp kv : Int32} {qv qw : Nat → Nat} {fa fb : Nat → Option Nat} {fvv fw : Nat → Nat → Int32} {fo : Nat → Int32} {fy : Nat → Option Nat} {S : Nat → Bool} (hR : MGx G M a va oa wa ya wk th rfd br re la ha kp kv qv qw fa fb fvv fw fo fy S) {p0 : Int} (hp0 : -2147483648 ≤ p0 ∧ p0 ≤ 2147483647) {p1 : Int} (hp1 : -2147483648 ≤ p1 ∧ p1 ≤ 2147483647) : xMet l G yX5_sift wsX5_sift 2 44 0 0 [.ref a, .int (iN (p0)), .int (iN (p1))] M (fun r M1 => ∃ z : Int, r = some (.int (iN z)) ∧ (-2147483648 ≤ z ∧ z ≤ 2147483647) ∧ MGm G M1 a rfd S) := by
  refine x_intro (cc := cX5_sift) (maxL := 5) (ret := (some .int)) (by decide +kernel) rfl (Nat.le_of_ble_eq_true rfl) ?_
  intro p e R s m args below meth c ls hRf hRc hRs hRl hC hw hl
  have hinX5 : ∀ w ∈ wsX50, w ∈ wsX5_sift := by decide +kernel
  have hl : lv_has ls 5 [(0, .ref a), (1, .int (iN (p0))), (2, .int (iN (p1)))] := hl
  refine lv_aload_n hC.1 hC.2.1 dX5_sift_0 rfl (lv_at hl 0 rfl) ?_
  refine lv_iload_n hC.1 hC.2.1 dX5_sift_1 rfl (lv_at hl 1 rfl) ?_
  refine x_callS hC hw (lv_size hl) (c_X5_isNoBook l G (M := M) (p0 := p0) (by omega)) gX5_sift_X5_isNoBook rfl dv_X5_isNoBook_s rfl (Nat.le_of_ble_eq_true rfl) (by rw [hRf]; decide) (by rw [hRl]; decide) (by omega) (by omega) dX5_sift_2 (fun r9 M_1 H locs hq hw => ?_)
  obtain ⟨z_2, rfl, hM9, hz_2a, hz_2b⟩ := hq
  rw [hM9] at hw
  show W p l e R s m args below meth c H locs _ _ _ (F0 m 5 ls [.int (iN (z_2)), .ref a])
  refine x_const hC dX5_sift_5 ?_
  refine x_callV hC hw (lv_size hl) (c_X5_start l G hR (p0 := z_2) (by omega) (p1 := 1) (by omega) (by omega)) gX5_sift_X5_start rfl dv_X5_start hR.1.1 rfl rfl (Nat.le_of_ble_eq_true rfl) (by rw [hRf]; decide) (by rw [hRl]; decide) (by omega) (by omega) dX5_sift_6 (fun r9 M_3 H locs hq hw => ?_)
  obtain ⟨z_4, rfl, hz_4a, hz_4b, thk_5, hRk_5⟩ := hq
  show W p l e R s m args below meth c H locs _ _ _ (F0 m 9 ls [.int (iN (z_4))])
  refine x_if_ne (tgt := 35) hC ⟨by omega, by omega⟩ dX5_sift_9 (by decide) (fun c_6 => ?_) (fun c_6 => ?_)
  · refine x_const hC dX5_sift_35 ?_
    exact x_iret hC hw dX5_sift_36 (by omega) (by omega) ⟨0, rfl, by omega, ⟨_, _, _, _, _, _, _, _, _, _, _, _, _, _, _, _, _, _, _, _, hRk_5⟩⟩
  · refine lv_aload_n hC.1 hC.2.1 dX5_sift_12 rfl (lv_at hl 0 rfl) ?_
    refine lv_iload_n hC.1 hC.2.1 dX5_sift_13 rfl (lv_at hl 2 rfl) ?_
    refine x_const hC dX5_sift_14 ?_
    refine x_bipush hC dX5_sift_15 (by decide +kernel) ?_
    refine x_callS hC hw (lv_size hl) (c_X5_isIn l G (M := M_3) (p0 := p1) (by omega) (p1 := 2) (by omega) (p2 := 99) (by omega)) gX5_sift_X5_isIn rfl dv_X5_isIn_s rfl (Nat.le_of_ble_eq_true rfl) (by rw [hRf]; decide) (by rw [hRl]; decide) (by omega) (by omega) dX5_sift_17 (fun r9 M_7 H locs hq hw => ?_)
    obtain ⟨z_8, rfl, hM9, hz_8a, hz_8b, hz_8c⟩ := hq
    rw [hM9] at hw
    show W p l e R s m args below meth c H locs _ _ _ (F0 m 20 ls [.int (iN (z_8)), .ref a])
    refine x_if_ne (tgt := 27) hC ⟨by omega, by omega⟩ dX5_sift_20 (by decide) (fun c_9 => ?_) (fun c_9 => ?_)
    · refine x_const hC dX5_sift_27 ?_
      refine x_const hC dX5_sift_28 ?_
      refine x_callV hC hw (lv_size hl) (c_X5_refuse l G hRk_5 (p0 := 0) (by omega) (p1 := 2) (by omega) (by omega)) gX5_sift_X5_refuse rfl dv_X5_refuse hRk_5.1.1 rfl rfl (Nat.le_of_ble_eq_true rfl) (by rw [hRf]; decide) (by rw [hRl]; decide) (by omega) (by omega) dX5_sift_29 (fun r9 M_10 H locs hq hw => ?_)
      obtain ⟨z_11, rfl, hz_11a, hz_11b, thk_12, hRk_12⟩ := hq
      show W p l e R s m args below meth c H locs _ _ _ (F0 m 32 ls [.int (iN (z_11))])
      refine x_if_eq (tgt := 37) hC ⟨by omega, by omega⟩ dX5_sift_32 (by decide) (fun c_13 => ?_) (fun c_13 => ?_)
      · refine lv_aload_n hC.1 hC.2.1 dX5_sift_37 rfl (lv_at hl 0 rfl) ?_
        refine lv_iload_n hC.1 hC.2.1 dX5_sift_38 rfl (lv_at hl 1 rfl) ?_
        refine x_callV hC hw (lv_size hl) (c_X5_touch l G hRk_12 (p0 := p0) (by omega)) gX5_sift_X5_touch rfl dv_X5_touch hRk_12.1.1 rfl rfl (Nat.le_of_ble_eq_true rfl) (by rw [hRf]; decide) (by rw [hRl]; decide) (by omega) (by omega) dX5_sift_39 (fun r9 M_14 H locs hq hw => ?_)
        obtain ⟨rfl, hak_16, hRk_16⟩ := hq
        show W p l e R s m args below meth c H locs _ _ _ (F0 m 42 ls [])
        refine x_const hC dX5_sift_42 ?_
        refine lv_istore_n (lv' := [(3, .int (iN (0))), (0, .ref a), (1, .int (iN (p0))), (2, .int (iN (p1)))]) hC.1 hC.2.1 dX5_sift_43 rfl hl (by decide) rfl (fun ls hl => ?_)
        refine x_const hC dX5_sift_44 ?_
        refine lv_istore (lv' := [(4, .int (iN (0))), (3, .int (iN (0))), (0, .ref a), (1, .int (iN (p0))), (2, .int (iN (p1)))]) hC.1 hC.2.1 dX5_sift_45 hl (by decide) rfl (fun ls hl => ?_)
        suffices hloop47 : ∀ (n9 : Nat) (n : Int) (j : Int) (M1 : HM) (br1 : Int32) (fvv1 : Nat → Nat → Int32) (hR1 : MGx G M1 a va oa wa ya wk thk_12 rfd br1 re la hak_16 kp kv qv qw fa fb fvv1 fw fo fy S) (H : Heap) (locs : List Loc) (ls : Array Slot), (hmu : (100 - j).toNat < n9) → (hi0 : 0 ≤ j ∧ j ≤ 100) → (hi1 : 0 ≤ n ∧ n ≤ j) → xD G (xA M s.heap.size) s M1 H locs → lv_has ls 5 [(0, .ref a), (1, .int (iN (p0))), (2, .int (iN (p1))), (3, .int (iN (n))), (4, .int (iN (j)))] → W p l e R s m args below meth c H locs _ _ _ (F0 m 47 ls []) by
          exact hloop47 _ 0 0 _ _ _ hRk_16 _ _ _ (Nat.lt_succ_self _) (by omega) (by omega) hw (lv_sub hl [2, 3, 4, 1, 0] rfl)
        intro n9
        induction n9 with
        | zero => intro n j M1 br1 fvv1 hR1 H locs ls hmu; exact absurd hmu (Nat.not_lt_zero _)
        | succ n9 ih47 =>
          intro n j M1 br1 fvv1 hR1 H locs ls hmu hi0 hi1 hw hl
          refine lv_iload hC.1 hC.2.1 dX5_sift_47 (lv_at hl 4 rfl) ?_
          refine x_bipush hC dX5_sift_49 (by decide +kernel) ?_
          refine x_icmp_ge (tgt := 106) hC ⟨by omega, by omega⟩ ⟨by omega, by omega⟩ dX5_sift_51 (by decide) (fun c_17 => ?_) (fun c_17 => ?_)
          · refine lv_iload_n hC.1 hC.2.1 dX5_sift_106 rfl (lv_at hl 3 rfl) ?_
            exact x_iret hC hw dX5_sift_107 (by omega) (by omega) ⟨n, rfl, by omega, ⟨_, _, _, _, _, _, _, _, _, _, _, _, _, _, _, _, _, _, _, _, hR1⟩⟩
          · refine lv_aload_n hC.1 hC.2.1 dX5_sift_54 rfl (lv_at hl 0 rfl) ?_
            refine x_get hC hw hR1.1.1 rfl hinX5 2 (by decide) (by decide +kernel) rfl dX5_sift_55 ?_
            refine lv_iload_n hC.1 hC.2.1 dX5_sift_58 rfl (lv_at hl 1 rfl) ?_
            refine x_ald4 hC hw hR1.1.2.1 (by omega) (by omega) (by omega) dX5_sift_59 ?_
            rw [hR1.fa' (show (p0).toNat < 3 by omega)]
            show W p l e R s m args below meth c _ _ _ _ _ (F0 m 60 ls [.ref (qv (p0).toNat)])
            refine lv_iload hC.1 hC.2.1 dX5_sift_60 (lv_at hl 4 rfl) ?_
            refine x_iald hC hw (hR1.rv (show (p0).toNat < 3 by omega)) (by omega) (by omega) (by omega) dX5_sift_62 ?_
            obtain ⟨z_18, hz_18⟩ : ∃ z : Int, z = ((fvv1 (p0).toNat) (j).toNat).toInt := ⟨_, rfl⟩
            rw [← hz_18]
            have hrz_18 : -10000 ≤ z_18 ∧ z_18 ≤ 9999 := by rw [hz_18]; exact hR1.vr (by omega) (by omega)
            have hpz_18 : z_18 ≠ -10000 → S (j).toNat = true := by rw [hz_18]; exact hR1.vs (by omega) (by omega)
            refine x_sipush hC dX5_sift_63 (by decide +kernel) ?_
            refine x_icmp_eq (tgt := 100) hC ⟨by omega, by omega⟩ ⟨by omega, by omega⟩ dX5_sift_66 (by decide) (fun c_19 => ?_) (fun c_19 => ?_)
            · refine x_iinc (lv' := [(4, .int (iN (j + 1))), (0, .ref a), (1, .int (iN (p0))), (2, .int (iN (p1))), (3, .int (iN (n)))]) hC dX5_sift_100 hl (k := 4) rfl (by decide) rfl (fun ls hl => ?_)
              refine lv_goto (tgt := 47) hC.1 hC.2.1 dX5_sift_103 (by decide) ?_
              exact ih47 n (j + 1) _ _ _ hR1 _ _ _ (by omega) (by omega) (by omega) hw (lv_sub hl [1, 2, 3, 4, 0] rfl)
            · refine lv_aload_n hC.1 hC.2.1 dX5_sift_69 rfl (lv_at hl 0 rfl) ?_
              refine x_get hC hw hR1.1.1 rfl hinX5 2 (by decide) (by decide +kernel) rfl dX5_sift_70 ?_
              refine lv_iload_n hC.1 hC.2.1 dX5_sift_73 rfl (lv_at hl 1 rfl) ?_
              refine x_ald4 hC hw hR1.1.2.1 (by omega) (by omega) (by omega) dX5_sift_74 ?_
              rw [hR1.fa' (show (p0).toNat < 3 by omega)]
              show W p l e R s m args below meth c _ _ _ _ _ (F0 m 75 ls [.ref (qv (p0).toNat)])
              refine lv_iload hC.1 hC.2.1 dX5_sift_75 (lv_at hl 4 rfl) ?_
              refine x_iald hC hw (hR1.rv (show (p0).toNat < 3 by omega)) (by omega) (by omega) (by omega) dX5_sift_77 ?_
              obtain ⟨z_20, hz_20⟩ : ∃ z : Int, z = ((fvv1 (p0).toNat) (j).toNat).toInt := ⟨_, rfl⟩
              rw [← hz_20]
              have hrz_20 : -10000 ≤ z_20 ∧ z_20 ≤ 9999 := by rw [hz_20]; exact hR1.vr (by omega) (by omega)
              have hpz_20 : z_20 ≠ -10000 → S (j).toNat = true := by rw [hz_20]; exact hR1.vs (by omega) (by omega)
              refine lv_iload_n hC.1 hC.2.1 dX5_sift_78 rfl (lv_at hl 2 rfl) ?_
              refine x_irem hC ⟨by omega, by omega⟩ ⟨by omega, by omega⟩ (by omega) (by omega) dX5_sift_79 ?_
              obtain ⟨z_21, hz_21⟩ : ∃ z : Int, z = z_20.tmod p1 := ⟨_, rfl⟩
              rw [← hz_21]
              have hrz_21 : -2147483648 ≤ z_21 ∧ z_21 ≤ 2147483647 := by rw [hz_21]; exact x_tmod_rng ⟨by omega, by omega⟩ (by omega)
              refine x_if_eq (tgt := 86) hC ⟨by omega, by omega⟩ dX5_sift_80 (by decide) (fun c_22 => ?_) (fun c_22 => ?_)
              · refine lv_aload_n hC.1 hC.2.1 dX5_sift_86 rfl (lv_at hl 0 rfl) ?_
                refine lv_iload_n hC.1 hC.2.1 dX5_sift_87 rfl (lv_at hl 1 rfl) ?_
                refine lv_iload hC.1 hC.2.1 dX5_sift_88 (lv_at hl 4 rfl) ?_
                refine x_sipush hC dX5_sift_90 (by decide +kernel) ?_
                refine x_callV hC hw (lv_size hl) (c_X5_set l G hR1 (p0 := p0) (by omega) (p1 := j) (by omega) (p2 := (-10000)) (by omega) (by omega) (by omega) (by omega) (fun q9 => absurd rfl q9)) gX5_sift_X5_set rfl dv_X5_set hR1.1.1 rfl rfl (Nat.le_of_ble_eq_true rfl) (by rw [hRf]; decide) (by rw [hRl]; decide) (by omega) (by omega) dX5_sift_93 (fun r9 M_23 H locs hq hw => ?_)
                obtain ⟨z_24, rfl, hz_24a, hz_24b, hx5k_25, brk_25, fvvk_25, hRk_25⟩ := hq
                show W p l e R s m args below meth c H locs _ _ _ (F0 m 96 ls [.int (iN (z_24))])
                refine lv_pop hC.1 hC.2.1 dX5_sift_96 rfl ?_
                refine x_iinc (lv' := [(3, .int (iN (n + 1))), (0, .ref a), (1, .int (iN (p0))), (2, .int (iN (p1))), (4, .int (iN (j)))]) hC dX5_sift_97 hl (k := 3) rfl (by decide) rfl (fun ls hl => ?_)
                refine x_iinc (lv' := [(4, .int (iN (j + 1))), (3, .int (iN (n + 1))), (0, .ref a), (1, .int (iN (p0))), (2, .int (iN (p1)))]) hC dX5_sift_100 hl (k := 4) rfl (by decide) rfl (fun ls hl => ?_)
                refine lv_goto (tgt := 47) hC.1 hC.2.1 dX5_sift_103 (by decide) ?_
                exact ih47 (n + 1) (j + 1) _ _ _ hRk_25 _ _ _ (by omega) (by omega) (by omega) hw (lv_sub hl [2, 3, 4, 1, 0] rfl)
              · refine lv_goto (tgt := 100) hC.1 hC.2.1 dX5_sift_83 (by decide) ?_
                refine x_iinc (lv' := [(4, .int (iN (j + 1))), (0, .ref a), (1, .int (iN (p0))), (2, .int (iN (p1))), (3, .int (iN (n)))]) hC dX5_sift_100 hl (k := 4) rfl (by decide) rfl (fun ls hl => ?_)
                refine lv_goto (tgt := 47) hC.1 hC.2.1 dX5_sift_103 (by decide) ?_
                exact ih47 n (j + 1) _ _ _ hR1 _ _ _ (by omega) (by omega) (by omega) hw (lv_sub hl [1, 2, 3, 4, 0] rfl)
      · refine x_const hC dX5_sift_35 ?_
        exact x_iret hC hw dX5_sift_36 (by omega) (by omega) ⟨0, rfl, by omega, ⟨_, _, _, _, _, _, _, _, _, _, _, _, _, _, _, _, _, _, _, _, hRk_12⟩⟩
    · refine x_const hC dX5_sift_23 ?_
      refine lv_goto (tgt := 28) hC.1 hC.2.1 dX5_sift_24 (by decide) ?_
      refine x_const hC dX5_sift_28 ?_
      refine x_callV hC hw (lv_size hl) (c_X5_refuse l G hRk_5 (p0 := 1) (by omega) (p1 := 2) (by omega) (by omega)) gX5_sift_X5_refuse rfl dv_X5_refuse hRk_5.1.1 rfl rfl (Nat.le_of_ble_eq_true rfl) (by rw [hRf]; decide) (by rw [hRl]; decide) (by omega) (by omega) dX5_sift_29 (fun r9 M_26 H locs hq hw => ?_)
      obtain ⟨z_27, rfl, hz_27a, hz_27b, thk_28, hRk_28⟩ := hq
      show W p l e R s m args below meth c H locs _ _ _ (F0 m 32 ls [.int (iN (z_27))])
      refine x_if_eq (tgt := 37) hC ⟨by omega, by omega⟩ dX5_sift_32 (by decide) (fun c_29 => ?_) (fun c_29 => ?_)
      · refine lv_aload_n hC.1 hC.2.1 dX5_sift_37 rfl (lv_at hl 0 rfl) ?_
        refine lv_iload_n hC.1 hC.2.1 dX5_sift_38 rfl (lv_at hl 1 rfl) ?_
        refine x_callV hC hw (lv_size hl) (c_X5_touch l G hRk_28 (p0 := p0) (by omega)) gX5_sift_X5_touch rfl dv_X5_touch hRk_28.1.1 rfl rfl (Nat.le_of_ble_eq_true rfl) (by rw [hRf]; decide) (by rw [hRl]; decide) (by omega) (by omega) dX5_sift_39 (fun r9 M_30 H locs hq hw => ?_)
        obtain ⟨rfl, hak_32, hRk_32⟩ := hq
        show W p l e R s m args below meth c H locs _ _ _ (F0 m 42 ls [])
        refine x_const hC dX5_sift_42 ?_
        refine lv_istore_n (lv' := [(3, .int (iN (0))), (0, .ref a), (1, .int (iN (p0))), (2, .int (iN (p1)))]) hC.1 hC.2.1 dX5_sift_43 rfl hl (by decide) rfl (fun ls hl => ?_)
        refine x_const hC dX5_sift_44 ?_
        refine lv_istore (lv' := [(4, .int (iN (0))), (3, .int (iN (0))), (0, .ref a), (1, .int (iN (p0))), (2, .int (iN (p1)))]) hC.1 hC.2.1 dX5_sift_45 hl (by decide) rfl (fun ls hl => ?_)
        suffices hloop47 : ∀ (n9 : Nat) (n : Int) (j : Int) (M1 : HM) (br1 : Int32) (fvv1 : Nat → Nat → Int32) (hR1 : MGx G M1 a va oa wa ya wk thk_28 rfd br1 re la hak_32 kp kv qv qw fa fb fvv1 fw fo fy S) (H : Heap) (locs : List Loc) (ls : Array Slot), (hmu : (100 - j).toNat < n9) → (hi0 : 0 ≤ j ∧ j ≤ 100) → (hi1 : 0 ≤ n ∧ n ≤ j) → xD G (xA M s.heap.size) s M1 H locs → lv_has ls 5 [(0, .ref a), (1, .int (iN (p0))), (2, .int (iN (p1))), (3, .int (iN (n))), (4, .int (iN (j)))] → W p l e R s m args below meth c H locs _ _ _ (F0 m 47 ls []) by
          exact hloop47 _ 0 0 _ _ _ hRk_32 _ _ _ (Nat.lt_succ_self _) (by omega) (by omega) hw (lv_sub hl [2, 3, 4, 1, 0] rfl)
        intro n9
        induction n9 with
        | zero => intro n j M1 br1 fvv1 hR1 H locs ls hmu; exact absurd hmu (Nat.not_lt_zero _)
        | succ n9 ih47 =>
          intro n j M1 br1 fvv1 hR1 H locs ls hmu hi0 hi1 hw hl
          refine lv_iload hC.1 hC.2.1 dX5_sift_47 (lv_at hl 4 rfl) ?_
          refine x_bipush hC dX5_sift_49 (by decide +kernel) ?_
          refine x_icmp_ge (tgt := 106) hC ⟨by omega, by omega⟩ ⟨by omega, by omega⟩ dX5_sift_51 (by decide) (fun c_33 => ?_) (fun c_33 => ?_)
          · refine lv_iload_n hC.1 hC.2.1 dX5_sift_106 rfl (lv_at hl 3 rfl) ?_
            exact x_iret hC hw dX5_sift_107 (by omega) (by omega) ⟨n, rfl, by omega, ⟨_, _, _, _, _, _, _, _, _, _, _, _, _, _, _, _, _, _, _, _, hR1⟩⟩
          · refine lv_aload_n hC.1 hC.2.1 dX5_sift_54 rfl (lv_at hl 0 rfl) ?_
            refine x_get hC hw hR1.1.1 rfl hinX5 2 (by decide) (by decide +kernel) rfl dX5_sift_55 ?_
            refine lv_iload_n hC.1 hC.2.1 dX5_sift_58 rfl (lv_at hl 1 rfl) ?_
            refine x_ald4 hC hw hR1.1.2.1 (by omega) (by omega) (by omega) dX5_sift_59 ?_
            rw [hR1.fa' (show (p0).toNat < 3 by omega)]
            show W p l e R s m args below meth c _ _ _ _ _ (F0 m 60 ls [.ref (qv (p0).toNat)])
            refine lv_iload hC.1 hC.2.1 dX5_sift_60 (lv_at hl 4 rfl) ?_
            refine x_iald hC hw (hR1.rv (show (p0).toNat < 3 by omega)) (by omega) (by omega) (by omega) dX5_sift_62 ?_
            obtain ⟨z_34, hz_34⟩ : ∃ z : Int, z = ((fvv1 (p0).toNat) (j).toNat).toInt := ⟨_, rfl⟩
            rw [← hz_34]
            have hrz_34 : -10000 ≤ z_34 ∧ z_34 ≤ 9999 := by rw [hz_34]; exact hR1.vr (by omega) (by omega)
            have hpz_34 : z_34 ≠ -10000 → S (j).toNat = true := by rw [hz_34]; exact hR1.vs (by omega) (by omega)
            refine x_sipush hC dX5_sift_63 (by decide +kernel) ?_
            refine x_icmp_eq (tgt := 100) hC ⟨by omega, by omega⟩ ⟨by omega, by omega⟩ dX5_sift_66 (by decide) (fun c_35 => ?_) (fun c_35 => ?_)
            · refine x_iinc (lv' := [(4, .int (iN (j + 1))), (0, .ref a), (1, .int (iN (p0))), (2, .int (iN (p1))), (3, .int (iN (n)))]) hC dX5_sift_100 hl (k := 4) rfl (by decide) rfl (fun ls hl => ?_)
              refine lv_goto (tgt := 47) hC.1 hC.2.1 dX5_sift_103 (by decide) ?_
              exact ih47 n (j + 1) _ _ _ hR1 _ _ _ (by omega) (by omega) (by omega) hw (lv_sub hl [1, 2, 3, 4, 0] rfl)
            · refine lv_aload_n hC.1 hC.2.1 dX5_sift_69 rfl (lv_at hl 0 rfl) ?_
              refine x_get hC hw hR1.1.1 rfl hinX5 2 (by decide) (by decide +kernel) rfl dX5_sift_70 ?_
              refine lv_iload_n hC.1 hC.2.1 dX5_sift_73 rfl (lv_at hl 1 rfl) ?_
              refine x_ald4 hC hw hR1.1.2.1 (by omega) (by omega) (by omega) dX5_sift_74 ?_
              rw [hR1.fa' (show (p0).toNat < 3 by omega)]
              show W p l e R s m args below meth c _ _ _ _ _ (F0 m 75 ls [.ref (qv (p0).toNat)])
              refine lv_iload hC.1 hC.2.1 dX5_sift_75 (lv_at hl 4 rfl) ?_
              refine x_iald hC hw (hR1.rv (show (p0).toNat < 3 by omega)) (by omega) (by omega) (by omega) dX5_sift_77 ?_
              obtain ⟨z_36, hz_36⟩ : ∃ z : Int, z = ((fvv1 (p0).toNat) (j).toNat).toInt := ⟨_, rfl⟩
              rw [← hz_36]
              have hrz_36 : -10000 ≤ z_36 ∧ z_36 ≤ 9999 := by rw [hz_36]; exact hR1.vr (by omega) (by omega)
              have hpz_36 : z_36 ≠ -10000 → S (j).toNat = true := by rw [hz_36]; exact hR1.vs (by omega) (by omega)
              refine lv_iload_n hC.1 hC.2.1 dX5_sift_78 rfl (lv_at hl 2 rfl) ?_
              refine x_irem hC ⟨by omega, by omega⟩ ⟨by omega, by omega⟩ (by omega) (by omega) dX5_sift_79 ?_
              obtain ⟨z_37, hz_37⟩ : ∃ z : Int, z = z_36.tmod p1 := ⟨_, rfl⟩
              rw [← hz_37]
              have hrz_37 : -2147483648 ≤ z_37 ∧ z_37 ≤ 2147483647 := by rw [hz_37]; exact x_tmod_rng ⟨by omega, by omega⟩ (by omega)
              refine x_if_eq (tgt := 86) hC ⟨by omega, by omega⟩ dX5_sift_80 (by decide) (fun c_38 => ?_) (fun c_38 => ?_)
              · refine lv_aload_n hC.1 hC.2.1 dX5_sift_86 rfl (lv_at hl 0 rfl) ?_
                refine lv_iload_n hC.1 hC.2.1 dX5_sift_87 rfl (lv_at hl 1 rfl) ?_
                refine lv_iload hC.1 hC.2.1 dX5_sift_88 (lv_at hl 4 rfl) ?_
                refine x_sipush hC dX5_sift_90 (by decide +kernel) ?_
                refine x_callV hC hw (lv_size hl) (c_X5_set l G hR1 (p0 := p0) (by omega) (p1 := j) (by omega) (p2 := (-10000)) (by omega) (by omega) (by omega) (by omega) (fun q9 => absurd rfl q9)) gX5_sift_X5_set rfl dv_X5_set hR1.1.1 rfl rfl (Nat.le_of_ble_eq_true rfl) (by rw [hRf]; decide) (by rw [hRl]; decide) (by omega) (by omega) dX5_sift_93 (fun r9 M_39 H locs hq hw => ?_)
                obtain ⟨z_40, rfl, hz_40a, hz_40b, hx5k_41, brk_41, fvvk_41, hRk_41⟩ := hq
                show W p l e R s m args below meth c H locs _ _ _ (F0 m 96 ls [.int (iN (z_40))])
                refine lv_pop hC.1 hC.2.1 dX5_sift_96 rfl ?_
                refine x_iinc (lv' := [(3, .int (iN (n + 1))), (0, .ref a), (1, .int (iN (p0))), (2, .int (iN (p1))), (4, .int (iN (j)))]) hC dX5_sift_97 hl (k := 3) rfl (by decide) rfl (fun ls hl => ?_)
                refine x_iinc (lv' := [(4, .int (iN (j + 1))), (3, .int (iN (n + 1))), (0, .ref a), (1, .int (iN (p0))), (2, .int (iN (p1)))]) hC dX5_sift_100 hl (k := 4) rfl (by decide) rfl (fun ls hl => ?_)
                refine lv_goto (tgt := 47) hC.1 hC.2.1 dX5_sift_103 (by decide) ?_
                exact ih47 (n + 1) (j + 1) _ _ _ hRk_41 _ _ _ (by omega) (by omega) (by omega) hw (lv_sub hl [2, 3, 4, 1, 0] rfl)
              · refine lv_goto (tgt := 100) hC.1 hC.2.1 dX5_sift_83 (by decide) ?_
                refine x_iinc (lv' := [(4, .int (iN (j + 1))), (0, .ref a), (1, .int (iN (p0))), (2, .int (iN (p1))), (3, .int (iN (n)))]) hC dX5_sift_100 hl (k := 4) rfl (by decide) rfl (fun ls hl => ?_)
                refine lv_goto (tgt := 47) hC.1 hC.2.1 dX5_sift_103 (by decide) ?_
                exact ih47 n (j + 1) _ _ _ hR1 _ _ _ (by omega) (by omega) (by omega) hw (lv_sub hl [1, 2, 3, 4, 0] rfl)
      · refine x_const hC dX5_sift_35 ?_
        exact x_iret hC hw dX5_sift_36 (by omega) (by omega) ⟨0, rfl, by omega, ⟨_, _, _, _, _, _, _, _, _, _, _, _, _, _, _, _, _, _, _, _, hRk_28⟩⟩
set_option maxHeartbeats 4000000 in
set_option maxRecDepth 100000 in
theorem c_X5_having (l : Launch) (G : xG) {M : HM} {a va oa wa ya : Nat} {wk : Option Nat} {th rfd br re la ha kp kv : Int32} {qv qw : Nat → Nat} {fa fb : Nat → Option Nat} {fvv fw : Nat → Nat → Int32} {fo : Nat → Int32} {fy : Nat → Option Nat} {S : Nat → Bool} (hR : MGx G M a va oa wa ya wk th rfd br re la ha kp kv qv qw fa fb fvv fw fo fy S) {p0 : Int} (hp0 : -2147483648 ≤ p0 ∧ p0 ≤ 2147483647) {p1 : Int} (hp1 : -2147483648 ≤ p1 ∧ p1 ≤ 2147483647) (hob : 0 ≤ p0 ∧ p0 ≤ 2) : xMet l G yX5_having wsX5_having 1 20 0 0 [.ref a, .int (iN (p0)), .int (iN (p1))] M (fun r M1 => ∃ z : Int, r = some (.int (iN z)) ∧ M1 = M ∧ (0 ≤ z ∧ z ≤ 100)) := by
  refine x_intro (cc := cX5_having) (maxL := 8) (ret := (some .int)) (by decide +kernel) rfl (Nat.le_of_ble_eq_true rfl) ?_
  intro p e R s m args below meth c ls hRf hRc hRs hRl hC hw hl
  have hinX5 : ∀ w ∈ wsX50, w ∈ wsX5_having := by decide +kernel
  have hl : lv_has ls 8 [(0, .ref a), (1, .int (iN (p0))), (2, .int (iN (p1)))] := hl
  refine x_const hC dX5_having_0 ?_
  refine lv_istore_n (lv' := [(3, .int (iN (0))), (0, .ref a), (1, .int (iN (p0))), (2, .int (iN (p1)))]) hC.1 hC.2.1 dX5_having_1 rfl hl (by decide) rfl (fun ls hl => ?_)
  refine lv_aload_n hC.1 hC.2.1 dX5_having_2 rfl (lv_at hl 1 rfl) ?_
  refine x_get hC hw hR.1.1 rfl hinX5 2 (by decide) (by decide +kernel) rfl dX5_having_3 ?_
  refine lv_iload_n hC.1 hC.2.1 dX5_having_6 rfl (lv_at hl 2 rfl) ?_
  refine x_ald4 hC hw hR.1.2.1 (by omega) (by omega) (by omega) dX5_having_7 ?_
  rw [hR.fa' (show (p0).toNat < 3 by omega)]
  show W p l e R s m args below meth c _ _ _ _ _ (F0 m 8 ls [.ref (qv (p0).toNat)])
  refine lv_astore (lv' := [(4, .ref (qv (p0).toNat)), (3, .int (iN (0))), (0, .ref a), (1, .int (iN (p0))), (2, .int (iN (p1)))]) hC.1 hC.2.1 dX5_having_8 hl (by decide) rfl (fun ls hl => ?_)
  refine lv_aload hC.1 hC.2.1 dX5_having_10 (lv_at hl 0 rfl) ?_
  refine x_alen hC hw 1 (hR.rv (show (p0).toNat < 3 by omega)) rfl dX5_having_12 ?_
  refine lv_istore (lv' := [(5, .int (iN (100))), (4, .ref (qv (p0).toNat)), (3, .int (iN (0))), (0, .ref a), (1, .int (iN (p0))), (2, .int (iN (p1)))]) hC.1 hC.2.1 dX5_having_13 hl (by decide) rfl (fun ls hl => ?_)
  refine x_const hC dX5_having_15 ?_
  refine lv_istore (lv' := [(6, .int (iN (0))), (5, .int (iN (100))), (4, .ref (qv (p0).toNat)), (3, .int (iN (0))), (0, .ref a), (1, .int (iN (p0))), (2, .int (iN (p1)))]) hC.1 hC.2.1 dX5_having_16 hl (by decide) rfl (fun ls hl => ?_)
  suffices hloop18 : ∀ (n9 : Nat) (n : Int) (j : Int) (H : Heap) (locs : List Loc) (ls : Array Slot), (hmu : (100 - j).toNat < n9) → (hi0 : 0 ≤ j ∧ j ≤ 100) → (hi1 : 0 ≤ n ∧ n ≤ j) → xD G (xA M s.heap.size) s M H locs → lv_has ls 8 [(0, .ref a), (1, .int (iN (p0))), (2, .int (iN (p1))), (3, .int (iN (n))), (4, .ref (qv (p0).toNat)), (5, .int (iN (100))), (6, .int (iN (j)))] → W p l e R s m args below meth c H locs _ _ _ (F0 m 18 ls []) by
    exact hloop18 _ 0 0  _ _ _ (Nat.lt_succ_self _) (by omega) (by omega) hw (lv_sub hl [4, 5, 6, 3, 2, 1, 0] rfl)
  intro n9
  induction n9 with
  | zero => intro n j  H locs ls hmu; exact absurd hmu (Nat.not_lt_zero _)
  | succ n9 ih18 =>
    intro n j  H locs ls hmu hi0 hi1 hw hl
    refine lv_iload hC.1 hC.2.1 dX5_having_18 (lv_at hl 6 rfl) ?_
    refine lv_iload hC.1 hC.2.1 dX5_having_20 (lv_at hl 5 rfl) ?_
    refine x_icmp_ge (tgt := 55) hC ⟨by omega, by omega⟩ ⟨by omega, by omega⟩ dX5_having_22 (by decide) (fun c_1 => ?_) (fun c_1 => ?_)
    · refine lv_iload_n hC.1 hC.2.1 dX5_having_55 rfl (lv_at hl 3 rfl) ?_
      exact x_iret hC hw dX5_having_56 (by omega) (by omega) ⟨n, rfl, rfl, by omega⟩
    · refine lv_aload hC.1 hC.2.1 dX5_having_25 (lv_at hl 4 rfl) ?_
      refine lv_iload hC.1 hC.2.1 dX5_having_27 (lv_at hl 6 rfl) ?_
      refine x_iald hC hw (hR.rv (show (p0).toNat < 3 by omega)) (by omega) (by omega) (by omega) dX5_having_29 ?_
      obtain ⟨z_2, hz_2⟩ : ∃ z : Int, z = ((fvv (p0).toNat) (j).toNat).toInt := ⟨_, rfl⟩
      rw [← hz_2]
      have hrz_2 : -10000 ≤ z_2 ∧ z_2 ≤ 9999 := by rw [hz_2]; exact hR.vr (by omega) (by omega)
      have hpz_2 : z_2 ≠ -10000 → S (j).toNat = true := by rw [hz_2]; exact hR.vs (by omega) (by omega)
      refine lv_istore (lv' := [(7, .int (iN (z_2))), (0, .ref a), (1, .int (iN (p0))), (2, .int (iN (p1))), (3, .int (iN (n))), (4, .ref (qv (p0).toNat)), (5, .int (iN (100))), (6, .int (iN (j)))]) hC.1 hC.2.1 dX5_having_30 hl (by decide) rfl (fun ls hl => ?_)
      refine lv_iload_n hC.1 hC.2.1 dX5_having_32 rfl (lv_at hl 4 rfl) ?_
      refine lv_iload hC.1 hC.2.1 dX5_having_33 (lv_at hl 0 rfl) ?_
      refine lv_iload_n hC.1 hC.2.1 dX5_having_35 rfl (lv_at hl 3 rfl) ?_
      refine x_icmp_ne (tgt := 43) hC ⟨by omega, by omega⟩ ⟨by omega, by omega⟩ dX5_having_36 (by decide) (fun c_3 => ?_) (fun c_3 => ?_)
      · refine x_const hC dX5_having_43 ?_
        refine x_callS hC hw (lv_size hl) (c_X5_one l G (M := M) (p0 := 0) (by omega)) gX5_having_X5_one rfl dv_X5_one_s rfl (Nat.le_of_ble_eq_true rfl) (by rw [hRf]; decide) (by rw [hRl]; decide) (by omega) (by omega) dX5_having_44 (fun r9 M_4 H locs hq hw => ?_)
        obtain ⟨z_5, rfl, hM9, hz_5a, hz_5b⟩ := hq
        rw [hM9] at hw
        show W p l e R s m args below meth c H locs _ _ _ (F0 m 47 ls [.int (iN (z_5)), .int (iN (n))])
        refine x_iadd hC dX5_having_47 ?_
        refine lv_istore_n (lv' := [(3, .int (iN (n + z_5))), (7, .int (iN (z_2))), (0, .ref a), (1, .int (iN (p0))), (2, .int (iN (p1))), (4, .ref (qv (p0).toNat)), (5, .int (iN (100))), (6, .int (iN (j)))]) hC.1 hC.2.1 dX5_having_48 rfl hl (by decide) rfl (fun ls hl => ?_)
        refine x_iinc (lv' := [(6, .int (iN (j + 1))), (3, .int (iN (n + z_5))), (7, .int (iN (z_2))), (0, .ref a), (1, .int (iN (p0))), (2, .int (iN (p1))), (4, .ref (qv (p0).toNat)), (5, .int (iN (100)))]) hC dX5_having_49 hl (k := 7) rfl (by decide) rfl (fun ls hl => ?_)
        refine lv_goto (tgt := 18) hC.1 hC.2.1 dX5_having_52 (by decide) ?_
        exact ih18 (n + z_5) (j + 1)  _ _ _ (by omega) (by omega) (by omega) hw (lv_sub hl [3, 4, 5, 1, 6, 7, 0] rfl)
      · refine x_const hC dX5_having_39 ?_
        refine lv_goto (tgt := 44) hC.1 hC.2.1 dX5_having_40 (by decide) ?_
        refine x_callS hC hw (lv_size hl) (c_X5_one l G (M := M) (p0 := 1) (by omega)) gX5_having_X5_one rfl dv_X5_one_s rfl (Nat.le_of_ble_eq_true rfl) (by rw [hRf]; decide) (by rw [hRl]; decide) (by omega) (by omega) dX5_having_44 (fun r9 M_6 H locs hq hw => ?_)
        obtain ⟨z_7, rfl, hM9, hz_7a, hz_7b⟩ := hq
        rw [hM9] at hw
        show W p l e R s m args below meth c H locs _ _ _ (F0 m 47 ls [.int (iN (z_7)), .int (iN (n))])
        refine x_iadd hC dX5_having_47 ?_
        refine lv_istore_n (lv' := [(3, .int (iN (n + z_7))), (7, .int (iN (z_2))), (0, .ref a), (1, .int (iN (p0))), (2, .int (iN (p1))), (4, .ref (qv (p0).toNat)), (5, .int (iN (100))), (6, .int (iN (j)))]) hC.1 hC.2.1 dX5_having_48 rfl hl (by decide) rfl (fun ls hl => ?_)
        refine x_iinc (lv' := [(6, .int (iN (j + 1))), (3, .int (iN (n + z_7))), (7, .int (iN (z_2))), (0, .ref a), (1, .int (iN (p0))), (2, .int (iN (p1))), (4, .ref (qv (p0).toNat)), (5, .int (iN (100)))]) hC dX5_having_49 hl (k := 7) rfl (by decide) rfl (fun ls hl => ?_)
        refine lv_goto (tgt := 18) hC.1 hC.2.1 dX5_having_52 (by decide) ?_
        exact ih18 (n + z_7) (j + 1)  _ _ _ (by omega) (by omega) (by omega) hw (lv_sub hl [3, 4, 5, 1, 6, 7, 0] rfl)
set_option maxHeartbeats 4000000 in
set_option maxRecDepth 100000 in
theorem c_X5_strikeValue (l : Launch) (G : xG) {M : HM} {a va oa wa ya : Nat} {wk : Option Nat} {th rfd br re la ha kp kv : Int32} {qv qw : Nat → Nat} {fa fb : Nat → Option Nat} {fvv fw : Nat → Nat → Int32} {fo : Nat → Int32} {fy : Nat → Option Nat} {S : Nat → Bool} (hR : MGx G M a va oa wa ya wk th rfd br re la ha kp kv qv qw fa fb fvv fw fo fy S) {p0 : Int} (hp0 : -2147483648 ≤ p0 ∧ p0 ≤ 2147483647) {p1 : Int} (hp1 : -2147483648 ≤ p1 ∧ p1 ≤ 2147483647) : xMet l G yX5_strikeValue wsX5_strikeValue 2 47 0 0 [.ref a, .int (iN (p0)), .int (iN (p1))] M (fun r M1 => ∃ z : Int, r = some (.int (iN z)) ∧ (z = 0 ∨ z = 1) ∧ MGm G M1 a rfd S) := by
  refine x_intro (cc := cX5_strikeValue) (maxL := 4) (ret := (some .boolean)) (by decide +kernel) rfl (Nat.le_of_ble_eq_true rfl) ?_
  intro p e R s m args below meth c ls hRf hRc hRs hRl hC hw hl
  have hinX5 : ∀ w ∈ wsX50, w ∈ wsX5_strikeValue := by decide +kernel
  have hl : lv_has ls 4 [(0, .ref a), (1, .int (iN (p0))), (2, .int (iN (p1)))] := hl
  refine lv_aload_n hC.1 hC.2.1 dX5_strikeValue_0 rfl (lv_at hl 0 rfl) ?_
  refine lv_iload_n hC.1 hC.2.1 dX5_strikeValue_1 rfl (lv_at hl 1 rfl) ?_
  refine x_callS hC hw (lv_size hl) (c_X5_isNoBook l G (M := M) (p0 := p0) (by omega)) gX5_strikeValue_X5_isNoBook rfl dv_X5_isNoBook_s rfl (Nat.le_of_ble_eq_true rfl) (by rw [hRf]; decide) (by rw [hRl]; decide) (by omega) (by omega) dX5_strikeValue_2 (fun r9 M_1 H locs hq hw => ?_)
  obtain ⟨z_2, rfl, hM9, hz_2a, hz_2b⟩ := hq
  rw [hM9] at hw
  show W p l e R s m args below meth c H locs _ _ _ (F0 m 5 ls [.int (iN (z_2)), .ref a])
  refine x_const hC dX5_strikeValue_5 ?_
  refine x_callV hC hw (lv_size hl) (c_X5_start l G hR (p0 := z_2) (by omega) (p1 := 1) (by omega) (by omega)) gX5_strikeValue_X5_start rfl dv_X5_start hR.1.1 rfl rfl (Nat.le_of_ble_eq_true rfl) (by rw [hRf]; decide) (by rw [hRl]; decide) (by omega) (by omega) dX5_strikeValue_6 (fun r9 M_3 H locs hq hw => ?_)
  obtain ⟨z_4, rfl, hz_4a, hz_4b, thk_5, hRk_5⟩ := hq
  show W p l e R s m args below meth c H locs _ _ _ (F0 m 9 ls [.int (iN (z_4))])
  refine x_if_ne (tgt := 47) hC ⟨by omega, by omega⟩ dX5_strikeValue_9 (by decide) (fun c_6 => ?_) (fun c_6 => ?_)
  · refine x_const hC dX5_strikeValue_47 ?_
    exact x_zret hC hw (by omega) dX5_strikeValue_48 (by omega) (by omega) ⟨0, rfl, by omega, ⟨_, _, _, _, _, _, _, _, _, _, _, _, _, _, _, _, _, _, _, _, hRk_5⟩⟩
  · refine lv_aload_n hC.1 hC.2.1 dX5_strikeValue_12 rfl (lv_at hl 0 rfl) ?_
    refine lv_iload_n hC.1 hC.2.1 dX5_strikeValue_13 rfl (lv_at hl 2 rfl) ?_
    refine x_callS hC hw (lv_size hl) (c_X5_isNoValue l G (M := M_3) (p0 := p1) (by omega)) gX5_strikeValue_X5_isNoValue rfl dv_X5_isNoValue_s rfl (Nat.le_of_ble_eq_true rfl) (by rw [hRf]; decide) (by rw [hRl]; decide) (by omega) (by omega) dX5_strikeValue_14 (fun r9 M_7 H locs hq hw => ?_)
    obtain ⟨z_8, rfl, hM9, hz_8a, hz_8b⟩ := hq
    rw [hM9] at hw
    show W p l e R s m args below meth c H locs _ _ _ (F0 m 17 ls [.int (iN (z_8)), .ref a])
    refine x_const hC dX5_strikeValue_17 ?_
    refine x_callV hC hw (lv_size hl) (c_X5_refuse l G hRk_5 (p0 := z_8) (by omega) (p1 := 2) (by omega) (by omega)) gX5_strikeValue_X5_refuse rfl dv_X5_refuse hRk_5.1.1 rfl rfl (Nat.le_of_ble_eq_true rfl) (by rw [hRf]; decide) (by rw [hRl]; decide) (by omega) (by omega) dX5_strikeValue_18 (fun r9 M_9 H locs hq hw => ?_)
    obtain ⟨z_10, rfl, hz_10a, hz_10b, thk_11, hRk_11⟩ := hq
    show W p l e R s m args below meth c H locs _ _ _ (F0 m 21 ls [.int (iN (z_10))])
    refine x_if_ne (tgt := 47) hC ⟨by omega, by omega⟩ dX5_strikeValue_21 (by decide) (fun c_12 => ?_) (fun c_12 => ?_)
    · refine x_const hC dX5_strikeValue_47 ?_
      exact x_zret hC hw (by omega) dX5_strikeValue_48 (by omega) (by omega) ⟨0, rfl, by omega, ⟨_, _, _, _, _, _, _, _, _, _, _, _, _, _, _, _, _, _, _, _, hRk_11⟩⟩
    · refine lv_aload_n hC.1 hC.2.1 dX5_strikeValue_24 rfl (lv_at hl 0 rfl) ?_
      refine lv_aload_n hC.1 hC.2.1 dX5_strikeValue_25 rfl (lv_at hl 0 rfl) ?_
      refine lv_iload_n hC.1 hC.2.1 dX5_strikeValue_26 rfl (lv_at hl 1 rfl) ?_
      refine lv_iload_n hC.1 hC.2.1 dX5_strikeValue_27 rfl (lv_at hl 2 rfl) ?_
      refine x_callV hC hw (lv_size hl) (c_X5_having l G hRk_11 (p0 := p0) (by omega) (p1 := p1) (by omega) (by omega)) gX5_strikeValue_X5_having rfl dv_X5_having hRk_11.1.1 rfl rfl (Nat.le_of_ble_eq_true rfl) (by rw [hRf]; decide) (by rw [hRl]; decide) (by omega) (by omega) dX5_strikeValue_28 (fun r9 M_13 H locs hq hw => ?_)
      obtain ⟨z_14, rfl, hM9, hz_14a⟩ := hq
      rw [hM9] at hw
      show W p l e R s m args below meth c H locs _ _ _ (F0 m 31 ls [.int (iN (z_14)), .ref a])
      refine x_const hC dX5_strikeValue_31 ?_
      refine x_icmp_le (tgt := 39) hC ⟨by omega, by omega⟩ ⟨by omega, by omega⟩ dX5_strikeValue_32 (by decide) (fun c_15 => ?_) (fun c_15 => ?_)
      · refine x_const hC dX5_strikeValue_39 ?_
        refine x_const hC dX5_strikeValue_40 ?_
        refine x_callV hC hw (lv_size hl) (c_X5_refuse l G hRk_11 (p0 := 0) (by omega) (p1 := 3) (by omega) (by omega)) gX5_strikeValue_X5_refuse rfl dv_X5_refuse hRk_11.1.1 rfl rfl (Nat.le_of_ble_eq_true rfl) (by rw [hRf]; decide) (by rw [hRl]; decide) (by omega) (by omega) dX5_strikeValue_41 (fun r9 M_16 H locs hq hw => ?_)
        obtain ⟨z_17, rfl, hz_17a, hz_17b, thk_18, hRk_18⟩ := hq
        show W p l e R s m args below meth c H locs _ _ _ (F0 m 44 ls [.int (iN (z_17))])
        refine x_if_eq (tgt := 49) hC ⟨by omega, by omega⟩ dX5_strikeValue_44 (by decide) (fun c_19 => ?_) (fun c_19 => ?_)
        · refine lv_aload_n hC.1 hC.2.1 dX5_strikeValue_49 rfl (lv_at hl 0 rfl) ?_
          refine lv_iload_n hC.1 hC.2.1 dX5_strikeValue_50 rfl (lv_at hl 1 rfl) ?_
          refine x_callV hC hw (lv_size hl) (c_X5_touch l G hRk_18 (p0 := p0) (by omega)) gX5_strikeValue_X5_touch rfl dv_X5_touch hRk_18.1.1 rfl rfl (Nat.le_of_ble_eq_true rfl) (by rw [hRf]; decide) (by rw [hRl]; decide) (by omega) (by omega) dX5_strikeValue_51 (fun r9 M_20 H locs hq hw => ?_)
          obtain ⟨rfl, hak_22, hRk_22⟩ := hq
          show W p l e R s m args below meth c H locs _ _ _ (F0 m 54 ls [])
          refine x_const hC dX5_strikeValue_54 ?_
          refine lv_istore_n (lv' := [(3, .int (iN (0))), (0, .ref a), (1, .int (iN (p0))), (2, .int (iN (p1)))]) hC.1 hC.2.1 dX5_strikeValue_55 rfl hl (by decide) rfl (fun ls hl => ?_)
          suffices hloop56 : ∀ (n9 : Nat) (j : Int) (H : Heap) (locs : List Loc) (ls : Array Slot), (hmu : (100 - j).toNat < n9) → (hi0 : 0 ≤ j ∧ j ≤ 100) → xD G (xA M s.heap.size) s M_20 H locs → lv_has ls 4 [(0, .ref a), (1, .int (iN (p0))), (2, .int (iN (p1))), (3, .int (iN (j)))] → W p l e R s m args below meth c H locs _ _ _ (F0 m 56 ls []) by
            exact hloop56 _ 0  _ _ _ (Nat.lt_succ_self _) (by omega) hw (lv_sub hl [1, 2, 3, 0] rfl)
          intro n9
          induction n9 with
          | zero => intro j  H locs ls hmu; exact absurd hmu (Nat.not_lt_zero _)
          | succ n9 ih56 =>
            intro j  H locs ls hmu hi0 hw hl
            refine lv_iload_n hC.1 hC.2.1 dX5_strikeValue_56 rfl (lv_at hl 3 rfl) ?_
            refine x_bipush hC dX5_strikeValue_57 (by decide +kernel) ?_
            refine x_icmp_ge (tgt := 95) hC ⟨by omega, by omega⟩ ⟨by omega, by omega⟩ dX5_strikeValue_59 (by decide) (fun c_23 => ?_) (fun c_23 => ?_)
            · refine x_const hC dX5_strikeValue_95 ?_
              exact x_zret hC hw (by omega) dX5_strikeValue_96 (by omega) (by omega) ⟨0, rfl, by omega, ⟨_, _, _, _, _, _, _, _, _, _, _, _, _, _, _, _, _, _, _, _, hRk_22⟩⟩
            · refine lv_aload_n hC.1 hC.2.1 dX5_strikeValue_62 rfl (lv_at hl 0 rfl) ?_
              refine x_get hC hw hRk_22.1.1 rfl hinX5 2 (by decide) (by decide +kernel) rfl dX5_strikeValue_63 ?_
              refine lv_iload_n hC.1 hC.2.1 dX5_strikeValue_66 rfl (lv_at hl 1 rfl) ?_
              refine x_ald4 hC hw hRk_22.1.2.1 (by omega) (by omega) (by omega) dX5_strikeValue_67 ?_
              rw [hRk_22.fa' (show (p0).toNat < 3 by omega)]
              show W p l e R s m args below meth c _ _ _ _ _ (F0 m 68 ls [.ref (qv (p0).toNat)])
              refine lv_iload_n hC.1 hC.2.1 dX5_strikeValue_68 rfl (lv_at hl 3 rfl) ?_
              refine x_iald hC hw (hRk_22.rv (show (p0).toNat < 3 by omega)) (by omega) (by omega) (by omega) dX5_strikeValue_69 ?_
              obtain ⟨z_24, hz_24⟩ : ∃ z : Int, z = ((fvv (p0).toNat) (j).toNat).toInt := ⟨_, rfl⟩
              rw [← hz_24]
              have hrz_24 : -10000 ≤ z_24 ∧ z_24 ≤ 9999 := by rw [hz_24]; exact hRk_22.vr (by omega) (by omega)
              have hpz_24 : z_24 ≠ -10000 → S (j).toNat = true := by rw [hz_24]; exact hRk_22.vs (by omega) (by omega)
              refine lv_iload_n hC.1 hC.2.1 dX5_strikeValue_70 rfl (lv_at hl 2 rfl) ?_
              refine x_icmp_eq (tgt := 77) hC ⟨by omega, by omega⟩ ⟨by omega, by omega⟩ dX5_strikeValue_71 (by decide) (fun c_25 => ?_) (fun c_25 => ?_)
              · refine lv_aload_n hC.1 hC.2.1 dX5_strikeValue_77 rfl (lv_at hl 0 rfl) ?_
                refine lv_iload_n hC.1 hC.2.1 dX5_strikeValue_78 rfl (lv_at hl 1 rfl) ?_
                refine lv_iload_n hC.1 hC.2.1 dX5_strikeValue_79 rfl (lv_at hl 3 rfl) ?_
                refine x_sipush hC dX5_strikeValue_80 (by decide +kernel) ?_
                refine x_callV hC hw (lv_size hl) (c_X5_set l G hRk_22 (p0 := p0) (by omega) (p1 := j) (by omega) (p2 := (-10000)) (by omega) (by omega) (by omega) (by omega) (fun q9 => absurd rfl q9)) gX5_strikeValue_X5_set rfl dv_X5_set hRk_22.1.1 rfl rfl (Nat.le_of_ble_eq_true rfl) (by rw [hRf]; decide) (by rw [hRl]; decide) (by omega) (by omega) dX5_strikeValue_83 (fun r9 M_26 H locs hq hw => ?_)
                obtain ⟨z_27, rfl, hz_27a, hz_27b, hx5k_28, brk_28, fvvk_28, hRk_28⟩ := hq
                show W p l e R s m args below meth c H locs _ _ _ (F0 m 86 ls [.int (iN (z_27))])
                refine lv_pop hC.1 hC.2.1 dX5_strikeValue_86 rfl ?_
                refine x_const hC dX5_strikeValue_87 ?_
                exact x_zret hC hw (by omega) dX5_strikeValue_88 (by omega) (by omega) ⟨1, rfl, by omega, ⟨_, _, _, _, _, _, _, _, _, _, _, _, _, _, _, _, _, _, _, _, hRk_28⟩⟩
              · refine lv_goto (tgt := 89) hC.1 hC.2.1 dX5_strikeValue_74 (by decide) ?_
                refine x_iinc (lv' := [(3, .int (iN (j + 1))), (0, .ref a), (1, .int (iN (p0))), (2, .int (iN (p1)))]) hC dX5_strikeValue_89 hl (k := 3) rfl (by decide) rfl (fun ls hl => ?_)
                refine lv_goto (tgt := 56) hC.1 hC.2.1 dX5_strikeValue_92 (by decide) ?_
                exact ih56 (j + 1)  _ _ _ (by omega) (by omega) hw (lv_sub hl [1, 2, 3, 0] rfl)
        · refine x_const hC dX5_strikeValue_47 ?_
          exact x_zret hC hw (by omega) dX5_strikeValue_48 (by omega) (by omega) ⟨0, rfl, by omega, ⟨_, _, _, _, _, _, _, _, _, _, _, _, _, _, _, _, _, _, _, _, hRk_18⟩⟩
      · refine x_const hC dX5_strikeValue_35 ?_
        refine lv_goto (tgt := 40) hC.1 hC.2.1 dX5_strikeValue_36 (by decide) ?_
        refine x_const hC dX5_strikeValue_40 ?_
        refine x_callV hC hw (lv_size hl) (c_X5_refuse l G hRk_11 (p0 := 1) (by omega) (p1 := 3) (by omega) (by omega)) gX5_strikeValue_X5_refuse rfl dv_X5_refuse hRk_11.1.1 rfl rfl (Nat.le_of_ble_eq_true rfl) (by rw [hRf]; decide) (by rw [hRl]; decide) (by omega) (by omega) dX5_strikeValue_41 (fun r9 M_29 H locs hq hw => ?_)
        obtain ⟨z_30, rfl, hz_30a, hz_30b, thk_31, hRk_31⟩ := hq
        show W p l e R s m args below meth c H locs _ _ _ (F0 m 44 ls [.int (iN (z_30))])
        refine x_if_eq (tgt := 49) hC ⟨by omega, by omega⟩ dX5_strikeValue_44 (by decide) (fun c_32 => ?_) (fun c_32 => ?_)
        · refine lv_aload_n hC.1 hC.2.1 dX5_strikeValue_49 rfl (lv_at hl 0 rfl) ?_
          refine lv_iload_n hC.1 hC.2.1 dX5_strikeValue_50 rfl (lv_at hl 1 rfl) ?_
          refine x_callV hC hw (lv_size hl) (c_X5_touch l G hRk_31 (p0 := p0) (by omega)) gX5_strikeValue_X5_touch rfl dv_X5_touch hRk_31.1.1 rfl rfl (Nat.le_of_ble_eq_true rfl) (by rw [hRf]; decide) (by rw [hRl]; decide) (by omega) (by omega) dX5_strikeValue_51 (fun r9 M_33 H locs hq hw => ?_)
          obtain ⟨rfl, hak_35, hRk_35⟩ := hq
          show W p l e R s m args below meth c H locs _ _ _ (F0 m 54 ls [])
          refine x_const hC dX5_strikeValue_54 ?_
          refine lv_istore_n (lv' := [(3, .int (iN (0))), (0, .ref a), (1, .int (iN (p0))), (2, .int (iN (p1)))]) hC.1 hC.2.1 dX5_strikeValue_55 rfl hl (by decide) rfl (fun ls hl => ?_)
          suffices hloop56 : ∀ (n9 : Nat) (j : Int) (H : Heap) (locs : List Loc) (ls : Array Slot), (hmu : (100 - j).toNat < n9) → (hi0 : 0 ≤ j ∧ j ≤ 100) → xD G (xA M s.heap.size) s M_33 H locs → lv_has ls 4 [(0, .ref a), (1, .int (iN (p0))), (2, .int (iN (p1))), (3, .int (iN (j)))] → W p l e R s m args below meth c H locs _ _ _ (F0 m 56 ls []) by
            exact hloop56 _ 0  _ _ _ (Nat.lt_succ_self _) (by omega) hw (lv_sub hl [1, 2, 3, 0] rfl)
          intro n9
          induction n9 with
          | zero => intro j  H locs ls hmu; exact absurd hmu (Nat.not_lt_zero _)
          | succ n9 ih56 =>
            intro j  H locs ls hmu hi0 hw hl
            refine lv_iload_n hC.1 hC.2.1 dX5_strikeValue_56 rfl (lv_at hl 3 rfl) ?_
            refine x_bipush hC dX5_strikeValue_57 (by decide +kernel) ?_
            refine x_icmp_ge (tgt := 95) hC ⟨by omega, by omega⟩ ⟨by omega, by omega⟩ dX5_strikeValue_59 (by decide) (fun c_36 => ?_) (fun c_36 => ?_)
            · refine x_const hC dX5_strikeValue_95 ?_
              exact x_zret hC hw (by omega) dX5_strikeValue_96 (by omega) (by omega) ⟨0, rfl, by omega, ⟨_, _, _, _, _, _, _, _, _, _, _, _, _, _, _, _, _, _, _, _, hRk_35⟩⟩
            · refine lv_aload_n hC.1 hC.2.1 dX5_strikeValue_62 rfl (lv_at hl 0 rfl) ?_
              refine x_get hC hw hRk_35.1.1 rfl hinX5 2 (by decide) (by decide +kernel) rfl dX5_strikeValue_63 ?_
              refine lv_iload_n hC.1 hC.2.1 dX5_strikeValue_66 rfl (lv_at hl 1 rfl) ?_
              refine x_ald4 hC hw hRk_35.1.2.1 (by omega) (by omega) (by omega) dX5_strikeValue_67 ?_
              rw [hRk_35.fa' (show (p0).toNat < 3 by omega)]
              show W p l e R s m args below meth c _ _ _ _ _ (F0 m 68 ls [.ref (qv (p0).toNat)])
              refine lv_iload_n hC.1 hC.2.1 dX5_strikeValue_68 rfl (lv_at hl 3 rfl) ?_
              refine x_iald hC hw (hRk_35.rv (show (p0).toNat < 3 by omega)) (by omega) (by omega) (by omega) dX5_strikeValue_69 ?_
              obtain ⟨z_37, hz_37⟩ : ∃ z : Int, z = ((fvv (p0).toNat) (j).toNat).toInt := ⟨_, rfl⟩
              rw [← hz_37]
              have hrz_37 : -10000 ≤ z_37 ∧ z_37 ≤ 9999 := by rw [hz_37]; exact hRk_35.vr (by omega) (by omega)
              have hpz_37 : z_37 ≠ -10000 → S (j).toNat = true := by rw [hz_37]; exact hRk_35.vs (by omega) (by omega)
              refine lv_iload_n hC.1 hC.2.1 dX5_strikeValue_70 rfl (lv_at hl 2 rfl) ?_
              refine x_icmp_eq (tgt := 77) hC ⟨by omega, by omega⟩ ⟨by omega, by omega⟩ dX5_strikeValue_71 (by decide) (fun c_38 => ?_) (fun c_38 => ?_)
              · refine lv_aload_n hC.1 hC.2.1 dX5_strikeValue_77 rfl (lv_at hl 0 rfl) ?_
                refine lv_iload_n hC.1 hC.2.1 dX5_strikeValue_78 rfl (lv_at hl 1 rfl) ?_
                refine lv_iload_n hC.1 hC.2.1 dX5_strikeValue_79 rfl (lv_at hl 3 rfl) ?_
                refine x_sipush hC dX5_strikeValue_80 (by decide +kernel) ?_
                refine x_callV hC hw (lv_size hl) (c_X5_set l G hRk_35 (p0 := p0) (by omega) (p1 := j) (by omega) (p2 := (-10000)) (by omega) (by omega) (by omega) (by omega) (fun q9 => absurd rfl q9)) gX5_strikeValue_X5_set rfl dv_X5_set hRk_35.1.1 rfl rfl (Nat.le_of_ble_eq_true rfl) (by rw [hRf]; decide) (by rw [hRl]; decide) (by omega) (by omega) dX5_strikeValue_83 (fun r9 M_39 H locs hq hw => ?_)
                obtain ⟨z_40, rfl, hz_40a, hz_40b, hx5k_41, brk_41, fvvk_41, hRk_41⟩ := hq
                show W p l e R s m args below meth c H locs _ _ _ (F0 m 86 ls [.int (iN (z_40))])
                refine lv_pop hC.1 hC.2.1 dX5_strikeValue_86 rfl ?_
                refine x_const hC dX5_strikeValue_87 ?_
                exact x_zret hC hw (by omega) dX5_strikeValue_88 (by omega) (by omega) ⟨1, rfl, by omega, ⟨_, _, _, _, _, _, _, _, _, _, _, _, _, _, _, _, _, _, _, _, hRk_41⟩⟩
              · refine lv_goto (tgt := 89) hC.1 hC.2.1 dX5_strikeValue_74 (by decide) ?_
                refine x_iinc (lv' := [(3, .int (iN (j + 1))), (0, .ref a), (1, .int (iN (p0))), (2, .int (iN (p1)))]) hC dX5_strikeValue_89 hl (k := 3) rfl (by decide) rfl (fun ls hl => ?_)
                refine lv_goto (tgt := 56) hC.1 hC.2.1 dX5_strikeValue_92 (by decide) ?_
                exact ih56 (j + 1)  _ _ _ (by omega) (by omega) hw (lv_sub hl [1, 2, 3, 0] rfl)
        · refine x_const hC dX5_strikeValue_47 ?_
          exact x_zret hC hw (by omega) dX5_strikeValue_48 (by omega) (by omega) ⟨0, rfl, by omega, ⟨_, _, _, _, _, _, _, _, _, _, _, _, _, _, _, _, _, _, _, _, hRk_31⟩⟩
set_option maxHeartbeats 4000000 in
set_option maxRecDepth 100000 in
theorem c_X5_clear (l : Launch) (G : xG) {M : HM} {a va oa wa ya : Nat} {wk : Option Nat} {th rfd br re la ha kp kv : Int32} {qv qw : Nat → Nat} {fa fb : Nat → Option Nat} {fvv fw : Nat → Nat → Int32} {fo : Nat → Int32} {fy : Nat → Option Nat} {S : Nat → Bool} (hR : MGx G M a va oa wa ya wk th rfd br re la ha kp kv qv qw fa fb fvv fw fo fy S) {p0 : Int} (hp0 : -2147483648 ≤ p0 ∧ p0 ≤ 2147483647) : xMet l G yX5_clear wsX5_clear 4 90 1 5 [.ref a, .int (iN (p0))] M (fun r M1 => ∃ z : Int, r = some (.int (iN z)) ∧ (-2147483648 ≤ z ∧ z ≤ 2147483647) ∧ MGm G M1 a rfd S) := by
  refine x_intro (cc := cX5_clear) (maxL := 2) (ret := (some .int)) (by decide +kernel) rfl (Nat.le_of_ble_eq_true rfl) ?_
  intro p e R s m args below meth c ls hRf hRc hRs hRl hC hw hl
  have hl : lv_has ls 2 [(0, .ref a), (1, .int (iN (p0)))] := hl
  refine lv_aload_n hC.1 hC.2.1 dX5_clear_0 rfl (lv_at hl 0 rfl) ?_
  refine lv_iload_n hC.1 hC.2.1 dX5_clear_1 rfl (lv_at hl 1 rfl) ?_
  refine x_callS hC hw (lv_size hl) (c_X5_isNoBook l G (M := M) (p0 := p0) (by omega)) gX5_clear_X5_isNoBook rfl dv_X5_isNoBook_s rfl (Nat.le_of_ble_eq_true rfl) (by rw [hRf]; decide) (by rw [hRl]; decide) (by omega) (by omega) dX5_clear_2 (fun r9 M_1 H locs hq hw => ?_)
  obtain ⟨z_2, rfl, hM9, hz_2a, hz_2b⟩ := hq
  rw [hM9] at hw
  show W p l e R s m args below meth c H locs _ _ _ (F0 m 5 ls [.int (iN (z_2)), .ref a])
  refine x_const hC dX5_clear_5 ?_
  refine x_callV hC hw (lv_size hl) (c_X5_start l G hR (p0 := z_2) (by omega) (p1 := 1) (by omega) (by omega)) gX5_clear_X5_start rfl dv_X5_start hR.1.1 rfl rfl (Nat.le_of_ble_eq_true rfl) (by rw [hRf]; decide) (by rw [hRl]; decide) (by omega) (by omega) dX5_clear_6 (fun r9 M_3 H locs hq hw => ?_)
  obtain ⟨z_4, rfl, hz_4a, hz_4b, thk_5, hRk_5⟩ := hq
  show W p l e R s m args below meth c H locs _ _ _ (F0 m 9 ls [.int (iN (z_4))])
  refine x_if_eq (tgt := 14) hC ⟨by omega, by omega⟩ dX5_clear_9 (by decide) (fun c_6 => ?_) (fun c_6 => ?_)
  · refine lv_aload_n hC.1 hC.2.1 dX5_clear_14 rfl (lv_at hl 0 rfl) ?_
    refine lv_iload_n hC.1 hC.2.1 dX5_clear_15 rfl (lv_at hl 1 rfl) ?_
    refine x_callV hC hw (lv_size hl) (c_X5_touch l G hRk_5 (p0 := p0) (by omega)) gX5_clear_X5_touch rfl dv_X5_touch hRk_5.1.1 rfl rfl (Nat.le_of_ble_eq_true rfl) (by rw [hRf]; decide) (by rw [hRl]; decide) (by omega) (by omega) dX5_clear_16 (fun r9 M_7 H locs hq hw => ?_)
    obtain ⟨rfl, hak_9, hRk_9⟩ := hq
    show W p l e R s m args below meth c H locs _ _ _ (F0 m 19 ls [])
    refine lv_aload_n hC.1 hC.2.1 dX5_clear_19 rfl (lv_at hl 0 rfl) ?_
    refine lv_iload_n hC.1 hC.2.1 dX5_clear_20 rfl (lv_at hl 1 rfl) ?_
    refine x_callS hC hw (lv_size hl) (c_X5_whole l G (M := M_7) (p0 := p0) (by omega) (by omega)) gX5_clear_X5_whole rfl dv_X5_whole_s rfl (Nat.le_of_ble_eq_true rfl) (by rw [hRf]; decide) (by rw [hRl]; decide) (by omega) (by omega) dX5_clear_21 (fun r9 M_10 H locs hq hw => ?_)
    obtain ⟨qk_11, fk_11, rfl, hxk_11, hIk_11, hfk_11⟩ := hq
    have h_12 := hRk_9.ext hxk_11
    obtain ⟨hvt_13, hat_13, hbt_13, hct_13, hdt_13, het_13⟩ := id hIk_11
    show W p l e R s m args below meth c H locs _ _ _ (F0 m 24 ls [.ref qk_11, .ref a])
    refine x_callV hC hw (lv_size hl) (c_X5_strikeAll l G h_12 hIk_11) gX5_clear_X5_strikeAll rfl dv_X5_strikeAll h_12.1.1 rfl rfl (Nat.le_of_ble_eq_true rfl) (by rw [hRf]; decide) (by rw [hRl]; decide) (by omega) (by omega) dX5_clear_24 (fun r9 M_14 H locs hq hw => ?_)
    obtain ⟨z_15, rfl, hz_15a, brk_16, fvvk_16, hRk_16⟩ := hq
    show W p l e R s m args below meth c H locs _ _ _ (F0 m 27 ls [.int (iN (z_15))])
    exact x_iret hC hw dX5_clear_27 (by omega) (by omega) ⟨z_15, rfl, by omega, ⟨_, _, _, _, _, _, _, _, _, _, _, _, _, _, _, _, _, _, _, _, hRk_16⟩⟩
  · refine x_const hC dX5_clear_12 ?_
    exact x_iret hC hw dX5_clear_13 (by omega) (by omega) ⟨0, rfl, by omega, ⟨_, _, _, _, _, _, _, _, _, _, _, _, _, _, _, _, _, _, _, _, hRk_5⟩⟩
set_option maxHeartbeats 4000000 in
set_option maxRecDepth 100000 in
theorem c_X5_pour (l : Launch) (G : xG) {M : HM} {a va oa wa ya : Nat} {wk : Option Nat} {th rfd br re la ha kp kv : Int32} {qv qw : Nat → Nat} {fa fb : Nat → Option Nat} {fvv fw : Nat → Nat → Int32} {fo : Nat → Int32} {fy : Nat → Option Nat} {S : Nat → Bool} (hR : MGx G M a va oa wa ya wk th rfd br re la ha kp kv qv qw fa fb fvv fw fo fy S) {p0 : Int} (hp0 : -2147483648 ≤ p0 ∧ p0 ≤ 2147483647) {p1 : Int} (hp1 : -2147483648 ≤ p1 ∧ p1 ≤ 2147483647) : xMet l G yX5_pour wsX5_pour 4 90 1 5 [.ref a, .int (iN (p0)), .int (iN (p1))] M (fun r M1 => ∃ z : Int, r = some (.int (iN z)) ∧ (-2147483648 ≤ z ∧ z ≤ 2147483647) ∧ MGm G M1 a rfd S) := by
  refine x_intro (cc := cX5_pour) (maxL := 4) (ret := (some .int)) (by decide +kernel) rfl (Nat.le_of_ble_eq_true rfl) ?_
  intro p e R s m args below meth c ls hRf hRc hRs hRl hC hw hl
  have hinX5 : ∀ w ∈ wsX50, w ∈ wsX5_pour := by decide +kernel
  have hl : lv_has ls 4 [(0, .ref a), (1, .int (iN (p0))), (2, .int (iN (p1)))] := hl
  refine lv_aload_n hC.1 hC.2.1 dX5_pour_0 rfl (lv_at hl 0 rfl) ?_
  refine lv_iload_n hC.1 hC.2.1 dX5_pour_1 rfl (lv_at hl 1 rfl) ?_
  refine lv_iload_n hC.1 hC.2.1 dX5_pour_2 rfl (lv_at hl 2 rfl) ?_
  refine x_callV hC hw (lv_size hl) (c_X5_areBad l G hR (p0 := p0) (by omega) (p1 := p1) (by omega)) gX5_pour_X5_areBad rfl dv_X5_areBad hR.1.1 rfl rfl (Nat.le_of_ble_eq_true rfl) (by rw [hRf]; decide) (by rw [hRl]; decide) (by omega) (by omega) dX5_pour_3 (fun r9 M_1 H locs hq hw => ?_)
  obtain ⟨z_2, rfl, hz_2a, hz_2b, thk_3, hRk_3⟩ := hq
  show W p l e R s m args below meth c H locs _ _ _ (F0 m 6 ls [.int (iN (z_2))])
  refine x_if_eq (tgt := 11) hC ⟨by omega, by omega⟩ dX5_pour_6 (by decide) (fun c_4 => ?_) (fun c_4 => ?_)
  · refine lv_aload_n hC.1 hC.2.1 dX5_pour_11 rfl (lv_at hl 0 rfl) ?_
    refine lv_iload_n hC.1 hC.2.1 dX5_pour_12 rfl (lv_at hl 2 rfl) ?_
    refine x_callV hC hw (lv_size hl) (c_X5_touch l G hRk_3 (p0 := p1) (by omega)) gX5_pour_X5_touch rfl dv_X5_touch hRk_3.1.1 rfl rfl (Nat.le_of_ble_eq_true rfl) (by rw [hRf]; decide) (by rw [hRl]; decide) (by omega) (by omega) dX5_pour_13 (fun r9 M_5 H locs hq hw => ?_)
    obtain ⟨rfl, hak_7, hRk_7⟩ := hq
    show W p l e R s m args below meth c H locs _ _ _ (F0 m 16 ls [])
    refine x_const hC dX5_pour_16 ?_
    refine lv_istore_n (lv' := [(3, .int (iN (0))), (0, .ref a), (1, .int (iN (p0))), (2, .int (iN (p1)))]) hC.1 hC.2.1 dX5_pour_17 rfl hl (by decide) rfl (fun ls hl => ?_)
    suffices hloop18 : ∀ (n9 : Nat) (j : Int) (M1 : HM) (br1 : Int32) (fvv1 : Nat → Nat → Int32) (hR1 : MGx G M1 a va oa wa ya wk thk_3 rfd br1 re la hak_7 kp kv qv qw fa fb fvv1 fw fo fy S) (H : Heap) (locs : List Loc) (ls : Array Slot), (hmu : (100 - j).toNat < n9) → (hi0 : 0 ≤ j ∧ j ≤ 100) → xD G (xA M s.heap.size) s M1 H locs → lv_has ls 4 [(0, .ref a), (1, .int (iN (p0))), (2, .int (iN (p1))), (3, .int (iN (j)))] → W p l e R s m args below meth c H locs _ _ _ (F0 m 18 ls []) by
      exact hloop18 _ 0 _ _ _ hRk_7 _ _ _ (Nat.lt_succ_self _) (by omega) hw (lv_sub hl [1, 2, 3, 0] rfl)
    intro n9
    induction n9 with
    | zero => intro j M1 br1 fvv1 hR1 H locs ls hmu; exact absurd hmu (Nat.not_lt_zero _)
    | succ n9 ih18 =>
      intro j M1 br1 fvv1 hR1 H locs ls hmu hi0 hw hl
      refine lv_iload_n hC.1 hC.2.1 dX5_pour_18 rfl (lv_at hl 3 rfl) ?_
      refine x_bipush hC dX5_pour_19 (by decide +kernel) ?_
      refine x_icmp_ge (tgt := 59) hC ⟨by omega, by omega⟩ ⟨by omega, by omega⟩ dX5_pour_21 (by decide) (fun c_8 => ?_) (fun c_8 => ?_)
      · refine lv_aload_n hC.1 hC.2.1 dX5_pour_59 rfl (lv_at hl 0 rfl) ?_
        refine lv_iload_n hC.1 hC.2.1 dX5_pour_60 rfl (lv_at hl 2 rfl) ?_
        refine x_callS hC hw (lv_size hl) (c_X5_whole l G (M := M1) (p0 := p1) (by omega) (by omega)) gX5_pour_X5_whole rfl dv_X5_whole_s rfl (Nat.le_of_ble_eq_true rfl) (by rw [hRf]; decide) (by rw [hRl]; decide) (by omega) (by omega) dX5_pour_61 (fun r9 M_9 H locs hq hw => ?_)
        obtain ⟨qk_10, fk_10, rfl, hxk_10, hIk_10, hfk_10⟩ := hq
        have h_11 := hR1.ext hxk_10
        obtain ⟨hvt_12, hat_12, hbt_12, hct_12, hdt_12, het_12⟩ := id hIk_10
        show W p l e R s m args below meth c H locs _ _ _ (F0 m 64 ls [.ref qk_10, .ref a])
        refine x_callV hC hw (lv_size hl) (c_X5_many l G h_11 hIk_10) gX5_pour_X5_many rfl dv_X5_many h_11.1.1 rfl rfl (Nat.le_of_ble_eq_true rfl) (by rw [hRf]; decide) (by rw [hRl]; decide) (by omega) (by omega) dX5_pour_64 (fun r9 M_13 H locs hq hw => ?_)
        obtain ⟨z_14, rfl, hM9, hz_14a⟩ := hq
        rw [hM9] at hw
        show W p l e R s m args below meth c H locs _ _ _ (F0 m 67 ls [.int (iN (z_14))])
        exact x_iret hC hw dX5_pour_67 (by omega) (by omega) ⟨z_14, rfl, by omega, ⟨_, _, _, _, _, _, _, _, _, _, _, _, _, _, _, _, _, _, _, _, h_11⟩⟩
      · refine lv_aload_n hC.1 hC.2.1 dX5_pour_24 rfl (lv_at hl 0 rfl) ?_
        refine x_get hC hw hR1.1.1 rfl hinX5 2 (by decide) (by decide +kernel) rfl dX5_pour_25 ?_
        refine lv_iload_n hC.1 hC.2.1 dX5_pour_28 rfl (lv_at hl 1 rfl) ?_
        refine x_ald4 hC hw hR1.1.2.1 (by omega) (by omega) (by omega) dX5_pour_29 ?_
        rw [hR1.fa' (show (p0).toNat < 3 by omega)]
        show W p l e R s m args below meth c _ _ _ _ _ (F0 m 30 ls [.ref (qv (p0).toNat)])
        refine lv_iload_n hC.1 hC.2.1 dX5_pour_30 rfl (lv_at hl 3 rfl) ?_
        refine x_iald hC hw (hR1.rv (show (p0).toNat < 3 by omega)) (by omega) (by omega) (by omega) dX5_pour_31 ?_
        obtain ⟨z_15, hz_15⟩ : ∃ z : Int, z = ((fvv1 (p0).toNat) (j).toNat).toInt := ⟨_, rfl⟩
        rw [← hz_15]
        have hrz_15 : -10000 ≤ z_15 ∧ z_15 ≤ 9999 := by rw [hz_15]; exact hR1.vr (by omega) (by omega)
        have hpz_15 : z_15 ≠ -10000 → S (j).toNat = true := by rw [hz_15]; exact hR1.vs (by omega) (by omega)
        refine x_sipush hC dX5_pour_32 (by decide +kernel) ?_
        refine x_icmp_eq (tgt := 53) hC ⟨by omega, by omega⟩ ⟨by omega, by omega⟩ dX5_pour_35 (by decide) (fun c_16 => ?_) (fun c_16 => ?_)
        · refine x_iinc (lv' := [(3, .int (iN (j + 1))), (0, .ref a), (1, .int (iN (p0))), (2, .int (iN (p1)))]) hC dX5_pour_53 hl (k := 3) rfl (by decide) rfl (fun ls hl => ?_)
          refine lv_goto (tgt := 18) hC.1 hC.2.1 dX5_pour_56 (by decide) ?_
          exact ih18 (j + 1) _ _ _ hR1 _ _ _ (by omega) (by omega) hw (lv_sub hl [1, 2, 3, 0] rfl)
        · refine lv_aload_n hC.1 hC.2.1 dX5_pour_38 rfl (lv_at hl 0 rfl) ?_
          refine lv_iload_n hC.1 hC.2.1 dX5_pour_39 rfl (lv_at hl 2 rfl) ?_
          refine lv_iload_n hC.1 hC.2.1 dX5_pour_40 rfl (lv_at hl 3 rfl) ?_
          refine lv_aload_n hC.1 hC.2.1 dX5_pour_41 rfl (lv_at hl 0 rfl) ?_
          refine x_get hC hw hR1.1.1 rfl hinX5 2 (by decide) (by decide +kernel) rfl dX5_pour_42 ?_
          refine lv_iload_n hC.1 hC.2.1 dX5_pour_45 rfl (lv_at hl 1 rfl) ?_
          refine x_ald4 hC hw hR1.1.2.1 (by omega) (by omega) (by omega) dX5_pour_46 ?_
          rw [hR1.fa' (show (p0).toNat < 3 by omega)]
          show W p l e R s m args below meth c _ _ _ _ _ (F0 m 47 ls [.ref (qv (p0).toNat), .int (iN (j)), .int (iN (p1)), .ref a])
          refine lv_iload_n hC.1 hC.2.1 dX5_pour_47 rfl (lv_at hl 3 rfl) ?_
          refine x_iald hC hw (hR1.rv (show (p0).toNat < 3 by omega)) (by omega) (by omega) (by omega) dX5_pour_48 ?_
          obtain ⟨z_17, hz_17⟩ : ∃ z : Int, z = ((fvv1 (p0).toNat) (j).toNat).toInt := ⟨_, rfl⟩
          rw [← hz_17]
          have hrz_17 : -10000 ≤ z_17 ∧ z_17 ≤ 9999 := by rw [hz_17]; exact hR1.vr (by omega) (by omega)
          have hpz_17 : z_17 ≠ -10000 → S (j).toNat = true := by rw [hz_17]; exact hR1.vs (by omega) (by omega)
          refine x_callV hC hw (lv_size hl) (c_X5_set l G hR1 (p0 := p1) (by omega) (p1 := j) (by omega) (p2 := z_17) (by omega) (by omega) (by omega) (by omega) (by intro q9; first | exact absurd rfl q9 | assumption | exact hpz_15 q9 | exact hpz_17 q9 | exact hpz_15 (by omega) | exact hpz_17 (by omega))) gX5_pour_X5_set rfl dv_X5_set hR1.1.1 rfl rfl (Nat.le_of_ble_eq_true rfl) (by rw [hRf]; decide) (by rw [hRl]; decide) (by omega) (by omega) dX5_pour_49 (fun r9 M_18 H locs hq hw => ?_)
          obtain ⟨z_19, rfl, hz_19a, hz_19b, hx5k_20, brk_20, fvvk_20, hRk_20⟩ := hq
          show W p l e R s m args below meth c H locs _ _ _ (F0 m 52 ls [.int (iN (z_19))])
          refine lv_pop hC.1 hC.2.1 dX5_pour_52 rfl ?_
          refine x_iinc (lv' := [(3, .int (iN (j + 1))), (0, .ref a), (1, .int (iN (p0))), (2, .int (iN (p1)))]) hC dX5_pour_53 hl (k := 3) rfl (by decide) rfl (fun ls hl => ?_)
          refine lv_goto (tgt := 18) hC.1 hC.2.1 dX5_pour_56 (by decide) ?_
          exact ih18 (j + 1) _ _ _ hRk_20 _ _ _ (by omega) (by omega) hw (lv_sub hl [1, 2, 3, 0] rfl)
  · refine x_const hC dX5_pour_9 ?_
    exact x_iret hC hw dX5_pour_10 (by omega) (by omega) ⟨0, rfl, by omega, ⟨_, _, _, _, _, _, _, _, _, _, _, _, _, _, _, _, _, _, _, _, hRk_3⟩⟩
set_option maxHeartbeats 4000000 in
set_option maxRecDepth 100000 in
theorem c_X5_thin (l : Launch) (G : xG) {M : HM} {a va oa wa ya : Nat} {wk : Option Nat} {th rfd br re la ha kp kv : Int32} {qv qw : Nat → Nat} {fa fb : Nat → Option Nat} {fvv fw : Nat → Nat → Int32} {fo : Nat → Int32} {fy : Nat → Option Nat} {S : Nat → Bool} (hR : MGx G M a va oa wa ya wk th rfd br re la ha kp kv qv qw fa fb fvv fw fo fy S) {p0 : Int} (hp0 : -2147483648 ≤ p0 ∧ p0 ≤ 2147483647) {p1 : Int} (hp1 : -2147483648 ≤ p1 ∧ p1 ≤ 2147483647) {p2 : Int} (hp2 : -2147483648 ≤ p2 ∧ p2 ≤ 2147483647) : xMet l G yX5_thin wsX5_thin 3 66 0 0 [.ref a, .int (iN (p0)), .int (iN (p1)), .int (iN (p2))] M (fun r M1 => ∃ z : Int, r = some (.int (iN z)) ∧ (-2147483648 ≤ z ∧ z ≤ 2147483647) ∧ MGm G M1 a rfd S) := by
  refine x_intro (cc := cX5_thin) (maxL := 6) (ret := (some .int)) (by decide +kernel) rfl (Nat.le_of_ble_eq_true rfl) ?_
  intro p e R s m args below meth c ls hRf hRc hRs hRl hC hw hl
  have hinX5 : ∀ w ∈ wsX50, w ∈ wsX5_thin := by decide +kernel
  have hl : lv_has ls 6 [(0, .ref a), (1, .int (iN (p0))), (2, .int (iN (p1))), (3, .int (iN (p2)))] := hl
  refine lv_aload_n hC.1 hC.2.1 dX5_thin_0 rfl (lv_at hl 0 rfl) ?_
  refine lv_iload_n hC.1 hC.2.1 dX5_thin_1 rfl (lv_at hl 1 rfl) ?_
  refine lv_iload_n hC.1 hC.2.1 dX5_thin_2 rfl (lv_at hl 2 rfl) ?_
  refine x_callV hC hw (lv_size hl) (c_X5_areBad l G hR (p0 := p0) (by omega) (p1 := p1) (by omega)) gX5_thin_X5_areBad rfl dv_X5_areBad hR.1.1 rfl rfl (Nat.le_of_ble_eq_true rfl) (by rw [hRf]; decide) (by rw [hRl]; decide) (by omega) (by omega) dX5_thin_3 (fun r9 M_1 H locs hq hw => ?_)
  obtain ⟨z_2, rfl, hz_2a, hz_2b, thk_3, hRk_3⟩ := hq
  show W p l e R s m args below meth c H locs _ _ _ (F0 m 6 ls [.int (iN (z_2))])
  refine x_if_eq (tgt := 11) hC ⟨by omega, by omega⟩ dX5_thin_6 (by decide) (fun c_4 => ?_) (fun c_4 => ?_)
  · refine lv_aload_n hC.1 hC.2.1 dX5_thin_11 rfl (lv_at hl 0 rfl) ?_
    refine lv_iload_n hC.1 hC.2.1 dX5_thin_12 rfl (lv_at hl 1 rfl) ?_
    refine x_callV hC hw (lv_size hl) (c_X5_touch l G hRk_3 (p0 := p0) (by omega)) gX5_thin_X5_touch rfl dv_X5_touch hRk_3.1.1 rfl rfl (Nat.le_of_ble_eq_true rfl) (by rw [hRf]; decide) (by rw [hRl]; decide) (by omega) (by omega) dX5_thin_13 (fun r9 M_5 H locs hq hw => ?_)
    obtain ⟨rfl, hak_7, hRk_7⟩ := hq
    show W p l e R s m args below meth c H locs _ _ _ (F0 m 16 ls [])
    refine x_const hC dX5_thin_16 ?_
    refine lv_istore (lv' := [(4, .int (iN (0))), (0, .ref a), (1, .int (iN (p0))), (2, .int (iN (p1))), (3, .int (iN (p2)))]) hC.1 hC.2.1 dX5_thin_17 hl (by decide) rfl (fun ls hl => ?_)
    refine x_const hC dX5_thin_19 ?_
    refine lv_istore (lv' := [(5, .int (iN (0))), (4, .int (iN (0))), (0, .ref a), (1, .int (iN (p0))), (2, .int (iN (p1))), (3, .int (iN (p2)))]) hC.1 hC.2.1 dX5_thin_20 hl (by decide) rfl (fun ls hl => ?_)
    suffices hloop22 : ∀ (n9 : Nat) (n : Int) (j : Int) (M1 : HM) (br1 : Int32) (fvv1 : Nat → Nat → Int32) (hR1 : MGx G M1 a va oa wa ya wk thk_3 rfd br1 re la hak_7 kp kv qv qw fa fb fvv1 fw fo fy S) (H : Heap) (locs : List Loc) (ls : Array Slot), (hmu : (100 - j).toNat < n9) → (hi0 : 0 ≤ j ∧ j ≤ 100) → (hi1 : 0 ≤ n ∧ n ≤ j) → xD G (xA M s.heap.size) s M1 H locs → lv_has ls 6 [(0, .ref a), (1, .int (iN (p0))), (2, .int (iN (p1))), (3, .int (iN (p2))), (4, .int (iN (n))), (5, .int (iN (j)))] → W p l e R s m args below meth c H locs _ _ _ (F0 m 22 ls []) by
      exact hloop22 _ 0 0 _ _ _ hRk_7 _ _ _ (Nat.lt_succ_self _) (by omega) (by omega) hw (lv_sub hl [2, 3, 4, 5, 1, 0] rfl)
    intro n9
    induction n9 with
    | zero => intro n j M1 br1 fvv1 hR1 H locs ls hmu; exact absurd hmu (Nat.not_lt_zero _)
    | succ n9 ih22 =>
      intro n j M1 br1 fvv1 hR1 H locs ls hmu hi0 hi1 hw hl
      refine lv_iload hC.1 hC.2.1 dX5_thin_22 (lv_at hl 5 rfl) ?_
      refine x_bipush hC dX5_thin_24 (by decide +kernel) ?_
      refine x_icmp_ge (tgt := 91) hC ⟨by omega, by omega⟩ ⟨by omega, by omega⟩ dX5_thin_26 (by decide) (fun c_8 => ?_) (fun c_8 => ?_)
      · refine lv_iload hC.1 hC.2.1 dX5_thin_91 (lv_at hl 4 rfl) ?_
        exact x_iret hC hw dX5_thin_93 (by omega) (by omega) ⟨n, rfl, by omega, ⟨_, _, _, _, _, _, _, _, _, _, _, _, _, _, _, _, _, _, _, _, hR1⟩⟩
      · refine lv_aload_n hC.1 hC.2.1 dX5_thin_29 rfl (lv_at hl 0 rfl) ?_
        refine x_get hC hw hR1.1.1 rfl hinX5 2 (by decide) (by decide +kernel) rfl dX5_thin_30 ?_
        refine lv_iload_n hC.1 hC.2.1 dX5_thin_33 rfl (lv_at hl 1 rfl) ?_
        refine x_ald4 hC hw hR1.1.2.1 (by omega) (by omega) (by omega) dX5_thin_34 ?_
        rw [hR1.fa' (show (p0).toNat < 3 by omega)]
        show W p l e R s m args below meth c _ _ _ _ _ (F0 m 35 ls [.ref (qv (p0).toNat)])
        refine lv_iload hC.1 hC.2.1 dX5_thin_35 (lv_at hl 5 rfl) ?_
        refine x_iald hC hw (hR1.rv (show (p0).toNat < 3 by omega)) (by omega) (by omega) (by omega) dX5_thin_37 ?_
        obtain ⟨z_9, hz_9⟩ : ∃ z : Int, z = ((fvv1 (p0).toNat) (j).toNat).toInt := ⟨_, rfl⟩
        rw [← hz_9]
        have hrz_9 : -10000 ≤ z_9 ∧ z_9 ≤ 9999 := by rw [hz_9]; exact hR1.vr (by omega) (by omega)
        have hpz_9 : z_9 ≠ -10000 → S (j).toNat = true := by rw [hz_9]; exact hR1.vs (by omega) (by omega)
        refine x_sipush hC dX5_thin_38 (by decide +kernel) ?_
        refine x_icmp_eq (tgt := 85) hC ⟨by omega, by omega⟩ ⟨by omega, by omega⟩ dX5_thin_41 (by decide) (fun c_10 => ?_) (fun c_10 => ?_)
        · refine x_iinc (lv' := [(5, .int (iN (j + 1))), (0, .ref a), (1, .int (iN (p0))), (2, .int (iN (p1))), (3, .int (iN (p2))), (4, .int (iN (n)))]) hC dX5_thin_85 hl (k := 5) rfl (by decide) rfl (fun ls hl => ?_)
          refine lv_goto (tgt := 22) hC.1 hC.2.1 dX5_thin_88 (by decide) ?_
          exact ih22 n (j + 1) _ _ _ hR1 _ _ _ (by omega) (by omega) (by omega) hw (lv_sub hl [1, 2, 3, 4, 5, 0] rfl)
        · refine lv_aload_n hC.1 hC.2.1 dX5_thin_44 rfl (lv_at hl 0 rfl) ?_
          refine x_get hC hw hR1.1.1 rfl hinX5 2 (by decide) (by decide +kernel) rfl dX5_thin_45 ?_
          refine lv_iload_n hC.1 hC.2.1 dX5_thin_48 rfl (lv_at hl 2 rfl) ?_
          refine x_ald4 hC hw hR1.1.2.1 (by omega) (by omega) (by omega) dX5_thin_49 ?_
          rw [hR1.fa' (show (p1).toNat < 3 by omega)]
          show W p l e R s m args below meth c _ _ _ _ _ (F0 m 50 ls [.ref (qv (p1).toNat)])
          refine lv_iload hC.1 hC.2.1 dX5_thin_50 (lv_at hl 5 rfl) ?_
          refine x_iald hC hw (hR1.rv (show (p1).toNat < 3 by omega)) (by omega) (by omega) (by omega) dX5_thin_52 ?_
          obtain ⟨z_11, hz_11⟩ : ∃ z : Int, z = ((fvv1 (p1).toNat) (j).toNat).toInt := ⟨_, rfl⟩
          rw [← hz_11]
          have hrz_11 : -10000 ≤ z_11 ∧ z_11 ≤ 9999 := by rw [hz_11]; exact hR1.vr (by omega) (by omega)
          have hpz_11 : z_11 ≠ -10000 → S (j).toNat = true := by rw [hz_11]; exact hR1.vs (by omega) (by omega)
          refine x_sipush hC dX5_thin_53 (by decide +kernel) ?_
          refine x_icmp_eq (tgt := 63) hC ⟨by omega, by omega⟩ ⟨by omega, by omega⟩ dX5_thin_56 (by decide) (fun c_12 => ?_) (fun c_12 => ?_)
          · refine x_const hC dX5_thin_63 ?_
            refine lv_iload_n hC.1 hC.2.1 dX5_thin_64 rfl (lv_at hl 3 rfl) ?_
            refine x_icmp_eq (tgt := 71) hC ⟨by omega, by omega⟩ ⟨by omega, by omega⟩ dX5_thin_65 (by decide) (fun c_13 => ?_) (fun c_13 => ?_)
            · refine lv_aload_n hC.1 hC.2.1 dX5_thin_71 rfl (lv_at hl 0 rfl) ?_
              refine lv_iload_n hC.1 hC.2.1 dX5_thin_72 rfl (lv_at hl 1 rfl) ?_
              refine lv_iload hC.1 hC.2.1 dX5_thin_73 (lv_at hl 5 rfl) ?_
              refine x_sipush hC dX5_thin_75 (by decide +kernel) ?_
              refine x_callV hC hw (lv_size hl) (c_X5_set l G hR1 (p0 := p0) (by omega) (p1 := j) (by omega) (p2 := (-10000)) (by omega) (by omega) (by omega) (by omega) (fun q9 => absurd rfl q9)) gX5_thin_X5_set rfl dv_X5_set hR1.1.1 rfl rfl (Nat.le_of_ble_eq_true rfl) (by rw [hRf]; decide) (by rw [hRl]; decide) (by omega) (by omega) dX5_thin_78 (fun r9 M_14 H locs hq hw => ?_)
              obtain ⟨z_15, rfl, hz_15a, hz_15b, hx5k_16, brk_16, fvvk_16, hRk_16⟩ := hq
              show W p l e R s m args below meth c H locs _ _ _ (F0 m 81 ls [.int (iN (z_15))])
              refine lv_pop hC.1 hC.2.1 dX5_thin_81 rfl ?_
              refine x_iinc (lv' := [(4, .int (iN (n + 1))), (0, .ref a), (1, .int (iN (p0))), (2, .int (iN (p1))), (3, .int (iN (p2))), (5, .int (iN (j)))]) hC dX5_thin_82 hl (k := 4) rfl (by decide) rfl (fun ls hl => ?_)
              refine x_iinc (lv' := [(5, .int (iN (j + 1))), (4, .int (iN (n + 1))), (0, .ref a), (1, .int (iN (p0))), (2, .int (iN (p1))), (3, .int (iN (p2)))]) hC dX5_thin_85 hl (k := 5) rfl (by decide) rfl (fun ls hl => ?_)
              refine lv_goto (tgt := 22) hC.1 hC.2.1 dX5_thin_88 (by decide) ?_
              exact ih22 (n + 1) (j + 1) _ _ _ hRk_16 _ _ _ (by omega) (by omega) (by omega) hw (lv_sub hl [2, 3, 4, 5, 1, 0] rfl)
            · refine lv_goto (tgt := 85) hC.1 hC.2.1 dX5_thin_68 (by decide) ?_
              refine x_iinc (lv' := [(5, .int (iN (j + 1))), (0, .ref a), (1, .int (iN (p0))), (2, .int (iN (p1))), (3, .int (iN (p2))), (4, .int (iN (n)))]) hC dX5_thin_85 hl (k := 5) rfl (by decide) rfl (fun ls hl => ?_)
              refine lv_goto (tgt := 22) hC.1 hC.2.1 dX5_thin_88 (by decide) ?_
              exact ih22 n (j + 1) _ _ _ hR1 _ _ _ (by omega) (by omega) (by omega) hw (lv_sub hl [1, 2, 3, 4, 5, 0] rfl)
          · refine x_const hC dX5_thin_59 ?_
            refine lv_goto (tgt := 64) hC.1 hC.2.1 dX5_thin_60 (by decide) ?_
            refine lv_iload_n hC.1 hC.2.1 dX5_thin_64 rfl (lv_at hl 3 rfl) ?_
            refine x_icmp_eq (tgt := 71) hC ⟨by omega, by omega⟩ ⟨by omega, by omega⟩ dX5_thin_65 (by decide) (fun c_17 => ?_) (fun c_17 => ?_)
            · refine lv_aload_n hC.1 hC.2.1 dX5_thin_71 rfl (lv_at hl 0 rfl) ?_
              refine lv_iload_n hC.1 hC.2.1 dX5_thin_72 rfl (lv_at hl 1 rfl) ?_
              refine lv_iload hC.1 hC.2.1 dX5_thin_73 (lv_at hl 5 rfl) ?_
              refine x_sipush hC dX5_thin_75 (by decide +kernel) ?_
              refine x_callV hC hw (lv_size hl) (c_X5_set l G hR1 (p0 := p0) (by omega) (p1 := j) (by omega) (p2 := (-10000)) (by omega) (by omega) (by omega) (by omega) (fun q9 => absurd rfl q9)) gX5_thin_X5_set rfl dv_X5_set hR1.1.1 rfl rfl (Nat.le_of_ble_eq_true rfl) (by rw [hRf]; decide) (by rw [hRl]; decide) (by omega) (by omega) dX5_thin_78 (fun r9 M_18 H locs hq hw => ?_)
              obtain ⟨z_19, rfl, hz_19a, hz_19b, hx5k_20, brk_20, fvvk_20, hRk_20⟩ := hq
              show W p l e R s m args below meth c H locs _ _ _ (F0 m 81 ls [.int (iN (z_19))])
              refine lv_pop hC.1 hC.2.1 dX5_thin_81 rfl ?_
              refine x_iinc (lv' := [(4, .int (iN (n + 1))), (0, .ref a), (1, .int (iN (p0))), (2, .int (iN (p1))), (3, .int (iN (p2))), (5, .int (iN (j)))]) hC dX5_thin_82 hl (k := 4) rfl (by decide) rfl (fun ls hl => ?_)
              refine x_iinc (lv' := [(5, .int (iN (j + 1))), (4, .int (iN (n + 1))), (0, .ref a), (1, .int (iN (p0))), (2, .int (iN (p1))), (3, .int (iN (p2)))]) hC dX5_thin_85 hl (k := 5) rfl (by decide) rfl (fun ls hl => ?_)
              refine lv_goto (tgt := 22) hC.1 hC.2.1 dX5_thin_88 (by decide) ?_
              exact ih22 (n + 1) (j + 1) _ _ _ hRk_20 _ _ _ (by omega) (by omega) (by omega) hw (lv_sub hl [2, 3, 4, 5, 1, 0] rfl)
            · refine lv_goto (tgt := 85) hC.1 hC.2.1 dX5_thin_68 (by decide) ?_
              refine x_iinc (lv' := [(5, .int (iN (j + 1))), (0, .ref a), (1, .int (iN (p0))), (2, .int (iN (p1))), (3, .int (iN (p2))), (4, .int (iN (n)))]) hC dX5_thin_85 hl (k := 5) rfl (by decide) rfl (fun ls hl => ?_)
              refine lv_goto (tgt := 22) hC.1 hC.2.1 dX5_thin_88 (by decide) ?_
              exact ih22 n (j + 1) _ _ _ hR1 _ _ _ (by omega) (by omega) (by omega) hw (lv_sub hl [1, 2, 3, 4, 5, 0] rfl)
  · refine x_const hC dX5_thin_9 ?_
    exact x_iret hC hw dX5_thin_10 (by omega) (by omega) ⟨0, rfl, by omega, ⟨_, _, _, _, _, _, _, _, _, _, _, _, _, _, _, _, _, _, _, _, hRk_3⟩⟩
set_option maxHeartbeats 4000000 in
set_option maxRecDepth 100000 in
theorem c_X5_begin (l : Launch) (G : xG) {M : HM} {a va oa wa ya : Nat} {wk : Option Nat} {th rfd br re la ha kp kv : Int32} {qv qw : Nat → Nat} {fa fb : Nat → Option Nat} {fvv fw : Nat → Nat → Int32} {fo : Nat → Int32} {fy : Nat → Option Nat} {S : Nat → Bool} (hR : MGx G M a va oa wa ya wk th rfd br re la ha kp kv qv qw fa fb fvv fw fo fy S) {i : Nat} {fi : Nat → Int32} (hIi : Its G M i fi) : xMet l G yX5_begin wsX5_begin 0 0 0 0 [.ref a, .ref i] M (fun r M1 => r = none ∧ ∃ (br1 : Int32) (re1 : Int32) (la1 : Int32) (ha1 : Int32), MGx G M1 a va oa wa ya (some i) th rfd br1 re1 la1 ha1 kp kv qv qw fa fb fvv fw fo fy S) := by
  refine x_intro (cc := cX5_begin) (maxL := 2) (ret := none) (by decide +kernel) rfl (Nat.le_of_ble_eq_true rfl) ?_
  intro p e R s m args below meth c ls hRf hRc hRs hRl hC hw hl
  obtain ⟨hvt_1, hat_1, hbt_1, hct_1, hdt_1, het_1⟩ := id hIi
  have hinX5 : ∀ w ∈ wsX50, w ∈ wsX5_begin := by decide +kernel
  have hl : lv_has ls 2 [(0, .ref a), (1, .ref i)] := hl
  refine lv_aload_n hC.1 hC.2.1 dX5_begin_0 rfl (lv_at hl 0 rfl) ?_
  refine lv_aload_n hC.1 hC.2.1 dX5_begin_1 rfl (lv_at hl 1 rfl) ?_
  refine x_put (fs2 := [.int th, .int rfd, .ref va, .ref oa, .ref wa, .ref ya, .ref i, .int br, .int re, .int la, .int ha, .int kp, .int kv]) hC hw hR.1.1 rfl hinX5 tyX5 tyX5_ok nmX5 6 (by decide) (by decide +kernel) rfl rfl rfl (Nat.le_of_ble_eq_true rfl) rfl dX5_begin_2 (fun H locs hw => ?_)
  obtain ⟨M_2, hM_3⟩ : ∃ z, z = va_up M a (some (.inr (7, [.int th, .int rfd, .ref va, .ref oa, .ref wa, .ref ya, .ref i, .int br, .int re, .int la, .int ha, .int kp, .int kv]))) := ⟨_, rfl⟩
  rw [← hM_3] at hw
  have hR_4 : MGx G M_2 a va oa wa ya (some i) th rfd br re la ha kp kv qv qw fa fb fvv fw fo fy S := hR.obj hM_3 hR.sc.1 hR.sc.2.1 hR.sc.2.2 (fun y9 h9 => by cases h9; exact ⟨_, hIi⟩)
  have h_5 := hIi.x5 (hR.obj5 hM_3)
  refine lv_aload_n hC.1 hC.2.1 dX5_begin_5 rfl (lv_at hl 0 rfl) ?_
  refine x_const hC dX5_begin_6 ?_
  refine x_put (fs2 := [.int th, .int rfd, .ref va, .ref oa, .ref wa, .ref ya, .ref i, .int (iN (0)), .int re, .int la, .int ha, .int kp, .int kv]) hC hw hR_4.1.1 rfl hinX5 tyX5 tyX5_ok nmX5 7 (by decide) (by decide +kernel) rfl rfl rfl (Nat.le_of_ble_eq_true rfl) rfl dX5_begin_7 (fun H locs hw => ?_)
  obtain ⟨M_6, hM_7⟩ : ∃ z, z = va_up M_2 a (some (.inr (7, [.int th, .int rfd, .ref va, .ref oa, .ref wa, .ref ya, .ref i, .int (iN (0)), .int re, .int la, .int ha, .int kp, .int kv]))) := ⟨_, rfl⟩
  rw [← hM_7] at hw
  have hR_8 : MGx G M_6 a va oa wa ya (some i) th rfd (iN (0)) re la ha kp kv qv qw fa fb fvv fw fo fy S := hR_4.obj hM_7 hR_4.sc.1 hR_4.sc.2.1 hR_4.sc.2.2 (fun y9 h9 => hR_4.wk' h9)
  have h_9 := h_5.x5 (hR_4.obj5 hM_7)
  refine lv_aload_n hC.1 hC.2.1 dX5_begin_10 rfl (lv_at hl 0 rfl) ?_
  refine x_const hC dX5_begin_11 ?_
  refine x_put (fs2 := [.int th, .int rfd, .ref va, .ref oa, .ref wa, .ref ya, .ref i, .int (iN (0)), .int (iN ((-1))), .int la, .int ha, .int kp, .int kv]) hC hw hR_8.1.1 rfl hinX5 tyX5 tyX5_ok nmX5 8 (by decide) (by decide +kernel) rfl rfl rfl (Nat.le_of_ble_eq_true rfl) rfl dX5_begin_12 (fun H locs hw => ?_)
  obtain ⟨M_10, hM_11⟩ : ∃ z, z = va_up M_6 a (some (.inr (7, [.int th, .int rfd, .ref va, .ref oa, .ref wa, .ref ya, .ref i, .int (iN (0)), .int (iN ((-1))), .int la, .int ha, .int kp, .int kv]))) := ⟨_, rfl⟩
  rw [← hM_11] at hw
  have hR_12 : MGx G M_10 a va oa wa ya (some i) th rfd (iN (0)) (iN ((-1))) la ha kp kv qv qw fa fb fvv fw fo fy S := hR_8.obj hM_11 hR_8.sc.1 hR_8.sc.2.1 hR_8.sc.2.2 (fun y9 h9 => hR_8.wk' h9)
  have h_13 := h_9.x5 (hR_8.obj5 hM_11)
  refine lv_aload_n hC.1 hC.2.1 dX5_begin_15 rfl (lv_at hl 0 rfl) ?_
  refine x_sipush hC dX5_begin_16 (by decide +kernel) ?_
  refine x_put (fs2 := [.int th, .int rfd, .ref va, .ref oa, .ref wa, .ref ya, .ref i, .int (iN (0)), .int (iN ((-1))), .int (iN ((-10000))), .int ha, .int kp, .int kv]) hC hw hR_12.1.1 rfl hinX5 tyX5 tyX5_ok nmX5 9 (by decide) (by decide +kernel) rfl rfl rfl (Nat.le_of_ble_eq_true rfl) rfl dX5_begin_19 (fun H locs hw => ?_)
  obtain ⟨M_14, hM_15⟩ : ∃ z, z = va_up M_10 a (some (.inr (7, [.int th, .int rfd, .ref va, .ref oa, .ref wa, .ref ya, .ref i, .int (iN (0)), .int (iN ((-1))), .int (iN ((-10000))), .int ha, .int kp, .int kv]))) := ⟨_, rfl⟩
  rw [← hM_15] at hw
  have hR_16 : MGx G M_14 a va oa wa ya (some i) th rfd (iN (0)) (iN ((-1))) (iN ((-10000))) ha kp kv qv qw fa fb fvv fw fo fy S := hR_12.obj hM_15 hR_12.sc.1 (by rw [iN_toInt ⟨by omega, by omega⟩]; omega) hR_12.sc.2.2 (fun y9 h9 => hR_12.wk' h9)
  have h_17 := h_13.x5 (hR_12.obj5 hM_15)
  refine lv_aload_n hC.1 hC.2.1 dX5_begin_22 rfl (lv_at hl 0 rfl) ?_
  refine x_sipush hC dX5_begin_23 (by decide +kernel) ?_
  refine x_put (fs2 := [.int th, .int rfd, .ref va, .ref oa, .ref wa, .ref ya, .ref i, .int (iN (0)), .int (iN ((-1))), .int (iN ((-10000))), .int (iN ((-10000))), .int kp, .int kv]) hC hw hR_16.1.1 rfl hinX5 tyX5 tyX5_ok nmX5 10 (by decide) (by decide +kernel) rfl rfl rfl (Nat.le_of_ble_eq_true rfl) rfl dX5_begin_26 (fun H locs hw => ?_)
  obtain ⟨M_18, hM_19⟩ : ∃ z, z = va_up M_14 a (some (.inr (7, [.int th, .int rfd, .ref va, .ref oa, .ref wa, .ref ya, .ref i, .int (iN (0)), .int (iN ((-1))), .int (iN ((-10000))), .int (iN ((-10000))), .int kp, .int kv]))) := ⟨_, rfl⟩
  rw [← hM_19] at hw
  have hR_20 : MGx G M_18 a va oa wa ya (some i) th rfd (iN (0)) (iN ((-1))) (iN ((-10000))) (iN ((-10000))) kp kv qv qw fa fb fvv fw fo fy S := hR_16.obj hM_19 hR_16.sc.1 hR_16.sc.2.1 (by rw [iN_toInt ⟨by omega, by omega⟩]; omega) (fun y9 h9 => hR_16.wk' h9)
  have h_21 := h_17.x5 (hR_16.obj5 hM_19)
  exact x_vret hC hw dX5_begin_29 (by omega) (by omega) ⟨rfl, _, _, _, _, hR_20⟩
set_option maxHeartbeats 4000000 in
set_option maxRecDepth 100000 in
theorem c_X5_begin0 (l : Launch) (G : xG) {M : HM} {a va oa wa ya : Nat} {wk : Option Nat} {th rfd br re la ha kp kv : Int32} {qv qw : Nat → Nat} {fa fb : Nat → Option Nat} {fvv fw : Nat → Nat → Int32} {fo : Nat → Int32} {fy : Nat → Option Nat} {S : Nat → Bool} (hR : MGx G M a va oa wa ya wk th rfd br re la ha kp kv qv qw fa fb fvv fw fo fy S) : xMet l G yX5_begin wsX5_begin 0 0 0 0 [.ref a, .null] M (fun r M1 => r = none ∧ ∃ (br1 : Int32) (re1 : Int32) (la1 : Int32) (ha1 : Int32), MGx G M1 a va oa wa ya none th rfd br1 re1 la1 ha1 kp kv qv qw fa fb fvv fw fo fy S) := by
  refine x_intro (cc := cX5_begin) (maxL := 2) (ret := none) (by decide +kernel) rfl (Nat.le_of_ble_eq_true rfl) ?_
  intro p e R s m args below meth c ls hRf hRc hRs hRl hC hw hl
  have hinX5 : ∀ w ∈ wsX50, w ∈ wsX5_begin := by decide +kernel
  have hl : lv_has ls 2 [(0, .ref a), (1, .null)] := hl
  refine lv_aload_n hC.1 hC.2.1 dX5_begin_0 rfl (lv_at hl 0 rfl) ?_
  refine lv_aload_nN hC.1 hC.2.1 dX5_begin_1 rfl (lv_at hl 1 rfl) ?_
  refine x_put (fs2 := [.int th, .int rfd, .ref va, .ref oa, .ref wa, .ref ya, .null, .int br, .int re, .int la, .int ha, .int kp, .int kv]) hC hw hR.1.1 rfl hinX5 tyX5 tyX5_ok nmX5 6 (by decide) (by decide +kernel) rfl rfl rfl (Nat.le_of_ble_eq_true rfl) rfl dX5_begin_2 (fun H locs hw => ?_)
  obtain ⟨M_1, hM_2⟩ : ∃ z, z = va_up M a (some (.inr (7, [.int th, .int rfd, .ref va, .ref oa, .ref wa, .ref ya, .null, .int br, .int re, .int la, .int ha, .int kp, .int kv]))) := ⟨_, rfl⟩
  rw [← hM_2] at hw
  have hR_3 : MGx G M_1 a va oa wa ya none th rfd br re la ha kp kv qv qw fa fb fvv fw fo fy S := hR.obj hM_2 hR.sc.1 hR.sc.2.1 hR.sc.2.2 (fun y9 h9 => nomatch h9)
  refine lv_aload_n hC.1 hC.2.1 dX5_begin_5 rfl (lv_at hl 0 rfl) ?_
  refine x_const hC dX5_begin_6 ?_
  refine x_put (fs2 := [.int th, .int rfd, .ref va, .ref oa, .ref wa, .ref ya, .null, .int (iN (0)), .int re, .int la, .int ha, .int kp, .int kv]) hC hw hR_3.1.1 rfl hinX5 tyX5 tyX5_ok nmX5 7 (by decide) (by decide +kernel) rfl rfl rfl (Nat.le_of_ble_eq_true rfl) rfl dX5_begin_7 (fun H locs hw => ?_)
  obtain ⟨M_4, hM_5⟩ : ∃ z, z = va_up M_1 a (some (.inr (7, [.int th, .int rfd, .ref va, .ref oa, .ref wa, .ref ya, .null, .int (iN (0)), .int re, .int la, .int ha, .int kp, .int kv]))) := ⟨_, rfl⟩
  rw [← hM_5] at hw
  have hR_6 : MGx G M_4 a va oa wa ya none th rfd (iN (0)) re la ha kp kv qv qw fa fb fvv fw fo fy S := hR_3.obj hM_5 hR_3.sc.1 hR_3.sc.2.1 hR_3.sc.2.2 (fun y9 h9 => hR_3.wk' h9)
  refine lv_aload_n hC.1 hC.2.1 dX5_begin_10 rfl (lv_at hl 0 rfl) ?_
  refine x_const hC dX5_begin_11 ?_
  refine x_put (fs2 := [.int th, .int rfd, .ref va, .ref oa, .ref wa, .ref ya, .null, .int (iN (0)), .int (iN ((-1))), .int la, .int ha, .int kp, .int kv]) hC hw hR_6.1.1 rfl hinX5 tyX5 tyX5_ok nmX5 8 (by decide) (by decide +kernel) rfl rfl rfl (Nat.le_of_ble_eq_true rfl) rfl dX5_begin_12 (fun H locs hw => ?_)
  obtain ⟨M_7, hM_8⟩ : ∃ z, z = va_up M_4 a (some (.inr (7, [.int th, .int rfd, .ref va, .ref oa, .ref wa, .ref ya, .null, .int (iN (0)), .int (iN ((-1))), .int la, .int ha, .int kp, .int kv]))) := ⟨_, rfl⟩
  rw [← hM_8] at hw
  have hR_9 : MGx G M_7 a va oa wa ya none th rfd (iN (0)) (iN ((-1))) la ha kp kv qv qw fa fb fvv fw fo fy S := hR_6.obj hM_8 hR_6.sc.1 hR_6.sc.2.1 hR_6.sc.2.2 (fun y9 h9 => hR_6.wk' h9)
  refine lv_aload_n hC.1 hC.2.1 dX5_begin_15 rfl (lv_at hl 0 rfl) ?_
  refine x_sipush hC dX5_begin_16 (by decide +kernel) ?_
  refine x_put (fs2 := [.int th, .int rfd, .ref va, .ref oa, .ref wa, .ref ya, .null, .int (iN (0)), .int (iN ((-1))), .int (iN ((-10000))), .int ha, .int kp, .int kv]) hC hw hR_9.1.1 rfl hinX5 tyX5 tyX5_ok nmX5 9 (by decide) (by decide +kernel) rfl rfl rfl (Nat.le_of_ble_eq_true rfl) rfl dX5_begin_19 (fun H locs hw => ?_)
  obtain ⟨M_10, hM_11⟩ : ∃ z, z = va_up M_7 a (some (.inr (7, [.int th, .int rfd, .ref va, .ref oa, .ref wa, .ref ya, .null, .int (iN (0)), .int (iN ((-1))), .int (iN ((-10000))), .int ha, .int kp, .int kv]))) := ⟨_, rfl⟩
  rw [← hM_11] at hw
  have hR_12 : MGx G M_10 a va oa wa ya none th rfd (iN (0)) (iN ((-1))) (iN ((-10000))) ha kp kv qv qw fa fb fvv fw fo fy S := hR_9.obj hM_11 hR_9.sc.1 (by rw [iN_toInt ⟨by omega, by omega⟩]; omega) hR_9.sc.2.2 (fun y9 h9 => hR_9.wk' h9)
  refine lv_aload_n hC.1 hC.2.1 dX5_begin_22 rfl (lv_at hl 0 rfl) ?_
  refine x_sipush hC dX5_begin_23 (by decide +kernel) ?_
  refine x_put (fs2 := [.int th, .int rfd, .ref va, .ref oa, .ref wa, .ref ya, .null, .int (iN (0)), .int (iN ((-1))), .int (iN ((-10000))), .int (iN ((-10000))), .int kp, .int kv]) hC hw hR_12.1.1 rfl hinX5 tyX5 tyX5_ok nmX5 10 (by decide) (by decide +kernel) rfl rfl rfl (Nat.le_of_ble_eq_true rfl) rfl dX5_begin_26 (fun H locs hw => ?_)
  obtain ⟨M_13, hM_14⟩ : ∃ z, z = va_up M_10 a (some (.inr (7, [.int th, .int rfd, .ref va, .ref oa, .ref wa, .ref ya, .null, .int (iN (0)), .int (iN ((-1))), .int (iN ((-10000))), .int (iN ((-10000))), .int kp, .int kv]))) := ⟨_, rfl⟩
  rw [← hM_14] at hw
  have hR_15 : MGx G M_13 a va oa wa ya none th rfd (iN (0)) (iN ((-1))) (iN ((-10000))) (iN ((-10000))) kp kv qv qw fa fb fvv fw fo fy S := hR_12.obj hM_14 hR_12.sc.1 hR_12.sc.2.1 (by rw [iN_toInt ⟨by omega, by omega⟩]; omega) (fun y9 h9 => hR_12.wk' h9)
  exact x_vret hC hw dX5_begin_29 (by omega) (by omega) ⟨rfl, _, _, _, _, hR_15⟩
set_option maxHeartbeats 4000000 in
set_option maxRecDepth 100000 in
theorem c_X5_copy (l : Launch) (G : xG) {M : HM} {a va oa wa ya : Nat} {wk : Option Nat} {th rfd br re la ha kp kv : Int32} {qv qw : Nat → Nat} {fa fb : Nat → Option Nat} {fvv fw : Nat → Nat → Int32} {fo : Nat → Int32} {fy : Nat → Option Nat} {S : Nat → Bool} (hR : MGx G M a va oa wa ya wk th rfd br re la ha kp kv qv qw fa fb fvv fw fo fy S) {p0 : Int} (hp0 : -2147483648 ≤ p0 ∧ p0 ≤ 2147483647) {p1 : Int} (hp1 : -2147483648 ≤ p1 ∧ p1 ≤ 2147483647) : xMet l G yX5_copy wsX5_copy 3 66 0 0 [.ref a, .int (iN (p0)), .int (iN (p1))] M (fun r M1 => ∃ z : Int, r = some (.int (iN z)) ∧ (-2147483648 ≤ z ∧ z ≤ 2147483647) ∧ MGm G M1 a rfd S) := by
  refine x_intro (cc := cX5_copy) (maxL := 5) (ret := (some .int)) (by decide +kernel) rfl (Nat.le_of_ble_eq_true rfl) ?_
  intro p e R s m args below meth c ls hRf hRc hRs hRl hC hw hl
  have hinX5 : ∀ w ∈ wsX50, w ∈ wsX5_copy := by decide +kernel
  have hl : lv_has ls 5 [(0, .ref a), (1, .int (iN (p0))), (2, .int (iN (p1)))] := hl
  refine lv_aload_n hC.1 hC.2.1 dX5_copy_0 rfl (lv_at hl 0 rfl) ?_
  refine lv_iload_n hC.1 hC.2.1 dX5_copy_1 rfl (lv_at hl 1 rfl) ?_
  refine lv_iload_n hC.1 hC.2.1 dX5_copy_2 rfl (lv_at hl 2 rfl) ?_
  refine x_callV hC hw (lv_size hl) (c_X5_areBad l G hR (p0 := p0) (by omega) (p1 := p1) (by omega)) gX5_copy_X5_areBad rfl dv_X5_areBad hR.1.1 rfl rfl (Nat.le_of_ble_eq_true rfl) (by rw [hRf]; decide) (by rw [hRl]; decide) (by omega) (by omega) dX5_copy_3 (fun r9 M_1 H locs hq hw => ?_)
  obtain ⟨z_2, rfl, hz_2a, hz_2b, thk_3, hRk_3⟩ := hq
  show W p l e R s m args below meth c H locs _ _ _ (F0 m 6 ls [.int (iN (z_2))])
  refine x_if_eq (tgt := 11) hC ⟨by omega, by omega⟩ dX5_copy_6 (by decide) (fun c_4 => ?_) (fun c_4 => ?_)
  · refine lv_aload_n hC.1 hC.2.1 dX5_copy_11 rfl (lv_at hl 0 rfl) ?_
    refine x_get hC hw hRk_3.1.1 rfl hinX5 6 (by decide) (by decide +kernel) rfl dX5_copy_12 ?_
    rcases wk with _ | w_5
    · show W p l e R s m args below meth c _ _ _ _ _ (F0 m 15 ls [.null])
      refine lv_ifnullN (tgt := 33) hC.1 hC.2.1 dX5_copy_15 (by decide) ?_
      refine x_const hC dX5_copy_33 ?_
      refine lv_istore_n (lv' := [(3, .int (iN (0))), (0, .ref a), (1, .int (iN (p0))), (2, .int (iN (p1)))]) hC.1 hC.2.1 dX5_copy_34 rfl hl (by decide) rfl (fun ls hl => ?_)
      refine x_const hC dX5_copy_35 ?_
      refine lv_istore (lv' := [(4, .int (iN (0))), (3, .int (iN (0))), (0, .ref a), (1, .int (iN (p0))), (2, .int (iN (p1)))]) hC.1 hC.2.1 dX5_copy_36 hl (by decide) rfl (fun ls hl => ?_)
      suffices hloop38 : ∀ (n9 : Nat) (n : Int) (j : Int) (M1 : HM) (wk1 : Option Nat) (br1 : Int32) (re1 : Int32) (la1 : Int32) (ha1 : Int32) (fy1 : Nat → Option Nat) (hR1 : MGx G M1 a va oa wa ya wk1 thk_3 rfd br1 re1 la1 ha1 kp kv qv qw fa fb fvv fw fo fy1 S) (H : Heap) (locs : List Loc) (ls : Array Slot), (hmu : (4 - j).toNat < n9) → (hi0 : 0 ≤ j ∧ j ≤ 4) → (hi1 : 0 ≤ n ∧ n ≤ j) → xD G (xA M s.heap.size) s M1 H locs → lv_has ls 5 [(0, .ref a), (1, .int (iN (p0))), (2, .int (iN (p1))), (3, .int (iN (n))), (4, .int (iN (j)))] → W p l e R s m args below meth c H locs _ _ _ (F0 m 38 ls []) by
        exact hloop38 _ 0 0 _ _ _ _ _ _ _ hRk_3 _ _ _ (Nat.lt_succ_self _) (by omega) (by omega) hw (lv_sub hl [2, 3, 4, 1, 0] rfl)
      intro n9
      induction n9 with
      | zero => intro n j M1 wk1 br1 re1 la1 ha1 fy1 hR1 H locs ls hmu; exact absurd hmu (Nat.not_lt_zero _)
      | succ n9 ih38 =>
        intro n j M1 wk1 br1 re1 la1 ha1 fy1 hR1 H locs ls hmu hi0 hi1 hw hl
        refine lv_iload hC.1 hC.2.1 dX5_copy_38 (lv_at hl 4 rfl) ?_
        refine x_const hC dX5_copy_40 ?_
        refine x_icmp_ge (tgt := 87) hC ⟨by omega, by omega⟩ ⟨by omega, by omega⟩ dX5_copy_41 (by decide) (fun c_6 => ?_) (fun c_6 => ?_)
        · refine lv_aload_n hC.1 hC.2.1 dX5_copy_87 rfl (lv_at hl 0 rfl) ?_
          refine x_get hC hw hR1.1.1 rfl hinX5 3 (by decide) (by decide +kernel) rfl dX5_copy_88 ?_
          refine lv_iload_n hC.1 hC.2.1 dX5_copy_91 rfl (lv_at hl 2 rfl) ?_
          refine lv_aload_n hC.1 hC.2.1 dX5_copy_92 rfl (lv_at hl 0 rfl) ?_
          refine x_get hC hw hR1.1.1 rfl hinX5 3 (by decide) (by decide +kernel) rfl dX5_copy_93 ?_
          refine lv_iload_n hC.1 hC.2.1 dX5_copy_96 rfl (lv_at hl 1 rfl) ?_
          refine x_iald hC hw hR1.1.2.2.1 (by omega) (by omega) (by omega) dX5_copy_97 ?_
          obtain ⟨z_7, hz_7⟩ : ∃ z : Int, z = (fo (p0).toNat).toInt := ⟨_, rfl⟩
          rw [← hz_7]
          have hrz_7 : 0 ≤ z_7 ∧ z_7 ≤ 2 := by rw [hz_7]; exact hR1.or' (by omega)
          refine x_iast hC hw hR1.1.2.2.1 (by omega) (by omega) (by omega) dX5_copy_98 (fun H locs hw => ?_)
          obtain ⟨M_8, hM_9⟩ : ∃ z, z = va_up M1 oa (some (.inl (G.2 1, 3, .inl (upd fo (p1).toNat (iN (z_7)))))) := ⟨_, rfl⟩
          rw [← hM_9] at hw
          have hR_10 := hR1.ord hM_9 (by omega)
          obtain ⟨fo_11, hfo_11⟩ : ∃ z, z = (upd fo (p1).toNat (iN (z_7))) := ⟨_, rfl⟩
          rw [← hfo_11] at hR_10
          refine x_const hC dX5_copy_99 ?_
          refine lv_istore (lv' := [(4, .int (iN (0))), (0, .ref a), (1, .int (iN (p0))), (2, .int (iN (p1))), (3, .int (iN (n)))]) hC.1 hC.2.1 dX5_copy_100 hl (by decide) rfl (fun ls hl => ?_)
          suffices hloop102 : ∀ (n9 : Nat) (j : Int) (M1 : HM) (br1 : Int32) (fvv1 : Nat → Nat → Int32) (fo1 : Nat → Int32) (hR1 : MGx G M1 a va oa wa ya wk1 thk_3 rfd br1 re1 la1 ha1 kp kv qv qw fa fb fvv1 fw fo1 fy1 S) (H : Heap) (locs : List Loc) (ls : Array Slot), (hmu : (100 - j).toNat < n9) → (hi0 : 0 ≤ j ∧ j ≤ 100) → xD G (xA M s.heap.size) s M1 H locs → lv_has ls 5 [(0, .ref a), (1, .int (iN (p0))), (2, .int (iN (p1))), (3, .int (iN (n))), (4, .int (iN (j)))] → W p l e R s m args below meth c H locs _ _ _ (F0 m 102 ls []) by
            exact hloop102 _ 0 _ _ _ _ hR_10 _ _ _ (Nat.lt_succ_self _) (by omega) hw (lv_sub hl [1, 2, 3, 4, 0] rfl)
          intro n9
          induction n9 with
          | zero => intro j M1 br1 fvv1 fo1 hR1 H locs ls hmu; exact absurd hmu (Nat.not_lt_zero _)
          | succ n9 ih102 =>
            intro j M1 br1 fvv1 fo1 hR1 H locs ls hmu hi0 hw hl
            refine lv_iload hC.1 hC.2.1 dX5_copy_102 (lv_at hl 4 rfl) ?_
            refine x_bipush hC dX5_copy_104 (by decide +kernel) ?_
            refine x_icmp_ge (tgt := 132) hC ⟨by omega, by omega⟩ ⟨by omega, by omega⟩ dX5_copy_106 (by decide) (fun c_12 => ?_) (fun c_12 => ?_)
            · refine lv_iload_n hC.1 hC.2.1 dX5_copy_132 rfl (lv_at hl 3 rfl) ?_
              exact x_iret hC hw dX5_copy_133 (by omega) (by omega) ⟨n, rfl, by omega, ⟨_, _, _, _, _, _, _, _, _, _, _, _, _, _, _, _, _, _, _, _, hR1⟩⟩
            · refine lv_aload_n hC.1 hC.2.1 dX5_copy_109 rfl (lv_at hl 0 rfl) ?_
              refine lv_iload_n hC.1 hC.2.1 dX5_copy_110 rfl (lv_at hl 2 rfl) ?_
              refine lv_iload hC.1 hC.2.1 dX5_copy_111 (lv_at hl 4 rfl) ?_
              refine lv_aload_n hC.1 hC.2.1 dX5_copy_113 rfl (lv_at hl 0 rfl) ?_
              refine x_get hC hw hR1.1.1 rfl hinX5 2 (by decide) (by decide +kernel) rfl dX5_copy_114 ?_
              refine lv_iload_n hC.1 hC.2.1 dX5_copy_117 rfl (lv_at hl 1 rfl) ?_
              refine x_ald4 hC hw hR1.1.2.1 (by omega) (by omega) (by omega) dX5_copy_118 ?_
              rw [hR1.fa' (show (p0).toNat < 3 by omega)]
              show W p l e R s m args below meth c _ _ _ _ _ (F0 m 119 ls [.ref (qv (p0).toNat), .int (iN (j)), .int (iN (p1)), .ref a])
              refine lv_iload hC.1 hC.2.1 dX5_copy_119 (lv_at hl 4 rfl) ?_
              refine x_iald hC hw (hR1.rv (show (p0).toNat < 3 by omega)) (by omega) (by omega) (by omega) dX5_copy_121 ?_
              obtain ⟨z_13, hz_13⟩ : ∃ z : Int, z = ((fvv1 (p0).toNat) (j).toNat).toInt := ⟨_, rfl⟩
              rw [← hz_13]
              have hrz_13 : -10000 ≤ z_13 ∧ z_13 ≤ 9999 := by rw [hz_13]; exact hR1.vr (by omega) (by omega)
              have hpz_13 : z_13 ≠ -10000 → S (j).toNat = true := by rw [hz_13]; exact hR1.vs (by omega) (by omega)
              refine x_callV hC hw (lv_size hl) (c_X5_set l G hR1 (p0 := p1) (by omega) (p1 := j) (by omega) (p2 := z_13) (by omega) (by omega) (by omega) (by omega) (by intro q9; first | exact absurd rfl q9 | assumption | exact hpz_13 q9 | exact hpz_13 (by omega))) gX5_copy_X5_set rfl dv_X5_set hR1.1.1 rfl rfl (Nat.le_of_ble_eq_true rfl) (by rw [hRf]; decide) (by rw [hRl]; decide) (by omega) (by omega) dX5_copy_122 (fun r9 M_14 H locs hq hw => ?_)
              obtain ⟨z_15, rfl, hz_15a, hz_15b, hx5k_16, brk_16, fvvk_16, hRk_16⟩ := hq
              show W p l e R s m args below meth c H locs _ _ _ (F0 m 125 ls [.int (iN (z_15))])
              refine lv_pop hC.1 hC.2.1 dX5_copy_125 rfl ?_
              refine x_iinc (lv' := [(4, .int (iN (j + 1))), (0, .ref a), (1, .int (iN (p0))), (2, .int (iN (p1))), (3, .int (iN (n)))]) hC dX5_copy_126 hl (k := 4) rfl (by decide) rfl (fun ls hl => ?_)
              refine lv_goto (tgt := 102) hC.1 hC.2.1 dX5_copy_129 (by decide) ?_
              exact ih102 (j + 1) _ _ _ _ hRk_16 _ _ _ (by omega) (by omega) hw (lv_sub hl [1, 2, 3, 4, 0] rfl)
        · refine lv_aload_n hC.1 hC.2.1 dX5_copy_44 rfl (lv_at hl 0 rfl) ?_
          refine x_get hC hw hR1.1.1 rfl hinX5 5 (by decide) (by decide +kernel) rfl dX5_copy_45 ?_
          refine lv_iload hC.1 hC.2.1 dX5_copy_48 (lv_at hl 4 rfl) ?_
          refine x_ald4 hC hw hR1.1.2.2.2.2.1 (by omega) (by omega) (by omega) dX5_copy_50 ?_
          rcases hy_18 : fy1 (j).toNat with _ | y_17
          · show W p l e R s m args below meth c _ _ _ _ _ (F0 m 51 ls [.null])
            refine lv_ifnullN (tgt := 81) hC.1 hC.2.1 dX5_copy_51 (by decide) ?_
            refine x_iinc (lv' := [(4, .int (iN (j + 1))), (0, .ref a), (1, .int (iN (p0))), (2, .int (iN (p1))), (3, .int (iN (n)))]) hC dX5_copy_81 hl (k := 4) rfl (by decide) rfl (fun ls hl => ?_)
            refine lv_goto (tgt := 38) hC.1 hC.2.1 dX5_copy_84 (by decide) ?_
            exact ih38 n (j + 1) _ _ _ _ _ _ _ hR1 _ _ _ (by omega) (by omega) (by omega) hw (lv_sub hl [1, 2, 3, 4, 0] rfl)
          · obtain ⟨fi_19, hIi_19⟩ := (hR1.vw (show (j).toNat < 4 by omega) hy_18)
            obtain ⟨hvt_20, hat_20, hbt_20, hct_20, hdt_20, het_20⟩ := id hIi_19
            show W p l e R s m args below meth c _ _ _ _ _ (F0 m 51 ls [.ref y_17])
            refine lv_ifnull hC.1 hC.2.1 dX5_copy_51 ?_
            refine lv_aload_n hC.1 hC.2.1 dX5_copy_54 rfl (lv_at hl 0 rfl) ?_
            refine x_get hC hw hR1.1.1 rfl hinX5 5 (by decide) (by decide +kernel) rfl dX5_copy_55 ?_
            refine lv_iload hC.1 hC.2.1 dX5_copy_58 (lv_at hl 4 rfl) ?_
            refine x_ald4 hC hw hR1.1.2.2.2.2.1 (by omega) (by omega) (by omega) dX5_copy_60 ?_
            rw [hy_18]
            show W p l e R s m args below meth c _ _ _ _ _ (F0 m 61 ls [.ref y_17])
            refine x_const hC dX5_copy_61 ?_
            refine x_iald hC hw hIi_19.1 (by omega) (by omega) (by omega) dX5_copy_62 ?_
            obtain ⟨z_21, hz_21⟩ : ∃ z : Int, z = (fi_19 (0 : Int).toNat).toInt := ⟨_, rfl⟩
            rw [← hz_21]
            have hz_21' : z_21 = (fi_19 0).toInt := hz_21
            have hrz_21 : -2147483648 ≤ z_21 ∧ z_21 ≤ 2147483647 := by rw [hz_21]; exact iN_rng _
            refine lv_iload_n hC.1 hC.2.1 dX5_copy_63 rfl (lv_at hl 2 rfl) ?_
            refine x_icmp_eq (tgt := 70) hC ⟨by omega, by omega⟩ ⟨by omega, by omega⟩ dX5_copy_64 (by decide) (fun c_22 => ?_) (fun c_22 => ?_)
            · refine lv_aload_n hC.1 hC.2.1 dX5_copy_70 rfl (lv_at hl 0 rfl) ?_
              refine x_get hC hw hR1.1.1 rfl hinX5 5 (by decide) (by decide +kernel) rfl dX5_copy_71 ?_
              refine lv_iload hC.1 hC.2.1 dX5_copy_74 (lv_at hl 4 rfl) ?_
              refine lv_null hC.1 hC.2.1 dX5_copy_76 ?_
              refine x_ast4N hC hw hR1.1.2.2.2.2.1 (by omega) (by omega) (by omega) dX5_copy_77 (fun H locs hw => ?_)
              obtain ⟨M_23, hM_24⟩ : ∃ z, z = va_up M1 ya (some (.inl (G.2 4, 4, .inr (.inr (.inr (.inr (va_up fy1 (j).toNat none))))))) := ⟨_, rfl⟩
              rw [← hM_24] at hw
              have hR_25 := hR1.vws hM_24 (fun j9 y9 hj hy => by by_cases e9 : j9 = (j).toNat; (· subst e9; rw [va_up_self] at hy; cases hy); (· rw [va_up_ne _ _ e9] at hy; exact hR1.vw hj hy))
              obtain ⟨fy_26, hfy_26⟩ : ∃ z, z = (va_up fy1 (j).toNat none) := ⟨_, rfl⟩
              rw [← hfy_26] at hR_25
              have h_27 := hIi_19.x5 (hR1.vws5 hM_24)
              refine x_iinc (lv' := [(3, .int (iN (n + 1))), (0, .ref a), (1, .int (iN (p0))), (2, .int (iN (p1))), (4, .int (iN (j)))]) hC dX5_copy_78 hl (k := 3) rfl (by decide) rfl (fun ls hl => ?_)
              refine x_iinc (lv' := [(4, .int (iN (j + 1))), (3, .int (iN (n + 1))), (0, .ref a), (1, .int (iN (p0))), (2, .int (iN (p1)))]) hC dX5_copy_81 hl (k := 4) rfl (by decide) rfl (fun ls hl => ?_)
              refine lv_goto (tgt := 38) hC.1 hC.2.1 dX5_copy_84 (by decide) ?_
              exact ih38 (n + 1) (j + 1) _ _ _ _ _ _ _ hR_25 _ _ _ (by omega) (by omega) (by omega) hw (lv_sub hl [2, 3, 4, 1, 0] rfl)
            · refine lv_goto (tgt := 81) hC.1 hC.2.1 dX5_copy_67 (by decide) ?_
              refine x_iinc (lv' := [(4, .int (iN (j + 1))), (0, .ref a), (1, .int (iN (p0))), (2, .int (iN (p1))), (3, .int (iN (n)))]) hC dX5_copy_81 hl (k := 4) rfl (by decide) rfl (fun ls hl => ?_)
              refine lv_goto (tgt := 38) hC.1 hC.2.1 dX5_copy_84 (by decide) ?_
              exact ih38 n (j + 1) _ _ _ _ _ _ _ hR1 _ _ _ (by omega) (by omega) (by omega) hw (lv_sub hl [1, 2, 3, 4, 0] rfl)
    · obtain ⟨fi_28, hIi_28⟩ := (hRk_3.wk' rfl)
      obtain ⟨hvt_29, hat_29, hbt_29, hct_29, hdt_29, het_29⟩ := id hIi_28
      show W p l e R s m args below meth c _ _ _ _ _ (F0 m 15 ls [.ref w_5])
      refine lv_ifnull hC.1 hC.2.1 dX5_copy_15 ?_
      refine lv_aload_n hC.1 hC.2.1 dX5_copy_18 rfl (lv_at hl 0 rfl) ?_
      refine x_get hC hw hRk_3.1.1 rfl hinX5 6 (by decide) (by decide +kernel) rfl dX5_copy_19 ?_
      show W p l e R s m args below meth c _ _ _ _ _ (F0 m 22 ls [.ref w_5])
      refine x_const hC dX5_copy_22 ?_
      refine x_iald hC hw hIi_28.1 (by omega) (by omega) (by omega) dX5_copy_23 ?_
      obtain ⟨z_30, hz_30⟩ : ∃ z : Int, z = (fi_28 (0 : Int).toNat).toInt := ⟨_, rfl⟩
      rw [← hz_30]
      have hz_30' : z_30 = (fi_28 0).toInt := hz_30
      have hrz_30 : -2147483648 ≤ z_30 ∧ z_30 ≤ 2147483647 := by rw [hz_30]; exact iN_rng _
      refine lv_iload_n hC.1 hC.2.1 dX5_copy_24 rfl (lv_at hl 2 rfl) ?_
      refine x_icmp_ne (tgt := 33) hC ⟨by omega, by omega⟩ ⟨by omega, by omega⟩ dX5_copy_25 (by decide) (fun c_31 => ?_) (fun c_31 => ?_)
      · refine x_const hC dX5_copy_33 ?_
        refine lv_istore_n (lv' := [(3, .int (iN (0))), (0, .ref a), (1, .int (iN (p0))), (2, .int (iN (p1)))]) hC.1 hC.2.1 dX5_copy_34 rfl hl (by decide) rfl (fun ls hl => ?_)
        refine x_const hC dX5_copy_35 ?_
        refine lv_istore (lv' := [(4, .int (iN (0))), (3, .int (iN (0))), (0, .ref a), (1, .int (iN (p0))), (2, .int (iN (p1)))]) hC.1 hC.2.1 dX5_copy_36 hl (by decide) rfl (fun ls hl => ?_)
        suffices hloop38 : ∀ (n9 : Nat) (n : Int) (j : Int) (M1 : HM) (wk1 : Option Nat) (br1 : Int32) (re1 : Int32) (la1 : Int32) (ha1 : Int32) (fy1 : Nat → Option Nat) (hR1 : MGx G M1 a va oa wa ya wk1 thk_3 rfd br1 re1 la1 ha1 kp kv qv qw fa fb fvv fw fo fy1 S) (H : Heap) (locs : List Loc) (ls : Array Slot), (hmu : (4 - j).toNat < n9) → (hi0 : 0 ≤ j ∧ j ≤ 4) → (hi1 : 0 ≤ n ∧ n ≤ j) → xD G (xA M s.heap.size) s M1 H locs → lv_has ls 5 [(0, .ref a), (1, .int (iN (p0))), (2, .int (iN (p1))), (3, .int (iN (n))), (4, .int (iN (j)))] → W p l e R s m args below meth c H locs _ _ _ (F0 m 38 ls []) by
          exact hloop38 _ 0 0 _ _ _ _ _ _ _ hRk_3 _ _ _ (Nat.lt_succ_self _) (by omega) (by omega) hw (lv_sub hl [2, 3, 4, 1, 0] rfl)
        intro n9
        induction n9 with
        | zero => intro n j M1 wk1 br1 re1 la1 ha1 fy1 hR1 H locs ls hmu; exact absurd hmu (Nat.not_lt_zero _)
        | succ n9 ih38 =>
          intro n j M1 wk1 br1 re1 la1 ha1 fy1 hR1 H locs ls hmu hi0 hi1 hw hl
          refine lv_iload hC.1 hC.2.1 dX5_copy_38 (lv_at hl 4 rfl) ?_
          refine x_const hC dX5_copy_40 ?_
          refine x_icmp_ge (tgt := 87) hC ⟨by omega, by omega⟩ ⟨by omega, by omega⟩ dX5_copy_41 (by decide) (fun c_32 => ?_) (fun c_32 => ?_)
          · refine lv_aload_n hC.1 hC.2.1 dX5_copy_87 rfl (lv_at hl 0 rfl) ?_
            refine x_get hC hw hR1.1.1 rfl hinX5 3 (by decide) (by decide +kernel) rfl dX5_copy_88 ?_
            refine lv_iload_n hC.1 hC.2.1 dX5_copy_91 rfl (lv_at hl 2 rfl) ?_
            refine lv_aload_n hC.1 hC.2.1 dX5_copy_92 rfl (lv_at hl 0 rfl) ?_
            refine x_get hC hw hR1.1.1 rfl hinX5 3 (by decide) (by decide +kernel) rfl dX5_copy_93 ?_
            refine lv_iload_n hC.1 hC.2.1 dX5_copy_96 rfl (lv_at hl 1 rfl) ?_
            refine x_iald hC hw hR1.1.2.2.1 (by omega) (by omega) (by omega) dX5_copy_97 ?_
            obtain ⟨z_33, hz_33⟩ : ∃ z : Int, z = (fo (p0).toNat).toInt := ⟨_, rfl⟩
            rw [← hz_33]
            have hrz_33 : 0 ≤ z_33 ∧ z_33 ≤ 2 := by rw [hz_33]; exact hR1.or' (by omega)
            refine x_iast hC hw hR1.1.2.2.1 (by omega) (by omega) (by omega) dX5_copy_98 (fun H locs hw => ?_)
            obtain ⟨M_34, hM_35⟩ : ∃ z, z = va_up M1 oa (some (.inl (G.2 1, 3, .inl (upd fo (p1).toNat (iN (z_33)))))) := ⟨_, rfl⟩
            rw [← hM_35] at hw
            have hR_36 := hR1.ord hM_35 (by omega)
            obtain ⟨fo_37, hfo_37⟩ : ∃ z, z = (upd fo (p1).toNat (iN (z_33))) := ⟨_, rfl⟩
            rw [← hfo_37] at hR_36
            refine x_const hC dX5_copy_99 ?_
            refine lv_istore (lv' := [(4, .int (iN (0))), (0, .ref a), (1, .int (iN (p0))), (2, .int (iN (p1))), (3, .int (iN (n)))]) hC.1 hC.2.1 dX5_copy_100 hl (by decide) rfl (fun ls hl => ?_)
            suffices hloop102 : ∀ (n9 : Nat) (j : Int) (M1 : HM) (br1 : Int32) (fvv1 : Nat → Nat → Int32) (fo1 : Nat → Int32) (hR1 : MGx G M1 a va oa wa ya wk1 thk_3 rfd br1 re1 la1 ha1 kp kv qv qw fa fb fvv1 fw fo1 fy1 S) (H : Heap) (locs : List Loc) (ls : Array Slot), (hmu : (100 - j).toNat < n9) → (hi0 : 0 ≤ j ∧ j ≤ 100) → xD G (xA M s.heap.size) s M1 H locs → lv_has ls 5 [(0, .ref a), (1, .int (iN (p0))), (2, .int (iN (p1))), (3, .int (iN (n))), (4, .int (iN (j)))] → W p l e R s m args below meth c H locs _ _ _ (F0 m 102 ls []) by
              exact hloop102 _ 0 _ _ _ _ hR_36 _ _ _ (Nat.lt_succ_self _) (by omega) hw (lv_sub hl [1, 2, 3, 4, 0] rfl)
            intro n9
            induction n9 with
            | zero => intro j M1 br1 fvv1 fo1 hR1 H locs ls hmu; exact absurd hmu (Nat.not_lt_zero _)
            | succ n9 ih102 =>
              intro j M1 br1 fvv1 fo1 hR1 H locs ls hmu hi0 hw hl
              refine lv_iload hC.1 hC.2.1 dX5_copy_102 (lv_at hl 4 rfl) ?_
              refine x_bipush hC dX5_copy_104 (by decide +kernel) ?_
              refine x_icmp_ge (tgt := 132) hC ⟨by omega, by omega⟩ ⟨by omega, by omega⟩ dX5_copy_106 (by decide) (fun c_38 => ?_) (fun c_38 => ?_)
              · refine lv_iload_n hC.1 hC.2.1 dX5_copy_132 rfl (lv_at hl 3 rfl) ?_
                exact x_iret hC hw dX5_copy_133 (by omega) (by omega) ⟨n, rfl, by omega, ⟨_, _, _, _, _, _, _, _, _, _, _, _, _, _, _, _, _, _, _, _, hR1⟩⟩
              · refine lv_aload_n hC.1 hC.2.1 dX5_copy_109 rfl (lv_at hl 0 rfl) ?_
                refine lv_iload_n hC.1 hC.2.1 dX5_copy_110 rfl (lv_at hl 2 rfl) ?_
                refine lv_iload hC.1 hC.2.1 dX5_copy_111 (lv_at hl 4 rfl) ?_
                refine lv_aload_n hC.1 hC.2.1 dX5_copy_113 rfl (lv_at hl 0 rfl) ?_
                refine x_get hC hw hR1.1.1 rfl hinX5 2 (by decide) (by decide +kernel) rfl dX5_copy_114 ?_
                refine lv_iload_n hC.1 hC.2.1 dX5_copy_117 rfl (lv_at hl 1 rfl) ?_
                refine x_ald4 hC hw hR1.1.2.1 (by omega) (by omega) (by omega) dX5_copy_118 ?_
                rw [hR1.fa' (show (p0).toNat < 3 by omega)]
                show W p l e R s m args below meth c _ _ _ _ _ (F0 m 119 ls [.ref (qv (p0).toNat), .int (iN (j)), .int (iN (p1)), .ref a])
                refine lv_iload hC.1 hC.2.1 dX5_copy_119 (lv_at hl 4 rfl) ?_
                refine x_iald hC hw (hR1.rv (show (p0).toNat < 3 by omega)) (by omega) (by omega) (by omega) dX5_copy_121 ?_
                obtain ⟨z_39, hz_39⟩ : ∃ z : Int, z = ((fvv1 (p0).toNat) (j).toNat).toInt := ⟨_, rfl⟩
                rw [← hz_39]
                have hrz_39 : -10000 ≤ z_39 ∧ z_39 ≤ 9999 := by rw [hz_39]; exact hR1.vr (by omega) (by omega)
                have hpz_39 : z_39 ≠ -10000 → S (j).toNat = true := by rw [hz_39]; exact hR1.vs (by omega) (by omega)
                refine x_callV hC hw (lv_size hl) (c_X5_set l G hR1 (p0 := p1) (by omega) (p1 := j) (by omega) (p2 := z_39) (by omega) (by omega) (by omega) (by omega) (by intro q9; first | exact absurd rfl q9 | assumption | exact hpz_39 q9 | exact hpz_39 (by omega))) gX5_copy_X5_set rfl dv_X5_set hR1.1.1 rfl rfl (Nat.le_of_ble_eq_true rfl) (by rw [hRf]; decide) (by rw [hRl]; decide) (by omega) (by omega) dX5_copy_122 (fun r9 M_40 H locs hq hw => ?_)
                obtain ⟨z_41, rfl, hz_41a, hz_41b, hx5k_42, brk_42, fvvk_42, hRk_42⟩ := hq
                show W p l e R s m args below meth c H locs _ _ _ (F0 m 125 ls [.int (iN (z_41))])
                refine lv_pop hC.1 hC.2.1 dX5_copy_125 rfl ?_
                refine x_iinc (lv' := [(4, .int (iN (j + 1))), (0, .ref a), (1, .int (iN (p0))), (2, .int (iN (p1))), (3, .int (iN (n)))]) hC dX5_copy_126 hl (k := 4) rfl (by decide) rfl (fun ls hl => ?_)
                refine lv_goto (tgt := 102) hC.1 hC.2.1 dX5_copy_129 (by decide) ?_
                exact ih102 (j + 1) _ _ _ _ hRk_42 _ _ _ (by omega) (by omega) hw (lv_sub hl [1, 2, 3, 4, 0] rfl)
          · refine lv_aload_n hC.1 hC.2.1 dX5_copy_44 rfl (lv_at hl 0 rfl) ?_
            refine x_get hC hw hR1.1.1 rfl hinX5 5 (by decide) (by decide +kernel) rfl dX5_copy_45 ?_
            refine lv_iload hC.1 hC.2.1 dX5_copy_48 (lv_at hl 4 rfl) ?_
            refine x_ald4 hC hw hR1.1.2.2.2.2.1 (by omega) (by omega) (by omega) dX5_copy_50 ?_
            rcases hy_44 : fy1 (j).toNat with _ | y_43
            · show W p l e R s m args below meth c _ _ _ _ _ (F0 m 51 ls [.null])
              refine lv_ifnullN (tgt := 81) hC.1 hC.2.1 dX5_copy_51 (by decide) ?_
              refine x_iinc (lv' := [(4, .int (iN (j + 1))), (0, .ref a), (1, .int (iN (p0))), (2, .int (iN (p1))), (3, .int (iN (n)))]) hC dX5_copy_81 hl (k := 4) rfl (by decide) rfl (fun ls hl => ?_)
              refine lv_goto (tgt := 38) hC.1 hC.2.1 dX5_copy_84 (by decide) ?_
              exact ih38 n (j + 1) _ _ _ _ _ _ _ hR1 _ _ _ (by omega) (by omega) (by omega) hw (lv_sub hl [1, 2, 3, 4, 0] rfl)
            · obtain ⟨fi_45, hIi_45⟩ := (hR1.vw (show (j).toNat < 4 by omega) hy_44)
              obtain ⟨hvt_46, hat_46, hbt_46, hct_46, hdt_46, het_46⟩ := id hIi_45
              show W p l e R s m args below meth c _ _ _ _ _ (F0 m 51 ls [.ref y_43])
              refine lv_ifnull hC.1 hC.2.1 dX5_copy_51 ?_
              refine lv_aload_n hC.1 hC.2.1 dX5_copy_54 rfl (lv_at hl 0 rfl) ?_
              refine x_get hC hw hR1.1.1 rfl hinX5 5 (by decide) (by decide +kernel) rfl dX5_copy_55 ?_
              refine lv_iload hC.1 hC.2.1 dX5_copy_58 (lv_at hl 4 rfl) ?_
              refine x_ald4 hC hw hR1.1.2.2.2.2.1 (by omega) (by omega) (by omega) dX5_copy_60 ?_
              rw [hy_44]
              show W p l e R s m args below meth c _ _ _ _ _ (F0 m 61 ls [.ref y_43])
              refine x_const hC dX5_copy_61 ?_
              refine x_iald hC hw hIi_45.1 (by omega) (by omega) (by omega) dX5_copy_62 ?_
              obtain ⟨z_47, hz_47⟩ : ∃ z : Int, z = (fi_45 (0 : Int).toNat).toInt := ⟨_, rfl⟩
              rw [← hz_47]
              have hz_47' : z_47 = (fi_45 0).toInt := hz_47
              have hrz_47 : -2147483648 ≤ z_47 ∧ z_47 ≤ 2147483647 := by rw [hz_47]; exact iN_rng _
              refine lv_iload_n hC.1 hC.2.1 dX5_copy_63 rfl (lv_at hl 2 rfl) ?_
              refine x_icmp_eq (tgt := 70) hC ⟨by omega, by omega⟩ ⟨by omega, by omega⟩ dX5_copy_64 (by decide) (fun c_48 => ?_) (fun c_48 => ?_)
              · refine lv_aload_n hC.1 hC.2.1 dX5_copy_70 rfl (lv_at hl 0 rfl) ?_
                refine x_get hC hw hR1.1.1 rfl hinX5 5 (by decide) (by decide +kernel) rfl dX5_copy_71 ?_
                refine lv_iload hC.1 hC.2.1 dX5_copy_74 (lv_at hl 4 rfl) ?_
                refine lv_null hC.1 hC.2.1 dX5_copy_76 ?_
                refine x_ast4N hC hw hR1.1.2.2.2.2.1 (by omega) (by omega) (by omega) dX5_copy_77 (fun H locs hw => ?_)
                obtain ⟨M_49, hM_50⟩ : ∃ z, z = va_up M1 ya (some (.inl (G.2 4, 4, .inr (.inr (.inr (.inr (va_up fy1 (j).toNat none))))))) := ⟨_, rfl⟩
                rw [← hM_50] at hw
                have hR_51 := hR1.vws hM_50 (fun j9 y9 hj hy => by by_cases e9 : j9 = (j).toNat; (· subst e9; rw [va_up_self] at hy; cases hy); (· rw [va_up_ne _ _ e9] at hy; exact hR1.vw hj hy))
                obtain ⟨fy_52, hfy_52⟩ : ∃ z, z = (va_up fy1 (j).toNat none) := ⟨_, rfl⟩
                rw [← hfy_52] at hR_51
                have h_53 := hIi_45.x5 (hR1.vws5 hM_50)
                refine x_iinc (lv' := [(3, .int (iN (n + 1))), (0, .ref a), (1, .int (iN (p0))), (2, .int (iN (p1))), (4, .int (iN (j)))]) hC dX5_copy_78 hl (k := 3) rfl (by decide) rfl (fun ls hl => ?_)
                refine x_iinc (lv' := [(4, .int (iN (j + 1))), (3, .int (iN (n + 1))), (0, .ref a), (1, .int (iN (p0))), (2, .int (iN (p1)))]) hC dX5_copy_81 hl (k := 4) rfl (by decide) rfl (fun ls hl => ?_)
                refine lv_goto (tgt := 38) hC.1 hC.2.1 dX5_copy_84 (by decide) ?_
                exact ih38 (n + 1) (j + 1) _ _ _ _ _ _ _ hR_51 _ _ _ (by omega) (by omega) (by omega) hw (lv_sub hl [2, 3, 4, 1, 0] rfl)
              · refine lv_goto (tgt := 81) hC.1 hC.2.1 dX5_copy_67 (by decide) ?_
                refine x_iinc (lv' := [(4, .int (iN (j + 1))), (0, .ref a), (1, .int (iN (p0))), (2, .int (iN (p1))), (3, .int (iN (n)))]) hC dX5_copy_81 hl (k := 4) rfl (by decide) rfl (fun ls hl => ?_)
                refine lv_goto (tgt := 38) hC.1 hC.2.1 dX5_copy_84 (by decide) ?_
                exact ih38 n (j + 1) _ _ _ _ _ _ _ hR1 _ _ _ (by omega) (by omega) (by omega) hw (lv_sub hl [1, 2, 3, 4, 0] rfl)
      · refine lv_aload_n hC.1 hC.2.1 dX5_copy_28 rfl (lv_at hl 0 rfl) ?_
        refine lv_null hC.1 hC.2.1 dX5_copy_29 ?_
        refine x_callV hC hw (lv_size hl) (c_X5_begin0 l G hRk_3) gX5_copy_X5_begin rfl dv_X5_begin hRk_3.1.1 rfl rfl (Nat.le_of_ble_eq_true rfl) (by rw [hRf]; decide) (by rw [hRl]; decide) (by omega) (by omega) dX5_copy_30 (fun r9 M_54 H locs hq hw => ?_)
        obtain ⟨rfl, brk_56, rek_56, lak_56, hak_56, hRk_56⟩ := hq
        show W p l e R s m args below meth c H locs _ _ _ (F0 m 33 ls [])
        refine x_const hC dX5_copy_33 ?_
        refine lv_istore_n (lv' := [(3, .int (iN (0))), (0, .ref a), (1, .int (iN (p0))), (2, .int (iN (p1)))]) hC.1 hC.2.1 dX5_copy_34 rfl hl (by decide) rfl (fun ls hl => ?_)
        refine x_const hC dX5_copy_35 ?_
        refine lv_istore (lv' := [(4, .int (iN (0))), (3, .int (iN (0))), (0, .ref a), (1, .int (iN (p0))), (2, .int (iN (p1)))]) hC.1 hC.2.1 dX5_copy_36 hl (by decide) rfl (fun ls hl => ?_)
        suffices hloop38 : ∀ (n9 : Nat) (n : Int) (j : Int) (M1 : HM) (wk1 : Option Nat) (br1 : Int32) (re1 : Int32) (la1 : Int32) (ha1 : Int32) (fy1 : Nat → Option Nat) (hR1 : MGx G M1 a va oa wa ya wk1 thk_3 rfd br1 re1 la1 ha1 kp kv qv qw fa fb fvv fw fo fy1 S) (H : Heap) (locs : List Loc) (ls : Array Slot), (hmu : (4 - j).toNat < n9) → (hi0 : 0 ≤ j ∧ j ≤ 4) → (hi1 : 0 ≤ n ∧ n ≤ j) → xD G (xA M s.heap.size) s M1 H locs → lv_has ls 5 [(0, .ref a), (1, .int (iN (p0))), (2, .int (iN (p1))), (3, .int (iN (n))), (4, .int (iN (j)))] → W p l e R s m args below meth c H locs _ _ _ (F0 m 38 ls []) by
          exact hloop38 _ 0 0 _ _ _ _ _ _ _ hRk_56 _ _ _ (Nat.lt_succ_self _) (by omega) (by omega) hw (lv_sub hl [2, 3, 4, 1, 0] rfl)
        intro n9
        induction n9 with
        | zero => intro n j M1 wk1 br1 re1 la1 ha1 fy1 hR1 H locs ls hmu; exact absurd hmu (Nat.not_lt_zero _)
        | succ n9 ih38 =>
          intro n j M1 wk1 br1 re1 la1 ha1 fy1 hR1 H locs ls hmu hi0 hi1 hw hl
          refine lv_iload hC.1 hC.2.1 dX5_copy_38 (lv_at hl 4 rfl) ?_
          refine x_const hC dX5_copy_40 ?_
          refine x_icmp_ge (tgt := 87) hC ⟨by omega, by omega⟩ ⟨by omega, by omega⟩ dX5_copy_41 (by decide) (fun c_57 => ?_) (fun c_57 => ?_)
          · refine lv_aload_n hC.1 hC.2.1 dX5_copy_87 rfl (lv_at hl 0 rfl) ?_
            refine x_get hC hw hR1.1.1 rfl hinX5 3 (by decide) (by decide +kernel) rfl dX5_copy_88 ?_
            refine lv_iload_n hC.1 hC.2.1 dX5_copy_91 rfl (lv_at hl 2 rfl) ?_
            refine lv_aload_n hC.1 hC.2.1 dX5_copy_92 rfl (lv_at hl 0 rfl) ?_
            refine x_get hC hw hR1.1.1 rfl hinX5 3 (by decide) (by decide +kernel) rfl dX5_copy_93 ?_
            refine lv_iload_n hC.1 hC.2.1 dX5_copy_96 rfl (lv_at hl 1 rfl) ?_
            refine x_iald hC hw hR1.1.2.2.1 (by omega) (by omega) (by omega) dX5_copy_97 ?_
            obtain ⟨z_58, hz_58⟩ : ∃ z : Int, z = (fo (p0).toNat).toInt := ⟨_, rfl⟩
            rw [← hz_58]
            have hrz_58 : 0 ≤ z_58 ∧ z_58 ≤ 2 := by rw [hz_58]; exact hR1.or' (by omega)
            refine x_iast hC hw hR1.1.2.2.1 (by omega) (by omega) (by omega) dX5_copy_98 (fun H locs hw => ?_)
            obtain ⟨M_59, hM_60⟩ : ∃ z, z = va_up M1 oa (some (.inl (G.2 1, 3, .inl (upd fo (p1).toNat (iN (z_58)))))) := ⟨_, rfl⟩
            rw [← hM_60] at hw
            have hR_61 := hR1.ord hM_60 (by omega)
            obtain ⟨fo_62, hfo_62⟩ : ∃ z, z = (upd fo (p1).toNat (iN (z_58))) := ⟨_, rfl⟩
            rw [← hfo_62] at hR_61
            refine x_const hC dX5_copy_99 ?_
            refine lv_istore (lv' := [(4, .int (iN (0))), (0, .ref a), (1, .int (iN (p0))), (2, .int (iN (p1))), (3, .int (iN (n)))]) hC.1 hC.2.1 dX5_copy_100 hl (by decide) rfl (fun ls hl => ?_)
            suffices hloop102 : ∀ (n9 : Nat) (j : Int) (M1 : HM) (br1 : Int32) (fvv1 : Nat → Nat → Int32) (fo1 : Nat → Int32) (hR1 : MGx G M1 a va oa wa ya wk1 thk_3 rfd br1 re1 la1 ha1 kp kv qv qw fa fb fvv1 fw fo1 fy1 S) (H : Heap) (locs : List Loc) (ls : Array Slot), (hmu : (100 - j).toNat < n9) → (hi0 : 0 ≤ j ∧ j ≤ 100) → xD G (xA M s.heap.size) s M1 H locs → lv_has ls 5 [(0, .ref a), (1, .int (iN (p0))), (2, .int (iN (p1))), (3, .int (iN (n))), (4, .int (iN (j)))] → W p l e R s m args below meth c H locs _ _ _ (F0 m 102 ls []) by
              exact hloop102 _ 0 _ _ _ _ hR_61 _ _ _ (Nat.lt_succ_self _) (by omega) hw (lv_sub hl [1, 2, 3, 4, 0] rfl)
            intro n9
            induction n9 with
            | zero => intro j M1 br1 fvv1 fo1 hR1 H locs ls hmu; exact absurd hmu (Nat.not_lt_zero _)
            | succ n9 ih102 =>
              intro j M1 br1 fvv1 fo1 hR1 H locs ls hmu hi0 hw hl
              refine lv_iload hC.1 hC.2.1 dX5_copy_102 (lv_at hl 4 rfl) ?_
              refine x_bipush hC dX5_copy_104 (by decide +kernel) ?_
              refine x_icmp_ge (tgt := 132) hC ⟨by omega, by omega⟩ ⟨by omega, by omega⟩ dX5_copy_106 (by decide) (fun c_63 => ?_) (fun c_63 => ?_)
              · refine lv_iload_n hC.1 hC.2.1 dX5_copy_132 rfl (lv_at hl 3 rfl) ?_
                exact x_iret hC hw dX5_copy_133 (by omega) (by omega) ⟨n, rfl, by omega, ⟨_, _, _, _, _, _, _, _, _, _, _, _, _, _, _, _, _, _, _, _, hR1⟩⟩
              · refine lv_aload_n hC.1 hC.2.1 dX5_copy_109 rfl (lv_at hl 0 rfl) ?_
                refine lv_iload_n hC.1 hC.2.1 dX5_copy_110 rfl (lv_at hl 2 rfl) ?_
                refine lv_iload hC.1 hC.2.1 dX5_copy_111 (lv_at hl 4 rfl) ?_
                refine lv_aload_n hC.1 hC.2.1 dX5_copy_113 rfl (lv_at hl 0 rfl) ?_
                refine x_get hC hw hR1.1.1 rfl hinX5 2 (by decide) (by decide +kernel) rfl dX5_copy_114 ?_
                refine lv_iload_n hC.1 hC.2.1 dX5_copy_117 rfl (lv_at hl 1 rfl) ?_
                refine x_ald4 hC hw hR1.1.2.1 (by omega) (by omega) (by omega) dX5_copy_118 ?_
                rw [hR1.fa' (show (p0).toNat < 3 by omega)]
                show W p l e R s m args below meth c _ _ _ _ _ (F0 m 119 ls [.ref (qv (p0).toNat), .int (iN (j)), .int (iN (p1)), .ref a])
                refine lv_iload hC.1 hC.2.1 dX5_copy_119 (lv_at hl 4 rfl) ?_
                refine x_iald hC hw (hR1.rv (show (p0).toNat < 3 by omega)) (by omega) (by omega) (by omega) dX5_copy_121 ?_
                obtain ⟨z_64, hz_64⟩ : ∃ z : Int, z = ((fvv1 (p0).toNat) (j).toNat).toInt := ⟨_, rfl⟩
                rw [← hz_64]
                have hrz_64 : -10000 ≤ z_64 ∧ z_64 ≤ 9999 := by rw [hz_64]; exact hR1.vr (by omega) (by omega)
                have hpz_64 : z_64 ≠ -10000 → S (j).toNat = true := by rw [hz_64]; exact hR1.vs (by omega) (by omega)
                refine x_callV hC hw (lv_size hl) (c_X5_set l G hR1 (p0 := p1) (by omega) (p1 := j) (by omega) (p2 := z_64) (by omega) (by omega) (by omega) (by omega) (by intro q9; first | exact absurd rfl q9 | assumption | exact hpz_64 q9 | exact hpz_64 (by omega))) gX5_copy_X5_set rfl dv_X5_set hR1.1.1 rfl rfl (Nat.le_of_ble_eq_true rfl) (by rw [hRf]; decide) (by rw [hRl]; decide) (by omega) (by omega) dX5_copy_122 (fun r9 M_65 H locs hq hw => ?_)
                obtain ⟨z_66, rfl, hz_66a, hz_66b, hx5k_67, brk_67, fvvk_67, hRk_67⟩ := hq
                show W p l e R s m args below meth c H locs _ _ _ (F0 m 125 ls [.int (iN (z_66))])
                refine lv_pop hC.1 hC.2.1 dX5_copy_125 rfl ?_
                refine x_iinc (lv' := [(4, .int (iN (j + 1))), (0, .ref a), (1, .int (iN (p0))), (2, .int (iN (p1))), (3, .int (iN (n)))]) hC dX5_copy_126 hl (k := 4) rfl (by decide) rfl (fun ls hl => ?_)
                refine lv_goto (tgt := 102) hC.1 hC.2.1 dX5_copy_129 (by decide) ?_
                exact ih102 (j + 1) _ _ _ _ hRk_67 _ _ _ (by omega) (by omega) hw (lv_sub hl [1, 2, 3, 4, 0] rfl)
          · refine lv_aload_n hC.1 hC.2.1 dX5_copy_44 rfl (lv_at hl 0 rfl) ?_
            refine x_get hC hw hR1.1.1 rfl hinX5 5 (by decide) (by decide +kernel) rfl dX5_copy_45 ?_
            refine lv_iload hC.1 hC.2.1 dX5_copy_48 (lv_at hl 4 rfl) ?_
            refine x_ald4 hC hw hR1.1.2.2.2.2.1 (by omega) (by omega) (by omega) dX5_copy_50 ?_
            rcases hy_69 : fy1 (j).toNat with _ | y_68
            · show W p l e R s m args below meth c _ _ _ _ _ (F0 m 51 ls [.null])
              refine lv_ifnullN (tgt := 81) hC.1 hC.2.1 dX5_copy_51 (by decide) ?_
              refine x_iinc (lv' := [(4, .int (iN (j + 1))), (0, .ref a), (1, .int (iN (p0))), (2, .int (iN (p1))), (3, .int (iN (n)))]) hC dX5_copy_81 hl (k := 4) rfl (by decide) rfl (fun ls hl => ?_)
              refine lv_goto (tgt := 38) hC.1 hC.2.1 dX5_copy_84 (by decide) ?_
              exact ih38 n (j + 1) _ _ _ _ _ _ _ hR1 _ _ _ (by omega) (by omega) (by omega) hw (lv_sub hl [1, 2, 3, 4, 0] rfl)
            · obtain ⟨fi_70, hIi_70⟩ := (hR1.vw (show (j).toNat < 4 by omega) hy_69)
              obtain ⟨hvt_71, hat_71, hbt_71, hct_71, hdt_71, het_71⟩ := id hIi_70
              show W p l e R s m args below meth c _ _ _ _ _ (F0 m 51 ls [.ref y_68])
              refine lv_ifnull hC.1 hC.2.1 dX5_copy_51 ?_
              refine lv_aload_n hC.1 hC.2.1 dX5_copy_54 rfl (lv_at hl 0 rfl) ?_
              refine x_get hC hw hR1.1.1 rfl hinX5 5 (by decide) (by decide +kernel) rfl dX5_copy_55 ?_
              refine lv_iload hC.1 hC.2.1 dX5_copy_58 (lv_at hl 4 rfl) ?_
              refine x_ald4 hC hw hR1.1.2.2.2.2.1 (by omega) (by omega) (by omega) dX5_copy_60 ?_
              rw [hy_69]
              show W p l e R s m args below meth c _ _ _ _ _ (F0 m 61 ls [.ref y_68])
              refine x_const hC dX5_copy_61 ?_
              refine x_iald hC hw hIi_70.1 (by omega) (by omega) (by omega) dX5_copy_62 ?_
              obtain ⟨z_72, hz_72⟩ : ∃ z : Int, z = (fi_70 (0 : Int).toNat).toInt := ⟨_, rfl⟩
              rw [← hz_72]
              have hz_72' : z_72 = (fi_70 0).toInt := hz_72
              have hrz_72 : -2147483648 ≤ z_72 ∧ z_72 ≤ 2147483647 := by rw [hz_72]; exact iN_rng _
              refine lv_iload_n hC.1 hC.2.1 dX5_copy_63 rfl (lv_at hl 2 rfl) ?_
              refine x_icmp_eq (tgt := 70) hC ⟨by omega, by omega⟩ ⟨by omega, by omega⟩ dX5_copy_64 (by decide) (fun c_73 => ?_) (fun c_73 => ?_)
              · refine lv_aload_n hC.1 hC.2.1 dX5_copy_70 rfl (lv_at hl 0 rfl) ?_
                refine x_get hC hw hR1.1.1 rfl hinX5 5 (by decide) (by decide +kernel) rfl dX5_copy_71 ?_
                refine lv_iload hC.1 hC.2.1 dX5_copy_74 (lv_at hl 4 rfl) ?_
                refine lv_null hC.1 hC.2.1 dX5_copy_76 ?_
                refine x_ast4N hC hw hR1.1.2.2.2.2.1 (by omega) (by omega) (by omega) dX5_copy_77 (fun H locs hw => ?_)
                obtain ⟨M_74, hM_75⟩ : ∃ z, z = va_up M1 ya (some (.inl (G.2 4, 4, .inr (.inr (.inr (.inr (va_up fy1 (j).toNat none))))))) := ⟨_, rfl⟩
                rw [← hM_75] at hw
                have hR_76 := hR1.vws hM_75 (fun j9 y9 hj hy => by by_cases e9 : j9 = (j).toNat; (· subst e9; rw [va_up_self] at hy; cases hy); (· rw [va_up_ne _ _ e9] at hy; exact hR1.vw hj hy))
                obtain ⟨fy_77, hfy_77⟩ : ∃ z, z = (va_up fy1 (j).toNat none) := ⟨_, rfl⟩
                rw [← hfy_77] at hR_76
                have h_78 := hIi_70.x5 (hR1.vws5 hM_75)
                refine x_iinc (lv' := [(3, .int (iN (n + 1))), (0, .ref a), (1, .int (iN (p0))), (2, .int (iN (p1))), (4, .int (iN (j)))]) hC dX5_copy_78 hl (k := 3) rfl (by decide) rfl (fun ls hl => ?_)
                refine x_iinc (lv' := [(4, .int (iN (j + 1))), (3, .int (iN (n + 1))), (0, .ref a), (1, .int (iN (p0))), (2, .int (iN (p1)))]) hC dX5_copy_81 hl (k := 4) rfl (by decide) rfl (fun ls hl => ?_)
                refine lv_goto (tgt := 38) hC.1 hC.2.1 dX5_copy_84 (by decide) ?_
                exact ih38 (n + 1) (j + 1) _ _ _ _ _ _ _ hR_76 _ _ _ (by omega) (by omega) (by omega) hw (lv_sub hl [2, 3, 4, 1, 0] rfl)
              · refine lv_goto (tgt := 81) hC.1 hC.2.1 dX5_copy_67 (by decide) ?_
                refine x_iinc (lv' := [(4, .int (iN (j + 1))), (0, .ref a), (1, .int (iN (p0))), (2, .int (iN (p1))), (3, .int (iN (n)))]) hC dX5_copy_81 hl (k := 4) rfl (by decide) rfl (fun ls hl => ?_)
                refine lv_goto (tgt := 38) hC.1 hC.2.1 dX5_copy_84 (by decide) ?_
                exact ih38 n (j + 1) _ _ _ _ _ _ _ hR1 _ _ _ (by omega) (by omega) (by omega) hw (lv_sub hl [1, 2, 3, 4, 0] rfl)
  · refine x_const hC dX5_copy_9 ?_
    exact x_iret hC hw dX5_copy_10 (by omega) (by omega) ⟨0, rfl, by omega, ⟨_, _, _, _, _, _, _, _, _, _, _, _, _, _, _, _, _, _, _, _, hRk_3⟩⟩
set_option maxHeartbeats 4000000 in
set_option maxRecDepth 100000 in
theorem c_X5_free (l : Launch) (G : xG) {M : HM} {a va oa wa ya : Nat} {wk : Option Nat} {th rfd br re la ha kp kv : Int32} {qv qw : Nat → Nat} {fa fb : Nat → Option Nat} {fvv fw : Nat → Nat → Int32} {fo : Nat → Int32} {fy : Nat → Option Nat} {S : Nat → Bool} (hR : MGx G M a va oa wa ya wk th rfd br re la ha kp kv qv qw fa fb fvv fw fo fy S) : xMet l G yX5_free wsX5_free 0 0 0 0 [.ref a] M (fun r M1 => ∃ z : Int, r = some (.int (iN z)) ∧ M1 = M ∧ (z = -10000 ∨ (0 ≤ z ∧ z ≤ 3)) ∧ (z = -10000 → ∀ i : Nat, i < 4 → fy i ≠ none) ∧ (z ≠ -10000 → fy z.toNat = none)) := by
  refine x_intro (cc := cX5_free) (maxL := 2) (ret := (some .int)) (by decide +kernel) rfl (Nat.le_of_ble_eq_true rfl) ?_
  intro p e R s m args below meth c ls hRf hRc hRs hRl hC hw hl
  have hinX5 : ∀ w ∈ wsX50, w ∈ wsX5_free := by decide +kernel
  have hl : lv_has ls 2 [(0, .ref a)] := hl
  refine x_const hC dX5_free_0 ?_
  refine lv_istore_n (lv' := [(1, .int (iN (0))), (0, .ref a)]) hC.1 hC.2.1 dX5_free_1 rfl hl (by decide) rfl (fun ls hl => ?_)
  suffices hloop2 : ∀ (n9 : Nat) (j : Int) (H : Heap) (locs : List Loc) (ls : Array Slot), (hmu : (4 - j).toNat < n9) → (hi0 : 0 ≤ j ∧ j ≤ 4) → (hi2 : ∀ i : Nat, i < j.toNat → fy i ≠ none) → xD G (xA M s.heap.size) s M H locs → lv_has ls 2 [(0, .ref a), (1, .int (iN (j)))] → W p l e R s m args below meth c H locs _ _ _ (F0 m 2 ls []) by
    exact hloop2 _ 0  _ _ _ (Nat.lt_succ_self _) (by omega) (fun i9 hi9 => absurd hi9 (by omega)) hw (lv_sub hl [1, 0] rfl)
  intro n9
  induction n9 with
  | zero => intro j  H locs ls hmu; exact absurd hmu (Nat.not_lt_zero _)
  | succ n9 ih2 =>
    intro j  H locs ls hmu hi0 hi2 hw hl
    refine lv_iload_n hC.1 hC.2.1 dX5_free_2 rfl (lv_at hl 1 rfl) ?_
    refine x_const hC dX5_free_3 ?_
    refine x_icmp_ge (tgt := 24) hC ⟨by omega, by omega⟩ ⟨by omega, by omega⟩ dX5_free_4 (by decide) (fun c_1 => ?_) (fun c_1 => ?_)
    · refine x_sipush hC dX5_free_24 (by decide +kernel) ?_
      exact x_iret hC hw dX5_free_27 (by omega) (by omega) ⟨(-10000), rfl, rfl, by omega, fun _ i9 hi9 => hi2 i9 (by omega), fun q9 => absurd rfl q9⟩
    · refine lv_aload_n hC.1 hC.2.1 dX5_free_7 rfl (lv_at hl 0 rfl) ?_
      refine x_get hC hw hR.1.1 rfl hinX5 5 (by decide) (by decide +kernel) rfl dX5_free_8 ?_
      refine lv_iload_n hC.1 hC.2.1 dX5_free_11 rfl (lv_at hl 1 rfl) ?_
      refine x_ald4 hC hw hR.1.2.2.2.2.1 (by omega) (by omega) (by omega) dX5_free_12 ?_
      rcases hy_3 : fy (j).toNat with _ | y_2
      · show W p l e R s m args below meth c _ _ _ _ _ (F0 m 13 ls [.null])
        refine lv_ifnonnullN hC.1 hC.2.1 dX5_free_13 ?_
        refine lv_iload_n hC.1 hC.2.1 dX5_free_16 rfl (lv_at hl 1 rfl) ?_
        exact x_iret hC hw dX5_free_17 (by omega) (by omega) ⟨j, rfl, rfl, by omega, fun q9 => absurd q9 (by omega), fun _ => hy_3⟩
      · obtain ⟨fi_4, hIi_4⟩ := (hR.vw (show (j).toNat < 4 by omega) hy_3)
        obtain ⟨hvt_5, hat_5, hbt_5, hct_5, hdt_5, het_5⟩ := id hIi_4
        show W p l e R s m args below meth c _ _ _ _ _ (F0 m 13 ls [.ref y_2])
        refine lv_ifnonnull (tgt := 18) hC.1 hC.2.1 dX5_free_13 (by decide) ?_
        refine x_iinc (lv' := [(1, .int (iN (j + 1))), (0, .ref a)]) hC dX5_free_18 hl (k := 1) rfl (by decide) rfl (fun ls hl => ?_)
        refine lv_goto (tgt := 2) hC.1 hC.2.1 dX5_free_21 (by decide) ?_
        exact ih2 (j + 1)  _ _ _ (by omega) (by omega) (fun i9 hi9 => by by_cases e9 : i9 = (j).toNat; (· rw [e9, hy_3]; exact fun q9 => nomatch q9); (· exact hi2 i9 (by omega))) hw (lv_sub hl [1, 0] rfl)
set_option maxHeartbeats 4000000 in
set_option maxRecDepth 100000 in
theorem c_X5_open (l : Launch) (G : xG) {M : HM} {a va oa wa ya : Nat} {wk : Option Nat} {th rfd br re la ha kp kv : Int32} {qv qw : Nat → Nat} {fa fb : Nat → Option Nat} {fvv fw : Nat → Nat → Int32} {fo : Nat → Int32} {fy : Nat → Option Nat} {S : Nat → Bool} (hR : MGx G M a va oa wa ya wk th rfd br re la ha kp kv qv qw fa fb fvv fw fo fy S) {i : Nat} {fi : Nat → Int32} (hIi : Its G M i fi) {j0 : Nat} (hj0 : j0 < 4) (hjf : fy j0 = none) : xMet l G yX5_open wsX5_open 1 21 0 0 [.ref a, .ref i] M (fun r M1 => ∃ z : Int, r = some (.int (iN z)) ∧ (0 ≤ z ∧ z ≤ 3) ∧ ∃ (fy1 : Nat → Option Nat), MGx G M1 a va oa wa ya wk th rfd br re la ha kp kv qv qw fa fb fvv fw fo fy1 S) := by
  refine x_intro (cc := cX5_open) (maxL := 3) (ret := (some .int)) (by decide +kernel) rfl (Nat.le_of_ble_eq_true rfl) ?_
  intro p e R s m args below meth c ls hRf hRc hRs hRl hC hw hl
  obtain ⟨hvt_1, hat_1, hbt_1, hct_1, hdt_1, het_1⟩ := id hIi
  have hinX5 : ∀ w ∈ wsX50, w ∈ wsX5_open := by decide +kernel
  have hl : lv_has ls 3 [(0, .ref a), (1, .ref i)] := hl
  refine lv_aload_n hC.1 hC.2.1 dX5_open_0 rfl (lv_at hl 0 rfl) ?_
  refine x_callV hC hw (lv_size hl) (c_X5_free l G hR) gX5_open_X5_free rfl dv_X5_free hR.1.1 rfl rfl (Nat.le_of_ble_eq_true rfl) (by rw [hRf]; decide) (by rw [hRl]; decide) (by omega) (by omega) dX5_open_1 (fun r9 M_2 H locs hq hw => ?_)
  obtain ⟨z_3, rfl, hM9, hz_3a, hz_3N, hz_3Y⟩ := hq
  rw [hM9] at hw
  show W p l e R s m args below meth c H locs _ _ _ (F0 m 4 ls [.int (iN (z_3))])
  refine lv_istore_n (lv' := [(2, .int (iN (z_3))), (0, .ref a), (1, .ref i)]) hC.1 hC.2.1 dX5_open_4 rfl hl (by decide) rfl (fun ls hl => ?_)
  have hz0 : z_3 ≠ -10000 := fun q9 => hz_3N q9 j0 hj0 hjf
  refine lv_aload_n hC.1 hC.2.1 dX5_open_5 rfl (lv_at hl 1 rfl) ?_
  refine x_get hC hw hR.1.1 rfl hinX5 5 (by decide) (by decide +kernel) rfl dX5_open_6 ?_
  refine lv_iload_n hC.1 hC.2.1 dX5_open_9 rfl (lv_at hl 0 rfl) ?_
  refine lv_aload_n hC.1 hC.2.1 dX5_open_10 rfl (lv_at hl 2 rfl) ?_
  refine x_ast4 hC hw hR.1.2.2.2.2.1 hIi.1 (by omega) (by omega) (by omega) dX5_open_11 (fun H locs hw => ?_)
  obtain ⟨M_4, hM_5⟩ : ∃ z, z = va_up M ya (some (.inl (G.2 4, 4, .inr (.inr (.inr (.inr (va_up fy (z_3).toNat (some i)))))))) := ⟨_, rfl⟩
  rw [← hM_5] at hw
  have hR_6 := hR.vws hM_5 (fun j9 y9 hj hy => by by_cases e9 : j9 = (z_3).toNat; (· subst e9; rw [va_up_self] at hy; cases hy; exact ⟨_, hIi⟩); (· rw [va_up_ne _ _ e9] at hy; exact hR.vw hj hy))
  obtain ⟨fy_7, hfy_7⟩ : ∃ z, z = (va_up fy (z_3).toNat (some i)) := ⟨_, rfl⟩
  rw [← hfy_7] at hR_6
  have h_8 := hIi.x5 (hR.vws5 hM_5)
  refine lv_iload_n hC.1 hC.2.1 dX5_open_12 rfl (lv_at hl 0 rfl) ?_
  exact x_iret hC hw dX5_open_13 (by omega) (by omega) ⟨z_3, rfl, by omega, _, hR_6⟩
set_option maxHeartbeats 4000000 in
set_option maxRecDepth 100000 in
theorem c_X5_head (l : Launch) (G : xG) {M : HM} {a va oa wa ya : Nat} {wk : Option Nat} {th rfd br re la ha kp kv : Int32} {qv qw : Nat → Nat} {fa fb : Nat → Option Nat} {fvv fw : Nat → Nat → Int32} {fo : Nat → Int32} {fy : Nat → Option Nat} {S : Nat → Bool} (hR : MGx G M a va oa wa ya wk th rfd br re la ha kp kv qv qw fa fb fvv fw fo fy S) {p0 : Int} (hp0 : -2147483648 ≤ p0 ∧ p0 ≤ 2147483647) {p1 : Int} (hp1 : -2147483648 ≤ p1 ∧ p1 ≤ 2147483647) {p2 : Int} (hp2 : -2147483648 ≤ p2 ∧ p2 ≤ 2147483647) (hb2 : p2 = 0 ∨ p2 = 1) : xMet l G yX5_head wsX5_head 3 66 1 5 [.ref a, .int (iN (p0)), .int (iN (p1)), .int (iN (p2))] M (fun r M1 => ∃ z : Int, r = some (.int (iN z)) ∧ (-2147483648 ≤ z ∧ z ≤ 2147483647) ∧ MGm G M1 a rfd S) := by
  refine x_intro (cc := cX5_head) (maxL := 4) (ret := (some .int)) (by decide +kernel) rfl (Nat.le_of_ble_eq_true rfl) ?_
  intro p e R s m args below meth c ls hRf hRc hRs hRl hC hw hl
  have hl : lv_has ls 4 [(0, .ref a), (1, .int (iN (p0))), (2, .int (iN (p1))), (3, .int (iN (p2)))] := hl
  refine lv_aload_n hC.1 hC.2.1 dX5_head_0 rfl (lv_at hl 0 rfl) ?_
  refine lv_iload_n hC.1 hC.2.1 dX5_head_1 rfl (lv_at hl 1 rfl) ?_
  refine lv_iload_n hC.1 hC.2.1 dX5_head_2 rfl (lv_at hl 2 rfl) ?_
  refine x_callV hC hw (lv_size hl) (c_X5_isBad l G hR (p0 := p0) (by omega) (p1 := p1) (by omega)) gX5_head_X5_isBad rfl dv_X5_isBad hR.1.1 rfl rfl (Nat.le_of_ble_eq_true rfl) (by rw [hRf]; decide) (by rw [hRl]; decide) (by omega) (by omega) dX5_head_3 (fun r9 M_1 H locs hq hw => ?_)
  obtain ⟨z_2, rfl, hz_2a, hz_2b, thk_3, hRk_3⟩ := hq
  show W p l e R s m args below meth c H locs _ _ _ (F0 m 6 ls [.int (iN (z_2))])
  refine x_if_ne (tgt := 32) hC ⟨by omega, by omega⟩ dX5_head_6 (by decide) (fun c_4 => ?_) (fun c_4 => ?_)
  · refine x_const hC dX5_head_32 ?_
    refine lv_goto (tgt := 68) hC.1 hC.2.1 dX5_head_33 (by decide) ?_
    exact x_iret hC hw dX5_head_68 (by omega) (by omega) ⟨0, rfl, by omega, ⟨_, _, _, _, _, _, _, _, _, _, _, _, _, _, _, _, _, _, _, _, hRk_3⟩⟩
  · refine lv_aload_n hC.1 hC.2.1 dX5_head_9 rfl (lv_at hl 0 rfl) ?_
    refine lv_aload_n hC.1 hC.2.1 dX5_head_10 rfl (lv_at hl 0 rfl) ?_
    refine x_callV hC hw (lv_size hl) (c_X5_free l G hRk_3) gX5_head_X5_free rfl dv_X5_free hRk_3.1.1 rfl rfl (Nat.le_of_ble_eq_true rfl) (by rw [hRf]; decide) (by rw [hRl]; decide) (by omega) (by omega) dX5_head_11 (fun r9 M_5 H locs hq hw => ?_)
    obtain ⟨z_6, rfl, hM9, hz_6a, hz_6N, hz_6Y⟩ := hq
    rw [hM9] at hw
    show W p l e R s m args below meth c H locs _ _ _ (F0 m 14 ls [.int (iN (z_6)), .ref a])
    refine x_sipush hC dX5_head_14 (by decide +kernel) ?_
    refine x_icmp_ne (tgt := 24) hC ⟨by omega, by omega⟩ ⟨by omega, by omega⟩ dX5_head_17 (by decide) (fun c_7 => ?_) (fun c_7 => ?_)
    · refine x_const hC dX5_head_24 ?_
      refine x_const hC dX5_head_25 ?_
      refine x_callV hC hw (lv_size hl) (c_X5_refuse l G hRk_3 (p0 := 0) (by omega) (p1 := 3) (by omega) (by omega)) gX5_head_X5_refuse rfl dv_X5_refuse hRk_3.1.1 rfl rfl (Nat.le_of_ble_eq_true rfl) (by rw [hRf]; decide) (by rw [hRl]; decide) (by omega) (by omega) dX5_head_26 (fun r9 M_8 H locs hq hw => ?_)
      obtain ⟨z_9, rfl, hz_9a, hz_9b, thk_10, hRk_10⟩ := hq
      show W p l e R s m args below meth c H locs _ _ _ (F0 m 29 ls [.int (iN (z_9))])
      refine x_if_eq (tgt := 36) hC ⟨by omega, by omega⟩ dX5_head_29 (by decide) (fun c_11 => ?_) (fun c_11 => ?_)
      · refine lv_aload_n hC.1 hC.2.1 dX5_head_36 rfl (lv_at hl 0 rfl) ?_
        refine x_const hC dX5_head_37 ?_
        refine x_newI hC hw (by decide +kernel) 5 rfl (by decide) (by omega) (by omega) dX5_head_38 (fun q_12 H hq_13 hw => ?_)
        obtain ⟨M_14, hM_15⟩ : ∃ z, z = va_up M_8 q_12 (some (.inl (G.2 1, 5, .inl (fun _ => 0)))) := ⟨_, rfl⟩
        rw [← hM_15] at hw
        have hx_16 : xExt M_8 M_14 := by rw [hM_15]; exact xExt.new hq_13
        have hA_17 : M_14 q_12 = some (.inl (G.2 1, 5, .inl (fun _ => 0))) := by rw [hM_15, va_up_self]
        have h_18 := hRk_10.ext hx_16
        refine lv_dup hC.1 hC.2.1 dX5_head_40 rfl ?_
        refine x_const hC dX5_head_41 ?_
        refine lv_iload_n hC.1 hC.2.1 dX5_head_42 rfl (lv_at hl 1 rfl) ?_
        refine x_iast hC hw hA_17 (by omega) (by omega) (by omega) dX5_head_43 (fun H locs hw => ?_)
        obtain ⟨M_19, hM_20⟩ : ∃ z, z = va_up M_14 q_12 (some (.inl (G.2 1, 5, .inl (upd (fun _ => 0) (0 : Int).toNat (iN (p0)))))) := ⟨_, rfl⟩
        rw [← hM_20] at hw
        have hA_21 : M_19 q_12 = some (.inl (G.2 1, 5, .inl (upd (fun _ => 0) (0 : Int).toNat (iN (p0))))) := by rw [hM_20, va_up_self]
        have hx_22 := xExt.upd hq_13 hx_16 hM_20
        have h_23 := hRk_10.ext hx_22
        refine lv_dup hC.1 hC.2.1 dX5_head_44 rfl ?_
        refine x_const hC dX5_head_45 ?_
        refine x_sipush hC dX5_head_46 (by decide +kernel) ?_
        refine x_iast hC hw hA_21 (by omega) (by omega) (by omega) dX5_head_49 (fun H locs hw => ?_)
        obtain ⟨M_24, hM_25⟩ : ∃ z, z = va_up M_19 q_12 (some (.inl (G.2 1, 5, .inl (upd (upd (fun _ => 0) (0 : Int).toNat (iN (p0))) (1 : Int).toNat (iN ((-10000))))))) := ⟨_, rfl⟩
        rw [← hM_25] at hw
        have hA_26 : M_24 q_12 = some (.inl (G.2 1, 5, .inl (upd (upd (fun _ => 0) (0 : Int).toNat (iN (p0))) (1 : Int).toNat (iN ((-10000)))))) := by rw [hM_25, va_up_self]
        have hx_27 := xExt.upd hq_13 hx_22 hM_25
        have h_28 := hRk_10.ext hx_27
        refine lv_dup hC.1 hC.2.1 dX5_head_50 rfl ?_
        refine x_const hC dX5_head_51 ?_
        refine x_const hC dX5_head_52 ?_
        refine x_iast hC hw hA_26 (by omega) (by omega) (by omega) dX5_head_53 (fun H locs hw => ?_)
        obtain ⟨M_29, hM_30⟩ : ∃ z, z = va_up M_24 q_12 (some (.inl (G.2 1, 5, .inl (upd (upd (upd (fun _ => 0) (0 : Int).toNat (iN (p0))) (1 : Int).toNat (iN ((-10000)))) (2 : Int).toNat (iN (0)))))) := ⟨_, rfl⟩
        rw [← hM_30] at hw
        have hA_31 : M_29 q_12 = some (.inl (G.2 1, 5, .inl (upd (upd (upd (fun _ => 0) (0 : Int).toNat (iN (p0))) (1 : Int).toNat (iN ((-10000)))) (2 : Int).toNat (iN (0))))) := by rw [hM_30, va_up_self]
        have hx_32 := xExt.upd hq_13 hx_27 hM_30
        have h_33 := hRk_10.ext hx_32
        refine lv_dup hC.1 hC.2.1 dX5_head_54 rfl ?_
        refine x_const hC dX5_head_55 ?_
        refine lv_iload_n hC.1 hC.2.1 dX5_head_56 rfl (lv_at hl 2 rfl) ?_
        refine x_iast hC hw hA_31 (by omega) (by omega) (by omega) dX5_head_57 (fun H locs hw => ?_)
        obtain ⟨M_34, hM_35⟩ : ∃ z, z = va_up M_29 q_12 (some (.inl (G.2 1, 5, .inl (upd (upd (upd (upd (fun _ => 0) (0 : Int).toNat (iN (p0))) (1 : Int).toNat (iN ((-10000)))) (2 : Int).toNat (iN (0))) (3 : Int).toNat (iN (p1)))))) := ⟨_, rfl⟩
        rw [← hM_35] at hw
        have hA_36 : M_34 q_12 = some (.inl (G.2 1, 5, .inl (upd (upd (upd (upd (fun _ => 0) (0 : Int).toNat (iN (p0))) (1 : Int).toNat (iN ((-10000)))) (2 : Int).toNat (iN (0))) (3 : Int).toNat (iN (p1))))) := by rw [hM_35, va_up_self]
        have hx_37 := xExt.upd hq_13 hx_32 hM_35
        have h_38 := hRk_10.ext hx_37
        refine lv_dup hC.1 hC.2.1 dX5_head_58 rfl ?_
        refine x_const hC dX5_head_59 ?_
        refine lv_iload_n hC.1 hC.2.1 dX5_head_60 rfl (lv_at hl 3 rfl) ?_
        refine x_callS hC hw (lv_size hl) (c_X5_one l G (M := M_34) (p0 := p2) (by omega)) gX5_head_X5_one rfl dv_X5_one_s rfl (Nat.le_of_ble_eq_true rfl) (by rw [hRf]; decide) (by rw [hRl]; decide) (by omega) (by omega) dX5_head_61 (fun r9 M_39 H locs hq hw => ?_)
        obtain ⟨z_40, rfl, hM9, hz_40a, hz_40b⟩ := hq
        rw [hM9] at hw
        show W p l e R s m args below meth c H locs _ _ _ (F0 m 64 ls [.int (iN (z_40)), .int (iN (4)), .ref q_12, .ref q_12, .ref a])
        refine x_iast hC hw hA_36 (by omega) (by omega) (by omega) dX5_head_64 (fun H locs hw => ?_)
        obtain ⟨M_41, hM_42⟩ : ∃ z, z = va_up M_34 q_12 (some (.inl (G.2 1, 5, .inl (upd (upd (upd (upd (upd (fun _ => 0) (0 : Int).toNat (iN (p0))) (1 : Int).toNat (iN ((-10000)))) (2 : Int).toNat (iN (0))) (3 : Int).toNat (iN (p1))) (4 : Int).toNat (iN (z_40)))))) := ⟨_, rfl⟩
        rw [← hM_42] at hw
        have hA_43 : M_41 q_12 = some (.inl (G.2 1, 5, .inl (upd (upd (upd (upd (upd (fun _ => 0) (0 : Int).toNat (iN (p0))) (1 : Int).toNat (iN ((-10000)))) (2 : Int).toNat (iN (0))) (3 : Int).toNat (iN (p1))) (4 : Int).toNat (iN (z_40))))) := by rw [hM_42, va_up_self]
        have hx_44 := xExt.upd hq_13 hx_37 hM_42
        have h_45 := hRk_10.ext hx_44
        have hI_46 : Its G M_41 q_12 (upd (upd (upd (upd (upd (fun _ => 0) (0 : Int).toNat (iN (p0))) (1 : Int).toNat (iN ((-10000)))) (2 : Int).toNat (iN (0))) (3 : Int).toNat (iN (p1))) (4 : Int).toNat (iN (z_40))) := ⟨hA_43, (show 0 ≤ (iN (p0)).toInt ∧ (iN (p0)).toInt ≤ 2 by rw [iN_toInt ⟨by omega, by omega⟩]; omega), (show (iN ((-10000))).toInt = -10000 ∨ (0 ≤ (iN ((-10000))).toInt ∧ (iN ((-10000))).toInt ≤ 99) by rw [iN_toInt ⟨by omega, by omega⟩]; omega), (show 0 ≤ (iN (0)).toInt ∧ (iN (0)).toInt ≤ 1 by rw [iN_toInt ⟨by omega, by omega⟩]; omega), (show (iN (p1)).toInt = -10000 ∨ (0 ≤ (iN (p1)).toInt ∧ (iN (p1)).toInt ≤ 99) by rw [iN_toInt ⟨by omega, by omega⟩]; omega), (show 0 ≤ (iN (z_40)).toInt ∧ (iN (z_40)).toInt ≤ 1 by rw [iN_toInt ⟨by omega, by omega⟩]; omega)⟩
        refine x_callV hC hw (lv_size hl) (c_X5_open l G h_45 hI_46 (j0 := (z_6).toNat) (by omega) (hz_6Y (by omega))) gX5_head_X5_open rfl dv_X5_open h_45.1.1 rfl rfl (Nat.le_of_ble_eq_true rfl) (by rw [hRf]; decide) (by rw [hRl]; decide) (by omega) (by omega) dX5_head_65 (fun r9 M_47 H locs hq hw => ?_)
        obtain ⟨z_48, rfl, hz_48a, fyk_49, hRk_49⟩ := hq
        show W p l e R s m args below meth c H locs _ _ _ (F0 m 68 ls [.int (iN (z_48))])
        exact x_iret hC hw dX5_head_68 (by omega) (by omega) ⟨z_48, rfl, by omega, ⟨_, _, _, _, _, _, _, _, _, _, _, _, _, _, _, _, _, _, _, _, hRk_49⟩⟩
      · refine x_const hC dX5_head_32 ?_
        refine lv_goto (tgt := 68) hC.1 hC.2.1 dX5_head_33 (by decide) ?_
        exact x_iret hC hw dX5_head_68 (by omega) (by omega) ⟨0, rfl, by omega, ⟨_, _, _, _, _, _, _, _, _, _, _, _, _, _, _, _, _, _, _, _, hRk_10⟩⟩
    · refine x_const hC dX5_head_20 ?_
      refine lv_goto (tgt := 25) hC.1 hC.2.1 dX5_head_21 (by decide) ?_
      refine x_const hC dX5_head_25 ?_
      refine x_callV hC hw (lv_size hl) (c_X5_refuse l G hRk_3 (p0 := 1) (by omega) (p1 := 3) (by omega) (by omega)) gX5_head_X5_refuse rfl dv_X5_refuse hRk_3.1.1 rfl rfl (Nat.le_of_ble_eq_true rfl) (by rw [hRf]; decide) (by rw [hRl]; decide) (by omega) (by omega) dX5_head_26 (fun r9 M_50 H locs hq hw => ?_)
      obtain ⟨z_51, rfl, hz_51a, hz_51b, thk_52, hRk_52⟩ := hq
      show W p l e R s m args below meth c H locs _ _ _ (F0 m 29 ls [.int (iN (z_51))])
      refine x_if_eq (tgt := 36) hC ⟨by omega, by omega⟩ dX5_head_29 (by decide) (fun c_53 => ?_) (fun c_53 => ?_)
      · refine lv_aload_n hC.1 hC.2.1 dX5_head_36 rfl (lv_at hl 0 rfl) ?_
        refine x_const hC dX5_head_37 ?_
        refine x_newI hC hw (by decide +kernel) 5 rfl (by decide) (by omega) (by omega) dX5_head_38 (fun q_54 H hq_55 hw => ?_)
        obtain ⟨M_56, hM_57⟩ : ∃ z, z = va_up M_50 q_54 (some (.inl (G.2 1, 5, .inl (fun _ => 0)))) := ⟨_, rfl⟩
        rw [← hM_57] at hw
        have hx_58 : xExt M_50 M_56 := by rw [hM_57]; exact xExt.new hq_55
        have hA_59 : M_56 q_54 = some (.inl (G.2 1, 5, .inl (fun _ => 0))) := by rw [hM_57, va_up_self]
        have h_60 := hRk_52.ext hx_58
        refine lv_dup hC.1 hC.2.1 dX5_head_40 rfl ?_
        refine x_const hC dX5_head_41 ?_
        refine lv_iload_n hC.1 hC.2.1 dX5_head_42 rfl (lv_at hl 1 rfl) ?_
        refine x_iast hC hw hA_59 (by omega) (by omega) (by omega) dX5_head_43 (fun H locs hw => ?_)
        obtain ⟨M_61, hM_62⟩ : ∃ z, z = va_up M_56 q_54 (some (.inl (G.2 1, 5, .inl (upd (fun _ => 0) (0 : Int).toNat (iN (p0)))))) := ⟨_, rfl⟩
        rw [← hM_62] at hw
        have hA_63 : M_61 q_54 = some (.inl (G.2 1, 5, .inl (upd (fun _ => 0) (0 : Int).toNat (iN (p0))))) := by rw [hM_62, va_up_self]
        have hx_64 := xExt.upd hq_55 hx_58 hM_62
        have h_65 := hRk_52.ext hx_64
        refine lv_dup hC.1 hC.2.1 dX5_head_44 rfl ?_
        refine x_const hC dX5_head_45 ?_
        refine x_sipush hC dX5_head_46 (by decide +kernel) ?_
        refine x_iast hC hw hA_63 (by omega) (by omega) (by omega) dX5_head_49 (fun H locs hw => ?_)
        obtain ⟨M_66, hM_67⟩ : ∃ z, z = va_up M_61 q_54 (some (.inl (G.2 1, 5, .inl (upd (upd (fun _ => 0) (0 : Int).toNat (iN (p0))) (1 : Int).toNat (iN ((-10000))))))) := ⟨_, rfl⟩
        rw [← hM_67] at hw
        have hA_68 : M_66 q_54 = some (.inl (G.2 1, 5, .inl (upd (upd (fun _ => 0) (0 : Int).toNat (iN (p0))) (1 : Int).toNat (iN ((-10000)))))) := by rw [hM_67, va_up_self]
        have hx_69 := xExt.upd hq_55 hx_64 hM_67
        have h_70 := hRk_52.ext hx_69
        refine lv_dup hC.1 hC.2.1 dX5_head_50 rfl ?_
        refine x_const hC dX5_head_51 ?_
        refine x_const hC dX5_head_52 ?_
        refine x_iast hC hw hA_68 (by omega) (by omega) (by omega) dX5_head_53 (fun H locs hw => ?_)
        obtain ⟨M_71, hM_72⟩ : ∃ z, z = va_up M_66 q_54 (some (.inl (G.2 1, 5, .inl (upd (upd (upd (fun _ => 0) (0 : Int).toNat (iN (p0))) (1 : Int).toNat (iN ((-10000)))) (2 : Int).toNat (iN (0)))))) := ⟨_, rfl⟩
        rw [← hM_72] at hw
        have hA_73 : M_71 q_54 = some (.inl (G.2 1, 5, .inl (upd (upd (upd (fun _ => 0) (0 : Int).toNat (iN (p0))) (1 : Int).toNat (iN ((-10000)))) (2 : Int).toNat (iN (0))))) := by rw [hM_72, va_up_self]
        have hx_74 := xExt.upd hq_55 hx_69 hM_72
        have h_75 := hRk_52.ext hx_74
        refine lv_dup hC.1 hC.2.1 dX5_head_54 rfl ?_
        refine x_const hC dX5_head_55 ?_
        refine lv_iload_n hC.1 hC.2.1 dX5_head_56 rfl (lv_at hl 2 rfl) ?_
        refine x_iast hC hw hA_73 (by omega) (by omega) (by omega) dX5_head_57 (fun H locs hw => ?_)
        obtain ⟨M_76, hM_77⟩ : ∃ z, z = va_up M_71 q_54 (some (.inl (G.2 1, 5, .inl (upd (upd (upd (upd (fun _ => 0) (0 : Int).toNat (iN (p0))) (1 : Int).toNat (iN ((-10000)))) (2 : Int).toNat (iN (0))) (3 : Int).toNat (iN (p1)))))) := ⟨_, rfl⟩
        rw [← hM_77] at hw
        have hA_78 : M_76 q_54 = some (.inl (G.2 1, 5, .inl (upd (upd (upd (upd (fun _ => 0) (0 : Int).toNat (iN (p0))) (1 : Int).toNat (iN ((-10000)))) (2 : Int).toNat (iN (0))) (3 : Int).toNat (iN (p1))))) := by rw [hM_77, va_up_self]
        have hx_79 := xExt.upd hq_55 hx_74 hM_77
        have h_80 := hRk_52.ext hx_79
        refine lv_dup hC.1 hC.2.1 dX5_head_58 rfl ?_
        refine x_const hC dX5_head_59 ?_
        refine lv_iload_n hC.1 hC.2.1 dX5_head_60 rfl (lv_at hl 3 rfl) ?_
        refine x_callS hC hw (lv_size hl) (c_X5_one l G (M := M_76) (p0 := p2) (by omega)) gX5_head_X5_one rfl dv_X5_one_s rfl (Nat.le_of_ble_eq_true rfl) (by rw [hRf]; decide) (by rw [hRl]; decide) (by omega) (by omega) dX5_head_61 (fun r9 M_81 H locs hq hw => ?_)
        obtain ⟨z_82, rfl, hM9, hz_82a, hz_82b⟩ := hq
        rw [hM9] at hw
        show W p l e R s m args below meth c H locs _ _ _ (F0 m 64 ls [.int (iN (z_82)), .int (iN (4)), .ref q_54, .ref q_54, .ref a])
        refine x_iast hC hw hA_78 (by omega) (by omega) (by omega) dX5_head_64 (fun H locs hw => ?_)
        obtain ⟨M_83, hM_84⟩ : ∃ z, z = va_up M_76 q_54 (some (.inl (G.2 1, 5, .inl (upd (upd (upd (upd (upd (fun _ => 0) (0 : Int).toNat (iN (p0))) (1 : Int).toNat (iN ((-10000)))) (2 : Int).toNat (iN (0))) (3 : Int).toNat (iN (p1))) (4 : Int).toNat (iN (z_82)))))) := ⟨_, rfl⟩
        rw [← hM_84] at hw
        have hA_85 : M_83 q_54 = some (.inl (G.2 1, 5, .inl (upd (upd (upd (upd (upd (fun _ => 0) (0 : Int).toNat (iN (p0))) (1 : Int).toNat (iN ((-10000)))) (2 : Int).toNat (iN (0))) (3 : Int).toNat (iN (p1))) (4 : Int).toNat (iN (z_82))))) := by rw [hM_84, va_up_self]
        have hx_86 := xExt.upd hq_55 hx_79 hM_84
        have h_87 := hRk_52.ext hx_86
        have hI_88 : Its G M_83 q_54 (upd (upd (upd (upd (upd (fun _ => 0) (0 : Int).toNat (iN (p0))) (1 : Int).toNat (iN ((-10000)))) (2 : Int).toNat (iN (0))) (3 : Int).toNat (iN (p1))) (4 : Int).toNat (iN (z_82))) := ⟨hA_85, (show 0 ≤ (iN (p0)).toInt ∧ (iN (p0)).toInt ≤ 2 by rw [iN_toInt ⟨by omega, by omega⟩]; omega), (show (iN ((-10000))).toInt = -10000 ∨ (0 ≤ (iN ((-10000))).toInt ∧ (iN ((-10000))).toInt ≤ 99) by rw [iN_toInt ⟨by omega, by omega⟩]; omega), (show 0 ≤ (iN (0)).toInt ∧ (iN (0)).toInt ≤ 1 by rw [iN_toInt ⟨by omega, by omega⟩]; omega), (show (iN (p1)).toInt = -10000 ∨ (0 ≤ (iN (p1)).toInt ∧ (iN (p1)).toInt ≤ 99) by rw [iN_toInt ⟨by omega, by omega⟩]; omega), (show 0 ≤ (iN (z_82)).toInt ∧ (iN (z_82)).toInt ≤ 1 by rw [iN_toInt ⟨by omega, by omega⟩]; omega)⟩
        refine x_callV hC hw (lv_size hl) (c_X5_open l G h_87 hI_88 (j0 := (z_6).toNat) (by omega) (hz_6Y (by omega))) gX5_head_X5_open rfl dv_X5_open h_87.1.1 rfl rfl (Nat.le_of_ble_eq_true rfl) (by rw [hRf]; decide) (by rw [hRl]; decide) (by omega) (by omega) dX5_head_65 (fun r9 M_89 H locs hq hw => ?_)
        obtain ⟨z_90, rfl, hz_90a, fyk_91, hRk_91⟩ := hq
        show W p l e R s m args below meth c H locs _ _ _ (F0 m 68 ls [.int (iN (z_90))])
        exact x_iret hC hw dX5_head_68 (by omega) (by omega) ⟨z_90, rfl, by omega, ⟨_, _, _, _, _, _, _, _, _, _, _, _, _, _, _, _, _, _, _, _, hRk_91⟩⟩
      · refine x_const hC dX5_head_32 ?_
        refine lv_goto (tgt := 68) hC.1 hC.2.1 dX5_head_33 (by decide) ?_
        exact x_iret hC hw dX5_head_68 (by omega) (by omega) ⟨0, rfl, by omega, ⟨_, _, _, _, _, _, _, _, _, _, _, _, _, _, _, _, _, _, _, _, hRk_52⟩⟩
set_option maxHeartbeats 4000000 in
set_option maxRecDepth 100000 in
theorem c_X5_tail (l : Launch) (G : xG) {M : HM} {a va oa wa ya : Nat} {wk : Option Nat} {th rfd br re la ha kp kv : Int32} {qv qw : Nat → Nat} {fa fb : Nat → Option Nat} {fvv fw : Nat → Nat → Int32} {fo : Nat → Int32} {fy : Nat → Option Nat} {S : Nat → Bool} (hR : MGx G M a va oa wa ya wk th rfd br re la ha kp kv qv qw fa fb fvv fw fo fy S) {p0 : Int} (hp0 : -2147483648 ≤ p0 ∧ p0 ≤ 2147483647) {p1 : Int} (hp1 : -2147483648 ≤ p1 ∧ p1 ≤ 2147483647) {p2 : Int} (hp2 : -2147483648 ≤ p2 ∧ p2 ≤ 2147483647) (hb2 : p2 = 0 ∨ p2 = 1) : xMet l G yX5_tail wsX5_tail 3 66 1 5 [.ref a, .int (iN (p0)), .int (iN (p1)), .int (iN (p2))] M (fun r M1 => ∃ z : Int, r = some (.int (iN z)) ∧ (-2147483648 ≤ z ∧ z ≤ 2147483647) ∧ MGm G M1 a rfd S) := by
  refine x_intro (cc := cX5_tail) (maxL := 4) (ret := (some .int)) (by decide +kernel) rfl (Nat.le_of_ble_eq_true rfl) ?_
  intro p e R s m args below meth c ls hRf hRc hRs hRl hC hw hl
  have hl : lv_has ls 4 [(0, .ref a), (1, .int (iN (p0))), (2, .int (iN (p1))), (3, .int (iN (p2)))] := hl
  refine lv_aload_n hC.1 hC.2.1 dX5_tail_0 rfl (lv_at hl 0 rfl) ?_
  refine lv_iload_n hC.1 hC.2.1 dX5_tail_1 rfl (lv_at hl 1 rfl) ?_
  refine lv_iload_n hC.1 hC.2.1 dX5_tail_2 rfl (lv_at hl 2 rfl) ?_
  refine x_callV hC hw (lv_size hl) (c_X5_isBad l G hR (p0 := p0) (by omega) (p1 := p1) (by omega)) gX5_tail_X5_isBad rfl dv_X5_isBad hR.1.1 rfl rfl (Nat.le_of_ble_eq_true rfl) (by rw [hRf]; decide) (by rw [hRl]; decide) (by omega) (by omega) dX5_tail_3 (fun r9 M_1 H locs hq hw => ?_)
  obtain ⟨z_2, rfl, hz_2a, hz_2b, thk_3, hRk_3⟩ := hq
  show W p l e R s m args below meth c H locs _ _ _ (F0 m 6 ls [.int (iN (z_2))])
  refine x_if_ne (tgt := 32) hC ⟨by omega, by omega⟩ dX5_tail_6 (by decide) (fun c_4 => ?_) (fun c_4 => ?_)
  · refine x_const hC dX5_tail_32 ?_
    refine lv_goto (tgt := 68) hC.1 hC.2.1 dX5_tail_33 (by decide) ?_
    exact x_iret hC hw dX5_tail_68 (by omega) (by omega) ⟨0, rfl, by omega, ⟨_, _, _, _, _, _, _, _, _, _, _, _, _, _, _, _, _, _, _, _, hRk_3⟩⟩
  · refine lv_aload_n hC.1 hC.2.1 dX5_tail_9 rfl (lv_at hl 0 rfl) ?_
    refine lv_aload_n hC.1 hC.2.1 dX5_tail_10 rfl (lv_at hl 0 rfl) ?_
    refine x_callV hC hw (lv_size hl) (c_X5_free l G hRk_3) gX5_tail_X5_free rfl dv_X5_free hRk_3.1.1 rfl rfl (Nat.le_of_ble_eq_true rfl) (by rw [hRf]; decide) (by rw [hRl]; decide) (by omega) (by omega) dX5_tail_11 (fun r9 M_5 H locs hq hw => ?_)
    obtain ⟨z_6, rfl, hM9, hz_6a, hz_6N, hz_6Y⟩ := hq
    rw [hM9] at hw
    show W p l e R s m args below meth c H locs _ _ _ (F0 m 14 ls [.int (iN (z_6)), .ref a])
    refine x_sipush hC dX5_tail_14 (by decide +kernel) ?_
    refine x_icmp_ne (tgt := 24) hC ⟨by omega, by omega⟩ ⟨by omega, by omega⟩ dX5_tail_17 (by decide) (fun c_7 => ?_) (fun c_7 => ?_)
    · refine x_const hC dX5_tail_24 ?_
      refine x_const hC dX5_tail_25 ?_
      refine x_callV hC hw (lv_size hl) (c_X5_refuse l G hRk_3 (p0 := 0) (by omega) (p1 := 3) (by omega) (by omega)) gX5_tail_X5_refuse rfl dv_X5_refuse hRk_3.1.1 rfl rfl (Nat.le_of_ble_eq_true rfl) (by rw [hRf]; decide) (by rw [hRl]; decide) (by omega) (by omega) dX5_tail_26 (fun r9 M_8 H locs hq hw => ?_)
      obtain ⟨z_9, rfl, hz_9a, hz_9b, thk_10, hRk_10⟩ := hq
      show W p l e R s m args below meth c H locs _ _ _ (F0 m 29 ls [.int (iN (z_9))])
      refine x_if_eq (tgt := 36) hC ⟨by omega, by omega⟩ dX5_tail_29 (by decide) (fun c_11 => ?_) (fun c_11 => ?_)
      · refine lv_aload_n hC.1 hC.2.1 dX5_tail_36 rfl (lv_at hl 0 rfl) ?_
        refine x_const hC dX5_tail_37 ?_
        refine x_newI hC hw (by decide +kernel) 5 rfl (by decide) (by omega) (by omega) dX5_tail_38 (fun q_12 H hq_13 hw => ?_)
        obtain ⟨M_14, hM_15⟩ : ∃ z, z = va_up M_8 q_12 (some (.inl (G.2 1, 5, .inl (fun _ => 0)))) := ⟨_, rfl⟩
        rw [← hM_15] at hw
        have hx_16 : xExt M_8 M_14 := by rw [hM_15]; exact xExt.new hq_13
        have hA_17 : M_14 q_12 = some (.inl (G.2 1, 5, .inl (fun _ => 0))) := by rw [hM_15, va_up_self]
        have h_18 := hRk_10.ext hx_16
        refine lv_dup hC.1 hC.2.1 dX5_tail_40 rfl ?_
        refine x_const hC dX5_tail_41 ?_
        refine lv_iload_n hC.1 hC.2.1 dX5_tail_42 rfl (lv_at hl 1 rfl) ?_
        refine x_iast hC hw hA_17 (by omega) (by omega) (by omega) dX5_tail_43 (fun H locs hw => ?_)
        obtain ⟨M_19, hM_20⟩ : ∃ z, z = va_up M_14 q_12 (some (.inl (G.2 1, 5, .inl (upd (fun _ => 0) (0 : Int).toNat (iN (p0)))))) := ⟨_, rfl⟩
        rw [← hM_20] at hw
        have hA_21 : M_19 q_12 = some (.inl (G.2 1, 5, .inl (upd (fun _ => 0) (0 : Int).toNat (iN (p0))))) := by rw [hM_20, va_up_self]
        have hx_22 := xExt.upd hq_13 hx_16 hM_20
        have h_23 := hRk_10.ext hx_22
        refine lv_dup hC.1 hC.2.1 dX5_tail_44 rfl ?_
        refine x_const hC dX5_tail_45 ?_
        refine lv_iload_n hC.1 hC.2.1 dX5_tail_46 rfl (lv_at hl 2 rfl) ?_
        refine x_iast hC hw hA_21 (by omega) (by omega) (by omega) dX5_tail_47 (fun H locs hw => ?_)
        obtain ⟨M_24, hM_25⟩ : ∃ z, z = va_up M_19 q_12 (some (.inl (G.2 1, 5, .inl (upd (upd (fun _ => 0) (0 : Int).toNat (iN (p0))) (1 : Int).toNat (iN (p1)))))) := ⟨_, rfl⟩
        rw [← hM_25] at hw
        have hA_26 : M_24 q_12 = some (.inl (G.2 1, 5, .inl (upd (upd (fun _ => 0) (0 : Int).toNat (iN (p0))) (1 : Int).toNat (iN (p1))))) := by rw [hM_25, va_up_self]
        have hx_27 := xExt.upd hq_13 hx_22 hM_25
        have h_28 := hRk_10.ext hx_27
        refine lv_dup hC.1 hC.2.1 dX5_tail_48 rfl ?_
        refine x_const hC dX5_tail_49 ?_
        refine lv_iload_n hC.1 hC.2.1 dX5_tail_50 rfl (lv_at hl 3 rfl) ?_
        refine x_callS hC hw (lv_size hl) (c_X5_one l G (M := M_24) (p0 := p2) (by omega)) gX5_tail_X5_one rfl dv_X5_one_s rfl (Nat.le_of_ble_eq_true rfl) (by rw [hRf]; decide) (by rw [hRl]; decide) (by omega) (by omega) dX5_tail_51 (fun r9 M_29 H locs hq hw => ?_)
        obtain ⟨z_30, rfl, hM9, hz_30a, hz_30b⟩ := hq
        rw [hM9] at hw
        show W p l e R s m args below meth c H locs _ _ _ (F0 m 54 ls [.int (iN (z_30)), .int (iN (2)), .ref q_12, .ref q_12, .ref a])
        refine x_iast hC hw hA_26 (by omega) (by omega) (by omega) dX5_tail_54 (fun H locs hw => ?_)
        obtain ⟨M_31, hM_32⟩ : ∃ z, z = va_up M_24 q_12 (some (.inl (G.2 1, 5, .inl (upd (upd (upd (fun _ => 0) (0 : Int).toNat (iN (p0))) (1 : Int).toNat (iN (p1))) (2 : Int).toNat (iN (z_30)))))) := ⟨_, rfl⟩
        rw [← hM_32] at hw
        have hA_33 : M_31 q_12 = some (.inl (G.2 1, 5, .inl (upd (upd (upd (fun _ => 0) (0 : Int).toNat (iN (p0))) (1 : Int).toNat (iN (p1))) (2 : Int).toNat (iN (z_30))))) := by rw [hM_32, va_up_self]
        have hx_34 := xExt.upd hq_13 hx_27 hM_32
        have h_35 := hRk_10.ext hx_34
        refine lv_dup hC.1 hC.2.1 dX5_tail_55 rfl ?_
        refine x_const hC dX5_tail_56 ?_
        refine x_sipush hC dX5_tail_57 (by decide +kernel) ?_
        refine x_iast hC hw hA_33 (by omega) (by omega) (by omega) dX5_tail_60 (fun H locs hw => ?_)
        obtain ⟨M_36, hM_37⟩ : ∃ z, z = va_up M_31 q_12 (some (.inl (G.2 1, 5, .inl (upd (upd (upd (upd (fun _ => 0) (0 : Int).toNat (iN (p0))) (1 : Int).toNat (iN (p1))) (2 : Int).toNat (iN (z_30))) (3 : Int).toNat (iN ((-10000))))))) := ⟨_, rfl⟩
        rw [← hM_37] at hw
        have hA_38 : M_36 q_12 = some (.inl (G.2 1, 5, .inl (upd (upd (upd (upd (fun _ => 0) (0 : Int).toNat (iN (p0))) (1 : Int).toNat (iN (p1))) (2 : Int).toNat (iN (z_30))) (3 : Int).toNat (iN ((-10000)))))) := by rw [hM_37, va_up_self]
        have hx_39 := xExt.upd hq_13 hx_34 hM_37
        have h_40 := hRk_10.ext hx_39
        refine lv_dup hC.1 hC.2.1 dX5_tail_61 rfl ?_
        refine x_const hC dX5_tail_62 ?_
        refine x_const hC dX5_tail_63 ?_
        refine x_iast hC hw hA_38 (by omega) (by omega) (by omega) dX5_tail_64 (fun H locs hw => ?_)
        obtain ⟨M_41, hM_42⟩ : ∃ z, z = va_up M_36 q_12 (some (.inl (G.2 1, 5, .inl (upd (upd (upd (upd (upd (fun _ => 0) (0 : Int).toNat (iN (p0))) (1 : Int).toNat (iN (p1))) (2 : Int).toNat (iN (z_30))) (3 : Int).toNat (iN ((-10000)))) (4 : Int).toNat (iN (0)))))) := ⟨_, rfl⟩
        rw [← hM_42] at hw
        have hA_43 : M_41 q_12 = some (.inl (G.2 1, 5, .inl (upd (upd (upd (upd (upd (fun _ => 0) (0 : Int).toNat (iN (p0))) (1 : Int).toNat (iN (p1))) (2 : Int).toNat (iN (z_30))) (3 : Int).toNat (iN ((-10000)))) (4 : Int).toNat (iN (0))))) := by rw [hM_42, va_up_self]
        have hx_44 := xExt.upd hq_13 hx_39 hM_42
        have h_45 := hRk_10.ext hx_44
        have hI_46 : Its G M_41 q_12 (upd (upd (upd (upd (upd (fun _ => 0) (0 : Int).toNat (iN (p0))) (1 : Int).toNat (iN (p1))) (2 : Int).toNat (iN (z_30))) (3 : Int).toNat (iN ((-10000)))) (4 : Int).toNat (iN (0))) := ⟨hA_43, (show 0 ≤ (iN (p0)).toInt ∧ (iN (p0)).toInt ≤ 2 by rw [iN_toInt ⟨by omega, by omega⟩]; omega), (show (iN (p1)).toInt = -10000 ∨ (0 ≤ (iN (p1)).toInt ∧ (iN (p1)).toInt ≤ 99) by rw [iN_toInt ⟨by omega, by omega⟩]; omega), (show 0 ≤ (iN (z_30)).toInt ∧ (iN (z_30)).toInt ≤ 1 by rw [iN_toInt ⟨by omega, by omega⟩]; omega), (show (iN ((-10000))).toInt = -10000 ∨ (0 ≤ (iN ((-10000))).toInt ∧ (iN ((-10000))).toInt ≤ 99) by rw [iN_toInt ⟨by omega, by omega⟩]; omega), (show 0 ≤ (iN (0)).toInt ∧ (iN (0)).toInt ≤ 1 by rw [iN_toInt ⟨by omega, by omega⟩]; omega)⟩
        refine x_callV hC hw (lv_size hl) (c_X5_open l G h_45 hI_46 (j0 := (z_6).toNat) (by omega) (hz_6Y (by omega))) gX5_tail_X5_open rfl dv_X5_open h_45.1.1 rfl rfl (Nat.le_of_ble_eq_true rfl) (by rw [hRf]; decide) (by rw [hRl]; decide) (by omega) (by omega) dX5_tail_65 (fun r9 M_47 H locs hq hw => ?_)
        obtain ⟨z_48, rfl, hz_48a, fyk_49, hRk_49⟩ := hq
        show W p l e R s m args below meth c H locs _ _ _ (F0 m 68 ls [.int (iN (z_48))])
        exact x_iret hC hw dX5_tail_68 (by omega) (by omega) ⟨z_48, rfl, by omega, ⟨_, _, _, _, _, _, _, _, _, _, _, _, _, _, _, _, _, _, _, _, hRk_49⟩⟩
      · refine x_const hC dX5_tail_32 ?_
        refine lv_goto (tgt := 68) hC.1 hC.2.1 dX5_tail_33 (by decide) ?_
        exact x_iret hC hw dX5_tail_68 (by omega) (by omega) ⟨0, rfl, by omega, ⟨_, _, _, _, _, _, _, _, _, _, _, _, _, _, _, _, _, _, _, _, hRk_10⟩⟩
    · refine x_const hC dX5_tail_20 ?_
      refine lv_goto (tgt := 25) hC.1 hC.2.1 dX5_tail_21 (by decide) ?_
      refine x_const hC dX5_tail_25 ?_
      refine x_callV hC hw (lv_size hl) (c_X5_refuse l G hRk_3 (p0 := 1) (by omega) (p1 := 3) (by omega) (by omega)) gX5_tail_X5_refuse rfl dv_X5_refuse hRk_3.1.1 rfl rfl (Nat.le_of_ble_eq_true rfl) (by rw [hRf]; decide) (by rw [hRl]; decide) (by omega) (by omega) dX5_tail_26 (fun r9 M_50 H locs hq hw => ?_)
      obtain ⟨z_51, rfl, hz_51a, hz_51b, thk_52, hRk_52⟩ := hq
      show W p l e R s m args below meth c H locs _ _ _ (F0 m 29 ls [.int (iN (z_51))])
      refine x_if_eq (tgt := 36) hC ⟨by omega, by omega⟩ dX5_tail_29 (by decide) (fun c_53 => ?_) (fun c_53 => ?_)
      · refine lv_aload_n hC.1 hC.2.1 dX5_tail_36 rfl (lv_at hl 0 rfl) ?_
        refine x_const hC dX5_tail_37 ?_
        refine x_newI hC hw (by decide +kernel) 5 rfl (by decide) (by omega) (by omega) dX5_tail_38 (fun q_54 H hq_55 hw => ?_)
        obtain ⟨M_56, hM_57⟩ : ∃ z, z = va_up M_50 q_54 (some (.inl (G.2 1, 5, .inl (fun _ => 0)))) := ⟨_, rfl⟩
        rw [← hM_57] at hw
        have hx_58 : xExt M_50 M_56 := by rw [hM_57]; exact xExt.new hq_55
        have hA_59 : M_56 q_54 = some (.inl (G.2 1, 5, .inl (fun _ => 0))) := by rw [hM_57, va_up_self]
        have h_60 := hRk_52.ext hx_58
        refine lv_dup hC.1 hC.2.1 dX5_tail_40 rfl ?_
        refine x_const hC dX5_tail_41 ?_
        refine lv_iload_n hC.1 hC.2.1 dX5_tail_42 rfl (lv_at hl 1 rfl) ?_
        refine x_iast hC hw hA_59 (by omega) (by omega) (by omega) dX5_tail_43 (fun H locs hw => ?_)
        obtain ⟨M_61, hM_62⟩ : ∃ z, z = va_up M_56 q_54 (some (.inl (G.2 1, 5, .inl (upd (fun _ => 0) (0 : Int).toNat (iN (p0)))))) := ⟨_, rfl⟩
        rw [← hM_62] at hw
        have hA_63 : M_61 q_54 = some (.inl (G.2 1, 5, .inl (upd (fun _ => 0) (0 : Int).toNat (iN (p0))))) := by rw [hM_62, va_up_self]
        have hx_64 := xExt.upd hq_55 hx_58 hM_62
        have h_65 := hRk_52.ext hx_64
        refine lv_dup hC.1 hC.2.1 dX5_tail_44 rfl ?_
        refine x_const hC dX5_tail_45 ?_
        refine lv_iload_n hC.1 hC.2.1 dX5_tail_46 rfl (lv_at hl 2 rfl) ?_
        refine x_iast hC hw hA_63 (by omega) (by omega) (by omega) dX5_tail_47 (fun H locs hw => ?_)
        obtain ⟨M_66, hM_67⟩ : ∃ z, z = va_up M_61 q_54 (some (.inl (G.2 1, 5, .inl (upd (upd (fun _ => 0) (0 : Int).toNat (iN (p0))) (1 : Int).toNat (iN (p1)))))) := ⟨_, rfl⟩
        rw [← hM_67] at hw
        have hA_68 : M_66 q_54 = some (.inl (G.2 1, 5, .inl (upd (upd (fun _ => 0) (0 : Int).toNat (iN (p0))) (1 : Int).toNat (iN (p1))))) := by rw [hM_67, va_up_self]
        have hx_69 := xExt.upd hq_55 hx_64 hM_67
        have h_70 := hRk_52.ext hx_69
        refine lv_dup hC.1 hC.2.1 dX5_tail_48 rfl ?_
        refine x_const hC dX5_tail_49 ?_
        refine lv_iload_n hC.1 hC.2.1 dX5_tail_50 rfl (lv_at hl 3 rfl) ?_
        refine x_callS hC hw (lv_size hl) (c_X5_one l G (M := M_66) (p0 := p2) (by omega)) gX5_tail_X5_one rfl dv_X5_one_s rfl (Nat.le_of_ble_eq_true rfl) (by rw [hRf]; decide) (by rw [hRl]; decide) (by omega) (by omega) dX5_tail_51 (fun r9 M_71 H locs hq hw => ?_)
        obtain ⟨z_72, rfl, hM9, hz_72a, hz_72b⟩ := hq
        rw [hM9] at hw
        show W p l e R s m args below meth c H locs _ _ _ (F0 m 54 ls [.int (iN (z_72)), .int (iN (2)), .ref q_54, .ref q_54, .ref a])
        refine x_iast hC hw hA_68 (by omega) (by omega) (by omega) dX5_tail_54 (fun H locs hw => ?_)
        obtain ⟨M_73, hM_74⟩ : ∃ z, z = va_up M_66 q_54 (some (.inl (G.2 1, 5, .inl (upd (upd (upd (fun _ => 0) (0 : Int).toNat (iN (p0))) (1 : Int).toNat (iN (p1))) (2 : Int).toNat (iN (z_72)))))) := ⟨_, rfl⟩
        rw [← hM_74] at hw
        have hA_75 : M_73 q_54 = some (.inl (G.2 1, 5, .inl (upd (upd (upd (fun _ => 0) (0 : Int).toNat (iN (p0))) (1 : Int).toNat (iN (p1))) (2 : Int).toNat (iN (z_72))))) := by rw [hM_74, va_up_self]
        have hx_76 := xExt.upd hq_55 hx_69 hM_74
        have h_77 := hRk_52.ext hx_76
        refine lv_dup hC.1 hC.2.1 dX5_tail_55 rfl ?_
        refine x_const hC dX5_tail_56 ?_
        refine x_sipush hC dX5_tail_57 (by decide +kernel) ?_
        refine x_iast hC hw hA_75 (by omega) (by omega) (by omega) dX5_tail_60 (fun H locs hw => ?_)
        obtain ⟨M_78, hM_79⟩ : ∃ z, z = va_up M_73 q_54 (some (.inl (G.2 1, 5, .inl (upd (upd (upd (upd (fun _ => 0) (0 : Int).toNat (iN (p0))) (1 : Int).toNat (iN (p1))) (2 : Int).toNat (iN (z_72))) (3 : Int).toNat (iN ((-10000))))))) := ⟨_, rfl⟩
        rw [← hM_79] at hw
        have hA_80 : M_78 q_54 = some (.inl (G.2 1, 5, .inl (upd (upd (upd (upd (fun _ => 0) (0 : Int).toNat (iN (p0))) (1 : Int).toNat (iN (p1))) (2 : Int).toNat (iN (z_72))) (3 : Int).toNat (iN ((-10000)))))) := by rw [hM_79, va_up_self]
        have hx_81 := xExt.upd hq_55 hx_76 hM_79
        have h_82 := hRk_52.ext hx_81
        refine lv_dup hC.1 hC.2.1 dX5_tail_61 rfl ?_
        refine x_const hC dX5_tail_62 ?_
        refine x_const hC dX5_tail_63 ?_
        refine x_iast hC hw hA_80 (by omega) (by omega) (by omega) dX5_tail_64 (fun H locs hw => ?_)
        obtain ⟨M_83, hM_84⟩ : ∃ z, z = va_up M_78 q_54 (some (.inl (G.2 1, 5, .inl (upd (upd (upd (upd (upd (fun _ => 0) (0 : Int).toNat (iN (p0))) (1 : Int).toNat (iN (p1))) (2 : Int).toNat (iN (z_72))) (3 : Int).toNat (iN ((-10000)))) (4 : Int).toNat (iN (0)))))) := ⟨_, rfl⟩
        rw [← hM_84] at hw
        have hA_85 : M_83 q_54 = some (.inl (G.2 1, 5, .inl (upd (upd (upd (upd (upd (fun _ => 0) (0 : Int).toNat (iN (p0))) (1 : Int).toNat (iN (p1))) (2 : Int).toNat (iN (z_72))) (3 : Int).toNat (iN ((-10000)))) (4 : Int).toNat (iN (0))))) := by rw [hM_84, va_up_self]
        have hx_86 := xExt.upd hq_55 hx_81 hM_84
        have h_87 := hRk_52.ext hx_86
        have hI_88 : Its G M_83 q_54 (upd (upd (upd (upd (upd (fun _ => 0) (0 : Int).toNat (iN (p0))) (1 : Int).toNat (iN (p1))) (2 : Int).toNat (iN (z_72))) (3 : Int).toNat (iN ((-10000)))) (4 : Int).toNat (iN (0))) := ⟨hA_85, (show 0 ≤ (iN (p0)).toInt ∧ (iN (p0)).toInt ≤ 2 by rw [iN_toInt ⟨by omega, by omega⟩]; omega), (show (iN (p1)).toInt = -10000 ∨ (0 ≤ (iN (p1)).toInt ∧ (iN (p1)).toInt ≤ 99) by rw [iN_toInt ⟨by omega, by omega⟩]; omega), (show 0 ≤ (iN (z_72)).toInt ∧ (iN (z_72)).toInt ≤ 1 by rw [iN_toInt ⟨by omega, by omega⟩]; omega), (show (iN ((-10000))).toInt = -10000 ∨ (0 ≤ (iN ((-10000))).toInt ∧ (iN ((-10000))).toInt ≤ 99) by rw [iN_toInt ⟨by omega, by omega⟩]; omega), (show 0 ≤ (iN (0)).toInt ∧ (iN (0)).toInt ≤ 1 by rw [iN_toInt ⟨by omega, by omega⟩]; omega)⟩
        refine x_callV hC hw (lv_size hl) (c_X5_open l G h_87 hI_88 (j0 := (z_6).toNat) (by omega) (hz_6Y (by omega))) gX5_tail_X5_open rfl dv_X5_open h_87.1.1 rfl rfl (Nat.le_of_ble_eq_true rfl) (by rw [hRf]; decide) (by rw [hRl]; decide) (by omega) (by omega) dX5_tail_65 (fun r9 M_89 H locs hq hw => ?_)
        obtain ⟨z_90, rfl, hz_90a, fyk_91, hRk_91⟩ := hq
        show W p l e R s m args below meth c H locs _ _ _ (F0 m 68 ls [.int (iN (z_90))])
        exact x_iret hC hw dX5_tail_68 (by omega) (by omega) ⟨z_90, rfl, by omega, ⟨_, _, _, _, _, _, _, _, _, _, _, _, _, _, _, _, _, _, _, _, hRk_91⟩⟩
      · refine x_const hC dX5_tail_32 ?_
        refine lv_goto (tgt := 68) hC.1 hC.2.1 dX5_tail_33 (by decide) ?_
        exact x_iret hC hw dX5_tail_68 (by omega) (by omega) ⟨0, rfl, by omega, ⟨_, _, _, _, _, _, _, _, _, _, _, _, _, _, _, _, _, _, _, _, hRk_52⟩⟩
set_option maxHeartbeats 4000000 in
set_option maxRecDepth 100000 in
theorem c_X5_sub (l : Launch) (G : xG) {M : HM} {a va oa wa ya : Nat} {wk : Option Nat} {th rfd br re la ha kp kv : Int32} {qv qw : Nat → Nat} {fa fb : Nat → Option Nat} {fvv fw : Nat → Nat → Int32} {fo : Nat → Int32} {fy : Nat → Option Nat} {S : Nat → Bool} (hR : MGx G M a va oa wa ya wk th rfd br re la ha kp kv qv qw fa fb fvv fw fo fy S) {p0 : Int} (hp0 : -2147483648 ≤ p0 ∧ p0 ≤ 2147483647) {p1 : Int} (hp1 : -2147483648 ≤ p1 ∧ p1 ≤ 2147483647) {p2 : Int} (hp2 : -2147483648 ≤ p2 ∧ p2 ≤ 2147483647) {p3 : Int} (hp3 : -2147483648 ≤ p3 ∧ p3 ≤ 2147483647) {p4 : Int} (hp4 : -2147483648 ≤ p4 ∧ p4 ≤ 2147483647) (hb2 : p2 = 0 ∨ p2 = 1) (hb4 : p4 = 0 ∨ p4 = 1) : xMet l G yX5_sub wsX5_sub 3 66 1 5 [.ref a, .int (iN (p0)), .int (iN (p1)), .int (iN (p2)), .int (iN (p3)), .int (iN (p4))] M (fun r M1 => ∃ z : Int, r = some (.int (iN z)) ∧ (-2147483648 ≤ z ∧ z ≤ 2147483647) ∧ MGm G M1 a rfd S) := by
  refine x_intro (cc := cX5_sub) (maxL := 7) (ret := (some .int)) (by decide +kernel) rfl (Nat.le_of_ble_eq_true rfl) ?_
  intro p e R s m args below meth c ls hRf hRc hRs hRl hC hw hl
  have hl : lv_has ls 7 [(0, .ref a), (1, .int (iN (p0))), (2, .int (iN (p1))), (3, .int (iN (p2))), (4, .int (iN (p3))), (5, .int (iN (p4)))] := hl
  refine lv_aload_n hC.1 hC.2.1 dX5_sub_0 rfl (lv_at hl 0 rfl) ?_
  refine lv_iload_n hC.1 hC.2.1 dX5_sub_1 rfl (lv_at hl 1 rfl) ?_
  refine lv_iload_n hC.1 hC.2.1 dX5_sub_2 rfl (lv_at hl 2 rfl) ?_
  refine x_callV hC hw (lv_size hl) (c_X5_isBad l G hR (p0 := p0) (by omega) (p1 := p1) (by omega)) gX5_sub_X5_isBad rfl dv_X5_isBad hR.1.1 rfl rfl (Nat.le_of_ble_eq_true rfl) (by rw [hRf]; decide) (by rw [hRl]; decide) (by omega) (by omega) dX5_sub_3 (fun r9 M_1 H locs hq hw => ?_)
  obtain ⟨z_2, rfl, hz_2a, hz_2b, thk_3, hRk_3⟩ := hq
  show W p l e R s m args below meth c H locs _ _ _ (F0 m 6 ls [.int (iN (z_2))])
  refine x_if_ne (tgt := 45) hC ⟨by omega, by omega⟩ dX5_sub_6 (by decide) (fun c_4 => ?_) (fun c_4 => ?_)
  · refine x_const hC dX5_sub_45 ?_
    exact x_iret hC hw dX5_sub_46 (by omega) (by omega) ⟨0, rfl, by omega, ⟨_, _, _, _, _, _, _, _, _, _, _, _, _, _, _, _, _, _, _, _, hRk_3⟩⟩
  · refine lv_aload_n hC.1 hC.2.1 dX5_sub_9 rfl (lv_at hl 0 rfl) ?_
    refine lv_iload hC.1 hC.2.1 dX5_sub_10 (lv_at hl 4 rfl) ?_
    refine x_callS hC hw (lv_size hl) (c_X5_isNoKey l G (M := M_1) (p0 := p3) (by omega)) gX5_sub_X5_isNoKey rfl dv_X5_isNoKey_s rfl (Nat.le_of_ble_eq_true rfl) (by rw [hRf]; decide) (by rw [hRl]; decide) (by omega) (by omega) dX5_sub_12 (fun r9 M_5 H locs hq hw => ?_)
    obtain ⟨z_6, rfl, hM9, hz_6a, hz_6b⟩ := hq
    rw [hM9] at hw
    show W p l e R s m args below meth c H locs _ _ _ (F0 m 15 ls [.int (iN (z_6)), .ref a])
    refine x_const hC dX5_sub_15 ?_
    refine x_callV hC hw (lv_size hl) (c_X5_refuse l G hRk_3 (p0 := z_6) (by omega) (p1 := 2) (by omega) (by omega)) gX5_sub_X5_refuse rfl dv_X5_refuse hRk_3.1.1 rfl rfl (Nat.le_of_ble_eq_true rfl) (by rw [hRf]; decide) (by rw [hRl]; decide) (by omega) (by omega) dX5_sub_16 (fun r9 M_7 H locs hq hw => ?_)
    obtain ⟨z_8, rfl, hz_8a, hz_8b, thk_9, hRk_9⟩ := hq
    show W p l e R s m args below meth c H locs _ _ _ (F0 m 19 ls [.int (iN (z_8))])
    refine x_if_ne (tgt := 45) hC ⟨by omega, by omega⟩ dX5_sub_19 (by decide) (fun c_10 => ?_) (fun c_10 => ?_)
    · refine x_const hC dX5_sub_45 ?_
      exact x_iret hC hw dX5_sub_46 (by omega) (by omega) ⟨0, rfl, by omega, ⟨_, _, _, _, _, _, _, _, _, _, _, _, _, _, _, _, _, _, _, _, hRk_9⟩⟩
    · refine lv_aload_n hC.1 hC.2.1 dX5_sub_22 rfl (lv_at hl 0 rfl) ?_
      refine lv_aload_n hC.1 hC.2.1 dX5_sub_23 rfl (lv_at hl 0 rfl) ?_
      refine x_callV hC hw (lv_size hl) (c_X5_free l G hRk_9) gX5_sub_X5_free rfl dv_X5_free hRk_9.1.1 rfl rfl (Nat.le_of_ble_eq_true rfl) (by rw [hRf]; decide) (by rw [hRl]; decide) (by omega) (by omega) dX5_sub_24 (fun r9 M_11 H locs hq hw => ?_)
      obtain ⟨z_12, rfl, hM9, hz_12a, hz_12N, hz_12Y⟩ := hq
      rw [hM9] at hw
      show W p l e R s m args below meth c H locs _ _ _ (F0 m 27 ls [.int (iN (z_12)), .ref a])
      refine x_sipush hC dX5_sub_27 (by decide +kernel) ?_
      refine x_icmp_ne (tgt := 37) hC ⟨by omega, by omega⟩ ⟨by omega, by omega⟩ dX5_sub_30 (by decide) (fun c_13 => ?_) (fun c_13 => ?_)
      · refine x_const hC dX5_sub_37 ?_
        refine x_const hC dX5_sub_38 ?_
        refine x_callV hC hw (lv_size hl) (c_X5_refuse l G hRk_9 (p0 := 0) (by omega) (p1 := 3) (by omega) (by omega)) gX5_sub_X5_refuse rfl dv_X5_refuse hRk_9.1.1 rfl rfl (Nat.le_of_ble_eq_true rfl) (by rw [hRf]; decide) (by rw [hRl]; decide) (by omega) (by omega) dX5_sub_39 (fun r9 M_14 H locs hq hw => ?_)
        obtain ⟨z_15, rfl, hz_15a, hz_15b, thk_16, hRk_16⟩ := hq
        show W p l e R s m args below meth c H locs _ _ _ (F0 m 42 ls [.int (iN (z_15))])
        refine x_if_eq (tgt := 47) hC ⟨by omega, by omega⟩ dX5_sub_42 (by decide) (fun c_17 => ?_) (fun c_17 => ?_)
        · refine x_const hC dX5_sub_47 ?_
          refine x_newI hC hw (by decide +kernel) 5 rfl (by decide) (by omega) (by omega) dX5_sub_48 (fun q_18 H hq_19 hw => ?_)
          obtain ⟨M_20, hM_21⟩ : ∃ z, z = va_up M_14 q_18 (some (.inl (G.2 1, 5, .inl (fun _ => 0)))) := ⟨_, rfl⟩
          rw [← hM_21] at hw
          have hx_22 : xExt M_14 M_20 := by rw [hM_21]; exact xExt.new hq_19
          have hA_23 : M_20 q_18 = some (.inl (G.2 1, 5, .inl (fun _ => 0))) := by rw [hM_21, va_up_self]
          have h_24 := hRk_16.ext hx_22
          refine lv_dup hC.1 hC.2.1 dX5_sub_50 rfl ?_
          refine x_const hC dX5_sub_51 ?_
          refine lv_iload_n hC.1 hC.2.1 dX5_sub_52 rfl (lv_at hl 1 rfl) ?_
          refine x_iast hC hw hA_23 (by omega) (by omega) (by omega) dX5_sub_53 (fun H locs hw => ?_)
          obtain ⟨M_25, hM_26⟩ : ∃ z, z = va_up M_20 q_18 (some (.inl (G.2 1, 5, .inl (upd (fun _ => 0) (0 : Int).toNat (iN (p0)))))) := ⟨_, rfl⟩
          rw [← hM_26] at hw
          have hA_27 : M_25 q_18 = some (.inl (G.2 1, 5, .inl (upd (fun _ => 0) (0 : Int).toNat (iN (p0))))) := by rw [hM_26, va_up_self]
          have hx_28 := xExt.upd hq_19 hx_22 hM_26
          have h_29 := hRk_16.ext hx_28
          refine lv_dup hC.1 hC.2.1 dX5_sub_54 rfl ?_
          refine x_const hC dX5_sub_55 ?_
          refine lv_iload_n hC.1 hC.2.1 dX5_sub_56 rfl (lv_at hl 2 rfl) ?_
          refine x_iast hC hw hA_27 (by omega) (by omega) (by omega) dX5_sub_57 (fun H locs hw => ?_)
          obtain ⟨M_30, hM_31⟩ : ∃ z, z = va_up M_25 q_18 (some (.inl (G.2 1, 5, .inl (upd (upd (fun _ => 0) (0 : Int).toNat (iN (p0))) (1 : Int).toNat (iN (p1)))))) := ⟨_, rfl⟩
          rw [← hM_31] at hw
          have hA_32 : M_30 q_18 = some (.inl (G.2 1, 5, .inl (upd (upd (fun _ => 0) (0 : Int).toNat (iN (p0))) (1 : Int).toNat (iN (p1))))) := by rw [hM_31, va_up_self]
          have hx_33 := xExt.upd hq_19 hx_28 hM_31
          have h_34 := hRk_16.ext hx_33
          refine lv_dup hC.1 hC.2.1 dX5_sub_58 rfl ?_
          refine x_const hC dX5_sub_59 ?_
          refine lv_iload_n hC.1 hC.2.1 dX5_sub_60 rfl (lv_at hl 3 rfl) ?_
          refine x_callS hC hw (lv_size hl) (c_X5_one l G (M := M_30) (p0 := p2) (by omega)) gX5_sub_X5_one rfl dv_X5_one_s rfl (Nat.le_of_ble_eq_true rfl) (by rw [hRf]; decide) (by rw [hRl]; decide) (by omega) (by omega) dX5_sub_61 (fun r9 M_35 H locs hq hw => ?_)
          obtain ⟨z_36, rfl, hM9, hz_36a, hz_36b⟩ := hq
          rw [hM9] at hw
          show W p l e R s m args below meth c H locs _ _ _ (F0 m 64 ls [.int (iN (z_36)), .int (iN (2)), .ref q_18, .ref q_18])
          refine x_iast hC hw hA_32 (by omega) (by omega) (by omega) dX5_sub_64 (fun H locs hw => ?_)
          obtain ⟨M_37, hM_38⟩ : ∃ z, z = va_up M_30 q_18 (some (.inl (G.2 1, 5, .inl (upd (upd (upd (fun _ => 0) (0 : Int).toNat (iN (p0))) (1 : Int).toNat (iN (p1))) (2 : Int).toNat (iN (z_36)))))) := ⟨_, rfl⟩
          rw [← hM_38] at hw
          have hA_39 : M_37 q_18 = some (.inl (G.2 1, 5, .inl (upd (upd (upd (fun _ => 0) (0 : Int).toNat (iN (p0))) (1 : Int).toNat (iN (p1))) (2 : Int).toNat (iN (z_36))))) := by rw [hM_38, va_up_self]
          have hx_40 := xExt.upd hq_19 hx_33 hM_38
          have h_41 := hRk_16.ext hx_40
          refine lv_dup hC.1 hC.2.1 dX5_sub_65 rfl ?_
          refine x_const hC dX5_sub_66 ?_
          refine lv_iload hC.1 hC.2.1 dX5_sub_67 (lv_at hl 4 rfl) ?_
          refine x_iast hC hw hA_39 (by omega) (by omega) (by omega) dX5_sub_69 (fun H locs hw => ?_)
          obtain ⟨M_42, hM_43⟩ : ∃ z, z = va_up M_37 q_18 (some (.inl (G.2 1, 5, .inl (upd (upd (upd (upd (fun _ => 0) (0 : Int).toNat (iN (p0))) (1 : Int).toNat (iN (p1))) (2 : Int).toNat (iN (z_36))) (3 : Int).toNat (iN (p3)))))) := ⟨_, rfl⟩
          rw [← hM_43] at hw
          have hA_44 : M_42 q_18 = some (.inl (G.2 1, 5, .inl (upd (upd (upd (upd (fun _ => 0) (0 : Int).toNat (iN (p0))) (1 : Int).toNat (iN (p1))) (2 : Int).toNat (iN (z_36))) (3 : Int).toNat (iN (p3))))) := by rw [hM_43, va_up_self]
          have hx_45 := xExt.upd hq_19 hx_40 hM_43
          have h_46 := hRk_16.ext hx_45
          refine lv_dup hC.1 hC.2.1 dX5_sub_70 rfl ?_
          refine x_const hC dX5_sub_71 ?_
          refine lv_iload hC.1 hC.2.1 dX5_sub_72 (lv_at hl 5 rfl) ?_
          refine x_callS hC hw (lv_size hl) (c_X5_one l G (M := M_42) (p0 := p4) (by omega)) gX5_sub_X5_one rfl dv_X5_one_s rfl (Nat.le_of_ble_eq_true rfl) (by rw [hRf]; decide) (by rw [hRl]; decide) (by omega) (by omega) dX5_sub_74 (fun r9 M_47 H locs hq hw => ?_)
          obtain ⟨z_48, rfl, hM9, hz_48a, hz_48b⟩ := hq
          rw [hM9] at hw
          show W p l e R s m args below meth c H locs _ _ _ (F0 m 77 ls [.int (iN (z_48)), .int (iN (4)), .ref q_18, .ref q_18])
          refine x_iast hC hw hA_44 (by omega) (by omega) (by omega) dX5_sub_77 (fun H locs hw => ?_)
          obtain ⟨M_49, hM_50⟩ : ∃ z, z = va_up M_42 q_18 (some (.inl (G.2 1, 5, .inl (upd (upd (upd (upd (upd (fun _ => 0) (0 : Int).toNat (iN (p0))) (1 : Int).toNat (iN (p1))) (2 : Int).toNat (iN (z_36))) (3 : Int).toNat (iN (p3))) (4 : Int).toNat (iN (z_48)))))) := ⟨_, rfl⟩
          rw [← hM_50] at hw
          have hA_51 : M_49 q_18 = some (.inl (G.2 1, 5, .inl (upd (upd (upd (upd (upd (fun _ => 0) (0 : Int).toNat (iN (p0))) (1 : Int).toNat (iN (p1))) (2 : Int).toNat (iN (z_36))) (3 : Int).toNat (iN (p3))) (4 : Int).toNat (iN (z_48))))) := by rw [hM_50, va_up_self]
          have hx_52 := xExt.upd hq_19 hx_45 hM_50
          have h_53 := hRk_16.ext hx_52
          refine lv_astore (lv' := [(6, .ref q_18), (0, .ref a), (1, .int (iN (p0))), (2, .int (iN (p1))), (3, .int (iN (p2))), (4, .int (iN (p3))), (5, .int (iN (p4)))]) hC.1 hC.2.1 dX5_sub_78 hl (by decide) rfl (fun ls hl => ?_)
          refine lv_aload_n hC.1 hC.2.1 dX5_sub_80 rfl (lv_at hl 1 rfl) ?_
          refine lv_aload hC.1 hC.2.1 dX5_sub_81 (lv_at hl 0 rfl) ?_
          refine lv_iload_n hC.1 hC.2.1 dX5_sub_83 rfl (lv_at hl 3 rfl) ?_
          have hI_54 : Its G M_49 q_18 (upd (upd (upd (upd (upd (fun _ => 0) (0 : Int).toNat (iN (p0))) (1 : Int).toNat (iN (p1))) (2 : Int).toNat (iN (z_36))) (3 : Int).toNat (iN (p3))) (4 : Int).toNat (iN (z_48))) := ⟨hA_51, (show 0 ≤ (iN (p0)).toInt ∧ (iN (p0)).toInt ≤ 2 by rw [iN_toInt ⟨by omega, by omega⟩]; omega), (show (iN (p1)).toInt = -10000 ∨ (0 ≤ (iN (p1)).toInt ∧ (iN (p1)).toInt ≤ 99) by rw [iN_toInt ⟨by omega, by omega⟩]; omega), (show 0 ≤ (iN (z_36)).toInt ∧ (iN (z_36)).toInt ≤ 1 by rw [iN_toInt ⟨by omega, by omega⟩]; omega), (show (iN (p3)).toInt = -10000 ∨ (0 ≤ (iN (p3)).toInt ∧ (iN (p3)).toInt ≤ 99) by rw [iN_toInt ⟨by omega, by omega⟩]; omega), (show 0 ≤ (iN (z_48)).toInt ∧ (iN (z_48)).toInt ≤ 1 by rw [iN_toInt ⟨by omega, by omega⟩]; omega)⟩
          refine x_callV hC hw (lv_size hl) (c_X5_weight l G h_53 hI_54 (p0 := p1) (by omega) (by omega)) gX5_sub_X5_weight rfl dv_X5_weight h_53.1.1 rfl rfl (Nat.le_of_ble_eq_true rfl) (by rw [hRf]; decide) (by rw [hRl]; decide) (by omega) (by omega) dX5_sub_84 (fun r9 M_55 H locs hq hw => ?_)
          obtain ⟨z_56, rfl, hM9, hz_56a, hz_56b⟩ := hq
          rw [hM9] at hw
          show W p l e R s m args below meth c H locs _ _ _ (F0 m 87 ls [.int (iN (z_56))])
          refine lv_aload_n hC.1 hC.2.1 dX5_sub_87 rfl (lv_at hl 1 rfl) ?_
          refine lv_aload hC.1 hC.2.1 dX5_sub_88 (lv_at hl 0 rfl) ?_
          refine lv_iload hC.1 hC.2.1 dX5_sub_90 (lv_at hl 5 rfl) ?_
          refine x_callV hC hw (lv_size hl) (c_X5_weight l G h_53 hI_54 (p0 := p3) (by omega) (by omega)) gX5_sub_X5_weight rfl dv_X5_weight h_53.1.1 rfl rfl (Nat.le_of_ble_eq_true rfl) (by rw [hRf]; decide) (by rw [hRl]; decide) (by omega) (by omega) dX5_sub_92 (fun r9 M_57 H locs hq hw => ?_)
          obtain ⟨z_58, rfl, hM9, hz_58a, hz_58b⟩ := hq
          rw [hM9] at hw
          show W p l e R s m args below meth c H locs _ _ _ (F0 m 95 ls [.int (iN (z_58)), .int (iN (z_56))])
          refine x_icmp_le (tgt := 104) hC ⟨by omega, by omega⟩ ⟨by omega, by omega⟩ dX5_sub_95 (by decide) (fun c_59 => ?_) (fun c_59 => ?_)
          · refine lv_aload_n hC.1 hC.2.1 dX5_sub_104 rfl (lv_at hl 1 rfl) ?_
            refine lv_aload hC.1 hC.2.1 dX5_sub_105 (lv_at hl 0 rfl) ?_
            refine x_callV hC hw (lv_size hl) (c_X5_open l G h_53 hI_54 (j0 := (z_12).toNat) (by omega) (hz_12Y (by omega))) gX5_sub_X5_open rfl dv_X5_open h_53.1.1 rfl rfl (Nat.le_of_ble_eq_true rfl) (by rw [hRf]; decide) (by rw [hRl]; decide) (by omega) (by omega) dX5_sub_107 (fun r9 M_60 H locs hq hw => ?_)
            obtain ⟨z_61, rfl, hz_61a, fyk_62, hRk_62⟩ := hq
            show W p l e R s m args below meth c H locs _ _ _ (F0 m 110 ls [.int (iN (z_61))])
            exact x_iret hC hw dX5_sub_110 (by omega) (by omega) ⟨z_61, rfl, by omega, ⟨_, _, _, _, _, _, _, _, _, _, _, _, _, _, _, _, _, _, _, _, hRk_62⟩⟩
          · refine x_sipush hC dX5_sub_98 (by decide +kernel) ?_
            refine lv_goto (tgt := 110) hC.1 hC.2.1 dX5_sub_101 (by decide) ?_
            exact x_iret hC hw dX5_sub_110 (by omega) (by omega) ⟨(-20000), rfl, by omega, ⟨_, _, _, _, _, _, _, _, _, _, _, _, _, _, _, _, _, _, _, _, h_53⟩⟩
        · refine x_const hC dX5_sub_45 ?_
          exact x_iret hC hw dX5_sub_46 (by omega) (by omega) ⟨0, rfl, by omega, ⟨_, _, _, _, _, _, _, _, _, _, _, _, _, _, _, _, _, _, _, _, hRk_16⟩⟩
      · refine x_const hC dX5_sub_33 ?_
        refine lv_goto (tgt := 38) hC.1 hC.2.1 dX5_sub_34 (by decide) ?_
        refine x_const hC dX5_sub_38 ?_
        refine x_callV hC hw (lv_size hl) (c_X5_refuse l G hRk_9 (p0 := 1) (by omega) (p1 := 3) (by omega) (by omega)) gX5_sub_X5_refuse rfl dv_X5_refuse hRk_9.1.1 rfl rfl (Nat.le_of_ble_eq_true rfl) (by rw [hRf]; decide) (by rw [hRl]; decide) (by omega) (by omega) dX5_sub_39 (fun r9 M_63 H locs hq hw => ?_)
        obtain ⟨z_64, rfl, hz_64a, hz_64b, thk_65, hRk_65⟩ := hq
        show W p l e R s m args below meth c H locs _ _ _ (F0 m 42 ls [.int (iN (z_64))])
        refine x_if_eq (tgt := 47) hC ⟨by omega, by omega⟩ dX5_sub_42 (by decide) (fun c_66 => ?_) (fun c_66 => ?_)
        · refine x_const hC dX5_sub_47 ?_
          refine x_newI hC hw (by decide +kernel) 5 rfl (by decide) (by omega) (by omega) dX5_sub_48 (fun q_67 H hq_68 hw => ?_)
          obtain ⟨M_69, hM_70⟩ : ∃ z, z = va_up M_63 q_67 (some (.inl (G.2 1, 5, .inl (fun _ => 0)))) := ⟨_, rfl⟩
          rw [← hM_70] at hw
          have hx_71 : xExt M_63 M_69 := by rw [hM_70]; exact xExt.new hq_68
          have hA_72 : M_69 q_67 = some (.inl (G.2 1, 5, .inl (fun _ => 0))) := by rw [hM_70, va_up_self]
          have h_73 := hRk_65.ext hx_71
          refine lv_dup hC.1 hC.2.1 dX5_sub_50 rfl ?_
          refine x_const hC dX5_sub_51 ?_
          refine lv_iload_n hC.1 hC.2.1 dX5_sub_52 rfl (lv_at hl 1 rfl) ?_
          refine x_iast hC hw hA_72 (by omega) (by omega) (by omega) dX5_sub_53 (fun H locs hw => ?_)
          obtain ⟨M_74, hM_75⟩ : ∃ z, z = va_up M_69 q_67 (some (.inl (G.2 1, 5, .inl (upd (fun _ => 0) (0 : Int).toNat (iN (p0)))))) := ⟨_, rfl⟩
          rw [← hM_75] at hw
          have hA_76 : M_74 q_67 = some (.inl (G.2 1, 5, .inl (upd (fun _ => 0) (0 : Int).toNat (iN (p0))))) := by rw [hM_75, va_up_self]
          have hx_77 := xExt.upd hq_68 hx_71 hM_75
          have h_78 := hRk_65.ext hx_77
          refine lv_dup hC.1 hC.2.1 dX5_sub_54 rfl ?_
          refine x_const hC dX5_sub_55 ?_
          refine lv_iload_n hC.1 hC.2.1 dX5_sub_56 rfl (lv_at hl 2 rfl) ?_
          refine x_iast hC hw hA_76 (by omega) (by omega) (by omega) dX5_sub_57 (fun H locs hw => ?_)
          obtain ⟨M_79, hM_80⟩ : ∃ z, z = va_up M_74 q_67 (some (.inl (G.2 1, 5, .inl (upd (upd (fun _ => 0) (0 : Int).toNat (iN (p0))) (1 : Int).toNat (iN (p1)))))) := ⟨_, rfl⟩
          rw [← hM_80] at hw
          have hA_81 : M_79 q_67 = some (.inl (G.2 1, 5, .inl (upd (upd (fun _ => 0) (0 : Int).toNat (iN (p0))) (1 : Int).toNat (iN (p1))))) := by rw [hM_80, va_up_self]
          have hx_82 := xExt.upd hq_68 hx_77 hM_80
          have h_83 := hRk_65.ext hx_82
          refine lv_dup hC.1 hC.2.1 dX5_sub_58 rfl ?_
          refine x_const hC dX5_sub_59 ?_
          refine lv_iload_n hC.1 hC.2.1 dX5_sub_60 rfl (lv_at hl 3 rfl) ?_
          refine x_callS hC hw (lv_size hl) (c_X5_one l G (M := M_79) (p0 := p2) (by omega)) gX5_sub_X5_one rfl dv_X5_one_s rfl (Nat.le_of_ble_eq_true rfl) (by rw [hRf]; decide) (by rw [hRl]; decide) (by omega) (by omega) dX5_sub_61 (fun r9 M_84 H locs hq hw => ?_)
          obtain ⟨z_85, rfl, hM9, hz_85a, hz_85b⟩ := hq
          rw [hM9] at hw
          show W p l e R s m args below meth c H locs _ _ _ (F0 m 64 ls [.int (iN (z_85)), .int (iN (2)), .ref q_67, .ref q_67])
          refine x_iast hC hw hA_81 (by omega) (by omega) (by omega) dX5_sub_64 (fun H locs hw => ?_)
          obtain ⟨M_86, hM_87⟩ : ∃ z, z = va_up M_79 q_67 (some (.inl (G.2 1, 5, .inl (upd (upd (upd (fun _ => 0) (0 : Int).toNat (iN (p0))) (1 : Int).toNat (iN (p1))) (2 : Int).toNat (iN (z_85)))))) := ⟨_, rfl⟩
          rw [← hM_87] at hw
          have hA_88 : M_86 q_67 = some (.inl (G.2 1, 5, .inl (upd (upd (upd (fun _ => 0) (0 : Int).toNat (iN (p0))) (1 : Int).toNat (iN (p1))) (2 : Int).toNat (iN (z_85))))) := by rw [hM_87, va_up_self]
          have hx_89 := xExt.upd hq_68 hx_82 hM_87
          have h_90 := hRk_65.ext hx_89
          refine lv_dup hC.1 hC.2.1 dX5_sub_65 rfl ?_
          refine x_const hC dX5_sub_66 ?_
          refine lv_iload hC.1 hC.2.1 dX5_sub_67 (lv_at hl 4 rfl) ?_
          refine x_iast hC hw hA_88 (by omega) (by omega) (by omega) dX5_sub_69 (fun H locs hw => ?_)
          obtain ⟨M_91, hM_92⟩ : ∃ z, z = va_up M_86 q_67 (some (.inl (G.2 1, 5, .inl (upd (upd (upd (upd (fun _ => 0) (0 : Int).toNat (iN (p0))) (1 : Int).toNat (iN (p1))) (2 : Int).toNat (iN (z_85))) (3 : Int).toNat (iN (p3)))))) := ⟨_, rfl⟩
          rw [← hM_92] at hw
          have hA_93 : M_91 q_67 = some (.inl (G.2 1, 5, .inl (upd (upd (upd (upd (fun _ => 0) (0 : Int).toNat (iN (p0))) (1 : Int).toNat (iN (p1))) (2 : Int).toNat (iN (z_85))) (3 : Int).toNat (iN (p3))))) := by rw [hM_92, va_up_self]
          have hx_94 := xExt.upd hq_68 hx_89 hM_92
          have h_95 := hRk_65.ext hx_94
          refine lv_dup hC.1 hC.2.1 dX5_sub_70 rfl ?_
          refine x_const hC dX5_sub_71 ?_
          refine lv_iload hC.1 hC.2.1 dX5_sub_72 (lv_at hl 5 rfl) ?_
          refine x_callS hC hw (lv_size hl) (c_X5_one l G (M := M_91) (p0 := p4) (by omega)) gX5_sub_X5_one rfl dv_X5_one_s rfl (Nat.le_of_ble_eq_true rfl) (by rw [hRf]; decide) (by rw [hRl]; decide) (by omega) (by omega) dX5_sub_74 (fun r9 M_96 H locs hq hw => ?_)
          obtain ⟨z_97, rfl, hM9, hz_97a, hz_97b⟩ := hq
          rw [hM9] at hw
          show W p l e R s m args below meth c H locs _ _ _ (F0 m 77 ls [.int (iN (z_97)), .int (iN (4)), .ref q_67, .ref q_67])
          refine x_iast hC hw hA_93 (by omega) (by omega) (by omega) dX5_sub_77 (fun H locs hw => ?_)
          obtain ⟨M_98, hM_99⟩ : ∃ z, z = va_up M_91 q_67 (some (.inl (G.2 1, 5, .inl (upd (upd (upd (upd (upd (fun _ => 0) (0 : Int).toNat (iN (p0))) (1 : Int).toNat (iN (p1))) (2 : Int).toNat (iN (z_85))) (3 : Int).toNat (iN (p3))) (4 : Int).toNat (iN (z_97)))))) := ⟨_, rfl⟩
          rw [← hM_99] at hw
          have hA_100 : M_98 q_67 = some (.inl (G.2 1, 5, .inl (upd (upd (upd (upd (upd (fun _ => 0) (0 : Int).toNat (iN (p0))) (1 : Int).toNat (iN (p1))) (2 : Int).toNat (iN (z_85))) (3 : Int).toNat (iN (p3))) (4 : Int).toNat (iN (z_97))))) := by rw [hM_99, va_up_self]
          have hx_101 := xExt.upd hq_68 hx_94 hM_99
          have h_102 := hRk_65.ext hx_101
          refine lv_astore (lv' := [(6, .ref q_67), (0, .ref a), (1, .int (iN (p0))), (2, .int (iN (p1))), (3, .int (iN (p2))), (4, .int (iN (p3))), (5, .int (iN (p4)))]) hC.1 hC.2.1 dX5_sub_78 hl (by decide) rfl (fun ls hl => ?_)
          refine lv_aload_n hC.1 hC.2.1 dX5_sub_80 rfl (lv_at hl 1 rfl) ?_
          refine lv_aload hC.1 hC.2.1 dX5_sub_81 (lv_at hl 0 rfl) ?_
          refine lv_iload_n hC.1 hC.2.1 dX5_sub_83 rfl (lv_at hl 3 rfl) ?_
          have hI_103 : Its G M_98 q_67 (upd (upd (upd (upd (upd (fun _ => 0) (0 : Int).toNat (iN (p0))) (1 : Int).toNat (iN (p1))) (2 : Int).toNat (iN (z_85))) (3 : Int).toNat (iN (p3))) (4 : Int).toNat (iN (z_97))) := ⟨hA_100, (show 0 ≤ (iN (p0)).toInt ∧ (iN (p0)).toInt ≤ 2 by rw [iN_toInt ⟨by omega, by omega⟩]; omega), (show (iN (p1)).toInt = -10000 ∨ (0 ≤ (iN (p1)).toInt ∧ (iN (p1)).toInt ≤ 99) by rw [iN_toInt ⟨by omega, by omega⟩]; omega), (show 0 ≤ (iN (z_85)).toInt ∧ (iN (z_85)).toInt ≤ 1 by rw [iN_toInt ⟨by omega, by omega⟩]; omega), (show (iN (p3)).toInt = -10000 ∨ (0 ≤ (iN (p3)).toInt ∧ (iN (p3)).toInt ≤ 99) by rw [iN_toInt ⟨by omega, by omega⟩]; omega), (show 0 ≤ (iN (z_97)).toInt ∧ (iN (z_97)).toInt ≤ 1 by rw [iN_toInt ⟨by omega, by omega⟩]; omega)⟩
          refine x_callV hC hw (lv_size hl) (c_X5_weight l G h_102 hI_103 (p0 := p1) (by omega) (by omega)) gX5_sub_X5_weight rfl dv_X5_weight h_102.1.1 rfl rfl (Nat.le_of_ble_eq_true rfl) (by rw [hRf]; decide) (by rw [hRl]; decide) (by omega) (by omega) dX5_sub_84 (fun r9 M_104 H locs hq hw => ?_)
          obtain ⟨z_105, rfl, hM9, hz_105a, hz_105b⟩ := hq
          rw [hM9] at hw
          show W p l e R s m args below meth c H locs _ _ _ (F0 m 87 ls [.int (iN (z_105))])
          refine lv_aload_n hC.1 hC.2.1 dX5_sub_87 rfl (lv_at hl 1 rfl) ?_
          refine lv_aload hC.1 hC.2.1 dX5_sub_88 (lv_at hl 0 rfl) ?_
          refine lv_iload hC.1 hC.2.1 dX5_sub_90 (lv_at hl 5 rfl) ?_
          refine x_callV hC hw (lv_size hl) (c_X5_weight l G h_102 hI_103 (p0 := p3) (by omega) (by omega)) gX5_sub_X5_weight rfl dv_X5_weight h_102.1.1 rfl rfl (Nat.le_of_ble_eq_true rfl) (by rw [hRf]; decide) (by rw [hRl]; decide) (by omega) (by omega) dX5_sub_92 (fun r9 M_106 H locs hq hw => ?_)
          obtain ⟨z_107, rfl, hM9, hz_107a, hz_107b⟩ := hq
          rw [hM9] at hw
          show W p l e R s m args below meth c H locs _ _ _ (F0 m 95 ls [.int (iN (z_107)), .int (iN (z_105))])
          refine x_icmp_le (tgt := 104) hC ⟨by omega, by omega⟩ ⟨by omega, by omega⟩ dX5_sub_95 (by decide) (fun c_108 => ?_) (fun c_108 => ?_)
          · refine lv_aload_n hC.1 hC.2.1 dX5_sub_104 rfl (lv_at hl 1 rfl) ?_
            refine lv_aload hC.1 hC.2.1 dX5_sub_105 (lv_at hl 0 rfl) ?_
            refine x_callV hC hw (lv_size hl) (c_X5_open l G h_102 hI_103 (j0 := (z_12).toNat) (by omega) (hz_12Y (by omega))) gX5_sub_X5_open rfl dv_X5_open h_102.1.1 rfl rfl (Nat.le_of_ble_eq_true rfl) (by rw [hRf]; decide) (by rw [hRl]; decide) (by omega) (by omega) dX5_sub_107 (fun r9 M_109 H locs hq hw => ?_)
            obtain ⟨z_110, rfl, hz_110a, fyk_111, hRk_111⟩ := hq
            show W p l e R s m args below meth c H locs _ _ _ (F0 m 110 ls [.int (iN (z_110))])
            exact x_iret hC hw dX5_sub_110 (by omega) (by omega) ⟨z_110, rfl, by omega, ⟨_, _, _, _, _, _, _, _, _, _, _, _, _, _, _, _, _, _, _, _, hRk_111⟩⟩
          · refine x_sipush hC dX5_sub_98 (by decide +kernel) ?_
            refine lv_goto (tgt := 110) hC.1 hC.2.1 dX5_sub_101 (by decide) ?_
            exact x_iret hC hw dX5_sub_110 (by omega) (by omega) ⟨(-20000), rfl, by omega, ⟨_, _, _, _, _, _, _, _, _, _, _, _, _, _, _, _, _, _, _, _, h_102⟩⟩
        · refine x_const hC dX5_sub_45 ?_
          exact x_iret hC hw dX5_sub_46 (by omega) (by omega) ⟨0, rfl, by omega, ⟨_, _, _, _, _, _, _, _, _, _, _, _, _, _, _, _, _, _, _, _, hRk_65⟩⟩
set_option maxHeartbeats 4000000 in
set_option maxRecDepth 100000 in
theorem c_X5_part (l : Launch) (G : xG) {M : HM} {a va oa wa ya : Nat} {wk : Option Nat} {th rfd br re la ha kp kv : Int32} {qv qw : Nat → Nat} {fa fb : Nat → Option Nat} {fvv fw : Nat → Nat → Int32} {fo : Nat → Int32} {fy : Nat → Option Nat} {S : Nat → Bool} (hR : MGx G M a va oa wa ya wk th rfd br re la ha kp kv qv qw fa fb fvv fw fo fy S) {p0 : Int} (hp0 : -2147483648 ≤ p0 ∧ p0 ≤ 2147483647) {p1 : Int} (hp1 : -2147483648 ≤ p1 ∧ p1 ≤ 2147483647) {p2 : Int} (hp2 : -2147483648 ≤ p2 ∧ p2 ≤ 2147483647) {p3 : Int} (hp3 : -2147483648 ≤ p3 ∧ p3 ≤ 2147483647) {p4 : Int} (hp4 : -2147483648 ≤ p4 ∧ p4 ≤ 2147483647) (hb2 : p2 = 0 ∨ p2 = 1) (hb4 : p4 = 0 ∨ p4 = 1) : xMet l G yX5_part wsX5_part 2 45 1 5 [.ref a, .int (iN (p0)), .int (iN (p1)), .int (iN (p2)), .int (iN (p3)), .int (iN (p4))] M (fun r M1 => ∃ z : Int, r = some (.int (iN z)) ∧ (-2147483648 ≤ z ∧ z ≤ 2147483647) ∧ MGm G M1 a rfd S) := by
  refine x_intro (cc := cX5_part) (maxL := 7) (ret := (some .int)) (by decide +kernel) rfl (Nat.le_of_ble_eq_true rfl) ?_
  intro p e R s m args below meth c ls hRf hRc hRs hRl hC hw hl
  have hinX5 : ∀ w ∈ wsX50, w ∈ wsX5_part := by decide +kernel
  have hl : lv_has ls 7 [(0, .ref a), (1, .int (iN (p0))), (2, .int (iN (p1))), (3, .int (iN (p2))), (4, .int (iN (p3))), (5, .int (iN (p4)))] := hl
  refine lv_aload_n hC.1 hC.2.1 dX5_part_0 rfl (lv_at hl 0 rfl) ?_
  refine lv_aload_n hC.1 hC.2.1 dX5_part_1 rfl (lv_at hl 0 rfl) ?_
  refine lv_iload_n hC.1 hC.2.1 dX5_part_2 rfl (lv_at hl 1 rfl) ?_
  refine x_callV hC hw (lv_size hl) (c_X5_isNoView l G hR (p0 := p0) (by omega)) gX5_part_X5_isNoView rfl dv_X5_isNoView hR.1.1 rfl rfl (Nat.le_of_ble_eq_true rfl) (by rw [hRf]; decide) (by rw [hRl]; decide) (by omega) (by omega) dX5_part_3 (fun r9 M_1 H locs hq hw => ?_)
  obtain ⟨z_2, rfl, hM9, hz_2a, hz_2b, hz_2n⟩ := hq
  rw [hM9] at hw
  show W p l e R s m args below meth c H locs _ _ _ (F0 m 6 ls [.int (iN (z_2)), .ref a])
  refine x_const hC dX5_part_6 ?_
  refine x_callV hC hw (lv_size hl) (c_X5_start l G hR (p0 := z_2) (by omega) (p1 := 1) (by omega) (by omega)) gX5_part_X5_start rfl dv_X5_start hR.1.1 rfl rfl (Nat.le_of_ble_eq_true rfl) (by rw [hRf]; decide) (by rw [hRl]; decide) (by omega) (by omega) dX5_part_7 (fun r9 M_3 H locs hq hw => ?_)
  obtain ⟨z_4, rfl, hz_4a, hz_4b, thk_5, hRk_5⟩ := hq
  show W p l e R s m args below meth c H locs _ _ _ (F0 m 10 ls [.int (iN (z_4))])
  refine x_if_ne (tgt := 64) hC ⟨by omega, by omega⟩ dX5_part_10 (by decide) (fun c_6 => ?_) (fun c_6 => ?_)
  · refine x_const hC dX5_part_64 ?_
    exact x_iret hC hw dX5_part_65 (by omega) (by omega) ⟨0, rfl, by omega, ⟨_, _, _, _, _, _, _, _, _, _, _, _, _, _, _, _, _, _, _, _, hRk_5⟩⟩
  · refine lv_aload_n hC.1 hC.2.1 dX5_part_13 rfl (lv_at hl 0 rfl) ?_
    refine lv_iload_n hC.1 hC.2.1 dX5_part_14 rfl (lv_at hl 2 rfl) ?_
    refine x_callS hC hw (lv_size hl) (c_X5_isNoKey l G (M := M_3) (p0 := p1) (by omega)) gX5_part_X5_isNoKey rfl dv_X5_isNoKey_s rfl (Nat.le_of_ble_eq_true rfl) (by rw [hRf]; decide) (by rw [hRl]; decide) (by omega) (by omega) dX5_part_15 (fun r9 M_7 H locs hq hw => ?_)
    obtain ⟨z_8, rfl, hM9, hz_8a, hz_8b⟩ := hq
    rw [hM9] at hw
    show W p l e R s m args below meth c H locs _ _ _ (F0 m 18 ls [.int (iN (z_8)), .ref a])
    refine x_if_ne (tgt := 29) hC ⟨by omega, by omega⟩ dX5_part_18 (by decide) (fun c_9 => ?_) (fun c_9 => ?_)
    · refine x_const hC dX5_part_29 ?_
      refine lv_goto (tgt := 34) hC.1 hC.2.1 dX5_part_30 (by decide) ?_
      refine x_const hC dX5_part_34 ?_
      refine x_callV hC hw (lv_size hl) (c_X5_refuse l G hRk_5 (p0 := 1) (by omega) (p1 := 2) (by omega) (by omega)) gX5_part_X5_refuse rfl dv_X5_refuse hRk_5.1.1 rfl rfl (Nat.le_of_ble_eq_true rfl) (by rw [hRf]; decide) (by rw [hRl]; decide) (by omega) (by omega) dX5_part_35 (fun r9 M_10 H locs hq hw => ?_)
      obtain ⟨z_11, rfl, hz_11a, hz_11b, thk_12, hRk_12⟩ := hq
      show W p l e R s m args below meth c H locs _ _ _ (F0 m 38 ls [.int (iN (z_11))])
      refine x_if_ne (tgt := 64) hC ⟨by omega, by omega⟩ dX5_part_38 (by decide) (fun c_13 => ?_) (fun c_13 => ?_)
      · refine x_const hC dX5_part_64 ?_
        exact x_iret hC hw dX5_part_65 (by omega) (by omega) ⟨0, rfl, by omega, ⟨_, _, _, _, _, _, _, _, _, _, _, _, _, _, _, _, _, _, _, _, hRk_12⟩⟩
      · refine lv_aload_n hC.1 hC.2.1 dX5_part_41 rfl (lv_at hl 0 rfl) ?_
        refine lv_aload_n hC.1 hC.2.1 dX5_part_42 rfl (lv_at hl 0 rfl) ?_
        refine x_callV hC hw (lv_size hl) (c_X5_free l G hRk_12) gX5_part_X5_free rfl dv_X5_free hRk_12.1.1 rfl rfl (Nat.le_of_ble_eq_true rfl) (by rw [hRf]; decide) (by rw [hRl]; decide) (by omega) (by omega) dX5_part_43 (fun r9 M_14 H locs hq hw => ?_)
        obtain ⟨z_15, rfl, hM9, hz_15a, hz_15N, hz_15Y⟩ := hq
        rw [hM9] at hw
        show W p l e R s m args below meth c H locs _ _ _ (F0 m 46 ls [.int (iN (z_15)), .ref a])
        refine x_sipush hC dX5_part_46 (by decide +kernel) ?_
        refine x_icmp_ne (tgt := 56) hC ⟨by omega, by omega⟩ ⟨by omega, by omega⟩ dX5_part_49 (by decide) (fun c_16 => ?_) (fun c_16 => ?_)
        · refine x_const hC dX5_part_56 ?_
          refine x_const hC dX5_part_57 ?_
          refine x_callV hC hw (lv_size hl) (c_X5_refuse l G hRk_12 (p0 := 0) (by omega) (p1 := 3) (by omega) (by omega)) gX5_part_X5_refuse rfl dv_X5_refuse hRk_12.1.1 rfl rfl (Nat.le_of_ble_eq_true rfl) (by rw [hRf]; decide) (by rw [hRl]; decide) (by omega) (by omega) dX5_part_58 (fun r9 M_17 H locs hq hw => ?_)
          obtain ⟨z_18, rfl, hz_18a, hz_18b, thk_19, hRk_19⟩ := hq
          show W p l e R s m args below meth c H locs _ _ _ (F0 m 61 ls [.int (iN (z_18))])
          refine x_if_eq (tgt := 66) hC ⟨by omega, by omega⟩ dX5_part_61 (by decide) (fun c_20 => ?_) (fun c_20 => ?_)
          · refine lv_aload_n hC.1 hC.2.1 dX5_part_66 rfl (lv_at hl 0 rfl) ?_
            refine x_get hC hw hRk_19.1.1 rfl hinX5 5 (by decide) (by decide +kernel) rfl dX5_part_67 ?_
            refine lv_iload_n hC.1 hC.2.1 dX5_part_70 rfl (lv_at hl 1 rfl) ?_
            refine x_ald4 hC hw hRk_19.1.2.2.2.2.1 (by omega) (by omega) (by omega) dX5_part_71 ?_
            obtain ⟨y_21, hy_22⟩ := x_some (hz_2n (by omega))
            rw [hy_22]
            obtain ⟨fi_23, hIi_23⟩ := (hRk_19.vw (show (p0).toNat < 4 by omega) hy_22)
            obtain ⟨hvt_24, hat_24, hbt_24, hct_24, hdt_24, het_24⟩ := id hIi_23
            show W p l e R s m args below meth c _ _ _ _ _ (F0 m 72 ls [.ref y_21])
            refine lv_astore (lv' := [(6, .ref y_21), (0, .ref a), (1, .int (iN (p0))), (2, .int (iN (p1))), (3, .int (iN (p2))), (4, .int (iN (p3))), (5, .int (iN (p4)))]) hC.1 hC.2.1 dX5_part_72 hl (by decide) rfl (fun ls hl => ?_)
            refine lv_aload_n hC.1 hC.2.1 dX5_part_74 rfl (lv_at hl 1 rfl) ?_
            refine lv_aload hC.1 hC.2.1 dX5_part_75 (lv_at hl 0 rfl) ?_
            refine lv_iload_n hC.1 hC.2.1 dX5_part_77 rfl (lv_at hl 3 rfl) ?_
            refine x_callV hC hw (lv_size hl) (c_X5_isWithin l G hRk_19 hIi_23 (p0 := p1) (by omega) (by omega)) gX5_part_X5_isWithin rfl dv_X5_isWithin hRk_19.1.1 rfl rfl (Nat.le_of_ble_eq_true rfl) (by rw [hRf]; decide) (by rw [hRl]; decide) (by omega) (by omega) dX5_part_78 (fun r9 M_25 H locs hq hw => ?_)
            obtain ⟨z_26, rfl, hM9, hz_26a⟩ := hq
            rw [hM9] at hw
            show W p l e R s m args below meth c H locs _ _ _ (F0 m 81 ls [.int (iN (z_26))])
            refine x_if_eq (tgt := 113) hC ⟨by omega, by omega⟩ dX5_part_81 (by decide) (fun c_27 => ?_) (fun c_27 => ?_)
            · refine x_sipush hC dX5_part_113 (by decide +kernel) ?_
              exact x_iret hC hw dX5_part_116 (by omega) (by omega) ⟨(-20000), rfl, by omega, ⟨_, _, _, _, _, _, _, _, _, _, _, _, _, _, _, _, _, _, _, _, hRk_19⟩⟩
            · refine lv_aload_n hC.1 hC.2.1 dX5_part_84 rfl (lv_at hl 1 rfl) ?_
              refine lv_aload hC.1 hC.2.1 dX5_part_85 (lv_at hl 0 rfl) ?_
              refine lv_iload hC.1 hC.2.1 dX5_part_87 (lv_at hl 5 rfl) ?_
              refine x_callV hC hw (lv_size hl) (c_X5_isWithin l G hRk_19 hIi_23 (p0 := p3) (by omega) (by omega)) gX5_part_X5_isWithin rfl dv_X5_isWithin hRk_19.1.1 rfl rfl (Nat.le_of_ble_eq_true rfl) (by rw [hRf]; decide) (by rw [hRl]; decide) (by omega) (by omega) dX5_part_89 (fun r9 M_28 H locs hq hw => ?_)
              obtain ⟨z_29, rfl, hM9, hz_29a⟩ := hq
              rw [hM9] at hw
              show W p l e R s m args below meth c H locs _ _ _ (F0 m 92 ls [.int (iN (z_29))])
              refine x_if_eq (tgt := 113) hC ⟨by omega, by omega⟩ dX5_part_92 (by decide) (fun c_30 => ?_) (fun c_30 => ?_)
              · refine x_sipush hC dX5_part_113 (by decide +kernel) ?_
                exact x_iret hC hw dX5_part_116 (by omega) (by omega) ⟨(-20000), rfl, by omega, ⟨_, _, _, _, _, _, _, _, _, _, _, _, _, _, _, _, _, _, _, _, hRk_19⟩⟩
              · refine lv_aload_n hC.1 hC.2.1 dX5_part_95 rfl (lv_at hl 1 rfl) ?_
                refine lv_aload hC.1 hC.2.1 dX5_part_96 (lv_at hl 0 rfl) ?_
                refine lv_iload_n hC.1 hC.2.1 dX5_part_98 rfl (lv_at hl 3 rfl) ?_
                refine x_callV hC hw (lv_size hl) (c_X5_weight l G hRk_19 hIi_23 (p0 := p1) (by omega) (by omega)) gX5_part_X5_weight rfl dv_X5_weight hRk_19.1.1 rfl rfl (Nat.le_of_ble_eq_true rfl) (by rw [hRf]; decide) (by rw [hRl]; decide) (by omega) (by omega) dX5_part_99 (fun r9 M_31 H locs hq hw => ?_)
                obtain ⟨z_32, rfl, hM9, hz_32a, hz_32b⟩ := hq
                rw [hM9] at hw
                show W p l e R s m args below meth c H locs _ _ _ (F0 m 102 ls [.int (iN (z_32))])
                refine lv_aload_n hC.1 hC.2.1 dX5_part_102 rfl (lv_at hl 1 rfl) ?_
                refine lv_aload hC.1 hC.2.1 dX5_part_103 (lv_at hl 0 rfl) ?_
                refine lv_iload hC.1 hC.2.1 dX5_part_105 (lv_at hl 5 rfl) ?_
                refine x_callV hC hw (lv_size hl) (c_X5_weight l G hRk_19 hIi_23 (p0 := p3) (by omega) (by omega)) gX5_part_X5_weight rfl dv_X5_weight hRk_19.1.1 rfl rfl (Nat.le_of_ble_eq_true rfl) (by rw [hRf]; decide) (by rw [hRl]; decide) (by omega) (by omega) dX5_part_107 (fun r9 M_33 H locs hq hw => ?_)
                obtain ⟨z_34, rfl, hM9, hz_34a, hz_34b⟩ := hq
                rw [hM9] at hw
                show W p l e R s m args below meth c H locs _ _ _ (F0 m 110 ls [.int (iN (z_34)), .int (iN (z_32))])
                refine x_icmp_le (tgt := 117) hC ⟨by omega, by omega⟩ ⟨by omega, by omega⟩ dX5_part_110 (by decide) (fun c_35 => ?_) (fun c_35 => ?_)
                · refine lv_aload_n hC.1 hC.2.1 dX5_part_117 rfl (lv_at hl 1 rfl) ?_
                  refine x_const hC dX5_part_118 ?_
                  refine x_newI hC hw (by decide +kernel) 5 rfl (by decide) (by omega) (by omega) dX5_part_119 (fun q_36 H hq_37 hw => ?_)
                  obtain ⟨M_38, hM_39⟩ : ∃ z, z = va_up M_17 q_36 (some (.inl (G.2 1, 5, .inl (fun _ => 0)))) := ⟨_, rfl⟩
                  rw [← hM_39] at hw
                  have hx_40 : xExt M_17 M_38 := by rw [hM_39]; exact xExt.new hq_37
                  have hA_41 : M_38 q_36 = some (.inl (G.2 1, 5, .inl (fun _ => 0))) := by rw [hM_39, va_up_self]
                  have h_42 := hRk_19.ext hx_40
                  have h_43 := hIi_23.x5 (xExt.x5 hx_40)
                  refine lv_dup hC.1 hC.2.1 dX5_part_121 rfl ?_
                  refine x_const hC dX5_part_122 ?_
                  refine lv_aload hC.1 hC.2.1 dX5_part_123 (lv_at hl 0 rfl) ?_
                  refine x_const hC dX5_part_125 ?_
                  refine x_iald hC hw h_43.1 (by omega) (by omega) (by omega) dX5_part_126 ?_
                  obtain ⟨z_44, hz_44⟩ : ∃ z : Int, z = (fi_23 (0 : Int).toNat).toInt := ⟨_, rfl⟩
                  rw [← hz_44]
                  have hz_44' : z_44 = (fi_23 0).toInt := hz_44
                  have hrz_44 : -2147483648 ≤ z_44 ∧ z_44 ≤ 2147483647 := by rw [hz_44]; exact iN_rng _
                  refine x_iast hC hw hA_41 (by omega) (by omega) (by omega) dX5_part_127 (fun H locs hw => ?_)
                  obtain ⟨M_45, hM_46⟩ : ∃ z, z = va_up M_38 q_36 (some (.inl (G.2 1, 5, .inl (upd (fun _ => 0) (0 : Int).toNat (iN (z_44)))))) := ⟨_, rfl⟩
                  rw [← hM_46] at hw
                  have hA_47 : M_45 q_36 = some (.inl (G.2 1, 5, .inl (upd (fun _ => 0) (0 : Int).toNat (iN (z_44))))) := by rw [hM_46, va_up_self]
                  have hx_48 := xExt.upd hq_37 hx_40 hM_46
                  have h_49 := hRk_19.ext hx_48
                  have h_50 := hIi_23.x5 (xExt.x5 hx_48)
                  refine lv_dup hC.1 hC.2.1 dX5_part_128 rfl ?_
                  refine x_const hC dX5_part_129 ?_
                  refine lv_iload_n hC.1 hC.2.1 dX5_part_130 rfl (lv_at hl 3 rfl) ?_
                  refine x_iast hC hw hA_47 (by omega) (by omega) (by omega) dX5_part_131 (fun H locs hw => ?_)
                  obtain ⟨M_51, hM_52⟩ : ∃ z, z = va_up M_45 q_36 (some (.inl (G.2 1, 5, .inl (upd (upd (fun _ => 0) (0 : Int).toNat (iN (z_44))) (1 : Int).toNat (iN (p1)))))) := ⟨_, rfl⟩
                  rw [← hM_52] at hw
                  have hA_53 : M_51 q_36 = some (.inl (G.2 1, 5, .inl (upd (upd (fun _ => 0) (0 : Int).toNat (iN (z_44))) (1 : Int).toNat (iN (p1))))) := by rw [hM_52, va_up_self]
                  have hx_54 := xExt.upd hq_37 hx_48 hM_52
                  have h_55 := hRk_19.ext hx_54
                  have h_56 := hIi_23.x5 (xExt.x5 hx_54)
                  refine lv_dup hC.1 hC.2.1 dX5_part_132 rfl ?_
                  refine x_const hC dX5_part_133 ?_
                  refine lv_iload_n hC.1 hC.2.1 dX5_part_134 rfl (lv_at hl 4 rfl) ?_
                  refine x_callS hC hw (lv_size hl) (c_X5_one l G (M := M_51) (p0 := p2) (by omega)) gX5_part_X5_one rfl dv_X5_one_s rfl (Nat.le_of_ble_eq_true rfl) (by rw [hRf]; decide) (by rw [hRl]; decide) (by omega) (by omega) dX5_part_135 (fun r9 M_57 H locs hq hw => ?_)
                  obtain ⟨z_58, rfl, hM9, hz_58a, hz_58b⟩ := hq
                  rw [hM9] at hw
                  show W p l e R s m args below meth c H locs _ _ _ (F0 m 138 ls [.int (iN (z_58)), .int (iN (2)), .ref q_36, .ref q_36, .ref a])
                  refine x_iast hC hw hA_53 (by omega) (by omega) (by omega) dX5_part_138 (fun H locs hw => ?_)
                  obtain ⟨M_59, hM_60⟩ : ∃ z, z = va_up M_51 q_36 (some (.inl (G.2 1, 5, .inl (upd (upd (upd (fun _ => 0) (0 : Int).toNat (iN (z_44))) (1 : Int).toNat (iN (p1))) (2 : Int).toNat (iN (z_58)))))) := ⟨_, rfl⟩
                  rw [← hM_60] at hw
                  have hA_61 : M_59 q_36 = some (.inl (G.2 1, 5, .inl (upd (upd (upd (fun _ => 0) (0 : Int).toNat (iN (z_44))) (1 : Int).toNat (iN (p1))) (2 : Int).toNat (iN (z_58))))) := by rw [hM_60, va_up_self]
                  have hx_62 := xExt.upd hq_37 hx_54 hM_60
                  have h_63 := hRk_19.ext hx_62
                  have h_64 := hIi_23.x5 (xExt.x5 hx_62)
                  refine lv_dup hC.1 hC.2.1 dX5_part_139 rfl ?_
                  refine x_const hC dX5_part_140 ?_
                  refine lv_iload hC.1 hC.2.1 dX5_part_141 (lv_at hl 5 rfl) ?_
                  refine x_iast hC hw hA_61 (by omega) (by omega) (by omega) dX5_part_143 (fun H locs hw => ?_)
                  obtain ⟨M_65, hM_66⟩ : ∃ z, z = va_up M_59 q_36 (some (.inl (G.2 1, 5, .inl (upd (upd (upd (upd (fun _ => 0) (0 : Int).toNat (iN (z_44))) (1 : Int).toNat (iN (p1))) (2 : Int).toNat (iN (z_58))) (3 : Int).toNat (iN (p3)))))) := ⟨_, rfl⟩
                  rw [← hM_66] at hw
                  have hA_67 : M_65 q_36 = some (.inl (G.2 1, 5, .inl (upd (upd (upd (upd (fun _ => 0) (0 : Int).toNat (iN (z_44))) (1 : Int).toNat (iN (p1))) (2 : Int).toNat (iN (z_58))) (3 : Int).toNat (iN (p3))))) := by rw [hM_66, va_up_self]
                  have hx_68 := xExt.upd hq_37 hx_62 hM_66
                  have h_69 := hRk_19.ext hx_68
                  have h_70 := hIi_23.x5 (xExt.x5 hx_68)
                  refine lv_dup hC.1 hC.2.1 dX5_part_144 rfl ?_
                  refine x_const hC dX5_part_145 ?_
                  refine lv_iload hC.1 hC.2.1 dX5_part_146 (lv_at hl 6 rfl) ?_
                  refine x_callS hC hw (lv_size hl) (c_X5_one l G (M := M_65) (p0 := p4) (by omega)) gX5_part_X5_one rfl dv_X5_one_s rfl (Nat.le_of_ble_eq_true rfl) (by rw [hRf]; decide) (by rw [hRl]; decide) (by omega) (by omega) dX5_part_148 (fun r9 M_71 H locs hq hw => ?_)
                  obtain ⟨z_72, rfl, hM9, hz_72a, hz_72b⟩ := hq
                  rw [hM9] at hw
                  show W p l e R s m args below meth c H locs _ _ _ (F0 m 151 ls [.int (iN (z_72)), .int (iN (4)), .ref q_36, .ref q_36, .ref a])
                  refine x_iast hC hw hA_67 (by omega) (by omega) (by omega) dX5_part_151 (fun H locs hw => ?_)
                  obtain ⟨M_73, hM_74⟩ : ∃ z, z = va_up M_65 q_36 (some (.inl (G.2 1, 5, .inl (upd (upd (upd (upd (upd (fun _ => 0) (0 : Int).toNat (iN (z_44))) (1 : Int).toNat (iN (p1))) (2 : Int).toNat (iN (z_58))) (3 : Int).toNat (iN (p3))) (4 : Int).toNat (iN (z_72)))))) := ⟨_, rfl⟩
                  rw [← hM_74] at hw
                  have hA_75 : M_73 q_36 = some (.inl (G.2 1, 5, .inl (upd (upd (upd (upd (upd (fun _ => 0) (0 : Int).toNat (iN (z_44))) (1 : Int).toNat (iN (p1))) (2 : Int).toNat (iN (z_58))) (3 : Int).toNat (iN (p3))) (4 : Int).toNat (iN (z_72))))) := by rw [hM_74, va_up_self]
                  have hx_76 := xExt.upd hq_37 hx_68 hM_74
                  have h_77 := hRk_19.ext hx_76
                  have h_78 := hIi_23.x5 (xExt.x5 hx_76)
                  have hI_79 : Its G M_73 q_36 (upd (upd (upd (upd (upd (fun _ => 0) (0 : Int).toNat (iN (z_44))) (1 : Int).toNat (iN (p1))) (2 : Int).toNat (iN (z_58))) (3 : Int).toNat (iN (p3))) (4 : Int).toNat (iN (z_72))) := ⟨hA_75, (show 0 ≤ (iN (z_44)).toInt ∧ (iN (z_44)).toInt ≤ 2 by rw [iN_toInt ⟨by omega, by omega⟩]; omega), (show (iN (p1)).toInt = -10000 ∨ (0 ≤ (iN (p1)).toInt ∧ (iN (p1)).toInt ≤ 99) by rw [iN_toInt ⟨by omega, by omega⟩]; omega), (show 0 ≤ (iN (z_58)).toInt ∧ (iN (z_58)).toInt ≤ 1 by rw [iN_toInt ⟨by omega, by omega⟩]; omega), (show (iN (p3)).toInt = -10000 ∨ (0 ≤ (iN (p3)).toInt ∧ (iN (p3)).toInt ≤ 99) by rw [iN_toInt ⟨by omega, by omega⟩]; omega), (show 0 ≤ (iN (z_72)).toInt ∧ (iN (z_72)).toInt ≤ 1 by rw [iN_toInt ⟨by omega, by omega⟩]; omega)⟩
                  refine x_callV hC hw (lv_size hl) (c_X5_open l G h_77 hI_79 (j0 := (z_15).toNat) (by omega) (hz_15Y (by omega))) gX5_part_X5_open rfl dv_X5_open h_77.1.1 rfl rfl (Nat.le_of_ble_eq_true rfl) (by rw [hRf]; decide) (by rw [hRl]; decide) (by omega) (by omega) dX5_part_152 (fun r9 M_80 H locs hq hw => ?_)
                  obtain ⟨z_81, rfl, hz_81a, fyk_82, hRk_82⟩ := hq
                  show W p l e R s m args below meth c H locs _ _ _ (F0 m 155 ls [.int (iN (z_81))])
                  exact x_iret hC hw dX5_part_155 (by omega) (by omega) ⟨z_81, rfl, by omega, ⟨_, _, _, _, _, _, _, _, _, _, _, _, _, _, _, _, _, _, _, _, hRk_82⟩⟩
                · refine x_sipush hC dX5_part_113 (by decide +kernel) ?_
                  exact x_iret hC hw dX5_part_116 (by omega) (by omega) ⟨(-20000), rfl, by omega, ⟨_, _, _, _, _, _, _, _, _, _, _, _, _, _, _, _, _, _, _, _, hRk_19⟩⟩
          · refine x_const hC dX5_part_64 ?_
            exact x_iret hC hw dX5_part_65 (by omega) (by omega) ⟨0, rfl, by omega, ⟨_, _, _, _, _, _, _, _, _, _, _, _, _, _, _, _, _, _, _, _, hRk_19⟩⟩
        · refine x_const hC dX5_part_52 ?_
          refine lv_goto (tgt := 57) hC.1 hC.2.1 dX5_part_53 (by decide) ?_
          refine x_const hC dX5_part_57 ?_
          refine x_callV hC hw (lv_size hl) (c_X5_refuse l G hRk_12 (p0 := 1) (by omega) (p1 := 3) (by omega) (by omega)) gX5_part_X5_refuse rfl dv_X5_refuse hRk_12.1.1 rfl rfl (Nat.le_of_ble_eq_true rfl) (by rw [hRf]; decide) (by rw [hRl]; decide) (by omega) (by omega) dX5_part_58 (fun r9 M_83 H locs hq hw => ?_)
          obtain ⟨z_84, rfl, hz_84a, hz_84b, thk_85, hRk_85⟩ := hq
          show W p l e R s m args below meth c H locs _ _ _ (F0 m 61 ls [.int (iN (z_84))])
          refine x_if_eq (tgt := 66) hC ⟨by omega, by omega⟩ dX5_part_61 (by decide) (fun c_86 => ?_) (fun c_86 => ?_)
          · refine lv_aload_n hC.1 hC.2.1 dX5_part_66 rfl (lv_at hl 0 rfl) ?_
            refine x_get hC hw hRk_85.1.1 rfl hinX5 5 (by decide) (by decide +kernel) rfl dX5_part_67 ?_
            refine lv_iload_n hC.1 hC.2.1 dX5_part_70 rfl (lv_at hl 1 rfl) ?_
            refine x_ald4 hC hw hRk_85.1.2.2.2.2.1 (by omega) (by omega) (by omega) dX5_part_71 ?_
            obtain ⟨y_87, hy_88⟩ := x_some (hz_2n (by omega))
            rw [hy_88]
            obtain ⟨fi_89, hIi_89⟩ := (hRk_85.vw (show (p0).toNat < 4 by omega) hy_88)
            obtain ⟨hvt_90, hat_90, hbt_90, hct_90, hdt_90, het_90⟩ := id hIi_89
            show W p l e R s m args below meth c _ _ _ _ _ (F0 m 72 ls [.ref y_87])
            refine lv_astore (lv' := [(6, .ref y_87), (0, .ref a), (1, .int (iN (p0))), (2, .int (iN (p1))), (3, .int (iN (p2))), (4, .int (iN (p3))), (5, .int (iN (p4)))]) hC.1 hC.2.1 dX5_part_72 hl (by decide) rfl (fun ls hl => ?_)
            refine lv_aload_n hC.1 hC.2.1 dX5_part_74 rfl (lv_at hl 1 rfl) ?_
            refine lv_aload hC.1 hC.2.1 dX5_part_75 (lv_at hl 0 rfl) ?_
            refine lv_iload_n hC.1 hC.2.1 dX5_part_77 rfl (lv_at hl 3 rfl) ?_
            refine x_callV hC hw (lv_size hl) (c_X5_isWithin l G hRk_85 hIi_89 (p0 := p1) (by omega) (by omega)) gX5_part_X5_isWithin rfl dv_X5_isWithin hRk_85.1.1 rfl rfl (Nat.le_of_ble_eq_true rfl) (by rw [hRf]; decide) (by rw [hRl]; decide) (by omega) (by omega) dX5_part_78 (fun r9 M_91 H locs hq hw => ?_)
            obtain ⟨z_92, rfl, hM9, hz_92a⟩ := hq
            rw [hM9] at hw
            show W p l e R s m args below meth c H locs _ _ _ (F0 m 81 ls [.int (iN (z_92))])
            refine x_if_eq (tgt := 113) hC ⟨by omega, by omega⟩ dX5_part_81 (by decide) (fun c_93 => ?_) (fun c_93 => ?_)
            · refine x_sipush hC dX5_part_113 (by decide +kernel) ?_
              exact x_iret hC hw dX5_part_116 (by omega) (by omega) ⟨(-20000), rfl, by omega, ⟨_, _, _, _, _, _, _, _, _, _, _, _, _, _, _, _, _, _, _, _, hRk_85⟩⟩
            · refine lv_aload_n hC.1 hC.2.1 dX5_part_84 rfl (lv_at hl 1 rfl) ?_
              refine lv_aload hC.1 hC.2.1 dX5_part_85 (lv_at hl 0 rfl) ?_
              refine lv_iload hC.1 hC.2.1 dX5_part_87 (lv_at hl 5 rfl) ?_
              refine x_callV hC hw (lv_size hl) (c_X5_isWithin l G hRk_85 hIi_89 (p0 := p3) (by omega) (by omega)) gX5_part_X5_isWithin rfl dv_X5_isWithin hRk_85.1.1 rfl rfl (Nat.le_of_ble_eq_true rfl) (by rw [hRf]; decide) (by rw [hRl]; decide) (by omega) (by omega) dX5_part_89 (fun r9 M_94 H locs hq hw => ?_)
              obtain ⟨z_95, rfl, hM9, hz_95a⟩ := hq
              rw [hM9] at hw
              show W p l e R s m args below meth c H locs _ _ _ (F0 m 92 ls [.int (iN (z_95))])
              refine x_if_eq (tgt := 113) hC ⟨by omega, by omega⟩ dX5_part_92 (by decide) (fun c_96 => ?_) (fun c_96 => ?_)
              · refine x_sipush hC dX5_part_113 (by decide +kernel) ?_
                exact x_iret hC hw dX5_part_116 (by omega) (by omega) ⟨(-20000), rfl, by omega, ⟨_, _, _, _, _, _, _, _, _, _, _, _, _, _, _, _, _, _, _, _, hRk_85⟩⟩
              · refine lv_aload_n hC.1 hC.2.1 dX5_part_95 rfl (lv_at hl 1 rfl) ?_
                refine lv_aload hC.1 hC.2.1 dX5_part_96 (lv_at hl 0 rfl) ?_
                refine lv_iload_n hC.1 hC.2.1 dX5_part_98 rfl (lv_at hl 3 rfl) ?_
                refine x_callV hC hw (lv_size hl) (c_X5_weight l G hRk_85 hIi_89 (p0 := p1) (by omega) (by omega)) gX5_part_X5_weight rfl dv_X5_weight hRk_85.1.1 rfl rfl (Nat.le_of_ble_eq_true rfl) (by rw [hRf]; decide) (by rw [hRl]; decide) (by omega) (by omega) dX5_part_99 (fun r9 M_97 H locs hq hw => ?_)
                obtain ⟨z_98, rfl, hM9, hz_98a, hz_98b⟩ := hq
                rw [hM9] at hw
                show W p l e R s m args below meth c H locs _ _ _ (F0 m 102 ls [.int (iN (z_98))])
                refine lv_aload_n hC.1 hC.2.1 dX5_part_102 rfl (lv_at hl 1 rfl) ?_
                refine lv_aload hC.1 hC.2.1 dX5_part_103 (lv_at hl 0 rfl) ?_
                refine lv_iload hC.1 hC.2.1 dX5_part_105 (lv_at hl 5 rfl) ?_
                refine x_callV hC hw (lv_size hl) (c_X5_weight l G hRk_85 hIi_89 (p0 := p3) (by omega) (by omega)) gX5_part_X5_weight rfl dv_X5_weight hRk_85.1.1 rfl rfl (Nat.le_of_ble_eq_true rfl) (by rw [hRf]; decide) (by rw [hRl]; decide) (by omega) (by omega) dX5_part_107 (fun r9 M_99 H locs hq hw => ?_)
                obtain ⟨z_100, rfl, hM9, hz_100a, hz_100b⟩ := hq
                rw [hM9] at hw
                show W p l e R s m args below meth c H locs _ _ _ (F0 m 110 ls [.int (iN (z_100)), .int (iN (z_98))])
                refine x_icmp_le (tgt := 117) hC ⟨by omega, by omega⟩ ⟨by omega, by omega⟩ dX5_part_110 (by decide) (fun c_101 => ?_) (fun c_101 => ?_)
                · refine lv_aload_n hC.1 hC.2.1 dX5_part_117 rfl (lv_at hl 1 rfl) ?_
                  refine x_const hC dX5_part_118 ?_
                  refine x_newI hC hw (by decide +kernel) 5 rfl (by decide) (by omega) (by omega) dX5_part_119 (fun q_102 H hq_103 hw => ?_)
                  obtain ⟨M_104, hM_105⟩ : ∃ z, z = va_up M_83 q_102 (some (.inl (G.2 1, 5, .inl (fun _ => 0)))) := ⟨_, rfl⟩
                  rw [← hM_105] at hw
                  have hx_106 : xExt M_83 M_104 := by rw [hM_105]; exact xExt.new hq_103
                  have hA_107 : M_104 q_102 = some (.inl (G.2 1, 5, .inl (fun _ => 0))) := by rw [hM_105, va_up_self]
                  have h_108 := hRk_85.ext hx_106
                  have h_109 := hIi_89.x5 (xExt.x5 hx_106)
                  refine lv_dup hC.1 hC.2.1 dX5_part_121 rfl ?_
                  refine x_const hC dX5_part_122 ?_
                  refine lv_aload hC.1 hC.2.1 dX5_part_123 (lv_at hl 0 rfl) ?_
                  refine x_const hC dX5_part_125 ?_
                  refine x_iald hC hw h_109.1 (by omega) (by omega) (by omega) dX5_part_126 ?_
                  obtain ⟨z_110, hz_110⟩ : ∃ z : Int, z = (fi_89 (0 : Int).toNat).toInt := ⟨_, rfl⟩
                  rw [← hz_110]
                  have hz_110' : z_110 = (fi_89 0).toInt := hz_110
                  have hrz_110 : -2147483648 ≤ z_110 ∧ z_110 ≤ 2147483647 := by rw [hz_110]; exact iN_rng _
                  refine x_iast hC hw hA_107 (by omega) (by omega) (by omega) dX5_part_127 (fun H locs hw => ?_)
                  obtain ⟨M_111, hM_112⟩ : ∃ z, z = va_up M_104 q_102 (some (.inl (G.2 1, 5, .inl (upd (fun _ => 0) (0 : Int).toNat (iN (z_110)))))) := ⟨_, rfl⟩
                  rw [← hM_112] at hw
                  have hA_113 : M_111 q_102 = some (.inl (G.2 1, 5, .inl (upd (fun _ => 0) (0 : Int).toNat (iN (z_110))))) := by rw [hM_112, va_up_self]
                  have hx_114 := xExt.upd hq_103 hx_106 hM_112
                  have h_115 := hRk_85.ext hx_114
                  have h_116 := hIi_89.x5 (xExt.x5 hx_114)
                  refine lv_dup hC.1 hC.2.1 dX5_part_128 rfl ?_
                  refine x_const hC dX5_part_129 ?_
                  refine lv_iload_n hC.1 hC.2.1 dX5_part_130 rfl (lv_at hl 3 rfl) ?_
                  refine x_iast hC hw hA_113 (by omega) (by omega) (by omega) dX5_part_131 (fun H locs hw => ?_)
                  obtain ⟨M_117, hM_118⟩ : ∃ z, z = va_up M_111 q_102 (some (.inl (G.2 1, 5, .inl (upd (upd (fun _ => 0) (0 : Int).toNat (iN (z_110))) (1 : Int).toNat (iN (p1)))))) := ⟨_, rfl⟩
                  rw [← hM_118] at hw
                  have hA_119 : M_117 q_102 = some (.inl (G.2 1, 5, .inl (upd (upd (fun _ => 0) (0 : Int).toNat (iN (z_110))) (1 : Int).toNat (iN (p1))))) := by rw [hM_118, va_up_self]
                  have hx_120 := xExt.upd hq_103 hx_114 hM_118
                  have h_121 := hRk_85.ext hx_120
                  have h_122 := hIi_89.x5 (xExt.x5 hx_120)
                  refine lv_dup hC.1 hC.2.1 dX5_part_132 rfl ?_
                  refine x_const hC dX5_part_133 ?_
                  refine lv_iload_n hC.1 hC.2.1 dX5_part_134 rfl (lv_at hl 4 rfl) ?_
                  refine x_callS hC hw (lv_size hl) (c_X5_one l G (M := M_117) (p0 := p2) (by omega)) gX5_part_X5_one rfl dv_X5_one_s rfl (Nat.le_of_ble_eq_true rfl) (by rw [hRf]; decide) (by rw [hRl]; decide) (by omega) (by omega) dX5_part_135 (fun r9 M_123 H locs hq hw => ?_)
                  obtain ⟨z_124, rfl, hM9, hz_124a, hz_124b⟩ := hq
                  rw [hM9] at hw
                  show W p l e R s m args below meth c H locs _ _ _ (F0 m 138 ls [.int (iN (z_124)), .int (iN (2)), .ref q_102, .ref q_102, .ref a])
                  refine x_iast hC hw hA_119 (by omega) (by omega) (by omega) dX5_part_138 (fun H locs hw => ?_)
                  obtain ⟨M_125, hM_126⟩ : ∃ z, z = va_up M_117 q_102 (some (.inl (G.2 1, 5, .inl (upd (upd (upd (fun _ => 0) (0 : Int).toNat (iN (z_110))) (1 : Int).toNat (iN (p1))) (2 : Int).toNat (iN (z_124)))))) := ⟨_, rfl⟩
                  rw [← hM_126] at hw
                  have hA_127 : M_125 q_102 = some (.inl (G.2 1, 5, .inl (upd (upd (upd (fun _ => 0) (0 : Int).toNat (iN (z_110))) (1 : Int).toNat (iN (p1))) (2 : Int).toNat (iN (z_124))))) := by rw [hM_126, va_up_self]
                  have hx_128 := xExt.upd hq_103 hx_120 hM_126
                  have h_129 := hRk_85.ext hx_128
                  have h_130 := hIi_89.x5 (xExt.x5 hx_128)
                  refine lv_dup hC.1 hC.2.1 dX5_part_139 rfl ?_
                  refine x_const hC dX5_part_140 ?_
                  refine lv_iload hC.1 hC.2.1 dX5_part_141 (lv_at hl 5 rfl) ?_
                  refine x_iast hC hw hA_127 (by omega) (by omega) (by omega) dX5_part_143 (fun H locs hw => ?_)
                  obtain ⟨M_131, hM_132⟩ : ∃ z, z = va_up M_125 q_102 (some (.inl (G.2 1, 5, .inl (upd (upd (upd (upd (fun _ => 0) (0 : Int).toNat (iN (z_110))) (1 : Int).toNat (iN (p1))) (2 : Int).toNat (iN (z_124))) (3 : Int).toNat (iN (p3)))))) := ⟨_, rfl⟩
                  rw [← hM_132] at hw
                  have hA_133 : M_131 q_102 = some (.inl (G.2 1, 5, .inl (upd (upd (upd (upd (fun _ => 0) (0 : Int).toNat (iN (z_110))) (1 : Int).toNat (iN (p1))) (2 : Int).toNat (iN (z_124))) (3 : Int).toNat (iN (p3))))) := by rw [hM_132, va_up_self]
                  have hx_134 := xExt.upd hq_103 hx_128 hM_132
                  have h_135 := hRk_85.ext hx_134
                  have h_136 := hIi_89.x5 (xExt.x5 hx_134)
                  refine lv_dup hC.1 hC.2.1 dX5_part_144 rfl ?_
                  refine x_const hC dX5_part_145 ?_
                  refine lv_iload hC.1 hC.2.1 dX5_part_146 (lv_at hl 6 rfl) ?_
                  refine x_callS hC hw (lv_size hl) (c_X5_one l G (M := M_131) (p0 := p4) (by omega)) gX5_part_X5_one rfl dv_X5_one_s rfl (Nat.le_of_ble_eq_true rfl) (by rw [hRf]; decide) (by rw [hRl]; decide) (by omega) (by omega) dX5_part_148 (fun r9 M_137 H locs hq hw => ?_)
                  obtain ⟨z_138, rfl, hM9, hz_138a, hz_138b⟩ := hq
                  rw [hM9] at hw
                  show W p l e R s m args below meth c H locs _ _ _ (F0 m 151 ls [.int (iN (z_138)), .int (iN (4)), .ref q_102, .ref q_102, .ref a])
                  refine x_iast hC hw hA_133 (by omega) (by omega) (by omega) dX5_part_151 (fun H locs hw => ?_)
                  obtain ⟨M_139, hM_140⟩ : ∃ z, z = va_up M_131 q_102 (some (.inl (G.2 1, 5, .inl (upd (upd (upd (upd (upd (fun _ => 0) (0 : Int).toNat (iN (z_110))) (1 : Int).toNat (iN (p1))) (2 : Int).toNat (iN (z_124))) (3 : Int).toNat (iN (p3))) (4 : Int).toNat (iN (z_138)))))) := ⟨_, rfl⟩
                  rw [← hM_140] at hw
                  have hA_141 : M_139 q_102 = some (.inl (G.2 1, 5, .inl (upd (upd (upd (upd (upd (fun _ => 0) (0 : Int).toNat (iN (z_110))) (1 : Int).toNat (iN (p1))) (2 : Int).toNat (iN (z_124))) (3 : Int).toNat (iN (p3))) (4 : Int).toNat (iN (z_138))))) := by rw [hM_140, va_up_self]
                  have hx_142 := xExt.upd hq_103 hx_134 hM_140
                  have h_143 := hRk_85.ext hx_142
                  have h_144 := hIi_89.x5 (xExt.x5 hx_142)
                  have hI_145 : Its G M_139 q_102 (upd (upd (upd (upd (upd (fun _ => 0) (0 : Int).toNat (iN (z_110))) (1 : Int).toNat (iN (p1))) (2 : Int).toNat (iN (z_124))) (3 : Int).toNat (iN (p3))) (4 : Int).toNat (iN (z_138))) := ⟨hA_141, (show 0 ≤ (iN (z_110)).toInt ∧ (iN (z_110)).toInt ≤ 2 by rw [iN_toInt ⟨by omega, by omega⟩]; omega), (show (iN (p1)).toInt = -10000 ∨ (0 ≤ (iN (p1)).toInt ∧ (iN (p1)).toInt ≤ 99) by rw [iN_toInt ⟨by omega, by omega⟩]; omega), (show 0 ≤ (iN (z_124)).toInt ∧ (iN (z_124)).toInt ≤ 1 by rw [iN_toInt ⟨by omega, by omega⟩]; omega), (show (iN (p3)).toInt = -10000 ∨ (0 ≤ (iN (p3)).toInt ∧ (iN (p3)).toInt ≤ 99) by rw [iN_toInt ⟨by omega, by omega⟩]; omega), (show 0 ≤ (iN (z_138)).toInt ∧ (iN (z_138)).toInt ≤ 1 by rw [iN_toInt ⟨by omega, by omega⟩]; omega)⟩
                  refine x_callV hC hw (lv_size hl) (c_X5_open l G h_143 hI_145 (j0 := (z_15).toNat) (by omega) (hz_15Y (by omega))) gX5_part_X5_open rfl dv_X5_open h_143.1.1 rfl rfl (Nat.le_of_ble_eq_true rfl) (by rw [hRf]; decide) (by rw [hRl]; decide) (by omega) (by omega) dX5_part_152 (fun r9 M_146 H locs hq hw => ?_)
                  obtain ⟨z_147, rfl, hz_147a, fyk_148, hRk_148⟩ := hq
                  show W p l e R s m args below meth c H locs _ _ _ (F0 m 155 ls [.int (iN (z_147))])
                  exact x_iret hC hw dX5_part_155 (by omega) (by omega) ⟨z_147, rfl, by omega, ⟨_, _, _, _, _, _, _, _, _, _, _, _, _, _, _, _, _, _, _, _, hRk_148⟩⟩
                · refine x_sipush hC dX5_part_113 (by decide +kernel) ?_
                  exact x_iret hC hw dX5_part_116 (by omega) (by omega) ⟨(-20000), rfl, by omega, ⟨_, _, _, _, _, _, _, _, _, _, _, _, _, _, _, _, _, _, _, _, hRk_85⟩⟩
          · refine x_const hC dX5_part_64 ?_
            exact x_iret hC hw dX5_part_65 (by omega) (by omega) ⟨0, rfl, by omega, ⟨_, _, _, _, _, _, _, _, _, _, _, _, _, _, _, _, _, _, _, _, hRk_85⟩⟩
    · refine lv_iload hC.1 hC.2.1 dX5_part_21 (lv_at hl 4 rfl) ?_
      refine x_callS hC hw (lv_size hl) (c_X5_isNoKey l G (M := M_3) (p0 := p3) (by omega)) gX5_part_X5_isNoKey rfl dv_X5_isNoKey_s rfl (Nat.le_of_ble_eq_true rfl) (by rw [hRf]; decide) (by rw [hRl]; decide) (by omega) (by omega) dX5_part_23 (fun r9 M_149 H locs hq hw => ?_)
      obtain ⟨z_150, rfl, hM9, hz_150a, hz_150b⟩ := hq
      rw [hM9] at hw
      show W p l e R s m args below meth c H locs _ _ _ (F0 m 26 ls [.int (iN (z_150)), .ref a])
      refine x_if_eq (tgt := 33) hC ⟨by omega, by omega⟩ dX5_part_26 (by decide) (fun c_151 => ?_) (fun c_151 => ?_)
      · refine x_const hC dX5_part_33 ?_
        refine x_const hC dX5_part_34 ?_
        refine x_callV hC hw (lv_size hl) (c_X5_refuse l G hRk_5 (p0 := 0) (by omega) (p1 := 2) (by omega) (by omega)) gX5_part_X5_refuse rfl dv_X5_refuse hRk_5.1.1 rfl rfl (Nat.le_of_ble_eq_true rfl) (by rw [hRf]; decide) (by rw [hRl]; decide) (by omega) (by omega) dX5_part_35 (fun r9 M_152 H locs hq hw => ?_)
        obtain ⟨z_153, rfl, hz_153a, hz_153b, thk_154, hRk_154⟩ := hq
        show W p l e R s m args below meth c H locs _ _ _ (F0 m 38 ls [.int (iN (z_153))])
        refine x_if_ne (tgt := 64) hC ⟨by omega, by omega⟩ dX5_part_38 (by decide) (fun c_155 => ?_) (fun c_155 => ?_)
        · refine x_const hC dX5_part_64 ?_
          exact x_iret hC hw dX5_part_65 (by omega) (by omega) ⟨0, rfl, by omega, ⟨_, _, _, _, _, _, _, _, _, _, _, _, _, _, _, _, _, _, _, _, hRk_154⟩⟩
        · refine lv_aload_n hC.1 hC.2.1 dX5_part_41 rfl (lv_at hl 0 rfl) ?_
          refine lv_aload_n hC.1 hC.2.1 dX5_part_42 rfl (lv_at hl 0 rfl) ?_
          refine x_callV hC hw (lv_size hl) (c_X5_free l G hRk_154) gX5_part_X5_free rfl dv_X5_free hRk_154.1.1 rfl rfl (Nat.le_of_ble_eq_true rfl) (by rw [hRf]; decide) (by rw [hRl]; decide) (by omega) (by omega) dX5_part_43 (fun r9 M_156 H locs hq hw => ?_)
          obtain ⟨z_157, rfl, hM9, hz_157a, hz_157N, hz_157Y⟩ := hq
          rw [hM9] at hw
          show W p l e R s m args below meth c H locs _ _ _ (F0 m 46 ls [.int (iN (z_157)), .ref a])
          refine x_sipush hC dX5_part_46 (by decide +kernel) ?_
          refine x_icmp_ne (tgt := 56) hC ⟨by omega, by omega⟩ ⟨by omega, by omega⟩ dX5_part_49 (by decide) (fun c_158 => ?_) (fun c_158 => ?_)
          · refine x_const hC dX5_part_56 ?_
            refine x_const hC dX5_part_57 ?_
            refine x_callV hC hw (lv_size hl) (c_X5_refuse l G hRk_154 (p0 := 0) (by omega) (p1 := 3) (by omega) (by omega)) gX5_part_X5_refuse rfl dv_X5_refuse hRk_154.1.1 rfl rfl (Nat.le_of_ble_eq_true rfl) (by rw [hRf]; decide) (by rw [hRl]; decide) (by omega) (by omega) dX5_part_58 (fun r9 M_159 H locs hq hw => ?_)
            obtain ⟨z_160, rfl, hz_160a, hz_160b, thk_161, hRk_161⟩ := hq
            show W p l e R s m args below meth c H locs _ _ _ (F0 m 61 ls [.int (iN (z_160))])
            refine x_if_eq (tgt := 66) hC ⟨by omega, by omega⟩ dX5_part_61 (by decide) (fun c_162 => ?_) (fun c_162 => ?_)
            · refine lv_aload_n hC.1 hC.2.1 dX5_part_66 rfl (lv_at hl 0 rfl) ?_
              refine x_get hC hw hRk_161.1.1 rfl hinX5 5 (by decide) (by decide +kernel) rfl dX5_part_67 ?_
              refine lv_iload_n hC.1 hC.2.1 dX5_part_70 rfl (lv_at hl 1 rfl) ?_
              refine x_ald4 hC hw hRk_161.1.2.2.2.2.1 (by omega) (by omega) (by omega) dX5_part_71 ?_
              obtain ⟨y_163, hy_164⟩ := x_some (hz_2n (by omega))
              rw [hy_164]
              obtain ⟨fi_165, hIi_165⟩ := (hRk_161.vw (show (p0).toNat < 4 by omega) hy_164)
              obtain ⟨hvt_166, hat_166, hbt_166, hct_166, hdt_166, het_166⟩ := id hIi_165
              show W p l e R s m args below meth c _ _ _ _ _ (F0 m 72 ls [.ref y_163])
              refine lv_astore (lv' := [(6, .ref y_163), (0, .ref a), (1, .int (iN (p0))), (2, .int (iN (p1))), (3, .int (iN (p2))), (4, .int (iN (p3))), (5, .int (iN (p4)))]) hC.1 hC.2.1 dX5_part_72 hl (by decide) rfl (fun ls hl => ?_)
              refine lv_aload_n hC.1 hC.2.1 dX5_part_74 rfl (lv_at hl 1 rfl) ?_
              refine lv_aload hC.1 hC.2.1 dX5_part_75 (lv_at hl 0 rfl) ?_
              refine lv_iload_n hC.1 hC.2.1 dX5_part_77 rfl (lv_at hl 3 rfl) ?_
              refine x_callV hC hw (lv_size hl) (c_X5_isWithin l G hRk_161 hIi_165 (p0 := p1) (by omega) (by omega)) gX5_part_X5_isWithin rfl dv_X5_isWithin hRk_161.1.1 rfl rfl (Nat.le_of_ble_eq_true rfl) (by rw [hRf]; decide) (by rw [hRl]; decide) (by omega) (by omega) dX5_part_78 (fun r9 M_167 H locs hq hw => ?_)
              obtain ⟨z_168, rfl, hM9, hz_168a⟩ := hq
              rw [hM9] at hw
              show W p l e R s m args below meth c H locs _ _ _ (F0 m 81 ls [.int (iN (z_168))])
              refine x_if_eq (tgt := 113) hC ⟨by omega, by omega⟩ dX5_part_81 (by decide) (fun c_169 => ?_) (fun c_169 => ?_)
              · refine x_sipush hC dX5_part_113 (by decide +kernel) ?_
                exact x_iret hC hw dX5_part_116 (by omega) (by omega) ⟨(-20000), rfl, by omega, ⟨_, _, _, _, _, _, _, _, _, _, _, _, _, _, _, _, _, _, _, _, hRk_161⟩⟩
              · refine lv_aload_n hC.1 hC.2.1 dX5_part_84 rfl (lv_at hl 1 rfl) ?_
                refine lv_aload hC.1 hC.2.1 dX5_part_85 (lv_at hl 0 rfl) ?_
                refine lv_iload hC.1 hC.2.1 dX5_part_87 (lv_at hl 5 rfl) ?_
                refine x_callV hC hw (lv_size hl) (c_X5_isWithin l G hRk_161 hIi_165 (p0 := p3) (by omega) (by omega)) gX5_part_X5_isWithin rfl dv_X5_isWithin hRk_161.1.1 rfl rfl (Nat.le_of_ble_eq_true rfl) (by rw [hRf]; decide) (by rw [hRl]; decide) (by omega) (by omega) dX5_part_89 (fun r9 M_170 H locs hq hw => ?_)
                obtain ⟨z_171, rfl, hM9, hz_171a⟩ := hq
                rw [hM9] at hw
                show W p l e R s m args below meth c H locs _ _ _ (F0 m 92 ls [.int (iN (z_171))])
                refine x_if_eq (tgt := 113) hC ⟨by omega, by omega⟩ dX5_part_92 (by decide) (fun c_172 => ?_) (fun c_172 => ?_)
                · refine x_sipush hC dX5_part_113 (by decide +kernel) ?_
                  exact x_iret hC hw dX5_part_116 (by omega) (by omega) ⟨(-20000), rfl, by omega, ⟨_, _, _, _, _, _, _, _, _, _, _, _, _, _, _, _, _, _, _, _, hRk_161⟩⟩
                · refine lv_aload_n hC.1 hC.2.1 dX5_part_95 rfl (lv_at hl 1 rfl) ?_
                  refine lv_aload hC.1 hC.2.1 dX5_part_96 (lv_at hl 0 rfl) ?_
                  refine lv_iload_n hC.1 hC.2.1 dX5_part_98 rfl (lv_at hl 3 rfl) ?_
                  refine x_callV hC hw (lv_size hl) (c_X5_weight l G hRk_161 hIi_165 (p0 := p1) (by omega) (by omega)) gX5_part_X5_weight rfl dv_X5_weight hRk_161.1.1 rfl rfl (Nat.le_of_ble_eq_true rfl) (by rw [hRf]; decide) (by rw [hRl]; decide) (by omega) (by omega) dX5_part_99 (fun r9 M_173 H locs hq hw => ?_)
                  obtain ⟨z_174, rfl, hM9, hz_174a, hz_174b⟩ := hq
                  rw [hM9] at hw
                  show W p l e R s m args below meth c H locs _ _ _ (F0 m 102 ls [.int (iN (z_174))])
                  refine lv_aload_n hC.1 hC.2.1 dX5_part_102 rfl (lv_at hl 1 rfl) ?_
                  refine lv_aload hC.1 hC.2.1 dX5_part_103 (lv_at hl 0 rfl) ?_
                  refine lv_iload hC.1 hC.2.1 dX5_part_105 (lv_at hl 5 rfl) ?_
                  refine x_callV hC hw (lv_size hl) (c_X5_weight l G hRk_161 hIi_165 (p0 := p3) (by omega) (by omega)) gX5_part_X5_weight rfl dv_X5_weight hRk_161.1.1 rfl rfl (Nat.le_of_ble_eq_true rfl) (by rw [hRf]; decide) (by rw [hRl]; decide) (by omega) (by omega) dX5_part_107 (fun r9 M_175 H locs hq hw => ?_)
                  obtain ⟨z_176, rfl, hM9, hz_176a, hz_176b⟩ := hq
                  rw [hM9] at hw
                  show W p l e R s m args below meth c H locs _ _ _ (F0 m 110 ls [.int (iN (z_176)), .int (iN (z_174))])
                  refine x_icmp_le (tgt := 117) hC ⟨by omega, by omega⟩ ⟨by omega, by omega⟩ dX5_part_110 (by decide) (fun c_177 => ?_) (fun c_177 => ?_)
                  · refine lv_aload_n hC.1 hC.2.1 dX5_part_117 rfl (lv_at hl 1 rfl) ?_
                    refine x_const hC dX5_part_118 ?_
                    refine x_newI hC hw (by decide +kernel) 5 rfl (by decide) (by omega) (by omega) dX5_part_119 (fun q_178 H hq_179 hw => ?_)
                    obtain ⟨M_180, hM_181⟩ : ∃ z, z = va_up M_159 q_178 (some (.inl (G.2 1, 5, .inl (fun _ => 0)))) := ⟨_, rfl⟩
                    rw [← hM_181] at hw
                    have hx_182 : xExt M_159 M_180 := by rw [hM_181]; exact xExt.new hq_179
                    have hA_183 : M_180 q_178 = some (.inl (G.2 1, 5, .inl (fun _ => 0))) := by rw [hM_181, va_up_self]
                    have h_184 := hRk_161.ext hx_182
                    have h_185 := hIi_165.x5 (xExt.x5 hx_182)
                    refine lv_dup hC.1 hC.2.1 dX5_part_121 rfl ?_
                    refine x_const hC dX5_part_122 ?_
                    refine lv_aload hC.1 hC.2.1 dX5_part_123 (lv_at hl 0 rfl) ?_
                    refine x_const hC dX5_part_125 ?_
                    refine x_iald hC hw h_185.1 (by omega) (by omega) (by omega) dX5_part_126 ?_
                    obtain ⟨z_186, hz_186⟩ : ∃ z : Int, z = (fi_165 (0 : Int).toNat).toInt := ⟨_, rfl⟩
                    rw [← hz_186]
                    have hz_186' : z_186 = (fi_165 0).toInt := hz_186
                    have hrz_186 : -2147483648 ≤ z_186 ∧ z_186 ≤ 2147483647 := by rw [hz_186]; exact iN_rng _
                    refine x_iast hC hw hA_183 (by omega) (by omega) (by omega) dX5_part_127 (fun H locs hw => ?_)
                    obtain ⟨M_187, hM_188⟩ : ∃ z, z = va_up M_180 q_178 (some (.inl (G.2 1, 5, .inl (upd (fun _ => 0) (0 : Int).toNat (iN (z_186)))))) := ⟨_, rfl⟩
                    rw [← hM_188] at hw
                    have hA_189 : M_187 q_178 = some (.inl (G.2 1, 5, .inl (upd (fun _ => 0) (0 : Int).toNat (iN (z_186))))) := by rw [hM_188, va_up_self]
                    have hx_190 := xExt.upd hq_179 hx_182 hM_188
                    have h_191 := hRk_161.ext hx_190
                    have h_192 := hIi_165.x5 (xExt.x5 hx_190)
                    refine lv_dup hC.1 hC.2.1 dX5_part_128 rfl ?_
                    refine x_const hC dX5_part_129 ?_
                    refine lv_iload_n hC.1 hC.2.1 dX5_part_130 rfl (lv_at hl 3 rfl) ?_
                    refine x_iast hC hw hA_189 (by omega) (by omega) (by omega) dX5_part_131 (fun H locs hw => ?_)
                    obtain ⟨M_193, hM_194⟩ : ∃ z, z = va_up M_187 q_178 (some (.inl (G.2 1, 5, .inl (upd (upd (fun _ => 0) (0 : Int).toNat (iN (z_186))) (1 : Int).toNat (iN (p1)))))) := ⟨_, rfl⟩
                    rw [← hM_194] at hw
                    have hA_195 : M_193 q_178 = some (.inl (G.2 1, 5, .inl (upd (upd (fun _ => 0) (0 : Int).toNat (iN (z_186))) (1 : Int).toNat (iN (p1))))) := by rw [hM_194, va_up_self]
                    have hx_196 := xExt.upd hq_179 hx_190 hM_194
                    have h_197 := hRk_161.ext hx_196
                    have h_198 := hIi_165.x5 (xExt.x5 hx_196)
                    refine lv_dup hC.1 hC.2.1 dX5_part_132 rfl ?_
                    refine x_const hC dX5_part_133 ?_
                    refine lv_iload_n hC.1 hC.2.1 dX5_part_134 rfl (lv_at hl 4 rfl) ?_
                    refine x_callS hC hw (lv_size hl) (c_X5_one l G (M := M_193) (p0 := p2) (by omega)) gX5_part_X5_one rfl dv_X5_one_s rfl (Nat.le_of_ble_eq_true rfl) (by rw [hRf]; decide) (by rw [hRl]; decide) (by omega) (by omega) dX5_part_135 (fun r9 M_199 H locs hq hw => ?_)
                    obtain ⟨z_200, rfl, hM9, hz_200a, hz_200b⟩ := hq
                    rw [hM9] at hw
                    show W p l e R s m args below meth c H locs _ _ _ (F0 m 138 ls [.int (iN (z_200)), .int (iN (2)), .ref q_178, .ref q_178, .ref a])
                    refine x_iast hC hw hA_195 (by omega) (by omega) (by omega) dX5_part_138 (fun H locs hw => ?_)
                    obtain ⟨M_201, hM_202⟩ : ∃ z, z = va_up M_193 q_178 (some (.inl (G.2 1, 5, .inl (upd (upd (upd (fun _ => 0) (0 : Int).toNat (iN (z_186))) (1 : Int).toNat (iN (p1))) (2 : Int).toNat (iN (z_200)))))) := ⟨_, rfl⟩
                    rw [← hM_202] at hw
                    have hA_203 : M_201 q_178 = some (.inl (G.2 1, 5, .inl (upd (upd (upd (fun _ => 0) (0 : Int).toNat (iN (z_186))) (1 : Int).toNat (iN (p1))) (2 : Int).toNat (iN (z_200))))) := by rw [hM_202, va_up_self]
                    have hx_204 := xExt.upd hq_179 hx_196 hM_202
                    have h_205 := hRk_161.ext hx_204
                    have h_206 := hIi_165.x5 (xExt.x5 hx_204)
                    refine lv_dup hC.1 hC.2.1 dX5_part_139 rfl ?_
                    refine x_const hC dX5_part_140 ?_
                    refine lv_iload hC.1 hC.2.1 dX5_part_141 (lv_at hl 5 rfl) ?_
                    refine x_iast hC hw hA_203 (by omega) (by omega) (by omega) dX5_part_143 (fun H locs hw => ?_)
                    obtain ⟨M_207, hM_208⟩ : ∃ z, z = va_up M_201 q_178 (some (.inl (G.2 1, 5, .inl (upd (upd (upd (upd (fun _ => 0) (0 : Int).toNat (iN (z_186))) (1 : Int).toNat (iN (p1))) (2 : Int).toNat (iN (z_200))) (3 : Int).toNat (iN (p3)))))) := ⟨_, rfl⟩
                    rw [← hM_208] at hw
                    have hA_209 : M_207 q_178 = some (.inl (G.2 1, 5, .inl (upd (upd (upd (upd (fun _ => 0) (0 : Int).toNat (iN (z_186))) (1 : Int).toNat (iN (p1))) (2 : Int).toNat (iN (z_200))) (3 : Int).toNat (iN (p3))))) := by rw [hM_208, va_up_self]
                    have hx_210 := xExt.upd hq_179 hx_204 hM_208
                    have h_211 := hRk_161.ext hx_210
                    have h_212 := hIi_165.x5 (xExt.x5 hx_210)
                    refine lv_dup hC.1 hC.2.1 dX5_part_144 rfl ?_
                    refine x_const hC dX5_part_145 ?_
                    refine lv_iload hC.1 hC.2.1 dX5_part_146 (lv_at hl 6 rfl) ?_
                    refine x_callS hC hw (lv_size hl) (c_X5_one l G (M := M_207) (p0 := p4) (by omega)) gX5_part_X5_one rfl dv_X5_one_s rfl (Nat.le_of_ble_eq_true rfl) (by rw [hRf]; decide) (by rw [hRl]; decide) (by omega) (by omega) dX5_part_148 (fun r9 M_213 H locs hq hw => ?_)
                    obtain ⟨z_214, rfl, hM9, hz_214a, hz_214b⟩ := hq
                    rw [hM9] at hw
                    show W p l e R s m args below meth c H locs _ _ _ (F0 m 151 ls [.int (iN (z_214)), .int (iN (4)), .ref q_178, .ref q_178, .ref a])
                    refine x_iast hC hw hA_209 (by omega) (by omega) (by omega) dX5_part_151 (fun H locs hw => ?_)
                    obtain ⟨M_215, hM_216⟩ : ∃ z, z = va_up M_207 q_178 (some (.inl (G.2 1, 5, .inl (upd (upd (upd (upd (upd (fun _ => 0) (0 : Int).toNat (iN (z_186))) (1 : Int).toNat (iN (p1))) (2 : Int).toNat (iN (z_200))) (3 : Int).toNat (iN (p3))) (4 : Int).toNat (iN (z_214)))))) := ⟨_, rfl⟩
                    rw [← hM_216] at hw
                    have hA_217 : M_215 q_178 = some (.inl (G.2 1, 5, .inl (upd (upd (upd (upd (upd (fun _ => 0) (0 : Int).toNat (iN (z_186))) (1 : Int).toNat (iN (p1))) (2 : Int).toNat (iN (z_200))) (3 : Int).toNat (iN (p3))) (4 : Int).toNat (iN (z_214))))) := by rw [hM_216, va_up_self]
                    have hx_218 := xExt.upd hq_179 hx_210 hM_216
                    have h_219 := hRk_161.ext hx_218
                    have h_220 := hIi_165.x5 (xExt.x5 hx_218)
                    have hI_221 : Its G M_215 q_178 (upd (upd (upd (upd (upd (fun _ => 0) (0 : Int).toNat (iN (z_186))) (1 : Int).toNat (iN (p1))) (2 : Int).toNat (iN (z_200))) (3 : Int).toNat (iN (p3))) (4 : Int).toNat (iN (z_214))) := ⟨hA_217, (show 0 ≤ (iN (z_186)).toInt ∧ (iN (z_186)).toInt ≤ 2 by rw [iN_toInt ⟨by omega, by omega⟩]; omega), (show (iN (p1)).toInt = -10000 ∨ (0 ≤ (iN (p1)).toInt ∧ (iN (p1)).toInt ≤ 99) by rw [iN_toInt ⟨by omega, by omega⟩]; omega), (show 0 ≤ (iN (z_200)).toInt ∧ (iN (z_200)).toInt ≤ 1 by rw [iN_toInt ⟨by omega, by omega⟩]; omega), (show (iN (p3)).toInt = -10000 ∨ (0 ≤ (iN (p3)).toInt ∧ (iN (p3)).toInt ≤ 99) by rw [iN_toInt ⟨by omega, by omega⟩]; omega), (show 0 ≤ (iN (z_214)).toInt ∧ (iN (z_214)).toInt ≤ 1 by rw [iN_toInt ⟨by omega, by omega⟩]; omega)⟩
                    refine x_callV hC hw (lv_size hl) (c_X5_open l G h_219 hI_221 (j0 := (z_157).toNat) (by omega) (hz_157Y (by omega))) gX5_part_X5_open rfl dv_X5_open h_219.1.1 rfl rfl (Nat.le_of_ble_eq_true rfl) (by rw [hRf]; decide) (by rw [hRl]; decide) (by omega) (by omega) dX5_part_152 (fun r9 M_222 H locs hq hw => ?_)
                    obtain ⟨z_223, rfl, hz_223a, fyk_224, hRk_224⟩ := hq
                    show W p l e R s m args below meth c H locs _ _ _ (F0 m 155 ls [.int (iN (z_223))])
                    exact x_iret hC hw dX5_part_155 (by omega) (by omega) ⟨z_223, rfl, by omega, ⟨_, _, _, _, _, _, _, _, _, _, _, _, _, _, _, _, _, _, _, _, hRk_224⟩⟩
                  · refine x_sipush hC dX5_part_113 (by decide +kernel) ?_
                    exact x_iret hC hw dX5_part_116 (by omega) (by omega) ⟨(-20000), rfl, by omega, ⟨_, _, _, _, _, _, _, _, _, _, _, _, _, _, _, _, _, _, _, _, hRk_161⟩⟩
            · refine x_const hC dX5_part_64 ?_
              exact x_iret hC hw dX5_part_65 (by omega) (by omega) ⟨0, rfl, by omega, ⟨_, _, _, _, _, _, _, _, _, _, _, _, _, _, _, _, _, _, _, _, hRk_161⟩⟩
          · refine x_const hC dX5_part_52 ?_
            refine lv_goto (tgt := 57) hC.1 hC.2.1 dX5_part_53 (by decide) ?_
            refine x_const hC dX5_part_57 ?_
            refine x_callV hC hw (lv_size hl) (c_X5_refuse l G hRk_154 (p0 := 1) (by omega) (p1 := 3) (by omega) (by omega)) gX5_part_X5_refuse rfl dv_X5_refuse hRk_154.1.1 rfl rfl (Nat.le_of_ble_eq_true rfl) (by rw [hRf]; decide) (by rw [hRl]; decide) (by omega) (by omega) dX5_part_58 (fun r9 M_225 H locs hq hw => ?_)
            obtain ⟨z_226, rfl, hz_226a, hz_226b, thk_227, hRk_227⟩ := hq
            show W p l e R s m args below meth c H locs _ _ _ (F0 m 61 ls [.int (iN (z_226))])
            refine x_if_eq (tgt := 66) hC ⟨by omega, by omega⟩ dX5_part_61 (by decide) (fun c_228 => ?_) (fun c_228 => ?_)
            · refine lv_aload_n hC.1 hC.2.1 dX5_part_66 rfl (lv_at hl 0 rfl) ?_
              refine x_get hC hw hRk_227.1.1 rfl hinX5 5 (by decide) (by decide +kernel) rfl dX5_part_67 ?_
              refine lv_iload_n hC.1 hC.2.1 dX5_part_70 rfl (lv_at hl 1 rfl) ?_
              refine x_ald4 hC hw hRk_227.1.2.2.2.2.1 (by omega) (by omega) (by omega) dX5_part_71 ?_
              obtain ⟨y_229, hy_230⟩ := x_some (hz_2n (by omega))
              rw [hy_230]
              obtain ⟨fi_231, hIi_231⟩ := (hRk_227.vw (show (p0).toNat < 4 by omega) hy_230)
              obtain ⟨hvt_232, hat_232, hbt_232, hct_232, hdt_232, het_232⟩ := id hIi_231
              show W p l e R s m args below meth c _ _ _ _ _ (F0 m 72 ls [.ref y_229])
              refine lv_astore (lv' := [(6, .ref y_229), (0, .ref a), (1, .int (iN (p0))), (2, .int (iN (p1))), (3, .int (iN (p2))), (4, .int (iN (p3))), (5, .int (iN (p4)))]) hC.1 hC.2.1 dX5_part_72 hl (by decide) rfl (fun ls hl => ?_)
              refine lv_aload_n hC.1 hC.2.1 dX5_part_74 rfl (lv_at hl 1 rfl) ?_
              refine lv_aload hC.1 hC.2.1 dX5_part_75 (lv_at hl 0 rfl) ?_
              refine lv_iload_n hC.1 hC.2.1 dX5_part_77 rfl (lv_at hl 3 rfl) ?_
              refine x_callV hC hw (lv_size hl) (c_X5_isWithin l G hRk_227 hIi_231 (p0 := p1) (by omega) (by omega)) gX5_part_X5_isWithin rfl dv_X5_isWithin hRk_227.1.1 rfl rfl (Nat.le_of_ble_eq_true rfl) (by rw [hRf]; decide) (by rw [hRl]; decide) (by omega) (by omega) dX5_part_78 (fun r9 M_233 H locs hq hw => ?_)
              obtain ⟨z_234, rfl, hM9, hz_234a⟩ := hq
              rw [hM9] at hw
              show W p l e R s m args below meth c H locs _ _ _ (F0 m 81 ls [.int (iN (z_234))])
              refine x_if_eq (tgt := 113) hC ⟨by omega, by omega⟩ dX5_part_81 (by decide) (fun c_235 => ?_) (fun c_235 => ?_)
              · refine x_sipush hC dX5_part_113 (by decide +kernel) ?_
                exact x_iret hC hw dX5_part_116 (by omega) (by omega) ⟨(-20000), rfl, by omega, ⟨_, _, _, _, _, _, _, _, _, _, _, _, _, _, _, _, _, _, _, _, hRk_227⟩⟩
              · refine lv_aload_n hC.1 hC.2.1 dX5_part_84 rfl (lv_at hl 1 rfl) ?_
                refine lv_aload hC.1 hC.2.1 dX5_part_85 (lv_at hl 0 rfl) ?_
                refine lv_iload hC.1 hC.2.1 dX5_part_87 (lv_at hl 5 rfl) ?_
                refine x_callV hC hw (lv_size hl) (c_X5_isWithin l G hRk_227 hIi_231 (p0 := p3) (by omega) (by omega)) gX5_part_X5_isWithin rfl dv_X5_isWithin hRk_227.1.1 rfl rfl (Nat.le_of_ble_eq_true rfl) (by rw [hRf]; decide) (by rw [hRl]; decide) (by omega) (by omega) dX5_part_89 (fun r9 M_236 H locs hq hw => ?_)
                obtain ⟨z_237, rfl, hM9, hz_237a⟩ := hq
                rw [hM9] at hw
                show W p l e R s m args below meth c H locs _ _ _ (F0 m 92 ls [.int (iN (z_237))])
                refine x_if_eq (tgt := 113) hC ⟨by omega, by omega⟩ dX5_part_92 (by decide) (fun c_238 => ?_) (fun c_238 => ?_)
                · refine x_sipush hC dX5_part_113 (by decide +kernel) ?_
                  exact x_iret hC hw dX5_part_116 (by omega) (by omega) ⟨(-20000), rfl, by omega, ⟨_, _, _, _, _, _, _, _, _, _, _, _, _, _, _, _, _, _, _, _, hRk_227⟩⟩
                · refine lv_aload_n hC.1 hC.2.1 dX5_part_95 rfl (lv_at hl 1 rfl) ?_
                  refine lv_aload hC.1 hC.2.1 dX5_part_96 (lv_at hl 0 rfl) ?_
                  refine lv_iload_n hC.1 hC.2.1 dX5_part_98 rfl (lv_at hl 3 rfl) ?_
                  refine x_callV hC hw (lv_size hl) (c_X5_weight l G hRk_227 hIi_231 (p0 := p1) (by omega) (by omega)) gX5_part_X5_weight rfl dv_X5_weight hRk_227.1.1 rfl rfl (Nat.le_of_ble_eq_true rfl) (by rw [hRf]; decide) (by rw [hRl]; decide) (by omega) (by omega) dX5_part_99 (fun r9 M_239 H locs hq hw => ?_)
                  obtain ⟨z_240, rfl, hM9, hz_240a, hz_240b⟩ := hq
                  rw [hM9] at hw
                  show W p l e R s m args below meth c H locs _ _ _ (F0 m 102 ls [.int (iN (z_240))])
                  refine lv_aload_n hC.1 hC.2.1 dX5_part_102 rfl (lv_at hl 1 rfl) ?_
                  refine lv_aload hC.1 hC.2.1 dX5_part_103 (lv_at hl 0 rfl) ?_
                  refine lv_iload hC.1 hC.2.1 dX5_part_105 (lv_at hl 5 rfl) ?_
                  refine x_callV hC hw (lv_size hl) (c_X5_weight l G hRk_227 hIi_231 (p0 := p3) (by omega) (by omega)) gX5_part_X5_weight rfl dv_X5_weight hRk_227.1.1 rfl rfl (Nat.le_of_ble_eq_true rfl) (by rw [hRf]; decide) (by rw [hRl]; decide) (by omega) (by omega) dX5_part_107 (fun r9 M_241 H locs hq hw => ?_)
                  obtain ⟨z_242, rfl, hM9, hz_242a, hz_242b⟩ := hq
                  rw [hM9] at hw
                  show W p l e R s m args below meth c H locs _ _ _ (F0 m 110 ls [.int (iN (z_242)), .int (iN (z_240))])
                  refine x_icmp_le (tgt := 117) hC ⟨by omega, by omega⟩ ⟨by omega, by omega⟩ dX5_part_110 (by decide) (fun c_243 => ?_) (fun c_243 => ?_)
                  · refine lv_aload_n hC.1 hC.2.1 dX5_part_117 rfl (lv_at hl 1 rfl) ?_
                    refine x_const hC dX5_part_118 ?_
                    refine x_newI hC hw (by decide +kernel) 5 rfl (by decide) (by omega) (by omega) dX5_part_119 (fun q_244 H hq_245 hw => ?_)
                    obtain ⟨M_246, hM_247⟩ : ∃ z, z = va_up M_225 q_244 (some (.inl (G.2 1, 5, .inl (fun _ => 0)))) := ⟨_, rfl⟩
                    rw [← hM_247] at hw
                    have hx_248 : xExt M_225 M_246 := by rw [hM_247]; exact xExt.new hq_245
                    have hA_249 : M_246 q_244 = some (.inl (G.2 1, 5, .inl (fun _ => 0))) := by rw [hM_247, va_up_self]
                    have h_250 := hRk_227.ext hx_248
                    have h_251 := hIi_231.x5 (xExt.x5 hx_248)
                    refine lv_dup hC.1 hC.2.1 dX5_part_121 rfl ?_
                    refine x_const hC dX5_part_122 ?_
                    refine lv_aload hC.1 hC.2.1 dX5_part_123 (lv_at hl 0 rfl) ?_
                    refine x_const hC dX5_part_125 ?_
                    refine x_iald hC hw h_251.1 (by omega) (by omega) (by omega) dX5_part_126 ?_
                    obtain ⟨z_252, hz_252⟩ : ∃ z : Int, z = (fi_231 (0 : Int).toNat).toInt := ⟨_, rfl⟩
                    rw [← hz_252]
                    have hz_252' : z_252 = (fi_231 0).toInt := hz_252
                    have hrz_252 : -2147483648 ≤ z_252 ∧ z_252 ≤ 2147483647 := by rw [hz_252]; exact iN_rng _
                    refine x_iast hC hw hA_249 (by omega) (by omega) (by omega) dX5_part_127 (fun H locs hw => ?_)
                    obtain ⟨M_253, hM_254⟩ : ∃ z, z = va_up M_246 q_244 (some (.inl (G.2 1, 5, .inl (upd (fun _ => 0) (0 : Int).toNat (iN (z_252)))))) := ⟨_, rfl⟩
                    rw [← hM_254] at hw
                    have hA_255 : M_253 q_244 = some (.inl (G.2 1, 5, .inl (upd (fun _ => 0) (0 : Int).toNat (iN (z_252))))) := by rw [hM_254, va_up_self]
                    have hx_256 := xExt.upd hq_245 hx_248 hM_254
                    have h_257 := hRk_227.ext hx_256
                    have h_258 := hIi_231.x5 (xExt.x5 hx_256)
                    refine lv_dup hC.1 hC.2.1 dX5_part_128 rfl ?_
                    refine x_const hC dX5_part_129 ?_
                    refine lv_iload_n hC.1 hC.2.1 dX5_part_130 rfl (lv_at hl 3 rfl) ?_
                    refine x_iast hC hw hA_255 (by omega) (by omega) (by omega) dX5_part_131 (fun H locs hw => ?_)
                    obtain ⟨M_259, hM_260⟩ : ∃ z, z = va_up M_253 q_244 (some (.inl (G.2 1, 5, .inl (upd (upd (fun _ => 0) (0 : Int).toNat (iN (z_252))) (1 : Int).toNat (iN (p1)))))) := ⟨_, rfl⟩
                    rw [← hM_260] at hw
                    have hA_261 : M_259 q_244 = some (.inl (G.2 1, 5, .inl (upd (upd (fun _ => 0) (0 : Int).toNat (iN (z_252))) (1 : Int).toNat (iN (p1))))) := by rw [hM_260, va_up_self]
                    have hx_262 := xExt.upd hq_245 hx_256 hM_260
                    have h_263 := hRk_227.ext hx_262
                    have h_264 := hIi_231.x5 (xExt.x5 hx_262)
                    refine lv_dup hC.1 hC.2.1 dX5_part_132 rfl ?_
                    refine x_const hC dX5_part_133 ?_
                    refine lv_iload_n hC.1 hC.2.1 dX5_part_134 rfl (lv_at hl 4 rfl) ?_
                    refine x_callS hC hw (lv_size hl) (c_X5_one l G (M := M_259) (p0 := p2) (by omega)) gX5_part_X5_one rfl dv_X5_one_s rfl (Nat.le_of_ble_eq_true rfl) (by rw [hRf]; decide) (by rw [hRl]; decide) (by omega) (by omega) dX5_part_135 (fun r9 M_265 H locs hq hw => ?_)
                    obtain ⟨z_266, rfl, hM9, hz_266a, hz_266b⟩ := hq
                    rw [hM9] at hw
                    show W p l e R s m args below meth c H locs _ _ _ (F0 m 138 ls [.int (iN (z_266)), .int (iN (2)), .ref q_244, .ref q_244, .ref a])
                    refine x_iast hC hw hA_261 (by omega) (by omega) (by omega) dX5_part_138 (fun H locs hw => ?_)
                    obtain ⟨M_267, hM_268⟩ : ∃ z, z = va_up M_259 q_244 (some (.inl (G.2 1, 5, .inl (upd (upd (upd (fun _ => 0) (0 : Int).toNat (iN (z_252))) (1 : Int).toNat (iN (p1))) (2 : Int).toNat (iN (z_266)))))) := ⟨_, rfl⟩
                    rw [← hM_268] at hw
                    have hA_269 : M_267 q_244 = some (.inl (G.2 1, 5, .inl (upd (upd (upd (fun _ => 0) (0 : Int).toNat (iN (z_252))) (1 : Int).toNat (iN (p1))) (2 : Int).toNat (iN (z_266))))) := by rw [hM_268, va_up_self]
                    have hx_270 := xExt.upd hq_245 hx_262 hM_268
                    have h_271 := hRk_227.ext hx_270
                    have h_272 := hIi_231.x5 (xExt.x5 hx_270)
                    refine lv_dup hC.1 hC.2.1 dX5_part_139 rfl ?_
                    refine x_const hC dX5_part_140 ?_
                    refine lv_iload hC.1 hC.2.1 dX5_part_141 (lv_at hl 5 rfl) ?_
                    refine x_iast hC hw hA_269 (by omega) (by omega) (by omega) dX5_part_143 (fun H locs hw => ?_)
                    obtain ⟨M_273, hM_274⟩ : ∃ z, z = va_up M_267 q_244 (some (.inl (G.2 1, 5, .inl (upd (upd (upd (upd (fun _ => 0) (0 : Int).toNat (iN (z_252))) (1 : Int).toNat (iN (p1))) (2 : Int).toNat (iN (z_266))) (3 : Int).toNat (iN (p3)))))) := ⟨_, rfl⟩
                    rw [← hM_274] at hw
                    have hA_275 : M_273 q_244 = some (.inl (G.2 1, 5, .inl (upd (upd (upd (upd (fun _ => 0) (0 : Int).toNat (iN (z_252))) (1 : Int).toNat (iN (p1))) (2 : Int).toNat (iN (z_266))) (3 : Int).toNat (iN (p3))))) := by rw [hM_274, va_up_self]
                    have hx_276 := xExt.upd hq_245 hx_270 hM_274
                    have h_277 := hRk_227.ext hx_276
                    have h_278 := hIi_231.x5 (xExt.x5 hx_276)
                    refine lv_dup hC.1 hC.2.1 dX5_part_144 rfl ?_
                    refine x_const hC dX5_part_145 ?_
                    refine lv_iload hC.1 hC.2.1 dX5_part_146 (lv_at hl 6 rfl) ?_
                    refine x_callS hC hw (lv_size hl) (c_X5_one l G (M := M_273) (p0 := p4) (by omega)) gX5_part_X5_one rfl dv_X5_one_s rfl (Nat.le_of_ble_eq_true rfl) (by rw [hRf]; decide) (by rw [hRl]; decide) (by omega) (by omega) dX5_part_148 (fun r9 M_279 H locs hq hw => ?_)
                    obtain ⟨z_280, rfl, hM9, hz_280a, hz_280b⟩ := hq
                    rw [hM9] at hw
                    show W p l e R s m args below meth c H locs _ _ _ (F0 m 151 ls [.int (iN (z_280)), .int (iN (4)), .ref q_244, .ref q_244, .ref a])
                    refine x_iast hC hw hA_275 (by omega) (by omega) (by omega) dX5_part_151 (fun H locs hw => ?_)
                    obtain ⟨M_281, hM_282⟩ : ∃ z, z = va_up M_273 q_244 (some (.inl (G.2 1, 5, .inl (upd (upd (upd (upd (upd (fun _ => 0) (0 : Int).toNat (iN (z_252))) (1 : Int).toNat (iN (p1))) (2 : Int).toNat (iN (z_266))) (3 : Int).toNat (iN (p3))) (4 : Int).toNat (iN (z_280)))))) := ⟨_, rfl⟩
                    rw [← hM_282] at hw
                    have hA_283 : M_281 q_244 = some (.inl (G.2 1, 5, .inl (upd (upd (upd (upd (upd (fun _ => 0) (0 : Int).toNat (iN (z_252))) (1 : Int).toNat (iN (p1))) (2 : Int).toNat (iN (z_266))) (3 : Int).toNat (iN (p3))) (4 : Int).toNat (iN (z_280))))) := by rw [hM_282, va_up_self]
                    have hx_284 := xExt.upd hq_245 hx_276 hM_282
                    have h_285 := hRk_227.ext hx_284
                    have h_286 := hIi_231.x5 (xExt.x5 hx_284)
                    have hI_287 : Its G M_281 q_244 (upd (upd (upd (upd (upd (fun _ => 0) (0 : Int).toNat (iN (z_252))) (1 : Int).toNat (iN (p1))) (2 : Int).toNat (iN (z_266))) (3 : Int).toNat (iN (p3))) (4 : Int).toNat (iN (z_280))) := ⟨hA_283, (show 0 ≤ (iN (z_252)).toInt ∧ (iN (z_252)).toInt ≤ 2 by rw [iN_toInt ⟨by omega, by omega⟩]; omega), (show (iN (p1)).toInt = -10000 ∨ (0 ≤ (iN (p1)).toInt ∧ (iN (p1)).toInt ≤ 99) by rw [iN_toInt ⟨by omega, by omega⟩]; omega), (show 0 ≤ (iN (z_266)).toInt ∧ (iN (z_266)).toInt ≤ 1 by rw [iN_toInt ⟨by omega, by omega⟩]; omega), (show (iN (p3)).toInt = -10000 ∨ (0 ≤ (iN (p3)).toInt ∧ (iN (p3)).toInt ≤ 99) by rw [iN_toInt ⟨by omega, by omega⟩]; omega), (show 0 ≤ (iN (z_280)).toInt ∧ (iN (z_280)).toInt ≤ 1 by rw [iN_toInt ⟨by omega, by omega⟩]; omega)⟩
                    refine x_callV hC hw (lv_size hl) (c_X5_open l G h_285 hI_287 (j0 := (z_157).toNat) (by omega) (hz_157Y (by omega))) gX5_part_X5_open rfl dv_X5_open h_285.1.1 rfl rfl (Nat.le_of_ble_eq_true rfl) (by rw [hRf]; decide) (by rw [hRl]; decide) (by omega) (by omega) dX5_part_152 (fun r9 M_288 H locs hq hw => ?_)
                    obtain ⟨z_289, rfl, hz_289a, fyk_290, hRk_290⟩ := hq
                    show W p l e R s m args below meth c H locs _ _ _ (F0 m 155 ls [.int (iN (z_289))])
                    exact x_iret hC hw dX5_part_155 (by omega) (by omega) ⟨z_289, rfl, by omega, ⟨_, _, _, _, _, _, _, _, _, _, _, _, _, _, _, _, _, _, _, _, hRk_290⟩⟩
                  · refine x_sipush hC dX5_part_113 (by decide +kernel) ?_
                    exact x_iret hC hw dX5_part_116 (by omega) (by omega) ⟨(-20000), rfl, by omega, ⟨_, _, _, _, _, _, _, _, _, _, _, _, _, _, _, _, _, _, _, _, hRk_227⟩⟩
            · refine x_const hC dX5_part_64 ?_
              exact x_iret hC hw dX5_part_65 (by omega) (by omega) ⟨0, rfl, by omega, ⟨_, _, _, _, _, _, _, _, _, _, _, _, _, _, _, _, _, _, _, _, hRk_227⟩⟩
      · refine x_const hC dX5_part_29 ?_
        refine lv_goto (tgt := 34) hC.1 hC.2.1 dX5_part_30 (by decide) ?_
        refine x_const hC dX5_part_34 ?_
        refine x_callV hC hw (lv_size hl) (c_X5_refuse l G hRk_5 (p0 := 1) (by omega) (p1 := 2) (by omega) (by omega)) gX5_part_X5_refuse rfl dv_X5_refuse hRk_5.1.1 rfl rfl (Nat.le_of_ble_eq_true rfl) (by rw [hRf]; decide) (by rw [hRl]; decide) (by omega) (by omega) dX5_part_35 (fun r9 M_291 H locs hq hw => ?_)
        obtain ⟨z_292, rfl, hz_292a, hz_292b, thk_293, hRk_293⟩ := hq
        show W p l e R s m args below meth c H locs _ _ _ (F0 m 38 ls [.int (iN (z_292))])
        refine x_if_ne (tgt := 64) hC ⟨by omega, by omega⟩ dX5_part_38 (by decide) (fun c_294 => ?_) (fun c_294 => ?_)
        · refine x_const hC dX5_part_64 ?_
          exact x_iret hC hw dX5_part_65 (by omega) (by omega) ⟨0, rfl, by omega, ⟨_, _, _, _, _, _, _, _, _, _, _, _, _, _, _, _, _, _, _, _, hRk_293⟩⟩
        · refine lv_aload_n hC.1 hC.2.1 dX5_part_41 rfl (lv_at hl 0 rfl) ?_
          refine lv_aload_n hC.1 hC.2.1 dX5_part_42 rfl (lv_at hl 0 rfl) ?_
          refine x_callV hC hw (lv_size hl) (c_X5_free l G hRk_293) gX5_part_X5_free rfl dv_X5_free hRk_293.1.1 rfl rfl (Nat.le_of_ble_eq_true rfl) (by rw [hRf]; decide) (by rw [hRl]; decide) (by omega) (by omega) dX5_part_43 (fun r9 M_295 H locs hq hw => ?_)
          obtain ⟨z_296, rfl, hM9, hz_296a, hz_296N, hz_296Y⟩ := hq
          rw [hM9] at hw
          show W p l e R s m args below meth c H locs _ _ _ (F0 m 46 ls [.int (iN (z_296)), .ref a])
          refine x_sipush hC dX5_part_46 (by decide +kernel) ?_
          refine x_icmp_ne (tgt := 56) hC ⟨by omega, by omega⟩ ⟨by omega, by omega⟩ dX5_part_49 (by decide) (fun c_297 => ?_) (fun c_297 => ?_)
          · refine x_const hC dX5_part_56 ?_
            refine x_const hC dX5_part_57 ?_
            refine x_callV hC hw (lv_size hl) (c_X5_refuse l G hRk_293 (p0 := 0) (by omega) (p1 := 3) (by omega) (by omega)) gX5_part_X5_refuse rfl dv_X5_refuse hRk_293.1.1 rfl rfl (Nat.le_of_ble_eq_true rfl) (by rw [hRf]; decide) (by rw [hRl]; decide) (by omega) (by omega) dX5_part_58 (fun r9 M_298 H locs hq hw => ?_)
            obtain ⟨z_299, rfl, hz_299a, hz_299b, thk_300, hRk_300⟩ := hq
            show W p l e R s m args below meth c H locs _ _ _ (F0 m 61 ls [.int (iN (z_299))])
            refine x_if_eq (tgt := 66) hC ⟨by omega, by omega⟩ dX5_part_61 (by decide) (fun c_301 => ?_) (fun c_301 => ?_)
            · refine lv_aload_n hC.1 hC.2.1 dX5_part_66 rfl (lv_at hl 0 rfl) ?_
              refine x_get hC hw hRk_300.1.1 rfl hinX5 5 (by decide) (by decide +kernel) rfl dX5_part_67 ?_
              refine lv_iload_n hC.1 hC.2.1 dX5_part_70 rfl (lv_at hl 1 rfl) ?_
              refine x_ald4 hC hw hRk_300.1.2.2.2.2.1 (by omega) (by omega) (by omega) dX5_part_71 ?_
              obtain ⟨y_302, hy_303⟩ := x_some (hz_2n (by omega))
              rw [hy_303]
              obtain ⟨fi_304, hIi_304⟩ := (hRk_300.vw (show (p0).toNat < 4 by omega) hy_303)
              obtain ⟨hvt_305, hat_305, hbt_305, hct_305, hdt_305, het_305⟩ := id hIi_304
              show W p l e R s m args below meth c _ _ _ _ _ (F0 m 72 ls [.ref y_302])
              refine lv_astore (lv' := [(6, .ref y_302), (0, .ref a), (1, .int (iN (p0))), (2, .int (iN (p1))), (3, .int (iN (p2))), (4, .int (iN (p3))), (5, .int (iN (p4)))]) hC.1 hC.2.1 dX5_part_72 hl (by decide) rfl (fun ls hl => ?_)
              refine lv_aload_n hC.1 hC.2.1 dX5_part_74 rfl (lv_at hl 1 rfl) ?_
              refine lv_aload hC.1 hC.2.1 dX5_part_75 (lv_at hl 0 rfl) ?_
              refine lv_iload_n hC.1 hC.2.1 dX5_part_77 rfl (lv_at hl 3 rfl) ?_
              refine x_callV hC hw (lv_size hl) (c_X5_isWithin l G hRk_300 hIi_304 (p0 := p1) (by omega) (by omega)) gX5_part_X5_isWithin rfl dv_X5_isWithin hRk_300.1.1 rfl rfl (Nat.le_of_ble_eq_true rfl) (by rw [hRf]; decide) (by rw [hRl]; decide) (by omega) (by omega) dX5_part_78 (fun r9 M_306 H locs hq hw => ?_)
              obtain ⟨z_307, rfl, hM9, hz_307a⟩ := hq
              rw [hM9] at hw
              show W p l e R s m args below meth c H locs _ _ _ (F0 m 81 ls [.int (iN (z_307))])
              refine x_if_eq (tgt := 113) hC ⟨by omega, by omega⟩ dX5_part_81 (by decide) (fun c_308 => ?_) (fun c_308 => ?_)
              · refine x_sipush hC dX5_part_113 (by decide +kernel) ?_
                exact x_iret hC hw dX5_part_116 (by omega) (by omega) ⟨(-20000), rfl, by omega, ⟨_, _, _, _, _, _, _, _, _, _, _, _, _, _, _, _, _, _, _, _, hRk_300⟩⟩
              · refine lv_aload_n hC.1 hC.2.1 dX5_part_84 rfl (lv_at hl 1 rfl) ?_
                refine lv_aload hC.1 hC.2.1 dX5_part_85 (lv_at hl 0 rfl) ?_
                refine lv_iload hC.1 hC.2.1 dX5_part_87 (lv_at hl 5 rfl) ?_
                refine x_callV hC hw (lv_size hl) (c_X5_isWithin l G hRk_300 hIi_304 (p0 := p3) (by omega) (by omega)) gX5_part_X5_isWithin rfl dv_X5_isWithin hRk_300.1.1 rfl rfl (Nat.le_of_ble_eq_true rfl) (by rw [hRf]; decide) (by rw [hRl]; decide) (by omega) (by omega) dX5_part_89 (fun r9 M_309 H locs hq hw => ?_)
                obtain ⟨z_310, rfl, hM9, hz_310a⟩ := hq
                rw [hM9] at hw
                show W p l e R s m args below meth c H locs _ _ _ (F0 m 92 ls [.int (iN (z_310))])
                refine x_if_eq (tgt := 113) hC ⟨by omega, by omega⟩ dX5_part_92 (by decide) (fun c_311 => ?_) (fun c_311 => ?_)
                · refine x_sipush hC dX5_part_113 (by decide +kernel) ?_
                  exact x_iret hC hw dX5_part_116 (by omega) (by omega) ⟨(-20000), rfl, by omega, ⟨_, _, _, _, _, _, _, _, _, _, _, _, _, _, _, _, _, _, _, _, hRk_300⟩⟩
                · refine lv_aload_n hC.1 hC.2.1 dX5_part_95 rfl (lv_at hl 1 rfl) ?_
                  refine lv_aload hC.1 hC.2.1 dX5_part_96 (lv_at hl 0 rfl) ?_
                  refine lv_iload_n hC.1 hC.2.1 dX5_part_98 rfl (lv_at hl 3 rfl) ?_
                  refine x_callV hC hw (lv_size hl) (c_X5_weight l G hRk_300 hIi_304 (p0 := p1) (by omega) (by omega)) gX5_part_X5_weight rfl dv_X5_weight hRk_300.1.1 rfl rfl (Nat.le_of_ble_eq_true rfl) (by rw [hRf]; decide) (by rw [hRl]; decide) (by omega) (by omega) dX5_part_99 (fun r9 M_312 H locs hq hw => ?_)
                  obtain ⟨z_313, rfl, hM9, hz_313a, hz_313b⟩ := hq
                  rw [hM9] at hw
                  show W p l e R s m args below meth c H locs _ _ _ (F0 m 102 ls [.int (iN (z_313))])
                  refine lv_aload_n hC.1 hC.2.1 dX5_part_102 rfl (lv_at hl 1 rfl) ?_
                  refine lv_aload hC.1 hC.2.1 dX5_part_103 (lv_at hl 0 rfl) ?_
                  refine lv_iload hC.1 hC.2.1 dX5_part_105 (lv_at hl 5 rfl) ?_
                  refine x_callV hC hw (lv_size hl) (c_X5_weight l G hRk_300 hIi_304 (p0 := p3) (by omega) (by omega)) gX5_part_X5_weight rfl dv_X5_weight hRk_300.1.1 rfl rfl (Nat.le_of_ble_eq_true rfl) (by rw [hRf]; decide) (by rw [hRl]; decide) (by omega) (by omega) dX5_part_107 (fun r9 M_314 H locs hq hw => ?_)
                  obtain ⟨z_315, rfl, hM9, hz_315a, hz_315b⟩ := hq
                  rw [hM9] at hw
                  show W p l e R s m args below meth c H locs _ _ _ (F0 m 110 ls [.int (iN (z_315)), .int (iN (z_313))])
                  refine x_icmp_le (tgt := 117) hC ⟨by omega, by omega⟩ ⟨by omega, by omega⟩ dX5_part_110 (by decide) (fun c_316 => ?_) (fun c_316 => ?_)
                  · refine lv_aload_n hC.1 hC.2.1 dX5_part_117 rfl (lv_at hl 1 rfl) ?_
                    refine x_const hC dX5_part_118 ?_
                    refine x_newI hC hw (by decide +kernel) 5 rfl (by decide) (by omega) (by omega) dX5_part_119 (fun q_317 H hq_318 hw => ?_)
                    obtain ⟨M_319, hM_320⟩ : ∃ z, z = va_up M_298 q_317 (some (.inl (G.2 1, 5, .inl (fun _ => 0)))) := ⟨_, rfl⟩
                    rw [← hM_320] at hw
                    have hx_321 : xExt M_298 M_319 := by rw [hM_320]; exact xExt.new hq_318
                    have hA_322 : M_319 q_317 = some (.inl (G.2 1, 5, .inl (fun _ => 0))) := by rw [hM_320, va_up_self]
                    have h_323 := hRk_300.ext hx_321
                    have h_324 := hIi_304.x5 (xExt.x5 hx_321)
                    refine lv_dup hC.1 hC.2.1 dX5_part_121 rfl ?_
                    refine x_const hC dX5_part_122 ?_
                    refine lv_aload hC.1 hC.2.1 dX5_part_123 (lv_at hl 0 rfl) ?_
                    refine x_const hC dX5_part_125 ?_
                    refine x_iald hC hw h_324.1 (by omega) (by omega) (by omega) dX5_part_126 ?_
                    obtain ⟨z_325, hz_325⟩ : ∃ z : Int, z = (fi_304 (0 : Int).toNat).toInt := ⟨_, rfl⟩
                    rw [← hz_325]
                    have hz_325' : z_325 = (fi_304 0).toInt := hz_325
                    have hrz_325 : -2147483648 ≤ z_325 ∧ z_325 ≤ 2147483647 := by rw [hz_325]; exact iN_rng _
                    refine x_iast hC hw hA_322 (by omega) (by omega) (by omega) dX5_part_127 (fun H locs hw => ?_)
                    obtain ⟨M_326, hM_327⟩ : ∃ z, z = va_up M_319 q_317 (some (.inl (G.2 1, 5, .inl (upd (fun _ => 0) (0 : Int).toNat (iN (z_325)))))) := ⟨_, rfl⟩
                    rw [← hM_327] at hw
                    have hA_328 : M_326 q_317 = some (.inl (G.2 1, 5, .inl (upd (fun _ => 0) (0 : Int).toNat (iN (z_325))))) := by rw [hM_327, va_up_self]
                    have hx_329 := xExt.upd hq_318 hx_321 hM_327
                    have h_330 := hRk_300.ext hx_329
                    have h_331 := hIi_304.x5 (xExt.x5 hx_329)
                    refine lv_dup hC.1 hC.2.1 dX5_part_128 rfl ?_
                    refine x_const hC dX5_part_129 ?_
                    refine lv_iload_n hC.1 hC.2.1 dX5_part_130 rfl (lv_at hl 3 rfl) ?_
                    refine x_iast hC hw hA_328 (by omega) (by omega) (by omega) dX5_part_131 (fun H locs hw => ?_)
                    obtain ⟨M_332, hM_333⟩ : ∃ z, z = va_up M_326 q_317 (some (.inl (G.2 1, 5, .inl (upd (upd (fun _ => 0) (0 : Int).toNat (iN (z_325))) (1 : Int).toNat (iN (p1)))))) := ⟨_, rfl⟩
                    rw [← hM_333] at hw
                    have hA_334 : M_332 q_317 = some (.inl (G.2 1, 5, .inl (upd (upd (fun _ => 0) (0 : Int).toNat (iN (z_325))) (1 : Int).toNat (iN (p1))))) := by rw [hM_333, va_up_self]
                    have hx_335 := xExt.upd hq_318 hx_329 hM_333
                    have h_336 := hRk_300.ext hx_335
                    have h_337 := hIi_304.x5 (xExt.x5 hx_335)
                    refine lv_dup hC.1 hC.2.1 dX5_part_132 rfl ?_
                    refine x_const hC dX5_part_133 ?_
                    refine lv_iload_n hC.1 hC.2.1 dX5_part_134 rfl (lv_at hl 4 rfl) ?_
                    refine x_callS hC hw (lv_size hl) (c_X5_one l G (M := M_332) (p0 := p2) (by omega)) gX5_part_X5_one rfl dv_X5_one_s rfl (Nat.le_of_ble_eq_true rfl) (by rw [hRf]; decide) (by rw [hRl]; decide) (by omega) (by omega) dX5_part_135 (fun r9 M_338 H locs hq hw => ?_)
                    obtain ⟨z_339, rfl, hM9, hz_339a, hz_339b⟩ := hq
                    rw [hM9] at hw
                    show W p l e R s m args below meth c H locs _ _ _ (F0 m 138 ls [.int (iN (z_339)), .int (iN (2)), .ref q_317, .ref q_317, .ref a])
                    refine x_iast hC hw hA_334 (by omega) (by omega) (by omega) dX5_part_138 (fun H locs hw => ?_)
                    obtain ⟨M_340, hM_341⟩ : ∃ z, z = va_up M_332 q_317 (some (.inl (G.2 1, 5, .inl (upd (upd (upd (fun _ => 0) (0 : Int).toNat (iN (z_325))) (1 : Int).toNat (iN (p1))) (2 : Int).toNat (iN (z_339)))))) := ⟨_, rfl⟩
                    rw [← hM_341] at hw
                    have hA_342 : M_340 q_317 = some (.inl (G.2 1, 5, .inl (upd (upd (upd (fun _ => 0) (0 : Int).toNat (iN (z_325))) (1 : Int).toNat (iN (p1))) (2 : Int).toNat (iN (z_339))))) := by rw [hM_341, va_up_self]
                    have hx_343 := xExt.upd hq_318 hx_335 hM_341
                    have h_344 := hRk_300.ext hx_343
                    have h_345 := hIi_304.x5 (xExt.x5 hx_343)
                    refine lv_dup hC.1 hC.2.1 dX5_part_139 rfl ?_
                    refine x_const hC dX5_part_140 ?_
                    refine lv_iload hC.1 hC.2.1 dX5_part_141 (lv_at hl 5 rfl) ?_
                    refine x_iast hC hw hA_342 (by omega) (by omega) (by omega) dX5_part_143 (fun H locs hw => ?_)
                    obtain ⟨M_346, hM_347⟩ : ∃ z, z = va_up M_340 q_317 (some (.inl (G.2 1, 5, .inl (upd (upd (upd (upd (fun _ => 0) (0 : Int).toNat (iN (z_325))) (1 : Int).toNat (iN (p1))) (2 : Int).toNat (iN (z_339))) (3 : Int).toNat (iN (p3)))))) := ⟨_, rfl⟩
                    rw [← hM_347] at hw
                    have hA_348 : M_346 q_317 = some (.inl (G.2 1, 5, .inl (upd (upd (upd (upd (fun _ => 0) (0 : Int).toNat (iN (z_325))) (1 : Int).toNat (iN (p1))) (2 : Int).toNat (iN (z_339))) (3 : Int).toNat (iN (p3))))) := by rw [hM_347, va_up_self]
                    have hx_349 := xExt.upd hq_318 hx_343 hM_347
                    have h_350 := hRk_300.ext hx_349
                    have h_351 := hIi_304.x5 (xExt.x5 hx_349)
                    refine lv_dup hC.1 hC.2.1 dX5_part_144 rfl ?_
                    refine x_const hC dX5_part_145 ?_
                    refine lv_iload hC.1 hC.2.1 dX5_part_146 (lv_at hl 6 rfl) ?_
                    refine x_callS hC hw (lv_size hl) (c_X5_one l G (M := M_346) (p0 := p4) (by omega)) gX5_part_X5_one rfl dv_X5_one_s rfl (Nat.le_of_ble_eq_true rfl) (by rw [hRf]; decide) (by rw [hRl]; decide) (by omega) (by omega) dX5_part_148 (fun r9 M_352 H locs hq hw => ?_)
                    obtain ⟨z_353, rfl, hM9, hz_353a, hz_353b⟩ := hq
                    rw [hM9] at hw
                    show W p l e R s m args below meth c H locs _ _ _ (F0 m 151 ls [.int (iN (z_353)), .int (iN (4)), .ref q_317, .ref q_317, .ref a])
                    refine x_iast hC hw hA_348 (by omega) (by omega) (by omega) dX5_part_151 (fun H locs hw => ?_)
                    obtain ⟨M_354, hM_355⟩ : ∃ z, z = va_up M_346 q_317 (some (.inl (G.2 1, 5, .inl (upd (upd (upd (upd (upd (fun _ => 0) (0 : Int).toNat (iN (z_325))) (1 : Int).toNat (iN (p1))) (2 : Int).toNat (iN (z_339))) (3 : Int).toNat (iN (p3))) (4 : Int).toNat (iN (z_353)))))) := ⟨_, rfl⟩
                    rw [← hM_355] at hw
                    have hA_356 : M_354 q_317 = some (.inl (G.2 1, 5, .inl (upd (upd (upd (upd (upd (fun _ => 0) (0 : Int).toNat (iN (z_325))) (1 : Int).toNat (iN (p1))) (2 : Int).toNat (iN (z_339))) (3 : Int).toNat (iN (p3))) (4 : Int).toNat (iN (z_353))))) := by rw [hM_355, va_up_self]
                    have hx_357 := xExt.upd hq_318 hx_349 hM_355
                    have h_358 := hRk_300.ext hx_357
                    have h_359 := hIi_304.x5 (xExt.x5 hx_357)
                    have hI_360 : Its G M_354 q_317 (upd (upd (upd (upd (upd (fun _ => 0) (0 : Int).toNat (iN (z_325))) (1 : Int).toNat (iN (p1))) (2 : Int).toNat (iN (z_339))) (3 : Int).toNat (iN (p3))) (4 : Int).toNat (iN (z_353))) := ⟨hA_356, (show 0 ≤ (iN (z_325)).toInt ∧ (iN (z_325)).toInt ≤ 2 by rw [iN_toInt ⟨by omega, by omega⟩]; omega), (show (iN (p1)).toInt = -10000 ∨ (0 ≤ (iN (p1)).toInt ∧ (iN (p1)).toInt ≤ 99) by rw [iN_toInt ⟨by omega, by omega⟩]; omega), (show 0 ≤ (iN (z_339)).toInt ∧ (iN (z_339)).toInt ≤ 1 by rw [iN_toInt ⟨by omega, by omega⟩]; omega), (show (iN (p3)).toInt = -10000 ∨ (0 ≤ (iN (p3)).toInt ∧ (iN (p3)).toInt ≤ 99) by rw [iN_toInt ⟨by omega, by omega⟩]; omega), (show 0 ≤ (iN (z_353)).toInt ∧ (iN (z_353)).toInt ≤ 1 by rw [iN_toInt ⟨by omega, by omega⟩]; omega)⟩
                    refine x_callV hC hw (lv_size hl) (c_X5_open l G h_358 hI_360 (j0 := (z_296).toNat) (by omega) (hz_296Y (by omega))) gX5_part_X5_open rfl dv_X5_open h_358.1.1 rfl rfl (Nat.le_of_ble_eq_true rfl) (by rw [hRf]; decide) (by rw [hRl]; decide) (by omega) (by omega) dX5_part_152 (fun r9 M_361 H locs hq hw => ?_)
                    obtain ⟨z_362, rfl, hz_362a, fyk_363, hRk_363⟩ := hq
                    show W p l e R s m args below meth c H locs _ _ _ (F0 m 155 ls [.int (iN (z_362))])
                    exact x_iret hC hw dX5_part_155 (by omega) (by omega) ⟨z_362, rfl, by omega, ⟨_, _, _, _, _, _, _, _, _, _, _, _, _, _, _, _, _, _, _, _, hRk_363⟩⟩
                  · refine x_sipush hC dX5_part_113 (by decide +kernel) ?_
                    exact x_iret hC hw dX5_part_116 (by omega) (by omega) ⟨(-20000), rfl, by omega, ⟨_, _, _, _, _, _, _, _, _, _, _, _, _, _, _, _, _, _, _, _, hRk_300⟩⟩
            · refine x_const hC dX5_part_64 ?_
              exact x_iret hC hw dX5_part_65 (by omega) (by omega) ⟨0, rfl, by omega, ⟨_, _, _, _, _, _, _, _, _, _, _, _, _, _, _, _, _, _, _, _, hRk_300⟩⟩
          · refine x_const hC dX5_part_52 ?_
            refine lv_goto (tgt := 57) hC.1 hC.2.1 dX5_part_53 (by decide) ?_
            refine x_const hC dX5_part_57 ?_
            refine x_callV hC hw (lv_size hl) (c_X5_refuse l G hRk_293 (p0 := 1) (by omega) (p1 := 3) (by omega) (by omega)) gX5_part_X5_refuse rfl dv_X5_refuse hRk_293.1.1 rfl rfl (Nat.le_of_ble_eq_true rfl) (by rw [hRf]; decide) (by rw [hRl]; decide) (by omega) (by omega) dX5_part_58 (fun r9 M_364 H locs hq hw => ?_)
            obtain ⟨z_365, rfl, hz_365a, hz_365b, thk_366, hRk_366⟩ := hq
            show W p l e R s m args below meth c H locs _ _ _ (F0 m 61 ls [.int (iN (z_365))])
            refine x_if_eq (tgt := 66) hC ⟨by omega, by omega⟩ dX5_part_61 (by decide) (fun c_367 => ?_) (fun c_367 => ?_)
            · refine lv_aload_n hC.1 hC.2.1 dX5_part_66 rfl (lv_at hl 0 rfl) ?_
              refine x_get hC hw hRk_366.1.1 rfl hinX5 5 (by decide) (by decide +kernel) rfl dX5_part_67 ?_
              refine lv_iload_n hC.1 hC.2.1 dX5_part_70 rfl (lv_at hl 1 rfl) ?_
              refine x_ald4 hC hw hRk_366.1.2.2.2.2.1 (by omega) (by omega) (by omega) dX5_part_71 ?_
              obtain ⟨y_368, hy_369⟩ := x_some (hz_2n (by omega))
              rw [hy_369]
              obtain ⟨fi_370, hIi_370⟩ := (hRk_366.vw (show (p0).toNat < 4 by omega) hy_369)
              obtain ⟨hvt_371, hat_371, hbt_371, hct_371, hdt_371, het_371⟩ := id hIi_370
              show W p l e R s m args below meth c _ _ _ _ _ (F0 m 72 ls [.ref y_368])
              refine lv_astore (lv' := [(6, .ref y_368), (0, .ref a), (1, .int (iN (p0))), (2, .int (iN (p1))), (3, .int (iN (p2))), (4, .int (iN (p3))), (5, .int (iN (p4)))]) hC.1 hC.2.1 dX5_part_72 hl (by decide) rfl (fun ls hl => ?_)
              refine lv_aload_n hC.1 hC.2.1 dX5_part_74 rfl (lv_at hl 1 rfl) ?_
              refine lv_aload hC.1 hC.2.1 dX5_part_75 (lv_at hl 0 rfl) ?_
              refine lv_iload_n hC.1 hC.2.1 dX5_part_77 rfl (lv_at hl 3 rfl) ?_
              refine x_callV hC hw (lv_size hl) (c_X5_isWithin l G hRk_366 hIi_370 (p0 := p1) (by omega) (by omega)) gX5_part_X5_isWithin rfl dv_X5_isWithin hRk_366.1.1 rfl rfl (Nat.le_of_ble_eq_true rfl) (by rw [hRf]; decide) (by rw [hRl]; decide) (by omega) (by omega) dX5_part_78 (fun r9 M_372 H locs hq hw => ?_)
              obtain ⟨z_373, rfl, hM9, hz_373a⟩ := hq
              rw [hM9] at hw
              show W p l e R s m args below meth c H locs _ _ _ (F0 m 81 ls [.int (iN (z_373))])
              refine x_if_eq (tgt := 113) hC ⟨by omega, by omega⟩ dX5_part_81 (by decide) (fun c_374 => ?_) (fun c_374 => ?_)
              · refine x_sipush hC dX5_part_113 (by decide +kernel) ?_
                exact x_iret hC hw dX5_part_116 (by omega) (by omega) ⟨(-20000), rfl, by omega, ⟨_, _, _, _, _, _, _, _, _, _, _, _, _, _, _, _, _, _, _, _, hRk_366⟩⟩
              · refine lv_aload_n hC.1 hC.2.1 dX5_part_84 rfl (lv_at hl 1 rfl) ?_
                refine lv_aload hC.1 hC.2.1 dX5_part_85 (lv_at hl 0 rfl) ?_
                refine lv_iload hC.1 hC.2.1 dX5_part_87 (lv_at hl 5 rfl) ?_
                refine x_callV hC hw (lv_size hl) (c_X5_isWithin l G hRk_366 hIi_370 (p0 := p3) (by omega) (by omega)) gX5_part_X5_isWithin rfl dv_X5_isWithin hRk_366.1.1 rfl rfl (Nat.le_of_ble_eq_true rfl) (by rw [hRf]; decide) (by rw [hRl]; decide) (by omega) (by omega) dX5_part_89 (fun r9 M_375 H locs hq hw => ?_)
                obtain ⟨z_376, rfl, hM9, hz_376a⟩ := hq
                rw [hM9] at hw
                show W p l e R s m args below meth c H locs _ _ _ (F0 m 92 ls [.int (iN (z_376))])
                refine x_if_eq (tgt := 113) hC ⟨by omega, by omega⟩ dX5_part_92 (by decide) (fun c_377 => ?_) (fun c_377 => ?_)
                · refine x_sipush hC dX5_part_113 (by decide +kernel) ?_
                  exact x_iret hC hw dX5_part_116 (by omega) (by omega) ⟨(-20000), rfl, by omega, ⟨_, _, _, _, _, _, _, _, _, _, _, _, _, _, _, _, _, _, _, _, hRk_366⟩⟩
                · refine lv_aload_n hC.1 hC.2.1 dX5_part_95 rfl (lv_at hl 1 rfl) ?_
                  refine lv_aload hC.1 hC.2.1 dX5_part_96 (lv_at hl 0 rfl) ?_
                  refine lv_iload_n hC.1 hC.2.1 dX5_part_98 rfl (lv_at hl 3 rfl) ?_
                  refine x_callV hC hw (lv_size hl) (c_X5_weight l G hRk_366 hIi_370 (p0 := p1) (by omega) (by omega)) gX5_part_X5_weight rfl dv_X5_weight hRk_366.1.1 rfl rfl (Nat.le_of_ble_eq_true rfl) (by rw [hRf]; decide) (by rw [hRl]; decide) (by omega) (by omega) dX5_part_99 (fun r9 M_378 H locs hq hw => ?_)
                  obtain ⟨z_379, rfl, hM9, hz_379a, hz_379b⟩ := hq
                  rw [hM9] at hw
                  show W p l e R s m args below meth c H locs _ _ _ (F0 m 102 ls [.int (iN (z_379))])
                  refine lv_aload_n hC.1 hC.2.1 dX5_part_102 rfl (lv_at hl 1 rfl) ?_
                  refine lv_aload hC.1 hC.2.1 dX5_part_103 (lv_at hl 0 rfl) ?_
                  refine lv_iload hC.1 hC.2.1 dX5_part_105 (lv_at hl 5 rfl) ?_
                  refine x_callV hC hw (lv_size hl) (c_X5_weight l G hRk_366 hIi_370 (p0 := p3) (by omega) (by omega)) gX5_part_X5_weight rfl dv_X5_weight hRk_366.1.1 rfl rfl (Nat.le_of_ble_eq_true rfl) (by rw [hRf]; decide) (by rw [hRl]; decide) (by omega) (by omega) dX5_part_107 (fun r9 M_380 H locs hq hw => ?_)
                  obtain ⟨z_381, rfl, hM9, hz_381a, hz_381b⟩ := hq
                  rw [hM9] at hw
                  show W p l e R s m args below meth c H locs _ _ _ (F0 m 110 ls [.int (iN (z_381)), .int (iN (z_379))])
                  refine x_icmp_le (tgt := 117) hC ⟨by omega, by omega⟩ ⟨by omega, by omega⟩ dX5_part_110 (by decide) (fun c_382 => ?_) (fun c_382 => ?_)
                  · refine lv_aload_n hC.1 hC.2.1 dX5_part_117 rfl (lv_at hl 1 rfl) ?_
                    refine x_const hC dX5_part_118 ?_
                    refine x_newI hC hw (by decide +kernel) 5 rfl (by decide) (by omega) (by omega) dX5_part_119 (fun q_383 H hq_384 hw => ?_)
                    obtain ⟨M_385, hM_386⟩ : ∃ z, z = va_up M_364 q_383 (some (.inl (G.2 1, 5, .inl (fun _ => 0)))) := ⟨_, rfl⟩
                    rw [← hM_386] at hw
                    have hx_387 : xExt M_364 M_385 := by rw [hM_386]; exact xExt.new hq_384
                    have hA_388 : M_385 q_383 = some (.inl (G.2 1, 5, .inl (fun _ => 0))) := by rw [hM_386, va_up_self]
                    have h_389 := hRk_366.ext hx_387
                    have h_390 := hIi_370.x5 (xExt.x5 hx_387)
                    refine lv_dup hC.1 hC.2.1 dX5_part_121 rfl ?_
                    refine x_const hC dX5_part_122 ?_
                    refine lv_aload hC.1 hC.2.1 dX5_part_123 (lv_at hl 0 rfl) ?_
                    refine x_const hC dX5_part_125 ?_
                    refine x_iald hC hw h_390.1 (by omega) (by omega) (by omega) dX5_part_126 ?_
                    obtain ⟨z_391, hz_391⟩ : ∃ z : Int, z = (fi_370 (0 : Int).toNat).toInt := ⟨_, rfl⟩
                    rw [← hz_391]
                    have hz_391' : z_391 = (fi_370 0).toInt := hz_391
                    have hrz_391 : -2147483648 ≤ z_391 ∧ z_391 ≤ 2147483647 := by rw [hz_391]; exact iN_rng _
                    refine x_iast hC hw hA_388 (by omega) (by omega) (by omega) dX5_part_127 (fun H locs hw => ?_)
                    obtain ⟨M_392, hM_393⟩ : ∃ z, z = va_up M_385 q_383 (some (.inl (G.2 1, 5, .inl (upd (fun _ => 0) (0 : Int).toNat (iN (z_391)))))) := ⟨_, rfl⟩
                    rw [← hM_393] at hw
                    have hA_394 : M_392 q_383 = some (.inl (G.2 1, 5, .inl (upd (fun _ => 0) (0 : Int).toNat (iN (z_391))))) := by rw [hM_393, va_up_self]
                    have hx_395 := xExt.upd hq_384 hx_387 hM_393
                    have h_396 := hRk_366.ext hx_395
                    have h_397 := hIi_370.x5 (xExt.x5 hx_395)
                    refine lv_dup hC.1 hC.2.1 dX5_part_128 rfl ?_
                    refine x_const hC dX5_part_129 ?_
                    refine lv_iload_n hC.1 hC.2.1 dX5_part_130 rfl (lv_at hl 3 rfl) ?_
                    refine x_iast hC hw hA_394 (by omega) (by omega) (by omega) dX5_part_131 (fun H locs hw => ?_)
                    obtain ⟨M_398, hM_399⟩ : ∃ z, z = va_up M_392 q_383 (some (.inl (G.2 1, 5, .inl (upd (upd (fun _ => 0) (0 : Int).toNat (iN (z_391))) (1 : Int).toNat (iN (p1)))))) := ⟨_, rfl⟩
                    rw [← hM_399] at hw
                    have hA_400 : M_398 q_383 = some (.inl (G.2 1, 5, .inl (upd (upd (fun _ => 0) (0 : Int).toNat (iN (z_391))) (1 : Int).toNat (iN (p1))))) := by rw [hM_399, va_up_self]
                    have hx_401 := xExt.upd hq_384 hx_395 hM_399
                    have h_402 := hRk_366.ext hx_401
                    have h_403 := hIi_370.x5 (xExt.x5 hx_401)
                    refine lv_dup hC.1 hC.2.1 dX5_part_132 rfl ?_
                    refine x_const hC dX5_part_133 ?_
                    refine lv_iload_n hC.1 hC.2.1 dX5_part_134 rfl (lv_at hl 4 rfl) ?_
                    refine x_callS hC hw (lv_size hl) (c_X5_one l G (M := M_398) (p0 := p2) (by omega)) gX5_part_X5_one rfl dv_X5_one_s rfl (Nat.le_of_ble_eq_true rfl) (by rw [hRf]; decide) (by rw [hRl]; decide) (by omega) (by omega) dX5_part_135 (fun r9 M_404 H locs hq hw => ?_)
                    obtain ⟨z_405, rfl, hM9, hz_405a, hz_405b⟩ := hq
                    rw [hM9] at hw
                    show W p l e R s m args below meth c H locs _ _ _ (F0 m 138 ls [.int (iN (z_405)), .int (iN (2)), .ref q_383, .ref q_383, .ref a])
                    refine x_iast hC hw hA_400 (by omega) (by omega) (by omega) dX5_part_138 (fun H locs hw => ?_)
                    obtain ⟨M_406, hM_407⟩ : ∃ z, z = va_up M_398 q_383 (some (.inl (G.2 1, 5, .inl (upd (upd (upd (fun _ => 0) (0 : Int).toNat (iN (z_391))) (1 : Int).toNat (iN (p1))) (2 : Int).toNat (iN (z_405)))))) := ⟨_, rfl⟩
                    rw [← hM_407] at hw
                    have hA_408 : M_406 q_383 = some (.inl (G.2 1, 5, .inl (upd (upd (upd (fun _ => 0) (0 : Int).toNat (iN (z_391))) (1 : Int).toNat (iN (p1))) (2 : Int).toNat (iN (z_405))))) := by rw [hM_407, va_up_self]
                    have hx_409 := xExt.upd hq_384 hx_401 hM_407
                    have h_410 := hRk_366.ext hx_409
                    have h_411 := hIi_370.x5 (xExt.x5 hx_409)
                    refine lv_dup hC.1 hC.2.1 dX5_part_139 rfl ?_
                    refine x_const hC dX5_part_140 ?_
                    refine lv_iload hC.1 hC.2.1 dX5_part_141 (lv_at hl 5 rfl) ?_
                    refine x_iast hC hw hA_408 (by omega) (by omega) (by omega) dX5_part_143 (fun H locs hw => ?_)
                    obtain ⟨M_412, hM_413⟩ : ∃ z, z = va_up M_406 q_383 (some (.inl (G.2 1, 5, .inl (upd (upd (upd (upd (fun _ => 0) (0 : Int).toNat (iN (z_391))) (1 : Int).toNat (iN (p1))) (2 : Int).toNat (iN (z_405))) (3 : Int).toNat (iN (p3)))))) := ⟨_, rfl⟩
                    rw [← hM_413] at hw
                    have hA_414 : M_412 q_383 = some (.inl (G.2 1, 5, .inl (upd (upd (upd (upd (fun _ => 0) (0 : Int).toNat (iN (z_391))) (1 : Int).toNat (iN (p1))) (2 : Int).toNat (iN (z_405))) (3 : Int).toNat (iN (p3))))) := by rw [hM_413, va_up_self]
                    have hx_415 := xExt.upd hq_384 hx_409 hM_413
                    have h_416 := hRk_366.ext hx_415
                    have h_417 := hIi_370.x5 (xExt.x5 hx_415)
                    refine lv_dup hC.1 hC.2.1 dX5_part_144 rfl ?_
                    refine x_const hC dX5_part_145 ?_
                    refine lv_iload hC.1 hC.2.1 dX5_part_146 (lv_at hl 6 rfl) ?_
                    refine x_callS hC hw (lv_size hl) (c_X5_one l G (M := M_412) (p0 := p4) (by omega)) gX5_part_X5_one rfl dv_X5_one_s rfl (Nat.le_of_ble_eq_true rfl) (by rw [hRf]; decide) (by rw [hRl]; decide) (by omega) (by omega) dX5_part_148 (fun r9 M_418 H locs hq hw => ?_)
                    obtain ⟨z_419, rfl, hM9, hz_419a, hz_419b⟩ := hq
                    rw [hM9] at hw
                    show W p l e R s m args below meth c H locs _ _ _ (F0 m 151 ls [.int (iN (z_419)), .int (iN (4)), .ref q_383, .ref q_383, .ref a])
                    refine x_iast hC hw hA_414 (by omega) (by omega) (by omega) dX5_part_151 (fun H locs hw => ?_)
                    obtain ⟨M_420, hM_421⟩ : ∃ z, z = va_up M_412 q_383 (some (.inl (G.2 1, 5, .inl (upd (upd (upd (upd (upd (fun _ => 0) (0 : Int).toNat (iN (z_391))) (1 : Int).toNat (iN (p1))) (2 : Int).toNat (iN (z_405))) (3 : Int).toNat (iN (p3))) (4 : Int).toNat (iN (z_419)))))) := ⟨_, rfl⟩
                    rw [← hM_421] at hw
                    have hA_422 : M_420 q_383 = some (.inl (G.2 1, 5, .inl (upd (upd (upd (upd (upd (fun _ => 0) (0 : Int).toNat (iN (z_391))) (1 : Int).toNat (iN (p1))) (2 : Int).toNat (iN (z_405))) (3 : Int).toNat (iN (p3))) (4 : Int).toNat (iN (z_419))))) := by rw [hM_421, va_up_self]
                    have hx_423 := xExt.upd hq_384 hx_415 hM_421
                    have h_424 := hRk_366.ext hx_423
                    have h_425 := hIi_370.x5 (xExt.x5 hx_423)
                    have hI_426 : Its G M_420 q_383 (upd (upd (upd (upd (upd (fun _ => 0) (0 : Int).toNat (iN (z_391))) (1 : Int).toNat (iN (p1))) (2 : Int).toNat (iN (z_405))) (3 : Int).toNat (iN (p3))) (4 : Int).toNat (iN (z_419))) := ⟨hA_422, (show 0 ≤ (iN (z_391)).toInt ∧ (iN (z_391)).toInt ≤ 2 by rw [iN_toInt ⟨by omega, by omega⟩]; omega), (show (iN (p1)).toInt = -10000 ∨ (0 ≤ (iN (p1)).toInt ∧ (iN (p1)).toInt ≤ 99) by rw [iN_toInt ⟨by omega, by omega⟩]; omega), (show 0 ≤ (iN (z_405)).toInt ∧ (iN (z_405)).toInt ≤ 1 by rw [iN_toInt ⟨by omega, by omega⟩]; omega), (show (iN (p3)).toInt = -10000 ∨ (0 ≤ (iN (p3)).toInt ∧ (iN (p3)).toInt ≤ 99) by rw [iN_toInt ⟨by omega, by omega⟩]; omega), (show 0 ≤ (iN (z_419)).toInt ∧ (iN (z_419)).toInt ≤ 1 by rw [iN_toInt ⟨by omega, by omega⟩]; omega)⟩
                    refine x_callV hC hw (lv_size hl) (c_X5_open l G h_424 hI_426 (j0 := (z_296).toNat) (by omega) (hz_296Y (by omega))) gX5_part_X5_open rfl dv_X5_open h_424.1.1 rfl rfl (Nat.le_of_ble_eq_true rfl) (by rw [hRf]; decide) (by rw [hRl]; decide) (by omega) (by omega) dX5_part_152 (fun r9 M_427 H locs hq hw => ?_)
                    obtain ⟨z_428, rfl, hz_428a, fyk_429, hRk_429⟩ := hq
                    show W p l e R s m args below meth c H locs _ _ _ (F0 m 155 ls [.int (iN (z_428))])
                    exact x_iret hC hw dX5_part_155 (by omega) (by omega) ⟨z_428, rfl, by omega, ⟨_, _, _, _, _, _, _, _, _, _, _, _, _, _, _, _, _, _, _, _, hRk_429⟩⟩
                  · refine x_sipush hC dX5_part_113 (by decide +kernel) ?_
                    exact x_iret hC hw dX5_part_116 (by omega) (by omega) ⟨(-20000), rfl, by omega, ⟨_, _, _, _, _, _, _, _, _, _, _, _, _, _, _, _, _, _, _, _, hRk_366⟩⟩
            · refine x_const hC dX5_part_64 ?_
              exact x_iret hC hw dX5_part_65 (by omega) (by omega) ⟨0, rfl, by omega, ⟨_, _, _, _, _, _, _, _, _, _, _, _, _, _, _, _, _, _, _, _, hRk_366⟩⟩
set_option maxHeartbeats 4000000 in
set_option maxRecDepth 100000 in
theorem c_X5_shut (l : Launch) (G : xG) {M : HM} {a va oa wa ya : Nat} {wk : Option Nat} {th rfd br re la ha kp kv : Int32} {qv qw : Nat → Nat} {fa fb : Nat → Option Nat} {fvv fw : Nat → Nat → Int32} {fo : Nat → Int32} {fy : Nat → Option Nat} {S : Nat → Bool} (hR : MGx G M a va oa wa ya wk th rfd br re la ha kp kv qv qw fa fb fvv fw fo fy S) {p0 : Int} (hp0 : -2147483648 ≤ p0 ∧ p0 ≤ 2147483647) : xMet l G yX5_shut wsX5_shut 4 90 0 0 [.ref a, .int (iN (p0))] M (fun r M1 => ∃ z : Int, r = some (.int (iN z)) ∧ (-2147483648 ≤ z ∧ z ≤ 2147483647) ∧ MGm G M1 a rfd S) := by
  refine x_intro (cc := cX5_shut) (maxL := 3) (ret := (some .int)) (by decide +kernel) rfl (Nat.le_of_ble_eq_true rfl) ?_
  intro p e R s m args below meth c ls hRf hRc hRs hRl hC hw hl
  have hinX5 : ∀ w ∈ wsX50, w ∈ wsX5_shut := by decide +kernel
  have hl : lv_has ls 3 [(0, .ref a), (1, .int (iN (p0)))] := hl
  refine lv_aload_n hC.1 hC.2.1 dX5_shut_0 rfl (lv_at hl 0 rfl) ?_
  refine lv_aload_n hC.1 hC.2.1 dX5_shut_1 rfl (lv_at hl 0 rfl) ?_
  refine lv_iload_n hC.1 hC.2.1 dX5_shut_2 rfl (lv_at hl 1 rfl) ?_
  refine x_callV hC hw (lv_size hl) (c_X5_isNoView l G hR (p0 := p0) (by omega)) gX5_shut_X5_isNoView rfl dv_X5_isNoView hR.1.1 rfl rfl (Nat.le_of_ble_eq_true rfl) (by rw [hRf]; decide) (by rw [hRl]; decide) (by omega) (by omega) dX5_shut_3 (fun r9 M_1 H locs hq hw => ?_)
  obtain ⟨z_2, rfl, hM9, hz_2a, hz_2b, hz_2n⟩ := hq
  rw [hM9] at hw
  show W p l e R s m args below meth c H locs _ _ _ (F0 m 6 ls [.int (iN (z_2)), .ref a])
  refine x_const hC dX5_shut_6 ?_
  refine x_callV hC hw (lv_size hl) (c_X5_start l G hR (p0 := z_2) (by omega) (p1 := 1) (by omega) (by omega)) gX5_shut_X5_start rfl dv_X5_start hR.1.1 rfl rfl (Nat.le_of_ble_eq_true rfl) (by rw [hRf]; decide) (by rw [hRl]; decide) (by omega) (by omega) dX5_shut_7 (fun r9 M_3 H locs hq hw => ?_)
  obtain ⟨z_4, rfl, hz_4a, hz_4b, thk_5, hRk_5⟩ := hq
  show W p l e R s m args below meth c H locs _ _ _ (F0 m 10 ls [.int (iN (z_4))])
  refine x_if_eq (tgt := 15) hC ⟨by omega, by omega⟩ dX5_shut_10 (by decide) (fun c_6 => ?_) (fun c_6 => ?_)
  · refine lv_aload_n hC.1 hC.2.1 dX5_shut_15 rfl (lv_at hl 0 rfl) ?_
    refine lv_aload_n hC.1 hC.2.1 dX5_shut_16 rfl (lv_at hl 0 rfl) ?_
    refine x_get hC hw hRk_5.1.1 rfl hinX5 5 (by decide) (by decide +kernel) rfl dX5_shut_17 ?_
    refine lv_iload_n hC.1 hC.2.1 dX5_shut_20 rfl (lv_at hl 1 rfl) ?_
    refine x_ald4 hC hw hRk_5.1.2.2.2.2.1 (by omega) (by omega) (by omega) dX5_shut_21 ?_
    obtain ⟨y_7, hy_8⟩ := x_some (hz_2n (by omega))
    rw [hy_8]
    obtain ⟨fi_9, hIi_9⟩ := (hRk_5.vw (show (p0).toNat < 4 by omega) hy_8)
    obtain ⟨hvt_10, hat_10, hbt_10, hct_10, hdt_10, het_10⟩ := id hIi_9
    show W p l e R s m args below meth c _ _ _ _ _ (F0 m 22 ls [.ref y_7, .ref a])
    refine x_callV hC hw (lv_size hl) (c_X5_many l G hRk_5 hIi_9) gX5_shut_X5_many rfl dv_X5_many hRk_5.1.1 rfl rfl (Nat.le_of_ble_eq_true rfl) (by rw [hRf]; decide) (by rw [hRl]; decide) (by omega) (by omega) dX5_shut_22 (fun r9 M_11 H locs hq hw => ?_)
    obtain ⟨z_12, rfl, hM9, hz_12a⟩ := hq
    rw [hM9] at hw
    show W p l e R s m args below meth c H locs _ _ _ (F0 m 25 ls [.int (iN (z_12))])
    refine lv_istore_n (lv' := [(2, .int (iN (z_12))), (0, .ref a), (1, .int (iN (p0)))]) hC.1 hC.2.1 dX5_shut_25 rfl hl (by decide) rfl (fun ls hl => ?_)
    refine lv_aload_n hC.1 hC.2.1 dX5_shut_26 rfl (lv_at hl 1 rfl) ?_
    refine x_get hC hw hRk_5.1.1 rfl hinX5 5 (by decide) (by decide +kernel) rfl dX5_shut_27 ?_
    refine lv_iload_n hC.1 hC.2.1 dX5_shut_30 rfl (lv_at hl 2 rfl) ?_
    refine lv_null hC.1 hC.2.1 dX5_shut_31 ?_
    refine x_ast4N hC hw hRk_5.1.2.2.2.2.1 (by omega) (by omega) (by omega) dX5_shut_32 (fun H locs hw => ?_)
    obtain ⟨M_13, hM_14⟩ : ∃ z, z = va_up M_3 ya (some (.inl (G.2 4, 4, .inr (.inr (.inr (.inr (va_up fy (p0).toNat none))))))) := ⟨_, rfl⟩
    rw [← hM_14] at hw
    have hR_15 := hRk_5.vws hM_14 (fun j9 y9 hj hy => by by_cases e9 : j9 = (p0).toNat; (· subst e9; rw [va_up_self] at hy; cases hy); (· rw [va_up_ne _ _ e9] at hy; exact hRk_5.vw hj hy))
    obtain ⟨fy_16, hfy_16⟩ : ∃ z, z = (va_up fy (p0).toNat none) := ⟨_, rfl⟩
    rw [← hfy_16] at hR_15
    have h_17 := hIi_9.x5 (hRk_5.vws5 hM_14)
    refine lv_iload_n hC.1 hC.2.1 dX5_shut_33 rfl (lv_at hl 0 rfl) ?_
    exact x_iret hC hw dX5_shut_34 (by omega) (by omega) ⟨z_12, rfl, by omega, ⟨_, _, _, _, _, _, _, _, _, _, _, _, _, _, _, _, _, _, _, _, hR_15⟩⟩
  · refine x_const hC dX5_shut_13 ?_
    exact x_iret hC hw dX5_shut_14 (by omega) (by omega) ⟨0, rfl, by omega, ⟨_, _, _, _, _, _, _, _, _, _, _, _, _, _, _, _, _, _, _, _, hRk_5⟩⟩
set_option maxHeartbeats 4000000 in
set_option maxRecDepth 100000 in
theorem c_X5_viewPut (l : Launch) (G : xG) {M : HM} {a va oa wa ya : Nat} {wk : Option Nat} {th rfd br re la ha kp kv : Int32} {qv qw : Nat → Nat} {fa fb : Nat → Option Nat} {fvv fw : Nat → Nat → Int32} {fo : Nat → Int32} {fy : Nat → Option Nat} {S : Nat → Bool} (hR : MGx G M a va oa wa ya wk th rfd br re la ha kp kv qv qw fa fb fvv fw fo fy S) {p0 : Int} (hp0 : -2147483648 ≤ p0 ∧ p0 ≤ 2147483647) {p1 : Int} (hp1 : -2147483648 ≤ p1 ∧ p1 ≤ 2147483647) {p2 : Int} (hp2 : -2147483648 ≤ p2 ∧ p2 ≤ 2147483647) (hSk : 0 ≤ p1 ∧ p1 ≤ 99 → S p1.toNat = true) : xMet l G yX5_viewPut wsX5_viewPut 2 45 0 0 [.ref a, .int (iN (p0)), .int (iN (p1)), .int (iN (p2))] M (fun r M1 => ∃ z : Int, r = some (.int (iN z)) ∧ (-2147483648 ≤ z ∧ z ≤ 2147483647) ∧ MGm G M1 a rfd S) := by
  refine x_intro (cc := cX5_viewPut) (maxL := 4) (ret := (some .int)) (by decide +kernel) rfl (Nat.le_of_ble_eq_true rfl) ?_
  intro p e R s m args below meth c ls hRf hRc hRs hRl hC hw hl
  have hinX5 : ∀ w ∈ wsX50, w ∈ wsX5_viewPut := by decide +kernel
  have hl : lv_has ls 4 [(0, .ref a), (1, .int (iN (p0))), (2, .int (iN (p1))), (3, .int (iN (p2)))] := hl
  refine lv_aload_n hC.1 hC.2.1 dX5_viewPut_0 rfl (lv_at hl 0 rfl) ?_
  refine lv_aload_n hC.1 hC.2.1 dX5_viewPut_1 rfl (lv_at hl 0 rfl) ?_
  refine lv_iload_n hC.1 hC.2.1 dX5_viewPut_2 rfl (lv_at hl 1 rfl) ?_
  refine x_callV hC hw (lv_size hl) (c_X5_isNoView l G hR (p0 := p0) (by omega)) gX5_viewPut_X5_isNoView rfl dv_X5_isNoView hR.1.1 rfl rfl (Nat.le_of_ble_eq_true rfl) (by rw [hRf]; decide) (by rw [hRl]; decide) (by omega) (by omega) dX5_viewPut_3 (fun r9 M_1 H locs hq hw => ?_)
  obtain ⟨z_2, rfl, hM9, hz_2a, hz_2b, hz_2n⟩ := hq
  rw [hM9] at hw
  show W p l e R s m args below meth c H locs _ _ _ (F0 m 6 ls [.int (iN (z_2)), .ref a])
  refine x_const hC dX5_viewPut_6 ?_
  refine x_callV hC hw (lv_size hl) (c_X5_start l G hR (p0 := z_2) (by omega) (p1 := 1) (by omega) (by omega)) gX5_viewPut_X5_start rfl dv_X5_start hR.1.1 rfl rfl (Nat.le_of_ble_eq_true rfl) (by rw [hRf]; decide) (by rw [hRl]; decide) (by omega) (by omega) dX5_viewPut_7 (fun r9 M_3 H locs hq hw => ?_)
  obtain ⟨z_4, rfl, hz_4a, hz_4b, thk_5, hRk_5⟩ := hq
  show W p l e R s m args below meth c H locs _ _ _ (F0 m 10 ls [.int (iN (z_4))])
  refine x_if_ne (tgt := 40) hC ⟨by omega, by omega⟩ dX5_viewPut_10 (by decide) (fun c_6 => ?_) (fun c_6 => ?_)
  · refine x_const hC dX5_viewPut_40 ?_
    exact x_iret hC hw dX5_viewPut_41 (by omega) (by omega) ⟨0, rfl, by omega, ⟨_, _, _, _, _, _, _, _, _, _, _, _, _, _, _, _, _, _, _, _, hRk_5⟩⟩
  · refine lv_aload_n hC.1 hC.2.1 dX5_viewPut_13 rfl (lv_at hl 0 rfl) ?_
    refine lv_iload_n hC.1 hC.2.1 dX5_viewPut_14 rfl (lv_at hl 2 rfl) ?_
    refine x_callS hC hw (lv_size hl) (c_X5_isNoKey l G (M := M_3) (p0 := p1) (by omega)) gX5_viewPut_X5_isNoKey rfl dv_X5_isNoKey_s rfl (Nat.le_of_ble_eq_true rfl) (by rw [hRf]; decide) (by rw [hRl]; decide) (by omega) (by omega) dX5_viewPut_15 (fun r9 M_7 H locs hq hw => ?_)
    obtain ⟨z_8, rfl, hM9, hz_8a, hz_8b⟩ := hq
    rw [hM9] at hw
    show W p l e R s m args below meth c H locs _ _ _ (F0 m 18 ls [.int (iN (z_8)), .ref a])
    refine x_if_ne (tgt := 28) hC ⟨by omega, by omega⟩ dX5_viewPut_18 (by decide) (fun c_9 => ?_) (fun c_9 => ?_)
    · refine x_const hC dX5_viewPut_28 ?_
      refine lv_goto (tgt := 33) hC.1 hC.2.1 dX5_viewPut_29 (by decide) ?_
      refine x_const hC dX5_viewPut_33 ?_
      refine x_callV hC hw (lv_size hl) (c_X5_refuse l G hRk_5 (p0 := 1) (by omega) (p1 := 2) (by omega) (by omega)) gX5_viewPut_X5_refuse rfl dv_X5_refuse hRk_5.1.1 rfl rfl (Nat.le_of_ble_eq_true rfl) (by rw [hRf]; decide) (by rw [hRl]; decide) (by omega) (by omega) dX5_viewPut_34 (fun r9 M_10 H locs hq hw => ?_)
      obtain ⟨z_11, rfl, hz_11a, hz_11b, thk_12, hRk_12⟩ := hq
      show W p l e R s m args below meth c H locs _ _ _ (F0 m 37 ls [.int (iN (z_11))])
      refine x_if_eq (tgt := 42) hC ⟨by omega, by omega⟩ dX5_viewPut_37 (by decide) (fun c_13 => ?_) (fun c_13 => ?_)
      · refine lv_aload_n hC.1 hC.2.1 dX5_viewPut_42 rfl (lv_at hl 0 rfl) ?_
        refine lv_aload_n hC.1 hC.2.1 dX5_viewPut_43 rfl (lv_at hl 0 rfl) ?_
        refine x_get hC hw hRk_12.1.1 rfl hinX5 5 (by decide) (by decide +kernel) rfl dX5_viewPut_44 ?_
        refine lv_iload_n hC.1 hC.2.1 dX5_viewPut_47 rfl (lv_at hl 1 rfl) ?_
        refine x_ald4 hC hw hRk_12.1.2.2.2.2.1 (by omega) (by omega) (by omega) dX5_viewPut_48 ?_
        obtain ⟨y_14, hy_15⟩ := x_some (hz_2n (by omega))
        rw [hy_15]
        obtain ⟨fi_16, hIi_16⟩ := (hRk_12.vw (show (p0).toNat < 4 by omega) hy_15)
        obtain ⟨hvt_17, hat_17, hbt_17, hct_17, hdt_17, het_17⟩ := id hIi_16
        show W p l e R s m args below meth c _ _ _ _ _ (F0 m 49 ls [.ref y_14, .ref a])
        refine x_const hC dX5_viewPut_49 ?_
        refine x_iald hC hw hIi_16.1 (by omega) (by omega) (by omega) dX5_viewPut_50 ?_
        obtain ⟨z_18, hz_18⟩ : ∃ z : Int, z = (fi_16 (0 : Int).toNat).toInt := ⟨_, rfl⟩
        rw [← hz_18]
        have hz_18' : z_18 = (fi_16 0).toInt := hz_18
        have hrz_18 : -2147483648 ≤ z_18 ∧ z_18 ≤ 2147483647 := by rw [hz_18]; exact iN_rng _
        refine x_callV hC hw (lv_size hl) (c_X5_touch l G hRk_12 (p0 := z_18) (by omega)) gX5_viewPut_X5_touch rfl dv_X5_touch hRk_12.1.1 rfl rfl (Nat.le_of_ble_eq_true rfl) (by rw [hRf]; decide) (by rw [hRl]; decide) (by omega) (by omega) dX5_viewPut_51 (fun r9 M_19 H locs hq hw => ?_)
        obtain ⟨rfl, hak_21, hRk_21⟩ := hq
        show W p l e R s m args below meth c H locs _ _ _ (F0 m 54 ls [])
        refine lv_aload_n hC.1 hC.2.1 dX5_viewPut_54 rfl (lv_at hl 0 rfl) ?_
        refine lv_aload_n hC.1 hC.2.1 dX5_viewPut_55 rfl (lv_at hl 0 rfl) ?_
        refine x_get hC hw hRk_21.1.1 rfl hinX5 5 (by decide) (by decide +kernel) rfl dX5_viewPut_56 ?_
        refine lv_iload_n hC.1 hC.2.1 dX5_viewPut_59 rfl (lv_at hl 1 rfl) ?_
        refine x_ald4 hC hw hRk_21.1.2.2.2.2.1 (by omega) (by omega) (by omega) dX5_viewPut_60 ?_
        rw [hy_15]
        obtain ⟨fi_22, hIi_22⟩ := (hRk_21.vw (show (p0).toNat < 4 by omega) hy_15)
        obtain ⟨hvt_23, hat_23, hbt_23, hct_23, hdt_23, het_23⟩ := id hIi_22
        show W p l e R s m args below meth c _ _ _ _ _ (F0 m 61 ls [.ref y_14, .ref a])
        refine lv_iload_n hC.1 hC.2.1 dX5_viewPut_61 rfl (lv_at hl 2 rfl) ?_
        refine x_callV hC hw (lv_size hl) (c_X5_isWithin l G hRk_21 hIi_22 (p0 := p1) (by omega) (by omega)) gX5_viewPut_X5_isWithin rfl dv_X5_isWithin hRk_21.1.1 rfl rfl (Nat.le_of_ble_eq_true rfl) (by rw [hRf]; decide) (by rw [hRl]; decide) (by omega) (by omega) dX5_viewPut_62 (fun r9 M_24 H locs hq hw => ?_)
        obtain ⟨z_25, rfl, hM9, hz_25a⟩ := hq
        rw [hM9] at hw
        show W p l e R s m args below meth c H locs _ _ _ (F0 m 65 ls [.int (iN (z_25))])
        refine x_if_eq (tgt := 85) hC ⟨by omega, by omega⟩ dX5_viewPut_65 (by decide) (fun c_26 => ?_) (fun c_26 => ?_)
        · refine x_sipush hC dX5_viewPut_85 (by decide +kernel) ?_
          exact x_iret hC hw dX5_viewPut_88 (by omega) (by omega) ⟨(-20000), rfl, by omega, ⟨_, _, _, _, _, _, _, _, _, _, _, _, _, _, _, _, _, _, _, _, hRk_21⟩⟩
        · refine lv_aload_n hC.1 hC.2.1 dX5_viewPut_68 rfl (lv_at hl 0 rfl) ?_
          refine lv_aload_n hC.1 hC.2.1 dX5_viewPut_69 rfl (lv_at hl 0 rfl) ?_
          refine x_get hC hw hRk_21.1.1 rfl hinX5 5 (by decide) (by decide +kernel) rfl dX5_viewPut_70 ?_
          refine lv_iload_n hC.1 hC.2.1 dX5_viewPut_73 rfl (lv_at hl 1 rfl) ?_
          refine x_ald4 hC hw hRk_21.1.2.2.2.2.1 (by omega) (by omega) (by omega) dX5_viewPut_74 ?_
          rw [hy_15]
          show W p l e R s m args below meth c _ _ _ _ _ (F0 m 75 ls [.ref y_14, .ref a])
          refine x_const hC dX5_viewPut_75 ?_
          refine x_iald hC hw hIi_22.1 (by omega) (by omega) (by omega) dX5_viewPut_76 ?_
          obtain ⟨z_27, hz_27⟩ : ∃ z : Int, z = (fi_22 (0 : Int).toNat).toInt := ⟨_, rfl⟩
          rw [← hz_27]
          have hz_27' : z_27 = (fi_22 0).toInt := hz_27
          have hrz_27 : -2147483648 ≤ z_27 ∧ z_27 ≤ 2147483647 := by rw [hz_27]; exact iN_rng _
          refine lv_iload_n hC.1 hC.2.1 dX5_viewPut_77 rfl (lv_at hl 2 rfl) ?_
          refine lv_iload_n hC.1 hC.2.1 dX5_viewPut_78 rfl (lv_at hl 3 rfl) ?_
          refine x_callV hC hw (lv_size hl) (c_X5_set l G hRk_21 (p0 := z_27) (by omega) (p1 := p1) (by omega) (p2 := p2) (by omega) (by omega) (by omega) (by omega) (by intro q9; first | exact absurd rfl q9 | assumption | exact hSk (by omega))) gX5_viewPut_X5_set rfl dv_X5_set hRk_21.1.1 rfl rfl (Nat.le_of_ble_eq_true rfl) (by rw [hRf]; decide) (by rw [hRl]; decide) (by omega) (by omega) dX5_viewPut_79 (fun r9 M_28 H locs hq hw => ?_)
          obtain ⟨z_29, rfl, hz_29a, hz_29b, hx5k_30, brk_30, fvvk_30, hRk_30⟩ := hq
          have h_31 := hIi_22.x5 hx5k_30
          show W p l e R s m args below meth c H locs _ _ _ (F0 m 82 ls [.int (iN (z_29))])
          refine lv_goto (tgt := 88) hC.1 hC.2.1 dX5_viewPut_82 (by decide) ?_
          exact x_iret hC hw dX5_viewPut_88 (by omega) (by omega) ⟨z_29, rfl, by omega, ⟨_, _, _, _, _, _, _, _, _, _, _, _, _, _, _, _, _, _, _, _, hRk_30⟩⟩
      · refine x_const hC dX5_viewPut_40 ?_
        exact x_iret hC hw dX5_viewPut_41 (by omega) (by omega) ⟨0, rfl, by omega, ⟨_, _, _, _, _, _, _, _, _, _, _, _, _, _, _, _, _, _, _, _, hRk_12⟩⟩
    · refine lv_iload_n hC.1 hC.2.1 dX5_viewPut_21 rfl (lv_at hl 3 rfl) ?_
      refine x_callS hC hw (lv_size hl) (c_X5_isNoValue l G (M := M_3) (p0 := p2) (by omega)) gX5_viewPut_X5_isNoValue rfl dv_X5_isNoValue_s rfl (Nat.le_of_ble_eq_true rfl) (by rw [hRf]; decide) (by rw [hRl]; decide) (by omega) (by omega) dX5_viewPut_22 (fun r9 M_32 H locs hq hw => ?_)
      obtain ⟨z_33, rfl, hM9, hz_33a, hz_33b⟩ := hq
      rw [hM9] at hw
      show W p l e R s m args below meth c H locs _ _ _ (F0 m 25 ls [.int (iN (z_33)), .ref a])
      refine x_if_eq (tgt := 32) hC ⟨by omega, by omega⟩ dX5_viewPut_25 (by decide) (fun c_34 => ?_) (fun c_34 => ?_)
      · refine x_const hC dX5_viewPut_32 ?_
        refine x_const hC dX5_viewPut_33 ?_
        refine x_callV hC hw (lv_size hl) (c_X5_refuse l G hRk_5 (p0 := 0) (by omega) (p1 := 2) (by omega) (by omega)) gX5_viewPut_X5_refuse rfl dv_X5_refuse hRk_5.1.1 rfl rfl (Nat.le_of_ble_eq_true rfl) (by rw [hRf]; decide) (by rw [hRl]; decide) (by omega) (by omega) dX5_viewPut_34 (fun r9 M_35 H locs hq hw => ?_)
        obtain ⟨z_36, rfl, hz_36a, hz_36b, thk_37, hRk_37⟩ := hq
        show W p l e R s m args below meth c H locs _ _ _ (F0 m 37 ls [.int (iN (z_36))])
        refine x_if_eq (tgt := 42) hC ⟨by omega, by omega⟩ dX5_viewPut_37 (by decide) (fun c_38 => ?_) (fun c_38 => ?_)
        · refine lv_aload_n hC.1 hC.2.1 dX5_viewPut_42 rfl (lv_at hl 0 rfl) ?_
          refine lv_aload_n hC.1 hC.2.1 dX5_viewPut_43 rfl (lv_at hl 0 rfl) ?_
          refine x_get hC hw hRk_37.1.1 rfl hinX5 5 (by decide) (by decide +kernel) rfl dX5_viewPut_44 ?_
          refine lv_iload_n hC.1 hC.2.1 dX5_viewPut_47 rfl (lv_at hl 1 rfl) ?_
          refine x_ald4 hC hw hRk_37.1.2.2.2.2.1 (by omega) (by omega) (by omega) dX5_viewPut_48 ?_
          obtain ⟨y_39, hy_40⟩ := x_some (hz_2n (by omega))
          rw [hy_40]
          obtain ⟨fi_41, hIi_41⟩ := (hRk_37.vw (show (p0).toNat < 4 by omega) hy_40)
          obtain ⟨hvt_42, hat_42, hbt_42, hct_42, hdt_42, het_42⟩ := id hIi_41
          show W p l e R s m args below meth c _ _ _ _ _ (F0 m 49 ls [.ref y_39, .ref a])
          refine x_const hC dX5_viewPut_49 ?_
          refine x_iald hC hw hIi_41.1 (by omega) (by omega) (by omega) dX5_viewPut_50 ?_
          obtain ⟨z_43, hz_43⟩ : ∃ z : Int, z = (fi_41 (0 : Int).toNat).toInt := ⟨_, rfl⟩
          rw [← hz_43]
          have hz_43' : z_43 = (fi_41 0).toInt := hz_43
          have hrz_43 : -2147483648 ≤ z_43 ∧ z_43 ≤ 2147483647 := by rw [hz_43]; exact iN_rng _
          refine x_callV hC hw (lv_size hl) (c_X5_touch l G hRk_37 (p0 := z_43) (by omega)) gX5_viewPut_X5_touch rfl dv_X5_touch hRk_37.1.1 rfl rfl (Nat.le_of_ble_eq_true rfl) (by rw [hRf]; decide) (by rw [hRl]; decide) (by omega) (by omega) dX5_viewPut_51 (fun r9 M_44 H locs hq hw => ?_)
          obtain ⟨rfl, hak_46, hRk_46⟩ := hq
          show W p l e R s m args below meth c H locs _ _ _ (F0 m 54 ls [])
          refine lv_aload_n hC.1 hC.2.1 dX5_viewPut_54 rfl (lv_at hl 0 rfl) ?_
          refine lv_aload_n hC.1 hC.2.1 dX5_viewPut_55 rfl (lv_at hl 0 rfl) ?_
          refine x_get hC hw hRk_46.1.1 rfl hinX5 5 (by decide) (by decide +kernel) rfl dX5_viewPut_56 ?_
          refine lv_iload_n hC.1 hC.2.1 dX5_viewPut_59 rfl (lv_at hl 1 rfl) ?_
          refine x_ald4 hC hw hRk_46.1.2.2.2.2.1 (by omega) (by omega) (by omega) dX5_viewPut_60 ?_
          rw [hy_40]
          obtain ⟨fi_47, hIi_47⟩ := (hRk_46.vw (show (p0).toNat < 4 by omega) hy_40)
          obtain ⟨hvt_48, hat_48, hbt_48, hct_48, hdt_48, het_48⟩ := id hIi_47
          show W p l e R s m args below meth c _ _ _ _ _ (F0 m 61 ls [.ref y_39, .ref a])
          refine lv_iload_n hC.1 hC.2.1 dX5_viewPut_61 rfl (lv_at hl 2 rfl) ?_
          refine x_callV hC hw (lv_size hl) (c_X5_isWithin l G hRk_46 hIi_47 (p0 := p1) (by omega) (by omega)) gX5_viewPut_X5_isWithin rfl dv_X5_isWithin hRk_46.1.1 rfl rfl (Nat.le_of_ble_eq_true rfl) (by rw [hRf]; decide) (by rw [hRl]; decide) (by omega) (by omega) dX5_viewPut_62 (fun r9 M_49 H locs hq hw => ?_)
          obtain ⟨z_50, rfl, hM9, hz_50a⟩ := hq
          rw [hM9] at hw
          show W p l e R s m args below meth c H locs _ _ _ (F0 m 65 ls [.int (iN (z_50))])
          refine x_if_eq (tgt := 85) hC ⟨by omega, by omega⟩ dX5_viewPut_65 (by decide) (fun c_51 => ?_) (fun c_51 => ?_)
          · refine x_sipush hC dX5_viewPut_85 (by decide +kernel) ?_
            exact x_iret hC hw dX5_viewPut_88 (by omega) (by omega) ⟨(-20000), rfl, by omega, ⟨_, _, _, _, _, _, _, _, _, _, _, _, _, _, _, _, _, _, _, _, hRk_46⟩⟩
          · refine lv_aload_n hC.1 hC.2.1 dX5_viewPut_68 rfl (lv_at hl 0 rfl) ?_
            refine lv_aload_n hC.1 hC.2.1 dX5_viewPut_69 rfl (lv_at hl 0 rfl) ?_
            refine x_get hC hw hRk_46.1.1 rfl hinX5 5 (by decide) (by decide +kernel) rfl dX5_viewPut_70 ?_
            refine lv_iload_n hC.1 hC.2.1 dX5_viewPut_73 rfl (lv_at hl 1 rfl) ?_
            refine x_ald4 hC hw hRk_46.1.2.2.2.2.1 (by omega) (by omega) (by omega) dX5_viewPut_74 ?_
            rw [hy_40]
            show W p l e R s m args below meth c _ _ _ _ _ (F0 m 75 ls [.ref y_39, .ref a])
            refine x_const hC dX5_viewPut_75 ?_
            refine x_iald hC hw hIi_47.1 (by omega) (by omega) (by omega) dX5_viewPut_76 ?_
            obtain ⟨z_52, hz_52⟩ : ∃ z : Int, z = (fi_47 (0 : Int).toNat).toInt := ⟨_, rfl⟩
            rw [← hz_52]
            have hz_52' : z_52 = (fi_47 0).toInt := hz_52
            have hrz_52 : -2147483648 ≤ z_52 ∧ z_52 ≤ 2147483647 := by rw [hz_52]; exact iN_rng _
            refine lv_iload_n hC.1 hC.2.1 dX5_viewPut_77 rfl (lv_at hl 2 rfl) ?_
            refine lv_iload_n hC.1 hC.2.1 dX5_viewPut_78 rfl (lv_at hl 3 rfl) ?_
            refine x_callV hC hw (lv_size hl) (c_X5_set l G hRk_46 (p0 := z_52) (by omega) (p1 := p1) (by omega) (p2 := p2) (by omega) (by omega) (by omega) (by omega) (by intro q9; first | exact absurd rfl q9 | assumption | exact hSk (by omega))) gX5_viewPut_X5_set rfl dv_X5_set hRk_46.1.1 rfl rfl (Nat.le_of_ble_eq_true rfl) (by rw [hRf]; decide) (by rw [hRl]; decide) (by omega) (by omega) dX5_viewPut_79 (fun r9 M_53 H locs hq hw => ?_)
            obtain ⟨z_54, rfl, hz_54a, hz_54b, hx5k_55, brk_55, fvvk_55, hRk_55⟩ := hq
            have h_56 := hIi_47.x5 hx5k_55
            show W p l e R s m args below meth c H locs _ _ _ (F0 m 82 ls [.int (iN (z_54))])
            refine lv_goto (tgt := 88) hC.1 hC.2.1 dX5_viewPut_82 (by decide) ?_
            exact x_iret hC hw dX5_viewPut_88 (by omega) (by omega) ⟨z_54, rfl, by omega, ⟨_, _, _, _, _, _, _, _, _, _, _, _, _, _, _, _, _, _, _, _, hRk_55⟩⟩
        · refine x_const hC dX5_viewPut_40 ?_
          exact x_iret hC hw dX5_viewPut_41 (by omega) (by omega) ⟨0, rfl, by omega, ⟨_, _, _, _, _, _, _, _, _, _, _, _, _, _, _, _, _, _, _, _, hRk_37⟩⟩
      · refine x_const hC dX5_viewPut_28 ?_
        refine lv_goto (tgt := 33) hC.1 hC.2.1 dX5_viewPut_29 (by decide) ?_
        refine x_const hC dX5_viewPut_33 ?_
        refine x_callV hC hw (lv_size hl) (c_X5_refuse l G hRk_5 (p0 := 1) (by omega) (p1 := 2) (by omega) (by omega)) gX5_viewPut_X5_refuse rfl dv_X5_refuse hRk_5.1.1 rfl rfl (Nat.le_of_ble_eq_true rfl) (by rw [hRf]; decide) (by rw [hRl]; decide) (by omega) (by omega) dX5_viewPut_34 (fun r9 M_57 H locs hq hw => ?_)
        obtain ⟨z_58, rfl, hz_58a, hz_58b, thk_59, hRk_59⟩ := hq
        show W p l e R s m args below meth c H locs _ _ _ (F0 m 37 ls [.int (iN (z_58))])
        refine x_if_eq (tgt := 42) hC ⟨by omega, by omega⟩ dX5_viewPut_37 (by decide) (fun c_60 => ?_) (fun c_60 => ?_)
        · refine lv_aload_n hC.1 hC.2.1 dX5_viewPut_42 rfl (lv_at hl 0 rfl) ?_
          refine lv_aload_n hC.1 hC.2.1 dX5_viewPut_43 rfl (lv_at hl 0 rfl) ?_
          refine x_get hC hw hRk_59.1.1 rfl hinX5 5 (by decide) (by decide +kernel) rfl dX5_viewPut_44 ?_
          refine lv_iload_n hC.1 hC.2.1 dX5_viewPut_47 rfl (lv_at hl 1 rfl) ?_
          refine x_ald4 hC hw hRk_59.1.2.2.2.2.1 (by omega) (by omega) (by omega) dX5_viewPut_48 ?_
          obtain ⟨y_61, hy_62⟩ := x_some (hz_2n (by omega))
          rw [hy_62]
          obtain ⟨fi_63, hIi_63⟩ := (hRk_59.vw (show (p0).toNat < 4 by omega) hy_62)
          obtain ⟨hvt_64, hat_64, hbt_64, hct_64, hdt_64, het_64⟩ := id hIi_63
          show W p l e R s m args below meth c _ _ _ _ _ (F0 m 49 ls [.ref y_61, .ref a])
          refine x_const hC dX5_viewPut_49 ?_
          refine x_iald hC hw hIi_63.1 (by omega) (by omega) (by omega) dX5_viewPut_50 ?_
          obtain ⟨z_65, hz_65⟩ : ∃ z : Int, z = (fi_63 (0 : Int).toNat).toInt := ⟨_, rfl⟩
          rw [← hz_65]
          have hz_65' : z_65 = (fi_63 0).toInt := hz_65
          have hrz_65 : -2147483648 ≤ z_65 ∧ z_65 ≤ 2147483647 := by rw [hz_65]; exact iN_rng _
          refine x_callV hC hw (lv_size hl) (c_X5_touch l G hRk_59 (p0 := z_65) (by omega)) gX5_viewPut_X5_touch rfl dv_X5_touch hRk_59.1.1 rfl rfl (Nat.le_of_ble_eq_true rfl) (by rw [hRf]; decide) (by rw [hRl]; decide) (by omega) (by omega) dX5_viewPut_51 (fun r9 M_66 H locs hq hw => ?_)
          obtain ⟨rfl, hak_68, hRk_68⟩ := hq
          show W p l e R s m args below meth c H locs _ _ _ (F0 m 54 ls [])
          refine lv_aload_n hC.1 hC.2.1 dX5_viewPut_54 rfl (lv_at hl 0 rfl) ?_
          refine lv_aload_n hC.1 hC.2.1 dX5_viewPut_55 rfl (lv_at hl 0 rfl) ?_
          refine x_get hC hw hRk_68.1.1 rfl hinX5 5 (by decide) (by decide +kernel) rfl dX5_viewPut_56 ?_
          refine lv_iload_n hC.1 hC.2.1 dX5_viewPut_59 rfl (lv_at hl 1 rfl) ?_
          refine x_ald4 hC hw hRk_68.1.2.2.2.2.1 (by omega) (by omega) (by omega) dX5_viewPut_60 ?_
          rw [hy_62]
          obtain ⟨fi_69, hIi_69⟩ := (hRk_68.vw (show (p0).toNat < 4 by omega) hy_62)
          obtain ⟨hvt_70, hat_70, hbt_70, hct_70, hdt_70, het_70⟩ := id hIi_69
          show W p l e R s m args below meth c _ _ _ _ _ (F0 m 61 ls [.ref y_61, .ref a])
          refine lv_iload_n hC.1 hC.2.1 dX5_viewPut_61 rfl (lv_at hl 2 rfl) ?_
          refine x_callV hC hw (lv_size hl) (c_X5_isWithin l G hRk_68 hIi_69 (p0 := p1) (by omega) (by omega)) gX5_viewPut_X5_isWithin rfl dv_X5_isWithin hRk_68.1.1 rfl rfl (Nat.le_of_ble_eq_true rfl) (by rw [hRf]; decide) (by rw [hRl]; decide) (by omega) (by omega) dX5_viewPut_62 (fun r9 M_71 H locs hq hw => ?_)
          obtain ⟨z_72, rfl, hM9, hz_72a⟩ := hq
          rw [hM9] at hw
          show W p l e R s m args below meth c H locs _ _ _ (F0 m 65 ls [.int (iN (z_72))])
          refine x_if_eq (tgt := 85) hC ⟨by omega, by omega⟩ dX5_viewPut_65 (by decide) (fun c_73 => ?_) (fun c_73 => ?_)
          · refine x_sipush hC dX5_viewPut_85 (by decide +kernel) ?_
            exact x_iret hC hw dX5_viewPut_88 (by omega) (by omega) ⟨(-20000), rfl, by omega, ⟨_, _, _, _, _, _, _, _, _, _, _, _, _, _, _, _, _, _, _, _, hRk_68⟩⟩
          · refine lv_aload_n hC.1 hC.2.1 dX5_viewPut_68 rfl (lv_at hl 0 rfl) ?_
            refine lv_aload_n hC.1 hC.2.1 dX5_viewPut_69 rfl (lv_at hl 0 rfl) ?_
            refine x_get hC hw hRk_68.1.1 rfl hinX5 5 (by decide) (by decide +kernel) rfl dX5_viewPut_70 ?_
            refine lv_iload_n hC.1 hC.2.1 dX5_viewPut_73 rfl (lv_at hl 1 rfl) ?_
            refine x_ald4 hC hw hRk_68.1.2.2.2.2.1 (by omega) (by omega) (by omega) dX5_viewPut_74 ?_
            rw [hy_62]
            show W p l e R s m args below meth c _ _ _ _ _ (F0 m 75 ls [.ref y_61, .ref a])
            refine x_const hC dX5_viewPut_75 ?_
            refine x_iald hC hw hIi_69.1 (by omega) (by omega) (by omega) dX5_viewPut_76 ?_
            obtain ⟨z_74, hz_74⟩ : ∃ z : Int, z = (fi_69 (0 : Int).toNat).toInt := ⟨_, rfl⟩
            rw [← hz_74]
            have hz_74' : z_74 = (fi_69 0).toInt := hz_74
            have hrz_74 : -2147483648 ≤ z_74 ∧ z_74 ≤ 2147483647 := by rw [hz_74]; exact iN_rng _
            refine lv_iload_n hC.1 hC.2.1 dX5_viewPut_77 rfl (lv_at hl 2 rfl) ?_
            refine lv_iload_n hC.1 hC.2.1 dX5_viewPut_78 rfl (lv_at hl 3 rfl) ?_
            refine x_callV hC hw (lv_size hl) (c_X5_set l G hRk_68 (p0 := z_74) (by omega) (p1 := p1) (by omega) (p2 := p2) (by omega) (by omega) (by omega) (by omega) (by intro q9; first | exact absurd rfl q9 | assumption | exact hSk (by omega))) gX5_viewPut_X5_set rfl dv_X5_set hRk_68.1.1 rfl rfl (Nat.le_of_ble_eq_true rfl) (by rw [hRf]; decide) (by rw [hRl]; decide) (by omega) (by omega) dX5_viewPut_79 (fun r9 M_75 H locs hq hw => ?_)
            obtain ⟨z_76, rfl, hz_76a, hz_76b, hx5k_77, brk_77, fvvk_77, hRk_77⟩ := hq
            have h_78 := hIi_69.x5 hx5k_77
            show W p l e R s m args below meth c H locs _ _ _ (F0 m 82 ls [.int (iN (z_76))])
            refine lv_goto (tgt := 88) hC.1 hC.2.1 dX5_viewPut_82 (by decide) ?_
            exact x_iret hC hw dX5_viewPut_88 (by omega) (by omega) ⟨z_76, rfl, by omega, ⟨_, _, _, _, _, _, _, _, _, _, _, _, _, _, _, _, _, _, _, _, hRk_77⟩⟩
        · refine x_const hC dX5_viewPut_40 ?_
          exact x_iret hC hw dX5_viewPut_41 (by omega) (by omega) ⟨0, rfl, by omega, ⟨_, _, _, _, _, _, _, _, _, _, _, _, _, _, _, _, _, _, _, _, hRk_59⟩⟩
set_option maxHeartbeats 4000000 in
set_option maxRecDepth 100000 in
theorem c_X5_viewStrike (l : Launch) (G : xG) {M : HM} {a va oa wa ya : Nat} {wk : Option Nat} {th rfd br re la ha kp kv : Int32} {qv qw : Nat → Nat} {fa fb : Nat → Option Nat} {fvv fw : Nat → Nat → Int32} {fo : Nat → Int32} {fy : Nat → Option Nat} {S : Nat → Bool} (hR : MGx G M a va oa wa ya wk th rfd br re la ha kp kv qv qw fa fb fvv fw fo fy S) {p0 : Int} (hp0 : -2147483648 ≤ p0 ∧ p0 ≤ 2147483647) {p1 : Int} (hp1 : -2147483648 ≤ p1 ∧ p1 ≤ 2147483647) : xMet l G yX5_viewStrike wsX5_viewStrike 3 67 0 0 [.ref a, .int (iN (p0)), .int (iN (p1))] M (fun r M1 => ∃ z : Int, r = some (.int (iN z)) ∧ (-2147483648 ≤ z ∧ z ≤ 2147483647) ∧ MGm G M1 a rfd S) := by
  refine x_intro (cc := cX5_viewStrike) (maxL := 3) (ret := (some .int)) (by decide +kernel) rfl (Nat.le_of_ble_eq_true rfl) ?_
  intro p e R s m args below meth c ls hRf hRc hRs hRl hC hw hl
  have hinX5 : ∀ w ∈ wsX50, w ∈ wsX5_viewStrike := by decide +kernel
  have hl : lv_has ls 3 [(0, .ref a), (1, .int (iN (p0))), (2, .int (iN (p1)))] := hl
  refine lv_aload_n hC.1 hC.2.1 dX5_viewStrike_0 rfl (lv_at hl 0 rfl) ?_
  refine lv_aload_n hC.1 hC.2.1 dX5_viewStrike_1 rfl (lv_at hl 0 rfl) ?_
  refine lv_iload_n hC.1 hC.2.1 dX5_viewStrike_2 rfl (lv_at hl 1 rfl) ?_
  refine x_callV hC hw (lv_size hl) (c_X5_isNoView l G hR (p0 := p0) (by omega)) gX5_viewStrike_X5_isNoView rfl dv_X5_isNoView hR.1.1 rfl rfl (Nat.le_of_ble_eq_true rfl) (by rw [hRf]; decide) (by rw [hRl]; decide) (by omega) (by omega) dX5_viewStrike_3 (fun r9 M_1 H locs hq hw => ?_)
  obtain ⟨z_2, rfl, hM9, hz_2a, hz_2b, hz_2n⟩ := hq
  rw [hM9] at hw
  show W p l e R s m args below meth c H locs _ _ _ (F0 m 6 ls [.int (iN (z_2)), .ref a])
  refine x_const hC dX5_viewStrike_6 ?_
  refine x_callV hC hw (lv_size hl) (c_X5_start l G hR (p0 := z_2) (by omega) (p1 := 1) (by omega) (by omega)) gX5_viewStrike_X5_start rfl dv_X5_start hR.1.1 rfl rfl (Nat.le_of_ble_eq_true rfl) (by rw [hRf]; decide) (by rw [hRl]; decide) (by omega) (by omega) dX5_viewStrike_7 (fun r9 M_3 H locs hq hw => ?_)
  obtain ⟨z_4, rfl, hz_4a, hz_4b, thk_5, hRk_5⟩ := hq
  show W p l e R s m args below meth c H locs _ _ _ (F0 m 10 ls [.int (iN (z_4))])
  refine x_if_ne (tgt := 25) hC ⟨by omega, by omega⟩ dX5_viewStrike_10 (by decide) (fun c_6 => ?_) (fun c_6 => ?_)
  · refine x_const hC dX5_viewStrike_25 ?_
    exact x_iret hC hw dX5_viewStrike_26 (by omega) (by omega) ⟨0, rfl, by omega, ⟨_, _, _, _, _, _, _, _, _, _, _, _, _, _, _, _, _, _, _, _, hRk_5⟩⟩
  · refine lv_aload_n hC.1 hC.2.1 dX5_viewStrike_13 rfl (lv_at hl 0 rfl) ?_
    refine lv_iload_n hC.1 hC.2.1 dX5_viewStrike_14 rfl (lv_at hl 2 rfl) ?_
    refine x_callS hC hw (lv_size hl) (c_X5_isNoKey l G (M := M_3) (p0 := p1) (by omega)) gX5_viewStrike_X5_isNoKey rfl dv_X5_isNoKey_s rfl (Nat.le_of_ble_eq_true rfl) (by rw [hRf]; decide) (by rw [hRl]; decide) (by omega) (by omega) dX5_viewStrike_15 (fun r9 M_7 H locs hq hw => ?_)
    obtain ⟨z_8, rfl, hM9, hz_8a, hz_8b⟩ := hq
    rw [hM9] at hw
    show W p l e R s m args below meth c H locs _ _ _ (F0 m 18 ls [.int (iN (z_8)), .ref a])
    refine x_const hC dX5_viewStrike_18 ?_
    refine x_callV hC hw (lv_size hl) (c_X5_refuse l G hRk_5 (p0 := z_8) (by omega) (p1 := 2) (by omega) (by omega)) gX5_viewStrike_X5_refuse rfl dv_X5_refuse hRk_5.1.1 rfl rfl (Nat.le_of_ble_eq_true rfl) (by rw [hRf]; decide) (by rw [hRl]; decide) (by omega) (by omega) dX5_viewStrike_19 (fun r9 M_9 H locs hq hw => ?_)
    obtain ⟨z_10, rfl, hz_10a, hz_10b, thk_11, hRk_11⟩ := hq
    show W p l e R s m args below meth c H locs _ _ _ (F0 m 22 ls [.int (iN (z_10))])
    refine x_if_eq (tgt := 27) hC ⟨by omega, by omega⟩ dX5_viewStrike_22 (by decide) (fun c_12 => ?_) (fun c_12 => ?_)
    · refine lv_aload_n hC.1 hC.2.1 dX5_viewStrike_27 rfl (lv_at hl 0 rfl) ?_
      refine lv_aload_n hC.1 hC.2.1 dX5_viewStrike_28 rfl (lv_at hl 0 rfl) ?_
      refine x_get hC hw hRk_11.1.1 rfl hinX5 5 (by decide) (by decide +kernel) rfl dX5_viewStrike_29 ?_
      refine lv_iload_n hC.1 hC.2.1 dX5_viewStrike_32 rfl (lv_at hl 1 rfl) ?_
      refine x_ald4 hC hw hRk_11.1.2.2.2.2.1 (by omega) (by omega) (by omega) dX5_viewStrike_33 ?_
      obtain ⟨y_13, hy_14⟩ := x_some (hz_2n (by omega))
      rw [hy_14]
      obtain ⟨fi_15, hIi_15⟩ := (hRk_11.vw (show (p0).toNat < 4 by omega) hy_14)
      obtain ⟨hvt_16, hat_16, hbt_16, hct_16, hdt_16, het_16⟩ := id hIi_15
      show W p l e R s m args below meth c _ _ _ _ _ (F0 m 34 ls [.ref y_13, .ref a])
      refine x_const hC dX5_viewStrike_34 ?_
      refine x_iald hC hw hIi_15.1 (by omega) (by omega) (by omega) dX5_viewStrike_35 ?_
      obtain ⟨z_17, hz_17⟩ : ∃ z : Int, z = (fi_15 (0 : Int).toNat).toInt := ⟨_, rfl⟩
      rw [← hz_17]
      have hz_17' : z_17 = (fi_15 0).toInt := hz_17
      have hrz_17 : -2147483648 ≤ z_17 ∧ z_17 ≤ 2147483647 := by rw [hz_17]; exact iN_rng _
      refine x_callV hC hw (lv_size hl) (c_X5_touch l G hRk_11 (p0 := z_17) (by omega)) gX5_viewStrike_X5_touch rfl dv_X5_touch hRk_11.1.1 rfl rfl (Nat.le_of_ble_eq_true rfl) (by rw [hRf]; decide) (by rw [hRl]; decide) (by omega) (by omega) dX5_viewStrike_36 (fun r9 M_18 H locs hq hw => ?_)
      obtain ⟨rfl, hak_20, hRk_20⟩ := hq
      show W p l e R s m args below meth c H locs _ _ _ (F0 m 39 ls [])
      refine lv_aload_n hC.1 hC.2.1 dX5_viewStrike_39 rfl (lv_at hl 0 rfl) ?_
      refine lv_aload_n hC.1 hC.2.1 dX5_viewStrike_40 rfl (lv_at hl 0 rfl) ?_
      refine x_get hC hw hRk_20.1.1 rfl hinX5 5 (by decide) (by decide +kernel) rfl dX5_viewStrike_41 ?_
      refine lv_iload_n hC.1 hC.2.1 dX5_viewStrike_44 rfl (lv_at hl 1 rfl) ?_
      refine x_ald4 hC hw hRk_20.1.2.2.2.2.1 (by omega) (by omega) (by omega) dX5_viewStrike_45 ?_
      rw [hy_14]
      obtain ⟨fi_21, hIi_21⟩ := (hRk_20.vw (show (p0).toNat < 4 by omega) hy_14)
      obtain ⟨hvt_22, hat_22, hbt_22, hct_22, hdt_22, het_22⟩ := id hIi_21
      show W p l e R s m args below meth c _ _ _ _ _ (F0 m 46 ls [.ref y_13, .ref a])
      refine lv_iload_n hC.1 hC.2.1 dX5_viewStrike_46 rfl (lv_at hl 2 rfl) ?_
      refine x_callV hC hw (lv_size hl) (c_X5_shows l G hRk_20 hIi_21 (p0 := p1) (by omega) (by omega)) gX5_viewStrike_X5_shows rfl dv_X5_shows hRk_20.1.1 rfl rfl (Nat.le_of_ble_eq_true rfl) (by rw [hRf]; decide) (by rw [hRl]; decide) (by omega) (by omega) dX5_viewStrike_47 (fun r9 M_23 H locs hq hw => ?_)
      obtain ⟨z_24, rfl, hM9, hz_24a, hz_24S⟩ := hq
      rw [hM9] at hw
      show W p l e R s m args below meth c H locs _ _ _ (F0 m 50 ls [.int (iN (z_24))])
      refine x_if_eq (tgt := 72) hC ⟨by omega, by omega⟩ dX5_viewStrike_50 (by decide) (fun c_25 => ?_) (fun c_25 => ?_)
      · refine x_sipush hC dX5_viewStrike_72 (by decide +kernel) ?_
        exact x_iret hC hw dX5_viewStrike_75 (by omega) (by omega) ⟨(-10000), rfl, by omega, ⟨_, _, _, _, _, _, _, _, _, _, _, _, _, _, _, _, _, _, _, _, hRk_20⟩⟩
      · refine lv_aload_n hC.1 hC.2.1 dX5_viewStrike_53 rfl (lv_at hl 0 rfl) ?_
        refine lv_aload_n hC.1 hC.2.1 dX5_viewStrike_54 rfl (lv_at hl 0 rfl) ?_
        refine x_get hC hw hRk_20.1.1 rfl hinX5 5 (by decide) (by decide +kernel) rfl dX5_viewStrike_55 ?_
        refine lv_iload_n hC.1 hC.2.1 dX5_viewStrike_58 rfl (lv_at hl 1 rfl) ?_
        refine x_ald4 hC hw hRk_20.1.2.2.2.2.1 (by omega) (by omega) (by omega) dX5_viewStrike_59 ?_
        rw [hy_14]
        show W p l e R s m args below meth c _ _ _ _ _ (F0 m 60 ls [.ref y_13, .ref a])
        refine x_const hC dX5_viewStrike_60 ?_
        refine x_iald hC hw hIi_21.1 (by omega) (by omega) (by omega) dX5_viewStrike_61 ?_
        obtain ⟨z_26, hz_26⟩ : ∃ z : Int, z = (fi_21 (0 : Int).toNat).toInt := ⟨_, rfl⟩
        rw [← hz_26]
        have hz_26' : z_26 = (fi_21 0).toInt := hz_26
        have hrz_26 : -2147483648 ≤ z_26 ∧ z_26 ≤ 2147483647 := by rw [hz_26]; exact iN_rng _
        refine lv_iload_n hC.1 hC.2.1 dX5_viewStrike_62 rfl (lv_at hl 2 rfl) ?_
        refine x_sipush hC dX5_viewStrike_63 (by decide +kernel) ?_
        refine x_callV hC hw (lv_size hl) (c_X5_set l G hRk_20 (p0 := z_26) (by omega) (p1 := p1) (by omega) (p2 := (-10000)) (by omega) (by omega) (by omega) (by omega) (fun q9 => absurd rfl q9)) gX5_viewStrike_X5_set rfl dv_X5_set hRk_20.1.1 rfl rfl (Nat.le_of_ble_eq_true rfl) (by rw [hRf]; decide) (by rw [hRl]; decide) (by omega) (by omega) dX5_viewStrike_66 (fun r9 M_27 H locs hq hw => ?_)
        obtain ⟨z_28, rfl, hz_28a, hz_28b, hx5k_29, brk_29, fvvk_29, hRk_29⟩ := hq
        have h_30 := hIi_21.x5 hx5k_29
        show W p l e R s m args below meth c H locs _ _ _ (F0 m 69 ls [.int (iN (z_28))])
        refine lv_goto (tgt := 75) hC.1 hC.2.1 dX5_viewStrike_69 (by decide) ?_
        exact x_iret hC hw dX5_viewStrike_75 (by omega) (by omega) ⟨z_28, rfl, by omega, ⟨_, _, _, _, _, _, _, _, _, _, _, _, _, _, _, _, _, _, _, _, hRk_29⟩⟩
    · refine x_const hC dX5_viewStrike_25 ?_
      exact x_iret hC hw dX5_viewStrike_26 (by omega) (by omega) ⟨0, rfl, by omega, ⟨_, _, _, _, _, _, _, _, _, _, _, _, _, _, _, _, _, _, _, _, hRk_11⟩⟩
set_option maxHeartbeats 4000000 in
set_option maxRecDepth 100000 in
theorem c_X5_viewMerge (l : Launch) (G : xG) {M : HM} {a va oa wa ya : Nat} {wk : Option Nat} {th rfd br re la ha kp kv : Int32} {qv qw : Nat → Nat} {fa fb : Nat → Option Nat} {fvv fw : Nat → Nat → Int32} {fo : Nat → Int32} {fy : Nat → Option Nat} {S : Nat → Bool} (hR : MGx G M a va oa wa ya wk th rfd br re la ha kp kv qv qw fa fb fvv fw fo fy S) {p0 : Int} (hp0 : -2147483648 ≤ p0 ∧ p0 ≤ 2147483647) {p1 : Int} (hp1 : -2147483648 ≤ p1 ∧ p1 ≤ 2147483647) {p2 : Int} (hp2 : -2147483648 ≤ p2 ∧ p2 ≤ 2147483647) (hSk : 0 ≤ p1 ∧ p1 ≤ 99 → S p1.toNat = true) : xMet l G yX5_viewMerge wsX5_viewMerge 2 49 0 0 [.ref a, .int (iN (p0)), .int (iN (p1)), .int (iN (p2))] M (fun r M1 => ∃ z : Int, r = some (.int (iN z)) ∧ (-2147483648 ≤ z ∧ z ≤ 2147483647) ∧ MGm G M1 a rfd S) := by
  refine x_intro (cc := cX5_viewMerge) (maxL := 4) (ret := (some .int)) (by decide +kernel) rfl (Nat.le_of_ble_eq_true rfl) ?_
  intro p e R s m args below meth c ls hRf hRc hRs hRl hC hw hl
  have hinX5 : ∀ w ∈ wsX50, w ∈ wsX5_viewMerge := by decide +kernel
  have hl : lv_has ls 4 [(0, .ref a), (1, .int (iN (p0))), (2, .int (iN (p1))), (3, .int (iN (p2)))] := hl
  refine lv_aload_n hC.1 hC.2.1 dX5_viewMerge_0 rfl (lv_at hl 0 rfl) ?_
  refine lv_aload_n hC.1 hC.2.1 dX5_viewMerge_1 rfl (lv_at hl 0 rfl) ?_
  refine lv_iload_n hC.1 hC.2.1 dX5_viewMerge_2 rfl (lv_at hl 1 rfl) ?_
  refine x_callV hC hw (lv_size hl) (c_X5_isNoView l G hR (p0 := p0) (by omega)) gX5_viewMerge_X5_isNoView rfl dv_X5_isNoView hR.1.1 rfl rfl (Nat.le_of_ble_eq_true rfl) (by rw [hRf]; decide) (by rw [hRl]; decide) (by omega) (by omega) dX5_viewMerge_3 (fun r9 M_1 H locs hq hw => ?_)
  obtain ⟨z_2, rfl, hM9, hz_2a, hz_2b, hz_2n⟩ := hq
  rw [hM9] at hw
  show W p l e R s m args below meth c H locs _ _ _ (F0 m 6 ls [.int (iN (z_2)), .ref a])
  refine x_const hC dX5_viewMerge_6 ?_
  refine x_callV hC hw (lv_size hl) (c_X5_start l G hR (p0 := z_2) (by omega) (p1 := 1) (by omega) (by omega)) gX5_viewMerge_X5_start rfl dv_X5_start hR.1.1 rfl rfl (Nat.le_of_ble_eq_true rfl) (by rw [hRf]; decide) (by rw [hRl]; decide) (by omega) (by omega) dX5_viewMerge_7 (fun r9 M_3 H locs hq hw => ?_)
  obtain ⟨z_4, rfl, hz_4a, hz_4b, thk_5, hRk_5⟩ := hq
  show W p l e R s m args below meth c H locs _ _ _ (F0 m 10 ls [.int (iN (z_4))])
  refine x_if_ne (tgt := 40) hC ⟨by omega, by omega⟩ dX5_viewMerge_10 (by decide) (fun c_6 => ?_) (fun c_6 => ?_)
  · refine x_const hC dX5_viewMerge_40 ?_
    exact x_iret hC hw dX5_viewMerge_41 (by omega) (by omega) ⟨0, rfl, by omega, ⟨_, _, _, _, _, _, _, _, _, _, _, _, _, _, _, _, _, _, _, _, hRk_5⟩⟩
  · refine lv_aload_n hC.1 hC.2.1 dX5_viewMerge_13 rfl (lv_at hl 0 rfl) ?_
    refine lv_iload_n hC.1 hC.2.1 dX5_viewMerge_14 rfl (lv_at hl 2 rfl) ?_
    refine x_callS hC hw (lv_size hl) (c_X5_isNoKey l G (M := M_3) (p0 := p1) (by omega)) gX5_viewMerge_X5_isNoKey rfl dv_X5_isNoKey_s rfl (Nat.le_of_ble_eq_true rfl) (by rw [hRf]; decide) (by rw [hRl]; decide) (by omega) (by omega) dX5_viewMerge_15 (fun r9 M_7 H locs hq hw => ?_)
    obtain ⟨z_8, rfl, hM9, hz_8a, hz_8b⟩ := hq
    rw [hM9] at hw
    show W p l e R s m args below meth c H locs _ _ _ (F0 m 18 ls [.int (iN (z_8)), .ref a])
    refine x_if_ne (tgt := 28) hC ⟨by omega, by omega⟩ dX5_viewMerge_18 (by decide) (fun c_9 => ?_) (fun c_9 => ?_)
    · refine x_const hC dX5_viewMerge_28 ?_
      refine lv_goto (tgt := 33) hC.1 hC.2.1 dX5_viewMerge_29 (by decide) ?_
      refine x_const hC dX5_viewMerge_33 ?_
      refine x_callV hC hw (lv_size hl) (c_X5_refuse l G hRk_5 (p0 := 1) (by omega) (p1 := 2) (by omega) (by omega)) gX5_viewMerge_X5_refuse rfl dv_X5_refuse hRk_5.1.1 rfl rfl (Nat.le_of_ble_eq_true rfl) (by rw [hRf]; decide) (by rw [hRl]; decide) (by omega) (by omega) dX5_viewMerge_34 (fun r9 M_10 H locs hq hw => ?_)
      obtain ⟨z_11, rfl, hz_11a, hz_11b, thk_12, hRk_12⟩ := hq
      show W p l e R s m args below meth c H locs _ _ _ (F0 m 37 ls [.int (iN (z_11))])
      refine x_if_eq (tgt := 42) hC ⟨by omega, by omega⟩ dX5_viewMerge_37 (by decide) (fun c_13 => ?_) (fun c_13 => ?_)
      · refine lv_aload_n hC.1 hC.2.1 dX5_viewMerge_42 rfl (lv_at hl 0 rfl) ?_
        refine lv_aload_n hC.1 hC.2.1 dX5_viewMerge_43 rfl (lv_at hl 0 rfl) ?_
        refine x_get hC hw hRk_12.1.1 rfl hinX5 5 (by decide) (by decide +kernel) rfl dX5_viewMerge_44 ?_
        refine lv_iload_n hC.1 hC.2.1 dX5_viewMerge_47 rfl (lv_at hl 1 rfl) ?_
        refine x_ald4 hC hw hRk_12.1.2.2.2.2.1 (by omega) (by omega) (by omega) dX5_viewMerge_48 ?_
        obtain ⟨y_14, hy_15⟩ := x_some (hz_2n (by omega))
        rw [hy_15]
        obtain ⟨fi_16, hIi_16⟩ := (hRk_12.vw (show (p0).toNat < 4 by omega) hy_15)
        obtain ⟨hvt_17, hat_17, hbt_17, hct_17, hdt_17, het_17⟩ := id hIi_16
        show W p l e R s m args below meth c _ _ _ _ _ (F0 m 49 ls [.ref y_14, .ref a])
        refine x_const hC dX5_viewMerge_49 ?_
        refine x_iald hC hw hIi_16.1 (by omega) (by omega) (by omega) dX5_viewMerge_50 ?_
        obtain ⟨z_18, hz_18⟩ : ∃ z : Int, z = (fi_16 (0 : Int).toNat).toInt := ⟨_, rfl⟩
        rw [← hz_18]
        have hz_18' : z_18 = (fi_16 0).toInt := hz_18
        have hrz_18 : -2147483648 ≤ z_18 ∧ z_18 ≤ 2147483647 := by rw [hz_18]; exact iN_rng _
        refine x_callV hC hw (lv_size hl) (c_X5_touch l G hRk_12 (p0 := z_18) (by omega)) gX5_viewMerge_X5_touch rfl dv_X5_touch hRk_12.1.1 rfl rfl (Nat.le_of_ble_eq_true rfl) (by rw [hRf]; decide) (by rw [hRl]; decide) (by omega) (by omega) dX5_viewMerge_51 (fun r9 M_19 H locs hq hw => ?_)
        obtain ⟨rfl, hak_21, hRk_21⟩ := hq
        show W p l e R s m args below meth c H locs _ _ _ (F0 m 54 ls [])
        refine lv_aload_n hC.1 hC.2.1 dX5_viewMerge_54 rfl (lv_at hl 0 rfl) ?_
        refine lv_aload_n hC.1 hC.2.1 dX5_viewMerge_55 rfl (lv_at hl 0 rfl) ?_
        refine x_get hC hw hRk_21.1.1 rfl hinX5 5 (by decide) (by decide +kernel) rfl dX5_viewMerge_56 ?_
        refine lv_iload_n hC.1 hC.2.1 dX5_viewMerge_59 rfl (lv_at hl 1 rfl) ?_
        refine x_ald4 hC hw hRk_21.1.2.2.2.2.1 (by omega) (by omega) (by omega) dX5_viewMerge_60 ?_
        rw [hy_15]
        obtain ⟨fi_22, hIi_22⟩ := (hRk_21.vw (show (p0).toNat < 4 by omega) hy_15)
        obtain ⟨hvt_23, hat_23, hbt_23, hct_23, hdt_23, het_23⟩ := id hIi_22
        show W p l e R s m args below meth c _ _ _ _ _ (F0 m 61 ls [.ref y_14, .ref a])
        refine lv_iload_n hC.1 hC.2.1 dX5_viewMerge_61 rfl (lv_at hl 2 rfl) ?_
        refine x_callV hC hw (lv_size hl) (c_X5_isWithin l G hRk_21 hIi_22 (p0 := p1) (by omega) (by omega)) gX5_viewMerge_X5_isWithin rfl dv_X5_isWithin hRk_21.1.1 rfl rfl (Nat.le_of_ble_eq_true rfl) (by rw [hRf]; decide) (by rw [hRl]; decide) (by omega) (by omega) dX5_viewMerge_62 (fun r9 M_24 H locs hq hw => ?_)
        obtain ⟨z_25, rfl, hM9, hz_25a⟩ := hq
        rw [hM9] at hw
        show W p l e R s m args below meth c H locs _ _ _ (F0 m 65 ls [.int (iN (z_25))])
        refine x_if_eq (tgt := 85) hC ⟨by omega, by omega⟩ dX5_viewMerge_65 (by decide) (fun c_26 => ?_) (fun c_26 => ?_)
        · refine x_sipush hC dX5_viewMerge_85 (by decide +kernel) ?_
          exact x_iret hC hw dX5_viewMerge_88 (by omega) (by omega) ⟨(-20000), rfl, by omega, ⟨_, _, _, _, _, _, _, _, _, _, _, _, _, _, _, _, _, _, _, _, hRk_21⟩⟩
        · refine lv_aload_n hC.1 hC.2.1 dX5_viewMerge_68 rfl (lv_at hl 0 rfl) ?_
          refine lv_aload_n hC.1 hC.2.1 dX5_viewMerge_69 rfl (lv_at hl 0 rfl) ?_
          refine x_get hC hw hRk_21.1.1 rfl hinX5 5 (by decide) (by decide +kernel) rfl dX5_viewMerge_70 ?_
          refine lv_iload_n hC.1 hC.2.1 dX5_viewMerge_73 rfl (lv_at hl 1 rfl) ?_
          refine x_ald4 hC hw hRk_21.1.2.2.2.2.1 (by omega) (by omega) (by omega) dX5_viewMerge_74 ?_
          rw [hy_15]
          show W p l e R s m args below meth c _ _ _ _ _ (F0 m 75 ls [.ref y_14, .ref a])
          refine x_const hC dX5_viewMerge_75 ?_
          refine x_iald hC hw hIi_22.1 (by omega) (by omega) (by omega) dX5_viewMerge_76 ?_
          obtain ⟨z_27, hz_27⟩ : ∃ z : Int, z = (fi_22 (0 : Int).toNat).toInt := ⟨_, rfl⟩
          rw [← hz_27]
          have hz_27' : z_27 = (fi_22 0).toInt := hz_27
          have hrz_27 : -2147483648 ≤ z_27 ∧ z_27 ≤ 2147483647 := by rw [hz_27]; exact iN_rng _
          refine lv_iload_n hC.1 hC.2.1 dX5_viewMerge_77 rfl (lv_at hl 2 rfl) ?_
          refine lv_iload_n hC.1 hC.2.1 dX5_viewMerge_78 rfl (lv_at hl 3 rfl) ?_
          refine x_callV hC hw (lv_size hl) (c_X5_mergeOf l G hRk_21 (p0 := z_27) (by omega) (p1 := p1) (by omega) (p2 := p2) (by omega) (by omega) (by omega) (by omega) (by first | assumption | exact hSk (by omega) | assumption)) gX5_viewMerge_X5_mergeOf rfl dv_X5_mergeOf hRk_21.1.1 rfl rfl (Nat.le_of_ble_eq_true rfl) (by rw [hRf]; decide) (by rw [hRl]; decide) (by omega) (by omega) dX5_viewMerge_79 (fun r9 M_28 H locs hq hw => ?_)
          obtain ⟨z_29, rfl, hz_29a, brk_30, fvvk_30, hRk_30⟩ := hq
          show W p l e R s m args below meth c H locs _ _ _ (F0 m 82 ls [.int (iN (z_29))])
          refine lv_goto (tgt := 88) hC.1 hC.2.1 dX5_viewMerge_82 (by decide) ?_
          exact x_iret hC hw dX5_viewMerge_88 (by omega) (by omega) ⟨z_29, rfl, by omega, ⟨_, _, _, _, _, _, _, _, _, _, _, _, _, _, _, _, _, _, _, _, hRk_30⟩⟩
      · refine x_const hC dX5_viewMerge_40 ?_
        exact x_iret hC hw dX5_viewMerge_41 (by omega) (by omega) ⟨0, rfl, by omega, ⟨_, _, _, _, _, _, _, _, _, _, _, _, _, _, _, _, _, _, _, _, hRk_12⟩⟩
    · refine lv_iload_n hC.1 hC.2.1 dX5_viewMerge_21 rfl (lv_at hl 3 rfl) ?_
      refine x_callS hC hw (lv_size hl) (c_X5_isNoValue l G (M := M_3) (p0 := p2) (by omega)) gX5_viewMerge_X5_isNoValue rfl dv_X5_isNoValue_s rfl (Nat.le_of_ble_eq_true rfl) (by rw [hRf]; decide) (by rw [hRl]; decide) (by omega) (by omega) dX5_viewMerge_22 (fun r9 M_31 H locs hq hw => ?_)
      obtain ⟨z_32, rfl, hM9, hz_32a, hz_32b⟩ := hq
      rw [hM9] at hw
      show W p l e R s m args below meth c H locs _ _ _ (F0 m 25 ls [.int (iN (z_32)), .ref a])
      refine x_if_eq (tgt := 32) hC ⟨by omega, by omega⟩ dX5_viewMerge_25 (by decide) (fun c_33 => ?_) (fun c_33 => ?_)
      · refine x_const hC dX5_viewMerge_32 ?_
        refine x_const hC dX5_viewMerge_33 ?_
        refine x_callV hC hw (lv_size hl) (c_X5_refuse l G hRk_5 (p0 := 0) (by omega) (p1 := 2) (by omega) (by omega)) gX5_viewMerge_X5_refuse rfl dv_X5_refuse hRk_5.1.1 rfl rfl (Nat.le_of_ble_eq_true rfl) (by rw [hRf]; decide) (by rw [hRl]; decide) (by omega) (by omega) dX5_viewMerge_34 (fun r9 M_34 H locs hq hw => ?_)
        obtain ⟨z_35, rfl, hz_35a, hz_35b, thk_36, hRk_36⟩ := hq
        show W p l e R s m args below meth c H locs _ _ _ (F0 m 37 ls [.int (iN (z_35))])
        refine x_if_eq (tgt := 42) hC ⟨by omega, by omega⟩ dX5_viewMerge_37 (by decide) (fun c_37 => ?_) (fun c_37 => ?_)
        · refine lv_aload_n hC.1 hC.2.1 dX5_viewMerge_42 rfl (lv_at hl 0 rfl) ?_
          refine lv_aload_n hC.1 hC.2.1 dX5_viewMerge_43 rfl (lv_at hl 0 rfl) ?_
          refine x_get hC hw hRk_36.1.1 rfl hinX5 5 (by decide) (by decide +kernel) rfl dX5_viewMerge_44 ?_
          refine lv_iload_n hC.1 hC.2.1 dX5_viewMerge_47 rfl (lv_at hl 1 rfl) ?_
          refine x_ald4 hC hw hRk_36.1.2.2.2.2.1 (by omega) (by omega) (by omega) dX5_viewMerge_48 ?_
          obtain ⟨y_38, hy_39⟩ := x_some (hz_2n (by omega))
          rw [hy_39]
          obtain ⟨fi_40, hIi_40⟩ := (hRk_36.vw (show (p0).toNat < 4 by omega) hy_39)
          obtain ⟨hvt_41, hat_41, hbt_41, hct_41, hdt_41, het_41⟩ := id hIi_40
          show W p l e R s m args below meth c _ _ _ _ _ (F0 m 49 ls [.ref y_38, .ref a])
          refine x_const hC dX5_viewMerge_49 ?_
          refine x_iald hC hw hIi_40.1 (by omega) (by omega) (by omega) dX5_viewMerge_50 ?_
          obtain ⟨z_42, hz_42⟩ : ∃ z : Int, z = (fi_40 (0 : Int).toNat).toInt := ⟨_, rfl⟩
          rw [← hz_42]
          have hz_42' : z_42 = (fi_40 0).toInt := hz_42
          have hrz_42 : -2147483648 ≤ z_42 ∧ z_42 ≤ 2147483647 := by rw [hz_42]; exact iN_rng _
          refine x_callV hC hw (lv_size hl) (c_X5_touch l G hRk_36 (p0 := z_42) (by omega)) gX5_viewMerge_X5_touch rfl dv_X5_touch hRk_36.1.1 rfl rfl (Nat.le_of_ble_eq_true rfl) (by rw [hRf]; decide) (by rw [hRl]; decide) (by omega) (by omega) dX5_viewMerge_51 (fun r9 M_43 H locs hq hw => ?_)
          obtain ⟨rfl, hak_45, hRk_45⟩ := hq
          show W p l e R s m args below meth c H locs _ _ _ (F0 m 54 ls [])
          refine lv_aload_n hC.1 hC.2.1 dX5_viewMerge_54 rfl (lv_at hl 0 rfl) ?_
          refine lv_aload_n hC.1 hC.2.1 dX5_viewMerge_55 rfl (lv_at hl 0 rfl) ?_
          refine x_get hC hw hRk_45.1.1 rfl hinX5 5 (by decide) (by decide +kernel) rfl dX5_viewMerge_56 ?_
          refine lv_iload_n hC.1 hC.2.1 dX5_viewMerge_59 rfl (lv_at hl 1 rfl) ?_
          refine x_ald4 hC hw hRk_45.1.2.2.2.2.1 (by omega) (by omega) (by omega) dX5_viewMerge_60 ?_
          rw [hy_39]
          obtain ⟨fi_46, hIi_46⟩ := (hRk_45.vw (show (p0).toNat < 4 by omega) hy_39)
          obtain ⟨hvt_47, hat_47, hbt_47, hct_47, hdt_47, het_47⟩ := id hIi_46
          show W p l e R s m args below meth c _ _ _ _ _ (F0 m 61 ls [.ref y_38, .ref a])
          refine lv_iload_n hC.1 hC.2.1 dX5_viewMerge_61 rfl (lv_at hl 2 rfl) ?_
          refine x_callV hC hw (lv_size hl) (c_X5_isWithin l G hRk_45 hIi_46 (p0 := p1) (by omega) (by omega)) gX5_viewMerge_X5_isWithin rfl dv_X5_isWithin hRk_45.1.1 rfl rfl (Nat.le_of_ble_eq_true rfl) (by rw [hRf]; decide) (by rw [hRl]; decide) (by omega) (by omega) dX5_viewMerge_62 (fun r9 M_48 H locs hq hw => ?_)
          obtain ⟨z_49, rfl, hM9, hz_49a⟩ := hq
          rw [hM9] at hw
          show W p l e R s m args below meth c H locs _ _ _ (F0 m 65 ls [.int (iN (z_49))])
          refine x_if_eq (tgt := 85) hC ⟨by omega, by omega⟩ dX5_viewMerge_65 (by decide) (fun c_50 => ?_) (fun c_50 => ?_)
          · refine x_sipush hC dX5_viewMerge_85 (by decide +kernel) ?_
            exact x_iret hC hw dX5_viewMerge_88 (by omega) (by omega) ⟨(-20000), rfl, by omega, ⟨_, _, _, _, _, _, _, _, _, _, _, _, _, _, _, _, _, _, _, _, hRk_45⟩⟩
          · refine lv_aload_n hC.1 hC.2.1 dX5_viewMerge_68 rfl (lv_at hl 0 rfl) ?_
            refine lv_aload_n hC.1 hC.2.1 dX5_viewMerge_69 rfl (lv_at hl 0 rfl) ?_
            refine x_get hC hw hRk_45.1.1 rfl hinX5 5 (by decide) (by decide +kernel) rfl dX5_viewMerge_70 ?_
            refine lv_iload_n hC.1 hC.2.1 dX5_viewMerge_73 rfl (lv_at hl 1 rfl) ?_
            refine x_ald4 hC hw hRk_45.1.2.2.2.2.1 (by omega) (by omega) (by omega) dX5_viewMerge_74 ?_
            rw [hy_39]
            show W p l e R s m args below meth c _ _ _ _ _ (F0 m 75 ls [.ref y_38, .ref a])
            refine x_const hC dX5_viewMerge_75 ?_
            refine x_iald hC hw hIi_46.1 (by omega) (by omega) (by omega) dX5_viewMerge_76 ?_
            obtain ⟨z_51, hz_51⟩ : ∃ z : Int, z = (fi_46 (0 : Int).toNat).toInt := ⟨_, rfl⟩
            rw [← hz_51]
            have hz_51' : z_51 = (fi_46 0).toInt := hz_51
            have hrz_51 : -2147483648 ≤ z_51 ∧ z_51 ≤ 2147483647 := by rw [hz_51]; exact iN_rng _
            refine lv_iload_n hC.1 hC.2.1 dX5_viewMerge_77 rfl (lv_at hl 2 rfl) ?_
            refine lv_iload_n hC.1 hC.2.1 dX5_viewMerge_78 rfl (lv_at hl 3 rfl) ?_
            refine x_callV hC hw (lv_size hl) (c_X5_mergeOf l G hRk_45 (p0 := z_51) (by omega) (p1 := p1) (by omega) (p2 := p2) (by omega) (by omega) (by omega) (by omega) (by first | assumption | exact hSk (by omega) | assumption)) gX5_viewMerge_X5_mergeOf rfl dv_X5_mergeOf hRk_45.1.1 rfl rfl (Nat.le_of_ble_eq_true rfl) (by rw [hRf]; decide) (by rw [hRl]; decide) (by omega) (by omega) dX5_viewMerge_79 (fun r9 M_52 H locs hq hw => ?_)
            obtain ⟨z_53, rfl, hz_53a, brk_54, fvvk_54, hRk_54⟩ := hq
            show W p l e R s m args below meth c H locs _ _ _ (F0 m 82 ls [.int (iN (z_53))])
            refine lv_goto (tgt := 88) hC.1 hC.2.1 dX5_viewMerge_82 (by decide) ?_
            exact x_iret hC hw dX5_viewMerge_88 (by omega) (by omega) ⟨z_53, rfl, by omega, ⟨_, _, _, _, _, _, _, _, _, _, _, _, _, _, _, _, _, _, _, _, hRk_54⟩⟩
        · refine x_const hC dX5_viewMerge_40 ?_
          exact x_iret hC hw dX5_viewMerge_41 (by omega) (by omega) ⟨0, rfl, by omega, ⟨_, _, _, _, _, _, _, _, _, _, _, _, _, _, _, _, _, _, _, _, hRk_36⟩⟩
      · refine x_const hC dX5_viewMerge_28 ?_
        refine lv_goto (tgt := 33) hC.1 hC.2.1 dX5_viewMerge_29 (by decide) ?_
        refine x_const hC dX5_viewMerge_33 ?_
        refine x_callV hC hw (lv_size hl) (c_X5_refuse l G hRk_5 (p0 := 1) (by omega) (p1 := 2) (by omega) (by omega)) gX5_viewMerge_X5_refuse rfl dv_X5_refuse hRk_5.1.1 rfl rfl (Nat.le_of_ble_eq_true rfl) (by rw [hRf]; decide) (by rw [hRl]; decide) (by omega) (by omega) dX5_viewMerge_34 (fun r9 M_55 H locs hq hw => ?_)
        obtain ⟨z_56, rfl, hz_56a, hz_56b, thk_57, hRk_57⟩ := hq
        show W p l e R s m args below meth c H locs _ _ _ (F0 m 37 ls [.int (iN (z_56))])
        refine x_if_eq (tgt := 42) hC ⟨by omega, by omega⟩ dX5_viewMerge_37 (by decide) (fun c_58 => ?_) (fun c_58 => ?_)
        · refine lv_aload_n hC.1 hC.2.1 dX5_viewMerge_42 rfl (lv_at hl 0 rfl) ?_
          refine lv_aload_n hC.1 hC.2.1 dX5_viewMerge_43 rfl (lv_at hl 0 rfl) ?_
          refine x_get hC hw hRk_57.1.1 rfl hinX5 5 (by decide) (by decide +kernel) rfl dX5_viewMerge_44 ?_
          refine lv_iload_n hC.1 hC.2.1 dX5_viewMerge_47 rfl (lv_at hl 1 rfl) ?_
          refine x_ald4 hC hw hRk_57.1.2.2.2.2.1 (by omega) (by omega) (by omega) dX5_viewMerge_48 ?_
          obtain ⟨y_59, hy_60⟩ := x_some (hz_2n (by omega))
          rw [hy_60]
          obtain ⟨fi_61, hIi_61⟩ := (hRk_57.vw (show (p0).toNat < 4 by omega) hy_60)
          obtain ⟨hvt_62, hat_62, hbt_62, hct_62, hdt_62, het_62⟩ := id hIi_61
          show W p l e R s m args below meth c _ _ _ _ _ (F0 m 49 ls [.ref y_59, .ref a])
          refine x_const hC dX5_viewMerge_49 ?_
          refine x_iald hC hw hIi_61.1 (by omega) (by omega) (by omega) dX5_viewMerge_50 ?_
          obtain ⟨z_63, hz_63⟩ : ∃ z : Int, z = (fi_61 (0 : Int).toNat).toInt := ⟨_, rfl⟩
          rw [← hz_63]
          have hz_63' : z_63 = (fi_61 0).toInt := hz_63
          have hrz_63 : -2147483648 ≤ z_63 ∧ z_63 ≤ 2147483647 := by rw [hz_63]; exact iN_rng _
          refine x_callV hC hw (lv_size hl) (c_X5_touch l G hRk_57 (p0 := z_63) (by omega)) gX5_viewMerge_X5_touch rfl dv_X5_touch hRk_57.1.1 rfl rfl (Nat.le_of_ble_eq_true rfl) (by rw [hRf]; decide) (by rw [hRl]; decide) (by omega) (by omega) dX5_viewMerge_51 (fun r9 M_64 H locs hq hw => ?_)
          obtain ⟨rfl, hak_66, hRk_66⟩ := hq
          show W p l e R s m args below meth c H locs _ _ _ (F0 m 54 ls [])
          refine lv_aload_n hC.1 hC.2.1 dX5_viewMerge_54 rfl (lv_at hl 0 rfl) ?_
          refine lv_aload_n hC.1 hC.2.1 dX5_viewMerge_55 rfl (lv_at hl 0 rfl) ?_
          refine x_get hC hw hRk_66.1.1 rfl hinX5 5 (by decide) (by decide +kernel) rfl dX5_viewMerge_56 ?_
          refine lv_iload_n hC.1 hC.2.1 dX5_viewMerge_59 rfl (lv_at hl 1 rfl) ?_
          refine x_ald4 hC hw hRk_66.1.2.2.2.2.1 (by omega) (by omega) (by omega) dX5_viewMerge_60 ?_
          rw [hy_60]
          obtain ⟨fi_67, hIi_67⟩ := (hRk_66.vw (show (p0).toNat < 4 by omega) hy_60)
          obtain ⟨hvt_68, hat_68, hbt_68, hct_68, hdt_68, het_68⟩ := id hIi_67
          show W p l e R s m args below meth c _ _ _ _ _ (F0 m 61 ls [.ref y_59, .ref a])
          refine lv_iload_n hC.1 hC.2.1 dX5_viewMerge_61 rfl (lv_at hl 2 rfl) ?_
          refine x_callV hC hw (lv_size hl) (c_X5_isWithin l G hRk_66 hIi_67 (p0 := p1) (by omega) (by omega)) gX5_viewMerge_X5_isWithin rfl dv_X5_isWithin hRk_66.1.1 rfl rfl (Nat.le_of_ble_eq_true rfl) (by rw [hRf]; decide) (by rw [hRl]; decide) (by omega) (by omega) dX5_viewMerge_62 (fun r9 M_69 H locs hq hw => ?_)
          obtain ⟨z_70, rfl, hM9, hz_70a⟩ := hq
          rw [hM9] at hw
          show W p l e R s m args below meth c H locs _ _ _ (F0 m 65 ls [.int (iN (z_70))])
          refine x_if_eq (tgt := 85) hC ⟨by omega, by omega⟩ dX5_viewMerge_65 (by decide) (fun c_71 => ?_) (fun c_71 => ?_)
          · refine x_sipush hC dX5_viewMerge_85 (by decide +kernel) ?_
            exact x_iret hC hw dX5_viewMerge_88 (by omega) (by omega) ⟨(-20000), rfl, by omega, ⟨_, _, _, _, _, _, _, _, _, _, _, _, _, _, _, _, _, _, _, _, hRk_66⟩⟩
          · refine lv_aload_n hC.1 hC.2.1 dX5_viewMerge_68 rfl (lv_at hl 0 rfl) ?_
            refine lv_aload_n hC.1 hC.2.1 dX5_viewMerge_69 rfl (lv_at hl 0 rfl) ?_
            refine x_get hC hw hRk_66.1.1 rfl hinX5 5 (by decide) (by decide +kernel) rfl dX5_viewMerge_70 ?_
            refine lv_iload_n hC.1 hC.2.1 dX5_viewMerge_73 rfl (lv_at hl 1 rfl) ?_
            refine x_ald4 hC hw hRk_66.1.2.2.2.2.1 (by omega) (by omega) (by omega) dX5_viewMerge_74 ?_
            rw [hy_60]
            show W p l e R s m args below meth c _ _ _ _ _ (F0 m 75 ls [.ref y_59, .ref a])
            refine x_const hC dX5_viewMerge_75 ?_
            refine x_iald hC hw hIi_67.1 (by omega) (by omega) (by omega) dX5_viewMerge_76 ?_
            obtain ⟨z_72, hz_72⟩ : ∃ z : Int, z = (fi_67 (0 : Int).toNat).toInt := ⟨_, rfl⟩
            rw [← hz_72]
            have hz_72' : z_72 = (fi_67 0).toInt := hz_72
            have hrz_72 : -2147483648 ≤ z_72 ∧ z_72 ≤ 2147483647 := by rw [hz_72]; exact iN_rng _
            refine lv_iload_n hC.1 hC.2.1 dX5_viewMerge_77 rfl (lv_at hl 2 rfl) ?_
            refine lv_iload_n hC.1 hC.2.1 dX5_viewMerge_78 rfl (lv_at hl 3 rfl) ?_
            refine x_callV hC hw (lv_size hl) (c_X5_mergeOf l G hRk_66 (p0 := z_72) (by omega) (p1 := p1) (by omega) (p2 := p2) (by omega) (by omega) (by omega) (by omega) (by first | assumption | exact hSk (by omega) | assumption)) gX5_viewMerge_X5_mergeOf rfl dv_X5_mergeOf hRk_66.1.1 rfl rfl (Nat.le_of_ble_eq_true rfl) (by rw [hRf]; decide) (by rw [hRl]; decide) (by omega) (by omega) dX5_viewMerge_79 (fun r9 M_73 H locs hq hw => ?_)
            obtain ⟨z_74, rfl, hz_74a, brk_75, fvvk_75, hRk_75⟩ := hq
            show W p l e R s m args below meth c H locs _ _ _ (F0 m 82 ls [.int (iN (z_74))])
            refine lv_goto (tgt := 88) hC.1 hC.2.1 dX5_viewMerge_82 (by decide) ?_
            exact x_iret hC hw dX5_viewMerge_88 (by omega) (by omega) ⟨z_74, rfl, by omega, ⟨_, _, _, _, _, _, _, _, _, _, _, _, _, _, _, _, _, _, _, _, hRk_75⟩⟩
        · refine x_const hC dX5_viewMerge_40 ?_
          exact x_iret hC hw dX5_viewMerge_41 (by omega) (by omega) ⟨0, rfl, by omega, ⟨_, _, _, _, _, _, _, _, _, _, _, _, _, _, _, _, _, _, _, _, hRk_57⟩⟩
set_option maxHeartbeats 4000000 in
set_option maxRecDepth 100000 in
theorem c_X5_viewPoll (l : Launch) (G : xG) {M : HM} {a va oa wa ya : Nat} {wk : Option Nat} {th rfd br re la ha kp kv : Int32} {qv qw : Nat → Nat} {fa fb : Nat → Option Nat} {fvv fw : Nat → Nat → Int32} {fo : Nat → Int32} {fy : Nat → Option Nat} {S : Nat → Bool} (hR : MGx G M a va oa wa ya wk th rfd br re la ha kp kv qv qw fa fb fvv fw fo fy S) {p0 : Int} (hp0 : -2147483648 ≤ p0 ∧ p0 ≤ 2147483647) {p1 : Int} (hp1 : -2147483648 ≤ p1 ∧ p1 ≤ 2147483647) : xMet l G yX5_viewPoll wsX5_viewPoll 5 115 0 0 [.ref a, .int (iN (p0)), .int (iN (p1))] M (fun r M1 => ∃ z : Int, r = some (.int (iN z)) ∧ (-2147483648 ≤ z ∧ z ≤ 2147483647) ∧ MGm G M1 a rfd S) := by
  refine x_intro (cc := cX5_viewPoll) (maxL := 4) (ret := (some .int)) (by decide +kernel) rfl (Nat.le_of_ble_eq_true rfl) ?_
  intro p e R s m args below meth c ls hRf hRc hRs hRl hC hw hl
  have hinX5 : ∀ w ∈ wsX50, w ∈ wsX5_viewPoll := by decide +kernel
  have hl : lv_has ls 4 [(0, .ref a), (1, .int (iN (p0))), (2, .int (iN (p1)))] := hl
  refine lv_aload_n hC.1 hC.2.1 dX5_viewPoll_0 rfl (lv_at hl 0 rfl) ?_
  refine lv_aload_n hC.1 hC.2.1 dX5_viewPoll_1 rfl (lv_at hl 0 rfl) ?_
  refine lv_iload_n hC.1 hC.2.1 dX5_viewPoll_2 rfl (lv_at hl 1 rfl) ?_
  refine x_callV hC hw (lv_size hl) (c_X5_isNoView l G hR (p0 := p0) (by omega)) gX5_viewPoll_X5_isNoView rfl dv_X5_isNoView hR.1.1 rfl rfl (Nat.le_of_ble_eq_true rfl) (by rw [hRf]; decide) (by rw [hRl]; decide) (by omega) (by omega) dX5_viewPoll_3 (fun r9 M_1 H locs hq hw => ?_)
  obtain ⟨z_2, rfl, hM9, hz_2a, hz_2b, hz_2n⟩ := hq
  rw [hM9] at hw
  show W p l e R s m args below meth c H locs _ _ _ (F0 m 6 ls [.int (iN (z_2)), .ref a])
  refine x_const hC dX5_viewPoll_6 ?_
  refine x_callV hC hw (lv_size hl) (c_X5_start l G hR (p0 := z_2) (by omega) (p1 := 1) (by omega) (by omega)) gX5_viewPoll_X5_start rfl dv_X5_start hR.1.1 rfl rfl (Nat.le_of_ble_eq_true rfl) (by rw [hRf]; decide) (by rw [hRl]; decide) (by omega) (by omega) dX5_viewPoll_7 (fun r9 M_3 H locs hq hw => ?_)
  obtain ⟨z_4, rfl, hz_4a, hz_4b, thk_5, hRk_5⟩ := hq
  show W p l e R s m args below meth c H locs _ _ _ (F0 m 10 ls [.int (iN (z_4))])
  refine x_if_eq (tgt := 15) hC ⟨by omega, by omega⟩ dX5_viewPoll_10 (by decide) (fun c_6 => ?_) (fun c_6 => ?_)
  · refine lv_aload_n hC.1 hC.2.1 dX5_viewPoll_15 rfl (lv_at hl 0 rfl) ?_
    refine lv_aload_n hC.1 hC.2.1 dX5_viewPoll_16 rfl (lv_at hl 0 rfl) ?_
    refine x_get hC hw hRk_5.1.1 rfl hinX5 5 (by decide) (by decide +kernel) rfl dX5_viewPoll_17 ?_
    refine lv_iload_n hC.1 hC.2.1 dX5_viewPoll_20 rfl (lv_at hl 1 rfl) ?_
    refine x_ald4 hC hw hRk_5.1.2.2.2.2.1 (by omega) (by omega) (by omega) dX5_viewPoll_21 ?_
    obtain ⟨y_7, hy_8⟩ := x_some (hz_2n (by omega))
    rw [hy_8]
    obtain ⟨fi_9, hIi_9⟩ := (hRk_5.vw (show (p0).toNat < 4 by omega) hy_8)
    obtain ⟨hvt_10, hat_10, hbt_10, hct_10, hdt_10, het_10⟩ := id hIi_9
    show W p l e R s m args below meth c _ _ _ _ _ (F0 m 22 ls [.ref y_7, .ref a])
    refine x_const hC dX5_viewPoll_22 ?_
    refine x_iald hC hw hIi_9.1 (by omega) (by omega) (by omega) dX5_viewPoll_23 ?_
    obtain ⟨z_11, hz_11⟩ : ∃ z : Int, z = (fi_9 (0 : Int).toNat).toInt := ⟨_, rfl⟩
    rw [← hz_11]
    have hz_11' : z_11 = (fi_9 0).toInt := hz_11
    have hrz_11 : -2147483648 ≤ z_11 ∧ z_11 ≤ 2147483647 := by rw [hz_11]; exact iN_rng _
    refine x_callV hC hw (lv_size hl) (c_X5_touch l G hRk_5 (p0 := z_11) (by omega)) gX5_viewPoll_X5_touch rfl dv_X5_touch hRk_5.1.1 rfl rfl (Nat.le_of_ble_eq_true rfl) (by rw [hRf]; decide) (by rw [hRl]; decide) (by omega) (by omega) dX5_viewPoll_24 (fun r9 M_12 H locs hq hw => ?_)
    obtain ⟨rfl, hak_14, hRk_14⟩ := hq
    show W p l e R s m args below meth c H locs _ _ _ (F0 m 27 ls [])
    refine lv_aload_n hC.1 hC.2.1 dX5_viewPoll_27 rfl (lv_at hl 0 rfl) ?_
    refine lv_aload_n hC.1 hC.2.1 dX5_viewPoll_28 rfl (lv_at hl 0 rfl) ?_
    refine x_get hC hw hRk_14.1.1 rfl hinX5 5 (by decide) (by decide +kernel) rfl dX5_viewPoll_29 ?_
    refine lv_iload_n hC.1 hC.2.1 dX5_viewPoll_32 rfl (lv_at hl 1 rfl) ?_
    refine x_ald4 hC hw hRk_14.1.2.2.2.2.1 (by omega) (by omega) (by omega) dX5_viewPoll_33 ?_
    rw [hy_8]
    obtain ⟨fi_15, hIi_15⟩ := (hRk_14.vw (show (p0).toNat < 4 by omega) hy_8)
    obtain ⟨hvt_16, hat_16, hbt_16, hct_16, hdt_16, het_16⟩ := id hIi_15
    show W p l e R s m args below meth c _ _ _ _ _ (F0 m 34 ls [.ref y_7, .ref a])
    refine lv_iload_n hC.1 hC.2.1 dX5_viewPoll_34 rfl (lv_at hl 2 rfl) ?_
    refine x_callV hC hw (lv_size hl) (c_X5_end l G hRk_14 hIi_15 (p0 := p1) (by omega)) gX5_viewPoll_X5_end rfl dv_X5_end hRk_14.1.1 rfl rfl (Nat.le_of_ble_eq_true rfl) (by rw [hRf]; decide) (by rw [hRl]; decide) (by omega) (by omega) dX5_viewPoll_35 (fun r9 M_17 H locs hq hw => ?_)
    obtain ⟨z_18, rfl, hM9, hz_18a, hz_18S⟩ := hq
    rw [hM9] at hw
    show W p l e R s m args below meth c H locs _ _ _ (F0 m 38 ls [.int (iN (z_18))])
    refine lv_istore_n (lv' := [(3, .int (iN (z_18))), (0, .ref a), (1, .int (iN (p0))), (2, .int (iN (p1)))]) hC.1 hC.2.1 dX5_viewPoll_38 rfl hl (by decide) rfl (fun ls hl => ?_)
    refine lv_iload_n hC.1 hC.2.1 dX5_viewPoll_39 rfl (lv_at hl 0 rfl) ?_
    refine x_sipush hC dX5_viewPoll_40 (by decide +kernel) ?_
    refine x_icmp_eq (tgt := 63) hC ⟨by omega, by omega⟩ ⟨by omega, by omega⟩ dX5_viewPoll_43 (by decide) (fun c_19 => ?_) (fun c_19 => ?_)
    · refine lv_iload_n hC.1 hC.2.1 dX5_viewPoll_63 rfl (lv_at hl 0 rfl) ?_
      exact x_iret hC hw dX5_viewPoll_64 (by omega) (by omega) ⟨z_18, rfl, by omega, ⟨_, _, _, _, _, _, _, _, _, _, _, _, _, _, _, _, _, _, _, _, hRk_14⟩⟩
    · refine lv_aload_n hC.1 hC.2.1 dX5_viewPoll_46 rfl (lv_at hl 1 rfl) ?_
      refine lv_aload_n hC.1 hC.2.1 dX5_viewPoll_47 rfl (lv_at hl 1 rfl) ?_
      refine x_get hC hw hRk_14.1.1 rfl hinX5 5 (by decide) (by decide +kernel) rfl dX5_viewPoll_48 ?_
      refine lv_iload_n hC.1 hC.2.1 dX5_viewPoll_51 rfl (lv_at hl 2 rfl) ?_
      refine x_ald4 hC hw hRk_14.1.2.2.2.2.1 (by omega) (by omega) (by omega) dX5_viewPoll_52 ?_
      rw [hy_8]
      show W p l e R s m args below meth c _ _ _ _ _ (F0 m 53 ls [.ref y_7, .ref a])
      refine x_const hC dX5_viewPoll_53 ?_
      refine x_iald hC hw hIi_15.1 (by omega) (by omega) (by omega) dX5_viewPoll_54 ?_
      obtain ⟨z_20, hz_20⟩ : ∃ z : Int, z = (fi_15 (0 : Int).toNat).toInt := ⟨_, rfl⟩
      rw [← hz_20]
      have hz_20' : z_20 = (fi_15 0).toInt := hz_20
      have hrz_20 : -2147483648 ≤ z_20 ∧ z_20 ≤ 2147483647 := by rw [hz_20]; exact iN_rng _
      refine lv_iload_n hC.1 hC.2.1 dX5_viewPoll_55 rfl (lv_at hl 0 rfl) ?_
      refine x_sipush hC dX5_viewPoll_56 (by decide +kernel) ?_
      refine x_callV hC hw (lv_size hl) (c_X5_set l G hRk_14 (p0 := z_20) (by omega) (p1 := z_18) (by omega) (p2 := (-10000)) (by omega) (by omega) (by omega) (by omega) (fun q9 => absurd rfl q9)) gX5_viewPoll_X5_set rfl dv_X5_set hRk_14.1.1 rfl rfl (Nat.le_of_ble_eq_true rfl) (by rw [hRf]; decide) (by rw [hRl]; decide) (by omega) (by omega) dX5_viewPoll_59 (fun r9 M_21 H locs hq hw => ?_)
      obtain ⟨z_22, rfl, hz_22a, hz_22b, hx5k_23, brk_23, fvvk_23, hRk_23⟩ := hq
      have h_24 := hIi_15.x5 hx5k_23
      show W p l e R s m args below meth c H locs _ _ _ (F0 m 62 ls [.int (iN (z_22))])
      refine lv_pop hC.1 hC.2.1 dX5_viewPoll_62 rfl ?_
      refine lv_iload_n hC.1 hC.2.1 dX5_viewPoll_63 rfl (lv_at hl 0 rfl) ?_
      exact x_iret hC hw dX5_viewPoll_64 (by omega) (by omega) ⟨z_18, rfl, by omega, ⟨_, _, _, _, _, _, _, _, _, _, _, _, _, _, _, _, _, _, _, _, hRk_23⟩⟩
  · refine x_const hC dX5_viewPoll_13 ?_
    exact x_iret hC hw dX5_viewPoll_14 (by omega) (by omega) ⟨0, rfl, by omega, ⟨_, _, _, _, _, _, _, _, _, _, _, _, _, _, _, _, _, _, _, _, hRk_5⟩⟩
set_option maxHeartbeats 4000000 in
set_option maxRecDepth 100000 in
theorem c_X5_viewClear (l : Launch) (G : xG) {M : HM} {a va oa wa ya : Nat} {wk : Option Nat} {th rfd br re la ha kp kv : Int32} {qv qw : Nat → Nat} {fa fb : Nat → Option Nat} {fvv fw : Nat → Nat → Int32} {fo : Nat → Int32} {fy : Nat → Option Nat} {S : Nat → Bool} (hR : MGx G M a va oa wa ya wk th rfd br re la ha kp kv qv qw fa fb fvv fw fo fy S) {p0 : Int} (hp0 : -2147483648 ≤ p0 ∧ p0 ≤ 2147483647) : xMet l G yX5_viewClear wsX5_viewClear 4 90 0 0 [.ref a, .int (iN (p0))] M (fun r M1 => ∃ z : Int, r = some (.int (iN z)) ∧ (-2147483648 ≤ z ∧ z ≤ 2147483647) ∧ MGm G M1 a rfd S) := by
  refine x_intro (cc := cX5_viewClear) (maxL := 2) (ret := (some .int)) (by decide +kernel) rfl (Nat.le_of_ble_eq_true rfl) ?_
  intro p e R s m args below meth c ls hRf hRc hRs hRl hC hw hl
  have hinX5 : ∀ w ∈ wsX50, w ∈ wsX5_viewClear := by decide +kernel
  have hl : lv_has ls 2 [(0, .ref a), (1, .int (iN (p0)))] := hl
  refine lv_aload_n hC.1 hC.2.1 dX5_viewClear_0 rfl (lv_at hl 0 rfl) ?_
  refine lv_aload_n hC.1 hC.2.1 dX5_viewClear_1 rfl (lv_at hl 0 rfl) ?_
  refine lv_iload_n hC.1 hC.2.1 dX5_viewClear_2 rfl (lv_at hl 1 rfl) ?_
  refine x_callV hC hw (lv_size hl) (c_X5_isNoView l G hR (p0 := p0) (by omega)) gX5_viewClear_X5_isNoView rfl dv_X5_isNoView hR.1.1 rfl rfl (Nat.le_of_ble_eq_true rfl) (by rw [hRf]; decide) (by rw [hRl]; decide) (by omega) (by omega) dX5_viewClear_3 (fun r9 M_1 H locs hq hw => ?_)
  obtain ⟨z_2, rfl, hM9, hz_2a, hz_2b, hz_2n⟩ := hq
  rw [hM9] at hw
  show W p l e R s m args below meth c H locs _ _ _ (F0 m 6 ls [.int (iN (z_2)), .ref a])
  refine x_const hC dX5_viewClear_6 ?_
  refine x_callV hC hw (lv_size hl) (c_X5_start l G hR (p0 := z_2) (by omega) (p1 := 1) (by omega) (by omega)) gX5_viewClear_X5_start rfl dv_X5_start hR.1.1 rfl rfl (Nat.le_of_ble_eq_true rfl) (by rw [hRf]; decide) (by rw [hRl]; decide) (by omega) (by omega) dX5_viewClear_7 (fun r9 M_3 H locs hq hw => ?_)
  obtain ⟨z_4, rfl, hz_4a, hz_4b, thk_5, hRk_5⟩ := hq
  show W p l e R s m args below meth c H locs _ _ _ (F0 m 10 ls [.int (iN (z_4))])
  refine x_if_eq (tgt := 15) hC ⟨by omega, by omega⟩ dX5_viewClear_10 (by decide) (fun c_6 => ?_) (fun c_6 => ?_)
  · refine lv_aload_n hC.1 hC.2.1 dX5_viewClear_15 rfl (lv_at hl 0 rfl) ?_
    refine lv_aload_n hC.1 hC.2.1 dX5_viewClear_16 rfl (lv_at hl 0 rfl) ?_
    refine x_get hC hw hRk_5.1.1 rfl hinX5 5 (by decide) (by decide +kernel) rfl dX5_viewClear_17 ?_
    refine lv_iload_n hC.1 hC.2.1 dX5_viewClear_20 rfl (lv_at hl 1 rfl) ?_
    refine x_ald4 hC hw hRk_5.1.2.2.2.2.1 (by omega) (by omega) (by omega) dX5_viewClear_21 ?_
    obtain ⟨y_7, hy_8⟩ := x_some (hz_2n (by omega))
    rw [hy_8]
    obtain ⟨fi_9, hIi_9⟩ := (hRk_5.vw (show (p0).toNat < 4 by omega) hy_8)
    obtain ⟨hvt_10, hat_10, hbt_10, hct_10, hdt_10, het_10⟩ := id hIi_9
    show W p l e R s m args below meth c _ _ _ _ _ (F0 m 22 ls [.ref y_7, .ref a])
    refine x_const hC dX5_viewClear_22 ?_
    refine x_iald hC hw hIi_9.1 (by omega) (by omega) (by omega) dX5_viewClear_23 ?_
    obtain ⟨z_11, hz_11⟩ : ∃ z : Int, z = (fi_9 (0 : Int).toNat).toInt := ⟨_, rfl⟩
    rw [← hz_11]
    have hz_11' : z_11 = (fi_9 0).toInt := hz_11
    have hrz_11 : -2147483648 ≤ z_11 ∧ z_11 ≤ 2147483647 := by rw [hz_11]; exact iN_rng _
    refine x_callV hC hw (lv_size hl) (c_X5_touch l G hRk_5 (p0 := z_11) (by omega)) gX5_viewClear_X5_touch rfl dv_X5_touch hRk_5.1.1 rfl rfl (Nat.le_of_ble_eq_true rfl) (by rw [hRf]; decide) (by rw [hRl]; decide) (by omega) (by omega) dX5_viewClear_24 (fun r9 M_12 H locs hq hw => ?_)
    obtain ⟨rfl, hak_14, hRk_14⟩ := hq
    show W p l e R s m args below meth c H locs _ _ _ (F0 m 27 ls [])
    refine lv_aload_n hC.1 hC.2.1 dX5_viewClear_27 rfl (lv_at hl 0 rfl) ?_
    refine lv_aload_n hC.1 hC.2.1 dX5_viewClear_28 rfl (lv_at hl 0 rfl) ?_
    refine x_get hC hw hRk_14.1.1 rfl hinX5 5 (by decide) (by decide +kernel) rfl dX5_viewClear_29 ?_
    refine lv_iload_n hC.1 hC.2.1 dX5_viewClear_32 rfl (lv_at hl 1 rfl) ?_
    refine x_ald4 hC hw hRk_14.1.2.2.2.2.1 (by omega) (by omega) (by omega) dX5_viewClear_33 ?_
    rw [hy_8]
    obtain ⟨fi_15, hIi_15⟩ := (hRk_14.vw (show (p0).toNat < 4 by omega) hy_8)
    obtain ⟨hvt_16, hat_16, hbt_16, hct_16, hdt_16, het_16⟩ := id hIi_15
    show W p l e R s m args below meth c _ _ _ _ _ (F0 m 34 ls [.ref y_7, .ref a])
    refine x_callV hC hw (lv_size hl) (c_X5_strikeAll l G hRk_14 hIi_15) gX5_viewClear_X5_strikeAll rfl dv_X5_strikeAll hRk_14.1.1 rfl rfl (Nat.le_of_ble_eq_true rfl) (by rw [hRf]; decide) (by rw [hRl]; decide) (by omega) (by omega) dX5_viewClear_34 (fun r9 M_17 H locs hq hw => ?_)
    obtain ⟨z_18, rfl, hz_18a, brk_19, fvvk_19, hRk_19⟩ := hq
    show W p l e R s m args below meth c H locs _ _ _ (F0 m 37 ls [.int (iN (z_18))])
    exact x_iret hC hw dX5_viewClear_37 (by omega) (by omega) ⟨z_18, rfl, by omega, ⟨_, _, _, _, _, _, _, _, _, _, _, _, _, _, _, _, _, _, _, _, hRk_19⟩⟩
  · refine x_const hC dX5_viewClear_13 ?_
    exact x_iret hC hw dX5_viewClear_14 (by omega) (by omega) ⟨0, rfl, by omega, ⟨_, _, _, _, _, _, _, _, _, _, _, _, _, _, _, _, _, _, _, _, hRk_5⟩⟩
set_option maxHeartbeats 4000000 in
set_option maxRecDepth 100000 in
theorem c_X5_walk (l : Launch) (G : xG) {M : HM} {a va oa wa ya : Nat} {wk : Option Nat} {th rfd br re la ha kp kv : Int32} {qv qw : Nat → Nat} {fa fb : Nat → Option Nat} {fvv fw : Nat → Nat → Int32} {fo : Nat → Int32} {fy : Nat → Option Nat} {S : Nat → Bool} (hR : MGx G M a va oa wa ya wk th rfd br re la ha kp kv qv qw fa fb fvv fw fo fy S) {p0 : Int} (hp0 : -2147483648 ≤ p0 ∧ p0 ≤ 2147483647) : xMet l G yX5_walk wsX5_walk 4 90 1 5 [.ref a, .int (iN (p0))] M (fun r M1 => ∃ z : Int, r = some (.int (iN z)) ∧ (-2147483648 ≤ z ∧ z ≤ 2147483647) ∧ MGm G M1 a rfd S) := by
  refine x_intro (cc := cX5_walk) (maxL := 2) (ret := (some .int)) (by decide +kernel) rfl (Nat.le_of_ble_eq_true rfl) ?_
  intro p e R s m args below meth c ls hRf hRc hRs hRl hC hw hl
  have hinX5 : ∀ w ∈ wsX50, w ∈ wsX5_walk := by decide +kernel
  have hl : lv_has ls 2 [(0, .ref a), (1, .int (iN (p0)))] := hl
  refine lv_aload_n hC.1 hC.2.1 dX5_walk_0 rfl (lv_at hl 0 rfl) ?_
  refine lv_iload_n hC.1 hC.2.1 dX5_walk_1 rfl (lv_at hl 1 rfl) ?_
  refine x_callS hC hw (lv_size hl) (c_X5_isNoBook l G (M := M) (p0 := p0) (by omega)) gX5_walk_X5_isNoBook rfl dv_X5_isNoBook_s rfl (Nat.le_of_ble_eq_true rfl) (by rw [hRf]; decide) (by rw [hRl]; decide) (by omega) (by omega) dX5_walk_2 (fun r9 M_1 H locs hq hw => ?_)
  obtain ⟨z_2, rfl, hM9, hz_2a, hz_2b⟩ := hq
  rw [hM9] at hw
  show W p l e R s m args below meth c H locs _ _ _ (F0 m 5 ls [.int (iN (z_2)), .ref a])
  refine x_const hC dX5_walk_5 ?_
  refine x_callV hC hw (lv_size hl) (c_X5_start l G hR (p0 := z_2) (by omega) (p1 := 1) (by omega) (by omega)) gX5_walk_X5_start rfl dv_X5_start hR.1.1 rfl rfl (Nat.le_of_ble_eq_true rfl) (by rw [hRf]; decide) (by rw [hRl]; decide) (by omega) (by omega) dX5_walk_6 (fun r9 M_3 H locs hq hw => ?_)
  obtain ⟨z_4, rfl, hz_4a, hz_4b, thk_5, hRk_5⟩ := hq
  show W p l e R s m args below meth c H locs _ _ _ (F0 m 9 ls [.int (iN (z_4))])
  refine x_if_eq (tgt := 14) hC ⟨by omega, by omega⟩ dX5_walk_9 (by decide) (fun c_6 => ?_) (fun c_6 => ?_)
  · refine lv_aload_n hC.1 hC.2.1 dX5_walk_14 rfl (lv_at hl 0 rfl) ?_
    refine lv_iload_n hC.1 hC.2.1 dX5_walk_15 rfl (lv_at hl 1 rfl) ?_
    refine x_callS hC hw (lv_size hl) (c_X5_whole l G (M := M_3) (p0 := p0) (by omega) (by omega)) gX5_walk_X5_whole rfl dv_X5_whole_s rfl (Nat.le_of_ble_eq_true rfl) (by rw [hRf]; decide) (by rw [hRl]; decide) (by omega) (by omega) dX5_walk_16 (fun r9 M_7 H locs hq hw => ?_)
    obtain ⟨qk_8, fk_8, rfl, hxk_8, hIk_8, hfk_8⟩ := hq
    have h_9 := hRk_5.ext hxk_8
    obtain ⟨hvt_10, hat_10, hbt_10, hct_10, hdt_10, het_10⟩ := id hIk_8
    show W p l e R s m args below meth c H locs _ _ _ (F0 m 19 ls [.ref qk_8, .ref a])
    refine x_callV hC hw (lv_size hl) (c_X5_begin l G h_9 hIk_8) gX5_walk_X5_begin rfl dv_X5_begin h_9.1.1 rfl rfl (Nat.le_of_ble_eq_true rfl) (by rw [hRf]; decide) (by rw [hRl]; decide) (by omega) (by omega) dX5_walk_19 (fun r9 M_11 H locs hq hw => ?_)
    obtain ⟨rfl, brk_13, rek_13, lak_13, hak_13, hRk_13⟩ := hq
    show W p l e R s m args below meth c H locs _ _ _ (F0 m 22 ls [])
    refine lv_aload_n hC.1 hC.2.1 dX5_walk_22 rfl (lv_at hl 0 rfl) ?_
    refine lv_aload_n hC.1 hC.2.1 dX5_walk_23 rfl (lv_at hl 0 rfl) ?_
    refine x_get hC hw hRk_13.1.1 rfl hinX5 6 (by decide) (by decide +kernel) rfl dX5_walk_24 ?_
    obtain ⟨fi_14, hIi_14⟩ := (hRk_13.wk' rfl)
    obtain ⟨hvt_15, hat_15, hbt_15, hct_15, hdt_15, het_15⟩ := id hIi_14
    show W p l e R s m args below meth c _ _ _ _ _ (F0 m 27 ls [.ref qk_8, .ref a])
    refine x_callV hC hw (lv_size hl) (c_X5_many l G hRk_13 hIi_14) gX5_walk_X5_many rfl dv_X5_many hRk_13.1.1 rfl rfl (Nat.le_of_ble_eq_true rfl) (by rw [hRf]; decide) (by rw [hRl]; decide) (by omega) (by omega) dX5_walk_27 (fun r9 M_16 H locs hq hw => ?_)
    obtain ⟨z_17, rfl, hM9, hz_17a⟩ := hq
    rw [hM9] at hw
    show W p l e R s m args below meth c H locs _ _ _ (F0 m 30 ls [.int (iN (z_17))])
    exact x_iret hC hw dX5_walk_30 (by omega) (by omega) ⟨z_17, rfl, by omega, ⟨_, _, _, _, _, _, _, _, _, _, _, _, _, _, _, _, _, _, _, _, hRk_13⟩⟩
  · refine x_const hC dX5_walk_12 ?_
    exact x_iret hC hw dX5_walk_13 (by omega) (by omega) ⟨0, rfl, by omega, ⟨_, _, _, _, _, _, _, _, _, _, _, _, _, _, _, _, _, _, _, _, hRk_5⟩⟩
set_option maxHeartbeats 4000000 in
set_option maxRecDepth 100000 in
theorem c_X5_viewWalk (l : Launch) (G : xG) {M : HM} {a va oa wa ya : Nat} {wk : Option Nat} {th rfd br re la ha kp kv : Int32} {qv qw : Nat → Nat} {fa fb : Nat → Option Nat} {fvv fw : Nat → Nat → Int32} {fo : Nat → Int32} {fy : Nat → Option Nat} {S : Nat → Bool} (hR : MGx G M a va oa wa ya wk th rfd br re la ha kp kv qv qw fa fb fvv fw fo fy S) {p0 : Int} (hp0 : -2147483648 ≤ p0 ∧ p0 ≤ 2147483647) : xMet l G yX5_viewWalk wsX5_viewWalk 4 90 1 5 [.ref a, .int (iN (p0))] M (fun r M1 => ∃ z : Int, r = some (.int (iN z)) ∧ (-2147483648 ≤ z ∧ z ≤ 2147483647) ∧ MGm G M1 a rfd S) := by
  refine x_intro (cc := cX5_viewWalk) (maxL := 2) (ret := (some .int)) (by decide +kernel) rfl (Nat.le_of_ble_eq_true rfl) ?_
  intro p e R s m args below meth c ls hRf hRc hRs hRl hC hw hl
  have hinX5 : ∀ w ∈ wsX50, w ∈ wsX5_viewWalk := by decide +kernel
  have hl : lv_has ls 2 [(0, .ref a), (1, .int (iN (p0)))] := hl
  refine lv_aload_n hC.1 hC.2.1 dX5_viewWalk_0 rfl (lv_at hl 0 rfl) ?_
  refine lv_aload_n hC.1 hC.2.1 dX5_viewWalk_1 rfl (lv_at hl 0 rfl) ?_
  refine lv_iload_n hC.1 hC.2.1 dX5_viewWalk_2 rfl (lv_at hl 1 rfl) ?_
  refine x_callV hC hw (lv_size hl) (c_X5_isNoView l G hR (p0 := p0) (by omega)) gX5_viewWalk_X5_isNoView rfl dv_X5_isNoView hR.1.1 rfl rfl (Nat.le_of_ble_eq_true rfl) (by rw [hRf]; decide) (by rw [hRl]; decide) (by omega) (by omega) dX5_viewWalk_3 (fun r9 M_1 H locs hq hw => ?_)
  obtain ⟨z_2, rfl, hM9, hz_2a, hz_2b, hz_2n⟩ := hq
  rw [hM9] at hw
  show W p l e R s m args below meth c H locs _ _ _ (F0 m 6 ls [.int (iN (z_2)), .ref a])
  refine x_const hC dX5_viewWalk_6 ?_
  refine x_callV hC hw (lv_size hl) (c_X5_start l G hR (p0 := z_2) (by omega) (p1 := 1) (by omega) (by omega)) gX5_viewWalk_X5_start rfl dv_X5_start hR.1.1 rfl rfl (Nat.le_of_ble_eq_true rfl) (by rw [hRf]; decide) (by rw [hRl]; decide) (by omega) (by omega) dX5_viewWalk_7 (fun r9 M_3 H locs hq hw => ?_)
  obtain ⟨z_4, rfl, hz_4a, hz_4b, thk_5, hRk_5⟩ := hq
  show W p l e R s m args below meth c H locs _ _ _ (F0 m 10 ls [.int (iN (z_4))])
  refine x_if_eq (tgt := 15) hC ⟨by omega, by omega⟩ dX5_viewWalk_10 (by decide) (fun c_6 => ?_) (fun c_6 => ?_)
  · refine lv_aload_n hC.1 hC.2.1 dX5_viewWalk_15 rfl (lv_at hl 0 rfl) ?_
    refine lv_aload_n hC.1 hC.2.1 dX5_viewWalk_16 rfl (lv_at hl 0 rfl) ?_
    refine x_get hC hw hRk_5.1.1 rfl hinX5 5 (by decide) (by decide +kernel) rfl dX5_viewWalk_17 ?_
    refine lv_iload_n hC.1 hC.2.1 dX5_viewWalk_20 rfl (lv_at hl 1 rfl) ?_
    refine x_ald4 hC hw hRk_5.1.2.2.2.2.1 (by omega) (by omega) (by omega) dX5_viewWalk_21 ?_
    obtain ⟨y_7, hy_8⟩ := x_some (hz_2n (by omega))
    rw [hy_8]
    obtain ⟨fi_9, hIi_9⟩ := (hRk_5.vw (show (p0).toNat < 4 by omega) hy_8)
    obtain ⟨hvt_10, hat_10, hbt_10, hct_10, hdt_10, het_10⟩ := id hIi_9
    show W p l e R s m args below meth c _ _ _ _ _ (F0 m 22 ls [.ref y_7, .ref a])
    refine x_clone1 hC hw (lv_size hl) hIi_9.1 (by decide +kernel) (by decide +kernel) (by decide +kernel) (by decide +kernel) (by decide +kernel) (by rw [hRf]; decide) (by rw [hRl]; exact Nat.le_of_ble_eq_true rfl) (by omega) (by omega) dX5_viewWalk_22 (fun q_11 H hq_12 hw => ?_)
    obtain ⟨M_13, hM_14⟩ : ∃ z, z = va_up M_3 q_11 (some (.inl (G.2 1, 5, .inl fi_9))) := ⟨_, rfl⟩
    rw [← hM_14] at hw
    have hx_15 : xExt M_3 M_13 := by rw [hM_14]; exact xExt.new hq_12
    have hI_16 : Its G M_13 q_11 fi_9 := ⟨by rw [hM_14, va_up_self], hIi_9.2⟩
    have h_17 := hRk_5.ext hx_15
    have h_18 := hIi_9.x5 (xExt.x5 hx_15)
    refine x_castI hC hw hI_16.1 (by decide +kernel) dX5_viewWalk_25 ?_
    refine x_callV hC hw (lv_size hl) (c_X5_begin l G h_17 hI_16) gX5_viewWalk_X5_begin rfl dv_X5_begin h_17.1.1 rfl rfl (Nat.le_of_ble_eq_true rfl) (by rw [hRf]; decide) (by rw [hRl]; decide) (by omega) (by omega) dX5_viewWalk_28 (fun r9 M_19 H locs hq hw => ?_)
    obtain ⟨rfl, brk_21, rek_21, lak_21, hak_21, hRk_21⟩ := hq
    show W p l e R s m args below meth c H locs _ _ _ (F0 m 31 ls [])
    refine lv_aload_n hC.1 hC.2.1 dX5_viewWalk_31 rfl (lv_at hl 0 rfl) ?_
    refine lv_aload_n hC.1 hC.2.1 dX5_viewWalk_32 rfl (lv_at hl 0 rfl) ?_
    refine x_get hC hw hRk_21.1.1 rfl hinX5 6 (by decide) (by decide +kernel) rfl dX5_viewWalk_33 ?_
    obtain ⟨fi_22, hIi_22⟩ := (hRk_21.wk' rfl)
    obtain ⟨hvt_23, hat_23, hbt_23, hct_23, hdt_23, het_23⟩ := id hIi_22
    show W p l e R s m args below meth c _ _ _ _ _ (F0 m 36 ls [.ref q_11, .ref a])
    refine x_callV hC hw (lv_size hl) (c_X5_many l G hRk_21 hIi_22) gX5_viewWalk_X5_many rfl dv_X5_many hRk_21.1.1 rfl rfl (Nat.le_of_ble_eq_true rfl) (by rw [hRf]; decide) (by rw [hRl]; decide) (by omega) (by omega) dX5_viewWalk_36 (fun r9 M_24 H locs hq hw => ?_)
    obtain ⟨z_25, rfl, hM9, hz_25a⟩ := hq
    rw [hM9] at hw
    show W p l e R s m args below meth c H locs _ _ _ (F0 m 39 ls [.int (iN (z_25))])
    exact x_iret hC hw dX5_viewWalk_39 (by omega) (by omega) ⟨z_25, rfl, by omega, ⟨_, _, _, _, _, _, _, _, _, _, _, _, _, _, _, _, _, _, _, _, hRk_21⟩⟩
  · refine x_const hC dX5_viewWalk_13 ?_
    exact x_iret hC hw dX5_viewWalk_14 (by omega) (by omega) ⟨0, rfl, by omega, ⟨_, _, _, _, _, _, _, _, _, _, _, _, _, _, _, _, _, _, _, _, hRk_5⟩⟩
set_option maxHeartbeats 4000000 in
set_option maxRecDepth 100000 in
theorem c_X5_step (l : Launch) (G : xG) {M : HM} {a va oa wa ya : Nat} {wk : Option Nat} {th rfd br re la ha kp kv : Int32} {qv qw : Nat → Nat} {fa fb : Nat → Option Nat} {fvv fw : Nat → Nat → Int32} {fo : Nat → Int32} {fy : Nat → Option Nat} {S : Nat → Bool} (hR : MGx G M a va oa wa ya wk th rfd br re la ha kp kv qv qw fa fb fvv fw fo fy S) : xMet l G yX5_step wsX5_step 4 93 0 0 [.ref a] M (fun r M1 => ∃ z : Int, r = some (.int (iN z)) ∧ (-2147483648 ≤ z ∧ z ≤ 2147483647) ∧ MGm G M1 a rfd S) := by
  refine x_intro (cc := cX5_step) (maxL := 2) (ret := (some .int)) (by decide +kernel) rfl (Nat.le_of_ble_eq_true rfl) ?_
  intro p e R s m args below meth c ls hRf hRc hRs hRl hC hw hl
  have hinX5 : ∀ w ∈ wsX50, w ∈ wsX5_step := by decide +kernel
  have hl : lv_has ls 2 [(0, .ref a)] := hl
  refine lv_aload_n hC.1 hC.2.1 dX5_step_0 rfl (lv_at hl 0 rfl) ?_
  refine lv_aload_n hC.1 hC.2.1 dX5_step_1 rfl (lv_at hl 0 rfl) ?_
  refine x_get hC hw hR.1.1 rfl hinX5 6 (by decide) (by decide +kernel) rfl dX5_step_2 ?_
  rcases wk with _ | w_1
  · show W p l e R s m args below meth c _ _ _ _ _ (F0 m 5 ls [.null, .ref a])
    refine lv_ifnullN (tgt := 15) hC.1 hC.2.1 dX5_step_5 (by decide) ?_
    refine x_const hC dX5_step_15 ?_
    refine lv_goto (tgt := 20) hC.1 hC.2.1 dX5_step_16 (by decide) ?_
    refine x_const hC dX5_step_20 ?_
    refine x_callV hC hw (lv_size hl) (c_X5_start l G hR (p0 := 1) (by omega) (p1 := 1) (by omega) (by omega)) gX5_step_X5_start rfl dv_X5_start hR.1.1 rfl rfl (Nat.le_of_ble_eq_true rfl) (by rw [hRf]; decide) (by rw [hRl]; decide) (by omega) (by omega) dX5_step_21 (fun r9 M_2 H locs hq hw => ?_)
    obtain ⟨z_3, rfl, hz_3a, hz_3b, thk_4, hRk_4⟩ := hq
    show W p l e R s m args below meth c H locs _ _ _ (F0 m 24 ls [.int (iN (z_3))])
    refine x_if_eq (tgt := 29) hC ⟨by omega, by omega⟩ dX5_step_24 (by decide) (fun c_5 => ?_) (fun c_5 => ?_)
    · refine lv_aload_n hC.1 hC.2.1 dX5_step_29 rfl (lv_at hl 0 rfl) ?_
      refine lv_aload_n hC.1 hC.2.1 dX5_step_30 rfl (lv_at hl 0 rfl) ?_
      refine x_get hC hw hRk_4.1.1 rfl hinX5 6 (by decide) (by decide +kernel) rfl dX5_step_31 ?_
      show W p l e R s m args below meth c _ _ _ _ _ (F0 m 34 ls [.null, .ref a])
      refine lv_aload_n hC.1 hC.2.1 dX5_step_34 rfl (lv_at hl 0 rfl) ?_
      refine x_getR hC hw hRk_4.1.1 rfl hinX5 8 (by decide) (by decide +kernel) rfl dX5_step_35 ?_
      have hrr_6 := iN_rng re
      refine x_const hC dX5_step_38 ?_
      exfalso; omega
    · refine x_const hC dX5_step_27 ?_
      exact x_iret hC hw dX5_step_28 (by omega) (by omega) ⟨0, rfl, by omega, ⟨_, _, _, _, _, _, _, _, _, _, _, _, _, _, _, _, _, _, _, _, hRk_4⟩⟩
  · obtain ⟨fi_7, hIi_7⟩ := (hR.wk' rfl)
    obtain ⟨hvt_8, hat_8, hbt_8, hct_8, hdt_8, het_8⟩ := id hIi_7
    show W p l e R s m args below meth c _ _ _ _ _ (F0 m 5 ls [.ref w_1, .ref a])
    refine lv_ifnull hC.1 hC.2.1 dX5_step_5 ?_
    refine lv_aload_n hC.1 hC.2.1 dX5_step_8 rfl (lv_at hl 0 rfl) ?_
    refine x_getR hC hw hR.1.1 rfl hinX5 7 (by decide) (by decide +kernel) rfl dX5_step_9 ?_
    have hrr_9 := iN_rng br
    refine x_if_eq (tgt := 19) hC ⟨by omega, by omega⟩ dX5_step_12 (by decide) (fun c_10 => ?_) (fun c_10 => ?_)
    · refine x_const hC dX5_step_19 ?_
      refine x_const hC dX5_step_20 ?_
      refine x_callV hC hw (lv_size hl) (c_X5_start l G hR (p0 := 0) (by omega) (p1 := 1) (by omega) (by omega)) gX5_step_X5_start rfl dv_X5_start hR.1.1 rfl rfl (Nat.le_of_ble_eq_true rfl) (by rw [hRf]; decide) (by rw [hRl]; decide) (by omega) (by omega) dX5_step_21 (fun r9 M_11 H locs hq hw => ?_)
      obtain ⟨z_12, rfl, hz_12a, hz_12b, thk_13, hRk_13⟩ := hq
      show W p l e R s m args below meth c H locs _ _ _ (F0 m 24 ls [.int (iN (z_12))])
      refine x_if_eq (tgt := 29) hC ⟨by omega, by omega⟩ dX5_step_24 (by decide) (fun c_14 => ?_) (fun c_14 => ?_)
      · refine lv_aload_n hC.1 hC.2.1 dX5_step_29 rfl (lv_at hl 0 rfl) ?_
        refine lv_aload_n hC.1 hC.2.1 dX5_step_30 rfl (lv_at hl 0 rfl) ?_
        refine x_get hC hw hRk_13.1.1 rfl hinX5 6 (by decide) (by decide +kernel) rfl dX5_step_31 ?_
        obtain ⟨fi_15, hIi_15⟩ := (hRk_13.wk' rfl)
        obtain ⟨hvt_16, hat_16, hbt_16, hct_16, hdt_16, het_16⟩ := id hIi_15
        show W p l e R s m args below meth c _ _ _ _ _ (F0 m 34 ls [.ref w_1, .ref a])
        refine lv_aload_n hC.1 hC.2.1 dX5_step_34 rfl (lv_at hl 0 rfl) ?_
        refine x_getR hC hw hRk_13.1.1 rfl hinX5 8 (by decide) (by decide +kernel) rfl dX5_step_35 ?_
        have hrr_17 := iN_rng re
        refine x_const hC dX5_step_38 ?_
        refine x_callV hC hw (lv_size hl) (c_X5_closest l G hRk_13 hIi_15 (p0 := re.toInt) (by omega) (p1 := 1) (by omega)) gX5_step_X5_closest rfl dv_X5_closest hRk_13.1.1 rfl rfl (Nat.le_of_ble_eq_true rfl) (by rw [hRf]; decide) (by rw [hRl]; decide) (by omega) (by omega) dX5_step_39 (fun r9 M_18 H locs hq hw => ?_)
        obtain ⟨z_19, rfl, hM9, hz_19a, hz_19S, hz_19w⟩ := hq
        rw [hM9] at hw
        show W p l e R s m args below meth c H locs _ _ _ (F0 m 42 ls [.int (iN (z_19))])
        refine lv_istore_n (lv' := [(1, .int (iN (z_19))), (0, .ref a)]) hC.1 hC.2.1 dX5_step_42 rfl hl (by decide) rfl (fun ls hl => ?_)
        refine lv_iload_n hC.1 hC.2.1 dX5_step_43 rfl (lv_at hl 0 rfl) ?_
        refine x_sipush hC dX5_step_44 (by decide +kernel) ?_
        refine x_icmp_ne (tgt := 54) hC ⟨by omega, by omega⟩ ⟨by omega, by omega⟩ dX5_step_47 (by decide) (fun c_20 => ?_) (fun c_20 => ?_)
        · refine lv_aload_n hC.1 hC.2.1 dX5_step_54 rfl (lv_at hl 1 rfl) ?_
          refine lv_aload_n hC.1 hC.2.1 dX5_step_55 rfl (lv_at hl 1 rfl) ?_
          refine lv_aload_n hC.1 hC.2.1 dX5_step_56 rfl (lv_at hl 1 rfl) ?_
          refine x_get hC hw hRk_13.1.1 rfl hinX5 6 (by decide) (by decide +kernel) rfl dX5_step_57 ?_
          show W p l e R s m args below meth c _ _ _ _ _ (F0 m 60 ls [.ref w_1, .ref a, .ref a])
          refine lv_iload_n hC.1 hC.2.1 dX5_step_60 rfl (lv_at hl 0 rfl) ?_
          refine x_callV hC hw (lv_size hl) (c_X5_weight l G hRk_13 hIi_15 (p0 := z_19) (by omega) (by omega)) gX5_step_X5_weight rfl dv_X5_weight hRk_13.1.1 rfl rfl (Nat.le_of_ble_eq_true rfl) (by rw [hRf]; decide) (by rw [hRl]; decide) (by omega) (by omega) dX5_step_61 (fun r9 M_21 H locs hq hw => ?_)
          obtain ⟨z_22, rfl, hM9, hz_22a, hz_22b⟩ := hq
          rw [hM9] at hw
          show W p l e R s m args below meth c H locs _ _ _ (F0 m 64 ls [.int (iN (z_22)), .ref a])
          refine x_put (fs2 := [.int thk_13, .int rfd, .ref va, .ref oa, .ref wa, .ref ya, .ref w_1, .int br, .int (iN (z_22)), .int la, .int ha, .int kp, .int kv]) hC hw hRk_13.1.1 rfl hinX5 tyX5 tyX5_ok nmX5 8 (by decide) (by decide +kernel) rfl rfl rfl (Nat.le_of_ble_eq_true rfl) rfl dX5_step_64 (fun H locs hw => ?_)
          obtain ⟨M_23, hM_24⟩ : ∃ z, z = va_up M_11 a (some (.inr (7, [.int thk_13, .int rfd, .ref va, .ref oa, .ref wa, .ref ya, .ref w_1, .int br, .int (iN (z_22)), .int la, .int ha, .int kp, .int kv]))) := ⟨_, rfl⟩
          rw [← hM_24] at hw
          have hR_25 : MGx G M_23 a va oa wa ya (some w_1) thk_13 rfd br (iN (z_22)) la ha kp kv qv qw fa fb fvv fw fo fy S := hRk_13.obj hM_24 hRk_13.sc.1 hRk_13.sc.2.1 hRk_13.sc.2.2 (fun y9 h9 => hRk_13.wk' h9)
          have h_26 := hIi_15.x5 (hRk_13.obj5 hM_24)
          refine lv_aload_n hC.1 hC.2.1 dX5_step_67 rfl (lv_at hl 1 rfl) ?_
          refine lv_iload_n hC.1 hC.2.1 dX5_step_68 rfl (lv_at hl 0 rfl) ?_
          refine x_put (fs2 := [.int thk_13, .int rfd, .ref va, .ref oa, .ref wa, .ref ya, .ref w_1, .int br, .int (iN (z_22)), .int (iN (z_19)), .int ha, .int kp, .int kv]) hC hw hR_25.1.1 rfl hinX5 tyX5 tyX5_ok nmX5 9 (by decide) (by decide +kernel) rfl rfl rfl (Nat.le_of_ble_eq_true rfl) rfl dX5_step_69 (fun H locs hw => ?_)
          obtain ⟨M_27, hM_28⟩ : ∃ z, z = va_up M_23 a (some (.inr (7, [.int thk_13, .int rfd, .ref va, .ref oa, .ref wa, .ref ya, .ref w_1, .int br, .int (iN (z_22)), .int (iN (z_19)), .int ha, .int kp, .int kv]))) := ⟨_, rfl⟩
          rw [← hM_28] at hw
          have hR_29 : MGx G M_27 a va oa wa ya (some w_1) thk_13 rfd br (iN (z_22)) (iN (z_19)) ha kp kv qv qw fa fb fvv fw fo fy S := hR_25.obj hM_28 hR_25.sc.1 (by rw [iN_toInt ⟨by omega, by omega⟩]; omega) hR_25.sc.2.2 (fun y9 h9 => hR_25.wk' h9)
          have h_30 := h_26.x5 (hR_25.obj5 hM_28)
          refine lv_aload_n hC.1 hC.2.1 dX5_step_72 rfl (lv_at hl 1 rfl) ?_
          refine lv_iload_n hC.1 hC.2.1 dX5_step_73 rfl (lv_at hl 0 rfl) ?_
          refine x_put (fs2 := [.int thk_13, .int rfd, .ref va, .ref oa, .ref wa, .ref ya, .ref w_1, .int br, .int (iN (z_22)), .int (iN (z_19)), .int (iN (z_19)), .int kp, .int kv]) hC hw hR_29.1.1 rfl hinX5 tyX5 tyX5_ok nmX5 10 (by decide) (by decide +kernel) rfl rfl rfl (Nat.le_of_ble_eq_true rfl) rfl dX5_step_74 (fun H locs hw => ?_)
          obtain ⟨M_31, hM_32⟩ : ∃ z, z = va_up M_27 a (some (.inr (7, [.int thk_13, .int rfd, .ref va, .ref oa, .ref wa, .ref ya, .ref w_1, .int br, .int (iN (z_22)), .int (iN (z_19)), .int (iN (z_19)), .int kp, .int kv]))) := ⟨_, rfl⟩
          rw [← hM_32] at hw
          have hR_33 : MGx G M_31 a va oa wa ya (some w_1) thk_13 rfd br (iN (z_22)) (iN (z_19)) (iN (z_19)) kp kv qv qw fa fb fvv fw fo fy S := hR_29.obj hM_32 hR_29.sc.1 hR_29.sc.2.1 (by rw [iN_toInt ⟨by omega, by omega⟩]; omega) (fun y9 h9 => hR_29.wk' h9)
          have h_34 := h_30.x5 (hR_29.obj5 hM_32)
          refine lv_iload_n hC.1 hC.2.1 dX5_step_77 rfl (lv_at hl 0 rfl) ?_
          exact x_iret hC hw dX5_step_78 (by omega) (by omega) ⟨z_19, rfl, by omega, ⟨_, _, _, _, _, _, _, _, _, _, _, _, _, _, _, _, _, _, _, _, hR_33⟩⟩
        · refine x_sipush hC dX5_step_50 (by decide +kernel) ?_
          exact x_iret hC hw dX5_step_53 (by omega) (by omega) ⟨(-10000), rfl, by omega, ⟨_, _, _, _, _, _, _, _, _, _, _, _, _, _, _, _, _, _, _, _, hRk_13⟩⟩
      · refine x_const hC dX5_step_27 ?_
        exact x_iret hC hw dX5_step_28 (by omega) (by omega) ⟨0, rfl, by omega, ⟨_, _, _, _, _, _, _, _, _, _, _, _, _, _, _, _, _, _, _, _, hRk_13⟩⟩
    · refine x_const hC dX5_step_15 ?_
      refine lv_goto (tgt := 20) hC.1 hC.2.1 dX5_step_16 (by decide) ?_
      refine x_const hC dX5_step_20 ?_
      refine x_callV hC hw (lv_size hl) (c_X5_start l G hR (p0 := 1) (by omega) (p1 := 1) (by omega) (by omega)) gX5_step_X5_start rfl dv_X5_start hR.1.1 rfl rfl (Nat.le_of_ble_eq_true rfl) (by rw [hRf]; decide) (by rw [hRl]; decide) (by omega) (by omega) dX5_step_21 (fun r9 M_35 H locs hq hw => ?_)
      obtain ⟨z_36, rfl, hz_36a, hz_36b, thk_37, hRk_37⟩ := hq
      show W p l e R s m args below meth c H locs _ _ _ (F0 m 24 ls [.int (iN (z_36))])
      refine x_if_eq (tgt := 29) hC ⟨by omega, by omega⟩ dX5_step_24 (by decide) (fun c_38 => ?_) (fun c_38 => ?_)
      · refine lv_aload_n hC.1 hC.2.1 dX5_step_29 rfl (lv_at hl 0 rfl) ?_
        refine lv_aload_n hC.1 hC.2.1 dX5_step_30 rfl (lv_at hl 0 rfl) ?_
        refine x_get hC hw hRk_37.1.1 rfl hinX5 6 (by decide) (by decide +kernel) rfl dX5_step_31 ?_
        obtain ⟨fi_39, hIi_39⟩ := (hRk_37.wk' rfl)
        obtain ⟨hvt_40, hat_40, hbt_40, hct_40, hdt_40, het_40⟩ := id hIi_39
        show W p l e R s m args below meth c _ _ _ _ _ (F0 m 34 ls [.ref w_1, .ref a])
        refine lv_aload_n hC.1 hC.2.1 dX5_step_34 rfl (lv_at hl 0 rfl) ?_
        refine x_getR hC hw hRk_37.1.1 rfl hinX5 8 (by decide) (by decide +kernel) rfl dX5_step_35 ?_
        have hrr_41 := iN_rng re
        refine x_const hC dX5_step_38 ?_
        refine x_callV hC hw (lv_size hl) (c_X5_closest l G hRk_37 hIi_39 (p0 := re.toInt) (by omega) (p1 := 1) (by omega)) gX5_step_X5_closest rfl dv_X5_closest hRk_37.1.1 rfl rfl (Nat.le_of_ble_eq_true rfl) (by rw [hRf]; decide) (by rw [hRl]; decide) (by omega) (by omega) dX5_step_39 (fun r9 M_42 H locs hq hw => ?_)
        obtain ⟨z_43, rfl, hM9, hz_43a, hz_43S, hz_43w⟩ := hq
        rw [hM9] at hw
        show W p l e R s m args below meth c H locs _ _ _ (F0 m 42 ls [.int (iN (z_43))])
        refine lv_istore_n (lv' := [(1, .int (iN (z_43))), (0, .ref a)]) hC.1 hC.2.1 dX5_step_42 rfl hl (by decide) rfl (fun ls hl => ?_)
        refine lv_iload_n hC.1 hC.2.1 dX5_step_43 rfl (lv_at hl 0 rfl) ?_
        refine x_sipush hC dX5_step_44 (by decide +kernel) ?_
        refine x_icmp_ne (tgt := 54) hC ⟨by omega, by omega⟩ ⟨by omega, by omega⟩ dX5_step_47 (by decide) (fun c_44 => ?_) (fun c_44 => ?_)
        · refine lv_aload_n hC.1 hC.2.1 dX5_step_54 rfl (lv_at hl 1 rfl) ?_
          refine lv_aload_n hC.1 hC.2.1 dX5_step_55 rfl (lv_at hl 1 rfl) ?_
          refine lv_aload_n hC.1 hC.2.1 dX5_step_56 rfl (lv_at hl 1 rfl) ?_
          refine x_get hC hw hRk_37.1.1 rfl hinX5 6 (by decide) (by decide +kernel) rfl dX5_step_57 ?_
          show W p l e R s m args below meth c _ _ _ _ _ (F0 m 60 ls [.ref w_1, .ref a, .ref a])
          refine lv_iload_n hC.1 hC.2.1 dX5_step_60 rfl (lv_at hl 0 rfl) ?_
          refine x_callV hC hw (lv_size hl) (c_X5_weight l G hRk_37 hIi_39 (p0 := z_43) (by omega) (by omega)) gX5_step_X5_weight rfl dv_X5_weight hRk_37.1.1 rfl rfl (Nat.le_of_ble_eq_true rfl) (by rw [hRf]; decide) (by rw [hRl]; decide) (by omega) (by omega) dX5_step_61 (fun r9 M_45 H locs hq hw => ?_)
          obtain ⟨z_46, rfl, hM9, hz_46a, hz_46b⟩ := hq
          rw [hM9] at hw
          show W p l e R s m args below meth c H locs _ _ _ (F0 m 64 ls [.int (iN (z_46)), .ref a])
          refine x_put (fs2 := [.int thk_37, .int rfd, .ref va, .ref oa, .ref wa, .ref ya, .ref w_1, .int br, .int (iN (z_46)), .int la, .int ha, .int kp, .int kv]) hC hw hRk_37.1.1 rfl hinX5 tyX5 tyX5_ok nmX5 8 (by decide) (by decide +kernel) rfl rfl rfl (Nat.le_of_ble_eq_true rfl) rfl dX5_step_64 (fun H locs hw => ?_)
          obtain ⟨M_47, hM_48⟩ : ∃ z, z = va_up M_35 a (some (.inr (7, [.int thk_37, .int rfd, .ref va, .ref oa, .ref wa, .ref ya, .ref w_1, .int br, .int (iN (z_46)), .int la, .int ha, .int kp, .int kv]))) := ⟨_, rfl⟩
          rw [← hM_48] at hw
          have hR_49 : MGx G M_47 a va oa wa ya (some w_1) thk_37 rfd br (iN (z_46)) la ha kp kv qv qw fa fb fvv fw fo fy S := hRk_37.obj hM_48 hRk_37.sc.1 hRk_37.sc.2.1 hRk_37.sc.2.2 (fun y9 h9 => hRk_37.wk' h9)
          have h_50 := hIi_39.x5 (hRk_37.obj5 hM_48)
          refine lv_aload_n hC.1 hC.2.1 dX5_step_67 rfl (lv_at hl 1 rfl) ?_
          refine lv_iload_n hC.1 hC.2.1 dX5_step_68 rfl (lv_at hl 0 rfl) ?_
          refine x_put (fs2 := [.int thk_37, .int rfd, .ref va, .ref oa, .ref wa, .ref ya, .ref w_1, .int br, .int (iN (z_46)), .int (iN (z_43)), .int ha, .int kp, .int kv]) hC hw hR_49.1.1 rfl hinX5 tyX5 tyX5_ok nmX5 9 (by decide) (by decide +kernel) rfl rfl rfl (Nat.le_of_ble_eq_true rfl) rfl dX5_step_69 (fun H locs hw => ?_)
          obtain ⟨M_51, hM_52⟩ : ∃ z, z = va_up M_47 a (some (.inr (7, [.int thk_37, .int rfd, .ref va, .ref oa, .ref wa, .ref ya, .ref w_1, .int br, .int (iN (z_46)), .int (iN (z_43)), .int ha, .int kp, .int kv]))) := ⟨_, rfl⟩
          rw [← hM_52] at hw
          have hR_53 : MGx G M_51 a va oa wa ya (some w_1) thk_37 rfd br (iN (z_46)) (iN (z_43)) ha kp kv qv qw fa fb fvv fw fo fy S := hR_49.obj hM_52 hR_49.sc.1 (by rw [iN_toInt ⟨by omega, by omega⟩]; omega) hR_49.sc.2.2 (fun y9 h9 => hR_49.wk' h9)
          have h_54 := h_50.x5 (hR_49.obj5 hM_52)
          refine lv_aload_n hC.1 hC.2.1 dX5_step_72 rfl (lv_at hl 1 rfl) ?_
          refine lv_iload_n hC.1 hC.2.1 dX5_step_73 rfl (lv_at hl 0 rfl) ?_
          refine x_put (fs2 := [.int thk_37, .int rfd, .ref va, .ref oa, .ref wa, .ref ya, .ref w_1, .int br, .int (iN (z_46)), .int (iN (z_43)), .int (iN (z_43)), .int kp, .int kv]) hC hw hR_53.1.1 rfl hinX5 tyX5 tyX5_ok nmX5 10 (by decide) (by decide +kernel) rfl rfl rfl (Nat.le_of_ble_eq_true rfl) rfl dX5_step_74 (fun H locs hw => ?_)
          obtain ⟨M_55, hM_56⟩ : ∃ z, z = va_up M_51 a (some (.inr (7, [.int thk_37, .int rfd, .ref va, .ref oa, .ref wa, .ref ya, .ref w_1, .int br, .int (iN (z_46)), .int (iN (z_43)), .int (iN (z_43)), .int kp, .int kv]))) := ⟨_, rfl⟩
          rw [← hM_56] at hw
          have hR_57 : MGx G M_55 a va oa wa ya (some w_1) thk_37 rfd br (iN (z_46)) (iN (z_43)) (iN (z_43)) kp kv qv qw fa fb fvv fw fo fy S := hR_53.obj hM_56 hR_53.sc.1 hR_53.sc.2.1 (by rw [iN_toInt ⟨by omega, by omega⟩]; omega) (fun y9 h9 => hR_53.wk' h9)
          have h_58 := h_54.x5 (hR_53.obj5 hM_56)
          refine lv_iload_n hC.1 hC.2.1 dX5_step_77 rfl (lv_at hl 0 rfl) ?_
          exact x_iret hC hw dX5_step_78 (by omega) (by omega) ⟨z_43, rfl, by omega, ⟨_, _, _, _, _, _, _, _, _, _, _, _, _, _, _, _, _, _, _, _, hR_57⟩⟩
        · refine x_sipush hC dX5_step_50 (by decide +kernel) ?_
          exact x_iret hC hw dX5_step_53 (by omega) (by omega) ⟨(-10000), rfl, by omega, ⟨_, _, _, _, _, _, _, _, _, _, _, _, _, _, _, _, _, _, _, _, hRk_37⟩⟩
      · refine x_const hC dX5_step_27 ?_
        exact x_iret hC hw dX5_step_28 (by omega) (by omega) ⟨0, rfl, by omega, ⟨_, _, _, _, _, _, _, _, _, _, _, _, _, _, _, _, _, _, _, _, hRk_37⟩⟩
set_option maxHeartbeats 4000000 in
set_option maxRecDepth 100000 in
theorem c_X5_write (l : Launch) (G : xG) {M : HM} {a va oa wa ya : Nat} {wk : Option Nat} {th rfd br re la ha kp kv : Int32} {qv qw : Nat → Nat} {fa fb : Nat → Option Nat} {fvv fw : Nat → Nat → Int32} {fo : Nat → Int32} {fy : Nat → Option Nat} {S : Nat → Bool} (hR : MGx G M a va oa wa ya wk th rfd br re la ha kp kv qv qw fa fb fvv fw fo fy S) {p0 : Int} (hp0 : -2147483648 ≤ p0 ∧ p0 ≤ 2147483647) (hSk : ha.toInt ≠ -10000 → S ha.toInt.toNat = true) : xMet l G yX5_write wsX5_write 2 44 0 0 [.ref a, .int (iN (p0))] M (fun r M1 => ∃ z : Int, r = some (.int (iN z)) ∧ (-2147483648 ≤ z ∧ z ≤ 2147483647) ∧ MGm G M1 a rfd S) := by
  refine x_intro (cc := cX5_write) (maxL := 2) (ret := (some .int)) (by decide +kernel) rfl (Nat.le_of_ble_eq_true rfl) ?_
  intro p e R s m args below meth c ls hRf hRc hRs hRl hC hw hl
  have hinX5 : ∀ w ∈ wsX50, w ∈ wsX5_write := by decide +kernel
  have hl : lv_has ls 2 [(0, .ref a), (1, .int (iN (p0)))] := hl
  refine lv_aload_n hC.1 hC.2.1 dX5_write_0 rfl (lv_at hl 0 rfl) ?_
  refine lv_iload_n hC.1 hC.2.1 dX5_write_1 rfl (lv_at hl 1 rfl) ?_
  refine x_callS hC hw (lv_size hl) (c_X5_isNoValue l G (M := M) (p0 := p0) (by omega)) gX5_write_X5_isNoValue rfl dv_X5_isNoValue_s rfl (Nat.le_of_ble_eq_true rfl) (by rw [hRf]; decide) (by rw [hRl]; decide) (by omega) (by omega) dX5_write_2 (fun r9 M_1 H locs hq hw => ?_)
  obtain ⟨z_2, rfl, hM9, hz_2a, hz_2b⟩ := hq
  rw [hM9] at hw
  show W p l e R s m args below meth c H locs _ _ _ (F0 m 5 ls [.int (iN (z_2)), .ref a])
  refine x_const hC dX5_write_5 ?_
  refine x_callV hC hw (lv_size hl) (c_X5_start l G hR (p0 := z_2) (by omega) (p1 := 1) (by omega) (by omega)) gX5_write_X5_start rfl dv_X5_start hR.1.1 rfl rfl (Nat.le_of_ble_eq_true rfl) (by rw [hRf]; decide) (by rw [hRl]; decide) (by omega) (by omega) dX5_write_6 (fun r9 M_3 H locs hq hw => ?_)
  obtain ⟨z_4, rfl, hz_4a, hz_4b, thk_5, hRk_5⟩ := hq
  show W p l e R s m args below meth c H locs _ _ _ (F0 m 9 ls [.int (iN (z_4))])
  refine x_if_ne (tgt := 49) hC ⟨by omega, by omega⟩ dX5_write_9 (by decide) (fun c_6 => ?_) (fun c_6 => ?_)
  · refine x_const hC dX5_write_49 ?_
    exact x_iret hC hw dX5_write_50 (by omega) (by omega) ⟨0, rfl, by omega, ⟨_, _, _, _, _, _, _, _, _, _, _, _, _, _, _, _, _, _, _, _, hRk_5⟩⟩
  · refine lv_aload_n hC.1 hC.2.1 dX5_write_12 rfl (lv_at hl 0 rfl) ?_
    refine lv_aload_n hC.1 hC.2.1 dX5_write_13 rfl (lv_at hl 0 rfl) ?_
    refine x_get hC hw hRk_5.1.1 rfl hinX5 6 (by decide) (by decide +kernel) rfl dX5_write_14 ?_
    rcases wk with _ | w_7
    · show W p l e R s m args below meth c _ _ _ _ _ (F0 m 17 ls [.null, .ref a])
      refine lv_ifnullN (tgt := 37) hC.1 hC.2.1 dX5_write_17 (by decide) ?_
      refine x_const hC dX5_write_37 ?_
      refine lv_goto (tgt := 42) hC.1 hC.2.1 dX5_write_38 (by decide) ?_
      refine x_const hC dX5_write_42 ?_
      refine x_callV hC hw (lv_size hl) (c_X5_refuse l G hRk_5 (p0 := 1) (by omega) (p1 := 2) (by omega) (by omega)) gX5_write_X5_refuse rfl dv_X5_refuse hRk_5.1.1 rfl rfl (Nat.le_of_ble_eq_true rfl) (by rw [hRf]; decide) (by rw [hRl]; decide) (by omega) (by omega) dX5_write_43 (fun r9 M_8 H locs hq hw => ?_)
      obtain ⟨z_9, rfl, hz_9a, hz_9b, thk_10, hRk_10⟩ := hq
      show W p l e R s m args below meth c H locs _ _ _ (F0 m 46 ls [.int (iN (z_9))])
      refine x_if_eq (tgt := 51) hC ⟨by omega, by omega⟩ dX5_write_46 (by decide) (fun c_11 => ?_) (fun c_11 => ?_)
      · refine lv_aload_n hC.1 hC.2.1 dX5_write_51 rfl (lv_at hl 0 rfl) ?_
        refine lv_aload_n hC.1 hC.2.1 dX5_write_52 rfl (lv_at hl 0 rfl) ?_
        refine x_get hC hw hRk_10.1.1 rfl hinX5 6 (by decide) (by decide +kernel) rfl dX5_write_53 ?_
        show W p l e R s m args below meth c _ _ _ _ _ (F0 m 56 ls [.null, .ref a])
        refine x_const hC dX5_write_56 ?_
        exfalso; omega
      · refine x_const hC dX5_write_49 ?_
        exact x_iret hC hw dX5_write_50 (by omega) (by omega) ⟨0, rfl, by omega, ⟨_, _, _, _, _, _, _, _, _, _, _, _, _, _, _, _, _, _, _, _, hRk_10⟩⟩
    · obtain ⟨fi_12, hIi_12⟩ := (hRk_5.wk' rfl)
      obtain ⟨hvt_13, hat_13, hbt_13, hct_13, hdt_13, het_13⟩ := id hIi_12
      show W p l e R s m args below meth c _ _ _ _ _ (F0 m 17 ls [.ref w_7, .ref a])
      refine lv_ifnull hC.1 hC.2.1 dX5_write_17 ?_
      refine lv_aload_n hC.1 hC.2.1 dX5_write_20 rfl (lv_at hl 0 rfl) ?_
      refine x_getR hC hw hRk_5.1.1 rfl hinX5 7 (by decide) (by decide +kernel) rfl dX5_write_21 ?_
      have hrr_14 := iN_rng br
      refine x_if_ne (tgt := 37) hC ⟨by omega, by omega⟩ dX5_write_24 (by decide) (fun c_15 => ?_) (fun c_15 => ?_)
      · refine x_const hC dX5_write_37 ?_
        refine lv_goto (tgt := 42) hC.1 hC.2.1 dX5_write_38 (by decide) ?_
        refine x_const hC dX5_write_42 ?_
        refine x_callV hC hw (lv_size hl) (c_X5_refuse l G hRk_5 (p0 := 1) (by omega) (p1 := 2) (by omega) (by omega)) gX5_write_X5_refuse rfl dv_X5_refuse hRk_5.1.1 rfl rfl (Nat.le_of_ble_eq_true rfl) (by rw [hRf]; decide) (by rw [hRl]; decide) (by omega) (by omega) dX5_write_43 (fun r9 M_16 H locs hq hw => ?_)
        obtain ⟨z_17, rfl, hz_17a, hz_17b, thk_18, hRk_18⟩ := hq
        show W p l e R s m args below meth c H locs _ _ _ (F0 m 46 ls [.int (iN (z_17))])
        refine x_if_eq (tgt := 51) hC ⟨by omega, by omega⟩ dX5_write_46 (by decide) (fun c_19 => ?_) (fun c_19 => ?_)
        · refine lv_aload_n hC.1 hC.2.1 dX5_write_51 rfl (lv_at hl 0 rfl) ?_
          refine lv_aload_n hC.1 hC.2.1 dX5_write_52 rfl (lv_at hl 0 rfl) ?_
          refine x_get hC hw hRk_18.1.1 rfl hinX5 6 (by decide) (by decide +kernel) rfl dX5_write_53 ?_
          obtain ⟨fi_20, hIi_20⟩ := (hRk_18.wk' rfl)
          obtain ⟨hvt_21, hat_21, hbt_21, hct_21, hdt_21, het_21⟩ := id hIi_20
          show W p l e R s m args below meth c _ _ _ _ _ (F0 m 56 ls [.ref w_7, .ref a])
          refine x_const hC dX5_write_56 ?_
          refine x_iald hC hw hIi_20.1 (by omega) (by omega) (by omega) dX5_write_57 ?_
          obtain ⟨z_22, hz_22⟩ : ∃ z : Int, z = (fi_20 (0 : Int).toNat).toInt := ⟨_, rfl⟩
          rw [← hz_22]
          have hz_22' : z_22 = (fi_20 0).toInt := hz_22
          have hrz_22 : -2147483648 ≤ z_22 ∧ z_22 ≤ 2147483647 := by rw [hz_22]; exact iN_rng _
          refine lv_aload_n hC.1 hC.2.1 dX5_write_58 rfl (lv_at hl 0 rfl) ?_
          refine x_getR hC hw hRk_18.1.1 rfl hinX5 10 (by decide) (by decide +kernel) rfl dX5_write_59 ?_
          have hrr_23 := iN_rng ha
          have sc_24 := hRk_18.sc
          refine lv_iload_n hC.1 hC.2.1 dX5_write_62 rfl (lv_at hl 1 rfl) ?_
          refine x_callV hC hw (lv_size hl) (c_X5_set l G hRk_18 (p0 := z_22) (by omega) (p1 := ha.toInt) (by omega) (p2 := p0) (by omega) (by omega) (by omega) (by omega) (by intro q9; first | exact absurd rfl q9 | assumption | exact hSk (by omega))) gX5_write_X5_set rfl dv_X5_set hRk_18.1.1 rfl rfl (Nat.le_of_ble_eq_true rfl) (by rw [hRf]; decide) (by rw [hRl]; decide) (by omega) (by omega) dX5_write_63 (fun r9 M_25 H locs hq hw => ?_)
          obtain ⟨z_26, rfl, hz_26a, hz_26b, hx5k_27, brk_27, fvvk_27, hRk_27⟩ := hq
          have h_28 := hIi_20.x5 hx5k_27
          show W p l e R s m args below meth c H locs _ _ _ (F0 m 66 ls [.int (iN (z_26))])
          exact x_iret hC hw dX5_write_66 (by omega) (by omega) ⟨z_26, rfl, by omega, ⟨_, _, _, _, _, _, _, _, _, _, _, _, _, _, _, _, _, _, _, _, hRk_27⟩⟩
        · refine x_const hC dX5_write_49 ?_
          exact x_iret hC hw dX5_write_50 (by omega) (by omega) ⟨0, rfl, by omega, ⟨_, _, _, _, _, _, _, _, _, _, _, _, _, _, _, _, _, _, _, _, hRk_18⟩⟩
      · refine lv_aload_n hC.1 hC.2.1 dX5_write_27 rfl (lv_at hl 0 rfl) ?_
        refine x_getR hC hw hRk_5.1.1 rfl hinX5 10 (by decide) (by decide +kernel) rfl dX5_write_28 ?_
        have hrr_29 := iN_rng ha
        have sc_30 := hRk_5.sc
        refine x_sipush hC dX5_write_31 (by decide +kernel) ?_
        refine x_icmp_ne (tgt := 41) hC ⟨by omega, by omega⟩ ⟨by omega, by omega⟩ dX5_write_34 (by decide) (fun c_31 => ?_) (fun c_31 => ?_)
        · refine x_const hC dX5_write_41 ?_
          refine x_const hC dX5_write_42 ?_
          refine x_callV hC hw (lv_size hl) (c_X5_refuse l G hRk_5 (p0 := 0) (by omega) (p1 := 2) (by omega) (by omega)) gX5_write_X5_refuse rfl dv_X5_refuse hRk_5.1.1 rfl rfl (Nat.le_of_ble_eq_true rfl) (by rw [hRf]; decide) (by rw [hRl]; decide) (by omega) (by omega) dX5_write_43 (fun r9 M_32 H locs hq hw => ?_)
          obtain ⟨z_33, rfl, hz_33a, hz_33b, thk_34, hRk_34⟩ := hq
          show W p l e R s m args below meth c H locs _ _ _ (F0 m 46 ls [.int (iN (z_33))])
          refine x_if_eq (tgt := 51) hC ⟨by omega, by omega⟩ dX5_write_46 (by decide) (fun c_35 => ?_) (fun c_35 => ?_)
          · refine lv_aload_n hC.1 hC.2.1 dX5_write_51 rfl (lv_at hl 0 rfl) ?_
            refine lv_aload_n hC.1 hC.2.1 dX5_write_52 rfl (lv_at hl 0 rfl) ?_
            refine x_get hC hw hRk_34.1.1 rfl hinX5 6 (by decide) (by decide +kernel) rfl dX5_write_53 ?_
            obtain ⟨fi_36, hIi_36⟩ := (hRk_34.wk' rfl)
            obtain ⟨hvt_37, hat_37, hbt_37, hct_37, hdt_37, het_37⟩ := id hIi_36
            show W p l e R s m args below meth c _ _ _ _ _ (F0 m 56 ls [.ref w_7, .ref a])
            refine x_const hC dX5_write_56 ?_
            refine x_iald hC hw hIi_36.1 (by omega) (by omega) (by omega) dX5_write_57 ?_
            obtain ⟨z_38, hz_38⟩ : ∃ z : Int, z = (fi_36 (0 : Int).toNat).toInt := ⟨_, rfl⟩
            rw [← hz_38]
            have hz_38' : z_38 = (fi_36 0).toInt := hz_38
            have hrz_38 : -2147483648 ≤ z_38 ∧ z_38 ≤ 2147483647 := by rw [hz_38]; exact iN_rng _
            refine lv_aload_n hC.1 hC.2.1 dX5_write_58 rfl (lv_at hl 0 rfl) ?_
            refine x_getR hC hw hRk_34.1.1 rfl hinX5 10 (by decide) (by decide +kernel) rfl dX5_write_59 ?_
            have hrr_39 := iN_rng ha
            have sc_40 := hRk_34.sc
            refine lv_iload_n hC.1 hC.2.1 dX5_write_62 rfl (lv_at hl 1 rfl) ?_
            refine x_callV hC hw (lv_size hl) (c_X5_set l G hRk_34 (p0 := z_38) (by omega) (p1 := ha.toInt) (by omega) (p2 := p0) (by omega) (by omega) (by omega) (by omega) (by intro q9; first | exact absurd rfl q9 | assumption | exact hSk (by omega))) gX5_write_X5_set rfl dv_X5_set hRk_34.1.1 rfl rfl (Nat.le_of_ble_eq_true rfl) (by rw [hRf]; decide) (by rw [hRl]; decide) (by omega) (by omega) dX5_write_63 (fun r9 M_41 H locs hq hw => ?_)
            obtain ⟨z_42, rfl, hz_42a, hz_42b, hx5k_43, brk_43, fvvk_43, hRk_43⟩ := hq
            have h_44 := hIi_36.x5 hx5k_43
            show W p l e R s m args below meth c H locs _ _ _ (F0 m 66 ls [.int (iN (z_42))])
            exact x_iret hC hw dX5_write_66 (by omega) (by omega) ⟨z_42, rfl, by omega, ⟨_, _, _, _, _, _, _, _, _, _, _, _, _, _, _, _, _, _, _, _, hRk_43⟩⟩
          · refine x_const hC dX5_write_49 ?_
            exact x_iret hC hw dX5_write_50 (by omega) (by omega) ⟨0, rfl, by omega, ⟨_, _, _, _, _, _, _, _, _, _, _, _, _, _, _, _, _, _, _, _, hRk_34⟩⟩
        · refine x_const hC dX5_write_37 ?_
          refine lv_goto (tgt := 42) hC.1 hC.2.1 dX5_write_38 (by decide) ?_
          refine x_const hC dX5_write_42 ?_
          refine x_callV hC hw (lv_size hl) (c_X5_refuse l G hRk_5 (p0 := 1) (by omega) (p1 := 2) (by omega) (by omega)) gX5_write_X5_refuse rfl dv_X5_refuse hRk_5.1.1 rfl rfl (Nat.le_of_ble_eq_true rfl) (by rw [hRf]; decide) (by rw [hRl]; decide) (by omega) (by omega) dX5_write_43 (fun r9 M_45 H locs hq hw => ?_)
          obtain ⟨z_46, rfl, hz_46a, hz_46b, thk_47, hRk_47⟩ := hq
          show W p l e R s m args below meth c H locs _ _ _ (F0 m 46 ls [.int (iN (z_46))])
          refine x_if_eq (tgt := 51) hC ⟨by omega, by omega⟩ dX5_write_46 (by decide) (fun c_48 => ?_) (fun c_48 => ?_)
          · refine lv_aload_n hC.1 hC.2.1 dX5_write_51 rfl (lv_at hl 0 rfl) ?_
            refine lv_aload_n hC.1 hC.2.1 dX5_write_52 rfl (lv_at hl 0 rfl) ?_
            refine x_get hC hw hRk_47.1.1 rfl hinX5 6 (by decide) (by decide +kernel) rfl dX5_write_53 ?_
            obtain ⟨fi_49, hIi_49⟩ := (hRk_47.wk' rfl)
            obtain ⟨hvt_50, hat_50, hbt_50, hct_50, hdt_50, het_50⟩ := id hIi_49
            show W p l e R s m args below meth c _ _ _ _ _ (F0 m 56 ls [.ref w_7, .ref a])
            refine x_const hC dX5_write_56 ?_
            refine x_iald hC hw hIi_49.1 (by omega) (by omega) (by omega) dX5_write_57 ?_
            obtain ⟨z_51, hz_51⟩ : ∃ z : Int, z = (fi_49 (0 : Int).toNat).toInt := ⟨_, rfl⟩
            rw [← hz_51]
            have hz_51' : z_51 = (fi_49 0).toInt := hz_51
            have hrz_51 : -2147483648 ≤ z_51 ∧ z_51 ≤ 2147483647 := by rw [hz_51]; exact iN_rng _
            refine lv_aload_n hC.1 hC.2.1 dX5_write_58 rfl (lv_at hl 0 rfl) ?_
            refine x_getR hC hw hRk_47.1.1 rfl hinX5 10 (by decide) (by decide +kernel) rfl dX5_write_59 ?_
            have hrr_52 := iN_rng ha
            have sc_53 := hRk_47.sc
            refine lv_iload_n hC.1 hC.2.1 dX5_write_62 rfl (lv_at hl 1 rfl) ?_
            refine x_callV hC hw (lv_size hl) (c_X5_set l G hRk_47 (p0 := z_51) (by omega) (p1 := ha.toInt) (by omega) (p2 := p0) (by omega) (by omega) (by omega) (by omega) (by intro q9; first | exact absurd rfl q9 | assumption | exact hSk (by omega))) gX5_write_X5_set rfl dv_X5_set hRk_47.1.1 rfl rfl (Nat.le_of_ble_eq_true rfl) (by rw [hRf]; decide) (by rw [hRl]; decide) (by omega) (by omega) dX5_write_63 (fun r9 M_54 H locs hq hw => ?_)
            obtain ⟨z_55, rfl, hz_55a, hz_55b, hx5k_56, brk_56, fvvk_56, hRk_56⟩ := hq
            have h_57 := hIi_49.x5 hx5k_56
            show W p l e R s m args below meth c H locs _ _ _ (F0 m 66 ls [.int (iN (z_55))])
            exact x_iret hC hw dX5_write_66 (by omega) (by omega) ⟨z_55, rfl, by omega, ⟨_, _, _, _, _, _, _, _, _, _, _, _, _, _, _, _, _, _, _, _, hRk_56⟩⟩
          · refine x_const hC dX5_write_49 ?_
            exact x_iret hC hw dX5_write_50 (by omega) (by omega) ⟨0, rfl, by omega, ⟨_, _, _, _, _, _, _, _, _, _, _, _, _, _, _, _, _, _, _, _, hRk_47⟩⟩
set_option maxHeartbeats 4000000 in
set_option maxRecDepth 100000 in
theorem c_X5_drop (l : Launch) (G : xG) {M : HM} {a va oa wa ya : Nat} {wk : Option Nat} {th rfd br re la ha kp kv : Int32} {qv qw : Nat → Nat} {fa fb : Nat → Option Nat} {fvv fw : Nat → Nat → Int32} {fo : Nat → Int32} {fy : Nat → Option Nat} {S : Nat → Bool} (hR : MGx G M a va oa wa ya wk th rfd br re la ha kp kv qv qw fa fb fvv fw fo fy S) : xMet l G yX5_drop wsX5_drop 4 90 1 5 [.ref a] M (fun r M1 => ∃ z : Int, r = some (.int (iN z)) ∧ (-2147483648 ≤ z ∧ z ≤ 2147483647) ∧ MGm G M1 a rfd S) := by
  refine x_intro (cc := cX5_drop) (maxL := 1) (ret := (some .int)) (by decide +kernel) rfl (Nat.le_of_ble_eq_true rfl) ?_
  intro p e R s m args below meth c ls hRf hRc hRs hRl hC hw hl
  have hinX5 : ∀ w ∈ wsX50, w ∈ wsX5_drop := by decide +kernel
  have hl : lv_has ls 1 [(0, .ref a)] := hl
  refine lv_aload_n hC.1 hC.2.1 dX5_drop_0 rfl (lv_at hl 0 rfl) ?_
  refine lv_aload_n hC.1 hC.2.1 dX5_drop_1 rfl (lv_at hl 0 rfl) ?_
  refine x_get hC hw hR.1.1 rfl hinX5 6 (by decide) (by decide +kernel) rfl dX5_drop_2 ?_
  rcases wk with _ | w_1
  · show W p l e R s m args below meth c _ _ _ _ _ (F0 m 5 ls [.null, .ref a])
    refine lv_ifnullN (tgt := 25) hC.1 hC.2.1 dX5_drop_5 (by decide) ?_
    refine x_const hC dX5_drop_25 ?_
    refine lv_goto (tgt := 30) hC.1 hC.2.1 dX5_drop_26 (by decide) ?_
    refine x_const hC dX5_drop_30 ?_
    refine x_callV hC hw (lv_size hl) (c_X5_start l G hR (p0 := 1) (by omega) (p1 := 1) (by omega) (by omega)) gX5_drop_X5_start rfl dv_X5_start hR.1.1 rfl rfl (Nat.le_of_ble_eq_true rfl) (by rw [hRf]; decide) (by rw [hRl]; decide) (by omega) (by omega) dX5_drop_31 (fun r9 M_2 H locs hq hw => ?_)
    obtain ⟨z_3, rfl, hz_3a, hz_3b, thk_4, hRk_4⟩ := hq
    show W p l e R s m args below meth c H locs _ _ _ (F0 m 34 ls [.int (iN (z_3))])
    refine x_if_eq (tgt := 39) hC ⟨by omega, by omega⟩ dX5_drop_34 (by decide) (fun c_5 => ?_) (fun c_5 => ?_)
    · refine lv_aload_n hC.1 hC.2.1 dX5_drop_39 rfl (lv_at hl 0 rfl) ?_
      refine x_get hC hw hRk_4.1.1 rfl hinX5 2 (by decide) (by decide +kernel) rfl dX5_drop_40 ?_
      refine lv_aload_n hC.1 hC.2.1 dX5_drop_43 rfl (lv_at hl 0 rfl) ?_
      refine x_get hC hw hRk_4.1.1 rfl hinX5 6 (by decide) (by decide +kernel) rfl dX5_drop_44 ?_
      show W p l e R s m args below meth c _ _ _ _ _ (F0 m 47 ls [.null, .ref va])
      refine x_const hC dX5_drop_47 ?_
      exfalso; omega
    · refine x_const hC dX5_drop_37 ?_
      exact x_iret hC hw dX5_drop_38 (by omega) (by omega) ⟨0, rfl, by omega, ⟨_, _, _, _, _, _, _, _, _, _, _, _, _, _, _, _, _, _, _, _, hRk_4⟩⟩
  · obtain ⟨fi_6, hIi_6⟩ := (hR.wk' rfl)
    obtain ⟨hvt_7, hat_7, hbt_7, hct_7, hdt_7, het_7⟩ := id hIi_6
    show W p l e R s m args below meth c _ _ _ _ _ (F0 m 5 ls [.ref w_1, .ref a])
    refine lv_ifnull hC.1 hC.2.1 dX5_drop_5 ?_
    refine lv_aload_n hC.1 hC.2.1 dX5_drop_8 rfl (lv_at hl 0 rfl) ?_
    refine x_getR hC hw hR.1.1 rfl hinX5 7 (by decide) (by decide +kernel) rfl dX5_drop_9 ?_
    have hrr_8 := iN_rng br
    refine x_if_ne (tgt := 25) hC ⟨by omega, by omega⟩ dX5_drop_12 (by decide) (fun c_9 => ?_) (fun c_9 => ?_)
    · refine x_const hC dX5_drop_25 ?_
      refine lv_goto (tgt := 30) hC.1 hC.2.1 dX5_drop_26 (by decide) ?_
      refine x_const hC dX5_drop_30 ?_
      refine x_callV hC hw (lv_size hl) (c_X5_start l G hR (p0 := 1) (by omega) (p1 := 1) (by omega) (by omega)) gX5_drop_X5_start rfl dv_X5_start hR.1.1 rfl rfl (Nat.le_of_ble_eq_true rfl) (by rw [hRf]; decide) (by rw [hRl]; decide) (by omega) (by omega) dX5_drop_31 (fun r9 M_10 H locs hq hw => ?_)
      obtain ⟨z_11, rfl, hz_11a, hz_11b, thk_12, hRk_12⟩ := hq
      show W p l e R s m args below meth c H locs _ _ _ (F0 m 34 ls [.int (iN (z_11))])
      refine x_if_eq (tgt := 39) hC ⟨by omega, by omega⟩ dX5_drop_34 (by decide) (fun c_13 => ?_) (fun c_13 => ?_)
      · refine lv_aload_n hC.1 hC.2.1 dX5_drop_39 rfl (lv_at hl 0 rfl) ?_
        refine x_get hC hw hRk_12.1.1 rfl hinX5 2 (by decide) (by decide +kernel) rfl dX5_drop_40 ?_
        refine lv_aload_n hC.1 hC.2.1 dX5_drop_43 rfl (lv_at hl 0 rfl) ?_
        refine x_get hC hw hRk_12.1.1 rfl hinX5 6 (by decide) (by decide +kernel) rfl dX5_drop_44 ?_
        obtain ⟨fi_14, hIi_14⟩ := (hRk_12.wk' rfl)
        obtain ⟨hvt_15, hat_15, hbt_15, hct_15, hdt_15, het_15⟩ := id hIi_14
        show W p l e R s m args below meth c _ _ _ _ _ (F0 m 47 ls [.ref w_1, .ref va])
        refine x_const hC dX5_drop_47 ?_
        refine x_iald hC hw hIi_14.1 (by omega) (by omega) (by omega) dX5_drop_48 ?_
        obtain ⟨z_16, hz_16⟩ : ∃ z : Int, z = (fi_14 (0 : Int).toNat).toInt := ⟨_, rfl⟩
        rw [← hz_16]
        have hz_16' : z_16 = (fi_14 0).toInt := hz_16
        have hrz_16 : -2147483648 ≤ z_16 ∧ z_16 ≤ 2147483647 := by rw [hz_16]; exact iN_rng _
        refine x_ald4 hC hw hRk_12.1.2.1 (by omega) (by omega) (by omega) dX5_drop_49 ?_
        rw [hRk_12.fa' (show (z_16).toNat < 3 by omega)]
        show W p l e R s m args below meth c _ _ _ _ _ (F0 m 50 ls [.ref (qv (z_16).toNat)])
        refine lv_aload_n hC.1 hC.2.1 dX5_drop_50 rfl (lv_at hl 0 rfl) ?_
        refine x_getR hC hw hRk_12.1.1 rfl hinX5 9 (by decide) (by decide +kernel) rfl dX5_drop_51 ?_
        have hrr_17 := iN_rng la
        have sc_18 := hRk_12.sc
        refine x_sipush hC dX5_drop_54 (by decide +kernel) ?_
        refine x_iast hC hw (hRk_12.rv (show (z_16).toNat < 3 by omega)) (by omega) (by omega) (by omega) dX5_drop_57 (fun H locs hw => ?_)
        obtain ⟨M_19, hM_20⟩ : ∃ z, z = va_up M_10 (qv (z_16).toNat) (some (.inl (G.2 1, 100, .inl (upd (fvv (z_16).toNat) (la.toInt).toNat (iN ((-10000))))))) := ⟨_, rfl⟩
        rw [← hM_20] at hw
        have hR_21 := hRk_12.val (j := (z_16).toNat) (v := (-10000)) (by omega) hM_20 (by omega) (fun q9 => absurd rfl q9)
        obtain ⟨fvv_22, hfvv_22⟩ : ∃ z, z = (vUp fvv (z_16).toNat (upd (fvv (z_16).toNat) (la.toInt).toNat (iN ((-10000))))) := ⟨_, rfl⟩
        rw [← hfvv_22] at hR_21
        have h_23 := hIi_14.x5 (hRk_12.val5 (show (z_16).toNat < 3 by omega) hM_20)
        refine lv_aload_n hC.1 hC.2.1 dX5_drop_58 rfl (lv_at hl 0 rfl) ?_
        refine x_sipush hC dX5_drop_59 (by decide +kernel) ?_
        refine x_put (fs2 := [.int thk_12, .int rfd, .ref va, .ref oa, .ref wa, .ref ya, .ref w_1, .int br, .int re, .int (iN ((-10000))), .int ha, .int kp, .int kv]) hC hw hR_21.1.1 rfl hinX5 tyX5 tyX5_ok nmX5 9 (by decide) (by decide +kernel) rfl rfl rfl (Nat.le_of_ble_eq_true rfl) rfl dX5_drop_62 (fun H locs hw => ?_)
        obtain ⟨M_24, hM_25⟩ : ∃ z, z = va_up M_19 a (some (.inr (7, [.int thk_12, .int rfd, .ref va, .ref oa, .ref wa, .ref ya, .ref w_1, .int br, .int re, .int (iN ((-10000))), .int ha, .int kp, .int kv]))) := ⟨_, rfl⟩
        rw [← hM_25] at hw
        have hR_26 : MGx G M_24 a va oa wa ya (some w_1) thk_12 rfd br re (iN ((-10000))) ha kp kv qv qw fa fb fvv_22 fw fo fy S := hR_21.obj hM_25 hR_21.sc.1 (by rw [iN_toInt ⟨by omega, by omega⟩]; omega) hR_21.sc.2.2 (fun y9 h9 => hR_21.wk' h9)
        have h_27 := h_23.x5 (hR_21.obj5 hM_25)
        refine lv_aload_n hC.1 hC.2.1 dX5_drop_65 rfl (lv_at hl 0 rfl) ?_
        refine x_sipush hC dX5_drop_66 (by decide +kernel) ?_
        refine x_put (fs2 := [.int thk_12, .int rfd, .ref va, .ref oa, .ref wa, .ref ya, .ref w_1, .int br, .int re, .int (iN ((-10000))), .int (iN ((-10000))), .int kp, .int kv]) hC hw hR_26.1.1 rfl hinX5 tyX5 tyX5_ok nmX5 10 (by decide) (by decide +kernel) rfl rfl rfl (Nat.le_of_ble_eq_true rfl) rfl dX5_drop_69 (fun H locs hw => ?_)
        obtain ⟨M_28, hM_29⟩ : ∃ z, z = va_up M_24 a (some (.inr (7, [.int thk_12, .int rfd, .ref va, .ref oa, .ref wa, .ref ya, .ref w_1, .int br, .int re, .int (iN ((-10000))), .int (iN ((-10000))), .int kp, .int kv]))) := ⟨_, rfl⟩
        rw [← hM_29] at hw
        have hR_30 : MGx G M_28 a va oa wa ya (some w_1) thk_12 rfd br re (iN ((-10000))) (iN ((-10000))) kp kv qv qw fa fb fvv_22 fw fo fy S := hR_26.obj hM_29 hR_26.sc.1 hR_26.sc.2.1 (by rw [iN_toInt ⟨by omega, by omega⟩]; omega) (fun y9 h9 => hR_26.wk' h9)
        have h_31 := h_27.x5 (hR_26.obj5 hM_29)
        refine lv_aload_n hC.1 hC.2.1 dX5_drop_72 rfl (lv_at hl 0 rfl) ?_
        refine lv_aload_n hC.1 hC.2.1 dX5_drop_73 rfl (lv_at hl 0 rfl) ?_
        refine x_get hC hw hR_30.1.1 rfl hinX5 6 (by decide) (by decide +kernel) rfl dX5_drop_74 ?_
        show W p l e R s m args below meth c _ _ _ _ _ (F0 m 77 ls [.ref w_1, .ref a])
        refine x_const hC dX5_drop_77 ?_
        refine x_iald hC hw h_31.1 (by omega) (by omega) (by omega) dX5_drop_78 ?_
        obtain ⟨z_32, hz_32⟩ : ∃ z : Int, z = (fi_14 (0 : Int).toNat).toInt := ⟨_, rfl⟩
        rw [← hz_32]
        have hz_32' : z_32 = (fi_14 0).toInt := hz_32
        have hrz_32 : -2147483648 ≤ z_32 ∧ z_32 ≤ 2147483647 := by rw [hz_32]; exact iN_rng _
        refine x_callS hC hw (lv_size hl) (c_X5_whole l G (M := M_28) (p0 := z_32) (by omega) (by omega)) gX5_drop_X5_whole rfl dv_X5_whole_s rfl (Nat.le_of_ble_eq_true rfl) (by rw [hRf]; decide) (by rw [hRl]; decide) (by omega) (by omega) dX5_drop_79 (fun r9 M_33 H locs hq hw => ?_)
        obtain ⟨qk_34, fk_34, rfl, hxk_34, hIk_34, hfk_34⟩ := hq
        have h_35 := hR_30.ext hxk_34
        have h_36 := h_31.x5 (xExt.x5 hxk_34)
        obtain ⟨hvt_37, hat_37, hbt_37, hct_37, hdt_37, het_37⟩ := id hIk_34
        show W p l e R s m args below meth c H locs _ _ _ (F0 m 82 ls [.ref qk_34, .ref a])
        refine x_callV hC hw (lv_size hl) (c_X5_many l G h_35 hIk_34) gX5_drop_X5_many rfl dv_X5_many h_35.1.1 rfl rfl (Nat.le_of_ble_eq_true rfl) (by rw [hRf]; decide) (by rw [hRl]; decide) (by omega) (by omega) dX5_drop_82 (fun r9 M_38 H locs hq hw => ?_)
        obtain ⟨z_39, rfl, hM9, hz_39a⟩ := hq
        rw [hM9] at hw
        show W p l e R s m args below meth c H locs _ _ _ (F0 m 85 ls [.int (iN (z_39))])
        exact x_iret hC hw dX5_drop_85 (by omega) (by omega) ⟨z_39, rfl, by omega, ⟨_, _, _, _, _, _, _, _, _, _, _, _, _, _, _, _, _, _, _, _, h_35⟩⟩
      · refine x_const hC dX5_drop_37 ?_
        exact x_iret hC hw dX5_drop_38 (by omega) (by omega) ⟨0, rfl, by omega, ⟨_, _, _, _, _, _, _, _, _, _, _, _, _, _, _, _, _, _, _, _, hRk_12⟩⟩
    · refine lv_aload_n hC.1 hC.2.1 dX5_drop_15 rfl (lv_at hl 0 rfl) ?_
      refine x_getR hC hw hR.1.1 rfl hinX5 9 (by decide) (by decide +kernel) rfl dX5_drop_16 ?_
      have hrr_40 := iN_rng la
      have sc_41 := hR.sc
      refine x_sipush hC dX5_drop_19 (by decide +kernel) ?_
      refine x_icmp_ne (tgt := 29) hC ⟨by omega, by omega⟩ ⟨by omega, by omega⟩ dX5_drop_22 (by decide) (fun c_42 => ?_) (fun c_42 => ?_)
      · refine x_const hC dX5_drop_29 ?_
        refine x_const hC dX5_drop_30 ?_
        refine x_callV hC hw (lv_size hl) (c_X5_start l G hR (p0 := 0) (by omega) (p1 := 1) (by omega) (by omega)) gX5_drop_X5_start rfl dv_X5_start hR.1.1 rfl rfl (Nat.le_of_ble_eq_true rfl) (by rw [hRf]; decide) (by rw [hRl]; decide) (by omega) (by omega) dX5_drop_31 (fun r9 M_43 H locs hq hw => ?_)
        obtain ⟨z_44, rfl, hz_44a, hz_44b, thk_45, hRk_45⟩ := hq
        show W p l e R s m args below meth c H locs _ _ _ (F0 m 34 ls [.int (iN (z_44))])
        refine x_if_eq (tgt := 39) hC ⟨by omega, by omega⟩ dX5_drop_34 (by decide) (fun c_46 => ?_) (fun c_46 => ?_)
        · refine lv_aload_n hC.1 hC.2.1 dX5_drop_39 rfl (lv_at hl 0 rfl) ?_
          refine x_get hC hw hRk_45.1.1 rfl hinX5 2 (by decide) (by decide +kernel) rfl dX5_drop_40 ?_
          refine lv_aload_n hC.1 hC.2.1 dX5_drop_43 rfl (lv_at hl 0 rfl) ?_
          refine x_get hC hw hRk_45.1.1 rfl hinX5 6 (by decide) (by decide +kernel) rfl dX5_drop_44 ?_
          obtain ⟨fi_47, hIi_47⟩ := (hRk_45.wk' rfl)
          obtain ⟨hvt_48, hat_48, hbt_48, hct_48, hdt_48, het_48⟩ := id hIi_47
          show W p l e R s m args below meth c _ _ _ _ _ (F0 m 47 ls [.ref w_1, .ref va])
          refine x_const hC dX5_drop_47 ?_
          refine x_iald hC hw hIi_47.1 (by omega) (by omega) (by omega) dX5_drop_48 ?_
          obtain ⟨z_49, hz_49⟩ : ∃ z : Int, z = (fi_47 (0 : Int).toNat).toInt := ⟨_, rfl⟩
          rw [← hz_49]
          have hz_49' : z_49 = (fi_47 0).toInt := hz_49
          have hrz_49 : -2147483648 ≤ z_49 ∧ z_49 ≤ 2147483647 := by rw [hz_49]; exact iN_rng _
          refine x_ald4 hC hw hRk_45.1.2.1 (by omega) (by omega) (by omega) dX5_drop_49 ?_
          rw [hRk_45.fa' (show (z_49).toNat < 3 by omega)]
          show W p l e R s m args below meth c _ _ _ _ _ (F0 m 50 ls [.ref (qv (z_49).toNat)])
          refine lv_aload_n hC.1 hC.2.1 dX5_drop_50 rfl (lv_at hl 0 rfl) ?_
          refine x_getR hC hw hRk_45.1.1 rfl hinX5 9 (by decide) (by decide +kernel) rfl dX5_drop_51 ?_
          have hrr_50 := iN_rng la
          have sc_51 := hRk_45.sc
          refine x_sipush hC dX5_drop_54 (by decide +kernel) ?_
          refine x_iast hC hw (hRk_45.rv (show (z_49).toNat < 3 by omega)) (by omega) (by omega) (by omega) dX5_drop_57 (fun H locs hw => ?_)
          obtain ⟨M_52, hM_53⟩ : ∃ z, z = va_up M_43 (qv (z_49).toNat) (some (.inl (G.2 1, 100, .inl (upd (fvv (z_49).toNat) (la.toInt).toNat (iN ((-10000))))))) := ⟨_, rfl⟩
          rw [← hM_53] at hw
          have hR_54 := hRk_45.val (j := (z_49).toNat) (v := (-10000)) (by omega) hM_53 (by omega) (fun q9 => absurd rfl q9)
          obtain ⟨fvv_55, hfvv_55⟩ : ∃ z, z = (vUp fvv (z_49).toNat (upd (fvv (z_49).toNat) (la.toInt).toNat (iN ((-10000))))) := ⟨_, rfl⟩
          rw [← hfvv_55] at hR_54
          have h_56 := hIi_47.x5 (hRk_45.val5 (show (z_49).toNat < 3 by omega) hM_53)
          refine lv_aload_n hC.1 hC.2.1 dX5_drop_58 rfl (lv_at hl 0 rfl) ?_
          refine x_sipush hC dX5_drop_59 (by decide +kernel) ?_
          refine x_put (fs2 := [.int thk_45, .int rfd, .ref va, .ref oa, .ref wa, .ref ya, .ref w_1, .int br, .int re, .int (iN ((-10000))), .int ha, .int kp, .int kv]) hC hw hR_54.1.1 rfl hinX5 tyX5 tyX5_ok nmX5 9 (by decide) (by decide +kernel) rfl rfl rfl (Nat.le_of_ble_eq_true rfl) rfl dX5_drop_62 (fun H locs hw => ?_)
          obtain ⟨M_57, hM_58⟩ : ∃ z, z = va_up M_52 a (some (.inr (7, [.int thk_45, .int rfd, .ref va, .ref oa, .ref wa, .ref ya, .ref w_1, .int br, .int re, .int (iN ((-10000))), .int ha, .int kp, .int kv]))) := ⟨_, rfl⟩
          rw [← hM_58] at hw
          have hR_59 : MGx G M_57 a va oa wa ya (some w_1) thk_45 rfd br re (iN ((-10000))) ha kp kv qv qw fa fb fvv_55 fw fo fy S := hR_54.obj hM_58 hR_54.sc.1 (by rw [iN_toInt ⟨by omega, by omega⟩]; omega) hR_54.sc.2.2 (fun y9 h9 => hR_54.wk' h9)
          have h_60 := h_56.x5 (hR_54.obj5 hM_58)
          refine lv_aload_n hC.1 hC.2.1 dX5_drop_65 rfl (lv_at hl 0 rfl) ?_
          refine x_sipush hC dX5_drop_66 (by decide +kernel) ?_
          refine x_put (fs2 := [.int thk_45, .int rfd, .ref va, .ref oa, .ref wa, .ref ya, .ref w_1, .int br, .int re, .int (iN ((-10000))), .int (iN ((-10000))), .int kp, .int kv]) hC hw hR_59.1.1 rfl hinX5 tyX5 tyX5_ok nmX5 10 (by decide) (by decide +kernel) rfl rfl rfl (Nat.le_of_ble_eq_true rfl) rfl dX5_drop_69 (fun H locs hw => ?_)
          obtain ⟨M_61, hM_62⟩ : ∃ z, z = va_up M_57 a (some (.inr (7, [.int thk_45, .int rfd, .ref va, .ref oa, .ref wa, .ref ya, .ref w_1, .int br, .int re, .int (iN ((-10000))), .int (iN ((-10000))), .int kp, .int kv]))) := ⟨_, rfl⟩
          rw [← hM_62] at hw
          have hR_63 : MGx G M_61 a va oa wa ya (some w_1) thk_45 rfd br re (iN ((-10000))) (iN ((-10000))) kp kv qv qw fa fb fvv_55 fw fo fy S := hR_59.obj hM_62 hR_59.sc.1 hR_59.sc.2.1 (by rw [iN_toInt ⟨by omega, by omega⟩]; omega) (fun y9 h9 => hR_59.wk' h9)
          have h_64 := h_60.x5 (hR_59.obj5 hM_62)
          refine lv_aload_n hC.1 hC.2.1 dX5_drop_72 rfl (lv_at hl 0 rfl) ?_
          refine lv_aload_n hC.1 hC.2.1 dX5_drop_73 rfl (lv_at hl 0 rfl) ?_
          refine x_get hC hw hR_63.1.1 rfl hinX5 6 (by decide) (by decide +kernel) rfl dX5_drop_74 ?_
          show W p l e R s m args below meth c _ _ _ _ _ (F0 m 77 ls [.ref w_1, .ref a])
          refine x_const hC dX5_drop_77 ?_
          refine x_iald hC hw h_64.1 (by omega) (by omega) (by omega) dX5_drop_78 ?_
          obtain ⟨z_65, hz_65⟩ : ∃ z : Int, z = (fi_47 (0 : Int).toNat).toInt := ⟨_, rfl⟩
          rw [← hz_65]
          have hz_65' : z_65 = (fi_47 0).toInt := hz_65
          have hrz_65 : -2147483648 ≤ z_65 ∧ z_65 ≤ 2147483647 := by rw [hz_65]; exact iN_rng _
          refine x_callS hC hw (lv_size hl) (c_X5_whole l G (M := M_61) (p0 := z_65) (by omega) (by omega)) gX5_drop_X5_whole rfl dv_X5_whole_s rfl (Nat.le_of_ble_eq_true rfl) (by rw [hRf]; decide) (by rw [hRl]; decide) (by omega) (by omega) dX5_drop_79 (fun r9 M_66 H locs hq hw => ?_)
          obtain ⟨qk_67, fk_67, rfl, hxk_67, hIk_67, hfk_67⟩ := hq
          have h_68 := hR_63.ext hxk_67
          have h_69 := h_64.x5 (xExt.x5 hxk_67)
          obtain ⟨hvt_70, hat_70, hbt_70, hct_70, hdt_70, het_70⟩ := id hIk_67
          show W p l e R s m args below meth c H locs _ _ _ (F0 m 82 ls [.ref qk_67, .ref a])
          refine x_callV hC hw (lv_size hl) (c_X5_many l G h_68 hIk_67) gX5_drop_X5_many rfl dv_X5_many h_68.1.1 rfl rfl (Nat.le_of_ble_eq_true rfl) (by rw [hRf]; decide) (by rw [hRl]; decide) (by omega) (by omega) dX5_drop_82 (fun r9 M_71 H locs hq hw => ?_)
          obtain ⟨z_72, rfl, hM9, hz_72a⟩ := hq
          rw [hM9] at hw
          show W p l e R s m args below meth c H locs _ _ _ (F0 m 85 ls [.int (iN (z_72))])
          exact x_iret hC hw dX5_drop_85 (by omega) (by omega) ⟨z_72, rfl, by omega, ⟨_, _, _, _, _, _, _, _, _, _, _, _, _, _, _, _, _, _, _, _, h_68⟩⟩
        · refine x_const hC dX5_drop_37 ?_
          exact x_iret hC hw dX5_drop_38 (by omega) (by omega) ⟨0, rfl, by omega, ⟨_, _, _, _, _, _, _, _, _, _, _, _, _, _, _, _, _, _, _, _, hRk_45⟩⟩
      · refine x_const hC dX5_drop_25 ?_
        refine lv_goto (tgt := 30) hC.1 hC.2.1 dX5_drop_26 (by decide) ?_
        refine x_const hC dX5_drop_30 ?_
        refine x_callV hC hw (lv_size hl) (c_X5_start l G hR (p0 := 1) (by omega) (p1 := 1) (by omega) (by omega)) gX5_drop_X5_start rfl dv_X5_start hR.1.1 rfl rfl (Nat.le_of_ble_eq_true rfl) (by rw [hRf]; decide) (by rw [hRl]; decide) (by omega) (by omega) dX5_drop_31 (fun r9 M_73 H locs hq hw => ?_)
        obtain ⟨z_74, rfl, hz_74a, hz_74b, thk_75, hRk_75⟩ := hq
        show W p l e R s m args below meth c H locs _ _ _ (F0 m 34 ls [.int (iN (z_74))])
        refine x_if_eq (tgt := 39) hC ⟨by omega, by omega⟩ dX5_drop_34 (by decide) (fun c_76 => ?_) (fun c_76 => ?_)
        · refine lv_aload_n hC.1 hC.2.1 dX5_drop_39 rfl (lv_at hl 0 rfl) ?_
          refine x_get hC hw hRk_75.1.1 rfl hinX5 2 (by decide) (by decide +kernel) rfl dX5_drop_40 ?_
          refine lv_aload_n hC.1 hC.2.1 dX5_drop_43 rfl (lv_at hl 0 rfl) ?_
          refine x_get hC hw hRk_75.1.1 rfl hinX5 6 (by decide) (by decide +kernel) rfl dX5_drop_44 ?_
          obtain ⟨fi_77, hIi_77⟩ := (hRk_75.wk' rfl)
          obtain ⟨hvt_78, hat_78, hbt_78, hct_78, hdt_78, het_78⟩ := id hIi_77
          show W p l e R s m args below meth c _ _ _ _ _ (F0 m 47 ls [.ref w_1, .ref va])
          refine x_const hC dX5_drop_47 ?_
          refine x_iald hC hw hIi_77.1 (by omega) (by omega) (by omega) dX5_drop_48 ?_
          obtain ⟨z_79, hz_79⟩ : ∃ z : Int, z = (fi_77 (0 : Int).toNat).toInt := ⟨_, rfl⟩
          rw [← hz_79]
          have hz_79' : z_79 = (fi_77 0).toInt := hz_79
          have hrz_79 : -2147483648 ≤ z_79 ∧ z_79 ≤ 2147483647 := by rw [hz_79]; exact iN_rng _
          refine x_ald4 hC hw hRk_75.1.2.1 (by omega) (by omega) (by omega) dX5_drop_49 ?_
          rw [hRk_75.fa' (show (z_79).toNat < 3 by omega)]
          show W p l e R s m args below meth c _ _ _ _ _ (F0 m 50 ls [.ref (qv (z_79).toNat)])
          refine lv_aload_n hC.1 hC.2.1 dX5_drop_50 rfl (lv_at hl 0 rfl) ?_
          refine x_getR hC hw hRk_75.1.1 rfl hinX5 9 (by decide) (by decide +kernel) rfl dX5_drop_51 ?_
          have hrr_80 := iN_rng la
          have sc_81 := hRk_75.sc
          refine x_sipush hC dX5_drop_54 (by decide +kernel) ?_
          refine x_iast hC hw (hRk_75.rv (show (z_79).toNat < 3 by omega)) (by omega) (by omega) (by omega) dX5_drop_57 (fun H locs hw => ?_)
          obtain ⟨M_82, hM_83⟩ : ∃ z, z = va_up M_73 (qv (z_79).toNat) (some (.inl (G.2 1, 100, .inl (upd (fvv (z_79).toNat) (la.toInt).toNat (iN ((-10000))))))) := ⟨_, rfl⟩
          rw [← hM_83] at hw
          have hR_84 := hRk_75.val (j := (z_79).toNat) (v := (-10000)) (by omega) hM_83 (by omega) (fun q9 => absurd rfl q9)
          obtain ⟨fvv_85, hfvv_85⟩ : ∃ z, z = (vUp fvv (z_79).toNat (upd (fvv (z_79).toNat) (la.toInt).toNat (iN ((-10000))))) := ⟨_, rfl⟩
          rw [← hfvv_85] at hR_84
          have h_86 := hIi_77.x5 (hRk_75.val5 (show (z_79).toNat < 3 by omega) hM_83)
          refine lv_aload_n hC.1 hC.2.1 dX5_drop_58 rfl (lv_at hl 0 rfl) ?_
          refine x_sipush hC dX5_drop_59 (by decide +kernel) ?_
          refine x_put (fs2 := [.int thk_75, .int rfd, .ref va, .ref oa, .ref wa, .ref ya, .ref w_1, .int br, .int re, .int (iN ((-10000))), .int ha, .int kp, .int kv]) hC hw hR_84.1.1 rfl hinX5 tyX5 tyX5_ok nmX5 9 (by decide) (by decide +kernel) rfl rfl rfl (Nat.le_of_ble_eq_true rfl) rfl dX5_drop_62 (fun H locs hw => ?_)
          obtain ⟨M_87, hM_88⟩ : ∃ z, z = va_up M_82 a (some (.inr (7, [.int thk_75, .int rfd, .ref va, .ref oa, .ref wa, .ref ya, .ref w_1, .int br, .int re, .int (iN ((-10000))), .int ha, .int kp, .int kv]))) := ⟨_, rfl⟩
          rw [← hM_88] at hw
          have hR_89 : MGx G M_87 a va oa wa ya (some w_1) thk_75 rfd br re (iN ((-10000))) ha kp kv qv qw fa fb fvv_85 fw fo fy S := hR_84.obj hM_88 hR_84.sc.1 (by rw [iN_toInt ⟨by omega, by omega⟩]; omega) hR_84.sc.2.2 (fun y9 h9 => hR_84.wk' h9)
          have h_90 := h_86.x5 (hR_84.obj5 hM_88)
          refine lv_aload_n hC.1 hC.2.1 dX5_drop_65 rfl (lv_at hl 0 rfl) ?_
          refine x_sipush hC dX5_drop_66 (by decide +kernel) ?_
          refine x_put (fs2 := [.int thk_75, .int rfd, .ref va, .ref oa, .ref wa, .ref ya, .ref w_1, .int br, .int re, .int (iN ((-10000))), .int (iN ((-10000))), .int kp, .int kv]) hC hw hR_89.1.1 rfl hinX5 tyX5 tyX5_ok nmX5 10 (by decide) (by decide +kernel) rfl rfl rfl (Nat.le_of_ble_eq_true rfl) rfl dX5_drop_69 (fun H locs hw => ?_)
          obtain ⟨M_91, hM_92⟩ : ∃ z, z = va_up M_87 a (some (.inr (7, [.int thk_75, .int rfd, .ref va, .ref oa, .ref wa, .ref ya, .ref w_1, .int br, .int re, .int (iN ((-10000))), .int (iN ((-10000))), .int kp, .int kv]))) := ⟨_, rfl⟩
          rw [← hM_92] at hw
          have hR_93 : MGx G M_91 a va oa wa ya (some w_1) thk_75 rfd br re (iN ((-10000))) (iN ((-10000))) kp kv qv qw fa fb fvv_85 fw fo fy S := hR_89.obj hM_92 hR_89.sc.1 hR_89.sc.2.1 (by rw [iN_toInt ⟨by omega, by omega⟩]; omega) (fun y9 h9 => hR_89.wk' h9)
          have h_94 := h_90.x5 (hR_89.obj5 hM_92)
          refine lv_aload_n hC.1 hC.2.1 dX5_drop_72 rfl (lv_at hl 0 rfl) ?_
          refine lv_aload_n hC.1 hC.2.1 dX5_drop_73 rfl (lv_at hl 0 rfl) ?_
          refine x_get hC hw hR_93.1.1 rfl hinX5 6 (by decide) (by decide +kernel) rfl dX5_drop_74 ?_
          show W p l e R s m args below meth c _ _ _ _ _ (F0 m 77 ls [.ref w_1, .ref a])
          refine x_const hC dX5_drop_77 ?_
          refine x_iald hC hw h_94.1 (by omega) (by omega) (by omega) dX5_drop_78 ?_
          obtain ⟨z_95, hz_95⟩ : ∃ z : Int, z = (fi_77 (0 : Int).toNat).toInt := ⟨_, rfl⟩
          rw [← hz_95]
          have hz_95' : z_95 = (fi_77 0).toInt := hz_95
          have hrz_95 : -2147483648 ≤ z_95 ∧ z_95 ≤ 2147483647 := by rw [hz_95]; exact iN_rng _
          refine x_callS hC hw (lv_size hl) (c_X5_whole l G (M := M_91) (p0 := z_95) (by omega) (by omega)) gX5_drop_X5_whole rfl dv_X5_whole_s rfl (Nat.le_of_ble_eq_true rfl) (by rw [hRf]; decide) (by rw [hRl]; decide) (by omega) (by omega) dX5_drop_79 (fun r9 M_96 H locs hq hw => ?_)
          obtain ⟨qk_97, fk_97, rfl, hxk_97, hIk_97, hfk_97⟩ := hq
          have h_98 := hR_93.ext hxk_97
          have h_99 := h_94.x5 (xExt.x5 hxk_97)
          obtain ⟨hvt_100, hat_100, hbt_100, hct_100, hdt_100, het_100⟩ := id hIk_97
          show W p l e R s m args below meth c H locs _ _ _ (F0 m 82 ls [.ref qk_97, .ref a])
          refine x_callV hC hw (lv_size hl) (c_X5_many l G h_98 hIk_97) gX5_drop_X5_many rfl dv_X5_many h_98.1.1 rfl rfl (Nat.le_of_ble_eq_true rfl) (by rw [hRf]; decide) (by rw [hRl]; decide) (by omega) (by omega) dX5_drop_82 (fun r9 M_101 H locs hq hw => ?_)
          obtain ⟨z_102, rfl, hM9, hz_102a⟩ := hq
          rw [hM9] at hw
          show W p l e R s m args below meth c H locs _ _ _ (F0 m 85 ls [.int (iN (z_102))])
          exact x_iret hC hw dX5_drop_85 (by omega) (by omega) ⟨z_102, rfl, by omega, ⟨_, _, _, _, _, _, _, _, _, _, _, _, _, _, _, _, _, _, _, _, h_98⟩⟩
        · refine x_const hC dX5_drop_37 ?_
          exact x_iret hC hw dX5_drop_38 (by omega) (by omega) ⟨0, rfl, by omega, ⟨_, _, _, _, _, _, _, _, _, _, _, _, _, _, _, _, _, _, _, _, hRk_75⟩⟩
set_option maxHeartbeats 4000000 in
set_option maxRecDepth 100000 in
theorem c_X5_keep (l : Launch) (G : xG) {M : HM} {a va oa wa ya : Nat} {wk : Option Nat} {th rfd br re la ha kp kv : Int32} {qv qw : Nat → Nat} {fa fb : Nat → Option Nat} {fvv fw : Nat → Nat → Int32} {fo : Nat → Int32} {fy : Nat → Option Nat} {S : Nat → Bool} (hR : MGx G M a va oa wa ya wk th rfd br re la ha kp kv qv qw fa fb fvv fw fo fy S) {p0 : Int} (hp0 : -2147483648 ≤ p0 ∧ p0 ≤ 2147483647) {p1 : Int} (hp1 : -2147483648 ≤ p1 ∧ p1 ≤ 2147483647) : xMet l G yX5_keep wsX5_keep 5 115 1 5 [.ref a, .int (iN (p0)), .int (iN (p1))] M (fun r M1 => ∃ z : Int, r = some (.int (iN z)) ∧ (-2147483648 ≤ z ∧ z ≤ 2147483647) ∧ MGm G M1 a rfd S) := by
  refine x_intro (cc := cX5_keep) (maxL := 4) (ret := (some .int)) (by decide +kernel) rfl (Nat.le_of_ble_eq_true rfl) ?_
  intro p e R s m args below meth c ls hRf hRc hRs hRl hC hw hl
  have hinX5 : ∀ w ∈ wsX50, w ∈ wsX5_keep := by decide +kernel
  have hl : lv_has ls 4 [(0, .ref a), (1, .int (iN (p0))), (2, .int (iN (p1)))] := hl
  refine lv_aload_n hC.1 hC.2.1 dX5_keep_0 rfl (lv_at hl 0 rfl) ?_
  refine lv_iload_n hC.1 hC.2.1 dX5_keep_1 rfl (lv_at hl 1 rfl) ?_
  refine x_callS hC hw (lv_size hl) (c_X5_isNoBook l G (M := M) (p0 := p0) (by omega)) gX5_keep_X5_isNoBook rfl dv_X5_isNoBook_s rfl (Nat.le_of_ble_eq_true rfl) (by rw [hRf]; decide) (by rw [hRl]; decide) (by omega) (by omega) dX5_keep_2 (fun r9 M_1 H locs hq hw => ?_)
  obtain ⟨z_2, rfl, hM9, hz_2a, hz_2b⟩ := hq
  rw [hM9] at hw
  show W p l e R s m args below meth c H locs _ _ _ (F0 m 5 ls [.int (iN (z_2)), .ref a])
  refine x_const hC dX5_keep_5 ?_
  refine x_callV hC hw (lv_size hl) (c_X5_start l G hR (p0 := z_2) (by omega) (p1 := 1) (by omega) (by omega)) gX5_keep_X5_start rfl dv_X5_start hR.1.1 rfl rfl (Nat.le_of_ble_eq_true rfl) (by rw [hRf]; decide) (by rw [hRl]; decide) (by omega) (by omega) dX5_keep_6 (fun r9 M_3 H locs hq hw => ?_)
  obtain ⟨z_4, rfl, hz_4a, hz_4b, thk_5, hRk_5⟩ := hq
  show W p l e R s m args below meth c H locs _ _ _ (F0 m 9 ls [.int (iN (z_4))])
  refine x_if_eq (tgt := 14) hC ⟨by omega, by omega⟩ dX5_keep_9 (by decide) (fun c_6 => ?_) (fun c_6 => ?_)
  · refine lv_aload_n hC.1 hC.2.1 dX5_keep_14 rfl (lv_at hl 0 rfl) ?_
    refine lv_iload_n hC.1 hC.2.1 dX5_keep_15 rfl (lv_at hl 1 rfl) ?_
    refine x_callS hC hw (lv_size hl) (c_X5_whole l G (M := M_3) (p0 := p0) (by omega) (by omega)) gX5_keep_X5_whole rfl dv_X5_whole_s rfl (Nat.le_of_ble_eq_true rfl) (by rw [hRf]; decide) (by rw [hRl]; decide) (by omega) (by omega) dX5_keep_16 (fun r9 M_7 H locs hq hw => ?_)
    obtain ⟨qk_8, fk_8, rfl, hxk_8, hIk_8, hfk_8⟩ := hq
    have h_9 := hRk_5.ext hxk_8
    obtain ⟨hvt_10, hat_10, hbt_10, hct_10, hdt_10, het_10⟩ := id hIk_8
    show W p l e R s m args below meth c H locs _ _ _ (F0 m 19 ls [.ref qk_8, .ref a])
    refine lv_iload_n hC.1 hC.2.1 dX5_keep_19 rfl (lv_at hl 2 rfl) ?_
    refine x_callV hC hw (lv_size hl) (c_X5_end l G h_9 hIk_8 (p0 := p1) (by omega)) gX5_keep_X5_end rfl dv_X5_end h_9.1.1 rfl rfl (Nat.le_of_ble_eq_true rfl) (by rw [hRf]; decide) (by rw [hRl]; decide) (by omega) (by omega) dX5_keep_20 (fun r9 M_11 H locs hq hw => ?_)
    obtain ⟨z_12, rfl, hM9, hz_12a, hz_12S⟩ := hq
    rw [hM9] at hw
    show W p l e R s m args below meth c H locs _ _ _ (F0 m 23 ls [.int (iN (z_12))])
    refine lv_istore_n (lv' := [(3, .int (iN (z_12))), (0, .ref a), (1, .int (iN (p0))), (2, .int (iN (p1)))]) hC.1 hC.2.1 dX5_keep_23 rfl hl (by decide) rfl (fun ls hl => ?_)
    refine lv_iload_n hC.1 hC.2.1 dX5_keep_24 rfl (lv_at hl 0 rfl) ?_
    refine x_sipush hC dX5_keep_25 (by decide +kernel) ?_
    refine x_icmp_ne (tgt := 35) hC ⟨by omega, by omega⟩ ⟨by omega, by omega⟩ dX5_keep_28 (by decide) (fun c_13 => ?_) (fun c_13 => ?_)
    · refine lv_aload_n hC.1 hC.2.1 dX5_keep_35 rfl (lv_at hl 1 rfl) ?_
      refine lv_iload_n hC.1 hC.2.1 dX5_keep_36 rfl (lv_at hl 0 rfl) ?_
      refine x_put (fs2 := [.int thk_5, .int rfd, .ref va, .ref oa, .ref wa, .ref ya, va_rf (wk), .int br, .int re, .int la, .int ha, .int (iN (z_12)), .int kv]) hC hw h_9.1.1 rfl hinX5 tyX5 tyX5_ok nmX5 11 (by decide) (by decide +kernel) rfl rfl rfl (Nat.le_of_ble_eq_true rfl) rfl dX5_keep_37 (fun H locs hw => ?_)
      obtain ⟨M_14, hM_15⟩ : ∃ z, z = va_up M_7 a (some (.inr (7, [.int thk_5, .int rfd, .ref va, .ref oa, .ref wa, .ref ya, va_rf (wk), .int br, .int re, .int la, .int ha, .int (iN (z_12)), .int kv]))) := ⟨_, rfl⟩
      rw [← hM_15] at hw
      have hR_16 : MGx G M_14 a va oa wa ya wk thk_5 rfd br re la ha (iN (z_12)) kv qv qw fa fb fvv fw fo fy S := h_9.obj hM_15 h_9.sc.1 h_9.sc.2.1 h_9.sc.2.2 (fun y9 h9 => h_9.wk' h9)
      have h_17 := hIk_8.x5 (h_9.obj5 hM_15)
      refine lv_aload_n hC.1 hC.2.1 dX5_keep_40 rfl (lv_at hl 1 rfl) ?_
      refine lv_aload_n hC.1 hC.2.1 dX5_keep_41 rfl (lv_at hl 1 rfl) ?_
      refine x_get hC hw hR_16.1.1 rfl hinX5 2 (by decide) (by decide +kernel) rfl dX5_keep_42 ?_
      refine lv_iload_n hC.1 hC.2.1 dX5_keep_45 rfl (lv_at hl 2 rfl) ?_
      refine x_ald4 hC hw hR_16.1.2.1 (by omega) (by omega) (by omega) dX5_keep_46 ?_
      rw [hR_16.fa' (show (p0).toNat < 3 by omega)]
      show W p l e R s m args below meth c _ _ _ _ _ (F0 m 47 ls [.ref (qv (p0).toNat), .ref a])
      refine lv_iload_n hC.1 hC.2.1 dX5_keep_47 rfl (lv_at hl 0 rfl) ?_
      refine x_iald hC hw (hR_16.rv (show (p0).toNat < 3 by omega)) (by omega) (by omega) (by omega) dX5_keep_48 ?_
      obtain ⟨z_18, hz_18⟩ : ∃ z : Int, z = ((fvv (p0).toNat) (z_12).toNat).toInt := ⟨_, rfl⟩
      rw [← hz_18]
      have hrz_18 : -10000 ≤ z_18 ∧ z_18 ≤ 9999 := by rw [hz_18]; exact hR_16.vr (by omega) (by omega)
      have hpz_18 : z_18 ≠ -10000 → S (z_12).toNat = true := by rw [hz_18]; exact hR_16.vs (by omega) (by omega)
      refine x_put (fs2 := [.int thk_5, .int rfd, .ref va, .ref oa, .ref wa, .ref ya, va_rf (wk), .int br, .int re, .int la, .int ha, .int (iN (z_12)), .int (iN (z_18))]) hC hw hR_16.1.1 rfl hinX5 tyX5 tyX5_ok nmX5 12 (by decide) (by decide +kernel) rfl rfl rfl (Nat.le_of_ble_eq_true rfl) rfl dX5_keep_49 (fun H locs hw => ?_)
      obtain ⟨M_19, hM_20⟩ : ∃ z, z = va_up M_14 a (some (.inr (7, [.int thk_5, .int rfd, .ref va, .ref oa, .ref wa, .ref ya, va_rf (wk), .int br, .int re, .int la, .int ha, .int (iN (z_12)), .int (iN (z_18))]))) := ⟨_, rfl⟩
      rw [← hM_20] at hw
      have hR_21 : MGx G M_19 a va oa wa ya wk thk_5 rfd br re la ha (iN (z_12)) (iN (z_18)) qv qw fa fb fvv fw fo fy S := hR_16.obj hM_20 hR_16.sc.1 hR_16.sc.2.1 hR_16.sc.2.2 (fun y9 h9 => hR_16.wk' h9)
      have h_22 := h_17.x5 (hR_16.obj5 hM_20)
      refine lv_iload_n hC.1 hC.2.1 dX5_keep_52 rfl (lv_at hl 0 rfl) ?_
      exact x_iret hC hw dX5_keep_53 (by omega) (by omega) ⟨z_12, rfl, by omega, ⟨_, _, _, _, _, _, _, _, _, _, _, _, _, _, _, _, _, _, _, _, hR_21⟩⟩
    · refine x_sipush hC dX5_keep_31 (by decide +kernel) ?_
      exact x_iret hC hw dX5_keep_34 (by omega) (by omega) ⟨(-10000), rfl, by omega, ⟨_, _, _, _, _, _, _, _, _, _, _, _, _, _, _, _, _, _, _, _, h_9⟩⟩
  · refine x_const hC dX5_keep_12 ?_
    exact x_iret hC hw dX5_keep_13 (by omega) (by omega) ⟨0, rfl, by omega, ⟨_, _, _, _, _, _, _, _, _, _, _, _, _, _, _, _, _, _, _, _, hRk_5⟩⟩
set_option maxHeartbeats 4000000 in
set_option maxRecDepth 100000 in
theorem c_X5_brand (l : Launch) (G : xG) {M : HM} {a va oa wa ya : Nat} {wk : Option Nat} {th rfd br re la ha kp kv : Int32} {qv qw : Nat → Nat} {fa fb : Nat → Option Nat} {fvv fw : Nat → Nat → Int32} {fo : Nat → Int32} {fy : Nat → Option Nat} {S : Nat → Bool} (hR : MGx G M a va oa wa ya wk th rfd br re la ha kp kv qv qw fa fb fvv fw fo fy S) {p0 : Int} (hp0 : -2147483648 ≤ p0 ∧ p0 ≤ 2147483647) : xMet l G yX5_brand wsX5_brand 2 44 0 0 [.ref a, .int (iN (p0))] M (fun r M1 => ∃ z : Int, r = some (.int (iN z)) ∧ (-2147483648 ≤ z ∧ z ≤ 2147483647) ∧ MGm G M1 a rfd S) := by
  refine x_intro (cc := cX5_brand) (maxL := 2) (ret := (some .int)) (by decide +kernel) rfl (Nat.le_of_ble_eq_true rfl) ?_
  intro p e R s m args below meth c ls hRf hRc hRs hRl hC hw hl
  have hinX5 : ∀ w ∈ wsX50, w ∈ wsX5_brand := by decide +kernel
  have hl : lv_has ls 2 [(0, .ref a), (1, .int (iN (p0)))] := hl
  refine lv_aload_n hC.1 hC.2.1 dX5_brand_0 rfl (lv_at hl 0 rfl) ?_
  refine lv_iload_n hC.1 hC.2.1 dX5_brand_1 rfl (lv_at hl 1 rfl) ?_
  refine x_callS hC hw (lv_size hl) (c_X5_isNoValue l G (M := M) (p0 := p0) (by omega)) gX5_brand_X5_isNoValue rfl dv_X5_isNoValue_s rfl (Nat.le_of_ble_eq_true rfl) (by rw [hRf]; decide) (by rw [hRl]; decide) (by omega) (by omega) dX5_brand_2 (fun r9 M_1 H locs hq hw => ?_)
  obtain ⟨z_2, rfl, hM9, hz_2a, hz_2b⟩ := hq
  rw [hM9] at hw
  show W p l e R s m args below meth c H locs _ _ _ (F0 m 5 ls [.int (iN (z_2)), .ref a])
  refine x_const hC dX5_brand_5 ?_
  refine x_callV hC hw (lv_size hl) (c_X5_start l G hR (p0 := z_2) (by omega) (p1 := 1) (by omega) (by omega)) gX5_brand_X5_start rfl dv_X5_start hR.1.1 rfl rfl (Nat.le_of_ble_eq_true rfl) (by rw [hRf]; decide) (by rw [hRl]; decide) (by omega) (by omega) dX5_brand_6 (fun r9 M_3 H locs hq hw => ?_)
  obtain ⟨z_4, rfl, hz_4a, hz_4b, thk_5, hRk_5⟩ := hq
  show W p l e R s m args below meth c H locs _ _ _ (F0 m 9 ls [.int (iN (z_4))])
  refine x_if_eq (tgt := 14) hC ⟨by omega, by omega⟩ dX5_brand_9 (by decide) (fun c_6 => ?_) (fun c_6 => ?_)
  · refine lv_aload_n hC.1 hC.2.1 dX5_brand_14 rfl (lv_at hl 0 rfl) ?_
    refine x_getR hC hw hRk_5.1.1 rfl hinX5 11 (by decide) (by decide +kernel) rfl dX5_brand_15 ?_
    have hrr_7 := iN_rng kp
    refine x_sipush hC dX5_brand_18 (by decide +kernel) ?_
    refine x_icmp_ne (tgt := 30) hC ⟨by omega, by omega⟩ ⟨by omega, by omega⟩ dX5_brand_21 (by decide) (fun c_8 => ?_) (fun c_8 => ?_)
    · refine x_sipush hC dX5_brand_30 (by decide +kernel) ?_
      exact x_iret hC hw dX5_brand_33 (by omega) (by omega) ⟨(-20000), rfl, by omega, ⟨_, _, _, _, _, _, _, _, _, _, _, _, _, _, _, _, _, _, _, _, hRk_5⟩⟩
    · refine x_sipush hC dX5_brand_24 (by decide +kernel) ?_
      refine lv_goto (tgt := 33) hC.1 hC.2.1 dX5_brand_27 (by decide) ?_
      exact x_iret hC hw dX5_brand_33 (by omega) (by omega) ⟨(-10000), rfl, by omega, ⟨_, _, _, _, _, _, _, _, _, _, _, _, _, _, _, _, _, _, _, _, hRk_5⟩⟩
  · refine x_const hC dX5_brand_12 ?_
    exact x_iret hC hw dX5_brand_13 (by omega) (by omega) ⟨0, rfl, by omega, ⟨_, _, _, _, _, _, _, _, _, _, _, _, _, _, _, _, _, _, _, _, hRk_5⟩⟩
set_option maxHeartbeats 4000000 in
set_option maxRecDepth 100000 in
theorem c_X5_knock (l : Launch) (G : xG) {M : HM} {a va oa wa ya : Nat} {wk : Option Nat} {th rfd br re la ha kp kv : Int32} {qv qw : Nat → Nat} {fa fb : Nat → Option Nat} {fvv fw : Nat → Nat → Int32} {fo : Nat → Int32} {fy : Nat → Option Nat} {S : Nat → Bool} (hR : MGx G M a va oa wa ya wk th rfd br re la ha kp kv qv qw fa fb fvv fw fo fy S) : xMet l G yX5_knock wsX5_knock 0 0 0 0 [.ref a] M (fun r M1 => r = some (.int (iN (rfd.toInt + 1))) ∧ MGm G M1 a (iN (rfd.toInt + 1)) S) := by
  refine x_intro (cc := cX5_knock) (maxL := 1) (ret := (some .int)) (by decide +kernel) rfl (Nat.le_of_ble_eq_true rfl) ?_
  intro p e R s m args below meth c ls hRf hRc hRs hRl hC hw hl
  have hinX5 : ∀ w ∈ wsX50, w ∈ wsX5_knock := by decide +kernel
  have hl : lv_has ls 1 [(0, .ref a)] := hl
  refine lv_aload_n hC.1 hC.2.1 dX5_knock_0 rfl (lv_at hl 0 rfl) ?_
  refine x_const hC dX5_knock_1 ?_
  refine x_put (fs2 := [.int (iN (0)), .int rfd, .ref va, .ref oa, .ref wa, .ref ya, va_rf (wk), .int br, .int re, .int la, .int ha, .int kp, .int kv]) hC hw hR.1.1 rfl hinX5 tyX5 tyX5_ok nmX5 0 (by decide) (by decide +kernel) rfl rfl rfl (Nat.le_of_ble_eq_true rfl) rfl dX5_knock_2 (fun H locs hw => ?_)
  obtain ⟨M_1, hM_2⟩ : ∃ z, z = va_up M a (some (.inr (7, [.int (iN (0)), .int rfd, .ref va, .ref oa, .ref wa, .ref ya, va_rf (wk), .int br, .int re, .int la, .int ha, .int kp, .int kv]))) := ⟨_, rfl⟩
  rw [← hM_2] at hw
  have hR_3 : MGx G M_1 a va oa wa ya wk (iN (0)) rfd br re la ha kp kv qv qw fa fb fvv fw fo fy S := hR.obj hM_2 (by rw [iN_toInt ⟨by omega, by omega⟩]; omega) hR.sc.2.1 hR.sc.2.2 (fun y9 h9 => hR.wk' h9)
  refine lv_aload_n hC.1 hC.2.1 dX5_knock_5 rfl (lv_at hl 0 rfl) ?_
  refine lv_dup hC.1 hC.2.1 dX5_knock_6 rfl ?_
  refine x_getR hC hw hR_3.1.1 rfl hinX5 1 (by decide) (by decide +kernel) rfl dX5_knock_7 ?_
  have hrr_4 := iN_rng rfd
  refine x_const hC dX5_knock_10 ?_
  refine x_iadd hC dX5_knock_11 ?_
  refine x_put (fs2 := [.int (iN (0)), .int (iN (rfd.toInt + 1)), .ref va, .ref oa, .ref wa, .ref ya, va_rf (wk), .int br, .int re, .int la, .int ha, .int kp, .int kv]) hC hw hR_3.1.1 rfl hinX5 tyX5 tyX5_ok nmX5 1 (by decide) (by decide +kernel) rfl rfl rfl (Nat.le_of_ble_eq_true rfl) rfl dX5_knock_12 (fun H locs hw => ?_)
  obtain ⟨M_5, hM_6⟩ : ∃ z, z = va_up M_1 a (some (.inr (7, [.int (iN (0)), .int (iN (rfd.toInt + 1)), .ref va, .ref oa, .ref wa, .ref ya, va_rf (wk), .int br, .int re, .int la, .int ha, .int kp, .int kv]))) := ⟨_, rfl⟩
  rw [← hM_6] at hw
  have hR_7 : MGx G M_5 a va oa wa ya wk (iN (0)) (iN (rfd.toInt + 1)) br re la ha kp kv qv qw fa fb fvv fw fo fy S := hR_3.obj hM_6 hR_3.sc.1 hR_3.sc.2.1 hR_3.sc.2.2 (fun y9 h9 => hR_3.wk' h9)
  refine lv_aload_n hC.1 hC.2.1 dX5_knock_15 rfl (lv_at hl 0 rfl) ?_
  refine x_getR hC hw hR_7.1.1 rfl hinX5 1 (by decide) (by decide +kernel) rfl dX5_knock_16 ?_
  have hrr_8 := iN_rng (iN (rfd.toInt + 1))
  exact x_iret hC hw dX5_knock_19 (by omega) (by omega) ⟨by simp only [iN_asI], ⟨_, _, _, _, _, _, _, _, _, _, _, _, _, _, _, _, _, _, _, _, hR_7⟩⟩
set_option maxHeartbeats 4000000 in
set_option maxRecDepth 100000 in
theorem c_X5_get (l : Launch) (G : xG) {M : HM} {a va oa wa ya : Nat} {wk : Option Nat} {th rfd br re la ha kp kv : Int32} {qv qw : Nat → Nat} {fa fb : Nat → Option Nat} {fvv fw : Nat → Nat → Int32} {fo : Nat → Int32} {fy : Nat → Option Nat} {S : Nat → Bool} (hR : MGx G M a va oa wa ya wk th rfd br re la ha kp kv qv qw fa fb fvv fw fo fy S) {p0 : Int} (hp0 : -2147483648 ≤ p0 ∧ p0 ≤ 2147483647) {p1 : Int} (hp1 : -2147483648 ≤ p1 ∧ p1 ≤ 2147483647) : xMet l G yX5_get wsX5_get 3 66 0 0 [.ref a, .int (iN (p0)), .int (iN (p1))] M (fun r M1 => ∃ z : Int, r = some (.int (iN z)) ∧ (-2147483648 ≤ z ∧ z ≤ 2147483647) ∧ MGm G M1 a rfd S) := by
  refine x_intro (cc := cX5_get) (maxL := 3) (ret := (some .int)) (by decide +kernel) rfl (Nat.le_of_ble_eq_true rfl) ?_
  intro p e R s m args below meth c ls hRf hRc hRs hRl hC hw hl
  have hinX5 : ∀ w ∈ wsX50, w ∈ wsX5_get := by decide +kernel
  have hl : lv_has ls 3 [(0, .ref a), (1, .int (iN (p0))), (2, .int (iN (p1)))] := hl
  refine lv_aload_n hC.1 hC.2.1 dX5_get_0 rfl (lv_at hl 0 rfl) ?_
  refine lv_iload_n hC.1 hC.2.1 dX5_get_1 rfl (lv_at hl 1 rfl) ?_
  refine lv_iload_n hC.1 hC.2.1 dX5_get_2 rfl (lv_at hl 2 rfl) ?_
  refine x_callV hC hw (lv_size hl) (c_X5_isBad l G hR (p0 := p0) (by omega) (p1 := p1) (by omega)) gX5_get_X5_isBad rfl dv_X5_isBad hR.1.1 rfl rfl (Nat.le_of_ble_eq_true rfl) (by rw [hRf]; decide) (by rw [hRl]; decide) (by omega) (by omega) dX5_get_3 (fun r9 M_1 H locs hq hw => ?_)
  obtain ⟨z_2, rfl, hz_2a, hz_2b, thk_3, hRk_3⟩ := hq
  show W p l e R s m args below meth c H locs _ _ _ (F0 m 6 ls [.int (iN (z_2))])
  refine x_if_eq (tgt := 13) hC ⟨by omega, by omega⟩ dX5_get_6 (by decide) (fun c_4 => ?_) (fun c_4 => ?_)
  · refine lv_aload_n hC.1 hC.2.1 dX5_get_13 rfl (lv_at hl 0 rfl) ?_
    refine x_get hC hw hRk_3.1.1 rfl hinX5 2 (by decide) (by decide +kernel) rfl dX5_get_14 ?_
    refine lv_iload_n hC.1 hC.2.1 dX5_get_17 rfl (lv_at hl 1 rfl) ?_
    refine x_ald4 hC hw hRk_3.1.2.1 (by omega) (by omega) (by omega) dX5_get_18 ?_
    rw [hRk_3.fa' (show (p0).toNat < 3 by omega)]
    show W p l e R s m args below meth c _ _ _ _ _ (F0 m 19 ls [.ref (qv (p0).toNat)])
    refine lv_iload_n hC.1 hC.2.1 dX5_get_19 rfl (lv_at hl 2 rfl) ?_
    refine x_iald hC hw (hRk_3.rv (show (p0).toNat < 3 by omega)) (by omega) (by omega) (by omega) dX5_get_20 ?_
    obtain ⟨z_5, hz_5⟩ : ∃ z : Int, z = ((fvv (p0).toNat) (p1).toNat).toInt := ⟨_, rfl⟩
    rw [← hz_5]
    have hrz_5 : -10000 ≤ z_5 ∧ z_5 ≤ 9999 := by rw [hz_5]; exact hRk_3.vr (by omega) (by omega)
    have hpz_5 : z_5 ≠ -10000 → S (p1).toNat = true := by rw [hz_5]; exact hRk_3.vs (by omega) (by omega)
    exact x_iret hC hw dX5_get_21 (by omega) (by omega) ⟨z_5, rfl, by omega, ⟨_, _, _, _, _, _, _, _, _, _, _, _, _, _, _, _, _, _, _, _, hRk_3⟩⟩
  · refine x_const hC dX5_get_9 ?_
    refine lv_goto (tgt := 21) hC.1 hC.2.1 dX5_get_10 (by decide) ?_
    exact x_iret hC hw dX5_get_21 (by omega) (by omega) ⟨0, rfl, by omega, ⟨_, _, _, _, _, _, _, _, _, _, _, _, _, _, _, _, _, _, _, _, hRk_3⟩⟩
set_option maxHeartbeats 4000000 in
set_option maxRecDepth 100000 in
theorem c_X5_getOr (l : Launch) (G : xG) {M : HM} {a va oa wa ya : Nat} {wk : Option Nat} {th rfd br re la ha kp kv : Int32} {qv qw : Nat → Nat} {fa fb : Nat → Option Nat} {fvv fw : Nat → Nat → Int32} {fo : Nat → Int32} {fy : Nat → Option Nat} {S : Nat → Bool} (hR : MGx G M a va oa wa ya wk th rfd br re la ha kp kv qv qw fa fb fvv fw fo fy S) {p0 : Int} (hp0 : -2147483648 ≤ p0 ∧ p0 ≤ 2147483647) {p1 : Int} (hp1 : -2147483648 ≤ p1 ∧ p1 ≤ 2147483647) {p2 : Int} (hp2 : -2147483648 ≤ p2 ∧ p2 ≤ 2147483647) : xMet l G yX5_getOr wsX5_getOr 3 67 0 0 [.ref a, .int (iN (p0)), .int (iN (p1)), .int (iN (p2))] M (fun r M1 => ∃ z : Int, r = some (.int (iN z)) ∧ (-2147483648 ≤ z ∧ z ≤ 2147483647) ∧ MGm G M1 a rfd S) := by
  refine x_intro (cc := cX5_getOr) (maxL := 4) (ret := (some .int)) (by decide +kernel) rfl (Nat.le_of_ble_eq_true rfl) ?_
  intro p e R s m args below meth c ls hRf hRc hRs hRl hC hw hl
  have hinX5 : ∀ w ∈ wsX50, w ∈ wsX5_getOr := by decide +kernel
  have hl : lv_has ls 4 [(0, .ref a), (1, .int (iN (p0))), (2, .int (iN (p1))), (3, .int (iN (p2)))] := hl
  refine lv_aload_n hC.1 hC.2.1 dX5_getOr_0 rfl (lv_at hl 0 rfl) ?_
  refine lv_iload_n hC.1 hC.2.1 dX5_getOr_1 rfl (lv_at hl 1 rfl) ?_
  refine lv_iload_n hC.1 hC.2.1 dX5_getOr_2 rfl (lv_at hl 2 rfl) ?_
  refine lv_iload_n hC.1 hC.2.1 dX5_getOr_3 rfl (lv_at hl 3 rfl) ?_
  refine x_callV hC hw (lv_size hl) (c_X5_isBad_ l G hR (p0 := p0) (by omega) (p1 := p1) (by omega) (p2 := p2) (by omega)) gX5_getOr_X5_isBad_ rfl dv_X5_isBad_ hR.1.1 rfl rfl (Nat.le_of_ble_eq_true rfl) (by rw [hRf]; decide) (by rw [hRl]; decide) (by omega) (by omega) dX5_getOr_4 (fun r9 M_1 H locs hq hw => ?_)
  obtain ⟨z_2, rfl, hz_2a, hz_2b, thk_3, hRk_3⟩ := hq
  show W p l e R s m args below meth c H locs _ _ _ (F0 m 7 ls [.int (iN (z_2))])
  refine x_if_eq (tgt := 12) hC ⟨by omega, by omega⟩ dX5_getOr_7 (by decide) (fun c_4 => ?_) (fun c_4 => ?_)
  · refine lv_aload_n hC.1 hC.2.1 dX5_getOr_12 rfl (lv_at hl 0 rfl) ?_
    refine x_get hC hw hRk_3.1.1 rfl hinX5 2 (by decide) (by decide +kernel) rfl dX5_getOr_13 ?_
    refine lv_iload_n hC.1 hC.2.1 dX5_getOr_16 rfl (lv_at hl 1 rfl) ?_
    refine x_ald4 hC hw hRk_3.1.2.1 (by omega) (by omega) (by omega) dX5_getOr_17 ?_
    rw [hRk_3.fa' (show (p0).toNat < 3 by omega)]
    show W p l e R s m args below meth c _ _ _ _ _ (F0 m 18 ls [.ref (qv (p0).toNat)])
    refine lv_iload_n hC.1 hC.2.1 dX5_getOr_18 rfl (lv_at hl 2 rfl) ?_
    refine x_iald hC hw (hRk_3.rv (show (p0).toNat < 3 by omega)) (by omega) (by omega) (by omega) dX5_getOr_19 ?_
    obtain ⟨z_5, hz_5⟩ : ∃ z : Int, z = ((fvv (p0).toNat) (p1).toNat).toInt := ⟨_, rfl⟩
    rw [← hz_5]
    have hrz_5 : -10000 ≤ z_5 ∧ z_5 ≤ 9999 := by rw [hz_5]; exact hRk_3.vr (by omega) (by omega)
    have hpz_5 : z_5 ≠ -10000 → S (p1).toNat = true := by rw [hz_5]; exact hRk_3.vs (by omega) (by omega)
    refine x_sipush hC dX5_getOr_20 (by decide +kernel) ?_
    refine x_icmp_ne (tgt := 30) hC ⟨by omega, by omega⟩ ⟨by omega, by omega⟩ dX5_getOr_23 (by decide) (fun c_6 => ?_) (fun c_6 => ?_)
    · refine lv_aload_n hC.1 hC.2.1 dX5_getOr_30 rfl (lv_at hl 0 rfl) ?_
      refine x_get hC hw hRk_3.1.1 rfl hinX5 2 (by decide) (by decide +kernel) rfl dX5_getOr_31 ?_
      refine lv_iload_n hC.1 hC.2.1 dX5_getOr_34 rfl (lv_at hl 1 rfl) ?_
      refine x_ald4 hC hw hRk_3.1.2.1 (by omega) (by omega) (by omega) dX5_getOr_35 ?_
      rw [hRk_3.fa' (show (p0).toNat < 3 by omega)]
      show W p l e R s m args below meth c _ _ _ _ _ (F0 m 36 ls [.ref (qv (p0).toNat)])
      refine lv_iload_n hC.1 hC.2.1 dX5_getOr_36 rfl (lv_at hl 2 rfl) ?_
      refine x_iald hC hw (hRk_3.rv (show (p0).toNat < 3 by omega)) (by omega) (by omega) (by omega) dX5_getOr_37 ?_
      obtain ⟨z_7, hz_7⟩ : ∃ z : Int, z = ((fvv (p0).toNat) (p1).toNat).toInt := ⟨_, rfl⟩
      rw [← hz_7]
      have hrz_7 : -10000 ≤ z_7 ∧ z_7 ≤ 9999 := by rw [hz_7]; exact hRk_3.vr (by omega) (by omega)
      have hpz_7 : z_7 ≠ -10000 → S (p1).toNat = true := by rw [hz_7]; exact hRk_3.vs (by omega) (by omega)
      exact x_iret hC hw dX5_getOr_38 (by omega) (by omega) ⟨z_7, rfl, by omega, ⟨_, _, _, _, _, _, _, _, _, _, _, _, _, _, _, _, _, _, _, _, hRk_3⟩⟩
    · refine lv_iload_n hC.1 hC.2.1 dX5_getOr_26 rfl (lv_at hl 3 rfl) ?_
      refine lv_goto (tgt := 38) hC.1 hC.2.1 dX5_getOr_27 (by decide) ?_
      exact x_iret hC hw dX5_getOr_38 (by omega) (by omega) ⟨p2, rfl, by omega, ⟨_, _, _, _, _, _, _, _, _, _, _, _, _, _, _, _, _, _, _, _, hRk_3⟩⟩
  · refine x_const hC dX5_getOr_10 ?_
    exact x_iret hC hw dX5_getOr_11 (by omega) (by omega) ⟨0, rfl, by omega, ⟨_, _, _, _, _, _, _, _, _, _, _, _, _, _, _, _, _, _, _, _, hRk_3⟩⟩
set_option maxHeartbeats 4000000 in
set_option maxRecDepth 100000 in
theorem c_X5_has (l : Launch) (G : xG) {M : HM} {a va oa wa ya : Nat} {wk : Option Nat} {th rfd br re la ha kp kv : Int32} {qv qw : Nat → Nat} {fa fb : Nat → Option Nat} {fvv fw : Nat → Nat → Int32} {fo : Nat → Int32} {fy : Nat → Option Nat} {S : Nat → Bool} (hR : MGx G M a va oa wa ya wk th rfd br re la ha kp kv qv qw fa fb fvv fw fo fy S) {p0 : Int} (hp0 : -2147483648 ≤ p0 ∧ p0 ≤ 2147483647) {p1 : Int} (hp1 : -2147483648 ≤ p1 ∧ p1 ≤ 2147483647) : xMet l G yX5_has wsX5_has 3 66 0 0 [.ref a, .int (iN (p0)), .int (iN (p1))] M (fun r M1 => ∃ z : Int, r = some (.int (iN z)) ∧ (z = 0 ∨ z = 1) ∧ MGm G M1 a rfd S) := by
  refine x_intro (cc := cX5_has) (maxL := 3) (ret := (some .boolean)) (by decide +kernel) rfl (Nat.le_of_ble_eq_true rfl) ?_
  intro p e R s m args below meth c ls hRf hRc hRs hRl hC hw hl
  have hinX5 : ∀ w ∈ wsX50, w ∈ wsX5_has := by decide +kernel
  have hl : lv_has ls 3 [(0, .ref a), (1, .int (iN (p0))), (2, .int (iN (p1)))] := hl
  refine lv_aload_n hC.1 hC.2.1 dX5_has_0 rfl (lv_at hl 0 rfl) ?_
  refine lv_iload_n hC.1 hC.2.1 dX5_has_1 rfl (lv_at hl 1 rfl) ?_
  refine lv_iload_n hC.1 hC.2.1 dX5_has_2 rfl (lv_at hl 2 rfl) ?_
  refine x_callV hC hw (lv_size hl) (c_X5_isBad l G hR (p0 := p0) (by omega) (p1 := p1) (by omega)) gX5_has_X5_isBad rfl dv_X5_isBad hR.1.1 rfl rfl (Nat.le_of_ble_eq_true rfl) (by rw [hRf]; decide) (by rw [hRl]; decide) (by omega) (by omega) dX5_has_3 (fun r9 M_1 H locs hq hw => ?_)
  obtain ⟨z_2, rfl, hz_2a, hz_2b, thk_3, hRk_3⟩ := hq
  show W p l e R s m args below meth c H locs _ _ _ (F0 m 6 ls [.int (iN (z_2))])
  refine x_if_ne (tgt := 27) hC ⟨by omega, by omega⟩ dX5_has_6 (by decide) (fun c_4 => ?_) (fun c_4 => ?_)
  · refine x_const hC dX5_has_27 ?_
    exact x_zret hC hw (by omega) dX5_has_28 (by omega) (by omega) ⟨0, rfl, by omega, ⟨_, _, _, _, _, _, _, _, _, _, _, _, _, _, _, _, _, _, _, _, hRk_3⟩⟩
  · refine lv_aload_n hC.1 hC.2.1 dX5_has_9 rfl (lv_at hl 0 rfl) ?_
    refine x_get hC hw hRk_3.1.1 rfl hinX5 2 (by decide) (by decide +kernel) rfl dX5_has_10 ?_
    refine lv_iload_n hC.1 hC.2.1 dX5_has_13 rfl (lv_at hl 1 rfl) ?_
    refine x_ald4 hC hw hRk_3.1.2.1 (by omega) (by omega) (by omega) dX5_has_14 ?_
    rw [hRk_3.fa' (show (p0).toNat < 3 by omega)]
    show W p l e R s m args below meth c _ _ _ _ _ (F0 m 15 ls [.ref (qv (p0).toNat)])
    refine lv_iload_n hC.1 hC.2.1 dX5_has_15 rfl (lv_at hl 2 rfl) ?_
    refine x_iald hC hw (hRk_3.rv (show (p0).toNat < 3 by omega)) (by omega) (by omega) (by omega) dX5_has_16 ?_
    obtain ⟨z_5, hz_5⟩ : ∃ z : Int, z = ((fvv (p0).toNat) (p1).toNat).toInt := ⟨_, rfl⟩
    rw [← hz_5]
    have hrz_5 : -10000 ≤ z_5 ∧ z_5 ≤ 9999 := by rw [hz_5]; exact hRk_3.vr (by omega) (by omega)
    have hpz_5 : z_5 ≠ -10000 → S (p1).toNat = true := by rw [hz_5]; exact hRk_3.vs (by omega) (by omega)
    refine x_sipush hC dX5_has_17 (by decide +kernel) ?_
    refine x_icmp_eq (tgt := 27) hC ⟨by omega, by omega⟩ ⟨by omega, by omega⟩ dX5_has_20 (by decide) (fun c_6 => ?_) (fun c_6 => ?_)
    · refine x_const hC dX5_has_27 ?_
      exact x_zret hC hw (by omega) dX5_has_28 (by omega) (by omega) ⟨0, rfl, by omega, ⟨_, _, _, _, _, _, _, _, _, _, _, _, _, _, _, _, _, _, _, _, hRk_3⟩⟩
    · refine x_const hC dX5_has_23 ?_
      refine lv_goto (tgt := 28) hC.1 hC.2.1 dX5_has_24 (by decide) ?_
      exact x_zret hC hw (by omega) dX5_has_28 (by omega) (by omega) ⟨1, rfl, by omega, ⟨_, _, _, _, _, _, _, _, _, _, _, _, _, _, _, _, _, _, _, _, hRk_3⟩⟩
set_option maxHeartbeats 4000000 in
set_option maxRecDepth 100000 in
theorem c_X5_hasValue (l : Launch) (G : xG) {M : HM} {a va oa wa ya : Nat} {wk : Option Nat} {th rfd br re la ha kp kv : Int32} {qv qw : Nat → Nat} {fa fb : Nat → Option Nat} {fvv fw : Nat → Nat → Int32} {fo : Nat → Int32} {fy : Nat → Option Nat} {S : Nat → Bool} (hR : MGx G M a va oa wa ya wk th rfd br re la ha kp kv qv qw fa fb fvv fw fo fy S) {p0 : Int} (hp0 : -2147483648 ≤ p0 ∧ p0 ≤ 2147483647) {p1 : Int} (hp1 : -2147483648 ≤ p1 ∧ p1 ≤ 2147483647) : xMet l G yX5_hasValue wsX5_hasValue 2 47 0 0 [.ref a, .int (iN (p0)), .int (iN (p1))] M (fun r M1 => ∃ z : Int, r = some (.int (iN z)) ∧ (z = 0 ∨ z = 1) ∧ MGm G M1 a rfd S) := by
  refine x_intro (cc := cX5_hasValue) (maxL := 3) (ret := (some .boolean)) (by decide +kernel) rfl (Nat.le_of_ble_eq_true rfl) ?_
  intro p e R s m args below meth c ls hRf hRc hRs hRl hC hw hl
  have hl : lv_has ls 3 [(0, .ref a), (1, .int (iN (p0))), (2, .int (iN (p1)))] := hl
  refine lv_aload_n hC.1 hC.2.1 dX5_hasValue_0 rfl (lv_at hl 0 rfl) ?_
  refine lv_iload_n hC.1 hC.2.1 dX5_hasValue_1 rfl (lv_at hl 1 rfl) ?_
  refine x_callS hC hw (lv_size hl) (c_X5_isNoBook l G (M := M) (p0 := p0) (by omega)) gX5_hasValue_X5_isNoBook rfl dv_X5_isNoBook_s rfl (Nat.le_of_ble_eq_true rfl) (by rw [hRf]; decide) (by rw [hRl]; decide) (by omega) (by omega) dX5_hasValue_2 (fun r9 M_1 H locs hq hw => ?_)
  obtain ⟨z_2, rfl, hM9, hz_2a, hz_2b⟩ := hq
  rw [hM9] at hw
  show W p l e R s m args below meth c H locs _ _ _ (F0 m 5 ls [.int (iN (z_2)), .ref a])
  refine x_const hC dX5_hasValue_5 ?_
  refine x_callV hC hw (lv_size hl) (c_X5_start l G hR (p0 := z_2) (by omega) (p1 := 1) (by omega) (by omega)) gX5_hasValue_X5_start rfl dv_X5_start hR.1.1 rfl rfl (Nat.le_of_ble_eq_true rfl) (by rw [hRf]; decide) (by rw [hRl]; decide) (by omega) (by omega) dX5_hasValue_6 (fun r9 M_3 H locs hq hw => ?_)
  obtain ⟨z_4, rfl, hz_4a, hz_4b, thk_5, hRk_5⟩ := hq
  show W p l e R s m args below meth c H locs _ _ _ (F0 m 9 ls [.int (iN (z_4))])
  refine x_if_ne (tgt := 37) hC ⟨by omega, by omega⟩ dX5_hasValue_9 (by decide) (fun c_6 => ?_) (fun c_6 => ?_)
  · refine x_const hC dX5_hasValue_37 ?_
    exact x_zret hC hw (by omega) dX5_hasValue_38 (by omega) (by omega) ⟨0, rfl, by omega, ⟨_, _, _, _, _, _, _, _, _, _, _, _, _, _, _, _, _, _, _, _, hRk_5⟩⟩
  · refine lv_aload_n hC.1 hC.2.1 dX5_hasValue_12 rfl (lv_at hl 0 rfl) ?_
    refine lv_iload_n hC.1 hC.2.1 dX5_hasValue_13 rfl (lv_at hl 2 rfl) ?_
    refine x_callS hC hw (lv_size hl) (c_X5_isNoValue l G (M := M_3) (p0 := p1) (by omega)) gX5_hasValue_X5_isNoValue rfl dv_X5_isNoValue_s rfl (Nat.le_of_ble_eq_true rfl) (by rw [hRf]; decide) (by rw [hRl]; decide) (by omega) (by omega) dX5_hasValue_14 (fun r9 M_7 H locs hq hw => ?_)
    obtain ⟨z_8, rfl, hM9, hz_8a, hz_8b⟩ := hq
    rw [hM9] at hw
    show W p l e R s m args below meth c H locs _ _ _ (F0 m 17 ls [.int (iN (z_8)), .ref a])
    refine x_const hC dX5_hasValue_17 ?_
    refine x_callV hC hw (lv_size hl) (c_X5_refuse l G hRk_5 (p0 := z_8) (by omega) (p1 := 2) (by omega) (by omega)) gX5_hasValue_X5_refuse rfl dv_X5_refuse hRk_5.1.1 rfl rfl (Nat.le_of_ble_eq_true rfl) (by rw [hRf]; decide) (by rw [hRl]; decide) (by omega) (by omega) dX5_hasValue_18 (fun r9 M_9 H locs hq hw => ?_)
    obtain ⟨z_10, rfl, hz_10a, hz_10b, thk_11, hRk_11⟩ := hq
    show W p l e R s m args below meth c H locs _ _ _ (F0 m 21 ls [.int (iN (z_10))])
    refine x_if_ne (tgt := 37) hC ⟨by omega, by omega⟩ dX5_hasValue_21 (by decide) (fun c_12 => ?_) (fun c_12 => ?_)
    · refine x_const hC dX5_hasValue_37 ?_
      exact x_zret hC hw (by omega) dX5_hasValue_38 (by omega) (by omega) ⟨0, rfl, by omega, ⟨_, _, _, _, _, _, _, _, _, _, _, _, _, _, _, _, _, _, _, _, hRk_11⟩⟩
    · refine lv_aload_n hC.1 hC.2.1 dX5_hasValue_24 rfl (lv_at hl 0 rfl) ?_
      refine lv_iload_n hC.1 hC.2.1 dX5_hasValue_25 rfl (lv_at hl 1 rfl) ?_
      refine lv_iload_n hC.1 hC.2.1 dX5_hasValue_26 rfl (lv_at hl 2 rfl) ?_
      refine x_callV hC hw (lv_size hl) (c_X5_having l G hRk_11 (p0 := p0) (by omega) (p1 := p1) (by omega) (by omega)) gX5_hasValue_X5_having rfl dv_X5_having hRk_11.1.1 rfl rfl (Nat.le_of_ble_eq_true rfl) (by rw [hRf]; decide) (by rw [hRl]; decide) (by omega) (by omega) dX5_hasValue_27 (fun r9 M_13 H locs hq hw => ?_)
      obtain ⟨z_14, rfl, hM9, hz_14a⟩ := hq
      rw [hM9] at hw
      show W p l e R s m args below meth c H locs _ _ _ (F0 m 30 ls [.int (iN (z_14))])
      refine x_if_le (tgt := 37) hC ⟨by omega, by omega⟩ dX5_hasValue_30 (by decide) (fun c_15 => ?_) (fun c_15 => ?_)
      · refine x_const hC dX5_hasValue_37 ?_
        exact x_zret hC hw (by omega) dX5_hasValue_38 (by omega) (by omega) ⟨0, rfl, by omega, ⟨_, _, _, _, _, _, _, _, _, _, _, _, _, _, _, _, _, _, _, _, hRk_11⟩⟩
      · refine x_const hC dX5_hasValue_33 ?_
        refine lv_goto (tgt := 38) hC.1 hC.2.1 dX5_hasValue_34 (by decide) ?_
        exact x_zret hC hw (by omega) dX5_hasValue_38 (by omega) (by omega) ⟨1, rfl, by omega, ⟨_, _, _, _, _, _, _, _, _, _, _, _, _, _, _, _, _, _, _, _, hRk_11⟩⟩
set_option maxHeartbeats 4000000 in
set_option maxRecDepth 100000 in
theorem c_X5_valueOf (l : Launch) (G : xG) {M : HM} {a va oa wa ya : Nat} {wk : Option Nat} {th rfd br re la ha kp kv : Int32} {qv qw : Nat → Nat} {fa fb : Nat → Option Nat} {fvv fw : Nat → Nat → Int32} {fo : Nat → Int32} {fy : Nat → Option Nat} {S : Nat → Bool} (hR : MGx G M a va oa wa ya wk th rfd br re la ha kp kv qv qw fa fb fvv fw fo fy S) {p0 : Int} (hp0 : -2147483648 ≤ p0 ∧ p0 ≤ 2147483647) {p1 : Int} (hp1 : -2147483648 ≤ p1 ∧ p1 ≤ 2147483647) (hob : 0 ≤ p0 ∧ p0 ≤ 2) (hok : p1 = -10000 ∨ (0 ≤ p1 ∧ p1 ≤ 99)) : xMet l G yX5_valueOf wsX5_valueOf 0 0 0 0 [.ref a, .int (iN (p0)), .int (iN (p1))] M (fun r M1 => ∃ z : Int, r = some (.int (iN z)) ∧ M1 = M ∧ (-10000 ≤ z ∧ z ≤ 9999)) := by
  refine x_intro (cc := cX5_valueOf) (maxL := 3) (ret := (some .int)) (by decide +kernel) rfl (Nat.le_of_ble_eq_true rfl) ?_
  intro p e R s m args below meth c ls hRf hRc hRs hRl hC hw hl
  have hinX5 : ∀ w ∈ wsX50, w ∈ wsX5_valueOf := by decide +kernel
  have hl : lv_has ls 3 [(0, .ref a), (1, .int (iN (p0))), (2, .int (iN (p1)))] := hl
  refine lv_iload_n hC.1 hC.2.1 dX5_valueOf_0 rfl (lv_at hl 2 rfl) ?_
  refine x_sipush hC dX5_valueOf_1 (by decide +kernel) ?_
  refine x_icmp_ne (tgt := 13) hC ⟨by omega, by omega⟩ ⟨by omega, by omega⟩ dX5_valueOf_4 (by decide) (fun c_1 => ?_) (fun c_1 => ?_)
  · refine lv_aload_n hC.1 hC.2.1 dX5_valueOf_13 rfl (lv_at hl 0 rfl) ?_
    refine x_get hC hw hR.1.1 rfl hinX5 2 (by decide) (by decide +kernel) rfl dX5_valueOf_14 ?_
    refine lv_iload_n hC.1 hC.2.1 dX5_valueOf_17 rfl (lv_at hl 1 rfl) ?_
    refine x_ald4 hC hw hR.1.2.1 (by omega) (by omega) (by omega) dX5_valueOf_18 ?_
    rw [hR.fa' (show (p0).toNat < 3 by omega)]
    show W p l e R s m args below meth c _ _ _ _ _ (F0 m 19 ls [.ref (qv (p0).toNat)])
    refine lv_iload_n hC.1 hC.2.1 dX5_valueOf_19 rfl (lv_at hl 2 rfl) ?_
    refine x_iald hC hw (hR.rv (show (p0).toNat < 3 by omega)) (by omega) (by omega) (by omega) dX5_valueOf_20 ?_
    obtain ⟨z_2, hz_2⟩ : ∃ z : Int, z = ((fvv (p0).toNat) (p1).toNat).toInt := ⟨_, rfl⟩
    rw [← hz_2]
    have hrz_2 : -10000 ≤ z_2 ∧ z_2 ≤ 9999 := by rw [hz_2]; exact hR.vr (by omega) (by omega)
    have hpz_2 : z_2 ≠ -10000 → S (p1).toNat = true := by rw [hz_2]; exact hR.vs (by omega) (by omega)
    exact x_iret hC hw dX5_valueOf_21 (by omega) (by omega) ⟨z_2, rfl, rfl, by omega⟩
  · refine x_sipush hC dX5_valueOf_7 (by decide +kernel) ?_
    refine lv_goto (tgt := 21) hC.1 hC.2.1 dX5_valueOf_10 (by decide) ?_
    exact x_iret hC hw dX5_valueOf_21 (by omega) (by omega) ⟨(-10000), rfl, rfl, by omega⟩
set_option maxHeartbeats 4000000 in
set_option maxRecDepth 100000 in
theorem c_X5_unlike (l : Launch) (G : xG) {M : HM} {a va oa wa ya : Nat} {wk : Option Nat} {th rfd br re la ha kp kv : Int32} {qv qw : Nat → Nat} {fa fb : Nat → Option Nat} {fvv fw : Nat → Nat → Int32} {fo : Nat → Int32} {fy : Nat → Option Nat} {S : Nat → Bool} (hR : MGx G M a va oa wa ya wk th rfd br re la ha kp kv qv qw fa fb fvv fw fo fy S) {p0 : Int} (hp0 : -2147483648 ≤ p0 ∧ p0 ≤ 2147483647) (hob : 0 ≤ p0 ∧ p0 ≤ 2) : xMet l G yX5_unlike wsX5_unlike 1 20 0 0 [.ref a, .int (iN (p0))] M (fun r M1 => ∃ z : Int, r = some (.int (iN z)) ∧ M1 = M ∧ (0 ≤ z ∧ z ≤ 100)) := by
  refine x_intro (cc := cX5_unlike) (maxL := 6) (ret := (some .int)) (by decide +kernel) rfl (Nat.le_of_ble_eq_true rfl) ?_
  intro p e R s m args below meth c ls hRf hRc hRs hRl hC hw hl
  have hinX5 : ∀ w ∈ wsX50, w ∈ wsX5_unlike := by decide +kernel
  have hl : lv_has ls 6 [(0, .ref a), (1, .int (iN (p0)))] := hl
  refine x_const hC dX5_unlike_0 ?_
  refine lv_istore_n (lv' := [(2, .int (iN (0))), (0, .ref a), (1, .int (iN (p0)))]) hC.1 hC.2.1 dX5_unlike_1 rfl hl (by decide) rfl (fun ls hl => ?_)
  refine x_const hC dX5_unlike_2 ?_
  refine lv_istore_n (lv' := [(3, .int (iN (0))), (2, .int (iN (0))), (0, .ref a), (1, .int (iN (p0)))]) hC.1 hC.2.1 dX5_unlike_3 rfl hl (by decide) rfl (fun ls hl => ?_)
  suffices hloop4 : ∀ (n9 : Nat) (n : Int) (j : Int) (H : Heap) (locs : List Loc) (ls : Array Slot), (hmu : (100 - j).toNat < n9) → (hi0 : 0 ≤ j ∧ j ≤ 100) → (hi1 : 0 ≤ n ∧ n ≤ j) → xD G (xA M s.heap.size) s M H locs → lv_has ls 6 [(0, .ref a), (1, .int (iN (p0))), (2, .int (iN (n))), (3, .int (iN (j)))] → W p l e R s m args below meth c H locs _ _ _ (F0 m 4 ls []) by
    exact hloop4 _ 0 0  _ _ _ (Nat.lt_succ_self _) (by omega) (by omega) hw (lv_sub hl [2, 3, 1, 0] rfl)
  intro n9
  induction n9 with
  | zero => intro n j  H locs ls hmu; exact absurd hmu (Nat.not_lt_zero _)
  | succ n9 ih4 =>
    intro n j  H locs ls hmu hi0 hi1 hw hl
    refine lv_iload_n hC.1 hC.2.1 dX5_unlike_4 rfl (lv_at hl 3 rfl) ?_
    refine x_bipush hC dX5_unlike_5 (by decide +kernel) ?_
    refine x_icmp_ge (tgt := 97) hC ⟨by omega, by omega⟩ ⟨by omega, by omega⟩ dX5_unlike_7 (by decide) (fun c_1 => ?_) (fun c_1 => ?_)
    · refine lv_iload_n hC.1 hC.2.1 dX5_unlike_97 rfl (lv_at hl 2 rfl) ?_
      exact x_iret hC hw dX5_unlike_98 (by omega) (by omega) ⟨n, rfl, rfl, by omega⟩
    · refine x_const hC dX5_unlike_10 ?_
      refine lv_istore (lv' := [(4, .int (iN (0))), (0, .ref a), (1, .int (iN (p0))), (2, .int (iN (n))), (3, .int (iN (j)))]) hC.1 hC.2.1 dX5_unlike_11 hl (by decide) rfl (fun ls hl => ?_)
      refine lv_iload_n hC.1 hC.2.1 dX5_unlike_13 rfl (lv_at hl 4 rfl) ?_
      refine x_const hC dX5_unlike_14 ?_
      refine x_iadd hC dX5_unlike_15 ?_
      refine lv_istore (lv' := [(5, .int (iN (j + 1))), (4, .int (iN (0))), (0, .ref a), (1, .int (iN (p0))), (2, .int (iN (n))), (3, .int (iN (j)))]) hC.1 hC.2.1 dX5_unlike_16 hl (by decide) rfl (fun ls hl => ?_)
      suffices hloop18 : ∀ (n9 : Nat) (mo : Int) (h : Int) (H : Heap) (locs : List Loc) (ls : Array Slot), (hmu : (100 - h).toNat < n9) → (hi2 : 0 ≤ h ∧ h ≤ 100) → (hi3 : -2147483648 ≤ mo ∧ mo ≤ 2147483647) → xD G (xA M s.heap.size) s M H locs → lv_has ls 6 [(0, .ref a), (1, .int (iN (p0))), (2, .int (iN (n))), (3, .int (iN (j))), (4, .int (iN (mo))), (5, .int (iN (h)))] → W p l e R s m args below meth c H locs _ _ _ (F0 m 18 ls []) by
        exact hloop18 _ 0 (j + 1)  _ _ _ (Nat.lt_succ_self _) (by omega) (by omega) hw (lv_sub hl [2, 3, 4, 5, 1, 0] rfl)
      intro n9
      induction n9 with
      | zero => intro mo h  H locs ls hmu; exact absurd hmu (Nat.not_lt_zero _)
      | succ n9 ih18 =>
        intro mo h  H locs ls hmu hi2 hi3 hw hl
        refine lv_iload hC.1 hC.2.1 dX5_unlike_18 (lv_at hl 5 rfl) ?_
        refine x_bipush hC dX5_unlike_20 (by decide +kernel) ?_
        refine x_icmp_ge (tgt := 61) hC ⟨by omega, by omega⟩ ⟨by omega, by omega⟩ dX5_unlike_22 (by decide) (fun c_2 => ?_) (fun c_2 => ?_)
        · refine lv_iload_n hC.1 hC.2.1 dX5_unlike_61 rfl (lv_at hl 2 rfl) ?_
          refine lv_aload_n hC.1 hC.2.1 dX5_unlike_62 rfl (lv_at hl 0 rfl) ?_
          refine x_get hC hw hR.1.1 rfl hinX5 2 (by decide) (by decide +kernel) rfl dX5_unlike_63 ?_
          refine lv_iload_n hC.1 hC.2.1 dX5_unlike_66 rfl (lv_at hl 1 rfl) ?_
          refine x_ald4 hC hw hR.1.2.1 (by omega) (by omega) (by omega) dX5_unlike_67 ?_
          rw [hR.fa' (show (p0).toNat < 3 by omega)]
          show W p l e R s m args below meth c _ _ _ _ _ (F0 m 68 ls [.ref (qv (p0).toNat), .int (iN (n))])
          refine lv_iload_n hC.1 hC.2.1 dX5_unlike_68 rfl (lv_at hl 3 rfl) ?_
          refine x_iald hC hw (hR.rv (show (p0).toNat < 3 by omega)) (by omega) (by omega) (by omega) dX5_unlike_69 ?_
          obtain ⟨z_3, hz_3⟩ : ∃ z : Int, z = ((fvv (p0).toNat) (j).toNat).toInt := ⟨_, rfl⟩
          rw [← hz_3]
          have hrz_3 : -10000 ≤ z_3 ∧ z_3 ≤ 9999 := by rw [hz_3]; exact hR.vr (by omega) (by omega)
          have hpz_3 : z_3 ≠ -10000 → S (j).toNat = true := by rw [hz_3]; exact hR.vs (by omega) (by omega)
          refine x_sipush hC dX5_unlike_70 (by decide +kernel) ?_
          refine x_icmp_eq (tgt := 85) hC ⟨by omega, by omega⟩ ⟨by omega, by omega⟩ dX5_unlike_73 (by decide) (fun c_4 => ?_) (fun c_4 => ?_)
          · refine x_const hC dX5_unlike_85 ?_
            refine x_callS hC hw (lv_size hl) (c_X5_one l G (M := M) (p0 := 0) (by omega)) gX5_unlike_X5_one rfl dv_X5_one_s rfl (Nat.le_of_ble_eq_true rfl) (by rw [hRf]; decide) (by rw [hRl]; decide) (by omega) (by omega) dX5_unlike_86 (fun r9 M_5 H locs hq hw => ?_)
            obtain ⟨z_6, rfl, hM9, hz_6a, hz_6b⟩ := hq
            rw [hM9] at hw
            show W p l e R s m args below meth c H locs _ _ _ (F0 m 89 ls [.int (iN (z_6)), .int (iN (n))])
            refine x_iadd hC dX5_unlike_89 ?_
            refine lv_istore_n (lv' := [(2, .int (iN (n + z_6))), (0, .ref a), (1, .int (iN (p0))), (3, .int (iN (j))), (4, .int (iN (mo))), (5, .int (iN (h)))]) hC.1 hC.2.1 dX5_unlike_90 rfl hl (by decide) rfl (fun ls hl => ?_)
            refine x_iinc (lv' := [(3, .int (iN (j + 1))), (2, .int (iN (n + z_6))), (0, .ref a), (1, .int (iN (p0))), (4, .int (iN (mo))), (5, .int (iN (h)))]) hC dX5_unlike_91 hl (k := 3) rfl (by decide) rfl (fun ls hl => ?_)
            refine lv_goto (tgt := 4) hC.1 hC.2.1 dX5_unlike_94 (by decide) ?_
            exact ih4 (n + z_6) (j + 1)  _ _ _ (by omega) (by omega) (by omega) hw (lv_sub hl [2, 3, 1, 0] rfl)
          · refine lv_iload hC.1 hC.2.1 dX5_unlike_76 (lv_at hl 4 rfl) ?_
            refine x_if_ne (tgt := 85) hC ⟨by omega, by omega⟩ dX5_unlike_78 (by decide) (fun c_7 => ?_) (fun c_7 => ?_)
            · refine x_const hC dX5_unlike_85 ?_
              refine x_callS hC hw (lv_size hl) (c_X5_one l G (M := M) (p0 := 0) (by omega)) gX5_unlike_X5_one rfl dv_X5_one_s rfl (Nat.le_of_ble_eq_true rfl) (by rw [hRf]; decide) (by rw [hRl]; decide) (by omega) (by omega) dX5_unlike_86 (fun r9 M_8 H locs hq hw => ?_)
              obtain ⟨z_9, rfl, hM9, hz_9a, hz_9b⟩ := hq
              rw [hM9] at hw
              show W p l e R s m args below meth c H locs _ _ _ (F0 m 89 ls [.int (iN (z_9)), .int (iN (n))])
              refine x_iadd hC dX5_unlike_89 ?_
              refine lv_istore_n (lv' := [(2, .int (iN (n + z_9))), (0, .ref a), (1, .int (iN (p0))), (3, .int (iN (j))), (4, .int (iN (mo))), (5, .int (iN (h)))]) hC.1 hC.2.1 dX5_unlike_90 rfl hl (by decide) rfl (fun ls hl => ?_)
              refine x_iinc (lv' := [(3, .int (iN (j + 1))), (2, .int (iN (n + z_9))), (0, .ref a), (1, .int (iN (p0))), (4, .int (iN (mo))), (5, .int (iN (h)))]) hC dX5_unlike_91 hl (k := 3) rfl (by decide) rfl (fun ls hl => ?_)
              refine lv_goto (tgt := 4) hC.1 hC.2.1 dX5_unlike_94 (by decide) ?_
              exact ih4 (n + z_9) (j + 1)  _ _ _ (by omega) (by omega) (by omega) hw (lv_sub hl [2, 3, 1, 0] rfl)
            · refine x_const hC dX5_unlike_81 ?_
              refine lv_goto (tgt := 86) hC.1 hC.2.1 dX5_unlike_82 (by decide) ?_
              refine x_callS hC hw (lv_size hl) (c_X5_one l G (M := M) (p0 := 1) (by omega)) gX5_unlike_X5_one rfl dv_X5_one_s rfl (Nat.le_of_ble_eq_true rfl) (by rw [hRf]; decide) (by rw [hRl]; decide) (by omega) (by omega) dX5_unlike_86 (fun r9 M_10 H locs hq hw => ?_)
              obtain ⟨z_11, rfl, hM9, hz_11a, hz_11b⟩ := hq
              rw [hM9] at hw
              show W p l e R s m args below meth c H locs _ _ _ (F0 m 89 ls [.int (iN (z_11)), .int (iN (n))])
              refine x_iadd hC dX5_unlike_89 ?_
              refine lv_istore_n (lv' := [(2, .int (iN (n + z_11))), (0, .ref a), (1, .int (iN (p0))), (3, .int (iN (j))), (4, .int (iN (mo))), (5, .int (iN (h)))]) hC.1 hC.2.1 dX5_unlike_90 rfl hl (by decide) rfl (fun ls hl => ?_)
              refine x_iinc (lv' := [(3, .int (iN (j + 1))), (2, .int (iN (n + z_11))), (0, .ref a), (1, .int (iN (p0))), (4, .int (iN (mo))), (5, .int (iN (h)))]) hC dX5_unlike_91 hl (k := 3) rfl (by decide) rfl (fun ls hl => ?_)
              refine lv_goto (tgt := 4) hC.1 hC.2.1 dX5_unlike_94 (by decide) ?_
              exact ih4 (n + z_11) (j + 1)  _ _ _ (by omega) (by omega) (by omega) hw (lv_sub hl [2, 3, 1, 0] rfl)
        · refine lv_iload hC.1 hC.2.1 dX5_unlike_25 (lv_at hl 4 rfl) ?_
          refine lv_aload_n hC.1 hC.2.1 dX5_unlike_27 rfl (lv_at hl 0 rfl) ?_
          refine x_get hC hw hR.1.1 rfl hinX5 2 (by decide) (by decide +kernel) rfl dX5_unlike_28 ?_
          refine lv_iload_n hC.1 hC.2.1 dX5_unlike_31 rfl (lv_at hl 1 rfl) ?_
          refine x_ald4 hC hw hR.1.2.1 (by omega) (by omega) (by omega) dX5_unlike_32 ?_
          rw [hR.fa' (show (p0).toNat < 3 by omega)]
          show W p l e R s m args below meth c _ _ _ _ _ (F0 m 33 ls [.ref (qv (p0).toNat), .int (iN (mo))])
          refine lv_iload hC.1 hC.2.1 dX5_unlike_33 (lv_at hl 5 rfl) ?_
          refine x_iald hC hw (hR.rv (show (p0).toNat < 3 by omega)) (by omega) (by omega) (by omega) dX5_unlike_35 ?_
          obtain ⟨z_12, hz_12⟩ : ∃ z : Int, z = ((fvv (p0).toNat) (h).toNat).toInt := ⟨_, rfl⟩
          rw [← hz_12]
          have hrz_12 : -10000 ≤ z_12 ∧ z_12 ≤ 9999 := by rw [hz_12]; exact hR.vr (by omega) (by omega)
          have hpz_12 : z_12 ≠ -10000 → S (h).toNat = true := by rw [hz_12]; exact hR.vs (by omega) (by omega)
          refine lv_aload_n hC.1 hC.2.1 dX5_unlike_36 rfl (lv_at hl 0 rfl) ?_
          refine x_get hC hw hR.1.1 rfl hinX5 2 (by decide) (by decide +kernel) rfl dX5_unlike_37 ?_
          refine lv_iload_n hC.1 hC.2.1 dX5_unlike_40 rfl (lv_at hl 1 rfl) ?_
          refine x_ald4 hC hw hR.1.2.1 (by omega) (by omega) (by omega) dX5_unlike_41 ?_
          rw [hR.fa' (show (p0).toNat < 3 by omega)]
          show W p l e R s m args below meth c _ _ _ _ _ (F0 m 42 ls [.ref (qv (p0).toNat), .int (iN (z_12)), .int (iN (mo))])
          refine lv_iload_n hC.1 hC.2.1 dX5_unlike_42 rfl (lv_at hl 3 rfl) ?_
          refine x_iald hC hw (hR.rv (show (p0).toNat < 3 by omega)) (by omega) (by omega) (by omega) dX5_unlike_43 ?_
          obtain ⟨z_13, hz_13⟩ : ∃ z : Int, z = ((fvv (p0).toNat) (j).toNat).toInt := ⟨_, rfl⟩
          rw [← hz_13]
          have hrz_13 : -10000 ≤ z_13 ∧ z_13 ≤ 9999 := by rw [hz_13]; exact hR.vr (by omega) (by omega)
          have hpz_13 : z_13 ≠ -10000 → S (j).toNat = true := by rw [hz_13]; exact hR.vs (by omega) (by omega)
          refine x_icmp_ne (tgt := 51) hC ⟨by omega, by omega⟩ ⟨by omega, by omega⟩ dX5_unlike_44 (by decide) (fun c_14 => ?_) (fun c_14 => ?_)
          · refine x_const hC dX5_unlike_51 ?_
            refine x_ior hC dX5_unlike_52 (fun z_15 hrz_15 => ?_)
            refine lv_istore (lv' := [(4, .int (iN (z_15))), (0, .ref a), (1, .int (iN (p0))), (2, .int (iN (n))), (3, .int (iN (j))), (5, .int (iN (h)))]) hC.1 hC.2.1 dX5_unlike_53 hl (by decide) rfl (fun ls hl => ?_)
            refine x_iinc (lv' := [(5, .int (iN (h + 1))), (4, .int (iN (z_15))), (0, .ref a), (1, .int (iN (p0))), (2, .int (iN (n))), (3, .int (iN (j)))]) hC dX5_unlike_55 hl (k := 5) rfl (by decide) rfl (fun ls hl => ?_)
            refine lv_goto (tgt := 18) hC.1 hC.2.1 dX5_unlike_58 (by decide) ?_
            exact ih18 z_15 (h + 1)  _ _ _ (by omega) (by omega) (by omega) hw (lv_sub hl [2, 3, 4, 5, 1, 0] rfl)
          · refine x_const hC dX5_unlike_47 ?_
            refine lv_goto (tgt := 52) hC.1 hC.2.1 dX5_unlike_48 (by decide) ?_
            refine x_ior hC dX5_unlike_52 (fun z_16 hrz_16 => ?_)
            refine lv_istore (lv' := [(4, .int (iN (z_16))), (0, .ref a), (1, .int (iN (p0))), (2, .int (iN (n))), (3, .int (iN (j))), (5, .int (iN (h)))]) hC.1 hC.2.1 dX5_unlike_53 hl (by decide) rfl (fun ls hl => ?_)
            refine x_iinc (lv' := [(5, .int (iN (h + 1))), (4, .int (iN (z_16))), (0, .ref a), (1, .int (iN (p0))), (2, .int (iN (n))), (3, .int (iN (j)))]) hC dX5_unlike_55 hl (k := 5) rfl (by decide) rfl (fun ls hl => ?_)
            refine lv_goto (tgt := 18) hC.1 hC.2.1 dX5_unlike_58 (by decide) ?_
            exact ih18 z_16 (h + 1)  _ _ _ (by omega) (by omega) (by omega) hw (lv_sub hl [2, 3, 4, 5, 1, 0] rfl)
set_option maxHeartbeats 4000000 in
set_option maxRecDepth 100000 in
theorem c_X5_viewsOf (l : Launch) (G : xG) {M : HM} {a va oa wa ya : Nat} {wk : Option Nat} {th rfd br re la ha kp kv : Int32} {qv qw : Nat → Nat} {fa fb : Nat → Option Nat} {fvv fw : Nat → Nat → Int32} {fo : Nat → Int32} {fy : Nat → Option Nat} {S : Nat → Bool} (hR : MGx G M a va oa wa ya wk th rfd br re la ha kp kv qv qw fa fb fvv fw fo fy S) {p0 : Int} (hp0 : -2147483648 ≤ p0 ∧ p0 ≤ 2147483647) : xMet l G yX5_viewsOf wsX5_viewsOf 1 20 0 0 [.ref a, .int (iN (p0))] M (fun r M1 => ∃ z : Int, r = some (.int (iN z)) ∧ M1 = M ∧ (0 ≤ z ∧ z ≤ 4)) := by
  refine x_intro (cc := cX5_viewsOf) (maxL := 7) (ret := (some .int)) (by decide +kernel) rfl (Nat.le_of_ble_eq_true rfl) ?_
  intro p e R s m args below meth c ls hRf hRc hRs hRl hC hw hl
  have hinX5 : ∀ w ∈ wsX50, w ∈ wsX5_viewsOf := by decide +kernel
  have hl : lv_has ls 7 [(0, .ref a), (1, .int (iN (p0)))] := hl
  refine x_const hC dX5_viewsOf_0 ?_
  refine lv_istore_n (lv' := [(2, .int (iN (0))), (0, .ref a), (1, .int (iN (p0)))]) hC.1 hC.2.1 dX5_viewsOf_1 rfl hl (by decide) rfl (fun ls hl => ?_)
  refine lv_aload_n hC.1 hC.2.1 dX5_viewsOf_2 rfl (lv_at hl 1 rfl) ?_
  refine x_get hC hw hR.1.1 rfl hinX5 5 (by decide) (by decide +kernel) rfl dX5_viewsOf_3 ?_
  refine lv_astore_n (lv' := [(3, .ref ya), (2, .int (iN (0))), (0, .ref a), (1, .int (iN (p0)))]) hC.1 hC.2.1 dX5_viewsOf_6 rfl hl (by decide) rfl (fun ls hl => ?_)
  refine lv_aload_n hC.1 hC.2.1 dX5_viewsOf_7 rfl (lv_at hl 0 rfl) ?_
  refine x_alen hC hw 4 hR.1.2.2.2.2.1 rfl dX5_viewsOf_8 ?_
  refine lv_istore (lv' := [(4, .int (iN (4))), (3, .ref ya), (2, .int (iN (0))), (0, .ref a), (1, .int (iN (p0)))]) hC.1 hC.2.1 dX5_viewsOf_9 hl (by decide) rfl (fun ls hl => ?_)
  refine x_const hC dX5_viewsOf_11 ?_
  refine lv_istore (lv' := [(5, .int (iN (0))), (4, .int (iN (4))), (3, .ref ya), (2, .int (iN (0))), (0, .ref a), (1, .int (iN (p0)))]) hC.1 hC.2.1 dX5_viewsOf_12 hl (by decide) rfl (fun ls hl => ?_)
  suffices hloop14 : ∀ (n9 : Nat) (n : Int) (j : Int) (H : Heap) (locs : List Loc) (ls : Array Slot), (hmu : (4 - j).toNat < n9) → (hi0 : 0 ≤ j ∧ j ≤ 4) → (hi1 : 0 ≤ n ∧ n ≤ j) → xD G (xA M s.heap.size) s M H locs → lv_has ls 7 [(0, .ref a), (1, .int (iN (p0))), (2, .int (iN (n))), (3, .ref ya), (4, .int (iN (4))), (5, .int (iN (j)))] → W p l e R s m args below meth c H locs _ _ _ (F0 m 14 ls []) by
    exact hloop14 _ 0 0  _ _ _ (Nat.lt_succ_self _) (by omega) (by omega) hw (lv_sub hl [4, 5, 3, 2, 1, 0] rfl)
  intro n9
  induction n9 with
  | zero => intro n j  H locs ls hmu; exact absurd hmu (Nat.not_lt_zero _)
  | succ n9 ih14 =>
    intro n j  H locs ls hmu hi0 hi1 hw hl
    refine lv_iload hC.1 hC.2.1 dX5_viewsOf_14 (lv_at hl 5 rfl) ?_
    refine lv_iload hC.1 hC.2.1 dX5_viewsOf_16 (lv_at hl 4 rfl) ?_
    refine x_icmp_ge (tgt := 57) hC ⟨by omega, by omega⟩ ⟨by omega, by omega⟩ dX5_viewsOf_18 (by decide) (fun c_1 => ?_) (fun c_1 => ?_)
    · refine lv_iload_n hC.1 hC.2.1 dX5_viewsOf_57 rfl (lv_at hl 2 rfl) ?_
      exact x_iret hC hw dX5_viewsOf_58 (by omega) (by omega) ⟨n, rfl, rfl, by omega⟩
    · refine lv_aload_n hC.1 hC.2.1 dX5_viewsOf_21 rfl (lv_at hl 3 rfl) ?_
      refine lv_iload hC.1 hC.2.1 dX5_viewsOf_22 (lv_at hl 5 rfl) ?_
      refine x_ald4 hC hw hR.1.2.2.2.2.1 (by omega) (by omega) (by omega) dX5_viewsOf_24 ?_
      rcases hy_3 : fy (j).toNat with _ | y_2
      · show W p l e R s m args below meth c _ _ _ _ _ (F0 m 25 ls [.null])
        refine lv_astoreN (lv' := [(6, .null), (0, .ref a), (1, .int (iN (p0))), (2, .int (iN (n))), (3, .ref ya), (4, .int (iN (4))), (5, .int (iN (j)))]) hC.1 hC.2.1 dX5_viewsOf_25 hl (by decide) rfl (fun ls hl => ?_)
        refine lv_iload_n hC.1 hC.2.1 dX5_viewsOf_27 rfl (lv_at hl 3 rfl) ?_
        refine lv_aloadN hC.1 hC.2.1 dX5_viewsOf_28 (lv_at hl 0 rfl) ?_
        refine lv_ifnullN (tgt := 45) hC.1 hC.2.1 dX5_viewsOf_30 (by decide) ?_
        refine x_const hC dX5_viewsOf_45 ?_
        refine x_callS hC hw (lv_size hl) (c_X5_one l G (M := M) (p0 := 0) (by omega)) gX5_viewsOf_X5_one rfl dv_X5_one_s rfl (Nat.le_of_ble_eq_true rfl) (by rw [hRf]; decide) (by rw [hRl]; decide) (by omega) (by omega) dX5_viewsOf_46 (fun r9 M_4 H locs hq hw => ?_)
        obtain ⟨z_5, rfl, hM9, hz_5a, hz_5b⟩ := hq
        rw [hM9] at hw
        show W p l e R s m args below meth c H locs _ _ _ (F0 m 49 ls [.int (iN (z_5)), .int (iN (n))])
        refine x_iadd hC dX5_viewsOf_49 ?_
        refine lv_istore_n (lv' := [(2, .int (iN (n + z_5))), (6, .null), (0, .ref a), (1, .int (iN (p0))), (3, .ref ya), (4, .int (iN (4))), (5, .int (iN (j)))]) hC.1 hC.2.1 dX5_viewsOf_50 rfl hl (by decide) rfl (fun ls hl => ?_)
        refine x_iinc (lv' := [(5, .int (iN (j + 1))), (2, .int (iN (n + z_5))), (6, .null), (0, .ref a), (1, .int (iN (p0))), (3, .ref ya), (4, .int (iN (4)))]) hC dX5_viewsOf_51 hl (k := 6) rfl (by decide) rfl (fun ls hl => ?_)
        refine lv_goto (tgt := 14) hC.1 hC.2.1 dX5_viewsOf_54 (by decide) ?_
        exact ih14 (n + z_5) (j + 1)  _ _ _ (by omega) (by omega) (by omega) hw (lv_sub hl [3, 4, 1, 5, 6, 0] rfl)
      · obtain ⟨fi_6, hIi_6⟩ := (hR.vw (show (j).toNat < 4 by omega) hy_3)
        obtain ⟨hvt_7, hat_7, hbt_7, hct_7, hdt_7, het_7⟩ := id hIi_6
        show W p l e R s m args below meth c _ _ _ _ _ (F0 m 25 ls [.ref y_2])
        refine lv_astore (lv' := [(6, .ref y_2), (0, .ref a), (1, .int (iN (p0))), (2, .int (iN (n))), (3, .ref ya), (4, .int (iN (4))), (5, .int (iN (j)))]) hC.1 hC.2.1 dX5_viewsOf_25 hl (by decide) rfl (fun ls hl => ?_)
        refine lv_iload_n hC.1 hC.2.1 dX5_viewsOf_27 rfl (lv_at hl 3 rfl) ?_
        refine lv_aload hC.1 hC.2.1 dX5_viewsOf_28 (lv_at hl 0 rfl) ?_
        refine lv_ifnull hC.1 hC.2.1 dX5_viewsOf_30 ?_
        refine lv_aload hC.1 hC.2.1 dX5_viewsOf_33 (lv_at hl 0 rfl) ?_
        refine x_const hC dX5_viewsOf_35 ?_
        refine x_iald hC hw hIi_6.1 (by omega) (by omega) (by omega) dX5_viewsOf_36 ?_
        obtain ⟨z_8, hz_8⟩ : ∃ z : Int, z = (fi_6 (0 : Int).toNat).toInt := ⟨_, rfl⟩
        rw [← hz_8]
        have hz_8' : z_8 = (fi_6 0).toInt := hz_8
        have hrz_8 : -2147483648 ≤ z_8 ∧ z_8 ≤ 2147483647 := by rw [hz_8]; exact iN_rng _
        refine lv_iload_n hC.1 hC.2.1 dX5_viewsOf_37 rfl (lv_at hl 2 rfl) ?_
        refine x_icmp_ne (tgt := 45) hC ⟨by omega, by omega⟩ ⟨by omega, by omega⟩ dX5_viewsOf_38 (by decide) (fun c_9 => ?_) (fun c_9 => ?_)
        · refine x_const hC dX5_viewsOf_45 ?_
          refine x_callS hC hw (lv_size hl) (c_X5_one l G (M := M) (p0 := 0) (by omega)) gX5_viewsOf_X5_one rfl dv_X5_one_s rfl (Nat.le_of_ble_eq_true rfl) (by rw [hRf]; decide) (by rw [hRl]; decide) (by omega) (by omega) dX5_viewsOf_46 (fun r9 M_10 H locs hq hw => ?_)
          obtain ⟨z_11, rfl, hM9, hz_11a, hz_11b⟩ := hq
          rw [hM9] at hw
          show W p l e R s m args below meth c H locs _ _ _ (F0 m 49 ls [.int (iN (z_11)), .int (iN (n))])
          refine x_iadd hC dX5_viewsOf_49 ?_
          refine lv_istore_n (lv' := [(2, .int (iN (n + z_11))), (6, .ref y_2), (0, .ref a), (1, .int (iN (p0))), (3, .ref ya), (4, .int (iN (4))), (5, .int (iN (j)))]) hC.1 hC.2.1 dX5_viewsOf_50 rfl hl (by decide) rfl (fun ls hl => ?_)
          refine x_iinc (lv' := [(5, .int (iN (j + 1))), (2, .int (iN (n + z_11))), (6, .ref y_2), (0, .ref a), (1, .int (iN (p0))), (3, .ref ya), (4, .int (iN (4)))]) hC dX5_viewsOf_51 hl (k := 6) rfl (by decide) rfl (fun ls hl => ?_)
          refine lv_goto (tgt := 14) hC.1 hC.2.1 dX5_viewsOf_54 (by decide) ?_
          exact ih14 (n + z_11) (j + 1)  _ _ _ (by omega) (by omega) (by omega) hw (lv_sub hl [3, 4, 1, 5, 6, 0] rfl)
        · refine x_const hC dX5_viewsOf_41 ?_
          refine lv_goto (tgt := 46) hC.1 hC.2.1 dX5_viewsOf_42 (by decide) ?_
          refine x_callS hC hw (lv_size hl) (c_X5_one l G (M := M) (p0 := 1) (by omega)) gX5_viewsOf_X5_one rfl dv_X5_one_s rfl (Nat.le_of_ble_eq_true rfl) (by rw [hRf]; decide) (by rw [hRl]; decide) (by omega) (by omega) dX5_viewsOf_46 (fun r9 M_12 H locs hq hw => ?_)
          obtain ⟨z_13, rfl, hM9, hz_13a, hz_13b⟩ := hq
          rw [hM9] at hw
          show W p l e R s m args below meth c H locs _ _ _ (F0 m 49 ls [.int (iN (z_13)), .int (iN (n))])
          refine x_iadd hC dX5_viewsOf_49 ?_
          refine lv_istore_n (lv' := [(2, .int (iN (n + z_13))), (6, .ref y_2), (0, .ref a), (1, .int (iN (p0))), (3, .ref ya), (4, .int (iN (4))), (5, .int (iN (j)))]) hC.1 hC.2.1 dX5_viewsOf_50 rfl hl (by decide) rfl (fun ls hl => ?_)
          refine x_iinc (lv' := [(5, .int (iN (j + 1))), (2, .int (iN (n + z_13))), (6, .ref y_2), (0, .ref a), (1, .int (iN (p0))), (3, .ref ya), (4, .int (iN (4)))]) hC dX5_viewsOf_51 hl (k := 6) rfl (by decide) rfl (fun ls hl => ?_)
          refine lv_goto (tgt := 14) hC.1 hC.2.1 dX5_viewsOf_54 (by decide) ?_
          exact ih14 (n + z_13) (j + 1)  _ _ _ (by omega) (by omega) (by omega) hw (lv_sub hl [3, 4, 1, 5, 6, 0] rfl)
set_option maxHeartbeats 4000000 in
set_option maxRecDepth 100000 in
theorem c_X5_bookTold (l : Launch) (G : xG) {M : HM} {a va oa wa ya : Nat} {wk : Option Nat} {th rfd br re la ha kp kv : Int32} {qv qw : Nat → Nat} {fa fb : Nat → Option Nat} {fvv fw : Nat → Nat → Int32} {fo : Nat → Int32} {fy : Nat → Option Nat} {S : Nat → Bool} (hR : MGx G M a va oa wa ya wk th rfd br re la ha kp kv qv qw fa fb fvv fw fo fy S) {p0 : Int} (hp0 : -2147483648 ≤ p0 ∧ p0 ≤ 2147483647) {p1 : Int} (hp1 : -2147483648 ≤ p1 ∧ p1 ≤ 2147483647) (hob : 0 ≤ p0 ∧ p0 ≤ 2) : xMet l G yX5_bookTold wsX5_bookTold 5 115 1 5 [.ref a, .int (iN (p0)), .int (iN (p1))] M (fun r M1 => ∃ z : Int, r = some (.int (iN z)) ∧ xExt M M1 ∧ (-2147483648 ≤ z ∧ z ≤ 2147483647)) := by
  refine x_intro (cc := cX5_bookTold) (maxL := 4) (ret := (some .int)) (by decide +kernel) rfl (Nat.le_of_ble_eq_true rfl) ?_
  intro p e R s m args below meth c ls hRf hRc hRs hRl hC hw hl
  have hinX5 : ∀ w ∈ wsX50, w ∈ wsX5_bookTold := by decide +kernel
  have hl : lv_has ls 4 [(0, .ref a), (1, .int (iN (p0))), (2, .int (iN (p1)))] := hl
  refine lv_iload_n hC.1 hC.2.1 dX5_bookTold_0 rfl (lv_at hl 1 rfl) ?_
  refine x_callS hC hw (lv_size hl) (c_X5_whole l G (M := M) (p0 := p0) (by omega) (by omega)) gX5_bookTold_X5_whole rfl dv_X5_whole_s rfl (Nat.le_of_ble_eq_true rfl) (by rw [hRf]; decide) (by rw [hRl]; decide) (by omega) (by omega) dX5_bookTold_1 (fun r9 M_1 H locs hq hw => ?_)
  obtain ⟨qk_2, fk_2, rfl, hxk_2, hIk_2, hfk_2⟩ := hq
  have h_3 := hR.ext hxk_2
  obtain ⟨hvt_4, hat_4, hbt_4, hct_4, hdt_4, het_4⟩ := id hIk_2
  show W p l e R s m args below meth c H locs _ _ _ (F0 m 4 ls [.ref qk_2])
  refine lv_astore_n (lv' := [(3, .ref qk_2), (0, .ref a), (1, .int (iN (p0))), (2, .int (iN (p1)))]) hC.1 hC.2.1 dX5_bookTold_4 rfl hl (by decide) rfl (fun ls hl => ?_)
  refine lv_iload_n hC.1 hC.2.1 dX5_bookTold_5 rfl (lv_at hl 3 rfl) ?_
  by_cases c_5 : p1 = 0
  · refine x_tsw (off := 46) (tgt := 52) (k := 0) hC (by omega) dX5_bookTold_6 (by decide) (by decide) rfl (by decide) ?_
    refine lv_aload_n hC.1 hC.2.1 dX5_bookTold_52 rfl (lv_at hl 1 rfl) ?_
    refine lv_aload_n hC.1 hC.2.1 dX5_bookTold_53 rfl (lv_at hl 0 rfl) ?_
    refine x_callV hC hw (lv_size hl) (c_X5_many l G h_3 hIk_2) gX5_bookTold_X5_many rfl dv_X5_many h_3.1.1 rfl rfl (Nat.le_of_ble_eq_true rfl) (by rw [hRf]; decide) (by rw [hRl]; decide) (by omega) (by omega) dX5_bookTold_54 (fun r9 M_6 H locs hq hw => ?_)
    obtain ⟨z_7, rfl, hM9, hz_7a⟩ := hq
    rw [hM9] at hw
    show W p l e R s m args below meth c H locs _ _ _ (F0 m 57 ls [.int (iN (z_7))])
    exact x_iret hC hw dX5_bookTold_57 (by omega) (by omega) ⟨z_7, rfl, hxk_2, by omega⟩
  by_cases c_8 : p1 = 1
  · refine x_tsw (off := 52) (tgt := 58) (k := 1) hC (by omega) dX5_bookTold_6 (by decide) (by decide) rfl (by decide) ?_
    refine lv_aload_n hC.1 hC.2.1 dX5_bookTold_58 rfl (lv_at hl 1 rfl) ?_
    refine x_get hC hw h_3.1.1 rfl hinX5 3 (by decide) (by decide +kernel) rfl dX5_bookTold_59 ?_
    refine lv_iload_n hC.1 hC.2.1 dX5_bookTold_62 rfl (lv_at hl 2 rfl) ?_
    refine x_iald hC hw h_3.1.2.2.1 (by omega) (by omega) (by omega) dX5_bookTold_63 ?_
    obtain ⟨z_9, hz_9⟩ : ∃ z : Int, z = (fo (p0).toNat).toInt := ⟨_, rfl⟩
    rw [← hz_9]
    have hrz_9 : 0 ≤ z_9 ∧ z_9 ≤ 2 := by rw [hz_9]; exact h_3.or' (by omega)
    exact x_iret hC hw dX5_bookTold_64 (by omega) (by omega) ⟨z_9, rfl, hxk_2, by omega⟩
  by_cases c_10 : p1 = 2
  · refine x_tsw (off := 59) (tgt := 65) (k := 2) hC (by omega) dX5_bookTold_6 (by decide) (by decide) rfl (by decide) ?_
    refine lv_aload_n hC.1 hC.2.1 dX5_bookTold_65 rfl (lv_at hl 1 rfl) ?_
    refine lv_aload_n hC.1 hC.2.1 dX5_bookTold_66 rfl (lv_at hl 0 rfl) ?_
    refine x_const hC dX5_bookTold_67 ?_
    refine x_callV hC hw (lv_size hl) (c_X5_end l G h_3 hIk_2 (p0 := 0) (by omega)) gX5_bookTold_X5_end rfl dv_X5_end h_3.1.1 rfl rfl (Nat.le_of_ble_eq_true rfl) (by rw [hRf]; decide) (by rw [hRl]; decide) (by omega) (by omega) dX5_bookTold_68 (fun r9 M_11 H locs hq hw => ?_)
    obtain ⟨z_12, rfl, hM9, hz_12a, hz_12S⟩ := hq
    rw [hM9] at hw
    show W p l e R s m args below meth c H locs _ _ _ (F0 m 71 ls [.int (iN (z_12))])
    exact x_iret hC hw dX5_bookTold_71 (by omega) (by omega) ⟨z_12, rfl, hxk_2, by omega⟩
  by_cases c_13 : p1 = 3
  · refine x_tsw (off := 66) (tgt := 72) (k := 3) hC (by omega) dX5_bookTold_6 (by decide) (by decide) rfl (by decide) ?_
    refine lv_aload_n hC.1 hC.2.1 dX5_bookTold_72 rfl (lv_at hl 1 rfl) ?_
    refine lv_iload_n hC.1 hC.2.1 dX5_bookTold_73 rfl (lv_at hl 2 rfl) ?_
    refine lv_aload_n hC.1 hC.2.1 dX5_bookTold_74 rfl (lv_at hl 1 rfl) ?_
    refine lv_aload_n hC.1 hC.2.1 dX5_bookTold_75 rfl (lv_at hl 0 rfl) ?_
    refine x_const hC dX5_bookTold_76 ?_
    refine x_callV hC hw (lv_size hl) (c_X5_end l G h_3 hIk_2 (p0 := 0) (by omega)) gX5_bookTold_X5_end rfl dv_X5_end h_3.1.1 rfl rfl (Nat.le_of_ble_eq_true rfl) (by rw [hRf]; decide) (by rw [hRl]; decide) (by omega) (by omega) dX5_bookTold_77 (fun r9 M_14 H locs hq hw => ?_)
    obtain ⟨z_15, rfl, hM9, hz_15a, hz_15S⟩ := hq
    rw [hM9] at hw
    show W p l e R s m args below meth c H locs _ _ _ (F0 m 80 ls [.int (iN (z_15)), .int (iN (p0)), .ref a])
    refine x_callV hC hw (lv_size hl) (c_X5_valueOf l G h_3 (p0 := p0) (by omega) (p1 := z_15) (by omega) (by omega) (by omega)) gX5_bookTold_X5_valueOf rfl dv_X5_valueOf h_3.1.1 rfl rfl (Nat.le_of_ble_eq_true rfl) (by rw [hRf]; decide) (by rw [hRl]; decide) (by omega) (by omega) dX5_bookTold_80 (fun r9 M_16 H locs hq hw => ?_)
    obtain ⟨z_17, rfl, hM9, hz_17a⟩ := hq
    rw [hM9] at hw
    show W p l e R s m args below meth c H locs _ _ _ (F0 m 83 ls [.int (iN (z_17))])
    exact x_iret hC hw dX5_bookTold_83 (by omega) (by omega) ⟨z_17, rfl, hxk_2, by omega⟩
  by_cases c_18 : p1 = 4
  · refine x_tsw (off := 78) (tgt := 84) (k := 4) hC (by omega) dX5_bookTold_6 (by decide) (by decide) rfl (by decide) ?_
    refine lv_aload_n hC.1 hC.2.1 dX5_bookTold_84 rfl (lv_at hl 1 rfl) ?_
    refine lv_aload_n hC.1 hC.2.1 dX5_bookTold_85 rfl (lv_at hl 0 rfl) ?_
    refine x_const hC dX5_bookTold_86 ?_
    refine x_callV hC hw (lv_size hl) (c_X5_end l G h_3 hIk_2 (p0 := 1) (by omega)) gX5_bookTold_X5_end rfl dv_X5_end h_3.1.1 rfl rfl (Nat.le_of_ble_eq_true rfl) (by rw [hRf]; decide) (by rw [hRl]; decide) (by omega) (by omega) dX5_bookTold_87 (fun r9 M_19 H locs hq hw => ?_)
    obtain ⟨z_20, rfl, hM9, hz_20a, hz_20S⟩ := hq
    rw [hM9] at hw
    show W p l e R s m args below meth c H locs _ _ _ (F0 m 90 ls [.int (iN (z_20))])
    exact x_iret hC hw dX5_bookTold_90 (by omega) (by omega) ⟨z_20, rfl, hxk_2, by omega⟩
  by_cases c_21 : p1 = 5
  · refine x_tsw (off := 85) (tgt := 91) (k := 5) hC (by omega) dX5_bookTold_6 (by decide) (by decide) rfl (by decide) ?_
    refine lv_aload_n hC.1 hC.2.1 dX5_bookTold_91 rfl (lv_at hl 1 rfl) ?_
    refine lv_iload_n hC.1 hC.2.1 dX5_bookTold_92 rfl (lv_at hl 2 rfl) ?_
    refine lv_aload_n hC.1 hC.2.1 dX5_bookTold_93 rfl (lv_at hl 1 rfl) ?_
    refine lv_aload_n hC.1 hC.2.1 dX5_bookTold_94 rfl (lv_at hl 0 rfl) ?_
    refine x_const hC dX5_bookTold_95 ?_
    refine x_callV hC hw (lv_size hl) (c_X5_end l G h_3 hIk_2 (p0 := 1) (by omega)) gX5_bookTold_X5_end rfl dv_X5_end h_3.1.1 rfl rfl (Nat.le_of_ble_eq_true rfl) (by rw [hRf]; decide) (by rw [hRl]; decide) (by omega) (by omega) dX5_bookTold_96 (fun r9 M_22 H locs hq hw => ?_)
    obtain ⟨z_23, rfl, hM9, hz_23a, hz_23S⟩ := hq
    rw [hM9] at hw
    show W p l e R s m args below meth c H locs _ _ _ (F0 m 99 ls [.int (iN (z_23)), .int (iN (p0)), .ref a])
    refine x_callV hC hw (lv_size hl) (c_X5_valueOf l G h_3 (p0 := p0) (by omega) (p1 := z_23) (by omega) (by omega) (by omega)) gX5_bookTold_X5_valueOf rfl dv_X5_valueOf h_3.1.1 rfl rfl (Nat.le_of_ble_eq_true rfl) (by rw [hRf]; decide) (by rw [hRl]; decide) (by omega) (by omega) dX5_bookTold_99 (fun r9 M_24 H locs hq hw => ?_)
    obtain ⟨z_25, rfl, hM9, hz_25a⟩ := hq
    rw [hM9] at hw
    show W p l e R s m args below meth c H locs _ _ _ (F0 m 102 ls [.int (iN (z_25))])
    exact x_iret hC hw dX5_bookTold_102 (by omega) (by omega) ⟨z_25, rfl, hxk_2, by omega⟩
  by_cases c_26 : p1 = 6
  · refine x_tsw (off := 97) (tgt := 103) (k := 6) hC (by omega) dX5_bookTold_6 (by decide) (by decide) rfl (by decide) ?_
    refine lv_aload_n hC.1 hC.2.1 dX5_bookTold_103 rfl (lv_at hl 1 rfl) ?_
    refine lv_aload_n hC.1 hC.2.1 dX5_bookTold_104 rfl (lv_at hl 0 rfl) ?_
    refine x_callV hC hw (lv_size hl) (c_X5_sum l G h_3 hIk_2) gX5_bookTold_X5_sum rfl dv_X5_sum h_3.1.1 rfl rfl (Nat.le_of_ble_eq_true rfl) (by rw [hRf]; decide) (by rw [hRl]; decide) (by omega) (by omega) dX5_bookTold_105 (fun r9 M_27 H locs hq hw => ?_)
    obtain ⟨z_28, rfl, hM9, hz_28a⟩ := hq
    rw [hM9] at hw
    show W p l e R s m args below meth c H locs _ _ _ (F0 m 108 ls [.int (iN (z_28))])
    exact x_iret hC hw dX5_bookTold_108 (by omega) (by omega) ⟨z_28, rfl, hxk_2, by omega⟩
  by_cases c_29 : p1 = 7
  · refine x_tsw (off := 103) (tgt := 109) (k := 7) hC (by omega) dX5_bookTold_6 (by decide) (by decide) rfl (by decide) ?_
    refine lv_aload_n hC.1 hC.2.1 dX5_bookTold_109 rfl (lv_at hl 1 rfl) ?_
    refine lv_iload_n hC.1 hC.2.1 dX5_bookTold_110 rfl (lv_at hl 2 rfl) ?_
    refine x_callV hC hw (lv_size hl) (c_X5_unlike l G h_3 (p0 := p0) (by omega) (by omega)) gX5_bookTold_X5_unlike rfl dv_X5_unlike h_3.1.1 rfl rfl (Nat.le_of_ble_eq_true rfl) (by rw [hRf]; decide) (by rw [hRl]; decide) (by omega) (by omega) dX5_bookTold_111 (fun r9 M_30 H locs hq hw => ?_)
    obtain ⟨z_31, rfl, hM9, hz_31a⟩ := hq
    rw [hM9] at hw
    show W p l e R s m args below meth c H locs _ _ _ (F0 m 114 ls [.int (iN (z_31))])
    exact x_iret hC hw dX5_bookTold_114 (by omega) (by omega) ⟨z_31, rfl, hxk_2, by omega⟩
  refine x_tswd (tgt := 115) hC ⟨by omega, by omega⟩ dX5_bookTold_6 (by omega) (by decide) ?_
  refine lv_aload_n hC.1 hC.2.1 dX5_bookTold_115 rfl (lv_at hl 1 rfl) ?_
  refine lv_iload_n hC.1 hC.2.1 dX5_bookTold_116 rfl (lv_at hl 2 rfl) ?_
  refine x_callV hC hw (lv_size hl) (c_X5_viewsOf l G h_3 (p0 := p0) (by omega)) gX5_bookTold_X5_viewsOf rfl dv_X5_viewsOf h_3.1.1 rfl rfl (Nat.le_of_ble_eq_true rfl) (by rw [hRf]; decide) (by rw [hRl]; decide) (by omega) (by omega) dX5_bookTold_117 (fun r9 M_32 H locs hq hw => ?_)
  obtain ⟨z_33, rfl, hM9, hz_33a⟩ := hq
  rw [hM9] at hw
  show W p l e R s m args below meth c H locs _ _ _ (F0 m 120 ls [.int (iN (z_33))])
  exact x_iret hC hw dX5_bookTold_120 (by omega) (by omega) ⟨z_33, rfl, hxk_2, by omega⟩
set_option maxHeartbeats 4000000 in
set_option maxRecDepth 100000 in
theorem c_X5_ofBook (l : Launch) (G : xG) {M : HM} {a va oa wa ya : Nat} {wk : Option Nat} {th rfd br re la ha kp kv : Int32} {qv qw : Nat → Nat} {fa fb : Nat → Option Nat} {fvv fw : Nat → Nat → Int32} {fo : Nat → Int32} {fy : Nat → Option Nat} {S : Nat → Bool} (hR : MGx G M a va oa wa ya wk th rfd br re la ha kp kv qv qw fa fb fvv fw fo fy S) {p0 : Int} (hp0 : -2147483648 ≤ p0 ∧ p0 ≤ 2147483647) {p1 : Int} (hp1 : -2147483648 ≤ p1 ∧ p1 ≤ 2147483647) : xMet l G yX5_ofBook wsX5_ofBook 6 138 1 5 [.ref a, .int (iN (p0)), .int (iN (p1))] M (fun r M1 => ∃ z : Int, r = some (.int (iN z)) ∧ (-2147483648 ≤ z ∧ z ≤ 2147483647) ∧ MGm G M1 a rfd S) := by
  refine x_intro (cc := cX5_ofBook) (maxL := 3) (ret := (some .int)) (by decide +kernel) rfl (Nat.le_of_ble_eq_true rfl) ?_
  intro p e R s m args below meth c ls hRf hRc hRs hRl hC hw hl
  have hl : lv_has ls 3 [(0, .ref a), (1, .int (iN (p0))), (2, .int (iN (p1)))] := hl
  refine lv_aload_n hC.1 hC.2.1 dX5_ofBook_0 rfl (lv_at hl 0 rfl) ?_
  refine lv_iload_n hC.1 hC.2.1 dX5_ofBook_1 rfl (lv_at hl 1 rfl) ?_
  refine x_callS hC hw (lv_size hl) (c_X5_isNoBook l G (M := M) (p0 := p0) (by omega)) gX5_ofBook_X5_isNoBook rfl dv_X5_isNoBook_s rfl (Nat.le_of_ble_eq_true rfl) (by rw [hRf]; decide) (by rw [hRl]; decide) (by omega) (by omega) dX5_ofBook_2 (fun r9 M_1 H locs hq hw => ?_)
  obtain ⟨z_2, rfl, hM9, hz_2a, hz_2b⟩ := hq
  rw [hM9] at hw
  show W p l e R s m args below meth c H locs _ _ _ (F0 m 5 ls [.int (iN (z_2)), .ref a])
  refine x_const hC dX5_ofBook_5 ?_
  refine x_callV hC hw (lv_size hl) (c_X5_start l G hR (p0 := z_2) (by omega) (p1 := 1) (by omega) (by omega)) gX5_ofBook_X5_start rfl dv_X5_start hR.1.1 rfl rfl (Nat.le_of_ble_eq_true rfl) (by rw [hRf]; decide) (by rw [hRl]; decide) (by omega) (by omega) dX5_ofBook_6 (fun r9 M_3 H locs hq hw => ?_)
  obtain ⟨z_4, rfl, hz_4a, hz_4b, thk_5, hRk_5⟩ := hq
  show W p l e R s m args below meth c H locs _ _ _ (F0 m 9 ls [.int (iN (z_4))])
  refine x_if_ne (tgt := 35) hC ⟨by omega, by omega⟩ dX5_ofBook_9 (by decide) (fun c_6 => ?_) (fun c_6 => ?_)
  · refine x_const hC dX5_ofBook_35 ?_
    refine lv_goto (tgt := 45) hC.1 hC.2.1 dX5_ofBook_36 (by decide) ?_
    exact x_iret hC hw dX5_ofBook_45 (by omega) (by omega) ⟨0, rfl, by omega, ⟨_, _, _, _, _, _, _, _, _, _, _, _, _, _, _, _, _, _, _, _, hRk_5⟩⟩
  · refine lv_aload_n hC.1 hC.2.1 dX5_ofBook_12 rfl (lv_at hl 0 rfl) ?_
    refine lv_iload_n hC.1 hC.2.1 dX5_ofBook_13 rfl (lv_at hl 2 rfl) ?_
    refine x_const hC dX5_ofBook_14 ?_
    refine x_bipush hC dX5_ofBook_15 (by decide +kernel) ?_
    refine x_callS hC hw (lv_size hl) (c_X5_isIn l G (M := M_3) (p0 := p1) (by omega) (p1 := 0) (by omega) (p2 := 8) (by omega)) gX5_ofBook_X5_isIn rfl dv_X5_isIn_s rfl (Nat.le_of_ble_eq_true rfl) (by rw [hRf]; decide) (by rw [hRl]; decide) (by omega) (by omega) dX5_ofBook_17 (fun r9 M_7 H locs hq hw => ?_)
    obtain ⟨z_8, rfl, hM9, hz_8a, hz_8b, hz_8c⟩ := hq
    rw [hM9] at hw
    show W p l e R s m args below meth c H locs _ _ _ (F0 m 20 ls [.int (iN (z_8)), .ref a])
    refine x_if_ne (tgt := 27) hC ⟨by omega, by omega⟩ dX5_ofBook_20 (by decide) (fun c_9 => ?_) (fun c_9 => ?_)
    · refine x_const hC dX5_ofBook_27 ?_
      refine x_const hC dX5_ofBook_28 ?_
      refine x_callV hC hw (lv_size hl) (c_X5_refuse l G hRk_5 (p0 := 0) (by omega) (p1 := 2) (by omega) (by omega)) gX5_ofBook_X5_refuse rfl dv_X5_refuse hRk_5.1.1 rfl rfl (Nat.le_of_ble_eq_true rfl) (by rw [hRf]; decide) (by rw [hRl]; decide) (by omega) (by omega) dX5_ofBook_29 (fun r9 M_10 H locs hq hw => ?_)
      obtain ⟨z_11, rfl, hz_11a, hz_11b, thk_12, hRk_12⟩ := hq
      show W p l e R s m args below meth c H locs _ _ _ (F0 m 32 ls [.int (iN (z_11))])
      refine x_if_eq (tgt := 39) hC ⟨by omega, by omega⟩ dX5_ofBook_32 (by decide) (fun c_13 => ?_) (fun c_13 => ?_)
      · refine lv_aload_n hC.1 hC.2.1 dX5_ofBook_39 rfl (lv_at hl 0 rfl) ?_
        refine lv_iload_n hC.1 hC.2.1 dX5_ofBook_40 rfl (lv_at hl 1 rfl) ?_
        refine lv_iload_n hC.1 hC.2.1 dX5_ofBook_41 rfl (lv_at hl 2 rfl) ?_
        refine x_callV hC hw (lv_size hl) (c_X5_bookTold l G hRk_12 (p0 := p0) (by omega) (p1 := p1) (by omega) (by omega)) gX5_ofBook_X5_bookTold rfl dv_X5_bookTold hRk_12.1.1 rfl rfl (Nat.le_of_ble_eq_true rfl) (by rw [hRf]; decide) (by rw [hRl]; decide) (by omega) (by omega) dX5_ofBook_42 (fun r9 M_14 H locs hq hw => ?_)
        obtain ⟨z_15, rfl, hxz_15, hz_15a⟩ := hq
        have h_16 := hRk_12.ext hxz_15
        show W p l e R s m args below meth c H locs _ _ _ (F0 m 45 ls [.int (iN (z_15))])
        exact x_iret hC hw dX5_ofBook_45 (by omega) (by omega) ⟨z_15, rfl, by omega, ⟨_, _, _, _, _, _, _, _, _, _, _, _, _, _, _, _, _, _, _, _, h_16⟩⟩
      · refine x_const hC dX5_ofBook_35 ?_
        refine lv_goto (tgt := 45) hC.1 hC.2.1 dX5_ofBook_36 (by decide) ?_
        exact x_iret hC hw dX5_ofBook_45 (by omega) (by omega) ⟨0, rfl, by omega, ⟨_, _, _, _, _, _, _, _, _, _, _, _, _, _, _, _, _, _, _, _, hRk_12⟩⟩
    · refine x_const hC dX5_ofBook_23 ?_
      refine lv_goto (tgt := 28) hC.1 hC.2.1 dX5_ofBook_24 (by decide) ?_
      refine x_const hC dX5_ofBook_28 ?_
      refine x_callV hC hw (lv_size hl) (c_X5_refuse l G hRk_5 (p0 := 1) (by omega) (p1 := 2) (by omega) (by omega)) gX5_ofBook_X5_refuse rfl dv_X5_refuse hRk_5.1.1 rfl rfl (Nat.le_of_ble_eq_true rfl) (by rw [hRf]; decide) (by rw [hRl]; decide) (by omega) (by omega) dX5_ofBook_29 (fun r9 M_17 H locs hq hw => ?_)
      obtain ⟨z_18, rfl, hz_18a, hz_18b, thk_19, hRk_19⟩ := hq
      show W p l e R s m args below meth c H locs _ _ _ (F0 m 32 ls [.int (iN (z_18))])
      refine x_if_eq (tgt := 39) hC ⟨by omega, by omega⟩ dX5_ofBook_32 (by decide) (fun c_20 => ?_) (fun c_20 => ?_)
      · refine lv_aload_n hC.1 hC.2.1 dX5_ofBook_39 rfl (lv_at hl 0 rfl) ?_
        refine lv_iload_n hC.1 hC.2.1 dX5_ofBook_40 rfl (lv_at hl 1 rfl) ?_
        refine lv_iload_n hC.1 hC.2.1 dX5_ofBook_41 rfl (lv_at hl 2 rfl) ?_
        refine x_callV hC hw (lv_size hl) (c_X5_bookTold l G hRk_19 (p0 := p0) (by omega) (p1 := p1) (by omega) (by omega)) gX5_ofBook_X5_bookTold rfl dv_X5_bookTold hRk_19.1.1 rfl rfl (Nat.le_of_ble_eq_true rfl) (by rw [hRf]; decide) (by rw [hRl]; decide) (by omega) (by omega) dX5_ofBook_42 (fun r9 M_21 H locs hq hw => ?_)
        obtain ⟨z_22, rfl, hxz_22, hz_22a⟩ := hq
        have h_23 := hRk_19.ext hxz_22
        show W p l e R s m args below meth c H locs _ _ _ (F0 m 45 ls [.int (iN (z_22))])
        exact x_iret hC hw dX5_ofBook_45 (by omega) (by omega) ⟨z_22, rfl, by omega, ⟨_, _, _, _, _, _, _, _, _, _, _, _, _, _, _, _, _, _, _, _, h_23⟩⟩
      · refine x_const hC dX5_ofBook_35 ?_
        refine lv_goto (tgt := 45) hC.1 hC.2.1 dX5_ofBook_36 (by decide) ?_
        exact x_iret hC hw dX5_ofBook_45 (by omega) (by omega) ⟨0, rfl, by omega, ⟨_, _, _, _, _, _, _, _, _, _, _, _, _, _, _, _, _, _, _, _, hRk_19⟩⟩
set_option maxHeartbeats 4000000 in
set_option maxRecDepth 100000 in
theorem c_X5_nearTold (l : Launch) (G : xG) {M : HM} {a va oa wa ya : Nat} {wk : Option Nat} {th rfd br re la ha kp kv : Int32} {qv qw : Nat → Nat} {fa fb : Nat → Option Nat} {fvv fw : Nat → Nat → Int32} {fo : Nat → Int32} {fy : Nat → Option Nat} {S : Nat → Bool} (hR : MGx G M a va oa wa ya wk th rfd br re la ha kp kv qv qw fa fb fvv fw fo fy S) {p0 : Int} (hp0 : -2147483648 ≤ p0 ∧ p0 ≤ 2147483647) {p1 : Int} (hp1 : -2147483648 ≤ p1 ∧ p1 ≤ 2147483647) {p2 : Int} (hp2 : -2147483648 ≤ p2 ∧ p2 ≤ 2147483647) (hob : 0 ≤ p0 ∧ p0 ≤ 2) (hok : 0 ≤ p1 ∧ p1 ≤ 99) : xMet l G yX5_nearTold wsX5_nearTold 5 117 1 5 [.ref a, .int (iN (p0)), .int (iN (p1)), .int (iN (p2))] M (fun r M1 => ∃ z : Int, r = some (.int (iN z)) ∧ xExt M M1 ∧ (-2147483648 ≤ z ∧ z ≤ 2147483647)) := by
  refine x_intro (cc := cX5_nearTold) (maxL := 5) (ret := (some .int)) (by decide +kernel) rfl (Nat.le_of_ble_eq_true rfl) ?_
  intro p e R s m args below meth c ls hRf hRc hRs hRl hC hw hl
  have hl : lv_has ls 5 [(0, .ref a), (1, .int (iN (p0))), (2, .int (iN (p1))), (3, .int (iN (p2)))] := hl
  refine lv_aload_n hC.1 hC.2.1 dX5_nearTold_0 rfl (lv_at hl 0 rfl) ?_
  refine lv_iload_n hC.1 hC.2.1 dX5_nearTold_1 rfl (lv_at hl 1 rfl) ?_
  refine x_callS hC hw (lv_size hl) (c_X5_whole l G (M := M) (p0 := p0) (by omega) (by omega)) gX5_nearTold_X5_whole rfl dv_X5_whole_s rfl (Nat.le_of_ble_eq_true rfl) (by rw [hRf]; decide) (by rw [hRl]; decide) (by omega) (by omega) dX5_nearTold_2 (fun r9 M_1 H locs hq hw => ?_)
  obtain ⟨qk_2, fk_2, rfl, hxk_2, hIk_2, hfk_2⟩ := hq
  have h_3 := hR.ext hxk_2
  obtain ⟨hvt_4, hat_4, hbt_4, hct_4, hdt_4, het_4⟩ := id hIk_2
  show W p l e R s m args below meth c H locs _ _ _ (F0 m 5 ls [.ref qk_2, .ref a])
  refine lv_iload_n hC.1 hC.2.1 dX5_nearTold_5 rfl (lv_at hl 2 rfl) ?_
  refine lv_iload_n hC.1 hC.2.1 dX5_nearTold_6 rfl (lv_at hl 3 rfl) ?_
  refine x_const hC dX5_nearTold_7 ?_
  refine x_irem hC ⟨by omega, by omega⟩ ⟨by omega, by omega⟩ (by omega) (by omega) dX5_nearTold_8 ?_
  obtain ⟨z_5, hz_5⟩ : ∃ z : Int, z = p2.tmod 4 := ⟨_, rfl⟩
  rw [← hz_5]
  have hrz_5 : -2147483648 ≤ z_5 ∧ z_5 ≤ 2147483647 := by rw [hz_5]; exact x_tmod_rng ⟨by omega, by omega⟩ (by omega)
  refine x_callV hC hw (lv_size hl) (c_X5_nearOf l G h_3 hIk_2 (p0 := p1) (by omega) (p1 := z_5) (by omega) (by omega)) gX5_nearTold_X5_nearOf rfl dv_X5_nearOf h_3.1.1 rfl rfl (Nat.le_of_ble_eq_true rfl) (by rw [hRf]; decide) (by rw [hRl]; decide) (by omega) (by omega) dX5_nearTold_9 (fun r9 M_6 H locs hq hw => ?_)
  obtain ⟨z_7, rfl, hM9, hz_7a, hz_7S, hz_7w⟩ := hq
  rw [hM9] at hw
  show W p l e R s m args below meth c H locs _ _ _ (F0 m 12 ls [.int (iN (z_7))])
  refine lv_istore (lv' := [(4, .int (iN (z_7))), (0, .ref a), (1, .int (iN (p0))), (2, .int (iN (p1))), (3, .int (iN (p2)))]) hC.1 hC.2.1 dX5_nearTold_12 hl (by decide) rfl (fun ls hl => ?_)
  refine lv_iload_n hC.1 hC.2.1 dX5_nearTold_14 rfl (lv_at hl 4 rfl) ?_
  refine x_const hC dX5_nearTold_15 ?_
  refine x_icmp_ge (tgt := 24) hC ⟨by omega, by omega⟩ ⟨by omega, by omega⟩ dX5_nearTold_16 (by decide) (fun c_8 => ?_) (fun c_8 => ?_)
  · refine lv_aload_n hC.1 hC.2.1 dX5_nearTold_24 rfl (lv_at hl 1 rfl) ?_
    refine lv_iload_n hC.1 hC.2.1 dX5_nearTold_25 rfl (lv_at hl 2 rfl) ?_
    refine lv_iload hC.1 hC.2.1 dX5_nearTold_26 (lv_at hl 0 rfl) ?_
    refine x_callV hC hw (lv_size hl) (c_X5_valueOf l G h_3 (p0 := p0) (by omega) (p1 := z_7) (by omega) (by omega) (by omega)) gX5_nearTold_X5_valueOf rfl dv_X5_valueOf h_3.1.1 rfl rfl (Nat.le_of_ble_eq_true rfl) (by rw [hRf]; decide) (by rw [hRl]; decide) (by omega) (by omega) dX5_nearTold_28 (fun r9 M_9 H locs hq hw => ?_)
    obtain ⟨z_10, rfl, hM9, hz_10a⟩ := hq
    rw [hM9] at hw
    show W p l e R s m args below meth c H locs _ _ _ (F0 m 31 ls [.int (iN (z_10))])
    exact x_iret hC hw dX5_nearTold_31 (by omega) (by omega) ⟨z_10, rfl, hxk_2, by omega⟩
  · refine lv_iload hC.1 hC.2.1 dX5_nearTold_19 (lv_at hl 0 rfl) ?_
    refine lv_goto (tgt := 31) hC.1 hC.2.1 dX5_nearTold_21 (by decide) ?_
    exact x_iret hC hw dX5_nearTold_31 (by omega) (by omega) ⟨z_7, rfl, hxk_2, by omega⟩
set_option maxHeartbeats 4000000 in
set_option maxRecDepth 100000 in
theorem c_X5_near (l : Launch) (G : xG) {M : HM} {a va oa wa ya : Nat} {wk : Option Nat} {th rfd br re la ha kp kv : Int32} {qv qw : Nat → Nat} {fa fb : Nat → Option Nat} {fvv fw : Nat → Nat → Int32} {fo : Nat → Int32} {fy : Nat → Option Nat} {S : Nat → Bool} (hR : MGx G M a va oa wa ya wk th rfd br re la ha kp kv qv qw fa fb fvv fw fo fy S) {p0 : Int} (hp0 : -2147483648 ≤ p0 ∧ p0 ≤ 2147483647) {p1 : Int} (hp1 : -2147483648 ≤ p1 ∧ p1 ≤ 2147483647) {p2 : Int} (hp2 : -2147483648 ≤ p2 ∧ p2 ≤ 2147483647) : xMet l G yX5_near wsX5_near 6 141 1 5 [.ref a, .int (iN (p0)), .int (iN (p1)), .int (iN (p2))] M (fun r M1 => ∃ z : Int, r = some (.int (iN z)) ∧ (-2147483648 ≤ z ∧ z ≤ 2147483647) ∧ MGm G M1 a rfd S) := by
  refine x_intro (cc := cX5_near) (maxL := 4) (ret := (some .int)) (by decide +kernel) rfl (Nat.le_of_ble_eq_true rfl) ?_
  intro p e R s m args below meth c ls hRf hRc hRs hRl hC hw hl
  have hl : lv_has ls 4 [(0, .ref a), (1, .int (iN (p0))), (2, .int (iN (p1))), (3, .int (iN (p2)))] := hl
  refine lv_aload_n hC.1 hC.2.1 dX5_near_0 rfl (lv_at hl 0 rfl) ?_
  refine lv_iload_n hC.1 hC.2.1 dX5_near_1 rfl (lv_at hl 1 rfl) ?_
  refine lv_iload_n hC.1 hC.2.1 dX5_near_2 rfl (lv_at hl 2 rfl) ?_
  refine x_callV hC hw (lv_size hl) (c_X5_isBad l G hR (p0 := p0) (by omega) (p1 := p1) (by omega)) gX5_near_X5_isBad rfl dv_X5_isBad hR.1.1 rfl rfl (Nat.le_of_ble_eq_true rfl) (by rw [hRf]; decide) (by rw [hRl]; decide) (by omega) (by omega) dX5_near_3 (fun r9 M_1 H locs hq hw => ?_)
  obtain ⟨z_2, rfl, hz_2a, hz_2b, thk_3, hRk_3⟩ := hq
  show W p l e R s m args below meth c H locs _ _ _ (F0 m 6 ls [.int (iN (z_2))])
  refine x_if_ne (tgt := 32) hC ⟨by omega, by omega⟩ dX5_near_6 (by decide) (fun c_4 => ?_) (fun c_4 => ?_)
  · refine x_const hC dX5_near_32 ?_
    refine lv_goto (tgt := 43) hC.1 hC.2.1 dX5_near_33 (by decide) ?_
    exact x_iret hC hw dX5_near_43 (by omega) (by omega) ⟨0, rfl, by omega, ⟨_, _, _, _, _, _, _, _, _, _, _, _, _, _, _, _, _, _, _, _, hRk_3⟩⟩
  · refine lv_aload_n hC.1 hC.2.1 dX5_near_9 rfl (lv_at hl 0 rfl) ?_
    refine lv_iload_n hC.1 hC.2.1 dX5_near_10 rfl (lv_at hl 3 rfl) ?_
    refine x_const hC dX5_near_11 ?_
    refine x_bipush hC dX5_near_12 (by decide +kernel) ?_
    refine x_callS hC hw (lv_size hl) (c_X5_isIn l G (M := M_1) (p0 := p2) (by omega) (p1 := 0) (by omega) (p2 := 7) (by omega)) gX5_near_X5_isIn rfl dv_X5_isIn_s rfl (Nat.le_of_ble_eq_true rfl) (by rw [hRf]; decide) (by rw [hRl]; decide) (by omega) (by omega) dX5_near_14 (fun r9 M_5 H locs hq hw => ?_)
    obtain ⟨z_6, rfl, hM9, hz_6a, hz_6b, hz_6c⟩ := hq
    rw [hM9] at hw
    show W p l e R s m args below meth c H locs _ _ _ (F0 m 17 ls [.int (iN (z_6)), .ref a])
    refine x_if_ne (tgt := 24) hC ⟨by omega, by omega⟩ dX5_near_17 (by decide) (fun c_7 => ?_) (fun c_7 => ?_)
    · refine x_const hC dX5_near_24 ?_
      refine x_const hC dX5_near_25 ?_
      refine x_callV hC hw (lv_size hl) (c_X5_refuse l G hRk_3 (p0 := 0) (by omega) (p1 := 2) (by omega) (by omega)) gX5_near_X5_refuse rfl dv_X5_refuse hRk_3.1.1 rfl rfl (Nat.le_of_ble_eq_true rfl) (by rw [hRf]; decide) (by rw [hRl]; decide) (by omega) (by omega) dX5_near_26 (fun r9 M_8 H locs hq hw => ?_)
      obtain ⟨z_9, rfl, hz_9a, hz_9b, thk_10, hRk_10⟩ := hq
      show W p l e R s m args below meth c H locs _ _ _ (F0 m 29 ls [.int (iN (z_9))])
      refine x_if_eq (tgt := 36) hC ⟨by omega, by omega⟩ dX5_near_29 (by decide) (fun c_11 => ?_) (fun c_11 => ?_)
      · refine lv_aload_n hC.1 hC.2.1 dX5_near_36 rfl (lv_at hl 0 rfl) ?_
        refine lv_iload_n hC.1 hC.2.1 dX5_near_37 rfl (lv_at hl 1 rfl) ?_
        refine lv_iload_n hC.1 hC.2.1 dX5_near_38 rfl (lv_at hl 2 rfl) ?_
        refine lv_iload_n hC.1 hC.2.1 dX5_near_39 rfl (lv_at hl 3 rfl) ?_
        refine x_callV hC hw (lv_size hl) (c_X5_nearTold l G hRk_10 (p0 := p0) (by omega) (p1 := p1) (by omega) (p2 := p2) (by omega) (by omega) (by omega)) gX5_near_X5_nearTold rfl dv_X5_nearTold hRk_10.1.1 rfl rfl (Nat.le_of_ble_eq_true rfl) (by rw [hRf]; decide) (by rw [hRl]; decide) (by omega) (by omega) dX5_near_40 (fun r9 M_12 H locs hq hw => ?_)
        obtain ⟨z_13, rfl, hxz_13, hz_13a⟩ := hq
        have h_14 := hRk_10.ext hxz_13
        show W p l e R s m args below meth c H locs _ _ _ (F0 m 43 ls [.int (iN (z_13))])
        exact x_iret hC hw dX5_near_43 (by omega) (by omega) ⟨z_13, rfl, by omega, ⟨_, _, _, _, _, _, _, _, _, _, _, _, _, _, _, _, _, _, _, _, h_14⟩⟩
      · refine x_const hC dX5_near_32 ?_
        refine lv_goto (tgt := 43) hC.1 hC.2.1 dX5_near_33 (by decide) ?_
        exact x_iret hC hw dX5_near_43 (by omega) (by omega) ⟨0, rfl, by omega, ⟨_, _, _, _, _, _, _, _, _, _, _, _, _, _, _, _, _, _, _, _, hRk_10⟩⟩
    · refine x_const hC dX5_near_20 ?_
      refine lv_goto (tgt := 25) hC.1 hC.2.1 dX5_near_21 (by decide) ?_
      refine x_const hC dX5_near_25 ?_
      refine x_callV hC hw (lv_size hl) (c_X5_refuse l G hRk_3 (p0 := 1) (by omega) (p1 := 2) (by omega) (by omega)) gX5_near_X5_refuse rfl dv_X5_refuse hRk_3.1.1 rfl rfl (Nat.le_of_ble_eq_true rfl) (by rw [hRf]; decide) (by rw [hRl]; decide) (by omega) (by omega) dX5_near_26 (fun r9 M_15 H locs hq hw => ?_)
      obtain ⟨z_16, rfl, hz_16a, hz_16b, thk_17, hRk_17⟩ := hq
      show W p l e R s m args below meth c H locs _ _ _ (F0 m 29 ls [.int (iN (z_16))])
      refine x_if_eq (tgt := 36) hC ⟨by omega, by omega⟩ dX5_near_29 (by decide) (fun c_18 => ?_) (fun c_18 => ?_)
      · refine lv_aload_n hC.1 hC.2.1 dX5_near_36 rfl (lv_at hl 0 rfl) ?_
        refine lv_iload_n hC.1 hC.2.1 dX5_near_37 rfl (lv_at hl 1 rfl) ?_
        refine lv_iload_n hC.1 hC.2.1 dX5_near_38 rfl (lv_at hl 2 rfl) ?_
        refine lv_iload_n hC.1 hC.2.1 dX5_near_39 rfl (lv_at hl 3 rfl) ?_
        refine x_callV hC hw (lv_size hl) (c_X5_nearTold l G hRk_17 (p0 := p0) (by omega) (p1 := p1) (by omega) (p2 := p2) (by omega) (by omega) (by omega)) gX5_near_X5_nearTold rfl dv_X5_nearTold hRk_17.1.1 rfl rfl (Nat.le_of_ble_eq_true rfl) (by rw [hRf]; decide) (by rw [hRl]; decide) (by omega) (by omega) dX5_near_40 (fun r9 M_19 H locs hq hw => ?_)
        obtain ⟨z_20, rfl, hxz_20, hz_20a⟩ := hq
        have h_21 := hRk_17.ext hxz_20
        show W p l e R s m args below meth c H locs _ _ _ (F0 m 43 ls [.int (iN (z_20))])
        exact x_iret hC hw dX5_near_43 (by omega) (by omega) ⟨z_20, rfl, by omega, ⟨_, _, _, _, _, _, _, _, _, _, _, _, _, _, _, _, _, _, _, _, h_21⟩⟩
      · refine x_const hC dX5_near_32 ?_
        refine lv_goto (tgt := 43) hC.1 hC.2.1 dX5_near_33 (by decide) ?_
        exact x_iret hC hw dX5_near_43 (by omega) (by omega) ⟨0, rfl, by omega, ⟨_, _, _, _, _, _, _, _, _, _, _, _, _, _, _, _, _, _, _, _, hRk_17⟩⟩
set_option maxHeartbeats 4000000 in
set_option maxRecDepth 100000 in
theorem c_X5_place (l : Launch) (G : xG) {M : HM} {a va oa wa ya : Nat} {wk : Option Nat} {th rfd br re la ha kp kv : Int32} {qv qw : Nat → Nat} {fa fb : Nat → Option Nat} {fvv fw : Nat → Nat → Int32} {fo : Nat → Int32} {fy : Nat → Option Nat} {S : Nat → Bool} (hR : MGx G M a va oa wa ya wk th rfd br re la ha kp kv qv qw fa fb fvv fw fo fy S) {p0 : Int} (hp0 : -2147483648 ≤ p0 ∧ p0 ≤ 2147483647) {p1 : Int} (hp1 : -2147483648 ≤ p1 ∧ p1 ≤ 2147483647) : xMet l G yX5_place wsX5_place 4 92 1 5 [.ref a, .int (iN (p0)), .int (iN (p1))] M (fun r M1 => ∃ z : Int, r = some (.int (iN z)) ∧ (-2147483648 ≤ z ∧ z ≤ 2147483647) ∧ MGm G M1 a rfd S) := by
  refine x_intro (cc := cX5_place) (maxL := 3) (ret := (some .int)) (by decide +kernel) rfl (Nat.le_of_ble_eq_true rfl) ?_
  intro p e R s m args below meth c ls hRf hRc hRs hRl hC hw hl
  have hl : lv_has ls 3 [(0, .ref a), (1, .int (iN (p0))), (2, .int (iN (p1)))] := hl
  refine lv_aload_n hC.1 hC.2.1 dX5_place_0 rfl (lv_at hl 0 rfl) ?_
  refine lv_iload_n hC.1 hC.2.1 dX5_place_1 rfl (lv_at hl 1 rfl) ?_
  refine lv_iload_n hC.1 hC.2.1 dX5_place_2 rfl (lv_at hl 2 rfl) ?_
  refine x_callV hC hw (lv_size hl) (c_X5_isBad l G hR (p0 := p0) (by omega) (p1 := p1) (by omega)) gX5_place_X5_isBad rfl dv_X5_isBad hR.1.1 rfl rfl (Nat.le_of_ble_eq_true rfl) (by rw [hRf]; decide) (by rw [hRl]; decide) (by omega) (by omega) dX5_place_3 (fun r9 M_1 H locs hq hw => ?_)
  obtain ⟨z_2, rfl, hz_2a, hz_2b, thk_3, hRk_3⟩ := hq
  show W p l e R s m args below meth c H locs _ _ _ (F0 m 6 ls [.int (iN (z_2))])
  refine x_if_eq (tgt := 13) hC ⟨by omega, by omega⟩ dX5_place_6 (by decide) (fun c_4 => ?_) (fun c_4 => ?_)
  · refine lv_aload_n hC.1 hC.2.1 dX5_place_13 rfl (lv_at hl 0 rfl) ?_
    refine lv_iload_n hC.1 hC.2.1 dX5_place_14 rfl (lv_at hl 1 rfl) ?_
    refine lv_iload_n hC.1 hC.2.1 dX5_place_15 rfl (lv_at hl 2 rfl) ?_
    refine x_callV hC hw (lv_size hl) (c_X5_ahead l G hRk_3 (p0 := p0) (by omega) (p1 := p1) (by omega) (by omega) (by omega)) gX5_place_X5_ahead rfl dv_X5_ahead hRk_3.1.1 rfl rfl (Nat.le_of_ble_eq_true rfl) (by rw [hRf]; decide) (by rw [hRl]; decide) (by omega) (by omega) dX5_place_16 (fun r9 M_5 H locs hq hw => ?_)
    obtain ⟨z_6, rfl, hxz_6, hz_6a⟩ := hq
    have h_7 := hRk_3.ext hxz_6
    show W p l e R s m args below meth c H locs _ _ _ (F0 m 19 ls [.int (iN (z_6))])
    exact x_iret hC hw dX5_place_19 (by omega) (by omega) ⟨z_6, rfl, by omega, ⟨_, _, _, _, _, _, _, _, _, _, _, _, _, _, _, _, _, _, _, _, h_7⟩⟩
  · refine x_const hC dX5_place_9 ?_
    refine lv_goto (tgt := 19) hC.1 hC.2.1 dX5_place_10 (by decide) ?_
    exact x_iret hC hw dX5_place_19 (by omega) (by omega) ⟨0, rfl, by omega, ⟨_, _, _, _, _, _, _, _, _, _, _, _, _, _, _, _, _, _, _, _, hRk_3⟩⟩
set_option maxHeartbeats 4000000 in
set_option maxRecDepth 100000 in
theorem c_X5_at (l : Launch) (G : xG) {M : HM} {a va oa wa ya : Nat} {wk : Option Nat} {th rfd br re la ha kp kv : Int32} {qv qw : Nat → Nat} {fa fb : Nat → Option Nat} {fvv fw : Nat → Nat → Int32} {fo : Nat → Int32} {fy : Nat → Option Nat} {S : Nat → Bool} (hR : MGx G M a va oa wa ya wk th rfd br re la ha kp kv qv qw fa fb fvv fw fo fy S) {p0 : Int} (hp0 : -2147483648 ≤ p0 ∧ p0 ≤ 2147483647) {p1 : Int} (hp1 : -2147483648 ≤ p1 ∧ p1 ≤ 2147483647) : xMet l G yX5_at wsX5_at 4 92 100 500 [.ref a, .int (iN (p0)), .int (iN (p1))] M (fun r M1 => ∃ z : Int, r = some (.int (iN z)) ∧ (-2147483648 ≤ z ∧ z ≤ 2147483647) ∧ MGm G M1 a rfd S) := by
  refine x_intro (cc := cX5_at) (maxL := 4) (ret := (some .int)) (by decide +kernel) rfl (Nat.le_of_ble_eq_true rfl) ?_
  intro p e R s m args below meth c ls hRf hRc hRs hRl hC hw hl
  have hinX5 : ∀ w ∈ wsX50, w ∈ wsX5_at := by decide +kernel
  have hl : lv_has ls 4 [(0, .ref a), (1, .int (iN (p0))), (2, .int (iN (p1)))] := hl
  refine lv_aload_n hC.1 hC.2.1 dX5_at_0 rfl (lv_at hl 0 rfl) ?_
  refine lv_iload_n hC.1 hC.2.1 dX5_at_1 rfl (lv_at hl 1 rfl) ?_
  refine x_callS hC hw (lv_size hl) (c_X5_isNoBook l G (M := M) (p0 := p0) (by omega)) gX5_at_X5_isNoBook rfl dv_X5_isNoBook_s rfl (Nat.le_of_ble_eq_true rfl) (by rw [hRf]; decide) (by rw [hRl]; decide) (by omega) (by omega) dX5_at_2 (fun r9 M_1 H locs hq hw => ?_)
  obtain ⟨z_2, rfl, hM9, hz_2a, hz_2b⟩ := hq
  rw [hM9] at hw
  show W p l e R s m args below meth c H locs _ _ _ (F0 m 5 ls [.int (iN (z_2)), .ref a])
  refine x_const hC dX5_at_5 ?_
  refine x_callV hC hw (lv_size hl) (c_X5_start l G hR (p0 := z_2) (by omega) (p1 := 1) (by omega) (by omega)) gX5_at_X5_start rfl dv_X5_start hR.1.1 rfl rfl (Nat.le_of_ble_eq_true rfl) (by rw [hRf]; decide) (by rw [hRl]; decide) (by omega) (by omega) dX5_at_6 (fun r9 M_3 H locs hq hw => ?_)
  obtain ⟨z_4, rfl, hz_4a, hz_4b, thk_5, hRk_5⟩ := hq
  show W p l e R s m args below meth c H locs _ _ _ (F0 m 9 ls [.int (iN (z_4))])
  refine x_if_ne (tgt := 29) hC ⟨by omega, by omega⟩ dX5_at_9 (by decide) (fun c_6 => ?_) (fun c_6 => ?_)
  · refine x_const hC dX5_at_29 ?_
    exact x_iret hC hw dX5_at_30 (by omega) (by omega) ⟨0, rfl, by omega, ⟨_, _, _, _, _, _, _, _, _, _, _, _, _, _, _, _, _, _, _, _, hRk_5⟩⟩
  · refine lv_aload_n hC.1 hC.2.1 dX5_at_12 rfl (lv_at hl 0 rfl) ?_
    refine lv_iload_n hC.1 hC.2.1 dX5_at_13 rfl (lv_at hl 2 rfl) ?_
    refine x_if_ge (tgt := 21) hC ⟨by omega, by omega⟩ dX5_at_14 (by decide) (fun c_7 => ?_) (fun c_7 => ?_)
    · refine x_const hC dX5_at_21 ?_
      refine x_const hC dX5_at_22 ?_
      refine x_callV hC hw (lv_size hl) (c_X5_refuse l G hRk_5 (p0 := 0) (by omega) (p1 := 2) (by omega) (by omega)) gX5_at_X5_refuse rfl dv_X5_refuse hRk_5.1.1 rfl rfl (Nat.le_of_ble_eq_true rfl) (by rw [hRf]; decide) (by rw [hRl]; decide) (by omega) (by omega) dX5_at_23 (fun r9 M_8 H locs hq hw => ?_)
      obtain ⟨z_9, rfl, hz_9a, hz_9b, thk_10, hRk_10⟩ := hq
      show W p l e R s m args below meth c H locs _ _ _ (F0 m 26 ls [.int (iN (z_9))])
      refine x_if_eq (tgt := 31) hC ⟨by omega, by omega⟩ dX5_at_26 (by decide) (fun c_11 => ?_) (fun c_11 => ?_)
      · refine x_const hC dX5_at_31 ?_
        refine lv_istore_n (lv' := [(3, .int (iN (0))), (0, .ref a), (1, .int (iN (p0))), (2, .int (iN (p1)))]) hC.1 hC.2.1 dX5_at_32 rfl hl (by decide) rfl (fun ls hl => ?_)
        suffices hloop33 : ∀ (n9 : Nat) (j : Int) (cu33 : Nat) (su33 : Nat) (Ma : HM) (hxa : xExt M_8 Ma) (H : Heap) (locs : List Loc) (ls : Array Slot), (hmu : (100 - j).toNat < n9) → (hi0 : 0 ≤ j ∧ j ≤ 100) → (hcu33 : (cu33 : Int) ≤ j) → (hsu33 : (su33 : Int) ≤ 5 * j) → xD G (xA M s.heap.size) s Ma H locs → lv_has ls 4 [(0, .ref a), (1, .int (iN (p0))), (2, .int (iN (p1))), (3, .int (iN (j)))] → W p l e R s m args below meth c H locs cu33 su33 _ (F0 m 33 ls []) by
          exact hloop33 _ 0 0 0 _ xExt.rf _ _ _ (Nat.lt_succ_self _) (by omega) (by omega) (by omega) hw (lv_sub hl [1, 2, 3, 0] rfl)
        intro n9
        induction n9 with
        | zero => intro j cu33 su33 Ma hxa H locs ls hmu; exact absurd hmu (Nat.not_lt_zero _)
        | succ n9 ih33 =>
          intro j cu33 su33 Ma hxa H locs ls hmu hi0 hcu33 hsu33 hw hl
          have h_12 := hRk_10.ext hxa
          refine lv_iload_n hC.1 hC.2.1 dX5_at_33 rfl (lv_at hl 3 rfl) ?_
          refine x_bipush hC dX5_at_34 (by decide +kernel) ?_
          refine x_icmp_ge (tgt := 71) hC ⟨by omega, by omega⟩ ⟨by omega, by omega⟩ dX5_at_36 (by decide) (fun c_13 => ?_) (fun c_13 => ?_)
          · refine x_sipush hC dX5_at_71 (by decide +kernel) ?_
            exact x_iret hC hw dX5_at_74 (by omega) (by omega) ⟨(-10000), rfl, by omega, ⟨_, _, _, _, _, _, _, _, _, _, _, _, _, _, _, _, _, _, _, _, h_12⟩⟩
          · refine lv_aload_n hC.1 hC.2.1 dX5_at_39 rfl (lv_at hl 0 rfl) ?_
            refine x_get hC hw h_12.1.1 rfl hinX5 2 (by decide) (by decide +kernel) rfl dX5_at_40 ?_
            refine lv_iload_n hC.1 hC.2.1 dX5_at_43 rfl (lv_at hl 1 rfl) ?_
            refine x_ald4 hC hw h_12.1.2.1 (by omega) (by omega) (by omega) dX5_at_44 ?_
            rw [h_12.fa' (show (p0).toNat < 3 by omega)]
            show W p l e R s m args below meth c _ _ _ _ _ (F0 m 45 ls [.ref (qv (p0).toNat)])
            refine lv_iload_n hC.1 hC.2.1 dX5_at_45 rfl (lv_at hl 3 rfl) ?_
            refine x_iald hC hw (h_12.rv (show (p0).toNat < 3 by omega)) (by omega) (by omega) (by omega) dX5_at_46 ?_
            obtain ⟨z_14, hz_14⟩ : ∃ z : Int, z = ((fvv (p0).toNat) (j).toNat).toInt := ⟨_, rfl⟩
            rw [← hz_14]
            have hrz_14 : -10000 ≤ z_14 ∧ z_14 ≤ 9999 := by rw [hz_14]; exact h_12.vr (by omega) (by omega)
            have hpz_14 : z_14 ≠ -10000 → S (j).toNat = true := by rw [hz_14]; exact h_12.vs (by omega) (by omega)
            refine x_sipush hC dX5_at_47 (by decide +kernel) ?_
            refine x_icmp_eq (tgt := 65) hC ⟨by omega, by omega⟩ ⟨by omega, by omega⟩ dX5_at_50 (by decide) (fun c_15 => ?_) (fun c_15 => ?_)
            · refine x_iinc (lv' := [(3, .int (iN (j + 1))), (0, .ref a), (1, .int (iN (p0))), (2, .int (iN (p1)))]) hC dX5_at_65 hl (k := 3) rfl (by decide) rfl (fun ls hl => ?_)
              refine lv_goto (tgt := 33) hC.1 hC.2.1 dX5_at_68 (by decide) ?_
              exact ih33 (j + 1) cu33 su33 _ (hxa) _ _ _ (by omega) (by omega) (by omega) (by omega) hw (lv_sub hl [1, 2, 3, 0] rfl)
            · refine lv_aload_n hC.1 hC.2.1 dX5_at_53 rfl (lv_at hl 0 rfl) ?_
              refine lv_iload_n hC.1 hC.2.1 dX5_at_54 rfl (lv_at hl 1 rfl) ?_
              refine lv_iload_n hC.1 hC.2.1 dX5_at_55 rfl (lv_at hl 3 rfl) ?_
              refine x_callV hC hw (lv_size hl) (c_X5_ahead l G h_12 (p0 := p0) (by omega) (p1 := j) (by omega) (by omega) (by omega)) gX5_at_X5_ahead rfl dv_X5_ahead h_12.1.1 rfl rfl (Nat.le_of_ble_eq_true rfl) (by rw [hRf]; decide) (by rw [hRl]; decide) (by omega) (by omega) dX5_at_56 (fun r9 M_16 H locs hq hw => ?_)
              obtain ⟨z_17, rfl, hxz_17, hz_17a⟩ := hq
              have h_18 := h_12.ext hxz_17
              show W p l e R s m args below meth c H locs _ _ _ (F0 m 59 ls [.int (iN (z_17))])
              refine lv_iload_n hC.1 hC.2.1 dX5_at_59 rfl (lv_at hl 2 rfl) ?_
              refine x_icmp_ne (tgt := 65) hC ⟨by omega, by omega⟩ ⟨by omega, by omega⟩ dX5_at_60 (by decide) (fun c_19 => ?_) (fun c_19 => ?_)
              · refine x_iinc (lv' := [(3, .int (iN (j + 1))), (0, .ref a), (1, .int (iN (p0))), (2, .int (iN (p1)))]) hC dX5_at_65 hl (k := 3) rfl (by decide) rfl (fun ls hl => ?_)
                refine lv_goto (tgt := 33) hC.1 hC.2.1 dX5_at_68 (by decide) ?_
                exact ih33 (j + 1) (cu33 + 1) (su33 + 5) _ ((xExt.tr hxa hxz_17)) _ _ _ (by omega) (by omega) (by omega) (by omega) hw (lv_sub hl [1, 2, 3, 0] rfl)
              · refine lv_iload_n hC.1 hC.2.1 dX5_at_63 rfl (lv_at hl 3 rfl) ?_
                exact x_iret hC hw dX5_at_64 (by omega) (by omega) ⟨j, rfl, by omega, ⟨_, _, _, _, _, _, _, _, _, _, _, _, _, _, _, _, _, _, _, _, h_18⟩⟩
      · refine x_const hC dX5_at_29 ?_
        exact x_iret hC hw dX5_at_30 (by omega) (by omega) ⟨0, rfl, by omega, ⟨_, _, _, _, _, _, _, _, _, _, _, _, _, _, _, _, _, _, _, _, hRk_10⟩⟩
    · refine x_const hC dX5_at_17 ?_
      refine lv_goto (tgt := 22) hC.1 hC.2.1 dX5_at_18 (by decide) ?_
      refine x_const hC dX5_at_22 ?_
      refine x_callV hC hw (lv_size hl) (c_X5_refuse l G hRk_5 (p0 := 1) (by omega) (p1 := 2) (by omega) (by omega)) gX5_at_X5_refuse rfl dv_X5_refuse hRk_5.1.1 rfl rfl (Nat.le_of_ble_eq_true rfl) (by rw [hRf]; decide) (by rw [hRl]; decide) (by omega) (by omega) dX5_at_23 (fun r9 M_20 H locs hq hw => ?_)
      obtain ⟨z_21, rfl, hz_21a, hz_21b, thk_22, hRk_22⟩ := hq
      show W p l e R s m args below meth c H locs _ _ _ (F0 m 26 ls [.int (iN (z_21))])
      refine x_if_eq (tgt := 31) hC ⟨by omega, by omega⟩ dX5_at_26 (by decide) (fun c_23 => ?_) (fun c_23 => ?_)
      · refine x_const hC dX5_at_31 ?_
        refine lv_istore_n (lv' := [(3, .int (iN (0))), (0, .ref a), (1, .int (iN (p0))), (2, .int (iN (p1)))]) hC.1 hC.2.1 dX5_at_32 rfl hl (by decide) rfl (fun ls hl => ?_)
        suffices hloop33 : ∀ (n9 : Nat) (j : Int) (cu33 : Nat) (su33 : Nat) (Ma : HM) (hxa : xExt M_20 Ma) (H : Heap) (locs : List Loc) (ls : Array Slot), (hmu : (100 - j).toNat < n9) → (hi0 : 0 ≤ j ∧ j ≤ 100) → (hcu33 : (cu33 : Int) ≤ j) → (hsu33 : (su33 : Int) ≤ 5 * j) → xD G (xA M s.heap.size) s Ma H locs → lv_has ls 4 [(0, .ref a), (1, .int (iN (p0))), (2, .int (iN (p1))), (3, .int (iN (j)))] → W p l e R s m args below meth c H locs cu33 su33 _ (F0 m 33 ls []) by
          exact hloop33 _ 0 0 0 _ xExt.rf _ _ _ (Nat.lt_succ_self _) (by omega) (by omega) (by omega) hw (lv_sub hl [1, 2, 3, 0] rfl)
        intro n9
        induction n9 with
        | zero => intro j cu33 su33 Ma hxa H locs ls hmu; exact absurd hmu (Nat.not_lt_zero _)
        | succ n9 ih33 =>
          intro j cu33 su33 Ma hxa H locs ls hmu hi0 hcu33 hsu33 hw hl
          have h_24 := hRk_22.ext hxa
          refine lv_iload_n hC.1 hC.2.1 dX5_at_33 rfl (lv_at hl 3 rfl) ?_
          refine x_bipush hC dX5_at_34 (by decide +kernel) ?_
          refine x_icmp_ge (tgt := 71) hC ⟨by omega, by omega⟩ ⟨by omega, by omega⟩ dX5_at_36 (by decide) (fun c_25 => ?_) (fun c_25 => ?_)
          · refine x_sipush hC dX5_at_71 (by decide +kernel) ?_
            exact x_iret hC hw dX5_at_74 (by omega) (by omega) ⟨(-10000), rfl, by omega, ⟨_, _, _, _, _, _, _, _, _, _, _, _, _, _, _, _, _, _, _, _, h_24⟩⟩
          · refine lv_aload_n hC.1 hC.2.1 dX5_at_39 rfl (lv_at hl 0 rfl) ?_
            refine x_get hC hw h_24.1.1 rfl hinX5 2 (by decide) (by decide +kernel) rfl dX5_at_40 ?_
            refine lv_iload_n hC.1 hC.2.1 dX5_at_43 rfl (lv_at hl 1 rfl) ?_
            refine x_ald4 hC hw h_24.1.2.1 (by omega) (by omega) (by omega) dX5_at_44 ?_
            rw [h_24.fa' (show (p0).toNat < 3 by omega)]
            show W p l e R s m args below meth c _ _ _ _ _ (F0 m 45 ls [.ref (qv (p0).toNat)])
            refine lv_iload_n hC.1 hC.2.1 dX5_at_45 rfl (lv_at hl 3 rfl) ?_
            refine x_iald hC hw (h_24.rv (show (p0).toNat < 3 by omega)) (by omega) (by omega) (by omega) dX5_at_46 ?_
            obtain ⟨z_26, hz_26⟩ : ∃ z : Int, z = ((fvv (p0).toNat) (j).toNat).toInt := ⟨_, rfl⟩
            rw [← hz_26]
            have hrz_26 : -10000 ≤ z_26 ∧ z_26 ≤ 9999 := by rw [hz_26]; exact h_24.vr (by omega) (by omega)
            have hpz_26 : z_26 ≠ -10000 → S (j).toNat = true := by rw [hz_26]; exact h_24.vs (by omega) (by omega)
            refine x_sipush hC dX5_at_47 (by decide +kernel) ?_
            refine x_icmp_eq (tgt := 65) hC ⟨by omega, by omega⟩ ⟨by omega, by omega⟩ dX5_at_50 (by decide) (fun c_27 => ?_) (fun c_27 => ?_)
            · refine x_iinc (lv' := [(3, .int (iN (j + 1))), (0, .ref a), (1, .int (iN (p0))), (2, .int (iN (p1)))]) hC dX5_at_65 hl (k := 3) rfl (by decide) rfl (fun ls hl => ?_)
              refine lv_goto (tgt := 33) hC.1 hC.2.1 dX5_at_68 (by decide) ?_
              exact ih33 (j + 1) cu33 su33 _ (hxa) _ _ _ (by omega) (by omega) (by omega) (by omega) hw (lv_sub hl [1, 2, 3, 0] rfl)
            · refine lv_aload_n hC.1 hC.2.1 dX5_at_53 rfl (lv_at hl 0 rfl) ?_
              refine lv_iload_n hC.1 hC.2.1 dX5_at_54 rfl (lv_at hl 1 rfl) ?_
              refine lv_iload_n hC.1 hC.2.1 dX5_at_55 rfl (lv_at hl 3 rfl) ?_
              refine x_callV hC hw (lv_size hl) (c_X5_ahead l G h_24 (p0 := p0) (by omega) (p1 := j) (by omega) (by omega) (by omega)) gX5_at_X5_ahead rfl dv_X5_ahead h_24.1.1 rfl rfl (Nat.le_of_ble_eq_true rfl) (by rw [hRf]; decide) (by rw [hRl]; decide) (by omega) (by omega) dX5_at_56 (fun r9 M_28 H locs hq hw => ?_)
              obtain ⟨z_29, rfl, hxz_29, hz_29a⟩ := hq
              have h_30 := h_24.ext hxz_29
              show W p l e R s m args below meth c H locs _ _ _ (F0 m 59 ls [.int (iN (z_29))])
              refine lv_iload_n hC.1 hC.2.1 dX5_at_59 rfl (lv_at hl 2 rfl) ?_
              refine x_icmp_ne (tgt := 65) hC ⟨by omega, by omega⟩ ⟨by omega, by omega⟩ dX5_at_60 (by decide) (fun c_31 => ?_) (fun c_31 => ?_)
              · refine x_iinc (lv' := [(3, .int (iN (j + 1))), (0, .ref a), (1, .int (iN (p0))), (2, .int (iN (p1)))]) hC dX5_at_65 hl (k := 3) rfl (by decide) rfl (fun ls hl => ?_)
                refine lv_goto (tgt := 33) hC.1 hC.2.1 dX5_at_68 (by decide) ?_
                exact ih33 (j + 1) (cu33 + 1) (su33 + 5) _ ((xExt.tr hxa hxz_29)) _ _ _ (by omega) (by omega) (by omega) (by omega) hw (lv_sub hl [1, 2, 3, 0] rfl)
              · refine lv_iload_n hC.1 hC.2.1 dX5_at_63 rfl (lv_at hl 3 rfl) ?_
                exact x_iret hC hw dX5_at_64 (by omega) (by omega) ⟨j, rfl, by omega, ⟨_, _, _, _, _, _, _, _, _, _, _, _, _, _, _, _, _, _, _, _, h_30⟩⟩
      · refine x_const hC dX5_at_29 ?_
        exact x_iret hC hw dX5_at_30 (by omega) (by omega) ⟨0, rfl, by omega, ⟨_, _, _, _, _, _, _, _, _, _, _, _, _, _, _, _, _, _, _, _, hRk_22⟩⟩
set_option maxHeartbeats 4000000 in
set_option maxRecDepth 100000 in
theorem c_X5_areSame (l : Launch) (G : xG) {M : HM} {a va oa wa ya : Nat} {wk : Option Nat} {th rfd br re la ha kp kv : Int32} {qv qw : Nat → Nat} {fa fb : Nat → Option Nat} {fvv fw : Nat → Nat → Int32} {fo : Nat → Int32} {fy : Nat → Option Nat} {S : Nat → Bool} (hR : MGx G M a va oa wa ya wk th rfd br re la ha kp kv qv qw fa fb fvv fw fo fy S) {p0 : Int} (hp0 : -2147483648 ≤ p0 ∧ p0 ≤ 2147483647) {p1 : Int} (hp1 : -2147483648 ≤ p1 ∧ p1 ≤ 2147483647) (hob : 0 ≤ p0 ∧ p0 ≤ 2) (hoc : 0 ≤ p1 ∧ p1 ≤ 2) : xMet l G yX5_areSame wsX5_areSame 0 0 0 0 [.ref a, .int (iN (p0)), .int (iN (p1))] M (fun r M1 => ∃ z : Int, r = some (.int (iN z)) ∧ M1 = M ∧ (z = 0 ∨ z = 1)) := by
  refine x_intro (cc := cX5_areSame) (maxL := 4) (ret := (some .boolean)) (by decide +kernel) rfl (Nat.le_of_ble_eq_true rfl) ?_
  intro p e R s m args below meth c ls hRf hRc hRs hRl hC hw hl
  have hinX5 : ∀ w ∈ wsX50, w ∈ wsX5_areSame := by decide +kernel
  have hl : lv_has ls 4 [(0, .ref a), (1, .int (iN (p0))), (2, .int (iN (p1)))] := hl
  refine x_const hC dX5_areSame_0 ?_
  refine lv_istore_n (lv' := [(3, .int (iN (0))), (0, .ref a), (1, .int (iN (p0))), (2, .int (iN (p1)))]) hC.1 hC.2.1 dX5_areSame_1 rfl hl (by decide) rfl (fun ls hl => ?_)
  suffices hloop2 : ∀ (n9 : Nat) (j : Int) (H : Heap) (locs : List Loc) (ls : Array Slot), (hmu : (100 - j).toNat < n9) → (hi0 : 0 ≤ j ∧ j ≤ 100) → xD G (xA M s.heap.size) s M H locs → lv_has ls 4 [(0, .ref a), (1, .int (iN (p0))), (2, .int (iN (p1))), (3, .int (iN (j)))] → W p l e R s m args below meth c H locs _ _ _ (F0 m 2 ls []) by
    exact hloop2 _ 0  _ _ _ (Nat.lt_succ_self _) (by omega) hw (lv_sub hl [1, 2, 3, 0] rfl)
  intro n9
  induction n9 with
  | zero => intro j  H locs ls hmu; exact absurd hmu (Nat.not_lt_zero _)
  | succ n9 ih2 =>
    intro j  H locs ls hmu hi0 hw hl
    refine lv_iload_n hC.1 hC.2.1 dX5_areSame_2 rfl (lv_at hl 3 rfl) ?_
    refine x_bipush hC dX5_areSame_3 (by decide +kernel) ?_
    refine x_icmp_ge (tgt := 35) hC ⟨by omega, by omega⟩ ⟨by omega, by omega⟩ dX5_areSame_5 (by decide) (fun c_1 => ?_) (fun c_1 => ?_)
    · refine x_const hC dX5_areSame_35 ?_
      exact x_zret hC hw (by omega) dX5_areSame_36 (by omega) (by omega) ⟨1, rfl, rfl, by omega⟩
    · refine lv_aload_n hC.1 hC.2.1 dX5_areSame_8 rfl (lv_at hl 0 rfl) ?_
      refine x_get hC hw hR.1.1 rfl hinX5 2 (by decide) (by decide +kernel) rfl dX5_areSame_9 ?_
      refine lv_iload_n hC.1 hC.2.1 dX5_areSame_12 rfl (lv_at hl 1 rfl) ?_
      refine x_ald4 hC hw hR.1.2.1 (by omega) (by omega) (by omega) dX5_areSame_13 ?_
      rw [hR.fa' (show (p0).toNat < 3 by omega)]
      show W p l e R s m args below meth c _ _ _ _ _ (F0 m 14 ls [.ref (qv (p0).toNat)])
      refine lv_iload_n hC.1 hC.2.1 dX5_areSame_14 rfl (lv_at hl 3 rfl) ?_
      refine x_iald hC hw (hR.rv (show (p0).toNat < 3 by omega)) (by omega) (by omega) (by omega) dX5_areSame_15 ?_
      obtain ⟨z_2, hz_2⟩ : ∃ z : Int, z = ((fvv (p0).toNat) (j).toNat).toInt := ⟨_, rfl⟩
      rw [← hz_2]
      have hrz_2 : -10000 ≤ z_2 ∧ z_2 ≤ 9999 := by rw [hz_2]; exact hR.vr (by omega) (by omega)
      have hpz_2 : z_2 ≠ -10000 → S (j).toNat = true := by rw [hz_2]; exact hR.vs (by omega) (by omega)
      refine lv_aload_n hC.1 hC.2.1 dX5_areSame_16 rfl (lv_at hl 0 rfl) ?_
      refine x_get hC hw hR.1.1 rfl hinX5 2 (by decide) (by decide +kernel) rfl dX5_areSame_17 ?_
      refine lv_iload_n hC.1 hC.2.1 dX5_areSame_20 rfl (lv_at hl 2 rfl) ?_
      refine x_ald4 hC hw hR.1.2.1 (by omega) (by omega) (by omega) dX5_areSame_21 ?_
      rw [hR.fa' (show (p1).toNat < 3 by omega)]
      show W p l e R s m args below meth c _ _ _ _ _ (F0 m 22 ls [.ref (qv (p1).toNat), .int (iN (z_2))])
      refine lv_iload_n hC.1 hC.2.1 dX5_areSame_22 rfl (lv_at hl 3 rfl) ?_
      refine x_iald hC hw (hR.rv (show (p1).toNat < 3 by omega)) (by omega) (by omega) (by omega) dX5_areSame_23 ?_
      obtain ⟨z_3, hz_3⟩ : ∃ z : Int, z = ((fvv (p1).toNat) (j).toNat).toInt := ⟨_, rfl⟩
      rw [← hz_3]
      have hrz_3 : -10000 ≤ z_3 ∧ z_3 ≤ 9999 := by rw [hz_3]; exact hR.vr (by omega) (by omega)
      have hpz_3 : z_3 ≠ -10000 → S (j).toNat = true := by rw [hz_3]; exact hR.vs (by omega) (by omega)
      refine x_icmp_eq (tgt := 29) hC ⟨by omega, by omega⟩ ⟨by omega, by omega⟩ dX5_areSame_24 (by decide) (fun c_4 => ?_) (fun c_4 => ?_)
      · refine x_iinc (lv' := [(3, .int (iN (j + 1))), (0, .ref a), (1, .int (iN (p0))), (2, .int (iN (p1)))]) hC dX5_areSame_29 hl (k := 3) rfl (by decide) rfl (fun ls hl => ?_)
        refine lv_goto (tgt := 2) hC.1 hC.2.1 dX5_areSame_32 (by decide) ?_
        exact ih2 (j + 1)  _ _ _ (by omega) (by omega) hw (lv_sub hl [1, 2, 3, 0] rfl)
      · refine x_const hC dX5_areSame_27 ?_
        exact x_zret hC hw (by omega) dX5_areSame_28 (by omega) (by omega) ⟨0, rfl, rfl, by omega⟩
set_option maxHeartbeats 4000000 in
set_option maxRecDepth 100000 in
theorem c_X5_same (l : Launch) (G : xG) {M : HM} {a va oa wa ya : Nat} {wk : Option Nat} {th rfd br re la ha kp kv : Int32} {qv qw : Nat → Nat} {fa fb : Nat → Option Nat} {fvv fw : Nat → Nat → Int32} {fo : Nat → Int32} {fy : Nat → Option Nat} {S : Nat → Bool} (hR : MGx G M a va oa wa ya wk th rfd br re la ha kp kv qv qw fa fb fvv fw fo fy S) {p0 : Int} (hp0 : -2147483648 ≤ p0 ∧ p0 ≤ 2147483647) {p1 : Int} (hp1 : -2147483648 ≤ p1 ∧ p1 ≤ 2147483647) : xMet l G yX5_same wsX5_same 2 44 0 0 [.ref a, .int (iN (p0)), .int (iN (p1))] M (fun r M1 => ∃ z : Int, r = some (.int (iN z)) ∧ (z = 0 ∨ z = 1) ∧ MGm G M1 a rfd S) := by
  refine x_intro (cc := cX5_same) (maxL := 3) (ret := (some .boolean)) (by decide +kernel) rfl (Nat.le_of_ble_eq_true rfl) ?_
  intro p e R s m args below meth c ls hRf hRc hRs hRl hC hw hl
  have hl : lv_has ls 3 [(0, .ref a), (1, .int (iN (p0))), (2, .int (iN (p1)))] := hl
  refine lv_aload_n hC.1 hC.2.1 dX5_same_0 rfl (lv_at hl 0 rfl) ?_
  refine lv_iload_n hC.1 hC.2.1 dX5_same_1 rfl (lv_at hl 1 rfl) ?_
  refine x_callS hC hw (lv_size hl) (c_X5_isNoBook l G (M := M) (p0 := p0) (by omega)) gX5_same_X5_isNoBook rfl dv_X5_isNoBook_s rfl (Nat.le_of_ble_eq_true rfl) (by rw [hRf]; decide) (by rw [hRl]; decide) (by omega) (by omega) dX5_same_2 (fun r9 M_1 H locs hq hw => ?_)
  obtain ⟨z_2, rfl, hM9, hz_2a, hz_2b⟩ := hq
  rw [hM9] at hw
  show W p l e R s m args below meth c H locs _ _ _ (F0 m 5 ls [.int (iN (z_2)), .ref a])
  refine x_if_ne (tgt := 15) hC ⟨by omega, by omega⟩ dX5_same_5 (by decide) (fun c_3 => ?_) (fun c_3 => ?_)
  · refine x_const hC dX5_same_15 ?_
    refine lv_goto (tgt := 20) hC.1 hC.2.1 dX5_same_16 (by decide) ?_
    refine x_const hC dX5_same_20 ?_
    refine x_callV hC hw (lv_size hl) (c_X5_start l G hR (p0 := 1) (by omega) (p1 := 1) (by omega) (by omega)) gX5_same_X5_start rfl dv_X5_start hR.1.1 rfl rfl (Nat.le_of_ble_eq_true rfl) (by rw [hRf]; decide) (by rw [hRl]; decide) (by omega) (by omega) dX5_same_21 (fun r9 M_4 H locs hq hw => ?_)
    obtain ⟨z_5, rfl, hz_5a, hz_5b, thk_6, hRk_6⟩ := hq
    show W p l e R s m args below meth c H locs _ _ _ (F0 m 24 ls [.int (iN (z_5))])
    refine x_if_ne (tgt := 40) hC ⟨by omega, by omega⟩ dX5_same_24 (by decide) (fun c_7 => ?_) (fun c_7 => ?_)
    · refine x_const hC dX5_same_40 ?_
      exact x_zret hC hw (by omega) dX5_same_41 (by omega) (by omega) ⟨0, rfl, by omega, ⟨_, _, _, _, _, _, _, _, _, _, _, _, _, _, _, _, _, _, _, _, hRk_6⟩⟩
    · refine lv_aload_n hC.1 hC.2.1 dX5_same_27 rfl (lv_at hl 0 rfl) ?_
      refine lv_iload_n hC.1 hC.2.1 dX5_same_28 rfl (lv_at hl 1 rfl) ?_
      refine lv_iload_n hC.1 hC.2.1 dX5_same_29 rfl (lv_at hl 2 rfl) ?_
      refine x_callV hC hw (lv_size hl) (c_X5_areSame l G hRk_6 (p0 := p0) (by omega) (p1 := p1) (by omega) (by omega) (by omega)) gX5_same_X5_areSame rfl dv_X5_areSame hRk_6.1.1 rfl rfl (Nat.le_of_ble_eq_true rfl) (by rw [hRf]; decide) (by rw [hRl]; decide) (by omega) (by omega) dX5_same_30 (fun r9 M_8 H locs hq hw => ?_)
      obtain ⟨z_9, rfl, hM9, hz_9a⟩ := hq
      rw [hM9] at hw
      show W p l e R s m args below meth c H locs _ _ _ (F0 m 33 ls [.int (iN (z_9))])
      refine x_if_eq (tgt := 40) hC ⟨by omega, by omega⟩ dX5_same_33 (by decide) (fun c_10 => ?_) (fun c_10 => ?_)
      · refine x_const hC dX5_same_40 ?_
        exact x_zret hC hw (by omega) dX5_same_41 (by omega) (by omega) ⟨0, rfl, by omega, ⟨_, _, _, _, _, _, _, _, _, _, _, _, _, _, _, _, _, _, _, _, hRk_6⟩⟩
      · refine x_const hC dX5_same_36 ?_
        refine lv_goto (tgt := 41) hC.1 hC.2.1 dX5_same_37 (by decide) ?_
        exact x_zret hC hw (by omega) dX5_same_41 (by omega) (by omega) ⟨1, rfl, by omega, ⟨_, _, _, _, _, _, _, _, _, _, _, _, _, _, _, _, _, _, _, _, hRk_6⟩⟩
  · refine lv_iload_n hC.1 hC.2.1 dX5_same_8 rfl (lv_at hl 2 rfl) ?_
    refine x_callS hC hw (lv_size hl) (c_X5_isNoBook l G (M := M) (p0 := p1) (by omega)) gX5_same_X5_isNoBook rfl dv_X5_isNoBook_s rfl (Nat.le_of_ble_eq_true rfl) (by rw [hRf]; decide) (by rw [hRl]; decide) (by omega) (by omega) dX5_same_9 (fun r9 M_11 H locs hq hw => ?_)
    obtain ⟨z_12, rfl, hM9, hz_12a, hz_12b⟩ := hq
    rw [hM9] at hw
    show W p l e R s m args below meth c H locs _ _ _ (F0 m 12 ls [.int (iN (z_12)), .ref a])
    refine x_if_eq (tgt := 19) hC ⟨by omega, by omega⟩ dX5_same_12 (by decide) (fun c_13 => ?_) (fun c_13 => ?_)
    · refine x_const hC dX5_same_19 ?_
      refine x_const hC dX5_same_20 ?_
      refine x_callV hC hw (lv_size hl) (c_X5_start l G hR (p0 := 0) (by omega) (p1 := 1) (by omega) (by omega)) gX5_same_X5_start rfl dv_X5_start hR.1.1 rfl rfl (Nat.le_of_ble_eq_true rfl) (by rw [hRf]; decide) (by rw [hRl]; decide) (by omega) (by omega) dX5_same_21 (fun r9 M_14 H locs hq hw => ?_)
      obtain ⟨z_15, rfl, hz_15a, hz_15b, thk_16, hRk_16⟩ := hq
      show W p l e R s m args below meth c H locs _ _ _ (F0 m 24 ls [.int (iN (z_15))])
      refine x_if_ne (tgt := 40) hC ⟨by omega, by omega⟩ dX5_same_24 (by decide) (fun c_17 => ?_) (fun c_17 => ?_)
      · refine x_const hC dX5_same_40 ?_
        exact x_zret hC hw (by omega) dX5_same_41 (by omega) (by omega) ⟨0, rfl, by omega, ⟨_, _, _, _, _, _, _, _, _, _, _, _, _, _, _, _, _, _, _, _, hRk_16⟩⟩
      · refine lv_aload_n hC.1 hC.2.1 dX5_same_27 rfl (lv_at hl 0 rfl) ?_
        refine lv_iload_n hC.1 hC.2.1 dX5_same_28 rfl (lv_at hl 1 rfl) ?_
        refine lv_iload_n hC.1 hC.2.1 dX5_same_29 rfl (lv_at hl 2 rfl) ?_
        refine x_callV hC hw (lv_size hl) (c_X5_areSame l G hRk_16 (p0 := p0) (by omega) (p1 := p1) (by omega) (by omega) (by omega)) gX5_same_X5_areSame rfl dv_X5_areSame hRk_16.1.1 rfl rfl (Nat.le_of_ble_eq_true rfl) (by rw [hRf]; decide) (by rw [hRl]; decide) (by omega) (by omega) dX5_same_30 (fun r9 M_18 H locs hq hw => ?_)
        obtain ⟨z_19, rfl, hM9, hz_19a⟩ := hq
        rw [hM9] at hw
        show W p l e R s m args below meth c H locs _ _ _ (F0 m 33 ls [.int (iN (z_19))])
        refine x_if_eq (tgt := 40) hC ⟨by omega, by omega⟩ dX5_same_33 (by decide) (fun c_20 => ?_) (fun c_20 => ?_)
        · refine x_const hC dX5_same_40 ?_
          exact x_zret hC hw (by omega) dX5_same_41 (by omega) (by omega) ⟨0, rfl, by omega, ⟨_, _, _, _, _, _, _, _, _, _, _, _, _, _, _, _, _, _, _, _, hRk_16⟩⟩
        · refine x_const hC dX5_same_36 ?_
          refine lv_goto (tgt := 41) hC.1 hC.2.1 dX5_same_37 (by decide) ?_
          exact x_zret hC hw (by omega) dX5_same_41 (by omega) (by omega) ⟨1, rfl, by omega, ⟨_, _, _, _, _, _, _, _, _, _, _, _, _, _, _, _, _, _, _, _, hRk_16⟩⟩
    · refine x_const hC dX5_same_15 ?_
      refine lv_goto (tgt := 20) hC.1 hC.2.1 dX5_same_16 (by decide) ?_
      refine x_const hC dX5_same_20 ?_
      refine x_callV hC hw (lv_size hl) (c_X5_start l G hR (p0 := 1) (by omega) (p1 := 1) (by omega) (by omega)) gX5_same_X5_start rfl dv_X5_start hR.1.1 rfl rfl (Nat.le_of_ble_eq_true rfl) (by rw [hRf]; decide) (by rw [hRl]; decide) (by omega) (by omega) dX5_same_21 (fun r9 M_21 H locs hq hw => ?_)
      obtain ⟨z_22, rfl, hz_22a, hz_22b, thk_23, hRk_23⟩ := hq
      show W p l e R s m args below meth c H locs _ _ _ (F0 m 24 ls [.int (iN (z_22))])
      refine x_if_ne (tgt := 40) hC ⟨by omega, by omega⟩ dX5_same_24 (by decide) (fun c_24 => ?_) (fun c_24 => ?_)
      · refine x_const hC dX5_same_40 ?_
        exact x_zret hC hw (by omega) dX5_same_41 (by omega) (by omega) ⟨0, rfl, by omega, ⟨_, _, _, _, _, _, _, _, _, _, _, _, _, _, _, _, _, _, _, _, hRk_23⟩⟩
      · refine lv_aload_n hC.1 hC.2.1 dX5_same_27 rfl (lv_at hl 0 rfl) ?_
        refine lv_iload_n hC.1 hC.2.1 dX5_same_28 rfl (lv_at hl 1 rfl) ?_
        refine lv_iload_n hC.1 hC.2.1 dX5_same_29 rfl (lv_at hl 2 rfl) ?_
        refine x_callV hC hw (lv_size hl) (c_X5_areSame l G hRk_23 (p0 := p0) (by omega) (p1 := p1) (by omega) (by omega) (by omega)) gX5_same_X5_areSame rfl dv_X5_areSame hRk_23.1.1 rfl rfl (Nat.le_of_ble_eq_true rfl) (by rw [hRf]; decide) (by rw [hRl]; decide) (by omega) (by omega) dX5_same_30 (fun r9 M_25 H locs hq hw => ?_)
        obtain ⟨z_26, rfl, hM9, hz_26a⟩ := hq
        rw [hM9] at hw
        show W p l e R s m args below meth c H locs _ _ _ (F0 m 33 ls [.int (iN (z_26))])
        refine x_if_eq (tgt := 40) hC ⟨by omega, by omega⟩ dX5_same_33 (by decide) (fun c_27 => ?_) (fun c_27 => ?_)
        · refine x_const hC dX5_same_40 ?_
          exact x_zret hC hw (by omega) dX5_same_41 (by omega) (by omega) ⟨0, rfl, by omega, ⟨_, _, _, _, _, _, _, _, _, _, _, _, _, _, _, _, _, _, _, _, hRk_23⟩⟩
        · refine x_const hC dX5_same_36 ?_
          refine lv_goto (tgt := 41) hC.1 hC.2.1 dX5_same_37 (by decide) ?_
          exact x_zret hC hw (by omega) dX5_same_41 (by omega) (by omega) ⟨1, rfl, by omega, ⟨_, _, _, _, _, _, _, _, _, _, _, _, _, _, _, _, _, _, _, _, hRk_23⟩⟩
set_option maxHeartbeats 4000000 in
set_option maxRecDepth 100000 in
theorem c_X5_viewGet (l : Launch) (G : xG) {M : HM} {a va oa wa ya : Nat} {wk : Option Nat} {th rfd br re la ha kp kv : Int32} {qv qw : Nat → Nat} {fa fb : Nat → Option Nat} {fvv fw : Nat → Nat → Int32} {fo : Nat → Int32} {fy : Nat → Option Nat} {S : Nat → Bool} (hR : MGx G M a va oa wa ya wk th rfd br re la ha kp kv qv qw fa fb fvv fw fo fy S) {p0 : Int} (hp0 : -2147483648 ≤ p0 ∧ p0 ≤ 2147483647) {p1 : Int} (hp1 : -2147483648 ≤ p1 ∧ p1 ≤ 2147483647) : xMet l G yX5_viewGet wsX5_viewGet 3 67 0 0 [.ref a, .int (iN (p0)), .int (iN (p1))] M (fun r M1 => ∃ z : Int, r = some (.int (iN z)) ∧ (-2147483648 ≤ z ∧ z ≤ 2147483647) ∧ MGm G M1 a rfd S) := by
  refine x_intro (cc := cX5_viewGet) (maxL := 3) (ret := (some .int)) (by decide +kernel) rfl (Nat.le_of_ble_eq_true rfl) ?_
  intro p e R s m args below meth c ls hRf hRc hRs hRl hC hw hl
  have hinX5 : ∀ w ∈ wsX50, w ∈ wsX5_viewGet := by decide +kernel
  have hl : lv_has ls 3 [(0, .ref a), (1, .int (iN (p0))), (2, .int (iN (p1)))] := hl
  refine lv_aload_n hC.1 hC.2.1 dX5_viewGet_0 rfl (lv_at hl 0 rfl) ?_
  refine lv_aload_n hC.1 hC.2.1 dX5_viewGet_1 rfl (lv_at hl 0 rfl) ?_
  refine lv_iload_n hC.1 hC.2.1 dX5_viewGet_2 rfl (lv_at hl 1 rfl) ?_
  refine x_callV hC hw (lv_size hl) (c_X5_isNoView l G hR (p0 := p0) (by omega)) gX5_viewGet_X5_isNoView rfl dv_X5_isNoView hR.1.1 rfl rfl (Nat.le_of_ble_eq_true rfl) (by rw [hRf]; decide) (by rw [hRl]; decide) (by omega) (by omega) dX5_viewGet_3 (fun r9 M_1 H locs hq hw => ?_)
  obtain ⟨z_2, rfl, hM9, hz_2a, hz_2b, hz_2n⟩ := hq
  rw [hM9] at hw
  show W p l e R s m args below meth c H locs _ _ _ (F0 m 6 ls [.int (iN (z_2)), .ref a])
  refine x_const hC dX5_viewGet_6 ?_
  refine x_callV hC hw (lv_size hl) (c_X5_start l G hR (p0 := z_2) (by omega) (p1 := 1) (by omega) (by omega)) gX5_viewGet_X5_start rfl dv_X5_start hR.1.1 rfl rfl (Nat.le_of_ble_eq_true rfl) (by rw [hRf]; decide) (by rw [hRl]; decide) (by omega) (by omega) dX5_viewGet_7 (fun r9 M_3 H locs hq hw => ?_)
  obtain ⟨z_4, rfl, hz_4a, hz_4b, thk_5, hRk_5⟩ := hq
  show W p l e R s m args below meth c H locs _ _ _ (F0 m 10 ls [.int (iN (z_4))])
  refine x_if_ne (tgt := 25) hC ⟨by omega, by omega⟩ dX5_viewGet_10 (by decide) (fun c_6 => ?_) (fun c_6 => ?_)
  · refine x_const hC dX5_viewGet_25 ?_
    exact x_iret hC hw dX5_viewGet_26 (by omega) (by omega) ⟨0, rfl, by omega, ⟨_, _, _, _, _, _, _, _, _, _, _, _, _, _, _, _, _, _, _, _, hRk_5⟩⟩
  · refine lv_aload_n hC.1 hC.2.1 dX5_viewGet_13 rfl (lv_at hl 0 rfl) ?_
    refine lv_iload_n hC.1 hC.2.1 dX5_viewGet_14 rfl (lv_at hl 2 rfl) ?_
    refine x_callS hC hw (lv_size hl) (c_X5_isNoKey l G (M := M_3) (p0 := p1) (by omega)) gX5_viewGet_X5_isNoKey rfl dv_X5_isNoKey_s rfl (Nat.le_of_ble_eq_true rfl) (by rw [hRf]; decide) (by rw [hRl]; decide) (by omega) (by omega) dX5_viewGet_15 (fun r9 M_7 H locs hq hw => ?_)
    obtain ⟨z_8, rfl, hM9, hz_8a, hz_8b⟩ := hq
    rw [hM9] at hw
    show W p l e R s m args below meth c H locs _ _ _ (F0 m 18 ls [.int (iN (z_8)), .ref a])
    refine x_const hC dX5_viewGet_18 ?_
    refine x_callV hC hw (lv_size hl) (c_X5_refuse l G hRk_5 (p0 := z_8) (by omega) (p1 := 2) (by omega) (by omega)) gX5_viewGet_X5_refuse rfl dv_X5_refuse hRk_5.1.1 rfl rfl (Nat.le_of_ble_eq_true rfl) (by rw [hRf]; decide) (by rw [hRl]; decide) (by omega) (by omega) dX5_viewGet_19 (fun r9 M_9 H locs hq hw => ?_)
    obtain ⟨z_10, rfl, hz_10a, hz_10b, thk_11, hRk_11⟩ := hq
    show W p l e R s m args below meth c H locs _ _ _ (F0 m 22 ls [.int (iN (z_10))])
    refine x_if_eq (tgt := 27) hC ⟨by omega, by omega⟩ dX5_viewGet_22 (by decide) (fun c_12 => ?_) (fun c_12 => ?_)
    · refine lv_aload_n hC.1 hC.2.1 dX5_viewGet_27 rfl (lv_at hl 0 rfl) ?_
      refine lv_aload_n hC.1 hC.2.1 dX5_viewGet_28 rfl (lv_at hl 0 rfl) ?_
      refine x_get hC hw hRk_11.1.1 rfl hinX5 5 (by decide) (by decide +kernel) rfl dX5_viewGet_29 ?_
      refine lv_iload_n hC.1 hC.2.1 dX5_viewGet_32 rfl (lv_at hl 1 rfl) ?_
      refine x_ald4 hC hw hRk_11.1.2.2.2.2.1 (by omega) (by omega) (by omega) dX5_viewGet_33 ?_
      obtain ⟨y_13, hy_14⟩ := x_some (hz_2n (by omega))
      rw [hy_14]
      obtain ⟨fi_15, hIi_15⟩ := (hRk_11.vw (show (p0).toNat < 4 by omega) hy_14)
      obtain ⟨hvt_16, hat_16, hbt_16, hct_16, hdt_16, het_16⟩ := id hIi_15
      show W p l e R s m args below meth c _ _ _ _ _ (F0 m 34 ls [.ref y_13, .ref a])
      refine lv_iload_n hC.1 hC.2.1 dX5_viewGet_34 rfl (lv_at hl 2 rfl) ?_
      refine x_callV hC hw (lv_size hl) (c_X5_shows l G hRk_11 hIi_15 (p0 := p1) (by omega) (by omega)) gX5_viewGet_X5_shows rfl dv_X5_shows hRk_11.1.1 rfl rfl (Nat.le_of_ble_eq_true rfl) (by rw [hRf]; decide) (by rw [hRl]; decide) (by omega) (by omega) dX5_viewGet_35 (fun r9 M_17 H locs hq hw => ?_)
      obtain ⟨z_18, rfl, hM9, hz_18a, hz_18S⟩ := hq
      rw [hM9] at hw
      show W p l e R s m args below meth c H locs _ _ _ (F0 m 38 ls [.int (iN (z_18))])
      refine x_if_eq (tgt := 59) hC ⟨by omega, by omega⟩ dX5_viewGet_38 (by decide) (fun c_19 => ?_) (fun c_19 => ?_)
      · refine x_sipush hC dX5_viewGet_59 (by decide +kernel) ?_
        exact x_iret hC hw dX5_viewGet_62 (by omega) (by omega) ⟨(-10000), rfl, by omega, ⟨_, _, _, _, _, _, _, _, _, _, _, _, _, _, _, _, _, _, _, _, hRk_11⟩⟩
      · refine lv_aload_n hC.1 hC.2.1 dX5_viewGet_41 rfl (lv_at hl 0 rfl) ?_
        refine x_get hC hw hRk_11.1.1 rfl hinX5 2 (by decide) (by decide +kernel) rfl dX5_viewGet_42 ?_
        refine lv_aload_n hC.1 hC.2.1 dX5_viewGet_45 rfl (lv_at hl 0 rfl) ?_
        refine x_get hC hw hRk_11.1.1 rfl hinX5 5 (by decide) (by decide +kernel) rfl dX5_viewGet_46 ?_
        refine lv_iload_n hC.1 hC.2.1 dX5_viewGet_49 rfl (lv_at hl 1 rfl) ?_
        refine x_ald4 hC hw hRk_11.1.2.2.2.2.1 (by omega) (by omega) (by omega) dX5_viewGet_50 ?_
        rw [hy_14]
        show W p l e R s m args below meth c _ _ _ _ _ (F0 m 51 ls [.ref y_13, .ref va])
        refine x_const hC dX5_viewGet_51 ?_
        refine x_iald hC hw hIi_15.1 (by omega) (by omega) (by omega) dX5_viewGet_52 ?_
        obtain ⟨z_20, hz_20⟩ : ∃ z : Int, z = (fi_15 (0 : Int).toNat).toInt := ⟨_, rfl⟩
        rw [← hz_20]
        have hz_20' : z_20 = (fi_15 0).toInt := hz_20
        have hrz_20 : -2147483648 ≤ z_20 ∧ z_20 ≤ 2147483647 := by rw [hz_20]; exact iN_rng _
        refine x_ald4 hC hw hRk_11.1.2.1 (by omega) (by omega) (by omega) dX5_viewGet_53 ?_
        rw [hRk_11.fa' (show (z_20).toNat < 3 by omega)]
        show W p l e R s m args below meth c _ _ _ _ _ (F0 m 54 ls [.ref (qv (z_20).toNat)])
        refine lv_iload_n hC.1 hC.2.1 dX5_viewGet_54 rfl (lv_at hl 2 rfl) ?_
        refine x_iald hC hw (hRk_11.rv (show (z_20).toNat < 3 by omega)) (by omega) (by omega) (by omega) dX5_viewGet_55 ?_
        obtain ⟨z_21, hz_21⟩ : ∃ z : Int, z = ((fvv (z_20).toNat) (p1).toNat).toInt := ⟨_, rfl⟩
        rw [← hz_21]
        have hrz_21 : -10000 ≤ z_21 ∧ z_21 ≤ 9999 := by rw [hz_21]; exact hRk_11.vr (by omega) (by omega)
        have hpz_21 : z_21 ≠ -10000 → S (p1).toNat = true := by rw [hz_21]; exact hRk_11.vs (by omega) (by omega)
        refine lv_goto (tgt := 62) hC.1 hC.2.1 dX5_viewGet_56 (by decide) ?_
        exact x_iret hC hw dX5_viewGet_62 (by omega) (by omega) ⟨z_21, rfl, by omega, ⟨_, _, _, _, _, _, _, _, _, _, _, _, _, _, _, _, _, _, _, _, hRk_11⟩⟩
    · refine x_const hC dX5_viewGet_25 ?_
      exact x_iret hC hw dX5_viewGet_26 (by omega) (by omega) ⟨0, rfl, by omega, ⟨_, _, _, _, _, _, _, _, _, _, _, _, _, _, _, _, _, _, _, _, hRk_11⟩⟩
set_option maxHeartbeats 4000000 in
set_option maxRecDepth 100000 in
theorem c_X5_viewTold (l : Launch) (G : xG) {M : HM} {a va oa wa ya : Nat} {wk : Option Nat} {th rfd br re la ha kp kv : Int32} {qv qw : Nat → Nat} {fa fb : Nat → Option Nat} {fvv fw : Nat → Nat → Int32} {fo : Nat → Int32} {fy : Nat → Option Nat} {S : Nat → Bool} (hR : MGx G M a va oa wa ya wk th rfd br re la ha kp kv qv qw fa fb fvv fw fo fy S) {p0 : Int} (hp0 : -2147483648 ≤ p0 ∧ p0 ≤ 2147483647) {p1 : Int} (hp1 : -2147483648 ≤ p1 ∧ p1 ≤ 2147483647) (hob : 0 ≤ p0 ∧ p0 ≤ 3) (hnn : fy p0.toNat ≠ none) : xMet l G yX5_viewTold wsX5_viewTold 5 115 0 0 [.ref a, .int (iN (p0)), .int (iN (p1))] M (fun r M1 => ∃ z : Int, r = some (.int (iN z)) ∧ M1 = M ∧ (-2147483648 ≤ z ∧ z ≤ 2147483647)) := by
  refine x_intro (cc := cX5_viewTold) (maxL := 4) (ret := (some .int)) (by decide +kernel) rfl (Nat.le_of_ble_eq_true rfl) ?_
  intro p e R s m args below meth c ls hRf hRc hRs hRl hC hw hl
  have hn0 : (0 : Int) = 0 → fy (p0).toNat ≠ none := fun _ => hnn
  have hinX5 : ∀ w ∈ wsX50, w ∈ wsX5_viewTold := by decide +kernel
  have hl : lv_has ls 4 [(0, .ref a), (1, .int (iN (p0))), (2, .int (iN (p1)))] := hl
  refine lv_aload_n hC.1 hC.2.1 dX5_viewTold_0 rfl (lv_at hl 0 rfl) ?_
  refine x_get hC hw hR.1.1 rfl hinX5 5 (by decide) (by decide +kernel) rfl dX5_viewTold_1 ?_
  refine lv_iload_n hC.1 hC.2.1 dX5_viewTold_4 rfl (lv_at hl 1 rfl) ?_
  refine x_ald4 hC hw hR.1.2.2.2.2.1 (by omega) (by omega) (by omega) dX5_viewTold_5 ?_
  obtain ⟨y_1, hy_2⟩ := x_some (hn0 (by omega))
  rw [hy_2]
  obtain ⟨fi_3, hIi_3⟩ := (hR.vw (show (p0).toNat < 4 by omega) hy_2)
  obtain ⟨hvt_4, hat_4, hbt_4, hct_4, hdt_4, het_4⟩ := id hIi_3
  show W p l e R s m args below meth c _ _ _ _ _ (F0 m 6 ls [.ref y_1])
  refine lv_astore_n (lv' := [(3, .ref y_1), (0, .ref a), (1, .int (iN (p0))), (2, .int (iN (p1)))]) hC.1 hC.2.1 dX5_viewTold_6 rfl hl (by decide) rfl (fun ls hl => ?_)
  refine lv_iload_n hC.1 hC.2.1 dX5_viewTold_7 rfl (lv_at hl 3 rfl) ?_
  by_cases c_5 : p1 = 0
  · refine x_tsw (off := 48) (tgt := 56) (k := 0) hC (by omega) dX5_viewTold_8 (by decide) (by decide) rfl (by decide) ?_
    refine lv_aload_n hC.1 hC.2.1 dX5_viewTold_56 rfl (lv_at hl 1 rfl) ?_
    refine lv_aload_n hC.1 hC.2.1 dX5_viewTold_57 rfl (lv_at hl 0 rfl) ?_
    refine x_callV hC hw (lv_size hl) (c_X5_many l G hR hIi_3) gX5_viewTold_X5_many rfl dv_X5_many hR.1.1 rfl rfl (Nat.le_of_ble_eq_true rfl) (by rw [hRf]; decide) (by rw [hRl]; decide) (by omega) (by omega) dX5_viewTold_58 (fun r9 M_6 H locs hq hw => ?_)
    obtain ⟨z_7, rfl, hM9, hz_7a⟩ := hq
    rw [hM9] at hw
    show W p l e R s m args below meth c H locs _ _ _ (F0 m 61 ls [.int (iN (z_7))])
    exact x_iret hC hw dX5_viewTold_61 (by omega) (by omega) ⟨z_7, rfl, rfl, by omega⟩
  by_cases c_8 : p1 = 1
  · refine x_tsw (off := 54) (tgt := 62) (k := 1) hC (by omega) dX5_viewTold_8 (by decide) (by decide) rfl (by decide) ?_
    refine lv_aload_n hC.1 hC.2.1 dX5_viewTold_62 rfl (lv_at hl 0 rfl) ?_
    refine x_const hC dX5_viewTold_63 ?_
    refine x_iald hC hw hIi_3.1 (by omega) (by omega) (by omega) dX5_viewTold_64 ?_
    obtain ⟨z_9, hz_9⟩ : ∃ z : Int, z = (fi_3 (0 : Int).toNat).toInt := ⟨_, rfl⟩
    rw [← hz_9]
    have hz_9' : z_9 = (fi_3 0).toInt := hz_9
    have hrz_9 : -2147483648 ≤ z_9 ∧ z_9 ≤ 2147483647 := by rw [hz_9]; exact iN_rng _
    exact x_iret hC hw dX5_viewTold_65 (by omega) (by omega) ⟨z_9, rfl, rfl, by omega⟩
  by_cases c_10 : p1 = 2
  · refine x_tsw (off := 58) (tgt := 66) (k := 2) hC (by omega) dX5_viewTold_8 (by decide) (by decide) rfl (by decide) ?_
    refine lv_aload_n hC.1 hC.2.1 dX5_viewTold_66 rfl (lv_at hl 0 rfl) ?_
    refine x_const hC dX5_viewTold_67 ?_
    refine x_iald hC hw hIi_3.1 (by omega) (by omega) (by omega) dX5_viewTold_68 ?_
    obtain ⟨z_11, hz_11⟩ : ∃ z : Int, z = (fi_3 (1 : Int).toNat).toInt := ⟨_, rfl⟩
    rw [← hz_11]
    have hz_11' : z_11 = (fi_3 1).toInt := hz_11
    have hrz_11 : -2147483648 ≤ z_11 ∧ z_11 ≤ 2147483647 := by rw [hz_11]; exact iN_rng _
    exact x_iret hC hw dX5_viewTold_69 (by omega) (by omega) ⟨z_11, rfl, rfl, by omega⟩
  by_cases c_12 : p1 = 3
  · refine x_tsw (off := 62) (tgt := 70) (k := 3) hC (by omega) dX5_viewTold_8 (by decide) (by decide) rfl (by decide) ?_
    refine lv_aload_n hC.1 hC.2.1 dX5_viewTold_70 rfl (lv_at hl 0 rfl) ?_
    refine x_const hC dX5_viewTold_71 ?_
    refine x_iald hC hw hIi_3.1 (by omega) (by omega) (by omega) dX5_viewTold_72 ?_
    obtain ⟨z_13, hz_13⟩ : ∃ z : Int, z = (fi_3 (3 : Int).toNat).toInt := ⟨_, rfl⟩
    rw [← hz_13]
    have hz_13' : z_13 = (fi_3 3).toInt := hz_13
    have hrz_13 : -2147483648 ≤ z_13 ∧ z_13 ≤ 2147483647 := by rw [hz_13]; exact iN_rng _
    exact x_iret hC hw dX5_viewTold_73 (by omega) (by omega) ⟨z_13, rfl, rfl, by omega⟩
  by_cases c_14 : p1 = 4
  · refine x_tsw (off := 66) (tgt := 74) (k := 4) hC (by omega) dX5_viewTold_8 (by decide) (by decide) rfl (by decide) ?_
    refine lv_aload_n hC.1 hC.2.1 dX5_viewTold_74 rfl (lv_at hl 0 rfl) ?_
    refine x_const hC dX5_viewTold_75 ?_
    refine x_iald hC hw hIi_3.1 (by omega) (by omega) (by omega) dX5_viewTold_76 ?_
    obtain ⟨z_15, hz_15⟩ : ∃ z : Int, z = (fi_3 (2 : Int).toNat).toInt := ⟨_, rfl⟩
    rw [← hz_15]
    have hz_15' : z_15 = (fi_3 2).toInt := hz_15
    have hrz_15 : -2147483648 ≤ z_15 ∧ z_15 ≤ 2147483647 := by rw [hz_15]; exact iN_rng _
    exact x_iret hC hw dX5_viewTold_77 (by omega) (by omega) ⟨z_15, rfl, rfl, by omega⟩
  by_cases c_16 : p1 = 5
  · refine x_tsw (off := 70) (tgt := 78) (k := 5) hC (by omega) dX5_viewTold_8 (by decide) (by decide) rfl (by decide) ?_
    refine lv_aload_n hC.1 hC.2.1 dX5_viewTold_78 rfl (lv_at hl 0 rfl) ?_
    refine x_const hC dX5_viewTold_79 ?_
    refine x_iald hC hw hIi_3.1 (by omega) (by omega) (by omega) dX5_viewTold_80 ?_
    obtain ⟨z_17, hz_17⟩ : ∃ z : Int, z = (fi_3 (4 : Int).toNat).toInt := ⟨_, rfl⟩
    rw [← hz_17]
    have hz_17' : z_17 = (fi_3 4).toInt := hz_17
    have hrz_17 : -2147483648 ≤ z_17 ∧ z_17 ≤ 2147483647 := by rw [hz_17]; exact iN_rng _
    exact x_iret hC hw dX5_viewTold_81 (by omega) (by omega) ⟨z_17, rfl, rfl, by omega⟩
  by_cases c_18 : p1 = 6
  · refine x_tsw (off := 74) (tgt := 82) (k := 6) hC (by omega) dX5_viewTold_8 (by decide) (by decide) rfl (by decide) ?_
    refine lv_aload_n hC.1 hC.2.1 dX5_viewTold_82 rfl (lv_at hl 1 rfl) ?_
    refine lv_aload_n hC.1 hC.2.1 dX5_viewTold_83 rfl (lv_at hl 0 rfl) ?_
    refine x_const hC dX5_viewTold_84 ?_
    refine x_callV hC hw (lv_size hl) (c_X5_end l G hR hIi_3 (p0 := 0) (by omega)) gX5_viewTold_X5_end rfl dv_X5_end hR.1.1 rfl rfl (Nat.le_of_ble_eq_true rfl) (by rw [hRf]; decide) (by rw [hRl]; decide) (by omega) (by omega) dX5_viewTold_85 (fun r9 M_19 H locs hq hw => ?_)
    obtain ⟨z_20, rfl, hM9, hz_20a, hz_20S⟩ := hq
    rw [hM9] at hw
    show W p l e R s m args below meth c H locs _ _ _ (F0 m 88 ls [.int (iN (z_20))])
    exact x_iret hC hw dX5_viewTold_88 (by omega) (by omega) ⟨z_20, rfl, rfl, by omega⟩
  by_cases c_21 : p1 = 7
  · refine x_tsw (off := 81) (tgt := 89) (k := 7) hC (by omega) dX5_viewTold_8 (by decide) (by decide) rfl (by decide) ?_
    refine lv_aload_n hC.1 hC.2.1 dX5_viewTold_89 rfl (lv_at hl 1 rfl) ?_
    refine lv_aload_n hC.1 hC.2.1 dX5_viewTold_90 rfl (lv_at hl 0 rfl) ?_
    refine x_const hC dX5_viewTold_91 ?_
    refine x_callV hC hw (lv_size hl) (c_X5_end l G hR hIi_3 (p0 := 1) (by omega)) gX5_viewTold_X5_end rfl dv_X5_end hR.1.1 rfl rfl (Nat.le_of_ble_eq_true rfl) (by rw [hRf]; decide) (by rw [hRl]; decide) (by omega) (by omega) dX5_viewTold_92 (fun r9 M_22 H locs hq hw => ?_)
    obtain ⟨z_23, rfl, hM9, hz_23a, hz_23S⟩ := hq
    rw [hM9] at hw
    show W p l e R s m args below meth c H locs _ _ _ (F0 m 95 ls [.int (iN (z_23))])
    exact x_iret hC hw dX5_viewTold_95 (by omega) (by omega) ⟨z_23, rfl, rfl, by omega⟩
  refine x_tswd (tgt := 96) hC ⟨by omega, by omega⟩ dX5_viewTold_8 (by omega) (by decide) ?_
  refine lv_aload_n hC.1 hC.2.1 dX5_viewTold_96 rfl (lv_at hl 1 rfl) ?_
  refine lv_aload_n hC.1 hC.2.1 dX5_viewTold_97 rfl (lv_at hl 0 rfl) ?_
  refine x_callV hC hw (lv_size hl) (c_X5_sum l G hR hIi_3) gX5_viewTold_X5_sum rfl dv_X5_sum hR.1.1 rfl rfl (Nat.le_of_ble_eq_true rfl) (by rw [hRf]; decide) (by rw [hRl]; decide) (by omega) (by omega) dX5_viewTold_98 (fun r9 M_24 H locs hq hw => ?_)
  obtain ⟨z_25, rfl, hM9, hz_25a⟩ := hq
  rw [hM9] at hw
  show W p l e R s m args below meth c H locs _ _ _ (F0 m 101 ls [.int (iN (z_25))])
  exact x_iret hC hw dX5_viewTold_101 (by omega) (by omega) ⟨z_25, rfl, rfl, by omega⟩
set_option maxHeartbeats 4000000 in
set_option maxRecDepth 100000 in
theorem c_X5_ofView (l : Launch) (G : xG) {M : HM} {a va oa wa ya : Nat} {wk : Option Nat} {th rfd br re la ha kp kv : Int32} {qv qw : Nat → Nat} {fa fb : Nat → Option Nat} {fvv fw : Nat → Nat → Int32} {fo : Nat → Int32} {fy : Nat → Option Nat} {S : Nat → Bool} (hR : MGx G M a va oa wa ya wk th rfd br re la ha kp kv qv qw fa fb fvv fw fo fy S) {p0 : Int} (hp0 : -2147483648 ≤ p0 ∧ p0 ≤ 2147483647) {p1 : Int} (hp1 : -2147483648 ≤ p1 ∧ p1 ≤ 2147483647) : xMet l G yX5_ofView wsX5_ofView 6 138 0 0 [.ref a, .int (iN (p0)), .int (iN (p1))] M (fun r M1 => ∃ z : Int, r = some (.int (iN z)) ∧ (-2147483648 ≤ z ∧ z ≤ 2147483647) ∧ MGm G M1 a rfd S) := by
  refine x_intro (cc := cX5_ofView) (maxL := 3) (ret := (some .int)) (by decide +kernel) rfl (Nat.le_of_ble_eq_true rfl) ?_
  intro p e R s m args below meth c ls hRf hRc hRs hRl hC hw hl
  have hl : lv_has ls 3 [(0, .ref a), (1, .int (iN (p0))), (2, .int (iN (p1)))] := hl
  refine lv_aload_n hC.1 hC.2.1 dX5_ofView_0 rfl (lv_at hl 0 rfl) ?_
  refine lv_aload_n hC.1 hC.2.1 dX5_ofView_1 rfl (lv_at hl 0 rfl) ?_
  refine lv_iload_n hC.1 hC.2.1 dX5_ofView_2 rfl (lv_at hl 1 rfl) ?_
  refine x_callV hC hw (lv_size hl) (c_X5_isNoView l G hR (p0 := p0) (by omega)) gX5_ofView_X5_isNoView rfl dv_X5_isNoView hR.1.1 rfl rfl (Nat.le_of_ble_eq_true rfl) (by rw [hRf]; decide) (by rw [hRl]; decide) (by omega) (by omega) dX5_ofView_3 (fun r9 M_1 H locs hq hw => ?_)
  obtain ⟨z_2, rfl, hM9, hz_2a, hz_2b, hz_2n⟩ := hq
  rw [hM9] at hw
  show W p l e R s m args below meth c H locs _ _ _ (F0 m 6 ls [.int (iN (z_2)), .ref a])
  refine x_const hC dX5_ofView_6 ?_
  refine x_callV hC hw (lv_size hl) (c_X5_start l G hR (p0 := z_2) (by omega) (p1 := 1) (by omega) (by omega)) gX5_ofView_X5_start rfl dv_X5_start hR.1.1 rfl rfl (Nat.le_of_ble_eq_true rfl) (by rw [hRf]; decide) (by rw [hRl]; decide) (by omega) (by omega) dX5_ofView_7 (fun r9 M_3 H locs hq hw => ?_)
  obtain ⟨z_4, rfl, hz_4a, hz_4b, thk_5, hRk_5⟩ := hq
  show W p l e R s m args below meth c H locs _ _ _ (F0 m 10 ls [.int (iN (z_4))])
  refine x_if_ne (tgt := 36) hC ⟨by omega, by omega⟩ dX5_ofView_10 (by decide) (fun c_6 => ?_) (fun c_6 => ?_)
  · refine x_const hC dX5_ofView_36 ?_
    refine lv_goto (tgt := 46) hC.1 hC.2.1 dX5_ofView_37 (by decide) ?_
    exact x_iret hC hw dX5_ofView_46 (by omega) (by omega) ⟨0, rfl, by omega, ⟨_, _, _, _, _, _, _, _, _, _, _, _, _, _, _, _, _, _, _, _, hRk_5⟩⟩
  · refine lv_aload_n hC.1 hC.2.1 dX5_ofView_13 rfl (lv_at hl 0 rfl) ?_
    refine lv_iload_n hC.1 hC.2.1 dX5_ofView_14 rfl (lv_at hl 2 rfl) ?_
    refine x_const hC dX5_ofView_15 ?_
    refine x_bipush hC dX5_ofView_16 (by decide +kernel) ?_
    refine x_callS hC hw (lv_size hl) (c_X5_isIn l G (M := M_3) (p0 := p1) (by omega) (p1 := 0) (by omega) (p2 := 8) (by omega)) gX5_ofView_X5_isIn rfl dv_X5_isIn_s rfl (Nat.le_of_ble_eq_true rfl) (by rw [hRf]; decide) (by rw [hRl]; decide) (by omega) (by omega) dX5_ofView_18 (fun r9 M_7 H locs hq hw => ?_)
    obtain ⟨z_8, rfl, hM9, hz_8a, hz_8b, hz_8c⟩ := hq
    rw [hM9] at hw
    show W p l e R s m args below meth c H locs _ _ _ (F0 m 21 ls [.int (iN (z_8)), .ref a])
    refine x_if_ne (tgt := 28) hC ⟨by omega, by omega⟩ dX5_ofView_21 (by decide) (fun c_9 => ?_) (fun c_9 => ?_)
    · refine x_const hC dX5_ofView_28 ?_
      refine x_const hC dX5_ofView_29 ?_
      refine x_callV hC hw (lv_size hl) (c_X5_refuse l G hRk_5 (p0 := 0) (by omega) (p1 := 2) (by omega) (by omega)) gX5_ofView_X5_refuse rfl dv_X5_refuse hRk_5.1.1 rfl rfl (Nat.le_of_ble_eq_true rfl) (by rw [hRf]; decide) (by rw [hRl]; decide) (by omega) (by omega) dX5_ofView_30 (fun r9 M_10 H locs hq hw => ?_)
      obtain ⟨z_11, rfl, hz_11a, hz_11b, thk_12, hRk_12⟩ := hq
      show W p l e R s m args below meth c H locs _ _ _ (F0 m 33 ls [.int (iN (z_11))])
      refine x_if_eq (tgt := 40) hC ⟨by omega, by omega⟩ dX5_ofView_33 (by decide) (fun c_13 => ?_) (fun c_13 => ?_)
      · refine lv_aload_n hC.1 hC.2.1 dX5_ofView_40 rfl (lv_at hl 0 rfl) ?_
        refine lv_iload_n hC.1 hC.2.1 dX5_ofView_41 rfl (lv_at hl 1 rfl) ?_
        refine lv_iload_n hC.1 hC.2.1 dX5_ofView_42 rfl (lv_at hl 2 rfl) ?_
        refine x_callV hC hw (lv_size hl) (c_X5_viewTold l G hRk_12 (p0 := p0) (by omega) (p1 := p1) (by omega) (by omega) (hz_2n (by omega))) gX5_ofView_X5_viewTold rfl dv_X5_viewTold hRk_12.1.1 rfl rfl (Nat.le_of_ble_eq_true rfl) (by rw [hRf]; decide) (by rw [hRl]; decide) (by omega) (by omega) dX5_ofView_43 (fun r9 M_14 H locs hq hw => ?_)
        obtain ⟨z_15, rfl, hM9, hz_15a⟩ := hq
        rw [hM9] at hw
        show W p l e R s m args below meth c H locs _ _ _ (F0 m 46 ls [.int (iN (z_15))])
        exact x_iret hC hw dX5_ofView_46 (by omega) (by omega) ⟨z_15, rfl, by omega, ⟨_, _, _, _, _, _, _, _, _, _, _, _, _, _, _, _, _, _, _, _, hRk_12⟩⟩
      · refine x_const hC dX5_ofView_36 ?_
        refine lv_goto (tgt := 46) hC.1 hC.2.1 dX5_ofView_37 (by decide) ?_
        exact x_iret hC hw dX5_ofView_46 (by omega) (by omega) ⟨0, rfl, by omega, ⟨_, _, _, _, _, _, _, _, _, _, _, _, _, _, _, _, _, _, _, _, hRk_12⟩⟩
    · refine x_const hC dX5_ofView_24 ?_
      refine lv_goto (tgt := 29) hC.1 hC.2.1 dX5_ofView_25 (by decide) ?_
      refine x_const hC dX5_ofView_29 ?_
      refine x_callV hC hw (lv_size hl) (c_X5_refuse l G hRk_5 (p0 := 1) (by omega) (p1 := 2) (by omega) (by omega)) gX5_ofView_X5_refuse rfl dv_X5_refuse hRk_5.1.1 rfl rfl (Nat.le_of_ble_eq_true rfl) (by rw [hRf]; decide) (by rw [hRl]; decide) (by omega) (by omega) dX5_ofView_30 (fun r9 M_16 H locs hq hw => ?_)
      obtain ⟨z_17, rfl, hz_17a, hz_17b, thk_18, hRk_18⟩ := hq
      show W p l e R s m args below meth c H locs _ _ _ (F0 m 33 ls [.int (iN (z_17))])
      refine x_if_eq (tgt := 40) hC ⟨by omega, by omega⟩ dX5_ofView_33 (by decide) (fun c_19 => ?_) (fun c_19 => ?_)
      · refine lv_aload_n hC.1 hC.2.1 dX5_ofView_40 rfl (lv_at hl 0 rfl) ?_
        refine lv_iload_n hC.1 hC.2.1 dX5_ofView_41 rfl (lv_at hl 1 rfl) ?_
        refine lv_iload_n hC.1 hC.2.1 dX5_ofView_42 rfl (lv_at hl 2 rfl) ?_
        refine x_callV hC hw (lv_size hl) (c_X5_viewTold l G hRk_18 (p0 := p0) (by omega) (p1 := p1) (by omega) (by omega) (hz_2n (by omega))) gX5_ofView_X5_viewTold rfl dv_X5_viewTold hRk_18.1.1 rfl rfl (Nat.le_of_ble_eq_true rfl) (by rw [hRf]; decide) (by rw [hRl]; decide) (by omega) (by omega) dX5_ofView_43 (fun r9 M_20 H locs hq hw => ?_)
        obtain ⟨z_21, rfl, hM9, hz_21a⟩ := hq
        rw [hM9] at hw
        show W p l e R s m args below meth c H locs _ _ _ (F0 m 46 ls [.int (iN (z_21))])
        exact x_iret hC hw dX5_ofView_46 (by omega) (by omega) ⟨z_21, rfl, by omega, ⟨_, _, _, _, _, _, _, _, _, _, _, _, _, _, _, _, _, _, _, _, hRk_18⟩⟩
      · refine x_const hC dX5_ofView_36 ?_
        refine lv_goto (tgt := 46) hC.1 hC.2.1 dX5_ofView_37 (by decide) ?_
        exact x_iret hC hw dX5_ofView_46 (by omega) (by omega) ⟨0, rfl, by omega, ⟨_, _, _, _, _, _, _, _, _, _, _, _, _, _, _, _, _, _, _, _, hRk_18⟩⟩
set_option maxHeartbeats 4000000 in
set_option maxRecDepth 100000 in
theorem c_X5_viewNear (l : Launch) (G : xG) {M : HM} {a va oa wa ya : Nat} {wk : Option Nat} {th rfd br re la ha kp kv : Int32} {qv qw : Nat → Nat} {fa fb : Nat → Option Nat} {fvv fw : Nat → Nat → Int32} {fo : Nat → Int32} {fy : Nat → Option Nat} {S : Nat → Bool} (hR : MGx G M a va oa wa ya wk th rfd br re la ha kp kv qv qw fa fb fvv fw fo fy S) {p0 : Int} (hp0 : -2147483648 ≤ p0 ∧ p0 ≤ 2147483647) {p1 : Int} (hp1 : -2147483648 ≤ p1 ∧ p1 ≤ 2147483647) {p2 : Int} (hp2 : -2147483648 ≤ p2 ∧ p2 ≤ 2147483647) : xMet l G yX5_viewNear wsX5_viewNear 5 117 0 0 [.ref a, .int (iN (p0)), .int (iN (p1)), .int (iN (p2))] M (fun r M1 => ∃ z : Int, r = some (.int (iN z)) ∧ (-2147483648 ≤ z ∧ z ≤ 2147483647) ∧ MGm G M1 a rfd S) := by
  refine x_intro (cc := cX5_viewNear) (maxL := 4) (ret := (some .int)) (by decide +kernel) rfl (Nat.le_of_ble_eq_true rfl) ?_
  intro p e R s m args below meth c ls hRf hRc hRs hRl hC hw hl
  have hinX5 : ∀ w ∈ wsX50, w ∈ wsX5_viewNear := by decide +kernel
  have hl : lv_has ls 4 [(0, .ref a), (1, .int (iN (p0))), (2, .int (iN (p1))), (3, .int (iN (p2)))] := hl
  refine lv_aload_n hC.1 hC.2.1 dX5_viewNear_0 rfl (lv_at hl 0 rfl) ?_
  refine lv_aload_n hC.1 hC.2.1 dX5_viewNear_1 rfl (lv_at hl 0 rfl) ?_
  refine lv_iload_n hC.1 hC.2.1 dX5_viewNear_2 rfl (lv_at hl 1 rfl) ?_
  refine x_callV hC hw (lv_size hl) (c_X5_isNoView l G hR (p0 := p0) (by omega)) gX5_viewNear_X5_isNoView rfl dv_X5_isNoView hR.1.1 rfl rfl (Nat.le_of_ble_eq_true rfl) (by rw [hRf]; decide) (by rw [hRl]; decide) (by omega) (by omega) dX5_viewNear_3 (fun r9 M_1 H locs hq hw => ?_)
  obtain ⟨z_2, rfl, hM9, hz_2a, hz_2b, hz_2n⟩ := hq
  rw [hM9] at hw
  show W p l e R s m args below meth c H locs _ _ _ (F0 m 6 ls [.int (iN (z_2)), .ref a])
  refine x_const hC dX5_viewNear_6 ?_
  refine x_callV hC hw (lv_size hl) (c_X5_start l G hR (p0 := z_2) (by omega) (p1 := 1) (by omega) (by omega)) gX5_viewNear_X5_start rfl dv_X5_start hR.1.1 rfl rfl (Nat.le_of_ble_eq_true rfl) (by rw [hRf]; decide) (by rw [hRl]; decide) (by omega) (by omega) dX5_viewNear_7 (fun r9 M_3 H locs hq hw => ?_)
  obtain ⟨z_4, rfl, hz_4a, hz_4b, thk_5, hRk_5⟩ := hq
  show W p l e R s m args below meth c H locs _ _ _ (F0 m 10 ls [.int (iN (z_4))])
  refine x_if_ne (tgt := 42) hC ⟨by omega, by omega⟩ dX5_viewNear_10 (by decide) (fun c_6 => ?_) (fun c_6 => ?_)
  · refine x_const hC dX5_viewNear_42 ?_
    refine lv_goto (tgt := 58) hC.1 hC.2.1 dX5_viewNear_43 (by decide) ?_
    exact x_iret hC hw dX5_viewNear_58 (by omega) (by omega) ⟨0, rfl, by omega, ⟨_, _, _, _, _, _, _, _, _, _, _, _, _, _, _, _, _, _, _, _, hRk_5⟩⟩
  · refine lv_aload_n hC.1 hC.2.1 dX5_viewNear_13 rfl (lv_at hl 0 rfl) ?_
    refine lv_iload_n hC.1 hC.2.1 dX5_viewNear_14 rfl (lv_at hl 2 rfl) ?_
    refine x_callS hC hw (lv_size hl) (c_X5_isNoKey l G (M := M_3) (p0 := p1) (by omega)) gX5_viewNear_X5_isNoKey rfl dv_X5_isNoKey_s rfl (Nat.le_of_ble_eq_true rfl) (by rw [hRf]; decide) (by rw [hRl]; decide) (by omega) (by omega) dX5_viewNear_15 (fun r9 M_7 H locs hq hw => ?_)
    obtain ⟨z_8, rfl, hM9, hz_8a, hz_8b⟩ := hq
    rw [hM9] at hw
    show W p l e R s m args below meth c H locs _ _ _ (F0 m 18 ls [.int (iN (z_8)), .ref a])
    refine x_if_ne (tgt := 30) hC ⟨by omega, by omega⟩ dX5_viewNear_18 (by decide) (fun c_9 => ?_) (fun c_9 => ?_)
    · refine x_const hC dX5_viewNear_30 ?_
      refine lv_goto (tgt := 35) hC.1 hC.2.1 dX5_viewNear_31 (by decide) ?_
      refine x_const hC dX5_viewNear_35 ?_
      refine x_callV hC hw (lv_size hl) (c_X5_refuse l G hRk_5 (p0 := 1) (by omega) (p1 := 2) (by omega) (by omega)) gX5_viewNear_X5_refuse rfl dv_X5_refuse hRk_5.1.1 rfl rfl (Nat.le_of_ble_eq_true rfl) (by rw [hRf]; decide) (by rw [hRl]; decide) (by omega) (by omega) dX5_viewNear_36 (fun r9 M_10 H locs hq hw => ?_)
      obtain ⟨z_11, rfl, hz_11a, hz_11b, thk_12, hRk_12⟩ := hq
      show W p l e R s m args below meth c H locs _ _ _ (F0 m 39 ls [.int (iN (z_11))])
      refine x_if_eq (tgt := 46) hC ⟨by omega, by omega⟩ dX5_viewNear_39 (by decide) (fun c_13 => ?_) (fun c_13 => ?_)
      · refine lv_aload_n hC.1 hC.2.1 dX5_viewNear_46 rfl (lv_at hl 0 rfl) ?_
        refine lv_aload_n hC.1 hC.2.1 dX5_viewNear_47 rfl (lv_at hl 0 rfl) ?_
        refine x_get hC hw hRk_12.1.1 rfl hinX5 5 (by decide) (by decide +kernel) rfl dX5_viewNear_48 ?_
        refine lv_iload_n hC.1 hC.2.1 dX5_viewNear_51 rfl (lv_at hl 1 rfl) ?_
        refine x_ald4 hC hw hRk_12.1.2.2.2.2.1 (by omega) (by omega) (by omega) dX5_viewNear_52 ?_
        obtain ⟨y_14, hy_15⟩ := x_some (hz_2n (by omega))
        rw [hy_15]
        obtain ⟨fi_16, hIi_16⟩ := (hRk_12.vw (show (p0).toNat < 4 by omega) hy_15)
        obtain ⟨hvt_17, hat_17, hbt_17, hct_17, hdt_17, het_17⟩ := id hIi_16
        show W p l e R s m args below meth c _ _ _ _ _ (F0 m 53 ls [.ref y_14, .ref a])
        refine lv_iload_n hC.1 hC.2.1 dX5_viewNear_53 rfl (lv_at hl 2 rfl) ?_
        refine lv_iload_n hC.1 hC.2.1 dX5_viewNear_54 rfl (lv_at hl 3 rfl) ?_
        refine x_callV hC hw (lv_size hl) (c_X5_nearOf l G hRk_12 hIi_16 (p0 := p1) (by omega) (p1 := p2) (by omega) (by omega)) gX5_viewNear_X5_nearOf rfl dv_X5_nearOf hRk_12.1.1 rfl rfl (Nat.le_of_ble_eq_true rfl) (by rw [hRf]; decide) (by rw [hRl]; decide) (by omega) (by omega) dX5_viewNear_55 (fun r9 M_18 H locs hq hw => ?_)
        obtain ⟨z_19, rfl, hM9, hz_19a, hz_19S, hz_19w⟩ := hq
        rw [hM9] at hw
        show W p l e R s m args below meth c H locs _ _ _ (F0 m 58 ls [.int (iN (z_19))])
        exact x_iret hC hw dX5_viewNear_58 (by omega) (by omega) ⟨z_19, rfl, by omega, ⟨_, _, _, _, _, _, _, _, _, _, _, _, _, _, _, _, _, _, _, _, hRk_12⟩⟩
      · refine x_const hC dX5_viewNear_42 ?_
        refine lv_goto (tgt := 58) hC.1 hC.2.1 dX5_viewNear_43 (by decide) ?_
        exact x_iret hC hw dX5_viewNear_58 (by omega) (by omega) ⟨0, rfl, by omega, ⟨_, _, _, _, _, _, _, _, _, _, _, _, _, _, _, _, _, _, _, _, hRk_12⟩⟩
    · refine lv_iload_n hC.1 hC.2.1 dX5_viewNear_21 rfl (lv_at hl 3 rfl) ?_
      refine x_const hC dX5_viewNear_22 ?_
      refine x_const hC dX5_viewNear_23 ?_
      refine x_callS hC hw (lv_size hl) (c_X5_isIn l G (M := M_3) (p0 := p2) (by omega) (p1 := 0) (by omega) (p2 := 3) (by omega)) gX5_viewNear_X5_isIn rfl dv_X5_isIn_s rfl (Nat.le_of_ble_eq_true rfl) (by rw [hRf]; decide) (by rw [hRl]; decide) (by omega) (by omega) dX5_viewNear_24 (fun r9 M_20 H locs hq hw => ?_)
      obtain ⟨z_21, rfl, hM9, hz_21a, hz_21b, hz_21c⟩ := hq
      rw [hM9] at hw
      show W p l e R s m args below meth c H locs _ _ _ (F0 m 27 ls [.int (iN (z_21)), .ref a])
      refine x_if_ne (tgt := 34) hC ⟨by omega, by omega⟩ dX5_viewNear_27 (by decide) (fun c_22 => ?_) (fun c_22 => ?_)
      · refine x_const hC dX5_viewNear_34 ?_
        refine x_const hC dX5_viewNear_35 ?_
        refine x_callV hC hw (lv_size hl) (c_X5_refuse l G hRk_5 (p0 := 0) (by omega) (p1 := 2) (by omega) (by omega)) gX5_viewNear_X5_refuse rfl dv_X5_refuse hRk_5.1.1 rfl rfl (Nat.le_of_ble_eq_true rfl) (by rw [hRf]; decide) (by rw [hRl]; decide) (by omega) (by omega) dX5_viewNear_36 (fun r9 M_23 H locs hq hw => ?_)
        obtain ⟨z_24, rfl, hz_24a, hz_24b, thk_25, hRk_25⟩ := hq
        show W p l e R s m args below meth c H locs _ _ _ (F0 m 39 ls [.int (iN (z_24))])
        refine x_if_eq (tgt := 46) hC ⟨by omega, by omega⟩ dX5_viewNear_39 (by decide) (fun c_26 => ?_) (fun c_26 => ?_)
        · refine lv_aload_n hC.1 hC.2.1 dX5_viewNear_46 rfl (lv_at hl 0 rfl) ?_
          refine lv_aload_n hC.1 hC.2.1 dX5_viewNear_47 rfl (lv_at hl 0 rfl) ?_
          refine x_get hC hw hRk_25.1.1 rfl hinX5 5 (by decide) (by decide +kernel) rfl dX5_viewNear_48 ?_
          refine lv_iload_n hC.1 hC.2.1 dX5_viewNear_51 rfl (lv_at hl 1 rfl) ?_
          refine x_ald4 hC hw hRk_25.1.2.2.2.2.1 (by omega) (by omega) (by omega) dX5_viewNear_52 ?_
          obtain ⟨y_27, hy_28⟩ := x_some (hz_2n (by omega))
          rw [hy_28]
          obtain ⟨fi_29, hIi_29⟩ := (hRk_25.vw (show (p0).toNat < 4 by omega) hy_28)
          obtain ⟨hvt_30, hat_30, hbt_30, hct_30, hdt_30, het_30⟩ := id hIi_29
          show W p l e R s m args below meth c _ _ _ _ _ (F0 m 53 ls [.ref y_27, .ref a])
          refine lv_iload_n hC.1 hC.2.1 dX5_viewNear_53 rfl (lv_at hl 2 rfl) ?_
          refine lv_iload_n hC.1 hC.2.1 dX5_viewNear_54 rfl (lv_at hl 3 rfl) ?_
          refine x_callV hC hw (lv_size hl) (c_X5_nearOf l G hRk_25 hIi_29 (p0 := p1) (by omega) (p1 := p2) (by omega) (by omega)) gX5_viewNear_X5_nearOf rfl dv_X5_nearOf hRk_25.1.1 rfl rfl (Nat.le_of_ble_eq_true rfl) (by rw [hRf]; decide) (by rw [hRl]; decide) (by omega) (by omega) dX5_viewNear_55 (fun r9 M_31 H locs hq hw => ?_)
          obtain ⟨z_32, rfl, hM9, hz_32a, hz_32S, hz_32w⟩ := hq
          rw [hM9] at hw
          show W p l e R s m args below meth c H locs _ _ _ (F0 m 58 ls [.int (iN (z_32))])
          exact x_iret hC hw dX5_viewNear_58 (by omega) (by omega) ⟨z_32, rfl, by omega, ⟨_, _, _, _, _, _, _, _, _, _, _, _, _, _, _, _, _, _, _, _, hRk_25⟩⟩
        · refine x_const hC dX5_viewNear_42 ?_
          refine lv_goto (tgt := 58) hC.1 hC.2.1 dX5_viewNear_43 (by decide) ?_
          exact x_iret hC hw dX5_viewNear_58 (by omega) (by omega) ⟨0, rfl, by omega, ⟨_, _, _, _, _, _, _, _, _, _, _, _, _, _, _, _, _, _, _, _, hRk_25⟩⟩
      · refine x_const hC dX5_viewNear_30 ?_
        refine lv_goto (tgt := 35) hC.1 hC.2.1 dX5_viewNear_31 (by decide) ?_
        refine x_const hC dX5_viewNear_35 ?_
        refine x_callV hC hw (lv_size hl) (c_X5_refuse l G hRk_5 (p0 := 1) (by omega) (p1 := 2) (by omega) (by omega)) gX5_viewNear_X5_refuse rfl dv_X5_refuse hRk_5.1.1 rfl rfl (Nat.le_of_ble_eq_true rfl) (by rw [hRf]; decide) (by rw [hRl]; decide) (by omega) (by omega) dX5_viewNear_36 (fun r9 M_33 H locs hq hw => ?_)
        obtain ⟨z_34, rfl, hz_34a, hz_34b, thk_35, hRk_35⟩ := hq
        show W p l e R s m args below meth c H locs _ _ _ (F0 m 39 ls [.int (iN (z_34))])
        refine x_if_eq (tgt := 46) hC ⟨by omega, by omega⟩ dX5_viewNear_39 (by decide) (fun c_36 => ?_) (fun c_36 => ?_)
        · refine lv_aload_n hC.1 hC.2.1 dX5_viewNear_46 rfl (lv_at hl 0 rfl) ?_
          refine lv_aload_n hC.1 hC.2.1 dX5_viewNear_47 rfl (lv_at hl 0 rfl) ?_
          refine x_get hC hw hRk_35.1.1 rfl hinX5 5 (by decide) (by decide +kernel) rfl dX5_viewNear_48 ?_
          refine lv_iload_n hC.1 hC.2.1 dX5_viewNear_51 rfl (lv_at hl 1 rfl) ?_
          refine x_ald4 hC hw hRk_35.1.2.2.2.2.1 (by omega) (by omega) (by omega) dX5_viewNear_52 ?_
          obtain ⟨y_37, hy_38⟩ := x_some (hz_2n (by omega))
          rw [hy_38]
          obtain ⟨fi_39, hIi_39⟩ := (hRk_35.vw (show (p0).toNat < 4 by omega) hy_38)
          obtain ⟨hvt_40, hat_40, hbt_40, hct_40, hdt_40, het_40⟩ := id hIi_39
          show W p l e R s m args below meth c _ _ _ _ _ (F0 m 53 ls [.ref y_37, .ref a])
          refine lv_iload_n hC.1 hC.2.1 dX5_viewNear_53 rfl (lv_at hl 2 rfl) ?_
          refine lv_iload_n hC.1 hC.2.1 dX5_viewNear_54 rfl (lv_at hl 3 rfl) ?_
          refine x_callV hC hw (lv_size hl) (c_X5_nearOf l G hRk_35 hIi_39 (p0 := p1) (by omega) (p1 := p2) (by omega) (by omega)) gX5_viewNear_X5_nearOf rfl dv_X5_nearOf hRk_35.1.1 rfl rfl (Nat.le_of_ble_eq_true rfl) (by rw [hRf]; decide) (by rw [hRl]; decide) (by omega) (by omega) dX5_viewNear_55 (fun r9 M_41 H locs hq hw => ?_)
          obtain ⟨z_42, rfl, hM9, hz_42a, hz_42S, hz_42w⟩ := hq
          rw [hM9] at hw
          show W p l e R s m args below meth c H locs _ _ _ (F0 m 58 ls [.int (iN (z_42))])
          exact x_iret hC hw dX5_viewNear_58 (by omega) (by omega) ⟨z_42, rfl, by omega, ⟨_, _, _, _, _, _, _, _, _, _, _, _, _, _, _, _, _, _, _, _, hRk_35⟩⟩
        · refine x_const hC dX5_viewNear_42 ?_
          refine lv_goto (tgt := 58) hC.1 hC.2.1 dX5_viewNear_43 (by decide) ?_
          exact x_iret hC hw dX5_viewNear_58 (by omega) (by omega) ⟨0, rfl, by omega, ⟨_, _, _, _, _, _, _, _, _, _, _, _, _, _, _, _, _, _, _, _, hRk_35⟩⟩
set_option maxHeartbeats 4000000 in
set_option maxRecDepth 100000 in
theorem c_X5_ledgerTold (l : Launch) (G : xG) {M : HM} {a va oa wa ya : Nat} {wk : Option Nat} {th rfd br re la ha kp kv : Int32} {qv qw : Nat → Nat} {fa fb : Nat → Option Nat} {fvv fw : Nat → Nat → Int32} {fo : Nat → Int32} {fy : Nat → Option Nat} {S : Nat → Bool} (hR : MGx G M a va oa wa ya wk th rfd br re la ha kp kv qv qw fa fb fvv fw fo fy S) {p0 : Int} (hp0 : -2147483648 ≤ p0 ∧ p0 ≤ 2147483647) (hob : 0 ≤ p0 ∧ p0 ≤ 6) : xMet l G yX5_ledgerTold wsX5_ledgerTold 1 20 1 7 [.ref a, .int (iN (p0))] M (fun r M1 => ∃ z : Int, r = some (.int (iN z)) ∧ xExt M M1 ∧ (-2147483648 ≤ z ∧ z ≤ 2147483647)) := by
  refine x_intro (cc := cX5_ledgerTold) (maxL := 7) (ret := (some .int)) (by decide +kernel) rfl (Nat.le_of_ble_eq_true rfl) ?_
  intro p e R s m args below meth c ls hRf hRc hRs hRl hC hw hl
  have hinX5 : ∀ w ∈ wsX50, w ∈ wsX5_ledgerTold := by decide +kernel
  have hl : lv_has ls 7 [(0, .ref a), (1, .int (iN (p0)))] := hl
  refine x_const hC dX5_ledgerTold_0 ?_
  refine lv_istore_n (lv' := [(2, .int (iN (0))), (0, .ref a), (1, .int (iN (p0)))]) hC.1 hC.2.1 dX5_ledgerTold_1 rfl hl (by decide) rfl (fun ls hl => ?_)
  refine lv_aload_n hC.1 hC.2.1 dX5_ledgerTold_2 rfl (lv_at hl 1 rfl) ?_
  refine x_get hC hw hR.1.1 rfl hinX5 5 (by decide) (by decide +kernel) rfl dX5_ledgerTold_3 ?_
  refine lv_astore_n (lv' := [(3, .ref ya), (2, .int (iN (0))), (0, .ref a), (1, .int (iN (p0)))]) hC.1 hC.2.1 dX5_ledgerTold_6 rfl hl (by decide) rfl (fun ls hl => ?_)
  refine lv_aload_n hC.1 hC.2.1 dX5_ledgerTold_7 rfl (lv_at hl 0 rfl) ?_
  refine x_alen hC hw 4 hR.1.2.2.2.2.1 rfl dX5_ledgerTold_8 ?_
  refine lv_istore (lv' := [(4, .int (iN (4))), (3, .ref ya), (2, .int (iN (0))), (0, .ref a), (1, .int (iN (p0)))]) hC.1 hC.2.1 dX5_ledgerTold_9 hl (by decide) rfl (fun ls hl => ?_)
  refine x_const hC dX5_ledgerTold_11 ?_
  refine lv_istore (lv' := [(5, .int (iN (0))), (4, .int (iN (4))), (3, .ref ya), (2, .int (iN (0))), (0, .ref a), (1, .int (iN (p0)))]) hC.1 hC.2.1 dX5_ledgerTold_12 hl (by decide) rfl (fun ls hl => ?_)
  suffices hloop14 : ∀ (n9 : Nat) (n : Int) (j : Int) (H : Heap) (locs : List Loc) (ls : Array Slot), (hmu : (4 - j).toNat < n9) → (hi0 : 0 ≤ j ∧ j ≤ 4) → (hi1 : 0 ≤ n ∧ n ≤ j) → xD G (xA M s.heap.size) s M H locs → lv_has ls 7 [(0, .ref a), (1, .int (iN (p0))), (2, .int (iN (n))), (3, .ref ya), (4, .int (iN (4))), (5, .int (iN (j)))] → W p l e R s m args below meth c H locs _ _ _ (F0 m 14 ls []) by
    exact hloop14 _ 0 0  _ _ _ (Nat.lt_succ_self _) (by omega) (by omega) hw (lv_sub hl [4, 5, 3, 2, 1, 0] rfl)
  intro n9
  induction n9 with
  | zero => intro n j  H locs ls hmu; exact absurd hmu (Nat.not_lt_zero _)
  | succ n9 ih14 =>
    intro n j  H locs ls hmu hi0 hi1 hw hl
    refine lv_iload hC.1 hC.2.1 dX5_ledgerTold_14 (lv_at hl 5 rfl) ?_
    refine lv_iload hC.1 hC.2.1 dX5_ledgerTold_16 (lv_at hl 4 rfl) ?_
    refine x_icmp_ge (tgt := 49) hC ⟨by omega, by omega⟩ ⟨by omega, by omega⟩ dX5_ledgerTold_18 (by decide) (fun c_1 => ?_) (fun c_1 => ?_)
    · refine x_bipush hC dX5_ledgerTold_49 (by decide +kernel) ?_
      refine x_newI hC hw (by decide +kernel) 7 rfl (by decide) (by omega) (by omega) dX5_ledgerTold_51 (fun q_2 H hq_3 hw => ?_)
      obtain ⟨M_4, hM_5⟩ : ∃ z, z = va_up M q_2 (some (.inl (G.2 1, 7, .inl (fun _ => 0)))) := ⟨_, rfl⟩
      rw [← hM_5] at hw
      have hx_6 : xExt M M_4 := by rw [hM_5]; exact xExt.new hq_3
      have hA_7 : M_4 q_2 = some (.inl (G.2 1, 7, .inl (fun _ => 0))) := by rw [hM_5, va_up_self]
      have h_8 := hR.ext hx_6
      refine lv_dup hC.1 hC.2.1 dX5_ledgerTold_53 rfl ?_
      refine x_const hC dX5_ledgerTold_54 ?_
      refine lv_iload_n hC.1 hC.2.1 dX5_ledgerTold_55 rfl (lv_at hl 2 rfl) ?_
      refine x_iast hC hw hA_7 (by omega) (by omega) (by omega) dX5_ledgerTold_56 (fun H locs hw => ?_)
      obtain ⟨M_9, hM_10⟩ : ∃ z, z = va_up M_4 q_2 (some (.inl (G.2 1, 7, .inl (upd (fun _ => 0) (0 : Int).toNat (iN (n)))))) := ⟨_, rfl⟩
      rw [← hM_10] at hw
      have hA_11 : M_9 q_2 = some (.inl (G.2 1, 7, .inl (upd (fun _ => 0) (0 : Int).toNat (iN (n))))) := by rw [hM_10, va_up_self]
      have hx_12 := xExt.upd hq_3 hx_6 hM_10
      have h_13 := hR.ext hx_12
      refine lv_dup hC.1 hC.2.1 dX5_ledgerTold_57 rfl ?_
      refine x_const hC dX5_ledgerTold_58 ?_
      refine lv_aload_n hC.1 hC.2.1 dX5_ledgerTold_59 rfl (lv_at hl 0 rfl) ?_
      refine x_get hC hw h_13.1.1 rfl hinX5 6 (by decide) (by decide +kernel) rfl dX5_ledgerTold_60 ?_
      rcases wk with _ | w_14
      · show W p l e R s m args below meth c _ _ _ _ _ (F0 m 63 ls [.null, .int (iN (1)), .ref q_2, .ref q_2])
        refine lv_ifnonnullN hC.1 hC.2.1 dX5_ledgerTold_63 ?_
        refine x_sipush hC dX5_ledgerTold_66 (by decide +kernel) ?_
        refine lv_goto (tgt := 78) hC.1 hC.2.1 dX5_ledgerTold_69 (by decide) ?_
        refine x_iast hC hw hA_11 (by omega) (by omega) (by omega) dX5_ledgerTold_78 (fun H locs hw => ?_)
        obtain ⟨M_15, hM_16⟩ : ∃ z, z = va_up M_9 q_2 (some (.inl (G.2 1, 7, .inl (upd (upd (fun _ => 0) (0 : Int).toNat (iN (n))) (1 : Int).toNat (iN ((-10000))))))) := ⟨_, rfl⟩
        rw [← hM_16] at hw
        have hA_17 : M_15 q_2 = some (.inl (G.2 1, 7, .inl (upd (upd (fun _ => 0) (0 : Int).toNat (iN (n))) (1 : Int).toNat (iN ((-10000)))))) := by rw [hM_16, va_up_self]
        have hx_18 := xExt.upd hq_3 hx_12 hM_16
        have h_19 := hR.ext hx_18
        refine lv_dup hC.1 hC.2.1 dX5_ledgerTold_79 rfl ?_
        refine x_const hC dX5_ledgerTold_80 ?_
        refine lv_aload_n hC.1 hC.2.1 dX5_ledgerTold_81 rfl (lv_at hl 0 rfl) ?_
        refine x_getR hC hw h_19.1.1 rfl hinX5 7 (by decide) (by decide +kernel) rfl dX5_ledgerTold_82 ?_
        have hrr_20 := iN_rng br
        refine x_callS hC hw (lv_size hl) (c_X5_one l G (M := M_15) (p0 := br.toInt) (by omega)) gX5_ledgerTold_X5_one rfl dv_X5_one_s rfl (Nat.le_of_ble_eq_true rfl) (by rw [hRf]; decide) (by rw [hRl]; decide) (by omega) (by omega) dX5_ledgerTold_85 (fun r9 M_21 H locs hq hw => ?_)
        obtain ⟨z_22, rfl, hM9, hz_22a, hz_22b⟩ := hq
        rw [hM9] at hw
        show W p l e R s m args below meth c H locs _ _ _ (F0 m 88 ls [.int (iN (z_22)), .int (iN (2)), .ref q_2, .ref q_2])
        refine x_iast hC hw hA_17 (by omega) (by omega) (by omega) dX5_ledgerTold_88 (fun H locs hw => ?_)
        obtain ⟨M_23, hM_24⟩ : ∃ z, z = va_up M_15 q_2 (some (.inl (G.2 1, 7, .inl (upd (upd (upd (fun _ => 0) (0 : Int).toNat (iN (n))) (1 : Int).toNat (iN ((-10000)))) (2 : Int).toNat (iN (z_22)))))) := ⟨_, rfl⟩
        rw [← hM_24] at hw
        have hA_25 : M_23 q_2 = some (.inl (G.2 1, 7, .inl (upd (upd (upd (fun _ => 0) (0 : Int).toNat (iN (n))) (1 : Int).toNat (iN ((-10000)))) (2 : Int).toNat (iN (z_22))))) := by rw [hM_24, va_up_self]
        have hx_26 := xExt.upd hq_3 hx_18 hM_24
        have h_27 := hR.ext hx_26
        refine lv_dup hC.1 hC.2.1 dX5_ledgerTold_89 rfl ?_
        refine x_const hC dX5_ledgerTold_90 ?_
        refine lv_aload_n hC.1 hC.2.1 dX5_ledgerTold_91 rfl (lv_at hl 0 rfl) ?_
        refine x_getR hC hw h_27.1.1 rfl hinX5 10 (by decide) (by decide +kernel) rfl dX5_ledgerTold_92 ?_
        have hrr_28 := iN_rng ha
        have sc_29 := h_27.sc
        refine x_iast hC hw hA_25 (by omega) (by omega) (by omega) dX5_ledgerTold_95 (fun H locs hw => ?_)
        obtain ⟨M_30, hM_31⟩ : ∃ z, z = va_up M_23 q_2 (some (.inl (G.2 1, 7, .inl (upd (upd (upd (upd (fun _ => 0) (0 : Int).toNat (iN (n))) (1 : Int).toNat (iN ((-10000)))) (2 : Int).toNat (iN (z_22))) (3 : Int).toNat (iN (ha.toInt)))))) := ⟨_, rfl⟩
        rw [← hM_31] at hw
        have hA_32 : M_30 q_2 = some (.inl (G.2 1, 7, .inl (upd (upd (upd (upd (fun _ => 0) (0 : Int).toNat (iN (n))) (1 : Int).toNat (iN ((-10000)))) (2 : Int).toNat (iN (z_22))) (3 : Int).toNat (iN (ha.toInt))))) := by rw [hM_31, va_up_self]
        have hx_33 := xExt.upd hq_3 hx_26 hM_31
        have h_34 := hR.ext hx_33
        refine lv_dup hC.1 hC.2.1 dX5_ledgerTold_96 rfl ?_
        refine x_const hC dX5_ledgerTold_97 ?_
        refine lv_aload_n hC.1 hC.2.1 dX5_ledgerTold_98 rfl (lv_at hl 0 rfl) ?_
        refine x_getR hC hw h_34.1.1 rfl hinX5 11 (by decide) (by decide +kernel) rfl dX5_ledgerTold_99 ?_
        have hrr_35 := iN_rng kp
        refine x_iast hC hw hA_32 (by omega) (by omega) (by omega) dX5_ledgerTold_102 (fun H locs hw => ?_)
        obtain ⟨M_36, hM_37⟩ : ∃ z, z = va_up M_30 q_2 (some (.inl (G.2 1, 7, .inl (upd (upd (upd (upd (upd (fun _ => 0) (0 : Int).toNat (iN (n))) (1 : Int).toNat (iN ((-10000)))) (2 : Int).toNat (iN (z_22))) (3 : Int).toNat (iN (ha.toInt))) (4 : Int).toNat (iN (kp.toInt)))))) := ⟨_, rfl⟩
        rw [← hM_37] at hw
        have hA_38 : M_36 q_2 = some (.inl (G.2 1, 7, .inl (upd (upd (upd (upd (upd (fun _ => 0) (0 : Int).toNat (iN (n))) (1 : Int).toNat (iN ((-10000)))) (2 : Int).toNat (iN (z_22))) (3 : Int).toNat (iN (ha.toInt))) (4 : Int).toNat (iN (kp.toInt))))) := by rw [hM_37, va_up_self]
        have hx_39 := xExt.upd hq_3 hx_33 hM_37
        have h_40 := hR.ext hx_39
        refine lv_dup hC.1 hC.2.1 dX5_ledgerTold_103 rfl ?_
        refine x_const hC dX5_ledgerTold_104 ?_
        refine lv_aload_n hC.1 hC.2.1 dX5_ledgerTold_105 rfl (lv_at hl 0 rfl) ?_
        refine x_getR hC hw h_40.1.1 rfl hinX5 12 (by decide) (by decide +kernel) rfl dX5_ledgerTold_106 ?_
        have hrr_41 := iN_rng kv
        refine x_iast hC hw hA_38 (by omega) (by omega) (by omega) dX5_ledgerTold_109 (fun H locs hw => ?_)
        obtain ⟨M_42, hM_43⟩ : ∃ z, z = va_up M_36 q_2 (some (.inl (G.2 1, 7, .inl (upd (upd (upd (upd (upd (upd (fun _ => 0) (0 : Int).toNat (iN (n))) (1 : Int).toNat (iN ((-10000)))) (2 : Int).toNat (iN (z_22))) (3 : Int).toNat (iN (ha.toInt))) (4 : Int).toNat (iN (kp.toInt))) (5 : Int).toNat (iN (kv.toInt)))))) := ⟨_, rfl⟩
        rw [← hM_43] at hw
        have hA_44 : M_42 q_2 = some (.inl (G.2 1, 7, .inl (upd (upd (upd (upd (upd (upd (fun _ => 0) (0 : Int).toNat (iN (n))) (1 : Int).toNat (iN ((-10000)))) (2 : Int).toNat (iN (z_22))) (3 : Int).toNat (iN (ha.toInt))) (4 : Int).toNat (iN (kp.toInt))) (5 : Int).toNat (iN (kv.toInt))))) := by rw [hM_43, va_up_self]
        have hx_45 := xExt.upd hq_3 hx_39 hM_43
        have h_46 := hR.ext hx_45
        refine lv_dup hC.1 hC.2.1 dX5_ledgerTold_110 rfl ?_
        refine x_bipush hC dX5_ledgerTold_111 (by decide +kernel) ?_
        refine lv_aload_n hC.1 hC.2.1 dX5_ledgerTold_113 rfl (lv_at hl 0 rfl) ?_
        refine x_getR hC hw h_46.1.1 rfl hinX5 1 (by decide) (by decide +kernel) rfl dX5_ledgerTold_114 ?_
        have hrr_47 := iN_rng rfd
        refine x_iast hC hw hA_44 (by omega) (by omega) (by omega) dX5_ledgerTold_117 (fun H locs hw => ?_)
        obtain ⟨M_48, hM_49⟩ : ∃ z, z = va_up M_42 q_2 (some (.inl (G.2 1, 7, .inl (upd (upd (upd (upd (upd (upd (upd (fun _ => 0) (0 : Int).toNat (iN (n))) (1 : Int).toNat (iN ((-10000)))) (2 : Int).toNat (iN (z_22))) (3 : Int).toNat (iN (ha.toInt))) (4 : Int).toNat (iN (kp.toInt))) (5 : Int).toNat (iN (kv.toInt))) (6 : Int).toNat (iN (rfd.toInt)))))) := ⟨_, rfl⟩
        rw [← hM_49] at hw
        have hA_50 : M_48 q_2 = some (.inl (G.2 1, 7, .inl (upd (upd (upd (upd (upd (upd (upd (fun _ => 0) (0 : Int).toNat (iN (n))) (1 : Int).toNat (iN ((-10000)))) (2 : Int).toNat (iN (z_22))) (3 : Int).toNat (iN (ha.toInt))) (4 : Int).toNat (iN (kp.toInt))) (5 : Int).toNat (iN (kv.toInt))) (6 : Int).toNat (iN (rfd.toInt))))) := by rw [hM_49, va_up_self]
        have hx_51 := xExt.upd hq_3 hx_45 hM_49
        have h_52 := hR.ext hx_51
        refine lv_astore_n (lv' := [(3, .ref q_2), (0, .ref a), (1, .int (iN (p0))), (2, .int (iN (n))), (4, .int (iN (4))), (5, .int (iN (j)))]) hC.1 hC.2.1 dX5_ledgerTold_118 rfl hl (by decide) rfl (fun ls hl => ?_)
        refine lv_aload_n hC.1 hC.2.1 dX5_ledgerTold_119 rfl (lv_at hl 0 rfl) ?_
        refine lv_iload_n hC.1 hC.2.1 dX5_ledgerTold_120 rfl (lv_at hl 2 rfl) ?_
        refine x_iald hC hw hA_50 (by omega) (by omega) (by omega) dX5_ledgerTold_121 ?_
        obtain ⟨z_53, hz_53⟩ : ∃ z : Int, z = ((upd (upd (upd (upd (upd (upd (upd (fun _ => 0) (0 : Int).toNat (iN (n))) (1 : Int).toNat (iN ((-10000)))) (2 : Int).toNat (iN (z_22))) (3 : Int).toNat (iN (ha.toInt))) (4 : Int).toNat (iN (kp.toInt))) (5 : Int).toNat (iN (kv.toInt))) (6 : Int).toNat (iN (rfd.toInt))) (p0).toNat).toInt := ⟨_, rfl⟩
        rw [← hz_53]
        have hrz_53 : -2147483648 ≤ z_53 ∧ z_53 ≤ 2147483647 := by rw [hz_53]; exact iN_rng _
        exact x_iret hC hw dX5_ledgerTold_122 (by omega) (by omega) ⟨z_53, rfl, hx_51, by omega⟩
      · obtain ⟨fi_54, hIi_54⟩ := (h_13.wk' rfl)
        obtain ⟨hvt_55, hat_55, hbt_55, hct_55, hdt_55, het_55⟩ := id hIi_54
        show W p l e R s m args below meth c _ _ _ _ _ (F0 m 63 ls [.ref w_14, .int (iN (1)), .ref q_2, .ref q_2])
        refine lv_ifnonnull (tgt := 72) hC.1 hC.2.1 dX5_ledgerTold_63 (by decide) ?_
        refine lv_aload_n hC.1 hC.2.1 dX5_ledgerTold_72 rfl (lv_at hl 0 rfl) ?_
        refine x_get hC hw h_13.1.1 rfl hinX5 6 (by decide) (by decide +kernel) rfl dX5_ledgerTold_73 ?_
        show W p l e R s m args below meth c _ _ _ _ _ (F0 m 76 ls [.ref w_14, .int (iN (1)), .ref q_2, .ref q_2])
        refine x_const hC dX5_ledgerTold_76 ?_
        refine x_iald hC hw hIi_54.1 (by omega) (by omega) (by omega) dX5_ledgerTold_77 ?_
        obtain ⟨z_56, hz_56⟩ : ∃ z : Int, z = (fi_54 (0 : Int).toNat).toInt := ⟨_, rfl⟩
        rw [← hz_56]
        have hz_56' : z_56 = (fi_54 0).toInt := hz_56
        have hrz_56 : -2147483648 ≤ z_56 ∧ z_56 ≤ 2147483647 := by rw [hz_56]; exact iN_rng _
        refine x_iast hC hw hA_11 (by omega) (by omega) (by omega) dX5_ledgerTold_78 (fun H locs hw => ?_)
        obtain ⟨M_57, hM_58⟩ : ∃ z, z = va_up M_9 q_2 (some (.inl (G.2 1, 7, .inl (upd (upd (fun _ => 0) (0 : Int).toNat (iN (n))) (1 : Int).toNat (iN (z_56)))))) := ⟨_, rfl⟩
        rw [← hM_58] at hw
        have hA_59 : M_57 q_2 = some (.inl (G.2 1, 7, .inl (upd (upd (fun _ => 0) (0 : Int).toNat (iN (n))) (1 : Int).toNat (iN (z_56))))) := by rw [hM_58, va_up_self]
        have hx_60 := xExt.upd hq_3 hx_12 hM_58
        have h_61 := hR.ext hx_60
        refine lv_dup hC.1 hC.2.1 dX5_ledgerTold_79 rfl ?_
        refine x_const hC dX5_ledgerTold_80 ?_
        refine lv_aload_n hC.1 hC.2.1 dX5_ledgerTold_81 rfl (lv_at hl 0 rfl) ?_
        refine x_getR hC hw h_61.1.1 rfl hinX5 7 (by decide) (by decide +kernel) rfl dX5_ledgerTold_82 ?_
        have hrr_62 := iN_rng br
        refine x_callS hC hw (lv_size hl) (c_X5_one l G (M := M_57) (p0 := br.toInt) (by omega)) gX5_ledgerTold_X5_one rfl dv_X5_one_s rfl (Nat.le_of_ble_eq_true rfl) (by rw [hRf]; decide) (by rw [hRl]; decide) (by omega) (by omega) dX5_ledgerTold_85 (fun r9 M_63 H locs hq hw => ?_)
        obtain ⟨z_64, rfl, hM9, hz_64a, hz_64b⟩ := hq
        rw [hM9] at hw
        show W p l e R s m args below meth c H locs _ _ _ (F0 m 88 ls [.int (iN (z_64)), .int (iN (2)), .ref q_2, .ref q_2])
        refine x_iast hC hw hA_59 (by omega) (by omega) (by omega) dX5_ledgerTold_88 (fun H locs hw => ?_)
        obtain ⟨M_65, hM_66⟩ : ∃ z, z = va_up M_57 q_2 (some (.inl (G.2 1, 7, .inl (upd (upd (upd (fun _ => 0) (0 : Int).toNat (iN (n))) (1 : Int).toNat (iN (z_56))) (2 : Int).toNat (iN (z_64)))))) := ⟨_, rfl⟩
        rw [← hM_66] at hw
        have hA_67 : M_65 q_2 = some (.inl (G.2 1, 7, .inl (upd (upd (upd (fun _ => 0) (0 : Int).toNat (iN (n))) (1 : Int).toNat (iN (z_56))) (2 : Int).toNat (iN (z_64))))) := by rw [hM_66, va_up_self]
        have hx_68 := xExt.upd hq_3 hx_60 hM_66
        have h_69 := hR.ext hx_68
        refine lv_dup hC.1 hC.2.1 dX5_ledgerTold_89 rfl ?_
        refine x_const hC dX5_ledgerTold_90 ?_
        refine lv_aload_n hC.1 hC.2.1 dX5_ledgerTold_91 rfl (lv_at hl 0 rfl) ?_
        refine x_getR hC hw h_69.1.1 rfl hinX5 10 (by decide) (by decide +kernel) rfl dX5_ledgerTold_92 ?_
        have hrr_70 := iN_rng ha
        have sc_71 := h_69.sc
        refine x_iast hC hw hA_67 (by omega) (by omega) (by omega) dX5_ledgerTold_95 (fun H locs hw => ?_)
        obtain ⟨M_72, hM_73⟩ : ∃ z, z = va_up M_65 q_2 (some (.inl (G.2 1, 7, .inl (upd (upd (upd (upd (fun _ => 0) (0 : Int).toNat (iN (n))) (1 : Int).toNat (iN (z_56))) (2 : Int).toNat (iN (z_64))) (3 : Int).toNat (iN (ha.toInt)))))) := ⟨_, rfl⟩
        rw [← hM_73] at hw
        have hA_74 : M_72 q_2 = some (.inl (G.2 1, 7, .inl (upd (upd (upd (upd (fun _ => 0) (0 : Int).toNat (iN (n))) (1 : Int).toNat (iN (z_56))) (2 : Int).toNat (iN (z_64))) (3 : Int).toNat (iN (ha.toInt))))) := by rw [hM_73, va_up_self]
        have hx_75 := xExt.upd hq_3 hx_68 hM_73
        have h_76 := hR.ext hx_75
        refine lv_dup hC.1 hC.2.1 dX5_ledgerTold_96 rfl ?_
        refine x_const hC dX5_ledgerTold_97 ?_
        refine lv_aload_n hC.1 hC.2.1 dX5_ledgerTold_98 rfl (lv_at hl 0 rfl) ?_
        refine x_getR hC hw h_76.1.1 rfl hinX5 11 (by decide) (by decide +kernel) rfl dX5_ledgerTold_99 ?_
        have hrr_77 := iN_rng kp
        refine x_iast hC hw hA_74 (by omega) (by omega) (by omega) dX5_ledgerTold_102 (fun H locs hw => ?_)
        obtain ⟨M_78, hM_79⟩ : ∃ z, z = va_up M_72 q_2 (some (.inl (G.2 1, 7, .inl (upd (upd (upd (upd (upd (fun _ => 0) (0 : Int).toNat (iN (n))) (1 : Int).toNat (iN (z_56))) (2 : Int).toNat (iN (z_64))) (3 : Int).toNat (iN (ha.toInt))) (4 : Int).toNat (iN (kp.toInt)))))) := ⟨_, rfl⟩
        rw [← hM_79] at hw
        have hA_80 : M_78 q_2 = some (.inl (G.2 1, 7, .inl (upd (upd (upd (upd (upd (fun _ => 0) (0 : Int).toNat (iN (n))) (1 : Int).toNat (iN (z_56))) (2 : Int).toNat (iN (z_64))) (3 : Int).toNat (iN (ha.toInt))) (4 : Int).toNat (iN (kp.toInt))))) := by rw [hM_79, va_up_self]
        have hx_81 := xExt.upd hq_3 hx_75 hM_79
        have h_82 := hR.ext hx_81
        refine lv_dup hC.1 hC.2.1 dX5_ledgerTold_103 rfl ?_
        refine x_const hC dX5_ledgerTold_104 ?_
        refine lv_aload_n hC.1 hC.2.1 dX5_ledgerTold_105 rfl (lv_at hl 0 rfl) ?_
        refine x_getR hC hw h_82.1.1 rfl hinX5 12 (by decide) (by decide +kernel) rfl dX5_ledgerTold_106 ?_
        have hrr_83 := iN_rng kv
        refine x_iast hC hw hA_80 (by omega) (by omega) (by omega) dX5_ledgerTold_109 (fun H locs hw => ?_)
        obtain ⟨M_84, hM_85⟩ : ∃ z, z = va_up M_78 q_2 (some (.inl (G.2 1, 7, .inl (upd (upd (upd (upd (upd (upd (fun _ => 0) (0 : Int).toNat (iN (n))) (1 : Int).toNat (iN (z_56))) (2 : Int).toNat (iN (z_64))) (3 : Int).toNat (iN (ha.toInt))) (4 : Int).toNat (iN (kp.toInt))) (5 : Int).toNat (iN (kv.toInt)))))) := ⟨_, rfl⟩
        rw [← hM_85] at hw
        have hA_86 : M_84 q_2 = some (.inl (G.2 1, 7, .inl (upd (upd (upd (upd (upd (upd (fun _ => 0) (0 : Int).toNat (iN (n))) (1 : Int).toNat (iN (z_56))) (2 : Int).toNat (iN (z_64))) (3 : Int).toNat (iN (ha.toInt))) (4 : Int).toNat (iN (kp.toInt))) (5 : Int).toNat (iN (kv.toInt))))) := by rw [hM_85, va_up_self]
        have hx_87 := xExt.upd hq_3 hx_81 hM_85
        have h_88 := hR.ext hx_87
        refine lv_dup hC.1 hC.2.1 dX5_ledgerTold_110 rfl ?_
        refine x_bipush hC dX5_ledgerTold_111 (by decide +kernel) ?_
        refine lv_aload_n hC.1 hC.2.1 dX5_ledgerTold_113 rfl (lv_at hl 0 rfl) ?_
        refine x_getR hC hw h_88.1.1 rfl hinX5 1 (by decide) (by decide +kernel) rfl dX5_ledgerTold_114 ?_
        have hrr_89 := iN_rng rfd
        refine x_iast hC hw hA_86 (by omega) (by omega) (by omega) dX5_ledgerTold_117 (fun H locs hw => ?_)
        obtain ⟨M_90, hM_91⟩ : ∃ z, z = va_up M_84 q_2 (some (.inl (G.2 1, 7, .inl (upd (upd (upd (upd (upd (upd (upd (fun _ => 0) (0 : Int).toNat (iN (n))) (1 : Int).toNat (iN (z_56))) (2 : Int).toNat (iN (z_64))) (3 : Int).toNat (iN (ha.toInt))) (4 : Int).toNat (iN (kp.toInt))) (5 : Int).toNat (iN (kv.toInt))) (6 : Int).toNat (iN (rfd.toInt)))))) := ⟨_, rfl⟩
        rw [← hM_91] at hw
        have hA_92 : M_90 q_2 = some (.inl (G.2 1, 7, .inl (upd (upd (upd (upd (upd (upd (upd (fun _ => 0) (0 : Int).toNat (iN (n))) (1 : Int).toNat (iN (z_56))) (2 : Int).toNat (iN (z_64))) (3 : Int).toNat (iN (ha.toInt))) (4 : Int).toNat (iN (kp.toInt))) (5 : Int).toNat (iN (kv.toInt))) (6 : Int).toNat (iN (rfd.toInt))))) := by rw [hM_91, va_up_self]
        have hx_93 := xExt.upd hq_3 hx_87 hM_91
        have h_94 := hR.ext hx_93
        refine lv_astore_n (lv' := [(3, .ref q_2), (0, .ref a), (1, .int (iN (p0))), (2, .int (iN (n))), (4, .int (iN (4))), (5, .int (iN (j)))]) hC.1 hC.2.1 dX5_ledgerTold_118 rfl hl (by decide) rfl (fun ls hl => ?_)
        refine lv_aload_n hC.1 hC.2.1 dX5_ledgerTold_119 rfl (lv_at hl 0 rfl) ?_
        refine lv_iload_n hC.1 hC.2.1 dX5_ledgerTold_120 rfl (lv_at hl 2 rfl) ?_
        refine x_iald hC hw hA_92 (by omega) (by omega) (by omega) dX5_ledgerTold_121 ?_
        obtain ⟨z_95, hz_95⟩ : ∃ z : Int, z = ((upd (upd (upd (upd (upd (upd (upd (fun _ => 0) (0 : Int).toNat (iN (n))) (1 : Int).toNat (iN (z_56))) (2 : Int).toNat (iN (z_64))) (3 : Int).toNat (iN (ha.toInt))) (4 : Int).toNat (iN (kp.toInt))) (5 : Int).toNat (iN (kv.toInt))) (6 : Int).toNat (iN (rfd.toInt))) (p0).toNat).toInt := ⟨_, rfl⟩
        rw [← hz_95]
        have hrz_95 : -2147483648 ≤ z_95 ∧ z_95 ≤ 2147483647 := by rw [hz_95]; exact iN_rng _
        exact x_iret hC hw dX5_ledgerTold_122 (by omega) (by omega) ⟨z_95, rfl, hx_93, by omega⟩
    · refine lv_aload_n hC.1 hC.2.1 dX5_ledgerTold_21 rfl (lv_at hl 3 rfl) ?_
      refine lv_iload hC.1 hC.2.1 dX5_ledgerTold_22 (lv_at hl 5 rfl) ?_
      refine x_ald4 hC hw hR.1.2.2.2.2.1 (by omega) (by omega) (by omega) dX5_ledgerTold_24 ?_
      rcases hy_97 : fy (j).toNat with _ | y_96
      · show W p l e R s m args below meth c _ _ _ _ _ (F0 m 25 ls [.null])
        refine lv_astoreN (lv' := [(6, .null), (0, .ref a), (1, .int (iN (p0))), (2, .int (iN (n))), (3, .ref ya), (4, .int (iN (4))), (5, .int (iN (j)))]) hC.1 hC.2.1 dX5_ledgerTold_25 hl (by decide) rfl (fun ls hl => ?_)
        refine lv_iload_n hC.1 hC.2.1 dX5_ledgerTold_27 rfl (lv_at hl 3 rfl) ?_
        refine lv_aloadN hC.1 hC.2.1 dX5_ledgerTold_28 (lv_at hl 0 rfl) ?_
        refine lv_ifnullN (tgt := 37) hC.1 hC.2.1 dX5_ledgerTold_30 (by decide) ?_
        refine x_const hC dX5_ledgerTold_37 ?_
        refine x_callS hC hw (lv_size hl) (c_X5_one l G (M := M) (p0 := 0) (by omega)) gX5_ledgerTold_X5_one rfl dv_X5_one_s rfl (Nat.le_of_ble_eq_true rfl) (by rw [hRf]; decide) (by rw [hRl]; decide) (by omega) (by omega) dX5_ledgerTold_38 (fun r9 M_98 H locs hq hw => ?_)
        obtain ⟨z_99, rfl, hM9, hz_99a, hz_99b⟩ := hq
        rw [hM9] at hw
        show W p l e R s m args below meth c H locs _ _ _ (F0 m 41 ls [.int (iN (z_99)), .int (iN (n))])
        refine x_iadd hC dX5_ledgerTold_41 ?_
        refine lv_istore_n (lv' := [(2, .int (iN (n + z_99))), (6, .null), (0, .ref a), (1, .int (iN (p0))), (3, .ref ya), (4, .int (iN (4))), (5, .int (iN (j)))]) hC.1 hC.2.1 dX5_ledgerTold_42 rfl hl (by decide) rfl (fun ls hl => ?_)
        refine x_iinc (lv' := [(5, .int (iN (j + 1))), (2, .int (iN (n + z_99))), (6, .null), (0, .ref a), (1, .int (iN (p0))), (3, .ref ya), (4, .int (iN (4)))]) hC dX5_ledgerTold_43 hl (k := 6) rfl (by decide) rfl (fun ls hl => ?_)
        refine lv_goto (tgt := 14) hC.1 hC.2.1 dX5_ledgerTold_46 (by decide) ?_
        exact ih14 (n + z_99) (j + 1)  _ _ _ (by omega) (by omega) (by omega) hw (lv_sub hl [3, 4, 1, 5, 6, 0] rfl)
      · obtain ⟨fi_100, hIi_100⟩ := (hR.vw (show (j).toNat < 4 by omega) hy_97)
        obtain ⟨hvt_101, hat_101, hbt_101, hct_101, hdt_101, het_101⟩ := id hIi_100
        show W p l e R s m args below meth c _ _ _ _ _ (F0 m 25 ls [.ref y_96])
        refine lv_astore (lv' := [(6, .ref y_96), (0, .ref a), (1, .int (iN (p0))), (2, .int (iN (n))), (3, .ref ya), (4, .int (iN (4))), (5, .int (iN (j)))]) hC.1 hC.2.1 dX5_ledgerTold_25 hl (by decide) rfl (fun ls hl => ?_)
        refine lv_iload_n hC.1 hC.2.1 dX5_ledgerTold_27 rfl (lv_at hl 3 rfl) ?_
        refine lv_aload hC.1 hC.2.1 dX5_ledgerTold_28 (lv_at hl 0 rfl) ?_
        refine lv_ifnull hC.1 hC.2.1 dX5_ledgerTold_30 ?_
        refine x_const hC dX5_ledgerTold_33 ?_
        refine lv_goto (tgt := 38) hC.1 hC.2.1 dX5_ledgerTold_34 (by decide) ?_
        refine x_callS hC hw (lv_size hl) (c_X5_one l G (M := M) (p0 := 1) (by omega)) gX5_ledgerTold_X5_one rfl dv_X5_one_s rfl (Nat.le_of_ble_eq_true rfl) (by rw [hRf]; decide) (by rw [hRl]; decide) (by omega) (by omega) dX5_ledgerTold_38 (fun r9 M_102 H locs hq hw => ?_)
        obtain ⟨z_103, rfl, hM9, hz_103a, hz_103b⟩ := hq
        rw [hM9] at hw
        show W p l e R s m args below meth c H locs _ _ _ (F0 m 41 ls [.int (iN (z_103)), .int (iN (n))])
        refine x_iadd hC dX5_ledgerTold_41 ?_
        refine lv_istore_n (lv' := [(2, .int (iN (n + z_103))), (6, .ref y_96), (0, .ref a), (1, .int (iN (p0))), (3, .ref ya), (4, .int (iN (4))), (5, .int (iN (j)))]) hC.1 hC.2.1 dX5_ledgerTold_42 rfl hl (by decide) rfl (fun ls hl => ?_)
        refine x_iinc (lv' := [(5, .int (iN (j + 1))), (2, .int (iN (n + z_103))), (6, .ref y_96), (0, .ref a), (1, .int (iN (p0))), (3, .ref ya), (4, .int (iN (4)))]) hC dX5_ledgerTold_43 hl (k := 6) rfl (by decide) rfl (fun ls hl => ?_)
        refine lv_goto (tgt := 14) hC.1 hC.2.1 dX5_ledgerTold_46 (by decide) ?_
        exact ih14 (n + z_103) (j + 1)  _ _ _ (by omega) (by omega) (by omega) hw (lv_sub hl [3, 4, 1, 5, 6, 0] rfl)
set_option maxHeartbeats 4000000 in
set_option maxRecDepth 100000 in
theorem c_X5_ledger (l : Launch) (G : xG) {M : HM} {a va oa wa ya : Nat} {wk : Option Nat} {th rfd br re la ha kp kv : Int32} {qv qw : Nat → Nat} {fa fb : Nat → Option Nat} {fvv fw : Nat → Nat → Int32} {fo : Nat → Int32} {fy : Nat → Option Nat} {S : Nat → Bool} (hR : MGx G M a va oa wa ya wk th rfd br re la ha kp kv qv qw fa fb fvv fw fo fy S) {p0 : Int} (hp0 : -2147483648 ≤ p0 ∧ p0 ≤ 2147483647) : xMet l G yX5_ledger wsX5_ledger 2 46 1 7 [.ref a, .int (iN (p0))] M (fun r M1 => ∃ z : Int, r = some (.int (iN z)) ∧ (-2147483648 ≤ z ∧ z ≤ 2147483647) ∧ MGm G M1 a rfd S) := by
  refine x_intro (cc := cX5_ledger) (maxL := 2) (ret := (some .int)) (by decide +kernel) rfl (Nat.le_of_ble_eq_true rfl) ?_
  intro p e R s m args below meth c ls hRf hRc hRs hRl hC hw hl
  have hl : lv_has ls 2 [(0, .ref a), (1, .int (iN (p0)))] := hl
  refine lv_aload_n hC.1 hC.2.1 dX5_ledger_0 rfl (lv_at hl 0 rfl) ?_
  refine lv_iload_n hC.1 hC.2.1 dX5_ledger_1 rfl (lv_at hl 1 rfl) ?_
  refine x_const hC dX5_ledger_2 ?_
  refine x_bipush hC dX5_ledger_3 (by decide +kernel) ?_
  refine x_callS hC hw (lv_size hl) (c_X5_isIn l G (M := M) (p0 := p0) (by omega) (p1 := 0) (by omega) (p2 := 6) (by omega)) gX5_ledger_X5_isIn rfl dv_X5_isIn_s rfl (Nat.le_of_ble_eq_true rfl) (by rw [hRf]; decide) (by rw [hRl]; decide) (by omega) (by omega) dX5_ledger_5 (fun r9 M_1 H locs hq hw => ?_)
  obtain ⟨z_2, rfl, hM9, hz_2a, hz_2b, hz_2c⟩ := hq
  rw [hM9] at hw
  show W p l e R s m args below meth c H locs _ _ _ (F0 m 8 ls [.int (iN (z_2)), .ref a])
  refine x_if_ne (tgt := 15) hC ⟨by omega, by omega⟩ dX5_ledger_8 (by decide) (fun c_3 => ?_) (fun c_3 => ?_)
  · refine x_const hC dX5_ledger_15 ?_
    refine x_const hC dX5_ledger_16 ?_
    refine x_callV hC hw (lv_size hl) (c_X5_start l G hR (p0 := 0) (by omega) (p1 := 1) (by omega) (by omega)) gX5_ledger_X5_start rfl dv_X5_start hR.1.1 rfl rfl (Nat.le_of_ble_eq_true rfl) (by rw [hRf]; decide) (by rw [hRl]; decide) (by omega) (by omega) dX5_ledger_17 (fun r9 M_4 H locs hq hw => ?_)
    obtain ⟨z_5, rfl, hz_5a, hz_5b, thk_6, hRk_6⟩ := hq
    show W p l e R s m args below meth c H locs _ _ _ (F0 m 20 ls [.int (iN (z_5))])
    refine x_if_eq (tgt := 27) hC ⟨by omega, by omega⟩ dX5_ledger_20 (by decide) (fun c_7 => ?_) (fun c_7 => ?_)
    · refine lv_aload_n hC.1 hC.2.1 dX5_ledger_27 rfl (lv_at hl 0 rfl) ?_
      refine lv_iload_n hC.1 hC.2.1 dX5_ledger_28 rfl (lv_at hl 1 rfl) ?_
      refine x_callV hC hw (lv_size hl) (c_X5_ledgerTold l G hRk_6 (p0 := p0) (by omega) (by omega)) gX5_ledger_X5_ledgerTold rfl dv_X5_ledgerTold hRk_6.1.1 rfl rfl (Nat.le_of_ble_eq_true rfl) (by rw [hRf]; decide) (by rw [hRl]; decide) (by omega) (by omega) dX5_ledger_29 (fun r9 M_8 H locs hq hw => ?_)
      obtain ⟨z_9, rfl, hxz_9, hz_9a⟩ := hq
      have h_10 := hRk_6.ext hxz_9
      show W p l e R s m args below meth c H locs _ _ _ (F0 m 32 ls [.int (iN (z_9))])
      exact x_iret hC hw dX5_ledger_32 (by omega) (by omega) ⟨z_9, rfl, by omega, ⟨_, _, _, _, _, _, _, _, _, _, _, _, _, _, _, _, _, _, _, _, h_10⟩⟩
    · refine x_const hC dX5_ledger_23 ?_
      refine lv_goto (tgt := 32) hC.1 hC.2.1 dX5_ledger_24 (by decide) ?_
      exact x_iret hC hw dX5_ledger_32 (by omega) (by omega) ⟨0, rfl, by omega, ⟨_, _, _, _, _, _, _, _, _, _, _, _, _, _, _, _, _, _, _, _, hRk_6⟩⟩
  · refine x_const hC dX5_ledger_11 ?_
    refine lv_goto (tgt := 16) hC.1 hC.2.1 dX5_ledger_12 (by decide) ?_
    refine x_const hC dX5_ledger_16 ?_
    refine x_callV hC hw (lv_size hl) (c_X5_start l G hR (p0 := 1) (by omega) (p1 := 1) (by omega) (by omega)) gX5_ledger_X5_start rfl dv_X5_start hR.1.1 rfl rfl (Nat.le_of_ble_eq_true rfl) (by rw [hRf]; decide) (by rw [hRl]; decide) (by omega) (by omega) dX5_ledger_17 (fun r9 M_11 H locs hq hw => ?_)
    obtain ⟨z_12, rfl, hz_12a, hz_12b, thk_13, hRk_13⟩ := hq
    show W p l e R s m args below meth c H locs _ _ _ (F0 m 20 ls [.int (iN (z_12))])
    refine x_if_eq (tgt := 27) hC ⟨by omega, by omega⟩ dX5_ledger_20 (by decide) (fun c_14 => ?_) (fun c_14 => ?_)
    · refine lv_aload_n hC.1 hC.2.1 dX5_ledger_27 rfl (lv_at hl 0 rfl) ?_
      refine lv_iload_n hC.1 hC.2.1 dX5_ledger_28 rfl (lv_at hl 1 rfl) ?_
      refine x_callV hC hw (lv_size hl) (c_X5_ledgerTold l G hRk_13 (p0 := p0) (by omega) (by omega)) gX5_ledger_X5_ledgerTold rfl dv_X5_ledgerTold hRk_13.1.1 rfl rfl (Nat.le_of_ble_eq_true rfl) (by rw [hRf]; decide) (by rw [hRl]; decide) (by omega) (by omega) dX5_ledger_29 (fun r9 M_15 H locs hq hw => ?_)
      obtain ⟨z_16, rfl, hxz_16, hz_16a⟩ := hq
      have h_17 := hRk_13.ext hxz_16
      show W p l e R s m args below meth c H locs _ _ _ (F0 m 32 ls [.int (iN (z_16))])
      exact x_iret hC hw dX5_ledger_32 (by omega) (by omega) ⟨z_16, rfl, by omega, ⟨_, _, _, _, _, _, _, _, _, _, _, _, _, _, _, _, _, _, _, _, h_17⟩⟩
    · refine x_const hC dX5_ledger_23 ?_
      refine lv_goto (tgt := 32) hC.1 hC.2.1 dX5_ledger_24 (by decide) ?_
      exact x_iret hC hw dX5_ledger_32 (by omega) (by omega) ⟨0, rfl, by omega, ⟨_, _, _, _, _, _, _, _, _, _, _, _, _, _, _, _, _, _, _, _, hRk_13⟩⟩
