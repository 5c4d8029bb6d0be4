/-! the methods of the model, by program -/
theorem dv_X5_isIn_s : yX5_isIn.cls ≠ "java/lang/invoke/MethodHandle" ∧ yX5_isIn.cls ≠ "java/lang/invoke/VarHandle" ∧ (parseMethodDescriptor yX5_isIn.desc).map (fun d => d.parameters.length) = some 3 := ⟨nmh_RX5.1, nmh_RX5.2, pds_25⟩
theorem dv_X5_refuse : yX5_refuse.cls = RX5 ∧ yX5_refuse.cls ≠ "java/lang/invoke/MethodHandle" ∧ yX5_refuse.cls ≠ "java/lang/invoke/VarHandle" ∧ (parseMethodDescriptor yX5_refuse.desc).map (fun d => d.parameters.length) = some 2 := ⟨rfl, nmh_RX5.1, nmh_RX5.2, pds_26⟩
theorem dv_X5_isNoBook_s : yX5_isNoBook.cls ≠ "java/lang/invoke/MethodHandle" ∧ yX5_isNoBook.cls ≠ "java/lang/invoke/VarHandle" ∧ (parseMethodDescriptor yX5_isNoBook.desc).map (fun d => d.parameters.length) = some 1 := ⟨nmh_RX5.1, nmh_RX5.2, pds_1⟩
theorem dv_X5_start : yX5_start.cls = RX5 ∧ yX5_start.cls ≠ "java/lang/invoke/MethodHandle" ∧ yX5_start.cls ≠ "java/lang/invoke/VarHandle" ∧ (parseMethodDescriptor yX5_start.desc).map (fun d => d.parameters.length) = some 2 := ⟨rfl, nmh_RX5.1, nmh_RX5.2, pds_26⟩
theorem dv_X5_isNoKey_s : yX5_isNoKey.cls ≠ "java/lang/invoke/MethodHandle" ∧ yX5_isNoKey.cls ≠ "java/lang/invoke/VarHandle" ∧ (parseMethodDescriptor yX5_isNoKey.desc).map (fun d => d.parameters.length) = some 1 := ⟨nmh_RX5.1, nmh_RX5.2, pds_1⟩
theorem dv_X5_isNoValue_s : yX5_isNoValue.cls ≠ "java/lang/invoke/MethodHandle" ∧ yX5_isNoValue.cls ≠ "java/lang/invoke/VarHandle" ∧ (parseMethodDescriptor yX5_isNoValue.desc).map (fun d => d.parameters.length) = some 1 := ⟨nmh_RX5.1, nmh_RX5.2, pds_1⟩
theorem dv_X5_weight : yX5_weight.cls = RX5 ∧ yX5_weight.cls ≠ "java/lang/invoke/MethodHandle" ∧ yX5_weight.cls ≠ "java/lang/invoke/VarHandle" ∧ (parseMethodDescriptor yX5_weight.desc).map (fun d => d.parameters.length) = some 2 := ⟨rfl, nmh_RX5.1, nmh_RX5.2, pds_27⟩
theorem dv_X5_isWithin : yX5_isWithin.cls = RX5 ∧ yX5_isWithin.cls ≠ "java/lang/invoke/MethodHandle" ∧ yX5_isWithin.cls ≠ "java/lang/invoke/VarHandle" ∧ (parseMethodDescriptor yX5_isWithin.desc).map (fun d => d.parameters.length) = some 2 := ⟨rfl, nmh_RX5.1, nmh_RX5.2, pds_28⟩
theorem dv_X5_shows : yX5_shows.cls = RX5 ∧ yX5_shows.cls ≠ "java/lang/invoke/MethodHandle" ∧ yX5_shows.cls ≠ "java/lang/invoke/VarHandle" ∧ (parseMethodDescriptor yX5_shows.desc).map (fun d => d.parameters.length) = some 2 := ⟨rfl, nmh_RX5.1, nmh_RX5.2, pds_28⟩
theorem dv_X5_closest : yX5_closest.cls = RX5 ∧ yX5_closest.cls ≠ "java/lang/invoke/MethodHandle" ∧ yX5_closest.cls ≠ "java/lang/invoke/VarHandle" ∧ (parseMethodDescriptor yX5_closest.desc).map (fun d => d.parameters.length) = some 3 := ⟨rfl, nmh_RX5.1, nmh_RX5.2, pds_29⟩
theorem dv_X5_one_s : yX5_one.cls ≠ "java/lang/invoke/MethodHandle" ∧ yX5_one.cls ≠ "java/lang/invoke/VarHandle" ∧ (parseMethodDescriptor yX5_one.desc).map (fun d => d.parameters.length) = some 1 := ⟨nmh_RX5.1, nmh_RX5.2, pds_30⟩
theorem dv_X5_whole_s : yX5_whole.cls ≠ "java/lang/invoke/MethodHandle" ∧ yX5_whole.cls ≠ "java/lang/invoke/VarHandle" ∧ (parseMethodDescriptor yX5_whole.desc).map (fun d => d.parameters.length) = some 1 := ⟨nmh_RX5.1, nmh_RX5.2, pds_31⟩
theorem dv_X5_set : yX5_set.cls = RX5 ∧ yX5_set.cls ≠ "java/lang/invoke/MethodHandle" ∧ yX5_set.cls ≠ "java/lang/invoke/VarHandle" ∧ (parseMethodDescriptor yX5_set.desc).map (fun d => d.parameters.length) = some 3 := ⟨rfl, nmh_RX5.1, nmh_RX5.2, pds_32⟩
theorem dv_X5_held_s : yX5_held.cls ≠ "java/lang/invoke/MethodHandle" ∧ yX5_held.cls ≠ "java/lang/invoke/VarHandle" ∧ (parseMethodDescriptor yX5_held.desc).map (fun d => d.parameters.length) = some 1 := ⟨nmh_RX5.1, nmh_RX5.2, pds_0⟩
theorem dv_X5_isBad_ : yX5_isBad_.cls = RX5 ∧ yX5_isBad_.cls ≠ "java/lang/invoke/MethodHandle" ∧ yX5_isBad_.cls ≠ "java/lang/invoke/VarHandle" ∧ (parseMethodDescriptor yX5_isBad_.desc).map (fun d => d.parameters.length) = some 3 := ⟨rfl, nmh_RX5.1, nmh_RX5.2, pds_25⟩
theorem dv_X5_touch : yX5_touch.cls = RX5 ∧ yX5_touch.cls ≠ "java/lang/invoke/MethodHandle" ∧ yX5_touch.cls ≠ "java/lang/invoke/VarHandle" ∧ (parseMethodDescriptor yX5_touch.desc).map (fun d => d.parameters.length) = some 1 := ⟨rfl, nmh_RX5.1, nmh_RX5.2, pds_10⟩
theorem dv_X5_isBad : yX5_isBad.cls = RX5 ∧ yX5_isBad.cls ≠ "java/lang/invoke/MethodHandle" ∧ yX5_isBad.cls ≠ "java/lang/invoke/VarHandle" ∧ (parseMethodDescriptor yX5_isBad.desc).map (fun d => d.parameters.length) = some 2 := ⟨rfl, nmh_RX5.1, nmh_RX5.2, pds_7⟩
theorem dv_X5_mergeOf : yX5_mergeOf.cls = RX5 ∧ yX5_mergeOf.cls ≠ "java/lang/invoke/MethodHandle" ∧ yX5_mergeOf.cls ≠ "java/lang/invoke/VarHandle" ∧ (parseMethodDescriptor yX5_mergeOf.desc).map (fun d => d.parameters.length) = some 3 := ⟨rfl, nmh_RX5.1, nmh_RX5.2, pds_32⟩
theorem dv_X5_end : yX5_end.cls = RX5 ∧ yX5_end.cls ≠ "java/lang/invoke/MethodHandle" ∧ yX5_end.cls ≠ "java/lang/invoke/VarHandle" ∧ (parseMethodDescriptor yX5_end.desc).map (fun d => d.parameters.length) = some 2 := ⟨rfl, nmh_RX5.1, nmh_RX5.2, pds_33⟩
theorem dv_X5_having : yX5_having.cls = RX5 ∧ yX5_having.cls ≠ "java/lang/invoke/MethodHandle" ∧ yX5_having.cls ≠ "java/lang/invoke/VarHandle" ∧ (parseMethodDescriptor yX5_having.desc).map (fun d => d.parameters.length) = some 2 := ⟨rfl, nmh_RX5.1, nmh_RX5.2, pds_3⟩
theorem dv_X5_strikeAll : yX5_strikeAll.cls = RX5 ∧ yX5_strikeAll.cls ≠ "java/lang/invoke/MethodHandle" ∧ yX5_strikeAll.cls ≠ "java/lang/invoke/VarHandle" ∧ (parseMethodDescriptor yX5_strikeAll.desc).map (fun d => d.parameters.length) = some 1 := ⟨rfl, nmh_RX5.1, nmh_RX5.2, pds_34⟩
theorem dv_X5_areBad : yX5_areBad.cls = RX5 ∧ yX5_areBad.cls ≠ "java/lang/invoke/MethodHandle" ∧ yX5_areBad.cls ≠ "java/lang/invoke/VarHandle" ∧ (parseMethodDescriptor yX5_areBad.desc).map (fun d => d.parameters.length) = some 2 := ⟨rfl, nmh_RX5.1, nmh_RX5.2, pds_7⟩
theorem dv_X5_many : yX5_many.cls = RX5 ∧ yX5_many.cls ≠ "java/lang/invoke/MethodHandle" ∧ yX5_many.cls ≠ "java/lang/invoke/VarHandle" ∧ (parseMethodDescriptor yX5_many.desc).map (fun d => d.parameters.length) = some 1 := ⟨rfl, nmh_RX5.1, nmh_RX5.2, pds_34⟩
theorem dv_X5_free : yX5_free.cls = RX5 ∧ yX5_free.cls ≠ "java/lang/invoke/MethodHandle" ∧ yX5_free.cls ≠ "java/lang/invoke/VarHandle" ∧ (parseMethodDescriptor yX5_free.desc).map (fun d => d.parameters.length) = some 0 := ⟨rfl, nmh_RX5.1, nmh_RX5.2, pds_4⟩
theorem dv_X5_open : yX5_open.cls = RX5 ∧ yX5_open.cls ≠ "java/lang/invoke/MethodHandle" ∧ yX5_open.cls ≠ "java/lang/invoke/VarHandle" ∧ (parseMethodDescriptor yX5_open.desc).map (fun d => d.parameters.length) = some 1 := ⟨rfl, nmh_RX5.1, nmh_RX5.2, pds_34⟩
theorem dv_X5_isNoView : yX5_isNoView.cls = RX5 ∧ yX5_isNoView.cls ≠ "java/lang/invoke/MethodHandle" ∧ yX5_isNoView.cls ≠ "java/lang/invoke/VarHandle" ∧ (parseMethodDescriptor yX5_isNoView.desc).map (fun d => d.parameters.length) = some 1 := ⟨rfl, nmh_RX5.1, nmh_RX5.2, pds_1⟩
theorem dv_X5_begin : yX5_begin.cls = RX5 ∧ yX5_begin.cls ≠ "java/lang/invoke/MethodHandle" ∧ yX5_begin.cls ≠ "java/lang/invoke/VarHandle" ∧ (parseMethodDescriptor yX5_begin.desc).map (fun d => d.parameters.length) = some 1 := ⟨rfl, nmh_RX5.1, nmh_RX5.2, pds_35⟩
theorem dv_X5_valueOf : yX5_valueOf.cls = RX5 ∧ yX5_valueOf.cls ≠ "java/lang/invoke/MethodHandle" ∧ yX5_valueOf.cls ≠ "java/lang/invoke/VarHandle" ∧ (parseMethodDescriptor yX5_valueOf.desc).map (fun d => d.parameters.length) = some 2 := ⟨rfl, nmh_RX5.1, nmh_RX5.2, pds_3⟩
theorem dv_X5_sum : yX5_sum.cls = RX5 ∧ yX5_sum.cls ≠ "java/lang/invoke/MethodHandle" ∧ yX5_sum.cls ≠ "java/lang/invoke/VarHandle" ∧ (parseMethodDescriptor yX5_sum.desc).map (fun d => d.parameters.length) = some 1 := ⟨rfl, nmh_RX5.1, nmh_RX5.2, pds_34⟩
theorem dv_X5_unlike : yX5_unlike.cls = RX5 ∧ yX5_unlike.cls ≠ "java/lang/invoke/MethodHandle" ∧ yX5_unlike.cls ≠ "java/lang/invoke/VarHandle" ∧ (parseMethodDescriptor yX5_unlike.desc).map (fun d => d.parameters.length) = some 1 := ⟨rfl, nmh_RX5.1, nmh_RX5.2, pds_0⟩
theorem dv_X5_viewsOf : yX5_viewsOf.cls = RX5 ∧ yX5_viewsOf.cls ≠ "java/lang/invoke/MethodHandle" ∧ yX5_viewsOf.cls ≠ "java/lang/invoke/VarHandle" ∧ (parseMethodDescriptor yX5_viewsOf.desc).map (fun d => d.parameters.length) = some 1 := ⟨rfl, nmh_RX5.1, nmh_RX5.2, pds_0⟩
theorem dv_X5_bookTold : yX5_bookTold.cls = RX5 ∧ yX5_bookTold.cls ≠ "java/lang/invoke/MethodHandle" ∧ yX5_bookTold.cls ≠ "java/lang/invoke/VarHandle" ∧ (parseMethodDescriptor yX5_bookTold.desc).map (fun d => d.parameters.length) = some 2 := ⟨rfl, nmh_RX5.1, nmh_RX5.2, pds_3⟩
theorem dv_X5_nearOf : yX5_nearOf.cls = RX5 ∧ yX5_nearOf.cls ≠ "java/lang/invoke/MethodHandle" ∧ yX5_nearOf.cls ≠ "java/lang/invoke/VarHandle" ∧ (parseMethodDescriptor yX5_nearOf.desc).map (fun d => d.parameters.length) = some 3 := ⟨rfl, nmh_RX5.1, nmh_RX5.2, pds_36⟩
theorem dv_X5_nearTold : yX5_nearTold.cls = RX5 ∧ yX5_nearTold.cls ≠ "java/lang/invoke/MethodHandle" ∧ yX5_nearTold.cls ≠ "java/lang/invoke/VarHandle" ∧ (parseMethodDescriptor yX5_nearTold.desc).map (fun d => d.parameters.length) = some 3 := ⟨rfl, nmh_RX5.1, nmh_RX5.2, pds_32⟩
theorem dv_X5_ahead : yX5_ahead.cls = RX5 ∧ yX5_ahead.cls ≠ "java/lang/invoke/MethodHandle" ∧ yX5_ahead.cls ≠ "java/lang/invoke/VarHandle" ∧ (parseMethodDescriptor yX5_ahead.desc).map (fun d => d.parameters.length) = some 2 := ⟨rfl, nmh_RX5.1, nmh_RX5.2, pds_3⟩
theorem dv_X5_areSame : yX5_areSame.cls = RX5 ∧ yX5_areSame.cls ≠ "java/lang/invoke/MethodHandle" ∧ yX5_areSame.cls ≠ "java/lang/invoke/VarHandle" ∧ (parseMethodDescriptor yX5_areSame.desc).map (fun d => d.parameters.length) = some 2 := ⟨rfl, nmh_RX5.1, nmh_RX5.2, pds_7⟩
theorem dv_X5_viewTold : yX5_viewTold.cls = RX5 ∧ yX5_viewTold.cls ≠ "java/lang/invoke/MethodHandle" ∧ yX5_viewTold.cls ≠ "java/lang/invoke/VarHandle" ∧ (parseMethodDescriptor yX5_viewTold.desc).map (fun d => d.parameters.length) = some 2 := ⟨rfl, nmh_RX5.1, nmh_RX5.2, pds_3⟩
theorem dv_X5_ledgerTold : yX5_ledgerTold.cls = RX5 ∧ yX5_ledgerTold.cls ≠ "java/lang/invoke/MethodHandle" ∧ yX5_ledgerTold.cls ≠ "java/lang/invoke/VarHandle" ∧ (parseMethodDescriptor yX5_ledgerTold.desc).map (fun d => d.parameters.length) = some 1 := ⟨rfl, nmh_RX5.1, nmh_RX5.2, pds_0⟩
set_option maxHeartbeats 4000000 in
set_option maxRecDepth 100000 in
theorem c_X5_isIn (l : Launch) (G : xG) {M : HM} {p0 : Int} (hp0 : -2147483648 ≤ p0 ∧ p0 ≤ 2147483647) {p1 : Int} (hp1 : -2147483648 ≤ p1 ∧ p1 ≤ 2147483647) {p2 : Int} (hp2 : -2147483648 ≤ p2 ∧ p2 ≤ 2147483647) : xMet l G yX5_isIn wsX5_isIn 0 0 0 0 [.int (iN (p0)), .int (iN (p1)), .int (iN (p2))] M (fun r M1 => ∃ z : Int, r = some (.int (iN z)) ∧ M1 = M ∧ (z = 0 ∨ z = 1) ∧ (z ≠ 0 → p1 ≤ p0 ∧ p0 ≤ p2) ∧ (z = 0 → p0 < p1 ∨ p2 < p0)) := by
  refine x_intro (cc := cX5_isIn) (maxL := 3) (ret := (some .boolean)) (by exact pln_RX5) rfl (Nat.le_of_ble_eq_true rfl) ?_
  intro p e R s m args below meth c ls hRf hRc hRs hRl hC hw hl
  have hl : lv_has ls 3 [(0, .int (iN (p0))), (1, .int (iN (p1))), (2, .int (iN (p2)))] := hl
  refine lv_iload_n hC.1 hC.2.1 dX5_isIn_0 rfl (lv_at hl 0 rfl) ?_
  refine lv_iload_n hC.1 hC.2.1 dX5_isIn_1 rfl (lv_at hl 1 rfl) ?_
  refine x_icmp_lt (tgt := 14) hC ⟨by omega, by omega⟩ ⟨by omega, by omega⟩ dX5_isIn_2 (by decide) (fun c_1 => ?_) (fun c_1 => ?_)
  · refine x_const hC dX5_isIn_14 ?_
    exact x_zret hC hw (by omega) dX5_isIn_15 (by first | decide | omega) (by first | decide | omega) ⟨0, rfl, rfl, by omega, by omega, by omega⟩
  · refine lv_iload_n hC.1 hC.2.1 dX5_isIn_5 rfl (lv_at hl 0 rfl) ?_
    refine lv_iload_n hC.1 hC.2.1 dX5_isIn_6 rfl (lv_at hl 2 rfl) ?_
    refine x_icmp_gt (tgt := 14) hC ⟨by omega, by omega⟩ ⟨by omega, by omega⟩ dX5_isIn_7 (by decide) (fun c_2 => ?_) (fun c_2 => ?_)
    · refine x_const hC dX5_isIn_14 ?_
      exact x_zret hC hw (by omega) dX5_isIn_15 (by first | decide | omega) (by first | decide | omega) ⟨0, rfl, rfl, by omega, by omega, by omega⟩
    · refine x_const hC dX5_isIn_10 ?_
      refine lv_goto (tgt := 15) hC.1 hC.2.1 dX5_isIn_11 (by decide) ?_
      exact x_zret hC hw (by omega) dX5_isIn_15 (by first | decide | omega) (by first | decide | omega) ⟨1, rfl, rfl, by omega, by omega, by omega⟩
set_option maxHeartbeats 4000000 in
set_option maxRecDepth 100000 in
theorem c_X5_one (l : Launch) (G : xG) {M : HM} {p0 : Int} (hp0 : -2147483648 ≤ p0 ∧ p0 ≤ 2147483647) : xMet l G yX5_one wsX5_one 0 0 0 0 [.int (iN (p0))] M (fun r M1 => ∃ z : Int, r = some (.int (iN z)) ∧ M1 = M ∧ (z = 0 ∨ z = 1) ∧ z = (if p0 = 0 then 0 else 1)) := by
  refine x_intro (cc := cX5_one) (maxL := 1) (ret := (some .int)) (by exact pln_RX5) rfl (Nat.le_of_ble_eq_true rfl) ?_
  intro p e R s m args below meth c ls hRf hRc hRs hRl hC hw hl
  have hl : lv_has ls 1 [(0, .int (iN (p0)))] := hl
  refine lv_iload_n hC.1 hC.2.1 dX5_one_0 rfl (lv_at hl 0 rfl) ?_
  refine x_if_eq (tgt := 8) hC ⟨by omega, by omega⟩ dX5_one_1 (by decide) (fun c_1 => ?_) (fun c_1 => ?_)
  · refine x_const hC dX5_one_8 ?_
    exact x_iret hC hw dX5_one_9 (by first | decide | omega) (by first | decide | omega) ⟨0, rfl, rfl, by omega, by omega⟩
  · refine x_const hC dX5_one_4 ?_
    refine lv_goto (tgt := 9) hC.1 hC.2.1 dX5_one_5 (by decide) ?_
    exact x_iret hC hw dX5_one_9 (by first | decide | omega) (by first | decide | omega) ⟨1, rfl, rfl, by omega, by omega⟩
set_option maxHeartbeats 4000000 in
set_option maxRecDepth 100000 in
theorem c_X5_held (l : Launch) (G : xG) {M : HM} {p0 : Int} (hp0 : -2147483648 ≤ p0 ∧ p0 ≤ 2147483647) : xMet l G yX5_held wsX5_held 0 0 0 0 [.int (iN (p0))] M (fun r M1 => ∃ z : Int, r = some (.int (iN z)) ∧ M1 = M ∧ (-9999 ≤ z ∧ z ≤ 9999) ∧ ((9999 < p0 ∧ z = 9999) ∨ (p0 < -9999 ∧ z = -9999) ∨ ((-9999 ≤ p0 ∧ p0 ≤ 9999) ∧ z = p0))) := by
  refine x_intro (cc := cX5_held) (maxL := 1) (ret := (some .int)) (by exact pln_RX5) rfl (Nat.le_of_ble_eq_true rfl) ?_
  intro p e R s m args below meth c ls hRf hRc hRs hRl hC hw hl
  have hl : lv_has ls 1 [(0, .int (iN (p0)))] := hl
  refine lv_iload_n hC.1 hC.2.1 dX5_held_0 rfl (lv_at hl 0 rfl) ?_
  refine x_sipush hC dX5_held_1 (by decide +kernel) ?_
  refine x_icmp_le (tgt := 13) hC ⟨by omega, by omega⟩ ⟨by omega, by omega⟩ dX5_held_4 (by decide) (fun c_1 => ?_) (fun c_1 => ?_)
  · refine lv_iload_n hC.1 hC.2.1 dX5_held_13 rfl (lv_at hl 0 rfl) ?_
    refine x_sipush hC dX5_held_14 (by decide +kernel) ?_
    refine x_icmp_ge (tgt := 26) hC ⟨by omega, by omega⟩ ⟨by omega, by omega⟩ dX5_held_17 (by decide) (fun c_2 => ?_) (fun c_2 => ?_)
    · refine lv_iload_n hC.1 hC.2.1 dX5_held_26 rfl (lv_at hl 0 rfl) ?_
      exact x_iret hC hw dX5_held_27 (by first | decide | omega) (by first | decide | omega) ⟨p0, rfl, rfl, by omega, by omega⟩
    · refine x_sipush hC dX5_held_20 (by decide +kernel) ?_
      refine lv_goto (tgt := 27) hC.1 hC.2.1 dX5_held_23 (by decide) ?_
      exact x_iret hC hw dX5_held_27 (by first | decide | omega) (by first | decide | omega) ⟨(-9999), rfl, rfl, by omega, by omega⟩
  · refine x_sipush hC dX5_held_7 (by decide +kernel) ?_
    refine lv_goto (tgt := 27) hC.1 hC.2.1 dX5_held_10 (by decide) ?_
    exact x_iret hC hw dX5_held_27 (by first | decide | omega) (by first | decide | omega) ⟨9999, rfl, rfl, by omega, by omega⟩
set_option maxHeartbeats 4000000 in
set_option maxRecDepth 100000 in
theorem c_X5_isNoBook (l : Launch) (G : xG) {M : HM} {p0 : Int} (hp0 : -2147483648 ≤ p0 ∧ p0 ≤ 2147483647) : xMet l G yX5_isNoBook wsX5_isNoBook 1 22 0 0 [.int (iN (p0))] M (fun r M1 => ∃ z : Int, r = some (.int (iN z)) ∧ M1 = M ∧ (z = 0 ∨ z = 1) ∧ (z = 0 ↔ (0 ≤ p0 ∧ p0 ≤ 2))) := by
  refine x_intro (cc := cX5_isNoBook) (maxL := 1) (ret := (some .boolean)) (by exact pln_RX5) rfl (Nat.le_of_ble_eq_true rfl) ?_
  intro p e R s m args below meth c ls hRf hRc hRs hRl hC hw hl
  have hl : lv_has ls 1 [(0, .int (iN (p0)))] := hl
  refine lv_iload_n hC.1 hC.2.1 dX5_isNoBook_0 rfl (lv_at hl 0 rfl) ?_
  refine x_const hC dX5_isNoBook_1 ?_
  refine x_const hC dX5_isNoBook_2 ?_
  refine x_callS hC hw (lv_size hl) (c_X5_isIn l G (M := M) (p0 := p0) (by first | assumption | omega) (p1 := 0) (by omega) (p2 := 2) (by omega)) gX5_isNoBook_X5_isIn rfl dv_X5_isIn_s rfl (Nat.le_of_ble_eq_true rfl) (by rw [hRf]; decide) (by rw [hRl]; decide) (by first | (rw [hRc]; decide) | omega) (by first | (rw [hRs]; decide) | omega) dX5_isNoBook_3 (fun r9 M_1 H locs hq hw => ?_)
  obtain ⟨z_2, rfl, hM9, hz_2a, hz_2b, hz_2c⟩ := hq
  rw [hM9] at hw
  show W p l e R s m args below meth c H locs _ _ _ (F0 m 6 ls [.int (iN (z_2))])
  refine x_if_ne (tgt := 13) hC ⟨by omega, by omega⟩ dX5_isNoBook_6 (by decide) (fun c_3 => ?_) (fun c_3 => ?_)
  · refine x_const hC dX5_isNoBook_13 ?_
    exact x_zret hC hw (by omega) dX5_isNoBook_14 (by first | decide | omega) (by first | decide | omega) ⟨0, rfl, rfl, by omega, by omega⟩
  · refine x_const hC dX5_isNoBook_9 ?_
    refine lv_goto (tgt := 14) hC.1 hC.2.1 dX5_isNoBook_10 (by decide) ?_
    exact x_zret hC hw (by omega) dX5_isNoBook_14 (by first | decide | omega) (by first | decide | omega) ⟨1, rfl, rfl, by omega, by omega⟩
set_option maxHeartbeats 4000000 in
set_option maxRecDepth 100000 in
theorem c_X5_isNoKey (l : Launch) (G : xG) {M : HM} {p0 : Int} (hp0 : -2147483648 ≤ p0 ∧ p0 ≤ 2147483647) : xMet l G yX5_isNoKey wsX5_isNoKey 1 22 0 0 [.int (iN (p0))] M (fun r M1 => ∃ z : Int, r = some (.int (iN z)) ∧ M1 = M ∧ (z = 0 ∨ z = 1) ∧ (z = 0 ↔ (0 ≤ p0 ∧ p0 ≤ 99))) := by
  refine x_intro (cc := cX5_isNoKey) (maxL := 1) (ret := (some .boolean)) (by exact pln_RX5) rfl (Nat.le_of_ble_eq_true rfl) ?_
  intro p e R s m args below meth c ls hRf hRc hRs hRl hC hw hl
  have hl : lv_has ls 1 [(0, .int (iN (p0)))] := hl
  refine lv_iload_n hC.1 hC.2.1 dX5_isNoKey_0 rfl (lv_at hl 0 rfl) ?_
  refine x_const hC dX5_isNoKey_1 ?_
  refine x_bipush hC dX5_isNoKey_2 (by decide +kernel) ?_
  refine x_callS hC hw (lv_size hl) (c_X5_isIn l G (M := M) (p0 := p0) (by first | assumption | omega) (p1 := 0) (by omega) (p2 := 99) (by omega)) gX5_isNoKey_X5_isIn rfl dv_X5_isIn_s rfl (Nat.le_of_ble_eq_true rfl) (by rw [hRf]; decide) (by rw [hRl]; decide) (by first | (rw [hRc]; decide) | omega) (by first | (rw [hRs]; decide) | omega) dX5_isNoKey_4 (fun r9 M_1 H locs hq hw => ?_)
  obtain ⟨z_2, rfl, hM9, hz_2a, hz_2b, hz_2c⟩ := hq
  rw [hM9] at hw
  show W p l e R s m args below meth c H locs _ _ _ (F0 m 7 ls [.int (iN (z_2))])
  refine x_if_ne (tgt := 14) hC ⟨by omega, by omega⟩ dX5_isNoKey_7 (by decide) (fun c_3 => ?_) (fun c_3 => ?_)
  · refine x_const hC dX5_isNoKey_14 ?_
    exact x_zret hC hw (by omega) dX5_isNoKey_15 (by first | decide | omega) (by first | decide | omega) ⟨0, rfl, rfl, by omega, by omega⟩
  · refine x_const hC dX5_isNoKey_10 ?_
    refine lv_goto (tgt := 15) hC.1 hC.2.1 dX5_isNoKey_11 (by decide) ?_
    exact x_zret hC hw (by omega) dX5_isNoKey_15 (by first | decide | omega) (by first | decide | omega) ⟨1, rfl, rfl, by omega, by omega⟩
set_option maxHeartbeats 4000000 in
set_option maxRecDepth 100000 in
theorem c_X5_isNoValue (l : Launch) (G : xG) {M : HM} {p0 : Int} (hp0 : -2147483648 ≤ p0 ∧ p0 ≤ 2147483647) : xMet l G yX5_isNoValue wsX5_isNoValue 1 22 0 0 [.int (iN (p0))] M (fun r M1 => ∃ z : Int, r = some (.int (iN z)) ∧ M1 = M ∧ (z = 0 ∨ z = 1) ∧ (z = 0 ↔ (-9999 ≤ p0 ∧ p0 ≤ 9999))) := by
  refine x_intro (cc := cX5_isNoValue) (maxL := 1) (ret := (some .boolean)) (by exact pln_RX5) rfl (Nat.le_of_ble_eq_true rfl) ?_
  intro p e R s m args below meth c ls hRf hRc hRs hRl hC hw hl
  have hl : lv_has ls 1 [(0, .int (iN (p0)))] := hl
  refine lv_iload_n hC.1 hC.2.1 dX5_isNoValue_0 rfl (lv_at hl 0 rfl) ?_
  refine x_sipush hC dX5_isNoValue_1 (by decide +kernel) ?_
  refine x_sipush hC dX5_isNoValue_4 (by decide +kernel) ?_
  refine x_callS hC hw (lv_size hl) (c_X5_isIn l G (M := M) (p0 := p0) (by first | assumption | omega) (p1 := (-9999)) (by omega) (p2 := 9999) (by omega)) gX5_isNoValue_X5_isIn rfl dv_X5_isIn_s rfl (Nat.le_of_ble_eq_true rfl) (by rw [hRf]; decide) (by rw [hRl]; decide) (by first | (rw [hRc]; decide) | omega) (by first | (rw [hRs]; decide) | omega) dX5_isNoValue_7 (fun r9 M_1 H locs hq hw => ?_)
  obtain ⟨z_2, rfl, hM9, hz_2a, hz_2b, hz_2c⟩ := hq
  rw [hM9] at hw
  show W p l e R s m args below meth c H locs _ _ _ (F0 m 10 ls [.int (iN (z_2))])
  refine x_if_ne (tgt := 17) hC ⟨by omega, by omega⟩ dX5_isNoValue_10 (by decide) (fun c_3 => ?_) (fun c_3 => ?_)
  · refine x_const hC dX5_isNoValue_17 ?_
    exact x_zret hC hw (by omega) dX5_isNoValue_18 (by first | decide | omega) (by first | decide | omega) ⟨0, rfl, rfl, by omega, by omega⟩
  · refine x_const hC dX5_isNoValue_13 ?_
    refine lv_goto (tgt := 18) hC.1 hC.2.1 dX5_isNoValue_14 (by decide) ?_
    exact x_zret hC hw (by omega) dX5_isNoValue_18 (by first | decide | omega) (by first | decide | omega) ⟨1, rfl, rfl, by omega, by omega⟩
set_option maxHeartbeats 4000000 in
set_option maxRecDepth 100000 in
theorem c_X5_isNoView (l : Launch) (G : xG) {M : HM} {a va oa wa ya : Nat} {wk : Option Nat} {th : Int} {rfd : Int32} {br re la ha : Int} {kp kv : Int32} {qv qw : Nat → Nat} {fa fb : Nat → Option Nat} {V : BW} {O : OW} {fy : Nat → Option Nat} {Wv : VW} {wt : Option VT} {S : Nat → Bool} (hR : MGx G M a va oa wa ya wk th rfd br re la ha kp kv qv qw fa fb V O fy Wv wt S) {p0 : Int} (hp0 : -2147483648 ≤ p0 ∧ p0 ≤ 2147483647) : xMet l G yX5_isNoView wsX5_isNoView 1 22 0 0 [.ref a, .int (iN (p0))] M (fun r M1 => ∃ z : Int, r = some (.int (iN z)) ∧ M1 = M ∧ (z = 0 ∨ z = 1) ∧ (z = 0 ↔ (0 ≤ p0 ∧ p0 ≤ 3 ∧ opN (Wv p0.toNat) = 1)) ∧ (z = 0 → fy p0.toNat ≠ none)) := by
  refine x_intro (cc := cX5_isNoView) (maxL := 2) (ret := (some .boolean)) (by exact pln_RX5) rfl (Nat.le_of_ble_eq_true rfl) ?_
  intro p e R s m args below meth c ls hRf hRc hRs hRl hC hw hl
  have hsc0 := hR.sc.1
  have hinX5 : ∀ w ∈ wsX50, w ∈ wsX5_isNoView := fun w h => (List.mem_cons_of_mem _ (List.mem_append_right _ h))
  have hl : lv_has ls 2 [(0, .ref a), (1, .int (iN (p0)))] := hl
  refine lv_iload_n hC.1 hC.2.1 dX5_isNoView_0 rfl (lv_at hl 1 rfl) ?_
  refine x_const hC dX5_isNoView_1 ?_
  refine x_const hC dX5_isNoView_2 ?_
  refine x_callS hC hw (lv_size hl) (c_X5_isIn l G (M := M) (p0 := p0) (by first | assumption | omega) (p1 := 0) (by omega) (p2 := 3) (by omega)) gX5_isNoView_X5_isIn rfl dv_X5_isIn_s rfl (Nat.le_of_ble_eq_true rfl) (by rw [hRf]; decide) (by rw [hRl]; decide) (by first | (rw [hRc]; decide) | omega) (by first | (rw [hRs]; decide) | omega) dX5_isNoView_3 (fun r9 M_1 H locs hq hw => ?_)
  obtain ⟨z_2, rfl, hM9, hz_2a, hz_2b, hz_2c⟩ := hq
  rw [hM9] at hw
  show W p l e R s m args below meth c H locs _ _ _ (F0 m 6 ls [.int (iN (z_2))])
  refine x_if_eq (tgt := 18) hC ⟨by omega, by omega⟩ dX5_isNoView_6 (by decide) (fun c_3 => ?_) (fun c_3 => ?_)
  · refine x_const hC dX5_isNoView_18 ?_
    refine lv_goto (tgt := 23) hC.1 hC.2.1 dX5_isNoView_19 (by decide) ?_
    exact x_zret hC hw (by omega) dX5_isNoView_23 (by first | decide | omega) (by first | decide | omega) ⟨1, rfl, rfl, by omega, by omega, fun q9 => absurd q9 (by omega)⟩
  · refine lv_aload_n hC.1 hC.2.1 dX5_isNoView_9 rfl (lv_at hl 0 rfl) ?_
    refine x_get hC hw hR.1.1 rfl hinX5 5 (by decide) (List.mem_cons_of_mem _ (List.mem_append_left _ (List.mem_of_getElem? (i := 0) rfl))) rfl dX5_isNoView_10 ?_
    refine lv_iload_n hC.1 hC.2.1 dX5_isNoView_13 rfl (lv_at hl 1 rfl) ?_
    refine x_ald4 hC hw hR.1.2.2.2.2.1 (by omega) (by omega) (by omega) dX5_isNoView_14 ?_
    rcases hy_5 : fy ((p0).toNat) with _ | y_4
    · have hnhy_5 : Wv ((p0).toNat) = none := (hR.vw (show (p0).toNat < 4 from tn_lt (by omega) (by decide))).nil hy_5
      have hohy_5 := opN_none hnhy_5
      show W p l e R s m args below meth c _ _ _ _ _ (F0 m 15 ls [.null])
      refine lv_ifnonnullN hC.1 hC.2.1 dX5_isNoView_15 ?_
      refine x_const hC dX5_isNoView_18 ?_
      refine lv_goto (tgt := 23) hC.1 hC.2.1 dX5_isNoView_19 (by decide) ?_
      exact x_zret hC hw (by omega) dX5_isNoView_23 (by first | decide | omega) (by first | decide | omega) ⟨1, rfl, rfl, by omega, by omega, fun q9 => absurd q9 (by omega)⟩
    · obtain ⟨ti_6, fi_6, hui_6, hIi_6⟩ := (hR.vw (show (p0).toNat < 4 from tn_lt (by omega) (by decide))).yes hy_5
      obtain ⟨htat_7, htbt_7, htct_7, htdt_7, htet_7⟩ := id hIi_6.2.1
      have hohy_5 := opN_some hui_6
      show W p l e R s m args below meth c _ _ _ _ _ (F0 m 15 ls [.ref y_4])
      refine lv_ifnonnull (tgt := 22) hC.1 hC.2.1 dX5_isNoView_15 (by decide) ?_
      refine x_const hC dX5_isNoView_22 ?_
      exact x_zret hC hw (by omega) dX5_isNoView_23 (by first | decide | omega) (by first | decide | omega) ⟨0, rfl, rfl, by omega, by omega, fun _ => by first | exact fun q9 => nomatch q9 | (rw [hy_5]; exact fun q9 => nomatch q9)⟩
set_option maxHeartbeats 4000000 in
set_option maxRecDepth 100000 in
theorem c_X5_refuse (l : Launch) (G : xG) {M : HM} {a va oa wa ya : Nat} {wk : Option Nat} {th : Int} {rfd : Int32} {br re la ha : Int} {kp kv : Int32} {qv qw : Nat → Nat} {fa fb : Nat → Option Nat} {V : BW} {O : OW} {fy : Nat → Option Nat} {Wv : VW} {wt : Option VT} {S : Nat → Bool} (hR : MGx G M a va oa wa ya wk th rfd br re la ha kp kv qv qw fa fb V O fy Wv wt S) {p0 : Int} (hp0 : -2147483648 ≤ p0 ∧ p0 ≤ 2147483647) {p1 : Int} (hp1 : -2147483648 ≤ p1 ∧ p1 ≤ 2147483647) (hop : 1 ≤ p1 ∧ p1 ≤ 3) : xMet l G yX5_refuse wsX5_refuse 0 0 0 0 [.ref a, .int (iN (p0)), .int (iN (p1))] M (fun r M1 => ∃ (z : Int) (th1 : Int), r = some (.int (iN z)) ∧ ((z = 0 ∧ th1 = 0 ∧ th = 0 ∧ p0 = 0) ∨ (z = 1 ∧ ((th = 0 ∧ p0 ≠ 0 ∧ th1 = p1) ∨ (th ≠ 0 ∧ th1 = th)))) ∧ xI5 G M M1 ∧ MGx G M1 a va oa wa ya wk th1 rfd br re la ha kp kv qv qw fa fb V O fy Wv wt S) := by
  refine x_intro (cc := cX5_refuse) (maxL := 3) (ret := (some .boolean)) (by exact pln_RX5) rfl (Nat.le_of_ble_eq_true rfl) ?_
  intro p e R s m args below meth c ls hRf hRc hRs hRl hC hw hl
  have hsc0 := hR.sc.1
  have hinX5 : ∀ w ∈ wsX50, w ∈ wsX5_refuse := fun w h => (List.mem_cons_of_mem _ (List.mem_append_right _ h))
  have hl : lv_has ls 3 [(0, .ref a), (1, .int (iN (p0))), (2, .int (iN (p1)))] := hl
  refine lv_iload_n hC.1 hC.2.1 dX5_refuse_0 rfl (lv_at hl 1 rfl) ?_
  refine x_if_eq (tgt := 16) hC ⟨by omega, by omega⟩ dX5_refuse_1 (by decide) (fun c_1 => ?_) (fun c_1 => ?_)
  · refine lv_aload_n hC.1 hC.2.1 dX5_refuse_16 rfl (lv_at hl 0 rfl) ?_
    refine x_get hC hw hR.1.1 rfl hinX5 0 (by decide) (List.mem_cons_of_mem _ (List.mem_append_left _ (List.mem_of_getElem? (i := 0) rfl))) rfl dX5_refuse_17 ?_
    have sc_2 := hR.sc.1
    refine x_if_le (tgt := 27) hC ⟨by omega, by omega⟩ dX5_refuse_20 (by decide) (fun c_3 => ?_) (fun c_3 => ?_)
    · refine x_const hC dX5_refuse_27 ?_
      exact x_zret hC hw (by omega) dX5_refuse_28 (by first | decide | omega) (by first | decide | omega) ⟨0, _, rfl, by omega, xI5.rf, hR⟩
    · refine x_const hC dX5_refuse_23 ?_
      refine lv_goto (tgt := 28) hC.1 hC.2.1 dX5_refuse_24 (by decide) ?_
      exact x_zret hC hw (by omega) dX5_refuse_28 (by first | decide | omega) (by first | decide | omega) ⟨1, _, rfl, by omega, xI5.rf, hR⟩
  · refine lv_aload_n hC.1 hC.2.1 dX5_refuse_4 rfl (lv_at hl 0 rfl) ?_
    refine x_get hC hw hR.1.1 rfl hinX5 0 (by decide) (List.mem_cons_of_mem _ (List.mem_append_left _ (List.mem_of_getElem? (i := 0) rfl))) rfl dX5_refuse_5 ?_
    have sc_4 := hR.sc.1
    refine x_if_ne (tgt := 16) hC ⟨by omega, by omega⟩ dX5_refuse_8 (by decide) (fun c_5 => ?_) (fun c_5 => ?_)
    · refine lv_aload_n hC.1 hC.2.1 dX5_refuse_16 rfl (lv_at hl 0 rfl) ?_
      refine x_get hC hw hR.1.1 rfl hinX5 0 (by decide) (List.mem_cons_of_mem _ (List.mem_append_left _ (List.mem_of_getElem? (i := 0) rfl))) rfl dX5_refuse_17 ?_
      have sc_6 := hR.sc.1
      refine x_if_le (tgt := 27) hC ⟨by omega, by omega⟩ dX5_refuse_20 (by decide) (fun c_7 => ?_) (fun c_7 => ?_)
      · refine x_const hC dX5_refuse_27 ?_
        exact x_zret hC hw (by omega) dX5_refuse_28 (by first | decide | omega) (by first | decide | omega) ⟨0, _, rfl, by omega, xI5.rf, hR⟩
      · refine x_const hC dX5_refuse_23 ?_
        refine lv_goto (tgt := 28) hC.1 hC.2.1 dX5_refuse_24 (by decide) ?_
        exact x_zret hC hw (by omega) dX5_refuse_28 (by first | decide | omega) (by first | decide | omega) ⟨1, _, rfl, by omega, xI5.rf, hR⟩
    · refine lv_aload_n hC.1 hC.2.1 dX5_refuse_11 rfl (lv_at hl 0 rfl) ?_
      refine lv_iload_n hC.1 hC.2.1 dX5_refuse_12 rfl (lv_at hl 2 rfl) ?_
      refine x_put (fs2 := [.int (iN (p1)), .int rfd, .ref va, .ref oa, .ref wa, .ref ya, va_rf (wk), .int (iN (br)), .int (iN (re)), .int (iN (la)), .int (iN (ha)), .int kp, .int kv]) hC hw hR.1.1 rfl hinX5 tyX5 tyX5_ok nmX5 0 (by decide) (List.mem_cons_of_mem _ (List.mem_append_left _ (List.mem_of_getElem? (i := 0) rfl))) rfl rfl rfl (Nat.le_of_ble_eq_true rfl) rfl dX5_refuse_13 (fun H locs hw => ?_)
      obtain ⟨M_8, hM_9⟩ : ∃ z, z = va_up M a (some (.inr (7, [.int (iN (p1)), .int rfd, .ref va, .ref oa, .ref wa, .ref ya, va_rf (wk), .int (iN (br)), .int (iN (re)), .int (iN (la)), .int (iN (ha)), .int kp, .int kv]))) := ⟨_, rfl⟩
      rw [← hM_9] at hw
      have hR_10 : MGx G M_8 a va oa wa ya wk p1 rfd br re la ha kp kv qv qw fa fb V O fy Wv wt S := hR.obj hM_9 ⟨(by omega), hR.sc.2.1, hR.sc.2.2.1, hR.sc.2.2.2.1, hR.sc.2.2.2.2⟩ hR.wk'
      refine lv_aload_n hC.1 hC.2.1 dX5_refuse_16 rfl (lv_at hl 0 rfl) ?_
      refine x_get hC hw hR_10.1.1 rfl hinX5 0 (by decide) (List.mem_cons_of_mem _ (List.mem_append_left _ (List.mem_of_getElem? (i := 0) rfl))) rfl dX5_refuse_17 ?_
      have sc_11 := hR_10.sc.1
      refine x_if_le (tgt := 27) hC ⟨by omega, by omega⟩ dX5_refuse_20 (by decide) (fun c_12 => ?_) (fun c_12 => ?_)
      · refine x_const hC dX5_refuse_27 ?_
        exact x_zret hC hw (by omega) dX5_refuse_28 (by first | decide | omega) (by first | decide | omega) ⟨0, _, rfl, by omega, ((hR.obj5 hM_9)), hR_10⟩
      · refine x_const hC dX5_refuse_23 ?_
        refine lv_goto (tgt := 28) hC.1 hC.2.1 dX5_refuse_24 (by decide) ?_
        exact x_zret hC hw (by omega) dX5_refuse_28 (by first | decide | omega) (by first | decide | omega) ⟨1, _, rfl, by omega, ((hR.obj5 hM_9)), hR_10⟩
set_option maxHeartbeats 4000000 in
set_option maxRecDepth 100000 in
theorem c_X5_start (l : Launch) (G : xG) {M : HM} {a va oa wa ya : Nat} {wk : Option Nat} {th : Int} {rfd : Int32} {br re la ha : Int} {kp kv : Int32} {qv qw : Nat → Nat} {fa fb : Nat → Option Nat} {V : BW} {O : OW} {fy : Nat → Option Nat} {Wv : VW} {wt : Option VT} {S : Nat → Bool} (hR : MGx G M a va oa wa ya wk th rfd br re la ha kp kv qv qw fa fb V O fy Wv wt S) {p0 : Int} (hp0 : -2147483648 ≤ p0 ∧ p0 ≤ 2147483647) {p1 : Int} (hp1 : -2147483648 ≤ p1 ∧ p1 ≤ 2147483647) (hop : 1 ≤ p1 ∧ p1 ≤ 3) : xMet l G yX5_start wsX5_start 1 22 0 0 [.ref a, .int (iN (p0)), .int (iN (p1))] M (fun r M1 => ∃ (z : Int) (th1 : Int), r = some (.int (iN z)) ∧ ((z = 0 ∧ th1 = 0 ∧ p0 = 0) ∨ (z = 1 ∧ (p0 ≠ 0 ∧ th1 = p1))) ∧ xI5 G M M1 ∧ MGx G M1 a va oa wa ya wk th1 rfd br re la ha kp kv qv qw fa fb V O fy Wv wt S) := by
  refine x_intro (cc := cX5_start) (maxL := 3) (ret := (some .boolean)) (by exact pln_RX5) rfl (Nat.le_of_ble_eq_true rfl) ?_
  intro p e R s m args below meth c ls hRf hRc hRs hRl hC hw hl
  have hsc0 := hR.sc.1
  have hinX5 : ∀ w ∈ wsX50, w ∈ wsX5_start := fun w h => (List.mem_cons_of_mem _ (List.mem_append_right _ h))
  have hl : lv_has ls 3 [(0, .ref a), (1, .int (iN (p0))), (2, .int (iN (p1)))] := hl
  refine lv_aload_n hC.1 hC.2.1 dX5_start_0 rfl (lv_at hl 0 rfl) ?_
  refine x_const hC dX5_start_1 ?_
  refine x_put (fs2 := [.int (iN (0)), .int rfd, .ref va, .ref oa, .ref wa, .ref ya, va_rf (wk), .int (iN (br)), .int (iN (re)), .int (iN (la)), .int (iN (ha)), .int kp, .int kv]) hC hw hR.1.1 rfl hinX5 tyX5 tyX5_ok nmX5 0 (by decide) (List.mem_cons_of_mem _ (List.mem_append_left _ (List.mem_of_getElem? (i := 0) rfl))) rfl rfl rfl (Nat.le_of_ble_eq_true rfl) rfl dX5_start_2 (fun H locs hw => ?_)
  obtain ⟨M_1, hM_2⟩ : ∃ z, z = va_up M a (some (.inr (7, [.int (iN (0)), .int rfd, .ref va, .ref oa, .ref wa, .ref ya, va_rf (wk), .int (iN (br)), .int (iN (re)), .int (iN (la)), .int (iN (ha)), .int kp, .int kv]))) := ⟨_, rfl⟩
  rw [← hM_2] at hw
  have hR_3 : MGx G M_1 a va oa wa ya wk 0 rfd br re la ha kp kv qv qw fa fb V O fy Wv wt S := hR.obj hM_2 ⟨(by omega), hR.sc.2.1, hR.sc.2.2.1, hR.sc.2.2.2.1, hR.sc.2.2.2.2⟩ hR.wk'
  refine lv_aload_n hC.1 hC.2.1 dX5_start_5 rfl (lv_at hl 0 rfl) ?_
  refine lv_iload_n hC.1 hC.2.1 dX5_start_6 rfl (lv_at hl 1 rfl) ?_
  refine lv_iload_n hC.1 hC.2.1 dX5_start_7 rfl (lv_at hl 2 rfl) ?_
  refine x_callV hC hw (lv_size hl) (c_X5_refuse l G hR_3 (p0 := p0) (by first | assumption | omega) (p1 := p1) (by first | assumption | omega) (by omega)) gX5_start_X5_refuse rfl dv_X5_refuse hR_3.1.1 rfl rfl (Nat.le_of_ble_eq_true rfl) (by rw [hRf]; decide) (by rw [hRl]; decide) (by first | (rw [hRc]; decide) | omega) (by first | (rw [hRs]; decide) | omega) dX5_start_8 (fun r9 M_4 H locs hq hw => ?_)
  obtain ⟨z_6, thk_5, rfl, hz_6r, hx5k_5, hRk_5⟩ := hq
  have hsck_5 := hRk_5.sc.1
  show W p l e R s m args below meth c H locs _ _ _ (F0 m 11 ls [.int (iN (z_6))])
  exact x_zret hC hw (by omega) dX5_start_11 (by first | decide | omega) (by first | decide | omega) ⟨z_6, _, rfl, by omega, (xI5.tr ((hR.obj5 hM_2)) (hx5k_5)), hRk_5⟩
set_option maxHeartbeats 4000000 in
set_option maxRecDepth 100000 in
theorem c_X5_isBad (l : Launch) (G : xG) {M : HM} {a va oa wa ya : Nat} {wk : Option Nat} {th : Int} {rfd : Int32} {br re la ha : Int} {kp kv : Int32} {qv qw : Nat → Nat} {fa fb : Nat → Option Nat} {V : BW} {O : OW} {fy : Nat → Option Nat} {Wv : VW} {wt : Option VT} {S : Nat → Bool} (hR : MGx G M a va oa wa ya wk th rfd br re la ha kp kv qv qw fa fb V O fy Wv wt S) {p0 : Int} (hp0 : -2147483648 ≤ p0 ∧ p0 ≤ 2147483647) {p1 : Int} (hp1 : -2147483648 ≤ p1 ∧ p1 ≤ 2147483647) : xMet l G yX5_isBad wsX5_isBad 2 44 0 0 [.ref a, .int (iN (p0)), .int (iN (p1))] M (fun r M1 => ∃ (z : Int) (th1 : Int), r = some (.int (iN z)) ∧ ((z = 0 ∧ th1 = 0 ∧ ((0 ≤ p0 ∧ p0 ≤ 2) ∧ (0 ≤ p1 ∧ p1 ≤ 99))) ∨ (z = 1 ∧ ((th1 = 1 ∧ ¬ (0 ≤ p0 ∧ p0 ≤ 2)) ∨ (th1 = 2 ∧ (0 ≤ p0 ∧ p0 ≤ 2) ∧ ¬ (0 ≤ p1 ∧ p1 ≤ 99))))) ∧ xI5 G M M1 ∧ MGx G M1 a va oa wa ya wk th1 rfd br re la ha kp kv qv qw fa fb V O fy Wv wt S) := by
  refine x_intro (cc := cX5_isBad) (maxL := 3) (ret := (some .boolean)) (by exact pln_RX5) rfl (Nat.le_of_ble_eq_true rfl) ?_
  intro p e R s m args below meth c ls hRf hRc hRs hRl hC hw hl
  have hsc0 := hR.sc.1
  have hl : lv_has ls 3 [(0, .ref a), (1, .int (iN (p0))), (2, .int (iN (p1)))] := hl
  refine lv_aload_n hC.1 hC.2.1 dX5_isBad_0 rfl (lv_at hl 0 rfl) ?_
  refine lv_iload_n hC.1 hC.2.1 dX5_isBad_1 rfl (lv_at hl 1 rfl) ?_
  refine x_callS hC hw (lv_size hl) (c_X5_isNoBook l G (M := M) (p0 := p0) (by first | assumption | omega)) gX5_isBad_X5_isNoBook rfl dv_X5_isNoBook_s rfl (Nat.le_of_ble_eq_true rfl) (by rw [hRf]; decide) (by rw [hRl]; decide) (by first | (rw [hRc]; decide) | omega) (by first | (rw [hRs]; decide) | omega) dX5_isBad_2 (fun r9 M_1 H locs hq hw => ?_)
  obtain ⟨z_2, rfl, hM9, hz_2a, hz_2b⟩ := hq
  rw [hM9] at hw
  show W p l e R s m args below meth c H locs _ _ _ (F0 m 5 ls [.int (iN (z_2)), .ref a])
  refine x_const hC dX5_isBad_5 ?_
  refine x_callV hC hw (lv_size hl) (c_X5_start l G hR (p0 := z_2) (by omega) (p1 := 1) (by omega) (by omega)) gX5_isBad_X5_start rfl dv_X5_start hR.1.1 rfl rfl (Nat.le_of_ble_eq_true rfl) (by rw [hRf]; decide) (by rw [hRl]; decide) (by first | (rw [hRc]; decide) | omega) (by first | (rw [hRs]; decide) | omega) dX5_isBad_6 (fun r9 M_3 H locs hq hw => ?_)
  obtain ⟨z_5, thk_4, rfl, hz_5r, hx5k_4, hRk_4⟩ := hq
  have hsck_4 := hRk_4.sc.1
  show W p l e R s m args below meth c H locs _ _ _ (F0 m 9 ls [.int (iN (z_5))])
  refine x_if_ne (tgt := 24) hC ⟨by omega, by omega⟩ dX5_isBad_9 (by decide) (fun c_6 => ?_) (fun c_6 => ?_)
  · replace hz_5r := (hz_5r.resolve_left (fun q9 => c_6 q9.1)).2
    replace hz_2b := mt hz_2b.mpr hz_5r.1
    refine x_const hC dX5_isBad_24 ?_
    refine lv_goto (tgt := 29) hC.1 hC.2.1 dX5_isBad_25 (by decide) ?_
    exact x_zret hC hw (by omega) dX5_isBad_29 (by first | decide | omega) (by first | decide | omega) ⟨1, _, rfl, by omega, (hx5k_4), hRk_4⟩
  · replace hz_5r := (hz_5r.resolve_right (fun q9 => absurd (q9.1.symm.trans c_6) (by decide))).2
    replace hz_2b := hz_2b.mp hz_5r.2
    refine lv_aload_n hC.1 hC.2.1 dX5_isBad_12 rfl (lv_at hl 0 rfl) ?_
    refine lv_iload_n hC.1 hC.2.1 dX5_isBad_13 rfl (lv_at hl 2 rfl) ?_
    refine x_callS hC hw (lv_size hl) (c_X5_isNoKey l G (M := M_3) (p0 := p1) (by first | assumption | omega)) gX5_isBad_X5_isNoKey rfl dv_X5_isNoKey_s rfl (Nat.le_of_ble_eq_true rfl) (by rw [hRf]; decide) (by rw [hRl]; decide) (by first | (rw [hRc]; decide) | omega) (by first | (rw [hRs]; decide) | omega) dX5_isBad_14 (fun r9 M_7 H locs hq hw => ?_)
    obtain ⟨z_8, rfl, hM9, hz_8a, hz_8b⟩ := hq
    rw [hM9] at hw
    show W p l e R s m args below meth c H locs _ _ _ (F0 m 17 ls [.int (iN (z_8)), .ref a])
    refine x_const hC dX5_isBad_17 ?_
    refine x_callV hC hw (lv_size hl) (c_X5_refuse l G hRk_4 (p0 := z_8) (by omega) (p1 := 2) (by omega) (by omega)) gX5_isBad_X5_refuse rfl dv_X5_refuse hRk_4.1.1 rfl rfl (Nat.le_of_ble_eq_true rfl) (by rw [hRf]; decide) (by rw [hRl]; decide) (by first | (rw [hRc]; decide) | omega) (by first | (rw [hRs]; decide) | omega) dX5_isBad_18 (fun r9 M_9 H locs hq hw => ?_)
    obtain ⟨z_11, thk_10, rfl, hz_11r, hx5k_10, hRk_10⟩ := hq
    have hsck_10 := hRk_10.sc.1
    show W p l e R s m args below meth c H locs _ _ _ (F0 m 21 ls [.int (iN (z_11))])
    refine x_if_eq (tgt := 28) hC ⟨by omega, by omega⟩ dX5_isBad_21 (by decide) (fun c_12 => ?_) (fun c_12 => ?_)
    · replace hz_11r := (hz_11r.resolve_right (fun q9 => absurd (q9.1.symm.trans c_12) (by decide))).2
      replace hz_8b := hz_8b.mp hz_11r.2.2
      refine x_const hC dX5_isBad_28 ?_
      exact x_zret hC hw (by omega) dX5_isBad_29 (by first | decide | omega) (by first | decide | omega) ⟨0, _, rfl, by omega, (xI5.tr (hx5k_4) (hx5k_10)), hRk_10⟩
    · replace hz_11r := (hz_11r.resolve_left (fun q9 => c_12 q9.1)).2
      refine x_const hC dX5_isBad_24 ?_
      refine lv_goto (tgt := 29) hC.1 hC.2.1 dX5_isBad_25 (by decide) ?_
      exact x_zret hC hw (by omega) dX5_isBad_29 (by first | decide | omega) (by first | decide | omega) ⟨1, _, rfl, by omega, (xI5.tr (hx5k_4) (hx5k_10)), hRk_10⟩
set_option maxHeartbeats 4000000 in
set_option maxRecDepth 100000 in
theorem c_X5_isBad_ (l : Launch) (G : xG) {M : HM} {a va oa wa ya : Nat} {wk : Option Nat} {th : Int} {rfd : Int32} {br re la ha : Int} {kp kv : Int32} {qv qw : Nat → Nat} {fa fb : Nat → Option Nat} {V : BW} {O : OW} {fy : Nat → Option Nat} {Wv : VW} {wt : Option VT} {S : Nat → Bool} (hR : MGx G M a va oa wa ya wk th rfd br re la ha kp kv qv qw fa fb V O fy Wv wt S) {p0 : Int} (hp0 : -2147483648 ≤ p0 ∧ p0 ≤ 2147483647) {p1 : Int} (hp1 : -2147483648 ≤ p1 ∧ p1 ≤ 2147483647) {p2 : Int} (hp2 : -2147483648 ≤ p2 ∧ p2 ≤ 2147483647) : xMet l G yX5_isBad_ wsX5_isBad_ 2 44 0 0 [.ref a, .int (iN (p0)), .int (iN (p1)), .int (iN (p2))] M (fun r M1 => ∃ (z : Int) (th1 : Int), r = some (.int (iN z)) ∧ ((z = 0 ∧ th1 = 0 ∧ ((0 ≤ p0 ∧ p0 ≤ 2) ∧ ((0 ≤ p1 ∧ p1 ≤ 99) ∧ (-9999 ≤ p2 ∧ p2 ≤ 9999)))) ∨ (z = 1 ∧ ((th1 = 1 ∧ ¬ (0 ≤ p0 ∧ p0 ≤ 2)) ∨ (th1 = 2 ∧ (0 ≤ p0 ∧ p0 ≤ 2) ∧ ¬ ((0 ≤ p1 ∧ p1 ≤ 99) ∧ (-9999 ≤ p2 ∧ p2 ≤ 9999)))))) ∧ xI5 G M M1 ∧ MGx G M1 a va oa wa ya wk th1 rfd br re la ha kp kv qv qw fa fb V O fy Wv wt S) := by
  refine x_intro (cc := cX5_isBad_) (maxL := 4) (ret := (some .boolean)) (by exact pln_RX5) rfl (Nat.le_of_ble_eq_true rfl) ?_
  intro p e R s m args below meth c ls hRf hRc hRs hRl hC hw hl
  have hsc0 := hR.sc.1
  have hl : lv_has ls 4 [(0, .ref a), (1, .int (iN (p0))), (2, .int (iN (p1))), (3, .int (iN (p2)))] := hl
  refine lv_aload_n hC.1 hC.2.1 dX5_isBad__0 rfl (lv_at hl 0 rfl) ?_
  refine lv_iload_n hC.1 hC.2.1 dX5_isBad__1 rfl (lv_at hl 1 rfl) ?_
  refine x_callS hC hw (lv_size hl) (c_X5_isNoBook l G (M := M) (p0 := p0) (by first | assumption | omega)) gX5_isBad__X5_isNoBook rfl dv_X5_isNoBook_s rfl (Nat.le_of_ble_eq_true rfl) (by rw [hRf]; decide) (by rw [hRl]; decide) (by first | (rw [hRc]; decide) | omega) (by first | (rw [hRs]; decide) | omega) dX5_isBad__2 (fun r9 M_1 H locs hq hw => ?_)
  obtain ⟨z_2, rfl, hM9, hz_2a, hz_2b⟩ := hq
  rw [hM9] at hw
  show W p l e R s m args below meth c H locs _ _ _ (F0 m 5 ls [.int (iN (z_2)), .ref a])
  refine x_const hC dX5_isBad__5 ?_
  refine x_callV hC hw (lv_size hl) (c_X5_start l G hR (p0 := z_2) (by omega) (p1 := 1) (by omega) (by omega)) gX5_isBad__X5_start rfl dv_X5_start hR.1.1 rfl rfl (Nat.le_of_ble_eq_true rfl) (by rw [hRf]; decide) (by rw [hRl]; decide) (by first | (rw [hRc]; decide) | omega) (by first | (rw [hRs]; decide) | omega) dX5_isBad__6 (fun r9 M_3 H locs hq hw => ?_)
  obtain ⟨z_5, thk_4, rfl, hz_5r, hx5k_4, hRk_4⟩ := hq
  have hsck_4 := hRk_4.sc.1
  show W p l e R s m args below meth c H locs _ _ _ (F0 m 9 ls [.int (iN (z_5))])
  refine x_if_ne (tgt := 39) hC ⟨by omega, by omega⟩ dX5_isBad__9 (by decide) (fun c_6 => ?_) (fun c_6 => ?_)
  · replace hz_5r := (hz_5r.resolve_left (fun q9 => c_6 q9.1)).2
    replace hz_2b := mt hz_2b.mpr hz_5r.1
    refine x_const hC dX5_isBad__39 ?_
    refine lv_goto (tgt := 44) hC.1 hC.2.1 dX5_isBad__40 (by decide) ?_
    exact x_zret hC hw (by omega) dX5_isBad__44 (by first | decide | omega) (by first | decide | omega) ⟨1, _, rfl, by omega, (hx5k_4), hRk_4⟩
  · replace hz_5r := (hz_5r.resolve_right (fun q9 => absurd (q9.1.symm.trans c_6) (by decide))).2
    replace hz_2b := hz_2b.mp hz_5r.2
    refine lv_aload_n hC.1 hC.2.1 dX5_isBad__12 rfl (lv_at hl 0 rfl) ?_
    refine lv_iload_n hC.1 hC.2.1 dX5_isBad__13 rfl (lv_at hl 2 rfl) ?_
    refine x_callS hC hw (lv_size hl) (c_X5_isNoKey l G (M := M_3) (p0 := p1) (by first | assumption | omega)) gX5_isBad__X5_isNoKey rfl dv_X5_isNoKey_s rfl (Nat.le_of_ble_eq_true rfl) (by rw [hRf]; decide) (by rw [hRl]; decide) (by first | (rw [hRc]; decide) | omega) (by first | (rw [hRs]; decide) | omega) dX5_isBad__14 (fun r9 M_7 H locs hq hw => ?_)
    obtain ⟨z_8, rfl, hM9, hz_8a, hz_8b⟩ := hq
    rw [hM9] at hw
    show W p l e R s m args below meth c H locs _ _ _ (F0 m 17 ls [.int (iN (z_8)), .ref a])
    refine x_if_ne (tgt := 27) hC ⟨by omega, by omega⟩ dX5_isBad__17 (by decide) (fun c_9 => ?_) (fun c_9 => ?_)
    · replace hz_8b := mt hz_8b.mpr c_9
      refine x_const hC dX5_isBad__27 ?_
      refine lv_goto (tgt := 32) hC.1 hC.2.1 dX5_isBad__28 (by decide) ?_
      refine x_const hC dX5_isBad__32 ?_
      refine x_callV hC hw (lv_size hl) (c_X5_refuse l G hRk_4 (p0 := 1) (by omega) (p1 := 2) (by omega) (by omega)) gX5_isBad__X5_refuse rfl dv_X5_refuse hRk_4.1.1 rfl rfl (Nat.le_of_ble_eq_true rfl) (by rw [hRf]; decide) (by rw [hRl]; decide) (by first | (rw [hRc]; decide) | omega) (by first | (rw [hRs]; decide) | omega) dX5_isBad__33 (fun r9 M_10 H locs hq hw => ?_)
      obtain ⟨z_12, thk_11, rfl, hz_12r, hx5k_11, hRk_11⟩ := hq
      have hsck_11 := hRk_11.sc.1
      show W p l e R s m args below meth c H locs _ _ _ (F0 m 36 ls [.int (iN (z_12))])
      refine x_if_eq (tgt := 43) hC ⟨by omega, by omega⟩ dX5_isBad__36 (by decide) (fun c_13 => ?_) (fun c_13 => ?_)
      · replace hz_12r := (hz_12r.resolve_right (fun q9 => absurd (q9.1.symm.trans c_13) (by decide))).2
        exact absurd hz_12r.2.2 (by decide)
      · replace hz_12r := (hz_12r.resolve_left (fun q9 => c_13 q9.1)).2
        refine x_const hC dX5_isBad__39 ?_
        refine lv_goto (tgt := 44) hC.1 hC.2.1 dX5_isBad__40 (by decide) ?_
        exact x_zret hC hw (by omega) dX5_isBad__44 (by first | decide | omega) (by first | decide | omega) ⟨1, _, rfl, by omega, (xI5.tr (hx5k_4) (hx5k_11)), hRk_11⟩
    · replace hz_8b := hz_8b.mp c_9
      refine lv_iload_n hC.1 hC.2.1 dX5_isBad__20 rfl (lv_at hl 3 rfl) ?_
      refine x_callS hC hw (lv_size hl) (c_X5_isNoValue l G (M := M_3) (p0 := p2) (by first | assumption | omega)) gX5_isBad__X5_isNoValue rfl dv_X5_isNoValue_s rfl (Nat.le_of_ble_eq_true rfl) (by rw [hRf]; decide) (by rw [hRl]; decide) (by first | (rw [hRc]; decide) | omega) (by first | (rw [hRs]; decide) | omega) dX5_isBad__21 (fun r9 M_14 H locs hq hw => ?_)
      obtain ⟨z_15, rfl, hM9, hz_15a, hz_15b⟩ := hq
      rw [hM9] at hw
      show W p l e R s m args below meth c H locs _ _ _ (F0 m 24 ls [.int (iN (z_15)), .ref a])
      refine x_if_eq (tgt := 31) hC ⟨by omega, by omega⟩ dX5_isBad__24 (by decide) (fun c_16 => ?_) (fun c_16 => ?_)
      · replace hz_15b := hz_15b.mp c_16
        refine x_const hC dX5_isBad__31 ?_
        refine x_const hC dX5_isBad__32 ?_
        refine x_callV hC hw (lv_size hl) (c_X5_refuse l G hRk_4 (p0 := 0) (by omega) (p1 := 2) (by omega) (by omega)) gX5_isBad__X5_refuse rfl dv_X5_refuse hRk_4.1.1 rfl rfl (Nat.le_of_ble_eq_true rfl) (by rw [hRf]; decide) (by rw [hRl]; decide) (by first | (rw [hRc]; decide) | omega) (by first | (rw [hRs]; decide) | omega) dX5_isBad__33 (fun r9 M_17 H locs hq hw => ?_)
        obtain ⟨z_19, thk_18, rfl, hz_19r, hx5k_18, hRk_18⟩ := hq
        have hsck_18 := hRk_18.sc.1
        show W p l e R s m args below meth c H locs _ _ _ (F0 m 36 ls [.int (iN (z_19))])
        refine x_if_eq (tgt := 43) hC ⟨by omega, by omega⟩ dX5_isBad__36 (by decide) (fun c_20 => ?_) (fun c_20 => ?_)
        · replace hz_19r := (hz_19r.resolve_right (fun q9 => absurd (q9.1.symm.trans c_20) (by decide))).2
          refine x_const hC dX5_isBad__43 ?_
          exact x_zret hC hw (by omega) dX5_isBad__44 (by first | decide | omega) (by first | decide | omega) ⟨0, _, rfl, by omega, (xI5.tr (hx5k_4) (hx5k_18)), hRk_18⟩
        · replace hz_19r := (hz_19r.resolve_left (fun q9 => c_20 q9.1)).2
          refine x_const hC dX5_isBad__39 ?_
          refine lv_goto (tgt := 44) hC.1 hC.2.1 dX5_isBad__40 (by decide) ?_
          exact x_zret hC hw (by omega) dX5_isBad__44 (by first | decide | omega) (by first | decide | omega) ⟨1, _, rfl, by omega, (xI5.tr (hx5k_4) (hx5k_18)), hRk_18⟩
      · replace hz_15b := mt hz_15b.mpr c_16
        refine x_const hC dX5_isBad__27 ?_
        refine lv_goto (tgt := 32) hC.1 hC.2.1 dX5_isBad__28 (by decide) ?_
        refine x_const hC dX5_isBad__32 ?_
        refine x_callV hC hw (lv_size hl) (c_X5_refuse l G hRk_4 (p0 := 1) (by omega) (p1 := 2) (by omega) (by omega)) gX5_isBad__X5_refuse rfl dv_X5_refuse hRk_4.1.1 rfl rfl (Nat.le_of_ble_eq_true rfl) (by rw [hRf]; decide) (by rw [hRl]; decide) (by first | (rw [hRc]; decide) | omega) (by first | (rw [hRs]; decide) | omega) dX5_isBad__33 (fun r9 M_21 H locs hq hw => ?_)
        obtain ⟨z_23, thk_22, rfl, hz_23r, hx5k_22, hRk_22⟩ := hq
        have hsck_22 := hRk_22.sc.1
        show W p l e R s m args below meth c H locs _ _ _ (F0 m 36 ls [.int (iN (z_23))])
        refine x_if_eq (tgt := 43) hC ⟨by omega, by omega⟩ dX5_isBad__36 (by decide) (fun c_24 => ?_) (fun c_24 => ?_)
        · replace hz_23r := (hz_23r.resolve_right (fun q9 => absurd (q9.1.symm.trans c_24) (by decide))).2
          exact absurd hz_23r.2.2 (by decide)
        · replace hz_23r := (hz_23r.resolve_left (fun q9 => c_24 q9.1)).2
          refine x_const hC dX5_isBad__39 ?_
          refine lv_goto (tgt := 44) hC.1 hC.2.1 dX5_isBad__40 (by decide) ?_
          exact x_zret hC hw (by omega) dX5_isBad__44 (by first | decide | omega) (by first | decide | omega) ⟨1, _, rfl, by omega, (xI5.tr (hx5k_4) (hx5k_22)), hRk_22⟩
set_option maxHeartbeats 4000000 in
set_option maxRecDepth 100000 in
theorem c_X5_areBad (l : Launch) (G : xG) {M : HM} {a va oa wa ya : Nat} {wk : Option Nat} {th : Int} {rfd : Int32} {br re la ha : Int} {kp kv : Int32} {qv qw : Nat → Nat} {fa fb : Nat → Option Nat} {V : BW} {O : OW} {fy : Nat → Option Nat} {Wv : VW} {wt : Option VT} {S : Nat → Bool} (hR : MGx G M a va oa wa ya wk th rfd br re la ha kp kv qv qw fa fb V O fy Wv wt S) {p0 : Int} (hp0 : -2147483648 ≤ p0 ∧ p0 ≤ 2147483647) {p1 : Int} (hp1 : -2147483648 ≤ p1 ∧ p1 ≤ 2147483647) : xMet l G yX5_areBad wsX5_areBad 2 44 0 0 [.ref a, .int (iN (p0)), .int (iN (p1))] M (fun r M1 => ∃ (z : Int) (th1 : Int), r = some (.int (iN z)) ∧ ((z = 0 ∧ th1 = 0 ∧ (((0 ≤ p0 ∧ p0 ≤ 2) ∧ (0 ≤ p1 ∧ p1 ≤ 2)) ∧ (p0 ≠ p1))) ∨ (z = 1 ∧ ((th1 = 1 ∧ ¬ ((0 ≤ p0 ∧ p0 ≤ 2) ∧ (0 ≤ p1 ∧ p1 ≤ 2))) ∨ (th1 = 2 ∧ ((0 ≤ p0 ∧ p0 ≤ 2) ∧ (0 ≤ p1 ∧ p1 ≤ 2)) ∧ ¬ (p0 ≠ p1))))) ∧ xI5 G M M1 ∧ MGx G M1 a va oa wa ya wk th1 rfd br re la ha kp kv qv qw fa fb V O fy Wv wt S) := by
  refine x_intro (cc := cX5_areBad) (maxL := 3) (ret := (some .boolean)) (by exact pln_RX5) rfl (Nat.le_of_ble_eq_true rfl) ?_
  intro p e R s m args below meth c ls hRf hRc hRs hRl hC hw hl
  have hsc0 := hR.sc.1
  have hl : lv_has ls 3 [(0, .ref a), (1, .int (iN (p0))), (2, .int (iN (p1)))] := hl
  refine lv_aload_n hC.1 hC.2.1 dX5_areBad_0 rfl (lv_at hl 0 rfl) ?_
  refine lv_iload_n hC.1 hC.2.1 dX5_areBad_1 rfl (lv_at hl 1 rfl) ?_
  refine x_callS hC hw (lv_size hl) (c_X5_isNoBook l G (M := M) (p0 := p0) (by first | assumption | omega)) gX5_areBad_X5_isNoBook rfl dv_X5_isNoBook_s rfl (Nat.le_of_ble_eq_true rfl) (by rw [hRf]; decide) (by rw [hRl]; decide) (by first | (rw [hRc]; decide) | omega) (by first | (rw [hRs]; decide) | omega) dX5_areBad_2 (fun r9 M_1 H locs hq hw => ?_)
  obtain ⟨z_2, rfl, hM9, hz_2a, hz_2b⟩ := hq
  rw [hM9] at hw
  show W p l e R s m args below meth c H locs _ _ _ (F0 m 5 ls [.int (iN (z_2)), .ref a])
  refine x_if_ne (tgt := 15) hC ⟨by omega, by omega⟩ dX5_areBad_5 (by decide) (fun c_3 => ?_) (fun c_3 => ?_)
  · replace hz_2b := mt hz_2b.mpr c_3
    refine x_const hC dX5_areBad_15 ?_
    refine lv_goto (tgt := 20) hC.1 hC.2.1 dX5_areBad_16 (by decide) ?_
    refine x_const hC dX5_areBad_20 ?_
    refine x_callV hC hw (lv_size hl) (c_X5_start l G hR (p0 := 1) (by omega) (p1 := 1) (by omega) (by omega)) gX5_areBad_X5_start rfl dv_X5_start hR.1.1 rfl rfl (Nat.le_of_ble_eq_true rfl) (by rw [hRf]; decide) (by rw [hRl]; decide) (by first | (rw [hRc]; decide) | omega) (by first | (rw [hRs]; decide) | omega) dX5_areBad_21 (fun r9 M_4 H locs hq hw => ?_)
    obtain ⟨z_6, thk_5, rfl, hz_6r, hx5k_5, hRk_5⟩ := hq
    have hsck_5 := hRk_5.sc.1
    show W p l e R s m args below meth c H locs _ _ _ (F0 m 24 ls [.int (iN (z_6))])
    refine x_if_ne (tgt := 45) hC ⟨by omega, by omega⟩ dX5_areBad_24 (by decide) (fun c_7 => ?_) (fun c_7 => ?_)
    · replace hz_6r := (hz_6r.resolve_left (fun q9 => c_7 q9.1)).2
      refine x_const hC dX5_areBad_45 ?_
      refine lv_goto (tgt := 50) hC.1 hC.2.1 dX5_areBad_46 (by decide) ?_
      exact x_zret hC hw (by omega) dX5_areBad_50 (by first | decide | omega) (by first | decide | omega) ⟨1, _, rfl, by omega, (hx5k_5), hRk_5⟩
    · replace hz_6r := (hz_6r.resolve_right (fun q9 => absurd (q9.1.symm.trans c_7) (by decide))).2
      exact absurd hz_6r.2 (by decide)
  · replace hz_2b := hz_2b.mp c_3
    refine lv_iload_n hC.1 hC.2.1 dX5_areBad_8 rfl (lv_at hl 2 rfl) ?_
    refine x_callS hC hw (lv_size hl) (c_X5_isNoBook l G (M := M) (p0 := p1) (by first | assumption | omega)) gX5_areBad_X5_isNoBook rfl dv_X5_isNoBook_s rfl (Nat.le_of_ble_eq_true rfl) (by rw [hRf]; decide) (by rw [hRl]; decide) (by first | (rw [hRc]; decide) | omega) (by first | (rw [hRs]; decide) | omega) dX5_areBad_9 (fun r9 M_8 H locs hq hw => ?_)
    obtain ⟨z_9, rfl, hM9, hz_9a, hz_9b⟩ := hq
    rw [hM9] at hw
    show W p l e R s m args below meth c H locs _ _ _ (F0 m 12 ls [.int (iN (z_9)), .ref a])
    refine x_if_eq (tgt := 19) hC ⟨by omega, by omega⟩ dX5_areBad_12 (by decide) (fun c_10 => ?_) (fun c_10 => ?_)
    · replace hz_9b := hz_9b.mp c_10
      refine x_const hC dX5_areBad_19 ?_
      refine x_const hC dX5_areBad_20 ?_
      refine x_callV hC hw (lv_size hl) (c_X5_start l G hR (p0 := 0) (by omega) (p1 := 1) (by omega) (by omega)) gX5_areBad_X5_start rfl dv_X5_start hR.1.1 rfl rfl (Nat.le_of_ble_eq_true rfl) (by rw [hRf]; decide) (by rw [hRl]; decide) (by first | (rw [hRc]; decide) | omega) (by first | (rw [hRs]; decide) | omega) dX5_areBad_21 (fun r9 M_11 H locs hq hw => ?_)
      obtain ⟨z_13, thk_12, rfl, hz_13r, hx5k_12, hRk_12⟩ := hq
      have hsck_12 := hRk_12.sc.1
      show W p l e R s m args below meth c H locs _ _ _ (F0 m 24 ls [.int (iN (z_13))])
      refine x_if_ne (tgt := 45) hC ⟨by omega, by omega⟩ dX5_areBad_24 (by decide) (fun c_14 => ?_) (fun c_14 => ?_)
      · replace hz_13r := (hz_13r.resolve_left (fun q9 => c_14 q9.1)).2
        refine x_const hC dX5_areBad_45 ?_
        refine lv_goto (tgt := 50) hC.1 hC.2.1 dX5_areBad_46 (by decide) ?_
        exact x_zret hC hw (by omega) dX5_areBad_50 (by first | decide | omega) (by first | decide | omega) ⟨1, _, rfl, by omega, (hx5k_12), hRk_12⟩
      · replace hz_13r := (hz_13r.resolve_right (fun q9 => absurd (q9.1.symm.trans c_14) (by decide))).2
        refine lv_aload_n hC.1 hC.2.1 dX5_areBad_27 rfl (lv_at hl 0 rfl) ?_
        refine lv_iload_n hC.1 hC.2.1 dX5_areBad_28 rfl (lv_at hl 1 rfl) ?_
        refine lv_iload_n hC.1 hC.2.1 dX5_areBad_29 rfl (lv_at hl 2 rfl) ?_
        refine x_icmp_ne (tgt := 37) hC ⟨by omega, by omega⟩ ⟨by omega, by omega⟩ dX5_areBad_30 (by decide) (fun c_15 => ?_) (fun c_15 => ?_)
        · refine x_const hC dX5_areBad_37 ?_
          refine x_const hC dX5_areBad_38 ?_
          refine x_callV hC hw (lv_size hl) (c_X5_refuse l G hRk_12 (p0 := 0) (by omega) (p1 := 2) (by omega) (by omega)) gX5_areBad_X5_refuse rfl dv_X5_refuse hRk_12.1.1 rfl rfl (Nat.le_of_ble_eq_true rfl) (by rw [hRf]; decide) (by rw [hRl]; decide) (by first | (rw [hRc]; decide) | omega) (by first | (rw [hRs]; decide) | omega) dX5_areBad_39 (fun r9 M_16 H locs hq hw => ?_)
          obtain ⟨z_18, thk_17, rfl, hz_18r, hx5k_17, hRk_17⟩ := hq
          have hsck_17 := hRk_17.sc.1
          show W p l e R s m args below meth c H locs _ _ _ (F0 m 42 ls [.int (iN (z_18))])
          refine x_if_eq (tgt := 49) hC ⟨by omega, by omega⟩ dX5_areBad_42 (by decide) (fun c_19 => ?_) (fun c_19 => ?_)
          · replace hz_18r := (hz_18r.resolve_right (fun q9 => absurd (q9.1.symm.trans c_19) (by decide))).2
            refine x_const hC dX5_areBad_49 ?_
            exact x_zret hC hw (by omega) dX5_areBad_50 (by first | decide | omega) (by first | decide | omega) ⟨0, _, rfl, by omega, (xI5.tr (hx5k_12) (hx5k_17)), hRk_17⟩
          · replace hz_18r := (hz_18r.resolve_left (fun q9 => c_19 q9.1)).2
            refine x_const hC dX5_areBad_45 ?_
            refine lv_goto (tgt := 50) hC.1 hC.2.1 dX5_areBad_46 (by decide) ?_
            exact x_zret hC hw (by omega) dX5_areBad_50 (by first | decide | omega) (by first | decide | omega) ⟨1, _, rfl, by omega, (xI5.tr (hx5k_12) (hx5k_17)), hRk_17⟩
        · refine x_const hC dX5_areBad_33 ?_
          refine lv_goto (tgt := 38) hC.1 hC.2.1 dX5_areBad_34 (by decide) ?_
          refine x_const hC dX5_areBad_38 ?_
          refine x_callV hC hw (lv_size hl) (c_X5_refuse l G hRk_12 (p0 := 1) (by omega) (p1 := 2) (by omega) (by omega)) gX5_areBad_X5_refuse rfl dv_X5_refuse hRk_12.1.1 rfl rfl (Nat.le_of_ble_eq_true rfl) (by rw [hRf]; decide) (by rw [hRl]; decide) (by first | (rw [hRc]; decide) | omega) (by first | (rw [hRs]; decide) | omega) dX5_areBad_39 (fun r9 M_20 H locs hq hw => ?_)
          obtain ⟨z_22, thk_21, rfl, hz_22r, hx5k_21, hRk_21⟩ := hq
          have hsck_21 := hRk_21.sc.1
          show W p l e R s m args below meth c H locs _ _ _ (F0 m 42 ls [.int (iN (z_22))])
          refine x_if_eq (tgt := 49) hC ⟨by omega, by omega⟩ dX5_areBad_42 (by decide) (fun c_23 => ?_) (fun c_23 => ?_)
          · replace hz_22r := (hz_22r.resolve_right (fun q9 => absurd (q9.1.symm.trans c_23) (by decide))).2
            exact absurd hz_22r.2.2 (by decide)
          · replace hz_22r := (hz_22r.resolve_left (fun q9 => c_23 q9.1)).2
            refine x_const hC dX5_areBad_45 ?_
            refine lv_goto (tgt := 50) hC.1 hC.2.1 dX5_areBad_46 (by decide) ?_
            exact x_zret hC hw (by omega) dX5_areBad_50 (by first | decide | omega) (by first | decide | omega) ⟨1, _, rfl, by omega, (xI5.tr (hx5k_12) (hx5k_21)), hRk_21⟩
    · replace hz_9b := mt hz_9b.mpr c_10
      refine x_const hC dX5_areBad_15 ?_
      refine lv_goto (tgt := 20) hC.1 hC.2.1 dX5_areBad_16 (by decide) ?_
      refine x_const hC dX5_areBad_20 ?_
      refine x_callV hC hw (lv_size hl) (c_X5_start l G hR (p0 := 1) (by omega) (p1 := 1) (by omega) (by omega)) gX5_areBad_X5_start rfl dv_X5_start hR.1.1 rfl rfl (Nat.le_of_ble_eq_true rfl) (by rw [hRf]; decide) (by rw [hRl]; decide) (by first | (rw [hRc]; decide) | omega) (by first | (rw [hRs]; decide) | omega) dX5_areBad_21 (fun r9 M_24 H locs hq hw => ?_)
      obtain ⟨z_26, thk_25, rfl, hz_26r, hx5k_25, hRk_25⟩ := hq
      have hsck_25 := hRk_25.sc.1
      show W p l e R s m args below meth c H locs _ _ _ (F0 m 24 ls [.int (iN (z_26))])
      refine x_if_ne (tgt := 45) hC ⟨by omega, by omega⟩ dX5_areBad_24 (by decide) (fun c_27 => ?_) (fun c_27 => ?_)
      · replace hz_26r := (hz_26r.resolve_left (fun q9 => c_27 q9.1)).2
        refine x_const hC dX5_areBad_45 ?_
        refine lv_goto (tgt := 50) hC.1 hC.2.1 dX5_areBad_46 (by decide) ?_
        exact x_zret hC hw (by omega) dX5_areBad_50 (by first | decide | omega) (by first | decide | omega) ⟨1, _, rfl, by omega, (hx5k_25), hRk_25⟩
      · replace hz_26r := (hz_26r.resolve_right (fun q9 => absurd (q9.1.symm.trans c_27) (by decide))).2
        exact absurd hz_26r.2 (by decide)
set_option maxHeartbeats 4000000 in
set_option maxRecDepth 100000 in
theorem c_X5_whole (l : Launch) (G : xG) {M : HM} {p0 : Int} (hp0 : -2147483648 ≤ p0 ∧ p0 ≤ 2147483647) (hop : 0 ≤ p0 ∧ p0 ≤ 2) : xMet l G yX5_whole wsX5_whole 0 0 1 5 [.int (iN (p0))] M (fun r M1 => ∃ (q : Nat) (f : Nat → Int32), r = some (.ref q) ∧ xExt M M1 ∧ Its G M1 q f (whT p0.toNat)) := by
  refine x_intro (cc := cX5_whole) (maxL := 1) (ret := (some (.array .int))) (by exact pln_RX5) rfl (Nat.le_of_ble_eq_true rfl) ?_
  intro p e R s m args below meth c ls hRf hRc hRs hRl hC hw hl
  have hl : lv_has ls 1 [(0, .int (iN (p0)))] := hl
  refine x_const hC dX5_whole_0 ?_
  refine x_newI hC hw (by decide +kernel) 5 rfl (by decide) (by omega) (by omega) dX5_whole_1 (fun q_1 H hq_2 hw => ?_)
  obtain ⟨M_3, hM_4⟩ : ∃ z, z = va_up M q_1 (some (.inl (G.2 1, 5, .inl (fun _ => 0)))) := ⟨_, rfl⟩
  rw [← hM_4] at hw
  have hx_5 : xExt M M_3 := by rw [hM_4]; exact xExt.new hq_2
  have hA_6 : M_3 q_1 = some (.inl (G.2 1, 5, .inl (fun _ => 0))) := by rw [hM_4, va_up_self]
  refine lv_dup hC.1 hC.2.1 dX5_whole_3 rfl ?_
  refine x_const hC dX5_whole_4 ?_
  refine lv_iload_n hC.1 hC.2.1 dX5_whole_5 rfl (lv_at hl 0 rfl) ?_
  refine x_iast hC hw hA_6 (by omega) (by omega) (by omega) dX5_whole_6 (fun H locs hw => ?_)
  obtain ⟨M_7, hM_8⟩ : ∃ z, z = va_up M_3 q_1 (some (.inl (G.2 1, 5, .inl (upd (fun _ => 0) (0 : Int).toNat (iN (p0)))))) := ⟨_, rfl⟩
  rw [← hM_8] at hw
  have hA_9 : M_7 q_1 = some (.inl (G.2 1, 5, .inl (upd (fun _ => 0) (0 : Int).toNat (iN (p0))))) := by rw [hM_8, va_up_self]
  have hx_10 := xExt.upd hq_2 hx_5 hM_8
  refine lv_dup hC.1 hC.2.1 dX5_whole_7 rfl ?_
  refine x_const hC dX5_whole_8 ?_
  refine x_sipush hC dX5_whole_9 (by decide +kernel) ?_
  refine x_iast hC hw hA_9 (by omega) (by omega) (by omega) dX5_whole_12 (fun H locs hw => ?_)
  obtain ⟨M_11, hM_12⟩ : ∃ z, z = va_up M_7 q_1 (some (.inl (G.2 1, 5, .inl (upd (upd (fun _ => 0) (0 : Int).toNat (iN (p0))) (1 : Int).toNat (iN ((-10000))))))) := ⟨_, rfl⟩
  rw [← hM_12] at hw
  have hA_13 : M_11 q_1 = some (.inl (G.2 1, 5, .inl (upd (upd (fun _ => 0) (0 : Int).toNat (iN (p0))) (1 : Int).toNat (iN ((-10000)))))) := by rw [hM_12, va_up_self]
  have hx_14 := xExt.upd hq_2 hx_10 hM_12
  refine lv_dup hC.1 hC.2.1 dX5_whole_13 rfl ?_
  refine x_const hC dX5_whole_14 ?_
  refine x_const hC dX5_whole_15 ?_
  refine x_iast hC hw hA_13 (by omega) (by omega) (by omega) dX5_whole_16 (fun H locs hw => ?_)
  obtain ⟨M_15, hM_16⟩ : ∃ z, z = va_up M_11 q_1 (some (.inl (G.2 1, 5, .inl (upd (upd (upd (fun _ => 0) (0 : Int).toNat (iN (p0))) (1 : Int).toNat (iN ((-10000)))) (2 : Int).toNat (iN (0)))))) := ⟨_, rfl⟩
  rw [← hM_16] at hw
  have hA_17 : M_15 q_1 = some (.inl (G.2 1, 5, .inl (upd (upd (upd (fun _ => 0) (0 : Int).toNat (iN (p0))) (1 : Int).toNat (iN ((-10000)))) (2 : Int).toNat (iN (0))))) := by rw [hM_16, va_up_self]
  have hx_18 := xExt.upd hq_2 hx_14 hM_16
  refine lv_dup hC.1 hC.2.1 dX5_whole_17 rfl ?_
  refine x_const hC dX5_whole_18 ?_
  refine x_sipush hC dX5_whole_19 (by decide +kernel) ?_
  refine x_iast hC hw hA_17 (by omega) (by omega) (by omega) dX5_whole_22 (fun H locs hw => ?_)
  obtain ⟨M_19, hM_20⟩ : ∃ z, z = va_up M_15 q_1 (some (.inl (G.2 1, 5, .inl (upd (upd (upd (upd (fun _ => 0) (0 : Int).toNat (iN (p0))) (1 : Int).toNat (iN ((-10000)))) (2 : Int).toNat (iN (0))) (3 : Int).toNat (iN ((-10000))))))) := ⟨_, rfl⟩
  rw [← hM_20] at hw
  have hA_21 : M_19 q_1 = some (.inl (G.2 1, 5, .inl (upd (upd (upd (upd (fun _ => 0) (0 : Int).toNat (iN (p0))) (1 : Int).toNat (iN ((-10000)))) (2 : Int).toNat (iN (0))) (3 : Int).toNat (iN ((-10000)))))) := by rw [hM_20, va_up_self]
  have hx_22 := xExt.upd hq_2 hx_18 hM_20
  refine lv_dup hC.1 hC.2.1 dX5_whole_23 rfl ?_
  refine x_const hC dX5_whole_24 ?_
  refine x_const hC dX5_whole_25 ?_
  refine x_iast hC hw hA_21 (by omega) (by omega) (by omega) dX5_whole_26 (fun H locs hw => ?_)
  obtain ⟨M_23, hM_24⟩ : ∃ z, z = va_up M_19 q_1 (some (.inl (G.2 1, 5, .inl (upd (upd (upd (upd (upd (fun _ => 0) (0 : Int).toNat (iN (p0))) (1 : Int).toNat (iN ((-10000)))) (2 : Int).toNat (iN (0))) (3 : Int).toNat (iN ((-10000)))) (4 : Int).toNat (iN (0)))))) := ⟨_, rfl⟩
  rw [← hM_24] at hw
  have hA_25 : M_23 q_1 = some (.inl (G.2 1, 5, .inl (upd (upd (upd (upd (upd (fun _ => 0) (0 : Int).toNat (iN (p0))) (1 : Int).toNat (iN ((-10000)))) (2 : Int).toNat (iN (0))) (3 : Int).toNat (iN ((-10000)))) (4 : Int).toNat (iN (0))))) := by rw [hM_24, va_up_self]
  have hx_26 := xExt.upd hq_2 hx_22 hM_24
  have hI_27 : Its G M_23 q_1 (upd (upd (upd (upd (upd (fun _ => 0) (0 : Int).toNat (iN (p0))) (1 : Int).toNat (iN ((-10000)))) (2 : Int).toNat (iN (0))) (3 : Int).toNat (iN ((-10000)))) (4 : Int).toNat (iN (0))) ((p0).toNat, (-10000), (-10000), 0, 0) := ⟨hA_25, ⟨(show (p0).toNat < 3 from tn_lt (by omega) (by decide)), (show (-10000) = -10000 ∨ (0 ≤ (-10000) ∧ (-10000) ≤ 99) by omega), (show (-10000) = -10000 ∨ (0 ≤ (-10000) ∧ (-10000) ≤ 99) by omega), (show 0 = 0 ∨ 0 = 1 by omega), (show 0 = 0 ∨ 0 = 1 by omega)⟩, (show iN (p0) = iN ((((p0).toNat : Nat) : Int)) from congrArg iN (by omega)), rfl, rfl, rfl, rfl⟩
  exact x_aret hC hw (by first | exact Or.inl ⟨_, rfl⟩ | exact Or.inr ⟨_, rfl⟩) (Or.inr ⟨_, rfl⟩) dX5_whole_27 (by omega) (by omega) (by have hI9 := hI_27; exact ⟨_, _, rfl, hx_26, hI9⟩)
set_option maxHeartbeats 4000000 in
set_option maxRecDepth 100000 in
theorem c_X5_weight (l : Launch) (G : xG) {M : HM} {a va oa wa ya : Nat} {wk : Option Nat} {th : Int} {rfd : Int32} {br re la ha : Int} {kp kv : Int32} {qv qw : Nat → Nat} {fa fb : Nat → Option Nat} {V : BW} {O : OW} {fy : Nat → Option Nat} {Wv : VW} {wt : Option VT} {S : Nat → Bool} (hR : MGx G M a va oa wa ya wk th rfd br re la ha kp kv qv qw fa fb V O fy Wv wt S) {i : Nat} {fi : Nat → Int32} {ti : VT} (hIi : Its G M i fi ti) {p0 : Int} (hp0 : -2147483648 ≤ p0 ∧ p0 ≤ 2147483647) (hop : 0 ≤ p0 ∧ p0 ≤ 99) : xMet l G yX5_weight wsX5_weight 0 0 0 0 [.ref a, .ref i, .int (iN (p0))] M (fun r M1 => ∃ z : Int, r = some (.int (iN z)) ∧ M1 = M ∧ (0 ≤ z ∧ z ≤ 999) ∧ z = ((mwN (O ti.b) p0.toNat : Nat) : Int)) := by
  refine x_intro (cc := cX5_weight) (maxL := 3) (ret := (some .int)) (by exact pln_RX5) rfl (Nat.le_of_ble_eq_true rfl) ?_
  intro p e R s m args below meth c ls hRf hRc hRs hRl hC hw hl
  have hsc0 := hR.sc.1
  obtain ⟨htat_1, htbt_1, htct_1, htdt_1, htet_1⟩ := id hIi.2.1
  have holi := hR.or' hIi.2.1.1
  have hinX5 : ∀ w ∈ wsX50, w ∈ wsX5_weight := fun w h => (List.mem_cons_of_mem _ (List.mem_append_right _ h))
  have hl : lv_has ls 3 [(0, .ref a), (1, .ref i), (2, .int (iN (p0)))] := hl
  refine lv_aload_n hC.1 hC.2.1 dX5_weight_0 rfl (lv_at hl 0 rfl) ?_
  refine x_get hC hw hR.1.1 rfl hinX5 4 (by decide) (List.mem_cons_of_mem _ (List.mem_append_left _ (List.mem_of_getElem? (i := 0) rfl))) rfl dX5_weight_1 ?_
  refine lv_aload_n hC.1 hC.2.1 dX5_weight_4 rfl (lv_at hl 0 rfl) ?_
  refine x_get hC hw hR.1.1 rfl hinX5 3 (by decide) (List.mem_cons_of_mem _ (List.mem_append_left _ (List.mem_of_getElem? (i := 1) rfl))) rfl dX5_weight_5 ?_
  refine lv_aload_n hC.1 hC.2.1 dX5_weight_8 rfl (lv_at hl 1 rfl) ?_
  refine x_const hC dX5_weight_9 ?_
  refine x_ialdE (x := ((ti.b : Nat) : Int)) hC hw hIi.1 (by omega) (by omega) (by omega) dX5_weight_10 hIi.2.2.1 ?_
  refine x_ialdE (x := ((O ti.b : Nat) : Int)) hC hw hR.1.2.2.1 (by omega) (by omega) (by omega) dX5_weight_11 rfl ?_
  have hro_2 : O ti.b < 3 := hR.or' (by omega)
  refine x_ald4 hC hw hR.1.2.2.2.1 (by omega) (by omega) (by omega) dX5_weight_12 ?_
  rw [Int.toNat_natCast]
  rw [hR.fb' (show O ti.b < 3 by first | assumption | omega)]
  show W p l e R s m args below meth c _ _ _ _ _ (F0 m 13 ls [.ref (qw (O ti.b))])
  obtain ⟨fww_3, hww_3, hwvw_3⟩ := hR.rw' (show O ti.b < 3 by first | assumption | omega)
  refine lv_iload_n hC.1 hC.2.1 dX5_weight_13 rfl (lv_at hl 2 rfl) ?_
  refine x_ialdE (x := ((mwN (O ti.b) ((p0).toNat) : Nat) : Int)) hC hw hww_3 (by omega) (by omega) (by omega) dX5_weight_14 (hwvw_3 ((p0).toNat) (by omega)) ?_
  have hrw_4 := mw_le (show O ti.b < 3 by first | assumption | omega) (show (p0).toNat < 100 from tn_lt (by omega) (by decide))
  exact x_iret hC hw dX5_weight_15 (by first | decide | omega) (by first | decide | omega) ⟨((mwN (O ti.b) ((p0).toNat) : Nat) : Int), rfl, rfl, by omega, rfl⟩
set_option maxHeartbeats 4000000 in
set_option maxRecDepth 100000 in
theorem c_X5_isWithin (l : Launch) (G : xG) {M : HM} {a va oa wa ya : Nat} {wk : Option Nat} {th : Int} {rfd : Int32} {br re la ha : Int} {kp kv : Int32} {qv qw : Nat → Nat} {fa fb : Nat → Option Nat} {V : BW} {O : OW} {fy : Nat → Option Nat} {Wv : VW} {wt : Option VT} {S : Nat → Bool} (hR : MGx G M a va oa wa ya wk th rfd br re la ha kp kv qv qw fa fb V O fy Wv wt S) {i : Nat} {fi : Nat → Int32} {ti : VT} (hIi : Its G M i fi ti) {p0 : Int} (hp0 : -2147483648 ≤ p0 ∧ p0 ≤ 2147483647) (hop : 0 ≤ p0 ∧ p0 ≤ 99) : xMet l G yX5_isWithin wsX5_isWithin 1 22 0 0 [.ref a, .ref i, .int (iN (p0))] M (fun r M1 => ∃ z : Int, r = some (.int (iN z)) ∧ M1 = M ∧ (z = 0 ∨ z = 1) ∧ z = inI (O ti.b) ti p0.toNat) := by
  refine x_intro (cc := cX5_isWithin) (maxL := 4) (ret := (some .boolean)) (by exact pln_RX5) rfl (Nat.le_of_ble_eq_true rfl) ?_
  intro p e R s m args below meth c ls hRf hRc hRs hRl hC hw hl
  have hsc0 := hR.sc.1
  obtain ⟨htat_1, htbt_1, htct_1, htdt_1, htet_1⟩ := id hIi.2.1
  have holi := hR.or' hIi.2.1.1
  have hl : lv_has ls 4 [(0, .ref a), (1, .ref i), (2, .int (iN (p0)))] := hl
  refine lv_aload_n hC.1 hC.2.1 dX5_isWithin_0 rfl (lv_at hl 0 rfl) ?_
  refine lv_aload_n hC.1 hC.2.1 dX5_isWithin_1 rfl (lv_at hl 1 rfl) ?_
  refine lv_iload_n hC.1 hC.2.1 dX5_isWithin_2 rfl (lv_at hl 2 rfl) ?_
  refine x_callV hC hw (lv_size hl) (c_X5_weight l G hR hIi (p0 := p0) (by first | assumption | omega) (by omega)) gX5_isWithin_X5_weight rfl dv_X5_weight hR.1.1 rfl rfl (Nat.le_of_ble_eq_true rfl) (by rw [hRf]; decide) (by rw [hRl]; decide) (by first | (rw [hRc]; decide) | omega) (by first | (rw [hRs]; decide) | omega) dX5_isWithin_3 (fun r9 M_2 H locs hq hw => ?_)
  obtain ⟨z_3, rfl, hM9, hz_3a, hz_3b⟩ := hq
  rw [hM9] at hw
  show W p l e R s m args below meth c H locs _ _ _ (F0 m 6 ls [.int (iN (z_3))])
  refine lv_istore_n (lv' := [(3, .int (iN (z_3))), (0, .ref a), (1, .ref i), (2, .int (iN (p0)))]) hC.1 hC.2.1 dX5_isWithin_6 rfl hl (by decide) rfl (fun ls hl => ?_)
  refine lv_aload_n hC.1 hC.2.1 dX5_isWithin_7 rfl (lv_at hl 2 rfl) ?_
  refine x_const hC dX5_isWithin_8 ?_
  refine x_ialdE (x := ti.lo) hC hw hIi.1 (by omega) (by omega) (by omega) dX5_isWithin_9 hIi.2.2.2.1 ?_
  refine x_sipush hC dX5_isWithin_10 (by decide +kernel) ?_
  refine x_icmp_eq (tgt := 36) hC ⟨by omega, by omega⟩ ⟨by omega, by omega⟩ dX5_isWithin_13 (by decide) (fun c_4 => ?_) (fun c_4 => ?_)
  · refine lv_aload_n hC.1 hC.2.1 dX5_isWithin_36 rfl (lv_at hl 2 rfl) ?_
    refine x_const hC dX5_isWithin_37 ?_
    refine x_ialdE (x := ti.up) hC hw hIi.1 (by omega) (by omega) (by omega) dX5_isWithin_38 hIi.2.2.2.2.2.1 ?_
    refine x_sipush hC dX5_isWithin_39 (by decide +kernel) ?_
    refine x_icmp_eq (tgt := 63) hC ⟨by omega, by omega⟩ ⟨by omega, by omega⟩ dX5_isWithin_42 (by decide) (fun c_5 => ?_) (fun c_5 => ?_)
    · refine x_const hC dX5_isWithin_63 ?_
      refine lv_goto (tgt := 68) hC.1 hC.2.1 dX5_isWithin_64 (by decide) ?_
      exact x_zret hC hw (by omega) dX5_isWithin_68 (by first | decide | omega) (by first | decide | omega) ⟨1, rfl, rfl, by omega, inI_eq (by omega) (by show _ ↔ ((ti.lo = -10000 ∨ (mwN (O ti.b) ti.lo.toNat : Int) + 1 - ti.li ≤ mwN (O ti.b) (p0).toNat) ∧ (ti.up = -10000 ∨ (mwN (O ti.b) (p0).toNat : Int) ≤ mwN (O ti.b) ti.up.toNat - 1 + ti.ui)); omega)⟩
    · refine lv_iload_n hC.1 hC.2.1 dX5_isWithin_45 rfl (lv_at hl 0 rfl) ?_
      refine lv_aload_n hC.1 hC.2.1 dX5_isWithin_46 rfl (lv_at hl 1 rfl) ?_
      refine lv_aload_n hC.1 hC.2.1 dX5_isWithin_47 rfl (lv_at hl 2 rfl) ?_
      refine lv_aload_n hC.1 hC.2.1 dX5_isWithin_48 rfl (lv_at hl 2 rfl) ?_
      refine x_const hC dX5_isWithin_49 ?_
      refine x_ialdE (x := ti.up) hC hw hIi.1 (by omega) (by omega) (by omega) dX5_isWithin_50 hIi.2.2.2.2.2.1 ?_
      refine x_callV hC hw (lv_size hl) (c_X5_weight l G hR hIi (p0 := ti.up) (by omega) (by omega)) gX5_isWithin_X5_weight rfl dv_X5_weight hR.1.1 rfl rfl (Nat.le_of_ble_eq_true rfl) (by rw [hRf]; decide) (by rw [hRl]; decide) (by first | (rw [hRc]; decide) | omega) (by first | (rw [hRs]; decide) | omega) dX5_isWithin_51 (fun r9 M_6 H locs hq hw => ?_)
      obtain ⟨z_7, rfl, hM9, hz_7a, hz_7b⟩ := hq
      rw [hM9] at hw
      show W p l e R s m args below meth c H locs _ _ _ (F0 m 54 ls [.int (iN (z_7)), .int (iN (z_3))])
      refine x_const hC dX5_isWithin_54 ?_
      refine x_isub hC dX5_isWithin_55 ?_
      refine lv_aload_n hC.1 hC.2.1 dX5_isWithin_56 rfl (lv_at hl 2 rfl) ?_
      refine x_const hC dX5_isWithin_57 ?_
      refine x_ialdE (x := ti.ui) hC hw hIi.1 (by omega) (by omega) (by omega) dX5_isWithin_58 hIi.2.2.2.2.2.2 ?_
      refine x_iadd hC dX5_isWithin_59 ?_
      refine x_icmp_gt (tgt := 67) hC ⟨by omega, by omega⟩ ⟨by omega, by omega⟩ dX5_isWithin_60 (by decide) (fun c_8 => ?_) (fun c_8 => ?_)
      · refine x_const hC dX5_isWithin_67 ?_
        exact x_zret hC hw (by omega) dX5_isWithin_68 (by first | decide | omega) (by first | decide | omega) ⟨0, rfl, rfl, by omega, inI_eq (by omega) (by show _ ↔ ((ti.lo = -10000 ∨ (mwN (O ti.b) ti.lo.toNat : Int) + 1 - ti.li ≤ mwN (O ti.b) (p0).toNat) ∧ (ti.up = -10000 ∨ (mwN (O ti.b) (p0).toNat : Int) ≤ mwN (O ti.b) ti.up.toNat - 1 + ti.ui)); omega)⟩
      · refine x_const hC dX5_isWithin_63 ?_
        refine lv_goto (tgt := 68) hC.1 hC.2.1 dX5_isWithin_64 (by decide) ?_
        exact x_zret hC hw (by omega) dX5_isWithin_68 (by first | decide | omega) (by first | decide | omega) ⟨1, rfl, rfl, by omega, inI_eq (by omega) (by show _ ↔ ((ti.lo = -10000 ∨ (mwN (O ti.b) ti.lo.toNat : Int) + 1 - ti.li ≤ mwN (O ti.b) (p0).toNat) ∧ (ti.up = -10000 ∨ (mwN (O ti.b) (p0).toNat : Int) ≤ mwN (O ti.b) ti.up.toNat - 1 + ti.ui)); omega)⟩
  · refine lv_iload_n hC.1 hC.2.1 dX5_isWithin_16 rfl (lv_at hl 0 rfl) ?_
    refine lv_aload_n hC.1 hC.2.1 dX5_isWithin_17 rfl (lv_at hl 1 rfl) ?_
    refine lv_aload_n hC.1 hC.2.1 dX5_isWithin_18 rfl (lv_at hl 2 rfl) ?_
    refine lv_aload_n hC.1 hC.2.1 dX5_isWithin_19 rfl (lv_at hl 2 rfl) ?_
    refine x_const hC dX5_isWithin_20 ?_
    refine x_ialdE (x := ti.lo) hC hw hIi.1 (by omega) (by omega) (by omega) dX5_isWithin_21 hIi.2.2.2.1 ?_
    refine x_callV hC hw (lv_size hl) (c_X5_weight l G hR hIi (p0 := ti.lo) (by omega) (by omega)) gX5_isWithin_X5_weight rfl dv_X5_weight hR.1.1 rfl rfl (Nat.le_of_ble_eq_true rfl) (by rw [hRf]; decide) (by rw [hRl]; decide) (by first | (rw [hRc]; decide) | omega) (by first | (rw [hRs]; decide) | omega) dX5_isWithin_22 (fun r9 M_9 H locs hq hw => ?_)
    obtain ⟨z_10, rfl, hM9, hz_10a, hz_10b⟩ := hq
    rw [hM9] at hw
    show W p l e R s m args below meth c H locs _ _ _ (F0 m 25 ls [.int (iN (z_10)), .int (iN (z_3))])
    refine x_const hC dX5_isWithin_25 ?_
    refine x_iadd hC dX5_isWithin_26 ?_
    refine lv_aload_n hC.1 hC.2.1 dX5_isWithin_27 rfl (lv_at hl 2 rfl) ?_
    refine x_const hC dX5_isWithin_28 ?_
    refine x_ialdE (x := ti.li) hC hw hIi.1 (by omega) (by omega) (by omega) dX5_isWithin_29 hIi.2.2.2.2.1 ?_
    refine x_isub hC dX5_isWithin_30 ?_
    refine x_icmp_ge (tgt := 36) hC ⟨by omega, by omega⟩ ⟨by omega, by omega⟩ dX5_isWithin_31 (by decide) (fun c_11 => ?_) (fun c_11 => ?_)
    · refine lv_aload_n hC.1 hC.2.1 dX5_isWithin_36 rfl (lv_at hl 2 rfl) ?_
      refine x_const hC dX5_isWithin_37 ?_
      refine x_ialdE (x := ti.up) hC hw hIi.1 (by omega) (by omega) (by omega) dX5_isWithin_38 hIi.2.2.2.2.2.1 ?_
      refine x_sipush hC dX5_isWithin_39 (by decide +kernel) ?_
      refine x_icmp_eq (tgt := 63) hC ⟨by omega, by omega⟩ ⟨by omega, by omega⟩ dX5_isWithin_42 (by decide) (fun c_12 => ?_) (fun c_12 => ?_)
      · refine x_const hC dX5_isWithin_63 ?_
        refine lv_goto (tgt := 68) hC.1 hC.2.1 dX5_isWithin_64 (by decide) ?_
        exact x_zret hC hw (by omega) dX5_isWithin_68 (by first | decide | omega) (by first | decide | omega) ⟨1, rfl, rfl, by omega, inI_eq (by omega) (by show _ ↔ ((ti.lo = -10000 ∨ (mwN (O ti.b) ti.lo.toNat : Int) + 1 - ti.li ≤ mwN (O ti.b) (p0).toNat) ∧ (ti.up = -10000 ∨ (mwN (O ti.b) (p0).toNat : Int) ≤ mwN (O ti.b) ti.up.toNat - 1 + ti.ui)); omega)⟩
      · refine lv_iload_n hC.1 hC.2.1 dX5_isWithin_45 rfl (lv_at hl 0 rfl) ?_
        refine lv_aload_n hC.1 hC.2.1 dX5_isWithin_46 rfl (lv_at hl 1 rfl) ?_
        refine lv_aload_n hC.1 hC.2.1 dX5_isWithin_47 rfl (lv_at hl 2 rfl) ?_
        refine lv_aload_n hC.1 hC.2.1 dX5_isWithin_48 rfl (lv_at hl 2 rfl) ?_
        refine x_const hC dX5_isWithin_49 ?_
        refine x_ialdE (x := ti.up) hC hw hIi.1 (by omega) (by omega) (by omega) dX5_isWithin_50 hIi.2.2.2.2.2.1 ?_
        refine x_callV hC hw (lv_size hl) (c_X5_weight l G hR hIi (p0 := ti.up) (by omega) (by omega)) gX5_isWithin_X5_weight rfl dv_X5_weight hR.1.1 rfl rfl (Nat.le_of_ble_eq_true rfl) (by rw [hRf]; decide) (by rw [hRl]; decide) (by first | (rw [hRc]; decide) | omega) (by first | (rw [hRs]; decide) | omega) dX5_isWithin_51 (fun r9 M_13 H locs hq hw => ?_)
        obtain ⟨z_14, rfl, hM9, hz_14a, hz_14b⟩ := hq
        rw [hM9] at hw
        show W p l e R s m args below meth c H locs _ _ _ (F0 m 54 ls [.int (iN (z_14)), .int (iN (z_3))])
        refine x_const hC dX5_isWithin_54 ?_
        refine x_isub hC dX5_isWithin_55 ?_
        refine lv_aload_n hC.1 hC.2.1 dX5_isWithin_56 rfl (lv_at hl 2 rfl) ?_
        refine x_const hC dX5_isWithin_57 ?_
        refine x_ialdE (x := ti.ui) hC hw hIi.1 (by omega) (by omega) (by omega) dX5_isWithin_58 hIi.2.2.2.2.2.2 ?_
        refine x_iadd hC dX5_isWithin_59 ?_
        refine x_icmp_gt (tgt := 67) hC ⟨by omega, by omega⟩ ⟨by omega, by omega⟩ dX5_isWithin_60 (by decide) (fun c_15 => ?_) (fun c_15 => ?_)
        · refine x_const hC dX5_isWithin_67 ?_
          exact x_zret hC hw (by omega) dX5_isWithin_68 (by first | decide | omega) (by first | decide | omega) ⟨0, rfl, rfl, by omega, inI_eq (by omega) (by show _ ↔ ((ti.lo = -10000 ∨ (mwN (O ti.b) ti.lo.toNat : Int) + 1 - ti.li ≤ mwN (O ti.b) (p0).toNat) ∧ (ti.up = -10000 ∨ (mwN (O ti.b) (p0).toNat : Int) ≤ mwN (O ti.b) ti.up.toNat - 1 + ti.ui)); omega)⟩
        · refine x_const hC dX5_isWithin_63 ?_
          refine lv_goto (tgt := 68) hC.1 hC.2.1 dX5_isWithin_64 (by decide) ?_
          exact x_zret hC hw (by omega) dX5_isWithin_68 (by first | decide | omega) (by first | decide | omega) ⟨1, rfl, rfl, by omega, inI_eq (by omega) (by show _ ↔ ((ti.lo = -10000 ∨ (mwN (O ti.b) ti.lo.toNat : Int) + 1 - ti.li ≤ mwN (O ti.b) (p0).toNat) ∧ (ti.up = -10000 ∨ (mwN (O ti.b) (p0).toNat : Int) ≤ mwN (O ti.b) ti.up.toNat - 1 + ti.ui)); omega)⟩
    · refine x_const hC dX5_isWithin_34 ?_
      exact x_zret hC hw (by omega) dX5_isWithin_35 (by first | decide | omega) (by first | decide | omega) ⟨0, rfl, rfl, by omega, inI_eq (by omega) (by show _ ↔ ((ti.lo = -10000 ∨ (mwN (O ti.b) ti.lo.toNat : Int) + 1 - ti.li ≤ mwN (O ti.b) (p0).toNat) ∧ (ti.up = -10000 ∨ (mwN (O ti.b) (p0).toNat : Int) ≤ mwN (O ti.b) ti.up.toNat - 1 + ti.ui)); omega)⟩
set_option maxHeartbeats 4000000 in
set_option maxRecDepth 100000 in
theorem c_X5_shows (l : Launch) (G : xG) {M : HM} {a va oa wa ya : Nat} {wk : Option Nat} {th : Int} {rfd : Int32} {br re la ha : Int} {kp kv : Int32} {qv qw : Nat → Nat} {fa fb : Nat → Option Nat} {V : BW} {O : OW} {fy : Nat → Option Nat} {Wv : VW} {wt : Option VT} {S : Nat → Bool} (hR : MGx G M a va oa wa ya wk th rfd br re la ha kp kv qv qw fa fb V O fy Wv wt S) {i : Nat} {fi : Nat → Int32} {ti : VT} (hIi : Its G M i fi ti) {p0 : Int} (hp0 : -2147483648 ≤ p0 ∧ p0 ≤ 2147483647) (hop : 0 ≤ p0 ∧ p0 ≤ 99) : xMet l G yX5_shows wsX5_shows 2 45 0 0 [.ref a, .ref i, .int (iN (p0))] M (fun r M1 => ∃ z : Int, r = some (.int (iN z)) ∧ M1 = M ∧ (z = 0 ∨ z = 1) ∧ z = shI O V ti p0.toNat ∧ (z ≠ 0 → mP S V ti p0.toNat)) := by
  refine x_intro (cc := cX5_shows) (maxL := 3) (ret := (some .boolean)) (by exact pln_RX5) rfl (Nat.le_of_ble_eq_true rfl) ?_
  intro p e R s m args below meth c ls hRf hRc hRs hRl hC hw hl
  have hsc0 := hR.sc.1
  obtain ⟨htat_1, htbt_1, htct_1, htdt_1, htet_1⟩ := id hIi.2.1
  have holi := hR.or' hIi.2.1.1
  have hinX5 : ∀ w ∈ wsX50, w ∈ wsX5_shows := fun w h => (List.mem_cons_of_mem _ (List.mem_append_right _ h))
  have hl : lv_has ls 3 [(0, .ref a), (1, .ref i), (2, .int (iN (p0)))] := hl
  refine lv_aload_n hC.1 hC.2.1 dX5_shows_0 rfl (lv_at hl 0 rfl) ?_
  refine x_get hC hw hR.1.1 rfl hinX5 2 (by decide) (List.mem_cons_of_mem _ (List.mem_append_left _ (List.mem_of_getElem? (i := 0) rfl))) rfl dX5_shows_1 ?_
  refine lv_aload_n hC.1 hC.2.1 dX5_shows_4 rfl (lv_at hl 1 rfl) ?_
  refine x_const hC dX5_shows_5 ?_
  refine x_ialdE (x := ((ti.b : Nat) : Int)) hC hw hIi.1 (by omega) (by omega) (by omega) dX5_shows_6 hIi.2.2.1 ?_
  refine x_ald4 hC hw hR.1.2.1 (by omega) (by omega) (by omega) dX5_shows_7 ?_
  rw [Int.toNat_natCast]
  rw [hR.fa' (show ti.b < 3 by omega)]
  show W p l e R s m args below meth c _ _ _ _ _ (F0 m 8 ls [.ref (qv ti.b)])
  refine lv_iload_n hC.1 hC.2.1 dX5_shows_8 rfl (lv_at hl 2 rfl) ?_
  refine x_ialdE (x := (V ti.b ((p0).toNat))) hC hw (hR.rv (show ti.b < 3 by omega)) (by omega) (by omega) (by omega) dX5_shows_9 rfl ?_
  have hrv_2 := hR.vr (show ti.b < 3 by omega) (show (p0).toNat < 100 from tn_lt (by omega) (by decide))
  have hpv_2 := hR.vs (show ti.b < 3 by omega) (show (p0).toNat < 100 from tn_lt (by omega) (by decide))
  refine x_sipush hC dX5_shows_10 (by decide +kernel) ?_
  refine x_icmp_eq (tgt := 29) hC ⟨by omega, by omega⟩ ⟨by omega, by omega⟩ dX5_shows_13 (by decide) (fun c_3 => ?_) (fun c_3 => ?_)
  · refine x_const hC dX5_shows_29 ?_
    exact x_zret hC hw (by omega) dX5_shows_30 (by first | decide | omega) (by first | decide | omega) ⟨0, rfl, rfl, by omega, by have e9 := shI_iff (O := O) (V := V) (t := ti) (k := (p0).toNat); have e8 := shI_01 O V ti (p0).toNat; omega, fun q9 => ⟨hpv_2 (by omega), by omega⟩⟩
  · refine lv_aload_n hC.1 hC.2.1 dX5_shows_16 rfl (lv_at hl 0 rfl) ?_
    refine lv_aload_n hC.1 hC.2.1 dX5_shows_17 rfl (lv_at hl 1 rfl) ?_
    refine lv_iload_n hC.1 hC.2.1 dX5_shows_18 rfl (lv_at hl 2 rfl) ?_
    refine x_callV hC hw (lv_size hl) (c_X5_isWithin l G hR hIi (p0 := p0) (by first | assumption | omega) (by omega)) gX5_shows_X5_isWithin rfl dv_X5_isWithin hR.1.1 rfl rfl (Nat.le_of_ble_eq_true rfl) (by rw [hRf]; decide) (by rw [hRl]; decide) (by first | (rw [hRc]; decide) | omega) (by first | (rw [hRs]; decide) | omega) dX5_shows_19 (fun r9 M_4 H locs hq hw => ?_)
    obtain ⟨z_5, rfl, hM9, hz_5a, hz_5w⟩ := hq
    rw [hM9] at hw
    show W p l e R s m args below meth c H locs _ _ _ (F0 m 22 ls [.int (iN (z_5))])
    refine x_if_eq (tgt := 29) hC ⟨by omega, by omega⟩ dX5_shows_22 (by decide) (fun c_6 => ?_) (fun c_6 => ?_)
    · refine x_const hC dX5_shows_29 ?_
      exact x_zret hC hw (by omega) dX5_shows_30 (by first | decide | omega) (by first | decide | omega) ⟨0, rfl, rfl, by omega, by have e9 := shI_iff (O := O) (V := V) (t := ti) (k := (p0).toNat); have e8 := shI_01 O V ti (p0).toNat; omega, fun q9 => ⟨hpv_2 (by omega), by omega⟩⟩
    · refine x_const hC dX5_shows_25 ?_
      refine lv_goto (tgt := 30) hC.1 hC.2.1 dX5_shows_26 (by decide) ?_
      exact x_zret hC hw (by omega) dX5_shows_30 (by first | decide | omega) (by first | decide | omega) ⟨1, rfl, rfl, by omega, by have e9 := shI_iff (O := O) (V := V) (t := ti) (k := (p0).toNat); have e8 := shI_01 O V ti (p0).toNat; omega, fun q9 => ⟨hpv_2 (by omega), by omega⟩⟩
set_option maxHeartbeats 4000000 in
set_option maxRecDepth 100000 in
theorem c_X5_closest (l : Launch) (G : xG) {M : HM} {a va oa wa ya : Nat} {wk : Option Nat} {th : Int} {rfd : Int32} {br re la ha : Int} {kp kv : Int32} {qv qw : Nat → Nat} {fa fb : Nat → Option Nat} {V : BW} {O : OW} {fy : Nat → Option Nat} {Wv : VW} {wt : Option VT} {S : Nat → Bool} (hR : MGx G M a va oa wa ya wk th rfd br re la ha kp kv qv qw fa fb V O fy Wv wt S) {i : Nat} {fi : Nat → Int32} {ti : VT} (hIi : Its G M i fi ti) {p0 : Int} (hp0 : -2147483648 ≤ p0 ∧ p0 ≤ 2147483647) {p1 : Int} (hp1 : -2147483648 ≤ p1 ∧ p1 ≤ 2147483647) (hop : p1 = 0 ∨ p1 = 1) : xMet l G yX5_closest wsX5_closest 3 67 0 0 [.ref a, .ref i, .int (iN (p0)), .int (iN (p1))] M (fun r M1 => ∃ z : Int, r = some (.int (iN z)) ∧ M1 = M ∧ (z = -10000 ∨ (0 ≤ z ∧ z ≤ 99)) ∧ (z ≠ -10000 → mP S V ti z.toNat) ∧ z = clF O V ti p0 p1 100) := by
  refine x_intro (cc := cX5_closest) (maxL := 7) (ret := (some .int)) (by exact pln_RX5) rfl (Nat.le_of_ble_eq_true rfl) ?_
  intro p e R s m args below meth c ls hRf hRc hRs hRl hC hw hl
  have hsc0 := hR.sc.1
  obtain ⟨htat_1, htbt_1, htct_1, htdt_1, htet_1⟩ := id hIi.2.1
  have holi := hR.or' hIi.2.1.1
  have hl : lv_has ls 7 [(0, .ref a), (1, .ref i), (2, .int (iN (p0))), (3, .int (iN (p1)))] := hl
  refine x_sipush hC dX5_closest_0 (by decide +kernel) ?_
  refine lv_istore (lv' := [(4, .int (iN ((-10000)))), (0, .ref a), (1, .ref i), (2, .int (iN (p0))), (3, .int (iN (p1)))]) hC.1 hC.2.1 dX5_closest_3 hl (by decide) rfl (fun ls hl => ?_)
  refine x_const hC dX5_closest_5 ?_
  refine lv_istore (lv' := [(5, .int (iN (0))), (4, .int (iN ((-10000)))), (0, .ref a), (1, .ref i), (2, .int (iN (p0))), (3, .int (iN (p1)))]) hC.1 hC.2.1 dX5_closest_6 hl (by decide) rfl (fun ls hl => ?_)
  suffices hloop8 : ∀ (n9 : Nat) (bs : Int) (j : Int) (H : Heap) (locs : List Loc) (ls : Array Slot), (hmz8 : (100 - j).toNat < n9) → (hi0 : 0 ≤ j ∧ j ≤ 100) → (hi1 : bs = -10000 ∨ (0 ≤ bs ∧ bs ≤ 99)) → (hi2 : bs ≠ -10000 → mP S V ti bs.toNat) → (hcl : bs = clF O V ti p0 p1 j.toNat) → xD G (xA M s.heap.size) s M H locs → lv_has ls 7 [(0, .ref a), (1, .ref i), (2, .int (iN (p0))), (3, .int (iN (p1))), (4, .int (iN (bs))), (5, .int (iN (j)))] → W p l e R s m args below meth c H locs _ _ _ (F0 m 8 ls []) by
    exact hloop8 _ (-10000) 0  _ _ _ (Nat.lt_succ_self _) (by omega) (by omega) (fun q9 => absurd rfl q9) (rfl) hw (lv_sub hl [2, 3, 4, 5, 1, 0] rfl)
  intro n9
  induction n9 with
  | zero => intro bs j  H locs ls hmz; exact absurd hmz (Nat.not_lt_zero _)
  | succ n9 ih8 =>
    intro bs j  H locs ls hmz8 hi0 hi1 hi2 hcl hw hl
    refine lv_iload hC.1 hC.2.1 dX5_closest_8 (lv_at hl 5 rfl) ?_
    refine x_bipush hC dX5_closest_10 (by decide +kernel) ?_
    refine x_icmp_ge (tgt := 98) hC ⟨by omega, by omega⟩ ⟨by omega, by omega⟩ dX5_closest_12 (by decide) (fun c_2 => ?_) (fun c_2 => ?_)
    · refine lv_iload hC.1 hC.2.1 dX5_closest_98 (lv_at hl 4 rfl) ?_
      exact x_iret hC hw dX5_closest_100 (by first | decide | omega) (by first | decide | omega) ⟨bs, rfl, rfl, by omega, hi2, by rw [show (100 : Nat) = (j).toNat from (tn_eq (by omega)).symm]; exact hcl⟩
    · refine lv_aload_n hC.1 hC.2.1 dX5_closest_15 rfl (lv_at hl 0 rfl) ?_
      refine lv_aload_n hC.1 hC.2.1 dX5_closest_16 rfl (lv_at hl 1 rfl) ?_
      refine lv_iload hC.1 hC.2.1 dX5_closest_17 (lv_at hl 5 rfl) ?_
      refine x_callV hC hw (lv_size hl) (c_X5_shows l G hR hIi (p0 := j) (by omega) (by omega)) gX5_closest_X5_shows rfl dv_X5_shows hR.1.1 rfl rfl (Nat.le_of_ble_eq_true rfl) (by rw [hRf]; decide) (by rw [hRl]; decide) (by first | (rw [hRc]; decide) | omega) (by first | (rw [hRs]; decide) | omega) dX5_closest_19 (fun r9 M_3 H locs hq hw => ?_)
      obtain ⟨z_4, rfl, hM9, hz_4a, hz_4s, hz_4S⟩ := hq
      rw [hM9] at hw
      show W p l e R s m args below meth c H locs _ _ _ (F0 m 22 ls [.int (iN (z_4))])
      refine x_if_ne (tgt := 28) hC ⟨by omega, by omega⟩ dX5_closest_22 (by decide) (fun c_5 => ?_) (fun c_5 => ?_)
      · refine lv_aload_n hC.1 hC.2.1 dX5_closest_28 rfl (lv_at hl 0 rfl) ?_
        refine lv_aload_n hC.1 hC.2.1 dX5_closest_29 rfl (lv_at hl 1 rfl) ?_
        refine lv_iload hC.1 hC.2.1 dX5_closest_30 (lv_at hl 5 rfl) ?_
        refine x_callV hC hw (lv_size hl) (c_X5_weight l G hR hIi (p0 := j) (by omega) (by omega)) gX5_closest_X5_weight rfl dv_X5_weight hR.1.1 rfl rfl (Nat.le_of_ble_eq_true rfl) (by rw [hRf]; decide) (by rw [hRl]; decide) (by first | (rw [hRc]; decide) | omega) (by first | (rw [hRs]; decide) | omega) dX5_closest_32 (fun r9 M_6 H locs hq hw => ?_)
        obtain ⟨z_7, rfl, hM9, hz_7a, hz_7b⟩ := hq
        rw [hM9] at hw
        show W p l e R s m args below meth c H locs _ _ _ (F0 m 35 ls [.int (iN (z_7))])
        refine lv_istore (lv' := [(6, .int (iN (z_7))), (0, .ref a), (1, .ref i), (2, .int (iN (p0))), (3, .int (iN (p1))), (4, .int (iN (bs))), (5, .int (iN (j)))]) hC.1 hC.2.1 dX5_closest_35 hl (by decide) rfl (fun ls hl => ?_)
        refine lv_iload_n hC.1 hC.2.1 dX5_closest_37 rfl (lv_at hl 4 rfl) ?_
        refine x_if_eq (tgt := 50) hC ⟨by omega, by omega⟩ dX5_closest_38 (by decide) (fun c_8 => ?_) (fun c_8 => ?_)
        · refine lv_iload hC.1 hC.2.1 dX5_closest_50 (lv_at hl 0 rfl) ?_
          refine lv_iload_n hC.1 hC.2.1 dX5_closest_52 rfl (lv_at hl 3 rfl) ?_
          refine x_icmp_lt (tgt := 59) hC ⟨by omega, by omega⟩ ⟨by omega, by omega⟩ dX5_closest_53 (by decide) (fun c_9 => ?_) (fun c_9 => ?_)
          · refine lv_iload hC.1 hC.2.1 dX5_closest_59 (lv_at hl 5 rfl) ?_
            refine x_sipush hC dX5_closest_61 (by decide +kernel) ?_
            refine x_icmp_eq (tgt := 88) hC ⟨by omega, by omega⟩ ⟨by omega, by omega⟩ dX5_closest_64 (by decide) (fun c_10 => ?_) (fun c_10 => ?_)
            · refine lv_iload hC.1 hC.2.1 dX5_closest_88 (lv_at hl 6 rfl) ?_
              refine lv_istore (lv' := [(4, .int (iN (j))), (6, .int (iN (z_7))), (0, .ref a), (1, .ref i), (2, .int (iN (p0))), (3, .int (iN (p1))), (5, .int (iN (j)))]) hC.1 hC.2.1 dX5_closest_90 hl (by decide) rfl (fun ls hl => ?_)
              refine x_iinc (lv' := [(5, .int (iN (j + 1))), (4, .int (iN (j))), (6, .int (iN (z_7))), (0, .ref a), (1, .ref i), (2, .int (iN (p0))), (3, .int (iN (p1)))]) hC dX5_closest_92 hl (k := 6) rfl (by decide) rfl (fun ls hl => ?_)
              refine lv_goto (tgt := 8) hC.1 hC.2.1 dX5_closest_95 (by decide) ?_
              exact ih8 j (j + 1)  _ _ _ (by first | exact mu_s hmz8 (by omega) | omega) (by omega) (by omega) (by first | exact hi2 | exact fun _ => hz_4S (by omega)) (clF_t (by omega) hcl (by omega) (by omega) (by omega)) hw (lv_sub hl [3, 4, 5, 6, 1, 0] rfl)
            · refine lv_iload_n hC.1 hC.2.1 dX5_closest_67 rfl (lv_at hl 4 rfl) ?_
              refine lv_iload hC.1 hC.2.1 dX5_closest_68 (lv_at hl 0 rfl) ?_
              refine lv_aload_n hC.1 hC.2.1 dX5_closest_70 rfl (lv_at hl 1 rfl) ?_
              refine lv_aload_n hC.1 hC.2.1 dX5_closest_71 rfl (lv_at hl 2 rfl) ?_
              refine lv_iload hC.1 hC.2.1 dX5_closest_72 (lv_at hl 5 rfl) ?_
              refine x_callV hC hw (lv_size hl) (c_X5_weight l G hR hIi (p0 := bs) (by omega) (by omega)) gX5_closest_X5_weight rfl dv_X5_weight hR.1.1 rfl rfl (Nat.le_of_ble_eq_true rfl) (by rw [hRf]; decide) (by rw [hRl]; decide) (by first | (rw [hRc]; decide) | omega) (by first | (rw [hRs]; decide) | omega) dX5_closest_74 (fun r9 M_11 H locs hq hw => ?_)
              obtain ⟨z_12, rfl, hM9, hz_12a, hz_12b⟩ := hq
              rw [hM9] at hw
              show W p l e R s m args below meth c H locs _ _ _ (F0 m 77 ls [.int (iN (z_12)), .int (iN (z_7)), .int (iN (p1))])
              refine x_icmp_ge (tgt := 84) hC ⟨by omega, by omega⟩ ⟨by omega, by omega⟩ dX5_closest_77 (by decide) (fun c_13 => ?_) (fun c_13 => ?_)
              · refine x_const hC dX5_closest_84 ?_
                refine x_icmp_ne (tgt := 92) hC ⟨by omega, by omega⟩ ⟨by omega, by omega⟩ dX5_closest_85 (by decide) (fun c_14 => ?_) (fun c_14 => ?_)
                · refine x_iinc (lv' := [(5, .int (iN (j + 1))), (6, .int (iN (z_7))), (0, .ref a), (1, .ref i), (2, .int (iN (p0))), (3, .int (iN (p1))), (4, .int (iN (bs)))]) hC dX5_closest_92 hl (k := 6) rfl (by decide) rfl (fun ls hl => ?_)
                  refine lv_goto (tgt := 8) hC.1 hC.2.1 dX5_closest_95 (by decide) ?_
                  exact ih8 bs (j + 1)  _ _ _ (by first | exact mu_s hmz8 (by omega) | omega) (by omega) (by omega) (by first | exact hi2 | exact fun _ => hz_4S (by omega)) (clF_k3 (by omega) hcl (by omega)) hw (lv_sub hl [2, 3, 4, 5, 6, 0] rfl)
                · refine lv_iload hC.1 hC.2.1 dX5_closest_88 (lv_at hl 6 rfl) ?_
                  refine lv_istore (lv' := [(4, .int (iN (j))), (6, .int (iN (z_7))), (0, .ref a), (1, .ref i), (2, .int (iN (p0))), (3, .int (iN (p1))), (5, .int (iN (j)))]) hC.1 hC.2.1 dX5_closest_90 hl (by decide) rfl (fun ls hl => ?_)
                  refine x_iinc (lv' := [(5, .int (iN (j + 1))), (4, .int (iN (j))), (6, .int (iN (z_7))), (0, .ref a), (1, .ref i), (2, .int (iN (p0))), (3, .int (iN (p1)))]) hC dX5_closest_92 hl (k := 6) rfl (by decide) rfl (fun ls hl => ?_)
                  refine lv_goto (tgt := 8) hC.1 hC.2.1 dX5_closest_95 (by decide) ?_
                  exact ih8 j (j + 1)  _ _ _ (by first | exact mu_s hmz8 (by omega) | omega) (by omega) (by omega) (by first | exact hi2 | exact fun _ => hz_4S (by omega)) (clF_t (by omega) hcl (by omega) (by omega) (by omega)) hw (lv_sub hl [3, 4, 5, 6, 1, 0] rfl)
              · refine x_const hC dX5_closest_80 ?_
                refine lv_goto (tgt := 85) hC.1 hC.2.1 dX5_closest_81 (by decide) ?_
                refine x_icmp_ne (tgt := 92) hC ⟨by omega, by omega⟩ ⟨by omega, by omega⟩ dX5_closest_85 (by decide) (fun c_15 => ?_) (fun c_15 => ?_)
                · refine x_iinc (lv' := [(5, .int (iN (j + 1))), (6, .int (iN (z_7))), (0, .ref a), (1, .ref i), (2, .int (iN (p0))), (3, .int (iN (p1))), (4, .int (iN (bs)))]) hC dX5_closest_92 hl (k := 6) rfl (by decide) rfl (fun ls hl => ?_)
                  refine lv_goto (tgt := 8) hC.1 hC.2.1 dX5_closest_95 (by decide) ?_
                  exact ih8 bs (j + 1)  _ _ _ (by first | exact mu_s hmz8 (by omega) | omega) (by omega) (by omega) (by first | exact hi2 | exact fun _ => hz_4S (by omega)) (clF_k3 (by omega) hcl (by omega)) hw (lv_sub hl [2, 3, 4, 5, 6, 0] rfl)
                · refine lv_iload hC.1 hC.2.1 dX5_closest_88 (lv_at hl 6 rfl) ?_
                  refine lv_istore (lv' := [(4, .int (iN (j))), (6, .int (iN (z_7))), (0, .ref a), (1, .ref i), (2, .int (iN (p0))), (3, .int (iN (p1))), (5, .int (iN (j)))]) hC.1 hC.2.1 dX5_closest_90 hl (by decide) rfl (fun ls hl => ?_)
                  refine x_iinc (lv' := [(5, .int (iN (j + 1))), (4, .int (iN (j))), (6, .int (iN (z_7))), (0, .ref a), (1, .ref i), (2, .int (iN (p0))), (3, .int (iN (p1)))]) hC dX5_closest_92 hl (k := 6) rfl (by decide) rfl (fun ls hl => ?_)
                  refine lv_goto (tgt := 8) hC.1 hC.2.1 dX5_closest_95 (by decide) ?_
                  exact ih8 j (j + 1)  _ _ _ (by first | exact mu_s hmz8 (by omega) | omega) (by omega) (by omega) (by first | exact hi2 | exact fun _ => hz_4S (by omega)) (clF_t (by omega) hcl (by omega) (by omega) (by omega)) hw (lv_sub hl [3, 4, 5, 6, 1, 0] rfl)
          · refine lv_goto (tgt := 92) hC.1 hC.2.1 dX5_closest_56 (by decide) ?_
            refine x_iinc (lv' := [(5, .int (iN (j + 1))), (6, .int (iN (z_7))), (0, .ref a), (1, .ref i), (2, .int (iN (p0))), (3, .int (iN (p1))), (4, .int (iN (bs)))]) hC dX5_closest_92 hl (k := 6) rfl (by decide) rfl (fun ls hl => ?_)
            refine lv_goto (tgt := 8) hC.1 hC.2.1 dX5_closest_95 (by decide) ?_
            exact ih8 bs (j + 1)  _ _ _ (by first | exact mu_s hmz8 (by omega) | omega) (by omega) (by omega) (by first | exact hi2 | exact fun _ => hz_4S (by omega)) (clF_k2 (by omega) hcl (by omega)) hw (lv_sub hl [2, 3, 4, 5, 6, 0] rfl)
        · refine lv_iload hC.1 hC.2.1 dX5_closest_41 (lv_at hl 0 rfl) ?_
          refine lv_iload_n hC.1 hC.2.1 dX5_closest_43 rfl (lv_at hl 3 rfl) ?_
          refine x_icmp_gt (tgt := 59) hC ⟨by omega, by omega⟩ ⟨by omega, by omega⟩ dX5_closest_44 (by decide) (fun c_16 => ?_) (fun c_16 => ?_)
          · refine lv_iload hC.1 hC.2.1 dX5_closest_59 (lv_at hl 5 rfl) ?_
            refine x_sipush hC dX5_closest_61 (by decide +kernel) ?_
            refine x_icmp_eq (tgt := 88) hC ⟨by omega, by omega⟩ ⟨by omega, by omega⟩ dX5_closest_64 (by decide) (fun c_17 => ?_) (fun c_17 => ?_)
            · refine lv_iload hC.1 hC.2.1 dX5_closest_88 (lv_at hl 6 rfl) ?_
              refine lv_istore (lv' := [(4, .int (iN (j))), (6, .int (iN (z_7))), (0, .ref a), (1, .ref i), (2, .int (iN (p0))), (3, .int (iN (p1))), (5, .int (iN (j)))]) hC.1 hC.2.1 dX5_closest_90 hl (by decide) rfl (fun ls hl => ?_)
              refine x_iinc (lv' := [(5, .int (iN (j + 1))), (4, .int (iN (j))), (6, .int (iN (z_7))), (0, .ref a), (1, .ref i), (2, .int (iN (p0))), (3, .int (iN (p1)))]) hC dX5_closest_92 hl (k := 6) rfl (by decide) rfl (fun ls hl => ?_)
              refine lv_goto (tgt := 8) hC.1 hC.2.1 dX5_closest_95 (by decide) ?_
              exact ih8 j (j + 1)  _ _ _ (by first | exact mu_s hmz8 (by omega) | omega) (by omega) (by omega) (by first | exact hi2 | exact fun _ => hz_4S (by omega)) (clF_t (by omega) hcl (by omega) (by omega) (by omega)) hw (lv_sub hl [3, 4, 5, 6, 1, 0] rfl)
            · refine lv_iload_n hC.1 hC.2.1 dX5_closest_67 rfl (lv_at hl 4 rfl) ?_
              refine lv_iload hC.1 hC.2.1 dX5_closest_68 (lv_at hl 0 rfl) ?_
              refine lv_aload_n hC.1 hC.2.1 dX5_closest_70 rfl (lv_at hl 1 rfl) ?_
              refine lv_aload_n hC.1 hC.2.1 dX5_closest_71 rfl (lv_at hl 2 rfl) ?_
              refine lv_iload hC.1 hC.2.1 dX5_closest_72 (lv_at hl 5 rfl) ?_
              refine x_callV hC hw (lv_size hl) (c_X5_weight l G hR hIi (p0 := bs) (by omega) (by omega)) gX5_closest_X5_weight rfl dv_X5_weight hR.1.1 rfl rfl (Nat.le_of_ble_eq_true rfl) (by rw [hRf]; decide) (by rw [hRl]; decide) (by first | (rw [hRc]; decide) | omega) (by first | (rw [hRs]; decide) | omega) dX5_closest_74 (fun r9 M_18 H locs hq hw => ?_)
              obtain ⟨z_19, rfl, hM9, hz_19a, hz_19b⟩ := hq
              rw [hM9] at hw
              show W p l e R s m args below meth c H locs _ _ _ (F0 m 77 ls [.int (iN (z_19)), .int (iN (z_7)), .int (iN (p1))])
              refine x_icmp_ge (tgt := 84) hC ⟨by omega, by omega⟩ ⟨by omega, by omega⟩ dX5_closest_77 (by decide) (fun c_20 => ?_) (fun c_20 => ?_)
              · refine x_const hC dX5_closest_84 ?_
                refine x_icmp_ne (tgt := 92) hC ⟨by omega, by omega⟩ ⟨by omega, by omega⟩ dX5_closest_85 (by decide) (fun c_21 => ?_) (fun c_21 => ?_)
                · refine x_iinc (lv' := [(5, .int (iN (j + 1))), (6, .int (iN (z_7))), (0, .ref a), (1, .ref i), (2, .int (iN (p0))), (3, .int (iN (p1))), (4, .int (iN (bs)))]) hC dX5_closest_92 hl (k := 6) rfl (by decide) rfl (fun ls hl => ?_)
                  refine lv_goto (tgt := 8) hC.1 hC.2.1 dX5_closest_95 (by decide) ?_
                  exact ih8 bs (j + 1)  _ _ _ (by first | exact mu_s hmz8 (by omega) | omega) (by omega) (by omega) (by first | exact hi2 | exact fun _ => hz_4S (by omega)) (clF_k3 (by omega) hcl (by omega)) hw (lv_sub hl [2, 3, 4, 5, 6, 0] rfl)
                · refine lv_iload hC.1 hC.2.1 dX5_closest_88 (lv_at hl 6 rfl) ?_
                  refine lv_istore (lv' := [(4, .int (iN (j))), (6, .int (iN (z_7))), (0, .ref a), (1, .ref i), (2, .int (iN (p0))), (3, .int (iN (p1))), (5, .int (iN (j)))]) hC.1 hC.2.1 dX5_closest_90 hl (by decide) rfl (fun ls hl => ?_)
                  refine x_iinc (lv' := [(5, .int (iN (j + 1))), (4, .int (iN (j))), (6, .int (iN (z_7))), (0, .ref a), (1, .ref i), (2, .int (iN (p0))), (3, .int (iN (p1)))]) hC dX5_closest_92 hl (k := 6) rfl (by decide) rfl (fun ls hl => ?_)
                  refine lv_goto (tgt := 8) hC.1 hC.2.1 dX5_closest_95 (by decide) ?_
                  exact ih8 j (j + 1)  _ _ _ (by first | exact mu_s hmz8 (by omega) | omega) (by omega) (by omega) (by first | exact hi2 | exact fun _ => hz_4S (by omega)) (clF_t (by omega) hcl (by omega) (by omega) (by omega)) hw (lv_sub hl [3, 4, 5, 6, 1, 0] rfl)
              · refine x_const hC dX5_closest_80 ?_
                refine lv_goto (tgt := 85) hC.1 hC.2.1 dX5_closest_81 (by decide) ?_
                refine x_icmp_ne (tgt := 92) hC ⟨by omega, by omega⟩ ⟨by omega, by omega⟩ dX5_closest_85 (by decide) (fun c_22 => ?_) (fun c_22 => ?_)
                · refine x_iinc (lv' := [(5, .int (iN (j + 1))), (6, .int (iN (z_7))), (0, .ref a), (1, .ref i), (2, .int (iN (p0))), (3, .int (iN (p1))), (4, .int (iN (bs)))]) hC dX5_closest_92 hl (k := 6) rfl (by decide) rfl (fun ls hl => ?_)
                  refine lv_goto (tgt := 8) hC.1 hC.2.1 dX5_closest_95 (by decide) ?_
                  exact ih8 bs (j + 1)  _ _ _ (by first | exact mu_s hmz8 (by omega) | omega) (by omega) (by omega) (by first | exact hi2 | exact fun _ => hz_4S (by omega)) (clF_k3 (by omega) hcl (by omega)) hw (lv_sub hl [2, 3, 4, 5, 6, 0] rfl)
                · refine lv_iload hC.1 hC.2.1 dX5_closest_88 (lv_at hl 6 rfl) ?_
                  refine lv_istore (lv' := [(4, .int (iN (j))), (6, .int (iN (z_7))), (0, .ref a), (1, .ref i), (2, .int (iN (p0))), (3, .int (iN (p1))), (5, .int (iN (j)))]) hC.1 hC.2.1 dX5_closest_90 hl (by decide) rfl (fun ls hl => ?_)
                  refine x_iinc (lv' := [(5, .int (iN (j + 1))), (4, .int (iN (j))), (6, .int (iN (z_7))), (0, .ref a), (1, .ref i), (2, .int (iN (p0))), (3, .int (iN (p1)))]) hC dX5_closest_92 hl (k := 6) rfl (by decide) rfl (fun ls hl => ?_)
                  refine lv_goto (tgt := 8) hC.1 hC.2.1 dX5_closest_95 (by decide) ?_
                  exact ih8 j (j + 1)  _ _ _ (by first | exact mu_s hmz8 (by omega) | omega) (by omega) (by omega) (by first | exact hi2 | exact fun _ => hz_4S (by omega)) (clF_t (by omega) hcl (by omega) (by omega) (by omega)) hw (lv_sub hl [3, 4, 5, 6, 1, 0] rfl)
          · refine lv_goto (tgt := 92) hC.1 hC.2.1 dX5_closest_47 (by decide) ?_
            refine x_iinc (lv' := [(5, .int (iN (j + 1))), (6, .int (iN (z_7))), (0, .ref a), (1, .ref i), (2, .int (iN (p0))), (3, .int (iN (p1))), (4, .int (iN (bs)))]) hC dX5_closest_92 hl (k := 6) rfl (by decide) rfl (fun ls hl => ?_)
            refine lv_goto (tgt := 8) hC.1 hC.2.1 dX5_closest_95 (by decide) ?_
            exact ih8 bs (j + 1)  _ _ _ (by first | exact mu_s hmz8 (by omega) | omega) (by omega) (by omega) (by first | exact hi2 | exact fun _ => hz_4S (by omega)) (clF_k2 (by omega) hcl (by omega)) hw (lv_sub hl [2, 3, 4, 5, 6, 0] rfl)
      · refine lv_goto (tgt := 92) hC.1 hC.2.1 dX5_closest_25 (by decide) ?_
        refine x_iinc (lv' := [(5, .int (iN (j + 1))), (0, .ref a), (1, .ref i), (2, .int (iN (p0))), (3, .int (iN (p1))), (4, .int (iN (bs)))]) hC dX5_closest_92 hl (k := 5) rfl (by decide) rfl (fun ls hl => ?_)
        refine lv_goto (tgt := 8) hC.1 hC.2.1 dX5_closest_95 (by decide) ?_
        exact ih8 bs (j + 1)  _ _ _ (by first | exact mu_s hmz8 (by omega) | omega) (by omega) (by omega) (by first | exact hi2 | exact fun _ => hz_4S (by omega)) (clF_k1 (by omega) hcl (by omega)) hw (lv_sub hl [1, 2, 3, 4, 5, 0] rfl)
set_option maxHeartbeats 4000000 in
set_option maxRecDepth 100000 in
theorem c_X5_end (l : Launch) (G : xG) {M : HM} {a va oa wa ya : Nat} {wk : Option Nat} {th : Int} {rfd : Int32} {br re la ha : Int} {kp kv : Int32} {qv qw : Nat → Nat} {fa fb : Nat → Option Nat} {V : BW} {O : OW} {fy : Nat → Option Nat} {Wv : VW} {wt : Option VT} {S : Nat → Bool} (hR : MGx G M a va oa wa ya wk th rfd br re la ha kp kv qv qw fa fb V O fy Wv wt S) {i : Nat} {fi : Nat → Int32} {ti : VT} (hIi : Its G M i fi ti) {p0 : Int} (hp0 : -2147483648 ≤ p0 ∧ p0 ≤ 2147483647) : xMet l G yX5_end wsX5_end 4 93 0 0 [.ref a, .ref i, .int (iN (p0))] M (fun r M1 => ∃ z : Int, r = some (.int (iN z)) ∧ M1 = M ∧ (z = -10000 ∨ (0 ≤ z ∧ z ≤ 99)) ∧ (z ≠ -10000 → mP S V ti z.toNat) ∧ z = endF O V ti p0) := by
  refine x_intro (cc := cX5_end) (maxL := 3) (ret := (some .int)) (by exact pln_RX5) rfl (Nat.le_of_ble_eq_true rfl) ?_
  intro p e R s m args below meth c ls hRf hRc hRs hRl hC hw hl
  have hsc0 := hR.sc.1
  obtain ⟨htat_1, htbt_1, htct_1, htdt_1, htet_1⟩ := id hIi.2.1
  have holi := hR.or' hIi.2.1.1
  have hl : lv_has ls 3 [(0, .ref a), (1, .ref i), (2, .int (iN (p0)))] := hl
  refine lv_iload_n hC.1 hC.2.1 dX5_end_0 rfl (lv_at hl 2 rfl) ?_
  refine x_if_eq (tgt := 16) hC ⟨by omega, by omega⟩ dX5_end_1 (by decide) (fun c_2 => ?_) (fun c_2 => ?_)
  · refine lv_aload_n hC.1 hC.2.1 dX5_end_16 rfl (lv_at hl 0 rfl) ?_
    refine lv_aload_n hC.1 hC.2.1 dX5_end_17 rfl (lv_at hl 1 rfl) ?_
    refine x_const hC dX5_end_18 ?_
    refine x_const hC dX5_end_19 ?_
    refine x_callV hC hw (lv_size hl) (c_X5_closest l G hR hIi (p0 := (-1)) (by omega) (p1 := 1) (by omega) (by omega)) gX5_end_X5_closest rfl dv_X5_closest hR.1.1 rfl rfl (Nat.le_of_ble_eq_true rfl) (by rw [hRf]; decide) (by rw [hRl]; decide) (by first | (rw [hRc]; decide) | omega) (by first | (rw [hRs]; decide) | omega) dX5_end_20 (fun r9 M_3 H locs hq hw => ?_)
    obtain ⟨z_4, rfl, hM9, hz_4a, hz_4S, hz_4c⟩ := hq
    rw [hM9] at hw
    show W p l e R s m args below meth c H locs _ _ _ (F0 m 23 ls [.int (iN (z_4))])
    exact x_iret hC hw dX5_end_23 (by first | decide | omega) (by first | decide | omega) ⟨z_4, rfl, rfl, by omega, hz_4S, (by rw [endF]; (first | rw [if_pos (by omega)] | rw [if_neg (by omega)]); exact hz_4c)⟩
  · refine lv_aload_n hC.1 hC.2.1 dX5_end_4 rfl (lv_at hl 0 rfl) ?_
    refine lv_aload_n hC.1 hC.2.1 dX5_end_5 rfl (lv_at hl 1 rfl) ?_
    refine x_sipush hC dX5_end_6 (by decide +kernel) ?_
    refine x_const hC dX5_end_9 ?_
    refine x_callV hC hw (lv_size hl) (c_X5_closest l G hR hIi (p0 := 1000) (by omega) (p1 := 0) (by omega) (by omega)) gX5_end_X5_closest rfl dv_X5_closest hR.1.1 rfl rfl (Nat.le_of_ble_eq_true rfl) (by rw [hRf]; decide) (by rw [hRl]; decide) (by first | (rw [hRc]; decide) | omega) (by first | (rw [hRs]; decide) | omega) dX5_end_10 (fun r9 M_5 H locs hq hw => ?_)
    obtain ⟨z_6, rfl, hM9, hz_6a, hz_6S, hz_6c⟩ := hq
    rw [hM9] at hw
    show W p l e R s m args below meth c H locs _ _ _ (F0 m 13 ls [.int (iN (z_6))])
    refine lv_goto (tgt := 23) hC.1 hC.2.1 dX5_end_13 (by decide) ?_
    exact x_iret hC hw dX5_end_23 (by first | decide | omega) (by first | decide | omega) ⟨z_6, rfl, rfl, by omega, hz_6S, (by rw [endF]; (first | rw [if_pos (by omega)] | rw [if_neg (by omega)]); exact hz_6c)⟩
set_option maxHeartbeats 4000000 in
set_option maxRecDepth 100000 in
theorem c_X5_nearOf (l : Launch) (G : xG) {M : HM} {a va oa wa ya : Nat} {wk : Option Nat} {th : Int} {rfd : Int32} {br re la ha : Int} {kp kv : Int32} {qv qw : Nat → Nat} {fa fb : Nat → Option Nat} {V : BW} {O : OW} {fy : Nat → Option Nat} {Wv : VW} {wt : Option VT} {S : Nat → Bool} (hR : MGx G M a va oa wa ya wk th rfd br re la ha kp kv qv qw fa fb V O fy Wv wt S) {i : Nat} {fi : Nat → Int32} {ti : VT} (hIi : Its G M i fi ti) {p0 : Int} (hp0 : -2147483648 ≤ p0 ∧ p0 ≤ 2147483647) {p1 : Int} (hp1 : -2147483648 ≤ p1 ∧ p1 ≤ 2147483647) (hop : 0 ≤ p0 ∧ p0 ≤ 99) : xMet l G yX5_nearOf wsX5_nearOf 4 93 0 0 [.ref a, .ref i, .int (iN (p0)), .int (iN (p1))] M (fun r M1 => ∃ z : Int, r = some (.int (iN z)) ∧ M1 = M ∧ (z = -10000 ∨ (0 ≤ z ∧ z ≤ 99)) ∧ (z ≠ -10000 → mP S V ti z.toNat) ∧ z = nrF O V ti p0.toNat p1) := by
  refine x_intro (cc := cX5_nearOf) (maxL := 5) (ret := (some .int)) (by exact pln_RX5) rfl (Nat.le_of_ble_eq_true rfl) ?_
  intro p e R s m args below meth c ls hRf hRc hRs hRl hC hw hl
  have hsc0 := hR.sc.1
  obtain ⟨htat_1, htbt_1, htct_1, htdt_1, htet_1⟩ := id hIi.2.1
  have holi := hR.or' hIi.2.1.1
  have hl : lv_has ls 5 [(0, .ref a), (1, .ref i), (2, .int (iN (p0))), (3, .int (iN (p1)))] := hl
  refine lv_aload_n hC.1 hC.2.1 dX5_nearOf_0 rfl (lv_at hl 0 rfl) ?_
  refine lv_aload_n hC.1 hC.2.1 dX5_nearOf_1 rfl (lv_at hl 1 rfl) ?_
  refine lv_iload_n hC.1 hC.2.1 dX5_nearOf_2 rfl (lv_at hl 2 rfl) ?_
  refine x_callV hC hw (lv_size hl) (c_X5_weight l G hR hIi (p0 := p0) (by first | assumption | omega) (by omega)) gX5_nearOf_X5_weight rfl dv_X5_weight hR.1.1 rfl rfl (Nat.le_of_ble_eq_true rfl) (by rw [hRf]; decide) (by rw [hRl]; decide) (by first | (rw [hRc]; decide) | omega) (by first | (rw [hRs]; decide) | omega) dX5_nearOf_3 (fun r9 M_2 H locs hq hw => ?_)
  obtain ⟨z_3, rfl, hM9, hz_3a, hz_3b⟩ := hq
  rw [hM9] at hw
  show W p l e R s m args below meth c H locs _ _ _ (F0 m 6 ls [.int (iN (z_3))])
  refine lv_istore (lv' := [(4, .int (iN (z_3))), (0, .ref a), (1, .ref i), (2, .int (iN (p0))), (3, .int (iN (p1)))]) hC.1 hC.2.1 dX5_nearOf_6 hl (by decide) rfl (fun ls hl => ?_)
  refine lv_iload_n hC.1 hC.2.1 dX5_nearOf_8 rfl (lv_at hl 4 rfl) ?_
  by_cases c_4 : p1 = 0
  · refine x_tsw (off := 27) (tgt := 36) (k := 0) hC (by omega) dX5_nearOf_9 (by decide) (by decide) rfl (by decide) ?_
    refine lv_aload_n hC.1 hC.2.1 dX5_nearOf_36 rfl (lv_at hl 1 rfl) ?_
    refine lv_aload_n hC.1 hC.2.1 dX5_nearOf_37 rfl (lv_at hl 2 rfl) ?_
    refine lv_iload hC.1 hC.2.1 dX5_nearOf_38 (lv_at hl 0 rfl) ?_
    refine x_const hC dX5_nearOf_40 ?_
    refine x_callV hC hw (lv_size hl) (c_X5_closest l G hR hIi (p0 := z_3) (by omega) (p1 := 0) (by omega) (by omega)) gX5_nearOf_X5_closest rfl dv_X5_closest hR.1.1 rfl rfl (Nat.le_of_ble_eq_true rfl) (by rw [hRf]; decide) (by rw [hRl]; decide) (by first | (rw [hRc]; decide) | omega) (by first | (rw [hRs]; decide) | omega) dX5_nearOf_41 (fun r9 M_5 H locs hq hw => ?_)
    obtain ⟨z_6, rfl, hM9, hz_6a, hz_6S, hz_6c⟩ := hq
    rw [hM9] at hw
    show W p l e R s m args below meth c H locs _ _ _ (F0 m 44 ls [.int (iN (z_6))])
    exact x_iret hC hw dX5_nearOf_44 (by first | decide | omega) (by first | decide | omega) ⟨z_6, rfl, rfl, by omega, hz_6S, (by have e9 := hz_6c; rw [hz_3b] at e9; rw [nrF, if_pos (by omega)]; exact e9)⟩
  by_cases c_7 : p1 = 1
  · refine x_tsw (off := 36) (tgt := 45) (k := 1) hC (by omega) dX5_nearOf_9 (by decide) (by decide) rfl (by decide) ?_
    refine lv_aload_n hC.1 hC.2.1 dX5_nearOf_45 rfl (lv_at hl 1 rfl) ?_
    refine lv_aload_n hC.1 hC.2.1 dX5_nearOf_46 rfl (lv_at hl 2 rfl) ?_
    refine lv_iload hC.1 hC.2.1 dX5_nearOf_47 (lv_at hl 0 rfl) ?_
    refine x_const hC dX5_nearOf_49 ?_
    refine x_iadd hC dX5_nearOf_50 ?_
    refine x_const hC dX5_nearOf_51 ?_
    refine x_callV hC hw (lv_size hl) (c_X5_closest l G hR hIi (p0 := (z_3 + 1)) (by omega) (p1 := 0) (by omega) (by omega)) gX5_nearOf_X5_closest rfl dv_X5_closest hR.1.1 rfl rfl (Nat.le_of_ble_eq_true rfl) (by rw [hRf]; decide) (by rw [hRl]; decide) (by first | (rw [hRc]; decide) | omega) (by first | (rw [hRs]; decide) | omega) dX5_nearOf_52 (fun r9 M_8 H locs hq hw => ?_)
    obtain ⟨z_9, rfl, hM9, hz_9a, hz_9S, hz_9c⟩ := hq
    rw [hM9] at hw
    show W p l e R s m args below meth c H locs _ _ _ (F0 m 55 ls [.int (iN (z_9))])
    exact x_iret hC hw dX5_nearOf_55 (by first | decide | omega) (by first | decide | omega) ⟨z_9, rfl, rfl, by omega, hz_9S, (by have e9 := hz_9c; rw [hz_3b] at e9; rw [nrF, if_neg (by omega), if_pos (by omega)]; exact e9)⟩
  by_cases c_10 : p1 = 2
  · refine x_tsw (off := 47) (tgt := 56) (k := 2) hC (by omega) dX5_nearOf_9 (by decide) (by decide) rfl (by decide) ?_
    refine lv_aload_n hC.1 hC.2.1 dX5_nearOf_56 rfl (lv_at hl 1 rfl) ?_
    refine lv_aload_n hC.1 hC.2.1 dX5_nearOf_57 rfl (lv_at hl 2 rfl) ?_
    refine lv_iload hC.1 hC.2.1 dX5_nearOf_58 (lv_at hl 0 rfl) ?_
    refine x_const hC dX5_nearOf_60 ?_
    refine x_isub hC dX5_nearOf_61 ?_
    refine x_const hC dX5_nearOf_62 ?_
    refine x_callV hC hw (lv_size hl) (c_X5_closest l G hR hIi (p0 := (z_3 - 1)) (by omega) (p1 := 1) (by omega) (by omega)) gX5_nearOf_X5_closest rfl dv_X5_closest hR.1.1 rfl rfl (Nat.le_of_ble_eq_true rfl) (by rw [hRf]; decide) (by rw [hRl]; decide) (by first | (rw [hRc]; decide) | omega) (by first | (rw [hRs]; decide) | omega) dX5_nearOf_63 (fun r9 M_11 H locs hq hw => ?_)
    obtain ⟨z_12, rfl, hM9, hz_12a, hz_12S, hz_12c⟩ := hq
    rw [hM9] at hw
    show W p l e R s m args below meth c H locs _ _ _ (F0 m 66 ls [.int (iN (z_12))])
    exact x_iret hC hw dX5_nearOf_66 (by first | decide | omega) (by first | decide | omega) ⟨z_12, rfl, rfl, by omega, hz_12S, (by have e9 := hz_12c; rw [hz_3b] at e9; rw [nrF, if_neg (by omega), if_neg (by omega), if_pos (by omega)]; exact e9)⟩
  refine x_tswd (tgt := 67) hC ⟨by omega, by omega⟩ dX5_nearOf_9 (by omega) (by decide) ?_
  refine lv_aload_n hC.1 hC.2.1 dX5_nearOf_67 rfl (lv_at hl 1 rfl) ?_
  refine lv_aload_n hC.1 hC.2.1 dX5_nearOf_68 rfl (lv_at hl 2 rfl) ?_
  refine lv_iload hC.1 hC.2.1 dX5_nearOf_69 (lv_at hl 0 rfl) ?_
  refine x_const hC dX5_nearOf_71 ?_
  refine x_callV hC hw (lv_size hl) (c_X5_closest l G hR hIi (p0 := z_3) (by omega) (p1 := 1) (by omega) (by omega)) gX5_nearOf_X5_closest rfl dv_X5_closest hR.1.1 rfl rfl (Nat.le_of_ble_eq_true rfl) (by rw [hRf]; decide) (by rw [hRl]; decide) (by first | (rw [hRc]; decide) | omega) (by first | (rw [hRs]; decide) | omega) dX5_nearOf_72 (fun r9 M_13 H locs hq hw => ?_)
  obtain ⟨z_14, rfl, hM9, hz_14a, hz_14S, hz_14c⟩ := hq
  rw [hM9] at hw
  show W p l e R s m args below meth c H locs _ _ _ (F0 m 75 ls [.int (iN (z_14))])
  exact x_iret hC hw dX5_nearOf_75 (by first | decide | omega) (by first | decide | omega) ⟨z_14, rfl, rfl, by omega, hz_14S, (by have e9 := hz_14c; rw [hz_3b] at e9; rw [nrF, if_neg (by omega), if_neg (by omega), if_neg (by omega)]; exact e9)⟩
set_option maxHeartbeats 4000000 in
set_option maxRecDepth 100000 in
theorem c_X5_many (l : Launch) (G : xG) {M : HM} {a va oa wa ya : Nat} {wk : Option Nat} {th : Int} {rfd : Int32} {br re la ha : Int} {kp kv : Int32} {qv qw : Nat → Nat} {fa fb : Nat → Option Nat} {V : BW} {O : OW} {fy : Nat → Option Nat} {Wv : VW} {wt : Option VT} {S : Nat → Bool} (hR : MGx G M a va oa wa ya wk th rfd br re la ha kp kv qv qw fa fb V O fy Wv wt S) {i : Nat} {fi : Nat → Int32} {ti : VT} (hIi : Its G M i fi ti) : xMet l G yX5_many wsX5_many 3 67 0 0 [.ref a, .ref i] M (fun r M1 => ∃ z : Int, r = some (.int (iN z)) ∧ M1 = M ∧ (0 ≤ z ∧ z ≤ 100) ∧ z = mnF O V ti 100) := by
  refine x_intro (cc := cX5_many) (maxL := 4) (ret := (some .int)) (by exact pln_RX5) rfl (Nat.le_of_ble_eq_true rfl) ?_
  intro p e R s m args below meth c ls hRf hRc hRs hRl hC hw hl
  have hsc0 := hR.sc.1
  obtain ⟨htat_1, htbt_1, htct_1, htdt_1, htet_1⟩ := id hIi.2.1
  have holi := hR.or' hIi.2.1.1
  have hl : lv_has ls 4 [(0, .ref a), (1, .ref i)] := hl
  refine x_const hC dX5_many_0 ?_
  refine lv_istore_n (lv' := [(2, .int (iN (0))), (0, .ref a), (1, .ref i)]) hC.1 hC.2.1 dX5_many_1 rfl hl (by decide) rfl (fun ls hl => ?_)
  refine x_const hC dX5_many_2 ?_
  refine lv_istore_n (lv' := [(3, .int (iN (0))), (2, .int (iN (0))), (0, .ref a), (1, .ref i)]) hC.1 hC.2.1 dX5_many_3 rfl hl (by decide) rfl (fun ls hl => ?_)
  suffices hloop4 : ∀ (n9 : Nat) (n : Int) (j : Int) (H : Heap) (locs : List Loc) (ls : Array Slot), (hmz4 : (100 - j).toNat < n9) → (hi0 : 0 ≤ j ∧ j ≤ 100) → (hi1 : 0 ≤ n ∧ n ≤ j) → (hcn : n = mnF O V ti j.toNat) → xD G (xA M s.heap.size) s M H locs → lv_has ls 4 [(0, .ref a), (1, .ref i), (2, .int (iN (n))), (3, .int (iN (j)))] → W p l e R s m args below meth c H locs _ _ _ (F0 m 4 ls []) by
    exact hloop4 _ 0 0  _ _ _ (Nat.lt_succ_self _) (by omega) (by omega) (rfl) hw (lv_sub hl [2, 3, 1, 0] rfl)
  intro n9
  induction n9 with
  | zero => intro n j  H locs ls hmz; exact absurd hmz (Nat.not_lt_zero _)
  | succ n9 ih4 =>
    intro n j  H locs ls hmz4 hi0 hi1 hcn hw hl
    refine lv_iload_n hC.1 hC.2.1 dX5_many_4 rfl (lv_at hl 3 rfl) ?_
    refine x_bipush hC dX5_many_5 (by decide +kernel) ?_
    refine x_icmp_ge (tgt := 28) hC ⟨by omega, by omega⟩ ⟨by omega, by omega⟩ dX5_many_7 (by decide) (fun c_2 => ?_) (fun c_2 => ?_)
    · refine lv_iload_n hC.1 hC.2.1 dX5_many_28 rfl (lv_at hl 2 rfl) ?_
      exact x_iret hC hw dX5_many_29 (by first | decide | omega) (by first | decide | omega) ⟨n, rfl, rfl, by omega, by rw [show (100 : Nat) = (j).toNat from (tn_eq (by omega)).symm]; exact hcn⟩
    · refine lv_iload_n hC.1 hC.2.1 dX5_many_10 rfl (lv_at hl 2 rfl) ?_
      refine lv_aload_n hC.1 hC.2.1 dX5_many_11 rfl (lv_at hl 0 rfl) ?_
      refine lv_aload_n hC.1 hC.2.1 dX5_many_12 rfl (lv_at hl 1 rfl) ?_
      refine lv_iload_n hC.1 hC.2.1 dX5_many_13 rfl (lv_at hl 3 rfl) ?_
      refine x_callV hC hw (lv_size hl) (c_X5_shows l G hR hIi (p0 := j) (by omega) (by omega)) gX5_many_X5_shows rfl dv_X5_shows hR.1.1 rfl rfl (Nat.le_of_ble_eq_true rfl) (by rw [hRf]; decide) (by rw [hRl]; decide) (by first | (rw [hRc]; decide) | omega) (by first | (rw [hRs]; decide) | omega) dX5_many_14 (fun r9 M_3 H locs hq hw => ?_)
      obtain ⟨z_4, rfl, hM9, hz_4a, hz_4s, hz_4S⟩ := hq
      rw [hM9] at hw
      show W p l e R s m args below meth c H locs _ _ _ (F0 m 17 ls [.int (iN (z_4)), .int (iN (n))])
      refine x_callS hC hw (lv_size hl) (c_X5_one l G (M := M) (p0 := z_4) (by omega)) gX5_many_X5_one rfl dv_X5_one_s rfl (Nat.le_of_ble_eq_true rfl) (by rw [hRf]; decide) (by rw [hRl]; decide) (by first | (rw [hRc]; decide) | omega) (by first | (rw [hRs]; decide) | omega) dX5_many_17 (fun r9 M_5 H locs hq hw => ?_)
      obtain ⟨z_6, rfl, hM9, hz_6a, hz_6b⟩ := hq
      rw [hM9] at hw
      show W p l e R s m args below meth c H locs _ _ _ (F0 m 20 ls [.int (iN (z_6)), .int (iN (n))])
      refine x_iadd hC dX5_many_20 ?_
      refine lv_istore_n (lv' := [(2, .int (iN (n + z_6))), (0, .ref a), (1, .ref i), (3, .int (iN (j)))]) hC.1 hC.2.1 dX5_many_21 rfl hl (by decide) rfl (fun ls hl => ?_)
      refine x_iinc (lv' := [(3, .int (iN (j + 1))), (2, .int (iN (n + z_6))), (0, .ref a), (1, .ref i)]) hC dX5_many_22 hl (k := 3) rfl (by decide) rfl (fun ls hl => ?_)
      refine lv_goto (tgt := 4) hC.1 hC.2.1 dX5_many_25 (by decide) ?_
      exact ih4 (n + z_6) (j + 1)  _ _ _ (by first | exact mu_s hmz4 (by omega) | omega) (by omega) (by omega) (by rw [mnF_s (by omega) rfl]; omega) hw (lv_sub hl [2, 3, 1, 0] rfl)
set_option maxHeartbeats 4000000 in
set_option maxRecDepth 100000 in
theorem c_X5_sum (l : Launch) (G : xG) {M : HM} {a va oa wa ya : Nat} {wk : Option Nat} {th : Int} {rfd : Int32} {br re la ha : Int} {kp kv : Int32} {qv qw : Nat → Nat} {fa fb : Nat → Option Nat} {V : BW} {O : OW} {fy : Nat → Option Nat} {Wv : VW} {wt : Option VT} {S : Nat → Bool} (hR : MGx G M a va oa wa ya wk th rfd br re la ha kp kv qv qw fa fb V O fy Wv wt S) {i : Nat} {fi : Nat → Int32} {ti : VT} (hIi : Its G M i fi ti) : xMet l G yX5_sum wsX5_sum 3 67 0 0 [.ref a, .ref i] M (fun r M1 => ∃ z : Int, r = some (.int (iN z)) ∧ M1 = M ∧ (-1000000 ≤ z ∧ z ≤ 1000000) ∧ z = smF O V ti 100) := by
  refine x_intro (cc := cX5_sum) (maxL := 4) (ret := (some .int)) (by exact pln_RX5) rfl (Nat.le_of_ble_eq_true rfl) ?_
  intro p e R s m args below meth c ls hRf hRc hRs hRl hC hw hl
  have hsc0 := hR.sc.1
  obtain ⟨htat_1, htbt_1, htct_1, htdt_1, htet_1⟩ := id hIi.2.1
  have holi := hR.or' hIi.2.1.1
  have hvr9 := fun k (hk : k < 100) => hR.vr hIi.2.1.1 hk
  have hinX5 : ∀ w ∈ wsX50, w ∈ wsX5_sum := fun w h => (List.mem_cons_of_mem _ (List.mem_append_right _ h))
  have hl : lv_has ls 4 [(0, .ref a), (1, .ref i)] := hl
  refine x_const hC dX5_sum_0 ?_
  refine lv_istore_n (lv' := [(2, .int (iN (0))), (0, .ref a), (1, .ref i)]) hC.1 hC.2.1 dX5_sum_1 rfl hl (by decide) rfl (fun ls hl => ?_)
  refine x_const hC dX5_sum_2 ?_
  refine lv_istore_n (lv' := [(3, .int (iN (0))), (2, .int (iN (0))), (0, .ref a), (1, .ref i)]) hC.1 hC.2.1 dX5_sum_3 rfl hl (by decide) rfl (fun ls hl => ?_)
  suffices hloop4 : ∀ (n9 : Nat) (n : Int) (j : Int) (H : Heap) (locs : List Loc) (ls : Array Slot), (hmz4 : (100 - j).toNat < n9) → (hi0 : 0 ≤ j ∧ j ≤ 100) → (hcn : n = smF O V ti j.toNat) → xD G (xA M s.heap.size) s M H locs → lv_has ls 4 [(0, .ref a), (1, .ref i), (2, .int (iN (n))), (3, .int (iN (j)))] → W p l e R s m args below meth c H locs _ _ _ (F0 m 4 ls []) by
    exact hloop4 _ 0 0  _ _ _ (Nat.lt_succ_self _) (by omega) (rfl) hw (lv_sub hl [2, 3, 1, 0] rfl)
  intro n9
  induction n9 with
  | zero => intro n j  H locs ls hmz; exact absurd hmz (Nat.not_lt_zero _)
  | succ n9 ih4 =>
    intro n j  H locs ls hmz4 hi0 hcn hw hl
    refine lv_iload_n hC.1 hC.2.1 dX5_sum_4 rfl (lv_at hl 3 rfl) ?_
    refine x_bipush hC dX5_sum_5 (by decide +kernel) ?_
    refine x_icmp_ge (tgt := 38) hC ⟨by omega, by omega⟩ ⟨by omega, by omega⟩ dX5_sum_7 (by decide) (fun c_2 => ?_) (fun c_2 => ?_)
    · refine lv_iload_n hC.1 hC.2.1 dX5_sum_38 rfl (lv_at hl 2 rfl) ?_
      exact x_iret hC hw dX5_sum_39 (by first | decide | omega) (by first | decide | omega) ⟨n, rfl, rfl, by have e9 := smF_r (O := O) hvr9 (j).toNat (by omega); omega, by rw [show (100 : Nat) = (j).toNat from (tn_eq (by omega)).symm]; exact hcn⟩
    · refine lv_aload_n hC.1 hC.2.1 dX5_sum_10 rfl (lv_at hl 0 rfl) ?_
      refine lv_aload_n hC.1 hC.2.1 dX5_sum_11 rfl (lv_at hl 1 rfl) ?_
      refine lv_iload_n hC.1 hC.2.1 dX5_sum_12 rfl (lv_at hl 3 rfl) ?_
      refine x_callV hC hw (lv_size hl) (c_X5_shows l G hR hIi (p0 := j) (by omega) (by omega)) gX5_sum_X5_shows rfl dv_X5_shows hR.1.1 rfl rfl (Nat.le_of_ble_eq_true rfl) (by rw [hRf]; decide) (by rw [hRl]; decide) (by first | (rw [hRc]; decide) | omega) (by first | (rw [hRs]; decide) | omega) dX5_sum_13 (fun r9 M_3 H locs hq hw => ?_)
      obtain ⟨z_4, rfl, hM9, hz_4a, hz_4s, hz_4S⟩ := hq
      rw [hM9] at hw
      show W p l e R s m args below meth c H locs _ _ _ (F0 m 16 ls [.int (iN (z_4))])
      refine x_if_eq (tgt := 32) hC ⟨by omega, by omega⟩ dX5_sum_16 (by decide) (fun c_5 => ?_) (fun c_5 => ?_)
      · refine x_iinc (lv' := [(3, .int (iN (j + 1))), (0, .ref a), (1, .ref i), (2, .int (iN (n)))]) hC dX5_sum_32 hl (k := 3) rfl (by decide) rfl (fun ls hl => ?_)
        refine lv_goto (tgt := 4) hC.1 hC.2.1 dX5_sum_35 (by decide) ?_
        exact ih4 n (j + 1)  _ _ _ (by first | exact mu_s hmz4 (by omega) | omega) (by omega) (by rw [smF_s (by omega) rfl]; omega) hw (lv_sub hl [1, 2, 3, 0] rfl)
      · refine lv_iload_n hC.1 hC.2.1 dX5_sum_19 rfl (lv_at hl 2 rfl) ?_
        refine lv_aload_n hC.1 hC.2.1 dX5_sum_20 rfl (lv_at hl 0 rfl) ?_
        refine x_get hC hw hR.1.1 rfl hinX5 2 (by decide) (List.mem_cons_of_mem _ (List.mem_append_left _ (List.mem_of_getElem? (i := 0) rfl))) rfl dX5_sum_21 ?_
        refine lv_aload_n hC.1 hC.2.1 dX5_sum_24 rfl (lv_at hl 1 rfl) ?_
        refine x_const hC dX5_sum_25 ?_
        refine x_ialdE (x := ((ti.b : Nat) : Int)) hC hw hIi.1 (by omega) (by omega) (by omega) dX5_sum_26 hIi.2.2.1 ?_
        refine x_ald4 hC hw hR.1.2.1 (by omega) (by omega) (by omega) dX5_sum_27 ?_
        rw [Int.toNat_natCast]
        rw [hR.fa' (show ti.b < 3 by omega)]
        show W p l e R s m args below meth c _ _ _ _ _ (F0 m 28 ls [.ref (qv ti.b), .int (iN (n))])
        refine lv_iload_n hC.1 hC.2.1 dX5_sum_28 rfl (lv_at hl 3 rfl) ?_
        refine x_ialdE (x := (V ti.b ((j).toNat))) hC hw (hR.rv (show ti.b < 3 by omega)) (by omega) (by omega) (by omega) dX5_sum_29 rfl ?_
        have hrv_6 := hR.vr (show ti.b < 3 by omega) (show (j).toNat < 100 from tn_lt (by omega) (by decide))
        have hpv_6 := hR.vs (show ti.b < 3 by omega) (show (j).toNat < 100 from tn_lt (by omega) (by decide))
        refine x_iadd hC dX5_sum_30 ?_
        refine lv_istore_n (lv' := [(2, .int (iN (n + (V ti.b ((j).toNat))))), (0, .ref a), (1, .ref i), (3, .int (iN (j)))]) hC.1 hC.2.1 dX5_sum_31 rfl hl (by decide) rfl (fun ls hl => ?_)
        refine x_iinc (lv' := [(3, .int (iN (j + 1))), (2, .int (iN (n + (V ti.b ((j).toNat))))), (0, .ref a), (1, .ref i)]) hC dX5_sum_32 hl (k := 3) rfl (by decide) rfl (fun ls hl => ?_)
        refine lv_goto (tgt := 4) hC.1 hC.2.1 dX5_sum_35 (by decide) ?_
        exact ih4 (n + (V ti.b ((j).toNat))) (j + 1)  _ _ _ (by first | exact mu_s hmz4 (by omega) | omega) (by omega) (by rw [smF_s (by omega) rfl]; omega) hw (lv_sub hl [2, 3, 1, 0] rfl)
set_option maxHeartbeats 4000000 in
set_option maxRecDepth 100000 in
theorem c_X5_ahead (l : Launch) (G : xG) {M : HM} {a va oa wa ya : Nat} {wk : Option Nat} {th : Int} {rfd : Int32} {br re la ha : Int} {kp kv : Int32} {qv qw : Nat → Nat} {fa fb : Nat → Option Nat} {V : BW} {O : OW} {fy : Nat → Option Nat} {Wv : VW} {wt : Option VT} {S : Nat → Bool} (hR : MGx G M a va oa wa ya wk th rfd br re la ha kp kv qv qw fa fb V O fy Wv wt S) {p0 : Int} (hp0 : -2147483648 ≤ p0 ∧ p0 ≤ 2147483647) {p1 : Int} (hp1 : -2147483648 ≤ p1 ∧ p1 ≤ 2147483647) (hob : 0 ≤ p0 ∧ p0 ≤ 2) (hok : 0 ≤ p1 ∧ p1 ≤ 99) : xMet l G yX5_ahead wsX5_ahead 3 67 1 5 [.ref a, .int (iN (p0)), .int (iN (p1))] M (fun r M1 => ∃ z : Int, r = some (.int (iN z)) ∧ xExt M M1 ∧ (0 ≤ z ∧ z ≤ 100) ∧ z = ahF O V p0.toNat p1.toNat 100) := by
  refine x_intro (cc := cX5_ahead) (maxL := 6) (ret := (some .int)) (by exact pln_RX5) rfl (Nat.le_of_ble_eq_true rfl) ?_
  intro p e R s m args below meth c ls hRf hRc hRs hRl hC hw hl
  have hsc0 := hR.sc.1
  have hl : lv_has ls 6 [(0, .ref a), (1, .int (iN (p0))), (2, .int (iN (p1)))] := hl
  refine lv_iload_n hC.1 hC.2.1 dX5_ahead_0 rfl (lv_at hl 1 rfl) ?_
  refine x_callS hC hw (lv_size hl) (c_X5_whole l G (M := M) (p0 := p0) (by first | assumption | omega) (by omega)) gX5_ahead_X5_whole rfl dv_X5_whole_s rfl (Nat.le_of_ble_eq_true rfl) (by rw [hRf]; decide) (by rw [hRl]; decide) (by first | (rw [hRc]; decide) | omega) (by first | (rw [hRs]; decide) | omega) dX5_ahead_1 (fun r9 M_1 H locs hq hw => ?_)
  obtain ⟨qk_2, fk_2, rfl, hxk_2, hIk_2⟩ := hq
  have h_3 := hR.ext hxk_2
  obtain ⟨htat_4, htbt_4, htct_4, htdt_4, htet_4⟩ := id hIk_2.2.1
  have holk_2 := h_3.or' hIk_2.2.1.1
  show W p l e R s m args below meth c H locs _ _ _ (F0 m 4 ls [.ref qk_2])
  refine lv_astore_n (lv' := [(3, .ref qk_2), (0, .ref a), (1, .int (iN (p0))), (2, .int (iN (p1)))]) hC.1 hC.2.1 dX5_ahead_4 rfl hl (by decide) rfl (fun ls hl => ?_)
  refine x_const hC dX5_ahead_5 ?_
  refine lv_istore (lv' := [(4, .int (iN (0))), (3, .ref qk_2), (0, .ref a), (1, .int (iN (p0))), (2, .int (iN (p1)))]) hC.1 hC.2.1 dX5_ahead_6 hl (by decide) rfl (fun ls hl => ?_)
  refine x_const hC dX5_ahead_8 ?_
  refine lv_istore (lv' := [(5, .int (iN (0))), (4, .int (iN (0))), (3, .ref qk_2), (0, .ref a), (1, .int (iN (p0))), (2, .int (iN (p1)))]) hC.1 hC.2.1 dX5_ahead_9 hl (by decide) rfl (fun ls hl => ?_)
  suffices hloop11 : ∀ (n9 : Nat) (n : Int) (j : Int) (H : Heap) (locs : List Loc) (ls : Array Slot), (hmz11 : (100 - j).toNat < n9) → (hi0 : 0 ≤ j ∧ j ≤ 100) → (hi1 : 0 ≤ n ∧ n ≤ j) → (hcn : n = ahF O V (p0).toNat (p1).toNat (j).toNat) → xD G (xA M s.heap.size) s M_1 H locs → lv_has ls 6 [(0, .ref a), (1, .int (iN (p0))), (2, .int (iN (p1))), (3, .ref qk_2), (4, .int (iN (n))), (5, .int (iN (j)))] → W p l e R s m args below meth c H locs _ _ _ (F0 m 11 ls []) by
    exact hloop11 _ 0 0  _ _ _ (Nat.lt_succ_self _) (by omega) (by omega) (rfl) hw (lv_sub hl [3, 4, 5, 2, 1, 0] rfl)
  intro n9
  induction n9 with
  | zero => intro n j  H locs ls hmz; exact absurd hmz (Nat.not_lt_zero _)
  | succ n9 ih11 =>
    intro n j  H locs ls hmz11 hi0 hi1 hcn hw hl
    refine lv_iload hC.1 hC.2.1 dX5_ahead_11 (lv_at hl 5 rfl) ?_
    refine x_bipush hC dX5_ahead_13 (by decide +kernel) ?_
    refine x_icmp_ge (tgt := 63) hC ⟨by omega, by omega⟩ ⟨by omega, by omega⟩ dX5_ahead_15 (by decide) (fun c_5 => ?_) (fun c_5 => ?_)
    · refine lv_iload hC.1 hC.2.1 dX5_ahead_63 (lv_at hl 4 rfl) ?_
      exact x_iret hC hw dX5_ahead_65 (by first | decide | omega) (by first | decide | omega) ⟨n, rfl, hxk_2, by omega, by rw [show (100 : Nat) = (j).toNat from (tn_eq (by omega)).symm]; exact hcn⟩
    · refine lv_iload hC.1 hC.2.1 dX5_ahead_18 (lv_at hl 4 rfl) ?_
      refine lv_aload_n hC.1 hC.2.1 dX5_ahead_20 rfl (lv_at hl 0 rfl) ?_
      refine lv_aload_n hC.1 hC.2.1 dX5_ahead_21 rfl (lv_at hl 3 rfl) ?_
      refine lv_iload hC.1 hC.2.1 dX5_ahead_22 (lv_at hl 5 rfl) ?_
      refine x_callV hC hw (lv_size hl) (c_X5_shows l G h_3 hIk_2 (p0 := j) (by omega) (by omega)) gX5_ahead_X5_shows rfl dv_X5_shows h_3.1.1 rfl rfl (Nat.le_of_ble_eq_true rfl) (by rw [hRf]; decide) (by rw [hRl]; decide) (by first | (rw [hRc]; decide) | omega) (by first | (rw [hRs]; decide) | omega) dX5_ahead_24 (fun r9 M_6 H locs hq hw => ?_)
      obtain ⟨z_7, rfl, hM9, hz_7a, hz_7s, hz_7S⟩ := hq
      rw [hM9] at hw
      show W p l e R s m args below meth c H locs _ _ _ (F0 m 27 ls [.int (iN (z_7)), .int (iN (n))])
      refine x_if_eq (tgt := 50) hC ⟨by omega, by omega⟩ dX5_ahead_27 (by decide) (fun c_8 => ?_) (fun c_8 => ?_)
      · refine x_const hC dX5_ahead_50 ?_
        refine x_callS hC hw (lv_size hl) (c_X5_one l G (M := M_1) (p0 := 0) (by omega)) gX5_ahead_X5_one rfl dv_X5_one_s rfl (Nat.le_of_ble_eq_true rfl) (by rw [hRf]; decide) (by rw [hRl]; decide) (by first | (rw [hRc]; decide) | omega) (by first | (rw [hRs]; decide) | omega) dX5_ahead_51 (fun r9 M_9 H locs hq hw => ?_)
        obtain ⟨z_10, rfl, hM9, hz_10a, hz_10b⟩ := hq
        rw [hM9] at hw
        show W p l e R s m args below meth c H locs _ _ _ (F0 m 54 ls [.int (iN (z_10)), .int (iN (n))])
        refine x_iadd hC dX5_ahead_54 ?_
        refine lv_istore (lv' := [(4, .int (iN (n + z_10))), (0, .ref a), (1, .int (iN (p0))), (2, .int (iN (p1))), (3, .ref qk_2), (5, .int (iN (j)))]) hC.1 hC.2.1 dX5_ahead_55 hl (by decide) rfl (fun ls hl => ?_)
        refine x_iinc (lv' := [(5, .int (iN (j + 1))), (4, .int (iN (n + z_10))), (0, .ref a), (1, .int (iN (p0))), (2, .int (iN (p1))), (3, .ref qk_2)]) hC dX5_ahead_57 hl (k := 5) rfl (by decide) rfl (fun ls hl => ?_)
        refine lv_goto (tgt := 11) hC.1 hC.2.1 dX5_ahead_60 (by decide) ?_
        exact ih11 (n + z_10) (j + 1)  _ _ _ (by first | exact mu_s hmz11 (by omega) | omega) (by omega) (by omega) (by rw [ahF_s (by omega) rfl]; first | omega | (show _ = _ + (if shI O V (whT (p0).toNat) (j).toNat = 1 ∧ (mwN (O (whT (p0).toNat).b) (j).toNat : Int) < mwN (O (whT (p0).toNat).b) (p1).toNat then 1 else 0); omega)) hw (lv_sub hl [2, 3, 4, 5, 1, 0] rfl)
      · refine lv_aload_n hC.1 hC.2.1 dX5_ahead_30 rfl (lv_at hl 0 rfl) ?_
        refine lv_aload_n hC.1 hC.2.1 dX5_ahead_31 rfl (lv_at hl 3 rfl) ?_
        refine lv_iload hC.1 hC.2.1 dX5_ahead_32 (lv_at hl 5 rfl) ?_
        refine x_callV hC hw (lv_size hl) (c_X5_weight l G h_3 hIk_2 (p0 := j) (by omega) (by omega)) gX5_ahead_X5_weight rfl dv_X5_weight h_3.1.1 rfl rfl (Nat.le_of_ble_eq_true rfl) (by rw [hRf]; decide) (by rw [hRl]; decide) (by first | (rw [hRc]; decide) | omega) (by first | (rw [hRs]; decide) | omega) dX5_ahead_34 (fun r9 M_11 H locs hq hw => ?_)
        obtain ⟨z_12, rfl, hM9, hz_12a, hz_12b⟩ := hq
        rw [hM9] at hw
        show W p l e R s m args below meth c H locs _ _ _ (F0 m 37 ls [.int (iN (z_12)), .int (iN (n))])
        refine lv_aload_n hC.1 hC.2.1 dX5_ahead_37 rfl (lv_at hl 0 rfl) ?_
        refine lv_aload_n hC.1 hC.2.1 dX5_ahead_38 rfl (lv_at hl 3 rfl) ?_
        refine lv_iload_n hC.1 hC.2.1 dX5_ahead_39 rfl (lv_at hl 2 rfl) ?_
        refine x_callV hC hw (lv_size hl) (c_X5_weight l G h_3 hIk_2 (p0 := p1) (by first | assumption | omega) (by omega)) gX5_ahead_X5_weight rfl dv_X5_weight h_3.1.1 rfl rfl (Nat.le_of_ble_eq_true rfl) (by rw [hRf]; decide) (by rw [hRl]; decide) (by first | (rw [hRc]; decide) | omega) (by first | (rw [hRs]; decide) | omega) dX5_ahead_40 (fun r9 M_13 H locs hq hw => ?_)
        obtain ⟨z_14, rfl, hM9, hz_14a, hz_14b⟩ := hq
        rw [hM9] at hw
        show W p l e R s m args below meth c H locs _ _ _ (F0 m 43 ls [.int (iN (z_14)), .int (iN (z_12)), .int (iN (n))])
        refine x_icmp_ge (tgt := 50) hC ⟨by omega, by omega⟩ ⟨by omega, by omega⟩ dX5_ahead_43 (by decide) (fun c_15 => ?_) (fun c_15 => ?_)
        · refine x_const hC dX5_ahead_50 ?_
          refine x_callS hC hw (lv_size hl) (c_X5_one l G (M := M_1) (p0 := 0) (by omega)) gX5_ahead_X5_one rfl dv_X5_one_s rfl (Nat.le_of_ble_eq_true rfl) (by rw [hRf]; decide) (by rw [hRl]; decide) (by first | (rw [hRc]; decide) | omega) (by first | (rw [hRs]; decide) | omega) dX5_ahead_51 (fun r9 M_16 H locs hq hw => ?_)
          obtain ⟨z_17, rfl, hM9, hz_17a, hz_17b⟩ := hq
          rw [hM9] at hw
          show W p l e R s m args below meth c H locs _ _ _ (F0 m 54 ls [.int (iN (z_17)), .int (iN (n))])
          refine x_iadd hC dX5_ahead_54 ?_
          refine lv_istore (lv' := [(4, .int (iN (n + z_17))), (0, .ref a), (1, .int (iN (p0))), (2, .int (iN (p1))), (3, .ref qk_2), (5, .int (iN (j)))]) hC.1 hC.2.1 dX5_ahead_55 hl (by decide) rfl (fun ls hl => ?_)
          refine x_iinc (lv' := [(5, .int (iN (j + 1))), (4, .int (iN (n + z_17))), (0, .ref a), (1, .int (iN (p0))), (2, .int (iN (p1))), (3, .ref qk_2)]) hC dX5_ahead_57 hl (k := 5) rfl (by decide) rfl (fun ls hl => ?_)
          refine lv_goto (tgt := 11) hC.1 hC.2.1 dX5_ahead_60 (by decide) ?_
          exact ih11 (n + z_17) (j + 1)  _ _ _ (by first | exact mu_s hmz11 (by omega) | omega) (by omega) (by omega) (by rw [ahF_s (by omega) rfl]; first | omega | (show _ = _ + (if shI O V (whT (p0).toNat) (j).toNat = 1 ∧ (mwN (O (whT (p0).toNat).b) (j).toNat : Int) < mwN (O (whT (p0).toNat).b) (p1).toNat then 1 else 0); omega)) hw (lv_sub hl [2, 3, 4, 5, 1, 0] rfl)
        · refine x_const hC dX5_ahead_46 ?_
          refine lv_goto (tgt := 51) hC.1 hC.2.1 dX5_ahead_47 (by decide) ?_
          refine x_callS hC hw (lv_size hl) (c_X5_one l G (M := M_1) (p0 := 1) (by omega)) gX5_ahead_X5_one rfl dv_X5_one_s rfl (Nat.le_of_ble_eq_true rfl) (by rw [hRf]; decide) (by rw [hRl]; decide) (by first | (rw [hRc]; decide) | omega) (by first | (rw [hRs]; decide) | omega) dX5_ahead_51 (fun r9 M_18 H locs hq hw => ?_)
          obtain ⟨z_19, rfl, hM9, hz_19a, hz_19b⟩ := hq
          rw [hM9] at hw
          show W p l e R s m args below meth c H locs _ _ _ (F0 m 54 ls [.int (iN (z_19)), .int (iN (n))])
          refine x_iadd hC dX5_ahead_54 ?_
          refine lv_istore (lv' := [(4, .int (iN (n + z_19))), (0, .ref a), (1, .int (iN (p0))), (2, .int (iN (p1))), (3, .ref qk_2), (5, .int (iN (j)))]) hC.1 hC.2.1 dX5_ahead_55 hl (by decide) rfl (fun ls hl => ?_)
          refine x_iinc (lv' := [(5, .int (iN (j + 1))), (4, .int (iN (n + z_19))), (0, .ref a), (1, .int (iN (p0))), (2, .int (iN (p1))), (3, .ref qk_2)]) hC dX5_ahead_57 hl (k := 5) rfl (by decide) rfl (fun ls hl => ?_)
          refine lv_goto (tgt := 11) hC.1 hC.2.1 dX5_ahead_60 (by decide) ?_
          exact ih11 (n + z_19) (j + 1)  _ _ _ (by first | exact mu_s hmz11 (by omega) | omega) (by omega) (by omega) (by rw [ahF_s (by omega) rfl]; first | omega | (show _ = _ + (if shI O V (whT (p0).toNat) (j).toNat = 1 ∧ (mwN (O (whT (p0).toNat).b) (j).toNat : Int) < mwN (O (whT (p0).toNat).b) (p1).toNat then 1 else 0); omega)) hw (lv_sub hl [2, 3, 4, 5, 1, 0] rfl)
set_option maxHeartbeats 4000000 in
set_option maxRecDepth 100000 in
theorem c_X5_touch (l : Launch) (G : xG) {M : HM} {a va oa wa ya : Nat} {wk : Option Nat} {th : Int} {rfd : Int32} {br re la ha : Int} {kp kv : Int32} {qv qw : Nat → Nat} {fa fb : Nat → Option Nat} {V : BW} {O : OW} {fy : Nat → Option Nat} {Wv : VW} {wt : Option VT} {S : Nat → Bool} (hR : MGx G M a va oa wa ya wk th rfd br re la ha kp kv qv qw fa fb V O fy Wv wt S) {p0 : Int} (hp0 : -2147483648 ≤ p0 ∧ p0 ≤ 2147483647) (hob : 0 ≤ p0 ∧ p0 ≤ 2) : xMet l G yX5_touch wsX5_touch 0 0 0 0 [.ref a, .int (iN (p0))] M (fun r M1 => ∃ (ha1 : Int), r = none ∧ ha1 = haT wt p0.toNat ha ∧ xI5 G M M1 ∧ MGx G M1 a va oa wa ya wk th rfd br re la ha1 kp kv qv qw fa fb V O fy Wv wt S) := by
  refine x_intro (cc := cX5_touch) (maxL := 2) (ret := none) (by exact pln_RX5) rfl (Nat.le_of_ble_eq_true rfl) ?_
  intro p e R s m args below meth c ls hRf hRc hRs hRl hC hw hl
  have hsc0 := hR.sc.1
  have hinX5 : ∀ w ∈ wsX50, w ∈ wsX5_touch := fun w h => (List.mem_cons_of_mem _ (List.mem_append_right _ h))
  have hl : lv_has ls 2 [(0, .ref a), (1, .int (iN (p0)))] := hl
  refine lv_aload_n hC.1 hC.2.1 dX5_touch_0 rfl (lv_at hl 0 rfl) ?_
  refine x_get hC hw hR.1.1 rfl hinX5 6 (by decide) (List.mem_cons_of_mem _ (List.mem_append_left _ (List.mem_of_getElem? (i := 0) rfl))) rfl dX5_touch_1 ?_
  rcases wk with _ | w_1
  · have hwt_2 := hR.wk'.nil rfl
    subst hwt_2
    show W p l e R s m args below meth c _ _ _ _ _ (F0 m 4 ls [.null])
    refine lv_ifnullN (tgt := 24) hC.1 hC.2.1 dX5_touch_4 (by decide) ?_
    exact x_vret hC hw dX5_touch_24 (by first | decide | omega) (by first | decide | omega) ⟨_, rfl, by have e9 := inB_none (p0).toNat; unfold haT; omega, xI5.rf, hR⟩
  · obtain ⟨ti_3, fi_3, hui_3, hIi_3⟩ := hR.wk'.yes rfl
    obtain ⟨htat_4, htbt_4, htct_4, htdt_4, htet_4⟩ := id hIi_3.2.1
    subst hui_3
    show W p l e R s m args below meth c _ _ _ _ _ (F0 m 4 ls [.ref w_1])
    refine lv_ifnull hC.1 hC.2.1 dX5_touch_4 ?_
    refine lv_aload_n hC.1 hC.2.1 dX5_touch_7 rfl (lv_at hl 0 rfl) ?_
    refine x_get hC hw hR.1.1 rfl hinX5 6 (by decide) (List.mem_cons_of_mem _ (List.mem_append_left _ (List.mem_of_getElem? (i := 0) rfl))) rfl dX5_touch_8 ?_
    show W p l e R s m args below meth c _ _ _ _ _ (F0 m 11 ls [.ref w_1])
    refine x_const hC dX5_touch_11 ?_
    refine x_ialdE (x := ((ti_3.b : Nat) : Int)) hC hw hIi_3.1 (by omega) (by omega) (by omega) dX5_touch_12 hIi_3.2.2.1 ?_
    refine lv_iload_n hC.1 hC.2.1 dX5_touch_13 rfl (lv_at hl 1 rfl) ?_
    refine x_icmp_ne (tgt := 24) hC ⟨by omega, by omega⟩ ⟨by omega, by omega⟩ dX5_touch_14 (by decide) (fun c_5 => ?_) (fun c_5 => ?_)
    · exact x_vret hC hw dX5_touch_24 (by first | decide | omega) (by first | decide | omega) ⟨_, rfl, by have e9 := inB_val ti_3 (p0).toNat; unfold haT; omega, xI5.rf, hR⟩
    · refine lv_aload_n hC.1 hC.2.1 dX5_touch_17 rfl (lv_at hl 0 rfl) ?_
      refine x_sipush hC dX5_touch_18 (by decide +kernel) ?_
      refine x_put (fs2 := [.int (iN (th)), .int rfd, .ref va, .ref oa, .ref wa, .ref ya, .ref w_1, .int (iN (br)), .int (iN (re)), .int (iN (la)), .int (iN ((-10000))), .int kp, .int kv]) hC hw hR.1.1 rfl hinX5 tyX5 tyX5_ok nmX5 10 (by decide) (List.mem_cons_of_mem _ (List.mem_append_left _ (List.mem_of_getElem? (i := 1) rfl))) rfl rfl rfl (Nat.le_of_ble_eq_true rfl) rfl dX5_touch_21 (fun H locs hw => ?_)
      obtain ⟨M_6, hM_7⟩ : ∃ z, z = va_up M a (some (.inr (7, [.int (iN (th)), .int rfd, .ref va, .ref oa, .ref wa, .ref ya, .ref w_1, .int (iN (br)), .int (iN (re)), .int (iN (la)), .int (iN ((-10000))), .int kp, .int kv]))) := ⟨_, rfl⟩
      rw [← hM_7] at hw
      have hR_8 : MGx G M_6 a va oa wa ya (some w_1) th rfd br re la (-10000) kp kv qv qw fa fb V O fy Wv (some ti_3) S := hR.obj hM_7 ⟨hR.sc.1, hR.sc.2.1, hR.sc.2.2.1, hR.sc.2.2.2.1, (by omega)⟩ hR.wk'
      have h_9 := hIi_3.x5 (hR.obj5 hM_7)
      exact x_vret hC hw dX5_touch_24 (by first | decide | omega) (by first | decide | omega) ⟨_, rfl, by have e9 := inB_val ti_3 (p0).toNat; unfold haT; omega, ((hR.obj5 hM_7)), hR_8⟩
set_option maxHeartbeats 4000000 in
set_option maxRecDepth 100000 in
theorem c_X5_set (l : Launch) (G : xG) {M : HM} {a va oa wa ya : Nat} {wk : Option Nat} {th : Int} {rfd : Int32} {br re la ha : Int} {kp kv : Int32} {qv qw : Nat → Nat} {fa fb : Nat → Option Nat} {V : BW} {O : OW} {fy : Nat → Option Nat} {Wv : VW} {wt : Option VT} {S : Nat → Bool} (hR : MGx G M a va oa wa ya wk th rfd br re la ha kp kv qv qw fa fb V O fy Wv wt S) {p0 : Int} (hp0 : -2147483648 ≤ p0 ∧ p0 ≤ 2147483647) {p1 : Int} (hp1 : -2147483648 ≤ p1 ∧ p1 ≤ 2147483647) {p2 : Int} (hp2 : -2147483648 ≤ p2 ∧ p2 ≤ 2147483647) (hob : 0 ≤ p0 ∧ p0 ≤ 2) (hok : 0 ≤ p1 ∧ p1 ≤ 99) (hov : -10000 ≤ p2 ∧ p2 ≤ 9999) (hsv : p2 ≠ -10000 → S p1.toNat = true) : xMet l G yX5_set wsX5_set 0 0 0 0 [.ref a, .int (iN (p0)), .int (iN (p1)), .int (iN (p2))] M (fun r M1 => ∃ (z : Int) (br1 : Int) (V1 : BW), r = some (.int (iN z)) ∧ (-10000 ≤ z ∧ z ≤ 9999) ∧ z = V p0.toNat p1.toNat ∧ (z ≠ -10000 → S p1.toNat = true) ∧ br1 = brT wt p0.toNat (V p0.toNat p1.toNat) p2 br ∧ V1 = upB V p0.toNat (upV (V p0.toNat) p1.toNat p2) ∧ xI5 G M M1 ∧ MGx G M1 a va oa wa ya wk th rfd br1 re la ha kp kv qv qw fa fb V1 O fy Wv wt S) := by
  refine x_intro (cc := cX5_set) (maxL := 5) (ret := (some .int)) (by exact pln_RX5) rfl (Nat.le_of_ble_eq_true rfl) ?_
  intro p e R s m args below meth c ls hRf hRc hRs hRl hC hw hl
  have hsc0 := hR.sc.1
  have hinX5 : ∀ w ∈ wsX50, w ∈ wsX5_set := fun w h => (List.mem_cons_of_mem _ (List.mem_append_right _ h))
  have hl : lv_has ls 5 [(0, .ref a), (1, .int (iN (p0))), (2, .int (iN (p1))), (3, .int (iN (p2)))] := hl
  refine lv_aload_n hC.1 hC.2.1 dX5_set_0 rfl (lv_at hl 0 rfl) ?_
  refine x_get hC hw hR.1.1 rfl hinX5 2 (by decide) (List.mem_cons_of_mem _ (List.mem_append_left _ (List.mem_of_getElem? (i := 0) rfl))) rfl dX5_set_1 ?_
  refine lv_iload_n hC.1 hC.2.1 dX5_set_4 rfl (lv_at hl 1 rfl) ?_
  refine x_ald4 hC hw hR.1.2.1 (by omega) (by omega) (by omega) dX5_set_5 ?_
  rw [hR.fa' (show (p0).toNat < 3 from tn_lt (by omega) (by decide))]
  show W p l e R s m args below meth c _ _ _ _ _ (F0 m 6 ls [.ref (qv ((p0).toNat))])
  refine lv_iload_n hC.1 hC.2.1 dX5_set_6 rfl (lv_at hl 2 rfl) ?_
  refine x_ialdE (x := (V ((p0).toNat) ((p1).toNat))) hC hw (hR.rv (show ((p0).toNat) < 3 from tn_lt (by omega) (by decide))) (by omega) (by omega) (by omega) dX5_set_7 rfl ?_
  have hrv_1 := hR.vr (show ((p0).toNat) < 3 from tn_lt (by omega) (by decide)) (show (p1).toNat < 100 from tn_lt (by omega) (by decide))
  have hpv_1 := hR.vs (show ((p0).toNat) < 3 from tn_lt (by omega) (by decide)) (show (p1).toNat < 100 from tn_lt (by omega) (by decide))
  refine lv_istore (lv' := [(4, .int (iN ((V ((p0).toNat) ((p1).toNat))))), (0, .ref a), (1, .int (iN (p0))), (2, .int (iN (p1))), (3, .int (iN (p2)))]) hC.1 hC.2.1 dX5_set_8 hl (by decide) rfl (fun ls hl => ?_)
  refine lv_aload_n hC.1 hC.2.1 dX5_set_10 rfl (lv_at hl 1 rfl) ?_
  refine x_get hC hw hR.1.1 rfl hinX5 2 (by decide) (List.mem_cons_of_mem _ (List.mem_append_left _ (List.mem_of_getElem? (i := 0) rfl))) rfl dX5_set_11 ?_
  refine lv_iload_n hC.1 hC.2.1 dX5_set_14 rfl (lv_at hl 2 rfl) ?_
  refine x_ald4 hC hw hR.1.2.1 (by omega) (by omega) (by omega) dX5_set_15 ?_
  rw [hR.fa' (show (p0).toNat < 3 from tn_lt (by omega) (by decide))]
  show W p l e R s m args below meth c _ _ _ _ _ (F0 m 16 ls [.ref (qv ((p0).toNat))])
  refine lv_iload_n hC.1 hC.2.1 dX5_set_16 rfl (lv_at hl 3 rfl) ?_
  refine lv_iload_n hC.1 hC.2.1 dX5_set_17 rfl (lv_at hl 4 rfl) ?_
  refine x_iast hC hw (hR.rv (show ((p0).toNat) < 3 from tn_lt (by omega) (by decide))) (by omega) (by omega) (by omega) dX5_set_18 (fun H locs hw => ?_)
  obtain ⟨M_2, hM_3⟩ : ∃ z, z = va_up M (qv ((p0).toNat)) (some (.inl (G.2 1, 100, .inl (upd (fun k9 => iN (V ((p0).toNat) k9)) (p1).toNat (iN (p2)))))) := ⟨_, rfl⟩
  rw [← hM_3] at hw
  have hR_4 := hR.val (j := ((p0).toNat)) (v := p2) (by omega) hM_3 (by omega) (by intro q9; first | exact absurd rfl q9 | assumption | exact hpv_1 q9 | exact hpv_1 (by omega) | exact hsv q9)
  obtain ⟨V_5, hV_5⟩ : ∃ z, z = (upB V ((p0).toNat) (upV (V ((p0).toNat)) ((p1).toNat) p2)) := ⟨_, rfl⟩
  rw [← hV_5] at hR_4
  refine lv_aload_n hC.1 hC.2.1 dX5_set_19 rfl (lv_at hl 1 rfl) ?_
  refine x_get hC hw hR_4.1.1 rfl hinX5 6 (by decide) (List.mem_cons_of_mem _ (List.mem_append_left _ (List.mem_of_getElem? (i := 1) rfl))) rfl dX5_set_20 ?_
  rcases wk with _ | w_6
  · have hwt_7 := hR_4.wk'.nil rfl
    subst hwt_7
    show W p l e R s m args below meth c _ _ _ _ _ (F0 m 23 ls [.null])
    refine lv_ifnullN (tgt := 69) hC.1 hC.2.1 dX5_set_23 (by decide) ?_
    refine lv_iload hC.1 hC.2.1 dX5_set_69 (lv_at hl 0 rfl) ?_
    exact x_iret hC hw dX5_set_71 (by first | decide | omega) (by first | decide | omega) ⟨(V ((p0).toNat) ((p1).toNat)), _, _, rfl, by omega, rfl, hpv_1, by have e9 := inB_none (p0).toNat; unfold brT; omega, hV_5, ((hR.val5 (show ((p0).toNat) < 3 from tn_lt (by omega) (by decide)) hM_3)), hR_4⟩
  · obtain ⟨ti_8, fi_8, hui_8, hIi_8⟩ := hR_4.wk'.yes rfl
    obtain ⟨htat_9, htbt_9, htct_9, htdt_9, htet_9⟩ := id hIi_8.2.1
    subst hui_8
    show W p l e R s m args below meth c _ _ _ _ _ (F0 m 23 ls [.ref w_6])
    refine lv_ifnull hC.1 hC.2.1 dX5_set_23 ?_
    refine lv_aload_n hC.1 hC.2.1 dX5_set_26 rfl (lv_at hl 1 rfl) ?_
    refine x_get hC hw hR_4.1.1 rfl hinX5 6 (by decide) (List.mem_cons_of_mem _ (List.mem_append_left _ (List.mem_of_getElem? (i := 1) rfl))) rfl dX5_set_27 ?_
    show W p l e R s m args below meth c _ _ _ _ _ (F0 m 30 ls [.ref w_6])
    refine x_const hC dX5_set_30 ?_
    refine x_ialdE (x := ((ti_8.b : Nat) : Int)) hC hw hIi_8.1 (by omega) (by omega) (by omega) dX5_set_31 hIi_8.2.2.1 ?_
    refine lv_iload_n hC.1 hC.2.1 dX5_set_32 rfl (lv_at hl 2 rfl) ?_
    refine x_icmp_ne (tgt := 69) hC ⟨by omega, by omega⟩ ⟨by omega, by omega⟩ dX5_set_33 (by decide) (fun c_10 => ?_) (fun c_10 => ?_)
    · refine lv_iload hC.1 hC.2.1 dX5_set_69 (lv_at hl 0 rfl) ?_
      exact x_iret hC hw dX5_set_71 (by first | decide | omega) (by first | decide | omega) ⟨(V ((p0).toNat) ((p1).toNat)), _, _, rfl, by omega, rfl, hpv_1, by have e9 := inB_val ti_8 (p0).toNat; unfold brT; omega, hV_5, ((hR.val5 (show ((p0).toNat) < 3 from tn_lt (by omega) (by decide)) hM_3)), hR_4⟩
    · refine lv_iload hC.1 hC.2.1 dX5_set_36 (lv_at hl 0 rfl) ?_
      refine x_sipush hC dX5_set_38 (by decide +kernel) ?_
      refine x_icmp_ne (tgt := 48) hC ⟨by omega, by omega⟩ ⟨by omega, by omega⟩ dX5_set_41 (by decide) (fun c_11 => ?_) (fun c_11 => ?_)
      · refine x_const hC dX5_set_48 ?_
        refine lv_iload_n hC.1 hC.2.1 dX5_set_49 rfl (lv_at hl 4 rfl) ?_
        refine x_sipush hC dX5_set_50 (by decide +kernel) ?_
        refine x_icmp_ne (tgt := 60) hC ⟨by omega, by omega⟩ ⟨by omega, by omega⟩ dX5_set_53 (by decide) (fun c_12 => ?_) (fun c_12 => ?_)
        · refine x_const hC dX5_set_60 ?_
          refine x_icmp_eq (tgt := 69) hC ⟨by omega, by omega⟩ ⟨by omega, by omega⟩ dX5_set_61 (by decide) (fun c_13 => ?_) (fun c_13 => ?_)
          · refine lv_iload hC.1 hC.2.1 dX5_set_69 (lv_at hl 0 rfl) ?_
            exact x_iret hC hw dX5_set_71 (by first | decide | omega) (by first | decide | omega) ⟨(V ((p0).toNat) ((p1).toNat)), _, _, rfl, by omega, rfl, hpv_1, by have e9 := inB_val ti_8 (p0).toNat; unfold brT; omega, hV_5, ((hR.val5 (show ((p0).toNat) < 3 from tn_lt (by omega) (by decide)) hM_3)), hR_4⟩
          · refine lv_aload_n hC.1 hC.2.1 dX5_set_64 rfl (lv_at hl 1 rfl) ?_
            refine x_const hC dX5_set_65 ?_
            refine x_put (fs2 := [.int (iN (th)), .int rfd, .ref va, .ref oa, .ref wa, .ref ya, .ref w_6, .int (iN (1)), .int (iN (re)), .int (iN (la)), .int (iN (ha)), .int kp, .int kv]) hC hw hR_4.1.1 rfl hinX5 tyX5 tyX5_ok nmX5 7 (by decide) (List.mem_cons_of_mem _ (List.mem_append_left _ (List.mem_of_getElem? (i := 2) rfl))) rfl rfl rfl (Nat.le_of_ble_eq_true rfl) rfl dX5_set_66 (fun H locs hw => ?_)
            obtain ⟨M_14, hM_15⟩ : ∃ z, z = va_up M_2 a (some (.inr (7, [.int (iN (th)), .int rfd, .ref va, .ref oa, .ref wa, .ref ya, .ref w_6, .int (iN (1)), .int (iN (re)), .int (iN (la)), .int (iN (ha)), .int kp, .int kv]))) := ⟨_, rfl⟩
            rw [← hM_15] at hw
            have hR_16 : MGx G M_14 a va oa wa ya (some w_6) th rfd 1 re la ha kp kv qv qw fa fb V_5 O fy Wv (some ti_8) S := hR_4.obj hM_15 ⟨hR_4.sc.1, (by omega), hR_4.sc.2.2.1, hR_4.sc.2.2.2.1, hR_4.sc.2.2.2.2⟩ hR_4.wk'
            have h_17 := hIi_8.x5 (hR_4.obj5 hM_15)
            refine lv_iload hC.1 hC.2.1 dX5_set_69 (lv_at hl 0 rfl) ?_
            exact x_iret hC hw dX5_set_71 (by first | decide | omega) (by first | decide | omega) ⟨(V ((p0).toNat) ((p1).toNat)), _, _, rfl, by omega, rfl, hpv_1, by have e9 := inB_val ti_8 (p0).toNat; unfold brT; omega, hV_5, (xI5.tr ((hR.val5 (show ((p0).toNat) < 3 from tn_lt (by omega) (by decide)) hM_3)) ((hR_4.obj5 hM_15))), hR_16⟩
        · refine x_const hC dX5_set_56 ?_
          refine lv_goto (tgt := 61) hC.1 hC.2.1 dX5_set_57 (by decide) ?_
          refine x_icmp_eq (tgt := 69) hC ⟨by omega, by omega⟩ ⟨by omega, by omega⟩ dX5_set_61 (by decide) (fun c_18 => ?_) (fun c_18 => ?_)
          · refine lv_iload hC.1 hC.2.1 dX5_set_69 (lv_at hl 0 rfl) ?_
            exact x_iret hC hw dX5_set_71 (by first | decide | omega) (by first | decide | omega) ⟨(V ((p0).toNat) ((p1).toNat)), _, _, rfl, by omega, rfl, hpv_1, by have e9 := inB_val ti_8 (p0).toNat; unfold brT; omega, hV_5, ((hR.val5 (show ((p0).toNat) < 3 from tn_lt (by omega) (by decide)) hM_3)), hR_4⟩
          · refine lv_aload_n hC.1 hC.2.1 dX5_set_64 rfl (lv_at hl 1 rfl) ?_
            refine x_const hC dX5_set_65 ?_
            refine x_put (fs2 := [.int (iN (th)), .int rfd, .ref va, .ref oa, .ref wa, .ref ya, .ref w_6, .int (iN (1)), .int (iN (re)), .int (iN (la)), .int (iN (ha)), .int kp, .int kv]) hC hw hR_4.1.1 rfl hinX5 tyX5 tyX5_ok nmX5 7 (by decide) (List.mem_cons_of_mem _ (List.mem_append_left _ (List.mem_of_getElem? (i := 2) rfl))) rfl rfl rfl (Nat.le_of_ble_eq_true rfl) rfl dX5_set_66 (fun H locs hw => ?_)
            obtain ⟨M_19, hM_20⟩ : ∃ z, z = va_up M_2 a (some (.inr (7, [.int (iN (th)), .int rfd, .ref va, .ref oa, .ref wa, .ref ya, .ref w_6, .int (iN (1)), .int (iN (re)), .int (iN (la)), .int (iN (ha)), .int kp, .int kv]))) := ⟨_, rfl⟩
            rw [← hM_20] at hw
            have hR_21 : MGx G M_19 a va oa wa ya (some w_6) th rfd 1 re la ha kp kv qv qw fa fb V_5 O fy Wv (some ti_8) S := hR_4.obj hM_20 ⟨hR_4.sc.1, (by omega), hR_4.sc.2.2.1, hR_4.sc.2.2.2.1, hR_4.sc.2.2.2.2⟩ hR_4.wk'
            have h_22 := hIi_8.x5 (hR_4.obj5 hM_20)
            refine lv_iload hC.1 hC.2.1 dX5_set_69 (lv_at hl 0 rfl) ?_
            exact x_iret hC hw dX5_set_71 (by first | decide | omega) (by first | decide | omega) ⟨(V ((p0).toNat) ((p1).toNat)), _, _, rfl, by omega, rfl, hpv_1, by have e9 := inB_val ti_8 (p0).toNat; unfold brT; omega, hV_5, (xI5.tr ((hR.val5 (show ((p0).toNat) < 3 from tn_lt (by omega) (by decide)) hM_3)) ((hR_4.obj5 hM_20))), hR_21⟩
      · refine x_const hC dX5_set_44 ?_
        refine lv_goto (tgt := 49) hC.1 hC.2.1 dX5_set_45 (by decide) ?_
        refine lv_iload_n hC.1 hC.2.1 dX5_set_49 rfl (lv_at hl 4 rfl) ?_
        refine x_sipush hC dX5_set_50 (by decide +kernel) ?_
        refine x_icmp_ne (tgt := 60) hC ⟨by omega, by omega⟩ ⟨by omega, by omega⟩ dX5_set_53 (by decide) (fun c_23 => ?_) (fun c_23 => ?_)
        · refine x_const hC dX5_set_60 ?_
          refine x_icmp_eq (tgt := 69) hC ⟨by omega, by omega⟩ ⟨by omega, by omega⟩ dX5_set_61 (by decide) (fun c_24 => ?_) (fun c_24 => ?_)
          · refine lv_iload hC.1 hC.2.1 dX5_set_69 (lv_at hl 0 rfl) ?_
            exact x_iret hC hw dX5_set_71 (by first | decide | omega) (by first | decide | omega) ⟨(V ((p0).toNat) ((p1).toNat)), _, _, rfl, by omega, rfl, hpv_1, by have e9 := inB_val ti_8 (p0).toNat; unfold brT; omega, hV_5, ((hR.val5 (show ((p0).toNat) < 3 from tn_lt (by omega) (by decide)) hM_3)), hR_4⟩
          · refine lv_aload_n hC.1 hC.2.1 dX5_set_64 rfl (lv_at hl 1 rfl) ?_
            refine x_const hC dX5_set_65 ?_
            refine x_put (fs2 := [.int (iN (th)), .int rfd, .ref va, .ref oa, .ref wa, .ref ya, .ref w_6, .int (iN (1)), .int (iN (re)), .int (iN (la)), .int (iN (ha)), .int kp, .int kv]) hC hw hR_4.1.1 rfl hinX5 tyX5 tyX5_ok nmX5 7 (by decide) (List.mem_cons_of_mem _ (List.mem_append_left _ (List.mem_of_getElem? (i := 2) rfl))) rfl rfl rfl (Nat.le_of_ble_eq_true rfl) rfl dX5_set_66 (fun H locs hw => ?_)
            obtain ⟨M_25, hM_26⟩ : ∃ z, z = va_up M_2 a (some (.inr (7, [.int (iN (th)), .int rfd, .ref va, .ref oa, .ref wa, .ref ya, .ref w_6, .int (iN (1)), .int (iN (re)), .int (iN (la)), .int (iN (ha)), .int kp, .int kv]))) := ⟨_, rfl⟩
            rw [← hM_26] at hw
            have hR_27 : MGx G M_25 a va oa wa ya (some w_6) th rfd 1 re la ha kp kv qv qw fa fb V_5 O fy Wv (some ti_8) S := hR_4.obj hM_26 ⟨hR_4.sc.1, (by omega), hR_4.sc.2.2.1, hR_4.sc.2.2.2.1, hR_4.sc.2.2.2.2⟩ hR_4.wk'
            have h_28 := hIi_8.x5 (hR_4.obj5 hM_26)
            refine lv_iload hC.1 hC.2.1 dX5_set_69 (lv_at hl 0 rfl) ?_
            exact x_iret hC hw dX5_set_71 (by first | decide | omega) (by first | decide | omega) ⟨(V ((p0).toNat) ((p1).toNat)), _, _, rfl, by omega, rfl, hpv_1, by have e9 := inB_val ti_8 (p0).toNat; unfold brT; omega, hV_5, (xI5.tr ((hR.val5 (show ((p0).toNat) < 3 from tn_lt (by omega) (by decide)) hM_3)) ((hR_4.obj5 hM_26))), hR_27⟩
        · refine x_const hC dX5_set_56 ?_
          refine lv_goto (tgt := 61) hC.1 hC.2.1 dX5_set_57 (by decide) ?_
          refine x_icmp_eq (tgt := 69) hC ⟨by omega, by omega⟩ ⟨by omega, by omega⟩ dX5_set_61 (by decide) (fun c_29 => ?_) (fun c_29 => ?_)
          · refine lv_iload hC.1 hC.2.1 dX5_set_69 (lv_at hl 0 rfl) ?_
            exact x_iret hC hw dX5_set_71 (by first | decide | omega) (by first | decide | omega) ⟨(V ((p0).toNat) ((p1).toNat)), _, _, rfl, by omega, rfl, hpv_1, by have e9 := inB_val ti_8 (p0).toNat; unfold brT; omega, hV_5, ((hR.val5 (show ((p0).toNat) < 3 from tn_lt (by omega) (by decide)) hM_3)), hR_4⟩
          · refine lv_aload_n hC.1 hC.2.1 dX5_set_64 rfl (lv_at hl 1 rfl) ?_
            refine x_const hC dX5_set_65 ?_
            refine x_put (fs2 := [.int (iN (th)), .int rfd, .ref va, .ref oa, .ref wa, .ref ya, .ref w_6, .int (iN (1)), .int (iN (re)), .int (iN (la)), .int (iN (ha)), .int kp, .int kv]) hC hw hR_4.1.1 rfl hinX5 tyX5 tyX5_ok nmX5 7 (by decide) (List.mem_cons_of_mem _ (List.mem_append_left _ (List.mem_of_getElem? (i := 2) rfl))) rfl rfl rfl (Nat.le_of_ble_eq_true rfl) rfl dX5_set_66 (fun H locs hw => ?_)
            obtain ⟨M_30, hM_31⟩ : ∃ z, z = va_up M_2 a (some (.inr (7, [.int (iN (th)), .int rfd, .ref va, .ref oa, .ref wa, .ref ya, .ref w_6, .int (iN (1)), .int (iN (re)), .int (iN (la)), .int (iN (ha)), .int kp, .int kv]))) := ⟨_, rfl⟩
            rw [← hM_31] at hw
            have hR_32 : MGx G M_30 a va oa wa ya (some w_6) th rfd 1 re la ha kp kv qv qw fa fb V_5 O fy Wv (some ti_8) S := hR_4.obj hM_31 ⟨hR_4.sc.1, (by omega), hR_4.sc.2.2.1, hR_4.sc.2.2.2.1, hR_4.sc.2.2.2.2⟩ hR_4.wk'
            have h_33 := hIi_8.x5 (hR_4.obj5 hM_31)
            refine lv_iload hC.1 hC.2.1 dX5_set_69 (lv_at hl 0 rfl) ?_
            exact x_iret hC hw dX5_set_71 (by first | decide | omega) (by first | decide | omega) ⟨(V ((p0).toNat) ((p1).toNat)), _, _, rfl, by omega, rfl, hpv_1, by have e9 := inB_val ti_8 (p0).toNat; unfold brT; omega, hV_5, (xI5.tr ((hR.val5 (show ((p0).toNat) < 3 from tn_lt (by omega) (by decide)) hM_3)) ((hR_4.obj5 hM_31))), hR_32⟩
set_option maxHeartbeats 4000000 in
set_option maxRecDepth 100000 in
theorem c_X5_strikeAll (l : Launch) (G : xG) {M : HM} {a va oa wa ya : Nat} {wk : Option Nat} {th : Int} {rfd : Int32} {br re la ha : Int} {kp kv : Int32} {qv qw : Nat → Nat} {fa fb : Nat → Option Nat} {V : BW} {O : OW} {fy : Nat → Option Nat} {Wv : VW} {wt : Option VT} {S : Nat → Bool} (hR : MGx G M a va oa wa ya wk th rfd br re la ha kp kv qv qw fa fb V O fy Wv wt S) {i : Nat} {fi : Nat → Int32} {ti : VT} (hIi : Its G M i fi ti) : xMet l G yX5_strikeAll wsX5_strikeAll 3 67 0 0 [.ref a, .ref i] M (fun r M1 => ∃ (z : Int) (br1 : Int) (V1 : BW), r = some (.int (iN z)) ∧ (0 ≤ z ∧ z ≤ 100) ∧ z = mnF O V ti 100 ∧ br1 = brL wt ti.b (V ti.b) (F_sa O V ti) 100 br ∧ V1 = upB V ti.b (mapN (V ti.b) (F_sa O V ti) 100) ∧ xI5 G M M1 ∧ MGx G M1 a va oa wa ya wk th rfd br1 re la ha kp kv qv qw fa fb V1 O fy Wv wt S) := by
  refine x_intro (cc := cX5_strikeAll) (maxL := 4) (ret := (some .int)) (by exact pln_RX5) rfl (Nat.le_of_ble_eq_true rfl) ?_
  intro p e R s m args below meth c ls hRf hRc hRs hRl hC hw hl
  have hsc0 := hR.sc.1
  obtain ⟨htat_1, htbt_1, htct_1, htdt_1, htet_1⟩ := id hIi.2.1
  have holi := hR.or' hIi.2.1.1
  have hl : lv_has ls 4 [(0, .ref a), (1, .ref i)] := hl
  refine x_const hC dX5_strikeAll_0 ?_
  refine lv_istore_n (lv' := [(2, .int (iN (0))), (0, .ref a), (1, .ref i)]) hC.1 hC.2.1 dX5_strikeAll_1 rfl hl (by decide) rfl (fun ls hl => ?_)
  refine x_const hC dX5_strikeAll_2 ?_
  refine lv_istore_n (lv' := [(3, .int (iN (0))), (2, .int (iN (0))), (0, .ref a), (1, .ref i)]) hC.1 hC.2.1 dX5_strikeAll_3 rfl hl (by decide) rfl (fun ls hl => ?_)
  suffices hloop4 : ∀ (n9 : Nat) (n : Int) (j : Int) (M1 : HM) (br1 : Int) (V1 : BW) (hR1 : MGx G M1 a va oa wa ya wk th rfd br1 re la ha kp kv qv qw fa fb V1 O fy Wv wt S) (hx1 : xI5 G M M1) (hV1 : V1 = upB V ti.b (mapN (V ti.b) (F_sa O V ti) (j).toNat)) (hbr1 : br1 = brL wt ti.b (V ti.b) (F_sa O V ti) (j).toNat br) (H : Heap) (locs : List Loc) (ls : Array Slot), (hmz4 : (100 - j).toNat < n9) → (hi0 : 0 ≤ j ∧ j ≤ 100) → (hi1 : 0 ≤ n ∧ n ≤ j) → (hcn : n = mnF O V ti j.toNat) → xD G (xA M s.heap.size) s M1 H locs → lv_has ls 4 [(0, .ref a), (1, .ref i), (2, .int (iN (n))), (3, .int (iN (j)))] → W p l e R s m args below meth c H locs _ _ _ (F0 m 4 ls []) by
    exact hloop4 _ 0 0 _ _ _ hR xI5.rf ml_0 bl_0 _ _ _ (Nat.lt_succ_self _) (by omega) (by omega) (rfl) hw (lv_sub hl [2, 3, 1, 0] rfl)
  intro n9
  induction n9 with
  | zero => intro n j M1 br1 V1 hR1 hx1 hV1 hbr1 H locs ls hmz; exact absurd hmz (Nat.not_lt_zero _)
  | succ n9 ih4 =>
    intro n j M1 br1 V1 hR1 hx1 hV1 hbr1 H locs ls hmz4 hi0 hi1 hcn hw hl
    have hvj : V1 ti.b (j).toNat = V ti.b (j).toNat := ml_at hV1
    have h_2 := hIi.x5 hx1
    have hsc1 := hR1.sc.1
    refine lv_iload_n hC.1 hC.2.1 dX5_strikeAll_4 rfl (lv_at hl 3 rfl) ?_
    refine x_bipush hC dX5_strikeAll_5 (by decide +kernel) ?_
    refine x_icmp_ge (tgt := 43) hC ⟨by omega, by omega⟩ ⟨by omega, by omega⟩ dX5_strikeAll_7 (by decide) (fun c_3 => ?_) (fun c_3 => ?_)
    · refine lv_iload_n hC.1 hC.2.1 dX5_strikeAll_43 rfl (lv_at hl 2 rfl) ?_
      exact x_iret hC hw dX5_strikeAll_44 (by first | decide | omega) (by first | decide | omega) ⟨n, _, _, rfl, by omega, by rw [show (100 : Nat) = (j).toNat from (tn_eq (by omega)).symm]; exact hcn, (by rw [show (100 : Nat) = (j).toNat from (tn_eq (by omega)).symm]; exact hbr1), (by rw [show (100 : Nat) = (j).toNat from (tn_eq (by omega)).symm]; exact hV1), hx1, hR1⟩
    · refine lv_aload_n hC.1 hC.2.1 dX5_strikeAll_10 rfl (lv_at hl 0 rfl) ?_
      refine lv_aload_n hC.1 hC.2.1 dX5_strikeAll_11 rfl (lv_at hl 1 rfl) ?_
      refine lv_iload_n hC.1 hC.2.1 dX5_strikeAll_12 rfl (lv_at hl 3 rfl) ?_
      refine x_callV hC hw (lv_size hl) (c_X5_shows l G hR1 h_2 (p0 := j) (by omega) (by omega)) gX5_strikeAll_X5_shows rfl dv_X5_shows hR1.1.1 rfl rfl (Nat.le_of_ble_eq_true rfl) (by rw [hRf]; decide) (by rw [hRl]; decide) (by first | (rw [hRc]; decide) | omega) (by first | (rw [hRs]; decide) | omega) dX5_strikeAll_13 (fun r9 M_4 H locs hq hw => ?_)
      obtain ⟨z_5, rfl, hM9, hz_5a, hz_5s, hz_5S⟩ := hq
      rw [hM9] at hw
      show W p l e R s m args below meth c H locs _ _ _ (F0 m 16 ls [.int (iN (z_5))])
      refine x_if_ne (tgt := 22) hC ⟨by omega, by omega⟩ dX5_strikeAll_16 (by decide) (fun c_6 => ?_) (fun c_6 => ?_)
      · refine lv_aload_n hC.1 hC.2.1 dX5_strikeAll_22 rfl (lv_at hl 0 rfl) ?_
        refine lv_aload_n hC.1 hC.2.1 dX5_strikeAll_23 rfl (lv_at hl 1 rfl) ?_
        refine x_const hC dX5_strikeAll_24 ?_
        refine x_ialdE (x := ((ti.b : Nat) : Int)) hC hw h_2.1 (by omega) (by omega) (by omega) dX5_strikeAll_25 h_2.2.2.1 ?_
        refine lv_iload_n hC.1 hC.2.1 dX5_strikeAll_26 rfl (lv_at hl 3 rfl) ?_
        refine x_sipush hC dX5_strikeAll_27 (by decide +kernel) ?_
        refine x_callV hC hw (lv_size hl) (c_X5_set l G hR1 (p0 := ((ti.b : Nat) : Int)) (by omega) (p1 := j) (by omega) (p2 := (-10000)) (by omega) (by omega) (by omega) (by omega) (fun q9 => absurd rfl q9)) gX5_strikeAll_X5_set rfl dv_X5_set hR1.1.1 rfl rfl (Nat.le_of_ble_eq_true rfl) (by rw [hRf]; decide) (by rw [hRl]; decide) (by first | (rw [hRc]; decide) | omega) (by first | (rw [hRs]; decide) | omega) dX5_strikeAll_30 (fun r9 M_7 H locs hq hw => ?_)
        rw [Int.toNat_natCast] at hq
        obtain ⟨z_9, brk_8, Vk_8, rfl, hz_9a, hz_9v, hz_9b, he0k_8, he1k_8, hx5k_8, hRk_8⟩ := hq
        have h_10 := h_2.x5 hx5k_8
        have hsck_8 := hRk_8.sc.1
        show W p l e R s m args below meth c H locs _ _ _ (F0 m 33 ls [.int (iN (z_9))])
        refine lv_pop hC.1 hC.2.1 dX5_strikeAll_33 rfl ?_
        refine x_iinc (lv' := [(2, .int (iN (n + 1))), (0, .ref a), (1, .ref i), (3, .int (iN (j)))]) hC dX5_strikeAll_34 hl (k := 2) rfl (by decide) rfl (fun ls hl => ?_)
        refine x_iinc (lv' := [(3, .int (iN (j + 1))), (2, .int (iN (n + 1))), (0, .ref a), (1, .ref i)]) hC dX5_strikeAll_37 hl (k := 3) rfl (by decide) rfl (fun ls hl => ?_)
        refine lv_goto (tgt := 4) hC.1 hC.2.1 dX5_strikeAll_40 (by decide) ?_
        have hF9 : (-10000) = (F_sa O V ti) (j).toNat := (by have e7 := shI_b (O := O) (V := V) (V2 := V1) (t := ti) (k := (j).toNat) hvj; simp only [F_sa]; rw [if_pos (shI_t (show shI O V ti (j).toNat = 1 by omega))])
        exact ih4 (n + 1) (j + 1) _ _ _ hRk_8 (xI5.tr hx1 (hx5k_8)) (ml_set (by omega) hV1 he1k_8 hF9) (bl_set (by omega) hV1 hbr1 hF9 he0k_8) _ _ _ (by first | exact mu_s hmz4 (by omega) | omega) (by omega) (by omega) (by have e7 := shI_b (O := O) (V := V) (V2 := V1) (t := ti) (k := (j).toNat) hvj; rw [mnF_s (by omega) rfl]; omega) hw (lv_sub hl [2, 3, 1, 0] rfl)
      · refine lv_goto (tgt := 37) hC.1 hC.2.1 dX5_strikeAll_19 (by decide) ?_
        refine x_iinc (lv' := [(3, .int (iN (j + 1))), (0, .ref a), (1, .ref i), (2, .int (iN (n)))]) hC dX5_strikeAll_37 hl (k := 3) rfl (by decide) rfl (fun ls hl => ?_)
        refine lv_goto (tgt := 4) hC.1 hC.2.1 dX5_strikeAll_40 (by decide) ?_
        have hF9 : (F_sa O V ti) (j).toNat = V ti.b (j).toNat := (by have e7 := shI_b (O := O) (V := V) (V2 := V1) (t := ti) (k := (j).toNat) hvj; simp only [F_sa]; rw [if_neg (shI_f (show shI O V ti (j).toNat ≠ 1 by omega))])
        exact ih4 n (j + 1) _ _ _ hR1 hx1 (ml_skip (by omega) hV1 hF9) (bl_skip (by omega) hbr1 hF9) _ _ _ (by first | exact mu_s hmz4 (by omega) | omega) (by omega) (by omega) (by have e7 := shI_b (O := O) (V := V) (V2 := V1) (t := ti) (k := (j).toNat) hvj; rw [mnF_s (by omega) rfl]; omega) hw (lv_sub hl [1, 2, 3, 0] rfl)
set_option maxHeartbeats 4000000 in
set_option maxRecDepth 100000 in
theorem c_X5_mergeOf (l : Launch) (G : xG) {M : HM} {a va oa wa ya : Nat} {wk : Option Nat} {th : Int} {rfd : Int32} {br re la ha : Int} {kp kv : Int32} {qv qw : Nat → Nat} {fa fb : Nat → Option Nat} {V : BW} {O : OW} {fy : Nat → Option Nat} {Wv : VW} {wt : Option VT} {S : Nat → Bool} (hR : MGx G M a va oa wa ya wk th rfd br re la ha kp kv qv qw fa fb V O fy Wv wt S) {p0 : Int} (hp0 : -2147483648 ≤ p0 ∧ p0 ≤ 2147483647) {p1 : Int} (hp1 : -2147483648 ≤ p1 ∧ p1 ≤ 2147483647) {p2 : Int} (hp2 : -2147483648 ≤ p2 ∧ p2 ≤ 2147483647) (hob : 0 ≤ p0 ∧ p0 ≤ 2) (hok : 0 ≤ p1 ∧ p1 ≤ 99) (hov : -9999 ≤ p2 ∧ p2 ≤ 9999) (hsk : S p1.toNat = true) : xMet l G yX5_mergeOf wsX5_mergeOf 1 24 0 0 [.ref a, .int (iN (p0)), .int (iN (p1)), .int (iN (p2))] M (fun r M1 => ∃ (z : Int) (br1 : Int) (V1 : BW), r = some (.int (iN z)) ∧ (-10000 ≤ z ∧ z ≤ 9999) ∧ z = mgN (V p0.toNat p1.toNat) p2 ∧ br1 = brT wt p0.toNat (V p0.toNat p1.toNat) (mgN (V p0.toNat p1.toNat) p2) br ∧ V1 = upB V p0.toNat (upV (V p0.toNat) p1.toNat (mgN (V p0.toNat p1.toNat) p2)) ∧ xI5 G M M1 ∧ MGx G M1 a va oa wa ya wk th rfd br1 re la ha kp kv qv qw fa fb V1 O fy Wv wt S) := by
  refine x_intro (cc := cX5_mergeOf) (maxL := 6) (ret := (some .int)) (by exact pln_RX5) rfl (Nat.le_of_ble_eq_true rfl) ?_
  intro p e R s m args below meth c ls hRf hRc hRs hRl hC hw hl
  have hsc0 := hR.sc.1
  have hinX5 : ∀ w ∈ wsX50, w ∈ wsX5_mergeOf := fun w h => (List.mem_cons_of_mem _ (List.mem_append_right _ h))
  have hl : lv_has ls 6 [(0, .ref a), (1, .int (iN (p0))), (2, .int (iN (p1))), (3, .int (iN (p2)))] := hl
  refine lv_aload_n hC.1 hC.2.1 dX5_mergeOf_0 rfl (lv_at hl 0 rfl) ?_
  refine x_get hC hw hR.1.1 rfl hinX5 2 (by decide) (List.mem_cons_of_mem _ (List.mem_append_left _ (List.mem_of_getElem? (i := 0) rfl))) rfl dX5_mergeOf_1 ?_
  refine lv_iload_n hC.1 hC.2.1 dX5_mergeOf_4 rfl (lv_at hl 1 rfl) ?_
  refine x_ald4 hC hw hR.1.2.1 (by omega) (by omega) (by omega) dX5_mergeOf_5 ?_
  rw [hR.fa' (show (p0).toNat < 3 from tn_lt (by omega) (by decide))]
  show W p l e R s m args below meth c _ _ _ _ _ (F0 m 6 ls [.ref (qv ((p0).toNat))])
  refine lv_iload_n hC.1 hC.2.1 dX5_mergeOf_6 rfl (lv_at hl 2 rfl) ?_
  refine x_ialdE (x := (V ((p0).toNat) ((p1).toNat))) hC hw (hR.rv (show ((p0).toNat) < 3 from tn_lt (by omega) (by decide))) (by omega) (by omega) (by omega) dX5_mergeOf_7 rfl ?_
  have hrv_1 := hR.vr (show ((p0).toNat) < 3 from tn_lt (by omega) (by decide)) (show (p1).toNat < 100 from tn_lt (by omega) (by decide))
  have hpv_1 := hR.vs (show ((p0).toNat) < 3 from tn_lt (by omega) (by decide)) (show (p1).toNat < 100 from tn_lt (by omega) (by decide))
  refine lv_istore (lv' := [(4, .int (iN ((V ((p0).toNat) ((p1).toNat))))), (0, .ref a), (1, .int (iN (p0))), (2, .int (iN (p1))), (3, .int (iN (p2)))]) hC.1 hC.2.1 dX5_mergeOf_8 hl (by decide) rfl (fun ls hl => ?_)
  refine lv_iload hC.1 hC.2.1 dX5_mergeOf_10 (lv_at hl 0 rfl) ?_
  refine x_sipush hC dX5_mergeOf_12 (by decide +kernel) ?_
  refine x_icmp_ne (tgt := 22) hC ⟨by omega, by omega⟩ ⟨by omega, by omega⟩ dX5_mergeOf_15 (by decide) (fun c_2 => ?_) (fun c_2 => ?_)
  · refine lv_iload hC.1 hC.2.1 dX5_mergeOf_22 (lv_at hl 0 rfl) ?_
    refine lv_iload_n hC.1 hC.2.1 dX5_mergeOf_24 rfl (lv_at hl 4 rfl) ?_
    refine x_iadd hC dX5_mergeOf_25 ?_
    refine x_callS hC hw (lv_size hl) (c_X5_held l G (M := M) (p0 := ((V ((p0).toNat) ((p1).toNat)) + p2)) (by omega)) gX5_mergeOf_X5_held rfl dv_X5_held_s rfl (Nat.le_of_ble_eq_true rfl) (by rw [hRf]; decide) (by rw [hRl]; decide) (by first | (rw [hRc]; decide) | omega) (by first | (rw [hRs]; decide) | omega) dX5_mergeOf_26 (fun r9 M_3 H locs hq hw => ?_)
    obtain ⟨z_4, rfl, hM9, hz_4a, hz_4d⟩ := hq
    rw [hM9] at hw
    show W p l e R s m args below meth c H locs _ _ _ (F0 m 29 ls [.int (iN (z_4))])
    refine lv_istore (lv' := [(5, .int (iN (z_4))), (4, .int (iN ((V ((p0).toNat) ((p1).toNat))))), (0, .ref a), (1, .int (iN (p0))), (2, .int (iN (p1))), (3, .int (iN (p2)))]) hC.1 hC.2.1 dX5_mergeOf_29 hl (by decide) rfl (fun ls hl => ?_)
    refine lv_iload hC.1 hC.2.1 dX5_mergeOf_31 (lv_at hl 1 rfl) ?_
    refine x_sipush hC dX5_mergeOf_33 (by decide +kernel) ?_
    refine x_icmp_eq (tgt := 49) hC ⟨by omega, by omega⟩ ⟨by omega, by omega⟩ dX5_mergeOf_36 (by decide) (fun c_5 => ?_) (fun c_5 => ?_)
    · refine lv_aload_n hC.1 hC.2.1 dX5_mergeOf_49 rfl (lv_at hl 2 rfl) ?_
      refine lv_iload_n hC.1 hC.2.1 dX5_mergeOf_50 rfl (lv_at hl 3 rfl) ?_
      refine lv_iload_n hC.1 hC.2.1 dX5_mergeOf_51 rfl (lv_at hl 4 rfl) ?_
      refine lv_iload hC.1 hC.2.1 dX5_mergeOf_52 (lv_at hl 0 rfl) ?_
      refine x_callV hC hw (lv_size hl) (c_X5_set l G hR (p0 := p0) (by first | assumption | omega) (p1 := p1) (by first | assumption | omega) (p2 := z_4) (by omega) (by omega) (by omega) (by omega) (by intro q9; first | exact absurd rfl q9 | assumption | exact hpv_1 q9 | exact hpv_1 (by omega))) gX5_mergeOf_X5_set rfl dv_X5_set hR.1.1 rfl rfl (Nat.le_of_ble_eq_true rfl) (by rw [hRf]; decide) (by rw [hRl]; decide) (by first | (rw [hRc]; decide) | omega) (by first | (rw [hRs]; decide) | omega) dX5_mergeOf_54 (fun r9 M_6 H locs hq hw => ?_)
      obtain ⟨z_8, brk_7, Vk_7, rfl, hz_8a, hz_8v, hz_8b, he0k_7, he1k_7, hx5k_7, hRk_7⟩ := hq
      have hsck_7 := hRk_7.sc.1
      show W p l e R s m args below meth c H locs _ _ _ (F0 m 57 ls [.int (iN (z_8))])
      refine lv_pop hC.1 hC.2.1 dX5_mergeOf_57 rfl ?_
      refine lv_iload hC.1 hC.2.1 dX5_mergeOf_58 (lv_at hl 0 rfl) ?_
      exact x_iret hC hw dX5_mergeOf_60 (by first | decide | omega) (by first | decide | omega) ⟨z_4, _, _, rfl, by omega, ((show mgN (V (p0).toNat (p1).toNat) p2 = z_4 by have e9 := bdN_eq hz_4d; simp only [mgN]; rw [if_neg (by omega), e9]; first | (rw [if_pos (by omega)]; done) | (rw [if_neg (by omega)]; done) | (exfalso; omega))).symm, (by rw [(show mgN (V (p0).toNat (p1).toNat) p2 = z_4 by have e9 := bdN_eq hz_4d; simp only [mgN]; rw [if_neg (by omega), e9]; first | (rw [if_pos (by omega)]; done) | (rw [if_neg (by omega)]; done) | (exfalso; omega))]; exact he0k_7), (by rw [(show mgN (V (p0).toNat (p1).toNat) p2 = z_4 by have e9 := bdN_eq hz_4d; simp only [mgN]; rw [if_neg (by omega), e9]; first | (rw [if_pos (by omega)]; done) | (rw [if_neg (by omega)]; done) | (exfalso; omega))]; exact he1k_7), (hx5k_7), hRk_7⟩
    · refine lv_iload hC.1 hC.2.1 dX5_mergeOf_39 (lv_at hl 0 rfl) ?_
      refine x_if_ne (tgt := 49) hC ⟨by omega, by omega⟩ dX5_mergeOf_41 (by decide) (fun c_9 => ?_) (fun c_9 => ?_)
      · refine lv_aload_n hC.1 hC.2.1 dX5_mergeOf_49 rfl (lv_at hl 2 rfl) ?_
        refine lv_iload_n hC.1 hC.2.1 dX5_mergeOf_50 rfl (lv_at hl 3 rfl) ?_
        refine lv_iload_n hC.1 hC.2.1 dX5_mergeOf_51 rfl (lv_at hl 4 rfl) ?_
        refine lv_iload hC.1 hC.2.1 dX5_mergeOf_52 (lv_at hl 0 rfl) ?_
        refine x_callV hC hw (lv_size hl) (c_X5_set l G hR (p0 := p0) (by first | assumption | omega) (p1 := p1) (by first | assumption | omega) (p2 := z_4) (by omega) (by omega) (by omega) (by omega) (by intro q9; first | exact absurd rfl q9 | assumption | exact hpv_1 q9 | exact hpv_1 (by omega))) gX5_mergeOf_X5_set rfl dv_X5_set hR.1.1 rfl rfl (Nat.le_of_ble_eq_true rfl) (by rw [hRf]; decide) (by rw [hRl]; decide) (by first | (rw [hRc]; decide) | omega) (by first | (rw [hRs]; decide) | omega) dX5_mergeOf_54 (fun r9 M_10 H locs hq hw => ?_)
        obtain ⟨z_12, brk_11, Vk_11, rfl, hz_12a, hz_12v, hz_12b, he0k_11, he1k_11, hx5k_11, hRk_11⟩ := hq
        have hsck_11 := hRk_11.sc.1
        show W p l e R s m args below meth c H locs _ _ _ (F0 m 57 ls [.int (iN (z_12))])
        refine lv_pop hC.1 hC.2.1 dX5_mergeOf_57 rfl ?_
        refine lv_iload hC.1 hC.2.1 dX5_mergeOf_58 (lv_at hl 0 rfl) ?_
        exact x_iret hC hw dX5_mergeOf_60 (by first | decide | omega) (by first | decide | omega) ⟨z_4, _, _, rfl, by omega, ((show mgN (V (p0).toNat (p1).toNat) p2 = z_4 by have e9 := bdN_eq hz_4d; simp only [mgN]; rw [if_neg (by omega), e9]; first | (rw [if_pos (by omega)]; done) | (rw [if_neg (by omega)]; done) | (exfalso; omega))).symm, (by rw [(show mgN (V (p0).toNat (p1).toNat) p2 = z_4 by have e9 := bdN_eq hz_4d; simp only [mgN]; rw [if_neg (by omega), e9]; first | (rw [if_pos (by omega)]; done) | (rw [if_neg (by omega)]; done) | (exfalso; omega))]; exact he0k_11), (by rw [(show mgN (V (p0).toNat (p1).toNat) p2 = z_4 by have e9 := bdN_eq hz_4d; simp only [mgN]; rw [if_neg (by omega), e9]; first | (rw [if_pos (by omega)]; done) | (rw [if_neg (by omega)]; done) | (exfalso; omega))]; exact he1k_11), (hx5k_11), hRk_11⟩
      · refine x_sipush hC dX5_mergeOf_44 (by decide +kernel) ?_
        refine lv_istore (lv' := [(5, .int (iN ((-10000)))), (4, .int (iN ((V ((p0).toNat) ((p1).toNat))))), (0, .ref a), (1, .int (iN (p0))), (2, .int (iN (p1))), (3, .int (iN (p2)))]) hC.1 hC.2.1 dX5_mergeOf_47 hl (by decide) rfl (fun ls hl => ?_)
        refine lv_aload_n hC.1 hC.2.1 dX5_mergeOf_49 rfl (lv_at hl 2 rfl) ?_
        refine lv_iload_n hC.1 hC.2.1 dX5_mergeOf_50 rfl (lv_at hl 3 rfl) ?_
        refine lv_iload_n hC.1 hC.2.1 dX5_mergeOf_51 rfl (lv_at hl 4 rfl) ?_
        refine lv_iload hC.1 hC.2.1 dX5_mergeOf_52 (lv_at hl 0 rfl) ?_
        refine x_callV hC hw (lv_size hl) (c_X5_set l G hR (p0 := p0) (by first | assumption | omega) (p1 := p1) (by first | assumption | omega) (p2 := (-10000)) (by omega) (by omega) (by omega) (by omega) (fun q9 => absurd rfl q9)) gX5_mergeOf_X5_set rfl dv_X5_set hR.1.1 rfl rfl (Nat.le_of_ble_eq_true rfl) (by rw [hRf]; decide) (by rw [hRl]; decide) (by first | (rw [hRc]; decide) | omega) (by first | (rw [hRs]; decide) | omega) dX5_mergeOf_54 (fun r9 M_13 H locs hq hw => ?_)
        obtain ⟨z_15, brk_14, Vk_14, rfl, hz_15a, hz_15v, hz_15b, he0k_14, he1k_14, hx5k_14, hRk_14⟩ := hq
        have hsck_14 := hRk_14.sc.1
        show W p l e R s m args below meth c H locs _ _ _ (F0 m 57 ls [.int (iN (z_15))])
        refine lv_pop hC.1 hC.2.1 dX5_mergeOf_57 rfl ?_
        refine lv_iload hC.1 hC.2.1 dX5_mergeOf_58 (lv_at hl 0 rfl) ?_
        exact x_iret hC hw dX5_mergeOf_60 (by first | decide | omega) (by first | decide | omega) ⟨(-10000), _, _, rfl, by omega, ((show mgN (V (p0).toNat (p1).toNat) p2 = (-10000) by have e9 := bdN_eq hz_4d; simp only [mgN]; rw [if_neg (by omega), e9]; first | (rw [if_pos (by omega)]; done) | (rw [if_neg (by omega)]; done) | (exfalso; omega))).symm, (by rw [(show mgN (V (p0).toNat (p1).toNat) p2 = (-10000) by have e9 := bdN_eq hz_4d; simp only [mgN]; rw [if_neg (by omega), e9]; first | (rw [if_pos (by omega)]; done) | (rw [if_neg (by omega)]; done) | (exfalso; omega))]; exact he0k_14), (by rw [(show mgN (V (p0).toNat (p1).toNat) p2 = (-10000) by have e9 := bdN_eq hz_4d; simp only [mgN]; rw [if_neg (by omega), e9]; first | (rw [if_pos (by omega)]; done) | (rw [if_neg (by omega)]; done) | (exfalso; omega))]; exact he1k_14), (hx5k_14), hRk_14⟩
  · refine lv_iload_n hC.1 hC.2.1 dX5_mergeOf_18 rfl (lv_at hl 4 rfl) ?_
    refine lv_goto (tgt := 29) hC.1 hC.2.1 dX5_mergeOf_19 (by decide) ?_
    refine lv_istore (lv' := [(5, .int (iN (p2))), (4, .int (iN ((V ((p0).toNat) ((p1).toNat))))), (0, .ref a), (1, .int (iN (p0))), (2, .int (iN (p1))), (3, .int (iN (p2)))]) hC.1 hC.2.1 dX5_mergeOf_29 hl (by decide) rfl (fun ls hl => ?_)
    refine lv_iload hC.1 hC.2.1 dX5_mergeOf_31 (lv_at hl 1 rfl) ?_
    refine x_sipush hC dX5_mergeOf_33 (by decide +kernel) ?_
    refine x_icmp_eq (tgt := 49) hC ⟨by omega, by omega⟩ ⟨by omega, by omega⟩ dX5_mergeOf_36 (by decide) (fun c_16 => ?_) (fun c_16 => ?_)
    · refine lv_aload_n hC.1 hC.2.1 dX5_mergeOf_49 rfl (lv_at hl 2 rfl) ?_
      refine lv_iload_n hC.1 hC.2.1 dX5_mergeOf_50 rfl (lv_at hl 3 rfl) ?_
      refine lv_iload_n hC.1 hC.2.1 dX5_mergeOf_51 rfl (lv_at hl 4 rfl) ?_
      refine lv_iload hC.1 hC.2.1 dX5_mergeOf_52 (lv_at hl 0 rfl) ?_
      refine x_callV hC hw (lv_size hl) (c_X5_set l G hR (p0 := p0) (by first | assumption | omega) (p1 := p1) (by first | assumption | omega) (p2 := p2) (by first | assumption | omega) (by omega) (by omega) (by omega) (by intro q9; first | exact absurd rfl q9 | assumption | exact hpv_1 q9 | exact hpv_1 (by omega))) gX5_mergeOf_X5_set rfl dv_X5_set hR.1.1 rfl rfl (Nat.le_of_ble_eq_true rfl) (by rw [hRf]; decide) (by rw [hRl]; decide) (by first | (rw [hRc]; decide) | omega) (by first | (rw [hRs]; decide) | omega) dX5_mergeOf_54 (fun r9 M_17 H locs hq hw => ?_)
      obtain ⟨z_19, brk_18, Vk_18, rfl, hz_19a, hz_19v, hz_19b, he0k_18, he1k_18, hx5k_18, hRk_18⟩ := hq
      have hsck_18 := hRk_18.sc.1
      show W p l e R s m args below meth c H locs _ _ _ (F0 m 57 ls [.int (iN (z_19))])
      refine lv_pop hC.1 hC.2.1 dX5_mergeOf_57 rfl ?_
      refine lv_iload hC.1 hC.2.1 dX5_mergeOf_58 (lv_at hl 0 rfl) ?_
      exact x_iret hC hw dX5_mergeOf_60 (by first | decide | omega) (by first | decide | omega) ⟨p2, _, _, rfl, by omega, ((show mgN (V (p0).toNat (p1).toNat) p2 = p2 by first | (simp only [mgN]; rw [if_pos (by omega)]; done) | (exfalso; omega))).symm, (by rw [(show mgN (V (p0).toNat (p1).toNat) p2 = p2 by first | (simp only [mgN]; rw [if_pos (by omega)]; done) | (exfalso; omega))]; exact he0k_18), (by rw [(show mgN (V (p0).toNat (p1).toNat) p2 = p2 by first | (simp only [mgN]; rw [if_pos (by omega)]; done) | (exfalso; omega))]; exact he1k_18), (hx5k_18), hRk_18⟩
    · refine lv_iload hC.1 hC.2.1 dX5_mergeOf_39 (lv_at hl 0 rfl) ?_
      refine x_if_ne (tgt := 49) hC ⟨by omega, by omega⟩ dX5_mergeOf_41 (by decide) (fun c_20 => ?_) (fun c_20 => ?_)
      · refine lv_aload_n hC.1 hC.2.1 dX5_mergeOf_49 rfl (lv_at hl 2 rfl) ?_
        refine lv_iload_n hC.1 hC.2.1 dX5_mergeOf_50 rfl (lv_at hl 3 rfl) ?_
        refine lv_iload_n hC.1 hC.2.1 dX5_mergeOf_51 rfl (lv_at hl 4 rfl) ?_
        refine lv_iload hC.1 hC.2.1 dX5_mergeOf_52 (lv_at hl 0 rfl) ?_
        refine x_callV hC hw (lv_size hl) (c_X5_set l G hR (p0 := p0) (by first | assumption | omega) (p1 := p1) (by first | assumption | omega) (p2 := p2) (by first | assumption | omega) (by omega) (by omega) (by omega) (by intro q9; first | exact absurd rfl q9 | assumption | exact hpv_1 q9 | exact hpv_1 (by omega))) gX5_mergeOf_X5_set rfl dv_X5_set hR.1.1 rfl rfl (Nat.le_of_ble_eq_true rfl) (by rw [hRf]; decide) (by rw [hRl]; decide) (by first | (rw [hRc]; decide) | omega) (by first | (rw [hRs]; decide) | omega) dX5_mergeOf_54 (fun r9 M_21 H locs hq hw => ?_)
        obtain ⟨z_23, brk_22, Vk_22, rfl, hz_23a, hz_23v, hz_23b, he0k_22, he1k_22, hx5k_22, hRk_22⟩ := hq
        have hsck_22 := hRk_22.sc.1
        show W p l e R s m args below meth c H locs _ _ _ (F0 m 57 ls [.int (iN (z_23))])
        refine lv_pop hC.1 hC.2.1 dX5_mergeOf_57 rfl ?_
        refine lv_iload hC.1 hC.2.1 dX5_mergeOf_58 (lv_at hl 0 rfl) ?_
        exact x_iret hC hw dX5_mergeOf_60 (by first | decide | omega) (by first | decide | omega) ⟨p2, _, _, rfl, by omega, ((show mgN (V (p0).toNat (p1).toNat) p2 = p2 by first | (simp only [mgN]; rw [if_pos (by omega)]; done) | (exfalso; omega))).symm, (by rw [(show mgN (V (p0).toNat (p1).toNat) p2 = p2 by first | (simp only [mgN]; rw [if_pos (by omega)]; done) | (exfalso; omega))]; exact he0k_22), (by rw [(show mgN (V (p0).toNat (p1).toNat) p2 = p2 by first | (simp only [mgN]; rw [if_pos (by omega)]; done) | (exfalso; omega))]; exact he1k_22), (hx5k_22), hRk_22⟩
      · refine x_sipush hC dX5_mergeOf_44 (by decide +kernel) ?_
        refine lv_istore (lv' := [(5, .int (iN ((-10000)))), (4, .int (iN ((V ((p0).toNat) ((p1).toNat))))), (0, .ref a), (1, .int (iN (p0))), (2, .int (iN (p1))), (3, .int (iN (p2)))]) hC.1 hC.2.1 dX5_mergeOf_47 hl (by decide) rfl (fun ls hl => ?_)
        refine lv_aload_n hC.1 hC.2.1 dX5_mergeOf_49 rfl (lv_at hl 2 rfl) ?_
        refine lv_iload_n hC.1 hC.2.1 dX5_mergeOf_50 rfl (lv_at hl 3 rfl) ?_
        refine lv_iload_n hC.1 hC.2.1 dX5_mergeOf_51 rfl (lv_at hl 4 rfl) ?_
        refine lv_iload hC.1 hC.2.1 dX5_mergeOf_52 (lv_at hl 0 rfl) ?_
        refine x_callV hC hw (lv_size hl) (c_X5_set l G hR (p0 := p0) (by first | assumption | omega) (p1 := p1) (by first | assumption | omega) (p2 := (-10000)) (by omega) (by omega) (by omega) (by omega) (fun q9 => absurd rfl q9)) gX5_mergeOf_X5_set rfl dv_X5_set hR.1.1 rfl rfl (Nat.le_of_ble_eq_true rfl) (by rw [hRf]; decide) (by rw [hRl]; decide) (by first | (rw [hRc]; decide) | omega) (by first | (rw [hRs]; decide) | omega) dX5_mergeOf_54 (fun r9 M_24 H locs hq hw => ?_)
        obtain ⟨z_26, brk_25, Vk_25, rfl, hz_26a, hz_26v, hz_26b, he0k_25, he1k_25, hx5k_25, hRk_25⟩ := hq
        have hsck_25 := hRk_25.sc.1
        show W p l e R s m args below meth c H locs _ _ _ (F0 m 57 ls [.int (iN (z_26))])
        refine lv_pop hC.1 hC.2.1 dX5_mergeOf_57 rfl ?_
        refine lv_iload hC.1 hC.2.1 dX5_mergeOf_58 (lv_at hl 0 rfl) ?_
        exact x_iret hC hw dX5_mergeOf_60 (by first | decide | omega) (by first | decide | omega) ⟨(-10000), _, _, rfl, by omega, ((show mgN (V (p0).toNat (p1).toNat) p2 = (-10000) by first | (simp only [mgN]; rw [if_pos (by omega)]; done) | (exfalso; omega))).symm, (by rw [(show mgN (V (p0).toNat (p1).toNat) p2 = (-10000) by first | (simp only [mgN]; rw [if_pos (by omega)]; done) | (exfalso; omega))]; exact he0k_25), (by rw [(show mgN (V (p0).toNat (p1).toNat) p2 = (-10000) by first | (simp only [mgN]; rw [if_pos (by omega)]; done) | (exfalso; omega))]; exact he1k_25), (hx5k_25), hRk_25⟩
