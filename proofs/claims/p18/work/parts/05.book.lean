/-! the methods of a book, by program -/
theorem dv_X0_weight : yX0_weight.cls = RX0 ∧ yX0_weight.cls ≠ "java/lang/invoke/MethodHandle" ∧ yX0_weight.cls ≠ "java/lang/invoke/VarHandle" ∧ (parseMethodDescriptor yX0_weight.desc).map (fun d => d.parameters.length) = some 1 := ⟨rfl, nmh_RX0.1, nmh_RX0.2, pds_0⟩
theorem dv_X0_placeOfWeight : yX0_placeOfWeight.cls = RX0 ∧ yX0_placeOfWeight.cls ≠ "java/lang/invoke/MethodHandle" ∧ yX0_placeOfWeight.cls ≠ "java/lang/invoke/VarHandle" ∧ (parseMethodDescriptor yX0_placeOfWeight.desc).map (fun d => d.parameters.length) = some 1 := ⟨rfl, nmh_RX0.1, nmh_RX0.2, pds_0⟩
theorem dv_X0_isPlace : yX0_isPlace.cls = RX0 ∧ yX0_isPlace.cls ≠ "java/lang/invoke/MethodHandle" ∧ yX0_isPlace.cls ≠ "java/lang/invoke/VarHandle" ∧ (parseMethodDescriptor yX0_isPlace.desc).map (fun d => d.parameters.length) = some 1 := ⟨rfl, nmh_RX0.1, nmh_RX0.2, pds_1⟩
theorem dv_X0_placeOf : yX0_placeOf.cls = RX0 ∧ yX0_placeOf.cls ≠ "java/lang/invoke/MethodHandle" ∧ yX0_placeOf.cls ≠ "java/lang/invoke/VarHandle" ∧ (parseMethodDescriptor yX0_placeOf.desc).map (fun d => d.parameters.length) = some 1 := ⟨rfl, nmh_RX0.1, nmh_RX0.2, pds_0⟩
theorem dv_X0_keyAt : yX0_keyAt.cls = RX0 ∧ yX0_keyAt.cls ≠ "java/lang/invoke/MethodHandle" ∧ yX0_keyAt.cls ≠ "java/lang/invoke/VarHandle" ∧ (parseMethodDescriptor yX0_keyAt.desc).map (fun d => d.parameters.length) = some 1 := ⟨rfl, nmh_RX0.1, nmh_RX0.2, pds_0⟩
theorem dv_X0_valueAt : yX0_valueAt.cls = RX0 ∧ yX0_valueAt.cls ≠ "java/lang/invoke/MethodHandle" ∧ yX0_valueAt.cls ≠ "java/lang/invoke/VarHandle" ∧ (parseMethodDescriptor yX0_valueAt.desc).map (fun d => d.parameters.length) = some 1 := ⟨rfl, nmh_RX0.1, nmh_RX0.2, pds_0⟩
theorem dv_X0_valueOf : yX0_valueOf.cls = RX0 ∧ yX0_valueOf.cls ≠ "java/lang/invoke/MethodHandle" ∧ yX0_valueOf.cls ≠ "java/lang/invoke/VarHandle" ∧ (parseMethodDescriptor yX0_valueOf.desc).map (fun d => d.parameters.length) = some 1 := ⟨rfl, nmh_RX0.1, nmh_RX0.2, pds_0⟩
theorem dv_X0_firstPlaceOfValue : yX0_firstPlaceOfValue.cls = RX0 ∧ yX0_firstPlaceOfValue.cls ≠ "java/lang/invoke/MethodHandle" ∧ yX0_firstPlaceOfValue.cls ≠ "java/lang/invoke/VarHandle" ∧ (parseMethodDescriptor yX0_firstPlaceOfValue.desc).map (fun d => d.parameters.length) = some 1 := ⟨rfl, nmh_RX0.1, nmh_RX0.2, pds_0⟩
theorem dv_X0_placeBehind : yX0_placeBehind.cls = RX0 ∧ yX0_placeBehind.cls ≠ "java/lang/invoke/MethodHandle" ∧ yX0_placeBehind.cls ≠ "java/lang/invoke/VarHandle" ∧ (parseMethodDescriptor yX0_placeBehind.desc).map (fun d => d.parameters.length) = some 1 := ⟨rfl, nmh_RX0.1, nmh_RX0.2, pds_0⟩
theorem dv_X0_insert : yX0_insert.cls = RX0 ∧ yX0_insert.cls ≠ "java/lang/invoke/MethodHandle" ∧ yX0_insert.cls ≠ "java/lang/invoke/VarHandle" ∧ (parseMethodDescriptor yX0_insert.desc).map (fun d => d.parameters.length) = some 3 := ⟨rfl, nmh_RX0.1, nmh_RX0.2, pds_2⟩
theorem dv_X0_removeRange : yX0_removeRange.cls = RX0 ∧ yX0_removeRange.cls ≠ "java/lang/invoke/MethodHandle" ∧ yX0_removeRange.cls ≠ "java/lang/invoke/VarHandle" ∧ (parseMethodDescriptor yX0_removeRange.desc).map (fun d => d.parameters.length) = some 2 := ⟨rfl, nmh_RX0.1, nmh_RX0.2, pds_3⟩
theorem dv_X0_enter : yX0_enter.cls = RX0 ∧ yX0_enter.cls ≠ "java/lang/invoke/MethodHandle" ∧ yX0_enter.cls ≠ "java/lang/invoke/VarHandle" ∧ (parseMethodDescriptor yX0_enter.desc).map (fun d => d.parameters.length) = some 2 := ⟨rfl, nmh_RX0.1, nmh_RX0.2, pds_3⟩
theorem dv_X0_removeKey : yX0_removeKey.cls = RX0 ∧ yX0_removeKey.cls ≠ "java/lang/invoke/MethodHandle" ∧ yX0_removeKey.cls ≠ "java/lang/invoke/VarHandle" ∧ (parseMethodDescriptor yX0_removeKey.desc).map (fun d => d.parameters.length) = some 1 := ⟨rfl, nmh_RX0.1, nmh_RX0.2, pds_0⟩
theorem dv_X0_holds : yX0_holds.cls = RX0 ∧ yX0_holds.cls ≠ "java/lang/invoke/MethodHandle" ∧ yX0_holds.cls ≠ "java/lang/invoke/VarHandle" ∧ (parseMethodDescriptor yX0_holds.desc).map (fun d => d.parameters.length) = some 1 := ⟨rfl, nmh_RX0.1, nmh_RX0.2, pds_1⟩
theorem dv_X0_bounded_s : yX0_bounded.cls ≠ "java/lang/invoke/MethodHandle" ∧ yX0_bounded.cls ≠ "java/lang/invoke/VarHandle" ∧ (parseMethodDescriptor yX0_bounded.desc).map (fun d => d.parameters.length) = some 1 := ⟨nmh_RX0.1, nmh_RX0.2, pds_0⟩
theorem dv_X0_enterUnlessZero : yX0_enterUnlessZero.cls = RX0 ∧ yX0_enterUnlessZero.cls ≠ "java/lang/invoke/MethodHandle" ∧ yX0_enterUnlessZero.cls ≠ "java/lang/invoke/VarHandle" ∧ (parseMethodDescriptor yX0_enterUnlessZero.desc).map (fun d => d.parameters.length) = some 2 := ⟨rfl, nmh_RX0.1, nmh_RX0.2, pds_3⟩
theorem dv_X0_removeAt : yX0_removeAt.cls = RX0 ∧ yX0_removeAt.cls ≠ "java/lang/invoke/MethodHandle" ∧ yX0_removeAt.cls ≠ "java/lang/invoke/VarHandle" ∧ (parseMethodDescriptor yX0_removeAt.desc).map (fun d => d.parameters.length) = some 1 := ⟨rfl, nmh_RX0.1, nmh_RX0.2, pds_0⟩
theorem dv_X0_size : yX0_size.cls = RX0 ∧ yX0_size.cls ≠ "java/lang/invoke/MethodHandle" ∧ yX0_size.cls ≠ "java/lang/invoke/VarHandle" ∧ (parseMethodDescriptor yX0_size.desc).map (fun d => d.parameters.length) = some 0 := ⟨rfl, nmh_RX0.1, nmh_RX0.2, pds_4⟩
theorem dv_X0_order : yX0_order.cls = RX0 ∧ yX0_order.cls ≠ "java/lang/invoke/MethodHandle" ∧ yX0_order.cls ≠ "java/lang/invoke/VarHandle" ∧ (parseMethodDescriptor yX0_order.desc).map (fun d => d.parameters.length) = some 0 := ⟨rfl, nmh_RX0.1, nmh_RX0.2, pds_4⟩
theorem dv_X0_enterAll : yX0_enterAll.cls = RX0 ∧ yX0_enterAll.cls ≠ "java/lang/invoke/MethodHandle" ∧ yX0_enterAll.cls ≠ "java/lang/invoke/VarHandle" ∧ (parseMethodDescriptor yX0_enterAll.desc).map (fun d => d.parameters.length) = some 1 := ⟨rfl, nmh_RX0.1, nmh_RX0.2, pds_5⟩
theorem dv_X0_sum : yX0_sum.cls = RX0 ∧ yX0_sum.cls ≠ "java/lang/invoke/MethodHandle" ∧ yX0_sum.cls ≠ "java/lang/invoke/VarHandle" ∧ (parseMethodDescriptor yX0_sum.desc).map (fun d => d.parameters.length) = some 2 := ⟨rfl, nmh_RX0.1, nmh_RX0.2, pds_3⟩
theorem dv_X0_closest : yX0_closest.cls = RX0 ∧ yX0_closest.cls ≠ "java/lang/invoke/MethodHandle" ∧ yX0_closest.cls ≠ "java/lang/invoke/VarHandle" ∧ (parseMethodDescriptor yX0_closest.desc).map (fun d => d.parameters.length) = some 4 := ⟨rfl, nmh_RX0.1, nmh_RX0.2, pds_6⟩
theorem dv_X0_isAhead : yX0_isAhead.cls = RX0 ∧ yX0_isAhead.cls ≠ "java/lang/invoke/MethodHandle" ∧ yX0_isAhead.cls ≠ "java/lang/invoke/VarHandle" ∧ (parseMethodDescriptor yX0_isAhead.desc).map (fun d => d.parameters.length) = some 2 := ⟨rfl, nmh_RX0.1, nmh_RX0.2, pds_7⟩
theorem dv_X0_signs_s : yX0_signs.cls ≠ "java/lang/invoke/MethodHandle" ∧ yX0_signs.cls ≠ "java/lang/invoke/VarHandle" ∧ (parseMethodDescriptor yX0_signs.desc).map (fun d => d.parameters.length) = some 1 := ⟨nmh_RX0.1, nmh_RX0.2, pds_0⟩
set_option maxHeartbeats 4000000 in
set_option maxRecDepth 100000 in
theorem c_X0_number (l : Launch) (G : xG) {M : HM} {b k v o : Nat} {no : Int32} {t kc sz : Int} {fk fv : Nat → Int32} {V : Nat → Int} (hB : Bk G M b k v no (iN ((o : Nat) : Int)) (iN (t)) (iN (kc)) sz fk fv) (ho : o < 3) (hV : BV o V sz.toNat fk fv) (htt : 0 ≤ t ∧ t ≤ 1000000) (hkk : 0 ≤ kc ∧ kc ≤ 1000000) : xMet l G yX0_number wsX0_number 0 0 0 0 [.ref b] M (fun r M1 => r = some (.int (iN (no.toInt))) ∧ M1 = M) := by
  refine x_intro (cc := cX0_number) (maxL := 1) (ret := (some .int)) (by exact pln_RX0) rfl (Nat.le_of_ble_eq_true rfl) ?_
  intro p e R s m args below meth c ls hRf hRc hRs hRl hC hw hl
  obtain ⟨-, -, -, -, hs0, hs1⟩ := id hB
  have hinX0 : ∀ w ∈ wsX00, w ∈ wsX0_number := fun w h => (List.mem_cons_of_mem _ (List.mem_append_right _ h))
  have hl : lv_has ls 1 [(0, .ref b)] := hl
  refine lv_aload_n hC.1 hC.2.1 dX0_number_0 rfl (lv_at hl 0 rfl) ?_
  refine x_getR hC hw hB.1 rfl hinX0 0 (by decide) (List.mem_cons_of_mem _ (List.mem_append_left _ (List.mem_of_getElem? (i := 0) rfl))) rfl dX0_number_1 ?_
  have hrr_1 := iN_rng no
  exact x_iret hC hw dX0_number_4 (by first | decide | omega) (by first | decide | omega) ⟨rfl, rfl⟩
set_option maxHeartbeats 4000000 in
set_option maxRecDepth 100000 in
theorem c_X0_order (l : Launch) (G : xG) {M : HM} {b k v o : Nat} {no : Int32} {t kc sz : Int} {fk fv : Nat → Int32} {V : Nat → Int} (hB : Bk G M b k v no (iN ((o : Nat) : Int)) (iN (t)) (iN (kc)) sz fk fv) (ho : o < 3) (hV : BV o V sz.toNat fk fv) (htt : 0 ≤ t ∧ t ≤ 1000000) (hkk : 0 ≤ kc ∧ kc ≤ 1000000) : xMet l G yX0_order wsX0_order 0 0 0 0 [.ref b] M (fun r M1 => r = some (.int (iN (((o : Nat) : Int)))) ∧ M1 = M) := by
  refine x_intro (cc := cX0_order) (maxL := 1) (ret := (some .int)) (by exact pln_RX0) rfl (Nat.le_of_ble_eq_true rfl) ?_
  intro p e R s m args below meth c ls hRf hRc hRs hRl hC hw hl
  obtain ⟨-, -, -, -, hs0, hs1⟩ := id hB
  have hinX0 : ∀ w ∈ wsX00, w ∈ wsX0_order := fun w h => (List.mem_cons_of_mem _ (List.mem_append_right _ h))
  have hl : lv_has ls 1 [(0, .ref b)] := hl
  refine lv_aload_n hC.1 hC.2.1 dX0_order_0 rfl (lv_at hl 0 rfl) ?_
  refine x_get hC hw hB.1 rfl hinX0 3 (by decide) (List.mem_cons_of_mem _ (List.mem_append_left _ (List.mem_of_getElem? (i := 0) rfl))) rfl dX0_order_1 ?_
  exact x_iret hC hw dX0_order_4 (by first | decide | omega) (by first | decide | omega) ⟨rfl, rfl⟩
set_option maxHeartbeats 4000000 in
set_option maxRecDepth 100000 in
theorem c_X0_size (l : Launch) (G : xG) {M : HM} {b k v o : Nat} {no : Int32} {t kc sz : Int} {fk fv : Nat → Int32} {V : Nat → Int} (hB : Bk G M b k v no (iN ((o : Nat) : Int)) (iN (t)) (iN (kc)) sz fk fv) (ho : o < 3) (hV : BV o V sz.toNat fk fv) (htt : 0 ≤ t ∧ t ≤ 1000000) (hkk : 0 ≤ kc ∧ kc ≤ 1000000) : xMet l G yX0_size wsX0_size 0 0 0 0 [.ref b] M (fun r M1 => r = some (.int (iN (sz))) ∧ M1 = M) := by
  refine x_intro (cc := cX0_size) (maxL := 1) (ret := (some .int)) (by exact pln_RX0) rfl (Nat.le_of_ble_eq_true rfl) ?_
  intro p e R s m args below meth c ls hRf hRc hRs hRl hC hw hl
  obtain ⟨-, -, -, -, hs0, hs1⟩ := id hB
  have hinX0 : ∀ w ∈ wsX00, w ∈ wsX0_size := fun w h => (List.mem_cons_of_mem _ (List.mem_append_right _ h))
  have hl : lv_has ls 1 [(0, .ref b)] := hl
  refine lv_aload_n hC.1 hC.2.1 dX0_size_0 rfl (lv_at hl 0 rfl) ?_
  refine x_get hC hw hB.1 rfl hinX0 4 (by decide) (List.mem_cons_of_mem _ (List.mem_append_left _ (List.mem_of_getElem? (i := 0) rfl))) rfl dX0_size_1 ?_
  exact x_iret hC hw dX0_size_4 (by first | decide | omega) (by first | decide | omega) ⟨rfl, rfl⟩
set_option maxHeartbeats 4000000 in
set_option maxRecDepth 100000 in
theorem c_X0_touches (l : Launch) (G : xG) {M : HM} {b k v o : Nat} {no : Int32} {t kc sz : Int} {fk fv : Nat → Int32} {V : Nat → Int} (hB : Bk G M b k v no (iN ((o : Nat) : Int)) (iN (t)) (iN (kc)) sz fk fv) (ho : o < 3) (hV : BV o V sz.toNat fk fv) (htt : 0 ≤ t ∧ t ≤ 1000000) (hkk : 0 ≤ kc ∧ kc ≤ 1000000) : xMet l G yX0_touches wsX0_touches 0 0 0 0 [.ref b] M (fun r M1 => r = some (.int (iN (t))) ∧ M1 = M) := by
  refine x_intro (cc := cX0_touches) (maxL := 1) (ret := (some .int)) (by exact pln_RX0) rfl (Nat.le_of_ble_eq_true rfl) ?_
  intro p e R s m args below meth c ls hRf hRc hRs hRl hC hw hl
  obtain ⟨-, -, -, -, hs0, hs1⟩ := id hB
  have hinX0 : ∀ w ∈ wsX00, w ∈ wsX0_touches := fun w h => (List.mem_cons_of_mem _ (List.mem_append_right _ h))
  have hl : lv_has ls 1 [(0, .ref b)] := hl
  refine lv_aload_n hC.1 hC.2.1 dX0_touches_0 rfl (lv_at hl 0 rfl) ?_
  refine x_get hC hw hB.1 rfl hinX0 5 (by decide) (List.mem_cons_of_mem _ (List.mem_append_left _ (List.mem_of_getElem? (i := 0) rfl))) rfl dX0_touches_1 ?_
  exact x_iret hC hw dX0_touches_4 (by first | decide | omega) (by first | decide | omega) ⟨rfl, rfl⟩
set_option maxHeartbeats 4000000 in
set_option maxRecDepth 100000 in
theorem c_X0_keyChanges (l : Launch) (G : xG) {M : HM} {b k v o : Nat} {no : Int32} {t kc sz : Int} {fk fv : Nat → Int32} {V : Nat → Int} (hB : Bk G M b k v no (iN ((o : Nat) : Int)) (iN (t)) (iN (kc)) sz fk fv) (ho : o < 3) (hV : BV o V sz.toNat fk fv) (htt : 0 ≤ t ∧ t ≤ 1000000) (hkk : 0 ≤ kc ∧ kc ≤ 1000000) : xMet l G yX0_keyChanges wsX0_keyChanges 0 0 0 0 [.ref b] M (fun r M1 => r = some (.int (iN (kc))) ∧ M1 = M) := by
  refine x_intro (cc := cX0_keyChanges) (maxL := 1) (ret := (some .int)) (by exact pln_RX0) rfl (Nat.le_of_ble_eq_true rfl) ?_
  intro p e R s m args below meth c ls hRf hRc hRs hRl hC hw hl
  obtain ⟨-, -, -, -, hs0, hs1⟩ := id hB
  have hinX0 : ∀ w ∈ wsX00, w ∈ wsX0_keyChanges := fun w h => (List.mem_cons_of_mem _ (List.mem_append_right _ h))
  have hl : lv_has ls 1 [(0, .ref b)] := hl
  refine lv_aload_n hC.1 hC.2.1 dX0_keyChanges_0 rfl (lv_at hl 0 rfl) ?_
  refine x_get hC hw hB.1 rfl hinX0 6 (by decide) (List.mem_cons_of_mem _ (List.mem_append_left _ (List.mem_of_getElem? (i := 0) rfl))) rfl dX0_keyChanges_1 ?_
  exact x_iret hC hw dX0_keyChanges_4 (by first | decide | omega) (by first | decide | omega) ⟨rfl, rfl⟩
set_option maxHeartbeats 4000000 in
set_option maxRecDepth 100000 in
theorem c_X0_isPlace (l : Launch) (G : xG) {M : HM} {b k v o : Nat} {no : Int32} {t kc sz : Int} {fk fv : Nat → Int32} {V : Nat → Int} (hB : Bk G M b k v no (iN ((o : Nat) : Int)) (iN (t)) (iN (kc)) sz fk fv) (ho : o < 3) (hV : BV o V sz.toNat fk fv) (htt : 0 ≤ t ∧ t ≤ 1000000) (hkk : 0 ≤ kc ∧ kc ≤ 1000000) {p0 : Int} (hp0 : -2147483648 ≤ p0 ∧ p0 ≤ 2147483647) : xMet l G yX0_isPlace wsX0_isPlace 0 0 0 0 [.ref b, .int (iN (p0))] M (fun r M1 => ∃ z : Int, r = some (.int (iN z)) ∧ M1 = M ∧ ((z = 1 ∧ 0 ≤ p0 ∧ p0 < sz) ∨ (z = 0 ∧ (p0 < 0 ∨ sz ≤ p0)))) := by
  refine x_intro (cc := cX0_isPlace) (maxL := 2) (ret := (some .boolean)) (by exact pln_RX0) rfl (Nat.le_of_ble_eq_true rfl) ?_
  intro p e R s m args below meth c ls hRf hRc hRs hRl hC hw hl
  obtain ⟨-, -, -, -, hs0, hs1⟩ := id hB
  have hinX0 : ∀ w ∈ wsX00, w ∈ wsX0_isPlace := fun w h => (List.mem_cons_of_mem _ (List.mem_append_right _ h))
  have hl : lv_has ls 2 [(0, .ref b), (1, .int (iN (p0)))] := hl
  refine lv_iload_n hC.1 hC.2.1 dX0_isPlace_0 rfl (lv_at hl 1 rfl) ?_
  refine x_if_lt (tgt := 16) hC ⟨by omega, by omega⟩ dX0_isPlace_1 (by decide) (fun c_1 => ?_) (fun c_1 => ?_)
  · refine x_const hC dX0_isPlace_16 ?_
    exact x_zret hC hw (by omega) dX0_isPlace_17 (by first | decide | omega) (by first | decide | omega) ⟨0, rfl, rfl, by omega⟩
  · refine lv_iload_n hC.1 hC.2.1 dX0_isPlace_4 rfl (lv_at hl 1 rfl) ?_
    refine lv_aload_n hC.1 hC.2.1 dX0_isPlace_5 rfl (lv_at hl 0 rfl) ?_
    refine x_get hC hw hB.1 rfl hinX0 4 (by decide) (List.mem_cons_of_mem _ (List.mem_append_left _ (List.mem_of_getElem? (i := 0) rfl))) rfl dX0_isPlace_6 ?_
    refine x_icmp_ge (tgt := 16) hC ⟨by omega, by omega⟩ ⟨by omega, by omega⟩ dX0_isPlace_9 (by decide) (fun c_2 => ?_) (fun c_2 => ?_)
    · refine x_const hC dX0_isPlace_16 ?_
      exact x_zret hC hw (by omega) dX0_isPlace_17 (by first | decide | omega) (by first | decide | omega) ⟨0, rfl, rfl, by omega⟩
    · refine x_const hC dX0_isPlace_12 ?_
      refine lv_goto (tgt := 17) hC.1 hC.2.1 dX0_isPlace_13 (by decide) ?_
      exact x_zret hC hw (by omega) dX0_isPlace_17 (by first | decide | omega) (by first | decide | omega) ⟨1, rfl, rfl, by omega⟩
set_option maxHeartbeats 4000000 in
set_option maxRecDepth 100000 in
theorem c_X0_weight (l : Launch) (G : xG) {M : HM} {b k v o : Nat} {no : Int32} {t kc sz : Int} {fk fv : Nat → Int32} {V : Nat → Int} (hB : Bk G M b k v no (iN ((o : Nat) : Int)) (iN (t)) (iN (kc)) sz fk fv) (ho : o < 3) (hV : BV o V sz.toNat fk fv) (htt : 0 ≤ t ∧ t ≤ 1000000) (hkk : 0 ≤ kc ∧ kc ≤ 1000000) {p0 : Int} (hp0 : -2147483648 ≤ p0 ∧ p0 ≤ 2147483647) : xMet l G yX0_weight wsX0_weight 0 0 0 0 [.ref b, .int (iN (p0))] M (fun r M1 => ∃ z : Int, r = some (.int (iN z)) ∧ M1 = M ∧ (-2147483648 ≤ z ∧ z ≤ 2147483647) ∧ (0 ≤ p0 ∧ p0 ≤ 99 → z = cwN o p0.toNat)) := by
  refine x_intro (cc := cX0_weight) (maxL := 4) (ret := (some .int)) (by exact pln_RX0) rfl (Nat.le_of_ble_eq_true rfl) ?_
  intro p e R s m args below meth c ls hRf hRc hRs hRl hC hw hl
  obtain ⟨-, -, -, -, hs0, hs1⟩ := id hB
  have hinX0 : ∀ w ∈ wsX00, w ∈ wsX0_weight := fun w h => (List.mem_cons_of_mem _ (List.mem_append_right _ h))
  have hl : lv_has ls 4 [(0, .ref b), (1, .int (iN (p0)))] := hl
  refine lv_aload_n hC.1 hC.2.1 dX0_weight_0 rfl (lv_at hl 0 rfl) ?_
  refine x_get hC hw hB.1 rfl hinX0 3 (by decide) (List.mem_cons_of_mem _ (List.mem_append_left _ (List.mem_of_getElem? (i := 0) rfl))) rfl dX0_weight_1 ?_
  refine x_lsw2 (t0 := 32) (t1 := 34) (td := 53) hC ⟨by omega, by omega⟩ dX0_weight_4 (by decide) (by decide) (by decide) (fun c_1 => ?_) (fun c_1 => ?_) (fun c_1 c_1b => ?_)
  · refine lv_iload_n hC.1 hC.2.1 dX0_weight_32 rfl (lv_at hl 1 rfl) ?_
    exact x_iret hC hw dX0_weight_33 (by first | decide | omega) (by first | decide | omega) ⟨(iN (p0)).toInt, by rw [iN_asI], rfl, iN_rng _, fun hk => by rw [iN_toInt ⟨by omega, by omega⟩, cwN_0 (by omega)]; omega⟩
  · refine lv_iload_n hC.1 hC.2.1 dX0_weight_34 rfl (lv_at hl 1 rfl) ?_
    refine x_const hC dX0_weight_35 ?_
    refine x_irem hC ⟨by omega, by omega⟩ ⟨by omega, by omega⟩ (by omega) (by omega) dX0_weight_36 ?_
    obtain ⟨z_2, hz_2⟩ : ∃ z : Int, z = p0.tmod 2 := ⟨_, rfl⟩
    rw [← hz_2]
    have hrz_2 : -2147483648 ≤ z_2 ∧ z_2 ≤ 2147483647 := by rw [hz_2]; exact x_tmod_rng ⟨by omega, by omega⟩ (by omega)
    refine x_if_ne (tgt := 47) hC ⟨by omega, by omega⟩ dX0_weight_37 (by decide) (fun c_3 => ?_) (fun c_3 => ?_)
    · refine x_sipush hC dX0_weight_47 (by decide +kernel) ?_
      refine lv_iload_n hC.1 hC.2.1 dX0_weight_50 rfl (lv_at hl 1 rfl) ?_
      refine x_isub hC dX0_weight_51 ?_
      exact x_iret hC hw dX0_weight_52 (by first | decide | omega) (by first | decide | omega) ⟨(iN (200 - p0)).toInt, by rw [iN_asI], rfl, iN_rng _, fun hk => by have e9 := hz_2; rw [Int.tmod_eq_emod_of_nonneg hk.1] at e9; rw [iN_toInt ⟨by omega, by omega⟩, cwN_1o (by omega) (by omega)]; omega⟩
    · refine x_bipush hC dX0_weight_40 (by decide +kernel) ?_
      refine lv_iload_n hC.1 hC.2.1 dX0_weight_42 rfl (lv_at hl 1 rfl) ?_
      refine x_isub hC dX0_weight_43 ?_
      refine lv_goto (tgt := 52) hC.1 hC.2.1 dX0_weight_44 (by decide) ?_
      exact x_iret hC hw dX0_weight_52 (by first | decide | omega) (by first | decide | omega) ⟨(iN (100 - p0)).toInt, by rw [iN_asI], rfl, iN_rng _, fun hk => by have e9 := hz_2; rw [Int.tmod_eq_emod_of_nonneg hk.1] at e9; rw [iN_toInt ⟨by omega, by omega⟩, cwN_1e (by omega) (by omega)]; omega⟩
  · refine lv_iload_n hC.1 hC.2.1 dX0_weight_53 rfl (lv_at hl 1 rfl) ?_
    refine x_const hC dX0_weight_54 ?_
    refine x_icmp_ge (tgt := 62) hC ⟨by omega, by omega⟩ ⟨by omega, by omega⟩ dX0_weight_55 (by decide) (fun c_4 => ?_) (fun c_4 => ?_)
    · refine lv_iload_n hC.1 hC.2.1 dX0_weight_62 rfl (lv_at hl 1 rfl) ?_
      refine x_bipush hC dX0_weight_63 (by decide +kernel) ?_
      refine x_icmp_ge (tgt := 72) hC ⟨by omega, by omega⟩ ⟨by omega, by omega⟩ dX0_weight_65 (by decide) (fun c_5 => ?_) (fun c_5 => ?_)
      · refine lv_iload_n hC.1 hC.2.1 dX0_weight_72 rfl (lv_at hl 1 rfl) ?_
        refine x_bipush hC dX0_weight_73 (by decide +kernel) ?_
        refine x_icmp_ge (tgt := 82) hC ⟨by omega, by omega⟩ ⟨by omega, by omega⟩ dX0_weight_75 (by decide) (fun c_6 => ?_) (fun c_6 => ?_)
        · refine x_const hC dX0_weight_82 ?_
          refine lv_istore_n (lv' := [(2, .int (iN (4))), (0, .ref b), (1, .int (iN (p0)))]) hC.1 hC.2.1 dX0_weight_83 rfl hl (by decide) rfl (fun ls hl => ?_)
          refine lv_iload_n hC.1 hC.2.1 dX0_weight_84 rfl (lv_at hl 2 rfl) ?_
          refine x_const hC dX0_weight_85 ?_
          refine x_const hC dX0_weight_86 ?_
          refine lv_iload_n hC.1 hC.2.1 dX0_weight_87 rfl (lv_at hl 0 rfl) ?_
          refine x_isub hC dX0_weight_88 ?_
          refine x_imul hC dX0_weight_89 ?_
          refine lv_ishl hC.1 hC.2.1 dX0_weight_90 ?_
          obtain ⟨z_7, hz_7, hrz_7⟩ : ∃ z : Int, iN z = iN (p0) <<< (iN (2 * (4 - 4)) &&& 31) ∧ (-2147483648 ≤ z ∧ z ≤ 2147483647) := ⟨_, iN_asI _, iN_rng _⟩
          rw [← hz_7]
          refine lv_istore_n (lv' := [(3, .int (iN (z_7))), (2, .int (iN (4))), (0, .ref b), (1, .int (iN (p0)))]) hC.1 hC.2.1 dX0_weight_91 rfl hl (by decide) rfl (fun ls hl => ?_)
          refine lv_iload_n hC.1 hC.2.1 dX0_weight_92 rfl (lv_at hl 0 rfl) ?_
          refine x_const hC dX0_weight_93 ?_
          refine x_imul hC dX0_weight_94 ?_
          refine lv_iload_n hC.1 hC.2.1 dX0_weight_95 rfl (lv_at hl 1 rfl) ?_
          refine x_iadd hC dX0_weight_96 ?_
          refine x_const hC dX0_weight_97 ?_
          refine x_isub hC dX0_weight_98 ?_
          exact x_iret hC hw dX0_weight_99 (by first | decide | omega) (by first | decide | omega) ⟨(iN (((z_7 * 4) + 4) - 1)).toInt, by rw [iN_asI], rfl, iN_rng _, fun hk => by have e9 := (shl_eq hk hz_7 hrz_7 (by omega)).1 (by omega); rw [iN_toInt ⟨by omega, by omega⟩, cwN_2d (by omega) (by omega) (by omega)]; omega⟩
        · refine x_const hC dX0_weight_78 ?_
          refine lv_goto (tgt := 83) hC.1 hC.2.1 dX0_weight_79 (by decide) ?_
          refine lv_istore_n (lv' := [(2, .int (iN (3))), (0, .ref b), (1, .int (iN (p0)))]) hC.1 hC.2.1 dX0_weight_83 rfl hl (by decide) rfl (fun ls hl => ?_)
          refine lv_iload_n hC.1 hC.2.1 dX0_weight_84 rfl (lv_at hl 2 rfl) ?_
          refine x_const hC dX0_weight_85 ?_
          refine x_const hC dX0_weight_86 ?_
          refine lv_iload_n hC.1 hC.2.1 dX0_weight_87 rfl (lv_at hl 0 rfl) ?_
          refine x_isub hC dX0_weight_88 ?_
          refine x_imul hC dX0_weight_89 ?_
          refine lv_ishl hC.1 hC.2.1 dX0_weight_90 ?_
          obtain ⟨z_8, hz_8, hrz_8⟩ : ∃ z : Int, iN z = iN (p0) <<< (iN (2 * (4 - 3)) &&& 31) ∧ (-2147483648 ≤ z ∧ z ≤ 2147483647) := ⟨_, iN_asI _, iN_rng _⟩
          rw [← hz_8]
          refine lv_istore_n (lv' := [(3, .int (iN (z_8))), (2, .int (iN (3))), (0, .ref b), (1, .int (iN (p0)))]) hC.1 hC.2.1 dX0_weight_91 rfl hl (by decide) rfl (fun ls hl => ?_)
          refine lv_iload_n hC.1 hC.2.1 dX0_weight_92 rfl (lv_at hl 0 rfl) ?_
          refine x_const hC dX0_weight_93 ?_
          refine x_imul hC dX0_weight_94 ?_
          refine lv_iload_n hC.1 hC.2.1 dX0_weight_95 rfl (lv_at hl 1 rfl) ?_
          refine x_iadd hC dX0_weight_96 ?_
          refine x_const hC dX0_weight_97 ?_
          refine x_isub hC dX0_weight_98 ?_
          exact x_iret hC hw dX0_weight_99 (by first | decide | omega) (by first | decide | omega) ⟨(iN (((z_8 * 4) + 3) - 1)).toInt, by rw [iN_asI], rfl, iN_rng _, fun hk => by have e9 := (shl_eq hk hz_8 hrz_8 (by omega)).2.1 (by omega); rw [iN_toInt ⟨by omega, by omega⟩, cwN_2c (by omega) (by omega) (by omega) (by omega)]; omega⟩
      · refine x_const hC dX0_weight_68 ?_
        refine lv_goto (tgt := 83) hC.1 hC.2.1 dX0_weight_69 (by decide) ?_
        refine lv_istore_n (lv' := [(2, .int (iN (2))), (0, .ref b), (1, .int (iN (p0)))]) hC.1 hC.2.1 dX0_weight_83 rfl hl (by decide) rfl (fun ls hl => ?_)
        refine lv_iload_n hC.1 hC.2.1 dX0_weight_84 rfl (lv_at hl 2 rfl) ?_
        refine x_const hC dX0_weight_85 ?_
        refine x_const hC dX0_weight_86 ?_
        refine lv_iload_n hC.1 hC.2.1 dX0_weight_87 rfl (lv_at hl 0 rfl) ?_
        refine x_isub hC dX0_weight_88 ?_
        refine x_imul hC dX0_weight_89 ?_
        refine lv_ishl hC.1 hC.2.1 dX0_weight_90 ?_
        obtain ⟨z_9, hz_9, hrz_9⟩ : ∃ z : Int, iN z = iN (p0) <<< (iN (2 * (4 - 2)) &&& 31) ∧ (-2147483648 ≤ z ∧ z ≤ 2147483647) := ⟨_, iN_asI _, iN_rng _⟩
        rw [← hz_9]
        refine lv_istore_n (lv' := [(3, .int (iN (z_9))), (2, .int (iN (2))), (0, .ref b), (1, .int (iN (p0)))]) hC.1 hC.2.1 dX0_weight_91 rfl hl (by decide) rfl (fun ls hl => ?_)
        refine lv_iload_n hC.1 hC.2.1 dX0_weight_92 rfl (lv_at hl 0 rfl) ?_
        refine x_const hC dX0_weight_93 ?_
        refine x_imul hC dX0_weight_94 ?_
        refine lv_iload_n hC.1 hC.2.1 dX0_weight_95 rfl (lv_at hl 1 rfl) ?_
        refine x_iadd hC dX0_weight_96 ?_
        refine x_const hC dX0_weight_97 ?_
        refine x_isub hC dX0_weight_98 ?_
        exact x_iret hC hw dX0_weight_99 (by first | decide | omega) (by first | decide | omega) ⟨(iN (((z_9 * 4) + 2) - 1)).toInt, by rw [iN_asI], rfl, iN_rng _, fun hk => by have e9 := (shl_eq hk hz_9 hrz_9 (by omega)).2.2.1 (by omega); rw [iN_toInt ⟨by omega, by omega⟩, cwN_2b (by omega) (by omega) (by omega) (by omega)]; omega⟩
    · refine x_const hC dX0_weight_58 ?_
      refine lv_goto (tgt := 83) hC.1 hC.2.1 dX0_weight_59 (by decide) ?_
      refine lv_istore_n (lv' := [(2, .int (iN (1))), (0, .ref b), (1, .int (iN (p0)))]) hC.1 hC.2.1 dX0_weight_83 rfl hl (by decide) rfl (fun ls hl => ?_)
      refine lv_iload_n hC.1 hC.2.1 dX0_weight_84 rfl (lv_at hl 2 rfl) ?_
      refine x_const hC dX0_weight_85 ?_
      refine x_const hC dX0_weight_86 ?_
      refine lv_iload_n hC.1 hC.2.1 dX0_weight_87 rfl (lv_at hl 0 rfl) ?_
      refine x_isub hC dX0_weight_88 ?_
      refine x_imul hC dX0_weight_89 ?_
      refine lv_ishl hC.1 hC.2.1 dX0_weight_90 ?_
      obtain ⟨z_10, hz_10, hrz_10⟩ : ∃ z : Int, iN z = iN (p0) <<< (iN (2 * (4 - 1)) &&& 31) ∧ (-2147483648 ≤ z ∧ z ≤ 2147483647) := ⟨_, iN_asI _, iN_rng _⟩
      rw [← hz_10]
      refine lv_istore_n (lv' := [(3, .int (iN (z_10))), (2, .int (iN (1))), (0, .ref b), (1, .int (iN (p0)))]) hC.1 hC.2.1 dX0_weight_91 rfl hl (by decide) rfl (fun ls hl => ?_)
      refine lv_iload_n hC.1 hC.2.1 dX0_weight_92 rfl (lv_at hl 0 rfl) ?_
      refine x_const hC dX0_weight_93 ?_
      refine x_imul hC dX0_weight_94 ?_
      refine lv_iload_n hC.1 hC.2.1 dX0_weight_95 rfl (lv_at hl 1 rfl) ?_
      refine x_iadd hC dX0_weight_96 ?_
      refine x_const hC dX0_weight_97 ?_
      refine x_isub hC dX0_weight_98 ?_
      exact x_iret hC hw dX0_weight_99 (by first | decide | omega) (by first | decide | omega) ⟨(iN (((z_10 * 4) + 1) - 1)).toInt, by rw [iN_asI], rfl, iN_rng _, fun hk => by have e9 := (shl_eq hk hz_10 hrz_10 (by omega)).2.2.2 (by omega); rw [iN_toInt ⟨by omega, by omega⟩, cwN_2a (by omega) (by omega) (by omega)]; omega⟩
set_option maxHeartbeats 4000000 in
set_option maxRecDepth 100000 in
theorem c_X0_isAhead (l : Launch) (G : xG) {M : HM} {b k v o : Nat} {no : Int32} {t kc sz : Int} {fk fv : Nat → Int32} {V : Nat → Int} (hB : Bk G M b k v no (iN ((o : Nat) : Int)) (iN (t)) (iN (kc)) sz fk fv) (ho : o < 3) (hV : BV o V sz.toNat fk fv) (htt : 0 ≤ t ∧ t ≤ 1000000) (hkk : 0 ≤ kc ∧ kc ≤ 1000000) {p0 : Int} (hp0 : -2147483648 ≤ p0 ∧ p0 ≤ 2147483647) {p1 : Int} (hp1 : -2147483648 ≤ p1 ∧ p1 ≤ 2147483647) : xMet l G yX0_isAhead wsX0_isAhead 1 23 0 0 [.ref b, .int (iN (p0)), .int (iN (p1))] M (fun r M1 => ∃ z : Int, r = some (.int (iN z)) ∧ M1 = M ∧ (z = 0 ∨ z = 1) ∧ ((0 ≤ p0 ∧ p0 ≤ 99) ∧ (0 ≤ p1 ∧ p1 ≤ 99) → (z = 1 ↔ cwN o p0.toNat < cwN o p1.toNat))) := by
  refine x_intro (cc := cX0_isAhead) (maxL := 3) (ret := (some .boolean)) (by exact pln_RX0) rfl (Nat.le_of_ble_eq_true rfl) ?_
  intro p e R s m args below meth c ls hRf hRc hRs hRl hC hw hl
  obtain ⟨-, -, -, -, hs0, hs1⟩ := id hB
  have hl : lv_has ls 3 [(0, .ref b), (1, .int (iN (p0))), (2, .int (iN (p1)))] := hl
  refine lv_aload_n hC.1 hC.2.1 dX0_isAhead_0 rfl (lv_at hl 0 rfl) ?_
  refine lv_iload_n hC.1 hC.2.1 dX0_isAhead_1 rfl (lv_at hl 1 rfl) ?_
  refine x_callV hC hw (lv_size hl) (c_X0_weight l G hB (show o < 3 by first | assumption | omega) hV (by first | assumption | omega) (by first | assumption | omega) (p0 := p0) (by first | assumption | omega)) gX0_isAhead_X0_weight rfl dv_X0_weight hB.1 rfl rfl (Nat.le_of_ble_eq_true rfl) (by rw [hRf]; decide) (by rw [hRl]; decide) (by first | (rw [hRc]; decide) | omega) (by first | (rw [hRs]; decide) | omega) dX0_isAhead_2 (fun r9 M_1 H locs hq hw => ?_)
  obtain ⟨z_2, rfl, hM9, hz_2, hz_2w⟩ := hq
  rw [hM9] at hw
  show W p l e R s m args below meth c H locs _ _ _ (F0 m 5 ls [.int (iN (z_2))])
  refine lv_aload_n hC.1 hC.2.1 dX0_isAhead_5 rfl (lv_at hl 0 rfl) ?_
  refine lv_iload_n hC.1 hC.2.1 dX0_isAhead_6 rfl (lv_at hl 2 rfl) ?_
  refine x_callV hC hw (lv_size hl) (c_X0_weight l G hB (show o < 3 by first | assumption | omega) hV (by first | assumption | omega) (by first | assumption | omega) (p0 := p1) (by first | assumption | omega)) gX0_isAhead_X0_weight rfl dv_X0_weight hB.1 rfl rfl (Nat.le_of_ble_eq_true rfl) (by rw [hRf]; decide) (by rw [hRl]; decide) (by first | (rw [hRc]; decide) | omega) (by first | (rw [hRs]; decide) | omega) dX0_isAhead_7 (fun r9 M_3 H locs hq hw => ?_)
  obtain ⟨z_4, rfl, hM9, hz_4, hz_4w⟩ := hq
  rw [hM9] at hw
  show W p l e R s m args below meth c H locs _ _ _ (F0 m 10 ls [.int (iN (z_4)), .int (iN (z_2))])
  refine x_icmp_ge (tgt := 17) hC ⟨by omega, by omega⟩ ⟨by omega, by omega⟩ dX0_isAhead_10 (by decide) (fun c_5 => ?_) (fun c_5 => ?_)
  · refine x_const hC dX0_isAhead_17 ?_
    exact x_zret hC hw (by omega) dX0_isAhead_18 (by first | decide | omega) (by first | decide | omega) ⟨0, rfl, rfl, by omega, by omega⟩
  · refine x_const hC dX0_isAhead_13 ?_
    refine lv_goto (tgt := 18) hC.1 hC.2.1 dX0_isAhead_14 (by decide) ?_
    exact x_zret hC hw (by omega) dX0_isAhead_18 (by first | decide | omega) (by first | decide | omega) ⟨1, rfl, rfl, by omega, by omega⟩
set_option maxHeartbeats 4000000 in
set_option maxRecDepth 100000 in
theorem c_X0_placeOfWeight (l : Launch) (G : xG) {M : HM} {b k v o : Nat} {no : Int32} {t kc sz : Int} {fk fv : Nat → Int32} {V : Nat → Int} (hB : Bk G M b k v no (iN ((o : Nat) : Int)) (iN (t)) (iN (kc)) sz fk fv) (ho : o < 3) (hV : BV o V sz.toNat fk fv) (htt : 0 ≤ t ∧ t ≤ 1000000) (hkk : 0 ≤ kc ∧ kc ≤ 1000000) {p0 : Int} (hp0 : -2147483648 ≤ p0 ∧ p0 ≤ 2147483647) : xMet l G yX0_placeOfWeight wsX0_placeOfWeight 1 23 0 0 [.ref b, .int (iN (p0))] M (fun r M1 => ∃ z : Int, r = some (.int (iN z)) ∧ M1 = M ∧ 0 ≤ z ∧ z ≤ sz ∧ plW o sz.toNat fk p0 z.toNat) := by
  refine x_intro (cc := cX0_placeOfWeight) (maxL := 6) (ret := (some .int)) (by exact pln_RX0) rfl (Nat.le_of_ble_eq_true rfl) ?_
  intro p e R s m args below meth c ls hRf hRc hRs hRl hC hw hl
  obtain ⟨-, -, -, -, hs0, hs1⟩ := id hB
  have hinX0 : ∀ w ∈ wsX00, w ∈ wsX0_placeOfWeight := fun w h => (List.mem_cons_of_mem _ (List.mem_append_right _ h))
  have hl : lv_has ls 6 [(0, .ref b), (1, .int (iN (p0)))] := hl
  refine x_const hC dX0_placeOfWeight_0 ?_
  refine lv_istore_n (lv' := [(2, .int (iN (0))), (0, .ref b), (1, .int (iN (p0)))]) hC.1 hC.2.1 dX0_placeOfWeight_1 rfl hl (by decide) rfl (fun ls hl => ?_)
  refine lv_aload_n hC.1 hC.2.1 dX0_placeOfWeight_2 rfl (lv_at hl 1 rfl) ?_
  refine x_get hC hw hB.1 rfl hinX0 4 (by decide) (List.mem_cons_of_mem _ (List.mem_append_left _ (List.mem_of_getElem? (i := 0) rfl))) rfl dX0_placeOfWeight_3 ?_
  refine lv_istore_n (lv' := [(3, .int (iN (sz))), (2, .int (iN (0))), (0, .ref b), (1, .int (iN (p0)))]) hC.1 hC.2.1 dX0_placeOfWeight_6 rfl hl (by decide) rfl (fun ls hl => ?_)
  refine x_const hC dX0_placeOfWeight_7 ?_
  refine lv_istore (lv' := [(4, .int (iN (0))), (3, .int (iN (sz))), (2, .int (iN (0))), (0, .ref b), (1, .int (iN (p0)))]) hC.1 hC.2.1 dX0_placeOfWeight_8 hl (by decide) rfl (fun ls hl => ?_)
  suffices hloop10 : ∀ (n9 : Nat) (low : Int) (high : Int) (rd : Int) (H : Heap) (locs : List Loc) (ls : Array Slot), (hmz10 : (101 - rd).toNat < n9) → (hi1 : 0 ≤ low) → (hi2 : low ≤ high) → (hi3 : high ≤ sz) → (hi4 : 0 ≤ rd) → (hi5 : rd + (high - low) ≤ 100) → (hpi : plI o sz.toNat fk p0 low high) → xD G (xA M s.heap.size) s M H locs → lv_has ls 6 [(0, .ref b), (1, .int (iN (p0))), (2, .int (iN (low))), (3, .int (iN (high))), (4, .int (iN (rd)))] → W p l e R s m args below meth c H locs _ _ _ (F0 m 10 ls []) by
    exact hloop10 _ 0 sz 0  _ _ _ (Nat.lt_succ_self _) (by omega) (by omega) (by omega) (by omega) (by omega) (plI_0 (by omega)) hw (lv_sub hl [3, 4, 2, 1, 0] rfl)
  intro n9
  induction n9 with
  | zero => intro low high rd  H locs ls hmz; exact absurd hmz (Nat.not_lt_zero _)
  | succ n9 ih10 =>
    intro low high rd  H locs ls hmz10 hi1 hi2 hi3 hi4 hi5 hpi hw hl
    refine lv_iload hC.1 hC.2.1 dX0_placeOfWeight_10 (lv_at hl 4 rfl) ?_
    refine x_bipush hC dX0_placeOfWeight_12 (by decide +kernel) ?_
    refine x_icmp_ge (tgt := 61) hC ⟨by omega, by omega⟩ ⟨by omega, by omega⟩ dX0_placeOfWeight_14 (by decide) (fun c_1 => ?_) (fun c_1 => ?_)
    · refine lv_iload_n hC.1 hC.2.1 dX0_placeOfWeight_61 rfl (lv_at hl 2 rfl) ?_
      exact x_iret hC hw dX0_placeOfWeight_62 (by first | decide | omega) (by first | decide | omega) ⟨low, rfl, rfl, by omega, by omega, plI.pl hpi (by omega) (by omega) (by omega)⟩
    · refine lv_iload_n hC.1 hC.2.1 dX0_placeOfWeight_17 rfl (lv_at hl 2 rfl) ?_
      refine lv_iload_n hC.1 hC.2.1 dX0_placeOfWeight_18 rfl (lv_at hl 3 rfl) ?_
      refine x_icmp_ge (tgt := 61) hC ⟨by omega, by omega⟩ ⟨by omega, by omega⟩ dX0_placeOfWeight_19 (by decide) (fun c_2 => ?_) (fun c_2 => ?_)
      · refine lv_iload_n hC.1 hC.2.1 dX0_placeOfWeight_61 rfl (lv_at hl 2 rfl) ?_
        exact x_iret hC hw dX0_placeOfWeight_62 (by first | decide | omega) (by first | decide | omega) ⟨low, rfl, rfl, by omega, by omega, plI.pl hpi (by omega) (by omega) (by omega)⟩
      · refine lv_iload_n hC.1 hC.2.1 dX0_placeOfWeight_22 rfl (lv_at hl 2 rfl) ?_
        refine lv_iload_n hC.1 hC.2.1 dX0_placeOfWeight_23 rfl (lv_at hl 3 rfl) ?_
        refine x_iadd hC dX0_placeOfWeight_24 ?_
        refine x_const hC dX0_placeOfWeight_25 ?_
        refine x_idivN hC (by omega) (by omega) (by omega) (by omega) dX0_placeOfWeight_26 ?_
        refine lv_istore (lv' := [(5, .int (iN ((low + high) / 2))), (0, .ref b), (1, .int (iN (p0))), (2, .int (iN (low))), (3, .int (iN (high))), (4, .int (iN (rd)))]) hC.1 hC.2.1 dX0_placeOfWeight_27 hl (by decide) rfl (fun ls hl => ?_)
        refine lv_aload_n hC.1 hC.2.1 dX0_placeOfWeight_29 rfl (lv_at hl 1 rfl) ?_
        refine lv_aload_n hC.1 hC.2.1 dX0_placeOfWeight_30 rfl (lv_at hl 1 rfl) ?_
        refine x_get hC hw hB.1 rfl hinX0 1 (by decide) (List.mem_cons_of_mem _ (List.mem_append_left _ (List.mem_of_getElem? (i := 1) rfl))) rfl dX0_placeOfWeight_31 ?_
        refine lv_iload hC.1 hC.2.1 dX0_placeOfWeight_34 (lv_at hl 0 rfl) ?_
        refine x_iald hC hw hB.2.1 (by omega) (by omega) (by omega) dX0_placeOfWeight_36 ?_
        have hr_3 := iN_rng (fk ((low + high) / 2).toNat)
        refine x_callV hC hw (lv_size hl) (c_X0_weight l G hB (show o < 3 by first | assumption | omega) hV (by first | assumption | omega) (by first | assumption | omega) (p0 := ((fk ((low + high) / 2).toNat).toInt)) (by omega)) gX0_placeOfWeight_X0_weight rfl dv_X0_weight hB.1 rfl rfl (Nat.le_of_ble_eq_true rfl) (by rw [hRf]; decide) (by rw [hRl]; decide) (by first | (rw [hRc]; decide) | omega) (by first | (rw [hRs]; decide) | omega) dX0_placeOfWeight_37 (fun r9 M_4 H locs hq hw => ?_)
        obtain ⟨z_5, rfl, hM9, hz_5, hz_5w⟩ := hq
        rw [hM9] at hw
        show W p l e R s m args below meth c H locs _ _ _ (F0 m 40 ls [.int (iN (z_5))])
        refine lv_iload_n hC.1 hC.2.1 dX0_placeOfWeight_40 rfl (lv_at hl 2 rfl) ?_
        refine x_icmp_ge (tgt := 52) hC ⟨by omega, by omega⟩ ⟨by omega, by omega⟩ dX0_placeOfWeight_41 (by decide) (fun c_6 => ?_) (fun c_6 => ?_)
        · refine lv_iload hC.1 hC.2.1 dX0_placeOfWeight_52 (lv_at hl 0 rfl) ?_
          refine lv_istore_n (lv' := [(3, .int (iN ((low + high) / 2))), (5, .int (iN ((low + high) / 2))), (0, .ref b), (1, .int (iN (p0))), (2, .int (iN (low))), (4, .int (iN (rd)))]) hC.1 hC.2.1 dX0_placeOfWeight_54 rfl hl (by decide) rfl (fun ls hl => ?_)
          refine x_iinc (lv' := [(4, .int (iN (rd + 1))), (3, .int (iN ((low + high) / 2))), (5, .int (iN ((low + high) / 2))), (0, .ref b), (1, .int (iN (p0))), (2, .int (iN (low)))]) hC dX0_placeOfWeight_55 hl (k := 5) rfl (by decide) rfl (fun ls hl => ?_)
          refine lv_goto (tgt := 10) hC.1 hC.2.1 dX0_placeOfWeight_58 (by decide) ?_
          exact ih10 low ((low + high) / 2) (rd + 1)  _ _ _ (by first | exact mu_s hmz10 (by omega) | omega) (by omega) (by omega) (by omega) (by omega) (by omega) (plI.hi hV hpi (by omega) (by omega) (hz_5w (hV.kr ⟨by omega, by omega⟩)) rfl c_6) hw (lv_sub hl [3, 4, 5, 1, 0] rfl)
        · refine lv_iload hC.1 hC.2.1 dX0_placeOfWeight_44 (lv_at hl 0 rfl) ?_
          refine x_const hC dX0_placeOfWeight_46 ?_
          refine x_iadd hC dX0_placeOfWeight_47 ?_
          refine lv_istore_n (lv' := [(2, .int (iN (((low + high) / 2) + 1))), (5, .int (iN ((low + high) / 2))), (0, .ref b), (1, .int (iN (p0))), (3, .int (iN (high))), (4, .int (iN (rd)))]) hC.1 hC.2.1 dX0_placeOfWeight_48 rfl hl (by decide) rfl (fun ls hl => ?_)
          refine lv_goto (tgt := 55) hC.1 hC.2.1 dX0_placeOfWeight_49 (by decide) ?_
          refine x_iinc (lv' := [(4, .int (iN (rd + 1))), (2, .int (iN (((low + high) / 2) + 1))), (5, .int (iN ((low + high) / 2))), (0, .ref b), (1, .int (iN (p0))), (3, .int (iN (high)))]) hC dX0_placeOfWeight_55 hl (k := 5) rfl (by decide) rfl (fun ls hl => ?_)
          refine lv_goto (tgt := 10) hC.1 hC.2.1 dX0_placeOfWeight_58 (by decide) ?_
          exact ih10 (((low + high) / 2) + 1) high (rd + 1)  _ _ _ (by first | exact mu_s hmz10 (by omega) | omega) (by omega) (by omega) (by omega) (by omega) (by omega) (plI.lo hV hpi (by omega) (by omega) (hz_5w (hV.kr ⟨by omega, by omega⟩)) rfl c_6) hw (lv_sub hl [3, 4, 1, 5, 0] rfl)
set_option maxHeartbeats 4000000 in
set_option maxRecDepth 100000 in
theorem c_X0_placeOf (l : Launch) (G : xG) {M : HM} {b k v o : Nat} {no : Int32} {t kc sz : Int} {fk fv : Nat → Int32} {V : Nat → Int} (hB : Bk G M b k v no (iN ((o : Nat) : Int)) (iN (t)) (iN (kc)) sz fk fv) (ho : o < 3) (hV : BV o V sz.toNat fk fv) (htt : 0 ≤ t ∧ t ≤ 1000000) (hkk : 0 ≤ kc ∧ kc ≤ 1000000) {p0 : Int} (hp0 : -2147483648 ≤ p0 ∧ p0 ≤ 2147483647) : xMet l G yX0_placeOf wsX0_placeOf 2 48 0 0 [.ref b, .int (iN (p0))] M (fun r M1 => ∃ z : Int, r = some (.int (iN z)) ∧ M1 = M ∧ 0 ≤ z ∧ z ≤ sz ∧ ((0 ≤ p0 ∧ p0 ≤ 99) → plW o sz.toNat fk (cwN o p0.toNat : Int) z.toNat) ∧ ((0 ≤ p0 ∧ p0 ≤ 99) → (z < sz ∧ (fk z.toNat).toInt = p0 ∧ (fv z.toNat).toInt = V p0.toNat ∧ V p0.toNat ≠ -10000) ∨ (V p0.toNat = -10000 ∧ (z < sz → (fk z.toNat).toInt ≠ p0)))) := by
  refine x_intro (cc := cX0_placeOf) (maxL := 2) (ret := (some .int)) (by exact pln_RX0) rfl (Nat.le_of_ble_eq_true rfl) ?_
  intro p e R s m args below meth c ls hRf hRc hRs hRl hC hw hl
  obtain ⟨-, -, -, -, hs0, hs1⟩ := id hB
  have hl : lv_has ls 2 [(0, .ref b), (1, .int (iN (p0)))] := hl
  refine lv_aload_n hC.1 hC.2.1 dX0_placeOf_0 rfl (lv_at hl 0 rfl) ?_
  refine lv_aload_n hC.1 hC.2.1 dX0_placeOf_1 rfl (lv_at hl 0 rfl) ?_
  refine lv_iload_n hC.1 hC.2.1 dX0_placeOf_2 rfl (lv_at hl 1 rfl) ?_
  refine x_callV hC hw (lv_size hl) (c_X0_weight l G hB (show o < 3 by first | assumption | omega) hV (by first | assumption | omega) (by first | assumption | omega) (p0 := p0) (by first | assumption | omega)) gX0_placeOf_X0_weight rfl dv_X0_weight hB.1 rfl rfl (Nat.le_of_ble_eq_true rfl) (by rw [hRf]; decide) (by rw [hRl]; decide) (by first | (rw [hRc]; decide) | omega) (by first | (rw [hRs]; decide) | omega) dX0_placeOf_3 (fun r9 M_1 H locs hq hw => ?_)
  obtain ⟨z_2, rfl, hM9, hz_2, hz_2w⟩ := hq
  rw [hM9] at hw
  show W p l e R s m args below meth c H locs _ _ _ (F0 m 6 ls [.int (iN (z_2)), .ref b])
  refine x_callV hC hw (lv_size hl) (c_X0_placeOfWeight l G hB (show o < 3 by first | assumption | omega) hV (by first | assumption | omega) (by first | assumption | omega) (p0 := z_2) (by omega)) gX0_placeOf_X0_placeOfWeight rfl dv_X0_placeOfWeight hB.1 rfl rfl (Nat.le_of_ble_eq_true rfl) (by rw [hRf]; decide) (by rw [hRl]; decide) (by first | (rw [hRc]; decide) | omega) (by first | (rw [hRs]; decide) | omega) dX0_placeOf_6 (fun r9 M_3 H locs hq hw => ?_)
  obtain ⟨z_4, rfl, hM9, hz_4a, hz_4b, hz_4p⟩ := hq
  rw [hM9] at hw
  show W p l e R s m args below meth c H locs _ _ _ (F0 m 9 ls [.int (iN (z_4))])
  exact x_iret hC hw dX0_placeOf_9 (by first | decide | omega) (by first | decide | omega) ⟨z_4, rfl, rfl, by omega, by omega, fun q9 => by have e9 := hz_2w q9; rw [← e9]; exact hz_4p, fun q9 => hV.vof ho q9 (by omega) (by have e9 := hz_2w q9; rw [← e9]; exact hz_4p)⟩
set_option maxHeartbeats 4000000 in
set_option maxRecDepth 100000 in
theorem c_X0_placeBehind (l : Launch) (G : xG) {M : HM} {b k v o : Nat} {no : Int32} {t kc sz : Int} {fk fv : Nat → Int32} {V : Nat → Int} (hB : Bk G M b k v no (iN ((o : Nat) : Int)) (iN (t)) (iN (kc)) sz fk fv) (ho : o < 3) (hV : BV o V sz.toNat fk fv) (htt : 0 ≤ t ∧ t ≤ 1000000) (hkk : 0 ≤ kc ∧ kc ≤ 1000000) {p0 : Int} (hp0 : -2147483648 ≤ p0 ∧ p0 ≤ 2147483647) (hok : 0 ≤ p0 ∧ p0 ≤ 99) : xMet l G yX0_placeBehind wsX0_placeBehind 2 48 0 0 [.ref b, .int (iN (p0))] M (fun r M1 => ∃ z : Int, r = some (.int (iN z)) ∧ M1 = M ∧ 0 ≤ z ∧ z ≤ sz ∧ plW o sz.toNat fk ((cwN o p0.toNat : Int) + 1) z.toNat) := by
  refine x_intro (cc := cX0_placeBehind) (maxL := 2) (ret := (some .int)) (by exact pln_RX0) rfl (Nat.le_of_ble_eq_true rfl) ?_
  intro p e R s m args below meth c ls hRf hRc hRs hRl hC hw hl
  obtain ⟨-, -, -, -, hs0, hs1⟩ := id hB
  have hcl := cw_lt ho (show p0.toNat < 100 from tn_lt (by omega) (by decide))
  have hl : lv_has ls 2 [(0, .ref b), (1, .int (iN (p0)))] := hl
  refine lv_aload_n hC.1 hC.2.1 dX0_placeBehind_0 rfl (lv_at hl 0 rfl) ?_
  refine lv_aload_n hC.1 hC.2.1 dX0_placeBehind_1 rfl (lv_at hl 0 rfl) ?_
  refine lv_iload_n hC.1 hC.2.1 dX0_placeBehind_2 rfl (lv_at hl 1 rfl) ?_
  refine x_callV hC hw (lv_size hl) (c_X0_weight l G hB (show o < 3 by first | assumption | omega) hV (by first | assumption | omega) (by first | assumption | omega) (p0 := p0) (by first | assumption | omega)) gX0_placeBehind_X0_weight rfl dv_X0_weight hB.1 rfl rfl (Nat.le_of_ble_eq_true rfl) (by rw [hRf]; decide) (by rw [hRl]; decide) (by first | (rw [hRc]; decide) | omega) (by first | (rw [hRs]; decide) | omega) dX0_placeBehind_3 (fun r9 M_1 H locs hq hw => ?_)
  obtain ⟨z_2, rfl, hM9, hz_2, hz_2w⟩ := hq
  rw [hM9] at hw
  show W p l e R s m args below meth c H locs _ _ _ (F0 m 6 ls [.int (iN (z_2)), .ref b])
  refine x_const hC dX0_placeBehind_6 ?_
  refine x_iadd hC dX0_placeBehind_7 ?_
  refine x_callV hC hw (lv_size hl) (c_X0_placeOfWeight l G hB (show o < 3 by first | assumption | omega) hV (by first | assumption | omega) (by first | assumption | omega) (p0 := (z_2 + 1)) (by omega)) gX0_placeBehind_X0_placeOfWeight rfl dv_X0_placeOfWeight hB.1 rfl rfl (Nat.le_of_ble_eq_true rfl) (by rw [hRf]; decide) (by rw [hRl]; decide) (by first | (rw [hRc]; decide) | omega) (by first | (rw [hRs]; decide) | omega) dX0_placeBehind_8 (fun r9 M_3 H locs hq hw => ?_)
  obtain ⟨z_4, rfl, hM9, hz_4a, hz_4b, hz_4p⟩ := hq
  rw [hM9] at hw
  show W p l e R s m args below meth c H locs _ _ _ (F0 m 11 ls [.int (iN (z_4))])
  exact x_iret hC hw dX0_placeBehind_11 (by first | decide | omega) (by first | decide | omega) ⟨z_4, rfl, rfl, by omega, by omega, by have e9 := hz_2w (by omega); rw [← e9]; exact hz_4p⟩
set_option maxHeartbeats 4000000 in
set_option maxRecDepth 100000 in
theorem c_X0_keyAt (l : Launch) (G : xG) {M : HM} {b k v o : Nat} {no : Int32} {t kc sz : Int} {fk fv : Nat → Int32} {V : Nat → Int} (hB : Bk G M b k v no (iN ((o : Nat) : Int)) (iN (t)) (iN (kc)) sz fk fv) (ho : o < 3) (hV : BV o V sz.toNat fk fv) (htt : 0 ≤ t ∧ t ≤ 1000000) (hkk : 0 ≤ kc ∧ kc ≤ 1000000) {p0 : Int} (hp0 : -2147483648 ≤ p0 ∧ p0 ≤ 2147483647) : xMet l G yX0_keyAt wsX0_keyAt 1 21 0 0 [.ref b, .int (iN (p0))] M (fun r M1 => ∃ z : Int, r = some (.int (iN z)) ∧ M1 = M ∧ (z = -10000 ∨ (0 ≤ z ∧ z ≤ 99)) ∧ ((p0 < 0 ∨ sz ≤ p0) → z = -10000) ∧ (0 ≤ p0 ∧ p0 < sz → z = (fk p0.toNat).toInt ∧ 0 ≤ z ∧ z ≤ 99)) := by
  refine x_intro (cc := cX0_keyAt) (maxL := 2) (ret := (some .int)) (by exact pln_RX0) rfl (Nat.le_of_ble_eq_true rfl) ?_
  intro p e R s m args below meth c ls hRf hRc hRs hRl hC hw hl
  obtain ⟨-, -, -, -, hs0, hs1⟩ := id hB
  have hkr : 0 ≤ p0 ∧ p0 < sz → 0 ≤ (fk (p0).toNat).toInt ∧ (fk (p0).toNat).toInt ≤ 99 := fun h9 => hV.kr h9
  have hinX0 : ∀ w ∈ wsX00, w ∈ wsX0_keyAt := fun w h => (List.mem_cons_of_mem _ (List.mem_append_right _ h))
  have hl : lv_has ls 2 [(0, .ref b), (1, .int (iN (p0)))] := hl
  refine lv_aload_n hC.1 hC.2.1 dX0_keyAt_0 rfl (lv_at hl 0 rfl) ?_
  refine lv_iload_n hC.1 hC.2.1 dX0_keyAt_1 rfl (lv_at hl 1 rfl) ?_
  refine x_callV hC hw (lv_size hl) (c_X0_isPlace l G hB (show o < 3 by first | assumption | omega) hV (by first | assumption | omega) (by first | assumption | omega) (p0 := p0) (by first | assumption | omega)) gX0_keyAt_X0_isPlace rfl dv_X0_isPlace hB.1 rfl rfl (Nat.le_of_ble_eq_true rfl) (by rw [hRf]; decide) (by rw [hRl]; decide) (by first | (rw [hRc]; decide) | omega) (by first | (rw [hRs]; decide) | omega) dX0_keyAt_2 (fun r9 M_1 H locs hq hw => ?_)
  obtain ⟨z_2, rfl, hM9, hz_2⟩ := hq
  rw [hM9] at hw
  show W p l e R s m args below meth c H locs _ _ _ (F0 m 5 ls [.int (iN (z_2))])
  refine x_if_eq (tgt := 17) hC ⟨by omega, by omega⟩ dX0_keyAt_5 (by decide) (fun c_3 => ?_) (fun c_3 => ?_)
  · refine x_sipush hC dX0_keyAt_17 (by decide +kernel) ?_
    exact x_iret hC hw dX0_keyAt_20 (by first | decide | omega) (by first | decide | omega) ⟨(-10000), rfl, rfl, by omega, by omega, by omega⟩
  · refine lv_aload_n hC.1 hC.2.1 dX0_keyAt_8 rfl (lv_at hl 0 rfl) ?_
    refine x_get hC hw hB.1 rfl hinX0 1 (by decide) (List.mem_cons_of_mem _ (List.mem_append_left _ (List.mem_of_getElem? (i := 0) rfl))) rfl dX0_keyAt_9 ?_
    refine lv_iload_n hC.1 hC.2.1 dX0_keyAt_12 rfl (lv_at hl 1 rfl) ?_
    refine x_iald hC hw hB.2.1 (by omega) (by omega) (by omega) dX0_keyAt_13 ?_
    have hr_4 := iN_rng (fk (p0).toNat)
    refine lv_goto (tgt := 20) hC.1 hC.2.1 dX0_keyAt_14 (by decide) ?_
    exact x_iret hC hw dX0_keyAt_20 (by first | decide | omega) (by first | decide | omega) ⟨(fk (p0).toNat).toInt, rfl, rfl, by omega, by omega, by omega⟩
set_option maxHeartbeats 4000000 in
set_option maxRecDepth 100000 in
theorem c_X0_valueAt (l : Launch) (G : xG) {M : HM} {b k v o : Nat} {no : Int32} {t kc sz : Int} {fk fv : Nat → Int32} {V : Nat → Int} (hB : Bk G M b k v no (iN ((o : Nat) : Int)) (iN (t)) (iN (kc)) sz fk fv) (ho : o < 3) (hV : BV o V sz.toNat fk fv) (htt : 0 ≤ t ∧ t ≤ 1000000) (hkk : 0 ≤ kc ∧ kc ≤ 1000000) {p0 : Int} (hp0 : -2147483648 ≤ p0 ∧ p0 ≤ 2147483647) : xMet l G yX0_valueAt wsX0_valueAt 1 21 0 0 [.ref b, .int (iN (p0))] M (fun r M1 => ∃ z : Int, r = some (.int (iN z)) ∧ M1 = M ∧ (-10000 ≤ z ∧ z ≤ 9999) ∧ ((p0 < 0 ∨ sz ≤ p0) → z = -10000) ∧ (0 ≤ p0 ∧ p0 < sz → z = (fv p0.toNat).toInt ∧ -9999 ≤ z ∧ z ≤ 9999)) := by
  refine x_intro (cc := cX0_valueAt) (maxL := 2) (ret := (some .int)) (by exact pln_RX0) rfl (Nat.le_of_ble_eq_true rfl) ?_
  intro p e R s m args below meth c ls hRf hRc hRs hRl hC hw hl
  obtain ⟨-, -, -, -, hs0, hs1⟩ := id hB
  have hvr : 0 ≤ p0 ∧ p0 < sz → (fv (p0).toNat).toInt = V (kN fk (p0).toNat) ∧ -9999 ≤ (fv (p0).toNat).toInt ∧ (fv (p0).toNat).toInt ≤ 9999 := fun h9 => hV.vr' h9
  have hinX0 : ∀ w ∈ wsX00, w ∈ wsX0_valueAt := fun w h => (List.mem_cons_of_mem _ (List.mem_append_right _ h))
  have hl : lv_has ls 2 [(0, .ref b), (1, .int (iN (p0)))] := hl
  refine lv_aload_n hC.1 hC.2.1 dX0_valueAt_0 rfl (lv_at hl 0 rfl) ?_
  refine lv_iload_n hC.1 hC.2.1 dX0_valueAt_1 rfl (lv_at hl 1 rfl) ?_
  refine x_callV hC hw (lv_size hl) (c_X0_isPlace l G hB (show o < 3 by first | assumption | omega) hV (by first | assumption | omega) (by first | assumption | omega) (p0 := p0) (by first | assumption | omega)) gX0_valueAt_X0_isPlace rfl dv_X0_isPlace hB.1 rfl rfl (Nat.le_of_ble_eq_true rfl) (by rw [hRf]; decide) (by rw [hRl]; decide) (by first | (rw [hRc]; decide) | omega) (by first | (rw [hRs]; decide) | omega) dX0_valueAt_2 (fun r9 M_1 H locs hq hw => ?_)
  obtain ⟨z_2, rfl, hM9, hz_2⟩ := hq
  rw [hM9] at hw
  show W p l e R s m args below meth c H locs _ _ _ (F0 m 5 ls [.int (iN (z_2))])
  refine x_if_eq (tgt := 17) hC ⟨by omega, by omega⟩ dX0_valueAt_5 (by decide) (fun c_3 => ?_) (fun c_3 => ?_)
  · refine x_sipush hC dX0_valueAt_17 (by decide +kernel) ?_
    exact x_iret hC hw dX0_valueAt_20 (by first | decide | omega) (by first | decide | omega) ⟨(-10000), rfl, rfl, by omega, by omega, by omega⟩
  · refine lv_aload_n hC.1 hC.2.1 dX0_valueAt_8 rfl (lv_at hl 0 rfl) ?_
    refine x_get hC hw hB.1 rfl hinX0 2 (by decide) (List.mem_cons_of_mem _ (List.mem_append_left _ (List.mem_of_getElem? (i := 0) rfl))) rfl dX0_valueAt_9 ?_
    refine lv_iload_n hC.1 hC.2.1 dX0_valueAt_12 rfl (lv_at hl 1 rfl) ?_
    refine x_iald hC hw hB.2.2.1 (by omega) (by omega) (by omega) dX0_valueAt_13 ?_
    have hr_4 := iN_rng (fv (p0).toNat)
    refine lv_goto (tgt := 20) hC.1 hC.2.1 dX0_valueAt_14 (by decide) ?_
    exact x_iret hC hw dX0_valueAt_20 (by first | decide | omega) (by first | decide | omega) ⟨(fv (p0).toNat).toInt, rfl, rfl, by omega, by omega, by omega⟩
set_option maxHeartbeats 4000000 in
set_option maxRecDepth 100000 in
theorem c_X0_valueOf (l : Launch) (G : xG) {M : HM} {b k v o : Nat} {no : Int32} {t kc sz : Int} {fk fv : Nat → Int32} {V : Nat → Int} (hB : Bk G M b k v no (iN ((o : Nat) : Int)) (iN (t)) (iN (kc)) sz fk fv) (ho : o < 3) (hV : BV o V sz.toNat fk fv) (htt : 0 ≤ t ∧ t ≤ 1000000) (hkk : 0 ≤ kc ∧ kc ≤ 1000000) {p0 : Int} (hp0 : -2147483648 ≤ p0 ∧ p0 ≤ 2147483647) : xMet l G yX0_valueOf wsX0_valueOf 3 69 0 0 [.ref b, .int (iN (p0))] M (fun r M1 => ∃ z : Int, r = some (.int (iN z)) ∧ M1 = M ∧ (-10000 ≤ z ∧ z ≤ 9999) ∧ ((0 ≤ p0 ∧ p0 ≤ 99) → z = V p0.toNat) ∧ (p0 = -10000 → z = -10000)) := by
  refine x_intro (cc := cX0_valueOf) (maxL := 3) (ret := (some .int)) (by exact pln_RX0) rfl (Nat.le_of_ble_eq_true rfl) ?_
  intro p e R s m args below meth c ls hRf hRc hRs hRl hC hw hl
  obtain ⟨-, -, -, -, hs0, hs1⟩ := id hB
  have hl : lv_has ls 3 [(0, .ref b), (1, .int (iN (p0)))] := hl
  refine lv_aload_n hC.1 hC.2.1 dX0_valueOf_0 rfl (lv_at hl 0 rfl) ?_
  refine lv_iload_n hC.1 hC.2.1 dX0_valueOf_1 rfl (lv_at hl 1 rfl) ?_
  refine x_callV hC hw (lv_size hl) (c_X0_placeOf l G hB (show o < 3 by first | assumption | omega) hV (by first | assumption | omega) (by first | assumption | omega) (p0 := p0) (by first | assumption | omega)) gX0_valueOf_X0_placeOf rfl dv_X0_placeOf hB.1 rfl rfl (Nat.le_of_ble_eq_true rfl) (by rw [hRf]; decide) (by rw [hRl]; decide) (by first | (rw [hRc]; decide) | omega) (by first | (rw [hRs]; decide) | omega) dX0_valueOf_2 (fun r9 M_1 H locs hq hw => ?_)
  obtain ⟨z_2, rfl, hM9, hz_2a, hz_2b, hz_2p, hz_2v⟩ := hq
  rw [hM9] at hw
  show W p l e R s m args below meth c H locs _ _ _ (F0 m 5 ls [.int (iN (z_2))])
  refine lv_istore_n (lv' := [(2, .int (iN (z_2))), (0, .ref b), (1, .int (iN (p0)))]) hC.1 hC.2.1 dX0_valueOf_5 rfl hl (by decide) rfl (fun ls hl => ?_)
  refine lv_aload_n hC.1 hC.2.1 dX0_valueOf_6 rfl (lv_at hl 1 rfl) ?_
  refine lv_iload_n hC.1 hC.2.1 dX0_valueOf_7 rfl (lv_at hl 0 rfl) ?_
  refine x_callV hC hw (lv_size hl) (c_X0_keyAt l G hB (show o < 3 by first | assumption | omega) hV (by first | assumption | omega) (by first | assumption | omega) (p0 := z_2) (by omega)) gX0_valueOf_X0_keyAt rfl dv_X0_keyAt hB.1 rfl rfl (Nat.le_of_ble_eq_true rfl) (by rw [hRf]; decide) (by rw [hRl]; decide) (by first | (rw [hRc]; decide) | omega) (by first | (rw [hRs]; decide) | omega) dX0_valueOf_8 (fun r9 M_3 H locs hq hw => ?_)
  obtain ⟨z_4, rfl, hM9, hz_4, hz_4b, hz_4k⟩ := hq
  rw [hM9] at hw
  show W p l e R s m args below meth c H locs _ _ _ (F0 m 11 ls [.int (iN (z_4))])
  refine lv_iload_n hC.1 hC.2.1 dX0_valueOf_11 rfl (lv_at hl 2 rfl) ?_
  refine x_icmp_ne (tgt := 23) hC ⟨by omega, by omega⟩ ⟨by omega, by omega⟩ dX0_valueOf_12 (by decide) (fun c_5 => ?_) (fun c_5 => ?_)
  · refine x_sipush hC dX0_valueOf_23 (by decide +kernel) ?_
    exact x_iret hC hw dX0_valueOf_26 (by first | decide | omega) (by first | decide | omega) ⟨(-10000), rfl, rfl, by omega, by omega, by omega⟩
  · refine lv_aload_n hC.1 hC.2.1 dX0_valueOf_15 rfl (lv_at hl 1 rfl) ?_
    refine lv_iload_n hC.1 hC.2.1 dX0_valueOf_16 rfl (lv_at hl 0 rfl) ?_
    refine x_callV hC hw (lv_size hl) (c_X0_valueAt l G hB (show o < 3 by first | assumption | omega) hV (by first | assumption | omega) (by first | assumption | omega) (p0 := z_2) (by omega)) gX0_valueOf_X0_valueAt rfl dv_X0_valueAt hB.1 rfl rfl (Nat.le_of_ble_eq_true rfl) (by rw [hRf]; decide) (by rw [hRl]; decide) (by first | (rw [hRc]; decide) | omega) (by first | (rw [hRs]; decide) | omega) dX0_valueOf_17 (fun r9 M_6 H locs hq hw => ?_)
    obtain ⟨z_7, rfl, hM9, hz_7, hz_7b, hz_7k⟩ := hq
    rw [hM9] at hw
    show W p l e R s m args below meth c H locs _ _ _ (F0 m 20 ls [.int (iN (z_7))])
    refine lv_goto (tgt := 26) hC.1 hC.2.1 dX0_valueOf_20 (by decide) ?_
    exact x_iret hC hw dX0_valueOf_26 (by first | decide | omega) (by first | decide | omega) ⟨z_7, rfl, rfl, by omega, by omega, by omega⟩
set_option maxHeartbeats 4000000 in
set_option maxRecDepth 100000 in
theorem c_X0_holds (l : Launch) (G : xG) {M : HM} {b k v o : Nat} {no : Int32} {t kc sz : Int} {fk fv : Nat → Int32} {V : Nat → Int} (hB : Bk G M b k v no (iN ((o : Nat) : Int)) (iN (t)) (iN (kc)) sz fk fv) (ho : o < 3) (hV : BV o V sz.toNat fk fv) (htt : 0 ≤ t ∧ t ≤ 1000000) (hkk : 0 ≤ kc ∧ kc ≤ 1000000) {p0 : Int} (hp0 : -2147483648 ≤ p0 ∧ p0 ≤ 2147483647) : xMet l G yX0_holds wsX0_holds 4 91 0 0 [.ref b, .int (iN (p0))] M (fun r M1 => ∃ z : Int, r = some (.int (iN z)) ∧ M1 = M ∧ (z = 0 ∨ z = 1) ∧ ((0 ≤ p0 ∧ p0 ≤ 99) → (z = 1 ↔ V p0.toNat ≠ -10000))) := by
  refine x_intro (cc := cX0_holds) (maxL := 2) (ret := (some .boolean)) (by exact pln_RX0) rfl (Nat.le_of_ble_eq_true rfl) ?_
  intro p e R s m args below meth c ls hRf hRc hRs hRl hC hw hl
  obtain ⟨-, -, -, -, hs0, hs1⟩ := id hB
  have hl : lv_has ls 2 [(0, .ref b), (1, .int (iN (p0)))] := hl
  refine lv_aload_n hC.1 hC.2.1 dX0_holds_0 rfl (lv_at hl 0 rfl) ?_
  refine lv_iload_n hC.1 hC.2.1 dX0_holds_1 rfl (lv_at hl 1 rfl) ?_
  refine x_callV hC hw (lv_size hl) (c_X0_valueOf l G hB (show o < 3 by first | assumption | omega) hV (by first | assumption | omega) (by first | assumption | omega) (p0 := p0) (by first | assumption | omega)) gX0_holds_X0_valueOf rfl dv_X0_valueOf hB.1 rfl rfl (Nat.le_of_ble_eq_true rfl) (by rw [hRf]; decide) (by rw [hRl]; decide) (by first | (rw [hRc]; decide) | omega) (by first | (rw [hRs]; decide) | omega) dX0_holds_2 (fun r9 M_1 H locs hq hw => ?_)
  obtain ⟨z_2, rfl, hM9, hz_2, hz_2v, hz_2n⟩ := hq
  rw [hM9] at hw
  show W p l e R s m args below meth c H locs _ _ _ (F0 m 5 ls [.int (iN (z_2))])
  refine x_sipush hC dX0_holds_5 (by decide +kernel) ?_
  refine x_icmp_eq (tgt := 15) hC ⟨by omega, by omega⟩ ⟨by omega, by omega⟩ dX0_holds_8 (by decide) (fun c_3 => ?_) (fun c_3 => ?_)
  · refine x_const hC dX0_holds_15 ?_
    exact x_zret hC hw (by omega) dX0_holds_16 (by first | decide | omega) (by first | decide | omega) ⟨0, rfl, rfl, by omega, by omega⟩
  · refine x_const hC dX0_holds_11 ?_
    refine lv_goto (tgt := 16) hC.1 hC.2.1 dX0_holds_12 (by decide) ?_
    exact x_zret hC hw (by omega) dX0_holds_16 (by first | decide | omega) (by first | decide | omega) ⟨1, rfl, rfl, by omega, by omega⟩
set_option maxHeartbeats 4000000 in
set_option maxRecDepth 100000 in
theorem c_X0_firstPlaceOfValue (l : Launch) (G : xG) {M : HM} {b k v o : Nat} {no : Int32} {t kc sz : Int} {fk fv : Nat → Int32} {V : Nat → Int} (hB : Bk G M b k v no (iN ((o : Nat) : Int)) (iN (t)) (iN (kc)) sz fk fv) (ho : o < 3) (hV : BV o V sz.toNat fk fv) (htt : 0 ≤ t ∧ t ≤ 1000000) (hkk : 0 ≤ kc ∧ kc ≤ 1000000) {p0 : Int} (hp0 : -2147483648 ≤ p0 ∧ p0 ≤ 2147483647) : xMet l G yX0_firstPlaceOfValue wsX0_firstPlaceOfValue 0 0 0 0 [.ref b, .int (iN (p0))] M (fun r M1 => ∃ z : Int, r = some (.int (iN z)) ∧ M1 = M ∧ (z = -10000 ∨ (0 ≤ z ∧ z < sz)) ∧ ((z = -10000 ∧ ∀ q : Nat, (q : Int) < sz → (fv q).toInt ≠ p0) ∨ ((0 ≤ z ∧ z < sz) ∧ (fv z.toNat).toInt = p0 ∧ ∀ q : Nat, (q : Int) < z → (fv q).toInt ≠ p0))) := by
  refine x_intro (cc := cX0_firstPlaceOfValue) (maxL := 3) (ret := (some .int)) (by exact pln_RX0) rfl (Nat.le_of_ble_eq_true rfl) ?_
  intro p e R s m args below meth c ls hRf hRc hRs hRl hC hw hl
  obtain ⟨-, -, -, -, hs0, hs1⟩ := id hB
  have hinX0 : ∀ w ∈ wsX00, w ∈ wsX0_firstPlaceOfValue := fun w h => (List.mem_cons_of_mem _ (List.mem_append_right _ h))
  have hl : lv_has ls 3 [(0, .ref b), (1, .int (iN (p0)))] := hl
  refine x_const hC dX0_firstPlaceOfValue_0 ?_
  refine lv_istore_n (lv' := [(2, .int (iN (0))), (0, .ref b), (1, .int (iN (p0)))]) hC.1 hC.2.1 dX0_firstPlaceOfValue_1 rfl hl (by decide) rfl (fun ls hl => ?_)
  suffices hloop2 : ∀ (n9 : Nat) (pl : Int) (H : Heap) (locs : List Loc) (ls : Array Slot), (hmz2 : (sz - pl).toNat < n9) → (hi0 : 0 ≤ pl) → (hi1 : pl ≤ sz) → (hnv : ∀ q : Nat, (q : Int) < pl → (fv q).toInt ≠ p0) → xD G (xA M s.heap.size) s M H locs → lv_has ls 3 [(0, .ref b), (1, .int (iN (p0))), (2, .int (iN (pl)))] → W p l e R s m args below meth c H locs _ _ _ (F0 m 2 ls []) by
    exact hloop2 _ 0  _ _ _ (Nat.lt_succ_self _) (by omega) (by omega) (fun q9 hq9 => absurd hq9 (by omega)) hw (lv_sub hl [1, 2, 0] rfl)
  intro n9
  induction n9 with
  | zero => intro pl  H locs ls hmz; exact absurd hmz (Nat.not_lt_zero _)
  | succ n9 ih2 =>
    intro pl  H locs ls hmz2 hi0 hi1 hnv hw hl
    refine lv_iload_n hC.1 hC.2.1 dX0_firstPlaceOfValue_2 rfl (lv_at hl 2 rfl) ?_
    refine lv_aload_n hC.1 hC.2.1 dX0_firstPlaceOfValue_3 rfl (lv_at hl 0 rfl) ?_
    refine x_get hC hw hB.1 rfl hinX0 4 (by decide) (List.mem_cons_of_mem _ (List.mem_append_left _ (List.mem_of_getElem? (i := 0) rfl))) rfl dX0_firstPlaceOfValue_4 ?_
    refine x_icmp_ge (tgt := 28) hC ⟨by omega, by omega⟩ ⟨by omega, by omega⟩ dX0_firstPlaceOfValue_7 (by decide) (fun c_1 => ?_) (fun c_1 => ?_)
    · refine x_sipush hC dX0_firstPlaceOfValue_28 (by decide +kernel) ?_
      exact x_iret hC hw dX0_firstPlaceOfValue_31 (by first | decide | omega) (by first | decide | omega) ⟨(-10000), rfl, rfl, by omega, Or.inl ⟨rfl, fun q9 hq9 => hnv q9 (by omega)⟩⟩
    · refine lv_aload_n hC.1 hC.2.1 dX0_firstPlaceOfValue_10 rfl (lv_at hl 0 rfl) ?_
      refine x_get hC hw hB.1 rfl hinX0 2 (by decide) (List.mem_cons_of_mem _ (List.mem_append_left _ (List.mem_of_getElem? (i := 1) rfl))) rfl dX0_firstPlaceOfValue_11 ?_
      refine lv_iload_n hC.1 hC.2.1 dX0_firstPlaceOfValue_14 rfl (lv_at hl 2 rfl) ?_
      refine x_iald hC hw hB.2.2.1 (by omega) (by omega) (by omega) dX0_firstPlaceOfValue_15 ?_
      have hr_2 := iN_rng (fv (pl).toNat)
      refine lv_iload_n hC.1 hC.2.1 dX0_firstPlaceOfValue_16 rfl (lv_at hl 1 rfl) ?_
      refine x_icmp_ne (tgt := 22) hC ⟨by omega, by omega⟩ ⟨by omega, by omega⟩ dX0_firstPlaceOfValue_17 (by decide) (fun c_3 => ?_) (fun c_3 => ?_)
      · refine x_iinc (lv' := [(2, .int (iN (pl + 1))), (0, .ref b), (1, .int (iN (p0)))]) hC dX0_firstPlaceOfValue_22 hl (k := 2) rfl (by decide) rfl (fun ls hl => ?_)
        refine lv_goto (tgt := 2) hC.1 hC.2.1 dX0_firstPlaceOfValue_25 (by decide) ?_
        exact ih2 (pl + 1)  _ _ _ (by first | exact mu_s hmz2 (by omega) | omega) (by omega) (by omega) (fun q9 hq9 => by by_cases e9 : (q9 : Int) < pl; (· exact hnv q9 e9); (· rw [show q9 = (pl).toNat by omega]; omega)) hw (lv_sub hl [1, 2, 0] rfl)
      · refine lv_iload_n hC.1 hC.2.1 dX0_firstPlaceOfValue_20 rfl (lv_at hl 2 rfl) ?_
        exact x_iret hC hw dX0_firstPlaceOfValue_21 (by first | decide | omega) (by first | decide | omega) ⟨pl, rfl, rfl, by omega, Or.inr ⟨by omega, by omega, hnv⟩⟩
set_option maxHeartbeats 4000000 in
set_option maxRecDepth 100000 in
theorem c_X0_countOfValue (l : Launch) (G : xG) {M : HM} {b k v o : Nat} {no : Int32} {t kc sz : Int} {fk fv : Nat → Int32} {V : Nat → Int} (hB : Bk G M b k v no (iN ((o : Nat) : Int)) (iN (t)) (iN (kc)) sz fk fv) (ho : o < 3) (hV : BV o V sz.toNat fk fv) (htt : 0 ≤ t ∧ t ≤ 1000000) (hkk : 0 ≤ kc ∧ kc ≤ 1000000) {p0 : Int} (hp0 : -2147483648 ≤ p0 ∧ p0 ≤ 2147483647) : xMet l G yX0_countOfValue wsX0_countOfValue 0 0 0 0 [.ref b, .int (iN (p0))] M (fun r M1 => ∃ z : Int, r = some (.int (iN z)) ∧ M1 = M ∧ 0 ≤ z ∧ z ≤ sz ∧ z = cvP fv p0 sz.toNat) := by
  refine x_intro (cc := cX0_countOfValue) (maxL := 4) (ret := (some .int)) (by exact pln_RX0) rfl (Nat.le_of_ble_eq_true rfl) ?_
  intro p e R s m args below meth c ls hRf hRc hRs hRl hC hw hl
  obtain ⟨-, -, -, -, hs0, hs1⟩ := id hB
  have hinX0 : ∀ w ∈ wsX00, w ∈ wsX0_countOfValue := fun w h => (List.mem_cons_of_mem _ (List.mem_append_right _ h))
  have hl : lv_has ls 4 [(0, .ref b), (1, .int (iN (p0)))] := hl
  refine x_const hC dX0_countOfValue_0 ?_
  refine lv_istore_n (lv' := [(2, .int (iN (0))), (0, .ref b), (1, .int (iN (p0)))]) hC.1 hC.2.1 dX0_countOfValue_1 rfl hl (by decide) rfl (fun ls hl => ?_)
  refine x_const hC dX0_countOfValue_2 ?_
  refine lv_istore_n (lv' := [(3, .int (iN (0))), (2, .int (iN (0))), (0, .ref b), (1, .int (iN (p0)))]) hC.1 hC.2.1 dX0_countOfValue_3 rfl hl (by decide) rfl (fun ls hl => ?_)
  suffices hloop4 : ∀ (n9 : Nat) (cn : Int) (pl : Int) (H : Heap) (locs : List Loc) (ls : Array Slot), (hmz4 : (sz - pl).toNat < n9) → (hi0 : 0 ≤ pl) → (hi1 : pl ≤ sz) → (hi2 : 0 ≤ cn) → (hi3 : cn ≤ pl) → (hcv : cn = cvP fv p0 pl.toNat) → xD G (xA M s.heap.size) s M H locs → lv_has ls 4 [(0, .ref b), (1, .int (iN (p0))), (2, .int (iN (cn))), (3, .int (iN (pl)))] → W p l e R s m args below meth c H locs _ _ _ (F0 m 4 ls []) by
    exact hloop4 _ 0 0  _ _ _ (Nat.lt_succ_self _) (by omega) (by omega) (by omega) (by omega) (rfl) hw (lv_sub hl [2, 3, 1, 0] rfl)
  intro n9
  induction n9 with
  | zero => intro cn pl  H locs ls hmz; exact absurd hmz (Nat.not_lt_zero _)
  | succ n9 ih4 =>
    intro cn pl  H locs ls hmz4 hi0 hi1 hi2 hi3 hcv hw hl
    refine lv_iload_n hC.1 hC.2.1 dX0_countOfValue_4 rfl (lv_at hl 3 rfl) ?_
    refine lv_aload_n hC.1 hC.2.1 dX0_countOfValue_5 rfl (lv_at hl 0 rfl) ?_
    refine x_get hC hw hB.1 rfl hinX0 4 (by decide) (List.mem_cons_of_mem _ (List.mem_append_left _ (List.mem_of_getElem? (i := 0) rfl))) rfl dX0_countOfValue_6 ?_
    refine x_icmp_ge (tgt := 31) hC ⟨by omega, by omega⟩ ⟨by omega, by omega⟩ dX0_countOfValue_9 (by decide) (fun c_1 => ?_) (fun c_1 => ?_)
    · refine lv_iload_n hC.1 hC.2.1 dX0_countOfValue_31 rfl (lv_at hl 2 rfl) ?_
      exact x_iret hC hw dX0_countOfValue_32 (by first | decide | omega) (by first | decide | omega) ⟨cn, rfl, rfl, by omega, by omega, by rw [show sz = pl by omega]; exact hcv⟩
    · refine lv_aload_n hC.1 hC.2.1 dX0_countOfValue_12 rfl (lv_at hl 0 rfl) ?_
      refine x_get hC hw hB.1 rfl hinX0 2 (by decide) (List.mem_cons_of_mem _ (List.mem_append_left _ (List.mem_of_getElem? (i := 1) rfl))) rfl dX0_countOfValue_13 ?_
      refine lv_iload_n hC.1 hC.2.1 dX0_countOfValue_16 rfl (lv_at hl 3 rfl) ?_
      refine x_iald hC hw hB.2.2.1 (by omega) (by omega) (by omega) dX0_countOfValue_17 ?_
      have hr_2 := iN_rng (fv (pl).toNat)
      refine lv_iload_n hC.1 hC.2.1 dX0_countOfValue_18 rfl (lv_at hl 1 rfl) ?_
      refine x_icmp_ne (tgt := 25) hC ⟨by omega, by omega⟩ ⟨by omega, by omega⟩ dX0_countOfValue_19 (by decide) (fun c_3 => ?_) (fun c_3 => ?_)
      · refine x_iinc (lv' := [(3, .int (iN (pl + 1))), (0, .ref b), (1, .int (iN (p0))), (2, .int (iN (cn)))]) hC dX0_countOfValue_25 hl (k := 3) rfl (by decide) rfl (fun ls hl => ?_)
        refine lv_goto (tgt := 4) hC.1 hC.2.1 dX0_countOfValue_28 (by decide) ?_
        exact ih4 cn (pl + 1)  _ _ _ (by first | exact mu_s hmz4 (by omega) | omega) (by omega) (by omega) (by omega) (by omega) (by rw [cvP_s (by omega) rfl]; split <;> omega) hw (lv_sub hl [1, 2, 3, 0] rfl)
      · refine x_iinc (lv' := [(2, .int (iN (cn + 1))), (0, .ref b), (1, .int (iN (p0))), (3, .int (iN (pl)))]) hC dX0_countOfValue_22 hl (k := 2) rfl (by decide) rfl (fun ls hl => ?_)
        refine x_iinc (lv' := [(3, .int (iN (pl + 1))), (2, .int (iN (cn + 1))), (0, .ref b), (1, .int (iN (p0)))]) hC dX0_countOfValue_25 hl (k := 3) rfl (by decide) rfl (fun ls hl => ?_)
        refine lv_goto (tgt := 4) hC.1 hC.2.1 dX0_countOfValue_28 (by decide) ?_
        exact ih4 (cn + 1) (pl + 1)  _ _ _ (by first | exact mu_s hmz4 (by omega) | omega) (by omega) (by omega) (by omega) (by omega) (by rw [cvP_s (by omega) rfl]; split <;> omega) hw (lv_sub hl [2, 3, 1, 0] rfl)
set_option maxHeartbeats 4000000 in
set_option maxRecDepth 100000 in
theorem c_X0_unlikeValues (l : Launch) (G : xG) {M : HM} {b k v o : Nat} {no : Int32} {t kc sz : Int} {fk fv : Nat → Int32} {V : Nat → Int} (hB : Bk G M b k v no (iN ((o : Nat) : Int)) (iN (t)) (iN (kc)) sz fk fv) (ho : o < 3) (hV : BV o V sz.toNat fk fv) (htt : 0 ≤ t ∧ t ≤ 1000000) (hkk : 0 ≤ kc ∧ kc ≤ 1000000) : xMet l G yX0_unlikeValues wsX0_unlikeValues 1 22 0 0 [.ref b] M (fun r M1 => ∃ z : Int, r = some (.int (iN z)) ∧ M1 = M ∧ (0 ≤ z ∧ z ≤ 100) ∧ z = unP fv sz.toNat) := by
  refine x_intro (cc := cX0_unlikeValues) (maxL := 3) (ret := (some .int)) (by exact pln_RX0) rfl (Nat.le_of_ble_eq_true rfl) ?_
  intro p e R s m args below meth c ls hRf hRc hRs hRl hC hw hl
  obtain ⟨-, -, -, -, hs0, hs1⟩ := id hB
  have hinX0 : ∀ w ∈ wsX00, w ∈ wsX0_unlikeValues := fun w h => (List.mem_cons_of_mem _ (List.mem_append_right _ h))
  have hl : lv_has ls 3 [(0, .ref b)] := hl
  refine x_const hC dX0_unlikeValues_0 ?_
  refine lv_istore_n (lv' := [(1, .int (iN (0))), (0, .ref b)]) hC.1 hC.2.1 dX0_unlikeValues_1 rfl hl (by decide) rfl (fun ls hl => ?_)
  refine x_const hC dX0_unlikeValues_2 ?_
  refine lv_istore_n (lv' := [(2, .int (iN (0))), (1, .int (iN (0))), (0, .ref b)]) hC.1 hC.2.1 dX0_unlikeValues_3 rfl hl (by decide) rfl (fun ls hl => ?_)
  suffices hloop4 : ∀ (n9 : Nat) (cn : Int) (pl : Int) (H : Heap) (locs : List Loc) (ls : Array Slot), (hmz4 : (sz - pl).toNat < n9) → (hi0 : 0 ≤ pl) → (hi1 : pl ≤ sz) → (hi2 : 0 ≤ cn) → (hi3 : cn ≤ pl) → (hcv : cn = unP fv pl.toNat) → xD G (xA M s.heap.size) s M H locs → lv_has ls 3 [(0, .ref b), (1, .int (iN (cn))), (2, .int (iN (pl)))] → W p l e R s m args below meth c H locs _ _ _ (F0 m 4 ls []) by
    exact hloop4 _ 0 0  _ _ _ (Nat.lt_succ_self _) (by omega) (by omega) (by omega) (by omega) (rfl) hw (lv_sub hl [2, 1, 0] rfl)
  intro n9
  induction n9 with
  | zero => intro cn pl  H locs ls hmz; exact absurd hmz (Nat.not_lt_zero _)
  | succ n9 ih4 =>
    intro cn pl  H locs ls hmz4 hi0 hi1 hi2 hi3 hcv hw hl
    refine lv_iload_n hC.1 hC.2.1 dX0_unlikeValues_4 rfl (lv_at hl 2 rfl) ?_
    refine lv_aload_n hC.1 hC.2.1 dX0_unlikeValues_5 rfl (lv_at hl 0 rfl) ?_
    refine x_get hC hw hB.1 rfl hinX0 4 (by decide) (List.mem_cons_of_mem _ (List.mem_append_left _ (List.mem_of_getElem? (i := 0) rfl))) rfl dX0_unlikeValues_6 ?_
    refine x_icmp_ge (tgt := 35) hC ⟨by omega, by omega⟩ ⟨by omega, by omega⟩ dX0_unlikeValues_9 (by decide) (fun c_1 => ?_) (fun c_1 => ?_)
    · refine lv_iload_n hC.1 hC.2.1 dX0_unlikeValues_35 rfl (lv_at hl 1 rfl) ?_
      exact x_iret hC hw dX0_unlikeValues_36 (by first | decide | omega) (by first | decide | omega) ⟨cn, rfl, rfl, by omega, by rw [show sz = pl by omega]; exact hcv⟩
    · refine lv_aload_n hC.1 hC.2.1 dX0_unlikeValues_12 rfl (lv_at hl 0 rfl) ?_
      refine lv_aload_n hC.1 hC.2.1 dX0_unlikeValues_13 rfl (lv_at hl 0 rfl) ?_
      refine x_get hC hw hB.1 rfl hinX0 2 (by decide) (List.mem_cons_of_mem _ (List.mem_append_left _ (List.mem_of_getElem? (i := 1) rfl))) rfl dX0_unlikeValues_14 ?_
      refine lv_iload_n hC.1 hC.2.1 dX0_unlikeValues_17 rfl (lv_at hl 2 rfl) ?_
      refine x_iald hC hw hB.2.2.1 (by omega) (by omega) (by omega) dX0_unlikeValues_18 ?_
      have hr_2 := iN_rng (fv (pl).toNat)
      refine x_callV hC hw (lv_size hl) (c_X0_firstPlaceOfValue l G hB (show o < 3 by first | assumption | omega) hV (by first | assumption | omega) (by first | assumption | omega) (p0 := ((fv (pl).toNat).toInt)) (by omega)) gX0_unlikeValues_X0_firstPlaceOfValue rfl dv_X0_firstPlaceOfValue hB.1 rfl rfl (Nat.le_of_ble_eq_true rfl) (by rw [hRf]; decide) (by rw [hRl]; decide) (by first | (rw [hRc]; decide) | omega) (by first | (rw [hRs]; decide) | omega) dX0_unlikeValues_19 (fun r9 M_3 H locs hq hw => ?_)
      obtain ⟨z_4, rfl, hM9, hz_4, hz_4f⟩ := hq
      rw [hM9] at hw
      show W p l e R s m args below meth c H locs _ _ _ (F0 m 22 ls [.int (iN (z_4))])
      refine lv_iload_n hC.1 hC.2.1 dX0_unlikeValues_22 rfl (lv_at hl 2 rfl) ?_
      refine x_icmp_ne (tgt := 29) hC ⟨by omega, by omega⟩ ⟨by omega, by omega⟩ dX0_unlikeValues_23 (by decide) (fun c_5 => ?_) (fun c_5 => ?_)
      · refine x_iinc (lv' := [(2, .int (iN (pl + 1))), (0, .ref b), (1, .int (iN (cn)))]) hC dX0_unlikeValues_29 hl (k := 2) rfl (by decide) rfl (fun ls hl => ?_)
        refine lv_goto (tgt := 4) hC.1 hC.2.1 dX0_unlikeValues_32 (by decide) ?_
        exact ih4 cn (pl + 1)  _ _ _ (by first | exact mu_s hmz4 (by omega) | omega) (by omega) (by omega) (by omega) (by omega) (unP_s (by omega) (by omega) hcv hz_4f rfl (by omega)) hw (lv_sub hl [1, 2, 0] rfl)
      · refine x_iinc (lv' := [(1, .int (iN (cn + 1))), (0, .ref b), (2, .int (iN (pl)))]) hC dX0_unlikeValues_26 hl (k := 1) rfl (by decide) rfl (fun ls hl => ?_)
        refine x_iinc (lv' := [(2, .int (iN (pl + 1))), (1, .int (iN (cn + 1))), (0, .ref b)]) hC dX0_unlikeValues_29 hl (k := 2) rfl (by decide) rfl (fun ls hl => ?_)
        refine lv_goto (tgt := 4) hC.1 hC.2.1 dX0_unlikeValues_32 (by decide) ?_
        exact ih4 (cn + 1) (pl + 1)  _ _ _ (by first | exact mu_s hmz4 (by omega) | omega) (by omega) (by omega) (by omega) (by omega) (unP_s (by omega) (by omega) hcv hz_4f rfl (by omega)) hw (lv_sub hl [2, 1, 0] rfl)
set_option maxHeartbeats 4000000 in
set_option maxRecDepth 100000 in
theorem c_X0_sum (l : Launch) (G : xG) {M : HM} {b k v o : Nat} {no : Int32} {t kc sz : Int} {fk fv : Nat → Int32} {V : Nat → Int} (hB : Bk G M b k v no (iN ((o : Nat) : Int)) (iN (t)) (iN (kc)) sz fk fv) (ho : o < 3) (hV : BV o V sz.toNat fk fv) (htt : 0 ≤ t ∧ t ≤ 1000000) (hkk : 0 ≤ kc ∧ kc ≤ 1000000) {p0 : Int} (hp0 : -2147483648 ≤ p0 ∧ p0 ≤ 2147483647) {p1 : Int} (hp1 : -2147483648 ≤ p1 ∧ p1 ≤ 2147483647) (ho1 : 0 ≤ p0) (ho2 : p1 ≤ sz) : xMet l G yX0_sum wsX0_sum 1 21 0 0 [.ref b, .int (iN (p0)), .int (iN (p1))] M (fun r M1 => ∃ z : Int, r = some (.int (iN z)) ∧ M1 = M ∧ (-1000000 ≤ z ∧ z ≤ 1000000) ∧ (p0 ≤ p1 → z = smP fv p0 p1.toNat) ∧ (p1 ≤ p0 → z = 0)) := by
  refine x_intro (cc := cX0_sum) (maxL := 5) (ret := (some .int)) (by exact pln_RX0) rfl (Nat.le_of_ble_eq_true rfl) ?_
  intro p e R s m args below meth c ls hRf hRc hRs hRl hC hw hl
  obtain ⟨-, -, -, -, hs0, hs1⟩ := id hB
  have hinX0 : ∀ w ∈ wsX00, w ∈ wsX0_sum := fun w h => (List.mem_cons_of_mem _ (List.mem_append_right _ h))
  have hl : lv_has ls 5 [(0, .ref b), (1, .int (iN (p0))), (2, .int (iN (p1)))] := hl
  refine x_const hC dX0_sum_0 ?_
  refine lv_istore_n (lv' := [(3, .int (iN (0))), (0, .ref b), (1, .int (iN (p0))), (2, .int (iN (p1)))]) hC.1 hC.2.1 dX0_sum_1 rfl hl (by decide) rfl (fun ls hl => ?_)
  refine lv_iload_n hC.1 hC.2.1 dX0_sum_2 rfl (lv_at hl 2 rfl) ?_
  refine lv_istore (lv' := [(4, .int (iN (p0))), (3, .int (iN (0))), (0, .ref b), (1, .int (iN (p0))), (2, .int (iN (p1)))]) hC.1 hC.2.1 dX0_sum_3 hl (by decide) rfl (fun ls hl => ?_)
  suffices hloop5 : ∀ (n9 : Nat) (sm : Int) (pl : Int) (H : Heap) (locs : List Loc) (ls : Array Slot), (hmz5 : (p1 - pl).toNat < n9) → (hi0 : -1000000 ≤ sm ∧ sm ≤ 1000000) → (hi1 : p0 ≤ pl ∧ (pl ≤ p1 ∨ pl = p0)) → (hsm : sm = smP fv p0 pl.toNat) → xD G (xA M s.heap.size) s M H locs → lv_has ls 5 [(0, .ref b), (1, .int (iN (p0))), (2, .int (iN (p1))), (3, .int (iN (sm))), (4, .int (iN (pl)))] → W p l e R s m args below meth c H locs _ _ _ (F0 m 5 ls []) by
    exact hloop5 _ 0 p0  _ _ _ (Nat.lt_succ_self _) (by omega) (by omega) ((smP_0 ho1).symm) hw (lv_sub hl [2, 3, 4, 1, 0] rfl)
  intro n9
  induction n9 with
  | zero => intro sm pl  H locs ls hmz; exact absurd hmz (Nat.not_lt_zero _)
  | succ n9 ih5 =>
    intro sm pl  H locs ls hmz5 hi0 hi1 hsm hw hl
    refine lv_iload hC.1 hC.2.1 dX0_sum_5 (lv_at hl 4 rfl) ?_
    refine lv_iload_n hC.1 hC.2.1 dX0_sum_7 rfl (lv_at hl 2 rfl) ?_
    refine x_icmp_ge (tgt := 36) hC ⟨by omega, by omega⟩ ⟨by omega, by omega⟩ dX0_sum_8 (by decide) (fun c_1 => ?_) (fun c_1 => ?_)
    · refine lv_iload_n hC.1 hC.2.1 dX0_sum_36 rfl (lv_at hl 3 rfl) ?_
      exact x_iret hC hw dX0_sum_37 (by first | decide | omega) (by first | decide | omega) ⟨sm, rfl, rfl, by omega, fun q9 => by rw [show p1 = pl by omega]; exact hsm, fun q9 => by rw [hsm, show pl = p0 by omega]; exact smP_0 (by omega)⟩
    · refine lv_aload_n hC.1 hC.2.1 dX0_sum_11 rfl (lv_at hl 0 rfl) ?_
      refine lv_iload hC.1 hC.2.1 dX0_sum_12 (lv_at hl 4 rfl) ?_
      refine x_callV hC hw (lv_size hl) (c_X0_isPlace l G hB (show o < 3 by first | assumption | omega) hV (by first | assumption | omega) (by first | assumption | omega) (p0 := pl) (by omega)) gX0_sum_X0_isPlace rfl dv_X0_isPlace hB.1 rfl rfl (Nat.le_of_ble_eq_true rfl) (by rw [hRf]; decide) (by rw [hRl]; decide) (by first | (rw [hRc]; decide) | omega) (by first | (rw [hRs]; decide) | omega) dX0_sum_14 (fun r9 M_2 H locs hq hw => ?_)
      obtain ⟨z_3, rfl, hM9, hz_3⟩ := hq
      rw [hM9] at hw
      show W p l e R s m args below meth c H locs _ _ _ (F0 m 17 ls [.int (iN (z_3))])
      refine x_if_eq (tgt := 30) hC ⟨by omega, by omega⟩ dX0_sum_17 (by decide) (fun c_4 => ?_) (fun c_4 => ?_)
      · refine x_iinc (lv' := [(4, .int (iN (pl + 1))), (0, .ref b), (1, .int (iN (p0))), (2, .int (iN (p1))), (3, .int (iN (sm)))]) hC dX0_sum_30 hl (k := 4) rfl (by decide) rfl (fun ls hl => ?_)
        refine lv_goto (tgt := 5) hC.1 hC.2.1 dX0_sum_33 (by decide) ?_
        exact ih5 sm (pl + 1)  _ _ _ (by first | exact mu_s hmz5 (by omega) | omega) (by have e8 := smP_s (fv := fv) (pl := pl) ho1 (by omega); have e9 := smP_rng (a := p0) hV (show pl + 1 ≤ sz by omega); omega) (by omega) (by rw [smP_s ho1 (by omega)]; omega) hw (lv_sub hl [1, 2, 3, 4, 0] rfl)
      · refine lv_iload_n hC.1 hC.2.1 dX0_sum_20 rfl (lv_at hl 3 rfl) ?_
        refine lv_aload_n hC.1 hC.2.1 dX0_sum_21 rfl (lv_at hl 0 rfl) ?_
        refine x_get hC hw hB.1 rfl hinX0 2 (by decide) (List.mem_cons_of_mem _ (List.mem_append_left _ (List.mem_of_getElem? (i := 0) rfl))) rfl dX0_sum_22 ?_
        refine lv_iload hC.1 hC.2.1 dX0_sum_25 (lv_at hl 4 rfl) ?_
        refine x_iald hC hw hB.2.2.1 (by omega) (by omega) (by omega) dX0_sum_27 ?_
        have hr_5 := iN_rng (fv (pl).toNat)
        refine x_iadd hC dX0_sum_28 ?_
        refine lv_istore_n (lv' := [(3, .int (iN (sm + ((fv (pl).toNat).toInt)))), (0, .ref b), (1, .int (iN (p0))), (2, .int (iN (p1))), (4, .int (iN (pl)))]) hC.1 hC.2.1 dX0_sum_29 rfl hl (by decide) rfl (fun ls hl => ?_)
        refine x_iinc (lv' := [(4, .int (iN (pl + 1))), (3, .int (iN (sm + ((fv (pl).toNat).toInt)))), (0, .ref b), (1, .int (iN (p0))), (2, .int (iN (p1)))]) hC dX0_sum_30 hl (k := 4) rfl (by decide) rfl (fun ls hl => ?_)
        refine lv_goto (tgt := 5) hC.1 hC.2.1 dX0_sum_33 (by decide) ?_
        exact ih5 (sm + ((fv (pl).toNat).toInt)) (pl + 1)  _ _ _ (by first | exact mu_s hmz5 (by omega) | omega) (by have e8 := smP_s (fv := fv) (pl := pl) ho1 (by omega); have e9 := smP_rng (a := p0) hV (show pl + 1 ≤ sz by omega); omega) (by omega) (by rw [smP_s ho1 (by omega)]; omega) hw (lv_sub hl [2, 3, 4, 1, 0] rfl)
set_option maxHeartbeats 4000000 in
set_option maxRecDepth 100000 in
theorem c_X0_closest (l : Launch) (G : xG) {M : HM} {b k v o : Nat} {no : Int32} {t kc sz : Int} {fk fv : Nat → Int32} {V : Nat → Int} (hB : Bk G M b k v no (iN ((o : Nat) : Int)) (iN (t)) (iN (kc)) sz fk fv) (ho : o < 3) (hV : BV o V sz.toNat fk fv) (htt : 0 ≤ t ∧ t ≤ 1000000) (hkk : 0 ≤ kc ∧ kc ≤ 1000000) {p0 : Int} (hp0 : -2147483648 ≤ p0 ∧ p0 ≤ 2147483647) {p1 : Int} (hp1 : -2147483648 ≤ p1 ∧ p1 ≤ 2147483647) {p2 : Int} (hp2 : -2147483648 ≤ p2 ∧ p2 ≤ 2147483647) {p3 : Int} (hp3 : -2147483648 ≤ p3 ∧ p3 ≤ 2147483647) (ho1 : 0 ≤ p0 ∧ p0 ≤ 99) (ho2 : 0 ≤ p1 ∧ p1 ≤ 3) (ho3 : 0 ≤ p2) (ho4 : 0 ≤ p3 ∧ p3 ≤ sz) : xMet l G yX0_closest wsX0_closest 3 69 0 0 [.ref b, .int (iN (p0)), .int (iN (p1)), .int (iN (p2)), .int (iN (p3))] M (fun r M1 => ∃ z : Int, r = some (.int (iN z)) ∧ M1 = M ∧ (z = -10000 ∨ (0 ≤ z ∧ z ≤ 99)) ∧ clB o sz.toNat fk (cwN o p0.toNat) p1 p2 p3 z) := by
  refine x_intro (cc := cX0_closest) (maxL := 8) (ret := (some .int)) (by exact pln_RX0) rfl (Nat.le_of_ble_eq_true rfl) ?_
  intro p e R s m args below meth c ls hRf hRc hRs hRl hC hw hl
  obtain ⟨-, -, -, -, hs0, hs1⟩ := id hB
  have hl : lv_has ls 8 [(0, .ref b), (1, .int (iN (p0))), (2, .int (iN (p1))), (3, .int (iN (p2))), (4, .int (iN (p3)))] := hl
  refine lv_aload_n hC.1 hC.2.1 dX0_closest_0 rfl (lv_at hl 0 rfl) ?_
  refine lv_iload_n hC.1 hC.2.1 dX0_closest_1 rfl (lv_at hl 1 rfl) ?_
  refine x_callV hC hw (lv_size hl) (c_X0_placeOf l G hB (show o < 3 by first | assumption | omega) hV (by first | assumption | omega) (by first | assumption | omega) (p0 := p0) (by first | assumption | omega)) gX0_closest_X0_placeOf rfl dv_X0_placeOf hB.1 rfl rfl (Nat.le_of_ble_eq_true rfl) (by rw [hRf]; decide) (by rw [hRl]; decide) (by first | (rw [hRc]; decide) | omega) (by first | (rw [hRs]; decide) | omega) dX0_closest_2 (fun r9 M_1 H locs hq hw => ?_)
  obtain ⟨z_2, rfl, hM9, hz_2a, hz_2b, hz_2p, hz_2v⟩ := hq
  rw [hM9] at hw
  show W p l e R s m args below meth c H locs _ _ _ (F0 m 5 ls [.int (iN (z_2))])
  refine lv_istore (lv' := [(5, .int (iN (z_2))), (0, .ref b), (1, .int (iN (p0))), (2, .int (iN (p1))), (3, .int (iN (p2))), (4, .int (iN (p3)))]) hC.1 hC.2.1 dX0_closest_5 hl (by decide) rfl (fun ls hl => ?_)
  refine lv_aload_n hC.1 hC.2.1 dX0_closest_7 rfl (lv_at hl 1 rfl) ?_
  refine lv_iload hC.1 hC.2.1 dX0_closest_8 (lv_at hl 0 rfl) ?_
  refine x_callV hC hw (lv_size hl) (c_X0_keyAt l G hB (show o < 3 by first | assumption | omega) hV (by first | assumption | omega) (by first | assumption | omega) (p0 := z_2) (by omega)) gX0_closest_X0_keyAt rfl dv_X0_keyAt hB.1 rfl rfl (Nat.le_of_ble_eq_true rfl) (by rw [hRf]; decide) (by rw [hRl]; decide) (by first | (rw [hRc]; decide) | omega) (by first | (rw [hRs]; decide) | omega) dX0_closest_10 (fun r9 M_3 H locs hq hw => ?_)
  obtain ⟨z_4, rfl, hM9, hz_4, hz_4b, hz_4k⟩ := hq
  rw [hM9] at hw
  show W p l e R s m args below meth c H locs _ _ _ (F0 m 13 ls [.int (iN (z_4))])
  suffices hjoin37 : ∀ (e6 : Int) (H : Heap) (locs : List Loc) (ls : Array Slot), (h6 : 0 ≤ e6 ∧ e6 ≤ 1) → (hth : (e6 = 1 ∧ z_4 = p0 ∧ p2 ≤ z_2 ∧ z_2 < p3) ∨ (e6 = 0 ∧ ¬ (z_4 = p0 ∧ p2 ≤ z_2 ∧ z_2 < p3))) → xD G (xA M s.heap.size) s M H locs → lv_has ls 8 [(5, .int (iN (z_2))), (0, .ref b), (1, .int (iN (p0))), (2, .int (iN (p1))), (3, .int (iN (p2))), (4, .int (iN (p3))), (6, .int (iN (e6)))] → W p l e R s m args below meth c H locs _ _ _ (F0 m 37 ls []) by
    refine lv_iload_n hC.1 hC.2.1 dX0_closest_13 rfl (lv_at hl 2 rfl) ?_
    refine x_icmp_ne (tgt := 34) hC ⟨by omega, by omega⟩ ⟨by omega, by omega⟩ dX0_closest_14 (by decide) (fun c_5 => ?_) (fun c_5 => ?_)
    · refine x_const hC dX0_closest_34 ?_
      refine lv_istore (lv' := [(6, .int (iN (0))), (5, .int (iN (z_2))), (0, .ref b), (1, .int (iN (p0))), (2, .int (iN (p1))), (3, .int (iN (p2))), (4, .int (iN (p3)))]) hC.1 hC.2.1 dX0_closest_35 hl (by decide) rfl (fun ls hl => ?_)
      exact hjoin37 0 _ _ _ (by omega) (by omega) hw (lv_sub hl [1, 2, 3, 4, 5, 6, 0] rfl)
    · refine lv_iload hC.1 hC.2.1 dX0_closest_17 (lv_at hl 0 rfl) ?_
      refine lv_iload_n hC.1 hC.2.1 dX0_closest_19 rfl (lv_at hl 4 rfl) ?_
      refine x_icmp_lt (tgt := 34) hC ⟨by omega, by omega⟩ ⟨by omega, by omega⟩ dX0_closest_20 (by decide) (fun c_6 => ?_) (fun c_6 => ?_)
      · refine x_const hC dX0_closest_34 ?_
        refine lv_istore (lv' := [(6, .int (iN (0))), (5, .int (iN (z_2))), (0, .ref b), (1, .int (iN (p0))), (2, .int (iN (p1))), (3, .int (iN (p2))), (4, .int (iN (p3)))]) hC.1 hC.2.1 dX0_closest_35 hl (by decide) rfl (fun ls hl => ?_)
        exact hjoin37 0 _ _ _ (by omega) (by omega) hw (lv_sub hl [1, 2, 3, 4, 5, 6, 0] rfl)
      · refine lv_iload hC.1 hC.2.1 dX0_closest_23 (lv_at hl 0 rfl) ?_
        refine lv_iload hC.1 hC.2.1 dX0_closest_25 (lv_at hl 5 rfl) ?_
        refine x_icmp_ge (tgt := 34) hC ⟨by omega, by omega⟩ ⟨by omega, by omega⟩ dX0_closest_27 (by decide) (fun c_7 => ?_) (fun c_7 => ?_)
        · refine x_const hC dX0_closest_34 ?_
          refine lv_istore (lv' := [(6, .int (iN (0))), (5, .int (iN (z_2))), (0, .ref b), (1, .int (iN (p0))), (2, .int (iN (p1))), (3, .int (iN (p2))), (4, .int (iN (p3)))]) hC.1 hC.2.1 dX0_closest_35 hl (by decide) rfl (fun ls hl => ?_)
          exact hjoin37 0 _ _ _ (by omega) (by omega) hw (lv_sub hl [1, 2, 3, 4, 5, 6, 0] rfl)
        · refine x_const hC dX0_closest_30 ?_
          refine lv_goto (tgt := 35) hC.1 hC.2.1 dX0_closest_31 (by decide) ?_
          refine lv_istore (lv' := [(6, .int (iN (1))), (5, .int (iN (z_2))), (0, .ref b), (1, .int (iN (p0))), (2, .int (iN (p1))), (3, .int (iN (p2))), (4, .int (iN (p3)))]) hC.1 hC.2.1 dX0_closest_35 hl (by decide) rfl (fun ls hl => ?_)
          exact hjoin37 1 _ _ _ (by omega) (by omega) hw (lv_sub hl [1, 2, 3, 4, 5, 6, 0] rfl)
  intro e6 H locs ls h6 hth hw hl
  refine lv_iload hC.1 hC.2.1 dX0_closest_37 (lv_at hl 6 rfl) ?_
  refine x_if_eq (tgt := 54) hC ⟨by omega, by omega⟩ dX0_closest_39 (by decide) (fun c_8 => ?_) (fun c_8 => ?_)
  · refine lv_iload_n hC.1 hC.2.1 dX0_closest_54 rfl (lv_at hl 3 rfl) ?_
    refine x_if_eq (tgt := 63) hC ⟨by omega, by omega⟩ dX0_closest_55 (by decide) (fun c_9 => ?_) (fun c_9 => ?_)
    · refine lv_iload hC.1 hC.2.1 dX0_closest_63 (lv_at hl 0 rfl) ?_
      refine lv_iload hC.1 hC.2.1 dX0_closest_65 (lv_at hl 5 rfl) ?_
      refine x_min hC (lv_size hl) ⟨by omega, by omega⟩ ⟨by omega, by omega⟩ (by decide +kernel) (by decide +kernel) (by decide +kernel) (by decide +kernel) (by rw [hRf]; decide) (by rw [hRl]; exact Nat.le_of_ble_eq_true rfl) (by first | (rw [hRc]; decide) | omega) (by first | (rw [hRs]; decide) | omega) dX0_closest_67 (fun z_10 hz_10 => ?_)
      refine x_const hC dX0_closest_70 ?_
      refine x_isub hC dX0_closest_71 ?_
      refine lv_istore (lv' := [(7, .int (iN (z_10 - 1))), (5, .int (iN (z_2))), (0, .ref b), (1, .int (iN (p0))), (2, .int (iN (p1))), (3, .int (iN (p2))), (4, .int (iN (p3))), (6, .int (iN (e6)))]) hC.1 hC.2.1 dX0_closest_72 hl (by decide) rfl (fun ls hl => ?_)
      refine lv_iload hC.1 hC.2.1 dX0_closest_74 (lv_at hl 0 rfl) ?_
      refine lv_iload_n hC.1 hC.2.1 dX0_closest_76 rfl (lv_at hl 5 rfl) ?_
      refine x_icmp_lt (tgt := 89) hC ⟨by omega, by omega⟩ ⟨by omega, by omega⟩ dX0_closest_77 (by decide) (fun c_11 => ?_) (fun c_11 => ?_)
      · refine x_sipush hC dX0_closest_89 (by decide +kernel) ?_
        exact x_iret hC hw dX0_closest_92 (by first | decide | omega) (by first | decide | omega) ⟨(-10000), rfl, rfl, by omega, clB_lo (m := z_10) ho hV (by first | assumption | omega) (by first | assumption | omega) (hz_2p (by omega)) (by omega) (by omega) (by omega) (by omega) (by omega)⟩
      · refine lv_aload_n hC.1 hC.2.1 dX0_closest_80 rfl (lv_at hl 2 rfl) ?_
        refine lv_iload hC.1 hC.2.1 dX0_closest_81 (lv_at hl 0 rfl) ?_
        refine x_callV hC hw (lv_size hl) (c_X0_keyAt l G hB (show o < 3 by first | assumption | omega) hV (by first | assumption | omega) (by first | assumption | omega) (p0 := (z_10 - 1)) (by omega)) gX0_closest_X0_keyAt rfl dv_X0_keyAt hB.1 rfl rfl (Nat.le_of_ble_eq_true rfl) (by rw [hRf]; decide) (by rw [hRl]; decide) (by first | (rw [hRc]; decide) | omega) (by first | (rw [hRs]; decide) | omega) dX0_closest_83 (fun r9 M_12 H locs hq hw => ?_)
        obtain ⟨z_13, rfl, hM9, hz_13, hz_13b, hz_13k⟩ := hq
        rw [hM9] at hw
        show W p l e R s m args below meth c H locs _ _ _ (F0 m 86 ls [.int (iN (z_13))])
        refine lv_goto (tgt := 92) hC.1 hC.2.1 dX0_closest_86 (by decide) ?_
        exact x_iret hC hw dX0_closest_92 (by first | decide | omega) (by first | decide | omega) ⟨z_13, rfl, rfl, by omega, clB_lo (m := z_10) ho hV (by first | assumption | omega) (by first | assumption | omega) (hz_2p (by omega)) (by omega) (by omega) (by omega) (by omega) (by omega)⟩
    · refine lv_iload_n hC.1 hC.2.1 dX0_closest_58 rfl (lv_at hl 3 rfl) ?_
      refine x_const hC dX0_closest_59 ?_
      refine x_icmp_ne (tgt := 93) hC ⟨by omega, by omega⟩ ⟨by omega, by omega⟩ dX0_closest_60 (by decide) (fun c_14 => ?_) (fun c_14 => ?_)
      · refine lv_aload_n hC.1 hC.2.1 dX0_closest_93 rfl (lv_at hl 1 rfl) ?_
        refine lv_iload_n hC.1 hC.2.1 dX0_closest_94 rfl (lv_at hl 2 rfl) ?_
        refine x_callV hC hw (lv_size hl) (c_X0_placeBehind l G hB (show o < 3 by first | assumption | omega) hV (by first | assumption | omega) (by first | assumption | omega) (p0 := p0) (by first | assumption | omega) (by omega)) gX0_closest_X0_placeBehind rfl dv_X0_placeBehind hB.1 rfl rfl (Nat.le_of_ble_eq_true rfl) (by rw [hRf]; decide) (by rw [hRl]; decide) (by first | (rw [hRc]; decide) | omega) (by first | (rw [hRs]; decide) | omega) dX0_closest_95 (fun r9 M_15 H locs hq hw => ?_)
        obtain ⟨z_16, rfl, hM9, hz_16a, hz_16b, hz_16p⟩ := hq
        rw [hM9] at hw
        show W p l e R s m args below meth c H locs _ _ _ (F0 m 98 ls [.int (iN (z_16))])
        refine lv_iload_n hC.1 hC.2.1 dX0_closest_98 rfl (lv_at hl 4 rfl) ?_
        refine x_max hC (lv_size hl) ⟨by omega, by omega⟩ ⟨by omega, by omega⟩ (by decide +kernel) (by decide +kernel) (by decide +kernel) (by decide +kernel) (by rw [hRf]; decide) (by rw [hRl]; exact Nat.le_of_ble_eq_true rfl) (by first | (rw [hRc]; decide) | omega) (by first | (rw [hRs]; decide) | omega) dX0_closest_99 (fun z_17 hz_17 => ?_)
        refine lv_istore (lv' := [(7, .int (iN (z_17))), (5, .int (iN (z_2))), (0, .ref b), (1, .int (iN (p0))), (2, .int (iN (p1))), (3, .int (iN (p2))), (4, .int (iN (p3))), (6, .int (iN (e6)))]) hC.1 hC.2.1 dX0_closest_102 hl (by decide) rfl (fun ls hl => ?_)
        refine lv_iload hC.1 hC.2.1 dX0_closest_104 (lv_at hl 0 rfl) ?_
        refine lv_iload hC.1 hC.2.1 dX0_closest_106 (lv_at hl 6 rfl) ?_
        refine x_icmp_ge (tgt := 120) hC ⟨by omega, by omega⟩ ⟨by omega, by omega⟩ dX0_closest_108 (by decide) (fun c_18 => ?_) (fun c_18 => ?_)
        · refine x_sipush hC dX0_closest_120 (by decide +kernel) ?_
          exact x_iret hC hw dX0_closest_123 (by first | decide | omega) (by first | decide | omega) ⟨(-10000), rfl, rfl, by omega, clB_hi (m := z_17) ho hV (by first | assumption | omega) (by first | assumption | omega) (hz_2p (by omega)) (by omega) hz_16p (by omega) (by omega) (by omega) (by omega) (by omega)⟩
        · refine lv_aload_n hC.1 hC.2.1 dX0_closest_111 rfl (lv_at hl 2 rfl) ?_
          refine lv_iload hC.1 hC.2.1 dX0_closest_112 (lv_at hl 0 rfl) ?_
          refine x_callV hC hw (lv_size hl) (c_X0_keyAt l G hB (show o < 3 by first | assumption | omega) hV (by first | assumption | omega) (by first | assumption | omega) (p0 := z_17) (by omega)) gX0_closest_X0_keyAt rfl dv_X0_keyAt hB.1 rfl rfl (Nat.le_of_ble_eq_true rfl) (by rw [hRf]; decide) (by rw [hRl]; decide) (by first | (rw [hRc]; decide) | omega) (by first | (rw [hRs]; decide) | omega) dX0_closest_114 (fun r9 M_19 H locs hq hw => ?_)
          obtain ⟨z_20, rfl, hM9, hz_20, hz_20b, hz_20k⟩ := hq
          rw [hM9] at hw
          show W p l e R s m args below meth c H locs _ _ _ (F0 m 117 ls [.int (iN (z_20))])
          refine lv_goto (tgt := 123) hC.1 hC.2.1 dX0_closest_117 (by decide) ?_
          exact x_iret hC hw dX0_closest_123 (by first | decide | omega) (by first | decide | omega) ⟨z_20, rfl, rfl, by omega, clB_hi (m := z_17) ho hV (by first | assumption | omega) (by first | assumption | omega) (hz_2p (by omega)) (by omega) hz_16p (by omega) (by omega) (by omega) (by omega) (by omega)⟩
      · refine lv_iload hC.1 hC.2.1 dX0_closest_63 (lv_at hl 0 rfl) ?_
        refine lv_iload hC.1 hC.2.1 dX0_closest_65 (lv_at hl 5 rfl) ?_
        refine x_min hC (lv_size hl) ⟨by omega, by omega⟩ ⟨by omega, by omega⟩ (by decide +kernel) (by decide +kernel) (by decide +kernel) (by decide +kernel) (by rw [hRf]; decide) (by rw [hRl]; exact Nat.le_of_ble_eq_true rfl) (by first | (rw [hRc]; decide) | omega) (by first | (rw [hRs]; decide) | omega) dX0_closest_67 (fun z_21 hz_21 => ?_)
        refine x_const hC dX0_closest_70 ?_
        refine x_isub hC dX0_closest_71 ?_
        refine lv_istore (lv' := [(7, .int (iN (z_21 - 1))), (5, .int (iN (z_2))), (0, .ref b), (1, .int (iN (p0))), (2, .int (iN (p1))), (3, .int (iN (p2))), (4, .int (iN (p3))), (6, .int (iN (e6)))]) hC.1 hC.2.1 dX0_closest_72 hl (by decide) rfl (fun ls hl => ?_)
        refine lv_iload hC.1 hC.2.1 dX0_closest_74 (lv_at hl 0 rfl) ?_
        refine lv_iload_n hC.1 hC.2.1 dX0_closest_76 rfl (lv_at hl 5 rfl) ?_
        refine x_icmp_lt (tgt := 89) hC ⟨by omega, by omega⟩ ⟨by omega, by omega⟩ dX0_closest_77 (by decide) (fun c_22 => ?_) (fun c_22 => ?_)
        · refine x_sipush hC dX0_closest_89 (by decide +kernel) ?_
          exact x_iret hC hw dX0_closest_92 (by first | decide | omega) (by first | decide | omega) ⟨(-10000), rfl, rfl, by omega, clB_lo (m := z_21) ho hV (by first | assumption | omega) (by first | assumption | omega) (hz_2p (by omega)) (by omega) (by omega) (by omega) (by omega) (by omega)⟩
        · refine lv_aload_n hC.1 hC.2.1 dX0_closest_80 rfl (lv_at hl 2 rfl) ?_
          refine lv_iload hC.1 hC.2.1 dX0_closest_81 (lv_at hl 0 rfl) ?_
          refine x_callV hC hw (lv_size hl) (c_X0_keyAt l G hB (show o < 3 by first | assumption | omega) hV (by first | assumption | omega) (by first | assumption | omega) (p0 := (z_21 - 1)) (by omega)) gX0_closest_X0_keyAt rfl dv_X0_keyAt hB.1 rfl rfl (Nat.le_of_ble_eq_true rfl) (by rw [hRf]; decide) (by rw [hRl]; decide) (by first | (rw [hRc]; decide) | omega) (by first | (rw [hRs]; decide) | omega) dX0_closest_83 (fun r9 M_23 H locs hq hw => ?_)
          obtain ⟨z_24, rfl, hM9, hz_24, hz_24b, hz_24k⟩ := hq
          rw [hM9] at hw
          show W p l e R s m args below meth c H locs _ _ _ (F0 m 86 ls [.int (iN (z_24))])
          refine lv_goto (tgt := 92) hC.1 hC.2.1 dX0_closest_86 (by decide) ?_
          exact x_iret hC hw dX0_closest_92 (by first | decide | omega) (by first | decide | omega) ⟨z_24, rfl, rfl, by omega, clB_lo (m := z_21) ho hV (by first | assumption | omega) (by first | assumption | omega) (hz_2p (by omega)) (by omega) (by omega) (by omega) (by omega) (by omega)⟩
  · refine lv_iload_n hC.1 hC.2.1 dX0_closest_42 rfl (lv_at hl 3 rfl) ?_
    refine x_const hC dX0_closest_43 ?_
    refine x_icmp_eq (tgt := 52) hC ⟨by omega, by omega⟩ ⟨by omega, by omega⟩ dX0_closest_44 (by decide) (fun c_25 => ?_) (fun c_25 => ?_)
    · refine lv_iload_n hC.1 hC.2.1 dX0_closest_52 rfl (lv_at hl 2 rfl) ?_
      exact x_iret hC hw dX0_closest_53 (by first | decide | omega) (by first | decide | omega) ⟨p0, rfl, rfl, by omega, clB_is ho hV (by first | assumption | omega) (by first | assumption | omega) (hz_2p (by omega)) (by omega) (by omega) (by omega) (by omega)⟩
    · refine lv_iload_n hC.1 hC.2.1 dX0_closest_47 rfl (lv_at hl 3 rfl) ?_
      refine x_const hC dX0_closest_48 ?_
      refine x_icmp_ne (tgt := 54) hC ⟨by omega, by omega⟩ ⟨by omega, by omega⟩ dX0_closest_49 (by decide) (fun c_26 => ?_) (fun c_26 => ?_)
      · refine lv_iload_n hC.1 hC.2.1 dX0_closest_54 rfl (lv_at hl 3 rfl) ?_
        refine x_if_eq (tgt := 63) hC ⟨by omega, by omega⟩ dX0_closest_55 (by decide) (fun c_27 => ?_) (fun c_27 => ?_)
        · refine lv_iload hC.1 hC.2.1 dX0_closest_63 (lv_at hl 0 rfl) ?_
          refine lv_iload hC.1 hC.2.1 dX0_closest_65 (lv_at hl 5 rfl) ?_
          refine x_min hC (lv_size hl) ⟨by omega, by omega⟩ ⟨by omega, by omega⟩ (by decide +kernel) (by decide +kernel) (by decide +kernel) (by decide +kernel) (by rw [hRf]; decide) (by rw [hRl]; exact Nat.le_of_ble_eq_true rfl) (by first | (rw [hRc]; decide) | omega) (by first | (rw [hRs]; decide) | omega) dX0_closest_67 (fun z_28 hz_28 => ?_)
          refine x_const hC dX0_closest_70 ?_
          refine x_isub hC dX0_closest_71 ?_
          refine lv_istore (lv' := [(7, .int (iN (z_28 - 1))), (5, .int (iN (z_2))), (0, .ref b), (1, .int (iN (p0))), (2, .int (iN (p1))), (3, .int (iN (p2))), (4, .int (iN (p3))), (6, .int (iN (e6)))]) hC.1 hC.2.1 dX0_closest_72 hl (by decide) rfl (fun ls hl => ?_)
          refine lv_iload hC.1 hC.2.1 dX0_closest_74 (lv_at hl 0 rfl) ?_
          refine lv_iload_n hC.1 hC.2.1 dX0_closest_76 rfl (lv_at hl 5 rfl) ?_
          refine x_icmp_lt (tgt := 89) hC ⟨by omega, by omega⟩ ⟨by omega, by omega⟩ dX0_closest_77 (by decide) (fun c_29 => ?_) (fun c_29 => ?_)
          · refine x_sipush hC dX0_closest_89 (by decide +kernel) ?_
            exact x_iret hC hw dX0_closest_92 (by first | decide | omega) (by first | decide | omega) ⟨(-10000), rfl, rfl, by omega, clB_lo (m := z_28) ho hV (by first | assumption | omega) (by first | assumption | omega) (hz_2p (by omega)) (by omega) (by omega) (by omega) (by omega) (by omega)⟩
          · refine lv_aload_n hC.1 hC.2.1 dX0_closest_80 rfl (lv_at hl 2 rfl) ?_
            refine lv_iload hC.1 hC.2.1 dX0_closest_81 (lv_at hl 0 rfl) ?_
            refine x_callV hC hw (lv_size hl) (c_X0_keyAt l G hB (show o < 3 by first | assumption | omega) hV (by first | assumption | omega) (by first | assumption | omega) (p0 := (z_28 - 1)) (by omega)) gX0_closest_X0_keyAt rfl dv_X0_keyAt hB.1 rfl rfl (Nat.le_of_ble_eq_true rfl) (by rw [hRf]; decide) (by rw [hRl]; decide) (by first | (rw [hRc]; decide) | omega) (by first | (rw [hRs]; decide) | omega) dX0_closest_83 (fun r9 M_30 H locs hq hw => ?_)
            obtain ⟨z_31, rfl, hM9, hz_31, hz_31b, hz_31k⟩ := hq
            rw [hM9] at hw
            show W p l e R s m args below meth c H locs _ _ _ (F0 m 86 ls [.int (iN (z_31))])
            refine lv_goto (tgt := 92) hC.1 hC.2.1 dX0_closest_86 (by decide) ?_
            exact x_iret hC hw dX0_closest_92 (by first | decide | omega) (by first | decide | omega) ⟨z_31, rfl, rfl, by omega, clB_lo (m := z_28) ho hV (by first | assumption | omega) (by first | assumption | omega) (hz_2p (by omega)) (by omega) (by omega) (by omega) (by omega) (by omega)⟩
        · refine lv_iload_n hC.1 hC.2.1 dX0_closest_58 rfl (lv_at hl 3 rfl) ?_
          refine x_const hC dX0_closest_59 ?_
          refine x_icmp_ne (tgt := 93) hC ⟨by omega, by omega⟩ ⟨by omega, by omega⟩ dX0_closest_60 (by decide) (fun c_32 => ?_) (fun c_32 => ?_)
          · refine lv_aload_n hC.1 hC.2.1 dX0_closest_93 rfl (lv_at hl 1 rfl) ?_
            refine lv_iload_n hC.1 hC.2.1 dX0_closest_94 rfl (lv_at hl 2 rfl) ?_
            refine x_callV hC hw (lv_size hl) (c_X0_placeBehind l G hB (show o < 3 by first | assumption | omega) hV (by first | assumption | omega) (by first | assumption | omega) (p0 := p0) (by first | assumption | omega) (by omega)) gX0_closest_X0_placeBehind rfl dv_X0_placeBehind hB.1 rfl rfl (Nat.le_of_ble_eq_true rfl) (by rw [hRf]; decide) (by rw [hRl]; decide) (by first | (rw [hRc]; decide) | omega) (by first | (rw [hRs]; decide) | omega) dX0_closest_95 (fun r9 M_33 H locs hq hw => ?_)
            obtain ⟨z_34, rfl, hM9, hz_34a, hz_34b, hz_34p⟩ := hq
            rw [hM9] at hw
            show W p l e R s m args below meth c H locs _ _ _ (F0 m 98 ls [.int (iN (z_34))])
            refine lv_iload_n hC.1 hC.2.1 dX0_closest_98 rfl (lv_at hl 4 rfl) ?_
            refine x_max hC (lv_size hl) ⟨by omega, by omega⟩ ⟨by omega, by omega⟩ (by decide +kernel) (by decide +kernel) (by decide +kernel) (by decide +kernel) (by rw [hRf]; decide) (by rw [hRl]; exact Nat.le_of_ble_eq_true rfl) (by first | (rw [hRc]; decide) | omega) (by first | (rw [hRs]; decide) | omega) dX0_closest_99 (fun z_35 hz_35 => ?_)
            refine lv_istore (lv' := [(7, .int (iN (z_35))), (5, .int (iN (z_2))), (0, .ref b), (1, .int (iN (p0))), (2, .int (iN (p1))), (3, .int (iN (p2))), (4, .int (iN (p3))), (6, .int (iN (e6)))]) hC.1 hC.2.1 dX0_closest_102 hl (by decide) rfl (fun ls hl => ?_)
            refine lv_iload hC.1 hC.2.1 dX0_closest_104 (lv_at hl 0 rfl) ?_
            refine lv_iload hC.1 hC.2.1 dX0_closest_106 (lv_at hl 6 rfl) ?_
            refine x_icmp_ge (tgt := 120) hC ⟨by omega, by omega⟩ ⟨by omega, by omega⟩ dX0_closest_108 (by decide) (fun c_36 => ?_) (fun c_36 => ?_)
            · refine x_sipush hC dX0_closest_120 (by decide +kernel) ?_
              exact x_iret hC hw dX0_closest_123 (by first | decide | omega) (by first | decide | omega) ⟨(-10000), rfl, rfl, by omega, clB_hi (m := z_35) ho hV (by first | assumption | omega) (by first | assumption | omega) (hz_2p (by omega)) (by omega) hz_34p (by omega) (by omega) (by omega) (by omega) (by omega)⟩
            · refine lv_aload_n hC.1 hC.2.1 dX0_closest_111 rfl (lv_at hl 2 rfl) ?_
              refine lv_iload hC.1 hC.2.1 dX0_closest_112 (lv_at hl 0 rfl) ?_
              refine x_callV hC hw (lv_size hl) (c_X0_keyAt l G hB (show o < 3 by first | assumption | omega) hV (by first | assumption | omega) (by first | assumption | omega) (p0 := z_35) (by omega)) gX0_closest_X0_keyAt rfl dv_X0_keyAt hB.1 rfl rfl (Nat.le_of_ble_eq_true rfl) (by rw [hRf]; decide) (by rw [hRl]; decide) (by first | (rw [hRc]; decide) | omega) (by first | (rw [hRs]; decide) | omega) dX0_closest_114 (fun r9 M_37 H locs hq hw => ?_)
              obtain ⟨z_38, rfl, hM9, hz_38, hz_38b, hz_38k⟩ := hq
              rw [hM9] at hw
              show W p l e R s m args below meth c H locs _ _ _ (F0 m 117 ls [.int (iN (z_38))])
              refine lv_goto (tgt := 123) hC.1 hC.2.1 dX0_closest_117 (by decide) ?_
              exact x_iret hC hw dX0_closest_123 (by first | decide | omega) (by first | decide | omega) ⟨z_38, rfl, rfl, by omega, clB_hi (m := z_35) ho hV (by first | assumption | omega) (by first | assumption | omega) (hz_2p (by omega)) (by omega) hz_34p (by omega) (by omega) (by omega) (by omega) (by omega)⟩
          · refine lv_iload hC.1 hC.2.1 dX0_closest_63 (lv_at hl 0 rfl) ?_
            refine lv_iload hC.1 hC.2.1 dX0_closest_65 (lv_at hl 5 rfl) ?_
            refine x_min hC (lv_size hl) ⟨by omega, by omega⟩ ⟨by omega, by omega⟩ (by decide +kernel) (by decide +kernel) (by decide +kernel) (by decide +kernel) (by rw [hRf]; decide) (by rw [hRl]; exact Nat.le_of_ble_eq_true rfl) (by first | (rw [hRc]; decide) | omega) (by first | (rw [hRs]; decide) | omega) dX0_closest_67 (fun z_39 hz_39 => ?_)
            refine x_const hC dX0_closest_70 ?_
            refine x_isub hC dX0_closest_71 ?_
            refine lv_istore (lv' := [(7, .int (iN (z_39 - 1))), (5, .int (iN (z_2))), (0, .ref b), (1, .int (iN (p0))), (2, .int (iN (p1))), (3, .int (iN (p2))), (4, .int (iN (p3))), (6, .int (iN (e6)))]) hC.1 hC.2.1 dX0_closest_72 hl (by decide) rfl (fun ls hl => ?_)
            refine lv_iload hC.1 hC.2.1 dX0_closest_74 (lv_at hl 0 rfl) ?_
            refine lv_iload_n hC.1 hC.2.1 dX0_closest_76 rfl (lv_at hl 5 rfl) ?_
            refine x_icmp_lt (tgt := 89) hC ⟨by omega, by omega⟩ ⟨by omega, by omega⟩ dX0_closest_77 (by decide) (fun c_40 => ?_) (fun c_40 => ?_)
            · refine x_sipush hC dX0_closest_89 (by decide +kernel) ?_
              exact x_iret hC hw dX0_closest_92 (by first | decide | omega) (by first | decide | omega) ⟨(-10000), rfl, rfl, by omega, clB_lo (m := z_39) ho hV (by first | assumption | omega) (by first | assumption | omega) (hz_2p (by omega)) (by omega) (by omega) (by omega) (by omega) (by omega)⟩
            · refine lv_aload_n hC.1 hC.2.1 dX0_closest_80 rfl (lv_at hl 2 rfl) ?_
              refine lv_iload hC.1 hC.2.1 dX0_closest_81 (lv_at hl 0 rfl) ?_
              refine x_callV hC hw (lv_size hl) (c_X0_keyAt l G hB (show o < 3 by first | assumption | omega) hV (by first | assumption | omega) (by first | assumption | omega) (p0 := (z_39 - 1)) (by omega)) gX0_closest_X0_keyAt rfl dv_X0_keyAt hB.1 rfl rfl (Nat.le_of_ble_eq_true rfl) (by rw [hRf]; decide) (by rw [hRl]; decide) (by first | (rw [hRc]; decide) | omega) (by first | (rw [hRs]; decide) | omega) dX0_closest_83 (fun r9 M_41 H locs hq hw => ?_)
              obtain ⟨z_42, rfl, hM9, hz_42, hz_42b, hz_42k⟩ := hq
              rw [hM9] at hw
              show W p l e R s m args below meth c H locs _ _ _ (F0 m 86 ls [.int (iN (z_42))])
              refine lv_goto (tgt := 92) hC.1 hC.2.1 dX0_closest_86 (by decide) ?_
              exact x_iret hC hw dX0_closest_92 (by first | decide | omega) (by first | decide | omega) ⟨z_42, rfl, rfl, by omega, clB_lo (m := z_39) ho hV (by first | assumption | omega) (by first | assumption | omega) (hz_2p (by omega)) (by omega) (by omega) (by omega) (by omega) (by omega)⟩
      · refine lv_iload_n hC.1 hC.2.1 dX0_closest_52 rfl (lv_at hl 2 rfl) ?_
        exact x_iret hC hw dX0_closest_53 (by first | decide | omega) (by first | decide | omega) ⟨p0, rfl, rfl, by omega, clB_is ho hV (by first | assumption | omega) (by first | assumption | omega) (hz_2p (by omega)) (by omega) (by omega) (by omega) (by omega)⟩
set_option maxHeartbeats 4000000 in
set_option maxRecDepth 100000 in
theorem c_X0_insert (l : Launch) (G : xG) {M : HM} {b k v o : Nat} {no : Int32} {t kc sz : Int} {fk fv : Nat → Int32} {V : Nat → Int} (hB : Bk G M b k v no (iN ((o : Nat) : Int)) (iN (t)) (iN (kc)) sz fk fv) (ho : o < 3) (hV : BV o V sz.toNat fk fv) (htt : 0 ≤ t ∧ t ≤ 1000000) (hkk : 0 ≤ kc ∧ kc ≤ 1000000) {p0 : Int} (hp0 : -2147483648 ≤ p0 ∧ p0 ≤ 2147483647) {p1 : Int} (hp1 : -2147483648 ≤ p1 ∧ p1 ≤ 2147483647) {p2 : Int} (hp2 : -2147483648 ≤ p2 ∧ p2 ≤ 2147483647) (hok : 0 ≤ p1 ∧ p1 ≤ 99) (hov : -9999 ≤ p2 ∧ p2 ≤ 9999) (hon : V p1.toNat = -10000) (hop0 : 0 ≤ p0 ∧ p0 ≤ sz) (hop : plW o sz.toNat fk (cwN o p1.toNat) p0.toNat) : xMet l G yX0_insert wsX0_insert 1 26 0 0 [.ref b, .int (iN (p0)), .int (iN (p1)), .int (iN (p2))] M (fun r M1 => r = none ∧ ∃ (kc1 sz1 : Int) (f1 f2 : Nat → Int32), Bk G M1 b k v no (iN ((o : Nat) : Int)) (iN (t)) (iN (kc1)) sz1 f1 f2 ∧ xSm M M1 b k v ∧ BV o (upV V p1.toNat p2) sz1.toNat f1 f2 ∧ kcs V (upV V p1.toNat p2) kc kc1 1 ∧ kc1 = kc + 1) := by
  refine x_intro (cc := cX0_insert) (maxL := 4) (ret := none) (by exact pln_RX0) rfl (Nat.le_of_ble_eq_true rfl) ?_
  intro p e R s m args below meth c ls hRf hRc hRs hRl hC hw hl
  obtain ⟨-, -, -, -, hs0, hs1⟩ := id hB
  have hrm := hV.roomZ (show p1.toNat < 100 from tn_lt (by omega) (by decide)) hon hs0
  have hinX0 : ∀ w ∈ wsX00, w ∈ wsX0_insert := fun w h => (List.mem_cons_of_mem _ (List.mem_append_right _ h))
  have hl : lv_has ls 4 [(0, .ref b), (1, .int (iN (p0))), (2, .int (iN (p1))), (3, .int (iN (p2)))] := hl
  refine lv_iload_n hC.1 hC.2.1 dX0_insert_0 rfl (lv_at hl 1 rfl) ?_
  refine x_if_lt (tgt := 24) hC ⟨by omega, by omega⟩ dX0_insert_1 (by decide) (fun c_1 => ?_) (fun c_1 => ?_)
  · exact x_vret hC hw dX0_insert_24 (by first | decide | omega) (by first | decide | omega) (by exfalso; omega)
  · refine lv_iload_n hC.1 hC.2.1 dX0_insert_4 rfl (lv_at hl 1 rfl) ?_
    refine lv_aload_n hC.1 hC.2.1 dX0_insert_5 rfl (lv_at hl 0 rfl) ?_
    refine x_get hC hw hB.1 rfl hinX0 4 (by decide) (List.mem_cons_of_mem _ (List.mem_append_left _ (List.mem_of_getElem? (i := 0) rfl))) rfl dX0_insert_6 ?_
    refine x_icmp_gt (tgt := 24) hC ⟨by omega, by omega⟩ ⟨by omega, by omega⟩ dX0_insert_9 (by decide) (fun c_2 => ?_) (fun c_2 => ?_)
    · exact x_vret hC hw dX0_insert_24 (by first | decide | omega) (by first | decide | omega) (by exfalso; omega)
    · refine lv_aload_n hC.1 hC.2.1 dX0_insert_12 rfl (lv_at hl 0 rfl) ?_
      refine x_get hC hw hB.1 rfl hinX0 4 (by decide) (List.mem_cons_of_mem _ (List.mem_append_left _ (List.mem_of_getElem? (i := 0) rfl))) rfl dX0_insert_13 ?_
      refine lv_aload_n hC.1 hC.2.1 dX0_insert_16 rfl (lv_at hl 0 rfl) ?_
      refine x_get hC hw hB.1 rfl hinX0 1 (by decide) (List.mem_cons_of_mem _ (List.mem_append_left _ (List.mem_of_getElem? (i := 1) rfl))) rfl dX0_insert_17 ?_
      refine x_alen hC hw 1 hB.2.1 rfl dX0_insert_20 ?_
      refine x_icmp_lt (tgt := 25) hC ⟨by omega, by omega⟩ ⟨by omega, by omega⟩ dX0_insert_21 (by decide) (fun c_3 => ?_) (fun c_3 => ?_)
      · refine lv_aload_n hC.1 hC.2.1 dX0_insert_25 rfl (lv_at hl 0 rfl) ?_
        refine x_get hC hw hB.1 rfl hinX0 1 (by decide) (List.mem_cons_of_mem _ (List.mem_append_left _ (List.mem_of_getElem? (i := 1) rfl))) rfl dX0_insert_26 ?_
        refine lv_iload_n hC.1 hC.2.1 dX0_insert_29 rfl (lv_at hl 1 rfl) ?_
        refine lv_aload_n hC.1 hC.2.1 dX0_insert_30 rfl (lv_at hl 0 rfl) ?_
        refine x_get hC hw hB.1 rfl hinX0 1 (by decide) (List.mem_cons_of_mem _ (List.mem_append_left _ (List.mem_of_getElem? (i := 1) rfl))) rfl dX0_insert_31 ?_
        refine lv_iload_n hC.1 hC.2.1 dX0_insert_34 rfl (lv_at hl 1 rfl) ?_
        refine x_const hC dX0_insert_35 ?_
        refine x_iadd hC dX0_insert_36 ?_
        refine lv_aload_n hC.1 hC.2.1 dX0_insert_37 rfl (lv_at hl 0 rfl) ?_
        refine x_get hC hw hB.1 rfl hinX0 4 (by decide) (List.mem_cons_of_mem _ (List.mem_append_left _ (List.mem_of_getElem? (i := 0) rfl))) rfl dX0_insert_38 ?_
        refine lv_iload_n hC.1 hC.2.1 dX0_insert_41 rfl (lv_at hl 1 rfl) ?_
        refine x_isub hC dX0_insert_42 ?_
        refine x_copyI hC hw (lv_size hl) (by decide +kernel) (by decide +kernel) (by decide +kernel) (by decide +kernel) hB.2.1 (by omega) (by omega) (by omega) (by omega) (by omega) (by decide) (by rw [hRf]; decide) (by rw [hRl]; decide +kernel) dX0_insert_43 (fun H locs hw => ?_)
        obtain ⟨M_4, hM_5⟩ : ∃ z, z = va_up M k (some (.inl (G.2 1, 100, .inl (va_cpy fk fk (p0).toNat (p0 + 1).toNat (sz - p0).toNat)))) := ⟨_, rfl⟩
        rw [← hM_5] at hw
        have hB_6 := hB.setk hM_5
        have sm_7 := (xSm.rf (M := M) (b := b) (k := k) (v := v)).tr (xSm.k hM_5)
        refine lv_aload_n hC.1 hC.2.1 dX0_insert_46 rfl (lv_at hl 0 rfl) ?_
        refine x_get hC hw hB_6.1 rfl hinX0 2 (by decide) (List.mem_cons_of_mem _ (List.mem_append_left _ (List.mem_of_getElem? (i := 6) rfl))) rfl dX0_insert_47 ?_
        refine lv_iload_n hC.1 hC.2.1 dX0_insert_50 rfl (lv_at hl 1 rfl) ?_
        refine lv_aload_n hC.1 hC.2.1 dX0_insert_51 rfl (lv_at hl 0 rfl) ?_
        refine x_get hC hw hB_6.1 rfl hinX0 2 (by decide) (List.mem_cons_of_mem _ (List.mem_append_left _ (List.mem_of_getElem? (i := 6) rfl))) rfl dX0_insert_52 ?_
        refine lv_iload_n hC.1 hC.2.1 dX0_insert_55 rfl (lv_at hl 1 rfl) ?_
        refine x_const hC dX0_insert_56 ?_
        refine x_iadd hC dX0_insert_57 ?_
        refine lv_aload_n hC.1 hC.2.1 dX0_insert_58 rfl (lv_at hl 0 rfl) ?_
        refine x_get hC hw hB_6.1 rfl hinX0 4 (by decide) (List.mem_cons_of_mem _ (List.mem_append_left _ (List.mem_of_getElem? (i := 0) rfl))) rfl dX0_insert_59 ?_
        refine lv_iload_n hC.1 hC.2.1 dX0_insert_62 rfl (lv_at hl 1 rfl) ?_
        refine x_isub hC dX0_insert_63 ?_
        refine x_copyI hC hw (lv_size hl) (by decide +kernel) (by decide +kernel) (by decide +kernel) (by decide +kernel) hB_6.2.2.1 (by omega) (by omega) (by omega) (by omega) (by omega) (by decide) (by rw [hRf]; decide) (by rw [hRl]; decide +kernel) dX0_insert_64 (fun H locs hw => ?_)
        obtain ⟨M_8, hM_9⟩ : ∃ z, z = va_up M_4 v (some (.inl (G.2 1, 100, .inl (va_cpy fv fv (p0).toNat (p0 + 1).toNat (sz - p0).toNat)))) := ⟨_, rfl⟩
        rw [← hM_9] at hw
        have hB_10 := hB_6.setv hM_9
        have sm_11 := (sm_7).tr (xSm.v hM_9)
        refine lv_aload_n hC.1 hC.2.1 dX0_insert_67 rfl (lv_at hl 0 rfl) ?_
        refine x_get hC hw hB_10.1 rfl hinX0 1 (by decide) (List.mem_cons_of_mem _ (List.mem_append_left _ (List.mem_of_getElem? (i := 1) rfl))) rfl dX0_insert_68 ?_
        refine lv_iload_n hC.1 hC.2.1 dX0_insert_71 rfl (lv_at hl 1 rfl) ?_
        refine lv_iload_n hC.1 hC.2.1 dX0_insert_72 rfl (lv_at hl 2 rfl) ?_
        refine x_iast hC hw hB_10.2.1 (by omega) (by omega) (by omega) dX0_insert_73 (fun H locs hw => ?_)
        obtain ⟨M_12, hM_13⟩ : ∃ z, z = va_up M_8 k (some (.inl (G.2 1, 100, .inl (upd (va_cpy fk fk (p0).toNat (p0 + 1).toNat (sz - p0).toNat) (p0).toNat (iN (p1)))))) := ⟨_, rfl⟩
        rw [← hM_13] at hw
        have hB_14 := hB_10.setk hM_13
        have sm_15 := (sm_11).tr (xSm.k hM_13)
        refine lv_aload_n hC.1 hC.2.1 dX0_insert_74 rfl (lv_at hl 0 rfl) ?_
        refine x_get hC hw hB_14.1 rfl hinX0 2 (by decide) (List.mem_cons_of_mem _ (List.mem_append_left _ (List.mem_of_getElem? (i := 6) rfl))) rfl dX0_insert_75 ?_
        refine lv_iload_n hC.1 hC.2.1 dX0_insert_78 rfl (lv_at hl 1 rfl) ?_
        refine lv_iload_n hC.1 hC.2.1 dX0_insert_79 rfl (lv_at hl 3 rfl) ?_
        refine x_iast hC hw hB_14.2.2.1 (by omega) (by omega) (by omega) dX0_insert_80 (fun H locs hw => ?_)
        obtain ⟨M_16, hM_17⟩ : ∃ z, z = va_up M_12 v (some (.inl (G.2 1, 100, .inl (upd (va_cpy fv fv (p0).toNat (p0 + 1).toNat (sz - p0).toNat) (p0).toNat (iN (p2)))))) := ⟨_, rfl⟩
        rw [← hM_17] at hw
        have hB_18 := hB_14.setv hM_17
        have sm_19 := (sm_15).tr (xSm.v hM_17)
        refine lv_aload_n hC.1 hC.2.1 dX0_insert_81 rfl (lv_at hl 0 rfl) ?_
        refine lv_dup hC.1 hC.2.1 dX0_insert_82 rfl ?_
        refine x_get hC hw hB_18.1 rfl hinX0 4 (by decide) (List.mem_cons_of_mem _ (List.mem_append_left _ (List.mem_of_getElem? (i := 0) rfl))) rfl dX0_insert_83 ?_
        refine x_const hC dX0_insert_86 ?_
        refine x_iadd hC dX0_insert_87 ?_
        refine x_put (fs2 := [.int no, .ref k, .ref v, .int (iN (((o : Nat) : Int))), .int (iN (sz + 1)), .int (iN (t)), .int (iN (kc))]) hC hw hB_18.1 rfl hinX0 tyX0 tyX0_ok nmX0 4 (by decide) (List.mem_cons_of_mem _ (List.mem_append_left _ (List.mem_of_getElem? (i := 0) rfl))) rfl rfl rfl (Nat.le_of_ble_eq_true rfl) rfl dX0_insert_88 (fun H locs hw => ?_)
        obtain ⟨M_20, hM_21⟩ : ∃ z, z = va_up M_16 b (some (.inr (2, [.int no, .ref k, .ref v, .int (iN (((o : Nat) : Int))), .int (iN (sz + 1)), .int (iN (t)), .int (iN (kc))]))) := ⟨_, rfl⟩
        rw [← hM_21] at hw
        have hB_22 := hB_18.setb hM_21 (by omega) (by omega)
        have sm_23 := (sm_19).tr (xSm.b hM_21)
        refine lv_aload_n hC.1 hC.2.1 dX0_insert_91 rfl (lv_at hl 0 rfl) ?_
        refine lv_dup hC.1 hC.2.1 dX0_insert_92 rfl ?_
        refine x_get hC hw hB_22.1 rfl hinX0 6 (by decide) (List.mem_cons_of_mem _ (List.mem_append_left _ (List.mem_of_getElem? (i := 7) rfl))) rfl dX0_insert_93 ?_
        refine x_const hC dX0_insert_96 ?_
        refine x_iadd hC dX0_insert_97 ?_
        refine x_put (fs2 := [.int no, .ref k, .ref v, .int (iN (((o : Nat) : Int))), .int (iN (sz + 1)), .int (iN (t)), .int (iN (kc + 1))]) hC hw hB_22.1 rfl hinX0 tyX0 tyX0_ok nmX0 6 (by decide) (List.mem_cons_of_mem _ (List.mem_append_left _ (List.mem_of_getElem? (i := 7) rfl))) rfl rfl rfl (Nat.le_of_ble_eq_true rfl) rfl dX0_insert_98 (fun H locs hw => ?_)
        obtain ⟨M_24, hM_25⟩ : ∃ z, z = va_up M_20 b (some (.inr (2, [.int no, .ref k, .ref v, .int (iN (((o : Nat) : Int))), .int (iN (sz + 1)), .int (iN (t)), .int (iN (kc + 1))]))) := ⟨_, rfl⟩
        rw [← hM_25] at hw
        have hB_26 := hB_22.setb hM_25 (by omega) (by omega)
        have sm_27 := (sm_23).tr (xSm.b hM_25)
        exact x_vret hC hw dX0_insert_101 (by first | decide | omega) (by first | decide | omega) ⟨rfl, _, _, _, _, hB_26, sm_27, hV.insZ ho (by omega) hok hov hon (by omega) hop, kcs.one (by omega) (fun q9 => by omega) (fun _ => rfl), rfl⟩
      · exact x_vret hC hw dX0_insert_24 (by first | decide | omega) (by first | decide | omega) (by exfalso; omega)
set_option maxHeartbeats 4000000 in
set_option maxRecDepth 100000 in
theorem c_X0_enter (l : Launch) (G : xG) {M : HM} {b k v o : Nat} {no : Int32} {t kc sz : Int} {fk fv : Nat → Int32} {V : Nat → Int} (hB : Bk G M b k v no (iN ((o : Nat) : Int)) (iN (t)) (iN (kc)) sz fk fv) (ho : o < 3) (hV : BV o V sz.toNat fk fv) (htt : 0 ≤ t ∧ t ≤ 1000000) (hkk : 0 ≤ kc ∧ kc ≤ 1000000) {p0 : Int} (hp0 : -2147483648 ≤ p0 ∧ p0 ≤ 2147483647) {p1 : Int} (hp1 : -2147483648 ≤ p1 ∧ p1 ≤ 2147483647) (hok : 0 ≤ p0 ∧ p0 ≤ 99) (hov : -9999 ≤ p1 ∧ p1 ≤ 9999) : xMet l G yX0_enter wsX0_enter 3 69 0 0 [.ref b, .int (iN (p0)), .int (iN (p1))] M (fun r M1 => ∃ z : Int, r = some (.int (iN z)) ∧ (-10000 ≤ z ∧ z ≤ 9999) ∧ z = V p0.toNat ∧ ∃ (kc1 sz1 : Int) (f1 f2 : Nat → Int32), Bk G M1 b k v no (iN ((o : Nat) : Int)) (iN (t)) (iN (kc1)) sz1 f1 f2 ∧ xSm M M1 b k v ∧ BV o (upV V p0.toNat p1) sz1.toNat f1 f2 ∧ kcs V (upV V p0.toNat p1) kc kc1 1∧ (V p0.toNat = -10000 → kc1 = kc + 1) ∧ (V p0.toNat ≠ -10000 → kc1 = kc)) := by
  refine x_intro (cc := cX0_enter) (maxL := 5) (ret := (some .int)) (by exact pln_RX0) rfl (Nat.le_of_ble_eq_true rfl) ?_
  intro p e R s m args below meth c ls hRf hRc hRs hRl hC hw hl
  obtain ⟨-, -, -, -, hs0, hs1⟩ := id hB
  have hvv := hV.vr (show p0.toNat < 100 from tn_lt (by omega) (by decide))
  have hinX0 : ∀ w ∈ wsX00, w ∈ wsX0_enter := fun w h => (List.mem_cons_of_mem _ (List.mem_append_right _ h))
  have hl : lv_has ls 5 [(0, .ref b), (1, .int (iN (p0))), (2, .int (iN (p1)))] := hl
  refine lv_aload_n hC.1 hC.2.1 dX0_enter_0 rfl (lv_at hl 0 rfl) ?_
  refine lv_iload_n hC.1 hC.2.1 dX0_enter_1 rfl (lv_at hl 1 rfl) ?_
  refine x_callV hC hw (lv_size hl) (c_X0_placeOf l G hB (show o < 3 by first | assumption | omega) hV (by first | assumption | omega) (by first | assumption | omega) (p0 := p0) (by first | assumption | omega)) gX0_enter_X0_placeOf rfl dv_X0_placeOf hB.1 rfl rfl (Nat.le_of_ble_eq_true rfl) (by rw [hRf]; decide) (by rw [hRl]; decide) (by first | (rw [hRc]; decide) | omega) (by first | (rw [hRs]; decide) | omega) dX0_enter_2 (fun r9 M_1 H locs hq hw => ?_)
  obtain ⟨z_2, rfl, hM9, hz_2a, hz_2b, hz_2p, hz_2v⟩ := hq
  rw [hM9] at hw
  show W p l e R s m args below meth c H locs _ _ _ (F0 m 5 ls [.int (iN (z_2))])
  refine lv_istore_n (lv' := [(3, .int (iN (z_2))), (0, .ref b), (1, .int (iN (p0))), (2, .int (iN (p1)))]) hC.1 hC.2.1 dX0_enter_5 rfl hl (by decide) rfl (fun ls hl => ?_)
  refine lv_aload_n hC.1 hC.2.1 dX0_enter_6 rfl (lv_at hl 1 rfl) ?_
  refine lv_iload_n hC.1 hC.2.1 dX0_enter_7 rfl (lv_at hl 0 rfl) ?_
  refine x_callV hC hw (lv_size hl) (c_X0_isPlace l G hB (show o < 3 by first | assumption | omega) hV (by first | assumption | omega) (by first | assumption | omega) (p0 := z_2) (by omega)) gX0_enter_X0_isPlace rfl dv_X0_isPlace hB.1 rfl rfl (Nat.le_of_ble_eq_true rfl) (by rw [hRf]; decide) (by rw [hRl]; decide) (by first | (rw [hRc]; decide) | omega) (by first | (rw [hRs]; decide) | omega) dX0_enter_8 (fun r9 M_3 H locs hq hw => ?_)
  obtain ⟨z_4, rfl, hM9, hz_4⟩ := hq
  rw [hM9] at hw
  show W p l e R s m args below meth c H locs _ _ _ (F0 m 11 ls [.int (iN (z_4))])
  refine x_if_eq (tgt := 42) hC ⟨by omega, by omega⟩ dX0_enter_11 (by decide) (fun c_5 => ?_) (fun c_5 => ?_)
  · refine lv_aload_n hC.1 hC.2.1 dX0_enter_42 rfl (lv_at hl 1 rfl) ?_
    refine lv_iload_n hC.1 hC.2.1 dX0_enter_43 rfl (lv_at hl 0 rfl) ?_
    refine lv_iload_n hC.1 hC.2.1 dX0_enter_44 rfl (lv_at hl 2 rfl) ?_
    refine lv_iload_n hC.1 hC.2.1 dX0_enter_45 rfl (lv_at hl 3 rfl) ?_
    refine x_callV hC hw (lv_size hl) (c_X0_insert l G hB (show o < 3 by first | assumption | omega) hV (by first | assumption | omega) (by first | assumption | omega) (p0 := z_2) (by omega) (p1 := p0) (by first | assumption | omega) (p2 := p1) (by first | assumption | omega) (by omega) (by omega) (by omega) (by omega) (hz_2p (by omega))) gX0_enter_X0_insert rfl dv_X0_insert hB.1 rfl rfl (Nat.le_of_ble_eq_true rfl) (by rw [hRf]; decide) (by rw [hRl]; decide) (by first | (rw [hRc]; decide) | omega) (by first | (rw [hRs]; decide) | omega) dX0_enter_46 (fun r9 M_6 H locs hq hw => ?_)
    obtain ⟨rfl, kcu_7, szu_7, fku_7, fvu_7, hBu_7, smu_7, hVu_7, hksu_7, hkxu_7⟩ := hq
    obtain ⟨-, -, -, -, hsau_7, hsbu_7⟩ := id hBu_7
    obtain ⟨hkau_7, hkbu_7, -⟩ := id hksu_7
    have sm_8 := (xSm.rf (M := M) (b := b) (k := k) (v := v)).tr (smu_7)
    show W p l e R s m args below meth c H locs _ _ _ (F0 m 49 ls [])
    refine x_sipush hC dX0_enter_49 (by decide +kernel) ?_
    exact x_iret hC hw dX0_enter_52 (by first | decide | omega) (by first | decide | omega) ⟨(-10000), rfl, by omega, by omega, _, _, _, _, hBu_7, sm_8, hVu_7, hksu_7, fun _ => by omega, fun q9 => by omega⟩
  · refine lv_aload_n hC.1 hC.2.1 dX0_enter_14 rfl (lv_at hl 1 rfl) ?_
    refine x_get hC hw hB.1 rfl hinX0 1 (by decide) (List.mem_cons_of_mem _ (List.mem_append_left _ (List.mem_append_left _ (List.mem_of_getElem? (i := 0) rfl)))) rfl dX0_enter_15 ?_
    refine lv_iload_n hC.1 hC.2.1 dX0_enter_18 rfl (lv_at hl 0 rfl) ?_
    refine x_iald hC hw hB.2.1 (by omega) (by omega) (by omega) dX0_enter_19 ?_
    have hr_9 := iN_rng (fk (z_2).toNat)
    refine lv_iload_n hC.1 hC.2.1 dX0_enter_20 rfl (lv_at hl 2 rfl) ?_
    refine x_icmp_ne (tgt := 42) hC ⟨by omega, by omega⟩ ⟨by omega, by omega⟩ dX0_enter_21 (by decide) (fun c_10 => ?_) (fun c_10 => ?_)
    · refine lv_aload_n hC.1 hC.2.1 dX0_enter_42 rfl (lv_at hl 1 rfl) ?_
      refine lv_iload_n hC.1 hC.2.1 dX0_enter_43 rfl (lv_at hl 0 rfl) ?_
      refine lv_iload_n hC.1 hC.2.1 dX0_enter_44 rfl (lv_at hl 2 rfl) ?_
      refine lv_iload_n hC.1 hC.2.1 dX0_enter_45 rfl (lv_at hl 3 rfl) ?_
      refine x_callV hC hw (lv_size hl) (c_X0_insert l G hB (show o < 3 by first | assumption | omega) hV (by first | assumption | omega) (by first | assumption | omega) (p0 := z_2) (by omega) (p1 := p0) (by first | assumption | omega) (p2 := p1) (by first | assumption | omega) (by omega) (by omega) (by omega) (by omega) (hz_2p (by omega))) gX0_enter_X0_insert rfl dv_X0_insert hB.1 rfl rfl (Nat.le_of_ble_eq_true rfl) (by rw [hRf]; decide) (by rw [hRl]; decide) (by first | (rw [hRc]; decide) | omega) (by first | (rw [hRs]; decide) | omega) dX0_enter_46 (fun r9 M_11 H locs hq hw => ?_)
      obtain ⟨rfl, kcu_12, szu_12, fku_12, fvu_12, hBu_12, smu_12, hVu_12, hksu_12, hkxu_12⟩ := hq
      obtain ⟨-, -, -, -, hsau_12, hsbu_12⟩ := id hBu_12
      obtain ⟨hkau_12, hkbu_12, -⟩ := id hksu_12
      have sm_13 := (xSm.rf (M := M) (b := b) (k := k) (v := v)).tr (smu_12)
      show W p l e R s m args below meth c H locs _ _ _ (F0 m 49 ls [])
      refine x_sipush hC dX0_enter_49 (by decide +kernel) ?_
      exact x_iret hC hw dX0_enter_52 (by first | decide | omega) (by first | decide | omega) ⟨(-10000), rfl, by omega, by omega, _, _, _, _, hBu_12, sm_13, hVu_12, hksu_12, fun _ => by omega, fun q9 => by omega⟩
    · refine lv_aload_n hC.1 hC.2.1 dX0_enter_24 rfl (lv_at hl 1 rfl) ?_
      refine x_get hC hw hB.1 rfl hinX0 2 (by decide) (List.mem_cons_of_mem _ (List.mem_append_left _ (List.mem_append_left _ (List.mem_of_getElem? (i := 1) rfl)))) rfl dX0_enter_25 ?_
      refine lv_iload_n hC.1 hC.2.1 dX0_enter_28 rfl (lv_at hl 0 rfl) ?_
      refine x_iald hC hw hB.2.2.1 (by omega) (by omega) (by omega) dX0_enter_29 ?_
      have hr_14 := iN_rng (fv (z_2).toNat)
      refine lv_istore (lv' := [(4, .int (iN ((fv (z_2).toNat).toInt))), (3, .int (iN (z_2))), (0, .ref b), (1, .int (iN (p0))), (2, .int (iN (p1)))]) hC.1 hC.2.1 dX0_enter_30 hl (by decide) rfl (fun ls hl => ?_)
      refine lv_aload_n hC.1 hC.2.1 dX0_enter_32 rfl (lv_at hl 2 rfl) ?_
      refine x_get hC hw hB.1 rfl hinX0 2 (by decide) (List.mem_cons_of_mem _ (List.mem_append_left _ (List.mem_append_left _ (List.mem_of_getElem? (i := 1) rfl)))) rfl dX0_enter_33 ?_
      refine lv_iload_n hC.1 hC.2.1 dX0_enter_36 rfl (lv_at hl 1 rfl) ?_
      refine lv_iload_n hC.1 hC.2.1 dX0_enter_37 rfl (lv_at hl 4 rfl) ?_
      refine x_iast hC hw hB.2.2.1 (by omega) (by omega) (by omega) dX0_enter_38 (fun H locs hw => ?_)
      obtain ⟨M_15, hM_16⟩ : ∃ z, z = va_up M v (some (.inl (G.2 1, 100, .inl (upd fv (z_2).toNat (iN (p1)))))) := ⟨_, rfl⟩
      rw [← hM_16] at hw
      have hB_17 := hB.setv hM_16
      have sm_18 := (xSm.rf (M := M) (b := b) (k := k) (v := v)).tr (xSm.v hM_16)
      refine lv_iload hC.1 hC.2.1 dX0_enter_39 (lv_at hl 0 rfl) ?_
      exact x_iret hC hw dX0_enter_41 (by first | decide | omega) (by first | decide | omega) ⟨(fv (z_2).toNat).toInt, rfl, by omega, by omega, _, _, _, _, hB_17, sm_18, hV.overZ hov (p0 := z_2) (by omega) (kNz (by omega)), kcs.one (by omega) (fun _ => rfl) (fun q9 => by omega), fun q9 => by omega, fun _ => rfl⟩
set_option maxHeartbeats 4000000 in
set_option maxRecDepth 100000 in
theorem c_X0_removeRange (l : Launch) (G : xG) {M : HM} {b k v o : Nat} {no : Int32} {t kc sz : Int} {fk fv : Nat → Int32} {V : Nat → Int} (hB : Bk G M b k v no (iN ((o : Nat) : Int)) (iN (t)) (iN (kc)) sz fk fv) (ho : o < 3) (hV : BV o V sz.toNat fk fv) (htt : 0 ≤ t ∧ t ≤ 1000000) (hkk : 0 ≤ kc ∧ kc ≤ 1000000) {p0 : Int} (hp0 : -2147483648 ≤ p0 ∧ p0 ≤ 2147483647) {p1 : Int} (hp1 : -2147483648 ≤ p1 ∧ p1 ≤ 2147483647) {V1 : Nat → Int} (hr1 : ∀ q, q < sz.toNat → V1 (kN fk q) = if p0 ≤ (q : Int) ∧ (q : Int) < p1 then -10000 else V (kN fk q)) (hr2 : ∀ k, k < 100 → V k = -10000 → V1 k = -10000) (hr3 : 0 ≤ p0 ∧ p1 ≤ sz) : xMet l G yX0_removeRange wsX0_removeRange 1 26 0 0 [.ref b, .int (iN (p0)), .int (iN (p1))] M (fun r M1 => ∃ z : Int, r = some (.int (iN z)) ∧ (0 ≤ z ∧ z ≤ 100) ∧ ((p0 < p1 → z = p1 - p0) ∧ (p1 ≤ p0 → z = 0)) ∧ ∃ (kc1 sz1 : Int) (f1 f2 : Nat → Int32), Bk G M1 b k v no (iN ((o : Nat) : Int)) (iN (t)) (iN (kc1)) sz1 f1 f2 ∧ xSm M M1 b k v ∧ BV o V1 sz1.toNat f1 f2 ∧ kcs V V1 kc kc1 1 ∧ sz1 = sz - z ∧ kc1 = kc + (if p0 < p1 then 1 else 0) ∧ ∀ q : Nat, (q : Int) < sz1 → kN f1 q = kN fk (if (q : Int) < p0 then q else q + z.toNat)) := by
  refine x_intro (cc := cX0_removeRange) (maxL := 3) (ret := (some .int)) (by exact pln_RX0) rfl (Nat.le_of_ble_eq_true rfl) ?_
  intro p e R s m args below meth c ls hRf hRc hRs hRl hC hw hl
  obtain ⟨-, -, -, -, hs0, hs1⟩ := id hB
  have hinX0 : ∀ w ∈ wsX00, w ∈ wsX0_removeRange := fun w h => (List.mem_cons_of_mem _ (List.mem_append_right _ h))
  have hl : lv_has ls 3 [(0, .ref b), (1, .int (iN (p0))), (2, .int (iN (p1)))] := hl
  refine lv_iload_n hC.1 hC.2.1 dX0_removeRange_0 rfl (lv_at hl 1 rfl) ?_
  refine x_if_lt (tgt := 17) hC ⟨by omega, by omega⟩ dX0_removeRange_1 (by decide) (fun c_1 => ?_) (fun c_1 => ?_)
  · refine x_const hC dX0_removeRange_17 ?_
    exact x_iret hC hw dX0_removeRange_18 (by first | decide | omega) (by first | decide | omega) ⟨0, rfl, by omega, by omega, _, _, _, _, hB, xSm.rf, hV.rem0 (by omega) hr1 hr2, (kcs.le ((kcs.rf (V := V)).cg (fun k9 hk9 => (rem_cg hV (by omega) hr1 hr2 k9 hk9).symm)) (by omega)), by omega, by omega, fun q9 hq9 => by rw [show ((0 : Int)).toNat = 0 from rfl]; split <;> rfl⟩
  · refine lv_iload_n hC.1 hC.2.1 dX0_removeRange_4 rfl (lv_at hl 1 rfl) ?_
    refine lv_iload_n hC.1 hC.2.1 dX0_removeRange_5 rfl (lv_at hl 2 rfl) ?_
    refine x_icmp_ge (tgt := 17) hC ⟨by omega, by omega⟩ ⟨by omega, by omega⟩ dX0_removeRange_6 (by decide) (fun c_2 => ?_) (fun c_2 => ?_)
    · refine x_const hC dX0_removeRange_17 ?_
      exact x_iret hC hw dX0_removeRange_18 (by first | decide | omega) (by first | decide | omega) ⟨0, rfl, by omega, by omega, _, _, _, _, hB, xSm.rf, hV.rem0 (by omega) hr1 hr2, (kcs.le ((kcs.rf (V := V)).cg (fun k9 hk9 => (rem_cg hV (by omega) hr1 hr2 k9 hk9).symm)) (by omega)), by omega, by omega, fun q9 hq9 => by rw [show ((0 : Int)).toNat = 0 from rfl]; split <;> rfl⟩
    · refine lv_iload_n hC.1 hC.2.1 dX0_removeRange_9 rfl (lv_at hl 2 rfl) ?_
      refine lv_aload_n hC.1 hC.2.1 dX0_removeRange_10 rfl (lv_at hl 0 rfl) ?_
      refine x_get hC hw hB.1 rfl hinX0 4 (by decide) (List.mem_cons_of_mem _ (List.mem_append_left _ (List.mem_of_getElem? (i := 0) rfl))) rfl dX0_removeRange_11 ?_
      refine x_icmp_le (tgt := 19) hC ⟨by omega, by omega⟩ ⟨by omega, by omega⟩ dX0_removeRange_14 (by decide) (fun c_3 => ?_) (fun c_3 => ?_)
      · refine lv_aload_n hC.1 hC.2.1 dX0_removeRange_19 rfl (lv_at hl 0 rfl) ?_
        refine x_get hC hw hB.1 rfl hinX0 1 (by decide) (List.mem_cons_of_mem _ (List.mem_append_left _ (List.mem_of_getElem? (i := 1) rfl))) rfl dX0_removeRange_20 ?_
        refine lv_iload_n hC.1 hC.2.1 dX0_removeRange_23 rfl (lv_at hl 2 rfl) ?_
        refine lv_aload_n hC.1 hC.2.1 dX0_removeRange_24 rfl (lv_at hl 0 rfl) ?_
        refine x_get hC hw hB.1 rfl hinX0 1 (by decide) (List.mem_cons_of_mem _ (List.mem_append_left _ (List.mem_of_getElem? (i := 1) rfl))) rfl dX0_removeRange_25 ?_
        refine lv_iload_n hC.1 hC.2.1 dX0_removeRange_28 rfl (lv_at hl 1 rfl) ?_
        refine lv_aload_n hC.1 hC.2.1 dX0_removeRange_29 rfl (lv_at hl 0 rfl) ?_
        refine x_get hC hw hB.1 rfl hinX0 4 (by decide) (List.mem_cons_of_mem _ (List.mem_append_left _ (List.mem_of_getElem? (i := 0) rfl))) rfl dX0_removeRange_30 ?_
        refine lv_iload_n hC.1 hC.2.1 dX0_removeRange_33 rfl (lv_at hl 2 rfl) ?_
        refine x_isub hC dX0_removeRange_34 ?_
        refine x_copyI hC hw (lv_size hl) (by decide +kernel) (by decide +kernel) (by decide +kernel) (by decide +kernel) hB.2.1 (by omega) (by omega) (by omega) (by omega) (by omega) (by decide) (by rw [hRf]; decide) (by rw [hRl]; decide +kernel) dX0_removeRange_35 (fun H locs hw => ?_)
        obtain ⟨M_4, hM_5⟩ : ∃ z, z = va_up M k (some (.inl (G.2 1, 100, .inl (va_cpy fk fk (p1).toNat (p0).toNat (sz - p1).toNat)))) := ⟨_, rfl⟩
        rw [← hM_5] at hw
        have hB_6 := hB.setk hM_5
        have sm_7 := (xSm.rf (M := M) (b := b) (k := k) (v := v)).tr (xSm.k hM_5)
        refine lv_aload_n hC.1 hC.2.1 dX0_removeRange_38 rfl (lv_at hl 0 rfl) ?_
        refine x_get hC hw hB_6.1 rfl hinX0 2 (by decide) (List.mem_cons_of_mem _ (List.mem_append_left _ (List.mem_of_getElem? (i := 6) rfl))) rfl dX0_removeRange_39 ?_
        refine lv_iload_n hC.1 hC.2.1 dX0_removeRange_42 rfl (lv_at hl 2 rfl) ?_
        refine lv_aload_n hC.1 hC.2.1 dX0_removeRange_43 rfl (lv_at hl 0 rfl) ?_
        refine x_get hC hw hB_6.1 rfl hinX0 2 (by decide) (List.mem_cons_of_mem _ (List.mem_append_left _ (List.mem_of_getElem? (i := 6) rfl))) rfl dX0_removeRange_44 ?_
        refine lv_iload_n hC.1 hC.2.1 dX0_removeRange_47 rfl (lv_at hl 1 rfl) ?_
        refine lv_aload_n hC.1 hC.2.1 dX0_removeRange_48 rfl (lv_at hl 0 rfl) ?_
        refine x_get hC hw hB_6.1 rfl hinX0 4 (by decide) (List.mem_cons_of_mem _ (List.mem_append_left _ (List.mem_of_getElem? (i := 0) rfl))) rfl dX0_removeRange_49 ?_
        refine lv_iload_n hC.1 hC.2.1 dX0_removeRange_52 rfl (lv_at hl 2 rfl) ?_
        refine x_isub hC dX0_removeRange_53 ?_
        refine x_copyI hC hw (lv_size hl) (by decide +kernel) (by decide +kernel) (by decide +kernel) (by decide +kernel) hB_6.2.2.1 (by omega) (by omega) (by omega) (by omega) (by omega) (by decide) (by rw [hRf]; decide) (by rw [hRl]; decide +kernel) dX0_removeRange_54 (fun H locs hw => ?_)
        obtain ⟨M_8, hM_9⟩ : ∃ z, z = va_up M_4 v (some (.inl (G.2 1, 100, .inl (va_cpy fv fv (p1).toNat (p0).toNat (sz - p1).toNat)))) := ⟨_, rfl⟩
        rw [← hM_9] at hw
        have hB_10 := hB_6.setv hM_9
        have sm_11 := (sm_7).tr (xSm.v hM_9)
        refine lv_aload_n hC.1 hC.2.1 dX0_removeRange_57 rfl (lv_at hl 0 rfl) ?_
        refine lv_dup hC.1 hC.2.1 dX0_removeRange_58 rfl ?_
        refine x_get hC hw hB_10.1 rfl hinX0 4 (by decide) (List.mem_cons_of_mem _ (List.mem_append_left _ (List.mem_of_getElem? (i := 0) rfl))) rfl dX0_removeRange_59 ?_
        refine lv_iload_n hC.1 hC.2.1 dX0_removeRange_62 rfl (lv_at hl 2 rfl) ?_
        refine lv_iload_n hC.1 hC.2.1 dX0_removeRange_63 rfl (lv_at hl 1 rfl) ?_
        refine x_isub hC dX0_removeRange_64 ?_
        refine x_isub hC dX0_removeRange_65 ?_
        refine x_put (fs2 := [.int no, .ref k, .ref v, .int (iN (((o : Nat) : Int))), .int (iN (sz - (p1 - p0))), .int (iN (t)), .int (iN (kc))]) hC hw hB_10.1 rfl hinX0 tyX0 tyX0_ok nmX0 4 (by decide) (List.mem_cons_of_mem _ (List.mem_append_left _ (List.mem_of_getElem? (i := 0) rfl))) rfl rfl rfl (Nat.le_of_ble_eq_true rfl) rfl dX0_removeRange_66 (fun H locs hw => ?_)
        obtain ⟨M_12, hM_13⟩ : ∃ z, z = va_up M_8 b (some (.inr (2, [.int no, .ref k, .ref v, .int (iN (((o : Nat) : Int))), .int (iN (sz - (p1 - p0))), .int (iN (t)), .int (iN (kc))]))) := ⟨_, rfl⟩
        rw [← hM_13] at hw
        have hB_14 := hB_10.setb hM_13 (by omega) (by omega)
        have sm_15 := (sm_11).tr (xSm.b hM_13)
        refine lv_aload_n hC.1 hC.2.1 dX0_removeRange_69 rfl (lv_at hl 0 rfl) ?_
        refine lv_dup hC.1 hC.2.1 dX0_removeRange_70 rfl ?_
        refine x_get hC hw hB_14.1 rfl hinX0 6 (by decide) (List.mem_cons_of_mem _ (List.mem_append_left _ (List.mem_of_getElem? (i := 7) rfl))) rfl dX0_removeRange_71 ?_
        refine x_const hC dX0_removeRange_74 ?_
        refine x_iadd hC dX0_removeRange_75 ?_
        refine x_put (fs2 := [.int no, .ref k, .ref v, .int (iN (((o : Nat) : Int))), .int (iN (sz - (p1 - p0))), .int (iN (t)), .int (iN (kc + 1))]) hC hw hB_14.1 rfl hinX0 tyX0 tyX0_ok nmX0 6 (by decide) (List.mem_cons_of_mem _ (List.mem_append_left _ (List.mem_of_getElem? (i := 7) rfl))) rfl rfl rfl (Nat.le_of_ble_eq_true rfl) rfl dX0_removeRange_76 (fun H locs hw => ?_)
        obtain ⟨M_16, hM_17⟩ : ∃ z, z = va_up M_12 b (some (.inr (2, [.int no, .ref k, .ref v, .int (iN (((o : Nat) : Int))), .int (iN (sz - (p1 - p0))), .int (iN (t)), .int (iN (kc + 1))]))) := ⟨_, rfl⟩
        rw [← hM_17] at hw
        have hB_18 := hB_14.setb hM_17 (by omega) (by omega)
        have sm_19 := (sm_15).tr (xSm.b hM_17)
        refine lv_iload_n hC.1 hC.2.1 dX0_removeRange_79 rfl (lv_at hl 2 rfl) ?_
        refine lv_iload_n hC.1 hC.2.1 dX0_removeRange_80 rfl (lv_at hl 1 rfl) ?_
        refine x_isub hC dX0_removeRange_81 ?_
        exact x_iret hC hw dX0_removeRange_82 (by first | decide | omega) (by first | decide | omega) ⟨p1 - p0, rfl, by omega, by omega, _, _, _, _, hB_18, sm_19, (hV.remZ (by omega) (by omega) (by omega) hr1 hr2).1, kcs.rng hV (by first | assumption | omega) (by first | assumption | omega) (by omega) hr1 hr2 rfl, by omega, by omega, (hV.remZ (by omega) (by omega) (by omega) hr1 hr2).2⟩
      · refine x_const hC dX0_removeRange_17 ?_
        exact x_iret hC hw dX0_removeRange_18 (by first | decide | omega) (by first | decide | omega) ⟨0, rfl, by omega, by omega, _, _, _, _, hB, xSm.rf, hV.rem0 (by omega) hr1 hr2, (kcs.le ((kcs.rf (V := V)).cg (fun k9 hk9 => (rem_cg hV (by omega) hr1 hr2 k9 hk9).symm)) (by omega)), by omega, by omega, fun q9 hq9 => by rw [show ((0 : Int)).toNat = 0 from rfl]; split <;> rfl⟩
set_option maxHeartbeats 4000000 in
set_option maxRecDepth 100000 in
theorem c_X0_removeKey (l : Launch) (G : xG) {M : HM} {b k v o : Nat} {no : Int32} {t kc sz : Int} {fk fv : Nat → Int32} {V : Nat → Int} (hB : Bk G M b k v no (iN ((o : Nat) : Int)) (iN (t)) (iN (kc)) sz fk fv) (ho : o < 3) (hV : BV o V sz.toNat fk fv) (htt : 0 ≤ t ∧ t ≤ 1000000) (hkk : 0 ≤ kc ∧ kc ≤ 1000000) {p0 : Int} (hp0 : -2147483648 ≤ p0 ∧ p0 ≤ 2147483647) (hok : 0 ≤ p0 ∧ p0 ≤ 99) : xMet l G yX0_removeKey wsX0_removeKey 3 69 0 0 [.ref b, .int (iN (p0))] M (fun r M1 => ∃ z : Int, r = some (.int (iN z)) ∧ (-10000 ≤ z ∧ z ≤ 9999) ∧ z = V p0.toNat ∧ ∃ (kc1 sz1 : Int) (f1 f2 : Nat → Int32), Bk G M1 b k v no (iN ((o : Nat) : Int)) (iN (t)) (iN (kc1)) sz1 f1 f2 ∧ xSm M M1 b k v ∧ BV o (upV V p0.toNat (-10000)) sz1.toNat f1 f2 ∧ kcs V (upV V p0.toNat (-10000)) kc kc1 1 ∧ (V p0.toNat = -10000 → kc1 = kc) ∧ (V p0.toNat ≠ -10000 → kc1 = kc + 1)) := by
  refine x_intro (cc := cX0_removeKey) (maxL := 4) (ret := (some .int)) (by exact pln_RX0) rfl (Nat.le_of_ble_eq_true rfl) ?_
  intro p e R s m args below meth c ls hRf hRc hRs hRl hC hw hl
  obtain ⟨-, -, -, -, hs0, hs1⟩ := id hB
  have hvv := hV.vr (show p0.toNat < 100 from tn_lt (by omega) (by decide))
  have hl : lv_has ls 4 [(0, .ref b), (1, .int (iN (p0)))] := hl
  refine lv_aload_n hC.1 hC.2.1 dX0_removeKey_0 rfl (lv_at hl 0 rfl) ?_
  refine lv_iload_n hC.1 hC.2.1 dX0_removeKey_1 rfl (lv_at hl 1 rfl) ?_
  refine x_callV hC hw (lv_size hl) (c_X0_placeOf l G hB (show o < 3 by first | assumption | omega) hV (by first | assumption | omega) (by first | assumption | omega) (p0 := p0) (by first | assumption | omega)) gX0_removeKey_X0_placeOf rfl dv_X0_placeOf hB.1 rfl rfl (Nat.le_of_ble_eq_true rfl) (by rw [hRf]; decide) (by rw [hRl]; decide) (by first | (rw [hRc]; decide) | omega) (by first | (rw [hRs]; decide) | omega) dX0_removeKey_2 (fun r9 M_1 H locs hq hw => ?_)
  obtain ⟨z_2, rfl, hM9, hz_2a, hz_2b, hz_2p, hz_2v⟩ := hq
  rw [hM9] at hw
  show W p l e R s m args below meth c H locs _ _ _ (F0 m 5 ls [.int (iN (z_2))])
  refine lv_istore_n (lv' := [(2, .int (iN (z_2))), (0, .ref b), (1, .int (iN (p0)))]) hC.1 hC.2.1 dX0_removeKey_5 rfl hl (by decide) rfl (fun ls hl => ?_)
  refine lv_aload_n hC.1 hC.2.1 dX0_removeKey_6 rfl (lv_at hl 1 rfl) ?_
  refine lv_iload_n hC.1 hC.2.1 dX0_removeKey_7 rfl (lv_at hl 0 rfl) ?_
  refine x_callV hC hw (lv_size hl) (c_X0_keyAt l G hB (show o < 3 by first | assumption | omega) hV (by first | assumption | omega) (by first | assumption | omega) (p0 := z_2) (by omega)) gX0_removeKey_X0_keyAt rfl dv_X0_keyAt hB.1 rfl rfl (Nat.le_of_ble_eq_true rfl) (by rw [hRf]; decide) (by rw [hRl]; decide) (by first | (rw [hRc]; decide) | omega) (by first | (rw [hRs]; decide) | omega) dX0_removeKey_8 (fun r9 M_3 H locs hq hw => ?_)
  obtain ⟨z_4, rfl, hM9, hz_4, hz_4b, hz_4k⟩ := hq
  rw [hM9] at hw
  show W p l e R s m args below meth c H locs _ _ _ (F0 m 11 ls [.int (iN (z_4))])
  refine lv_iload_n hC.1 hC.2.1 dX0_removeKey_11 rfl (lv_at hl 2 rfl) ?_
  refine x_icmp_eq (tgt := 19) hC ⟨by omega, by omega⟩ ⟨by omega, by omega⟩ dX0_removeKey_12 (by decide) (fun c_5 => ?_) (fun c_5 => ?_)
  · refine lv_aload_n hC.1 hC.2.1 dX0_removeKey_19 rfl (lv_at hl 1 rfl) ?_
    refine lv_iload_n hC.1 hC.2.1 dX0_removeKey_20 rfl (lv_at hl 0 rfl) ?_
    refine x_callV hC hw (lv_size hl) (c_X0_valueAt l G hB (show o < 3 by first | assumption | omega) hV (by first | assumption | omega) (by first | assumption | omega) (p0 := z_2) (by omega)) gX0_removeKey_X0_valueAt rfl dv_X0_valueAt hB.1 rfl rfl (Nat.le_of_ble_eq_true rfl) (by rw [hRf]; decide) (by rw [hRl]; decide) (by first | (rw [hRc]; decide) | omega) (by first | (rw [hRs]; decide) | omega) dX0_removeKey_21 (fun r9 M_6 H locs hq hw => ?_)
    obtain ⟨z_7, rfl, hM9, hz_7, hz_7b, hz_7k⟩ := hq
    rw [hM9] at hw
    show W p l e R s m args below meth c H locs _ _ _ (F0 m 24 ls [.int (iN (z_7))])
    refine lv_istore_n (lv' := [(3, .int (iN (z_7))), (2, .int (iN (z_2))), (0, .ref b), (1, .int (iN (p0)))]) hC.1 hC.2.1 dX0_removeKey_24 rfl hl (by decide) rfl (fun ls hl => ?_)
    refine lv_aload_n hC.1 hC.2.1 dX0_removeKey_25 rfl (lv_at hl 2 rfl) ?_
    refine lv_iload_n hC.1 hC.2.1 dX0_removeKey_26 rfl (lv_at hl 1 rfl) ?_
    refine lv_iload_n hC.1 hC.2.1 dX0_removeKey_27 rfl (lv_at hl 1 rfl) ?_
    refine x_const hC dX0_removeKey_28 ?_
    refine x_iadd hC dX0_removeKey_29 ?_
    refine x_callV hC hw (lv_size hl) (c_X0_removeRange l G hB (show o < 3 by first | assumption | omega) hV (by first | assumption | omega) (by first | assumption | omega) (p0 := z_2) (by omega) (p1 := (z_2 + 1)) (by omega) (V1 := (upV V (p0).toNat (-10000))) (hV.one1 (p0 := z_2) (by omega) (kNz (by omega))) up_mono (by omega)) gX0_removeKey_X0_removeRange rfl dv_X0_removeRange hB.1 rfl rfl (Nat.le_of_ble_eq_true rfl) (by rw [hRf]; decide) (by rw [hRl]; decide) (by first | (rw [hRc]; decide) | omega) (by first | (rw [hRs]; decide) | omega) dX0_removeKey_30 (fun r9 M_8 H locs hq hw => ?_)
    obtain ⟨z_10, rfl, hz_10, hz_10r, kcu_9, szu_9, fku_9, fvu_9, hBu_9, smu_9, hVu_9, hksu_9, hsxu_9, hkxu_9, hfxu_9⟩ := hq
    obtain ⟨-, -, -, -, hsau_9, hsbu_9⟩ := id hBu_9
    obtain ⟨hkau_9, hkbu_9, -⟩ := id hksu_9
    have sm_11 := (xSm.rf (M := M) (b := b) (k := k) (v := v)).tr (smu_9)
    show W p l e R s m args below meth c H locs _ _ _ (F0 m 33 ls [.int (iN (z_10))])
    refine lv_pop hC.1 hC.2.1 dX0_removeKey_33 rfl ?_
    refine lv_iload_n hC.1 hC.2.1 dX0_removeKey_34 rfl (lv_at hl 0 rfl) ?_
    exact x_iret hC hw dX0_removeKey_35 (by first | decide | omega) (by first | decide | omega) ⟨z_7, rfl, by omega, by omega, _, _, _, _, hBu_9, sm_11, hVu_9, hksu_9, fun q9 => by omega, fun _ => by rw [hkxu_9, if_pos (by omega)]⟩
  · refine x_sipush hC dX0_removeKey_15 (by decide +kernel) ?_
    exact x_iret hC hw dX0_removeKey_18 (by first | decide | omega) (by first | decide | omega) ⟨(-10000), rfl, by omega, by omega, _, _, _, _, hB, xSm.rf, (by rw [upV_self (by omega)]; exact hV), (by rw [upV_self (by omega)]; exact kcs.rf.le (by omega)), fun _ => rfl, fun q9 => by omega⟩
set_option maxHeartbeats 4000000 in
set_option maxRecDepth 100000 in
theorem c_X0_removeAt (l : Launch) (G : xG) {M : HM} {b k v o : Nat} {no : Int32} {t kc sz : Int} {fk fv : Nat → Int32} {V : Nat → Int} (hB : Bk G M b k v no (iN ((o : Nat) : Int)) (iN (t)) (iN (kc)) sz fk fv) (ho : o < 3) (hV : BV o V sz.toNat fk fv) (htt : 0 ≤ t ∧ t ≤ 1000000) (hkk : 0 ≤ kc ∧ kc ≤ 1000000) {p0 : Int} (hp0 : -2147483648 ≤ p0 ∧ p0 ≤ 2147483647) : xMet l G yX0_removeAt wsX0_removeAt 2 48 0 0 [.ref b, .int (iN (p0))] M (fun r M1 => ∃ z : Int, r = some (.int (iN z)) ∧ (z = -10000 ∨ (0 ≤ z ∧ z ≤ 99)) ∧ ((p0 < 0 ∨ sz ≤ p0) → z = -10000) ∧ (0 ≤ p0 ∧ p0 < sz → z = (fk p0.toNat).toInt ∧ 0 ≤ z ∧ z ≤ 99) ∧ ∃ (kc1 sz1 : Int) (f1 f2 : Nat → Int32), Bk G M1 b k v no (iN ((o : Nat) : Int)) (iN (t)) (iN (kc1)) sz1 f1 f2 ∧ xSm M M1 b k v ∧ BV o (rmV V z) sz1.toNat f1 f2 ∧ kcs V (rmV V z) kc kc1 1 ∧ ((z = -10000 → sz1 = sz) ∧ (z ≠ -10000 → sz1 = sz - 1)) ∧ kc1 = kc + (if z = -10000 then 0 else 1) ∧ (∀ q : Nat, (q : Int) < sz1 → (0 ≤ p0 ∧ p0 < sz) → kN f1 q = kN fk (if (q : Int) < p0 then q else q + 1))) := by
  refine x_intro (cc := cX0_removeAt) (maxL := 3) (ret := (some .int)) (by exact pln_RX0) rfl (Nat.le_of_ble_eq_true rfl) ?_
  intro p e R s m args below meth c ls hRf hRc hRs hRl hC hw hl
  obtain ⟨-, -, -, -, hs0, hs1⟩ := id hB
  have hl : lv_has ls 3 [(0, .ref b), (1, .int (iN (p0)))] := hl
  refine lv_aload_n hC.1 hC.2.1 dX0_removeAt_0 rfl (lv_at hl 0 rfl) ?_
  refine lv_iload_n hC.1 hC.2.1 dX0_removeAt_1 rfl (lv_at hl 1 rfl) ?_
  refine x_callV hC hw (lv_size hl) (c_X0_keyAt l G hB (show o < 3 by first | assumption | omega) hV (by first | assumption | omega) (by first | assumption | omega) (p0 := p0) (by first | assumption | omega)) gX0_removeAt_X0_keyAt rfl dv_X0_keyAt hB.1 rfl rfl (Nat.le_of_ble_eq_true rfl) (by rw [hRf]; decide) (by rw [hRl]; decide) (by first | (rw [hRc]; decide) | omega) (by first | (rw [hRs]; decide) | omega) dX0_removeAt_2 (fun r9 M_1 H locs hq hw => ?_)
  obtain ⟨z_2, rfl, hM9, hz_2, hz_2b, hz_2k⟩ := hq
  rw [hM9] at hw
  show W p l e R s m args below meth c H locs _ _ _ (F0 m 5 ls [.int (iN (z_2))])
  refine lv_istore_n (lv' := [(2, .int (iN (z_2))), (0, .ref b), (1, .int (iN (p0)))]) hC.1 hC.2.1 dX0_removeAt_5 rfl hl (by decide) rfl (fun ls hl => ?_)
  refine lv_iload_n hC.1 hC.2.1 dX0_removeAt_6 rfl (lv_at hl 0 rfl) ?_
  refine x_sipush hC dX0_removeAt_7 (by decide +kernel) ?_
  refine x_icmp_eq (tgt := 22) hC ⟨by omega, by omega⟩ ⟨by omega, by omega⟩ dX0_removeAt_10 (by decide) (fun c_3 => ?_) (fun c_3 => ?_)
  · refine lv_iload_n hC.1 hC.2.1 dX0_removeAt_22 rfl (lv_at hl 0 rfl) ?_
    exact x_iret hC hw dX0_removeAt_23 (by first | decide | omega) (by first | decide | omega) ⟨z_2, rfl, by omega, by omega, by omega, _, _, _, _, hB, xSm.rf, (by rw [rmV_0 (by omega)]; exact hV), (by rw [rmV_0 (by omega)]; exact kcs.rf.le (by omega)), by omega, by rw [if_pos (by omega)]; omega, fun q9 hq9 h9 => by exfalso; omega⟩
  · refine lv_aload_n hC.1 hC.2.1 dX0_removeAt_13 rfl (lv_at hl 1 rfl) ?_
    refine lv_iload_n hC.1 hC.2.1 dX0_removeAt_14 rfl (lv_at hl 2 rfl) ?_
    refine lv_iload_n hC.1 hC.2.1 dX0_removeAt_15 rfl (lv_at hl 2 rfl) ?_
    refine x_const hC dX0_removeAt_16 ?_
    refine x_iadd hC dX0_removeAt_17 ?_
    refine x_callV hC hw (lv_size hl) (c_X0_removeRange l G hB (show o < 3 by first | assumption | omega) hV (by first | assumption | omega) (by first | assumption | omega) (p0 := p0) (by first | assumption | omega) (p1 := (p0 + 1)) (by omega) (V1 := (upV V (kN fk (p0).toNat) (-10000))) (hV.one1 (by omega) rfl) up_mono (by omega)) gX0_removeAt_X0_removeRange rfl dv_X0_removeRange hB.1 rfl rfl (Nat.le_of_ble_eq_true rfl) (by rw [hRf]; decide) (by rw [hRl]; decide) (by first | (rw [hRc]; decide) | omega) (by first | (rw [hRs]; decide) | omega) dX0_removeAt_18 (fun r9 M_4 H locs hq hw => ?_)
    obtain ⟨z_6, rfl, hz_6, hz_6r, kcu_5, szu_5, fku_5, fvu_5, hBu_5, smu_5, hVu_5, hksu_5, hsxu_5, hkxu_5, hfxu_5⟩ := hq
    obtain ⟨-, -, -, -, hsau_5, hsbu_5⟩ := id hBu_5
    obtain ⟨hkau_5, hkbu_5, -⟩ := id hksu_5
    have sm_7 := (xSm.rf (M := M) (b := b) (k := k) (v := v)).tr (smu_5)
    show W p l e R s m args below meth c H locs _ _ _ (F0 m 21 ls [.int (iN (z_6))])
    refine lv_pop hC.1 hC.2.1 dX0_removeAt_21 rfl ?_
    refine lv_iload_n hC.1 hC.2.1 dX0_removeAt_22 rfl (lv_at hl 0 rfl) ?_
    exact x_iret hC hw dX0_removeAt_23 (by first | decide | omega) (by first | decide | omega) ⟨z_2, rfl, by omega, by omega, by omega, _, _, _, _, hBu_5, sm_7, (by rw [← (show upV V (kN fk (p0).toNat) (-10000) = rmV V z_2 by rw [rmV_1 (by omega), kNz (show (fk (p0).toNat).toInt = z_2 by omega)])]; exact hVu_5), (by rw [← (show upV V (kN fk (p0).toNat) (-10000) = rmV V z_2 by rw [rmV_1 (by omega), kNz (show (fk (p0).toNat).toInt = z_2 by omega)])]; exact hksu_5), by omega, by rw [hkxu_5, if_pos (by omega), if_neg (by omega)], fun q9 hq9 h9 => by rw [hfxu_5 q9 hq9, show (z_6).toNat = 1 from tn_eq (by omega)]⟩
set_option maxHeartbeats 4000000 in
set_option maxRecDepth 100000 in
theorem c_X0_bounded (l : Launch) (G : xG) {M : HM} {p0 : Int} (hp0 : -2147483648 ≤ p0 ∧ p0 ≤ 2147483647) : xMet l G yX0_bounded wsX0_bounded 1 21 0 0 [.int (iN (p0))] M (fun r M1 => ∃ z : Int, r = some (.int (iN z)) ∧ M1 = M ∧ (-9999 ≤ z ∧ z ≤ 9999) ∧ ((9999 < p0 ∧ z = 9999) ∨ (p0 < -9999 ∧ z = -9999) ∨ ((-9999 ≤ p0 ∧ p0 ≤ 9999) ∧ z = p0))) := by
  refine x_intro (cc := cX0_bounded) (maxL := 1) (ret := (some .int)) (by exact pln_RX0) rfl (Nat.le_of_ble_eq_true rfl) ?_
  intro p e R s m args below meth c ls hRf hRc hRs hRl hC hw hl
  have hl : lv_has ls 1 [(0, .int (iN (p0)))] := hl
  refine x_sipush hC dX0_bounded_0 (by decide +kernel) ?_
  refine x_sipush hC dX0_bounded_3 (by decide +kernel) ?_
  refine lv_iload_n hC.1 hC.2.1 dX0_bounded_6 rfl (lv_at hl 0 rfl) ?_
  refine x_min hC (lv_size hl) ⟨by omega, by omega⟩ ⟨by omega, by omega⟩ (by decide +kernel) (by decide +kernel) (by decide +kernel) (by decide +kernel) (by rw [hRf]; decide) (by rw [hRl]; exact Nat.le_of_ble_eq_true rfl) (by first | (rw [hRc]; decide) | omega) (by first | (rw [hRs]; decide) | omega) dX0_bounded_7 (fun z_1 hz_1 => ?_)
  refine x_max hC (lv_size hl) ⟨by omega, by omega⟩ ⟨by omega, by omega⟩ (by decide +kernel) (by decide +kernel) (by decide +kernel) (by decide +kernel) (by rw [hRf]; decide) (by rw [hRl]; exact Nat.le_of_ble_eq_true rfl) (by first | (rw [hRc]; decide) | omega) (by first | (rw [hRs]; decide) | omega) dX0_bounded_10 (fun z_2 hz_2 => ?_)
  exact x_iret hC hw dX0_bounded_13 (by first | decide | omega) (by first | decide | omega) ⟨z_2, rfl, rfl, by omega, by omega⟩
set_option maxHeartbeats 4000000 in
set_option maxRecDepth 100000 in
theorem c_X0_signs (l : Launch) (G : xG) {M : HM} {p0 : Int} (hp0 : -2147483648 ≤ p0 ∧ p0 ≤ 2147483647) : xMet l G yX0_signs wsX0_signs 1 21 0 0 [.int (iN (p0))] M (fun r M1 => ∃ z : Int, r = some (.int (iN z)) ∧ M1 = M ∧ (1 ≤ z ∧ z ≤ 5)) := by
  refine x_intro (cc := cX0_signs) (maxL := 3) (ret := (some .int)) (by exact pln_RX0) rfl (Nat.le_of_ble_eq_true rfl) ?_
  intro p e R s m args below meth c ls hRf hRc hRs hRl hC hw hl
  have hl : lv_has ls 3 [(0, .int (iN (p0)))] := hl
  refine lv_iload_n hC.1 hC.2.1 dX0_signs_0 rfl (lv_at hl 0 rfl) ?_
  refine x_abs hC (lv_size hl) ⟨by omega, by omega⟩ (by decide +kernel) (by decide +kernel) (by decide +kernel) (by decide +kernel) (by rw [hRf]; decide) (by rw [hRl]; decide) (by first | (rw [hRc]; decide) | omega) (by first | (rw [hRs]; decide) | omega) dX0_signs_1 (fun z_1 hz_1 hz_1b => ?_)
  refine lv_istore_n (lv' := [(1, .int (iN (z_1))), (0, .int (iN (p0)))]) hC.1 hC.2.1 dX0_signs_4 rfl hl (by decide) rfl (fun ls hl => ?_)
  refine lv_iload_n hC.1 hC.2.1 dX0_signs_5 rfl (lv_at hl 0 rfl) ?_
  refine x_bipush hC dX0_signs_6 (by decide +kernel) ?_
  refine x_icmp_ge (tgt := 15) hC ⟨by omega, by omega⟩ ⟨by omega, by omega⟩ dX0_signs_8 (by decide) (fun c_2 => ?_) (fun c_2 => ?_)
  · refine lv_iload_n hC.1 hC.2.1 dX0_signs_15 rfl (lv_at hl 0 rfl) ?_
    refine x_bipush hC dX0_signs_16 (by decide +kernel) ?_
    refine x_icmp_ge (tgt := 25) hC ⟨by omega, by omega⟩ ⟨by omega, by omega⟩ dX0_signs_18 (by decide) (fun c_3 => ?_) (fun c_3 => ?_)
    · refine lv_iload_n hC.1 hC.2.1 dX0_signs_25 rfl (lv_at hl 0 rfl) ?_
      refine x_sipush hC dX0_signs_26 (by decide +kernel) ?_
      refine x_icmp_ge (tgt := 36) hC ⟨by omega, by omega⟩ ⟨by omega, by omega⟩ dX0_signs_29 (by decide) (fun c_4 => ?_) (fun c_4 => ?_)
      · refine x_const hC dX0_signs_36 ?_
        refine lv_istore_n (lv' := [(2, .int (iN (4))), (1, .int (iN (z_1))), (0, .int (iN (p0)))]) hC.1 hC.2.1 dX0_signs_37 rfl hl (by decide) rfl (fun ls hl => ?_)
        refine lv_iload_n hC.1 hC.2.1 dX0_signs_38 rfl (lv_at hl 2 rfl) ?_
        refine x_if_ge (tgt := 48) hC ⟨by omega, by omega⟩ dX0_signs_39 (by decide) (fun c_5 => ?_) (fun c_5 => ?_)
        · refine lv_iload_n hC.1 hC.2.1 dX0_signs_48 rfl (lv_at hl 0 rfl) ?_
          exact x_iret hC hw dX0_signs_49 (by first | decide | omega) (by first | decide | omega) ⟨4, rfl, rfl, by omega⟩
        · refine lv_iload_n hC.1 hC.2.1 dX0_signs_42 rfl (lv_at hl 0 rfl) ?_
          refine x_const hC dX0_signs_43 ?_
          refine x_iadd hC dX0_signs_44 ?_
          refine lv_goto (tgt := 49) hC.1 hC.2.1 dX0_signs_45 (by decide) ?_
          exact x_iret hC hw dX0_signs_49 (by first | decide | omega) (by first | decide | omega) ⟨4 + 1, rfl, rfl, by omega⟩
      · refine x_const hC dX0_signs_32 ?_
        refine lv_goto (tgt := 37) hC.1 hC.2.1 dX0_signs_33 (by decide) ?_
        refine lv_istore_n (lv' := [(2, .int (iN (3))), (1, .int (iN (z_1))), (0, .int (iN (p0)))]) hC.1 hC.2.1 dX0_signs_37 rfl hl (by decide) rfl (fun ls hl => ?_)
        refine lv_iload_n hC.1 hC.2.1 dX0_signs_38 rfl (lv_at hl 2 rfl) ?_
        refine x_if_ge (tgt := 48) hC ⟨by omega, by omega⟩ dX0_signs_39 (by decide) (fun c_6 => ?_) (fun c_6 => ?_)
        · refine lv_iload_n hC.1 hC.2.1 dX0_signs_48 rfl (lv_at hl 0 rfl) ?_
          exact x_iret hC hw dX0_signs_49 (by first | decide | omega) (by first | decide | omega) ⟨3, rfl, rfl, by omega⟩
        · refine lv_iload_n hC.1 hC.2.1 dX0_signs_42 rfl (lv_at hl 0 rfl) ?_
          refine x_const hC dX0_signs_43 ?_
          refine x_iadd hC dX0_signs_44 ?_
          refine lv_goto (tgt := 49) hC.1 hC.2.1 dX0_signs_45 (by decide) ?_
          exact x_iret hC hw dX0_signs_49 (by first | decide | omega) (by first | decide | omega) ⟨3 + 1, rfl, rfl, by omega⟩
    · refine x_const hC dX0_signs_21 ?_
      refine lv_goto (tgt := 37) hC.1 hC.2.1 dX0_signs_22 (by decide) ?_
      refine lv_istore_n (lv' := [(2, .int (iN (2))), (1, .int (iN (z_1))), (0, .int (iN (p0)))]) hC.1 hC.2.1 dX0_signs_37 rfl hl (by decide) rfl (fun ls hl => ?_)
      refine lv_iload_n hC.1 hC.2.1 dX0_signs_38 rfl (lv_at hl 2 rfl) ?_
      refine x_if_ge (tgt := 48) hC ⟨by omega, by omega⟩ dX0_signs_39 (by decide) (fun c_7 => ?_) (fun c_7 => ?_)
      · refine lv_iload_n hC.1 hC.2.1 dX0_signs_48 rfl (lv_at hl 0 rfl) ?_
        exact x_iret hC hw dX0_signs_49 (by first | decide | omega) (by first | decide | omega) ⟨2, rfl, rfl, by omega⟩
      · refine lv_iload_n hC.1 hC.2.1 dX0_signs_42 rfl (lv_at hl 0 rfl) ?_
        refine x_const hC dX0_signs_43 ?_
        refine x_iadd hC dX0_signs_44 ?_
        refine lv_goto (tgt := 49) hC.1 hC.2.1 dX0_signs_45 (by decide) ?_
        exact x_iret hC hw dX0_signs_49 (by first | decide | omega) (by first | decide | omega) ⟨2 + 1, rfl, rfl, by omega⟩
  · refine x_const hC dX0_signs_11 ?_
    refine lv_goto (tgt := 37) hC.1 hC.2.1 dX0_signs_12 (by decide) ?_
    refine lv_istore_n (lv' := [(2, .int (iN (1))), (1, .int (iN (z_1))), (0, .int (iN (p0)))]) hC.1 hC.2.1 dX0_signs_37 rfl hl (by decide) rfl (fun ls hl => ?_)
    refine lv_iload_n hC.1 hC.2.1 dX0_signs_38 rfl (lv_at hl 2 rfl) ?_
    refine x_if_ge (tgt := 48) hC ⟨by omega, by omega⟩ dX0_signs_39 (by decide) (fun c_8 => ?_) (fun c_8 => ?_)
    · refine lv_iload_n hC.1 hC.2.1 dX0_signs_48 rfl (lv_at hl 0 rfl) ?_
      exact x_iret hC hw dX0_signs_49 (by first | decide | omega) (by first | decide | omega) ⟨1, rfl, rfl, by omega⟩
    · refine lv_iload_n hC.1 hC.2.1 dX0_signs_42 rfl (lv_at hl 0 rfl) ?_
      refine x_const hC dX0_signs_43 ?_
      refine x_iadd hC dX0_signs_44 ?_
      refine lv_goto (tgt := 49) hC.1 hC.2.1 dX0_signs_45 (by decide) ?_
      exact x_iret hC hw dX0_signs_49 (by first | decide | omega) (by first | decide | omega) ⟨1 + 1, rfl, rfl, by omega⟩
set_option maxHeartbeats 4000000 in
set_option maxRecDepth 100000 in
theorem c_X0_enterUnlessZero (l : Launch) (G : xG) {M : HM} {b k v o : Nat} {no : Int32} {t kc sz : Int} {fk fv : Nat → Int32} {V : Nat → Int} (hB : Bk G M b k v no (iN ((o : Nat) : Int)) (iN (t)) (iN (kc)) sz fk fv) (ho : o < 3) (hV : BV o V sz.toNat fk fv) (htt : 0 ≤ t ∧ t ≤ 1000000) (hkk : 0 ≤ kc ∧ kc ≤ 1000000) {p0 : Int} (hp0 : -2147483648 ≤ p0 ∧ p0 ≤ 2147483647) {p1 : Int} (hp1 : -2147483648 ≤ p1 ∧ p1 ≤ 2147483647) (hok : 0 ≤ p0 ∧ p0 ≤ 99) (hov : -9999 ≤ p1 ∧ p1 ≤ 9999) : xMet l G yX0_enterUnlessZero wsX0_enterUnlessZero 4 93 0 0 [.ref b, .int (iN (p0)), .int (iN (p1))] M (fun r M1 => ∃ z : Int, r = some (.int (iN z)) ∧ (-10000 ≤ z ∧ z ≤ 9999) ∧ z = (if p1 = 0 then -10000 else p1) ∧ ∃ (kc1 sz1 : Int) (f1 f2 : Nat → Int32), Bk G M1 b k v no (iN ((o : Nat) : Int)) (iN (t)) (iN (kc1)) sz1 f1 f2 ∧ xSm M M1 b k v ∧ BV o (upV V p0.toNat (if p1 = 0 then -10000 else p1)) sz1.toNat f1 f2 ∧ kcs V (upV V p0.toNat (if p1 = 0 then -10000 else p1)) kc kc1 1) := by
  refine x_intro (cc := cX0_enterUnlessZero) (maxL := 3) (ret := (some .int)) (by exact pln_RX0) rfl (Nat.le_of_ble_eq_true rfl) ?_
  intro p e R s m args below meth c ls hRf hRc hRs hRl hC hw hl
  obtain ⟨-, -, -, -, hs0, hs1⟩ := id hB
  have hvv := hV.vr (show p0.toNat < 100 from tn_lt (by omega) (by decide))
  have hl : lv_has ls 3 [(0, .ref b), (1, .int (iN (p0))), (2, .int (iN (p1)))] := hl
  refine lv_iload_n hC.1 hC.2.1 dX0_enterUnlessZero_0 rfl (lv_at hl 2 rfl) ?_
  refine x_if_ne (tgt := 14) hC ⟨by omega, by omega⟩ dX0_enterUnlessZero_1 (by decide) (fun c_1 => ?_) (fun c_1 => ?_)
  · refine lv_aload_n hC.1 hC.2.1 dX0_enterUnlessZero_14 rfl (lv_at hl 0 rfl) ?_
    refine lv_iload_n hC.1 hC.2.1 dX0_enterUnlessZero_15 rfl (lv_at hl 1 rfl) ?_
    refine lv_iload_n hC.1 hC.2.1 dX0_enterUnlessZero_16 rfl (lv_at hl 2 rfl) ?_
    refine x_callV hC hw (lv_size hl) (c_X0_enter l G hB (show o < 3 by first | assumption | omega) hV (by first | assumption | omega) (by first | assumption | omega) (p0 := p0) (by first | assumption | omega) (p1 := p1) (by first | assumption | omega) (by omega) (by omega)) gX0_enterUnlessZero_X0_enter rfl dv_X0_enter hB.1 rfl rfl (Nat.le_of_ble_eq_true rfl) (by rw [hRf]; decide) (by rw [hRl]; decide) (by first | (rw [hRc]; decide) | omega) (by first | (rw [hRs]; decide) | omega) dX0_enterUnlessZero_17 (fun r9 M_2 H locs hq hw => ?_)
    obtain ⟨z_4, rfl, hz_4, hz_4v, kcu_3, szu_3, fku_3, fvu_3, hBu_3, smu_3, hVu_3, hksu_3, hka1u_3, hkb1u_3⟩ := hq
    obtain ⟨-, -, -, -, hsau_3, hsbu_3⟩ := id hBu_3
    obtain ⟨hkau_3, hkbu_3, -⟩ := id hksu_3
    have sm_5 := (xSm.rf (M := M) (b := b) (k := k) (v := v)).tr (smu_3)
    show W p l e R s m args below meth c H locs _ _ _ (F0 m 20 ls [.int (iN (z_4))])
    refine lv_pop hC.1 hC.2.1 dX0_enterUnlessZero_20 rfl ?_
    refine lv_iload_n hC.1 hC.2.1 dX0_enterUnlessZero_21 rfl (lv_at hl 2 rfl) ?_
    exact x_iret hC hw dX0_enterUnlessZero_22 (by first | decide | omega) (by first | decide | omega) ⟨p1, rfl, by omega, (show _ = (if p1 = 0 then -10000 else p1) by (repeat' split) <;> omega), _, _, _, _, hBu_3, sm_5, (by rw [show (if p1 = 0 then -10000 else p1) = p1 by (repeat' split) <;> omega]; exact hVu_3), (by rw [show (if p1 = 0 then -10000 else p1) = p1 by (repeat' split) <;> omega]; exact hksu_3)⟩
  · refine lv_aload_n hC.1 hC.2.1 dX0_enterUnlessZero_4 rfl (lv_at hl 0 rfl) ?_
    refine lv_iload_n hC.1 hC.2.1 dX0_enterUnlessZero_5 rfl (lv_at hl 1 rfl) ?_
    refine x_callV hC hw (lv_size hl) (c_X0_removeKey l G hB (show o < 3 by first | assumption | omega) hV (by first | assumption | omega) (by first | assumption | omega) (p0 := p0) (by first | assumption | omega) (by omega)) gX0_enterUnlessZero_X0_removeKey rfl dv_X0_removeKey hB.1 rfl rfl (Nat.le_of_ble_eq_true rfl) (by rw [hRf]; decide) (by rw [hRl]; decide) (by first | (rw [hRc]; decide) | omega) (by first | (rw [hRs]; decide) | omega) dX0_enterUnlessZero_6 (fun r9 M_6 H locs hq hw => ?_)
    obtain ⟨z_8, rfl, hz_8, hz_8v, kcu_7, szu_7, fku_7, fvu_7, hBu_7, smu_7, hVu_7, hksu_7, hka1u_7, hkb1u_7⟩ := hq
    obtain ⟨-, -, -, -, hsau_7, hsbu_7⟩ := id hBu_7
    obtain ⟨hkau_7, hkbu_7, -⟩ := id hksu_7
    have sm_9 := (xSm.rf (M := M) (b := b) (k := k) (v := v)).tr (smu_7)
    show W p l e R s m args below meth c H locs _ _ _ (F0 m 9 ls [.int (iN (z_8))])
    refine lv_pop hC.1 hC.2.1 dX0_enterUnlessZero_9 rfl ?_
    refine x_sipush hC dX0_enterUnlessZero_10 (by decide +kernel) ?_
    exact x_iret hC hw dX0_enterUnlessZero_13 (by first | decide | omega) (by first | decide | omega) ⟨(-10000), rfl, by omega, (show _ = (if p1 = 0 then -10000 else p1) by (repeat' split) <;> omega), _, _, _, _, hBu_7, sm_9, (by rw [show (if p1 = 0 then -10000 else p1) = (-10000) by (repeat' split) <;> omega]; exact hVu_7), (by rw [show (if p1 = 0 then -10000 else p1) = (-10000) by (repeat' split) <;> omega]; exact hksu_7)⟩
set_option maxHeartbeats 4000000 in
set_option maxRecDepth 100000 in
theorem c_X0_putTogether (l : Launch) (G : xG) {M : HM} {b k v o : Nat} {no : Int32} {t kc sz : Int} {fk fv : Nat → Int32} {V : Nat → Int} (hB : Bk G M b k v no (iN ((o : Nat) : Int)) (iN (t)) (iN (kc)) sz fk fv) (ho : o < 3) (hV : BV o V sz.toNat fk fv) (htt : 0 ≤ t ∧ t ≤ 1000000) (hkk : 0 ≤ kc ∧ kc ≤ 1000000) {p0 : Int} (hp0 : -2147483648 ≤ p0 ∧ p0 ≤ 2147483647) {p1 : Int} (hp1 : -2147483648 ≤ p1 ∧ p1 ≤ 2147483647) (hok : 0 ≤ p0 ∧ p0 ≤ 99) (hov : -9999 ≤ p1 ∧ p1 ≤ 9999) : xMet l G yX0_putTogether wsX0_putTogether 5 115 0 0 [.ref b, .int (iN (p0)), .int (iN (p1))] M (fun r M1 => ∃ z : Int, r = some (.int (iN z)) ∧ (-10000 ≤ z ∧ z ≤ 9999) ∧ z = (mgN (V p0.toNat) p1) ∧ ∃ (kc1 sz1 : Int) (f1 f2 : Nat → Int32), Bk G M1 b k v no (iN ((o : Nat) : Int)) (iN (t)) (iN (kc1)) sz1 f1 f2 ∧ xSm M M1 b k v ∧ BV o (upV V p0.toNat (mgN (V p0.toNat) p1)) sz1.toNat f1 f2 ∧ kcs V (upV V p0.toNat (mgN (V p0.toNat) p1)) kc kc1 1) := by
  refine x_intro (cc := cX0_putTogether) (maxL := 4) (ret := (some .int)) (by exact pln_RX0) rfl (Nat.le_of_ble_eq_true rfl) ?_
  intro p e R s m args below meth c ls hRf hRc hRs hRl hC hw hl
  obtain ⟨-, -, -, -, hs0, hs1⟩ := id hB
  have hvv := hV.vr (show p0.toNat < 100 from tn_lt (by omega) (by decide))
  have hl : lv_has ls 4 [(0, .ref b), (1, .int (iN (p0))), (2, .int (iN (p1)))] := hl
  refine lv_aload_n hC.1 hC.2.1 dX0_putTogether_0 rfl (lv_at hl 0 rfl) ?_
  refine lv_iload_n hC.1 hC.2.1 dX0_putTogether_1 rfl (lv_at hl 1 rfl) ?_
  refine x_callV hC hw (lv_size hl) (c_X0_holds l G hB (show o < 3 by first | assumption | omega) hV (by first | assumption | omega) (by first | assumption | omega) (p0 := p0) (by first | assumption | omega)) gX0_putTogether_X0_holds rfl dv_X0_holds hB.1 rfl rfl (Nat.le_of_ble_eq_true rfl) (by rw [hRf]; decide) (by rw [hRl]; decide) (by first | (rw [hRc]; decide) | omega) (by first | (rw [hRs]; decide) | omega) dX0_putTogether_2 (fun r9 M_1 H locs hq hw => ?_)
  obtain ⟨z_2, rfl, hM9, hz_2, hz_2v⟩ := hq
  rw [hM9] at hw
  show W p l e R s m args below meth c H locs _ _ _ (F0 m 5 ls [.int (iN (z_2))])
  refine x_if_ne (tgt := 17) hC ⟨by omega, by omega⟩ dX0_putTogether_5 (by decide) (fun c_3 => ?_) (fun c_3 => ?_)
  · refine lv_aload_n hC.1 hC.2.1 dX0_putTogether_17 rfl (lv_at hl 0 rfl) ?_
    refine lv_iload_n hC.1 hC.2.1 dX0_putTogether_18 rfl (lv_at hl 1 rfl) ?_
    refine x_callV hC hw (lv_size hl) (c_X0_valueOf l G hB (show o < 3 by first | assumption | omega) hV (by first | assumption | omega) (by first | assumption | omega) (p0 := p0) (by first | assumption | omega)) gX0_putTogether_X0_valueOf rfl dv_X0_valueOf hB.1 rfl rfl (Nat.le_of_ble_eq_true rfl) (by rw [hRf]; decide) (by rw [hRl]; decide) (by first | (rw [hRc]; decide) | omega) (by first | (rw [hRs]; decide) | omega) dX0_putTogether_19 (fun r9 M_4 H locs hq hw => ?_)
    obtain ⟨z_5, rfl, hM9, hz_5, hz_5v, hz_5n⟩ := hq
    rw [hM9] at hw
    show W p l e R s m args below meth c H locs _ _ _ (F0 m 22 ls [.int (iN (z_5))])
    refine lv_iload_n hC.1 hC.2.1 dX0_putTogether_22 rfl (lv_at hl 2 rfl) ?_
    refine x_iadd hC dX0_putTogether_23 ?_
    refine x_callS hC hw (lv_size hl) (c_X0_bounded l G (M := M) (p0 := (z_5 + p1)) (by omega)) gX0_putTogether_X0_bounded rfl dv_X0_bounded_s rfl (Nat.le_of_ble_eq_true rfl) (by rw [hRf]; decide) (by rw [hRl]; decide) (by first | (rw [hRc]; decide) | omega) (by first | (rw [hRs]; decide) | omega) dX0_putTogether_24 (fun r9 M_6 H locs hq hw => ?_)
    obtain ⟨z_7, rfl, hM9, hz_7, hz_7d⟩ := hq
    rw [hM9] at hw
    show W p l e R s m args below meth c H locs _ _ _ (F0 m 27 ls [.int (iN (z_7))])
    refine lv_istore_n (lv' := [(3, .int (iN (z_7))), (0, .ref b), (1, .int (iN (p0))), (2, .int (iN (p1)))]) hC.1 hC.2.1 dX0_putTogether_27 rfl hl (by decide) rfl (fun ls hl => ?_)
    refine lv_aload_n hC.1 hC.2.1 dX0_putTogether_28 rfl (lv_at hl 1 rfl) ?_
    refine lv_iload_n hC.1 hC.2.1 dX0_putTogether_29 rfl (lv_at hl 2 rfl) ?_
    refine lv_iload_n hC.1 hC.2.1 dX0_putTogether_30 rfl (lv_at hl 0 rfl) ?_
    refine x_callV hC hw (lv_size hl) (c_X0_enterUnlessZero l G hB (show o < 3 by first | assumption | omega) hV (by first | assumption | omega) (by first | assumption | omega) (p0 := p0) (by first | assumption | omega) (p1 := z_7) (by omega) (by omega) (by omega)) gX0_putTogether_X0_enterUnlessZero rfl dv_X0_enterUnlessZero hB.1 rfl rfl (Nat.le_of_ble_eq_true rfl) (by rw [hRf]; decide) (by rw [hRl]; decide) (by first | (rw [hRc]; decide) | omega) (by first | (rw [hRs]; decide) | omega) dX0_putTogether_31 (fun r9 M_8 H locs hq hw => ?_)
    obtain ⟨z_10, rfl, hz_10, hz_10v, kcu_9, szu_9, fku_9, fvu_9, hBu_9, smu_9, hVu_9, hksu_9⟩ := hq
    obtain ⟨-, -, -, -, hsau_9, hsbu_9⟩ := id hBu_9
    obtain ⟨hkau_9, hkbu_9, -⟩ := id hksu_9
    have sm_11 := (xSm.rf (M := M) (b := b) (k := k) (v := v)).tr (smu_9)
    show W p l e R s m args below meth c H locs _ _ _ (F0 m 34 ls [.int (iN (z_10))])
    exact x_iret hC hw dX0_putTogether_34 (by first | decide | omega) (by first | decide | omega) ⟨z_10, rfl, by omega, (show _ = (mgN (V p0.toNat) p1) by have e9 := bdN_eq hz_7d; have e8 : V (p0).toNat = z_5 := (by omega); simp only [mgN]; rw [e8, e9, if_neg (by omega)]; first | done | omega), _, _, _, _, hBu_9, sm_11, (by rw [show (mgN (V p0.toNat) p1) = (if z_7 = 0 then -10000 else z_7) by have e9 := bdN_eq hz_7d; have e8 : V (p0).toNat = z_5 := (by omega); simp only [mgN]; rw [e8, e9, if_neg (by omega)]; first | done | omega]; exact hVu_9), (by rw [show (mgN (V p0.toNat) p1) = (if z_7 = 0 then -10000 else z_7) by have e9 := bdN_eq hz_7d; have e8 : V (p0).toNat = z_5 := (by omega); simp only [mgN]; rw [e8, e9, if_neg (by omega)]; first | done | omega]; exact hksu_9)⟩
  · refine lv_aload_n hC.1 hC.2.1 dX0_putTogether_8 rfl (lv_at hl 0 rfl) ?_
    refine lv_iload_n hC.1 hC.2.1 dX0_putTogether_9 rfl (lv_at hl 1 rfl) ?_
    refine lv_iload_n hC.1 hC.2.1 dX0_putTogether_10 rfl (lv_at hl 2 rfl) ?_
    refine x_callV hC hw (lv_size hl) (c_X0_enter l G hB (show o < 3 by first | assumption | omega) hV (by first | assumption | omega) (by first | assumption | omega) (p0 := p0) (by first | assumption | omega) (p1 := p1) (by first | assumption | omega) (by omega) (by omega)) gX0_putTogether_X0_enter rfl dv_X0_enter hB.1 rfl rfl (Nat.le_of_ble_eq_true rfl) (by rw [hRf]; decide) (by rw [hRl]; decide) (by first | (rw [hRc]; decide) | omega) (by first | (rw [hRs]; decide) | omega) dX0_putTogether_11 (fun r9 M_12 H locs hq hw => ?_)
    obtain ⟨z_14, rfl, hz_14, hz_14v, kcu_13, szu_13, fku_13, fvu_13, hBu_13, smu_13, hVu_13, hksu_13, hka1u_13, hkb1u_13⟩ := hq
    obtain ⟨-, -, -, -, hsau_13, hsbu_13⟩ := id hBu_13
    obtain ⟨hkau_13, hkbu_13, -⟩ := id hksu_13
    have sm_15 := (xSm.rf (M := M) (b := b) (k := k) (v := v)).tr (smu_13)
    show W p l e R s m args below meth c H locs _ _ _ (F0 m 14 ls [.int (iN (z_14))])
    refine lv_pop hC.1 hC.2.1 dX0_putTogether_14 rfl ?_
    refine lv_iload_n hC.1 hC.2.1 dX0_putTogether_15 rfl (lv_at hl 2 rfl) ?_
    exact x_iret hC hw dX0_putTogether_16 (by first | decide | omega) (by first | decide | omega) ⟨p1, rfl, by omega, (show _ = (mgN (V p0.toNat) p1) by simp only [mgN]; rw [if_pos (by omega)]), _, _, _, _, hBu_13, sm_15, (by rw [show (mgN (V p0.toNat) p1) = p1 by simp only [mgN]; rw [if_pos (by omega)]]; exact hVu_13), (by rw [show (mgN (V p0.toNat) p1) = p1 by simp only [mgN]; rw [if_pos (by omega)]]; exact hksu_13)⟩
set_option maxHeartbeats 4000000 in
set_option maxRecDepth 100000 in
theorem c_X0_growKey (l : Launch) (G : xG) {M : HM} {b k v o : Nat} {no : Int32} {t kc sz : Int} {fk fv : Nat → Int32} {V : Nat → Int} (hB : Bk G M b k v no (iN ((o : Nat) : Int)) (iN (t)) (iN (kc)) sz fk fv) (ho : o < 3) (hV : BV o V sz.toNat fk fv) (htt : 0 ≤ t ∧ t ≤ 1000000) (hkk : 0 ≤ kc ∧ kc ≤ 999000) {p0 : Int} (hp0 : -2147483648 ≤ p0 ∧ p0 ≤ 2147483647) (hok : 0 ≤ p0 ∧ p0 ≤ 99) : xMet l G yX0_growKey wsX0_growKey 5 112 0 0 [.ref b, .int (iN (p0))] M (fun r M1 => ∃ z : Int, r = some (.int (iN z)) ∧ (-10000 ≤ z ∧ z ≤ 9999) ∧ z = (gwN (V p0.toNat) p0) ∧ ∃ (kc1 sz1 : Int) (f1 f2 : Nat → Int32), Bk G M1 b k v no (iN ((o : Nat) : Int)) (iN (t)) (iN (kc1)) sz1 f1 f2 ∧ xSm M M1 b k v ∧ BV o (upV V p0.toNat (gwN (V p0.toNat) p0)) sz1.toNat f1 f2 ∧ kcs V (upV V p0.toNat (gwN (V p0.toNat) p0)) kc kc1 1) := by
  refine x_intro (cc := cX0_growKey) (maxL := 2) (ret := (some .int)) (by exact pln_RX0) rfl (Nat.le_of_ble_eq_true rfl) ?_
  intro p e R s m args below meth c ls hRf hRc hRs hRl hC hw hl
  obtain ⟨-, -, -, -, hs0, hs1⟩ := id hB
  have hvv := hV.vr (show p0.toNat < 100 from tn_lt (by omega) (by decide))
  have hl : lv_has ls 2 [(0, .ref b), (1, .int (iN (p0)))] := hl
  refine lv_aload_n hC.1 hC.2.1 dX0_growKey_0 rfl (lv_at hl 0 rfl) ?_
  refine lv_iload_n hC.1 hC.2.1 dX0_growKey_1 rfl (lv_at hl 1 rfl) ?_
  refine x_callV hC hw (lv_size hl) (c_X0_holds l G hB (show o < 3 by first | assumption | omega) hV (by first | assumption | omega) (by first | assumption | omega) (p0 := p0) (by first | assumption | omega)) gX0_growKey_X0_holds rfl dv_X0_holds hB.1 rfl rfl (Nat.le_of_ble_eq_true rfl) (by rw [hRf]; decide) (by rw [hRl]; decide) (by first | (rw [hRc]; decide) | omega) (by first | (rw [hRs]; decide) | omega) dX0_growKey_2 (fun r9 M_1 H locs hq hw => ?_)
  obtain ⟨z_2, rfl, hM9, hz_2, hz_2v⟩ := hq
  rw [hM9] at hw
  show W p l e R s m args below meth c H locs _ _ _ (F0 m 5 ls [.int (iN (z_2))])
  refine x_if_ne (tgt := 27) hC ⟨by omega, by omega⟩ dX0_growKey_5 (by decide) (fun c_3 => ?_) (fun c_3 => ?_)
  · refine lv_aload_n hC.1 hC.2.1 dX0_growKey_27 rfl (lv_at hl 0 rfl) ?_
    refine lv_iload_n hC.1 hC.2.1 dX0_growKey_28 rfl (lv_at hl 1 rfl) ?_
    refine x_callV hC hw (lv_size hl) (c_X0_valueOf l G hB (show o < 3 by first | assumption | omega) hV (by first | assumption | omega) (by first | assumption | omega) (p0 := p0) (by first | assumption | omega)) gX0_growKey_X0_valueOf rfl dv_X0_valueOf hB.1 rfl rfl (Nat.le_of_ble_eq_true rfl) (by rw [hRf]; decide) (by rw [hRl]; decide) (by first | (rw [hRc]; decide) | omega) (by first | (rw [hRs]; decide) | omega) dX0_growKey_29 (fun r9 M_4 H locs hq hw => ?_)
    obtain ⟨z_5, rfl, hM9, hz_5, hz_5v, hz_5n⟩ := hq
    rw [hM9] at hw
    show W p l e R s m args below meth c H locs _ _ _ (F0 m 32 ls [.int (iN (z_5))])
    exact x_iret hC hw dX0_growKey_32 (by first | decide | omega) (by first | decide | omega) ⟨z_5, rfl, by omega, (show _ = (gwN (V p0.toNat) p0) by simp only [gwN]; (repeat' split) <;> omega), _, _, _, _, hB, xSm.rf, (by rw [show (gwN (V p0.toNat) p0) = V (p0).toNat by simp only [gwN]; (repeat' split) <;> omega]; rw [upV_self rfl]; exact hV), (by rw [show (gwN (V p0.toNat) p0) = V (p0).toNat by simp only [gwN]; (repeat' split) <;> omega]; rw [upV_self rfl]; exact kcs.rf.le (by omega))⟩
  · refine lv_iload_n hC.1 hC.2.1 dX0_growKey_8 rfl (lv_at hl 1 rfl) ?_
    refine x_bipush hC dX0_growKey_9 (by decide +kernel) ?_
    refine x_iremN hC (by omega) (by omega) (by omega) (by omega) dX0_growKey_11 ?_
    refine x_if_eq (tgt := 27) hC ⟨by omega, by omega⟩ dX0_growKey_12 (by decide) (fun c_6 => ?_) (fun c_6 => ?_)
    · refine lv_aload_n hC.1 hC.2.1 dX0_growKey_27 rfl (lv_at hl 0 rfl) ?_
      refine lv_iload_n hC.1 hC.2.1 dX0_growKey_28 rfl (lv_at hl 1 rfl) ?_
      refine x_callV hC hw (lv_size hl) (c_X0_valueOf l G hB (show o < 3 by first | assumption | omega) hV (by first | assumption | omega) (by first | assumption | omega) (p0 := p0) (by first | assumption | omega)) gX0_growKey_X0_valueOf rfl dv_X0_valueOf hB.1 rfl rfl (Nat.le_of_ble_eq_true rfl) (by rw [hRf]; decide) (by rw [hRl]; decide) (by first | (rw [hRc]; decide) | omega) (by first | (rw [hRs]; decide) | omega) dX0_growKey_29 (fun r9 M_7 H locs hq hw => ?_)
      obtain ⟨z_8, rfl, hM9, hz_8, hz_8v, hz_8n⟩ := hq
      rw [hM9] at hw
      show W p l e R s m args below meth c H locs _ _ _ (F0 m 32 ls [.int (iN (z_8))])
      exact x_iret hC hw dX0_growKey_32 (by first | decide | omega) (by first | decide | omega) ⟨z_8, rfl, by omega, (show _ = (gwN (V p0.toNat) p0) by simp only [gwN]; (repeat' split) <;> omega), _, _, _, _, hB, xSm.rf, (by rw [show (gwN (V p0.toNat) p0) = V (p0).toNat by simp only [gwN]; (repeat' split) <;> omega]; rw [upV_self rfl]; exact hV), (by rw [show (gwN (V p0.toNat) p0) = V (p0).toNat by simp only [gwN]; (repeat' split) <;> omega]; rw [upV_self rfl]; exact kcs.rf.le (by omega))⟩
    · refine lv_aload_n hC.1 hC.2.1 dX0_growKey_15 rfl (lv_at hl 0 rfl) ?_
      refine lv_iload_n hC.1 hC.2.1 dX0_growKey_16 rfl (lv_at hl 1 rfl) ?_
      refine x_const hC dX0_growKey_17 ?_
      refine lv_iload_n hC.1 hC.2.1 dX0_growKey_18 rfl (lv_at hl 1 rfl) ?_
      refine x_imul hC dX0_growKey_19 ?_
      refine x_bipush hC dX0_growKey_20 (by decide +kernel) ?_
      refine x_isub hC dX0_growKey_22 ?_
      refine x_callV hC hw (lv_size hl) (c_X0_enter l G hB (show o < 3 by first | assumption | omega) hV (by first | assumption | omega) (by first | assumption | omega) (p0 := p0) (by first | assumption | omega) (p1 := ((3 * p0) - 50)) (by omega) (by omega) (by omega)) gX0_growKey_X0_enter rfl dv_X0_enter hB.1 rfl rfl (Nat.le_of_ble_eq_true rfl) (by rw [hRf]; decide) (by rw [hRl]; decide) (by first | (rw [hRc]; decide) | omega) (by first | (rw [hRs]; decide) | omega) dX0_growKey_23 (fun r9 M_9 H locs hq hw => ?_)
      obtain ⟨z_11, rfl, hz_11, hz_11v, kcu_10, szu_10, fku_10, fvu_10, hBu_10, smu_10, hVu_10, hksu_10, hka1u_10, hkb1u_10⟩ := hq
      obtain ⟨-, -, -, -, hsau_10, hsbu_10⟩ := id hBu_10
      obtain ⟨hkau_10, hkbu_10, -⟩ := id hksu_10
      have sm_12 := (xSm.rf (M := M) (b := b) (k := k) (v := v)).tr (smu_10)
      show W p l e R s m args below meth c H locs _ _ _ (F0 m 26 ls [.int (iN (z_11))])
      refine lv_pop hC.1 hC.2.1 dX0_growKey_26 rfl ?_
      refine lv_aload_n hC.1 hC.2.1 dX0_growKey_27 rfl (lv_at hl 0 rfl) ?_
      refine lv_iload_n hC.1 hC.2.1 dX0_growKey_28 rfl (lv_at hl 1 rfl) ?_
      refine x_callV hC hw (lv_size hl) (c_X0_valueOf l G hBu_10 (show o < 3 by first | assumption | omega) hVu_10 (by first | assumption | omega) (by first | assumption | omega) (p0 := p0) (by first | assumption | omega)) gX0_growKey_X0_valueOf rfl dv_X0_valueOf hBu_10.1 rfl rfl (Nat.le_of_ble_eq_true rfl) (by rw [hRf]; decide) (by rw [hRl]; decide) (by first | (rw [hRc]; decide) | omega) (by first | (rw [hRs]; decide) | omega) dX0_growKey_29 (fun r9 M_13 H locs hq hw => ?_)
      obtain ⟨z_14, rfl, hM9, hz_14, hz_14v, hz_14n⟩ := hq
      rw [hM9] at hw
      have hz_14x : z_14 = ((3 * p0) - 50) := by have e9 := hz_14v (by omega); rw [upV_s] at e9; exact e9
      show W p l e R s m args below meth c H locs _ _ _ (F0 m 32 ls [.int (iN (z_14))])
      exact x_iret hC hw dX0_growKey_32 (by first | decide | omega) (by first | decide | omega) ⟨z_14, rfl, by omega, (show _ = (gwN (V p0.toNat) p0) by simp only [gwN]; (repeat' split) <;> omega), _, _, _, _, hBu_10, sm_12, (by rw [show (gwN (V p0.toNat) p0) = ((3 * p0) - 50) by simp only [gwN]; (repeat' split) <;> omega]; exact hVu_10), (by rw [show (gwN (V p0.toNat) p0) = ((3 * p0) - 50) by simp only [gwN]; (repeat' split) <;> omega]; exact hksu_10)⟩
set_option maxHeartbeats 4000000 in
set_option maxRecDepth 100000 in
theorem c_X0_halveKey (l : Launch) (G : xG) {M : HM} {b k v o : Nat} {no : Int32} {t kc sz : Int} {fk fv : Nat → Int32} {V : Nat → Int} (hB : Bk G M b k v no (iN ((o : Nat) : Int)) (iN (t)) (iN (kc)) sz fk fv) (ho : o < 3) (hV : BV o V sz.toNat fk fv) (htt : 0 ≤ t ∧ t ≤ 1000000) (hkk : 0 ≤ kc ∧ kc ≤ 1000000) {p0 : Int} (hp0 : -2147483648 ≤ p0 ∧ p0 ≤ 2147483647) (hok : 0 ≤ p0 ∧ p0 ≤ 99) : xMet l G yX0_halveKey wsX0_halveKey 5 115 0 0 [.ref b, .int (iN (p0))] M (fun r M1 => ∃ z : Int, r = some (.int (iN z)) ∧ (-10000 ≤ z ∧ z ≤ 9999) ∧ z = (hvN (V p0.toNat)) ∧ ∃ (kc1 sz1 : Int) (f1 f2 : Nat → Int32), Bk G M1 b k v no (iN ((o : Nat) : Int)) (iN (t)) (iN (kc1)) sz1 f1 f2 ∧ xSm M M1 b k v ∧ BV o (upV V p0.toNat (hvN (V p0.toNat))) sz1.toNat f1 f2 ∧ kcs V (upV V p0.toNat (hvN (V p0.toNat))) kc kc1 1) := by
  refine x_intro (cc := cX0_halveKey) (maxL := 2) (ret := (some .int)) (by exact pln_RX0) rfl (Nat.le_of_ble_eq_true rfl) ?_
  intro p e R s m args below meth c ls hRf hRc hRs hRl hC hw hl
  obtain ⟨-, -, -, -, hs0, hs1⟩ := id hB
  have hvv := hV.vr (show p0.toNat < 100 from tn_lt (by omega) (by decide))
  have hl : lv_has ls 2 [(0, .ref b), (1, .int (iN (p0)))] := hl
  refine lv_aload_n hC.1 hC.2.1 dX0_halveKey_0 rfl (lv_at hl 0 rfl) ?_
  refine lv_iload_n hC.1 hC.2.1 dX0_halveKey_1 rfl (lv_at hl 1 rfl) ?_
  refine x_callV hC hw (lv_size hl) (c_X0_holds l G hB (show o < 3 by first | assumption | omega) hV (by first | assumption | omega) (by first | assumption | omega) (p0 := p0) (by first | assumption | omega)) gX0_halveKey_X0_holds rfl dv_X0_holds hB.1 rfl rfl (Nat.le_of_ble_eq_true rfl) (by rw [hRf]; decide) (by rw [hRl]; decide) (by first | (rw [hRc]; decide) | omega) (by first | (rw [hRs]; decide) | omega) dX0_halveKey_2 (fun r9 M_1 H locs hq hw => ?_)
  obtain ⟨z_2, rfl, hM9, hz_2, hz_2v⟩ := hq
  rw [hM9] at hw
  show W p l e R s m args below meth c H locs _ _ _ (F0 m 5 ls [.int (iN (z_2))])
  refine x_if_eq (tgt := 23) hC ⟨by omega, by omega⟩ dX0_halveKey_5 (by decide) (fun c_3 => ?_) (fun c_3 => ?_)
  · refine x_sipush hC dX0_halveKey_23 (by decide +kernel) ?_
    exact x_iret hC hw dX0_halveKey_26 (by first | decide | omega) (by first | decide | omega) ⟨(-10000), rfl, by omega, (show _ = (hvN (V p0.toNat)) by simp only [hvN]; (repeat' split) <;> omega), _, _, _, _, hB, xSm.rf, (by rw [show (hvN (V p0.toNat)) = V (p0).toNat by simp only [hvN]; (repeat' split) <;> omega]; rw [upV_self rfl]; exact hV), (by rw [show (hvN (V p0.toNat)) = V (p0).toNat by simp only [hvN]; (repeat' split) <;> omega]; rw [upV_self rfl]; exact kcs.rf.le (by omega))⟩
  · refine lv_aload_n hC.1 hC.2.1 dX0_halveKey_8 rfl (lv_at hl 0 rfl) ?_
    refine lv_iload_n hC.1 hC.2.1 dX0_halveKey_9 rfl (lv_at hl 1 rfl) ?_
    refine lv_aload_n hC.1 hC.2.1 dX0_halveKey_10 rfl (lv_at hl 0 rfl) ?_
    refine lv_iload_n hC.1 hC.2.1 dX0_halveKey_11 rfl (lv_at hl 1 rfl) ?_
    refine x_callV hC hw (lv_size hl) (c_X0_valueOf l G hB (show o < 3 by first | assumption | omega) hV (by first | assumption | omega) (by first | assumption | omega) (p0 := p0) (by first | assumption | omega)) gX0_halveKey_X0_valueOf rfl dv_X0_valueOf hB.1 rfl rfl (Nat.le_of_ble_eq_true rfl) (by rw [hRf]; decide) (by rw [hRl]; decide) (by first | (rw [hRc]; decide) | omega) (by first | (rw [hRs]; decide) | omega) dX0_halveKey_12 (fun r9 M_4 H locs hq hw => ?_)
    obtain ⟨z_5, rfl, hM9, hz_5, hz_5v, hz_5n⟩ := hq
    rw [hM9] at hw
    show W p l e R s m args below meth c H locs _ _ _ (F0 m 15 ls [.int (iN (z_5)), .int (iN (p0)), .ref b])
    refine x_const hC dX0_halveKey_15 ?_
    refine x_idiv hC ⟨by omega, by omega⟩ ⟨by omega, by omega⟩ (by omega) (by omega) dX0_halveKey_16 ?_
    obtain ⟨z_6, hz_6⟩ : ∃ z : Int, z = z_5.tdiv 2 := ⟨_, rfl⟩
    rw [← hz_6]
    have hrz_6 : -2147483648 ≤ z_6 ∧ z_6 ≤ 2147483647 := by rw [hz_6]; exact x_tdiv_rng ⟨by omega, by omega⟩ ⟨by omega, by omega⟩
    have htd := tdv_rng hz_6 (by omega)
    refine x_callV hC hw (lv_size hl) (c_X0_enterUnlessZero l G hB (show o < 3 by first | assumption | omega) hV (by first | assumption | omega) (by first | assumption | omega) (p0 := p0) (by first | assumption | omega) (p1 := z_6) (by omega) (by omega) (by omega)) gX0_halveKey_X0_enterUnlessZero rfl dv_X0_enterUnlessZero hB.1 rfl rfl (Nat.le_of_ble_eq_true rfl) (by rw [hRf]; decide) (by rw [hRl]; decide) (by first | (rw [hRc]; decide) | omega) (by first | (rw [hRs]; decide) | omega) dX0_halveKey_17 (fun r9 M_7 H locs hq hw => ?_)
    obtain ⟨z_9, rfl, hz_9, hz_9v, kcu_8, szu_8, fku_8, fvu_8, hBu_8, smu_8, hVu_8, hksu_8⟩ := hq
    obtain ⟨-, -, -, -, hsau_8, hsbu_8⟩ := id hBu_8
    obtain ⟨hkau_8, hkbu_8, -⟩ := id hksu_8
    have sm_10 := (xSm.rf (M := M) (b := b) (k := k) (v := v)).tr (smu_8)
    show W p l e R s m args below meth c H locs _ _ _ (F0 m 20 ls [.int (iN (z_9))])
    refine lv_goto (tgt := 26) hC.1 hC.2.1 dX0_halveKey_20 (by decide) ?_
    exact x_iret hC hw dX0_halveKey_26 (by first | decide | omega) (by first | decide | omega) ⟨z_9, rfl, by omega, (show _ = (hvN (V p0.toNat)) by have e8 : V (p0).toNat = z_5 := (by omega); simp only [hvN]; rw [e8, ← hz_6]; (repeat' split) <;> omega), _, _, _, _, hBu_8, sm_10, (by rw [show (hvN (V p0.toNat)) = (if z_6 = 0 then -10000 else z_6) by have e8 : V (p0).toNat = z_5 := (by omega); simp only [hvN]; rw [e8, ← hz_6]; (repeat' split) <;> omega]; exact hVu_8), (by rw [show (hvN (V p0.toNat)) = (if z_6 = 0 then -10000 else z_6) by have e8 : V (p0).toNat = z_5 := (by omega); simp only [hvN]; rw [e8, ← hz_6]; (repeat' split) <;> omega]; exact hksu_8)⟩
set_option maxHeartbeats 4000000 in
set_option maxRecDepth 100000 in
theorem c_X0_doubleKey (l : Launch) (G : xG) {M : HM} {b k v o : Nat} {no : Int32} {t kc sz : Int} {fk fv : Nat → Int32} {V : Nat → Int} (hB : Bk G M b k v no (iN ((o : Nat) : Int)) (iN (t)) (iN (kc)) sz fk fv) (ho : o < 3) (hV : BV o V sz.toNat fk fv) (htt : 0 ≤ t ∧ t ≤ 1000000) (hkk : 0 ≤ kc ∧ kc ≤ 999000) {p0 : Int} (hp0 : -2147483648 ≤ p0 ∧ p0 ≤ 2147483647) (hok : 0 ≤ p0 ∧ p0 ≤ 99) : xMet l G yX0_doubleKey wsX0_doubleKey 4 93 0 0 [.ref b, .int (iN (p0))] M (fun r M1 => ∃ z : Int, r = some (.int (iN z)) ∧ (-10000 ≤ z ∧ z ≤ 9999) ∧ z = (twN (V p0.toNat) p0) ∧ ∃ (kc1 sz1 : Int) (f1 f2 : Nat → Int32), Bk G M1 b k v no (iN ((o : Nat) : Int)) (iN (t)) (iN (kc1)) sz1 f1 f2 ∧ xSm M M1 b k v ∧ BV o (upV V p0.toNat (twN (V p0.toNat) p0)) sz1.toNat f1 f2 ∧ kcs V (upV V p0.toNat (twN (V p0.toNat) p0)) kc kc1 1) := by
  refine x_intro (cc := cX0_doubleKey) (maxL := 3) (ret := (some .int)) (by exact pln_RX0) rfl (Nat.le_of_ble_eq_true rfl) ?_
  intro p e R s m args below meth c ls hRf hRc hRs hRl hC hw hl
  obtain ⟨-, -, -, -, hs0, hs1⟩ := id hB
  have hvv := hV.vr (show p0.toNat < 100 from tn_lt (by omega) (by decide))
  have hl : lv_has ls 3 [(0, .ref b), (1, .int (iN (p0)))] := hl
  refine lv_aload_n hC.1 hC.2.1 dX0_doubleKey_0 rfl (lv_at hl 0 rfl) ?_
  refine lv_iload_n hC.1 hC.2.1 dX0_doubleKey_1 rfl (lv_at hl 1 rfl) ?_
  refine x_callV hC hw (lv_size hl) (c_X0_valueOf l G hB (show o < 3 by first | assumption | omega) hV (by first | assumption | omega) (by first | assumption | omega) (p0 := p0) (by first | assumption | omega)) gX0_doubleKey_X0_valueOf rfl dv_X0_valueOf hB.1 rfl rfl (Nat.le_of_ble_eq_true rfl) (by rw [hRf]; decide) (by rw [hRl]; decide) (by first | (rw [hRc]; decide) | omega) (by first | (rw [hRs]; decide) | omega) dX0_doubleKey_2 (fun r9 M_1 H locs hq hw => ?_)
  obtain ⟨z_2, rfl, hM9, hz_2, hz_2v, hz_2n⟩ := hq
  rw [hM9] at hw
  show W p l e R s m args below meth c H locs _ _ _ (F0 m 5 ls [.int (iN (z_2))])
  refine lv_istore_n (lv' := [(2, .int (iN (z_2))), (0, .ref b), (1, .int (iN (p0)))]) hC.1 hC.2.1 dX0_doubleKey_5 rfl hl (by decide) rfl (fun ls hl => ?_)
  refine lv_iload_n hC.1 hC.2.1 dX0_doubleKey_6 rfl (lv_at hl 0 rfl) ?_
  refine x_sipush hC dX0_doubleKey_7 (by decide +kernel) ?_
  refine x_icmp_ne (tgt := 23) hC ⟨by omega, by omega⟩ ⟨by omega, by omega⟩ dX0_doubleKey_10 (by decide) (fun c_3 => ?_) (fun c_3 => ?_)
  · refine lv_iload_n hC.1 hC.2.1 dX0_doubleKey_23 rfl (lv_at hl 0 rfl) ?_
    refine x_sipush hC dX0_doubleKey_24 (by decide +kernel) ?_
    refine x_icmp_gt (tgt := 37) hC ⟨by omega, by omega⟩ ⟨by omega, by omega⟩ dX0_doubleKey_27 (by decide) (fun c_4 => ?_) (fun c_4 => ?_)
    · refine lv_aload_n hC.1 hC.2.1 dX0_doubleKey_37 rfl (lv_at hl 1 rfl) ?_
      refine lv_iload_n hC.1 hC.2.1 dX0_doubleKey_38 rfl (lv_at hl 2 rfl) ?_
      refine x_callV hC hw (lv_size hl) (c_X0_removeKey l G hB (show o < 3 by first | assumption | omega) hV (by first | assumption | omega) (by first | assumption | omega) (p0 := p0) (by first | assumption | omega) (by omega)) gX0_doubleKey_X0_removeKey rfl dv_X0_removeKey hB.1 rfl rfl (Nat.le_of_ble_eq_true rfl) (by rw [hRf]; decide) (by rw [hRl]; decide) (by first | (rw [hRc]; decide) | omega) (by first | (rw [hRs]; decide) | omega) dX0_doubleKey_39 (fun r9 M_5 H locs hq hw => ?_)
      obtain ⟨z_7, rfl, hz_7, hz_7v, kcu_6, szu_6, fku_6, fvu_6, hBu_6, smu_6, hVu_6, hksu_6, hka1u_6, hkb1u_6⟩ := hq
      obtain ⟨-, -, -, -, hsau_6, hsbu_6⟩ := id hBu_6
      obtain ⟨hkau_6, hkbu_6, -⟩ := id hksu_6
      have sm_8 := (xSm.rf (M := M) (b := b) (k := k) (v := v)).tr (smu_6)
      show W p l e R s m args below meth c H locs _ _ _ (F0 m 42 ls [.int (iN (z_7))])
      refine lv_pop hC.1 hC.2.1 dX0_doubleKey_42 rfl ?_
      refine lv_goto (tgt := 55) hC.1 hC.2.1 dX0_doubleKey_43 (by decide) ?_
      refine lv_aload_n hC.1 hC.2.1 dX0_doubleKey_55 rfl (lv_at hl 1 rfl) ?_
      refine lv_iload_n hC.1 hC.2.1 dX0_doubleKey_56 rfl (lv_at hl 2 rfl) ?_
      refine x_callV hC hw (lv_size hl) (c_X0_valueOf l G hBu_6 (show o < 3 by first | assumption | omega) hVu_6 (by first | assumption | omega) (by first | assumption | omega) (p0 := p0) (by first | assumption | omega)) gX0_doubleKey_X0_valueOf rfl dv_X0_valueOf hBu_6.1 rfl rfl (Nat.le_of_ble_eq_true rfl) (by rw [hRf]; decide) (by rw [hRl]; decide) (by first | (rw [hRc]; decide) | omega) (by first | (rw [hRs]; decide) | omega) dX0_doubleKey_57 (fun r9 M_9 H locs hq hw => ?_)
      obtain ⟨z_10, rfl, hM9, hz_10, hz_10v, hz_10n⟩ := hq
      rw [hM9] at hw
      have hz_10x : z_10 = (-10000) := by have e9 := hz_10v (by omega); rw [upV_s] at e9; exact e9
      show W p l e R s m args below meth c H locs _ _ _ (F0 m 60 ls [.int (iN (z_10))])
      exact x_iret hC hw dX0_doubleKey_60 (by first | decide | omega) (by first | decide | omega) ⟨z_10, rfl, by omega, (show _ = (twN (V p0.toNat) p0) by simp only [twN]; (repeat' split) <;> omega), _, _, _, _, hBu_6, sm_8, (by rw [show (twN (V p0.toNat) p0) = (-10000) by simp only [twN]; (repeat' split) <;> omega]; exact hVu_6), (by rw [show (twN (V p0.toNat) p0) = (-10000) by simp only [twN]; (repeat' split) <;> omega]; exact hksu_6)⟩
    · refine lv_iload_n hC.1 hC.2.1 dX0_doubleKey_30 rfl (lv_at hl 0 rfl) ?_
      refine x_sipush hC dX0_doubleKey_31 (by decide +kernel) ?_
      refine x_icmp_ge (tgt := 46) hC ⟨by omega, by omega⟩ ⟨by omega, by omega⟩ dX0_doubleKey_34 (by decide) (fun c_11 => ?_) (fun c_11 => ?_)
      · refine lv_aload_n hC.1 hC.2.1 dX0_doubleKey_46 rfl (lv_at hl 1 rfl) ?_
        refine lv_iload_n hC.1 hC.2.1 dX0_doubleKey_47 rfl (lv_at hl 2 rfl) ?_
        refine x_const hC dX0_doubleKey_48 ?_
        refine lv_iload_n hC.1 hC.2.1 dX0_doubleKey_49 rfl (lv_at hl 0 rfl) ?_
        refine x_imul hC dX0_doubleKey_50 ?_
        refine x_callV hC hw (lv_size hl) (c_X0_enter l G hB (show o < 3 by first | assumption | omega) hV (by first | assumption | omega) (by first | assumption | omega) (p0 := p0) (by first | assumption | omega) (p1 := (2 * z_2)) (by omega) (by omega) (by omega)) gX0_doubleKey_X0_enter rfl dv_X0_enter hB.1 rfl rfl (Nat.le_of_ble_eq_true rfl) (by rw [hRf]; decide) (by rw [hRl]; decide) (by first | (rw [hRc]; decide) | omega) (by first | (rw [hRs]; decide) | omega) dX0_doubleKey_51 (fun r9 M_12 H locs hq hw => ?_)
        obtain ⟨z_14, rfl, hz_14, hz_14v, kcu_13, szu_13, fku_13, fvu_13, hBu_13, smu_13, hVu_13, hksu_13, hka1u_13, hkb1u_13⟩ := hq
        obtain ⟨-, -, -, -, hsau_13, hsbu_13⟩ := id hBu_13
        obtain ⟨hkau_13, hkbu_13, -⟩ := id hksu_13
        have sm_15 := (xSm.rf (M := M) (b := b) (k := k) (v := v)).tr (smu_13)
        show W p l e R s m args below meth c H locs _ _ _ (F0 m 54 ls [.int (iN (z_14))])
        refine lv_pop hC.1 hC.2.1 dX0_doubleKey_54 rfl ?_
        refine lv_aload_n hC.1 hC.2.1 dX0_doubleKey_55 rfl (lv_at hl 1 rfl) ?_
        refine lv_iload_n hC.1 hC.2.1 dX0_doubleKey_56 rfl (lv_at hl 2 rfl) ?_
        refine x_callV hC hw (lv_size hl) (c_X0_valueOf l G hBu_13 (show o < 3 by first | assumption | omega) hVu_13 (by first | assumption | omega) (by first | assumption | omega) (p0 := p0) (by first | assumption | omega)) gX0_doubleKey_X0_valueOf rfl dv_X0_valueOf hBu_13.1 rfl rfl (Nat.le_of_ble_eq_true rfl) (by rw [hRf]; decide) (by rw [hRl]; decide) (by first | (rw [hRc]; decide) | omega) (by first | (rw [hRs]; decide) | omega) dX0_doubleKey_57 (fun r9 M_16 H locs hq hw => ?_)
        obtain ⟨z_17, rfl, hM9, hz_17, hz_17v, hz_17n⟩ := hq
        rw [hM9] at hw
        have hz_17x : z_17 = (2 * z_2) := by have e9 := hz_17v (by omega); rw [upV_s] at e9; exact e9
        show W p l e R s m args below meth c H locs _ _ _ (F0 m 60 ls [.int (iN (z_17))])
        exact x_iret hC hw dX0_doubleKey_60 (by first | decide | omega) (by first | decide | omega) ⟨z_17, rfl, by omega, (show _ = (twN (V p0.toNat) p0) by simp only [twN]; (repeat' split) <;> omega), _, _, _, _, hBu_13, sm_15, (by rw [show (twN (V p0.toNat) p0) = (2 * z_2) by simp only [twN]; (repeat' split) <;> omega]; exact hVu_13), (by rw [show (twN (V p0.toNat) p0) = (2 * z_2) by simp only [twN]; (repeat' split) <;> omega]; exact hksu_13)⟩
      · refine lv_aload_n hC.1 hC.2.1 dX0_doubleKey_37 rfl (lv_at hl 1 rfl) ?_
        refine lv_iload_n hC.1 hC.2.1 dX0_doubleKey_38 rfl (lv_at hl 2 rfl) ?_
        refine x_callV hC hw (lv_size hl) (c_X0_removeKey l G hB (show o < 3 by first | assumption | omega) hV (by first | assumption | omega) (by first | assumption | omega) (p0 := p0) (by first | assumption | omega) (by omega)) gX0_doubleKey_X0_removeKey rfl dv_X0_removeKey hB.1 rfl rfl (Nat.le_of_ble_eq_true rfl) (by rw [hRf]; decide) (by rw [hRl]; decide) (by first | (rw [hRc]; decide) | omega) (by first | (rw [hRs]; decide) | omega) dX0_doubleKey_39 (fun r9 M_18 H locs hq hw => ?_)
        obtain ⟨z_20, rfl, hz_20, hz_20v, kcu_19, szu_19, fku_19, fvu_19, hBu_19, smu_19, hVu_19, hksu_19, hka1u_19, hkb1u_19⟩ := hq
        obtain ⟨-, -, -, -, hsau_19, hsbu_19⟩ := id hBu_19
        obtain ⟨hkau_19, hkbu_19, -⟩ := id hksu_19
        have sm_21 := (xSm.rf (M := M) (b := b) (k := k) (v := v)).tr (smu_19)
        show W p l e R s m args below meth c H locs _ _ _ (F0 m 42 ls [.int (iN (z_20))])
        refine lv_pop hC.1 hC.2.1 dX0_doubleKey_42 rfl ?_
        refine lv_goto (tgt := 55) hC.1 hC.2.1 dX0_doubleKey_43 (by decide) ?_
        refine lv_aload_n hC.1 hC.2.1 dX0_doubleKey_55 rfl (lv_at hl 1 rfl) ?_
        refine lv_iload_n hC.1 hC.2.1 dX0_doubleKey_56 rfl (lv_at hl 2 rfl) ?_
        refine x_callV hC hw (lv_size hl) (c_X0_valueOf l G hBu_19 (show o < 3 by first | assumption | omega) hVu_19 (by first | assumption | omega) (by first | assumption | omega) (p0 := p0) (by first | assumption | omega)) gX0_doubleKey_X0_valueOf rfl dv_X0_valueOf hBu_19.1 rfl rfl (Nat.le_of_ble_eq_true rfl) (by rw [hRf]; decide) (by rw [hRl]; decide) (by first | (rw [hRc]; decide) | omega) (by first | (rw [hRs]; decide) | omega) dX0_doubleKey_57 (fun r9 M_22 H locs hq hw => ?_)
        obtain ⟨z_23, rfl, hM9, hz_23, hz_23v, hz_23n⟩ := hq
        rw [hM9] at hw
        have hz_23x : z_23 = (-10000) := by have e9 := hz_23v (by omega); rw [upV_s] at e9; exact e9
        show W p l e R s m args below meth c H locs _ _ _ (F0 m 60 ls [.int (iN (z_23))])
        exact x_iret hC hw dX0_doubleKey_60 (by first | decide | omega) (by first | decide | omega) ⟨z_23, rfl, by omega, (show _ = (twN (V p0.toNat) p0) by simp only [twN]; (repeat' split) <;> omega), _, _, _, _, hBu_19, sm_21, (by rw [show (twN (V p0.toNat) p0) = (-10000) by simp only [twN]; (repeat' split) <;> omega]; exact hVu_19), (by rw [show (twN (V p0.toNat) p0) = (-10000) by simp only [twN]; (repeat' split) <;> omega]; exact hksu_19)⟩
  · refine lv_aload_n hC.1 hC.2.1 dX0_doubleKey_13 rfl (lv_at hl 1 rfl) ?_
    refine lv_iload_n hC.1 hC.2.1 dX0_doubleKey_14 rfl (lv_at hl 2 rfl) ?_
    refine lv_iload_n hC.1 hC.2.1 dX0_doubleKey_15 rfl (lv_at hl 2 rfl) ?_
    refine x_callV hC hw (lv_size hl) (c_X0_enter l G hB (show o < 3 by first | assumption | omega) hV (by first | assumption | omega) (by first | assumption | omega) (p0 := p0) (by first | assumption | omega) (p1 := p0) (by first | assumption | omega) (by omega) (by omega)) gX0_doubleKey_X0_enter rfl dv_X0_enter hB.1 rfl rfl (Nat.le_of_ble_eq_true rfl) (by rw [hRf]; decide) (by rw [hRl]; decide) (by first | (rw [hRc]; decide) | omega) (by first | (rw [hRs]; decide) | omega) dX0_doubleKey_16 (fun r9 M_24 H locs hq hw => ?_)
    obtain ⟨z_26, rfl, hz_26, hz_26v, kcu_25, szu_25, fku_25, fvu_25, hBu_25, smu_25, hVu_25, hksu_25, hka1u_25, hkb1u_25⟩ := hq
    obtain ⟨-, -, -, -, hsau_25, hsbu_25⟩ := id hBu_25
    obtain ⟨hkau_25, hkbu_25, -⟩ := id hksu_25
    have sm_27 := (xSm.rf (M := M) (b := b) (k := k) (v := v)).tr (smu_25)
    show W p l e R s m args below meth c H locs _ _ _ (F0 m 19 ls [.int (iN (z_26))])
    refine lv_pop hC.1 hC.2.1 dX0_doubleKey_19 rfl ?_
    refine lv_goto (tgt := 55) hC.1 hC.2.1 dX0_doubleKey_20 (by decide) ?_
    refine lv_aload_n hC.1 hC.2.1 dX0_doubleKey_55 rfl (lv_at hl 1 rfl) ?_
    refine lv_iload_n hC.1 hC.2.1 dX0_doubleKey_56 rfl (lv_at hl 2 rfl) ?_
    refine x_callV hC hw (lv_size hl) (c_X0_valueOf l G hBu_25 (show o < 3 by first | assumption | omega) hVu_25 (by first | assumption | omega) (by first | assumption | omega) (p0 := p0) (by first | assumption | omega)) gX0_doubleKey_X0_valueOf rfl dv_X0_valueOf hBu_25.1 rfl rfl (Nat.le_of_ble_eq_true rfl) (by rw [hRf]; decide) (by rw [hRl]; decide) (by first | (rw [hRc]; decide) | omega) (by first | (rw [hRs]; decide) | omega) dX0_doubleKey_57 (fun r9 M_28 H locs hq hw => ?_)
    obtain ⟨z_29, rfl, hM9, hz_29, hz_29v, hz_29n⟩ := hq
    rw [hM9] at hw
    have hz_29x : z_29 = p0 := by have e9 := hz_29v (by omega); rw [upV_s] at e9; exact e9
    show W p l e R s m args below meth c H locs _ _ _ (F0 m 60 ls [.int (iN (z_29))])
    exact x_iret hC hw dX0_doubleKey_60 (by first | decide | omega) (by first | decide | omega) ⟨z_29, rfl, by omega, (show _ = (twN (V p0.toNat) p0) by simp only [twN]; (repeat' split) <;> omega), _, _, _, _, hBu_25, sm_27, (by rw [show (twN (V p0.toNat) p0) = p0 by simp only [twN]; (repeat' split) <;> omega]; exact hVu_25), (by rw [show (twN (V p0.toNat) p0) = p0 by simp only [twN]; (repeat' split) <;> omega]; exact hksu_25)⟩
set_option maxHeartbeats 4000000 in
set_option maxRecDepth 100000 in
theorem c_X0_touch (l : Launch) (G : xG) {M : HM} {b k v o : Nat} {no : Int32} {t kc sz : Int} {fk fv : Nat → Int32} {V : Nat → Int} (hB : Bk G M b k v no (iN ((o : Nat) : Int)) (iN (t)) (iN (kc)) sz fk fv) (ho : o < 3) (hV : BV o V sz.toNat fk fv) (htt : 0 ≤ t ∧ t ≤ 1000000) (hkk : 0 ≤ kc ∧ kc ≤ 1000000) : xMet l G yX0_touch wsX0_touch 0 0 0 0 [.ref b] M (fun r M1 => r = none ∧ Bk G M1 b k v no (iN ((o : Nat) : Int)) (iN (t + 1)) (iN (kc)) sz fk fv ∧ xSm M M1 b k v) := by
  refine x_intro (cc := cX0_touch) (maxL := 1) (ret := none) (by exact pln_RX0) rfl (Nat.le_of_ble_eq_true rfl) ?_
  intro p e R s m args below meth c ls hRf hRc hRs hRl hC hw hl
  obtain ⟨-, -, -, -, hs0, hs1⟩ := id hB
  have hinX0 : ∀ w ∈ wsX00, w ∈ wsX0_touch := fun w h => (List.mem_cons_of_mem _ (List.mem_append_right _ h))
  have hl : lv_has ls 1 [(0, .ref b)] := hl
  refine lv_aload_n hC.1 hC.2.1 dX0_touch_0 rfl (lv_at hl 0 rfl) ?_
  refine lv_dup hC.1 hC.2.1 dX0_touch_1 rfl ?_
  refine x_get hC hw hB.1 rfl hinX0 5 (by decide) (List.mem_cons_of_mem _ (List.mem_append_left _ (List.mem_of_getElem? (i := 0) rfl))) rfl dX0_touch_2 ?_
  refine x_const hC dX0_touch_5 ?_
  refine x_iadd hC dX0_touch_6 ?_
  refine x_put (fs2 := [.int no, .ref k, .ref v, .int (iN (((o : Nat) : Int))), .int (iN (sz)), .int (iN (t + 1)), .int (iN (kc))]) hC hw hB.1 rfl hinX0 tyX0 tyX0_ok nmX0 5 (by decide) (List.mem_cons_of_mem _ (List.mem_append_left _ (List.mem_of_getElem? (i := 0) rfl))) rfl rfl rfl (Nat.le_of_ble_eq_true rfl) rfl dX0_touch_7 (fun H locs hw => ?_)
  obtain ⟨M_1, hM_2⟩ : ∃ z, z = va_up M b (some (.inr (2, [.int no, .ref k, .ref v, .int (iN (((o : Nat) : Int))), .int (iN (sz)), .int (iN (t + 1)), .int (iN (kc))]))) := ⟨_, rfl⟩
  rw [← hM_2] at hw
  have hB_3 := hB.setb hM_2 (by omega) (by omega)
  have sm_4 := (xSm.rf (M := M) (b := b) (k := k) (v := v)).tr (xSm.b hM_2)
  exact x_vret hC hw dX0_touch_10 (by first | decide | omega) (by first | decide | omega) ⟨rfl, hB_3, sm_4⟩
set_option maxHeartbeats 4000000 in
set_option maxRecDepth 100000 in
theorem c_X0_raiseAll (l : Launch) (G : xG) {M : HM} {b k v o : Nat} {no : Int32} {t kc sz : Int} {fk fv : Nat → Int32} {V : Nat → Int} (hB : Bk G M b k v no (iN ((o : Nat) : Int)) (iN (t)) (iN (kc)) sz fk fv) (ho : o < 3) (hV : BV o V sz.toNat fk fv) (htt : 0 ≤ t ∧ t ≤ 1000000) (hkk : 0 ≤ kc ∧ kc ≤ 1000000) {p0 : Int} (hp0 : -2147483648 ≤ p0 ∧ p0 ≤ 2147483647) (hby : -999 ≤ p0 ∧ p0 ≤ 999) : xMet l G yX0_raiseAll wsX0_raiseAll 2 41 0 0 [.ref b, .int (iN (p0))] M (fun r M1 => ∃ z : Int, r = some (.int (iN z)) ∧ (0 ≤ z ∧ z ≤ 100) ∧ z = rsN V p0 100 ∧ ∃ (kc1 sz1 : Int) (f1 f2 : Nat → Int32), Bk G M1 b k v no (iN ((o : Nat) : Int)) (iN (t)) (iN (kc1)) sz1 f1 f2 ∧ xSm M M1 b k v ∧ BV o (mapN V (F_raise V p0) 100) sz1.toNat f1 f2 ∧ kcs V (mapN V (F_raise V p0) 100) kc kc1 0) := by
  refine x_intro (cc := cX0_raiseAll) (maxL := 5) (ret := (some .int)) (by exact pln_RX0) rfl (Nat.le_of_ble_eq_true rfl) ?_
  intro p e R s m args below meth c ls hRf hRc hRs hRl hC hw hl
  obtain ⟨-, -, -, -, hs0, hs1⟩ := id hB
  have hinX0 : ∀ w ∈ wsX00, w ∈ wsX0_raiseAll := fun w h => (List.mem_cons_of_mem _ (List.mem_append_right _ h))
  have hl : lv_has ls 5 [(0, .ref b), (1, .int (iN (p0)))] := hl
  refine x_const hC dX0_raiseAll_0 ?_
  refine lv_istore_n (lv' := [(2, .int (iN (0))), (0, .ref b), (1, .int (iN (p0)))]) hC.1 hC.2.1 dX0_raiseAll_1 rfl hl (by decide) rfl (fun ls hl => ?_)
  refine x_const hC dX0_raiseAll_2 ?_
  refine lv_istore_n (lv' := [(3, .int (iN (0))), (2, .int (iN (0))), (0, .ref b), (1, .int (iN (p0)))]) hC.1 hC.2.1 dX0_raiseAll_3 rfl hl (by decide) rfl (fun ls hl => ?_)
  suffices hloop4 : ∀ (n9 : Nat) (cn : Int) (pl : Int) (M1 : HM) (f2 : Nat → Int32) (V1 : Nat → Int) (hB1 : Bk G M1 b k v no (iN ((o : Nat) : Int)) (iN (t)) (iN (kc)) sz fk f2) (hV1 : BV o V1 sz.toNat fk f2) (sm1 : xSm M M1 b k v) (hrs : rsA sz.toNat fk V V1 p0 pl cn) (H : Heap) (locs : List Loc) (ls : Array Slot), (hmz4 : (100 - pl).toNat < n9) → (hi0 : 0 ≤ pl) → (hi1 : pl ≤ sz) → (hi2 : 0 ≤ cn) → (hi3 : cn ≤ pl) → xD G (xA M s.heap.size) s M1 H locs → lv_has ls 5 [(0, .ref b), (1, .int (iN (p0))), (2, .int (iN (cn))), (3, .int (iN (pl)))] → W p l e R s m args below meth c H locs _ _ _ (F0 m 4 ls []) by
    exact hloop4 _ 0 0 _ _ _ hB hV xSm.rf rsA.init _ _ _ (Nat.lt_succ_self _) (by omega) (by omega) (by omega) (by omega) hw (lv_sub hl [2, 3, 1, 0] rfl)
  intro n9
  induction n9 with
  | zero => intro cn pl M1 f2 V1 hB1 hV1 sm1 hrs H locs ls hmz; exact absurd hmz (Nat.not_lt_zero _)
  | succ n9 ih4 =>
    intro cn pl M1 f2 V1 hB1 hV1 sm1 hrs H locs ls hmz4 hi0 hi1 hi2 hi3 hw hl
    have hvr1 : 0 ≤ pl ∧ pl < sz → (f2 (pl).toNat).toInt = V1 (kN fk (pl).toNat) ∧ -9999 ≤ (f2 (pl).toNat).toInt ∧ (f2 (pl).toNat).toInt ≤ 9999 := fun h9 => hV1.vr' h9
    refine lv_iload_n hC.1 hC.2.1 dX0_raiseAll_4 rfl (lv_at hl 3 rfl) ?_
    refine lv_aload_n hC.1 hC.2.1 dX0_raiseAll_5 rfl (lv_at hl 0 rfl) ?_
    refine x_get hC hw hB1.1 rfl hinX0 4 (by decide) (List.mem_cons_of_mem _ (List.mem_append_left _ (List.mem_of_getElem? (i := 0) rfl))) rfl dX0_raiseAll_6 ?_
    refine x_icmp_ge (tgt := 53) hC ⟨by omega, by omega⟩ ⟨by omega, by omega⟩ dX0_raiseAll_9 (by decide) (fun c_1 => ?_) (fun c_1 => ?_)
    · refine lv_iload_n hC.1 hC.2.1 dX0_raiseAll_53 rfl (lv_at hl 2 rfl) ?_
      exact x_iret hC hw dX0_raiseAll_54 (by first | decide | omega) (by first | decide | omega) ⟨cn, rfl, by omega, (hrs.fin hV (by omega)).2, _, _, _, _, hB1, sm1, hV1.map (hrs.fin hV (by omega)).1, kcs.raise⟩
    · refine lv_aload_n hC.1 hC.2.1 dX0_raiseAll_12 rfl (lv_at hl 0 rfl) ?_
      refine x_get hC hw hB1.1 rfl hinX0 2 (by decide) (List.mem_cons_of_mem _ (List.mem_append_left _ (List.mem_of_getElem? (i := 1) rfl))) rfl dX0_raiseAll_13 ?_
      refine lv_iload_n hC.1 hC.2.1 dX0_raiseAll_16 rfl (lv_at hl 3 rfl) ?_
      refine x_iald hC hw hB1.2.2.1 (by omega) (by omega) (by omega) dX0_raiseAll_17 ?_
      have hr_2 := iN_rng (f2 (pl).toNat)
      refine lv_iload_n hC.1 hC.2.1 dX0_raiseAll_18 rfl (lv_at hl 1 rfl) ?_
      refine x_iadd hC dX0_raiseAll_19 ?_
      refine x_callS hC hw (lv_size hl) (c_X0_bounded l G (M := M1) (p0 := (((f2 (pl).toNat).toInt) + p0)) (by omega)) gX0_raiseAll_X0_bounded rfl dv_X0_bounded_s rfl (Nat.le_of_ble_eq_true rfl) (by rw [hRf]; decide) (by rw [hRl]; decide) (by first | (rw [hRc]; decide) | omega) (by first | (rw [hRs]; decide) | omega) dX0_raiseAll_20 (fun r9 M_3 H locs hq hw => ?_)
      obtain ⟨z_4, rfl, hM9, hz_4, hz_4d⟩ := hq
      rw [hM9] at hw
      show W p l e R s m args below meth c H locs _ _ _ (F0 m 23 ls [.int (iN (z_4))])
      refine lv_istore (lv' := [(4, .int (iN (z_4))), (0, .ref b), (1, .int (iN (p0))), (2, .int (iN (cn))), (3, .int (iN (pl)))]) hC.1 hC.2.1 dX0_raiseAll_23 hl (by decide) rfl (fun ls hl => ?_)
      refine lv_iload hC.1 hC.2.1 dX0_raiseAll_25 (lv_at hl 0 rfl) ?_
      refine lv_aload_n hC.1 hC.2.1 dX0_raiseAll_27 rfl (lv_at hl 1 rfl) ?_
      refine x_get hC hw hB1.1 rfl hinX0 2 (by decide) (List.mem_cons_of_mem _ (List.mem_append_left _ (List.mem_of_getElem? (i := 1) rfl))) rfl dX0_raiseAll_28 ?_
      refine lv_iload_n hC.1 hC.2.1 dX0_raiseAll_31 rfl (lv_at hl 4 rfl) ?_
      refine x_iald hC hw hB1.2.2.1 (by omega) (by omega) (by omega) dX0_raiseAll_32 ?_
      have hr_5 := iN_rng (f2 (pl).toNat)
      refine x_icmp_eq (tgt := 47) hC ⟨by omega, by omega⟩ ⟨by omega, by omega⟩ dX0_raiseAll_33 (by decide) (fun c_6 => ?_) (fun c_6 => ?_)
      · refine x_iinc (lv' := [(3, .int (iN (pl + 1))), (4, .int (iN (z_4))), (0, .ref b), (1, .int (iN (p0))), (2, .int (iN (cn)))]) hC dX0_raiseAll_47 hl (k := 4) rfl (by decide) rfl (fun ls hl => ?_)
        refine lv_goto (tgt := 4) hC.1 hC.2.1 dX0_raiseAll_50 (by decide) ?_
        exact ih4 cn (pl + 1) _ _ _ hB1 hV1 sm1 (hrs.skip (by omega) (by omega) (hV1.vr' (p0 := pl) ⟨by omega, by omega⟩).1 (bdN_eq hz_4d) (by omega)) _ _ _ (by first | exact mu_s hmz4 (by omega) | omega) (by omega) (by omega) (by omega) (by omega) hw (lv_sub hl [2, 3, 4, 0] rfl)
      · refine lv_aload_n hC.1 hC.2.1 dX0_raiseAll_36 rfl (lv_at hl 1 rfl) ?_
        refine x_get hC hw hB1.1 rfl hinX0 2 (by decide) (List.mem_cons_of_mem _ (List.mem_append_left _ (List.mem_of_getElem? (i := 1) rfl))) rfl dX0_raiseAll_37 ?_
        refine lv_iload_n hC.1 hC.2.1 dX0_raiseAll_40 rfl (lv_at hl 4 rfl) ?_
        refine lv_iload hC.1 hC.2.1 dX0_raiseAll_41 (lv_at hl 0 rfl) ?_
        refine x_iast hC hw hB1.2.2.1 (by omega) (by omega) (by omega) dX0_raiseAll_43 (fun H locs hw => ?_)
        obtain ⟨M_7, hM_8⟩ : ∃ z, z = va_up M1 v (some (.inl (G.2 1, 100, .inl (upd f2 (pl).toNat (iN (z_4)))))) := ⟨_, rfl⟩
        rw [← hM_8] at hw
        have hB_9 := hB1.setv hM_8
        have sm_10 := (sm1).tr (xSm.v hM_8)
        refine x_iinc (lv' := [(2, .int (iN (cn + 1))), (4, .int (iN (z_4))), (0, .ref b), (1, .int (iN (p0))), (3, .int (iN (pl)))]) hC dX0_raiseAll_44 hl (k := 3) rfl (by decide) rfl (fun ls hl => ?_)
        refine x_iinc (lv' := [(3, .int (iN (pl + 1))), (2, .int (iN (cn + 1))), (4, .int (iN (z_4))), (0, .ref b), (1, .int (iN (p0)))]) hC dX0_raiseAll_47 hl (k := 4) rfl (by decide) rfl (fun ls hl => ?_)
        refine lv_goto (tgt := 4) hC.1 hC.2.1 dX0_raiseAll_50 (by decide) ?_
        exact ih4 (cn + 1) (pl + 1) _ _ _ hB_9 (hV1.overZ (p0 := pl) (by omega) (by omega) rfl) sm_10 (rsA.set hV hrs (by omega) (by omega) (hV1.vr' (p0 := pl) ⟨by omega, by omega⟩).1 (bdN_eq hz_4d) (by omega)) _ _ _ (by first | exact mu_s hmz4 (by omega) | omega) (by omega) (by omega) (by omega) (by omega) hw (lv_sub hl [3, 4, 1, 0] rfl)
set_option maxHeartbeats 4000000 in
set_option maxRecDepth 100000 in
theorem c_X0_removeMultiples (l : Launch) (G : xG) {M : HM} {b k v o : Nat} {no : Int32} {t kc sz : Int} {fk fv : Nat → Int32} {V : Nat → Int} (hB : Bk G M b k v no (iN ((o : Nat) : Int)) (iN (t)) (iN (kc)) sz fk fv) (ho : o < 3) (hV : BV o V sz.toNat fk fv) (htt : 0 ≤ t ∧ t ≤ 1000000) (hkk : 0 ≤ kc ∧ kc ≤ 999000) {p0 : Int} (hp0 : -2147483648 ≤ p0 ∧ p0 ≤ 2147483647) (hp : 2 ≤ p0 ∧ p0 ≤ 99) : xMet l G yX0_removeMultiples wsX0_removeMultiples 3 70 0 0 [.ref b, .int (iN (p0))] M (fun r M1 => ∃ z : Int, r = some (.int (iN z)) ∧ (0 ≤ z ∧ z ≤ 100) ∧ z = stN V (F_sift V p0) 100 ∧ ∃ (kc1 sz1 : Int) (f1 f2 : Nat → Int32), Bk G M1 b k v no (iN ((o : Nat) : Int)) (iN (t)) (iN (kc1)) sz1 f1 f2 ∧ xSm M M1 b k v ∧ BV o (mapN V (F_sift V p0) 100) sz1.toNat f1 f2 ∧ kcs V (mapN V (F_sift V p0) 100) kc kc1 101) := by
  refine x_intro (cc := cX0_removeMultiples) (maxL := 4) (ret := (some .int)) (by exact pln_RX0) rfl (Nat.le_of_ble_eq_true rfl) ?_
  intro p e R s m args below meth c ls hRf hRc hRs hRl hC hw hl
  obtain ⟨-, -, -, -, hs0, hs1⟩ := id hB
  have hinX0 : ∀ w ∈ wsX00, w ∈ wsX0_removeMultiples := fun w h => (List.mem_cons_of_mem _ (List.mem_append_right _ h))
  have hl : lv_has ls 4 [(0, .ref b), (1, .int (iN (p0)))] := hl
  refine lv_aload_n hC.1 hC.2.1 dX0_removeMultiples_0 rfl (lv_at hl 0 rfl) ?_
  refine x_get hC hw hB.1 rfl hinX0 4 (by decide) (List.mem_cons_of_mem _ (List.mem_append_left _ (List.mem_append_left _ (List.mem_of_getElem? (i := 0) rfl)))) rfl dX0_removeMultiples_1 ?_
  refine lv_istore_n (lv' := [(2, .int (iN (sz))), (0, .ref b), (1, .int (iN (p0)))]) hC.1 hC.2.1 dX0_removeMultiples_4 rfl hl (by decide) rfl (fun ls hl => ?_)
  refine lv_iload_n hC.1 hC.2.1 dX0_removeMultiples_5 rfl (lv_at hl 0 rfl) ?_
  refine x_const hC dX0_removeMultiples_6 ?_
  refine x_isub hC dX0_removeMultiples_7 ?_
  refine lv_istore_n (lv' := [(3, .int (iN (sz - 1))), (2, .int (iN (sz))), (0, .ref b), (1, .int (iN (p0)))]) hC.1 hC.2.1 dX0_removeMultiples_8 rfl hl (by decide) rfl (fun ls hl => ?_)
  suffices hloop9 : ∀ (n9 : Nat) (pl : Int) (M1 : HM) (kc1 sz1 : Int) (f1 f2 : Nat → Int32) (V1 : Nat → Int) (hB1 : Bk G M1 b k v no (iN ((o : Nat) : Int)) (iN (t)) (iN (kc1)) sz1 f1 f2) (hV1 : BV o V1 sz1.toNat f1 f2) (sm1 : xSm M M1 b k v) (hks1 : kcs V V1 kc kc1 (100 - pl)) (hrm : rmA V V1 (fun k => V k ≠ -10000 ∧ (V k).tmod p0 = 0) f1 sz1 pl) (H : Heap) (locs : List Loc) (ls : Array Slot), (hmz9 : (pl + 1).toNat < n9) → (hi0 : -1 ≤ pl) → (hi1 : pl ≤ 100) → xD G (xA M s.heap.size) s M1 H locs → lv_has ls 4 [(0, .ref b), (1, .int (iN (p0))), (2, .int (iN (sz))), (3, .int (iN (pl)))] → W p l e R s m args below meth c H locs _ _ _ (F0 m 9 ls []) by
    exact hloop9 _ (sz - 1) _ _ _ _ _ _ hB hV xSm.rf (kcs.rf.le (by omega)) (rmA.init (by omega)) _ _ _ (Nat.lt_succ_self _) (by omega) (by omega) hw (lv_sub hl [2, 3, 1, 0] rfl)
  intro n9
  induction n9 with
  | zero => intro pl M1 kc1 sz1 f1 f2 V1 hB1 hV1 sm1 hks1 hrm H locs ls hmz; exact absurd hmz (Nat.not_lt_zero _)
  | succ n9 ih9 =>
    intro pl M1 kc1 sz1 f1 f2 V1 hB1 hV1 sm1 hks1 hrm H locs ls hmz9 hi0 hi1 hw hl
    obtain ⟨-, -, -, -, hsa1, hsb1⟩ := id hB1
    obtain ⟨hka1, hkb1, -⟩ := id hks1
    have hpl1 := hrm.2.2
    have hol : 0 ≤ pl → V1 (kN f1 (pl).toNat) = V (kN f1 (pl).toNat) ∧ V (kN f1 (pl).toNat) ≠ -10000 := fun h9 => hrm.old hV1 h9
    have hkr1 : 0 ≤ pl → 0 ≤ (f1 (pl).toNat).toInt ∧ (f1 (pl).toNat).toInt ≤ 99 := fun h9 => hV1.kr ⟨h9, by omega⟩
    have hvr1 : 0 ≤ pl → (f2 (pl).toNat).toInt = V1 (kN f1 (pl).toNat) := fun h9 => (hV1.vr' ⟨h9, by omega⟩).1
    refine lv_iload_n hC.1 hC.2.1 dX0_removeMultiples_9 rfl (lv_at hl 3 rfl) ?_
    refine x_if_lt (tgt := 39) hC ⟨by omega, by omega⟩ dX0_removeMultiples_10 (by decide) (fun c_1 => ?_) (fun c_1 => ?_)
    · refine lv_iload_n hC.1 hC.2.1 dX0_removeMultiples_39 rfl (lv_at hl 2 rfl) ?_
      refine lv_aload_n hC.1 hC.2.1 dX0_removeMultiples_40 rfl (lv_at hl 0 rfl) ?_
      refine x_get hC hw hB1.1 rfl hinX0 4 (by decide) (List.mem_cons_of_mem _ (List.mem_append_left _ (List.mem_append_left _ (List.mem_of_getElem? (i := 0) rfl)))) rfl dX0_removeMultiples_41 ?_
      refine x_isub hC dX0_removeMultiples_44 ?_
      exact x_iret hC hw dX0_removeMultiples_45 (by first | decide | omega) (by first | decide | omega) ⟨sz - sz1, rfl, (by have e9 := stN_sz hV hs0 hV1 hsa1 (hrm.fins hV1 (by omega)) (fun k9 _ => F_sift_or _ _ _); have e8 := stN_rng V (F_sift V p0); omega), (stN_sz hV hs0 hV1 hsa1 (hrm.fins hV1 (by omega)) (fun k9 _ => F_sift_or _ _ _)), _, _, _, _, hB1, sm1, hV1.map (hrm.fins hV1 (by omega)), (hks1.le (by omega)).map (hrm.fins hV1 (by omega))⟩
    · refine lv_iload_n hC.1 hC.2.1 dX0_removeMultiples_13 rfl (lv_at hl 1 rfl) ?_
      refine x_if_eq (tgt := 33) hC ⟨by omega, by omega⟩ dX0_removeMultiples_14 (by decide) (fun c_2 => ?_) (fun c_2 => ?_)
      · exact absurd c_2 (by omega)
      · refine lv_aload_n hC.1 hC.2.1 dX0_removeMultiples_17 rfl (lv_at hl 0 rfl) ?_
        refine lv_iload_n hC.1 hC.2.1 dX0_removeMultiples_18 rfl (lv_at hl 3 rfl) ?_
        refine x_callV hC hw (lv_size hl) (c_X0_valueAt l G hB1 (show o < 3 by first | assumption | omega) hV1 (by first | assumption | omega) (by first | assumption | omega) (p0 := pl) (by omega)) gX0_removeMultiples_X0_valueAt rfl dv_X0_valueAt hB1.1 rfl rfl (Nat.le_of_ble_eq_true rfl) (by rw [hRf]; decide) (by rw [hRl]; decide) (by first | (rw [hRc]; decide) | omega) (by first | (rw [hRs]; decide) | omega) dX0_removeMultiples_19 (fun r9 M_3 H locs hq hw => ?_)
        obtain ⟨z_4, rfl, hM9, hz_4, hz_4b, hz_4k⟩ := hq
        rw [hM9] at hw
        show W p l e R s m args below meth c H locs _ _ _ (F0 m 22 ls [.int (iN (z_4))])
        refine lv_iload_n hC.1 hC.2.1 dX0_removeMultiples_22 rfl (lv_at hl 1 rfl) ?_
        refine x_irem hC ⟨by omega, by omega⟩ ⟨by omega, by omega⟩ (by omega) (by omega) dX0_removeMultiples_23 ?_
        obtain ⟨z_5, hz_5⟩ : ∃ z : Int, z = z_4.tmod p0 := ⟨_, rfl⟩
        rw [← hz_5]
        have hrz_5 : -2147483648 ≤ z_5 ∧ z_5 ≤ 2147483647 := by rw [hz_5]; exact x_tmod_rng ⟨by omega, by omega⟩ (by omega)
        refine x_if_ne (tgt := 33) hC ⟨by omega, by omega⟩ dX0_removeMultiples_24 (by decide) (fun c_6 => ?_) (fun c_6 => ?_)
        · refine x_iinc (lv' := [(3, .int (iN (pl + (-1)))), (0, .ref b), (1, .int (iN (p0))), (2, .int (iN (sz)))]) hC dX0_removeMultiples_33 hl (k := 3) rfl (by decide) rfl (fun ls hl => ?_)
          refine lv_goto (tgt := 9) hC.1 hC.2.1 dX0_removeMultiples_36 (by decide) ?_
          exact ih9 (pl + (-1)) _ _ _ _ _ _ hB1 hV1 sm1 (hks1.le (by omega)) (hrm.skip (fun q8 => by have e9 := hol (by omega); have e8 := hvr1 (by omega); have e7 := q8.2; rw [show V (kN f1 (pl).toNat) = z_4 by omega, ← hz_5] at e7; omega) (by omega)) _ _ _ (by omega) (by omega) (by omega) hw (lv_sub hl [1, 2, 3, 0] rfl)
        · refine lv_aload_n hC.1 hC.2.1 dX0_removeMultiples_27 rfl (lv_at hl 0 rfl) ?_
          refine lv_iload_n hC.1 hC.2.1 dX0_removeMultiples_28 rfl (lv_at hl 3 rfl) ?_
          refine x_callV hC hw (lv_size hl) (c_X0_removeAt l G hB1 (show o < 3 by first | assumption | omega) hV1 (by first | assumption | omega) (by first | assumption | omega) (p0 := pl) (by omega)) gX0_removeMultiples_X0_removeAt rfl dv_X0_removeAt hB1.1 rfl rfl (Nat.le_of_ble_eq_true rfl) (by rw [hRf]; decide) (by rw [hRl]; decide) (by first | (rw [hRc]; decide) | omega) (by first | (rw [hRs]; decide) | omega) dX0_removeMultiples_29 (fun r9 M_7 H locs hq hw => ?_)
          obtain ⟨z_9, rfl, hz_9, hz_9n, hz_9k, kcu_8, szu_8, fku_8, fvu_8, hBu_8, smu_8, hVu_8, hksu_8, hsxu_8, hkxu_8, hfxu_8⟩ := hq
          obtain ⟨-, -, -, -, hsau_8, hsbu_8⟩ := id hBu_8
          obtain ⟨hkau_8, hkbu_8, -⟩ := id hksu_8
          have sm_10 := (sm1).tr (smu_8)
          show W p l e R s m args below meth c H locs _ _ _ (F0 m 32 ls [.int (iN (z_9))])
          refine lv_pop hC.1 hC.2.1 dX0_removeMultiples_32 rfl ?_
          refine x_iinc (lv' := [(3, .int (iN (pl + (-1)))), (0, .ref b), (1, .int (iN (p0))), (2, .int (iN (sz)))]) hC dX0_removeMultiples_33 hl (k := 3) rfl (by decide) rfl (fun ls hl => ?_)
          refine lv_goto (tgt := 9) hC.1 hC.2.1 dX0_removeMultiples_36 (by decide) ?_
          exact ih9 (pl + (-1)) _ _ _ _ _ (upV V1 (kN f1 (pl).toNat) (-10000)) hBu_8 (by rw [← (show rmV V1 z_9 = upV V1 (kN f1 (pl).toNat) (-10000) by rw [rmV_1 (by omega), show (z_9).toNat = kN f1 (pl).toNat from (kNz (by omega)).symm])]; exact hVu_8) sm_10 (kcs.le (kcs.sub hrm.mono hks1 (hV1.k (p := (pl).toNat) (by omega)).2.1 (by rw [if_neg (by have e9 := hol (by omega); omega), hkxu_8, if_neg (by omega)])).1 (by omega)) (rmA.strike hV1 hrm (⟨(hol (by omega)).2, by have e9 := hol (by omega); have e8 := hvr1 (by omega); rw [show V (kN f1 (pl).toNat) = z_4 by omega, ← hz_5]; omega⟩) (by omega) (by omega) (fun q9 hq9 => hfxu_8 q9 hq9 ⟨by omega, by omega⟩)) _ _ _ (by omega) (by omega) (by omega) hw (lv_sub hl [1, 2, 3, 0] rfl)
set_option maxHeartbeats 4000000 in
set_option maxRecDepth 100000 in
theorem c_X0_removeByOther (l : Launch) (G : xG) {M : HM} {b k v o : Nat} {no : Int32} {t kc sz : Int} {fk fv : Nat → Int32} {V : Nat → Int} (hB : Bk G M b k v no (iN ((o : Nat) : Int)) (iN (t)) (iN (kc)) sz fk fv) (ho : o < 3) (hV : BV o V sz.toNat fk fv) (htt : 0 ≤ t ∧ t ≤ 1000000) (hkk : 0 ≤ kc ∧ kc ≤ 999000) {b2 k2 v2 o2 : Nat} {no2 : Int32} {t2 kc2 sz2 : Int} {fk2 fv2 : Nat → Int32} {V2 : Nat → Int} (hB2 : Bk G M b2 k2 v2 no2 (iN ((o2 : Nat) : Int)) (iN (t2)) (iN (kc2)) sz2 fk2 fv2) (ho2 : o2 < 3) (hV2 : BV o2 V2 sz2.toNat fk2 fv2) (htt2 : 0 ≤ t2 ∧ t2 ≤ 1000000) (hkk2 : 0 ≤ kc2 ∧ kc2 ≤ 1000000) {p0 : Int} (hp0 : -2147483648 ≤ p0 ∧ p0 ≤ 2147483647) (hap : xAp b k v b2 k2 v2) (hb0 : p0 = 0 ∨ p0 = 1) : xMet l G yX0_removeByOther wsX0_removeByOther 5 112 0 0 [.ref b, .ref b2, .int (iN (p0))] M (fun r M1 => ∃ z : Int, r = some (.int (iN z)) ∧ (0 ≤ z ∧ z ≤ 100) ∧ z = stN V (F_thin V V2 p0) 100 ∧ ∃ (kc1 sz1 : Int) (f1 f2 : Nat → Int32), Bk G M1 b k v no (iN ((o : Nat) : Int)) (iN (t)) (iN (kc1)) sz1 f1 f2 ∧ xSm M M1 b k v ∧ BV o (mapN V (F_thin V V2 p0) 100) sz1.toNat f1 f2 ∧ kcs V (mapN V (F_thin V V2 p0) 100) kc kc1 101) := by
  refine x_intro (cc := cX0_removeByOther) (maxL := 5) (ret := (some .int)) (by exact pln_RX0) rfl (Nat.le_of_ble_eq_true rfl) ?_
  intro p e R s m args below meth c ls hRf hRc hRs hRl hC hw hl
  obtain ⟨-, -, -, -, hs0, hs1⟩ := id hB
  obtain ⟨-, -, -, -, hs2, hs3⟩ := id hB2
  have hinX0 : ∀ w ∈ wsX00, w ∈ wsX0_removeByOther := fun w h => (List.mem_cons_of_mem _ (List.mem_append_right _ h))
  have hl : lv_has ls 5 [(0, .ref b), (1, .ref b2), (2, .int (iN (p0)))] := hl
  refine lv_aload_n hC.1 hC.2.1 dX0_removeByOther_0 rfl (lv_at hl 0 rfl) ?_
  refine x_get hC hw hB.1 rfl hinX0 4 (by decide) (List.mem_cons_of_mem _ (List.mem_append_left _ (List.mem_append_left _ (List.mem_of_getElem? (i := 0) rfl)))) rfl dX0_removeByOther_1 ?_
  refine lv_istore_n (lv' := [(3, .int (iN (sz))), (0, .ref b), (1, .ref b2), (2, .int (iN (p0)))]) hC.1 hC.2.1 dX0_removeByOther_4 rfl hl (by decide) rfl (fun ls hl => ?_)
  refine lv_iload_n hC.1 hC.2.1 dX0_removeByOther_5 rfl (lv_at hl 0 rfl) ?_
  refine x_const hC dX0_removeByOther_6 ?_
  refine x_isub hC dX0_removeByOther_7 ?_
  refine lv_istore (lv' := [(4, .int (iN (sz - 1))), (3, .int (iN (sz))), (0, .ref b), (1, .ref b2), (2, .int (iN (p0)))]) hC.1 hC.2.1 dX0_removeByOther_8 hl (by decide) rfl (fun ls hl => ?_)
  suffices hloop10 : ∀ (n9 : Nat) (pl : Int) (M1 : HM) (kc1 sz1 : Int) (f1 f2 : Nat → Int32) (V1 : Nat → Int) (hB1 : Bk G M1 b k v no (iN ((o : Nat) : Int)) (iN (t)) (iN (kc1)) sz1 f1 f2) (hV1 : BV o V1 sz1.toNat f1 f2) (sm1 : xSm M M1 b k v) (hks1 : kcs V V1 kc kc1 (100 - pl)) (hrm : rmA V V1 (fun k => V k ≠ -10000 ∧ (V2 k ≠ -10000 ↔ p0 = 1)) f1 sz1 pl) (hB21 : Bk G M1 b2 k2 v2 no2 (iN ((o2 : Nat) : Int)) (iN (t2)) (iN (kc2)) sz2 fk2 fv2) (H : Heap) (locs : List Loc) (ls : Array Slot), (hmz10 : (pl + 1).toNat < n9) → (hi0 : -1 ≤ pl) → (hi1 : pl ≤ 100) → xD G (xA M s.heap.size) s M1 H locs → lv_has ls 5 [(0, .ref b), (1, .ref b2), (2, .int (iN (p0))), (3, .int (iN (sz))), (4, .int (iN (pl)))] → W p l e R s m args below meth c H locs _ _ _ (F0 m 10 ls []) by
    exact hloop10 _ (sz - 1) _ _ _ _ _ _ hB hV xSm.rf (kcs.rf.le (by omega)) (rmA.init (by omega)) hB2 _ _ _ (Nat.lt_succ_self _) (by omega) (by omega) hw (lv_sub hl [2, 3, 4, 1, 0] rfl)
  intro n9
  induction n9 with
  | zero => intro pl M1 kc1 sz1 f1 f2 V1 hB1 hV1 sm1 hks1 hrm hB21 H locs ls hmz; exact absurd hmz (Nat.not_lt_zero _)
  | succ n9 ih10 =>
    intro pl M1 kc1 sz1 f1 f2 V1 hB1 hV1 sm1 hks1 hrm hB21 H locs ls hmz10 hi0 hi1 hw hl
    obtain ⟨-, -, -, -, hsa1, hsb1⟩ := id hB1
    obtain ⟨hka1, hkb1, -⟩ := id hks1
    have hpl1 := hrm.2.2
    have hol : 0 ≤ pl → V1 (kN f1 (pl).toNat) = V (kN f1 (pl).toNat) ∧ V (kN f1 (pl).toNat) ≠ -10000 := fun h9 => hrm.old hV1 h9
    have hkr1 : 0 ≤ pl → 0 ≤ (f1 (pl).toNat).toInt ∧ (f1 (pl).toNat).toInt ≤ 99 := fun h9 => hV1.kr ⟨h9, by omega⟩
    have hvr1 : 0 ≤ pl → (f2 (pl).toNat).toInt = V1 (kN f1 (pl).toNat) := fun h9 => (hV1.vr' ⟨h9, by omega⟩).1
    refine lv_iload hC.1 hC.2.1 dX0_removeByOther_10 (lv_at hl 4 rfl) ?_
    refine x_if_lt (tgt := 42) hC ⟨by omega, by omega⟩ dX0_removeByOther_12 (by decide) (fun c_1 => ?_) (fun c_1 => ?_)
    · refine lv_iload_n hC.1 hC.2.1 dX0_removeByOther_42 rfl (lv_at hl 3 rfl) ?_
      refine lv_aload_n hC.1 hC.2.1 dX0_removeByOther_43 rfl (lv_at hl 0 rfl) ?_
      refine x_get hC hw hB1.1 rfl hinX0 4 (by decide) (List.mem_cons_of_mem _ (List.mem_append_left _ (List.mem_append_left _ (List.mem_of_getElem? (i := 0) rfl)))) rfl dX0_removeByOther_44 ?_
      refine x_isub hC dX0_removeByOther_47 ?_
      exact x_iret hC hw dX0_removeByOther_48 (by first | decide | omega) (by first | decide | omega) ⟨sz - sz1, rfl, (by have e9 := stN_sz hV hs0 hV1 hsa1 (hrm.fint hV1 (by omega)) (fun k9 _ => F_thin_or _ _ _ _); have e8 := stN_rng V (F_thin V V2 p0); omega), (stN_sz hV hs0 hV1 hsa1 (hrm.fint hV1 (by omega)) (fun k9 _ => F_thin_or _ _ _ _)), _, _, _, _, hB1, sm1, hV1.map (hrm.fint hV1 (by omega)), (hks1.le (by omega)).map (hrm.fint hV1 (by omega))⟩
    · refine lv_aload_n hC.1 hC.2.1 dX0_removeByOther_15 rfl (lv_at hl 1 rfl) ?_
      refine lv_aload_n hC.1 hC.2.1 dX0_removeByOther_16 rfl (lv_at hl 0 rfl) ?_
      refine lv_iload hC.1 hC.2.1 dX0_removeByOther_17 (lv_at hl 4 rfl) ?_
      refine x_callV hC hw (lv_size hl) (c_X0_keyAt l G hB1 (show o < 3 by first | assumption | omega) hV1 (by first | assumption | omega) (by first | assumption | omega) (p0 := pl) (by omega)) gX0_removeByOther_X0_keyAt rfl dv_X0_keyAt hB1.1 rfl rfl (Nat.le_of_ble_eq_true rfl) (by rw [hRf]; decide) (by rw [hRl]; decide) (by first | (rw [hRc]; decide) | omega) (by first | (rw [hRs]; decide) | omega) dX0_removeByOther_19 (fun r9 M_2 H locs hq hw => ?_)
      obtain ⟨z_3, rfl, hM9, hz_3, hz_3b, hz_3k⟩ := hq
      rw [hM9] at hw
      show W p l e R s m args below meth c H locs _ _ _ (F0 m 22 ls [.int (iN (z_3)), .ref b2])
      refine x_callV hC hw (lv_size hl) (c_X0_holds l G hB21 (show o2 < 3 by omega) hV2 (by first | assumption | omega) (by first | assumption | omega) (p0 := z_3) (by omega)) gX0_removeByOther_X0_holds rfl dv_X0_holds hB21.1 rfl rfl (Nat.le_of_ble_eq_true rfl) (by rw [hRf]; decide) (by rw [hRl]; decide) (by first | (rw [hRc]; decide) | omega) (by first | (rw [hRs]; decide) | omega) dX0_removeByOther_22 (fun r9 M_4 H locs hq hw => ?_)
      obtain ⟨z_5, rfl, hM9, hz_5, hz_5v⟩ := hq
      rw [hM9] at hw
      show W p l e R s m args below meth c H locs _ _ _ (F0 m 25 ls [.int (iN (z_5))])
      refine lv_iload_n hC.1 hC.2.1 dX0_removeByOther_25 rfl (lv_at hl 2 rfl) ?_
      refine x_icmp_ne (tgt := 36) hC ⟨by omega, by omega⟩ ⟨by omega, by omega⟩ dX0_removeByOther_26 (by decide) (fun c_6 => ?_) (fun c_6 => ?_)
      · refine x_iinc (lv' := [(4, .int (iN (pl + (-1)))), (0, .ref b), (1, .ref b2), (2, .int (iN (p0))), (3, .int (iN (sz)))]) hC dX0_removeByOther_36 hl (k := 4) rfl (by decide) rfl (fun ls hl => ?_)
        refine lv_goto (tgt := 10) hC.1 hC.2.1 dX0_removeByOther_39 (by decide) ?_
        exact ih10 (pl + (-1)) _ _ _ _ _ _ hB1 hV1 sm1 (hks1.le (by omega)) (hrm.skip (fun q8 => by have e9 := hkr1 (by omega); have e8 := hz_5v (by omega); rw [show (z_3).toNat = kN f1 (pl).toNat from (kNz (by omega)).symm] at e8; have e7 := q8.2; omega) (by omega)) hB21 _ _ _ (by omega) (by omega) (by omega) hw (lv_sub hl [1, 2, 3, 4, 0] rfl)
      · refine lv_aload_n hC.1 hC.2.1 dX0_removeByOther_29 rfl (lv_at hl 0 rfl) ?_
        refine lv_iload hC.1 hC.2.1 dX0_removeByOther_30 (lv_at hl 4 rfl) ?_
        refine x_callV hC hw (lv_size hl) (c_X0_removeAt l G hB1 (show o < 3 by first | assumption | omega) hV1 (by first | assumption | omega) (by first | assumption | omega) (p0 := pl) (by omega)) gX0_removeByOther_X0_removeAt rfl dv_X0_removeAt hB1.1 rfl rfl (Nat.le_of_ble_eq_true rfl) (by rw [hRf]; decide) (by rw [hRl]; decide) (by first | (rw [hRc]; decide) | omega) (by first | (rw [hRs]; decide) | omega) dX0_removeByOther_32 (fun r9 M_7 H locs hq hw => ?_)
        obtain ⟨z_9, rfl, hz_9, hz_9n, hz_9k, kcu_8, szu_8, fku_8, fvu_8, hBu_8, smu_8, hVu_8, hksu_8, hsxu_8, hkxu_8, hfxu_8⟩ := hq
        obtain ⟨-, -, -, -, hsau_8, hsbu_8⟩ := id hBu_8
        obtain ⟨hkau_8, hkbu_8, -⟩ := id hksu_8
        have sm_10 := (sm1).tr (smu_8)
        have hB_11 := hB21.kept smu_8 hap
        show W p l e R s m args below meth c H locs _ _ _ (F0 m 35 ls [.int (iN (z_9))])
        refine lv_pop hC.1 hC.2.1 dX0_removeByOther_35 rfl ?_
        refine x_iinc (lv' := [(4, .int (iN (pl + (-1)))), (0, .ref b), (1, .ref b2), (2, .int (iN (p0))), (3, .int (iN (sz)))]) hC dX0_removeByOther_36 hl (k := 4) rfl (by decide) rfl (fun ls hl => ?_)
        refine lv_goto (tgt := 10) hC.1 hC.2.1 dX0_removeByOther_39 (by decide) ?_
        exact ih10 (pl + (-1)) _ _ _ _ _ (upV V1 (kN f1 (pl).toNat) (-10000)) hBu_8 (by rw [← (show rmV V1 z_9 = upV V1 (kN f1 (pl).toNat) (-10000) by rw [rmV_1 (by omega), show (z_9).toNat = kN f1 (pl).toNat from (kNz (by omega)).symm])]; exact hVu_8) sm_10 (kcs.le (kcs.sub hrm.mono hks1 (hV1.k (p := (pl).toNat) (by omega)).2.1 (by rw [if_neg (by have e9 := hol (by omega); omega), hkxu_8, if_neg (by omega)])).1 (by omega)) (rmA.strike hV1 hrm (⟨(hol (by omega)).2, by have e9 := hkr1 (by omega); have e8 := hz_5v (by omega); rw [show (z_3).toNat = kN f1 (pl).toNat from (kNz (by omega)).symm] at e8; omega⟩) (by omega) (by omega) (fun q9 hq9 => hfxu_8 q9 hq9 ⟨by omega, by omega⟩)) hB_11 _ _ _ (by omega) (by omega) (by omega) hw (lv_sub hl [1, 2, 3, 4, 0] rfl)
set_option maxHeartbeats 4000000 in
set_option maxRecDepth 100000 in
theorem c_X0_enterAll (l : Launch) (G : xG) {M : HM} {b k v o : Nat} {no : Int32} {t kc sz : Int} {fk fv : Nat → Int32} {V : Nat → Int} (hB : Bk G M b k v no (iN ((o : Nat) : Int)) (iN (t)) (iN (kc)) sz fk fv) (ho : o < 3) (hV : BV o V sz.toNat fk fv) (htt : 0 ≤ t ∧ t ≤ 1000000) (hkk : 0 ≤ kc ∧ kc ≤ 999000) {b2 k2 v2 o2 : Nat} {no2 : Int32} {t2 kc2 sz2 : Int} {fk2 fv2 : Nat → Int32} {V2 : Nat → Int} (hB2 : Bk G M b2 k2 v2 no2 (iN ((o2 : Nat) : Int)) (iN (t2)) (iN (kc2)) sz2 fk2 fv2) (ho2 : o2 < 3) (hV2 : BV o2 V2 sz2.toNat fk2 fv2) (htt2 : 0 ≤ t2 ∧ t2 ≤ 1000000) (hkk2 : 0 ≤ kc2 ∧ kc2 ≤ 1000000) (hap : xAp b k v b2 k2 v2) : xMet l G yX0_enterAll wsX0_enterAll 4 93 0 0 [.ref b, .ref b2] M (fun r M1 => r = none ∧ ∃ (kc1 sz1 : Int) (f1 f2 : Nat → Int32), Bk G M1 b k v no (iN ((o : Nat) : Int)) (iN (t)) (iN (kc1)) sz1 f1 f2 ∧ xSm M M1 b k v ∧ BV o (mapN V (F_pour V V2) 100) sz1.toNat f1 f2 ∧ kcs V (mapN V (F_pour V V2) 100) kc kc1 100) := by
  refine x_intro (cc := cX0_enterAll) (maxL := 3) (ret := none) (by exact pln_RX0) rfl (Nat.le_of_ble_eq_true rfl) ?_
  intro p e R s m args below meth c ls hRf hRc hRs hRl hC hw hl
  obtain ⟨-, -, -, -, hs0, hs1⟩ := id hB
  obtain ⟨-, -, -, -, hs2, hs3⟩ := id hB2
  have hl : lv_has ls 3 [(0, .ref b), (1, .ref b2)] := hl
  refine x_const hC dX0_enterAll_0 ?_
  refine lv_istore_n (lv' := [(2, .int (iN (0))), (0, .ref b), (1, .ref b2)]) hC.1 hC.2.1 dX0_enterAll_1 rfl hl (by decide) rfl (fun ls hl => ?_)
  suffices hloop2 : ∀ (n9 : Nat) (pl : Int) (M1 : HM) (kc1 sz1 : Int) (f1 f2 : Nat → Int32) (V1 : Nat → Int) (hB1 : Bk G M1 b k v no (iN ((o : Nat) : Int)) (iN (t)) (iN (kc1)) sz1 f1 f2) (hV1 : BV o V1 sz1.toNat f1 f2) (sm1 : xSm M M1 b k v) (hks1 : kcs V V1 kc kc1 pl) (hmn : ∀ k, k < 100 → V k ≠ -10000 → V1 k ≠ -10000) (hen : enA sz2.toNat fk2 V V2 V1 pl) (hB21 : Bk G M1 b2 k2 v2 no2 (iN ((o2 : Nat) : Int)) (iN (t2)) (iN (kc2)) sz2 fk2 fv2) (H : Heap) (locs : List Loc) (ls : Array Slot), (hmz2 : (sz2 - pl).toNat < n9) → (hi0 : 0 ≤ pl) → (hi1 : pl ≤ sz2) → xD G (xA M s.heap.size) s M1 H locs → lv_has ls 3 [(0, .ref b), (1, .ref b2), (2, .int (iN (pl)))] → W p l e R s m args below meth c H locs _ _ _ (F0 m 2 ls []) by
    exact hloop2 _ 0 _ _ _ _ _ _ hB hV xSm.rf kcs.rf (fun _ _ h9 => h9) enA.init hB2 _ _ _ (Nat.lt_succ_self _) (by omega) (by omega) hw (lv_sub hl [1, 2, 0] rfl)
  intro n9
  induction n9 with
  | zero => intro pl M1 kc1 sz1 f1 f2 V1 hB1 hV1 sm1 hks1 hmn hen hB21 H locs ls hmz; exact absurd hmz (Nat.not_lt_zero _)
  | succ n9 ih2 =>
    intro pl M1 kc1 sz1 f1 f2 V1 hB1 hV1 sm1 hks1 hmn hen hB21 H locs ls hmz2 hi0 hi1 hw hl
    obtain ⟨-, -, -, -, hsa1, hsb1⟩ := id hB1
    obtain ⟨hka1, hkb1, -⟩ := id hks1
    have hvr2 : 0 ≤ pl ∧ pl < sz2 → (fv2 (pl).toNat).toInt = V2 (kN fk2 (pl).toNat) := fun h9 => (hV2.vr' h9).1
    refine lv_iload_n hC.1 hC.2.1 dX0_enterAll_2 rfl (lv_at hl 2 rfl) ?_
    refine lv_aload_n hC.1 hC.2.1 dX0_enterAll_3 rfl (lv_at hl 1 rfl) ?_
    refine x_callV hC hw (lv_size hl) (c_X0_size l G hB21 (show o2 < 3 by omega) hV2 (by first | assumption | omega) (by first | assumption | omega)) gX0_enterAll_X0_size rfl dv_X0_size hB21.1 rfl rfl (Nat.le_of_ble_eq_true rfl) (by rw [hRf]; decide) (by rw [hRl]; decide) (by first | (rw [hRc]; decide) | omega) (by first | (rw [hRs]; decide) | omega) dX0_enterAll_4 (fun r9 M_1 H locs hq hw => ?_)
    obtain ⟨rfl, hM9⟩ := hq
    rw [hM9] at hw
    show W p l e R s m args below meth c H locs _ _ _ (F0 m 7 ls [.int (iN (sz2)), .int (iN (pl))])
    refine x_icmp_ge (tgt := 31) hC ⟨by omega, by omega⟩ ⟨by omega, by omega⟩ dX0_enterAll_7 (by decide) (fun c_2 => ?_) (fun c_2 => ?_)
    · exact x_vret hC hw dX0_enterAll_31 (by first | decide | omega) (by first | decide | omega) ⟨rfl, _, _, _, _, hB1, sm1, hV1.map (hen.fin hV2 (by omega)), (hks1.le (by omega)).map (hen.fin hV2 (by omega))⟩
    · refine lv_aload_n hC.1 hC.2.1 dX0_enterAll_10 rfl (lv_at hl 0 rfl) ?_
      refine lv_aload_n hC.1 hC.2.1 dX0_enterAll_11 rfl (lv_at hl 1 rfl) ?_
      refine lv_iload_n hC.1 hC.2.1 dX0_enterAll_12 rfl (lv_at hl 2 rfl) ?_
      refine x_callV hC hw (lv_size hl) (c_X0_keyAt l G hB21 (show o2 < 3 by omega) hV2 (by first | assumption | omega) (by first | assumption | omega) (p0 := pl) (by omega)) gX0_enterAll_X0_keyAt rfl dv_X0_keyAt hB21.1 rfl rfl (Nat.le_of_ble_eq_true rfl) (by rw [hRf]; decide) (by rw [hRl]; decide) (by first | (rw [hRc]; decide) | omega) (by first | (rw [hRs]; decide) | omega) dX0_enterAll_13 (fun r9 M_3 H locs hq hw => ?_)
      obtain ⟨z_4, rfl, hM9, hz_4, hz_4b, hz_4k⟩ := hq
      rw [hM9] at hw
      show W p l e R s m args below meth c H locs _ _ _ (F0 m 16 ls [.int (iN (z_4)), .ref b])
      refine lv_aload_n hC.1 hC.2.1 dX0_enterAll_16 rfl (lv_at hl 1 rfl) ?_
      refine lv_iload_n hC.1 hC.2.1 dX0_enterAll_17 rfl (lv_at hl 2 rfl) ?_
      refine x_callV hC hw (lv_size hl) (c_X0_valueAt l G hB21 (show o2 < 3 by omega) hV2 (by first | assumption | omega) (by first | assumption | omega) (p0 := pl) (by omega)) gX0_enterAll_X0_valueAt rfl dv_X0_valueAt hB21.1 rfl rfl (Nat.le_of_ble_eq_true rfl) (by rw [hRf]; decide) (by rw [hRl]; decide) (by first | (rw [hRc]; decide) | omega) (by first | (rw [hRs]; decide) | omega) dX0_enterAll_18 (fun r9 M_5 H locs hq hw => ?_)
      obtain ⟨z_6, rfl, hM9, hz_6, hz_6b, hz_6k⟩ := hq
      rw [hM9] at hw
      show W p l e R s m args below meth c H locs _ _ _ (F0 m 21 ls [.int (iN (z_6)), .int (iN (z_4)), .ref b])
      refine x_callV hC hw (lv_size hl) (c_X0_enter l G hB1 (show o < 3 by first | assumption | omega) hV1 (by first | assumption | omega) (by first | assumption | omega) (p0 := z_4) (by omega) (p1 := z_6) (by omega) (by omega) (by omega)) gX0_enterAll_X0_enter rfl dv_X0_enter hB1.1 rfl rfl (Nat.le_of_ble_eq_true rfl) (by rw [hRf]; decide) (by rw [hRl]; decide) (by first | (rw [hRc]; decide) | omega) (by first | (rw [hRs]; decide) | omega) dX0_enterAll_21 (fun r9 M_7 H locs hq hw => ?_)
      obtain ⟨z_9, rfl, hz_9, hz_9v, kcu_8, szu_8, fku_8, fvu_8, hBu_8, smu_8, hVu_8, hksu_8, hka1u_8, hkb1u_8⟩ := hq
      obtain ⟨-, -, -, -, hsau_8, hsbu_8⟩ := id hBu_8
      obtain ⟨hkau_8, hkbu_8, -⟩ := id hksu_8
      have sm_10 := (sm1).tr (smu_8)
      have hB_11 := hB21.kept smu_8 hap
      show W p l e R s m args below meth c H locs _ _ _ (F0 m 24 ls [.int (iN (z_9))])
      refine lv_pop hC.1 hC.2.1 dX0_enterAll_24 rfl ?_
      refine x_iinc (lv' := [(2, .int (iN (pl + 1))), (0, .ref b), (1, .ref b2)]) hC dX0_enterAll_25 hl (k := 2) rfl (by decide) rfl (fun ls hl => ?_)
      refine lv_goto (tgt := 2) hC.1 hC.2.1 dX0_enterAll_28 (by decide) ?_
      exact ih2 (pl + 1) _ _ _ _ _ _ hBu_8 hVu_8 sm_10 (kcs.add hmn hks1 (by omega) (by omega) (by by_cases e9 : V1 (z_4).toNat = -10000; (· rw [if_pos e9]; exact hka1u_8 e9); (· rw [if_neg e9]; have e8 := hkb1u_8 e9; omega))).1 (add_mono hmn (by omega)) (hen.step hV2 (by first | assumption | omega) (by first | assumption | omega) (by omega) (by omega)) hB_11 _ _ _ (by first | exact mu_s hmz2 (by omega) | omega) (by omega) (by omega) hw (lv_sub hl [1, 2, 0] rfl)
set_option maxHeartbeats 4000000 in
set_option maxRecDepth 100000 in
theorem c_X0_becomeLike (l : Launch) (G : xG) {M : HM} {b k v o : Nat} {no : Int32} {t kc sz : Int} {fk fv : Nat → Int32} {V : Nat → Int} (hB : Bk G M b k v no (iN ((o : Nat) : Int)) (iN (t)) (iN (kc)) sz fk fv) (ho : o < 3) (hV : BV o V sz.toNat fk fv) (htt : 0 ≤ t ∧ t ≤ 1000000) (hkk : 0 ≤ kc ∧ kc ≤ 998000) {b2 k2 v2 o2 : Nat} {no2 : Int32} {t2 kc2 sz2 : Int} {fk2 fv2 : Nat → Int32} {V2 : Nat → Int} (hB2 : Bk G M b2 k2 v2 no2 (iN ((o2 : Nat) : Int)) (iN (t2)) (iN (kc2)) sz2 fk2 fv2) (ho2 : o2 < 3) (hV2 : BV o2 V2 sz2.toNat fk2 fv2) (htt2 : 0 ≤ t2 ∧ t2 ≤ 1000000) (hkk2 : 0 ≤ kc2 ∧ kc2 ≤ 1000000) (hap : xAp b k v b2 k2 v2) : xMet l G yX0_becomeLike wsX0_becomeLike 5 115 0 0 [.ref b, .ref b2] M (fun r M1 => r = none ∧ ∃ (kc1 sz1 : Int) (f1 f2 : Nat → Int32), Bk G M1 b k v no (iN ((o2 : Nat) : Int)) (iN (t)) (iN (kc1)) sz1 f1 f2 ∧ xSm M M1 b k v ∧ BV o2 V2 sz1.toNat f1 f2 ∧ (kc ≤ kc1 ∧ kc1 ≤ kc + 101)) := by
  refine x_intro (cc := cX0_becomeLike) (maxL := 2) (ret := none) (by exact pln_RX0) rfl (Nat.le_of_ble_eq_true rfl) ?_
  intro p e R s m args below meth c ls hRf hRc hRs hRl hC hw hl
  obtain ⟨-, -, -, -, hs0, hs1⟩ := id hB
  obtain ⟨-, -, -, -, hs2, hs3⟩ := id hB2
  have hinX0 : ∀ w ∈ wsX00, w ∈ wsX0_becomeLike := fun w h => (List.mem_cons_of_mem _ (List.mem_append_right _ h))
  have hl : lv_has ls 2 [(0, .ref b), (1, .ref b2)] := hl
  refine lv_aload_n hC.1 hC.2.1 dX0_becomeLike_0 rfl (lv_at hl 0 rfl) ?_
  refine x_const hC dX0_becomeLike_1 ?_
  refine lv_aload_n hC.1 hC.2.1 dX0_becomeLike_2 rfl (lv_at hl 0 rfl) ?_
  refine x_get hC hw hB.1 rfl hinX0 4 (by decide) (List.mem_cons_of_mem _ (List.mem_append_left _ (List.mem_append_left _ (List.mem_of_getElem? (i := 0) rfl)))) rfl dX0_becomeLike_3 ?_
  refine x_callV hC hw (lv_size hl) (c_X0_removeRange l G hB (show o < 3 by first | assumption | omega) hV (by first | assumption | omega) (by first | assumption | omega) (p0 := 0) (by omega) (p1 := sz) (by omega) (V1 := (fun _ => -10000 : Nat → Int)) (fun q9 hq9 => (if_pos ⟨by omega, by omega⟩).symm) (fun _ _ _ => rfl) (by omega)) gX0_becomeLike_X0_removeRange rfl dv_X0_removeRange hB.1 rfl rfl (Nat.le_of_ble_eq_true rfl) (by rw [hRf]; decide) (by rw [hRl]; decide) (by first | (rw [hRc]; decide) | omega) (by first | (rw [hRs]; decide) | omega) dX0_becomeLike_6 (fun r9 M_1 H locs hq hw => ?_)
  obtain ⟨z_3, rfl, hz_3, hz_3r, kcu_2, szu_2, fku_2, fvu_2, hBu_2, smu_2, hVu_2, hksu_2, hsxu_2, hkxu_2, hfxu_2⟩ := hq
  obtain ⟨-, -, -, -, hsau_2, hsbu_2⟩ := id hBu_2
  obtain ⟨hkau_2, hkbu_2, -⟩ := id hksu_2
  have sm_4 := (xSm.rf (M := M) (b := b) (k := k) (v := v)).tr (smu_2)
  have hB_5 := hB2.kept smu_2 hap
  show W p l e R s m args below meth c H locs _ _ _ (F0 m 9 ls [.int (iN (z_3))])
  refine lv_pop hC.1 hC.2.1 dX0_becomeLike_9 rfl ?_
  refine lv_aload_n hC.1 hC.2.1 dX0_becomeLike_10 rfl (lv_at hl 0 rfl) ?_
  refine lv_aload_n hC.1 hC.2.1 dX0_becomeLike_11 rfl (lv_at hl 1 rfl) ?_
  refine x_callV hC hw (lv_size hl) (c_X0_order l G hB_5 (show o2 < 3 by omega) hV2 (by first | assumption | omega) (by first | assumption | omega)) gX0_becomeLike_X0_order rfl dv_X0_order hB_5.1 rfl rfl (Nat.le_of_ble_eq_true rfl) (by rw [hRf]; decide) (by rw [hRl]; decide) (by first | (rw [hRc]; decide) | omega) (by first | (rw [hRs]; decide) | omega) dX0_becomeLike_12 (fun r9 M_6 H locs hq hw => ?_)
  obtain ⟨rfl, hM9⟩ := hq
  rw [hM9] at hw
  show W p l e R s m args below meth c H locs _ _ _ (F0 m 15 ls [.int (iN (((o2 : Nat) : Int))), .ref b])
  refine x_put (fs2 := [.int no, .ref k, .ref v, .int (iN (((o2 : Nat) : Int))), .int (iN (szu_2)), .int (iN (t)), .int (iN (kcu_2))]) hC hw hBu_2.1 rfl hinX0 tyX0 tyX0_ok nmX0 3 (by decide) (List.mem_cons_of_mem _ (List.mem_append_left _ (List.mem_append_left _ (List.mem_of_getElem? (i := 1) rfl)))) rfl rfl rfl (Nat.le_of_ble_eq_true rfl) rfl dX0_becomeLike_15 (fun H locs hw => ?_)
  obtain ⟨M_7, hM_8⟩ : ∃ z, z = va_up M_1 b (some (.inr (2, [.int no, .ref k, .ref v, .int (iN (((o2 : Nat) : Int))), .int (iN (szu_2)), .int (iN (t)), .int (iN (kcu_2))]))) := ⟨_, rfl⟩
  rw [← hM_8] at hw
  have hB_9 := hBu_2.setb hM_8 (by omega) (by omega)
  have sm_10 := (sm_4).tr (xSm.b hM_8)
  have hB_11 := hB_5.kept (xSm.b (b := b) (k := k) (v := v) hM_8) hap
  have hV_12 : BV o2 (fun _ => -10000 : Nat → Int) (szu_2).toNat fku_2 fvu_2 := by have e9 := hVu_2; rw [show (szu_2).toNat = 0 from tn_eq (by omega)] at e9 ⊢; exact e9.empty
  refine lv_aload_n hC.1 hC.2.1 dX0_becomeLike_18 rfl (lv_at hl 0 rfl) ?_
  refine lv_aload_n hC.1 hC.2.1 dX0_becomeLike_19 rfl (lv_at hl 1 rfl) ?_
  refine x_callV hC hw (lv_size hl) (c_X0_enterAll l G hB_9 (show o2 < 3 by omega) hV_12 (by first | assumption | omega) (by first | assumption | omega) hB_11 (show o2 < 3 by omega) hV2 (by first | assumption | omega) (by first | assumption | omega) hap) gX0_becomeLike_X0_enterAll rfl dv_X0_enterAll hB_9.1 rfl rfl (Nat.le_of_ble_eq_true rfl) (by rw [hRf]; decide) (by rw [hRl]; decide) (by first | (rw [hRc]; decide) | omega) (by first | (rw [hRs]; decide) | omega) dX0_becomeLike_20 (fun r9 M_13 H locs hq hw => ?_)
  obtain ⟨rfl, kcu_14, szu_14, fku_14, fvu_14, hBu_14, smu_14, hVu_14, hksu_14⟩ := hq
  obtain ⟨-, -, -, -, hsau_14, hsbu_14⟩ := id hBu_14
  obtain ⟨hkau_14, hkbu_14, -⟩ := id hksu_14
  have sm_15 := (sm_10).tr (smu_14)
  have hB_16 := hB_11.kept smu_14 hap
  show W p l e R s m args below meth c H locs _ _ _ (F0 m 23 ls [])
  exact x_vret hC hw dX0_becomeLike_23 (by first | decide | omega) (by first | decide | omega) ⟨rfl, _, _, _, _, hBu_14, sm_15, hVu_14.cg (fun k9 hk9 => by rw [mapN_lt hk9]; simp only [F_pour]; split <;> omega), by omega⟩
set_option maxHeartbeats 4000000 in
set_option maxRecDepth 100000 in
theorem c_X0_isLike (l : Launch) (G : xG) {M : HM} {b k v o : Nat} {no : Int32} {t kc sz : Int} {fk fv : Nat → Int32} {V : Nat → Int} (hB : Bk G M b k v no (iN ((o : Nat) : Int)) (iN (t)) (iN (kc)) sz fk fv) (ho : o < 3) (hV : BV o V sz.toNat fk fv) (htt : 0 ≤ t ∧ t ≤ 1000000) (hkk : 0 ≤ kc ∧ kc ≤ 1000000) {b2 k2 v2 o2 : Nat} {no2 : Int32} {t2 kc2 sz2 : Int} {fk2 fv2 : Nat → Int32} {V2 : Nat → Int} (hB2 : Bk G M b2 k2 v2 no2 (iN ((o2 : Nat) : Int)) (iN (t2)) (iN (kc2)) sz2 fk2 fv2) (ho2 : o2 < 3) (hV2 : BV o2 V2 sz2.toNat fk2 fv2) (htt2 : 0 ≤ t2 ∧ t2 ≤ 1000000) (hkk2 : 0 ≤ kc2 ∧ kc2 ≤ 1000000) : xMet l G yX0_isLike wsX0_isLike 4 91 0 0 [.ref b, .ref b2] M (fun r M1 => ∃ z : Int, r = some (.int (iN z)) ∧ M1 = M ∧ (z = 0 ∨ z = 1) ∧ (z = 1 ↔ ∀ k, k < 100 → V k = V2 k)) := by
  refine x_intro (cc := cX0_isLike) (maxL := 3) (ret := (some .boolean)) (by exact pln_RX0) rfl (Nat.le_of_ble_eq_true rfl) ?_
  intro p e R s m args below meth c ls hRf hRc hRs hRl hC hw hl
  obtain ⟨-, -, -, -, hs0, hs1⟩ := id hB
  obtain ⟨-, -, -, -, hs2, hs3⟩ := id hB2
  have hinX0 : ∀ w ∈ wsX00, w ∈ wsX0_isLike := fun w h => (List.mem_cons_of_mem _ (List.mem_append_right _ h))
  have hl : lv_has ls 3 [(0, .ref b), (1, .ref b2)] := hl
  refine lv_aload_n hC.1 hC.2.1 dX0_isLike_0 rfl (lv_at hl 0 rfl) ?_
  refine x_get hC hw hB.1 rfl hinX0 4 (by decide) (List.mem_cons_of_mem _ (List.mem_append_left _ (List.mem_append_left _ (List.mem_of_getElem? (i := 0) rfl)))) rfl dX0_isLike_1 ?_
  refine lv_aload_n hC.1 hC.2.1 dX0_isLike_4 rfl (lv_at hl 1 rfl) ?_
  refine x_callV hC hw (lv_size hl) (c_X0_size l G hB2 (show o2 < 3 by omega) hV2 (by first | assumption | omega) (by first | assumption | omega)) gX0_isLike_X0_size rfl dv_X0_size hB2.1 rfl rfl (Nat.le_of_ble_eq_true rfl) (by rw [hRf]; decide) (by rw [hRl]; decide) (by first | (rw [hRc]; decide) | omega) (by first | (rw [hRs]; decide) | omega) dX0_isLike_5 (fun r9 M_1 H locs hq hw => ?_)
  obtain ⟨rfl, hM9⟩ := hq
  rw [hM9] at hw
  show W p l e R s m args below meth c H locs _ _ _ (F0 m 8 ls [.int (iN (sz2)), .int (iN (sz))])
  refine x_icmp_eq (tgt := 13) hC ⟨by omega, by omega⟩ ⟨by omega, by omega⟩ dX0_isLike_8 (by decide) (fun c_2 => ?_) (fun c_2 => ?_)
  · refine x_const hC dX0_isLike_13 ?_
    refine lv_istore_n (lv' := [(2, .int (iN (0))), (0, .ref b), (1, .ref b2)]) hC.1 hC.2.1 dX0_isLike_14 rfl hl (by decide) rfl (fun ls hl => ?_)
    suffices hloop15 : ∀ (n9 : Nat) (pl : Int) (H : Heap) (locs : List Loc) (ls : Array Slot), (hmz15 : (sz - pl).toNat < n9) → (hi0 : 0 ≤ pl) → (hi1 : pl ≤ sz) → (hlk : ∀ q : Nat, (q : Int) < pl → V2 (kN fk q) = V (kN fk q)) → xD G (xA M s.heap.size) s M H locs → lv_has ls 3 [(0, .ref b), (1, .ref b2), (2, .int (iN (pl)))] → W p l e R s m args below meth c H locs _ _ _ (F0 m 15 ls []) by
      exact hloop15 _ 0  _ _ _ (Nat.lt_succ_self _) (by omega) (by omega) (fun q9 hq9 => absurd hq9 (by omega)) hw (lv_sub hl [1, 2, 0] rfl)
    intro n9
    induction n9 with
    | zero => intro pl  H locs ls hmz; exact absurd hmz (Nat.not_lt_zero _)
    | succ n9 ih15 =>
      intro pl  H locs ls hmz15 hi0 hi1 hlk hw hl
      refine lv_iload_n hC.1 hC.2.1 dX0_isLike_15 rfl (lv_at hl 2 rfl) ?_
      refine lv_aload_n hC.1 hC.2.1 dX0_isLike_16 rfl (lv_at hl 0 rfl) ?_
      refine x_get hC hw hB.1 rfl hinX0 4 (by decide) (List.mem_cons_of_mem _ (List.mem_append_left _ (List.mem_append_left _ (List.mem_of_getElem? (i := 0) rfl)))) rfl dX0_isLike_17 ?_
      refine x_icmp_ge (tgt := 50) hC ⟨by omega, by omega⟩ ⟨by omega, by omega⟩ dX0_isLike_20 (by decide) (fun c_3 => ?_) (fun c_3 => ?_)
      · refine x_const hC dX0_isLike_50 ?_
        exact x_zret hC hw (by omega) dX0_isLike_51 (by first | decide | omega) (by first | decide | omega) ⟨1, rfl, rfl, by omega, ⟨fun _ => hV.like hV2 hs0 hs2 (by omega) (fun q9 hq9 => hlk q9 (by omega)), fun _ => rfl⟩⟩
      · refine lv_aload_n hC.1 hC.2.1 dX0_isLike_23 rfl (lv_at hl 1 rfl) ?_
        refine lv_aload_n hC.1 hC.2.1 dX0_isLike_24 rfl (lv_at hl 0 rfl) ?_
        refine x_get hC hw hB.1 rfl hinX0 1 (by decide) (List.mem_cons_of_mem _ (List.mem_append_left _ (List.mem_append_left _ (List.mem_of_getElem? (i := 1) rfl)))) rfl dX0_isLike_25 ?_
        refine lv_iload_n hC.1 hC.2.1 dX0_isLike_28 rfl (lv_at hl 2 rfl) ?_
        refine x_iald hC hw hB.2.1 (by omega) (by omega) (by omega) dX0_isLike_29 ?_
        have hr_4 := iN_rng (fk (pl).toNat)
        refine x_callV hC hw (lv_size hl) (c_X0_valueOf l G hB2 (show o2 < 3 by omega) hV2 (by first | assumption | omega) (by first | assumption | omega) (p0 := ((fk (pl).toNat).toInt)) (by omega)) gX0_isLike_X0_valueOf rfl dv_X0_valueOf hB2.1 rfl rfl (Nat.le_of_ble_eq_true rfl) (by rw [hRf]; decide) (by rw [hRl]; decide) (by first | (rw [hRc]; decide) | omega) (by first | (rw [hRs]; decide) | omega) dX0_isLike_30 (fun r9 M_5 H locs hq hw => ?_)
        obtain ⟨z_6, rfl, hM9, hz_6, hz_6v, hz_6n⟩ := hq
        rw [hM9] at hw
        show W p l e R s m args below meth c H locs _ _ _ (F0 m 33 ls [.int (iN (z_6))])
        refine lv_aload_n hC.1 hC.2.1 dX0_isLike_33 rfl (lv_at hl 0 rfl) ?_
        refine x_get hC hw hB.1 rfl hinX0 2 (by decide) (List.mem_cons_of_mem _ (List.mem_append_left _ (List.mem_append_left _ (List.mem_of_getElem? (i := 2) rfl)))) rfl dX0_isLike_34 ?_
        refine lv_iload_n hC.1 hC.2.1 dX0_isLike_37 rfl (lv_at hl 2 rfl) ?_
        refine x_iald hC hw hB.2.2.1 (by omega) (by omega) (by omega) dX0_isLike_38 ?_
        have hr_7 := iN_rng (fv (pl).toNat)
        refine x_icmp_eq (tgt := 44) hC ⟨by omega, by omega⟩ ⟨by omega, by omega⟩ dX0_isLike_39 (by decide) (fun c_8 => ?_) (fun c_8 => ?_)
        · refine x_iinc (lv' := [(2, .int (iN (pl + 1))), (0, .ref b), (1, .ref b2)]) hC dX0_isLike_44 hl (k := 2) rfl (by decide) rfl (fun ls hl => ?_)
          refine lv_goto (tgt := 15) hC.1 hC.2.1 dX0_isLike_47 (by decide) ?_
          exact ih15 (pl + 1)  _ _ _ (by first | exact mu_s hmz15 (by omega) | omega) (by omega) (by omega) (fun q9 hq9 => by by_cases e9 : (q9 : Int) < pl; (· exact hlk q9 e9); (· rw [show q9 = (pl).toNat by omega]; have e8 := hz_6v (hV.kr ⟨by omega, by omega⟩); have e7 := hV.vr' (p0 := pl) ⟨by omega, by omega⟩; rw [show kN fk (pl).toNat = ((fk (pl).toNat).toInt).toNat from rfl] at e7 ⊢; omega)) hw (lv_sub hl [1, 2, 0] rfl)
        · refine x_const hC dX0_isLike_42 ?_
          exact x_zret hC hw (by omega) dX0_isLike_43 (by first | decide | omega) (by first | decide | omega) ⟨0, rfl, rfl, by omega, ⟨fun h9 => absurd h9 (by omega), fun h9 => by exfalso; have e8 := hz_6v (hV.kr ⟨by omega, by omega⟩); have e7 := hV.vr' (p0 := pl) ⟨by omega, by omega⟩; have e6 := h9 (kN fk (pl).toNat) (hV.k (by omega)).2.1; rw [show kN fk (pl).toNat = ((fk (pl).toNat).toInt).toNat from rfl] at e7 e6; omega⟩⟩
  · refine x_const hC dX0_isLike_11 ?_
    exact x_zret hC hw (by omega) dX0_isLike_12 (by first | decide | omega) (by first | decide | omega) ⟨0, rfl, rfl, by omega, ⟨fun h9 => absurd h9 (by omega), fun h9 => absurd h9 (hV.unlike hV2 hs0 hs2 (by omega))⟩⟩
set_option maxHeartbeats 4000000 in
set_option maxRecDepth 100000 in
theorem c_X0_hasSameTotals (l : Launch) (G : xG) {M : HM} {b k v o : Nat} {no : Int32} {t kc sz : Int} {fk fv : Nat → Int32} {V : Nat → Int} (hB : Bk G M b k v no (iN ((o : Nat) : Int)) (iN (t)) (iN (kc)) sz fk fv) (ho : o < 3) (hV : BV o V sz.toNat fk fv) (htt : 0 ≤ t ∧ t ≤ 1000000) (hkk : 0 ≤ kc ∧ kc ≤ 1000000) {b2 k2 v2 o2 : Nat} {no2 : Int32} {t2 kc2 sz2 : Int} {fk2 fv2 : Nat → Int32} {V2 : Nat → Int} (hB2 : Bk G M b2 k2 v2 no2 (iN ((o2 : Nat) : Int)) (iN (t2)) (iN (kc2)) sz2 fk2 fv2) (ho2 : o2 < 3) (hV2 : BV o2 V2 sz2.toNat fk2 fv2) (htt2 : 0 ≤ t2 ∧ t2 ≤ 1000000) (hkk2 : 0 ≤ kc2 ∧ kc2 ≤ 1000000) : xMet l G yX0_hasSameTotals wsX0_hasSameTotals 2 45 0 0 [.ref b, .ref b2] M (fun r M1 => ∃ z : Int, r = some (.int (iN z)) ∧ M1 = M ∧ (z = 0 ∨ z = 1) ∧ ((∀ k, k < 100 → V k = V2 k) → z = 1)) := by
  refine x_intro (cc := cX0_hasSameTotals) (maxL := 2) (ret := (some .boolean)) (by exact pln_RX0) rfl (Nat.le_of_ble_eq_true rfl) ?_
  intro p e R s m args below meth c ls hRf hRc hRs hRl hC hw hl
  obtain ⟨-, -, -, -, hs0, hs1⟩ := id hB
  obtain ⟨-, -, -, -, hs2, hs3⟩ := id hB2
  have hinX0 : ∀ w ∈ wsX00, w ∈ wsX0_hasSameTotals := fun w h => (List.mem_cons_of_mem _ (List.mem_append_right _ h))
  have hl : lv_has ls 2 [(0, .ref b), (1, .ref b2)] := hl
  refine lv_aload_n hC.1 hC.2.1 dX0_hasSameTotals_0 rfl (lv_at hl 0 rfl) ?_
  refine x_get hC hw hB.1 rfl hinX0 4 (by decide) (List.mem_cons_of_mem _ (List.mem_append_left _ (List.mem_of_getElem? (i := 0) rfl))) rfl dX0_hasSameTotals_1 ?_
  refine lv_aload_n hC.1 hC.2.1 dX0_hasSameTotals_4 rfl (lv_at hl 1 rfl) ?_
  refine x_callV hC hw (lv_size hl) (c_X0_size l G hB2 (show o2 < 3 by omega) hV2 (by first | assumption | omega) (by first | assumption | omega)) gX0_hasSameTotals_X0_size rfl dv_X0_size hB2.1 rfl rfl (Nat.le_of_ble_eq_true rfl) (by rw [hRf]; decide) (by rw [hRl]; decide) (by first | (rw [hRc]; decide) | omega) (by first | (rw [hRs]; decide) | omega) dX0_hasSameTotals_5 (fun r9 M_1 H locs hq hw => ?_)
  obtain ⟨rfl, hM9⟩ := hq
  rw [hM9] at hw
  show W p l e R s m args below meth c H locs _ _ _ (F0 m 8 ls [.int (iN (sz2)), .int (iN (sz))])
  refine x_icmp_ne (tgt := 36) hC ⟨by omega, by omega⟩ ⟨by omega, by omega⟩ dX0_hasSameTotals_8 (by decide) (fun c_2 => ?_) (fun c_2 => ?_)
  · refine x_const hC dX0_hasSameTotals_36 ?_
    exact x_zret hC hw (by omega) dX0_hasSameTotals_37 (by first | decide | omega) (by first | decide | omega) ⟨0, rfl, rfl, by omega, fun h9 => by exfalso; exact absurd (sz_like hV hV2 hs0 hs2 h9) (by omega)⟩
  · refine lv_aload_n hC.1 hC.2.1 dX0_hasSameTotals_11 rfl (lv_at hl 0 rfl) ?_
    refine x_const hC dX0_hasSameTotals_12 ?_
    refine lv_aload_n hC.1 hC.2.1 dX0_hasSameTotals_13 rfl (lv_at hl 0 rfl) ?_
    refine x_get hC hw hB.1 rfl hinX0 4 (by decide) (List.mem_cons_of_mem _ (List.mem_append_left _ (List.mem_of_getElem? (i := 0) rfl))) rfl dX0_hasSameTotals_14 ?_
    refine x_callV hC hw (lv_size hl) (c_X0_sum l G hB (show o < 3 by first | assumption | omega) hV (by first | assumption | omega) (by first | assumption | omega) (p0 := 0) (by omega) (p1 := sz) (by omega) (by omega) (by omega)) gX0_hasSameTotals_X0_sum rfl dv_X0_sum hB.1 rfl rfl (Nat.le_of_ble_eq_true rfl) (by rw [hRf]; decide) (by rw [hRl]; decide) (by first | (rw [hRc]; decide) | omega) (by first | (rw [hRs]; decide) | omega) dX0_hasSameTotals_17 (fun r9 M_3 H locs hq hw => ?_)
    obtain ⟨z_4, rfl, hM9, hz_4, hz_4s, hz_4z⟩ := hq
    rw [hM9] at hw
    show W p l e R s m args below meth c H locs _ _ _ (F0 m 20 ls [.int (iN (z_4))])
    refine lv_aload_n hC.1 hC.2.1 dX0_hasSameTotals_20 rfl (lv_at hl 1 rfl) ?_
    refine x_const hC dX0_hasSameTotals_21 ?_
    refine lv_aload_n hC.1 hC.2.1 dX0_hasSameTotals_22 rfl (lv_at hl 1 rfl) ?_
    refine x_callV hC hw (lv_size hl) (c_X0_size l G hB2 (show o2 < 3 by omega) hV2 (by first | assumption | omega) (by first | assumption | omega)) gX0_hasSameTotals_X0_size rfl dv_X0_size hB2.1 rfl rfl (Nat.le_of_ble_eq_true rfl) (by rw [hRf]; decide) (by rw [hRl]; decide) (by first | (rw [hRc]; decide) | omega) (by first | (rw [hRs]; decide) | omega) dX0_hasSameTotals_23 (fun r9 M_5 H locs hq hw => ?_)
    obtain ⟨rfl, hM9⟩ := hq
    rw [hM9] at hw
    show W p l e R s m args below meth c H locs _ _ _ (F0 m 26 ls [.int (iN (sz2)), .int (iN (0)), .ref b2, .int (iN (z_4))])
    refine x_callV hC hw (lv_size hl) (c_X0_sum l G hB2 (show o2 < 3 by omega) hV2 (by first | assumption | omega) (by first | assumption | omega) (p0 := 0) (by omega) (p1 := sz2) (by omega) (by omega) (by omega)) gX0_hasSameTotals_X0_sum rfl dv_X0_sum hB2.1 rfl rfl (Nat.le_of_ble_eq_true rfl) (by rw [hRf]; decide) (by rw [hRl]; decide) (by first | (rw [hRc]; decide) | omega) (by first | (rw [hRs]; decide) | omega) dX0_hasSameTotals_26 (fun r9 M_6 H locs hq hw => ?_)
    obtain ⟨z_7, rfl, hM9, hz_7, hz_7s, hz_7z⟩ := hq
    rw [hM9] at hw
    show W p l e R s m args below meth c H locs _ _ _ (F0 m 29 ls [.int (iN (z_7)), .int (iN (z_4))])
    refine x_icmp_ne (tgt := 36) hC ⟨by omega, by omega⟩ ⟨by omega, by omega⟩ dX0_hasSameTotals_29 (by decide) (fun c_8 => ?_) (fun c_8 => ?_)
    · refine x_const hC dX0_hasSameTotals_36 ?_
      exact x_zret hC hw (by omega) dX0_hasSameTotals_37 (by first | decide | omega) (by first | decide | omega) ⟨0, rfl, rfl, by omega, fun h9 => by exfalso; have e9 := sz_like hV hV2 hs0 hs2 h9; have e8 := sm_like hV hV2 hs0 hs2 h9; have e7 := hz_4s (by omega); have e6 := hz_7s (by omega); omega⟩
    · refine x_const hC dX0_hasSameTotals_32 ?_
      refine lv_goto (tgt := 37) hC.1 hC.2.1 dX0_hasSameTotals_33 (by decide) ?_
      exact x_zret hC hw (by omega) dX0_hasSameTotals_37 (by first | decide | omega) (by first | decide | omega) ⟨1, rfl, rfl, by omega, fun _ => rfl⟩
set_option maxHeartbeats 4000000 in
set_option maxRecDepth 100000 in
theorem c_X0_isInOrder (l : Launch) (G : xG) {M : HM} {b k v o : Nat} {no : Int32} {t kc sz : Int} {fk fv : Nat → Int32} {V : Nat → Int} (hB : Bk G M b k v no (iN ((o : Nat) : Int)) (iN (t)) (iN (kc)) sz fk fv) (ho : o < 3) (hV : BV o V sz.toNat fk fv) (htt : 0 ≤ t ∧ t ≤ 1000000) (hkk : 0 ≤ kc ∧ kc ≤ 1000000) : xMet l G yX0_isInOrder wsX0_isInOrder 4 96 0 0 [.ref b] M (fun r M1 => ∃ z : Int, r = some (.int (iN z)) ∧ M1 = M ∧ z = 1) := by
  refine x_intro (cc := cX0_isInOrder) (maxL := 4) (ret := (some .boolean)) (by exact pln_RX0) rfl (Nat.le_of_ble_eq_true rfl) ?_
  intro p e R s m args below meth c ls hRf hRc hRs hRl hC hw hl
  obtain ⟨-, -, -, -, hs0, hs1⟩ := id hB
  have hinX0 : ∀ w ∈ wsX00, w ∈ wsX0_isInOrder := fun w h => (List.mem_cons_of_mem _ (List.mem_append_right _ h))
  have hl : lv_has ls 4 [(0, .ref b)] := hl
  refine x_const hC dX0_isInOrder_0 ?_
  refine lv_istore_n (lv' := [(1, .int (iN (0))), (0, .ref b)]) hC.1 hC.2.1 dX0_isInOrder_1 rfl hl (by decide) rfl (fun ls hl => ?_)
  suffices hloop2 : ∀ (n9 : Nat) (pl : Int) (H : Heap) (locs : List Loc) (ls : Array Slot), (hmz2 : (sz - pl).toNat < n9) → (hi0 : 0 ≤ pl) → (hi1 : pl ≤ sz) → xD G (xA M s.heap.size) s M H locs → lv_has ls 4 [(0, .ref b), (1, .int (iN (pl)))] → W p l e R s m args below meth c H locs _ _ _ (F0 m 2 ls []) by
    exact hloop2 _ 0  _ _ _ (Nat.lt_succ_self _) (by omega) (by omega) hw (lv_sub hl [1, 0] rfl)
  intro n9
  induction n9 with
  | zero => intro pl  H locs ls hmz; exact absurd hmz (Nat.not_lt_zero _)
  | succ n9 ih2 =>
    intro pl  H locs ls hmz2 hi0 hi1 hw hl
    refine lv_iload_n hC.1 hC.2.1 dX0_isInOrder_2 rfl (lv_at hl 1 rfl) ?_
    refine lv_aload_n hC.1 hC.2.1 dX0_isInOrder_3 rfl (lv_at hl 0 rfl) ?_
    refine x_get hC hw hB.1 rfl hinX0 4 (by decide) (List.mem_cons_of_mem _ (List.mem_append_left _ (List.mem_append_left _ (List.mem_of_getElem? (i := 0) rfl)))) rfl dX0_isInOrder_4 ?_
    refine x_icmp_ge (tgt := 71) hC ⟨by omega, by omega⟩ ⟨by omega, by omega⟩ dX0_isInOrder_7 (by decide) (fun c_1 => ?_) (fun c_1 => ?_)
    · refine x_const hC dX0_isInOrder_71 ?_
      exact x_zret hC hw (by omega) dX0_isInOrder_72 (by first | decide | omega) (by first | decide | omega) ⟨1, rfl, rfl, rfl⟩
    · refine lv_aload_n hC.1 hC.2.1 dX0_isInOrder_10 rfl (lv_at hl 0 rfl) ?_
      refine lv_iload_n hC.1 hC.2.1 dX0_isInOrder_11 rfl (lv_at hl 1 rfl) ?_
      refine x_callV hC hw (lv_size hl) (c_X0_keyAt l G hB (show o < 3 by first | assumption | omega) hV (by first | assumption | omega) (by first | assumption | omega) (p0 := pl) (by omega)) gX0_isInOrder_X0_keyAt rfl dv_X0_keyAt hB.1 rfl rfl (Nat.le_of_ble_eq_true rfl) (by rw [hRf]; decide) (by rw [hRl]; decide) (by first | (rw [hRc]; decide) | omega) (by first | (rw [hRs]; decide) | omega) dX0_isInOrder_12 (fun r9 M_2 H locs hq hw => ?_)
      obtain ⟨z_3, rfl, hM9, hz_3, hz_3b, hz_3k⟩ := hq
      rw [hM9] at hw
      show W p l e R s m args below meth c H locs _ _ _ (F0 m 15 ls [.int (iN (z_3))])
      refine lv_istore_n (lv' := [(2, .int (iN (z_3))), (0, .ref b), (1, .int (iN (pl)))]) hC.1 hC.2.1 dX0_isInOrder_15 rfl hl (by decide) rfl (fun ls hl => ?_)
      refine lv_aload_n hC.1 hC.2.1 dX0_isInOrder_16 rfl (lv_at hl 1 rfl) ?_
      refine lv_iload_n hC.1 hC.2.1 dX0_isInOrder_17 rfl (lv_at hl 2 rfl) ?_
      refine x_const hC dX0_isInOrder_18 ?_
      refine x_isub hC dX0_isInOrder_19 ?_
      refine x_callV hC hw (lv_size hl) (c_X0_keyAt l G hB (show o < 3 by first | assumption | omega) hV (by first | assumption | omega) (by first | assumption | omega) (p0 := (pl - 1)) (by omega)) gX0_isInOrder_X0_keyAt rfl dv_X0_keyAt hB.1 rfl rfl (Nat.le_of_ble_eq_true rfl) (by rw [hRf]; decide) (by rw [hRl]; decide) (by first | (rw [hRc]; decide) | omega) (by first | (rw [hRs]; decide) | omega) dX0_isInOrder_20 (fun r9 M_4 H locs hq hw => ?_)
      obtain ⟨z_5, rfl, hM9, hz_5, hz_5b, hz_5k⟩ := hq
      rw [hM9] at hw
      show W p l e R s m args below meth c H locs _ _ _ (F0 m 23 ls [.int (iN (z_5))])
      refine lv_istore_n (lv' := [(3, .int (iN (z_5))), (2, .int (iN (z_3))), (0, .ref b), (1, .int (iN (pl)))]) hC.1 hC.2.1 dX0_isInOrder_23 rfl hl (by decide) rfl (fun ls hl => ?_)
      refine lv_iload_n hC.1 hC.2.1 dX0_isInOrder_24 rfl (lv_at hl 3 rfl) ?_
      refine x_if_le (tgt := 39) hC ⟨by omega, by omega⟩ dX0_isInOrder_25 (by decide) (fun c_6 => ?_) (fun c_6 => ?_)
      · refine lv_aload_n hC.1 hC.2.1 dX0_isInOrder_39 rfl (lv_at hl 2 rfl) ?_
        refine lv_iload_n hC.1 hC.2.1 dX0_isInOrder_40 rfl (lv_at hl 1 rfl) ?_
        refine x_const hC dX0_isInOrder_41 ?_
        refine x_const hC dX0_isInOrder_42 ?_
        refine lv_aload_n hC.1 hC.2.1 dX0_isInOrder_43 rfl (lv_at hl 2 rfl) ?_
        refine x_get hC hw hB.1 rfl hinX0 4 (by decide) (List.mem_cons_of_mem _ (List.mem_append_left _ (List.mem_append_left _ (List.mem_of_getElem? (i := 0) rfl)))) rfl dX0_isInOrder_44 ?_
        refine x_callV hC hw (lv_size hl) (c_X0_closest l G hB (show o < 3 by first | assumption | omega) hV (by first | assumption | omega) (by first | assumption | omega) (p0 := z_3) (by omega) (p1 := 0) (by omega) (p2 := 0) (by omega) (p3 := sz) (by omega) (by omega) (by omega) (by omega) (by omega)) gX0_isInOrder_X0_closest rfl dv_X0_closest hB.1 rfl rfl (Nat.le_of_ble_eq_true rfl) (by rw [hRf]; decide) (by rw [hRl]; decide) (by first | (rw [hRc]; decide) | omega) (by first | (rw [hRs]; decide) | omega) dX0_isInOrder_47 (fun r9 M_7 H locs hq hw => ?_)
        obtain ⟨z_8, rfl, hM9, hz_8, hz_8c⟩ := hq
        rw [hM9] at hw
        show W p l e R s m args below meth c H locs _ _ _ (F0 m 50 ls [.int (iN (z_8))])
        refine lv_iload_n hC.1 hC.2.1 dX0_isInOrder_50 rfl (lv_at hl 0 rfl) ?_
        refine x_icmp_ne (tgt := 63) hC ⟨by omega, by omega⟩ ⟨by omega, by omega⟩ dX0_isInOrder_51 (by decide) (fun c_9 => ?_) (fun c_9 => ?_)
        · refine x_const hC dX0_isInOrder_63 ?_
          exact x_zret hC hw (by omega) dX0_isInOrder_64 (by first | decide | omega) (by first | decide | omega) (by exfalso; have e1 := hV.kr (p0 := pl) ⟨by omega, by omega⟩; have e2 := io_ah hV (pl := pl) (by omega) (by omega); have e3 := io_pl hV (pl := pl) (by omega) (by omega); have e4 := io_cl hV (pl := pl) (by omega) (by omega) (by rw [show kN fk (pl).toNat = (z_3).toNat from kNz (by omega)]; exact hz_8c); omega)
        · refine lv_aload_n hC.1 hC.2.1 dX0_isInOrder_54 rfl (lv_at hl 2 rfl) ?_
          refine lv_iload_n hC.1 hC.2.1 dX0_isInOrder_55 rfl (lv_at hl 1 rfl) ?_
          refine x_callV hC hw (lv_size hl) (c_X0_placeOf l G hB (show o < 3 by first | assumption | omega) hV (by first | assumption | omega) (by first | assumption | omega) (p0 := z_3) (by omega)) gX0_isInOrder_X0_placeOf rfl dv_X0_placeOf hB.1 rfl rfl (Nat.le_of_ble_eq_true rfl) (by rw [hRf]; decide) (by rw [hRl]; decide) (by first | (rw [hRc]; decide) | omega) (by first | (rw [hRs]; decide) | omega) dX0_isInOrder_56 (fun r9 M_10 H locs hq hw => ?_)
          obtain ⟨z_11, rfl, hM9, hz_11a, hz_11b, hz_11p, hz_11v⟩ := hq
          rw [hM9] at hw
          show W p l e R s m args below meth c H locs _ _ _ (F0 m 59 ls [.int (iN (z_11))])
          refine lv_iload_n hC.1 hC.2.1 dX0_isInOrder_59 rfl (lv_at hl 3 rfl) ?_
          refine x_icmp_eq (tgt := 65) hC ⟨by omega, by omega⟩ ⟨by omega, by omega⟩ dX0_isInOrder_60 (by decide) (fun c_12 => ?_) (fun c_12 => ?_)
          · refine x_iinc (lv' := [(1, .int (iN (pl + 1))), (3, .int (iN (z_5))), (2, .int (iN (z_3))), (0, .ref b)]) hC dX0_isInOrder_65 hl (k := 3) rfl (by decide) rfl (fun ls hl => ?_)
            refine lv_goto (tgt := 2) hC.1 hC.2.1 dX0_isInOrder_68 (by decide) ?_
            exact ih2 (pl + 1)  _ _ _ (by first | exact mu_s hmz2 (by omega) | omega) (by omega) (by omega) hw (lv_sub hl [3, 0] rfl)
          · refine x_const hC dX0_isInOrder_63 ?_
            exact x_zret hC hw (by omega) dX0_isInOrder_64 (by first | decide | omega) (by first | decide | omega) (by exfalso; have e1 := hV.kr (p0 := pl) ⟨by omega, by omega⟩; have e2 := io_ah hV (pl := pl) (by omega) (by omega); have e3 := io_pl hV (pl := pl) (by omega) (by omega); have e4 := plW_uniq (hz_11p (by omega)) (by rw [show (z_3).toNat = kN fk (pl).toNat from (kNz (by omega)).symm]; exact e3); omega)
      · refine lv_aload_n hC.1 hC.2.1 dX0_isInOrder_28 rfl (lv_at hl 2 rfl) ?_
        refine lv_iload_n hC.1 hC.2.1 dX0_isInOrder_29 rfl (lv_at hl 0 rfl) ?_
        refine lv_iload_n hC.1 hC.2.1 dX0_isInOrder_30 rfl (lv_at hl 1 rfl) ?_
        refine x_callV hC hw (lv_size hl) (c_X0_isAhead l G hB (show o < 3 by first | assumption | omega) hV (by first | assumption | omega) (by first | assumption | omega) (p0 := z_5) (by omega) (p1 := z_3) (by omega)) gX0_isInOrder_X0_isAhead rfl dv_X0_isAhead hB.1 rfl rfl (Nat.le_of_ble_eq_true rfl) (by rw [hRf]; decide) (by rw [hRl]; decide) (by first | (rw [hRc]; decide) | omega) (by first | (rw [hRs]; decide) | omega) dX0_isInOrder_31 (fun r9 M_13 H locs hq hw => ?_)
        obtain ⟨z_14, rfl, hM9, hz_14, hz_14w⟩ := hq
        rw [hM9] at hw
        show W p l e R s m args below meth c H locs _ _ _ (F0 m 34 ls [.int (iN (z_14))])
        refine x_if_ne (tgt := 39) hC ⟨by omega, by omega⟩ dX0_isInOrder_34 (by decide) (fun c_15 => ?_) (fun c_15 => ?_)
        · refine lv_aload_n hC.1 hC.2.1 dX0_isInOrder_39 rfl (lv_at hl 2 rfl) ?_
          refine lv_iload_n hC.1 hC.2.1 dX0_isInOrder_40 rfl (lv_at hl 1 rfl) ?_
          refine x_const hC dX0_isInOrder_41 ?_
          refine x_const hC dX0_isInOrder_42 ?_
          refine lv_aload_n hC.1 hC.2.1 dX0_isInOrder_43 rfl (lv_at hl 2 rfl) ?_
          refine x_get hC hw hB.1 rfl hinX0 4 (by decide) (List.mem_cons_of_mem _ (List.mem_append_left _ (List.mem_append_left _ (List.mem_of_getElem? (i := 0) rfl)))) rfl dX0_isInOrder_44 ?_
          refine x_callV hC hw (lv_size hl) (c_X0_closest l G hB (show o < 3 by first | assumption | omega) hV (by first | assumption | omega) (by first | assumption | omega) (p0 := z_3) (by omega) (p1 := 0) (by omega) (p2 := 0) (by omega) (p3 := sz) (by omega) (by omega) (by omega) (by omega) (by omega)) gX0_isInOrder_X0_closest rfl dv_X0_closest hB.1 rfl rfl (Nat.le_of_ble_eq_true rfl) (by rw [hRf]; decide) (by rw [hRl]; decide) (by first | (rw [hRc]; decide) | omega) (by first | (rw [hRs]; decide) | omega) dX0_isInOrder_47 (fun r9 M_16 H locs hq hw => ?_)
          obtain ⟨z_17, rfl, hM9, hz_17, hz_17c⟩ := hq
          rw [hM9] at hw
          show W p l e R s m args below meth c H locs _ _ _ (F0 m 50 ls [.int (iN (z_17))])
          refine lv_iload_n hC.1 hC.2.1 dX0_isInOrder_50 rfl (lv_at hl 0 rfl) ?_
          refine x_icmp_ne (tgt := 63) hC ⟨by omega, by omega⟩ ⟨by omega, by omega⟩ dX0_isInOrder_51 (by decide) (fun c_18 => ?_) (fun c_18 => ?_)
          · refine x_const hC dX0_isInOrder_63 ?_
            exact x_zret hC hw (by omega) dX0_isInOrder_64 (by first | decide | omega) (by first | decide | omega) (by exfalso; have e1 := hV.kr (p0 := pl) ⟨by omega, by omega⟩; have e2 := io_ah hV (pl := pl) (by omega) (by omega); have e3 := io_pl hV (pl := pl) (by omega) (by omega); have e4 := io_cl hV (pl := pl) (by omega) (by omega) (by rw [show kN fk (pl).toNat = (z_3).toNat from kNz (by omega)]; exact hz_17c); omega)
          · refine lv_aload_n hC.1 hC.2.1 dX0_isInOrder_54 rfl (lv_at hl 2 rfl) ?_
            refine lv_iload_n hC.1 hC.2.1 dX0_isInOrder_55 rfl (lv_at hl 1 rfl) ?_
            refine x_callV hC hw (lv_size hl) (c_X0_placeOf l G hB (show o < 3 by first | assumption | omega) hV (by first | assumption | omega) (by first | assumption | omega) (p0 := z_3) (by omega)) gX0_isInOrder_X0_placeOf rfl dv_X0_placeOf hB.1 rfl rfl (Nat.le_of_ble_eq_true rfl) (by rw [hRf]; decide) (by rw [hRl]; decide) (by first | (rw [hRc]; decide) | omega) (by first | (rw [hRs]; decide) | omega) dX0_isInOrder_56 (fun r9 M_19 H locs hq hw => ?_)
            obtain ⟨z_20, rfl, hM9, hz_20a, hz_20b, hz_20p, hz_20v⟩ := hq
            rw [hM9] at hw
            show W p l e R s m args below meth c H locs _ _ _ (F0 m 59 ls [.int (iN (z_20))])
            refine lv_iload_n hC.1 hC.2.1 dX0_isInOrder_59 rfl (lv_at hl 3 rfl) ?_
            refine x_icmp_eq (tgt := 65) hC ⟨by omega, by omega⟩ ⟨by omega, by omega⟩ dX0_isInOrder_60 (by decide) (fun c_21 => ?_) (fun c_21 => ?_)
            · refine x_iinc (lv' := [(1, .int (iN (pl + 1))), (3, .int (iN (z_5))), (2, .int (iN (z_3))), (0, .ref b)]) hC dX0_isInOrder_65 hl (k := 3) rfl (by decide) rfl (fun ls hl => ?_)
              refine lv_goto (tgt := 2) hC.1 hC.2.1 dX0_isInOrder_68 (by decide) ?_
              exact ih2 (pl + 1)  _ _ _ (by first | exact mu_s hmz2 (by omega) | omega) (by omega) (by omega) hw (lv_sub hl [3, 0] rfl)
            · refine x_const hC dX0_isInOrder_63 ?_
              exact x_zret hC hw (by omega) dX0_isInOrder_64 (by first | decide | omega) (by first | decide | omega) (by exfalso; have e1 := hV.kr (p0 := pl) ⟨by omega, by omega⟩; have e2 := io_ah hV (pl := pl) (by omega) (by omega); have e3 := io_pl hV (pl := pl) (by omega) (by omega); have e4 := plW_uniq (hz_20p (by omega)) (by rw [show (z_3).toNat = kN fk (pl).toNat from (kNz (by omega)).symm]; exact e3); omega)
        · refine x_const hC dX0_isInOrder_37 ?_
          exact x_zret hC hw (by omega) dX0_isInOrder_38 (by first | decide | omega) (by first | decide | omega) (by exfalso; have e1 := hV.kr (p0 := pl) ⟨by omega, by omega⟩; have e2 := io_ah hV (pl := pl) (by omega) (by omega); have e3 := io_pl hV (pl := pl) (by omega) (by omega); have e4 := hz_14w ⟨by omega, by omega⟩; rw [show (z_5).toNat = kN fk (pl - 1).toNat from (kNz (by omega)).symm, show (z_3).toNat = kN fk (pl).toNat from (kNz (by omega)).symm] at e4; omega)
set_option maxHeartbeats 4000000 in
set_option maxRecDepth 100000 in
theorem c_X0_textLength (l : Launch) (G : xG) {M : HM} {b k v o : Nat} {no : Int32} {t kc sz : Int} {fk fv : Nat → Int32} {V : Nat → Int} (hB : Bk G M b k v no (iN ((o : Nat) : Int)) (iN (t)) (iN (kc)) sz fk fv) (ho : o < 3) (hV : BV o V sz.toNat fk fv) (htt : 0 ≤ t ∧ t ≤ 1000000) (hkk : 0 ≤ kc ∧ kc ≤ 1000000) {p0 : Int} (hp0 : -2147483648 ≤ p0 ∧ p0 ≤ 2147483647) {p1 : Int} (hp1 : -2147483648 ≤ p1 ∧ p1 ≤ 2147483647) : xMet l G yX0_textLength wsX0_textLength 2 43 0 0 [.ref b, .int (iN (p0)), .int (iN (p1))] M (fun r M1 => ∃ z : Int, r = some (.int (iN z)) ∧ M1 = M ∧ (-2147483648 ≤ z ∧ z ≤ 2147483647)) := by
  refine x_intro (cc := cX0_textLength) (maxL := 5) (ret := (some .int)) (by exact pln_RX0) rfl (Nat.le_of_ble_eq_true rfl) ?_
  intro p e R s m args below meth c ls hRf hRc hRs hRl hC hw hl
  obtain ⟨-, -, -, -, hs0, hs1⟩ := id hB
  have hl : lv_has ls 5 [(0, .ref b), (1, .int (iN (p0))), (2, .int (iN (p1)))] := hl
  refine x_const hC dX0_textLength_0 ?_
  refine lv_istore_n (lv' := [(3, .int (iN (2))), (0, .ref b), (1, .int (iN (p0))), (2, .int (iN (p1)))]) hC.1 hC.2.1 dX0_textLength_1 rfl hl (by decide) rfl (fun ls hl => ?_)
  refine lv_iload_n hC.1 hC.2.1 dX0_textLength_2 rfl (lv_at hl 2 rfl) ?_
  refine lv_istore (lv' := [(4, .int (iN (p0))), (3, .int (iN (2))), (0, .ref b), (1, .int (iN (p0))), (2, .int (iN (p1)))]) hC.1 hC.2.1 dX0_textLength_3 hl (by decide) rfl (fun ls hl => ?_)
  suffices hloop5 : ∀ (n9 : Nat) (ln : Int) (pl : Int) (H : Heap) (locs : List Loc) (ls : Array Slot), (hmz5 : (p1 - pl).toNat < n9) → (hi0 : -2147483648 ≤ ln ∧ ln ≤ 2147483647) → (hi1 : -2147483648 ≤ pl ∧ pl ≤ 2147483647) → xD G (xA M s.heap.size) s M H locs → lv_has ls 5 [(0, .ref b), (1, .int (iN (p0))), (2, .int (iN (p1))), (3, .int (iN (ln))), (4, .int (iN (pl)))] → W p l e R s m args below meth c H locs _ _ _ (F0 m 5 ls []) by
    exact hloop5 _ 2 p0  _ _ _ (Nat.lt_succ_self _) (by omega) (by omega) hw (lv_sub hl [2, 3, 4, 1, 0] rfl)
  intro n9
  induction n9 with
  | zero => intro ln pl  H locs ls hmz; exact absurd hmz (Nat.not_lt_zero _)
  | succ n9 ih5 =>
    intro ln pl  H locs ls hmz5 hi0 hi1 hw hl
    refine lv_iload hC.1 hC.2.1 dX0_textLength_5 (lv_at hl 4 rfl) ?_
    refine lv_iload_n hC.1 hC.2.1 dX0_textLength_7 rfl (lv_at hl 2 rfl) ?_
    refine x_icmp_ge (tgt := 55) hC ⟨by omega, by omega⟩ ⟨by omega, by omega⟩ dX0_textLength_8 (by decide) (fun c_1 => ?_) (fun c_1 => ?_)
    · refine lv_iload_n hC.1 hC.2.1 dX0_textLength_55 rfl (lv_at hl 3 rfl) ?_
      exact x_iret hC hw dX0_textLength_56 (by first | decide | omega) (by first | decide | omega) ⟨(iN (ln)).toInt, by rw [iN_asI], rfl, iN_rng _⟩
    · refine lv_iload_n hC.1 hC.2.1 dX0_textLength_11 rfl (lv_at hl 3 rfl) ?_
      refine lv_iload hC.1 hC.2.1 dX0_textLength_12 (lv_at hl 4 rfl) ?_
      refine lv_iload_n hC.1 hC.2.1 dX0_textLength_14 rfl (lv_at hl 1 rfl) ?_
      refine x_icmp_le (tgt := 22) hC ⟨by omega, by omega⟩ ⟨by omega, by omega⟩ dX0_textLength_15 (by decide) (fun c_2 => ?_) (fun c_2 => ?_)
      · refine x_const hC dX0_textLength_22 ?_
        refine x_iadd hC dX0_textLength_23 ?_
        obtain ⟨z_3, hz_3, hrz_3⟩ := x_nrm (ln + 0)
        rw [hz_3]
        refine lv_istore_n (lv' := [(3, .int (iN (z_3))), (0, .ref b), (1, .int (iN (p0))), (2, .int (iN (p1))), (4, .int (iN (pl)))]) hC.1 hC.2.1 dX0_textLength_24 rfl hl (by decide) rfl (fun ls hl => ?_)
        refine lv_iload_n hC.1 hC.2.1 dX0_textLength_25 rfl (lv_at hl 0 rfl) ?_
        refine lv_aload_n hC.1 hC.2.1 dX0_textLength_26 rfl (lv_at hl 1 rfl) ?_
        refine lv_iload hC.1 hC.2.1 dX0_textLength_27 (lv_at hl 4 rfl) ?_
        refine x_callV hC hw (lv_size hl) (c_X0_keyAt l G hB (show o < 3 by first | assumption | omega) hV (by first | assumption | omega) (by first | assumption | omega) (p0 := pl) (by omega)) gX0_textLength_X0_keyAt rfl dv_X0_keyAt hB.1 rfl rfl (Nat.le_of_ble_eq_true rfl) (by rw [hRf]; decide) (by rw [hRl]; decide) (by first | (rw [hRc]; decide) | omega) (by first | (rw [hRs]; decide) | omega) dX0_textLength_29 (fun r9 M_4 H locs hq hw => ?_)
        obtain ⟨z_5, rfl, hM9, hz_5, hz_5b, hz_5k⟩ := hq
        rw [hM9] at hw
        show W p l e R s m args below meth c H locs _ _ _ (F0 m 32 ls [.int (iN (z_5)), .int (iN (z_3))])
        refine x_callS hC hw (lv_size hl) (c_X0_signs l G (M := M) (p0 := z_5) (by omega)) gX0_textLength_X0_signs rfl dv_X0_signs_s rfl (Nat.le_of_ble_eq_true rfl) (by rw [hRf]; decide) (by rw [hRl]; decide) (by first | (rw [hRc]; decide) | omega) (by first | (rw [hRs]; decide) | omega) dX0_textLength_32 (fun r9 M_6 H locs hq hw => ?_)
        obtain ⟨z_7, rfl, hM9, hz_7⟩ := hq
        rw [hM9] at hw
        show W p l e R s m args below meth c H locs _ _ _ (F0 m 35 ls [.int (iN (z_7)), .int (iN (z_3))])
        refine x_const hC dX0_textLength_35 ?_
        refine x_iadd hC dX0_textLength_36 ?_
        obtain ⟨z_8, hz_8, hrz_8⟩ := x_nrm (z_7 + 1)
        rw [hz_8]
        refine lv_aload_n hC.1 hC.2.1 dX0_textLength_37 rfl (lv_at hl 1 rfl) ?_
        refine lv_iload hC.1 hC.2.1 dX0_textLength_38 (lv_at hl 4 rfl) ?_
        refine x_callV hC hw (lv_size hl) (c_X0_valueAt l G hB (show o < 3 by first | assumption | omega) hV (by first | assumption | omega) (by first | assumption | omega) (p0 := pl) (by omega)) gX0_textLength_X0_valueAt rfl dv_X0_valueAt hB.1 rfl rfl (Nat.le_of_ble_eq_true rfl) (by rw [hRf]; decide) (by rw [hRl]; decide) (by first | (rw [hRc]; decide) | omega) (by first | (rw [hRs]; decide) | omega) dX0_textLength_40 (fun r9 M_9 H locs hq hw => ?_)
        obtain ⟨z_10, rfl, hM9, hz_10, hz_10b, hz_10k⟩ := hq
        rw [hM9] at hw
        show W p l e R s m args below meth c H locs _ _ _ (F0 m 43 ls [.int (iN (z_10)), .int (iN (z_8)), .int (iN (z_3))])
        refine x_callS hC hw (lv_size hl) (c_X0_signs l G (M := M) (p0 := z_10) (by omega)) gX0_textLength_X0_signs rfl dv_X0_signs_s rfl (Nat.le_of_ble_eq_true rfl) (by rw [hRf]; decide) (by rw [hRl]; decide) (by first | (rw [hRc]; decide) | omega) (by first | (rw [hRs]; decide) | omega) dX0_textLength_43 (fun r9 M_11 H locs hq hw => ?_)
        obtain ⟨z_12, rfl, hM9, hz_12⟩ := hq
        rw [hM9] at hw
        show W p l e R s m args below meth c H locs _ _ _ (F0 m 46 ls [.int (iN (z_12)), .int (iN (z_8)), .int (iN (z_3))])
        refine x_iadd hC dX0_textLength_46 ?_
        obtain ⟨z_13, hz_13, hrz_13⟩ := x_nrm (z_8 + z_12)
        rw [hz_13]
        refine x_iadd hC dX0_textLength_47 ?_
        obtain ⟨z_14, hz_14, hrz_14⟩ := x_nrm (z_3 + z_13)
        rw [hz_14]
        refine lv_istore_n (lv' := [(3, .int (iN (z_14))), (0, .ref b), (1, .int (iN (p0))), (2, .int (iN (p1))), (4, .int (iN (pl)))]) hC.1 hC.2.1 dX0_textLength_48 rfl hl (by decide) rfl (fun ls hl => ?_)
        refine x_iinc (lv' := [(4, .int (iN (pl + 1))), (3, .int (iN (z_14))), (0, .ref b), (1, .int (iN (p0))), (2, .int (iN (p1)))]) hC dX0_textLength_49 hl (k := 4) rfl (by decide) rfl (fun ls hl => ?_)
        refine lv_goto (tgt := 5) hC.1 hC.2.1 dX0_textLength_52 (by decide) ?_
        exact ih5 z_14 (pl + 1)  _ _ _ (by first | exact mu_s hmz5 (by omega) | omega) (by omega) (by omega) hw (lv_sub hl [2, 3, 4, 1, 0] rfl)
      · refine x_const hC dX0_textLength_18 ?_
        refine lv_goto (tgt := 23) hC.1 hC.2.1 dX0_textLength_19 (by decide) ?_
        refine x_iadd hC dX0_textLength_23 ?_
        obtain ⟨z_15, hz_15, hrz_15⟩ := x_nrm (ln + 2)
        rw [hz_15]
        refine lv_istore_n (lv' := [(3, .int (iN (z_15))), (0, .ref b), (1, .int (iN (p0))), (2, .int (iN (p1))), (4, .int (iN (pl)))]) hC.1 hC.2.1 dX0_textLength_24 rfl hl (by decide) rfl (fun ls hl => ?_)
        refine lv_iload_n hC.1 hC.2.1 dX0_textLength_25 rfl (lv_at hl 0 rfl) ?_
        refine lv_aload_n hC.1 hC.2.1 dX0_textLength_26 rfl (lv_at hl 1 rfl) ?_
        refine lv_iload hC.1 hC.2.1 dX0_textLength_27 (lv_at hl 4 rfl) ?_
        refine x_callV hC hw (lv_size hl) (c_X0_keyAt l G hB (show o < 3 by first | assumption | omega) hV (by first | assumption | omega) (by first | assumption | omega) (p0 := pl) (by omega)) gX0_textLength_X0_keyAt rfl dv_X0_keyAt hB.1 rfl rfl (Nat.le_of_ble_eq_true rfl) (by rw [hRf]; decide) (by rw [hRl]; decide) (by first | (rw [hRc]; decide) | omega) (by first | (rw [hRs]; decide) | omega) dX0_textLength_29 (fun r9 M_16 H locs hq hw => ?_)
        obtain ⟨z_17, rfl, hM9, hz_17, hz_17b, hz_17k⟩ := hq
        rw [hM9] at hw
        show W p l e R s m args below meth c H locs _ _ _ (F0 m 32 ls [.int (iN (z_17)), .int (iN (z_15))])
        refine x_callS hC hw (lv_size hl) (c_X0_signs l G (M := M) (p0 := z_17) (by omega)) gX0_textLength_X0_signs rfl dv_X0_signs_s rfl (Nat.le_of_ble_eq_true rfl) (by rw [hRf]; decide) (by rw [hRl]; decide) (by first | (rw [hRc]; decide) | omega) (by first | (rw [hRs]; decide) | omega) dX0_textLength_32 (fun r9 M_18 H locs hq hw => ?_)
        obtain ⟨z_19, rfl, hM9, hz_19⟩ := hq
        rw [hM9] at hw
        show W p l e R s m args below meth c H locs _ _ _ (F0 m 35 ls [.int (iN (z_19)), .int (iN (z_15))])
        refine x_const hC dX0_textLength_35 ?_
        refine x_iadd hC dX0_textLength_36 ?_
        obtain ⟨z_20, hz_20, hrz_20⟩ := x_nrm (z_19 + 1)
        rw [hz_20]
        refine lv_aload_n hC.1 hC.2.1 dX0_textLength_37 rfl (lv_at hl 1 rfl) ?_
        refine lv_iload hC.1 hC.2.1 dX0_textLength_38 (lv_at hl 4 rfl) ?_
        refine x_callV hC hw (lv_size hl) (c_X0_valueAt l G hB (show o < 3 by first | assumption | omega) hV (by first | assumption | omega) (by first | assumption | omega) (p0 := pl) (by omega)) gX0_textLength_X0_valueAt rfl dv_X0_valueAt hB.1 rfl rfl (Nat.le_of_ble_eq_true rfl) (by rw [hRf]; decide) (by rw [hRl]; decide) (by first | (rw [hRc]; decide) | omega) (by first | (rw [hRs]; decide) | omega) dX0_textLength_40 (fun r9 M_21 H locs hq hw => ?_)
        obtain ⟨z_22, rfl, hM9, hz_22, hz_22b, hz_22k⟩ := hq
        rw [hM9] at hw
        show W p l e R s m args below meth c H locs _ _ _ (F0 m 43 ls [.int (iN (z_22)), .int (iN (z_20)), .int (iN (z_15))])
        refine x_callS hC hw (lv_size hl) (c_X0_signs l G (M := M) (p0 := z_22) (by omega)) gX0_textLength_X0_signs rfl dv_X0_signs_s rfl (Nat.le_of_ble_eq_true rfl) (by rw [hRf]; decide) (by rw [hRl]; decide) (by first | (rw [hRc]; decide) | omega) (by first | (rw [hRs]; decide) | omega) dX0_textLength_43 (fun r9 M_23 H locs hq hw => ?_)
        obtain ⟨z_24, rfl, hM9, hz_24⟩ := hq
        rw [hM9] at hw
        show W p l e R s m args below meth c H locs _ _ _ (F0 m 46 ls [.int (iN (z_24)), .int (iN (z_20)), .int (iN (z_15))])
        refine x_iadd hC dX0_textLength_46 ?_
        obtain ⟨z_25, hz_25, hrz_25⟩ := x_nrm (z_20 + z_24)
        rw [hz_25]
        refine x_iadd hC dX0_textLength_47 ?_
        obtain ⟨z_26, hz_26, hrz_26⟩ := x_nrm (z_15 + z_25)
        rw [hz_26]
        refine lv_istore_n (lv' := [(3, .int (iN (z_26))), (0, .ref b), (1, .int (iN (p0))), (2, .int (iN (p1))), (4, .int (iN (pl)))]) hC.1 hC.2.1 dX0_textLength_48 rfl hl (by decide) rfl (fun ls hl => ?_)
        refine x_iinc (lv' := [(4, .int (iN (pl + 1))), (3, .int (iN (z_26))), (0, .ref b), (1, .int (iN (p0))), (2, .int (iN (p1)))]) hC dX0_textLength_49 hl (k := 4) rfl (by decide) rfl (fun ls hl => ?_)
        refine lv_goto (tgt := 5) hC.1 hC.2.1 dX0_textLength_52 (by decide) ?_
        exact ih5 z_26 (pl + 1)  _ _ _ (by first | exact mu_s hmz5 (by omega) | omega) (by omega) (by omega) hw (lv_sub hl [2, 3, 4, 1, 0] rfl)
