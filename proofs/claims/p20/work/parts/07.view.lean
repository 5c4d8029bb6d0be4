/-! the methods of a view and of a walk, by program -/
theorem dv_X1_end : yX1_end.cls = RX1 ∧ yX1_end.cls ≠ "java/lang/invoke/MethodHandle" ∧ yX1_end.cls ≠ "java/lang/invoke/VarHandle" ∧ (parseMethodDescriptor yX1_end.desc).map (fun d => d.parameters.length) = some 0 := by decide +kernel
theorem dv_X1_start : yX1_start.cls = RX1 ∧ yX1_start.cls ≠ "java/lang/invoke/MethodHandle" ∧ yX1_start.cls ≠ "java/lang/invoke/VarHandle" ∧ (parseMethodDescriptor yX1_start.desc).map (fun d => d.parameters.length) = some 0 := by decide +kernel
theorem dv_X1_isWithin : yX1_isWithin.cls = RX1 ∧ yX1_isWithin.cls ≠ "java/lang/invoke/MethodHandle" ∧ yX1_isWithin.cls ≠ "java/lang/invoke/VarHandle" ∧ (parseMethodDescriptor yX1_isWithin.desc).map (fun d => d.parameters.length) = some 1 := by decide +kernel
theorem dv_X1_book : yX1_book.cls = RX1 ∧ yX1_book.cls ≠ "java/lang/invoke/MethodHandle" ∧ yX1_book.cls ≠ "java/lang/invoke/VarHandle" ∧ (parseMethodDescriptor yX1_book.desc).map (fun d => d.parameters.length) = some 0 := by decide +kernel
theorem dv_X2_book : yX2_book.cls = RX2 ∧ yX2_book.cls ≠ "java/lang/invoke/MethodHandle" ∧ yX2_book.cls ≠ "java/lang/invoke/VarHandle" ∧ (parseMethodDescriptor yX2_book.desc).map (fun d => d.parameters.length) = some 0 := by decide +kernel
theorem dv_X0_keyChanges : yX0_keyChanges.cls = RX0 ∧ yX0_keyChanges.cls ≠ "java/lang/invoke/MethodHandle" ∧ yX0_keyChanges.cls ≠ "java/lang/invoke/VarHandle" ∧ (parseMethodDescriptor yX0_keyChanges.desc).map (fun d => d.parameters.length) = some 0 := by decide +kernel
theorem dv_X0_touches : yX0_touches.cls = RX0 ∧ yX0_touches.cls ≠ "java/lang/invoke/MethodHandle" ∧ yX0_touches.cls ≠ "java/lang/invoke/VarHandle" ∧ (parseMethodDescriptor yX0_touches.desc).map (fun d => d.parameters.length) = some 0 := by decide +kernel
set_option maxHeartbeats 4000000 in
set_option maxRecDepth 100000 in
theorem c_X1_book (l : Launch) (G : xG) {M : HM} {b k v o : Nat} {no t kc : Int32} {sz : Int} {fk fv : Nat → Int32} {y : Nat} {lo up sw ew : Int32} {li ui : Int} (hV : Vw M y b lo up sw ew li ui) (hB : Bk G M b k v no (iN ((o : Nat) : Int)) t kc sz fk fv) (ho : o < 3) : xMet l G yX1_book wsX1_book 0 0 0 0 [.ref y] M (fun r M1 => r = some (.ref b) ∧ M1 = M) := by
  refine x_intro (cc := cX1_book) (maxL := 1) (ret := (some (.object "Rangeledger$Book"))) (by decide +kernel) rfl (Nat.le_of_ble_eq_true rfl) ?_
  intro p e R s m args below meth c ls hRf hRc hRs hRl hC hw hl
  obtain ⟨-, -, -, -, hs0, hs1⟩ := id hB
  have hli := hV.2.1
  have hui := hV.2.2
  have hinX1 : ∀ w ∈ wsX10, w ∈ wsX1_book := by decide +kernel
  have hl : lv_has ls 1 [(0, .ref y)] := hl
  refine lv_aload_n hC.1 hC.2.1 dX1_book_0 rfl (lv_at hl 0 rfl) ?_
  refine x_get hC hw hV.1 rfl hinX1 0 (by decide) (by decide +kernel) rfl dX1_book_1 ?_
  exact x_aret hC hw (by first | exact Or.inl ⟨_, rfl⟩ | exact Or.inr ⟨_, rfl⟩) (Or.inr ⟨_, rfl⟩) dX1_book_4 (by omega) (by omega) ⟨rfl, rfl⟩
set_option maxHeartbeats 4000000 in
set_option maxRecDepth 100000 in
theorem c_X1_lowerBound (l : Launch) (G : xG) {M : HM} {b k v o : Nat} {no t kc : Int32} {sz : Int} {fk fv : Nat → Int32} {y : Nat} {lo up sw ew : Int32} {li ui : Int} (hV : Vw M y b lo up sw ew li ui) (hB : Bk G M b k v no (iN ((o : Nat) : Int)) t kc sz fk fv) (ho : o < 3) : xMet l G yX1_lowerBound wsX1_lowerBound 0 0 0 0 [.ref y] M (fun r M1 => r = some (.int (iN (lo.toInt))) ∧ M1 = M) := by
  refine x_intro (cc := cX1_lowerBound) (maxL := 1) (ret := (some .int)) (by decide +kernel) rfl (Nat.le_of_ble_eq_true rfl) ?_
  intro p e R s m args below meth c ls hRf hRc hRs hRl hC hw hl
  obtain ⟨-, -, -, -, hs0, hs1⟩ := id hB
  have hli := hV.2.1
  have hui := hV.2.2
  have hinX1 : ∀ w ∈ wsX10, w ∈ wsX1_lowerBound := by decide +kernel
  have hl : lv_has ls 1 [(0, .ref y)] := hl
  refine lv_aload_n hC.1 hC.2.1 dX1_lowerBound_0 rfl (lv_at hl 0 rfl) ?_
  refine x_getR hC hw hV.1 rfl hinX1 1 (by decide) (by decide +kernel) rfl dX1_lowerBound_1 ?_
  have hrr_1 := iN_rng lo
  exact x_iret hC hw dX1_lowerBound_4 (by omega) (by omega) ⟨rfl, rfl⟩
set_option maxHeartbeats 4000000 in
set_option maxRecDepth 100000 in
theorem c_X1_upperBound (l : Launch) (G : xG) {M : HM} {b k v o : Nat} {no t kc : Int32} {sz : Int} {fk fv : Nat → Int32} {y : Nat} {lo up sw ew : Int32} {li ui : Int} (hV : Vw M y b lo up sw ew li ui) (hB : Bk G M b k v no (iN ((o : Nat) : Int)) t kc sz fk fv) (ho : o < 3) : xMet l G yX1_upperBound wsX1_upperBound 0 0 0 0 [.ref y] M (fun r M1 => r = some (.int (iN (up.toInt))) ∧ M1 = M) := by
  refine x_intro (cc := cX1_upperBound) (maxL := 1) (ret := (some .int)) (by decide +kernel) rfl (Nat.le_of_ble_eq_true rfl) ?_
  intro p e R s m args below meth c ls hRf hRc hRs hRl hC hw hl
  obtain ⟨-, -, -, -, hs0, hs1⟩ := id hB
  have hli := hV.2.1
  have hui := hV.2.2
  have hinX1 : ∀ w ∈ wsX10, w ∈ wsX1_upperBound := by decide +kernel
  have hl : lv_has ls 1 [(0, .ref y)] := hl
  refine lv_aload_n hC.1 hC.2.1 dX1_upperBound_0 rfl (lv_at hl 0 rfl) ?_
  refine x_getR hC hw hV.1 rfl hinX1 2 (by decide) (by decide +kernel) rfl dX1_upperBound_1 ?_
  have hrr_1 := iN_rng up
  exact x_iret hC hw dX1_upperBound_4 (by omega) (by omega) ⟨rfl, rfl⟩
set_option maxHeartbeats 4000000 in
set_option maxRecDepth 100000 in
theorem c_X1_isLowerIn (l : Launch) (G : xG) {M : HM} {b k v o : Nat} {no t kc : Int32} {sz : Int} {fk fv : Nat → Int32} {y : Nat} {lo up sw ew : Int32} {li ui : Int} (hV : Vw M y b lo up sw ew li ui) (hB : Bk G M b k v no (iN ((o : Nat) : Int)) t kc sz fk fv) (ho : o < 3) : xMet l G yX1_isLowerIn wsX1_isLowerIn 0 0 0 0 [.ref y] M (fun r M1 => r = some (.int (iN (li))) ∧ M1 = M) := by
  refine x_intro (cc := cX1_isLowerIn) (maxL := 1) (ret := (some .boolean)) (by decide +kernel) rfl (Nat.le_of_ble_eq_true rfl) ?_
  intro p e R s m args below meth c ls hRf hRc hRs hRl hC hw hl
  obtain ⟨-, -, -, -, hs0, hs1⟩ := id hB
  have hli := hV.2.1
  have hui := hV.2.2
  have hinX1 : ∀ w ∈ wsX10, w ∈ wsX1_isLowerIn := by decide +kernel
  have hl : lv_has ls 1 [(0, .ref y)] := hl
  refine lv_aload_n hC.1 hC.2.1 dX1_isLowerIn_0 rfl (lv_at hl 0 rfl) ?_
  refine x_get hC hw hV.1 rfl hinX1 3 (by decide) (by decide +kernel) rfl dX1_isLowerIn_1 ?_
  exact x_zret hC hw (by omega) dX1_isLowerIn_4 (by omega) (by omega) ⟨rfl, rfl⟩
set_option maxHeartbeats 4000000 in
set_option maxRecDepth 100000 in
theorem c_X1_isUpperIn (l : Launch) (G : xG) {M : HM} {b k v o : Nat} {no t kc : Int32} {sz : Int} {fk fv : Nat → Int32} {y : Nat} {lo up sw ew : Int32} {li ui : Int} (hV : Vw M y b lo up sw ew li ui) (hB : Bk G M b k v no (iN ((o : Nat) : Int)) t kc sz fk fv) (ho : o < 3) : xMet l G yX1_isUpperIn wsX1_isUpperIn 0 0 0 0 [.ref y] M (fun r M1 => r = some (.int (iN (ui))) ∧ M1 = M) := by
  refine x_intro (cc := cX1_isUpperIn) (maxL := 1) (ret := (some .boolean)) (by decide +kernel) rfl (Nat.le_of_ble_eq_true rfl) ?_
  intro p e R s m args below meth c ls hRf hRc hRs hRl hC hw hl
  obtain ⟨-, -, -, -, hs0, hs1⟩ := id hB
  have hli := hV.2.1
  have hui := hV.2.2
  have hinX1 : ∀ w ∈ wsX10, w ∈ wsX1_isUpperIn := by decide +kernel
  have hl : lv_has ls 1 [(0, .ref y)] := hl
  refine lv_aload_n hC.1 hC.2.1 dX1_isUpperIn_0 rfl (lv_at hl 0 rfl) ?_
  refine x_get hC hw hV.1 rfl hinX1 4 (by decide) (by decide +kernel) rfl dX1_isUpperIn_1 ?_
  exact x_zret hC hw (by omega) dX1_isUpperIn_4 (by omega) (by omega) ⟨rfl, rfl⟩
set_option maxHeartbeats 4000000 in
set_option maxRecDepth 100000 in
theorem c_X1_start (l : Launch) (G : xG) {M : HM} {b k v o : Nat} {no t kc : Int32} {sz : Int} {fk fv : Nat → Int32} {y : Nat} {lo up sw ew : Int32} {li ui : Int} (hV : Vw M y b lo up sw ew li ui) (hB : Bk G M b k v no (iN ((o : Nat) : Int)) t kc sz fk fv) (ho : o < 3) : xMet l G yX1_start wsX1_start 2 48 0 0 [.ref y] M (fun r M1 => ∃ z : Int, r = some (.int (iN z)) ∧ M1 = M ∧ 0 ≤ z ∧ z ≤ sz) := by
  refine x_intro (cc := cX1_start) (maxL := 1) (ret := (some .int)) (by decide +kernel) rfl (Nat.le_of_ble_eq_true rfl) ?_
  intro p e R s m args below meth c ls hRf hRc hRs hRl hC hw hl
  obtain ⟨-, -, -, -, hs0, hs1⟩ := id hB
  have hli := hV.2.1
  have hui := hV.2.2
  have hinX1 : ∀ w ∈ wsX10, w ∈ wsX1_start := by decide +kernel
  have hl : lv_has ls 1 [(0, .ref y)] := hl
  refine lv_aload_n hC.1 hC.2.1 dX1_start_0 rfl (lv_at hl 0 rfl) ?_
  refine x_get hC hw hV.1 rfl hinX1 0 (by decide) (by decide +kernel) rfl dX1_start_1 ?_
  refine lv_aload_n hC.1 hC.2.1 dX1_start_4 rfl (lv_at hl 0 rfl) ?_
  refine x_getR hC hw hV.1 rfl hinX1 5 (by decide) (by decide +kernel) rfl dX1_start_5 ?_
  have hrr_1 := iN_rng sw
  refine x_callV hC hw (lv_size hl) (c_X0_placeOfWeight l G hB (show o < 3 by omega) (p0 := sw.toInt) (by omega)) gX1_start_X0_placeOfWeight rfl dv_X0_placeOfWeight hB.1 rfl rfl (Nat.le_of_ble_eq_true rfl) (by rw [hRf]; decide) (by rw [hRl]; decide) (by omega) (by omega) dX1_start_8 (fun r9 M_2 H locs hq hw => ?_)
  obtain ⟨z_3, rfl, hM9, hz_3a, hz_3b⟩ := hq
  rw [hM9] at hw
  show W p l e R s m args below meth c H locs _ _ _ (F0 m 11 ls [.int (iN (z_3))])
  exact x_iret hC hw dX1_start_11 (by omega) (by omega) ⟨z_3, rfl, rfl, by omega, by omega⟩
set_option maxHeartbeats 4000000 in
set_option maxRecDepth 100000 in
theorem c_X1_end (l : Launch) (G : xG) {M : HM} {b k v o : Nat} {no t kc : Int32} {sz : Int} {fk fv : Nat → Int32} {y : Nat} {lo up sw ew : Int32} {li ui : Int} (hV : Vw M y b lo up sw ew li ui) (hB : Bk G M b k v no (iN ((o : Nat) : Int)) t kc sz fk fv) (ho : o < 3) : xMet l G yX1_end wsX1_end 2 48 0 0 [.ref y] M (fun r M1 => ∃ z : Int, r = some (.int (iN z)) ∧ M1 = M ∧ 0 ≤ z ∧ z ≤ sz) := by
  refine x_intro (cc := cX1_end) (maxL := 1) (ret := (some .int)) (by decide +kernel) rfl (Nat.le_of_ble_eq_true rfl) ?_
  intro p e R s m args below meth c ls hRf hRc hRs hRl hC hw hl
  obtain ⟨-, -, -, -, hs0, hs1⟩ := id hB
  have hli := hV.2.1
  have hui := hV.2.2
  have hinX1 : ∀ w ∈ wsX10, w ∈ wsX1_end := by decide +kernel
  have hl : lv_has ls 1 [(0, .ref y)] := hl
  refine lv_aload_n hC.1 hC.2.1 dX1_end_0 rfl (lv_at hl 0 rfl) ?_
  refine x_get hC hw hV.1 rfl hinX1 0 (by decide) (by decide +kernel) rfl dX1_end_1 ?_
  refine lv_aload_n hC.1 hC.2.1 dX1_end_4 rfl (lv_at hl 0 rfl) ?_
  refine x_getR hC hw hV.1 rfl hinX1 6 (by decide) (by decide +kernel) rfl dX1_end_5 ?_
  have hrr_1 := iN_rng ew
  refine x_callV hC hw (lv_size hl) (c_X0_placeOfWeight l G hB (show o < 3 by omega) (p0 := ew.toInt) (by omega)) gX1_end_X0_placeOfWeight rfl dv_X0_placeOfWeight hB.1 rfl rfl (Nat.le_of_ble_eq_true rfl) (by rw [hRf]; decide) (by rw [hRl]; decide) (by omega) (by omega) dX1_end_8 (fun r9 M_2 H locs hq hw => ?_)
  obtain ⟨z_3, rfl, hM9, hz_3a, hz_3b⟩ := hq
  rw [hM9] at hw
  show W p l e R s m args below meth c H locs _ _ _ (F0 m 11 ls [.int (iN (z_3))])
  exact x_iret hC hw dX1_end_11 (by omega) (by omega) ⟨z_3, rfl, rfl, by omega, by omega⟩
set_option maxHeartbeats 4000000 in
set_option maxRecDepth 100000 in
theorem c_X1_size (l : Launch) (G : xG) {M : HM} {b k v o : Nat} {no t kc : Int32} {sz : Int} {fk fv : Nat → Int32} {y : Nat} {lo up sw ew : Int32} {li ui : Int} (hV : Vw M y b lo up sw ew li ui) (hB : Bk G M b k v no (iN ((o : Nat) : Int)) t kc sz fk fv) (ho : o < 3) : xMet l G yX1_size wsX1_size 3 68 0 0 [.ref y] M (fun r M1 => ∃ z : Int, r = some (.int (iN z)) ∧ M1 = M ∧ -100 ≤ z ∧ z ≤ 100) := by
  refine x_intro (cc := cX1_size) (maxL := 1) (ret := (some .int)) (by decide +kernel) rfl (Nat.le_of_ble_eq_true rfl) ?_
  intro p e R s m args below meth c ls hRf hRc hRs hRl hC hw hl
  obtain ⟨-, -, -, -, hs0, hs1⟩ := id hB
  have hli := hV.2.1
  have hui := hV.2.2
  have hl : lv_has ls 1 [(0, .ref y)] := hl
  refine lv_aload_n hC.1 hC.2.1 dX1_size_0 rfl (lv_at hl 0 rfl) ?_
  refine x_callV hC hw (lv_size hl) (c_X1_end l G hV hB (show o < 3 by omega)) gX1_size_X1_end rfl dv_X1_end hV.1 rfl rfl (Nat.le_of_ble_eq_true rfl) (by rw [hRf]; decide) (by rw [hRl]; decide) (by omega) (by omega) dX1_size_1 (fun r9 M_1 H locs hq hw => ?_)
  obtain ⟨z_2, rfl, hM9, hz_2a, hz_2b⟩ := hq
  rw [hM9] at hw
  show W p l e R s m args below meth c H locs _ _ _ (F0 m 4 ls [.int (iN (z_2))])
  refine lv_aload_n hC.1 hC.2.1 dX1_size_4 rfl (lv_at hl 0 rfl) ?_
  refine x_callV hC hw (lv_size hl) (c_X1_start l G hV hB (show o < 3 by omega)) gX1_size_X1_start rfl dv_X1_start hV.1 rfl rfl (Nat.le_of_ble_eq_true rfl) (by rw [hRf]; decide) (by rw [hRl]; decide) (by omega) (by omega) dX1_size_5 (fun r9 M_3 H locs hq hw => ?_)
  obtain ⟨z_4, rfl, hM9, hz_4a, hz_4b⟩ := hq
  rw [hM9] at hw
  show W p l e R s m args below meth c H locs _ _ _ (F0 m 8 ls [.int (iN (z_4)), .int (iN (z_2))])
  refine x_isub hC dX1_size_8 ?_
  exact x_iret hC hw dX1_size_9 (by omega) (by omega) ⟨z_2 - z_4, rfl, rfl, by omega, by omega⟩
set_option maxHeartbeats 4000000 in
set_option maxRecDepth 100000 in
theorem c_X1_isWithin (l : Launch) (G : xG) {M : HM} {b k v o : Nat} {no t kc : Int32} {sz : Int} {fk fv : Nat → Int32} {y : Nat} {lo up sw ew : Int32} {li ui : Int} (hV : Vw M y b lo up sw ew li ui) (hB : Bk G M b k v no (iN ((o : Nat) : Int)) t kc sz fk fv) (ho : o < 3) {p0 : Int} (hp0 : -2147483648 ≤ p0 ∧ p0 ≤ 2147483647) : xMet l G yX1_isWithin wsX1_isWithin 1 23 0 0 [.ref y, .int (iN (p0))] M (fun r M1 => ∃ z : Int, r = some (.int (iN z)) ∧ M1 = M ∧ (z = 0 ∨ z = 1) ∧ (0 ≤ p0 ∧ p0 ≤ 99 → (z = 1 ↔ (sw.toInt ≤ cwN o p0.toNat ∧ (cwN o p0.toNat : Int) < ew.toInt)))) := by
  refine x_intro (cc := cX1_isWithin) (maxL := 3) (ret := (some .boolean)) (by decide +kernel) rfl (Nat.le_of_ble_eq_true rfl) ?_
  intro p e R s m args below meth c ls hRf hRc hRs hRl hC hw hl
  obtain ⟨-, -, -, -, hs0, hs1⟩ := id hB
  have hli := hV.2.1
  have hui := hV.2.2
  have hinX1 : ∀ w ∈ wsX10, w ∈ wsX1_isWithin := by decide +kernel
  have hl : lv_has ls 3 [(0, .ref y), (1, .int (iN (p0)))] := hl
  refine lv_aload_n hC.1 hC.2.1 dX1_isWithin_0 rfl (lv_at hl 0 rfl) ?_
  refine x_get hC hw hV.1 rfl hinX1 0 (by decide) (by decide +kernel) rfl dX1_isWithin_1 ?_
  refine lv_iload_n hC.1 hC.2.1 dX1_isWithin_4 rfl (lv_at hl 1 rfl) ?_
  refine x_callV hC hw (lv_size hl) (c_X0_weight l G hB (show o < 3 by omega) (p0 := p0) (by omega)) gX1_isWithin_X0_weight rfl dv_X0_weight hB.1 rfl rfl (Nat.le_of_ble_eq_true rfl) (by rw [hRf]; decide) (by rw [hRl]; decide) (by omega) (by omega) dX1_isWithin_5 (fun r9 M_1 H locs hq hw => ?_)
  obtain ⟨z_2, rfl, hM9, hz_2, hz_2w⟩ := hq
  rw [hM9] at hw
  show W p l e R s m args below meth c H locs _ _ _ (F0 m 8 ls [.int (iN (z_2))])
  refine lv_istore_n (lv' := [(2, .int (iN (z_2))), (0, .ref y), (1, .int (iN (p0)))]) hC.1 hC.2.1 dX1_isWithin_8 rfl hl (by decide) rfl (fun ls hl => ?_)
  refine lv_iload_n hC.1 hC.2.1 dX1_isWithin_9 rfl (lv_at hl 0 rfl) ?_
  refine lv_aload_n hC.1 hC.2.1 dX1_isWithin_10 rfl (lv_at hl 1 rfl) ?_
  refine x_getR hC hw hV.1 rfl hinX1 5 (by decide) (by decide +kernel) rfl dX1_isWithin_11 ?_
  have hrr_3 := iN_rng sw
  refine x_icmp_lt (tgt := 29) hC ⟨by omega, by omega⟩ ⟨by omega, by omega⟩ dX1_isWithin_14 (by decide) (fun c_4 => ?_) (fun c_4 => ?_)
  · refine x_const hC dX1_isWithin_29 ?_
    exact x_zret hC hw (by omega) dX1_isWithin_30 (by omega) (by omega) ⟨0, rfl, rfl, by omega, by omega⟩
  · refine lv_iload_n hC.1 hC.2.1 dX1_isWithin_17 rfl (lv_at hl 0 rfl) ?_
    refine lv_aload_n hC.1 hC.2.1 dX1_isWithin_18 rfl (lv_at hl 1 rfl) ?_
    refine x_getR hC hw hV.1 rfl hinX1 6 (by decide) (by decide +kernel) rfl dX1_isWithin_19 ?_
    have hrr_5 := iN_rng ew
    refine x_icmp_ge (tgt := 29) hC ⟨by omega, by omega⟩ ⟨by omega, by omega⟩ dX1_isWithin_22 (by decide) (fun c_6 => ?_) (fun c_6 => ?_)
    · refine x_const hC dX1_isWithin_29 ?_
      exact x_zret hC hw (by omega) dX1_isWithin_30 (by omega) (by omega) ⟨0, rfl, rfl, by omega, by omega⟩
    · refine x_const hC dX1_isWithin_25 ?_
      refine lv_goto (tgt := 30) hC.1 hC.2.1 dX1_isWithin_26 (by decide) ?_
      exact x_zret hC hw (by omega) dX1_isWithin_30 (by omega) (by omega) ⟨1, rfl, rfl, by omega, by omega⟩
set_option maxHeartbeats 4000000 in
set_option maxRecDepth 100000 in
theorem c_X1_isSoundView (l : Launch) (G : xG) {M : HM} {b k v o : Nat} {no t kc : Int32} {sz : Int} {fk fv : Nat → Int32} {y : Nat} {lo up sw ew : Int32} {li ui : Int} (hV : Vw M y b lo up sw ew li ui) (hB : Bk G M b k v no (iN ((o : Nat) : Int)) t kc sz fk fv) (ho : o < 3) : xMet l G yX1_isSoundView wsX1_isSoundView 3 68 0 0 [.ref y] M (fun r M1 => ∃ z : Int, r = some (.int (iN z)) ∧ M1 = M ∧ (z = 0 ∨ z = 1)) := by
  refine x_intro (cc := cX1_isSoundView) (maxL := 5) (ret := (some .boolean)) (by decide +kernel) rfl (Nat.le_of_ble_eq_true rfl) ?_
  intro p e R s m args below meth c ls hRf hRc hRs hRl hC hw hl
  obtain ⟨-, -, -, -, hs0, hs1⟩ := id hB
  have hli := hV.2.1
  have hui := hV.2.2
  have hinX1 : ∀ w ∈ wsX10, w ∈ wsX1_isSoundView := by decide +kernel
  have hl : lv_has ls 5 [(0, .ref y)] := hl
  refine lv_aload_n hC.1 hC.2.1 dX1_isSoundView_0 rfl (lv_at hl 0 rfl) ?_
  refine x_callV hC hw (lv_size hl) (c_X1_start l G hV hB (show o < 3 by omega)) gX1_isSoundView_X1_start rfl dv_X1_start hV.1 rfl rfl (Nat.le_of_ble_eq_true rfl) (by rw [hRf]; decide) (by rw [hRl]; decide) (by omega) (by omega) dX1_isSoundView_1 (fun r9 M_1 H locs hq hw => ?_)
  obtain ⟨z_2, rfl, hM9, hz_2a, hz_2b⟩ := hq
  rw [hM9] at hw
  show W p l e R s m args below meth c H locs _ _ _ (F0 m 4 ls [.int (iN (z_2))])
  refine lv_istore_n (lv' := [(1, .int (iN (z_2))), (0, .ref y)]) hC.1 hC.2.1 dX1_isSoundView_4 rfl hl (by decide) rfl (fun ls hl => ?_)
  refine lv_aload_n hC.1 hC.2.1 dX1_isSoundView_5 rfl (lv_at hl 1 rfl) ?_
  refine x_callV hC hw (lv_size hl) (c_X1_end l G hV hB (show o < 3 by omega)) gX1_isSoundView_X1_end rfl dv_X1_end hV.1 rfl rfl (Nat.le_of_ble_eq_true rfl) (by rw [hRf]; decide) (by rw [hRl]; decide) (by omega) (by omega) dX1_isSoundView_6 (fun r9 M_3 H locs hq hw => ?_)
  obtain ⟨z_4, rfl, hM9, hz_4a, hz_4b⟩ := hq
  rw [hM9] at hw
  show W p l e R s m args below meth c H locs _ _ _ (F0 m 9 ls [.int (iN (z_4))])
  refine lv_istore_n (lv' := [(2, .int (iN (z_4))), (1, .int (iN (z_2))), (0, .ref y)]) hC.1 hC.2.1 dX1_isSoundView_9 rfl hl (by decide) rfl (fun ls hl => ?_)
  refine x_const hC dX1_isSoundView_10 ?_
  refine lv_istore_n (lv' := [(3, .int (iN (0))), (2, .int (iN (z_4))), (1, .int (iN (z_2))), (0, .ref y)]) hC.1 hC.2.1 dX1_isSoundView_11 rfl hl (by decide) rfl (fun ls hl => ?_)
  suffices hloop12 : ∀ (n9 : Nat) (st : Int) (en : Int) (pl : Int) (H : Heap) (locs : List Loc) (ls : Array Slot), (hmu : (sz - pl).toNat < n9) → (hi0 : 0 ≤ st ∧ st ≤ 100) → (hi1 : 0 ≤ en ∧ en ≤ 100) → (hi2 : 0 ≤ pl) → (hi3 : pl ≤ sz) → xD G (xA M s.heap.size) s M H locs → lv_has ls 5 [(0, .ref y), (1, .int (iN (st))), (2, .int (iN (en))), (3, .int (iN (pl)))] → W p l e R s m args below meth c H locs _ _ _ (F0 m 12 ls []) by
    exact hloop12 _ z_2 z_4 0  _ _ _ (Nat.lt_succ_self _) (by omega) (by omega) (by omega) (by omega) hw (lv_sub hl [3, 2, 1, 0] rfl)
  intro n9
  induction n9 with
  | zero => intro st en pl  H locs ls hmu; exact absurd hmu (Nat.not_lt_zero _)
  | succ n9 ih12 =>
    intro st en pl  H locs ls hmu hi0 hi1 hi2 hi3 hw hl
    refine lv_iload_n hC.1 hC.2.1 dX1_isSoundView_12 rfl (lv_at hl 3 rfl) ?_
    refine lv_aload_n hC.1 hC.2.1 dX1_isSoundView_13 rfl (lv_at hl 0 rfl) ?_
    refine x_get hC hw hV.1 rfl hinX1 0 (by decide) (by decide +kernel) rfl dX1_isSoundView_14 ?_
    refine x_callV hC hw (lv_size hl) (c_X0_size l G hB (show o < 3 by omega)) gX1_isSoundView_X0_size rfl dv_X0_size hB.1 rfl rfl (Nat.le_of_ble_eq_true rfl) (by rw [hRf]; decide) (by rw [hRl]; decide) (by omega) (by omega) dX1_isSoundView_17 (fun r9 M_5 H locs hq hw => ?_)
    obtain ⟨rfl, hM9⟩ := hq
    rw [hM9] at hw
    show W p l e R s m args below meth c H locs _ _ _ (F0 m 20 ls [.int (iN (sz)), .int (iN (pl))])
    refine x_icmp_ge (tgt := 65) hC ⟨by omega, by omega⟩ ⟨by omega, by omega⟩ dX1_isSoundView_20 (by decide) (fun c_6 => ?_) (fun c_6 => ?_)
    · refine x_const hC dX1_isSoundView_65 ?_
      exact x_zret hC hw (by omega) dX1_isSoundView_66 (by omega) (by omega) ⟨1, rfl, rfl, by omega⟩
    · refine lv_iload_n hC.1 hC.2.1 dX1_isSoundView_23 rfl (lv_at hl 3 rfl) ?_
      refine lv_iload_n hC.1 hC.2.1 dX1_isSoundView_24 rfl (lv_at hl 1 rfl) ?_
      refine x_icmp_lt (tgt := 37) hC ⟨by omega, by omega⟩ ⟨by omega, by omega⟩ dX1_isSoundView_25 (by decide) (fun c_7 => ?_) (fun c_7 => ?_)
      · refine x_const hC dX1_isSoundView_37 ?_
        refine lv_istore (lv' := [(4, .int (iN (0))), (0, .ref y), (1, .int (iN (st))), (2, .int (iN (en))), (3, .int (iN (pl)))]) hC.1 hC.2.1 dX1_isSoundView_38 hl (by decide) rfl (fun ls hl => ?_)
        refine lv_aload_n hC.1 hC.2.1 dX1_isSoundView_40 rfl (lv_at hl 1 rfl) ?_
        refine lv_aload_n hC.1 hC.2.1 dX1_isSoundView_41 rfl (lv_at hl 1 rfl) ?_
        refine x_get hC hw hV.1 rfl hinX1 0 (by decide) (by decide +kernel) rfl dX1_isSoundView_42 ?_
        refine lv_iload_n hC.1 hC.2.1 dX1_isSoundView_45 rfl (lv_at hl 4 rfl) ?_
        refine x_callV hC hw (lv_size hl) (c_X0_keyAt l G hB (show o < 3 by omega) (p0 := pl) (by omega)) gX1_isSoundView_X0_keyAt rfl dv_X0_keyAt hB.1 rfl rfl (Nat.le_of_ble_eq_true rfl) (by rw [hRf]; decide) (by rw [hRl]; decide) (by omega) (by omega) dX1_isSoundView_46 (fun r9 M_8 H locs hq hw => ?_)
        obtain ⟨z_9, rfl, hM9, hz_9, hz_9b⟩ := hq
        rw [hM9] at hw
        show W p l e R s m args below meth c H locs _ _ _ (F0 m 49 ls [.int (iN (z_9)), .ref y])
        refine x_callV hC hw (lv_size hl) (c_X1_isWithin l G hV hB (show o < 3 by omega) (p0 := z_9) (by omega)) gX1_isSoundView_X1_isWithin rfl dv_X1_isWithin hV.1 rfl rfl (Nat.le_of_ble_eq_true rfl) (by rw [hRf]; decide) (by rw [hRl]; decide) (by omega) (by omega) dX1_isSoundView_49 (fun r9 M_10 H locs hq hw => ?_)
        obtain ⟨z_11, rfl, hM9, hz_11, hz_11w⟩ := hq
        rw [hM9] at hw
        show W p l e R s m args below meth c H locs _ _ _ (F0 m 52 ls [.int (iN (z_11))])
        refine lv_iload hC.1 hC.2.1 dX1_isSoundView_52 (lv_at hl 0 rfl) ?_
        refine x_icmp_eq (tgt := 59) hC ⟨by omega, by omega⟩ ⟨by omega, by omega⟩ dX1_isSoundView_54 (by decide) (fun c_12 => ?_) (fun c_12 => ?_)
        · refine x_iinc (lv' := [(3, .int (iN (pl + 1))), (4, .int (iN (0))), (0, .ref y), (1, .int (iN (st))), (2, .int (iN (en)))]) hC dX1_isSoundView_59 hl (k := 4) rfl (by decide) rfl (fun ls hl => ?_)
          refine lv_goto (tgt := 12) hC.1 hC.2.1 dX1_isSoundView_62 (by decide) ?_
          exact ih12 st en (pl + 1)  _ _ _ (by omega) (by omega) (by omega) (by omega) (by omega) hw (lv_sub hl [2, 3, 4, 0] rfl)
        · refine x_const hC dX1_isSoundView_57 ?_
          exact x_zret hC hw (by omega) dX1_isSoundView_58 (by omega) (by omega) ⟨0, rfl, rfl, by omega⟩
      · refine lv_iload_n hC.1 hC.2.1 dX1_isSoundView_28 rfl (lv_at hl 3 rfl) ?_
        refine lv_iload_n hC.1 hC.2.1 dX1_isSoundView_29 rfl (lv_at hl 2 rfl) ?_
        refine x_icmp_ge (tgt := 37) hC ⟨by omega, by omega⟩ ⟨by omega, by omega⟩ dX1_isSoundView_30 (by decide) (fun c_13 => ?_) (fun c_13 => ?_)
        · refine x_const hC dX1_isSoundView_37 ?_
          refine lv_istore (lv' := [(4, .int (iN (0))), (0, .ref y), (1, .int (iN (st))), (2, .int (iN (en))), (3, .int (iN (pl)))]) hC.1 hC.2.1 dX1_isSoundView_38 hl (by decide) rfl (fun ls hl => ?_)
          refine lv_aload_n hC.1 hC.2.1 dX1_isSoundView_40 rfl (lv_at hl 1 rfl) ?_
          refine lv_aload_n hC.1 hC.2.1 dX1_isSoundView_41 rfl (lv_at hl 1 rfl) ?_
          refine x_get hC hw hV.1 rfl hinX1 0 (by decide) (by decide +kernel) rfl dX1_isSoundView_42 ?_
          refine lv_iload_n hC.1 hC.2.1 dX1_isSoundView_45 rfl (lv_at hl 4 rfl) ?_
          refine x_callV hC hw (lv_size hl) (c_X0_keyAt l G hB (show o < 3 by omega) (p0 := pl) (by omega)) gX1_isSoundView_X0_keyAt rfl dv_X0_keyAt hB.1 rfl rfl (Nat.le_of_ble_eq_true rfl) (by rw [hRf]; decide) (by rw [hRl]; decide) (by omega) (by omega) dX1_isSoundView_46 (fun r9 M_14 H locs hq hw => ?_)
          obtain ⟨z_15, rfl, hM9, hz_15, hz_15b⟩ := hq
          rw [hM9] at hw
          show W p l e R s m args below meth c H locs _ _ _ (F0 m 49 ls [.int (iN (z_15)), .ref y])
          refine x_callV hC hw (lv_size hl) (c_X1_isWithin l G hV hB (show o < 3 by omega) (p0 := z_15) (by omega)) gX1_isSoundView_X1_isWithin rfl dv_X1_isWithin hV.1 rfl rfl (Nat.le_of_ble_eq_true rfl) (by rw [hRf]; decide) (by rw [hRl]; decide) (by omega) (by omega) dX1_isSoundView_49 (fun r9 M_16 H locs hq hw => ?_)
          obtain ⟨z_17, rfl, hM9, hz_17, hz_17w⟩ := hq
          rw [hM9] at hw
          show W p l e R s m args below meth c H locs _ _ _ (F0 m 52 ls [.int (iN (z_17))])
          refine lv_iload hC.1 hC.2.1 dX1_isSoundView_52 (lv_at hl 0 rfl) ?_
          refine x_icmp_eq (tgt := 59) hC ⟨by omega, by omega⟩ ⟨by omega, by omega⟩ dX1_isSoundView_54 (by decide) (fun c_18 => ?_) (fun c_18 => ?_)
          · refine x_iinc (lv' := [(3, .int (iN (pl + 1))), (4, .int (iN (0))), (0, .ref y), (1, .int (iN (st))), (2, .int (iN (en)))]) hC dX1_isSoundView_59 hl (k := 4) rfl (by decide) rfl (fun ls hl => ?_)
            refine lv_goto (tgt := 12) hC.1 hC.2.1 dX1_isSoundView_62 (by decide) ?_
            exact ih12 st en (pl + 1)  _ _ _ (by omega) (by omega) (by omega) (by omega) (by omega) hw (lv_sub hl [2, 3, 4, 0] rfl)
          · refine x_const hC dX1_isSoundView_57 ?_
            exact x_zret hC hw (by omega) dX1_isSoundView_58 (by omega) (by omega) ⟨0, rfl, rfl, by omega⟩
        · refine x_const hC dX1_isSoundView_33 ?_
          refine lv_goto (tgt := 38) hC.1 hC.2.1 dX1_isSoundView_34 (by decide) ?_
          refine lv_istore (lv' := [(4, .int (iN (1))), (0, .ref y), (1, .int (iN (st))), (2, .int (iN (en))), (3, .int (iN (pl)))]) hC.1 hC.2.1 dX1_isSoundView_38 hl (by decide) rfl (fun ls hl => ?_)
          refine lv_aload_n hC.1 hC.2.1 dX1_isSoundView_40 rfl (lv_at hl 1 rfl) ?_
          refine lv_aload_n hC.1 hC.2.1 dX1_isSoundView_41 rfl (lv_at hl 1 rfl) ?_
          refine x_get hC hw hV.1 rfl hinX1 0 (by decide) (by decide +kernel) rfl dX1_isSoundView_42 ?_
          refine lv_iload_n hC.1 hC.2.1 dX1_isSoundView_45 rfl (lv_at hl 4 rfl) ?_
          refine x_callV hC hw (lv_size hl) (c_X0_keyAt l G hB (show o < 3 by omega) (p0 := pl) (by omega)) gX1_isSoundView_X0_keyAt rfl dv_X0_keyAt hB.1 rfl rfl (Nat.le_of_ble_eq_true rfl) (by rw [hRf]; decide) (by rw [hRl]; decide) (by omega) (by omega) dX1_isSoundView_46 (fun r9 M_19 H locs hq hw => ?_)
          obtain ⟨z_20, rfl, hM9, hz_20, hz_20b⟩ := hq
          rw [hM9] at hw
          show W p l e R s m args below meth c H locs _ _ _ (F0 m 49 ls [.int (iN (z_20)), .ref y])
          refine x_callV hC hw (lv_size hl) (c_X1_isWithin l G hV hB (show o < 3 by omega) (p0 := z_20) (by omega)) gX1_isSoundView_X1_isWithin rfl dv_X1_isWithin hV.1 rfl rfl (Nat.le_of_ble_eq_true rfl) (by rw [hRf]; decide) (by rw [hRl]; decide) (by omega) (by omega) dX1_isSoundView_49 (fun r9 M_21 H locs hq hw => ?_)
          obtain ⟨z_22, rfl, hM9, hz_22, hz_22w⟩ := hq
          rw [hM9] at hw
          show W p l e R s m args below meth c H locs _ _ _ (F0 m 52 ls [.int (iN (z_22))])
          refine lv_iload hC.1 hC.2.1 dX1_isSoundView_52 (lv_at hl 0 rfl) ?_
          refine x_icmp_eq (tgt := 59) hC ⟨by omega, by omega⟩ ⟨by omega, by omega⟩ dX1_isSoundView_54 (by decide) (fun c_23 => ?_) (fun c_23 => ?_)
          · refine x_iinc (lv' := [(3, .int (iN (pl + 1))), (4, .int (iN (1))), (0, .ref y), (1, .int (iN (st))), (2, .int (iN (en)))]) hC dX1_isSoundView_59 hl (k := 4) rfl (by decide) rfl (fun ls hl => ?_)
            refine lv_goto (tgt := 12) hC.1 hC.2.1 dX1_isSoundView_62 (by decide) ?_
            exact ih12 st en (pl + 1)  _ _ _ (by omega) (by omega) (by omega) (by omega) (by omega) hw (lv_sub hl [2, 3, 4, 0] rfl)
          · refine x_const hC dX1_isSoundView_57 ?_
            exact x_zret hC hw (by omega) dX1_isSoundView_58 (by omega) (by omega) ⟨0, rfl, rfl, by omega⟩
set_option maxHeartbeats 4000000 in
set_option maxRecDepth 100000 in
theorem c_X2_book (l : Launch) (G : xG) {M : HM} {b k v o : Nat} {no t kc : Int32} {sz : Int} {fk fv : Nat → Int32} {y : Nat} {lo up sw ew : Int32} {li ui : Int} {w : Nat} {ps t0 kc0 : Int32} {cd : Int} (hW : Wk M w y ps t0 kc0 cd) (hV : Vw M y b lo up sw ew li ui) (hB : Bk G M b k v no (iN ((o : Nat) : Int)) t kc sz fk fv) (ho : o < 3) : xMet l G yX2_book wsX2_book 1 20 0 0 [.ref w] M (fun r M1 => r = some (.ref b) ∧ M1 = M) := by
  refine x_intro (cc := cX2_book) (maxL := 1) (ret := (some (.object "Rangeledger$Book"))) (by decide +kernel) rfl (Nat.le_of_ble_eq_true rfl) ?_
  intro p e R s m args below meth c ls hRf hRc hRs hRl hC hw hl
  obtain ⟨-, -, -, -, hs0, hs1⟩ := id hB
  have hli := hV.2.1
  have hui := hV.2.2
  have hcd := hW.2
  have hinX2 : ∀ w ∈ wsX20, w ∈ wsX2_book := by decide +kernel
  have hl : lv_has ls 1 [(0, .ref w)] := hl
  refine lv_aload_n hC.1 hC.2.1 dX2_book_0 rfl (lv_at hl 0 rfl) ?_
  refine x_get hC hw hW.1 rfl hinX2 0 (by decide) (by decide +kernel) rfl dX2_book_1 ?_
  refine x_callV hC hw (lv_size hl) (c_X1_book l G hV hB (show o < 3 by omega)) gX2_book_X1_book rfl dv_X1_book hV.1 rfl rfl (Nat.le_of_ble_eq_true rfl) (by rw [hRf]; decide) (by rw [hRl]; decide) (by omega) (by omega) dX2_book_4 (fun r9 M_1 H locs hq hw => ?_)
  obtain ⟨rfl, hM9⟩ := hq
  rw [hM9] at hw
  show W p l e R s m args below meth c H locs _ _ _ (F0 m 7 ls [.ref b])
  exact x_aret hC hw (by first | exact Or.inl ⟨_, rfl⟩ | exact Or.inr ⟨_, rfl⟩) (Or.inr ⟨_, rfl⟩) dX2_book_7 (by omega) (by omega) ⟨rfl, rfl⟩
set_option maxHeartbeats 4000000 in
set_option maxRecDepth 100000 in
theorem c_X2_isBroken (l : Launch) (G : xG) {M : HM} {b k v o : Nat} {no t kc : Int32} {sz : Int} {fk fv : Nat → Int32} {y : Nat} {lo up sw ew : Int32} {li ui : Int} {w : Nat} {ps t0 kc0 : Int32} {cd : Int} (hW : Wk M w y ps t0 kc0 cd) (hV : Vw M y b lo up sw ew li ui) (hB : Bk G M b k v no (iN ((o : Nat) : Int)) t kc sz fk fv) (ho : o < 3) : xMet l G yX2_isBroken wsX2_isBroken 2 40 0 0 [.ref w] M (fun r M1 => ∃ z : Int, r = some (.int (iN z)) ∧ M1 = M ∧ (z = 0 ∨ z = 1)) := by
  refine x_intro (cc := cX2_isBroken) (maxL := 1) (ret := (some .boolean)) (by decide +kernel) rfl (Nat.le_of_ble_eq_true rfl) ?_
  intro p e R s m args below meth c ls hRf hRc hRs hRl hC hw hl
  obtain ⟨-, -, -, -, hs0, hs1⟩ := id hB
  have hli := hV.2.1
  have hui := hV.2.2
  have hcd := hW.2
  have hinX2 : ∀ w ∈ wsX20, w ∈ wsX2_isBroken := by decide +kernel
  have hl : lv_has ls 1 [(0, .ref w)] := hl
  refine lv_aload_n hC.1 hC.2.1 dX2_isBroken_0 rfl (lv_at hl 0 rfl) ?_
  refine x_getR hC hw hW.1 rfl hinX2 4 (by decide) (by decide +kernel) rfl dX2_isBroken_1 ?_
  have hrr_1 := iN_rng kc0
  refine lv_aload_n hC.1 hC.2.1 dX2_isBroken_4 rfl (lv_at hl 0 rfl) ?_
  refine x_callV hC hw (lv_size hl) (c_X2_book l G hW hV hB (show o < 3 by omega)) gX2_isBroken_X2_book rfl dv_X2_book hW.1 rfl rfl (Nat.le_of_ble_eq_true rfl) (by rw [hRf]; decide) (by rw [hRl]; decide) (by omega) (by omega) dX2_isBroken_5 (fun r9 M_2 H locs hq hw => ?_)
  obtain ⟨rfl, hM9⟩ := hq
  rw [hM9] at hw
  show W p l e R s m args below meth c H locs _ _ _ (F0 m 8 ls [.ref b, .int (iN (kc0.toInt))])
  refine x_callV hC hw (lv_size hl) (c_X0_keyChanges l G hB (show o < 3 by omega)) gX2_isBroken_X0_keyChanges rfl dv_X0_keyChanges hB.1 rfl rfl (Nat.le_of_ble_eq_true rfl) (by rw [hRf]; decide) (by rw [hRl]; decide) (by omega) (by omega) dX2_isBroken_8 (fun r9 M_3 H locs hq hw => ?_)
  obtain ⟨rfl, hM9⟩ := hq
  rw [hM9] at hw
  have hrr_4 := iN_rng kc
  show W p l e R s m args below meth c H locs _ _ _ (F0 m 11 ls [.int (iN (kc.toInt)), .int (iN (kc0.toInt))])
  refine x_icmp_eq (tgt := 18) hC ⟨by omega, by omega⟩ ⟨by omega, by omega⟩ dX2_isBroken_11 (by decide) (fun c_5 => ?_) (fun c_5 => ?_)
  · refine x_const hC dX2_isBroken_18 ?_
    exact x_zret hC hw (by omega) dX2_isBroken_19 (by omega) (by omega) ⟨0, rfl, rfl, by omega⟩
  · refine x_const hC dX2_isBroken_14 ?_
    refine lv_goto (tgt := 19) hC.1 hC.2.1 dX2_isBroken_15 (by decide) ?_
    exact x_zret hC hw (by omega) dX2_isBroken_19 (by omega) (by omega) ⟨1, rfl, rfl, by omega⟩
set_option maxHeartbeats 4000000 in
set_option maxRecDepth 100000 in
theorem c_X2_canDrop (l : Launch) (G : xG) {M : HM} {b k v o : Nat} {no t kc : Int32} {sz : Int} {fk fv : Nat → Int32} {y : Nat} {lo up sw ew : Int32} {li ui : Int} {w : Nat} {ps t0 kc0 : Int32} {cd : Int} (hW : Wk M w y ps t0 kc0 cd) (hV : Vw M y b lo up sw ew li ui) (hB : Bk G M b k v no (iN ((o : Nat) : Int)) t kc sz fk fv) (ho : o < 3) : xMet l G yX2_canDrop wsX2_canDrop 0 0 0 0 [.ref w] M (fun r M1 => r = some (.int (iN (cd))) ∧ M1 = M) := by
  refine x_intro (cc := cX2_canDrop) (maxL := 1) (ret := (some .boolean)) (by decide +kernel) rfl (Nat.le_of_ble_eq_true rfl) ?_
  intro p e R s m args below meth c ls hRf hRc hRs hRl hC hw hl
  obtain ⟨-, -, -, -, hs0, hs1⟩ := id hB
  have hli := hV.2.1
  have hui := hV.2.2
  have hcd := hW.2
  have hinX2 : ∀ w ∈ wsX20, w ∈ wsX2_canDrop := by decide +kernel
  have hl : lv_has ls 1 [(0, .ref w)] := hl
  refine lv_aload_n hC.1 hC.2.1 dX2_canDrop_0 rfl (lv_at hl 0 rfl) ?_
  refine x_get hC hw hW.1 rfl hinX2 2 (by decide) (by decide +kernel) rfl dX2_canDrop_1 ?_
  exact x_zret hC hw (by omega) dX2_canDrop_4 (by omega) (by omega) ⟨rfl, rfl⟩
set_option maxHeartbeats 4000000 in
set_option maxRecDepth 100000 in
theorem c_X2_keyAtHand (l : Launch) (G : xG) {M : HM} {b k v o : Nat} {no t kc : Int32} {sz : Int} {fk fv : Nat → Int32} {y : Nat} {lo up sw ew : Int32} {li ui : Int} {w : Nat} {ps t0 kc0 : Int32} {cd : Int} (hW : Wk M w y ps t0 kc0 cd) (hV : Vw M y b lo up sw ew li ui) (hB : Bk G M b k v no (iN ((o : Nat) : Int)) t kc sz fk fv) (ho : o < 3) : xMet l G yX2_keyAtHand wsX2_keyAtHand 2 40 0 0 [.ref w] M (fun r M1 => ∃ z : Int, r = some (.int (iN z)) ∧ M1 = M ∧ (-2147483648 ≤ z ∧ z ≤ 2147483647)) := by
  refine x_intro (cc := cX2_keyAtHand) (maxL := 1) (ret := (some .int)) (by decide +kernel) rfl (Nat.le_of_ble_eq_true rfl) ?_
  intro p e R s m args below meth c ls hRf hRc hRs hRl hC hw hl
  obtain ⟨-, -, -, -, hs0, hs1⟩ := id hB
  have hli := hV.2.1
  have hui := hV.2.2
  have hcd := hW.2
  have hinX2 : ∀ w ∈ wsX20, w ∈ wsX2_keyAtHand := by decide +kernel
  have hl : lv_has ls 1 [(0, .ref w)] := hl
  refine lv_aload_n hC.1 hC.2.1 dX2_keyAtHand_0 rfl (lv_at hl 0 rfl) ?_
  refine x_get hC hw hW.1 rfl hinX2 2 (by decide) (by decide +kernel) rfl dX2_keyAtHand_1 ?_
  refine x_if_eq (tgt := 28) hC ⟨by omega, by omega⟩ dX2_keyAtHand_4 (by decide) (fun c_1 => ?_) (fun c_1 => ?_)
  · refine x_sipush hC dX2_keyAtHand_28 (by decide +kernel) ?_
    exact x_iret hC hw dX2_keyAtHand_31 (by omega) (by omega) ⟨(-10000), rfl, rfl, by omega⟩
  · refine lv_aload_n hC.1 hC.2.1 dX2_keyAtHand_7 rfl (lv_at hl 0 rfl) ?_
    refine x_getR hC hw hW.1 rfl hinX2 3 (by decide) (by decide +kernel) rfl dX2_keyAtHand_8 ?_
    have hrr_2 := iN_rng t0
    refine lv_aload_n hC.1 hC.2.1 dX2_keyAtHand_11 rfl (lv_at hl 0 rfl) ?_
    refine x_callV hC hw (lv_size hl) (c_X2_book l G hW hV hB (show o < 3 by omega)) gX2_keyAtHand_X2_book rfl dv_X2_book hW.1 rfl rfl (Nat.le_of_ble_eq_true rfl) (by rw [hRf]; decide) (by rw [hRl]; decide) (by omega) (by omega) dX2_keyAtHand_12 (fun r9 M_3 H locs hq hw => ?_)
    obtain ⟨rfl, hM9⟩ := hq
    rw [hM9] at hw
    show W p l e R s m args below meth c H locs _ _ _ (F0 m 15 ls [.ref b, .int (iN (t0.toInt))])
    refine x_callV hC hw (lv_size hl) (c_X0_touches l G hB (show o < 3 by omega)) gX2_keyAtHand_X0_touches rfl dv_X0_touches hB.1 rfl rfl (Nat.le_of_ble_eq_true rfl) (by rw [hRf]; decide) (by rw [hRl]; decide) (by omega) (by omega) dX2_keyAtHand_15 (fun r9 M_4 H locs hq hw => ?_)
    obtain ⟨rfl, hM9⟩ := hq
    rw [hM9] at hw
    have hrr_5 := iN_rng t
    show W p l e R s m args below meth c H locs _ _ _ (F0 m 18 ls [.int (iN (t.toInt)), .int (iN (t0.toInt))])
    refine x_icmp_ne (tgt := 28) hC ⟨by omega, by omega⟩ ⟨by omega, by omega⟩ dX2_keyAtHand_18 (by decide) (fun c_6 => ?_) (fun c_6 => ?_)
    · refine x_sipush hC dX2_keyAtHand_28 (by decide +kernel) ?_
      exact x_iret hC hw dX2_keyAtHand_31 (by omega) (by omega) ⟨(-10000), rfl, rfl, by omega⟩
    · refine lv_aload_n hC.1 hC.2.1 dX2_keyAtHand_21 rfl (lv_at hl 0 rfl) ?_
      refine x_getR hC hw hW.1 rfl hinX2 1 (by decide) (by decide +kernel) rfl dX2_keyAtHand_22 ?_
      have hrr_7 := iN_rng ps
      refine lv_goto (tgt := 31) hC.1 hC.2.1 dX2_keyAtHand_25 (by decide) ?_
      exact x_iret hC hw dX2_keyAtHand_31 (by omega) (by omega) ⟨ps.toInt, rfl, rfl, by omega⟩
set_option maxHeartbeats 4000000 in
set_option maxRecDepth 100000 in
theorem c_X2_advance (l : Launch) (G : xG) {M : HM} {b k v o : Nat} {no t kc : Int32} {sz : Int} {fk fv : Nat → Int32} {y : Nat} {lo up sw ew : Int32} {li ui : Int} {w : Nat} {ps t0 kc0 : Int32} {cd : Int} (hW : Wk M w y ps t0 kc0 cd) (hV : Vw M y b lo up sw ew li ui) (hB : Bk G M b k v no (iN ((o : Nat) : Int)) t kc sz fk fv) (ho : o < 3) : xMet l G yX2_advance wsX2_advance 3 69 0 0 [.ref w] M (fun r M1 => ∃ z : Int, r = some (.int (iN z)) ∧ (-2147483648 ≤ z ∧ z ≤ 2147483647) ∧ ∃ (t1 kc1 : Int32) (sz1 : Int) (f1 f2 : Nat → Int32) (ps1 t2 kc2 : Int32) (cd1 : Int), Wk M1 w y ps1 t2 kc2 cd1 ∧ Bk G M1 b k v no (iN ((o : Nat) : Int)) t1 kc1 sz1 f1 f2 ∧ ∀ a, a ≠ w → a ≠ b → a ≠ k → a ≠ v → M1 a = M a) := by
  refine x_intro (cc := cX2_advance) (maxL := 2) (ret := (some .int)) (by decide +kernel) rfl (Nat.le_of_ble_eq_true rfl) ?_
  intro p e R s m args below meth c ls hRf hRc hRs hRl hC hw hl
  obtain ⟨-, -, -, -, hs0, hs1⟩ := id hB
  have hli := hV.2.1
  have hui := hV.2.2
  have hcd := hW.2
  have hinX2 : ∀ w ∈ wsX20, w ∈ wsX2_advance := by decide +kernel
  have hl : lv_has ls 2 [(0, .ref w)] := hl
  refine lv_aload_n hC.1 hC.2.1 dX2_advance_0 rfl (lv_at hl 0 rfl) ?_
  refine x_getR hC hw hW.1 rfl hinX2 1 (by decide) (by decide +kernel) rfl dX2_advance_1 ?_
  have hrr_1 := iN_rng ps
  refine x_sipush hC dX2_advance_4 (by decide +kernel) ?_
  refine x_icmp_ne (tgt := 20) hC ⟨by omega, by omega⟩ ⟨by omega, by omega⟩ dX2_advance_7 (by decide) (fun c_2 => ?_) (fun c_2 => ?_)
  · refine lv_aload_n hC.1 hC.2.1 dX2_advance_20 rfl (lv_at hl 0 rfl) ?_
    refine x_callV hC hw (lv_size hl) (c_X2_book l G hW hV hB (show o < 3 by omega)) gX2_advance_X2_book rfl dv_X2_book hW.1 rfl rfl (Nat.le_of_ble_eq_true rfl) (by rw [hRf]; decide) (by rw [hRl]; decide) (by omega) (by omega) dX2_advance_21 (fun r9 M_3 H locs hq hw => ?_)
    obtain ⟨rfl, hM9⟩ := hq
    rw [hM9] at hw
    show W p l e R s m args below meth c H locs _ _ _ (F0 m 24 ls [.ref b])
    refine lv_aload_n hC.1 hC.2.1 dX2_advance_24 rfl (lv_at hl 0 rfl) ?_
    refine x_getR hC hw hW.1 rfl hinX2 1 (by decide) (by decide +kernel) rfl dX2_advance_25 ?_
    have hrr_4 := iN_rng ps
    refine x_callV hC hw (lv_size hl) (c_X0_placeBehind l G hB (show o < 3 by omega) (p0 := ps.toInt) (by omega)) gX2_advance_X0_placeBehind rfl dv_X0_placeBehind hB.1 rfl rfl (Nat.le_of_ble_eq_true rfl) (by rw [hRf]; decide) (by rw [hRl]; decide) (by omega) (by omega) dX2_advance_28 (fun r9 M_5 H locs hq hw => ?_)
    obtain ⟨z_6, rfl, hM9, hz_6a, hz_6b⟩ := hq
    rw [hM9] at hw
    show W p l e R s m args below meth c H locs _ _ _ (F0 m 31 ls [.int (iN (z_6))])
    refine lv_istore_n (lv' := [(1, .int (iN (z_6))), (0, .ref w)]) hC.1 hC.2.1 dX2_advance_31 rfl hl (by decide) rfl (fun ls hl => ?_)
    refine lv_iload_n hC.1 hC.2.1 dX2_advance_32 rfl (lv_at hl 0 rfl) ?_
    refine lv_aload_n hC.1 hC.2.1 dX2_advance_33 rfl (lv_at hl 1 rfl) ?_
    refine x_get hC hw hW.1 rfl hinX2 0 (by decide) (by decide +kernel) rfl dX2_advance_34 ?_
    refine x_callV hC hw (lv_size hl) (c_X1_end l G hV hB (show o < 3 by omega)) gX2_advance_X1_end rfl dv_X1_end hV.1 rfl rfl (Nat.le_of_ble_eq_true rfl) (by rw [hRf]; decide) (by rw [hRl]; decide) (by omega) (by omega) dX2_advance_37 (fun r9 M_7 H locs hq hw => ?_)
    obtain ⟨z_8, rfl, hM9, hz_8a, hz_8b⟩ := hq
    rw [hM9] at hw
    show W p l e R s m args below meth c H locs _ _ _ (F0 m 40 ls [.int (iN (z_8)), .int (iN (z_6))])
    refine x_icmp_lt (tgt := 47) hC ⟨by omega, by omega⟩ ⟨by omega, by omega⟩ dX2_advance_40 (by decide) (fun c_9 => ?_) (fun c_9 => ?_)
    · refine lv_aload_n hC.1 hC.2.1 dX2_advance_47 rfl (lv_at hl 1 rfl) ?_
      refine lv_aload_n hC.1 hC.2.1 dX2_advance_48 rfl (lv_at hl 1 rfl) ?_
      refine x_callV hC hw (lv_size hl) (c_X2_book l G hW hV hB (show o < 3 by omega)) gX2_advance_X2_book rfl dv_X2_book hW.1 rfl rfl (Nat.le_of_ble_eq_true rfl) (by rw [hRf]; decide) (by rw [hRl]; decide) (by omega) (by omega) dX2_advance_49 (fun r9 M_10 H locs hq hw => ?_)
      obtain ⟨rfl, hM9⟩ := hq
      rw [hM9] at hw
      show W p l e R s m args below meth c H locs _ _ _ (F0 m 52 ls [.ref b, .ref w])
      refine lv_iload_n hC.1 hC.2.1 dX2_advance_52 rfl (lv_at hl 0 rfl) ?_
      refine x_callV hC hw (lv_size hl) (c_X0_keyAt l G hB (show o < 3 by omega) (p0 := z_6) (by omega)) gX2_advance_X0_keyAt rfl dv_X0_keyAt hB.1 rfl rfl (Nat.le_of_ble_eq_true rfl) (by rw [hRf]; decide) (by rw [hRl]; decide) (by omega) (by omega) dX2_advance_53 (fun r9 M_11 H locs hq hw => ?_)
      obtain ⟨z_12, rfl, hM9, hz_12, hz_12b⟩ := hq
      rw [hM9] at hw
      show W p l e R s m args below meth c H locs _ _ _ (F0 m 56 ls [.int (iN (z_12)), .ref w])
      refine x_put (fs2 := [.ref y, .int (iN (z_12)), .int (iN (cd)), .int t0, .int kc0]) hC hw hW.1 rfl hinX2 tyX2 tyX2_ok nmX2 1 (by decide) (by decide +kernel) rfl rfl rfl (Nat.le_of_ble_eq_true rfl) rfl dX2_advance_56 (fun H locs hw => ?_)
      obtain ⟨M_13, hM_14⟩ : ∃ z, z = va_up M w (some (.inr (4, [.ref y, .int (iN (z_12)), .int (iN (cd)), .int t0, .int kc0]))) := ⟨_, rfl⟩
      rw [← hM_14] at hw
      have hW_15 : Wk M_13 w y (iN (z_12)) t0 kc0 cd := ⟨by rw [hM_14, va_up_self], by omega⟩
      have sm_16 := xS1.up hM_14
      have h_17 := hB.kept1 sm_16 (by decide) hW.1
      have h_18 : Vw _ y b lo up sw ew li ui := And.intro (x_k1 sm_16 hW.1 (by decide) hV.1) hV.2
      refine lv_aload_n hC.1 hC.2.1 dX2_advance_59 rfl (lv_at hl 1 rfl) ?_
      refine x_const hC dX2_advance_60 ?_
      refine x_put (fs2 := [.ref y, .int (iN (z_12)), .int (iN (1)), .int t0, .int kc0]) hC hw hW_15.1 rfl hinX2 tyX2 tyX2_ok nmX2 2 (by decide) (by decide +kernel) rfl rfl rfl (Nat.le_of_ble_eq_true rfl) rfl dX2_advance_61 (fun H locs hw => ?_)
      obtain ⟨M_19, hM_20⟩ : ∃ z, z = va_up M_13 w (some (.inr (4, [.ref y, .int (iN (z_12)), .int (iN (1)), .int t0, .int kc0]))) := ⟨_, rfl⟩
      rw [← hM_20] at hw
      have hW_21 : Wk M_19 w y (iN (z_12)) t0 kc0 1 := ⟨by rw [hM_20, va_up_self], by omega⟩
      have sm_22 := xS1.up hM_20
      have h_23 := h_17.kept1 sm_22 (by decide) hW_15.1
      have h_24 : Vw _ y b lo up sw ew li ui := And.intro (x_k1 sm_22 hW_15.1 (by decide) h_18.1) h_18.2
      refine lv_aload_n hC.1 hC.2.1 dX2_advance_64 rfl (lv_at hl 1 rfl) ?_
      refine lv_aload_n hC.1 hC.2.1 dX2_advance_65 rfl (lv_at hl 1 rfl) ?_
      refine x_callV hC hw (lv_size hl) (c_X2_book l G hW_21 h_24 h_23 (show o < 3 by omega)) gX2_advance_X2_book rfl dv_X2_book hW_21.1 rfl rfl (Nat.le_of_ble_eq_true rfl) (by rw [hRf]; decide) (by rw [hRl]; decide) (by omega) (by omega) dX2_advance_66 (fun r9 M_25 H locs hq hw => ?_)
      obtain ⟨rfl, hM9⟩ := hq
      rw [hM9] at hw
      show W p l e R s m args below meth c H locs _ _ _ (F0 m 69 ls [.ref b, .ref w])
      refine x_callV hC hw (lv_size hl) (c_X0_touches l G h_23 (show o < 3 by omega)) gX2_advance_X0_touches rfl dv_X0_touches h_23.1 rfl rfl (Nat.le_of_ble_eq_true rfl) (by rw [hRf]; decide) (by rw [hRl]; decide) (by omega) (by omega) dX2_advance_69 (fun r9 M_26 H locs hq hw => ?_)
      obtain ⟨rfl, hM9⟩ := hq
      rw [hM9] at hw
      have hrr_27 := iN_rng t
      show W p l e R s m args below meth c H locs _ _ _ (F0 m 72 ls [.int (iN (t.toInt)), .ref w])
      refine x_put (fs2 := [.ref y, .int (iN (z_12)), .int (iN (1)), .int (iN (t.toInt)), .int kc0]) hC hw hW_21.1 rfl hinX2 tyX2 tyX2_ok nmX2 3 (by decide) (by decide +kernel) rfl rfl rfl (Nat.le_of_ble_eq_true rfl) rfl dX2_advance_72 (fun H locs hw => ?_)
      obtain ⟨M_28, hM_29⟩ : ∃ z, z = va_up M_19 w (some (.inr (4, [.ref y, .int (iN (z_12)), .int (iN (1)), .int (iN (t.toInt)), .int kc0]))) := ⟨_, rfl⟩
      rw [← hM_29] at hw
      have hW_30 : Wk M_28 w y (iN (z_12)) (iN (t.toInt)) kc0 1 := ⟨by rw [hM_29, va_up_self], by omega⟩
      have sm_31 := xS1.up hM_29
      have h_32 := h_23.kept1 sm_31 (by decide) hW_21.1
      have h_33 : Vw _ y b lo up sw ew li ui := And.intro (x_k1 sm_31 hW_21.1 (by decide) h_24.1) h_24.2
      refine lv_aload_n hC.1 hC.2.1 dX2_advance_75 rfl (lv_at hl 1 rfl) ?_
      refine x_getR hC hw hW_30.1 rfl hinX2 1 (by decide) (by decide +kernel) rfl dX2_advance_76 ?_
      have hrr_34 := iN_rng (iN (z_12))
      exact x_iret hC hw dX2_advance_79 (by omega) (by omega) ⟨(iN (z_12)).toInt, rfl, (by omega), _, _, _, _, _, _, _, _, _, hW_30, h_32, fun a q_w q_b q_k q_v => (((sm_31 a q_w).trans (sm_22 a q_w)).trans (sm_16 a q_w))⟩
    · refine x_sipush hC dX2_advance_43 (by decide +kernel) ?_
      exact x_iret hC hw dX2_advance_46 (by omega) (by omega) ⟨(-10000), rfl, (by omega), _, _, _, _, _, _, _, _, _, hW, hB, fun a q_w q_b q_k q_v => rfl⟩
  · refine lv_aload_n hC.1 hC.2.1 dX2_advance_10 rfl (lv_at hl 0 rfl) ?_
    refine x_get hC hw hW.1 rfl hinX2 0 (by decide) (by decide +kernel) rfl dX2_advance_11 ?_
    refine x_callV hC hw (lv_size hl) (c_X1_start l G hV hB (show o < 3 by omega)) gX2_advance_X1_start rfl dv_X1_start hV.1 rfl rfl (Nat.le_of_ble_eq_true rfl) (by rw [hRf]; decide) (by rw [hRl]; decide) (by omega) (by omega) dX2_advance_14 (fun r9 M_35 H locs hq hw => ?_)
    obtain ⟨z_36, rfl, hM9, hz_36a, hz_36b⟩ := hq
    rw [hM9] at hw
    show W p l e R s m args below meth c H locs _ _ _ (F0 m 17 ls [.int (iN (z_36))])
    refine lv_goto (tgt := 31) hC.1 hC.2.1 dX2_advance_17 (by decide) ?_
    refine lv_istore_n (lv' := [(1, .int (iN (z_36))), (0, .ref w)]) hC.1 hC.2.1 dX2_advance_31 rfl hl (by decide) rfl (fun ls hl => ?_)
    refine lv_iload_n hC.1 hC.2.1 dX2_advance_32 rfl (lv_at hl 0 rfl) ?_
    refine lv_aload_n hC.1 hC.2.1 dX2_advance_33 rfl (lv_at hl 1 rfl) ?_
    refine x_get hC hw hW.1 rfl hinX2 0 (by decide) (by decide +kernel) rfl dX2_advance_34 ?_
    refine x_callV hC hw (lv_size hl) (c_X1_end l G hV hB (show o < 3 by omega)) gX2_advance_X1_end rfl dv_X1_end hV.1 rfl rfl (Nat.le_of_ble_eq_true rfl) (by rw [hRf]; decide) (by rw [hRl]; decide) (by omega) (by omega) dX2_advance_37 (fun r9 M_37 H locs hq hw => ?_)
    obtain ⟨z_38, rfl, hM9, hz_38a, hz_38b⟩ := hq
    rw [hM9] at hw
    show W p l e R s m args below meth c H locs _ _ _ (F0 m 40 ls [.int (iN (z_38)), .int (iN (z_36))])
    refine x_icmp_lt (tgt := 47) hC ⟨by omega, by omega⟩ ⟨by omega, by omega⟩ dX2_advance_40 (by decide) (fun c_39 => ?_) (fun c_39 => ?_)
    · refine lv_aload_n hC.1 hC.2.1 dX2_advance_47 rfl (lv_at hl 1 rfl) ?_
      refine lv_aload_n hC.1 hC.2.1 dX2_advance_48 rfl (lv_at hl 1 rfl) ?_
      refine x_callV hC hw (lv_size hl) (c_X2_book l G hW hV hB (show o < 3 by omega)) gX2_advance_X2_book rfl dv_X2_book hW.1 rfl rfl (Nat.le_of_ble_eq_true rfl) (by rw [hRf]; decide) (by rw [hRl]; decide) (by omega) (by omega) dX2_advance_49 (fun r9 M_40 H locs hq hw => ?_)
      obtain ⟨rfl, hM9⟩ := hq
      rw [hM9] at hw
      show W p l e R s m args below meth c H locs _ _ _ (F0 m 52 ls [.ref b, .ref w])
      refine lv_iload_n hC.1 hC.2.1 dX2_advance_52 rfl (lv_at hl 0 rfl) ?_
      refine x_callV hC hw (lv_size hl) (c_X0_keyAt l G hB (show o < 3 by omega) (p0 := z_36) (by omega)) gX2_advance_X0_keyAt rfl dv_X0_keyAt hB.1 rfl rfl (Nat.le_of_ble_eq_true rfl) (by rw [hRf]; decide) (by rw [hRl]; decide) (by omega) (by omega) dX2_advance_53 (fun r9 M_41 H locs hq hw => ?_)
      obtain ⟨z_42, rfl, hM9, hz_42, hz_42b⟩ := hq
      rw [hM9] at hw
      show W p l e R s m args below meth c H locs _ _ _ (F0 m 56 ls [.int (iN (z_42)), .ref w])
      refine x_put (fs2 := [.ref y, .int (iN (z_42)), .int (iN (cd)), .int t0, .int kc0]) hC hw hW.1 rfl hinX2 tyX2 tyX2_ok nmX2 1 (by decide) (by decide +kernel) rfl rfl rfl (Nat.le_of_ble_eq_true rfl) rfl dX2_advance_56 (fun H locs hw => ?_)
      obtain ⟨M_43, hM_44⟩ : ∃ z, z = va_up M w (some (.inr (4, [.ref y, .int (iN (z_42)), .int (iN (cd)), .int t0, .int kc0]))) := ⟨_, rfl⟩
      rw [← hM_44] at hw
      have hW_45 : Wk M_43 w y (iN (z_42)) t0 kc0 cd := ⟨by rw [hM_44, va_up_self], by omega⟩
      have sm_46 := xS1.up hM_44
      have h_47 := hB.kept1 sm_46 (by decide) hW.1
      have h_48 : Vw _ y b lo up sw ew li ui := And.intro (x_k1 sm_46 hW.1 (by decide) hV.1) hV.2
      refine lv_aload_n hC.1 hC.2.1 dX2_advance_59 rfl (lv_at hl 1 rfl) ?_
      refine x_const hC dX2_advance_60 ?_
      refine x_put (fs2 := [.ref y, .int (iN (z_42)), .int (iN (1)), .int t0, .int kc0]) hC hw hW_45.1 rfl hinX2 tyX2 tyX2_ok nmX2 2 (by decide) (by decide +kernel) rfl rfl rfl (Nat.le_of_ble_eq_true rfl) rfl dX2_advance_61 (fun H locs hw => ?_)
      obtain ⟨M_49, hM_50⟩ : ∃ z, z = va_up M_43 w (some (.inr (4, [.ref y, .int (iN (z_42)), .int (iN (1)), .int t0, .int kc0]))) := ⟨_, rfl⟩
      rw [← hM_50] at hw
      have hW_51 : Wk M_49 w y (iN (z_42)) t0 kc0 1 := ⟨by rw [hM_50, va_up_self], by omega⟩
      have sm_52 := xS1.up hM_50
      have h_53 := h_47.kept1 sm_52 (by decide) hW_45.1
      have h_54 : Vw _ y b lo up sw ew li ui := And.intro (x_k1 sm_52 hW_45.1 (by decide) h_48.1) h_48.2
      refine lv_aload_n hC.1 hC.2.1 dX2_advance_64 rfl (lv_at hl 1 rfl) ?_
      refine lv_aload_n hC.1 hC.2.1 dX2_advance_65 rfl (lv_at hl 1 rfl) ?_
      refine x_callV hC hw (lv_size hl) (c_X2_book l G hW_51 h_54 h_53 (show o < 3 by omega)) gX2_advance_X2_book rfl dv_X2_book hW_51.1 rfl rfl (Nat.le_of_ble_eq_true rfl) (by rw [hRf]; decide) (by rw [hRl]; decide) (by omega) (by omega) dX2_advance_66 (fun r9 M_55 H locs hq hw => ?_)
      obtain ⟨rfl, hM9⟩ := hq
      rw [hM9] at hw
      show W p l e R s m args below meth c H locs _ _ _ (F0 m 69 ls [.ref b, .ref w])
      refine x_callV hC hw (lv_size hl) (c_X0_touches l G h_53 (show o < 3 by omega)) gX2_advance_X0_touches rfl dv_X0_touches h_53.1 rfl rfl (Nat.le_of_ble_eq_true rfl) (by rw [hRf]; decide) (by rw [hRl]; decide) (by omega) (by omega) dX2_advance_69 (fun r9 M_56 H locs hq hw => ?_)
      obtain ⟨rfl, hM9⟩ := hq
      rw [hM9] at hw
      have hrr_57 := iN_rng t
      show W p l e R s m args below meth c H locs _ _ _ (F0 m 72 ls [.int (iN (t.toInt)), .ref w])
      refine x_put (fs2 := [.ref y, .int (iN (z_42)), .int (iN (1)), .int (iN (t.toInt)), .int kc0]) hC hw hW_51.1 rfl hinX2 tyX2 tyX2_ok nmX2 3 (by decide) (by decide +kernel) rfl rfl rfl (Nat.le_of_ble_eq_true rfl) rfl dX2_advance_72 (fun H locs hw => ?_)
      obtain ⟨M_58, hM_59⟩ : ∃ z, z = va_up M_49 w (some (.inr (4, [.ref y, .int (iN (z_42)), .int (iN (1)), .int (iN (t.toInt)), .int kc0]))) := ⟨_, rfl⟩
      rw [← hM_59] at hw
      have hW_60 : Wk M_58 w y (iN (z_42)) (iN (t.toInt)) kc0 1 := ⟨by rw [hM_59, va_up_self], by omega⟩
      have sm_61 := xS1.up hM_59
      have h_62 := h_53.kept1 sm_61 (by decide) hW_51.1
      have h_63 : Vw _ y b lo up sw ew li ui := And.intro (x_k1 sm_61 hW_51.1 (by decide) h_54.1) h_54.2
      refine lv_aload_n hC.1 hC.2.1 dX2_advance_75 rfl (lv_at hl 1 rfl) ?_
      refine x_getR hC hw hW_60.1 rfl hinX2 1 (by decide) (by decide +kernel) rfl dX2_advance_76 ?_
      have hrr_64 := iN_rng (iN (z_42))
      exact x_iret hC hw dX2_advance_79 (by omega) (by omega) ⟨(iN (z_42)).toInt, rfl, (by omega), _, _, _, _, _, _, _, _, _, hW_60, h_62, fun a q_w q_b q_k q_v => (((sm_61 a q_w).trans (sm_52 a q_w)).trans (sm_46 a q_w))⟩
    · refine x_sipush hC dX2_advance_43 (by decide +kernel) ?_
      exact x_iret hC hw dX2_advance_46 (by omega) (by omega) ⟨(-10000), rfl, (by omega), _, _, _, _, _, _, _, _, _, hW, hB, fun a q_w q_b q_k q_v => rfl⟩
set_option maxHeartbeats 4000000 in
set_option maxRecDepth 100000 in
theorem c_X2_dropLastStep (l : Launch) (G : xG) {M : HM} {b k v o : Nat} {no t kc : Int32} {sz : Int} {fk fv : Nat → Int32} {y : Nat} {lo up sw ew : Int32} {li ui : Int} {w : Nat} {ps t0 kc0 : Int32} {cd : Int} (hW : Wk M w y ps t0 kc0 cd) (hV : Vw M y b lo up sw ew li ui) (hB : Bk G M b k v no (iN ((o : Nat) : Int)) t kc sz fk fv) (ho : o < 3) : xMet l G yX2_dropLastStep wsX2_dropLastStep 4 92 0 0 [.ref w] M (fun r M1 => r = none ∧ ∃ (t1 kc1 : Int32) (sz1 : Int) (f1 f2 : Nat → Int32) (ps1 t2 kc2 : Int32) (cd1 : Int), Wk M1 w y ps1 t2 kc2 cd1 ∧ Bk G M1 b k v no (iN ((o : Nat) : Int)) t1 kc1 sz1 f1 f2 ∧ ∀ a, a ≠ w → a ≠ b → a ≠ k → a ≠ v → M1 a = M a) := by
  refine x_intro (cc := cX2_dropLastStep) (maxL := 1) (ret := none) (by decide +kernel) rfl (Nat.le_of_ble_eq_true rfl) ?_
  intro p e R s m args below meth c ls hRf hRc hRs hRl hC hw hl
  obtain ⟨-, -, -, -, hs0, hs1⟩ := id hB
  have hli := hV.2.1
  have hui := hV.2.2
  have hcd := hW.2
  have hinX2 : ∀ w ∈ wsX20, w ∈ wsX2_dropLastStep := by decide +kernel
  have hl : lv_has ls 1 [(0, .ref w)] := hl
  refine lv_aload_n hC.1 hC.2.1 dX2_dropLastStep_0 rfl (lv_at hl 0 rfl) ?_
  refine x_callV hC hw (lv_size hl) (c_X2_book l G hW hV hB (show o < 3 by omega)) gX2_dropLastStep_X2_book rfl dv_X2_book hW.1 rfl rfl (Nat.le_of_ble_eq_true rfl) (by rw [hRf]; decide) (by rw [hRl]; decide) (by omega) (by omega) dX2_dropLastStep_1 (fun r9 M_1 H locs hq hw => ?_)
  obtain ⟨rfl, hM9⟩ := hq
  rw [hM9] at hw
  show W p l e R s m args below meth c H locs _ _ _ (F0 m 4 ls [.ref b])
  refine lv_aload_n hC.1 hC.2.1 dX2_dropLastStep_4 rfl (lv_at hl 0 rfl) ?_
  refine x_getR hC hw hW.1 rfl hinX2 1 (by decide) (by decide +kernel) rfl dX2_dropLastStep_5 ?_
  have hrr_2 := iN_rng ps
  refine x_callV hC hw (lv_size hl) (c_X0_removeKey l G hB (show o < 3 by omega) (p0 := ps.toInt) (by omega)) gX2_dropLastStep_X0_removeKey rfl dv_X0_removeKey hB.1 rfl rfl (Nat.le_of_ble_eq_true rfl) (by rw [hRf]; decide) (by rw [hRl]; decide) (by omega) (by omega) dX2_dropLastStep_8 (fun r9 M_3 H locs hq hw => ?_)
  obtain ⟨z_5, rfl, hz_5, tu_4, kcu_4, szu_4, fku_4, fvu_4, hBu_4, smu_4⟩ := hq
  obtain ⟨-, -, -, -, hsau_4, hsbu_4⟩ := id hBu_4
  have sm_6 := (xSm.rf (M := M) (b := b) (k := k) (v := v)).tr (smu_4)
  have h_7 : Vw _ y b lo up sw ew li ui := And.intro (x_kB hB smu_4 (by decide) hV.1) hV.2
  have h_8 : Wk _ w y ps t0 kc0 cd := And.intro (x_kB hB smu_4 (by decide) hW.1) hW.2
  show W p l e R s m args below meth c H locs _ _ _ (F0 m 11 ls [.int (iN (z_5))])
  refine lv_pop hC.1 hC.2.1 dX2_dropLastStep_11 rfl ?_
  refine lv_aload_n hC.1 hC.2.1 dX2_dropLastStep_12 rfl (lv_at hl 0 rfl) ?_
  refine x_const hC dX2_dropLastStep_13 ?_
  refine x_put (fs2 := [.ref y, .int ps, .int (iN (0)), .int t0, .int kc0]) hC hw h_8.1 rfl hinX2 tyX2 tyX2_ok nmX2 2 (by decide) (by decide +kernel) rfl rfl rfl (Nat.le_of_ble_eq_true rfl) rfl dX2_dropLastStep_14 (fun H locs hw => ?_)
  obtain ⟨M_9, hM_10⟩ : ∃ z, z = va_up M_3 w (some (.inr (4, [.ref y, .int ps, .int (iN (0)), .int t0, .int kc0]))) := ⟨_, rfl⟩
  rw [← hM_10] at hw
  have hW_11 : Wk M_9 w y ps t0 kc0 0 := ⟨by rw [hM_10, va_up_self], by omega⟩
  have sm_12 := xS1.up hM_10
  have h_13 := hBu_4.kept1 sm_12 (by decide) h_8.1
  have h_14 : Vw _ y b lo up sw ew li ui := And.intro (x_k1 sm_12 h_8.1 (by decide) h_7.1) h_7.2
  refine lv_aload_n hC.1 hC.2.1 dX2_dropLastStep_17 rfl (lv_at hl 0 rfl) ?_
  refine lv_aload_n hC.1 hC.2.1 dX2_dropLastStep_18 rfl (lv_at hl 0 rfl) ?_
  refine x_callV hC hw (lv_size hl) (c_X2_book l G hW_11 h_14 h_13 (show o < 3 by omega)) gX2_dropLastStep_X2_book rfl dv_X2_book hW_11.1 rfl rfl (Nat.le_of_ble_eq_true rfl) (by rw [hRf]; decide) (by rw [hRl]; decide) (by omega) (by omega) dX2_dropLastStep_19 (fun r9 M_15 H locs hq hw => ?_)
  obtain ⟨rfl, hM9⟩ := hq
  rw [hM9] at hw
  show W p l e R s m args below meth c H locs _ _ _ (F0 m 22 ls [.ref b, .ref w])
  refine x_callV hC hw (lv_size hl) (c_X0_keyChanges l G h_13 (show o < 3 by omega)) gX2_dropLastStep_X0_keyChanges rfl dv_X0_keyChanges h_13.1 rfl rfl (Nat.le_of_ble_eq_true rfl) (by rw [hRf]; decide) (by rw [hRl]; decide) (by omega) (by omega) dX2_dropLastStep_22 (fun r9 M_16 H locs hq hw => ?_)
  obtain ⟨rfl, hM9⟩ := hq
  rw [hM9] at hw
  have hrr_17 := iN_rng kcu_4
  show W p l e R s m args below meth c H locs _ _ _ (F0 m 25 ls [.int (iN (kcu_4.toInt)), .ref w])
  refine x_put (fs2 := [.ref y, .int ps, .int (iN (0)), .int t0, .int (iN (kcu_4.toInt))]) hC hw hW_11.1 rfl hinX2 tyX2 tyX2_ok nmX2 4 (by decide) (by decide +kernel) rfl rfl rfl (Nat.le_of_ble_eq_true rfl) rfl dX2_dropLastStep_25 (fun H locs hw => ?_)
  obtain ⟨M_18, hM_19⟩ : ∃ z, z = va_up M_9 w (some (.inr (4, [.ref y, .int ps, .int (iN (0)), .int t0, .int (iN (kcu_4.toInt))]))) := ⟨_, rfl⟩
  rw [← hM_19] at hw
  have hW_20 : Wk M_18 w y ps t0 (iN (kcu_4.toInt)) 0 := ⟨by rw [hM_19, va_up_self], by omega⟩
  have sm_21 := xS1.up hM_19
  have h_22 := h_13.kept1 sm_21 (by decide) hW_11.1
  have h_23 : Vw _ y b lo up sw ew li ui := And.intro (x_k1 sm_21 hW_11.1 (by decide) h_14.1) h_14.2
  exact x_vret hC hw dX2_dropLastStep_28 (by omega) (by omega) ⟨rfl, _, _, _, _, _, _, _, _, _, hW_20, h_22, fun a q_w q_b q_k q_v => (((sm_21 a q_w).trans (sm_12 a q_w)).trans (smu_4 a q_b q_k q_v))⟩
