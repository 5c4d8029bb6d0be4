/-! the methods of a view and of a walk, by program -/
theorem dv_X1_end : yX1_end.cls = RX1 ∧ yX1_end.cls ≠ "java/lang/invoke/MethodHandle" ∧ yX1_end.cls ≠ "java/lang/invoke/VarHandle" ∧ (parseMethodDescriptor yX1_end.desc).map (fun d => d.parameters.length) = some 0 := ⟨rfl, nmh_RX1.1, nmh_RX1.2, pds_4⟩
theorem dv_X1_start : yX1_start.cls = RX1 ∧ yX1_start.cls ≠ "java/lang/invoke/MethodHandle" ∧ yX1_start.cls ≠ "java/lang/invoke/VarHandle" ∧ (parseMethodDescriptor yX1_start.desc).map (fun d => d.parameters.length) = some 0 := ⟨rfl, nmh_RX1.1, nmh_RX1.2, pds_4⟩
theorem dv_X1_isWithin : yX1_isWithin.cls = RX1 ∧ yX1_isWithin.cls ≠ "java/lang/invoke/MethodHandle" ∧ yX1_isWithin.cls ≠ "java/lang/invoke/VarHandle" ∧ (parseMethodDescriptor yX1_isWithin.desc).map (fun d => d.parameters.length) = some 1 := ⟨rfl, nmh_RX1.1, nmh_RX1.2, pds_1⟩
theorem dv_X1_book : yX1_book.cls = RX1 ∧ yX1_book.cls ≠ "java/lang/invoke/MethodHandle" ∧ yX1_book.cls ≠ "java/lang/invoke/VarHandle" ∧ (parseMethodDescriptor yX1_book.desc).map (fun d => d.parameters.length) = some 0 := ⟨rfl, nmh_RX1.1, nmh_RX1.2, pds_8⟩
theorem dv_X2_book : yX2_book.cls = RX2 ∧ yX2_book.cls ≠ "java/lang/invoke/MethodHandle" ∧ yX2_book.cls ≠ "java/lang/invoke/VarHandle" ∧ (parseMethodDescriptor yX2_book.desc).map (fun d => d.parameters.length) = some 0 := ⟨rfl, nmh_RX2.1, nmh_RX2.2, pds_8⟩
theorem dv_X0_keyChanges : yX0_keyChanges.cls = RX0 ∧ yX0_keyChanges.cls ≠ "java/lang/invoke/MethodHandle" ∧ yX0_keyChanges.cls ≠ "java/lang/invoke/VarHandle" ∧ (parseMethodDescriptor yX0_keyChanges.desc).map (fun d => d.parameters.length) = some 0 := ⟨rfl, nmh_RX0.1, nmh_RX0.2, pds_4⟩
theorem dv_X0_touches : yX0_touches.cls = RX0 ∧ yX0_touches.cls ≠ "java/lang/invoke/MethodHandle" ∧ yX0_touches.cls ≠ "java/lang/invoke/VarHandle" ∧ (parseMethodDescriptor yX0_touches.desc).map (fun d => d.parameters.length) = some 0 := ⟨rfl, nmh_RX0.1, nmh_RX0.2, pds_4⟩
set_option maxHeartbeats 4000000 in
set_option maxRecDepth 100000 in
theorem c_X1_book (l : Launch) (G : xG) {M : HM} {b : Nat} {y : Nat} {lo up sw ew : Int32} {li ui : Int} (hv9 : Vw M y b lo up sw ew li ui) : xMet l G yX1_book wsX1_book 0 0 0 0 [.ref y] M (fun r M1 => r = some (.ref b) ∧ M1 = M) := by
  refine x_intro (cc := cX1_book) (maxL := 1) (ret := (some (.object "Rangeledger$Book"))) (by exact pln_RX1) rfl (Nat.le_of_ble_eq_true rfl) ?_
  intro p e R s m args below meth c ls hRf hRc hRs hRl hC hw hl
  have hli := hv9.2.1
  have hui := hv9.2.2
  have hinX1 : ∀ w ∈ wsX10, w ∈ wsX1_book := fun w h => (List.mem_cons_of_mem _ (List.mem_append_right _ h))
  have hl : lv_has ls 1 [(0, .ref y)] := hl
  refine lv_aload_n hC.1 hC.2.1 dX1_book_0 rfl (lv_at hl 0 rfl) ?_
  refine x_get hC hw hv9.1 rfl hinX1 0 (by decide) (List.mem_cons_of_mem _ (List.mem_append_left _ (List.mem_of_getElem? (i := 0) rfl))) rfl dX1_book_1 ?_
  exact x_aret hC hw (by first | exact Or.inl ⟨_, rfl⟩ | exact Or.inr ⟨_, rfl⟩) (Or.inr ⟨_, rfl⟩) dX1_book_4 (by omega) (by omega) ⟨rfl, rfl⟩
set_option maxHeartbeats 4000000 in
set_option maxRecDepth 100000 in
theorem c_X1_lowerBound (l : Launch) (G : xG) {M : HM} {b : Nat} {y : Nat} {lo up sw ew : Int32} {li ui : Int} (hv9 : Vw M y b lo up sw ew li ui) : xMet l G yX1_lowerBound wsX1_lowerBound 0 0 0 0 [.ref y] M (fun r M1 => r = some (.int (iN (lo.toInt))) ∧ M1 = M) := by
  refine x_intro (cc := cX1_lowerBound) (maxL := 1) (ret := (some .int)) (by exact pln_RX1) rfl (Nat.le_of_ble_eq_true rfl) ?_
  intro p e R s m args below meth c ls hRf hRc hRs hRl hC hw hl
  have hli := hv9.2.1
  have hui := hv9.2.2
  have hinX1 : ∀ w ∈ wsX10, w ∈ wsX1_lowerBound := fun w h => (List.mem_cons_of_mem _ (List.mem_append_right _ h))
  have hl : lv_has ls 1 [(0, .ref y)] := hl
  refine lv_aload_n hC.1 hC.2.1 dX1_lowerBound_0 rfl (lv_at hl 0 rfl) ?_
  refine x_getR hC hw hv9.1 rfl hinX1 1 (by decide) (List.mem_cons_of_mem _ (List.mem_append_left _ (List.mem_of_getElem? (i := 0) rfl))) rfl dX1_lowerBound_1 ?_
  have hrr_1 := iN_rng lo
  exact x_iret hC hw dX1_lowerBound_4 (by omega) (by omega) ⟨rfl, rfl⟩
set_option maxHeartbeats 4000000 in
set_option maxRecDepth 100000 in
theorem c_X1_upperBound (l : Launch) (G : xG) {M : HM} {b : Nat} {y : Nat} {lo up sw ew : Int32} {li ui : Int} (hv9 : Vw M y b lo up sw ew li ui) : xMet l G yX1_upperBound wsX1_upperBound 0 0 0 0 [.ref y] M (fun r M1 => r = some (.int (iN (up.toInt))) ∧ M1 = M) := by
  refine x_intro (cc := cX1_upperBound) (maxL := 1) (ret := (some .int)) (by exact pln_RX1) rfl (Nat.le_of_ble_eq_true rfl) ?_
  intro p e R s m args below meth c ls hRf hRc hRs hRl hC hw hl
  have hli := hv9.2.1
  have hui := hv9.2.2
  have hinX1 : ∀ w ∈ wsX10, w ∈ wsX1_upperBound := fun w h => (List.mem_cons_of_mem _ (List.mem_append_right _ h))
  have hl : lv_has ls 1 [(0, .ref y)] := hl
  refine lv_aload_n hC.1 hC.2.1 dX1_upperBound_0 rfl (lv_at hl 0 rfl) ?_
  refine x_getR hC hw hv9.1 rfl hinX1 2 (by decide) (List.mem_cons_of_mem _ (List.mem_append_left _ (List.mem_of_getElem? (i := 0) rfl))) rfl dX1_upperBound_1 ?_
  have hrr_1 := iN_rng up
  exact x_iret hC hw dX1_upperBound_4 (by omega) (by omega) ⟨rfl, rfl⟩
set_option maxHeartbeats 4000000 in
set_option maxRecDepth 100000 in
theorem c_X1_isLowerIn (l : Launch) (G : xG) {M : HM} {b : Nat} {y : Nat} {lo up sw ew : Int32} {li ui : Int} (hv9 : Vw M y b lo up sw ew li ui) : xMet l G yX1_isLowerIn wsX1_isLowerIn 0 0 0 0 [.ref y] M (fun r M1 => r = some (.int (iN (li))) ∧ M1 = M) := by
  refine x_intro (cc := cX1_isLowerIn) (maxL := 1) (ret := (some .boolean)) (by exact pln_RX1) rfl (Nat.le_of_ble_eq_true rfl) ?_
  intro p e R s m args below meth c ls hRf hRc hRs hRl hC hw hl
  have hli := hv9.2.1
  have hui := hv9.2.2
  have hinX1 : ∀ w ∈ wsX10, w ∈ wsX1_isLowerIn := fun w h => (List.mem_cons_of_mem _ (List.mem_append_right _ h))
  have hl : lv_has ls 1 [(0, .ref y)] := hl
  refine lv_aload_n hC.1 hC.2.1 dX1_isLowerIn_0 rfl (lv_at hl 0 rfl) ?_
  refine x_get hC hw hv9.1 rfl hinX1 3 (by decide) (List.mem_cons_of_mem _ (List.mem_append_left _ (List.mem_of_getElem? (i := 0) rfl))) rfl dX1_isLowerIn_1 ?_
  exact x_zret hC hw (by omega) dX1_isLowerIn_4 (by omega) (by omega) ⟨rfl, rfl⟩
set_option maxHeartbeats 4000000 in
set_option maxRecDepth 100000 in
theorem c_X1_isUpperIn (l : Launch) (G : xG) {M : HM} {b : Nat} {y : Nat} {lo up sw ew : Int32} {li ui : Int} (hv9 : Vw M y b lo up sw ew li ui) : xMet l G yX1_isUpperIn wsX1_isUpperIn 0 0 0 0 [.ref y] M (fun r M1 => r = some (.int (iN (ui))) ∧ M1 = M) := by
  refine x_intro (cc := cX1_isUpperIn) (maxL := 1) (ret := (some .boolean)) (by exact pln_RX1) rfl (Nat.le_of_ble_eq_true rfl) ?_
  intro p e R s m args below meth c ls hRf hRc hRs hRl hC hw hl
  have hli := hv9.2.1
  have hui := hv9.2.2
  have hinX1 : ∀ w ∈ wsX10, w ∈ wsX1_isUpperIn := fun w h => (List.mem_cons_of_mem _ (List.mem_append_right _ h))
  have hl : lv_has ls 1 [(0, .ref y)] := hl
  refine lv_aload_n hC.1 hC.2.1 dX1_isUpperIn_0 rfl (lv_at hl 0 rfl) ?_
  refine x_get hC hw hv9.1 rfl hinX1 4 (by decide) (List.mem_cons_of_mem _ (List.mem_append_left _ (List.mem_of_getElem? (i := 0) rfl))) rfl dX1_isUpperIn_1 ?_
  exact x_zret hC hw (by omega) dX1_isUpperIn_4 (by omega) (by omega) ⟨rfl, rfl⟩
set_option maxHeartbeats 4000000 in
set_option maxRecDepth 100000 in
theorem c_X1_start (l : Launch) (G : xG) {M : HM} {b k v : Nat} {no : Int32} {t kc sz : Int} {fk fv : Nat → Int32} {O : OW} {V : BW} {t9 : VT} {y : Nat} (ht9 : t9.ok) (hv9 : Vw M y b (iN t9.lo) (iN t9.up) (iN (swN (O t9.b) t9.lo t9.li)) (iN (ewN (O t9.b) t9.lo t9.li t9.up t9.ui)) t9.li t9.ui) (hB : Bk G M b k v no (iN ((O t9.b : Nat) : Int)) (iN (t)) (iN (kc)) sz fk fv) (ho : O t9.b < 3) (hV : BV (O t9.b) (V t9.b) sz.toNat fk fv) (htt : 0 ≤ t ∧ t ≤ 1000000) (hkk : 0 ≤ kc ∧ kc ≤ 999000) : xMet l G yX1_start wsX1_start 2 48 0 0 [.ref y] M (fun r M1 => ∃ z : Int, r = some (.int (iN z)) ∧ M1 = M ∧ 0 ≤ z ∧ z ≤ sz ∧ plW (O t9.b) sz.toNat fk (swN (O t9.b) t9.lo t9.li) z.toNat) := by
  refine x_intro (cc := cX1_start) (maxL := 1) (ret := (some .int)) (by exact pln_RX1) rfl (Nat.le_of_ble_eq_true rfl) ?_
  intro p e R s m args below meth c ls hRf hRc hRs hRl hC hw hl
  obtain ⟨-, -, -, -, hs0, hs1⟩ := id hB
  have hli := hv9.2.1
  have hui := hv9.2.2
  have hrs9 := swN_rng ho ht9
  have hre9 := ewN_rng ho ht9
  have hse9 := sw_le_ew (O t9.b) t9
  have hrs8 : (iN (swN (O t9.b) t9.lo t9.li)).toInt = swN (O t9.b) t9.lo t9.li := iN_toInt ⟨by omega, by omega⟩
  have hre8 : (iN (ewN (O t9.b) t9.lo t9.li t9.up t9.ui)).toInt = ewN (O t9.b) t9.lo t9.li t9.up t9.ui := iN_toInt ⟨by omega, by omega⟩
  have hinX1 : ∀ w ∈ wsX10, w ∈ wsX1_start := fun w h => (List.mem_cons_of_mem _ (List.mem_append_left _ (List.mem_append_right _ h)))
  have hl : lv_has ls 1 [(0, .ref y)] := hl
  refine lv_aload_n hC.1 hC.2.1 dX1_start_0 rfl (lv_at hl 0 rfl) ?_
  refine x_get hC hw hv9.1 rfl hinX1 0 (by decide) (List.mem_cons_of_mem _ (List.mem_append_left _ (List.mem_append_left _ (List.mem_of_getElem? (i := 0) rfl)))) rfl dX1_start_1 ?_
  refine lv_aload_n hC.1 hC.2.1 dX1_start_4 rfl (lv_at hl 0 rfl) ?_
  refine x_getR hC hw hv9.1 rfl hinX1 5 (by decide) (List.mem_cons_of_mem _ (List.mem_append_left _ (List.mem_append_left _ (List.mem_of_getElem? (i := 1) rfl)))) rfl dX1_start_5 ?_
  have hrr_1 := iN_rng (iN (swN (O t9.b) t9.lo t9.li))
  refine x_callV hC hw (lv_size hl) (c_X0_placeOfWeight l G hB (show (O t9.b) < 3 by omega) hV (by omega) (by omega) (p0 := ((iN (swN (O t9.b) t9.lo t9.li)).toInt)) (by omega)) gX1_start_X0_placeOfWeight rfl dv_X0_placeOfWeight hB.1 rfl rfl (Nat.le_of_ble_eq_true rfl) (by rw [hRf]; decide) (by rw [hRl]; decide) (by omega) (by omega) dX1_start_8 (fun r9 M_2 H locs hq hw => ?_)
  obtain ⟨z_3, rfl, hM9, hz_3a, hz_3b, hz_3p⟩ := hq
  rw [hM9] at hw
  show W p l e R s m args below meth c H locs _ _ _ (F0 m 11 ls [.int (iN (z_3))])
  exact x_iret hC hw dX1_start_11 (by omega) (by omega) ⟨z_3, rfl, rfl, by omega, by omega, by have e9 := hz_3p; rw [hrs8] at e9; exact e9⟩
set_option maxHeartbeats 4000000 in
set_option maxRecDepth 100000 in
theorem c_X1_end (l : Launch) (G : xG) {M : HM} {b k v : Nat} {no : Int32} {t kc sz : Int} {fk fv : Nat → Int32} {O : OW} {V : BW} {t9 : VT} {y : Nat} (ht9 : t9.ok) (hv9 : Vw M y b (iN t9.lo) (iN t9.up) (iN (swN (O t9.b) t9.lo t9.li)) (iN (ewN (O t9.b) t9.lo t9.li t9.up t9.ui)) t9.li t9.ui) (hB : Bk G M b k v no (iN ((O t9.b : Nat) : Int)) (iN (t)) (iN (kc)) sz fk fv) (ho : O t9.b < 3) (hV : BV (O t9.b) (V t9.b) sz.toNat fk fv) (htt : 0 ≤ t ∧ t ≤ 1000000) (hkk : 0 ≤ kc ∧ kc ≤ 999000) : xMet l G yX1_end wsX1_end 2 48 0 0 [.ref y] M (fun r M1 => ∃ z : Int, r = some (.int (iN z)) ∧ M1 = M ∧ 0 ≤ z ∧ z ≤ sz ∧ plW (O t9.b) sz.toNat fk (ewN (O t9.b) t9.lo t9.li t9.up t9.ui) z.toNat) := by
  refine x_intro (cc := cX1_end) (maxL := 1) (ret := (some .int)) (by exact pln_RX1) rfl (Nat.le_of_ble_eq_true rfl) ?_
  intro p e R s m args below meth c ls hRf hRc hRs hRl hC hw hl
  obtain ⟨-, -, -, -, hs0, hs1⟩ := id hB
  have hli := hv9.2.1
  have hui := hv9.2.2
  have hrs9 := swN_rng ho ht9
  have hre9 := ewN_rng ho ht9
  have hse9 := sw_le_ew (O t9.b) t9
  have hrs8 : (iN (swN (O t9.b) t9.lo t9.li)).toInt = swN (O t9.b) t9.lo t9.li := iN_toInt ⟨by omega, by omega⟩
  have hre8 : (iN (ewN (O t9.b) t9.lo t9.li t9.up t9.ui)).toInt = ewN (O t9.b) t9.lo t9.li t9.up t9.ui := iN_toInt ⟨by omega, by omega⟩
  have hinX1 : ∀ w ∈ wsX10, w ∈ wsX1_end := fun w h => (List.mem_cons_of_mem _ (List.mem_append_left _ (List.mem_append_right _ h)))
  have hl : lv_has ls 1 [(0, .ref y)] := hl
  refine lv_aload_n hC.1 hC.2.1 dX1_end_0 rfl (lv_at hl 0 rfl) ?_
  refine x_get hC hw hv9.1 rfl hinX1 0 (by decide) (List.mem_cons_of_mem _ (List.mem_append_left _ (List.mem_append_left _ (List.mem_of_getElem? (i := 0) rfl)))) rfl dX1_end_1 ?_
  refine lv_aload_n hC.1 hC.2.1 dX1_end_4 rfl (lv_at hl 0 rfl) ?_
  refine x_getR hC hw hv9.1 rfl hinX1 6 (by decide) (List.mem_cons_of_mem _ (List.mem_append_left _ (List.mem_append_left _ (List.mem_of_getElem? (i := 1) rfl)))) rfl dX1_end_5 ?_
  have hrr_1 := iN_rng (iN (ewN (O t9.b) t9.lo t9.li t9.up t9.ui))
  refine x_callV hC hw (lv_size hl) (c_X0_placeOfWeight l G hB (show (O t9.b) < 3 by omega) hV (by omega) (by omega) (p0 := ((iN (ewN (O t9.b) t9.lo t9.li t9.up t9.ui)).toInt)) (by omega)) gX1_end_X0_placeOfWeight rfl dv_X0_placeOfWeight hB.1 rfl rfl (Nat.le_of_ble_eq_true rfl) (by rw [hRf]; decide) (by rw [hRl]; decide) (by omega) (by omega) dX1_end_8 (fun r9 M_2 H locs hq hw => ?_)
  obtain ⟨z_3, rfl, hM9, hz_3a, hz_3b, hz_3p⟩ := hq
  rw [hM9] at hw
  show W p l e R s m args below meth c H locs _ _ _ (F0 m 11 ls [.int (iN (z_3))])
  exact x_iret hC hw dX1_end_11 (by omega) (by omega) ⟨z_3, rfl, rfl, by omega, by omega, by have e9 := hz_3p; rw [hre8] at e9; exact e9⟩
set_option maxHeartbeats 4000000 in
set_option maxRecDepth 100000 in
theorem c_X1_size (l : Launch) (G : xG) {M : HM} {b k v : Nat} {no : Int32} {t kc sz : Int} {fk fv : Nat → Int32} {O : OW} {V : BW} {t9 : VT} {y : Nat} (ht9 : t9.ok) (hv9 : Vw M y b (iN t9.lo) (iN t9.up) (iN (swN (O t9.b) t9.lo t9.li)) (iN (ewN (O t9.b) t9.lo t9.li t9.up t9.ui)) t9.li t9.ui) (hB : Bk G M b k v no (iN ((O t9.b : Nat) : Int)) (iN (t)) (iN (kc)) sz fk fv) (ho : O t9.b < 3) (hV : BV (O t9.b) (V t9.b) sz.toNat fk fv) (htt : 0 ≤ t ∧ t ≤ 1000000) (hkk : 0 ≤ kc ∧ kc ≤ 999000) : xMet l G yX1_size wsX1_size 3 68 0 0 [.ref y] M (fun r M1 => ∃ z : Int, r = some (.int (iN z)) ∧ M1 = M ∧ (0 ≤ z ∧ z ≤ 100) ∧ z = mnF O V t9 100) := by
  refine x_intro (cc := cX1_size) (maxL := 1) (ret := (some .int)) (by exact pln_RX1) rfl (Nat.le_of_ble_eq_true rfl) ?_
  intro p e R s m args below meth c ls hRf hRc hRs hRl hC hw hl
  obtain ⟨-, -, -, -, hs0, hs1⟩ := id hB
  have hli := hv9.2.1
  have hui := hv9.2.2
  have hrs9 := swN_rng ho ht9
  have hre9 := ewN_rng ho ht9
  have hse9 := sw_le_ew (O t9.b) t9
  have hrs8 : (iN (swN (O t9.b) t9.lo t9.li)).toInt = swN (O t9.b) t9.lo t9.li := iN_toInt ⟨by omega, by omega⟩
  have hre8 : (iN (ewN (O t9.b) t9.lo t9.li t9.up t9.ui)).toInt = ewN (O t9.b) t9.lo t9.li t9.up t9.ui := iN_toInt ⟨by omega, by omega⟩
  have hl : lv_has ls 1 [(0, .ref y)] := hl
  refine lv_aload_n hC.1 hC.2.1 dX1_size_0 rfl (lv_at hl 0 rfl) ?_
  refine x_callV hC hw (lv_size hl) (c_X1_end l G ht9 hv9 hB (show (O t9.b) < 3 by omega) hV (by omega) (by omega) (O := O) (V := V) (t9 := t9)) gX1_size_X1_end rfl dv_X1_end hv9.1 rfl rfl (Nat.le_of_ble_eq_true rfl) (by rw [hRf]; decide) (by rw [hRl]; decide) (by omega) (by omega) dX1_size_1 (fun r9 M_1 H locs hq hw => ?_)
  obtain ⟨z_2, rfl, hM9, hz_2a, hz_2b, hz_2p⟩ := hq
  rw [hM9] at hw
  show W p l e R s m args below meth c H locs _ _ _ (F0 m 4 ls [.int (iN (z_2))])
  refine lv_aload_n hC.1 hC.2.1 dX1_size_4 rfl (lv_at hl 0 rfl) ?_
  refine x_callV hC hw (lv_size hl) (c_X1_start l G ht9 hv9 hB (show (O t9.b) < 3 by omega) hV (by omega) (by omega) (O := O) (V := V) (t9 := t9)) gX1_size_X1_start rfl dv_X1_start hv9.1 rfl rfl (Nat.le_of_ble_eq_true rfl) (by rw [hRf]; decide) (by rw [hRl]; decide) (by omega) (by omega) dX1_size_5 (fun r9 M_3 H locs hq hw => ?_)
  obtain ⟨z_4, rfl, hM9, hz_4a, hz_4b, hz_4p⟩ := hq
  rw [hM9] at hw
  show W p l e R s m args below meth c H locs _ _ _ (F0 m 8 ls [.int (iN (z_4)), .int (iN (z_2))])
  refine x_isub hC dX1_size_8 ?_
  exact x_iret hC hw dX1_size_9 (by omega) (by omega) ⟨z_2 - z_4, rfl, rfl, (by have e9 := pl_mono hz_4p hz_2p hse9; omega), mnP ho ht9 hV hz_4p hz_2p (by omega) (by have e9 := pl_mono hz_4p hz_2p hse9; omega)⟩
set_option maxHeartbeats 4000000 in
set_option maxRecDepth 100000 in
theorem c_X1_isWithin (l : Launch) (G : xG) {M : HM} {b k v : Nat} {no : Int32} {t kc sz : Int} {fk fv : Nat → Int32} {O : OW} {V : BW} {t9 : VT} {y : Nat} (ht9 : t9.ok) (hv9 : Vw M y b (iN t9.lo) (iN t9.up) (iN (swN (O t9.b) t9.lo t9.li)) (iN (ewN (O t9.b) t9.lo t9.li t9.up t9.ui)) t9.li t9.ui) (hB : Bk G M b k v no (iN ((O t9.b : Nat) : Int)) (iN (t)) (iN (kc)) sz fk fv) (ho : O t9.b < 3) (hV : BV (O t9.b) (V t9.b) sz.toNat fk fv) (htt : 0 ≤ t ∧ t ≤ 1000000) (hkk : 0 ≤ kc ∧ kc ≤ 999000) {p0 : Int} (hp0 : -2147483648 ≤ p0 ∧ p0 ≤ 2147483647) (hok : 0 ≤ p0 ∧ p0 ≤ 99) : xMet l G yX1_isWithin wsX1_isWithin 1 23 0 0 [.ref y, .int (iN (p0))] M (fun r M1 => ∃ z : Int, r = some (.int (iN z)) ∧ M1 = M ∧ (z = 0 ∨ z = 1) ∧ (z = 1 ↔ inM (O t9.b) t9 p0.toNat)) := by
  refine x_intro (cc := cX1_isWithin) (maxL := 3) (ret := (some .boolean)) (by exact pln_RX1) rfl (Nat.le_of_ble_eq_true rfl) ?_
  intro p e R s m args below meth c ls hRf hRc hRs hRl hC hw hl
  obtain ⟨-, -, -, -, hs0, hs1⟩ := id hB
  have hli := hv9.2.1
  have hui := hv9.2.2
  have hrs9 := swN_rng ho ht9
  have hre9 := ewN_rng ho ht9
  have hse9 := sw_le_ew (O t9.b) t9
  have hrs8 : (iN (swN (O t9.b) t9.lo t9.li)).toInt = swN (O t9.b) t9.lo t9.li := iN_toInt ⟨by omega, by omega⟩
  have hre8 : (iN (ewN (O t9.b) t9.lo t9.li t9.up t9.ui)).toInt = ewN (O t9.b) t9.lo t9.li t9.up t9.ui := iN_toInt ⟨by omega, by omega⟩
  have hinX1 : ∀ w ∈ wsX10, w ∈ wsX1_isWithin := fun w h => (List.mem_cons_of_mem _ (List.mem_append_left _ (List.mem_append_right _ h)))
  have hl : lv_has ls 3 [(0, .ref y), (1, .int (iN (p0)))] := hl
  refine lv_aload_n hC.1 hC.2.1 dX1_isWithin_0 rfl (lv_at hl 0 rfl) ?_
  refine x_get hC hw hv9.1 rfl hinX1 0 (by decide) (List.mem_cons_of_mem _ (List.mem_append_left _ (List.mem_append_left _ (List.mem_of_getElem? (i := 0) rfl)))) rfl dX1_isWithin_1 ?_
  refine lv_iload_n hC.1 hC.2.1 dX1_isWithin_4 rfl (lv_at hl 1 rfl) ?_
  refine x_callV hC hw (lv_size hl) (c_X0_weight l G hB (show (O t9.b) < 3 by omega) hV (by omega) (by omega) (p0 := p0) (by omega)) gX1_isWithin_X0_weight rfl dv_X0_weight hB.1 rfl rfl (Nat.le_of_ble_eq_true rfl) (by rw [hRf]; decide) (by rw [hRl]; decide) (by omega) (by omega) dX1_isWithin_5 (fun r9 M_1 H locs hq hw => ?_)
  obtain ⟨z_2, rfl, hM9, hz_2, hz_2w⟩ := hq
  rw [hM9] at hw
  show W p l e R s m args below meth c H locs _ _ _ (F0 m 8 ls [.int (iN (z_2))])
  refine lv_istore_n (lv' := [(2, .int (iN (z_2))), (0, .ref y), (1, .int (iN (p0)))]) hC.1 hC.2.1 dX1_isWithin_8 rfl hl (by decide) rfl (fun ls hl => ?_)
  refine lv_iload_n hC.1 hC.2.1 dX1_isWithin_9 rfl (lv_at hl 0 rfl) ?_
  refine lv_aload_n hC.1 hC.2.1 dX1_isWithin_10 rfl (lv_at hl 1 rfl) ?_
  refine x_getR hC hw hv9.1 rfl hinX1 5 (by decide) (List.mem_cons_of_mem _ (List.mem_append_left _ (List.mem_append_left _ (List.mem_of_getElem? (i := 1) rfl)))) rfl dX1_isWithin_11 ?_
  have hrr_3 := iN_rng (iN (swN (O t9.b) t9.lo t9.li))
  refine x_icmp_lt (tgt := 29) hC ⟨by omega, by omega⟩ ⟨by omega, by omega⟩ dX1_isWithin_14 (by decide) (fun c_4 => ?_) (fun c_4 => ?_)
  · refine x_const hC dX1_isWithin_29 ?_
    exact x_zret hC hw (by omega) dX1_isWithin_30 (by omega) (by omega) ⟨0, rfl, rfl, by omega, by rw [← in_eq ho ht9 (show p0.toNat < 100 by omega)]; have e9 := hz_2w (by omega); unfold inC; omega⟩
  · refine lv_iload_n hC.1 hC.2.1 dX1_isWithin_17 rfl (lv_at hl 0 rfl) ?_
    refine lv_aload_n hC.1 hC.2.1 dX1_isWithin_18 rfl (lv_at hl 1 rfl) ?_
    refine x_getR hC hw hv9.1 rfl hinX1 6 (by decide) (List.mem_cons_of_mem _ (List.mem_append_left _ (List.mem_append_left _ (List.mem_of_getElem? (i := 2) rfl)))) rfl dX1_isWithin_19 ?_
    have hrr_5 := iN_rng (iN (ewN (O t9.b) t9.lo t9.li t9.up t9.ui))
    refine x_icmp_ge (tgt := 29) hC ⟨by omega, by omega⟩ ⟨by omega, by omega⟩ dX1_isWithin_22 (by decide) (fun c_6 => ?_) (fun c_6 => ?_)
    · refine x_const hC dX1_isWithin_29 ?_
      exact x_zret hC hw (by omega) dX1_isWithin_30 (by omega) (by omega) ⟨0, rfl, rfl, by omega, by rw [← in_eq ho ht9 (show p0.toNat < 100 by omega)]; have e9 := hz_2w (by omega); unfold inC; omega⟩
    · refine x_const hC dX1_isWithin_25 ?_
      refine lv_goto (tgt := 30) hC.1 hC.2.1 dX1_isWithin_26 (by decide) ?_
      exact x_zret hC hw (by omega) dX1_isWithin_30 (by omega) (by omega) ⟨1, rfl, rfl, by omega, by rw [← in_eq ho ht9 (show p0.toNat < 100 by omega)]; have e9 := hz_2w (by omega); unfold inC; omega⟩
set_option maxHeartbeats 4000000 in
set_option maxRecDepth 100000 in
theorem c_X1_isSoundView (l : Launch) (G : xG) {M : HM} {b k v : Nat} {no : Int32} {t kc sz : Int} {fk fv : Nat → Int32} {O : OW} {V : BW} {t9 : VT} {y : Nat} (ht9 : t9.ok) (hv9 : Vw M y b (iN t9.lo) (iN t9.up) (iN (swN (O t9.b) t9.lo t9.li)) (iN (ewN (O t9.b) t9.lo t9.li t9.up t9.ui)) t9.li t9.ui) (hB : Bk G M b k v no (iN ((O t9.b : Nat) : Int)) (iN (t)) (iN (kc)) sz fk fv) (ho : O t9.b < 3) (hV : BV (O t9.b) (V t9.b) sz.toNat fk fv) (htt : 0 ≤ t ∧ t ≤ 1000000) (hkk : 0 ≤ kc ∧ kc ≤ 999000) : xMet l G yX1_isSoundView wsX1_isSoundView 3 68 0 0 [.ref y] M (fun r M1 => ∃ z : Int, r = some (.int (iN z)) ∧ M1 = M ∧ z = 1) := by
  refine x_intro (cc := cX1_isSoundView) (maxL := 5) (ret := (some .boolean)) (by exact pln_RX1) rfl (Nat.le_of_ble_eq_true rfl) ?_
  intro p e R s m args below meth c ls hRf hRc hRs hRl hC hw hl
  obtain ⟨-, -, -, -, hs0, hs1⟩ := id hB
  have hli := hv9.2.1
  have hui := hv9.2.2
  have hrs9 := swN_rng ho ht9
  have hre9 := ewN_rng ho ht9
  have hse9 := sw_le_ew (O t9.b) t9
  have hrs8 : (iN (swN (O t9.b) t9.lo t9.li)).toInt = swN (O t9.b) t9.lo t9.li := iN_toInt ⟨by omega, by omega⟩
  have hre8 : (iN (ewN (O t9.b) t9.lo t9.li t9.up t9.ui)).toInt = ewN (O t9.b) t9.lo t9.li t9.up t9.ui := iN_toInt ⟨by omega, by omega⟩
  have hinX1 : ∀ w ∈ wsX10, w ∈ wsX1_isSoundView := fun w h => (List.mem_cons_of_mem _ (List.mem_append_left _ (List.mem_append_right _ h)))
  have hl : lv_has ls 5 [(0, .ref y)] := hl
  refine lv_aload_n hC.1 hC.2.1 dX1_isSoundView_0 rfl (lv_at hl 0 rfl) ?_
  refine x_callV hC hw (lv_size hl) (c_X1_start l G ht9 hv9 hB (show (O t9.b) < 3 by omega) hV (by omega) (by omega) (O := O) (V := V) (t9 := t9)) gX1_isSoundView_X1_start rfl dv_X1_start hv9.1 rfl rfl (Nat.le_of_ble_eq_true rfl) (by rw [hRf]; decide) (by rw [hRl]; decide) (by omega) (by omega) dX1_isSoundView_1 (fun r9 M_1 H locs hq hw => ?_)
  obtain ⟨z_2, rfl, hM9, hz_2a, hz_2b, hz_2p⟩ := hq
  rw [hM9] at hw
  show W p l e R s m args below meth c H locs _ _ _ (F0 m 4 ls [.int (iN (z_2))])
  refine lv_istore_n (lv' := [(1, .int (iN (z_2))), (0, .ref y)]) hC.1 hC.2.1 dX1_isSoundView_4 rfl hl (by decide) rfl (fun ls hl => ?_)
  refine lv_aload_n hC.1 hC.2.1 dX1_isSoundView_5 rfl (lv_at hl 1 rfl) ?_
  refine x_callV hC hw (lv_size hl) (c_X1_end l G ht9 hv9 hB (show (O t9.b) < 3 by omega) hV (by omega) (by omega) (O := O) (V := V) (t9 := t9)) gX1_isSoundView_X1_end rfl dv_X1_end hv9.1 rfl rfl (Nat.le_of_ble_eq_true rfl) (by rw [hRf]; decide) (by rw [hRl]; decide) (by omega) (by omega) dX1_isSoundView_6 (fun r9 M_3 H locs hq hw => ?_)
  obtain ⟨z_4, rfl, hM9, hz_4a, hz_4b, hz_4p⟩ := hq
  rw [hM9] at hw
  show W p l e R s m args below meth c H locs _ _ _ (F0 m 9 ls [.int (iN (z_4))])
  refine lv_istore_n (lv' := [(2, .int (iN (z_4))), (1, .int (iN (z_2))), (0, .ref y)]) hC.1 hC.2.1 dX1_isSoundView_9 rfl hl (by decide) rfl (fun ls hl => ?_)
  refine x_const hC dX1_isSoundView_10 ?_
  refine lv_istore_n (lv' := [(3, .int (iN (0))), (2, .int (iN (z_4))), (1, .int (iN (z_2))), (0, .ref y)]) hC.1 hC.2.1 dX1_isSoundView_11 rfl hl (by decide) rfl (fun ls hl => ?_)
  suffices hloop12 : ∀ (n9 : Nat) (st : Int) (en : Int) (pl : Int) (H : Heap) (locs : List Loc) (ls : Array Slot), (hmu : (sz - pl).toNat < n9) → (hi0 : 0 ≤ st ∧ st ≤ 100) → (hi1 : 0 ≤ en ∧ en ≤ 100) → (hi2 : 0 ≤ pl) → (hi3 : pl ≤ sz) → (hst : plW (O t9.b) sz.toNat fk (swN (O t9.b) t9.lo t9.li) st.toNat) → (hen : plW (O t9.b) sz.toNat fk (ewN (O t9.b) t9.lo t9.li t9.up t9.ui) en.toNat) → xD G (xA M s.heap.size) s M H locs → lv_has ls 5 [(0, .ref y), (1, .int (iN (st))), (2, .int (iN (en))), (3, .int (iN (pl)))] → W p l e R s m args below meth c H locs _ _ _ (F0 m 12 ls []) by
    exact hloop12 _ z_2 z_4 0  _ _ _ (Nat.lt_succ_self _) (by omega) (by omega) (by omega) (by omega) (hz_2p) (hz_4p) hw (lv_sub hl [3, 2, 1, 0] rfl)
  intro n9
  induction n9 with
  | zero => intro st en pl  H locs ls hmu; exact absurd hmu (Nat.not_lt_zero _)
  | succ n9 ih12 =>
    intro st en pl  H locs ls hmu hi0 hi1 hi2 hi3 hst hen hw hl
    refine lv_iload_n hC.1 hC.2.1 dX1_isSoundView_12 rfl (lv_at hl 3 rfl) ?_
    refine lv_aload_n hC.1 hC.2.1 dX1_isSoundView_13 rfl (lv_at hl 0 rfl) ?_
    refine x_get hC hw hv9.1 rfl hinX1 0 (by decide) (List.mem_cons_of_mem _ (List.mem_append_left _ (List.mem_append_left _ (List.mem_append_left _ (List.mem_of_getElem? (i := 0) rfl))))) rfl dX1_isSoundView_14 ?_
    refine x_callV hC hw (lv_size hl) (c_X0_size l G hB (show (O t9.b) < 3 by omega) hV (by omega) (by omega)) gX1_isSoundView_X0_size rfl dv_X0_size hB.1 rfl rfl (Nat.le_of_ble_eq_true rfl) (by rw [hRf]; decide) (by rw [hRl]; decide) (by omega) (by omega) dX1_isSoundView_17 (fun r9 M_5 H locs hq hw => ?_)
    obtain ⟨rfl, hM9⟩ := hq
    rw [hM9] at hw
    show W p l e R s m args below meth c H locs _ _ _ (F0 m 20 ls [.int (iN (sz)), .int (iN (pl))])
    refine x_icmp_ge (tgt := 65) hC ⟨by omega, by omega⟩ ⟨by omega, by omega⟩ dX1_isSoundView_20 (by decide) (fun c_6 => ?_) (fun c_6 => ?_)
    · refine x_const hC dX1_isSoundView_65 ?_
      exact x_zret hC hw (by omega) dX1_isSoundView_66 (by omega) (by omega) ⟨1, rfl, rfl, rfl⟩
    · refine lv_iload_n hC.1 hC.2.1 dX1_isSoundView_23 rfl (lv_at hl 3 rfl) ?_
      refine lv_iload_n hC.1 hC.2.1 dX1_isSoundView_24 rfl (lv_at hl 1 rfl) ?_
      refine x_icmp_lt (tgt := 37) hC ⟨by omega, by omega⟩ ⟨by omega, by omega⟩ dX1_isSoundView_25 (by decide) (fun c_7 => ?_) (fun c_7 => ?_)
      · refine x_const hC dX1_isSoundView_37 ?_
        refine lv_istore (lv' := [(4, .int (iN (0))), (0, .ref y), (1, .int (iN (st))), (2, .int (iN (en))), (3, .int (iN (pl)))]) hC.1 hC.2.1 dX1_isSoundView_38 hl (by decide) rfl (fun ls hl => ?_)
        refine lv_aload_n hC.1 hC.2.1 dX1_isSoundView_40 rfl (lv_at hl 1 rfl) ?_
        refine lv_aload_n hC.1 hC.2.1 dX1_isSoundView_41 rfl (lv_at hl 1 rfl) ?_
        refine x_get hC hw hv9.1 rfl hinX1 0 (by decide) (List.mem_cons_of_mem _ (List.mem_append_left _ (List.mem_append_left _ (List.mem_append_left _ (List.mem_of_getElem? (i := 0) rfl))))) rfl dX1_isSoundView_42 ?_
        refine lv_iload_n hC.1 hC.2.1 dX1_isSoundView_45 rfl (lv_at hl 4 rfl) ?_
        refine x_callV hC hw (lv_size hl) (c_X0_keyAt l G hB (show (O t9.b) < 3 by omega) hV (by omega) (by omega) (p0 := pl) (by omega)) gX1_isSoundView_X0_keyAt rfl dv_X0_keyAt hB.1 rfl rfl (Nat.le_of_ble_eq_true rfl) (by rw [hRf]; decide) (by rw [hRl]; decide) (by omega) (by omega) dX1_isSoundView_46 (fun r9 M_8 H locs hq hw => ?_)
        obtain ⟨z_9, rfl, hM9, hz_9, hz_9b, hz_9k⟩ := hq
        rw [hM9] at hw
        show W p l e R s m args below meth c H locs _ _ _ (F0 m 49 ls [.int (iN (z_9)), .ref y])
        refine x_callV hC hw (lv_size hl) (c_X1_isWithin l G ht9 hv9 hB (show (O t9.b) < 3 by omega) hV (by omega) (by omega) (O := O) (V := V) (t9 := t9) (p0 := z_9) (by omega) (by omega)) gX1_isSoundView_X1_isWithin rfl dv_X1_isWithin hv9.1 rfl rfl (Nat.le_of_ble_eq_true rfl) (by rw [hRf]; decide) (by rw [hRl]; decide) (by omega) (by omega) dX1_isSoundView_49 (fun r9 M_10 H locs hq hw => ?_)
        obtain ⟨z_11, rfl, hM9, hz_11, hz_11w⟩ := hq
        rw [hM9] at hw
        show W p l e R s m args below meth c H locs _ _ _ (F0 m 52 ls [.int (iN (z_11))])
        refine lv_iload hC.1 hC.2.1 dX1_isSoundView_52 (lv_at hl 0 rfl) ?_
        refine x_icmp_eq (tgt := 59) hC ⟨by omega, by omega⟩ ⟨by omega, by omega⟩ dX1_isSoundView_54 (by decide) (fun c_12 => ?_) (fun c_12 => ?_)
        · refine x_iinc (lv' := [(3, .int (iN (pl + 1))), (4, .int (iN (0))), (0, .ref y), (1, .int (iN (st))), (2, .int (iN (en)))]) hC dX1_isSoundView_59 hl (k := 4) rfl (by decide) rfl (fun ls hl => ?_)
          refine lv_goto (tgt := 12) hC.1 hC.2.1 dX1_isSoundView_62 (by decide) ?_
          exact ih12 st en (pl + 1)  _ _ _ (by omega) (by omega) (by omega) (by omega) (by omega) (hst) (hen) hw (lv_sub hl [2, 3, 4, 0] rfl)
        · refine x_const hC dX1_isSoundView_57 ?_
          exact x_zret hC hw (by omega) dX1_isSoundView_58 (by omega) (by omega) (by exfalso; have e9 := hz_11w; rw [show (z_9).toNat = kN fk (pl).toNat from (kNz (by omega)).symm] at e9; have e8 := shP ho ht9 hV hst hen (by omega) (by omega) (show (pl).toNat < sz.toNat by omega); rw [shM_iff] at e8; have e7 := (hV.v (p := (pl).toNat) (by omega)).2; by_cases c9 : inM (O t9.b) t9 (kN fk (pl).toNat); (· have e6 := e8.mpr ⟨e7, c9⟩; have e5 := e9.mpr c9; omega); (· have e6 : ¬ (st ≤ ((pl).toNat : Int) ∧ ((pl).toNat : Int) < en) := fun h9 => c9 (e8.mp h9).2; have e5 : ¬ z_11 = 1 := fun h9 => c9 (e9.mp h9); omega))
      · refine lv_iload_n hC.1 hC.2.1 dX1_isSoundView_28 rfl (lv_at hl 3 rfl) ?_
        refine lv_iload_n hC.1 hC.2.1 dX1_isSoundView_29 rfl (lv_at hl 2 rfl) ?_
        refine x_icmp_ge (tgt := 37) hC ⟨by omega, by omega⟩ ⟨by omega, by omega⟩ dX1_isSoundView_30 (by decide) (fun c_13 => ?_) (fun c_13 => ?_)
        · refine x_const hC dX1_isSoundView_37 ?_
          refine lv_istore (lv' := [(4, .int (iN (0))), (0, .ref y), (1, .int (iN (st))), (2, .int (iN (en))), (3, .int (iN (pl)))]) hC.1 hC.2.1 dX1_isSoundView_38 hl (by decide) rfl (fun ls hl => ?_)
          refine lv_aload_n hC.1 hC.2.1 dX1_isSoundView_40 rfl (lv_at hl 1 rfl) ?_
          refine lv_aload_n hC.1 hC.2.1 dX1_isSoundView_41 rfl (lv_at hl 1 rfl) ?_
          refine x_get hC hw hv9.1 rfl hinX1 0 (by decide) (List.mem_cons_of_mem _ (List.mem_append_left _ (List.mem_append_left _ (List.mem_append_left _ (List.mem_of_getElem? (i := 0) rfl))))) rfl dX1_isSoundView_42 ?_
          refine lv_iload_n hC.1 hC.2.1 dX1_isSoundView_45 rfl (lv_at hl 4 rfl) ?_
          refine x_callV hC hw (lv_size hl) (c_X0_keyAt l G hB (show (O t9.b) < 3 by omega) hV (by omega) (by omega) (p0 := pl) (by omega)) gX1_isSoundView_X0_keyAt rfl dv_X0_keyAt hB.1 rfl rfl (Nat.le_of_ble_eq_true rfl) (by rw [hRf]; decide) (by rw [hRl]; decide) (by omega) (by omega) dX1_isSoundView_46 (fun r9 M_14 H locs hq hw => ?_)
          obtain ⟨z_15, rfl, hM9, hz_15, hz_15b, hz_15k⟩ := hq
          rw [hM9] at hw
          show W p l e R s m args below meth c H locs _ _ _ (F0 m 49 ls [.int (iN (z_15)), .ref y])
          refine x_callV hC hw (lv_size hl) (c_X1_isWithin l G ht9 hv9 hB (show (O t9.b) < 3 by omega) hV (by omega) (by omega) (O := O) (V := V) (t9 := t9) (p0 := z_15) (by omega) (by omega)) gX1_isSoundView_X1_isWithin rfl dv_X1_isWithin hv9.1 rfl rfl (Nat.le_of_ble_eq_true rfl) (by rw [hRf]; decide) (by rw [hRl]; decide) (by omega) (by omega) dX1_isSoundView_49 (fun r9 M_16 H locs hq hw => ?_)
          obtain ⟨z_17, rfl, hM9, hz_17, hz_17w⟩ := hq
          rw [hM9] at hw
          show W p l e R s m args below meth c H locs _ _ _ (F0 m 52 ls [.int (iN (z_17))])
          refine lv_iload hC.1 hC.2.1 dX1_isSoundView_52 (lv_at hl 0 rfl) ?_
          refine x_icmp_eq (tgt := 59) hC ⟨by omega, by omega⟩ ⟨by omega, by omega⟩ dX1_isSoundView_54 (by decide) (fun c_18 => ?_) (fun c_18 => ?_)
          · refine x_iinc (lv' := [(3, .int (iN (pl + 1))), (4, .int (iN (0))), (0, .ref y), (1, .int (iN (st))), (2, .int (iN (en)))]) hC dX1_isSoundView_59 hl (k := 4) rfl (by decide) rfl (fun ls hl => ?_)
            refine lv_goto (tgt := 12) hC.1 hC.2.1 dX1_isSoundView_62 (by decide) ?_
            exact ih12 st en (pl + 1)  _ _ _ (by omega) (by omega) (by omega) (by omega) (by omega) (hst) (hen) hw (lv_sub hl [2, 3, 4, 0] rfl)
          · refine x_const hC dX1_isSoundView_57 ?_
            exact x_zret hC hw (by omega) dX1_isSoundView_58 (by omega) (by omega) (by exfalso; have e9 := hz_17w; rw [show (z_15).toNat = kN fk (pl).toNat from (kNz (by omega)).symm] at e9; have e8 := shP ho ht9 hV hst hen (by omega) (by omega) (show (pl).toNat < sz.toNat by omega); rw [shM_iff] at e8; have e7 := (hV.v (p := (pl).toNat) (by omega)).2; by_cases c9 : inM (O t9.b) t9 (kN fk (pl).toNat); (· have e6 := e8.mpr ⟨e7, c9⟩; have e5 := e9.mpr c9; omega); (· have e6 : ¬ (st ≤ ((pl).toNat : Int) ∧ ((pl).toNat : Int) < en) := fun h9 => c9 (e8.mp h9).2; have e5 : ¬ z_17 = 1 := fun h9 => c9 (e9.mp h9); omega))
        · refine x_const hC dX1_isSoundView_33 ?_
          refine lv_goto (tgt := 38) hC.1 hC.2.1 dX1_isSoundView_34 (by decide) ?_
          refine lv_istore (lv' := [(4, .int (iN (1))), (0, .ref y), (1, .int (iN (st))), (2, .int (iN (en))), (3, .int (iN (pl)))]) hC.1 hC.2.1 dX1_isSoundView_38 hl (by decide) rfl (fun ls hl => ?_)
          refine lv_aload_n hC.1 hC.2.1 dX1_isSoundView_40 rfl (lv_at hl 1 rfl) ?_
          refine lv_aload_n hC.1 hC.2.1 dX1_isSoundView_41 rfl (lv_at hl 1 rfl) ?_
          refine x_get hC hw hv9.1 rfl hinX1 0 (by decide) (List.mem_cons_of_mem _ (List.mem_append_left _ (List.mem_append_left _ (List.mem_append_left _ (List.mem_of_getElem? (i := 0) rfl))))) rfl dX1_isSoundView_42 ?_
          refine lv_iload_n hC.1 hC.2.1 dX1_isSoundView_45 rfl (lv_at hl 4 rfl) ?_
          refine x_callV hC hw (lv_size hl) (c_X0_keyAt l G hB (show (O t9.b) < 3 by omega) hV (by omega) (by omega) (p0 := pl) (by omega)) gX1_isSoundView_X0_keyAt rfl dv_X0_keyAt hB.1 rfl rfl (Nat.le_of_ble_eq_true rfl) (by rw [hRf]; decide) (by rw [hRl]; decide) (by omega) (by omega) dX1_isSoundView_46 (fun r9 M_19 H locs hq hw => ?_)
          obtain ⟨z_20, rfl, hM9, hz_20, hz_20b, hz_20k⟩ := hq
          rw [hM9] at hw
          show W p l e R s m args below meth c H locs _ _ _ (F0 m 49 ls [.int (iN (z_20)), .ref y])
          refine x_callV hC hw (lv_size hl) (c_X1_isWithin l G ht9 hv9 hB (show (O t9.b) < 3 by omega) hV (by omega) (by omega) (O := O) (V := V) (t9 := t9) (p0 := z_20) (by omega) (by omega)) gX1_isSoundView_X1_isWithin rfl dv_X1_isWithin hv9.1 rfl rfl (Nat.le_of_ble_eq_true rfl) (by rw [hRf]; decide) (by rw [hRl]; decide) (by omega) (by omega) dX1_isSoundView_49 (fun r9 M_21 H locs hq hw => ?_)
          obtain ⟨z_22, rfl, hM9, hz_22, hz_22w⟩ := hq
          rw [hM9] at hw
          show W p l e R s m args below meth c H locs _ _ _ (F0 m 52 ls [.int (iN (z_22))])
          refine lv_iload hC.1 hC.2.1 dX1_isSoundView_52 (lv_at hl 0 rfl) ?_
          refine x_icmp_eq (tgt := 59) hC ⟨by omega, by omega⟩ ⟨by omega, by omega⟩ dX1_isSoundView_54 (by decide) (fun c_23 => ?_) (fun c_23 => ?_)
          · refine x_iinc (lv' := [(3, .int (iN (pl + 1))), (4, .int (iN (1))), (0, .ref y), (1, .int (iN (st))), (2, .int (iN (en)))]) hC dX1_isSoundView_59 hl (k := 4) rfl (by decide) rfl (fun ls hl => ?_)
            refine lv_goto (tgt := 12) hC.1 hC.2.1 dX1_isSoundView_62 (by decide) ?_
            exact ih12 st en (pl + 1)  _ _ _ (by omega) (by omega) (by omega) (by omega) (by omega) (hst) (hen) hw (lv_sub hl [2, 3, 4, 0] rfl)
          · refine x_const hC dX1_isSoundView_57 ?_
            exact x_zret hC hw (by omega) dX1_isSoundView_58 (by omega) (by omega) (by exfalso; have e9 := hz_22w; rw [show (z_20).toNat = kN fk (pl).toNat from (kNz (by omega)).symm] at e9; have e8 := shP ho ht9 hV hst hen (by omega) (by omega) (show (pl).toNat < sz.toNat by omega); rw [shM_iff] at e8; have e7 := (hV.v (p := (pl).toNat) (by omega)).2; by_cases c9 : inM (O t9.b) t9 (kN fk (pl).toNat); (· have e6 := e8.mpr ⟨e7, c9⟩; have e5 := e9.mpr c9; omega); (· have e6 : ¬ (st ≤ ((pl).toNat : Int) ∧ ((pl).toNat : Int) < en) := fun h9 => c9 (e8.mp h9).2; have e5 : ¬ z_22 = 1 := fun h9 => c9 (e9.mp h9); omega))
set_option maxHeartbeats 4000000 in
set_option maxRecDepth 100000 in
theorem c_X2_book (l : Launch) (G : xG) {M : HM} {b : Nat} {y : Nat} {lo up sw ew : Int32} {li ui : Int} {w : Nat} {ps tw kw cd : Int} (hW : Wk M w y (iN (ps)) (iN (tw)) (iN (kw)) cd) (hv9 : Vw M y b lo up sw ew li ui) : xMet l G yX2_book wsX2_book 1 20 0 0 [.ref w] M (fun r M1 => r = some (.ref b) ∧ M1 = M) := by
  refine x_intro (cc := cX2_book) (maxL := 1) (ret := (some (.object "Rangeledger$Book"))) (by exact pln_RX2) rfl (Nat.le_of_ble_eq_true rfl) ?_
  intro p e R s m args below meth c ls hRf hRc hRs hRl hC hw hl
  have hli := hv9.2.1
  have hui := hv9.2.2
  have hcd := hW.2
  have hinX2 : ∀ w ∈ wsX20, w ∈ wsX2_book := fun w h => (List.mem_cons_of_mem _ (List.mem_append_left _ (List.mem_append_right _ h)))
  have hl : lv_has ls 1 [(0, .ref w)] := hl
  refine lv_aload_n hC.1 hC.2.1 dX2_book_0 rfl (lv_at hl 0 rfl) ?_
  refine x_get hC hw hW.1 rfl hinX2 0 (by decide) (List.mem_cons_of_mem _ (List.mem_append_left _ (List.mem_append_left _ (List.mem_of_getElem? (i := 0) rfl)))) rfl dX2_book_1 ?_
  refine x_callV hC hw (lv_size hl) (c_X1_book l G hv9) gX2_book_X1_book rfl dv_X1_book hv9.1 rfl rfl (Nat.le_of_ble_eq_true rfl) (by rw [hRf]; decide) (by rw [hRl]; decide) (by omega) (by omega) dX2_book_4 (fun r9 M_1 H locs hq hw => ?_)
  obtain ⟨rfl, hM9⟩ := hq
  rw [hM9] at hw
  show W p l e R s m args below meth c H locs _ _ _ (F0 m 7 ls [.ref b])
  exact x_aret hC hw (by first | exact Or.inl ⟨_, rfl⟩ | exact Or.inr ⟨_, rfl⟩) (Or.inr ⟨_, rfl⟩) dX2_book_7 (by omega) (by omega) ⟨rfl, rfl⟩
set_option maxHeartbeats 4000000 in
set_option maxRecDepth 100000 in
theorem c_X2_isBroken (l : Launch) (G : xG) {M : HM} {b k v : Nat} {no : Int32} {t kc sz : Int} {fk fv : Nat → Int32} {O : OW} {V : BW} {t9 : VT} {y : Nat} {w : Nat} {ps tw kw cd : Int} (hW : Wk M w y (iN (ps)) (iN (tw)) (iN (kw)) cd) (hwr : (0 ≤ tw ∧ tw ≤ 1000000) ∧ (0 ≤ kw ∧ kw ≤ 1000000) ∧ (ps = -10000 ∨ (0 ≤ ps ∧ ps ≤ 99))) (ht9 : t9.ok) (hv9 : Vw M y b (iN t9.lo) (iN t9.up) (iN (swN (O t9.b) t9.lo t9.li)) (iN (ewN (O t9.b) t9.lo t9.li t9.up t9.ui)) t9.li t9.ui) (hB : Bk G M b k v no (iN ((O t9.b : Nat) : Int)) (iN (t)) (iN (kc)) sz fk fv) (ho : O t9.b < 3) (hV : BV (O t9.b) (V t9.b) sz.toNat fk fv) (htt : 0 ≤ t ∧ t ≤ 1000000) (hkk : 0 ≤ kc ∧ kc ≤ 999000) : xMet l G yX2_isBroken wsX2_isBroken 2 40 0 0 [.ref w] M (fun r M1 => ∃ z : Int, r = some (.int (iN z)) ∧ M1 = M ∧ (z = 0 ∨ z = 1) ∧ (z = 1 ↔ kw ≠ kc)) := by
  refine x_intro (cc := cX2_isBroken) (maxL := 1) (ret := (some .boolean)) (by exact pln_RX2) rfl (Nat.le_of_ble_eq_true rfl) ?_
  intro p e R s m args below meth c ls hRf hRc hRs hRl hC hw hl
  obtain ⟨-, -, -, -, hs0, hs1⟩ := id hB
  have hli := hv9.2.1
  have hui := hv9.2.2
  have hrs9 := swN_rng ho ht9
  have hre9 := ewN_rng ho ht9
  have hse9 := sw_le_ew (O t9.b) t9
  have hrs8 : (iN (swN (O t9.b) t9.lo t9.li)).toInt = swN (O t9.b) t9.lo t9.li := iN_toInt ⟨by omega, by omega⟩
  have hre8 : (iN (ewN (O t9.b) t9.lo t9.li t9.up t9.ui)).toInt = ewN (O t9.b) t9.lo t9.li t9.up t9.ui := iN_toInt ⟨by omega, by omega⟩
  have hcd := hW.2
  have hinX2 : ∀ w ∈ wsX20, w ∈ wsX2_isBroken := fun w h => (List.mem_cons_of_mem _ (List.mem_append_left _ (List.mem_append_left _ (List.mem_append_right _ h))))
  have hl : lv_has ls 1 [(0, .ref w)] := hl
  refine lv_aload_n hC.1 hC.2.1 dX2_isBroken_0 rfl (lv_at hl 0 rfl) ?_
  refine x_get hC hw hW.1 rfl hinX2 4 (by decide) (List.mem_cons_of_mem _ (List.mem_append_left _ (List.mem_append_left _ (List.mem_append_left _ (List.mem_of_getElem? (i := 0) rfl))))) rfl dX2_isBroken_1 ?_
  refine lv_aload_n hC.1 hC.2.1 dX2_isBroken_4 rfl (lv_at hl 0 rfl) ?_
  refine x_callV hC hw (lv_size hl) (c_X2_book l G hW hv9) gX2_isBroken_X2_book rfl dv_X2_book hW.1 rfl rfl (Nat.le_of_ble_eq_true rfl) (by rw [hRf]; decide) (by rw [hRl]; decide) (by omega) (by omega) dX2_isBroken_5 (fun r9 M_1 H locs hq hw => ?_)
  obtain ⟨rfl, hM9⟩ := hq
  rw [hM9] at hw
  show W p l e R s m args below meth c H locs _ _ _ (F0 m 8 ls [.ref b, .int (iN (kw))])
  refine x_callV hC hw (lv_size hl) (c_X0_keyChanges l G hB (show (O t9.b) < 3 by omega) hV (by omega) (by omega)) gX2_isBroken_X0_keyChanges rfl dv_X0_keyChanges hB.1 rfl rfl (Nat.le_of_ble_eq_true rfl) (by rw [hRf]; decide) (by rw [hRl]; decide) (by omega) (by omega) dX2_isBroken_8 (fun r9 M_2 H locs hq hw => ?_)
  obtain ⟨rfl, hM9⟩ := hq
  rw [hM9] at hw
  show W p l e R s m args below meth c H locs _ _ _ (F0 m 11 ls [.int (iN (kc)), .int (iN (kw))])
  refine x_icmp_eq (tgt := 18) hC ⟨by omega, by omega⟩ ⟨by omega, by omega⟩ dX2_isBroken_11 (by decide) (fun c_3 => ?_) (fun c_3 => ?_)
  · refine x_const hC dX2_isBroken_18 ?_
    exact x_zret hC hw (by omega) dX2_isBroken_19 (by omega) (by omega) ⟨0, rfl, rfl, by omega, by omega⟩
  · refine x_const hC dX2_isBroken_14 ?_
    refine lv_goto (tgt := 19) hC.1 hC.2.1 dX2_isBroken_15 (by decide) ?_
    exact x_zret hC hw (by omega) dX2_isBroken_19 (by omega) (by omega) ⟨1, rfl, rfl, by omega, by omega⟩
set_option maxHeartbeats 4000000 in
set_option maxRecDepth 100000 in
theorem c_X2_canDrop (l : Launch) (G : xG) {M : HM} {b : Nat} {y : Nat} {lo up sw ew : Int32} {li ui : Int} {w : Nat} {ps tw kw cd : Int} (hW : Wk M w y (iN (ps)) (iN (tw)) (iN (kw)) cd) (hv9 : Vw M y b lo up sw ew li ui) : xMet l G yX2_canDrop wsX2_canDrop 0 0 0 0 [.ref w] M (fun r M1 => r = some (.int (iN (cd))) ∧ M1 = M) := by
  refine x_intro (cc := cX2_canDrop) (maxL := 1) (ret := (some .boolean)) (by exact pln_RX2) rfl (Nat.le_of_ble_eq_true rfl) ?_
  intro p e R s m args below meth c ls hRf hRc hRs hRl hC hw hl
  have hli := hv9.2.1
  have hui := hv9.2.2
  have hcd := hW.2
  have hinX2 : ∀ w ∈ wsX20, w ∈ wsX2_canDrop := fun w h => (List.mem_cons_of_mem _ (List.mem_append_right _ h))
  have hl : lv_has ls 1 [(0, .ref w)] := hl
  refine lv_aload_n hC.1 hC.2.1 dX2_canDrop_0 rfl (lv_at hl 0 rfl) ?_
  refine x_get hC hw hW.1 rfl hinX2 2 (by decide) (List.mem_cons_of_mem _ (List.mem_append_left _ (List.mem_of_getElem? (i := 0) rfl))) rfl dX2_canDrop_1 ?_
  exact x_zret hC hw (by omega) dX2_canDrop_4 (by omega) (by omega) ⟨rfl, rfl⟩
set_option maxHeartbeats 4000000 in
set_option maxRecDepth 100000 in
theorem c_X2_keyAtHand (l : Launch) (G : xG) {M : HM} {b k v : Nat} {no : Int32} {t kc sz : Int} {fk fv : Nat → Int32} {O : OW} {V : BW} {t9 : VT} {y : Nat} {w : Nat} {ps tw kw cd : Int} (hW : Wk M w y (iN (ps)) (iN (tw)) (iN (kw)) cd) (hwr : (0 ≤ tw ∧ tw ≤ 1000000) ∧ (0 ≤ kw ∧ kw ≤ 1000000) ∧ (ps = -10000 ∨ (0 ≤ ps ∧ ps ≤ 99))) (ht9 : t9.ok) (hv9 : Vw M y b (iN t9.lo) (iN t9.up) (iN (swN (O t9.b) t9.lo t9.li)) (iN (ewN (O t9.b) t9.lo t9.li t9.up t9.ui)) t9.li t9.ui) (hB : Bk G M b k v no (iN ((O t9.b : Nat) : Int)) (iN (t)) (iN (kc)) sz fk fv) (ho : O t9.b < 3) (hV : BV (O t9.b) (V t9.b) sz.toNat fk fv) (htt : 0 ≤ t ∧ t ≤ 1000000) (hkk : 0 ≤ kc ∧ kc ≤ 999000) : xMet l G yX2_keyAtHand wsX2_keyAtHand 2 40 0 0 [.ref w] M (fun r M1 => ∃ z : Int, r = some (.int (iN z)) ∧ M1 = M ∧ (z = -10000 ∨ (0 ≤ z ∧ z ≤ 99)) ∧ z = (if cd = 1 ∧ tw = t then ps else -10000)) := by
  refine x_intro (cc := cX2_keyAtHand) (maxL := 1) (ret := (some .int)) (by exact pln_RX2) rfl (Nat.le_of_ble_eq_true rfl) ?_
  intro p e R s m args below meth c ls hRf hRc hRs hRl hC hw hl
  obtain ⟨-, -, -, -, hs0, hs1⟩ := id hB
  have hli := hv9.2.1
  have hui := hv9.2.2
  have hrs9 := swN_rng ho ht9
  have hre9 := ewN_rng ho ht9
  have hse9 := sw_le_ew (O t9.b) t9
  have hrs8 : (iN (swN (O t9.b) t9.lo t9.li)).toInt = swN (O t9.b) t9.lo t9.li := iN_toInt ⟨by omega, by omega⟩
  have hre8 : (iN (ewN (O t9.b) t9.lo t9.li t9.up t9.ui)).toInt = ewN (O t9.b) t9.lo t9.li t9.up t9.ui := iN_toInt ⟨by omega, by omega⟩
  have hcd := hW.2
  have hinX2 : ∀ w ∈ wsX20, w ∈ wsX2_keyAtHand := fun w h => (List.mem_cons_of_mem _ (List.mem_append_left _ (List.mem_append_left _ (List.mem_append_right _ h))))
  have hl : lv_has ls 1 [(0, .ref w)] := hl
  refine lv_aload_n hC.1 hC.2.1 dX2_keyAtHand_0 rfl (lv_at hl 0 rfl) ?_
  refine x_get hC hw hW.1 rfl hinX2 2 (by decide) (List.mem_cons_of_mem _ (List.mem_append_left _ (List.mem_append_left _ (List.mem_append_left _ (List.mem_of_getElem? (i := 0) rfl))))) rfl dX2_keyAtHand_1 ?_
  refine x_if_eq (tgt := 28) hC ⟨by omega, by omega⟩ dX2_keyAtHand_4 (by decide) (fun c_1 => ?_) (fun c_1 => ?_)
  · refine x_sipush hC dX2_keyAtHand_28 (by decide +kernel) ?_
    exact x_iret hC hw dX2_keyAtHand_31 (by omega) (by omega) ⟨(-10000), rfl, rfl, by omega, by omega⟩
  · refine lv_aload_n hC.1 hC.2.1 dX2_keyAtHand_7 rfl (lv_at hl 0 rfl) ?_
    refine x_get hC hw hW.1 rfl hinX2 3 (by decide) (List.mem_cons_of_mem _ (List.mem_append_left _ (List.mem_append_left _ (List.mem_append_left _ (List.mem_of_getElem? (i := 1) rfl))))) rfl dX2_keyAtHand_8 ?_
    refine lv_aload_n hC.1 hC.2.1 dX2_keyAtHand_11 rfl (lv_at hl 0 rfl) ?_
    refine x_callV hC hw (lv_size hl) (c_X2_book l G hW hv9) gX2_keyAtHand_X2_book rfl dv_X2_book hW.1 rfl rfl (Nat.le_of_ble_eq_true rfl) (by rw [hRf]; decide) (by rw [hRl]; decide) (by omega) (by omega) dX2_keyAtHand_12 (fun r9 M_2 H locs hq hw => ?_)
    obtain ⟨rfl, hM9⟩ := hq
    rw [hM9] at hw
    show W p l e R s m args below meth c H locs _ _ _ (F0 m 15 ls [.ref b, .int (iN (tw))])
    refine x_callV hC hw (lv_size hl) (c_X0_touches l G hB (show (O t9.b) < 3 by omega) hV (by omega) (by omega)) gX2_keyAtHand_X0_touches rfl dv_X0_touches hB.1 rfl rfl (Nat.le_of_ble_eq_true rfl) (by rw [hRf]; decide) (by rw [hRl]; decide) (by omega) (by omega) dX2_keyAtHand_15 (fun r9 M_3 H locs hq hw => ?_)
    obtain ⟨rfl, hM9⟩ := hq
    rw [hM9] at hw
    show W p l e R s m args below meth c H locs _ _ _ (F0 m 18 ls [.int (iN (t)), .int (iN (tw))])
    refine x_icmp_ne (tgt := 28) hC ⟨by omega, by omega⟩ ⟨by omega, by omega⟩ dX2_keyAtHand_18 (by decide) (fun c_4 => ?_) (fun c_4 => ?_)
    · refine x_sipush hC dX2_keyAtHand_28 (by decide +kernel) ?_
      exact x_iret hC hw dX2_keyAtHand_31 (by omega) (by omega) ⟨(-10000), rfl, rfl, by omega, by omega⟩
    · refine lv_aload_n hC.1 hC.2.1 dX2_keyAtHand_21 rfl (lv_at hl 0 rfl) ?_
      refine x_get hC hw hW.1 rfl hinX2 1 (by decide) (List.mem_cons_of_mem _ (List.mem_append_left _ (List.mem_append_left _ (List.mem_append_left _ (List.mem_of_getElem? (i := 2) rfl))))) rfl dX2_keyAtHand_22 ?_
      refine lv_goto (tgt := 31) hC.1 hC.2.1 dX2_keyAtHand_25 (by decide) ?_
      exact x_iret hC hw dX2_keyAtHand_31 (by omega) (by omega) ⟨ps, rfl, rfl, by omega, by omega⟩
set_option maxHeartbeats 4000000 in
set_option maxRecDepth 100000 in
theorem c_X2_advance (l : Launch) (G : xG) {M : HM} {b k v : Nat} {no : Int32} {t kc sz : Int} {fk fv : Nat → Int32} {O : OW} {V : BW} {t9 : VT} {y : Nat} {w : Nat} {ps tw kw cd : Int} (hW : Wk M w y (iN (ps)) (iN (tw)) (iN (kw)) cd) (hwr : (0 ≤ tw ∧ tw ≤ 1000000) ∧ (0 ≤ kw ∧ kw ≤ 1000000) ∧ (ps = -10000 ∨ (0 ≤ ps ∧ ps ≤ 99))) (ht9 : t9.ok) (hv9 : Vw M y b (iN t9.lo) (iN t9.up) (iN (swN (O t9.b) t9.lo t9.li)) (iN (ewN (O t9.b) t9.lo t9.li t9.up t9.ui)) t9.li t9.ui) (hB : Bk G M b k v no (iN ((O t9.b : Nat) : Int)) (iN (t)) (iN (kc)) sz fk fv) (ho : O t9.b < 3) (hV : BV (O t9.b) (V t9.b) sz.toNat fk fv) (htt : 0 ≤ t ∧ t ≤ 1000000) (hkk : 0 ≤ kc ∧ kc ≤ 999000) (hin : ps ≠ -10000 → inM (O t9.b) t9 ps.toNat) : xMet l G yX2_advance wsX2_advance 3 69 0 0 [.ref w] M (fun r M1 => ∃ z : Int, r = some (.int (iN z)) ∧ (z = -10000 ∨ (0 ≤ z ∧ z ≤ 99)) ∧ z = clF O V t9 (if ps = -10000 then -1 else (mwN (O t9.b) ps.toNat : Int)) 1 100 ∧ ∃ (ps1 t1 cd1 : Int), Wk M1 w y (iN (ps1)) (iN (t1)) (iN (kw)) cd1 ∧ xS1 M M1 w ∧ ((z = -10000 ∧ ps1 = ps ∧ t1 = tw ∧ cd1 = cd) ∨ (z ≠ -10000 ∧ ps1 = z ∧ t1 = t ∧ cd1 = 1))) := by
  refine x_intro (cc := cX2_advance) (maxL := 2) (ret := (some .int)) (by exact pln_RX2) rfl (Nat.le_of_ble_eq_true rfl) ?_
  intro p e R s m args below meth c ls hRf hRc hRs hRl hC hw hl
  obtain ⟨-, -, -, -, hs0, hs1⟩ := id hB
  have hli := hv9.2.1
  have hui := hv9.2.2
  have hrs9 := swN_rng ho ht9
  have hre9 := ewN_rng ho ht9
  have hse9 := sw_le_ew (O t9.b) t9
  have hrs8 : (iN (swN (O t9.b) t9.lo t9.li)).toInt = swN (O t9.b) t9.lo t9.li := iN_toInt ⟨by omega, by omega⟩
  have hre8 : (iN (ewN (O t9.b) t9.lo t9.li t9.up t9.ui)).toInt = ewN (O t9.b) t9.lo t9.li t9.up t9.ui := iN_toInt ⟨by omega, by omega⟩
  have hcd := hW.2
  have hinX2 : ∀ w ∈ wsX20, w ∈ wsX2_advance := fun w h => (List.mem_cons_of_mem _ (List.mem_append_left _ (List.mem_append_left _ (List.mem_append_right _ h))))
  have hl : lv_has ls 2 [(0, .ref w)] := hl
  refine lv_aload_n hC.1 hC.2.1 dX2_advance_0 rfl (lv_at hl 0 rfl) ?_
  refine x_get hC hw hW.1 rfl hinX2 1 (by decide) (List.mem_cons_of_mem _ (List.mem_append_left _ (List.mem_append_left _ (List.mem_append_left _ (List.mem_append_left _ (List.mem_of_getElem? (i := 0) rfl)))))) rfl dX2_advance_1 ?_
  refine x_sipush hC dX2_advance_4 (by decide +kernel) ?_
  refine x_icmp_ne (tgt := 20) hC ⟨by omega, by omega⟩ ⟨by omega, by omega⟩ dX2_advance_7 (by decide) (fun c_1 => ?_) (fun c_1 => ?_)
  · refine lv_aload_n hC.1 hC.2.1 dX2_advance_20 rfl (lv_at hl 0 rfl) ?_
    refine x_callV hC hw (lv_size hl) (c_X2_book l G hW hv9) gX2_advance_X2_book rfl dv_X2_book hW.1 rfl rfl (Nat.le_of_ble_eq_true rfl) (by rw [hRf]; decide) (by rw [hRl]; decide) (by omega) (by omega) dX2_advance_21 (fun r9 M_2 H locs hq hw => ?_)
    obtain ⟨rfl, hM9⟩ := hq
    rw [hM9] at hw
    show W p l e R s m args below meth c H locs _ _ _ (F0 m 24 ls [.ref b])
    refine lv_aload_n hC.1 hC.2.1 dX2_advance_24 rfl (lv_at hl 0 rfl) ?_
    refine x_get hC hw hW.1 rfl hinX2 1 (by decide) (List.mem_cons_of_mem _ (List.mem_append_left _ (List.mem_append_left _ (List.mem_append_left _ (List.mem_append_left _ (List.mem_of_getElem? (i := 0) rfl)))))) rfl dX2_advance_25 ?_
    refine x_callV hC hw (lv_size hl) (c_X0_placeBehind l G hB (show (O t9.b) < 3 by omega) hV (by omega) (by omega) (p0 := ps) (by omega) (by omega)) gX2_advance_X0_placeBehind rfl dv_X0_placeBehind hB.1 rfl rfl (Nat.le_of_ble_eq_true rfl) (by rw [hRf]; decide) (by rw [hRl]; decide) (by omega) (by omega) dX2_advance_28 (fun r9 M_3 H locs hq hw => ?_)
    obtain ⟨z_4, rfl, hM9, hz_4a, hz_4b, hz_4p⟩ := hq
    rw [hM9] at hw
    show W p l e R s m args below meth c H locs _ _ _ (F0 m 31 ls [.int (iN (z_4))])
    refine lv_istore_n (lv' := [(1, .int (iN (z_4))), (0, .ref w)]) hC.1 hC.2.1 dX2_advance_31 rfl hl (by decide) rfl (fun ls hl => ?_)
    refine lv_iload_n hC.1 hC.2.1 dX2_advance_32 rfl (lv_at hl 0 rfl) ?_
    refine lv_aload_n hC.1 hC.2.1 dX2_advance_33 rfl (lv_at hl 1 rfl) ?_
    refine x_get hC hw hW.1 rfl hinX2 0 (by decide) (List.mem_cons_of_mem _ (List.mem_append_left _ (List.mem_append_left _ (List.mem_append_left _ (List.mem_append_left _ (List.mem_of_getElem? (i := 1) rfl)))))) rfl dX2_advance_34 ?_
    refine x_callV hC hw (lv_size hl) (c_X1_end l G ht9 hv9 hB (show (O t9.b) < 3 by omega) hV (by omega) (by omega) (O := O) (V := V) (t9 := t9)) gX2_advance_X1_end rfl dv_X1_end hv9.1 rfl rfl (Nat.le_of_ble_eq_true rfl) (by rw [hRf]; decide) (by rw [hRl]; decide) (by omega) (by omega) dX2_advance_37 (fun r9 M_5 H locs hq hw => ?_)
    obtain ⟨z_6, rfl, hM9, hz_6a, hz_6b, hz_6p⟩ := hq
    rw [hM9] at hw
    show W p l e R s m args below meth c H locs _ _ _ (F0 m 40 ls [.int (iN (z_6)), .int (iN (z_4))])
    refine x_icmp_lt (tgt := 47) hC ⟨by omega, by omega⟩ ⟨by omega, by omega⟩ dX2_advance_40 (by decide) (fun c_7 => ?_) (fun c_7 => ?_)
    · refine lv_aload_n hC.1 hC.2.1 dX2_advance_47 rfl (lv_at hl 1 rfl) ?_
      refine lv_aload_n hC.1 hC.2.1 dX2_advance_48 rfl (lv_at hl 1 rfl) ?_
      refine x_callV hC hw (lv_size hl) (c_X2_book l G hW hv9) gX2_advance_X2_book rfl dv_X2_book hW.1 rfl rfl (Nat.le_of_ble_eq_true rfl) (by rw [hRf]; decide) (by rw [hRl]; decide) (by omega) (by omega) dX2_advance_49 (fun r9 M_8 H locs hq hw => ?_)
      obtain ⟨rfl, hM9⟩ := hq
      rw [hM9] at hw
      show W p l e R s m args below meth c H locs _ _ _ (F0 m 52 ls [.ref b, .ref w])
      refine lv_iload_n hC.1 hC.2.1 dX2_advance_52 rfl (lv_at hl 0 rfl) ?_
      refine x_callV hC hw (lv_size hl) (c_X0_keyAt l G hB (show (O t9.b) < 3 by omega) hV (by omega) (by omega) (p0 := z_4) (by omega)) gX2_advance_X0_keyAt rfl dv_X0_keyAt hB.1 rfl rfl (Nat.le_of_ble_eq_true rfl) (by rw [hRf]; decide) (by rw [hRl]; decide) (by omega) (by omega) dX2_advance_53 (fun r9 M_9 H locs hq hw => ?_)
      obtain ⟨z_10, rfl, hM9, hz_10, hz_10b, hz_10k⟩ := hq
      rw [hM9] at hw
      show W p l e R s m args below meth c H locs _ _ _ (F0 m 56 ls [.int (iN (z_10)), .ref w])
      refine x_put (fs2 := [.ref y, .int (iN (z_10)), .int (iN (cd)), .int (iN (tw)), .int (iN (kw))]) hC hw hW.1 rfl hinX2 tyX2 tyX2_ok nmX2 1 (by decide) (List.mem_cons_of_mem _ (List.mem_append_left _ (List.mem_append_left _ (List.mem_append_left _ (List.mem_append_left _ (List.mem_of_getElem? (i := 0) rfl)))))) rfl rfl rfl (Nat.le_of_ble_eq_true rfl) rfl dX2_advance_56 (fun H locs hw => ?_)
      obtain ⟨M_11, hM_12⟩ : ∃ z, z = va_up M w (some (.inr (4, [.ref y, .int (iN (z_10)), .int (iN (cd)), .int (iN (tw)), .int (iN (kw))]))) := ⟨_, rfl⟩
      rw [← hM_12] at hw
      have hW_13 : Wk M_11 w y (iN (z_10)) (iN (tw)) (iN (kw)) cd := ⟨by rw [hM_12, va_up_self], by omega⟩
      have sm_14 := xS1.up hM_12
      have h_15 := hB.kept1 sm_14 (by decide) hW.1
      have h_16 : Vw _ y b (iN t9.lo) (iN t9.up) (iN (swN (O t9.b) t9.lo t9.li)) (iN (ewN (O t9.b) t9.lo t9.li t9.up t9.ui)) t9.li t9.ui := And.intro (x_k1 sm_14 hW.1 (by decide) hv9.1) hv9.2
      refine lv_aload_n hC.1 hC.2.1 dX2_advance_59 rfl (lv_at hl 1 rfl) ?_
      refine x_const hC dX2_advance_60 ?_
      refine x_put (fs2 := [.ref y, .int (iN (z_10)), .int (iN (1)), .int (iN (tw)), .int (iN (kw))]) hC hw hW_13.1 rfl hinX2 tyX2 tyX2_ok nmX2 2 (by decide) (List.mem_cons_of_mem _ (List.mem_append_left _ (List.mem_append_left _ (List.mem_append_left _ (List.mem_append_left _ (List.mem_of_getElem? (i := 2) rfl)))))) rfl rfl rfl (Nat.le_of_ble_eq_true rfl) rfl dX2_advance_61 (fun H locs hw => ?_)
      obtain ⟨M_17, hM_18⟩ : ∃ z, z = va_up M_11 w (some (.inr (4, [.ref y, .int (iN (z_10)), .int (iN (1)), .int (iN (tw)), .int (iN (kw))]))) := ⟨_, rfl⟩
      rw [← hM_18] at hw
      have hW_19 : Wk M_17 w y (iN (z_10)) (iN (tw)) (iN (kw)) 1 := ⟨by rw [hM_18, va_up_self], by omega⟩
      have sm_20 := xS1.up hM_18
      have h_21 := h_15.kept1 sm_20 (by decide) hW_13.1
      have h_22 : Vw _ y b (iN t9.lo) (iN t9.up) (iN (swN (O t9.b) t9.lo t9.li)) (iN (ewN (O t9.b) t9.lo t9.li t9.up t9.ui)) t9.li t9.ui := And.intro (x_k1 sm_20 hW_13.1 (by decide) h_16.1) h_16.2
      refine lv_aload_n hC.1 hC.2.1 dX2_advance_64 rfl (lv_at hl 1 rfl) ?_
      refine lv_aload_n hC.1 hC.2.1 dX2_advance_65 rfl (lv_at hl 1 rfl) ?_
      refine x_callV hC hw (lv_size hl) (c_X2_book l G hW_19 h_22) gX2_advance_X2_book rfl dv_X2_book hW_19.1 rfl rfl (Nat.le_of_ble_eq_true rfl) (by rw [hRf]; decide) (by rw [hRl]; decide) (by omega) (by omega) dX2_advance_66 (fun r9 M_23 H locs hq hw => ?_)
      obtain ⟨rfl, hM9⟩ := hq
      rw [hM9] at hw
      show W p l e R s m args below meth c H locs _ _ _ (F0 m 69 ls [.ref b, .ref w])
      refine x_callV hC hw (lv_size hl) (c_X0_touches l G h_21 (show (O t9.b) < 3 by omega) hV (by omega) (by omega)) gX2_advance_X0_touches rfl dv_X0_touches h_21.1 rfl rfl (Nat.le_of_ble_eq_true rfl) (by rw [hRf]; decide) (by rw [hRl]; decide) (by omega) (by omega) dX2_advance_69 (fun r9 M_24 H locs hq hw => ?_)
      obtain ⟨rfl, hM9⟩ := hq
      rw [hM9] at hw
      show W p l e R s m args below meth c H locs _ _ _ (F0 m 72 ls [.int (iN (t)), .ref w])
      refine x_put (fs2 := [.ref y, .int (iN (z_10)), .int (iN (1)), .int (iN (t)), .int (iN (kw))]) hC hw hW_19.1 rfl hinX2 tyX2 tyX2_ok nmX2 3 (by decide) (List.mem_cons_of_mem _ (List.mem_append_left _ (List.mem_append_left _ (List.mem_append_left _ (List.mem_append_left _ (List.mem_of_getElem? (i := 3) rfl)))))) rfl rfl rfl (Nat.le_of_ble_eq_true rfl) rfl dX2_advance_72 (fun H locs hw => ?_)
      obtain ⟨M_25, hM_26⟩ : ∃ z, z = va_up M_17 w (some (.inr (4, [.ref y, .int (iN (z_10)), .int (iN (1)), .int (iN (t)), .int (iN (kw))]))) := ⟨_, rfl⟩
      rw [← hM_26] at hw
      have hW_27 : Wk M_25 w y (iN (z_10)) (iN (t)) (iN (kw)) 1 := ⟨by rw [hM_26, va_up_self], by omega⟩
      have sm_28 := xS1.up hM_26
      have h_29 := h_21.kept1 sm_28 (by decide) hW_19.1
      have h_30 : Vw _ y b (iN t9.lo) (iN t9.up) (iN (swN (O t9.b) t9.lo t9.li)) (iN (ewN (O t9.b) t9.lo t9.li t9.up t9.ui)) t9.li t9.ui := And.intro (x_k1 sm_28 hW_19.1 (by decide) h_22.1) h_22.2
      refine lv_aload_n hC.1 hC.2.1 dX2_advance_75 rfl (lv_at hl 1 rfl) ?_
      refine x_get hC hw hW_27.1 rfl hinX2 1 (by decide) (List.mem_cons_of_mem _ (List.mem_append_left _ (List.mem_append_left _ (List.mem_append_left _ (List.mem_append_left _ (List.mem_of_getElem? (i := 0) rfl)))))) rfl dX2_advance_76 ?_
      exact x_iret hC hw dX2_advance_79 (by omega) (by omega) ⟨z_10, rfl, by omega, (by rw [if_neg (by omega)]; obtain ⟨st9, hst0, hst9⟩ := plW_ex hV hs0 (swN (O t9.b) t9.lo t9.li); exact stepP ho ht9 hV hst9 hz_6p hst0 (by omega) (by omega) (hin (by omega)) (by omega) hz_4p (by omega)), _, _, _, hW_27, fun a q_w => (((sm_28 a q_w).trans (sm_20 a q_w)).trans (sm_14 a q_w)), by omega⟩
    · refine x_sipush hC dX2_advance_43 (by decide +kernel) ?_
      exact x_iret hC hw dX2_advance_46 (by omega) (by omega) ⟨(-10000), rfl, by omega, (by rw [if_neg (by omega)]; obtain ⟨st9, hst0, hst9⟩ := plW_ex hV hs0 (swN (O t9.b) t9.lo t9.li); exact stepP ho ht9 hV hst9 hz_6p hst0 (by omega) (by omega) (hin (by omega)) (by omega) hz_4p (by omega)), _, _, _, hW, fun a q_w => rfl, by omega⟩
  · refine lv_aload_n hC.1 hC.2.1 dX2_advance_10 rfl (lv_at hl 0 rfl) ?_
    refine x_get hC hw hW.1 rfl hinX2 0 (by decide) (List.mem_cons_of_mem _ (List.mem_append_left _ (List.mem_append_left _ (List.mem_append_left _ (List.mem_append_left _ (List.mem_of_getElem? (i := 1) rfl)))))) rfl dX2_advance_11 ?_
    refine x_callV hC hw (lv_size hl) (c_X1_start l G ht9 hv9 hB (show (O t9.b) < 3 by omega) hV (by omega) (by omega) (O := O) (V := V) (t9 := t9)) gX2_advance_X1_start rfl dv_X1_start hv9.1 rfl rfl (Nat.le_of_ble_eq_true rfl) (by rw [hRf]; decide) (by rw [hRl]; decide) (by omega) (by omega) dX2_advance_14 (fun r9 M_31 H locs hq hw => ?_)
    obtain ⟨z_32, rfl, hM9, hz_32a, hz_32b, hz_32p⟩ := hq
    rw [hM9] at hw
    show W p l e R s m args below meth c H locs _ _ _ (F0 m 17 ls [.int (iN (z_32))])
    refine lv_goto (tgt := 31) hC.1 hC.2.1 dX2_advance_17 (by decide) ?_
    refine lv_istore_n (lv' := [(1, .int (iN (z_32))), (0, .ref w)]) hC.1 hC.2.1 dX2_advance_31 rfl hl (by decide) rfl (fun ls hl => ?_)
    refine lv_iload_n hC.1 hC.2.1 dX2_advance_32 rfl (lv_at hl 0 rfl) ?_
    refine lv_aload_n hC.1 hC.2.1 dX2_advance_33 rfl (lv_at hl 1 rfl) ?_
    refine x_get hC hw hW.1 rfl hinX2 0 (by decide) (List.mem_cons_of_mem _ (List.mem_append_left _ (List.mem_append_left _ (List.mem_append_left _ (List.mem_append_left _ (List.mem_of_getElem? (i := 1) rfl)))))) rfl dX2_advance_34 ?_
    refine x_callV hC hw (lv_size hl) (c_X1_end l G ht9 hv9 hB (show (O t9.b) < 3 by omega) hV (by omega) (by omega) (O := O) (V := V) (t9 := t9)) gX2_advance_X1_end rfl dv_X1_end hv9.1 rfl rfl (Nat.le_of_ble_eq_true rfl) (by rw [hRf]; decide) (by rw [hRl]; decide) (by omega) (by omega) dX2_advance_37 (fun r9 M_33 H locs hq hw => ?_)
    obtain ⟨z_34, rfl, hM9, hz_34a, hz_34b, hz_34p⟩ := hq
    rw [hM9] at hw
    show W p l e R s m args below meth c H locs _ _ _ (F0 m 40 ls [.int (iN (z_34)), .int (iN (z_32))])
    refine x_icmp_lt (tgt := 47) hC ⟨by omega, by omega⟩ ⟨by omega, by omega⟩ dX2_advance_40 (by decide) (fun c_35 => ?_) (fun c_35 => ?_)
    · refine lv_aload_n hC.1 hC.2.1 dX2_advance_47 rfl (lv_at hl 1 rfl) ?_
      refine lv_aload_n hC.1 hC.2.1 dX2_advance_48 rfl (lv_at hl 1 rfl) ?_
      refine x_callV hC hw (lv_size hl) (c_X2_book l G hW hv9) gX2_advance_X2_book rfl dv_X2_book hW.1 rfl rfl (Nat.le_of_ble_eq_true rfl) (by rw [hRf]; decide) (by rw [hRl]; decide) (by omega) (by omega) dX2_advance_49 (fun r9 M_36 H locs hq hw => ?_)
      obtain ⟨rfl, hM9⟩ := hq
      rw [hM9] at hw
      show W p l e R s m args below meth c H locs _ _ _ (F0 m 52 ls [.ref b, .ref w])
      refine lv_iload_n hC.1 hC.2.1 dX2_advance_52 rfl (lv_at hl 0 rfl) ?_
      refine x_callV hC hw (lv_size hl) (c_X0_keyAt l G hB (show (O t9.b) < 3 by omega) hV (by omega) (by omega) (p0 := z_32) (by omega)) gX2_advance_X0_keyAt rfl dv_X0_keyAt hB.1 rfl rfl (Nat.le_of_ble_eq_true rfl) (by rw [hRf]; decide) (by rw [hRl]; decide) (by omega) (by omega) dX2_advance_53 (fun r9 M_37 H locs hq hw => ?_)
      obtain ⟨z_38, rfl, hM9, hz_38, hz_38b, hz_38k⟩ := hq
      rw [hM9] at hw
      show W p l e R s m args below meth c H locs _ _ _ (F0 m 56 ls [.int (iN (z_38)), .ref w])
      refine x_put (fs2 := [.ref y, .int (iN (z_38)), .int (iN (cd)), .int (iN (tw)), .int (iN (kw))]) hC hw hW.1 rfl hinX2 tyX2 tyX2_ok nmX2 1 (by decide) (List.mem_cons_of_mem _ (List.mem_append_left _ (List.mem_append_left _ (List.mem_append_left _ (List.mem_append_left _ (List.mem_of_getElem? (i := 0) rfl)))))) rfl rfl rfl (Nat.le_of_ble_eq_true rfl) rfl dX2_advance_56 (fun H locs hw => ?_)
      obtain ⟨M_39, hM_40⟩ : ∃ z, z = va_up M w (some (.inr (4, [.ref y, .int (iN (z_38)), .int (iN (cd)), .int (iN (tw)), .int (iN (kw))]))) := ⟨_, rfl⟩
      rw [← hM_40] at hw
      have hW_41 : Wk M_39 w y (iN (z_38)) (iN (tw)) (iN (kw)) cd := ⟨by rw [hM_40, va_up_self], by omega⟩
      have sm_42 := xS1.up hM_40
      have h_43 := hB.kept1 sm_42 (by decide) hW.1
      have h_44 : Vw _ y b (iN t9.lo) (iN t9.up) (iN (swN (O t9.b) t9.lo t9.li)) (iN (ewN (O t9.b) t9.lo t9.li t9.up t9.ui)) t9.li t9.ui := And.intro (x_k1 sm_42 hW.1 (by decide) hv9.1) hv9.2
      refine lv_aload_n hC.1 hC.2.1 dX2_advance_59 rfl (lv_at hl 1 rfl) ?_
      refine x_const hC dX2_advance_60 ?_
      refine x_put (fs2 := [.ref y, .int (iN (z_38)), .int (iN (1)), .int (iN (tw)), .int (iN (kw))]) hC hw hW_41.1 rfl hinX2 tyX2 tyX2_ok nmX2 2 (by decide) (List.mem_cons_of_mem _ (List.mem_append_left _ (List.mem_append_left _ (List.mem_append_left _ (List.mem_append_left _ (List.mem_of_getElem? (i := 2) rfl)))))) rfl rfl rfl (Nat.le_of_ble_eq_true rfl) rfl dX2_advance_61 (fun H locs hw => ?_)
      obtain ⟨M_45, hM_46⟩ : ∃ z, z = va_up M_39 w (some (.inr (4, [.ref y, .int (iN (z_38)), .int (iN (1)), .int (iN (tw)), .int (iN (kw))]))) := ⟨_, rfl⟩
      rw [← hM_46] at hw
      have hW_47 : Wk M_45 w y (iN (z_38)) (iN (tw)) (iN (kw)) 1 := ⟨by rw [hM_46, va_up_self], by omega⟩
      have sm_48 := xS1.up hM_46
      have h_49 := h_43.kept1 sm_48 (by decide) hW_41.1
      have h_50 : Vw _ y b (iN t9.lo) (iN t9.up) (iN (swN (O t9.b) t9.lo t9.li)) (iN (ewN (O t9.b) t9.lo t9.li t9.up t9.ui)) t9.li t9.ui := And.intro (x_k1 sm_48 hW_41.1 (by decide) h_44.1) h_44.2
      refine lv_aload_n hC.1 hC.2.1 dX2_advance_64 rfl (lv_at hl 1 rfl) ?_
      refine lv_aload_n hC.1 hC.2.1 dX2_advance_65 rfl (lv_at hl 1 rfl) ?_
      refine x_callV hC hw (lv_size hl) (c_X2_book l G hW_47 h_50) gX2_advance_X2_book rfl dv_X2_book hW_47.1 rfl rfl (Nat.le_of_ble_eq_true rfl) (by rw [hRf]; decide) (by rw [hRl]; decide) (by omega) (by omega) dX2_advance_66 (fun r9 M_51 H locs hq hw => ?_)
      obtain ⟨rfl, hM9⟩ := hq
      rw [hM9] at hw
      show W p l e R s m args below meth c H locs _ _ _ (F0 m 69 ls [.ref b, .ref w])
      refine x_callV hC hw (lv_size hl) (c_X0_touches l G h_49 (show (O t9.b) < 3 by omega) hV (by omega) (by omega)) gX2_advance_X0_touches rfl dv_X0_touches h_49.1 rfl rfl (Nat.le_of_ble_eq_true rfl) (by rw [hRf]; decide) (by rw [hRl]; decide) (by omega) (by omega) dX2_advance_69 (fun r9 M_52 H locs hq hw => ?_)
      obtain ⟨rfl, hM9⟩ := hq
      rw [hM9] at hw
      show W p l e R s m args below meth c H locs _ _ _ (F0 m 72 ls [.int (iN (t)), .ref w])
      refine x_put (fs2 := [.ref y, .int (iN (z_38)), .int (iN (1)), .int (iN (t)), .int (iN (kw))]) hC hw hW_47.1 rfl hinX2 tyX2 tyX2_ok nmX2 3 (by decide) (List.mem_cons_of_mem _ (List.mem_append_left _ (List.mem_append_left _ (List.mem_append_left _ (List.mem_append_left _ (List.mem_of_getElem? (i := 3) rfl)))))) rfl rfl rfl (Nat.le_of_ble_eq_true rfl) rfl dX2_advance_72 (fun H locs hw => ?_)
      obtain ⟨M_53, hM_54⟩ : ∃ z, z = va_up M_45 w (some (.inr (4, [.ref y, .int (iN (z_38)), .int (iN (1)), .int (iN (t)), .int (iN (kw))]))) := ⟨_, rfl⟩
      rw [← hM_54] at hw
      have hW_55 : Wk M_53 w y (iN (z_38)) (iN (t)) (iN (kw)) 1 := ⟨by rw [hM_54, va_up_self], by omega⟩
      have sm_56 := xS1.up hM_54
      have h_57 := h_49.kept1 sm_56 (by decide) hW_47.1
      have h_58 : Vw _ y b (iN t9.lo) (iN t9.up) (iN (swN (O t9.b) t9.lo t9.li)) (iN (ewN (O t9.b) t9.lo t9.li t9.up t9.ui)) t9.li t9.ui := And.intro (x_k1 sm_56 hW_47.1 (by decide) h_50.1) h_50.2
      refine lv_aload_n hC.1 hC.2.1 dX2_advance_75 rfl (lv_at hl 1 rfl) ?_
      refine x_get hC hw hW_55.1 rfl hinX2 1 (by decide) (List.mem_cons_of_mem _ (List.mem_append_left _ (List.mem_append_left _ (List.mem_append_left _ (List.mem_append_left _ (List.mem_of_getElem? (i := 0) rfl)))))) rfl dX2_advance_76 ?_
      exact x_iret hC hw dX2_advance_79 (by omega) (by omega) ⟨z_38, rfl, by omega, (by rw [if_pos (by omega)]; exact (endP (last := 0) ho ht9 hV hz_32p hz_34p (by omega) (by omega) (by omega)).trans (if_pos rfl)), _, _, _, hW_55, fun a q_w => (((sm_56 a q_w).trans (sm_48 a q_w)).trans (sm_42 a q_w)), by omega⟩
    · refine x_sipush hC dX2_advance_43 (by decide +kernel) ?_
      exact x_iret hC hw dX2_advance_46 (by omega) (by omega) ⟨(-10000), rfl, by omega, (by rw [if_pos (by omega)]; exact (endP (last := 0) ho ht9 hV hz_32p hz_34p (by omega) (by omega) (by omega)).trans (if_pos rfl)), _, _, _, hW, fun a q_w => rfl, by omega⟩
set_option maxHeartbeats 4000000 in
set_option maxRecDepth 100000 in
theorem c_X2_dropLastStep (l : Launch) (G : xG) {M : HM} {b k v : Nat} {no : Int32} {t kc sz : Int} {fk fv : Nat → Int32} {O : OW} {V : BW} {t9 : VT} {y : Nat} {w : Nat} {ps tw kw cd : Int} (hW : Wk M w y (iN (ps)) (iN (tw)) (iN (kw)) cd) (hwr : (0 ≤ tw ∧ tw ≤ 1000000) ∧ (0 ≤ kw ∧ kw ≤ 1000000) ∧ (ps = -10000 ∨ (0 ≤ ps ∧ ps ≤ 99))) (ht9 : t9.ok) (hv9 : Vw M y b (iN t9.lo) (iN t9.up) (iN (swN (O t9.b) t9.lo t9.li)) (iN (ewN (O t9.b) t9.lo t9.li t9.up t9.ui)) t9.li t9.ui) (hB : Bk G M b k v no (iN ((O t9.b : Nat) : Int)) (iN (t)) (iN (kc)) sz fk fv) (ho : O t9.b < 3) (hV : BV (O t9.b) (V t9.b) sz.toNat fk fv) (htt : 0 ≤ t ∧ t ≤ 1000000) (hkk : 0 ≤ kc ∧ kc ≤ 999000) (hps : 0 ≤ ps ∧ ps ≤ 99) : xMet l G yX2_dropLastStep wsX2_dropLastStep 4 92 0 0 [.ref w] M (fun r M1 => r = none ∧ ∃ (kc1 sz1 : Int) (f1 f2 : Nat → Int32), Wk M1 w y (iN (ps)) (iN (tw)) (iN (kc1)) 0 ∧ Bk G M1 b k v no (iN ((O t9.b : Nat) : Int)) (iN (t)) (iN (kc1)) sz1 f1 f2 ∧ BV (O t9.b) (upV (V t9.b) ps.toNat (-10000)) sz1.toNat f1 f2 ∧ kcs (V t9.b) (upV (V t9.b) ps.toNat (-10000)) kc kc1 1 ∧ ∀ a, a ≠ w → a ≠ b → a ≠ k → a ≠ v → M1 a = M a) := by
  refine x_intro (cc := cX2_dropLastStep) (maxL := 1) (ret := none) (by exact pln_RX2) rfl (Nat.le_of_ble_eq_true rfl) ?_
  intro p e R s m args below meth c ls hRf hRc hRs hRl hC hw hl
  obtain ⟨-, -, -, -, hs0, hs1⟩ := id hB
  have hli := hv9.2.1
  have hui := hv9.2.2
  have hrs9 := swN_rng ho ht9
  have hre9 := ewN_rng ho ht9
  have hse9 := sw_le_ew (O t9.b) t9
  have hrs8 : (iN (swN (O t9.b) t9.lo t9.li)).toInt = swN (O t9.b) t9.lo t9.li := iN_toInt ⟨by omega, by omega⟩
  have hre8 : (iN (ewN (O t9.b) t9.lo t9.li t9.up t9.ui)).toInt = ewN (O t9.b) t9.lo t9.li t9.up t9.ui := iN_toInt ⟨by omega, by omega⟩
  have hcd := hW.2
  have hinX2 : ∀ w ∈ wsX20, w ∈ wsX2_dropLastStep := fun w h => (List.mem_cons_of_mem _ (List.mem_append_left _ (List.mem_append_left _ (List.mem_append_right _ h))))
  have hl : lv_has ls 1 [(0, .ref w)] := hl
  refine lv_aload_n hC.1 hC.2.1 dX2_dropLastStep_0 rfl (lv_at hl 0 rfl) ?_
  refine x_callV hC hw (lv_size hl) (c_X2_book l G hW hv9) gX2_dropLastStep_X2_book rfl dv_X2_book hW.1 rfl rfl (Nat.le_of_ble_eq_true rfl) (by rw [hRf]; decide) (by rw [hRl]; decide) (by omega) (by omega) dX2_dropLastStep_1 (fun r9 M_1 H locs hq hw => ?_)
  obtain ⟨rfl, hM9⟩ := hq
  rw [hM9] at hw
  show W p l e R s m args below meth c H locs _ _ _ (F0 m 4 ls [.ref b])
  refine lv_aload_n hC.1 hC.2.1 dX2_dropLastStep_4 rfl (lv_at hl 0 rfl) ?_
  refine x_get hC hw hW.1 rfl hinX2 1 (by decide) (List.mem_cons_of_mem _ (List.mem_append_left _ (List.mem_append_left _ (List.mem_append_left _ (List.mem_append_left _ (List.mem_of_getElem? (i := 0) rfl)))))) rfl dX2_dropLastStep_5 ?_
  refine x_callV hC hw (lv_size hl) (c_X0_removeKey l G hB (show (O t9.b) < 3 by omega) hV (by omega) (by omega) (p0 := ps) (by omega) (by omega)) gX2_dropLastStep_X0_removeKey rfl dv_X0_removeKey hB.1 rfl rfl (Nat.le_of_ble_eq_true rfl) (by rw [hRf]; decide) (by rw [hRl]; decide) (by omega) (by omega) dX2_dropLastStep_8 (fun r9 M_2 H locs hq hw => ?_)
  obtain ⟨z_4, rfl, hz_4, hz_4v, kcu_3, szu_3, fku_3, fvu_3, hBu_3, smu_3, hVu_3, hksu_3, hka1u_3, hkb1u_3⟩ := hq
  obtain ⟨-, -, -, -, hsau_3, hsbu_3⟩ := id hBu_3
  obtain ⟨hkau_3, hkbu_3, -⟩ := id hksu_3
  have sm_5 := (xSm.rf (M := M) (b := b) (k := k) (v := v)).tr (smu_3)
  have h_6 : Vw _ y b (iN t9.lo) (iN t9.up) (iN (swN (O t9.b) t9.lo t9.li)) (iN (ewN (O t9.b) t9.lo t9.li t9.up t9.ui)) t9.li t9.ui := And.intro (x_kB hB smu_3 (by decide) hv9.1) hv9.2
  have h_7 : Wk _ w y (iN (ps)) (iN (tw)) (iN (kw)) cd := And.intro (x_kB hB smu_3 (by decide) hW.1) hW.2
  show W p l e R s m args below meth c H locs _ _ _ (F0 m 11 ls [.int (iN (z_4))])
  refine lv_pop hC.1 hC.2.1 dX2_dropLastStep_11 rfl ?_
  refine lv_aload_n hC.1 hC.2.1 dX2_dropLastStep_12 rfl (lv_at hl 0 rfl) ?_
  refine x_const hC dX2_dropLastStep_13 ?_
  refine x_put (fs2 := [.ref y, .int (iN (ps)), .int (iN (0)), .int (iN (tw)), .int (iN (kw))]) hC hw h_7.1 rfl hinX2 tyX2 tyX2_ok nmX2 2 (by decide) (List.mem_cons_of_mem _ (List.mem_append_left _ (List.mem_append_left _ (List.mem_append_left _ (List.mem_append_left _ (List.mem_of_getElem? (i := 1) rfl)))))) rfl rfl rfl (Nat.le_of_ble_eq_true rfl) rfl dX2_dropLastStep_14 (fun H locs hw => ?_)
  obtain ⟨M_9, hM_10⟩ : ∃ z, z = va_up M_2 w (some (.inr (4, [.ref y, .int (iN (ps)), .int (iN (0)), .int (iN (tw)), .int (iN (kw))]))) := ⟨_, rfl⟩
  rw [← hM_10] at hw
  have hW_11 : Wk M_9 w y (iN (ps)) (iN (tw)) (iN (kw)) 0 := ⟨by rw [hM_10, va_up_self], by omega⟩
  have sm_12 := xS1.up hM_10
  have h_13 := hBu_3.kept1 sm_12 (by decide) h_7.1
  have h_14 : Vw _ y b (iN t9.lo) (iN t9.up) (iN (swN (O t9.b) t9.lo t9.li)) (iN (ewN (O t9.b) t9.lo t9.li t9.up t9.ui)) t9.li t9.ui := And.intro (x_k1 sm_12 h_7.1 (by decide) h_6.1) h_6.2
  refine lv_aload_n hC.1 hC.2.1 dX2_dropLastStep_17 rfl (lv_at hl 0 rfl) ?_
  refine lv_aload_n hC.1 hC.2.1 dX2_dropLastStep_18 rfl (lv_at hl 0 rfl) ?_
  refine x_callV hC hw (lv_size hl) (c_X2_book l G hW_11 h_14) gX2_dropLastStep_X2_book rfl dv_X2_book hW_11.1 rfl rfl (Nat.le_of_ble_eq_true rfl) (by rw [hRf]; decide) (by rw [hRl]; decide) (by omega) (by omega) dX2_dropLastStep_19 (fun r9 M_15 H locs hq hw => ?_)
  obtain ⟨rfl, hM9⟩ := hq
  rw [hM9] at hw
  show W p l e R s m args below meth c H locs _ _ _ (F0 m 22 ls [.ref b, .ref w])
  refine x_callV hC hw (lv_size hl) (c_X0_keyChanges l G h_13 (show (O t9.b) < 3 by omega) hVu_3 (by omega) (by omega)) gX2_dropLastStep_X0_keyChanges rfl dv_X0_keyChanges h_13.1 rfl rfl (Nat.le_of_ble_eq_true rfl) (by rw [hRf]; decide) (by rw [hRl]; decide) (by omega) (by omega) dX2_dropLastStep_22 (fun r9 M_16 H locs hq hw => ?_)
  obtain ⟨rfl, hM9⟩ := hq
  rw [hM9] at hw
  show W p l e R s m args below meth c H locs _ _ _ (F0 m 25 ls [.int (iN (kcu_3)), .ref w])
  refine x_put (fs2 := [.ref y, .int (iN (ps)), .int (iN (0)), .int (iN (tw)), .int (iN (kcu_3))]) hC hw hW_11.1 rfl hinX2 tyX2 tyX2_ok nmX2 4 (by decide) (List.mem_cons_of_mem _ (List.mem_append_left _ (List.mem_append_left _ (List.mem_append_left _ (List.mem_append_left _ (List.mem_of_getElem? (i := 2) rfl)))))) rfl rfl rfl (Nat.le_of_ble_eq_true rfl) rfl dX2_dropLastStep_25 (fun H locs hw => ?_)
  obtain ⟨M_17, hM_18⟩ : ∃ z, z = va_up M_9 w (some (.inr (4, [.ref y, .int (iN (ps)), .int (iN (0)), .int (iN (tw)), .int (iN (kcu_3))]))) := ⟨_, rfl⟩
  rw [← hM_18] at hw
  have hW_19 : Wk M_17 w y (iN (ps)) (iN (tw)) (iN (kcu_3)) 0 := ⟨by rw [hM_18, va_up_self], by omega⟩
  have sm_20 := xS1.up hM_18
  have h_21 := h_13.kept1 sm_20 (by decide) hW_11.1
  have h_22 : Vw _ y b (iN t9.lo) (iN t9.up) (iN (swN (O t9.b) t9.lo t9.li)) (iN (ewN (O t9.b) t9.lo t9.li t9.up t9.ui)) t9.li t9.ui := And.intro (x_k1 sm_20 hW_11.1 (by decide) h_14.1) h_14.2
  exact x_vret hC hw dX2_dropLastStep_28 (by omega) (by omega) ⟨rfl, _, _, _, _, hW_19, h_21, hVu_3, hksu_3, fun a q_w q_b q_k q_v => (((sm_20 a q_w).trans (sm_12 a q_w)).trans (smu_3 a q_b q_k q_v))⟩
