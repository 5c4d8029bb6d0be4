/-! the class: texts, soundness, digest -/
theorem dv_J4_init_da8c8_s : yJ4_init_da8c8.cls ≠ "java/lang/invoke/MethodHandle" ∧ yJ4_init_da8c8.cls ≠ "java/lang/invoke/VarHandle" ∧ (parseMethodDescriptor yJ4_init_da8c8.desc).map (fun d => d.parameters.length) = some 0 := ⟨nmh_RJ4.1, nmh_RJ4.2, pds_11⟩
theorem dv_J4_append_cf468 : yJ4_append_cf468.cls = RJ4 ∧ yJ4_append_cf468.cls ≠ "java/lang/invoke/MethodHandle" ∧ yJ4_append_cf468.cls ≠ "java/lang/invoke/VarHandle" ∧ (parseMethodDescriptor yJ4_append_cf468.desc).map (fun d => d.parameters.length) = some 1 := ⟨rfl, nmh_RJ4.1, nmh_RJ4.2, pds_52⟩
theorem dv_X0_text : yX0_text.cls = RX0 ∧ yX0_text.cls ≠ "java/lang/invoke/MethodHandle" ∧ yX0_text.cls ≠ "java/lang/invoke/VarHandle" ∧ (parseMethodDescriptor yX0_text.desc).map (fun d => d.parameters.length) = some 2 := ⟨rfl, nmh_RX0.1, nmh_RX0.2, pds_53⟩
theorem dv_X0_isInOrder : yX0_isInOrder.cls = RX0 ∧ yX0_isInOrder.cls ≠ "java/lang/invoke/MethodHandle" ∧ yX0_isInOrder.cls ≠ "java/lang/invoke/VarHandle" ∧ (parseMethodDescriptor yX0_isInOrder.desc).map (fun d => d.parameters.length) = some 0 := ⟨rfl, nmh_RX0.1, nmh_RX0.2, pds_16⟩
theorem dv_X0_hasSameTotals : yX0_hasSameTotals.cls = RX0 ∧ yX0_hasSameTotals.cls ≠ "java/lang/invoke/MethodHandle" ∧ yX0_hasSameTotals.cls ≠ "java/lang/invoke/VarHandle" ∧ (parseMethodDescriptor yX0_hasSameTotals.desc).map (fun d => d.parameters.length) = some 1 := ⟨rfl, nmh_RX0.1, nmh_RX0.2, pds_24⟩
theorem dv_X1_isSoundView : yX1_isSoundView.cls = RX1 ∧ yX1_isSoundView.cls ≠ "java/lang/invoke/MethodHandle" ∧ yX1_isSoundView.cls ≠ "java/lang/invoke/VarHandle" ∧ (parseMethodDescriptor yX1_isSoundView.desc).map (fun d => d.parameters.length) = some 0 := ⟨rfl, nmh_RX1.1, nmh_RX1.2, pds_16⟩
theorem dv_X3_mixed_s : yX3_mixed.cls ≠ "java/lang/invoke/MethodHandle" ∧ yX3_mixed.cls ≠ "java/lang/invoke/VarHandle" ∧ (parseMethodDescriptor yX3_mixed.desc).map (fun d => d.parameters.length) = some 2 := ⟨nmh_RX3.1, nmh_RX3.2, pds_51⟩
theorem dv_X3_near : yX3_near.cls = RX3 ∧ yX3_near.cls ≠ "java/lang/invoke/MethodHandle" ∧ yX3_near.cls ≠ "java/lang/invoke/VarHandle" ∧ (parseMethodDescriptor yX3_near.desc).map (fun d => d.parameters.length) = some 3 := ⟨rfl, nmh_RX3.1, nmh_RX3.2, pds_32⟩
theorem dv_X3_ofBook : yX3_ofBook.cls = RX3 ∧ yX3_ofBook.cls ≠ "java/lang/invoke/MethodHandle" ∧ yX3_ofBook.cls ≠ "java/lang/invoke/VarHandle" ∧ (parseMethodDescriptor yX3_ofBook.desc).map (fun d => d.parameters.length) = some 2 := ⟨rfl, nmh_RX3.1, nmh_RX3.2, pds_3⟩
theorem dv_X0_textLength : yX0_textLength.cls = RX0 ∧ yX0_textLength.cls ≠ "java/lang/invoke/MethodHandle" ∧ yX0_textLength.cls ≠ "java/lang/invoke/VarHandle" ∧ (parseMethodDescriptor yX0_textLength.desc).map (fun d => d.parameters.length) = some 2 := ⟨rfl, nmh_RX0.1, nmh_RX0.2, pds_3⟩
theorem dv_X3_viewNear : yX3_viewNear.cls = RX3 ∧ yX3_viewNear.cls ≠ "java/lang/invoke/MethodHandle" ∧ yX3_viewNear.cls ≠ "java/lang/invoke/VarHandle" ∧ (parseMethodDescriptor yX3_viewNear.desc).map (fun d => d.parameters.length) = some 3 := ⟨rfl, nmh_RX3.1, nmh_RX3.2, pds_32⟩
theorem dv_X3_ofView : yX3_ofView.cls = RX3 ∧ yX3_ofView.cls ≠ "java/lang/invoke/MethodHandle" ∧ yX3_ofView.cls ≠ "java/lang/invoke/VarHandle" ∧ (parseMethodDescriptor yX3_ofView.desc).map (fun d => d.parameters.length) = some 2 := ⟨rfl, nmh_RX3.1, nmh_RX3.2, pds_3⟩
theorem dv_X3_isSound : yX3_isSound.cls = RX3 ∧ yX3_isSound.cls ≠ "java/lang/invoke/MethodHandle" ∧ yX3_isSound.cls ≠ "java/lang/invoke/VarHandle" ∧ (parseMethodDescriptor yX3_isSound.desc).map (fun d => d.parameters.length) = some 0 := ⟨rfl, nmh_RX3.1, nmh_RX3.2, pds_16⟩
theorem dv_X3_mixedWithView : yX3_mixedWithView.cls = RX3 ∧ yX3_mixedWithView.cls ≠ "java/lang/invoke/MethodHandle" ∧ yX3_mixedWithView.cls ≠ "java/lang/invoke/VarHandle" ∧ (parseMethodDescriptor yX3_mixedWithView.desc).map (fun d => d.parameters.length) = some 2 := ⟨rfl, nmh_RX3.1, nmh_RX3.2, pds_54⟩
theorem dv_X3_mixedWithBook : yX3_mixedWithBook.cls = RX3 ∧ yX3_mixedWithBook.cls ≠ "java/lang/invoke/MethodHandle" ∧ yX3_mixedWithBook.cls ≠ "java/lang/invoke/VarHandle" ∧ (parseMethodDescriptor yX3_mixedWithBook.desc).map (fun d => d.parameters.length) = some 2 := ⟨rfl, nmh_RX3.1, nmh_RX3.2, pds_54⟩
theorem dv_X3_ledger : yX3_ledger.cls = RX3 ∧ yX3_ledger.cls ≠ "java/lang/invoke/MethodHandle" ∧ yX3_ledger.cls ≠ "java/lang/invoke/VarHandle" ∧ (parseMethodDescriptor yX3_ledger.desc).map (fun d => d.parameters.length) = some 1 := ⟨rfl, nmh_RX3.1, nmh_RX3.2, pds_0⟩
set_option maxHeartbeats 4000000 in
set_option maxRecDepth 100000 in
theorem c_X0_text (l : Launch) (G : xG) {M : HM} {b k v o : Nat} {no : Int32} {t kc sz : Int} {fk fv : Nat → Int32} {V : Nat → Int} (hB : Bk G M b k v no (iN ((o : Nat) : Int)) (iN (t)) (iN (kc)) sz fk fv) (ho : o < 3) (hV : BV o V sz.toNat fk fv) (htt : 0 ≤ t ∧ t ≤ 1000000) (hkk : 0 ≤ kc ∧ kc ≤ 1000000) {p0 p1 : Int} (hp0 : 0 ≤ p0 ∧ p0 ≤ 100) (hp1 : 0 ≤ p1 ∧ p1 ≤ 100) : xMet l G yX0_text wsX0_text 6 137 14 11700 [.ref b, .int (iN (p0)), .int (iN (p1))] M (fun r M1 => ∃ q9 : Nat, r = some (.ref q9) ∧ xExt M M1) := by
  refine x_intro (cc := cX0_text) (maxL := 5) (ret := (some (.object "java/lang/String"))) (by exact pln_RX0) rfl (Nat.le_of_ble_eq_true rfl) ?_
  intro p e R s m args below meth c ls hRf hRc hRs hRl hC hw hl
  have hinJ4 : ∀ w ∈ wsJ40, w ∈ wsX0_text := fun w h => (List.mem_cons_of_mem _ (List.mem_append_left _ (List.mem_append_left _ (List.mem_append_right _ h))))
  have hl : lv_has ls 5 [(0, .ref b), (1, .int (iN (p0))), (2, .int (iN (p1)))] := hl
  refine x_new (fs := [.null, .int 0, .int 0, .int 0]) (ci := 1) hC hw rfl hinJ4 tyJ4 tyJ4_ok (by decide +kernel) (by decide +kernel) (by decide +kernel) (fun j hj => by rcases (show j = 0 ∨ j = 1 ∨ j = 2 ∨ j = 3 by omega) with rfl | rfl | rfl | rfl <;> rfl) (by omega) (by omega) dX0_text_0 (fun q_1 H hq_4 hw => ?_)
  obtain ⟨M_2, hM_3⟩ : ∃ z, z = va_up M q_1 (some (.inr (1, [.null, .int 0, .int 0, .int 0]))) := ⟨_, rfl⟩
  rw [← hM_3] at hw
  have hx_5 : xExt M M_2 := by rw [hM_3]; exact xExt.new hq_4
  have hO_6 := xup_s hM_3
  have h_7 := hB.ext hx_5
  refine lv_dup hC.1 hC.2.1 dX0_text_3 rfl ?_
  refine x_callI hC hw (lv_size hl) (c_J4_init_da8c8 l G hO_6 hq_4 hx_5) gX0_text_J4_init_da8c8 rfl (by decide +kernel) (by decide +kernel) (by decide +kernel) rfl dv_J4_init_da8c8_s rfl (Nat.le_of_ble_eq_true rfl) (by rw [hRf]; decide) (by rw [hRl]; decide) (by first | (rw [hRc]; decide) | omega) (by first | (rw [hRs]; decide) | omega) dX0_text_4 (fun r9 M_8 H locs hq hw => ?_)
  obtain ⟨rfl, vk_9, fk_9, hSk_9⟩ := hq
  have hSk_9 : Sb G M M_8 q_1 vk_9 0 (0) (16) fk_9 := hSk_9
  have hbk_9 := hSk_9.2.2.2.2
  have h_10 := hB.ext hSk_9.1.1
  show W p l e R s m args below meth c H locs _ _ _ (F0 m 7 ls [.ref q_1])
  have hC0 : Ch 16 16 16 1 := by show (16, 16, 16, 1) ∈ chL; decide
  have hM : cuM 16 2600 4606 9180 := Or.inr (Or.inr ⟨rfl, rfl, rfl, rfl⟩)
  refine lv_astore_n (lv' := [(3, .ref q_1), (0, .ref b), (1, .int (iN (p0))), (2, .int (iN (p1)))]) hC.1 hC.2.1 dX0_text_7 rfl hl (by decide) rfl (fun ls hl => ?_)
  refine lv_aload_n hC.1 hC.2.1 dX0_text_8 rfl (lv_at hl 0 rfl) ?_
  refine x_bipush hC dX0_text_9 (by decide +kernel) ?_
  obtain ⟨mcg_11, msg_11, cpg_11, hrg_11, hCg_11, hdg_11, hkg_11⟩ := x_growT hM hC0 (by omega) (need := 0 + 1) (by omega) (by omega)
  refine x_callV hC hw (lv_size hl) (c_J4_append_cf468 l G hSk_9 (p0 := 123) (by omega) (mc := mcg_11) (ms := msg_11) hrg_11 (by omega)) gX0_text_J4_append_cf468 rfl dv_J4_append_cf468 hSk_9.2.1 rfl rfl (Nat.le_of_ble_eq_true rfl) (by rw [hRf]; decide) (by rw [hRl]; decide) (by first | (rw [hRc]; decide) | omega) (by first | (rw [hRs]; decide) | omega) dX0_text_11 (fun r9 M_12 H locs hq hw => ?_)
  obtain ⟨rfl, vk_13, capk_13, fk_13, hSk_13, hck_13⟩ := hq
  have hSk_13 : Sb G M M_12 q_1 vk_13 0 (0 + 1) capk_13 fk_13 := hSk_13
  have hbk_13 := hSk_13.2.2.2.2
  have h_14 := hB.ext hSk_13.1.1
  obtain e_15 : cpg_11 = capk_13 := by (rcases hdg_11 with h7 | h7 <;> rcases hck_13 with h8 | h8 <;> omega)
  rw [e_15] at hCg_11 hkg_11
  clear hrg_11 hdg_11 hck_13
  show W p l e R s m args below meth c H locs _ _ _ (F0 m 14 ls [.ref q_1])
  refine lv_pop hC.1 hC.2.1 dX0_text_14 rfl ?_
  refine lv_iload_n hC.1 hC.2.1 dX0_text_15 rfl (lv_at hl 2 rfl) ?_
  refine lv_istore (lv' := [(4, .int (iN (p0))), (3, .ref q_1), (0, .ref b), (1, .int (iN (p0))), (2, .int (iN (p1)))]) hC.1 hC.2.1 dX0_text_16 hl (by decide) rfl (fun ls hl => ?_)
  suffices hloop18 : ∀ (n9 : Nat) (pl : Int) (cu18 : Nat) (su18 : Nat) (M1 : HM) (v1 cap1 u1 k1 : Nat) (n1 : Int) (f1 : Nat → Int32) (hS1 : Sb G M M1 q_1 v1 0 n1 cap1 f1) (hC1 : Ch 16 cap1 u1 k1) (H : Heap) (locs : List Loc) (ls : Array Slot), (hmz18 : (p1 - pl).toNat < n9) → (hi0 : p0 ≤ pl ∧ pl ≤ p0 + 101) → (hnn : n1 ≤ 1 + 25 * (pl - p0)) → (hie : pl ≤ p1 ∨ pl = p0) → (hcp : cap1 ≤ 4606) → (hup : u1 ≤ 9180 ∧ k1 ≤ 9 ∧ 16 ≤ cap1) → (hcu18 : (cu18 : Int) ≤ 1 + k1) → (hsu18 : (su18 : Int) ≤ 4 + u1) → xD G (xA M s.heap.size) s M1 H locs → lv_has ls 5 [(0, .ref b), (1, .int (iN (p0))), (2, .int (iN (p1))), (3, .ref q_1), (4, .int (iN (pl)))] → W p l e R s m args below meth c H locs cu18 su18 _ (F0 m 18 ls []) by
    exact hloop18 _ p0 (2 + mcg_11) (20 + msg_11) _ _ _ _ _ _ _ hSk_13 hCg_11 _ _ _ (Nat.lt_succ_self _) (by omega) (by omega) (by omega) (by omega) (by omega) (by omega) (by omega) hw (lv_sub hl [2, 3, 4, 1, 0] rfl)
  intro n9
  induction n9 with
  | zero => intro pl cu18 su18 M1 v1 cap1 u1 k1 n1 f1 hS1 hC1 H locs ls hmz; exact absurd hmz (Nat.not_lt_zero _)
  | succ n9 ih18 =>
    intro pl cu18 su18 M1 v1 cap1 u1 k1 n1 f1 hS1 hC1 H locs ls hmz18 hi0 hnn hie hcp hup hcu18 hsu18 hw hl
    have hb1 := hS1.2.2.2.2
    have h_16 := hB.ext hS1.1.1
    refine lv_iload hC.1 hC.2.1 dX0_text_18 (lv_at hl 4 rfl) ?_
    refine lv_iload_n hC.1 hC.2.1 dX0_text_20 rfl (lv_at hl 2 rfl) ?_
    refine x_icmp_ge (tgt := 68) hC ⟨by omega, by omega⟩ ⟨by omega, by omega⟩ dX0_text_21 (by decide) (fun c_17 => ?_) (fun c_17 => ?_)
    · refine lv_aload_n hC.1 hC.2.1 dX0_text_68 rfl (lv_at hl 3 rfl) ?_
      refine x_bipush hC dX0_text_69 (by decide +kernel) ?_
      obtain ⟨mcg_18, msg_18, cpg_18, hrg_18, hCg_18, hdg_18, hkg_18⟩ := x_growT hM hC1 (by omega) (need := n1 + 1) (by omega) (by omega)
      refine x_callV hC hw (lv_size hl) (c_J4_append_cf468 l G hS1 (p0 := 125) (by omega) (mc := mcg_18) (ms := msg_18) hrg_18 (by omega)) gX0_text_J4_append_cf468 rfl dv_J4_append_cf468 hS1.2.1 rfl rfl (Nat.le_of_ble_eq_true rfl) (by rw [hRf]; decide) (by rw [hRl]; decide) (by first | (rw [hRc]; decide) | omega) (by first | (rw [hRs]; decide) | omega) dX0_text_71 (fun r9 M_19 H locs hq hw => ?_)
      obtain ⟨rfl, vk_20, capk_20, fk_20, hSk_20, hck_20⟩ := hq
      have hSk_20 : Sb G M M_19 q_1 vk_20 0 (n1 + 1) capk_20 fk_20 := hSk_20
      have hbk_20 := hSk_20.2.2.2.2
      have h_21 := hB.ext hSk_20.1.1
      obtain e_22 : cpg_18 = capk_20 := by (rcases hdg_18 with h7 | h7 <;> rcases hck_20 with h8 | h8 <;> omega)
      rw [e_22] at hCg_18 hkg_18
      clear hrg_18 hdg_18 hck_20
      show W p l e R s m args below meth c H locs _ _ _ (F0 m 74 ls [.ref q_1])
      refine lv_pop hC.1 hC.2.1 dX0_text_74 rfl ?_
      refine lv_aload_n hC.1 hC.2.1 dX0_text_75 rfl (lv_at hl 3 rfl) ?_
      refine x_callV hC hw (lv_size hl) (c_J4_toString_0e30d l G hSk_20) gX0_text_J4_toString_0e30d rfl dv_J4_toString_0e30d hSk_20.2.1 rfl rfl (Nat.le_of_ble_eq_true rfl) (by rw [hRf]; decide) (by rw [hRl]; decide) (by first | (rw [hRc]; decide) | omega) (by first | (rw [hRs]; decide) | omega) dX0_text_76 (fun r9 M_23 H locs hq hw => ?_)
      obtain ⟨qk_24, vk_24, fk_24, rfl, hxk_24, hVk_24⟩ := hq
      have hx_25 := xExt.tr hSk_20.1.1 hxk_24
      have h_26 := hB.ext hx_25
      show W p l e R s m args below meth c H locs _ _ _ (F0 m 79 ls [.ref qk_24])
      exact x_aret hC hw (by first | exact Or.inl ⟨_, rfl⟩ | exact Or.inr ⟨_, rfl⟩) (Or.inr ⟨_, rfl⟩) dX0_text_79 (by omega) (by omega) ⟨_, rfl, hx_25⟩
    · refine lv_iload hC.1 hC.2.1 dX0_text_24 (lv_at hl 4 rfl) ?_
      refine lv_iload_n hC.1 hC.2.1 dX0_text_26 rfl (lv_at hl 1 rfl) ?_
      refine x_icmp_le (tgt := 37) hC ⟨by omega, by omega⟩ ⟨by omega, by omega⟩ dX0_text_27 (by decide) (fun c_27 => ?_) (fun c_27 => ?_)
      · refine lv_aload_n hC.1 hC.2.1 dX0_text_37 rfl (lv_at hl 3 rfl) ?_
        refine lv_aload_n hC.1 hC.2.1 dX0_text_38 rfl (lv_at hl 0 rfl) ?_
        refine lv_iload hC.1 hC.2.1 dX0_text_39 (lv_at hl 4 rfl) ?_
        refine x_callV hC hw (lv_size hl) (c_X0_keyAt l G h_16 (show o < 3 by first | assumption | omega) hV (by first | assumption | omega) (by first | assumption | omega) (p0 := pl) (by omega)) gX0_text_X0_keyAt rfl dv_X0_keyAt h_16.1 rfl rfl (Nat.le_of_ble_eq_true rfl) (by rw [hRf]; decide) (by rw [hRl]; decide) (by first | (rw [hRc]; decide) | omega) (by first | (rw [hRs]; decide) | omega) dX0_text_41 (fun r9 M_28 H locs hq hw => ?_)
        obtain ⟨z_29, rfl, hM9, hz_29, hz_29b, hz_29k⟩ := hq
        rw [hM9] at hw
        show W p l e R s m args below meth c H locs _ _ _ (F0 m 44 ls [.int (iN (z_29)), .ref q_1])
        have hdld_30 := dgs_le z_29
        obtain ⟨mcg_31, msg_31, cpg_31, hrg_31, hCg_31, hdg_31, hkg_31⟩ := x_growT hM hC1 (by omega) (need := n1 + dgs z_29) (by omega) (by omega)
        refine x_callV hC hw (lv_size hl) (c_J4_append_bf812 l G hS1 (p0 := z_29) (by omega) (mc := mcg_31) (ms := msg_31) hrg_31 (by omega)) gX0_text_J4_append_bf812 rfl dv_J4_append_bf812 hS1.2.1 rfl rfl (Nat.le_of_ble_eq_true rfl) (by rw [hRf]; decide) (by rw [hRl]; decide) (by first | (rw [hRc]; decide) | omega) (by first | (rw [hRs]; decide) | omega) dX0_text_44 (fun r9 M_32 H locs hq hw => ?_)
        obtain ⟨rfl, vk_33, capk_33, fk_33, hSk_33, hck_33⟩ := hq
        have hSk_33 : Sb G M M_32 q_1 vk_33 0 (n1 + dgs z_29) capk_33 fk_33 := hSk_33
        have hbk_33 := hSk_33.2.2.2.2
        have h_34 := hB.ext hSk_33.1.1
        obtain e_35 : cpg_31 = capk_33 := by (rcases hdg_31 with h7 | h7 <;> rcases hck_33 with h8 | h8 <;> omega)
        rw [e_35] at hCg_31 hkg_31
        clear hrg_31 hdg_31 hck_33
        show W p l e R s m args below meth c H locs _ _ _ (F0 m 47 ls [.ref q_1])
        refine x_bipush hC dX0_text_47 (by decide +kernel) ?_
        obtain ⟨mcg_36, msg_36, cpg_36, hrg_36, hCg_36, hdg_36, hkg_36⟩ := x_growT hM hCg_31 (by omega) (need := (n1 + dgs z_29) + 1) (by omega) (by omega)
        refine x_callV hC hw (lv_size hl) (c_J4_append_cf468 l G hSk_33 (p0 := 61) (by omega) (mc := mcg_36) (ms := msg_36) hrg_36 (by omega)) gX0_text_J4_append_cf468 rfl dv_J4_append_cf468 hSk_33.2.1 rfl rfl (Nat.le_of_ble_eq_true rfl) (by rw [hRf]; decide) (by rw [hRl]; decide) (by first | (rw [hRc]; decide) | omega) (by first | (rw [hRs]; decide) | omega) dX0_text_49 (fun r9 M_37 H locs hq hw => ?_)
        obtain ⟨rfl, vk_38, capk_38, fk_38, hSk_38, hck_38⟩ := hq
        have hSk_38 : Sb G M M_37 q_1 vk_38 0 ((n1 + dgs z_29) + 1) capk_38 fk_38 := hSk_38
        have hbk_38 := hSk_38.2.2.2.2
        have h_39 := hB.ext hSk_38.1.1
        obtain e_40 : cpg_36 = capk_38 := by (rcases hdg_36 with h7 | h7 <;> rcases hck_38 with h8 | h8 <;> omega)
        rw [e_40] at hCg_36 hkg_36
        clear hrg_36 hdg_36 hck_38
        show W p l e R s m args below meth c H locs _ _ _ (F0 m 52 ls [.ref q_1])
        refine lv_aload_n hC.1 hC.2.1 dX0_text_52 rfl (lv_at hl 0 rfl) ?_
        refine lv_iload hC.1 hC.2.1 dX0_text_53 (lv_at hl 4 rfl) ?_
        refine x_callV hC hw (lv_size hl) (c_X0_valueAt l G h_39 (show o < 3 by first | assumption | omega) hV (by first | assumption | omega) (by first | assumption | omega) (p0 := pl) (by omega)) gX0_text_X0_valueAt rfl dv_X0_valueAt h_39.1 rfl rfl (Nat.le_of_ble_eq_true rfl) (by rw [hRf]; decide) (by rw [hRl]; decide) (by first | (rw [hRc]; decide) | omega) (by first | (rw [hRs]; decide) | omega) dX0_text_55 (fun r9 M_41 H locs hq hw => ?_)
        obtain ⟨z_42, rfl, hM9, hz_42, hz_42b, hz_42k⟩ := hq
        rw [hM9] at hw
        show W p l e R s m args below meth c H locs _ _ _ (F0 m 58 ls [.int (iN (z_42)), .ref q_1])
        have hdld_43 := dgs_le z_42
        obtain ⟨mcg_44, msg_44, cpg_44, hrg_44, hCg_44, hdg_44, hkg_44⟩ := x_growT hM hCg_36 (by omega) (need := ((n1 + dgs z_29) + 1) + dgs z_42) (by omega) (by omega)
        refine x_callV hC hw (lv_size hl) (c_J4_append_bf812 l G hSk_38 (p0 := z_42) (by omega) (mc := mcg_44) (ms := msg_44) hrg_44 (by omega)) gX0_text_J4_append_bf812 rfl dv_J4_append_bf812 hSk_38.2.1 rfl rfl (Nat.le_of_ble_eq_true rfl) (by rw [hRf]; decide) (by rw [hRl]; decide) (by first | (rw [hRc]; decide) | omega) (by first | (rw [hRs]; decide) | omega) dX0_text_58 (fun r9 M_45 H locs hq hw => ?_)
        obtain ⟨rfl, vk_46, capk_46, fk_46, hSk_46, hck_46⟩ := hq
        have hSk_46 : Sb G M M_45 q_1 vk_46 0 (((n1 + dgs z_29) + 1) + dgs z_42) capk_46 fk_46 := hSk_46
        have hbk_46 := hSk_46.2.2.2.2
        have h_47 := hB.ext hSk_46.1.1
        obtain e_48 : cpg_44 = capk_46 := by (rcases hdg_44 with h7 | h7 <;> rcases hck_46 with h8 | h8 <;> omega)
        rw [e_48] at hCg_44 hkg_44
        clear hrg_44 hdg_44 hck_46
        show W p l e R s m args below meth c H locs _ _ _ (F0 m 61 ls [.ref q_1])
        refine lv_pop hC.1 hC.2.1 dX0_text_61 rfl ?_
        refine x_iinc (lv' := [(4, .int (iN (pl + 1))), (0, .ref b), (1, .int (iN (p0))), (2, .int (iN (p1))), (3, .ref q_1)]) hC dX0_text_62 hl (k := 4) rfl (by decide) rfl (fun ls hl => ?_)
        refine lv_goto (tgt := 18) hC.1 hC.2.1 dX0_text_65 (by decide) ?_
        exact ih18 (pl + 1) (cu18 + 0 + mcg_31 + mcg_36 + 0 + mcg_44) (su18 + 0 + msg_31 + msg_36 + 0 + msg_44) _ _ _ _ _ _ _ hSk_46 hCg_44 _ _ _ (by first | exact mu_s hmz18 (by omega) | omega) (by omega) (by omega) (by omega) (by omega) (by omega) (by omega) (by omega) hw (lv_sub hl [1, 2, 3, 4, 0] rfl)
      · refine lv_aload_n hC.1 hC.2.1 dX0_text_30 rfl (lv_at hl 3 rfl) ?_
        refine x_ldcS (G := G) hC 14 (tx := ", ") rfl dX0_text_31 ?_
        have hLl_49 : (("Rangeledger$Book", 130, ", ", [44, 32]) : String × Nat × String × List Int32).2.2.2.length = 2 := rfl
        obtain ⟨mcg_50, msg_50, cpg_50, hrg_50, hCg_50, hdg_50, hkg_50⟩ := x_growT hM hC1 (by omega) (need := n1 + (2 : Int)) (by omega) (by omega)
        refine x_callV hC hw (lv_size hl) (c_J4_append_15ec4 l G hS1 (nl := 14) rfl (by intro i; exact xlb_14 i) (by decide) (mc := mcg_50) (ms := msg_50) hrg_50 (by omega)) gX0_text_J4_append_15ec4 rfl dv_J4_append_15ec4 hS1.2.1 rfl rfl (Nat.le_of_ble_eq_true rfl) (by rw [hRf]; decide) (by rw [hRl]; decide) (by first | (rw [hRc]; decide) | omega) (by first | (rw [hRs]; decide) | omega) dX0_text_33 (fun r9 M_51 H locs hq hw => ?_)
        obtain ⟨rfl, vk_52, capk_52, fk_52, hSk_52, hck_52⟩ := hq
        have hSk_52 : Sb G M M_51 q_1 vk_52 0 (n1 + 2) capk_52 fk_52 := hSk_52
        have hbk_52 := hSk_52.2.2.2.2
        have h_53 := hB.ext hSk_52.1.1
        obtain e_54 : cpg_50 = capk_52 := by (rcases hdg_50 with h7 | h7 <;> rcases hck_52 with h8 | h8 <;> omega)
        rw [e_54] at hCg_50 hkg_50
        clear hrg_50 hdg_50 hck_52
        show W p l e R s m args below meth c H locs _ _ _ (F0 m 36 ls [.ref q_1])
        refine lv_pop hC.1 hC.2.1 dX0_text_36 rfl ?_
        refine lv_aload_n hC.1 hC.2.1 dX0_text_37 rfl (lv_at hl 3 rfl) ?_
        refine lv_aload_n hC.1 hC.2.1 dX0_text_38 rfl (lv_at hl 0 rfl) ?_
        refine lv_iload hC.1 hC.2.1 dX0_text_39 (lv_at hl 4 rfl) ?_
        refine x_callV hC hw (lv_size hl) (c_X0_keyAt l G h_53 (show o < 3 by first | assumption | omega) hV (by first | assumption | omega) (by first | assumption | omega) (p0 := pl) (by omega)) gX0_text_X0_keyAt rfl dv_X0_keyAt h_53.1 rfl rfl (Nat.le_of_ble_eq_true rfl) (by rw [hRf]; decide) (by rw [hRl]; decide) (by first | (rw [hRc]; decide) | omega) (by first | (rw [hRs]; decide) | omega) dX0_text_41 (fun r9 M_55 H locs hq hw => ?_)
        obtain ⟨z_56, rfl, hM9, hz_56, hz_56b, hz_56k⟩ := hq
        rw [hM9] at hw
        show W p l e R s m args below meth c H locs _ _ _ (F0 m 44 ls [.int (iN (z_56)), .ref q_1])
        have hdld_57 := dgs_le z_56
        obtain ⟨mcg_58, msg_58, cpg_58, hrg_58, hCg_58, hdg_58, hkg_58⟩ := x_growT hM hCg_50 (by omega) (need := (n1 + 2) + dgs z_56) (by omega) (by omega)
        refine x_callV hC hw (lv_size hl) (c_J4_append_bf812 l G hSk_52 (p0 := z_56) (by omega) (mc := mcg_58) (ms := msg_58) hrg_58 (by omega)) gX0_text_J4_append_bf812 rfl dv_J4_append_bf812 hSk_52.2.1 rfl rfl (Nat.le_of_ble_eq_true rfl) (by rw [hRf]; decide) (by rw [hRl]; decide) (by first | (rw [hRc]; decide) | omega) (by first | (rw [hRs]; decide) | omega) dX0_text_44 (fun r9 M_59 H locs hq hw => ?_)
        obtain ⟨rfl, vk_60, capk_60, fk_60, hSk_60, hck_60⟩ := hq
        have hSk_60 : Sb G M M_59 q_1 vk_60 0 ((n1 + 2) + dgs z_56) capk_60 fk_60 := hSk_60
        have hbk_60 := hSk_60.2.2.2.2
        have h_61 := hB.ext hSk_60.1.1
        obtain e_62 : cpg_58 = capk_60 := by (rcases hdg_58 with h7 | h7 <;> rcases hck_60 with h8 | h8 <;> omega)
        rw [e_62] at hCg_58 hkg_58
        clear hrg_58 hdg_58 hck_60
        show W p l e R s m args below meth c H locs _ _ _ (F0 m 47 ls [.ref q_1])
        refine x_bipush hC dX0_text_47 (by decide +kernel) ?_
        obtain ⟨mcg_63, msg_63, cpg_63, hrg_63, hCg_63, hdg_63, hkg_63⟩ := x_growT hM hCg_58 (by omega) (need := ((n1 + 2) + dgs z_56) + 1) (by omega) (by omega)
        refine x_callV hC hw (lv_size hl) (c_J4_append_cf468 l G hSk_60 (p0 := 61) (by omega) (mc := mcg_63) (ms := msg_63) hrg_63 (by omega)) gX0_text_J4_append_cf468 rfl dv_J4_append_cf468 hSk_60.2.1 rfl rfl (Nat.le_of_ble_eq_true rfl) (by rw [hRf]; decide) (by rw [hRl]; decide) (by first | (rw [hRc]; decide) | omega) (by first | (rw [hRs]; decide) | omega) dX0_text_49 (fun r9 M_64 H locs hq hw => ?_)
        obtain ⟨rfl, vk_65, capk_65, fk_65, hSk_65, hck_65⟩ := hq
        have hSk_65 : Sb G M M_64 q_1 vk_65 0 (((n1 + 2) + dgs z_56) + 1) capk_65 fk_65 := hSk_65
        have hbk_65 := hSk_65.2.2.2.2
        have h_66 := hB.ext hSk_65.1.1
        obtain e_67 : cpg_63 = capk_65 := by (rcases hdg_63 with h7 | h7 <;> rcases hck_65 with h8 | h8 <;> omega)
        rw [e_67] at hCg_63 hkg_63
        clear hrg_63 hdg_63 hck_65
        show W p l e R s m args below meth c H locs _ _ _ (F0 m 52 ls [.ref q_1])
        refine lv_aload_n hC.1 hC.2.1 dX0_text_52 rfl (lv_at hl 0 rfl) ?_
        refine lv_iload hC.1 hC.2.1 dX0_text_53 (lv_at hl 4 rfl) ?_
        refine x_callV hC hw (lv_size hl) (c_X0_valueAt l G h_66 (show o < 3 by first | assumption | omega) hV (by first | assumption | omega) (by first | assumption | omega) (p0 := pl) (by omega)) gX0_text_X0_valueAt rfl dv_X0_valueAt h_66.1 rfl rfl (Nat.le_of_ble_eq_true rfl) (by rw [hRf]; decide) (by rw [hRl]; decide) (by first | (rw [hRc]; decide) | omega) (by first | (rw [hRs]; decide) | omega) dX0_text_55 (fun r9 M_68 H locs hq hw => ?_)
        obtain ⟨z_69, rfl, hM9, hz_69, hz_69b, hz_69k⟩ := hq
        rw [hM9] at hw
        show W p l e R s m args below meth c H locs _ _ _ (F0 m 58 ls [.int (iN (z_69)), .ref q_1])
        have hdld_70 := dgs_le z_69
        obtain ⟨mcg_71, msg_71, cpg_71, hrg_71, hCg_71, hdg_71, hkg_71⟩ := x_growT hM hCg_63 (by omega) (need := (((n1 + 2) + dgs z_56) + 1) + dgs z_69) (by omega) (by omega)
        refine x_callV hC hw (lv_size hl) (c_J4_append_bf812 l G hSk_65 (p0 := z_69) (by omega) (mc := mcg_71) (ms := msg_71) hrg_71 (by omega)) gX0_text_J4_append_bf812 rfl dv_J4_append_bf812 hSk_65.2.1 rfl rfl (Nat.le_of_ble_eq_true rfl) (by rw [hRf]; decide) (by rw [hRl]; decide) (by first | (rw [hRc]; decide) | omega) (by first | (rw [hRs]; decide) | omega) dX0_text_58 (fun r9 M_72 H locs hq hw => ?_)
        obtain ⟨rfl, vk_73, capk_73, fk_73, hSk_73, hck_73⟩ := hq
        have hSk_73 : Sb G M M_72 q_1 vk_73 0 ((((n1 + 2) + dgs z_56) + 1) + dgs z_69) capk_73 fk_73 := hSk_73
        have hbk_73 := hSk_73.2.2.2.2
        have h_74 := hB.ext hSk_73.1.1
        obtain e_75 : cpg_71 = capk_73 := by (rcases hdg_71 with h7 | h7 <;> rcases hck_73 with h8 | h8 <;> omega)
        rw [e_75] at hCg_71 hkg_71
        clear hrg_71 hdg_71 hck_73
        show W p l e R s m args below meth c H locs _ _ _ (F0 m 61 ls [.ref q_1])
        refine lv_pop hC.1 hC.2.1 dX0_text_61 rfl ?_
        refine x_iinc (lv' := [(4, .int (iN (pl + 1))), (0, .ref b), (1, .int (iN (p0))), (2, .int (iN (p1))), (3, .ref q_1)]) hC dX0_text_62 hl (k := 4) rfl (by decide) rfl (fun ls hl => ?_)
        refine lv_goto (tgt := 18) hC.1 hC.2.1 dX0_text_65 (by decide) ?_
        exact ih18 (pl + 1) (cu18 + mcg_50 + 0 + mcg_58 + mcg_63 + 0 + mcg_71) (su18 + msg_50 + 0 + msg_58 + msg_63 + 0 + msg_71) _ _ _ _ _ _ _ hSk_73 hCg_71 _ _ _ (by first | exact mu_s hmz18 (by omega) | omega) (by omega) (by omega) (by omega) (by omega) (by omega) (by omega) (by omega) hw (lv_sub hl [1, 2, 3, 4, 0] rfl)
set_option maxHeartbeats 4000000 in
set_option maxRecDepth 100000 in
theorem c_X3_row (l : Launch) (G : xG) {M : HM} (hst : l.stackTraces = false) {h0 bs vs : Nat} {og : Option Nat} {kk kv rf : Int32} {qb qk qv : Nat → Nat} {fb fv : Nat → Option Nat} {O : OW} {Wv : VW} {V : BW} {T C : Nat → Int} {K : WA} {N : Int} (hR : RGx G M h0 bs vs og kk kv rf qb qk qv fb fv O O Wv V T C K) (hcb : cbN N T C) (hN : N ≤ 590) {p0 : Int} (hp0 : -2147483648 ≤ p0 ∧ p0 ≤ 2147483647) : xMetX l G yX3_row wsX3_row 7 161 15 11706 [.ref h0, .int (iN (p0))] M (fun r M1 => ∃ q : Nat, r = some (.ref q) ∧ ((0 ≤ p0 ∧ p0 ≤ 2)) ∧ RG G M1 h0 (N + 1) (O, V, Wv, abK T C K, kk, kv, rf)) (fun E M1 => ((E = xIO ∧ ¬ (0 ≤ p0 ∧ p0 ≤ 2))) ∧ RG G M1 h0 (N + 1) (O, V, Wv, abK T C K, kk, kv, rf)) := by
  refine x_introX (cc := cX3_row) (maxL := 3) (ret := (some (.object "java/lang/String"))) (by exact pln_RX3) rfl (Nat.le_of_ble_eq_true rfl) ?_
  intro p e R s m args below meth c ls hRf hRc hRs hRl htab hC hw hl
  have hl : lv_has ls 3 [(0, .ref h0), (1, .int (iN (p0)))] := hl
  refine lv_aload_n hC.1 hC.2.1 dX3_row_0 rfl (lv_at hl 0 rfl) ?_
  refine lv_iload_n hC.1 hC.2.1 dX3_row_1 rfl (lv_at hl 1 rfl) ?_
  refine x_callVX hC hw (lv_size hl) (c_X3_bookAt l G hst hR hcb hN (p0 := p0) (by first | assumption | omega)) gX3_row_X3_bookAt rfl dv_X3_bookAt hR.1 rfl rfl (Nat.le_of_ble_eq_true rfl) (by rw [hRf]; decide) (by rw [hRl]; decide) (by first | (rw [hRc]; decide) | omega) (by first | (rw [hRs]; decide) | omega) dX3_row_2 (fun E ce q9 M_1 H locs hqx hw hcell hcv hcls => ?_) (fun r9 M_1 H locs hq hw => ?_)
  · rw [hqx.2] at hw
    obtain ⟨hE, hc9⟩ := hqx.1
    replace hqx := hqx.2
    subst hE
    exact x_outX hC hw htab hcell hcv hcls (by first | decide | omega) (by first | decide | omega) ⟨⟨rfl, (by first | exact hc9 | omega | trivial)⟩, (RG.of (N2 := N + 1) hR hcb (by omega) (by omega))⟩
  obtain ⟨rfl, hM9, hk_2, hk_2b⟩ := hq
  rw [hM9] at hw
  have hik_2 : (p0).toNat < 3 := by omega
  obtain ⟨szx_3, fkx_3, fwx_3, hBx_3, hVx_3⟩ := hR.bk hik_2
  obtain ⟨-, -, -, -, hsax_3, hsbx_3⟩ := id hBx_3
  have holx_3 := hR.ol hik_2
  have hctx_3 := hcb.2 _ hik_2
  show W p l e R s m args below meth c H locs _ _ _ (F0 m 5 ls [.ref (qb ((p0).toNat))])
  refine lv_astore_n (lv' := [(2, .ref (qb ((p0).toNat))), (0, .ref h0), (1, .int (iN (p0)))]) hC.1 hC.2.1 dX3_row_5 rfl hl (by decide) rfl (fun ls hl => ?_)
  refine lv_aload_n hC.1 hC.2.1 dX3_row_6 rfl (lv_at hl 0 rfl) ?_
  refine x_const hC dX3_row_7 ?_
  refine lv_aload_n hC.1 hC.2.1 dX3_row_8 rfl (lv_at hl 0 rfl) ?_
  refine x_callV hC hw (lv_size hl) (c_X0_size l G hBx_3 (show (O ((p0).toNat)) < 3 by first | assumption | omega) hVx_3 (by first | assumption | omega) (by first | assumption | omega)) gX3_row_X0_size rfl dv_X0_size hBx_3.1 rfl rfl (Nat.le_of_ble_eq_true rfl) (by rw [hRf]; decide) (by rw [hRl]; decide) (by first | (rw [hRc]; decide) | omega) (by first | (rw [hRs]; decide) | omega) dX3_row_9 (fun r9 M_4 H locs hq hw => ?_)
  obtain ⟨rfl, hM9⟩ := hq
  rw [hM9] at hw
  show W p l e R s m args below meth c H locs _ _ _ (F0 m 12 ls [.int (iN (szx_3)), .int (iN (0)), .ref (qb ((p0).toNat))])
  refine x_callV hC hw (lv_size hl) (c_X0_text l G hBx_3 (show (O ((p0).toNat)) < 3 by first | assumption | omega) hVx_3 (by first | assumption | omega) (by first | assumption | omega) (p0 := 0) (p1 := szx_3) (by omega) (by omega)) gX3_row_X0_text rfl dv_X0_text hBx_3.1 rfl rfl (Nat.le_of_ble_eq_true rfl) (by rw [hRf]; decide) (by rw [hRl]; decide) (by first | (rw [hRc]; decide) | omega) (by first | (rw [hRs]; decide) | omega) dX3_row_12 (fun r9 M_5 H locs hq hw => ?_)
  obtain ⟨qk_6, rfl, hxk_6⟩ := hq
  have h_7 := hR.ext hxk_6
  have h_8 := hBx_3.ext hxk_6
  show W p l e R s m args below meth c H locs _ _ _ (F0 m 15 ls [.ref qk_6])
  exact vx_ret (x_aret hC hw (by first | exact Or.inl ⟨_, rfl⟩ | exact Or.inr ⟨_, rfl⟩) (Or.inr ⟨_, rfl⟩) dX3_row_15 (by omega) (by omega) ⟨_, rfl, by first | omega | trivial, (RG.of (N2 := N + 1) h_7 hcb (by omega) (by omega))⟩)
set_option maxHeartbeats 4000000 in
set_option maxRecDepth 100000 in
theorem c_X3_viewRow (l : Launch) (G : xG) {M : HM} (hst : l.stackTraces = false) {h0 bs vs : Nat} {og : Option Nat} {kk kv rf : Int32} {qb qk qv : Nat → Nat} {fb fv : Nat → Option Nat} {O : OW} {Wv : VW} {V : BW} {T C : Nat → Int} {K : WA} {N : Int} (hR : RGx G M h0 bs vs og kk kv rf qb qk qv fb fv O O Wv V T C K) (hcb : cbN N T C) (hN : N ≤ 590) {p0 : Int} (hp0 : -2147483648 ≤ p0 ∧ p0 ≤ 2147483647) : xMetX l G yX3_viewRow wsX3_viewRow 7 161 15 11706 [.ref h0, .int (iN (p0))] M (fun r M1 => ∃ q : Nat, r = some (.ref q) ∧ ((0 ≤ p0 ∧ p0 ≤ 3 ∧ opN (Wv p0.toNat) = 1)) ∧ RG G M1 h0 (N + 1) (O, V, Wv, abK T C K, kk, kv, rf)) (fun E M1 => ((E = xIO ∧ ¬ (0 ≤ p0 ∧ p0 ≤ 3 ∧ opN (Wv p0.toNat) = 1))) ∧ RG G M1 h0 (N + 1) (O, V, Wv, abK T C K, kk, kv, rf)) := by
  refine x_introX (cc := cX3_viewRow) (maxL := 3) (ret := (some (.object "java/lang/String"))) (by exact pln_RX3) rfl (Nat.le_of_ble_eq_true rfl) ?_
  intro p e R s m args below meth c ls hRf hRc hRs hRl htab hC hw hl
  have hl : lv_has ls 3 [(0, .ref h0), (1, .int (iN (p0)))] := hl
  refine lv_aload_n hC.1 hC.2.1 dX3_viewRow_0 rfl (lv_at hl 0 rfl) ?_
  refine lv_iload_n hC.1 hC.2.1 dX3_viewRow_1 rfl (lv_at hl 1 rfl) ?_
  refine x_callVX hC hw (lv_size hl) (c_X3_viewAt l G hst hR hcb hN (p0 := p0) (by first | assumption | omega)) gX3_viewRow_X3_viewAt rfl dv_X3_viewAt hR.1 rfl rfl (Nat.le_of_ble_eq_true rfl) (by rw [hRf]; decide) (by rw [hRl]; decide) (by first | (rw [hRc]; decide) | omega) (by first | (rw [hRs]; decide) | omega) dX3_viewRow_2 (fun E ce q9 M_1 H locs hqx hw hcell hcv hcls => ?_) (fun r9 M_1 H locs hq hw => ?_)
  · rw [hqx.2] at hw
    obtain ⟨hE, hc9⟩ := hqx.1
    replace hqx := hqx.2
    subst hE
    exact x_outX hC hw htab hcell hcv hcls (by first | decide | omega) (by first | decide | omega) ⟨⟨rfl, (by first | exact hc9 | omega | trivial)⟩, (RG.of (N2 := N + 1) hR hcb (by omega) (by omega))⟩
  obtain ⟨y_3, rfl, hM9, hk_2, hk_2b, hyk_2⟩ := hq
  rw [hM9] at hw
  obtain ⟨ux_4, hux_4, hTx_4⟩ := (hR.vwo (show (p0).toNat < 4 from tn_lt (by omega) (by decide))).yes hyk_2
  have hpx_4 := opN_some hux_4
  have hkx_5 := hTx_4.1
  have hvx_5 := hTx_4.2
  have hlix_5 := hvx_5.2.1
  have huix_5 := hvx_5.2.2
  obtain ⟨htax_5, htbx_5, htcx_5, htdx_5, htex_5⟩ := id hkx_5
  obtain ⟨szx_6, fkx_6, fwx_6, hBx_6, hVx_6⟩ := hR.bk htax_5
  obtain ⟨-, -, -, -, hsax_6, hsbx_6⟩ := id hBx_6
  have holx_6 := hR.ol htax_5
  have hctx_6 := hcb.2 _ htax_5
  show W p l e R s m args below meth c H locs _ _ _ (F0 m 5 ls [.ref y_3])
  refine lv_astore_n (lv' := [(2, .ref y_3), (0, .ref h0), (1, .int (iN (p0)))]) hC.1 hC.2.1 dX3_viewRow_5 rfl hl (by decide) rfl (fun ls hl => ?_)
  refine lv_aload_n hC.1 hC.2.1 dX3_viewRow_6 rfl (lv_at hl 0 rfl) ?_
  refine x_callV hC hw (lv_size hl) (c_X1_book l G hvx_5) gX3_viewRow_X1_book rfl dv_X1_book hvx_5.1 rfl rfl (Nat.le_of_ble_eq_true rfl) (by rw [hRf]; decide) (by rw [hRl]; decide) (by first | (rw [hRc]; decide) | omega) (by first | (rw [hRs]; decide) | omega) dX3_viewRow_7 (fun r9 M_7 H locs hq hw => ?_)
  obtain ⟨rfl, hM9⟩ := hq
  rw [hM9] at hw
  show W p l e R s m args below meth c H locs _ _ _ (F0 m 10 ls [.ref (qb ux_4.b)])
  refine lv_aload_n hC.1 hC.2.1 dX3_viewRow_10 rfl (lv_at hl 0 rfl) ?_
  refine x_callV hC hw (lv_size hl) (c_X1_start l G hkx_5 hvx_5 hBx_6 (show (O ux_4.b) < 3 by first | assumption | omega) hVx_6 (by first | assumption | omega) (by first | assumption | omega) (O := O) (V := V) (t9 := ux_4)) gX3_viewRow_X1_start rfl dv_X1_start hvx_5.1 rfl rfl (Nat.le_of_ble_eq_true rfl) (by rw [hRf]; decide) (by rw [hRl]; decide) (by first | (rw [hRc]; decide) | omega) (by first | (rw [hRs]; decide) | omega) dX3_viewRow_11 (fun r9 M_8 H locs hq hw => ?_)
  obtain ⟨z_9, rfl, hM9, hz_9a, hz_9b, hz_9p⟩ := hq
  rw [hM9] at hw
  show W p l e R s m args below meth c H locs _ _ _ (F0 m 14 ls [.int (iN (z_9)), .ref (qb ux_4.b)])
  refine lv_aload_n hC.1 hC.2.1 dX3_viewRow_14 rfl (lv_at hl 0 rfl) ?_
  refine x_callV hC hw (lv_size hl) (c_X1_end l G hkx_5 hvx_5 hBx_6 (show (O ux_4.b) < 3 by first | assumption | omega) hVx_6 (by first | assumption | omega) (by first | assumption | omega) (O := O) (V := V) (t9 := ux_4)) gX3_viewRow_X1_end rfl dv_X1_end hvx_5.1 rfl rfl (Nat.le_of_ble_eq_true rfl) (by rw [hRf]; decide) (by rw [hRl]; decide) (by first | (rw [hRc]; decide) | omega) (by first | (rw [hRs]; decide) | omega) dX3_viewRow_15 (fun r9 M_10 H locs hq hw => ?_)
  obtain ⟨z_11, rfl, hM9, hz_11a, hz_11b, hz_11p⟩ := hq
  rw [hM9] at hw
  show W p l e R s m args below meth c H locs _ _ _ (F0 m 18 ls [.int (iN (z_11)), .int (iN (z_9)), .ref (qb ux_4.b)])
  refine x_callV hC hw (lv_size hl) (c_X0_text l G hBx_6 (show (O ux_4.b) < 3 by first | assumption | omega) hVx_6 (by first | assumption | omega) (by first | assumption | omega) (p0 := z_9) (p1 := z_11) (by omega) (by omega)) gX3_viewRow_X0_text rfl dv_X0_text hBx_6.1 rfl rfl (Nat.le_of_ble_eq_true rfl) (by rw [hRf]; decide) (by rw [hRl]; decide) (by first | (rw [hRc]; decide) | omega) (by first | (rw [hRs]; decide) | omega) dX3_viewRow_18 (fun r9 M_12 H locs hq hw => ?_)
  obtain ⟨qk_13, rfl, hxk_13⟩ := hq
  have h_14 := hR.ext hxk_13
  have h_15 := hBx_6.ext hxk_13
  have h_16 : Vw M_12 y_3 (qb ux_4.b) (iN ux_4.lo) (iN ux_4.up) (iN (swN (O ux_4.b) ux_4.lo ux_4.li)) (iN (ewN (O ux_4.b) ux_4.lo ux_4.li ux_4.up ux_4.ui)) ux_4.li ux_4.ui := ⟨hxk_13 _ _ hvx_5.1, hvx_5.2⟩
  show W p l e R s m args below meth c H locs _ _ _ (F0 m 21 ls [.ref qk_13])
  exact vx_ret (x_aret hC hw (by first | exact Or.inl ⟨_, rfl⟩ | exact Or.inr ⟨_, rfl⟩) (Or.inr ⟨_, rfl⟩) dX3_viewRow_21 (by omega) (by omega) ⟨_, rfl, by first | omega | trivial, (RG.of (N2 := N + 1) h_14 hcb (by omega) (by omega))⟩)
set_option maxHeartbeats 4000000 in
set_option maxRecDepth 100000 in
theorem c_X3_checkKey_ok (l : Launch) (G : xG) {M : HM} {p0 : Int} (hp0 : -2147483648 ≤ p0 ∧ p0 ≤ 2147483647) (hok : 0 ≤ p0 ∧ p0 ≤ 99) : xMet l G yX3_checkKey wsX3_checkKey 6 90 0 0 [.int (iN (p0))] M (fun r M1 => r = none ∧ M1 = M ∧ (0 ≤ p0 ∧ p0 ≤ 99)) := by
  refine x_intro (cc := cX3_checkKey) (maxL := 1) (ret := none) (by exact pln_RX3) rfl (Nat.le_of_ble_eq_true rfl) ?_
  intro p e R s m args below meth c ls hRf hRc hRs hRl hC hw hl
  have hl : lv_has ls 1 [(0, .int (iN (p0)))] := hl
  refine lv_iload_n hC.1 hC.2.1 dX3_checkKey_0 rfl (lv_at hl 0 rfl) ?_
  refine x_if_lt (tgt := 10) hC ⟨by omega, by omega⟩ dX3_checkKey_1 (by decide) (fun c_1 => ?_) (fun c_1 => ?_)
  · exfalso; omega
  · refine lv_iload_n hC.1 hC.2.1 dX3_checkKey_4 rfl (lv_at hl 0 rfl) ?_
    refine x_bipush hC dX3_checkKey_5 (by decide +kernel) ?_
    refine x_icmp_lt (tgt := 21) hC ⟨by omega, by omega⟩ ⟨by omega, by omega⟩ dX3_checkKey_7 (by decide) (fun c_2 => ?_) (fun c_2 => ?_)
    · exact x_vret hC hw dX3_checkKey_21 (by first | decide | omega) (by first | decide | omega) ⟨rfl, rfl, by omega⟩
    · exfalso; omega
set_option maxHeartbeats 4000000 in
set_option maxRecDepth 100000 in
theorem c_X3_checkWhat_ok (l : Launch) (G : xG) {M : HM} {p0 : Int} (hp0 : -2147483648 ≤ p0 ∧ p0 ≤ 2147483647) {p1 : Int} (hp1 : -2147483648 ≤ p1 ∧ p1 ≤ 2147483647) (hok : 0 ≤ p0 ∧ p0 ≤ p1) : xMet l G yX3_checkWhat wsX3_checkWhat 6 90 0 0 [.int (iN (p0)), .int (iN (p1))] M (fun r M1 => r = none ∧ M1 = M ∧ (0 ≤ p0 ∧ p0 ≤ p1)) := by
  refine x_intro (cc := cX3_checkWhat) (maxL := 2) (ret := none) (by exact pln_RX3) rfl (Nat.le_of_ble_eq_true rfl) ?_
  intro p e R s m args below meth c ls hRf hRc hRs hRl hC hw hl
  have hl : lv_has ls 2 [(0, .int (iN (p0))), (1, .int (iN (p1)))] := hl
  refine lv_iload_n hC.1 hC.2.1 dX3_checkWhat_0 rfl (lv_at hl 0 rfl) ?_
  refine x_if_lt (tgt := 9) hC ⟨by omega, by omega⟩ dX3_checkWhat_1 (by decide) (fun c_1 => ?_) (fun c_1 => ?_)
  · exfalso; omega
  · refine lv_iload_n hC.1 hC.2.1 dX3_checkWhat_4 rfl (lv_at hl 0 rfl) ?_
    refine lv_iload_n hC.1 hC.2.1 dX3_checkWhat_5 rfl (lv_at hl 1 rfl) ?_
    refine x_icmp_le (tgt := 20) hC ⟨by omega, by omega⟩ ⟨by omega, by omega⟩ dX3_checkWhat_6 (by decide) (fun c_2 => ?_) (fun c_2 => ?_)
    · exact x_vret hC hw dX3_checkWhat_20 (by first | decide | omega) (by first | decide | omega) ⟨rfl, rfl, by omega⟩
    · exfalso; omega
set_option maxHeartbeats 4000000 in
set_option maxRecDepth 100000 in
theorem c_X3_bookAt_ok (l : Launch) (G : xG) {M : HM} {h0 bs vs : Nat} {og : Option Nat} {kk kv rf : Int32} {qb qk qv : Nat → Nat} {fb fv : Nat → Option Nat} {O : OW} {Wv : VW} {V : BW} {T C : Nat → Int} {K : WA} {N : Int} (hR : RGx G M h0 bs vs og kk kv rf qb qk qv fb fv O O Wv V T C K) (hcb : cbN N T C) (hN : N ≤ 590) {p0 : Int} (hp0 : -2147483648 ≤ p0 ∧ p0 ≤ 2147483647) (hob : 0 ≤ p0 ∧ p0 < 3) : xMet l G yX3_bookAt wsX3_bookAt 6 90 0 0 [.ref h0, .int (iN (p0))] M (fun r M1 => r = some (.ref (qb p0.toNat)) ∧ M1 = M ∧ 0 ≤ p0 ∧ p0 < 3) := by
  refine x_intro (cc := cX3_bookAt) (maxL := 2) (ret := (some (.object "Rangeledger$Book"))) (by exact pln_RX3) rfl (Nat.le_of_ble_eq_true rfl) ?_
  intro p e R s m args below meth c ls hRf hRc hRs hRl hC hw hl
  have hinX3 : ∀ w ∈ wsX30, w ∈ wsX3_bookAt := fun w h => (List.mem_cons_of_mem _ (List.mem_append_left _ (List.mem_append_right _ h)))
  have hl : lv_has ls 2 [(0, .ref h0), (1, .int (iN (p0)))] := hl
  refine lv_iload_n hC.1 hC.2.1 dX3_bookAt_0 rfl (lv_at hl 1 rfl) ?_
  refine x_if_lt (tgt := 13) hC ⟨by omega, by omega⟩ dX3_bookAt_1 (by decide) (fun c_1 => ?_) (fun c_1 => ?_)
  · exfalso; omega
  · refine lv_iload_n hC.1 hC.2.1 dX3_bookAt_4 rfl (lv_at hl 1 rfl) ?_
    refine lv_aload_n hC.1 hC.2.1 dX3_bookAt_5 rfl (lv_at hl 0 rfl) ?_
    refine x_get hC hw hR.1 rfl hinX3 0 (by decide) (List.mem_cons_of_mem _ (List.mem_append_left _ (List.mem_append_left _ (List.mem_of_getElem? (i := 2) rfl)))) rfl dX3_bookAt_6 ?_
    refine x_alen hC hw 2 hR.2.1 rfl dX3_bookAt_9 ?_
    refine x_icmp_lt (tgt := 24) hC ⟨by omega, by omega⟩ ⟨by omega, by omega⟩ dX3_bookAt_10 (by decide) (fun c_2 => ?_) (fun c_2 => ?_)
    · refine lv_aload_n hC.1 hC.2.1 dX3_bookAt_24 rfl (lv_at hl 0 rfl) ?_
      refine x_get hC hw hR.1 rfl hinX3 0 (by decide) (List.mem_cons_of_mem _ (List.mem_append_left _ (List.mem_append_left _ (List.mem_of_getElem? (i := 2) rfl)))) rfl dX3_bookAt_25 ?_
      refine lv_iload_n hC.1 hC.2.1 dX3_bookAt_28 rfl (lv_at hl 1 rfl) ?_
      refine x_aldq hC hw 2 hR.2.1 rfl (by omega) (by omega) (by omega) dX3_bookAt_29 ?_
      rw [hR.fb' (show (p0).toNat < 3 from tn_lt (by omega) (by decide))]
      show W p l e R s m args below meth c _ _ _ _ _ (F0 m 30 ls [.ref (qb (p0).toNat)])
      have hix_3 : (p0).toNat < 3 := by omega
      obtain ⟨szx_4, fkx_4, fwx_4, hBx_4, hVx_4⟩ := hR.bk hix_3
      obtain ⟨-, -, -, -, hsax_4, hsbx_4⟩ := id hBx_4
      have holx_4 := hR.ol hix_3
      have hctx_4 := hcb.2 _ hix_3
      exact x_aret hC hw (by first | exact Or.inl ⟨_, rfl⟩ | exact Or.inr ⟨_, rfl⟩) (Or.inr ⟨_, rfl⟩) dX3_bookAt_30 (by omega) (by omega) ⟨rfl, rfl, by omega, by omega⟩
    · exfalso; omega
set_option maxHeartbeats 4000000 in
set_option maxRecDepth 100000 in
theorem c_X3_viewAt_ok (l : Launch) (G : xG) {M : HM} {h0 bs vs : Nat} {og : Option Nat} {kk kv rf : Int32} {qb qk qv : Nat → Nat} {fb fv : Nat → Option Nat} {O : OW} {Wv : VW} {V : BW} {T C : Nat → Int} {K : WA} {N : Int} (hR : RGx G M h0 bs vs og kk kv rf qb qk qv fb fv O O Wv V T C K) (hcb : cbN N T C) (hN : N ≤ 590) {p0 : Int} (hp0 : -2147483648 ≤ p0 ∧ p0 ≤ 2147483647) (hob : 0 ≤ p0 ∧ p0 < 4) (hnn : fv p0.toNat ≠ none) : xMet l G yX3_viewAt wsX3_viewAt 6 90 0 0 [.ref h0, .int (iN (p0))] M (fun r M1 => ∃ y : Nat, r = some (.ref y) ∧ M1 = M ∧ 0 ≤ p0 ∧ p0 < 4 ∧ fv p0.toNat = some y) := by
  refine x_intro (cc := cX3_viewAt) (maxL := 2) (ret := (some (.object "Rangeledger$View"))) (by exact pln_RX3) rfl (Nat.le_of_ble_eq_true rfl) ?_
  intro p e R s m args below meth c ls hRf hRc hRs hRl hC hw hl
  have hinX3 : ∀ w ∈ wsX30, w ∈ wsX3_viewAt := fun w h => (List.mem_cons_of_mem _ (List.mem_append_left _ (List.mem_append_right _ h)))
  have hl : lv_has ls 2 [(0, .ref h0), (1, .int (iN (p0)))] := hl
  refine lv_iload_n hC.1 hC.2.1 dX3_viewAt_0 rfl (lv_at hl 1 rfl) ?_
  refine x_if_lt (tgt := 22) hC ⟨by omega, by omega⟩ dX3_viewAt_1 (by decide) (fun c_1 => ?_) (fun c_1 => ?_)
  · exfalso; first | omega | exact hnn (by assumption) | exact hnn rfl
  · refine lv_iload_n hC.1 hC.2.1 dX3_viewAt_4 rfl (lv_at hl 1 rfl) ?_
    refine lv_aload_n hC.1 hC.2.1 dX3_viewAt_5 rfl (lv_at hl 0 rfl) ?_
    refine x_get hC hw hR.1 rfl hinX3 1 (by decide) (List.mem_cons_of_mem _ (List.mem_append_left _ (List.mem_append_left _ (List.mem_of_getElem? (i := 2) rfl)))) rfl dX3_viewAt_6 ?_
    refine x_alen hC hw 3 hR.2.2.1 rfl dX3_viewAt_9 ?_
    refine x_icmp_ge (tgt := 22) hC ⟨by omega, by omega⟩ ⟨by omega, by omega⟩ dX3_viewAt_10 (by decide) (fun c_2 => ?_) (fun c_2 => ?_)
    · exfalso; first | omega | exact hnn (by assumption) | exact hnn rfl
    · refine lv_aload_n hC.1 hC.2.1 dX3_viewAt_13 rfl (lv_at hl 0 rfl) ?_
      refine x_get hC hw hR.1 rfl hinX3 1 (by decide) (List.mem_cons_of_mem _ (List.mem_append_left _ (List.mem_append_left _ (List.mem_of_getElem? (i := 2) rfl)))) rfl dX3_viewAt_14 ?_
      refine lv_iload_n hC.1 hC.2.1 dX3_viewAt_17 rfl (lv_at hl 1 rfl) ?_
      refine x_aldq hC hw 3 hR.2.2.1 rfl (by omega) (by omega) (by omega) dX3_viewAt_18 ?_
      rcases hy_4 : fv (p0).toNat with _ | y_3
      · have hnhy_4 : Wv (p0).toNat = none := VwO.nil (hR.vwo (show (p0).toNat < 4 from tn_lt (by omega) (by decide))) hy_4
        have hohy_4 := opN_none hnhy_4
        show W p l e R s m args below meth c _ _ _ _ _ (F0 m 19 ls [.null])
        refine lv_ifnonnullN hC.1 hC.2.1 dX3_viewAt_19 ?_
        exfalso; first | omega | exact hnn (by assumption) | exact hnn rfl
      · obtain ⟨ux_5, hux_5, hTx_5⟩ := (hR.vwo (show (p0).toNat < 4 from tn_lt (by omega) (by decide))).yes hy_4
        have hpx_5 := opN_some hux_5
        have hkx_6 := hTx_5.1
        have hvx_6 := hTx_5.2
        have hlix_6 := hvx_6.2.1
        have huix_6 := hvx_6.2.2
        obtain ⟨htax_6, htbx_6, htcx_6, htdx_6, htex_6⟩ := id hkx_6
        obtain ⟨szx_7, fkx_7, fwx_7, hBx_7, hVx_7⟩ := hR.bk htax_6
        obtain ⟨-, -, -, -, hsax_7, hsbx_7⟩ := id hBx_7
        have holx_7 := hR.ol htax_6
        have hctx_7 := hcb.2 _ htax_6
        show W p l e R s m args below meth c _ _ _ _ _ (F0 m 19 ls [.ref y_3])
        refine lv_ifnonnull (tgt := 33) hC.1 hC.2.1 dX3_viewAt_19 (by decide) ?_
        refine lv_aload_n hC.1 hC.2.1 dX3_viewAt_33 rfl (lv_at hl 0 rfl) ?_
        refine x_get hC hw hR.1 rfl hinX3 1 (by decide) (List.mem_cons_of_mem _ (List.mem_append_left _ (List.mem_append_left _ (List.mem_of_getElem? (i := 2) rfl)))) rfl dX3_viewAt_34 ?_
        refine lv_iload_n hC.1 hC.2.1 dX3_viewAt_37 rfl (lv_at hl 1 rfl) ?_
        refine x_aldq hC hw 3 hR.2.2.1 rfl (by omega) (by omega) (by omega) dX3_viewAt_38 ?_
        rw [hy_4]
        show W p l e R s m args below meth c _ _ _ _ _ (F0 m 39 ls [.ref y_3])
        exact x_aret hC hw (by first | exact Or.inl ⟨_, rfl⟩ | exact Or.inr ⟨_, rfl⟩) (Or.inr ⟨_, rfl⟩) dX3_viewAt_39 (by omega) (by omega) ⟨y_3, rfl, rfl, by omega, by omega, by first | exact hy_4 | rfl⟩
set_option maxHeartbeats 4000000 in
set_option maxRecDepth 100000 in
theorem c_X3_ledger_ok (l : Launch) (G : xG) {M : HM} {h0 bs vs : Nat} {og : Option Nat} {kk kv rf : Int32} {qb qk qv : Nat → Nat} {fb fv : Nat → Option Nat} {O : OW} {Wv : VW} {V : BW} {T C : Nat → Int} {K : WA} {N : Int} (hR : RGx G M h0 bs vs og kk kv rf qb qk qv fb fv O O Wv V T C K) (hcb : cbN N T C) (hN : N ≤ 590) {p0 : Int} (hp0 : -2147483648 ≤ p0 ∧ p0 ≤ 2147483647) (hob : 0 ≤ p0 ∧ p0 ≤ 6) : xMet l G yX3_ledger wsX3_ledger 7 111 0 0 [.ref h0, .int (iN (p0))] M (fun r M1 => ∃ z : Int, r = some (.int (iN z)) ∧ M1 = M ∧ (-2147483648 ≤ z ∧ z ≤ 2147483647) ∧ z = A_ledger (O, V, Wv, abK T C K, kk, kv, rf) p0) := by
  refine x_intro (cc := cX3_ledger) (maxL := 2) (ret := (some .int)) (by exact pln_RX3) rfl (Nat.le_of_ble_eq_true rfl) ?_
  intro p e R s m args below meth c ls hRf hRc hRs hRl hC hw hl
  have hinX3 : ∀ w ∈ wsX30, w ∈ wsX3_ledger := fun w h => (List.mem_cons_of_mem _ (List.mem_append_left _ (List.mem_append_left _ (List.mem_append_left _ (List.mem_append_left _ (List.mem_append_right _ h))))))
  have hl : lv_has ls 2 [(0, .ref h0), (1, .int (iN (p0)))] := hl
  refine lv_iload_n hC.1 hC.2.1 dX3_ledger_0 rfl (lv_at hl 1 rfl) ?_
  refine x_bipush hC dX3_ledger_1 (by decide +kernel) ?_
  refine x_callS hC hw (lv_size hl) (c_X3_checkWhat_ok l G (M := M) (p0 := p0) (by first | assumption | omega) (p1 := 6) (by omega) (by omega)) gX3_ledger_X3_checkWhat rfl dv_X3_checkWhat_s rfl (Nat.le_of_ble_eq_true rfl) (by rw [hRf]; decide) (by rw [hRl]; decide) (by first | (rw [hRc]; decide) | omega) (by first | (rw [hRs]; decide) | omega) dX3_ledger_3 (fun r9 M_1 H locs hq hw => ?_)
  obtain ⟨rfl, hM9, hk_2⟩ := hq
  rw [hM9] at hw
  show W p l e R s m args below meth c H locs _ _ _ (F0 m 6 ls [])
  refine lv_iload_n hC.1 hC.2.1 dX3_ledger_6 rfl (lv_at hl 1 rfl) ?_
  by_cases c_3 : p0 = 0
  · refine x_tsw (off := 37) (tgt := 44) (k := 0) hC (by omega) dX3_ledger_7 (by decide) (by decide) rfl (by decide) ?_
    refine lv_aload_n hC.1 hC.2.1 dX3_ledger_44 rfl (lv_at hl 0 rfl) ?_
    refine x_callV hC hw (lv_size hl) (c_X3_openViews l G hR hcb hN) gX3_ledger_X3_openViews rfl dv_X3_openViews hR.1 rfl rfl (Nat.le_of_ble_eq_true rfl) (by rw [hRf]; decide) (by rw [hRl]; decide) (by first | (rw [hRc]; decide) | omega) (by first | (rw [hRs]; decide) | omega) dX3_ledger_45 (fun r9 M_4 H locs hq hw => ?_)
    obtain ⟨z_5, rfl, hM9, hz_5, hz_5f, hz_5o⟩ := hq
    rw [hM9] at hw
    show W p l e R s m args below meth c H locs _ _ _ (F0 m 48 ls [.int (iN (z_5))])
    exact x_iret hC hw dX3_ledger_48 (by first | decide | omega) (by first | decide | omega) ⟨z_5, rfl, rfl, by omega, (by have e5 : p0 = 0 := (by omega); rw [A_ledger, e5, if_pos rfl]; first | done | exact hz_5o)⟩
  have hgec_3 : 1 ≤ p0 := by omega
  clear c_3
  by_cases c_6 : p0 = 1
  · refine x_tsw (off := 42) (tgt := 49) (k := 1) hC (by omega) dX3_ledger_7 (by decide) (by decide) rfl (by decide) ?_
    refine lv_aload_n hC.1 hC.2.1 dX3_ledger_49 rfl (lv_at hl 0 rfl) ?_
    refine x_get hC hw hR.1 rfl hinX3 2 (by decide) (List.mem_cons_of_mem _ (List.mem_append_left _ (List.mem_append_left _ (List.mem_append_left _ (List.mem_append_left _ (List.mem_append_left _ (List.mem_append_left _ (List.mem_of_getElem? (i := 0) rfl)))))))) rfl dX3_ledger_50 ?_
    rcases og with _ | w_7
    · have hK_8 := WkO.nil hR.wk
      subst hK_8
      have hks0 := kS_none (T := T) (C := C)
      show W p l e R s m args below meth c _ _ _ _ _ (F0 m 53 ls [.null])
      refine lv_ifnonnullN hC.1 hC.2.1 dX3_ledger_53 ?_
      refine x_sipush hC dX3_ledger_56 (by decide +kernel) ?_
      refine lv_goto (tgt := 72) hC.1 hC.2.1 dX3_ledger_59 (by decide) ?_
      exact x_iret hC hw dX3_ledger_72 (by first | decide | omega) (by first | decide | omega) ⟨(-10000), rfl, rfl, by omega, (by have e5 : p0 = 1 := (by omega); rw [A_ledger, e5, if_neg (by decide), if_pos rfl]; first | done | exact rfl)⟩
    · obtain ⟨tx_9, psx_9, cdx_9, twx_9, kwx_9, yx_9, hKx_9, hWx_9, hTx_9⟩ := WkO.yes hR.wk
      subst hKx_9
      obtain ⟨hwax_9, hwbx_9, hwcx_9, hwdx_9, hwex_9⟩ := hR.wg
      have hwfx_9 := hwcx_9.imp id And.left
      have hkx_10 := hTx_9.1
      have hvx_10 := hTx_9.2
      have hlix_10 := hvx_10.2.1
      have huix_10 := hvx_10.2.2
      obtain ⟨htax_10, htbx_10, htcx_10, htdx_10, htex_10⟩ := id hkx_10
      obtain ⟨szx_11, fkx_11, fwx_11, hBx_11, hVx_11⟩ := hR.bk htax_10
      obtain ⟨-, -, -, -, hsax_11, hsbx_11⟩ := id hBx_11
      have holx_11 := hR.ol htax_10
      have hctx_11 := hcb.2 _ htax_10
      have hksx_9 := kS_ab (T := T) (C := C) (t := tx_9) (ps := psx_9) (cd := cdx_9) (tw := twx_9) (kw := kwx_9)
      have hkhx_9 := kH_ab (T := T) (C := C) (t := tx_9) (ps := psx_9) (cd := cdx_9) (tw := twx_9) (kw := kwx_9)
      have hkcx_9 := kC_ab (T := T) (C := C) (t := tx_9) (ps := psx_9) (cd := cdx_9) (tw := twx_9) (kw := kwx_9)
      have hkbx_9 := kB_ab (T := T) (C := C) (t := tx_9) (ps := psx_9) (cd := cdx_9) (tw := twx_9) (kw := kwx_9)
      have hkpx_9 := kP_ab (T := T) (C := C) (t := tx_9) (ps := psx_9) (cd := cdx_9) (tw := twx_9) (kw := kwx_9)
      show W p l e R s m args below meth c _ _ _ _ _ (F0 m 53 ls [.ref w_7])
      refine lv_ifnonnull (tgt := 62) hC.1 hC.2.1 dX3_ledger_53 (by decide) ?_
      refine lv_aload_n hC.1 hC.2.1 dX3_ledger_62 rfl (lv_at hl 0 rfl) ?_
      refine x_get hC hw hR.1 rfl hinX3 2 (by decide) (List.mem_cons_of_mem _ (List.mem_append_left _ (List.mem_append_left _ (List.mem_append_left _ (List.mem_append_left _ (List.mem_append_left _ (List.mem_append_left _ (List.mem_of_getElem? (i := 0) rfl)))))))) rfl dX3_ledger_63 ?_
      show W p l e R s m args below meth c _ _ _ _ _ (F0 m 66 ls [.ref w_7])
      refine x_callV hC hw (lv_size hl) (c_X2_book l G hWx_9 hvx_10) gX3_ledger_X2_book rfl dv_X2_book hWx_9.1 rfl rfl (Nat.le_of_ble_eq_true rfl) (by rw [hRf]; decide) (by rw [hRl]; decide) (by first | (rw [hRc]; decide) | omega) (by first | (rw [hRs]; decide) | omega) dX3_ledger_66 (fun r9 M_12 H locs hq hw => ?_)
      obtain ⟨rfl, hM9⟩ := hq
      rw [hM9] at hw
      show W p l e R s m args below meth c H locs _ _ _ (F0 m 69 ls [.ref (qb tx_9.b)])
      refine x_callV hC hw (lv_size hl) (c_X0_number l G hBx_11 (show (O tx_9.b) < 3 by first | assumption | omega) hVx_11 (by first | assumption | omega) (by first | assumption | omega)) gX3_ledger_X0_number rfl dv_X0_number hBx_11.1 rfl rfl (Nat.le_of_ble_eq_true rfl) (by rw [hRf]; decide) (by rw [hRl]; decide) (by first | (rw [hRc]; decide) | omega) (by first | (rw [hRs]; decide) | omega) dX3_ledger_69 (fun r9 M_13 H locs hq hw => ?_)
      obtain ⟨rfl, hM9⟩ := hq
      rw [hM9] at hw
      have hrr_14 := iN_rng (iN ((tx_9.b : Nat) : Int))
      show W p l e R s m args below meth c H locs _ _ _ (F0 m 72 ls [.int (iN ((iN ((tx_9.b : Nat) : Int)).toInt))])
      exact x_iret hC hw dX3_ledger_72 (by first | decide | omega) (by first | decide | omega) ⟨(iN ((tx_9.b : Nat) : Int)).toInt, rfl, rfl, by omega, (by have e5 : p0 = 1 := (by omega); rw [A_ledger, e5, if_neg (by decide), if_pos rfl]; first | done | exact iN_toInt ⟨by omega, by omega⟩)⟩
  have hgec_6 : 2 ≤ p0 := by omega
  clear c_6
  by_cases c_15 : p0 = 2
  · refine x_tsw (off := 66) (tgt := 73) (k := 2) hC (by omega) dX3_ledger_7 (by decide) (by decide) rfl (by decide) ?_
    refine lv_aload_n hC.1 hC.2.1 dX3_ledger_73 rfl (lv_at hl 0 rfl) ?_
    refine x_get hC hw hR.1 rfl hinX3 2 (by decide) (List.mem_cons_of_mem _ (List.mem_append_left _ (List.mem_append_left _ (List.mem_append_left _ (List.mem_append_left _ (List.mem_append_left _ (List.mem_append_left _ (List.mem_of_getElem? (i := 0) rfl)))))))) rfl dX3_ledger_74 ?_
    rcases og with _ | w_16
    · have hK_17 := WkO.nil hR.wk
      subst hK_17
      have hks0 := kS_none (T := T) (C := C)
      show W p l e R s m args below meth c _ _ _ _ _ (F0 m 77 ls [.null])
      refine lv_ifnullN (tgt := 94) hC.1 hC.2.1 dX3_ledger_77 (by decide) ?_
      refine x_const hC dX3_ledger_94 ?_
      exact x_iret hC hw dX3_ledger_95 (by first | decide | omega) (by first | decide | omega) ⟨0, rfl, rfl, by omega, (by have e5 : p0 = 2 := (by omega); rw [A_ledger, e5, if_neg (by decide), if_neg (by decide), if_pos rfl]; first | done | exact (by first | rfl | omega))⟩
    · obtain ⟨tx_18, psx_18, cdx_18, twx_18, kwx_18, yx_18, hKx_18, hWx_18, hTx_18⟩ := WkO.yes hR.wk
      subst hKx_18
      obtain ⟨hwax_18, hwbx_18, hwcx_18, hwdx_18, hwex_18⟩ := hR.wg
      have hwfx_18 := hwcx_18.imp id And.left
      have hkx_19 := hTx_18.1
      have hvx_19 := hTx_18.2
      have hlix_19 := hvx_19.2.1
      have huix_19 := hvx_19.2.2
      obtain ⟨htax_19, htbx_19, htcx_19, htdx_19, htex_19⟩ := id hkx_19
      obtain ⟨szx_20, fkx_20, fwx_20, hBx_20, hVx_20⟩ := hR.bk htax_19
      obtain ⟨-, -, -, -, hsax_20, hsbx_20⟩ := id hBx_20
      have holx_20 := hR.ol htax_19
      have hctx_20 := hcb.2 _ htax_19
      have hksx_18 := kS_ab (T := T) (C := C) (t := tx_18) (ps := psx_18) (cd := cdx_18) (tw := twx_18) (kw := kwx_18)
      have hkhx_18 := kH_ab (T := T) (C := C) (t := tx_18) (ps := psx_18) (cd := cdx_18) (tw := twx_18) (kw := kwx_18)
      have hkcx_18 := kC_ab (T := T) (C := C) (t := tx_18) (ps := psx_18) (cd := cdx_18) (tw := twx_18) (kw := kwx_18)
      have hkbx_18 := kB_ab (T := T) (C := C) (t := tx_18) (ps := psx_18) (cd := cdx_18) (tw := twx_18) (kw := kwx_18)
      have hkpx_18 := kP_ab (T := T) (C := C) (t := tx_18) (ps := psx_18) (cd := cdx_18) (tw := twx_18) (kw := kwx_18)
      show W p l e R s m args below meth c _ _ _ _ _ (F0 m 77 ls [.ref w_16])
      refine lv_ifnull hC.1 hC.2.1 dX3_ledger_77 ?_
      refine lv_aload_n hC.1 hC.2.1 dX3_ledger_80 rfl (lv_at hl 0 rfl) ?_
      refine x_get hC hw hR.1 rfl hinX3 2 (by decide) (List.mem_cons_of_mem _ (List.mem_append_left _ (List.mem_append_left _ (List.mem_append_left _ (List.mem_append_left _ (List.mem_append_left _ (List.mem_append_left _ (List.mem_of_getElem? (i := 0) rfl)))))))) rfl dX3_ledger_81 ?_
      show W p l e R s m args below meth c _ _ _ _ _ (F0 m 84 ls [.ref w_16])
      refine x_callV hC hw (lv_size hl) (c_X2_isBroken l G hWx_18 ⟨by omega, by omega, by omega⟩ hkx_19 hvx_19 hBx_20 (show (O tx_18.b) < 3 by first | assumption | omega) hVx_20 (by first | assumption | omega) (by first | assumption | omega) (O := O) (V := V) (t9 := tx_18)) gX3_ledger_X2_isBroken rfl dv_X2_isBroken hWx_18.1 rfl rfl (Nat.le_of_ble_eq_true rfl) (by rw [hRf]; decide) (by rw [hRl]; decide) (by first | (rw [hRc]; decide) | omega) (by first | (rw [hRs]; decide) | omega) dX3_ledger_84 (fun r9 M_21 H locs hq hw => ?_)
      obtain ⟨z_22, rfl, hM9, hz_22, hz_22b⟩ := hq
      rw [hM9] at hw
      show W p l e R s m args below meth c H locs _ _ _ (F0 m 87 ls [.int (iN (z_22))])
      refine x_if_eq (tgt := 94) hC ⟨by omega, by omega⟩ dX3_ledger_87 (by decide) (fun c_23 => ?_) (fun c_23 => ?_)
      · refine x_const hC dX3_ledger_94 ?_
        exact x_iret hC hw dX3_ledger_95 (by first | decide | omega) (by first | decide | omega) ⟨0, rfl, rfl, by omega, (by have e5 : p0 = 2 := (by omega); rw [A_ledger, e5, if_neg (by decide), if_neg (by decide), if_pos rfl]; first | done | exact (hkbx_18.trans (by omega)).symm)⟩
      · refine x_const hC dX3_ledger_90 ?_
        refine lv_goto (tgt := 95) hC.1 hC.2.1 dX3_ledger_91 (by decide) ?_
        exact x_iret hC hw dX3_ledger_95 (by first | decide | omega) (by first | decide | omega) ⟨1, rfl, rfl, by omega, (by have e5 : p0 = 2 := (by omega); rw [A_ledger, e5, if_neg (by decide), if_neg (by decide), if_pos rfl]; first | done | exact (hkbx_18.trans (by omega)).symm)⟩
  have hgec_15 : 3 ≤ p0 := by omega
  clear c_15
  by_cases c_24 : p0 = 3
  · refine x_tsw (off := 89) (tgt := 96) (k := 3) hC (by omega) dX3_ledger_7 (by decide) (by decide) rfl (by decide) ?_
    refine lv_aload_n hC.1 hC.2.1 dX3_ledger_96 rfl (lv_at hl 0 rfl) ?_
    refine x_get hC hw hR.1 rfl hinX3 2 (by decide) (List.mem_cons_of_mem _ (List.mem_append_left _ (List.mem_append_left _ (List.mem_append_left _ (List.mem_append_left _ (List.mem_append_left _ (List.mem_append_left _ (List.mem_of_getElem? (i := 0) rfl)))))))) rfl dX3_ledger_97 ?_
    rcases og with _ | w_25
    · have hK_26 := WkO.nil hR.wk
      subst hK_26
      have hks0 := kS_none (T := T) (C := C)
      show W p l e R s m args below meth c _ _ _ _ _ (F0 m 100 ls [.null])
      refine lv_ifnonnullN hC.1 hC.2.1 dX3_ledger_100 ?_
      refine x_sipush hC dX3_ledger_103 (by decide +kernel) ?_
      refine lv_goto (tgt := 116) hC.1 hC.2.1 dX3_ledger_106 (by decide) ?_
      exact x_iret hC hw dX3_ledger_116 (by first | decide | omega) (by first | decide | omega) ⟨(-10000), rfl, rfl, by omega, (by have e5 : p0 = 3 := (by omega); rw [A_ledger, e5, if_neg (by decide), if_neg (by decide), if_neg (by decide), if_pos rfl]; first | done | exact rfl)⟩
    · obtain ⟨tx_27, psx_27, cdx_27, twx_27, kwx_27, yx_27, hKx_27, hWx_27, hTx_27⟩ := WkO.yes hR.wk
      subst hKx_27
      obtain ⟨hwax_27, hwbx_27, hwcx_27, hwdx_27, hwex_27⟩ := hR.wg
      have hwfx_27 := hwcx_27.imp id And.left
      have hkx_28 := hTx_27.1
      have hvx_28 := hTx_27.2
      have hlix_28 := hvx_28.2.1
      have huix_28 := hvx_28.2.2
      obtain ⟨htax_28, htbx_28, htcx_28, htdx_28, htex_28⟩ := id hkx_28
      obtain ⟨szx_29, fkx_29, fwx_29, hBx_29, hVx_29⟩ := hR.bk htax_28
      obtain ⟨-, -, -, -, hsax_29, hsbx_29⟩ := id hBx_29
      have holx_29 := hR.ol htax_28
      have hctx_29 := hcb.2 _ htax_28
      have hksx_27 := kS_ab (T := T) (C := C) (t := tx_27) (ps := psx_27) (cd := cdx_27) (tw := twx_27) (kw := kwx_27)
      have hkhx_27 := kH_ab (T := T) (C := C) (t := tx_27) (ps := psx_27) (cd := cdx_27) (tw := twx_27) (kw := kwx_27)
      have hkcx_27 := kC_ab (T := T) (C := C) (t := tx_27) (ps := psx_27) (cd := cdx_27) (tw := twx_27) (kw := kwx_27)
      have hkbx_27 := kB_ab (T := T) (C := C) (t := tx_27) (ps := psx_27) (cd := cdx_27) (tw := twx_27) (kw := kwx_27)
      have hkpx_27 := kP_ab (T := T) (C := C) (t := tx_27) (ps := psx_27) (cd := cdx_27) (tw := twx_27) (kw := kwx_27)
      show W p l e R s m args below meth c _ _ _ _ _ (F0 m 100 ls [.ref w_25])
      refine lv_ifnonnull (tgt := 109) hC.1 hC.2.1 dX3_ledger_100 (by decide) ?_
      refine lv_aload_n hC.1 hC.2.1 dX3_ledger_109 rfl (lv_at hl 0 rfl) ?_
      refine x_get hC hw hR.1 rfl hinX3 2 (by decide) (List.mem_cons_of_mem _ (List.mem_append_left _ (List.mem_append_left _ (List.mem_append_left _ (List.mem_append_left _ (List.mem_append_left _ (List.mem_append_left _ (List.mem_of_getElem? (i := 0) rfl)))))))) rfl dX3_ledger_110 ?_
      show W p l e R s m args below meth c _ _ _ _ _ (F0 m 113 ls [.ref w_25])
      refine x_callV hC hw (lv_size hl) (c_X2_keyAtHand l G hWx_27 ⟨by omega, by omega, by omega⟩ hkx_28 hvx_28 hBx_29 (show (O tx_27.b) < 3 by first | assumption | omega) hVx_29 (by first | assumption | omega) (by first | assumption | omega) (O := O) (V := V) (t9 := tx_27)) gX3_ledger_X2_keyAtHand rfl dv_X2_keyAtHand hWx_27.1 rfl rfl (Nat.le_of_ble_eq_true rfl) (by rw [hRf]; decide) (by rw [hRl]; decide) (by first | (rw [hRc]; decide) | omega) (by first | (rw [hRs]; decide) | omega) dX3_ledger_113 (fun r9 M_30 H locs hq hw => ?_)
      obtain ⟨z_31, rfl, hM9, hz_31, hz_31h⟩ := hq
      rw [hM9] at hw
      show W p l e R s m args below meth c H locs _ _ _ (F0 m 116 ls [.int (iN (z_31))])
      exact x_iret hC hw dX3_ledger_116 (by first | decide | omega) (by first | decide | omega) ⟨z_31, rfl, rfl, by omega, (by have e5 : p0 = 3 := (by omega); rw [A_ledger, e5, if_neg (by decide), if_neg (by decide), if_neg (by decide), if_pos rfl]; first | done | exact (by have e9 := hkpx_27; show _ = (if kH (abK T C (some (tx_27, psx_27, cdx_27, twx_27, kwx_27))) = 1 then kP (abK T C (some (tx_27, psx_27, cdx_27, twx_27, kwx_27))) else -10000); omega))⟩
  have hgec_24 : 4 ≤ p0 := by omega
  clear c_24
  by_cases c_32 : p0 = 4
  · refine x_tsw (off := 110) (tgt := 117) (k := 4) hC (by omega) dX3_ledger_7 (by decide) (by decide) rfl (by decide) ?_
    refine lv_aload_n hC.1 hC.2.1 dX3_ledger_117 rfl (lv_at hl 0 rfl) ?_
    refine x_getR hC hw hR.1 rfl hinX3 3 (by decide) (List.mem_cons_of_mem _ (List.mem_append_left _ (List.mem_append_left _ (List.mem_append_left _ (List.mem_append_left _ (List.mem_append_left _ (List.mem_append_left _ (List.mem_of_getElem? (i := 1) rfl)))))))) rfl dX3_ledger_118 ?_
    have hrr_33 := iN_rng kk
    exact x_iret hC hw dX3_ledger_121 (by first | decide | omega) (by first | decide | omega) ⟨kk.toInt, rfl, rfl, by omega, (by have e5 : p0 = 4 := (by omega); rw [A_ledger, e5, if_neg (by decide), if_neg (by decide), if_neg (by decide), if_neg (by decide), if_pos rfl]; first | done | exact rfl)⟩
  have hgec_32 : 5 ≤ p0 := by omega
  clear c_32
  by_cases c_34 : p0 = 5
  · refine x_tsw (off := 115) (tgt := 122) (k := 5) hC (by omega) dX3_ledger_7 (by decide) (by decide) rfl (by decide) ?_
    refine lv_aload_n hC.1 hC.2.1 dX3_ledger_122 rfl (lv_at hl 0 rfl) ?_
    refine x_getR hC hw hR.1 rfl hinX3 4 (by decide) (List.mem_cons_of_mem _ (List.mem_append_left _ (List.mem_append_left _ (List.mem_append_left _ (List.mem_append_left _ (List.mem_append_left _ (List.mem_append_left _ (List.mem_of_getElem? (i := 2) rfl)))))))) rfl dX3_ledger_123 ?_
    have hrr_35 := iN_rng kv
    exact x_iret hC hw dX3_ledger_126 (by first | decide | omega) (by first | decide | omega) ⟨kv.toInt, rfl, rfl, by omega, (by have e5 : p0 = 5 := (by omega); rw [A_ledger, e5, if_neg (by decide), if_neg (by decide), if_neg (by decide), if_neg (by decide), if_neg (by decide), if_pos rfl]; first | done | exact rfl)⟩
  have hgec_34 : 6 ≤ p0 := by omega
  clear c_34
  refine x_tswd (tgt := 127) hC ⟨by omega, by omega⟩ dX3_ledger_7 (by omega) (by decide) ?_
  refine lv_aload_n hC.1 hC.2.1 dX3_ledger_127 rfl (lv_at hl 0 rfl) ?_
  refine x_getR hC hw hR.1 rfl hinX3 5 (by decide) (List.mem_cons_of_mem _ (List.mem_append_left _ (List.mem_append_left _ (List.mem_append_left _ (List.mem_append_left _ (List.mem_append_left _ (List.mem_append_left _ (List.mem_of_getElem? (i := 3) rfl)))))))) rfl dX3_ledger_128 ?_
  have hrr_36 := iN_rng rf
  exact x_iret hC hw dX3_ledger_131 (by first | decide | omega) (by first | decide | omega) ⟨rf.toInt, rfl, rfl, by omega, (by have e5 : p0 = 6 := (by omega); rw [A_ledger, e5, if_neg (by decide), if_neg (by decide), if_neg (by decide), if_neg (by decide), if_neg (by decide), if_neg (by decide)]; first | done | exact rfl)⟩
set_option maxHeartbeats 4000000 in
set_option maxRecDepth 100000 in
theorem c_X3_ofBook_ok (l : Launch) (G : xG) {M : HM} {h0 bs vs : Nat} {og : Option Nat} {kk kv rf : Int32} {qb qk qv : Nat → Nat} {fb fv : Nat → Option Nat} {O : OW} {Wv : VW} {V : BW} {T C : Nat → Int} {K : WA} {N : Int} (hR : RGx G M h0 bs vs og kk kv rf qb qk qv fb fv O O Wv V T C K) (hcb : cbN N T C) (hN : N ≤ 590) {p0 : Int} (hp0 : -2147483648 ≤ p0 ∧ p0 ≤ 2147483647) {p1 : Int} (hp1 : -2147483648 ≤ p1 ∧ p1 ≤ 2147483647) (hob : 0 ≤ p0 ∧ p0 < 3) (how : 0 ≤ p1 ∧ p1 ≤ 8) : xMet l G yX3_ofBook wsX3_ofBook 7 111 0 0 [.ref h0, .int (iN (p0)), .int (iN (p1))] M (fun r M1 => ∃ z : Int, r = some (.int (iN z)) ∧ M1 = M ∧ (-2147483648 ≤ z ∧ z ≤ 2147483647) ∧ z = A_ofBook (O, V, Wv, abK T C K, kk, kv, rf) p0 p1) := by
  refine x_intro (cc := cX3_ofBook) (maxL := 4) (ret := (some .int)) (by exact pln_RX3) rfl (Nat.le_of_ble_eq_true rfl) ?_
  intro p e R s m args below meth c ls hRf hRc hRs hRl hC hw hl
  have hl : lv_has ls 4 [(0, .ref h0), (1, .int (iN (p0))), (2, .int (iN (p1)))] := hl
  refine lv_aload_n hC.1 hC.2.1 dX3_ofBook_0 rfl (lv_at hl 0 rfl) ?_
  refine lv_iload_n hC.1 hC.2.1 dX3_ofBook_1 rfl (lv_at hl 1 rfl) ?_
  refine x_callV hC hw (lv_size hl) (c_X3_bookAt_ok l G hR hcb hN (p0 := p0) (by first | assumption | omega) (by omega)) gX3_ofBook_X3_bookAt rfl dv_X3_bookAt hR.1 rfl rfl (Nat.le_of_ble_eq_true rfl) (by rw [hRf]; decide) (by rw [hRl]; decide) (by first | (rw [hRc]; decide) | omega) (by first | (rw [hRs]; decide) | omega) dX3_ofBook_2 (fun r9 M_1 H locs hq hw => ?_)
  obtain ⟨rfl, hM9, hk_2, hk_2b⟩ := hq
  rw [hM9] at hw
  have hik_2 : (p0).toNat < 3 := by omega
  obtain ⟨szx_3, fkx_3, fwx_3, hBx_3, hVx_3⟩ := hR.bk hik_2
  obtain ⟨-, -, -, -, hsax_3, hsbx_3⟩ := id hBx_3
  have holx_3 := hR.ol hik_2
  have hctx_3 := hcb.2 _ hik_2
  show W p l e R s m args below meth c H locs _ _ _ (F0 m 5 ls [.ref (qb ((p0).toNat))])
  refine lv_astore_n (lv' := [(3, .ref (qb ((p0).toNat))), (0, .ref h0), (1, .int (iN (p0))), (2, .int (iN (p1)))]) hC.1 hC.2.1 dX3_ofBook_5 rfl hl (by decide) rfl (fun ls hl => ?_)
  refine lv_iload_n hC.1 hC.2.1 dX3_ofBook_6 rfl (lv_at hl 3 rfl) ?_
  refine x_bipush hC dX3_ofBook_7 (by decide +kernel) ?_
  refine x_callS hC hw (lv_size hl) (c_X3_checkWhat_ok l G (M := M) (p0 := p1) (by first | assumption | omega) (p1 := 8) (by omega) (by omega)) gX3_ofBook_X3_checkWhat rfl dv_X3_checkWhat_s rfl (Nat.le_of_ble_eq_true rfl) (by rw [hRf]; decide) (by rw [hRl]; decide) (by first | (rw [hRc]; decide) | omega) (by first | (rw [hRs]; decide) | omega) dX3_ofBook_9 (fun r9 M_4 H locs hq hw => ?_)
  obtain ⟨rfl, hM9, hk_5⟩ := hq
  rw [hM9] at hw
  show W p l e R s m args below meth c H locs _ _ _ (F0 m 12 ls [])
  refine lv_iload_n hC.1 hC.2.1 dX3_ofBook_12 rfl (lv_at hl 3 rfl) ?_
  by_cases c_6 : p1 = 0
  · refine x_tsw (off := 47) (tgt := 60) (k := 0) hC (by omega) dX3_ofBook_13 (by decide) (by decide) rfl (by decide) ?_
    refine lv_aload_n hC.1 hC.2.1 dX3_ofBook_60 rfl (lv_at hl 0 rfl) ?_
    refine x_callV hC hw (lv_size hl) (c_X0_size l G hBx_3 (show (O ((p0).toNat)) < 3 by first | assumption | omega) hVx_3 (by first | assumption | omega) (by first | assumption | omega)) gX3_ofBook_X0_size rfl dv_X0_size hBx_3.1 rfl rfl (Nat.le_of_ble_eq_true rfl) (by rw [hRf]; decide) (by rw [hRl]; decide) (by first | (rw [hRc]; decide) | omega) (by first | (rw [hRs]; decide) | omega) dX3_ofBook_61 (fun r9 M_7 H locs hq hw => ?_)
    obtain ⟨rfl, hM9⟩ := hq
    rw [hM9] at hw
    show W p l e R s m args below meth c H locs _ _ _ (F0 m 64 ls [.int (iN (szx_3))])
    exact x_iret hC hw dX3_ofBook_64 (by first | decide | omega) (by first | decide | omega) ⟨szx_3, rfl, rfl, by omega, (by have e5 : p1 = 0 := (by omega); rw [A_ofBook, e5, if_pos rfl]; first | done | exact wh_mn (by omega) (by omega) hVx_3 (by omega))⟩
  have hgec_6 : 1 ≤ p1 := by omega
  clear c_6
  by_cases c_8 : p1 = 1
  · refine x_tsw (off := 52) (tgt := 65) (k := 1) hC (by omega) dX3_ofBook_13 (by decide) (by decide) rfl (by decide) ?_
    refine lv_aload_n hC.1 hC.2.1 dX3_ofBook_65 rfl (lv_at hl 0 rfl) ?_
    refine x_callV hC hw (lv_size hl) (c_X0_order l G hBx_3 (show (O ((p0).toNat)) < 3 by first | assumption | omega) hVx_3 (by first | assumption | omega) (by first | assumption | omega)) gX3_ofBook_X0_order rfl dv_X0_order hBx_3.1 rfl rfl (Nat.le_of_ble_eq_true rfl) (by rw [hRf]; decide) (by rw [hRl]; decide) (by first | (rw [hRc]; decide) | omega) (by first | (rw [hRs]; decide) | omega) dX3_ofBook_66 (fun r9 M_9 H locs hq hw => ?_)
    obtain ⟨rfl, hM9⟩ := hq
    rw [hM9] at hw
    show W p l e R s m args below meth c H locs _ _ _ (F0 m 69 ls [.int (iN ((((O ((p0).toNat)) : Nat) : Int)))])
    exact x_iret hC hw dX3_ofBook_69 (by first | decide | omega) (by first | decide | omega) ⟨(((O ((p0).toNat)) : Nat) : Int), rfl, rfl, by omega, (by have e5 : p1 = 1 := (by omega); rw [A_ofBook, e5, if_neg (by decide), if_pos rfl]; first | done | exact rfl)⟩
  have hgec_8 : 2 ≤ p1 := by omega
  clear c_8
  by_cases c_10 : p1 = 2
  · refine x_tsw (off := 57) (tgt := 70) (k := 2) hC (by omega) dX3_ofBook_13 (by decide) (by decide) rfl (by decide) ?_
    refine lv_aload_n hC.1 hC.2.1 dX3_ofBook_70 rfl (lv_at hl 0 rfl) ?_
    refine x_const hC dX3_ofBook_71 ?_
    refine x_callV hC hw (lv_size hl) (c_X0_keyAt l G hBx_3 (show (O ((p0).toNat)) < 3 by first | assumption | omega) hVx_3 (by first | assumption | omega) (by first | assumption | omega) (p0 := 0) (by omega)) gX3_ofBook_X0_keyAt rfl dv_X0_keyAt hBx_3.1 rfl rfl (Nat.le_of_ble_eq_true rfl) (by rw [hRf]; decide) (by rw [hRl]; decide) (by first | (rw [hRc]; decide) | omega) (by first | (rw [hRs]; decide) | omega) dX3_ofBook_72 (fun r9 M_11 H locs hq hw => ?_)
    obtain ⟨z_12, rfl, hM9, hz_12, hz_12b, hz_12k⟩ := hq
    rw [hM9] at hw
    show W p l e R s m args below meth c H locs _ _ _ (F0 m 75 ls [.int (iN (z_12))])
    exact x_iret hC hw dX3_ofBook_75 (by first | decide | omega) (by first | decide | omega) ⟨z_12, rfl, rfl, by omega, (by have e5 : p1 = 2 := (by omega); rw [A_ofBook, e5, if_neg (by decide), if_neg (by decide), if_pos rfl]; first | done | exact wh_end (by omega) (by omega) hVx_3 (by omega) (show (szx_3 ≤ 0 ∧ z_12 = -10000) ∨ (0 < szx_3 ∧ (0 : Int) = 0 ∧ z_12 = (fkx_3 (0 : Int).toNat).toInt) ∨ (0 < szx_3 ∧ (0 : Int) ≠ 0 ∧ z_12 = (fkx_3 (szx_3 - 1).toNat).toInt) by omega))⟩
  have hgec_10 : 3 ≤ p1 := by omega
  clear c_10
  by_cases c_13 : p1 = 3
  · refine x_tsw (off := 63) (tgt := 76) (k := 3) hC (by omega) dX3_ofBook_13 (by decide) (by decide) rfl (by decide) ?_
    refine lv_aload_n hC.1 hC.2.1 dX3_ofBook_76 rfl (lv_at hl 0 rfl) ?_
    refine x_const hC dX3_ofBook_77 ?_
    refine x_callV hC hw (lv_size hl) (c_X0_valueAt l G hBx_3 (show (O ((p0).toNat)) < 3 by first | assumption | omega) hVx_3 (by first | assumption | omega) (by first | assumption | omega) (p0 := 0) (by omega)) gX3_ofBook_X0_valueAt rfl dv_X0_valueAt hBx_3.1 rfl rfl (Nat.le_of_ble_eq_true rfl) (by rw [hRf]; decide) (by rw [hRl]; decide) (by first | (rw [hRc]; decide) | omega) (by first | (rw [hRs]; decide) | omega) dX3_ofBook_78 (fun r9 M_14 H locs hq hw => ?_)
    obtain ⟨z_15, rfl, hM9, hz_15, hz_15b, hz_15k⟩ := hq
    rw [hM9] at hw
    show W p l e R s m args below meth c H locs _ _ _ (F0 m 81 ls [.int (iN (z_15))])
    exact x_iret hC hw dX3_ofBook_81 (by first | decide | omega) (by first | decide | omega) ⟨z_15, rfl, rfl, by omega, (by have e5 : p1 = 3 := (by omega); rw [A_ofBook, e5, if_neg (by decide), if_neg (by decide), if_neg (by decide), if_pos rfl]; first | done | exact wh_vl (by omega) (by omega) hVx_3 (by omega) (show (szx_3 ≤ 0 ∧ z_15 = -10000) ∨ (0 < szx_3 ∧ (0 : Int) = 0 ∧ z_15 = (fwx_3 (0 : Int).toNat).toInt) ∨ (0 < szx_3 ∧ (0 : Int) ≠ 0 ∧ z_15 = (fwx_3 (szx_3 - 1).toNat).toInt) by omega))⟩
  have hgec_13 : 4 ≤ p1 := by omega
  clear c_13
  by_cases c_16 : p1 = 4
  · refine x_tsw (off := 69) (tgt := 82) (k := 4) hC (by omega) dX3_ofBook_13 (by decide) (by decide) rfl (by decide) ?_
    refine lv_aload_n hC.1 hC.2.1 dX3_ofBook_82 rfl (lv_at hl 0 rfl) ?_
    refine lv_aload_n hC.1 hC.2.1 dX3_ofBook_83 rfl (lv_at hl 0 rfl) ?_
    refine x_callV hC hw (lv_size hl) (c_X0_size l G hBx_3 (show (O ((p0).toNat)) < 3 by first | assumption | omega) hVx_3 (by first | assumption | omega) (by first | assumption | omega)) gX3_ofBook_X0_size rfl dv_X0_size hBx_3.1 rfl rfl (Nat.le_of_ble_eq_true rfl) (by rw [hRf]; decide) (by rw [hRl]; decide) (by first | (rw [hRc]; decide) | omega) (by first | (rw [hRs]; decide) | omega) dX3_ofBook_84 (fun r9 M_17 H locs hq hw => ?_)
    obtain ⟨rfl, hM9⟩ := hq
    rw [hM9] at hw
    show W p l e R s m args below meth c H locs _ _ _ (F0 m 87 ls [.int (iN (szx_3)), .ref (qb ((p0).toNat))])
    refine x_const hC dX3_ofBook_87 ?_
    refine x_isub hC dX3_ofBook_88 ?_
    refine x_callV hC hw (lv_size hl) (c_X0_keyAt l G hBx_3 (show (O ((p0).toNat)) < 3 by first | assumption | omega) hVx_3 (by first | assumption | omega) (by first | assumption | omega) (p0 := (szx_3 - 1)) (by omega)) gX3_ofBook_X0_keyAt rfl dv_X0_keyAt hBx_3.1 rfl rfl (Nat.le_of_ble_eq_true rfl) (by rw [hRf]; decide) (by rw [hRl]; decide) (by first | (rw [hRc]; decide) | omega) (by first | (rw [hRs]; decide) | omega) dX3_ofBook_89 (fun r9 M_18 H locs hq hw => ?_)
    obtain ⟨z_19, rfl, hM9, hz_19, hz_19b, hz_19k⟩ := hq
    rw [hM9] at hw
    show W p l e R s m args below meth c H locs _ _ _ (F0 m 92 ls [.int (iN (z_19))])
    exact x_iret hC hw dX3_ofBook_92 (by first | decide | omega) (by first | decide | omega) ⟨z_19, rfl, rfl, by omega, (by have e5 : p1 = 4 := (by omega); rw [A_ofBook, e5, if_neg (by decide), if_neg (by decide), if_neg (by decide), if_neg (by decide), if_pos rfl]; first | done | exact wh_end (by omega) (by omega) hVx_3 (by omega) (show (szx_3 ≤ 0 ∧ z_19 = -10000) ∨ (0 < szx_3 ∧ (1 : Int) = 0 ∧ z_19 = (fkx_3 (0 : Int).toNat).toInt) ∨ (0 < szx_3 ∧ (1 : Int) ≠ 0 ∧ z_19 = (fkx_3 (szx_3 - 1).toNat).toInt) by omega))⟩
  have hgec_16 : 5 ≤ p1 := by omega
  clear c_16
  by_cases c_20 : p1 = 5
  · refine x_tsw (off := 80) (tgt := 93) (k := 5) hC (by omega) dX3_ofBook_13 (by decide) (by decide) rfl (by decide) ?_
    refine lv_aload_n hC.1 hC.2.1 dX3_ofBook_93 rfl (lv_at hl 0 rfl) ?_
    refine lv_aload_n hC.1 hC.2.1 dX3_ofBook_94 rfl (lv_at hl 0 rfl) ?_
    refine x_callV hC hw (lv_size hl) (c_X0_size l G hBx_3 (show (O ((p0).toNat)) < 3 by first | assumption | omega) hVx_3 (by first | assumption | omega) (by first | assumption | omega)) gX3_ofBook_X0_size rfl dv_X0_size hBx_3.1 rfl rfl (Nat.le_of_ble_eq_true rfl) (by rw [hRf]; decide) (by rw [hRl]; decide) (by first | (rw [hRc]; decide) | omega) (by first | (rw [hRs]; decide) | omega) dX3_ofBook_95 (fun r9 M_21 H locs hq hw => ?_)
    obtain ⟨rfl, hM9⟩ := hq
    rw [hM9] at hw
    show W p l e R s m args below meth c H locs _ _ _ (F0 m 98 ls [.int (iN (szx_3)), .ref (qb ((p0).toNat))])
    refine x_const hC dX3_ofBook_98 ?_
    refine x_isub hC dX3_ofBook_99 ?_
    refine x_callV hC hw (lv_size hl) (c_X0_valueAt l G hBx_3 (show (O ((p0).toNat)) < 3 by first | assumption | omega) hVx_3 (by first | assumption | omega) (by first | assumption | omega) (p0 := (szx_3 - 1)) (by omega)) gX3_ofBook_X0_valueAt rfl dv_X0_valueAt hBx_3.1 rfl rfl (Nat.le_of_ble_eq_true rfl) (by rw [hRf]; decide) (by rw [hRl]; decide) (by first | (rw [hRc]; decide) | omega) (by first | (rw [hRs]; decide) | omega) dX3_ofBook_100 (fun r9 M_22 H locs hq hw => ?_)
    obtain ⟨z_23, rfl, hM9, hz_23, hz_23b, hz_23k⟩ := hq
    rw [hM9] at hw
    show W p l e R s m args below meth c H locs _ _ _ (F0 m 103 ls [.int (iN (z_23))])
    exact x_iret hC hw dX3_ofBook_103 (by first | decide | omega) (by first | decide | omega) ⟨z_23, rfl, rfl, by omega, (by have e5 : p1 = 5 := (by omega); rw [A_ofBook, e5, if_neg (by decide), if_neg (by decide), if_neg (by decide), if_neg (by decide), if_neg (by decide), if_pos rfl]; first | done | exact wh_vl (by omega) (by omega) hVx_3 (by omega) (show (szx_3 ≤ 0 ∧ z_23 = -10000) ∨ (0 < szx_3 ∧ (1 : Int) = 0 ∧ z_23 = (fwx_3 (0 : Int).toNat).toInt) ∨ (0 < szx_3 ∧ (1 : Int) ≠ 0 ∧ z_23 = (fwx_3 (szx_3 - 1).toNat).toInt) by omega))⟩
  have hgec_20 : 6 ≤ p1 := by omega
  clear c_20
  by_cases c_24 : p1 = 6
  · refine x_tsw (off := 91) (tgt := 104) (k := 6) hC (by omega) dX3_ofBook_13 (by decide) (by decide) rfl (by decide) ?_
    refine lv_aload_n hC.1 hC.2.1 dX3_ofBook_104 rfl (lv_at hl 0 rfl) ?_
    refine x_const hC dX3_ofBook_105 ?_
    refine lv_aload_n hC.1 hC.2.1 dX3_ofBook_106 rfl (lv_at hl 0 rfl) ?_
    refine x_callV hC hw (lv_size hl) (c_X0_size l G hBx_3 (show (O ((p0).toNat)) < 3 by first | assumption | omega) hVx_3 (by first | assumption | omega) (by first | assumption | omega)) gX3_ofBook_X0_size rfl dv_X0_size hBx_3.1 rfl rfl (Nat.le_of_ble_eq_true rfl) (by rw [hRf]; decide) (by rw [hRl]; decide) (by first | (rw [hRc]; decide) | omega) (by first | (rw [hRs]; decide) | omega) dX3_ofBook_107 (fun r9 M_25 H locs hq hw => ?_)
    obtain ⟨rfl, hM9⟩ := hq
    rw [hM9] at hw
    show W p l e R s m args below meth c H locs _ _ _ (F0 m 110 ls [.int (iN (szx_3)), .int (iN (0)), .ref (qb ((p0).toNat))])
    refine x_callV hC hw (lv_size hl) (c_X0_sum l G hBx_3 (show (O ((p0).toNat)) < 3 by first | assumption | omega) hVx_3 (by first | assumption | omega) (by first | assumption | omega) (p0 := 0) (by omega) (p1 := szx_3) (by omega) (by omega) (by omega)) gX3_ofBook_X0_sum rfl dv_X0_sum hBx_3.1 rfl rfl (Nat.le_of_ble_eq_true rfl) (by rw [hRf]; decide) (by rw [hRl]; decide) (by first | (rw [hRc]; decide) | omega) (by first | (rw [hRs]; decide) | omega) dX3_ofBook_110 (fun r9 M_26 H locs hq hw => ?_)
    obtain ⟨z_27, rfl, hM9, hz_27, hz_27s, hz_27z⟩ := hq
    rw [hM9] at hw
    show W p l e R s m args below meth c H locs _ _ _ (F0 m 113 ls [.int (iN (z_27))])
    exact x_iret hC hw dX3_ofBook_113 (by first | decide | omega) (by first | decide | omega) ⟨z_27, rfl, rfl, by omega, (by have e5 : p1 = 6 := (by omega); rw [A_ofBook, e5, if_neg (by decide), if_neg (by decide), if_neg (by decide), if_neg (by decide), if_neg (by decide), if_neg (by decide), if_pos rfl]; first | done | exact (hz_27s (by omega)).trans (wh_sm (by omega) (by omega) hVx_3 (by omega)))⟩
  have hgec_24 : 7 ≤ p1 := by omega
  clear c_24
  by_cases c_28 : p1 = 7
  · refine x_tsw (off := 101) (tgt := 114) (k := 7) hC (by omega) dX3_ofBook_13 (by decide) (by decide) rfl (by decide) ?_
    refine lv_aload_n hC.1 hC.2.1 dX3_ofBook_114 rfl (lv_at hl 0 rfl) ?_
    refine x_callV hC hw (lv_size hl) (c_X0_unlikeValues l G hBx_3 (show (O ((p0).toNat)) < 3 by first | assumption | omega) hVx_3 (by first | assumption | omega) (by first | assumption | omega)) gX3_ofBook_X0_unlikeValues rfl dv_X0_unlikeValues hBx_3.1 rfl rfl (Nat.le_of_ble_eq_true rfl) (by rw [hRf]; decide) (by rw [hRl]; decide) (by first | (rw [hRc]; decide) | omega) (by first | (rw [hRs]; decide) | omega) dX3_ofBook_115 (fun r9 M_29 H locs hq hw => ?_)
    obtain ⟨z_30, rfl, hM9, hz_30, hz_30c⟩ := hq
    rw [hM9] at hw
    show W p l e R s m args below meth c H locs _ _ _ (F0 m 118 ls [.int (iN (z_30))])
    exact x_iret hC hw dX3_ofBook_118 (by first | decide | omega) (by first | decide | omega) ⟨z_30, rfl, rfl, by omega, (by have e5 : p1 = 7 := (by omega); rw [A_ofBook, e5, if_neg (by decide), if_neg (by decide), if_neg (by decide), if_neg (by decide), if_neg (by decide), if_neg (by decide), if_neg (by decide), if_pos rfl]; first | done | exact hz_30c.trans (un_eq hVx_3))⟩
  have hgec_28 : 8 ≤ p1 := by omega
  clear c_28
  refine x_tswd (tgt := 119) hC ⟨by omega, by omega⟩ dX3_ofBook_13 (by omega) (by decide) ?_
  refine lv_aload_n hC.1 hC.2.1 dX3_ofBook_119 rfl (lv_at hl 1 rfl) ?_
  refine lv_aload_n hC.1 hC.2.1 dX3_ofBook_120 rfl (lv_at hl 0 rfl) ?_
  refine x_callV hC hw (lv_size hl) (c_X3_viewsOnto l G hR (bi := (p0).toNat) hik_2) gX3_ofBook_X3_viewsOnto rfl dv_X3_viewsOnto hR.1 rfl rfl (Nat.le_of_ble_eq_true rfl) (by rw [hRf]; decide) (by rw [hRl]; decide) (by first | (rw [hRc]; decide) | omega) (by first | (rw [hRs]; decide) | omega) dX3_ofBook_121 (fun r9 M_31 H locs hq hw => ?_)
  obtain ⟨z_32, rfl, hM9, hz_32, hz_32v⟩ := hq
  rw [hM9] at hw
  show W p l e R s m args below meth c H locs _ _ _ (F0 m 124 ls [.int (iN (z_32))])
  exact x_iret hC hw dX3_ofBook_124 (by first | decide | omega) (by first | decide | omega) ⟨z_32, rfl, rfl, by omega, (by have e5 : p1 = 8 := (by omega); rw [A_ofBook, e5, if_neg (by decide), if_neg (by decide), if_neg (by decide), if_neg (by decide), if_neg (by decide), if_neg (by decide), if_neg (by decide), if_neg (by decide)]; first | done | exact hz_32v)⟩
set_option maxHeartbeats 4000000 in
set_option maxRecDepth 100000 in
theorem c_X3_near_ok (l : Launch) (G : xG) {M : HM} {h0 bs vs : Nat} {og : Option Nat} {kk kv rf : Int32} {qb qk qv : Nat → Nat} {fb fv : Nat → Option Nat} {O : OW} {Wv : VW} {V : BW} {T C : Nat → Int} {K : WA} {N : Int} (hR : RGx G M h0 bs vs og kk kv rf qb qk qv fb fv O O Wv V T C K) (hcb : cbN N T C) (hN : N ≤ 590) {p0 : Int} (hp0 : -2147483648 ≤ p0 ∧ p0 ≤ 2147483647) {p1 : Int} (hp1 : -2147483648 ≤ p1 ∧ p1 ≤ 2147483647) {p2 : Int} (hp2 : -2147483648 ≤ p2 ∧ p2 ≤ 2147483647) (hob : 0 ≤ p0 ∧ p0 < 3) (hok : 0 ≤ p1 ∧ p1 ≤ 99) (how : 0 ≤ p2 ∧ p2 ≤ 7) : xMet l G yX3_near wsX3_near 7 111 0 0 [.ref h0, .int (iN (p0)), .int (iN (p1)), .int (iN (p2))] M (fun r M1 => ∃ z : Int, r = some (.int (iN z)) ∧ M1 = M ∧ (-2147483648 ≤ z ∧ z ≤ 2147483647) ∧ z = A_near (O, V, Wv, abK T C K, kk, kv, rf) p0 p1 p2) := by
  refine x_intro (cc := cX3_near) (maxL := 6) (ret := (some .int)) (by exact pln_RX3) rfl (Nat.le_of_ble_eq_true rfl) ?_
  intro p e R s m args below meth c ls hRf hRc hRs hRl hC hw hl
  have hl : lv_has ls 6 [(0, .ref h0), (1, .int (iN (p0))), (2, .int (iN (p1))), (3, .int (iN (p2)))] := hl
  refine lv_aload_n hC.1 hC.2.1 dX3_near_0 rfl (lv_at hl 0 rfl) ?_
  refine lv_iload_n hC.1 hC.2.1 dX3_near_1 rfl (lv_at hl 1 rfl) ?_
  refine x_callV hC hw (lv_size hl) (c_X3_bookAt_ok l G hR hcb hN (p0 := p0) (by first | assumption | omega) (by omega)) gX3_near_X3_bookAt rfl dv_X3_bookAt hR.1 rfl rfl (Nat.le_of_ble_eq_true rfl) (by rw [hRf]; decide) (by rw [hRl]; decide) (by first | (rw [hRc]; decide) | omega) (by first | (rw [hRs]; decide) | omega) dX3_near_2 (fun r9 M_1 H locs hq hw => ?_)
  obtain ⟨rfl, hM9, hk_2, hk_2b⟩ := hq
  rw [hM9] at hw
  have hik_2 : (p0).toNat < 3 := by omega
  obtain ⟨szx_3, fkx_3, fwx_3, hBx_3, hVx_3⟩ := hR.bk hik_2
  obtain ⟨-, -, -, -, hsax_3, hsbx_3⟩ := id hBx_3
  have holx_3 := hR.ol hik_2
  have hctx_3 := hcb.2 _ hik_2
  show W p l e R s m args below meth c H locs _ _ _ (F0 m 5 ls [.ref (qb ((p0).toNat))])
  refine lv_astore (lv' := [(4, .ref (qb ((p0).toNat))), (0, .ref h0), (1, .int (iN (p0))), (2, .int (iN (p1))), (3, .int (iN (p2)))]) hC.1 hC.2.1 dX3_near_5 hl (by decide) rfl (fun ls hl => ?_)
  refine lv_iload_n hC.1 hC.2.1 dX3_near_7 rfl (lv_at hl 3 rfl) ?_
  refine x_callS hC hw (lv_size hl) (c_X3_checkKey_ok l G (M := M) (p0 := p1) (by first | assumption | omega) (by omega)) gX3_near_X3_checkKey rfl dv_X3_checkKey_s rfl (Nat.le_of_ble_eq_true rfl) (by rw [hRf]; decide) (by rw [hRl]; decide) (by first | (rw [hRc]; decide) | omega) (by first | (rw [hRs]; decide) | omega) dX3_near_8 (fun r9 M_4 H locs hq hw => ?_)
  obtain ⟨rfl, hM9, hk_5⟩ := hq
  rw [hM9] at hw
  show W p l e R s m args below meth c H locs _ _ _ (F0 m 11 ls [])
  refine lv_iload_n hC.1 hC.2.1 dX3_near_11 rfl (lv_at hl 4 rfl) ?_
  refine x_bipush hC dX3_near_12 (by decide +kernel) ?_
  refine x_callS hC hw (lv_size hl) (c_X3_checkWhat_ok l G (M := M) (p0 := p2) (by first | assumption | omega) (p1 := 7) (by omega) (by omega)) gX3_near_X3_checkWhat rfl dv_X3_checkWhat_s rfl (Nat.le_of_ble_eq_true rfl) (by rw [hRf]; decide) (by rw [hRl]; decide) (by first | (rw [hRc]; decide) | omega) (by first | (rw [hRs]; decide) | omega) dX3_near_14 (fun r9 M_6 H locs hq hw => ?_)
  obtain ⟨rfl, hM9, hk_7⟩ := hq
  rw [hM9] at hw
  show W p l e R s m args below meth c H locs _ _ _ (F0 m 17 ls [])
  refine lv_aload hC.1 hC.2.1 dX3_near_17 (lv_at hl 0 rfl) ?_
  refine lv_iload_n hC.1 hC.2.1 dX3_near_19 rfl (lv_at hl 3 rfl) ?_
  refine lv_iload_n hC.1 hC.2.1 dX3_near_20 rfl (lv_at hl 4 rfl) ?_
  refine x_const hC dX3_near_21 ?_
  refine x_iremN hC (by omega) (by omega) (by omega) (by omega) dX3_near_22 ?_
  refine x_const hC dX3_near_23 ?_
  refine lv_aload hC.1 hC.2.1 dX3_near_24 (lv_at hl 0 rfl) ?_
  refine x_callV hC hw (lv_size hl) (c_X0_size l G hBx_3 (show (O ((p0).toNat)) < 3 by first | assumption | omega) hVx_3 (by first | assumption | omega) (by first | assumption | omega)) gX3_near_X0_size rfl dv_X0_size hBx_3.1 rfl rfl (Nat.le_of_ble_eq_true rfl) (by rw [hRf]; decide) (by rw [hRl]; decide) (by first | (rw [hRc]; decide) | omega) (by first | (rw [hRs]; decide) | omega) dX3_near_26 (fun r9 M_8 H locs hq hw => ?_)
  obtain ⟨rfl, hM9⟩ := hq
  rw [hM9] at hw
  show W p l e R s m args below meth c H locs _ _ _ (F0 m 29 ls [.int (iN (szx_3)), .int (iN (0)), .int (iN (p2 % 4)), .int (iN (p1)), .ref (qb ((p0).toNat))])
  refine x_callV hC hw (lv_size hl) (c_X0_closest l G hBx_3 (show (O ((p0).toNat)) < 3 by first | assumption | omega) hVx_3 (by first | assumption | omega) (by first | assumption | omega) (p0 := p1) (by first | assumption | omega) (p1 := (p2 % 4)) (by omega) (p2 := 0) (by omega) (p3 := szx_3) (by omega) (by omega) (by omega) (by omega) (by omega)) gX3_near_X0_closest rfl dv_X0_closest hBx_3.1 rfl rfl (Nat.le_of_ble_eq_true rfl) (by rw [hRf]; decide) (by rw [hRl]; decide) (by first | (rw [hRc]; decide) | omega) (by first | (rw [hRs]; decide) | omega) dX3_near_29 (fun r9 M_9 H locs hq hw => ?_)
  obtain ⟨z_10, rfl, hM9, hz_10, hz_10c⟩ := hq
  rw [hM9] at hw
  show W p l e R s m args below meth c H locs _ _ _ (F0 m 32 ls [.int (iN (z_10))])
  refine lv_istore (lv' := [(5, .int (iN (z_10))), (4, .ref (qb ((p0).toNat))), (0, .ref h0), (1, .int (iN (p0))), (2, .int (iN (p1))), (3, .int (iN (p2)))]) hC.1 hC.2.1 dX3_near_32 hl (by decide) rfl (fun ls hl => ?_)
  refine lv_iload_n hC.1 hC.2.1 dX3_near_34 rfl (lv_at hl 5 rfl) ?_
  refine x_const hC dX3_near_35 ?_
  refine x_icmp_ge (tgt := 44) hC ⟨by omega, by omega⟩ ⟨by omega, by omega⟩ dX3_near_36 (by decide) (fun c_11 => ?_) (fun c_11 => ?_)
  · refine lv_aload hC.1 hC.2.1 dX3_near_44 (lv_at hl 1 rfl) ?_
    refine lv_iload hC.1 hC.2.1 dX3_near_46 (lv_at hl 0 rfl) ?_
    refine x_callV hC hw (lv_size hl) (c_X0_valueOf l G hBx_3 (show (O ((p0).toNat)) < 3 by first | assumption | omega) hVx_3 (by first | assumption | omega) (by first | assumption | omega) (p0 := z_10) (by omega)) gX3_near_X0_valueOf rfl dv_X0_valueOf hBx_3.1 rfl rfl (Nat.le_of_ble_eq_true rfl) (by rw [hRf]; decide) (by rw [hRl]; decide) (by first | (rw [hRc]; decide) | omega) (by first | (rw [hRs]; decide) | omega) dX3_near_48 (fun r9 M_12 H locs hq hw => ?_)
    obtain ⟨z_13, rfl, hM9, hz_13, hz_13v, hz_13n⟩ := hq
    rw [hM9] at hw
    show W p l e R s m args below meth c H locs _ _ _ (F0 m 51 ls [.int (iN (z_13))])
    exact x_iret hC hw dX3_near_51 (by first | decide | omega) (by first | decide | omega) ⟨z_13, rfl, rfl, by omega, (by have e9 := wh_nr (by omega) (by omega) hVx_3 (by omega) (show (p1).toNat < 100 from tn_lt (by omega) (by decide)) (by omega) hz_10c; rw [A_near, if_neg (by omega)]; rw [show p2 % 4 = p2 - 4 by omega] at e9; show _ = vlF (V (p0).toNat) (nrF O V (whT (p0).toNat) (p1).toNat (p2 - 4)); rw [← e9]; simp only [vlF]; split <;> omega)⟩
  · refine lv_iload hC.1 hC.2.1 dX3_near_39 (lv_at hl 0 rfl) ?_
    refine lv_goto (tgt := 51) hC.1 hC.2.1 dX3_near_41 (by decide) ?_
    exact x_iret hC hw dX3_near_51 (by first | decide | omega) (by first | decide | omega) ⟨z_10, rfl, rfl, by omega, (by have e9 := wh_nr (by omega) (by omega) hVx_3 (by omega) (show (p1).toNat < 100 from tn_lt (by omega) (by decide)) (by omega) hz_10c; rw [A_near, if_pos (by omega)]; rw [show p2 % 4 = p2 by omega] at e9; exact e9)⟩
set_option maxHeartbeats 4000000 in
set_option maxRecDepth 100000 in
theorem c_X3_ofView_ok (l : Launch) (G : xG) {M : HM} {h0 bs vs : Nat} {og : Option Nat} {kk kv rf : Int32} {qb qk qv : Nat → Nat} {fb fv : Nat → Option Nat} {O : OW} {Wv : VW} {V : BW} {T C : Nat → Int} {K : WA} {N : Int} (hR : RGx G M h0 bs vs og kk kv rf qb qk qv fb fv O O Wv V T C K) (hcb : cbN N T C) (hN : N ≤ 590) {p0 : Int} (hp0 : -2147483648 ≤ p0 ∧ p0 ≤ 2147483647) {p1 : Int} (hp1 : -2147483648 ≤ p1 ∧ p1 ≤ 2147483647) (hob : 0 ≤ p0 ∧ p0 < 4) (how : 0 ≤ p1 ∧ p1 ≤ 8) (hnn : fv p0.toNat ≠ none) : xMet l G yX3_ofView wsX3_ofView 7 111 0 0 [.ref h0, .int (iN (p0)), .int (iN (p1))] M (fun r M1 => ∃ z : Int, r = some (.int (iN z)) ∧ M1 = M ∧ (-2147483648 ≤ z ∧ z ≤ 2147483647) ∧ z = A_ofView (O, V, Wv, abK T C K, kk, kv, rf) p0 p1) := by
  refine x_intro (cc := cX3_ofView) (maxL := 4) (ret := (some .int)) (by exact pln_RX3) rfl (Nat.le_of_ble_eq_true rfl) ?_
  intro p e R s m args below meth c ls hRf hRc hRs hRl hC hw hl
  have hl : lv_has ls 4 [(0, .ref h0), (1, .int (iN (p0))), (2, .int (iN (p1)))] := hl
  refine lv_aload_n hC.1 hC.2.1 dX3_ofView_0 rfl (lv_at hl 0 rfl) ?_
  refine lv_iload_n hC.1 hC.2.1 dX3_ofView_1 rfl (lv_at hl 1 rfl) ?_
  refine x_callV hC hw (lv_size hl) (c_X3_viewAt_ok l G hR hcb hN (p0 := p0) (by first | assumption | omega) (by omega) hnn) gX3_ofView_X3_viewAt rfl dv_X3_viewAt hR.1 rfl rfl (Nat.le_of_ble_eq_true rfl) (by rw [hRf]; decide) (by rw [hRl]; decide) (by first | (rw [hRc]; decide) | omega) (by first | (rw [hRs]; decide) | omega) dX3_ofView_2 (fun r9 M_1 H locs hq hw => ?_)
  obtain ⟨y_3, rfl, hM9, hk_2, hk_2b, hyk_2⟩ := hq
  rw [hM9] at hw
  obtain ⟨ux_4, hux_4, hTx_4⟩ := (hR.vwo (show (p0).toNat < 4 from tn_lt (by omega) (by decide))).yes hyk_2
  have hpx_4 := opN_some hux_4
  have hkx_5 := hTx_4.1
  have hvx_5 := hTx_4.2
  have hlix_5 := hvx_5.2.1
  have huix_5 := hvx_5.2.2
  obtain ⟨htax_5, htbx_5, htcx_5, htdx_5, htex_5⟩ := id hkx_5
  obtain ⟨szx_6, fkx_6, fwx_6, hBx_6, hVx_6⟩ := hR.bk htax_5
  obtain ⟨-, -, -, -, hsax_6, hsbx_6⟩ := id hBx_6
  have holx_6 := hR.ol htax_5
  have hctx_6 := hcb.2 _ htax_5
  show W p l e R s m args below meth c H locs _ _ _ (F0 m 5 ls [.ref y_3])
  refine lv_astore_n (lv' := [(3, .ref y_3), (0, .ref h0), (1, .int (iN (p0))), (2, .int (iN (p1)))]) hC.1 hC.2.1 dX3_ofView_5 rfl hl (by decide) rfl (fun ls hl => ?_)
  refine lv_iload_n hC.1 hC.2.1 dX3_ofView_6 rfl (lv_at hl 3 rfl) ?_
  refine x_bipush hC dX3_ofView_7 (by decide +kernel) ?_
  refine x_callS hC hw (lv_size hl) (c_X3_checkWhat_ok l G (M := M) (p0 := p1) (by first | assumption | omega) (p1 := 8) (by omega) (by omega)) gX3_ofView_X3_checkWhat rfl dv_X3_checkWhat_s rfl (Nat.le_of_ble_eq_true rfl) (by rw [hRf]; decide) (by rw [hRl]; decide) (by first | (rw [hRc]; decide) | omega) (by first | (rw [hRs]; decide) | omega) dX3_ofView_9 (fun r9 M_7 H locs hq hw => ?_)
  obtain ⟨rfl, hM9, hk_8⟩ := hq
  rw [hM9] at hw
  show W p l e R s m args below meth c H locs _ _ _ (F0 m 12 ls [])
  refine lv_iload_n hC.1 hC.2.1 dX3_ofView_12 rfl (lv_at hl 3 rfl) ?_
  by_cases c_9 : p1 = 0
  · refine x_tsw (off := 47) (tgt := 60) (k := 0) hC (by omega) dX3_ofView_13 (by decide) (by decide) rfl (by decide) ?_
    refine lv_aload_n hC.1 hC.2.1 dX3_ofView_60 rfl (lv_at hl 0 rfl) ?_
    refine x_callV hC hw (lv_size hl) (c_X1_size l G hkx_5 hvx_5 hBx_6 (show (O ux_4.b) < 3 by first | assumption | omega) hVx_6 (by first | assumption | omega) (by first | assumption | omega) (O := O) (V := V) (t9 := ux_4)) gX3_ofView_X1_size rfl dv_X1_size hvx_5.1 rfl rfl (Nat.le_of_ble_eq_true rfl) (by rw [hRf]; decide) (by rw [hRl]; decide) (by first | (rw [hRc]; decide) | omega) (by first | (rw [hRs]; decide) | omega) dX3_ofView_61 (fun r9 M_10 H locs hq hw => ?_)
    obtain ⟨z_11, rfl, hM9, hz_11, hz_11m⟩ := hq
    rw [hM9] at hw
    show W p l e R s m args below meth c H locs _ _ _ (F0 m 64 ls [.int (iN (z_11))])
    exact x_iret hC hw dX3_ofView_64 (by first | decide | omega) (by first | decide | omega) ⟨z_11, rfl, rfl, by omega, (by have e5 : p1 = 0 := (by omega); rw [A_ofView, e5, show tvW (ST.W (O, V, Wv, abK T C K, kk, kv, rf)) p0.toNat = ux_4 from tvW_some hux_4, if_pos rfl]; first | done | exact hz_11m)⟩
  have hgec_9 : 1 ≤ p1 := by omega
  clear c_9
  by_cases c_12 : p1 = 1
  · refine x_tsw (off := 52) (tgt := 65) (k := 1) hC (by omega) dX3_ofView_13 (by decide) (by decide) rfl (by decide) ?_
    refine lv_aload_n hC.1 hC.2.1 dX3_ofView_65 rfl (lv_at hl 0 rfl) ?_
    refine x_callV hC hw (lv_size hl) (c_X1_book l G hvx_5) gX3_ofView_X1_book rfl dv_X1_book hvx_5.1 rfl rfl (Nat.le_of_ble_eq_true rfl) (by rw [hRf]; decide) (by rw [hRl]; decide) (by first | (rw [hRc]; decide) | omega) (by first | (rw [hRs]; decide) | omega) dX3_ofView_66 (fun r9 M_13 H locs hq hw => ?_)
    obtain ⟨rfl, hM9⟩ := hq
    rw [hM9] at hw
    show W p l e R s m args below meth c H locs _ _ _ (F0 m 69 ls [.ref (qb ux_4.b)])
    refine x_callV hC hw (lv_size hl) (c_X0_number l G hBx_6 (show (O ux_4.b) < 3 by first | assumption | omega) hVx_6 (by first | assumption | omega) (by first | assumption | omega)) gX3_ofView_X0_number rfl dv_X0_number hBx_6.1 rfl rfl (Nat.le_of_ble_eq_true rfl) (by rw [hRf]; decide) (by rw [hRl]; decide) (by first | (rw [hRc]; decide) | omega) (by first | (rw [hRs]; decide) | omega) dX3_ofView_69 (fun r9 M_14 H locs hq hw => ?_)
    obtain ⟨rfl, hM9⟩ := hq
    rw [hM9] at hw
    have hrr_15 := iN_rng (iN ((ux_4.b : Nat) : Int))
    show W p l e R s m args below meth c H locs _ _ _ (F0 m 72 ls [.int (iN ((iN ((ux_4.b : Nat) : Int)).toInt))])
    exact x_iret hC hw dX3_ofView_72 (by first | decide | omega) (by first | decide | omega) ⟨(iN ((ux_4.b : Nat) : Int)).toInt, rfl, rfl, by omega, (by have e5 : p1 = 1 := (by omega); rw [A_ofView, e5, show tvW (ST.W (O, V, Wv, abK T C K, kk, kv, rf)) p0.toNat = ux_4 from tvW_some hux_4, if_neg (by decide), if_pos rfl]; first | done | exact iN_toInt ⟨by omega, by omega⟩)⟩
  have hgec_12 : 2 ≤ p1 := by omega
  clear c_12
  by_cases c_16 : p1 = 2
  · refine x_tsw (off := 60) (tgt := 73) (k := 2) hC (by omega) dX3_ofView_13 (by decide) (by decide) rfl (by decide) ?_
    refine lv_aload_n hC.1 hC.2.1 dX3_ofView_73 rfl (lv_at hl 0 rfl) ?_
    refine x_callV hC hw (lv_size hl) (c_X1_lowerBound l G hvx_5) gX3_ofView_X1_lowerBound rfl dv_X1_lowerBound hvx_5.1 rfl rfl (Nat.le_of_ble_eq_true rfl) (by rw [hRf]; decide) (by rw [hRl]; decide) (by first | (rw [hRc]; decide) | omega) (by first | (rw [hRs]; decide) | omega) dX3_ofView_74 (fun r9 M_17 H locs hq hw => ?_)
    obtain ⟨rfl, hM9⟩ := hq
    rw [hM9] at hw
    have hrr_18 := iN_rng (iN ux_4.lo)
    have he_19 : (iN ux_4.lo).toInt = ux_4.lo := iN_toInt ⟨by omega, by omega⟩
    show W p l e R s m args below meth c H locs _ _ _ (F0 m 77 ls [.int (iN ((iN ux_4.lo).toInt))])
    exact x_iret hC hw dX3_ofView_77 (by first | decide | omega) (by first | decide | omega) ⟨(iN ux_4.lo).toInt, rfl, rfl, by omega, (by have e5 : p1 = 2 := (by omega); rw [A_ofView, e5, show tvW (ST.W (O, V, Wv, abK T C K, kk, kv, rf)) p0.toNat = ux_4 from tvW_some hux_4, if_neg (by decide), if_neg (by decide), if_pos rfl]; first | done | exact (by omega))⟩
  have hgec_16 : 3 ≤ p1 := by omega
  clear c_16
  by_cases c_20 : p1 = 3
  · refine x_tsw (off := 65) (tgt := 78) (k := 3) hC (by omega) dX3_ofView_13 (by decide) (by decide) rfl (by decide) ?_
    refine lv_aload_n hC.1 hC.2.1 dX3_ofView_78 rfl (lv_at hl 0 rfl) ?_
    refine x_callV hC hw (lv_size hl) (c_X1_upperBound l G hvx_5) gX3_ofView_X1_upperBound rfl dv_X1_upperBound hvx_5.1 rfl rfl (Nat.le_of_ble_eq_true rfl) (by rw [hRf]; decide) (by rw [hRl]; decide) (by first | (rw [hRc]; decide) | omega) (by first | (rw [hRs]; decide) | omega) dX3_ofView_79 (fun r9 M_21 H locs hq hw => ?_)
    obtain ⟨rfl, hM9⟩ := hq
    rw [hM9] at hw
    have hrr_22 := iN_rng (iN ux_4.up)
    have he_23 : (iN ux_4.up).toInt = ux_4.up := iN_toInt ⟨by omega, by omega⟩
    show W p l e R s m args below meth c H locs _ _ _ (F0 m 82 ls [.int (iN ((iN ux_4.up).toInt))])
    exact x_iret hC hw dX3_ofView_82 (by first | decide | omega) (by first | decide | omega) ⟨(iN ux_4.up).toInt, rfl, rfl, by omega, (by have e5 : p1 = 3 := (by omega); rw [A_ofView, e5, show tvW (ST.W (O, V, Wv, abK T C K, kk, kv, rf)) p0.toNat = ux_4 from tvW_some hux_4, if_neg (by decide), if_neg (by decide), if_neg (by decide), if_pos rfl]; first | done | exact (by omega))⟩
  have hgec_20 : 4 ≤ p1 := by omega
  clear c_20
  by_cases c_24 : p1 = 4
  · refine x_tsw (off := 70) (tgt := 83) (k := 4) hC (by omega) dX3_ofView_13 (by decide) (by decide) rfl (by decide) ?_
    refine lv_aload_n hC.1 hC.2.1 dX3_ofView_83 rfl (lv_at hl 0 rfl) ?_
    refine x_callV hC hw (lv_size hl) (c_X1_isLowerIn l G hvx_5) gX3_ofView_X1_isLowerIn rfl dv_X1_isLowerIn hvx_5.1 rfl rfl (Nat.le_of_ble_eq_true rfl) (by rw [hRf]; decide) (by rw [hRl]; decide) (by first | (rw [hRc]; decide) | omega) (by first | (rw [hRs]; decide) | omega) dX3_ofView_84 (fun r9 M_25 H locs hq hw => ?_)
    obtain ⟨rfl, hM9⟩ := hq
    rw [hM9] at hw
    show W p l e R s m args below meth c H locs _ _ _ (F0 m 87 ls [.int (iN (ux_4.li))])
    refine x_if_eq (tgt := 94) hC ⟨by omega, by omega⟩ dX3_ofView_87 (by decide) (fun c_26 => ?_) (fun c_26 => ?_)
    · refine x_const hC dX3_ofView_94 ?_
      exact x_iret hC hw dX3_ofView_95 (by first | decide | omega) (by first | decide | omega) ⟨0, rfl, rfl, by omega, (by have e5 : p1 = 4 := (by omega); rw [A_ofView, e5, show tvW (ST.W (O, V, Wv, abK T C K, kk, kv, rf)) p0.toNat = ux_4 from tvW_some hux_4, if_neg (by decide), if_neg (by decide), if_neg (by decide), if_neg (by decide), if_pos rfl]; first | done | exact (by omega))⟩
    · refine x_const hC dX3_ofView_90 ?_
      refine lv_goto (tgt := 95) hC.1 hC.2.1 dX3_ofView_91 (by decide) ?_
      exact x_iret hC hw dX3_ofView_95 (by first | decide | omega) (by first | decide | omega) ⟨1, rfl, rfl, by omega, (by have e5 : p1 = 4 := (by omega); rw [A_ofView, e5, show tvW (ST.W (O, V, Wv, abK T C K, kk, kv, rf)) p0.toNat = ux_4 from tvW_some hux_4, if_neg (by decide), if_neg (by decide), if_neg (by decide), if_neg (by decide), if_pos rfl]; first | done | exact (by omega))⟩
  have hgec_24 : 5 ≤ p1 := by omega
  clear c_24
  by_cases c_27 : p1 = 5
  · refine x_tsw (off := 83) (tgt := 96) (k := 5) hC (by omega) dX3_ofView_13 (by decide) (by decide) rfl (by decide) ?_
    refine lv_aload_n hC.1 hC.2.1 dX3_ofView_96 rfl (lv_at hl 0 rfl) ?_
    refine x_callV hC hw (lv_size hl) (c_X1_isUpperIn l G hvx_5) gX3_ofView_X1_isUpperIn rfl dv_X1_isUpperIn hvx_5.1 rfl rfl (Nat.le_of_ble_eq_true rfl) (by rw [hRf]; decide) (by rw [hRl]; decide) (by first | (rw [hRc]; decide) | omega) (by first | (rw [hRs]; decide) | omega) dX3_ofView_97 (fun r9 M_28 H locs hq hw => ?_)
    obtain ⟨rfl, hM9⟩ := hq
    rw [hM9] at hw
    show W p l e R s m args below meth c H locs _ _ _ (F0 m 100 ls [.int (iN (ux_4.ui))])
    refine x_if_eq (tgt := 107) hC ⟨by omega, by omega⟩ dX3_ofView_100 (by decide) (fun c_29 => ?_) (fun c_29 => ?_)
    · refine x_const hC dX3_ofView_107 ?_
      exact x_iret hC hw dX3_ofView_108 (by first | decide | omega) (by first | decide | omega) ⟨0, rfl, rfl, by omega, (by have e5 : p1 = 5 := (by omega); rw [A_ofView, e5, show tvW (ST.W (O, V, Wv, abK T C K, kk, kv, rf)) p0.toNat = ux_4 from tvW_some hux_4, if_neg (by decide), if_neg (by decide), if_neg (by decide), if_neg (by decide), if_neg (by decide), if_pos rfl]; first | done | exact (by omega))⟩
    · refine x_const hC dX3_ofView_103 ?_
      refine lv_goto (tgt := 108) hC.1 hC.2.1 dX3_ofView_104 (by decide) ?_
      exact x_iret hC hw dX3_ofView_108 (by first | decide | omega) (by first | decide | omega) ⟨1, rfl, rfl, by omega, (by have e5 : p1 = 5 := (by omega); rw [A_ofView, e5, show tvW (ST.W (O, V, Wv, abK T C K, kk, kv, rf)) p0.toNat = ux_4 from tvW_some hux_4, if_neg (by decide), if_neg (by decide), if_neg (by decide), if_neg (by decide), if_neg (by decide), if_pos rfl]; first | done | exact (by omega))⟩
  have hgec_27 : 6 ≤ p1 := by omega
  clear c_27
  by_cases c_30 : p1 = 6
  · refine x_tsw (off := 96) (tgt := 109) (k := 6) hC (by omega) dX3_ofView_13 (by decide) (by decide) rfl (by decide) ?_
    refine lv_aload_n hC.1 hC.2.1 dX3_ofView_109 rfl (lv_at hl 0 rfl) ?_
    refine x_callV hC hw (lv_size hl) (c_X1_size l G hkx_5 hvx_5 hBx_6 (show (O ux_4.b) < 3 by first | assumption | omega) hVx_6 (by first | assumption | omega) (by first | assumption | omega) (O := O) (V := V) (t9 := ux_4)) gX3_ofView_X1_size rfl dv_X1_size hvx_5.1 rfl rfl (Nat.le_of_ble_eq_true rfl) (by rw [hRf]; decide) (by rw [hRl]; decide) (by first | (rw [hRc]; decide) | omega) (by first | (rw [hRs]; decide) | omega) dX3_ofView_110 (fun r9 M_31 H locs hq hw => ?_)
    obtain ⟨z_32, rfl, hM9, hz_32, hz_32m⟩ := hq
    rw [hM9] at hw
    show W p l e R s m args below meth c H locs _ _ _ (F0 m 113 ls [.int (iN (z_32))])
    refine x_if_ne (tgt := 122) hC ⟨by omega, by omega⟩ dX3_ofView_113 (by decide) (fun c_33 => ?_) (fun c_33 => ?_)
    · refine lv_aload_n hC.1 hC.2.1 dX3_ofView_122 rfl (lv_at hl 0 rfl) ?_
      refine x_callV hC hw (lv_size hl) (c_X1_book l G hvx_5) gX3_ofView_X1_book rfl dv_X1_book hvx_5.1 rfl rfl (Nat.le_of_ble_eq_true rfl) (by rw [hRf]; decide) (by rw [hRl]; decide) (by first | (rw [hRc]; decide) | omega) (by first | (rw [hRs]; decide) | omega) dX3_ofView_123 (fun r9 M_34 H locs hq hw => ?_)
      obtain ⟨rfl, hM9⟩ := hq
      rw [hM9] at hw
      show W p l e R s m args below meth c H locs _ _ _ (F0 m 126 ls [.ref (qb ux_4.b)])
      refine lv_aload_n hC.1 hC.2.1 dX3_ofView_126 rfl (lv_at hl 0 rfl) ?_
      refine x_callV hC hw (lv_size hl) (c_X1_start l G hkx_5 hvx_5 hBx_6 (show (O ux_4.b) < 3 by first | assumption | omega) hVx_6 (by first | assumption | omega) (by first | assumption | omega) (O := O) (V := V) (t9 := ux_4)) gX3_ofView_X1_start rfl dv_X1_start hvx_5.1 rfl rfl (Nat.le_of_ble_eq_true rfl) (by rw [hRf]; decide) (by rw [hRl]; decide) (by first | (rw [hRc]; decide) | omega) (by first | (rw [hRs]; decide) | omega) dX3_ofView_127 (fun r9 M_35 H locs hq hw => ?_)
      obtain ⟨z_36, rfl, hM9, hz_36a, hz_36b, hz_36p⟩ := hq
      rw [hM9] at hw
      show W p l e R s m args below meth c H locs _ _ _ (F0 m 130 ls [.int (iN (z_36)), .ref (qb ux_4.b)])
      refine x_callV hC hw (lv_size hl) (c_X0_keyAt l G hBx_6 (show (O ux_4.b) < 3 by first | assumption | omega) hVx_6 (by first | assumption | omega) (by first | assumption | omega) (p0 := z_36) (by omega)) gX3_ofView_X0_keyAt rfl dv_X0_keyAt hBx_6.1 rfl rfl (Nat.le_of_ble_eq_true rfl) (by rw [hRf]; decide) (by rw [hRl]; decide) (by first | (rw [hRc]; decide) | omega) (by first | (rw [hRs]; decide) | omega) dX3_ofView_130 (fun r9 M_37 H locs hq hw => ?_)
      obtain ⟨z_38, rfl, hM9, hz_38, hz_38b, hz_38k⟩ := hq
      rw [hM9] at hw
      show W p l e R s m args below meth c H locs _ _ _ (F0 m 133 ls [.int (iN (z_38))])
      exact x_iret hC hw dX3_ofView_133 (by first | decide | omega) (by first | decide | omega) ⟨z_38, rfl, rfl, by omega, (by have e5 : p1 = 6 := (by omega); rw [A_ofView, e5, show tvW (ST.W (O, V, Wv, abK T C K, kk, kv, rf)) p0.toNat = ux_4 from tvW_some hux_4, if_neg (by decide), if_neg (by decide), if_neg (by decide), if_neg (by decide), if_neg (by decide), if_neg (by decide), if_pos rfl]; first | done | exact vw_end (by omega) hkx_5 hVx_6 (by omega) hz_32m (Or.inr (Or.inl ⟨by omega, by omega, z_36, hz_36p, by omega, fun h9 => (hz_38k h9).1⟩)))⟩
    · refine x_sipush hC dX3_ofView_116 (by decide +kernel) ?_
      refine lv_goto (tgt := 133) hC.1 hC.2.1 dX3_ofView_119 (by decide) ?_
      exact x_iret hC hw dX3_ofView_133 (by first | decide | omega) (by first | decide | omega) ⟨(-10000), rfl, rfl, by omega, (by have e5 : p1 = 6 := (by omega); rw [A_ofView, e5, show tvW (ST.W (O, V, Wv, abK T C K, kk, kv, rf)) p0.toNat = ux_4 from tvW_some hux_4, if_neg (by decide), if_neg (by decide), if_neg (by decide), if_neg (by decide), if_neg (by decide), if_neg (by decide), if_pos rfl]; first | done | exact vw_end (by omega) hkx_5 hVx_6 (by omega) hz_32m (Or.inl ⟨by omega, by omega⟩))⟩
  have hgec_30 : 7 ≤ p1 := by omega
  clear c_30
  by_cases c_39 : p1 = 7
  · refine x_tsw (off := 121) (tgt := 134) (k := 7) hC (by omega) dX3_ofView_13 (by decide) (by decide) rfl (by decide) ?_
    refine lv_aload_n hC.1 hC.2.1 dX3_ofView_134 rfl (lv_at hl 0 rfl) ?_
    refine x_callV hC hw (lv_size hl) (c_X1_size l G hkx_5 hvx_5 hBx_6 (show (O ux_4.b) < 3 by first | assumption | omega) hVx_6 (by first | assumption | omega) (by first | assumption | omega) (O := O) (V := V) (t9 := ux_4)) gX3_ofView_X1_size rfl dv_X1_size hvx_5.1 rfl rfl (Nat.le_of_ble_eq_true rfl) (by rw [hRf]; decide) (by rw [hRl]; decide) (by first | (rw [hRc]; decide) | omega) (by first | (rw [hRs]; decide) | omega) dX3_ofView_135 (fun r9 M_40 H locs hq hw => ?_)
    obtain ⟨z_41, rfl, hM9, hz_41, hz_41m⟩ := hq
    rw [hM9] at hw
    show W p l e R s m args below meth c H locs _ _ _ (F0 m 138 ls [.int (iN (z_41))])
    refine x_if_ne (tgt := 147) hC ⟨by omega, by omega⟩ dX3_ofView_138 (by decide) (fun c_42 => ?_) (fun c_42 => ?_)
    · refine lv_aload_n hC.1 hC.2.1 dX3_ofView_147 rfl (lv_at hl 0 rfl) ?_
      refine x_callV hC hw (lv_size hl) (c_X1_book l G hvx_5) gX3_ofView_X1_book rfl dv_X1_book hvx_5.1 rfl rfl (Nat.le_of_ble_eq_true rfl) (by rw [hRf]; decide) (by rw [hRl]; decide) (by first | (rw [hRc]; decide) | omega) (by first | (rw [hRs]; decide) | omega) dX3_ofView_148 (fun r9 M_43 H locs hq hw => ?_)
      obtain ⟨rfl, hM9⟩ := hq
      rw [hM9] at hw
      show W p l e R s m args below meth c H locs _ _ _ (F0 m 151 ls [.ref (qb ux_4.b)])
      refine lv_aload_n hC.1 hC.2.1 dX3_ofView_151 rfl (lv_at hl 0 rfl) ?_
      refine x_callV hC hw (lv_size hl) (c_X1_end l G hkx_5 hvx_5 hBx_6 (show (O ux_4.b) < 3 by first | assumption | omega) hVx_6 (by first | assumption | omega) (by first | assumption | omega) (O := O) (V := V) (t9 := ux_4)) gX3_ofView_X1_end rfl dv_X1_end hvx_5.1 rfl rfl (Nat.le_of_ble_eq_true rfl) (by rw [hRf]; decide) (by rw [hRl]; decide) (by first | (rw [hRc]; decide) | omega) (by first | (rw [hRs]; decide) | omega) dX3_ofView_152 (fun r9 M_44 H locs hq hw => ?_)
      obtain ⟨z_45, rfl, hM9, hz_45a, hz_45b, hz_45p⟩ := hq
      rw [hM9] at hw
      show W p l e R s m args below meth c H locs _ _ _ (F0 m 155 ls [.int (iN (z_45)), .ref (qb ux_4.b)])
      refine x_const hC dX3_ofView_155 ?_
      refine x_isub hC dX3_ofView_156 ?_
      refine x_callV hC hw (lv_size hl) (c_X0_keyAt l G hBx_6 (show (O ux_4.b) < 3 by first | assumption | omega) hVx_6 (by first | assumption | omega) (by first | assumption | omega) (p0 := (z_45 - 1)) (by omega)) gX3_ofView_X0_keyAt rfl dv_X0_keyAt hBx_6.1 rfl rfl (Nat.le_of_ble_eq_true rfl) (by rw [hRf]; decide) (by rw [hRl]; decide) (by first | (rw [hRc]; decide) | omega) (by first | (rw [hRs]; decide) | omega) dX3_ofView_157 (fun r9 M_46 H locs hq hw => ?_)
      obtain ⟨z_47, rfl, hM9, hz_47, hz_47b, hz_47k⟩ := hq
      rw [hM9] at hw
      show W p l e R s m args below meth c H locs _ _ _ (F0 m 160 ls [.int (iN (z_47))])
      exact x_iret hC hw dX3_ofView_160 (by first | decide | omega) (by first | decide | omega) ⟨z_47, rfl, rfl, by omega, (by have e5 : p1 = 7 := (by omega); rw [A_ofView, e5, show tvW (ST.W (O, V, Wv, abK T C K, kk, kv, rf)) p0.toNat = ux_4 from tvW_some hux_4, if_neg (by decide), if_neg (by decide), if_neg (by decide), if_neg (by decide), if_neg (by decide), if_neg (by decide), if_neg (by decide), if_pos rfl]; first | done | exact vw_end (by omega) hkx_5 hVx_6 (by omega) hz_41m (Or.inr (Or.inr ⟨by omega, by omega, z_45, hz_45p, by omega, fun h9 => (hz_47k h9).1⟩)))⟩
    · refine x_sipush hC dX3_ofView_141 (by decide +kernel) ?_
      refine lv_goto (tgt := 160) hC.1 hC.2.1 dX3_ofView_144 (by decide) ?_
      exact x_iret hC hw dX3_ofView_160 (by first | decide | omega) (by first | decide | omega) ⟨(-10000), rfl, rfl, by omega, (by have e5 : p1 = 7 := (by omega); rw [A_ofView, e5, show tvW (ST.W (O, V, Wv, abK T C K, kk, kv, rf)) p0.toNat = ux_4 from tvW_some hux_4, if_neg (by decide), if_neg (by decide), if_neg (by decide), if_neg (by decide), if_neg (by decide), if_neg (by decide), if_neg (by decide), if_pos rfl]; first | done | exact vw_end (by omega) hkx_5 hVx_6 (by omega) hz_41m (Or.inl ⟨by omega, by omega⟩))⟩
  have hgec_39 : 8 ≤ p1 := by omega
  clear c_39
  refine x_tswd (tgt := 161) hC ⟨by omega, by omega⟩ dX3_ofView_13 (by omega) (by decide) ?_
  refine lv_aload_n hC.1 hC.2.1 dX3_ofView_161 rfl (lv_at hl 0 rfl) ?_
  refine x_callV hC hw (lv_size hl) (c_X1_book l G hvx_5) gX3_ofView_X1_book rfl dv_X1_book hvx_5.1 rfl rfl (Nat.le_of_ble_eq_true rfl) (by rw [hRf]; decide) (by rw [hRl]; decide) (by first | (rw [hRc]; decide) | omega) (by first | (rw [hRs]; decide) | omega) dX3_ofView_162 (fun r9 M_48 H locs hq hw => ?_)
  obtain ⟨rfl, hM9⟩ := hq
  rw [hM9] at hw
  show W p l e R s m args below meth c H locs _ _ _ (F0 m 165 ls [.ref (qb ux_4.b)])
  refine lv_aload_n hC.1 hC.2.1 dX3_ofView_165 rfl (lv_at hl 0 rfl) ?_
  refine x_callV hC hw (lv_size hl) (c_X1_start l G hkx_5 hvx_5 hBx_6 (show (O ux_4.b) < 3 by first | assumption | omega) hVx_6 (by first | assumption | omega) (by first | assumption | omega) (O := O) (V := V) (t9 := ux_4)) gX3_ofView_X1_start rfl dv_X1_start hvx_5.1 rfl rfl (Nat.le_of_ble_eq_true rfl) (by rw [hRf]; decide) (by rw [hRl]; decide) (by first | (rw [hRc]; decide) | omega) (by first | (rw [hRs]; decide) | omega) dX3_ofView_166 (fun r9 M_49 H locs hq hw => ?_)
  obtain ⟨z_50, rfl, hM9, hz_50a, hz_50b, hz_50p⟩ := hq
  rw [hM9] at hw
  show W p l e R s m args below meth c H locs _ _ _ (F0 m 169 ls [.int (iN (z_50)), .ref (qb ux_4.b)])
  refine lv_aload_n hC.1 hC.2.1 dX3_ofView_169 rfl (lv_at hl 0 rfl) ?_
  refine x_callV hC hw (lv_size hl) (c_X1_end l G hkx_5 hvx_5 hBx_6 (show (O ux_4.b) < 3 by first | assumption | omega) hVx_6 (by first | assumption | omega) (by first | assumption | omega) (O := O) (V := V) (t9 := ux_4)) gX3_ofView_X1_end rfl dv_X1_end hvx_5.1 rfl rfl (Nat.le_of_ble_eq_true rfl) (by rw [hRf]; decide) (by rw [hRl]; decide) (by first | (rw [hRc]; decide) | omega) (by first | (rw [hRs]; decide) | omega) dX3_ofView_170 (fun r9 M_51 H locs hq hw => ?_)
  obtain ⟨z_52, rfl, hM9, hz_52a, hz_52b, hz_52p⟩ := hq
  rw [hM9] at hw
  show W p l e R s m args below meth c H locs _ _ _ (F0 m 173 ls [.int (iN (z_52)), .int (iN (z_50)), .ref (qb ux_4.b)])
  refine x_callV hC hw (lv_size hl) (c_X0_sum l G hBx_6 (show (O ux_4.b) < 3 by first | assumption | omega) hVx_6 (by first | assumption | omega) (by first | assumption | omega) (p0 := z_50) (by omega) (p1 := z_52) (by omega) (by omega) (by omega)) gX3_ofView_X0_sum rfl dv_X0_sum hBx_6.1 rfl rfl (Nat.le_of_ble_eq_true rfl) (by rw [hRf]; decide) (by rw [hRl]; decide) (by first | (rw [hRc]; decide) | omega) (by first | (rw [hRs]; decide) | omega) dX3_ofView_173 (fun r9 M_53 H locs hq hw => ?_)
  obtain ⟨z_54, rfl, hM9, hz_54, hz_54s, hz_54z⟩ := hq
  rw [hM9] at hw
  show W p l e R s m args below meth c H locs _ _ _ (F0 m 176 ls [.int (iN (z_54))])
  exact x_iret hC hw dX3_ofView_176 (by first | decide | omega) (by first | decide | omega) ⟨z_54, rfl, rfl, by omega, (by have e5 : p1 = 8 := (by omega); rw [A_ofView, e5, show tvW (ST.W (O, V, Wv, abK T C K, kk, kv, rf)) p0.toNat = ux_4 from tvW_some hux_4, if_neg (by decide), if_neg (by decide), if_neg (by decide), if_neg (by decide), if_neg (by decide), if_neg (by decide), if_neg (by decide), if_neg (by decide)]; first | done | exact (hz_54s (by have e9 := pl_mono hz_50p hz_52p (sw_le_ew (O ux_4.b) ux_4); omega)).trans (smPF (by omega) hkx_5 hVx_6 hz_50p hz_52p (by omega) (by have e9 := pl_mono hz_50p hz_52p (sw_le_ew (O ux_4.b) ux_4); omega)))⟩
set_option maxHeartbeats 4000000 in
set_option maxRecDepth 100000 in
theorem c_X3_viewNear_ok (l : Launch) (G : xG) {M : HM} {h0 bs vs : Nat} {og : Option Nat} {kk kv rf : Int32} {qb qk qv : Nat → Nat} {fb fv : Nat → Option Nat} {O : OW} {Wv : VW} {V : BW} {T C : Nat → Int} {K : WA} {N : Int} (hR : RGx G M h0 bs vs og kk kv rf qb qk qv fb fv O O Wv V T C K) (hcb : cbN N T C) (hN : N ≤ 590) {p0 : Int} (hp0 : -2147483648 ≤ p0 ∧ p0 ≤ 2147483647) {p1 : Int} (hp1 : -2147483648 ≤ p1 ∧ p1 ≤ 2147483647) {p2 : Int} (hp2 : -2147483648 ≤ p2 ∧ p2 ≤ 2147483647) (hob : 0 ≤ p0 ∧ p0 < 4) (hok : 0 ≤ p1 ∧ p1 ≤ 99) (how : 0 ≤ p2 ∧ p2 ≤ 3) (hnn : fv p0.toNat ≠ none) : xMet l G yX3_viewNear wsX3_viewNear 7 111 0 0 [.ref h0, .int (iN (p0)), .int (iN (p1)), .int (iN (p2))] M (fun r M1 => ∃ z : Int, r = some (.int (iN z)) ∧ M1 = M ∧ (-2147483648 ≤ z ∧ z ≤ 2147483647) ∧ z = A_viewNear (O, V, Wv, abK T C K, kk, kv, rf) p0 p1 p2) := by
  refine x_intro (cc := cX3_viewNear) (maxL := 5) (ret := (some .int)) (by exact pln_RX3) rfl (Nat.le_of_ble_eq_true rfl) ?_
  intro p e R s m args below meth c ls hRf hRc hRs hRl hC hw hl
  have hl : lv_has ls 5 [(0, .ref h0), (1, .int (iN (p0))), (2, .int (iN (p1))), (3, .int (iN (p2)))] := hl
  refine lv_aload_n hC.1 hC.2.1 dX3_viewNear_0 rfl (lv_at hl 0 rfl) ?_
  refine lv_iload_n hC.1 hC.2.1 dX3_viewNear_1 rfl (lv_at hl 1 rfl) ?_
  refine x_callV hC hw (lv_size hl) (c_X3_viewAt_ok l G hR hcb hN (p0 := p0) (by first | assumption | omega) (by omega) hnn) gX3_viewNear_X3_viewAt rfl dv_X3_viewAt hR.1 rfl rfl (Nat.le_of_ble_eq_true rfl) (by rw [hRf]; decide) (by rw [hRl]; decide) (by first | (rw [hRc]; decide) | omega) (by first | (rw [hRs]; decide) | omega) dX3_viewNear_2 (fun r9 M_1 H locs hq hw => ?_)
  obtain ⟨y_3, rfl, hM9, hk_2, hk_2b, hyk_2⟩ := hq
  rw [hM9] at hw
  obtain ⟨ux_4, hux_4, hTx_4⟩ := (hR.vwo (show (p0).toNat < 4 from tn_lt (by omega) (by decide))).yes hyk_2
  have hpx_4 := opN_some hux_4
  have hkx_5 := hTx_4.1
  have hvx_5 := hTx_4.2
  have hlix_5 := hvx_5.2.1
  have huix_5 := hvx_5.2.2
  obtain ⟨htax_5, htbx_5, htcx_5, htdx_5, htex_5⟩ := id hkx_5
  obtain ⟨szx_6, fkx_6, fwx_6, hBx_6, hVx_6⟩ := hR.bk htax_5
  obtain ⟨-, -, -, -, hsax_6, hsbx_6⟩ := id hBx_6
  have holx_6 := hR.ol htax_5
  have hctx_6 := hcb.2 _ htax_5
  show W p l e R s m args below meth c H locs _ _ _ (F0 m 5 ls [.ref y_3])
  refine lv_astore (lv' := [(4, .ref y_3), (0, .ref h0), (1, .int (iN (p0))), (2, .int (iN (p1))), (3, .int (iN (p2)))]) hC.1 hC.2.1 dX3_viewNear_5 hl (by decide) rfl (fun ls hl => ?_)
  refine lv_iload_n hC.1 hC.2.1 dX3_viewNear_7 rfl (lv_at hl 3 rfl) ?_
  refine x_callS hC hw (lv_size hl) (c_X3_checkKey_ok l G (M := M) (p0 := p1) (by first | assumption | omega) (by omega)) gX3_viewNear_X3_checkKey rfl dv_X3_checkKey_s rfl (Nat.le_of_ble_eq_true rfl) (by rw [hRf]; decide) (by rw [hRl]; decide) (by first | (rw [hRc]; decide) | omega) (by first | (rw [hRs]; decide) | omega) dX3_viewNear_8 (fun r9 M_7 H locs hq hw => ?_)
  obtain ⟨rfl, hM9, hk_8⟩ := hq
  rw [hM9] at hw
  show W p l e R s m args below meth c H locs _ _ _ (F0 m 11 ls [])
  refine lv_iload_n hC.1 hC.2.1 dX3_viewNear_11 rfl (lv_at hl 4 rfl) ?_
  refine x_const hC dX3_viewNear_12 ?_
  refine x_callS hC hw (lv_size hl) (c_X3_checkWhat_ok l G (M := M) (p0 := p2) (by first | assumption | omega) (p1 := 3) (by omega) (by omega)) gX3_viewNear_X3_checkWhat rfl dv_X3_checkWhat_s rfl (Nat.le_of_ble_eq_true rfl) (by rw [hRf]; decide) (by rw [hRl]; decide) (by first | (rw [hRc]; decide) | omega) (by first | (rw [hRs]; decide) | omega) dX3_viewNear_13 (fun r9 M_9 H locs hq hw => ?_)
  obtain ⟨rfl, hM9, hk_10⟩ := hq
  rw [hM9] at hw
  show W p l e R s m args below meth c H locs _ _ _ (F0 m 16 ls [])
  refine lv_aload hC.1 hC.2.1 dX3_viewNear_16 (lv_at hl 0 rfl) ?_
  refine x_callV hC hw (lv_size hl) (c_X1_book l G hvx_5) gX3_viewNear_X1_book rfl dv_X1_book hvx_5.1 rfl rfl (Nat.le_of_ble_eq_true rfl) (by rw [hRf]; decide) (by rw [hRl]; decide) (by first | (rw [hRc]; decide) | omega) (by first | (rw [hRs]; decide) | omega) dX3_viewNear_18 (fun r9 M_11 H locs hq hw => ?_)
  obtain ⟨rfl, hM9⟩ := hq
  rw [hM9] at hw
  show W p l e R s m args below meth c H locs _ _ _ (F0 m 21 ls [.ref (qb ux_4.b)])
  refine lv_iload_n hC.1 hC.2.1 dX3_viewNear_21 rfl (lv_at hl 3 rfl) ?_
  refine lv_iload_n hC.1 hC.2.1 dX3_viewNear_22 rfl (lv_at hl 4 rfl) ?_
  refine lv_aload hC.1 hC.2.1 dX3_viewNear_23 (lv_at hl 0 rfl) ?_
  refine x_callV hC hw (lv_size hl) (c_X1_start l G hkx_5 hvx_5 hBx_6 (show (O ux_4.b) < 3 by first | assumption | omega) hVx_6 (by first | assumption | omega) (by first | assumption | omega) (O := O) (V := V) (t9 := ux_4)) gX3_viewNear_X1_start rfl dv_X1_start hvx_5.1 rfl rfl (Nat.le_of_ble_eq_true rfl) (by rw [hRf]; decide) (by rw [hRl]; decide) (by first | (rw [hRc]; decide) | omega) (by first | (rw [hRs]; decide) | omega) dX3_viewNear_25 (fun r9 M_12 H locs hq hw => ?_)
  obtain ⟨z_13, rfl, hM9, hz_13a, hz_13b, hz_13p⟩ := hq
  rw [hM9] at hw
  show W p l e R s m args below meth c H locs _ _ _ (F0 m 28 ls [.int (iN (z_13)), .int (iN (p2)), .int (iN (p1)), .ref (qb ux_4.b)])
  refine lv_aload hC.1 hC.2.1 dX3_viewNear_28 (lv_at hl 0 rfl) ?_
  refine x_callV hC hw (lv_size hl) (c_X1_end l G hkx_5 hvx_5 hBx_6 (show (O ux_4.b) < 3 by first | assumption | omega) hVx_6 (by first | assumption | omega) (by first | assumption | omega) (O := O) (V := V) (t9 := ux_4)) gX3_viewNear_X1_end rfl dv_X1_end hvx_5.1 rfl rfl (Nat.le_of_ble_eq_true rfl) (by rw [hRf]; decide) (by rw [hRl]; decide) (by first | (rw [hRc]; decide) | omega) (by first | (rw [hRs]; decide) | omega) dX3_viewNear_30 (fun r9 M_14 H locs hq hw => ?_)
  obtain ⟨z_15, rfl, hM9, hz_15a, hz_15b, hz_15p⟩ := hq
  rw [hM9] at hw
  show W p l e R s m args below meth c H locs _ _ _ (F0 m 33 ls [.int (iN (z_15)), .int (iN (z_13)), .int (iN (p2)), .int (iN (p1)), .ref (qb ux_4.b)])
  refine x_callV hC hw (lv_size hl) (c_X0_closest l G hBx_6 (show (O ux_4.b) < 3 by first | assumption | omega) hVx_6 (by first | assumption | omega) (by first | assumption | omega) (p0 := p1) (by first | assumption | omega) (p1 := p2) (by first | assumption | omega) (p2 := z_13) (by omega) (p3 := z_15) (by omega) (by omega) (by omega) (by omega) (by omega)) gX3_viewNear_X0_closest rfl dv_X0_closest hBx_6.1 rfl rfl (Nat.le_of_ble_eq_true rfl) (by rw [hRf]; decide) (by rw [hRl]; decide) (by first | (rw [hRc]; decide) | omega) (by first | (rw [hRs]; decide) | omega) dX3_viewNear_33 (fun r9 M_16 H locs hq hw => ?_)
  obtain ⟨z_17, rfl, hM9, hz_17, hz_17c⟩ := hq
  rw [hM9] at hw
  show W p l e R s m args below meth c H locs _ _ _ (F0 m 36 ls [.int (iN (z_17))])
  exact x_iret hC hw dX3_viewNear_36 (by first | decide | omega) (by first | decide | omega) ⟨z_17, rfl, rfl, by omega, (by rw [A_viewNear, show tvW (ST.W (O, V, Wv, abK T C K, kk, kv, rf)) p0.toNat = ux_4 from tvW_some hux_4]; exact clB_F (by omega) hkx_5 hVx_6 hz_13p hz_15p (by omega) (by omega) (show (p1).toNat < 100 from tn_lt (by omega) (by decide)) (by omega) hz_17c)⟩
set_option maxHeartbeats 4000000 in
set_option maxRecDepth 100000 in
theorem c_X3_isSound (l : Launch) (G : xG) {M : HM} {h0 bs vs : Nat} {og : Option Nat} {kk kv rf : Int32} {qb qk qv : Nat → Nat} {fb fv : Nat → Option Nat} {O : OW} {Wv : VW} {V : BW} {T C : Nat → Int} {K : WA} {N : Int} (hR : RGx G M h0 bs vs og kk kv rf qb qk qv fb fv O O Wv V T C K) (hcb : cbN N T C) (hN : N ≤ 590) : xMet l G yX3_isSound wsX3_isSound 5 119 0 0 [.ref h0] M (fun r M1 => ∃ z : Int, r = some (.int (iN z)) ∧ M1 = M ∧ z = 1) := by
  refine x_intro (cc := cX3_isSound) (maxL := 3) (ret := (some .boolean)) (by exact pln_RX3) rfl (Nat.le_of_ble_eq_true rfl) ?_
  intro p e R s m args below meth c ls hRf hRc hRs hRl hC hw hl
  have hinX3 : ∀ w ∈ wsX30, w ∈ wsX3_isSound := fun w h => (List.mem_cons_of_mem _ (List.mem_append_left _ (List.mem_append_left _ (List.mem_append_right _ h))))
  have hl : lv_has ls 3 [(0, .ref h0)] := hl
  refine x_const hC dX3_isSound_0 ?_
  refine lv_istore_n (lv' := [(1, .int (iN (0))), (0, .ref h0)]) hC.1 hC.2.1 dX3_isSound_1 rfl hl (by decide) rfl (fun ls hl => ?_)
  suffices hloop2 : ∀ (n9 : Nat) (j : Int) (H : Heap) (locs : List Loc) (ls : Array Slot), (hmz2 : (4 - j).toNat < n9) → (hi0 : 0 ≤ j ∧ j ≤ 4) → xD G (xA M s.heap.size) s M H locs → lv_has ls 3 [(0, .ref h0), (1, .int (iN (j)))] → W p l e R s m args below meth c H locs _ _ _ (F0 m 2 ls []) by
    exact hloop2 _ 0  _ _ _ (Nat.lt_succ_self _) (by omega) hw (lv_sub hl [1, 0] rfl)
  intro n9
  induction n9 with
  | zero => intro j  H locs ls hmz; exact absurd hmz (Nat.not_lt_zero _)
  | succ n9 ih2 =>
    intro j  H locs ls hmz2 hi0 hw hl
    refine lv_iload_n hC.1 hC.2.1 dX3_isSound_2 rfl (lv_at hl 1 rfl) ?_
    refine lv_aload_n hC.1 hC.2.1 dX3_isSound_3 rfl (lv_at hl 0 rfl) ?_
    refine x_get hC hw hR.1 rfl hinX3 1 (by decide) (List.mem_cons_of_mem _ (List.mem_append_left _ (List.mem_append_left _ (List.mem_append_left _ (List.mem_append_left _ (List.mem_of_getElem? (i := 0) rfl)))))) rfl dX3_isSound_4 ?_
    refine x_alen hC hw 3 hR.2.2.1 rfl dX3_isSound_7 ?_
    refine x_icmp_ge (tgt := 40) hC ⟨by omega, by omega⟩ ⟨by omega, by omega⟩ dX3_isSound_8 (by decide) (fun c_1 => ?_) (fun c_1 => ?_)
    · refine x_const hC dX3_isSound_40 ?_
      refine lv_istore_n (lv' := [(1, .int (iN (0))), (0, .ref h0)]) hC.1 hC.2.1 dX3_isSound_41 rfl hl (by decide) rfl (fun ls hl => ?_)
      suffices hloop42 : ∀ (n9 : Nat) (j : Int) (H : Heap) (locs : List Loc) (ls : Array Slot), (hmz42 : (3 - j).toNat < n9) → (hi0 : 0 ≤ j ∧ j ≤ 3) → xD G (xA M s.heap.size) s M H locs → lv_has ls 3 [(0, .ref h0), (1, .int (iN (j)))] → W p l e R s m args below meth c H locs _ _ _ (F0 m 42 ls []) by
        exact hloop42 _ 0  _ _ _ (Nat.lt_succ_self _) (by omega) hw (lv_sub hl [1, 0] rfl)
      intro n9
      induction n9 with
      | zero => intro j  H locs ls hmz; exact absurd hmz (Nat.not_lt_zero _)
      | succ n9 ih42 =>
        intro j  H locs ls hmz42 hi0 hw hl
        refine lv_iload_n hC.1 hC.2.1 dX3_isSound_42 rfl (lv_at hl 1 rfl) ?_
        refine lv_aload_n hC.1 hC.2.1 dX3_isSound_43 rfl (lv_at hl 0 rfl) ?_
        refine x_get hC hw hR.1 rfl hinX3 0 (by decide) (List.mem_cons_of_mem _ (List.mem_append_left _ (List.mem_append_left _ (List.mem_append_left _ (List.mem_append_left _ (List.mem_of_getElem? (i := 1) rfl)))))) rfl dX3_isSound_44 ?_
        refine x_alen hC hw 2 hR.2.1 rfl dX3_isSound_47 ?_
        refine x_icmp_ge (tgt := 126) hC ⟨by omega, by omega⟩ ⟨by omega, by omega⟩ dX3_isSound_48 (by decide) (fun c_2 => ?_) (fun c_2 => ?_)
        · refine x_const hC dX3_isSound_126 ?_
          exact x_zret hC hw (by omega) dX3_isSound_127 (by first | decide | omega) (by first | decide | omega) ⟨1, rfl, rfl, by omega⟩
        · refine lv_aload_n hC.1 hC.2.1 dX3_isSound_51 rfl (lv_at hl 0 rfl) ?_
          refine x_get hC hw hR.1 rfl hinX3 0 (by decide) (List.mem_cons_of_mem _ (List.mem_append_left _ (List.mem_append_left _ (List.mem_append_left _ (List.mem_append_left _ (List.mem_of_getElem? (i := 1) rfl)))))) rfl dX3_isSound_52 ?_
          refine lv_iload_n hC.1 hC.2.1 dX3_isSound_55 rfl (lv_at hl 1 rfl) ?_
          refine x_aldq hC hw 2 hR.2.1 rfl (by omega) (by omega) (by omega) dX3_isSound_56 ?_
          rw [hR.fb' (show (j).toNat < 3 from tn_lt (by omega) (by decide))]
          show W p l e R s m args below meth c _ _ _ _ _ (F0 m 57 ls [.ref (qb (j).toNat)])
          have hix_3 : (j).toNat < 3 := by omega
          obtain ⟨szx_4, fkx_4, fwx_4, hBx_4, hVx_4⟩ := hR.bk hix_3
          obtain ⟨-, -, -, -, hsax_4, hsbx_4⟩ := id hBx_4
          have holx_4 := hR.ol hix_3
          have hctx_4 := hcb.2 _ hix_3
          refine x_callV hC hw (lv_size hl) (c_X0_isInOrder l G hBx_4 (show (O ((j).toNat)) < 3 by first | assumption | omega) hVx_4 (by first | assumption | omega) (by first | assumption | omega)) gX3_isSound_X0_isInOrder rfl dv_X0_isInOrder hBx_4.1 rfl rfl (Nat.le_of_ble_eq_true rfl) (by rw [hRf]; decide) (by rw [hRl]; decide) (by first | (rw [hRc]; decide) | omega) (by first | (rw [hRs]; decide) | omega) dX3_isSound_57 (fun r9 M_5 H locs hq hw => ?_)
          obtain ⟨z_6, rfl, hM9, hz_6⟩ := hq
          rw [hM9] at hw
          show W p l e R s m args below meth c H locs _ _ _ (F0 m 60 ls [.int (iN (z_6))])
          refine x_if_ne (tgt := 65) hC ⟨by omega, by omega⟩ dX3_isSound_60 (by decide) (fun c_7 => ?_) (fun c_7 => ?_)
          · refine x_const hC dX3_isSound_65 ?_
            refine lv_istore_n (lv' := [(2, .int (iN (0))), (0, .ref h0), (1, .int (iN (j)))]) hC.1 hC.2.1 dX3_isSound_66 rfl hl (by decide) rfl (fun ls hl => ?_)
            suffices hloop67 : ∀ (n9 : Nat) (o : Int) (H : Heap) (locs : List Loc) (ls : Array Slot), (hmz67 : (3 - o).toNat < n9) → (hi1 : 0 ≤ o ∧ o ≤ 3) → xD G (xA M s.heap.size) s M H locs → lv_has ls 3 [(0, .ref h0), (1, .int (iN (j))), (2, .int (iN (o)))] → W p l e R s m args below meth c H locs _ _ _ (F0 m 67 ls []) by
              exact hloop67 _ 0  _ _ _ (Nat.lt_succ_self _) (by omega) hw (lv_sub hl [1, 2, 0] rfl)
            intro n9
            induction n9 with
            | zero => intro o  H locs ls hmz; exact absurd hmz (Nat.not_lt_zero _)
            | succ n9 ih67 =>
              intro o  H locs ls hmz67 hi1 hw hl
              refine lv_iload_n hC.1 hC.2.1 dX3_isSound_67 rfl (lv_at hl 2 rfl) ?_
              refine lv_aload_n hC.1 hC.2.1 dX3_isSound_68 rfl (lv_at hl 0 rfl) ?_
              refine x_get hC hw hR.1 rfl hinX3 0 (by decide) (List.mem_cons_of_mem _ (List.mem_append_left _ (List.mem_append_left _ (List.mem_append_left _ (List.mem_append_left _ (List.mem_of_getElem? (i := 1) rfl)))))) rfl dX3_isSound_69 ?_
              refine x_alen hC hw 2 hR.2.1 rfl dX3_isSound_72 ?_
              refine x_icmp_ge (tgt := 120) hC ⟨by omega, by omega⟩ ⟨by omega, by omega⟩ dX3_isSound_73 (by decide) (fun c_8 => ?_) (fun c_8 => ?_)
              · refine x_iinc (lv' := [(1, .int (iN (j + 1))), (0, .ref h0), (2, .int (iN (o)))]) hC dX3_isSound_120 hl (k := 1) rfl (by decide) rfl (fun ls hl => ?_)
                refine lv_goto (tgt := 42) hC.1 hC.2.1 dX3_isSound_123 (by decide) ?_
                exact ih42 (j + 1)  _ _ _ (by first | exact mu_s hmz42 (by omega) | omega) (by omega) hw (lv_sub hl [1, 0] rfl)
              · refine lv_aload_n hC.1 hC.2.1 dX3_isSound_76 rfl (lv_at hl 0 rfl) ?_
                refine x_get hC hw hR.1 rfl hinX3 0 (by decide) (List.mem_cons_of_mem _ (List.mem_append_left _ (List.mem_append_left _ (List.mem_append_left _ (List.mem_append_left _ (List.mem_of_getElem? (i := 1) rfl)))))) rfl dX3_isSound_77 ?_
                refine lv_iload_n hC.1 hC.2.1 dX3_isSound_80 rfl (lv_at hl 1 rfl) ?_
                refine x_aldq hC hw 2 hR.2.1 rfl (by omega) (by omega) (by omega) dX3_isSound_81 ?_
                rw [hR.fb' (show (j).toNat < 3 from tn_lt (by omega) (by decide))]
                show W p l e R s m args below meth c _ _ _ _ _ (F0 m 82 ls [.ref (qb (j).toNat)])
                have hix_9 : (j).toNat < 3 := by omega
                refine lv_aload_n hC.1 hC.2.1 dX3_isSound_82 rfl (lv_at hl 0 rfl) ?_
                refine x_get hC hw hR.1 rfl hinX3 0 (by decide) (List.mem_cons_of_mem _ (List.mem_append_left _ (List.mem_append_left _ (List.mem_append_left _ (List.mem_append_left _ (List.mem_of_getElem? (i := 1) rfl)))))) rfl dX3_isSound_83 ?_
                refine lv_iload_n hC.1 hC.2.1 dX3_isSound_86 rfl (lv_at hl 2 rfl) ?_
                refine x_aldq hC hw 2 hR.2.1 rfl (by omega) (by omega) (by omega) dX3_isSound_87 ?_
                rw [hR.fb' (show (o).toNat < 3 from tn_lt (by omega) (by decide))]
                show W p l e R s m args below meth c _ _ _ _ _ (F0 m 88 ls [.ref (qb (o).toNat), .ref (qb ((j).toNat))])
                have hix_10 : (o).toNat < 3 := by omega
                obtain ⟨szx_11, fkx_11, fwx_11, hBx_11, hVx_11⟩ := hR.bk hix_10
                obtain ⟨-, -, -, -, hsax_11, hsbx_11⟩ := id hBx_11
                have holx_11 := hR.ol hix_10
                have hctx_11 := hcb.2 _ hix_10
                refine x_callV hC hw (lv_size hl) (c_X0_isLike l G hBx_4 (show (O ((j).toNat)) < 3 by first | assumption | omega) hVx_4 (by first | assumption | omega) (by first | assumption | omega) hBx_11 (show (O ((o).toNat)) < 3 by first | assumption | omega) hVx_11 (by first | assumption | omega) (by first | assumption | omega)) gX3_isSound_X0_isLike rfl dv_X0_isLike hBx_4.1 rfl rfl (Nat.le_of_ble_eq_true rfl) (by rw [hRf]; decide) (by rw [hRl]; decide) (by first | (rw [hRc]; decide) | omega) (by first | (rw [hRs]; decide) | omega) dX3_isSound_88 (fun r9 M_12 H locs hq hw => ?_)
                obtain ⟨z_13, rfl, hM9, hz_13, hz_13l⟩ := hq
                rw [hM9] at hw
                show W p l e R s m args below meth c H locs _ _ _ (F0 m 91 ls [.int (iN (z_13))])
                refine x_if_eq (tgt := 114) hC ⟨by omega, by omega⟩ dX3_isSound_91 (by decide) (fun c_14 => ?_) (fun c_14 => ?_)
                · refine x_iinc (lv' := [(2, .int (iN (o + 1))), (0, .ref h0), (1, .int (iN (j)))]) hC dX3_isSound_114 hl (k := 2) rfl (by decide) rfl (fun ls hl => ?_)
                  refine lv_goto (tgt := 67) hC.1 hC.2.1 dX3_isSound_117 (by decide) ?_
                  exact ih67 (o + 1)  _ _ _ (by first | exact mu_s hmz67 (by omega) | omega) (by omega) hw (lv_sub hl [1, 2, 0] rfl)
                · refine lv_aload_n hC.1 hC.2.1 dX3_isSound_94 rfl (lv_at hl 0 rfl) ?_
                  refine x_get hC hw hR.1 rfl hinX3 0 (by decide) (List.mem_cons_of_mem _ (List.mem_append_left _ (List.mem_append_left _ (List.mem_append_left _ (List.mem_append_left _ (List.mem_of_getElem? (i := 1) rfl)))))) rfl dX3_isSound_95 ?_
                  refine lv_iload_n hC.1 hC.2.1 dX3_isSound_98 rfl (lv_at hl 1 rfl) ?_
                  refine x_aldq hC hw 2 hR.2.1 rfl (by omega) (by omega) (by omega) dX3_isSound_99 ?_
                  rw [hR.fb' (show (j).toNat < 3 from tn_lt (by omega) (by decide))]
                  show W p l e R s m args below meth c _ _ _ _ _ (F0 m 100 ls [.ref (qb (j).toNat)])
                  have hix_15 : (j).toNat < 3 := by omega
                  refine lv_aload_n hC.1 hC.2.1 dX3_isSound_100 rfl (lv_at hl 0 rfl) ?_
                  refine x_get hC hw hR.1 rfl hinX3 0 (by decide) (List.mem_cons_of_mem _ (List.mem_append_left _ (List.mem_append_left _ (List.mem_append_left _ (List.mem_append_left _ (List.mem_of_getElem? (i := 1) rfl)))))) rfl dX3_isSound_101 ?_
                  refine lv_iload_n hC.1 hC.2.1 dX3_isSound_104 rfl (lv_at hl 2 rfl) ?_
                  refine x_aldq hC hw 2 hR.2.1 rfl (by omega) (by omega) (by omega) dX3_isSound_105 ?_
                  rw [hR.fb' (show (o).toNat < 3 from tn_lt (by omega) (by decide))]
                  show W p l e R s m args below meth c _ _ _ _ _ (F0 m 106 ls [.ref (qb (o).toNat), .ref (qb ((j).toNat))])
                  have hix_16 : (o).toNat < 3 := by omega
                  refine x_callV hC hw (lv_size hl) (c_X0_hasSameTotals l G hBx_4 (show (O ((j).toNat)) < 3 by first | assumption | omega) hVx_4 (by first | assumption | omega) (by first | assumption | omega) hBx_11 (show (O ((o).toNat)) < 3 by first | assumption | omega) hVx_11 (by first | assumption | omega) (by first | assumption | omega)) gX3_isSound_X0_hasSameTotals rfl dv_X0_hasSameTotals hBx_4.1 rfl rfl (Nat.le_of_ble_eq_true rfl) (by rw [hRf]; decide) (by rw [hRl]; decide) (by first | (rw [hRc]; decide) | omega) (by first | (rw [hRs]; decide) | omega) dX3_isSound_106 (fun r9 M_17 H locs hq hw => ?_)
                  obtain ⟨z_18, rfl, hM9, hz_18, hz_18l⟩ := hq
                  rw [hM9] at hw
                  show W p l e R s m args below meth c H locs _ _ _ (F0 m 109 ls [.int (iN (z_18))])
                  refine x_if_ne (tgt := 114) hC ⟨by omega, by omega⟩ dX3_isSound_109 (by decide) (fun c_19 => ?_) (fun c_19 => ?_)
                  · refine x_iinc (lv' := [(2, .int (iN (o + 1))), (0, .ref h0), (1, .int (iN (j)))]) hC dX3_isSound_114 hl (k := 2) rfl (by decide) rfl (fun ls hl => ?_)
                    refine lv_goto (tgt := 67) hC.1 hC.2.1 dX3_isSound_117 (by decide) ?_
                    exact ih67 (o + 1)  _ _ _ (by first | exact mu_s hmz67 (by omega) | omega) (by omega) hw (lv_sub hl [1, 2, 0] rfl)
                  · refine x_const hC dX3_isSound_112 ?_
                    exact x_zret hC hw (by omega) dX3_isSound_113 (by first | decide | omega) (by first | decide | omega) ⟨0, rfl, rfl, by first | omega | (exfalso; have e9 := hz_18l (hz_13l.mp (by omega)); omega)⟩
          · refine x_const hC dX3_isSound_63 ?_
            exact x_zret hC hw (by omega) dX3_isSound_64 (by first | decide | omega) (by first | decide | omega) ⟨0, rfl, rfl, by first | omega | (exfalso; have e9 := hz_18l (hz_13l.mp (by omega)); omega)⟩
    · refine lv_aload_n hC.1 hC.2.1 dX3_isSound_11 rfl (lv_at hl 0 rfl) ?_
      refine x_get hC hw hR.1 rfl hinX3 1 (by decide) (List.mem_cons_of_mem _ (List.mem_append_left _ (List.mem_append_left _ (List.mem_append_left _ (List.mem_append_left _ (List.mem_of_getElem? (i := 0) rfl)))))) rfl dX3_isSound_12 ?_
      refine lv_iload_n hC.1 hC.2.1 dX3_isSound_15 rfl (lv_at hl 1 rfl) ?_
      refine x_aldq hC hw 3 hR.2.2.1 rfl (by omega) (by omega) (by omega) dX3_isSound_16 ?_
      rcases hy_21 : fv (j).toNat with _ | y_20
      · have hnhy_21 : Wv (j).toNat = none := VwO.nil (hR.vwo (show (j).toNat < 4 from tn_lt (by omega) (by decide))) hy_21
        have hohy_21 := opN_none hnhy_21
        show W p l e R s m args below meth c _ _ _ _ _ (F0 m 17 ls [.null])
        refine lv_ifnullN (tgt := 34) hC.1 hC.2.1 dX3_isSound_17 (by decide) ?_
        refine x_iinc (lv' := [(1, .int (iN (j + 1))), (0, .ref h0)]) hC dX3_isSound_34 hl (k := 1) rfl (by decide) rfl (fun ls hl => ?_)
        refine lv_goto (tgt := 2) hC.1 hC.2.1 dX3_isSound_37 (by decide) ?_
        exact ih2 (j + 1)  _ _ _ (by first | exact mu_s hmz2 (by omega) | omega) (by omega) hw (lv_sub hl [1, 0] rfl)
      · obtain ⟨ux_22, hux_22, hTx_22⟩ := (hR.vwo (show (j).toNat < 4 from tn_lt (by omega) (by decide))).yes hy_21
        have hpx_22 := opN_some hux_22
        have hkx_23 := hTx_22.1
        have hvx_23 := hTx_22.2
        have hlix_23 := hvx_23.2.1
        have huix_23 := hvx_23.2.2
        obtain ⟨htax_23, htbx_23, htcx_23, htdx_23, htex_23⟩ := id hkx_23
        obtain ⟨szx_24, fkx_24, fwx_24, hBx_24, hVx_24⟩ := hR.bk htax_23
        obtain ⟨-, -, -, -, hsax_24, hsbx_24⟩ := id hBx_24
        have holx_24 := hR.ol htax_23
        have hctx_24 := hcb.2 _ htax_23
        show W p l e R s m args below meth c _ _ _ _ _ (F0 m 17 ls [.ref y_20])
        refine lv_ifnull hC.1 hC.2.1 dX3_isSound_17 ?_
        refine lv_aload_n hC.1 hC.2.1 dX3_isSound_20 rfl (lv_at hl 0 rfl) ?_
        refine x_get hC hw hR.1 rfl hinX3 1 (by decide) (List.mem_cons_of_mem _ (List.mem_append_left _ (List.mem_append_left _ (List.mem_append_left _ (List.mem_append_left _ (List.mem_of_getElem? (i := 0) rfl)))))) rfl dX3_isSound_21 ?_
        refine lv_iload_n hC.1 hC.2.1 dX3_isSound_24 rfl (lv_at hl 1 rfl) ?_
        refine x_aldq hC hw 3 hR.2.2.1 rfl (by omega) (by omega) (by omega) dX3_isSound_25 ?_
        rw [hy_21]
        show W p l e R s m args below meth c _ _ _ _ _ (F0 m 26 ls [.ref y_20])
        refine x_callV hC hw (lv_size hl) (c_X1_isSoundView l G hkx_23 hvx_23 hBx_24 (show (O ux_22.b) < 3 by first | assumption | omega) hVx_24 (by first | assumption | omega) (by first | assumption | omega) (O := O) (V := V) (t9 := ux_22)) gX3_isSound_X1_isSoundView rfl dv_X1_isSoundView hvx_23.1 rfl rfl (Nat.le_of_ble_eq_true rfl) (by rw [hRf]; decide) (by rw [hRl]; decide) (by first | (rw [hRc]; decide) | omega) (by first | (rw [hRs]; decide) | omega) dX3_isSound_26 (fun r9 M_25 H locs hq hw => ?_)
        obtain ⟨z_26, rfl, hM9, hz_26⟩ := hq
        rw [hM9] at hw
        show W p l e R s m args below meth c H locs _ _ _ (F0 m 29 ls [.int (iN (z_26))])
        refine x_if_ne (tgt := 34) hC ⟨by omega, by omega⟩ dX3_isSound_29 (by decide) (fun c_27 => ?_) (fun c_27 => ?_)
        · refine x_iinc (lv' := [(1, .int (iN (j + 1))), (0, .ref h0)]) hC dX3_isSound_34 hl (k := 1) rfl (by decide) rfl (fun ls hl => ?_)
          refine lv_goto (tgt := 2) hC.1 hC.2.1 dX3_isSound_37 (by decide) ?_
          exact ih2 (j + 1)  _ _ _ (by first | exact mu_s hmz2 (by omega) | omega) (by omega) hw (lv_sub hl [1, 0] rfl)
        · refine x_const hC dX3_isSound_32 ?_
          exact x_zret hC hw (by omega) dX3_isSound_33 (by first | decide | omega) (by first | decide | omega) ⟨0, rfl, rfl, by first | omega | (exfalso; have e9 := hz_18l (hz_13l.mp (by omega)); omega)⟩
set_option maxHeartbeats 4000000 in
theorem c_X3_mixed (l : Launch) (G : xG) {M : HM} {l0 l1 : Int64} : xMet l G yX3_mixed wsX3_mixed 0 0 0 0 [.long l0, .long l1] M (fun r M1 => ∃ d : Int64, r = some (.long d) ∧ M1 = M) := by
  refine x_intro (cc := cX3_mixed) (maxL := 4) (ret := (some .long)) (by exact pln_RX3) rfl (Nat.le_of_ble_eq_true rfl) ?_
  intro p e R s m args below meth c ls hRf hRc hRs hRl hC hw hl
  have hl : lv_has ls 4 [(0, .long (l0)), (2, .long (l1))] := hl
  refine lv_lload_n hC.1 hC.2.1 dX3_mixed_0 rfl (lv_at hl 0 rfl) ?_
  refine lv_ldc2 (v := 31) hC.1 hC.2.1 hC.2.2.2.1 (hC.2.2.2.2.1 _ (by decide +kernel)) dX3_mixed_1 ?_
  refine lv_lmul hC.1 hC.2.1 dX3_mixed_4 ?_
  refine lv_topl (fun d_1 hd_1 => ?_)
  refine lv_lload_n hC.1 hC.2.1 dX3_mixed_5 rfl (lv_at hl 1 rfl) ?_
  refine lv_ladd hC.1 hC.2.1 dX3_mixed_6 ?_
  refine lv_topl (fun d_2 hd_2 => ?_)
  exact x_lret hC hw dX3_mixed_7 (by first | decide | omega) (by first | decide | omega) ⟨_, rfl, rfl⟩
set_option maxHeartbeats 4000000 in
set_option maxRecDepth 100000 in
theorem c_X3_mixedWithBook (l : Launch) (G : xG) {M : HM} {l0 : Int64} {h0 bs vs : Nat} {og : Option Nat} {kk kv rf : Int32} {qb qk qv : Nat → Nat} {fb fv : Nat → Option Nat} {O : OW} {Wv : VW} {V : BW} {T C : Nat → Int} {K : WA} {N : Int} (hR : RGx G M h0 bs vs og kk kv rf qb qk qv fb fv O O Wv V T C K) (hcb : cbN N T C) (hN : N ≤ 590) {p0 : Int} (hp0 : -2147483648 ≤ p0 ∧ p0 ≤ 2147483647) (hob : 0 ≤ p0 ∧ p0 < 3) : xMet l G yX3_mixedWithBook wsX3_mixedWithBook 8 136 0 0 [.ref h0, .long l0, .int (iN (p0))] M (fun r M1 => ∃ d : Int64, r = some (.long d) ∧ M1 = M) := by
  refine x_intro (cc := cX3_mixedWithBook) (maxL := 8) (ret := (some .long)) (by exact pln_RX3) rfl (Nat.le_of_ble_eq_true rfl) ?_
  intro p e R s m args below meth c ls hRf hRc hRs hRl hC hw hl
  have hinX3 : ∀ w ∈ wsX30, w ∈ wsX3_mixedWithBook := fun w h => (List.mem_cons_of_mem _ (List.mem_append_left _ (List.mem_append_left _ (List.mem_append_left _ (List.mem_append_left _ (List.mem_append_right _ h))))))
  have hl : lv_has ls 8 [(0, .ref h0), (1, .long (l0)), (3, .int (iN (p0)))] := hl
  refine lv_aload_n hC.1 hC.2.1 dX3_mixedWithBook_0 rfl (lv_at hl 0 rfl) ?_
  refine lv_iload_n hC.1 hC.2.1 dX3_mixedWithBook_1 rfl (lv_at hl 2 rfl) ?_
  refine x_callV hC hw (lv_size hl) (c_X3_bookAt_ok l G hR hcb hN (p0 := p0) (by first | assumption | omega) (by omega)) gX3_mixedWithBook_X3_bookAt rfl dv_X3_bookAt hR.1 rfl rfl (Nat.le_of_ble_eq_true rfl) (by rw [hRf]; decide) (by rw [hRl]; decide) (by first | (rw [hRc]; decide) | omega) (by first | (rw [hRs]; decide) | omega) dX3_mixedWithBook_2 (fun r9 M_1 H locs hq hw => ?_)
  obtain ⟨rfl, hM9, hk_2, hk_2b⟩ := hq
  rw [hM9] at hw
  have hik_2 : (p0).toNat < 3 := by omega
  obtain ⟨szx_3, fkx_3, fwx_3, hBx_3, hVx_3⟩ := hR.bk hik_2
  obtain ⟨-, -, -, -, hsax_3, hsbx_3⟩ := id hBx_3
  have holx_3 := hR.ol hik_2
  have hctx_3 := hcb.2 _ hik_2
  show W p l e R s m args below meth c H locs _ _ _ (F0 m 5 ls [.ref (qb ((p0).toNat))])
  refine lv_astore (lv' := [(4, .ref (qb ((p0).toNat))), (0, .ref h0), (1, .long (l0)), (3, .int (iN (p0)))]) hC.1 hC.2.1 dX3_mixedWithBook_5 hl (by decide) rfl (fun ls hl => ?_)
  refine lv_lload_n hC.1 hC.2.1 dX3_mixedWithBook_7 rfl (lv_at hl 2 rfl) ?_
  refine lv_lstore (lv' := [(5, .long (l0)), (4, .ref (qb ((p0).toNat))), (0, .ref h0), (1, .long (l0)), (3, .int (iN (p0)))]) hC.1 hC.2.1 dX3_mixedWithBook_8 hl (by decide) rfl (fun ls hl => ?_)
  refine x_const hC dX3_mixedWithBook_10 ?_
  refine lv_istore (lv' := [(7, .int (iN (0))), (5, .long (l0)), (4, .ref (qb ((p0).toNat))), (0, .ref h0), (1, .long (l0)), (3, .int (iN (p0)))]) hC.1 hC.2.1 dX3_mixedWithBook_11 hl (by decide) rfl (fun ls hl => ?_)
  suffices hloop13 : ∀ (n9 : Nat) (d9 : Int64) (j : Int) (H : Heap) (locs : List Loc) (ls : Array Slot), (hmz13 : (9 - j).toNat < n9) → (hi0 : 0 ≤ j ∧ j ≤ 9) → xD G (xA M s.heap.size) s M H locs → lv_has ls 8 [(0, .ref h0), (3, .int (iN (p0))), (4, .ref (qb ((p0).toNat))), (5, .long (d9)), (7, .int (iN (j)))] → W p l e R s m args below meth c H locs _ _ _ (F0 m 13 ls []) by
    exact hloop13 _ l0 0  _ _ _ (Nat.lt_succ_self _) (by omega) hw (lv_sub hl [3, 5, 2, 1, 0] rfl)
  intro n9
  induction n9 with
  | zero => intro d9 j  H locs ls hmz; exact absurd hmz (Nat.not_lt_zero _)
  | succ n9 ih13 =>
    intro d9 j  H locs ls hmz13 hi0 hw hl
    refine lv_iload hC.1 hC.2.1 dX3_mixedWithBook_13 (lv_at hl 4 rfl) ?_
    refine x_bipush hC dX3_mixedWithBook_15 (by decide +kernel) ?_
    refine x_icmp_gt (tgt := 41) hC ⟨by omega, by omega⟩ ⟨by omega, by omega⟩ dX3_mixedWithBook_17 (by decide) (fun c_4 => ?_) (fun c_4 => ?_)
    · refine x_const hC dX3_mixedWithBook_41 ?_
      refine lv_istore (lv' := [(7, .int (iN (0))), (0, .ref h0), (3, .int (iN (p0))), (4, .ref (qb ((p0).toNat))), (5, .long (d9))]) hC.1 hC.2.1 dX3_mixedWithBook_42 hl (by decide) rfl (fun ls hl => ?_)
      suffices hloop44 : ∀ (n9 : Nat) (d9 : Int64) (j : Int) (H : Heap) (locs : List Loc) (ls : Array Slot), (hmz44 : (100 - j).toNat < n9) → (hi0 : 0 ≤ j ∧ j ≤ 100) → xD G (xA M s.heap.size) s M H locs → lv_has ls 8 [(0, .ref h0), (3, .int (iN (p0))), (4, .ref (qb ((p0).toNat))), (5, .long (d9)), (7, .int (iN (j)))] → W p l e R s m args below meth c H locs _ _ _ (F0 m 44 ls []) by
        exact hloop44 _ d9 0  _ _ _ (Nat.lt_succ_self _) (by omega) hw (lv_sub hl [1, 2, 3, 4, 0] rfl)
      intro n9
      induction n9 with
      | zero => intro d9 j  H locs ls hmz; exact absurd hmz (Nat.not_lt_zero _)
      | succ n9 ih44 =>
        intro d9 j  H locs ls hmz44 hi0 hw hl
        refine lv_iload hC.1 hC.2.1 dX3_mixedWithBook_44 (lv_at hl 4 rfl) ?_
        refine lv_aload hC.1 hC.2.1 dX3_mixedWithBook_46 (lv_at hl 2 rfl) ?_
        refine x_callV hC hw (lv_size hl) (c_X0_size l G hBx_3 (show (O ((p0).toNat)) < 3 by first | assumption | omega) hVx_3 (by first | assumption | omega) (by first | assumption | omega)) gX3_mixedWithBook_X0_size rfl dv_X0_size hBx_3.1 rfl rfl (Nat.le_of_ble_eq_true rfl) (by rw [hRf]; decide) (by rw [hRl]; decide) (by first | (rw [hRc]; decide) | omega) (by first | (rw [hRs]; decide) | omega) dX3_mixedWithBook_48 (fun r9 M_5 H locs hq hw => ?_)
        obtain ⟨rfl, hM9⟩ := hq
        rw [hM9] at hw
        show W p l e R s m args below meth c H locs _ _ _ (F0 m 51 ls [.int (iN (szx_3)), .int (iN (j))])
        refine x_icmp_ge (tgt := 90) hC ⟨by omega, by omega⟩ ⟨by omega, by omega⟩ dX3_mixedWithBook_51 (by decide) (fun c_6 => ?_) (fun c_6 => ?_)
        · refine x_const hC dX3_mixedWithBook_90 ?_
          refine lv_istore (lv' := [(7, .int (iN (0))), (0, .ref h0), (3, .int (iN (p0))), (4, .ref (qb ((p0).toNat))), (5, .long (d9))]) hC.1 hC.2.1 dX3_mixedWithBook_91 hl (by decide) rfl (fun ls hl => ?_)
          suffices hloop93 : ∀ (n9 : Nat) (d9 : Int64) (j : Int) (H : Heap) (locs : List Loc) (ls : Array Slot), (hmz93 : (8 - j).toNat < n9) → (hi0 : 0 ≤ j ∧ j ≤ 8) → xD G (xA M s.heap.size) s M H locs → lv_has ls 8 [(0, .ref h0), (3, .int (iN (p0))), (4, .ref (qb ((p0).toNat))), (5, .long (d9)), (7, .int (iN (j)))] → W p l e R s m args below meth c H locs _ _ _ (F0 m 93 ls []) by
            exact hloop93 _ d9 0  _ _ _ (Nat.lt_succ_self _) (by omega) hw (lv_sub hl [1, 2, 3, 4, 0] rfl)
          intro n9
          induction n9 with
          | zero => intro d9 j  H locs ls hmz; exact absurd hmz (Nat.not_lt_zero _)
          | succ n9 ih93 =>
            intro d9 j  H locs ls hmz93 hi0 hw hl
            refine lv_iload hC.1 hC.2.1 dX3_mixedWithBook_93 (lv_at hl 4 rfl) ?_
            refine x_bipush hC dX3_mixedWithBook_95 (by decide +kernel) ?_
            refine x_icmp_ge (tgt := 123) hC ⟨by omega, by omega⟩ ⟨by omega, by omega⟩ dX3_mixedWithBook_97 (by decide) (fun c_7 => ?_) (fun c_7 => ?_)
            · refine x_const hC dX3_mixedWithBook_123 ?_
              refine lv_istore (lv' := [(7, .int (iN (0))), (0, .ref h0), (3, .int (iN (p0))), (4, .ref (qb ((p0).toNat))), (5, .long (d9))]) hC.1 hC.2.1 dX3_mixedWithBook_124 hl (by decide) rfl (fun ls hl => ?_)
              suffices hloop126 : ∀ (n9 : Nat) (d9 : Int64) (j : Int) (H : Heap) (locs : List Loc) (ls : Array Slot), (hmz126 : (3 - j).toNat < n9) → (hi0 : 0 ≤ j ∧ j ≤ 3) → xD G (xA M s.heap.size) s M H locs → lv_has ls 8 [(0, .ref h0), (3, .int (iN (p0))), (4, .ref (qb ((p0).toNat))), (5, .long (d9)), (7, .int (iN (j)))] → W p l e R s m args below meth c H locs _ _ _ (F0 m 126 ls []) by
                exact hloop126 _ d9 0  _ _ _ (Nat.lt_succ_self _) (by omega) hw (lv_sub hl [1, 2, 3, 4, 0] rfl)
              intro n9
              induction n9 with
              | zero => intro d9 j  H locs ls hmz; exact absurd hmz (Nat.not_lt_zero _)
              | succ n9 ih126 =>
                intro d9 j  H locs ls hmz126 hi0 hw hl
                refine lv_iload hC.1 hC.2.1 dX3_mixedWithBook_126 (lv_at hl 4 rfl) ?_
                refine lv_aload_n hC.1 hC.2.1 dX3_mixedWithBook_128 rfl (lv_at hl 0 rfl) ?_
                refine x_get hC hw hR.1 rfl hinX3 0 (by decide) (List.mem_cons_of_mem _ (List.mem_append_left _ (List.mem_append_left _ (List.mem_append_left _ (List.mem_append_left _ (List.mem_append_left _ (List.mem_append_left _ (List.mem_of_getElem? (i := 0) rfl)))))))) rfl dX3_mixedWithBook_129 ?_
                refine x_alen hC hw 2 hR.2.1 rfl dX3_mixedWithBook_132 ?_
                refine x_icmp_ge (tgt := 169) hC ⟨by omega, by omega⟩ ⟨by omega, by omega⟩ dX3_mixedWithBook_133 (by decide) (fun c_8 => ?_) (fun c_8 => ?_)
                · refine lv_lload hC.1 hC.2.1 dX3_mixedWithBook_169 (lv_at hl 3 rfl) ?_
                  exact x_lret hC hw dX3_mixedWithBook_171 (by first | decide | omega) (by first | decide | omega) ⟨_, rfl, rfl⟩
                · refine lv_lload hC.1 hC.2.1 dX3_mixedWithBook_136 (lv_at hl 3 rfl) ?_
                  refine lv_aload hC.1 hC.2.1 dX3_mixedWithBook_138 (lv_at hl 2 rfl) ?_
                  refine lv_aload_n hC.1 hC.2.1 dX3_mixedWithBook_140 rfl (lv_at hl 0 rfl) ?_
                  refine x_get hC hw hR.1 rfl hinX3 0 (by decide) (List.mem_cons_of_mem _ (List.mem_append_left _ (List.mem_append_left _ (List.mem_append_left _ (List.mem_append_left _ (List.mem_append_left _ (List.mem_append_left _ (List.mem_of_getElem? (i := 0) rfl)))))))) rfl dX3_mixedWithBook_141 ?_
                  refine lv_iload hC.1 hC.2.1 dX3_mixedWithBook_144 (lv_at hl 4 rfl) ?_
                  refine x_aldq hC hw 2 hR.2.1 rfl (by omega) (by omega) (by omega) dX3_mixedWithBook_146 ?_
                  rw [hR.fb' (show (j).toNat < 3 from tn_lt (by omega) (by decide))]
                  show W p l e R s m args below meth c _ _ _ _ _ (F0 m 147 ls [.ref (qb (j).toNat), .ref (qb ((p0).toNat)), .long (d9)])
                  have hix_9 : (j).toNat < 3 := by omega
                  obtain ⟨szx_10, fkx_10, fwx_10, hBx_10, hVx_10⟩ := hR.bk hix_9
                  obtain ⟨-, -, -, -, hsax_10, hsbx_10⟩ := id hBx_10
                  have holx_10 := hR.ol hix_9
                  have hctx_10 := hcb.2 _ hix_9
                  refine x_callV hC hw (lv_size hl) (c_X0_isLike l G hBx_3 (show (O ((p0).toNat)) < 3 by first | assumption | omega) hVx_3 (by first | assumption | omega) (by first | assumption | omega) hBx_10 (show (O ((j).toNat)) < 3 by first | assumption | omega) hVx_10 (by first | assumption | omega) (by first | assumption | omega)) gX3_mixedWithBook_X0_isLike rfl dv_X0_isLike hBx_3.1 rfl rfl (Nat.le_of_ble_eq_true rfl) (by rw [hRf]; decide) (by rw [hRl]; decide) (by first | (rw [hRc]; decide) | omega) (by first | (rw [hRs]; decide) | omega) dX3_mixedWithBook_147 (fun r9 M_11 H locs hq hw => ?_)
                  obtain ⟨z_12, rfl, hM9, hz_12, hz_12l⟩ := hq
                  rw [hM9] at hw
                  show W p l e R s m args below meth c H locs _ _ _ (F0 m 150 ls [.int (iN (z_12)), .long (d9)])
                  refine x_if_eq (tgt := 157) hC ⟨by omega, by omega⟩ dX3_mixedWithBook_150 (by decide) (fun c_13 => ?_) (fun c_13 => ?_)
                  · refine lv_lconst (v := 0) hC.1 hC.2.1 dX3_mixedWithBook_157 rfl ?_
                    refine x_callS hC hw (lv_size hl) (c_X3_mixed l G (M := M) (l0 := d9) (l1 := 0)) gX3_mixedWithBook_X3_mixed rfl dv_X3_mixed_s rfl (Nat.le_of_ble_eq_true rfl) (by rw [hRf]; decide) (by rw [hRl]; decide) (by first | (rw [hRc]; decide) | omega) (by first | (rw [hRs]; decide) | omega) dX3_mixedWithBook_158 (fun r9 M_14 H locs hq hw => ?_)
                    obtain ⟨l_15, rfl, hM9⟩ := hq
                    rw [hM9] at hw
                    show W p l e R s m args below meth c H locs _ _ _ (F0 m 161 ls [.long (l_15)])
                    refine lv_lstore (lv' := [(5, .long (l_15)), (0, .ref h0), (3, .int (iN (p0))), (4, .ref (qb ((p0).toNat))), (7, .int (iN (j)))]) hC.1 hC.2.1 dX3_mixedWithBook_161 hl (by decide) rfl (fun ls hl => ?_)
                    refine x_iinc (lv' := [(7, .int (iN (j + 1))), (5, .long (l_15)), (0, .ref h0), (3, .int (iN (p0))), (4, .ref (qb ((p0).toNat)))]) hC dX3_mixedWithBook_163 hl (k := 4) rfl (by decide) rfl (fun ls hl => ?_)
                    refine lv_goto (tgt := 126) hC.1 hC.2.1 dX3_mixedWithBook_166 (by decide) ?_
                    exact ih126 l_15 (j + 1)  _ _ _ (by first | exact mu_s hmz126 (by omega) | omega) (by omega) hw (lv_sub hl [2, 3, 4, 1, 0] rfl)
                  · refine lv_lconst (v := 1) hC.1 hC.2.1 dX3_mixedWithBook_153 rfl ?_
                    refine lv_goto (tgt := 158) hC.1 hC.2.1 dX3_mixedWithBook_154 (by decide) ?_
                    refine x_callS hC hw (lv_size hl) (c_X3_mixed l G (M := M) (l0 := d9) (l1 := 1)) gX3_mixedWithBook_X3_mixed rfl dv_X3_mixed_s rfl (Nat.le_of_ble_eq_true rfl) (by rw [hRf]; decide) (by rw [hRl]; decide) (by first | (rw [hRc]; decide) | omega) (by first | (rw [hRs]; decide) | omega) dX3_mixedWithBook_158 (fun r9 M_16 H locs hq hw => ?_)
                    obtain ⟨l_17, rfl, hM9⟩ := hq
                    rw [hM9] at hw
                    show W p l e R s m args below meth c H locs _ _ _ (F0 m 161 ls [.long (l_17)])
                    refine lv_lstore (lv' := [(5, .long (l_17)), (0, .ref h0), (3, .int (iN (p0))), (4, .ref (qb ((p0).toNat))), (7, .int (iN (j)))]) hC.1 hC.2.1 dX3_mixedWithBook_161 hl (by decide) rfl (fun ls hl => ?_)
                    refine x_iinc (lv' := [(7, .int (iN (j + 1))), (5, .long (l_17)), (0, .ref h0), (3, .int (iN (p0))), (4, .ref (qb ((p0).toNat)))]) hC dX3_mixedWithBook_163 hl (k := 4) rfl (by decide) rfl (fun ls hl => ?_)
                    refine lv_goto (tgt := 126) hC.1 hC.2.1 dX3_mixedWithBook_166 (by decide) ?_
                    exact ih126 l_17 (j + 1)  _ _ _ (by first | exact mu_s hmz126 (by omega) | omega) (by omega) hw (lv_sub hl [2, 3, 4, 1, 0] rfl)
            · refine lv_lload hC.1 hC.2.1 dX3_mixedWithBook_100 (lv_at hl 3 rfl) ?_
              refine lv_aload_n hC.1 hC.2.1 dX3_mixedWithBook_102 rfl (lv_at hl 0 rfl) ?_
              refine lv_iload_n hC.1 hC.2.1 dX3_mixedWithBook_103 rfl (lv_at hl 1 rfl) ?_
              refine x_bipush hC dX3_mixedWithBook_104 (by decide +kernel) ?_
              refine lv_iload hC.1 hC.2.1 dX3_mixedWithBook_106 (lv_at hl 4 rfl) ?_
              refine x_callV hC hw (lv_size hl) (c_X3_near_ok l G hR hcb hN (p0 := p0) (by first | assumption | omega) (p1 := 50) (by omega) (p2 := j) (by omega) (by omega) (by omega) (by omega)) gX3_mixedWithBook_X3_near rfl dv_X3_near hR.1 rfl rfl (Nat.le_of_ble_eq_true rfl) (by rw [hRf]; decide) (by rw [hRl]; decide) (by first | (rw [hRc]; decide) | omega) (by first | (rw [hRs]; decide) | omega) dX3_mixedWithBook_108 (fun r9 M_18 H locs hq hw => ?_)
              obtain ⟨z_19, rfl, hM9, hz_19, hz_19A⟩ := hq
              rw [hM9] at hw
              show W p l e R s m args below meth c H locs _ _ _ (F0 m 111 ls [.int (iN (z_19)), .long (d9)])
              refine lv_i2l hC.1 hC.2.1 dX3_mixedWithBook_111 rfl ?_
              refine lv_topl (fun d_20 hd_20 => ?_)
              refine x_callS hC hw (lv_size hl) (c_X3_mixed l G (M := M) (l0 := d9) (l1 := d_20)) gX3_mixedWithBook_X3_mixed rfl dv_X3_mixed_s rfl (Nat.le_of_ble_eq_true rfl) (by rw [hRf]; decide) (by rw [hRl]; decide) (by first | (rw [hRc]; decide) | omega) (by first | (rw [hRs]; decide) | omega) dX3_mixedWithBook_112 (fun r9 M_21 H locs hq hw => ?_)
              obtain ⟨l_22, rfl, hM9⟩ := hq
              rw [hM9] at hw
              show W p l e R s m args below meth c H locs _ _ _ (F0 m 115 ls [.long (l_22)])
              refine lv_lstore (lv' := [(5, .long (l_22)), (0, .ref h0), (3, .int (iN (p0))), (4, .ref (qb ((p0).toNat))), (7, .int (iN (j)))]) hC.1 hC.2.1 dX3_mixedWithBook_115 hl (by decide) rfl (fun ls hl => ?_)
              refine x_iinc (lv' := [(7, .int (iN (j + 1))), (5, .long (l_22)), (0, .ref h0), (3, .int (iN (p0))), (4, .ref (qb ((p0).toNat)))]) hC dX3_mixedWithBook_117 hl (k := 4) rfl (by decide) rfl (fun ls hl => ?_)
              refine lv_goto (tgt := 93) hC.1 hC.2.1 dX3_mixedWithBook_120 (by decide) ?_
              exact ih93 l_22 (j + 1)  _ _ _ (by first | exact mu_s hmz93 (by omega) | omega) (by omega) hw (lv_sub hl [2, 3, 4, 1, 0] rfl)
        · refine lv_lload hC.1 hC.2.1 dX3_mixedWithBook_54 (lv_at hl 3 rfl) ?_
          refine lv_aload hC.1 hC.2.1 dX3_mixedWithBook_56 (lv_at hl 2 rfl) ?_
          refine lv_iload hC.1 hC.2.1 dX3_mixedWithBook_58 (lv_at hl 4 rfl) ?_
          refine x_callV hC hw (lv_size hl) (c_X0_keyAt l G hBx_3 (show (O ((p0).toNat)) < 3 by first | assumption | omega) hVx_3 (by first | assumption | omega) (by first | assumption | omega) (p0 := j) (by omega)) gX3_mixedWithBook_X0_keyAt rfl dv_X0_keyAt hBx_3.1 rfl rfl (Nat.le_of_ble_eq_true rfl) (by rw [hRf]; decide) (by rw [hRl]; decide) (by first | (rw [hRc]; decide) | omega) (by first | (rw [hRs]; decide) | omega) dX3_mixedWithBook_60 (fun r9 M_23 H locs hq hw => ?_)
          obtain ⟨z_24, rfl, hM9, hz_24, hz_24b, hz_24k⟩ := hq
          rw [hM9] at hw
          show W p l e R s m args below meth c H locs _ _ _ (F0 m 63 ls [.int (iN (z_24)), .long (d9)])
          refine lv_i2l hC.1 hC.2.1 dX3_mixedWithBook_63 rfl ?_
          refine lv_topl (fun d_25 hd_25 => ?_)
          refine x_callS hC hw (lv_size hl) (c_X3_mixed l G (M := M) (l0 := d9) (l1 := d_25)) gX3_mixedWithBook_X3_mixed rfl dv_X3_mixed_s rfl (Nat.le_of_ble_eq_true rfl) (by rw [hRf]; decide) (by rw [hRl]; decide) (by first | (rw [hRc]; decide) | omega) (by first | (rw [hRs]; decide) | omega) dX3_mixedWithBook_64 (fun r9 M_26 H locs hq hw => ?_)
          obtain ⟨l_27, rfl, hM9⟩ := hq
          rw [hM9] at hw
          show W p l e R s m args below meth c H locs _ _ _ (F0 m 67 ls [.long (l_27)])
          refine lv_lstore (lv' := [(5, .long (l_27)), (0, .ref h0), (3, .int (iN (p0))), (4, .ref (qb ((p0).toNat))), (7, .int (iN (j)))]) hC.1 hC.2.1 dX3_mixedWithBook_67 hl (by decide) rfl (fun ls hl => ?_)
          refine lv_lload hC.1 hC.2.1 dX3_mixedWithBook_69 (lv_at hl 0 rfl) ?_
          refine lv_aload hC.1 hC.2.1 dX3_mixedWithBook_71 (lv_at hl 3 rfl) ?_
          refine lv_iload hC.1 hC.2.1 dX3_mixedWithBook_73 (lv_at hl 4 rfl) ?_
          refine x_callV hC hw (lv_size hl) (c_X0_valueAt l G hBx_3 (show (O ((p0).toNat)) < 3 by first | assumption | omega) hVx_3 (by first | assumption | omega) (by first | assumption | omega) (p0 := j) (by omega)) gX3_mixedWithBook_X0_valueAt rfl dv_X0_valueAt hBx_3.1 rfl rfl (Nat.le_of_ble_eq_true rfl) (by rw [hRf]; decide) (by rw [hRl]; decide) (by first | (rw [hRc]; decide) | omega) (by first | (rw [hRs]; decide) | omega) dX3_mixedWithBook_75 (fun r9 M_28 H locs hq hw => ?_)
          obtain ⟨z_29, rfl, hM9, hz_29, hz_29b, hz_29k⟩ := hq
          rw [hM9] at hw
          show W p l e R s m args below meth c H locs _ _ _ (F0 m 78 ls [.int (iN (z_29)), .long (l_27)])
          refine lv_i2l hC.1 hC.2.1 dX3_mixedWithBook_78 rfl ?_
          refine lv_topl (fun d_30 hd_30 => ?_)
          refine x_callS hC hw (lv_size hl) (c_X3_mixed l G (M := M) (l0 := l_27) (l1 := d_30)) gX3_mixedWithBook_X3_mixed rfl dv_X3_mixed_s rfl (Nat.le_of_ble_eq_true rfl) (by rw [hRf]; decide) (by rw [hRl]; decide) (by first | (rw [hRc]; decide) | omega) (by first | (rw [hRs]; decide) | omega) dX3_mixedWithBook_79 (fun r9 M_31 H locs hq hw => ?_)
          obtain ⟨l_32, rfl, hM9⟩ := hq
          rw [hM9] at hw
          show W p l e R s m args below meth c H locs _ _ _ (F0 m 82 ls [.long (l_32)])
          refine lv_lstore (lv' := [(5, .long (l_32)), (0, .ref h0), (3, .int (iN (p0))), (4, .ref (qb ((p0).toNat))), (7, .int (iN (j)))]) hC.1 hC.2.1 dX3_mixedWithBook_82 hl (by decide) rfl (fun ls hl => ?_)
          refine x_iinc (lv' := [(7, .int (iN (j + 1))), (5, .long (l_32)), (0, .ref h0), (3, .int (iN (p0))), (4, .ref (qb ((p0).toNat)))]) hC dX3_mixedWithBook_84 hl (k := 4) rfl (by decide) rfl (fun ls hl => ?_)
          refine lv_goto (tgt := 44) hC.1 hC.2.1 dX3_mixedWithBook_87 (by decide) ?_
          exact ih44 l_32 (j + 1)  _ _ _ (by first | exact mu_s hmz44 (by omega) | omega) (by omega) hw (lv_sub hl [2, 3, 4, 1, 0] rfl)
    · refine lv_lload hC.1 hC.2.1 dX3_mixedWithBook_20 (lv_at hl 3 rfl) ?_
      refine lv_aload_n hC.1 hC.2.1 dX3_mixedWithBook_22 rfl (lv_at hl 0 rfl) ?_
      refine lv_iload_n hC.1 hC.2.1 dX3_mixedWithBook_23 rfl (lv_at hl 1 rfl) ?_
      refine lv_iload hC.1 hC.2.1 dX3_mixedWithBook_24 (lv_at hl 4 rfl) ?_
      refine x_callV hC hw (lv_size hl) (c_X3_ofBook_ok l G hR hcb hN (p0 := p0) (by first | assumption | omega) (p1 := j) (by omega) (by omega) (by omega)) gX3_mixedWithBook_X3_ofBook rfl dv_X3_ofBook hR.1 rfl rfl (Nat.le_of_ble_eq_true rfl) (by rw [hRf]; decide) (by rw [hRl]; decide) (by first | (rw [hRc]; decide) | omega) (by first | (rw [hRs]; decide) | omega) dX3_mixedWithBook_26 (fun r9 M_33 H locs hq hw => ?_)
      obtain ⟨z_34, rfl, hM9, hz_34, hz_34A⟩ := hq
      rw [hM9] at hw
      show W p l e R s m args below meth c H locs _ _ _ (F0 m 29 ls [.int (iN (z_34)), .long (d9)])
      refine lv_i2l hC.1 hC.2.1 dX3_mixedWithBook_29 rfl ?_
      refine lv_topl (fun d_35 hd_35 => ?_)
      refine x_callS hC hw (lv_size hl) (c_X3_mixed l G (M := M) (l0 := d9) (l1 := d_35)) gX3_mixedWithBook_X3_mixed rfl dv_X3_mixed_s rfl (Nat.le_of_ble_eq_true rfl) (by rw [hRf]; decide) (by rw [hRl]; decide) (by first | (rw [hRc]; decide) | omega) (by first | (rw [hRs]; decide) | omega) dX3_mixedWithBook_30 (fun r9 M_36 H locs hq hw => ?_)
      obtain ⟨l_37, rfl, hM9⟩ := hq
      rw [hM9] at hw
      show W p l e R s m args below meth c H locs _ _ _ (F0 m 33 ls [.long (l_37)])
      refine lv_lstore (lv' := [(5, .long (l_37)), (0, .ref h0), (3, .int (iN (p0))), (4, .ref (qb ((p0).toNat))), (7, .int (iN (j)))]) hC.1 hC.2.1 dX3_mixedWithBook_33 hl (by decide) rfl (fun ls hl => ?_)
      refine x_iinc (lv' := [(7, .int (iN (j + 1))), (5, .long (l_37)), (0, .ref h0), (3, .int (iN (p0))), (4, .ref (qb ((p0).toNat)))]) hC dX3_mixedWithBook_35 hl (k := 4) rfl (by decide) rfl (fun ls hl => ?_)
      refine lv_goto (tgt := 13) hC.1 hC.2.1 dX3_mixedWithBook_38 (by decide) ?_
      exact ih13 l_37 (j + 1)  _ _ _ (by first | exact mu_s hmz13 (by omega) | omega) (by omega) hw (lv_sub hl [2, 3, 4, 1, 0] rfl)
set_option maxHeartbeats 4000000 in
set_option maxRecDepth 100000 in
theorem c_X3_mixedWithView (l : Launch) (G : xG) {M : HM} {l0 : Int64} {h0 bs vs : Nat} {og : Option Nat} {kk kv rf : Int32} {qb qk qv : Nat → Nat} {fb fv : Nat → Option Nat} {O : OW} {Wv : VW} {V : BW} {T C : Nat → Int} {K : WA} {N : Int} (hR : RGx G M h0 bs vs og kk kv rf qb qk qv fb fv O O Wv V T C K) (hcb : cbN N T C) (hN : N ≤ 590) {p0 : Int} (hp0 : -2147483648 ≤ p0 ∧ p0 ≤ 2147483647) (hob : 0 ≤ p0 ∧ p0 < 4) (hnn : fv p0.toNat ≠ none) : xMet l G yX3_mixedWithView wsX3_mixedWithView 8 135 0 0 [.ref h0, .long l0, .int (iN (p0))] M (fun r M1 => ∃ d : Int64, r = some (.long d) ∧ M1 = M) := by
  refine x_intro (cc := cX3_mixedWithView) (maxL := 8) (ret := (some .long)) (by exact pln_RX3) rfl (Nat.le_of_ble_eq_true rfl) ?_
  intro p e R s m args below meth c ls hRf hRc hRs hRl hC hw hl
  have hl : lv_has ls 8 [(0, .ref h0), (1, .long (l0)), (3, .int (iN (p0)))] := hl
  refine lv_aload_n hC.1 hC.2.1 dX3_mixedWithView_0 rfl (lv_at hl 0 rfl) ?_
  refine lv_iload_n hC.1 hC.2.1 dX3_mixedWithView_1 rfl (lv_at hl 2 rfl) ?_
  refine x_callV hC hw (lv_size hl) (c_X3_viewAt_ok l G hR hcb hN (p0 := p0) (by first | assumption | omega) (by omega) hnn) gX3_mixedWithView_X3_viewAt rfl dv_X3_viewAt hR.1 rfl rfl (Nat.le_of_ble_eq_true rfl) (by rw [hRf]; decide) (by rw [hRl]; decide) (by first | (rw [hRc]; decide) | omega) (by first | (rw [hRs]; decide) | omega) dX3_mixedWithView_2 (fun r9 M_1 H locs hq hw => ?_)
  obtain ⟨y_3, rfl, hM9, hk_2, hk_2b, hyk_2⟩ := hq
  rw [hM9] at hw
  obtain ⟨ux_4, hux_4, hTx_4⟩ := (hR.vwo (show (p0).toNat < 4 from tn_lt (by omega) (by decide))).yes hyk_2
  have hpx_4 := opN_some hux_4
  have hkx_5 := hTx_4.1
  have hvx_5 := hTx_4.2
  have hlix_5 := hvx_5.2.1
  have huix_5 := hvx_5.2.2
  obtain ⟨htax_5, htbx_5, htcx_5, htdx_5, htex_5⟩ := id hkx_5
  obtain ⟨szx_6, fkx_6, fwx_6, hBx_6, hVx_6⟩ := hR.bk htax_5
  obtain ⟨-, -, -, -, hsax_6, hsbx_6⟩ := id hBx_6
  have holx_6 := hR.ol htax_5
  have hctx_6 := hcb.2 _ htax_5
  show W p l e R s m args below meth c H locs _ _ _ (F0 m 5 ls [.ref y_3])
  refine lv_astore (lv' := [(4, .ref y_3), (0, .ref h0), (1, .long (l0)), (3, .int (iN (p0)))]) hC.1 hC.2.1 dX3_mixedWithView_5 hl (by decide) rfl (fun ls hl => ?_)
  refine lv_lload_n hC.1 hC.2.1 dX3_mixedWithView_7 rfl (lv_at hl 2 rfl) ?_
  refine lv_iload_n hC.1 hC.2.1 dX3_mixedWithView_8 rfl (lv_at hl 3 rfl) ?_
  refine lv_i2l hC.1 hC.2.1 dX3_mixedWithView_9 rfl ?_
  refine lv_topl (fun d_7 hd_7 => ?_)
  refine x_callS hC hw (lv_size hl) (c_X3_mixed l G (M := M) (l0 := l0) (l1 := d_7)) gX3_mixedWithView_X3_mixed rfl dv_X3_mixed_s rfl (Nat.le_of_ble_eq_true rfl) (by rw [hRf]; decide) (by rw [hRl]; decide) (by first | (rw [hRc]; decide) | omega) (by first | (rw [hRs]; decide) | omega) dX3_mixedWithView_10 (fun r9 M_8 H locs hq hw => ?_)
  obtain ⟨l_9, rfl, hM9⟩ := hq
  rw [hM9] at hw
  show W p l e R s m args below meth c H locs _ _ _ (F0 m 13 ls [.long (l_9)])
  refine lv_lstore (lv' := [(5, .long (l_9)), (4, .ref y_3), (0, .ref h0), (1, .long (l0)), (3, .int (iN (p0)))]) hC.1 hC.2.1 dX3_mixedWithView_13 hl (by decide) rfl (fun ls hl => ?_)
  refine x_const hC dX3_mixedWithView_15 ?_
  refine lv_istore (lv' := [(7, .int (iN (0))), (5, .long (l_9)), (4, .ref y_3), (0, .ref h0), (1, .long (l0)), (3, .int (iN (p0)))]) hC.1 hC.2.1 dX3_mixedWithView_16 hl (by decide) rfl (fun ls hl => ?_)
  suffices hloop18 : ∀ (n9 : Nat) (d9 : Int64) (j : Int) (H : Heap) (locs : List Loc) (ls : Array Slot), (hmz18 : (9 - j).toNat < n9) → (hi0 : 0 ≤ j ∧ j ≤ 9) → xD G (xA M s.heap.size) s M H locs → lv_has ls 8 [(0, .ref h0), (3, .int (iN (p0))), (4, .ref y_3), (5, .long (d9)), (7, .int (iN (j)))] → W p l e R s m args below meth c H locs _ _ _ (F0 m 18 ls []) by
    exact hloop18 _ l_9 0  _ _ _ (Nat.lt_succ_self _) (by omega) hw (lv_sub hl [3, 5, 2, 1, 0] rfl)
  intro n9
  induction n9 with
  | zero => intro d9 j  H locs ls hmz; exact absurd hmz (Nat.not_lt_zero _)
  | succ n9 ih18 =>
    intro d9 j  H locs ls hmz18 hi0 hw hl
    refine lv_iload hC.1 hC.2.1 dX3_mixedWithView_18 (lv_at hl 4 rfl) ?_
    refine x_bipush hC dX3_mixedWithView_20 (by decide +kernel) ?_
    refine x_icmp_gt (tgt := 46) hC ⟨by omega, by omega⟩ ⟨by omega, by omega⟩ dX3_mixedWithView_22 (by decide) (fun c_10 => ?_) (fun c_10 => ?_)
    · refine x_const hC dX3_mixedWithView_46 ?_
      refine lv_istore (lv' := [(7, .int (iN (0))), (0, .ref h0), (3, .int (iN (p0))), (4, .ref y_3), (5, .long (d9))]) hC.1 hC.2.1 dX3_mixedWithView_47 hl (by decide) rfl (fun ls hl => ?_)
      suffices hloop49 : ∀ (n9 : Nat) (d9 : Int64) (j : Int) (H : Heap) (locs : List Loc) (ls : Array Slot), (hmz49 : (4 - j).toNat < n9) → (hi0 : 0 ≤ j ∧ j ≤ 4) → xD G (xA M s.heap.size) s M H locs → lv_has ls 8 [(0, .ref h0), (3, .int (iN (p0))), (4, .ref y_3), (5, .long (d9)), (7, .int (iN (j)))] → W p l e R s m args below meth c H locs _ _ _ (F0 m 49 ls []) by
        exact hloop49 _ d9 0  _ _ _ (Nat.lt_succ_self _) (by omega) hw (lv_sub hl [1, 2, 3, 4, 0] rfl)
      intro n9
      induction n9 with
      | zero => intro d9 j  H locs ls hmz; exact absurd hmz (Nat.not_lt_zero _)
      | succ n9 ih49 =>
        intro d9 j  H locs ls hmz49 hi0 hw hl
        refine lv_iload hC.1 hC.2.1 dX3_mixedWithView_49 (lv_at hl 4 rfl) ?_
        refine x_const hC dX3_mixedWithView_51 ?_
        refine x_icmp_ge (tgt := 78) hC ⟨by omega, by omega⟩ ⟨by omega, by omega⟩ dX3_mixedWithView_52 (by decide) (fun c_11 => ?_) (fun c_11 => ?_)
        · refine lv_lload hC.1 hC.2.1 dX3_mixedWithView_78 (lv_at hl 3 rfl) ?_
          refine lv_aload hC.1 hC.2.1 dX3_mixedWithView_80 (lv_at hl 2 rfl) ?_
          refine x_callV hC hw (lv_size hl) (c_X1_book l G hvx_5) gX3_mixedWithView_X1_book rfl dv_X1_book hvx_5.1 rfl rfl (Nat.le_of_ble_eq_true rfl) (by rw [hRf]; decide) (by rw [hRl]; decide) (by first | (rw [hRc]; decide) | omega) (by first | (rw [hRs]; decide) | omega) dX3_mixedWithView_82 (fun r9 M_12 H locs hq hw => ?_)
          obtain ⟨rfl, hM9⟩ := hq
          rw [hM9] at hw
          show W p l e R s m args below meth c H locs _ _ _ (F0 m 85 ls [.ref (qb ux_4.b), .long (d9)])
          refine lv_aload hC.1 hC.2.1 dX3_mixedWithView_85 (lv_at hl 2 rfl) ?_
          refine x_callV hC hw (lv_size hl) (c_X1_start l G hkx_5 hvx_5 hBx_6 (show (O ux_4.b) < 3 by first | assumption | omega) hVx_6 (by first | assumption | omega) (by first | assumption | omega) (O := O) (V := V) (t9 := ux_4)) gX3_mixedWithView_X1_start rfl dv_X1_start hvx_5.1 rfl rfl (Nat.le_of_ble_eq_true rfl) (by rw [hRf]; decide) (by rw [hRl]; decide) (by first | (rw [hRc]; decide) | omega) (by first | (rw [hRs]; decide) | omega) dX3_mixedWithView_87 (fun r9 M_13 H locs hq hw => ?_)
          obtain ⟨z_14, rfl, hM9, hz_14a, hz_14b, hz_14p⟩ := hq
          rw [hM9] at hw
          show W p l e R s m args below meth c H locs _ _ _ (F0 m 90 ls [.int (iN (z_14)), .ref (qb ux_4.b), .long (d9)])
          refine lv_aload hC.1 hC.2.1 dX3_mixedWithView_90 (lv_at hl 2 rfl) ?_
          refine x_callV hC hw (lv_size hl) (c_X1_end l G hkx_5 hvx_5 hBx_6 (show (O ux_4.b) < 3 by first | assumption | omega) hVx_6 (by first | assumption | omega) (by first | assumption | omega) (O := O) (V := V) (t9 := ux_4)) gX3_mixedWithView_X1_end rfl dv_X1_end hvx_5.1 rfl rfl (Nat.le_of_ble_eq_true rfl) (by rw [hRf]; decide) (by rw [hRl]; decide) (by first | (rw [hRc]; decide) | omega) (by first | (rw [hRs]; decide) | omega) dX3_mixedWithView_92 (fun r9 M_15 H locs hq hw => ?_)
          obtain ⟨z_16, rfl, hM9, hz_16a, hz_16b, hz_16p⟩ := hq
          rw [hM9] at hw
          show W p l e R s m args below meth c H locs _ _ _ (F0 m 95 ls [.int (iN (z_16)), .int (iN (z_14)), .ref (qb ux_4.b), .long (d9)])
          refine x_callV hC hw (lv_size hl) (c_X0_textLength l G hBx_6 (show (O ux_4.b) < 3 by first | assumption | omega) hVx_6 (by first | assumption | omega) (by first | assumption | omega) (p0 := z_14) (by omega) (p1 := z_16) (by omega)) gX3_mixedWithView_X0_textLength rfl dv_X0_textLength hBx_6.1 rfl rfl (Nat.le_of_ble_eq_true rfl) (by rw [hRf]; decide) (by rw [hRl]; decide) (by first | (rw [hRc]; decide) | omega) (by first | (rw [hRs]; decide) | omega) dX3_mixedWithView_95 (fun r9 M_17 H locs hq hw => ?_)
          obtain ⟨z_18, rfl, hM9, hz_18⟩ := hq
          rw [hM9] at hw
          show W p l e R s m args below meth c H locs _ _ _ (F0 m 98 ls [.int (iN (z_18)), .long (d9)])
          refine lv_i2l hC.1 hC.2.1 dX3_mixedWithView_98 rfl ?_
          refine lv_topl (fun d_19 hd_19 => ?_)
          refine x_callS hC hw (lv_size hl) (c_X3_mixed l G (M := M) (l0 := d9) (l1 := d_19)) gX3_mixedWithView_X3_mixed rfl dv_X3_mixed_s rfl (Nat.le_of_ble_eq_true rfl) (by rw [hRf]; decide) (by rw [hRl]; decide) (by first | (rw [hRc]; decide) | omega) (by first | (rw [hRs]; decide) | omega) dX3_mixedWithView_99 (fun r9 M_20 H locs hq hw => ?_)
          obtain ⟨l_21, rfl, hM9⟩ := hq
          rw [hM9] at hw
          show W p l e R s m args below meth c H locs _ _ _ (F0 m 102 ls [.long (l_21)])
          exact x_lret hC hw dX3_mixedWithView_102 (by first | decide | omega) (by first | decide | omega) ⟨_, rfl, rfl⟩
        · refine lv_lload hC.1 hC.2.1 dX3_mixedWithView_55 (lv_at hl 3 rfl) ?_
          refine lv_aload_n hC.1 hC.2.1 dX3_mixedWithView_57 rfl (lv_at hl 0 rfl) ?_
          refine lv_iload_n hC.1 hC.2.1 dX3_mixedWithView_58 rfl (lv_at hl 1 rfl) ?_
          refine x_bipush hC dX3_mixedWithView_59 (by decide +kernel) ?_
          refine lv_iload hC.1 hC.2.1 dX3_mixedWithView_61 (lv_at hl 4 rfl) ?_
          refine x_callV hC hw (lv_size hl) (c_X3_viewNear_ok l G hR hcb hN (p0 := p0) (by first | assumption | omega) (p1 := 50) (by omega) (p2 := j) (by omega) (by omega) (by omega) (by omega) hnn) gX3_mixedWithView_X3_viewNear rfl dv_X3_viewNear hR.1 rfl rfl (Nat.le_of_ble_eq_true rfl) (by rw [hRf]; decide) (by rw [hRl]; decide) (by first | (rw [hRc]; decide) | omega) (by first | (rw [hRs]; decide) | omega) dX3_mixedWithView_63 (fun r9 M_22 H locs hq hw => ?_)
          obtain ⟨z_23, rfl, hM9, hz_23, hz_23A⟩ := hq
          rw [hM9] at hw
          show W p l e R s m args below meth c H locs _ _ _ (F0 m 66 ls [.int (iN (z_23)), .long (d9)])
          refine lv_i2l hC.1 hC.2.1 dX3_mixedWithView_66 rfl ?_
          refine lv_topl (fun d_24 hd_24 => ?_)
          refine x_callS hC hw (lv_size hl) (c_X3_mixed l G (M := M) (l0 := d9) (l1 := d_24)) gX3_mixedWithView_X3_mixed rfl dv_X3_mixed_s rfl (Nat.le_of_ble_eq_true rfl) (by rw [hRf]; decide) (by rw [hRl]; decide) (by first | (rw [hRc]; decide) | omega) (by first | (rw [hRs]; decide) | omega) dX3_mixedWithView_67 (fun r9 M_25 H locs hq hw => ?_)
          obtain ⟨l_26, rfl, hM9⟩ := hq
          rw [hM9] at hw
          show W p l e R s m args below meth c H locs _ _ _ (F0 m 70 ls [.long (l_26)])
          refine lv_lstore (lv' := [(5, .long (l_26)), (0, .ref h0), (3, .int (iN (p0))), (4, .ref y_3), (7, .int (iN (j)))]) hC.1 hC.2.1 dX3_mixedWithView_70 hl (by decide) rfl (fun ls hl => ?_)
          refine x_iinc (lv' := [(7, .int (iN (j + 1))), (5, .long (l_26)), (0, .ref h0), (3, .int (iN (p0))), (4, .ref y_3)]) hC dX3_mixedWithView_72 hl (k := 4) rfl (by decide) rfl (fun ls hl => ?_)
          refine lv_goto (tgt := 49) hC.1 hC.2.1 dX3_mixedWithView_75 (by decide) ?_
          exact ih49 l_26 (j + 1)  _ _ _ (by first | exact mu_s hmz49 (by omega) | omega) (by omega) hw (lv_sub hl [2, 3, 4, 1, 0] rfl)
    · refine lv_lload hC.1 hC.2.1 dX3_mixedWithView_25 (lv_at hl 3 rfl) ?_
      refine lv_aload_n hC.1 hC.2.1 dX3_mixedWithView_27 rfl (lv_at hl 0 rfl) ?_
      refine lv_iload_n hC.1 hC.2.1 dX3_mixedWithView_28 rfl (lv_at hl 1 rfl) ?_
      refine lv_iload hC.1 hC.2.1 dX3_mixedWithView_29 (lv_at hl 4 rfl) ?_
      refine x_callV hC hw (lv_size hl) (c_X3_ofView_ok l G hR hcb hN (p0 := p0) (by first | assumption | omega) (p1 := j) (by omega) (by omega) (by omega) hnn) gX3_mixedWithView_X3_ofView rfl dv_X3_ofView hR.1 rfl rfl (Nat.le_of_ble_eq_true rfl) (by rw [hRf]; decide) (by rw [hRl]; decide) (by first | (rw [hRc]; decide) | omega) (by first | (rw [hRs]; decide) | omega) dX3_mixedWithView_31 (fun r9 M_27 H locs hq hw => ?_)
      obtain ⟨z_28, rfl, hM9, hz_28, hz_28A⟩ := hq
      rw [hM9] at hw
      show W p l e R s m args below meth c H locs _ _ _ (F0 m 34 ls [.int (iN (z_28)), .long (d9)])
      refine lv_i2l hC.1 hC.2.1 dX3_mixedWithView_34 rfl ?_
      refine lv_topl (fun d_29 hd_29 => ?_)
      refine x_callS hC hw (lv_size hl) (c_X3_mixed l G (M := M) (l0 := d9) (l1 := d_29)) gX3_mixedWithView_X3_mixed rfl dv_X3_mixed_s rfl (Nat.le_of_ble_eq_true rfl) (by rw [hRf]; decide) (by rw [hRl]; decide) (by first | (rw [hRc]; decide) | omega) (by first | (rw [hRs]; decide) | omega) dX3_mixedWithView_35 (fun r9 M_30 H locs hq hw => ?_)
      obtain ⟨l_31, rfl, hM9⟩ := hq
      rw [hM9] at hw
      show W p l e R s m args below meth c H locs _ _ _ (F0 m 38 ls [.long (l_31)])
      refine lv_lstore (lv' := [(5, .long (l_31)), (0, .ref h0), (3, .int (iN (p0))), (4, .ref y_3), (7, .int (iN (j)))]) hC.1 hC.2.1 dX3_mixedWithView_38 hl (by decide) rfl (fun ls hl => ?_)
      refine x_iinc (lv' := [(7, .int (iN (j + 1))), (5, .long (l_31)), (0, .ref h0), (3, .int (iN (p0))), (4, .ref y_3)]) hC dX3_mixedWithView_40 hl (k := 4) rfl (by decide) rfl (fun ls hl => ?_)
      refine lv_goto (tgt := 18) hC.1 hC.2.1 dX3_mixedWithView_43 (by decide) ?_
      exact ih18 l_31 (j + 1)  _ _ _ (by first | exact mu_s hmz18 (by omega) | omega) (by omega) hw (lv_sub hl [2, 3, 4, 1, 0] rfl)
set_option maxHeartbeats 4000000 in
set_option maxRecDepth 100000 in
theorem c_X3_digest (l : Launch) (G : xG) {M : HM} {h0 bs vs : Nat} {og : Option Nat} {kk kv rf : Int32} {qb qk qv : Nat → Nat} {fb fv : Nat → Option Nat} {O : OW} {Wv : VW} {V : BW} {T C : Nat → Int} {K : WA} {N : Int} (hR : RGx G M h0 bs vs og kk kv rf qb qk qv fb fv O O Wv V T C K) (hcb : cbN N T C) (hN : N ≤ 590) : xMet l G yX3_digest wsX3_digest 9 163 0 0 [.ref h0] M (fun r M1 => ∃ d : Int64, r = some (.long d) ∧ M1 = M) := by
  refine x_intro (cc := cX3_digest) (maxL := 4) (ret := (some .long)) (by exact pln_RX3) rfl (Nat.le_of_ble_eq_true rfl) ?_
  intro p e R s m args below meth c ls hRf hRc hRs hRl hC hw hl
  have hinX3 : ∀ w ∈ wsX30, w ∈ wsX3_digest := fun w h => (List.mem_cons_of_mem _ (List.mem_append_left _ (List.mem_append_left _ (List.mem_append_left _ (List.mem_append_left _ (List.mem_append_left _ (List.mem_append_right _ h)))))))
  have hl : lv_has ls 4 [(0, .ref h0)] := hl
  refine lv_ldc2 (v := 6007) hC.1 hC.2.1 hC.2.2.2.1 (hC.2.2.2.2.1 _ (by decide +kernel)) dX3_digest_0 ?_
  refine lv_lstore_n (lv' := [(1, .long (6007)), (0, .ref h0)]) hC.1 hC.2.1 dX3_digest_3 rfl hl (by decide) rfl (fun ls hl => ?_)
  refine x_const hC dX3_digest_4 ?_
  refine lv_istore_n (lv' := [(3, .int (iN (0))), (1, .long (6007)), (0, .ref h0)]) hC.1 hC.2.1 dX3_digest_5 rfl hl (by decide) rfl (fun ls hl => ?_)
  suffices hloop6 : ∀ (n9 : Nat) (d9 : Int64) (j : Int) (H : Heap) (locs : List Loc) (ls : Array Slot), (hmz6 : (7 - j).toNat < n9) → (hi0 : 0 ≤ j ∧ j ≤ 7) → xD G (xA M s.heap.size) s M H locs → lv_has ls 4 [(0, .ref h0), (1, .long (d9)), (3, .int (iN (j)))] → W p l e R s m args below meth c H locs _ _ _ (F0 m 6 ls []) by
    exact hloop6 _ 6007 0  _ _ _ (Nat.lt_succ_self _) (by omega) hw (lv_sub hl [2, 1, 0] rfl)
  intro n9
  induction n9 with
  | zero => intro d9 j  H locs ls hmz; exact absurd hmz (Nat.not_lt_zero _)
  | succ n9 ih6 =>
    intro d9 j  H locs ls hmz6 hi0 hw hl
    refine lv_iload_n hC.1 hC.2.1 dX3_digest_6 rfl (lv_at hl 2 rfl) ?_
    refine x_bipush hC dX3_digest_7 (by decide +kernel) ?_
    refine x_icmp_gt (tgt := 29) hC ⟨by omega, by omega⟩ ⟨by omega, by omega⟩ dX3_digest_9 (by decide) (fun c_1 => ?_) (fun c_1 => ?_)
    · refine x_const hC dX3_digest_29 ?_
      refine lv_istore_n (lv' := [(3, .int (iN (0))), (0, .ref h0), (1, .long (d9))]) hC.1 hC.2.1 dX3_digest_30 rfl hl (by decide) rfl (fun ls hl => ?_)
      suffices hloop31 : ∀ (n9 : Nat) (d9 : Int64) (j : Int) (H : Heap) (locs : List Loc) (ls : Array Slot), (hmz31 : (3 - j).toNat < n9) → (hi0 : 0 ≤ j ∧ j ≤ 3) → xD G (xA M s.heap.size) s M H locs → lv_has ls 4 [(0, .ref h0), (1, .long (d9)), (3, .int (iN (j)))] → W p l e R s m args below meth c H locs _ _ _ (F0 m 31 ls []) by
        exact hloop31 _ d9 0  _ _ _ (Nat.lt_succ_self _) (by omega) hw (lv_sub hl [1, 2, 0] rfl)
      intro n9
      induction n9 with
      | zero => intro d9 j  H locs ls hmz; exact absurd hmz (Nat.not_lt_zero _)
      | succ n9 ih31 =>
        intro d9 j  H locs ls hmz31 hi0 hw hl
        refine lv_iload_n hC.1 hC.2.1 dX3_digest_31 rfl (lv_at hl 2 rfl) ?_
        refine lv_aload_n hC.1 hC.2.1 dX3_digest_32 rfl (lv_at hl 0 rfl) ?_
        refine x_get hC hw hR.1 rfl hinX3 0 (by decide) (List.mem_cons_of_mem _ (List.mem_append_left _ (List.mem_append_left _ (List.mem_append_left _ (List.mem_append_left _ (List.mem_append_left _ (List.mem_append_left _ (List.mem_append_left _ (List.mem_of_getElem? (i := 1) rfl))))))))) rfl dX3_digest_33 ?_
        refine x_alen hC hw 2 hR.2.1 rfl dX3_digest_36 ?_
        refine x_icmp_ge (tgt := 53) hC ⟨by omega, by omega⟩ ⟨by omega, by omega⟩ dX3_digest_37 (by decide) (fun c_2 => ?_) (fun c_2 => ?_)
        · refine x_const hC dX3_digest_53 ?_
          refine lv_istore_n (lv' := [(3, .int (iN (0))), (0, .ref h0), (1, .long (d9))]) hC.1 hC.2.1 dX3_digest_54 rfl hl (by decide) rfl (fun ls hl => ?_)
          suffices hloop55 : ∀ (n9 : Nat) (d9 : Int64) (j : Int) (H : Heap) (locs : List Loc) (ls : Array Slot), (hmz55 : (4 - j).toNat < n9) → (hi0 : 0 ≤ j ∧ j ≤ 4) → xD G (xA M s.heap.size) s M H locs → lv_has ls 4 [(0, .ref h0), (1, .long (d9)), (3, .int (iN (j)))] → W p l e R s m args below meth c H locs _ _ _ (F0 m 55 ls []) by
            exact hloop55 _ d9 0  _ _ _ (Nat.lt_succ_self _) (by omega) hw (lv_sub hl [1, 2, 0] rfl)
          intro n9
          induction n9 with
          | zero => intro d9 j  H locs ls hmz; exact absurd hmz (Nat.not_lt_zero _)
          | succ n9 ih55 =>
            intro d9 j  H locs ls hmz55 hi0 hw hl
            refine lv_iload_n hC.1 hC.2.1 dX3_digest_55 rfl (lv_at hl 2 rfl) ?_
            refine lv_aload_n hC.1 hC.2.1 dX3_digest_56 rfl (lv_at hl 0 rfl) ?_
            refine x_get hC hw hR.1 rfl hinX3 1 (by decide) (List.mem_cons_of_mem _ (List.mem_append_left _ (List.mem_append_left _ (List.mem_append_left _ (List.mem_append_left _ (List.mem_append_left _ (List.mem_append_left _ (List.mem_append_left _ (List.mem_of_getElem? (i := 2) rfl))))))))) rfl dX3_digest_57 ?_
            refine x_alen hC hw 3 hR.2.2.1 rfl dX3_digest_60 ?_
            refine x_icmp_ge (tgt := 86) hC ⟨by omega, by omega⟩ ⟨by omega, by omega⟩ dX3_digest_61 (by decide) (fun c_3 => ?_) (fun c_3 => ?_)
            · refine lv_lload_n hC.1 hC.2.1 dX3_digest_86 rfl (lv_at hl 1 rfl) ?_
              refine lv_aload_n hC.1 hC.2.1 dX3_digest_87 rfl (lv_at hl 0 rfl) ?_
              refine x_callV hC hw (lv_size hl) (c_X3_isSound l G hR hcb hN) gX3_digest_X3_isSound rfl dv_X3_isSound hR.1 rfl rfl (Nat.le_of_ble_eq_true rfl) (by rw [hRf]; decide) (by rw [hRl]; decide) (by first | (rw [hRc]; decide) | omega) (by first | (rw [hRs]; decide) | omega) dX3_digest_88 (fun r9 M_4 H locs hq hw => ?_)
              obtain ⟨z_5, rfl, hM9, hz_5⟩ := hq
              rw [hM9] at hw
              show W p l e R s m args below meth c H locs _ _ _ (F0 m 91 ls [.int (iN (z_5)), .long (d9)])
              refine x_if_eq (tgt := 98) hC ⟨by omega, by omega⟩ dX3_digest_91 (by decide) (fun c_6 => ?_) (fun c_6 => ?_)
              · refine lv_lconst (v := 0) hC.1 hC.2.1 dX3_digest_98 rfl ?_
                refine x_callS hC hw (lv_size hl) (c_X3_mixed l G (M := M) (l0 := d9) (l1 := 0)) gX3_digest_X3_mixed rfl dv_X3_mixed_s rfl (Nat.le_of_ble_eq_true rfl) (by rw [hRf]; decide) (by rw [hRl]; decide) (by first | (rw [hRc]; decide) | omega) (by first | (rw [hRs]; decide) | omega) dX3_digest_99 (fun r9 M_7 H locs hq hw => ?_)
                obtain ⟨l_8, rfl, hM9⟩ := hq
                rw [hM9] at hw
                show W p l e R s m args below meth c H locs _ _ _ (F0 m 102 ls [.long (l_8)])
                exact x_lret hC hw dX3_digest_102 (by first | decide | omega) (by first | decide | omega) ⟨_, rfl, rfl⟩
              · refine lv_lconst (v := 1) hC.1 hC.2.1 dX3_digest_94 rfl ?_
                refine lv_goto (tgt := 99) hC.1 hC.2.1 dX3_digest_95 (by decide) ?_
                refine x_callS hC hw (lv_size hl) (c_X3_mixed l G (M := M) (l0 := d9) (l1 := 1)) gX3_digest_X3_mixed rfl dv_X3_mixed_s rfl (Nat.le_of_ble_eq_true rfl) (by rw [hRf]; decide) (by rw [hRl]; decide) (by first | (rw [hRc]; decide) | omega) (by first | (rw [hRs]; decide) | omega) dX3_digest_99 (fun r9 M_9 H locs hq hw => ?_)
                obtain ⟨l_10, rfl, hM9⟩ := hq
                rw [hM9] at hw
                show W p l e R s m args below meth c H locs _ _ _ (F0 m 102 ls [.long (l_10)])
                exact x_lret hC hw dX3_digest_102 (by first | decide | omega) (by first | decide | omega) ⟨_, rfl, rfl⟩
            · refine lv_aload_n hC.1 hC.2.1 dX3_digest_64 rfl (lv_at hl 0 rfl) ?_
              refine x_get hC hw hR.1 rfl hinX3 1 (by decide) (List.mem_cons_of_mem _ (List.mem_append_left _ (List.mem_append_left _ (List.mem_append_left _ (List.mem_append_left _ (List.mem_append_left _ (List.mem_append_left _ (List.mem_append_left _ (List.mem_of_getElem? (i := 2) rfl))))))))) rfl dX3_digest_65 ?_
              refine lv_iload_n hC.1 hC.2.1 dX3_digest_68 rfl (lv_at hl 2 rfl) ?_
              refine x_aldq hC hw 3 hR.2.2.1 rfl (by omega) (by omega) (by omega) dX3_digest_69 ?_
              rcases hy_12 : fv (j).toNat with _ | y_11
              · have hnhy_12 : Wv (j).toNat = none := VwO.nil (hR.vwo (show (j).toNat < 4 from tn_lt (by omega) (by decide))) hy_12
                have hohy_12 := opN_none hnhy_12
                show W p l e R s m args below meth c _ _ _ _ _ (F0 m 70 ls [.null])
                refine lv_ifnullN (tgt := 80) hC.1 hC.2.1 dX3_digest_70 (by decide) ?_
                refine x_iinc (lv' := [(3, .int (iN (j + 1))), (0, .ref h0), (1, .long (d9))]) hC dX3_digest_80 hl (k := 2) rfl (by decide) rfl (fun ls hl => ?_)
                refine lv_goto (tgt := 55) hC.1 hC.2.1 dX3_digest_83 (by decide) ?_
                exact ih55 d9 (j + 1)  _ _ _ (by first | exact mu_s hmz55 (by omega) | omega) (by omega) hw (lv_sub hl [1, 2, 0] rfl)
              · obtain ⟨ux_13, hux_13, hTx_13⟩ := (hR.vwo (show (j).toNat < 4 from tn_lt (by omega) (by decide))).yes hy_12
                have hpx_13 := opN_some hux_13
                have hkx_14 := hTx_13.1
                have hvx_14 := hTx_13.2
                have hlix_14 := hvx_14.2.1
                have huix_14 := hvx_14.2.2
                obtain ⟨htax_14, htbx_14, htcx_14, htdx_14, htex_14⟩ := id hkx_14
                obtain ⟨szx_15, fkx_15, fwx_15, hBx_15, hVx_15⟩ := hR.bk htax_14
                obtain ⟨-, -, -, -, hsax_15, hsbx_15⟩ := id hBx_15
                have holx_15 := hR.ol htax_14
                have hctx_15 := hcb.2 _ htax_14
                show W p l e R s m args below meth c _ _ _ _ _ (F0 m 70 ls [.ref y_11])
                refine lv_ifnull hC.1 hC.2.1 dX3_digest_70 ?_
                refine lv_aload_n hC.1 hC.2.1 dX3_digest_73 rfl (lv_at hl 0 rfl) ?_
                refine lv_lload_n hC.1 hC.2.1 dX3_digest_74 rfl (lv_at hl 1 rfl) ?_
                refine lv_iload_n hC.1 hC.2.1 dX3_digest_75 rfl (lv_at hl 2 rfl) ?_
                refine x_callV hC hw (lv_size hl) (c_X3_mixedWithView l G hR hcb hN (l0 := d9) (p0 := j) (by omega) (by omega) (by first | (rw [hy_12]; exact fun q9 => nomatch q9) | exact fun q9 => nomatch q9)) gX3_digest_X3_mixedWithView rfl dv_X3_mixedWithView hR.1 rfl rfl (Nat.le_of_ble_eq_true rfl) (by rw [hRf]; decide) (by rw [hRl]; decide) (by first | (rw [hRc]; decide) | omega) (by first | (rw [hRs]; decide) | omega) dX3_digest_76 (fun r9 M_16 H locs hq hw => ?_)
                obtain ⟨l_17, rfl, hM9⟩ := hq
                rw [hM9] at hw
                show W p l e R s m args below meth c H locs _ _ _ (F0 m 79 ls [.long (l_17)])
                refine lv_lstore_n (lv' := [(1, .long (l_17)), (0, .ref h0), (3, .int (iN (j)))]) hC.1 hC.2.1 dX3_digest_79 rfl hl (by decide) rfl (fun ls hl => ?_)
                refine x_iinc (lv' := [(3, .int (iN (j + 1))), (1, .long (l_17)), (0, .ref h0)]) hC dX3_digest_80 hl (k := 2) rfl (by decide) rfl (fun ls hl => ?_)
                refine lv_goto (tgt := 55) hC.1 hC.2.1 dX3_digest_83 (by decide) ?_
                exact ih55 l_17 (j + 1)  _ _ _ (by first | exact mu_s hmz55 (by omega) | omega) (by omega) hw (lv_sub hl [2, 1, 0] rfl)
        · refine lv_aload_n hC.1 hC.2.1 dX3_digest_40 rfl (lv_at hl 0 rfl) ?_
          refine lv_lload_n hC.1 hC.2.1 dX3_digest_41 rfl (lv_at hl 1 rfl) ?_
          refine lv_iload_n hC.1 hC.2.1 dX3_digest_42 rfl (lv_at hl 2 rfl) ?_
          refine x_callV hC hw (lv_size hl) (c_X3_mixedWithBook l G hR hcb hN (l0 := d9) (p0 := j) (by omega) (by omega)) gX3_digest_X3_mixedWithBook rfl dv_X3_mixedWithBook hR.1 rfl rfl (Nat.le_of_ble_eq_true rfl) (by rw [hRf]; decide) (by rw [hRl]; decide) (by first | (rw [hRc]; decide) | omega) (by first | (rw [hRs]; decide) | omega) dX3_digest_43 (fun r9 M_18 H locs hq hw => ?_)
          obtain ⟨l_19, rfl, hM9⟩ := hq
          rw [hM9] at hw
          show W p l e R s m args below meth c H locs _ _ _ (F0 m 46 ls [.long (l_19)])
          refine lv_lstore_n (lv' := [(1, .long (l_19)), (0, .ref h0), (3, .int (iN (j)))]) hC.1 hC.2.1 dX3_digest_46 rfl hl (by decide) rfl (fun ls hl => ?_)
          refine x_iinc (lv' := [(3, .int (iN (j + 1))), (1, .long (l_19)), (0, .ref h0)]) hC dX3_digest_47 hl (k := 2) rfl (by decide) rfl (fun ls hl => ?_)
          refine lv_goto (tgt := 31) hC.1 hC.2.1 dX3_digest_50 (by decide) ?_
          exact ih31 l_19 (j + 1)  _ _ _ (by first | exact mu_s hmz31 (by omega) | omega) (by omega) hw (lv_sub hl [2, 1, 0] rfl)
    · refine lv_lload_n hC.1 hC.2.1 dX3_digest_12 rfl (lv_at hl 1 rfl) ?_
      refine lv_aload_n hC.1 hC.2.1 dX3_digest_13 rfl (lv_at hl 0 rfl) ?_
      refine lv_iload_n hC.1 hC.2.1 dX3_digest_14 rfl (lv_at hl 2 rfl) ?_
      refine x_callV hC hw (lv_size hl) (c_X3_ledger_ok l G hR hcb hN (p0 := j) (by omega) (by omega)) gX3_digest_X3_ledger rfl dv_X3_ledger hR.1 rfl rfl (Nat.le_of_ble_eq_true rfl) (by rw [hRf]; decide) (by rw [hRl]; decide) (by first | (rw [hRc]; decide) | omega) (by first | (rw [hRs]; decide) | omega) dX3_digest_15 (fun r9 M_20 H locs hq hw => ?_)
      obtain ⟨z_21, rfl, hM9, hz_21, hz_21A⟩ := hq
      rw [hM9] at hw
      show W p l e R s m args below meth c H locs _ _ _ (F0 m 18 ls [.int (iN (z_21)), .long (d9)])
      refine lv_i2l hC.1 hC.2.1 dX3_digest_18 rfl ?_
      refine lv_topl (fun d_22 hd_22 => ?_)
      refine x_callS hC hw (lv_size hl) (c_X3_mixed l G (M := M) (l0 := d9) (l1 := d_22)) gX3_digest_X3_mixed rfl dv_X3_mixed_s rfl (Nat.le_of_ble_eq_true rfl) (by rw [hRf]; decide) (by rw [hRl]; decide) (by first | (rw [hRc]; decide) | omega) (by first | (rw [hRs]; decide) | omega) dX3_digest_19 (fun r9 M_23 H locs hq hw => ?_)
      obtain ⟨l_24, rfl, hM9⟩ := hq
      rw [hM9] at hw
      show W p l e R s m args below meth c H locs _ _ _ (F0 m 22 ls [.long (l_24)])
      refine lv_lstore_n (lv' := [(1, .long (l_24)), (0, .ref h0), (3, .int (iN (j)))]) hC.1 hC.2.1 dX3_digest_22 rfl hl (by decide) rfl (fun ls hl => ?_)
      refine x_iinc (lv' := [(3, .int (iN (j + 1))), (1, .long (l_24)), (0, .ref h0)]) hC dX3_digest_23 hl (k := 2) rfl (by decide) rfl (fun ls hl => ?_)
      refine lv_goto (tgt := 6) hC.1 hC.2.1 dX3_digest_26 (by decide) ?_
      exact ih6 l_24 (j + 1)  _ _ _ (by first | exact mu_s hmz6 (by omega) | omega) (by omega) hw (lv_sub hl [2, 1, 0] rfl)
