/-! texts and digests of the model -/
theorem dv_J4_init_a7421_s : yJ4_init_a7421.cls ≠ "java/lang/invoke/MethodHandle" ∧ yJ4_init_a7421.cls ≠ "java/lang/invoke/VarHandle" ∧ (parseMethodDescriptor yJ4_init_a7421.desc).map (fun d => d.parameters.length) = some 1 := ⟨nmh_RJ4.1, nmh_RJ4.2, pds_44⟩
theorem dv_J4_toString_0e30d : yJ4_toString_0e30d.cls = RJ4 ∧ yJ4_toString_0e30d.cls ≠ "java/lang/invoke/MethodHandle" ∧ yJ4_toString_0e30d.cls ≠ "java/lang/invoke/VarHandle" ∧ (parseMethodDescriptor yJ4_toString_0e30d.desc).map (fun d => d.parameters.length) = some 0 := ⟨rfl, nmh_RJ4.1, nmh_RJ4.2, pds_47⟩
theorem dv_J4_length_8abf5 : yJ4_length_8abf5.cls = RJ4 ∧ yJ4_length_8abf5.cls ≠ "java/lang/invoke/MethodHandle" ∧ yJ4_length_8abf5.cls ≠ "java/lang/invoke/VarHandle" ∧ (parseMethodDescriptor yJ4_length_8abf5.desc).map (fun d => d.parameters.length) = some 0 := ⟨rfl, nmh_RJ4.1, nmh_RJ4.2, pds_4⟩
theorem dv_J4_append_bf812 : yJ4_append_bf812.cls = RJ4 ∧ yJ4_append_bf812.cls ≠ "java/lang/invoke/MethodHandle" ∧ yJ4_append_bf812.cls ≠ "java/lang/invoke/VarHandle" ∧ (parseMethodDescriptor yJ4_append_bf812.desc).map (fun d => d.parameters.length) = some 1 := ⟨rfl, nmh_RJ4.1, nmh_RJ4.2, pds_48⟩
theorem dv_X5_told : yX5_told.cls = RX5 ∧ yX5_told.cls ≠ "java/lang/invoke/MethodHandle" ∧ yX5_told.cls ≠ "java/lang/invoke/VarHandle" ∧ (parseMethodDescriptor yX5_told.desc).map (fun d => d.parameters.length) = some 1 := ⟨rfl, nmh_RX5.1, nmh_RX5.2, pds_49⟩
theorem dv_X5_isTrue : yX5_isTrue.cls = RX5 ∧ yX5_isTrue.cls ≠ "java/lang/invoke/MethodHandle" ∧ yX5_isTrue.cls ≠ "java/lang/invoke/VarHandle" ∧ (parseMethodDescriptor yX5_isTrue.desc).map (fun d => d.parameters.length) = some 1 := ⟨rfl, nmh_RX5.1, nmh_RX5.2, pds_50⟩
theorem dv_X5_isWhole : yX5_isWhole.cls = RX5 ∧ yX5_isWhole.cls ≠ "java/lang/invoke/MethodHandle" ∧ yX5_isWhole.cls ≠ "java/lang/invoke/VarHandle" ∧ (parseMethodDescriptor yX5_isWhole.desc).map (fun d => d.parameters.length) = some 0 := ⟨rfl, nmh_RX5.1, nmh_RX5.2, pds_16⟩
theorem dv_X5_add_s : yX5_add.cls ≠ "java/lang/invoke/MethodHandle" ∧ yX5_add.cls ≠ "java/lang/invoke/VarHandle" ∧ (parseMethodDescriptor yX5_add.desc).map (fun d => d.parameters.length) = some 2 := ⟨nmh_RX5.1, nmh_RX5.2, pds_51⟩
set_option maxHeartbeats 4000000 in
set_option maxRecDepth 100000 in
theorem c_X5_told (l : Launch) (G : xG) {M : HM} {a va oa wa ya : Nat} {wk : Option Nat} {th : Int} {rfd : Int32} {br re la ha : Int} {kp kv : Int32} {qv qw : Nat → Nat} {fa fb : Nat → Option Nat} {V : BW} {O : OW} {fy : Nat → Option Nat} {Wv : VW} {wt : Option VT} {S : Nat → Bool} (hR : MGx G M a va oa wa ya wk th rfd br re la ha kp kv qv qw fa fb V O fy Wv wt S) {i : Nat} {fi : Nat → Int32} {ti : VT} (hIi : Its G M i fi ti) {Kn Tm : Nat} (hKn : mC S 100 ≤ Kn) (hT : (Kn = 60 ∧ Tm = 1800) ∨ (Kn = 80 ∧ Tm = 3210) ∨ (Kn = 100 ∧ Tm = 3410)) : xMet l G yX5_told wsX5_told 9 200 12 Tm [.ref a, .ref i] M (fun r M1 => ∃ (q v : Nat) (f : Nat → Int32) (L : Nat), r = some (.ref q) ∧ xExt M M1 ∧ Sv G M1 q v 0 0 L f) := by
  refine x_intro (cc := cX5_told) (maxL := 4) (ret := (some (.object "java/lang/String"))) (by exact pln_RX5) rfl (Nat.le_of_ble_eq_true rfl) ?_
  intro p e R s m args below meth c ls hRf hRc hRs hRl hC hw hl
  have hsc0 := hR.sc.1
  obtain ⟨htat_1, htbt_1, htct_1, htdt_1, htet_1⟩ := id hIi.2.1
  have holi := hR.or' hIi.2.1.1
  obtain ⟨NN, cM, uM, hM, hT2⟩ : ∃ NN cM uM : Nat, cuM 17 NN cM uM ∧ (10 * Kn + 6 ≤ NN ∧ uM + 10 * Kn + 10 ≤ Tm ∧ Kn ≤ 100 ∧ 606 ≤ cM ∧ 1185 ≤ uM ∧ cM ≤ 4606) := by
    rcases hT with ⟨h1, h2⟩ | ⟨h1, h2⟩ | ⟨h1, h2⟩
    · exact ⟨606, 606, 1185, Or.inl ⟨rfl, rfl, rfl, rfl⟩, by omega⟩
    · exact ⟨1006, 1214, 2399, Or.inr (Or.inl ⟨rfl, rfl, rfl, rfl⟩), by omega⟩
    · exact ⟨1006, 1214, 2399, Or.inr (Or.inl ⟨rfl, rfl, rfl, rfl⟩), by omega⟩
  clear hT
  have hinJ4 : ∀ w ∈ wsJ40, w ∈ wsX5_told := fun w h => (List.mem_cons_of_mem _ (List.mem_append_left _ (List.mem_append_left _ (List.mem_append_right _ h))))
  have hinX5 : ∀ w ∈ wsX50, w ∈ wsX5_told := fun w h => (List.mem_cons_of_mem _ (List.mem_append_left _ (List.mem_append_right _ h)))
  have hl : lv_has ls 4 [(0, .ref a), (1, .ref i)] := hl
  refine x_new (fs := [.null, .int 0, .int 0, .int 0]) (ci := 1) hC hw rfl hinJ4 tyJ4 tyJ4_ok (by decide +kernel) (by decide +kernel) (by decide +kernel) (fun j hj => by rcases (show j = 0 ∨ j = 1 ∨ j = 2 ∨ j = 3 by omega) with rfl | rfl | rfl | rfl <;> rfl) (by omega) (by omega) dX5_told_0 (fun q_2 H hq_5 hw => ?_)
  obtain ⟨M_3, hM_4⟩ : ∃ z, z = va_up M q_2 (some (.inr (1, [.null, .int 0, .int 0, .int 0]))) := ⟨_, rfl⟩
  rw [← hM_4] at hw
  have hx_6 : xExt M M_3 := by rw [hM_4]; exact xExt.new hq_5
  have hO_7 := xup_s hM_4
  have h_8 := hR.ext hx_6
  have h_9 := hIi.x5 (xExt.x5 hx_6)
  refine lv_dup hC.1 hC.2.1 dX5_told_3 rfl ?_
  refine x_ldcS (G := G) hC 19 (tx := "{") rfl dX5_told_4 ?_
  have hLl_10 : (("RangeledgerModel", 91, "{", [123]) : String × Nat × String × List Int32).2.2.2.length = 1 := rfl
  refine x_callI hC hw (lv_size hl) (c_J4_init_a7421 l G hO_7 hq_5 hx_6 (nl := 19) rfl (by intro i; exact xlb_19 i) (by decide)) gX5_told_J4_init_a7421 rfl (by decide +kernel) (by decide +kernel) (by decide +kernel) rfl dv_J4_init_a7421_s rfl (Nat.le_of_ble_eq_true rfl) (by rw [hRf]; decide) (by rw [hRl]; decide) (by first | (rw [hRc]; decide) | omega) (by first | (rw [hRs]; decide) | omega) dX5_told_6 (fun r9 M_11 H locs hq hw => ?_)
  obtain ⟨rfl, vk_12, capk_12, fk_12, hSk_12, hck_12⟩ := hq
  have hSk_12 : Sb G M M_11 q_2 vk_12 0 (0 + (1 : Int)) capk_12 fk_12 := hSk_12
  have hck_12 : capk_12 = 1 + 16 := hck_12
  have hbk_12 := hSk_12.2.2.2.2
  have h_13 := hR.ext hSk_12.1.1
  have h_14 := hIi.x5 (xExt.x5 hSk_12.1.1)
  show W p l e R s m args below meth c H locs _ _ _ (F0 m 9 ls [.ref q_2])
  have hC0 : Ch 17 capk_12 17 1 := by rw [show capk_12 = 17 by have := hck_12; simpa using this]; show (17, 17, 17, 1) ∈ chL; decide
  have he0 : capk_12 = 17 := by have := hck_12; simpa using this
  refine lv_astore_n (lv' := [(2, .ref q_2), (0, .ref a), (1, .ref i)]) hC.1 hC.2.1 dX5_told_9 rfl hl (by decide) rfl (fun ls hl => ?_)
  refine lv_aload_n hC.1 hC.2.1 dX5_told_10 rfl (lv_at hl 1 rfl) ?_
  refine lv_aload_n hC.1 hC.2.1 dX5_told_11 rfl (lv_at hl 2 rfl) ?_
  refine x_const hC dX5_told_12 ?_
  refine x_callV hC hw (lv_size hl) (c_X5_end l G h_13 h_14 (p0 := 0) (by omega)) gX5_told_X5_end rfl dv_X5_end h_13.1.1 rfl rfl (Nat.le_of_ble_eq_true rfl) (by rw [hRf]; decide) (by rw [hRl]; decide) (by first | (rw [hRc]; decide) | omega) (by first | (rw [hRs]; decide) | omega) dX5_told_13 (fun r9 M_15 H locs hq hw => ?_)
  obtain ⟨z_16, rfl, hM9, hz_16a, hz_16S, hz_16e⟩ := hq
  rw [hM9] at hw
  show W p l e R s m args below meth c H locs _ _ _ (F0 m 16 ls [.int (iN (z_16))])
  refine lv_istore_n (lv' := [(3, .int (iN (z_16))), (2, .ref q_2), (0, .ref a), (1, .ref i)]) hC.1 hC.2.1 dX5_told_16 rfl hl (by decide) rfl (fun ls hl => ?_)
  suffices hloop17 : ∀ (n9 : Nat) (key : Int) (d : Int) (cu17 : Nat) (su17 : Nat) (M1 : HM) (v1 cap1 u1 k1 : Nat) (n1 : Int) (f1 : Nat → Int32) (hS1 : Sb G M M1 q_2 v1 0 n1 cap1 f1) (hC1 : Ch 17 cap1 u1 k1) (H : Heap) (locs : List Loc) (ls : Array Slot), (hmz17 : (Kn + 1 - d).toNat < n9) → (hi0 : 0 ≤ d ∧ d ≤ Kn) → (hkr : key = -10000 ∨ (0 ≤ key ∧ key ≤ 99)) → (hky : key ≠ -10000 → mP S V ti key.toNat) → (hmu : key ≠ -10000 → d + (mAb S (mW O ti) (mW O ti key.toNat) : Int) + 1 ≤ Kn) → (hnn : n1 ≤ 1 + 10 * d) → (hcp : cap1 ≤ cM) → (hup : u1 ≤ uM ∧ k1 ≤ 9 ∧ 16 ≤ cap1) → (hcu17 : (cu17 : Int) ≤ 1 + k1) → (hsu17 : (su17 : Int) ≤ 4 + u1) → xD G (xA M s.heap.size) s M1 H locs → lv_has ls 4 [(0, .ref a), (1, .ref i), (2, .ref q_2), (3, .int (iN (key)))] → W p l e R s m args below meth c H locs cu17 su17 _ (F0 m 17 ls []) by
    exact hloop17 _ z_16 0 2 (4 + (1 + 16) + 0) _ _ _ _ _ _ _ hSk_12 hC0 _ _ _ (Nat.lt_succ_self _) (by omega) (by omega) (hz_16S) (fun q9 => by have h8 := mAb_le (W := mW O ti) (hz_16S q9).1 (by omega); omega) (by omega) (by omega) (by omega) (by omega) (by omega) hw (lv_sub hl [2, 3, 1, 0] rfl)
  intro n9
  induction n9 with
  | zero => intro key d cu17 su17 M1 v1 cap1 u1 k1 n1 f1 hS1 hC1 H locs ls hmz; exact absurd hmz (Nat.not_lt_zero _)
  | succ n9 ih17 =>
    intro key d cu17 su17 M1 v1 cap1 u1 k1 n1 f1 hS1 hC1 H locs ls hmz17 hi0 hkr hky hmu hnn hcp hup hcu17 hsu17 hw hl
    have hb1 := hS1.2.2.2.2
    have h_17 := hR.ext hS1.1.1
    have h_18 := hIi.x5 (xExt.x5 hS1.1.1)
    have hL_19 : -10000 ≤ key ∧ key ≤ 99 := by (rcases hkr with h9 | h9 <;> omega)
    refine lv_iload_n hC.1 hC.2.1 dX5_told_17 rfl (lv_at hl 3 rfl) ?_
    refine x_sipush hC dX5_told_18 (by decide +kernel) ?_
    refine x_icmp_eq (tgt := 74) hC ⟨by omega, by omega⟩ ⟨by omega, by omega⟩ dX5_told_21 (by decide) (fun c_20 => ?_) (fun c_20 => ?_)
    · refine lv_aload_n hC.1 hC.2.1 dX5_told_74 rfl (lv_at hl 2 rfl) ?_
      refine x_ldcS (G := G) hC 17 (tx := "}") rfl dX5_told_75 ?_
      have hLl_21 : (("RangeledgerModel", 119, "}", [125]) : String × Nat × String × List Int32).2.2.2.length = 1 := rfl
      obtain ⟨mcg_22, msg_22, cpg_22, hrg_22, hCg_22, hdg_22, hkg_22⟩ := x_growT hM hC1 (by omega) (need := n1 + (1 : Int)) (by omega) (by omega)
      refine x_callV hC hw (lv_size hl) (c_J4_append_15ec4 l G hS1 (nl := 17) rfl (by intro i; exact xlb_17 i) (by decide) (mc := mcg_22) (ms := msg_22) hrg_22 (by omega)) gX5_told_J4_append_15ec4 rfl dv_J4_append_15ec4 hS1.2.1 rfl rfl (Nat.le_of_ble_eq_true rfl) (by rw [hRf]; decide) (by rw [hRl]; decide) (by first | (rw [hRc]; decide) | omega) (by first | (rw [hRs]; decide) | omega) dX5_told_77 (fun r9 M_23 H locs hq hw => ?_)
      obtain ⟨rfl, vk_24, capk_24, fk_24, hSk_24, hck_24⟩ := hq
      have hSk_24 : Sb G M M_23 q_2 vk_24 0 (n1 + 1) capk_24 fk_24 := hSk_24
      have hbk_24 := hSk_24.2.2.2.2
      have h_25 := hR.ext hSk_24.1.1
      have h_26 := hIi.x5 (xExt.x5 hSk_24.1.1)
      obtain e_27 : cpg_22 = capk_24 := by (rcases hdg_22 with h7 | h7 <;> rcases hck_24 with h8 | h8 <;> omega)
      rw [e_27] at hCg_22 hkg_22
      clear hrg_22 hdg_22 hck_24
      show W p l e R s m args below meth c H locs _ _ _ (F0 m 80 ls [.ref q_2])
      refine x_callV hC hw (lv_size hl) (c_J4_toString_0e30d l G hSk_24) gX5_told_J4_toString_0e30d rfl dv_J4_toString_0e30d hSk_24.2.1 rfl rfl (Nat.le_of_ble_eq_true rfl) (by rw [hRf]; decide) (by rw [hRl]; decide) (by first | (rw [hRc]; decide) | omega) (by first | (rw [hRs]; decide) | omega) dX5_told_80 (fun r9 M_28 H locs hq hw => ?_)
      obtain ⟨qk_29, vk_29, fk_29, rfl, hxk_29, hVk_29⟩ := hq
      have hx_30 := xExt.tr hSk_24.1.1 hxk_29
      have h_31 := hR.ext hx_30
      have h_32 := hIi.x5 (xExt.x5 hx_30)
      show W p l e R s m args below meth c H locs _ _ _ (F0 m 83 ls [.ref qk_29])
      exact x_aret hC hw (by first | exact Or.inl ⟨_, rfl⟩ | exact Or.inr ⟨_, rfl⟩) (Or.inr ⟨_, rfl⟩) dX5_told_83 (by omega) (by omega) ⟨_, _, _, _, rfl, hx_30, hVk_29⟩
    · have hK_33 : 0 ≤ key ∧ key ≤ 99 := hkr.resolve_left (by first | assumption | omega)
      have hm9 := hmu (by first | assumption | omega)
      refine lv_aload_n hC.1 hC.2.1 dX5_told_24 rfl (lv_at hl 2 rfl) ?_
      refine x_callV hC hw (lv_size hl) (c_J4_length_8abf5 l G hS1) gX5_told_J4_length_8abf5 rfl dv_J4_length_8abf5 hS1.2.1 rfl rfl (Nat.le_of_ble_eq_true rfl) (by rw [hRf]; decide) (by rw [hRl]; decide) (by first | (rw [hRc]; decide) | omega) (by first | (rw [hRs]; decide) | omega) dX5_told_25 (fun r9 M_34 H locs hq hw => ?_)
      obtain ⟨rfl, hM9⟩ := hq
      rw [hM9] at hw
      show W p l e R s m args below meth c H locs _ _ _ (F0 m 28 ls [.int (iN (n1))])
      refine x_const hC dX5_told_28 ?_
      refine x_icmp_le (tgt := 39) hC ⟨by omega, by omega⟩ ⟨by omega, by omega⟩ dX5_told_29 (by decide) (fun c_35 => ?_) (fun c_35 => ?_)
      · refine lv_aload_n hC.1 hC.2.1 dX5_told_39 rfl (lv_at hl 2 rfl) ?_
        refine lv_iload_n hC.1 hC.2.1 dX5_told_40 rfl (lv_at hl 3 rfl) ?_
        have hdld_36 := dgs_le key
        obtain ⟨mcg_37, msg_37, cpg_37, hrg_37, hCg_37, hdg_37, hkg_37⟩ := x_growT hM hC1 (by omega) (need := n1 + dgs key) (by omega) (by omega)
        refine x_callV hC hw (lv_size hl) (c_J4_append_bf812 l G hS1 (p0 := key) (by omega) (mc := mcg_37) (ms := msg_37) hrg_37 (by omega)) gX5_told_J4_append_bf812 rfl dv_J4_append_bf812 hS1.2.1 rfl rfl (Nat.le_of_ble_eq_true rfl) (by rw [hRf]; decide) (by rw [hRl]; decide) (by first | (rw [hRc]; decide) | omega) (by first | (rw [hRs]; decide) | omega) dX5_told_41 (fun r9 M_38 H locs hq hw => ?_)
        obtain ⟨rfl, vk_39, capk_39, fk_39, hSk_39, hck_39⟩ := hq
        have hSk_39 : Sb G M M_38 q_2 vk_39 0 (n1 + dgs key) capk_39 fk_39 := hSk_39
        have hbk_39 := hSk_39.2.2.2.2
        have h_40 := hR.ext hSk_39.1.1
        have h_41 := hIi.x5 (xExt.x5 hSk_39.1.1)
        obtain e_42 : cpg_37 = capk_39 := by (rcases hdg_37 with h7 | h7 <;> rcases hck_39 with h8 | h8 <;> omega)
        rw [e_42] at hCg_37 hkg_37
        clear hrg_37 hdg_37 hck_39
        show W p l e R s m args below meth c H locs _ _ _ (F0 m 44 ls [.ref q_2])
        refine x_ldcS (G := G) hC 16 (tx := "=") rfl dX5_told_44 ?_
        have hLl_43 : (("RangeledgerModel", 113, "=", [61]) : String × Nat × String × List Int32).2.2.2.length = 1 := rfl
        obtain ⟨mcg_44, msg_44, cpg_44, hrg_44, hCg_44, hdg_44, hkg_44⟩ := x_growT hM hCg_37 (by omega) (need := (n1 + dgs key) + (1 : Int)) (by omega) (by omega)
        refine x_callV hC hw (lv_size hl) (c_J4_append_15ec4 l G hSk_39 (nl := 16) rfl (by intro i; exact xlb_16 i) (by decide) (mc := mcg_44) (ms := msg_44) hrg_44 (by omega)) gX5_told_J4_append_15ec4 rfl dv_J4_append_15ec4 hSk_39.2.1 rfl rfl (Nat.le_of_ble_eq_true rfl) (by rw [hRf]; decide) (by rw [hRl]; decide) (by first | (rw [hRc]; decide) | omega) (by first | (rw [hRs]; decide) | omega) dX5_told_46 (fun r9 M_45 H locs hq hw => ?_)
        obtain ⟨rfl, vk_46, capk_46, fk_46, hSk_46, hck_46⟩ := hq
        have hSk_46 : Sb G M M_45 q_2 vk_46 0 ((n1 + dgs key) + 1) capk_46 fk_46 := hSk_46
        have hbk_46 := hSk_46.2.2.2.2
        have h_47 := hR.ext hSk_46.1.1
        have h_48 := hIi.x5 (xExt.x5 hSk_46.1.1)
        obtain e_49 : cpg_44 = capk_46 := by (rcases hdg_44 with h7 | h7 <;> rcases hck_46 with h8 | h8 <;> omega)
        rw [e_49] at hCg_44 hkg_44
        clear hrg_44 hdg_44 hck_46
        show W p l e R s m args below meth c H locs _ _ _ (F0 m 49 ls [.ref q_2])
        refine lv_aload_n hC.1 hC.2.1 dX5_told_49 rfl (lv_at hl 0 rfl) ?_
        refine x_get hC hw h_47.1.1 rfl hinX5 2 (by decide) (List.mem_cons_of_mem _ (List.mem_append_left _ (List.mem_append_left _ (List.mem_append_left _ (List.mem_append_left _ (List.mem_of_getElem? (i := 3) rfl)))))) rfl dX5_told_50 ?_
        refine lv_aload_n hC.1 hC.2.1 dX5_told_53 rfl (lv_at hl 1 rfl) ?_
        refine x_const hC dX5_told_54 ?_
        refine x_ialdE (x := ((ti.b : Nat) : Int)) hC hw h_48.1 (by omega) (by omega) (by omega) dX5_told_55 h_48.2.2.1 ?_
        refine x_ald4 hC hw h_47.1.2.1 (by omega) (by omega) (by omega) dX5_told_56 ?_
        rw [Int.toNat_natCast]
        rw [h_47.fa' (show ti.b < 3 by omega)]
        show W p l e R s m args below meth c _ _ _ _ _ (F0 m 57 ls [.ref (qv ti.b), .ref q_2])
        refine lv_iload_n hC.1 hC.2.1 dX5_told_57 rfl (lv_at hl 3 rfl) ?_
        refine x_ialdE (x := (V ti.b ((key).toNat))) hC hw (h_47.rv (show ti.b < 3 by omega)) (by omega) (by omega) (by omega) dX5_told_58 rfl ?_
        have hrv_50 := h_47.vr (show ti.b < 3 by omega) (show (key).toNat < 100 from tn_lt (by omega) (by decide))
        have hpv_50 := h_47.vs (show ti.b < 3 by omega) (show (key).toNat < 100 from tn_lt (by omega) (by decide))
        have hnee_51 : (V ti.b ((key).toNat)) ≠ -10000 := (hky (by omega)).2
        have hdld_52 := dgs_le (V ti.b ((key).toNat))
        obtain ⟨mcg_53, msg_53, cpg_53, hrg_53, hCg_53, hdg_53, hkg_53⟩ := x_growT hM hCg_44 (by omega) (need := ((n1 + dgs key) + 1) + dgs (V ti.b ((key).toNat))) (by omega) (by omega)
        refine x_callV hC hw (lv_size hl) (c_J4_append_bf812 l G hSk_46 (p0 := (V ti.b ((key).toNat))) (by omega) (mc := mcg_53) (ms := msg_53) hrg_53 (by omega)) gX5_told_J4_append_bf812 rfl dv_J4_append_bf812 hSk_46.2.1 rfl rfl (Nat.le_of_ble_eq_true rfl) (by rw [hRf]; decide) (by rw [hRl]; decide) (by first | (rw [hRc]; decide) | omega) (by first | (rw [hRs]; decide) | omega) dX5_told_59 (fun r9 M_54 H locs hq hw => ?_)
        obtain ⟨rfl, vk_55, capk_55, fk_55, hSk_55, hck_55⟩ := hq
        have hSk_55 : Sb G M M_54 q_2 vk_55 0 (((n1 + dgs key) + 1) + dgs (V ti.b ((key).toNat))) capk_55 fk_55 := hSk_55
        have hbk_55 := hSk_55.2.2.2.2
        have h_56 := hR.ext hSk_55.1.1
        have h_57 := hIi.x5 (xExt.x5 hSk_55.1.1)
        obtain e_58 : cpg_53 = capk_55 := by (rcases hdg_53 with h7 | h7 <;> rcases hck_55 with h8 | h8 <;> omega)
        rw [e_58] at hCg_53 hkg_53
        clear hrg_53 hdg_53 hck_55
        show W p l e R s m args below meth c H locs _ _ _ (F0 m 62 ls [.ref q_2])
        refine lv_pop hC.1 hC.2.1 dX5_told_62 rfl ?_
        refine lv_aload_n hC.1 hC.2.1 dX5_told_63 rfl (lv_at hl 0 rfl) ?_
        refine lv_aload_n hC.1 hC.2.1 dX5_told_64 rfl (lv_at hl 1 rfl) ?_
        refine lv_iload_n hC.1 hC.2.1 dX5_told_65 rfl (lv_at hl 3 rfl) ?_
        refine x_const hC dX5_told_66 ?_
        refine x_callV hC hw (lv_size hl) (c_X5_nearOf l G h_56 h_57 (p0 := key) (by omega) (p1 := 3) (by omega) (by omega)) gX5_told_X5_nearOf rfl dv_X5_nearOf h_56.1.1 rfl rfl (Nat.le_of_ble_eq_true rfl) (by rw [hRf]; decide) (by rw [hRl]; decide) (by first | (rw [hRc]; decide) | omega) (by first | (rw [hRs]; decide) | omega) dX5_told_67 (fun r9 M_59 H locs hq hw => ?_)
        obtain ⟨z_60, rfl, hM9, hz_60a, hz_60S, hz_60n⟩ := hq
        rw [hM9] at hw
        show W p l e R s m args below meth c H locs _ _ _ (F0 m 70 ls [.int (iN (z_60))])
        refine lv_istore_n (lv' := [(3, .int (iN (z_60))), (0, .ref a), (1, .ref i), (2, .ref q_2)]) hC.1 hC.2.1 dX5_told_70 rfl hl (by decide) rfl (fun ls hl => ?_)
        refine lv_goto (tgt := 17) hC.1 hC.2.1 dX5_told_71 (by decide) ?_
        exact ih17 z_60 (d + 1) (cu17 + 0 + mcg_37 + mcg_44 + mcg_53 + 0) (su17 + 0 + msg_37 + msg_44 + msg_53 + 0) _ _ _ _ _ _ _ hSk_55 hCg_53 _ _ _ (by omega) (by omega) (by omega) (hz_60S) (fun q9 => by have h8 := mAb_lt (W := mW O ti) (hz_60S q9).1 (by omega) (nrF_lt hz_60n q9); have h9 := hmu (by omega); omega) (by omega) (by omega) (by omega) (by omega) (by omega) hw (lv_sub hl [1, 2, 3, 0] rfl)
      · refine lv_aload_n hC.1 hC.2.1 dX5_told_32 rfl (lv_at hl 2 rfl) ?_
        refine x_ldcS (G := G) hC 15 (tx := ", ") rfl dX5_told_33 ?_
        have hLl_61 : (("RangeledgerModel", 104, ", ", [44, 32]) : String × Nat × String × List Int32).2.2.2.length = 2 := rfl
        obtain ⟨mcg_62, msg_62, cpg_62, hrg_62, hCg_62, hdg_62, hkg_62⟩ := x_growT hM hC1 (by omega) (need := n1 + (2 : Int)) (by omega) (by omega)
        refine x_callV hC hw (lv_size hl) (c_J4_append_15ec4 l G hS1 (nl := 15) rfl (by intro i; exact xlb_15 i) (by decide) (mc := mcg_62) (ms := msg_62) hrg_62 (by omega)) gX5_told_J4_append_15ec4 rfl dv_J4_append_15ec4 hS1.2.1 rfl rfl (Nat.le_of_ble_eq_true rfl) (by rw [hRf]; decide) (by rw [hRl]; decide) (by first | (rw [hRc]; decide) | omega) (by first | (rw [hRs]; decide) | omega) dX5_told_35 (fun r9 M_63 H locs hq hw => ?_)
        obtain ⟨rfl, vk_64, capk_64, fk_64, hSk_64, hck_64⟩ := hq
        have hSk_64 : Sb G M M_63 q_2 vk_64 0 (n1 + 2) capk_64 fk_64 := hSk_64
        have hbk_64 := hSk_64.2.2.2.2
        have h_65 := hR.ext hSk_64.1.1
        have h_66 := hIi.x5 (xExt.x5 hSk_64.1.1)
        obtain e_67 : cpg_62 = capk_64 := by (rcases hdg_62 with h7 | h7 <;> rcases hck_64 with h8 | h8 <;> omega)
        rw [e_67] at hCg_62 hkg_62
        clear hrg_62 hdg_62 hck_64
        show W p l e R s m args below meth c H locs _ _ _ (F0 m 38 ls [.ref q_2])
        refine lv_pop hC.1 hC.2.1 dX5_told_38 rfl ?_
        refine lv_aload_n hC.1 hC.2.1 dX5_told_39 rfl (lv_at hl 2 rfl) ?_
        refine lv_iload_n hC.1 hC.2.1 dX5_told_40 rfl (lv_at hl 3 rfl) ?_
        have hdld_68 := dgs_le key
        obtain ⟨mcg_69, msg_69, cpg_69, hrg_69, hCg_69, hdg_69, hkg_69⟩ := x_growT hM hCg_62 (by omega) (need := (n1 + 2) + dgs key) (by omega) (by omega)
        refine x_callV hC hw (lv_size hl) (c_J4_append_bf812 l G hSk_64 (p0 := key) (by omega) (mc := mcg_69) (ms := msg_69) hrg_69 (by omega)) gX5_told_J4_append_bf812 rfl dv_J4_append_bf812 hSk_64.2.1 rfl rfl (Nat.le_of_ble_eq_true rfl) (by rw [hRf]; decide) (by rw [hRl]; decide) (by first | (rw [hRc]; decide) | omega) (by first | (rw [hRs]; decide) | omega) dX5_told_41 (fun r9 M_70 H locs hq hw => ?_)
        obtain ⟨rfl, vk_71, capk_71, fk_71, hSk_71, hck_71⟩ := hq
        have hSk_71 : Sb G M M_70 q_2 vk_71 0 ((n1 + 2) + dgs key) capk_71 fk_71 := hSk_71
        have hbk_71 := hSk_71.2.2.2.2
        have h_72 := hR.ext hSk_71.1.1
        have h_73 := hIi.x5 (xExt.x5 hSk_71.1.1)
        obtain e_74 : cpg_69 = capk_71 := by (rcases hdg_69 with h7 | h7 <;> rcases hck_71 with h8 | h8 <;> omega)
        rw [e_74] at hCg_69 hkg_69
        clear hrg_69 hdg_69 hck_71
        show W p l e R s m args below meth c H locs _ _ _ (F0 m 44 ls [.ref q_2])
        refine x_ldcS (G := G) hC 16 (tx := "=") rfl dX5_told_44 ?_
        have hLl_75 : (("RangeledgerModel", 113, "=", [61]) : String × Nat × String × List Int32).2.2.2.length = 1 := rfl
        obtain ⟨mcg_76, msg_76, cpg_76, hrg_76, hCg_76, hdg_76, hkg_76⟩ := x_growT hM hCg_69 (by omega) (need := ((n1 + 2) + dgs key) + (1 : Int)) (by omega) (by omega)
        refine x_callV hC hw (lv_size hl) (c_J4_append_15ec4 l G hSk_71 (nl := 16) rfl (by intro i; exact xlb_16 i) (by decide) (mc := mcg_76) (ms := msg_76) hrg_76 (by omega)) gX5_told_J4_append_15ec4 rfl dv_J4_append_15ec4 hSk_71.2.1 rfl rfl (Nat.le_of_ble_eq_true rfl) (by rw [hRf]; decide) (by rw [hRl]; decide) (by first | (rw [hRc]; decide) | omega) (by first | (rw [hRs]; decide) | omega) dX5_told_46 (fun r9 M_77 H locs hq hw => ?_)
        obtain ⟨rfl, vk_78, capk_78, fk_78, hSk_78, hck_78⟩ := hq
        have hSk_78 : Sb G M M_77 q_2 vk_78 0 (((n1 + 2) + dgs key) + 1) capk_78 fk_78 := hSk_78
        have hbk_78 := hSk_78.2.2.2.2
        have h_79 := hR.ext hSk_78.1.1
        have h_80 := hIi.x5 (xExt.x5 hSk_78.1.1)
        obtain e_81 : cpg_76 = capk_78 := by (rcases hdg_76 with h7 | h7 <;> rcases hck_78 with h8 | h8 <;> omega)
        rw [e_81] at hCg_76 hkg_76
        clear hrg_76 hdg_76 hck_78
        show W p l e R s m args below meth c H locs _ _ _ (F0 m 49 ls [.ref q_2])
        refine lv_aload_n hC.1 hC.2.1 dX5_told_49 rfl (lv_at hl 0 rfl) ?_
        refine x_get hC hw h_79.1.1 rfl hinX5 2 (by decide) (List.mem_cons_of_mem _ (List.mem_append_left _ (List.mem_append_left _ (List.mem_append_left _ (List.mem_append_left _ (List.mem_of_getElem? (i := 3) rfl)))))) rfl dX5_told_50 ?_
        refine lv_aload_n hC.1 hC.2.1 dX5_told_53 rfl (lv_at hl 1 rfl) ?_
        refine x_const hC dX5_told_54 ?_
        refine x_ialdE (x := ((ti.b : Nat) : Int)) hC hw h_80.1 (by omega) (by omega) (by omega) dX5_told_55 h_80.2.2.1 ?_
        refine x_ald4 hC hw h_79.1.2.1 (by omega) (by omega) (by omega) dX5_told_56 ?_
        rw [Int.toNat_natCast]
        rw [h_79.fa' (show ti.b < 3 by omega)]
        show W p l e R s m args below meth c _ _ _ _ _ (F0 m 57 ls [.ref (qv ti.b), .ref q_2])
        refine lv_iload_n hC.1 hC.2.1 dX5_told_57 rfl (lv_at hl 3 rfl) ?_
        refine x_ialdE (x := (V ti.b ((key).toNat))) hC hw (h_79.rv (show ti.b < 3 by omega)) (by omega) (by omega) (by omega) dX5_told_58 rfl ?_
        have hrv_82 := h_79.vr (show ti.b < 3 by omega) (show (key).toNat < 100 from tn_lt (by omega) (by decide))
        have hpv_82 := h_79.vs (show ti.b < 3 by omega) (show (key).toNat < 100 from tn_lt (by omega) (by decide))
        have hnee_83 : (V ti.b ((key).toNat)) ≠ -10000 := (hky (by omega)).2
        have hdld_84 := dgs_le (V ti.b ((key).toNat))
        obtain ⟨mcg_85, msg_85, cpg_85, hrg_85, hCg_85, hdg_85, hkg_85⟩ := x_growT hM hCg_76 (by omega) (need := (((n1 + 2) + dgs key) + 1) + dgs (V ti.b ((key).toNat))) (by omega) (by omega)
        refine x_callV hC hw (lv_size hl) (c_J4_append_bf812 l G hSk_78 (p0 := (V ti.b ((key).toNat))) (by omega) (mc := mcg_85) (ms := msg_85) hrg_85 (by omega)) gX5_told_J4_append_bf812 rfl dv_J4_append_bf812 hSk_78.2.1 rfl rfl (Nat.le_of_ble_eq_true rfl) (by rw [hRf]; decide) (by rw [hRl]; decide) (by first | (rw [hRc]; decide) | omega) (by first | (rw [hRs]; decide) | omega) dX5_told_59 (fun r9 M_86 H locs hq hw => ?_)
        obtain ⟨rfl, vk_87, capk_87, fk_87, hSk_87, hck_87⟩ := hq
        have hSk_87 : Sb G M M_86 q_2 vk_87 0 ((((n1 + 2) + dgs key) + 1) + dgs (V ti.b ((key).toNat))) capk_87 fk_87 := hSk_87
        have hbk_87 := hSk_87.2.2.2.2
        have h_88 := hR.ext hSk_87.1.1
        have h_89 := hIi.x5 (xExt.x5 hSk_87.1.1)
        obtain e_90 : cpg_85 = capk_87 := by (rcases hdg_85 with h7 | h7 <;> rcases hck_87 with h8 | h8 <;> omega)
        rw [e_90] at hCg_85 hkg_85
        clear hrg_85 hdg_85 hck_87
        show W p l e R s m args below meth c H locs _ _ _ (F0 m 62 ls [.ref q_2])
        refine lv_pop hC.1 hC.2.1 dX5_told_62 rfl ?_
        refine lv_aload_n hC.1 hC.2.1 dX5_told_63 rfl (lv_at hl 0 rfl) ?_
        refine lv_aload_n hC.1 hC.2.1 dX5_told_64 rfl (lv_at hl 1 rfl) ?_
        refine lv_iload_n hC.1 hC.2.1 dX5_told_65 rfl (lv_at hl 3 rfl) ?_
        refine x_const hC dX5_told_66 ?_
        refine x_callV hC hw (lv_size hl) (c_X5_nearOf l G h_88 h_89 (p0 := key) (by omega) (p1 := 3) (by omega) (by omega)) gX5_told_X5_nearOf rfl dv_X5_nearOf h_88.1.1 rfl rfl (Nat.le_of_ble_eq_true rfl) (by rw [hRf]; decide) (by rw [hRl]; decide) (by first | (rw [hRc]; decide) | omega) (by first | (rw [hRs]; decide) | omega) dX5_told_67 (fun r9 M_91 H locs hq hw => ?_)
        obtain ⟨z_92, rfl, hM9, hz_92a, hz_92S, hz_92n⟩ := hq
        rw [hM9] at hw
        show W p l e R s m args below meth c H locs _ _ _ (F0 m 70 ls [.int (iN (z_92))])
        refine lv_istore_n (lv' := [(3, .int (iN (z_92))), (0, .ref a), (1, .ref i), (2, .ref q_2)]) hC.1 hC.2.1 dX5_told_70 rfl hl (by decide) rfl (fun ls hl => ?_)
        refine lv_goto (tgt := 17) hC.1 hC.2.1 dX5_told_71 (by decide) ?_
        exact ih17 z_92 (d + 1) (cu17 + 0 + mcg_62 + mcg_69 + mcg_76 + mcg_85 + 0) (su17 + 0 + msg_62 + msg_69 + msg_76 + msg_85 + 0) _ _ _ _ _ _ _ hSk_87 hCg_85 _ _ _ (by omega) (by omega) (by omega) (hz_92S) (fun q9 => by have h8 := mAb_lt (W := mW O ti) (hz_92S q9).1 (by omega) (nrF_lt hz_92n q9); have h9 := hmu (by omega); omega) (by omega) (by omega) (by omega) (by omega) (by omega) hw (lv_sub hl [1, 2, 3, 0] rfl)
set_option maxHeartbeats 4000000 in
set_option maxRecDepth 100000 in
theorem c_X5_row (l : Launch) (G : xG) {M : HM} {a va oa wa ya : Nat} {wk : Option Nat} {th : Int} {rfd : Int32} {br re la ha : Int} {kp kv : Int32} {qv qw : Nat → Nat} {fa fb : Nat → Option Nat} {V : BW} {O : OW} {fy : Nat → Option Nat} {Wv : VW} {wt : Option VT} {S : Nat → Bool} (hR : MGx G M a va oa wa ya wk th rfd br re la ha kp kv qv qw fa fb V O fy Wv wt S) {K : WA} (hK : abM O wt br re la ha K) {Kn Tm : Nat} (hKn : mC S 100 ≤ Kn) (hT : (Kn = 60 ∧ Tm = 1800) ∨ (Kn = 80 ∧ Tm = 3210) ∨ (Kn = 100 ∧ Tm = 3410)) {p0 : Int} (hp0 : -2147483648 ≤ p0 ∧ p0 ≤ 2147483647) : xMet l G yX5_row wsX5_row 10 223 16 (Tm + 20) [.ref a, .int (iN (p0))] M (fun r M1 => ∃ (q : Nat) (th1 : Int), r = some (.ref q) ∧ ((th1 = 0 ∧ ((0 ≤ p0 ∧ p0 ≤ 2)) ∧ MGm G M1 a S th1 (O, V, Wv, K, kp, kv, rfd)) ∨ (th1 ≠ 0 ∧ (th1 = 1 ∧ ¬ (0 ≤ p0 ∧ p0 ≤ 2)) ∧ MGm G M1 a S th1 (O, V, Wv, K, kp, kv, rfd)))) := by
  refine x_intro (cc := cX5_row) (maxL := 2) (ret := (some (.object "java/lang/String"))) (by exact pln_RX5) rfl (Nat.le_of_ble_eq_true rfl) ?_
  intro p e R s m args below meth c ls hRf hRc hRs hRl hC hw hl
  have hsc0 := hR.sc.1
  have hl : lv_has ls 2 [(0, .ref a), (1, .int (iN (p0)))] := hl
  refine lv_aload_n hC.1 hC.2.1 dX5_row_0 rfl (lv_at hl 0 rfl) ?_
  refine lv_iload_n hC.1 hC.2.1 dX5_row_1 rfl (lv_at hl 1 rfl) ?_
  refine x_callS hC hw (lv_size hl) (c_X5_isNoBook l G (M := M) (p0 := p0) (by first | assumption | omega)) gX5_row_X5_isNoBook rfl dv_X5_isNoBook_s rfl (Nat.le_of_ble_eq_true rfl) (by rw [hRf]; decide) (by rw [hRl]; decide) (by first | (rw [hRc]; decide) | omega) (by first | (rw [hRs]; decide) | omega) dX5_row_2 (fun r9 M_1 H locs hq hw => ?_)
  obtain ⟨z_2, rfl, hM9, hz_2a, hz_2b⟩ := hq
  rw [hM9] at hw
  show W p l e R s m args below meth c H locs _ _ _ (F0 m 5 ls [.int (iN (z_2)), .ref a])
  refine x_const hC dX5_row_5 ?_
  refine x_callV hC hw (lv_size hl) (c_X5_start l G hR (p0 := z_2) (by omega) (p1 := 1) (by omega) (by omega)) gX5_row_X5_start rfl dv_X5_start hR.1.1 rfl rfl (Nat.le_of_ble_eq_true rfl) (by rw [hRf]; decide) (by rw [hRl]; decide) (by first | (rw [hRc]; decide) | omega) (by first | (rw [hRs]; decide) | omega) dX5_row_6 (fun r9 M_3 H locs hq hw => ?_)
  obtain ⟨z_5, thk_4, rfl, hz_5r, hx5k_4, hRk_4⟩ := hq
  have hsck_4 := hRk_4.sc.1
  show W p l e R s m args below meth c H locs _ _ _ (F0 m 9 ls [.int (iN (z_5))])
  refine x_if_eq (tgt := 17) hC ⟨by omega, by omega⟩ dX5_row_9 (by decide) (fun c_6 => ?_) (fun c_6 => ?_)
  · replace hz_5r := (hz_5r.resolve_right (fun q9 => absurd (q9.1.symm.trans c_6) (by decide))).2
    replace hz_2b := hz_2b.mp hz_5r.2
    refine lv_aload_n hC.1 hC.2.1 dX5_row_17 rfl (lv_at hl 0 rfl) ?_
    refine lv_iload_n hC.1 hC.2.1 dX5_row_18 rfl (lv_at hl 1 rfl) ?_
    refine x_callS hC hw (lv_size hl) (c_X5_whole l G (M := M_3) (p0 := p0) (by first | assumption | omega) (by omega)) gX5_row_X5_whole rfl dv_X5_whole_s rfl (Nat.le_of_ble_eq_true rfl) (by rw [hRf]; decide) (by rw [hRl]; decide) (by first | (rw [hRc]; decide) | omega) (by first | (rw [hRs]; decide) | omega) dX5_row_19 (fun r9 M_7 H locs hq hw => ?_)
    obtain ⟨qk_8, fk_8, rfl, hxk_8, hIk_8⟩ := hq
    have h_9 := hRk_4.ext hxk_8
    obtain ⟨htat_10, htbt_10, htct_10, htdt_10, htet_10⟩ := id hIk_8.2.1
    have holk_8 := h_9.or' hIk_8.2.1.1
    show W p l e R s m args below meth c H locs _ _ _ (F0 m 22 ls [.ref qk_8, .ref a])
    refine x_callV hC hw (lv_size hl) (c_X5_told l G h_9 hIk_8 (Kn := Kn) (Tm := Tm) hKn hT) gX5_row_X5_told rfl dv_X5_told h_9.1.1 rfl rfl (Nat.le_of_ble_eq_true rfl) (by rw [hRf]; decide) (by rw [hRl]; decide) (by first | (rw [hRc]; decide) | omega) (by first | (rw [hRs]; decide) | omega) dX5_row_22 (fun r9 M_11 H locs hq hw => ?_)
    obtain ⟨qk_12, vk_12, fk_12, Lk_12, rfl, hxk_12, hVk_12⟩ := hq
    have h_13 := h_9.ext hxk_12
    have h_14 := hIk_8.x5 (xExt.x5 hxk_12)
    show W p l e R s m args below meth c H locs _ _ _ (F0 m 25 ls [.ref qk_12])
    exact x_aret hC hw (by first | exact Or.inl ⟨_, rfl⟩ | exact Or.inr ⟨_, rfl⟩) (Or.inr ⟨_, rfl⟩) dX5_row_25 (by omega) (by omega) ⟨_, thk_4, rfl, Or.inl ⟨by omega, by omega, MGm.of h_13 hK⟩⟩
  · replace hz_5r := (hz_5r.resolve_left (fun q9 => c_6 q9.1)).2
    replace hz_2b := mt hz_2b.mpr hz_5r.1
    refine x_ldcS (G := G) hC 18 (tx := "") rfl dX5_row_12 ?_
    have hLl_15 : (("RangeledgerModel", 210, "", []) : String × Nat × String × List Int32).2.2.2.length = 0 := rfl
    refine lv_goto (tgt := 25) hC.1 hC.2.1 dX5_row_14 (by decide) ?_
    exact x_aret hC hw (by first | exact Or.inl ⟨_, rfl⟩ | exact Or.inr ⟨_, rfl⟩) (Or.inr ⟨_, rfl⟩) dX5_row_25 (by omega) (by omega) ⟨_, thk_4, rfl, Or.inr ⟨by omega, by omega, MGm.of hRk_4 hK⟩⟩
set_option maxHeartbeats 4000000 in
set_option maxRecDepth 100000 in
theorem c_X5_viewRow (l : Launch) (G : xG) {M : HM} {a va oa wa ya : Nat} {wk : Option Nat} {th : Int} {rfd : Int32} {br re la ha : Int} {kp kv : Int32} {qv qw : Nat → Nat} {fa fb : Nat → Option Nat} {V : BW} {O : OW} {fy : Nat → Option Nat} {Wv : VW} {wt : Option VT} {S : Nat → Bool} (hR : MGx G M a va oa wa ya wk th rfd br re la ha kp kv qv qw fa fb V O fy Wv wt S) {K : WA} (hK : abM O wt br re la ha K) {Kn Tm : Nat} (hKn : mC S 100 ≤ Kn) (hT : (Kn = 60 ∧ Tm = 1800) ∨ (Kn = 80 ∧ Tm = 3210) ∨ (Kn = 100 ∧ Tm = 3410)) {p0 : Int} (hp0 : -2147483648 ≤ p0 ∧ p0 ≤ 2147483647) : xMet l G yX5_viewRow wsX5_viewRow 10 223 16 (Tm + 20) [.ref a, .int (iN (p0))] M (fun r M1 => ∃ (q : Nat) (th1 : Int), r = some (.ref q) ∧ ((th1 = 0 ∧ ((0 ≤ p0 ∧ p0 ≤ 3 ∧ opN (Wv p0.toNat) = 1)) ∧ MGm G M1 a S th1 (O, V, Wv, K, kp, kv, rfd)) ∨ (th1 ≠ 0 ∧ (th1 = 1 ∧ ¬ (0 ≤ p0 ∧ p0 ≤ 3 ∧ opN (Wv p0.toNat) = 1)) ∧ MGm G M1 a S th1 (O, V, Wv, K, kp, kv, rfd)))) := by
  refine x_intro (cc := cX5_viewRow) (maxL := 2) (ret := (some (.object "java/lang/String"))) (by exact pln_RX5) rfl (Nat.le_of_ble_eq_true rfl) ?_
  intro p e R s m args below meth c ls hRf hRc hRs hRl hC hw hl
  have hsc0 := hR.sc.1
  have hinX5 : ∀ w ∈ wsX50, w ∈ wsX5_viewRow := fun w h => (List.mem_cons_of_mem _ (List.mem_append_left _ (List.mem_append_left _ (List.mem_append_right _ h))))
  have hl : lv_has ls 2 [(0, .ref a), (1, .int (iN (p0)))] := hl
  refine lv_aload_n hC.1 hC.2.1 dX5_viewRow_0 rfl (lv_at hl 0 rfl) ?_
  refine lv_aload_n hC.1 hC.2.1 dX5_viewRow_1 rfl (lv_at hl 0 rfl) ?_
  refine lv_iload_n hC.1 hC.2.1 dX5_viewRow_2 rfl (lv_at hl 1 rfl) ?_
  refine x_callV hC hw (lv_size hl) (c_X5_isNoView l G hR (p0 := p0) (by first | assumption | omega)) gX5_viewRow_X5_isNoView rfl dv_X5_isNoView hR.1.1 rfl rfl (Nat.le_of_ble_eq_true rfl) (by rw [hRf]; decide) (by rw [hRl]; decide) (by first | (rw [hRc]; decide) | omega) (by first | (rw [hRs]; decide) | omega) dX5_viewRow_3 (fun r9 M_1 H locs hq hw => ?_)
  obtain ⟨z_2, rfl, hM9, hz_2a, hz_2b, hz_2n⟩ := hq
  rw [hM9] at hw
  show W p l e R s m args below meth c H locs _ _ _ (F0 m 6 ls [.int (iN (z_2)), .ref a])
  refine x_const hC dX5_viewRow_6 ?_
  refine x_callV hC hw (lv_size hl) (c_X5_start l G hR (p0 := z_2) (by omega) (p1 := 1) (by omega) (by omega)) gX5_viewRow_X5_start rfl dv_X5_start hR.1.1 rfl rfl (Nat.le_of_ble_eq_true rfl) (by rw [hRf]; decide) (by rw [hRl]; decide) (by first | (rw [hRc]; decide) | omega) (by first | (rw [hRs]; decide) | omega) dX5_viewRow_7 (fun r9 M_3 H locs hq hw => ?_)
  obtain ⟨z_5, thk_4, rfl, hz_5r, hx5k_4, hRk_4⟩ := hq
  have hsck_4 := hRk_4.sc.1
  show W p l e R s m args below meth c H locs _ _ _ (F0 m 10 ls [.int (iN (z_5))])
  refine x_if_eq (tgt := 18) hC ⟨by omega, by omega⟩ dX5_viewRow_10 (by decide) (fun c_6 => ?_) (fun c_6 => ?_)
  · replace hz_5r := (hz_5r.resolve_right (fun q9 => absurd (q9.1.symm.trans c_6) (by decide))).2
    replace hz_2b := hz_2b.mp hz_5r.2
    refine lv_aload_n hC.1 hC.2.1 dX5_viewRow_18 rfl (lv_at hl 0 rfl) ?_
    refine lv_aload_n hC.1 hC.2.1 dX5_viewRow_19 rfl (lv_at hl 0 rfl) ?_
    refine x_get hC hw hRk_4.1.1 rfl hinX5 5 (by decide) (List.mem_cons_of_mem _ (List.mem_append_left _ (List.mem_append_left _ (List.mem_append_left _ (List.mem_append_left _ (List.mem_of_getElem? (i := 0) rfl)))))) rfl dX5_viewRow_20 ?_
    refine lv_iload_n hC.1 hC.2.1 dX5_viewRow_23 rfl (lv_at hl 1 rfl) ?_
    refine x_ald4 hC hw hRk_4.1.2.2.2.2.1 (by omega) (by omega) (by omega) dX5_viewRow_24 ?_
    obtain ⟨y_7, hy_8⟩ := x_some (hz_2n (by omega))
    rw [hy_8]
    obtain ⟨ti_9, fi_9, hui_9, hIi_9⟩ := (hRk_4.vw (show (p0).toNat < 4 from tn_lt (by omega) (by decide))).yes hy_8
    obtain ⟨htat_10, htbt_10, htct_10, htdt_10, htet_10⟩ := id hIi_9.2.1
    show W p l e R s m args below meth c _ _ _ _ _ (F0 m 25 ls [.ref y_7, .ref a])
    refine x_callV hC hw (lv_size hl) (c_X5_told l G hRk_4 hIi_9 (Kn := Kn) (Tm := Tm) hKn hT) gX5_viewRow_X5_told rfl dv_X5_told hRk_4.1.1 rfl rfl (Nat.le_of_ble_eq_true rfl) (by rw [hRf]; decide) (by rw [hRl]; decide) (by first | (rw [hRc]; decide) | omega) (by first | (rw [hRs]; decide) | omega) dX5_viewRow_25 (fun r9 M_11 H locs hq hw => ?_)
    obtain ⟨qk_12, vk_12, fk_12, Lk_12, rfl, hxk_12, hVk_12⟩ := hq
    have h_13 := hRk_4.ext hxk_12
    have h_14 := hIi_9.x5 (xExt.x5 hxk_12)
    show W p l e R s m args below meth c H locs _ _ _ (F0 m 28 ls [.ref qk_12])
    exact x_aret hC hw (by first | exact Or.inl ⟨_, rfl⟩ | exact Or.inr ⟨_, rfl⟩) (Or.inr ⟨_, rfl⟩) dX5_viewRow_28 (by omega) (by omega) ⟨_, thk_4, rfl, Or.inl ⟨by omega, by omega, MGm.of h_13 hK⟩⟩
  · replace hz_5r := (hz_5r.resolve_left (fun q9 => c_6 q9.1)).2
    replace hz_2b := mt hz_2b.mpr hz_5r.1
    refine x_ldcS (G := G) hC 18 (tx := "") rfl dX5_viewRow_13 ?_
    have hLl_15 : (("RangeledgerModel", 210, "", []) : String × Nat × String × List Int32).2.2.2.length = 0 := rfl
    refine lv_goto (tgt := 28) hC.1 hC.2.1 dX5_viewRow_15 (by decide) ?_
    exact x_aret hC hw (by first | exact Or.inl ⟨_, rfl⟩ | exact Or.inr ⟨_, rfl⟩) (Or.inr ⟨_, rfl⟩) dX5_viewRow_28 (by omega) (by omega) ⟨_, thk_4, rfl, Or.inr ⟨by omega, by omega, MGm.of hRk_4 hK⟩⟩
set_option maxHeartbeats 4000000 in
set_option maxRecDepth 100000 in
theorem c_X5_thrown (l : Launch) (G : xG) {M : HM} {a va oa wa ya : Nat} {wk : Option Nat} {th : Int} {rfd : Int32} {br re la ha : Int} {kp kv : Int32} {qv qw : Nat → Nat} {fa fb : Nat → Option Nat} {V : BW} {O : OW} {fy : Nat → Option Nat} {Wv : VW} {wt : Option VT} {S : Nat → Bool} (hR : MGx G M a va oa wa ya wk th rfd br re la ha kp kv qv qw fa fb V O fy Wv wt S) : xMet l G yX5_thrown wsX5_thrown 0 0 0 0 [.ref a] M (fun r M1 => r = some (.int (iN th)) ∧ M1 = M) := by
  refine x_intro (cc := cX5_thrown) (maxL := 1) (ret := (some .int)) (by exact pln_RX5) rfl (Nat.le_of_ble_eq_true rfl) ?_
  intro p e R s m args below meth c ls hRf hRc hRs hRl hC hw hl
  have hsc0 := hR.sc.1
  have hinX5 : ∀ w ∈ wsX50, w ∈ wsX5_thrown := fun w h => (List.mem_cons_of_mem _ (List.mem_append_right _ h))
  have hl : lv_has ls 1 [(0, .ref a)] := hl
  refine lv_aload_n hC.1 hC.2.1 dX5_thrown_0 rfl (lv_at hl 0 rfl) ?_
  refine x_get hC hw hR.1.1 rfl hinX5 0 (by decide) (List.mem_cons_of_mem _ (List.mem_append_left _ (List.mem_of_getElem? (i := 0) rfl))) rfl dX5_thrown_1 ?_
  have sc_1 := hR.sc.1
  exact x_iret hC hw dX5_thrown_4 (by first | decide | omega) (by first | decide | omega) ⟨rfl, rfl⟩
set_option maxHeartbeats 4000000 in
set_option maxRecDepth 100000 in
theorem c_X5_isTrue (l : Launch) (G : xG) {M : HM} {a va oa wa ya : Nat} {wk : Option Nat} {th : Int} {rfd : Int32} {br re la ha : Int} {kp kv : Int32} {qv qw : Nat → Nat} {fa fb : Nat → Option Nat} {V : BW} {O : OW} {fy : Nat → Option Nat} {Wv : VW} {wt : Option VT} {S : Nat → Bool} (hR : MGx G M a va oa wa ya wk th rfd br re la ha kp kv qv qw fa fb V O fy Wv wt S) {i : Nat} {fi : Nat → Int32} {ti : VT} (hIi : Its G M i fi ti) : xMet l G yX5_isTrue wsX5_isTrue 5 117 1 5 [.ref a, .ref i] M (fun r M1 => ∃ z : Int, r = some (.int (iN z)) ∧ xExt M M1 ∧ z = 1) := by
  refine x_intro (cc := cX5_isTrue) (maxL := 5) (ret := (some .boolean)) (by exact pln_RX5) rfl (Nat.le_of_ble_eq_true rfl) ?_
  intro p e R s m args below meth c ls hRf hRc hRs hRl hC hw hl
  have hsc0 := hR.sc.1
  obtain ⟨htat_1, htbt_1, htct_1, htdt_1, htet_1⟩ := id hIi.2.1
  have holi := hR.or' hIi.2.1.1
  have hl : lv_has ls 5 [(0, .ref a), (1, .ref i)] := hl
  refine lv_aload_n hC.1 hC.2.1 dX5_isTrue_0 rfl (lv_at hl 1 rfl) ?_
  refine x_const hC dX5_isTrue_1 ?_
  refine x_ialdE (x := ((ti.b : Nat) : Int)) hC hw hIi.1 (by omega) (by omega) (by omega) dX5_isTrue_2 hIi.2.2.1 ?_
  refine x_callS hC hw (lv_size hl) (c_X5_whole l G (M := M) (p0 := ((ti.b : Nat) : Int)) (by omega) (by omega)) gX5_isTrue_X5_whole rfl dv_X5_whole_s rfl (Nat.le_of_ble_eq_true rfl) (by rw [hRf]; decide) (by rw [hRl]; decide) (by first | (rw [hRc]; decide) | omega) (by first | (rw [hRs]; decide) | omega) dX5_isTrue_3 (fun r9 M_2 H locs hq hw => ?_)
  rw [Int.toNat_natCast] at hq
  obtain ⟨qk_3, fk_3, rfl, hxk_3, hIk_3⟩ := hq
  have h_4 := hR.ext hxk_3
  have h_5 := hIi.x5 (xExt.x5 hxk_3)
  obtain ⟨htat_6, htbt_6, htct_6, htdt_6, htet_6⟩ := id hIk_3.2.1
  have holk_3 := h_4.or' hIk_3.2.1.1
  show W p l e R s m args below meth c H locs _ _ _ (F0 m 6 ls [.ref qk_3])
  refine lv_astore_n (lv' := [(2, .ref qk_3), (0, .ref a), (1, .ref i)]) hC.1 hC.2.1 dX5_isTrue_6 rfl hl (by decide) rfl (fun ls hl => ?_)
  refine lv_aload_n hC.1 hC.2.1 dX5_isTrue_7 rfl (lv_at hl 1 rfl) ?_
  refine lv_aload_n hC.1 hC.2.1 dX5_isTrue_8 rfl (lv_at hl 2 rfl) ?_
  refine x_const hC dX5_isTrue_9 ?_
  refine x_callV hC hw (lv_size hl) (c_X5_end l G h_4 h_5 (p0 := 0) (by omega)) gX5_isTrue_X5_end rfl dv_X5_end h_4.1.1 rfl rfl (Nat.le_of_ble_eq_true rfl) (by rw [hRf]; decide) (by rw [hRl]; decide) (by first | (rw [hRc]; decide) | omega) (by first | (rw [hRs]; decide) | omega) dX5_isTrue_10 (fun r9 M_7 H locs hq hw => ?_)
  obtain ⟨z_8, rfl, hM9, hz_8a, hz_8S, hz_8e⟩ := hq
  rw [hM9] at hw
  show W p l e R s m args below meth c H locs _ _ _ (F0 m 13 ls [.int (iN (z_8))])
  refine lv_istore_n (lv' := [(3, .int (iN (z_8))), (2, .ref qk_3), (0, .ref a), (1, .ref i)]) hC.1 hC.2.1 dX5_isTrue_13 rfl hl (by decide) rfl (fun ls hl => ?_)
  refine lv_aload_n hC.1 hC.2.1 dX5_isTrue_14 rfl (lv_at hl 2 rfl) ?_
  refine lv_aload_n hC.1 hC.2.1 dX5_isTrue_15 rfl (lv_at hl 1 rfl) ?_
  refine x_const hC dX5_isTrue_16 ?_
  refine x_callV hC hw (lv_size hl) (c_X5_end l G h_4 hIk_3 (p0 := 0) (by omega)) gX5_isTrue_X5_end rfl dv_X5_end h_4.1.1 rfl rfl (Nat.le_of_ble_eq_true rfl) (by rw [hRf]; decide) (by rw [hRl]; decide) (by first | (rw [hRc]; decide) | omega) (by first | (rw [hRs]; decide) | omega) dX5_isTrue_17 (fun r9 M_9 H locs hq hw => ?_)
  obtain ⟨z_10, rfl, hM9, hz_10a, hz_10S, hz_10e⟩ := hq
  rw [hM9] at hw
  show W p l e R s m args below meth c H locs _ _ _ (F0 m 20 ls [.int (iN (z_10))])
  refine lv_istore (lv' := [(4, .int (iN (z_10))), (3, .int (iN (z_8))), (2, .ref qk_3), (0, .ref a), (1, .ref i)]) hC.1 hC.2.1 dX5_isTrue_20 hl (by decide) rfl (fun ls hl => ?_)
  suffices hloop22 : ∀ (n9 : Nat) (due : Int) (key : Int) (d : Int) (H : Heap) (locs : List Loc) (ls : Array Slot), (hmz22 : (101 - d).toNat < n9) → (hi0 : 0 ≤ d ∧ d ≤ 100) → (hi1 : due = -10000 ∨ (0 ≤ due ∧ due ≤ 99)) → (hkr : key = -10000 ∨ (0 ≤ key ∧ key ≤ 99)) → (hjt : jtQ O V ti due key) → (hky : key ≠ -10000 → mP S V (whT ti.b) key.toNat) → (hmu : key ≠ -10000 → d + (mAb S (mW O (whT ti.b)) (mW O (whT ti.b) key.toNat) : Int) + 1 ≤ 100) → xD G (xA M s.heap.size) s M_2 H locs → lv_has ls 5 [(0, .ref a), (1, .ref i), (2, .ref qk_3), (3, .int (iN (due))), (4, .int (iN (key)))] → W p l e R s m args below meth c H locs _ _ _ (F0 m 22 ls []) by
    exact hloop22 _ z_8 z_10 0  _ _ _ (Nat.lt_succ_self _) (by omega) (by omega) (by omega) (jtQ.init hz_8e hz_10e) (hz_10S) (fun q9 => by have h8 := mAb_le (W := mW O (whT ti.b)) (hz_10S q9).1 (by omega); have h9 := mC_le S 100; omega) hw (lv_sub hl [3, 4, 2, 1, 0] rfl)
  intro n9
  induction n9 with
  | zero => intro due key d  H locs ls hmz; exact absurd hmz (Nat.not_lt_zero _)
  | succ n9 ih22 =>
    intro due key d  H locs ls hmz22 hi0 hi1 hkr hjt hky hmu hw hl
    have hL_11 : -10000 ≤ due ∧ due ≤ 99 := by (rcases hi1 with h9 | h9 <;> omega)
    have hL_12 : -10000 ≤ key ∧ key ≤ 99 := by (rcases hkr with h9 | h9 <;> omega)
    refine lv_iload hC.1 hC.2.1 dX5_isTrue_22 (lv_at hl 4 rfl) ?_
    refine x_sipush hC dX5_isTrue_24 (by decide +kernel) ?_
    refine x_icmp_eq (tgt := 72) hC ⟨by omega, by omega⟩ ⟨by omega, by omega⟩ dX5_isTrue_27 (by decide) (fun c_13 => ?_) (fun c_13 => ?_)
    · refine lv_iload_n hC.1 hC.2.1 dX5_isTrue_72 rfl (lv_at hl 3 rfl) ?_
      refine x_sipush hC dX5_isTrue_73 (by decide +kernel) ?_
      refine x_icmp_ne (tgt := 83) hC ⟨by omega, by omega⟩ ⟨by omega, by omega⟩ dX5_isTrue_76 (by decide) (fun c_14 => ?_) (fun c_14 => ?_)
      · refine x_const hC dX5_isTrue_83 ?_
        exact x_zret hC hw (by omega) dX5_isTrue_84 (by first | decide | omega) (by first | decide | omega) ⟨0, rfl, hxk_3, (by have e9 := hjt.fin (by omega); omega)⟩
      · refine x_const hC dX5_isTrue_79 ?_
        refine lv_goto (tgt := 84) hC.1 hC.2.1 dX5_isTrue_80 (by decide) ?_
        exact x_zret hC hw (by omega) dX5_isTrue_84 (by first | decide | omega) (by first | decide | omega) ⟨1, rfl, hxk_3, rfl⟩
    · have hK_15 : 0 ≤ key ∧ key ≤ 99 := hkr.resolve_left (by first | assumption | omega)
      have hm9 := hmu (by first | assumption | omega)
      refine lv_aload_n hC.1 hC.2.1 dX5_isTrue_30 rfl (lv_at hl 0 rfl) ?_
      refine lv_aload_n hC.1 hC.2.1 dX5_isTrue_31 rfl (lv_at hl 1 rfl) ?_
      refine lv_iload hC.1 hC.2.1 dX5_isTrue_32 (lv_at hl 4 rfl) ?_
      refine x_callV hC hw (lv_size hl) (c_X5_isWithin l G h_4 h_5 (p0 := key) (by omega) (by omega)) gX5_isTrue_X5_isWithin rfl dv_X5_isWithin h_4.1.1 rfl rfl (Nat.le_of_ble_eq_true rfl) (by rw [hRf]; decide) (by rw [hRl]; decide) (by first | (rw [hRc]; decide) | omega) (by first | (rw [hRs]; decide) | omega) dX5_isTrue_34 (fun r9 M_16 H locs hq hw => ?_)
      obtain ⟨z_17, rfl, hM9, hz_17a, hz_17w⟩ := hq
      rw [hM9] at hw
      show W p l e R s m args below meth c H locs _ _ _ (F0 m 37 ls [.int (iN (z_17))])
      refine x_if_ne (tgt := 43) hC ⟨by omega, by omega⟩ dX5_isTrue_37 (by decide) (fun c_18 => ?_) (fun c_18 => ?_)
      · refine lv_iload hC.1 hC.2.1 dX5_isTrue_43 (lv_at hl 4 rfl) ?_
        refine lv_iload_n hC.1 hC.2.1 dX5_isTrue_45 rfl (lv_at hl 3 rfl) ?_
        refine x_icmp_eq (tgt := 51) hC ⟨by omega, by omega⟩ ⟨by omega, by omega⟩ dX5_isTrue_46 (by decide) (fun c_19 => ?_) (fun c_19 => ?_)
        · refine lv_aload_n hC.1 hC.2.1 dX5_isTrue_51 rfl (lv_at hl 0 rfl) ?_
          refine lv_aload_n hC.1 hC.2.1 dX5_isTrue_52 rfl (lv_at hl 1 rfl) ?_
          refine lv_iload_n hC.1 hC.2.1 dX5_isTrue_53 rfl (lv_at hl 3 rfl) ?_
          refine x_const hC dX5_isTrue_54 ?_
          refine x_callV hC hw (lv_size hl) (c_X5_nearOf l G h_4 h_5 (p0 := due) (by omega) (p1 := 3) (by omega) (by omega)) gX5_isTrue_X5_nearOf rfl dv_X5_nearOf h_4.1.1 rfl rfl (Nat.le_of_ble_eq_true rfl) (by rw [hRf]; decide) (by rw [hRl]; decide) (by first | (rw [hRc]; decide) | omega) (by first | (rw [hRs]; decide) | omega) dX5_isTrue_55 (fun r9 M_20 H locs hq hw => ?_)
          obtain ⟨z_21, rfl, hM9, hz_21a, hz_21S, hz_21n⟩ := hq
          rw [hM9] at hw
          show W p l e R s m args below meth c H locs _ _ _ (F0 m 58 ls [.int (iN (z_21))])
          refine lv_istore_n (lv' := [(3, .int (iN (z_21))), (0, .ref a), (1, .ref i), (2, .ref qk_3), (4, .int (iN (key)))]) hC.1 hC.2.1 dX5_isTrue_58 rfl hl (by decide) rfl (fun ls hl => ?_)
          refine lv_aload_n hC.1 hC.2.1 dX5_isTrue_59 rfl (lv_at hl 1 rfl) ?_
          refine lv_aload_n hC.1 hC.2.1 dX5_isTrue_60 rfl (lv_at hl 3 rfl) ?_
          refine lv_iload hC.1 hC.2.1 dX5_isTrue_61 (lv_at hl 4 rfl) ?_
          refine x_const hC dX5_isTrue_63 ?_
          refine x_callV hC hw (lv_size hl) (c_X5_nearOf l G h_4 hIk_3 (p0 := key) (by omega) (p1 := 3) (by omega) (by omega)) gX5_isTrue_X5_nearOf rfl dv_X5_nearOf h_4.1.1 rfl rfl (Nat.le_of_ble_eq_true rfl) (by rw [hRf]; decide) (by rw [hRl]; decide) (by first | (rw [hRc]; decide) | omega) (by first | (rw [hRs]; decide) | omega) dX5_isTrue_64 (fun r9 M_22 H locs hq hw => ?_)
          obtain ⟨z_23, rfl, hM9, hz_23a, hz_23S, hz_23n⟩ := hq
          rw [hM9] at hw
          show W p l e R s m args below meth c H locs _ _ _ (F0 m 67 ls [.int (iN (z_23))])
          refine lv_istore (lv' := [(4, .int (iN (z_23))), (3, .int (iN (z_21))), (0, .ref a), (1, .ref i), (2, .ref qk_3)]) hC.1 hC.2.1 dX5_isTrue_67 hl (by decide) rfl (fun ls hl => ?_)
          refine lv_goto (tgt := 22) hC.1 hC.2.1 dX5_isTrue_69 (by decide) ?_
          exact ih22 z_21 z_23 (d + 1)  _ _ _ (by first | exact mu_s hmz22 (by omega) | omega) (by omega) (by omega) (by omega) (jtQ.next hz_21n hz_23n (by omega)) (hz_23S) (fun q9 => by have h8 := mAb_lt (W := mW O (whT ti.b)) (hz_23S q9).1 (by omega) (nrF_lt hz_23n q9); have h9 := hmu (by omega); omega) hw (lv_sub hl [2, 3, 4, 1, 0] rfl)
        · refine x_const hC dX5_isTrue_49 ?_
          exact x_zret hC hw (by omega) dX5_isTrue_50 (by first | decide | omega) (by first | decide | omega) ⟨0, rfl, hxk_3, (by have e9 := hjt.eq holi (by omega) hz_17w (by omega); omega)⟩
      · refine lv_goto (tgt := 59) hC.1 hC.2.1 dX5_isTrue_40 (by decide) ?_
        refine lv_aload_n hC.1 hC.2.1 dX5_isTrue_59 rfl (lv_at hl 0 rfl) ?_
        refine lv_aload_n hC.1 hC.2.1 dX5_isTrue_60 rfl (lv_at hl 2 rfl) ?_
        refine lv_iload hC.1 hC.2.1 dX5_isTrue_61 (lv_at hl 4 rfl) ?_
        refine x_const hC dX5_isTrue_63 ?_
        refine x_callV hC hw (lv_size hl) (c_X5_nearOf l G h_4 hIk_3 (p0 := key) (by omega) (p1 := 3) (by omega) (by omega)) gX5_isTrue_X5_nearOf rfl dv_X5_nearOf h_4.1.1 rfl rfl (Nat.le_of_ble_eq_true rfl) (by rw [hRf]; decide) (by rw [hRl]; decide) (by first | (rw [hRc]; decide) | omega) (by first | (rw [hRs]; decide) | omega) dX5_isTrue_64 (fun r9 M_24 H locs hq hw => ?_)
        obtain ⟨z_25, rfl, hM9, hz_25a, hz_25S, hz_25n⟩ := hq
        rw [hM9] at hw
        show W p l e R s m args below meth c H locs _ _ _ (F0 m 67 ls [.int (iN (z_25))])
        refine lv_istore (lv' := [(4, .int (iN (z_25))), (0, .ref a), (1, .ref i), (2, .ref qk_3), (3, .int (iN (due)))]) hC.1 hC.2.1 dX5_isTrue_67 hl (by decide) rfl (fun ls hl => ?_)
        refine lv_goto (tgt := 22) hC.1 hC.2.1 dX5_isTrue_69 (by decide) ?_
        exact ih22 due z_25 (d + 1)  _ _ _ (by first | exact mu_s hmz22 (by omega) | omega) (by omega) (by omega) (by omega) (hjt.skip holi (by omega) hz_17w (by omega) hz_25n) (hz_25S) (fun q9 => by have h8 := mAb_lt (W := mW O (whT ti.b)) (hz_25S q9).1 (by omega) (nrF_lt hz_25n q9); have h9 := hmu (by omega); omega) hw (lv_sub hl [1, 2, 3, 4, 0] rfl)
set_option maxHeartbeats 4000000 in
set_option maxRecDepth 100000 in
theorem c_X5_isWhole (l : Launch) (G : xG) {M : HM} {a va oa wa ya : Nat} {wk : Option Nat} {th : Int} {rfd : Int32} {br re la ha : Int} {kp kv : Int32} {qv qw : Nat → Nat} {fa fb : Nat → Option Nat} {V : BW} {O : OW} {fy : Nat → Option Nat} {Wv : VW} {wt : Option VT} {S : Nat → Bool} (hR : MGx G M a va oa wa ya wk th rfd br re la ha kp kv qv qw fa fb V O fy Wv wt S) : xMet l G yX5_isWhole wsX5_isWhole 6 141 325 1625 [.ref a] M (fun r M1 => ∃ z : Int, r = some (.int (iN z)) ∧ xExt M M1 ∧ z = 1) := by
  refine x_intro (cc := cX5_isWhole) (maxL := 6) (ret := (some .boolean)) (by exact pln_RX5) rfl (Nat.le_of_ble_eq_true rfl) ?_
  intro p e R s m args below meth c ls hRf hRc hRs hRl hC hw hl
  have hsc0 := hR.sc.1
  have hinX5 : ∀ w ∈ wsX50, w ∈ wsX5_isWhole := fun w h => (List.mem_cons_of_mem _ (List.mem_append_right _ h))
  have hl : lv_has ls 6 [(0, .ref a)] := hl
  refine lv_aload_n hC.1 hC.2.1 dX5_isWhole_0 rfl (lv_at hl 0 rfl) ?_
  refine x_get hC hw hR.1.1 rfl hinX5 5 (by decide) (List.mem_cons_of_mem _ (List.mem_append_left _ (List.mem_append_left _ (List.mem_of_getElem? (i := 0) rfl)))) rfl dX5_isWhole_1 ?_
  refine lv_astore_n (lv' := [(1, .ref ya), (0, .ref a)]) hC.1 hC.2.1 dX5_isWhole_4 rfl hl (by decide) rfl (fun ls hl => ?_)
  refine lv_aload_n hC.1 hC.2.1 dX5_isWhole_5 rfl (lv_at hl 0 rfl) ?_
  refine x_alen hC hw 4 hR.1.2.2.2.2.1 rfl dX5_isWhole_6 ?_
  refine lv_istore_n (lv' := [(2, .int (iN (4))), (1, .ref ya), (0, .ref a)]) hC.1 hC.2.1 dX5_isWhole_7 rfl hl (by decide) rfl (fun ls hl => ?_)
  refine x_const hC dX5_isWhole_8 ?_
  refine lv_istore_n (lv' := [(3, .int (iN (0))), (2, .int (iN (4))), (1, .ref ya), (0, .ref a)]) hC.1 hC.2.1 dX5_isWhole_9 rfl hl (by decide) rfl (fun ls hl => ?_)
  suffices hloop10 : ∀ (n9 : Nat) (j : Int) (cu10 : Nat) (su10 : Nat) (Ma : HM) (hxa : xExt M Ma) (H : Heap) (locs : List Loc) (ls : Array Slot), (hmz10 : (4 - j).toNat < n9) → (hi0 : 0 ≤ j ∧ j ≤ 4) → (hcu10 : (cu10 : Int) ≤ j) → (hsu10 : (su10 : Int) ≤ 5 * j) → xD G (xA M s.heap.size) s Ma H locs → lv_has ls 6 [(0, .ref a), (1, .ref ya), (2, .int (iN (4))), (3, .int (iN (j)))] → W p l e R s m args below meth c H locs cu10 su10 _ (F0 m 10 ls []) by
    exact hloop10 _ 0 0 0 _ xExt.rf _ _ _ (Nat.lt_succ_self _) (by omega) (by omega) (by omega) hw (lv_sub hl [3, 2, 1, 0] rfl)
  intro n9
  induction n9 with
  | zero => intro j cu10 su10 Ma hxa H locs ls hmz; exact absurd hmz (Nat.not_lt_zero _)
  | succ n9 ih10 =>
    intro j cu10 su10 Ma hxa H locs ls hmz10 hi0 hcu10 hsu10 hw hl
    have h_1 := hR.ext hxa
    refine lv_iload_n hC.1 hC.2.1 dX5_isWhole_10 rfl (lv_at hl 3 rfl) ?_
    refine lv_iload_n hC.1 hC.2.1 dX5_isWhole_11 rfl (lv_at hl 2 rfl) ?_
    refine x_icmp_ge (tgt := 42) hC ⟨by omega, by omega⟩ ⟨by omega, by omega⟩ dX5_isWhole_12 (by decide) (fun c_2 => ?_) (fun c_2 => ?_)
    · refine x_const hC dX5_isWhole_42 ?_
      refine lv_istore_n (lv' := [(1, .int (iN (0))), (0, .ref a), (2, .int (iN (4))), (3, .int (iN (j)))]) hC.1 hC.2.1 dX5_isWhole_43 rfl hl (by decide) rfl (fun ls hl => ?_)
      suffices hloop44 : ∀ (n9 : Nat) (b : Int) (cu44 : Nat) (su44 : Nat) (Mb : HM) (hxb : xExt Ma Mb) (H : Heap) (locs : List Loc) (ls : Array Slot), (hmz44 : (3 - b).toNat < n9) → (hib : 0 ≤ b ∧ b ≤ 3) → (hcu44 : (cu44 : Int) ≤ 4 + 107 * b) → (hsu44 : (su44 : Int) ≤ 20 + 535 * b) → xD G (xA M s.heap.size) s Mb H locs → lv_has ls 6 [(0, .ref a), (1, .int (iN (b)))] → W p l e R s m args below meth c H locs cu44 su44 _ (F0 m 44 ls []) by
        exact hloop44 _ 0 cu10 su10 _ xExt.rf _ _ _ (Nat.lt_succ_self _) (by omega) (by omega) (by omega) hw (lv_sub hl [1, 0] rfl)
      intro n9
      induction n9 with
      | zero => intro b cu44 su44 Mb hxb H locs ls hmz; exact absurd hmz (Nat.not_lt_zero _)
      | succ n9 ih44 =>
        intro b cu44 su44 Mb hxb H locs ls hmz44 hib hcu44 hsu44 hw hl
        have h_3 := h_1.ext hxb
        refine lv_iload_n hC.1 hC.2.1 dX5_isWhole_44 rfl (lv_at hl 1 rfl) ?_
        refine x_const hC dX5_isWhole_45 ?_
        refine x_icmp_ge (tgt := 212) hC ⟨by omega, by omega⟩ ⟨by omega, by omega⟩ dX5_isWhole_46 (by decide) (fun c_4 => ?_) (fun c_4 => ?_)
        · refine x_const hC dX5_isWhole_212 ?_
          exact x_zret hC hw (by omega) dX5_isWhole_213 (by first | decide | omega) (by first | decide | omega) ⟨1, rfl, (xExt.tr hxa hxb), rfl⟩
        · refine lv_iload_n hC.1 hC.2.1 dX5_isWhole_49 rfl (lv_at hl 1 rfl) ?_
          refine x_callS hC hw (lv_size hl) (c_X5_whole l G (M := Mb) (p0 := b) (by omega) (by omega)) gX5_isWhole_X5_whole rfl dv_X5_whole_s rfl (Nat.le_of_ble_eq_true rfl) (by rw [hRf]; decide) (by rw [hRl]; decide) (by first | (rw [hRc]; decide) | omega) (by first | (rw [hRs]; decide) | omega) dX5_isWhole_50 (fun r9 M_5 H locs hq hw => ?_)
          obtain ⟨qk_6, fk_6, rfl, hxk_6, hIk_6⟩ := hq
          have h_7 := h_3.ext hxk_6
          obtain ⟨htat_8, htbt_8, htct_8, htdt_8, htet_8⟩ := id hIk_6.2.1
          have holk_6 := h_7.or' hIk_6.2.1.1
          show W p l e R s m args below meth c H locs _ _ _ (F0 m 53 ls [.ref qk_6])
          refine lv_astore_n (lv' := [(2, .ref qk_6), (0, .ref a), (1, .int (iN (b)))]) hC.1 hC.2.1 dX5_isWhole_53 rfl hl (by decide) rfl (fun ls hl => ?_)
          refine x_sipush hC dX5_isWhole_54 (by decide +kernel) ?_
          refine lv_istore_n (lv' := [(3, .int (iN ((-10000)))), (2, .ref qk_6), (0, .ref a), (1, .int (iN (b)))]) hC.1 hC.2.1 dX5_isWhole_57 rfl hl (by decide) rfl (fun ls hl => ?_)
          refine x_const hC dX5_isWhole_58 ?_
          refine lv_istore (lv' := [(4, .int (iN (0))), (3, .int (iN ((-10000)))), (2, .ref qk_6), (0, .ref a), (1, .int (iN (b)))]) hC.1 hC.2.1 dX5_isWhole_59 hl (by decide) rfl (fun ls hl => ?_)
          refine lv_aload_n hC.1 hC.2.1 dX5_isWhole_61 rfl (lv_at hl 3 rfl) ?_
          refine lv_aload_n hC.1 hC.2.1 dX5_isWhole_62 rfl (lv_at hl 2 rfl) ?_
          refine x_const hC dX5_isWhole_63 ?_
          refine x_callV hC hw (lv_size hl) (c_X5_end l G h_7 hIk_6 (p0 := 0) (by omega)) gX5_isWhole_X5_end rfl dv_X5_end h_7.1.1 rfl rfl (Nat.le_of_ble_eq_true rfl) (by rw [hRf]; decide) (by rw [hRl]; decide) (by first | (rw [hRc]; decide) | omega) (by first | (rw [hRs]; decide) | omega) dX5_isWhole_64 (fun r9 M_9 H locs hq hw => ?_)
          obtain ⟨z_10, rfl, hM9, hz_10a, hz_10S, hz_10e⟩ := hq
          rw [hM9] at hw
          show W p l e R s m args below meth c H locs _ _ _ (F0 m 67 ls [.int (iN (z_10))])
          refine lv_istore (lv' := [(5, .int (iN (z_10))), (4, .int (iN (0))), (3, .int (iN ((-10000)))), (2, .ref qk_6), (0, .ref a), (1, .int (iN (b)))]) hC.1 hC.2.1 dX5_isWhole_67 hl (by decide) rfl (fun ls hl => ?_)
          suffices hloop69 : ∀ (n9 : Nat) (was : Int) (d : Int) (key : Int) (cu69 : Nat) (su69 : Nat) (Mc : HM) (hxc : xExt M_5 Mc) (H : Heap) (locs : List Loc) (ls : Array Slot), (hmz69 : (101 - d).toNat < n9) → (hi0 : 0 ≤ d ∧ d ≤ 100) → (hi1 : was = -10000 ∨ (0 ≤ was ∧ was ≤ 99)) → (hkr : key = -10000 ∨ (0 ≤ key ∧ key ≤ 99)) → (hjw : jwQ O V (b).toNat was d key) → (hky : key ≠ -10000 → mP S V (whT ((b).toNat)) key.toNat) → (hmu : key ≠ -10000 → d + (mAb S (mW O (whT ((b).toNat))) (mW O (whT ((b).toNat)) key.toNat) : Int) + 1 ≤ 100) → (hcu69 : (cu69 : Int) ≤ cu44 + 1 + d) → (hsu69 : (su69 : Int) ≤ su44 + 5 + 5 * d) → xD G (xA M s.heap.size) s Mc H locs → lv_has ls 6 [(0, .ref a), (1, .int (iN (b))), (2, .ref qk_6), (3, .int (iN (was))), (4, .int (iN (d))), (5, .int (iN (key)))] → W p l e R s m args below meth c H locs cu69 su69 _ (F0 m 69 ls []) by
            exact hloop69 _ (-10000) 0 z_10 (cu44 + 1 + 0) (su44 + 5 + 0) _ xExt.rf _ _ _ (Nat.lt_succ_self _) (by omega) (by omega) (by omega) (jwQ.init hz_10e) (hz_10S) (fun q9 => by have h8 := mAb_le (W := mW O (whT ((b).toNat))) (hz_10S q9).1 (by omega); have h9 := mC_le S 100; omega) (by omega) (by omega) hw (lv_sub hl [4, 5, 3, 2, 1, 0] rfl)
          intro n9
          induction n9 with
          | zero => intro was d key cu69 su69 Mc hxc H locs ls hmz; exact absurd hmz (Nat.not_lt_zero _)
          | succ n9 ih69 =>
            intro was d key cu69 su69 Mc hxc H locs ls hmz69 hi0 hi1 hkr hjw hky hmu hcu69 hsu69 hw hl
            have h_11 := h_7.ext hxc
            have h_12 := hIk_6.x5 (xExt.x5 hxc)
            have hL_13 : -10000 ≤ was ∧ was ≤ 99 := by (rcases hi1 with h9 | h9 <;> omega)
            have hL_14 : -10000 ≤ key ∧ key ≤ 99 := by (rcases hkr with h9 | h9 <;> omega)
            refine lv_iload hC.1 hC.2.1 dX5_isWhole_69 (lv_at hl 5 rfl) ?_
            refine x_sipush hC dX5_isWhole_71 (by decide +kernel) ?_
            refine x_icmp_eq (tgt := 145) hC ⟨by omega, by omega⟩ ⟨by omega, by omega⟩ dX5_isWhole_74 (by decide) (fun c_15 => ?_) (fun c_15 => ?_)
            · refine x_const hC dX5_isWhole_145 ?_
              refine lv_istore (lv' := [(5, .int (iN (0))), (0, .ref a), (1, .int (iN (b))), (2, .ref qk_6), (3, .int (iN (was))), (4, .int (iN (d)))]) hC.1 hC.2.1 dX5_isWhole_146 hl (by decide) rfl (fun ls hl => ?_)
              suffices hloop148 : ∀ (n9 : Nat) (o : Int) (cu148 : Nat) (su148 : Nat) (Me : HM) (hxe : xExt Mc Me) (H : Heap) (locs : List Loc) (ls : Array Slot), (hmz148 : (3 - o).toNat < n9) → (hio : 0 ≤ o ∧ o ≤ 3) → (hcu148 : (cu148 : Int) ≤ cu44 + 101 + 2 * o) → (hsu148 : (su148 : Int) ≤ su44 + 505 + 10 * o) → xD G (xA M s.heap.size) s Me H locs → lv_has ls 6 [(0, .ref a), (1, .int (iN (b))), (2, .ref qk_6), (5, .int (iN (o)))] → W p l e R s m args below meth c H locs cu148 su148 _ (F0 m 148 ls []) by
                exact hloop148 _ 0 cu69 su69 _ xExt.rf _ _ _ (Nat.lt_succ_self _) (by omega) (by omega) (by omega) hw (lv_sub hl [1, 2, 3, 0] rfl)
              intro n9
              induction n9 with
              | zero => intro o cu148 su148 Me hxe H locs ls hmz; exact absurd hmz (Nat.not_lt_zero _)
              | succ n9 ih148 =>
                intro o cu148 su148 Me hxe H locs ls hmz148 hio hcu148 hsu148 hw hl
                have h_16 := h_11.ext hxe
                have h_17 := h_12.x5 (xExt.x5 hxe)
                refine lv_iload hC.1 hC.2.1 dX5_isWhole_148 (lv_at hl 3 rfl) ?_
                refine x_const hC dX5_isWhole_150 ?_
                refine x_icmp_ge (tgt := 206) hC ⟨by omega, by omega⟩ ⟨by omega, by omega⟩ dX5_isWhole_151 (by decide) (fun c_18 => ?_) (fun c_18 => ?_)
                · refine x_iinc (lv' := [(1, .int (iN (b + 1))), (0, .ref a), (2, .ref qk_6), (5, .int (iN (o)))]) hC dX5_isWhole_206 hl (k := 1) rfl (by decide) rfl (fun ls hl => ?_)
                  refine lv_goto (tgt := 44) hC.1 hC.2.1 dX5_isWhole_209 (by decide) ?_
                  exact ih44 (b + 1) cu148 su148 _ ((xExt.tr (xExt.tr (xExt.tr hxb hxk_6) hxc) hxe)) _ _ _ (by first | exact mu_s hmz44 (by omega) | omega) (by omega) (by omega) (by omega) hw (lv_sub hl [1, 0] rfl)
                · refine lv_aload_n hC.1 hC.2.1 dX5_isWhole_154 rfl (lv_at hl 0 rfl) ?_
                  refine lv_iload_n hC.1 hC.2.1 dX5_isWhole_155 rfl (lv_at hl 1 rfl) ?_
                  refine lv_iload hC.1 hC.2.1 dX5_isWhole_156 (lv_at hl 3 rfl) ?_
                  refine x_callV hC hw (lv_size hl) (c_X5_areSame l G h_16 (p0 := b) (by omega) (p1 := o) (by omega) (by omega) (by omega)) gX5_isWhole_X5_areSame rfl dv_X5_areSame h_16.1.1 rfl rfl (Nat.le_of_ble_eq_true rfl) (by rw [hRf]; decide) (by rw [hRl]; decide) (by first | (rw [hRc]; decide) | omega) (by first | (rw [hRs]; decide) | omega) dX5_isWhole_158 (fun r9 M_19 H locs hq hw => ?_)
                  obtain ⟨z_20, rfl, hM9, hz_20a, hz_20d⟩ := hq
                  rw [hM9] at hw
                  show W p l e R s m args below meth c H locs _ _ _ (F0 m 161 ls [.int (iN (z_20))])
                  refine x_if_eq (tgt := 200) hC ⟨by omega, by omega⟩ dX5_isWhole_161 (by decide) (fun c_21 => ?_) (fun c_21 => ?_)
                  · refine x_iinc (lv' := [(5, .int (iN (o + 1))), (0, .ref a), (1, .int (iN (b))), (2, .ref qk_6)]) hC dX5_isWhole_200 hl (k := 3) rfl (by decide) rfl (fun ls hl => ?_)
                    refine lv_goto (tgt := 148) hC.1 hC.2.1 dX5_isWhole_203 (by decide) ?_
                    exact ih148 (o + 1) (cu148 + 0) (su148 + 0) _ (hxe) _ _ _ (by first | exact mu_s hmz148 (by omega) | omega) (by omega) (by omega) (by omega) hw (lv_sub hl [1, 2, 3, 0] rfl)
                  · refine lv_aload_n hC.1 hC.2.1 dX5_isWhole_164 rfl (lv_at hl 0 rfl) ?_
                    refine lv_aload_n hC.1 hC.2.1 dX5_isWhole_165 rfl (lv_at hl 2 rfl) ?_
                    refine x_callV hC hw (lv_size hl) (c_X5_many l G h_16 h_17) gX5_isWhole_X5_many rfl dv_X5_many h_16.1.1 rfl rfl (Nat.le_of_ble_eq_true rfl) (by rw [hRf]; decide) (by rw [hRl]; decide) (by first | (rw [hRc]; decide) | omega) (by first | (rw [hRs]; decide) | omega) dX5_isWhole_166 (fun r9 M_22 H locs hq hw => ?_)
                    obtain ⟨z_23, rfl, hM9, hz_23a, hz_23m⟩ := hq
                    rw [hM9] at hw
                    show W p l e R s m args below meth c H locs _ _ _ (F0 m 169 ls [.int (iN (z_23))])
                    refine lv_aload_n hC.1 hC.2.1 dX5_isWhole_169 rfl (lv_at hl 0 rfl) ?_
                    refine lv_iload hC.1 hC.2.1 dX5_isWhole_170 (lv_at hl 3 rfl) ?_
                    refine x_callS hC hw (lv_size hl) (c_X5_whole l G (M := Me) (p0 := o) (by omega) (by omega)) gX5_isWhole_X5_whole rfl dv_X5_whole_s rfl (Nat.le_of_ble_eq_true rfl) (by rw [hRf]; decide) (by rw [hRl]; decide) (by first | (rw [hRc]; decide) | omega) (by first | (rw [hRs]; decide) | omega) dX5_isWhole_172 (fun r9 M_24 H locs hq hw => ?_)
                    obtain ⟨qk_25, fk_25, rfl, hxk_25, hIk_25⟩ := hq
                    have h_26 := h_16.ext hxk_25
                    have h_27 := h_17.x5 (xExt.x5 hxk_25)
                    obtain ⟨htat_28, htbt_28, htct_28, htdt_28, htet_28⟩ := id hIk_25.2.1
                    have holk_25 := h_26.or' hIk_25.2.1.1
                    show W p l e R s m args below meth c H locs _ _ _ (F0 m 175 ls [.ref qk_25, .ref a, .int (iN (z_23))])
                    refine x_callV hC hw (lv_size hl) (c_X5_many l G h_26 hIk_25) gX5_isWhole_X5_many rfl dv_X5_many h_26.1.1 rfl rfl (Nat.le_of_ble_eq_true rfl) (by rw [hRf]; decide) (by rw [hRl]; decide) (by first | (rw [hRc]; decide) | omega) (by first | (rw [hRs]; decide) | omega) dX5_isWhole_175 (fun r9 M_29 H locs hq hw => ?_)
                    obtain ⟨z_30, rfl, hM9, hz_30a, hz_30m⟩ := hq
                    rw [hM9] at hw
                    show W p l e R s m args below meth c H locs _ _ _ (F0 m 178 ls [.int (iN (z_30)), .int (iN (z_23))])
                    refine x_icmp_ne (tgt := 198) hC ⟨by omega, by omega⟩ ⟨by omega, by omega⟩ dX5_isWhole_178 (by decide) (fun c_31 => ?_) (fun c_31 => ?_)
                    · refine x_const hC dX5_isWhole_198 ?_
                      exact x_zret hC hw (by omega) dX5_isWhole_199 (by first | decide | omega) (by first | decide | omega) ⟨0, rfl, (xExt.tr (xExt.tr (xExt.tr (xExt.tr (xExt.tr hxa hxb) hxk_6) hxc) hxe) hxk_25), by first | (have e9 := same_mn (O := O) hz_20d (by omega); omega)⟩
                    · refine lv_aload_n hC.1 hC.2.1 dX5_isWhole_181 rfl (lv_at hl 0 rfl) ?_
                      refine lv_aload_n hC.1 hC.2.1 dX5_isWhole_182 rfl (lv_at hl 2 rfl) ?_
                      refine x_callV hC hw (lv_size hl) (c_X5_sum l G h_26 h_27) gX5_isWhole_X5_sum rfl dv_X5_sum h_26.1.1 rfl rfl (Nat.le_of_ble_eq_true rfl) (by rw [hRf]; decide) (by rw [hRl]; decide) (by first | (rw [hRc]; decide) | omega) (by first | (rw [hRs]; decide) | omega) dX5_isWhole_183 (fun r9 M_32 H locs hq hw => ?_)
                      obtain ⟨z_33, rfl, hM9, hz_33a, hz_33m⟩ := hq
                      rw [hM9] at hw
                      show W p l e R s m args below meth c H locs _ _ _ (F0 m 186 ls [.int (iN (z_33))])
                      refine lv_aload_n hC.1 hC.2.1 dX5_isWhole_186 rfl (lv_at hl 0 rfl) ?_
                      refine lv_iload hC.1 hC.2.1 dX5_isWhole_187 (lv_at hl 3 rfl) ?_
                      refine x_callS hC hw (lv_size hl) (c_X5_whole l G (M := M_24) (p0 := o) (by omega) (by omega)) gX5_isWhole_X5_whole rfl dv_X5_whole_s rfl (Nat.le_of_ble_eq_true rfl) (by rw [hRf]; decide) (by rw [hRl]; decide) (by first | (rw [hRc]; decide) | omega) (by first | (rw [hRs]; decide) | omega) dX5_isWhole_189 (fun r9 M_34 H locs hq hw => ?_)
                      obtain ⟨qk_35, fk_35, rfl, hxk_35, hIk_35⟩ := hq
                      have h_36 := h_26.ext hxk_35
                      have h_37 := h_27.x5 (xExt.x5 hxk_35)
                      have h_38 := hIk_25.x5 (xExt.x5 hxk_35)
                      obtain ⟨htat_39, htbt_39, htct_39, htdt_39, htet_39⟩ := id hIk_35.2.1
                      have holk_35 := h_36.or' hIk_35.2.1.1
                      show W p l e R s m args below meth c H locs _ _ _ (F0 m 192 ls [.ref qk_35, .ref a, .int (iN (z_33))])
                      refine x_callV hC hw (lv_size hl) (c_X5_sum l G h_36 hIk_35) gX5_isWhole_X5_sum rfl dv_X5_sum h_36.1.1 rfl rfl (Nat.le_of_ble_eq_true rfl) (by rw [hRf]; decide) (by rw [hRl]; decide) (by first | (rw [hRc]; decide) | omega) (by first | (rw [hRs]; decide) | omega) dX5_isWhole_192 (fun r9 M_40 H locs hq hw => ?_)
                      obtain ⟨z_41, rfl, hM9, hz_41a, hz_41m⟩ := hq
                      rw [hM9] at hw
                      show W p l e R s m args below meth c H locs _ _ _ (F0 m 195 ls [.int (iN (z_41)), .int (iN (z_33))])
                      refine x_icmp_eq (tgt := 200) hC ⟨by omega, by omega⟩ ⟨by omega, by omega⟩ dX5_isWhole_195 (by decide) (fun c_42 => ?_) (fun c_42 => ?_)
                      · refine x_iinc (lv' := [(5, .int (iN (o + 1))), (0, .ref a), (1, .int (iN (b))), (2, .ref qk_6)]) hC dX5_isWhole_200 hl (k := 3) rfl (by decide) rfl (fun ls hl => ?_)
                        refine lv_goto (tgt := 148) hC.1 hC.2.1 dX5_isWhole_203 (by decide) ?_
                        exact ih148 (o + 1) (cu148 + 0 + 0 + 1 + 0 + 0 + 1 + 0) (su148 + 0 + 0 + 5 + 0 + 0 + 5 + 0) _ ((xExt.tr (xExt.tr hxe hxk_25) hxk_35)) _ _ _ (by first | exact mu_s hmz148 (by omega) | omega) (by omega) (by omega) (by omega) hw (lv_sub hl [1, 2, 3, 0] rfl)
                      · refine x_const hC dX5_isWhole_198 ?_
                        exact x_zret hC hw (by omega) dX5_isWhole_199 (by first | decide | omega) (by first | decide | omega) ⟨0, rfl, (xExt.tr (xExt.tr (xExt.tr (xExt.tr (xExt.tr (xExt.tr hxa hxb) hxk_6) hxc) hxe) hxk_25) hxk_35), by first | (have e9 := same_mn (O := O) hz_20d (by omega); omega)⟩
            · have hK_43 : 0 ≤ key ∧ key ≤ 99 := hkr.resolve_left (by first | assumption | omega)
              have hm9 := hmu (by first | assumption | omega)
              refine lv_iload_n hC.1 hC.2.1 dX5_isWhole_77 rfl (lv_at hl 3 rfl) ?_
              refine x_sipush hC dX5_isWhole_78 (by decide +kernel) ?_
              refine x_icmp_eq (tgt := 100) hC ⟨by omega, by omega⟩ ⟨by omega, by omega⟩ dX5_isWhole_81 (by decide) (fun c_44 => ?_) (fun c_44 => ?_)
              · refine lv_aload_n hC.1 hC.2.1 dX5_isWhole_100 rfl (lv_at hl 0 rfl) ?_
                refine lv_aload_n hC.1 hC.2.1 dX5_isWhole_101 rfl (lv_at hl 2 rfl) ?_
                refine lv_iload hC.1 hC.2.1 dX5_isWhole_102 (lv_at hl 5 rfl) ?_
                refine x_const hC dX5_isWhole_104 ?_
                refine x_callV hC hw (lv_size hl) (c_X5_nearOf l G h_11 h_12 (p0 := key) (by omega) (p1 := 0) (by omega) (by omega)) gX5_isWhole_X5_nearOf rfl dv_X5_nearOf h_11.1.1 rfl rfl (Nat.le_of_ble_eq_true rfl) (by rw [hRf]; decide) (by rw [hRl]; decide) (by first | (rw [hRc]; decide) | omega) (by first | (rw [hRs]; decide) | omega) dX5_isWhole_105 (fun r9 M_45 H locs hq hw => ?_)
                obtain ⟨z_46, rfl, hM9, hz_46a, hz_46S, hz_46n⟩ := hq
                rw [hM9] at hw
                show W p l e R s m args below meth c H locs _ _ _ (F0 m 108 ls [.int (iN (z_46))])
                refine lv_iload_n hC.1 hC.2.1 dX5_isWhole_108 rfl (lv_at hl 3 rfl) ?_
                refine x_icmp_ne (tgt := 124) hC ⟨by omega, by omega⟩ ⟨by omega, by omega⟩ dX5_isWhole_109 (by decide) (fun c_47 => ?_) (fun c_47 => ?_)
                · refine x_const hC dX5_isWhole_124 ?_
                  exact x_zret hC hw (by omega) dX5_isWhole_125 (by first | decide | omega) (by first | decide | omega) ⟨0, rfl, (xExt.tr (xExt.tr (xExt.tr hxa hxb) hxk_6) hxc), by first | (have e9 := hjw.near (hR.or' (show (b).toNat < 3 from tn_lt (by omega) (by decide))) (by omega) hz_46n; omega)⟩
                · refine lv_aload_n hC.1 hC.2.1 dX5_isWhole_112 rfl (lv_at hl 0 rfl) ?_
                  refine lv_iload_n hC.1 hC.2.1 dX5_isWhole_113 rfl (lv_at hl 1 rfl) ?_
                  refine lv_iload hC.1 hC.2.1 dX5_isWhole_114 (lv_at hl 5 rfl) ?_
                  refine x_callV hC hw (lv_size hl) (c_X5_ahead l G h_11 (p0 := b) (by omega) (p1 := key) (by omega) (by omega) (by omega)) gX5_isWhole_X5_ahead rfl dv_X5_ahead h_11.1.1 rfl rfl (Nat.le_of_ble_eq_true rfl) (by rw [hRf]; decide) (by rw [hRl]; decide) (by first | (rw [hRc]; decide) | omega) (by first | (rw [hRs]; decide) | omega) dX5_isWhole_116 (fun r9 M_48 H locs hq hw => ?_)
                  obtain ⟨z_49, rfl, hxz_49, hz_49a, hz_49h⟩ := hq
                  have h_50 := h_11.ext hxz_49
                  have h_51 := h_12.x5 (xExt.x5 hxz_49)
                  show W p l e R s m args below meth c H locs _ _ _ (F0 m 119 ls [.int (iN (z_49))])
                  refine lv_iload hC.1 hC.2.1 dX5_isWhole_119 (lv_at hl 4 rfl) ?_
                  refine x_icmp_eq (tgt := 126) hC ⟨by omega, by omega⟩ ⟨by omega, by omega⟩ dX5_isWhole_121 (by decide) (fun c_52 => ?_) (fun c_52 => ?_)
                  · refine lv_iload hC.1 hC.2.1 dX5_isWhole_126 (lv_at hl 5 rfl) ?_
                    refine lv_istore_n (lv' := [(3, .int (iN (key))), (0, .ref a), (1, .int (iN (b))), (2, .ref qk_6), (4, .int (iN (d))), (5, .int (iN (key)))]) hC.1 hC.2.1 dX5_isWhole_128 rfl hl (by decide) rfl (fun ls hl => ?_)
                    refine x_iinc (lv' := [(4, .int (iN (d + 1))), (3, .int (iN (key))), (0, .ref a), (1, .int (iN (b))), (2, .ref qk_6), (5, .int (iN (key)))]) hC dX5_isWhole_129 hl (k := 4) rfl (by decide) rfl (fun ls hl => ?_)
                    refine lv_aload_n hC.1 hC.2.1 dX5_isWhole_132 rfl (lv_at hl 2 rfl) ?_
                    refine lv_aload_n hC.1 hC.2.1 dX5_isWhole_133 rfl (lv_at hl 4 rfl) ?_
                    refine lv_iload hC.1 hC.2.1 dX5_isWhole_134 (lv_at hl 5 rfl) ?_
                    refine x_const hC dX5_isWhole_136 ?_
                    refine x_callV hC hw (lv_size hl) (c_X5_nearOf l G h_50 h_51 (p0 := key) (by omega) (p1 := 3) (by omega) (by omega)) gX5_isWhole_X5_nearOf rfl dv_X5_nearOf h_50.1.1 rfl rfl (Nat.le_of_ble_eq_true rfl) (by rw [hRf]; decide) (by rw [hRl]; decide) (by first | (rw [hRc]; decide) | omega) (by first | (rw [hRs]; decide) | omega) dX5_isWhole_137 (fun r9 M_53 H locs hq hw => ?_)
                    obtain ⟨z_54, rfl, hM9, hz_54a, hz_54S, hz_54n⟩ := hq
                    rw [hM9] at hw
                    show W p l e R s m args below meth c H locs _ _ _ (F0 m 140 ls [.int (iN (z_54))])
                    refine lv_istore (lv' := [(5, .int (iN (z_54))), (4, .int (iN (d + 1))), (3, .int (iN (key))), (0, .ref a), (1, .int (iN (b))), (2, .ref qk_6)]) hC.1 hC.2.1 dX5_isWhole_140 hl (by decide) rfl (fun ls hl => ?_)
                    refine lv_goto (tgt := 69) hC.1 hC.2.1 dX5_isWhole_142 (by decide) ?_
                    exact ih69 key (d + 1) z_54 (cu69 + 0 + 1 + 0) (su69 + 0 + 5 + 0) _ ((xExt.tr hxc hxz_49)) _ _ _ (by first | exact mu_s hmz69 (by omega) | omega) (by omega) (by omega) (by omega) (hjw.next (hR.or' (show (b).toNat < 3 from tn_lt (by omega) (by decide))) (by omega) hz_54n) (hz_54S) (fun q9 => by have h8 := mAb_lt (W := mW O (whT ((b).toNat))) (hz_54S q9).1 (by omega) (nrF_lt hz_54n q9); have h9 := hmu (by omega); omega) (by omega) (by omega) hw (lv_sub hl [3, 4, 5, 2, 1, 0] rfl)
                  · refine x_const hC dX5_isWhole_124 ?_
                    exact x_zret hC hw (by omega) dX5_isWhole_125 (by first | decide | omega) (by first | decide | omega) ⟨0, rfl, (xExt.tr (xExt.tr (xExt.tr (xExt.tr hxa hxb) hxk_6) hxc) hxz_49), by first | (have e9 := hjw.ahead (by omega) hz_49h; omega)⟩
              · refine lv_aload_n hC.1 hC.2.1 dX5_isWhole_84 rfl (lv_at hl 0 rfl) ?_
                refine lv_aload_n hC.1 hC.2.1 dX5_isWhole_85 rfl (lv_at hl 2 rfl) ?_
                refine lv_iload_n hC.1 hC.2.1 dX5_isWhole_86 rfl (lv_at hl 3 rfl) ?_
                refine x_callV hC hw (lv_size hl) (c_X5_weight l G h_11 h_12 (p0 := was) (by omega) (by omega)) gX5_isWhole_X5_weight rfl dv_X5_weight h_11.1.1 rfl rfl (Nat.le_of_ble_eq_true rfl) (by rw [hRf]; decide) (by rw [hRl]; decide) (by first | (rw [hRc]; decide) | omega) (by first | (rw [hRs]; decide) | omega) dX5_isWhole_87 (fun r9 M_55 H locs hq hw => ?_)
                obtain ⟨z_56, rfl, hM9, hz_56a, hz_56b⟩ := hq
                rw [hM9] at hw
                show W p l e R s m args below meth c H locs _ _ _ (F0 m 90 ls [.int (iN (z_56))])
                refine lv_aload_n hC.1 hC.2.1 dX5_isWhole_90 rfl (lv_at hl 0 rfl) ?_
                refine lv_aload_n hC.1 hC.2.1 dX5_isWhole_91 rfl (lv_at hl 2 rfl) ?_
                refine lv_iload hC.1 hC.2.1 dX5_isWhole_92 (lv_at hl 5 rfl) ?_
                refine x_callV hC hw (lv_size hl) (c_X5_weight l G h_11 h_12 (p0 := key) (by omega) (by omega)) gX5_isWhole_X5_weight rfl dv_X5_weight h_11.1.1 rfl rfl (Nat.le_of_ble_eq_true rfl) (by rw [hRf]; decide) (by rw [hRl]; decide) (by first | (rw [hRc]; decide) | omega) (by first | (rw [hRs]; decide) | omega) dX5_isWhole_94 (fun r9 M_57 H locs hq hw => ?_)
                obtain ⟨z_58, rfl, hM9, hz_58a, hz_58b⟩ := hq
                rw [hM9] at hw
                show W p l e R s m args below meth c H locs _ _ _ (F0 m 97 ls [.int (iN (z_58)), .int (iN (z_56))])
                refine x_icmp_ge (tgt := 124) hC ⟨by omega, by omega⟩ ⟨by omega, by omega⟩ dX5_isWhole_97 (by decide) (fun c_59 => ?_) (fun c_59 => ?_)
                · refine x_const hC dX5_isWhole_124 ?_
                  exact x_zret hC hw (by omega) dX5_isWhole_125 (by first | decide | omega) (by first | decide | omega) ⟨0, rfl, (xExt.tr (xExt.tr (xExt.tr hxa hxb) hxk_6) hxc), by first | (have e9 := hjw.lt (by omega) (by omega); have e8 : z_56 = ((mwN (O (b).toNat) (was).toNat : Nat) : Int) := hz_56b; have e7 : z_58 = ((mwN (O (b).toNat) (key).toNat : Nat) : Int) := hz_58b; omega)⟩
                · refine lv_aload_n hC.1 hC.2.1 dX5_isWhole_100 rfl (lv_at hl 0 rfl) ?_
                  refine lv_aload_n hC.1 hC.2.1 dX5_isWhole_101 rfl (lv_at hl 2 rfl) ?_
                  refine lv_iload hC.1 hC.2.1 dX5_isWhole_102 (lv_at hl 5 rfl) ?_
                  refine x_const hC dX5_isWhole_104 ?_
                  refine x_callV hC hw (lv_size hl) (c_X5_nearOf l G h_11 h_12 (p0 := key) (by omega) (p1 := 0) (by omega) (by omega)) gX5_isWhole_X5_nearOf rfl dv_X5_nearOf h_11.1.1 rfl rfl (Nat.le_of_ble_eq_true rfl) (by rw [hRf]; decide) (by rw [hRl]; decide) (by first | (rw [hRc]; decide) | omega) (by first | (rw [hRs]; decide) | omega) dX5_isWhole_105 (fun r9 M_60 H locs hq hw => ?_)
                  obtain ⟨z_61, rfl, hM9, hz_61a, hz_61S, hz_61n⟩ := hq
                  rw [hM9] at hw
                  show W p l e R s m args below meth c H locs _ _ _ (F0 m 108 ls [.int (iN (z_61))])
                  refine lv_iload_n hC.1 hC.2.1 dX5_isWhole_108 rfl (lv_at hl 3 rfl) ?_
                  refine x_icmp_ne (tgt := 124) hC ⟨by omega, by omega⟩ ⟨by omega, by omega⟩ dX5_isWhole_109 (by decide) (fun c_62 => ?_) (fun c_62 => ?_)
                  · refine x_const hC dX5_isWhole_124 ?_
                    exact x_zret hC hw (by omega) dX5_isWhole_125 (by first | decide | omega) (by first | decide | omega) ⟨0, rfl, (xExt.tr (xExt.tr (xExt.tr hxa hxb) hxk_6) hxc), by first | (have e9 := hjw.near (hR.or' (show (b).toNat < 3 from tn_lt (by omega) (by decide))) (by omega) hz_61n; omega)⟩
                  · refine lv_aload_n hC.1 hC.2.1 dX5_isWhole_112 rfl (lv_at hl 0 rfl) ?_
                    refine lv_iload_n hC.1 hC.2.1 dX5_isWhole_113 rfl (lv_at hl 1 rfl) ?_
                    refine lv_iload hC.1 hC.2.1 dX5_isWhole_114 (lv_at hl 5 rfl) ?_
                    refine x_callV hC hw (lv_size hl) (c_X5_ahead l G h_11 (p0 := b) (by omega) (p1 := key) (by omega) (by omega) (by omega)) gX5_isWhole_X5_ahead rfl dv_X5_ahead h_11.1.1 rfl rfl (Nat.le_of_ble_eq_true rfl) (by rw [hRf]; decide) (by rw [hRl]; decide) (by first | (rw [hRc]; decide) | omega) (by first | (rw [hRs]; decide) | omega) dX5_isWhole_116 (fun r9 M_63 H locs hq hw => ?_)
                    obtain ⟨z_64, rfl, hxz_64, hz_64a, hz_64h⟩ := hq
                    have h_65 := h_11.ext hxz_64
                    have h_66 := h_12.x5 (xExt.x5 hxz_64)
                    show W p l e R s m args below meth c H locs _ _ _ (F0 m 119 ls [.int (iN (z_64))])
                    refine lv_iload hC.1 hC.2.1 dX5_isWhole_119 (lv_at hl 4 rfl) ?_
                    refine x_icmp_eq (tgt := 126) hC ⟨by omega, by omega⟩ ⟨by omega, by omega⟩ dX5_isWhole_121 (by decide) (fun c_67 => ?_) (fun c_67 => ?_)
                    · refine lv_iload hC.1 hC.2.1 dX5_isWhole_126 (lv_at hl 5 rfl) ?_
                      refine lv_istore_n (lv' := [(3, .int (iN (key))), (0, .ref a), (1, .int (iN (b))), (2, .ref qk_6), (4, .int (iN (d))), (5, .int (iN (key)))]) hC.1 hC.2.1 dX5_isWhole_128 rfl hl (by decide) rfl (fun ls hl => ?_)
                      refine x_iinc (lv' := [(4, .int (iN (d + 1))), (3, .int (iN (key))), (0, .ref a), (1, .int (iN (b))), (2, .ref qk_6), (5, .int (iN (key)))]) hC dX5_isWhole_129 hl (k := 4) rfl (by decide) rfl (fun ls hl => ?_)
                      refine lv_aload_n hC.1 hC.2.1 dX5_isWhole_132 rfl (lv_at hl 2 rfl) ?_
                      refine lv_aload_n hC.1 hC.2.1 dX5_isWhole_133 rfl (lv_at hl 4 rfl) ?_
                      refine lv_iload hC.1 hC.2.1 dX5_isWhole_134 (lv_at hl 5 rfl) ?_
                      refine x_const hC dX5_isWhole_136 ?_
                      refine x_callV hC hw (lv_size hl) (c_X5_nearOf l G h_65 h_66 (p0 := key) (by omega) (p1 := 3) (by omega) (by omega)) gX5_isWhole_X5_nearOf rfl dv_X5_nearOf h_65.1.1 rfl rfl (Nat.le_of_ble_eq_true rfl) (by rw [hRf]; decide) (by rw [hRl]; decide) (by first | (rw [hRc]; decide) | omega) (by first | (rw [hRs]; decide) | omega) dX5_isWhole_137 (fun r9 M_68 H locs hq hw => ?_)
                      obtain ⟨z_69, rfl, hM9, hz_69a, hz_69S, hz_69n⟩ := hq
                      rw [hM9] at hw
                      show W p l e R s m args below meth c H locs _ _ _ (F0 m 140 ls [.int (iN (z_69))])
                      refine lv_istore (lv' := [(5, .int (iN (z_69))), (4, .int (iN (d + 1))), (3, .int (iN (key))), (0, .ref a), (1, .int (iN (b))), (2, .ref qk_6)]) hC.1 hC.2.1 dX5_isWhole_140 hl (by decide) rfl (fun ls hl => ?_)
                      refine lv_goto (tgt := 69) hC.1 hC.2.1 dX5_isWhole_142 (by decide) ?_
                      exact ih69 key (d + 1) z_69 (cu69 + 0 + 0 + 0 + 1 + 0) (su69 + 0 + 0 + 0 + 5 + 0) _ ((xExt.tr hxc hxz_64)) _ _ _ (by first | exact mu_s hmz69 (by omega) | omega) (by omega) (by omega) (by omega) (hjw.next (hR.or' (show (b).toNat < 3 from tn_lt (by omega) (by decide))) (by omega) hz_69n) (hz_69S) (fun q9 => by have h8 := mAb_lt (W := mW O (whT ((b).toNat))) (hz_69S q9).1 (by omega) (nrF_lt hz_69n q9); have h9 := hmu (by omega); omega) (by omega) (by omega) hw (lv_sub hl [3, 4, 5, 2, 1, 0] rfl)
                    · refine x_const hC dX5_isWhole_124 ?_
                      exact x_zret hC hw (by omega) dX5_isWhole_125 (by first | decide | omega) (by first | decide | omega) ⟨0, rfl, (xExt.tr (xExt.tr (xExt.tr (xExt.tr hxa hxb) hxk_6) hxc) hxz_64), by first | (have e9 := hjw.ahead (by omega) hz_64h; omega)⟩
    · refine lv_aload_n hC.1 hC.2.1 dX5_isWhole_15 rfl (lv_at hl 1 rfl) ?_
      refine lv_iload_n hC.1 hC.2.1 dX5_isWhole_16 rfl (lv_at hl 3 rfl) ?_
      refine x_ald4 hC hw h_1.1.2.2.2.2.1 (by omega) (by omega) (by omega) dX5_isWhole_17 ?_
      rcases hy_71 : fy ((j).toNat) with _ | y_70
      · have hnhy_71 : Wv ((j).toNat) = none := (h_1.vw (show (j).toNat < 4 from tn_lt (by omega) (by decide))).nil hy_71
        have hohy_71 := opN_none hnhy_71
        show W p l e R s m args below meth c _ _ _ _ _ (F0 m 18 ls [.null])
        refine lv_astoreN (lv' := [(4, .null), (0, .ref a), (1, .ref ya), (2, .int (iN (4))), (3, .int (iN (j)))]) hC.1 hC.2.1 dX5_isWhole_18 hl (by decide) rfl (fun ls hl => ?_)
        refine lv_aloadN hC.1 hC.2.1 dX5_isWhole_20 (lv_at hl 0 rfl) ?_
        refine lv_ifnullN (tgt := 36) hC.1 hC.2.1 dX5_isWhole_22 (by decide) ?_
        refine x_iinc (lv' := [(3, .int (iN (j + 1))), (4, .null), (0, .ref a), (1, .ref ya), (2, .int (iN (4)))]) hC dX5_isWhole_36 hl (k := 4) rfl (by decide) rfl (fun ls hl => ?_)
        refine lv_goto (tgt := 10) hC.1 hC.2.1 dX5_isWhole_39 (by decide) ?_
        exact ih10 (j + 1) cu10 su10 _ (hxa) _ _ _ (by first | exact mu_s hmz10 (by omega) | omega) (by omega) (by omega) (by omega) hw (lv_sub hl [2, 3, 4, 0] rfl)
      · obtain ⟨ti_72, fi_72, hui_72, hIi_72⟩ := (h_1.vw (show (j).toNat < 4 from tn_lt (by omega) (by decide))).yes hy_71
        obtain ⟨htat_73, htbt_73, htct_73, htdt_73, htet_73⟩ := id hIi_72.2.1
        have hohy_71 := opN_some hui_72
        show W p l e R s m args below meth c _ _ _ _ _ (F0 m 18 ls [.ref y_70])
        refine lv_astore (lv' := [(4, .ref y_70), (0, .ref a), (1, .ref ya), (2, .int (iN (4))), (3, .int (iN (j)))]) hC.1 hC.2.1 dX5_isWhole_18 hl (by decide) rfl (fun ls hl => ?_)
        refine lv_aload hC.1 hC.2.1 dX5_isWhole_20 (lv_at hl 0 rfl) ?_
        refine lv_ifnull hC.1 hC.2.1 dX5_isWhole_22 ?_
        refine lv_aload_n hC.1 hC.2.1 dX5_isWhole_25 rfl (lv_at hl 1 rfl) ?_
        refine lv_aload hC.1 hC.2.1 dX5_isWhole_26 (lv_at hl 0 rfl) ?_
        refine x_callV hC hw (lv_size hl) (c_X5_isTrue l G h_1 hIi_72) gX5_isWhole_X5_isTrue rfl dv_X5_isTrue h_1.1.1 rfl rfl (Nat.le_of_ble_eq_true rfl) (by rw [hRf]; decide) (by rw [hRl]; decide) (by first | (rw [hRc]; decide) | omega) (by first | (rw [hRs]; decide) | omega) dX5_isWhole_28 (fun r9 M_74 H locs hq hw => ?_)
        obtain ⟨z_75, rfl, hxz_75, hz_75a⟩ := hq
        have h_76 := h_1.ext hxz_75
        have h_77 := hIi_72.x5 (xExt.x5 hxz_75)
        show W p l e R s m args below meth c H locs _ _ _ (F0 m 31 ls [.int (iN (z_75))])
        refine x_if_ne (tgt := 36) hC ⟨by omega, by omega⟩ dX5_isWhole_31 (by decide) (fun c_78 => ?_) (fun c_78 => ?_)
        · refine x_iinc (lv' := [(3, .int (iN (j + 1))), (4, .ref y_70), (0, .ref a), (1, .ref ya), (2, .int (iN (4)))]) hC dX5_isWhole_36 hl (k := 4) rfl (by decide) rfl (fun ls hl => ?_)
          refine lv_goto (tgt := 10) hC.1 hC.2.1 dX5_isWhole_39 (by decide) ?_
          exact ih10 (j + 1) (cu10 + 1) (su10 + 5) _ ((xExt.tr hxa hxz_75)) _ _ _ (by first | exact mu_s hmz10 (by omega) | omega) (by omega) (by omega) (by omega) hw (lv_sub hl [2, 3, 4, 0] rfl)
        · refine x_const hC dX5_isWhole_34 ?_
          exact x_zret hC hw (by omega) dX5_isWhole_35 (by first | decide | omega) (by first | decide | omega) ⟨0, rfl, (xExt.tr hxa hxz_75), by first | omega⟩
set_option maxHeartbeats 4000000 in
set_option maxRecDepth 100000 in
theorem c_X5_isSound (l : Launch) (G : xG) {M : HM} {a va oa wa ya : Nat} {wk : Option Nat} {th : Int} {rfd : Int32} {br re la ha : Int} {kp kv : Int32} {qv qw : Nat → Nat} {fa fb : Nat → Option Nat} {V : BW} {O : OW} {fy : Nat → Option Nat} {Wv : VW} {wt : Option VT} {S : Nat → Bool} (hR : MGx G M a va oa wa ya wk th rfd br re la ha kp kv qv qw fa fb V O fy Wv wt S) {K : WA} (hK : abM O wt br re la ha K) : xMet l G yX5_isSound wsX5_isSound 7 166 325 1625 [.ref a] M (fun r M1 => ∃ z : Int, r = some (.int (iN z)) ∧ z = 1 ∧ MGm G M1 a S 0 (O, V, Wv, K, kp, kv, rfd)) := by
  refine x_intro (cc := cX5_isSound) (maxL := 1) (ret := (some .boolean)) (by exact pln_RX5) rfl (Nat.le_of_ble_eq_true rfl) ?_
  intro p e R s m args below meth c ls hRf hRc hRs hRl hC hw hl
  have hsc0 := hR.sc.1
  have hinX5 : ∀ w ∈ wsX50, w ∈ wsX5_isSound := fun w h => (List.mem_cons_of_mem _ (List.mem_append_right _ h))
  have hl : lv_has ls 1 [(0, .ref a)] := hl
  refine lv_aload_n hC.1 hC.2.1 dX5_isSound_0 rfl (lv_at hl 0 rfl) ?_
  refine x_const hC dX5_isSound_1 ?_
  refine x_put (fs2 := [.int (iN (0)), .int rfd, .ref va, .ref oa, .ref wa, .ref ya, va_rf (wk), .int (iN (br)), .int (iN (re)), .int (iN (la)), .int (iN (ha)), .int kp, .int kv]) hC hw hR.1.1 rfl hinX5 tyX5 tyX5_ok nmX5 0 (by decide) (List.mem_cons_of_mem _ (List.mem_append_left _ (List.mem_append_left _ (List.mem_of_getElem? (i := 0) rfl)))) rfl rfl rfl (Nat.le_of_ble_eq_true rfl) rfl dX5_isSound_2 (fun H locs hw => ?_)
  obtain ⟨M_1, hM_2⟩ : ∃ z, z = va_up M a (some (.inr (7, [.int (iN (0)), .int rfd, .ref va, .ref oa, .ref wa, .ref ya, va_rf (wk), .int (iN (br)), .int (iN (re)), .int (iN (la)), .int (iN (ha)), .int kp, .int kv]))) := ⟨_, rfl⟩
  rw [← hM_2] at hw
  have hR_3 : MGx G M_1 a va oa wa ya wk 0 rfd br re la ha kp kv qv qw fa fb V O fy Wv wt S := hR.obj hM_2 ⟨(by omega), hR.sc.2.1, hR.sc.2.2.1, hR.sc.2.2.2.1, hR.sc.2.2.2.2⟩ hR.wk'
  refine lv_aload_n hC.1 hC.2.1 dX5_isSound_5 rfl (lv_at hl 0 rfl) ?_
  refine x_callV hC hw (lv_size hl) (c_X5_isWhole l G hR_3) gX5_isSound_X5_isWhole rfl dv_X5_isWhole hR_3.1.1 rfl rfl (Nat.le_of_ble_eq_true rfl) (by rw [hRf]; decide) (by rw [hRl]; decide) (by first | (rw [hRc]; decide) | omega) (by first | (rw [hRs]; decide) | omega) dX5_isSound_6 (fun r9 M_4 H locs hq hw => ?_)
  obtain ⟨z_5, rfl, hxz_5, hz_5a⟩ := hq
  have h_6 := hR_3.ext hxz_5
  show W p l e R s m args below meth c H locs _ _ _ (F0 m 9 ls [.int (iN (z_5))])
  exact x_zret hC hw (by omega) dX5_isSound_9 (by first | decide | omega) (by first | decide | omega) ⟨z_5, rfl, by omega, MGm.of h_6 hK⟩
set_option maxHeartbeats 4000000 in
theorem c_X5_add (l : Launch) (G : xG) {M : HM} {l0 l1 : Int64} : xMet l G yX5_add wsX5_add 0 0 0 0 [.long l0, .long l1] M (fun r M1 => ∃ d : Int64, r = some (.long d) ∧ M1 = M) := by
  refine x_intro (cc := cX5_add) (maxL := 4) (ret := (some .long)) (by exact pln_RX5) rfl (Nat.le_of_ble_eq_true rfl) ?_
  intro p e R s m args below meth c ls hRf hRc hRs hRl hC hw hl
  have hl : lv_has ls 4 [(0, .long (l0)), (2, .long (l1))] := hl
  refine lv_lload_n hC.1 hC.2.1 dX5_add_0 rfl (lv_at hl 0 rfl) ?_
  refine lv_ldc2 (v := 31) hC.1 hC.2.1 hC.2.2.2.1 (hC.2.2.2.2.1 _ (by decide +kernel)) dX5_add_1 ?_
  refine lv_lmul hC.1 hC.2.1 dX5_add_4 ?_
  refine lv_topl (fun d_1 hd_1 => ?_)
  refine lv_lload_n hC.1 hC.2.1 dX5_add_5 rfl (lv_at hl 1 rfl) ?_
  refine lv_ladd hC.1 hC.2.1 dX5_add_6 ?_
  refine lv_topl (fun d_2 hd_2 => ?_)
  exact x_lret hC hw dX5_add_7 (by first | decide | omega) (by first | decide | omega) ⟨_, rfl, rfl⟩
set_option maxHeartbeats 4000000 in
set_option maxRecDepth 100000 in
theorem c_X5_digest (l : Launch) (G : xG) {M : HM} {a va oa wa ya : Nat} {wk : Option Nat} {th : Int} {rfd : Int32} {br re la ha : Int} {kp kv : Int32} {qv qw : Nat → Nat} {fa fb : Nat → Option Nat} {V : BW} {O : OW} {fy : Nat → Option Nat} {Wv : VW} {wt : Option VT} {S : Nat → Bool} (hR : MGx G M a va oa wa ya wk th rfd br re la ha kp kv qv qw fa fb V O fy Wv wt S) {K : WA} (hK : abM O wt br re la ha K) {Kn Tm : Nat} (hKn : mC S 100 ≤ Kn) (hT : (Kn = 60 ∧ Tm = 1800) ∨ (Kn = 80 ∧ Tm = 3210) ∨ (Kn = 100 ∧ Tm = 3410)) : xMet l G yX5_digest wsX5_digest 10 223 700 (4 * Tm + 1949) [.ref a] M (fun r M1 => ∃ d : Int64, r = some (.long d) ∧ MGm G M1 a S 0 (O, V, Wv, K, kp, kv, rfd)) := by
  refine x_intro (cc := cX5_digest) (maxL := 6) (ret := (some .long)) (by exact pln_RX5) rfl (Nat.le_of_ble_eq_true rfl) ?_
  intro p e R s m args below meth c ls hRf hRc hRs hRl hC hw hl
  have hsc0 := hR.sc.1
  have hKT9 : 60 ≤ Kn ∧ Kn ≤ 100 ∧ 1800 ≤ Tm ∧ Tm ≤ 3410 := by omega
  replace hT : id ((Kn = 60 ∧ Tm = 1800) ∨ (Kn = 80 ∧ Tm = 3210) ∨ (Kn = 100 ∧ Tm = 3410)) := hT
  have hinX5 : ∀ w ∈ wsX50, w ∈ wsX5_digest := fun w h => (List.mem_cons_of_mem _ (List.mem_append_left _ (List.mem_append_left _ (List.mem_append_right _ h))))
  have hl : lv_has ls 6 [(0, .ref a)] := hl
  refine lv_aload_n hC.1 hC.2.1 dX5_digest_0 rfl (lv_at hl 0 rfl) ?_
  refine x_const hC dX5_digest_1 ?_
  refine x_put (fs2 := [.int (iN (0)), .int rfd, .ref va, .ref oa, .ref wa, .ref ya, va_rf (wk), .int (iN (br)), .int (iN (re)), .int (iN (la)), .int (iN (ha)), .int kp, .int kv]) hC hw hR.1.1 rfl hinX5 tyX5 tyX5_ok nmX5 0 (by decide) (List.mem_cons_of_mem _ (List.mem_append_left _ (List.mem_append_left _ (List.mem_append_left _ (List.mem_append_left _ (List.mem_of_getElem? (i := 0) rfl)))))) rfl rfl rfl (Nat.le_of_ble_eq_true rfl) rfl dX5_digest_2 (fun H locs hw => ?_)
  obtain ⟨M_1, hM_2⟩ : ∃ z, z = va_up M a (some (.inr (7, [.int (iN (0)), .int rfd, .ref va, .ref oa, .ref wa, .ref ya, va_rf (wk), .int (iN (br)), .int (iN (re)), .int (iN (la)), .int (iN (ha)), .int kp, .int kv]))) := ⟨_, rfl⟩
  rw [← hM_2] at hw
  have hR_3 : MGx G M_1 a va oa wa ya wk 0 rfd br re la ha kp kv qv qw fa fb V O fy Wv wt S := hR.obj hM_2 ⟨(by omega), hR.sc.2.1, hR.sc.2.2.1, hR.sc.2.2.2.1, hR.sc.2.2.2.2⟩ hR.wk'
  refine lv_ldc2 (v := 6007) hC.1 hC.2.1 hC.2.2.2.1 (hC.2.2.2.2.1 _ (by decide +kernel)) dX5_digest_5 ?_
  refine lv_lstore_n (lv' := [(1, .long (6007)), (0, .ref a)]) hC.1 hC.2.1 dX5_digest_8 rfl hl (by decide) rfl (fun ls hl => ?_)
  refine x_const hC dX5_digest_9 ?_
  refine lv_istore_n (lv' := [(3, .int (iN (0))), (1, .long (6007)), (0, .ref a)]) hC.1 hC.2.1 dX5_digest_10 rfl hl (by decide) rfl (fun ls hl => ?_)
  suffices hloop11 : ∀ (n9 : Nat) (l9 : Int64) (j : Int) (cu11 : Nat) (su11 : Nat) (Ma : HM) (hxa : xExt M_1 Ma) (H : Heap) (locs : List Loc) (ls : Array Slot), (hmz11 : (7 - j).toNat < n9) → (hi0 : 0 ≤ j ∧ j ≤ 7) → (hcu11 : (cu11 : Int) ≤ j) → (hsu11 : (su11 : Int) ≤ 7 * j) → xD G (xA M s.heap.size) s Ma H locs → lv_has ls 6 [(0, .ref a), (1, .long (l9)), (3, .int (iN (j)))] → W p l e R s m args below meth c H locs cu11 su11 _ (F0 m 11 ls []) by
    exact hloop11 _ 6007 0 0 0 _ xExt.rf _ _ _ (Nat.lt_succ_self _) (by omega) (by omega) (by omega) hw (lv_sub hl [2, 1, 0] rfl)
  intro n9
  induction n9 with
  | zero => intro l9 j cu11 su11 Ma hxa H locs ls hmz; exact absurd hmz (Nat.not_lt_zero _)
  | succ n9 ih11 =>
    intro l9 j cu11 su11 Ma hxa H locs ls hmz11 hi0 hcu11 hsu11 hw hl
    have h_4 := hR_3.ext hxa
    refine lv_iload_n hC.1 hC.2.1 dX5_digest_11 rfl (lv_at hl 2 rfl) ?_
    refine x_bipush hC dX5_digest_12 (by decide +kernel) ?_
    refine x_icmp_ge (tgt := 34) hC ⟨by omega, by omega⟩ ⟨by omega, by omega⟩ dX5_digest_14 (by decide) (fun c_5 => ?_) (fun c_5 => ?_)
    · refine x_const hC dX5_digest_34 ?_
      refine lv_istore_n (lv' := [(3, .int (iN (0))), (0, .ref a), (1, .long (l9))]) hC.1 hC.2.1 dX5_digest_35 rfl hl (by decide) rfl (fun ls hl => ?_)
      suffices hloop36 : ∀ (n9 : Nat) (l9 : Int64) (b : Int) (cu36 : Nat) (su36 : Nat) (Mb : HM) (hxb : xExt Ma Mb) (H : Heap) (locs : List Loc) (ls : Array Slot), (hmz36 : (3 - b).toNat < n9) → (hib : 0 ≤ b ∧ b ≤ 3) → (hcu36 : (cu36 : Int) ≤ 7 + 18 * b) → (hsu36 : (su36 : Int) ≤ 49 + 90 * b) → xD G (xA M s.heap.size) s Mb H locs → lv_has ls 6 [(0, .ref a), (1, .long (l9)), (3, .int (iN (b)))] → W p l e R s m args below meth c H locs cu36 su36 _ (F0 m 36 ls []) by
        exact hloop36 _ l9 0 cu11 su11 _ xExt.rf _ _ _ (Nat.lt_succ_self _) (by omega) (by omega) (by omega) hw (lv_sub hl [1, 2, 0] rfl)
      intro n9
      induction n9 with
      | zero => intro l9 b cu36 su36 Mb hxb H locs ls hmz; exact absurd hmz (Nat.not_lt_zero _)
      | succ n9 ih36 =>
        intro l9 b cu36 su36 Mb hxb H locs ls hmz36 hib hcu36 hsu36 hw hl
        have h_6 := h_4.ext hxb
        refine lv_iload_n hC.1 hC.2.1 dX5_digest_36 rfl (lv_at hl 2 rfl) ?_
        refine x_const hC dX5_digest_37 ?_
        refine x_icmp_ge (tgt := 196) hC ⟨by omega, by omega⟩ ⟨by omega, by omega⟩ dX5_digest_38 (by decide) (fun c_7 => ?_) (fun c_7 => ?_)
        · refine x_const hC dX5_digest_196 ?_
          refine lv_istore_n (lv' := [(3, .int (iN (0))), (0, .ref a), (1, .long (l9))]) hC.1 hC.2.1 dX5_digest_197 rfl hl (by decide) rfl (fun ls hl => ?_)
          suffices hloop198 : ∀ (n9 : Nat) (l9 : Int64) (w : Int) (cu198 : Nat) (su198 : Nat) (Mv : HM) (hxv : xExt Mb Mv) (H : Heap) (locs : List Loc) (ls : Array Slot), (hmz198 : (4 - w).toNat < n9) → (hiw : 0 ≤ w ∧ w ≤ 4) → (hcu198 : (cu198 : Int) ≤ 61 + 12 * w) → (hsu198 : suQ Tm w su198) → xD G (xA M s.heap.size) s Mv H locs → lv_has ls 6 [(0, .ref a), (1, .long (l9)), (3, .int (iN (w)))] → W p l e R s m args below meth c H locs cu198 su198 _ (F0 m 198 ls []) by
            exact hloop198 _ l9 0 cu36 su36 _ xExt.rf _ _ _ (Nat.lt_succ_self _) (by omega) (by omega) (suQ.init (by omega)) hw (lv_sub hl [1, 2, 0] rfl)
          intro n9
          induction n9 with
          | zero => intro l9 w cu198 su198 Mv hxv H locs ls hmz; exact absurd hmz (Nat.not_lt_zero _)
          | succ n9 ih198 =>
            intro l9 w cu198 su198 Mv hxv H locs ls hmz198 hiw hcu198 hsu198 hw hl
            have h_8 := h_6.ext hxv
            refine lv_iload_n hC.1 hC.2.1 dX5_digest_198 rfl (lv_at hl 2 rfl) ?_
            refine x_const hC dX5_digest_199 ?_
            refine x_icmp_ge (tgt := 311) hC ⟨by omega, by omega⟩ ⟨by omega, by omega⟩ dX5_digest_200 (by decide) (fun c_9 => ?_) (fun c_9 => ?_)
            · have hs9 : (su198 : Int) ≤ 319 + 4 * Tm := suQ.le hsu198
              refine lv_lload_n hC.1 hC.2.1 dX5_digest_311 rfl (lv_at hl 1 rfl) ?_
              refine lv_aload_n hC.1 hC.2.1 dX5_digest_312 rfl (lv_at hl 0 rfl) ?_
              refine x_callV hC hw (lv_size hl) (c_X5_isWhole l G h_8) gX5_digest_X5_isWhole rfl dv_X5_isWhole h_8.1.1 rfl rfl (Nat.le_of_ble_eq_true rfl) (by rw [hRf]; decide) (by rw [hRl]; decide) (by first | (rw [hRc]; decide) | omega) (by first | (rw [hRs]; decide) | omega) dX5_digest_313 (fun r9 M_10 H locs hq hw => ?_)
              obtain ⟨z_11, rfl, hxz_11, hz_11a⟩ := hq
              have h_12 := h_8.ext hxz_11
              show W p l e R s m args below meth c H locs _ _ _ (F0 m 316 ls [.int (iN (z_11)), .long (l9)])
              refine x_callS hC hw (lv_size hl) (c_X5_one l G (M := M_10) (p0 := z_11) (by omega)) gX5_digest_X5_one rfl dv_X5_one_s rfl (Nat.le_of_ble_eq_true rfl) (by rw [hRf]; decide) (by rw [hRl]; decide) (by first | (rw [hRc]; decide) | omega) (by first | (rw [hRs]; decide) | omega) dX5_digest_316 (fun r9 M_13 H locs hq hw => ?_)
              obtain ⟨z_14, rfl, hM9, hz_14a, hz_14b⟩ := hq
              rw [hM9] at hw
              show W p l e R s m args below meth c H locs _ _ _ (F0 m 319 ls [.int (iN (z_14)), .long (l9)])
              refine lv_i2l hC.1 hC.2.1 dX5_digest_319 rfl ?_
              refine lv_topl (fun d_15 hd_15 => ?_)
              refine x_callS hC hw (lv_size hl) (c_X5_add l G (M := M_10) (l0 := l9) (l1 := d_15)) gX5_digest_X5_add rfl dv_X5_add_s rfl (Nat.le_of_ble_eq_true rfl) (by rw [hRf]; decide) (by rw [hRl]; decide) (by first | (rw [hRc]; decide) | omega) (by first | (rw [hRs]; decide) | omega) dX5_digest_320 (fun r9 M_16 H locs hq hw => ?_)
              obtain ⟨l_17, rfl, hM9⟩ := hq
              rw [hM9] at hw
              show W p l e R s m args below meth c H locs _ _ _ (F0 m 323 ls [.long (l_17)])
              exact x_lret hC hw dX5_digest_323 (by first | decide | omega) (by first | decide | omega) ⟨_, rfl, MGm.of h_12 hK⟩
            · have hs9 : (su198 : Int) ≤ 319 + 3 * Tm := suQ.lt hsu198 (by omega)
              refine lv_aload_n hC.1 hC.2.1 dX5_digest_203 rfl (lv_at hl 0 rfl) ?_
              refine x_get hC hw h_8.1.1 rfl hinX5 5 (by decide) (List.mem_cons_of_mem _ (List.mem_append_left _ (List.mem_append_left _ (List.mem_append_left _ (List.mem_append_left _ (List.mem_of_getElem? (i := 3) rfl)))))) rfl dX5_digest_204 ?_
              refine lv_iload_n hC.1 hC.2.1 dX5_digest_207 rfl (lv_at hl 2 rfl) ?_
              refine x_ald4 hC hw h_8.1.2.2.2.2.1 (by omega) (by omega) (by omega) dX5_digest_208 ?_
              rcases hy_19 : fy ((w).toNat) with _ | y_18
              · have hnhy_19 : Wv ((w).toNat) = none := (h_8.vw (show (w).toNat < 4 from tn_lt (by omega) (by decide))).nil hy_19
                have hohy_19 := opN_none hnhy_19
                show W p l e R s m args below meth c _ _ _ _ _ (F0 m 209 ls [.null])
                refine lv_ifnonnullN hC.1 hC.2.1 dX5_digest_209 ?_
                refine lv_goto (tgt := 305) hC.1 hC.2.1 dX5_digest_212 (by decide) ?_
                refine x_iinc (lv' := [(3, .int (iN (w + 1))), (0, .ref a), (1, .long (l9))]) hC dX5_digest_305 hl (k := 2) rfl (by decide) rfl (fun ls hl => ?_)
                refine lv_goto (tgt := 198) hC.1 hC.2.1 dX5_digest_308 (by decide) ?_
                exact ih198 l9 (w + 1) cu198 su198 _ (hxv) _ _ _ (by first | exact mu_s hmz198 (by omega) | omega) (by omega) (by omega) (by first | exact suQ.next hsu198 (by omega) (by omega) | exact suQ.skip hsu198 (by omega)) hw (lv_sub hl [1, 2, 0] rfl)
              · obtain ⟨ti_20, fi_20, hui_20, hIi_20⟩ := (h_8.vw (show (w).toNat < 4 from tn_lt (by omega) (by decide))).yes hy_19
                obtain ⟨htat_21, htbt_21, htct_21, htdt_21, htet_21⟩ := id hIi_20.2.1
                have hohy_19 := opN_some hui_20
                show W p l e R s m args below meth c _ _ _ _ _ (F0 m 209 ls [.ref y_18])
                refine lv_ifnonnull (tgt := 215) hC.1 hC.2.1 dX5_digest_209 (by decide) ?_
                refine lv_lload_n hC.1 hC.2.1 dX5_digest_215 rfl (lv_at hl 1 rfl) ?_
                refine lv_iload_n hC.1 hC.2.1 dX5_digest_216 rfl (lv_at hl 2 rfl) ?_
                refine lv_i2l hC.1 hC.2.1 dX5_digest_217 rfl ?_
                refine lv_topl (fun d_22 hd_22 => ?_)
                refine x_callS hC hw (lv_size hl) (c_X5_add l G (M := Mv) (l0 := l9) (l1 := d_22)) gX5_digest_X5_add rfl dv_X5_add_s rfl (Nat.le_of_ble_eq_true rfl) (by rw [hRf]; decide) (by rw [hRl]; decide) (by first | (rw [hRc]; decide) | omega) (by first | (rw [hRs]; decide) | omega) dX5_digest_218 (fun r9 M_23 H locs hq hw => ?_)
                obtain ⟨l_24, rfl, hM9⟩ := hq
                rw [hM9] at hw
                show W p l e R s m args below meth c H locs _ _ _ (F0 m 221 ls [.long (l_24)])
                refine lv_lstore_n (lv' := [(1, .long (l_24)), (0, .ref a), (3, .int (iN (w)))]) hC.1 hC.2.1 dX5_digest_221 rfl hl (by decide) rfl (fun ls hl => ?_)
                refine x_const hC dX5_digest_222 ?_
                refine lv_istore (lv' := [(4, .int (iN (0))), (1, .long (l_24)), (0, .ref a), (3, .int (iN (w)))]) hC.1 hC.2.1 dX5_digest_223 hl (by decide) rfl (fun ls hl => ?_)
                suffices hloop225 : ∀ (n9 : Nat) (l9 : Int64) (j : Int) (H : Heap) (locs : List Loc) (ls : Array Slot), (hmz225 : (9 - j).toNat < n9) → (hi0 : 0 ≤ j ∧ j ≤ 9) → xD G (xA M s.heap.size) s Mv H locs → lv_has ls 6 [(0, .ref a), (1, .long (l9)), (3, .int (iN (w))), (4, .int (iN (j)))] → W p l e R s m args below meth c H locs _ _ _ (F0 m 225 ls []) by
                  exact hloop225 _ l_24 0  _ _ _ (Nat.lt_succ_self _) (by omega) hw (lv_sub hl [2, 1, 3, 0] rfl)
                intro n9
                induction n9 with
                | zero => intro l9 j  H locs ls hmz; exact absurd hmz (Nat.not_lt_zero _)
                | succ n9 ih225 =>
                  intro l9 j  H locs ls hmz225 hi0 hw hl
                  refine lv_iload hC.1 hC.2.1 dX5_digest_225 (lv_at hl 3 rfl) ?_
                  refine x_bipush hC dX5_digest_227 (by decide +kernel) ?_
                  refine x_icmp_ge (tgt := 251) hC ⟨by omega, by omega⟩ ⟨by omega, by omega⟩ dX5_digest_229 (by decide) (fun c_25 => ?_) (fun c_25 => ?_)
                  · refine x_const hC dX5_digest_251 ?_
                    refine lv_istore (lv' := [(4, .int (iN (0))), (0, .ref a), (1, .long (l9)), (3, .int (iN (w)))]) hC.1 hC.2.1 dX5_digest_252 hl (by decide) rfl (fun ls hl => ?_)
                    suffices hloop254 : ∀ (n9 : Nat) (l9 : Int64) (j : Int) (H : Heap) (locs : List Loc) (ls : Array Slot), (hmz254 : (4 - j).toNat < n9) → (hi0 : 0 ≤ j ∧ j ≤ 4) → xD G (xA M s.heap.size) s Mv H locs → lv_has ls 6 [(0, .ref a), (1, .long (l9)), (3, .int (iN (w))), (4, .int (iN (j)))] → W p l e R s m args below meth c H locs _ _ _ (F0 m 254 ls []) by
                      exact hloop254 _ l9 0  _ _ _ (Nat.lt_succ_self _) (by omega) hw (lv_sub hl [1, 2, 3, 0] rfl)
                    intro n9
                    induction n9 with
                    | zero => intro l9 j  H locs ls hmz; exact absurd hmz (Nat.not_lt_zero _)
                    | succ n9 ih254 =>
                      intro l9 j  H locs ls hmz254 hi0 hw hl
                      refine lv_iload hC.1 hC.2.1 dX5_digest_254 (lv_at hl 3 rfl) ?_
                      refine x_const hC dX5_digest_256 ?_
                      refine x_icmp_ge (tgt := 286) hC ⟨by omega, by omega⟩ ⟨by omega, by omega⟩ dX5_digest_257 (by decide) (fun c_26 => ?_) (fun c_26 => ?_)
                      · refine lv_lload_n hC.1 hC.2.1 dX5_digest_286 rfl (lv_at hl 1 rfl) ?_
                        refine lv_aload_n hC.1 hC.2.1 dX5_digest_287 rfl (lv_at hl 0 rfl) ?_
                        refine lv_aload_n hC.1 hC.2.1 dX5_digest_288 rfl (lv_at hl 0 rfl) ?_
                        refine x_get hC hw h_8.1.1 rfl hinX5 5 (by decide) (List.mem_cons_of_mem _ (List.mem_append_left _ (List.mem_append_left _ (List.mem_append_left _ (List.mem_append_left _ (List.mem_of_getElem? (i := 3) rfl)))))) rfl dX5_digest_289 ?_
                        refine lv_iload_n hC.1 hC.2.1 dX5_digest_292 rfl (lv_at hl 2 rfl) ?_
                        refine x_ald4 hC hw h_8.1.2.2.2.2.1 (by omega) (by omega) (by omega) dX5_digest_293 ?_
                        rw [hy_19]
                        show W p l e R s m args below meth c _ _ _ _ _ (F0 m 294 ls [.ref y_18, .ref a, .long (l9)])
                        refine x_callV hC hw (lv_size hl) (c_X5_told l G h_8 hIi_20 (Kn := Kn) (Tm := Tm) hKn hT) gX5_digest_X5_told rfl dv_X5_told h_8.1.1 rfl rfl (Nat.le_of_ble_eq_true rfl) (by rw [hRf]; decide) (by rw [hRl]; decide) (by first | (rw [hRc]; decide) | omega) (by first | (rw [hRs]; decide) | omega) dX5_digest_294 (fun r9 M_27 H locs hq hw => ?_)
                        obtain ⟨qk_28, vk_28, fk_28, Lk_28, rfl, hxk_28, hVk_28⟩ := hq
                        have h_29 := h_8.ext hxk_28
                        have h_30 := hIi_20.x5 (xExt.x5 hxk_28)
                        show W p l e R s m args below meth c H locs _ _ _ (F0 m 297 ls [.ref qk_28, .long (l9)])
                        refine x_callV hC hw (lv_size hl) (c_J0_length_8abf5S l G hVk_28) gX5_digest_J0_length_8abf5 rfl dv_J0_length_8abf5 hVk_28.1 rfl rfl (Nat.le_of_ble_eq_true rfl) (by rw [hRf]; decide) (by rw [hRl]; decide) (by first | (rw [hRc]; decide) | omega) (by first | (rw [hRs]; decide) | omega) dX5_digest_297 (fun r9 M_31 H locs hq hw => ?_)
                        obtain ⟨rfl, hM9⟩ := hq
                        rw [hM9] at hw
                        show W p l e R s m args below meth c H locs _ _ _ (F0 m 300 ls [.int (iN (Lk_28)), .long (l9)])
                        refine lv_i2l hC.1 hC.2.1 dX5_digest_300 rfl ?_
                        refine lv_topl (fun d_32 hd_32 => ?_)
                        refine x_callS hC hw (lv_size hl) (c_X5_add l G (M := M_27) (l0 := l9) (l1 := d_32)) gX5_digest_X5_add rfl dv_X5_add_s rfl (Nat.le_of_ble_eq_true rfl) (by rw [hRf]; decide) (by rw [hRl]; decide) (by first | (rw [hRc]; decide) | omega) (by first | (rw [hRs]; decide) | omega) dX5_digest_301 (fun r9 M_33 H locs hq hw => ?_)
                        obtain ⟨l_34, rfl, hM9⟩ := hq
                        rw [hM9] at hw
                        show W p l e R s m args below meth c H locs _ _ _ (F0 m 304 ls [.long (l_34)])
                        refine lv_lstore_n (lv' := [(1, .long (l_34)), (0, .ref a), (3, .int (iN (w))), (4, .int (iN (j)))]) hC.1 hC.2.1 dX5_digest_304 rfl hl (by decide) rfl (fun ls hl => ?_)
                        refine x_iinc (lv' := [(3, .int (iN (w + 1))), (1, .long (l_34)), (0, .ref a), (4, .int (iN (j)))]) hC dX5_digest_305 hl (k := 2) rfl (by decide) rfl (fun ls hl => ?_)
                        refine lv_goto (tgt := 198) hC.1 hC.2.1 dX5_digest_308 (by decide) ?_
                        exact ih198 l_34 (w + 1) (cu198 + 0 + 12 + 0 + 0) (su198 + 0 + Tm + 0 + 0) _ ((xExt.tr hxv hxk_28)) _ _ _ (by first | exact mu_s hmz198 (by omega) | omega) (by omega) (by omega) (by first | exact suQ.next hsu198 (by omega) (by omega) | exact suQ.skip hsu198 (by omega)) hw (lv_sub hl [2, 1, 0] rfl)
                      · refine lv_lload_n hC.1 hC.2.1 dX5_digest_260 rfl (lv_at hl 1 rfl) ?_
                        refine lv_aload_n hC.1 hC.2.1 dX5_digest_261 rfl (lv_at hl 0 rfl) ?_
                        refine lv_aload_n hC.1 hC.2.1 dX5_digest_262 rfl (lv_at hl 0 rfl) ?_
                        refine x_get hC hw h_8.1.1 rfl hinX5 5 (by decide) (List.mem_cons_of_mem _ (List.mem_append_left _ (List.mem_append_left _ (List.mem_append_left _ (List.mem_append_left _ (List.mem_of_getElem? (i := 3) rfl)))))) rfl dX5_digest_263 ?_
                        refine lv_iload_n hC.1 hC.2.1 dX5_digest_266 rfl (lv_at hl 2 rfl) ?_
                        refine x_ald4 hC hw h_8.1.2.2.2.2.1 (by omega) (by omega) (by omega) dX5_digest_267 ?_
                        rw [hy_19]
                        show W p l e R s m args below meth c _ _ _ _ _ (F0 m 268 ls [.ref y_18, .ref a, .long (l9)])
                        refine x_bipush hC dX5_digest_268 (by decide +kernel) ?_
                        refine lv_iload hC.1 hC.2.1 dX5_digest_270 (lv_at hl 3 rfl) ?_
                        refine x_callV hC hw (lv_size hl) (c_X5_nearOf l G h_8 hIi_20 (p0 := 50) (by omega) (p1 := j) (by omega) (by omega)) gX5_digest_X5_nearOf rfl dv_X5_nearOf h_8.1.1 rfl rfl (Nat.le_of_ble_eq_true rfl) (by rw [hRf]; decide) (by rw [hRl]; decide) (by first | (rw [hRc]; decide) | omega) (by first | (rw [hRs]; decide) | omega) dX5_digest_272 (fun r9 M_35 H locs hq hw => ?_)
                        obtain ⟨z_36, rfl, hM9, hz_36a, hz_36S, hz_36n⟩ := hq
                        rw [hM9] at hw
                        show W p l e R s m args below meth c H locs _ _ _ (F0 m 275 ls [.int (iN (z_36)), .long (l9)])
                        refine lv_i2l hC.1 hC.2.1 dX5_digest_275 rfl ?_
                        refine lv_topl (fun d_37 hd_37 => ?_)
                        refine x_callS hC hw (lv_size hl) (c_X5_add l G (M := Mv) (l0 := l9) (l1 := d_37)) gX5_digest_X5_add rfl dv_X5_add_s rfl (Nat.le_of_ble_eq_true rfl) (by rw [hRf]; decide) (by rw [hRl]; decide) (by first | (rw [hRc]; decide) | omega) (by first | (rw [hRs]; decide) | omega) dX5_digest_276 (fun r9 M_38 H locs hq hw => ?_)
                        obtain ⟨l_39, rfl, hM9⟩ := hq
                        rw [hM9] at hw
                        show W p l e R s m args below meth c H locs _ _ _ (F0 m 279 ls [.long (l_39)])
                        refine lv_lstore_n (lv' := [(1, .long (l_39)), (0, .ref a), (3, .int (iN (w))), (4, .int (iN (j)))]) hC.1 hC.2.1 dX5_digest_279 rfl hl (by decide) rfl (fun ls hl => ?_)
                        refine x_iinc (lv' := [(4, .int (iN (j + 1))), (1, .long (l_39)), (0, .ref a), (3, .int (iN (w)))]) hC dX5_digest_280 hl (k := 3) rfl (by decide) rfl (fun ls hl => ?_)
                        refine lv_goto (tgt := 254) hC.1 hC.2.1 dX5_digest_283 (by decide) ?_
                        exact ih254 l_39 (j + 1)  _ _ _ (by first | exact mu_s hmz254 (by omega) | omega) (by omega) hw (lv_sub hl [2, 1, 3, 0] rfl)
                  · refine lv_lload_n hC.1 hC.2.1 dX5_digest_232 rfl (lv_at hl 1 rfl) ?_
                    refine lv_aload_n hC.1 hC.2.1 dX5_digest_233 rfl (lv_at hl 0 rfl) ?_
                    refine lv_iload_n hC.1 hC.2.1 dX5_digest_234 rfl (lv_at hl 2 rfl) ?_
                    refine lv_iload hC.1 hC.2.1 dX5_digest_235 (lv_at hl 3 rfl) ?_
                    refine x_callV hC hw (lv_size hl) (c_X5_viewTold l G h_8 (p0 := w) (by omega) (p1 := j) (by omega) (by omega) (by omega) (by rw [hy_19]; exact fun q9 => nomatch q9)) gX5_digest_X5_viewTold rfl dv_X5_viewTold h_8.1.1 rfl rfl (Nat.le_of_ble_eq_true rfl) (by rw [hRf]; decide) (by rw [hRl]; decide) (by first | (rw [hRc]; decide) | omega) (by first | (rw [hRs]; decide) | omega) dX5_digest_237 (fun r9 M_40 H locs hq hw => ?_)
                    obtain ⟨z_41, rfl, hM9, hz_41a, hz_41w⟩ := hq
                    rw [hM9] at hw
                    show W p l e R s m args below meth c H locs _ _ _ (F0 m 240 ls [.int (iN (z_41)), .long (l9)])
                    refine lv_i2l hC.1 hC.2.1 dX5_digest_240 rfl ?_
                    refine lv_topl (fun d_42 hd_42 => ?_)
                    refine x_callS hC hw (lv_size hl) (c_X5_add l G (M := Mv) (l0 := l9) (l1 := d_42)) gX5_digest_X5_add rfl dv_X5_add_s rfl (Nat.le_of_ble_eq_true rfl) (by rw [hRf]; decide) (by rw [hRl]; decide) (by first | (rw [hRc]; decide) | omega) (by first | (rw [hRs]; decide) | omega) dX5_digest_241 (fun r9 M_43 H locs hq hw => ?_)
                    obtain ⟨l_44, rfl, hM9⟩ := hq
                    rw [hM9] at hw
                    show W p l e R s m args below meth c H locs _ _ _ (F0 m 244 ls [.long (l_44)])
                    refine lv_lstore_n (lv' := [(1, .long (l_44)), (0, .ref a), (3, .int (iN (w))), (4, .int (iN (j)))]) hC.1 hC.2.1 dX5_digest_244 rfl hl (by decide) rfl (fun ls hl => ?_)
                    refine x_iinc (lv' := [(4, .int (iN (j + 1))), (1, .long (l_44)), (0, .ref a), (3, .int (iN (w)))]) hC dX5_digest_245 hl (k := 3) rfl (by decide) rfl (fun ls hl => ?_)
                    refine lv_goto (tgt := 225) hC.1 hC.2.1 dX5_digest_248 (by decide) ?_
                    exact ih225 l_44 (j + 1)  _ _ _ (by first | exact mu_s hmz225 (by omega) | omega) (by omega) hw (lv_sub hl [2, 1, 3, 0] rfl)
        · refine lv_iload_n hC.1 hC.2.1 dX5_digest_41 rfl (lv_at hl 2 rfl) ?_
          refine x_callS hC hw (lv_size hl) (c_X5_whole l G (M := Mb) (p0 := b) (by omega) (by omega)) gX5_digest_X5_whole rfl dv_X5_whole_s rfl (Nat.le_of_ble_eq_true rfl) (by rw [hRf]; decide) (by rw [hRl]; decide) (by first | (rw [hRc]; decide) | omega) (by first | (rw [hRs]; decide) | omega) dX5_digest_42 (fun r9 M_45 H locs hq hw => ?_)
          obtain ⟨qk_46, fk_46, rfl, hxk_46, hIk_46⟩ := hq
          have h_47 := h_6.ext hxk_46
          obtain ⟨htat_48, htbt_48, htct_48, htdt_48, htet_48⟩ := id hIk_46.2.1
          have holk_46 := h_47.or' hIk_46.2.1.1
          show W p l e R s m args below meth c H locs _ _ _ (F0 m 45 ls [.ref qk_46])
          refine lv_astore (lv' := [(4, .ref qk_46), (0, .ref a), (1, .long (l9)), (3, .int (iN (b)))]) hC.1 hC.2.1 dX5_digest_45 hl (by decide) rfl (fun ls hl => ?_)
          refine x_const hC dX5_digest_47 ?_
          refine lv_istore (lv' := [(5, .int (iN (0))), (4, .ref qk_46), (0, .ref a), (1, .long (l9)), (3, .int (iN (b)))]) hC.1 hC.2.1 dX5_digest_48 hl (by decide) rfl (fun ls hl => ?_)
          suffices hloop50 : ∀ (n9 : Nat) (l9 : Int64) (j : Int) (cu50 : Nat) (su50 : Nat) (Mc : HM) (hxc : xExt M_45 Mc) (H : Heap) (locs : List Loc) (ls : Array Slot), (hmz50 : (9 - j).toNat < n9) → (hi0 : 0 ≤ j ∧ j ≤ 9) → (hcu50 : (cu50 : Int) ≤ cu36 + 1 + j) → (hsu50 : (su50 : Int) ≤ su36 + 5 + 5 * j) → xD G (xA M s.heap.size) s Mc H locs → lv_has ls 6 [(0, .ref a), (1, .long (l9)), (3, .int (iN (b))), (4, .ref qk_46), (5, .int (iN (j)))] → W p l e R s m args below meth c H locs cu50 su50 _ (F0 m 50 ls []) by
            exact hloop50 _ l9 0 (cu36 + 1) (su36 + 5) _ xExt.rf _ _ _ (Nat.lt_succ_self _) (by omega) (by omega) (by omega) hw (lv_sub hl [2, 3, 4, 1, 0] rfl)
          intro n9
          induction n9 with
          | zero => intro l9 j cu50 su50 Mc hxc H locs ls hmz; exact absurd hmz (Nat.not_lt_zero _)
          | succ n9 ih50 =>
            intro l9 j cu50 su50 Mc hxc H locs ls hmz50 hi0 hcu50 hsu50 hw hl
            have h_49 := h_47.ext hxc
            have h_50 := hIk_46.x5 (xExt.x5 hxc)
            refine lv_iload hC.1 hC.2.1 dX5_digest_50 (lv_at hl 4 rfl) ?_
            refine x_bipush hC dX5_digest_52 (by decide +kernel) ?_
            refine x_icmp_ge (tgt := 76) hC ⟨by omega, by omega⟩ ⟨by omega, by omega⟩ dX5_digest_54 (by decide) (fun c_51 => ?_) (fun c_51 => ?_)
            · refine lv_aload_n hC.1 hC.2.1 dX5_digest_76 rfl (lv_at hl 0 rfl) ?_
              refine lv_aload hC.1 hC.2.1 dX5_digest_77 (lv_at hl 3 rfl) ?_
              refine x_const hC dX5_digest_79 ?_
              refine x_callV hC hw (lv_size hl) (c_X5_end l G h_49 h_50 (p0 := 0) (by omega)) gX5_digest_X5_end rfl dv_X5_end h_49.1.1 rfl rfl (Nat.le_of_ble_eq_true rfl) (by rw [hRf]; decide) (by rw [hRl]; decide) (by first | (rw [hRc]; decide) | omega) (by first | (rw [hRs]; decide) | omega) dX5_digest_80 (fun r9 M_52 H locs hq hw => ?_)
              obtain ⟨z_53, rfl, hM9, hz_53a, hz_53S, hz_53e⟩ := hq
              rw [hM9] at hw
              show W p l e R s m args below meth c H locs _ _ _ (F0 m 83 ls [.int (iN (z_53))])
              refine lv_istore (lv' := [(5, .int (iN (z_53))), (0, .ref a), (1, .long (l9)), (3, .int (iN (b))), (4, .ref qk_46)]) hC.1 hC.2.1 dX5_digest_83 hl (by decide) rfl (fun ls hl => ?_)
              suffices hloop85 : ∀ (n9 : Nat) (l9 : Int64) (key : Int) (d : Int) (H : Heap) (locs : List Loc) (ls : Array Slot), (hmz85 : (101 - d).toNat < n9) → (hi0 : 0 ≤ d ∧ d ≤ 100) → (hkr : key = -10000 ∨ (0 ≤ key ∧ key ≤ 99)) → (hky : key ≠ -10000 → mP S V (whT ((b).toNat)) key.toNat) → (hmu : key ≠ -10000 → d + (mAb S (mW O (whT ((b).toNat))) (mW O (whT ((b).toNat)) key.toNat) : Int) + 1 ≤ 100) → xD G (xA M s.heap.size) s Mc H locs → lv_has ls 6 [(0, .ref a), (1, .long (l9)), (3, .int (iN (b))), (4, .ref qk_46), (5, .int (iN (key)))] → W p l e R s m args below meth c H locs _ _ _ (F0 m 85 ls []) by
                exact hloop85 _ l9 z_53 0  _ _ _ (Nat.lt_succ_self _) (by omega) (by omega) (hz_53S) (fun q9 => by have h8 := mAb_le (W := mW O (whT ((b).toNat))) (hz_53S q9).1 (by omega); have h9 := mC_le S 100; omega) hw (lv_sub hl [1, 2, 3, 4, 0] rfl)
              intro n9
              induction n9 with
              | zero => intro l9 key d  H locs ls hmz; exact absurd hmz (Nat.not_lt_zero _)
              | succ n9 ih85 =>
                intro l9 key d  H locs ls hmz85 hi0 hkr hky hmu hw hl
                have hL_54 : -10000 ≤ key ∧ key ≤ 99 := by (rcases hkr with h9 | h9 <;> omega)
                refine lv_iload hC.1 hC.2.1 dX5_digest_85 (lv_at hl 4 rfl) ?_
                refine x_sipush hC dX5_digest_87 (by decide +kernel) ?_
                refine x_icmp_eq (tgt := 128) hC ⟨by omega, by omega⟩ ⟨by omega, by omega⟩ dX5_digest_90 (by decide) (fun c_55 => ?_) (fun c_55 => ?_)
                · refine x_const hC dX5_digest_128 ?_
                  refine lv_istore (lv' := [(5, .int (iN (0))), (0, .ref a), (1, .long (l9)), (3, .int (iN (b))), (4, .ref qk_46)]) hC.1 hC.2.1 dX5_digest_129 hl (by decide) rfl (fun ls hl => ?_)
                  suffices hloop131 : ∀ (n9 : Nat) (l9 : Int64) (j : Int) (cu131 : Nat) (su131 : Nat) (Me : HM) (hxe : xExt Mc Me) (H : Heap) (locs : List Loc) (ls : Array Slot), (hmz131 : (8 - j).toNat < n9) → (hi0 : 0 ≤ j ∧ j ≤ 8) → (hcu131 : (cu131 : Int) ≤ cu36 + 10 + j) → (hsu131 : (su131 : Int) ≤ su36 + 50 + 5 * j) → xD G (xA M s.heap.size) s Me H locs → lv_has ls 6 [(0, .ref a), (1, .long (l9)), (3, .int (iN (b))), (5, .int (iN (j)))] → W p l e R s m args below meth c H locs cu131 su131 _ (F0 m 131 ls []) by
                    exact hloop131 _ l9 0 (cu50 + 0) (su50 + 0) _ xExt.rf _ _ _ (Nat.lt_succ_self _) (by omega) (by omega) (by omega) hw (lv_sub hl [1, 2, 3, 0] rfl)
                  intro n9
                  induction n9 with
                  | zero => intro l9 j cu131 su131 Me hxe H locs ls hmz; exact absurd hmz (Nat.not_lt_zero _)
                  | succ n9 ih131 =>
                    intro l9 j cu131 su131 Me hxe H locs ls hmz131 hi0 hcu131 hsu131 hw hl
                    have h_56 := h_49.ext hxe
                    have h_57 := h_50.x5 (xExt.x5 hxe)
                    refine lv_iload hC.1 hC.2.1 dX5_digest_131 (lv_at hl 3 rfl) ?_
                    refine x_bipush hC dX5_digest_133 (by decide +kernel) ?_
                    refine x_icmp_ge (tgt := 159) hC ⟨by omega, by omega⟩ ⟨by omega, by omega⟩ dX5_digest_135 (by decide) (fun c_58 => ?_) (fun c_58 => ?_)
                    · refine x_const hC dX5_digest_159 ?_
                      refine lv_istore (lv' := [(5, .int (iN (0))), (0, .ref a), (1, .long (l9)), (3, .int (iN (b)))]) hC.1 hC.2.1 dX5_digest_160 hl (by decide) rfl (fun ls hl => ?_)
                      suffices hloop162 : ∀ (n9 : Nat) (l9 : Int64) (j : Int) (H : Heap) (locs : List Loc) (ls : Array Slot), (hmz162 : (3 - j).toNat < n9) → (hi0 : 0 ≤ j ∧ j ≤ 3) → xD G (xA M s.heap.size) s Me H locs → lv_has ls 6 [(0, .ref a), (1, .long (l9)), (3, .int (iN (b))), (5, .int (iN (j)))] → W p l e R s m args below meth c H locs _ _ _ (F0 m 162 ls []) by
                        exact hloop162 _ l9 0  _ _ _ (Nat.lt_succ_self _) (by omega) hw (lv_sub hl [1, 2, 3, 0] rfl)
                      intro n9
                      induction n9 with
                      | zero => intro l9 j  H locs ls hmz; exact absurd hmz (Nat.not_lt_zero _)
                      | succ n9 ih162 =>
                        intro l9 j  H locs ls hmz162 hi0 hw hl
                        refine lv_iload hC.1 hC.2.1 dX5_digest_162 (lv_at hl 3 rfl) ?_
                        refine x_const hC dX5_digest_164 ?_
                        refine x_icmp_ge (tgt := 190) hC ⟨by omega, by omega⟩ ⟨by omega, by omega⟩ dX5_digest_165 (by decide) (fun c_59 => ?_) (fun c_59 => ?_)
                        · refine x_iinc (lv' := [(3, .int (iN (b + 1))), (0, .ref a), (1, .long (l9)), (5, .int (iN (j)))]) hC dX5_digest_190 hl (k := 2) rfl (by decide) rfl (fun ls hl => ?_)
                          refine lv_goto (tgt := 36) hC.1 hC.2.1 dX5_digest_193 (by decide) ?_
                          exact ih36 l9 (b + 1) cu131 su131 _ ((xExt.tr (xExt.tr (xExt.tr hxb hxk_46) hxc) hxe)) _ _ _ (by first | exact mu_s hmz36 (by omega) | omega) (by omega) (by omega) (by omega) hw (lv_sub hl [1, 2, 0] rfl)
                        · refine lv_lload_n hC.1 hC.2.1 dX5_digest_168 rfl (lv_at hl 1 rfl) ?_
                          refine lv_aload_n hC.1 hC.2.1 dX5_digest_169 rfl (lv_at hl 0 rfl) ?_
                          refine lv_iload_n hC.1 hC.2.1 dX5_digest_170 rfl (lv_at hl 2 rfl) ?_
                          refine lv_iload hC.1 hC.2.1 dX5_digest_171 (lv_at hl 3 rfl) ?_
                          refine x_callV hC hw (lv_size hl) (c_X5_areSame l G h_56 (p0 := b) (by omega) (p1 := j) (by omega) (by omega) (by omega)) gX5_digest_X5_areSame rfl dv_X5_areSame h_56.1.1 rfl rfl (Nat.le_of_ble_eq_true rfl) (by rw [hRf]; decide) (by rw [hRl]; decide) (by first | (rw [hRc]; decide) | omega) (by first | (rw [hRs]; decide) | omega) dX5_digest_173 (fun r9 M_60 H locs hq hw => ?_)
                          obtain ⟨z_61, rfl, hM9, hz_61a, hz_61d⟩ := hq
                          rw [hM9] at hw
                          show W p l e R s m args below meth c H locs _ _ _ (F0 m 176 ls [.int (iN (z_61)), .long (l9)])
                          refine x_callS hC hw (lv_size hl) (c_X5_one l G (M := Me) (p0 := z_61) (by omega)) gX5_digest_X5_one rfl dv_X5_one_s rfl (Nat.le_of_ble_eq_true rfl) (by rw [hRf]; decide) (by rw [hRl]; decide) (by first | (rw [hRc]; decide) | omega) (by first | (rw [hRs]; decide) | omega) dX5_digest_176 (fun r9 M_62 H locs hq hw => ?_)
                          obtain ⟨z_63, rfl, hM9, hz_63a, hz_63b⟩ := hq
                          rw [hM9] at hw
                          show W p l e R s m args below meth c H locs _ _ _ (F0 m 179 ls [.int (iN (z_63)), .long (l9)])
                          refine lv_i2l hC.1 hC.2.1 dX5_digest_179 rfl ?_
                          refine lv_topl (fun d_64 hd_64 => ?_)
                          refine x_callS hC hw (lv_size hl) (c_X5_add l G (M := Me) (l0 := l9) (l1 := d_64)) gX5_digest_X5_add rfl dv_X5_add_s rfl (Nat.le_of_ble_eq_true rfl) (by rw [hRf]; decide) (by rw [hRl]; decide) (by first | (rw [hRc]; decide) | omega) (by first | (rw [hRs]; decide) | omega) dX5_digest_180 (fun r9 M_65 H locs hq hw => ?_)
                          obtain ⟨l_66, rfl, hM9⟩ := hq
                          rw [hM9] at hw
                          show W p l e R s m args below meth c H locs _ _ _ (F0 m 183 ls [.long (l_66)])
                          refine lv_lstore_n (lv' := [(1, .long (l_66)), (0, .ref a), (3, .int (iN (b))), (5, .int (iN (j)))]) hC.1 hC.2.1 dX5_digest_183 rfl hl (by decide) rfl (fun ls hl => ?_)
                          refine x_iinc (lv' := [(5, .int (iN (j + 1))), (1, .long (l_66)), (0, .ref a), (3, .int (iN (b)))]) hC dX5_digest_184 hl (k := 3) rfl (by decide) rfl (fun ls hl => ?_)
                          refine lv_goto (tgt := 162) hC.1 hC.2.1 dX5_digest_187 (by decide) ?_
                          exact ih162 l_66 (j + 1)  _ _ _ (by first | exact mu_s hmz162 (by omega) | omega) (by omega) hw (lv_sub hl [2, 1, 3, 0] rfl)
                    · refine lv_lload_n hC.1 hC.2.1 dX5_digest_138 rfl (lv_at hl 1 rfl) ?_
                      refine lv_aload_n hC.1 hC.2.1 dX5_digest_139 rfl (lv_at hl 0 rfl) ?_
                      refine lv_iload_n hC.1 hC.2.1 dX5_digest_140 rfl (lv_at hl 2 rfl) ?_
                      refine x_bipush hC dX5_digest_141 (by decide +kernel) ?_
                      refine lv_iload hC.1 hC.2.1 dX5_digest_143 (lv_at hl 3 rfl) ?_
                      refine x_callV hC hw (lv_size hl) (c_X5_nearTold l G h_56 (p0 := b) (by omega) (p1 := 50) (by omega) (p2 := j) (by omega) (by omega) (by omega) (by omega)) gX5_digest_X5_nearTold rfl dv_X5_nearTold h_56.1.1 rfl rfl (Nat.le_of_ble_eq_true rfl) (by rw [hRf]; decide) (by rw [hRl]; decide) (by first | (rw [hRc]; decide) | omega) (by first | (rw [hRs]; decide) | omega) dX5_digest_145 (fun r9 M_67 H locs hq hw => ?_)
                      obtain ⟨z_68, rfl, hxz_68, hz_68a, hz_68n⟩ := hq
                      have h_69 := h_56.ext hxz_68
                      have h_70 := h_57.x5 (xExt.x5 hxz_68)
                      show W p l e R s m args below meth c H locs _ _ _ (F0 m 148 ls [.int (iN (z_68)), .long (l9)])
                      refine lv_i2l hC.1 hC.2.1 dX5_digest_148 rfl ?_
                      refine lv_topl (fun d_71 hd_71 => ?_)
                      refine x_callS hC hw (lv_size hl) (c_X5_add l G (M := M_67) (l0 := l9) (l1 := d_71)) gX5_digest_X5_add rfl dv_X5_add_s rfl (Nat.le_of_ble_eq_true rfl) (by rw [hRf]; decide) (by rw [hRl]; decide) (by first | (rw [hRc]; decide) | omega) (by first | (rw [hRs]; decide) | omega) dX5_digest_149 (fun r9 M_72 H locs hq hw => ?_)
                      obtain ⟨l_73, rfl, hM9⟩ := hq
                      rw [hM9] at hw
                      show W p l e R s m args below meth c H locs _ _ _ (F0 m 152 ls [.long (l_73)])
                      refine lv_lstore_n (lv' := [(1, .long (l_73)), (0, .ref a), (3, .int (iN (b))), (5, .int (iN (j)))]) hC.1 hC.2.1 dX5_digest_152 rfl hl (by decide) rfl (fun ls hl => ?_)
                      refine x_iinc (lv' := [(5, .int (iN (j + 1))), (1, .long (l_73)), (0, .ref a), (3, .int (iN (b)))]) hC dX5_digest_153 hl (k := 3) rfl (by decide) rfl (fun ls hl => ?_)
                      refine lv_goto (tgt := 131) hC.1 hC.2.1 dX5_digest_156 (by decide) ?_
                      exact ih131 l_73 (j + 1) (cu131 + 1 + 0) (su131 + 5 + 0) _ ((xExt.tr hxe hxz_68)) _ _ _ (by first | exact mu_s hmz131 (by omega) | omega) (by omega) (by omega) (by omega) hw (lv_sub hl [2, 1, 3, 0] rfl)
                · have hK_74 : 0 ≤ key ∧ key ≤ 99 := hkr.resolve_left (by first | assumption | omega)
                  have hm9 := hmu (by first | assumption | omega)
                  refine lv_lload_n hC.1 hC.2.1 dX5_digest_93 rfl (lv_at hl 1 rfl) ?_
                  refine lv_iload hC.1 hC.2.1 dX5_digest_94 (lv_at hl 4 rfl) ?_
                  refine lv_i2l hC.1 hC.2.1 dX5_digest_96 rfl ?_
                  refine lv_topl (fun d_75 hd_75 => ?_)
                  refine x_callS hC hw (lv_size hl) (c_X5_add l G (M := Mc) (l0 := l9) (l1 := d_75)) gX5_digest_X5_add rfl dv_X5_add_s rfl (Nat.le_of_ble_eq_true rfl) (by rw [hRf]; decide) (by rw [hRl]; decide) (by first | (rw [hRc]; decide) | omega) (by first | (rw [hRs]; decide) | omega) dX5_digest_97 (fun r9 M_76 H locs hq hw => ?_)
                  obtain ⟨l_77, rfl, hM9⟩ := hq
                  rw [hM9] at hw
                  show W p l e R s m args below meth c H locs _ _ _ (F0 m 100 ls [.long (l_77)])
                  refine lv_aload_n hC.1 hC.2.1 dX5_digest_100 rfl (lv_at hl 0 rfl) ?_
                  refine x_get hC hw h_49.1.1 rfl hinX5 2 (by decide) (List.mem_cons_of_mem _ (List.mem_append_left _ (List.mem_append_left _ (List.mem_append_left _ (List.mem_append_left _ (List.mem_of_getElem? (i := 2) rfl)))))) rfl dX5_digest_101 ?_
                  refine lv_iload_n hC.1 hC.2.1 dX5_digest_104 rfl (lv_at hl 2 rfl) ?_
                  refine x_ald4 hC hw h_49.1.2.1 (by omega) (by omega) (by omega) dX5_digest_105 ?_
                  rw [h_49.fa' (show (b).toNat < 3 from tn_lt (by omega) (by decide))]
                  show W p l e R s m args below meth c _ _ _ _ _ (F0 m 106 ls [.ref (qv ((b).toNat)), .long (l_77)])
                  refine lv_iload hC.1 hC.2.1 dX5_digest_106 (lv_at hl 4 rfl) ?_
                  refine x_ialdE (x := (V ((b).toNat) ((key).toNat))) hC hw (h_49.rv (show ((b).toNat) < 3 from tn_lt (by omega) (by decide))) (by omega) (by omega) (by omega) dX5_digest_108 rfl ?_
                  have hrv_78 := h_49.vr (show ((b).toNat) < 3 from tn_lt (by omega) (by decide)) (show (key).toNat < 100 from tn_lt (by omega) (by decide))
                  have hpv_78 := h_49.vs (show ((b).toNat) < 3 from tn_lt (by omega) (by decide)) (show (key).toNat < 100 from tn_lt (by omega) (by decide))
                  refine lv_i2l hC.1 hC.2.1 dX5_digest_109 rfl ?_
                  refine lv_topl (fun d_79 hd_79 => ?_)
                  refine x_callS hC hw (lv_size hl) (c_X5_add l G (M := Mc) (l0 := l_77) (l1 := d_79)) gX5_digest_X5_add rfl dv_X5_add_s rfl (Nat.le_of_ble_eq_true rfl) (by rw [hRf]; decide) (by rw [hRl]; decide) (by first | (rw [hRc]; decide) | omega) (by first | (rw [hRs]; decide) | omega) dX5_digest_110 (fun r9 M_80 H locs hq hw => ?_)
                  obtain ⟨l_81, rfl, hM9⟩ := hq
                  rw [hM9] at hw
                  show W p l e R s m args below meth c H locs _ _ _ (F0 m 113 ls [.long (l_81)])
                  refine lv_lstore_n (lv' := [(1, .long (l_81)), (0, .ref a), (3, .int (iN (b))), (4, .ref qk_46), (5, .int (iN (key)))]) hC.1 hC.2.1 dX5_digest_113 rfl hl (by decide) rfl (fun ls hl => ?_)
                  refine lv_aload_n hC.1 hC.2.1 dX5_digest_114 rfl (lv_at hl 1 rfl) ?_
                  refine lv_aload hC.1 hC.2.1 dX5_digest_115 (lv_at hl 3 rfl) ?_
                  refine lv_iload hC.1 hC.2.1 dX5_digest_117 (lv_at hl 4 rfl) ?_
                  refine x_const hC dX5_digest_119 ?_
                  refine x_callV hC hw (lv_size hl) (c_X5_nearOf l G h_49 h_50 (p0 := key) (by omega) (p1 := 3) (by omega) (by omega)) gX5_digest_X5_nearOf rfl dv_X5_nearOf h_49.1.1 rfl rfl (Nat.le_of_ble_eq_true rfl) (by rw [hRf]; decide) (by rw [hRl]; decide) (by first | (rw [hRc]; decide) | omega) (by first | (rw [hRs]; decide) | omega) dX5_digest_120 (fun r9 M_82 H locs hq hw => ?_)
                  obtain ⟨z_83, rfl, hM9, hz_83a, hz_83S, hz_83n⟩ := hq
                  rw [hM9] at hw
                  show W p l e R s m args below meth c H locs _ _ _ (F0 m 123 ls [.int (iN (z_83))])
                  refine lv_istore (lv' := [(5, .int (iN (z_83))), (1, .long (l_81)), (0, .ref a), (3, .int (iN (b))), (4, .ref qk_46)]) hC.1 hC.2.1 dX5_digest_123 hl (by decide) rfl (fun ls hl => ?_)
                  refine lv_goto (tgt := 85) hC.1 hC.2.1 dX5_digest_125 (by decide) ?_
                  exact ih85 l_81 z_83 (d + 1)  _ _ _ (by first | exact mu_s hmz85 (by omega) | omega) (by omega) (by omega) (hz_83S) (fun q9 => by have h8 := mAb_lt (W := mW O (whT ((b).toNat))) (hz_83S q9).1 (by omega) (nrF_lt hz_83n q9); have h9 := hmu (by omega); omega) hw (lv_sub hl [2, 1, 3, 4, 0] rfl)
            · refine lv_lload_n hC.1 hC.2.1 dX5_digest_57 rfl (lv_at hl 1 rfl) ?_
              refine lv_aload_n hC.1 hC.2.1 dX5_digest_58 rfl (lv_at hl 0 rfl) ?_
              refine lv_iload_n hC.1 hC.2.1 dX5_digest_59 rfl (lv_at hl 2 rfl) ?_
              refine lv_iload hC.1 hC.2.1 dX5_digest_60 (lv_at hl 4 rfl) ?_
              refine x_callV hC hw (lv_size hl) (c_X5_bookTold l G h_49 (p0 := b) (by omega) (p1 := j) (by omega) (by omega) (by omega)) gX5_digest_X5_bookTold rfl dv_X5_bookTold h_49.1.1 rfl rfl (Nat.le_of_ble_eq_true rfl) (by rw [hRf]; decide) (by rw [hRl]; decide) (by first | (rw [hRc]; decide) | omega) (by first | (rw [hRs]; decide) | omega) dX5_digest_62 (fun r9 M_84 H locs hq hw => ?_)
              obtain ⟨z_85, rfl, hxz_85, hz_85a, hz_85o⟩ := hq
              have h_86 := h_49.ext hxz_85
              have h_87 := h_50.x5 (xExt.x5 hxz_85)
              show W p l e R s m args below meth c H locs _ _ _ (F0 m 65 ls [.int (iN (z_85)), .long (l9)])
              refine lv_i2l hC.1 hC.2.1 dX5_digest_65 rfl ?_
              refine lv_topl (fun d_88 hd_88 => ?_)
              refine x_callS hC hw (lv_size hl) (c_X5_add l G (M := M_84) (l0 := l9) (l1 := d_88)) gX5_digest_X5_add rfl dv_X5_add_s rfl (Nat.le_of_ble_eq_true rfl) (by rw [hRf]; decide) (by rw [hRl]; decide) (by first | (rw [hRc]; decide) | omega) (by first | (rw [hRs]; decide) | omega) dX5_digest_66 (fun r9 M_89 H locs hq hw => ?_)
              obtain ⟨l_90, rfl, hM9⟩ := hq
              rw [hM9] at hw
              show W p l e R s m args below meth c H locs _ _ _ (F0 m 69 ls [.long (l_90)])
              refine lv_lstore_n (lv' := [(1, .long (l_90)), (0, .ref a), (3, .int (iN (b))), (4, .ref qk_46), (5, .int (iN (j)))]) hC.1 hC.2.1 dX5_digest_69 rfl hl (by decide) rfl (fun ls hl => ?_)
              refine x_iinc (lv' := [(5, .int (iN (j + 1))), (1, .long (l_90)), (0, .ref a), (3, .int (iN (b))), (4, .ref qk_46)]) hC dX5_digest_70 hl (k := 4) rfl (by decide) rfl (fun ls hl => ?_)
              refine lv_goto (tgt := 50) hC.1 hC.2.1 dX5_digest_73 (by decide) ?_
              exact ih50 l_90 (j + 1) (cu50 + 1 + 0) (su50 + 5 + 0) _ ((xExt.tr hxc hxz_85)) _ _ _ (by first | exact mu_s hmz50 (by omega) | omega) (by omega) (by omega) (by omega) hw (lv_sub hl [2, 1, 3, 4, 0] rfl)
    · refine lv_lload_n hC.1 hC.2.1 dX5_digest_17 rfl (lv_at hl 1 rfl) ?_
      refine lv_aload_n hC.1 hC.2.1 dX5_digest_18 rfl (lv_at hl 0 rfl) ?_
      refine lv_iload_n hC.1 hC.2.1 dX5_digest_19 rfl (lv_at hl 2 rfl) ?_
      refine x_callV hC hw (lv_size hl) (c_X5_ledgerTold l G h_4 (p0 := j) (by omega) (by omega)) gX5_digest_X5_ledgerTold rfl dv_X5_ledgerTold h_4.1.1 rfl rfl (Nat.le_of_ble_eq_true rfl) (by rw [hRf]; decide) (by rw [hRl]; decide) (by first | (rw [hRc]; decide) | omega) (by first | (rw [hRs]; decide) | omega) dX5_digest_20 (fun r9 M_91 H locs hq hw => ?_)
      obtain ⟨z_92, rfl, hxz_92, hz_92a, hz_92l⟩ := hq
      have h_93 := h_4.ext hxz_92
      show W p l e R s m args below meth c H locs _ _ _ (F0 m 23 ls [.int (iN (z_92)), .long (l9)])
      refine lv_i2l hC.1 hC.2.1 dX5_digest_23 rfl ?_
      refine lv_topl (fun d_94 hd_94 => ?_)
      refine x_callS hC hw (lv_size hl) (c_X5_add l G (M := M_91) (l0 := l9) (l1 := d_94)) gX5_digest_X5_add rfl dv_X5_add_s rfl (Nat.le_of_ble_eq_true rfl) (by rw [hRf]; decide) (by rw [hRl]; decide) (by first | (rw [hRc]; decide) | omega) (by first | (rw [hRs]; decide) | omega) dX5_digest_24 (fun r9 M_95 H locs hq hw => ?_)
      obtain ⟨l_96, rfl, hM9⟩ := hq
      rw [hM9] at hw
      show W p l e R s m args below meth c H locs _ _ _ (F0 m 27 ls [.long (l_96)])
      refine lv_lstore_n (lv' := [(1, .long (l_96)), (0, .ref a), (3, .int (iN (j)))]) hC.1 hC.2.1 dX5_digest_27 rfl hl (by decide) rfl (fun ls hl => ?_)
      refine x_iinc (lv' := [(3, .int (iN (j + 1))), (1, .long (l_96)), (0, .ref a)]) hC dX5_digest_28 hl (k := 2) rfl (by decide) rfl (fun ls hl => ?_)
      refine lv_goto (tgt := 11) hC.1 hC.2.1 dX5_digest_31 (by decide) ?_
      exact ih11 l_96 (j + 1) (cu11 + 1 + 0) (su11 + 7 + 0) _ ((xExt.tr hxa hxz_92)) _ _ _ (by first | exact mu_s hmz11 (by omega) | omega) (by omega) (by omega) (by omega) hw (lv_sub hl [2, 1, 0] rfl)
