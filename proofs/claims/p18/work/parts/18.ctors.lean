/-! what is made, by program -/
theorem dv_X5_named_s : yX5_named.cls ≠ "java/lang/invoke/MethodHandle" ∧ yX5_named.cls ≠ "java/lang/invoke/VarHandle" ∧ (parseMethodDescriptor yX5_named.desc).map (fun d => d.parameters.length) = some 1 := ⟨nmh_RX5.1, nmh_RX5.2, pds_0⟩
theorem dv_X0_init_s : yX0_init.cls ≠ "java/lang/invoke/MethodHandle" ∧ yX0_init.cls ≠ "java/lang/invoke/VarHandle" ∧ (parseMethodDescriptor yX0_init.desc).map (fun d => d.parameters.length) = some 1 := ⟨nmh_RX0.1, nmh_RX0.2, pds_10⟩
set_option maxHeartbeats 4000000 in
set_option maxRecDepth 100000 in
theorem c_X0_init (l : Launch) (G : xG) {M : HM} {Mb : HM} {b : Nat} (hO : M b = some (.inr (2, [.int 0, .null, .null, .int 0, .int 0, .int 0, .int 0]))) (hq0 : Mb b = none) (hx0 : xExt Mb M) {p0 : Int} (hp0 : -2147483648 ≤ p0 ∧ p0 ≤ 2147483647) (hok : 0 ≤ p0) : xMet l G yX0_init wsX0_init 1 20 2 200 [.ref b, .int (iN (p0))] M (fun r M1 => r = none ∧ xExt Mb M1 ∧ ∃ k v : Nat, BkN G M1 b k v p0.toNat ∧ Mb k = none ∧ Mb v = none) := by
  refine x_intro (cc := cX0_init) (maxL := 2) (ret := none) (by exact pln_RX0) rfl (Nat.le_of_ble_eq_true rfl) ?_
  intro p e R s m args below meth c ls hRf hRc hRs hRl hC hw hl
  have hinX0 : ∀ w ∈ wsX00, w ∈ wsX0_init := fun w h => (List.mem_cons_of_mem _ (List.mem_append_right _ h))
  have hl : lv_has ls 2 [(0, .ref b), (1, .int (iN (p0)))] := hl
  refine lv_aload_n hC.1 hC.2.1 dX0_init_0 rfl (lv_at hl 0 rfl) ?_
  refine x_objInit hC (lv_size hl) (by decide +kernel) (by decide +kernel) (by decide +kernel) (by rw [hRf]; decide) (by rw [hRl]; exact Nat.le_of_ble_eq_true rfl) dX0_init_1 ?_
  refine lv_aload_n hC.1 hC.2.1 dX0_init_4 rfl (lv_at hl 0 rfl) ?_
  refine lv_iload_n hC.1 hC.2.1 dX0_init_5 rfl (lv_at hl 1 rfl) ?_
  refine x_putF (fs2 := [.int (iN (p0)), .null, .null, .int 0, .int 0, .int 0, .int 0]) hC hw hO rfl hinX0 tyX0 tyX0_ok nmX0 0 (by decide) (by decide +kernel) rfl rfl rfl rfl (Nat.le_of_ble_eq_true rfl) rfl dX0_init_6 (fun H locs hw => ?_)
  obtain ⟨M_1, hM_2⟩ : ∃ z, z = va_up M b (some (.inr (2, [.int (iN (p0)), .null, .null, .int 0, .int 0, .int 0, .int 0]))) := ⟨_, rfl⟩
  rw [← hM_2] at hw
  have hx_3 : xExt Mb M_1 := xExt.upd hq0 hx0 hM_2
  have hO_4 := xup_s hM_2
  refine lv_aload_n hC.1 hC.2.1 dX0_init_9 rfl (lv_at hl 0 rfl) ?_
  refine x_bipush hC dX0_init_10 (by decide +kernel) ?_
  refine x_newI hC hw (by decide +kernel) 100 rfl (by decide) (by omega) (by omega) dX0_init_12 (fun q_5 H hq_6 hw => ?_)
  obtain ⟨M_7, hM_8⟩ : ∃ z, z = va_up M_1 q_5 (some (.inl (G.2 1, 100, .inl (fun _ => 0)))) := ⟨_, rfl⟩
  rw [← hM_8] at hw
  have hx_9 : xExt M_1 M_7 := by rw [hM_8]; exact xExt.new hq_6
  have hA_10 : M_7 q_5 = some (.inl (G.2 1, 100, .inl (fun _ => 0))) := by rw [hM_8, va_up_self]
  have h_11 := hx_9 _ _ hO_4
  refine x_putF (fs2 := [.int (iN (p0)), .ref q_5, .null, .int 0, .int 0, .int 0, .int 0]) hC hw h_11 rfl hinX0 tyX0 tyX0_ok nmX0 1 (by decide) (by decide +kernel) rfl rfl rfl rfl (Nat.le_of_ble_eq_true rfl) rfl dX0_init_14 (fun H locs hw => ?_)
  obtain ⟨M_12, hM_13⟩ : ∃ z, z = va_up M_7 b (some (.inr (2, [.int (iN (p0)), .ref q_5, .null, .int 0, .int 0, .int 0, .int 0]))) := ⟨_, rfl⟩
  rw [← hM_13] at hw
  have hx_14 : xExt Mb M_12 := xExt.upd hq0 (xExt.tr hx_3 hx_9) hM_13
  have hO_15 := xup_s hM_13
  have h_16 := x_kA hM_13 h_11 hA_10
  refine lv_aload_n hC.1 hC.2.1 dX0_init_17 rfl (lv_at hl 0 rfl) ?_
  refine x_bipush hC dX0_init_18 (by decide +kernel) ?_
  refine x_newI hC hw (by decide +kernel) 100 rfl (by decide) (by omega) (by omega) dX0_init_20 (fun q_17 H hq_18 hw => ?_)
  obtain ⟨M_19, hM_20⟩ : ∃ z, z = va_up M_12 q_17 (some (.inl (G.2 1, 100, .inl (fun _ => 0)))) := ⟨_, rfl⟩
  rw [← hM_20] at hw
  have hx_21 : xExt M_12 M_19 := by rw [hM_20]; exact xExt.new hq_18
  have hA_22 : M_19 q_17 = some (.inl (G.2 1, 100, .inl (fun _ => 0))) := by rw [hM_20, va_up_self]
  have h_23 := hx_21 _ _ h_16
  have h_24 := hx_21 _ _ hO_15
  have hkv9 : q_5 ≠ q_17 := fun e9 => by have h8 := h_16; rw [e9, hq_18] at h8; cases h8
  refine x_putF (fs2 := [.int (iN (p0)), .ref q_5, .ref q_17, .int 0, .int 0, .int 0, .int 0]) hC hw h_24 rfl hinX0 tyX0 tyX0_ok nmX0 2 (by decide) (by decide +kernel) rfl rfl rfl rfl (Nat.le_of_ble_eq_true rfl) rfl dX0_init_22 (fun H locs hw => ?_)
  obtain ⟨M_25, hM_26⟩ : ∃ z, z = va_up M_19 b (some (.inr (2, [.int (iN (p0)), .ref q_5, .ref q_17, .int 0, .int 0, .int 0, .int 0]))) := ⟨_, rfl⟩
  rw [← hM_26] at hw
  have hx_27 : xExt Mb M_25 := xExt.upd hq0 (xExt.tr hx_14 hx_21) hM_26
  have hO_28 := xup_s hM_26
  have h_29 := x_kA hM_26 h_24 h_23
  have h_30 := x_kA hM_26 h_24 hA_22
  refine lv_aload_n hC.1 hC.2.1 dX0_init_25 rfl (lv_at hl 0 rfl) ?_
  refine lv_iload_n hC.1 hC.2.1 dX0_init_26 rfl (lv_at hl 1 rfl) ?_
  refine x_put (fs2 := [.int (iN (p0)), .ref q_5, .ref q_17, .int (iN (p0)), .int 0, .int 0, .int 0]) hC hw hO_28 rfl hinX0 tyX0 tyX0_ok nmX0 3 (by decide) (List.mem_cons_of_mem _ (List.mem_append_left _ (List.mem_of_getElem? (i := 7) rfl))) rfl rfl rfl (Nat.le_of_ble_eq_true rfl) rfl dX0_init_27 (fun H locs hw => ?_)
  obtain ⟨M_31, hM_32⟩ : ∃ z, z = va_up M_25 b (some (.inr (2, [.int (iN (p0)), .ref q_5, .ref q_17, .int (iN (p0)), .int 0, .int 0, .int 0]))) := ⟨_, rfl⟩
  rw [← hM_32] at hw
  have hx_33 : xExt Mb M_31 := xExt.upd hq0 hx_27 hM_32
  have hO_34 := xup_s hM_32
  have h_35 := x_kA hM_32 hO_28 h_29
  have h_36 := x_kA hM_32 hO_28 h_30
  exact x_vret hC hw dX0_init_30 (by first | decide | omega) (by first | decide | omega) ⟨rfl, hx_33, _, _, BkN.new hok hO_34 h_35 h_36 hkv9, (xExt.fr hx_3 hq_6), (xExt.fr hx_14 hq_18)⟩
set_option maxHeartbeats 4000000 in
set_option maxRecDepth 100000 in
theorem c_X5_named (l : Launch) (G : xG) {M : HM} {p0 : Int} (hp0 : -2147483648 ≤ p0 ∧ p0 ≤ 2147483647) (hok : 0 ≤ p0 ∧ p0 ≤ 99) : xMet l G yX5_named wsX5_named 0 0 0 0 [.int (iN (p0))] M (fun r M1 => ∃ z : Int, r = some (.int (iN z)) ∧ M1 = M ∧ (0 ≤ z ∧ z ≤ 999) ∧ z = ((nmN (p0).toNat : Nat) : Int)) := by
  refine x_intro (cc := cX5_named) (maxL := 4) (ret := (some .int)) (by exact pln_RX5) rfl (Nat.le_of_ble_eq_true rfl) ?_
  intro p e R s m args below meth c ls hRf hRc hRs hRl hC hw hl
  have hnl : nmN (p0).toNat ≤ 999 := nm_le (by omega)
  have hl : lv_has ls 4 [(0, .int (iN (p0)))] := hl
  refine x_const hC dX5_named_0 ?_
  refine lv_istore_n (lv' := [(1, .int (iN (0))), (0, .int (iN (p0)))]) hC.1 hC.2.1 dX5_named_1 rfl hl (by decide) rfl (fun ls hl => ?_)
  refine x_const hC dX5_named_2 ?_
  refine lv_istore_n (lv' := [(2, .int (iN (0))), (1, .int (iN (0))), (0, .int (iN (p0)))]) hC.1 hC.2.1 dX5_named_3 rfl hl (by decide) rfl (fun ls hl => ?_)
  refine x_bipush hC dX5_named_4 (by decide +kernel) ?_
  refine lv_istore_n (lv' := [(3, .int (iN (64))), (2, .int (iN (0))), (1, .int (iN (0))), (0, .int (iN (p0)))]) hC.1 hC.2.1 dX5_named_6 rfl hl (by decide) rfl (fun ls hl => ?_)
  suffices hloop7 : ∀ (n9 : Nat) (mk : Int) (lt : Int) (un : Int) (H : Heap) (locs : List Loc) (ls : Array Slot), (hmz7 : un.toNat < n9) → (hun : (un = 64 ∧ lt = nmL p0 0 ∧ mk = nmM p0 0) ∨ (un = 16 ∧ lt = nmL p0 1 ∧ mk = nmM p0 1) ∨ (un = 4 ∧ lt = nmL p0 2 ∧ mk = nmM p0 2) ∨ (un = 1 ∧ lt = nmL p0 3 ∧ mk = nmM p0 3) ∨ (un = 0 ∧ lt = nmL p0 4 ∧ mk = nmM p0 4)) → xD G (xA M s.heap.size) s M H locs → lv_has ls 4 [(0, .int (iN (p0))), (1, .int (iN (mk))), (2, .int (iN (lt))), (3, .int (iN (un)))] → W p l e R s m args below meth c H locs _ _ _ (F0 m 7 ls []) by
    exact hloop7 _ 0 0 64  _ _ _ (Nat.lt_succ_self _) (Or.inl ⟨rfl, rfl, rfl⟩) hw (lv_sub hl [3, 2, 1, 0] rfl)
  intro n9
  induction n9 with
  | zero => intro mk lt un  H locs ls hmz; exact absurd hmz (Nat.not_lt_zero _)
  | succ n9 ih7 =>
    intro mk lt un  H locs ls hmz7 hun hw hl
    refine lv_iload_n hC.1 hC.2.1 dX5_named_7 rfl (lv_at hl 3 rfl) ?_
    refine x_if_le (tgt := 46) hC ⟨by omega, by omega⟩ dX5_named_8 (by decide) (fun c_1 => ?_) (fun c_1 => ?_)
    · suffices hloop46 : ∀ (n9 : Nat) (mk : Int) (lt : Int) (H : Heap) (locs : List Loc) (ls : Array Slot), (hmz46 : (4 - lt).toNat < n9) → (hmk : ((lt = 1 ∧ mk * 125 = (nmN (p0).toNat : Int)) ∨ (lt = 2 ∧ mk * 25 = (nmN (p0).toNat : Int)) ∨ (lt = 3 ∧ mk * 5 = (nmN (p0).toNat : Int)) ∨ (lt = 4 ∧ mk = (nmN (p0).toNat : Int)))) → xD G (xA M s.heap.size) s M H locs → lv_has ls 4 [(0, .int (iN (p0))), (1, .int (iN (mk))), (2, .int (iN (lt)))] → W p l e R s m args below meth c H locs _ _ _ (F0 m 46 ls []) by
        exact hloop46 _ mk lt  _ _ _ (Nat.lt_succ_self _) (by have e9 := nm_end (p := p0) hok; rcases hun with h9 | h9 | h9 | h9 | h9; (· omega); (· omega); (· omega); (· omega); (· obtain ⟨h9, h8, h7⟩ := h9; rw [h8, h7]; exact e9)) hw (lv_sub hl [0, 1, 2] rfl)
      intro n9
      induction n9 with
      | zero => intro mk lt  H locs ls hmz; exact absurd hmz (Nat.not_lt_zero _)
      | succ n9 ih46 =>
        intro mk lt  H locs ls hmz46 hmk hw hl
        refine lv_iload_n hC.1 hC.2.1 dX5_named_46 rfl (lv_at hl 2 rfl) ?_
        refine x_const hC dX5_named_47 ?_
        refine x_icmp_ge (tgt := 61) hC ⟨by omega, by omega⟩ ⟨by omega, by omega⟩ dX5_named_48 (by decide) (fun c_2 => ?_) (fun c_2 => ?_)
        · refine lv_iload_n hC.1 hC.2.1 dX5_named_61 rfl (lv_at hl 1 rfl) ?_
          exact x_iret hC hw dX5_named_62 (by first | decide | omega) (by first | decide | omega) ⟨mk, rfl, rfl, by omega, by omega⟩
        · refine lv_iload_n hC.1 hC.2.1 dX5_named_51 rfl (lv_at hl 1 rfl) ?_
          refine x_const hC dX5_named_52 ?_
          refine x_imul hC dX5_named_53 ?_
          refine lv_istore_n (lv' := [(1, .int (iN (mk * 5))), (0, .int (iN (p0))), (2, .int (iN (lt)))]) hC.1 hC.2.1 dX5_named_54 rfl hl (by decide) rfl (fun ls hl => ?_)
          refine x_iinc (lv' := [(2, .int (iN (lt + 1))), (1, .int (iN (mk * 5))), (0, .int (iN (p0)))]) hC dX5_named_55 hl (k := 2) rfl (by decide) rfl (fun ls hl => ?_)
          refine lv_goto (tgt := 46) hC.1 hC.2.1 dX5_named_58 (by decide) ?_
          exact ih46 (mk * 5) (lt + 1)  _ _ _ (by first | exact mu_s hmz46 (by omega) | omega) (by rcases hmk with h9 | h9 | h9 | h9 <;> omega) hw (lv_sub hl [2, 1, 0] rfl)
    · rcases hun with ⟨h9, h8, h7⟩ | ⟨h9, h8, h7⟩ | ⟨h9, h8, h7⟩ | ⟨h9, h8, h7⟩ | ⟨h9, h8, h7⟩
      · subst h9
        refine lv_iload_n hC.1 hC.2.1 dX5_named_11 rfl (lv_at hl 0 rfl) ?_
        refine lv_iload_n hC.1 hC.2.1 dX5_named_12 rfl (lv_at hl 3 rfl) ?_
        refine x_icmp_ge (tgt := 24) hC ⟨by omega, by omega⟩ ⟨by omega, by omega⟩ dX5_named_13 (by decide) (fun c_3 => ?_) (fun c_3 => ?_)
        · refine lv_iload_n hC.1 hC.2.1 dX5_named_24 rfl (lv_at hl 1 rfl) ?_
          refine x_const hC dX5_named_25 ?_
          refine x_imul hC dX5_named_26 ?_
          refine lv_iload_n hC.1 hC.2.1 dX5_named_27 rfl (lv_at hl 0 rfl) ?_
          refine lv_iload_n hC.1 hC.2.1 dX5_named_28 rfl (lv_at hl 3 rfl) ?_
          refine x_idivN hC (by omega) (by omega) (by omega) (by omega) dX5_named_29 ?_
          refine x_const hC dX5_named_30 ?_
          refine x_iremN hC (by omega) (by omega) (by omega) (by omega) dX5_named_31 ?_
          refine x_iadd hC dX5_named_32 ?_
          refine x_const hC dX5_named_33 ?_
          refine x_iadd hC dX5_named_34 ?_
          refine lv_istore_n (lv' := [(1, .int (iN (((mk * 5) + ((p0 / 64) % 4)) + 1))), (0, .int (iN (p0))), (2, .int (iN (lt))), (3, .int (iN (64)))]) hC.1 hC.2.1 dX5_named_35 rfl hl (by decide) rfl (fun ls hl => ?_)
          refine x_iinc (lv' := [(2, .int (iN (lt + 1))), (1, .int (iN (((mk * 5) + ((p0 / 64) % 4)) + 1))), (0, .int (iN (p0))), (3, .int (iN (64)))]) hC dX5_named_36 hl (k := 2) rfl (by decide) rfl (fun ls hl => ?_)
          refine lv_iload_n hC.1 hC.2.1 dX5_named_39 rfl (lv_at hl 3 rfl) ?_
          refine x_const hC dX5_named_40 ?_
          refine x_idivN hC (by omega) (by omega) (by omega) (by omega) dX5_named_41 ?_
          refine lv_istore_n (lv' := [(3, .int (iN (64 / 4))), (2, .int (iN (lt + 1))), (1, .int (iN (((mk * 5) + ((p0 / 64) % 4)) + 1))), (0, .int (iN (p0)))]) hC.1 hC.2.1 dX5_named_42 rfl hl (by decide) rfl (fun ls hl => ?_)
          refine lv_goto (tgt := 7) hC.1 hC.2.1 dX5_named_43 (by decide) ?_
          exact ih7 (((mk * 5) + ((p0 / 64) % 4)) + 1) (lt + 1) (64 / 4)  _ _ _ (by omega) (by have e9 := nm_s0 p0; (refine Or.inr (Or.inl ?_); omega)) hw (lv_sub hl [3, 2, 1, 0] rfl)
        · refine lv_iload_n hC.1 hC.2.1 dX5_named_16 rfl (lv_at hl 3 rfl) ?_
          refine x_const hC dX5_named_17 ?_
          refine x_icmp_le (tgt := 24) hC ⟨by omega, by omega⟩ ⟨by omega, by omega⟩ dX5_named_18 (by decide) (fun c_4 => ?_) (fun c_4 => ?_)
          · refine lv_iload_n hC.1 hC.2.1 dX5_named_24 rfl (lv_at hl 1 rfl) ?_
            refine x_const hC dX5_named_25 ?_
            refine x_imul hC dX5_named_26 ?_
            refine lv_iload_n hC.1 hC.2.1 dX5_named_27 rfl (lv_at hl 0 rfl) ?_
            refine lv_iload_n hC.1 hC.2.1 dX5_named_28 rfl (lv_at hl 3 rfl) ?_
            refine x_idivN hC (by omega) (by omega) (by omega) (by omega) dX5_named_29 ?_
            refine x_const hC dX5_named_30 ?_
            refine x_iremN hC (by omega) (by omega) (by omega) (by omega) dX5_named_31 ?_
            refine x_iadd hC dX5_named_32 ?_
            refine x_const hC dX5_named_33 ?_
            refine x_iadd hC dX5_named_34 ?_
            refine lv_istore_n (lv' := [(1, .int (iN (((mk * 5) + ((p0 / 64) % 4)) + 1))), (0, .int (iN (p0))), (2, .int (iN (lt))), (3, .int (iN (64)))]) hC.1 hC.2.1 dX5_named_35 rfl hl (by decide) rfl (fun ls hl => ?_)
            refine x_iinc (lv' := [(2, .int (iN (lt + 1))), (1, .int (iN (((mk * 5) + ((p0 / 64) % 4)) + 1))), (0, .int (iN (p0))), (3, .int (iN (64)))]) hC dX5_named_36 hl (k := 2) rfl (by decide) rfl (fun ls hl => ?_)
            refine lv_iload_n hC.1 hC.2.1 dX5_named_39 rfl (lv_at hl 3 rfl) ?_
            refine x_const hC dX5_named_40 ?_
            refine x_idivN hC (by omega) (by omega) (by omega) (by omega) dX5_named_41 ?_
            refine lv_istore_n (lv' := [(3, .int (iN (64 / 4))), (2, .int (iN (lt + 1))), (1, .int (iN (((mk * 5) + ((p0 / 64) % 4)) + 1))), (0, .int (iN (p0)))]) hC.1 hC.2.1 dX5_named_42 rfl hl (by decide) rfl (fun ls hl => ?_)
            refine lv_goto (tgt := 7) hC.1 hC.2.1 dX5_named_43 (by decide) ?_
            exact ih7 (((mk * 5) + ((p0 / 64) % 4)) + 1) (lt + 1) (64 / 4)  _ _ _ (by omega) (by have e9 := nm_s0 p0; (refine Or.inr (Or.inl ?_); omega)) hw (lv_sub hl [3, 2, 1, 0] rfl)
          · refine lv_goto (tgt := 39) hC.1 hC.2.1 dX5_named_21 (by decide) ?_
            refine lv_iload_n hC.1 hC.2.1 dX5_named_39 rfl (lv_at hl 3 rfl) ?_
            refine x_const hC dX5_named_40 ?_
            refine x_idivN hC (by omega) (by omega) (by omega) (by omega) dX5_named_41 ?_
            refine lv_istore_n (lv' := [(3, .int (iN (64 / 4))), (0, .int (iN (p0))), (1, .int (iN (mk))), (2, .int (iN (lt)))]) hC.1 hC.2.1 dX5_named_42 rfl hl (by decide) rfl (fun ls hl => ?_)
            refine lv_goto (tgt := 7) hC.1 hC.2.1 dX5_named_43 (by decide) ?_
            exact ih7 mk lt (64 / 4)  _ _ _ (by omega) (by have e9 := nm_s0 p0; (refine Or.inr (Or.inl ?_); omega)) hw (lv_sub hl [1, 2, 3, 0] rfl)
      · subst h9
        refine lv_iload_n hC.1 hC.2.1 dX5_named_11 rfl (lv_at hl 0 rfl) ?_
        refine lv_iload_n hC.1 hC.2.1 dX5_named_12 rfl (lv_at hl 3 rfl) ?_
        refine x_icmp_ge (tgt := 24) hC ⟨by omega, by omega⟩ ⟨by omega, by omega⟩ dX5_named_13 (by decide) (fun c_5 => ?_) (fun c_5 => ?_)
        · refine lv_iload_n hC.1 hC.2.1 dX5_named_24 rfl (lv_at hl 1 rfl) ?_
          refine x_const hC dX5_named_25 ?_
          refine x_imul hC dX5_named_26 ?_
          refine lv_iload_n hC.1 hC.2.1 dX5_named_27 rfl (lv_at hl 0 rfl) ?_
          refine lv_iload_n hC.1 hC.2.1 dX5_named_28 rfl (lv_at hl 3 rfl) ?_
          refine x_idivN hC (by omega) (by omega) (by omega) (by omega) dX5_named_29 ?_
          refine x_const hC dX5_named_30 ?_
          refine x_iremN hC (by omega) (by omega) (by omega) (by omega) dX5_named_31 ?_
          refine x_iadd hC dX5_named_32 ?_
          refine x_const hC dX5_named_33 ?_
          refine x_iadd hC dX5_named_34 ?_
          refine lv_istore_n (lv' := [(1, .int (iN (((mk * 5) + ((p0 / 16) % 4)) + 1))), (0, .int (iN (p0))), (2, .int (iN (lt))), (3, .int (iN (16)))]) hC.1 hC.2.1 dX5_named_35 rfl hl (by decide) rfl (fun ls hl => ?_)
          refine x_iinc (lv' := [(2, .int (iN (lt + 1))), (1, .int (iN (((mk * 5) + ((p0 / 16) % 4)) + 1))), (0, .int (iN (p0))), (3, .int (iN (16)))]) hC dX5_named_36 hl (k := 2) rfl (by decide) rfl (fun ls hl => ?_)
          refine lv_iload_n hC.1 hC.2.1 dX5_named_39 rfl (lv_at hl 3 rfl) ?_
          refine x_const hC dX5_named_40 ?_
          refine x_idivN hC (by omega) (by omega) (by omega) (by omega) dX5_named_41 ?_
          refine lv_istore_n (lv' := [(3, .int (iN (16 / 4))), (2, .int (iN (lt + 1))), (1, .int (iN (((mk * 5) + ((p0 / 16) % 4)) + 1))), (0, .int (iN (p0)))]) hC.1 hC.2.1 dX5_named_42 rfl hl (by decide) rfl (fun ls hl => ?_)
          refine lv_goto (tgt := 7) hC.1 hC.2.1 dX5_named_43 (by decide) ?_
          exact ih7 (((mk * 5) + ((p0 / 16) % 4)) + 1) (lt + 1) (16 / 4)  _ _ _ (by omega) (by have e9 := nm_s1 p0; (refine Or.inr (Or.inr (Or.inl ?_)); omega)) hw (lv_sub hl [3, 2, 1, 0] rfl)
        · refine lv_iload_n hC.1 hC.2.1 dX5_named_16 rfl (lv_at hl 3 rfl) ?_
          refine x_const hC dX5_named_17 ?_
          refine x_icmp_le (tgt := 24) hC ⟨by omega, by omega⟩ ⟨by omega, by omega⟩ dX5_named_18 (by decide) (fun c_6 => ?_) (fun c_6 => ?_)
          · refine lv_iload_n hC.1 hC.2.1 dX5_named_24 rfl (lv_at hl 1 rfl) ?_
            refine x_const hC dX5_named_25 ?_
            refine x_imul hC dX5_named_26 ?_
            refine lv_iload_n hC.1 hC.2.1 dX5_named_27 rfl (lv_at hl 0 rfl) ?_
            refine lv_iload_n hC.1 hC.2.1 dX5_named_28 rfl (lv_at hl 3 rfl) ?_
            refine x_idivN hC (by omega) (by omega) (by omega) (by omega) dX5_named_29 ?_
            refine x_const hC dX5_named_30 ?_
            refine x_iremN hC (by omega) (by omega) (by omega) (by omega) dX5_named_31 ?_
            refine x_iadd hC dX5_named_32 ?_
            refine x_const hC dX5_named_33 ?_
            refine x_iadd hC dX5_named_34 ?_
            refine lv_istore_n (lv' := [(1, .int (iN (((mk * 5) + ((p0 / 16) % 4)) + 1))), (0, .int (iN (p0))), (2, .int (iN (lt))), (3, .int (iN (16)))]) hC.1 hC.2.1 dX5_named_35 rfl hl (by decide) rfl (fun ls hl => ?_)
            refine x_iinc (lv' := [(2, .int (iN (lt + 1))), (1, .int (iN (((mk * 5) + ((p0 / 16) % 4)) + 1))), (0, .int (iN (p0))), (3, .int (iN (16)))]) hC dX5_named_36 hl (k := 2) rfl (by decide) rfl (fun ls hl => ?_)
            refine lv_iload_n hC.1 hC.2.1 dX5_named_39 rfl (lv_at hl 3 rfl) ?_
            refine x_const hC dX5_named_40 ?_
            refine x_idivN hC (by omega) (by omega) (by omega) (by omega) dX5_named_41 ?_
            refine lv_istore_n (lv' := [(3, .int (iN (16 / 4))), (2, .int (iN (lt + 1))), (1, .int (iN (((mk * 5) + ((p0 / 16) % 4)) + 1))), (0, .int (iN (p0)))]) hC.1 hC.2.1 dX5_named_42 rfl hl (by decide) rfl (fun ls hl => ?_)
            refine lv_goto (tgt := 7) hC.1 hC.2.1 dX5_named_43 (by decide) ?_
            exact ih7 (((mk * 5) + ((p0 / 16) % 4)) + 1) (lt + 1) (16 / 4)  _ _ _ (by omega) (by have e9 := nm_s1 p0; (refine Or.inr (Or.inr (Or.inl ?_)); omega)) hw (lv_sub hl [3, 2, 1, 0] rfl)
          · refine lv_goto (tgt := 39) hC.1 hC.2.1 dX5_named_21 (by decide) ?_
            refine lv_iload_n hC.1 hC.2.1 dX5_named_39 rfl (lv_at hl 3 rfl) ?_
            refine x_const hC dX5_named_40 ?_
            refine x_idivN hC (by omega) (by omega) (by omega) (by omega) dX5_named_41 ?_
            refine lv_istore_n (lv' := [(3, .int (iN (16 / 4))), (0, .int (iN (p0))), (1, .int (iN (mk))), (2, .int (iN (lt)))]) hC.1 hC.2.1 dX5_named_42 rfl hl (by decide) rfl (fun ls hl => ?_)
            refine lv_goto (tgt := 7) hC.1 hC.2.1 dX5_named_43 (by decide) ?_
            exact ih7 mk lt (16 / 4)  _ _ _ (by omega) (by have e9 := nm_s1 p0; (refine Or.inr (Or.inr (Or.inl ?_)); omega)) hw (lv_sub hl [1, 2, 3, 0] rfl)
      · subst h9
        refine lv_iload_n hC.1 hC.2.1 dX5_named_11 rfl (lv_at hl 0 rfl) ?_
        refine lv_iload_n hC.1 hC.2.1 dX5_named_12 rfl (lv_at hl 3 rfl) ?_
        refine x_icmp_ge (tgt := 24) hC ⟨by omega, by omega⟩ ⟨by omega, by omega⟩ dX5_named_13 (by decide) (fun c_7 => ?_) (fun c_7 => ?_)
        · refine lv_iload_n hC.1 hC.2.1 dX5_named_24 rfl (lv_at hl 1 rfl) ?_
          refine x_const hC dX5_named_25 ?_
          refine x_imul hC dX5_named_26 ?_
          refine lv_iload_n hC.1 hC.2.1 dX5_named_27 rfl (lv_at hl 0 rfl) ?_
          refine lv_iload_n hC.1 hC.2.1 dX5_named_28 rfl (lv_at hl 3 rfl) ?_
          refine x_idivN hC (by omega) (by omega) (by omega) (by omega) dX5_named_29 ?_
          refine x_const hC dX5_named_30 ?_
          refine x_iremN hC (by omega) (by omega) (by omega) (by omega) dX5_named_31 ?_
          refine x_iadd hC dX5_named_32 ?_
          refine x_const hC dX5_named_33 ?_
          refine x_iadd hC dX5_named_34 ?_
          refine lv_istore_n (lv' := [(1, .int (iN (((mk * 5) + ((p0 / 4) % 4)) + 1))), (0, .int (iN (p0))), (2, .int (iN (lt))), (3, .int (iN (4)))]) hC.1 hC.2.1 dX5_named_35 rfl hl (by decide) rfl (fun ls hl => ?_)
          refine x_iinc (lv' := [(2, .int (iN (lt + 1))), (1, .int (iN (((mk * 5) + ((p0 / 4) % 4)) + 1))), (0, .int (iN (p0))), (3, .int (iN (4)))]) hC dX5_named_36 hl (k := 2) rfl (by decide) rfl (fun ls hl => ?_)
          refine lv_iload_n hC.1 hC.2.1 dX5_named_39 rfl (lv_at hl 3 rfl) ?_
          refine x_const hC dX5_named_40 ?_
          refine x_idivN hC (by omega) (by omega) (by omega) (by omega) dX5_named_41 ?_
          refine lv_istore_n (lv' := [(3, .int (iN (4 / 4))), (2, .int (iN (lt + 1))), (1, .int (iN (((mk * 5) + ((p0 / 4) % 4)) + 1))), (0, .int (iN (p0)))]) hC.1 hC.2.1 dX5_named_42 rfl hl (by decide) rfl (fun ls hl => ?_)
          refine lv_goto (tgt := 7) hC.1 hC.2.1 dX5_named_43 (by decide) ?_
          exact ih7 (((mk * 5) + ((p0 / 4) % 4)) + 1) (lt + 1) (4 / 4)  _ _ _ (by omega) (by have e9 := nm_s2 p0; (refine Or.inr (Or.inr (Or.inr (Or.inl ?_))); omega)) hw (lv_sub hl [3, 2, 1, 0] rfl)
        · refine lv_iload_n hC.1 hC.2.1 dX5_named_16 rfl (lv_at hl 3 rfl) ?_
          refine x_const hC dX5_named_17 ?_
          refine x_icmp_le (tgt := 24) hC ⟨by omega, by omega⟩ ⟨by omega, by omega⟩ dX5_named_18 (by decide) (fun c_8 => ?_) (fun c_8 => ?_)
          · refine lv_iload_n hC.1 hC.2.1 dX5_named_24 rfl (lv_at hl 1 rfl) ?_
            refine x_const hC dX5_named_25 ?_
            refine x_imul hC dX5_named_26 ?_
            refine lv_iload_n hC.1 hC.2.1 dX5_named_27 rfl (lv_at hl 0 rfl) ?_
            refine lv_iload_n hC.1 hC.2.1 dX5_named_28 rfl (lv_at hl 3 rfl) ?_
            refine x_idivN hC (by omega) (by omega) (by omega) (by omega) dX5_named_29 ?_
            refine x_const hC dX5_named_30 ?_
            refine x_iremN hC (by omega) (by omega) (by omega) (by omega) dX5_named_31 ?_
            refine x_iadd hC dX5_named_32 ?_
            refine x_const hC dX5_named_33 ?_
            refine x_iadd hC dX5_named_34 ?_
            refine lv_istore_n (lv' := [(1, .int (iN (((mk * 5) + ((p0 / 4) % 4)) + 1))), (0, .int (iN (p0))), (2, .int (iN (lt))), (3, .int (iN (4)))]) hC.1 hC.2.1 dX5_named_35 rfl hl (by decide) rfl (fun ls hl => ?_)
            refine x_iinc (lv' := [(2, .int (iN (lt + 1))), (1, .int (iN (((mk * 5) + ((p0 / 4) % 4)) + 1))), (0, .int (iN (p0))), (3, .int (iN (4)))]) hC dX5_named_36 hl (k := 2) rfl (by decide) rfl (fun ls hl => ?_)
            refine lv_iload_n hC.1 hC.2.1 dX5_named_39 rfl (lv_at hl 3 rfl) ?_
            refine x_const hC dX5_named_40 ?_
            refine x_idivN hC (by omega) (by omega) (by omega) (by omega) dX5_named_41 ?_
            refine lv_istore_n (lv' := [(3, .int (iN (4 / 4))), (2, .int (iN (lt + 1))), (1, .int (iN (((mk * 5) + ((p0 / 4) % 4)) + 1))), (0, .int (iN (p0)))]) hC.1 hC.2.1 dX5_named_42 rfl hl (by decide) rfl (fun ls hl => ?_)
            refine lv_goto (tgt := 7) hC.1 hC.2.1 dX5_named_43 (by decide) ?_
            exact ih7 (((mk * 5) + ((p0 / 4) % 4)) + 1) (lt + 1) (4 / 4)  _ _ _ (by omega) (by have e9 := nm_s2 p0; (refine Or.inr (Or.inr (Or.inr (Or.inl ?_))); omega)) hw (lv_sub hl [3, 2, 1, 0] rfl)
          · refine lv_goto (tgt := 39) hC.1 hC.2.1 dX5_named_21 (by decide) ?_
            refine lv_iload_n hC.1 hC.2.1 dX5_named_39 rfl (lv_at hl 3 rfl) ?_
            refine x_const hC dX5_named_40 ?_
            refine x_idivN hC (by omega) (by omega) (by omega) (by omega) dX5_named_41 ?_
            refine lv_istore_n (lv' := [(3, .int (iN (4 / 4))), (0, .int (iN (p0))), (1, .int (iN (mk))), (2, .int (iN (lt)))]) hC.1 hC.2.1 dX5_named_42 rfl hl (by decide) rfl (fun ls hl => ?_)
            refine lv_goto (tgt := 7) hC.1 hC.2.1 dX5_named_43 (by decide) ?_
            exact ih7 mk lt (4 / 4)  _ _ _ (by omega) (by have e9 := nm_s2 p0; (refine Or.inr (Or.inr (Or.inr (Or.inl ?_))); omega)) hw (lv_sub hl [1, 2, 3, 0] rfl)
      · subst h9
        refine lv_iload_n hC.1 hC.2.1 dX5_named_11 rfl (lv_at hl 0 rfl) ?_
        refine lv_iload_n hC.1 hC.2.1 dX5_named_12 rfl (lv_at hl 3 rfl) ?_
        refine x_icmp_ge (tgt := 24) hC ⟨by omega, by omega⟩ ⟨by omega, by omega⟩ dX5_named_13 (by decide) (fun c_9 => ?_) (fun c_9 => ?_)
        · refine lv_iload_n hC.1 hC.2.1 dX5_named_24 rfl (lv_at hl 1 rfl) ?_
          refine x_const hC dX5_named_25 ?_
          refine x_imul hC dX5_named_26 ?_
          refine lv_iload_n hC.1 hC.2.1 dX5_named_27 rfl (lv_at hl 0 rfl) ?_
          refine lv_iload_n hC.1 hC.2.1 dX5_named_28 rfl (lv_at hl 3 rfl) ?_
          refine x_idivN hC (by omega) (by omega) (by omega) (by omega) dX5_named_29 ?_
          refine x_const hC dX5_named_30 ?_
          refine x_iremN hC (by omega) (by omega) (by omega) (by omega) dX5_named_31 ?_
          refine x_iadd hC dX5_named_32 ?_
          refine x_const hC dX5_named_33 ?_
          refine x_iadd hC dX5_named_34 ?_
          refine lv_istore_n (lv' := [(1, .int (iN (((mk * 5) + ((p0 / 1) % 4)) + 1))), (0, .int (iN (p0))), (2, .int (iN (lt))), (3, .int (iN (1)))]) hC.1 hC.2.1 dX5_named_35 rfl hl (by decide) rfl (fun ls hl => ?_)
          refine x_iinc (lv' := [(2, .int (iN (lt + 1))), (1, .int (iN (((mk * 5) + ((p0 / 1) % 4)) + 1))), (0, .int (iN (p0))), (3, .int (iN (1)))]) hC dX5_named_36 hl (k := 2) rfl (by decide) rfl (fun ls hl => ?_)
          refine lv_iload_n hC.1 hC.2.1 dX5_named_39 rfl (lv_at hl 3 rfl) ?_
          refine x_const hC dX5_named_40 ?_
          refine x_idivN hC (by omega) (by omega) (by omega) (by omega) dX5_named_41 ?_
          refine lv_istore_n (lv' := [(3, .int (iN (1 / 4))), (2, .int (iN (lt + 1))), (1, .int (iN (((mk * 5) + ((p0 / 1) % 4)) + 1))), (0, .int (iN (p0)))]) hC.1 hC.2.1 dX5_named_42 rfl hl (by decide) rfl (fun ls hl => ?_)
          refine lv_goto (tgt := 7) hC.1 hC.2.1 dX5_named_43 (by decide) ?_
          exact ih7 (((mk * 5) + ((p0 / 1) % 4)) + 1) (lt + 1) (1 / 4)  _ _ _ (by omega) (by have e9 := nm_s3 p0; (refine Or.inr (Or.inr (Or.inr (Or.inr ?_))); omega)) hw (lv_sub hl [3, 2, 1, 0] rfl)
        · refine lv_iload_n hC.1 hC.2.1 dX5_named_16 rfl (lv_at hl 3 rfl) ?_
          refine x_const hC dX5_named_17 ?_
          refine x_icmp_le (tgt := 24) hC ⟨by omega, by omega⟩ ⟨by omega, by omega⟩ dX5_named_18 (by decide) (fun c_10 => ?_) (fun c_10 => ?_)
          · refine lv_iload_n hC.1 hC.2.1 dX5_named_24 rfl (lv_at hl 1 rfl) ?_
            refine x_const hC dX5_named_25 ?_
            refine x_imul hC dX5_named_26 ?_
            refine lv_iload_n hC.1 hC.2.1 dX5_named_27 rfl (lv_at hl 0 rfl) ?_
            refine lv_iload_n hC.1 hC.2.1 dX5_named_28 rfl (lv_at hl 3 rfl) ?_
            refine x_idivN hC (by omega) (by omega) (by omega) (by omega) dX5_named_29 ?_
            refine x_const hC dX5_named_30 ?_
            refine x_iremN hC (by omega) (by omega) (by omega) (by omega) dX5_named_31 ?_
            refine x_iadd hC dX5_named_32 ?_
            refine x_const hC dX5_named_33 ?_
            refine x_iadd hC dX5_named_34 ?_
            refine lv_istore_n (lv' := [(1, .int (iN (((mk * 5) + ((p0 / 1) % 4)) + 1))), (0, .int (iN (p0))), (2, .int (iN (lt))), (3, .int (iN (1)))]) hC.1 hC.2.1 dX5_named_35 rfl hl (by decide) rfl (fun ls hl => ?_)
            refine x_iinc (lv' := [(2, .int (iN (lt + 1))), (1, .int (iN (((mk * 5) + ((p0 / 1) % 4)) + 1))), (0, .int (iN (p0))), (3, .int (iN (1)))]) hC dX5_named_36 hl (k := 2) rfl (by decide) rfl (fun ls hl => ?_)
            refine lv_iload_n hC.1 hC.2.1 dX5_named_39 rfl (lv_at hl 3 rfl) ?_
            refine x_const hC dX5_named_40 ?_
            refine x_idivN hC (by omega) (by omega) (by omega) (by omega) dX5_named_41 ?_
            refine lv_istore_n (lv' := [(3, .int (iN (1 / 4))), (2, .int (iN (lt + 1))), (1, .int (iN (((mk * 5) + ((p0 / 1) % 4)) + 1))), (0, .int (iN (p0)))]) hC.1 hC.2.1 dX5_named_42 rfl hl (by decide) rfl (fun ls hl => ?_)
            refine lv_goto (tgt := 7) hC.1 hC.2.1 dX5_named_43 (by decide) ?_
            exact ih7 (((mk * 5) + ((p0 / 1) % 4)) + 1) (lt + 1) (1 / 4)  _ _ _ (by omega) (by have e9 := nm_s3 p0; (refine Or.inr (Or.inr (Or.inr (Or.inr ?_))); omega)) hw (lv_sub hl [3, 2, 1, 0] rfl)
          · refine lv_goto (tgt := 39) hC.1 hC.2.1 dX5_named_21 (by decide) ?_
            refine lv_iload_n hC.1 hC.2.1 dX5_named_39 rfl (lv_at hl 3 rfl) ?_
            refine x_const hC dX5_named_40 ?_
            refine x_idivN hC (by omega) (by omega) (by omega) (by omega) dX5_named_41 ?_
            refine lv_istore_n (lv' := [(3, .int (iN (1 / 4))), (0, .int (iN (p0))), (1, .int (iN (mk))), (2, .int (iN (lt)))]) hC.1 hC.2.1 dX5_named_42 rfl hl (by decide) rfl (fun ls hl => ?_)
            refine lv_goto (tgt := 7) hC.1 hC.2.1 dX5_named_43 (by decide) ?_
            exact ih7 mk lt (1 / 4)  _ _ _ (by omega) (by have e9 := nm_s3 p0; (refine Or.inr (Or.inr (Or.inr (Or.inr ?_))); omega)) hw (lv_sub hl [1, 2, 3, 0] rfl)
      · subst h9
        exfalso; omega
set_option maxHeartbeats 4000000 in
set_option maxRecDepth 100000 in
theorem c_X5_init (l : Launch) (G : xG) {M : HM} {Mb : HM} {a : Nat} (hO : M a = some (.inr (7, [.int 0, .int 0, .null, .null, .null, .null, .null, .int 0, .int 0, .int 0, .int 0, .int 0, .int 0]))) (hq0 : Mb a = none) (hx0 : xExt Mb M) : xMet l G yX5_init wsX5_init 1 23 10 613 [.ref a] M (fun r M1 => r = none ∧ xExt Mb M1 ∧ MGm G M1 a (fun _ => false) 0 ST0) := by
  refine x_intro (cc := cX5_init) (maxL := 3) (ret := none) (by exact pln_RX5) rfl (Nat.le_of_ble_eq_true rfl) ?_
  intro p e R s m args below meth c ls hRf hRc hRs hRl hC hw hl
  have hinX5 : ∀ w ∈ wsX50, w ∈ wsX5_init := fun w h => (List.mem_cons_of_mem _ (List.mem_append_right _ h))
  have hl : lv_has ls 3 [(0, .ref a)] := hl
  refine lv_aload_n hC.1 hC.2.1 dX5_init_0 rfl (lv_at hl 0 rfl) ?_
  refine x_objInit hC (lv_size hl) (by decide +kernel) (by decide +kernel) (by decide +kernel) (by rw [hRf]; decide) (by rw [hRl]; exact Nat.le_of_ble_eq_true rfl) dX5_init_1 ?_
  refine lv_aload_n hC.1 hC.2.1 dX5_init_4 rfl (lv_at hl 0 rfl) ?_
  refine x_const hC dX5_init_5 ?_
  refine x_bipush hC dX5_init_6 (by decide +kernel) ?_
  refine x_mna hC hw (by decide +kernel) (by decide +kernel) 3 100 rfl rfl (by decide) (by decide) (by omega) (by omega) dX5_init_8 (fun q_1 r_2 M_3 H hxx_4 hqx_4 hnx_4 hdx_4 hex_4 hQx_4 hRwx_4 hw => ?_)
  have h_5 := hxx_4 _ _ hO
  refine x_putF (fs2 := [.int 0, .int 0, .ref q_1, .null, .null, .null, .null, .int 0, .int 0, .int 0, .int 0, .int 0, .int 0]) hC hw h_5 rfl hinX5 tyX5 tyX5_ok nmX5 2 (by decide) (by decide +kernel) rfl rfl rfl rfl (Nat.le_of_ble_eq_true rfl) rfl dX5_init_12 (fun H locs hw => ?_)
  obtain ⟨M_6, hM_7⟩ : ∃ z, z = va_up M_3 a (some (.inr (7, [.int 0, .int 0, .ref q_1, .null, .null, .null, .null, .int 0, .int 0, .int 0, .int 0, .int 0, .int 0]))) := ⟨_, rfl⟩
  rw [← hM_7] at hw
  have hx_8 : xExt Mb M_6 := xExt.upd hq0 (xExt.tr hx0 hxx_4) hM_7
  have hO_9 := xup_s hM_7
  have h_10 := x_kA hM_7 h_5 hQx_4
  have h_11 := fun i9 hi9 => x_kA hM_7 h_5 (hRwx_4 i9 hi9)
  refine lv_aload_n hC.1 hC.2.1 dX5_init_15 rfl (lv_at hl 0 rfl) ?_
  refine x_const hC dX5_init_16 ?_
  refine x_newI hC hw (by decide +kernel) 3 rfl (by decide) (by omega) (by omega) dX5_init_17 (fun q_12 H hq_13 hw => ?_)
  obtain ⟨M_14, hM_15⟩ : ∃ z, z = va_up M_6 q_12 (some (.inl (G.2 1, 3, .inl (fun _ => 0)))) := ⟨_, rfl⟩
  rw [← hM_15] at hw
  have hx_16 : xExt M_6 M_14 := by rw [hM_15]; exact xExt.new hq_13
  have hA_17 : M_14 q_12 = some (.inl (G.2 1, 3, .inl (fun _ => 0))) := by rw [hM_15, va_up_self]
  have h_18 := hx_16 _ _ h_10
  have h_19 := fun i9 hi9 => hx_16 _ _ (h_11 i9 hi9)
  have h_20 := hx_16 _ _ hO_9
  refine lv_dup hC.1 hC.2.1 dX5_init_19 rfl ?_
  refine x_const hC dX5_init_20 ?_
  refine x_const hC dX5_init_21 ?_
  refine x_iast hC hw hA_17 (by omega) (by omega) (by omega) dX5_init_22 (fun H locs hw => ?_)
  obtain ⟨M_21, hM_22⟩ : ∃ z, z = va_up M_14 q_12 (some (.inl (G.2 1, 3, .inl (upd (fun _ => 0) (0 : Int).toNat (iN (0)))))) := ⟨_, rfl⟩
  rw [← hM_22] at hw
  have hA_23 : M_21 q_12 = some (.inl (G.2 1, 3, .inl (upd (fun _ => 0) (0 : Int).toNat (iN (0))))) := by rw [hM_22, va_up_self]
  have hx_24 := xExt.upd hq_13 hx_16 hM_22
  have h_25 := hx_24 _ _ h_10
  have h_26 := fun i9 hi9 => hx_24 _ _ (h_11 i9 hi9)
  have h_27 := hx_24 _ _ hO_9
  refine lv_dup hC.1 hC.2.1 dX5_init_23 rfl ?_
  refine x_const hC dX5_init_24 ?_
  refine x_const hC dX5_init_25 ?_
  refine x_iast hC hw hA_23 (by omega) (by omega) (by omega) dX5_init_26 (fun H locs hw => ?_)
  obtain ⟨M_28, hM_29⟩ : ∃ z, z = va_up M_21 q_12 (some (.inl (G.2 1, 3, .inl (upd (upd (fun _ => 0) (0 : Int).toNat (iN (0))) (1 : Int).toNat (iN (1)))))) := ⟨_, rfl⟩
  rw [← hM_29] at hw
  have hA_30 : M_28 q_12 = some (.inl (G.2 1, 3, .inl (upd (upd (fun _ => 0) (0 : Int).toNat (iN (0))) (1 : Int).toNat (iN (1))))) := by rw [hM_29, va_up_self]
  have hx_31 := xExt.upd hq_13 hx_24 hM_29
  have h_32 := hx_31 _ _ h_10
  have h_33 := fun i9 hi9 => hx_31 _ _ (h_11 i9 hi9)
  have h_34 := hx_31 _ _ hO_9
  refine lv_dup hC.1 hC.2.1 dX5_init_27 rfl ?_
  refine x_const hC dX5_init_28 ?_
  refine x_const hC dX5_init_29 ?_
  refine x_iast hC hw hA_30 (by omega) (by omega) (by omega) dX5_init_30 (fun H locs hw => ?_)
  obtain ⟨M_35, hM_36⟩ : ∃ z, z = va_up M_28 q_12 (some (.inl (G.2 1, 3, .inl (upd (upd (upd (fun _ => 0) (0 : Int).toNat (iN (0))) (1 : Int).toNat (iN (1))) (2 : Int).toNat (iN (2)))))) := ⟨_, rfl⟩
  rw [← hM_36] at hw
  have hA_37 : M_35 q_12 = some (.inl (G.2 1, 3, .inl (upd (upd (upd (fun _ => 0) (0 : Int).toNat (iN (0))) (1 : Int).toNat (iN (1))) (2 : Int).toNat (iN (2))))) := by rw [hM_36, va_up_self]
  have hx_38 := xExt.upd hq_13 hx_31 hM_36
  have h_39 := hx_38 _ _ h_10
  have h_40 := fun i9 hi9 => hx_38 _ _ (h_11 i9 hi9)
  have h_41 := hx_38 _ _ hO_9
  refine x_putF (fs2 := [.int 0, .int 0, .ref q_1, .ref q_12, .null, .null, .null, .int 0, .int 0, .int 0, .int 0, .int 0, .int 0]) hC hw h_41 rfl hinX5 tyX5 tyX5_ok nmX5 3 (by decide) (by decide +kernel) rfl rfl rfl rfl (Nat.le_of_ble_eq_true rfl) rfl dX5_init_31 (fun H locs hw => ?_)
  obtain ⟨M_42, hM_43⟩ : ∃ z, z = va_up M_35 a (some (.inr (7, [.int 0, .int 0, .ref q_1, .ref q_12, .null, .null, .null, .int 0, .int 0, .int 0, .int 0, .int 0, .int 0]))) := ⟨_, rfl⟩
  rw [← hM_43] at hw
  have hx_44 : xExt Mb M_42 := xExt.upd hq0 (xExt.tr hx_8 hx_38) hM_43
  have hO_45 := xup_s hM_43
  have h_46 := x_kA hM_43 h_41 h_39
  have h_47 := fun i9 hi9 => x_kA hM_43 h_41 (h_40 i9 hi9)
  have h_48 := x_kA hM_43 h_41 hA_37
  refine lv_aload_n hC.1 hC.2.1 dX5_init_34 rfl (lv_at hl 0 rfl) ?_
  refine x_const hC dX5_init_35 ?_
  refine x_bipush hC dX5_init_36 (by decide +kernel) ?_
  refine x_mna hC hw (by decide +kernel) (by decide +kernel) 3 100 rfl rfl (by decide) (by decide) (by omega) (by omega) dX5_init_38 (fun q_49 r_50 M_51 H hxx_52 hqx_52 hnx_52 hdx_52 hex_52 hQx_52 hRwx_52 hw => ?_)
  have hwv : ∀ i j, i < 3 → j < 3 → r_50 i ≠ r_2 j := fun i9 j9 hi9 hj9 e9 => by have h8 := h_47 j9 hj9; rw [← e9, hnx_52 i9 hi9] at h8; cases h8
  have h_53 := hxx_52 _ _ h_46
  have h_54 := fun i9 hi9 => hxx_52 _ _ (h_47 i9 hi9)
  have h_55 := hxx_52 _ _ h_48
  have h_56 := hxx_52 _ _ hO_45
  refine x_putF (fs2 := [.int 0, .int 0, .ref q_1, .ref q_12, .ref q_49, .null, .null, .int 0, .int 0, .int 0, .int 0, .int 0, .int 0]) hC hw h_56 rfl hinX5 tyX5 tyX5_ok nmX5 4 (by decide) (by decide +kernel) rfl rfl rfl rfl (Nat.le_of_ble_eq_true rfl) rfl dX5_init_42 (fun H locs hw => ?_)
  obtain ⟨M_57, hM_58⟩ : ∃ z, z = va_up M_51 a (some (.inr (7, [.int 0, .int 0, .ref q_1, .ref q_12, .ref q_49, .null, .null, .int 0, .int 0, .int 0, .int 0, .int 0, .int 0]))) := ⟨_, rfl⟩
  rw [← hM_58] at hw
  have hx_59 : xExt Mb M_57 := xExt.upd hq0 (xExt.tr hx_44 hxx_52) hM_58
  have hO_60 := xup_s hM_58
  have h_61 := x_kA hM_58 h_56 h_53
  have h_62 := fun i9 hi9 => x_kA hM_58 h_56 (h_54 i9 hi9)
  have h_63 := x_kA hM_58 h_56 h_55
  have h_64 := x_kA hM_58 h_56 hQx_52
  have h_65 := fun i9 hi9 => x_kA hM_58 h_56 (hRwx_52 i9 hi9)
  refine lv_aload_n hC.1 hC.2.1 dX5_init_45 rfl (lv_at hl 0 rfl) ?_
  refine x_const hC dX5_init_46 ?_
  refine x_newA hC hw (by decide +kernel) 4 rfl (by decide) (by omega) (by omega) dX5_init_47 (fun q_66 H hq_67 hw => ?_)
  obtain ⟨M_68, hM_69⟩ : ∃ z, z = va_up M_57 q_66 (some (.inl (G.2 4, 4, .inr (.inr (.inr (.inr (fun _ => none))))))) := ⟨_, rfl⟩
  rw [← hM_69] at hw
  have hx_70 : xExt M_57 M_68 := by rw [hM_69]; exact xExt.new hq_67
  have hA_71 := xup_s hM_69
  have h_72 := hx_70 _ _ h_61
  have h_73 := fun i9 hi9 => hx_70 _ _ (h_62 i9 hi9)
  have h_74 := hx_70 _ _ h_63
  have h_75 := hx_70 _ _ h_64
  have h_76 := fun i9 hi9 => hx_70 _ _ (h_65 i9 hi9)
  have h_77 := hx_70 _ _ hO_60
  refine x_putF (fs2 := [.int 0, .int 0, .ref q_1, .ref q_12, .ref q_49, .ref q_66, .null, .int 0, .int 0, .int 0, .int 0, .int 0, .int 0]) hC hw h_77 rfl hinX5 tyX5 tyX5_ok nmX5 5 (by decide) (by decide +kernel) rfl rfl rfl rfl (Nat.le_of_ble_eq_true rfl) rfl dX5_init_50 (fun H locs hw => ?_)
  obtain ⟨M_78, hM_79⟩ : ∃ z, z = va_up M_68 a (some (.inr (7, [.int 0, .int 0, .ref q_1, .ref q_12, .ref q_49, .ref q_66, .null, .int 0, .int 0, .int 0, .int 0, .int 0, .int 0]))) := ⟨_, rfl⟩
  rw [← hM_79] at hw
  have hx_80 : xExt Mb M_78 := xExt.upd hq0 (xExt.tr hx_59 hx_70) hM_79
  have hO_81 := xup_s hM_79
  have h_82 := x_kA hM_79 h_77 h_72
  have h_83 := fun i9 hi9 => x_kA hM_79 h_77 (h_73 i9 hi9)
  have h_84 := x_kA hM_79 h_77 h_74
  have h_85 := x_kA hM_79 h_77 h_75
  have h_86 := fun i9 hi9 => x_kA hM_79 h_77 (h_76 i9 hi9)
  have h_87 := x_kA hM_79 h_77 hA_71
  refine lv_aload_n hC.1 hC.2.1 dX5_init_53 rfl (lv_at hl 0 rfl) ?_
  refine x_sipush hC dX5_init_54 (by decide +kernel) ?_
  refine x_put (fs2 := [.int 0, .int 0, .ref q_1, .ref q_12, .ref q_49, .ref q_66, .null, .int 0, .int 0, .int (iN ((-10000))), .int 0, .int 0, .int 0]) hC hw hO_81 rfl hinX5 tyX5 tyX5_ok nmX5 9 (by decide) (List.mem_cons_of_mem _ (List.mem_append_left _ (List.mem_of_getElem? (i := 10) rfl))) rfl rfl rfl (Nat.le_of_ble_eq_true rfl) rfl dX5_init_57 (fun H locs hw => ?_)
  obtain ⟨M_88, hM_89⟩ : ∃ z, z = va_up M_78 a (some (.inr (7, [.int 0, .int 0, .ref q_1, .ref q_12, .ref q_49, .ref q_66, .null, .int 0, .int 0, .int (iN ((-10000))), .int 0, .int 0, .int 0]))) := ⟨_, rfl⟩
  rw [← hM_89] at hw
  have hx_90 : xExt Mb M_88 := xExt.upd hq0 hx_80 hM_89
  have hO_91 := xup_s hM_89
  have h_92 := x_kA hM_89 hO_81 h_82
  have h_93 := fun i9 hi9 => x_kA hM_89 hO_81 (h_83 i9 hi9)
  have h_94 := x_kA hM_89 hO_81 h_84
  have h_95 := x_kA hM_89 hO_81 h_85
  have h_96 := fun i9 hi9 => x_kA hM_89 hO_81 (h_86 i9 hi9)
  have h_97 := x_kA hM_89 hO_81 h_87
  refine lv_aload_n hC.1 hC.2.1 dX5_init_60 rfl (lv_at hl 0 rfl) ?_
  refine x_sipush hC dX5_init_61 (by decide +kernel) ?_
  refine x_put (fs2 := [.int 0, .int 0, .ref q_1, .ref q_12, .ref q_49, .ref q_66, .null, .int 0, .int 0, .int (iN ((-10000))), .int (iN ((-10000))), .int 0, .int 0]) hC hw hO_91 rfl hinX5 tyX5 tyX5_ok nmX5 10 (by decide) (List.mem_cons_of_mem _ (List.mem_append_left _ (List.mem_of_getElem? (i := 11) rfl))) rfl rfl rfl (Nat.le_of_ble_eq_true rfl) rfl dX5_init_64 (fun H locs hw => ?_)
  obtain ⟨M_98, hM_99⟩ : ∃ z, z = va_up M_88 a (some (.inr (7, [.int 0, .int 0, .ref q_1, .ref q_12, .ref q_49, .ref q_66, .null, .int 0, .int 0, .int (iN ((-10000))), .int (iN ((-10000))), .int 0, .int 0]))) := ⟨_, rfl⟩
  rw [← hM_99] at hw
  have hx_100 : xExt Mb M_98 := xExt.upd hq0 hx_90 hM_99
  have hO_101 := xup_s hM_99
  have h_102 := x_kA hM_99 hO_91 h_92
  have h_103 := fun i9 hi9 => x_kA hM_99 hO_91 (h_93 i9 hi9)
  have h_104 := x_kA hM_99 hO_91 h_94
  have h_105 := x_kA hM_99 hO_91 h_95
  have h_106 := fun i9 hi9 => x_kA hM_99 hO_91 (h_96 i9 hi9)
  have h_107 := x_kA hM_99 hO_91 h_97
  refine lv_aload_n hC.1 hC.2.1 dX5_init_67 rfl (lv_at hl 0 rfl) ?_
  refine x_sipush hC dX5_init_68 (by decide +kernel) ?_
  refine x_put (fs2 := [.int 0, .int 0, .ref q_1, .ref q_12, .ref q_49, .ref q_66, .null, .int 0, .int 0, .int (iN ((-10000))), .int (iN ((-10000))), .int (iN ((-10000))), .int 0]) hC hw hO_101 rfl hinX5 tyX5 tyX5_ok nmX5 11 (by decide) (List.mem_cons_of_mem _ (List.mem_append_left _ (List.mem_of_getElem? (i := 12) rfl))) rfl rfl rfl (Nat.le_of_ble_eq_true rfl) rfl dX5_init_71 (fun H locs hw => ?_)
  obtain ⟨M_108, hM_109⟩ : ∃ z, z = va_up M_98 a (some (.inr (7, [.int 0, .int 0, .ref q_1, .ref q_12, .ref q_49, .ref q_66, .null, .int 0, .int 0, .int (iN ((-10000))), .int (iN ((-10000))), .int (iN ((-10000))), .int 0]))) := ⟨_, rfl⟩
  rw [← hM_109] at hw
  have hx_110 : xExt Mb M_108 := xExt.upd hq0 hx_100 hM_109
  have hO_111 := xup_s hM_109
  have h_112 := x_kA hM_109 hO_101 h_102
  have h_113 := fun i9 hi9 => x_kA hM_109 hO_101 (h_103 i9 hi9)
  have h_114 := x_kA hM_109 hO_101 h_104
  have h_115 := x_kA hM_109 hO_101 h_105
  have h_116 := fun i9 hi9 => x_kA hM_109 hO_101 (h_106 i9 hi9)
  have h_117 := x_kA hM_109 hO_101 h_107
  refine lv_aload_n hC.1 hC.2.1 dX5_init_74 rfl (lv_at hl 0 rfl) ?_
  refine x_sipush hC dX5_init_75 (by decide +kernel) ?_
  refine x_put (fs2 := [.int 0, .int 0, .ref q_1, .ref q_12, .ref q_49, .ref q_66, .null, .int 0, .int 0, .int (iN ((-10000))), .int (iN ((-10000))), .int (iN ((-10000))), .int (iN ((-10000)))]) hC hw hO_111 rfl hinX5 tyX5 tyX5_ok nmX5 12 (by decide) (List.mem_cons_of_mem _ (List.mem_append_left _ (List.mem_of_getElem? (i := 13) rfl))) rfl rfl rfl (Nat.le_of_ble_eq_true rfl) rfl dX5_init_78 (fun H locs hw => ?_)
  obtain ⟨M_118, hM_119⟩ : ∃ z, z = va_up M_108 a (some (.inr (7, [.int 0, .int 0, .ref q_1, .ref q_12, .ref q_49, .ref q_66, .null, .int 0, .int 0, .int (iN ((-10000))), .int (iN ((-10000))), .int (iN ((-10000))), .int (iN ((-10000)))]))) := ⟨_, rfl⟩
  rw [← hM_119] at hw
  have hx_120 : xExt Mb M_118 := xExt.upd hq0 hx_110 hM_119
  have hO_121 := xup_s hM_119
  have h_122 := x_kA hM_119 hO_111 h_112
  have h_123 := fun i9 hi9 => x_kA hM_119 hO_111 (h_113 i9 hi9)
  have h_124 := x_kA hM_119 hO_111 h_114
  have h_125 := x_kA hM_119 hO_111 h_115
  have h_126 := fun i9 hi9 => x_kA hM_119 hO_111 (h_116 i9 hi9)
  have h_127 := x_kA hM_119 hO_111 h_117
  have hmbv : ∀ i, i < 3 → Mb (r_2 i) = none := fun i hi => xExt.fr hx0 (hnx_4 i hi)
  have hmbw : ∀ i, i < 3 → Mb (r_50 i) = none := fun i hi => xExt.fr hx_44 (hnx_52 i hi)
  have hR0 : MIx G M_118 a q_1 q_12 q_49 q_66 r_2 r_50 (fun i => if i < 3 then some (r_2 i) else none) (fun i => if i < 3 then some (r_50 i) else none) (fun _ _ => 0) (fun _ _ => 0) := ⟨hO_121, h_122, (by rw [← O00_row]; exact h_124), h_125, h_127, fun j hj => if_pos hj, fun j hj => if_pos hj, h_123, h_126, hdx_4, hwv, hdx_52⟩
  refine x_const hC dX5_init_81 ?_
  refine lv_istore_n (lv' := [(1, .int (iN (0))), (0, .ref a)]) hC.1 hC.2.1 dX5_init_82 rfl hl (by decide) rfl (fun ls hl => ?_)
  suffices hloop83 : ∀ (n9 : Nat) (j : Int) (M1 : HM) (fvv1 fw1 : Nat → Nat → Int32) (hR1 : MIx G M1 a q_1 q_12 q_49 q_66 r_2 r_50 (fun i => if i < 3 then some (r_2 i) else none) (fun i => if i < 3 then some (r_50 i) else none) fvv1 fw1) (hx1 : xExt Mb M1) (hf1 : miF fvv1 fw1 (j).toNat) (H : Heap) (locs : List Loc) (ls : Array Slot), (hmz83 : (100 - j).toNat < n9) → (hi0 : 0 ≤ j ∧ j ≤ 100) → xD G (xA M s.heap.size) s M1 H locs → lv_has ls 3 [(0, .ref a), (1, .int (iN (j)))] → W p l e R s m args below meth c H locs _ _ _ (F0 m 83 ls []) by
    exact hloop83 _ 0 _ _ _ hR0 hx_120 miF_0 _ _ _ (Nat.lt_succ_self _) (by omega) hw (lv_sub hl [1, 0] rfl)
  intro n9
  induction n9 with
  | zero => intro j M1 fvv1 fw1 hR1 hx1 hf1 H locs ls hmz; exact absurd hmz (Nat.not_lt_zero _)
  | succ n9 ih83 =>
    intro j M1 fvv1 fw1 hR1 hx1 hf1 H locs ls hmz83 hi0 hw hl
    refine lv_iload_n hC.1 hC.2.1 dX5_init_83 rfl (lv_at hl 1 rfl) ?_
    refine x_bipush hC dX5_init_84 (by decide +kernel) ?_
    refine x_icmp_ge (tgt := 166) hC ⟨by omega, by omega⟩ ⟨by omega, by omega⟩ dX5_init_86 (by decide) (fun c_128 => ?_) (fun c_128 => ?_)
    · exact x_vret hC hw dX5_init_166 (by first | decide | omega) (by first | decide | omega) ⟨rfl, hx1, MIx.done hR1 (by have e9 := hf1; rw [show (j).toNat = 100 from tn_eq (by omega)] at e9; exact e9) _⟩
    · refine x_const hC dX5_init_89 ?_
      refine lv_istore_n (lv' := [(2, .int (iN (0))), (0, .ref a), (1, .int (iN (j)))]) hC.1 hC.2.1 dX5_init_90 rfl hl (by decide) rfl (fun ls hl => ?_)
      suffices hloop91 : ∀ (n9 : Nat) (b : Int) (M1 : HM) (fvv1 : Nat → Nat → Int32) (hR1 : MIx G M1 a q_1 q_12 q_49 q_66 r_2 r_50 (fun i => if i < 3 then some (r_2 i) else none) (fun i => if i < 3 then some (r_50 i) else none) fvv1 fw1) (hx1 : xExt Mb M1) (hb1 : miB fvv1 (j).toNat (b).toNat) (H : Heap) (locs : List Loc) (ls : Array Slot), (hmz91 : (3 - b).toNat < n9) → (hi1 : 0 ≤ b ∧ b ≤ 3) → xD G (xA M s.heap.size) s M1 H locs → lv_has ls 3 [(0, .ref a), (1, .int (iN (j))), (2, .int (iN (b)))] → W p l e R s m args below meth c H locs _ _ _ (F0 m 91 ls []) by
        exact hloop91 _ 0 _ _ hR1 hx1 (miB_0 hf1) _ _ _ (Nat.lt_succ_self _) (by omega) hw (lv_sub hl [1, 2, 0] rfl)
      intro n9
      induction n9 with
      | zero => intro b M1 fvv1 hR1 hx1 hb1 H locs ls hmz; exact absurd hmz (Nat.not_lt_zero _)
      | succ n9 ih91 =>
        intro b M1 fvv1 hR1 hx1 hb1 H locs ls hmz91 hi1 hw hl
        refine lv_iload_n hC.1 hC.2.1 dX5_init_91 rfl (lv_at hl 2 rfl) ?_
        refine x_const hC dX5_init_92 ?_
        refine x_icmp_ge (tgt := 113) hC ⟨by omega, by omega⟩ ⟨by omega, by omega⟩ dX5_init_93 (by decide) (fun c_129 => ?_) (fun c_129 => ?_)
        · refine lv_aload_n hC.1 hC.2.1 dX5_init_113 rfl (lv_at hl 0 rfl) ?_
          refine x_get hC hw hR1.1 rfl hinX5 4 (by decide) (List.mem_cons_of_mem _ (List.mem_append_left _ (List.mem_of_getElem? (i := 7) rfl))) rfl dX5_init_114 ?_
          refine x_const hC dX5_init_117 ?_
          refine x_ald4 hC hw hR1.2.2.2.1 (by omega) (by omega) (by omega) dX5_init_118 ?_
          rw [hR1.fb' (show (0 : Int).toNat < 3 by decide)]
          show W p l e R s m args below meth c _ _ _ _ _ (F0 m 119 ls [.ref (r_50 ((0 : Int).toNat))])
          refine lv_iload_n hC.1 hC.2.1 dX5_init_119 rfl (lv_at hl 1 rfl) ?_
          refine lv_iload_n hC.1 hC.2.1 dX5_init_120 rfl (lv_at hl 1 rfl) ?_
          refine x_iast hC hw (hR1.rw' (show ((0 : Int).toNat) < 3 by decide)) (by omega) (by omega) (by omega) dX5_init_121 (fun H locs hw => ?_)
          obtain ⟨M_130, hM_131⟩ : ∃ z, z = va_up M1 (r_50 ((0 : Int).toNat)) (some (.inl (G.2 1, 100, .inl (upd (fw1 ((0 : Int).toNat)) (j).toNat (iN (j)))))) := ⟨_, rfl⟩
          rw [← hM_131] at hw
          have hR_132 := hR1.wgt (j := ((0 : Int).toNat)) (v := j) (by omega) hM_131
          obtain ⟨fw_133, hfw_133⟩ : ∃ z, z = vUp fw1 ((0 : Int).toNat) (upd (fw1 ((0 : Int).toNat)) (j).toNat (iN (j))) := ⟨_, rfl⟩
          rw [← hfw_133] at hR_132
          have hx_134 : xExt Mb M_130 := xExt.upd (hmbw _ (by omega)) hx1 hM_131
          refine lv_aload_n hC.1 hC.2.1 dX5_init_122 rfl (lv_at hl 0 rfl) ?_
          refine x_get hC hw hR_132.1 rfl hinX5 4 (by decide) (List.mem_cons_of_mem _ (List.mem_append_left _ (List.mem_of_getElem? (i := 7) rfl))) rfl dX5_init_123 ?_
          refine x_const hC dX5_init_126 ?_
          refine x_ald4 hC hw hR_132.2.2.2.1 (by omega) (by omega) (by omega) dX5_init_127 ?_
          rw [hR_132.fb' (show (1 : Int).toNat < 3 by decide)]
          show W p l e R s m args below meth c _ _ _ _ _ (F0 m 128 ls [.ref (r_50 ((1 : Int).toNat))])
          refine lv_iload_n hC.1 hC.2.1 dX5_init_128 rfl (lv_at hl 1 rfl) ?_
          refine lv_iload_n hC.1 hC.2.1 dX5_init_129 rfl (lv_at hl 1 rfl) ?_
          refine x_const hC dX5_init_130 ?_
          refine x_iremN hC (by omega) (by omega) (by omega) (by omega) dX5_init_131 ?_
          refine x_if_ne (tgt := 142) hC ⟨by omega, by omega⟩ dX5_init_132 (by decide) (fun c_135 => ?_) (fun c_135 => ?_)
          · refine x_sipush hC dX5_init_142 (by decide +kernel) ?_
            refine lv_iload_n hC.1 hC.2.1 dX5_init_145 rfl (lv_at hl 1 rfl) ?_
            refine x_isub hC dX5_init_146 ?_
            refine x_iast hC hw (hR_132.rw' (show ((1 : Int).toNat) < 3 by decide)) (by omega) (by omega) (by omega) dX5_init_147 (fun H locs hw => ?_)
            obtain ⟨M_136, hM_137⟩ : ∃ z, z = va_up M_130 (r_50 ((1 : Int).toNat)) (some (.inl (G.2 1, 100, .inl (upd (fw_133 ((1 : Int).toNat)) (j).toNat (iN (199 - j)))))) := ⟨_, rfl⟩
            rw [← hM_137] at hw
            have hR_138 := hR_132.wgt (j := ((1 : Int).toNat)) (v := 199 - j) (by omega) hM_137
            obtain ⟨fw_139, hfw_139⟩ : ∃ z, z = vUp fw_133 ((1 : Int).toNat) (upd (fw_133 ((1 : Int).toNat)) (j).toNat (iN (199 - j))) := ⟨_, rfl⟩
            rw [← hfw_139] at hR_138
            have hx_140 : xExt Mb M_136 := xExt.upd (hmbw _ (by omega)) hx_134 hM_137
            refine lv_aload_n hC.1 hC.2.1 dX5_init_148 rfl (lv_at hl 0 rfl) ?_
            refine x_get hC hw hR_138.1 rfl hinX5 4 (by decide) (List.mem_cons_of_mem _ (List.mem_append_left _ (List.mem_of_getElem? (i := 7) rfl))) rfl dX5_init_149 ?_
            refine x_const hC dX5_init_152 ?_
            refine x_ald4 hC hw hR_138.2.2.2.1 (by omega) (by omega) (by omega) dX5_init_153 ?_
            rw [hR_138.fb' (show (2 : Int).toNat < 3 by decide)]
            show W p l e R s m args below meth c _ _ _ _ _ (F0 m 154 ls [.ref (r_50 ((2 : Int).toNat))])
            refine lv_iload_n hC.1 hC.2.1 dX5_init_154 rfl (lv_at hl 1 rfl) ?_
            refine lv_iload_n hC.1 hC.2.1 dX5_init_155 rfl (lv_at hl 1 rfl) ?_
            refine x_callS hC hw (lv_size hl) (c_X5_named l G (M := M_136) (p0 := j) (by omega) (by omega)) gX5_init_X5_named rfl dv_X5_named_s rfl (Nat.le_of_ble_eq_true rfl) (by rw [hRf]; decide) (by rw [hRl]; decide) (by first | (rw [hRc]; decide) | omega) (by first | (rw [hRs]; decide) | omega) dX5_init_156 (fun r9 M_141 H locs hq hw => ?_)
            obtain ⟨z_142, rfl, hM9, hz_142a, hz_142n⟩ := hq
            rw [hM9] at hw
            show W p l e R s m args below meth c H locs _ _ _ (F0 m 159 ls [.int (iN (z_142)), .int (iN (j)), .ref (r_50 ((2 : Int).toNat))])
            refine x_iast hC hw (hR_138.rw' (show ((2 : Int).toNat) < 3 by decide)) (by omega) (by omega) (by omega) dX5_init_159 (fun H locs hw => ?_)
            obtain ⟨M_143, hM_144⟩ : ∃ z, z = va_up M_136 (r_50 ((2 : Int).toNat)) (some (.inl (G.2 1, 100, .inl (upd (fw_139 ((2 : Int).toNat)) (j).toNat (iN (z_142)))))) := ⟨_, rfl⟩
            rw [← hM_144] at hw
            have hR_145 := hR_138.wgt (j := ((2 : Int).toNat)) (v := z_142) (by omega) hM_144
            obtain ⟨fw_146, hfw_146⟩ : ∃ z, z = vUp fw_139 ((2 : Int).toNat) (upd (fw_139 ((2 : Int).toNat)) (j).toNat (iN (z_142))) := ⟨_, rfl⟩
            rw [← hfw_146] at hR_145
            have hx_147 : xExt Mb M_143 := xExt.upd (hmbw _ (by omega)) hx_140 hM_144
            refine x_iinc (lv' := [(1, .int (iN (j + 1))), (0, .ref a), (2, .int (iN (b)))]) hC dX5_init_160 hl (k := 1) rfl (by decide) rfl (fun ls hl => ?_)
            refine lv_goto (tgt := 83) hC.1 hC.2.1 dX5_init_163 (by decide) ?_
            exact ih83 (j + 1) _ _ _ hR_145 hx_147 (by have k1 := mw_k0 (j).toNat; have k2 := mw_k1 (n := (j).toNat) (by omega); have k3 := mw_k2 (j).toNat; have e9 := miF_s (show miB fvv1 (j).toNat 3 by have e8 := hb1; rw [show (b).toNat = 3 from tn_eq (by omega)] at e8; exact e8) (fun i9 k9 hi9 hk9 => (hf1 i9 k9 hi9).2 hk9) (by omega) (by omega) (by rw [k3]; exact hz_142n) hfw_133 hfw_139 hfw_146; rw [show (j + 1).toNat = (j).toNat + 1 from tn_s (by omega)]; exact e9) _ _ _ (by first | exact mu_s hmz83 (by omega) | omega) (by omega) hw (lv_sub hl [1, 0] rfl)
          · refine x_bipush hC dX5_init_135 (by decide +kernel) ?_
            refine lv_iload_n hC.1 hC.2.1 dX5_init_137 rfl (lv_at hl 1 rfl) ?_
            refine x_isub hC dX5_init_138 ?_
            refine lv_goto (tgt := 147) hC.1 hC.2.1 dX5_init_139 (by decide) ?_
            refine x_iast hC hw (hR_132.rw' (show ((1 : Int).toNat) < 3 by decide)) (by omega) (by omega) (by omega) dX5_init_147 (fun H locs hw => ?_)
            obtain ⟨M_148, hM_149⟩ : ∃ z, z = va_up M_130 (r_50 ((1 : Int).toNat)) (some (.inl (G.2 1, 100, .inl (upd (fw_133 ((1 : Int).toNat)) (j).toNat (iN (98 - j)))))) := ⟨_, rfl⟩
            rw [← hM_149] at hw
            have hR_150 := hR_132.wgt (j := ((1 : Int).toNat)) (v := 98 - j) (by omega) hM_149
            obtain ⟨fw_151, hfw_151⟩ : ∃ z, z = vUp fw_133 ((1 : Int).toNat) (upd (fw_133 ((1 : Int).toNat)) (j).toNat (iN (98 - j))) := ⟨_, rfl⟩
            rw [← hfw_151] at hR_150
            have hx_152 : xExt Mb M_148 := xExt.upd (hmbw _ (by omega)) hx_134 hM_149
            refine lv_aload_n hC.1 hC.2.1 dX5_init_148 rfl (lv_at hl 0 rfl) ?_
            refine x_get hC hw hR_150.1 rfl hinX5 4 (by decide) (List.mem_cons_of_mem _ (List.mem_append_left _ (List.mem_of_getElem? (i := 7) rfl))) rfl dX5_init_149 ?_
            refine x_const hC dX5_init_152 ?_
            refine x_ald4 hC hw hR_150.2.2.2.1 (by omega) (by omega) (by omega) dX5_init_153 ?_
            rw [hR_150.fb' (show (2 : Int).toNat < 3 by decide)]
            show W p l e R s m args below meth c _ _ _ _ _ (F0 m 154 ls [.ref (r_50 ((2 : Int).toNat))])
            refine lv_iload_n hC.1 hC.2.1 dX5_init_154 rfl (lv_at hl 1 rfl) ?_
            refine lv_iload_n hC.1 hC.2.1 dX5_init_155 rfl (lv_at hl 1 rfl) ?_
            refine x_callS hC hw (lv_size hl) (c_X5_named l G (M := M_148) (p0 := j) (by omega) (by omega)) gX5_init_X5_named rfl dv_X5_named_s rfl (Nat.le_of_ble_eq_true rfl) (by rw [hRf]; decide) (by rw [hRl]; decide) (by first | (rw [hRc]; decide) | omega) (by first | (rw [hRs]; decide) | omega) dX5_init_156 (fun r9 M_153 H locs hq hw => ?_)
            obtain ⟨z_154, rfl, hM9, hz_154a, hz_154n⟩ := hq
            rw [hM9] at hw
            show W p l e R s m args below meth c H locs _ _ _ (F0 m 159 ls [.int (iN (z_154)), .int (iN (j)), .ref (r_50 ((2 : Int).toNat))])
            refine x_iast hC hw (hR_150.rw' (show ((2 : Int).toNat) < 3 by decide)) (by omega) (by omega) (by omega) dX5_init_159 (fun H locs hw => ?_)
            obtain ⟨M_155, hM_156⟩ : ∃ z, z = va_up M_148 (r_50 ((2 : Int).toNat)) (some (.inl (G.2 1, 100, .inl (upd (fw_151 ((2 : Int).toNat)) (j).toNat (iN (z_154)))))) := ⟨_, rfl⟩
            rw [← hM_156] at hw
            have hR_157 := hR_150.wgt (j := ((2 : Int).toNat)) (v := z_154) (by omega) hM_156
            obtain ⟨fw_158, hfw_158⟩ : ∃ z, z = vUp fw_151 ((2 : Int).toNat) (upd (fw_151 ((2 : Int).toNat)) (j).toNat (iN (z_154))) := ⟨_, rfl⟩
            rw [← hfw_158] at hR_157
            have hx_159 : xExt Mb M_155 := xExt.upd (hmbw _ (by omega)) hx_152 hM_156
            refine x_iinc (lv' := [(1, .int (iN (j + 1))), (0, .ref a), (2, .int (iN (b)))]) hC dX5_init_160 hl (k := 1) rfl (by decide) rfl (fun ls hl => ?_)
            refine lv_goto (tgt := 83) hC.1 hC.2.1 dX5_init_163 (by decide) ?_
            exact ih83 (j + 1) _ _ _ hR_157 hx_159 (by have k1 := mw_k0 (j).toNat; have k2 := mw_k1 (n := (j).toNat) (by omega); have k3 := mw_k2 (j).toNat; have e9 := miF_s (show miB fvv1 (j).toNat 3 by have e8 := hb1; rw [show (b).toNat = 3 from tn_eq (by omega)] at e8; exact e8) (fun i9 k9 hi9 hk9 => (hf1 i9 k9 hi9).2 hk9) (by omega) (by omega) (by rw [k3]; exact hz_154n) hfw_133 hfw_151 hfw_158; rw [show (j + 1).toNat = (j).toNat + 1 from tn_s (by omega)]; exact e9) _ _ _ (by first | exact mu_s hmz83 (by omega) | omega) (by omega) hw (lv_sub hl [1, 0] rfl)
        · refine lv_aload_n hC.1 hC.2.1 dX5_init_96 rfl (lv_at hl 0 rfl) ?_
          refine x_get hC hw hR1.1 rfl hinX5 2 (by decide) (List.mem_cons_of_mem _ (List.mem_append_left _ (List.mem_of_getElem? (i := 5) rfl))) rfl dX5_init_97 ?_
          refine lv_iload_n hC.1 hC.2.1 dX5_init_100 rfl (lv_at hl 2 rfl) ?_
          refine x_ald4 hC hw hR1.2.1 (by omega) (by omega) (by omega) dX5_init_101 ?_
          rw [hR1.fa' (show (b).toNat < 3 from tn_lt (by omega) (by decide))]
          show W p l e R s m args below meth c _ _ _ _ _ (F0 m 102 ls [.ref (r_2 ((b).toNat))])
          refine lv_iload_n hC.1 hC.2.1 dX5_init_102 rfl (lv_at hl 1 rfl) ?_
          refine x_sipush hC dX5_init_103 (by decide +kernel) ?_
          refine x_iast hC hw (hR1.rv (show ((b).toNat) < 3 from tn_lt (by omega) (by decide))) (by omega) (by omega) (by omega) dX5_init_106 (fun H locs hw => ?_)
          obtain ⟨M_160, hM_161⟩ : ∃ z, z = va_up M1 (r_2 ((b).toNat)) (some (.inl (G.2 1, 100, .inl (upd (fvv1 ((b).toNat)) (j).toNat (iN ((-10000))))))) := ⟨_, rfl⟩
          rw [← hM_161] at hw
          have hR_162 := hR1.val (j := ((b).toNat)) (v := (-10000)) (by omega) hM_161
          obtain ⟨fvv_163, hfvv_163⟩ : ∃ z, z = vUp fvv1 ((b).toNat) (upd (fvv1 ((b).toNat)) (j).toNat (iN ((-10000)))) := ⟨_, rfl⟩
          rw [← hfvv_163] at hR_162
          have hx_164 : xExt Mb M_160 := xExt.upd (hmbv _ (by omega)) hx1 hM_161
          refine x_iinc (lv' := [(2, .int (iN (b + 1))), (0, .ref a), (1, .int (iN (j)))]) hC dX5_init_107 hl (k := 2) rfl (by decide) rfl (fun ls hl => ?_)
          refine lv_goto (tgt := 91) hC.1 hC.2.1 dX5_init_110 (by decide) ?_
          exact ih91 (b + 1) _ _ hR_162 hx_164 (by rw [hfvv_163, show (b + 1).toNat = (b).toNat + 1 from tn_s (by omega)]; exact miB_s hb1) _ _ _ (by first | exact mu_s hmz91 (by omega) | omega) (by omega) hw (lv_sub hl [1, 2, 0] rfl)
set_option maxHeartbeats 4000000 in
set_option maxRecDepth 100000 in
theorem c_X4_init (l : Launch) (G : xG) {M : HM} {o : Nat} : xMet l G yX4_init wsX4_init 1 20 0 0 [.ref o] M (fun r M1 => r = none ∧ M1 = M) := by
  refine x_intro (cc := cX4_init) (maxL := 1) (ret := none) (by exact pln_RX4) rfl (Nat.le_of_ble_eq_true rfl) ?_
  intro p e R s m args below meth c ls hRf hRc hRs hRl hC hw hl
  have hl : lv_has ls 1 [(0, .ref o)] := hl
  refine lv_aload_n hC.1 hC.2.1 dX4_init_0 rfl (lv_at hl 0 rfl) ?_
  refine x_objInit hC (lv_size hl) (by decide +kernel) (by decide +kernel) (by decide +kernel) (by rw [hRf]; decide) (by rw [hRl]; exact Nat.le_of_ble_eq_true rfl) dX4_init_1 ?_
  exact x_vret hC hw dX4_init_4 (by first | decide | omega) (by first | decide | omega) ⟨rfl, rfl⟩
set_option maxHeartbeats 4000000 in
set_option maxRecDepth 100000 in
theorem c_X3_init (l : Launch) (G : xG) {M : HM} {Mb : HM} {h0 : Nat} (hO : M h0 = some (.inr (5, [.null, .null, .null, .int 0, .int 0, .int 0]))) (hq0 : Mb h0 = none) (hx0 : xExt Mb M) : xMet l G yX3_init wsX3_init 2 41 20 700 [.ref h0] M (fun r M1 => r = none ∧ xExt Mb M1 ∧ RG G M1 h0 0 ST0) := by
  refine x_intro (cc := cX3_init) (maxL := 2) (ret := none) (by exact pln_RX3) rfl (Nat.le_of_ble_eq_true rfl) ?_
  intro p e R s m args below meth c ls hRf hRc hRs hRl hC hw hl
  have hinX0 : ∀ w ∈ wsX00, w ∈ wsX3_init := fun w h => (List.mem_cons_of_mem _ (List.mem_append_right _ h))
  have hinX3 : ∀ w ∈ wsX30, w ∈ wsX3_init := fun w h => (List.mem_cons_of_mem _ (List.mem_append_left _ (List.mem_append_right _ h)))
  have hl : lv_has ls 2 [(0, .ref h0)] := hl
  refine lv_aload_n hC.1 hC.2.1 dX3_init_0 rfl (lv_at hl 0 rfl) ?_
  refine x_objInit hC (lv_size hl) (by decide +kernel) (by decide +kernel) (by decide +kernel) (by rw [hRf]; decide) (by rw [hRl]; exact Nat.le_of_ble_eq_true rfl) dX3_init_1 ?_
  refine lv_aload_n hC.1 hC.2.1 dX3_init_4 rfl (lv_at hl 0 rfl) ?_
  refine x_const hC dX3_init_5 ?_
  refine x_newq hC hw 2 rfl hC.2.2.2.2.2.2.2.2.1.2.2.2.2.2.1.1 (by decide +kernel) 3 rfl (by decide) (by omega) (by omega) dX3_init_6 (fun q_1 H hq_2 hw => ?_)
  obtain ⟨M_3, hM_4⟩ : ∃ z, z = va_up M q_1 (some (.inl (G.2 2, 3, .inr (.inr (.inr (.inr (fun _ => none))))))) := ⟨_, rfl⟩
  rw [← hM_4] at hw
  have hx_5 : xExt M M_3 := by rw [hM_4]; exact xExt.new hq_2
  have hA_6 := xup_s hM_4
  have h_7 := hx_5 _ _ hO
  refine x_putF (fs2 := [.ref q_1, .null, .null, .int 0, .int 0, .int 0]) hC hw h_7 rfl hinX3 tyX3 tyX3_ok nmX3 0 (by decide) (by decide +kernel) rfl rfl rfl rfl (Nat.le_of_ble_eq_true rfl) rfl dX3_init_9 (fun H locs hw => ?_)
  obtain ⟨M_8, hM_9⟩ : ∃ z, z = va_up M_3 h0 (some (.inr (5, [.ref q_1, .null, .null, .int 0, .int 0, .int 0]))) := ⟨_, rfl⟩
  rw [← hM_9] at hw
  have hx_10 : xExt Mb M_8 := xExt.upd hq0 (xExt.tr hx0 hx_5) hM_9
  have hO_11 := xup_s hM_9
  have h_12 := x_kA hM_9 h_7 hA_6
  have hI0 : RIx G M_8 q_1 ((0 : Int)).toNat (fun _ => none) (fun _ => 0) (fun _ => 0) (fun _ => 0) := ⟨h_12, fun _ h => absurd h (Nat.not_lt_zero _), fun _ h => absurd h (Nat.not_lt_zero _), fun _ _ h => absurd h (Nat.not_lt_zero _)⟩
  refine x_const hC dX3_init_12 ?_
  refine lv_istore_n (lv' := [(1, .int (iN (0))), (0, .ref h0)]) hC.1 hC.2.1 dX3_init_13 rfl hl (by decide) rfl (fun ls hl => ?_)
  suffices hloop14 : ∀ (n9 : Nat) (j : Int) (cu14 : Nat) (su14 : Nat) (M1 : HM) (fb1 : Nat → Option Nat) (qb1 qk1 qv1 : Nat → Nat) (hI1 : RIx G M1 q_1 (j).toNat fb1 qb1 qk1 qv1) (hO1 : M1 h0 = some (.inr (5, [.ref q_1, .null, .null, .int 0, .int 0, .int 0]))) (hx1 : xExt Mb M1) (H : Heap) (locs : List Loc) (ls : Array Slot), (hmz14 : (3 - j).toNat < n9) → (hi0 : 0 ≤ j ∧ j ≤ 3) → (hcu14 : (cu14 : Int) ≤ 1 + 3 * j) → (hsu14 : (su14 : Int) ≤ 3 + 207 * j) → xD G (xA M s.heap.size) s M1 H locs → lv_has ls 2 [(0, .ref h0), (1, .int (iN (j)))] → W p l e R s m args below meth c H locs cu14 su14 _ (F0 m 14 ls []) by
    exact hloop14 _ 0 1 3 _ _ _ _ _ hI0 hO_11 hx_10 _ _ _ (Nat.lt_succ_self _) (by omega) (by omega) (by omega) hw (lv_sub hl [1, 0] rfl)
  intro n9
  induction n9 with
  | zero => intro j cu14 su14 M1 fb1 qb1 qk1 qv1 hI1 hO1 hx1 H locs ls hmz; exact absurd hmz (Nat.not_lt_zero _)
  | succ n9 ih14 =>
    intro j cu14 su14 M1 fb1 qb1 qk1 qv1 hI1 hO1 hx1 H locs ls hmz14 hi0 hcu14 hsu14 hw hl
    refine lv_iload_n hC.1 hC.2.1 dX3_init_14 rfl (lv_at hl 1 rfl) ?_
    refine lv_aload_n hC.1 hC.2.1 dX3_init_15 rfl (lv_at hl 0 rfl) ?_
    refine x_get hC hw hO1 rfl hinX3 0 (by decide) (List.mem_cons_of_mem _ (List.mem_append_left _ (List.mem_append_left _ (List.mem_of_getElem? (i := 4) rfl)))) rfl dX3_init_16 ?_
    refine x_alen hC hw 2 hI1.1 rfl dX3_init_19 ?_
    refine x_icmp_ge (tgt := 43) hC ⟨by omega, by omega⟩ ⟨by omega, by omega⟩ dX3_init_20 (by decide) (fun c_13 => ?_) (fun c_13 => ?_)
    · refine lv_aload_n hC.1 hC.2.1 dX3_init_43 rfl (lv_at hl 0 rfl) ?_
      refine x_const hC dX3_init_44 ?_
      refine x_newq hC hw 3 rfl hC.2.2.2.2.2.2.2.2.1.2.2.2.2.2.1.2.1 (by decide +kernel) 4 rfl (by decide) (by omega) (by omega) dX3_init_45 (fun q_14 H hq_15 hw => ?_)
      obtain ⟨M_16, hM_17⟩ : ∃ z, z = va_up M1 q_14 (some (.inl (G.2 3, 4, .inr (.inr (.inr (.inr (fun _ => none))))))) := ⟨_, rfl⟩
      rw [← hM_17] at hw
      have hx_18 : xExt M1 M_16 := by rw [hM_17]; exact xExt.new hq_15
      have hA_19 := xup_s hM_17
      have h_20 := hx_18 _ _ hO1
      have h_21 := hx_18 _ _ hI1.1
      have hI_22 := RIx.ext hI1 hx_18
      have hbv9 : q_1 ≠ q_14 := fun e9 => by have h8 := hI1.1; rw [e9, hq_15] at h8; cases h8
      refine x_putF (fs2 := [.ref q_1, .ref q_14, .null, .int 0, .int 0, .int 0]) hC hw h_20 rfl hinX3 tyX3 tyX3_ok nmX3 1 (by decide) (by decide +kernel) rfl rfl rfl rfl (Nat.le_of_ble_eq_true rfl) rfl dX3_init_48 (fun H locs hw => ?_)
      obtain ⟨M_23, hM_24⟩ : ∃ z, z = va_up M_16 h0 (some (.inr (5, [.ref q_1, .ref q_14, .null, .int 0, .int 0, .int 0]))) := ⟨_, rfl⟩
      rw [← hM_24] at hw
      have hx_25 : xExt Mb M_23 := xExt.upd hq0 (xExt.tr hx1 hx_18) hM_24
      have hO_26 := xup_s hM_24
      have h_27 := x_kA hM_24 h_20 h_21
      have h_28 := x_kA hM_24 h_20 hA_19
      have hI_29 := RIx.obj hI_22 h_20 (by decide) hM_24
      refine lv_aload_n hC.1 hC.2.1 dX3_init_51 rfl (lv_at hl 0 rfl) ?_
      refine x_sipush hC dX3_init_52 (by decide +kernel) ?_
      refine x_put (fs2 := [.ref q_1, .ref q_14, .null, .int (iN ((-10000))), .int 0, .int 0]) hC hw hO_26 rfl hinX3 tyX3 tyX3_ok nmX3 3 (by decide) (List.mem_cons_of_mem _ (List.mem_append_left _ (List.mem_append_left _ (List.mem_of_getElem? (i := 9) rfl)))) rfl rfl rfl (Nat.le_of_ble_eq_true rfl) rfl dX3_init_55 (fun H locs hw => ?_)
      obtain ⟨M_30, hM_31⟩ : ∃ z, z = va_up M_23 h0 (some (.inr (5, [.ref q_1, .ref q_14, .null, .int (iN ((-10000))), .int 0, .int 0]))) := ⟨_, rfl⟩
      rw [← hM_31] at hw
      have hx_32 : xExt Mb M_30 := xExt.upd hq0 hx_25 hM_31
      have hO_33 := xup_s hM_31
      have h_34 := x_kA hM_31 hO_26 h_27
      have h_35 := x_kA hM_31 hO_26 h_28
      have hI_36 := RIx.obj hI_29 hO_26 (by decide) hM_31
      refine lv_aload_n hC.1 hC.2.1 dX3_init_58 rfl (lv_at hl 0 rfl) ?_
      refine x_sipush hC dX3_init_59 (by decide +kernel) ?_
      refine x_put (fs2 := [.ref q_1, .ref q_14, .null, .int (iN ((-10000))), .int (iN ((-10000))), .int 0]) hC hw hO_33 rfl hinX3 tyX3 tyX3_ok nmX3 4 (by decide) (List.mem_cons_of_mem _ (List.mem_append_left _ (List.mem_append_left _ (List.mem_of_getElem? (i := 10) rfl)))) rfl rfl rfl (Nat.le_of_ble_eq_true rfl) rfl dX3_init_62 (fun H locs hw => ?_)
      obtain ⟨M_37, hM_38⟩ : ∃ z, z = va_up M_30 h0 (some (.inr (5, [.ref q_1, .ref q_14, .null, .int (iN ((-10000))), .int (iN ((-10000))), .int 0]))) := ⟨_, rfl⟩
      rw [← hM_38] at hw
      have hx_39 : xExt Mb M_37 := xExt.upd hq0 hx_32 hM_38
      have hO_40 := xup_s hM_38
      have h_41 := x_kA hM_38 hO_33 h_34
      have h_42 := x_kA hM_38 hO_33 h_35
      have hI_43 := RIx.obj hI_36 hO_33 (by decide) hM_38
      exact x_vret hC hw dX3_init_65 (by first | decide | omega) (by first | decide | omega) ⟨rfl, hx_39, RIx.done (by have e9 := hI_43; rw [show (j).toNat = 3 from tn_eq (by omega)] at e9; exact e9) hO_40 h_42 hbv9⟩
    · refine lv_aload_n hC.1 hC.2.1 dX3_init_23 rfl (lv_at hl 0 rfl) ?_
      refine x_get hC hw hO1 rfl hinX3 0 (by decide) (List.mem_cons_of_mem _ (List.mem_append_left _ (List.mem_append_left _ (List.mem_of_getElem? (i := 4) rfl)))) rfl dX3_init_24 ?_
      refine lv_iload_n hC.1 hC.2.1 dX3_init_27 rfl (lv_at hl 1 rfl) ?_
      refine x_new (fs := [.int 0, .null, .null, .int 0, .int 0, .int 0, .int 0]) (ci := 2) hC hw rfl hinX0 tyX0 tyX0_ok (by decide +kernel) (by decide +kernel) (by decide +kernel) (fun j hj => by rcases (show j = 0 ∨ j = 1 ∨ j = 2 ∨ j = 3 ∨ j = 4 ∨ j = 5 ∨ j = 6 by omega) with rfl | rfl | rfl | rfl | rfl | rfl | rfl <;> rfl) (by omega) (by omega) dX3_init_28 (fun q_44 H hq_47 hw => ?_)
      obtain ⟨M_45, hM_46⟩ : ∃ z, z = va_up M1 q_44 (some (.inr (2, [.int 0, .null, .null, .int 0, .int 0, .int 0, .int 0]))) := ⟨_, rfl⟩
      rw [← hM_46] at hw
      have hx_48 : xExt M1 M_45 := by rw [hM_46]; exact xExt.new hq_47
      have hO_49 := xup_s hM_46
      refine lv_dup hC.1 hC.2.1 dX3_init_31 rfl ?_
      refine lv_iload_n hC.1 hC.2.1 dX3_init_32 rfl (lv_at hl 1 rfl) ?_
      refine x_callI hC hw (lv_size hl) (c_X0_init l G hO_49 hq_47 hx_48 (p0 := j) (by omega) (by omega)) gX3_init_X0_init rfl (by decide +kernel) (by decide +kernel) (by decide +kernel) rfl dv_X0_init_s rfl (Nat.le_of_ble_eq_true rfl) (by rw [hRf]; decide) (by rw [hRl]; decide) (by first | (rw [hRc]; decide) | omega) (by first | (rw [hRs]; decide) | omega) dX3_init_33 (fun r9 M_50 H locs hq hw => ?_)
      obtain ⟨rfl, hxk_51, kk_51, vk_51, hEk_51, hkk_51, hvk_51⟩ := hq
      have hO_52 := hxk_51 _ _ hO1
      have hA_53 := hxk_51 _ _ hI1.1
      have hx_54 := xExt.tr hx1 hxk_51
      show W p l e R s m args below meth c H locs _ _ _ (F0 m 36 ls [.ref q_44, .int (iN (j)), .ref q_1])
      obtain ⟨_, _, _, hBkk_51, _⟩ := id hEk_51
      refine x_astq hC hw 2 2 hA_53 rfl hBkk_51.1 rfl (by omega) (by omega) (by omega) dX3_init_36 (fun H locs hw => ?_)
      obtain ⟨M_55, hM_56⟩ : ∃ z, z = va_up M_50 q_1 (some (.inl (G.2 2, 3, .inr (.inr (.inr (.inr (va_up fb1 (j).toNat (some q_44)))))))) := ⟨_, rfl⟩
      rw [← hM_56] at hw
      have hI_57 := RIx.more hI1 hxk_51 hEk_51 hq_47 hkk_51 hvk_51 hM_56
      rw [show (j).toNat + 1 = (j + 1).toNat by omega] at hI_57
      have hO_58 : M_55 h0 = some (.inr (5, [.ref q_1, .null, .null, .int 0, .int 0, .int 0])) := by rw [hM_56, va_up_ne _ _ (fun e9 => by have h8 := hO_52; rw [e9, hA_53] at h8; cases h8)]; exact hO_52
      have hx_59 : xExt Mb M_55 := xExt.upd (xExt.fr hx0 hq_2) hx_54 hM_56
      refine x_iinc (lv' := [(1, .int (iN (j + 1))), (0, .ref h0)]) hC dX3_init_37 hl (k := 1) rfl (by decide) rfl (fun ls hl => ?_)
      refine lv_goto (tgt := 14) hC.1 hC.2.1 dX3_init_40 (by decide) ?_
      exact ih14 (j + 1) (cu14 + 1 + 2) (su14 + 7 + 200) _ _ _ _ _ hI_57 hO_58 hx_59 _ _ _ (by first | exact mu_s hmz14 (by omega) | omega) (by omega) (by omega) (by omega) hw (lv_sub hl [1, 0] rfl)
