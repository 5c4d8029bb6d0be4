/-! the methods of the model, by program -/
set_option maxHeartbeats 4000000 in
set_option maxRecDepth 100000 in
theorem c_X5_clear (l : Launch) (G : xG) {M : HM} {a va oa wa ya : Nat} {wk : Option Nat} {th : Int} {rfd : Int32} {br re la ha : Int} {kp kv : Int32} {qv qw : Nat → Nat} {fa fb : Nat → Option Nat} {V : BW} {O : OW} {fy : Nat → Option Nat} {Wv : VW} {wt : Option VT} {S : Nat → Bool} (hR : MGx G M a va oa wa ya wk th rfd br re la ha kp kv qv qw fa fb V O fy Wv wt S) {K : WA} (hK : abM O wt br re la ha K) {p0 : Int} (hp0 : -2147483648 ≤ p0 ∧ p0 ≤ 2147483647) : xMet l G yX5_clear wsX5_clear 4 90 1 5 [.ref a, .int (iN (p0))] M (fun r M1 => ∃ (z th1 : Int), r = some (.int (iN z)) ∧ (-2147483648 ≤ z ∧ z ≤ 2147483647) ∧ ((th1 = 0 ∧ ((0 ≤ p0 ∧ p0 ≤ 2)) ∧ z = A_clear (O, V, Wv, K, kp, kv, rfd) p0 ∧ MGm G M1 a S th1 (S_clear (O, V, Wv, K, kp, kv, rfd) p0)) ∨ (th1 ≠ 0 ∧ ((th1 = 1 ∧ ¬ (0 ≤ p0 ∧ p0 ≤ 2))) ∧ MGm G M1 a S th1 (O, V, Wv, K, kp, kv, rfd)))) := by
  refine x_intro (cc := cX5_clear) (maxL := 2) (ret := (some .int)) (by exact pln_RX5) rfl (Nat.le_of_ble_eq_true rfl) ?_
  intro p e R s m args below meth c ls hRf hRc hRs hRl hC hw hl
  have hsc0 := hR.sc.1
  have hl : lv_has ls 2 [(0, .ref a), (1, .int (iN (p0)))] := hl
  refine lv_aload_n hC.1 hC.2.1 dX5_clear_0 rfl (lv_at hl 0 rfl) ?_
  refine lv_iload_n hC.1 hC.2.1 dX5_clear_1 rfl (lv_at hl 1 rfl) ?_
  refine x_callS hC hw (lv_size hl) (c_X5_isNoBook l G (M := M) (p0 := p0) (by first | assumption | omega)) gX5_clear_X5_isNoBook rfl dv_X5_isNoBook_s rfl (Nat.le_of_ble_eq_true rfl) (by rw [hRf]; decide) (by rw [hRl]; decide) (by first | (rw [hRc]; decide) | omega) (by first | (rw [hRs]; decide) | omega) dX5_clear_2 (fun r9 M_1 H locs hq hw => ?_)
  obtain ⟨z_2, rfl, hM9, hz_2a, hz_2b⟩ := hq
  rw [hM9] at hw
  show W p l e R s m args below meth c H locs _ _ _ (F0 m 5 ls [.int (iN (z_2)), .ref a])
  refine x_const hC dX5_clear_5 ?_
  refine x_callV hC hw (lv_size hl) (c_X5_start l G hR (p0 := z_2) (by omega) (p1 := 1) (by omega) (by omega)) gX5_clear_X5_start rfl dv_X5_start hR.1.1 rfl rfl (Nat.le_of_ble_eq_true rfl) (by rw [hRf]; decide) (by rw [hRl]; decide) (by first | (rw [hRc]; decide) | omega) (by first | (rw [hRs]; decide) | omega) dX5_clear_6 (fun r9 M_3 H locs hq hw => ?_)
  obtain ⟨z_5, thk_4, rfl, hz_5r, hx5k_4, hRk_4⟩ := hq
  have hsck_4 := hRk_4.sc.1
  show W p l e R s m args below meth c H locs _ _ _ (F0 m 9 ls [.int (iN (z_5))])
  refine x_if_eq (tgt := 14) hC ⟨by omega, by omega⟩ dX5_clear_9 (by decide) (fun c_6 => ?_) (fun c_6 => ?_)
  · replace hz_5r := (hz_5r.resolve_right (fun q9 => absurd (q9.1.symm.trans c_6) (by decide))).2
    replace hz_2b := hz_2b.mp hz_5r.2
    refine lv_aload_n hC.1 hC.2.1 dX5_clear_14 rfl (lv_at hl 0 rfl) ?_
    refine lv_iload_n hC.1 hC.2.1 dX5_clear_15 rfl (lv_at hl 1 rfl) ?_
    refine x_callV hC hw (lv_size hl) (c_X5_touch l G hRk_4 (p0 := p0) (by first | assumption | omega) (by omega)) gX5_clear_X5_touch rfl dv_X5_touch hRk_4.1.1 rfl rfl (Nat.le_of_ble_eq_true rfl) (by rw [hRf]; decide) (by rw [hRl]; decide) (by first | (rw [hRc]; decide) | omega) (by first | (rw [hRs]; decide) | omega) dX5_clear_16 (fun r9 M_7 H locs hq hw => ?_)
    obtain ⟨hak_8, rfl, he0k_8, hx5k_8, hRk_8⟩ := hq
    have hsck_8 := hRk_8.sc.1
    show W p l e R s m args below meth c H locs _ _ _ (F0 m 19 ls [])
    refine lv_aload_n hC.1 hC.2.1 dX5_clear_19 rfl (lv_at hl 0 rfl) ?_
    refine lv_iload_n hC.1 hC.2.1 dX5_clear_20 rfl (lv_at hl 1 rfl) ?_
    refine x_callS hC hw (lv_size hl) (c_X5_whole l G (M := M_7) (p0 := p0) (by first | assumption | omega) (by omega)) gX5_clear_X5_whole rfl dv_X5_whole_s rfl (Nat.le_of_ble_eq_true rfl) (by rw [hRf]; decide) (by rw [hRl]; decide) (by first | (rw [hRc]; decide) | omega) (by first | (rw [hRs]; decide) | omega) dX5_clear_21 (fun r9 M_9 H locs hq hw => ?_)
    obtain ⟨qk_10, fk_10, rfl, hxk_10, hIk_10⟩ := hq
    have h_11 := hRk_8.ext hxk_10
    obtain ⟨htat_12, htbt_12, htct_12, htdt_12, htet_12⟩ := id hIk_10.2.1
    have holk_10 := h_11.or' hIk_10.2.1.1
    show W p l e R s m args below meth c H locs _ _ _ (F0 m 24 ls [.ref qk_10, .ref a])
    refine x_callV hC hw (lv_size hl) (c_X5_strikeAll l G h_11 hIk_10) gX5_clear_X5_strikeAll rfl dv_X5_strikeAll h_11.1.1 rfl rfl (Nat.le_of_ble_eq_true rfl) (by rw [hRf]; decide) (by rw [hRl]; decide) (by first | (rw [hRc]; decide) | omega) (by first | (rw [hRs]; decide) | omega) dX5_clear_24 (fun r9 M_13 H locs hq hw => ?_)
    obtain ⟨z_15, brk_14, Vk_14, rfl, hz_15a, hz_15m, he0k_14, he1k_14, hx5k_14, hRk_14⟩ := hq
    have h_16 := hIk_10.x5 hx5k_14
    have hsck_14 := hRk_14.sc.1
    show W p l e R s m args below meth c H locs _ _ _ (F0 m 27 ls [.int (iN (z_15))])
    exact x_iret hC hw dX5_clear_27 (by first | decide | omega) (by first | decide | omega) ⟨z_15, thk_4, rfl, ⟨by omega, by omega⟩, Or.inl ⟨by omega, ⟨(by first | omega | trivial), (by first | omega | trivial)⟩, hz_15m, (MGm.mut he1k_14 hRk_14 hK (bl_map he0k_14) he0k_8 rfl)⟩⟩
  · replace hz_5r := (hz_5r.resolve_left (fun q9 => c_6 q9.1)).2
    replace hz_2b := mt hz_2b.mpr hz_5r.1
    refine x_const hC dX5_clear_12 ?_
    exact x_iret hC hw dX5_clear_13 (by first | decide | omega) (by first | decide | omega) ⟨0, thk_4, rfl, by omega, Or.inr ⟨by omega, by omega, MGm.of hRk_4 hK⟩⟩
set_option maxHeartbeats 4000000 in
set_option maxRecDepth 100000 in
theorem c_X5_pour (l : Launch) (G : xG) {M : HM} {a va oa wa ya : Nat} {wk : Option Nat} {th : Int} {rfd : Int32} {br re la ha : Int} {kp kv : Int32} {qv qw : Nat → Nat} {fa fb : Nat → Option Nat} {V : BW} {O : OW} {fy : Nat → Option Nat} {Wv : VW} {wt : Option VT} {S : Nat → Bool} (hR : MGx G M a va oa wa ya wk th rfd br re la ha kp kv qv qw fa fb V O fy Wv wt S) {K : WA} (hK : abM O wt br re la ha K) {p0 : Int} (hp0 : -2147483648 ≤ p0 ∧ p0 ≤ 2147483647) {p1 : Int} (hp1 : -2147483648 ≤ p1 ∧ p1 ≤ 2147483647) : xMet l G yX5_pour wsX5_pour 4 90 1 5 [.ref a, .int (iN (p0)), .int (iN (p1))] M (fun r M1 => ∃ (z th1 : Int), r = some (.int (iN z)) ∧ (-2147483648 ≤ z ∧ z ≤ 2147483647) ∧ ((th1 = 0 ∧ (((0 ≤ p0 ∧ p0 ≤ 2) ∧ (0 ≤ p1 ∧ p1 ≤ 2)) ∧ (p0 ≠ p1)) ∧ z = A_pour (O, V, Wv, K, kp, kv, rfd) p0 p1 ∧ MGm G M1 a S th1 (S_pour (O, V, Wv, K, kp, kv, rfd) p0 p1)) ∨ (th1 ≠ 0 ∧ ((th1 = 1 ∧ ¬ ((0 ≤ p0 ∧ p0 ≤ 2) ∧ (0 ≤ p1 ∧ p1 ≤ 2))) ∨ (th1 = 2 ∧ ((0 ≤ p0 ∧ p0 ≤ 2) ∧ (0 ≤ p1 ∧ p1 ≤ 2)) ∧ ¬ (p0 ≠ p1))) ∧ MGm G M1 a S th1 (O, V, Wv, K, kp, kv, rfd)))) := by
  refine x_intro (cc := cX5_pour) (maxL := 4) (ret := (some .int)) (by exact pln_RX5) rfl (Nat.le_of_ble_eq_true rfl) ?_
  intro p e R s m args below meth c ls hRf hRc hRs hRl hC hw hl
  have hsc0 := hR.sc.1
  have hinX5 : ∀ w ∈ wsX50, w ∈ wsX5_pour := fun w h => (List.mem_cons_of_mem _ (List.mem_append_right _ h))
  have hl : lv_has ls 4 [(0, .ref a), (1, .int (iN (p0))), (2, .int (iN (p1)))] := hl
  refine lv_aload_n hC.1 hC.2.1 dX5_pour_0 rfl (lv_at hl 0 rfl) ?_
  refine lv_iload_n hC.1 hC.2.1 dX5_pour_1 rfl (lv_at hl 1 rfl) ?_
  refine lv_iload_n hC.1 hC.2.1 dX5_pour_2 rfl (lv_at hl 2 rfl) ?_
  refine x_callV hC hw (lv_size hl) (c_X5_areBad l G hR (p0 := p0) (by first | assumption | omega) (p1 := p1) (by first | assumption | omega)) gX5_pour_X5_areBad rfl dv_X5_areBad hR.1.1 rfl rfl (Nat.le_of_ble_eq_true rfl) (by rw [hRf]; decide) (by rw [hRl]; decide) (by first | (rw [hRc]; decide) | omega) (by first | (rw [hRs]; decide) | omega) dX5_pour_3 (fun r9 M_1 H locs hq hw => ?_)
  obtain ⟨z_3, thk_2, rfl, hz_3r, hx5k_2, hRk_2⟩ := hq
  have hsck_2 := hRk_2.sc.1
  show W p l e R s m args below meth c H locs _ _ _ (F0 m 6 ls [.int (iN (z_3))])
  refine x_if_eq (tgt := 11) hC ⟨by omega, by omega⟩ dX5_pour_6 (by decide) (fun c_4 => ?_) (fun c_4 => ?_)
  · replace hz_3r := (hz_3r.resolve_right (fun q9 => absurd (q9.1.symm.trans c_4) (by decide))).2
    have hnez_3 := hz_3r.2.2
    refine lv_aload_n hC.1 hC.2.1 dX5_pour_11 rfl (lv_at hl 0 rfl) ?_
    refine lv_iload_n hC.1 hC.2.1 dX5_pour_12 rfl (lv_at hl 2 rfl) ?_
    refine x_callV hC hw (lv_size hl) (c_X5_touch l G hRk_2 (p0 := p1) (by first | assumption | omega) (by omega)) gX5_pour_X5_touch rfl dv_X5_touch hRk_2.1.1 rfl rfl (Nat.le_of_ble_eq_true rfl) (by rw [hRf]; decide) (by rw [hRl]; decide) (by first | (rw [hRc]; decide) | omega) (by first | (rw [hRs]; decide) | omega) dX5_pour_13 (fun r9 M_5 H locs hq hw => ?_)
    obtain ⟨hak_6, rfl, he0k_6, hx5k_6, hRk_6⟩ := hq
    have hsck_6 := hRk_6.sc.1
    show W p l e R s m args below meth c H locs _ _ _ (F0 m 16 ls [])
    refine x_const hC dX5_pour_16 ?_
    refine lv_istore_n (lv' := [(3, .int (iN (0))), (0, .ref a), (1, .int (iN (p0))), (2, .int (iN (p1)))]) hC.1 hC.2.1 dX5_pour_17 rfl hl (by decide) rfl (fun ls hl => ?_)
    suffices hloop18 : ∀ (n9 : Nat) (j : Int) (M1 : HM) (br1 : Int) (V1 : BW) (hR1 : MGx G M1 a va oa wa ya wk thk_2 rfd br1 re la hak_6 kp kv qv qw fa fb V1 O fy Wv wt S) (hx1 : xI5 G M M1) (hV1 : V1 = upB V ((p1).toNat) (mapN (V ((p1).toNat)) (F_pour (V (p1).toNat) (V (p0).toNat)) (j).toNat)) (hbr1 : br1 = brL wt ((p1).toNat) (V ((p1).toNat)) (F_pour (V (p1).toNat) (V (p0).toNat)) (j).toNat br) (H : Heap) (locs : List Loc) (ls : Array Slot), (hmz18 : (100 - j).toNat < n9) → (hi0 : 0 ≤ j ∧ j ≤ 100) → xD G (xA M s.heap.size) s M1 H locs → lv_has ls 4 [(0, .ref a), (1, .int (iN (p0))), (2, .int (iN (p1))), (3, .int (iN (j)))] → W p l e R s m args below meth c H locs _ _ _ (F0 m 18 ls []) by
      exact hloop18 _ 0 _ _ _ hRk_6 (xI5.tr (hx5k_2) (hx5k_6)) ml_0 bl_0 _ _ _ (Nat.lt_succ_self _) (by omega) hw (lv_sub hl [1, 2, 3, 0] rfl)
    intro n9
    induction n9 with
    | zero => intro j M1 br1 V1 hR1 hx1 hV1 hbr1 H locs ls hmz; exact absurd hmz (Nat.not_lt_zero _)
    | succ n9 ih18 =>
      intro j M1 br1 V1 hR1 hx1 hV1 hbr1 H locs ls hmz18 hi0 hw hl
      have hvj : V1 ((p1).toNat) (j).toNat = V ((p1).toNat) (j).toNat := ml_at hV1
      have hsc1 := hR1.sc.1
      have hvo : V1 (p0).toNat (j).toNat = V (p0).toNat (j).toNat := by rw [hV1, upB_n _ _ (by omega)]
      refine lv_iload_n hC.1 hC.2.1 dX5_pour_18 rfl (lv_at hl 3 rfl) ?_
      refine x_bipush hC dX5_pour_19 (by decide +kernel) ?_
      refine x_icmp_ge (tgt := 59) hC ⟨by omega, by omega⟩ ⟨by omega, by omega⟩ dX5_pour_21 (by decide) (fun c_7 => ?_) (fun c_7 => ?_)
      · refine lv_aload_n hC.1 hC.2.1 dX5_pour_59 rfl (lv_at hl 0 rfl) ?_
        refine lv_iload_n hC.1 hC.2.1 dX5_pour_60 rfl (lv_at hl 2 rfl) ?_
        refine x_callS hC hw (lv_size hl) (c_X5_whole l G (M := M1) (p0 := p1) (by first | assumption | omega) (by omega)) gX5_pour_X5_whole rfl dv_X5_whole_s rfl (Nat.le_of_ble_eq_true rfl) (by rw [hRf]; decide) (by rw [hRl]; decide) (by first | (rw [hRc]; decide) | omega) (by first | (rw [hRs]; decide) | omega) dX5_pour_61 (fun r9 M_8 H locs hq hw => ?_)
        obtain ⟨qk_9, fk_9, rfl, hxk_9, hIk_9⟩ := hq
        have h_10 := hR1.ext hxk_9
        obtain ⟨htat_11, htbt_11, htct_11, htdt_11, htet_11⟩ := id hIk_9.2.1
        have holk_9 := h_10.or' hIk_9.2.1.1
        show W p l e R s m args below meth c H locs _ _ _ (F0 m 64 ls [.ref qk_9, .ref a])
        refine x_callV hC hw (lv_size hl) (c_X5_many l G h_10 hIk_9) gX5_pour_X5_many rfl dv_X5_many h_10.1.1 rfl rfl (Nat.le_of_ble_eq_true rfl) (by rw [hRf]; decide) (by rw [hRl]; decide) (by first | (rw [hRc]; decide) | omega) (by first | (rw [hRs]; decide) | omega) dX5_pour_64 (fun r9 M_12 H locs hq hw => ?_)
        obtain ⟨z_13, rfl, hM9, hz_13a, hz_13m⟩ := hq
        rw [hM9] at hw
        show W p l e R s m args below meth c H locs _ _ _ (F0 m 67 ls [.int (iN (z_13))])
        exact x_iret hC hw dX5_pour_67 (by first | decide | omega) (by first | decide | omega) ⟨z_13, thk_2, rfl, ⟨by omega, by omega⟩, Or.inl ⟨by omega, ⟨⟨⟨(by first | omega | trivial), (by first | omega | trivial)⟩, ⟨(by first | omega | trivial), (by first | omega | trivial)⟩⟩, (by first | assumption | omega | trivial)⟩, (by have e9 : (j).toNat = 100 := (tn_eq (by omega)); rw [e9] at hV1; have e8 := hz_13m; rw [mn_cnt, hV1, upB_s] at e8; exact e8), (by have e9 : (j).toNat = 100 := (tn_eq (by omega)); rw [e9] at hV1 hbr1; exact MGm.mut hV1 h_10 hK (bl_map hbr1) he0k_6 rfl)⟩⟩
      · refine lv_aload_n hC.1 hC.2.1 dX5_pour_24 rfl (lv_at hl 0 rfl) ?_
        refine x_get hC hw hR1.1.1 rfl hinX5 2 (by decide) (List.mem_cons_of_mem _ (List.mem_append_left _ (List.mem_append_left _ (List.mem_of_getElem? (i := 0) rfl)))) rfl dX5_pour_25 ?_
        refine lv_iload_n hC.1 hC.2.1 dX5_pour_28 rfl (lv_at hl 1 rfl) ?_
        refine x_ald4 hC hw hR1.1.2.1 (by omega) (by omega) (by omega) dX5_pour_29 ?_
        rw [hR1.fa' (show (p0).toNat < 3 from tn_lt (by omega) (by decide))]
        show W p l e R s m args below meth c _ _ _ _ _ (F0 m 30 ls [.ref (qv ((p0).toNat))])
        refine lv_iload_n hC.1 hC.2.1 dX5_pour_30 rfl (lv_at hl 3 rfl) ?_
        refine x_ialdE (x := (V1 ((p0).toNat) ((j).toNat))) hC hw (hR1.rv (show ((p0).toNat) < 3 from tn_lt (by omega) (by decide))) (by omega) (by omega) (by omega) dX5_pour_31 rfl ?_
        have hrv_14 := hR1.vr (show ((p0).toNat) < 3 from tn_lt (by omega) (by decide)) (show (j).toNat < 100 from tn_lt (by omega) (by decide))
        have hpv_14 := hR1.vs (show ((p0).toNat) < 3 from tn_lt (by omega) (by decide)) (show (j).toNat < 100 from tn_lt (by omega) (by decide))
        refine x_sipush hC dX5_pour_32 (by decide +kernel) ?_
        refine x_icmp_eq (tgt := 53) hC ⟨by omega, by omega⟩ ⟨by omega, by omega⟩ dX5_pour_35 (by decide) (fun c_15 => ?_) (fun c_15 => ?_)
        · refine x_iinc (lv' := [(3, .int (iN (j + 1))), (0, .ref a), (1, .int (iN (p0))), (2, .int (iN (p1)))]) hC dX5_pour_53 hl (k := 3) rfl (by decide) rfl (fun ls hl => ?_)
          refine lv_goto (tgt := 18) hC.1 hC.2.1 dX5_pour_56 (by decide) ?_
          have hF9 : (F_pour (V (p1).toNat) (V (p0).toNat)) (j).toNat = V ((p1).toNat) (j).toNat := (by simp only [F_pour]; rw [if_pos (by omega)])
          exact ih18 (j + 1) _ _ _ hR1 hx1 (ml_skip (by omega) hV1 hF9) (bl_skip (by omega) hbr1 hF9) _ _ _ (by first | exact mu_s hmz18 (by omega) | omega) (by omega) hw (lv_sub hl [1, 2, 3, 0] rfl)
        · refine lv_aload_n hC.1 hC.2.1 dX5_pour_38 rfl (lv_at hl 0 rfl) ?_
          refine lv_iload_n hC.1 hC.2.1 dX5_pour_39 rfl (lv_at hl 2 rfl) ?_
          refine lv_iload_n hC.1 hC.2.1 dX5_pour_40 rfl (lv_at hl 3 rfl) ?_
          refine lv_aload_n hC.1 hC.2.1 dX5_pour_41 rfl (lv_at hl 0 rfl) ?_
          refine x_get hC hw hR1.1.1 rfl hinX5 2 (by decide) (List.mem_cons_of_mem _ (List.mem_append_left _ (List.mem_append_left _ (List.mem_of_getElem? (i := 0) rfl)))) rfl dX5_pour_42 ?_
          refine lv_iload_n hC.1 hC.2.1 dX5_pour_45 rfl (lv_at hl 1 rfl) ?_
          refine x_ald4 hC hw hR1.1.2.1 (by omega) (by omega) (by omega) dX5_pour_46 ?_
          rw [hR1.fa' (show (p0).toNat < 3 from tn_lt (by omega) (by decide))]
          show W p l e R s m args below meth c _ _ _ _ _ (F0 m 47 ls [.ref (qv ((p0).toNat)), .int (iN (j)), .int (iN (p1)), .ref a])
          refine lv_iload_n hC.1 hC.2.1 dX5_pour_47 rfl (lv_at hl 3 rfl) ?_
          refine x_ialdE (x := (V1 ((p0).toNat) ((j).toNat))) hC hw (hR1.rv (show ((p0).toNat) < 3 from tn_lt (by omega) (by decide))) (by omega) (by omega) (by omega) dX5_pour_48 rfl ?_
          have hrv_16 := hR1.vr (show ((p0).toNat) < 3 from tn_lt (by omega) (by decide)) (show (j).toNat < 100 from tn_lt (by omega) (by decide))
          have hpv_16 := hR1.vs (show ((p0).toNat) < 3 from tn_lt (by omega) (by decide)) (show (j).toNat < 100 from tn_lt (by omega) (by decide))
          refine x_callV hC hw (lv_size hl) (c_X5_set l G hR1 (p0 := p1) (by first | assumption | omega) (p1 := j) (by omega) (p2 := (V1 ((p0).toNat) ((j).toNat))) (by omega) (by omega) (by omega) (by omega) (by intro q9; first | exact absurd rfl q9 | assumption | exact hpv_14 q9 | exact hpv_16 q9 | exact hpv_14 (by omega) | exact hpv_16 (by omega))) gX5_pour_X5_set rfl dv_X5_set hR1.1.1 rfl rfl (Nat.le_of_ble_eq_true rfl) (by rw [hRf]; decide) (by rw [hRl]; decide) (by first | (rw [hRc]; decide) | omega) (by first | (rw [hRs]; decide) | omega) dX5_pour_49 (fun r9 M_17 H locs hq hw => ?_)
          obtain ⟨z_19, brk_18, Vk_18, rfl, hz_19a, hz_19v, hz_19b, he0k_18, he1k_18, hx5k_18, hRk_18⟩ := hq
          have hsck_18 := hRk_18.sc.1
          show W p l e R s m args below meth c H locs _ _ _ (F0 m 52 ls [.int (iN (z_19))])
          refine lv_pop hC.1 hC.2.1 dX5_pour_52 rfl ?_
          refine x_iinc (lv' := [(3, .int (iN (j + 1))), (0, .ref a), (1, .int (iN (p0))), (2, .int (iN (p1)))]) hC dX5_pour_53 hl (k := 3) rfl (by decide) rfl (fun ls hl => ?_)
          refine lv_goto (tgt := 18) hC.1 hC.2.1 dX5_pour_56 (by decide) ?_
          have hF9 : (V1 ((p0).toNat) ((j).toNat)) = (F_pour (V (p1).toNat) (V (p0).toNat)) (j).toNat := (by simp only [F_pour]; rw [if_neg (by omega)]; omega)
          exact ih18 (j + 1) _ _ _ hRk_18 (xI5.tr hx1 (hx5k_18)) (ml_set (by omega) hV1 he1k_18 hF9) (bl_set (by omega) hV1 hbr1 hF9 he0k_18) _ _ _ (by first | exact mu_s hmz18 (by omega) | omega) (by omega) hw (lv_sub hl [1, 2, 3, 0] rfl)
  · replace hz_3r := (hz_3r.resolve_left (fun q9 => c_4 q9.1)).2
    refine x_const hC dX5_pour_9 ?_
    exact x_iret hC hw dX5_pour_10 (by first | decide | omega) (by first | decide | omega) ⟨0, thk_2, rfl, by omega, Or.inr ⟨by omega, by omega, MGm.of hRk_2 hK⟩⟩
set_option maxHeartbeats 4000000 in
set_option maxRecDepth 100000 in
theorem c_X5_thin (l : Launch) (G : xG) {M : HM} {a va oa wa ya : Nat} {wk : Option Nat} {th : Int} {rfd : Int32} {br re la ha : Int} {kp kv : Int32} {qv qw : Nat → Nat} {fa fb : Nat → Option Nat} {V : BW} {O : OW} {fy : Nat → Option Nat} {Wv : VW} {wt : Option VT} {S : Nat → Bool} (hR : MGx G M a va oa wa ya wk th rfd br re la ha kp kv qv qw fa fb V O fy Wv wt S) {K : WA} (hK : abM O wt br re la ha K) {p0 : Int} (hp0 : -2147483648 ≤ p0 ∧ p0 ≤ 2147483647) {p1 : Int} (hp1 : -2147483648 ≤ p1 ∧ p1 ≤ 2147483647) {p2 : Int} (hp2 : -2147483648 ≤ p2 ∧ p2 ≤ 2147483647) (hb2 : p2 = 0 ∨ p2 = 1) : xMet l G yX5_thin wsX5_thin 3 66 0 0 [.ref a, .int (iN (p0)), .int (iN (p1)), .int (iN (p2))] M (fun r M1 => ∃ (z th1 : Int), r = some (.int (iN z)) ∧ (-2147483648 ≤ z ∧ z ≤ 2147483647) ∧ ((th1 = 0 ∧ (((0 ≤ p0 ∧ p0 ≤ 2) ∧ (0 ≤ p1 ∧ p1 ≤ 2)) ∧ (p0 ≠ p1)) ∧ z = A_thin (O, V, Wv, K, kp, kv, rfd) p0 p1 p2 ∧ MGm G M1 a S th1 (S_thin (O, V, Wv, K, kp, kv, rfd) p0 p1 p2)) ∨ (th1 ≠ 0 ∧ ((th1 = 1 ∧ ¬ ((0 ≤ p0 ∧ p0 ≤ 2) ∧ (0 ≤ p1 ∧ p1 ≤ 2))) ∨ (th1 = 2 ∧ ((0 ≤ p0 ∧ p0 ≤ 2) ∧ (0 ≤ p1 ∧ p1 ≤ 2)) ∧ ¬ (p0 ≠ p1))) ∧ MGm G M1 a S th1 (O, V, Wv, K, kp, kv, rfd)))) := by
  refine x_intro (cc := cX5_thin) (maxL := 6) (ret := (some .int)) (by exact pln_RX5) rfl (Nat.le_of_ble_eq_true rfl) ?_
  intro p e R s m args below meth c ls hRf hRc hRs hRl hC hw hl
  have hsc0 := hR.sc.1
  have hinX5 : ∀ w ∈ wsX50, w ∈ wsX5_thin := fun w h => (List.mem_cons_of_mem _ (List.mem_append_right _ h))
  have hl : lv_has ls 6 [(0, .ref a), (1, .int (iN (p0))), (2, .int (iN (p1))), (3, .int (iN (p2)))] := hl
  refine lv_aload_n hC.1 hC.2.1 dX5_thin_0 rfl (lv_at hl 0 rfl) ?_
  refine lv_iload_n hC.1 hC.2.1 dX5_thin_1 rfl (lv_at hl 1 rfl) ?_
  refine lv_iload_n hC.1 hC.2.1 dX5_thin_2 rfl (lv_at hl 2 rfl) ?_
  refine x_callV hC hw (lv_size hl) (c_X5_areBad l G hR (p0 := p0) (by first | assumption | omega) (p1 := p1) (by first | assumption | omega)) gX5_thin_X5_areBad rfl dv_X5_areBad hR.1.1 rfl rfl (Nat.le_of_ble_eq_true rfl) (by rw [hRf]; decide) (by rw [hRl]; decide) (by first | (rw [hRc]; decide) | omega) (by first | (rw [hRs]; decide) | omega) dX5_thin_3 (fun r9 M_1 H locs hq hw => ?_)
  obtain ⟨z_3, thk_2, rfl, hz_3r, hx5k_2, hRk_2⟩ := hq
  have hsck_2 := hRk_2.sc.1
  show W p l e R s m args below meth c H locs _ _ _ (F0 m 6 ls [.int (iN (z_3))])
  refine x_if_eq (tgt := 11) hC ⟨by omega, by omega⟩ dX5_thin_6 (by decide) (fun c_4 => ?_) (fun c_4 => ?_)
  · replace hz_3r := (hz_3r.resolve_right (fun q9 => absurd (q9.1.symm.trans c_4) (by decide))).2
    have hnez_3 := hz_3r.2.2
    refine lv_aload_n hC.1 hC.2.1 dX5_thin_11 rfl (lv_at hl 0 rfl) ?_
    refine lv_iload_n hC.1 hC.2.1 dX5_thin_12 rfl (lv_at hl 1 rfl) ?_
    refine x_callV hC hw (lv_size hl) (c_X5_touch l G hRk_2 (p0 := p0) (by first | assumption | omega) (by omega)) gX5_thin_X5_touch rfl dv_X5_touch hRk_2.1.1 rfl rfl (Nat.le_of_ble_eq_true rfl) (by rw [hRf]; decide) (by rw [hRl]; decide) (by first | (rw [hRc]; decide) | omega) (by first | (rw [hRs]; decide) | omega) dX5_thin_13 (fun r9 M_5 H locs hq hw => ?_)
    obtain ⟨hak_6, rfl, he0k_6, hx5k_6, hRk_6⟩ := hq
    have hsck_6 := hRk_6.sc.1
    show W p l e R s m args below meth c H locs _ _ _ (F0 m 16 ls [])
    refine x_const hC dX5_thin_16 ?_
    refine lv_istore (lv' := [(4, .int (iN (0))), (0, .ref a), (1, .int (iN (p0))), (2, .int (iN (p1))), (3, .int (iN (p2)))]) hC.1 hC.2.1 dX5_thin_17 hl (by decide) rfl (fun ls hl => ?_)
    refine x_const hC dX5_thin_19 ?_
    refine lv_istore (lv' := [(5, .int (iN (0))), (4, .int (iN (0))), (0, .ref a), (1, .int (iN (p0))), (2, .int (iN (p1))), (3, .int (iN (p2)))]) hC.1 hC.2.1 dX5_thin_20 hl (by decide) rfl (fun ls hl => ?_)
    suffices hloop22 : ∀ (n9 : Nat) (n : Int) (j : Int) (M1 : HM) (br1 : Int) (V1 : BW) (hR1 : MGx G M1 a va oa wa ya wk thk_2 rfd br1 re la hak_6 kp kv qv qw fa fb V1 O fy Wv wt S) (hx1 : xI5 G M M1) (hV1 : V1 = upB V ((p0).toNat) (mapN (V ((p0).toNat)) (F_thin (V (p0).toNat) (V (p1).toNat) p2) (j).toNat)) (hbr1 : br1 = brL wt ((p0).toNat) (V ((p0).toNat)) (F_thin (V (p0).toNat) (V (p1).toNat) p2) (j).toNat br) (H : Heap) (locs : List Loc) (ls : Array Slot), (hmz22 : (100 - j).toNat < n9) → (hi0 : 0 ≤ j ∧ j ≤ 100) → (hi1 : 0 ≤ n ∧ n ≤ j) → (hcn : n = stN (V (p0).toNat) (F_thin (V (p0).toNat) (V (p1).toNat) p2) (j).toNat) → xD G (xA M s.heap.size) s M1 H locs → lv_has ls 6 [(0, .ref a), (1, .int (iN (p0))), (2, .int (iN (p1))), (3, .int (iN (p2))), (4, .int (iN (n))), (5, .int (iN (j)))] → W p l e R s m args below meth c H locs _ _ _ (F0 m 22 ls []) by
      exact hloop22 _ 0 0 _ _ _ hRk_6 (xI5.tr (hx5k_2) (hx5k_6)) ml_0 bl_0 _ _ _ (Nat.lt_succ_self _) (by omega) (by omega) (rfl) hw (lv_sub hl [2, 3, 4, 5, 1, 0] rfl)
    intro n9
    induction n9 with
    | zero => intro n j M1 br1 V1 hR1 hx1 hV1 hbr1 H locs ls hmz; exact absurd hmz (Nat.not_lt_zero _)
    | succ n9 ih22 =>
      intro n j M1 br1 V1 hR1 hx1 hV1 hbr1 H locs ls hmz22 hi0 hi1 hcn hw hl
      have hvj : V1 ((p0).toNat) (j).toNat = V ((p0).toNat) (j).toNat := ml_at hV1
      have hsc1 := hR1.sc.1
      have hvo : V1 (p1).toNat (j).toNat = V (p1).toNat (j).toNat := by rw [hV1, upB_n _ _ (by omega)]
      refine lv_iload hC.1 hC.2.1 dX5_thin_22 (lv_at hl 5 rfl) ?_
      refine x_bipush hC dX5_thin_24 (by decide +kernel) ?_
      refine x_icmp_ge (tgt := 91) hC ⟨by omega, by omega⟩ ⟨by omega, by omega⟩ dX5_thin_26 (by decide) (fun c_7 => ?_) (fun c_7 => ?_)
      · refine lv_iload hC.1 hC.2.1 dX5_thin_91 (lv_at hl 4 rfl) ?_
        exact x_iret hC hw dX5_thin_93 (by first | decide | omega) (by first | decide | omega) ⟨n, thk_2, rfl, ⟨by omega, by omega⟩, Or.inl ⟨by omega, ⟨⟨⟨(by first | omega | trivial), (by first | omega | trivial)⟩, ⟨(by first | omega | trivial), (by first | omega | trivial)⟩⟩, (by first | assumption | omega | trivial)⟩, (by have e9 : (j).toNat = 100 := (tn_eq (by omega)); rw [e9] at hcn; exact hcn), (by have e9 : (j).toNat = 100 := (tn_eq (by omega)); rw [e9] at hV1 hbr1; exact MGm.mut hV1 hR1 hK (bl_map hbr1) he0k_6 rfl)⟩⟩
      · refine lv_aload_n hC.1 hC.2.1 dX5_thin_29 rfl (lv_at hl 0 rfl) ?_
        refine x_get hC hw hR1.1.1 rfl hinX5 2 (by decide) (List.mem_cons_of_mem _ (List.mem_append_left _ (List.mem_append_left _ (List.mem_of_getElem? (i := 0) rfl)))) rfl dX5_thin_30 ?_
        refine lv_iload_n hC.1 hC.2.1 dX5_thin_33 rfl (lv_at hl 1 rfl) ?_
        refine x_ald4 hC hw hR1.1.2.1 (by omega) (by omega) (by omega) dX5_thin_34 ?_
        rw [hR1.fa' (show (p0).toNat < 3 from tn_lt (by omega) (by decide))]
        show W p l e R s m args below meth c _ _ _ _ _ (F0 m 35 ls [.ref (qv ((p0).toNat))])
        refine lv_iload hC.1 hC.2.1 dX5_thin_35 (lv_at hl 5 rfl) ?_
        refine x_ialdE (x := (V1 ((p0).toNat) ((j).toNat))) hC hw (hR1.rv (show ((p0).toNat) < 3 from tn_lt (by omega) (by decide))) (by omega) (by omega) (by omega) dX5_thin_37 rfl ?_
        have hrv_8 := hR1.vr (show ((p0).toNat) < 3 from tn_lt (by omega) (by decide)) (show (j).toNat < 100 from tn_lt (by omega) (by decide))
        have hpv_8 := hR1.vs (show ((p0).toNat) < 3 from tn_lt (by omega) (by decide)) (show (j).toNat < 100 from tn_lt (by omega) (by decide))
        refine x_sipush hC dX5_thin_38 (by decide +kernel) ?_
        refine x_icmp_eq (tgt := 85) hC ⟨by omega, by omega⟩ ⟨by omega, by omega⟩ dX5_thin_41 (by decide) (fun c_9 => ?_) (fun c_9 => ?_)
        · refine x_iinc (lv' := [(5, .int (iN (j + 1))), (0, .ref a), (1, .int (iN (p0))), (2, .int (iN (p1))), (3, .int (iN (p2))), (4, .int (iN (n)))]) hC dX5_thin_85 hl (k := 5) rfl (by decide) rfl (fun ls hl => ?_)
          refine lv_goto (tgt := 22) hC.1 hC.2.1 dX5_thin_88 (by decide) ?_
          have hF9 : (F_thin (V (p0).toNat) (V (p1).toNat) p2) (j).toNat = V ((p0).toNat) (j).toNat := (by simp only [F_thin]; first | rw [if_neg (fun q9 => q9.1 (by omega))] | rw [if_neg (fun q9 => by have e8 := q9.2.1; have e7 := q9.2.2; omega)])
          exact ih22 n (j + 1) _ _ _ hR1 hx1 (ml_skip (by omega) hV1 hF9) (bl_skip (by omega) hbr1 hF9) _ _ _ (by first | exact mu_s hmz22 (by omega) | omega) (by omega) (by omega) (by rw [stN_s (by omega) rfl, if_neg (fun q8 => by have e8 := q8.2; rw [hF9] at e8; exact q8.1 e8)]; omega) hw (lv_sub hl [1, 2, 3, 4, 5, 0] rfl)
        · refine lv_aload_n hC.1 hC.2.1 dX5_thin_44 rfl (lv_at hl 0 rfl) ?_
          refine x_get hC hw hR1.1.1 rfl hinX5 2 (by decide) (List.mem_cons_of_mem _ (List.mem_append_left _ (List.mem_append_left _ (List.mem_of_getElem? (i := 0) rfl)))) rfl dX5_thin_45 ?_
          refine lv_iload_n hC.1 hC.2.1 dX5_thin_48 rfl (lv_at hl 2 rfl) ?_
          refine x_ald4 hC hw hR1.1.2.1 (by omega) (by omega) (by omega) dX5_thin_49 ?_
          rw [hR1.fa' (show (p1).toNat < 3 from tn_lt (by omega) (by decide))]
          show W p l e R s m args below meth c _ _ _ _ _ (F0 m 50 ls [.ref (qv ((p1).toNat))])
          refine lv_iload hC.1 hC.2.1 dX5_thin_50 (lv_at hl 5 rfl) ?_
          refine x_ialdE (x := (V1 ((p1).toNat) ((j).toNat))) hC hw (hR1.rv (show ((p1).toNat) < 3 from tn_lt (by omega) (by decide))) (by omega) (by omega) (by omega) dX5_thin_52 rfl ?_
          have hrv_10 := hR1.vr (show ((p1).toNat) < 3 from tn_lt (by omega) (by decide)) (show (j).toNat < 100 from tn_lt (by omega) (by decide))
          have hpv_10 := hR1.vs (show ((p1).toNat) < 3 from tn_lt (by omega) (by decide)) (show (j).toNat < 100 from tn_lt (by omega) (by decide))
          refine x_sipush hC dX5_thin_53 (by decide +kernel) ?_
          refine x_icmp_eq (tgt := 63) hC ⟨by omega, by omega⟩ ⟨by omega, by omega⟩ dX5_thin_56 (by decide) (fun c_11 => ?_) (fun c_11 => ?_)
          · refine x_const hC dX5_thin_63 ?_
            refine lv_iload_n hC.1 hC.2.1 dX5_thin_64 rfl (lv_at hl 3 rfl) ?_
            refine x_icmp_eq (tgt := 71) hC ⟨by omega, by omega⟩ ⟨by omega, by omega⟩ dX5_thin_65 (by decide) (fun c_12 => ?_) (fun c_12 => ?_)
            · refine lv_aload_n hC.1 hC.2.1 dX5_thin_71 rfl (lv_at hl 0 rfl) ?_
              refine lv_iload_n hC.1 hC.2.1 dX5_thin_72 rfl (lv_at hl 1 rfl) ?_
              refine lv_iload hC.1 hC.2.1 dX5_thin_73 (lv_at hl 5 rfl) ?_
              refine x_sipush hC dX5_thin_75 (by decide +kernel) ?_
              refine x_callV hC hw (lv_size hl) (c_X5_set l G hR1 (p0 := p0) (by first | assumption | omega) (p1 := j) (by omega) (p2 := (-10000)) (by omega) (by omega) (by omega) (by omega) (fun q9 => absurd rfl q9)) gX5_thin_X5_set rfl dv_X5_set hR1.1.1 rfl rfl (Nat.le_of_ble_eq_true rfl) (by rw [hRf]; decide) (by rw [hRl]; decide) (by first | (rw [hRc]; decide) | omega) (by first | (rw [hRs]; decide) | omega) dX5_thin_78 (fun r9 M_13 H locs hq hw => ?_)
              obtain ⟨z_15, brk_14, Vk_14, rfl, hz_15a, hz_15v, hz_15b, he0k_14, he1k_14, hx5k_14, hRk_14⟩ := hq
              have hsck_14 := hRk_14.sc.1
              show W p l e R s m args below meth c H locs _ _ _ (F0 m 81 ls [.int (iN (z_15))])
              refine lv_pop hC.1 hC.2.1 dX5_thin_81 rfl ?_
              refine x_iinc (lv' := [(4, .int (iN (n + 1))), (0, .ref a), (1, .int (iN (p0))), (2, .int (iN (p1))), (3, .int (iN (p2))), (5, .int (iN (j)))]) hC dX5_thin_82 hl (k := 4) rfl (by decide) rfl (fun ls hl => ?_)
              refine x_iinc (lv' := [(5, .int (iN (j + 1))), (4, .int (iN (n + 1))), (0, .ref a), (1, .int (iN (p0))), (2, .int (iN (p1))), (3, .int (iN (p2)))]) hC dX5_thin_85 hl (k := 5) rfl (by decide) rfl (fun ls hl => ?_)
              refine lv_goto (tgt := 22) hC.1 hC.2.1 dX5_thin_88 (by decide) ?_
              have hF9 : (-10000) = (F_thin (V (p0).toNat) (V (p1).toNat) p2) (j).toNat := (by simp only [F_thin]; rw [if_pos ⟨by omega, ⟨fun q9 => by omega, fun q9 => by omega⟩⟩])
              exact ih22 (n + 1) (j + 1) _ _ _ hRk_14 (xI5.tr hx1 (hx5k_14)) (ml_set (by omega) hV1 he1k_14 hF9) (bl_set (by omega) hV1 hbr1 hF9 he0k_14) _ _ _ (by first | exact mu_s hmz22 (by omega) | omega) (by omega) (by omega) (by rw [stN_s (by omega) rfl, if_pos ⟨by omega, hF9.symm⟩]; omega) hw (lv_sub hl [2, 3, 4, 5, 1, 0] rfl)
            · refine lv_goto (tgt := 85) hC.1 hC.2.1 dX5_thin_68 (by decide) ?_
              refine x_iinc (lv' := [(5, .int (iN (j + 1))), (0, .ref a), (1, .int (iN (p0))), (2, .int (iN (p1))), (3, .int (iN (p2))), (4, .int (iN (n)))]) hC dX5_thin_85 hl (k := 5) rfl (by decide) rfl (fun ls hl => ?_)
              refine lv_goto (tgt := 22) hC.1 hC.2.1 dX5_thin_88 (by decide) ?_
              have hF9 : (F_thin (V (p0).toNat) (V (p1).toNat) p2) (j).toNat = V ((p0).toNat) (j).toNat := (by simp only [F_thin]; first | rw [if_neg (fun q9 => q9.1 (by omega))] | rw [if_neg (fun q9 => by have e8 := q9.2.1; have e7 := q9.2.2; omega)])
              exact ih22 n (j + 1) _ _ _ hR1 hx1 (ml_skip (by omega) hV1 hF9) (bl_skip (by omega) hbr1 hF9) _ _ _ (by first | exact mu_s hmz22 (by omega) | omega) (by omega) (by omega) (by rw [stN_s (by omega) rfl, if_neg (fun q8 => by have e8 := q8.2; rw [hF9] at e8; exact q8.1 e8)]; omega) hw (lv_sub hl [1, 2, 3, 4, 5, 0] rfl)
          · refine x_const hC dX5_thin_59 ?_
            refine lv_goto (tgt := 64) hC.1 hC.2.1 dX5_thin_60 (by decide) ?_
            refine lv_iload_n hC.1 hC.2.1 dX5_thin_64 rfl (lv_at hl 3 rfl) ?_
            refine x_icmp_eq (tgt := 71) hC ⟨by omega, by omega⟩ ⟨by omega, by omega⟩ dX5_thin_65 (by decide) (fun c_16 => ?_) (fun c_16 => ?_)
            · refine lv_aload_n hC.1 hC.2.1 dX5_thin_71 rfl (lv_at hl 0 rfl) ?_
              refine lv_iload_n hC.1 hC.2.1 dX5_thin_72 rfl (lv_at hl 1 rfl) ?_
              refine lv_iload hC.1 hC.2.1 dX5_thin_73 (lv_at hl 5 rfl) ?_
              refine x_sipush hC dX5_thin_75 (by decide +kernel) ?_
              refine x_callV hC hw (lv_size hl) (c_X5_set l G hR1 (p0 := p0) (by first | assumption | omega) (p1 := j) (by omega) (p2 := (-10000)) (by omega) (by omega) (by omega) (by omega) (fun q9 => absurd rfl q9)) gX5_thin_X5_set rfl dv_X5_set hR1.1.1 rfl rfl (Nat.le_of_ble_eq_true rfl) (by rw [hRf]; decide) (by rw [hRl]; decide) (by first | (rw [hRc]; decide) | omega) (by first | (rw [hRs]; decide) | omega) dX5_thin_78 (fun r9 M_17 H locs hq hw => ?_)
              obtain ⟨z_19, brk_18, Vk_18, rfl, hz_19a, hz_19v, hz_19b, he0k_18, he1k_18, hx5k_18, hRk_18⟩ := hq
              have hsck_18 := hRk_18.sc.1
              show W p l e R s m args below meth c H locs _ _ _ (F0 m 81 ls [.int (iN (z_19))])
              refine lv_pop hC.1 hC.2.1 dX5_thin_81 rfl ?_
              refine x_iinc (lv' := [(4, .int (iN (n + 1))), (0, .ref a), (1, .int (iN (p0))), (2, .int (iN (p1))), (3, .int (iN (p2))), (5, .int (iN (j)))]) hC dX5_thin_82 hl (k := 4) rfl (by decide) rfl (fun ls hl => ?_)
              refine x_iinc (lv' := [(5, .int (iN (j + 1))), (4, .int (iN (n + 1))), (0, .ref a), (1, .int (iN (p0))), (2, .int (iN (p1))), (3, .int (iN (p2)))]) hC dX5_thin_85 hl (k := 5) rfl (by decide) rfl (fun ls hl => ?_)
              refine lv_goto (tgt := 22) hC.1 hC.2.1 dX5_thin_88 (by decide) ?_
              have hF9 : (-10000) = (F_thin (V (p0).toNat) (V (p1).toNat) p2) (j).toNat := (by simp only [F_thin]; rw [if_pos ⟨by omega, ⟨fun q9 => by omega, fun q9 => by omega⟩⟩])
              exact ih22 (n + 1) (j + 1) _ _ _ hRk_18 (xI5.tr hx1 (hx5k_18)) (ml_set (by omega) hV1 he1k_18 hF9) (bl_set (by omega) hV1 hbr1 hF9 he0k_18) _ _ _ (by first | exact mu_s hmz22 (by omega) | omega) (by omega) (by omega) (by rw [stN_s (by omega) rfl, if_pos ⟨by omega, hF9.symm⟩]; omega) hw (lv_sub hl [2, 3, 4, 5, 1, 0] rfl)
            · refine lv_goto (tgt := 85) hC.1 hC.2.1 dX5_thin_68 (by decide) ?_
              refine x_iinc (lv' := [(5, .int (iN (j + 1))), (0, .ref a), (1, .int (iN (p0))), (2, .int (iN (p1))), (3, .int (iN (p2))), (4, .int (iN (n)))]) hC dX5_thin_85 hl (k := 5) rfl (by decide) rfl (fun ls hl => ?_)
              refine lv_goto (tgt := 22) hC.1 hC.2.1 dX5_thin_88 (by decide) ?_
              have hF9 : (F_thin (V (p0).toNat) (V (p1).toNat) p2) (j).toNat = V ((p0).toNat) (j).toNat := (by simp only [F_thin]; first | rw [if_neg (fun q9 => q9.1 (by omega))] | rw [if_neg (fun q9 => by have e8 := q9.2.1; have e7 := q9.2.2; omega)])
              exact ih22 n (j + 1) _ _ _ hR1 hx1 (ml_skip (by omega) hV1 hF9) (bl_skip (by omega) hbr1 hF9) _ _ _ (by first | exact mu_s hmz22 (by omega) | omega) (by omega) (by omega) (by rw [stN_s (by omega) rfl, if_neg (fun q8 => by have e8 := q8.2; rw [hF9] at e8; exact q8.1 e8)]; omega) hw (lv_sub hl [1, 2, 3, 4, 5, 0] rfl)
  · replace hz_3r := (hz_3r.resolve_left (fun q9 => c_4 q9.1)).2
    refine x_const hC dX5_thin_9 ?_
    exact x_iret hC hw dX5_thin_10 (by first | decide | omega) (by first | decide | omega) ⟨0, thk_2, rfl, by omega, Or.inr ⟨by omega, by omega, MGm.of hRk_2 hK⟩⟩
set_option maxHeartbeats 4000000 in
set_option maxRecDepth 100000 in
theorem c_X5_begin (l : Launch) (G : xG) {M : HM} {a va oa wa ya : Nat} {wk : Option Nat} {th : Int} {rfd : Int32} {br re la ha : Int} {kp kv : Int32} {qv qw : Nat → Nat} {fa fb : Nat → Option Nat} {V : BW} {O : OW} {fy : Nat → Option Nat} {Wv : VW} {wt : Option VT} {S : Nat → Bool} (hR : MGx G M a va oa wa ya wk th rfd br re la ha kp kv qv qw fa fb V O fy Wv wt S) {i : Nat} {fi : Nat → Int32} {ti : VT} (hIi : Its G M i fi ti) : xMet l G yX5_begin wsX5_begin 0 0 0 0 [.ref a, .ref i] M (fun r M1 => r = none ∧ xI5 G M M1 ∧ MGx G M1 a va oa wa ya (some i) th rfd 0 (-1) (-10000) (-10000) kp kv qv qw fa fb V O fy Wv (some ti) S) := by
  refine x_intro (cc := cX5_begin) (maxL := 2) (ret := none) (by exact pln_RX5) rfl (Nat.le_of_ble_eq_true rfl) ?_
  intro p e R s m args below meth c ls hRf hRc hRs hRl hC hw hl
  have hsc0 := hR.sc.1
  obtain ⟨htat_1, htbt_1, htct_1, htdt_1, htet_1⟩ := id hIi.2.1
  have holi := hR.or' hIi.2.1.1
  have hinX5 : ∀ w ∈ wsX50, w ∈ wsX5_begin := fun w h => (List.mem_cons_of_mem _ (List.mem_append_right _ h))
  have hl : lv_has ls 2 [(0, .ref a), (1, .ref i)] := hl
  refine lv_aload_n hC.1 hC.2.1 dX5_begin_0 rfl (lv_at hl 0 rfl) ?_
  refine lv_aload_n hC.1 hC.2.1 dX5_begin_1 rfl (lv_at hl 1 rfl) ?_
  refine x_put (fs2 := [.int (iN (th)), .int rfd, .ref va, .ref oa, .ref wa, .ref ya, .ref i, .int (iN (br)), .int (iN (re)), .int (iN (la)), .int (iN (ha)), .int kp, .int kv]) hC hw hR.1.1 rfl hinX5 tyX5 tyX5_ok nmX5 6 (by decide) (List.mem_cons_of_mem _ (List.mem_append_left _ (List.mem_of_getElem? (i := 0) rfl))) rfl rfl rfl (Nat.le_of_ble_eq_true rfl) rfl dX5_begin_2 (fun H locs hw => ?_)
  obtain ⟨M_2, hM_3⟩ : ∃ z, z = va_up M a (some (.inr (7, [.int (iN (th)), .int rfd, .ref va, .ref oa, .ref wa, .ref ya, .ref i, .int (iN (br)), .int (iN (re)), .int (iN (la)), .int (iN (ha)), .int kp, .int kv]))) := ⟨_, rfl⟩
  rw [← hM_3] at hw
  have hR_4 : MGx G M_2 a va oa wa ya (some i) th rfd br re la ha kp kv qv qw fa fb V O fy Wv (some ti) S := hR.obj hM_3 ⟨hR.sc.1, hR.sc.2.1, hR.sc.2.2.1, hR.sc.2.2.2.1, hR.sc.2.2.2.2⟩ (show ItO G _ (some i) (some ti) from ⟨_, hIi⟩)
  have h_5 := hIi.x5 (hR.obj5 hM_3)
  refine lv_aload_n hC.1 hC.2.1 dX5_begin_5 rfl (lv_at hl 0 rfl) ?_
  refine x_const hC dX5_begin_6 ?_
  refine x_put (fs2 := [.int (iN (th)), .int rfd, .ref va, .ref oa, .ref wa, .ref ya, .ref i, .int (iN (0)), .int (iN (re)), .int (iN (la)), .int (iN (ha)), .int kp, .int kv]) hC hw hR_4.1.1 rfl hinX5 tyX5 tyX5_ok nmX5 7 (by decide) (List.mem_cons_of_mem _ (List.mem_append_left _ (List.mem_of_getElem? (i := 1) rfl))) rfl rfl rfl (Nat.le_of_ble_eq_true rfl) rfl dX5_begin_7 (fun H locs hw => ?_)
  obtain ⟨M_6, hM_7⟩ : ∃ z, z = va_up M_2 a (some (.inr (7, [.int (iN (th)), .int rfd, .ref va, .ref oa, .ref wa, .ref ya, .ref i, .int (iN (0)), .int (iN (re)), .int (iN (la)), .int (iN (ha)), .int kp, .int kv]))) := ⟨_, rfl⟩
  rw [← hM_7] at hw
  have hR_8 : MGx G M_6 a va oa wa ya (some i) th rfd 0 re la ha kp kv qv qw fa fb V O fy Wv (some ti) S := hR_4.obj hM_7 ⟨hR_4.sc.1, (by omega), hR_4.sc.2.2.1, hR_4.sc.2.2.2.1, hR_4.sc.2.2.2.2⟩ hR_4.wk'
  have h_9 := h_5.x5 (hR_4.obj5 hM_7)
  refine lv_aload_n hC.1 hC.2.1 dX5_begin_10 rfl (lv_at hl 0 rfl) ?_
  refine x_const hC dX5_begin_11 ?_
  refine x_put (fs2 := [.int (iN (th)), .int rfd, .ref va, .ref oa, .ref wa, .ref ya, .ref i, .int (iN (0)), .int (iN ((-1))), .int (iN (la)), .int (iN (ha)), .int kp, .int kv]) hC hw hR_8.1.1 rfl hinX5 tyX5 tyX5_ok nmX5 8 (by decide) (List.mem_cons_of_mem _ (List.mem_append_left _ (List.mem_of_getElem? (i := 2) rfl))) rfl rfl rfl (Nat.le_of_ble_eq_true rfl) rfl dX5_begin_12 (fun H locs hw => ?_)
  obtain ⟨M_10, hM_11⟩ : ∃ z, z = va_up M_6 a (some (.inr (7, [.int (iN (th)), .int rfd, .ref va, .ref oa, .ref wa, .ref ya, .ref i, .int (iN (0)), .int (iN ((-1))), .int (iN (la)), .int (iN (ha)), .int kp, .int kv]))) := ⟨_, rfl⟩
  rw [← hM_11] at hw
  have hR_12 : MGx G M_10 a va oa wa ya (some i) th rfd 0 (-1) la ha kp kv qv qw fa fb V O fy Wv (some ti) S := hR_8.obj hM_11 ⟨hR_8.sc.1, hR_8.sc.2.1, (by omega), hR_8.sc.2.2.2.1, hR_8.sc.2.2.2.2⟩ hR_8.wk'
  have h_13 := h_9.x5 (hR_8.obj5 hM_11)
  refine lv_aload_n hC.1 hC.2.1 dX5_begin_15 rfl (lv_at hl 0 rfl) ?_
  refine x_sipush hC dX5_begin_16 (by decide +kernel) ?_
  refine x_put (fs2 := [.int (iN (th)), .int rfd, .ref va, .ref oa, .ref wa, .ref ya, .ref i, .int (iN (0)), .int (iN ((-1))), .int (iN ((-10000))), .int (iN (ha)), .int kp, .int kv]) hC hw hR_12.1.1 rfl hinX5 tyX5 tyX5_ok nmX5 9 (by decide) (List.mem_cons_of_mem _ (List.mem_append_left _ (List.mem_of_getElem? (i := 3) rfl))) rfl rfl rfl (Nat.le_of_ble_eq_true rfl) rfl dX5_begin_19 (fun H locs hw => ?_)
  obtain ⟨M_14, hM_15⟩ : ∃ z, z = va_up M_10 a (some (.inr (7, [.int (iN (th)), .int rfd, .ref va, .ref oa, .ref wa, .ref ya, .ref i, .int (iN (0)), .int (iN ((-1))), .int (iN ((-10000))), .int (iN (ha)), .int kp, .int kv]))) := ⟨_, rfl⟩
  rw [← hM_15] at hw
  have hR_16 : MGx G M_14 a va oa wa ya (some i) th rfd 0 (-1) (-10000) ha kp kv qv qw fa fb V O fy Wv (some ti) S := hR_12.obj hM_15 ⟨hR_12.sc.1, hR_12.sc.2.1, hR_12.sc.2.2.1, (by omega), hR_12.sc.2.2.2.2⟩ hR_12.wk'
  have h_17 := h_13.x5 (hR_12.obj5 hM_15)
  refine lv_aload_n hC.1 hC.2.1 dX5_begin_22 rfl (lv_at hl 0 rfl) ?_
  refine x_sipush hC dX5_begin_23 (by decide +kernel) ?_
  refine x_put (fs2 := [.int (iN (th)), .int rfd, .ref va, .ref oa, .ref wa, .ref ya, .ref i, .int (iN (0)), .int (iN ((-1))), .int (iN ((-10000))), .int (iN ((-10000))), .int kp, .int kv]) hC hw hR_16.1.1 rfl hinX5 tyX5 tyX5_ok nmX5 10 (by decide) (List.mem_cons_of_mem _ (List.mem_append_left _ (List.mem_of_getElem? (i := 4) rfl))) rfl rfl rfl (Nat.le_of_ble_eq_true rfl) rfl dX5_begin_26 (fun H locs hw => ?_)
  obtain ⟨M_18, hM_19⟩ : ∃ z, z = va_up M_14 a (some (.inr (7, [.int (iN (th)), .int rfd, .ref va, .ref oa, .ref wa, .ref ya, .ref i, .int (iN (0)), .int (iN ((-1))), .int (iN ((-10000))), .int (iN ((-10000))), .int kp, .int kv]))) := ⟨_, rfl⟩
  rw [← hM_19] at hw
  have hR_20 : MGx G M_18 a va oa wa ya (some i) th rfd 0 (-1) (-10000) (-10000) kp kv qv qw fa fb V O fy Wv (some ti) S := hR_16.obj hM_19 ⟨hR_16.sc.1, hR_16.sc.2.1, hR_16.sc.2.2.1, hR_16.sc.2.2.2.1, (by omega)⟩ hR_16.wk'
  have h_21 := h_17.x5 (hR_16.obj5 hM_19)
  exact x_vret hC hw dX5_begin_29 (by first | decide | omega) (by first | decide | omega) ⟨rfl, (xI5.tr (xI5.tr (xI5.tr (xI5.tr ((hR.obj5 hM_3)) ((hR_4.obj5 hM_7))) ((hR_8.obj5 hM_11))) ((hR_12.obj5 hM_15))) ((hR_16.obj5 hM_19))), hR_20⟩
set_option maxHeartbeats 4000000 in
set_option maxRecDepth 100000 in
theorem c_X5_begin0 (l : Launch) (G : xG) {M : HM} {a va oa wa ya : Nat} {wk : Option Nat} {th : Int} {rfd : Int32} {br re la ha : Int} {kp kv : Int32} {qv qw : Nat → Nat} {fa fb : Nat → Option Nat} {V : BW} {O : OW} {fy : Nat → Option Nat} {Wv : VW} {wt : Option VT} {S : Nat → Bool} (hR : MGx G M a va oa wa ya wk th rfd br re la ha kp kv qv qw fa fb V O fy Wv wt S) : xMet l G yX5_begin wsX5_begin 0 0 0 0 [.ref a, .null] M (fun r M1 => r = none ∧ xI5 G M M1 ∧ MGx G M1 a va oa wa ya none th rfd 0 (-1) (-10000) (-10000) kp kv qv qw fa fb V O fy Wv none S) := by
  refine x_intro (cc := cX5_begin) (maxL := 2) (ret := none) (by exact pln_RX5) rfl (Nat.le_of_ble_eq_true rfl) ?_
  intro p e R s m args below meth c ls hRf hRc hRs hRl hC hw hl
  have hsc0 := hR.sc.1
  have hinX5 : ∀ w ∈ wsX50, w ∈ wsX5_begin := fun w h => (List.mem_cons_of_mem _ (List.mem_append_right _ h))
  have hl : lv_has ls 2 [(0, .ref a), (1, .null)] := hl
  refine lv_aload_n hC.1 hC.2.1 dX5_begin_0 rfl (lv_at hl 0 rfl) ?_
  refine lv_aload_nN hC.1 hC.2.1 dX5_begin_1 rfl (lv_at hl 1 rfl) ?_
  refine x_put (fs2 := [.int (iN (th)), .int rfd, .ref va, .ref oa, .ref wa, .ref ya, .null, .int (iN (br)), .int (iN (re)), .int (iN (la)), .int (iN (ha)), .int kp, .int kv]) hC hw hR.1.1 rfl hinX5 tyX5 tyX5_ok nmX5 6 (by decide) (List.mem_cons_of_mem _ (List.mem_append_left _ (List.mem_of_getElem? (i := 0) rfl))) rfl rfl rfl (Nat.le_of_ble_eq_true rfl) rfl dX5_begin_2 (fun H locs hw => ?_)
  obtain ⟨M_1, hM_2⟩ : ∃ z, z = va_up M a (some (.inr (7, [.int (iN (th)), .int rfd, .ref va, .ref oa, .ref wa, .ref ya, .null, .int (iN (br)), .int (iN (re)), .int (iN (la)), .int (iN (ha)), .int kp, .int kv]))) := ⟨_, rfl⟩
  rw [← hM_2] at hw
  have hR_3 : MGx G M_1 a va oa wa ya none th rfd br re la ha kp kv qv qw fa fb V O fy Wv none S := hR.obj hM_2 ⟨hR.sc.1, hR.sc.2.1, hR.sc.2.2.1, hR.sc.2.2.2.1, hR.sc.2.2.2.2⟩ (show ItO G _ none none from trivial)
  refine lv_aload_n hC.1 hC.2.1 dX5_begin_5 rfl (lv_at hl 0 rfl) ?_
  refine x_const hC dX5_begin_6 ?_
  refine x_put (fs2 := [.int (iN (th)), .int rfd, .ref va, .ref oa, .ref wa, .ref ya, .null, .int (iN (0)), .int (iN (re)), .int (iN (la)), .int (iN (ha)), .int kp, .int kv]) hC hw hR_3.1.1 rfl hinX5 tyX5 tyX5_ok nmX5 7 (by decide) (List.mem_cons_of_mem _ (List.mem_append_left _ (List.mem_of_getElem? (i := 1) rfl))) rfl rfl rfl (Nat.le_of_ble_eq_true rfl) rfl dX5_begin_7 (fun H locs hw => ?_)
  obtain ⟨M_4, hM_5⟩ : ∃ z, z = va_up M_1 a (some (.inr (7, [.int (iN (th)), .int rfd, .ref va, .ref oa, .ref wa, .ref ya, .null, .int (iN (0)), .int (iN (re)), .int (iN (la)), .int (iN (ha)), .int kp, .int kv]))) := ⟨_, rfl⟩
  rw [← hM_5] at hw
  have hR_6 : MGx G M_4 a va oa wa ya none th rfd 0 re la ha kp kv qv qw fa fb V O fy Wv none S := hR_3.obj hM_5 ⟨hR_3.sc.1, (by omega), hR_3.sc.2.2.1, hR_3.sc.2.2.2.1, hR_3.sc.2.2.2.2⟩ hR_3.wk'
  refine lv_aload_n hC.1 hC.2.1 dX5_begin_10 rfl (lv_at hl 0 rfl) ?_
  refine x_const hC dX5_begin_11 ?_
  refine x_put (fs2 := [.int (iN (th)), .int rfd, .ref va, .ref oa, .ref wa, .ref ya, .null, .int (iN (0)), .int (iN ((-1))), .int (iN (la)), .int (iN (ha)), .int kp, .int kv]) hC hw hR_6.1.1 rfl hinX5 tyX5 tyX5_ok nmX5 8 (by decide) (List.mem_cons_of_mem _ (List.mem_append_left _ (List.mem_of_getElem? (i := 2) rfl))) rfl rfl rfl (Nat.le_of_ble_eq_true rfl) rfl dX5_begin_12 (fun H locs hw => ?_)
  obtain ⟨M_7, hM_8⟩ : ∃ z, z = va_up M_4 a (some (.inr (7, [.int (iN (th)), .int rfd, .ref va, .ref oa, .ref wa, .ref ya, .null, .int (iN (0)), .int (iN ((-1))), .int (iN (la)), .int (iN (ha)), .int kp, .int kv]))) := ⟨_, rfl⟩
  rw [← hM_8] at hw
  have hR_9 : MGx G M_7 a va oa wa ya none th rfd 0 (-1) la ha kp kv qv qw fa fb V O fy Wv none S := hR_6.obj hM_8 ⟨hR_6.sc.1, hR_6.sc.2.1, (by omega), hR_6.sc.2.2.2.1, hR_6.sc.2.2.2.2⟩ hR_6.wk'
  refine lv_aload_n hC.1 hC.2.1 dX5_begin_15 rfl (lv_at hl 0 rfl) ?_
  refine x_sipush hC dX5_begin_16 (by decide +kernel) ?_
  refine x_put (fs2 := [.int (iN (th)), .int rfd, .ref va, .ref oa, .ref wa, .ref ya, .null, .int (iN (0)), .int (iN ((-1))), .int (iN ((-10000))), .int (iN (ha)), .int kp, .int kv]) hC hw hR_9.1.1 rfl hinX5 tyX5 tyX5_ok nmX5 9 (by decide) (List.mem_cons_of_mem _ (List.mem_append_left _ (List.mem_of_getElem? (i := 3) rfl))) rfl rfl rfl (Nat.le_of_ble_eq_true rfl) rfl dX5_begin_19 (fun H locs hw => ?_)
  obtain ⟨M_10, hM_11⟩ : ∃ z, z = va_up M_7 a (some (.inr (7, [.int (iN (th)), .int rfd, .ref va, .ref oa, .ref wa, .ref ya, .null, .int (iN (0)), .int (iN ((-1))), .int (iN ((-10000))), .int (iN (ha)), .int kp, .int kv]))) := ⟨_, rfl⟩
  rw [← hM_11] at hw
  have hR_12 : MGx G M_10 a va oa wa ya none th rfd 0 (-1) (-10000) ha kp kv qv qw fa fb V O fy Wv none S := hR_9.obj hM_11 ⟨hR_9.sc.1, hR_9.sc.2.1, hR_9.sc.2.2.1, (by omega), hR_9.sc.2.2.2.2⟩ hR_9.wk'
  refine lv_aload_n hC.1 hC.2.1 dX5_begin_22 rfl (lv_at hl 0 rfl) ?_
  refine x_sipush hC dX5_begin_23 (by decide +kernel) ?_
  refine x_put (fs2 := [.int (iN (th)), .int rfd, .ref va, .ref oa, .ref wa, .ref ya, .null, .int (iN (0)), .int (iN ((-1))), .int (iN ((-10000))), .int (iN ((-10000))), .int kp, .int kv]) hC hw hR_12.1.1 rfl hinX5 tyX5 tyX5_ok nmX5 10 (by decide) (List.mem_cons_of_mem _ (List.mem_append_left _ (List.mem_of_getElem? (i := 4) rfl))) rfl rfl rfl (Nat.le_of_ble_eq_true rfl) rfl dX5_begin_26 (fun H locs hw => ?_)
  obtain ⟨M_13, hM_14⟩ : ∃ z, z = va_up M_10 a (some (.inr (7, [.int (iN (th)), .int rfd, .ref va, .ref oa, .ref wa, .ref ya, .null, .int (iN (0)), .int (iN ((-1))), .int (iN ((-10000))), .int (iN ((-10000))), .int kp, .int kv]))) := ⟨_, rfl⟩
  rw [← hM_14] at hw
  have hR_15 : MGx G M_13 a va oa wa ya none th rfd 0 (-1) (-10000) (-10000) kp kv qv qw fa fb V O fy Wv none S := hR_12.obj hM_14 ⟨hR_12.sc.1, hR_12.sc.2.1, hR_12.sc.2.2.1, hR_12.sc.2.2.2.1, (by omega)⟩ hR_12.wk'
  exact x_vret hC hw dX5_begin_29 (by first | decide | omega) (by first | decide | omega) ⟨rfl, (xI5.tr (xI5.tr (xI5.tr (xI5.tr ((hR.obj5 hM_2)) ((hR_3.obj5 hM_5))) ((hR_6.obj5 hM_8))) ((hR_9.obj5 hM_11))) ((hR_12.obj5 hM_14))), hR_15⟩
set_option maxHeartbeats 4000000 in
set_option maxRecDepth 100000 in
theorem c_X5_free (l : Launch) (G : xG) {M : HM} {a va oa wa ya : Nat} {wk : Option Nat} {th : Int} {rfd : Int32} {br re la ha : Int} {kp kv : Int32} {qv qw : Nat → Nat} {fa fb : Nat → Option Nat} {V : BW} {O : OW} {fy : Nat → Option Nat} {Wv : VW} {wt : Option VT} {S : Nat → Bool} (hR : MGx G M a va oa wa ya wk th rfd br re la ha kp kv qv qw fa fb V O fy Wv wt S) : xMet l G yX5_free wsX5_free 0 0 0 0 [.ref a] M (fun r M1 => ∃ z : Int, r = some (.int (iN z)) ∧ M1 = M ∧ (z = -10000 ∨ (0 ≤ z ∧ z ≤ 3)) ∧ ((frN Wv < 4 ∧ z = ((frN Wv : Nat) : Int)) ∨ (frN Wv = 4 ∧ z = -10000))) := by
  refine x_intro (cc := cX5_free) (maxL := 2) (ret := (some .int)) (by exact pln_RX5) rfl (Nat.le_of_ble_eq_true rfl) ?_
  intro p e R s m args below meth c ls hRf hRc hRs hRl hC hw hl
  have hsc0 := hR.sc.1
  have hinX5 : ∀ w ∈ wsX50, w ∈ wsX5_free := fun w h => (List.mem_cons_of_mem _ (List.mem_append_right _ h))
  have hl : lv_has ls 2 [(0, .ref a)] := hl
  refine x_const hC dX5_free_0 ?_
  refine lv_istore_n (lv' := [(1, .int (iN (0))), (0, .ref a)]) hC.1 hC.2.1 dX5_free_1 rfl hl (by decide) rfl (fun ls hl => ?_)
  suffices hloop2 : ∀ (n9 : Nat) (j : Int) (H : Heap) (locs : List Loc) (ls : Array Slot), (hmz2 : (4 - j).toNat < n9) → (hi0 : 0 ≤ j ∧ j ≤ 4) → (hi2 : ∀ i : Nat, i < j.toNat → Wv i ≠ none) → xD G (xA M s.heap.size) s M H locs → lv_has ls 2 [(0, .ref a), (1, .int (iN (j)))] → W p l e R s m args below meth c H locs _ _ _ (F0 m 2 ls []) by
    exact hloop2 _ 0  _ _ _ (Nat.lt_succ_self _) (by omega) (fun i9 hi9 => absurd hi9 (by omega)) hw (lv_sub hl [1, 0] rfl)
  intro n9
  induction n9 with
  | zero => intro j  H locs ls hmz; exact absurd hmz (Nat.not_lt_zero _)
  | succ n9 ih2 =>
    intro j  H locs ls hmz2 hi0 hi2 hw hl
    refine lv_iload_n hC.1 hC.2.1 dX5_free_2 rfl (lv_at hl 1 rfl) ?_
    refine x_const hC dX5_free_3 ?_
    refine x_icmp_ge (tgt := 24) hC ⟨by omega, by omega⟩ ⟨by omega, by omega⟩ dX5_free_4 (by decide) (fun c_1 => ?_) (fun c_1 => ?_)
    · refine x_sipush hC dX5_free_24 (by decide +kernel) ?_
      exact x_iret hC hw dX5_free_27 (by first | decide | omega) (by first | decide | omega) ⟨(-10000), rfl, rfl, by omega, Or.inr ⟨frN_no (fun i9 hi9 => hi2 i9 (by omega)), rfl⟩⟩
    · refine lv_aload_n hC.1 hC.2.1 dX5_free_7 rfl (lv_at hl 0 rfl) ?_
      refine x_get hC hw hR.1.1 rfl hinX5 5 (by decide) (List.mem_cons_of_mem _ (List.mem_append_left _ (List.mem_of_getElem? (i := 0) rfl))) rfl dX5_free_8 ?_
      refine lv_iload_n hC.1 hC.2.1 dX5_free_11 rfl (lv_at hl 1 rfl) ?_
      refine x_ald4 hC hw hR.1.2.2.2.2.1 (by omega) (by omega) (by omega) dX5_free_12 ?_
      rcases hy_3 : fy ((j).toNat) with _ | y_2
      · have hnhy_3 : Wv ((j).toNat) = none := (hR.vw (show (j).toNat < 4 from tn_lt (by omega) (by decide))).nil hy_3
        have hohy_3 := opN_none hnhy_3
        show W p l e R s m args below meth c _ _ _ _ _ (F0 m 13 ls [.null])
        refine lv_ifnonnullN hC.1 hC.2.1 dX5_free_13 ?_
        refine lv_iload_n hC.1 hC.2.1 dX5_free_16 rfl (lv_at hl 1 rfl) ?_
        exact x_iret hC hw dX5_free_17 (by first | decide | omega) (by first | decide | omega) ⟨j, rfl, rfl, by omega, Or.inl ⟨by have e9 := frN_at (j := (j).toNat) (by omega) hnhy_3 (fun i9 hi9 => hi2 i9 (by omega)); omega, by have e9 := frN_at (j := (j).toNat) (by omega) hnhy_3 (fun i9 hi9 => hi2 i9 (by omega)); omega⟩⟩
      · obtain ⟨ti_4, fi_4, hui_4, hIi_4⟩ := (hR.vw (show (j).toNat < 4 from tn_lt (by omega) (by decide))).yes hy_3
        obtain ⟨htat_5, htbt_5, htct_5, htdt_5, htet_5⟩ := id hIi_4.2.1
        have hohy_3 := opN_some hui_4
        show W p l e R s m args below meth c _ _ _ _ _ (F0 m 13 ls [.ref y_2])
        refine lv_ifnonnull (tgt := 18) hC.1 hC.2.1 dX5_free_13 (by decide) ?_
        refine x_iinc (lv' := [(1, .int (iN (j + 1))), (0, .ref a)]) hC dX5_free_18 hl (k := 1) rfl (by decide) rfl (fun ls hl => ?_)
        refine lv_goto (tgt := 2) hC.1 hC.2.1 dX5_free_21 (by decide) ?_
        exact ih2 (j + 1)  _ _ _ (by first | exact mu_s hmz2 (by omega) | omega) (by omega) (fun i9 hi9 => by by_cases e9 : i9 = (j).toNat; (· rw [e9, hui_4]; exact fun q9 => nomatch q9); (· exact hi2 i9 (by omega))) hw (lv_sub hl [1, 0] rfl)
set_option maxHeartbeats 4000000 in
set_option maxRecDepth 100000 in
theorem c_X5_open (l : Launch) (G : xG) {M : HM} {a va oa wa ya : Nat} {wk : Option Nat} {th : Int} {rfd : Int32} {br re la ha : Int} {kp kv : Int32} {qv qw : Nat → Nat} {fa fb : Nat → Option Nat} {V : BW} {O : OW} {fy : Nat → Option Nat} {Wv : VW} {wt : Option VT} {S : Nat → Bool} (hR : MGx G M a va oa wa ya wk th rfd br re la ha kp kv qv qw fa fb V O fy Wv wt S) {i : Nat} {fi : Nat → Int32} {ti : VT} (hIi : Its G M i fi ti) (hof : frN Wv < 4) : xMet l G yX5_open wsX5_open 1 21 0 0 [.ref a, .ref i] M (fun r M1 => ∃ (z : Int) (fy1 : Nat → Option Nat) (Wv1 : VW), r = some (.int (iN z)) ∧ (0 ≤ z ∧ z ≤ 3) ∧ z = ((frN Wv : Nat) : Int) ∧ Wv1 = upW Wv (frN Wv) (some ti) ∧ xI5 G M M1 ∧ MGx G M1 a va oa wa ya wk th rfd br re la ha kp kv qv qw fa fb V O fy1 Wv1 wt S) := by
  refine x_intro (cc := cX5_open) (maxL := 3) (ret := (some .int)) (by exact pln_RX5) rfl (Nat.le_of_ble_eq_true rfl) ?_
  intro p e R s m args below meth c ls hRf hRc hRs hRl hC hw hl
  have hsc0 := hR.sc.1
  obtain ⟨htat_1, htbt_1, htct_1, htdt_1, htet_1⟩ := id hIi.2.1
  have holi := hR.or' hIi.2.1.1
  have hinX5 : ∀ w ∈ wsX50, w ∈ wsX5_open := fun w h => (List.mem_cons_of_mem _ (List.mem_append_right _ h))
  have hl : lv_has ls 3 [(0, .ref a), (1, .ref i)] := hl
  refine lv_aload_n hC.1 hC.2.1 dX5_open_0 rfl (lv_at hl 0 rfl) ?_
  refine x_callV hC hw (lv_size hl) (c_X5_free l G hR) gX5_open_X5_free rfl dv_X5_free hR.1.1 rfl rfl (Nat.le_of_ble_eq_true rfl) (by rw [hRf]; decide) (by rw [hRl]; decide) (by first | (rw [hRc]; decide) | omega) (by first | (rw [hRs]; decide) | omega) dX5_open_1 (fun r9 M_2 H locs hq hw => ?_)
  obtain ⟨z_3, rfl, hM9, hz_3a, hz_3f⟩ := hq
  rw [hM9] at hw
  show W p l e R s m args below meth c H locs _ _ _ (F0 m 4 ls [.int (iN (z_3))])
  refine lv_istore_n (lv' := [(2, .int (iN (z_3))), (0, .ref a), (1, .ref i)]) hC.1 hC.2.1 dX5_open_4 rfl hl (by decide) rfl (fun ls hl => ?_)
  refine lv_aload_n hC.1 hC.2.1 dX5_open_5 rfl (lv_at hl 1 rfl) ?_
  refine x_get hC hw hR.1.1 rfl hinX5 5 (by decide) (List.mem_cons_of_mem _ (List.mem_append_left _ (List.mem_of_getElem? (i := 0) rfl))) rfl dX5_open_6 ?_
  refine lv_iload_n hC.1 hC.2.1 dX5_open_9 rfl (lv_at hl 0 rfl) ?_
  refine lv_aload_n hC.1 hC.2.1 dX5_open_10 rfl (lv_at hl 2 rfl) ?_
  refine x_ast4 hC hw hR.1.2.2.2.2.1 hIi.1 (by omega) (by omega) (by omega) dX5_open_11 (fun H locs hw => ?_)
  obtain ⟨M_4, hM_5⟩ : ∃ z, z = va_up M ya (some (.inl (G.2 4, 4, .inr (.inr (.inr (.inr (va_up fy (z_3).toNat (some i)))))))) := ⟨_, rfl⟩
  rw [← hM_5] at hw
  have hR_6 := hR.vws (W2 := (upW Wv ((z_3).toNat) (some ti))) hM_5 (fun j9 hj => by by_cases e9 : j9 = (z_3).toNat; (· subst e9; rw [va_up_self, upW_s]; exact ⟨_, hIi⟩); (· rw [va_up_ne _ _ e9, upW_n _ _ e9]; exact hR.vw hj))
  obtain ⟨fy_7, hfy_7⟩ : ∃ z, z = (va_up fy (z_3).toNat (some i)) := ⟨_, rfl⟩
  rw [← hfy_7] at hR_6
  obtain ⟨Wv_8, hWv_8⟩ : ∃ z, z = (upW Wv ((z_3).toNat) (some ti)) := ⟨_, rfl⟩
  rw [← hWv_8] at hR_6
  have h_9 := hIi.x5 (hR.vws5 hM_5)
  refine lv_iload_n hC.1 hC.2.1 dX5_open_12 rfl (lv_at hl 0 rfl) ?_
  exact x_iret hC hw dX5_open_13 (by first | decide | omega) (by first | decide | omega) ⟨z_3, _, _, rfl, by omega, by omega, (by rw [hWv_8, show (z_3).toNat = frN Wv by omega]), ((hR.vws5 hM_5)), hR_6⟩
set_option maxHeartbeats 4000000 in
set_option maxRecDepth 100000 in
theorem c_X5_head (l : Launch) (G : xG) {M : HM} {a va oa wa ya : Nat} {wk : Option Nat} {th : Int} {rfd : Int32} {br re la ha : Int} {kp kv : Int32} {qv qw : Nat → Nat} {fa fb : Nat → Option Nat} {V : BW} {O : OW} {fy : Nat → Option Nat} {Wv : VW} {wt : Option VT} {S : Nat → Bool} (hR : MGx G M a va oa wa ya wk th rfd br re la ha kp kv qv qw fa fb V O fy Wv wt S) {K : WA} (hK : abM O wt br re la ha K) {p0 : Int} (hp0 : -2147483648 ≤ p0 ∧ p0 ≤ 2147483647) {p1 : Int} (hp1 : -2147483648 ≤ p1 ∧ p1 ≤ 2147483647) {p2 : Int} (hp2 : -2147483648 ≤ p2 ∧ p2 ≤ 2147483647) (hb2 : p2 = 0 ∨ p2 = 1) : xMet l G yX5_head wsX5_head 3 66 1 5 [.ref a, .int (iN (p0)), .int (iN (p1)), .int (iN (p2))] M (fun r M1 => ∃ (z th1 : Int), r = some (.int (iN z)) ∧ (-2147483648 ≤ z ∧ z ≤ 2147483647) ∧ ((th1 = 0 ∧ ((0 ≤ p0 ∧ p0 ≤ 2) ∧ (0 ≤ p1 ∧ p1 ≤ 99) ∧ (frN Wv < 4)) ∧ z = A_head (O, V, Wv, K, kp, kv, rfd) p0 p1 p2 ∧ MGm G M1 a S th1 (S_head (O, V, Wv, K, kp, kv, rfd) p0 p1 p2)) ∨ (th1 ≠ 0 ∧ ((th1 = 1 ∧ ¬ (0 ≤ p0 ∧ p0 ≤ 2)) ∨ (th1 = 2 ∧ (0 ≤ p0 ∧ p0 ≤ 2) ∧ ¬ (0 ≤ p1 ∧ p1 ≤ 99)) ∨ (th1 = 3 ∧ (0 ≤ p0 ∧ p0 ≤ 2) ∧ (0 ≤ p1 ∧ p1 ≤ 99) ∧ ¬ (frN Wv < 4))) ∧ MGm G M1 a S th1 (O, V, Wv, K, kp, kv, rfd)))) := by
  refine x_intro (cc := cX5_head) (maxL := 4) (ret := (some .int)) (by exact pln_RX5) rfl (Nat.le_of_ble_eq_true rfl) ?_
  intro p e R s m args below meth c ls hRf hRc hRs hRl hC hw hl
  have hsc0 := hR.sc.1
  have hl : lv_has ls 4 [(0, .ref a), (1, .int (iN (p0))), (2, .int (iN (p1))), (3, .int (iN (p2)))] := hl
  refine lv_aload_n hC.1 hC.2.1 dX5_head_0 rfl (lv_at hl 0 rfl) ?_
  refine lv_iload_n hC.1 hC.2.1 dX5_head_1 rfl (lv_at hl 1 rfl) ?_
  refine lv_iload_n hC.1 hC.2.1 dX5_head_2 rfl (lv_at hl 2 rfl) ?_
  refine x_callV hC hw (lv_size hl) (c_X5_isBad l G hR (p0 := p0) (by first | assumption | omega) (p1 := p1) (by first | assumption | omega)) gX5_head_X5_isBad rfl dv_X5_isBad hR.1.1 rfl rfl (Nat.le_of_ble_eq_true rfl) (by rw [hRf]; decide) (by rw [hRl]; decide) (by first | (rw [hRc]; decide) | omega) (by first | (rw [hRs]; decide) | omega) dX5_head_3 (fun r9 M_1 H locs hq hw => ?_)
  obtain ⟨z_3, thk_2, rfl, hz_3r, hx5k_2, hRk_2⟩ := hq
  have hsck_2 := hRk_2.sc.1
  show W p l e R s m args below meth c H locs _ _ _ (F0 m 6 ls [.int (iN (z_3))])
  refine x_if_ne (tgt := 32) hC ⟨by omega, by omega⟩ dX5_head_6 (by decide) (fun c_4 => ?_) (fun c_4 => ?_)
  · replace hz_3r := (hz_3r.resolve_left (fun q9 => c_4 q9.1)).2
    refine x_const hC dX5_head_32 ?_
    refine lv_goto (tgt := 68) hC.1 hC.2.1 dX5_head_33 (by decide) ?_
    exact x_iret hC hw dX5_head_68 (by first | decide | omega) (by first | decide | omega) ⟨0, thk_2, rfl, by omega, Or.inr ⟨by omega, by omega, MGm.of hRk_2 hK⟩⟩
  · replace hz_3r := (hz_3r.resolve_right (fun q9 => absurd (q9.1.symm.trans c_4) (by decide))).2
    refine lv_aload_n hC.1 hC.2.1 dX5_head_9 rfl (lv_at hl 0 rfl) ?_
    refine lv_aload_n hC.1 hC.2.1 dX5_head_10 rfl (lv_at hl 0 rfl) ?_
    refine x_callV hC hw (lv_size hl) (c_X5_free l G hRk_2) gX5_head_X5_free rfl dv_X5_free hRk_2.1.1 rfl rfl (Nat.le_of_ble_eq_true rfl) (by rw [hRf]; decide) (by rw [hRl]; decide) (by first | (rw [hRc]; decide) | omega) (by first | (rw [hRs]; decide) | omega) dX5_head_11 (fun r9 M_5 H locs hq hw => ?_)
    obtain ⟨z_6, rfl, hM9, hz_6a, hz_6f⟩ := hq
    rw [hM9] at hw
    show W p l e R s m args below meth c H locs _ _ _ (F0 m 14 ls [.int (iN (z_6)), .ref a])
    refine x_sipush hC dX5_head_14 (by decide +kernel) ?_
    refine x_icmp_ne (tgt := 24) hC ⟨by omega, by omega⟩ ⟨by omega, by omega⟩ dX5_head_17 (by decide) (fun c_7 => ?_) (fun c_7 => ?_)
    · refine x_const hC dX5_head_24 ?_
      refine x_const hC dX5_head_25 ?_
      refine x_callV hC hw (lv_size hl) (c_X5_refuse l G hRk_2 (p0 := 0) (by omega) (p1 := 3) (by omega) (by omega)) gX5_head_X5_refuse rfl dv_X5_refuse hRk_2.1.1 rfl rfl (Nat.le_of_ble_eq_true rfl) (by rw [hRf]; decide) (by rw [hRl]; decide) (by first | (rw [hRc]; decide) | omega) (by first | (rw [hRs]; decide) | omega) dX5_head_26 (fun r9 M_8 H locs hq hw => ?_)
      obtain ⟨z_10, thk_9, rfl, hz_10r, hx5k_9, hRk_9⟩ := hq
      have hsck_9 := hRk_9.sc.1
      show W p l e R s m args below meth c H locs _ _ _ (F0 m 29 ls [.int (iN (z_10))])
      refine x_if_eq (tgt := 36) hC ⟨by omega, by omega⟩ dX5_head_29 (by decide) (fun c_11 => ?_) (fun c_11 => ?_)
      · replace hz_10r := (hz_10r.resolve_right (fun q9 => absurd (q9.1.symm.trans c_11) (by decide))).2
        refine lv_aload_n hC.1 hC.2.1 dX5_head_36 rfl (lv_at hl 0 rfl) ?_
        refine x_const hC dX5_head_37 ?_
        refine x_newI hC hw (by decide +kernel) 5 rfl (by decide) (by omega) (by omega) dX5_head_38 (fun q_12 H hq_13 hw => ?_)
        obtain ⟨M_14, hM_15⟩ : ∃ z, z = va_up M_8 q_12 (some (.inl (G.2 1, 5, .inl (fun _ => 0)))) := ⟨_, rfl⟩
        rw [← hM_15] at hw
        have hx_16 : xExt M_8 M_14 := by rw [hM_15]; exact xExt.new hq_13
        have hA_17 : M_14 q_12 = some (.inl (G.2 1, 5, .inl (fun _ => 0))) := by rw [hM_15, va_up_self]
        have h_18 := hRk_9.ext hx_16
        refine lv_dup hC.1 hC.2.1 dX5_head_40 rfl ?_
        refine x_const hC dX5_head_41 ?_
        refine lv_iload_n hC.1 hC.2.1 dX5_head_42 rfl (lv_at hl 1 rfl) ?_
        refine x_iast hC hw hA_17 (by omega) (by omega) (by omega) dX5_head_43 (fun H locs hw => ?_)
        obtain ⟨M_19, hM_20⟩ : ∃ z, z = va_up M_14 q_12 (some (.inl (G.2 1, 5, .inl (upd (fun _ => 0) (0 : Int).toNat (iN (p0)))))) := ⟨_, rfl⟩
        rw [← hM_20] at hw
        have hA_21 : M_19 q_12 = some (.inl (G.2 1, 5, .inl (upd (fun _ => 0) (0 : Int).toNat (iN (p0))))) := by rw [hM_20, va_up_self]
        have hx_22 := xExt.upd hq_13 hx_16 hM_20
        have h_23 := hRk_9.ext hx_22
        refine lv_dup hC.1 hC.2.1 dX5_head_44 rfl ?_
        refine x_const hC dX5_head_45 ?_
        refine x_sipush hC dX5_head_46 (by decide +kernel) ?_
        refine x_iast hC hw hA_21 (by omega) (by omega) (by omega) dX5_head_49 (fun H locs hw => ?_)
        obtain ⟨M_24, hM_25⟩ : ∃ z, z = va_up M_19 q_12 (some (.inl (G.2 1, 5, .inl (upd (upd (fun _ => 0) (0 : Int).toNat (iN (p0))) (1 : Int).toNat (iN ((-10000))))))) := ⟨_, rfl⟩
        rw [← hM_25] at hw
        have hA_26 : M_24 q_12 = some (.inl (G.2 1, 5, .inl (upd (upd (fun _ => 0) (0 : Int).toNat (iN (p0))) (1 : Int).toNat (iN ((-10000)))))) := by rw [hM_25, va_up_self]
        have hx_27 := xExt.upd hq_13 hx_22 hM_25
        have h_28 := hRk_9.ext hx_27
        refine lv_dup hC.1 hC.2.1 dX5_head_50 rfl ?_
        refine x_const hC dX5_head_51 ?_
        refine x_const hC dX5_head_52 ?_
        refine x_iast hC hw hA_26 (by omega) (by omega) (by omega) dX5_head_53 (fun H locs hw => ?_)
        obtain ⟨M_29, hM_30⟩ : ∃ z, z = va_up M_24 q_12 (some (.inl (G.2 1, 5, .inl (upd (upd (upd (fun _ => 0) (0 : Int).toNat (iN (p0))) (1 : Int).toNat (iN ((-10000)))) (2 : Int).toNat (iN (0)))))) := ⟨_, rfl⟩
        rw [← hM_30] at hw
        have hA_31 : M_29 q_12 = some (.inl (G.2 1, 5, .inl (upd (upd (upd (fun _ => 0) (0 : Int).toNat (iN (p0))) (1 : Int).toNat (iN ((-10000)))) (2 : Int).toNat (iN (0))))) := by rw [hM_30, va_up_self]
        have hx_32 := xExt.upd hq_13 hx_27 hM_30
        have h_33 := hRk_9.ext hx_32
        refine lv_dup hC.1 hC.2.1 dX5_head_54 rfl ?_
        refine x_const hC dX5_head_55 ?_
        refine lv_iload_n hC.1 hC.2.1 dX5_head_56 rfl (lv_at hl 2 rfl) ?_
        refine x_iast hC hw hA_31 (by omega) (by omega) (by omega) dX5_head_57 (fun H locs hw => ?_)
        obtain ⟨M_34, hM_35⟩ : ∃ z, z = va_up M_29 q_12 (some (.inl (G.2 1, 5, .inl (upd (upd (upd (upd (fun _ => 0) (0 : Int).toNat (iN (p0))) (1 : Int).toNat (iN ((-10000)))) (2 : Int).toNat (iN (0))) (3 : Int).toNat (iN (p1)))))) := ⟨_, rfl⟩
        rw [← hM_35] at hw
        have hA_36 : M_34 q_12 = some (.inl (G.2 1, 5, .inl (upd (upd (upd (upd (fun _ => 0) (0 : Int).toNat (iN (p0))) (1 : Int).toNat (iN ((-10000)))) (2 : Int).toNat (iN (0))) (3 : Int).toNat (iN (p1))))) := by rw [hM_35, va_up_self]
        have hx_37 := xExt.upd hq_13 hx_32 hM_35
        have h_38 := hRk_9.ext hx_37
        refine lv_dup hC.1 hC.2.1 dX5_head_58 rfl ?_
        refine x_const hC dX5_head_59 ?_
        refine lv_iload_n hC.1 hC.2.1 dX5_head_60 rfl (lv_at hl 3 rfl) ?_
        refine x_callS hC hw (lv_size hl) (c_X5_one l G (M := M_34) (p0 := p2) (by first | assumption | omega)) gX5_head_X5_one rfl dv_X5_one_s rfl (Nat.le_of_ble_eq_true rfl) (by rw [hRf]; decide) (by rw [hRl]; decide) (by first | (rw [hRc]; decide) | omega) (by first | (rw [hRs]; decide) | omega) dX5_head_61 (fun r9 M_39 H locs hq hw => ?_)
        obtain ⟨z_40, rfl, hM9, hz_40a, hz_40b⟩ := hq
        rw [hM9] at hw
        show W p l e R s m args below meth c H locs _ _ _ (F0 m 64 ls [.int (iN (z_40)), .int (iN (4)), .ref q_12, .ref q_12, .ref a])
        refine x_iast hC hw hA_36 (by omega) (by omega) (by omega) dX5_head_64 (fun H locs hw => ?_)
        obtain ⟨M_41, hM_42⟩ : ∃ z, z = va_up M_34 q_12 (some (.inl (G.2 1, 5, .inl (upd (upd (upd (upd (upd (fun _ => 0) (0 : Int).toNat (iN (p0))) (1 : Int).toNat (iN ((-10000)))) (2 : Int).toNat (iN (0))) (3 : Int).toNat (iN (p1))) (4 : Int).toNat (iN (z_40)))))) := ⟨_, rfl⟩
        rw [← hM_42] at hw
        have hA_43 : M_41 q_12 = some (.inl (G.2 1, 5, .inl (upd (upd (upd (upd (upd (fun _ => 0) (0 : Int).toNat (iN (p0))) (1 : Int).toNat (iN ((-10000)))) (2 : Int).toNat (iN (0))) (3 : Int).toNat (iN (p1))) (4 : Int).toNat (iN (z_40))))) := by rw [hM_42, va_up_self]
        have hx_44 := xExt.upd hq_13 hx_37 hM_42
        have h_45 := hRk_9.ext hx_44
        have hI_46 : Its G M_41 q_12 (upd (upd (upd (upd (upd (fun _ => 0) (0 : Int).toNat (iN (p0))) (1 : Int).toNat (iN ((-10000)))) (2 : Int).toNat (iN (0))) (3 : Int).toNat (iN (p1))) (4 : Int).toNat (iN (z_40))) ((p0).toNat, (-10000), p1, 0, p2) := ⟨hA_43, ⟨(show (p0).toNat < 3 from tn_lt (by omega) (by decide)), (show (-10000) = -10000 ∨ (0 ≤ (-10000) ∧ (-10000) ≤ 99) by omega), (show p1 = -10000 ∨ (0 ≤ p1 ∧ p1 ≤ 99) by omega), (show 0 = 0 ∨ 0 = 1 by omega), (show p2 = 0 ∨ p2 = 1 by omega)⟩, (show iN (p0) = iN ((((p0).toNat : Nat) : Int)) from congrArg iN (by omega)), rfl, rfl, rfl, (show iN (z_40) = iN (p2) from congrArg iN (by omega))⟩
        refine x_callV hC hw (lv_size hl) (c_X5_open l G h_45 hI_46 (by omega)) gX5_head_X5_open rfl dv_X5_open h_45.1.1 rfl rfl (Nat.le_of_ble_eq_true rfl) (by rw [hRf]; decide) (by rw [hRl]; decide) (by first | (rw [hRc]; decide) | omega) (by first | (rw [hRs]; decide) | omega) dX5_head_65 (fun r9 M_47 H locs hq hw => ?_)
        obtain ⟨z_49, fyk_48, Wvk_48, rfl, hz_49a, hz_49f, he0k_48, hx5k_48, hRk_48⟩ := hq
        have h_50 := hI_46.x5 hx5k_48
        have hsck_48 := hRk_48.sc.1
        show W p l e R s m args below meth c H locs _ _ _ (F0 m 68 ls [.int (iN (z_49))])
        exact x_iret hC hw dX5_head_68 (by first | decide | omega) (by first | decide | omega) ⟨z_49, thk_9, rfl, ⟨by omega, by omega⟩, Or.inl ⟨by omega, ⟨⟨(by first | omega | trivial), (by first | omega | trivial)⟩, ⟨(by first | omega | trivial), (by first | omega | trivial)⟩, (by first | omega | trivial)⟩, hz_49f, (by have e9 := hRk_48; rw [he0k_48] at e9; exact MGm.of e9 hK)⟩⟩
      · replace hz_10r := (hz_10r.resolve_left (fun q9 => c_11 q9.1)).2
        refine x_const hC dX5_head_32 ?_
        refine lv_goto (tgt := 68) hC.1 hC.2.1 dX5_head_33 (by decide) ?_
        exact x_iret hC hw dX5_head_68 (by first | decide | omega) (by first | decide | omega) ⟨0, thk_9, rfl, by omega, Or.inr ⟨by omega, by omega, MGm.of hRk_9 hK⟩⟩
    · refine x_const hC dX5_head_20 ?_
      refine lv_goto (tgt := 25) hC.1 hC.2.1 dX5_head_21 (by decide) ?_
      refine x_const hC dX5_head_25 ?_
      refine x_callV hC hw (lv_size hl) (c_X5_refuse l G hRk_2 (p0 := 1) (by omega) (p1 := 3) (by omega) (by omega)) gX5_head_X5_refuse rfl dv_X5_refuse hRk_2.1.1 rfl rfl (Nat.le_of_ble_eq_true rfl) (by rw [hRf]; decide) (by rw [hRl]; decide) (by first | (rw [hRc]; decide) | omega) (by first | (rw [hRs]; decide) | omega) dX5_head_26 (fun r9 M_51 H locs hq hw => ?_)
      obtain ⟨z_53, thk_52, rfl, hz_53r, hx5k_52, hRk_52⟩ := hq
      have hsck_52 := hRk_52.sc.1
      show W p l e R s m args below meth c H locs _ _ _ (F0 m 29 ls [.int (iN (z_53))])
      refine x_if_eq (tgt := 36) hC ⟨by omega, by omega⟩ dX5_head_29 (by decide) (fun c_54 => ?_) (fun c_54 => ?_)
      · replace hz_53r := (hz_53r.resolve_right (fun q9 => absurd (q9.1.symm.trans c_54) (by decide))).2
        exact absurd hz_53r.2.2 (by decide)
      · replace hz_53r := (hz_53r.resolve_left (fun q9 => c_54 q9.1)).2
        refine x_const hC dX5_head_32 ?_
        refine lv_goto (tgt := 68) hC.1 hC.2.1 dX5_head_33 (by decide) ?_
        exact x_iret hC hw dX5_head_68 (by first | decide | omega) (by first | decide | omega) ⟨0, thk_52, rfl, by omega, Or.inr ⟨by omega, by omega, MGm.of hRk_52 hK⟩⟩
set_option maxHeartbeats 4000000 in
set_option maxRecDepth 100000 in
theorem c_X5_tail (l : Launch) (G : xG) {M : HM} {a va oa wa ya : Nat} {wk : Option Nat} {th : Int} {rfd : Int32} {br re la ha : Int} {kp kv : Int32} {qv qw : Nat → Nat} {fa fb : Nat → Option Nat} {V : BW} {O : OW} {fy : Nat → Option Nat} {Wv : VW} {wt : Option VT} {S : Nat → Bool} (hR : MGx G M a va oa wa ya wk th rfd br re la ha kp kv qv qw fa fb V O fy Wv wt S) {K : WA} (hK : abM O wt br re la ha K) {p0 : Int} (hp0 : -2147483648 ≤ p0 ∧ p0 ≤ 2147483647) {p1 : Int} (hp1 : -2147483648 ≤ p1 ∧ p1 ≤ 2147483647) {p2 : Int} (hp2 : -2147483648 ≤ p2 ∧ p2 ≤ 2147483647) (hb2 : p2 = 0 ∨ p2 = 1) : xMet l G yX5_tail wsX5_tail 3 66 1 5 [.ref a, .int (iN (p0)), .int (iN (p1)), .int (iN (p2))] M (fun r M1 => ∃ (z th1 : Int), r = some (.int (iN z)) ∧ (-2147483648 ≤ z ∧ z ≤ 2147483647) ∧ ((th1 = 0 ∧ ((0 ≤ p0 ∧ p0 ≤ 2) ∧ (0 ≤ p1 ∧ p1 ≤ 99) ∧ (frN Wv < 4)) ∧ z = A_tail (O, V, Wv, K, kp, kv, rfd) p0 p1 p2 ∧ MGm G M1 a S th1 (S_tail (O, V, Wv, K, kp, kv, rfd) p0 p1 p2)) ∨ (th1 ≠ 0 ∧ ((th1 = 1 ∧ ¬ (0 ≤ p0 ∧ p0 ≤ 2)) ∨ (th1 = 2 ∧ (0 ≤ p0 ∧ p0 ≤ 2) ∧ ¬ (0 ≤ p1 ∧ p1 ≤ 99)) ∨ (th1 = 3 ∧ (0 ≤ p0 ∧ p0 ≤ 2) ∧ (0 ≤ p1 ∧ p1 ≤ 99) ∧ ¬ (frN Wv < 4))) ∧ MGm G M1 a S th1 (O, V, Wv, K, kp, kv, rfd)))) := by
  refine x_intro (cc := cX5_tail) (maxL := 4) (ret := (some .int)) (by exact pln_RX5) rfl (Nat.le_of_ble_eq_true rfl) ?_
  intro p e R s m args below meth c ls hRf hRc hRs hRl hC hw hl
  have hsc0 := hR.sc.1
  have hl : lv_has ls 4 [(0, .ref a), (1, .int (iN (p0))), (2, .int (iN (p1))), (3, .int (iN (p2)))] := hl
  refine lv_aload_n hC.1 hC.2.1 dX5_tail_0 rfl (lv_at hl 0 rfl) ?_
  refine lv_iload_n hC.1 hC.2.1 dX5_tail_1 rfl (lv_at hl 1 rfl) ?_
  refine lv_iload_n hC.1 hC.2.1 dX5_tail_2 rfl (lv_at hl 2 rfl) ?_
  refine x_callV hC hw (lv_size hl) (c_X5_isBad l G hR (p0 := p0) (by first | assumption | omega) (p1 := p1) (by first | assumption | omega)) gX5_tail_X5_isBad rfl dv_X5_isBad hR.1.1 rfl rfl (Nat.le_of_ble_eq_true rfl) (by rw [hRf]; decide) (by rw [hRl]; decide) (by first | (rw [hRc]; decide) | omega) (by first | (rw [hRs]; decide) | omega) dX5_tail_3 (fun r9 M_1 H locs hq hw => ?_)
  obtain ⟨z_3, thk_2, rfl, hz_3r, hx5k_2, hRk_2⟩ := hq
  have hsck_2 := hRk_2.sc.1
  show W p l e R s m args below meth c H locs _ _ _ (F0 m 6 ls [.int (iN (z_3))])
  refine x_if_ne (tgt := 32) hC ⟨by omega, by omega⟩ dX5_tail_6 (by decide) (fun c_4 => ?_) (fun c_4 => ?_)
  · replace hz_3r := (hz_3r.resolve_left (fun q9 => c_4 q9.1)).2
    refine x_const hC dX5_tail_32 ?_
    refine lv_goto (tgt := 68) hC.1 hC.2.1 dX5_tail_33 (by decide) ?_
    exact x_iret hC hw dX5_tail_68 (by first | decide | omega) (by first | decide | omega) ⟨0, thk_2, rfl, by omega, Or.inr ⟨by omega, by omega, MGm.of hRk_2 hK⟩⟩
  · replace hz_3r := (hz_3r.resolve_right (fun q9 => absurd (q9.1.symm.trans c_4) (by decide))).2
    refine lv_aload_n hC.1 hC.2.1 dX5_tail_9 rfl (lv_at hl 0 rfl) ?_
    refine lv_aload_n hC.1 hC.2.1 dX5_tail_10 rfl (lv_at hl 0 rfl) ?_
    refine x_callV hC hw (lv_size hl) (c_X5_free l G hRk_2) gX5_tail_X5_free rfl dv_X5_free hRk_2.1.1 rfl rfl (Nat.le_of_ble_eq_true rfl) (by rw [hRf]; decide) (by rw [hRl]; decide) (by first | (rw [hRc]; decide) | omega) (by first | (rw [hRs]; decide) | omega) dX5_tail_11 (fun r9 M_5 H locs hq hw => ?_)
    obtain ⟨z_6, rfl, hM9, hz_6a, hz_6f⟩ := hq
    rw [hM9] at hw
    show W p l e R s m args below meth c H locs _ _ _ (F0 m 14 ls [.int (iN (z_6)), .ref a])
    refine x_sipush hC dX5_tail_14 (by decide +kernel) ?_
    refine x_icmp_ne (tgt := 24) hC ⟨by omega, by omega⟩ ⟨by omega, by omega⟩ dX5_tail_17 (by decide) (fun c_7 => ?_) (fun c_7 => ?_)
    · refine x_const hC dX5_tail_24 ?_
      refine x_const hC dX5_tail_25 ?_
      refine x_callV hC hw (lv_size hl) (c_X5_refuse l G hRk_2 (p0 := 0) (by omega) (p1 := 3) (by omega) (by omega)) gX5_tail_X5_refuse rfl dv_X5_refuse hRk_2.1.1 rfl rfl (Nat.le_of_ble_eq_true rfl) (by rw [hRf]; decide) (by rw [hRl]; decide) (by first | (rw [hRc]; decide) | omega) (by first | (rw [hRs]; decide) | omega) dX5_tail_26 (fun r9 M_8 H locs hq hw => ?_)
      obtain ⟨z_10, thk_9, rfl, hz_10r, hx5k_9, hRk_9⟩ := hq
      have hsck_9 := hRk_9.sc.1
      show W p l e R s m args below meth c H locs _ _ _ (F0 m 29 ls [.int (iN (z_10))])
      refine x_if_eq (tgt := 36) hC ⟨by omega, by omega⟩ dX5_tail_29 (by decide) (fun c_11 => ?_) (fun c_11 => ?_)
      · replace hz_10r := (hz_10r.resolve_right (fun q9 => absurd (q9.1.symm.trans c_11) (by decide))).2
        refine lv_aload_n hC.1 hC.2.1 dX5_tail_36 rfl (lv_at hl 0 rfl) ?_
        refine x_const hC dX5_tail_37 ?_
        refine x_newI hC hw (by decide +kernel) 5 rfl (by decide) (by omega) (by omega) dX5_tail_38 (fun q_12 H hq_13 hw => ?_)
        obtain ⟨M_14, hM_15⟩ : ∃ z, z = va_up M_8 q_12 (some (.inl (G.2 1, 5, .inl (fun _ => 0)))) := ⟨_, rfl⟩
        rw [← hM_15] at hw
        have hx_16 : xExt M_8 M_14 := by rw [hM_15]; exact xExt.new hq_13
        have hA_17 : M_14 q_12 = some (.inl (G.2 1, 5, .inl (fun _ => 0))) := by rw [hM_15, va_up_self]
        have h_18 := hRk_9.ext hx_16
        refine lv_dup hC.1 hC.2.1 dX5_tail_40 rfl ?_
        refine x_const hC dX5_tail_41 ?_
        refine lv_iload_n hC.1 hC.2.1 dX5_tail_42 rfl (lv_at hl 1 rfl) ?_
        refine x_iast hC hw hA_17 (by omega) (by omega) (by omega) dX5_tail_43 (fun H locs hw => ?_)
        obtain ⟨M_19, hM_20⟩ : ∃ z, z = va_up M_14 q_12 (some (.inl (G.2 1, 5, .inl (upd (fun _ => 0) (0 : Int).toNat (iN (p0)))))) := ⟨_, rfl⟩
        rw [← hM_20] at hw
        have hA_21 : M_19 q_12 = some (.inl (G.2 1, 5, .inl (upd (fun _ => 0) (0 : Int).toNat (iN (p0))))) := by rw [hM_20, va_up_self]
        have hx_22 := xExt.upd hq_13 hx_16 hM_20
        have h_23 := hRk_9.ext hx_22
        refine lv_dup hC.1 hC.2.1 dX5_tail_44 rfl ?_
        refine x_const hC dX5_tail_45 ?_
        refine lv_iload_n hC.1 hC.2.1 dX5_tail_46 rfl (lv_at hl 2 rfl) ?_
        refine x_iast hC hw hA_21 (by omega) (by omega) (by omega) dX5_tail_47 (fun H locs hw => ?_)
        obtain ⟨M_24, hM_25⟩ : ∃ z, z = va_up M_19 q_12 (some (.inl (G.2 1, 5, .inl (upd (upd (fun _ => 0) (0 : Int).toNat (iN (p0))) (1 : Int).toNat (iN (p1)))))) := ⟨_, rfl⟩
        rw [← hM_25] at hw
        have hA_26 : M_24 q_12 = some (.inl (G.2 1, 5, .inl (upd (upd (fun _ => 0) (0 : Int).toNat (iN (p0))) (1 : Int).toNat (iN (p1))))) := by rw [hM_25, va_up_self]
        have hx_27 := xExt.upd hq_13 hx_22 hM_25
        have h_28 := hRk_9.ext hx_27
        refine lv_dup hC.1 hC.2.1 dX5_tail_48 rfl ?_
        refine x_const hC dX5_tail_49 ?_
        refine lv_iload_n hC.1 hC.2.1 dX5_tail_50 rfl (lv_at hl 3 rfl) ?_
        refine x_callS hC hw (lv_size hl) (c_X5_one l G (M := M_24) (p0 := p2) (by first | assumption | omega)) gX5_tail_X5_one rfl dv_X5_one_s rfl (Nat.le_of_ble_eq_true rfl) (by rw [hRf]; decide) (by rw [hRl]; decide) (by first | (rw [hRc]; decide) | omega) (by first | (rw [hRs]; decide) | omega) dX5_tail_51 (fun r9 M_29 H locs hq hw => ?_)
        obtain ⟨z_30, rfl, hM9, hz_30a, hz_30b⟩ := hq
        rw [hM9] at hw
        show W p l e R s m args below meth c H locs _ _ _ (F0 m 54 ls [.int (iN (z_30)), .int (iN (2)), .ref q_12, .ref q_12, .ref a])
        refine x_iast hC hw hA_26 (by omega) (by omega) (by omega) dX5_tail_54 (fun H locs hw => ?_)
        obtain ⟨M_31, hM_32⟩ : ∃ z, z = va_up M_24 q_12 (some (.inl (G.2 1, 5, .inl (upd (upd (upd (fun _ => 0) (0 : Int).toNat (iN (p0))) (1 : Int).toNat (iN (p1))) (2 : Int).toNat (iN (z_30)))))) := ⟨_, rfl⟩
        rw [← hM_32] at hw
        have hA_33 : M_31 q_12 = some (.inl (G.2 1, 5, .inl (upd (upd (upd (fun _ => 0) (0 : Int).toNat (iN (p0))) (1 : Int).toNat (iN (p1))) (2 : Int).toNat (iN (z_30))))) := by rw [hM_32, va_up_self]
        have hx_34 := xExt.upd hq_13 hx_27 hM_32
        have h_35 := hRk_9.ext hx_34
        refine lv_dup hC.1 hC.2.1 dX5_tail_55 rfl ?_
        refine x_const hC dX5_tail_56 ?_
        refine x_sipush hC dX5_tail_57 (by decide +kernel) ?_
        refine x_iast hC hw hA_33 (by omega) (by omega) (by omega) dX5_tail_60 (fun H locs hw => ?_)
        obtain ⟨M_36, hM_37⟩ : ∃ z, z = va_up M_31 q_12 (some (.inl (G.2 1, 5, .inl (upd (upd (upd (upd (fun _ => 0) (0 : Int).toNat (iN (p0))) (1 : Int).toNat (iN (p1))) (2 : Int).toNat (iN (z_30))) (3 : Int).toNat (iN ((-10000))))))) := ⟨_, rfl⟩
        rw [← hM_37] at hw
        have hA_38 : M_36 q_12 = some (.inl (G.2 1, 5, .inl (upd (upd (upd (upd (fun _ => 0) (0 : Int).toNat (iN (p0))) (1 : Int).toNat (iN (p1))) (2 : Int).toNat (iN (z_30))) (3 : Int).toNat (iN ((-10000)))))) := by rw [hM_37, va_up_self]
        have hx_39 := xExt.upd hq_13 hx_34 hM_37
        have h_40 := hRk_9.ext hx_39
        refine lv_dup hC.1 hC.2.1 dX5_tail_61 rfl ?_
        refine x_const hC dX5_tail_62 ?_
        refine x_const hC dX5_tail_63 ?_
        refine x_iast hC hw hA_38 (by omega) (by omega) (by omega) dX5_tail_64 (fun H locs hw => ?_)
        obtain ⟨M_41, hM_42⟩ : ∃ z, z = va_up M_36 q_12 (some (.inl (G.2 1, 5, .inl (upd (upd (upd (upd (upd (fun _ => 0) (0 : Int).toNat (iN (p0))) (1 : Int).toNat (iN (p1))) (2 : Int).toNat (iN (z_30))) (3 : Int).toNat (iN ((-10000)))) (4 : Int).toNat (iN (0)))))) := ⟨_, rfl⟩
        rw [← hM_42] at hw
        have hA_43 : M_41 q_12 = some (.inl (G.2 1, 5, .inl (upd (upd (upd (upd (upd (fun _ => 0) (0 : Int).toNat (iN (p0))) (1 : Int).toNat (iN (p1))) (2 : Int).toNat (iN (z_30))) (3 : Int).toNat (iN ((-10000)))) (4 : Int).toNat (iN (0))))) := by rw [hM_42, va_up_self]
        have hx_44 := xExt.upd hq_13 hx_39 hM_42
        have h_45 := hRk_9.ext hx_44
        have hI_46 : Its G M_41 q_12 (upd (upd (upd (upd (upd (fun _ => 0) (0 : Int).toNat (iN (p0))) (1 : Int).toNat (iN (p1))) (2 : Int).toNat (iN (z_30))) (3 : Int).toNat (iN ((-10000)))) (4 : Int).toNat (iN (0))) ((p0).toNat, p1, (-10000), p2, 0) := ⟨hA_43, ⟨(show (p0).toNat < 3 from tn_lt (by omega) (by decide)), (show p1 = -10000 ∨ (0 ≤ p1 ∧ p1 ≤ 99) by omega), (show (-10000) = -10000 ∨ (0 ≤ (-10000) ∧ (-10000) ≤ 99) by omega), (show p2 = 0 ∨ p2 = 1 by omega), (show 0 = 0 ∨ 0 = 1 by omega)⟩, (show iN (p0) = iN ((((p0).toNat : Nat) : Int)) from congrArg iN (by omega)), rfl, (show iN (z_30) = iN (p2) from congrArg iN (by omega)), rfl, rfl⟩
        refine x_callV hC hw (lv_size hl) (c_X5_open l G h_45 hI_46 (by omega)) gX5_tail_X5_open rfl dv_X5_open h_45.1.1 rfl rfl (Nat.le_of_ble_eq_true rfl) (by rw [hRf]; decide) (by rw [hRl]; decide) (by first | (rw [hRc]; decide) | omega) (by first | (rw [hRs]; decide) | omega) dX5_tail_65 (fun r9 M_47 H locs hq hw => ?_)
        obtain ⟨z_49, fyk_48, Wvk_48, rfl, hz_49a, hz_49f, he0k_48, hx5k_48, hRk_48⟩ := hq
        have h_50 := hI_46.x5 hx5k_48
        have hsck_48 := hRk_48.sc.1
        show W p l e R s m args below meth c H locs _ _ _ (F0 m 68 ls [.int (iN (z_49))])
        exact x_iret hC hw dX5_tail_68 (by first | decide | omega) (by first | decide | omega) ⟨z_49, thk_9, rfl, ⟨by omega, by omega⟩, Or.inl ⟨by omega, ⟨⟨(by first | omega | trivial), (by first | omega | trivial)⟩, ⟨(by first | omega | trivial), (by first | omega | trivial)⟩, (by first | omega | trivial)⟩, hz_49f, (by have e9 := hRk_48; rw [he0k_48] at e9; exact MGm.of e9 hK)⟩⟩
      · replace hz_10r := (hz_10r.resolve_left (fun q9 => c_11 q9.1)).2
        refine x_const hC dX5_tail_32 ?_
        refine lv_goto (tgt := 68) hC.1 hC.2.1 dX5_tail_33 (by decide) ?_
        exact x_iret hC hw dX5_tail_68 (by first | decide | omega) (by first | decide | omega) ⟨0, thk_9, rfl, by omega, Or.inr ⟨by omega, by omega, MGm.of hRk_9 hK⟩⟩
    · refine x_const hC dX5_tail_20 ?_
      refine lv_goto (tgt := 25) hC.1 hC.2.1 dX5_tail_21 (by decide) ?_
      refine x_const hC dX5_tail_25 ?_
      refine x_callV hC hw (lv_size hl) (c_X5_refuse l G hRk_2 (p0 := 1) (by omega) (p1 := 3) (by omega) (by omega)) gX5_tail_X5_refuse rfl dv_X5_refuse hRk_2.1.1 rfl rfl (Nat.le_of_ble_eq_true rfl) (by rw [hRf]; decide) (by rw [hRl]; decide) (by first | (rw [hRc]; decide) | omega) (by first | (rw [hRs]; decide) | omega) dX5_tail_26 (fun r9 M_51 H locs hq hw => ?_)
      obtain ⟨z_53, thk_52, rfl, hz_53r, hx5k_52, hRk_52⟩ := hq
      have hsck_52 := hRk_52.sc.1
      show W p l e R s m args below meth c H locs _ _ _ (F0 m 29 ls [.int (iN (z_53))])
      refine x_if_eq (tgt := 36) hC ⟨by omega, by omega⟩ dX5_tail_29 (by decide) (fun c_54 => ?_) (fun c_54 => ?_)
      · replace hz_53r := (hz_53r.resolve_right (fun q9 => absurd (q9.1.symm.trans c_54) (by decide))).2
        exact absurd hz_53r.2.2 (by decide)
      · replace hz_53r := (hz_53r.resolve_left (fun q9 => c_54 q9.1)).2
        refine x_const hC dX5_tail_32 ?_
        refine lv_goto (tgt := 68) hC.1 hC.2.1 dX5_tail_33 (by decide) ?_
        exact x_iret hC hw dX5_tail_68 (by first | decide | omega) (by first | decide | omega) ⟨0, thk_52, rfl, by omega, Or.inr ⟨by omega, by omega, MGm.of hRk_52 hK⟩⟩
set_option maxHeartbeats 4000000 in
set_option maxRecDepth 100000 in
theorem c_X5_sub (l : Launch) (G : xG) {M : HM} {a va oa wa ya : Nat} {wk : Option Nat} {th : Int} {rfd : Int32} {br re la ha : Int} {kp kv : Int32} {qv qw : Nat → Nat} {fa fb : Nat → Option Nat} {V : BW} {O : OW} {fy : Nat → Option Nat} {Wv : VW} {wt : Option VT} {S : Nat → Bool} (hR : MGx G M a va oa wa ya wk th rfd br re la ha kp kv qv qw fa fb V O fy Wv wt S) {K : WA} (hK : abM O wt br re la ha K) {p0 : Int} (hp0 : -2147483648 ≤ p0 ∧ p0 ≤ 2147483647) {p1 : Int} (hp1 : -2147483648 ≤ p1 ∧ p1 ≤ 2147483647) {p2 : Int} (hp2 : -2147483648 ≤ p2 ∧ p2 ≤ 2147483647) {p3 : Int} (hp3 : -2147483648 ≤ p3 ∧ p3 ≤ 2147483647) {p4 : Int} (hp4 : -2147483648 ≤ p4 ∧ p4 ≤ 2147483647) (hb2 : p2 = 0 ∨ p2 = 1) (hb4 : p4 = 0 ∨ p4 = 1) : xMet l G yX5_sub wsX5_sub 3 66 1 5 [.ref a, .int (iN (p0)), .int (iN (p1)), .int (iN (p2)), .int (iN (p3)), .int (iN (p4))] M (fun r M1 => ∃ (z th1 : Int), r = some (.int (iN z)) ∧ (-2147483648 ≤ z ∧ z ≤ 2147483647) ∧ ((th1 = 0 ∧ ((0 ≤ p0 ∧ p0 ≤ 2) ∧ ((0 ≤ p1 ∧ p1 ≤ 99) ∧ (0 ≤ p3 ∧ p3 ≤ 99)) ∧ (frN Wv < 4)) ∧ z = A_sub (O, V, Wv, K, kp, kv, rfd) p0 p1 p2 p3 p4 ∧ MGm G M1 a S th1 (S_sub (O, V, Wv, K, kp, kv, rfd) p0 p1 p2 p3 p4)) ∨ (th1 ≠ 0 ∧ ((th1 = 1 ∧ ¬ (0 ≤ p0 ∧ p0 ≤ 2)) ∨ (th1 = 2 ∧ (0 ≤ p0 ∧ p0 ≤ 2) ∧ ¬ ((0 ≤ p1 ∧ p1 ≤ 99) ∧ (0 ≤ p3 ∧ p3 ≤ 99))) ∨ (th1 = 3 ∧ (0 ≤ p0 ∧ p0 ≤ 2) ∧ ((0 ≤ p1 ∧ p1 ≤ 99) ∧ (0 ≤ p3 ∧ p3 ≤ 99)) ∧ ¬ (frN Wv < 4))) ∧ MGm G M1 a S th1 (O, V, Wv, K, kp, kv, rfd)))) := by
  refine x_intro (cc := cX5_sub) (maxL := 7) (ret := (some .int)) (by exact pln_RX5) rfl (Nat.le_of_ble_eq_true rfl) ?_
  intro p e R s m args below meth c ls hRf hRc hRs hRl hC hw hl
  have hsc0 := hR.sc.1
  have hl : lv_has ls 7 [(0, .ref a), (1, .int (iN (p0))), (2, .int (iN (p1))), (3, .int (iN (p2))), (4, .int (iN (p3))), (5, .int (iN (p4)))] := hl
  refine lv_aload_n hC.1 hC.2.1 dX5_sub_0 rfl (lv_at hl 0 rfl) ?_
  refine lv_iload_n hC.1 hC.2.1 dX5_sub_1 rfl (lv_at hl 1 rfl) ?_
  refine lv_iload_n hC.1 hC.2.1 dX5_sub_2 rfl (lv_at hl 2 rfl) ?_
  refine x_callV hC hw (lv_size hl) (c_X5_isBad l G hR (p0 := p0) (by first | assumption | omega) (p1 := p1) (by first | assumption | omega)) gX5_sub_X5_isBad rfl dv_X5_isBad hR.1.1 rfl rfl (Nat.le_of_ble_eq_true rfl) (by rw [hRf]; decide) (by rw [hRl]; decide) (by first | (rw [hRc]; decide) | omega) (by first | (rw [hRs]; decide) | omega) dX5_sub_3 (fun r9 M_1 H locs hq hw => ?_)
  obtain ⟨z_3, thk_2, rfl, hz_3r, hx5k_2, hRk_2⟩ := hq
  have hsck_2 := hRk_2.sc.1
  show W p l e R s m args below meth c H locs _ _ _ (F0 m 6 ls [.int (iN (z_3))])
  refine x_if_ne (tgt := 45) hC ⟨by omega, by omega⟩ dX5_sub_6 (by decide) (fun c_4 => ?_) (fun c_4 => ?_)
  · replace hz_3r := (hz_3r.resolve_left (fun q9 => c_4 q9.1)).2
    refine x_const hC dX5_sub_45 ?_
    exact x_iret hC hw dX5_sub_46 (by first | decide | omega) (by first | decide | omega) ⟨0, thk_2, rfl, by omega, Or.inr ⟨by omega, by omega, MGm.of hRk_2 hK⟩⟩
  · replace hz_3r := (hz_3r.resolve_right (fun q9 => absurd (q9.1.symm.trans c_4) (by decide))).2
    refine lv_aload_n hC.1 hC.2.1 dX5_sub_9 rfl (lv_at hl 0 rfl) ?_
    refine lv_iload hC.1 hC.2.1 dX5_sub_10 (lv_at hl 4 rfl) ?_
    refine x_callS hC hw (lv_size hl) (c_X5_isNoKey l G (M := M_1) (p0 := p3) (by first | assumption | omega)) gX5_sub_X5_isNoKey rfl dv_X5_isNoKey_s rfl (Nat.le_of_ble_eq_true rfl) (by rw [hRf]; decide) (by rw [hRl]; decide) (by first | (rw [hRc]; decide) | omega) (by first | (rw [hRs]; decide) | omega) dX5_sub_12 (fun r9 M_5 H locs hq hw => ?_)
    obtain ⟨z_6, rfl, hM9, hz_6a, hz_6b⟩ := hq
    rw [hM9] at hw
    show W p l e R s m args below meth c H locs _ _ _ (F0 m 15 ls [.int (iN (z_6)), .ref a])
    refine x_const hC dX5_sub_15 ?_
    refine x_callV hC hw (lv_size hl) (c_X5_refuse l G hRk_2 (p0 := z_6) (by omega) (p1 := 2) (by omega) (by omega)) gX5_sub_X5_refuse rfl dv_X5_refuse hRk_2.1.1 rfl rfl (Nat.le_of_ble_eq_true rfl) (by rw [hRf]; decide) (by rw [hRl]; decide) (by first | (rw [hRc]; decide) | omega) (by first | (rw [hRs]; decide) | omega) dX5_sub_16 (fun r9 M_7 H locs hq hw => ?_)
    obtain ⟨z_9, thk_8, rfl, hz_9r, hx5k_8, hRk_8⟩ := hq
    have hsck_8 := hRk_8.sc.1
    show W p l e R s m args below meth c H locs _ _ _ (F0 m 19 ls [.int (iN (z_9))])
    refine x_if_ne (tgt := 45) hC ⟨by omega, by omega⟩ dX5_sub_19 (by decide) (fun c_10 => ?_) (fun c_10 => ?_)
    · replace hz_9r := (hz_9r.resolve_left (fun q9 => c_10 q9.1)).2
      refine x_const hC dX5_sub_45 ?_
      exact x_iret hC hw dX5_sub_46 (by first | decide | omega) (by first | decide | omega) ⟨0, thk_8, rfl, by omega, Or.inr ⟨by omega, by omega, MGm.of hRk_8 hK⟩⟩
    · replace hz_9r := (hz_9r.resolve_right (fun q9 => absurd (q9.1.symm.trans c_10) (by decide))).2
      replace hz_6b := hz_6b.mp hz_9r.2.2
      refine lv_aload_n hC.1 hC.2.1 dX5_sub_22 rfl (lv_at hl 0 rfl) ?_
      refine lv_aload_n hC.1 hC.2.1 dX5_sub_23 rfl (lv_at hl 0 rfl) ?_
      refine x_callV hC hw (lv_size hl) (c_X5_free l G hRk_8) gX5_sub_X5_free rfl dv_X5_free hRk_8.1.1 rfl rfl (Nat.le_of_ble_eq_true rfl) (by rw [hRf]; decide) (by rw [hRl]; decide) (by first | (rw [hRc]; decide) | omega) (by first | (rw [hRs]; decide) | omega) dX5_sub_24 (fun r9 M_11 H locs hq hw => ?_)
      obtain ⟨z_12, rfl, hM9, hz_12a, hz_12f⟩ := hq
      rw [hM9] at hw
      show W p l e R s m args below meth c H locs _ _ _ (F0 m 27 ls [.int (iN (z_12)), .ref a])
      refine x_sipush hC dX5_sub_27 (by decide +kernel) ?_
      refine x_icmp_ne (tgt := 37) hC ⟨by omega, by omega⟩ ⟨by omega, by omega⟩ dX5_sub_30 (by decide) (fun c_13 => ?_) (fun c_13 => ?_)
      · refine x_const hC dX5_sub_37 ?_
        refine x_const hC dX5_sub_38 ?_
        refine x_callV hC hw (lv_size hl) (c_X5_refuse l G hRk_8 (p0 := 0) (by omega) (p1 := 3) (by omega) (by omega)) gX5_sub_X5_refuse rfl dv_X5_refuse hRk_8.1.1 rfl rfl (Nat.le_of_ble_eq_true rfl) (by rw [hRf]; decide) (by rw [hRl]; decide) (by first | (rw [hRc]; decide) | omega) (by first | (rw [hRs]; decide) | omega) dX5_sub_39 (fun r9 M_14 H locs hq hw => ?_)
        obtain ⟨z_16, thk_15, rfl, hz_16r, hx5k_15, hRk_15⟩ := hq
        have hsck_15 := hRk_15.sc.1
        show W p l e R s m args below meth c H locs _ _ _ (F0 m 42 ls [.int (iN (z_16))])
        refine x_if_eq (tgt := 47) hC ⟨by omega, by omega⟩ dX5_sub_42 (by decide) (fun c_17 => ?_) (fun c_17 => ?_)
        · replace hz_16r := (hz_16r.resolve_right (fun q9 => absurd (q9.1.symm.trans c_17) (by decide))).2
          refine x_const hC dX5_sub_47 ?_
          refine x_newI hC hw (by decide +kernel) 5 rfl (by decide) (by omega) (by omega) dX5_sub_48 (fun q_18 H hq_19 hw => ?_)
          obtain ⟨M_20, hM_21⟩ : ∃ z, z = va_up M_14 q_18 (some (.inl (G.2 1, 5, .inl (fun _ => 0)))) := ⟨_, rfl⟩
          rw [← hM_21] at hw
          have hx_22 : xExt M_14 M_20 := by rw [hM_21]; exact xExt.new hq_19
          have hA_23 : M_20 q_18 = some (.inl (G.2 1, 5, .inl (fun _ => 0))) := by rw [hM_21, va_up_self]
          have h_24 := hRk_15.ext hx_22
          refine lv_dup hC.1 hC.2.1 dX5_sub_50 rfl ?_
          refine x_const hC dX5_sub_51 ?_
          refine lv_iload_n hC.1 hC.2.1 dX5_sub_52 rfl (lv_at hl 1 rfl) ?_
          refine x_iast hC hw hA_23 (by omega) (by omega) (by omega) dX5_sub_53 (fun H locs hw => ?_)
          obtain ⟨M_25, hM_26⟩ : ∃ z, z = va_up M_20 q_18 (some (.inl (G.2 1, 5, .inl (upd (fun _ => 0) (0 : Int).toNat (iN (p0)))))) := ⟨_, rfl⟩
          rw [← hM_26] at hw
          have hA_27 : M_25 q_18 = some (.inl (G.2 1, 5, .inl (upd (fun _ => 0) (0 : Int).toNat (iN (p0))))) := by rw [hM_26, va_up_self]
          have hx_28 := xExt.upd hq_19 hx_22 hM_26
          have h_29 := hRk_15.ext hx_28
          refine lv_dup hC.1 hC.2.1 dX5_sub_54 rfl ?_
          refine x_const hC dX5_sub_55 ?_
          refine lv_iload_n hC.1 hC.2.1 dX5_sub_56 rfl (lv_at hl 2 rfl) ?_
          refine x_iast hC hw hA_27 (by omega) (by omega) (by omega) dX5_sub_57 (fun H locs hw => ?_)
          obtain ⟨M_30, hM_31⟩ : ∃ z, z = va_up M_25 q_18 (some (.inl (G.2 1, 5, .inl (upd (upd (fun _ => 0) (0 : Int).toNat (iN (p0))) (1 : Int).toNat (iN (p1)))))) := ⟨_, rfl⟩
          rw [← hM_31] at hw
          have hA_32 : M_30 q_18 = some (.inl (G.2 1, 5, .inl (upd (upd (fun _ => 0) (0 : Int).toNat (iN (p0))) (1 : Int).toNat (iN (p1))))) := by rw [hM_31, va_up_self]
          have hx_33 := xExt.upd hq_19 hx_28 hM_31
          have h_34 := hRk_15.ext hx_33
          refine lv_dup hC.1 hC.2.1 dX5_sub_58 rfl ?_
          refine x_const hC dX5_sub_59 ?_
          refine lv_iload_n hC.1 hC.2.1 dX5_sub_60 rfl (lv_at hl 3 rfl) ?_
          refine x_callS hC hw (lv_size hl) (c_X5_one l G (M := M_30) (p0 := p2) (by first | assumption | omega)) gX5_sub_X5_one rfl dv_X5_one_s rfl (Nat.le_of_ble_eq_true rfl) (by rw [hRf]; decide) (by rw [hRl]; decide) (by first | (rw [hRc]; decide) | omega) (by first | (rw [hRs]; decide) | omega) dX5_sub_61 (fun r9 M_35 H locs hq hw => ?_)
          obtain ⟨z_36, rfl, hM9, hz_36a, hz_36b⟩ := hq
          rw [hM9] at hw
          show W p l e R s m args below meth c H locs _ _ _ (F0 m 64 ls [.int (iN (z_36)), .int (iN (2)), .ref q_18, .ref q_18])
          refine x_iast hC hw hA_32 (by omega) (by omega) (by omega) dX5_sub_64 (fun H locs hw => ?_)
          obtain ⟨M_37, hM_38⟩ : ∃ z, z = va_up M_30 q_18 (some (.inl (G.2 1, 5, .inl (upd (upd (upd (fun _ => 0) (0 : Int).toNat (iN (p0))) (1 : Int).toNat (iN (p1))) (2 : Int).toNat (iN (z_36)))))) := ⟨_, rfl⟩
          rw [← hM_38] at hw
          have hA_39 : M_37 q_18 = some (.inl (G.2 1, 5, .inl (upd (upd (upd (fun _ => 0) (0 : Int).toNat (iN (p0))) (1 : Int).toNat (iN (p1))) (2 : Int).toNat (iN (z_36))))) := by rw [hM_38, va_up_self]
          have hx_40 := xExt.upd hq_19 hx_33 hM_38
          have h_41 := hRk_15.ext hx_40
          refine lv_dup hC.1 hC.2.1 dX5_sub_65 rfl ?_
          refine x_const hC dX5_sub_66 ?_
          refine lv_iload hC.1 hC.2.1 dX5_sub_67 (lv_at hl 4 rfl) ?_
          refine x_iast hC hw hA_39 (by omega) (by omega) (by omega) dX5_sub_69 (fun H locs hw => ?_)
          obtain ⟨M_42, hM_43⟩ : ∃ z, z = va_up M_37 q_18 (some (.inl (G.2 1, 5, .inl (upd (upd (upd (upd (fun _ => 0) (0 : Int).toNat (iN (p0))) (1 : Int).toNat (iN (p1))) (2 : Int).toNat (iN (z_36))) (3 : Int).toNat (iN (p3)))))) := ⟨_, rfl⟩
          rw [← hM_43] at hw
          have hA_44 : M_42 q_18 = some (.inl (G.2 1, 5, .inl (upd (upd (upd (upd (fun _ => 0) (0 : Int).toNat (iN (p0))) (1 : Int).toNat (iN (p1))) (2 : Int).toNat (iN (z_36))) (3 : Int).toNat (iN (p3))))) := by rw [hM_43, va_up_self]
          have hx_45 := xExt.upd hq_19 hx_40 hM_43
          have h_46 := hRk_15.ext hx_45
          refine lv_dup hC.1 hC.2.1 dX5_sub_70 rfl ?_
          refine x_const hC dX5_sub_71 ?_
          refine lv_iload hC.1 hC.2.1 dX5_sub_72 (lv_at hl 5 rfl) ?_
          refine x_callS hC hw (lv_size hl) (c_X5_one l G (M := M_42) (p0 := p4) (by first | assumption | omega)) gX5_sub_X5_one rfl dv_X5_one_s rfl (Nat.le_of_ble_eq_true rfl) (by rw [hRf]; decide) (by rw [hRl]; decide) (by first | (rw [hRc]; decide) | omega) (by first | (rw [hRs]; decide) | omega) dX5_sub_74 (fun r9 M_47 H locs hq hw => ?_)
          obtain ⟨z_48, rfl, hM9, hz_48a, hz_48b⟩ := hq
          rw [hM9] at hw
          show W p l e R s m args below meth c H locs _ _ _ (F0 m 77 ls [.int (iN (z_48)), .int (iN (4)), .ref q_18, .ref q_18])
          refine x_iast hC hw hA_44 (by omega) (by omega) (by omega) dX5_sub_77 (fun H locs hw => ?_)
          obtain ⟨M_49, hM_50⟩ : ∃ z, z = va_up M_42 q_18 (some (.inl (G.2 1, 5, .inl (upd (upd (upd (upd (upd (fun _ => 0) (0 : Int).toNat (iN (p0))) (1 : Int).toNat (iN (p1))) (2 : Int).toNat (iN (z_36))) (3 : Int).toNat (iN (p3))) (4 : Int).toNat (iN (z_48)))))) := ⟨_, rfl⟩
          rw [← hM_50] at hw
          have hA_51 : M_49 q_18 = some (.inl (G.2 1, 5, .inl (upd (upd (upd (upd (upd (fun _ => 0) (0 : Int).toNat (iN (p0))) (1 : Int).toNat (iN (p1))) (2 : Int).toNat (iN (z_36))) (3 : Int).toNat (iN (p3))) (4 : Int).toNat (iN (z_48))))) := by rw [hM_50, va_up_self]
          have hx_52 := xExt.upd hq_19 hx_45 hM_50
          have h_53 := hRk_15.ext hx_52
          refine lv_astore (lv' := [(6, .ref q_18), (0, .ref a), (1, .int (iN (p0))), (2, .int (iN (p1))), (3, .int (iN (p2))), (4, .int (iN (p3))), (5, .int (iN (p4)))]) hC.1 hC.2.1 dX5_sub_78 hl (by decide) rfl (fun ls hl => ?_)
          refine lv_aload_n hC.1 hC.2.1 dX5_sub_80 rfl (lv_at hl 1 rfl) ?_
          refine lv_aload hC.1 hC.2.1 dX5_sub_81 (lv_at hl 0 rfl) ?_
          refine lv_iload_n hC.1 hC.2.1 dX5_sub_83 rfl (lv_at hl 3 rfl) ?_
          have hI_54 : Its G M_49 q_18 (upd (upd (upd (upd (upd (fun _ => 0) (0 : Int).toNat (iN (p0))) (1 : Int).toNat (iN (p1))) (2 : Int).toNat (iN (z_36))) (3 : Int).toNat (iN (p3))) (4 : Int).toNat (iN (z_48))) ((p0).toNat, p1, p3, p2, p4) := ⟨hA_51, ⟨(show (p0).toNat < 3 from tn_lt (by omega) (by decide)), (show p1 = -10000 ∨ (0 ≤ p1 ∧ p1 ≤ 99) by omega), (show p3 = -10000 ∨ (0 ≤ p3 ∧ p3 ≤ 99) by omega), (show p2 = 0 ∨ p2 = 1 by omega), (show p4 = 0 ∨ p4 = 1 by omega)⟩, (show iN (p0) = iN ((((p0).toNat : Nat) : Int)) from congrArg iN (by omega)), rfl, (show iN (z_36) = iN (p2) from congrArg iN (by omega)), rfl, (show iN (z_48) = iN (p4) from congrArg iN (by omega))⟩
          refine x_callV hC hw (lv_size hl) (c_X5_weight l G h_53 hI_54 (p0 := p1) (by first | assumption | omega) (by omega)) gX5_sub_X5_weight rfl dv_X5_weight h_53.1.1 rfl rfl (Nat.le_of_ble_eq_true rfl) (by rw [hRf]; decide) (by rw [hRl]; decide) (by first | (rw [hRc]; decide) | omega) (by first | (rw [hRs]; decide) | omega) dX5_sub_84 (fun r9 M_55 H locs hq hw => ?_)
          obtain ⟨z_56, rfl, hM9, hz_56a, hz_56b⟩ := hq
          rw [hM9] at hw
          show W p l e R s m args below meth c H locs _ _ _ (F0 m 87 ls [.int (iN (z_56))])
          refine lv_aload_n hC.1 hC.2.1 dX5_sub_87 rfl (lv_at hl 1 rfl) ?_
          refine lv_aload hC.1 hC.2.1 dX5_sub_88 (lv_at hl 0 rfl) ?_
          refine lv_iload hC.1 hC.2.1 dX5_sub_90 (lv_at hl 5 rfl) ?_
          refine x_callV hC hw (lv_size hl) (c_X5_weight l G h_53 hI_54 (p0 := p3) (by first | assumption | omega) (by omega)) gX5_sub_X5_weight rfl dv_X5_weight h_53.1.1 rfl rfl (Nat.le_of_ble_eq_true rfl) (by rw [hRf]; decide) (by rw [hRl]; decide) (by first | (rw [hRc]; decide) | omega) (by first | (rw [hRs]; decide) | omega) dX5_sub_92 (fun r9 M_57 H locs hq hw => ?_)
          obtain ⟨z_58, rfl, hM9, hz_58a, hz_58b⟩ := hq
          rw [hM9] at hw
          show W p l e R s m args below meth c H locs _ _ _ (F0 m 95 ls [.int (iN (z_58)), .int (iN (z_56))])
          refine x_icmp_le (tgt := 104) hC ⟨by omega, by omega⟩ ⟨by omega, by omega⟩ dX5_sub_95 (by decide) (fun c_59 => ?_) (fun c_59 => ?_)
          · refine lv_aload_n hC.1 hC.2.1 dX5_sub_104 rfl (lv_at hl 1 rfl) ?_
            refine lv_aload hC.1 hC.2.1 dX5_sub_105 (lv_at hl 0 rfl) ?_
            refine x_callV hC hw (lv_size hl) (c_X5_open l G h_53 hI_54 (by omega)) gX5_sub_X5_open rfl dv_X5_open h_53.1.1 rfl rfl (Nat.le_of_ble_eq_true rfl) (by rw [hRf]; decide) (by rw [hRl]; decide) (by first | (rw [hRc]; decide) | omega) (by first | (rw [hRs]; decide) | omega) dX5_sub_107 (fun r9 M_60 H locs hq hw => ?_)
            obtain ⟨z_62, fyk_61, Wvk_61, rfl, hz_62a, hz_62f, he0k_61, hx5k_61, hRk_61⟩ := hq
            have h_63 := hI_54.x5 hx5k_61
            have hsck_61 := hRk_61.sc.1
            show W p l e R s m args below meth c H locs _ _ _ (F0 m 110 ls [.int (iN (z_62))])
            exact x_iret hC hw dX5_sub_110 (by first | decide | omega) (by first | decide | omega) ⟨z_62, thk_15, rfl, ⟨by omega, by omega⟩, Or.inl ⟨by omega, ⟨⟨(by first | omega | trivial), (by first | omega | trivial)⟩, ⟨⟨(by first | omega | trivial), (by first | omega | trivial)⟩, ⟨(by first | omega | trivial), (by first | omega | trivial)⟩⟩, (by first | omega | trivial)⟩, (by show _ = (if mwN (O (p0).toNat) (p3).toNat < mwN (O (p0).toNat) (p1).toNat then -20000 else (frN Wv : Int)); have e8 : z_56 = ((mwN (O (p0).toNat) (p1).toNat : Nat) : Int) := hz_56b; have e7 : z_58 = ((mwN (O (p0).toNat) (p3).toNat : Nat) : Int) := hz_58b; omega), (by show MGm _ _ _ _ _ (if mwN (O (p0).toNat) (p3).toNat < mwN (O (p0).toNat) (p1).toNat then _ else _); have e8 : z_56 = ((mwN (O (p0).toNat) (p1).toNat : Nat) : Int) := hz_56b; have e7 : z_58 = ((mwN (O (p0).toNat) (p3).toNat : Nat) : Int) := hz_58b; rw [if_neg (by omega)]; exact (by have e9 := hRk_61; rw [he0k_61] at e9; exact MGm.of e9 hK))⟩⟩
          · refine x_sipush hC dX5_sub_98 (by decide +kernel) ?_
            refine lv_goto (tgt := 110) hC.1 hC.2.1 dX5_sub_101 (by decide) ?_
            exact x_iret hC hw dX5_sub_110 (by first | decide | omega) (by first | decide | omega) ⟨(-20000), thk_15, rfl, ⟨by omega, by omega⟩, Or.inl ⟨by omega, ⟨⟨(by first | omega | trivial), (by first | omega | trivial)⟩, ⟨⟨(by first | omega | trivial), (by first | omega | trivial)⟩, ⟨(by first | omega | trivial), (by first | omega | trivial)⟩⟩, (by first | omega | trivial)⟩, (by show _ = (if mwN (O (p0).toNat) (p3).toNat < mwN (O (p0).toNat) (p1).toNat then -20000 else (frN Wv : Int)); have e8 : z_56 = ((mwN (O (p0).toNat) (p1).toNat : Nat) : Int) := hz_56b; have e7 : z_58 = ((mwN (O (p0).toNat) (p3).toNat : Nat) : Int) := hz_58b; omega), (by show MGm _ _ _ _ _ (if mwN (O (p0).toNat) (p3).toNat < mwN (O (p0).toNat) (p1).toNat then _ else _); have e8 : z_56 = ((mwN (O (p0).toNat) (p1).toNat : Nat) : Int) := hz_56b; have e7 : z_58 = ((mwN (O (p0).toNat) (p3).toNat : Nat) : Int) := hz_58b; rw [if_pos (by omega)]; exact MGm.of h_53 hK)⟩⟩
        · replace hz_16r := (hz_16r.resolve_left (fun q9 => c_17 q9.1)).2
          refine x_const hC dX5_sub_45 ?_
          exact x_iret hC hw dX5_sub_46 (by first | decide | omega) (by first | decide | omega) ⟨0, thk_15, rfl, by omega, Or.inr ⟨by omega, by omega, MGm.of hRk_15 hK⟩⟩
      · refine x_const hC dX5_sub_33 ?_
        refine lv_goto (tgt := 38) hC.1 hC.2.1 dX5_sub_34 (by decide) ?_
        refine x_const hC dX5_sub_38 ?_
        refine x_callV hC hw (lv_size hl) (c_X5_refuse l G hRk_8 (p0 := 1) (by omega) (p1 := 3) (by omega) (by omega)) gX5_sub_X5_refuse rfl dv_X5_refuse hRk_8.1.1 rfl rfl (Nat.le_of_ble_eq_true rfl) (by rw [hRf]; decide) (by rw [hRl]; decide) (by first | (rw [hRc]; decide) | omega) (by first | (rw [hRs]; decide) | omega) dX5_sub_39 (fun r9 M_64 H locs hq hw => ?_)
        obtain ⟨z_66, thk_65, rfl, hz_66r, hx5k_65, hRk_65⟩ := hq
        have hsck_65 := hRk_65.sc.1
        show W p l e R s m args below meth c H locs _ _ _ (F0 m 42 ls [.int (iN (z_66))])
        refine x_if_eq (tgt := 47) hC ⟨by omega, by omega⟩ dX5_sub_42 (by decide) (fun c_67 => ?_) (fun c_67 => ?_)
        · replace hz_66r := (hz_66r.resolve_right (fun q9 => absurd (q9.1.symm.trans c_67) (by decide))).2
          exact absurd hz_66r.2.2 (by decide)
        · replace hz_66r := (hz_66r.resolve_left (fun q9 => c_67 q9.1)).2
          refine x_const hC dX5_sub_45 ?_
          exact x_iret hC hw dX5_sub_46 (by first | decide | omega) (by first | decide | omega) ⟨0, thk_65, rfl, by omega, Or.inr ⟨by omega, by omega, MGm.of hRk_65 hK⟩⟩
set_option maxHeartbeats 4000000 in
set_option maxRecDepth 100000 in
theorem c_X5_part (l : Launch) (G : xG) {M : HM} {a va oa wa ya : Nat} {wk : Option Nat} {th : Int} {rfd : Int32} {br re la ha : Int} {kp kv : Int32} {qv qw : Nat → Nat} {fa fb : Nat → Option Nat} {V : BW} {O : OW} {fy : Nat → Option Nat} {Wv : VW} {wt : Option VT} {S : Nat → Bool} (hR : MGx G M a va oa wa ya wk th rfd br re la ha kp kv qv qw fa fb V O fy Wv wt S) {K : WA} (hK : abM O wt br re la ha K) {p0 : Int} (hp0 : -2147483648 ≤ p0 ∧ p0 ≤ 2147483647) {p1 : Int} (hp1 : -2147483648 ≤ p1 ∧ p1 ≤ 2147483647) {p2 : Int} (hp2 : -2147483648 ≤ p2 ∧ p2 ≤ 2147483647) {p3 : Int} (hp3 : -2147483648 ≤ p3 ∧ p3 ≤ 2147483647) {p4 : Int} (hp4 : -2147483648 ≤ p4 ∧ p4 ≤ 2147483647) (hb2 : p2 = 0 ∨ p2 = 1) (hb4 : p4 = 0 ∨ p4 = 1) : xMet l G yX5_part wsX5_part 2 45 1 5 [.ref a, .int (iN (p0)), .int (iN (p1)), .int (iN (p2)), .int (iN (p3)), .int (iN (p4))] M (fun r M1 => ∃ (z th1 : Int), r = some (.int (iN z)) ∧ (-2147483648 ≤ z ∧ z ≤ 2147483647) ∧ ((th1 = 0 ∧ ((0 ≤ p0 ∧ p0 ≤ 3 ∧ opN (Wv p0.toNat) = 1) ∧ ((0 ≤ p1 ∧ p1 ≤ 99) ∧ (0 ≤ p3 ∧ p3 ≤ 99)) ∧ (frN Wv < 4)) ∧ z = A_part (O, V, Wv, K, kp, kv, rfd) p0 p1 p2 p3 p4 ∧ MGm G M1 a S th1 (S_part (O, V, Wv, K, kp, kv, rfd) p0 p1 p2 p3 p4)) ∨ (th1 ≠ 0 ∧ ((th1 = 1 ∧ ¬ (0 ≤ p0 ∧ p0 ≤ 3 ∧ opN (Wv p0.toNat) = 1)) ∨ (th1 = 2 ∧ (0 ≤ p0 ∧ p0 ≤ 3 ∧ opN (Wv p0.toNat) = 1) ∧ ¬ ((0 ≤ p1 ∧ p1 ≤ 99) ∧ (0 ≤ p3 ∧ p3 ≤ 99))) ∨ (th1 = 3 ∧ (0 ≤ p0 ∧ p0 ≤ 3 ∧ opN (Wv p0.toNat) = 1) ∧ ((0 ≤ p1 ∧ p1 ≤ 99) ∧ (0 ≤ p3 ∧ p3 ≤ 99)) ∧ ¬ (frN Wv < 4))) ∧ MGm G M1 a S th1 (O, V, Wv, K, kp, kv, rfd)))) := by
  refine x_intro (cc := cX5_part) (maxL := 7) (ret := (some .int)) (by exact pln_RX5) rfl (Nat.le_of_ble_eq_true rfl) ?_
  intro p e R s m args below meth c ls hRf hRc hRs hRl hC hw hl
  have hsc0 := hR.sc.1
  have hinX5 : ∀ w ∈ wsX50, w ∈ wsX5_part := fun w h => (List.mem_cons_of_mem _ (List.mem_append_right _ h))
  have hl : lv_has ls 7 [(0, .ref a), (1, .int (iN (p0))), (2, .int (iN (p1))), (3, .int (iN (p2))), (4, .int (iN (p3))), (5, .int (iN (p4)))] := hl
  refine lv_aload_n hC.1 hC.2.1 dX5_part_0 rfl (lv_at hl 0 rfl) ?_
  refine lv_aload_n hC.1 hC.2.1 dX5_part_1 rfl (lv_at hl 0 rfl) ?_
  refine lv_iload_n hC.1 hC.2.1 dX5_part_2 rfl (lv_at hl 1 rfl) ?_
  refine x_callV hC hw (lv_size hl) (c_X5_isNoView l G hR (p0 := p0) (by first | assumption | omega)) gX5_part_X5_isNoView rfl dv_X5_isNoView hR.1.1 rfl rfl (Nat.le_of_ble_eq_true rfl) (by rw [hRf]; decide) (by rw [hRl]; decide) (by first | (rw [hRc]; decide) | omega) (by first | (rw [hRs]; decide) | omega) dX5_part_3 (fun r9 M_1 H locs hq hw => ?_)
  obtain ⟨z_2, rfl, hM9, hz_2a, hz_2b, hz_2n⟩ := hq
  rw [hM9] at hw
  show W p l e R s m args below meth c H locs _ _ _ (F0 m 6 ls [.int (iN (z_2)), .ref a])
  refine x_const hC dX5_part_6 ?_
  refine x_callV hC hw (lv_size hl) (c_X5_start l G hR (p0 := z_2) (by omega) (p1 := 1) (by omega) (by omega)) gX5_part_X5_start rfl dv_X5_start hR.1.1 rfl rfl (Nat.le_of_ble_eq_true rfl) (by rw [hRf]; decide) (by rw [hRl]; decide) (by first | (rw [hRc]; decide) | omega) (by first | (rw [hRs]; decide) | omega) dX5_part_7 (fun r9 M_3 H locs hq hw => ?_)
  obtain ⟨z_5, thk_4, rfl, hz_5r, hx5k_4, hRk_4⟩ := hq
  have hsck_4 := hRk_4.sc.1
  show W p l e R s m args below meth c H locs _ _ _ (F0 m 10 ls [.int (iN (z_5))])
  refine x_if_ne (tgt := 64) hC ⟨by omega, by omega⟩ dX5_part_10 (by decide) (fun c_6 => ?_) (fun c_6 => ?_)
  · replace hz_5r := (hz_5r.resolve_left (fun q9 => c_6 q9.1)).2
    replace hz_2b := mt hz_2b.mpr hz_5r.1
    refine x_const hC dX5_part_64 ?_
    exact x_iret hC hw dX5_part_65 (by first | decide | omega) (by first | decide | omega) ⟨0, thk_4, rfl, by omega, Or.inr ⟨by omega, by omega, MGm.of hRk_4 hK⟩⟩
  · replace hz_5r := (hz_5r.resolve_right (fun q9 => absurd (q9.1.symm.trans c_6) (by decide))).2
    replace hz_2b := hz_2b.mp hz_5r.2
    refine lv_aload_n hC.1 hC.2.1 dX5_part_13 rfl (lv_at hl 0 rfl) ?_
    refine lv_iload_n hC.1 hC.2.1 dX5_part_14 rfl (lv_at hl 2 rfl) ?_
    refine x_callS hC hw (lv_size hl) (c_X5_isNoKey l G (M := M_3) (p0 := p1) (by first | assumption | omega)) gX5_part_X5_isNoKey rfl dv_X5_isNoKey_s rfl (Nat.le_of_ble_eq_true rfl) (by rw [hRf]; decide) (by rw [hRl]; decide) (by first | (rw [hRc]; decide) | omega) (by first | (rw [hRs]; decide) | omega) dX5_part_15 (fun r9 M_7 H locs hq hw => ?_)
    obtain ⟨z_8, rfl, hM9, hz_8a, hz_8b⟩ := hq
    rw [hM9] at hw
    show W p l e R s m args below meth c H locs _ _ _ (F0 m 18 ls [.int (iN (z_8)), .ref a])
    refine x_if_ne (tgt := 29) hC ⟨by omega, by omega⟩ dX5_part_18 (by decide) (fun c_9 => ?_) (fun c_9 => ?_)
    · replace hz_8b := mt hz_8b.mpr c_9
      refine x_const hC dX5_part_29 ?_
      refine lv_goto (tgt := 34) hC.1 hC.2.1 dX5_part_30 (by decide) ?_
      refine x_const hC dX5_part_34 ?_
      refine x_callV hC hw (lv_size hl) (c_X5_refuse l G hRk_4 (p0 := 1) (by omega) (p1 := 2) (by omega) (by omega)) gX5_part_X5_refuse rfl dv_X5_refuse hRk_4.1.1 rfl rfl (Nat.le_of_ble_eq_true rfl) (by rw [hRf]; decide) (by rw [hRl]; decide) (by first | (rw [hRc]; decide) | omega) (by first | (rw [hRs]; decide) | omega) dX5_part_35 (fun r9 M_10 H locs hq hw => ?_)
      obtain ⟨z_12, thk_11, rfl, hz_12r, hx5k_11, hRk_11⟩ := hq
      have hsck_11 := hRk_11.sc.1
      show W p l e R s m args below meth c H locs _ _ _ (F0 m 38 ls [.int (iN (z_12))])
      refine x_if_ne (tgt := 64) hC ⟨by omega, by omega⟩ dX5_part_38 (by decide) (fun c_13 => ?_) (fun c_13 => ?_)
      · replace hz_12r := (hz_12r.resolve_left (fun q9 => c_13 q9.1)).2
        refine x_const hC dX5_part_64 ?_
        exact x_iret hC hw dX5_part_65 (by first | decide | omega) (by first | decide | omega) ⟨0, thk_11, rfl, by omega, Or.inr ⟨by omega, by omega, MGm.of hRk_11 hK⟩⟩
      · replace hz_12r := (hz_12r.resolve_right (fun q9 => absurd (q9.1.symm.trans c_13) (by decide))).2
        exact absurd hz_12r.2.2 (by decide)
    · replace hz_8b := hz_8b.mp c_9
      refine lv_iload hC.1 hC.2.1 dX5_part_21 (lv_at hl 4 rfl) ?_
      refine x_callS hC hw (lv_size hl) (c_X5_isNoKey l G (M := M_3) (p0 := p3) (by first | assumption | omega)) gX5_part_X5_isNoKey rfl dv_X5_isNoKey_s rfl (Nat.le_of_ble_eq_true rfl) (by rw [hRf]; decide) (by rw [hRl]; decide) (by first | (rw [hRc]; decide) | omega) (by first | (rw [hRs]; decide) | omega) dX5_part_23 (fun r9 M_14 H locs hq hw => ?_)
      obtain ⟨z_15, rfl, hM9, hz_15a, hz_15b⟩ := hq
      rw [hM9] at hw
      show W p l e R s m args below meth c H locs _ _ _ (F0 m 26 ls [.int (iN (z_15)), .ref a])
      refine x_if_eq (tgt := 33) hC ⟨by omega, by omega⟩ dX5_part_26 (by decide) (fun c_16 => ?_) (fun c_16 => ?_)
      · replace hz_15b := hz_15b.mp c_16
        refine x_const hC dX5_part_33 ?_
        refine x_const hC dX5_part_34 ?_
        refine x_callV hC hw (lv_size hl) (c_X5_refuse l G hRk_4 (p0 := 0) (by omega) (p1 := 2) (by omega) (by omega)) gX5_part_X5_refuse rfl dv_X5_refuse hRk_4.1.1 rfl rfl (Nat.le_of_ble_eq_true rfl) (by rw [hRf]; decide) (by rw [hRl]; decide) (by first | (rw [hRc]; decide) | omega) (by first | (rw [hRs]; decide) | omega) dX5_part_35 (fun r9 M_17 H locs hq hw => ?_)
        obtain ⟨z_19, thk_18, rfl, hz_19r, hx5k_18, hRk_18⟩ := hq
        have hsck_18 := hRk_18.sc.1
        show W p l e R s m args below meth c H locs _ _ _ (F0 m 38 ls [.int (iN (z_19))])
        refine x_if_ne (tgt := 64) hC ⟨by omega, by omega⟩ dX5_part_38 (by decide) (fun c_20 => ?_) (fun c_20 => ?_)
        · replace hz_19r := (hz_19r.resolve_left (fun q9 => c_20 q9.1)).2
          refine x_const hC dX5_part_64 ?_
          exact x_iret hC hw dX5_part_65 (by first | decide | omega) (by first | decide | omega) ⟨0, thk_18, rfl, by omega, Or.inr ⟨by omega, by omega, MGm.of hRk_18 hK⟩⟩
        · replace hz_19r := (hz_19r.resolve_right (fun q9 => absurd (q9.1.symm.trans c_20) (by decide))).2
          refine lv_aload_n hC.1 hC.2.1 dX5_part_41 rfl (lv_at hl 0 rfl) ?_
          refine lv_aload_n hC.1 hC.2.1 dX5_part_42 rfl (lv_at hl 0 rfl) ?_
          refine x_callV hC hw (lv_size hl) (c_X5_free l G hRk_18) gX5_part_X5_free rfl dv_X5_free hRk_18.1.1 rfl rfl (Nat.le_of_ble_eq_true rfl) (by rw [hRf]; decide) (by rw [hRl]; decide) (by first | (rw [hRc]; decide) | omega) (by first | (rw [hRs]; decide) | omega) dX5_part_43 (fun r9 M_21 H locs hq hw => ?_)
          obtain ⟨z_22, rfl, hM9, hz_22a, hz_22f⟩ := hq
          rw [hM9] at hw
          show W p l e R s m args below meth c H locs _ _ _ (F0 m 46 ls [.int (iN (z_22)), .ref a])
          refine x_sipush hC dX5_part_46 (by decide +kernel) ?_
          refine x_icmp_ne (tgt := 56) hC ⟨by omega, by omega⟩ ⟨by omega, by omega⟩ dX5_part_49 (by decide) (fun c_23 => ?_) (fun c_23 => ?_)
          · refine x_const hC dX5_part_56 ?_
            refine x_const hC dX5_part_57 ?_
            refine x_callV hC hw (lv_size hl) (c_X5_refuse l G hRk_18 (p0 := 0) (by omega) (p1 := 3) (by omega) (by omega)) gX5_part_X5_refuse rfl dv_X5_refuse hRk_18.1.1 rfl rfl (Nat.le_of_ble_eq_true rfl) (by rw [hRf]; decide) (by rw [hRl]; decide) (by first | (rw [hRc]; decide) | omega) (by first | (rw [hRs]; decide) | omega) dX5_part_58 (fun r9 M_24 H locs hq hw => ?_)
            obtain ⟨z_26, thk_25, rfl, hz_26r, hx5k_25, hRk_25⟩ := hq
            have hsck_25 := hRk_25.sc.1
            show W p l e R s m args below meth c H locs _ _ _ (F0 m 61 ls [.int (iN (z_26))])
            refine x_if_eq (tgt := 66) hC ⟨by omega, by omega⟩ dX5_part_61 (by decide) (fun c_27 => ?_) (fun c_27 => ?_)
            · replace hz_26r := (hz_26r.resolve_right (fun q9 => absurd (q9.1.symm.trans c_27) (by decide))).2
              refine lv_aload_n hC.1 hC.2.1 dX5_part_66 rfl (lv_at hl 0 rfl) ?_
              refine x_get hC hw hRk_25.1.1 rfl hinX5 5 (by decide) (List.mem_cons_of_mem _ (List.mem_append_left _ (List.mem_append_left _ (List.mem_of_getElem? (i := 0) rfl)))) rfl dX5_part_67 ?_
              refine lv_iload_n hC.1 hC.2.1 dX5_part_70 rfl (lv_at hl 1 rfl) ?_
              refine x_ald4 hC hw hRk_25.1.2.2.2.2.1 (by omega) (by omega) (by omega) dX5_part_71 ?_
              obtain ⟨y_28, hy_29⟩ := x_some (hz_2n (by omega))
              rw [hy_29]
              obtain ⟨ti_30, fi_30, hui_30, hIi_30⟩ := (hRk_25.vw (show (p0).toNat < 4 from tn_lt (by omega) (by decide))).yes hy_29
              obtain ⟨htat_31, htbt_31, htct_31, htdt_31, htet_31⟩ := id hIi_30.2.1
              show W p l e R s m args below meth c _ _ _ _ _ (F0 m 72 ls [.ref y_28])
              refine lv_astore (lv' := [(6, .ref y_28), (0, .ref a), (1, .int (iN (p0))), (2, .int (iN (p1))), (3, .int (iN (p2))), (4, .int (iN (p3))), (5, .int (iN (p4)))]) hC.1 hC.2.1 dX5_part_72 hl (by decide) rfl (fun ls hl => ?_)
              refine lv_aload_n hC.1 hC.2.1 dX5_part_74 rfl (lv_at hl 1 rfl) ?_
              refine lv_aload hC.1 hC.2.1 dX5_part_75 (lv_at hl 0 rfl) ?_
              refine lv_iload_n hC.1 hC.2.1 dX5_part_77 rfl (lv_at hl 3 rfl) ?_
              refine x_callV hC hw (lv_size hl) (c_X5_isWithin l G hRk_25 hIi_30 (p0 := p1) (by first | assumption | omega) (by omega)) gX5_part_X5_isWithin rfl dv_X5_isWithin hRk_25.1.1 rfl rfl (Nat.le_of_ble_eq_true rfl) (by rw [hRf]; decide) (by rw [hRl]; decide) (by first | (rw [hRc]; decide) | omega) (by first | (rw [hRs]; decide) | omega) dX5_part_78 (fun r9 M_32 H locs hq hw => ?_)
              obtain ⟨z_33, rfl, hM9, hz_33a, hz_33w⟩ := hq
              rw [hM9] at hw
              show W p l e R s m args below meth c H locs _ _ _ (F0 m 81 ls [.int (iN (z_33))])
              refine x_if_eq (tgt := 113) hC ⟨by omega, by omega⟩ dX5_part_81 (by decide) (fun c_34 => ?_) (fun c_34 => ?_)
              · refine x_sipush hC dX5_part_113 (by decide +kernel) ?_
                exact x_iret hC hw dX5_part_116 (by first | decide | omega) (by first | decide | omega) ⟨(-20000), thk_25, rfl, ⟨by omega, by omega⟩, Or.inl ⟨by omega, ⟨⟨(by first | omega | trivial), (by first | omega | trivial), (by first | omega | trivial)⟩, ⟨⟨(by first | omega | trivial), (by first | omega | trivial)⟩, ⟨(by first | omega | trivial), (by first | omega | trivial)⟩⟩, (by first | omega | trivial)⟩, (by have i9 := inI_01 (O ti_30.b) (p1).toNat ti_30; have i8 := inI_01 (O ti_30.b) (p3).toNat ti_30; rw [A_part, show tvW (ST.W (O, V, Wv, K, kp, kv, rfd)) p0.toNat = ti_30 from tvW_some hui_30]; show _ = (if ((inI (O ti_30.b) ti_30 (p1).toNat = 1 ∧ inI (O ti_30.b) ti_30 (p3).toNat = 1) ∧ ¬ mwN (O ti_30.b) (p3).toNat < mwN (O ti_30.b) (p1).toNat) then (frN Wv : Int) else -20000); omega), (by have i9 := inI_01 (O ti_30.b) (p1).toNat ti_30; have i8 := inI_01 (O ti_30.b) (p3).toNat ti_30; rw [S_part, show tvW (ST.W (O, V, Wv, K, kp, kv, rfd)) p0.toNat = ti_30 from tvW_some hui_30]; show MGm _ _ _ _ _ (if ((inI (O ti_30.b) ti_30 (p1).toNat = 1 ∧ inI (O ti_30.b) ti_30 (p3).toNat = 1) ∧ ¬ mwN (O ti_30.b) (p3).toNat < mwN (O ti_30.b) (p1).toNat) then _ else _); rw [if_neg (by omega)]; exact MGm.of hRk_25 hK)⟩⟩
              · refine lv_aload_n hC.1 hC.2.1 dX5_part_84 rfl (lv_at hl 1 rfl) ?_
                refine lv_aload hC.1 hC.2.1 dX5_part_85 (lv_at hl 0 rfl) ?_
                refine lv_iload hC.1 hC.2.1 dX5_part_87 (lv_at hl 5 rfl) ?_
                refine x_callV hC hw (lv_size hl) (c_X5_isWithin l G hRk_25 hIi_30 (p0 := p3) (by first | assumption | omega) (by omega)) gX5_part_X5_isWithin rfl dv_X5_isWithin hRk_25.1.1 rfl rfl (Nat.le_of_ble_eq_true rfl) (by rw [hRf]; decide) (by rw [hRl]; decide) (by first | (rw [hRc]; decide) | omega) (by first | (rw [hRs]; decide) | omega) dX5_part_89 (fun r9 M_35 H locs hq hw => ?_)
                obtain ⟨z_36, rfl, hM9, hz_36a, hz_36w⟩ := hq
                rw [hM9] at hw
                show W p l e R s m args below meth c H locs _ _ _ (F0 m 92 ls [.int (iN (z_36))])
                refine x_if_eq (tgt := 113) hC ⟨by omega, by omega⟩ dX5_part_92 (by decide) (fun c_37 => ?_) (fun c_37 => ?_)
                · refine x_sipush hC dX5_part_113 (by decide +kernel) ?_
                  exact x_iret hC hw dX5_part_116 (by first | decide | omega) (by first | decide | omega) ⟨(-20000), thk_25, rfl, ⟨by omega, by omega⟩, Or.inl ⟨by omega, ⟨⟨(by first | omega | trivial), (by first | omega | trivial), (by first | omega | trivial)⟩, ⟨⟨(by first | omega | trivial), (by first | omega | trivial)⟩, ⟨(by first | omega | trivial), (by first | omega | trivial)⟩⟩, (by first | omega | trivial)⟩, (by have i9 := inI_01 (O ti_30.b) (p1).toNat ti_30; have i8 := inI_01 (O ti_30.b) (p3).toNat ti_30; rw [A_part, show tvW (ST.W (O, V, Wv, K, kp, kv, rfd)) p0.toNat = ti_30 from tvW_some hui_30]; show _ = (if ((inI (O ti_30.b) ti_30 (p1).toNat = 1 ∧ inI (O ti_30.b) ti_30 (p3).toNat = 1) ∧ ¬ mwN (O ti_30.b) (p3).toNat < mwN (O ti_30.b) (p1).toNat) then (frN Wv : Int) else -20000); omega), (by have i9 := inI_01 (O ti_30.b) (p1).toNat ti_30; have i8 := inI_01 (O ti_30.b) (p3).toNat ti_30; rw [S_part, show tvW (ST.W (O, V, Wv, K, kp, kv, rfd)) p0.toNat = ti_30 from tvW_some hui_30]; show MGm _ _ _ _ _ (if ((inI (O ti_30.b) ti_30 (p1).toNat = 1 ∧ inI (O ti_30.b) ti_30 (p3).toNat = 1) ∧ ¬ mwN (O ti_30.b) (p3).toNat < mwN (O ti_30.b) (p1).toNat) then _ else _); rw [if_neg (by omega)]; exact MGm.of hRk_25 hK)⟩⟩
                · refine lv_aload_n hC.1 hC.2.1 dX5_part_95 rfl (lv_at hl 1 rfl) ?_
                  refine lv_aload hC.1 hC.2.1 dX5_part_96 (lv_at hl 0 rfl) ?_
                  refine lv_iload_n hC.1 hC.2.1 dX5_part_98 rfl (lv_at hl 3 rfl) ?_
                  refine x_callV hC hw (lv_size hl) (c_X5_weight l G hRk_25 hIi_30 (p0 := p1) (by first | assumption | omega) (by omega)) gX5_part_X5_weight rfl dv_X5_weight hRk_25.1.1 rfl rfl (Nat.le_of_ble_eq_true rfl) (by rw [hRf]; decide) (by rw [hRl]; decide) (by first | (rw [hRc]; decide) | omega) (by first | (rw [hRs]; decide) | omega) dX5_part_99 (fun r9 M_38 H locs hq hw => ?_)
                  obtain ⟨z_39, rfl, hM9, hz_39a, hz_39b⟩ := hq
                  rw [hM9] at hw
                  show W p l e R s m args below meth c H locs _ _ _ (F0 m 102 ls [.int (iN (z_39))])
                  refine lv_aload_n hC.1 hC.2.1 dX5_part_102 rfl (lv_at hl 1 rfl) ?_
                  refine lv_aload hC.1 hC.2.1 dX5_part_103 (lv_at hl 0 rfl) ?_
                  refine lv_iload hC.1 hC.2.1 dX5_part_105 (lv_at hl 5 rfl) ?_
                  refine x_callV hC hw (lv_size hl) (c_X5_weight l G hRk_25 hIi_30 (p0 := p3) (by first | assumption | omega) (by omega)) gX5_part_X5_weight rfl dv_X5_weight hRk_25.1.1 rfl rfl (Nat.le_of_ble_eq_true rfl) (by rw [hRf]; decide) (by rw [hRl]; decide) (by first | (rw [hRc]; decide) | omega) (by first | (rw [hRs]; decide) | omega) dX5_part_107 (fun r9 M_40 H locs hq hw => ?_)
                  obtain ⟨z_41, rfl, hM9, hz_41a, hz_41b⟩ := hq
                  rw [hM9] at hw
                  show W p l e R s m args below meth c H locs _ _ _ (F0 m 110 ls [.int (iN (z_41)), .int (iN (z_39))])
                  refine x_icmp_le (tgt := 117) hC ⟨by omega, by omega⟩ ⟨by omega, by omega⟩ dX5_part_110 (by decide) (fun c_42 => ?_) (fun c_42 => ?_)
                  · refine lv_aload_n hC.1 hC.2.1 dX5_part_117 rfl (lv_at hl 1 rfl) ?_
                    refine x_const hC dX5_part_118 ?_
                    refine x_newI hC hw (by decide +kernel) 5 rfl (by decide) (by omega) (by omega) dX5_part_119 (fun q_43 H hq_44 hw => ?_)
                    obtain ⟨M_45, hM_46⟩ : ∃ z, z = va_up M_24 q_43 (some (.inl (G.2 1, 5, .inl (fun _ => 0)))) := ⟨_, rfl⟩
                    rw [← hM_46] at hw
                    have hx_47 : xExt M_24 M_45 := by rw [hM_46]; exact xExt.new hq_44
                    have hA_48 : M_45 q_43 = some (.inl (G.2 1, 5, .inl (fun _ => 0))) := by rw [hM_46, va_up_self]
                    have h_49 := hRk_25.ext hx_47
                    have h_50 := hIi_30.x5 (xExt.x5 hx_47)
                    refine lv_dup hC.1 hC.2.1 dX5_part_121 rfl ?_
                    refine x_const hC dX5_part_122 ?_
                    refine lv_aload hC.1 hC.2.1 dX5_part_123 (lv_at hl 0 rfl) ?_
                    refine x_const hC dX5_part_125 ?_
                    refine x_ialdE (x := ((ti_30.b : Nat) : Int)) hC hw h_50.1 (by omega) (by omega) (by omega) dX5_part_126 h_50.2.2.1 ?_
                    refine x_iast hC hw hA_48 (by omega) (by omega) (by omega) dX5_part_127 (fun H locs hw => ?_)
                    obtain ⟨M_51, hM_52⟩ : ∃ z, z = va_up M_45 q_43 (some (.inl (G.2 1, 5, .inl (upd (fun _ => 0) (0 : Int).toNat (iN (((ti_30.b : Nat) : Int))))))) := ⟨_, rfl⟩
                    rw [← hM_52] at hw
                    have hA_53 : M_51 q_43 = some (.inl (G.2 1, 5, .inl (upd (fun _ => 0) (0 : Int).toNat (iN (((ti_30.b : Nat) : Int)))))) := by rw [hM_52, va_up_self]
                    have hx_54 := xExt.upd hq_44 hx_47 hM_52
                    have h_55 := hRk_25.ext hx_54
                    have h_56 := hIi_30.x5 (xExt.x5 hx_54)
                    refine lv_dup hC.1 hC.2.1 dX5_part_128 rfl ?_
                    refine x_const hC dX5_part_129 ?_
                    refine lv_iload_n hC.1 hC.2.1 dX5_part_130 rfl (lv_at hl 3 rfl) ?_
                    refine x_iast hC hw hA_53 (by omega) (by omega) (by omega) dX5_part_131 (fun H locs hw => ?_)
                    obtain ⟨M_57, hM_58⟩ : ∃ z, z = va_up M_51 q_43 (some (.inl (G.2 1, 5, .inl (upd (upd (fun _ => 0) (0 : Int).toNat (iN (((ti_30.b : Nat) : Int)))) (1 : Int).toNat (iN (p1)))))) := ⟨_, rfl⟩
                    rw [← hM_58] at hw
                    have hA_59 : M_57 q_43 = some (.inl (G.2 1, 5, .inl (upd (upd (fun _ => 0) (0 : Int).toNat (iN (((ti_30.b : Nat) : Int)))) (1 : Int).toNat (iN (p1))))) := by rw [hM_58, va_up_self]
                    have hx_60 := xExt.upd hq_44 hx_54 hM_58
                    have h_61 := hRk_25.ext hx_60
                    have h_62 := hIi_30.x5 (xExt.x5 hx_60)
                    refine lv_dup hC.1 hC.2.1 dX5_part_132 rfl ?_
                    refine x_const hC dX5_part_133 ?_
                    refine lv_iload_n hC.1 hC.2.1 dX5_part_134 rfl (lv_at hl 4 rfl) ?_
                    refine x_callS hC hw (lv_size hl) (c_X5_one l G (M := M_57) (p0 := p2) (by first | assumption | omega)) gX5_part_X5_one rfl dv_X5_one_s rfl (Nat.le_of_ble_eq_true rfl) (by rw [hRf]; decide) (by rw [hRl]; decide) (by first | (rw [hRc]; decide) | omega) (by first | (rw [hRs]; decide) | omega) dX5_part_135 (fun r9 M_63 H locs hq hw => ?_)
                    obtain ⟨z_64, rfl, hM9, hz_64a, hz_64b⟩ := hq
                    rw [hM9] at hw
                    show W p l e R s m args below meth c H locs _ _ _ (F0 m 138 ls [.int (iN (z_64)), .int (iN (2)), .ref q_43, .ref q_43, .ref a])
                    refine x_iast hC hw hA_59 (by omega) (by omega) (by omega) dX5_part_138 (fun H locs hw => ?_)
                    obtain ⟨M_65, hM_66⟩ : ∃ z, z = va_up M_57 q_43 (some (.inl (G.2 1, 5, .inl (upd (upd (upd (fun _ => 0) (0 : Int).toNat (iN (((ti_30.b : Nat) : Int)))) (1 : Int).toNat (iN (p1))) (2 : Int).toNat (iN (z_64)))))) := ⟨_, rfl⟩
                    rw [← hM_66] at hw
                    have hA_67 : M_65 q_43 = some (.inl (G.2 1, 5, .inl (upd (upd (upd (fun _ => 0) (0 : Int).toNat (iN (((ti_30.b : Nat) : Int)))) (1 : Int).toNat (iN (p1))) (2 : Int).toNat (iN (z_64))))) := by rw [hM_66, va_up_self]
                    have hx_68 := xExt.upd hq_44 hx_60 hM_66
                    have h_69 := hRk_25.ext hx_68
                    have h_70 := hIi_30.x5 (xExt.x5 hx_68)
                    refine lv_dup hC.1 hC.2.1 dX5_part_139 rfl ?_
                    refine x_const hC dX5_part_140 ?_
                    refine lv_iload hC.1 hC.2.1 dX5_part_141 (lv_at hl 5 rfl) ?_
                    refine x_iast hC hw hA_67 (by omega) (by omega) (by omega) dX5_part_143 (fun H locs hw => ?_)
                    obtain ⟨M_71, hM_72⟩ : ∃ z, z = va_up M_65 q_43 (some (.inl (G.2 1, 5, .inl (upd (upd (upd (upd (fun _ => 0) (0 : Int).toNat (iN (((ti_30.b : Nat) : Int)))) (1 : Int).toNat (iN (p1))) (2 : Int).toNat (iN (z_64))) (3 : Int).toNat (iN (p3)))))) := ⟨_, rfl⟩
                    rw [← hM_72] at hw
                    have hA_73 : M_71 q_43 = some (.inl (G.2 1, 5, .inl (upd (upd (upd (upd (fun _ => 0) (0 : Int).toNat (iN (((ti_30.b : Nat) : Int)))) (1 : Int).toNat (iN (p1))) (2 : Int).toNat (iN (z_64))) (3 : Int).toNat (iN (p3))))) := by rw [hM_72, va_up_self]
                    have hx_74 := xExt.upd hq_44 hx_68 hM_72
                    have h_75 := hRk_25.ext hx_74
                    have h_76 := hIi_30.x5 (xExt.x5 hx_74)
                    refine lv_dup hC.1 hC.2.1 dX5_part_144 rfl ?_
                    refine x_const hC dX5_part_145 ?_
                    refine lv_iload hC.1 hC.2.1 dX5_part_146 (lv_at hl 6 rfl) ?_
                    refine x_callS hC hw (lv_size hl) (c_X5_one l G (M := M_71) (p0 := p4) (by first | assumption | omega)) gX5_part_X5_one rfl dv_X5_one_s rfl (Nat.le_of_ble_eq_true rfl) (by rw [hRf]; decide) (by rw [hRl]; decide) (by first | (rw [hRc]; decide) | omega) (by first | (rw [hRs]; decide) | omega) dX5_part_148 (fun r9 M_77 H locs hq hw => ?_)
                    obtain ⟨z_78, rfl, hM9, hz_78a, hz_78b⟩ := hq
                    rw [hM9] at hw
                    show W p l e R s m args below meth c H locs _ _ _ (F0 m 151 ls [.int (iN (z_78)), .int (iN (4)), .ref q_43, .ref q_43, .ref a])
                    refine x_iast hC hw hA_73 (by omega) (by omega) (by omega) dX5_part_151 (fun H locs hw => ?_)
                    obtain ⟨M_79, hM_80⟩ : ∃ z, z = va_up M_71 q_43 (some (.inl (G.2 1, 5, .inl (upd (upd (upd (upd (upd (fun _ => 0) (0 : Int).toNat (iN (((ti_30.b : Nat) : Int)))) (1 : Int).toNat (iN (p1))) (2 : Int).toNat (iN (z_64))) (3 : Int).toNat (iN (p3))) (4 : Int).toNat (iN (z_78)))))) := ⟨_, rfl⟩
                    rw [← hM_80] at hw
                    have hA_81 : M_79 q_43 = some (.inl (G.2 1, 5, .inl (upd (upd (upd (upd (upd (fun _ => 0) (0 : Int).toNat (iN (((ti_30.b : Nat) : Int)))) (1 : Int).toNat (iN (p1))) (2 : Int).toNat (iN (z_64))) (3 : Int).toNat (iN (p3))) (4 : Int).toNat (iN (z_78))))) := by rw [hM_80, va_up_self]
                    have hx_82 := xExt.upd hq_44 hx_74 hM_80
                    have h_83 := hRk_25.ext hx_82
                    have h_84 := hIi_30.x5 (xExt.x5 hx_82)
                    have hI_85 : Its G M_79 q_43 (upd (upd (upd (upd (upd (fun _ => 0) (0 : Int).toNat (iN (((ti_30.b : Nat) : Int)))) (1 : Int).toNat (iN (p1))) (2 : Int).toNat (iN (z_64))) (3 : Int).toNat (iN (p3))) (4 : Int).toNat (iN (z_78))) (ti_30.b, p1, p3, p2, p4) := ⟨hA_81, ⟨(show ti_30.b < 3 by omega), (show p1 = -10000 ∨ (0 ≤ p1 ∧ p1 ≤ 99) by omega), (show p3 = -10000 ∨ (0 ≤ p3 ∧ p3 ≤ 99) by omega), (show p2 = 0 ∨ p2 = 1 by omega), (show p4 = 0 ∨ p4 = 1 by omega)⟩, rfl, rfl, (show iN (z_64) = iN (p2) from congrArg iN (by omega)), rfl, (show iN (z_78) = iN (p4) from congrArg iN (by omega))⟩
                    refine x_callV hC hw (lv_size hl) (c_X5_open l G h_83 hI_85 (by omega)) gX5_part_X5_open rfl dv_X5_open h_83.1.1 rfl rfl (Nat.le_of_ble_eq_true rfl) (by rw [hRf]; decide) (by rw [hRl]; decide) (by first | (rw [hRc]; decide) | omega) (by first | (rw [hRs]; decide) | omega) dX5_part_152 (fun r9 M_86 H locs hq hw => ?_)
                    obtain ⟨z_88, fyk_87, Wvk_87, rfl, hz_88a, hz_88f, he0k_87, hx5k_87, hRk_87⟩ := hq
                    have h_89 := h_84.x5 hx5k_87
                    have h_90 := hI_85.x5 hx5k_87
                    have hsck_87 := hRk_87.sc.1
                    show W p l e R s m args below meth c H locs _ _ _ (F0 m 155 ls [.int (iN (z_88))])
                    exact x_iret hC hw dX5_part_155 (by first | decide | omega) (by first | decide | omega) ⟨z_88, thk_25, rfl, ⟨by omega, by omega⟩, Or.inl ⟨by omega, ⟨⟨(by first | omega | trivial), (by first | omega | trivial), (by first | omega | trivial)⟩, ⟨⟨(by first | omega | trivial), (by first | omega | trivial)⟩, ⟨(by first | omega | trivial), (by first | omega | trivial)⟩⟩, (by first | omega | trivial)⟩, (by have i9 := inI_01 (O ti_30.b) (p1).toNat ti_30; have i8 := inI_01 (O ti_30.b) (p3).toNat ti_30; rw [A_part, show tvW (ST.W (O, V, Wv, K, kp, kv, rfd)) p0.toNat = ti_30 from tvW_some hui_30]; show _ = (if ((inI (O ti_30.b) ti_30 (p1).toNat = 1 ∧ inI (O ti_30.b) ti_30 (p3).toNat = 1) ∧ ¬ mwN (O ti_30.b) (p3).toNat < mwN (O ti_30.b) (p1).toNat) then (frN Wv : Int) else -20000); omega), (by have i9 := inI_01 (O ti_30.b) (p1).toNat ti_30; have i8 := inI_01 (O ti_30.b) (p3).toNat ti_30; rw [S_part, show tvW (ST.W (O, V, Wv, K, kp, kv, rfd)) p0.toNat = ti_30 from tvW_some hui_30]; show MGm _ _ _ _ _ (if ((inI (O ti_30.b) ti_30 (p1).toNat = 1 ∧ inI (O ti_30.b) ti_30 (p3).toNat = 1) ∧ ¬ mwN (O ti_30.b) (p3).toNat < mwN (O ti_30.b) (p1).toNat) then _ else _); rw [if_pos (by omega)]; exact (by have e9 := hRk_87; rw [he0k_87] at e9; exact MGm.of e9 hK))⟩⟩
                  · refine x_sipush hC dX5_part_113 (by decide +kernel) ?_
                    exact x_iret hC hw dX5_part_116 (by first | decide | omega) (by first | decide | omega) ⟨(-20000), thk_25, rfl, ⟨by omega, by omega⟩, Or.inl ⟨by omega, ⟨⟨(by first | omega | trivial), (by first | omega | trivial), (by first | omega | trivial)⟩, ⟨⟨(by first | omega | trivial), (by first | omega | trivial)⟩, ⟨(by first | omega | trivial), (by first | omega | trivial)⟩⟩, (by first | omega | trivial)⟩, (by have i9 := inI_01 (O ti_30.b) (p1).toNat ti_30; have i8 := inI_01 (O ti_30.b) (p3).toNat ti_30; rw [A_part, show tvW (ST.W (O, V, Wv, K, kp, kv, rfd)) p0.toNat = ti_30 from tvW_some hui_30]; show _ = (if ((inI (O ti_30.b) ti_30 (p1).toNat = 1 ∧ inI (O ti_30.b) ti_30 (p3).toNat = 1) ∧ ¬ mwN (O ti_30.b) (p3).toNat < mwN (O ti_30.b) (p1).toNat) then (frN Wv : Int) else -20000); omega), (by have i9 := inI_01 (O ti_30.b) (p1).toNat ti_30; have i8 := inI_01 (O ti_30.b) (p3).toNat ti_30; rw [S_part, show tvW (ST.W (O, V, Wv, K, kp, kv, rfd)) p0.toNat = ti_30 from tvW_some hui_30]; show MGm _ _ _ _ _ (if ((inI (O ti_30.b) ti_30 (p1).toNat = 1 ∧ inI (O ti_30.b) ti_30 (p3).toNat = 1) ∧ ¬ mwN (O ti_30.b) (p3).toNat < mwN (O ti_30.b) (p1).toNat) then _ else _); rw [if_neg (by omega)]; exact MGm.of hRk_25 hK)⟩⟩
            · replace hz_26r := (hz_26r.resolve_left (fun q9 => c_27 q9.1)).2
              refine x_const hC dX5_part_64 ?_
              exact x_iret hC hw dX5_part_65 (by first | decide | omega) (by first | decide | omega) ⟨0, thk_25, rfl, by omega, Or.inr ⟨by omega, by omega, MGm.of hRk_25 hK⟩⟩
          · refine x_const hC dX5_part_52 ?_
            refine lv_goto (tgt := 57) hC.1 hC.2.1 dX5_part_53 (by decide) ?_
            refine x_const hC dX5_part_57 ?_
            refine x_callV hC hw (lv_size hl) (c_X5_refuse l G hRk_18 (p0 := 1) (by omega) (p1 := 3) (by omega) (by omega)) gX5_part_X5_refuse rfl dv_X5_refuse hRk_18.1.1 rfl rfl (Nat.le_of_ble_eq_true rfl) (by rw [hRf]; decide) (by rw [hRl]; decide) (by first | (rw [hRc]; decide) | omega) (by first | (rw [hRs]; decide) | omega) dX5_part_58 (fun r9 M_91 H locs hq hw => ?_)
            obtain ⟨z_93, thk_92, rfl, hz_93r, hx5k_92, hRk_92⟩ := hq
            have hsck_92 := hRk_92.sc.1
            show W p l e R s m args below meth c H locs _ _ _ (F0 m 61 ls [.int (iN (z_93))])
            refine x_if_eq (tgt := 66) hC ⟨by omega, by omega⟩ dX5_part_61 (by decide) (fun c_94 => ?_) (fun c_94 => ?_)
            · replace hz_93r := (hz_93r.resolve_right (fun q9 => absurd (q9.1.symm.trans c_94) (by decide))).2
              exact absurd hz_93r.2.2 (by decide)
            · replace hz_93r := (hz_93r.resolve_left (fun q9 => c_94 q9.1)).2
              refine x_const hC dX5_part_64 ?_
              exact x_iret hC hw dX5_part_65 (by first | decide | omega) (by first | decide | omega) ⟨0, thk_92, rfl, by omega, Or.inr ⟨by omega, by omega, MGm.of hRk_92 hK⟩⟩
      · replace hz_15b := mt hz_15b.mpr c_16
        refine x_const hC dX5_part_29 ?_
        refine lv_goto (tgt := 34) hC.1 hC.2.1 dX5_part_30 (by decide) ?_
        refine x_const hC dX5_part_34 ?_
        refine x_callV hC hw (lv_size hl) (c_X5_refuse l G hRk_4 (p0 := 1) (by omega) (p1 := 2) (by omega) (by omega)) gX5_part_X5_refuse rfl dv_X5_refuse hRk_4.1.1 rfl rfl (Nat.le_of_ble_eq_true rfl) (by rw [hRf]; decide) (by rw [hRl]; decide) (by first | (rw [hRc]; decide) | omega) (by first | (rw [hRs]; decide) | omega) dX5_part_35 (fun r9 M_95 H locs hq hw => ?_)
        obtain ⟨z_97, thk_96, rfl, hz_97r, hx5k_96, hRk_96⟩ := hq
        have hsck_96 := hRk_96.sc.1
        show W p l e R s m args below meth c H locs _ _ _ (F0 m 38 ls [.int (iN (z_97))])
        refine x_if_ne (tgt := 64) hC ⟨by omega, by omega⟩ dX5_part_38 (by decide) (fun c_98 => ?_) (fun c_98 => ?_)
        · replace hz_97r := (hz_97r.resolve_left (fun q9 => c_98 q9.1)).2
          refine x_const hC dX5_part_64 ?_
          exact x_iret hC hw dX5_part_65 (by first | decide | omega) (by first | decide | omega) ⟨0, thk_96, rfl, by omega, Or.inr ⟨by omega, by omega, MGm.of hRk_96 hK⟩⟩
        · replace hz_97r := (hz_97r.resolve_right (fun q9 => absurd (q9.1.symm.trans c_98) (by decide))).2
          exact absurd hz_97r.2.2 (by decide)
