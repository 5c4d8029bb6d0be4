/-! the methods of the model, by program -/
set_option maxHeartbeats 4000000 in
set_option maxRecDepth 100000 in
theorem c_X5_clear (l : Launch) (G : xG) {M : HM} {a va oa wa ya : Nat} {wk : Option Nat} {th : Int} {rfd : Int32} {br re la ha : Int} {kp kv : Int32} {qv qw : Nat → Nat} {fa fb : Nat → Option Nat} {V : BW} {O : OW} {fy : Nat → Option Nat} {Wv : VW} {wt : Option VT} {S : Nat → Bool} (hR : MGx G M a va oa wa ya wk th rfd br re la ha kp kv qv qw fa fb V O fy Wv wt S) {K : WA} (hK : abM O wt br re la ha K) {p0 : Int} (hp0 : -2147483648 ≤ p0 ∧ p0 ≤ 2147483647) : xMet l G yX5_clear wsX5_clear 4 90 1 5 [.ref a, .int (iN (p0))] M (fun r M1 => ∃ (z th1 : Int), r = some (.int (iN z)) ∧ (-2147483648 ≤ z ∧ z ≤ 2147483647) ∧ ((th1 = 0 ∧ ((0 ≤ p0 ∧ p0 ≤ 2)) ∧ z = A_clear (O, V, Wv, K, kp, kv, rfd) p0 ∧ MGm G M1 a S th1 (S_clear (O, V, Wv, K, kp, kv, rfd) p0)) ∨ (th1 ≠ 0 ∧ ((th1 = 1 ∧ ¬ (0 ≤ p0 ∧ p0 ≤ 2))) ∧ MGm G M1 a S th1 (O, V, Wv, K, kp, kv, rfd)))) := by
  refine x_intro (cc := cX5_clear) (maxL := 2) (ret := (some .int)) (by decide +kernel) rfl (Nat.le_of_ble_eq_true rfl) ?_
  intro p e R s m args below meth c ls hRf hRc hRs hRl hC hw hl
  have hsc0 := hR.sc.1
  have hl : lv_has ls 2 [(0, .ref a), (1, .int (iN (p0)))] := hl
  refine lv_aload_n hC.1 hC.2.1 dX5_clear_0 rfl (lv_at hl 0 rfl) ?_
  refine lv_iload_n hC.1 hC.2.1 dX5_clear_1 rfl (lv_at hl 1 rfl) ?_
  refine x_callS hC hw (lv_size hl) (c_X5_isNoBook l G (M := M) (p0 := p0) (by omega)) gX5_clear_X5_isNoBook rfl dv_X5_isNoBook_s rfl (Nat.le_of_ble_eq_true rfl) (by rw [hRf]; decide) (by rw [hRl]; decide) (by omega) (by omega) dX5_clear_2 (fun r9 M_1 H locs hq hw => ?_)
  obtain ⟨z_2, rfl, hM9, hz_2a, hz_2b⟩ := hq
  rw [hM9] at hw
  show W p l e R s m args below meth c H locs _ _ _ (F0 m 5 ls [.int (iN (z_2)), .ref a])
  refine x_const hC dX5_clear_5 ?_
  refine x_callV hC hw (lv_size hl) (c_X5_start l G hR (p0 := z_2) (by omega) (p1 := 1) (by omega) (by omega)) gX5_clear_X5_start rfl dv_X5_start hR.1.1 rfl rfl (Nat.le_of_ble_eq_true rfl) (by rw [hRf]; decide) (by rw [hRl]; decide) (by omega) (by omega) dX5_clear_6 (fun r9 M_3 H locs hq hw => ?_)
  obtain ⟨z_5, thk_4, rfl, hz_5r, hx5k_4, hRk_4⟩ := hq
  have hsck_4 := hRk_4.sc.1
  show W p l e R s m args below meth c H locs _ _ _ (F0 m 9 ls [.int (iN (z_5))])
  refine x_if_eq (tgt := 14) hC ⟨by omega, by omega⟩ dX5_clear_9 (by decide) (fun c_6 => ?_) (fun c_6 => ?_)
  · replace hz_5r := (hz_5r.resolve_right (fun q9 => by have e9 := q9.1; omega)).2
    refine lv_aload_n hC.1 hC.2.1 dX5_clear_14 rfl (lv_at hl 0 rfl) ?_
    refine lv_iload_n hC.1 hC.2.1 dX5_clear_15 rfl (lv_at hl 1 rfl) ?_
    refine x_callV hC hw (lv_size hl) (c_X5_touch l G hRk_4 (p0 := p0) (by omega) (by omega)) gX5_clear_X5_touch rfl dv_X5_touch hRk_4.1.1 rfl rfl (Nat.le_of_ble_eq_true rfl) (by rw [hRf]; decide) (by rw [hRl]; decide) (by omega) (by omega) dX5_clear_16 (fun r9 M_7 H locs hq hw => ?_)
    obtain ⟨hak_8, rfl, he0k_8, hx5k_8, hRk_8⟩ := hq
    have hsck_8 := hRk_8.sc.1
    show W p l e R s m args below meth c H locs _ _ _ (F0 m 19 ls [])
    refine lv_aload_n hC.1 hC.2.1 dX5_clear_19 rfl (lv_at hl 0 rfl) ?_
    refine lv_iload_n hC.1 hC.2.1 dX5_clear_20 rfl (lv_at hl 1 rfl) ?_
    refine x_callS hC hw (lv_size hl) (c_X5_whole l G (M := M_7) (p0 := p0) (by omega) (by omega)) gX5_clear_X5_whole rfl dv_X5_whole_s rfl (Nat.le_of_ble_eq_true rfl) (by rw [hRf]; decide) (by rw [hRl]; decide) (by omega) (by omega) dX5_clear_21 (fun r9 M_9 H locs hq hw => ?_)
    obtain ⟨qk_10, fk_10, rfl, hxk_10, hIk_10⟩ := hq
    have h_11 := hRk_8.ext hxk_10
    obtain ⟨htat_12, htbt_12, htct_12, htdt_12, htet_12⟩ := id hIk_10.2.1
    have holk_10 := h_11.or' hIk_10.2.1.1
    show W p l e R s m args below meth c H locs _ _ _ (F0 m 24 ls [.ref qk_10, .ref a])
    refine x_callV hC hw (lv_size hl) (c_X5_strikeAll l G h_11 hIk_10) gX5_clear_X5_strikeAll rfl dv_X5_strikeAll h_11.1.1 rfl rfl (Nat.le_of_ble_eq_true rfl) (by rw [hRf]; decide) (by rw [hRl]; decide) (by omega) (by omega) dX5_clear_24 (fun r9 M_13 H locs hq hw => ?_)
    obtain ⟨z_15, brk_14, Vk_14, rfl, hz_15a, hz_15m, he0k_14, he1k_14, hx5k_14, hRk_14⟩ := hq
    have h_16 := hIk_10.x5 hx5k_14
    have hsck_14 := hRk_14.sc.1
    show W p l e R s m args below meth c H locs _ _ _ (F0 m 27 ls [.int (iN (z_15))])
    exact x_iret hC hw dX5_clear_27 (by omega) (by omega) ⟨z_15, thk_4, rfl, by omega, Or.inl ⟨by omega, by first | trivial | omega, hz_15m, (MGm.mut he1k_14 hRk_14 hK (bl_map he0k_14) he0k_8 rfl)⟩⟩
  · replace hz_5r := (hz_5r.resolve_left (fun q9 => by have e9 := q9.1; omega)).2
    refine x_const hC dX5_clear_12 ?_
    exact x_iret hC hw dX5_clear_13 (by omega) (by omega) ⟨0, thk_4, rfl, by omega, Or.inr ⟨by omega, by omega, MGm.of hRk_4 hK⟩⟩
set_option maxHeartbeats 4000000 in
set_option maxRecDepth 100000 in
theorem c_X5_pour (l : Launch) (G : xG) {M : HM} {a va oa wa ya : Nat} {wk : Option Nat} {th : Int} {rfd : Int32} {br re la ha : Int} {kp kv : Int32} {qv qw : Nat → Nat} {fa fb : Nat → Option Nat} {V : BW} {O : OW} {fy : Nat → Option Nat} {Wv : VW} {wt : Option VT} {S : Nat → Bool} (hR : MGx G M a va oa wa ya wk th rfd br re la ha kp kv qv qw fa fb V O fy Wv wt S) {K : WA} (hK : abM O wt br re la ha K) {p0 : Int} (hp0 : -2147483648 ≤ p0 ∧ p0 ≤ 2147483647) {p1 : Int} (hp1 : -2147483648 ≤ p1 ∧ p1 ≤ 2147483647) : xMet l G yX5_pour wsX5_pour 4 90 1 5 [.ref a, .int (iN (p0)), .int (iN (p1))] M (fun r M1 => ∃ (z th1 : Int), r = some (.int (iN z)) ∧ (-2147483648 ≤ z ∧ z ≤ 2147483647) ∧ ((th1 = 0 ∧ (((0 ≤ p0 ∧ p0 ≤ 2) ∧ (0 ≤ p1 ∧ p1 ≤ 2)) ∧ (p0 ≠ p1)) ∧ z = A_pour (O, V, Wv, K, kp, kv, rfd) p0 p1 ∧ MGm G M1 a S th1 (S_pour (O, V, Wv, K, kp, kv, rfd) p0 p1)) ∨ (th1 ≠ 0 ∧ ((th1 = 1 ∧ ¬ ((0 ≤ p0 ∧ p0 ≤ 2) ∧ (0 ≤ p1 ∧ p1 ≤ 2))) ∨ (th1 = 2 ∧ ((0 ≤ p0 ∧ p0 ≤ 2) ∧ (0 ≤ p1 ∧ p1 ≤ 2)) ∧ ¬ (p0 ≠ p1))) ∧ MGm G M1 a S th1 (O, V, Wv, K, kp, kv, rfd)))) := by
  refine x_intro (cc := cX5_pour) (maxL := 4) (ret := (some .int)) (by decide +kernel) rfl (Nat.le_of_ble_eq_true rfl) ?_
  intro p e R s m args below meth c ls hRf hRc hRs hRl hC hw hl
  have hsc0 := hR.sc.1
  have hinX5 : ∀ w ∈ wsX50, w ∈ wsX5_pour := by decide +kernel
  have hl : lv_has ls 4 [(0, .ref a), (1, .int (iN (p0))), (2, .int (iN (p1)))] := hl
  refine lv_aload_n hC.1 hC.2.1 dX5_pour_0 rfl (lv_at hl 0 rfl) ?_
  refine lv_iload_n hC.1 hC.2.1 dX5_pour_1 rfl (lv_at hl 1 rfl) ?_
  refine lv_iload_n hC.1 hC.2.1 dX5_pour_2 rfl (lv_at hl 2 rfl) ?_
  refine x_callV hC hw (lv_size hl) (c_X5_areBad l G hR (p0 := p0) (by omega) (p1 := p1) (by omega)) gX5_pour_X5_areBad rfl dv_X5_areBad hR.1.1 rfl rfl (Nat.le_of_ble_eq_true rfl) (by rw [hRf]; decide) (by rw [hRl]; decide) (by omega) (by omega) dX5_pour_3 (fun r9 M_1 H locs hq hw => ?_)
  obtain ⟨z_3, thk_2, rfl, hz_3r, hx5k_2, hRk_2⟩ := hq
  have hsck_2 := hRk_2.sc.1
  show W p l e R s m args below meth c H locs _ _ _ (F0 m 6 ls [.int (iN (z_3))])
  refine x_if_eq (tgt := 11) hC ⟨by omega, by omega⟩ dX5_pour_6 (by decide) (fun c_4 => ?_) (fun c_4 => ?_)
  · replace hz_3r := (hz_3r.resolve_right (fun q9 => by have e9 := q9.1; omega)).2
    refine lv_aload_n hC.1 hC.2.1 dX5_pour_11 rfl (lv_at hl 0 rfl) ?_
    refine lv_iload_n hC.1 hC.2.1 dX5_pour_12 rfl (lv_at hl 2 rfl) ?_
    refine x_callV hC hw (lv_size hl) (c_X5_touch l G hRk_2 (p0 := p1) (by omega) (by omega)) gX5_pour_X5_touch rfl dv_X5_touch hRk_2.1.1 rfl rfl (Nat.le_of_ble_eq_true rfl) (by rw [hRf]; decide) (by rw [hRl]; decide) (by omega) (by omega) dX5_pour_13 (fun r9 M_5 H locs hq hw => ?_)
    obtain ⟨hak_6, rfl, he0k_6, hx5k_6, hRk_6⟩ := hq
    have hsck_6 := hRk_6.sc.1
    show W p l e R s m args below meth c H locs _ _ _ (F0 m 16 ls [])
    refine x_const hC dX5_pour_16 ?_
    refine lv_istore_n (lv' := [(3, .int (iN (0))), (0, .ref a), (1, .int (iN (p0))), (2, .int (iN (p1)))]) hC.1 hC.2.1 dX5_pour_17 rfl hl (by decide) rfl (fun ls hl => ?_)
    suffices hloop18 : ∀ (n9 : Nat) (j : Int) (M1 : HM) (br1 : Int) (V1 : BW) (hR1 : MGx G M1 a va oa wa ya wk thk_2 rfd br1 re la hak_6 kp kv qv qw fa fb V1 O fy Wv wt S) (hx1 : xI5 G M M1) (hV1 : V1 = upB V ((p1).toNat) (mapN (V ((p1).toNat)) (F_pour (V (p1).toNat) (V (p0).toNat)) (j).toNat)) (hbr1 : br1 = brL wt ((p1).toNat) (V ((p1).toNat)) (F_pour (V (p1).toNat) (V (p0).toNat)) (j).toNat br) (H : Heap) (locs : List Loc) (ls : Array Slot), (hmu : (100 - j).toNat < n9) → (hi0 : 0 ≤ j ∧ j ≤ 100) → xD G (xA M s.heap.size) s M1 H locs → lv_has ls 4 [(0, .ref a), (1, .int (iN (p0))), (2, .int (iN (p1))), (3, .int (iN (j)))] → W p l e R s m args below meth c H locs _ _ _ (F0 m 18 ls []) by
      exact hloop18 _ 0 _ _ _ hRk_6 (xI5.tr (hx5k_2) (hx5k_6)) ml_0 bl_0 _ _ _ (Nat.lt_succ_self _) (by omega) hw (lv_sub hl [1, 2, 3, 0] rfl)
    intro n9
    induction n9 with
    | zero => intro j M1 br1 V1 hR1 hx1 hV1 hbr1 H locs ls hmu; exact absurd hmu (Nat.not_lt_zero _)
    | succ n9 ih18 =>
      intro j M1 br1 V1 hR1 hx1 hV1 hbr1 H locs ls hmu hi0 hw hl
      have hvj : V1 ((p1).toNat) (j).toNat = V ((p1).toNat) (j).toNat := ml_at hV1
      have hsc1 := hR1.sc.1
      have hvo : V1 (p0).toNat (j).toNat = V (p0).toNat (j).toNat := by rw [hV1, upB_n _ _ (by omega)]
      refine lv_iload_n hC.1 hC.2.1 dX5_pour_18 rfl (lv_at hl 3 rfl) ?_
      refine x_bipush hC dX5_pour_19 (by decide +kernel) ?_
      refine x_icmp_ge (tgt := 59) hC ⟨by omega, by omega⟩ ⟨by omega, by omega⟩ dX5_pour_21 (by decide) (fun c_7 => ?_) (fun c_7 => ?_)
      · refine lv_aload_n hC.1 hC.2.1 dX5_pour_59 rfl (lv_at hl 0 rfl) ?_
        refine lv_iload_n hC.1 hC.2.1 dX5_pour_60 rfl (lv_at hl 2 rfl) ?_
        refine x_callS hC hw (lv_size hl) (c_X5_whole l G (M := M1) (p0 := p1) (by omega) (by omega)) gX5_pour_X5_whole rfl dv_X5_whole_s rfl (Nat.le_of_ble_eq_true rfl) (by rw [hRf]; decide) (by rw [hRl]; decide) (by omega) (by omega) dX5_pour_61 (fun r9 M_8 H locs hq hw => ?_)
        obtain ⟨qk_9, fk_9, rfl, hxk_9, hIk_9⟩ := hq
        have h_10 := hR1.ext hxk_9
        obtain ⟨htat_11, htbt_11, htct_11, htdt_11, htet_11⟩ := id hIk_9.2.1
        have holk_9 := h_10.or' hIk_9.2.1.1
        show W p l e R s m args below meth c H locs _ _ _ (F0 m 64 ls [.ref qk_9, .ref a])
        refine x_callV hC hw (lv_size hl) (c_X5_many l G h_10 hIk_9) gX5_pour_X5_many rfl dv_X5_many h_10.1.1 rfl rfl (Nat.le_of_ble_eq_true rfl) (by rw [hRf]; decide) (by rw [hRl]; decide) (by omega) (by omega) dX5_pour_64 (fun r9 M_12 H locs hq hw => ?_)
        obtain ⟨z_13, rfl, hM9, hz_13a, hz_13m⟩ := hq
        rw [hM9] at hw
        show W p l e R s m args below meth c H locs _ _ _ (F0 m 67 ls [.int (iN (z_13))])
        exact x_iret hC hw dX5_pour_67 (by omega) (by omega) ⟨z_13, thk_2, rfl, by omega, Or.inl ⟨by omega, by first | trivial | omega, (by have e9 : (j).toNat = 100 := (by omega); rw [e9] at hV1; have e8 := hz_13m; rw [mn_cnt, hV1, upB_s] at e8; exact e8), (by have e9 : (j).toNat = 100 := (by omega); rw [e9] at hV1 hbr1; exact MGm.mut hV1 h_10 hK (bl_map hbr1) he0k_6 rfl)⟩⟩
      · refine lv_aload_n hC.1 hC.2.1 dX5_pour_24 rfl (lv_at hl 0 rfl) ?_
        refine x_get hC hw hR1.1.1 rfl hinX5 2 (by decide) (by decide +kernel) rfl dX5_pour_25 ?_
        refine lv_iload_n hC.1 hC.2.1 dX5_pour_28 rfl (lv_at hl 1 rfl) ?_
        refine x_ald4 hC hw hR1.1.2.1 (by omega) (by omega) (by omega) dX5_pour_29 ?_
        rw [hR1.fa' (show (p0).toNat < 3 by omega)]
        show W p l e R s m args below meth c _ _ _ _ _ (F0 m 30 ls [.ref (qv ((p0).toNat))])
        refine lv_iload_n hC.1 hC.2.1 dX5_pour_30 rfl (lv_at hl 3 rfl) ?_
        refine x_ialdE (x := (V1 ((p0).toNat) ((j).toNat))) hC hw (hR1.rv (show ((p0).toNat) < 3 by omega)) (by omega) (by omega) (by omega) dX5_pour_31 rfl ?_
        have hrv_14 := hR1.vr (show ((p0).toNat) < 3 by omega) (show (j).toNat < 100 by omega)
        have hpv_14 := hR1.vs (show ((p0).toNat) < 3 by omega) (show (j).toNat < 100 by omega)
        refine x_sipush hC dX5_pour_32 (by decide +kernel) ?_
        refine x_icmp_eq (tgt := 53) hC ⟨by omega, by omega⟩ ⟨by omega, by omega⟩ dX5_pour_35 (by decide) (fun c_15 => ?_) (fun c_15 => ?_)
        · refine x_iinc (lv' := [(3, .int (iN (j + 1))), (0, .ref a), (1, .int (iN (p0))), (2, .int (iN (p1)))]) hC dX5_pour_53 hl (k := 3) rfl (by decide) rfl (fun ls hl => ?_)
          refine lv_goto (tgt := 18) hC.1 hC.2.1 dX5_pour_56 (by decide) ?_
          exact ih18 (j + 1) _ _ _ hR1 hx1 (ml_skip (by omega) hV1 (show (F_pour (V (p1).toNat) (V (p0).toNat)) (j).toNat = V ((p1).toNat) (j).toNat by simp only [F_pour]; rw [if_pos (by omega)])) (bl_skip (by omega) hbr1 (show (F_pour (V (p1).toNat) (V (p0).toNat)) (j).toNat = V ((p1).toNat) (j).toNat by simp only [F_pour]; rw [if_pos (by omega)])) _ _ _ (by omega) (by omega) hw (lv_sub hl [1, 2, 3, 0] rfl)
        · refine lv_aload_n hC.1 hC.2.1 dX5_pour_38 rfl (lv_at hl 0 rfl) ?_
          refine lv_iload_n hC.1 hC.2.1 dX5_pour_39 rfl (lv_at hl 2 rfl) ?_
          refine lv_iload_n hC.1 hC.2.1 dX5_pour_40 rfl (lv_at hl 3 rfl) ?_
          refine lv_aload_n hC.1 hC.2.1 dX5_pour_41 rfl (lv_at hl 0 rfl) ?_
          refine x_get hC hw hR1.1.1 rfl hinX5 2 (by decide) (by decide +kernel) rfl dX5_pour_42 ?_
          refine lv_iload_n hC.1 hC.2.1 dX5_pour_45 rfl (lv_at hl 1 rfl) ?_
          refine x_ald4 hC hw hR1.1.2.1 (by omega) (by omega) (by omega) dX5_pour_46 ?_
          rw [hR1.fa' (show (p0).toNat < 3 by omega)]
          show W p l e R s m args below meth c _ _ _ _ _ (F0 m 47 ls [.ref (qv ((p0).toNat)), .int (iN (j)), .int (iN (p1)), .ref a])
          refine lv_iload_n hC.1 hC.2.1 dX5_pour_47 rfl (lv_at hl 3 rfl) ?_
          refine x_ialdE (x := (V1 ((p0).toNat) ((j).toNat))) hC hw (hR1.rv (show ((p0).toNat) < 3 by omega)) (by omega) (by omega) (by omega) dX5_pour_48 rfl ?_
          have hrv_16 := hR1.vr (show ((p0).toNat) < 3 by omega) (show (j).toNat < 100 by omega)
          have hpv_16 := hR1.vs (show ((p0).toNat) < 3 by omega) (show (j).toNat < 100 by omega)
          refine x_callV hC hw (lv_size hl) (c_X5_set l G hR1 (p0 := p1) (by omega) (p1 := j) (by omega) (p2 := (V1 ((p0).toNat) ((j).toNat))) (by omega) (by omega) (by omega) (by omega) (by intro q9; first | exact absurd rfl q9 | assumption | exact hpv_14 q9 | exact hpv_16 q9 | exact hpv_14 (by omega) | exact hpv_16 (by omega))) gX5_pour_X5_set rfl dv_X5_set hR1.1.1 rfl rfl (Nat.le_of_ble_eq_true rfl) (by rw [hRf]; decide) (by rw [hRl]; decide) (by omega) (by omega) dX5_pour_49 (fun r9 M_17 H locs hq hw => ?_)
          obtain ⟨z_19, brk_18, Vk_18, rfl, hz_19a, hz_19v, hz_19b, he0k_18, he1k_18, hx5k_18, hRk_18⟩ := hq
          have hsck_18 := hRk_18.sc.1
          show W p l e R s m args below meth c H locs _ _ _ (F0 m 52 ls [.int (iN (z_19))])
          refine lv_pop hC.1 hC.2.1 dX5_pour_52 rfl ?_
          refine x_iinc (lv' := [(3, .int (iN (j + 1))), (0, .ref a), (1, .int (iN (p0))), (2, .int (iN (p1)))]) hC dX5_pour_53 hl (k := 3) rfl (by decide) rfl (fun ls hl => ?_)
          refine lv_goto (tgt := 18) hC.1 hC.2.1 dX5_pour_56 (by decide) ?_
          exact ih18 (j + 1) _ _ _ hRk_18 (xI5.tr hx1 (hx5k_18)) (ml_set (by omega) hV1 he1k_18 (show (V1 ((p0).toNat) ((j).toNat)) = (F_pour (V (p1).toNat) (V (p0).toNat)) (j).toNat by simp only [F_pour]; rw [if_neg (by omega)]; omega)) (bl_set (by omega) hV1 hbr1 (show (V1 ((p0).toNat) ((j).toNat)) = (F_pour (V (p1).toNat) (V (p0).toNat)) (j).toNat by simp only [F_pour]; rw [if_neg (by omega)]; omega) he0k_18) _ _ _ (by omega) (by omega) hw (lv_sub hl [1, 2, 3, 0] rfl)
  · replace hz_3r := (hz_3r.resolve_left (fun q9 => by have e9 := q9.1; omega)).2
    refine x_const hC dX5_pour_9 ?_
    exact x_iret hC hw dX5_pour_10 (by omega) (by omega) ⟨0, thk_2, rfl, by omega, Or.inr ⟨by omega, by omega, MGm.of hRk_2 hK⟩⟩
set_option maxHeartbeats 4000000 in
set_option maxRecDepth 100000 in
theorem c_X5_thin (l : Launch) (G : xG) {M : HM} {a va oa wa ya : Nat} {wk : Option Nat} {th : Int} {rfd : Int32} {br re la ha : Int} {kp kv : Int32} {qv qw : Nat → Nat} {fa fb : Nat → Option Nat} {V : BW} {O : OW} {fy : Nat → Option Nat} {Wv : VW} {wt : Option VT} {S : Nat → Bool} (hR : MGx G M a va oa wa ya wk th rfd br re la ha kp kv qv qw fa fb V O fy Wv wt S) {K : WA} (hK : abM O wt br re la ha K) {p0 : Int} (hp0 : -2147483648 ≤ p0 ∧ p0 ≤ 2147483647) {p1 : Int} (hp1 : -2147483648 ≤ p1 ∧ p1 ≤ 2147483647) {p2 : Int} (hp2 : -2147483648 ≤ p2 ∧ p2 ≤ 2147483647) (hb2 : p2 = 0 ∨ p2 = 1) : xMet l G yX5_thin wsX5_thin 3 66 0 0 [.ref a, .int (iN (p0)), .int (iN (p1)), .int (iN (p2))] M (fun r M1 => ∃ (z th1 : Int), r = some (.int (iN z)) ∧ (-2147483648 ≤ z ∧ z ≤ 2147483647) ∧ ((th1 = 0 ∧ (((0 ≤ p0 ∧ p0 ≤ 2) ∧ (0 ≤ p1 ∧ p1 ≤ 2)) ∧ (p0 ≠ p1)) ∧ z = A_thin (O, V, Wv, K, kp, kv, rfd) p0 p1 p2 ∧ MGm G M1 a S th1 (S_thin (O, V, Wv, K, kp, kv, rfd) p0 p1 p2)) ∨ (th1 ≠ 0 ∧ ((th1 = 1 ∧ ¬ ((0 ≤ p0 ∧ p0 ≤ 2) ∧ (0 ≤ p1 ∧ p1 ≤ 2))) ∨ (th1 = 2 ∧ ((0 ≤ p0 ∧ p0 ≤ 2) ∧ (0 ≤ p1 ∧ p1 ≤ 2)) ∧ ¬ (p0 ≠ p1))) ∧ MGm G M1 a S th1 (O, V, Wv, K, kp, kv, rfd)))) := by
  refine x_intro (cc := cX5_thin) (maxL := 6) (ret := (some .int)) (by decide +kernel) rfl (Nat.le_of_ble_eq_true rfl) ?_
  intro p e R s m args below meth c ls hRf hRc hRs hRl hC hw hl
  have hsc0 := hR.sc.1
  have hinX5 : ∀ w ∈ wsX50, w ∈ wsX5_thin := by decide +kernel
  have hl : lv_has ls 6 [(0, .ref a), (1, .int (iN (p0))), (2, .int (iN (p1))), (3, .int (iN (p2)))] := hl
  refine lv_aload_n hC.1 hC.2.1 dX5_thin_0 rfl (lv_at hl 0 rfl) ?_
  refine lv_iload_n hC.1 hC.2.1 dX5_thin_1 rfl (lv_at hl 1 rfl) ?_
  refine lv_iload_n hC.1 hC.2.1 dX5_thin_2 rfl (lv_at hl 2 rfl) ?_
  refine x_callV hC hw (lv_size hl) (c_X5_areBad l G hR (p0 := p0) (by omega) (p1 := p1) (by omega)) gX5_thin_X5_areBad rfl dv_X5_areBad hR.1.1 rfl rfl (Nat.le_of_ble_eq_true rfl) (by rw [hRf]; decide) (by rw [hRl]; decide) (by omega) (by omega) dX5_thin_3 (fun r9 M_1 H locs hq hw => ?_)
  obtain ⟨z_3, thk_2, rfl, hz_3r, hx5k_2, hRk_2⟩ := hq
  have hsck_2 := hRk_2.sc.1
  show W p l e R s m args below meth c H locs _ _ _ (F0 m 6 ls [.int (iN (z_3))])
  refine x_if_eq (tgt := 11) hC ⟨by omega, by omega⟩ dX5_thin_6 (by decide) (fun c_4 => ?_) (fun c_4 => ?_)
  · replace hz_3r := (hz_3r.resolve_right (fun q9 => by have e9 := q9.1; omega)).2
    refine lv_aload_n hC.1 hC.2.1 dX5_thin_11 rfl (lv_at hl 0 rfl) ?_
    refine lv_iload_n hC.1 hC.2.1 dX5_thin_12 rfl (lv_at hl 1 rfl) ?_
    refine x_callV hC hw (lv_size hl) (c_X5_touch l G hRk_2 (p0 := p0) (by omega) (by omega)) gX5_thin_X5_touch rfl dv_X5_touch hRk_2.1.1 rfl rfl (Nat.le_of_ble_eq_true rfl) (by rw [hRf]; decide) (by rw [hRl]; decide) (by omega) (by omega) dX5_thin_13 (fun r9 M_5 H locs hq hw => ?_)
    obtain ⟨hak_6, rfl, he0k_6, hx5k_6, hRk_6⟩ := hq
    have hsck_6 := hRk_6.sc.1
    show W p l e R s m args below meth c H locs _ _ _ (F0 m 16 ls [])
    refine x_const hC dX5_thin_16 ?_
    refine lv_istore (lv' := [(4, .int (iN (0))), (0, .ref a), (1, .int (iN (p0))), (2, .int (iN (p1))), (3, .int (iN (p2)))]) hC.1 hC.2.1 dX5_thin_17 hl (by decide) rfl (fun ls hl => ?_)
    refine x_const hC dX5_thin_19 ?_
    refine lv_istore (lv' := [(5, .int (iN (0))), (4, .int (iN (0))), (0, .ref a), (1, .int (iN (p0))), (2, .int (iN (p1))), (3, .int (iN (p2)))]) hC.1 hC.2.1 dX5_thin_20 hl (by decide) rfl (fun ls hl => ?_)
    suffices hloop22 : ∀ (n9 : Nat) (n : Int) (j : Int) (M1 : HM) (br1 : Int) (V1 : BW) (hR1 : MGx G M1 a va oa wa ya wk thk_2 rfd br1 re la hak_6 kp kv qv qw fa fb V1 O fy Wv wt S) (hx1 : xI5 G M M1) (hV1 : V1 = upB V ((p0).toNat) (mapN (V ((p0).toNat)) (F_thin (V (p0).toNat) (V (p1).toNat) p2) (j).toNat)) (hbr1 : br1 = brL wt ((p0).toNat) (V ((p0).toNat)) (F_thin (V (p0).toNat) (V (p1).toNat) p2) (j).toNat br) (H : Heap) (locs : List Loc) (ls : Array Slot), (hmu : (100 - j).toNat < n9) → (hi0 : 0 ≤ j ∧ j ≤ 100) → (hi1 : 0 ≤ n ∧ n ≤ j) → (hcn : n = stN (V (p0).toNat) (F_thin (V (p0).toNat) (V (p1).toNat) p2) (j).toNat) → xD G (xA M s.heap.size) s M1 H locs → lv_has ls 6 [(0, .ref a), (1, .int (iN (p0))), (2, .int (iN (p1))), (3, .int (iN (p2))), (4, .int (iN (n))), (5, .int (iN (j)))] → W p l e R s m args below meth c H locs _ _ _ (F0 m 22 ls []) by
      exact hloop22 _ 0 0 _ _ _ hRk_6 (xI5.tr (hx5k_2) (hx5k_6)) ml_0 bl_0 _ _ _ (Nat.lt_succ_self _) (by omega) (by omega) (rfl) hw (lv_sub hl [2, 3, 4, 5, 1, 0] rfl)
    intro n9
    induction n9 with
    | zero => intro n j M1 br1 V1 hR1 hx1 hV1 hbr1 H locs ls hmu; exact absurd hmu (Nat.not_lt_zero _)
    | succ n9 ih22 =>
      intro n j M1 br1 V1 hR1 hx1 hV1 hbr1 H locs ls hmu hi0 hi1 hcn hw hl
      have hvj : V1 ((p0).toNat) (j).toNat = V ((p0).toNat) (j).toNat := ml_at hV1
      have hsc1 := hR1.sc.1
      have hvo : V1 (p1).toNat (j).toNat = V (p1).toNat (j).toNat := by rw [hV1, upB_n _ _ (by omega)]
      refine lv_iload hC.1 hC.2.1 dX5_thin_22 (lv_at hl 5 rfl) ?_
      refine x_bipush hC dX5_thin_24 (by decide +kernel) ?_
      refine x_icmp_ge (tgt := 91) hC ⟨by omega, by omega⟩ ⟨by omega, by omega⟩ dX5_thin_26 (by decide) (fun c_7 => ?_) (fun c_7 => ?_)
      · refine lv_iload hC.1 hC.2.1 dX5_thin_91 (lv_at hl 4 rfl) ?_
        exact x_iret hC hw dX5_thin_93 (by omega) (by omega) ⟨n, thk_2, rfl, by omega, Or.inl ⟨by omega, by first | trivial | omega, (by have e9 : (j).toNat = 100 := (by omega); rw [e9] at hcn; exact hcn), (by have e9 : (j).toNat = 100 := (by omega); rw [e9] at hV1 hbr1; exact MGm.mut hV1 hR1 hK (bl_map hbr1) he0k_6 rfl)⟩⟩
      · refine lv_aload_n hC.1 hC.2.1 dX5_thin_29 rfl (lv_at hl 0 rfl) ?_
        refine x_get hC hw hR1.1.1 rfl hinX5 2 (by decide) (by decide +kernel) rfl dX5_thin_30 ?_
        refine lv_iload_n hC.1 hC.2.1 dX5_thin_33 rfl (lv_at hl 1 rfl) ?_
        refine x_ald4 hC hw hR1.1.2.1 (by omega) (by omega) (by omega) dX5_thin_34 ?_
        rw [hR1.fa' (show (p0).toNat < 3 by omega)]
        show W p l e R s m args below meth c _ _ _ _ _ (F0 m 35 ls [.ref (qv ((p0).toNat))])
        refine lv_iload hC.1 hC.2.1 dX5_thin_35 (lv_at hl 5 rfl) ?_
        refine x_ialdE (x := (V1 ((p0).toNat) ((j).toNat))) hC hw (hR1.rv (show ((p0).toNat) < 3 by omega)) (by omega) (by omega) (by omega) dX5_thin_37 rfl ?_
        have hrv_8 := hR1.vr (show ((p0).toNat) < 3 by omega) (show (j).toNat < 100 by omega)
        have hpv_8 := hR1.vs (show ((p0).toNat) < 3 by omega) (show (j).toNat < 100 by omega)
        refine x_sipush hC dX5_thin_38 (by decide +kernel) ?_
        refine x_icmp_eq (tgt := 85) hC ⟨by omega, by omega⟩ ⟨by omega, by omega⟩ dX5_thin_41 (by decide) (fun c_9 => ?_) (fun c_9 => ?_)
        · refine x_iinc (lv' := [(5, .int (iN (j + 1))), (0, .ref a), (1, .int (iN (p0))), (2, .int (iN (p1))), (3, .int (iN (p2))), (4, .int (iN (n)))]) hC dX5_thin_85 hl (k := 5) rfl (by decide) rfl (fun ls hl => ?_)
          refine lv_goto (tgt := 22) hC.1 hC.2.1 dX5_thin_88 (by decide) ?_
          exact ih22 n (j + 1) _ _ _ hR1 hx1 (ml_skip (by omega) hV1 (show (F_thin (V (p0).toNat) (V (p1).toNat) p2) (j).toNat = V ((p0).toNat) (j).toNat by simp only [F_thin]; split <;> omega)) (bl_skip (by omega) hbr1 (show (F_thin (V (p0).toNat) (V (p1).toNat) p2) (j).toNat = V ((p0).toNat) (j).toNat by simp only [F_thin]; split <;> omega)) _ _ _ (by omega) (by omega) (by omega) (by rw [stN_s (by omega) rfl, if_neg (fun q8 => by have e8 := q8.2; rw [show (F_thin (V (p0).toNat) (V (p1).toNat) p2) (j).toNat = V (p0).toNat (j).toNat by simp only [F_thin]; split <;> omega] at e8; exact q8.1 e8)]; omega) hw (lv_sub hl [1, 2, 3, 4, 5, 0] rfl)
        · refine lv_aload_n hC.1 hC.2.1 dX5_thin_44 rfl (lv_at hl 0 rfl) ?_
          refine x_get hC hw hR1.1.1 rfl hinX5 2 (by decide) (by decide +kernel) rfl dX5_thin_45 ?_
          refine lv_iload_n hC.1 hC.2.1 dX5_thin_48 rfl (lv_at hl 2 rfl) ?_
          refine x_ald4 hC hw hR1.1.2.1 (by omega) (by omega) (by omega) dX5_thin_49 ?_
          rw [hR1.fa' (show (p1).toNat < 3 by omega)]
          show W p l e R s m args below meth c _ _ _ _ _ (F0 m 50 ls [.ref (qv ((p1).toNat))])
          refine lv_iload hC.1 hC.2.1 dX5_thin_50 (lv_at hl 5 rfl) ?_
          refine x_ialdE (x := (V1 ((p1).toNat) ((j).toNat))) hC hw (hR1.rv (show ((p1).toNat) < 3 by omega)) (by omega) (by omega) (by omega) dX5_thin_52 rfl ?_
          have hrv_10 := hR1.vr (show ((p1).toNat) < 3 by omega) (show (j).toNat < 100 by omega)
          have hpv_10 := hR1.vs (show ((p1).toNat) < 3 by omega) (show (j).toNat < 100 by omega)
          refine x_sipush hC dX5_thin_53 (by decide +kernel) ?_
          refine x_icmp_eq (tgt := 63) hC ⟨by omega, by omega⟩ ⟨by omega, by omega⟩ dX5_thin_56 (by decide) (fun c_11 => ?_) (fun c_11 => ?_)
          · refine x_const hC dX5_thin_63 ?_
            refine lv_iload_n hC.1 hC.2.1 dX5_thin_64 rfl (lv_at hl 3 rfl) ?_
            refine x_icmp_eq (tgt := 71) hC ⟨by omega, by omega⟩ ⟨by omega, by omega⟩ dX5_thin_65 (by decide) (fun c_12 => ?_) (fun c_12 => ?_)
            · refine lv_aload_n hC.1 hC.2.1 dX5_thin_71 rfl (lv_at hl 0 rfl) ?_
              refine lv_iload_n hC.1 hC.2.1 dX5_thin_72 rfl (lv_at hl 1 rfl) ?_
              refine lv_iload hC.1 hC.2.1 dX5_thin_73 (lv_at hl 5 rfl) ?_
              refine x_sipush hC dX5_thin_75 (by decide +kernel) ?_
              refine x_callV hC hw (lv_size hl) (c_X5_set l G hR1 (p0 := p0) (by omega) (p1 := j) (by omega) (p2 := (-10000)) (by omega) (by omega) (by omega) (by omega) (fun q9 => absurd rfl q9)) gX5_thin_X5_set rfl dv_X5_set hR1.1.1 rfl rfl (Nat.le_of_ble_eq_true rfl) (by rw [hRf]; decide) (by rw [hRl]; decide) (by omega) (by omega) dX5_thin_78 (fun r9 M_13 H locs hq hw => ?_)
              obtain ⟨z_15, brk_14, Vk_14, rfl, hz_15a, hz_15v, hz_15b, he0k_14, he1k_14, hx5k_14, hRk_14⟩ := hq
              have hsck_14 := hRk_14.sc.1
              show W p l e R s m args below meth c H locs _ _ _ (F0 m 81 ls [.int (iN (z_15))])
              refine lv_pop hC.1 hC.2.1 dX5_thin_81 rfl ?_
              refine x_iinc (lv' := [(4, .int (iN (n + 1))), (0, .ref a), (1, .int (iN (p0))), (2, .int (iN (p1))), (3, .int (iN (p2))), (5, .int (iN (j)))]) hC dX5_thin_82 hl (k := 4) rfl (by decide) rfl (fun ls hl => ?_)
              refine x_iinc (lv' := [(5, .int (iN (j + 1))), (4, .int (iN (n + 1))), (0, .ref a), (1, .int (iN (p0))), (2, .int (iN (p1))), (3, .int (iN (p2)))]) hC dX5_thin_85 hl (k := 5) rfl (by decide) rfl (fun ls hl => ?_)
              refine lv_goto (tgt := 22) hC.1 hC.2.1 dX5_thin_88 (by decide) ?_
              exact ih22 (n + 1) (j + 1) _ _ _ hRk_14 (xI5.tr hx1 (hx5k_14)) (ml_set (by omega) hV1 he1k_14 (show (-10000) = (F_thin (V (p0).toNat) (V (p1).toNat) p2) (j).toNat by simp only [F_thin]; split <;> omega)) (bl_set (by omega) hV1 hbr1 (show (-10000) = (F_thin (V (p0).toNat) (V (p1).toNat) p2) (j).toNat by simp only [F_thin]; split <;> omega) he0k_14) _ _ _ (by omega) (by omega) (by omega) (by rw [stN_s (by omega) rfl, if_pos ⟨by omega, (show -10000 = (F_thin (V (p0).toNat) (V (p1).toNat) p2) (j).toNat by simp only [F_thin]; split <;> omega).symm⟩]; omega) hw (lv_sub hl [2, 3, 4, 5, 1, 0] rfl)
            · refine lv_goto (tgt := 85) hC.1 hC.2.1 dX5_thin_68 (by decide) ?_
              refine x_iinc (lv' := [(5, .int (iN (j + 1))), (0, .ref a), (1, .int (iN (p0))), (2, .int (iN (p1))), (3, .int (iN (p2))), (4, .int (iN (n)))]) hC dX5_thin_85 hl (k := 5) rfl (by decide) rfl (fun ls hl => ?_)
              refine lv_goto (tgt := 22) hC.1 hC.2.1 dX5_thin_88 (by decide) ?_
              exact ih22 n (j + 1) _ _ _ hR1 hx1 (ml_skip (by omega) hV1 (show (F_thin (V (p0).toNat) (V (p1).toNat) p2) (j).toNat = V ((p0).toNat) (j).toNat by simp only [F_thin]; split <;> omega)) (bl_skip (by omega) hbr1 (show (F_thin (V (p0).toNat) (V (p1).toNat) p2) (j).toNat = V ((p0).toNat) (j).toNat by simp only [F_thin]; split <;> omega)) _ _ _ (by omega) (by omega) (by omega) (by rw [stN_s (by omega) rfl, if_neg (fun q8 => by have e8 := q8.2; rw [show (F_thin (V (p0).toNat) (V (p1).toNat) p2) (j).toNat = V (p0).toNat (j).toNat by simp only [F_thin]; split <;> omega] at e8; exact q8.1 e8)]; omega) hw (lv_sub hl [1, 2, 3, 4, 5, 0] rfl)
          · refine x_const hC dX5_thin_59 ?_
            refine lv_goto (tgt := 64) hC.1 hC.2.1 dX5_thin_60 (by decide) ?_
            refine lv_iload_n hC.1 hC.2.1 dX5_thin_64 rfl (lv_at hl 3 rfl) ?_
            refine x_icmp_eq (tgt := 71) hC ⟨by omega, by omega⟩ ⟨by omega, by omega⟩ dX5_thin_65 (by decide) (fun c_16 => ?_) (fun c_16 => ?_)
            · refine lv_aload_n hC.1 hC.2.1 dX5_thin_71 rfl (lv_at hl 0 rfl) ?_
              refine lv_iload_n hC.1 hC.2.1 dX5_thin_72 rfl (lv_at hl 1 rfl) ?_
              refine lv_iload hC.1 hC.2.1 dX5_thin_73 (lv_at hl 5 rfl) ?_
              refine x_sipush hC dX5_thin_75 (by decide +kernel) ?_
              refine x_callV hC hw (lv_size hl) (c_X5_set l G hR1 (p0 := p0) (by omega) (p1 := j) (by omega) (p2 := (-10000)) (by omega) (by omega) (by omega) (by omega) (fun q9 => absurd rfl q9)) gX5_thin_X5_set rfl dv_X5_set hR1.1.1 rfl rfl (Nat.le_of_ble_eq_true rfl) (by rw [hRf]; decide) (by rw [hRl]; decide) (by omega) (by omega) dX5_thin_78 (fun r9 M_17 H locs hq hw => ?_)
              obtain ⟨z_19, brk_18, Vk_18, rfl, hz_19a, hz_19v, hz_19b, he0k_18, he1k_18, hx5k_18, hRk_18⟩ := hq
              have hsck_18 := hRk_18.sc.1
              show W p l e R s m args below meth c H locs _ _ _ (F0 m 81 ls [.int (iN (z_19))])
              refine lv_pop hC.1 hC.2.1 dX5_thin_81 rfl ?_
              refine x_iinc (lv' := [(4, .int (iN (n + 1))), (0, .ref a), (1, .int (iN (p0))), (2, .int (iN (p1))), (3, .int (iN (p2))), (5, .int (iN (j)))]) hC dX5_thin_82 hl (k := 4) rfl (by decide) rfl (fun ls hl => ?_)
              refine x_iinc (lv' := [(5, .int (iN (j + 1))), (4, .int (iN (n + 1))), (0, .ref a), (1, .int (iN (p0))), (2, .int (iN (p1))), (3, .int (iN (p2)))]) hC dX5_thin_85 hl (k := 5) rfl (by decide) rfl (fun ls hl => ?_)
              refine lv_goto (tgt := 22) hC.1 hC.2.1 dX5_thin_88 (by decide) ?_
              exact ih22 (n + 1) (j + 1) _ _ _ hRk_18 (xI5.tr hx1 (hx5k_18)) (ml_set (by omega) hV1 he1k_18 (show (-10000) = (F_thin (V (p0).toNat) (V (p1).toNat) p2) (j).toNat by simp only [F_thin]; split <;> omega)) (bl_set (by omega) hV1 hbr1 (show (-10000) = (F_thin (V (p0).toNat) (V (p1).toNat) p2) (j).toNat by simp only [F_thin]; split <;> omega) he0k_18) _ _ _ (by omega) (by omega) (by omega) (by rw [stN_s (by omega) rfl, if_pos ⟨by omega, (show -10000 = (F_thin (V (p0).toNat) (V (p1).toNat) p2) (j).toNat by simp only [F_thin]; split <;> omega).symm⟩]; omega) hw (lv_sub hl [2, 3, 4, 5, 1, 0] rfl)
            · refine lv_goto (tgt := 85) hC.1 hC.2.1 dX5_thin_68 (by decide) ?_
              refine x_iinc (lv' := [(5, .int (iN (j + 1))), (0, .ref a), (1, .int (iN (p0))), (2, .int (iN (p1))), (3, .int (iN (p2))), (4, .int (iN (n)))]) hC dX5_thin_85 hl (k := 5) rfl (by decide) rfl (fun ls hl => ?_)
              refine lv_goto (tgt := 22) hC.1 hC.2.1 dX5_thin_88 (by decide) ?_
              exact ih22 n (j + 1) _ _ _ hR1 hx1 (ml_skip (by omega) hV1 (show (F_thin (V (p0).toNat) (V (p1).toNat) p2) (j).toNat = V ((p0).toNat) (j).toNat by simp only [F_thin]; split <;> omega)) (bl_skip (by omega) hbr1 (show (F_thin (V (p0).toNat) (V (p1).toNat) p2) (j).toNat = V ((p0).toNat) (j).toNat by simp only [F_thin]; split <;> omega)) _ _ _ (by omega) (by omega) (by omega) (by rw [stN_s (by omega) rfl, if_neg (fun q8 => by have e8 := q8.2; rw [show (F_thin (V (p0).toNat) (V (p1).toNat) p2) (j).toNat = V (p0).toNat (j).toNat by simp only [F_thin]; split <;> omega] at e8; exact q8.1 e8)]; omega) hw (lv_sub hl [1, 2, 3, 4, 5, 0] rfl)
  · replace hz_3r := (hz_3r.resolve_left (fun q9 => by have e9 := q9.1; omega)).2
    refine x_const hC dX5_thin_9 ?_
    exact x_iret hC hw dX5_thin_10 (by omega) (by omega) ⟨0, thk_2, rfl, by omega, Or.inr ⟨by omega, by omega, MGm.of hRk_2 hK⟩⟩
set_option maxHeartbeats 4000000 in
set_option maxRecDepth 100000 in
theorem c_X5_begin (l : Launch) (G : xG) {M : HM} {a va oa wa ya : Nat} {wk : Option Nat} {th : Int} {rfd : Int32} {br re la ha : Int} {kp kv : Int32} {qv qw : Nat → Nat} {fa fb : Nat → Option Nat} {V : BW} {O : OW} {fy : Nat → Option Nat} {Wv : VW} {wt : Option VT} {S : Nat → Bool} (hR : MGx G M a va oa wa ya wk th rfd br re la ha kp kv qv qw fa fb V O fy Wv wt S) {i : Nat} {fi : Nat → Int32} {ti : VT} (hIi : Its G M i fi ti) : xMet l G yX5_begin wsX5_begin 0 0 0 0 [.ref a, .ref i] M (fun r M1 => r = none ∧ xI5 G M M1 ∧ MGx G M1 a va oa wa ya (some i) th rfd 0 (-1) (-10000) (-10000) kp kv qv qw fa fb V O fy Wv (some ti) S) := by
  refine x_intro (cc := cX5_begin) (maxL := 2) (ret := none) (by decide +kernel) rfl (Nat.le_of_ble_eq_true rfl) ?_
  intro p e R s m args below meth c ls hRf hRc hRs hRl hC hw hl
  have hsc0 := hR.sc.1
  obtain ⟨htat_1, htbt_1, htct_1, htdt_1, htet_1⟩ := id hIi.2.1
  have holi := hR.or' hIi.2.1.1
  have hinX5 : ∀ w ∈ wsX50, w ∈ wsX5_begin := by decide +kernel
  have hl : lv_has ls 2 [(0, .ref a), (1, .ref i)] := hl
  refine lv_aload_n hC.1 hC.2.1 dX5_begin_0 rfl (lv_at hl 0 rfl) ?_
  refine lv_aload_n hC.1 hC.2.1 dX5_begin_1 rfl (lv_at hl 1 rfl) ?_
  refine x_put (fs2 := [.int (iN (th)), .int rfd, .ref va, .ref oa, .ref wa, .ref ya, .ref i, .int (iN (br)), .int (iN (re)), .int (iN (la)), .int (iN (ha)), .int kp, .int kv]) hC hw hR.1.1 rfl hinX5 tyX5 tyX5_ok nmX5 6 (by decide) (by decide +kernel) rfl rfl rfl (Nat.le_of_ble_eq_true rfl) rfl dX5_begin_2 (fun H locs hw => ?_)
  obtain ⟨M_2, hM_3⟩ : ∃ z, z = va_up M a (some (.inr (7, [.int (iN (th)), .int rfd, .ref va, .ref oa, .ref wa, .ref ya, .ref i, .int (iN (br)), .int (iN (re)), .int (iN (la)), .int (iN (ha)), .int kp, .int kv]))) := ⟨_, rfl⟩
  rw [← hM_3] at hw
  have hR_4 : MGx G M_2 a va oa wa ya (some i) th rfd br re la ha kp kv qv qw fa fb V O fy Wv (some ti) S := hR.obj hM_3 ⟨hR.sc.1, hR.sc.2.1, hR.sc.2.2.1, hR.sc.2.2.2.1, hR.sc.2.2.2.2⟩ (show ItO G _ (some i) (some ti) from ⟨_, hIi⟩)
  have h_5 := hIi.x5 (hR.obj5 hM_3)
  refine lv_aload_n hC.1 hC.2.1 dX5_begin_5 rfl (lv_at hl 0 rfl) ?_
  refine x_const hC dX5_begin_6 ?_
  refine x_put (fs2 := [.int (iN (th)), .int rfd, .ref va, .ref oa, .ref wa, .ref ya, .ref i, .int (iN (0)), .int (iN (re)), .int (iN (la)), .int (iN (ha)), .int kp, .int kv]) hC hw hR_4.1.1 rfl hinX5 tyX5 tyX5_ok nmX5 7 (by decide) (by decide +kernel) rfl rfl rfl (Nat.le_of_ble_eq_true rfl) rfl dX5_begin_7 (fun H locs hw => ?_)
  obtain ⟨M_6, hM_7⟩ : ∃ z, z = va_up M_2 a (some (.inr (7, [.int (iN (th)), .int rfd, .ref va, .ref oa, .ref wa, .ref ya, .ref i, .int (iN (0)), .int (iN (re)), .int (iN (la)), .int (iN (ha)), .int kp, .int kv]))) := ⟨_, rfl⟩
  rw [← hM_7] at hw
  have hR_8 : MGx G M_6 a va oa wa ya (some i) th rfd 0 re la ha kp kv qv qw fa fb V O fy Wv (some ti) S := hR_4.obj hM_7 ⟨hR_4.sc.1, (by omega), hR_4.sc.2.2.1, hR_4.sc.2.2.2.1, hR_4.sc.2.2.2.2⟩ hR_4.wk'
  have h_9 := h_5.x5 (hR_4.obj5 hM_7)
  refine lv_aload_n hC.1 hC.2.1 dX5_begin_10 rfl (lv_at hl 0 rfl) ?_
  refine x_const hC dX5_begin_11 ?_
  refine x_put (fs2 := [.int (iN (th)), .int rfd, .ref va, .ref oa, .ref wa, .ref ya, .ref i, .int (iN (0)), .int (iN ((-1))), .int (iN (la)), .int (iN (ha)), .int kp, .int kv]) hC hw hR_8.1.1 rfl hinX5 tyX5 tyX5_ok nmX5 8 (by decide) (by decide +kernel) rfl rfl rfl (Nat.le_of_ble_eq_true rfl) rfl dX5_begin_12 (fun H locs hw => ?_)
  obtain ⟨M_10, hM_11⟩ : ∃ z, z = va_up M_6 a (some (.inr (7, [.int (iN (th)), .int rfd, .ref va, .ref oa, .ref wa, .ref ya, .ref i, .int (iN (0)), .int (iN ((-1))), .int (iN (la)), .int (iN (ha)), .int kp, .int kv]))) := ⟨_, rfl⟩
  rw [← hM_11] at hw
  have hR_12 : MGx G M_10 a va oa wa ya (some i) th rfd 0 (-1) la ha kp kv qv qw fa fb V O fy Wv (some ti) S := hR_8.obj hM_11 ⟨hR_8.sc.1, hR_8.sc.2.1, (by omega), hR_8.sc.2.2.2.1, hR_8.sc.2.2.2.2⟩ hR_8.wk'
  have h_13 := h_9.x5 (hR_8.obj5 hM_11)
  refine lv_aload_n hC.1 hC.2.1 dX5_begin_15 rfl (lv_at hl 0 rfl) ?_
  refine x_sipush hC dX5_begin_16 (by decide +kernel) ?_
  refine x_put (fs2 := [.int (iN (th)), .int rfd, .ref va, .ref oa, .ref wa, .ref ya, .ref i, .int (iN (0)), .int (iN ((-1))), .int (iN ((-10000))), .int (iN (ha)), .int kp, .int kv]) hC hw hR_12.1.1 rfl hinX5 tyX5 tyX5_ok nmX5 9 (by decide) (by decide +kernel) rfl rfl rfl (Nat.le_of_ble_eq_true rfl) rfl dX5_begin_19 (fun H locs hw => ?_)
  obtain ⟨M_14, hM_15⟩ : ∃ z, z = va_up M_10 a (some (.inr (7, [.int (iN (th)), .int rfd, .ref va, .ref oa, .ref wa, .ref ya, .ref i, .int (iN (0)), .int (iN ((-1))), .int (iN ((-10000))), .int (iN (ha)), .int kp, .int kv]))) := ⟨_, rfl⟩
  rw [← hM_15] at hw
  have hR_16 : MGx G M_14 a va oa wa ya (some i) th rfd 0 (-1) (-10000) ha kp kv qv qw fa fb V O fy Wv (some ti) S := hR_12.obj hM_15 ⟨hR_12.sc.1, hR_12.sc.2.1, hR_12.sc.2.2.1, (by omega), hR_12.sc.2.2.2.2⟩ hR_12.wk'
  have h_17 := h_13.x5 (hR_12.obj5 hM_15)
  refine lv_aload_n hC.1 hC.2.1 dX5_begin_22 rfl (lv_at hl 0 rfl) ?_
  refine x_sipush hC dX5_begin_23 (by decide +kernel) ?_
  refine x_put (fs2 := [.int (iN (th)), .int rfd, .ref va, .ref oa, .ref wa, .ref ya, .ref i, .int (iN (0)), .int (iN ((-1))), .int (iN ((-10000))), .int (iN ((-10000))), .int kp, .int kv]) hC hw hR_16.1.1 rfl hinX5 tyX5 tyX5_ok nmX5 10 (by decide) (by decide +kernel) rfl rfl rfl (Nat.le_of_ble_eq_true rfl) rfl dX5_begin_26 (fun H locs hw => ?_)
  obtain ⟨M_18, hM_19⟩ : ∃ z, z = va_up M_14 a (some (.inr (7, [.int (iN (th)), .int rfd, .ref va, .ref oa, .ref wa, .ref ya, .ref i, .int (iN (0)), .int (iN ((-1))), .int (iN ((-10000))), .int (iN ((-10000))), .int kp, .int kv]))) := ⟨_, rfl⟩
  rw [← hM_19] at hw
  have hR_20 : MGx G M_18 a va oa wa ya (some i) th rfd 0 (-1) (-10000) (-10000) kp kv qv qw fa fb V O fy Wv (some ti) S := hR_16.obj hM_19 ⟨hR_16.sc.1, hR_16.sc.2.1, hR_16.sc.2.2.1, hR_16.sc.2.2.2.1, (by omega)⟩ hR_16.wk'
  have h_21 := h_17.x5 (hR_16.obj5 hM_19)
  exact x_vret hC hw dX5_begin_29 (by omega) (by omega) ⟨rfl, (xI5.tr (xI5.tr (xI5.tr (xI5.tr ((hR.obj5 hM_3)) ((hR_4.obj5 hM_7))) ((hR_8.obj5 hM_11))) ((hR_12.obj5 hM_15))) ((hR_16.obj5 hM_19))), hR_20⟩
set_option maxHeartbeats 4000000 in
set_option maxRecDepth 100000 in
theorem c_X5_begin0 (l : Launch) (G : xG) {M : HM} {a va oa wa ya : Nat} {wk : Option Nat} {th : Int} {rfd : Int32} {br re la ha : Int} {kp kv : Int32} {qv qw : Nat → Nat} {fa fb : Nat → Option Nat} {V : BW} {O : OW} {fy : Nat → Option Nat} {Wv : VW} {wt : Option VT} {S : Nat → Bool} (hR : MGx G M a va oa wa ya wk th rfd br re la ha kp kv qv qw fa fb V O fy Wv wt S) : xMet l G yX5_begin wsX5_begin 0 0 0 0 [.ref a, .null] M (fun r M1 => r = none ∧ xI5 G M M1 ∧ MGx G M1 a va oa wa ya none th rfd 0 (-1) (-10000) (-10000) kp kv qv qw fa fb V O fy Wv none S) := by
  refine x_intro (cc := cX5_begin) (maxL := 2) (ret := none) (by decide +kernel) rfl (Nat.le_of_ble_eq_true rfl) ?_
  intro p e R s m args below meth c ls hRf hRc hRs hRl hC hw hl
  have hsc0 := hR.sc.1
  have hinX5 : ∀ w ∈ wsX50, w ∈ wsX5_begin := by decide +kernel
  have hl : lv_has ls 2 [(0, .ref a), (1, .null)] := hl
  refine lv_aload_n hC.1 hC.2.1 dX5_begin_0 rfl (lv_at hl 0 rfl) ?_
  refine lv_aload_nN hC.1 hC.2.1 dX5_begin_1 rfl (lv_at hl 1 rfl) ?_
  refine x_put (fs2 := [.int (iN (th)), .int rfd, .ref va, .ref oa, .ref wa, .ref ya, .null, .int (iN (br)), .int (iN (re)), .int (iN (la)), .int (iN (ha)), .int kp, .int kv]) hC hw hR.1.1 rfl hinX5 tyX5 tyX5_ok nmX5 6 (by decide) (by decide +kernel) rfl rfl rfl (Nat.le_of_ble_eq_true rfl) rfl dX5_begin_2 (fun H locs hw => ?_)
  obtain ⟨M_1, hM_2⟩ : ∃ z, z = va_up M a (some (.inr (7, [.int (iN (th)), .int rfd, .ref va, .ref oa, .ref wa, .ref ya, .null, .int (iN (br)), .int (iN (re)), .int (iN (la)), .int (iN (ha)), .int kp, .int kv]))) := ⟨_, rfl⟩
  rw [← hM_2] at hw
  have hR_3 : MGx G M_1 a va oa wa ya none th rfd br re la ha kp kv qv qw fa fb V O fy Wv none S := hR.obj hM_2 ⟨hR.sc.1, hR.sc.2.1, hR.sc.2.2.1, hR.sc.2.2.2.1, hR.sc.2.2.2.2⟩ (show ItO G _ none none from trivial)
  refine lv_aload_n hC.1 hC.2.1 dX5_begin_5 rfl (lv_at hl 0 rfl) ?_
  refine x_const hC dX5_begin_6 ?_
  refine x_put (fs2 := [.int (iN (th)), .int rfd, .ref va, .ref oa, .ref wa, .ref ya, .null, .int (iN (0)), .int (iN (re)), .int (iN (la)), .int (iN (ha)), .int kp, .int kv]) hC hw hR_3.1.1 rfl hinX5 tyX5 tyX5_ok nmX5 7 (by decide) (by decide +kernel) rfl rfl rfl (Nat.le_of_ble_eq_true rfl) rfl dX5_begin_7 (fun H locs hw => ?_)
  obtain ⟨M_4, hM_5⟩ : ∃ z, z = va_up M_1 a (some (.inr (7, [.int (iN (th)), .int rfd, .ref va, .ref oa, .ref wa, .ref ya, .null, .int (iN (0)), .int (iN (re)), .int (iN (la)), .int (iN (ha)), .int kp, .int kv]))) := ⟨_, rfl⟩
  rw [← hM_5] at hw
  have hR_6 : MGx G M_4 a va oa wa ya none th rfd 0 re la ha kp kv qv qw fa fb V O fy Wv none S := hR_3.obj hM_5 ⟨hR_3.sc.1, (by omega), hR_3.sc.2.2.1, hR_3.sc.2.2.2.1, hR_3.sc.2.2.2.2⟩ hR_3.wk'
  refine lv_aload_n hC.1 hC.2.1 dX5_begin_10 rfl (lv_at hl 0 rfl) ?_
  refine x_const hC dX5_begin_11 ?_
  refine x_put (fs2 := [.int (iN (th)), .int rfd, .ref va, .ref oa, .ref wa, .ref ya, .null, .int (iN (0)), .int (iN ((-1))), .int (iN (la)), .int (iN (ha)), .int kp, .int kv]) hC hw hR_6.1.1 rfl hinX5 tyX5 tyX5_ok nmX5 8 (by decide) (by decide +kernel) rfl rfl rfl (Nat.le_of_ble_eq_true rfl) rfl dX5_begin_12 (fun H locs hw => ?_)
  obtain ⟨M_7, hM_8⟩ : ∃ z, z = va_up M_4 a (some (.inr (7, [.int (iN (th)), .int rfd, .ref va, .ref oa, .ref wa, .ref ya, .null, .int (iN (0)), .int (iN ((-1))), .int (iN (la)), .int (iN (ha)), .int kp, .int kv]))) := ⟨_, rfl⟩
  rw [← hM_8] at hw
  have hR_9 : MGx G M_7 a va oa wa ya none th rfd 0 (-1) la ha kp kv qv qw fa fb V O fy Wv none S := hR_6.obj hM_8 ⟨hR_6.sc.1, hR_6.sc.2.1, (by omega), hR_6.sc.2.2.2.1, hR_6.sc.2.2.2.2⟩ hR_6.wk'
  refine lv_aload_n hC.1 hC.2.1 dX5_begin_15 rfl (lv_at hl 0 rfl) ?_
  refine x_sipush hC dX5_begin_16 (by decide +kernel) ?_
  refine x_put (fs2 := [.int (iN (th)), .int rfd, .ref va, .ref oa, .ref wa, .ref ya, .null, .int (iN (0)), .int (iN ((-1))), .int (iN ((-10000))), .int (iN (ha)), .int kp, .int kv]) hC hw hR_9.1.1 rfl hinX5 tyX5 tyX5_ok nmX5 9 (by decide) (by decide +kernel) rfl rfl rfl (Nat.le_of_ble_eq_true rfl) rfl dX5_begin_19 (fun H locs hw => ?_)
  obtain ⟨M_10, hM_11⟩ : ∃ z, z = va_up M_7 a (some (.inr (7, [.int (iN (th)), .int rfd, .ref va, .ref oa, .ref wa, .ref ya, .null, .int (iN (0)), .int (iN ((-1))), .int (iN ((-10000))), .int (iN (ha)), .int kp, .int kv]))) := ⟨_, rfl⟩
  rw [← hM_11] at hw
  have hR_12 : MGx G M_10 a va oa wa ya none th rfd 0 (-1) (-10000) ha kp kv qv qw fa fb V O fy Wv none S := hR_9.obj hM_11 ⟨hR_9.sc.1, hR_9.sc.2.1, hR_9.sc.2.2.1, (by omega), hR_9.sc.2.2.2.2⟩ hR_9.wk'
  refine lv_aload_n hC.1 hC.2.1 dX5_begin_22 rfl (lv_at hl 0 rfl) ?_
  refine x_sipush hC dX5_begin_23 (by decide +kernel) ?_
  refine x_put (fs2 := [.int (iN (th)), .int rfd, .ref va, .ref oa, .ref wa, .ref ya, .null, .int (iN (0)), .int (iN ((-1))), .int (iN ((-10000))), .int (iN ((-10000))), .int kp, .int kv]) hC hw hR_12.1.1 rfl hinX5 tyX5 tyX5_ok nmX5 10 (by decide) (by decide +kernel) rfl rfl rfl (Nat.le_of_ble_eq_true rfl) rfl dX5_begin_26 (fun H locs hw => ?_)
  obtain ⟨M_13, hM_14⟩ : ∃ z, z = va_up M_10 a (some (.inr (7, [.int (iN (th)), .int rfd, .ref va, .ref oa, .ref wa, .ref ya, .null, .int (iN (0)), .int (iN ((-1))), .int (iN ((-10000))), .int (iN ((-10000))), .int kp, .int kv]))) := ⟨_, rfl⟩
  rw [← hM_14] at hw
  have hR_15 : MGx G M_13 a va oa wa ya none th rfd 0 (-1) (-10000) (-10000) kp kv qv qw fa fb V O fy Wv none S := hR_12.obj hM_14 ⟨hR_12.sc.1, hR_12.sc.2.1, hR_12.sc.2.2.1, hR_12.sc.2.2.2.1, (by omega)⟩ hR_12.wk'
  exact x_vret hC hw dX5_begin_29 (by omega) (by omega) ⟨rfl, (xI5.tr (xI5.tr (xI5.tr (xI5.tr ((hR.obj5 hM_2)) ((hR_3.obj5 hM_5))) ((hR_6.obj5 hM_8))) ((hR_9.obj5 hM_11))) ((hR_12.obj5 hM_14))), hR_15⟩
set_option maxHeartbeats 4000000 in
set_option maxRecDepth 100000 in
theorem c_X5_free (l : Launch) (G : xG) {M : HM} {a va oa wa ya : Nat} {wk : Option Nat} {th : Int} {rfd : Int32} {br re la ha : Int} {kp kv : Int32} {qv qw : Nat → Nat} {fa fb : Nat → Option Nat} {V : BW} {O : OW} {fy : Nat → Option Nat} {Wv : VW} {wt : Option VT} {S : Nat → Bool} (hR : MGx G M a va oa wa ya wk th rfd br re la ha kp kv qv qw fa fb V O fy Wv wt S) : xMet l G yX5_free wsX5_free 0 0 0 0 [.ref a] M (fun r M1 => ∃ z : Int, r = some (.int (iN z)) ∧ M1 = M ∧ (z = -10000 ∨ (0 ≤ z ∧ z ≤ 3)) ∧ ((frN Wv < 4 ∧ z = ((frN Wv : Nat) : Int)) ∨ (frN Wv = 4 ∧ z = -10000))) := by
  refine x_intro (cc := cX5_free) (maxL := 2) (ret := (some .int)) (by decide +kernel) rfl (Nat.le_of_ble_eq_true rfl) ?_
  intro p e R s m args below meth c ls hRf hRc hRs hRl hC hw hl
  have hsc0 := hR.sc.1
  have hinX5 : ∀ w ∈ wsX50, w ∈ wsX5_free := by decide +kernel
  have hl : lv_has ls 2 [(0, .ref a)] := hl
  refine x_const hC dX5_free_0 ?_
  refine lv_istore_n (lv' := [(1, .int (iN (0))), (0, .ref a)]) hC.1 hC.2.1 dX5_free_1 rfl hl (by decide) rfl (fun ls hl => ?_)
  suffices hloop2 : ∀ (n9 : Nat) (j : Int) (H : Heap) (locs : List Loc) (ls : Array Slot), (hmu : (4 - j).toNat < n9) → (hi0 : 0 ≤ j ∧ j ≤ 4) → (hi2 : ∀ i : Nat, i < j.toNat → Wv i ≠ none) → xD G (xA M s.heap.size) s M H locs → lv_has ls 2 [(0, .ref a), (1, .int (iN (j)))] → W p l e R s m args below meth c H locs _ _ _ (F0 m 2 ls []) by
    exact hloop2 _ 0  _ _ _ (Nat.lt_succ_self _) (by omega) (fun i9 hi9 => absurd hi9 (by omega)) hw (lv_sub hl [1, 0] rfl)
  intro n9
  induction n9 with
  | zero => intro j  H locs ls hmu; exact absurd hmu (Nat.not_lt_zero _)
  | succ n9 ih2 =>
    intro j  H locs ls hmu hi0 hi2 hw hl
    refine lv_iload_n hC.1 hC.2.1 dX5_free_2 rfl (lv_at hl 1 rfl) ?_
    refine x_const hC dX5_free_3 ?_
    refine x_icmp_ge (tgt := 24) hC ⟨by omega, by omega⟩ ⟨by omega, by omega⟩ dX5_free_4 (by decide) (fun c_1 => ?_) (fun c_1 => ?_)
    · refine x_sipush hC dX5_free_24 (by decide +kernel) ?_
      exact x_iret hC hw dX5_free_27 (by omega) (by omega) ⟨(-10000), rfl, rfl, by omega, Or.inr ⟨frN_no (fun i9 hi9 => hi2 i9 (by omega)), rfl⟩⟩
    · refine lv_aload_n hC.1 hC.2.1 dX5_free_7 rfl (lv_at hl 0 rfl) ?_
      refine x_get hC hw hR.1.1 rfl hinX5 5 (by decide) (by decide +kernel) rfl dX5_free_8 ?_
      refine lv_iload_n hC.1 hC.2.1 dX5_free_11 rfl (lv_at hl 1 rfl) ?_
      refine x_ald4 hC hw hR.1.2.2.2.2.1 (by omega) (by omega) (by omega) dX5_free_12 ?_
      rcases hy_3 : fy ((j).toNat) with _ | y_2
      · have hnhy_3 : Wv ((j).toNat) = none := (hR.vw (show (j).toNat < 4 by omega)).nil hy_3
        have hohy_3 := opN_none hnhy_3
        show W p l e R s m args below meth c _ _ _ _ _ (F0 m 13 ls [.null])
        refine lv_ifnonnullN hC.1 hC.2.1 dX5_free_13 ?_
        refine lv_iload_n hC.1 hC.2.1 dX5_free_16 rfl (lv_at hl 1 rfl) ?_
        exact x_iret hC hw dX5_free_17 (by omega) (by omega) ⟨j, rfl, rfl, by omega, Or.inl ⟨by have e9 := frN_at (j := (j).toNat) (by omega) hnhy_3 (fun i9 hi9 => hi2 i9 (by omega)); omega, by have e9 := frN_at (j := (j).toNat) (by omega) hnhy_3 (fun i9 hi9 => hi2 i9 (by omega)); omega⟩⟩
      · obtain ⟨ti_4, fi_4, hui_4, hIi_4⟩ := (hR.vw (show (j).toNat < 4 by omega)).yes hy_3
        obtain ⟨htat_5, htbt_5, htct_5, htdt_5, htet_5⟩ := id hIi_4.2.1
        have hohy_3 := opN_some hui_4
        show W p l e R s m args below meth c _ _ _ _ _ (F0 m 13 ls [.ref y_2])
        refine lv_ifnonnull (tgt := 18) hC.1 hC.2.1 dX5_free_13 (by decide) ?_
        refine x_iinc (lv' := [(1, .int (iN (j + 1))), (0, .ref a)]) hC dX5_free_18 hl (k := 1) rfl (by decide) rfl (fun ls hl => ?_)
        refine lv_goto (tgt := 2) hC.1 hC.2.1 dX5_free_21 (by decide) ?_
        exact ih2 (j + 1)  _ _ _ (by omega) (by omega) (fun i9 hi9 => by by_cases e9 : i9 = (j).toNat; (· rw [e9, hui_4]; exact fun q9 => nomatch q9); (· exact hi2 i9 (by omega))) hw (lv_sub hl [1, 0] rfl)
set_option maxHeartbeats 4000000 in
set_option maxRecDepth 100000 in
theorem c_X5_open (l : Launch) (G : xG) {M : HM} {a va oa wa ya : Nat} {wk : Option Nat} {th : Int} {rfd : Int32} {br re la ha : Int} {kp kv : Int32} {qv qw : Nat → Nat} {fa fb : Nat → Option Nat} {V : BW} {O : OW} {fy : Nat → Option Nat} {Wv : VW} {wt : Option VT} {S : Nat → Bool} (hR : MGx G M a va oa wa ya wk th rfd br re la ha kp kv qv qw fa fb V O fy Wv wt S) {i : Nat} {fi : Nat → Int32} {ti : VT} (hIi : Its G M i fi ti) (hof : frN Wv < 4) : xMet l G yX5_open wsX5_open 1 21 0 0 [.ref a, .ref i] M (fun r M1 => ∃ (z : Int) (fy1 : Nat → Option Nat) (Wv1 : VW), r = some (.int (iN z)) ∧ (0 ≤ z ∧ z ≤ 3) ∧ z = ((frN Wv : Nat) : Int) ∧ Wv1 = upW Wv (frN Wv) (some ti) ∧ xI5 G M M1 ∧ MGx G M1 a va oa wa ya wk th rfd br re la ha kp kv qv qw fa fb V O fy1 Wv1 wt S) := by
  refine x_intro (cc := cX5_open) (maxL := 3) (ret := (some .int)) (by decide +kernel) rfl (Nat.le_of_ble_eq_true rfl) ?_
  intro p e R s m args below meth c ls hRf hRc hRs hRl hC hw hl
  have hsc0 := hR.sc.1
  obtain ⟨htat_1, htbt_1, htct_1, htdt_1, htet_1⟩ := id hIi.2.1
  have holi := hR.or' hIi.2.1.1
  have hinX5 : ∀ w ∈ wsX50, w ∈ wsX5_open := by decide +kernel
  have hl : lv_has ls 3 [(0, .ref a), (1, .ref i)] := hl
  refine lv_aload_n hC.1 hC.2.1 dX5_open_0 rfl (lv_at hl 0 rfl) ?_
  refine x_callV hC hw (lv_size hl) (c_X5_free l G hR) gX5_open_X5_free rfl dv_X5_free hR.1.1 rfl rfl (Nat.le_of_ble_eq_true rfl) (by rw [hRf]; decide) (by rw [hRl]; decide) (by omega) (by omega) dX5_open_1 (fun r9 M_2 H locs hq hw => ?_)
  obtain ⟨z_3, rfl, hM9, hz_3a, hz_3f⟩ := hq
  rw [hM9] at hw
  show W p l e R s m args below meth c H locs _ _ _ (F0 m 4 ls [.int (iN (z_3))])
  refine lv_istore_n (lv' := [(2, .int (iN (z_3))), (0, .ref a), (1, .ref i)]) hC.1 hC.2.1 dX5_open_4 rfl hl (by decide) rfl (fun ls hl => ?_)
  refine lv_aload_n hC.1 hC.2.1 dX5_open_5 rfl (lv_at hl 1 rfl) ?_
  refine x_get hC hw hR.1.1 rfl hinX5 5 (by decide) (by decide +kernel) rfl dX5_open_6 ?_
  refine lv_iload_n hC.1 hC.2.1 dX5_open_9 rfl (lv_at hl 0 rfl) ?_
  refine lv_aload_n hC.1 hC.2.1 dX5_open_10 rfl (lv_at hl 2 rfl) ?_
  refine x_ast4 hC hw hR.1.2.2.2.2.1 hIi.1 (by omega) (by omega) (by omega) dX5_open_11 (fun H locs hw => ?_)
  obtain ⟨M_4, hM_5⟩ : ∃ z, z = va_up M ya (some (.inl (G.2 4, 4, .inr (.inr (.inr (.inr (va_up fy (z_3).toNat (some i)))))))) := ⟨_, rfl⟩
  rw [← hM_5] at hw
  have hR_6 := hR.vws (W2 := (upW Wv ((z_3).toNat) (some ti))) hM_5 (fun j9 hj => by by_cases e9 : j9 = (z_3).toNat; (· subst e9; rw [va_up_self, upW_s]; exact ⟨_, hIi⟩); (· rw [va_up_ne _ _ e9, upW_n _ _ e9]; exact hR.vw hj))
  obtain ⟨fy_7, hfy_7⟩ : ∃ z, z = (va_up fy (z_3).toNat (some i)) := ⟨_, rfl⟩
  rw [← hfy_7] at hR_6
  obtain ⟨Wv_8, hWv_8⟩ : ∃ z, z = (upW Wv ((z_3).toNat) (some ti)) := ⟨_, rfl⟩
  rw [← hWv_8] at hR_6
  have h_9 := hIi.x5 (hR.vws5 hM_5)
  refine lv_iload_n hC.1 hC.2.1 dX5_open_12 rfl (lv_at hl 0 rfl) ?_
  exact x_iret hC hw dX5_open_13 (by omega) (by omega) ⟨z_3, _, _, rfl, by omega, by omega, (by rw [hWv_8, show (z_3).toNat = frN Wv by omega]), ((hR.vws5 hM_5)), hR_6⟩
set_option maxHeartbeats 4000000 in
set_option maxRecDepth 100000 in
theorem c_X5_head (l : Launch) (G : xG) {M : HM} {a va oa wa ya : Nat} {wk : Option Nat} {th : Int} {rfd : Int32} {br re la ha : Int} {kp kv : Int32} {qv qw : Nat → Nat} {fa fb : Nat → Option Nat} {V : BW} {O : OW} {fy : Nat → Option Nat} {Wv : VW} {wt : Option VT} {S : Nat → Bool} (hR : MGx G M a va oa wa ya wk th rfd br re la ha kp kv qv qw fa fb V O fy Wv wt S) {K : WA} (hK : abM O wt br re la ha K) {p0 : Int} (hp0 : -2147483648 ≤ p0 ∧ p0 ≤ 2147483647) {p1 : Int} (hp1 : -2147483648 ≤ p1 ∧ p1 ≤ 2147483647) {p2 : Int} (hp2 : -2147483648 ≤ p2 ∧ p2 ≤ 2147483647) (hb2 : p2 = 0 ∨ p2 = 1) : xMet l G yX5_head wsX5_head 3 66 1 5 [.ref a, .int (iN (p0)), .int (iN (p1)), .int (iN (p2))] M (fun r M1 => ∃ (z th1 : Int), r = some (.int (iN z)) ∧ (-2147483648 ≤ z ∧ z ≤ 2147483647) ∧ ((th1 = 0 ∧ ((0 ≤ p0 ∧ p0 ≤ 2) ∧ (0 ≤ p1 ∧ p1 ≤ 99) ∧ (frN Wv < 4)) ∧ z = A_head (O, V, Wv, K, kp, kv, rfd) p0 p1 p2 ∧ MGm G M1 a S th1 (S_head (O, V, Wv, K, kp, kv, rfd) p0 p1 p2)) ∨ (th1 ≠ 0 ∧ ((th1 = 1 ∧ ¬ (0 ≤ p0 ∧ p0 ≤ 2)) ∨ (th1 = 2 ∧ (0 ≤ p0 ∧ p0 ≤ 2) ∧ ¬ (0 ≤ p1 ∧ p1 ≤ 99)) ∨ (th1 = 3 ∧ (0 ≤ p0 ∧ p0 ≤ 2) ∧ (0 ≤ p1 ∧ p1 ≤ 99) ∧ ¬ (frN Wv < 4))) ∧ MGm G M1 a S th1 (O, V, Wv, K, kp, kv, rfd)))) := by
  refine x_intro (cc := cX5_head) (maxL := 4) (ret := (some .int)) (by decide +kernel) rfl (Nat.le_of_ble_eq_true rfl) ?_
  intro p e R s m args below meth c ls hRf hRc hRs hRl hC hw hl
  have hsc0 := hR.sc.1
  have hl : lv_has ls 4 [(0, .ref a), (1, .int (iN (p0))), (2, .int (iN (p1))), (3, .int (iN (p2)))] := hl
  refine lv_aload_n hC.1 hC.2.1 dX5_head_0 rfl (lv_at hl 0 rfl) ?_
  refine lv_iload_n hC.1 hC.2.1 dX5_head_1 rfl (lv_at hl 1 rfl) ?_
  refine lv_iload_n hC.1 hC.2.1 dX5_head_2 rfl (lv_at hl 2 rfl) ?_
  refine x_callV hC hw (lv_size hl) (c_X5_isBad l G hR (p0 := p0) (by omega) (p1 := p1) (by omega)) gX5_head_X5_isBad rfl dv_X5_isBad hR.1.1 rfl rfl (Nat.le_of_ble_eq_true rfl) (by rw [hRf]; decide) (by rw [hRl]; decide) (by omega) (by omega) dX5_head_3 (fun r9 M_1 H locs hq hw => ?_)
  obtain ⟨z_3, thk_2, rfl, hz_3r, hx5k_2, hRk_2⟩ := hq
  have hsck_2 := hRk_2.sc.1
  show W p l e R s m args below meth c H locs _ _ _ (F0 m 6 ls [.int (iN (z_3))])
  refine x_if_ne (tgt := 32) hC ⟨by omega, by omega⟩ dX5_head_6 (by decide) (fun c_4 => ?_) (fun c_4 => ?_)
  · replace hz_3r := (hz_3r.resolve_left (fun q9 => by have e9 := q9.1; omega)).2
    refine x_const hC dX5_head_32 ?_
    refine lv_goto (tgt := 68) hC.1 hC.2.1 dX5_head_33 (by decide) ?_
    exact x_iret hC hw dX5_head_68 (by omega) (by omega) ⟨0, thk_2, rfl, by omega, Or.inr ⟨by omega, by omega, MGm.of hRk_2 hK⟩⟩
  · replace hz_3r := (hz_3r.resolve_right (fun q9 => by have e9 := q9.1; omega)).2
    refine lv_aload_n hC.1 hC.2.1 dX5_head_9 rfl (lv_at hl 0 rfl) ?_
    refine lv_aload_n hC.1 hC.2.1 dX5_head_10 rfl (lv_at hl 0 rfl) ?_
    refine x_callV hC hw (lv_size hl) (c_X5_free l G hRk_2) gX5_head_X5_free rfl dv_X5_free hRk_2.1.1 rfl rfl (Nat.le_of_ble_eq_true rfl) (by rw [hRf]; decide) (by rw [hRl]; decide) (by omega) (by omega) dX5_head_11 (fun r9 M_5 H locs hq hw => ?_)
    obtain ⟨z_6, rfl, hM9, hz_6a, hz_6f⟩ := hq
    rw [hM9] at hw
    show W p l e R s m args below meth c H locs _ _ _ (F0 m 14 ls [.int (iN (z_6)), .ref a])
    refine x_sipush hC dX5_head_14 (by decide +kernel) ?_
    refine x_icmp_ne (tgt := 24) hC ⟨by omega, by omega⟩ ⟨by omega, by omega⟩ dX5_head_17 (by decide) (fun c_7 => ?_) (fun c_7 => ?_)
    · refine x_const hC dX5_head_24 ?_
      refine x_const hC dX5_head_25 ?_
      refine x_callV hC hw (lv_size hl) (c_X5_refuse l G hRk_2 (p0 := 0) (by omega) (p1 := 3) (by omega) (by omega)) gX5_head_X5_refuse rfl dv_X5_refuse hRk_2.1.1 rfl rfl (Nat.le_of_ble_eq_true rfl) (by rw [hRf]; decide) (by rw [hRl]; decide) (by omega) (by omega) dX5_head_26 (fun r9 M_8 H locs hq hw => ?_)
      obtain ⟨z_10, thk_9, rfl, hz_10r, hx5k_9, hRk_9⟩ := hq
      have hsck_9 := hRk_9.sc.1
      show W p l e R s m args below meth c H locs _ _ _ (F0 m 29 ls [.int (iN (z_10))])
      refine x_if_eq (tgt := 36) hC ⟨by omega, by omega⟩ dX5_head_29 (by decide) (fun c_11 => ?_) (fun c_11 => ?_)
      · replace hz_10r := (hz_10r.resolve_right (fun q9 => by have e9 := q9.1; omega)).2
        refine lv_aload_n hC.1 hC.2.1 dX5_head_36 rfl (lv_at hl 0 rfl) ?_
        refine x_const hC dX5_head_37 ?_
        refine x_newI hC hw (by decide +kernel) 5 rfl (by decide) (by omega) (by omega) dX5_head_38 (fun q_12 H hq_13 hw => ?_)
        obtain ⟨M_14, hM_15⟩ : ∃ z, z = va_up M_8 q_12 (some (.inl (G.2 1, 5, .inl (fun _ => 0)))) := ⟨_, rfl⟩
        rw [← hM_15] at hw
        have hx_16 : xExt M_8 M_14 := by rw [hM_15]; exact xExt.new hq_13
        have hA_17 : M_14 q_12 = some (.inl (G.2 1, 5, .inl (fun _ => 0))) := by rw [hM_15, va_up_self]
        have h_18 := hRk_9.ext hx_16
        refine lv_dup hC.1 hC.2.1 dX5_head_40 rfl ?_
        refine x_const hC dX5_head_41 ?_
        refine lv_iload_n hC.1 hC.2.1 dX5_head_42 rfl (lv_at hl 1 rfl) ?_
        refine x_iast hC hw hA_17 (by omega) (by omega) (by omega) dX5_head_43 (fun H locs hw => ?_)
        obtain ⟨M_19, hM_20⟩ : ∃ z, z = va_up M_14 q_12 (some (.inl (G.2 1, 5, .inl (upd (fun _ => 0) (0 : Int).toNat (iN (p0)))))) := ⟨_, rfl⟩
        rw [← hM_20] at hw
        have hA_21 : M_19 q_12 = some (.inl (G.2 1, 5, .inl (upd (fun _ => 0) (0 : Int).toNat (iN (p0))))) := by rw [hM_20, va_up_self]
        have hx_22 := xExt.upd hq_13 hx_16 hM_20
        have h_23 := hRk_9.ext hx_22
        refine lv_dup hC.1 hC.2.1 dX5_head_44 rfl ?_
        refine x_const hC dX5_head_45 ?_
        refine x_sipush hC dX5_head_46 (by decide +kernel) ?_
        refine x_iast hC hw hA_21 (by omega) (by omega) (by omega) dX5_head_49 (fun H locs hw => ?_)
        obtain ⟨M_24, hM_25⟩ : ∃ z, z = va_up M_19 q_12 (some (.inl (G.2 1, 5, .inl (upd (upd (fun _ => 0) (0 : Int).toNat (iN (p0))) (1 : Int).toNat (iN ((-10000))))))) := ⟨_, rfl⟩
        rw [← hM_25] at hw
        have hA_26 : M_24 q_12 = some (.inl (G.2 1, 5, .inl (upd (upd (fun _ => 0) (0 : Int).toNat (iN (p0))) (1 : Int).toNat (iN ((-10000)))))) := by rw [hM_25, va_up_self]
        have hx_27 := xExt.upd hq_13 hx_22 hM_25
        have h_28 := hRk_9.ext hx_27
        refine lv_dup hC.1 hC.2.1 dX5_head_50 rfl ?_
        refine x_const hC dX5_head_51 ?_
        refine x_const hC dX5_head_52 ?_
        refine x_iast hC hw hA_26 (by omega) (by omega) (by omega) dX5_head_53 (fun H locs hw => ?_)
        obtain ⟨M_29, hM_30⟩ : ∃ z, z = va_up M_24 q_12 (some (.inl (G.2 1, 5, .inl (upd (upd (upd (fun _ => 0) (0 : Int).toNat (iN (p0))) (1 : Int).toNat (iN ((-10000)))) (2 : Int).toNat (iN (0)))))) := ⟨_, rfl⟩
        rw [← hM_30] at hw
        have hA_31 : M_29 q_12 = some (.inl (G.2 1, 5, .inl (upd (upd (upd (fun _ => 0) (0 : Int).toNat (iN (p0))) (1 : Int).toNat (iN ((-10000)))) (2 : Int).toNat (iN (0))))) := by rw [hM_30, va_up_self]
        have hx_32 := xExt.upd hq_13 hx_27 hM_30
        have h_33 := hRk_9.ext hx_32
        refine lv_dup hC.1 hC.2.1 dX5_head_54 rfl ?_
        refine x_const hC dX5_head_55 ?_
        refine lv_iload_n hC.1 hC.2.1 dX5_head_56 rfl (lv_at hl 2 rfl) ?_
        refine x_iast hC hw hA_31 (by omega) (by omega) (by omega) dX5_head_57 (fun H locs hw => ?_)
        obtain ⟨M_34, hM_35⟩ : ∃ z, z = va_up M_29 q_12 (some (.inl (G.2 1, 5, .inl (upd (upd (upd (upd (fun _ => 0) (0 : Int).toNat (iN (p0))) (1 : Int).toNat (iN ((-10000)))) (2 : Int).toNat (iN (0))) (3 : Int).toNat (iN (p1)))))) := ⟨_, rfl⟩
        rw [← hM_35] at hw
        have hA_36 : M_34 q_12 = some (.inl (G.2 1, 5, .inl (upd (upd (upd (upd (fun _ => 0) (0 : Int).toNat (iN (p0))) (1 : Int).toNat (iN ((-10000)))) (2 : Int).toNat (iN (0))) (3 : Int).toNat (iN (p1))))) := by rw [hM_35, va_up_self]
        have hx_37 := xExt.upd hq_13 hx_32 hM_35
        have h_38 := hRk_9.ext hx_37
        refine lv_dup hC.1 hC.2.1 dX5_head_58 rfl ?_
        refine x_const hC dX5_head_59 ?_
        refine lv_iload_n hC.1 hC.2.1 dX5_head_60 rfl (lv_at hl 3 rfl) ?_
        refine x_callS hC hw (lv_size hl) (c_X5_one l G (M := M_34) (p0 := p2) (by omega)) gX5_head_X5_one rfl dv_X5_one_s rfl (Nat.le_of_ble_eq_true rfl) (by rw [hRf]; decide) (by rw [hRl]; decide) (by omega) (by omega) dX5_head_61 (fun r9 M_39 H locs hq hw => ?_)
        obtain ⟨z_40, rfl, hM9, hz_40a, hz_40b⟩ := hq
        rw [hM9] at hw
        show W p l e R s m args below meth c H locs _ _ _ (F0 m 64 ls [.int (iN (z_40)), .int (iN (4)), .ref q_12, .ref q_12, .ref a])
        refine x_iast hC hw hA_36 (by omega) (by omega) (by omega) dX5_head_64 (fun H locs hw => ?_)
        obtain ⟨M_41, hM_42⟩ : ∃ z, z = va_up M_34 q_12 (some (.inl (G.2 1, 5, .inl (upd (upd (upd (upd (upd (fun _ => 0) (0 : Int).toNat (iN (p0))) (1 : Int).toNat (iN ((-10000)))) (2 : Int).toNat (iN (0))) (3 : Int).toNat (iN (p1))) (4 : Int).toNat (iN (z_40)))))) := ⟨_, rfl⟩
        rw [← hM_42] at hw
        have hA_43 : M_41 q_12 = some (.inl (G.2 1, 5, .inl (upd (upd (upd (upd (upd (fun _ => 0) (0 : Int).toNat (iN (p0))) (1 : Int).toNat (iN ((-10000)))) (2 : Int).toNat (iN (0))) (3 : Int).toNat (iN (p1))) (4 : Int).toNat (iN (z_40))))) := by rw [hM_42, va_up_self]
        have hx_44 := xExt.upd hq_13 hx_37 hM_42
        have h_45 := hRk_9.ext hx_44
        have hI_46 : Its G M_41 q_12 (upd (upd (upd (upd (upd (fun _ => 0) (0 : Int).toNat (iN (p0))) (1 : Int).toNat (iN ((-10000)))) (2 : Int).toNat (iN (0))) (3 : Int).toNat (iN (p1))) (4 : Int).toNat (iN (z_40))) ((p0).toNat, (-10000), p1, 0, p2) := ⟨hA_43, ⟨(show (p0).toNat < 3 by omega), (show (-10000) = -10000 ∨ (0 ≤ (-10000) ∧ (-10000) ≤ 99) by omega), (show p1 = -10000 ∨ (0 ≤ p1 ∧ p1 ≤ 99) by omega), (show 0 = 0 ∨ 0 = 1 by omega), (show p2 = 0 ∨ p2 = 1 by omega)⟩, (show iN (p0) = iN ((((p0).toNat : Nat) : Int)) from congrArg iN (by omega)), rfl, rfl, rfl, (show iN (z_40) = iN (p2) from congrArg iN (by omega))⟩
        refine x_callV hC hw (lv_size hl) (c_X5_open l G h_45 hI_46 (by omega)) gX5_head_X5_open rfl dv_X5_open h_45.1.1 rfl rfl (Nat.le_of_ble_eq_true rfl) (by rw [hRf]; decide) (by rw [hRl]; decide) (by omega) (by omega) dX5_head_65 (fun r9 M_47 H locs hq hw => ?_)
        obtain ⟨z_49, fyk_48, Wvk_48, rfl, hz_49a, hz_49f, he0k_48, hx5k_48, hRk_48⟩ := hq
        have h_50 := hI_46.x5 hx5k_48
        have hsck_48 := hRk_48.sc.1
        show W p l e R s m args below meth c H locs _ _ _ (F0 m 68 ls [.int (iN (z_49))])
        exact x_iret hC hw dX5_head_68 (by omega) (by omega) ⟨z_49, thk_9, rfl, by omega, Or.inl ⟨by omega, by first | trivial | omega, hz_49f, (by have e9 := hRk_48; rw [he0k_48] at e9; exact MGm.of e9 hK)⟩⟩
      · replace hz_10r := (hz_10r.resolve_left (fun q9 => by have e9 := q9.1; omega)).2
        refine x_const hC dX5_head_32 ?_
        refine lv_goto (tgt := 68) hC.1 hC.2.1 dX5_head_33 (by decide) ?_
        exact x_iret hC hw dX5_head_68 (by omega) (by omega) ⟨0, thk_9, rfl, by omega, Or.inr ⟨by omega, by omega, MGm.of hRk_9 hK⟩⟩
    · refine x_const hC dX5_head_20 ?_
      refine lv_goto (tgt := 25) hC.1 hC.2.1 dX5_head_21 (by decide) ?_
      refine x_const hC dX5_head_25 ?_
      refine x_callV hC hw (lv_size hl) (c_X5_refuse l G hRk_2 (p0 := 1) (by omega) (p1 := 3) (by omega) (by omega)) gX5_head_X5_refuse rfl dv_X5_refuse hRk_2.1.1 rfl rfl (Nat.le_of_ble_eq_true rfl) (by rw [hRf]; decide) (by rw [hRl]; decide) (by omega) (by omega) dX5_head_26 (fun r9 M_51 H locs hq hw => ?_)
      obtain ⟨z_53, thk_52, rfl, hz_53r, hx5k_52, hRk_52⟩ := hq
      have hsck_52 := hRk_52.sc.1
      show W p l e R s m args below meth c H locs _ _ _ (F0 m 29 ls [.int (iN (z_53))])
      refine x_if_eq (tgt := 36) hC ⟨by omega, by omega⟩ dX5_head_29 (by decide) (fun c_54 => ?_) (fun c_54 => ?_)
      · replace hz_53r := (hz_53r.resolve_right (fun q9 => by have e9 := q9.1; omega)).2
        refine lv_aload_n hC.1 hC.2.1 dX5_head_36 rfl (lv_at hl 0 rfl) ?_
        refine x_const hC dX5_head_37 ?_
        refine x_newI hC hw (by decide +kernel) 5 rfl (by decide) (by omega) (by omega) dX5_head_38 (fun q_55 H hq_56 hw => ?_)
        obtain ⟨M_57, hM_58⟩ : ∃ z, z = va_up M_51 q_55 (some (.inl (G.2 1, 5, .inl (fun _ => 0)))) := ⟨_, rfl⟩
        rw [← hM_58] at hw
        have hx_59 : xExt M_51 M_57 := by rw [hM_58]; exact xExt.new hq_56
        have hA_60 : M_57 q_55 = some (.inl (G.2 1, 5, .inl (fun _ => 0))) := by rw [hM_58, va_up_self]
        have h_61 := hRk_52.ext hx_59
        refine lv_dup hC.1 hC.2.1 dX5_head_40 rfl ?_
        refine x_const hC dX5_head_41 ?_
        refine lv_iload_n hC.1 hC.2.1 dX5_head_42 rfl (lv_at hl 1 rfl) ?_
        refine x_iast hC hw hA_60 (by omega) (by omega) (by omega) dX5_head_43 (fun H locs hw => ?_)
        obtain ⟨M_62, hM_63⟩ : ∃ z, z = va_up M_57 q_55 (some (.inl (G.2 1, 5, .inl (upd (fun _ => 0) (0 : Int).toNat (iN (p0)))))) := ⟨_, rfl⟩
        rw [← hM_63] at hw
        have hA_64 : M_62 q_55 = some (.inl (G.2 1, 5, .inl (upd (fun _ => 0) (0 : Int).toNat (iN (p0))))) := by rw [hM_63, va_up_self]
        have hx_65 := xExt.upd hq_56 hx_59 hM_63
        have h_66 := hRk_52.ext hx_65
        refine lv_dup hC.1 hC.2.1 dX5_head_44 rfl ?_
        refine x_const hC dX5_head_45 ?_
        refine x_sipush hC dX5_head_46 (by decide +kernel) ?_
        refine x_iast hC hw hA_64 (by omega) (by omega) (by omega) dX5_head_49 (fun H locs hw => ?_)
        obtain ⟨M_67, hM_68⟩ : ∃ z, z = va_up M_62 q_55 (some (.inl (G.2 1, 5, .inl (upd (upd (fun _ => 0) (0 : Int).toNat (iN (p0))) (1 : Int).toNat (iN ((-10000))))))) := ⟨_, rfl⟩
        rw [← hM_68] at hw
        have hA_69 : M_67 q_55 = some (.inl (G.2 1, 5, .inl (upd (upd (fun _ => 0) (0 : Int).toNat (iN (p0))) (1 : Int).toNat (iN ((-10000)))))) := by rw [hM_68, va_up_self]
        have hx_70 := xExt.upd hq_56 hx_65 hM_68
        have h_71 := hRk_52.ext hx_70
        refine lv_dup hC.1 hC.2.1 dX5_head_50 rfl ?_
        refine x_const hC dX5_head_51 ?_
        refine x_const hC dX5_head_52 ?_
        refine x_iast hC hw hA_69 (by omega) (by omega) (by omega) dX5_head_53 (fun H locs hw => ?_)
        obtain ⟨M_72, hM_73⟩ : ∃ z, z = va_up M_67 q_55 (some (.inl (G.2 1, 5, .inl (upd (upd (upd (fun _ => 0) (0 : Int).toNat (iN (p0))) (1 : Int).toNat (iN ((-10000)))) (2 : Int).toNat (iN (0)))))) := ⟨_, rfl⟩
        rw [← hM_73] at hw
        have hA_74 : M_72 q_55 = some (.inl (G.2 1, 5, .inl (upd (upd (upd (fun _ => 0) (0 : Int).toNat (iN (p0))) (1 : Int).toNat (iN ((-10000)))) (2 : Int).toNat (iN (0))))) := by rw [hM_73, va_up_self]
        have hx_75 := xExt.upd hq_56 hx_70 hM_73
        have h_76 := hRk_52.ext hx_75
        refine lv_dup hC.1 hC.2.1 dX5_head_54 rfl ?_
        refine x_const hC dX5_head_55 ?_
        refine lv_iload_n hC.1 hC.2.1 dX5_head_56 rfl (lv_at hl 2 rfl) ?_
        refine x_iast hC hw hA_74 (by omega) (by omega) (by omega) dX5_head_57 (fun H locs hw => ?_)
        obtain ⟨M_77, hM_78⟩ : ∃ z, z = va_up M_72 q_55 (some (.inl (G.2 1, 5, .inl (upd (upd (upd (upd (fun _ => 0) (0 : Int).toNat (iN (p0))) (1 : Int).toNat (iN ((-10000)))) (2 : Int).toNat (iN (0))) (3 : Int).toNat (iN (p1)))))) := ⟨_, rfl⟩
        rw [← hM_78] at hw
        have hA_79 : M_77 q_55 = some (.inl (G.2 1, 5, .inl (upd (upd (upd (upd (fun _ => 0) (0 : Int).toNat (iN (p0))) (1 : Int).toNat (iN ((-10000)))) (2 : Int).toNat (iN (0))) (3 : Int).toNat (iN (p1))))) := by rw [hM_78, va_up_self]
        have hx_80 := xExt.upd hq_56 hx_75 hM_78
        have h_81 := hRk_52.ext hx_80
        refine lv_dup hC.1 hC.2.1 dX5_head_58 rfl ?_
        refine x_const hC dX5_head_59 ?_
        refine lv_iload_n hC.1 hC.2.1 dX5_head_60 rfl (lv_at hl 3 rfl) ?_
        refine x_callS hC hw (lv_size hl) (c_X5_one l G (M := M_77) (p0 := p2) (by omega)) gX5_head_X5_one rfl dv_X5_one_s rfl (Nat.le_of_ble_eq_true rfl) (by rw [hRf]; decide) (by rw [hRl]; decide) (by omega) (by omega) dX5_head_61 (fun r9 M_82 H locs hq hw => ?_)
        obtain ⟨z_83, rfl, hM9, hz_83a, hz_83b⟩ := hq
        rw [hM9] at hw
        show W p l e R s m args below meth c H locs _ _ _ (F0 m 64 ls [.int (iN (z_83)), .int (iN (4)), .ref q_55, .ref q_55, .ref a])
        refine x_iast hC hw hA_79 (by omega) (by omega) (by omega) dX5_head_64 (fun H locs hw => ?_)
        obtain ⟨M_84, hM_85⟩ : ∃ z, z = va_up M_77 q_55 (some (.inl (G.2 1, 5, .inl (upd (upd (upd (upd (upd (fun _ => 0) (0 : Int).toNat (iN (p0))) (1 : Int).toNat (iN ((-10000)))) (2 : Int).toNat (iN (0))) (3 : Int).toNat (iN (p1))) (4 : Int).toNat (iN (z_83)))))) := ⟨_, rfl⟩
        rw [← hM_85] at hw
        have hA_86 : M_84 q_55 = some (.inl (G.2 1, 5, .inl (upd (upd (upd (upd (upd (fun _ => 0) (0 : Int).toNat (iN (p0))) (1 : Int).toNat (iN ((-10000)))) (2 : Int).toNat (iN (0))) (3 : Int).toNat (iN (p1))) (4 : Int).toNat (iN (z_83))))) := by rw [hM_85, va_up_self]
        have hx_87 := xExt.upd hq_56 hx_80 hM_85
        have h_88 := hRk_52.ext hx_87
        have hI_89 : Its G M_84 q_55 (upd (upd (upd (upd (upd (fun _ => 0) (0 : Int).toNat (iN (p0))) (1 : Int).toNat (iN ((-10000)))) (2 : Int).toNat (iN (0))) (3 : Int).toNat (iN (p1))) (4 : Int).toNat (iN (z_83))) ((p0).toNat, (-10000), p1, 0, p2) := ⟨hA_86, ⟨(show (p0).toNat < 3 by omega), (show (-10000) = -10000 ∨ (0 ≤ (-10000) ∧ (-10000) ≤ 99) by omega), (show p1 = -10000 ∨ (0 ≤ p1 ∧ p1 ≤ 99) by omega), (show 0 = 0 ∨ 0 = 1 by omega), (show p2 = 0 ∨ p2 = 1 by omega)⟩, (show iN (p0) = iN ((((p0).toNat : Nat) : Int)) from congrArg iN (by omega)), rfl, rfl, rfl, (show iN (z_83) = iN (p2) from congrArg iN (by omega))⟩
        refine x_callV hC hw (lv_size hl) (c_X5_open l G h_88 hI_89 (by omega)) gX5_head_X5_open rfl dv_X5_open h_88.1.1 rfl rfl (Nat.le_of_ble_eq_true rfl) (by rw [hRf]; decide) (by rw [hRl]; decide) (by omega) (by omega) dX5_head_65 (fun r9 M_90 H locs hq hw => ?_)
        obtain ⟨z_92, fyk_91, Wvk_91, rfl, hz_92a, hz_92f, he0k_91, hx5k_91, hRk_91⟩ := hq
        have h_93 := hI_89.x5 hx5k_91
        have hsck_91 := hRk_91.sc.1
        show W p l e R s m args below meth c H locs _ _ _ (F0 m 68 ls [.int (iN (z_92))])
        exact x_iret hC hw dX5_head_68 (by omega) (by omega) ⟨z_92, thk_52, rfl, by omega, Or.inl ⟨by omega, by first | trivial | omega, hz_92f, (by have e9 := hRk_91; rw [he0k_91] at e9; exact MGm.of e9 hK)⟩⟩
      · replace hz_53r := (hz_53r.resolve_left (fun q9 => by have e9 := q9.1; omega)).2
        refine x_const hC dX5_head_32 ?_
        refine lv_goto (tgt := 68) hC.1 hC.2.1 dX5_head_33 (by decide) ?_
        exact x_iret hC hw dX5_head_68 (by omega) (by omega) ⟨0, thk_52, rfl, by omega, Or.inr ⟨by omega, by omega, MGm.of hRk_52 hK⟩⟩
set_option maxHeartbeats 4000000 in
set_option maxRecDepth 100000 in
theorem c_X5_tail (l : Launch) (G : xG) {M : HM} {a va oa wa ya : Nat} {wk : Option Nat} {th : Int} {rfd : Int32} {br re la ha : Int} {kp kv : Int32} {qv qw : Nat → Nat} {fa fb : Nat → Option Nat} {V : BW} {O : OW} {fy : Nat → Option Nat} {Wv : VW} {wt : Option VT} {S : Nat → Bool} (hR : MGx G M a va oa wa ya wk th rfd br re la ha kp kv qv qw fa fb V O fy Wv wt S) {K : WA} (hK : abM O wt br re la ha K) {p0 : Int} (hp0 : -2147483648 ≤ p0 ∧ p0 ≤ 2147483647) {p1 : Int} (hp1 : -2147483648 ≤ p1 ∧ p1 ≤ 2147483647) {p2 : Int} (hp2 : -2147483648 ≤ p2 ∧ p2 ≤ 2147483647) (hb2 : p2 = 0 ∨ p2 = 1) : xMet l G yX5_tail wsX5_tail 3 66 1 5 [.ref a, .int (iN (p0)), .int (iN (p1)), .int (iN (p2))] M (fun r M1 => ∃ (z th1 : Int), r = some (.int (iN z)) ∧ (-2147483648 ≤ z ∧ z ≤ 2147483647) ∧ ((th1 = 0 ∧ ((0 ≤ p0 ∧ p0 ≤ 2) ∧ (0 ≤ p1 ∧ p1 ≤ 99) ∧ (frN Wv < 4)) ∧ z = A_tail (O, V, Wv, K, kp, kv, rfd) p0 p1 p2 ∧ MGm G M1 a S th1 (S_tail (O, V, Wv, K, kp, kv, rfd) p0 p1 p2)) ∨ (th1 ≠ 0 ∧ ((th1 = 1 ∧ ¬ (0 ≤ p0 ∧ p0 ≤ 2)) ∨ (th1 = 2 ∧ (0 ≤ p0 ∧ p0 ≤ 2) ∧ ¬ (0 ≤ p1 ∧ p1 ≤ 99)) ∨ (th1 = 3 ∧ (0 ≤ p0 ∧ p0 ≤ 2) ∧ (0 ≤ p1 ∧ p1 ≤ 99) ∧ ¬ (frN Wv < 4))) ∧ MGm G M1 a S th1 (O, V, Wv, K, kp, kv, rfd)))) := by
  refine x_intro (cc := cX5_tail) (maxL := 4) (ret := (some .int)) (by decide +kernel) rfl (Nat.le_of_ble_eq_true rfl) ?_
  intro p e R s m args below meth c ls hRf hRc hRs hRl hC hw hl
  have hsc0 := hR.sc.1
  have hl : lv_has ls 4 [(0, .ref a), (1, .int (iN (p0))), (2, .int (iN (p1))), (3, .int (iN (p2)))] := hl
  refine lv_aload_n hC.1 hC.2.1 dX5_tail_0 rfl (lv_at hl 0 rfl) ?_
  refine lv_iload_n hC.1 hC.2.1 dX5_tail_1 rfl (lv_at hl 1 rfl) ?_
  refine lv_iload_n hC.1 hC.2.1 dX5_tail_2 rfl (lv_at hl 2 rfl) ?_
  refine x_callV hC hw (lv_size hl) (c_X5_isBad l G hR (p0 := p0) (by omega) (p1 := p1) (by omega)) gX5_tail_X5_isBad rfl dv_X5_isBad hR.1.1 rfl rfl (Nat.le_of_ble_eq_true rfl) (by rw [hRf]; decide) (by rw [hRl]; decide) (by omega) (by omega) dX5_tail_3 (fun r9 M_1 H locs hq hw => ?_)
  obtain ⟨z_3, thk_2, rfl, hz_3r, hx5k_2, hRk_2⟩ := hq
  have hsck_2 := hRk_2.sc.1
  show W p l e R s m args below meth c H locs _ _ _ (F0 m 6 ls [.int (iN (z_3))])
  refine x_if_ne (tgt := 32) hC ⟨by omega, by omega⟩ dX5_tail_6 (by decide) (fun c_4 => ?_) (fun c_4 => ?_)
  · replace hz_3r := (hz_3r.resolve_left (fun q9 => by have e9 := q9.1; omega)).2
    refine x_const hC dX5_tail_32 ?_
    refine lv_goto (tgt := 68) hC.1 hC.2.1 dX5_tail_33 (by decide) ?_
    exact x_iret hC hw dX5_tail_68 (by omega) (by omega) ⟨0, thk_2, rfl, by omega, Or.inr ⟨by omega, by omega, MGm.of hRk_2 hK⟩⟩
  · replace hz_3r := (hz_3r.resolve_right (fun q9 => by have e9 := q9.1; omega)).2
    refine lv_aload_n hC.1 hC.2.1 dX5_tail_9 rfl (lv_at hl 0 rfl) ?_
    refine lv_aload_n hC.1 hC.2.1 dX5_tail_10 rfl (lv_at hl 0 rfl) ?_
    refine x_callV hC hw (lv_size hl) (c_X5_free l G hRk_2) gX5_tail_X5_free rfl dv_X5_free hRk_2.1.1 rfl rfl (Nat.le_of_ble_eq_true rfl) (by rw [hRf]; decide) (by rw [hRl]; decide) (by omega) (by omega) dX5_tail_11 (fun r9 M_5 H locs hq hw => ?_)
    obtain ⟨z_6, rfl, hM9, hz_6a, hz_6f⟩ := hq
    rw [hM9] at hw
    show W p l e R s m args below meth c H locs _ _ _ (F0 m 14 ls [.int (iN (z_6)), .ref a])
    refine x_sipush hC dX5_tail_14 (by decide +kernel) ?_
    refine x_icmp_ne (tgt := 24) hC ⟨by omega, by omega⟩ ⟨by omega, by omega⟩ dX5_tail_17 (by decide) (fun c_7 => ?_) (fun c_7 => ?_)
    · refine x_const hC dX5_tail_24 ?_
      refine x_const hC dX5_tail_25 ?_
      refine x_callV hC hw (lv_size hl) (c_X5_refuse l G hRk_2 (p0 := 0) (by omega) (p1 := 3) (by omega) (by omega)) gX5_tail_X5_refuse rfl dv_X5_refuse hRk_2.1.1 rfl rfl (Nat.le_of_ble_eq_true rfl) (by rw [hRf]; decide) (by rw [hRl]; decide) (by omega) (by omega) dX5_tail_26 (fun r9 M_8 H locs hq hw => ?_)
      obtain ⟨z_10, thk_9, rfl, hz_10r, hx5k_9, hRk_9⟩ := hq
      have hsck_9 := hRk_9.sc.1
      show W p l e R s m args below meth c H locs _ _ _ (F0 m 29 ls [.int (iN (z_10))])
      refine x_if_eq (tgt := 36) hC ⟨by omega, by omega⟩ dX5_tail_29 (by decide) (fun c_11 => ?_) (fun c_11 => ?_)
      · replace hz_10r := (hz_10r.resolve_right (fun q9 => by have e9 := q9.1; omega)).2
        refine lv_aload_n hC.1 hC.2.1 dX5_tail_36 rfl (lv_at hl 0 rfl) ?_
        refine x_const hC dX5_tail_37 ?_
        refine x_newI hC hw (by decide +kernel) 5 rfl (by decide) (by omega) (by omega) dX5_tail_38 (fun q_12 H hq_13 hw => ?_)
        obtain ⟨M_14, hM_15⟩ : ∃ z, z = va_up M_8 q_12 (some (.inl (G.2 1, 5, .inl (fun _ => 0)))) := ⟨_, rfl⟩
        rw [← hM_15] at hw
        have hx_16 : xExt M_8 M_14 := by rw [hM_15]; exact xExt.new hq_13
        have hA_17 : M_14 q_12 = some (.inl (G.2 1, 5, .inl (fun _ => 0))) := by rw [hM_15, va_up_self]
        have h_18 := hRk_9.ext hx_16
        refine lv_dup hC.1 hC.2.1 dX5_tail_40 rfl ?_
        refine x_const hC dX5_tail_41 ?_
        refine lv_iload_n hC.1 hC.2.1 dX5_tail_42 rfl (lv_at hl 1 rfl) ?_
        refine x_iast hC hw hA_17 (by omega) (by omega) (by omega) dX5_tail_43 (fun H locs hw => ?_)
        obtain ⟨M_19, hM_20⟩ : ∃ z, z = va_up M_14 q_12 (some (.inl (G.2 1, 5, .inl (upd (fun _ => 0) (0 : Int).toNat (iN (p0)))))) := ⟨_, rfl⟩
        rw [← hM_20] at hw
        have hA_21 : M_19 q_12 = some (.inl (G.2 1, 5, .inl (upd (fun _ => 0) (0 : Int).toNat (iN (p0))))) := by rw [hM_20, va_up_self]
        have hx_22 := xExt.upd hq_13 hx_16 hM_20
        have h_23 := hRk_9.ext hx_22
        refine lv_dup hC.1 hC.2.1 dX5_tail_44 rfl ?_
        refine x_const hC dX5_tail_45 ?_
        refine lv_iload_n hC.1 hC.2.1 dX5_tail_46 rfl (lv_at hl 2 rfl) ?_
        refine x_iast hC hw hA_21 (by omega) (by omega) (by omega) dX5_tail_47 (fun H locs hw => ?_)
        obtain ⟨M_24, hM_25⟩ : ∃ z, z = va_up M_19 q_12 (some (.inl (G.2 1, 5, .inl (upd (upd (fun _ => 0) (0 : Int).toNat (iN (p0))) (1 : Int).toNat (iN (p1)))))) := ⟨_, rfl⟩
        rw [← hM_25] at hw
        have hA_26 : M_24 q_12 = some (.inl (G.2 1, 5, .inl (upd (upd (fun _ => 0) (0 : Int).toNat (iN (p0))) (1 : Int).toNat (iN (p1))))) := by rw [hM_25, va_up_self]
        have hx_27 := xExt.upd hq_13 hx_22 hM_25
        have h_28 := hRk_9.ext hx_27
        refine lv_dup hC.1 hC.2.1 dX5_tail_48 rfl ?_
        refine x_const hC dX5_tail_49 ?_
        refine lv_iload_n hC.1 hC.2.1 dX5_tail_50 rfl (lv_at hl 3 rfl) ?_
        refine x_callS hC hw (lv_size hl) (c_X5_one l G (M := M_24) (p0 := p2) (by omega)) gX5_tail_X5_one rfl dv_X5_one_s rfl (Nat.le_of_ble_eq_true rfl) (by rw [hRf]; decide) (by rw [hRl]; decide) (by omega) (by omega) dX5_tail_51 (fun r9 M_29 H locs hq hw => ?_)
        obtain ⟨z_30, rfl, hM9, hz_30a, hz_30b⟩ := hq
        rw [hM9] at hw
        show W p l e R s m args below meth c H locs _ _ _ (F0 m 54 ls [.int (iN (z_30)), .int (iN (2)), .ref q_12, .ref q_12, .ref a])
        refine x_iast hC hw hA_26 (by omega) (by omega) (by omega) dX5_tail_54 (fun H locs hw => ?_)
        obtain ⟨M_31, hM_32⟩ : ∃ z, z = va_up M_24 q_12 (some (.inl (G.2 1, 5, .inl (upd (upd (upd (fun _ => 0) (0 : Int).toNat (iN (p0))) (1 : Int).toNat (iN (p1))) (2 : Int).toNat (iN (z_30)))))) := ⟨_, rfl⟩
        rw [← hM_32] at hw
        have hA_33 : M_31 q_12 = some (.inl (G.2 1, 5, .inl (upd (upd (upd (fun _ => 0) (0 : Int).toNat (iN (p0))) (1 : Int).toNat (iN (p1))) (2 : Int).toNat (iN (z_30))))) := by rw [hM_32, va_up_self]
        have hx_34 := xExt.upd hq_13 hx_27 hM_32
        have h_35 := hRk_9.ext hx_34
        refine lv_dup hC.1 hC.2.1 dX5_tail_55 rfl ?_
        refine x_const hC dX5_tail_56 ?_
        refine x_sipush hC dX5_tail_57 (by decide +kernel) ?_
        refine x_iast hC hw hA_33 (by omega) (by omega) (by omega) dX5_tail_60 (fun H locs hw => ?_)
        obtain ⟨M_36, hM_37⟩ : ∃ z, z = va_up M_31 q_12 (some (.inl (G.2 1, 5, .inl (upd (upd (upd (upd (fun _ => 0) (0 : Int).toNat (iN (p0))) (1 : Int).toNat (iN (p1))) (2 : Int).toNat (iN (z_30))) (3 : Int).toNat (iN ((-10000))))))) := ⟨_, rfl⟩
        rw [← hM_37] at hw
        have hA_38 : M_36 q_12 = some (.inl (G.2 1, 5, .inl (upd (upd (upd (upd (fun _ => 0) (0 : Int).toNat (iN (p0))) (1 : Int).toNat (iN (p1))) (2 : Int).toNat (iN (z_30))) (3 : Int).toNat (iN ((-10000)))))) := by rw [hM_37, va_up_self]
        have hx_39 := xExt.upd hq_13 hx_34 hM_37
        have h_40 := hRk_9.ext hx_39
        refine lv_dup hC.1 hC.2.1 dX5_tail_61 rfl ?_
        refine x_const hC dX5_tail_62 ?_
        refine x_const hC dX5_tail_63 ?_
        refine x_iast hC hw hA_38 (by omega) (by omega) (by omega) dX5_tail_64 (fun H locs hw => ?_)
        obtain ⟨M_41, hM_42⟩ : ∃ z, z = va_up M_36 q_12 (some (.inl (G.2 1, 5, .inl (upd (upd (upd (upd (upd (fun _ => 0) (0 : Int).toNat (iN (p0))) (1 : Int).toNat (iN (p1))) (2 : Int).toNat (iN (z_30))) (3 : Int).toNat (iN ((-10000)))) (4 : Int).toNat (iN (0)))))) := ⟨_, rfl⟩
        rw [← hM_42] at hw
        have hA_43 : M_41 q_12 = some (.inl (G.2 1, 5, .inl (upd (upd (upd (upd (upd (fun _ => 0) (0 : Int).toNat (iN (p0))) (1 : Int).toNat (iN (p1))) (2 : Int).toNat (iN (z_30))) (3 : Int).toNat (iN ((-10000)))) (4 : Int).toNat (iN (0))))) := by rw [hM_42, va_up_self]
        have hx_44 := xExt.upd hq_13 hx_39 hM_42
        have h_45 := hRk_9.ext hx_44
        have hI_46 : Its G M_41 q_12 (upd (upd (upd (upd (upd (fun _ => 0) (0 : Int).toNat (iN (p0))) (1 : Int).toNat (iN (p1))) (2 : Int).toNat (iN (z_30))) (3 : Int).toNat (iN ((-10000)))) (4 : Int).toNat (iN (0))) ((p0).toNat, p1, (-10000), p2, 0) := ⟨hA_43, ⟨(show (p0).toNat < 3 by omega), (show p1 = -10000 ∨ (0 ≤ p1 ∧ p1 ≤ 99) by omega), (show (-10000) = -10000 ∨ (0 ≤ (-10000) ∧ (-10000) ≤ 99) by omega), (show p2 = 0 ∨ p2 = 1 by omega), (show 0 = 0 ∨ 0 = 1 by omega)⟩, (show iN (p0) = iN ((((p0).toNat : Nat) : Int)) from congrArg iN (by omega)), rfl, (show iN (z_30) = iN (p2) from congrArg iN (by omega)), rfl, rfl⟩
        refine x_callV hC hw (lv_size hl) (c_X5_open l G h_45 hI_46 (by omega)) gX5_tail_X5_open rfl dv_X5_open h_45.1.1 rfl rfl (Nat.le_of_ble_eq_true rfl) (by rw [hRf]; decide) (by rw [hRl]; decide) (by omega) (by omega) dX5_tail_65 (fun r9 M_47 H locs hq hw => ?_)
        obtain ⟨z_49, fyk_48, Wvk_48, rfl, hz_49a, hz_49f, he0k_48, hx5k_48, hRk_48⟩ := hq
        have h_50 := hI_46.x5 hx5k_48
        have hsck_48 := hRk_48.sc.1
        show W p l e R s m args below meth c H locs _ _ _ (F0 m 68 ls [.int (iN (z_49))])
        exact x_iret hC hw dX5_tail_68 (by omega) (by omega) ⟨z_49, thk_9, rfl, by omega, Or.inl ⟨by omega, by first | trivial | omega, hz_49f, (by have e9 := hRk_48; rw [he0k_48] at e9; exact MGm.of e9 hK)⟩⟩
      · replace hz_10r := (hz_10r.resolve_left (fun q9 => by have e9 := q9.1; omega)).2
        refine x_const hC dX5_tail_32 ?_
        refine lv_goto (tgt := 68) hC.1 hC.2.1 dX5_tail_33 (by decide) ?_
        exact x_iret hC hw dX5_tail_68 (by omega) (by omega) ⟨0, thk_9, rfl, by omega, Or.inr ⟨by omega, by omega, MGm.of hRk_9 hK⟩⟩
    · refine x_const hC dX5_tail_20 ?_
      refine lv_goto (tgt := 25) hC.1 hC.2.1 dX5_tail_21 (by decide) ?_
      refine x_const hC dX5_tail_25 ?_
      refine x_callV hC hw (lv_size hl) (c_X5_refuse l G hRk_2 (p0 := 1) (by omega) (p1 := 3) (by omega) (by omega)) gX5_tail_X5_refuse rfl dv_X5_refuse hRk_2.1.1 rfl rfl (Nat.le_of_ble_eq_true rfl) (by rw [hRf]; decide) (by rw [hRl]; decide) (by omega) (by omega) dX5_tail_26 (fun r9 M_51 H locs hq hw => ?_)
      obtain ⟨z_53, thk_52, rfl, hz_53r, hx5k_52, hRk_52⟩ := hq
      have hsck_52 := hRk_52.sc.1
      show W p l e R s m args below meth c H locs _ _ _ (F0 m 29 ls [.int (iN (z_53))])
      refine x_if_eq (tgt := 36) hC ⟨by omega, by omega⟩ dX5_tail_29 (by decide) (fun c_54 => ?_) (fun c_54 => ?_)
      · replace hz_53r := (hz_53r.resolve_right (fun q9 => by have e9 := q9.1; omega)).2
        refine lv_aload_n hC.1 hC.2.1 dX5_tail_36 rfl (lv_at hl 0 rfl) ?_
        refine x_const hC dX5_tail_37 ?_
        refine x_newI hC hw (by decide +kernel) 5 rfl (by decide) (by omega) (by omega) dX5_tail_38 (fun q_55 H hq_56 hw => ?_)
        obtain ⟨M_57, hM_58⟩ : ∃ z, z = va_up M_51 q_55 (some (.inl (G.2 1, 5, .inl (fun _ => 0)))) := ⟨_, rfl⟩
        rw [← hM_58] at hw
        have hx_59 : xExt M_51 M_57 := by rw [hM_58]; exact xExt.new hq_56
        have hA_60 : M_57 q_55 = some (.inl (G.2 1, 5, .inl (fun _ => 0))) := by rw [hM_58, va_up_self]
        have h_61 := hRk_52.ext hx_59
        refine lv_dup hC.1 hC.2.1 dX5_tail_40 rfl ?_
        refine x_const hC dX5_tail_41 ?_
        refine lv_iload_n hC.1 hC.2.1 dX5_tail_42 rfl (lv_at hl 1 rfl) ?_
        refine x_iast hC hw hA_60 (by omega) (by omega) (by omega) dX5_tail_43 (fun H locs hw => ?_)
        obtain ⟨M_62, hM_63⟩ : ∃ z, z = va_up M_57 q_55 (some (.inl (G.2 1, 5, .inl (upd (fun _ => 0) (0 : Int).toNat (iN (p0)))))) := ⟨_, rfl⟩
        rw [← hM_63] at hw
        have hA_64 : M_62 q_55 = some (.inl (G.2 1, 5, .inl (upd (fun _ => 0) (0 : Int).toNat (iN (p0))))) := by rw [hM_63, va_up_self]
        have hx_65 := xExt.upd hq_56 hx_59 hM_63
        have h_66 := hRk_52.ext hx_65
        refine lv_dup hC.1 hC.2.1 dX5_tail_44 rfl ?_
        refine x_const hC dX5_tail_45 ?_
        refine lv_iload_n hC.1 hC.2.1 dX5_tail_46 rfl (lv_at hl 2 rfl) ?_
        refine x_iast hC hw hA_64 (by omega) (by omega) (by omega) dX5_tail_47 (fun H locs hw => ?_)
        obtain ⟨M_67, hM_68⟩ : ∃ z, z = va_up M_62 q_55 (some (.inl (G.2 1, 5, .inl (upd (upd (fun _ => 0) (0 : Int).toNat (iN (p0))) (1 : Int).toNat (iN (p1)))))) := ⟨_, rfl⟩
        rw [← hM_68] at hw
        have hA_69 : M_67 q_55 = some (.inl (G.2 1, 5, .inl (upd (upd (fun _ => 0) (0 : Int).toNat (iN (p0))) (1 : Int).toNat (iN (p1))))) := by rw [hM_68, va_up_self]
        have hx_70 := xExt.upd hq_56 hx_65 hM_68
        have h_71 := hRk_52.ext hx_70
        refine lv_dup hC.1 hC.2.1 dX5_tail_48 rfl ?_
        refine x_const hC dX5_tail_49 ?_
        refine lv_iload_n hC.1 hC.2.1 dX5_tail_50 rfl (lv_at hl 3 rfl) ?_
        refine x_callS hC hw (lv_size hl) (c_X5_one l G (M := M_67) (p0 := p2) (by omega)) gX5_tail_X5_one rfl dv_X5_one_s rfl (Nat.le_of_ble_eq_true rfl) (by rw [hRf]; decide) (by rw [hRl]; decide) (by omega) (by omega) dX5_tail_51 (fun r9 M_72 H locs hq hw => ?_)
        obtain ⟨z_73, rfl, hM9, hz_73a, hz_73b⟩ := hq
        rw [hM9] at hw
        show W p l e R s m args below meth c H locs _ _ _ (F0 m 54 ls [.int (iN (z_73)), .int (iN (2)), .ref q_55, .ref q_55, .ref a])
        refine x_iast hC hw hA_69 (by omega) (by omega) (by omega) dX5_tail_54 (fun H locs hw => ?_)
        obtain ⟨M_74, hM_75⟩ : ∃ z, z = va_up M_67 q_55 (some (.inl (G.2 1, 5, .inl (upd (upd (upd (fun _ => 0) (0 : Int).toNat (iN (p0))) (1 : Int).toNat (iN (p1))) (2 : Int).toNat (iN (z_73)))))) := ⟨_, rfl⟩
        rw [← hM_75] at hw
        have hA_76 : M_74 q_55 = some (.inl (G.2 1, 5, .inl (upd (upd (upd (fun _ => 0) (0 : Int).toNat (iN (p0))) (1 : Int).toNat (iN (p1))) (2 : Int).toNat (iN (z_73))))) := by rw [hM_75, va_up_self]
        have hx_77 := xExt.upd hq_56 hx_70 hM_75
        have h_78 := hRk_52.ext hx_77
        refine lv_dup hC.1 hC.2.1 dX5_tail_55 rfl ?_
        refine x_const hC dX5_tail_56 ?_
        refine x_sipush hC dX5_tail_57 (by decide +kernel) ?_
        refine x_iast hC hw hA_76 (by omega) (by omega) (by omega) dX5_tail_60 (fun H locs hw => ?_)
        obtain ⟨M_79, hM_80⟩ : ∃ z, z = va_up M_74 q_55 (some (.inl (G.2 1, 5, .inl (upd (upd (upd (upd (fun _ => 0) (0 : Int).toNat (iN (p0))) (1 : Int).toNat (iN (p1))) (2 : Int).toNat (iN (z_73))) (3 : Int).toNat (iN ((-10000))))))) := ⟨_, rfl⟩
        rw [← hM_80] at hw
        have hA_81 : M_79 q_55 = some (.inl (G.2 1, 5, .inl (upd (upd (upd (upd (fun _ => 0) (0 : Int).toNat (iN (p0))) (1 : Int).toNat (iN (p1))) (2 : Int).toNat (iN (z_73))) (3 : Int).toNat (iN ((-10000)))))) := by rw [hM_80, va_up_self]
        have hx_82 := xExt.upd hq_56 hx_77 hM_80
        have h_83 := hRk_52.ext hx_82
        refine lv_dup hC.1 hC.2.1 dX5_tail_61 rfl ?_
        refine x_const hC dX5_tail_62 ?_
        refine x_const hC dX5_tail_63 ?_
        refine x_iast hC hw hA_81 (by omega) (by omega) (by omega) dX5_tail_64 (fun H locs hw => ?_)
        obtain ⟨M_84, hM_85⟩ : ∃ z, z = va_up M_79 q_55 (some (.inl (G.2 1, 5, .inl (upd (upd (upd (upd (upd (fun _ => 0) (0 : Int).toNat (iN (p0))) (1 : Int).toNat (iN (p1))) (2 : Int).toNat (iN (z_73))) (3 : Int).toNat (iN ((-10000)))) (4 : Int).toNat (iN (0)))))) := ⟨_, rfl⟩
        rw [← hM_85] at hw
        have hA_86 : M_84 q_55 = some (.inl (G.2 1, 5, .inl (upd (upd (upd (upd (upd (fun _ => 0) (0 : Int).toNat (iN (p0))) (1 : Int).toNat (iN (p1))) (2 : Int).toNat (iN (z_73))) (3 : Int).toNat (iN ((-10000)))) (4 : Int).toNat (iN (0))))) := by rw [hM_85, va_up_self]
        have hx_87 := xExt.upd hq_56 hx_82 hM_85
        have h_88 := hRk_52.ext hx_87
        have hI_89 : Its G M_84 q_55 (upd (upd (upd (upd (upd (fun _ => 0) (0 : Int).toNat (iN (p0))) (1 : Int).toNat (iN (p1))) (2 : Int).toNat (iN (z_73))) (3 : Int).toNat (iN ((-10000)))) (4 : Int).toNat (iN (0))) ((p0).toNat, p1, (-10000), p2, 0) := ⟨hA_86, ⟨(show (p0).toNat < 3 by omega), (show p1 = -10000 ∨ (0 ≤ p1 ∧ p1 ≤ 99) by omega), (show (-10000) = -10000 ∨ (0 ≤ (-10000) ∧ (-10000) ≤ 99) by omega), (show p2 = 0 ∨ p2 = 1 by omega), (show 0 = 0 ∨ 0 = 1 by omega)⟩, (show iN (p0) = iN ((((p0).toNat : Nat) : Int)) from congrArg iN (by omega)), rfl, (show iN (z_73) = iN (p2) from congrArg iN (by omega)), rfl, rfl⟩
        refine x_callV hC hw (lv_size hl) (c_X5_open l G h_88 hI_89 (by omega)) gX5_tail_X5_open rfl dv_X5_open h_88.1.1 rfl rfl (Nat.le_of_ble_eq_true rfl) (by rw [hRf]; decide) (by rw [hRl]; decide) (by omega) (by omega) dX5_tail_65 (fun r9 M_90 H locs hq hw => ?_)
        obtain ⟨z_92, fyk_91, Wvk_91, rfl, hz_92a, hz_92f, he0k_91, hx5k_91, hRk_91⟩ := hq
        have h_93 := hI_89.x5 hx5k_91
        have hsck_91 := hRk_91.sc.1
        show W p l e R s m args below meth c H locs _ _ _ (F0 m 68 ls [.int (iN (z_92))])
        exact x_iret hC hw dX5_tail_68 (by omega) (by omega) ⟨z_92, thk_52, rfl, by omega, Or.inl ⟨by omega, by first | trivial | omega, hz_92f, (by have e9 := hRk_91; rw [he0k_91] at e9; exact MGm.of e9 hK)⟩⟩
      · replace hz_53r := (hz_53r.resolve_left (fun q9 => by have e9 := q9.1; omega)).2
        refine x_const hC dX5_tail_32 ?_
        refine lv_goto (tgt := 68) hC.1 hC.2.1 dX5_tail_33 (by decide) ?_
        exact x_iret hC hw dX5_tail_68 (by omega) (by omega) ⟨0, thk_52, rfl, by omega, Or.inr ⟨by omega, by omega, MGm.of hRk_52 hK⟩⟩
set_option maxHeartbeats 4000000 in
set_option maxRecDepth 100000 in
theorem c_X5_sub (l : Launch) (G : xG) {M : HM} {a va oa wa ya : Nat} {wk : Option Nat} {th : Int} {rfd : Int32} {br re la ha : Int} {kp kv : Int32} {qv qw : Nat → Nat} {fa fb : Nat → Option Nat} {V : BW} {O : OW} {fy : Nat → Option Nat} {Wv : VW} {wt : Option VT} {S : Nat → Bool} (hR : MGx G M a va oa wa ya wk th rfd br re la ha kp kv qv qw fa fb V O fy Wv wt S) {K : WA} (hK : abM O wt br re la ha K) {p0 : Int} (hp0 : -2147483648 ≤ p0 ∧ p0 ≤ 2147483647) {p1 : Int} (hp1 : -2147483648 ≤ p1 ∧ p1 ≤ 2147483647) {p2 : Int} (hp2 : -2147483648 ≤ p2 ∧ p2 ≤ 2147483647) {p3 : Int} (hp3 : -2147483648 ≤ p3 ∧ p3 ≤ 2147483647) {p4 : Int} (hp4 : -2147483648 ≤ p4 ∧ p4 ≤ 2147483647) (hb2 : p2 = 0 ∨ p2 = 1) (hb4 : p4 = 0 ∨ p4 = 1) : xMet l G yX5_sub wsX5_sub 3 66 1 5 [.ref a, .int (iN (p0)), .int (iN (p1)), .int (iN (p2)), .int (iN (p3)), .int (iN (p4))] M (fun r M1 => ∃ (z th1 : Int), r = some (.int (iN z)) ∧ (-2147483648 ≤ z ∧ z ≤ 2147483647) ∧ ((th1 = 0 ∧ ((0 ≤ p0 ∧ p0 ≤ 2) ∧ ((0 ≤ p1 ∧ p1 ≤ 99) ∧ (0 ≤ p3 ∧ p3 ≤ 99)) ∧ (frN Wv < 4)) ∧ z = A_sub (O, V, Wv, K, kp, kv, rfd) p0 p1 p2 p3 p4 ∧ MGm G M1 a S th1 (S_sub (O, V, Wv, K, kp, kv, rfd) p0 p1 p2 p3 p4)) ∨ (th1 ≠ 0 ∧ ((th1 = 1 ∧ ¬ (0 ≤ p0 ∧ p0 ≤ 2)) ∨ (th1 = 2 ∧ (0 ≤ p0 ∧ p0 ≤ 2) ∧ ¬ ((0 ≤ p1 ∧ p1 ≤ 99) ∧ (0 ≤ p3 ∧ p3 ≤ 99))) ∨ (th1 = 3 ∧ (0 ≤ p0 ∧ p0 ≤ 2) ∧ ((0 ≤ p1 ∧ p1 ≤ 99) ∧ (0 ≤ p3 ∧ p3 ≤ 99)) ∧ ¬ (frN Wv < 4))) ∧ MGm G M1 a S th1 (O, V, Wv, K, kp, kv, rfd)))) := by
  refine x_intro (cc := cX5_sub) (maxL := 7) (ret := (some .int)) (by decide +kernel) rfl (Nat.le_of_ble_eq_true rfl) ?_
  intro p e R s m args below meth c ls hRf hRc hRs hRl hC hw hl
  have hsc0 := hR.sc.1
  have hl : lv_has ls 7 [(0, .ref a), (1, .int (iN (p0))), (2, .int (iN (p1))), (3, .int (iN (p2))), (4, .int (iN (p3))), (5, .int (iN (p4)))] := hl
  refine lv_aload_n hC.1 hC.2.1 dX5_sub_0 rfl (lv_at hl 0 rfl) ?_
  refine lv_iload_n hC.1 hC.2.1 dX5_sub_1 rfl (lv_at hl 1 rfl) ?_
  refine lv_iload_n hC.1 hC.2.1 dX5_sub_2 rfl (lv_at hl 2 rfl) ?_
  refine x_callV hC hw (lv_size hl) (c_X5_isBad l G hR (p0 := p0) (by omega) (p1 := p1) (by omega)) gX5_sub_X5_isBad rfl dv_X5_isBad hR.1.1 rfl rfl (Nat.le_of_ble_eq_true rfl) (by rw [hRf]; decide) (by rw [hRl]; decide) (by omega) (by omega) dX5_sub_3 (fun r9 M_1 H locs hq hw => ?_)
  obtain ⟨z_3, thk_2, rfl, hz_3r, hx5k_2, hRk_2⟩ := hq
  have hsck_2 := hRk_2.sc.1
  show W p l e R s m args below meth c H locs _ _ _ (F0 m 6 ls [.int (iN (z_3))])
  refine x_if_ne (tgt := 45) hC ⟨by omega, by omega⟩ dX5_sub_6 (by decide) (fun c_4 => ?_) (fun c_4 => ?_)
  · replace hz_3r := (hz_3r.resolve_left (fun q9 => by have e9 := q9.1; omega)).2
    refine x_const hC dX5_sub_45 ?_
    exact x_iret hC hw dX5_sub_46 (by omega) (by omega) ⟨0, thk_2, rfl, by omega, Or.inr ⟨by omega, by omega, MGm.of hRk_2 hK⟩⟩
  · replace hz_3r := (hz_3r.resolve_right (fun q9 => by have e9 := q9.1; omega)).2
    refine lv_aload_n hC.1 hC.2.1 dX5_sub_9 rfl (lv_at hl 0 rfl) ?_
    refine lv_iload hC.1 hC.2.1 dX5_sub_10 (lv_at hl 4 rfl) ?_
    refine x_callS hC hw (lv_size hl) (c_X5_isNoKey l G (M := M_1) (p0 := p3) (by omega)) gX5_sub_X5_isNoKey rfl dv_X5_isNoKey_s rfl (Nat.le_of_ble_eq_true rfl) (by rw [hRf]; decide) (by rw [hRl]; decide) (by omega) (by omega) dX5_sub_12 (fun r9 M_5 H locs hq hw => ?_)
    obtain ⟨z_6, rfl, hM9, hz_6a, hz_6b⟩ := hq
    rw [hM9] at hw
    show W p l e R s m args below meth c H locs _ _ _ (F0 m 15 ls [.int (iN (z_6)), .ref a])
    refine x_const hC dX5_sub_15 ?_
    refine x_callV hC hw (lv_size hl) (c_X5_refuse l G hRk_2 (p0 := z_6) (by omega) (p1 := 2) (by omega) (by omega)) gX5_sub_X5_refuse rfl dv_X5_refuse hRk_2.1.1 rfl rfl (Nat.le_of_ble_eq_true rfl) (by rw [hRf]; decide) (by rw [hRl]; decide) (by omega) (by omega) dX5_sub_16 (fun r9 M_7 H locs hq hw => ?_)
    obtain ⟨z_9, thk_8, rfl, hz_9r, hx5k_8, hRk_8⟩ := hq
    have hsck_8 := hRk_8.sc.1
    show W p l e R s m args below meth c H locs _ _ _ (F0 m 19 ls [.int (iN (z_9))])
    refine x_if_ne (tgt := 45) hC ⟨by omega, by omega⟩ dX5_sub_19 (by decide) (fun c_10 => ?_) (fun c_10 => ?_)
    · replace hz_9r := (hz_9r.resolve_left (fun q9 => by have e9 := q9.1; omega)).2
      refine x_const hC dX5_sub_45 ?_
      exact x_iret hC hw dX5_sub_46 (by omega) (by omega) ⟨0, thk_8, rfl, by omega, Or.inr ⟨by omega, by omega, MGm.of hRk_8 hK⟩⟩
    · replace hz_9r := (hz_9r.resolve_right (fun q9 => by have e9 := q9.1; omega)).2
      refine lv_aload_n hC.1 hC.2.1 dX5_sub_22 rfl (lv_at hl 0 rfl) ?_
      refine lv_aload_n hC.1 hC.2.1 dX5_sub_23 rfl (lv_at hl 0 rfl) ?_
      refine x_callV hC hw (lv_size hl) (c_X5_free l G hRk_8) gX5_sub_X5_free rfl dv_X5_free hRk_8.1.1 rfl rfl (Nat.le_of_ble_eq_true rfl) (by rw [hRf]; decide) (by rw [hRl]; decide) (by omega) (by omega) dX5_sub_24 (fun r9 M_11 H locs hq hw => ?_)
      obtain ⟨z_12, rfl, hM9, hz_12a, hz_12f⟩ := hq
      rw [hM9] at hw
      show W p l e R s m args below meth c H locs _ _ _ (F0 m 27 ls [.int (iN (z_12)), .ref a])
      refine x_sipush hC dX5_sub_27 (by decide +kernel) ?_
      refine x_icmp_ne (tgt := 37) hC ⟨by omega, by omega⟩ ⟨by omega, by omega⟩ dX5_sub_30 (by decide) (fun c_13 => ?_) (fun c_13 => ?_)
      · refine x_const hC dX5_sub_37 ?_
        refine x_const hC dX5_sub_38 ?_
        refine x_callV hC hw (lv_size hl) (c_X5_refuse l G hRk_8 (p0 := 0) (by omega) (p1 := 3) (by omega) (by omega)) gX5_sub_X5_refuse rfl dv_X5_refuse hRk_8.1.1 rfl rfl (Nat.le_of_ble_eq_true rfl) (by rw [hRf]; decide) (by rw [hRl]; decide) (by omega) (by omega) dX5_sub_39 (fun r9 M_14 H locs hq hw => ?_)
        obtain ⟨z_16, thk_15, rfl, hz_16r, hx5k_15, hRk_15⟩ := hq
        have hsck_15 := hRk_15.sc.1
        show W p l e R s m args below meth c H locs _ _ _ (F0 m 42 ls [.int (iN (z_16))])
        refine x_if_eq (tgt := 47) hC ⟨by omega, by omega⟩ dX5_sub_42 (by decide) (fun c_17 => ?_) (fun c_17 => ?_)
        · replace hz_16r := (hz_16r.resolve_right (fun q9 => by have e9 := q9.1; omega)).2
          refine x_const hC dX5_sub_47 ?_
          refine x_newI hC hw (by decide +kernel) 5 rfl (by decide) (by omega) (by omega) dX5_sub_48 (fun q_18 H hq_19 hw => ?_)
          obtain ⟨M_20, hM_21⟩ : ∃ z, z = va_up M_14 q_18 (some (.inl (G.2 1, 5, .inl (fun _ => 0)))) := ⟨_, rfl⟩
          rw [← hM_21] at hw
          have hx_22 : xExt M_14 M_20 := by rw [hM_21]; exact xExt.new hq_19
          have hA_23 : M_20 q_18 = some (.inl (G.2 1, 5, .inl (fun _ => 0))) := by rw [hM_21, va_up_self]
          have h_24 := hRk_15.ext hx_22
          refine lv_dup hC.1 hC.2.1 dX5_sub_50 rfl ?_
          refine x_const hC dX5_sub_51 ?_
          refine lv_iload_n hC.1 hC.2.1 dX5_sub_52 rfl (lv_at hl 1 rfl) ?_
          refine x_iast hC hw hA_23 (by omega) (by omega) (by omega) dX5_sub_53 (fun H locs hw => ?_)
          obtain ⟨M_25, hM_26⟩ : ∃ z, z = va_up M_20 q_18 (some (.inl (G.2 1, 5, .inl (upd (fun _ => 0) (0 : Int).toNat (iN (p0)))))) := ⟨_, rfl⟩
          rw [← hM_26] at hw
          have hA_27 : M_25 q_18 = some (.inl (G.2 1, 5, .inl (upd (fun _ => 0) (0 : Int).toNat (iN (p0))))) := by rw [hM_26, va_up_self]
          have hx_28 := xExt.upd hq_19 hx_22 hM_26
          have h_29 := hRk_15.ext hx_28
          refine lv_dup hC.1 hC.2.1 dX5_sub_54 rfl ?_
          refine x_const hC dX5_sub_55 ?_
          refine lv_iload_n hC.1 hC.2.1 dX5_sub_56 rfl (lv_at hl 2 rfl) ?_
          refine x_iast hC hw hA_27 (by omega) (by omega) (by omega) dX5_sub_57 (fun H locs hw => ?_)
          obtain ⟨M_30, hM_31⟩ : ∃ z, z = va_up M_25 q_18 (some (.inl (G.2 1, 5, .inl (upd (upd (fun _ => 0) (0 : Int).toNat (iN (p0))) (1 : Int).toNat (iN (p1)))))) := ⟨_, rfl⟩
          rw [← hM_31] at hw
          have hA_32 : M_30 q_18 = some (.inl (G.2 1, 5, .inl (upd (upd (fun _ => 0) (0 : Int).toNat (iN (p0))) (1 : Int).toNat (iN (p1))))) := by rw [hM_31, va_up_self]
          have hx_33 := xExt.upd hq_19 hx_28 hM_31
          have h_34 := hRk_15.ext hx_33
          refine lv_dup hC.1 hC.2.1 dX5_sub_58 rfl ?_
          refine x_const hC dX5_sub_59 ?_
          refine lv_iload_n hC.1 hC.2.1 dX5_sub_60 rfl (lv_at hl 3 rfl) ?_
          refine x_callS hC hw (lv_size hl) (c_X5_one l G (M := M_30) (p0 := p2) (by omega)) gX5_sub_X5_one rfl dv_X5_one_s rfl (Nat.le_of_ble_eq_true rfl) (by rw [hRf]; decide) (by rw [hRl]; decide) (by omega) (by omega) dX5_sub_61 (fun r9 M_35 H locs hq hw => ?_)
          obtain ⟨z_36, rfl, hM9, hz_36a, hz_36b⟩ := hq
          rw [hM9] at hw
          show W p l e R s m args below meth c H locs _ _ _ (F0 m 64 ls [.int (iN (z_36)), .int (iN (2)), .ref q_18, .ref q_18])
          refine x_iast hC hw hA_32 (by omega) (by omega) (by omega) dX5_sub_64 (fun H locs hw => ?_)
          obtain ⟨M_37, hM_38⟩ : ∃ z, z = va_up M_30 q_18 (some (.inl (G.2 1, 5, .inl (upd (upd (upd (fun _ => 0) (0 : Int).toNat (iN (p0))) (1 : Int).toNat (iN (p1))) (2 : Int).toNat (iN (z_36)))))) := ⟨_, rfl⟩
          rw [← hM_38] at hw
          have hA_39 : M_37 q_18 = some (.inl (G.2 1, 5, .inl (upd (upd (upd (fun _ => 0) (0 : Int).toNat (iN (p0))) (1 : Int).toNat (iN (p1))) (2 : Int).toNat (iN (z_36))))) := by rw [hM_38, va_up_self]
          have hx_40 := xExt.upd hq_19 hx_33 hM_38
          have h_41 := hRk_15.ext hx_40
          refine lv_dup hC.1 hC.2.1 dX5_sub_65 rfl ?_
          refine x_const hC dX5_sub_66 ?_
          refine lv_iload hC.1 hC.2.1 dX5_sub_67 (lv_at hl 4 rfl) ?_
          refine x_iast hC hw hA_39 (by omega) (by omega) (by omega) dX5_sub_69 (fun H locs hw => ?_)
          obtain ⟨M_42, hM_43⟩ : ∃ z, z = va_up M_37 q_18 (some (.inl (G.2 1, 5, .inl (upd (upd (upd (upd (fun _ => 0) (0 : Int).toNat (iN (p0))) (1 : Int).toNat (iN (p1))) (2 : Int).toNat (iN (z_36))) (3 : Int).toNat (iN (p3)))))) := ⟨_, rfl⟩
          rw [← hM_43] at hw
          have hA_44 : M_42 q_18 = some (.inl (G.2 1, 5, .inl (upd (upd (upd (upd (fun _ => 0) (0 : Int).toNat (iN (p0))) (1 : Int).toNat (iN (p1))) (2 : Int).toNat (iN (z_36))) (3 : Int).toNat (iN (p3))))) := by rw [hM_43, va_up_self]
          have hx_45 := xExt.upd hq_19 hx_40 hM_43
          have h_46 := hRk_15.ext hx_45
          refine lv_dup hC.1 hC.2.1 dX5_sub_70 rfl ?_
          refine x_const hC dX5_sub_71 ?_
          refine lv_iload hC.1 hC.2.1 dX5_sub_72 (lv_at hl 5 rfl) ?_
          refine x_callS hC hw (lv_size hl) (c_X5_one l G (M := M_42) (p0 := p4) (by omega)) gX5_sub_X5_one rfl dv_X5_one_s rfl (Nat.le_of_ble_eq_true rfl) (by rw [hRf]; decide) (by rw [hRl]; decide) (by omega) (by omega) dX5_sub_74 (fun r9 M_47 H locs hq hw => ?_)
          obtain ⟨z_48, rfl, hM9, hz_48a, hz_48b⟩ := hq
          rw [hM9] at hw
          show W p l e R s m args below meth c H locs _ _ _ (F0 m 77 ls [.int (iN (z_48)), .int (iN (4)), .ref q_18, .ref q_18])
          refine x_iast hC hw hA_44 (by omega) (by omega) (by omega) dX5_sub_77 (fun H locs hw => ?_)
          obtain ⟨M_49, hM_50⟩ : ∃ z, z = va_up M_42 q_18 (some (.inl (G.2 1, 5, .inl (upd (upd (upd (upd (upd (fun _ => 0) (0 : Int).toNat (iN (p0))) (1 : Int).toNat (iN (p1))) (2 : Int).toNat (iN (z_36))) (3 : Int).toNat (iN (p3))) (4 : Int).toNat (iN (z_48)))))) := ⟨_, rfl⟩
          rw [← hM_50] at hw
          have hA_51 : M_49 q_18 = some (.inl (G.2 1, 5, .inl (upd (upd (upd (upd (upd (fun _ => 0) (0 : Int).toNat (iN (p0))) (1 : Int).toNat (iN (p1))) (2 : Int).toNat (iN (z_36))) (3 : Int).toNat (iN (p3))) (4 : Int).toNat (iN (z_48))))) := by rw [hM_50, va_up_self]
          have hx_52 := xExt.upd hq_19 hx_45 hM_50
          have h_53 := hRk_15.ext hx_52
          refine lv_astore (lv' := [(6, .ref q_18), (0, .ref a), (1, .int (iN (p0))), (2, .int (iN (p1))), (3, .int (iN (p2))), (4, .int (iN (p3))), (5, .int (iN (p4)))]) hC.1 hC.2.1 dX5_sub_78 hl (by decide) rfl (fun ls hl => ?_)
          refine lv_aload_n hC.1 hC.2.1 dX5_sub_80 rfl (lv_at hl 1 rfl) ?_
          refine lv_aload hC.1 hC.2.1 dX5_sub_81 (lv_at hl 0 rfl) ?_
          refine lv_iload_n hC.1 hC.2.1 dX5_sub_83 rfl (lv_at hl 3 rfl) ?_
          have hI_54 : Its G M_49 q_18 (upd (upd (upd (upd (upd (fun _ => 0) (0 : Int).toNat (iN (p0))) (1 : Int).toNat (iN (p1))) (2 : Int).toNat (iN (z_36))) (3 : Int).toNat (iN (p3))) (4 : Int).toNat (iN (z_48))) ((p0).toNat, p1, p3, p2, p4) := ⟨hA_51, ⟨(show (p0).toNat < 3 by omega), (show p1 = -10000 ∨ (0 ≤ p1 ∧ p1 ≤ 99) by omega), (show p3 = -10000 ∨ (0 ≤ p3 ∧ p3 ≤ 99) by omega), (show p2 = 0 ∨ p2 = 1 by omega), (show p4 = 0 ∨ p4 = 1 by omega)⟩, (show iN (p0) = iN ((((p0).toNat : Nat) : Int)) from congrArg iN (by omega)), rfl, (show iN (z_36) = iN (p2) from congrArg iN (by omega)), rfl, (show iN (z_48) = iN (p4) from congrArg iN (by omega))⟩
          refine x_callV hC hw (lv_size hl) (c_X5_weight l G h_53 hI_54 (p0 := p1) (by omega) (by omega)) gX5_sub_X5_weight rfl dv_X5_weight h_53.1.1 rfl rfl (Nat.le_of_ble_eq_true rfl) (by rw [hRf]; decide) (by rw [hRl]; decide) (by omega) (by omega) dX5_sub_84 (fun r9 M_55 H locs hq hw => ?_)
          obtain ⟨z_56, rfl, hM9, hz_56a, hz_56b⟩ := hq
          rw [hM9] at hw
          show W p l e R s m args below meth c H locs _ _ _ (F0 m 87 ls [.int (iN (z_56))])
          refine lv_aload_n hC.1 hC.2.1 dX5_sub_87 rfl (lv_at hl 1 rfl) ?_
          refine lv_aload hC.1 hC.2.1 dX5_sub_88 (lv_at hl 0 rfl) ?_
          refine lv_iload hC.1 hC.2.1 dX5_sub_90 (lv_at hl 5 rfl) ?_
          refine x_callV hC hw (lv_size hl) (c_X5_weight l G h_53 hI_54 (p0 := p3) (by omega) (by omega)) gX5_sub_X5_weight rfl dv_X5_weight h_53.1.1 rfl rfl (Nat.le_of_ble_eq_true rfl) (by rw [hRf]; decide) (by rw [hRl]; decide) (by omega) (by omega) dX5_sub_92 (fun r9 M_57 H locs hq hw => ?_)
          obtain ⟨z_58, rfl, hM9, hz_58a, hz_58b⟩ := hq
          rw [hM9] at hw
          show W p l e R s m args below meth c H locs _ _ _ (F0 m 95 ls [.int (iN (z_58)), .int (iN (z_56))])
          refine x_icmp_le (tgt := 104) hC ⟨by omega, by omega⟩ ⟨by omega, by omega⟩ dX5_sub_95 (by decide) (fun c_59 => ?_) (fun c_59 => ?_)
          · refine lv_aload_n hC.1 hC.2.1 dX5_sub_104 rfl (lv_at hl 1 rfl) ?_
            refine lv_aload hC.1 hC.2.1 dX5_sub_105 (lv_at hl 0 rfl) ?_
            refine x_callV hC hw (lv_size hl) (c_X5_open l G h_53 hI_54 (by omega)) gX5_sub_X5_open rfl dv_X5_open h_53.1.1 rfl rfl (Nat.le_of_ble_eq_true rfl) (by rw [hRf]; decide) (by rw [hRl]; decide) (by omega) (by omega) dX5_sub_107 (fun r9 M_60 H locs hq hw => ?_)
            obtain ⟨z_62, fyk_61, Wvk_61, rfl, hz_62a, hz_62f, he0k_61, hx5k_61, hRk_61⟩ := hq
            have h_63 := hI_54.x5 hx5k_61
            have hsck_61 := hRk_61.sc.1
            show W p l e R s m args below meth c H locs _ _ _ (F0 m 110 ls [.int (iN (z_62))])
            exact x_iret hC hw dX5_sub_110 (by omega) (by omega) ⟨z_62, thk_15, rfl, by omega, Or.inl ⟨by omega, by first | trivial | omega, (by show _ = (if mwN (O (p0).toNat) (p3).toNat < mwN (O (p0).toNat) (p1).toNat then -20000 else (frN Wv : Int)); have e8 : z_56 = ((mwN (O (p0).toNat) (p1).toNat : Nat) : Int) := hz_56b; have e7 : z_58 = ((mwN (O (p0).toNat) (p3).toNat : Nat) : Int) := hz_58b; omega), (by show MGm _ _ _ _ _ (if mwN (O (p0).toNat) (p3).toNat < mwN (O (p0).toNat) (p1).toNat then _ else _); have e8 : z_56 = ((mwN (O (p0).toNat) (p1).toNat : Nat) : Int) := hz_56b; have e7 : z_58 = ((mwN (O (p0).toNat) (p3).toNat : Nat) : Int) := hz_58b; rw [if_neg (by omega)]; exact (by have e9 := hRk_61; rw [he0k_61] at e9; exact MGm.of e9 hK))⟩⟩
          · refine x_sipush hC dX5_sub_98 (by decide +kernel) ?_
            refine lv_goto (tgt := 110) hC.1 hC.2.1 dX5_sub_101 (by decide) ?_
            exact x_iret hC hw dX5_sub_110 (by omega) (by omega) ⟨(-20000), thk_15, rfl, by omega, Or.inl ⟨by omega, by first | trivial | omega, (by show _ = (if mwN (O (p0).toNat) (p3).toNat < mwN (O (p0).toNat) (p1).toNat then -20000 else (frN Wv : Int)); have e8 : z_56 = ((mwN (O (p0).toNat) (p1).toNat : Nat) : Int) := hz_56b; have e7 : z_58 = ((mwN (O (p0).toNat) (p3).toNat : Nat) : Int) := hz_58b; omega), (by show MGm _ _ _ _ _ (if mwN (O (p0).toNat) (p3).toNat < mwN (O (p0).toNat) (p1).toNat then _ else _); have e8 : z_56 = ((mwN (O (p0).toNat) (p1).toNat : Nat) : Int) := hz_56b; have e7 : z_58 = ((mwN (O (p0).toNat) (p3).toNat : Nat) : Int) := hz_58b; rw [if_pos (by omega)]; exact MGm.of h_53 hK)⟩⟩
        · replace hz_16r := (hz_16r.resolve_left (fun q9 => by have e9 := q9.1; omega)).2
          refine x_const hC dX5_sub_45 ?_
          exact x_iret hC hw dX5_sub_46 (by omega) (by omega) ⟨0, thk_15, rfl, by omega, Or.inr ⟨by omega, by omega, MGm.of hRk_15 hK⟩⟩
      · refine x_const hC dX5_sub_33 ?_
        refine lv_goto (tgt := 38) hC.1 hC.2.1 dX5_sub_34 (by decide) ?_
        refine x_const hC dX5_sub_38 ?_
        refine x_callV hC hw (lv_size hl) (c_X5_refuse l G hRk_8 (p0 := 1) (by omega) (p1 := 3) (by omega) (by omega)) gX5_sub_X5_refuse rfl dv_X5_refuse hRk_8.1.1 rfl rfl (Nat.le_of_ble_eq_true rfl) (by rw [hRf]; decide) (by rw [hRl]; decide) (by omega) (by omega) dX5_sub_39 (fun r9 M_64 H locs hq hw => ?_)
        obtain ⟨z_66, thk_65, rfl, hz_66r, hx5k_65, hRk_65⟩ := hq
        have hsck_65 := hRk_65.sc.1
        show W p l e R s m args below meth c H locs _ _ _ (F0 m 42 ls [.int (iN (z_66))])
        refine x_if_eq (tgt := 47) hC ⟨by omega, by omega⟩ dX5_sub_42 (by decide) (fun c_67 => ?_) (fun c_67 => ?_)
        · replace hz_66r := (hz_66r.resolve_right (fun q9 => by have e9 := q9.1; omega)).2
          refine x_const hC dX5_sub_47 ?_
          refine x_newI hC hw (by decide +kernel) 5 rfl (by decide) (by omega) (by omega) dX5_sub_48 (fun q_68 H hq_69 hw => ?_)
          obtain ⟨M_70, hM_71⟩ : ∃ z, z = va_up M_64 q_68 (some (.inl (G.2 1, 5, .inl (fun _ => 0)))) := ⟨_, rfl⟩
          rw [← hM_71] at hw
          have hx_72 : xExt M_64 M_70 := by rw [hM_71]; exact xExt.new hq_69
          have hA_73 : M_70 q_68 = some (.inl (G.2 1, 5, .inl (fun _ => 0))) := by rw [hM_71, va_up_self]
          have h_74 := hRk_65.ext hx_72
          refine lv_dup hC.1 hC.2.1 dX5_sub_50 rfl ?_
          refine x_const hC dX5_sub_51 ?_
          refine lv_iload_n hC.1 hC.2.1 dX5_sub_52 rfl (lv_at hl 1 rfl) ?_
          refine x_iast hC hw hA_73 (by omega) (by omega) (by omega) dX5_sub_53 (fun H locs hw => ?_)
          obtain ⟨M_75, hM_76⟩ : ∃ z, z = va_up M_70 q_68 (some (.inl (G.2 1, 5, .inl (upd (fun _ => 0) (0 : Int).toNat (iN (p0)))))) := ⟨_, rfl⟩
          rw [← hM_76] at hw
          have hA_77 : M_75 q_68 = some (.inl (G.2 1, 5, .inl (upd (fun _ => 0) (0 : Int).toNat (iN (p0))))) := by rw [hM_76, va_up_self]
          have hx_78 := xExt.upd hq_69 hx_72 hM_76
          have h_79 := hRk_65.ext hx_78
          refine lv_dup hC.1 hC.2.1 dX5_sub_54 rfl ?_
          refine x_const hC dX5_sub_55 ?_
          refine lv_iload_n hC.1 hC.2.1 dX5_sub_56 rfl (lv_at hl 2 rfl) ?_
          refine x_iast hC hw hA_77 (by omega) (by omega) (by omega) dX5_sub_57 (fun H locs hw => ?_)
          obtain ⟨M_80, hM_81⟩ : ∃ z, z = va_up M_75 q_68 (some (.inl (G.2 1, 5, .inl (upd (upd (fun _ => 0) (0 : Int).toNat (iN (p0))) (1 : Int).toNat (iN (p1)))))) := ⟨_, rfl⟩
          rw [← hM_81] at hw
          have hA_82 : M_80 q_68 = some (.inl (G.2 1, 5, .inl (upd (upd (fun _ => 0) (0 : Int).toNat (iN (p0))) (1 : Int).toNat (iN (p1))))) := by rw [hM_81, va_up_self]
          have hx_83 := xExt.upd hq_69 hx_78 hM_81
          have h_84 := hRk_65.ext hx_83
          refine lv_dup hC.1 hC.2.1 dX5_sub_58 rfl ?_
          refine x_const hC dX5_sub_59 ?_
          refine lv_iload_n hC.1 hC.2.1 dX5_sub_60 rfl (lv_at hl 3 rfl) ?_
          refine x_callS hC hw (lv_size hl) (c_X5_one l G (M := M_80) (p0 := p2) (by omega)) gX5_sub_X5_one rfl dv_X5_one_s rfl (Nat.le_of_ble_eq_true rfl) (by rw [hRf]; decide) (by rw [hRl]; decide) (by omega) (by omega) dX5_sub_61 (fun r9 M_85 H locs hq hw => ?_)
          obtain ⟨z_86, rfl, hM9, hz_86a, hz_86b⟩ := hq
          rw [hM9] at hw
          show W p l e R s m args below meth c H locs _ _ _ (F0 m 64 ls [.int (iN (z_86)), .int (iN (2)), .ref q_68, .ref q_68])
          refine x_iast hC hw hA_82 (by omega) (by omega) (by omega) dX5_sub_64 (fun H locs hw => ?_)
          obtain ⟨M_87, hM_88⟩ : ∃ z, z = va_up M_80 q_68 (some (.inl (G.2 1, 5, .inl (upd (upd (upd (fun _ => 0) (0 : Int).toNat (iN (p0))) (1 : Int).toNat (iN (p1))) (2 : Int).toNat (iN (z_86)))))) := ⟨_, rfl⟩
          rw [← hM_88] at hw
          have hA_89 : M_87 q_68 = some (.inl (G.2 1, 5, .inl (upd (upd (upd (fun _ => 0) (0 : Int).toNat (iN (p0))) (1 : Int).toNat (iN (p1))) (2 : Int).toNat (iN (z_86))))) := by rw [hM_88, va_up_self]
          have hx_90 := xExt.upd hq_69 hx_83 hM_88
          have h_91 := hRk_65.ext hx_90
          refine lv_dup hC.1 hC.2.1 dX5_sub_65 rfl ?_
          refine x_const hC dX5_sub_66 ?_
          refine lv_iload hC.1 hC.2.1 dX5_sub_67 (lv_at hl 4 rfl) ?_
          refine x_iast hC hw hA_89 (by omega) (by omega) (by omega) dX5_sub_69 (fun H locs hw => ?_)
          obtain ⟨M_92, hM_93⟩ : ∃ z, z = va_up M_87 q_68 (some (.inl (G.2 1, 5, .inl (upd (upd (upd (upd (fun _ => 0) (0 : Int).toNat (iN (p0))) (1 : Int).toNat (iN (p1))) (2 : Int).toNat (iN (z_86))) (3 : Int).toNat (iN (p3)))))) := ⟨_, rfl⟩
          rw [← hM_93] at hw
          have hA_94 : M_92 q_68 = some (.inl (G.2 1, 5, .inl (upd (upd (upd (upd (fun _ => 0) (0 : Int).toNat (iN (p0))) (1 : Int).toNat (iN (p1))) (2 : Int).toNat (iN (z_86))) (3 : Int).toNat (iN (p3))))) := by rw [hM_93, va_up_self]
          have hx_95 := xExt.upd hq_69 hx_90 hM_93
          have h_96 := hRk_65.ext hx_95
          refine lv_dup hC.1 hC.2.1 dX5_sub_70 rfl ?_
          refine x_const hC dX5_sub_71 ?_
          refine lv_iload hC.1 hC.2.1 dX5_sub_72 (lv_at hl 5 rfl) ?_
          refine x_callS hC hw (lv_size hl) (c_X5_one l G (M := M_92) (p0 := p4) (by omega)) gX5_sub_X5_one rfl dv_X5_one_s rfl (Nat.le_of_ble_eq_true rfl) (by rw [hRf]; decide) (by rw [hRl]; decide) (by omega) (by omega) dX5_sub_74 (fun r9 M_97 H locs hq hw => ?_)
          obtain ⟨z_98, rfl, hM9, hz_98a, hz_98b⟩ := hq
          rw [hM9] at hw
          show W p l e R s m args below meth c H locs _ _ _ (F0 m 77 ls [.int (iN (z_98)), .int (iN (4)), .ref q_68, .ref q_68])
          refine x_iast hC hw hA_94 (by omega) (by omega) (by omega) dX5_sub_77 (fun H locs hw => ?_)
          obtain ⟨M_99, hM_100⟩ : ∃ z, z = va_up M_92 q_68 (some (.inl (G.2 1, 5, .inl (upd (upd (upd (upd (upd (fun _ => 0) (0 : Int).toNat (iN (p0))) (1 : Int).toNat (iN (p1))) (2 : Int).toNat (iN (z_86))) (3 : Int).toNat (iN (p3))) (4 : Int).toNat (iN (z_98)))))) := ⟨_, rfl⟩
          rw [← hM_100] at hw
          have hA_101 : M_99 q_68 = some (.inl (G.2 1, 5, .inl (upd (upd (upd (upd (upd (fun _ => 0) (0 : Int).toNat (iN (p0))) (1 : Int).toNat (iN (p1))) (2 : Int).toNat (iN (z_86))) (3 : Int).toNat (iN (p3))) (4 : Int).toNat (iN (z_98))))) := by rw [hM_100, va_up_self]
          have hx_102 := xExt.upd hq_69 hx_95 hM_100
          have h_103 := hRk_65.ext hx_102
          refine lv_astore (lv' := [(6, .ref q_68), (0, .ref a), (1, .int (iN (p0))), (2, .int (iN (p1))), (3, .int (iN (p2))), (4, .int (iN (p3))), (5, .int (iN (p4)))]) hC.1 hC.2.1 dX5_sub_78 hl (by decide) rfl (fun ls hl => ?_)
          refine lv_aload_n hC.1 hC.2.1 dX5_sub_80 rfl (lv_at hl 1 rfl) ?_
          refine lv_aload hC.1 hC.2.1 dX5_sub_81 (lv_at hl 0 rfl) ?_
          refine lv_iload_n hC.1 hC.2.1 dX5_sub_83 rfl (lv_at hl 3 rfl) ?_
          have hI_104 : Its G M_99 q_68 (upd (upd (upd (upd (upd (fun _ => 0) (0 : Int).toNat (iN (p0))) (1 : Int).toNat (iN (p1))) (2 : Int).toNat (iN (z_86))) (3 : Int).toNat (iN (p3))) (4 : Int).toNat (iN (z_98))) ((p0).toNat, p1, p3, p2, p4) := ⟨hA_101, ⟨(show (p0).toNat < 3 by omega), (show p1 = -10000 ∨ (0 ≤ p1 ∧ p1 ≤ 99) by omega), (show p3 = -10000 ∨ (0 ≤ p3 ∧ p3 ≤ 99) by omega), (show p2 = 0 ∨ p2 = 1 by omega), (show p4 = 0 ∨ p4 = 1 by omega)⟩, (show iN (p0) = iN ((((p0).toNat : Nat) : Int)) from congrArg iN (by omega)), rfl, (show iN (z_86) = iN (p2) from congrArg iN (by omega)), rfl, (show iN (z_98) = iN (p4) from congrArg iN (by omega))⟩
          refine x_callV hC hw (lv_size hl) (c_X5_weight l G h_103 hI_104 (p0 := p1) (by omega) (by omega)) gX5_sub_X5_weight rfl dv_X5_weight h_103.1.1 rfl rfl (Nat.le_of_ble_eq_true rfl) (by rw [hRf]; decide) (by rw [hRl]; decide) (by omega) (by omega) dX5_sub_84 (fun r9 M_105 H locs hq hw => ?_)
          obtain ⟨z_106, rfl, hM9, hz_106a, hz_106b⟩ := hq
          rw [hM9] at hw
          show W p l e R s m args below meth c H locs _ _ _ (F0 m 87 ls [.int (iN (z_106))])
          refine lv_aload_n hC.1 hC.2.1 dX5_sub_87 rfl (lv_at hl 1 rfl) ?_
          refine lv_aload hC.1 hC.2.1 dX5_sub_88 (lv_at hl 0 rfl) ?_
          refine lv_iload hC.1 hC.2.1 dX5_sub_90 (lv_at hl 5 rfl) ?_
          refine x_callV hC hw (lv_size hl) (c_X5_weight l G h_103 hI_104 (p0 := p3) (by omega) (by omega)) gX5_sub_X5_weight rfl dv_X5_weight h_103.1.1 rfl rfl (Nat.le_of_ble_eq_true rfl) (by rw [hRf]; decide) (by rw [hRl]; decide) (by omega) (by omega) dX5_sub_92 (fun r9 M_107 H locs hq hw => ?_)
          obtain ⟨z_108, rfl, hM9, hz_108a, hz_108b⟩ := hq
          rw [hM9] at hw
          show W p l e R s m args below meth c H locs _ _ _ (F0 m 95 ls [.int (iN (z_108)), .int (iN (z_106))])
          refine x_icmp_le (tgt := 104) hC ⟨by omega, by omega⟩ ⟨by omega, by omega⟩ dX5_sub_95 (by decide) (fun c_109 => ?_) (fun c_109 => ?_)
          · refine lv_aload_n hC.1 hC.2.1 dX5_sub_104 rfl (lv_at hl 1 rfl) ?_
            refine lv_aload hC.1 hC.2.1 dX5_sub_105 (lv_at hl 0 rfl) ?_
            refine x_callV hC hw (lv_size hl) (c_X5_open l G h_103 hI_104 (by omega)) gX5_sub_X5_open rfl dv_X5_open h_103.1.1 rfl rfl (Nat.le_of_ble_eq_true rfl) (by rw [hRf]; decide) (by rw [hRl]; decide) (by omega) (by omega) dX5_sub_107 (fun r9 M_110 H locs hq hw => ?_)
            obtain ⟨z_112, fyk_111, Wvk_111, rfl, hz_112a, hz_112f, he0k_111, hx5k_111, hRk_111⟩ := hq
            have h_113 := hI_104.x5 hx5k_111
            have hsck_111 := hRk_111.sc.1
            show W p l e R s m args below meth c H locs _ _ _ (F0 m 110 ls [.int (iN (z_112))])
            exact x_iret hC hw dX5_sub_110 (by omega) (by omega) ⟨z_112, thk_65, rfl, by omega, Or.inl ⟨by omega, by first | trivial | omega, (by show _ = (if mwN (O (p0).toNat) (p3).toNat < mwN (O (p0).toNat) (p1).toNat then -20000 else (frN Wv : Int)); have e8 : z_106 = ((mwN (O (p0).toNat) (p1).toNat : Nat) : Int) := hz_106b; have e7 : z_108 = ((mwN (O (p0).toNat) (p3).toNat : Nat) : Int) := hz_108b; omega), (by show MGm _ _ _ _ _ (if mwN (O (p0).toNat) (p3).toNat < mwN (O (p0).toNat) (p1).toNat then _ else _); have e8 : z_106 = ((mwN (O (p0).toNat) (p1).toNat : Nat) : Int) := hz_106b; have e7 : z_108 = ((mwN (O (p0).toNat) (p3).toNat : Nat) : Int) := hz_108b; rw [if_neg (by omega)]; exact (by have e9 := hRk_111; rw [he0k_111] at e9; exact MGm.of e9 hK))⟩⟩
          · refine x_sipush hC dX5_sub_98 (by decide +kernel) ?_
            refine lv_goto (tgt := 110) hC.1 hC.2.1 dX5_sub_101 (by decide) ?_
            exact x_iret hC hw dX5_sub_110 (by omega) (by omega) ⟨(-20000), thk_65, rfl, by omega, Or.inl ⟨by omega, by first | trivial | omega, (by show _ = (if mwN (O (p0).toNat) (p3).toNat < mwN (O (p0).toNat) (p1).toNat then -20000 else (frN Wv : Int)); have e8 : z_106 = ((mwN (O (p0).toNat) (p1).toNat : Nat) : Int) := hz_106b; have e7 : z_108 = ((mwN (O (p0).toNat) (p3).toNat : Nat) : Int) := hz_108b; omega), (by show MGm _ _ _ _ _ (if mwN (O (p0).toNat) (p3).toNat < mwN (O (p0).toNat) (p1).toNat then _ else _); have e8 : z_106 = ((mwN (O (p0).toNat) (p1).toNat : Nat) : Int) := hz_106b; have e7 : z_108 = ((mwN (O (p0).toNat) (p3).toNat : Nat) : Int) := hz_108b; rw [if_pos (by omega)]; exact MGm.of h_103 hK)⟩⟩
        · replace hz_66r := (hz_66r.resolve_left (fun q9 => by have e9 := q9.1; omega)).2
          refine x_const hC dX5_sub_45 ?_
          exact x_iret hC hw dX5_sub_46 (by omega) (by omega) ⟨0, thk_65, rfl, by omega, Or.inr ⟨by omega, by omega, MGm.of hRk_65 hK⟩⟩
set_option maxHeartbeats 4000000 in
set_option maxRecDepth 100000 in
theorem c_X5_part (l : Launch) (G : xG) {M : HM} {a va oa wa ya : Nat} {wk : Option Nat} {th : Int} {rfd : Int32} {br re la ha : Int} {kp kv : Int32} {qv qw : Nat → Nat} {fa fb : Nat → Option Nat} {V : BW} {O : OW} {fy : Nat → Option Nat} {Wv : VW} {wt : Option VT} {S : Nat → Bool} (hR : MGx G M a va oa wa ya wk th rfd br re la ha kp kv qv qw fa fb V O fy Wv wt S) {K : WA} (hK : abM O wt br re la ha K) {p0 : Int} (hp0 : -2147483648 ≤ p0 ∧ p0 ≤ 2147483647) {p1 : Int} (hp1 : -2147483648 ≤ p1 ∧ p1 ≤ 2147483647) {p2 : Int} (hp2 : -2147483648 ≤ p2 ∧ p2 ≤ 2147483647) {p3 : Int} (hp3 : -2147483648 ≤ p3 ∧ p3 ≤ 2147483647) {p4 : Int} (hp4 : -2147483648 ≤ p4 ∧ p4 ≤ 2147483647) (hb2 : p2 = 0 ∨ p2 = 1) (hb4 : p4 = 0 ∨ p4 = 1) : xMet l G yX5_part wsX5_part 2 45 1 5 [.ref a, .int (iN (p0)), .int (iN (p1)), .int (iN (p2)), .int (iN (p3)), .int (iN (p4))] M (fun r M1 => ∃ (z th1 : Int), r = some (.int (iN z)) ∧ (-2147483648 ≤ z ∧ z ≤ 2147483647) ∧ ((th1 = 0 ∧ ((0 ≤ p0 ∧ p0 ≤ 3 ∧ opN (Wv p0.toNat) = 1) ∧ ((0 ≤ p1 ∧ p1 ≤ 99) ∧ (0 ≤ p3 ∧ p3 ≤ 99)) ∧ (frN Wv < 4)) ∧ z = A_part (O, V, Wv, K, kp, kv, rfd) p0 p1 p2 p3 p4 ∧ MGm G M1 a S th1 (S_part (O, V, Wv, K, kp, kv, rfd) p0 p1 p2 p3 p4)) ∨ (th1 ≠ 0 ∧ ((th1 = 1 ∧ ¬ (0 ≤ p0 ∧ p0 ≤ 3 ∧ opN (Wv p0.toNat) = 1)) ∨ (th1 = 2 ∧ (0 ≤ p0 ∧ p0 ≤ 3 ∧ opN (Wv p0.toNat) = 1) ∧ ¬ ((0 ≤ p1 ∧ p1 ≤ 99) ∧ (0 ≤ p3 ∧ p3 ≤ 99))) ∨ (th1 = 3 ∧ (0 ≤ p0 ∧ p0 ≤ 3 ∧ opN (Wv p0.toNat) = 1) ∧ ((0 ≤ p1 ∧ p1 ≤ 99) ∧ (0 ≤ p3 ∧ p3 ≤ 99)) ∧ ¬ (frN Wv < 4))) ∧ MGm G M1 a S th1 (O, V, Wv, K, kp, kv, rfd)))) := by
  refine x_intro (cc := cX5_part) (maxL := 7) (ret := (some .int)) (by decide +kernel) rfl (Nat.le_of_ble_eq_true rfl) ?_
  intro p e R s m args below meth c ls hRf hRc hRs hRl hC hw hl
  have hsc0 := hR.sc.1
  have hinX5 : ∀ w ∈ wsX50, w ∈ wsX5_part := by decide +kernel
  have hl : lv_has ls 7 [(0, .ref a), (1, .int (iN (p0))), (2, .int (iN (p1))), (3, .int (iN (p2))), (4, .int (iN (p3))), (5, .int (iN (p4)))] := hl
  refine lv_aload_n hC.1 hC.2.1 dX5_part_0 rfl (lv_at hl 0 rfl) ?_
  refine lv_aload_n hC.1 hC.2.1 dX5_part_1 rfl (lv_at hl 0 rfl) ?_
  refine lv_iload_n hC.1 hC.2.1 dX5_part_2 rfl (lv_at hl 1 rfl) ?_
  refine x_callV hC hw (lv_size hl) (c_X5_isNoView l G hR (p0 := p0) (by omega)) gX5_part_X5_isNoView rfl dv_X5_isNoView hR.1.1 rfl rfl (Nat.le_of_ble_eq_true rfl) (by rw [hRf]; decide) (by rw [hRl]; decide) (by omega) (by omega) dX5_part_3 (fun r9 M_1 H locs hq hw => ?_)
  obtain ⟨z_2, rfl, hM9, hz_2a, hz_2b, hz_2n⟩ := hq
  rw [hM9] at hw
  show W p l e R s m args below meth c H locs _ _ _ (F0 m 6 ls [.int (iN (z_2)), .ref a])
  refine x_const hC dX5_part_6 ?_
  refine x_callV hC hw (lv_size hl) (c_X5_start l G hR (p0 := z_2) (by omega) (p1 := 1) (by omega) (by omega)) gX5_part_X5_start rfl dv_X5_start hR.1.1 rfl rfl (Nat.le_of_ble_eq_true rfl) (by rw [hRf]; decide) (by rw [hRl]; decide) (by omega) (by omega) dX5_part_7 (fun r9 M_3 H locs hq hw => ?_)
  obtain ⟨z_5, thk_4, rfl, hz_5r, hx5k_4, hRk_4⟩ := hq
  have hsck_4 := hRk_4.sc.1
  show W p l e R s m args below meth c H locs _ _ _ (F0 m 10 ls [.int (iN (z_5))])
  refine x_if_ne (tgt := 64) hC ⟨by omega, by omega⟩ dX5_part_10 (by decide) (fun c_6 => ?_) (fun c_6 => ?_)
  · replace hz_5r := (hz_5r.resolve_left (fun q9 => by have e9 := q9.1; omega)).2
    refine x_const hC dX5_part_64 ?_
    exact x_iret hC hw dX5_part_65 (by omega) (by omega) ⟨0, thk_4, rfl, by omega, Or.inr ⟨by omega, by omega, MGm.of hRk_4 hK⟩⟩
  · replace hz_5r := (hz_5r.resolve_right (fun q9 => by have e9 := q9.1; omega)).2
    refine lv_aload_n hC.1 hC.2.1 dX5_part_13 rfl (lv_at hl 0 rfl) ?_
    refine lv_iload_n hC.1 hC.2.1 dX5_part_14 rfl (lv_at hl 2 rfl) ?_
    refine x_callS hC hw (lv_size hl) (c_X5_isNoKey l G (M := M_3) (p0 := p1) (by omega)) gX5_part_X5_isNoKey rfl dv_X5_isNoKey_s rfl (Nat.le_of_ble_eq_true rfl) (by rw [hRf]; decide) (by rw [hRl]; decide) (by omega) (by omega) dX5_part_15 (fun r9 M_7 H locs hq hw => ?_)
    obtain ⟨z_8, rfl, hM9, hz_8a, hz_8b⟩ := hq
    rw [hM9] at hw
    show W p l e R s m args below meth c H locs _ _ _ (F0 m 18 ls [.int (iN (z_8)), .ref a])
    refine x_if_ne (tgt := 29) hC ⟨by omega, by omega⟩ dX5_part_18 (by decide) (fun c_9 => ?_) (fun c_9 => ?_)
    · refine x_const hC dX5_part_29 ?_
      refine lv_goto (tgt := 34) hC.1 hC.2.1 dX5_part_30 (by decide) ?_
      refine x_const hC dX5_part_34 ?_
      refine x_callV hC hw (lv_size hl) (c_X5_refuse l G hRk_4 (p0 := 1) (by omega) (p1 := 2) (by omega) (by omega)) gX5_part_X5_refuse rfl dv_X5_refuse hRk_4.1.1 rfl rfl (Nat.le_of_ble_eq_true rfl) (by rw [hRf]; decide) (by rw [hRl]; decide) (by omega) (by omega) dX5_part_35 (fun r9 M_10 H locs hq hw => ?_)
      obtain ⟨z_12, thk_11, rfl, hz_12r, hx5k_11, hRk_11⟩ := hq
      have hsck_11 := hRk_11.sc.1
      show W p l e R s m args below meth c H locs _ _ _ (F0 m 38 ls [.int (iN (z_12))])
      refine x_if_ne (tgt := 64) hC ⟨by omega, by omega⟩ dX5_part_38 (by decide) (fun c_13 => ?_) (fun c_13 => ?_)
      · replace hz_12r := (hz_12r.resolve_left (fun q9 => by have e9 := q9.1; omega)).2
        refine x_const hC dX5_part_64 ?_
        exact x_iret hC hw dX5_part_65 (by omega) (by omega) ⟨0, thk_11, rfl, by omega, Or.inr ⟨by omega, by omega, MGm.of hRk_11 hK⟩⟩
      · replace hz_12r := (hz_12r.resolve_right (fun q9 => by have e9 := q9.1; omega)).2
        refine lv_aload_n hC.1 hC.2.1 dX5_part_41 rfl (lv_at hl 0 rfl) ?_
        refine lv_aload_n hC.1 hC.2.1 dX5_part_42 rfl (lv_at hl 0 rfl) ?_
        refine x_callV hC hw (lv_size hl) (c_X5_free l G hRk_11) gX5_part_X5_free rfl dv_X5_free hRk_11.1.1 rfl rfl (Nat.le_of_ble_eq_true rfl) (by rw [hRf]; decide) (by rw [hRl]; decide) (by omega) (by omega) dX5_part_43 (fun r9 M_14 H locs hq hw => ?_)
        obtain ⟨z_15, rfl, hM9, hz_15a, hz_15f⟩ := hq
        rw [hM9] at hw
        show W p l e R s m args below meth c H locs _ _ _ (F0 m 46 ls [.int (iN (z_15)), .ref a])
        refine x_sipush hC dX5_part_46 (by decide +kernel) ?_
        refine x_icmp_ne (tgt := 56) hC ⟨by omega, by omega⟩ ⟨by omega, by omega⟩ dX5_part_49 (by decide) (fun c_16 => ?_) (fun c_16 => ?_)
        · refine x_const hC dX5_part_56 ?_
          refine x_const hC dX5_part_57 ?_
          refine x_callV hC hw (lv_size hl) (c_X5_refuse l G hRk_11 (p0 := 0) (by omega) (p1 := 3) (by omega) (by omega)) gX5_part_X5_refuse rfl dv_X5_refuse hRk_11.1.1 rfl rfl (Nat.le_of_ble_eq_true rfl) (by rw [hRf]; decide) (by rw [hRl]; decide) (by omega) (by omega) dX5_part_58 (fun r9 M_17 H locs hq hw => ?_)
          obtain ⟨z_19, thk_18, rfl, hz_19r, hx5k_18, hRk_18⟩ := hq
          have hsck_18 := hRk_18.sc.1
          show W p l e R s m args below meth c H locs _ _ _ (F0 m 61 ls [.int (iN (z_19))])
          refine x_if_eq (tgt := 66) hC ⟨by omega, by omega⟩ dX5_part_61 (by decide) (fun c_20 => ?_) (fun c_20 => ?_)
          · replace hz_19r := (hz_19r.resolve_right (fun q9 => by have e9 := q9.1; omega)).2
            refine lv_aload_n hC.1 hC.2.1 dX5_part_66 rfl (lv_at hl 0 rfl) ?_
            refine x_get hC hw hRk_18.1.1 rfl hinX5 5 (by decide) (by decide +kernel) rfl dX5_part_67 ?_
            refine lv_iload_n hC.1 hC.2.1 dX5_part_70 rfl (lv_at hl 1 rfl) ?_
            refine x_ald4 hC hw hRk_18.1.2.2.2.2.1 (by omega) (by omega) (by omega) dX5_part_71 ?_
            obtain ⟨y_21, hy_22⟩ := x_some (hz_2n (by omega))
            rw [hy_22]
            obtain ⟨ti_23, fi_23, hui_23, hIi_23⟩ := (hRk_18.vw (show (p0).toNat < 4 by omega)).yes hy_22
            obtain ⟨htat_24, htbt_24, htct_24, htdt_24, htet_24⟩ := id hIi_23.2.1
            show W p l e R s m args below meth c _ _ _ _ _ (F0 m 72 ls [.ref y_21])
            refine lv_astore (lv' := [(6, .ref y_21), (0, .ref a), (1, .int (iN (p0))), (2, .int (iN (p1))), (3, .int (iN (p2))), (4, .int (iN (p3))), (5, .int (iN (p4)))]) hC.1 hC.2.1 dX5_part_72 hl (by decide) rfl (fun ls hl => ?_)
            refine lv_aload_n hC.1 hC.2.1 dX5_part_74 rfl (lv_at hl 1 rfl) ?_
            refine lv_aload hC.1 hC.2.1 dX5_part_75 (lv_at hl 0 rfl) ?_
            refine lv_iload_n hC.1 hC.2.1 dX5_part_77 rfl (lv_at hl 3 rfl) ?_
            refine x_callV hC hw (lv_size hl) (c_X5_isWithin l G hRk_18 hIi_23 (p0 := p1) (by omega) (by omega)) gX5_part_X5_isWithin rfl dv_X5_isWithin hRk_18.1.1 rfl rfl (Nat.le_of_ble_eq_true rfl) (by rw [hRf]; decide) (by rw [hRl]; decide) (by omega) (by omega) dX5_part_78 (fun r9 M_25 H locs hq hw => ?_)
            obtain ⟨z_26, rfl, hM9, hz_26a, hz_26w⟩ := hq
            rw [hM9] at hw
            show W p l e R s m args below meth c H locs _ _ _ (F0 m 81 ls [.int (iN (z_26))])
            refine x_if_eq (tgt := 113) hC ⟨by omega, by omega⟩ dX5_part_81 (by decide) (fun c_27 => ?_) (fun c_27 => ?_)
            · refine x_sipush hC dX5_part_113 (by decide +kernel) ?_
              exact x_iret hC hw dX5_part_116 (by omega) (by omega) ⟨(-20000), thk_18, rfl, by omega, Or.inl ⟨by omega, by first | trivial | omega, (by have i9 := inI_01 (O ti_23.b) (p1).toNat ti_23; have i8 := inI_01 (O ti_23.b) (p3).toNat ti_23; rw [A_part, show tvW (ST.W (O, V, Wv, K, kp, kv, rfd)) p0.toNat = ti_23 from tvW_some hui_23]; show _ = (if ((inI (O ti_23.b) ti_23 (p1).toNat = 1 ∧ inI (O ti_23.b) ti_23 (p3).toNat = 1) ∧ ¬ mwN (O ti_23.b) (p3).toNat < mwN (O ti_23.b) (p1).toNat) then (frN Wv : Int) else -20000); omega), (by have i9 := inI_01 (O ti_23.b) (p1).toNat ti_23; have i8 := inI_01 (O ti_23.b) (p3).toNat ti_23; rw [S_part, show tvW (ST.W (O, V, Wv, K, kp, kv, rfd)) p0.toNat = ti_23 from tvW_some hui_23]; show MGm _ _ _ _ _ (if ((inI (O ti_23.b) ti_23 (p1).toNat = 1 ∧ inI (O ti_23.b) ti_23 (p3).toNat = 1) ∧ ¬ mwN (O ti_23.b) (p3).toNat < mwN (O ti_23.b) (p1).toNat) then _ else _); rw [if_neg (by omega)]; exact MGm.of hRk_18 hK)⟩⟩
            · refine lv_aload_n hC.1 hC.2.1 dX5_part_84 rfl (lv_at hl 1 rfl) ?_
              refine lv_aload hC.1 hC.2.1 dX5_part_85 (lv_at hl 0 rfl) ?_
              refine lv_iload hC.1 hC.2.1 dX5_part_87 (lv_at hl 5 rfl) ?_
              refine x_callV hC hw (lv_size hl) (c_X5_isWithin l G hRk_18 hIi_23 (p0 := p3) (by omega) (by omega)) gX5_part_X5_isWithin rfl dv_X5_isWithin hRk_18.1.1 rfl rfl (Nat.le_of_ble_eq_true rfl) (by rw [hRf]; decide) (by rw [hRl]; decide) (by omega) (by omega) dX5_part_89 (fun r9 M_28 H locs hq hw => ?_)
              obtain ⟨z_29, rfl, hM9, hz_29a, hz_29w⟩ := hq
              rw [hM9] at hw
              show W p l e R s m args below meth c H locs _ _ _ (F0 m 92 ls [.int (iN (z_29))])
              refine x_if_eq (tgt := 113) hC ⟨by omega, by omega⟩ dX5_part_92 (by decide) (fun c_30 => ?_) (fun c_30 => ?_)
              · refine x_sipush hC dX5_part_113 (by decide +kernel) ?_
                exact x_iret hC hw dX5_part_116 (by omega) (by omega) ⟨(-20000), thk_18, rfl, by omega, Or.inl ⟨by omega, by first | trivial | omega, (by have i9 := inI_01 (O ti_23.b) (p1).toNat ti_23; have i8 := inI_01 (O ti_23.b) (p3).toNat ti_23; rw [A_part, show tvW (ST.W (O, V, Wv, K, kp, kv, rfd)) p0.toNat = ti_23 from tvW_some hui_23]; show _ = (if ((inI (O ti_23.b) ti_23 (p1).toNat = 1 ∧ inI (O ti_23.b) ti_23 (p3).toNat = 1) ∧ ¬ mwN (O ti_23.b) (p3).toNat < mwN (O ti_23.b) (p1).toNat) then (frN Wv : Int) else -20000); omega), (by have i9 := inI_01 (O ti_23.b) (p1).toNat ti_23; have i8 := inI_01 (O ti_23.b) (p3).toNat ti_23; rw [S_part, show tvW (ST.W (O, V, Wv, K, kp, kv, rfd)) p0.toNat = ti_23 from tvW_some hui_23]; show MGm _ _ _ _ _ (if ((inI (O ti_23.b) ti_23 (p1).toNat = 1 ∧ inI (O ti_23.b) ti_23 (p3).toNat = 1) ∧ ¬ mwN (O ti_23.b) (p3).toNat < mwN (O ti_23.b) (p1).toNat) then _ else _); rw [if_neg (by omega)]; exact MGm.of hRk_18 hK)⟩⟩
              · refine lv_aload_n hC.1 hC.2.1 dX5_part_95 rfl (lv_at hl 1 rfl) ?_
                refine lv_aload hC.1 hC.2.1 dX5_part_96 (lv_at hl 0 rfl) ?_
                refine lv_iload_n hC.1 hC.2.1 dX5_part_98 rfl (lv_at hl 3 rfl) ?_
                refine x_callV hC hw (lv_size hl) (c_X5_weight l G hRk_18 hIi_23 (p0 := p1) (by omega) (by omega)) gX5_part_X5_weight rfl dv_X5_weight hRk_18.1.1 rfl rfl (Nat.le_of_ble_eq_true rfl) (by rw [hRf]; decide) (by rw [hRl]; decide) (by omega) (by omega) dX5_part_99 (fun r9 M_31 H locs hq hw => ?_)
                obtain ⟨z_32, rfl, hM9, hz_32a, hz_32b⟩ := hq
                rw [hM9] at hw
                show W p l e R s m args below meth c H locs _ _ _ (F0 m 102 ls [.int (iN (z_32))])
                refine lv_aload_n hC.1 hC.2.1 dX5_part_102 rfl (lv_at hl 1 rfl) ?_
                refine lv_aload hC.1 hC.2.1 dX5_part_103 (lv_at hl 0 rfl) ?_
                refine lv_iload hC.1 hC.2.1 dX5_part_105 (lv_at hl 5 rfl) ?_
                refine x_callV hC hw (lv_size hl) (c_X5_weight l G hRk_18 hIi_23 (p0 := p3) (by omega) (by omega)) gX5_part_X5_weight rfl dv_X5_weight hRk_18.1.1 rfl rfl (Nat.le_of_ble_eq_true rfl) (by rw [hRf]; decide) (by rw [hRl]; decide) (by omega) (by omega) dX5_part_107 (fun r9 M_33 H locs hq hw => ?_)
                obtain ⟨z_34, rfl, hM9, hz_34a, hz_34b⟩ := hq
                rw [hM9] at hw
                show W p l e R s m args below meth c H locs _ _ _ (F0 m 110 ls [.int (iN (z_34)), .int (iN (z_32))])
                refine x_icmp_le (tgt := 117) hC ⟨by omega, by omega⟩ ⟨by omega, by omega⟩ dX5_part_110 (by decide) (fun c_35 => ?_) (fun c_35 => ?_)
                · refine lv_aload_n hC.1 hC.2.1 dX5_part_117 rfl (lv_at hl 1 rfl) ?_
                  refine x_const hC dX5_part_118 ?_
                  refine x_newI hC hw (by decide +kernel) 5 rfl (by decide) (by omega) (by omega) dX5_part_119 (fun q_36 H hq_37 hw => ?_)
                  obtain ⟨M_38, hM_39⟩ : ∃ z, z = va_up M_17 q_36 (some (.inl (G.2 1, 5, .inl (fun _ => 0)))) := ⟨_, rfl⟩
                  rw [← hM_39] at hw
                  have hx_40 : xExt M_17 M_38 := by rw [hM_39]; exact xExt.new hq_37
                  have hA_41 : M_38 q_36 = some (.inl (G.2 1, 5, .inl (fun _ => 0))) := by rw [hM_39, va_up_self]
                  have h_42 := hRk_18.ext hx_40
                  have h_43 := hIi_23.x5 (xExt.x5 hx_40)
                  refine lv_dup hC.1 hC.2.1 dX5_part_121 rfl ?_
                  refine x_const hC dX5_part_122 ?_
                  refine lv_aload hC.1 hC.2.1 dX5_part_123 (lv_at hl 0 rfl) ?_
                  refine x_const hC dX5_part_125 ?_
                  refine x_ialdE (x := ((ti_23.b : Nat) : Int)) hC hw h_43.1 (by omega) (by omega) (by omega) dX5_part_126 h_43.2.2.1 ?_
                  refine x_iast hC hw hA_41 (by omega) (by omega) (by omega) dX5_part_127 (fun H locs hw => ?_)
                  obtain ⟨M_44, hM_45⟩ : ∃ z, z = va_up M_38 q_36 (some (.inl (G.2 1, 5, .inl (upd (fun _ => 0) (0 : Int).toNat (iN (((ti_23.b : Nat) : Int))))))) := ⟨_, rfl⟩
                  rw [← hM_45] at hw
                  have hA_46 : M_44 q_36 = some (.inl (G.2 1, 5, .inl (upd (fun _ => 0) (0 : Int).toNat (iN (((ti_23.b : Nat) : Int)))))) := by rw [hM_45, va_up_self]
                  have hx_47 := xExt.upd hq_37 hx_40 hM_45
                  have h_48 := hRk_18.ext hx_47
                  have h_49 := hIi_23.x5 (xExt.x5 hx_47)
                  refine lv_dup hC.1 hC.2.1 dX5_part_128 rfl ?_
                  refine x_const hC dX5_part_129 ?_
                  refine lv_iload_n hC.1 hC.2.1 dX5_part_130 rfl (lv_at hl 3 rfl) ?_
                  refine x_iast hC hw hA_46 (by omega) (by omega) (by omega) dX5_part_131 (fun H locs hw => ?_)
                  obtain ⟨M_50, hM_51⟩ : ∃ z, z = va_up M_44 q_36 (some (.inl (G.2 1, 5, .inl (upd (upd (fun _ => 0) (0 : Int).toNat (iN (((ti_23.b : Nat) : Int)))) (1 : Int).toNat (iN (p1)))))) := ⟨_, rfl⟩
                  rw [← hM_51] at hw
                  have hA_52 : M_50 q_36 = some (.inl (G.2 1, 5, .inl (upd (upd (fun _ => 0) (0 : Int).toNat (iN (((ti_23.b : Nat) : Int)))) (1 : Int).toNat (iN (p1))))) := by rw [hM_51, va_up_self]
                  have hx_53 := xExt.upd hq_37 hx_47 hM_51
                  have h_54 := hRk_18.ext hx_53
                  have h_55 := hIi_23.x5 (xExt.x5 hx_53)
                  refine lv_dup hC.1 hC.2.1 dX5_part_132 rfl ?_
                  refine x_const hC dX5_part_133 ?_
                  refine lv_iload_n hC.1 hC.2.1 dX5_part_134 rfl (lv_at hl 4 rfl) ?_
                  refine x_callS hC hw (lv_size hl) (c_X5_one l G (M := M_50) (p0 := p2) (by omega)) gX5_part_X5_one rfl dv_X5_one_s rfl (Nat.le_of_ble_eq_true rfl) (by rw [hRf]; decide) (by rw [hRl]; decide) (by omega) (by omega) dX5_part_135 (fun r9 M_56 H locs hq hw => ?_)
                  obtain ⟨z_57, rfl, hM9, hz_57a, hz_57b⟩ := hq
                  rw [hM9] at hw
                  show W p l e R s m args below meth c H locs _ _ _ (F0 m 138 ls [.int (iN (z_57)), .int (iN (2)), .ref q_36, .ref q_36, .ref a])
                  refine x_iast hC hw hA_52 (by omega) (by omega) (by omega) dX5_part_138 (fun H locs hw => ?_)
                  obtain ⟨M_58, hM_59⟩ : ∃ z, z = va_up M_50 q_36 (some (.inl (G.2 1, 5, .inl (upd (upd (upd (fun _ => 0) (0 : Int).toNat (iN (((ti_23.b : Nat) : Int)))) (1 : Int).toNat (iN (p1))) (2 : Int).toNat (iN (z_57)))))) := ⟨_, rfl⟩
                  rw [← hM_59] at hw
                  have hA_60 : M_58 q_36 = some (.inl (G.2 1, 5, .inl (upd (upd (upd (fun _ => 0) (0 : Int).toNat (iN (((ti_23.b : Nat) : Int)))) (1 : Int).toNat (iN (p1))) (2 : Int).toNat (iN (z_57))))) := by rw [hM_59, va_up_self]
                  have hx_61 := xExt.upd hq_37 hx_53 hM_59
                  have h_62 := hRk_18.ext hx_61
                  have h_63 := hIi_23.x5 (xExt.x5 hx_61)
                  refine lv_dup hC.1 hC.2.1 dX5_part_139 rfl ?_
                  refine x_const hC dX5_part_140 ?_
                  refine lv_iload hC.1 hC.2.1 dX5_part_141 (lv_at hl 5 rfl) ?_
                  refine x_iast hC hw hA_60 (by omega) (by omega) (by omega) dX5_part_143 (fun H locs hw => ?_)
                  obtain ⟨M_64, hM_65⟩ : ∃ z, z = va_up M_58 q_36 (some (.inl (G.2 1, 5, .inl (upd (upd (upd (upd (fun _ => 0) (0 : Int).toNat (iN (((ti_23.b : Nat) : Int)))) (1 : Int).toNat (iN (p1))) (2 : Int).toNat (iN (z_57))) (3 : Int).toNat (iN (p3)))))) := ⟨_, rfl⟩
                  rw [← hM_65] at hw
                  have hA_66 : M_64 q_36 = some (.inl (G.2 1, 5, .inl (upd (upd (upd (upd (fun _ => 0) (0 : Int).toNat (iN (((ti_23.b : Nat) : Int)))) (1 : Int).toNat (iN (p1))) (2 : Int).toNat (iN (z_57))) (3 : Int).toNat (iN (p3))))) := by rw [hM_65, va_up_self]
                  have hx_67 := xExt.upd hq_37 hx_61 hM_65
                  have h_68 := hRk_18.ext hx_67
                  have h_69 := hIi_23.x5 (xExt.x5 hx_67)
                  refine lv_dup hC.1 hC.2.1 dX5_part_144 rfl ?_
                  refine x_const hC dX5_part_145 ?_
                  refine lv_iload hC.1 hC.2.1 dX5_part_146 (lv_at hl 6 rfl) ?_
                  refine x_callS hC hw (lv_size hl) (c_X5_one l G (M := M_64) (p0 := p4) (by omega)) gX5_part_X5_one rfl dv_X5_one_s rfl (Nat.le_of_ble_eq_true rfl) (by rw [hRf]; decide) (by rw [hRl]; decide) (by omega) (by omega) dX5_part_148 (fun r9 M_70 H locs hq hw => ?_)
                  obtain ⟨z_71, rfl, hM9, hz_71a, hz_71b⟩ := hq
                  rw [hM9] at hw
                  show W p l e R s m args below meth c H locs _ _ _ (F0 m 151 ls [.int (iN (z_71)), .int (iN (4)), .ref q_36, .ref q_36, .ref a])
                  refine x_iast hC hw hA_66 (by omega) (by omega) (by omega) dX5_part_151 (fun H locs hw => ?_)
                  obtain ⟨M_72, hM_73⟩ : ∃ z, z = va_up M_64 q_36 (some (.inl (G.2 1, 5, .inl (upd (upd (upd (upd (upd (fun _ => 0) (0 : Int).toNat (iN (((ti_23.b : Nat) : Int)))) (1 : Int).toNat (iN (p1))) (2 : Int).toNat (iN (z_57))) (3 : Int).toNat (iN (p3))) (4 : Int).toNat (iN (z_71)))))) := ⟨_, rfl⟩
                  rw [← hM_73] at hw
                  have hA_74 : M_72 q_36 = some (.inl (G.2 1, 5, .inl (upd (upd (upd (upd (upd (fun _ => 0) (0 : Int).toNat (iN (((ti_23.b : Nat) : Int)))) (1 : Int).toNat (iN (p1))) (2 : Int).toNat (iN (z_57))) (3 : Int).toNat (iN (p3))) (4 : Int).toNat (iN (z_71))))) := by rw [hM_73, va_up_self]
                  have hx_75 := xExt.upd hq_37 hx_67 hM_73
                  have h_76 := hRk_18.ext hx_75
                  have h_77 := hIi_23.x5 (xExt.x5 hx_75)
                  have hI_78 : Its G M_72 q_36 (upd (upd (upd (upd (upd (fun _ => 0) (0 : Int).toNat (iN (((ti_23.b : Nat) : Int)))) (1 : Int).toNat (iN (p1))) (2 : Int).toNat (iN (z_57))) (3 : Int).toNat (iN (p3))) (4 : Int).toNat (iN (z_71))) (ti_23.b, p1, p3, p2, p4) := ⟨hA_74, ⟨(show ti_23.b < 3 by omega), (show p1 = -10000 ∨ (0 ≤ p1 ∧ p1 ≤ 99) by omega), (show p3 = -10000 ∨ (0 ≤ p3 ∧ p3 ≤ 99) by omega), (show p2 = 0 ∨ p2 = 1 by omega), (show p4 = 0 ∨ p4 = 1 by omega)⟩, rfl, rfl, (show iN (z_57) = iN (p2) from congrArg iN (by omega)), rfl, (show iN (z_71) = iN (p4) from congrArg iN (by omega))⟩
                  refine x_callV hC hw (lv_size hl) (c_X5_open l G h_76 hI_78 (by omega)) gX5_part_X5_open rfl dv_X5_open h_76.1.1 rfl rfl (Nat.le_of_ble_eq_true rfl) (by rw [hRf]; decide) (by rw [hRl]; decide) (by omega) (by omega) dX5_part_152 (fun r9 M_79 H locs hq hw => ?_)
                  obtain ⟨z_81, fyk_80, Wvk_80, rfl, hz_81a, hz_81f, he0k_80, hx5k_80, hRk_80⟩ := hq
                  have h_82 := h_77.x5 hx5k_80
                  have h_83 := hI_78.x5 hx5k_80
                  have hsck_80 := hRk_80.sc.1
                  show W p l e R s m args below meth c H locs _ _ _ (F0 m 155 ls [.int (iN (z_81))])
                  exact x_iret hC hw dX5_part_155 (by omega) (by omega) ⟨z_81, thk_18, rfl, by omega, Or.inl ⟨by omega, by first | trivial | omega, (by have i9 := inI_01 (O ti_23.b) (p1).toNat ti_23; have i8 := inI_01 (O ti_23.b) (p3).toNat ti_23; rw [A_part, show tvW (ST.W (O, V, Wv, K, kp, kv, rfd)) p0.toNat = ti_23 from tvW_some hui_23]; show _ = (if ((inI (O ti_23.b) ti_23 (p1).toNat = 1 ∧ inI (O ti_23.b) ti_23 (p3).toNat = 1) ∧ ¬ mwN (O ti_23.b) (p3).toNat < mwN (O ti_23.b) (p1).toNat) then (frN Wv : Int) else -20000); omega), (by have i9 := inI_01 (O ti_23.b) (p1).toNat ti_23; have i8 := inI_01 (O ti_23.b) (p3).toNat ti_23; rw [S_part, show tvW (ST.W (O, V, Wv, K, kp, kv, rfd)) p0.toNat = ti_23 from tvW_some hui_23]; show MGm _ _ _ _ _ (if ((inI (O ti_23.b) ti_23 (p1).toNat = 1 ∧ inI (O ti_23.b) ti_23 (p3).toNat = 1) ∧ ¬ mwN (O ti_23.b) (p3).toNat < mwN (O ti_23.b) (p1).toNat) then _ else _); rw [if_pos (by omega)]; exact (by have e9 := hRk_80; rw [he0k_80] at e9; exact MGm.of e9 hK))⟩⟩
                · refine x_sipush hC dX5_part_113 (by decide +kernel) ?_
                  exact x_iret hC hw dX5_part_116 (by omega) (by omega) ⟨(-20000), thk_18, rfl, by omega, Or.inl ⟨by omega, by first | trivial | omega, (by have i9 := inI_01 (O ti_23.b) (p1).toNat ti_23; have i8 := inI_01 (O ti_23.b) (p3).toNat ti_23; rw [A_part, show tvW (ST.W (O, V, Wv, K, kp, kv, rfd)) p0.toNat = ti_23 from tvW_some hui_23]; show _ = (if ((inI (O ti_23.b) ti_23 (p1).toNat = 1 ∧ inI (O ti_23.b) ti_23 (p3).toNat = 1) ∧ ¬ mwN (O ti_23.b) (p3).toNat < mwN (O ti_23.b) (p1).toNat) then (frN Wv : Int) else -20000); omega), (by have i9 := inI_01 (O ti_23.b) (p1).toNat ti_23; have i8 := inI_01 (O ti_23.b) (p3).toNat ti_23; rw [S_part, show tvW (ST.W (O, V, Wv, K, kp, kv, rfd)) p0.toNat = ti_23 from tvW_some hui_23]; show MGm _ _ _ _ _ (if ((inI (O ti_23.b) ti_23 (p1).toNat = 1 ∧ inI (O ti_23.b) ti_23 (p3).toNat = 1) ∧ ¬ mwN (O ti_23.b) (p3).toNat < mwN (O ti_23.b) (p1).toNat) then _ else _); rw [if_neg (by omega)]; exact MGm.of hRk_18 hK)⟩⟩
          · replace hz_19r := (hz_19r.resolve_left (fun q9 => by have e9 := q9.1; omega)).2
            refine x_const hC dX5_part_64 ?_
            exact x_iret hC hw dX5_part_65 (by omega) (by omega) ⟨0, thk_18, rfl, by omega, Or.inr ⟨by omega, by omega, MGm.of hRk_18 hK⟩⟩
        · refine x_const hC dX5_part_52 ?_
          refine lv_goto (tgt := 57) hC.1 hC.2.1 dX5_part_53 (by decide) ?_
          refine x_const hC dX5_part_57 ?_
          refine x_callV hC hw (lv_size hl) (c_X5_refuse l G hRk_11 (p0 := 1) (by omega) (p1 := 3) (by omega) (by omega)) gX5_part_X5_refuse rfl dv_X5_refuse hRk_11.1.1 rfl rfl (Nat.le_of_ble_eq_true rfl) (by rw [hRf]; decide) (by rw [hRl]; decide) (by omega) (by omega) dX5_part_58 (fun r9 M_84 H locs hq hw => ?_)
          obtain ⟨z_86, thk_85, rfl, hz_86r, hx5k_85, hRk_85⟩ := hq
          have hsck_85 := hRk_85.sc.1
          show W p l e R s m args below meth c H locs _ _ _ (F0 m 61 ls [.int (iN (z_86))])
          refine x_if_eq (tgt := 66) hC ⟨by omega, by omega⟩ dX5_part_61 (by decide) (fun c_87 => ?_) (fun c_87 => ?_)
          · replace hz_86r := (hz_86r.resolve_right (fun q9 => by have e9 := q9.1; omega)).2
            refine lv_aload_n hC.1 hC.2.1 dX5_part_66 rfl (lv_at hl 0 rfl) ?_
            refine x_get hC hw hRk_85.1.1 rfl hinX5 5 (by decide) (by decide +kernel) rfl dX5_part_67 ?_
            refine lv_iload_n hC.1 hC.2.1 dX5_part_70 rfl (lv_at hl 1 rfl) ?_
            refine x_ald4 hC hw hRk_85.1.2.2.2.2.1 (by omega) (by omega) (by omega) dX5_part_71 ?_
            obtain ⟨y_88, hy_89⟩ := x_some (hz_2n (by omega))
            rw [hy_89]
            obtain ⟨ti_90, fi_90, hui_90, hIi_90⟩ := (hRk_85.vw (show (p0).toNat < 4 by omega)).yes hy_89
            obtain ⟨htat_91, htbt_91, htct_91, htdt_91, htet_91⟩ := id hIi_90.2.1
            show W p l e R s m args below meth c _ _ _ _ _ (F0 m 72 ls [.ref y_88])
            refine lv_astore (lv' := [(6, .ref y_88), (0, .ref a), (1, .int (iN (p0))), (2, .int (iN (p1))), (3, .int (iN (p2))), (4, .int (iN (p3))), (5, .int (iN (p4)))]) hC.1 hC.2.1 dX5_part_72 hl (by decide) rfl (fun ls hl => ?_)
            refine lv_aload_n hC.1 hC.2.1 dX5_part_74 rfl (lv_at hl 1 rfl) ?_
            refine lv_aload hC.1 hC.2.1 dX5_part_75 (lv_at hl 0 rfl) ?_
            refine lv_iload_n hC.1 hC.2.1 dX5_part_77 rfl (lv_at hl 3 rfl) ?_
            refine x_callV hC hw (lv_size hl) (c_X5_isWithin l G hRk_85 hIi_90 (p0 := p1) (by omega) (by omega)) gX5_part_X5_isWithin rfl dv_X5_isWithin hRk_85.1.1 rfl rfl (Nat.le_of_ble_eq_true rfl) (by rw [hRf]; decide) (by rw [hRl]; decide) (by omega) (by omega) dX5_part_78 (fun r9 M_92 H locs hq hw => ?_)
            obtain ⟨z_93, rfl, hM9, hz_93a, hz_93w⟩ := hq
            rw [hM9] at hw
            show W p l e R s m args below meth c H locs _ _ _ (F0 m 81 ls [.int (iN (z_93))])
            refine x_if_eq (tgt := 113) hC ⟨by omega, by omega⟩ dX5_part_81 (by decide) (fun c_94 => ?_) (fun c_94 => ?_)
            · refine x_sipush hC dX5_part_113 (by decide +kernel) ?_
              exact x_iret hC hw dX5_part_116 (by omega) (by omega) ⟨(-20000), thk_85, rfl, by omega, Or.inl ⟨by omega, by first | trivial | omega, (by have i9 := inI_01 (O ti_90.b) (p1).toNat ti_90; have i8 := inI_01 (O ti_90.b) (p3).toNat ti_90; rw [A_part, show tvW (ST.W (O, V, Wv, K, kp, kv, rfd)) p0.toNat = ti_90 from tvW_some hui_90]; show _ = (if ((inI (O ti_90.b) ti_90 (p1).toNat = 1 ∧ inI (O ti_90.b) ti_90 (p3).toNat = 1) ∧ ¬ mwN (O ti_90.b) (p3).toNat < mwN (O ti_90.b) (p1).toNat) then (frN Wv : Int) else -20000); omega), (by have i9 := inI_01 (O ti_90.b) (p1).toNat ti_90; have i8 := inI_01 (O ti_90.b) (p3).toNat ti_90; rw [S_part, show tvW (ST.W (O, V, Wv, K, kp, kv, rfd)) p0.toNat = ti_90 from tvW_some hui_90]; show MGm _ _ _ _ _ (if ((inI (O ti_90.b) ti_90 (p1).toNat = 1 ∧ inI (O ti_90.b) ti_90 (p3).toNat = 1) ∧ ¬ mwN (O ti_90.b) (p3).toNat < mwN (O ti_90.b) (p1).toNat) then _ else _); rw [if_neg (by omega)]; exact MGm.of hRk_85 hK)⟩⟩
            · refine lv_aload_n hC.1 hC.2.1 dX5_part_84 rfl (lv_at hl 1 rfl) ?_
              refine lv_aload hC.1 hC.2.1 dX5_part_85 (lv_at hl 0 rfl) ?_
              refine lv_iload hC.1 hC.2.1 dX5_part_87 (lv_at hl 5 rfl) ?_
              refine x_callV hC hw (lv_size hl) (c_X5_isWithin l G hRk_85 hIi_90 (p0 := p3) (by omega) (by omega)) gX5_part_X5_isWithin rfl dv_X5_isWithin hRk_85.1.1 rfl rfl (Nat.le_of_ble_eq_true rfl) (by rw [hRf]; decide) (by rw [hRl]; decide) (by omega) (by omega) dX5_part_89 (fun r9 M_95 H locs hq hw => ?_)
              obtain ⟨z_96, rfl, hM9, hz_96a, hz_96w⟩ := hq
              rw [hM9] at hw
              show W p l e R s m args below meth c H locs _ _ _ (F0 m 92 ls [.int (iN (z_96))])
              refine x_if_eq (tgt := 113) hC ⟨by omega, by omega⟩ dX5_part_92 (by decide) (fun c_97 => ?_) (fun c_97 => ?_)
              · refine x_sipush hC dX5_part_113 (by decide +kernel) ?_
                exact x_iret hC hw dX5_part_116 (by omega) (by omega) ⟨(-20000), thk_85, rfl, by omega, Or.inl ⟨by omega, by first | trivial | omega, (by have i9 := inI_01 (O ti_90.b) (p1).toNat ti_90; have i8 := inI_01 (O ti_90.b) (p3).toNat ti_90; rw [A_part, show tvW (ST.W (O, V, Wv, K, kp, kv, rfd)) p0.toNat = ti_90 from tvW_some hui_90]; show _ = (if ((inI (O ti_90.b) ti_90 (p1).toNat = 1 ∧ inI (O ti_90.b) ti_90 (p3).toNat = 1) ∧ ¬ mwN (O ti_90.b) (p3).toNat < mwN (O ti_90.b) (p1).toNat) then (frN Wv : Int) else -20000); omega), (by have i9 := inI_01 (O ti_90.b) (p1).toNat ti_90; have i8 := inI_01 (O ti_90.b) (p3).toNat ti_90; rw [S_part, show tvW (ST.W (O, V, Wv, K, kp, kv, rfd)) p0.toNat = ti_90 from tvW_some hui_90]; show MGm _ _ _ _ _ (if ((inI (O ti_90.b) ti_90 (p1).toNat = 1 ∧ inI (O ti_90.b) ti_90 (p3).toNat = 1) ∧ ¬ mwN (O ti_90.b) (p3).toNat < mwN (O ti_90.b) (p1).toNat) then _ else _); rw [if_neg (by omega)]; exact MGm.of hRk_85 hK)⟩⟩
              · refine lv_aload_n hC.1 hC.2.1 dX5_part_95 rfl (lv_at hl 1 rfl) ?_
                refine lv_aload hC.1 hC.2.1 dX5_part_96 (lv_at hl 0 rfl) ?_
                refine lv_iload_n hC.1 hC.2.1 dX5_part_98 rfl (lv_at hl 3 rfl) ?_
                refine x_callV hC hw (lv_size hl) (c_X5_weight l G hRk_85 hIi_90 (p0 := p1) (by omega) (by omega)) gX5_part_X5_weight rfl dv_X5_weight hRk_85.1.1 rfl rfl (Nat.le_of_ble_eq_true rfl) (by rw [hRf]; decide) (by rw [hRl]; decide) (by omega) (by omega) dX5_part_99 (fun r9 M_98 H locs hq hw => ?_)
                obtain ⟨z_99, rfl, hM9, hz_99a, hz_99b⟩ := hq
                rw [hM9] at hw
                show W p l e R s m args below meth c H locs _ _ _ (F0 m 102 ls [.int (iN (z_99))])
                refine lv_aload_n hC.1 hC.2.1 dX5_part_102 rfl (lv_at hl 1 rfl) ?_
                refine lv_aload hC.1 hC.2.1 dX5_part_103 (lv_at hl 0 rfl) ?_
                refine lv_iload hC.1 hC.2.1 dX5_part_105 (lv_at hl 5 rfl) ?_
                refine x_callV hC hw (lv_size hl) (c_X5_weight l G hRk_85 hIi_90 (p0 := p3) (by omega) (by omega)) gX5_part_X5_weight rfl dv_X5_weight hRk_85.1.1 rfl rfl (Nat.le_of_ble_eq_true rfl) (by rw [hRf]; decide) (by rw [hRl]; decide) (by omega) (by omega) dX5_part_107 (fun r9 M_100 H locs hq hw => ?_)
                obtain ⟨z_101, rfl, hM9, hz_101a, hz_101b⟩ := hq
                rw [hM9] at hw
                show W p l e R s m args below meth c H locs _ _ _ (F0 m 110 ls [.int (iN (z_101)), .int (iN (z_99))])
                refine x_icmp_le (tgt := 117) hC ⟨by omega, by omega⟩ ⟨by omega, by omega⟩ dX5_part_110 (by decide) (fun c_102 => ?_) (fun c_102 => ?_)
                · refine lv_aload_n hC.1 hC.2.1 dX5_part_117 rfl (lv_at hl 1 rfl) ?_
                  refine x_const hC dX5_part_118 ?_
                  refine x_newI hC hw (by decide +kernel) 5 rfl (by decide) (by omega) (by omega) dX5_part_119 (fun q_103 H hq_104 hw => ?_)
                  obtain ⟨M_105, hM_106⟩ : ∃ z, z = va_up M_84 q_103 (some (.inl (G.2 1, 5, .inl (fun _ => 0)))) := ⟨_, rfl⟩
                  rw [← hM_106] at hw
                  have hx_107 : xExt M_84 M_105 := by rw [hM_106]; exact xExt.new hq_104
                  have hA_108 : M_105 q_103 = some (.inl (G.2 1, 5, .inl (fun _ => 0))) := by rw [hM_106, va_up_self]
                  have h_109 := hRk_85.ext hx_107
                  have h_110 := hIi_90.x5 (xExt.x5 hx_107)
                  refine lv_dup hC.1 hC.2.1 dX5_part_121 rfl ?_
                  refine x_const hC dX5_part_122 ?_
                  refine lv_aload hC.1 hC.2.1 dX5_part_123 (lv_at hl 0 rfl) ?_
                  refine x_const hC dX5_part_125 ?_
                  refine x_ialdE (x := ((ti_90.b : Nat) : Int)) hC hw h_110.1 (by omega) (by omega) (by omega) dX5_part_126 h_110.2.2.1 ?_
                  refine x_iast hC hw hA_108 (by omega) (by omega) (by omega) dX5_part_127 (fun H locs hw => ?_)
                  obtain ⟨M_111, hM_112⟩ : ∃ z, z = va_up M_105 q_103 (some (.inl (G.2 1, 5, .inl (upd (fun _ => 0) (0 : Int).toNat (iN (((ti_90.b : Nat) : Int))))))) := ⟨_, rfl⟩
                  rw [← hM_112] at hw
                  have hA_113 : M_111 q_103 = some (.inl (G.2 1, 5, .inl (upd (fun _ => 0) (0 : Int).toNat (iN (((ti_90.b : Nat) : Int)))))) := by rw [hM_112, va_up_self]
                  have hx_114 := xExt.upd hq_104 hx_107 hM_112
                  have h_115 := hRk_85.ext hx_114
                  have h_116 := hIi_90.x5 (xExt.x5 hx_114)
                  refine lv_dup hC.1 hC.2.1 dX5_part_128 rfl ?_
                  refine x_const hC dX5_part_129 ?_
                  refine lv_iload_n hC.1 hC.2.1 dX5_part_130 rfl (lv_at hl 3 rfl) ?_
                  refine x_iast hC hw hA_113 (by omega) (by omega) (by omega) dX5_part_131 (fun H locs hw => ?_)
                  obtain ⟨M_117, hM_118⟩ : ∃ z, z = va_up M_111 q_103 (some (.inl (G.2 1, 5, .inl (upd (upd (fun _ => 0) (0 : Int).toNat (iN (((ti_90.b : Nat) : Int)))) (1 : Int).toNat (iN (p1)))))) := ⟨_, rfl⟩
                  rw [← hM_118] at hw
                  have hA_119 : M_117 q_103 = some (.inl (G.2 1, 5, .inl (upd (upd (fun _ => 0) (0 : Int).toNat (iN (((ti_90.b : Nat) : Int)))) (1 : Int).toNat (iN (p1))))) := by rw [hM_118, va_up_self]
                  have hx_120 := xExt.upd hq_104 hx_114 hM_118
                  have h_121 := hRk_85.ext hx_120
                  have h_122 := hIi_90.x5 (xExt.x5 hx_120)
                  refine lv_dup hC.1 hC.2.1 dX5_part_132 rfl ?_
                  refine x_const hC dX5_part_133 ?_
                  refine lv_iload_n hC.1 hC.2.1 dX5_part_134 rfl (lv_at hl 4 rfl) ?_
                  refine x_callS hC hw (lv_size hl) (c_X5_one l G (M := M_117) (p0 := p2) (by omega)) gX5_part_X5_one rfl dv_X5_one_s rfl (Nat.le_of_ble_eq_true rfl) (by rw [hRf]; decide) (by rw [hRl]; decide) (by omega) (by omega) dX5_part_135 (fun r9 M_123 H locs hq hw => ?_)
                  obtain ⟨z_124, rfl, hM9, hz_124a, hz_124b⟩ := hq
                  rw [hM9] at hw
                  show W p l e R s m args below meth c H locs _ _ _ (F0 m 138 ls [.int (iN (z_124)), .int (iN (2)), .ref q_103, .ref q_103, .ref a])
                  refine x_iast hC hw hA_119 (by omega) (by omega) (by omega) dX5_part_138 (fun H locs hw => ?_)
                  obtain ⟨M_125, hM_126⟩ : ∃ z, z = va_up M_117 q_103 (some (.inl (G.2 1, 5, .inl (upd (upd (upd (fun _ => 0) (0 : Int).toNat (iN (((ti_90.b : Nat) : Int)))) (1 : Int).toNat (iN (p1))) (2 : Int).toNat (iN (z_124)))))) := ⟨_, rfl⟩
                  rw [← hM_126] at hw
                  have hA_127 : M_125 q_103 = some (.inl (G.2 1, 5, .inl (upd (upd (upd (fun _ => 0) (0 : Int).toNat (iN (((ti_90.b : Nat) : Int)))) (1 : Int).toNat (iN (p1))) (2 : Int).toNat (iN (z_124))))) := by rw [hM_126, va_up_self]
                  have hx_128 := xExt.upd hq_104 hx_120 hM_126
                  have h_129 := hRk_85.ext hx_128
                  have h_130 := hIi_90.x5 (xExt.x5 hx_128)
                  refine lv_dup hC.1 hC.2.1 dX5_part_139 rfl ?_
                  refine x_const hC dX5_part_140 ?_
                  refine lv_iload hC.1 hC.2.1 dX5_part_141 (lv_at hl 5 rfl) ?_
                  refine x_iast hC hw hA_127 (by omega) (by omega) (by omega) dX5_part_143 (fun H locs hw => ?_)
                  obtain ⟨M_131, hM_132⟩ : ∃ z, z = va_up M_125 q_103 (some (.inl (G.2 1, 5, .inl (upd (upd (upd (upd (fun _ => 0) (0 : Int).toNat (iN (((ti_90.b : Nat) : Int)))) (1 : Int).toNat (iN (p1))) (2 : Int).toNat (iN (z_124))) (3 : Int).toNat (iN (p3)))))) := ⟨_, rfl⟩
                  rw [← hM_132] at hw
                  have hA_133 : M_131 q_103 = some (.inl (G.2 1, 5, .inl (upd (upd (upd (upd (fun _ => 0) (0 : Int).toNat (iN (((ti_90.b : Nat) : Int)))) (1 : Int).toNat (iN (p1))) (2 : Int).toNat (iN (z_124))) (3 : Int).toNat (iN (p3))))) := by rw [hM_132, va_up_self]
                  have hx_134 := xExt.upd hq_104 hx_128 hM_132
                  have h_135 := hRk_85.ext hx_134
                  have h_136 := hIi_90.x5 (xExt.x5 hx_134)
                  refine lv_dup hC.1 hC.2.1 dX5_part_144 rfl ?_
                  refine x_const hC dX5_part_145 ?_
                  refine lv_iload hC.1 hC.2.1 dX5_part_146 (lv_at hl 6 rfl) ?_
                  refine x_callS hC hw (lv_size hl) (c_X5_one l G (M := M_131) (p0 := p4) (by omega)) gX5_part_X5_one rfl dv_X5_one_s rfl (Nat.le_of_ble_eq_true rfl) (by rw [hRf]; decide) (by rw [hRl]; decide) (by omega) (by omega) dX5_part_148 (fun r9 M_137 H locs hq hw => ?_)
                  obtain ⟨z_138, rfl, hM9, hz_138a, hz_138b⟩ := hq
                  rw [hM9] at hw
                  show W p l e R s m args below meth c H locs _ _ _ (F0 m 151 ls [.int (iN (z_138)), .int (iN (4)), .ref q_103, .ref q_103, .ref a])
                  refine x_iast hC hw hA_133 (by omega) (by omega) (by omega) dX5_part_151 (fun H locs hw => ?_)
                  obtain ⟨M_139, hM_140⟩ : ∃ z, z = va_up M_131 q_103 (some (.inl (G.2 1, 5, .inl (upd (upd (upd (upd (upd (fun _ => 0) (0 : Int).toNat (iN (((ti_90.b : Nat) : Int)))) (1 : Int).toNat (iN (p1))) (2 : Int).toNat (iN (z_124))) (3 : Int).toNat (iN (p3))) (4 : Int).toNat (iN (z_138)))))) := ⟨_, rfl⟩
                  rw [← hM_140] at hw
                  have hA_141 : M_139 q_103 = some (.inl (G.2 1, 5, .inl (upd (upd (upd (upd (upd (fun _ => 0) (0 : Int).toNat (iN (((ti_90.b : Nat) : Int)))) (1 : Int).toNat (iN (p1))) (2 : Int).toNat (iN (z_124))) (3 : Int).toNat (iN (p3))) (4 : Int).toNat (iN (z_138))))) := by rw [hM_140, va_up_self]
                  have hx_142 := xExt.upd hq_104 hx_134 hM_140
                  have h_143 := hRk_85.ext hx_142
                  have h_144 := hIi_90.x5 (xExt.x5 hx_142)
                  have hI_145 : Its G M_139 q_103 (upd (upd (upd (upd (upd (fun _ => 0) (0 : Int).toNat (iN (((ti_90.b : Nat) : Int)))) (1 : Int).toNat (iN (p1))) (2 : Int).toNat (iN (z_124))) (3 : Int).toNat (iN (p3))) (4 : Int).toNat (iN (z_138))) (ti_90.b, p1, p3, p2, p4) := ⟨hA_141, ⟨(show ti_90.b < 3 by omega), (show p1 = -10000 ∨ (0 ≤ p1 ∧ p1 ≤ 99) by omega), (show p3 = -10000 ∨ (0 ≤ p3 ∧ p3 ≤ 99) by omega), (show p2 = 0 ∨ p2 = 1 by omega), (show p4 = 0 ∨ p4 = 1 by omega)⟩, rfl, rfl, (show iN (z_124) = iN (p2) from congrArg iN (by omega)), rfl, (show iN (z_138) = iN (p4) from congrArg iN (by omega))⟩
                  refine x_callV hC hw (lv_size hl) (c_X5_open l G h_143 hI_145 (by omega)) gX5_part_X5_open rfl dv_X5_open h_143.1.1 rfl rfl (Nat.le_of_ble_eq_true rfl) (by rw [hRf]; decide) (by rw [hRl]; decide) (by omega) (by omega) dX5_part_152 (fun r9 M_146 H locs hq hw => ?_)
                  obtain ⟨z_148, fyk_147, Wvk_147, rfl, hz_148a, hz_148f, he0k_147, hx5k_147, hRk_147⟩ := hq
                  have h_149 := h_144.x5 hx5k_147
                  have h_150 := hI_145.x5 hx5k_147
                  have hsck_147 := hRk_147.sc.1
                  show W p l e R s m args below meth c H locs _ _ _ (F0 m 155 ls [.int (iN (z_148))])
                  exact x_iret hC hw dX5_part_155 (by omega) (by omega) ⟨z_148, thk_85, rfl, by omega, Or.inl ⟨by omega, by first | trivial | omega, (by have i9 := inI_01 (O ti_90.b) (p1).toNat ti_90; have i8 := inI_01 (O ti_90.b) (p3).toNat ti_90; rw [A_part, show tvW (ST.W (O, V, Wv, K, kp, kv, rfd)) p0.toNat = ti_90 from tvW_some hui_90]; show _ = (if ((inI (O ti_90.b) ti_90 (p1).toNat = 1 ∧ inI (O ti_90.b) ti_90 (p3).toNat = 1) ∧ ¬ mwN (O ti_90.b) (p3).toNat < mwN (O ti_90.b) (p1).toNat) then (frN Wv : Int) else -20000); omega), (by have i9 := inI_01 (O ti_90.b) (p1).toNat ti_90; have i8 := inI_01 (O ti_90.b) (p3).toNat ti_90; rw [S_part, show tvW (ST.W (O, V, Wv, K, kp, kv, rfd)) p0.toNat = ti_90 from tvW_some hui_90]; show MGm _ _ _ _ _ (if ((inI (O ti_90.b) ti_90 (p1).toNat = 1 ∧ inI (O ti_90.b) ti_90 (p3).toNat = 1) ∧ ¬ mwN (O ti_90.b) (p3).toNat < mwN (O ti_90.b) (p1).toNat) then _ else _); rw [if_pos (by omega)]; exact (by have e9 := hRk_147; rw [he0k_147] at e9; exact MGm.of e9 hK))⟩⟩
                · refine x_sipush hC dX5_part_113 (by decide +kernel) ?_
                  exact x_iret hC hw dX5_part_116 (by omega) (by omega) ⟨(-20000), thk_85, rfl, by omega, Or.inl ⟨by omega, by first | trivial | omega, (by have i9 := inI_01 (O ti_90.b) (p1).toNat ti_90; have i8 := inI_01 (O ti_90.b) (p3).toNat ti_90; rw [A_part, show tvW (ST.W (O, V, Wv, K, kp, kv, rfd)) p0.toNat = ti_90 from tvW_some hui_90]; show _ = (if ((inI (O ti_90.b) ti_90 (p1).toNat = 1 ∧ inI (O ti_90.b) ti_90 (p3).toNat = 1) ∧ ¬ mwN (O ti_90.b) (p3).toNat < mwN (O ti_90.b) (p1).toNat) then (frN Wv : Int) else -20000); omega), (by have i9 := inI_01 (O ti_90.b) (p1).toNat ti_90; have i8 := inI_01 (O ti_90.b) (p3).toNat ti_90; rw [S_part, show tvW (ST.W (O, V, Wv, K, kp, kv, rfd)) p0.toNat = ti_90 from tvW_some hui_90]; show MGm _ _ _ _ _ (if ((inI (O ti_90.b) ti_90 (p1).toNat = 1 ∧ inI (O ti_90.b) ti_90 (p3).toNat = 1) ∧ ¬ mwN (O ti_90.b) (p3).toNat < mwN (O ti_90.b) (p1).toNat) then _ else _); rw [if_neg (by omega)]; exact MGm.of hRk_85 hK)⟩⟩
          · replace hz_86r := (hz_86r.resolve_left (fun q9 => by have e9 := q9.1; omega)).2
            refine x_const hC dX5_part_64 ?_
            exact x_iret hC hw dX5_part_65 (by omega) (by omega) ⟨0, thk_85, rfl, by omega, Or.inr ⟨by omega, by omega, MGm.of hRk_85 hK⟩⟩
    · refine lv_iload hC.1 hC.2.1 dX5_part_21 (lv_at hl 4 rfl) ?_
      refine x_callS hC hw (lv_size hl) (c_X5_isNoKey l G (M := M_3) (p0 := p3) (by omega)) gX5_part_X5_isNoKey rfl dv_X5_isNoKey_s rfl (Nat.le_of_ble_eq_true rfl) (by rw [hRf]; decide) (by rw [hRl]; decide) (by omega) (by omega) dX5_part_23 (fun r9 M_151 H locs hq hw => ?_)
      obtain ⟨z_152, rfl, hM9, hz_152a, hz_152b⟩ := hq
      rw [hM9] at hw
      show W p l e R s m args below meth c H locs _ _ _ (F0 m 26 ls [.int (iN (z_152)), .ref a])
      refine x_if_eq (tgt := 33) hC ⟨by omega, by omega⟩ dX5_part_26 (by decide) (fun c_153 => ?_) (fun c_153 => ?_)
      · refine x_const hC dX5_part_33 ?_
        refine x_const hC dX5_part_34 ?_
        refine x_callV hC hw (lv_size hl) (c_X5_refuse l G hRk_4 (p0 := 0) (by omega) (p1 := 2) (by omega) (by omega)) gX5_part_X5_refuse rfl dv_X5_refuse hRk_4.1.1 rfl rfl (Nat.le_of_ble_eq_true rfl) (by rw [hRf]; decide) (by rw [hRl]; decide) (by omega) (by omega) dX5_part_35 (fun r9 M_154 H locs hq hw => ?_)
        obtain ⟨z_156, thk_155, rfl, hz_156r, hx5k_155, hRk_155⟩ := hq
        have hsck_155 := hRk_155.sc.1
        show W p l e R s m args below meth c H locs _ _ _ (F0 m 38 ls [.int (iN (z_156))])
        refine x_if_ne (tgt := 64) hC ⟨by omega, by omega⟩ dX5_part_38 (by decide) (fun c_157 => ?_) (fun c_157 => ?_)
        · replace hz_156r := (hz_156r.resolve_left (fun q9 => by have e9 := q9.1; omega)).2
          refine x_const hC dX5_part_64 ?_
          exact x_iret hC hw dX5_part_65 (by omega) (by omega) ⟨0, thk_155, rfl, by omega, Or.inr ⟨by omega, by omega, MGm.of hRk_155 hK⟩⟩
        · replace hz_156r := (hz_156r.resolve_right (fun q9 => by have e9 := q9.1; omega)).2
          refine lv_aload_n hC.1 hC.2.1 dX5_part_41 rfl (lv_at hl 0 rfl) ?_
          refine lv_aload_n hC.1 hC.2.1 dX5_part_42 rfl (lv_at hl 0 rfl) ?_
          refine x_callV hC hw (lv_size hl) (c_X5_free l G hRk_155) gX5_part_X5_free rfl dv_X5_free hRk_155.1.1 rfl rfl (Nat.le_of_ble_eq_true rfl) (by rw [hRf]; decide) (by rw [hRl]; decide) (by omega) (by omega) dX5_part_43 (fun r9 M_158 H locs hq hw => ?_)
          obtain ⟨z_159, rfl, hM9, hz_159a, hz_159f⟩ := hq
          rw [hM9] at hw
          show W p l e R s m args below meth c H locs _ _ _ (F0 m 46 ls [.int (iN (z_159)), .ref a])
          refine x_sipush hC dX5_part_46 (by decide +kernel) ?_
          refine x_icmp_ne (tgt := 56) hC ⟨by omega, by omega⟩ ⟨by omega, by omega⟩ dX5_part_49 (by decide) (fun c_160 => ?_) (fun c_160 => ?_)
          · refine x_const hC dX5_part_56 ?_
            refine x_const hC dX5_part_57 ?_
            refine x_callV hC hw (lv_size hl) (c_X5_refuse l G hRk_155 (p0 := 0) (by omega) (p1 := 3) (by omega) (by omega)) gX5_part_X5_refuse rfl dv_X5_refuse hRk_155.1.1 rfl rfl (Nat.le_of_ble_eq_true rfl) (by rw [hRf]; decide) (by rw [hRl]; decide) (by omega) (by omega) dX5_part_58 (fun r9 M_161 H locs hq hw => ?_)
            obtain ⟨z_163, thk_162, rfl, hz_163r, hx5k_162, hRk_162⟩ := hq
            have hsck_162 := hRk_162.sc.1
            show W p l e R s m args below meth c H locs _ _ _ (F0 m 61 ls [.int (iN (z_163))])
            refine x_if_eq (tgt := 66) hC ⟨by omega, by omega⟩ dX5_part_61 (by decide) (fun c_164 => ?_) (fun c_164 => ?_)
            · replace hz_163r := (hz_163r.resolve_right (fun q9 => by have e9 := q9.1; omega)).2
              refine lv_aload_n hC.1 hC.2.1 dX5_part_66 rfl (lv_at hl 0 rfl) ?_
              refine x_get hC hw hRk_162.1.1 rfl hinX5 5 (by decide) (by decide +kernel) rfl dX5_part_67 ?_
              refine lv_iload_n hC.1 hC.2.1 dX5_part_70 rfl (lv_at hl 1 rfl) ?_
              refine x_ald4 hC hw hRk_162.1.2.2.2.2.1 (by omega) (by omega) (by omega) dX5_part_71 ?_
              obtain ⟨y_165, hy_166⟩ := x_some (hz_2n (by omega))
              rw [hy_166]
              obtain ⟨ti_167, fi_167, hui_167, hIi_167⟩ := (hRk_162.vw (show (p0).toNat < 4 by omega)).yes hy_166
              obtain ⟨htat_168, htbt_168, htct_168, htdt_168, htet_168⟩ := id hIi_167.2.1
              show W p l e R s m args below meth c _ _ _ _ _ (F0 m 72 ls [.ref y_165])
              refine lv_astore (lv' := [(6, .ref y_165), (0, .ref a), (1, .int (iN (p0))), (2, .int (iN (p1))), (3, .int (iN (p2))), (4, .int (iN (p3))), (5, .int (iN (p4)))]) hC.1 hC.2.1 dX5_part_72 hl (by decide) rfl (fun ls hl => ?_)
              refine lv_aload_n hC.1 hC.2.1 dX5_part_74 rfl (lv_at hl 1 rfl) ?_
              refine lv_aload hC.1 hC.2.1 dX5_part_75 (lv_at hl 0 rfl) ?_
              refine lv_iload_n hC.1 hC.2.1 dX5_part_77 rfl (lv_at hl 3 rfl) ?_
              refine x_callV hC hw (lv_size hl) (c_X5_isWithin l G hRk_162 hIi_167 (p0 := p1) (by omega) (by omega)) gX5_part_X5_isWithin rfl dv_X5_isWithin hRk_162.1.1 rfl rfl (Nat.le_of_ble_eq_true rfl) (by rw [hRf]; decide) (by rw [hRl]; decide) (by omega) (by omega) dX5_part_78 (fun r9 M_169 H locs hq hw => ?_)
              obtain ⟨z_170, rfl, hM9, hz_170a, hz_170w⟩ := hq
              rw [hM9] at hw
              show W p l e R s m args below meth c H locs _ _ _ (F0 m 81 ls [.int (iN (z_170))])
              refine x_if_eq (tgt := 113) hC ⟨by omega, by omega⟩ dX5_part_81 (by decide) (fun c_171 => ?_) (fun c_171 => ?_)
              · refine x_sipush hC dX5_part_113 (by decide +kernel) ?_
                exact x_iret hC hw dX5_part_116 (by omega) (by omega) ⟨(-20000), thk_162, rfl, by omega, Or.inl ⟨by omega, by first | trivial | omega, (by have i9 := inI_01 (O ti_167.b) (p1).toNat ti_167; have i8 := inI_01 (O ti_167.b) (p3).toNat ti_167; rw [A_part, show tvW (ST.W (O, V, Wv, K, kp, kv, rfd)) p0.toNat = ti_167 from tvW_some hui_167]; show _ = (if ((inI (O ti_167.b) ti_167 (p1).toNat = 1 ∧ inI (O ti_167.b) ti_167 (p3).toNat = 1) ∧ ¬ mwN (O ti_167.b) (p3).toNat < mwN (O ti_167.b) (p1).toNat) then (frN Wv : Int) else -20000); omega), (by have i9 := inI_01 (O ti_167.b) (p1).toNat ti_167; have i8 := inI_01 (O ti_167.b) (p3).toNat ti_167; rw [S_part, show tvW (ST.W (O, V, Wv, K, kp, kv, rfd)) p0.toNat = ti_167 from tvW_some hui_167]; show MGm _ _ _ _ _ (if ((inI (O ti_167.b) ti_167 (p1).toNat = 1 ∧ inI (O ti_167.b) ti_167 (p3).toNat = 1) ∧ ¬ mwN (O ti_167.b) (p3).toNat < mwN (O ti_167.b) (p1).toNat) then _ else _); rw [if_neg (by omega)]; exact MGm.of hRk_162 hK)⟩⟩
              · refine lv_aload_n hC.1 hC.2.1 dX5_part_84 rfl (lv_at hl 1 rfl) ?_
                refine lv_aload hC.1 hC.2.1 dX5_part_85 (lv_at hl 0 rfl) ?_
                refine lv_iload hC.1 hC.2.1 dX5_part_87 (lv_at hl 5 rfl) ?_
                refine x_callV hC hw (lv_size hl) (c_X5_isWithin l G hRk_162 hIi_167 (p0 := p3) (by omega) (by omega)) gX5_part_X5_isWithin rfl dv_X5_isWithin hRk_162.1.1 rfl rfl (Nat.le_of_ble_eq_true rfl) (by rw [hRf]; decide) (by rw [hRl]; decide) (by omega) (by omega) dX5_part_89 (fun r9 M_172 H locs hq hw => ?_)
                obtain ⟨z_173, rfl, hM9, hz_173a, hz_173w⟩ := hq
                rw [hM9] at hw
                show W p l e R s m args below meth c H locs _ _ _ (F0 m 92 ls [.int (iN (z_173))])
                refine x_if_eq (tgt := 113) hC ⟨by omega, by omega⟩ dX5_part_92 (by decide) (fun c_174 => ?_) (fun c_174 => ?_)
                · refine x_sipush hC dX5_part_113 (by decide +kernel) ?_
                  exact x_iret hC hw dX5_part_116 (by omega) (by omega) ⟨(-20000), thk_162, rfl, by omega, Or.inl ⟨by omega, by first | trivial | omega, (by have i9 := inI_01 (O ti_167.b) (p1).toNat ti_167; have i8 := inI_01 (O ti_167.b) (p3).toNat ti_167; rw [A_part, show tvW (ST.W (O, V, Wv, K, kp, kv, rfd)) p0.toNat = ti_167 from tvW_some hui_167]; show _ = (if ((inI (O ti_167.b) ti_167 (p1).toNat = 1 ∧ inI (O ti_167.b) ti_167 (p3).toNat = 1) ∧ ¬ mwN (O ti_167.b) (p3).toNat < mwN (O ti_167.b) (p1).toNat) then (frN Wv : Int) else -20000); omega), (by have i9 := inI_01 (O ti_167.b) (p1).toNat ti_167; have i8 := inI_01 (O ti_167.b) (p3).toNat ti_167; rw [S_part, show tvW (ST.W (O, V, Wv, K, kp, kv, rfd)) p0.toNat = ti_167 from tvW_some hui_167]; show MGm _ _ _ _ _ (if ((inI (O ti_167.b) ti_167 (p1).toNat = 1 ∧ inI (O ti_167.b) ti_167 (p3).toNat = 1) ∧ ¬ mwN (O ti_167.b) (p3).toNat < mwN (O ti_167.b) (p1).toNat) then _ else _); rw [if_neg (by omega)]; exact MGm.of hRk_162 hK)⟩⟩
                · refine lv_aload_n hC.1 hC.2.1 dX5_part_95 rfl (lv_at hl 1 rfl) ?_
                  refine lv_aload hC.1 hC.2.1 dX5_part_96 (lv_at hl 0 rfl) ?_
                  refine lv_iload_n hC.1 hC.2.1 dX5_part_98 rfl (lv_at hl 3 rfl) ?_
                  refine x_callV hC hw (lv_size hl) (c_X5_weight l G hRk_162 hIi_167 (p0 := p1) (by omega) (by omega)) gX5_part_X5_weight rfl dv_X5_weight hRk_162.1.1 rfl rfl (Nat.le_of_ble_eq_true rfl) (by rw [hRf]; decide) (by rw [hRl]; decide) (by omega) (by omega) dX5_part_99 (fun r9 M_175 H locs hq hw => ?_)
                  obtain ⟨z_176, rfl, hM9, hz_176a, hz_176b⟩ := hq
                  rw [hM9] at hw
                  show W p l e R s m args below meth c H locs _ _ _ (F0 m 102 ls [.int (iN (z_176))])
                  refine lv_aload_n hC.1 hC.2.1 dX5_part_102 rfl (lv_at hl 1 rfl) ?_
                  refine lv_aload hC.1 hC.2.1 dX5_part_103 (lv_at hl 0 rfl) ?_
                  refine lv_iload hC.1 hC.2.1 dX5_part_105 (lv_at hl 5 rfl) ?_
                  refine x_callV hC hw (lv_size hl) (c_X5_weight l G hRk_162 hIi_167 (p0 := p3) (by omega) (by omega)) gX5_part_X5_weight rfl dv_X5_weight hRk_162.1.1 rfl rfl (Nat.le_of_ble_eq_true rfl) (by rw [hRf]; decide) (by rw [hRl]; decide) (by omega) (by omega) dX5_part_107 (fun r9 M_177 H locs hq hw => ?_)
                  obtain ⟨z_178, rfl, hM9, hz_178a, hz_178b⟩ := hq
                  rw [hM9] at hw
                  show W p l e R s m args below meth c H locs _ _ _ (F0 m 110 ls [.int (iN (z_178)), .int (iN (z_176))])
                  refine x_icmp_le (tgt := 117) hC ⟨by omega, by omega⟩ ⟨by omega, by omega⟩ dX5_part_110 (by decide) (fun c_179 => ?_) (fun c_179 => ?_)
                  · refine lv_aload_n hC.1 hC.2.1 dX5_part_117 rfl (lv_at hl 1 rfl) ?_
                    refine x_const hC dX5_part_118 ?_
                    refine x_newI hC hw (by decide +kernel) 5 rfl (by decide) (by omega) (by omega) dX5_part_119 (fun q_180 H hq_181 hw => ?_)
                    obtain ⟨M_182, hM_183⟩ : ∃ z, z = va_up M_161 q_180 (some (.inl (G.2 1, 5, .inl (fun _ => 0)))) := ⟨_, rfl⟩
                    rw [← hM_183] at hw
                    have hx_184 : xExt M_161 M_182 := by rw [hM_183]; exact xExt.new hq_181
                    have hA_185 : M_182 q_180 = some (.inl (G.2 1, 5, .inl (fun _ => 0))) := by rw [hM_183, va_up_self]
                    have h_186 := hRk_162.ext hx_184
                    have h_187 := hIi_167.x5 (xExt.x5 hx_184)
                    refine lv_dup hC.1 hC.2.1 dX5_part_121 rfl ?_
                    refine x_const hC dX5_part_122 ?_
                    refine lv_aload hC.1 hC.2.1 dX5_part_123 (lv_at hl 0 rfl) ?_
                    refine x_const hC dX5_part_125 ?_
                    refine x_ialdE (x := ((ti_167.b : Nat) : Int)) hC hw h_187.1 (by omega) (by omega) (by omega) dX5_part_126 h_187.2.2.1 ?_
                    refine x_iast hC hw hA_185 (by omega) (by omega) (by omega) dX5_part_127 (fun H locs hw => ?_)
                    obtain ⟨M_188, hM_189⟩ : ∃ z, z = va_up M_182 q_180 (some (.inl (G.2 1, 5, .inl (upd (fun _ => 0) (0 : Int).toNat (iN (((ti_167.b : Nat) : Int))))))) := ⟨_, rfl⟩
                    rw [← hM_189] at hw
                    have hA_190 : M_188 q_180 = some (.inl (G.2 1, 5, .inl (upd (fun _ => 0) (0 : Int).toNat (iN (((ti_167.b : Nat) : Int)))))) := by rw [hM_189, va_up_self]
                    have hx_191 := xExt.upd hq_181 hx_184 hM_189
                    have h_192 := hRk_162.ext hx_191
                    have h_193 := hIi_167.x5 (xExt.x5 hx_191)
                    refine lv_dup hC.1 hC.2.1 dX5_part_128 rfl ?_
                    refine x_const hC dX5_part_129 ?_
                    refine lv_iload_n hC.1 hC.2.1 dX5_part_130 rfl (lv_at hl 3 rfl) ?_
                    refine x_iast hC hw hA_190 (by omega) (by omega) (by omega) dX5_part_131 (fun H locs hw => ?_)
                    obtain ⟨M_194, hM_195⟩ : ∃ z, z = va_up M_188 q_180 (some (.inl (G.2 1, 5, .inl (upd (upd (fun _ => 0) (0 : Int).toNat (iN (((ti_167.b : Nat) : Int)))) (1 : Int).toNat (iN (p1)))))) := ⟨_, rfl⟩
                    rw [← hM_195] at hw
                    have hA_196 : M_194 q_180 = some (.inl (G.2 1, 5, .inl (upd (upd (fun _ => 0) (0 : Int).toNat (iN (((ti_167.b : Nat) : Int)))) (1 : Int).toNat (iN (p1))))) := by rw [hM_195, va_up_self]
                    have hx_197 := xExt.upd hq_181 hx_191 hM_195
                    have h_198 := hRk_162.ext hx_197
                    have h_199 := hIi_167.x5 (xExt.x5 hx_197)
                    refine lv_dup hC.1 hC.2.1 dX5_part_132 rfl ?_
                    refine x_const hC dX5_part_133 ?_
                    refine lv_iload_n hC.1 hC.2.1 dX5_part_134 rfl (lv_at hl 4 rfl) ?_
                    refine x_callS hC hw (lv_size hl) (c_X5_one l G (M := M_194) (p0 := p2) (by omega)) gX5_part_X5_one rfl dv_X5_one_s rfl (Nat.le_of_ble_eq_true rfl) (by rw [hRf]; decide) (by rw [hRl]; decide) (by omega) (by omega) dX5_part_135 (fun r9 M_200 H locs hq hw => ?_)
                    obtain ⟨z_201, rfl, hM9, hz_201a, hz_201b⟩ := hq
                    rw [hM9] at hw
                    show W p l e R s m args below meth c H locs _ _ _ (F0 m 138 ls [.int (iN (z_201)), .int (iN (2)), .ref q_180, .ref q_180, .ref a])
                    refine x_iast hC hw hA_196 (by omega) (by omega) (by omega) dX5_part_138 (fun H locs hw => ?_)
                    obtain ⟨M_202, hM_203⟩ : ∃ z, z = va_up M_194 q_180 (some (.inl (G.2 1, 5, .inl (upd (upd (upd (fun _ => 0) (0 : Int).toNat (iN (((ti_167.b : Nat) : Int)))) (1 : Int).toNat (iN (p1))) (2 : Int).toNat (iN (z_201)))))) := ⟨_, rfl⟩
                    rw [← hM_203] at hw
                    have hA_204 : M_202 q_180 = some (.inl (G.2 1, 5, .inl (upd (upd (upd (fun _ => 0) (0 : Int).toNat (iN (((ti_167.b : Nat) : Int)))) (1 : Int).toNat (iN (p1))) (2 : Int).toNat (iN (z_201))))) := by rw [hM_203, va_up_self]
                    have hx_205 := xExt.upd hq_181 hx_197 hM_203
                    have h_206 := hRk_162.ext hx_205
                    have h_207 := hIi_167.x5 (xExt.x5 hx_205)
                    refine lv_dup hC.1 hC.2.1 dX5_part_139 rfl ?_
                    refine x_const hC dX5_part_140 ?_
                    refine lv_iload hC.1 hC.2.1 dX5_part_141 (lv_at hl 5 rfl) ?_
                    refine x_iast hC hw hA_204 (by omega) (by omega) (by omega) dX5_part_143 (fun H locs hw => ?_)
                    obtain ⟨M_208, hM_209⟩ : ∃ z, z = va_up M_202 q_180 (some (.inl (G.2 1, 5, .inl (upd (upd (upd (upd (fun _ => 0) (0 : Int).toNat (iN (((ti_167.b : Nat) : Int)))) (1 : Int).toNat (iN (p1))) (2 : Int).toNat (iN (z_201))) (3 : Int).toNat (iN (p3)))))) := ⟨_, rfl⟩
                    rw [← hM_209] at hw
                    have hA_210 : M_208 q_180 = some (.inl (G.2 1, 5, .inl (upd (upd (upd (upd (fun _ => 0) (0 : Int).toNat (iN (((ti_167.b : Nat) : Int)))) (1 : Int).toNat (iN (p1))) (2 : Int).toNat (iN (z_201))) (3 : Int).toNat (iN (p3))))) := by rw [hM_209, va_up_self]
                    have hx_211 := xExt.upd hq_181 hx_205 hM_209
                    have h_212 := hRk_162.ext hx_211
                    have h_213 := hIi_167.x5 (xExt.x5 hx_211)
                    refine lv_dup hC.1 hC.2.1 dX5_part_144 rfl ?_
                    refine x_const hC dX5_part_145 ?_
                    refine lv_iload hC.1 hC.2.1 dX5_part_146 (lv_at hl 6 rfl) ?_
                    refine x_callS hC hw (lv_size hl) (c_X5_one l G (M := M_208) (p0 := p4) (by omega)) gX5_part_X5_one rfl dv_X5_one_s rfl (Nat.le_of_ble_eq_true rfl) (by rw [hRf]; decide) (by rw [hRl]; decide) (by omega) (by omega) dX5_part_148 (fun r9 M_214 H locs hq hw => ?_)
                    obtain ⟨z_215, rfl, hM9, hz_215a, hz_215b⟩ := hq
                    rw [hM9] at hw
                    show W p l e R s m args below meth c H locs _ _ _ (F0 m 151 ls [.int (iN (z_215)), .int (iN (4)), .ref q_180, .ref q_180, .ref a])
                    refine x_iast hC hw hA_210 (by omega) (by omega) (by omega) dX5_part_151 (fun H locs hw => ?_)
                    obtain ⟨M_216, hM_217⟩ : ∃ z, z = va_up M_208 q_180 (some (.inl (G.2 1, 5, .inl (upd (upd (upd (upd (upd (fun _ => 0) (0 : Int).toNat (iN (((ti_167.b : Nat) : Int)))) (1 : Int).toNat (iN (p1))) (2 : Int).toNat (iN (z_201))) (3 : Int).toNat (iN (p3))) (4 : Int).toNat (iN (z_215)))))) := ⟨_, rfl⟩
                    rw [← hM_217] at hw
                    have hA_218 : M_216 q_180 = some (.inl (G.2 1, 5, .inl (upd (upd (upd (upd (upd (fun _ => 0) (0 : Int).toNat (iN (((ti_167.b : Nat) : Int)))) (1 : Int).toNat (iN (p1))) (2 : Int).toNat (iN (z_201))) (3 : Int).toNat (iN (p3))) (4 : Int).toNat (iN (z_215))))) := by rw [hM_217, va_up_self]
                    have hx_219 := xExt.upd hq_181 hx_211 hM_217
                    have h_220 := hRk_162.ext hx_219
                    have h_221 := hIi_167.x5 (xExt.x5 hx_219)
                    have hI_222 : Its G M_216 q_180 (upd (upd (upd (upd (upd (fun _ => 0) (0 : Int).toNat (iN (((ti_167.b : Nat) : Int)))) (1 : Int).toNat (iN (p1))) (2 : Int).toNat (iN (z_201))) (3 : Int).toNat (iN (p3))) (4 : Int).toNat (iN (z_215))) (ti_167.b, p1, p3, p2, p4) := ⟨hA_218, ⟨(show ti_167.b < 3 by omega), (show p1 = -10000 ∨ (0 ≤ p1 ∧ p1 ≤ 99) by omega), (show p3 = -10000 ∨ (0 ≤ p3 ∧ p3 ≤ 99) by omega), (show p2 = 0 ∨ p2 = 1 by omega), (show p4 = 0 ∨ p4 = 1 by omega)⟩, rfl, rfl, (show iN (z_201) = iN (p2) from congrArg iN (by omega)), rfl, (show iN (z_215) = iN (p4) from congrArg iN (by omega))⟩
                    refine x_callV hC hw (lv_size hl) (c_X5_open l G h_220 hI_222 (by omega)) gX5_part_X5_open rfl dv_X5_open h_220.1.1 rfl rfl (Nat.le_of_ble_eq_true rfl) (by rw [hRf]; decide) (by rw [hRl]; decide) (by omega) (by omega) dX5_part_152 (fun r9 M_223 H locs hq hw => ?_)
                    obtain ⟨z_225, fyk_224, Wvk_224, rfl, hz_225a, hz_225f, he0k_224, hx5k_224, hRk_224⟩ := hq
                    have h_226 := h_221.x5 hx5k_224
                    have h_227 := hI_222.x5 hx5k_224
                    have hsck_224 := hRk_224.sc.1
                    show W p l e R s m args below meth c H locs _ _ _ (F0 m 155 ls [.int (iN (z_225))])
                    exact x_iret hC hw dX5_part_155 (by omega) (by omega) ⟨z_225, thk_162, rfl, by omega, Or.inl ⟨by omega, by first | trivial | omega, (by have i9 := inI_01 (O ti_167.b) (p1).toNat ti_167; have i8 := inI_01 (O ti_167.b) (p3).toNat ti_167; rw [A_part, show tvW (ST.W (O, V, Wv, K, kp, kv, rfd)) p0.toNat = ti_167 from tvW_some hui_167]; show _ = (if ((inI (O ti_167.b) ti_167 (p1).toNat = 1 ∧ inI (O ti_167.b) ti_167 (p3).toNat = 1) ∧ ¬ mwN (O ti_167.b) (p3).toNat < mwN (O ti_167.b) (p1).toNat) then (frN Wv : Int) else -20000); omega), (by have i9 := inI_01 (O ti_167.b) (p1).toNat ti_167; have i8 := inI_01 (O ti_167.b) (p3).toNat ti_167; rw [S_part, show tvW (ST.W (O, V, Wv, K, kp, kv, rfd)) p0.toNat = ti_167 from tvW_some hui_167]; show MGm _ _ _ _ _ (if ((inI (O ti_167.b) ti_167 (p1).toNat = 1 ∧ inI (O ti_167.b) ti_167 (p3).toNat = 1) ∧ ¬ mwN (O ti_167.b) (p3).toNat < mwN (O ti_167.b) (p1).toNat) then _ else _); rw [if_pos (by omega)]; exact (by have e9 := hRk_224; rw [he0k_224] at e9; exact MGm.of e9 hK))⟩⟩
                  · refine x_sipush hC dX5_part_113 (by decide +kernel) ?_
                    exact x_iret hC hw dX5_part_116 (by omega) (by omega) ⟨(-20000), thk_162, rfl, by omega, Or.inl ⟨by omega, by first | trivial | omega, (by have i9 := inI_01 (O ti_167.b) (p1).toNat ti_167; have i8 := inI_01 (O ti_167.b) (p3).toNat ti_167; rw [A_part, show tvW (ST.W (O, V, Wv, K, kp, kv, rfd)) p0.toNat = ti_167 from tvW_some hui_167]; show _ = (if ((inI (O ti_167.b) ti_167 (p1).toNat = 1 ∧ inI (O ti_167.b) ti_167 (p3).toNat = 1) ∧ ¬ mwN (O ti_167.b) (p3).toNat < mwN (O ti_167.b) (p1).toNat) then (frN Wv : Int) else -20000); omega), (by have i9 := inI_01 (O ti_167.b) (p1).toNat ti_167; have i8 := inI_01 (O ti_167.b) (p3).toNat ti_167; rw [S_part, show tvW (ST.W (O, V, Wv, K, kp, kv, rfd)) p0.toNat = ti_167 from tvW_some hui_167]; show MGm _ _ _ _ _ (if ((inI (O ti_167.b) ti_167 (p1).toNat = 1 ∧ inI (O ti_167.b) ti_167 (p3).toNat = 1) ∧ ¬ mwN (O ti_167.b) (p3).toNat < mwN (O ti_167.b) (p1).toNat) then _ else _); rw [if_neg (by omega)]; exact MGm.of hRk_162 hK)⟩⟩
            · replace hz_163r := (hz_163r.resolve_left (fun q9 => by have e9 := q9.1; omega)).2
              refine x_const hC dX5_part_64 ?_
              exact x_iret hC hw dX5_part_65 (by omega) (by omega) ⟨0, thk_162, rfl, by omega, Or.inr ⟨by omega, by omega, MGm.of hRk_162 hK⟩⟩
          · refine x_const hC dX5_part_52 ?_
            refine lv_goto (tgt := 57) hC.1 hC.2.1 dX5_part_53 (by decide) ?_
            refine x_const hC dX5_part_57 ?_
            refine x_callV hC hw (lv_size hl) (c_X5_refuse l G hRk_155 (p0 := 1) (by omega) (p1 := 3) (by omega) (by omega)) gX5_part_X5_refuse rfl dv_X5_refuse hRk_155.1.1 rfl rfl (Nat.le_of_ble_eq_true rfl) (by rw [hRf]; decide) (by rw [hRl]; decide) (by omega) (by omega) dX5_part_58 (fun r9 M_228 H locs hq hw => ?_)
            obtain ⟨z_230, thk_229, rfl, hz_230r, hx5k_229, hRk_229⟩ := hq
            have hsck_229 := hRk_229.sc.1
            show W p l e R s m args below meth c H locs _ _ _ (F0 m 61 ls [.int (iN (z_230))])
            refine x_if_eq (tgt := 66) hC ⟨by omega, by omega⟩ dX5_part_61 (by decide) (fun c_231 => ?_) (fun c_231 => ?_)
            · replace hz_230r := (hz_230r.resolve_right (fun q9 => by have e9 := q9.1; omega)).2
              refine lv_aload_n hC.1 hC.2.1 dX5_part_66 rfl (lv_at hl 0 rfl) ?_
              refine x_get hC hw hRk_229.1.1 rfl hinX5 5 (by decide) (by decide +kernel) rfl dX5_part_67 ?_
              refine lv_iload_n hC.1 hC.2.1 dX5_part_70 rfl (lv_at hl 1 rfl) ?_
              refine x_ald4 hC hw hRk_229.1.2.2.2.2.1 (by omega) (by omega) (by omega) dX5_part_71 ?_
              obtain ⟨y_232, hy_233⟩ := x_some (hz_2n (by omega))
              rw [hy_233]
              obtain ⟨ti_234, fi_234, hui_234, hIi_234⟩ := (hRk_229.vw (show (p0).toNat < 4 by omega)).yes hy_233
              obtain ⟨htat_235, htbt_235, htct_235, htdt_235, htet_235⟩ := id hIi_234.2.1
              show W p l e R s m args below meth c _ _ _ _ _ (F0 m 72 ls [.ref y_232])
              refine lv_astore (lv' := [(6, .ref y_232), (0, .ref a), (1, .int (iN (p0))), (2, .int (iN (p1))), (3, .int (iN (p2))), (4, .int (iN (p3))), (5, .int (iN (p4)))]) hC.1 hC.2.1 dX5_part_72 hl (by decide) rfl (fun ls hl => ?_)
              refine lv_aload_n hC.1 hC.2.1 dX5_part_74 rfl (lv_at hl 1 rfl) ?_
              refine lv_aload hC.1 hC.2.1 dX5_part_75 (lv_at hl 0 rfl) ?_
              refine lv_iload_n hC.1 hC.2.1 dX5_part_77 rfl (lv_at hl 3 rfl) ?_
              refine x_callV hC hw (lv_size hl) (c_X5_isWithin l G hRk_229 hIi_234 (p0 := p1) (by omega) (by omega)) gX5_part_X5_isWithin rfl dv_X5_isWithin hRk_229.1.1 rfl rfl (Nat.le_of_ble_eq_true rfl) (by rw [hRf]; decide) (by rw [hRl]; decide) (by omega) (by omega) dX5_part_78 (fun r9 M_236 H locs hq hw => ?_)
              obtain ⟨z_237, rfl, hM9, hz_237a, hz_237w⟩ := hq
              rw [hM9] at hw
              show W p l e R s m args below meth c H locs _ _ _ (F0 m 81 ls [.int (iN (z_237))])
              refine x_if_eq (tgt := 113) hC ⟨by omega, by omega⟩ dX5_part_81 (by decide) (fun c_238 => ?_) (fun c_238 => ?_)
              · refine x_sipush hC dX5_part_113 (by decide +kernel) ?_
                exact x_iret hC hw dX5_part_116 (by omega) (by omega) ⟨(-20000), thk_229, rfl, by omega, Or.inl ⟨by omega, by first | trivial | omega, (by have i9 := inI_01 (O ti_234.b) (p1).toNat ti_234; have i8 := inI_01 (O ti_234.b) (p3).toNat ti_234; rw [A_part, show tvW (ST.W (O, V, Wv, K, kp, kv, rfd)) p0.toNat = ti_234 from tvW_some hui_234]; show _ = (if ((inI (O ti_234.b) ti_234 (p1).toNat = 1 ∧ inI (O ti_234.b) ti_234 (p3).toNat = 1) ∧ ¬ mwN (O ti_234.b) (p3).toNat < mwN (O ti_234.b) (p1).toNat) then (frN Wv : Int) else -20000); omega), (by have i9 := inI_01 (O ti_234.b) (p1).toNat ti_234; have i8 := inI_01 (O ti_234.b) (p3).toNat ti_234; rw [S_part, show tvW (ST.W (O, V, Wv, K, kp, kv, rfd)) p0.toNat = ti_234 from tvW_some hui_234]; show MGm _ _ _ _ _ (if ((inI (O ti_234.b) ti_234 (p1).toNat = 1 ∧ inI (O ti_234.b) ti_234 (p3).toNat = 1) ∧ ¬ mwN (O ti_234.b) (p3).toNat < mwN (O ti_234.b) (p1).toNat) then _ else _); rw [if_neg (by omega)]; exact MGm.of hRk_229 hK)⟩⟩
              · refine lv_aload_n hC.1 hC.2.1 dX5_part_84 rfl (lv_at hl 1 rfl) ?_
                refine lv_aload hC.1 hC.2.1 dX5_part_85 (lv_at hl 0 rfl) ?_
                refine lv_iload hC.1 hC.2.1 dX5_part_87 (lv_at hl 5 rfl) ?_
                refine x_callV hC hw (lv_size hl) (c_X5_isWithin l G hRk_229 hIi_234 (p0 := p3) (by omega) (by omega)) gX5_part_X5_isWithin rfl dv_X5_isWithin hRk_229.1.1 rfl rfl (Nat.le_of_ble_eq_true rfl) (by rw [hRf]; decide) (by rw [hRl]; decide) (by omega) (by omega) dX5_part_89 (fun r9 M_239 H locs hq hw => ?_)
                obtain ⟨z_240, rfl, hM9, hz_240a, hz_240w⟩ := hq
                rw [hM9] at hw
                show W p l e R s m args below meth c H locs _ _ _ (F0 m 92 ls [.int (iN (z_240))])
                refine x_if_eq (tgt := 113) hC ⟨by omega, by omega⟩ dX5_part_92 (by decide) (fun c_241 => ?_) (fun c_241 => ?_)
                · refine x_sipush hC dX5_part_113 (by decide +kernel) ?_
                  exact x_iret hC hw dX5_part_116 (by omega) (by omega) ⟨(-20000), thk_229, rfl, by omega, Or.inl ⟨by omega, by first | trivial | omega, (by have i9 := inI_01 (O ti_234.b) (p1).toNat ti_234; have i8 := inI_01 (O ti_234.b) (p3).toNat ti_234; rw [A_part, show tvW (ST.W (O, V, Wv, K, kp, kv, rfd)) p0.toNat = ti_234 from tvW_some hui_234]; show _ = (if ((inI (O ti_234.b) ti_234 (p1).toNat = 1 ∧ inI (O ti_234.b) ti_234 (p3).toNat = 1) ∧ ¬ mwN (O ti_234.b) (p3).toNat < mwN (O ti_234.b) (p1).toNat) then (frN Wv : Int) else -20000); omega), (by have i9 := inI_01 (O ti_234.b) (p1).toNat ti_234; have i8 := inI_01 (O ti_234.b) (p3).toNat ti_234; rw [S_part, show tvW (ST.W (O, V, Wv, K, kp, kv, rfd)) p0.toNat = ti_234 from tvW_some hui_234]; show MGm _ _ _ _ _ (if ((inI (O ti_234.b) ti_234 (p1).toNat = 1 ∧ inI (O ti_234.b) ti_234 (p3).toNat = 1) ∧ ¬ mwN (O ti_234.b) (p3).toNat < mwN (O ti_234.b) (p1).toNat) then _ else _); rw [if_neg (by omega)]; exact MGm.of hRk_229 hK)⟩⟩
                · refine lv_aload_n hC.1 hC.2.1 dX5_part_95 rfl (lv_at hl 1 rfl) ?_
                  refine lv_aload hC.1 hC.2.1 dX5_part_96 (lv_at hl 0 rfl) ?_
                  refine lv_iload_n hC.1 hC.2.1 dX5_part_98 rfl (lv_at hl 3 rfl) ?_
                  refine x_callV hC hw (lv_size hl) (c_X5_weight l G hRk_229 hIi_234 (p0 := p1) (by omega) (by omega)) gX5_part_X5_weight rfl dv_X5_weight hRk_229.1.1 rfl rfl (Nat.le_of_ble_eq_true rfl) (by rw [hRf]; decide) (by rw [hRl]; decide) (by omega) (by omega) dX5_part_99 (fun r9 M_242 H locs hq hw => ?_)
                  obtain ⟨z_243, rfl, hM9, hz_243a, hz_243b⟩ := hq
                  rw [hM9] at hw
                  show W p l e R s m args below meth c H locs _ _ _ (F0 m 102 ls [.int (iN (z_243))])
                  refine lv_aload_n hC.1 hC.2.1 dX5_part_102 rfl (lv_at hl 1 rfl) ?_
                  refine lv_aload hC.1 hC.2.1 dX5_part_103 (lv_at hl 0 rfl) ?_
                  refine lv_iload hC.1 hC.2.1 dX5_part_105 (lv_at hl 5 rfl) ?_
                  refine x_callV hC hw (lv_size hl) (c_X5_weight l G hRk_229 hIi_234 (p0 := p3) (by omega) (by omega)) gX5_part_X5_weight rfl dv_X5_weight hRk_229.1.1 rfl rfl (Nat.le_of_ble_eq_true rfl) (by rw [hRf]; decide) (by rw [hRl]; decide) (by omega) (by omega) dX5_part_107 (fun r9 M_244 H locs hq hw => ?_)
                  obtain ⟨z_245, rfl, hM9, hz_245a, hz_245b⟩ := hq
                  rw [hM9] at hw
                  show W p l e R s m args below meth c H locs _ _ _ (F0 m 110 ls [.int (iN (z_245)), .int (iN (z_243))])
                  refine x_icmp_le (tgt := 117) hC ⟨by omega, by omega⟩ ⟨by omega, by omega⟩ dX5_part_110 (by decide) (fun c_246 => ?_) (fun c_246 => ?_)
                  · refine lv_aload_n hC.1 hC.2.1 dX5_part_117 rfl (lv_at hl 1 rfl) ?_
                    refine x_const hC dX5_part_118 ?_
                    refine x_newI hC hw (by decide +kernel) 5 rfl (by decide) (by omega) (by omega) dX5_part_119 (fun q_247 H hq_248 hw => ?_)
                    obtain ⟨M_249, hM_250⟩ : ∃ z, z = va_up M_228 q_247 (some (.inl (G.2 1, 5, .inl (fun _ => 0)))) := ⟨_, rfl⟩
                    rw [← hM_250] at hw
                    have hx_251 : xExt M_228 M_249 := by rw [hM_250]; exact xExt.new hq_248
                    have hA_252 : M_249 q_247 = some (.inl (G.2 1, 5, .inl (fun _ => 0))) := by rw [hM_250, va_up_self]
                    have h_253 := hRk_229.ext hx_251
                    have h_254 := hIi_234.x5 (xExt.x5 hx_251)
                    refine lv_dup hC.1 hC.2.1 dX5_part_121 rfl ?_
                    refine x_const hC dX5_part_122 ?_
                    refine lv_aload hC.1 hC.2.1 dX5_part_123 (lv_at hl 0 rfl) ?_
                    refine x_const hC dX5_part_125 ?_
                    refine x_ialdE (x := ((ti_234.b : Nat) : Int)) hC hw h_254.1 (by omega) (by omega) (by omega) dX5_part_126 h_254.2.2.1 ?_
                    refine x_iast hC hw hA_252 (by omega) (by omega) (by omega) dX5_part_127 (fun H locs hw => ?_)
                    obtain ⟨M_255, hM_256⟩ : ∃ z, z = va_up M_249 q_247 (some (.inl (G.2 1, 5, .inl (upd (fun _ => 0) (0 : Int).toNat (iN (((ti_234.b : Nat) : Int))))))) := ⟨_, rfl⟩
                    rw [← hM_256] at hw
                    have hA_257 : M_255 q_247 = some (.inl (G.2 1, 5, .inl (upd (fun _ => 0) (0 : Int).toNat (iN (((ti_234.b : Nat) : Int)))))) := by rw [hM_256, va_up_self]
                    have hx_258 := xExt.upd hq_248 hx_251 hM_256
                    have h_259 := hRk_229.ext hx_258
                    have h_260 := hIi_234.x5 (xExt.x5 hx_258)
                    refine lv_dup hC.1 hC.2.1 dX5_part_128 rfl ?_
                    refine x_const hC dX5_part_129 ?_
                    refine lv_iload_n hC.1 hC.2.1 dX5_part_130 rfl (lv_at hl 3 rfl) ?_
                    refine x_iast hC hw hA_257 (by omega) (by omega) (by omega) dX5_part_131 (fun H locs hw => ?_)
                    obtain ⟨M_261, hM_262⟩ : ∃ z, z = va_up M_255 q_247 (some (.inl (G.2 1, 5, .inl (upd (upd (fun _ => 0) (0 : Int).toNat (iN (((ti_234.b : Nat) : Int)))) (1 : Int).toNat (iN (p1)))))) := ⟨_, rfl⟩
                    rw [← hM_262] at hw
                    have hA_263 : M_261 q_247 = some (.inl (G.2 1, 5, .inl (upd (upd (fun _ => 0) (0 : Int).toNat (iN (((ti_234.b : Nat) : Int)))) (1 : Int).toNat (iN (p1))))) := by rw [hM_262, va_up_self]
                    have hx_264 := xExt.upd hq_248 hx_258 hM_262
                    have h_265 := hRk_229.ext hx_264
                    have h_266 := hIi_234.x5 (xExt.x5 hx_264)
                    refine lv_dup hC.1 hC.2.1 dX5_part_132 rfl ?_
                    refine x_const hC dX5_part_133 ?_
                    refine lv_iload_n hC.1 hC.2.1 dX5_part_134 rfl (lv_at hl 4 rfl) ?_
                    refine x_callS hC hw (lv_size hl) (c_X5_one l G (M := M_261) (p0 := p2) (by omega)) gX5_part_X5_one rfl dv_X5_one_s rfl (Nat.le_of_ble_eq_true rfl) (by rw [hRf]; decide) (by rw [hRl]; decide) (by omega) (by omega) dX5_part_135 (fun r9 M_267 H locs hq hw => ?_)
                    obtain ⟨z_268, rfl, hM9, hz_268a, hz_268b⟩ := hq
                    rw [hM9] at hw
                    show W p l e R s m args below meth c H locs _ _ _ (F0 m 138 ls [.int (iN (z_268)), .int (iN (2)), .ref q_247, .ref q_247, .ref a])
                    refine x_iast hC hw hA_263 (by omega) (by omega) (by omega) dX5_part_138 (fun H locs hw => ?_)
                    obtain ⟨M_269, hM_270⟩ : ∃ z, z = va_up M_261 q_247 (some (.inl (G.2 1, 5, .inl (upd (upd (upd (fun _ => 0) (0 : Int).toNat (iN (((ti_234.b : Nat) : Int)))) (1 : Int).toNat (iN (p1))) (2 : Int).toNat (iN (z_268)))))) := ⟨_, rfl⟩
                    rw [← hM_270] at hw
                    have hA_271 : M_269 q_247 = some (.inl (G.2 1, 5, .inl (upd (upd (upd (fun _ => 0) (0 : Int).toNat (iN (((ti_234.b : Nat) : Int)))) (1 : Int).toNat (iN (p1))) (2 : Int).toNat (iN (z_268))))) := by rw [hM_270, va_up_self]
                    have hx_272 := xExt.upd hq_248 hx_264 hM_270
                    have h_273 := hRk_229.ext hx_272
                    have h_274 := hIi_234.x5 (xExt.x5 hx_272)
                    refine lv_dup hC.1 hC.2.1 dX5_part_139 rfl ?_
                    refine x_const hC dX5_part_140 ?_
                    refine lv_iload hC.1 hC.2.1 dX5_part_141 (lv_at hl 5 rfl) ?_
                    refine x_iast hC hw hA_271 (by omega) (by omega) (by omega) dX5_part_143 (fun H locs hw => ?_)
                    obtain ⟨M_275, hM_276⟩ : ∃ z, z = va_up M_269 q_247 (some (.inl (G.2 1, 5, .inl (upd (upd (upd (upd (fun _ => 0) (0 : Int).toNat (iN (((ti_234.b : Nat) : Int)))) (1 : Int).toNat (iN (p1))) (2 : Int).toNat (iN (z_268))) (3 : Int).toNat (iN (p3)))))) := ⟨_, rfl⟩
                    rw [← hM_276] at hw
                    have hA_277 : M_275 q_247 = some (.inl (G.2 1, 5, .inl (upd (upd (upd (upd (fun _ => 0) (0 : Int).toNat (iN (((ti_234.b : Nat) : Int)))) (1 : Int).toNat (iN (p1))) (2 : Int).toNat (iN (z_268))) (3 : Int).toNat (iN (p3))))) := by rw [hM_276, va_up_self]
                    have hx_278 := xExt.upd hq_248 hx_272 hM_276
                    have h_279 := hRk_229.ext hx_278
                    have h_280 := hIi_234.x5 (xExt.x5 hx_278)
                    refine lv_dup hC.1 hC.2.1 dX5_part_144 rfl ?_
                    refine x_const hC dX5_part_145 ?_
                    refine lv_iload hC.1 hC.2.1 dX5_part_146 (lv_at hl 6 rfl) ?_
                    refine x_callS hC hw (lv_size hl) (c_X5_one l G (M := M_275) (p0 := p4) (by omega)) gX5_part_X5_one rfl dv_X5_one_s rfl (Nat.le_of_ble_eq_true rfl) (by rw [hRf]; decide) (by rw [hRl]; decide) (by omega) (by omega) dX5_part_148 (fun r9 M_281 H locs hq hw => ?_)
                    obtain ⟨z_282, rfl, hM9, hz_282a, hz_282b⟩ := hq
                    rw [hM9] at hw
                    show W p l e R s m args below meth c H locs _ _ _ (F0 m 151 ls [.int (iN (z_282)), .int (iN (4)), .ref q_247, .ref q_247, .ref a])
                    refine x_iast hC hw hA_277 (by omega) (by omega) (by omega) dX5_part_151 (fun H locs hw => ?_)
                    obtain ⟨M_283, hM_284⟩ : ∃ z, z = va_up M_275 q_247 (some (.inl (G.2 1, 5, .inl (upd (upd (upd (upd (upd (fun _ => 0) (0 : Int).toNat (iN (((ti_234.b : Nat) : Int)))) (1 : Int).toNat (iN (p1))) (2 : Int).toNat (iN (z_268))) (3 : Int).toNat (iN (p3))) (4 : Int).toNat (iN (z_282)))))) := ⟨_, rfl⟩
                    rw [← hM_284] at hw
                    have hA_285 : M_283 q_247 = some (.inl (G.2 1, 5, .inl (upd (upd (upd (upd (upd (fun _ => 0) (0 : Int).toNat (iN (((ti_234.b : Nat) : Int)))) (1 : Int).toNat (iN (p1))) (2 : Int).toNat (iN (z_268))) (3 : Int).toNat (iN (p3))) (4 : Int).toNat (iN (z_282))))) := by rw [hM_284, va_up_self]
                    have hx_286 := xExt.upd hq_248 hx_278 hM_284
                    have h_287 := hRk_229.ext hx_286
                    have h_288 := hIi_234.x5 (xExt.x5 hx_286)
                    have hI_289 : Its G M_283 q_247 (upd (upd (upd (upd (upd (fun _ => 0) (0 : Int).toNat (iN (((ti_234.b : Nat) : Int)))) (1 : Int).toNat (iN (p1))) (2 : Int).toNat (iN (z_268))) (3 : Int).toNat (iN (p3))) (4 : Int).toNat (iN (z_282))) (ti_234.b, p1, p3, p2, p4) := ⟨hA_285, ⟨(show ti_234.b < 3 by omega), (show p1 = -10000 ∨ (0 ≤ p1 ∧ p1 ≤ 99) by omega), (show p3 = -10000 ∨ (0 ≤ p3 ∧ p3 ≤ 99) by omega), (show p2 = 0 ∨ p2 = 1 by omega), (show p4 = 0 ∨ p4 = 1 by omega)⟩, rfl, rfl, (show iN (z_268) = iN (p2) from congrArg iN (by omega)), rfl, (show iN (z_282) = iN (p4) from congrArg iN (by omega))⟩
                    refine x_callV hC hw (lv_size hl) (c_X5_open l G h_287 hI_289 (by omega)) gX5_part_X5_open rfl dv_X5_open h_287.1.1 rfl rfl (Nat.le_of_ble_eq_true rfl) (by rw [hRf]; decide) (by rw [hRl]; decide) (by omega) (by omega) dX5_part_152 (fun r9 M_290 H locs hq hw => ?_)
                    obtain ⟨z_292, fyk_291, Wvk_291, rfl, hz_292a, hz_292f, he0k_291, hx5k_291, hRk_291⟩ := hq
                    have h_293 := h_288.x5 hx5k_291
                    have h_294 := hI_289.x5 hx5k_291
                    have hsck_291 := hRk_291.sc.1
                    show W p l e R s m args below meth c H locs _ _ _ (F0 m 155 ls [.int (iN (z_292))])
                    exact x_iret hC hw dX5_part_155 (by omega) (by omega) ⟨z_292, thk_229, rfl, by omega, Or.inl ⟨by omega, by first | trivial | omega, (by have i9 := inI_01 (O ti_234.b) (p1).toNat ti_234; have i8 := inI_01 (O ti_234.b) (p3).toNat ti_234; rw [A_part, show tvW (ST.W (O, V, Wv, K, kp, kv, rfd)) p0.toNat = ti_234 from tvW_some hui_234]; show _ = (if ((inI (O ti_234.b) ti_234 (p1).toNat = 1 ∧ inI (O ti_234.b) ti_234 (p3).toNat = 1) ∧ ¬ mwN (O ti_234.b) (p3).toNat < mwN (O ti_234.b) (p1).toNat) then (frN Wv : Int) else -20000); omega), (by have i9 := inI_01 (O ti_234.b) (p1).toNat ti_234; have i8 := inI_01 (O ti_234.b) (p3).toNat ti_234; rw [S_part, show tvW (ST.W (O, V, Wv, K, kp, kv, rfd)) p0.toNat = ti_234 from tvW_some hui_234]; show MGm _ _ _ _ _ (if ((inI (O ti_234.b) ti_234 (p1).toNat = 1 ∧ inI (O ti_234.b) ti_234 (p3).toNat = 1) ∧ ¬ mwN (O ti_234.b) (p3).toNat < mwN (O ti_234.b) (p1).toNat) then _ else _); rw [if_pos (by omega)]; exact (by have e9 := hRk_291; rw [he0k_291] at e9; exact MGm.of e9 hK))⟩⟩
                  · refine x_sipush hC dX5_part_113 (by decide +kernel) ?_
                    exact x_iret hC hw dX5_part_116 (by omega) (by omega) ⟨(-20000), thk_229, rfl, by omega, Or.inl ⟨by omega, by first | trivial | omega, (by have i9 := inI_01 (O ti_234.b) (p1).toNat ti_234; have i8 := inI_01 (O ti_234.b) (p3).toNat ti_234; rw [A_part, show tvW (ST.W (O, V, Wv, K, kp, kv, rfd)) p0.toNat = ti_234 from tvW_some hui_234]; show _ = (if ((inI (O ti_234.b) ti_234 (p1).toNat = 1 ∧ inI (O ti_234.b) ti_234 (p3).toNat = 1) ∧ ¬ mwN (O ti_234.b) (p3).toNat < mwN (O ti_234.b) (p1).toNat) then (frN Wv : Int) else -20000); omega), (by have i9 := inI_01 (O ti_234.b) (p1).toNat ti_234; have i8 := inI_01 (O ti_234.b) (p3).toNat ti_234; rw [S_part, show tvW (ST.W (O, V, Wv, K, kp, kv, rfd)) p0.toNat = ti_234 from tvW_some hui_234]; show MGm _ _ _ _ _ (if ((inI (O ti_234.b) ti_234 (p1).toNat = 1 ∧ inI (O ti_234.b) ti_234 (p3).toNat = 1) ∧ ¬ mwN (O ti_234.b) (p3).toNat < mwN (O ti_234.b) (p1).toNat) then _ else _); rw [if_neg (by omega)]; exact MGm.of hRk_229 hK)⟩⟩
            · replace hz_230r := (hz_230r.resolve_left (fun q9 => by have e9 := q9.1; omega)).2
              refine x_const hC dX5_part_64 ?_
              exact x_iret hC hw dX5_part_65 (by omega) (by omega) ⟨0, thk_229, rfl, by omega, Or.inr ⟨by omega, by omega, MGm.of hRk_229 hK⟩⟩
      · refine x_const hC dX5_part_29 ?_
        refine lv_goto (tgt := 34) hC.1 hC.2.1 dX5_part_30 (by decide) ?_
        refine x_const hC dX5_part_34 ?_
        refine x_callV hC hw (lv_size hl) (c_X5_refuse l G hRk_4 (p0 := 1) (by omega) (p1 := 2) (by omega) (by omega)) gX5_part_X5_refuse rfl dv_X5_refuse hRk_4.1.1 rfl rfl (Nat.le_of_ble_eq_true rfl) (by rw [hRf]; decide) (by rw [hRl]; decide) (by omega) (by omega) dX5_part_35 (fun r9 M_295 H locs hq hw => ?_)
        obtain ⟨z_297, thk_296, rfl, hz_297r, hx5k_296, hRk_296⟩ := hq
        have hsck_296 := hRk_296.sc.1
        show W p l e R s m args below meth c H locs _ _ _ (F0 m 38 ls [.int (iN (z_297))])
        refine x_if_ne (tgt := 64) hC ⟨by omega, by omega⟩ dX5_part_38 (by decide) (fun c_298 => ?_) (fun c_298 => ?_)
        · replace hz_297r := (hz_297r.resolve_left (fun q9 => by have e9 := q9.1; omega)).2
          refine x_const hC dX5_part_64 ?_
          exact x_iret hC hw dX5_part_65 (by omega) (by omega) ⟨0, thk_296, rfl, by omega, Or.inr ⟨by omega, by omega, MGm.of hRk_296 hK⟩⟩
        · replace hz_297r := (hz_297r.resolve_right (fun q9 => by have e9 := q9.1; omega)).2
          refine lv_aload_n hC.1 hC.2.1 dX5_part_41 rfl (lv_at hl 0 rfl) ?_
          refine lv_aload_n hC.1 hC.2.1 dX5_part_42 rfl (lv_at hl 0 rfl) ?_
          refine x_callV hC hw (lv_size hl) (c_X5_free l G hRk_296) gX5_part_X5_free rfl dv_X5_free hRk_296.1.1 rfl rfl (Nat.le_of_ble_eq_true rfl) (by rw [hRf]; decide) (by rw [hRl]; decide) (by omega) (by omega) dX5_part_43 (fun r9 M_299 H locs hq hw => ?_)
          obtain ⟨z_300, rfl, hM9, hz_300a, hz_300f⟩ := hq
          rw [hM9] at hw
          show W p l e R s m args below meth c H locs _ _ _ (F0 m 46 ls [.int (iN (z_300)), .ref a])
          refine x_sipush hC dX5_part_46 (by decide +kernel) ?_
          refine x_icmp_ne (tgt := 56) hC ⟨by omega, by omega⟩ ⟨by omega, by omega⟩ dX5_part_49 (by decide) (fun c_301 => ?_) (fun c_301 => ?_)
          · refine x_const hC dX5_part_56 ?_
            refine x_const hC dX5_part_57 ?_
            refine x_callV hC hw (lv_size hl) (c_X5_refuse l G hRk_296 (p0 := 0) (by omega) (p1 := 3) (by omega) (by omega)) gX5_part_X5_refuse rfl dv_X5_refuse hRk_296.1.1 rfl rfl (Nat.le_of_ble_eq_true rfl) (by rw [hRf]; decide) (by rw [hRl]; decide) (by omega) (by omega) dX5_part_58 (fun r9 M_302 H locs hq hw => ?_)
            obtain ⟨z_304, thk_303, rfl, hz_304r, hx5k_303, hRk_303⟩ := hq
            have hsck_303 := hRk_303.sc.1
            show W p l e R s m args below meth c H locs _ _ _ (F0 m 61 ls [.int (iN (z_304))])
            refine x_if_eq (tgt := 66) hC ⟨by omega, by omega⟩ dX5_part_61 (by decide) (fun c_305 => ?_) (fun c_305 => ?_)
            · replace hz_304r := (hz_304r.resolve_right (fun q9 => by have e9 := q9.1; omega)).2
              refine lv_aload_n hC.1 hC.2.1 dX5_part_66 rfl (lv_at hl 0 rfl) ?_
              refine x_get hC hw hRk_303.1.1 rfl hinX5 5 (by decide) (by decide +kernel) rfl dX5_part_67 ?_
              refine lv_iload_n hC.1 hC.2.1 dX5_part_70 rfl (lv_at hl 1 rfl) ?_
              refine x_ald4 hC hw hRk_303.1.2.2.2.2.1 (by omega) (by omega) (by omega) dX5_part_71 ?_
              obtain ⟨y_306, hy_307⟩ := x_some (hz_2n (by omega))
              rw [hy_307]
              obtain ⟨ti_308, fi_308, hui_308, hIi_308⟩ := (hRk_303.vw (show (p0).toNat < 4 by omega)).yes hy_307
              obtain ⟨htat_309, htbt_309, htct_309, htdt_309, htet_309⟩ := id hIi_308.2.1
              show W p l e R s m args below meth c _ _ _ _ _ (F0 m 72 ls [.ref y_306])
              refine lv_astore (lv' := [(6, .ref y_306), (0, .ref a), (1, .int (iN (p0))), (2, .int (iN (p1))), (3, .int (iN (p2))), (4, .int (iN (p3))), (5, .int (iN (p4)))]) hC.1 hC.2.1 dX5_part_72 hl (by decide) rfl (fun ls hl => ?_)
              refine lv_aload_n hC.1 hC.2.1 dX5_part_74 rfl (lv_at hl 1 rfl) ?_
              refine lv_aload hC.1 hC.2.1 dX5_part_75 (lv_at hl 0 rfl) ?_
              refine lv_iload_n hC.1 hC.2.1 dX5_part_77 rfl (lv_at hl 3 rfl) ?_
              refine x_callV hC hw (lv_size hl) (c_X5_isWithin l G hRk_303 hIi_308 (p0 := p1) (by omega) (by omega)) gX5_part_X5_isWithin rfl dv_X5_isWithin hRk_303.1.1 rfl rfl (Nat.le_of_ble_eq_true rfl) (by rw [hRf]; decide) (by rw [hRl]; decide) (by omega) (by omega) dX5_part_78 (fun r9 M_310 H locs hq hw => ?_)
              obtain ⟨z_311, rfl, hM9, hz_311a, hz_311w⟩ := hq
              rw [hM9] at hw
              show W p l e R s m args below meth c H locs _ _ _ (F0 m 81 ls [.int (iN (z_311))])
              refine x_if_eq (tgt := 113) hC ⟨by omega, by omega⟩ dX5_part_81 (by decide) (fun c_312 => ?_) (fun c_312 => ?_)
              · refine x_sipush hC dX5_part_113 (by decide +kernel) ?_
                exact x_iret hC hw dX5_part_116 (by omega) (by omega) ⟨(-20000), thk_303, rfl, by omega, Or.inl ⟨by omega, by first | trivial | omega, (by have i9 := inI_01 (O ti_308.b) (p1).toNat ti_308; have i8 := inI_01 (O ti_308.b) (p3).toNat ti_308; rw [A_part, show tvW (ST.W (O, V, Wv, K, kp, kv, rfd)) p0.toNat = ti_308 from tvW_some hui_308]; show _ = (if ((inI (O ti_308.b) ti_308 (p1).toNat = 1 ∧ inI (O ti_308.b) ti_308 (p3).toNat = 1) ∧ ¬ mwN (O ti_308.b) (p3).toNat < mwN (O ti_308.b) (p1).toNat) then (frN Wv : Int) else -20000); omega), (by have i9 := inI_01 (O ti_308.b) (p1).toNat ti_308; have i8 := inI_01 (O ti_308.b) (p3).toNat ti_308; rw [S_part, show tvW (ST.W (O, V, Wv, K, kp, kv, rfd)) p0.toNat = ti_308 from tvW_some hui_308]; show MGm _ _ _ _ _ (if ((inI (O ti_308.b) ti_308 (p1).toNat = 1 ∧ inI (O ti_308.b) ti_308 (p3).toNat = 1) ∧ ¬ mwN (O ti_308.b) (p3).toNat < mwN (O ti_308.b) (p1).toNat) then _ else _); rw [if_neg (by omega)]; exact MGm.of hRk_303 hK)⟩⟩
              · refine lv_aload_n hC.1 hC.2.1 dX5_part_84 rfl (lv_at hl 1 rfl) ?_
                refine lv_aload hC.1 hC.2.1 dX5_part_85 (lv_at hl 0 rfl) ?_
                refine lv_iload hC.1 hC.2.1 dX5_part_87 (lv_at hl 5 rfl) ?_
                refine x_callV hC hw (lv_size hl) (c_X5_isWithin l G hRk_303 hIi_308 (p0 := p3) (by omega) (by omega)) gX5_part_X5_isWithin rfl dv_X5_isWithin hRk_303.1.1 rfl rfl (Nat.le_of_ble_eq_true rfl) (by rw [hRf]; decide) (by rw [hRl]; decide) (by omega) (by omega) dX5_part_89 (fun r9 M_313 H locs hq hw => ?_)
                obtain ⟨z_314, rfl, hM9, hz_314a, hz_314w⟩ := hq
                rw [hM9] at hw
                show W p l e R s m args below meth c H locs _ _ _ (F0 m 92 ls [.int (iN (z_314))])
                refine x_if_eq (tgt := 113) hC ⟨by omega, by omega⟩ dX5_part_92 (by decide) (fun c_315 => ?_) (fun c_315 => ?_)
                · refine x_sipush hC dX5_part_113 (by decide +kernel) ?_
                  exact x_iret hC hw dX5_part_116 (by omega) (by omega) ⟨(-20000), thk_303, rfl, by omega, Or.inl ⟨by omega, by first | trivial | omega, (by have i9 := inI_01 (O ti_308.b) (p1).toNat ti_308; have i8 := inI_01 (O ti_308.b) (p3).toNat ti_308; rw [A_part, show tvW (ST.W (O, V, Wv, K, kp, kv, rfd)) p0.toNat = ti_308 from tvW_some hui_308]; show _ = (if ((inI (O ti_308.b) ti_308 (p1).toNat = 1 ∧ inI (O ti_308.b) ti_308 (p3).toNat = 1) ∧ ¬ mwN (O ti_308.b) (p3).toNat < mwN (O ti_308.b) (p1).toNat) then (frN Wv : Int) else -20000); omega), (by have i9 := inI_01 (O ti_308.b) (p1).toNat ti_308; have i8 := inI_01 (O ti_308.b) (p3).toNat ti_308; rw [S_part, show tvW (ST.W (O, V, Wv, K, kp, kv, rfd)) p0.toNat = ti_308 from tvW_some hui_308]; show MGm _ _ _ _ _ (if ((inI (O ti_308.b) ti_308 (p1).toNat = 1 ∧ inI (O ti_308.b) ti_308 (p3).toNat = 1) ∧ ¬ mwN (O ti_308.b) (p3).toNat < mwN (O ti_308.b) (p1).toNat) then _ else _); rw [if_neg (by omega)]; exact MGm.of hRk_303 hK)⟩⟩
                · refine lv_aload_n hC.1 hC.2.1 dX5_part_95 rfl (lv_at hl 1 rfl) ?_
                  refine lv_aload hC.1 hC.2.1 dX5_part_96 (lv_at hl 0 rfl) ?_
                  refine lv_iload_n hC.1 hC.2.1 dX5_part_98 rfl (lv_at hl 3 rfl) ?_
                  refine x_callV hC hw (lv_size hl) (c_X5_weight l G hRk_303 hIi_308 (p0 := p1) (by omega) (by omega)) gX5_part_X5_weight rfl dv_X5_weight hRk_303.1.1 rfl rfl (Nat.le_of_ble_eq_true rfl) (by rw [hRf]; decide) (by rw [hRl]; decide) (by omega) (by omega) dX5_part_99 (fun r9 M_316 H locs hq hw => ?_)
                  obtain ⟨z_317, rfl, hM9, hz_317a, hz_317b⟩ := hq
                  rw [hM9] at hw
                  show W p l e R s m args below meth c H locs _ _ _ (F0 m 102 ls [.int (iN (z_317))])
                  refine lv_aload_n hC.1 hC.2.1 dX5_part_102 rfl (lv_at hl 1 rfl) ?_
                  refine lv_aload hC.1 hC.2.1 dX5_part_103 (lv_at hl 0 rfl) ?_
                  refine lv_iload hC.1 hC.2.1 dX5_part_105 (lv_at hl 5 rfl) ?_
                  refine x_callV hC hw (lv_size hl) (c_X5_weight l G hRk_303 hIi_308 (p0 := p3) (by omega) (by omega)) gX5_part_X5_weight rfl dv_X5_weight hRk_303.1.1 rfl rfl (Nat.le_of_ble_eq_true rfl) (by rw [hRf]; decide) (by rw [hRl]; decide) (by omega) (by omega) dX5_part_107 (fun r9 M_318 H locs hq hw => ?_)
                  obtain ⟨z_319, rfl, hM9, hz_319a, hz_319b⟩ := hq
                  rw [hM9] at hw
                  show W p l e R s m args below meth c H locs _ _ _ (F0 m 110 ls [.int (iN (z_319)), .int (iN (z_317))])
                  refine x_icmp_le (tgt := 117) hC ⟨by omega, by omega⟩ ⟨by omega, by omega⟩ dX5_part_110 (by decide) (fun c_320 => ?_) (fun c_320 => ?_)
                  · refine lv_aload_n hC.1 hC.2.1 dX5_part_117 rfl (lv_at hl 1 rfl) ?_
                    refine x_const hC dX5_part_118 ?_
                    refine x_newI hC hw (by decide +kernel) 5 rfl (by decide) (by omega) (by omega) dX5_part_119 (fun q_321 H hq_322 hw => ?_)
                    obtain ⟨M_323, hM_324⟩ : ∃ z, z = va_up M_302 q_321 (some (.inl (G.2 1, 5, .inl (fun _ => 0)))) := ⟨_, rfl⟩
                    rw [← hM_324] at hw
                    have hx_325 : xExt M_302 M_323 := by rw [hM_324]; exact xExt.new hq_322
                    have hA_326 : M_323 q_321 = some (.inl (G.2 1, 5, .inl (fun _ => 0))) := by rw [hM_324, va_up_self]
                    have h_327 := hRk_303.ext hx_325
                    have h_328 := hIi_308.x5 (xExt.x5 hx_325)
                    refine lv_dup hC.1 hC.2.1 dX5_part_121 rfl ?_
                    refine x_const hC dX5_part_122 ?_
                    refine lv_aload hC.1 hC.2.1 dX5_part_123 (lv_at hl 0 rfl) ?_
                    refine x_const hC dX5_part_125 ?_
                    refine x_ialdE (x := ((ti_308.b : Nat) : Int)) hC hw h_328.1 (by omega) (by omega) (by omega) dX5_part_126 h_328.2.2.1 ?_
                    refine x_iast hC hw hA_326 (by omega) (by omega) (by omega) dX5_part_127 (fun H locs hw => ?_)
                    obtain ⟨M_329, hM_330⟩ : ∃ z, z = va_up M_323 q_321 (some (.inl (G.2 1, 5, .inl (upd (fun _ => 0) (0 : Int).toNat (iN (((ti_308.b : Nat) : Int))))))) := ⟨_, rfl⟩
                    rw [← hM_330] at hw
                    have hA_331 : M_329 q_321 = some (.inl (G.2 1, 5, .inl (upd (fun _ => 0) (0 : Int).toNat (iN (((ti_308.b : Nat) : Int)))))) := by rw [hM_330, va_up_self]
                    have hx_332 := xExt.upd hq_322 hx_325 hM_330
                    have h_333 := hRk_303.ext hx_332
                    have h_334 := hIi_308.x5 (xExt.x5 hx_332)
                    refine lv_dup hC.1 hC.2.1 dX5_part_128 rfl ?_
                    refine x_const hC dX5_part_129 ?_
                    refine lv_iload_n hC.1 hC.2.1 dX5_part_130 rfl (lv_at hl 3 rfl) ?_
                    refine x_iast hC hw hA_331 (by omega) (by omega) (by omega) dX5_part_131 (fun H locs hw => ?_)
                    obtain ⟨M_335, hM_336⟩ : ∃ z, z = va_up M_329 q_321 (some (.inl (G.2 1, 5, .inl (upd (upd (fun _ => 0) (0 : Int).toNat (iN (((ti_308.b : Nat) : Int)))) (1 : Int).toNat (iN (p1)))))) := ⟨_, rfl⟩
                    rw [← hM_336] at hw
                    have hA_337 : M_335 q_321 = some (.inl (G.2 1, 5, .inl (upd (upd (fun _ => 0) (0 : Int).toNat (iN (((ti_308.b : Nat) : Int)))) (1 : Int).toNat (iN (p1))))) := by rw [hM_336, va_up_self]
                    have hx_338 := xExt.upd hq_322 hx_332 hM_336
                    have h_339 := hRk_303.ext hx_338
                    have h_340 := hIi_308.x5 (xExt.x5 hx_338)
                    refine lv_dup hC.1 hC.2.1 dX5_part_132 rfl ?_
                    refine x_const hC dX5_part_133 ?_
                    refine lv_iload_n hC.1 hC.2.1 dX5_part_134 rfl (lv_at hl 4 rfl) ?_
                    refine x_callS hC hw (lv_size hl) (c_X5_one l G (M := M_335) (p0 := p2) (by omega)) gX5_part_X5_one rfl dv_X5_one_s rfl (Nat.le_of_ble_eq_true rfl) (by rw [hRf]; decide) (by rw [hRl]; decide) (by omega) (by omega) dX5_part_135 (fun r9 M_341 H locs hq hw => ?_)
                    obtain ⟨z_342, rfl, hM9, hz_342a, hz_342b⟩ := hq
                    rw [hM9] at hw
                    show W p l e R s m args below meth c H locs _ _ _ (F0 m 138 ls [.int (iN (z_342)), .int (iN (2)), .ref q_321, .ref q_321, .ref a])
                    refine x_iast hC hw hA_337 (by omega) (by omega) (by omega) dX5_part_138 (fun H locs hw => ?_)
                    obtain ⟨M_343, hM_344⟩ : ∃ z, z = va_up M_335 q_321 (some (.inl (G.2 1, 5, .inl (upd (upd (upd (fun _ => 0) (0 : Int).toNat (iN (((ti_308.b : Nat) : Int)))) (1 : Int).toNat (iN (p1))) (2 : Int).toNat (iN (z_342)))))) := ⟨_, rfl⟩
                    rw [← hM_344] at hw
                    have hA_345 : M_343 q_321 = some (.inl (G.2 1, 5, .inl (upd (upd (upd (fun _ => 0) (0 : Int).toNat (iN (((ti_308.b : Nat) : Int)))) (1 : Int).toNat (iN (p1))) (2 : Int).toNat (iN (z_342))))) := by rw [hM_344, va_up_self]
                    have hx_346 := xExt.upd hq_322 hx_338 hM_344
                    have h_347 := hRk_303.ext hx_346
                    have h_348 := hIi_308.x5 (xExt.x5 hx_346)
                    refine lv_dup hC.1 hC.2.1 dX5_part_139 rfl ?_
                    refine x_const hC dX5_part_140 ?_
                    refine lv_iload hC.1 hC.2.1 dX5_part_141 (lv_at hl 5 rfl) ?_
                    refine x_iast hC hw hA_345 (by omega) (by omega) (by omega) dX5_part_143 (fun H locs hw => ?_)
                    obtain ⟨M_349, hM_350⟩ : ∃ z, z = va_up M_343 q_321 (some (.inl (G.2 1, 5, .inl (upd (upd (upd (upd (fun _ => 0) (0 : Int).toNat (iN (((ti_308.b : Nat) : Int)))) (1 : Int).toNat (iN (p1))) (2 : Int).toNat (iN (z_342))) (3 : Int).toNat (iN (p3)))))) := ⟨_, rfl⟩
                    rw [← hM_350] at hw
                    have hA_351 : M_349 q_321 = some (.inl (G.2 1, 5, .inl (upd (upd (upd (upd (fun _ => 0) (0 : Int).toNat (iN (((ti_308.b : Nat) : Int)))) (1 : Int).toNat (iN (p1))) (2 : Int).toNat (iN (z_342))) (3 : Int).toNat (iN (p3))))) := by rw [hM_350, va_up_self]
                    have hx_352 := xExt.upd hq_322 hx_346 hM_350
                    have h_353 := hRk_303.ext hx_352
                    have h_354 := hIi_308.x5 (xExt.x5 hx_352)
                    refine lv_dup hC.1 hC.2.1 dX5_part_144 rfl ?_
                    refine x_const hC dX5_part_145 ?_
                    refine lv_iload hC.1 hC.2.1 dX5_part_146 (lv_at hl 6 rfl) ?_
                    refine x_callS hC hw (lv_size hl) (c_X5_one l G (M := M_349) (p0 := p4) (by omega)) gX5_part_X5_one rfl dv_X5_one_s rfl (Nat.le_of_ble_eq_true rfl) (by rw [hRf]; decide) (by rw [hRl]; decide) (by omega) (by omega) dX5_part_148 (fun r9 M_355 H locs hq hw => ?_)
                    obtain ⟨z_356, rfl, hM9, hz_356a, hz_356b⟩ := hq
                    rw [hM9] at hw
                    show W p l e R s m args below meth c H locs _ _ _ (F0 m 151 ls [.int (iN (z_356)), .int (iN (4)), .ref q_321, .ref q_321, .ref a])
                    refine x_iast hC hw hA_351 (by omega) (by omega) (by omega) dX5_part_151 (fun H locs hw => ?_)
                    obtain ⟨M_357, hM_358⟩ : ∃ z, z = va_up M_349 q_321 (some (.inl (G.2 1, 5, .inl (upd (upd (upd (upd (upd (fun _ => 0) (0 : Int).toNat (iN (((ti_308.b : Nat) : Int)))) (1 : Int).toNat (iN (p1))) (2 : Int).toNat (iN (z_342))) (3 : Int).toNat (iN (p3))) (4 : Int).toNat (iN (z_356)))))) := ⟨_, rfl⟩
                    rw [← hM_358] at hw
                    have hA_359 : M_357 q_321 = some (.inl (G.2 1, 5, .inl (upd (upd (upd (upd (upd (fun _ => 0) (0 : Int).toNat (iN (((ti_308.b : Nat) : Int)))) (1 : Int).toNat (iN (p1))) (2 : Int).toNat (iN (z_342))) (3 : Int).toNat (iN (p3))) (4 : Int).toNat (iN (z_356))))) := by rw [hM_358, va_up_self]
                    have hx_360 := xExt.upd hq_322 hx_352 hM_358
                    have h_361 := hRk_303.ext hx_360
                    have h_362 := hIi_308.x5 (xExt.x5 hx_360)
                    have hI_363 : Its G M_357 q_321 (upd (upd (upd (upd (upd (fun _ => 0) (0 : Int).toNat (iN (((ti_308.b : Nat) : Int)))) (1 : Int).toNat (iN (p1))) (2 : Int).toNat (iN (z_342))) (3 : Int).toNat (iN (p3))) (4 : Int).toNat (iN (z_356))) (ti_308.b, p1, p3, p2, p4) := ⟨hA_359, ⟨(show ti_308.b < 3 by omega), (show p1 = -10000 ∨ (0 ≤ p1 ∧ p1 ≤ 99) by omega), (show p3 = -10000 ∨ (0 ≤ p3 ∧ p3 ≤ 99) by omega), (show p2 = 0 ∨ p2 = 1 by omega), (show p4 = 0 ∨ p4 = 1 by omega)⟩, rfl, rfl, (show iN (z_342) = iN (p2) from congrArg iN (by omega)), rfl, (show iN (z_356) = iN (p4) from congrArg iN (by omega))⟩
                    refine x_callV hC hw (lv_size hl) (c_X5_open l G h_361 hI_363 (by omega)) gX5_part_X5_open rfl dv_X5_open h_361.1.1 rfl rfl (Nat.le_of_ble_eq_true rfl) (by rw [hRf]; decide) (by rw [hRl]; decide) (by omega) (by omega) dX5_part_152 (fun r9 M_364 H locs hq hw => ?_)
                    obtain ⟨z_366, fyk_365, Wvk_365, rfl, hz_366a, hz_366f, he0k_365, hx5k_365, hRk_365⟩ := hq
                    have h_367 := h_362.x5 hx5k_365
                    have h_368 := hI_363.x5 hx5k_365
                    have hsck_365 := hRk_365.sc.1
                    show W p l e R s m args below meth c H locs _ _ _ (F0 m 155 ls [.int (iN (z_366))])
                    exact x_iret hC hw dX5_part_155 (by omega) (by omega) ⟨z_366, thk_303, rfl, by omega, Or.inl ⟨by omega, by first | trivial | omega, (by have i9 := inI_01 (O ti_308.b) (p1).toNat ti_308; have i8 := inI_01 (O ti_308.b) (p3).toNat ti_308; rw [A_part, show tvW (ST.W (O, V, Wv, K, kp, kv, rfd)) p0.toNat = ti_308 from tvW_some hui_308]; show _ = (if ((inI (O ti_308.b) ti_308 (p1).toNat = 1 ∧ inI (O ti_308.b) ti_308 (p3).toNat = 1) ∧ ¬ mwN (O ti_308.b) (p3).toNat < mwN (O ti_308.b) (p1).toNat) then (frN Wv : Int) else -20000); omega), (by have i9 := inI_01 (O ti_308.b) (p1).toNat ti_308; have i8 := inI_01 (O ti_308.b) (p3).toNat ti_308; rw [S_part, show tvW (ST.W (O, V, Wv, K, kp, kv, rfd)) p0.toNat = ti_308 from tvW_some hui_308]; show MGm _ _ _ _ _ (if ((inI (O ti_308.b) ti_308 (p1).toNat = 1 ∧ inI (O ti_308.b) ti_308 (p3).toNat = 1) ∧ ¬ mwN (O ti_308.b) (p3).toNat < mwN (O ti_308.b) (p1).toNat) then _ else _); rw [if_pos (by omega)]; exact (by have e9 := hRk_365; rw [he0k_365] at e9; exact MGm.of e9 hK))⟩⟩
                  · refine x_sipush hC dX5_part_113 (by decide +kernel) ?_
                    exact x_iret hC hw dX5_part_116 (by omega) (by omega) ⟨(-20000), thk_303, rfl, by omega, Or.inl ⟨by omega, by first | trivial | omega, (by have i9 := inI_01 (O ti_308.b) (p1).toNat ti_308; have i8 := inI_01 (O ti_308.b) (p3).toNat ti_308; rw [A_part, show tvW (ST.W (O, V, Wv, K, kp, kv, rfd)) p0.toNat = ti_308 from tvW_some hui_308]; show _ = (if ((inI (O ti_308.b) ti_308 (p1).toNat = 1 ∧ inI (O ti_308.b) ti_308 (p3).toNat = 1) ∧ ¬ mwN (O ti_308.b) (p3).toNat < mwN (O ti_308.b) (p1).toNat) then (frN Wv : Int) else -20000); omega), (by have i9 := inI_01 (O ti_308.b) (p1).toNat ti_308; have i8 := inI_01 (O ti_308.b) (p3).toNat ti_308; rw [S_part, show tvW (ST.W (O, V, Wv, K, kp, kv, rfd)) p0.toNat = ti_308 from tvW_some hui_308]; show MGm _ _ _ _ _ (if ((inI (O ti_308.b) ti_308 (p1).toNat = 1 ∧ inI (O ti_308.b) ti_308 (p3).toNat = 1) ∧ ¬ mwN (O ti_308.b) (p3).toNat < mwN (O ti_308.b) (p1).toNat) then _ else _); rw [if_neg (by omega)]; exact MGm.of hRk_303 hK)⟩⟩
            · replace hz_304r := (hz_304r.resolve_left (fun q9 => by have e9 := q9.1; omega)).2
              refine x_const hC dX5_part_64 ?_
              exact x_iret hC hw dX5_part_65 (by omega) (by omega) ⟨0, thk_303, rfl, by omega, Or.inr ⟨by omega, by omega, MGm.of hRk_303 hK⟩⟩
          · refine x_const hC dX5_part_52 ?_
            refine lv_goto (tgt := 57) hC.1 hC.2.1 dX5_part_53 (by decide) ?_
            refine x_const hC dX5_part_57 ?_
            refine x_callV hC hw (lv_size hl) (c_X5_refuse l G hRk_296 (p0 := 1) (by omega) (p1 := 3) (by omega) (by omega)) gX5_part_X5_refuse rfl dv_X5_refuse hRk_296.1.1 rfl rfl (Nat.le_of_ble_eq_true rfl) (by rw [hRf]; decide) (by rw [hRl]; decide) (by omega) (by omega) dX5_part_58 (fun r9 M_369 H locs hq hw => ?_)
            obtain ⟨z_371, thk_370, rfl, hz_371r, hx5k_370, hRk_370⟩ := hq
            have hsck_370 := hRk_370.sc.1
            show W p l e R s m args below meth c H locs _ _ _ (F0 m 61 ls [.int (iN (z_371))])
            refine x_if_eq (tgt := 66) hC ⟨by omega, by omega⟩ dX5_part_61 (by decide) (fun c_372 => ?_) (fun c_372 => ?_)
            · replace hz_371r := (hz_371r.resolve_right (fun q9 => by have e9 := q9.1; omega)).2
              refine lv_aload_n hC.1 hC.2.1 dX5_part_66 rfl (lv_at hl 0 rfl) ?_
              refine x_get hC hw hRk_370.1.1 rfl hinX5 5 (by decide) (by decide +kernel) rfl dX5_part_67 ?_
              refine lv_iload_n hC.1 hC.2.1 dX5_part_70 rfl (lv_at hl 1 rfl) ?_
              refine x_ald4 hC hw hRk_370.1.2.2.2.2.1 (by omega) (by omega) (by omega) dX5_part_71 ?_
              obtain ⟨y_373, hy_374⟩ := x_some (hz_2n (by omega))
              rw [hy_374]
              obtain ⟨ti_375, fi_375, hui_375, hIi_375⟩ := (hRk_370.vw (show (p0).toNat < 4 by omega)).yes hy_374
              obtain ⟨htat_376, htbt_376, htct_376, htdt_376, htet_376⟩ := id hIi_375.2.1
              show W p l e R s m args below meth c _ _ _ _ _ (F0 m 72 ls [.ref y_373])
              refine lv_astore (lv' := [(6, .ref y_373), (0, .ref a), (1, .int (iN (p0))), (2, .int (iN (p1))), (3, .int (iN (p2))), (4, .int (iN (p3))), (5, .int (iN (p4)))]) hC.1 hC.2.1 dX5_part_72 hl (by decide) rfl (fun ls hl => ?_)
              refine lv_aload_n hC.1 hC.2.1 dX5_part_74 rfl (lv_at hl 1 rfl) ?_
              refine lv_aload hC.1 hC.2.1 dX5_part_75 (lv_at hl 0 rfl) ?_
              refine lv_iload_n hC.1 hC.2.1 dX5_part_77 rfl (lv_at hl 3 rfl) ?_
              refine x_callV hC hw (lv_size hl) (c_X5_isWithin l G hRk_370 hIi_375 (p0 := p1) (by omega) (by omega)) gX5_part_X5_isWithin rfl dv_X5_isWithin hRk_370.1.1 rfl rfl (Nat.le_of_ble_eq_true rfl) (by rw [hRf]; decide) (by rw [hRl]; decide) (by omega) (by omega) dX5_part_78 (fun r9 M_377 H locs hq hw => ?_)
              obtain ⟨z_378, rfl, hM9, hz_378a, hz_378w⟩ := hq
              rw [hM9] at hw
              show W p l e R s m args below meth c H locs _ _ _ (F0 m 81 ls [.int (iN (z_378))])
              refine x_if_eq (tgt := 113) hC ⟨by omega, by omega⟩ dX5_part_81 (by decide) (fun c_379 => ?_) (fun c_379 => ?_)
              · refine x_sipush hC dX5_part_113 (by decide +kernel) ?_
                exact x_iret hC hw dX5_part_116 (by omega) (by omega) ⟨(-20000), thk_370, rfl, by omega, Or.inl ⟨by omega, by first | trivial | omega, (by have i9 := inI_01 (O ti_375.b) (p1).toNat ti_375; have i8 := inI_01 (O ti_375.b) (p3).toNat ti_375; rw [A_part, show tvW (ST.W (O, V, Wv, K, kp, kv, rfd)) p0.toNat = ti_375 from tvW_some hui_375]; show _ = (if ((inI (O ti_375.b) ti_375 (p1).toNat = 1 ∧ inI (O ti_375.b) ti_375 (p3).toNat = 1) ∧ ¬ mwN (O ti_375.b) (p3).toNat < mwN (O ti_375.b) (p1).toNat) then (frN Wv : Int) else -20000); omega), (by have i9 := inI_01 (O ti_375.b) (p1).toNat ti_375; have i8 := inI_01 (O ti_375.b) (p3).toNat ti_375; rw [S_part, show tvW (ST.W (O, V, Wv, K, kp, kv, rfd)) p0.toNat = ti_375 from tvW_some hui_375]; show MGm _ _ _ _ _ (if ((inI (O ti_375.b) ti_375 (p1).toNat = 1 ∧ inI (O ti_375.b) ti_375 (p3).toNat = 1) ∧ ¬ mwN (O ti_375.b) (p3).toNat < mwN (O ti_375.b) (p1).toNat) then _ else _); rw [if_neg (by omega)]; exact MGm.of hRk_370 hK)⟩⟩
              · refine lv_aload_n hC.1 hC.2.1 dX5_part_84 rfl (lv_at hl 1 rfl) ?_
                refine lv_aload hC.1 hC.2.1 dX5_part_85 (lv_at hl 0 rfl) ?_
                refine lv_iload hC.1 hC.2.1 dX5_part_87 (lv_at hl 5 rfl) ?_
                refine x_callV hC hw (lv_size hl) (c_X5_isWithin l G hRk_370 hIi_375 (p0 := p3) (by omega) (by omega)) gX5_part_X5_isWithin rfl dv_X5_isWithin hRk_370.1.1 rfl rfl (Nat.le_of_ble_eq_true rfl) (by rw [hRf]; decide) (by rw [hRl]; decide) (by omega) (by omega) dX5_part_89 (fun r9 M_380 H locs hq hw => ?_)
                obtain ⟨z_381, rfl, hM9, hz_381a, hz_381w⟩ := hq
                rw [hM9] at hw
                show W p l e R s m args below meth c H locs _ _ _ (F0 m 92 ls [.int (iN (z_381))])
                refine x_if_eq (tgt := 113) hC ⟨by omega, by omega⟩ dX5_part_92 (by decide) (fun c_382 => ?_) (fun c_382 => ?_)
                · refine x_sipush hC dX5_part_113 (by decide +kernel) ?_
                  exact x_iret hC hw dX5_part_116 (by omega) (by omega) ⟨(-20000), thk_370, rfl, by omega, Or.inl ⟨by omega, by first | trivial | omega, (by have i9 := inI_01 (O ti_375.b) (p1).toNat ti_375; have i8 := inI_01 (O ti_375.b) (p3).toNat ti_375; rw [A_part, show tvW (ST.W (O, V, Wv, K, kp, kv, rfd)) p0.toNat = ti_375 from tvW_some hui_375]; show _ = (if ((inI (O ti_375.b) ti_375 (p1).toNat = 1 ∧ inI (O ti_375.b) ti_375 (p3).toNat = 1) ∧ ¬ mwN (O ti_375.b) (p3).toNat < mwN (O ti_375.b) (p1).toNat) then (frN Wv : Int) else -20000); omega), (by have i9 := inI_01 (O ti_375.b) (p1).toNat ti_375; have i8 := inI_01 (O ti_375.b) (p3).toNat ti_375; rw [S_part, show tvW (ST.W (O, V, Wv, K, kp, kv, rfd)) p0.toNat = ti_375 from tvW_some hui_375]; show MGm _ _ _ _ _ (if ((inI (O ti_375.b) ti_375 (p1).toNat = 1 ∧ inI (O ti_375.b) ti_375 (p3).toNat = 1) ∧ ¬ mwN (O ti_375.b) (p3).toNat < mwN (O ti_375.b) (p1).toNat) then _ else _); rw [if_neg (by omega)]; exact MGm.of hRk_370 hK)⟩⟩
                · refine lv_aload_n hC.1 hC.2.1 dX5_part_95 rfl (lv_at hl 1 rfl) ?_
                  refine lv_aload hC.1 hC.2.1 dX5_part_96 (lv_at hl 0 rfl) ?_
                  refine lv_iload_n hC.1 hC.2.1 dX5_part_98 rfl (lv_at hl 3 rfl) ?_
                  refine x_callV hC hw (lv_size hl) (c_X5_weight l G hRk_370 hIi_375 (p0 := p1) (by omega) (by omega)) gX5_part_X5_weight rfl dv_X5_weight hRk_370.1.1 rfl rfl (Nat.le_of_ble_eq_true rfl) (by rw [hRf]; decide) (by rw [hRl]; decide) (by omega) (by omega) dX5_part_99 (fun r9 M_383 H locs hq hw => ?_)
                  obtain ⟨z_384, rfl, hM9, hz_384a, hz_384b⟩ := hq
                  rw [hM9] at hw
                  show W p l e R s m args below meth c H locs _ _ _ (F0 m 102 ls [.int (iN (z_384))])
                  refine lv_aload_n hC.1 hC.2.1 dX5_part_102 rfl (lv_at hl 1 rfl) ?_
                  refine lv_aload hC.1 hC.2.1 dX5_part_103 (lv_at hl 0 rfl) ?_
                  refine lv_iload hC.1 hC.2.1 dX5_part_105 (lv_at hl 5 rfl) ?_
                  refine x_callV hC hw (lv_size hl) (c_X5_weight l G hRk_370 hIi_375 (p0 := p3) (by omega) (by omega)) gX5_part_X5_weight rfl dv_X5_weight hRk_370.1.1 rfl rfl (Nat.le_of_ble_eq_true rfl) (by rw [hRf]; decide) (by rw [hRl]; decide) (by omega) (by omega) dX5_part_107 (fun r9 M_385 H locs hq hw => ?_)
                  obtain ⟨z_386, rfl, hM9, hz_386a, hz_386b⟩ := hq
                  rw [hM9] at hw
                  show W p l e R s m args below meth c H locs _ _ _ (F0 m 110 ls [.int (iN (z_386)), .int (iN (z_384))])
                  refine x_icmp_le (tgt := 117) hC ⟨by omega, by omega⟩ ⟨by omega, by omega⟩ dX5_part_110 (by decide) (fun c_387 => ?_) (fun c_387 => ?_)
                  · refine lv_aload_n hC.1 hC.2.1 dX5_part_117 rfl (lv_at hl 1 rfl) ?_
                    refine x_const hC dX5_part_118 ?_
                    refine x_newI hC hw (by decide +kernel) 5 rfl (by decide) (by omega) (by omega) dX5_part_119 (fun q_388 H hq_389 hw => ?_)
                    obtain ⟨M_390, hM_391⟩ : ∃ z, z = va_up M_369 q_388 (some (.inl (G.2 1, 5, .inl (fun _ => 0)))) := ⟨_, rfl⟩
                    rw [← hM_391] at hw
                    have hx_392 : xExt M_369 M_390 := by rw [hM_391]; exact xExt.new hq_389
                    have hA_393 : M_390 q_388 = some (.inl (G.2 1, 5, .inl (fun _ => 0))) := by rw [hM_391, va_up_self]
                    have h_394 := hRk_370.ext hx_392
                    have h_395 := hIi_375.x5 (xExt.x5 hx_392)
                    refine lv_dup hC.1 hC.2.1 dX5_part_121 rfl ?_
                    refine x_const hC dX5_part_122 ?_
                    refine lv_aload hC.1 hC.2.1 dX5_part_123 (lv_at hl 0 rfl) ?_
                    refine x_const hC dX5_part_125 ?_
                    refine x_ialdE (x := ((ti_375.b : Nat) : Int)) hC hw h_395.1 (by omega) (by omega) (by omega) dX5_part_126 h_395.2.2.1 ?_
                    refine x_iast hC hw hA_393 (by omega) (by omega) (by omega) dX5_part_127 (fun H locs hw => ?_)
                    obtain ⟨M_396, hM_397⟩ : ∃ z, z = va_up M_390 q_388 (some (.inl (G.2 1, 5, .inl (upd (fun _ => 0) (0 : Int).toNat (iN (((ti_375.b : Nat) : Int))))))) := ⟨_, rfl⟩
                    rw [← hM_397] at hw
                    have hA_398 : M_396 q_388 = some (.inl (G.2 1, 5, .inl (upd (fun _ => 0) (0 : Int).toNat (iN (((ti_375.b : Nat) : Int)))))) := by rw [hM_397, va_up_self]
                    have hx_399 := xExt.upd hq_389 hx_392 hM_397
                    have h_400 := hRk_370.ext hx_399
                    have h_401 := hIi_375.x5 (xExt.x5 hx_399)
                    refine lv_dup hC.1 hC.2.1 dX5_part_128 rfl ?_
                    refine x_const hC dX5_part_129 ?_
                    refine lv_iload_n hC.1 hC.2.1 dX5_part_130 rfl (lv_at hl 3 rfl) ?_
                    refine x_iast hC hw hA_398 (by omega) (by omega) (by omega) dX5_part_131 (fun H locs hw => ?_)
                    obtain ⟨M_402, hM_403⟩ : ∃ z, z = va_up M_396 q_388 (some (.inl (G.2 1, 5, .inl (upd (upd (fun _ => 0) (0 : Int).toNat (iN (((ti_375.b : Nat) : Int)))) (1 : Int).toNat (iN (p1)))))) := ⟨_, rfl⟩
                    rw [← hM_403] at hw
                    have hA_404 : M_402 q_388 = some (.inl (G.2 1, 5, .inl (upd (upd (fun _ => 0) (0 : Int).toNat (iN (((ti_375.b : Nat) : Int)))) (1 : Int).toNat (iN (p1))))) := by rw [hM_403, va_up_self]
                    have hx_405 := xExt.upd hq_389 hx_399 hM_403
                    have h_406 := hRk_370.ext hx_405
                    have h_407 := hIi_375.x5 (xExt.x5 hx_405)
                    refine lv_dup hC.1 hC.2.1 dX5_part_132 rfl ?_
                    refine x_const hC dX5_part_133 ?_
                    refine lv_iload_n hC.1 hC.2.1 dX5_part_134 rfl (lv_at hl 4 rfl) ?_
                    refine x_callS hC hw (lv_size hl) (c_X5_one l G (M := M_402) (p0 := p2) (by omega)) gX5_part_X5_one rfl dv_X5_one_s rfl (Nat.le_of_ble_eq_true rfl) (by rw [hRf]; decide) (by rw [hRl]; decide) (by omega) (by omega) dX5_part_135 (fun r9 M_408 H locs hq hw => ?_)
                    obtain ⟨z_409, rfl, hM9, hz_409a, hz_409b⟩ := hq
                    rw [hM9] at hw
                    show W p l e R s m args below meth c H locs _ _ _ (F0 m 138 ls [.int (iN (z_409)), .int (iN (2)), .ref q_388, .ref q_388, .ref a])
                    refine x_iast hC hw hA_404 (by omega) (by omega) (by omega) dX5_part_138 (fun H locs hw => ?_)
                    obtain ⟨M_410, hM_411⟩ : ∃ z, z = va_up M_402 q_388 (some (.inl (G.2 1, 5, .inl (upd (upd (upd (fun _ => 0) (0 : Int).toNat (iN (((ti_375.b : Nat) : Int)))) (1 : Int).toNat (iN (p1))) (2 : Int).toNat (iN (z_409)))))) := ⟨_, rfl⟩
                    rw [← hM_411] at hw
                    have hA_412 : M_410 q_388 = some (.inl (G.2 1, 5, .inl (upd (upd (upd (fun _ => 0) (0 : Int).toNat (iN (((ti_375.b : Nat) : Int)))) (1 : Int).toNat (iN (p1))) (2 : Int).toNat (iN (z_409))))) := by rw [hM_411, va_up_self]
                    have hx_413 := xExt.upd hq_389 hx_405 hM_411
                    have h_414 := hRk_370.ext hx_413
                    have h_415 := hIi_375.x5 (xExt.x5 hx_413)
                    refine lv_dup hC.1 hC.2.1 dX5_part_139 rfl ?_
                    refine x_const hC dX5_part_140 ?_
                    refine lv_iload hC.1 hC.2.1 dX5_part_141 (lv_at hl 5 rfl) ?_
                    refine x_iast hC hw hA_412 (by omega) (by omega) (by omega) dX5_part_143 (fun H locs hw => ?_)
                    obtain ⟨M_416, hM_417⟩ : ∃ z, z = va_up M_410 q_388 (some (.inl (G.2 1, 5, .inl (upd (upd (upd (upd (fun _ => 0) (0 : Int).toNat (iN (((ti_375.b : Nat) : Int)))) (1 : Int).toNat (iN (p1))) (2 : Int).toNat (iN (z_409))) (3 : Int).toNat (iN (p3)))))) := ⟨_, rfl⟩
                    rw [← hM_417] at hw
                    have hA_418 : M_416 q_388 = some (.inl (G.2 1, 5, .inl (upd (upd (upd (upd (fun _ => 0) (0 : Int).toNat (iN (((ti_375.b : Nat) : Int)))) (1 : Int).toNat (iN (p1))) (2 : Int).toNat (iN (z_409))) (3 : Int).toNat (iN (p3))))) := by rw [hM_417, va_up_self]
                    have hx_419 := xExt.upd hq_389 hx_413 hM_417
                    have h_420 := hRk_370.ext hx_419
                    have h_421 := hIi_375.x5 (xExt.x5 hx_419)
                    refine lv_dup hC.1 hC.2.1 dX5_part_144 rfl ?_
                    refine x_const hC dX5_part_145 ?_
                    refine lv_iload hC.1 hC.2.1 dX5_part_146 (lv_at hl 6 rfl) ?_
                    refine x_callS hC hw (lv_size hl) (c_X5_one l G (M := M_416) (p0 := p4) (by omega)) gX5_part_X5_one rfl dv_X5_one_s rfl (Nat.le_of_ble_eq_true rfl) (by rw [hRf]; decide) (by rw [hRl]; decide) (by omega) (by omega) dX5_part_148 (fun r9 M_422 H locs hq hw => ?_)
                    obtain ⟨z_423, rfl, hM9, hz_423a, hz_423b⟩ := hq
                    rw [hM9] at hw
                    show W p l e R s m args below meth c H locs _ _ _ (F0 m 151 ls [.int (iN (z_423)), .int (iN (4)), .ref q_388, .ref q_388, .ref a])
                    refine x_iast hC hw hA_418 (by omega) (by omega) (by omega) dX5_part_151 (fun H locs hw => ?_)
                    obtain ⟨M_424, hM_425⟩ : ∃ z, z = va_up M_416 q_388 (some (.inl (G.2 1, 5, .inl (upd (upd (upd (upd (upd (fun _ => 0) (0 : Int).toNat (iN (((ti_375.b : Nat) : Int)))) (1 : Int).toNat (iN (p1))) (2 : Int).toNat (iN (z_409))) (3 : Int).toNat (iN (p3))) (4 : Int).toNat (iN (z_423)))))) := ⟨_, rfl⟩
                    rw [← hM_425] at hw
                    have hA_426 : M_424 q_388 = some (.inl (G.2 1, 5, .inl (upd (upd (upd (upd (upd (fun _ => 0) (0 : Int).toNat (iN (((ti_375.b : Nat) : Int)))) (1 : Int).toNat (iN (p1))) (2 : Int).toNat (iN (z_409))) (3 : Int).toNat (iN (p3))) (4 : Int).toNat (iN (z_423))))) := by rw [hM_425, va_up_self]
                    have hx_427 := xExt.upd hq_389 hx_419 hM_425
                    have h_428 := hRk_370.ext hx_427
                    have h_429 := hIi_375.x5 (xExt.x5 hx_427)
                    have hI_430 : Its G M_424 q_388 (upd (upd (upd (upd (upd (fun _ => 0) (0 : Int).toNat (iN (((ti_375.b : Nat) : Int)))) (1 : Int).toNat (iN (p1))) (2 : Int).toNat (iN (z_409))) (3 : Int).toNat (iN (p3))) (4 : Int).toNat (iN (z_423))) (ti_375.b, p1, p3, p2, p4) := ⟨hA_426, ⟨(show ti_375.b < 3 by omega), (show p1 = -10000 ∨ (0 ≤ p1 ∧ p1 ≤ 99) by omega), (show p3 = -10000 ∨ (0 ≤ p3 ∧ p3 ≤ 99) by omega), (show p2 = 0 ∨ p2 = 1 by omega), (show p4 = 0 ∨ p4 = 1 by omega)⟩, rfl, rfl, (show iN (z_409) = iN (p2) from congrArg iN (by omega)), rfl, (show iN (z_423) = iN (p4) from congrArg iN (by omega))⟩
                    refine x_callV hC hw (lv_size hl) (c_X5_open l G h_428 hI_430 (by omega)) gX5_part_X5_open rfl dv_X5_open h_428.1.1 rfl rfl (Nat.le_of_ble_eq_true rfl) (by rw [hRf]; decide) (by rw [hRl]; decide) (by omega) (by omega) dX5_part_152 (fun r9 M_431 H locs hq hw => ?_)
                    obtain ⟨z_433, fyk_432, Wvk_432, rfl, hz_433a, hz_433f, he0k_432, hx5k_432, hRk_432⟩ := hq
                    have h_434 := h_429.x5 hx5k_432
                    have h_435 := hI_430.x5 hx5k_432
                    have hsck_432 := hRk_432.sc.1
                    show W p l e R s m args below meth c H locs _ _ _ (F0 m 155 ls [.int (iN (z_433))])
                    exact x_iret hC hw dX5_part_155 (by omega) (by omega) ⟨z_433, thk_370, rfl, by omega, Or.inl ⟨by omega, by first | trivial | omega, (by have i9 := inI_01 (O ti_375.b) (p1).toNat ti_375; have i8 := inI_01 (O ti_375.b) (p3).toNat ti_375; rw [A_part, show tvW (ST.W (O, V, Wv, K, kp, kv, rfd)) p0.toNat = ti_375 from tvW_some hui_375]; show _ = (if ((inI (O ti_375.b) ti_375 (p1).toNat = 1 ∧ inI (O ti_375.b) ti_375 (p3).toNat = 1) ∧ ¬ mwN (O ti_375.b) (p3).toNat < mwN (O ti_375.b) (p1).toNat) then (frN Wv : Int) else -20000); omega), (by have i9 := inI_01 (O ti_375.b) (p1).toNat ti_375; have i8 := inI_01 (O ti_375.b) (p3).toNat ti_375; rw [S_part, show tvW (ST.W (O, V, Wv, K, kp, kv, rfd)) p0.toNat = ti_375 from tvW_some hui_375]; show MGm _ _ _ _ _ (if ((inI (O ti_375.b) ti_375 (p1).toNat = 1 ∧ inI (O ti_375.b) ti_375 (p3).toNat = 1) ∧ ¬ mwN (O ti_375.b) (p3).toNat < mwN (O ti_375.b) (p1).toNat) then _ else _); rw [if_pos (by omega)]; exact (by have e9 := hRk_432; rw [he0k_432] at e9; exact MGm.of e9 hK))⟩⟩
                  · refine x_sipush hC dX5_part_113 (by decide +kernel) ?_
                    exact x_iret hC hw dX5_part_116 (by omega) (by omega) ⟨(-20000), thk_370, rfl, by omega, Or.inl ⟨by omega, by first | trivial | omega, (by have i9 := inI_01 (O ti_375.b) (p1).toNat ti_375; have i8 := inI_01 (O ti_375.b) (p3).toNat ti_375; rw [A_part, show tvW (ST.W (O, V, Wv, K, kp, kv, rfd)) p0.toNat = ti_375 from tvW_some hui_375]; show _ = (if ((inI (O ti_375.b) ti_375 (p1).toNat = 1 ∧ inI (O ti_375.b) ti_375 (p3).toNat = 1) ∧ ¬ mwN (O ti_375.b) (p3).toNat < mwN (O ti_375.b) (p1).toNat) then (frN Wv : Int) else -20000); omega), (by have i9 := inI_01 (O ti_375.b) (p1).toNat ti_375; have i8 := inI_01 (O ti_375.b) (p3).toNat ti_375; rw [S_part, show tvW (ST.W (O, V, Wv, K, kp, kv, rfd)) p0.toNat = ti_375 from tvW_some hui_375]; show MGm _ _ _ _ _ (if ((inI (O ti_375.b) ti_375 (p1).toNat = 1 ∧ inI (O ti_375.b) ti_375 (p3).toNat = 1) ∧ ¬ mwN (O ti_375.b) (p3).toNat < mwN (O ti_375.b) (p1).toNat) then _ else _); rw [if_neg (by omega)]; exact MGm.of hRk_370 hK)⟩⟩
            · replace hz_371r := (hz_371r.resolve_left (fun q9 => by have e9 := q9.1; omega)).2
              refine x_const hC dX5_part_64 ?_
              exact x_iret hC hw dX5_part_65 (by omega) (by omega) ⟨0, thk_370, rfl, by omega, Or.inr ⟨by omega, by omega, MGm.of hRk_370 hK⟩⟩
