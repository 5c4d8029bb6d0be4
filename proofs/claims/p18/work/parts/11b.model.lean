/-! the methods of the model, by program -/
set_option maxHeartbeats 4000000 in
set_option maxRecDepth 100000 in
theorem c_X5_put (l : Launch) (G : xG) {M : HM} {a va oa wa ya : Nat} {wk : Option Nat} {th : Int} {rfd : Int32} {br re la ha : Int} {kp kv : Int32} {qv qw : Nat → Nat} {fa fb : Nat → Option Nat} {V : BW} {O : OW} {fy : Nat → Option Nat} {Wv : VW} {wt : Option VT} {S : Nat → Bool} (hR : MGx G M a va oa wa ya wk th rfd br re la ha kp kv qv qw fa fb V O fy Wv wt S) {K : WA} (hK : abM O wt br re la ha K) {p0 : Int} (hp0 : -2147483648 ≤ p0 ∧ p0 ≤ 2147483647) {p1 : Int} (hp1 : -2147483648 ≤ p1 ∧ p1 ≤ 2147483647) {p2 : Int} (hp2 : -2147483648 ≤ p2 ∧ p2 ≤ 2147483647) (hSk : 0 ≤ p1 ∧ p1 ≤ 99 → S p1.toNat = true) : xMet l G yX5_put wsX5_put 3 67 0 0 [.ref a, .int (iN (p0)), .int (iN (p1)), .int (iN (p2))] M (fun r M1 => ∃ (z th1 : Int), r = some (.int (iN z)) ∧ (-2147483648 ≤ z ∧ z ≤ 2147483647) ∧ ((th1 = 0 ∧ ((0 ≤ p0 ∧ p0 ≤ 2) ∧ ((0 ≤ p1 ∧ p1 ≤ 99) ∧ (-9999 ≤ p2 ∧ p2 ≤ 9999))) ∧ z = A_put (O, V, Wv, K, kp, kv, rfd) p0 p1 p2 ∧ MGm G M1 a S th1 (S_put (O, V, Wv, K, kp, kv, rfd) p0 p1 p2)) ∨ (th1 ≠ 0 ∧ ((th1 = 1 ∧ ¬ (0 ≤ p0 ∧ p0 ≤ 2)) ∨ (th1 = 2 ∧ (0 ≤ p0 ∧ p0 ≤ 2) ∧ ¬ ((0 ≤ p1 ∧ p1 ≤ 99) ∧ (-9999 ≤ p2 ∧ p2 ≤ 9999)))) ∧ MGm G M1 a S th1 (O, V, Wv, K, kp, kv, rfd)))) := by
  refine x_intro (cc := cX5_put) (maxL := 4) (ret := (some .int)) (by exact pln_RX5) rfl (Nat.le_of_ble_eq_true rfl) ?_
  intro p e R s m args below meth c ls hRf hRc hRs hRl hC hw hl
  have hsc0 := hR.sc.1
  have hl : lv_has ls 4 [(0, .ref a), (1, .int (iN (p0))), (2, .int (iN (p1))), (3, .int (iN (p2)))] := hl
  refine lv_aload_n hC.1 hC.2.1 dX5_put_0 rfl (lv_at hl 0 rfl) ?_
  refine lv_iload_n hC.1 hC.2.1 dX5_put_1 rfl (lv_at hl 1 rfl) ?_
  refine lv_iload_n hC.1 hC.2.1 dX5_put_2 rfl (lv_at hl 2 rfl) ?_
  refine lv_iload_n hC.1 hC.2.1 dX5_put_3 rfl (lv_at hl 3 rfl) ?_
  refine x_callV hC hw (lv_size hl) (c_X5_isBad_ l G hR (p0 := p0) (by first | assumption | omega) (p1 := p1) (by first | assumption | omega) (p2 := p2) (by first | assumption | omega)) gX5_put_X5_isBad_ rfl dv_X5_isBad_ hR.1.1 rfl rfl (Nat.le_of_ble_eq_true rfl) (by rw [hRf]; decide) (by rw [hRl]; decide) (by first | (rw [hRc]; decide) | omega) (by first | (rw [hRs]; decide) | omega) dX5_put_4 (fun r9 M_1 H locs hq hw => ?_)
  obtain ⟨z_3, thk_2, rfl, hz_3r, hx5k_2, hRk_2⟩ := hq
  have hsck_2 := hRk_2.sc.1
  show W p l e R s m args below meth c H locs _ _ _ (F0 m 7 ls [.int (iN (z_3))])
  refine x_if_eq (tgt := 12) hC ⟨by omega, by omega⟩ dX5_put_7 (by decide) (fun c_4 => ?_) (fun c_4 => ?_)
  · replace hz_3r := (hz_3r.resolve_right (fun q9 => absurd (q9.1.symm.trans c_4) (by decide))).2
    refine lv_aload_n hC.1 hC.2.1 dX5_put_12 rfl (lv_at hl 0 rfl) ?_
    refine lv_iload_n hC.1 hC.2.1 dX5_put_13 rfl (lv_at hl 1 rfl) ?_
    refine x_callV hC hw (lv_size hl) (c_X5_touch l G hRk_2 (p0 := p0) (by first | assumption | omega) (by omega)) gX5_put_X5_touch rfl dv_X5_touch hRk_2.1.1 rfl rfl (Nat.le_of_ble_eq_true rfl) (by rw [hRf]; decide) (by rw [hRl]; decide) (by first | (rw [hRc]; decide) | omega) (by first | (rw [hRs]; decide) | omega) dX5_put_14 (fun r9 M_5 H locs hq hw => ?_)
    obtain ⟨hak_6, rfl, he0k_6, hx5k_6, hRk_6⟩ := hq
    have hsck_6 := hRk_6.sc.1
    show W p l e R s m args below meth c H locs _ _ _ (F0 m 17 ls [])
    refine lv_aload_n hC.1 hC.2.1 dX5_put_17 rfl (lv_at hl 0 rfl) ?_
    refine lv_iload_n hC.1 hC.2.1 dX5_put_18 rfl (lv_at hl 1 rfl) ?_
    refine lv_iload_n hC.1 hC.2.1 dX5_put_19 rfl (lv_at hl 2 rfl) ?_
    refine lv_iload_n hC.1 hC.2.1 dX5_put_20 rfl (lv_at hl 3 rfl) ?_
    refine x_callV hC hw (lv_size hl) (c_X5_set l G hRk_6 (p0 := p0) (by first | assumption | omega) (p1 := p1) (by first | assumption | omega) (p2 := p2) (by first | assumption | omega) (by omega) (by omega) (by omega) (by intro q9; first | exact absurd rfl q9 | assumption | exact hSk (by omega))) gX5_put_X5_set rfl dv_X5_set hRk_6.1.1 rfl rfl (Nat.le_of_ble_eq_true rfl) (by rw [hRf]; decide) (by rw [hRl]; decide) (by first | (rw [hRc]; decide) | omega) (by first | (rw [hRs]; decide) | omega) dX5_put_21 (fun r9 M_7 H locs hq hw => ?_)
    obtain ⟨z_9, brk_8, Vk_8, rfl, hz_9a, hz_9v, hz_9b, he0k_8, he1k_8, hx5k_8, hRk_8⟩ := hq
    have hsck_8 := hRk_8.sc.1
    show W p l e R s m args below meth c H locs _ _ _ (F0 m 24 ls [.int (iN (z_9))])
    exact x_iret hC hw dX5_put_24 (by first | decide | omega) (by first | decide | omega) ⟨z_9, thk_2, rfl, ⟨by omega, by omega⟩, Or.inl ⟨by omega, ⟨⟨(by first | omega | trivial), (by first | omega | trivial)⟩, ⟨⟨(by first | omega | trivial), (by first | omega | trivial)⟩, ⟨(by first | omega | trivial), (by first | omega | trivial)⟩⟩⟩, (show _ = (V (p0).toNat (p1).toNat) by first | rfl | omega | ((repeat' split) <;> first | rfl | omega)), (MGm.mut he1k_8 hRk_8 hK (bl_one (by omega) he0k_8) he0k_6 (congrArg (upV (V (p0).toNat) (p1).toNat) (show p2 = p2 by first | rfl | omega | ((repeat' split) <;> first | rfl | omega))))⟩⟩
  · replace hz_3r := (hz_3r.resolve_left (fun q9 => c_4 q9.1)).2
    refine x_const hC dX5_put_10 ?_
    exact x_iret hC hw dX5_put_11 (by first | decide | omega) (by first | decide | omega) ⟨0, thk_2, rfl, by omega, Or.inr ⟨by omega, by omega, MGm.of hRk_2 hK⟩⟩
set_option maxHeartbeats 4000000 in
set_option maxRecDepth 100000 in
theorem c_X5_putAbsent (l : Launch) (G : xG) {M : HM} {a va oa wa ya : Nat} {wk : Option Nat} {th : Int} {rfd : Int32} {br re la ha : Int} {kp kv : Int32} {qv qw : Nat → Nat} {fa fb : Nat → Option Nat} {V : BW} {O : OW} {fy : Nat → Option Nat} {Wv : VW} {wt : Option VT} {S : Nat → Bool} (hR : MGx G M a va oa wa ya wk th rfd br re la ha kp kv qv qw fa fb V O fy Wv wt S) {K : WA} (hK : abM O wt br re la ha K) {p0 : Int} (hp0 : -2147483648 ≤ p0 ∧ p0 ≤ 2147483647) {p1 : Int} (hp1 : -2147483648 ≤ p1 ∧ p1 ≤ 2147483647) {p2 : Int} (hp2 : -2147483648 ≤ p2 ∧ p2 ≤ 2147483647) (hSk : 0 ≤ p1 ∧ p1 ≤ 99 → S p1.toNat = true) : xMet l G yX5_putAbsent wsX5_putAbsent 3 67 0 0 [.ref a, .int (iN (p0)), .int (iN (p1)), .int (iN (p2))] M (fun r M1 => ∃ (z th1 : Int), r = some (.int (iN z)) ∧ (-2147483648 ≤ z ∧ z ≤ 2147483647) ∧ ((th1 = 0 ∧ ((0 ≤ p0 ∧ p0 ≤ 2) ∧ ((0 ≤ p1 ∧ p1 ≤ 99) ∧ (-9999 ≤ p2 ∧ p2 ≤ 9999))) ∧ z = A_putAbsent (O, V, Wv, K, kp, kv, rfd) p0 p1 p2 ∧ MGm G M1 a S th1 (S_putAbsent (O, V, Wv, K, kp, kv, rfd) p0 p1 p2)) ∨ (th1 ≠ 0 ∧ ((th1 = 1 ∧ ¬ (0 ≤ p0 ∧ p0 ≤ 2)) ∨ (th1 = 2 ∧ (0 ≤ p0 ∧ p0 ≤ 2) ∧ ¬ ((0 ≤ p1 ∧ p1 ≤ 99) ∧ (-9999 ≤ p2 ∧ p2 ≤ 9999)))) ∧ MGm G M1 a S th1 (O, V, Wv, K, kp, kv, rfd)))) := by
  refine x_intro (cc := cX5_putAbsent) (maxL := 5) (ret := (some .int)) (by exact pln_RX5) rfl (Nat.le_of_ble_eq_true rfl) ?_
  intro p e R s m args below meth c ls hRf hRc hRs hRl hC hw hl
  have hsc0 := hR.sc.1
  have hinX5 : ∀ w ∈ wsX50, w ∈ wsX5_putAbsent := fun w h => (List.mem_cons_of_mem _ (List.mem_append_right _ h))
  have hl : lv_has ls 5 [(0, .ref a), (1, .int (iN (p0))), (2, .int (iN (p1))), (3, .int (iN (p2)))] := hl
  refine lv_aload_n hC.1 hC.2.1 dX5_putAbsent_0 rfl (lv_at hl 0 rfl) ?_
  refine lv_iload_n hC.1 hC.2.1 dX5_putAbsent_1 rfl (lv_at hl 1 rfl) ?_
  refine lv_iload_n hC.1 hC.2.1 dX5_putAbsent_2 rfl (lv_at hl 2 rfl) ?_
  refine lv_iload_n hC.1 hC.2.1 dX5_putAbsent_3 rfl (lv_at hl 3 rfl) ?_
  refine x_callV hC hw (lv_size hl) (c_X5_isBad_ l G hR (p0 := p0) (by first | assumption | omega) (p1 := p1) (by first | assumption | omega) (p2 := p2) (by first | assumption | omega)) gX5_putAbsent_X5_isBad_ rfl dv_X5_isBad_ hR.1.1 rfl rfl (Nat.le_of_ble_eq_true rfl) (by rw [hRf]; decide) (by rw [hRl]; decide) (by first | (rw [hRc]; decide) | omega) (by first | (rw [hRs]; decide) | omega) dX5_putAbsent_4 (fun r9 M_1 H locs hq hw => ?_)
  obtain ⟨z_3, thk_2, rfl, hz_3r, hx5k_2, hRk_2⟩ := hq
  have hsck_2 := hRk_2.sc.1
  show W p l e R s m args below meth c H locs _ _ _ (F0 m 7 ls [.int (iN (z_3))])
  refine x_if_eq (tgt := 12) hC ⟨by omega, by omega⟩ dX5_putAbsent_7 (by decide) (fun c_4 => ?_) (fun c_4 => ?_)
  · replace hz_3r := (hz_3r.resolve_right (fun q9 => absurd (q9.1.symm.trans c_4) (by decide))).2
    refine lv_aload_n hC.1 hC.2.1 dX5_putAbsent_12 rfl (lv_at hl 0 rfl) ?_
    refine lv_iload_n hC.1 hC.2.1 dX5_putAbsent_13 rfl (lv_at hl 1 rfl) ?_
    refine x_callV hC hw (lv_size hl) (c_X5_touch l G hRk_2 (p0 := p0) (by first | assumption | omega) (by omega)) gX5_putAbsent_X5_touch rfl dv_X5_touch hRk_2.1.1 rfl rfl (Nat.le_of_ble_eq_true rfl) (by rw [hRf]; decide) (by rw [hRl]; decide) (by first | (rw [hRc]; decide) | omega) (by first | (rw [hRs]; decide) | omega) dX5_putAbsent_14 (fun r9 M_5 H locs hq hw => ?_)
    obtain ⟨hak_6, rfl, he0k_6, hx5k_6, hRk_6⟩ := hq
    have hsck_6 := hRk_6.sc.1
    show W p l e R s m args below meth c H locs _ _ _ (F0 m 17 ls [])
    refine lv_aload_n hC.1 hC.2.1 dX5_putAbsent_17 rfl (lv_at hl 0 rfl) ?_
    refine x_get hC hw hRk_6.1.1 rfl hinX5 2 (by decide) (List.mem_cons_of_mem _ (List.mem_append_left _ (List.mem_append_left _ (List.mem_of_getElem? (i := 0) rfl)))) rfl dX5_putAbsent_18 ?_
    refine lv_iload_n hC.1 hC.2.1 dX5_putAbsent_21 rfl (lv_at hl 1 rfl) ?_
    refine x_ald4 hC hw hRk_6.1.2.1 (by omega) (by omega) (by omega) dX5_putAbsent_22 ?_
    rw [hRk_6.fa' (show (p0).toNat < 3 from tn_lt (by omega) (by decide))]
    show W p l e R s m args below meth c _ _ _ _ _ (F0 m 23 ls [.ref (qv ((p0).toNat))])
    refine lv_iload_n hC.1 hC.2.1 dX5_putAbsent_23 rfl (lv_at hl 2 rfl) ?_
    refine x_ialdE (x := (V ((p0).toNat) ((p1).toNat))) hC hw (hRk_6.rv (show ((p0).toNat) < 3 from tn_lt (by omega) (by decide))) (by omega) (by omega) (by omega) dX5_putAbsent_24 rfl ?_
    have hrv_7 := hRk_6.vr (show ((p0).toNat) < 3 from tn_lt (by omega) (by decide)) (show (p1).toNat < 100 from tn_lt (by omega) (by decide))
    have hpv_7 := hRk_6.vs (show ((p0).toNat) < 3 from tn_lt (by omega) (by decide)) (show (p1).toNat < 100 from tn_lt (by omega) (by decide))
    refine lv_istore (lv' := [(4, .int (iN ((V ((p0).toNat) ((p1).toNat))))), (0, .ref a), (1, .int (iN (p0))), (2, .int (iN (p1))), (3, .int (iN (p2)))]) hC.1 hC.2.1 dX5_putAbsent_25 hl (by decide) rfl (fun ls hl => ?_)
    refine lv_iload hC.1 hC.2.1 dX5_putAbsent_27 (lv_at hl 0 rfl) ?_
    refine x_sipush hC dX5_putAbsent_29 (by decide +kernel) ?_
    refine x_icmp_ne (tgt := 43) hC ⟨by omega, by omega⟩ ⟨by omega, by omega⟩ dX5_putAbsent_32 (by decide) (fun c_8 => ?_) (fun c_8 => ?_)
    · refine lv_iload hC.1 hC.2.1 dX5_putAbsent_43 (lv_at hl 0 rfl) ?_
      exact x_iret hC hw dX5_putAbsent_45 (by first | decide | omega) (by first | decide | omega) ⟨(V ((p0).toNat) ((p1).toNat)), thk_2, rfl, ⟨by omega, by omega⟩, Or.inl ⟨by omega, ⟨⟨(by first | omega | trivial), (by first | omega | trivial)⟩, ⟨⟨(by first | omega | trivial), (by first | omega | trivial)⟩, ⟨(by first | omega | trivial), (by first | omega | trivial)⟩⟩⟩, (show _ = (V (p0).toNat (p1).toNat) by first | rfl | omega | ((repeat' split) <;> first | rfl | omega)), (MGm.mut (F := V ((p0).toNat)) (upB_self rfl).symm hRk_6 hK bl_rf he0k_6 (upV_self (show (V (p0).toNat (p1).toNat) = (if (V (p0).toNat (p1).toNat) = -10000 then p2 else (V (p0).toNat (p1).toNat)) by first | rfl | omega | ((repeat' split) <;> first | rfl | omega))).symm)⟩⟩
    · refine lv_aload_n hC.1 hC.2.1 dX5_putAbsent_35 rfl (lv_at hl 1 rfl) ?_
      refine lv_iload_n hC.1 hC.2.1 dX5_putAbsent_36 rfl (lv_at hl 2 rfl) ?_
      refine lv_iload_n hC.1 hC.2.1 dX5_putAbsent_37 rfl (lv_at hl 3 rfl) ?_
      refine lv_iload_n hC.1 hC.2.1 dX5_putAbsent_38 rfl (lv_at hl 4 rfl) ?_
      refine x_callV hC hw (lv_size hl) (c_X5_set l G hRk_6 (p0 := p0) (by first | assumption | omega) (p1 := p1) (by first | assumption | omega) (p2 := p2) (by first | assumption | omega) (by omega) (by omega) (by omega) (by intro q9; first | exact absurd rfl q9 | assumption | exact hpv_7 q9 | exact hpv_7 (by omega) | exact hSk (by omega))) gX5_putAbsent_X5_set rfl dv_X5_set hRk_6.1.1 rfl rfl (Nat.le_of_ble_eq_true rfl) (by rw [hRf]; decide) (by rw [hRl]; decide) (by first | (rw [hRc]; decide) | omega) (by first | (rw [hRs]; decide) | omega) dX5_putAbsent_39 (fun r9 M_9 H locs hq hw => ?_)
      obtain ⟨z_11, brk_10, Vk_10, rfl, hz_11a, hz_11v, hz_11b, he0k_10, he1k_10, hx5k_10, hRk_10⟩ := hq
      have hsck_10 := hRk_10.sc.1
      show W p l e R s m args below meth c H locs _ _ _ (F0 m 42 ls [.int (iN (z_11))])
      refine lv_pop hC.1 hC.2.1 dX5_putAbsent_42 rfl ?_
      refine lv_iload hC.1 hC.2.1 dX5_putAbsent_43 (lv_at hl 0 rfl) ?_
      exact x_iret hC hw dX5_putAbsent_45 (by first | decide | omega) (by first | decide | omega) ⟨(V ((p0).toNat) ((p1).toNat)), thk_2, rfl, ⟨by omega, by omega⟩, Or.inl ⟨by omega, ⟨⟨(by first | omega | trivial), (by first | omega | trivial)⟩, ⟨⟨(by first | omega | trivial), (by first | omega | trivial)⟩, ⟨(by first | omega | trivial), (by first | omega | trivial)⟩⟩⟩, (show _ = (V (p0).toNat (p1).toNat) by first | rfl | omega | ((repeat' split) <;> first | rfl | omega)), (MGm.mut he1k_10 hRk_10 hK (bl_one (by omega) he0k_10) he0k_6 (congrArg (upV (V (p0).toNat) (p1).toNat) (show p2 = (if (V (p0).toNat (p1).toNat) = -10000 then p2 else (V (p0).toNat (p1).toNat)) by first | rfl | omega | ((repeat' split) <;> first | rfl | omega))))⟩⟩
  · replace hz_3r := (hz_3r.resolve_left (fun q9 => c_4 q9.1)).2
    refine x_const hC dX5_putAbsent_10 ?_
    exact x_iret hC hw dX5_putAbsent_11 (by first | decide | omega) (by first | decide | omega) ⟨0, thk_2, rfl, by omega, Or.inr ⟨by omega, by omega, MGm.of hRk_2 hK⟩⟩
set_option maxHeartbeats 4000000 in
set_option maxRecDepth 100000 in
theorem c_X5_replace (l : Launch) (G : xG) {M : HM} {a va oa wa ya : Nat} {wk : Option Nat} {th : Int} {rfd : Int32} {br re la ha : Int} {kp kv : Int32} {qv qw : Nat → Nat} {fa fb : Nat → Option Nat} {V : BW} {O : OW} {fy : Nat → Option Nat} {Wv : VW} {wt : Option VT} {S : Nat → Bool} (hR : MGx G M a va oa wa ya wk th rfd br re la ha kp kv qv qw fa fb V O fy Wv wt S) {K : WA} (hK : abM O wt br re la ha K) {p0 : Int} (hp0 : -2147483648 ≤ p0 ∧ p0 ≤ 2147483647) {p1 : Int} (hp1 : -2147483648 ≤ p1 ∧ p1 ≤ 2147483647) {p2 : Int} (hp2 : -2147483648 ≤ p2 ∧ p2 ≤ 2147483647) (hSk : 0 ≤ p1 ∧ p1 ≤ 99 → S p1.toNat = true) : xMet l G yX5_replace wsX5_replace 3 67 0 0 [.ref a, .int (iN (p0)), .int (iN (p1)), .int (iN (p2))] M (fun r M1 => ∃ (z th1 : Int), r = some (.int (iN z)) ∧ (-2147483648 ≤ z ∧ z ≤ 2147483647) ∧ ((th1 = 0 ∧ ((0 ≤ p0 ∧ p0 ≤ 2) ∧ ((0 ≤ p1 ∧ p1 ≤ 99) ∧ (-9999 ≤ p2 ∧ p2 ≤ 9999))) ∧ z = A_replace (O, V, Wv, K, kp, kv, rfd) p0 p1 p2 ∧ MGm G M1 a S th1 (S_replace (O, V, Wv, K, kp, kv, rfd) p0 p1 p2)) ∨ (th1 ≠ 0 ∧ ((th1 = 1 ∧ ¬ (0 ≤ p0 ∧ p0 ≤ 2)) ∨ (th1 = 2 ∧ (0 ≤ p0 ∧ p0 ≤ 2) ∧ ¬ ((0 ≤ p1 ∧ p1 ≤ 99) ∧ (-9999 ≤ p2 ∧ p2 ≤ 9999)))) ∧ MGm G M1 a S th1 (O, V, Wv, K, kp, kv, rfd)))) := by
  refine x_intro (cc := cX5_replace) (maxL := 5) (ret := (some .int)) (by exact pln_RX5) rfl (Nat.le_of_ble_eq_true rfl) ?_
  intro p e R s m args below meth c ls hRf hRc hRs hRl hC hw hl
  have hsc0 := hR.sc.1
  have hinX5 : ∀ w ∈ wsX50, w ∈ wsX5_replace := fun w h => (List.mem_cons_of_mem _ (List.mem_append_right _ h))
  have hl : lv_has ls 5 [(0, .ref a), (1, .int (iN (p0))), (2, .int (iN (p1))), (3, .int (iN (p2)))] := hl
  refine lv_aload_n hC.1 hC.2.1 dX5_replace_0 rfl (lv_at hl 0 rfl) ?_
  refine lv_iload_n hC.1 hC.2.1 dX5_replace_1 rfl (lv_at hl 1 rfl) ?_
  refine lv_iload_n hC.1 hC.2.1 dX5_replace_2 rfl (lv_at hl 2 rfl) ?_
  refine lv_iload_n hC.1 hC.2.1 dX5_replace_3 rfl (lv_at hl 3 rfl) ?_
  refine x_callV hC hw (lv_size hl) (c_X5_isBad_ l G hR (p0 := p0) (by first | assumption | omega) (p1 := p1) (by first | assumption | omega) (p2 := p2) (by first | assumption | omega)) gX5_replace_X5_isBad_ rfl dv_X5_isBad_ hR.1.1 rfl rfl (Nat.le_of_ble_eq_true rfl) (by rw [hRf]; decide) (by rw [hRl]; decide) (by first | (rw [hRc]; decide) | omega) (by first | (rw [hRs]; decide) | omega) dX5_replace_4 (fun r9 M_1 H locs hq hw => ?_)
  obtain ⟨z_3, thk_2, rfl, hz_3r, hx5k_2, hRk_2⟩ := hq
  have hsck_2 := hRk_2.sc.1
  show W p l e R s m args below meth c H locs _ _ _ (F0 m 7 ls [.int (iN (z_3))])
  refine x_if_eq (tgt := 12) hC ⟨by omega, by omega⟩ dX5_replace_7 (by decide) (fun c_4 => ?_) (fun c_4 => ?_)
  · replace hz_3r := (hz_3r.resolve_right (fun q9 => absurd (q9.1.symm.trans c_4) (by decide))).2
    refine lv_aload_n hC.1 hC.2.1 dX5_replace_12 rfl (lv_at hl 0 rfl) ?_
    refine lv_iload_n hC.1 hC.2.1 dX5_replace_13 rfl (lv_at hl 1 rfl) ?_
    refine x_callV hC hw (lv_size hl) (c_X5_touch l G hRk_2 (p0 := p0) (by first | assumption | omega) (by omega)) gX5_replace_X5_touch rfl dv_X5_touch hRk_2.1.1 rfl rfl (Nat.le_of_ble_eq_true rfl) (by rw [hRf]; decide) (by rw [hRl]; decide) (by first | (rw [hRc]; decide) | omega) (by first | (rw [hRs]; decide) | omega) dX5_replace_14 (fun r9 M_5 H locs hq hw => ?_)
    obtain ⟨hak_6, rfl, he0k_6, hx5k_6, hRk_6⟩ := hq
    have hsck_6 := hRk_6.sc.1
    show W p l e R s m args below meth c H locs _ _ _ (F0 m 17 ls [])
    refine lv_aload_n hC.1 hC.2.1 dX5_replace_17 rfl (lv_at hl 0 rfl) ?_
    refine x_get hC hw hRk_6.1.1 rfl hinX5 2 (by decide) (List.mem_cons_of_mem _ (List.mem_append_left _ (List.mem_append_left _ (List.mem_of_getElem? (i := 0) rfl)))) rfl dX5_replace_18 ?_
    refine lv_iload_n hC.1 hC.2.1 dX5_replace_21 rfl (lv_at hl 1 rfl) ?_
    refine x_ald4 hC hw hRk_6.1.2.1 (by omega) (by omega) (by omega) dX5_replace_22 ?_
    rw [hRk_6.fa' (show (p0).toNat < 3 from tn_lt (by omega) (by decide))]
    show W p l e R s m args below meth c _ _ _ _ _ (F0 m 23 ls [.ref (qv ((p0).toNat))])
    refine lv_iload_n hC.1 hC.2.1 dX5_replace_23 rfl (lv_at hl 2 rfl) ?_
    refine x_ialdE (x := (V ((p0).toNat) ((p1).toNat))) hC hw (hRk_6.rv (show ((p0).toNat) < 3 from tn_lt (by omega) (by decide))) (by omega) (by omega) (by omega) dX5_replace_24 rfl ?_
    have hrv_7 := hRk_6.vr (show ((p0).toNat) < 3 from tn_lt (by omega) (by decide)) (show (p1).toNat < 100 from tn_lt (by omega) (by decide))
    have hpv_7 := hRk_6.vs (show ((p0).toNat) < 3 from tn_lt (by omega) (by decide)) (show (p1).toNat < 100 from tn_lt (by omega) (by decide))
    refine lv_istore (lv' := [(4, .int (iN ((V ((p0).toNat) ((p1).toNat))))), (0, .ref a), (1, .int (iN (p0))), (2, .int (iN (p1))), (3, .int (iN (p2)))]) hC.1 hC.2.1 dX5_replace_25 hl (by decide) rfl (fun ls hl => ?_)
    refine lv_iload hC.1 hC.2.1 dX5_replace_27 (lv_at hl 0 rfl) ?_
    refine x_sipush hC dX5_replace_29 (by decide +kernel) ?_
    refine x_icmp_eq (tgt := 43) hC ⟨by omega, by omega⟩ ⟨by omega, by omega⟩ dX5_replace_32 (by decide) (fun c_8 => ?_) (fun c_8 => ?_)
    · refine lv_iload hC.1 hC.2.1 dX5_replace_43 (lv_at hl 0 rfl) ?_
      exact x_iret hC hw dX5_replace_45 (by first | decide | omega) (by first | decide | omega) ⟨(V ((p0).toNat) ((p1).toNat)), thk_2, rfl, ⟨by omega, by omega⟩, Or.inl ⟨by omega, ⟨⟨(by first | omega | trivial), (by first | omega | trivial)⟩, ⟨⟨(by first | omega | trivial), (by first | omega | trivial)⟩, ⟨(by first | omega | trivial), (by first | omega | trivial)⟩⟩⟩, (show _ = (V (p0).toNat (p1).toNat) by first | rfl | omega | ((repeat' split) <;> first | rfl | omega)), (MGm.mut (F := V ((p0).toNat)) (upB_self rfl).symm hRk_6 hK bl_rf he0k_6 (upV_self (show (V (p0).toNat (p1).toNat) = (if (V (p0).toNat (p1).toNat) = -10000 then -10000 else p2) by first | rfl | omega | ((repeat' split) <;> first | rfl | omega))).symm)⟩⟩
    · refine lv_aload_n hC.1 hC.2.1 dX5_replace_35 rfl (lv_at hl 1 rfl) ?_
      refine lv_iload_n hC.1 hC.2.1 dX5_replace_36 rfl (lv_at hl 2 rfl) ?_
      refine lv_iload_n hC.1 hC.2.1 dX5_replace_37 rfl (lv_at hl 3 rfl) ?_
      refine lv_iload_n hC.1 hC.2.1 dX5_replace_38 rfl (lv_at hl 4 rfl) ?_
      refine x_callV hC hw (lv_size hl) (c_X5_set l G hRk_6 (p0 := p0) (by first | assumption | omega) (p1 := p1) (by first | assumption | omega) (p2 := p2) (by first | assumption | omega) (by omega) (by omega) (by omega) (by intro q9; first | exact absurd rfl q9 | assumption | exact hpv_7 q9 | exact hpv_7 (by omega) | exact hSk (by omega))) gX5_replace_X5_set rfl dv_X5_set hRk_6.1.1 rfl rfl (Nat.le_of_ble_eq_true rfl) (by rw [hRf]; decide) (by rw [hRl]; decide) (by first | (rw [hRc]; decide) | omega) (by first | (rw [hRs]; decide) | omega) dX5_replace_39 (fun r9 M_9 H locs hq hw => ?_)
      obtain ⟨z_11, brk_10, Vk_10, rfl, hz_11a, hz_11v, hz_11b, he0k_10, he1k_10, hx5k_10, hRk_10⟩ := hq
      have hsck_10 := hRk_10.sc.1
      show W p l e R s m args below meth c H locs _ _ _ (F0 m 42 ls [.int (iN (z_11))])
      refine lv_pop hC.1 hC.2.1 dX5_replace_42 rfl ?_
      refine lv_iload hC.1 hC.2.1 dX5_replace_43 (lv_at hl 0 rfl) ?_
      exact x_iret hC hw dX5_replace_45 (by first | decide | omega) (by first | decide | omega) ⟨(V ((p0).toNat) ((p1).toNat)), thk_2, rfl, ⟨by omega, by omega⟩, Or.inl ⟨by omega, ⟨⟨(by first | omega | trivial), (by first | omega | trivial)⟩, ⟨⟨(by first | omega | trivial), (by first | omega | trivial)⟩, ⟨(by first | omega | trivial), (by first | omega | trivial)⟩⟩⟩, (show _ = (V (p0).toNat (p1).toNat) by first | rfl | omega | ((repeat' split) <;> first | rfl | omega)), (MGm.mut he1k_10 hRk_10 hK (bl_one (by omega) he0k_10) he0k_6 (congrArg (upV (V (p0).toNat) (p1).toNat) (show p2 = (if (V (p0).toNat (p1).toNat) = -10000 then -10000 else p2) by first | rfl | omega | ((repeat' split) <;> first | rfl | omega))))⟩⟩
  · replace hz_3r := (hz_3r.resolve_left (fun q9 => c_4 q9.1)).2
    refine x_const hC dX5_replace_10 ?_
    exact x_iret hC hw dX5_replace_11 (by first | decide | omega) (by first | decide | omega) ⟨0, thk_2, rfl, by omega, Or.inr ⟨by omega, by omega, MGm.of hRk_2 hK⟩⟩
set_option maxHeartbeats 4000000 in
set_option maxRecDepth 100000 in
theorem c_X5_swap (l : Launch) (G : xG) {M : HM} {a va oa wa ya : Nat} {wk : Option Nat} {th : Int} {rfd : Int32} {br re la ha : Int} {kp kv : Int32} {qv qw : Nat → Nat} {fa fb : Nat → Option Nat} {V : BW} {O : OW} {fy : Nat → Option Nat} {Wv : VW} {wt : Option VT} {S : Nat → Bool} (hR : MGx G M a va oa wa ya wk th rfd br re la ha kp kv qv qw fa fb V O fy Wv wt S) {K : WA} (hK : abM O wt br re la ha K) {p0 : Int} (hp0 : -2147483648 ≤ p0 ∧ p0 ≤ 2147483647) {p1 : Int} (hp1 : -2147483648 ≤ p1 ∧ p1 ≤ 2147483647) {p2 : Int} (hp2 : -2147483648 ≤ p2 ∧ p2 ≤ 2147483647) {p3 : Int} (hp3 : -2147483648 ≤ p3 ∧ p3 ≤ 2147483647) (hSk : 0 ≤ p1 ∧ p1 ≤ 99 → S p1.toNat = true) : xMet l G yX5_swap wsX5_swap 3 67 0 0 [.ref a, .int (iN (p0)), .int (iN (p1)), .int (iN (p2)), .int (iN (p3))] M (fun r M1 => ∃ (z th1 : Int), r = some (.int (iN z)) ∧ (z = 0 ∨ z = 1) ∧ ((th1 = 0 ∧ ((0 ≤ p0 ∧ p0 ≤ 2) ∧ ((0 ≤ p1 ∧ p1 ≤ 99) ∧ (-9999 ≤ p2 ∧ p2 ≤ 9999) ∧ (-9999 ≤ p3 ∧ p3 ≤ 9999))) ∧ z = A_swap (O, V, Wv, K, kp, kv, rfd) p0 p1 p2 p3 ∧ MGm G M1 a S th1 (S_swap (O, V, Wv, K, kp, kv, rfd) p0 p1 p2 p3)) ∨ (th1 ≠ 0 ∧ ((th1 = 1 ∧ ¬ (0 ≤ p0 ∧ p0 ≤ 2)) ∨ (th1 = 2 ∧ (0 ≤ p0 ∧ p0 ≤ 2) ∧ ¬ ((0 ≤ p1 ∧ p1 ≤ 99) ∧ (-9999 ≤ p2 ∧ p2 ≤ 9999) ∧ (-9999 ≤ p3 ∧ p3 ≤ 9999)))) ∧ MGm G M1 a S th1 (O, V, Wv, K, kp, kv, rfd)))) := by
  refine x_intro (cc := cX5_swap) (maxL := 5) (ret := (some .boolean)) (by exact pln_RX5) rfl (Nat.le_of_ble_eq_true rfl) ?_
  intro p e R s m args below meth c ls hRf hRc hRs hRl hC hw hl
  have hsc0 := hR.sc.1
  have hinX5 : ∀ w ∈ wsX50, w ∈ wsX5_swap := fun w h => (List.mem_cons_of_mem _ (List.mem_append_right _ h))
  have hl : lv_has ls 5 [(0, .ref a), (1, .int (iN (p0))), (2, .int (iN (p1))), (3, .int (iN (p2))), (4, .int (iN (p3)))] := hl
  refine lv_aload_n hC.1 hC.2.1 dX5_swap_0 rfl (lv_at hl 0 rfl) ?_
  refine lv_iload_n hC.1 hC.2.1 dX5_swap_1 rfl (lv_at hl 1 rfl) ?_
  refine lv_iload_n hC.1 hC.2.1 dX5_swap_2 rfl (lv_at hl 2 rfl) ?_
  refine lv_iload hC.1 hC.2.1 dX5_swap_3 (lv_at hl 4 rfl) ?_
  refine x_callV hC hw (lv_size hl) (c_X5_isBad_ l G hR (p0 := p0) (by first | assumption | omega) (p1 := p1) (by first | assumption | omega) (p2 := p3) (by first | assumption | omega)) gX5_swap_X5_isBad_ rfl dv_X5_isBad_ hR.1.1 rfl rfl (Nat.le_of_ble_eq_true rfl) (by rw [hRf]; decide) (by rw [hRl]; decide) (by first | (rw [hRc]; decide) | omega) (by first | (rw [hRs]; decide) | omega) dX5_swap_5 (fun r9 M_1 H locs hq hw => ?_)
  obtain ⟨z_3, thk_2, rfl, hz_3r, hx5k_2, hRk_2⟩ := hq
  have hsck_2 := hRk_2.sc.1
  show W p l e R s m args below meth c H locs _ _ _ (F0 m 8 ls [.int (iN (z_3))])
  refine x_if_ne (tgt := 23) hC ⟨by omega, by omega⟩ dX5_swap_8 (by decide) (fun c_4 => ?_) (fun c_4 => ?_)
  · replace hz_3r := (hz_3r.resolve_left (fun q9 => c_4 q9.1)).2
    refine x_const hC dX5_swap_23 ?_
    exact x_zret hC hw (by omega) dX5_swap_24 (by first | decide | omega) (by first | decide | omega) ⟨0, thk_2, rfl, by omega, Or.inr ⟨by omega, by omega, MGm.of hRk_2 hK⟩⟩
  · replace hz_3r := (hz_3r.resolve_right (fun q9 => absurd (q9.1.symm.trans c_4) (by decide))).2
    refine lv_aload_n hC.1 hC.2.1 dX5_swap_11 rfl (lv_at hl 0 rfl) ?_
    refine lv_iload_n hC.1 hC.2.1 dX5_swap_12 rfl (lv_at hl 3 rfl) ?_
    refine x_callS hC hw (lv_size hl) (c_X5_isNoValue l G (M := M_1) (p0 := p2) (by first | assumption | omega)) gX5_swap_X5_isNoValue rfl dv_X5_isNoValue_s rfl (Nat.le_of_ble_eq_true rfl) (by rw [hRf]; decide) (by rw [hRl]; decide) (by first | (rw [hRc]; decide) | omega) (by first | (rw [hRs]; decide) | omega) dX5_swap_13 (fun r9 M_5 H locs hq hw => ?_)
    obtain ⟨z_6, rfl, hM9, hz_6a, hz_6b⟩ := hq
    rw [hM9] at hw
    show W p l e R s m args below meth c H locs _ _ _ (F0 m 16 ls [.int (iN (z_6)), .ref a])
    refine x_const hC dX5_swap_16 ?_
    refine x_callV hC hw (lv_size hl) (c_X5_refuse l G hRk_2 (p0 := z_6) (by omega) (p1 := 2) (by omega) (by omega)) gX5_swap_X5_refuse rfl dv_X5_refuse hRk_2.1.1 rfl rfl (Nat.le_of_ble_eq_true rfl) (by rw [hRf]; decide) (by rw [hRl]; decide) (by first | (rw [hRc]; decide) | omega) (by first | (rw [hRs]; decide) | omega) dX5_swap_17 (fun r9 M_7 H locs hq hw => ?_)
    obtain ⟨z_9, thk_8, rfl, hz_9r, hx5k_8, hRk_8⟩ := hq
    have hsck_8 := hRk_8.sc.1
    show W p l e R s m args below meth c H locs _ _ _ (F0 m 20 ls [.int (iN (z_9))])
    refine x_if_eq (tgt := 25) hC ⟨by omega, by omega⟩ dX5_swap_20 (by decide) (fun c_10 => ?_) (fun c_10 => ?_)
    · replace hz_9r := (hz_9r.resolve_right (fun q9 => absurd (q9.1.symm.trans c_10) (by decide))).2
      replace hz_6b := hz_6b.mp hz_9r.2.2
      refine lv_aload_n hC.1 hC.2.1 dX5_swap_25 rfl (lv_at hl 0 rfl) ?_
      refine lv_iload_n hC.1 hC.2.1 dX5_swap_26 rfl (lv_at hl 1 rfl) ?_
      refine x_callV hC hw (lv_size hl) (c_X5_touch l G hRk_8 (p0 := p0) (by first | assumption | omega) (by omega)) gX5_swap_X5_touch rfl dv_X5_touch hRk_8.1.1 rfl rfl (Nat.le_of_ble_eq_true rfl) (by rw [hRf]; decide) (by rw [hRl]; decide) (by first | (rw [hRc]; decide) | omega) (by first | (rw [hRs]; decide) | omega) dX5_swap_27 (fun r9 M_11 H locs hq hw => ?_)
      obtain ⟨hak_12, rfl, he0k_12, hx5k_12, hRk_12⟩ := hq
      have hsck_12 := hRk_12.sc.1
      show W p l e R s m args below meth c H locs _ _ _ (F0 m 30 ls [])
      refine lv_aload_n hC.1 hC.2.1 dX5_swap_30 rfl (lv_at hl 0 rfl) ?_
      refine x_get hC hw hRk_12.1.1 rfl hinX5 2 (by decide) (List.mem_cons_of_mem _ (List.mem_append_left _ (List.mem_append_left _ (List.mem_of_getElem? (i := 0) rfl)))) rfl dX5_swap_31 ?_
      refine lv_iload_n hC.1 hC.2.1 dX5_swap_34 rfl (lv_at hl 1 rfl) ?_
      refine x_ald4 hC hw hRk_12.1.2.1 (by omega) (by omega) (by omega) dX5_swap_35 ?_
      rw [hRk_12.fa' (show (p0).toNat < 3 from tn_lt (by omega) (by decide))]
      show W p l e R s m args below meth c _ _ _ _ _ (F0 m 36 ls [.ref (qv ((p0).toNat))])
      refine lv_iload_n hC.1 hC.2.1 dX5_swap_36 rfl (lv_at hl 2 rfl) ?_
      refine x_ialdE (x := (V ((p0).toNat) ((p1).toNat))) hC hw (hRk_12.rv (show ((p0).toNat) < 3 from tn_lt (by omega) (by decide))) (by omega) (by omega) (by omega) dX5_swap_37 rfl ?_
      have hrv_13 := hRk_12.vr (show ((p0).toNat) < 3 from tn_lt (by omega) (by decide)) (show (p1).toNat < 100 from tn_lt (by omega) (by decide))
      have hpv_13 := hRk_12.vs (show ((p0).toNat) < 3 from tn_lt (by omega) (by decide)) (show (p1).toNat < 100 from tn_lt (by omega) (by decide))
      refine lv_iload_n hC.1 hC.2.1 dX5_swap_38 rfl (lv_at hl 3 rfl) ?_
      refine x_icmp_eq (tgt := 44) hC ⟨by omega, by omega⟩ ⟨by omega, by omega⟩ dX5_swap_39 (by decide) (fun c_14 => ?_) (fun c_14 => ?_)
      · refine lv_aload_n hC.1 hC.2.1 dX5_swap_44 rfl (lv_at hl 0 rfl) ?_
        refine lv_iload_n hC.1 hC.2.1 dX5_swap_45 rfl (lv_at hl 1 rfl) ?_
        refine lv_iload_n hC.1 hC.2.1 dX5_swap_46 rfl (lv_at hl 2 rfl) ?_
        refine lv_iload hC.1 hC.2.1 dX5_swap_47 (lv_at hl 4 rfl) ?_
        refine x_callV hC hw (lv_size hl) (c_X5_set l G hRk_12 (p0 := p0) (by first | assumption | omega) (p1 := p1) (by first | assumption | omega) (p2 := p3) (by first | assumption | omega) (by omega) (by omega) (by omega) (by intro q9; first | exact absurd rfl q9 | assumption | exact hpv_13 q9 | exact hpv_13 (by omega) | exact hSk (by omega))) gX5_swap_X5_set rfl dv_X5_set hRk_12.1.1 rfl rfl (Nat.le_of_ble_eq_true rfl) (by rw [hRf]; decide) (by rw [hRl]; decide) (by first | (rw [hRc]; decide) | omega) (by first | (rw [hRs]; decide) | omega) dX5_swap_49 (fun r9 M_15 H locs hq hw => ?_)
        obtain ⟨z_17, brk_16, Vk_16, rfl, hz_17a, hz_17v, hz_17b, he0k_16, he1k_16, hx5k_16, hRk_16⟩ := hq
        have hsck_16 := hRk_16.sc.1
        show W p l e R s m args below meth c H locs _ _ _ (F0 m 52 ls [.int (iN (z_17))])
        refine lv_pop hC.1 hC.2.1 dX5_swap_52 rfl ?_
        refine x_const hC dX5_swap_53 ?_
        exact x_zret hC hw (by omega) dX5_swap_54 (by first | decide | omega) (by first | decide | omega) ⟨1, thk_8, rfl, by omega, Or.inl ⟨by omega, ⟨⟨(by first | omega | trivial), (by first | omega | trivial)⟩, ⟨⟨(by first | omega | trivial), (by first | omega | trivial)⟩, ⟨(by first | omega | trivial), (by first | omega | trivial)⟩, ⟨(by first | omega | trivial), (by first | omega | trivial)⟩⟩⟩, (show _ = (if (V (p0).toNat (p1).toNat) = p2 then 1 else 0) by first | rfl | omega | ((repeat' split) <;> first | rfl | omega)), (MGm.mut he1k_16 hRk_16 hK (bl_one (by omega) he0k_16) he0k_12 (congrArg (upV (V (p0).toNat) (p1).toNat) (show p3 = (if (V (p0).toNat (p1).toNat) = p2 then p3 else (V (p0).toNat (p1).toNat)) by first | rfl | omega | ((repeat' split) <;> first | rfl | omega))))⟩⟩
      · refine x_const hC dX5_swap_42 ?_
        exact x_zret hC hw (by omega) dX5_swap_43 (by first | decide | omega) (by first | decide | omega) ⟨0, thk_8, rfl, by omega, Or.inl ⟨by omega, ⟨⟨(by first | omega | trivial), (by first | omega | trivial)⟩, ⟨⟨(by first | omega | trivial), (by first | omega | trivial)⟩, ⟨(by first | omega | trivial), (by first | omega | trivial)⟩, ⟨(by first | omega | trivial), (by first | omega | trivial)⟩⟩⟩, (show _ = (if (V (p0).toNat (p1).toNat) = p2 then 1 else 0) by first | rfl | omega | ((repeat' split) <;> first | rfl | omega)), (MGm.mut (F := V ((p0).toNat)) (upB_self rfl).symm hRk_12 hK bl_rf he0k_12 (upV_self (show (V (p0).toNat (p1).toNat) = (if (V (p0).toNat (p1).toNat) = p2 then p3 else (V (p0).toNat (p1).toNat)) by first | rfl | omega | ((repeat' split) <;> first | rfl | omega))).symm)⟩⟩
    · replace hz_9r := (hz_9r.resolve_left (fun q9 => c_10 q9.1)).2
      refine x_const hC dX5_swap_23 ?_
      exact x_zret hC hw (by omega) dX5_swap_24 (by first | decide | omega) (by first | decide | omega) ⟨0, thk_8, rfl, by omega, Or.inr ⟨by omega, by omega, MGm.of hRk_8 hK⟩⟩
set_option maxHeartbeats 4000000 in
set_option maxRecDepth 100000 in
theorem c_X5_strike (l : Launch) (G : xG) {M : HM} {a va oa wa ya : Nat} {wk : Option Nat} {th : Int} {rfd : Int32} {br re la ha : Int} {kp kv : Int32} {qv qw : Nat → Nat} {fa fb : Nat → Option Nat} {V : BW} {O : OW} {fy : Nat → Option Nat} {Wv : VW} {wt : Option VT} {S : Nat → Bool} (hR : MGx G M a va oa wa ya wk th rfd br re la ha kp kv qv qw fa fb V O fy Wv wt S) {K : WA} (hK : abM O wt br re la ha K) {p0 : Int} (hp0 : -2147483648 ≤ p0 ∧ p0 ≤ 2147483647) {p1 : Int} (hp1 : -2147483648 ≤ p1 ∧ p1 ≤ 2147483647) : xMet l G yX5_strike wsX5_strike 3 66 0 0 [.ref a, .int (iN (p0)), .int (iN (p1))] M (fun r M1 => ∃ (z th1 : Int), r = some (.int (iN z)) ∧ (-2147483648 ≤ z ∧ z ≤ 2147483647) ∧ ((th1 = 0 ∧ ((0 ≤ p0 ∧ p0 ≤ 2) ∧ (0 ≤ p1 ∧ p1 ≤ 99)) ∧ z = A_strike (O, V, Wv, K, kp, kv, rfd) p0 p1 ∧ MGm G M1 a S th1 (S_strike (O, V, Wv, K, kp, kv, rfd) p0 p1)) ∨ (th1 ≠ 0 ∧ ((th1 = 1 ∧ ¬ (0 ≤ p0 ∧ p0 ≤ 2)) ∨ (th1 = 2 ∧ (0 ≤ p0 ∧ p0 ≤ 2) ∧ ¬ (0 ≤ p1 ∧ p1 ≤ 99))) ∧ MGm G M1 a S th1 (O, V, Wv, K, kp, kv, rfd)))) := by
  refine x_intro (cc := cX5_strike) (maxL := 3) (ret := (some .int)) (by exact pln_RX5) rfl (Nat.le_of_ble_eq_true rfl) ?_
  intro p e R s m args below meth c ls hRf hRc hRs hRl hC hw hl
  have hsc0 := hR.sc.1
  have hl : lv_has ls 3 [(0, .ref a), (1, .int (iN (p0))), (2, .int (iN (p1)))] := hl
  refine lv_aload_n hC.1 hC.2.1 dX5_strike_0 rfl (lv_at hl 0 rfl) ?_
  refine lv_iload_n hC.1 hC.2.1 dX5_strike_1 rfl (lv_at hl 1 rfl) ?_
  refine lv_iload_n hC.1 hC.2.1 dX5_strike_2 rfl (lv_at hl 2 rfl) ?_
  refine x_callV hC hw (lv_size hl) (c_X5_isBad l G hR (p0 := p0) (by first | assumption | omega) (p1 := p1) (by first | assumption | omega)) gX5_strike_X5_isBad rfl dv_X5_isBad hR.1.1 rfl rfl (Nat.le_of_ble_eq_true rfl) (by rw [hRf]; decide) (by rw [hRl]; decide) (by first | (rw [hRc]; decide) | omega) (by first | (rw [hRs]; decide) | omega) dX5_strike_3 (fun r9 M_1 H locs hq hw => ?_)
  obtain ⟨z_3, thk_2, rfl, hz_3r, hx5k_2, hRk_2⟩ := hq
  have hsck_2 := hRk_2.sc.1
  show W p l e R s m args below meth c H locs _ _ _ (F0 m 6 ls [.int (iN (z_3))])
  refine x_if_eq (tgt := 11) hC ⟨by omega, by omega⟩ dX5_strike_6 (by decide) (fun c_4 => ?_) (fun c_4 => ?_)
  · replace hz_3r := (hz_3r.resolve_right (fun q9 => absurd (q9.1.symm.trans c_4) (by decide))).2
    refine lv_aload_n hC.1 hC.2.1 dX5_strike_11 rfl (lv_at hl 0 rfl) ?_
    refine lv_iload_n hC.1 hC.2.1 dX5_strike_12 rfl (lv_at hl 1 rfl) ?_
    refine x_callV hC hw (lv_size hl) (c_X5_touch l G hRk_2 (p0 := p0) (by first | assumption | omega) (by omega)) gX5_strike_X5_touch rfl dv_X5_touch hRk_2.1.1 rfl rfl (Nat.le_of_ble_eq_true rfl) (by rw [hRf]; decide) (by rw [hRl]; decide) (by first | (rw [hRc]; decide) | omega) (by first | (rw [hRs]; decide) | omega) dX5_strike_13 (fun r9 M_5 H locs hq hw => ?_)
    obtain ⟨hak_6, rfl, he0k_6, hx5k_6, hRk_6⟩ := hq
    have hsck_6 := hRk_6.sc.1
    show W p l e R s m args below meth c H locs _ _ _ (F0 m 16 ls [])
    refine lv_aload_n hC.1 hC.2.1 dX5_strike_16 rfl (lv_at hl 0 rfl) ?_
    refine lv_iload_n hC.1 hC.2.1 dX5_strike_17 rfl (lv_at hl 1 rfl) ?_
    refine lv_iload_n hC.1 hC.2.1 dX5_strike_18 rfl (lv_at hl 2 rfl) ?_
    refine x_sipush hC dX5_strike_19 (by decide +kernel) ?_
    refine x_callV hC hw (lv_size hl) (c_X5_set l G hRk_6 (p0 := p0) (by first | assumption | omega) (p1 := p1) (by first | assumption | omega) (p2 := (-10000)) (by omega) (by omega) (by omega) (by omega) (fun q9 => absurd rfl q9)) gX5_strike_X5_set rfl dv_X5_set hRk_6.1.1 rfl rfl (Nat.le_of_ble_eq_true rfl) (by rw [hRf]; decide) (by rw [hRl]; decide) (by first | (rw [hRc]; decide) | omega) (by first | (rw [hRs]; decide) | omega) dX5_strike_22 (fun r9 M_7 H locs hq hw => ?_)
    obtain ⟨z_9, brk_8, Vk_8, rfl, hz_9a, hz_9v, hz_9b, he0k_8, he1k_8, hx5k_8, hRk_8⟩ := hq
    have hsck_8 := hRk_8.sc.1
    show W p l e R s m args below meth c H locs _ _ _ (F0 m 25 ls [.int (iN (z_9))])
    exact x_iret hC hw dX5_strike_25 (by first | decide | omega) (by first | decide | omega) ⟨z_9, thk_2, rfl, ⟨by omega, by omega⟩, Or.inl ⟨by omega, ⟨⟨(by first | omega | trivial), (by first | omega | trivial)⟩, ⟨(by first | omega | trivial), (by first | omega | trivial)⟩⟩, (show _ = (V (p0).toNat (p1).toNat) by first | rfl | omega | ((repeat' split) <;> first | rfl | omega)), (MGm.mut he1k_8 hRk_8 hK (bl_one (by omega) he0k_8) he0k_6 (congrArg (upV (V (p0).toNat) (p1).toNat) (show (-10000) = -10000 by first | rfl | omega | ((repeat' split) <;> first | rfl | omega))))⟩⟩
  · replace hz_3r := (hz_3r.resolve_left (fun q9 => c_4 q9.1)).2
    refine x_const hC dX5_strike_9 ?_
    exact x_iret hC hw dX5_strike_10 (by first | decide | omega) (by first | decide | omega) ⟨0, thk_2, rfl, by omega, Or.inr ⟨by omega, by omega, MGm.of hRk_2 hK⟩⟩
set_option maxHeartbeats 4000000 in
set_option maxRecDepth 100000 in
theorem c_X5_strikePair (l : Launch) (G : xG) {M : HM} {a va oa wa ya : Nat} {wk : Option Nat} {th : Int} {rfd : Int32} {br re la ha : Int} {kp kv : Int32} {qv qw : Nat → Nat} {fa fb : Nat → Option Nat} {V : BW} {O : OW} {fy : Nat → Option Nat} {Wv : VW} {wt : Option VT} {S : Nat → Bool} (hR : MGx G M a va oa wa ya wk th rfd br re la ha kp kv qv qw fa fb V O fy Wv wt S) {K : WA} (hK : abM O wt br re la ha K) {p0 : Int} (hp0 : -2147483648 ≤ p0 ∧ p0 ≤ 2147483647) {p1 : Int} (hp1 : -2147483648 ≤ p1 ∧ p1 ≤ 2147483647) {p2 : Int} (hp2 : -2147483648 ≤ p2 ∧ p2 ≤ 2147483647) : xMet l G yX5_strikePair wsX5_strikePair 3 67 0 0 [.ref a, .int (iN (p0)), .int (iN (p1)), .int (iN (p2))] M (fun r M1 => ∃ (z th1 : Int), r = some (.int (iN z)) ∧ (z = 0 ∨ z = 1) ∧ ((th1 = 0 ∧ ((0 ≤ p0 ∧ p0 ≤ 2) ∧ ((0 ≤ p1 ∧ p1 ≤ 99) ∧ (-9999 ≤ p2 ∧ p2 ≤ 9999))) ∧ z = A_strikePair (O, V, Wv, K, kp, kv, rfd) p0 p1 p2 ∧ MGm G M1 a S th1 (S_strikePair (O, V, Wv, K, kp, kv, rfd) p0 p1 p2)) ∨ (th1 ≠ 0 ∧ ((th1 = 1 ∧ ¬ (0 ≤ p0 ∧ p0 ≤ 2)) ∨ (th1 = 2 ∧ (0 ≤ p0 ∧ p0 ≤ 2) ∧ ¬ ((0 ≤ p1 ∧ p1 ≤ 99) ∧ (-9999 ≤ p2 ∧ p2 ≤ 9999)))) ∧ MGm G M1 a S th1 (O, V, Wv, K, kp, kv, rfd)))) := by
  refine x_intro (cc := cX5_strikePair) (maxL := 4) (ret := (some .boolean)) (by exact pln_RX5) rfl (Nat.le_of_ble_eq_true rfl) ?_
  intro p e R s m args below meth c ls hRf hRc hRs hRl hC hw hl
  have hsc0 := hR.sc.1
  have hinX5 : ∀ w ∈ wsX50, w ∈ wsX5_strikePair := fun w h => (List.mem_cons_of_mem _ (List.mem_append_right _ h))
  have hl : lv_has ls 4 [(0, .ref a), (1, .int (iN (p0))), (2, .int (iN (p1))), (3, .int (iN (p2)))] := hl
  refine lv_aload_n hC.1 hC.2.1 dX5_strikePair_0 rfl (lv_at hl 0 rfl) ?_
  refine lv_iload_n hC.1 hC.2.1 dX5_strikePair_1 rfl (lv_at hl 1 rfl) ?_
  refine lv_iload_n hC.1 hC.2.1 dX5_strikePair_2 rfl (lv_at hl 2 rfl) ?_
  refine lv_iload_n hC.1 hC.2.1 dX5_strikePair_3 rfl (lv_at hl 3 rfl) ?_
  refine x_callV hC hw (lv_size hl) (c_X5_isBad_ l G hR (p0 := p0) (by first | assumption | omega) (p1 := p1) (by first | assumption | omega) (p2 := p2) (by first | assumption | omega)) gX5_strikePair_X5_isBad_ rfl dv_X5_isBad_ hR.1.1 rfl rfl (Nat.le_of_ble_eq_true rfl) (by rw [hRf]; decide) (by rw [hRl]; decide) (by first | (rw [hRc]; decide) | omega) (by first | (rw [hRs]; decide) | omega) dX5_strikePair_4 (fun r9 M_1 H locs hq hw => ?_)
  obtain ⟨z_3, thk_2, rfl, hz_3r, hx5k_2, hRk_2⟩ := hq
  have hsck_2 := hRk_2.sc.1
  show W p l e R s m args below meth c H locs _ _ _ (F0 m 7 ls [.int (iN (z_3))])
  refine x_if_eq (tgt := 12) hC ⟨by omega, by omega⟩ dX5_strikePair_7 (by decide) (fun c_4 => ?_) (fun c_4 => ?_)
  · replace hz_3r := (hz_3r.resolve_right (fun q9 => absurd (q9.1.symm.trans c_4) (by decide))).2
    refine lv_aload_n hC.1 hC.2.1 dX5_strikePair_12 rfl (lv_at hl 0 rfl) ?_
    refine lv_iload_n hC.1 hC.2.1 dX5_strikePair_13 rfl (lv_at hl 1 rfl) ?_
    refine x_callV hC hw (lv_size hl) (c_X5_touch l G hRk_2 (p0 := p0) (by first | assumption | omega) (by omega)) gX5_strikePair_X5_touch rfl dv_X5_touch hRk_2.1.1 rfl rfl (Nat.le_of_ble_eq_true rfl) (by rw [hRf]; decide) (by rw [hRl]; decide) (by first | (rw [hRc]; decide) | omega) (by first | (rw [hRs]; decide) | omega) dX5_strikePair_14 (fun r9 M_5 H locs hq hw => ?_)
    obtain ⟨hak_6, rfl, he0k_6, hx5k_6, hRk_6⟩ := hq
    have hsck_6 := hRk_6.sc.1
    show W p l e R s m args below meth c H locs _ _ _ (F0 m 17 ls [])
    refine lv_aload_n hC.1 hC.2.1 dX5_strikePair_17 rfl (lv_at hl 0 rfl) ?_
    refine x_get hC hw hRk_6.1.1 rfl hinX5 2 (by decide) (List.mem_cons_of_mem _ (List.mem_append_left _ (List.mem_append_left _ (List.mem_of_getElem? (i := 0) rfl)))) rfl dX5_strikePair_18 ?_
    refine lv_iload_n hC.1 hC.2.1 dX5_strikePair_21 rfl (lv_at hl 1 rfl) ?_
    refine x_ald4 hC hw hRk_6.1.2.1 (by omega) (by omega) (by omega) dX5_strikePair_22 ?_
    rw [hRk_6.fa' (show (p0).toNat < 3 from tn_lt (by omega) (by decide))]
    show W p l e R s m args below meth c _ _ _ _ _ (F0 m 23 ls [.ref (qv ((p0).toNat))])
    refine lv_iload_n hC.1 hC.2.1 dX5_strikePair_23 rfl (lv_at hl 2 rfl) ?_
    refine x_ialdE (x := (V ((p0).toNat) ((p1).toNat))) hC hw (hRk_6.rv (show ((p0).toNat) < 3 from tn_lt (by omega) (by decide))) (by omega) (by omega) (by omega) dX5_strikePair_24 rfl ?_
    have hrv_7 := hRk_6.vr (show ((p0).toNat) < 3 from tn_lt (by omega) (by decide)) (show (p1).toNat < 100 from tn_lt (by omega) (by decide))
    have hpv_7 := hRk_6.vs (show ((p0).toNat) < 3 from tn_lt (by omega) (by decide)) (show (p1).toNat < 100 from tn_lt (by omega) (by decide))
    refine lv_iload_n hC.1 hC.2.1 dX5_strikePair_25 rfl (lv_at hl 3 rfl) ?_
    refine x_icmp_eq (tgt := 31) hC ⟨by omega, by omega⟩ ⟨by omega, by omega⟩ dX5_strikePair_26 (by decide) (fun c_8 => ?_) (fun c_8 => ?_)
    · refine lv_aload_n hC.1 hC.2.1 dX5_strikePair_31 rfl (lv_at hl 0 rfl) ?_
      refine lv_iload_n hC.1 hC.2.1 dX5_strikePair_32 rfl (lv_at hl 1 rfl) ?_
      refine lv_iload_n hC.1 hC.2.1 dX5_strikePair_33 rfl (lv_at hl 2 rfl) ?_
      refine x_sipush hC dX5_strikePair_34 (by decide +kernel) ?_
      refine x_callV hC hw (lv_size hl) (c_X5_set l G hRk_6 (p0 := p0) (by first | assumption | omega) (p1 := p1) (by first | assumption | omega) (p2 := (-10000)) (by omega) (by omega) (by omega) (by omega) (fun q9 => absurd rfl q9)) gX5_strikePair_X5_set rfl dv_X5_set hRk_6.1.1 rfl rfl (Nat.le_of_ble_eq_true rfl) (by rw [hRf]; decide) (by rw [hRl]; decide) (by first | (rw [hRc]; decide) | omega) (by first | (rw [hRs]; decide) | omega) dX5_strikePair_37 (fun r9 M_9 H locs hq hw => ?_)
      obtain ⟨z_11, brk_10, Vk_10, rfl, hz_11a, hz_11v, hz_11b, he0k_10, he1k_10, hx5k_10, hRk_10⟩ := hq
      have hsck_10 := hRk_10.sc.1
      show W p l e R s m args below meth c H locs _ _ _ (F0 m 40 ls [.int (iN (z_11))])
      refine lv_pop hC.1 hC.2.1 dX5_strikePair_40 rfl ?_
      refine x_const hC dX5_strikePair_41 ?_
      exact x_zret hC hw (by omega) dX5_strikePair_42 (by first | decide | omega) (by first | decide | omega) ⟨1, thk_2, rfl, by omega, Or.inl ⟨by omega, ⟨⟨(by first | omega | trivial), (by first | omega | trivial)⟩, ⟨⟨(by first | omega | trivial), (by first | omega | trivial)⟩, ⟨(by first | omega | trivial), (by first | omega | trivial)⟩⟩⟩, (show _ = (if (V (p0).toNat (p1).toNat) = p2 then 1 else 0) by first | rfl | omega | ((repeat' split) <;> first | rfl | omega)), (MGm.mut he1k_10 hRk_10 hK (bl_one (by omega) he0k_10) he0k_6 (congrArg (upV (V (p0).toNat) (p1).toNat) (show (-10000) = (if (V (p0).toNat (p1).toNat) = p2 then -10000 else (V (p0).toNat (p1).toNat)) by first | rfl | omega | ((repeat' split) <;> first | rfl | omega))))⟩⟩
    · refine x_const hC dX5_strikePair_29 ?_
      exact x_zret hC hw (by omega) dX5_strikePair_30 (by first | decide | omega) (by first | decide | omega) ⟨0, thk_2, rfl, by omega, Or.inl ⟨by omega, ⟨⟨(by first | omega | trivial), (by first | omega | trivial)⟩, ⟨⟨(by first | omega | trivial), (by first | omega | trivial)⟩, ⟨(by first | omega | trivial), (by first | omega | trivial)⟩⟩⟩, (show _ = (if (V (p0).toNat (p1).toNat) = p2 then 1 else 0) by first | rfl | omega | ((repeat' split) <;> first | rfl | omega)), (MGm.mut (F := V ((p0).toNat)) (upB_self rfl).symm hRk_6 hK bl_rf he0k_6 (upV_self (show (V (p0).toNat (p1).toNat) = (if (V (p0).toNat (p1).toNat) = p2 then -10000 else (V (p0).toNat (p1).toNat)) by first | rfl | omega | ((repeat' split) <;> first | rfl | omega))).symm)⟩⟩
  · replace hz_3r := (hz_3r.resolve_left (fun q9 => c_4 q9.1)).2
    refine x_const hC dX5_strikePair_10 ?_
    exact x_zret hC hw (by omega) dX5_strikePair_11 (by first | decide | omega) (by first | decide | omega) ⟨0, thk_2, rfl, by omega, Or.inr ⟨by omega, by omega, MGm.of hRk_2 hK⟩⟩
set_option maxHeartbeats 4000000 in
set_option maxRecDepth 100000 in
theorem c_X5_merge (l : Launch) (G : xG) {M : HM} {a va oa wa ya : Nat} {wk : Option Nat} {th : Int} {rfd : Int32} {br re la ha : Int} {kp kv : Int32} {qv qw : Nat → Nat} {fa fb : Nat → Option Nat} {V : BW} {O : OW} {fy : Nat → Option Nat} {Wv : VW} {wt : Option VT} {S : Nat → Bool} (hR : MGx G M a va oa wa ya wk th rfd br re la ha kp kv qv qw fa fb V O fy Wv wt S) {K : WA} (hK : abM O wt br re la ha K) {p0 : Int} (hp0 : -2147483648 ≤ p0 ∧ p0 ≤ 2147483647) {p1 : Int} (hp1 : -2147483648 ≤ p1 ∧ p1 ≤ 2147483647) {p2 : Int} (hp2 : -2147483648 ≤ p2 ∧ p2 ≤ 2147483647) (hSk : 0 ≤ p1 ∧ p1 ≤ 99 → S p1.toNat = true) : xMet l G yX5_merge wsX5_merge 3 67 0 0 [.ref a, .int (iN (p0)), .int (iN (p1)), .int (iN (p2))] M (fun r M1 => ∃ (z th1 : Int), r = some (.int (iN z)) ∧ (-2147483648 ≤ z ∧ z ≤ 2147483647) ∧ ((th1 = 0 ∧ ((0 ≤ p0 ∧ p0 ≤ 2) ∧ ((0 ≤ p1 ∧ p1 ≤ 99) ∧ (-9999 ≤ p2 ∧ p2 ≤ 9999))) ∧ z = A_merge (O, V, Wv, K, kp, kv, rfd) p0 p1 p2 ∧ MGm G M1 a S th1 (S_merge (O, V, Wv, K, kp, kv, rfd) p0 p1 p2)) ∨ (th1 ≠ 0 ∧ ((th1 = 1 ∧ ¬ (0 ≤ p0 ∧ p0 ≤ 2)) ∨ (th1 = 2 ∧ (0 ≤ p0 ∧ p0 ≤ 2) ∧ ¬ ((0 ≤ p1 ∧ p1 ≤ 99) ∧ (-9999 ≤ p2 ∧ p2 ≤ 9999)))) ∧ MGm G M1 a S th1 (O, V, Wv, K, kp, kv, rfd)))) := by
  refine x_intro (cc := cX5_merge) (maxL := 4) (ret := (some .int)) (by exact pln_RX5) rfl (Nat.le_of_ble_eq_true rfl) ?_
  intro p e R s m args below meth c ls hRf hRc hRs hRl hC hw hl
  have hsc0 := hR.sc.1
  have hl : lv_has ls 4 [(0, .ref a), (1, .int (iN (p0))), (2, .int (iN (p1))), (3, .int (iN (p2)))] := hl
  refine lv_aload_n hC.1 hC.2.1 dX5_merge_0 rfl (lv_at hl 0 rfl) ?_
  refine lv_iload_n hC.1 hC.2.1 dX5_merge_1 rfl (lv_at hl 1 rfl) ?_
  refine lv_iload_n hC.1 hC.2.1 dX5_merge_2 rfl (lv_at hl 2 rfl) ?_
  refine lv_iload_n hC.1 hC.2.1 dX5_merge_3 rfl (lv_at hl 3 rfl) ?_
  refine x_callV hC hw (lv_size hl) (c_X5_isBad_ l G hR (p0 := p0) (by first | assumption | omega) (p1 := p1) (by first | assumption | omega) (p2 := p2) (by first | assumption | omega)) gX5_merge_X5_isBad_ rfl dv_X5_isBad_ hR.1.1 rfl rfl (Nat.le_of_ble_eq_true rfl) (by rw [hRf]; decide) (by rw [hRl]; decide) (by first | (rw [hRc]; decide) | omega) (by first | (rw [hRs]; decide) | omega) dX5_merge_4 (fun r9 M_1 H locs hq hw => ?_)
  obtain ⟨z_3, thk_2, rfl, hz_3r, hx5k_2, hRk_2⟩ := hq
  have hsck_2 := hRk_2.sc.1
  show W p l e R s m args below meth c H locs _ _ _ (F0 m 7 ls [.int (iN (z_3))])
  refine x_if_eq (tgt := 12) hC ⟨by omega, by omega⟩ dX5_merge_7 (by decide) (fun c_4 => ?_) (fun c_4 => ?_)
  · replace hz_3r := (hz_3r.resolve_right (fun q9 => absurd (q9.1.symm.trans c_4) (by decide))).2
    refine lv_aload_n hC.1 hC.2.1 dX5_merge_12 rfl (lv_at hl 0 rfl) ?_
    refine lv_iload_n hC.1 hC.2.1 dX5_merge_13 rfl (lv_at hl 1 rfl) ?_
    refine x_callV hC hw (lv_size hl) (c_X5_touch l G hRk_2 (p0 := p0) (by first | assumption | omega) (by omega)) gX5_merge_X5_touch rfl dv_X5_touch hRk_2.1.1 rfl rfl (Nat.le_of_ble_eq_true rfl) (by rw [hRf]; decide) (by rw [hRl]; decide) (by first | (rw [hRc]; decide) | omega) (by first | (rw [hRs]; decide) | omega) dX5_merge_14 (fun r9 M_5 H locs hq hw => ?_)
    obtain ⟨hak_6, rfl, he0k_6, hx5k_6, hRk_6⟩ := hq
    have hsck_6 := hRk_6.sc.1
    show W p l e R s m args below meth c H locs _ _ _ (F0 m 17 ls [])
    refine lv_aload_n hC.1 hC.2.1 dX5_merge_17 rfl (lv_at hl 0 rfl) ?_
    refine lv_iload_n hC.1 hC.2.1 dX5_merge_18 rfl (lv_at hl 1 rfl) ?_
    refine lv_iload_n hC.1 hC.2.1 dX5_merge_19 rfl (lv_at hl 2 rfl) ?_
    refine lv_iload_n hC.1 hC.2.1 dX5_merge_20 rfl (lv_at hl 3 rfl) ?_
    refine x_callV hC hw (lv_size hl) (c_X5_mergeOf l G hRk_6 (p0 := p0) (by first | assumption | omega) (p1 := p1) (by first | assumption | omega) (p2 := p2) (by first | assumption | omega) (by omega) (by omega) (by omega) (by first | assumption | exact hSk (by omega) | assumption)) gX5_merge_X5_mergeOf rfl dv_X5_mergeOf hRk_6.1.1 rfl rfl (Nat.le_of_ble_eq_true rfl) (by rw [hRf]; decide) (by rw [hRl]; decide) (by first | (rw [hRc]; decide) | omega) (by first | (rw [hRs]; decide) | omega) dX5_merge_21 (fun r9 M_7 H locs hq hw => ?_)
    obtain ⟨z_9, brk_8, Vk_8, rfl, hz_9a, hz_9v, he0k_8, he1k_8, hx5k_8, hRk_8⟩ := hq
    have hsck_8 := hRk_8.sc.1
    show W p l e R s m args below meth c H locs _ _ _ (F0 m 24 ls [.int (iN (z_9))])
    exact x_iret hC hw dX5_merge_24 (by first | decide | omega) (by first | decide | omega) ⟨z_9, thk_2, rfl, ⟨by omega, by omega⟩, Or.inl ⟨by omega, ⟨⟨(by first | omega | trivial), (by first | omega | trivial)⟩, ⟨⟨(by first | omega | trivial), (by first | omega | trivial)⟩, ⟨(by first | omega | trivial), (by first | omega | trivial)⟩⟩⟩, (show _ = (mgN (V (p0).toNat (p1).toNat) p2) by first | rfl | omega | ((repeat' split) <;> first | rfl | omega)), (MGm.mut he1k_8 hRk_8 hK (bl_one (by omega) he0k_8) he0k_6 (congrArg (upV (V (p0).toNat) (p1).toNat) (show (mgN (V ((p0).toNat) ((p1).toNat)) p2) = (mgN (V (p0).toNat (p1).toNat) p2) by first | rfl | omega | ((repeat' split) <;> first | rfl | omega))))⟩⟩
  · replace hz_3r := (hz_3r.resolve_left (fun q9 => c_4 q9.1)).2
    refine x_const hC dX5_merge_10 ?_
    exact x_iret hC hw dX5_merge_11 (by first | decide | omega) (by first | decide | omega) ⟨0, thk_2, rfl, by omega, Or.inr ⟨by omega, by omega, MGm.of hRk_2 hK⟩⟩
set_option maxHeartbeats 4000000 in
set_option maxRecDepth 100000 in
theorem c_X5_grow (l : Launch) (G : xG) {M : HM} {a va oa wa ya : Nat} {wk : Option Nat} {th : Int} {rfd : Int32} {br re la ha : Int} {kp kv : Int32} {qv qw : Nat → Nat} {fa fb : Nat → Option Nat} {V : BW} {O : OW} {fy : Nat → Option Nat} {Wv : VW} {wt : Option VT} {S : Nat → Bool} (hR : MGx G M a va oa wa ya wk th rfd br re la ha kp kv qv qw fa fb V O fy Wv wt S) {K : WA} (hK : abM O wt br re la ha K) {p0 : Int} (hp0 : -2147483648 ≤ p0 ∧ p0 ≤ 2147483647) {p1 : Int} (hp1 : -2147483648 ≤ p1 ∧ p1 ≤ 2147483647) (hSk : 0 ≤ p1 ∧ p1 ≤ 99 → S p1.toNat = true) : xMet l G yX5_grow wsX5_grow 3 66 0 0 [.ref a, .int (iN (p0)), .int (iN (p1))] M (fun r M1 => ∃ (z th1 : Int), r = some (.int (iN z)) ∧ (-2147483648 ≤ z ∧ z ≤ 2147483647) ∧ ((th1 = 0 ∧ ((0 ≤ p0 ∧ p0 ≤ 2) ∧ (0 ≤ p1 ∧ p1 ≤ 99)) ∧ z = A_grow (O, V, Wv, K, kp, kv, rfd) p0 p1 ∧ MGm G M1 a S th1 (S_grow (O, V, Wv, K, kp, kv, rfd) p0 p1)) ∨ (th1 ≠ 0 ∧ ((th1 = 1 ∧ ¬ (0 ≤ p0 ∧ p0 ≤ 2)) ∨ (th1 = 2 ∧ (0 ≤ p0 ∧ p0 ≤ 2) ∧ ¬ (0 ≤ p1 ∧ p1 ≤ 99))) ∧ MGm G M1 a S th1 (O, V, Wv, K, kp, kv, rfd)))) := by
  refine x_intro (cc := cX5_grow) (maxL := 3) (ret := (some .int)) (by exact pln_RX5) rfl (Nat.le_of_ble_eq_true rfl) ?_
  intro p e R s m args below meth c ls hRf hRc hRs hRl hC hw hl
  have hsc0 := hR.sc.1
  have hinX5 : ∀ w ∈ wsX50, w ∈ wsX5_grow := fun w h => (List.mem_cons_of_mem _ (List.mem_append_right _ h))
  have hl : lv_has ls 3 [(0, .ref a), (1, .int (iN (p0))), (2, .int (iN (p1)))] := hl
  refine lv_aload_n hC.1 hC.2.1 dX5_grow_0 rfl (lv_at hl 0 rfl) ?_
  refine lv_iload_n hC.1 hC.2.1 dX5_grow_1 rfl (lv_at hl 1 rfl) ?_
  refine lv_iload_n hC.1 hC.2.1 dX5_grow_2 rfl (lv_at hl 2 rfl) ?_
  refine x_callV hC hw (lv_size hl) (c_X5_isBad l G hR (p0 := p0) (by first | assumption | omega) (p1 := p1) (by first | assumption | omega)) gX5_grow_X5_isBad rfl dv_X5_isBad hR.1.1 rfl rfl (Nat.le_of_ble_eq_true rfl) (by rw [hRf]; decide) (by rw [hRl]; decide) (by first | (rw [hRc]; decide) | omega) (by first | (rw [hRs]; decide) | omega) dX5_grow_3 (fun r9 M_1 H locs hq hw => ?_)
  obtain ⟨z_3, thk_2, rfl, hz_3r, hx5k_2, hRk_2⟩ := hq
  have hsck_2 := hRk_2.sc.1
  show W p l e R s m args below meth c H locs _ _ _ (F0 m 6 ls [.int (iN (z_3))])
  refine x_if_eq (tgt := 11) hC ⟨by omega, by omega⟩ dX5_grow_6 (by decide) (fun c_4 => ?_) (fun c_4 => ?_)
  · replace hz_3r := (hz_3r.resolve_right (fun q9 => absurd (q9.1.symm.trans c_4) (by decide))).2
    refine lv_aload_n hC.1 hC.2.1 dX5_grow_11 rfl (lv_at hl 0 rfl) ?_
    refine lv_iload_n hC.1 hC.2.1 dX5_grow_12 rfl (lv_at hl 1 rfl) ?_
    refine x_callV hC hw (lv_size hl) (c_X5_touch l G hRk_2 (p0 := p0) (by first | assumption | omega) (by omega)) gX5_grow_X5_touch rfl dv_X5_touch hRk_2.1.1 rfl rfl (Nat.le_of_ble_eq_true rfl) (by rw [hRf]; decide) (by rw [hRl]; decide) (by first | (rw [hRc]; decide) | omega) (by first | (rw [hRs]; decide) | omega) dX5_grow_13 (fun r9 M_5 H locs hq hw => ?_)
    obtain ⟨hak_6, rfl, he0k_6, hx5k_6, hRk_6⟩ := hq
    have hsck_6 := hRk_6.sc.1
    show W p l e R s m args below meth c H locs _ _ _ (F0 m 16 ls [])
    refine lv_aload_n hC.1 hC.2.1 dX5_grow_16 rfl (lv_at hl 0 rfl) ?_
    refine x_get hC hw hRk_6.1.1 rfl hinX5 2 (by decide) (List.mem_cons_of_mem _ (List.mem_append_left _ (List.mem_append_left _ (List.mem_of_getElem? (i := 0) rfl)))) rfl dX5_grow_17 ?_
    refine lv_iload_n hC.1 hC.2.1 dX5_grow_20 rfl (lv_at hl 1 rfl) ?_
    refine x_ald4 hC hw hRk_6.1.2.1 (by omega) (by omega) (by omega) dX5_grow_21 ?_
    rw [hRk_6.fa' (show (p0).toNat < 3 from tn_lt (by omega) (by decide))]
    show W p l e R s m args below meth c _ _ _ _ _ (F0 m 22 ls [.ref (qv ((p0).toNat))])
    refine lv_iload_n hC.1 hC.2.1 dX5_grow_22 rfl (lv_at hl 2 rfl) ?_
    refine x_ialdE (x := (V ((p0).toNat) ((p1).toNat))) hC hw (hRk_6.rv (show ((p0).toNat) < 3 from tn_lt (by omega) (by decide))) (by omega) (by omega) (by omega) dX5_grow_23 rfl ?_
    have hrv_7 := hRk_6.vr (show ((p0).toNat) < 3 from tn_lt (by omega) (by decide)) (show (p1).toNat < 100 from tn_lt (by omega) (by decide))
    have hpv_7 := hRk_6.vs (show ((p0).toNat) < 3 from tn_lt (by omega) (by decide)) (show (p1).toNat < 100 from tn_lt (by omega) (by decide))
    refine x_sipush hC dX5_grow_24 (by decide +kernel) ?_
    refine x_icmp_ne (tgt := 50) hC ⟨by omega, by omega⟩ ⟨by omega, by omega⟩ dX5_grow_27 (by decide) (fun c_8 => ?_) (fun c_8 => ?_)
    · refine lv_aload_n hC.1 hC.2.1 dX5_grow_50 rfl (lv_at hl 0 rfl) ?_
      refine x_get hC hw hRk_6.1.1 rfl hinX5 2 (by decide) (List.mem_cons_of_mem _ (List.mem_append_left _ (List.mem_append_left _ (List.mem_of_getElem? (i := 0) rfl)))) rfl dX5_grow_51 ?_
      refine lv_iload_n hC.1 hC.2.1 dX5_grow_54 rfl (lv_at hl 1 rfl) ?_
      refine x_ald4 hC hw hRk_6.1.2.1 (by omega) (by omega) (by omega) dX5_grow_55 ?_
      rw [hRk_6.fa' (show (p0).toNat < 3 from tn_lt (by omega) (by decide))]
      show W p l e R s m args below meth c _ _ _ _ _ (F0 m 56 ls [.ref (qv ((p0).toNat))])
      refine lv_iload_n hC.1 hC.2.1 dX5_grow_56 rfl (lv_at hl 2 rfl) ?_
      refine x_ialdE (x := (V ((p0).toNat) ((p1).toNat))) hC hw (hRk_6.rv (show ((p0).toNat) < 3 from tn_lt (by omega) (by decide))) (by omega) (by omega) (by omega) dX5_grow_57 rfl ?_
      have hrv_9 := hRk_6.vr (show ((p0).toNat) < 3 from tn_lt (by omega) (by decide)) (show (p1).toNat < 100 from tn_lt (by omega) (by decide))
      have hpv_9 := hRk_6.vs (show ((p0).toNat) < 3 from tn_lt (by omega) (by decide)) (show (p1).toNat < 100 from tn_lt (by omega) (by decide))
      exact x_iret hC hw dX5_grow_58 (by first | decide | omega) (by first | decide | omega) ⟨(V ((p0).toNat) ((p1).toNat)), thk_2, rfl, ⟨by omega, by omega⟩, Or.inl ⟨by omega, ⟨⟨(by first | omega | trivial), (by first | omega | trivial)⟩, ⟨(by first | omega | trivial), (by first | omega | trivial)⟩⟩, (show _ = (gwN (V (p0).toNat (p1).toNat) p1) by simp only [gwN]; first | rfl | omega | ((repeat' split) <;> first | rfl | omega)), (MGm.mut (F := V ((p0).toNat)) (upB_self rfl).symm hRk_6 hK bl_rf he0k_6 (upV_self (show (V (p0).toNat (p1).toNat) = (gwN (V (p0).toNat (p1).toNat) p1) by simp only [gwN]; first | rfl | omega | ((repeat' split) <;> first | rfl | omega))).symm)⟩⟩
    · refine lv_iload_n hC.1 hC.2.1 dX5_grow_30 rfl (lv_at hl 2 rfl) ?_
      refine x_bipush hC dX5_grow_31 (by decide +kernel) ?_
      refine x_iremN hC (by omega) (by omega) (by omega) (by omega) dX5_grow_33 ?_
      refine x_if_eq (tgt := 50) hC ⟨by omega, by omega⟩ dX5_grow_34 (by decide) (fun c_10 => ?_) (fun c_10 => ?_)
      · refine lv_aload_n hC.1 hC.2.1 dX5_grow_50 rfl (lv_at hl 0 rfl) ?_
        refine x_get hC hw hRk_6.1.1 rfl hinX5 2 (by decide) (List.mem_cons_of_mem _ (List.mem_append_left _ (List.mem_append_left _ (List.mem_of_getElem? (i := 0) rfl)))) rfl dX5_grow_51 ?_
        refine lv_iload_n hC.1 hC.2.1 dX5_grow_54 rfl (lv_at hl 1 rfl) ?_
        refine x_ald4 hC hw hRk_6.1.2.1 (by omega) (by omega) (by omega) dX5_grow_55 ?_
        rw [hRk_6.fa' (show (p0).toNat < 3 from tn_lt (by omega) (by decide))]
        show W p l e R s m args below meth c _ _ _ _ _ (F0 m 56 ls [.ref (qv ((p0).toNat))])
        refine lv_iload_n hC.1 hC.2.1 dX5_grow_56 rfl (lv_at hl 2 rfl) ?_
        refine x_ialdE (x := (V ((p0).toNat) ((p1).toNat))) hC hw (hRk_6.rv (show ((p0).toNat) < 3 from tn_lt (by omega) (by decide))) (by omega) (by omega) (by omega) dX5_grow_57 rfl ?_
        have hrv_11 := hRk_6.vr (show ((p0).toNat) < 3 from tn_lt (by omega) (by decide)) (show (p1).toNat < 100 from tn_lt (by omega) (by decide))
        have hpv_11 := hRk_6.vs (show ((p0).toNat) < 3 from tn_lt (by omega) (by decide)) (show (p1).toNat < 100 from tn_lt (by omega) (by decide))
        exact x_iret hC hw dX5_grow_58 (by first | decide | omega) (by first | decide | omega) ⟨(V ((p0).toNat) ((p1).toNat)), thk_2, rfl, ⟨by omega, by omega⟩, Or.inl ⟨by omega, ⟨⟨(by first | omega | trivial), (by first | omega | trivial)⟩, ⟨(by first | omega | trivial), (by first | omega | trivial)⟩⟩, (show _ = (gwN (V (p0).toNat (p1).toNat) p1) by simp only [gwN]; first | rfl | omega | ((repeat' split) <;> first | rfl | omega)), (MGm.mut (F := V ((p0).toNat)) (upB_self rfl).symm hRk_6 hK bl_rf he0k_6 (upV_self (show (V (p0).toNat (p1).toNat) = (gwN (V (p0).toNat (p1).toNat) p1) by simp only [gwN]; first | rfl | omega | ((repeat' split) <;> first | rfl | omega))).symm)⟩⟩
      · refine lv_aload_n hC.1 hC.2.1 dX5_grow_37 rfl (lv_at hl 0 rfl) ?_
        refine lv_iload_n hC.1 hC.2.1 dX5_grow_38 rfl (lv_at hl 1 rfl) ?_
        refine lv_iload_n hC.1 hC.2.1 dX5_grow_39 rfl (lv_at hl 2 rfl) ?_
        refine x_const hC dX5_grow_40 ?_
        refine lv_iload_n hC.1 hC.2.1 dX5_grow_41 rfl (lv_at hl 2 rfl) ?_
        refine x_imul hC dX5_grow_42 ?_
        refine x_bipush hC dX5_grow_43 (by decide +kernel) ?_
        refine x_isub hC dX5_grow_45 ?_
        refine x_callV hC hw (lv_size hl) (c_X5_set l G hRk_6 (p0 := p0) (by first | assumption | omega) (p1 := p1) (by first | assumption | omega) (p2 := ((3 * p1) - 50)) (by omega) (by omega) (by omega) (by omega) (by intro q9; first | exact absurd rfl q9 | assumption | exact hpv_7 q9 | exact hpv_7 (by omega) | exact hSk (by omega))) gX5_grow_X5_set rfl dv_X5_set hRk_6.1.1 rfl rfl (Nat.le_of_ble_eq_true rfl) (by rw [hRf]; decide) (by rw [hRl]; decide) (by first | (rw [hRc]; decide) | omega) (by first | (rw [hRs]; decide) | omega) dX5_grow_46 (fun r9 M_12 H locs hq hw => ?_)
        obtain ⟨z_14, brk_13, Vk_13, rfl, hz_14a, hz_14v, hz_14b, he0k_13, he1k_13, hx5k_13, hRk_13⟩ := hq
        have hsck_13 := hRk_13.sc.1
        show W p l e R s m args below meth c H locs _ _ _ (F0 m 49 ls [.int (iN (z_14))])
        refine lv_pop hC.1 hC.2.1 dX5_grow_49 rfl ?_
        refine lv_aload_n hC.1 hC.2.1 dX5_grow_50 rfl (lv_at hl 0 rfl) ?_
        refine x_get hC hw hRk_13.1.1 rfl hinX5 2 (by decide) (List.mem_cons_of_mem _ (List.mem_append_left _ (List.mem_append_left _ (List.mem_of_getElem? (i := 0) rfl)))) rfl dX5_grow_51 ?_
        refine lv_iload_n hC.1 hC.2.1 dX5_grow_54 rfl (lv_at hl 1 rfl) ?_
        refine x_ald4 hC hw hRk_13.1.2.1 (by omega) (by omega) (by omega) dX5_grow_55 ?_
        rw [hRk_13.fa' (show (p0).toNat < 3 from tn_lt (by omega) (by decide))]
        show W p l e R s m args below meth c _ _ _ _ _ (F0 m 56 ls [.ref (qv ((p0).toNat))])
        refine lv_iload_n hC.1 hC.2.1 dX5_grow_56 rfl (lv_at hl 2 rfl) ?_
        refine x_ialdE (x := (Vk_13 ((p0).toNat) ((p1).toNat))) hC hw (hRk_13.rv (show ((p0).toNat) < 3 from tn_lt (by omega) (by decide))) (by omega) (by omega) (by omega) dX5_grow_57 rfl ?_
        have hrv_15 := hRk_13.vr (show ((p0).toNat) < 3 from tn_lt (by omega) (by decide)) (show (p1).toNat < 100 from tn_lt (by omega) (by decide))
        have hpv_15 := hRk_13.vs (show ((p0).toNat) < 3 from tn_lt (by omega) (by decide)) (show (p1).toNat < 100 from tn_lt (by omega) (by decide))
        exact x_iret hC hw dX5_grow_58 (by first | decide | omega) (by first | decide | omega) ⟨(Vk_13 ((p0).toNat) ((p1).toNat)), thk_2, rfl, ⟨by omega, by omega⟩, Or.inl ⟨by omega, ⟨⟨(by first | omega | trivial), (by first | omega | trivial)⟩, ⟨(by first | omega | trivial), (by first | omega | trivial)⟩⟩, (show _ = (gwN (V (p0).toNat (p1).toNat) p1) by have e9 := upB_upV he1k_13; simp only [gwN]; first | rfl | omega | ((repeat' split) <;> first | rfl | omega)), (MGm.mut he1k_13 hRk_13 hK (bl_one (by omega) he0k_13) he0k_6 (congrArg (upV (V (p0).toNat) (p1).toNat) (show ((3 * p1) - 50) = (gwN (V (p0).toNat (p1).toNat) p1) by simp only [gwN]; first | rfl | omega | ((repeat' split) <;> first | rfl | omega))))⟩⟩
  · replace hz_3r := (hz_3r.resolve_left (fun q9 => c_4 q9.1)).2
    refine x_const hC dX5_grow_9 ?_
    exact x_iret hC hw dX5_grow_10 (by first | decide | omega) (by first | decide | omega) ⟨0, thk_2, rfl, by omega, Or.inr ⟨by omega, by omega, MGm.of hRk_2 hK⟩⟩
set_option maxHeartbeats 4000000 in
set_option maxRecDepth 100000 in
theorem c_X5_halve (l : Launch) (G : xG) {M : HM} {a va oa wa ya : Nat} {wk : Option Nat} {th : Int} {rfd : Int32} {br re la ha : Int} {kp kv : Int32} {qv qw : Nat → Nat} {fa fb : Nat → Option Nat} {V : BW} {O : OW} {fy : Nat → Option Nat} {Wv : VW} {wt : Option VT} {S : Nat → Bool} (hR : MGx G M a va oa wa ya wk th rfd br re la ha kp kv qv qw fa fb V O fy Wv wt S) {K : WA} (hK : abM O wt br re la ha K) {p0 : Int} (hp0 : -2147483648 ≤ p0 ∧ p0 ≤ 2147483647) {p1 : Int} (hp1 : -2147483648 ≤ p1 ∧ p1 ≤ 2147483647) : xMet l G yX5_halve wsX5_halve 3 66 0 0 [.ref a, .int (iN (p0)), .int (iN (p1))] M (fun r M1 => ∃ (z th1 : Int), r = some (.int (iN z)) ∧ (-2147483648 ≤ z ∧ z ≤ 2147483647) ∧ ((th1 = 0 ∧ ((0 ≤ p0 ∧ p0 ≤ 2) ∧ (0 ≤ p1 ∧ p1 ≤ 99)) ∧ z = A_halve (O, V, Wv, K, kp, kv, rfd) p0 p1 ∧ MGm G M1 a S th1 (S_halve (O, V, Wv, K, kp, kv, rfd) p0 p1)) ∨ (th1 ≠ 0 ∧ ((th1 = 1 ∧ ¬ (0 ≤ p0 ∧ p0 ≤ 2)) ∨ (th1 = 2 ∧ (0 ≤ p0 ∧ p0 ≤ 2) ∧ ¬ (0 ≤ p1 ∧ p1 ≤ 99))) ∧ MGm G M1 a S th1 (O, V, Wv, K, kp, kv, rfd)))) := by
  refine x_intro (cc := cX5_halve) (maxL := 4) (ret := (some .int)) (by exact pln_RX5) rfl (Nat.le_of_ble_eq_true rfl) ?_
  intro p e R s m args below meth c ls hRf hRc hRs hRl hC hw hl
  have hsc0 := hR.sc.1
  have hinX5 : ∀ w ∈ wsX50, w ∈ wsX5_halve := fun w h => (List.mem_cons_of_mem _ (List.mem_append_right _ h))
  have hl : lv_has ls 4 [(0, .ref a), (1, .int (iN (p0))), (2, .int (iN (p1)))] := hl
  refine lv_aload_n hC.1 hC.2.1 dX5_halve_0 rfl (lv_at hl 0 rfl) ?_
  refine lv_iload_n hC.1 hC.2.1 dX5_halve_1 rfl (lv_at hl 1 rfl) ?_
  refine lv_iload_n hC.1 hC.2.1 dX5_halve_2 rfl (lv_at hl 2 rfl) ?_
  refine x_callV hC hw (lv_size hl) (c_X5_isBad l G hR (p0 := p0) (by first | assumption | omega) (p1 := p1) (by first | assumption | omega)) gX5_halve_X5_isBad rfl dv_X5_isBad hR.1.1 rfl rfl (Nat.le_of_ble_eq_true rfl) (by rw [hRf]; decide) (by rw [hRl]; decide) (by first | (rw [hRc]; decide) | omega) (by first | (rw [hRs]; decide) | omega) dX5_halve_3 (fun r9 M_1 H locs hq hw => ?_)
  obtain ⟨z_3, thk_2, rfl, hz_3r, hx5k_2, hRk_2⟩ := hq
  have hsck_2 := hRk_2.sc.1
  show W p l e R s m args below meth c H locs _ _ _ (F0 m 6 ls [.int (iN (z_3))])
  refine x_if_eq (tgt := 11) hC ⟨by omega, by omega⟩ dX5_halve_6 (by decide) (fun c_4 => ?_) (fun c_4 => ?_)
  · replace hz_3r := (hz_3r.resolve_right (fun q9 => absurd (q9.1.symm.trans c_4) (by decide))).2
    refine lv_aload_n hC.1 hC.2.1 dX5_halve_11 rfl (lv_at hl 0 rfl) ?_
    refine lv_iload_n hC.1 hC.2.1 dX5_halve_12 rfl (lv_at hl 1 rfl) ?_
    refine x_callV hC hw (lv_size hl) (c_X5_touch l G hRk_2 (p0 := p0) (by first | assumption | omega) (by omega)) gX5_halve_X5_touch rfl dv_X5_touch hRk_2.1.1 rfl rfl (Nat.le_of_ble_eq_true rfl) (by rw [hRf]; decide) (by rw [hRl]; decide) (by first | (rw [hRc]; decide) | omega) (by first | (rw [hRs]; decide) | omega) dX5_halve_13 (fun r9 M_5 H locs hq hw => ?_)
    obtain ⟨hak_6, rfl, he0k_6, hx5k_6, hRk_6⟩ := hq
    have hsck_6 := hRk_6.sc.1
    show W p l e R s m args below meth c H locs _ _ _ (F0 m 16 ls [])
    refine lv_aload_n hC.1 hC.2.1 dX5_halve_16 rfl (lv_at hl 0 rfl) ?_
    refine x_get hC hw hRk_6.1.1 rfl hinX5 2 (by decide) (List.mem_cons_of_mem _ (List.mem_append_left _ (List.mem_append_left _ (List.mem_of_getElem? (i := 0) rfl)))) rfl dX5_halve_17 ?_
    refine lv_iload_n hC.1 hC.2.1 dX5_halve_20 rfl (lv_at hl 1 rfl) ?_
    refine x_ald4 hC hw hRk_6.1.2.1 (by omega) (by omega) (by omega) dX5_halve_21 ?_
    rw [hRk_6.fa' (show (p0).toNat < 3 from tn_lt (by omega) (by decide))]
    show W p l e R s m args below meth c _ _ _ _ _ (F0 m 22 ls [.ref (qv ((p0).toNat))])
    refine lv_iload_n hC.1 hC.2.1 dX5_halve_22 rfl (lv_at hl 2 rfl) ?_
    refine x_ialdE (x := (V ((p0).toNat) ((p1).toNat))) hC hw (hRk_6.rv (show ((p0).toNat) < 3 from tn_lt (by omega) (by decide))) (by omega) (by omega) (by omega) dX5_halve_23 rfl ?_
    have hrv_7 := hRk_6.vr (show ((p0).toNat) < 3 from tn_lt (by omega) (by decide)) (show (p1).toNat < 100 from tn_lt (by omega) (by decide))
    have hpv_7 := hRk_6.vs (show ((p0).toNat) < 3 from tn_lt (by omega) (by decide)) (show (p1).toNat < 100 from tn_lt (by omega) (by decide))
    refine lv_istore_n (lv' := [(3, .int (iN ((V ((p0).toNat) ((p1).toNat))))), (0, .ref a), (1, .int (iN (p0))), (2, .int (iN (p1)))]) hC.1 hC.2.1 dX5_halve_24 rfl hl (by decide) rfl (fun ls hl => ?_)
    refine lv_iload_n hC.1 hC.2.1 dX5_halve_25 rfl (lv_at hl 0 rfl) ?_
    refine x_sipush hC dX5_halve_26 (by decide +kernel) ?_
    refine x_icmp_eq (tgt := 54) hC ⟨by omega, by omega⟩ ⟨by omega, by omega⟩ dX5_halve_29 (by decide) (fun c_8 => ?_) (fun c_8 => ?_)
    · refine lv_aload_n hC.1 hC.2.1 dX5_halve_54 rfl (lv_at hl 1 rfl) ?_
      refine x_get hC hw hRk_6.1.1 rfl hinX5 2 (by decide) (List.mem_cons_of_mem _ (List.mem_append_left _ (List.mem_append_left _ (List.mem_of_getElem? (i := 0) rfl)))) rfl dX5_halve_55 ?_
      refine lv_iload_n hC.1 hC.2.1 dX5_halve_58 rfl (lv_at hl 2 rfl) ?_
      refine x_ald4 hC hw hRk_6.1.2.1 (by omega) (by omega) (by omega) dX5_halve_59 ?_
      rw [hRk_6.fa' (show (p0).toNat < 3 from tn_lt (by omega) (by decide))]
      show W p l e R s m args below meth c _ _ _ _ _ (F0 m 60 ls [.ref (qv ((p0).toNat))])
      refine lv_iload_n hC.1 hC.2.1 dX5_halve_60 rfl (lv_at hl 3 rfl) ?_
      refine x_ialdE (x := (V ((p0).toNat) ((p1).toNat))) hC hw (hRk_6.rv (show ((p0).toNat) < 3 from tn_lt (by omega) (by decide))) (by omega) (by omega) (by omega) dX5_halve_61 rfl ?_
      have hrv_9 := hRk_6.vr (show ((p0).toNat) < 3 from tn_lt (by omega) (by decide)) (show (p1).toNat < 100 from tn_lt (by omega) (by decide))
      have hpv_9 := hRk_6.vs (show ((p0).toNat) < 3 from tn_lt (by omega) (by decide)) (show (p1).toNat < 100 from tn_lt (by omega) (by decide))
      exact x_iret hC hw dX5_halve_62 (by first | decide | omega) (by first | decide | omega) ⟨(V ((p0).toNat) ((p1).toNat)), thk_2, rfl, ⟨by omega, by omega⟩, Or.inl ⟨by omega, ⟨⟨(by first | omega | trivial), (by first | omega | trivial)⟩, ⟨(by first | omega | trivial), (by first | omega | trivial)⟩⟩, (show _ = (hvN (V (p0).toNat (p1).toNat)) by simp only [hvN]; (try rw [← htd9]); first | rfl | omega | ((repeat' split) <;> first | rfl | omega)), (MGm.mut (F := V ((p0).toNat)) (upB_self rfl).symm hRk_6 hK bl_rf he0k_6 (upV_self (show (V (p0).toNat (p1).toNat) = (hvN (V (p0).toNat (p1).toNat)) by simp only [hvN]; (try rw [← htd9]); first | rfl | omega | ((repeat' split) <;> first | rfl | omega))).symm)⟩⟩
    · refine lv_aload_n hC.1 hC.2.1 dX5_halve_32 rfl (lv_at hl 1 rfl) ?_
      refine lv_iload_n hC.1 hC.2.1 dX5_halve_33 rfl (lv_at hl 2 rfl) ?_
      refine lv_iload_n hC.1 hC.2.1 dX5_halve_34 rfl (lv_at hl 3 rfl) ?_
      refine lv_iload_n hC.1 hC.2.1 dX5_halve_35 rfl (lv_at hl 0 rfl) ?_
      refine x_const hC dX5_halve_36 ?_
      refine x_idiv hC ⟨by omega, by omega⟩ ⟨by omega, by omega⟩ (by omega) (by omega) dX5_halve_37 ?_
      obtain ⟨z_10, hz_10⟩ : ∃ z : Int, z = (V ((p0).toNat) ((p1).toNat)).tdiv 2 := ⟨_, rfl⟩
      rw [← hz_10]
      have hrz_10 : -2147483648 ≤ z_10 ∧ z_10 ≤ 2147483647 := by rw [hz_10]; exact x_tdiv_rng ⟨by omega, by omega⟩ ⟨by omega, by omega⟩
      have hdz_10 := x_tdb hz_10
      have htd9 := hz_10
      refine x_if_ne (tgt := 47) hC ⟨by omega, by omega⟩ dX5_halve_38 (by decide) (fun c_11 => ?_) (fun c_11 => ?_)
      · refine lv_iload_n hC.1 hC.2.1 dX5_halve_47 rfl (lv_at hl 0 rfl) ?_
        refine x_const hC dX5_halve_48 ?_
        refine x_idiv hC ⟨by omega, by omega⟩ ⟨by omega, by omega⟩ (by omega) (by omega) dX5_halve_49 ?_
        obtain ⟨z_12, hz_12⟩ : ∃ z : Int, z = (V ((p0).toNat) ((p1).toNat)).tdiv 2 := ⟨_, rfl⟩
        rw [← hz_12]
        have hrz_12 : -2147483648 ≤ z_12 ∧ z_12 ≤ 2147483647 := by rw [hz_12]; exact x_tdiv_rng ⟨by omega, by omega⟩ ⟨by omega, by omega⟩
        have hdz_12 := x_tdb hz_12
        rw [← htd9] at hz_12
        refine x_callV hC hw (lv_size hl) (c_X5_set l G hRk_6 (p0 := p0) (by first | assumption | omega) (p1 := p1) (by first | assumption | omega) (p2 := z_12) (by omega) (by omega) (by omega) (by omega) (by intro q9; first | exact absurd rfl q9 | assumption | exact hpv_7 q9 | exact hpv_7 (by omega))) gX5_halve_X5_set rfl dv_X5_set hRk_6.1.1 rfl rfl (Nat.le_of_ble_eq_true rfl) (by rw [hRf]; decide) (by rw [hRl]; decide) (by first | (rw [hRc]; decide) | omega) (by first | (rw [hRs]; decide) | omega) dX5_halve_50 (fun r9 M_13 H locs hq hw => ?_)
        obtain ⟨z_15, brk_14, Vk_14, rfl, hz_15a, hz_15v, hz_15b, he0k_14, he1k_14, hx5k_14, hRk_14⟩ := hq
        have hsck_14 := hRk_14.sc.1
        show W p l e R s m args below meth c H locs _ _ _ (F0 m 53 ls [.int (iN (z_15))])
        refine lv_pop hC.1 hC.2.1 dX5_halve_53 rfl ?_
        refine lv_aload_n hC.1 hC.2.1 dX5_halve_54 rfl (lv_at hl 1 rfl) ?_
        refine x_get hC hw hRk_14.1.1 rfl hinX5 2 (by decide) (List.mem_cons_of_mem _ (List.mem_append_left _ (List.mem_append_left _ (List.mem_of_getElem? (i := 0) rfl)))) rfl dX5_halve_55 ?_
        refine lv_iload_n hC.1 hC.2.1 dX5_halve_58 rfl (lv_at hl 2 rfl) ?_
        refine x_ald4 hC hw hRk_14.1.2.1 (by omega) (by omega) (by omega) dX5_halve_59 ?_
        rw [hRk_14.fa' (show (p0).toNat < 3 from tn_lt (by omega) (by decide))]
        show W p l e R s m args below meth c _ _ _ _ _ (F0 m 60 ls [.ref (qv ((p0).toNat))])
        refine lv_iload_n hC.1 hC.2.1 dX5_halve_60 rfl (lv_at hl 3 rfl) ?_
        refine x_ialdE (x := (Vk_14 ((p0).toNat) ((p1).toNat))) hC hw (hRk_14.rv (show ((p0).toNat) < 3 from tn_lt (by omega) (by decide))) (by omega) (by omega) (by omega) dX5_halve_61 rfl ?_
        have hrv_16 := hRk_14.vr (show ((p0).toNat) < 3 from tn_lt (by omega) (by decide)) (show (p1).toNat < 100 from tn_lt (by omega) (by decide))
        have hpv_16 := hRk_14.vs (show ((p0).toNat) < 3 from tn_lt (by omega) (by decide)) (show (p1).toNat < 100 from tn_lt (by omega) (by decide))
        exact x_iret hC hw dX5_halve_62 (by first | decide | omega) (by first | decide | omega) ⟨(Vk_14 ((p0).toNat) ((p1).toNat)), thk_2, rfl, ⟨by omega, by omega⟩, Or.inl ⟨by omega, ⟨⟨(by first | omega | trivial), (by first | omega | trivial)⟩, ⟨(by first | omega | trivial), (by first | omega | trivial)⟩⟩, (show _ = (hvN (V (p0).toNat (p1).toNat)) by have e9 := upB_upV he1k_14; simp only [hvN]; (try rw [← htd9]); first | rfl | omega | ((repeat' split) <;> first | rfl | omega)), (MGm.mut he1k_14 hRk_14 hK (bl_one (by omega) he0k_14) he0k_6 (congrArg (upV (V (p0).toNat) (p1).toNat) (show z_12 = (hvN (V (p0).toNat (p1).toNat)) by simp only [hvN]; (try rw [← htd9]); first | rfl | omega | ((repeat' split) <;> first | rfl | omega))))⟩⟩
      · refine x_sipush hC dX5_halve_41 (by decide +kernel) ?_
        refine lv_goto (tgt := 50) hC.1 hC.2.1 dX5_halve_44 (by decide) ?_
        refine x_callV hC hw (lv_size hl) (c_X5_set l G hRk_6 (p0 := p0) (by first | assumption | omega) (p1 := p1) (by first | assumption | omega) (p2 := (-10000)) (by omega) (by omega) (by omega) (by omega) (fun q9 => absurd rfl q9)) gX5_halve_X5_set rfl dv_X5_set hRk_6.1.1 rfl rfl (Nat.le_of_ble_eq_true rfl) (by rw [hRf]; decide) (by rw [hRl]; decide) (by first | (rw [hRc]; decide) | omega) (by first | (rw [hRs]; decide) | omega) dX5_halve_50 (fun r9 M_17 H locs hq hw => ?_)
        obtain ⟨z_19, brk_18, Vk_18, rfl, hz_19a, hz_19v, hz_19b, he0k_18, he1k_18, hx5k_18, hRk_18⟩ := hq
        have hsck_18 := hRk_18.sc.1
        show W p l e R s m args below meth c H locs _ _ _ (F0 m 53 ls [.int (iN (z_19))])
        refine lv_pop hC.1 hC.2.1 dX5_halve_53 rfl ?_
        refine lv_aload_n hC.1 hC.2.1 dX5_halve_54 rfl (lv_at hl 1 rfl) ?_
        refine x_get hC hw hRk_18.1.1 rfl hinX5 2 (by decide) (List.mem_cons_of_mem _ (List.mem_append_left _ (List.mem_append_left _ (List.mem_of_getElem? (i := 0) rfl)))) rfl dX5_halve_55 ?_
        refine lv_iload_n hC.1 hC.2.1 dX5_halve_58 rfl (lv_at hl 2 rfl) ?_
        refine x_ald4 hC hw hRk_18.1.2.1 (by omega) (by omega) (by omega) dX5_halve_59 ?_
        rw [hRk_18.fa' (show (p0).toNat < 3 from tn_lt (by omega) (by decide))]
        show W p l e R s m args below meth c _ _ _ _ _ (F0 m 60 ls [.ref (qv ((p0).toNat))])
        refine lv_iload_n hC.1 hC.2.1 dX5_halve_60 rfl (lv_at hl 3 rfl) ?_
        refine x_ialdE (x := (Vk_18 ((p0).toNat) ((p1).toNat))) hC hw (hRk_18.rv (show ((p0).toNat) < 3 from tn_lt (by omega) (by decide))) (by omega) (by omega) (by omega) dX5_halve_61 rfl ?_
        have hrv_20 := hRk_18.vr (show ((p0).toNat) < 3 from tn_lt (by omega) (by decide)) (show (p1).toNat < 100 from tn_lt (by omega) (by decide))
        have hpv_20 := hRk_18.vs (show ((p0).toNat) < 3 from tn_lt (by omega) (by decide)) (show (p1).toNat < 100 from tn_lt (by omega) (by decide))
        exact x_iret hC hw dX5_halve_62 (by first | decide | omega) (by first | decide | omega) ⟨(Vk_18 ((p0).toNat) ((p1).toNat)), thk_2, rfl, ⟨by omega, by omega⟩, Or.inl ⟨by omega, ⟨⟨(by first | omega | trivial), (by first | omega | trivial)⟩, ⟨(by first | omega | trivial), (by first | omega | trivial)⟩⟩, (show _ = (hvN (V (p0).toNat (p1).toNat)) by have e9 := upB_upV he1k_18; simp only [hvN]; (try rw [← htd9]); first | rfl | omega | ((repeat' split) <;> first | rfl | omega)), (MGm.mut he1k_18 hRk_18 hK (bl_one (by omega) he0k_18) he0k_6 (congrArg (upV (V (p0).toNat) (p1).toNat) (show (-10000) = (hvN (V (p0).toNat (p1).toNat)) by simp only [hvN]; (try rw [← htd9]); first | rfl | omega | ((repeat' split) <;> first | rfl | omega))))⟩⟩
  · replace hz_3r := (hz_3r.resolve_left (fun q9 => c_4 q9.1)).2
    refine x_const hC dX5_halve_9 ?_
    exact x_iret hC hw dX5_halve_10 (by first | decide | omega) (by first | decide | omega) ⟨0, thk_2, rfl, by omega, Or.inr ⟨by omega, by omega, MGm.of hRk_2 hK⟩⟩
set_option maxHeartbeats 4000000 in
set_option maxRecDepth 100000 in
theorem c_X5_twice (l : Launch) (G : xG) {M : HM} {a va oa wa ya : Nat} {wk : Option Nat} {th : Int} {rfd : Int32} {br re la ha : Int} {kp kv : Int32} {qv qw : Nat → Nat} {fa fb : Nat → Option Nat} {V : BW} {O : OW} {fy : Nat → Option Nat} {Wv : VW} {wt : Option VT} {S : Nat → Bool} (hR : MGx G M a va oa wa ya wk th rfd br re la ha kp kv qv qw fa fb V O fy Wv wt S) {K : WA} (hK : abM O wt br re la ha K) {p0 : Int} (hp0 : -2147483648 ≤ p0 ∧ p0 ≤ 2147483647) {p1 : Int} (hp1 : -2147483648 ≤ p1 ∧ p1 ≤ 2147483647) (hSk : 0 ≤ p1 ∧ p1 ≤ 99 → S p1.toNat = true) : xMet l G yX5_twice wsX5_twice 3 66 0 0 [.ref a, .int (iN (p0)), .int (iN (p1))] M (fun r M1 => ∃ (z th1 : Int), r = some (.int (iN z)) ∧ (-2147483648 ≤ z ∧ z ≤ 2147483647) ∧ ((th1 = 0 ∧ ((0 ≤ p0 ∧ p0 ≤ 2) ∧ (0 ≤ p1 ∧ p1 ≤ 99)) ∧ z = A_twice (O, V, Wv, K, kp, kv, rfd) p0 p1 ∧ MGm G M1 a S th1 (S_twice (O, V, Wv, K, kp, kv, rfd) p0 p1)) ∨ (th1 ≠ 0 ∧ ((th1 = 1 ∧ ¬ (0 ≤ p0 ∧ p0 ≤ 2)) ∨ (th1 = 2 ∧ (0 ≤ p0 ∧ p0 ≤ 2) ∧ ¬ (0 ≤ p1 ∧ p1 ≤ 99))) ∧ MGm G M1 a S th1 (O, V, Wv, K, kp, kv, rfd)))) := by
  refine x_intro (cc := cX5_twice) (maxL := 4) (ret := (some .int)) (by exact pln_RX5) rfl (Nat.le_of_ble_eq_true rfl) ?_
  intro p e R s m args below meth c ls hRf hRc hRs hRl hC hw hl
  have hsc0 := hR.sc.1
  have hinX5 : ∀ w ∈ wsX50, w ∈ wsX5_twice := fun w h => (List.mem_cons_of_mem _ (List.mem_append_right _ h))
  have hl : lv_has ls 4 [(0, .ref a), (1, .int (iN (p0))), (2, .int (iN (p1)))] := hl
  refine lv_aload_n hC.1 hC.2.1 dX5_twice_0 rfl (lv_at hl 0 rfl) ?_
  refine lv_iload_n hC.1 hC.2.1 dX5_twice_1 rfl (lv_at hl 1 rfl) ?_
  refine lv_iload_n hC.1 hC.2.1 dX5_twice_2 rfl (lv_at hl 2 rfl) ?_
  refine x_callV hC hw (lv_size hl) (c_X5_isBad l G hR (p0 := p0) (by first | assumption | omega) (p1 := p1) (by first | assumption | omega)) gX5_twice_X5_isBad rfl dv_X5_isBad hR.1.1 rfl rfl (Nat.le_of_ble_eq_true rfl) (by rw [hRf]; decide) (by rw [hRl]; decide) (by first | (rw [hRc]; decide) | omega) (by first | (rw [hRs]; decide) | omega) dX5_twice_3 (fun r9 M_1 H locs hq hw => ?_)
  obtain ⟨z_3, thk_2, rfl, hz_3r, hx5k_2, hRk_2⟩ := hq
  have hsck_2 := hRk_2.sc.1
  show W p l e R s m args below meth c H locs _ _ _ (F0 m 6 ls [.int (iN (z_3))])
  refine x_if_eq (tgt := 11) hC ⟨by omega, by omega⟩ dX5_twice_6 (by decide) (fun c_4 => ?_) (fun c_4 => ?_)
  · replace hz_3r := (hz_3r.resolve_right (fun q9 => absurd (q9.1.symm.trans c_4) (by decide))).2
    refine lv_aload_n hC.1 hC.2.1 dX5_twice_11 rfl (lv_at hl 0 rfl) ?_
    refine lv_iload_n hC.1 hC.2.1 dX5_twice_12 rfl (lv_at hl 1 rfl) ?_
    refine x_callV hC hw (lv_size hl) (c_X5_touch l G hRk_2 (p0 := p0) (by first | assumption | omega) (by omega)) gX5_twice_X5_touch rfl dv_X5_touch hRk_2.1.1 rfl rfl (Nat.le_of_ble_eq_true rfl) (by rw [hRf]; decide) (by rw [hRl]; decide) (by first | (rw [hRc]; decide) | omega) (by first | (rw [hRs]; decide) | omega) dX5_twice_13 (fun r9 M_5 H locs hq hw => ?_)
    obtain ⟨hak_6, rfl, he0k_6, hx5k_6, hRk_6⟩ := hq
    have hsck_6 := hRk_6.sc.1
    show W p l e R s m args below meth c H locs _ _ _ (F0 m 16 ls [])
    refine lv_aload_n hC.1 hC.2.1 dX5_twice_16 rfl (lv_at hl 0 rfl) ?_
    refine x_get hC hw hRk_6.1.1 rfl hinX5 2 (by decide) (List.mem_cons_of_mem _ (List.mem_append_left _ (List.mem_append_left _ (List.mem_of_getElem? (i := 0) rfl)))) rfl dX5_twice_17 ?_
    refine lv_iload_n hC.1 hC.2.1 dX5_twice_20 rfl (lv_at hl 1 rfl) ?_
    refine x_ald4 hC hw hRk_6.1.2.1 (by omega) (by omega) (by omega) dX5_twice_21 ?_
    rw [hRk_6.fa' (show (p0).toNat < 3 from tn_lt (by omega) (by decide))]
    show W p l e R s m args below meth c _ _ _ _ _ (F0 m 22 ls [.ref (qv ((p0).toNat))])
    refine lv_iload_n hC.1 hC.2.1 dX5_twice_22 rfl (lv_at hl 2 rfl) ?_
    refine x_ialdE (x := (V ((p0).toNat) ((p1).toNat))) hC hw (hRk_6.rv (show ((p0).toNat) < 3 from tn_lt (by omega) (by decide))) (by omega) (by omega) (by omega) dX5_twice_23 rfl ?_
    have hrv_7 := hRk_6.vr (show ((p0).toNat) < 3 from tn_lt (by omega) (by decide)) (show (p1).toNat < 100 from tn_lt (by omega) (by decide))
    have hpv_7 := hRk_6.vs (show ((p0).toNat) < 3 from tn_lt (by omega) (by decide)) (show (p1).toNat < 100 from tn_lt (by omega) (by decide))
    refine lv_istore_n (lv' := [(3, .int (iN ((V ((p0).toNat) ((p1).toNat))))), (0, .ref a), (1, .int (iN (p0))), (2, .int (iN (p1)))]) hC.1 hC.2.1 dX5_twice_24 rfl hl (by decide) rfl (fun ls hl => ?_)
    refine lv_aload_n hC.1 hC.2.1 dX5_twice_25 rfl (lv_at hl 1 rfl) ?_
    refine lv_iload_n hC.1 hC.2.1 dX5_twice_26 rfl (lv_at hl 2 rfl) ?_
    refine lv_iload_n hC.1 hC.2.1 dX5_twice_27 rfl (lv_at hl 3 rfl) ?_
    refine lv_iload_n hC.1 hC.2.1 dX5_twice_28 rfl (lv_at hl 0 rfl) ?_
    refine x_sipush hC dX5_twice_29 (by decide +kernel) ?_
    refine x_icmp_ne (tgt := 39) hC ⟨by omega, by omega⟩ ⟨by omega, by omega⟩ dX5_twice_32 (by decide) (fun c_8 => ?_) (fun c_8 => ?_)
    · refine lv_iload_n hC.1 hC.2.1 dX5_twice_39 rfl (lv_at hl 0 rfl) ?_
      refine x_sipush hC dX5_twice_40 (by decide +kernel) ?_
      refine x_sipush hC dX5_twice_43 (by decide +kernel) ?_
      refine x_callS hC hw (lv_size hl) (c_X5_isIn l G (M := M_5) (p0 := (V ((p0).toNat) ((p1).toNat))) (by omega) (p1 := (-500)) (by omega) (p2 := 500) (by omega)) gX5_twice_X5_isIn rfl dv_X5_isIn_s rfl (Nat.le_of_ble_eq_true rfl) (by rw [hRf]; decide) (by rw [hRl]; decide) (by first | (rw [hRc]; decide) | omega) (by first | (rw [hRs]; decide) | omega) dX5_twice_46 (fun r9 M_9 H locs hq hw => ?_)
      obtain ⟨z_10, rfl, hM9, hz_10a, hz_10b, hz_10c⟩ := hq
      rw [hM9] at hw
      show W p l e R s m args below meth c H locs _ _ _ (F0 m 49 ls [.int (iN (z_10)), .int (iN (p1)), .int (iN (p0)), .ref a])
      refine x_if_eq (tgt := 58) hC ⟨by omega, by omega⟩ dX5_twice_49 (by decide) (fun c_11 => ?_) (fun c_11 => ?_)
      · refine x_sipush hC dX5_twice_58 (by decide +kernel) ?_
        refine x_callV hC hw (lv_size hl) (c_X5_set l G hRk_6 (p0 := p0) (by first | assumption | omega) (p1 := p1) (by first | assumption | omega) (p2 := (-10000)) (by omega) (by omega) (by omega) (by omega) (fun q9 => absurd rfl q9)) gX5_twice_X5_set rfl dv_X5_set hRk_6.1.1 rfl rfl (Nat.le_of_ble_eq_true rfl) (by rw [hRf]; decide) (by rw [hRl]; decide) (by first | (rw [hRc]; decide) | omega) (by first | (rw [hRs]; decide) | omega) dX5_twice_61 (fun r9 M_12 H locs hq hw => ?_)
        obtain ⟨z_14, brk_13, Vk_13, rfl, hz_14a, hz_14v, hz_14b, he0k_13, he1k_13, hx5k_13, hRk_13⟩ := hq
        have hsck_13 := hRk_13.sc.1
        show W p l e R s m args below meth c H locs _ _ _ (F0 m 64 ls [.int (iN (z_14))])
        refine lv_pop hC.1 hC.2.1 dX5_twice_64 rfl ?_
        refine lv_aload_n hC.1 hC.2.1 dX5_twice_65 rfl (lv_at hl 1 rfl) ?_
        refine x_get hC hw hRk_13.1.1 rfl hinX5 2 (by decide) (List.mem_cons_of_mem _ (List.mem_append_left _ (List.mem_append_left _ (List.mem_of_getElem? (i := 0) rfl)))) rfl dX5_twice_66 ?_
        refine lv_iload_n hC.1 hC.2.1 dX5_twice_69 rfl (lv_at hl 2 rfl) ?_
        refine x_ald4 hC hw hRk_13.1.2.1 (by omega) (by omega) (by omega) dX5_twice_70 ?_
        rw [hRk_13.fa' (show (p0).toNat < 3 from tn_lt (by omega) (by decide))]
        show W p l e R s m args below meth c _ _ _ _ _ (F0 m 71 ls [.ref (qv ((p0).toNat))])
        refine lv_iload_n hC.1 hC.2.1 dX5_twice_71 rfl (lv_at hl 3 rfl) ?_
        refine x_ialdE (x := (Vk_13 ((p0).toNat) ((p1).toNat))) hC hw (hRk_13.rv (show ((p0).toNat) < 3 from tn_lt (by omega) (by decide))) (by omega) (by omega) (by omega) dX5_twice_72 rfl ?_
        have hrv_15 := hRk_13.vr (show ((p0).toNat) < 3 from tn_lt (by omega) (by decide)) (show (p1).toNat < 100 from tn_lt (by omega) (by decide))
        have hpv_15 := hRk_13.vs (show ((p0).toNat) < 3 from tn_lt (by omega) (by decide)) (show (p1).toNat < 100 from tn_lt (by omega) (by decide))
        exact x_iret hC hw dX5_twice_73 (by first | decide | omega) (by first | decide | omega) ⟨(Vk_13 ((p0).toNat) ((p1).toNat)), thk_2, rfl, ⟨by omega, by omega⟩, Or.inl ⟨by omega, ⟨⟨(by first | omega | trivial), (by first | omega | trivial)⟩, ⟨(by first | omega | trivial), (by first | omega | trivial)⟩⟩, (show _ = (twN (V (p0).toNat (p1).toNat) p1) by have e9 := upB_upV he1k_13; simp only [twN]; first | rfl | omega | ((repeat' split) <;> first | rfl | omega)), (MGm.mut he1k_13 hRk_13 hK (bl_one (by omega) he0k_13) he0k_6 (congrArg (upV (V (p0).toNat) (p1).toNat) (show (-10000) = (twN (V (p0).toNat (p1).toNat) p1) by simp only [twN]; first | rfl | omega | ((repeat' split) <;> first | rfl | omega))))⟩⟩
      · refine x_const hC dX5_twice_52 ?_
        refine lv_iload_n hC.1 hC.2.1 dX5_twice_53 rfl (lv_at hl 0 rfl) ?_
        refine x_imul hC dX5_twice_54 ?_
        refine lv_goto (tgt := 61) hC.1 hC.2.1 dX5_twice_55 (by decide) ?_
        refine x_callV hC hw (lv_size hl) (c_X5_set l G hRk_6 (p0 := p0) (by first | assumption | omega) (p1 := p1) (by first | assumption | omega) (p2 := (2 * (V ((p0).toNat) ((p1).toNat)))) (by omega) (by omega) (by omega) (by omega) (by intro q9; first | exact absurd rfl q9 | assumption | exact hpv_7 q9 | exact hpv_7 (by omega) | exact hSk (by omega))) gX5_twice_X5_set rfl dv_X5_set hRk_6.1.1 rfl rfl (Nat.le_of_ble_eq_true rfl) (by rw [hRf]; decide) (by rw [hRl]; decide) (by first | (rw [hRc]; decide) | omega) (by first | (rw [hRs]; decide) | omega) dX5_twice_61 (fun r9 M_16 H locs hq hw => ?_)
        obtain ⟨z_18, brk_17, Vk_17, rfl, hz_18a, hz_18v, hz_18b, he0k_17, he1k_17, hx5k_17, hRk_17⟩ := hq
        have hsck_17 := hRk_17.sc.1
        show W p l e R s m args below meth c H locs _ _ _ (F0 m 64 ls [.int (iN (z_18))])
        refine lv_pop hC.1 hC.2.1 dX5_twice_64 rfl ?_
        refine lv_aload_n hC.1 hC.2.1 dX5_twice_65 rfl (lv_at hl 1 rfl) ?_
        refine x_get hC hw hRk_17.1.1 rfl hinX5 2 (by decide) (List.mem_cons_of_mem _ (List.mem_append_left _ (List.mem_append_left _ (List.mem_of_getElem? (i := 0) rfl)))) rfl dX5_twice_66 ?_
        refine lv_iload_n hC.1 hC.2.1 dX5_twice_69 rfl (lv_at hl 2 rfl) ?_
        refine x_ald4 hC hw hRk_17.1.2.1 (by omega) (by omega) (by omega) dX5_twice_70 ?_
        rw [hRk_17.fa' (show (p0).toNat < 3 from tn_lt (by omega) (by decide))]
        show W p l e R s m args below meth c _ _ _ _ _ (F0 m 71 ls [.ref (qv ((p0).toNat))])
        refine lv_iload_n hC.1 hC.2.1 dX5_twice_71 rfl (lv_at hl 3 rfl) ?_
        refine x_ialdE (x := (Vk_17 ((p0).toNat) ((p1).toNat))) hC hw (hRk_17.rv (show ((p0).toNat) < 3 from tn_lt (by omega) (by decide))) (by omega) (by omega) (by omega) dX5_twice_72 rfl ?_
        have hrv_19 := hRk_17.vr (show ((p0).toNat) < 3 from tn_lt (by omega) (by decide)) (show (p1).toNat < 100 from tn_lt (by omega) (by decide))
        have hpv_19 := hRk_17.vs (show ((p0).toNat) < 3 from tn_lt (by omega) (by decide)) (show (p1).toNat < 100 from tn_lt (by omega) (by decide))
        exact x_iret hC hw dX5_twice_73 (by first | decide | omega) (by first | decide | omega) ⟨(Vk_17 ((p0).toNat) ((p1).toNat)), thk_2, rfl, ⟨by omega, by omega⟩, Or.inl ⟨by omega, ⟨⟨(by first | omega | trivial), (by first | omega | trivial)⟩, ⟨(by first | omega | trivial), (by first | omega | trivial)⟩⟩, (show _ = (twN (V (p0).toNat (p1).toNat) p1) by have e9 := upB_upV he1k_17; simp only [twN]; first | rfl | omega | ((repeat' split) <;> first | rfl | omega)), (MGm.mut he1k_17 hRk_17 hK (bl_one (by omega) he0k_17) he0k_6 (congrArg (upV (V (p0).toNat) (p1).toNat) (show (2 * (V ((p0).toNat) ((p1).toNat))) = (twN (V (p0).toNat (p1).toNat) p1) by simp only [twN]; first | rfl | omega | ((repeat' split) <;> first | rfl | omega))))⟩⟩
    · refine lv_iload_n hC.1 hC.2.1 dX5_twice_35 rfl (lv_at hl 3 rfl) ?_
      refine lv_goto (tgt := 61) hC.1 hC.2.1 dX5_twice_36 (by decide) ?_
      refine x_callV hC hw (lv_size hl) (c_X5_set l G hRk_6 (p0 := p0) (by first | assumption | omega) (p1 := p1) (by first | assumption | omega) (p2 := p1) (by first | assumption | omega) (by omega) (by omega) (by omega) (by intro q9; first | exact absurd rfl q9 | assumption | exact hpv_7 q9 | exact hpv_7 (by omega) | exact hSk (by omega))) gX5_twice_X5_set rfl dv_X5_set hRk_6.1.1 rfl rfl (Nat.le_of_ble_eq_true rfl) (by rw [hRf]; decide) (by rw [hRl]; decide) (by first | (rw [hRc]; decide) | omega) (by first | (rw [hRs]; decide) | omega) dX5_twice_61 (fun r9 M_20 H locs hq hw => ?_)
      obtain ⟨z_22, brk_21, Vk_21, rfl, hz_22a, hz_22v, hz_22b, he0k_21, he1k_21, hx5k_21, hRk_21⟩ := hq
      have hsck_21 := hRk_21.sc.1
      show W p l e R s m args below meth c H locs _ _ _ (F0 m 64 ls [.int (iN (z_22))])
      refine lv_pop hC.1 hC.2.1 dX5_twice_64 rfl ?_
      refine lv_aload_n hC.1 hC.2.1 dX5_twice_65 rfl (lv_at hl 1 rfl) ?_
      refine x_get hC hw hRk_21.1.1 rfl hinX5 2 (by decide) (List.mem_cons_of_mem _ (List.mem_append_left _ (List.mem_append_left _ (List.mem_of_getElem? (i := 0) rfl)))) rfl dX5_twice_66 ?_
      refine lv_iload_n hC.1 hC.2.1 dX5_twice_69 rfl (lv_at hl 2 rfl) ?_
      refine x_ald4 hC hw hRk_21.1.2.1 (by omega) (by omega) (by omega) dX5_twice_70 ?_
      rw [hRk_21.fa' (show (p0).toNat < 3 from tn_lt (by omega) (by decide))]
      show W p l e R s m args below meth c _ _ _ _ _ (F0 m 71 ls [.ref (qv ((p0).toNat))])
      refine lv_iload_n hC.1 hC.2.1 dX5_twice_71 rfl (lv_at hl 3 rfl) ?_
      refine x_ialdE (x := (Vk_21 ((p0).toNat) ((p1).toNat))) hC hw (hRk_21.rv (show ((p0).toNat) < 3 from tn_lt (by omega) (by decide))) (by omega) (by omega) (by omega) dX5_twice_72 rfl ?_
      have hrv_23 := hRk_21.vr (show ((p0).toNat) < 3 from tn_lt (by omega) (by decide)) (show (p1).toNat < 100 from tn_lt (by omega) (by decide))
      have hpv_23 := hRk_21.vs (show ((p0).toNat) < 3 from tn_lt (by omega) (by decide)) (show (p1).toNat < 100 from tn_lt (by omega) (by decide))
      exact x_iret hC hw dX5_twice_73 (by first | decide | omega) (by first | decide | omega) ⟨(Vk_21 ((p0).toNat) ((p1).toNat)), thk_2, rfl, ⟨by omega, by omega⟩, Or.inl ⟨by omega, ⟨⟨(by first | omega | trivial), (by first | omega | trivial)⟩, ⟨(by first | omega | trivial), (by first | omega | trivial)⟩⟩, (show _ = (twN (V (p0).toNat (p1).toNat) p1) by have e9 := upB_upV he1k_21; simp only [twN]; first | rfl | omega | ((repeat' split) <;> first | rfl | omega)), (MGm.mut he1k_21 hRk_21 hK (bl_one (by omega) he0k_21) he0k_6 (congrArg (upV (V (p0).toNat) (p1).toNat) (show p1 = (twN (V (p0).toNat (p1).toNat) p1) by simp only [twN]; first | rfl | omega | ((repeat' split) <;> first | rfl | omega))))⟩⟩
  · replace hz_3r := (hz_3r.resolve_left (fun q9 => c_4 q9.1)).2
    refine x_const hC dX5_twice_9 ?_
    exact x_iret hC hw dX5_twice_10 (by first | decide | omega) (by first | decide | omega) ⟨0, thk_2, rfl, by omega, Or.inr ⟨by omega, by omega, MGm.of hRk_2 hK⟩⟩
set_option maxHeartbeats 4000000 in
set_option maxRecDepth 100000 in
theorem c_X5_poll (l : Launch) (G : xG) {M : HM} {a va oa wa ya : Nat} {wk : Option Nat} {th : Int} {rfd : Int32} {br re la ha : Int} {kp kv : Int32} {qv qw : Nat → Nat} {fa fb : Nat → Option Nat} {V : BW} {O : OW} {fy : Nat → Option Nat} {Wv : VW} {wt : Option VT} {S : Nat → Bool} (hR : MGx G M a va oa wa ya wk th rfd br re la ha kp kv qv qw fa fb V O fy Wv wt S) {K : WA} (hK : abM O wt br re la ha K) {p0 : Int} (hp0 : -2147483648 ≤ p0 ∧ p0 ≤ 2147483647) {p1 : Int} (hp1 : -2147483648 ≤ p1 ∧ p1 ≤ 2147483647) : xMet l G yX5_poll wsX5_poll 5 115 1 5 [.ref a, .int (iN (p0)), .int (iN (p1))] M (fun r M1 => ∃ (z th1 : Int), r = some (.int (iN z)) ∧ (-2147483648 ≤ z ∧ z ≤ 2147483647) ∧ ((th1 = 0 ∧ ((0 ≤ p0 ∧ p0 ≤ 2)) ∧ z = A_poll (O, V, Wv, K, kp, kv, rfd) p0 p1 ∧ MGm G M1 a S th1 (S_poll (O, V, Wv, K, kp, kv, rfd) p0 p1)) ∨ (th1 ≠ 0 ∧ ((th1 = 1 ∧ ¬ (0 ≤ p0 ∧ p0 ≤ 2))) ∧ MGm G M1 a S th1 (O, V, Wv, K, kp, kv, rfd)))) := by
  refine x_intro (cc := cX5_poll) (maxL := 4) (ret := (some .int)) (by exact pln_RX5) rfl (Nat.le_of_ble_eq_true rfl) ?_
  intro p e R s m args below meth c ls hRf hRc hRs hRl hC hw hl
  have hsc0 := hR.sc.1
  have hl : lv_has ls 4 [(0, .ref a), (1, .int (iN (p0))), (2, .int (iN (p1)))] := hl
  refine lv_aload_n hC.1 hC.2.1 dX5_poll_0 rfl (lv_at hl 0 rfl) ?_
  refine lv_iload_n hC.1 hC.2.1 dX5_poll_1 rfl (lv_at hl 1 rfl) ?_
  refine x_callS hC hw (lv_size hl) (c_X5_isNoBook l G (M := M) (p0 := p0) (by first | assumption | omega)) gX5_poll_X5_isNoBook rfl dv_X5_isNoBook_s rfl (Nat.le_of_ble_eq_true rfl) (by rw [hRf]; decide) (by rw [hRl]; decide) (by first | (rw [hRc]; decide) | omega) (by first | (rw [hRs]; decide) | omega) dX5_poll_2 (fun r9 M_1 H locs hq hw => ?_)
  obtain ⟨z_2, rfl, hM9, hz_2a, hz_2b⟩ := hq
  rw [hM9] at hw
  show W p l e R s m args below meth c H locs _ _ _ (F0 m 5 ls [.int (iN (z_2)), .ref a])
  refine x_const hC dX5_poll_5 ?_
  refine x_callV hC hw (lv_size hl) (c_X5_start l G hR (p0 := z_2) (by omega) (p1 := 1) (by omega) (by omega)) gX5_poll_X5_start rfl dv_X5_start hR.1.1 rfl rfl (Nat.le_of_ble_eq_true rfl) (by rw [hRf]; decide) (by rw [hRl]; decide) (by first | (rw [hRc]; decide) | omega) (by first | (rw [hRs]; decide) | omega) dX5_poll_6 (fun r9 M_3 H locs hq hw => ?_)
  obtain ⟨z_5, thk_4, rfl, hz_5r, hx5k_4, hRk_4⟩ := hq
  have hsck_4 := hRk_4.sc.1
  show W p l e R s m args below meth c H locs _ _ _ (F0 m 9 ls [.int (iN (z_5))])
  refine x_if_eq (tgt := 14) hC ⟨by omega, by omega⟩ dX5_poll_9 (by decide) (fun c_6 => ?_) (fun c_6 => ?_)
  · replace hz_5r := (hz_5r.resolve_right (fun q9 => absurd (q9.1.symm.trans c_6) (by decide))).2
    replace hz_2b := hz_2b.mp hz_5r.2
    refine lv_aload_n hC.1 hC.2.1 dX5_poll_14 rfl (lv_at hl 0 rfl) ?_
    refine lv_iload_n hC.1 hC.2.1 dX5_poll_15 rfl (lv_at hl 1 rfl) ?_
    refine x_callV hC hw (lv_size hl) (c_X5_touch l G hRk_4 (p0 := p0) (by first | assumption | omega) (by omega)) gX5_poll_X5_touch rfl dv_X5_touch hRk_4.1.1 rfl rfl (Nat.le_of_ble_eq_true rfl) (by rw [hRf]; decide) (by rw [hRl]; decide) (by first | (rw [hRc]; decide) | omega) (by first | (rw [hRs]; decide) | omega) dX5_poll_16 (fun r9 M_7 H locs hq hw => ?_)
    obtain ⟨hak_8, rfl, he0k_8, hx5k_8, hRk_8⟩ := hq
    have hsck_8 := hRk_8.sc.1
    show W p l e R s m args below meth c H locs _ _ _ (F0 m 19 ls [])
    refine lv_aload_n hC.1 hC.2.1 dX5_poll_19 rfl (lv_at hl 0 rfl) ?_
    refine lv_iload_n hC.1 hC.2.1 dX5_poll_20 rfl (lv_at hl 1 rfl) ?_
    refine x_callS hC hw (lv_size hl) (c_X5_whole l G (M := M_7) (p0 := p0) (by first | assumption | omega) (by omega)) gX5_poll_X5_whole rfl dv_X5_whole_s rfl (Nat.le_of_ble_eq_true rfl) (by rw [hRf]; decide) (by rw [hRl]; decide) (by first | (rw [hRc]; decide) | omega) (by first | (rw [hRs]; decide) | omega) dX5_poll_21 (fun r9 M_9 H locs hq hw => ?_)
    obtain ⟨qk_10, fk_10, rfl, hxk_10, hIk_10⟩ := hq
    have h_11 := hRk_8.ext hxk_10
    obtain ⟨htat_12, htbt_12, htct_12, htdt_12, htet_12⟩ := id hIk_10.2.1
    have holk_10 := h_11.or' hIk_10.2.1.1
    show W p l e R s m args below meth c H locs _ _ _ (F0 m 24 ls [.ref qk_10, .ref a])
    refine lv_iload_n hC.1 hC.2.1 dX5_poll_24 rfl (lv_at hl 2 rfl) ?_
    refine x_callV hC hw (lv_size hl) (c_X5_end l G h_11 hIk_10 (p0 := p1) (by first | assumption | omega)) gX5_poll_X5_end rfl dv_X5_end h_11.1.1 rfl rfl (Nat.le_of_ble_eq_true rfl) (by rw [hRf]; decide) (by rw [hRl]; decide) (by first | (rw [hRc]; decide) | omega) (by first | (rw [hRs]; decide) | omega) dX5_poll_25 (fun r9 M_13 H locs hq hw => ?_)
    obtain ⟨z_14, rfl, hM9, hz_14a, hz_14S, hz_14e⟩ := hq
    rw [hM9] at hw
    show W p l e R s m args below meth c H locs _ _ _ (F0 m 28 ls [.int (iN (z_14))])
    refine lv_istore_n (lv' := [(3, .int (iN (z_14))), (0, .ref a), (1, .int (iN (p0))), (2, .int (iN (p1)))]) hC.1 hC.2.1 dX5_poll_28 rfl hl (by decide) rfl (fun ls hl => ?_)
    refine lv_iload_n hC.1 hC.2.1 dX5_poll_29 rfl (lv_at hl 0 rfl) ?_
    refine x_sipush hC dX5_poll_30 (by decide +kernel) ?_
    refine x_icmp_eq (tgt := 46) hC ⟨by omega, by omega⟩ ⟨by omega, by omega⟩ dX5_poll_33 (by decide) (fun c_15 => ?_) (fun c_15 => ?_)
    · refine lv_iload_n hC.1 hC.2.1 dX5_poll_46 rfl (lv_at hl 0 rfl) ?_
      exact x_iret hC hw dX5_poll_47 (by first | decide | omega) (by first | decide | omega) ⟨z_14, thk_4, rfl, ⟨by omega, by omega⟩, Or.inl ⟨by omega, ⟨(by first | omega | trivial), (by first | omega | trivial)⟩, (hz_14e), (MGm.mut (F := V ((p0).toNat)) (upB_self rfl).symm h_11 hK bl_rf he0k_8 (by rw [show A_poll (O, V, Wv, K, kp, kv, rfd) p0 p1 = z_14 from (hz_14e).symm]; exact (rmV_0 (by omega)).symm))⟩⟩
    · refine lv_aload_n hC.1 hC.2.1 dX5_poll_36 rfl (lv_at hl 1 rfl) ?_
      refine lv_iload_n hC.1 hC.2.1 dX5_poll_37 rfl (lv_at hl 2 rfl) ?_
      refine lv_iload_n hC.1 hC.2.1 dX5_poll_38 rfl (lv_at hl 0 rfl) ?_
      refine x_sipush hC dX5_poll_39 (by decide +kernel) ?_
      refine x_callV hC hw (lv_size hl) (c_X5_set l G h_11 (p0 := p0) (by first | assumption | omega) (p1 := z_14) (by omega) (p2 := (-10000)) (by omega) (by omega) (by omega) (by omega) (fun q9 => absurd rfl q9)) gX5_poll_X5_set rfl dv_X5_set h_11.1.1 rfl rfl (Nat.le_of_ble_eq_true rfl) (by rw [hRf]; decide) (by rw [hRl]; decide) (by first | (rw [hRc]; decide) | omega) (by first | (rw [hRs]; decide) | omega) dX5_poll_42 (fun r9 M_16 H locs hq hw => ?_)
      obtain ⟨z_18, brk_17, Vk_17, rfl, hz_18a, hz_18v, hz_18b, he0k_17, he1k_17, hx5k_17, hRk_17⟩ := hq
      have h_19 := hIk_10.x5 hx5k_17
      have hsck_17 := hRk_17.sc.1
      show W p l e R s m args below meth c H locs _ _ _ (F0 m 45 ls [.int (iN (z_18))])
      refine lv_pop hC.1 hC.2.1 dX5_poll_45 rfl ?_
      refine lv_iload_n hC.1 hC.2.1 dX5_poll_46 rfl (lv_at hl 0 rfl) ?_
      exact x_iret hC hw dX5_poll_47 (by first | decide | omega) (by first | decide | omega) ⟨z_14, thk_4, rfl, ⟨by omega, by omega⟩, Or.inl ⟨by omega, ⟨(by first | omega | trivial), (by first | omega | trivial)⟩, (hz_14e), (MGm.mut he1k_17 hRk_17 hK (bl_one (by omega) he0k_17) he0k_8 (by rw [show A_poll (O, V, Wv, K, kp, kv, rfd) p0 p1 = z_14 from (hz_14e).symm]; exact (rmV_1 (by omega)).symm))⟩⟩
  · replace hz_5r := (hz_5r.resolve_left (fun q9 => c_6 q9.1)).2
    replace hz_2b := mt hz_2b.mpr hz_5r.1
    refine x_const hC dX5_poll_12 ?_
    exact x_iret hC hw dX5_poll_13 (by first | decide | omega) (by first | decide | omega) ⟨0, thk_4, rfl, by omega, Or.inr ⟨by omega, by omega, MGm.of hRk_4 hK⟩⟩
set_option maxHeartbeats 4000000 in
set_option maxRecDepth 100000 in
theorem c_X5_raise (l : Launch) (G : xG) {M : HM} {a va oa wa ya : Nat} {wk : Option Nat} {th : Int} {rfd : Int32} {br re la ha : Int} {kp kv : Int32} {qv qw : Nat → Nat} {fa fb : Nat → Option Nat} {V : BW} {O : OW} {fy : Nat → Option Nat} {Wv : VW} {wt : Option VT} {S : Nat → Bool} (hR : MGx G M a va oa wa ya wk th rfd br re la ha kp kv qv qw fa fb V O fy Wv wt S) {K : WA} (hK : abM O wt br re la ha K) {p0 : Int} (hp0 : -2147483648 ≤ p0 ∧ p0 ≤ 2147483647) {p1 : Int} (hp1 : -2147483648 ≤ p1 ∧ p1 ≤ 2147483647) : xMet l G yX5_raise wsX5_raise 2 44 0 0 [.ref a, .int (iN (p0)), .int (iN (p1))] M (fun r M1 => ∃ (z th1 : Int), r = some (.int (iN z)) ∧ (-2147483648 ≤ z ∧ z ≤ 2147483647) ∧ ((th1 = 0 ∧ ((0 ≤ p0 ∧ p0 ≤ 2) ∧ (-999 ≤ p1 ∧ p1 ≤ 999)) ∧ z = A_raise (O, V, Wv, K, kp, kv, rfd) p0 p1 ∧ MGm G M1 a S th1 (S_raise (O, V, Wv, K, kp, kv, rfd) p0 p1)) ∨ (th1 ≠ 0 ∧ ((th1 = 1 ∧ ¬ (0 ≤ p0 ∧ p0 ≤ 2)) ∨ (th1 = 2 ∧ (0 ≤ p0 ∧ p0 ≤ 2) ∧ ¬ (-999 ≤ p1 ∧ p1 ≤ 999))) ∧ MGm G M1 a S th1 (O, V, Wv, K, kp, kv, rfd)))) := by
  refine x_intro (cc := cX5_raise) (maxL := 6) (ret := (some .int)) (by exact pln_RX5) rfl (Nat.le_of_ble_eq_true rfl) ?_
  intro p e R s m args below meth c ls hRf hRc hRs hRl hC hw hl
  have hsc0 := hR.sc.1
  have hinX5 : ∀ w ∈ wsX50, w ∈ wsX5_raise := fun w h => (List.mem_cons_of_mem _ (List.mem_append_right _ h))
  have hl : lv_has ls 6 [(0, .ref a), (1, .int (iN (p0))), (2, .int (iN (p1)))] := hl
  refine lv_aload_n hC.1 hC.2.1 dX5_raise_0 rfl (lv_at hl 0 rfl) ?_
  refine lv_iload_n hC.1 hC.2.1 dX5_raise_1 rfl (lv_at hl 1 rfl) ?_
  refine x_callS hC hw (lv_size hl) (c_X5_isNoBook l G (M := M) (p0 := p0) (by first | assumption | omega)) gX5_raise_X5_isNoBook rfl dv_X5_isNoBook_s rfl (Nat.le_of_ble_eq_true rfl) (by rw [hRf]; decide) (by rw [hRl]; decide) (by first | (rw [hRc]; decide) | omega) (by first | (rw [hRs]; decide) | omega) dX5_raise_2 (fun r9 M_1 H locs hq hw => ?_)
  obtain ⟨z_2, rfl, hM9, hz_2a, hz_2b⟩ := hq
  rw [hM9] at hw
  show W p l e R s m args below meth c H locs _ _ _ (F0 m 5 ls [.int (iN (z_2)), .ref a])
  refine x_const hC dX5_raise_5 ?_
  refine x_callV hC hw (lv_size hl) (c_X5_start l G hR (p0 := z_2) (by omega) (p1 := 1) (by omega) (by omega)) gX5_raise_X5_start rfl dv_X5_start hR.1.1 rfl rfl (Nat.le_of_ble_eq_true rfl) (by rw [hRf]; decide) (by rw [hRl]; decide) (by first | (rw [hRc]; decide) | omega) (by first | (rw [hRs]; decide) | omega) dX5_raise_6 (fun r9 M_3 H locs hq hw => ?_)
  obtain ⟨z_5, thk_4, rfl, hz_5r, hx5k_4, hRk_4⟩ := hq
  have hsck_4 := hRk_4.sc.1
  show W p l e R s m args below meth c H locs _ _ _ (F0 m 9 ls [.int (iN (z_5))])
  refine x_if_ne (tgt := 38) hC ⟨by omega, by omega⟩ dX5_raise_9 (by decide) (fun c_6 => ?_) (fun c_6 => ?_)
  · replace hz_5r := (hz_5r.resolve_left (fun q9 => c_6 q9.1)).2
    replace hz_2b := mt hz_2b.mpr hz_5r.1
    refine x_const hC dX5_raise_38 ?_
    exact x_iret hC hw dX5_raise_39 (by first | decide | omega) (by first | decide | omega) ⟨0, thk_4, rfl, by omega, Or.inr ⟨by omega, by omega, MGm.of hRk_4 hK⟩⟩
  · replace hz_5r := (hz_5r.resolve_right (fun q9 => absurd (q9.1.symm.trans c_6) (by decide))).2
    replace hz_2b := hz_2b.mp hz_5r.2
    refine lv_aload_n hC.1 hC.2.1 dX5_raise_12 rfl (lv_at hl 0 rfl) ?_
    refine lv_iload_n hC.1 hC.2.1 dX5_raise_13 rfl (lv_at hl 2 rfl) ?_
    refine x_sipush hC dX5_raise_14 (by decide +kernel) ?_
    refine x_sipush hC dX5_raise_17 (by decide +kernel) ?_
    refine x_callS hC hw (lv_size hl) (c_X5_isIn l G (M := M_3) (p0 := p1) (by first | assumption | omega) (p1 := (-999)) (by omega) (p2 := 999) (by omega)) gX5_raise_X5_isIn rfl dv_X5_isIn_s rfl (Nat.le_of_ble_eq_true rfl) (by rw [hRf]; decide) (by rw [hRl]; decide) (by first | (rw [hRc]; decide) | omega) (by first | (rw [hRs]; decide) | omega) dX5_raise_20 (fun r9 M_7 H locs hq hw => ?_)
    obtain ⟨z_8, rfl, hM9, hz_8a, hz_8b, hz_8c⟩ := hq
    rw [hM9] at hw
    show W p l e R s m args below meth c H locs _ _ _ (F0 m 23 ls [.int (iN (z_8)), .ref a])
    refine x_if_ne (tgt := 30) hC ⟨by omega, by omega⟩ dX5_raise_23 (by decide) (fun c_9 => ?_) (fun c_9 => ?_)
    · refine x_const hC dX5_raise_30 ?_
      refine x_const hC dX5_raise_31 ?_
      refine x_callV hC hw (lv_size hl) (c_X5_refuse l G hRk_4 (p0 := 0) (by omega) (p1 := 2) (by omega) (by omega)) gX5_raise_X5_refuse rfl dv_X5_refuse hRk_4.1.1 rfl rfl (Nat.le_of_ble_eq_true rfl) (by rw [hRf]; decide) (by rw [hRl]; decide) (by first | (rw [hRc]; decide) | omega) (by first | (rw [hRs]; decide) | omega) dX5_raise_32 (fun r9 M_10 H locs hq hw => ?_)
      obtain ⟨z_12, thk_11, rfl, hz_12r, hx5k_11, hRk_11⟩ := hq
      have hsck_11 := hRk_11.sc.1
      show W p l e R s m args below meth c H locs _ _ _ (F0 m 35 ls [.int (iN (z_12))])
      refine x_if_eq (tgt := 40) hC ⟨by omega, by omega⟩ dX5_raise_35 (by decide) (fun c_13 => ?_) (fun c_13 => ?_)
      · replace hz_12r := (hz_12r.resolve_right (fun q9 => absurd (q9.1.symm.trans c_13) (by decide))).2
        refine lv_aload_n hC.1 hC.2.1 dX5_raise_40 rfl (lv_at hl 0 rfl) ?_
        refine lv_iload_n hC.1 hC.2.1 dX5_raise_41 rfl (lv_at hl 1 rfl) ?_
        refine x_callV hC hw (lv_size hl) (c_X5_touch l G hRk_11 (p0 := p0) (by first | assumption | omega) (by omega)) gX5_raise_X5_touch rfl dv_X5_touch hRk_11.1.1 rfl rfl (Nat.le_of_ble_eq_true rfl) (by rw [hRf]; decide) (by rw [hRl]; decide) (by first | (rw [hRc]; decide) | omega) (by first | (rw [hRs]; decide) | omega) dX5_raise_42 (fun r9 M_14 H locs hq hw => ?_)
        obtain ⟨hak_15, rfl, he0k_15, hx5k_15, hRk_15⟩ := hq
        have hsck_15 := hRk_15.sc.1
        show W p l e R s m args below meth c H locs _ _ _ (F0 m 45 ls [])
        refine x_const hC dX5_raise_45 ?_
        refine lv_istore_n (lv' := [(3, .int (iN (0))), (0, .ref a), (1, .int (iN (p0))), (2, .int (iN (p1)))]) hC.1 hC.2.1 dX5_raise_46 rfl hl (by decide) rfl (fun ls hl => ?_)
        refine x_const hC dX5_raise_47 ?_
        refine lv_istore (lv' := [(4, .int (iN (0))), (3, .int (iN (0))), (0, .ref a), (1, .int (iN (p0))), (2, .int (iN (p1)))]) hC.1 hC.2.1 dX5_raise_48 hl (by decide) rfl (fun ls hl => ?_)
        suffices hloop50 : ∀ (n9 : Nat) (n : Int) (j : Int) (M1 : HM) (br1 : Int) (V1 : BW) (hR1 : MGx G M1 a va oa wa ya wk thk_11 rfd br1 re la hak_15 kp kv qv qw fa fb V1 O fy Wv wt S) (hx1 : xI5 G M M1) (hV1 : V1 = upB V ((p0).toNat) (mapN (V ((p0).toNat)) (F_raise (V (p0).toNat) p1) (j).toNat)) (hbr1 : br1 = brL wt ((p0).toNat) (V ((p0).toNat)) (F_raise (V (p0).toNat) p1) (j).toNat br) (H : Heap) (locs : List Loc) (ls : Array Slot), (hmz50 : (100 - j).toNat < n9) → (hi0 : 0 ≤ j ∧ j ≤ 100) → (hi1 : 0 ≤ n ∧ n ≤ j) → (hcn : n = rsN (V (p0).toNat) p1 (j).toNat) → xD G (xA M s.heap.size) s M1 H locs → lv_has ls 6 [(0, .ref a), (1, .int (iN (p0))), (2, .int (iN (p1))), (3, .int (iN (n))), (4, .int (iN (j)))] → W p l e R s m args below meth c H locs _ _ _ (F0 m 50 ls []) by
          exact hloop50 _ 0 0 _ _ _ hRk_15 (xI5.tr (xI5.tr (hx5k_4) (hx5k_11)) (hx5k_15)) ml_0 bl_0 _ _ _ (Nat.lt_succ_self _) (by omega) (by omega) (rfl) hw (lv_sub hl [2, 3, 4, 1, 0] rfl)
        intro n9
        induction n9 with
        | zero => intro n j M1 br1 V1 hR1 hx1 hV1 hbr1 H locs ls hmz; exact absurd hmz (Nat.not_lt_zero _)
        | succ n9 ih50 =>
          intro n j M1 br1 V1 hR1 hx1 hV1 hbr1 H locs ls hmz50 hi0 hi1 hcn hw hl
          have hvj : V1 ((p0).toNat) (j).toNat = V ((p0).toNat) (j).toNat := ml_at hV1
          have hsc1 := hR1.sc.1
          refine lv_iload hC.1 hC.2.1 dX5_raise_50 (lv_at hl 4 rfl) ?_
          refine x_bipush hC dX5_raise_52 (by decide +kernel) ?_
          refine x_icmp_ge (tgt := 125) hC ⟨by omega, by omega⟩ ⟨by omega, by omega⟩ dX5_raise_54 (by decide) (fun c_16 => ?_) (fun c_16 => ?_)
          · refine lv_iload_n hC.1 hC.2.1 dX5_raise_125 rfl (lv_at hl 3 rfl) ?_
            exact x_iret hC hw dX5_raise_126 (by first | decide | omega) (by first | decide | omega) ⟨n, thk_11, rfl, ⟨by omega, by omega⟩, Or.inl ⟨by omega, ⟨⟨(by first | omega | trivial), (by first | omega | trivial)⟩, ⟨(by first | omega | trivial), (by first | omega | trivial)⟩⟩, (by have e9 : (j).toNat = 100 := (tn_eq (by omega)); rw [e9] at hcn; exact hcn), (by have e9 : (j).toNat = 100 := (tn_eq (by omega)); rw [e9] at hV1 hbr1; exact MGm.mut hV1 hR1 hK (bl_map hbr1) he0k_15 rfl)⟩⟩
          · refine lv_aload_n hC.1 hC.2.1 dX5_raise_57 rfl (lv_at hl 0 rfl) ?_
            refine x_get hC hw hR1.1.1 rfl hinX5 2 (by decide) (List.mem_cons_of_mem _ (List.mem_append_left _ (List.mem_append_left _ (List.mem_of_getElem? (i := 0) rfl)))) rfl dX5_raise_58 ?_
            refine lv_iload_n hC.1 hC.2.1 dX5_raise_61 rfl (lv_at hl 1 rfl) ?_
            refine x_ald4 hC hw hR1.1.2.1 (by omega) (by omega) (by omega) dX5_raise_62 ?_
            rw [hR1.fa' (show (p0).toNat < 3 from tn_lt (by omega) (by decide))]
            show W p l e R s m args below meth c _ _ _ _ _ (F0 m 63 ls [.ref (qv ((p0).toNat))])
            refine lv_iload hC.1 hC.2.1 dX5_raise_63 (lv_at hl 4 rfl) ?_
            refine x_ialdE (x := (V1 ((p0).toNat) ((j).toNat))) hC hw (hR1.rv (show ((p0).toNat) < 3 from tn_lt (by omega) (by decide))) (by omega) (by omega) (by omega) dX5_raise_65 rfl ?_
            have hrv_17 := hR1.vr (show ((p0).toNat) < 3 from tn_lt (by omega) (by decide)) (show (j).toNat < 100 from tn_lt (by omega) (by decide))
            have hpv_17 := hR1.vs (show ((p0).toNat) < 3 from tn_lt (by omega) (by decide)) (show (j).toNat < 100 from tn_lt (by omega) (by decide))
            refine lv_istore (lv' := [(5, .int (iN ((V1 ((p0).toNat) ((j).toNat))))), (0, .ref a), (1, .int (iN (p0))), (2, .int (iN (p1))), (3, .int (iN (n))), (4, .int (iN (j)))]) hC.1 hC.2.1 dX5_raise_66 hl (by decide) rfl (fun ls hl => ?_)
            refine lv_iload hC.1 hC.2.1 dX5_raise_68 (lv_at hl 0 rfl) ?_
            refine x_sipush hC dX5_raise_70 (by decide +kernel) ?_
            refine x_icmp_ne (tgt := 79) hC ⟨by omega, by omega⟩ ⟨by omega, by omega⟩ dX5_raise_73 (by decide) (fun c_18 => ?_) (fun c_18 => ?_)
            · refine lv_aload_n hC.1 hC.2.1 dX5_raise_79 rfl (lv_at hl 1 rfl) ?_
              refine lv_iload_n hC.1 hC.2.1 dX5_raise_80 rfl (lv_at hl 2 rfl) ?_
              refine lv_iload hC.1 hC.2.1 dX5_raise_81 (lv_at hl 5 rfl) ?_
              refine lv_iload hC.1 hC.2.1 dX5_raise_83 (lv_at hl 0 rfl) ?_
              refine lv_iload_n hC.1 hC.2.1 dX5_raise_85 rfl (lv_at hl 3 rfl) ?_
              refine x_iadd hC dX5_raise_86 ?_
              refine x_callS hC hw (lv_size hl) (c_X5_held l G (M := M1) (p0 := ((V1 ((p0).toNat) ((j).toNat)) + p1)) (by omega)) gX5_raise_X5_held rfl dv_X5_held_s rfl (Nat.le_of_ble_eq_true rfl) (by rw [hRf]; decide) (by rw [hRl]; decide) (by first | (rw [hRc]; decide) | omega) (by first | (rw [hRs]; decide) | omega) dX5_raise_87 (fun r9 M_19 H locs hq hw => ?_)
              obtain ⟨z_20, rfl, hM9, hz_20a, hz_20d⟩ := hq
              rw [hM9] at hw
              show W p l e R s m args below meth c H locs _ _ _ (F0 m 90 ls [.int (iN (z_20)), .int (iN (j)), .int (iN (p0)), .ref a])
              refine x_callV hC hw (lv_size hl) (c_X5_set l G hR1 (p0 := p0) (by first | assumption | omega) (p1 := j) (by omega) (p2 := z_20) (by omega) (by omega) (by omega) (by omega) (by intro q9; first | exact absurd rfl q9 | assumption | exact hpv_17 q9 | exact hpv_17 (by omega))) gX5_raise_X5_set rfl dv_X5_set hR1.1.1 rfl rfl (Nat.le_of_ble_eq_true rfl) (by rw [hRf]; decide) (by rw [hRl]; decide) (by first | (rw [hRc]; decide) | omega) (by first | (rw [hRs]; decide) | omega) dX5_raise_90 (fun r9 M_21 H locs hq hw => ?_)
              obtain ⟨z_23, brk_22, Vk_22, rfl, hz_23a, hz_23v, hz_23b, he0k_22, he1k_22, hx5k_22, hRk_22⟩ := hq
              have hsck_22 := hRk_22.sc.1
              show W p l e R s m args below meth c H locs _ _ _ (F0 m 93 ls [.int (iN (z_23))])
              refine lv_pop hC.1 hC.2.1 dX5_raise_93 rfl ?_
              refine lv_iload_n hC.1 hC.2.1 dX5_raise_94 rfl (lv_at hl 4 rfl) ?_
              refine lv_aload_n hC.1 hC.2.1 dX5_raise_95 rfl (lv_at hl 1 rfl) ?_
              refine x_get hC hw hRk_22.1.1 rfl hinX5 2 (by decide) (List.mem_cons_of_mem _ (List.mem_append_left _ (List.mem_append_left _ (List.mem_of_getElem? (i := 0) rfl)))) rfl dX5_raise_96 ?_
              refine lv_iload_n hC.1 hC.2.1 dX5_raise_99 rfl (lv_at hl 2 rfl) ?_
              refine x_ald4 hC hw hRk_22.1.2.1 (by omega) (by omega) (by omega) dX5_raise_100 ?_
              rw [hRk_22.fa' (show (p0).toNat < 3 from tn_lt (by omega) (by decide))]
              show W p l e R s m args below meth c _ _ _ _ _ (F0 m 101 ls [.ref (qv ((p0).toNat)), .int (iN (n))])
              refine lv_iload hC.1 hC.2.1 dX5_raise_101 (lv_at hl 5 rfl) ?_
              refine x_ialdE (x := (Vk_22 ((p0).toNat) ((j).toNat))) hC hw (hRk_22.rv (show ((p0).toNat) < 3 from tn_lt (by omega) (by decide))) (by omega) (by omega) (by omega) dX5_raise_103 rfl ?_
              have hrv_24 := hRk_22.vr (show ((p0).toNat) < 3 from tn_lt (by omega) (by decide)) (show (j).toNat < 100 from tn_lt (by omega) (by decide))
              have hpv_24 := hRk_22.vs (show ((p0).toNat) < 3 from tn_lt (by omega) (by decide)) (show (j).toNat < 100 from tn_lt (by omega) (by decide))
              refine lv_iload hC.1 hC.2.1 dX5_raise_104 (lv_at hl 0 rfl) ?_
              refine x_icmp_eq (tgt := 113) hC ⟨by omega, by omega⟩ ⟨by omega, by omega⟩ dX5_raise_106 (by decide) (fun c_25 => ?_) (fun c_25 => ?_)
              · refine x_const hC dX5_raise_113 ?_
                refine x_callS hC hw (lv_size hl) (c_X5_one l G (M := M_21) (p0 := 0) (by omega)) gX5_raise_X5_one rfl dv_X5_one_s rfl (Nat.le_of_ble_eq_true rfl) (by rw [hRf]; decide) (by rw [hRl]; decide) (by first | (rw [hRc]; decide) | omega) (by first | (rw [hRs]; decide) | omega) dX5_raise_114 (fun r9 M_26 H locs hq hw => ?_)
                obtain ⟨z_27, rfl, hM9, hz_27a, hz_27b⟩ := hq
                rw [hM9] at hw
                show W p l e R s m args below meth c H locs _ _ _ (F0 m 117 ls [.int (iN (z_27)), .int (iN (n))])
                refine x_iadd hC dX5_raise_117 ?_
                refine lv_istore_n (lv' := [(3, .int (iN (n + z_27))), (5, .int (iN ((V1 ((p0).toNat) ((j).toNat))))), (0, .ref a), (1, .int (iN (p0))), (2, .int (iN (p1))), (4, .int (iN (j)))]) hC.1 hC.2.1 dX5_raise_118 rfl hl (by decide) rfl (fun ls hl => ?_)
                refine x_iinc (lv' := [(4, .int (iN (j + 1))), (3, .int (iN (n + z_27))), (5, .int (iN ((V1 ((p0).toNat) ((j).toNat))))), (0, .ref a), (1, .int (iN (p0))), (2, .int (iN (p1)))]) hC dX5_raise_119 hl (k := 5) rfl (by decide) rfl (fun ls hl => ?_)
                refine lv_goto (tgt := 50) hC.1 hC.2.1 dX5_raise_122 (by decide) ?_
                have hF9 : z_20 = (F_raise (V (p0).toNat) p1) (j).toNat := (by have e9 := bdN_eq hz_20d; rw [hvj] at e9; simp only [F_raise]; rw [if_neg (by omega)]; exact e9.symm)
                exact ih50 (n + z_27) (j + 1) _ _ _ hRk_22 (xI5.tr hx1 (hx5k_22)) (ml_set (by omega) hV1 he1k_22 hF9) (bl_set (by omega) hV1 hbr1 hF9 he0k_22) _ _ _ (by first | exact mu_s hmz50 (by omega) | omega) (by omega) (by omega) (by have e9 := bdN_eq hz_20d; rw [hvj] at e9; have e8 := upB_upV he1k_22; rw [rsN_s (by omega) rfl, if_neg (by omega), e9]; omega) hw (lv_sub hl [3, 4, 5, 1, 0] rfl)
              · refine x_const hC dX5_raise_109 ?_
                refine lv_goto (tgt := 114) hC.1 hC.2.1 dX5_raise_110 (by decide) ?_
                refine x_callS hC hw (lv_size hl) (c_X5_one l G (M := M_21) (p0 := 1) (by omega)) gX5_raise_X5_one rfl dv_X5_one_s rfl (Nat.le_of_ble_eq_true rfl) (by rw [hRf]; decide) (by rw [hRl]; decide) (by first | (rw [hRc]; decide) | omega) (by first | (rw [hRs]; decide) | omega) dX5_raise_114 (fun r9 M_28 H locs hq hw => ?_)
                obtain ⟨z_29, rfl, hM9, hz_29a, hz_29b⟩ := hq
                rw [hM9] at hw
                show W p l e R s m args below meth c H locs _ _ _ (F0 m 117 ls [.int (iN (z_29)), .int (iN (n))])
                refine x_iadd hC dX5_raise_117 ?_
                refine lv_istore_n (lv' := [(3, .int (iN (n + z_29))), (5, .int (iN ((V1 ((p0).toNat) ((j).toNat))))), (0, .ref a), (1, .int (iN (p0))), (2, .int (iN (p1))), (4, .int (iN (j)))]) hC.1 hC.2.1 dX5_raise_118 rfl hl (by decide) rfl (fun ls hl => ?_)
                refine x_iinc (lv' := [(4, .int (iN (j + 1))), (3, .int (iN (n + z_29))), (5, .int (iN ((V1 ((p0).toNat) ((j).toNat))))), (0, .ref a), (1, .int (iN (p0))), (2, .int (iN (p1)))]) hC dX5_raise_119 hl (k := 5) rfl (by decide) rfl (fun ls hl => ?_)
                refine lv_goto (tgt := 50) hC.1 hC.2.1 dX5_raise_122 (by decide) ?_
                have hF9 : z_20 = (F_raise (V (p0).toNat) p1) (j).toNat := (by have e9 := bdN_eq hz_20d; rw [hvj] at e9; simp only [F_raise]; rw [if_neg (by omega)]; exact e9.symm)
                exact ih50 (n + z_29) (j + 1) _ _ _ hRk_22 (xI5.tr hx1 (hx5k_22)) (ml_set (by omega) hV1 he1k_22 hF9) (bl_set (by omega) hV1 hbr1 hF9 he0k_22) _ _ _ (by first | exact mu_s hmz50 (by omega) | omega) (by omega) (by omega) (by have e9 := bdN_eq hz_20d; rw [hvj] at e9; have e8 := upB_upV he1k_22; rw [rsN_s (by omega) rfl, if_neg (by omega), e9]; omega) hw (lv_sub hl [3, 4, 5, 1, 0] rfl)
            · refine lv_goto (tgt := 119) hC.1 hC.2.1 dX5_raise_76 (by decide) ?_
              refine x_iinc (lv' := [(4, .int (iN (j + 1))), (5, .int (iN ((V1 ((p0).toNat) ((j).toNat))))), (0, .ref a), (1, .int (iN (p0))), (2, .int (iN (p1))), (3, .int (iN (n)))]) hC dX5_raise_119 hl (k := 5) rfl (by decide) rfl (fun ls hl => ?_)
              refine lv_goto (tgt := 50) hC.1 hC.2.1 dX5_raise_122 (by decide) ?_
              have hF9 : (F_raise (V (p0).toNat) p1) (j).toNat = V ((p0).toNat) (j).toNat := (by simp only [F_raise]; rw [if_pos (by omega)]; omega)
              exact ih50 n (j + 1) _ _ _ hR1 hx1 (ml_skip (by omega) hV1 hF9) (bl_skip (by omega) hbr1 hF9) _ _ _ (by first | exact mu_s hmz50 (by omega) | omega) (by omega) (by omega) (by rw [rsN_s (by omega) rfl, if_pos (by omega)]; omega) hw (lv_sub hl [2, 3, 4, 5, 0] rfl)
      · replace hz_12r := (hz_12r.resolve_left (fun q9 => c_13 q9.1)).2
        refine x_const hC dX5_raise_38 ?_
        exact x_iret hC hw dX5_raise_39 (by first | decide | omega) (by first | decide | omega) ⟨0, thk_11, rfl, by omega, Or.inr ⟨by omega, by omega, MGm.of hRk_11 hK⟩⟩
    · refine x_const hC dX5_raise_26 ?_
      refine lv_goto (tgt := 31) hC.1 hC.2.1 dX5_raise_27 (by decide) ?_
      refine x_const hC dX5_raise_31 ?_
      refine x_callV hC hw (lv_size hl) (c_X5_refuse l G hRk_4 (p0 := 1) (by omega) (p1 := 2) (by omega) (by omega)) gX5_raise_X5_refuse rfl dv_X5_refuse hRk_4.1.1 rfl rfl (Nat.le_of_ble_eq_true rfl) (by rw [hRf]; decide) (by rw [hRl]; decide) (by first | (rw [hRc]; decide) | omega) (by first | (rw [hRs]; decide) | omega) dX5_raise_32 (fun r9 M_30 H locs hq hw => ?_)
      obtain ⟨z_32, thk_31, rfl, hz_32r, hx5k_31, hRk_31⟩ := hq
      have hsck_31 := hRk_31.sc.1
      show W p l e R s m args below meth c H locs _ _ _ (F0 m 35 ls [.int (iN (z_32))])
      refine x_if_eq (tgt := 40) hC ⟨by omega, by omega⟩ dX5_raise_35 (by decide) (fun c_33 => ?_) (fun c_33 => ?_)
      · replace hz_32r := (hz_32r.resolve_right (fun q9 => absurd (q9.1.symm.trans c_33) (by decide))).2
        exact absurd hz_32r.2.2 (by decide)
      · replace hz_32r := (hz_32r.resolve_left (fun q9 => c_33 q9.1)).2
        refine x_const hC dX5_raise_38 ?_
        exact x_iret hC hw dX5_raise_39 (by first | decide | omega) (by first | decide | omega) ⟨0, thk_31, rfl, by omega, Or.inr ⟨by omega, by omega, MGm.of hRk_31 hK⟩⟩
set_option maxHeartbeats 4000000 in
set_option maxRecDepth 100000 in
theorem c_X5_sift (l : Launch) (G : xG) {M : HM} {a va oa wa ya : Nat} {wk : Option Nat} {th : Int} {rfd : Int32} {br re la ha : Int} {kp kv : Int32} {qv qw : Nat → Nat} {fa fb : Nat → Option Nat} {V : BW} {O : OW} {fy : Nat → Option Nat} {Wv : VW} {wt : Option VT} {S : Nat → Bool} (hR : MGx G M a va oa wa ya wk th rfd br re la ha kp kv qv qw fa fb V O fy Wv wt S) {K : WA} (hK : abM O wt br re la ha K) {p0 : Int} (hp0 : -2147483648 ≤ p0 ∧ p0 ≤ 2147483647) {p1 : Int} (hp1 : -2147483648 ≤ p1 ∧ p1 ≤ 2147483647) : xMet l G yX5_sift wsX5_sift 2 44 0 0 [.ref a, .int (iN (p0)), .int (iN (p1))] M (fun r M1 => ∃ (z th1 : Int), r = some (.int (iN z)) ∧ (-2147483648 ≤ z ∧ z ≤ 2147483647) ∧ ((th1 = 0 ∧ ((0 ≤ p0 ∧ p0 ≤ 2) ∧ (2 ≤ p1 ∧ p1 ≤ 99)) ∧ z = A_sift (O, V, Wv, K, kp, kv, rfd) p0 p1 ∧ MGm G M1 a S th1 (S_sift (O, V, Wv, K, kp, kv, rfd) p0 p1)) ∨ (th1 ≠ 0 ∧ ((th1 = 1 ∧ ¬ (0 ≤ p0 ∧ p0 ≤ 2)) ∨ (th1 = 2 ∧ (0 ≤ p0 ∧ p0 ≤ 2) ∧ ¬ (2 ≤ p1 ∧ p1 ≤ 99))) ∧ MGm G M1 a S th1 (O, V, Wv, K, kp, kv, rfd)))) := by
  refine x_intro (cc := cX5_sift) (maxL := 5) (ret := (some .int)) (by exact pln_RX5) rfl (Nat.le_of_ble_eq_true rfl) ?_
  intro p e R s m args below meth c ls hRf hRc hRs hRl hC hw hl
  have hsc0 := hR.sc.1
  have hinX5 : ∀ w ∈ wsX50, w ∈ wsX5_sift := fun w h => (List.mem_cons_of_mem _ (List.mem_append_right _ h))
  have hl : lv_has ls 5 [(0, .ref a), (1, .int (iN (p0))), (2, .int (iN (p1)))] := hl
  refine lv_aload_n hC.1 hC.2.1 dX5_sift_0 rfl (lv_at hl 0 rfl) ?_
  refine lv_iload_n hC.1 hC.2.1 dX5_sift_1 rfl (lv_at hl 1 rfl) ?_
  refine x_callS hC hw (lv_size hl) (c_X5_isNoBook l G (M := M) (p0 := p0) (by first | assumption | omega)) gX5_sift_X5_isNoBook rfl dv_X5_isNoBook_s rfl (Nat.le_of_ble_eq_true rfl) (by rw [hRf]; decide) (by rw [hRl]; decide) (by first | (rw [hRc]; decide) | omega) (by first | (rw [hRs]; decide) | omega) dX5_sift_2 (fun r9 M_1 H locs hq hw => ?_)
  obtain ⟨z_2, rfl, hM9, hz_2a, hz_2b⟩ := hq
  rw [hM9] at hw
  show W p l e R s m args below meth c H locs _ _ _ (F0 m 5 ls [.int (iN (z_2)), .ref a])
  refine x_const hC dX5_sift_5 ?_
  refine x_callV hC hw (lv_size hl) (c_X5_start l G hR (p0 := z_2) (by omega) (p1 := 1) (by omega) (by omega)) gX5_sift_X5_start rfl dv_X5_start hR.1.1 rfl rfl (Nat.le_of_ble_eq_true rfl) (by rw [hRf]; decide) (by rw [hRl]; decide) (by first | (rw [hRc]; decide) | omega) (by first | (rw [hRs]; decide) | omega) dX5_sift_6 (fun r9 M_3 H locs hq hw => ?_)
  obtain ⟨z_5, thk_4, rfl, hz_5r, hx5k_4, hRk_4⟩ := hq
  have hsck_4 := hRk_4.sc.1
  show W p l e R s m args below meth c H locs _ _ _ (F0 m 9 ls [.int (iN (z_5))])
  refine x_if_ne (tgt := 35) hC ⟨by omega, by omega⟩ dX5_sift_9 (by decide) (fun c_6 => ?_) (fun c_6 => ?_)
  · replace hz_5r := (hz_5r.resolve_left (fun q9 => c_6 q9.1)).2
    replace hz_2b := mt hz_2b.mpr hz_5r.1
    refine x_const hC dX5_sift_35 ?_
    exact x_iret hC hw dX5_sift_36 (by first | decide | omega) (by first | decide | omega) ⟨0, thk_4, rfl, by omega, Or.inr ⟨by omega, by omega, MGm.of hRk_4 hK⟩⟩
  · replace hz_5r := (hz_5r.resolve_right (fun q9 => absurd (q9.1.symm.trans c_6) (by decide))).2
    replace hz_2b := hz_2b.mp hz_5r.2
    refine lv_aload_n hC.1 hC.2.1 dX5_sift_12 rfl (lv_at hl 0 rfl) ?_
    refine lv_iload_n hC.1 hC.2.1 dX5_sift_13 rfl (lv_at hl 2 rfl) ?_
    refine x_const hC dX5_sift_14 ?_
    refine x_bipush hC dX5_sift_15 (by decide +kernel) ?_
    refine x_callS hC hw (lv_size hl) (c_X5_isIn l G (M := M_3) (p0 := p1) (by first | assumption | omega) (p1 := 2) (by omega) (p2 := 99) (by omega)) gX5_sift_X5_isIn rfl dv_X5_isIn_s rfl (Nat.le_of_ble_eq_true rfl) (by rw [hRf]; decide) (by rw [hRl]; decide) (by first | (rw [hRc]; decide) | omega) (by first | (rw [hRs]; decide) | omega) dX5_sift_17 (fun r9 M_7 H locs hq hw => ?_)
    obtain ⟨z_8, rfl, hM9, hz_8a, hz_8b, hz_8c⟩ := hq
    rw [hM9] at hw
    show W p l e R s m args below meth c H locs _ _ _ (F0 m 20 ls [.int (iN (z_8)), .ref a])
    refine x_if_ne (tgt := 27) hC ⟨by omega, by omega⟩ dX5_sift_20 (by decide) (fun c_9 => ?_) (fun c_9 => ?_)
    · refine x_const hC dX5_sift_27 ?_
      refine x_const hC dX5_sift_28 ?_
      refine x_callV hC hw (lv_size hl) (c_X5_refuse l G hRk_4 (p0 := 0) (by omega) (p1 := 2) (by omega) (by omega)) gX5_sift_X5_refuse rfl dv_X5_refuse hRk_4.1.1 rfl rfl (Nat.le_of_ble_eq_true rfl) (by rw [hRf]; decide) (by rw [hRl]; decide) (by first | (rw [hRc]; decide) | omega) (by first | (rw [hRs]; decide) | omega) dX5_sift_29 (fun r9 M_10 H locs hq hw => ?_)
      obtain ⟨z_12, thk_11, rfl, hz_12r, hx5k_11, hRk_11⟩ := hq
      have hsck_11 := hRk_11.sc.1
      show W p l e R s m args below meth c H locs _ _ _ (F0 m 32 ls [.int (iN (z_12))])
      refine x_if_eq (tgt := 37) hC ⟨by omega, by omega⟩ dX5_sift_32 (by decide) (fun c_13 => ?_) (fun c_13 => ?_)
      · replace hz_12r := (hz_12r.resolve_right (fun q9 => absurd (q9.1.symm.trans c_13) (by decide))).2
        refine lv_aload_n hC.1 hC.2.1 dX5_sift_37 rfl (lv_at hl 0 rfl) ?_
        refine lv_iload_n hC.1 hC.2.1 dX5_sift_38 rfl (lv_at hl 1 rfl) ?_
        refine x_callV hC hw (lv_size hl) (c_X5_touch l G hRk_11 (p0 := p0) (by first | assumption | omega) (by omega)) gX5_sift_X5_touch rfl dv_X5_touch hRk_11.1.1 rfl rfl (Nat.le_of_ble_eq_true rfl) (by rw [hRf]; decide) (by rw [hRl]; decide) (by first | (rw [hRc]; decide) | omega) (by first | (rw [hRs]; decide) | omega) dX5_sift_39 (fun r9 M_14 H locs hq hw => ?_)
        obtain ⟨hak_15, rfl, he0k_15, hx5k_15, hRk_15⟩ := hq
        have hsck_15 := hRk_15.sc.1
        show W p l e R s m args below meth c H locs _ _ _ (F0 m 42 ls [])
        refine x_const hC dX5_sift_42 ?_
        refine lv_istore_n (lv' := [(3, .int (iN (0))), (0, .ref a), (1, .int (iN (p0))), (2, .int (iN (p1)))]) hC.1 hC.2.1 dX5_sift_43 rfl hl (by decide) rfl (fun ls hl => ?_)
        refine x_const hC dX5_sift_44 ?_
        refine lv_istore (lv' := [(4, .int (iN (0))), (3, .int (iN (0))), (0, .ref a), (1, .int (iN (p0))), (2, .int (iN (p1)))]) hC.1 hC.2.1 dX5_sift_45 hl (by decide) rfl (fun ls hl => ?_)
        suffices hloop47 : ∀ (n9 : Nat) (n : Int) (j : Int) (M1 : HM) (br1 : Int) (V1 : BW) (hR1 : MGx G M1 a va oa wa ya wk thk_11 rfd br1 re la hak_15 kp kv qv qw fa fb V1 O fy Wv wt S) (hx1 : xI5 G M M1) (hV1 : V1 = upB V ((p0).toNat) (mapN (V ((p0).toNat)) (F_sift (V (p0).toNat) p1) (j).toNat)) (hbr1 : br1 = brL wt ((p0).toNat) (V ((p0).toNat)) (F_sift (V (p0).toNat) p1) (j).toNat br) (H : Heap) (locs : List Loc) (ls : Array Slot), (hmz47 : (100 - j).toNat < n9) → (hi0 : 0 ≤ j ∧ j ≤ 100) → (hi1 : 0 ≤ n ∧ n ≤ j) → (hcn : n = stN (V (p0).toNat) (F_sift (V (p0).toNat) p1) (j).toNat) → xD G (xA M s.heap.size) s M1 H locs → lv_has ls 5 [(0, .ref a), (1, .int (iN (p0))), (2, .int (iN (p1))), (3, .int (iN (n))), (4, .int (iN (j)))] → W p l e R s m args below meth c H locs _ _ _ (F0 m 47 ls []) by
          exact hloop47 _ 0 0 _ _ _ hRk_15 (xI5.tr (xI5.tr (hx5k_4) (hx5k_11)) (hx5k_15)) ml_0 bl_0 _ _ _ (Nat.lt_succ_self _) (by omega) (by omega) (rfl) hw (lv_sub hl [2, 3, 4, 1, 0] rfl)
        intro n9
        induction n9 with
        | zero => intro n j M1 br1 V1 hR1 hx1 hV1 hbr1 H locs ls hmz; exact absurd hmz (Nat.not_lt_zero _)
        | succ n9 ih47 =>
          intro n j M1 br1 V1 hR1 hx1 hV1 hbr1 H locs ls hmz47 hi0 hi1 hcn hw hl
          have hvj : V1 ((p0).toNat) (j).toNat = V ((p0).toNat) (j).toNat := ml_at hV1
          have hsc1 := hR1.sc.1
          refine lv_iload hC.1 hC.2.1 dX5_sift_47 (lv_at hl 4 rfl) ?_
          refine x_bipush hC dX5_sift_49 (by decide +kernel) ?_
          refine x_icmp_ge (tgt := 106) hC ⟨by omega, by omega⟩ ⟨by omega, by omega⟩ dX5_sift_51 (by decide) (fun c_16 => ?_) (fun c_16 => ?_)
          · refine lv_iload_n hC.1 hC.2.1 dX5_sift_106 rfl (lv_at hl 3 rfl) ?_
            exact x_iret hC hw dX5_sift_107 (by first | decide | omega) (by first | decide | omega) ⟨n, thk_11, rfl, ⟨by omega, by omega⟩, Or.inl ⟨by omega, ⟨⟨(by first | omega | trivial), (by first | omega | trivial)⟩, ⟨(by first | omega | trivial), (by first | omega | trivial)⟩⟩, (by have e9 : (j).toNat = 100 := (tn_eq (by omega)); rw [e9] at hcn; exact hcn), (by have e9 : (j).toNat = 100 := (tn_eq (by omega)); rw [e9] at hV1 hbr1; exact MGm.mut hV1 hR1 hK (bl_map hbr1) he0k_15 rfl)⟩⟩
          · refine lv_aload_n hC.1 hC.2.1 dX5_sift_54 rfl (lv_at hl 0 rfl) ?_
            refine x_get hC hw hR1.1.1 rfl hinX5 2 (by decide) (List.mem_cons_of_mem _ (List.mem_append_left _ (List.mem_append_left _ (List.mem_of_getElem? (i := 0) rfl)))) rfl dX5_sift_55 ?_
            refine lv_iload_n hC.1 hC.2.1 dX5_sift_58 rfl (lv_at hl 1 rfl) ?_
            refine x_ald4 hC hw hR1.1.2.1 (by omega) (by omega) (by omega) dX5_sift_59 ?_
            rw [hR1.fa' (show (p0).toNat < 3 from tn_lt (by omega) (by decide))]
            show W p l e R s m args below meth c _ _ _ _ _ (F0 m 60 ls [.ref (qv ((p0).toNat))])
            refine lv_iload hC.1 hC.2.1 dX5_sift_60 (lv_at hl 4 rfl) ?_
            refine x_ialdE (x := (V1 ((p0).toNat) ((j).toNat))) hC hw (hR1.rv (show ((p0).toNat) < 3 from tn_lt (by omega) (by decide))) (by omega) (by omega) (by omega) dX5_sift_62 rfl ?_
            have hrv_17 := hR1.vr (show ((p0).toNat) < 3 from tn_lt (by omega) (by decide)) (show (j).toNat < 100 from tn_lt (by omega) (by decide))
            have hpv_17 := hR1.vs (show ((p0).toNat) < 3 from tn_lt (by omega) (by decide)) (show (j).toNat < 100 from tn_lt (by omega) (by decide))
            refine x_sipush hC dX5_sift_63 (by decide +kernel) ?_
            refine x_icmp_eq (tgt := 100) hC ⟨by omega, by omega⟩ ⟨by omega, by omega⟩ dX5_sift_66 (by decide) (fun c_18 => ?_) (fun c_18 => ?_)
            · refine x_iinc (lv' := [(4, .int (iN (j + 1))), (0, .ref a), (1, .int (iN (p0))), (2, .int (iN (p1))), (3, .int (iN (n)))]) hC dX5_sift_100 hl (k := 4) rfl (by decide) rfl (fun ls hl => ?_)
              refine lv_goto (tgt := 47) hC.1 hC.2.1 dX5_sift_103 (by decide) ?_
              have hF9 : (F_sift (V (p0).toNat) p1) (j).toNat = V ((p0).toNat) (j).toNat := (by simp only [F_sift]; rw [if_neg (fun q9 => q9.1 (by omega))])
              exact ih47 n (j + 1) _ _ _ hR1 hx1 (ml_skip (by omega) hV1 hF9) (bl_skip (by omega) hbr1 hF9) _ _ _ (by first | exact mu_s hmz47 (by omega) | omega) (by omega) (by omega) (by rw [stN_s (by omega) rfl, if_neg (fun q8 => by have e8 := q8.2; rw [hF9] at e8; exact q8.1 e8)]; omega) hw (lv_sub hl [1, 2, 3, 4, 0] rfl)
            · refine lv_aload_n hC.1 hC.2.1 dX5_sift_69 rfl (lv_at hl 0 rfl) ?_
              refine x_get hC hw hR1.1.1 rfl hinX5 2 (by decide) (List.mem_cons_of_mem _ (List.mem_append_left _ (List.mem_append_left _ (List.mem_of_getElem? (i := 0) rfl)))) rfl dX5_sift_70 ?_
              refine lv_iload_n hC.1 hC.2.1 dX5_sift_73 rfl (lv_at hl 1 rfl) ?_
              refine x_ald4 hC hw hR1.1.2.1 (by omega) (by omega) (by omega) dX5_sift_74 ?_
              rw [hR1.fa' (show (p0).toNat < 3 from tn_lt (by omega) (by decide))]
              show W p l e R s m args below meth c _ _ _ _ _ (F0 m 75 ls [.ref (qv ((p0).toNat))])
              refine lv_iload hC.1 hC.2.1 dX5_sift_75 (lv_at hl 4 rfl) ?_
              refine x_ialdE (x := (V1 ((p0).toNat) ((j).toNat))) hC hw (hR1.rv (show ((p0).toNat) < 3 from tn_lt (by omega) (by decide))) (by omega) (by omega) (by omega) dX5_sift_77 rfl ?_
              have hrv_19 := hR1.vr (show ((p0).toNat) < 3 from tn_lt (by omega) (by decide)) (show (j).toNat < 100 from tn_lt (by omega) (by decide))
              have hpv_19 := hR1.vs (show ((p0).toNat) < 3 from tn_lt (by omega) (by decide)) (show (j).toNat < 100 from tn_lt (by omega) (by decide))
              refine lv_iload_n hC.1 hC.2.1 dX5_sift_78 rfl (lv_at hl 2 rfl) ?_
              refine x_irem hC ⟨by omega, by omega⟩ ⟨by omega, by omega⟩ (by omega) (by omega) dX5_sift_79 ?_
              obtain ⟨z_20, hz_20⟩ : ∃ z : Int, z = (V1 ((p0).toNat) ((j).toNat)).tmod p1 := ⟨_, rfl⟩
              rw [← hz_20]
              have hrz_20 : -2147483648 ≤ z_20 ∧ z_20 ≤ 2147483647 := by rw [hz_20]; exact x_tmod_rng ⟨by omega, by omega⟩ (by omega)
              refine x_if_eq (tgt := 86) hC ⟨by omega, by omega⟩ dX5_sift_80 (by decide) (fun c_21 => ?_) (fun c_21 => ?_)
              · refine lv_aload_n hC.1 hC.2.1 dX5_sift_86 rfl (lv_at hl 0 rfl) ?_
                refine lv_iload_n hC.1 hC.2.1 dX5_sift_87 rfl (lv_at hl 1 rfl) ?_
                refine lv_iload hC.1 hC.2.1 dX5_sift_88 (lv_at hl 4 rfl) ?_
                refine x_sipush hC dX5_sift_90 (by decide +kernel) ?_
                refine x_callV hC hw (lv_size hl) (c_X5_set l G hR1 (p0 := p0) (by first | assumption | omega) (p1 := j) (by omega) (p2 := (-10000)) (by omega) (by omega) (by omega) (by omega) (fun q9 => absurd rfl q9)) gX5_sift_X5_set rfl dv_X5_set hR1.1.1 rfl rfl (Nat.le_of_ble_eq_true rfl) (by rw [hRf]; decide) (by rw [hRl]; decide) (by first | (rw [hRc]; decide) | omega) (by first | (rw [hRs]; decide) | omega) dX5_sift_93 (fun r9 M_22 H locs hq hw => ?_)
                obtain ⟨z_24, brk_23, Vk_23, rfl, hz_24a, hz_24v, hz_24b, he0k_23, he1k_23, hx5k_23, hRk_23⟩ := hq
                have hsck_23 := hRk_23.sc.1
                show W p l e R s m args below meth c H locs _ _ _ (F0 m 96 ls [.int (iN (z_24))])
                refine lv_pop hC.1 hC.2.1 dX5_sift_96 rfl ?_
                refine x_iinc (lv' := [(3, .int (iN (n + 1))), (0, .ref a), (1, .int (iN (p0))), (2, .int (iN (p1))), (4, .int (iN (j)))]) hC dX5_sift_97 hl (k := 3) rfl (by decide) rfl (fun ls hl => ?_)
                refine x_iinc (lv' := [(4, .int (iN (j + 1))), (3, .int (iN (n + 1))), (0, .ref a), (1, .int (iN (p0))), (2, .int (iN (p1)))]) hC dX5_sift_100 hl (k := 4) rfl (by decide) rfl (fun ls hl => ?_)
                refine lv_goto (tgt := 47) hC.1 hC.2.1 dX5_sift_103 (by decide) ?_
                have hF9 : (-10000) = (F_sift (V (p0).toNat) p1) (j).toNat := (by simp only [F_sift]; rw [if_pos ⟨by omega, by rw [← hvj, ← hz_20]; omega⟩])
                exact ih47 (n + 1) (j + 1) _ _ _ hRk_23 (xI5.tr hx1 (hx5k_23)) (ml_set (by omega) hV1 he1k_23 hF9) (bl_set (by omega) hV1 hbr1 hF9 he0k_23) _ _ _ (by first | exact mu_s hmz47 (by omega) | omega) (by omega) (by omega) (by rw [stN_s (by omega) rfl, if_pos ⟨by omega, hF9.symm⟩]; omega) hw (lv_sub hl [2, 3, 4, 1, 0] rfl)
              · refine lv_goto (tgt := 100) hC.1 hC.2.1 dX5_sift_83 (by decide) ?_
                refine x_iinc (lv' := [(4, .int (iN (j + 1))), (0, .ref a), (1, .int (iN (p0))), (2, .int (iN (p1))), (3, .int (iN (n)))]) hC dX5_sift_100 hl (k := 4) rfl (by decide) rfl (fun ls hl => ?_)
                refine lv_goto (tgt := 47) hC.1 hC.2.1 dX5_sift_103 (by decide) ?_
                have hF9 : (F_sift (V (p0).toNat) p1) (j).toNat = V ((p0).toNat) (j).toNat := (by simp only [F_sift]; rw [if_neg (fun q9 => by have e9 := q9.2; rw [← hvj, ← hz_20] at e9; omega)])
                exact ih47 n (j + 1) _ _ _ hR1 hx1 (ml_skip (by omega) hV1 hF9) (bl_skip (by omega) hbr1 hF9) _ _ _ (by first | exact mu_s hmz47 (by omega) | omega) (by omega) (by omega) (by rw [stN_s (by omega) rfl, if_neg (fun q8 => by have e8 := q8.2; rw [hF9] at e8; exact q8.1 e8)]; omega) hw (lv_sub hl [1, 2, 3, 4, 0] rfl)
      · replace hz_12r := (hz_12r.resolve_left (fun q9 => c_13 q9.1)).2
        refine x_const hC dX5_sift_35 ?_
        exact x_iret hC hw dX5_sift_36 (by first | decide | omega) (by first | decide | omega) ⟨0, thk_11, rfl, by omega, Or.inr ⟨by omega, by omega, MGm.of hRk_11 hK⟩⟩
    · refine x_const hC dX5_sift_23 ?_
      refine lv_goto (tgt := 28) hC.1 hC.2.1 dX5_sift_24 (by decide) ?_
      refine x_const hC dX5_sift_28 ?_
      refine x_callV hC hw (lv_size hl) (c_X5_refuse l G hRk_4 (p0 := 1) (by omega) (p1 := 2) (by omega) (by omega)) gX5_sift_X5_refuse rfl dv_X5_refuse hRk_4.1.1 rfl rfl (Nat.le_of_ble_eq_true rfl) (by rw [hRf]; decide) (by rw [hRl]; decide) (by first | (rw [hRc]; decide) | omega) (by first | (rw [hRs]; decide) | omega) dX5_sift_29 (fun r9 M_25 H locs hq hw => ?_)
      obtain ⟨z_27, thk_26, rfl, hz_27r, hx5k_26, hRk_26⟩ := hq
      have hsck_26 := hRk_26.sc.1
      show W p l e R s m args below meth c H locs _ _ _ (F0 m 32 ls [.int (iN (z_27))])
      refine x_if_eq (tgt := 37) hC ⟨by omega, by omega⟩ dX5_sift_32 (by decide) (fun c_28 => ?_) (fun c_28 => ?_)
      · replace hz_27r := (hz_27r.resolve_right (fun q9 => absurd (q9.1.symm.trans c_28) (by decide))).2
        exact absurd hz_27r.2.2 (by decide)
      · replace hz_27r := (hz_27r.resolve_left (fun q9 => c_28 q9.1)).2
        refine x_const hC dX5_sift_35 ?_
        exact x_iret hC hw dX5_sift_36 (by first | decide | omega) (by first | decide | omega) ⟨0, thk_26, rfl, by omega, Or.inr ⟨by omega, by omega, MGm.of hRk_26 hK⟩⟩
set_option maxHeartbeats 4000000 in
set_option maxRecDepth 100000 in
theorem c_X5_having (l : Launch) (G : xG) {M : HM} {a va oa wa ya : Nat} {wk : Option Nat} {th : Int} {rfd : Int32} {br re la ha : Int} {kp kv : Int32} {qv qw : Nat → Nat} {fa fb : Nat → Option Nat} {V : BW} {O : OW} {fy : Nat → Option Nat} {Wv : VW} {wt : Option VT} {S : Nat → Bool} (hR : MGx G M a va oa wa ya wk th rfd br re la ha kp kv qv qw fa fb V O fy Wv wt S) {p0 : Int} (hp0 : -2147483648 ≤ p0 ∧ p0 ≤ 2147483647) {p1 : Int} (hp1 : -2147483648 ≤ p1 ∧ p1 ≤ 2147483647) (hob : 0 ≤ p0 ∧ p0 ≤ 2) : xMet l G yX5_having wsX5_having 1 20 0 0 [.ref a, .int (iN (p0)), .int (iN (p1))] M (fun r M1 => ∃ z : Int, r = some (.int (iN z)) ∧ M1 = M ∧ (0 ≤ z ∧ z ≤ 100) ∧ z = cvN (V p0.toNat) p1 100) := by
  refine x_intro (cc := cX5_having) (maxL := 8) (ret := (some .int)) (by exact pln_RX5) rfl (Nat.le_of_ble_eq_true rfl) ?_
  intro p e R s m args below meth c ls hRf hRc hRs hRl hC hw hl
  have hsc0 := hR.sc.1
  have hinX5 : ∀ w ∈ wsX50, w ∈ wsX5_having := fun w h => (List.mem_cons_of_mem _ (List.mem_append_right _ h))
  have hl : lv_has ls 8 [(0, .ref a), (1, .int (iN (p0))), (2, .int (iN (p1)))] := hl
  refine x_const hC dX5_having_0 ?_
  refine lv_istore_n (lv' := [(3, .int (iN (0))), (0, .ref a), (1, .int (iN (p0))), (2, .int (iN (p1)))]) hC.1 hC.2.1 dX5_having_1 rfl hl (by decide) rfl (fun ls hl => ?_)
  refine lv_aload_n hC.1 hC.2.1 dX5_having_2 rfl (lv_at hl 1 rfl) ?_
  refine x_get hC hw hR.1.1 rfl hinX5 2 (by decide) (List.mem_cons_of_mem _ (List.mem_append_left _ (List.mem_of_getElem? (i := 0) rfl))) rfl dX5_having_3 ?_
  refine lv_iload_n hC.1 hC.2.1 dX5_having_6 rfl (lv_at hl 2 rfl) ?_
  refine x_ald4 hC hw hR.1.2.1 (by omega) (by omega) (by omega) dX5_having_7 ?_
  rw [hR.fa' (show (p0).toNat < 3 from tn_lt (by omega) (by decide))]
  show W p l e R s m args below meth c _ _ _ _ _ (F0 m 8 ls [.ref (qv ((p0).toNat))])
  refine lv_astore (lv' := [(4, .ref (qv ((p0).toNat))), (3, .int (iN (0))), (0, .ref a), (1, .int (iN (p0))), (2, .int (iN (p1)))]) hC.1 hC.2.1 dX5_having_8 hl (by decide) rfl (fun ls hl => ?_)
  refine lv_aload hC.1 hC.2.1 dX5_having_10 (lv_at hl 0 rfl) ?_
  refine x_alen hC hw 1 (hR.rv (show ((p0).toNat) < 3 from tn_lt (by omega) (by decide))) rfl dX5_having_12 ?_
  refine lv_istore (lv' := [(5, .int (iN (100))), (4, .ref (qv ((p0).toNat))), (3, .int (iN (0))), (0, .ref a), (1, .int (iN (p0))), (2, .int (iN (p1)))]) hC.1 hC.2.1 dX5_having_13 hl (by decide) rfl (fun ls hl => ?_)
  refine x_const hC dX5_having_15 ?_
  refine lv_istore (lv' := [(6, .int (iN (0))), (5, .int (iN (100))), (4, .ref (qv ((p0).toNat))), (3, .int (iN (0))), (0, .ref a), (1, .int (iN (p0))), (2, .int (iN (p1)))]) hC.1 hC.2.1 dX5_having_16 hl (by decide) rfl (fun ls hl => ?_)
  suffices hloop18 : ∀ (n9 : Nat) (n : Int) (j : Int) (H : Heap) (locs : List Loc) (ls : Array Slot), (hmz18 : (100 - j).toNat < n9) → (hi0 : 0 ≤ j ∧ j ≤ 100) → (hi1 : 0 ≤ n ∧ n ≤ j) → (hcn : n = cvN (V (p0).toNat) p1 (j).toNat) → xD G (xA M s.heap.size) s M H locs → lv_has ls 8 [(0, .ref a), (1, .int (iN (p0))), (2, .int (iN (p1))), (3, .int (iN (n))), (4, .ref (qv (p0).toNat)), (5, .int (iN (100))), (6, .int (iN (j)))] → W p l e R s m args below meth c H locs _ _ _ (F0 m 18 ls []) by
    exact hloop18 _ 0 0  _ _ _ (Nat.lt_succ_self _) (by omega) (by omega) (rfl) hw (lv_sub hl [4, 5, 6, 3, 2, 1, 0] rfl)
  intro n9
  induction n9 with
  | zero => intro n j  H locs ls hmz; exact absurd hmz (Nat.not_lt_zero _)
  | succ n9 ih18 =>
    intro n j  H locs ls hmz18 hi0 hi1 hcn hw hl
    refine lv_iload hC.1 hC.2.1 dX5_having_18 (lv_at hl 6 rfl) ?_
    refine lv_iload hC.1 hC.2.1 dX5_having_20 (lv_at hl 5 rfl) ?_
    refine x_icmp_ge (tgt := 55) hC ⟨by omega, by omega⟩ ⟨by omega, by omega⟩ dX5_having_22 (by decide) (fun c_1 => ?_) (fun c_1 => ?_)
    · refine lv_iload_n hC.1 hC.2.1 dX5_having_55 rfl (lv_at hl 3 rfl) ?_
      exact x_iret hC hw dX5_having_56 (by first | decide | omega) (by first | decide | omega) ⟨n, rfl, rfl, by omega, by rw [show (100 : Nat) = (j).toNat from (tn_eq (by omega)).symm]; exact hcn⟩
    · refine lv_aload hC.1 hC.2.1 dX5_having_25 (lv_at hl 4 rfl) ?_
      refine lv_iload hC.1 hC.2.1 dX5_having_27 (lv_at hl 6 rfl) ?_
      refine x_ialdE (x := (V ((p0).toNat) ((j).toNat))) hC hw (hR.rv (show (p0).toNat < 3 from tn_lt (by omega) (by decide))) (by omega) (by omega) (by omega) dX5_having_29 rfl ?_
      have hrv_2 := hR.vr (show (p0).toNat < 3 from tn_lt (by omega) (by decide)) (show (j).toNat < 100 from tn_lt (by omega) (by decide))
      have hpv_2 := hR.vs (show (p0).toNat < 3 from tn_lt (by omega) (by decide)) (show (j).toNat < 100 from tn_lt (by omega) (by decide))
      refine lv_istore (lv' := [(7, .int (iN ((V ((p0).toNat) ((j).toNat))))), (0, .ref a), (1, .int (iN (p0))), (2, .int (iN (p1))), (3, .int (iN (n))), (4, .ref (qv (p0).toNat)), (5, .int (iN (100))), (6, .int (iN (j)))]) hC.1 hC.2.1 dX5_having_30 hl (by decide) rfl (fun ls hl => ?_)
      refine lv_iload_n hC.1 hC.2.1 dX5_having_32 rfl (lv_at hl 4 rfl) ?_
      refine lv_iload hC.1 hC.2.1 dX5_having_33 (lv_at hl 0 rfl) ?_
      refine lv_iload_n hC.1 hC.2.1 dX5_having_35 rfl (lv_at hl 3 rfl) ?_
      refine x_icmp_ne (tgt := 43) hC ⟨by omega, by omega⟩ ⟨by omega, by omega⟩ dX5_having_36 (by decide) (fun c_3 => ?_) (fun c_3 => ?_)
      · refine x_const hC dX5_having_43 ?_
        refine x_callS hC hw (lv_size hl) (c_X5_one l G (M := M) (p0 := 0) (by omega)) gX5_having_X5_one rfl dv_X5_one_s rfl (Nat.le_of_ble_eq_true rfl) (by rw [hRf]; decide) (by rw [hRl]; decide) (by first | (rw [hRc]; decide) | omega) (by first | (rw [hRs]; decide) | omega) dX5_having_44 (fun r9 M_4 H locs hq hw => ?_)
        obtain ⟨z_5, rfl, hM9, hz_5a, hz_5b⟩ := hq
        rw [hM9] at hw
        show W p l e R s m args below meth c H locs _ _ _ (F0 m 47 ls [.int (iN (z_5)), .int (iN (n))])
        refine x_iadd hC dX5_having_47 ?_
        refine lv_istore_n (lv' := [(3, .int (iN (n + z_5))), (7, .int (iN ((V ((p0).toNat) ((j).toNat))))), (0, .ref a), (1, .int (iN (p0))), (2, .int (iN (p1))), (4, .ref (qv (p0).toNat)), (5, .int (iN (100))), (6, .int (iN (j)))]) hC.1 hC.2.1 dX5_having_48 rfl hl (by decide) rfl (fun ls hl => ?_)
        refine x_iinc (lv' := [(6, .int (iN (j + 1))), (3, .int (iN (n + z_5))), (7, .int (iN ((V ((p0).toNat) ((j).toNat))))), (0, .ref a), (1, .int (iN (p0))), (2, .int (iN (p1))), (4, .ref (qv (p0).toNat)), (5, .int (iN (100)))]) hC dX5_having_49 hl (k := 7) rfl (by decide) rfl (fun ls hl => ?_)
        refine lv_goto (tgt := 18) hC.1 hC.2.1 dX5_having_52 (by decide) ?_
        exact ih18 (n + z_5) (j + 1)  _ _ _ (by first | exact mu_s hmz18 (by omega) | omega) (by omega) (by omega) (by rw [cvN_s (b := (p0).toNat) (by omega) rfl]; omega) hw (lv_sub hl [3, 4, 5, 1, 6, 7, 0] rfl)
      · refine x_const hC dX5_having_39 ?_
        refine lv_goto (tgt := 44) hC.1 hC.2.1 dX5_having_40 (by decide) ?_
        refine x_callS hC hw (lv_size hl) (c_X5_one l G (M := M) (p0 := 1) (by omega)) gX5_having_X5_one rfl dv_X5_one_s rfl (Nat.le_of_ble_eq_true rfl) (by rw [hRf]; decide) (by rw [hRl]; decide) (by first | (rw [hRc]; decide) | omega) (by first | (rw [hRs]; decide) | omega) dX5_having_44 (fun r9 M_6 H locs hq hw => ?_)
        obtain ⟨z_7, rfl, hM9, hz_7a, hz_7b⟩ := hq
        rw [hM9] at hw
        show W p l e R s m args below meth c H locs _ _ _ (F0 m 47 ls [.int (iN (z_7)), .int (iN (n))])
        refine x_iadd hC dX5_having_47 ?_
        refine lv_istore_n (lv' := [(3, .int (iN (n + z_7))), (7, .int (iN ((V ((p0).toNat) ((j).toNat))))), (0, .ref a), (1, .int (iN (p0))), (2, .int (iN (p1))), (4, .ref (qv (p0).toNat)), (5, .int (iN (100))), (6, .int (iN (j)))]) hC.1 hC.2.1 dX5_having_48 rfl hl (by decide) rfl (fun ls hl => ?_)
        refine x_iinc (lv' := [(6, .int (iN (j + 1))), (3, .int (iN (n + z_7))), (7, .int (iN ((V ((p0).toNat) ((j).toNat))))), (0, .ref a), (1, .int (iN (p0))), (2, .int (iN (p1))), (4, .ref (qv (p0).toNat)), (5, .int (iN (100)))]) hC dX5_having_49 hl (k := 7) rfl (by decide) rfl (fun ls hl => ?_)
        refine lv_goto (tgt := 18) hC.1 hC.2.1 dX5_having_52 (by decide) ?_
        exact ih18 (n + z_7) (j + 1)  _ _ _ (by first | exact mu_s hmz18 (by omega) | omega) (by omega) (by omega) (by rw [cvN_s (b := (p0).toNat) (by omega) rfl]; omega) hw (lv_sub hl [3, 4, 5, 1, 6, 7, 0] rfl)
set_option maxHeartbeats 4000000 in
set_option maxRecDepth 100000 in
theorem c_X5_strikeValue (l : Launch) (G : xG) {M : HM} {a va oa wa ya : Nat} {wk : Option Nat} {th : Int} {rfd : Int32} {br re la ha : Int} {kp kv : Int32} {qv qw : Nat → Nat} {fa fb : Nat → Option Nat} {V : BW} {O : OW} {fy : Nat → Option Nat} {Wv : VW} {wt : Option VT} {S : Nat → Bool} (hR : MGx G M a va oa wa ya wk th rfd br re la ha kp kv qv qw fa fb V O fy Wv wt S) {K : WA} (hK : abM O wt br re la ha K) {p0 : Int} (hp0 : -2147483648 ≤ p0 ∧ p0 ≤ 2147483647) {p1 : Int} (hp1 : -2147483648 ≤ p1 ∧ p1 ≤ 2147483647) : xMet l G yX5_strikeValue wsX5_strikeValue 2 47 0 0 [.ref a, .int (iN (p0)), .int (iN (p1))] M (fun r M1 => ∃ (z th1 : Int), r = some (.int (iN z)) ∧ (z = 0 ∨ z = 1) ∧ ((th1 = 0 ∧ ((0 ≤ p0 ∧ p0 ≤ 2) ∧ (-9999 ≤ p1 ∧ p1 ≤ 9999) ∧ (cvN (V p0.toNat) p1 100 ≤ 1)) ∧ z = A_strikeValue (O, V, Wv, K, kp, kv, rfd) p0 p1 ∧ MGm G M1 a S th1 (S_strikeValue (O, V, Wv, K, kp, kv, rfd) p0 p1)) ∨ (th1 ≠ 0 ∧ ((th1 = 1 ∧ ¬ (0 ≤ p0 ∧ p0 ≤ 2)) ∨ (th1 = 2 ∧ (0 ≤ p0 ∧ p0 ≤ 2) ∧ ¬ (-9999 ≤ p1 ∧ p1 ≤ 9999)) ∨ (th1 = 3 ∧ (0 ≤ p0 ∧ p0 ≤ 2) ∧ (-9999 ≤ p1 ∧ p1 ≤ 9999) ∧ ¬ (cvN (V p0.toNat) p1 100 ≤ 1))) ∧ MGm G M1 a S th1 (O, V, Wv, K, kp, kv, rfd)))) := by
  refine x_intro (cc := cX5_strikeValue) (maxL := 4) (ret := (some .boolean)) (by exact pln_RX5) rfl (Nat.le_of_ble_eq_true rfl) ?_
  intro p e R s m args below meth c ls hRf hRc hRs hRl hC hw hl
  have hsc0 := hR.sc.1
  have hinX5 : ∀ w ∈ wsX50, w ∈ wsX5_strikeValue := fun w h => (List.mem_cons_of_mem _ (List.mem_append_right _ h))
  have hl : lv_has ls 4 [(0, .ref a), (1, .int (iN (p0))), (2, .int (iN (p1)))] := hl
  refine lv_aload_n hC.1 hC.2.1 dX5_strikeValue_0 rfl (lv_at hl 0 rfl) ?_
  refine lv_iload_n hC.1 hC.2.1 dX5_strikeValue_1 rfl (lv_at hl 1 rfl) ?_
  refine x_callS hC hw (lv_size hl) (c_X5_isNoBook l G (M := M) (p0 := p0) (by first | assumption | omega)) gX5_strikeValue_X5_isNoBook rfl dv_X5_isNoBook_s rfl (Nat.le_of_ble_eq_true rfl) (by rw [hRf]; decide) (by rw [hRl]; decide) (by first | (rw [hRc]; decide) | omega) (by first | (rw [hRs]; decide) | omega) dX5_strikeValue_2 (fun r9 M_1 H locs hq hw => ?_)
  obtain ⟨z_2, rfl, hM9, hz_2a, hz_2b⟩ := hq
  rw [hM9] at hw
  show W p l e R s m args below meth c H locs _ _ _ (F0 m 5 ls [.int (iN (z_2)), .ref a])
  refine x_const hC dX5_strikeValue_5 ?_
  refine x_callV hC hw (lv_size hl) (c_X5_start l G hR (p0 := z_2) (by omega) (p1 := 1) (by omega) (by omega)) gX5_strikeValue_X5_start rfl dv_X5_start hR.1.1 rfl rfl (Nat.le_of_ble_eq_true rfl) (by rw [hRf]; decide) (by rw [hRl]; decide) (by first | (rw [hRc]; decide) | omega) (by first | (rw [hRs]; decide) | omega) dX5_strikeValue_6 (fun r9 M_3 H locs hq hw => ?_)
  obtain ⟨z_5, thk_4, rfl, hz_5r, hx5k_4, hRk_4⟩ := hq
  have hsck_4 := hRk_4.sc.1
  show W p l e R s m args below meth c H locs _ _ _ (F0 m 9 ls [.int (iN (z_5))])
  refine x_if_ne (tgt := 47) hC ⟨by omega, by omega⟩ dX5_strikeValue_9 (by decide) (fun c_6 => ?_) (fun c_6 => ?_)
  · replace hz_5r := (hz_5r.resolve_left (fun q9 => c_6 q9.1)).2
    replace hz_2b := mt hz_2b.mpr hz_5r.1
    refine x_const hC dX5_strikeValue_47 ?_
    exact x_zret hC hw (by omega) dX5_strikeValue_48 (by first | decide | omega) (by first | decide | omega) ⟨0, thk_4, rfl, by omega, Or.inr ⟨by omega, by omega, MGm.of hRk_4 hK⟩⟩
  · replace hz_5r := (hz_5r.resolve_right (fun q9 => absurd (q9.1.symm.trans c_6) (by decide))).2
    replace hz_2b := hz_2b.mp hz_5r.2
    refine lv_aload_n hC.1 hC.2.1 dX5_strikeValue_12 rfl (lv_at hl 0 rfl) ?_
    refine lv_iload_n hC.1 hC.2.1 dX5_strikeValue_13 rfl (lv_at hl 2 rfl) ?_
    refine x_callS hC hw (lv_size hl) (c_X5_isNoValue l G (M := M_3) (p0 := p1) (by first | assumption | omega)) gX5_strikeValue_X5_isNoValue rfl dv_X5_isNoValue_s rfl (Nat.le_of_ble_eq_true rfl) (by rw [hRf]; decide) (by rw [hRl]; decide) (by first | (rw [hRc]; decide) | omega) (by first | (rw [hRs]; decide) | omega) dX5_strikeValue_14 (fun r9 M_7 H locs hq hw => ?_)
    obtain ⟨z_8, rfl, hM9, hz_8a, hz_8b⟩ := hq
    rw [hM9] at hw
    show W p l e R s m args below meth c H locs _ _ _ (F0 m 17 ls [.int (iN (z_8)), .ref a])
    refine x_const hC dX5_strikeValue_17 ?_
    refine x_callV hC hw (lv_size hl) (c_X5_refuse l G hRk_4 (p0 := z_8) (by omega) (p1 := 2) (by omega) (by omega)) gX5_strikeValue_X5_refuse rfl dv_X5_refuse hRk_4.1.1 rfl rfl (Nat.le_of_ble_eq_true rfl) (by rw [hRf]; decide) (by rw [hRl]; decide) (by first | (rw [hRc]; decide) | omega) (by first | (rw [hRs]; decide) | omega) dX5_strikeValue_18 (fun r9 M_9 H locs hq hw => ?_)
    obtain ⟨z_11, thk_10, rfl, hz_11r, hx5k_10, hRk_10⟩ := hq
    have hsck_10 := hRk_10.sc.1
    show W p l e R s m args below meth c H locs _ _ _ (F0 m 21 ls [.int (iN (z_11))])
    refine x_if_ne (tgt := 47) hC ⟨by omega, by omega⟩ dX5_strikeValue_21 (by decide) (fun c_12 => ?_) (fun c_12 => ?_)
    · replace hz_11r := (hz_11r.resolve_left (fun q9 => c_12 q9.1)).2
      refine x_const hC dX5_strikeValue_47 ?_
      exact x_zret hC hw (by omega) dX5_strikeValue_48 (by first | decide | omega) (by first | decide | omega) ⟨0, thk_10, rfl, by omega, Or.inr ⟨by omega, by omega, MGm.of hRk_10 hK⟩⟩
    · replace hz_11r := (hz_11r.resolve_right (fun q9 => absurd (q9.1.symm.trans c_12) (by decide))).2
      replace hz_8b := hz_8b.mp hz_11r.2.2
      refine lv_aload_n hC.1 hC.2.1 dX5_strikeValue_24 rfl (lv_at hl 0 rfl) ?_
      refine lv_aload_n hC.1 hC.2.1 dX5_strikeValue_25 rfl (lv_at hl 0 rfl) ?_
      refine lv_iload_n hC.1 hC.2.1 dX5_strikeValue_26 rfl (lv_at hl 1 rfl) ?_
      refine lv_iload_n hC.1 hC.2.1 dX5_strikeValue_27 rfl (lv_at hl 2 rfl) ?_
      refine x_callV hC hw (lv_size hl) (c_X5_having l G hRk_10 (p0 := p0) (by first | assumption | omega) (p1 := p1) (by first | assumption | omega) (by omega)) gX5_strikeValue_X5_having rfl dv_X5_having hRk_10.1.1 rfl rfl (Nat.le_of_ble_eq_true rfl) (by rw [hRf]; decide) (by rw [hRl]; decide) (by first | (rw [hRc]; decide) | omega) (by first | (rw [hRs]; decide) | omega) dX5_strikeValue_28 (fun r9 M_13 H locs hq hw => ?_)
      obtain ⟨z_14, rfl, hM9, hz_14a, hz_14c⟩ := hq
      rw [hM9] at hw
      show W p l e R s m args below meth c H locs _ _ _ (F0 m 31 ls [.int (iN (z_14)), .ref a])
      refine x_const hC dX5_strikeValue_31 ?_
      refine x_icmp_le (tgt := 39) hC ⟨by omega, by omega⟩ ⟨by omega, by omega⟩ dX5_strikeValue_32 (by decide) (fun c_15 => ?_) (fun c_15 => ?_)
      · refine x_const hC dX5_strikeValue_39 ?_
        refine x_const hC dX5_strikeValue_40 ?_
        refine x_callV hC hw (lv_size hl) (c_X5_refuse l G hRk_10 (p0 := 0) (by omega) (p1 := 3) (by omega) (by omega)) gX5_strikeValue_X5_refuse rfl dv_X5_refuse hRk_10.1.1 rfl rfl (Nat.le_of_ble_eq_true rfl) (by rw [hRf]; decide) (by rw [hRl]; decide) (by first | (rw [hRc]; decide) | omega) (by first | (rw [hRs]; decide) | omega) dX5_strikeValue_41 (fun r9 M_16 H locs hq hw => ?_)
        obtain ⟨z_18, thk_17, rfl, hz_18r, hx5k_17, hRk_17⟩ := hq
        have hsck_17 := hRk_17.sc.1
        show W p l e R s m args below meth c H locs _ _ _ (F0 m 44 ls [.int (iN (z_18))])
        refine x_if_eq (tgt := 49) hC ⟨by omega, by omega⟩ dX5_strikeValue_44 (by decide) (fun c_19 => ?_) (fun c_19 => ?_)
        · replace hz_18r := (hz_18r.resolve_right (fun q9 => absurd (q9.1.symm.trans c_19) (by decide))).2
          refine lv_aload_n hC.1 hC.2.1 dX5_strikeValue_49 rfl (lv_at hl 0 rfl) ?_
          refine lv_iload_n hC.1 hC.2.1 dX5_strikeValue_50 rfl (lv_at hl 1 rfl) ?_
          refine x_callV hC hw (lv_size hl) (c_X5_touch l G hRk_17 (p0 := p0) (by first | assumption | omega) (by omega)) gX5_strikeValue_X5_touch rfl dv_X5_touch hRk_17.1.1 rfl rfl (Nat.le_of_ble_eq_true rfl) (by rw [hRf]; decide) (by rw [hRl]; decide) (by first | (rw [hRc]; decide) | omega) (by first | (rw [hRs]; decide) | omega) dX5_strikeValue_51 (fun r9 M_20 H locs hq hw => ?_)
          obtain ⟨hak_21, rfl, he0k_21, hx5k_21, hRk_21⟩ := hq
          have hsck_21 := hRk_21.sc.1
          show W p l e R s m args below meth c H locs _ _ _ (F0 m 54 ls [])
          refine x_const hC dX5_strikeValue_54 ?_
          refine lv_istore_n (lv' := [(3, .int (iN (0))), (0, .ref a), (1, .int (iN (p0))), (2, .int (iN (p1)))]) hC.1 hC.2.1 dX5_strikeValue_55 rfl hl (by decide) rfl (fun ls hl => ?_)
          suffices hloop56 : ∀ (n9 : Nat) (j : Int) (H : Heap) (locs : List Loc) (ls : Array Slot), (hmz56 : (100 - j).toNat < n9) → (hi0 : 0 ≤ j ∧ j ≤ 100) → (hno : ∀ k : Nat, (k : Int) < j → V (p0).toNat k ≠ p1) → xD G (xA M s.heap.size) s M_20 H locs → lv_has ls 4 [(0, .ref a), (1, .int (iN (p0))), (2, .int (iN (p1))), (3, .int (iN (j)))] → W p l e R s m args below meth c H locs _ _ _ (F0 m 56 ls []) by
            exact hloop56 _ 0  _ _ _ (Nat.lt_succ_self _) (by omega) (fun k9 hk9 => absurd hk9 (by omega)) hw (lv_sub hl [1, 2, 3, 0] rfl)
          intro n9
          induction n9 with
          | zero => intro j  H locs ls hmz; exact absurd hmz (Nat.not_lt_zero _)
          | succ n9 ih56 =>
            intro j  H locs ls hmz56 hi0 hno hw hl
            refine lv_iload_n hC.1 hC.2.1 dX5_strikeValue_56 rfl (lv_at hl 3 rfl) ?_
            refine x_bipush hC dX5_strikeValue_57 (by decide +kernel) ?_
            refine x_icmp_ge (tgt := 95) hC ⟨by omega, by omega⟩ ⟨by omega, by omega⟩ dX5_strikeValue_59 (by decide) (fun c_22 => ?_) (fun c_22 => ?_)
            · refine x_const hC dX5_strikeValue_95 ?_
              exact x_zret hC hw (by omega) dX5_strikeValue_96 (by first | decide | omega) (by first | decide | omega) ⟨0, thk_17, rfl, by omega, Or.inl ⟨by omega, ⟨⟨(by first | omega | trivial), (by first | omega | trivial)⟩, ⟨(by first | omega | trivial), (by first | omega | trivial)⟩, (by first | omega | trivial)⟩, (by have e9 := cvN_no (X := V (p0).toNat) (v := p1) (fun k9 hk9 => hno k9 (by omega)); show _ = (if cvN (V (p0).toNat) p1 100 = 0 then 0 else 1); omega), (MGm.mut (F := V ((p0).toNat)) (upB_self rfl).symm hRk_21 hK bl_rf he0k_21 (sv_0 (cvN_no (fun k9 hk9 => hno k9 (by omega)))))⟩⟩
            · refine lv_aload_n hC.1 hC.2.1 dX5_strikeValue_62 rfl (lv_at hl 0 rfl) ?_
              refine x_get hC hw hRk_21.1.1 rfl hinX5 2 (by decide) (List.mem_cons_of_mem _ (List.mem_append_left _ (List.mem_append_left _ (List.mem_of_getElem? (i := 0) rfl)))) rfl dX5_strikeValue_63 ?_
              refine lv_iload_n hC.1 hC.2.1 dX5_strikeValue_66 rfl (lv_at hl 1 rfl) ?_
              refine x_ald4 hC hw hRk_21.1.2.1 (by omega) (by omega) (by omega) dX5_strikeValue_67 ?_
              rw [hRk_21.fa' (show (p0).toNat < 3 from tn_lt (by omega) (by decide))]
              show W p l e R s m args below meth c _ _ _ _ _ (F0 m 68 ls [.ref (qv ((p0).toNat))])
              refine lv_iload_n hC.1 hC.2.1 dX5_strikeValue_68 rfl (lv_at hl 3 rfl) ?_
              refine x_ialdE (x := (V ((p0).toNat) ((j).toNat))) hC hw (hRk_21.rv (show ((p0).toNat) < 3 from tn_lt (by omega) (by decide))) (by omega) (by omega) (by omega) dX5_strikeValue_69 rfl ?_
              have hrv_23 := hRk_21.vr (show ((p0).toNat) < 3 from tn_lt (by omega) (by decide)) (show (j).toNat < 100 from tn_lt (by omega) (by decide))
              have hpv_23 := hRk_21.vs (show ((p0).toNat) < 3 from tn_lt (by omega) (by decide)) (show (j).toNat < 100 from tn_lt (by omega) (by decide))
              refine lv_iload_n hC.1 hC.2.1 dX5_strikeValue_70 rfl (lv_at hl 2 rfl) ?_
              refine x_icmp_eq (tgt := 77) hC ⟨by omega, by omega⟩ ⟨by omega, by omega⟩ dX5_strikeValue_71 (by decide) (fun c_24 => ?_) (fun c_24 => ?_)
              · refine lv_aload_n hC.1 hC.2.1 dX5_strikeValue_77 rfl (lv_at hl 0 rfl) ?_
                refine lv_iload_n hC.1 hC.2.1 dX5_strikeValue_78 rfl (lv_at hl 1 rfl) ?_
                refine lv_iload_n hC.1 hC.2.1 dX5_strikeValue_79 rfl (lv_at hl 3 rfl) ?_
                refine x_sipush hC dX5_strikeValue_80 (by decide +kernel) ?_
                refine x_callV hC hw (lv_size hl) (c_X5_set l G hRk_21 (p0 := p0) (by first | assumption | omega) (p1 := j) (by omega) (p2 := (-10000)) (by omega) (by omega) (by omega) (by omega) (fun q9 => absurd rfl q9)) gX5_strikeValue_X5_set rfl dv_X5_set hRk_21.1.1 rfl rfl (Nat.le_of_ble_eq_true rfl) (by rw [hRf]; decide) (by rw [hRl]; decide) (by first | (rw [hRc]; decide) | omega) (by first | (rw [hRs]; decide) | omega) dX5_strikeValue_83 (fun r9 M_25 H locs hq hw => ?_)
                obtain ⟨z_27, brk_26, Vk_26, rfl, hz_27a, hz_27v, hz_27b, he0k_26, he1k_26, hx5k_26, hRk_26⟩ := hq
                have hsck_26 := hRk_26.sc.1
                show W p l e R s m args below meth c H locs _ _ _ (F0 m 86 ls [.int (iN (z_27))])
                refine lv_pop hC.1 hC.2.1 dX5_strikeValue_86 rfl ?_
                refine x_const hC dX5_strikeValue_87 ?_
                exact x_zret hC hw (by omega) dX5_strikeValue_88 (by first | decide | omega) (by first | decide | omega) ⟨1, thk_17, rfl, by omega, Or.inl ⟨by omega, ⟨⟨(by first | omega | trivial), (by first | omega | trivial)⟩, ⟨(by first | omega | trivial), (by first | omega | trivial)⟩, (by first | omega | trivial)⟩, (by have e9 := cvN_at (X := V (p0).toNat) (v := p1) (show (j).toNat < 100 from tn_lt (by omega) (by decide)) (by omega); show _ = (if cvN (V (p0).toNat) p1 100 = 0 then 0 else 1); omega), (MGm.mut he1k_26 hRk_26 hK (bl_one (by omega) he0k_26) he0k_21 ((rmV_1 (show j ≠ -10000 by omega)).symm.trans (sv_1 (by have e9 := hz_14c; omega) (by omega) (by omega))))⟩⟩
              · refine lv_goto (tgt := 89) hC.1 hC.2.1 dX5_strikeValue_74 (by decide) ?_
                refine x_iinc (lv' := [(3, .int (iN (j + 1))), (0, .ref a), (1, .int (iN (p0))), (2, .int (iN (p1)))]) hC dX5_strikeValue_89 hl (k := 3) rfl (by decide) rfl (fun ls hl => ?_)
                refine lv_goto (tgt := 56) hC.1 hC.2.1 dX5_strikeValue_92 (by decide) ?_
                exact ih56 (j + 1)  _ _ _ (by first | exact mu_s hmz56 (by omega) | omega) (by omega) (fun k9 hk9 => by by_cases e9 : (k9 : Int) < j; (· exact hno k9 e9); (· rw [show k9 = (j).toNat by omega]; omega)) hw (lv_sub hl [1, 2, 3, 0] rfl)
        · replace hz_18r := (hz_18r.resolve_left (fun q9 => c_19 q9.1)).2
          refine x_const hC dX5_strikeValue_47 ?_
          exact x_zret hC hw (by omega) dX5_strikeValue_48 (by first | decide | omega) (by first | decide | omega) ⟨0, thk_17, rfl, by omega, Or.inr ⟨by omega, by omega, MGm.of hRk_17 hK⟩⟩
      · refine x_const hC dX5_strikeValue_35 ?_
        refine lv_goto (tgt := 40) hC.1 hC.2.1 dX5_strikeValue_36 (by decide) ?_
        refine x_const hC dX5_strikeValue_40 ?_
        refine x_callV hC hw (lv_size hl) (c_X5_refuse l G hRk_10 (p0 := 1) (by omega) (p1 := 3) (by omega) (by omega)) gX5_strikeValue_X5_refuse rfl dv_X5_refuse hRk_10.1.1 rfl rfl (Nat.le_of_ble_eq_true rfl) (by rw [hRf]; decide) (by rw [hRl]; decide) (by first | (rw [hRc]; decide) | omega) (by first | (rw [hRs]; decide) | omega) dX5_strikeValue_41 (fun r9 M_28 H locs hq hw => ?_)
        obtain ⟨z_30, thk_29, rfl, hz_30r, hx5k_29, hRk_29⟩ := hq
        have hsck_29 := hRk_29.sc.1
        show W p l e R s m args below meth c H locs _ _ _ (F0 m 44 ls [.int (iN (z_30))])
        refine x_if_eq (tgt := 49) hC ⟨by omega, by omega⟩ dX5_strikeValue_44 (by decide) (fun c_31 => ?_) (fun c_31 => ?_)
        · replace hz_30r := (hz_30r.resolve_right (fun q9 => absurd (q9.1.symm.trans c_31) (by decide))).2
          exact absurd hz_30r.2.2 (by decide)
        · replace hz_30r := (hz_30r.resolve_left (fun q9 => c_31 q9.1)).2
          refine x_const hC dX5_strikeValue_47 ?_
          exact x_zret hC hw (by omega) dX5_strikeValue_48 (by first | decide | omega) (by first | decide | omega) ⟨0, thk_29, rfl, by omega, Or.inr ⟨by omega, by omega, MGm.of hRk_29 hK⟩⟩
