/-! the methods of the model, by program -/
set_option maxHeartbeats 4000000 in
set_option maxRecDepth 100000 in
theorem c_X5_shut (l : Launch) (G : xG) {M : HM} {a va oa wa ya : Nat} {wk : Option Nat} {th : Int} {rfd : Int32} {br re la ha : Int} {kp kv : Int32} {qv qw : Nat → Nat} {fa fb : Nat → Option Nat} {V : BW} {O : OW} {fy : Nat → Option Nat} {Wv : VW} {wt : Option VT} {S : Nat → Bool} (hR : MGx G M a va oa wa ya wk th rfd br re la ha kp kv qv qw fa fb V O fy Wv wt S) {K : WA} (hK : abM O wt br re la ha K) {p0 : Int} (hp0 : -2147483648 ≤ p0 ∧ p0 ≤ 2147483647) : xMet l G yX5_shut wsX5_shut 4 90 0 0 [.ref a, .int (iN (p0))] M (fun r M1 => ∃ (z th1 : Int), r = some (.int (iN z)) ∧ (-2147483648 ≤ z ∧ z ≤ 2147483647) ∧ ((th1 = 0 ∧ ((0 ≤ p0 ∧ p0 ≤ 3 ∧ opN (Wv p0.toNat) = 1)) ∧ z = A_shut (O, V, Wv, K, kp, kv, rfd) p0 ∧ MGm G M1 a S th1 (S_shut (O, V, Wv, K, kp, kv, rfd) p0)) ∨ (th1 ≠ 0 ∧ ((th1 = 1 ∧ ¬ (0 ≤ p0 ∧ p0 ≤ 3 ∧ opN (Wv p0.toNat) = 1))) ∧ MGm G M1 a S th1 (O, V, Wv, K, kp, kv, rfd)))) := by
  refine x_intro (cc := cX5_shut) (maxL := 3) (ret := (some .int)) (by exact pln_RX5) rfl (Nat.le_of_ble_eq_true rfl) ?_
  intro p e R s m args below meth c ls hRf hRc hRs hRl hC hw hl
  have hsc0 := hR.sc.1
  have hinX5 : ∀ w ∈ wsX50, w ∈ wsX5_shut := fun w h => (List.mem_cons_of_mem _ (List.mem_append_right _ h))
  have hl : lv_has ls 3 [(0, .ref a), (1, .int (iN (p0)))] := hl
  refine lv_aload_n hC.1 hC.2.1 dX5_shut_0 rfl (lv_at hl 0 rfl) ?_
  refine lv_aload_n hC.1 hC.2.1 dX5_shut_1 rfl (lv_at hl 0 rfl) ?_
  refine lv_iload_n hC.1 hC.2.1 dX5_shut_2 rfl (lv_at hl 1 rfl) ?_
  refine x_callV hC hw (lv_size hl) (c_X5_isNoView l G hR (p0 := p0) (by first | assumption | omega)) gX5_shut_X5_isNoView rfl dv_X5_isNoView hR.1.1 rfl rfl (Nat.le_of_ble_eq_true rfl) (by rw [hRf]; decide) (by rw [hRl]; decide) (by first | (rw [hRc]; decide) | omega) (by first | (rw [hRs]; decide) | omega) dX5_shut_3 (fun r9 M_1 H locs hq hw => ?_)
  obtain ⟨z_2, rfl, hM9, hz_2a, hz_2b, hz_2n⟩ := hq
  rw [hM9] at hw
  show W p l e R s m args below meth c H locs _ _ _ (F0 m 6 ls [.int (iN (z_2)), .ref a])
  refine x_const hC dX5_shut_6 ?_
  refine x_callV hC hw (lv_size hl) (c_X5_start l G hR (p0 := z_2) (by omega) (p1 := 1) (by omega) (by omega)) gX5_shut_X5_start rfl dv_X5_start hR.1.1 rfl rfl (Nat.le_of_ble_eq_true rfl) (by rw [hRf]; decide) (by rw [hRl]; decide) (by first | (rw [hRc]; decide) | omega) (by first | (rw [hRs]; decide) | omega) dX5_shut_7 (fun r9 M_3 H locs hq hw => ?_)
  obtain ⟨z_5, thk_4, rfl, hz_5r, hx5k_4, hRk_4⟩ := hq
  have hsck_4 := hRk_4.sc.1
  show W p l e R s m args below meth c H locs _ _ _ (F0 m 10 ls [.int (iN (z_5))])
  refine x_if_eq (tgt := 15) hC ⟨by omega, by omega⟩ dX5_shut_10 (by decide) (fun c_6 => ?_) (fun c_6 => ?_)
  · replace hz_5r := (hz_5r.resolve_right (fun q9 => absurd (q9.1.symm.trans c_6) (by decide))).2
    replace hz_2b := hz_2b.mp hz_5r.2
    refine lv_aload_n hC.1 hC.2.1 dX5_shut_15 rfl (lv_at hl 0 rfl) ?_
    refine lv_aload_n hC.1 hC.2.1 dX5_shut_16 rfl (lv_at hl 0 rfl) ?_
    refine x_get hC hw hRk_4.1.1 rfl hinX5 5 (by decide) (List.mem_cons_of_mem _ (List.mem_append_left _ (List.mem_append_left _ (List.mem_of_getElem? (i := 0) rfl)))) rfl dX5_shut_17 ?_
    refine lv_iload_n hC.1 hC.2.1 dX5_shut_20 rfl (lv_at hl 1 rfl) ?_
    refine x_ald4 hC hw hRk_4.1.2.2.2.2.1 (by omega) (by omega) (by omega) dX5_shut_21 ?_
    obtain ⟨y_7, hy_8⟩ := x_some (hz_2n (by omega))
    rw [hy_8]
    obtain ⟨ti_9, fi_9, hui_9, hIi_9⟩ := (hRk_4.vw (show (p0).toNat < 4 from tn_lt (by omega) (by decide))).yes hy_8
    obtain ⟨htat_10, htbt_10, htct_10, htdt_10, htet_10⟩ := id hIi_9.2.1
    show W p l e R s m args below meth c _ _ _ _ _ (F0 m 22 ls [.ref y_7, .ref a])
    refine x_callV hC hw (lv_size hl) (c_X5_many l G hRk_4 hIi_9) gX5_shut_X5_many rfl dv_X5_many hRk_4.1.1 rfl rfl (Nat.le_of_ble_eq_true rfl) (by rw [hRf]; decide) (by rw [hRl]; decide) (by first | (rw [hRc]; decide) | omega) (by first | (rw [hRs]; decide) | omega) dX5_shut_22 (fun r9 M_11 H locs hq hw => ?_)
    obtain ⟨z_12, rfl, hM9, hz_12a, hz_12m⟩ := hq
    rw [hM9] at hw
    show W p l e R s m args below meth c H locs _ _ _ (F0 m 25 ls [.int (iN (z_12))])
    refine lv_istore_n (lv' := [(2, .int (iN (z_12))), (0, .ref a), (1, .int (iN (p0)))]) hC.1 hC.2.1 dX5_shut_25 rfl hl (by decide) rfl (fun ls hl => ?_)
    refine lv_aload_n hC.1 hC.2.1 dX5_shut_26 rfl (lv_at hl 1 rfl) ?_
    refine x_get hC hw hRk_4.1.1 rfl hinX5 5 (by decide) (List.mem_cons_of_mem _ (List.mem_append_left _ (List.mem_append_left _ (List.mem_of_getElem? (i := 0) rfl)))) rfl dX5_shut_27 ?_
    refine lv_iload_n hC.1 hC.2.1 dX5_shut_30 rfl (lv_at hl 2 rfl) ?_
    refine lv_null hC.1 hC.2.1 dX5_shut_31 ?_
    refine x_ast4N hC hw hRk_4.1.2.2.2.2.1 (by omega) (by omega) (by omega) dX5_shut_32 (fun H locs hw => ?_)
    obtain ⟨M_13, hM_14⟩ : ∃ z, z = va_up M_3 ya (some (.inl (G.2 4, 4, .inr (.inr (.inr (.inr (va_up fy (p0).toNat none))))))) := ⟨_, rfl⟩
    rw [← hM_14] at hw
    have hR_15 := hRk_4.vws (W2 := (upW Wv ((p0).toNat) none)) hM_14 (fun j9 hj => by by_cases e9 : j9 = (p0).toNat; (· subst e9; rw [va_up_self, upW_s]; trivial); (· rw [va_up_ne _ _ e9, upW_n _ _ e9]; exact hRk_4.vw hj))
    obtain ⟨fy_16, hfy_16⟩ : ∃ z, z = (va_up fy (p0).toNat none) := ⟨_, rfl⟩
    rw [← hfy_16] at hR_15
    obtain ⟨Wv_17, hWv_17⟩ : ∃ z, z = (upW Wv ((p0).toNat) none) := ⟨_, rfl⟩
    rw [← hWv_17] at hR_15
    have h_18 := hIi_9.x5 (hRk_4.vws5 hM_14)
    refine lv_iload_n hC.1 hC.2.1 dX5_shut_33 rfl (lv_at hl 0 rfl) ?_
    exact x_iret hC hw dX5_shut_34 (by first | decide | omega) (by first | decide | omega) ⟨z_12, thk_4, rfl, ⟨by omega, by omega⟩, Or.inl ⟨by omega, ⟨(by first | omega | trivial), (by first | omega | trivial), (by first | omega | trivial)⟩, (by rw [A_shut, show tvW (ST.W (O, V, Wv, K, kp, kv, rfd)) p0.toNat = ti_9 from tvW_some hui_9]; exact hz_12m), (by have e9 := hR_15; rw [hWv_17] at e9; exact MGm.of e9 hK)⟩⟩
  · replace hz_5r := (hz_5r.resolve_left (fun q9 => c_6 q9.1)).2
    replace hz_2b := mt hz_2b.mpr hz_5r.1
    refine x_const hC dX5_shut_13 ?_
    exact x_iret hC hw dX5_shut_14 (by first | decide | omega) (by first | decide | omega) ⟨0, thk_4, rfl, by omega, Or.inr ⟨by omega, by omega, MGm.of hRk_4 hK⟩⟩
set_option maxHeartbeats 4000000 in
set_option maxRecDepth 100000 in
theorem c_X5_viewPut (l : Launch) (G : xG) {M : HM} {a va oa wa ya : Nat} {wk : Option Nat} {th : Int} {rfd : Int32} {br re la ha : Int} {kp kv : Int32} {qv qw : Nat → Nat} {fa fb : Nat → Option Nat} {V : BW} {O : OW} {fy : Nat → Option Nat} {Wv : VW} {wt : Option VT} {S : Nat → Bool} (hR : MGx G M a va oa wa ya wk th rfd br re la ha kp kv qv qw fa fb V O fy Wv wt S) {K : WA} (hK : abM O wt br re la ha K) {p0 : Int} (hp0 : -2147483648 ≤ p0 ∧ p0 ≤ 2147483647) {p1 : Int} (hp1 : -2147483648 ≤ p1 ∧ p1 ≤ 2147483647) {p2 : Int} (hp2 : -2147483648 ≤ p2 ∧ p2 ≤ 2147483647) (hSk : 0 ≤ p1 ∧ p1 ≤ 99 → S p1.toNat = true) : xMet l G yX5_viewPut wsX5_viewPut 2 45 0 0 [.ref a, .int (iN (p0)), .int (iN (p1)), .int (iN (p2))] M (fun r M1 => ∃ (z th1 : Int), r = some (.int (iN z)) ∧ (-2147483648 ≤ z ∧ z ≤ 2147483647) ∧ ((th1 = 0 ∧ ((0 ≤ p0 ∧ p0 ≤ 3 ∧ opN (Wv p0.toNat) = 1) ∧ ((0 ≤ p1 ∧ p1 ≤ 99) ∧ (-9999 ≤ p2 ∧ p2 ≤ 9999))) ∧ z = A_viewPut (O, V, Wv, K, kp, kv, rfd) p0 p1 p2 ∧ MGm G M1 a S th1 (S_viewPut (O, V, Wv, K, kp, kv, rfd) p0 p1 p2)) ∨ (th1 ≠ 0 ∧ ((th1 = 1 ∧ ¬ (0 ≤ p0 ∧ p0 ≤ 3 ∧ opN (Wv p0.toNat) = 1)) ∨ (th1 = 2 ∧ (0 ≤ p0 ∧ p0 ≤ 3 ∧ opN (Wv p0.toNat) = 1) ∧ ¬ ((0 ≤ p1 ∧ p1 ≤ 99) ∧ (-9999 ≤ p2 ∧ p2 ≤ 9999)))) ∧ MGm G M1 a S th1 (O, V, Wv, K, kp, kv, rfd)))) := by
  refine x_intro (cc := cX5_viewPut) (maxL := 4) (ret := (some .int)) (by exact pln_RX5) rfl (Nat.le_of_ble_eq_true rfl) ?_
  intro p e R s m args below meth c ls hRf hRc hRs hRl hC hw hl
  have hsc0 := hR.sc.1
  have hinX5 : ∀ w ∈ wsX50, w ∈ wsX5_viewPut := fun w h => (List.mem_cons_of_mem _ (List.mem_append_right _ h))
  have hl : lv_has ls 4 [(0, .ref a), (1, .int (iN (p0))), (2, .int (iN (p1))), (3, .int (iN (p2)))] := hl
  refine lv_aload_n hC.1 hC.2.1 dX5_viewPut_0 rfl (lv_at hl 0 rfl) ?_
  refine lv_aload_n hC.1 hC.2.1 dX5_viewPut_1 rfl (lv_at hl 0 rfl) ?_
  refine lv_iload_n hC.1 hC.2.1 dX5_viewPut_2 rfl (lv_at hl 1 rfl) ?_
  refine x_callV hC hw (lv_size hl) (c_X5_isNoView l G hR (p0 := p0) (by first | assumption | omega)) gX5_viewPut_X5_isNoView rfl dv_X5_isNoView hR.1.1 rfl rfl (Nat.le_of_ble_eq_true rfl) (by rw [hRf]; decide) (by rw [hRl]; decide) (by first | (rw [hRc]; decide) | omega) (by first | (rw [hRs]; decide) | omega) dX5_viewPut_3 (fun r9 M_1 H locs hq hw => ?_)
  obtain ⟨z_2, rfl, hM9, hz_2a, hz_2b, hz_2n⟩ := hq
  rw [hM9] at hw
  show W p l e R s m args below meth c H locs _ _ _ (F0 m 6 ls [.int (iN (z_2)), .ref a])
  refine x_const hC dX5_viewPut_6 ?_
  refine x_callV hC hw (lv_size hl) (c_X5_start l G hR (p0 := z_2) (by omega) (p1 := 1) (by omega) (by omega)) gX5_viewPut_X5_start rfl dv_X5_start hR.1.1 rfl rfl (Nat.le_of_ble_eq_true rfl) (by rw [hRf]; decide) (by rw [hRl]; decide) (by first | (rw [hRc]; decide) | omega) (by first | (rw [hRs]; decide) | omega) dX5_viewPut_7 (fun r9 M_3 H locs hq hw => ?_)
  obtain ⟨z_5, thk_4, rfl, hz_5r, hx5k_4, hRk_4⟩ := hq
  have hsck_4 := hRk_4.sc.1
  show W p l e R s m args below meth c H locs _ _ _ (F0 m 10 ls [.int (iN (z_5))])
  refine x_if_ne (tgt := 40) hC ⟨by omega, by omega⟩ dX5_viewPut_10 (by decide) (fun c_6 => ?_) (fun c_6 => ?_)
  · replace hz_5r := (hz_5r.resolve_left (fun q9 => c_6 q9.1)).2
    replace hz_2b := mt hz_2b.mpr hz_5r.1
    refine x_const hC dX5_viewPut_40 ?_
    exact x_iret hC hw dX5_viewPut_41 (by first | decide | omega) (by first | decide | omega) ⟨0, thk_4, rfl, by omega, Or.inr ⟨by omega, by omega, MGm.of hRk_4 hK⟩⟩
  · replace hz_5r := (hz_5r.resolve_right (fun q9 => absurd (q9.1.symm.trans c_6) (by decide))).2
    replace hz_2b := hz_2b.mp hz_5r.2
    refine lv_aload_n hC.1 hC.2.1 dX5_viewPut_13 rfl (lv_at hl 0 rfl) ?_
    refine lv_iload_n hC.1 hC.2.1 dX5_viewPut_14 rfl (lv_at hl 2 rfl) ?_
    refine x_callS hC hw (lv_size hl) (c_X5_isNoKey l G (M := M_3) (p0 := p1) (by first | assumption | omega)) gX5_viewPut_X5_isNoKey rfl dv_X5_isNoKey_s rfl (Nat.le_of_ble_eq_true rfl) (by rw [hRf]; decide) (by rw [hRl]; decide) (by first | (rw [hRc]; decide) | omega) (by first | (rw [hRs]; decide) | omega) dX5_viewPut_15 (fun r9 M_7 H locs hq hw => ?_)
    obtain ⟨z_8, rfl, hM9, hz_8a, hz_8b⟩ := hq
    rw [hM9] at hw
    show W p l e R s m args below meth c H locs _ _ _ (F0 m 18 ls [.int (iN (z_8)), .ref a])
    refine x_if_ne (tgt := 28) hC ⟨by omega, by omega⟩ dX5_viewPut_18 (by decide) (fun c_9 => ?_) (fun c_9 => ?_)
    · replace hz_8b := mt hz_8b.mpr c_9
      refine x_const hC dX5_viewPut_28 ?_
      refine lv_goto (tgt := 33) hC.1 hC.2.1 dX5_viewPut_29 (by decide) ?_
      refine x_const hC dX5_viewPut_33 ?_
      refine x_callV hC hw (lv_size hl) (c_X5_refuse l G hRk_4 (p0 := 1) (by omega) (p1 := 2) (by omega) (by omega)) gX5_viewPut_X5_refuse rfl dv_X5_refuse hRk_4.1.1 rfl rfl (Nat.le_of_ble_eq_true rfl) (by rw [hRf]; decide) (by rw [hRl]; decide) (by first | (rw [hRc]; decide) | omega) (by first | (rw [hRs]; decide) | omega) dX5_viewPut_34 (fun r9 M_10 H locs hq hw => ?_)
      obtain ⟨z_12, thk_11, rfl, hz_12r, hx5k_11, hRk_11⟩ := hq
      have hsck_11 := hRk_11.sc.1
      show W p l e R s m args below meth c H locs _ _ _ (F0 m 37 ls [.int (iN (z_12))])
      refine x_if_eq (tgt := 42) hC ⟨by omega, by omega⟩ dX5_viewPut_37 (by decide) (fun c_13 => ?_) (fun c_13 => ?_)
      · replace hz_12r := (hz_12r.resolve_right (fun q9 => absurd (q9.1.symm.trans c_13) (by decide))).2
        exact absurd hz_12r.2.2 (by decide)
      · replace hz_12r := (hz_12r.resolve_left (fun q9 => c_13 q9.1)).2
        refine x_const hC dX5_viewPut_40 ?_
        exact x_iret hC hw dX5_viewPut_41 (by first | decide | omega) (by first | decide | omega) ⟨0, thk_11, rfl, by omega, Or.inr ⟨by omega, by omega, MGm.of hRk_11 hK⟩⟩
    · replace hz_8b := hz_8b.mp c_9
      refine lv_iload_n hC.1 hC.2.1 dX5_viewPut_21 rfl (lv_at hl 3 rfl) ?_
      refine x_callS hC hw (lv_size hl) (c_X5_isNoValue l G (M := M_3) (p0 := p2) (by first | assumption | omega)) gX5_viewPut_X5_isNoValue rfl dv_X5_isNoValue_s rfl (Nat.le_of_ble_eq_true rfl) (by rw [hRf]; decide) (by rw [hRl]; decide) (by first | (rw [hRc]; decide) | omega) (by first | (rw [hRs]; decide) | omega) dX5_viewPut_22 (fun r9 M_14 H locs hq hw => ?_)
      obtain ⟨z_15, rfl, hM9, hz_15a, hz_15b⟩ := hq
      rw [hM9] at hw
      show W p l e R s m args below meth c H locs _ _ _ (F0 m 25 ls [.int (iN (z_15)), .ref a])
      refine x_if_eq (tgt := 32) hC ⟨by omega, by omega⟩ dX5_viewPut_25 (by decide) (fun c_16 => ?_) (fun c_16 => ?_)
      · replace hz_15b := hz_15b.mp c_16
        refine x_const hC dX5_viewPut_32 ?_
        refine x_const hC dX5_viewPut_33 ?_
        refine x_callV hC hw (lv_size hl) (c_X5_refuse l G hRk_4 (p0 := 0) (by omega) (p1 := 2) (by omega) (by omega)) gX5_viewPut_X5_refuse rfl dv_X5_refuse hRk_4.1.1 rfl rfl (Nat.le_of_ble_eq_true rfl) (by rw [hRf]; decide) (by rw [hRl]; decide) (by first | (rw [hRc]; decide) | omega) (by first | (rw [hRs]; decide) | omega) dX5_viewPut_34 (fun r9 M_17 H locs hq hw => ?_)
        obtain ⟨z_19, thk_18, rfl, hz_19r, hx5k_18, hRk_18⟩ := hq
        have hsck_18 := hRk_18.sc.1
        show W p l e R s m args below meth c H locs _ _ _ (F0 m 37 ls [.int (iN (z_19))])
        refine x_if_eq (tgt := 42) hC ⟨by omega, by omega⟩ dX5_viewPut_37 (by decide) (fun c_20 => ?_) (fun c_20 => ?_)
        · replace hz_19r := (hz_19r.resolve_right (fun q9 => absurd (q9.1.symm.trans c_20) (by decide))).2
          refine lv_aload_n hC.1 hC.2.1 dX5_viewPut_42 rfl (lv_at hl 0 rfl) ?_
          refine lv_aload_n hC.1 hC.2.1 dX5_viewPut_43 rfl (lv_at hl 0 rfl) ?_
          refine x_get hC hw hRk_18.1.1 rfl hinX5 5 (by decide) (List.mem_cons_of_mem _ (List.mem_append_left _ (List.mem_append_left _ (List.mem_of_getElem? (i := 0) rfl)))) rfl dX5_viewPut_44 ?_
          refine lv_iload_n hC.1 hC.2.1 dX5_viewPut_47 rfl (lv_at hl 1 rfl) ?_
          refine x_ald4 hC hw hRk_18.1.2.2.2.2.1 (by omega) (by omega) (by omega) dX5_viewPut_48 ?_
          obtain ⟨y_21, hy_22⟩ := x_some (hz_2n (by omega))
          rw [hy_22]
          obtain ⟨ti_23, fi_23, hui_23, hIi_23⟩ := (hRk_18.vw (show (p0).toNat < 4 from tn_lt (by omega) (by decide))).yes hy_22
          obtain ⟨htat_24, htbt_24, htct_24, htdt_24, htet_24⟩ := id hIi_23.2.1
          show W p l e R s m args below meth c _ _ _ _ _ (F0 m 49 ls [.ref y_21, .ref a])
          refine x_const hC dX5_viewPut_49 ?_
          refine x_ialdE (x := ((ti_23.b : Nat) : Int)) hC hw hIi_23.1 (by omega) (by omega) (by omega) dX5_viewPut_50 hIi_23.2.2.1 ?_
          refine x_callV hC hw (lv_size hl) (c_X5_touch l G hRk_18 (p0 := ((ti_23.b : Nat) : Int)) (by omega) (by omega)) gX5_viewPut_X5_touch rfl dv_X5_touch hRk_18.1.1 rfl rfl (Nat.le_of_ble_eq_true rfl) (by rw [hRf]; decide) (by rw [hRl]; decide) (by first | (rw [hRc]; decide) | omega) (by first | (rw [hRs]; decide) | omega) dX5_viewPut_51 (fun r9 M_25 H locs hq hw => ?_)
          rw [Int.toNat_natCast] at hq
          obtain ⟨hak_26, rfl, he0k_26, hx5k_26, hRk_26⟩ := hq
          have h_27 := hIi_23.x5 hx5k_26
          have hsck_26 := hRk_26.sc.1
          show W p l e R s m args below meth c H locs _ _ _ (F0 m 54 ls [])
          refine lv_aload_n hC.1 hC.2.1 dX5_viewPut_54 rfl (lv_at hl 0 rfl) ?_
          refine lv_aload_n hC.1 hC.2.1 dX5_viewPut_55 rfl (lv_at hl 0 rfl) ?_
          refine x_get hC hw hRk_26.1.1 rfl hinX5 5 (by decide) (List.mem_cons_of_mem _ (List.mem_append_left _ (List.mem_append_left _ (List.mem_of_getElem? (i := 0) rfl)))) rfl dX5_viewPut_56 ?_
          refine lv_iload_n hC.1 hC.2.1 dX5_viewPut_59 rfl (lv_at hl 1 rfl) ?_
          refine x_ald4 hC hw hRk_26.1.2.2.2.2.1 (by omega) (by omega) (by omega) dX5_viewPut_60 ?_
          rw [hy_22]
          show W p l e R s m args below meth c _ _ _ _ _ (F0 m 61 ls [.ref y_21, .ref a])
          refine lv_iload_n hC.1 hC.2.1 dX5_viewPut_61 rfl (lv_at hl 2 rfl) ?_
          refine x_callV hC hw (lv_size hl) (c_X5_isWithin l G hRk_26 h_27 (p0 := p1) (by first | assumption | omega) (by omega)) gX5_viewPut_X5_isWithin rfl dv_X5_isWithin hRk_26.1.1 rfl rfl (Nat.le_of_ble_eq_true rfl) (by rw [hRf]; decide) (by rw [hRl]; decide) (by first | (rw [hRc]; decide) | omega) (by first | (rw [hRs]; decide) | omega) dX5_viewPut_62 (fun r9 M_28 H locs hq hw => ?_)
          obtain ⟨z_29, rfl, hM9, hz_29a, hz_29w⟩ := hq
          rw [hM9] at hw
          show W p l e R s m args below meth c H locs _ _ _ (F0 m 65 ls [.int (iN (z_29))])
          refine x_if_eq (tgt := 85) hC ⟨by omega, by omega⟩ dX5_viewPut_65 (by decide) (fun c_30 => ?_) (fun c_30 => ?_)
          · refine x_sipush hC dX5_viewPut_85 (by decide +kernel) ?_
            exact x_iret hC hw dX5_viewPut_88 (by first | decide | omega) (by first | decide | omega) ⟨(-20000), thk_18, rfl, ⟨by omega, by omega⟩, Or.inl ⟨by omega, ⟨⟨(by first | omega | trivial), (by first | omega | trivial), (by first | omega | trivial)⟩, ⟨⟨(by first | omega | trivial), (by first | omega | trivial)⟩, ⟨(by first | omega | trivial), (by first | omega | trivial)⟩⟩⟩, (by have i9 := inI_01 (O ti_23.b) (p1).toNat ti_23; rw [A_viewPut, (wiB_eq (s := (O, V, Wv, K, kp, kv, rfd)) (p0 := p0) (p1 := p1) hui_23), (vwV_eq (s := (O, V, Wv, K, kp, kv, rfd)) (p0 := p0) (p1 := p1) hui_23)]; show _ = (if inI (O ti_23.b) ti_23 (p1).toNat = 1 then (V ti_23.b (p1).toNat) else -20000); first | rfl | omega | ((repeat' split) <;> first | rfl | omega)), (by rw [S_viewPut, vwS_eq (s := (O, V, Wv, K, kp, kv, rfd)) hui_23 (by rw [(wiB_eq (s := (O, V, Wv, K, kp, kv, rfd)) (p0 := p0) (p1 := p1) hui_23), (vwV_eq (s := (O, V, Wv, K, kp, kv, rfd)) (p0 := p0) (p1 := p1) hui_23)])]; exact MGm.mut (F := V ti_23.b) (upB_self rfl).symm hRk_26 hK bl_rf he0k_26 (upV_self (show (V ti_23.b (p1).toNat) = (if inI (O ti_23.b) ti_23 (p1).toNat = 1 then p2 else (V ti_23.b (p1).toNat)) by have i9 := inI_01 (O ti_23.b) (p1).toNat ti_23; first | rfl | omega | ((repeat' split) <;> first | rfl | omega))).symm)⟩⟩
          · refine lv_aload_n hC.1 hC.2.1 dX5_viewPut_68 rfl (lv_at hl 0 rfl) ?_
            refine lv_aload_n hC.1 hC.2.1 dX5_viewPut_69 rfl (lv_at hl 0 rfl) ?_
            refine x_get hC hw hRk_26.1.1 rfl hinX5 5 (by decide) (List.mem_cons_of_mem _ (List.mem_append_left _ (List.mem_append_left _ (List.mem_of_getElem? (i := 0) rfl)))) rfl dX5_viewPut_70 ?_
            refine lv_iload_n hC.1 hC.2.1 dX5_viewPut_73 rfl (lv_at hl 1 rfl) ?_
            refine x_ald4 hC hw hRk_26.1.2.2.2.2.1 (by omega) (by omega) (by omega) dX5_viewPut_74 ?_
            rw [hy_22]
            show W p l e R s m args below meth c _ _ _ _ _ (F0 m 75 ls [.ref y_21, .ref a])
            refine x_const hC dX5_viewPut_75 ?_
            refine x_ialdE (x := ((ti_23.b : Nat) : Int)) hC hw h_27.1 (by omega) (by omega) (by omega) dX5_viewPut_76 h_27.2.2.1 ?_
            refine lv_iload_n hC.1 hC.2.1 dX5_viewPut_77 rfl (lv_at hl 2 rfl) ?_
            refine lv_iload_n hC.1 hC.2.1 dX5_viewPut_78 rfl (lv_at hl 3 rfl) ?_
            refine x_callV hC hw (lv_size hl) (c_X5_set l G hRk_26 (p0 := ((ti_23.b : Nat) : Int)) (by omega) (p1 := p1) (by first | assumption | omega) (p2 := p2) (by first | assumption | omega) (by omega) (by omega) (by omega) (by intro q9; first | exact absurd rfl q9 | assumption | exact hSk (by omega))) gX5_viewPut_X5_set rfl dv_X5_set hRk_26.1.1 rfl rfl (Nat.le_of_ble_eq_true rfl) (by rw [hRf]; decide) (by rw [hRl]; decide) (by first | (rw [hRc]; decide) | omega) (by first | (rw [hRs]; decide) | omega) dX5_viewPut_79 (fun r9 M_31 H locs hq hw => ?_)
            rw [Int.toNat_natCast] at hq
            obtain ⟨z_33, brk_32, Vk_32, rfl, hz_33a, hz_33v, hz_33b, he0k_32, he1k_32, hx5k_32, hRk_32⟩ := hq
            have h_34 := h_27.x5 hx5k_32
            have hsck_32 := hRk_32.sc.1
            show W p l e R s m args below meth c H locs _ _ _ (F0 m 82 ls [.int (iN (z_33))])
            refine lv_goto (tgt := 88) hC.1 hC.2.1 dX5_viewPut_82 (by decide) ?_
            exact x_iret hC hw dX5_viewPut_88 (by first | decide | omega) (by first | decide | omega) ⟨z_33, thk_18, rfl, ⟨by omega, by omega⟩, Or.inl ⟨by omega, ⟨⟨(by first | omega | trivial), (by first | omega | trivial), (by first | omega | trivial)⟩, ⟨⟨(by first | omega | trivial), (by first | omega | trivial)⟩, ⟨(by first | omega | trivial), (by first | omega | trivial)⟩⟩⟩, (by have i9 := inI_01 (O ti_23.b) (p1).toNat ti_23; rw [A_viewPut, (wiB_eq (s := (O, V, Wv, K, kp, kv, rfd)) (p0 := p0) (p1 := p1) hui_23), (vwV_eq (s := (O, V, Wv, K, kp, kv, rfd)) (p0 := p0) (p1 := p1) hui_23)]; show _ = (if inI (O ti_23.b) ti_23 (p1).toNat = 1 then (V ti_23.b (p1).toNat) else -20000); first | rfl | omega | ((repeat' split) <;> first | rfl | omega)), (by rw [S_viewPut, vwS_eq (s := (O, V, Wv, K, kp, kv, rfd)) hui_23 (by rw [(wiB_eq (s := (O, V, Wv, K, kp, kv, rfd)) (p0 := p0) (p1 := p1) hui_23), (vwV_eq (s := (O, V, Wv, K, kp, kv, rfd)) (p0 := p0) (p1 := p1) hui_23)])]; exact MGm.mut he1k_32 hRk_32 hK (bl_one (by omega) he0k_32) he0k_26 (congrArg (upV (V ti_23.b) (p1).toNat) (show p2 = (if inI (O ti_23.b) ti_23 (p1).toNat = 1 then p2 else (V ti_23.b (p1).toNat)) by have i9 := inI_01 (O ti_23.b) (p1).toNat ti_23; first | rfl | omega | ((repeat' split) <;> first | rfl | omega))))⟩⟩
        · replace hz_19r := (hz_19r.resolve_left (fun q9 => c_20 q9.1)).2
          refine x_const hC dX5_viewPut_40 ?_
          exact x_iret hC hw dX5_viewPut_41 (by first | decide | omega) (by first | decide | omega) ⟨0, thk_18, rfl, by omega, Or.inr ⟨by omega, by omega, MGm.of hRk_18 hK⟩⟩
      · replace hz_15b := mt hz_15b.mpr c_16
        refine x_const hC dX5_viewPut_28 ?_
        refine lv_goto (tgt := 33) hC.1 hC.2.1 dX5_viewPut_29 (by decide) ?_
        refine x_const hC dX5_viewPut_33 ?_
        refine x_callV hC hw (lv_size hl) (c_X5_refuse l G hRk_4 (p0 := 1) (by omega) (p1 := 2) (by omega) (by omega)) gX5_viewPut_X5_refuse rfl dv_X5_refuse hRk_4.1.1 rfl rfl (Nat.le_of_ble_eq_true rfl) (by rw [hRf]; decide) (by rw [hRl]; decide) (by first | (rw [hRc]; decide) | omega) (by first | (rw [hRs]; decide) | omega) dX5_viewPut_34 (fun r9 M_35 H locs hq hw => ?_)
        obtain ⟨z_37, thk_36, rfl, hz_37r, hx5k_36, hRk_36⟩ := hq
        have hsck_36 := hRk_36.sc.1
        show W p l e R s m args below meth c H locs _ _ _ (F0 m 37 ls [.int (iN (z_37))])
        refine x_if_eq (tgt := 42) hC ⟨by omega, by omega⟩ dX5_viewPut_37 (by decide) (fun c_38 => ?_) (fun c_38 => ?_)
        · replace hz_37r := (hz_37r.resolve_right (fun q9 => absurd (q9.1.symm.trans c_38) (by decide))).2
          exact absurd hz_37r.2.2 (by decide)
        · replace hz_37r := (hz_37r.resolve_left (fun q9 => c_38 q9.1)).2
          refine x_const hC dX5_viewPut_40 ?_
          exact x_iret hC hw dX5_viewPut_41 (by first | decide | omega) (by first | decide | omega) ⟨0, thk_36, rfl, by omega, Or.inr ⟨by omega, by omega, MGm.of hRk_36 hK⟩⟩
set_option maxHeartbeats 4000000 in
set_option maxRecDepth 100000 in
theorem c_X5_viewStrike (l : Launch) (G : xG) {M : HM} {a va oa wa ya : Nat} {wk : Option Nat} {th : Int} {rfd : Int32} {br re la ha : Int} {kp kv : Int32} {qv qw : Nat → Nat} {fa fb : Nat → Option Nat} {V : BW} {O : OW} {fy : Nat → Option Nat} {Wv : VW} {wt : Option VT} {S : Nat → Bool} (hR : MGx G M a va oa wa ya wk th rfd br re la ha kp kv qv qw fa fb V O fy Wv wt S) {K : WA} (hK : abM O wt br re la ha K) {p0 : Int} (hp0 : -2147483648 ≤ p0 ∧ p0 ≤ 2147483647) {p1 : Int} (hp1 : -2147483648 ≤ p1 ∧ p1 ≤ 2147483647) : xMet l G yX5_viewStrike wsX5_viewStrike 3 67 0 0 [.ref a, .int (iN (p0)), .int (iN (p1))] M (fun r M1 => ∃ (z th1 : Int), r = some (.int (iN z)) ∧ (-2147483648 ≤ z ∧ z ≤ 2147483647) ∧ ((th1 = 0 ∧ ((0 ≤ p0 ∧ p0 ≤ 3 ∧ opN (Wv p0.toNat) = 1) ∧ (0 ≤ p1 ∧ p1 ≤ 99)) ∧ z = A_viewStrike (O, V, Wv, K, kp, kv, rfd) p0 p1 ∧ MGm G M1 a S th1 (S_viewStrike (O, V, Wv, K, kp, kv, rfd) p0 p1)) ∨ (th1 ≠ 0 ∧ ((th1 = 1 ∧ ¬ (0 ≤ p0 ∧ p0 ≤ 3 ∧ opN (Wv p0.toNat) = 1)) ∨ (th1 = 2 ∧ (0 ≤ p0 ∧ p0 ≤ 3 ∧ opN (Wv p0.toNat) = 1) ∧ ¬ (0 ≤ p1 ∧ p1 ≤ 99))) ∧ MGm G M1 a S th1 (O, V, Wv, K, kp, kv, rfd)))) := by
  refine x_intro (cc := cX5_viewStrike) (maxL := 3) (ret := (some .int)) (by exact pln_RX5) rfl (Nat.le_of_ble_eq_true rfl) ?_
  intro p e R s m args below meth c ls hRf hRc hRs hRl hC hw hl
  have hsc0 := hR.sc.1
  have hinX5 : ∀ w ∈ wsX50, w ∈ wsX5_viewStrike := fun w h => (List.mem_cons_of_mem _ (List.mem_append_right _ h))
  have hl : lv_has ls 3 [(0, .ref a), (1, .int (iN (p0))), (2, .int (iN (p1)))] := hl
  refine lv_aload_n hC.1 hC.2.1 dX5_viewStrike_0 rfl (lv_at hl 0 rfl) ?_
  refine lv_aload_n hC.1 hC.2.1 dX5_viewStrike_1 rfl (lv_at hl 0 rfl) ?_
  refine lv_iload_n hC.1 hC.2.1 dX5_viewStrike_2 rfl (lv_at hl 1 rfl) ?_
  refine x_callV hC hw (lv_size hl) (c_X5_isNoView l G hR (p0 := p0) (by first | assumption | omega)) gX5_viewStrike_X5_isNoView rfl dv_X5_isNoView hR.1.1 rfl rfl (Nat.le_of_ble_eq_true rfl) (by rw [hRf]; decide) (by rw [hRl]; decide) (by first | (rw [hRc]; decide) | omega) (by first | (rw [hRs]; decide) | omega) dX5_viewStrike_3 (fun r9 M_1 H locs hq hw => ?_)
  obtain ⟨z_2, rfl, hM9, hz_2a, hz_2b, hz_2n⟩ := hq
  rw [hM9] at hw
  show W p l e R s m args below meth c H locs _ _ _ (F0 m 6 ls [.int (iN (z_2)), .ref a])
  refine x_const hC dX5_viewStrike_6 ?_
  refine x_callV hC hw (lv_size hl) (c_X5_start l G hR (p0 := z_2) (by omega) (p1 := 1) (by omega) (by omega)) gX5_viewStrike_X5_start rfl dv_X5_start hR.1.1 rfl rfl (Nat.le_of_ble_eq_true rfl) (by rw [hRf]; decide) (by rw [hRl]; decide) (by first | (rw [hRc]; decide) | omega) (by first | (rw [hRs]; decide) | omega) dX5_viewStrike_7 (fun r9 M_3 H locs hq hw => ?_)
  obtain ⟨z_5, thk_4, rfl, hz_5r, hx5k_4, hRk_4⟩ := hq
  have hsck_4 := hRk_4.sc.1
  show W p l e R s m args below meth c H locs _ _ _ (F0 m 10 ls [.int (iN (z_5))])
  refine x_if_ne (tgt := 25) hC ⟨by omega, by omega⟩ dX5_viewStrike_10 (by decide) (fun c_6 => ?_) (fun c_6 => ?_)
  · replace hz_5r := (hz_5r.resolve_left (fun q9 => c_6 q9.1)).2
    replace hz_2b := mt hz_2b.mpr hz_5r.1
    refine x_const hC dX5_viewStrike_25 ?_
    exact x_iret hC hw dX5_viewStrike_26 (by first | decide | omega) (by first | decide | omega) ⟨0, thk_4, rfl, by omega, Or.inr ⟨by omega, by omega, MGm.of hRk_4 hK⟩⟩
  · replace hz_5r := (hz_5r.resolve_right (fun q9 => absurd (q9.1.symm.trans c_6) (by decide))).2
    replace hz_2b := hz_2b.mp hz_5r.2
    refine lv_aload_n hC.1 hC.2.1 dX5_viewStrike_13 rfl (lv_at hl 0 rfl) ?_
    refine lv_iload_n hC.1 hC.2.1 dX5_viewStrike_14 rfl (lv_at hl 2 rfl) ?_
    refine x_callS hC hw (lv_size hl) (c_X5_isNoKey l G (M := M_3) (p0 := p1) (by first | assumption | omega)) gX5_viewStrike_X5_isNoKey rfl dv_X5_isNoKey_s rfl (Nat.le_of_ble_eq_true rfl) (by rw [hRf]; decide) (by rw [hRl]; decide) (by first | (rw [hRc]; decide) | omega) (by first | (rw [hRs]; decide) | omega) dX5_viewStrike_15 (fun r9 M_7 H locs hq hw => ?_)
    obtain ⟨z_8, rfl, hM9, hz_8a, hz_8b⟩ := hq
    rw [hM9] at hw
    show W p l e R s m args below meth c H locs _ _ _ (F0 m 18 ls [.int (iN (z_8)), .ref a])
    refine x_const hC dX5_viewStrike_18 ?_
    refine x_callV hC hw (lv_size hl) (c_X5_refuse l G hRk_4 (p0 := z_8) (by omega) (p1 := 2) (by omega) (by omega)) gX5_viewStrike_X5_refuse rfl dv_X5_refuse hRk_4.1.1 rfl rfl (Nat.le_of_ble_eq_true rfl) (by rw [hRf]; decide) (by rw [hRl]; decide) (by first | (rw [hRc]; decide) | omega) (by first | (rw [hRs]; decide) | omega) dX5_viewStrike_19 (fun r9 M_9 H locs hq hw => ?_)
    obtain ⟨z_11, thk_10, rfl, hz_11r, hx5k_10, hRk_10⟩ := hq
    have hsck_10 := hRk_10.sc.1
    show W p l e R s m args below meth c H locs _ _ _ (F0 m 22 ls [.int (iN (z_11))])
    refine x_if_eq (tgt := 27) hC ⟨by omega, by omega⟩ dX5_viewStrike_22 (by decide) (fun c_12 => ?_) (fun c_12 => ?_)
    · replace hz_11r := (hz_11r.resolve_right (fun q9 => absurd (q9.1.symm.trans c_12) (by decide))).2
      replace hz_8b := hz_8b.mp hz_11r.2.2
      refine lv_aload_n hC.1 hC.2.1 dX5_viewStrike_27 rfl (lv_at hl 0 rfl) ?_
      refine lv_aload_n hC.1 hC.2.1 dX5_viewStrike_28 rfl (lv_at hl 0 rfl) ?_
      refine x_get hC hw hRk_10.1.1 rfl hinX5 5 (by decide) (List.mem_cons_of_mem _ (List.mem_append_left _ (List.mem_append_left _ (List.mem_of_getElem? (i := 0) rfl)))) rfl dX5_viewStrike_29 ?_
      refine lv_iload_n hC.1 hC.2.1 dX5_viewStrike_32 rfl (lv_at hl 1 rfl) ?_
      refine x_ald4 hC hw hRk_10.1.2.2.2.2.1 (by omega) (by omega) (by omega) dX5_viewStrike_33 ?_
      obtain ⟨y_13, hy_14⟩ := x_some (hz_2n (by omega))
      rw [hy_14]
      obtain ⟨ti_15, fi_15, hui_15, hIi_15⟩ := (hRk_10.vw (show (p0).toNat < 4 from tn_lt (by omega) (by decide))).yes hy_14
      obtain ⟨htat_16, htbt_16, htct_16, htdt_16, htet_16⟩ := id hIi_15.2.1
      show W p l e R s m args below meth c _ _ _ _ _ (F0 m 34 ls [.ref y_13, .ref a])
      refine x_const hC dX5_viewStrike_34 ?_
      refine x_ialdE (x := ((ti_15.b : Nat) : Int)) hC hw hIi_15.1 (by omega) (by omega) (by omega) dX5_viewStrike_35 hIi_15.2.2.1 ?_
      refine x_callV hC hw (lv_size hl) (c_X5_touch l G hRk_10 (p0 := ((ti_15.b : Nat) : Int)) (by omega) (by omega)) gX5_viewStrike_X5_touch rfl dv_X5_touch hRk_10.1.1 rfl rfl (Nat.le_of_ble_eq_true rfl) (by rw [hRf]; decide) (by rw [hRl]; decide) (by first | (rw [hRc]; decide) | omega) (by first | (rw [hRs]; decide) | omega) dX5_viewStrike_36 (fun r9 M_17 H locs hq hw => ?_)
      rw [Int.toNat_natCast] at hq
      obtain ⟨hak_18, rfl, he0k_18, hx5k_18, hRk_18⟩ := hq
      have h_19 := hIi_15.x5 hx5k_18
      have hsck_18 := hRk_18.sc.1
      show W p l e R s m args below meth c H locs _ _ _ (F0 m 39 ls [])
      refine lv_aload_n hC.1 hC.2.1 dX5_viewStrike_39 rfl (lv_at hl 0 rfl) ?_
      refine lv_aload_n hC.1 hC.2.1 dX5_viewStrike_40 rfl (lv_at hl 0 rfl) ?_
      refine x_get hC hw hRk_18.1.1 rfl hinX5 5 (by decide) (List.mem_cons_of_mem _ (List.mem_append_left _ (List.mem_append_left _ (List.mem_of_getElem? (i := 0) rfl)))) rfl dX5_viewStrike_41 ?_
      refine lv_iload_n hC.1 hC.2.1 dX5_viewStrike_44 rfl (lv_at hl 1 rfl) ?_
      refine x_ald4 hC hw hRk_18.1.2.2.2.2.1 (by omega) (by omega) (by omega) dX5_viewStrike_45 ?_
      rw [hy_14]
      show W p l e R s m args below meth c _ _ _ _ _ (F0 m 46 ls [.ref y_13, .ref a])
      refine lv_iload_n hC.1 hC.2.1 dX5_viewStrike_46 rfl (lv_at hl 2 rfl) ?_
      refine x_callV hC hw (lv_size hl) (c_X5_shows l G hRk_18 h_19 (p0 := p1) (by first | assumption | omega) (by omega)) gX5_viewStrike_X5_shows rfl dv_X5_shows hRk_18.1.1 rfl rfl (Nat.le_of_ble_eq_true rfl) (by rw [hRf]; decide) (by rw [hRl]; decide) (by first | (rw [hRc]; decide) | omega) (by first | (rw [hRs]; decide) | omega) dX5_viewStrike_47 (fun r9 M_20 H locs hq hw => ?_)
      obtain ⟨z_21, rfl, hM9, hz_21a, hz_21s, hz_21S⟩ := hq
      rw [hM9] at hw
      have hz_21i := shI_iff (O := O) (V := V) (t := ti_15) (k := (p1).toNat)
      show W p l e R s m args below meth c H locs _ _ _ (F0 m 50 ls [.int (iN (z_21))])
      refine x_if_eq (tgt := 72) hC ⟨by omega, by omega⟩ dX5_viewStrike_50 (by decide) (fun c_22 => ?_) (fun c_22 => ?_)
      · refine x_sipush hC dX5_viewStrike_72 (by decide +kernel) ?_
        exact x_iret hC hw dX5_viewStrike_75 (by first | decide | omega) (by first | decide | omega) ⟨(-10000), thk_10, rfl, ⟨by omega, by omega⟩, Or.inl ⟨by omega, ⟨⟨(by first | omega | trivial), (by first | omega | trivial), (by first | omega | trivial)⟩, ⟨(by first | omega | trivial), (by first | omega | trivial)⟩⟩, (by have i9 := inI_01 (O ti_15.b) (p1).toNat ti_15; rw [A_viewStrike, (wiB_eq (s := (O, V, Wv, K, kp, kv, rfd)) (p0 := p0) (p1 := p1) hui_15), (vwV_eq (s := (O, V, Wv, K, kp, kv, rfd)) (p0 := p0) (p1 := p1) hui_15)]; show _ = (if inI (O ti_15.b) ti_15 (p1).toNat = 1 then (V ti_15.b (p1).toNat) else -10000); first | rfl | omega | ((repeat' split) <;> first | rfl | omega)), (by rw [S_viewStrike, vwS_eq (s := (O, V, Wv, K, kp, kv, rfd)) hui_15 (by rw [(wiB_eq (s := (O, V, Wv, K, kp, kv, rfd)) (p0 := p0) (p1 := p1) hui_15), (vwV_eq (s := (O, V, Wv, K, kp, kv, rfd)) (p0 := p0) (p1 := p1) hui_15)])]; exact MGm.mut (F := V ti_15.b) (upB_self rfl).symm hRk_18 hK bl_rf he0k_18 (upV_self (show (V ti_15.b (p1).toNat) = (if inI (O ti_15.b) ti_15 (p1).toNat = 1 then -10000 else (V ti_15.b (p1).toNat)) by have i9 := inI_01 (O ti_15.b) (p1).toNat ti_15; first | rfl | omega | ((repeat' split) <;> first | rfl | omega))).symm)⟩⟩
      · refine lv_aload_n hC.1 hC.2.1 dX5_viewStrike_53 rfl (lv_at hl 0 rfl) ?_
        refine lv_aload_n hC.1 hC.2.1 dX5_viewStrike_54 rfl (lv_at hl 0 rfl) ?_
        refine x_get hC hw hRk_18.1.1 rfl hinX5 5 (by decide) (List.mem_cons_of_mem _ (List.mem_append_left _ (List.mem_append_left _ (List.mem_of_getElem? (i := 0) rfl)))) rfl dX5_viewStrike_55 ?_
        refine lv_iload_n hC.1 hC.2.1 dX5_viewStrike_58 rfl (lv_at hl 1 rfl) ?_
        refine x_ald4 hC hw hRk_18.1.2.2.2.2.1 (by omega) (by omega) (by omega) dX5_viewStrike_59 ?_
        rw [hy_14]
        show W p l e R s m args below meth c _ _ _ _ _ (F0 m 60 ls [.ref y_13, .ref a])
        refine x_const hC dX5_viewStrike_60 ?_
        refine x_ialdE (x := ((ti_15.b : Nat) : Int)) hC hw h_19.1 (by omega) (by omega) (by omega) dX5_viewStrike_61 h_19.2.2.1 ?_
        refine lv_iload_n hC.1 hC.2.1 dX5_viewStrike_62 rfl (lv_at hl 2 rfl) ?_
        refine x_sipush hC dX5_viewStrike_63 (by decide +kernel) ?_
        refine x_callV hC hw (lv_size hl) (c_X5_set l G hRk_18 (p0 := ((ti_15.b : Nat) : Int)) (by omega) (p1 := p1) (by first | assumption | omega) (p2 := (-10000)) (by omega) (by omega) (by omega) (by omega) (fun q9 => absurd rfl q9)) gX5_viewStrike_X5_set rfl dv_X5_set hRk_18.1.1 rfl rfl (Nat.le_of_ble_eq_true rfl) (by rw [hRf]; decide) (by rw [hRl]; decide) (by first | (rw [hRc]; decide) | omega) (by first | (rw [hRs]; decide) | omega) dX5_viewStrike_66 (fun r9 M_23 H locs hq hw => ?_)
        rw [Int.toNat_natCast] at hq
        obtain ⟨z_25, brk_24, Vk_24, rfl, hz_25a, hz_25v, hz_25b, he0k_24, he1k_24, hx5k_24, hRk_24⟩ := hq
        have h_26 := h_19.x5 hx5k_24
        have hsck_24 := hRk_24.sc.1
        show W p l e R s m args below meth c H locs _ _ _ (F0 m 69 ls [.int (iN (z_25))])
        refine lv_goto (tgt := 75) hC.1 hC.2.1 dX5_viewStrike_69 (by decide) ?_
        exact x_iret hC hw dX5_viewStrike_75 (by first | decide | omega) (by first | decide | omega) ⟨z_25, thk_10, rfl, ⟨by omega, by omega⟩, Or.inl ⟨by omega, ⟨⟨(by first | omega | trivial), (by first | omega | trivial), (by first | omega | trivial)⟩, ⟨(by first | omega | trivial), (by first | omega | trivial)⟩⟩, (by have i9 := inI_01 (O ti_15.b) (p1).toNat ti_15; rw [A_viewStrike, (wiB_eq (s := (O, V, Wv, K, kp, kv, rfd)) (p0 := p0) (p1 := p1) hui_15), (vwV_eq (s := (O, V, Wv, K, kp, kv, rfd)) (p0 := p0) (p1 := p1) hui_15)]; show _ = (if inI (O ti_15.b) ti_15 (p1).toNat = 1 then (V ti_15.b (p1).toNat) else -10000); first | rfl | omega | ((repeat' split) <;> first | rfl | omega)), (by rw [S_viewStrike, vwS_eq (s := (O, V, Wv, K, kp, kv, rfd)) hui_15 (by rw [(wiB_eq (s := (O, V, Wv, K, kp, kv, rfd)) (p0 := p0) (p1 := p1) hui_15), (vwV_eq (s := (O, V, Wv, K, kp, kv, rfd)) (p0 := p0) (p1 := p1) hui_15)])]; exact MGm.mut he1k_24 hRk_24 hK (bl_one (by omega) he0k_24) he0k_18 (congrArg (upV (V ti_15.b) (p1).toNat) (show (-10000) = (if inI (O ti_15.b) ti_15 (p1).toNat = 1 then -10000 else (V ti_15.b (p1).toNat)) by have i9 := inI_01 (O ti_15.b) (p1).toNat ti_15; first | rfl | omega | ((repeat' split) <;> first | rfl | omega))))⟩⟩
    · replace hz_11r := (hz_11r.resolve_left (fun q9 => c_12 q9.1)).2
      refine x_const hC dX5_viewStrike_25 ?_
      exact x_iret hC hw dX5_viewStrike_26 (by first | decide | omega) (by first | decide | omega) ⟨0, thk_10, rfl, by omega, Or.inr ⟨by omega, by omega, MGm.of hRk_10 hK⟩⟩
set_option maxHeartbeats 4000000 in
set_option maxRecDepth 100000 in
theorem c_X5_viewMerge (l : Launch) (G : xG) {M : HM} {a va oa wa ya : Nat} {wk : Option Nat} {th : Int} {rfd : Int32} {br re la ha : Int} {kp kv : Int32} {qv qw : Nat → Nat} {fa fb : Nat → Option Nat} {V : BW} {O : OW} {fy : Nat → Option Nat} {Wv : VW} {wt : Option VT} {S : Nat → Bool} (hR : MGx G M a va oa wa ya wk th rfd br re la ha kp kv qv qw fa fb V O fy Wv wt S) {K : WA} (hK : abM O wt br re la ha K) {p0 : Int} (hp0 : -2147483648 ≤ p0 ∧ p0 ≤ 2147483647) {p1 : Int} (hp1 : -2147483648 ≤ p1 ∧ p1 ≤ 2147483647) {p2 : Int} (hp2 : -2147483648 ≤ p2 ∧ p2 ≤ 2147483647) (hSk : 0 ≤ p1 ∧ p1 ≤ 99 → S p1.toNat = true) : xMet l G yX5_viewMerge wsX5_viewMerge 2 49 0 0 [.ref a, .int (iN (p0)), .int (iN (p1)), .int (iN (p2))] M (fun r M1 => ∃ (z th1 : Int), r = some (.int (iN z)) ∧ (-2147483648 ≤ z ∧ z ≤ 2147483647) ∧ ((th1 = 0 ∧ ((0 ≤ p0 ∧ p0 ≤ 3 ∧ opN (Wv p0.toNat) = 1) ∧ ((0 ≤ p1 ∧ p1 ≤ 99) ∧ (-9999 ≤ p2 ∧ p2 ≤ 9999))) ∧ z = A_viewMerge (O, V, Wv, K, kp, kv, rfd) p0 p1 p2 ∧ MGm G M1 a S th1 (S_viewMerge (O, V, Wv, K, kp, kv, rfd) p0 p1 p2)) ∨ (th1 ≠ 0 ∧ ((th1 = 1 ∧ ¬ (0 ≤ p0 ∧ p0 ≤ 3 ∧ opN (Wv p0.toNat) = 1)) ∨ (th1 = 2 ∧ (0 ≤ p0 ∧ p0 ≤ 3 ∧ opN (Wv p0.toNat) = 1) ∧ ¬ ((0 ≤ p1 ∧ p1 ≤ 99) ∧ (-9999 ≤ p2 ∧ p2 ≤ 9999)))) ∧ MGm G M1 a S th1 (O, V, Wv, K, kp, kv, rfd)))) := by
  refine x_intro (cc := cX5_viewMerge) (maxL := 4) (ret := (some .int)) (by exact pln_RX5) rfl (Nat.le_of_ble_eq_true rfl) ?_
  intro p e R s m args below meth c ls hRf hRc hRs hRl hC hw hl
  have hsc0 := hR.sc.1
  have hinX5 : ∀ w ∈ wsX50, w ∈ wsX5_viewMerge := fun w h => (List.mem_cons_of_mem _ (List.mem_append_right _ h))
  have hl : lv_has ls 4 [(0, .ref a), (1, .int (iN (p0))), (2, .int (iN (p1))), (3, .int (iN (p2)))] := hl
  refine lv_aload_n hC.1 hC.2.1 dX5_viewMerge_0 rfl (lv_at hl 0 rfl) ?_
  refine lv_aload_n hC.1 hC.2.1 dX5_viewMerge_1 rfl (lv_at hl 0 rfl) ?_
  refine lv_iload_n hC.1 hC.2.1 dX5_viewMerge_2 rfl (lv_at hl 1 rfl) ?_
  refine x_callV hC hw (lv_size hl) (c_X5_isNoView l G hR (p0 := p0) (by first | assumption | omega)) gX5_viewMerge_X5_isNoView rfl dv_X5_isNoView hR.1.1 rfl rfl (Nat.le_of_ble_eq_true rfl) (by rw [hRf]; decide) (by rw [hRl]; decide) (by first | (rw [hRc]; decide) | omega) (by first | (rw [hRs]; decide) | omega) dX5_viewMerge_3 (fun r9 M_1 H locs hq hw => ?_)
  obtain ⟨z_2, rfl, hM9, hz_2a, hz_2b, hz_2n⟩ := hq
  rw [hM9] at hw
  show W p l e R s m args below meth c H locs _ _ _ (F0 m 6 ls [.int (iN (z_2)), .ref a])
  refine x_const hC dX5_viewMerge_6 ?_
  refine x_callV hC hw (lv_size hl) (c_X5_start l G hR (p0 := z_2) (by omega) (p1 := 1) (by omega) (by omega)) gX5_viewMerge_X5_start rfl dv_X5_start hR.1.1 rfl rfl (Nat.le_of_ble_eq_true rfl) (by rw [hRf]; decide) (by rw [hRl]; decide) (by first | (rw [hRc]; decide) | omega) (by first | (rw [hRs]; decide) | omega) dX5_viewMerge_7 (fun r9 M_3 H locs hq hw => ?_)
  obtain ⟨z_5, thk_4, rfl, hz_5r, hx5k_4, hRk_4⟩ := hq
  have hsck_4 := hRk_4.sc.1
  show W p l e R s m args below meth c H locs _ _ _ (F0 m 10 ls [.int (iN (z_5))])
  refine x_if_ne (tgt := 40) hC ⟨by omega, by omega⟩ dX5_viewMerge_10 (by decide) (fun c_6 => ?_) (fun c_6 => ?_)
  · replace hz_5r := (hz_5r.resolve_left (fun q9 => c_6 q9.1)).2
    replace hz_2b := mt hz_2b.mpr hz_5r.1
    refine x_const hC dX5_viewMerge_40 ?_
    exact x_iret hC hw dX5_viewMerge_41 (by first | decide | omega) (by first | decide | omega) ⟨0, thk_4, rfl, by omega, Or.inr ⟨by omega, by omega, MGm.of hRk_4 hK⟩⟩
  · replace hz_5r := (hz_5r.resolve_right (fun q9 => absurd (q9.1.symm.trans c_6) (by decide))).2
    replace hz_2b := hz_2b.mp hz_5r.2
    refine lv_aload_n hC.1 hC.2.1 dX5_viewMerge_13 rfl (lv_at hl 0 rfl) ?_
    refine lv_iload_n hC.1 hC.2.1 dX5_viewMerge_14 rfl (lv_at hl 2 rfl) ?_
    refine x_callS hC hw (lv_size hl) (c_X5_isNoKey l G (M := M_3) (p0 := p1) (by first | assumption | omega)) gX5_viewMerge_X5_isNoKey rfl dv_X5_isNoKey_s rfl (Nat.le_of_ble_eq_true rfl) (by rw [hRf]; decide) (by rw [hRl]; decide) (by first | (rw [hRc]; decide) | omega) (by first | (rw [hRs]; decide) | omega) dX5_viewMerge_15 (fun r9 M_7 H locs hq hw => ?_)
    obtain ⟨z_8, rfl, hM9, hz_8a, hz_8b⟩ := hq
    rw [hM9] at hw
    show W p l e R s m args below meth c H locs _ _ _ (F0 m 18 ls [.int (iN (z_8)), .ref a])
    refine x_if_ne (tgt := 28) hC ⟨by omega, by omega⟩ dX5_viewMerge_18 (by decide) (fun c_9 => ?_) (fun c_9 => ?_)
    · replace hz_8b := mt hz_8b.mpr c_9
      refine x_const hC dX5_viewMerge_28 ?_
      refine lv_goto (tgt := 33) hC.1 hC.2.1 dX5_viewMerge_29 (by decide) ?_
      refine x_const hC dX5_viewMerge_33 ?_
      refine x_callV hC hw (lv_size hl) (c_X5_refuse l G hRk_4 (p0 := 1) (by omega) (p1 := 2) (by omega) (by omega)) gX5_viewMerge_X5_refuse rfl dv_X5_refuse hRk_4.1.1 rfl rfl (Nat.le_of_ble_eq_true rfl) (by rw [hRf]; decide) (by rw [hRl]; decide) (by first | (rw [hRc]; decide) | omega) (by first | (rw [hRs]; decide) | omega) dX5_viewMerge_34 (fun r9 M_10 H locs hq hw => ?_)
      obtain ⟨z_12, thk_11, rfl, hz_12r, hx5k_11, hRk_11⟩ := hq
      have hsck_11 := hRk_11.sc.1
      show W p l e R s m args below meth c H locs _ _ _ (F0 m 37 ls [.int (iN (z_12))])
      refine x_if_eq (tgt := 42) hC ⟨by omega, by omega⟩ dX5_viewMerge_37 (by decide) (fun c_13 => ?_) (fun c_13 => ?_)
      · replace hz_12r := (hz_12r.resolve_right (fun q9 => absurd (q9.1.symm.trans c_13) (by decide))).2
        exact absurd hz_12r.2.2 (by decide)
      · replace hz_12r := (hz_12r.resolve_left (fun q9 => c_13 q9.1)).2
        refine x_const hC dX5_viewMerge_40 ?_
        exact x_iret hC hw dX5_viewMerge_41 (by first | decide | omega) (by first | decide | omega) ⟨0, thk_11, rfl, by omega, Or.inr ⟨by omega, by omega, MGm.of hRk_11 hK⟩⟩
    · replace hz_8b := hz_8b.mp c_9
      refine lv_iload_n hC.1 hC.2.1 dX5_viewMerge_21 rfl (lv_at hl 3 rfl) ?_
      refine x_callS hC hw (lv_size hl) (c_X5_isNoValue l G (M := M_3) (p0 := p2) (by first | assumption | omega)) gX5_viewMerge_X5_isNoValue rfl dv_X5_isNoValue_s rfl (Nat.le_of_ble_eq_true rfl) (by rw [hRf]; decide) (by rw [hRl]; decide) (by first | (rw [hRc]; decide) | omega) (by first | (rw [hRs]; decide) | omega) dX5_viewMerge_22 (fun r9 M_14 H locs hq hw => ?_)
      obtain ⟨z_15, rfl, hM9, hz_15a, hz_15b⟩ := hq
      rw [hM9] at hw
      show W p l e R s m args below meth c H locs _ _ _ (F0 m 25 ls [.int (iN (z_15)), .ref a])
      refine x_if_eq (tgt := 32) hC ⟨by omega, by omega⟩ dX5_viewMerge_25 (by decide) (fun c_16 => ?_) (fun c_16 => ?_)
      · replace hz_15b := hz_15b.mp c_16
        refine x_const hC dX5_viewMerge_32 ?_
        refine x_const hC dX5_viewMerge_33 ?_
        refine x_callV hC hw (lv_size hl) (c_X5_refuse l G hRk_4 (p0 := 0) (by omega) (p1 := 2) (by omega) (by omega)) gX5_viewMerge_X5_refuse rfl dv_X5_refuse hRk_4.1.1 rfl rfl (Nat.le_of_ble_eq_true rfl) (by rw [hRf]; decide) (by rw [hRl]; decide) (by first | (rw [hRc]; decide) | omega) (by first | (rw [hRs]; decide) | omega) dX5_viewMerge_34 (fun r9 M_17 H locs hq hw => ?_)
        obtain ⟨z_19, thk_18, rfl, hz_19r, hx5k_18, hRk_18⟩ := hq
        have hsck_18 := hRk_18.sc.1
        show W p l e R s m args below meth c H locs _ _ _ (F0 m 37 ls [.int (iN (z_19))])
        refine x_if_eq (tgt := 42) hC ⟨by omega, by omega⟩ dX5_viewMerge_37 (by decide) (fun c_20 => ?_) (fun c_20 => ?_)
        · replace hz_19r := (hz_19r.resolve_right (fun q9 => absurd (q9.1.symm.trans c_20) (by decide))).2
          refine lv_aload_n hC.1 hC.2.1 dX5_viewMerge_42 rfl (lv_at hl 0 rfl) ?_
          refine lv_aload_n hC.1 hC.2.1 dX5_viewMerge_43 rfl (lv_at hl 0 rfl) ?_
          refine x_get hC hw hRk_18.1.1 rfl hinX5 5 (by decide) (List.mem_cons_of_mem _ (List.mem_append_left _ (List.mem_append_left _ (List.mem_of_getElem? (i := 0) rfl)))) rfl dX5_viewMerge_44 ?_
          refine lv_iload_n hC.1 hC.2.1 dX5_viewMerge_47 rfl (lv_at hl 1 rfl) ?_
          refine x_ald4 hC hw hRk_18.1.2.2.2.2.1 (by omega) (by omega) (by omega) dX5_viewMerge_48 ?_
          obtain ⟨y_21, hy_22⟩ := x_some (hz_2n (by omega))
          rw [hy_22]
          obtain ⟨ti_23, fi_23, hui_23, hIi_23⟩ := (hRk_18.vw (show (p0).toNat < 4 from tn_lt (by omega) (by decide))).yes hy_22
          obtain ⟨htat_24, htbt_24, htct_24, htdt_24, htet_24⟩ := id hIi_23.2.1
          show W p l e R s m args below meth c _ _ _ _ _ (F0 m 49 ls [.ref y_21, .ref a])
          refine x_const hC dX5_viewMerge_49 ?_
          refine x_ialdE (x := ((ti_23.b : Nat) : Int)) hC hw hIi_23.1 (by omega) (by omega) (by omega) dX5_viewMerge_50 hIi_23.2.2.1 ?_
          refine x_callV hC hw (lv_size hl) (c_X5_touch l G hRk_18 (p0 := ((ti_23.b : Nat) : Int)) (by omega) (by omega)) gX5_viewMerge_X5_touch rfl dv_X5_touch hRk_18.1.1 rfl rfl (Nat.le_of_ble_eq_true rfl) (by rw [hRf]; decide) (by rw [hRl]; decide) (by first | (rw [hRc]; decide) | omega) (by first | (rw [hRs]; decide) | omega) dX5_viewMerge_51 (fun r9 M_25 H locs hq hw => ?_)
          rw [Int.toNat_natCast] at hq
          obtain ⟨hak_26, rfl, he0k_26, hx5k_26, hRk_26⟩ := hq
          have h_27 := hIi_23.x5 hx5k_26
          have hsck_26 := hRk_26.sc.1
          show W p l e R s m args below meth c H locs _ _ _ (F0 m 54 ls [])
          refine lv_aload_n hC.1 hC.2.1 dX5_viewMerge_54 rfl (lv_at hl 0 rfl) ?_
          refine lv_aload_n hC.1 hC.2.1 dX5_viewMerge_55 rfl (lv_at hl 0 rfl) ?_
          refine x_get hC hw hRk_26.1.1 rfl hinX5 5 (by decide) (List.mem_cons_of_mem _ (List.mem_append_left _ (List.mem_append_left _ (List.mem_of_getElem? (i := 0) rfl)))) rfl dX5_viewMerge_56 ?_
          refine lv_iload_n hC.1 hC.2.1 dX5_viewMerge_59 rfl (lv_at hl 1 rfl) ?_
          refine x_ald4 hC hw hRk_26.1.2.2.2.2.1 (by omega) (by omega) (by omega) dX5_viewMerge_60 ?_
          rw [hy_22]
          show W p l e R s m args below meth c _ _ _ _ _ (F0 m 61 ls [.ref y_21, .ref a])
          refine lv_iload_n hC.1 hC.2.1 dX5_viewMerge_61 rfl (lv_at hl 2 rfl) ?_
          refine x_callV hC hw (lv_size hl) (c_X5_isWithin l G hRk_26 h_27 (p0 := p1) (by first | assumption | omega) (by omega)) gX5_viewMerge_X5_isWithin rfl dv_X5_isWithin hRk_26.1.1 rfl rfl (Nat.le_of_ble_eq_true rfl) (by rw [hRf]; decide) (by rw [hRl]; decide) (by first | (rw [hRc]; decide) | omega) (by first | (rw [hRs]; decide) | omega) dX5_viewMerge_62 (fun r9 M_28 H locs hq hw => ?_)
          obtain ⟨z_29, rfl, hM9, hz_29a, hz_29w⟩ := hq
          rw [hM9] at hw
          show W p l e R s m args below meth c H locs _ _ _ (F0 m 65 ls [.int (iN (z_29))])
          refine x_if_eq (tgt := 85) hC ⟨by omega, by omega⟩ dX5_viewMerge_65 (by decide) (fun c_30 => ?_) (fun c_30 => ?_)
          · refine x_sipush hC dX5_viewMerge_85 (by decide +kernel) ?_
            exact x_iret hC hw dX5_viewMerge_88 (by first | decide | omega) (by first | decide | omega) ⟨(-20000), thk_18, rfl, ⟨by omega, by omega⟩, Or.inl ⟨by omega, ⟨⟨(by first | omega | trivial), (by first | omega | trivial), (by first | omega | trivial)⟩, ⟨⟨(by first | omega | trivial), (by first | omega | trivial)⟩, ⟨(by first | omega | trivial), (by first | omega | trivial)⟩⟩⟩, (by have i9 := inI_01 (O ti_23.b) (p1).toNat ti_23; rw [A_viewMerge, (wiB_eq (s := (O, V, Wv, K, kp, kv, rfd)) (p0 := p0) (p1 := p1) hui_23), (vwV_eq (s := (O, V, Wv, K, kp, kv, rfd)) (p0 := p0) (p1 := p1) hui_23)]; show _ = (if inI (O ti_23.b) ti_23 (p1).toNat = 1 then mgN (V ti_23.b (p1).toNat) p2 else -20000); first | rfl | omega | ((repeat' split) <;> first | rfl | omega)), (by rw [S_viewMerge, vwS_eq (s := (O, V, Wv, K, kp, kv, rfd)) hui_23 (by rw [(wiB_eq (s := (O, V, Wv, K, kp, kv, rfd)) (p0 := p0) (p1 := p1) hui_23), (vwV_eq (s := (O, V, Wv, K, kp, kv, rfd)) (p0 := p0) (p1 := p1) hui_23)])]; exact MGm.mut (F := V ti_23.b) (upB_self rfl).symm hRk_26 hK bl_rf he0k_26 (upV_self (show (V ti_23.b (p1).toNat) = (if inI (O ti_23.b) ti_23 (p1).toNat = 1 then mgN (V ti_23.b (p1).toNat) p2 else (V ti_23.b (p1).toNat)) by have i9 := inI_01 (O ti_23.b) (p1).toNat ti_23; first | rfl | omega | ((repeat' split) <;> first | rfl | omega))).symm)⟩⟩
          · refine lv_aload_n hC.1 hC.2.1 dX5_viewMerge_68 rfl (lv_at hl 0 rfl) ?_
            refine lv_aload_n hC.1 hC.2.1 dX5_viewMerge_69 rfl (lv_at hl 0 rfl) ?_
            refine x_get hC hw hRk_26.1.1 rfl hinX5 5 (by decide) (List.mem_cons_of_mem _ (List.mem_append_left _ (List.mem_append_left _ (List.mem_of_getElem? (i := 0) rfl)))) rfl dX5_viewMerge_70 ?_
            refine lv_iload_n hC.1 hC.2.1 dX5_viewMerge_73 rfl (lv_at hl 1 rfl) ?_
            refine x_ald4 hC hw hRk_26.1.2.2.2.2.1 (by omega) (by omega) (by omega) dX5_viewMerge_74 ?_
            rw [hy_22]
            show W p l e R s m args below meth c _ _ _ _ _ (F0 m 75 ls [.ref y_21, .ref a])
            refine x_const hC dX5_viewMerge_75 ?_
            refine x_ialdE (x := ((ti_23.b : Nat) : Int)) hC hw h_27.1 (by omega) (by omega) (by omega) dX5_viewMerge_76 h_27.2.2.1 ?_
            refine lv_iload_n hC.1 hC.2.1 dX5_viewMerge_77 rfl (lv_at hl 2 rfl) ?_
            refine lv_iload_n hC.1 hC.2.1 dX5_viewMerge_78 rfl (lv_at hl 3 rfl) ?_
            refine x_callV hC hw (lv_size hl) (c_X5_mergeOf l G hRk_26 (p0 := ((ti_23.b : Nat) : Int)) (by omega) (p1 := p1) (by first | assumption | omega) (p2 := p2) (by first | assumption | omega) (by omega) (by omega) (by omega) (by first | assumption | exact hSk (by omega) | assumption)) gX5_viewMerge_X5_mergeOf rfl dv_X5_mergeOf hRk_26.1.1 rfl rfl (Nat.le_of_ble_eq_true rfl) (by rw [hRf]; decide) (by rw [hRl]; decide) (by first | (rw [hRc]; decide) | omega) (by first | (rw [hRs]; decide) | omega) dX5_viewMerge_79 (fun r9 M_31 H locs hq hw => ?_)
            rw [Int.toNat_natCast] at hq
            obtain ⟨z_33, brk_32, Vk_32, rfl, hz_33a, hz_33v, he0k_32, he1k_32, hx5k_32, hRk_32⟩ := hq
            have h_34 := h_27.x5 hx5k_32
            have hsck_32 := hRk_32.sc.1
            show W p l e R s m args below meth c H locs _ _ _ (F0 m 82 ls [.int (iN (z_33))])
            refine lv_goto (tgt := 88) hC.1 hC.2.1 dX5_viewMerge_82 (by decide) ?_
            exact x_iret hC hw dX5_viewMerge_88 (by first | decide | omega) (by first | decide | omega) ⟨z_33, thk_18, rfl, ⟨by omega, by omega⟩, Or.inl ⟨by omega, ⟨⟨(by first | omega | trivial), (by first | omega | trivial), (by first | omega | trivial)⟩, ⟨⟨(by first | omega | trivial), (by first | omega | trivial)⟩, ⟨(by first | omega | trivial), (by first | omega | trivial)⟩⟩⟩, (by have i9 := inI_01 (O ti_23.b) (p1).toNat ti_23; rw [A_viewMerge, (wiB_eq (s := (O, V, Wv, K, kp, kv, rfd)) (p0 := p0) (p1 := p1) hui_23), (vwV_eq (s := (O, V, Wv, K, kp, kv, rfd)) (p0 := p0) (p1 := p1) hui_23)]; show _ = (if inI (O ti_23.b) ti_23 (p1).toNat = 1 then mgN (V ti_23.b (p1).toNat) p2 else -20000); first | rfl | omega | ((repeat' split) <;> first | rfl | omega)), (by rw [S_viewMerge, vwS_eq (s := (O, V, Wv, K, kp, kv, rfd)) hui_23 (by rw [(wiB_eq (s := (O, V, Wv, K, kp, kv, rfd)) (p0 := p0) (p1 := p1) hui_23), (vwV_eq (s := (O, V, Wv, K, kp, kv, rfd)) (p0 := p0) (p1 := p1) hui_23)])]; exact MGm.mut he1k_32 hRk_32 hK (bl_one (by omega) he0k_32) he0k_26 (congrArg (upV (V ti_23.b) (p1).toNat) (show (mgN (V ti_23.b ((p1).toNat)) p2) = (if inI (O ti_23.b) ti_23 (p1).toNat = 1 then mgN (V ti_23.b (p1).toNat) p2 else (V ti_23.b (p1).toNat)) by have i9 := inI_01 (O ti_23.b) (p1).toNat ti_23; first | rfl | omega | ((repeat' split) <;> first | rfl | omega))))⟩⟩
        · replace hz_19r := (hz_19r.resolve_left (fun q9 => c_20 q9.1)).2
          refine x_const hC dX5_viewMerge_40 ?_
          exact x_iret hC hw dX5_viewMerge_41 (by first | decide | omega) (by first | decide | omega) ⟨0, thk_18, rfl, by omega, Or.inr ⟨by omega, by omega, MGm.of hRk_18 hK⟩⟩
      · replace hz_15b := mt hz_15b.mpr c_16
        refine x_const hC dX5_viewMerge_28 ?_
        refine lv_goto (tgt := 33) hC.1 hC.2.1 dX5_viewMerge_29 (by decide) ?_
        refine x_const hC dX5_viewMerge_33 ?_
        refine x_callV hC hw (lv_size hl) (c_X5_refuse l G hRk_4 (p0 := 1) (by omega) (p1 := 2) (by omega) (by omega)) gX5_viewMerge_X5_refuse rfl dv_X5_refuse hRk_4.1.1 rfl rfl (Nat.le_of_ble_eq_true rfl) (by rw [hRf]; decide) (by rw [hRl]; decide) (by first | (rw [hRc]; decide) | omega) (by first | (rw [hRs]; decide) | omega) dX5_viewMerge_34 (fun r9 M_35 H locs hq hw => ?_)
        obtain ⟨z_37, thk_36, rfl, hz_37r, hx5k_36, hRk_36⟩ := hq
        have hsck_36 := hRk_36.sc.1
        show W p l e R s m args below meth c H locs _ _ _ (F0 m 37 ls [.int (iN (z_37))])
        refine x_if_eq (tgt := 42) hC ⟨by omega, by omega⟩ dX5_viewMerge_37 (by decide) (fun c_38 => ?_) (fun c_38 => ?_)
        · replace hz_37r := (hz_37r.resolve_right (fun q9 => absurd (q9.1.symm.trans c_38) (by decide))).2
          exact absurd hz_37r.2.2 (by decide)
        · replace hz_37r := (hz_37r.resolve_left (fun q9 => c_38 q9.1)).2
          refine x_const hC dX5_viewMerge_40 ?_
          exact x_iret hC hw dX5_viewMerge_41 (by first | decide | omega) (by first | decide | omega) ⟨0, thk_36, rfl, by omega, Or.inr ⟨by omega, by omega, MGm.of hRk_36 hK⟩⟩
set_option maxHeartbeats 4000000 in
set_option maxRecDepth 100000 in
theorem c_X5_viewPoll (l : Launch) (G : xG) {M : HM} {a va oa wa ya : Nat} {wk : Option Nat} {th : Int} {rfd : Int32} {br re la ha : Int} {kp kv : Int32} {qv qw : Nat → Nat} {fa fb : Nat → Option Nat} {V : BW} {O : OW} {fy : Nat → Option Nat} {Wv : VW} {wt : Option VT} {S : Nat → Bool} (hR : MGx G M a va oa wa ya wk th rfd br re la ha kp kv qv qw fa fb V O fy Wv wt S) {K : WA} (hK : abM O wt br re la ha K) {p0 : Int} (hp0 : -2147483648 ≤ p0 ∧ p0 ≤ 2147483647) {p1 : Int} (hp1 : -2147483648 ≤ p1 ∧ p1 ≤ 2147483647) : xMet l G yX5_viewPoll wsX5_viewPoll 5 115 0 0 [.ref a, .int (iN (p0)), .int (iN (p1))] M (fun r M1 => ∃ (z th1 : Int), r = some (.int (iN z)) ∧ (-2147483648 ≤ z ∧ z ≤ 2147483647) ∧ ((th1 = 0 ∧ ((0 ≤ p0 ∧ p0 ≤ 3 ∧ opN (Wv p0.toNat) = 1)) ∧ z = A_viewPoll (O, V, Wv, K, kp, kv, rfd) p0 p1 ∧ MGm G M1 a S th1 (S_viewPoll (O, V, Wv, K, kp, kv, rfd) p0 p1)) ∨ (th1 ≠ 0 ∧ ((th1 = 1 ∧ ¬ (0 ≤ p0 ∧ p0 ≤ 3 ∧ opN (Wv p0.toNat) = 1))) ∧ MGm G M1 a S th1 (O, V, Wv, K, kp, kv, rfd)))) := by
  refine x_intro (cc := cX5_viewPoll) (maxL := 4) (ret := (some .int)) (by exact pln_RX5) rfl (Nat.le_of_ble_eq_true rfl) ?_
  intro p e R s m args below meth c ls hRf hRc hRs hRl hC hw hl
  have hsc0 := hR.sc.1
  have hinX5 : ∀ w ∈ wsX50, w ∈ wsX5_viewPoll := fun w h => (List.mem_cons_of_mem _ (List.mem_append_right _ h))
  have hl : lv_has ls 4 [(0, .ref a), (1, .int (iN (p0))), (2, .int (iN (p1)))] := hl
  refine lv_aload_n hC.1 hC.2.1 dX5_viewPoll_0 rfl (lv_at hl 0 rfl) ?_
  refine lv_aload_n hC.1 hC.2.1 dX5_viewPoll_1 rfl (lv_at hl 0 rfl) ?_
  refine lv_iload_n hC.1 hC.2.1 dX5_viewPoll_2 rfl (lv_at hl 1 rfl) ?_
  refine x_callV hC hw (lv_size hl) (c_X5_isNoView l G hR (p0 := p0) (by first | assumption | omega)) gX5_viewPoll_X5_isNoView rfl dv_X5_isNoView hR.1.1 rfl rfl (Nat.le_of_ble_eq_true rfl) (by rw [hRf]; decide) (by rw [hRl]; decide) (by first | (rw [hRc]; decide) | omega) (by first | (rw [hRs]; decide) | omega) dX5_viewPoll_3 (fun r9 M_1 H locs hq hw => ?_)
  obtain ⟨z_2, rfl, hM9, hz_2a, hz_2b, hz_2n⟩ := hq
  rw [hM9] at hw
  show W p l e R s m args below meth c H locs _ _ _ (F0 m 6 ls [.int (iN (z_2)), .ref a])
  refine x_const hC dX5_viewPoll_6 ?_
  refine x_callV hC hw (lv_size hl) (c_X5_start l G hR (p0 := z_2) (by omega) (p1 := 1) (by omega) (by omega)) gX5_viewPoll_X5_start rfl dv_X5_start hR.1.1 rfl rfl (Nat.le_of_ble_eq_true rfl) (by rw [hRf]; decide) (by rw [hRl]; decide) (by first | (rw [hRc]; decide) | omega) (by first | (rw [hRs]; decide) | omega) dX5_viewPoll_7 (fun r9 M_3 H locs hq hw => ?_)
  obtain ⟨z_5, thk_4, rfl, hz_5r, hx5k_4, hRk_4⟩ := hq
  have hsck_4 := hRk_4.sc.1
  show W p l e R s m args below meth c H locs _ _ _ (F0 m 10 ls [.int (iN (z_5))])
  refine x_if_eq (tgt := 15) hC ⟨by omega, by omega⟩ dX5_viewPoll_10 (by decide) (fun c_6 => ?_) (fun c_6 => ?_)
  · replace hz_5r := (hz_5r.resolve_right (fun q9 => absurd (q9.1.symm.trans c_6) (by decide))).2
    replace hz_2b := hz_2b.mp hz_5r.2
    refine lv_aload_n hC.1 hC.2.1 dX5_viewPoll_15 rfl (lv_at hl 0 rfl) ?_
    refine lv_aload_n hC.1 hC.2.1 dX5_viewPoll_16 rfl (lv_at hl 0 rfl) ?_
    refine x_get hC hw hRk_4.1.1 rfl hinX5 5 (by decide) (List.mem_cons_of_mem _ (List.mem_append_left _ (List.mem_append_left _ (List.mem_of_getElem? (i := 0) rfl)))) rfl dX5_viewPoll_17 ?_
    refine lv_iload_n hC.1 hC.2.1 dX5_viewPoll_20 rfl (lv_at hl 1 rfl) ?_
    refine x_ald4 hC hw hRk_4.1.2.2.2.2.1 (by omega) (by omega) (by omega) dX5_viewPoll_21 ?_
    obtain ⟨y_7, hy_8⟩ := x_some (hz_2n (by omega))
    rw [hy_8]
    obtain ⟨ti_9, fi_9, hui_9, hIi_9⟩ := (hRk_4.vw (show (p0).toNat < 4 from tn_lt (by omega) (by decide))).yes hy_8
    obtain ⟨htat_10, htbt_10, htct_10, htdt_10, htet_10⟩ := id hIi_9.2.1
    show W p l e R s m args below meth c _ _ _ _ _ (F0 m 22 ls [.ref y_7, .ref a])
    refine x_const hC dX5_viewPoll_22 ?_
    refine x_ialdE (x := ((ti_9.b : Nat) : Int)) hC hw hIi_9.1 (by omega) (by omega) (by omega) dX5_viewPoll_23 hIi_9.2.2.1 ?_
    refine x_callV hC hw (lv_size hl) (c_X5_touch l G hRk_4 (p0 := ((ti_9.b : Nat) : Int)) (by omega) (by omega)) gX5_viewPoll_X5_touch rfl dv_X5_touch hRk_4.1.1 rfl rfl (Nat.le_of_ble_eq_true rfl) (by rw [hRf]; decide) (by rw [hRl]; decide) (by first | (rw [hRc]; decide) | omega) (by first | (rw [hRs]; decide) | omega) dX5_viewPoll_24 (fun r9 M_11 H locs hq hw => ?_)
    rw [Int.toNat_natCast] at hq
    obtain ⟨hak_12, rfl, he0k_12, hx5k_12, hRk_12⟩ := hq
    have h_13 := hIi_9.x5 hx5k_12
    have hsck_12 := hRk_12.sc.1
    show W p l e R s m args below meth c H locs _ _ _ (F0 m 27 ls [])
    refine lv_aload_n hC.1 hC.2.1 dX5_viewPoll_27 rfl (lv_at hl 0 rfl) ?_
    refine lv_aload_n hC.1 hC.2.1 dX5_viewPoll_28 rfl (lv_at hl 0 rfl) ?_
    refine x_get hC hw hRk_12.1.1 rfl hinX5 5 (by decide) (List.mem_cons_of_mem _ (List.mem_append_left _ (List.mem_append_left _ (List.mem_of_getElem? (i := 0) rfl)))) rfl dX5_viewPoll_29 ?_
    refine lv_iload_n hC.1 hC.2.1 dX5_viewPoll_32 rfl (lv_at hl 1 rfl) ?_
    refine x_ald4 hC hw hRk_12.1.2.2.2.2.1 (by omega) (by omega) (by omega) dX5_viewPoll_33 ?_
    rw [hy_8]
    show W p l e R s m args below meth c _ _ _ _ _ (F0 m 34 ls [.ref y_7, .ref a])
    refine lv_iload_n hC.1 hC.2.1 dX5_viewPoll_34 rfl (lv_at hl 2 rfl) ?_
    refine x_callV hC hw (lv_size hl) (c_X5_end l G hRk_12 h_13 (p0 := p1) (by first | assumption | omega)) gX5_viewPoll_X5_end rfl dv_X5_end hRk_12.1.1 rfl rfl (Nat.le_of_ble_eq_true rfl) (by rw [hRf]; decide) (by rw [hRl]; decide) (by first | (rw [hRc]; decide) | omega) (by first | (rw [hRs]; decide) | omega) dX5_viewPoll_35 (fun r9 M_14 H locs hq hw => ?_)
    obtain ⟨z_15, rfl, hM9, hz_15a, hz_15S, hz_15e⟩ := hq
    rw [hM9] at hw
    show W p l e R s m args below meth c H locs _ _ _ (F0 m 38 ls [.int (iN (z_15))])
    refine lv_istore_n (lv' := [(3, .int (iN (z_15))), (0, .ref a), (1, .int (iN (p0))), (2, .int (iN (p1)))]) hC.1 hC.2.1 dX5_viewPoll_38 rfl hl (by decide) rfl (fun ls hl => ?_)
    refine lv_iload_n hC.1 hC.2.1 dX5_viewPoll_39 rfl (lv_at hl 0 rfl) ?_
    refine x_sipush hC dX5_viewPoll_40 (by decide +kernel) ?_
    refine x_icmp_eq (tgt := 63) hC ⟨by omega, by omega⟩ ⟨by omega, by omega⟩ dX5_viewPoll_43 (by decide) (fun c_16 => ?_) (fun c_16 => ?_)
    · refine lv_iload_n hC.1 hC.2.1 dX5_viewPoll_63 rfl (lv_at hl 0 rfl) ?_
      exact x_iret hC hw dX5_viewPoll_64 (by first | decide | omega) (by first | decide | omega) ⟨z_15, thk_4, rfl, ⟨by omega, by omega⟩, Or.inl ⟨by omega, ⟨(by first | omega | trivial), (by first | omega | trivial), (by first | omega | trivial)⟩, ((show z_15 = A_viewPoll (O, V, Wv, K, kp, kv, rfd) p0 p1 by rw [A_viewPoll, show tvW (ST.W (O, V, Wv, K, kp, kv, rfd)) p0.toNat = ti_9 from tvW_some hui_9]; exact hz_15e)), (by rw [S_viewPoll, show tvW (ST.W (O, V, Wv, K, kp, kv, rfd)) p0.toNat = ti_9 from tvW_some hui_9]; exact MGm.mut (F := V ti_9.b) (upB_self rfl).symm hRk_12 hK bl_rf he0k_12 (by rw [show A_viewPoll (O, V, Wv, K, kp, kv, rfd) p0 p1 = z_15 from ((show z_15 = A_viewPoll (O, V, Wv, K, kp, kv, rfd) p0 p1 by rw [A_viewPoll, show tvW (ST.W (O, V, Wv, K, kp, kv, rfd)) p0.toNat = ti_9 from tvW_some hui_9]; exact hz_15e)).symm]; exact (rmV_0 (by omega)).symm))⟩⟩
    · refine lv_aload_n hC.1 hC.2.1 dX5_viewPoll_46 rfl (lv_at hl 1 rfl) ?_
      refine lv_aload_n hC.1 hC.2.1 dX5_viewPoll_47 rfl (lv_at hl 1 rfl) ?_
      refine x_get hC hw hRk_12.1.1 rfl hinX5 5 (by decide) (List.mem_cons_of_mem _ (List.mem_append_left _ (List.mem_append_left _ (List.mem_of_getElem? (i := 0) rfl)))) rfl dX5_viewPoll_48 ?_
      refine lv_iload_n hC.1 hC.2.1 dX5_viewPoll_51 rfl (lv_at hl 2 rfl) ?_
      refine x_ald4 hC hw hRk_12.1.2.2.2.2.1 (by omega) (by omega) (by omega) dX5_viewPoll_52 ?_
      rw [hy_8]
      show W p l e R s m args below meth c _ _ _ _ _ (F0 m 53 ls [.ref y_7, .ref a])
      refine x_const hC dX5_viewPoll_53 ?_
      refine x_ialdE (x := ((ti_9.b : Nat) : Int)) hC hw h_13.1 (by omega) (by omega) (by omega) dX5_viewPoll_54 h_13.2.2.1 ?_
      refine lv_iload_n hC.1 hC.2.1 dX5_viewPoll_55 rfl (lv_at hl 0 rfl) ?_
      refine x_sipush hC dX5_viewPoll_56 (by decide +kernel) ?_
      refine x_callV hC hw (lv_size hl) (c_X5_set l G hRk_12 (p0 := ((ti_9.b : Nat) : Int)) (by omega) (p1 := z_15) (by omega) (p2 := (-10000)) (by omega) (by omega) (by omega) (by omega) (fun q9 => absurd rfl q9)) gX5_viewPoll_X5_set rfl dv_X5_set hRk_12.1.1 rfl rfl (Nat.le_of_ble_eq_true rfl) (by rw [hRf]; decide) (by rw [hRl]; decide) (by first | (rw [hRc]; decide) | omega) (by first | (rw [hRs]; decide) | omega) dX5_viewPoll_59 (fun r9 M_17 H locs hq hw => ?_)
      rw [Int.toNat_natCast] at hq
      obtain ⟨z_19, brk_18, Vk_18, rfl, hz_19a, hz_19v, hz_19b, he0k_18, he1k_18, hx5k_18, hRk_18⟩ := hq
      have h_20 := h_13.x5 hx5k_18
      have hsck_18 := hRk_18.sc.1
      show W p l e R s m args below meth c H locs _ _ _ (F0 m 62 ls [.int (iN (z_19))])
      refine lv_pop hC.1 hC.2.1 dX5_viewPoll_62 rfl ?_
      refine lv_iload_n hC.1 hC.2.1 dX5_viewPoll_63 rfl (lv_at hl 0 rfl) ?_
      exact x_iret hC hw dX5_viewPoll_64 (by first | decide | omega) (by first | decide | omega) ⟨z_15, thk_4, rfl, ⟨by omega, by omega⟩, Or.inl ⟨by omega, ⟨(by first | omega | trivial), (by first | omega | trivial), (by first | omega | trivial)⟩, ((show z_15 = A_viewPoll (O, V, Wv, K, kp, kv, rfd) p0 p1 by rw [A_viewPoll, show tvW (ST.W (O, V, Wv, K, kp, kv, rfd)) p0.toNat = ti_9 from tvW_some hui_9]; exact hz_15e)), (by rw [S_viewPoll, show tvW (ST.W (O, V, Wv, K, kp, kv, rfd)) p0.toNat = ti_9 from tvW_some hui_9]; exact MGm.mut he1k_18 hRk_18 hK (bl_one (by omega) he0k_18) he0k_12 (by rw [show A_viewPoll (O, V, Wv, K, kp, kv, rfd) p0 p1 = z_15 from ((show z_15 = A_viewPoll (O, V, Wv, K, kp, kv, rfd) p0 p1 by rw [A_viewPoll, show tvW (ST.W (O, V, Wv, K, kp, kv, rfd)) p0.toNat = ti_9 from tvW_some hui_9]; exact hz_15e)).symm]; exact (rmV_1 (by omega)).symm))⟩⟩
  · replace hz_5r := (hz_5r.resolve_left (fun q9 => c_6 q9.1)).2
    replace hz_2b := mt hz_2b.mpr hz_5r.1
    refine x_const hC dX5_viewPoll_13 ?_
    exact x_iret hC hw dX5_viewPoll_14 (by first | decide | omega) (by first | decide | omega) ⟨0, thk_4, rfl, by omega, Or.inr ⟨by omega, by omega, MGm.of hRk_4 hK⟩⟩
set_option maxHeartbeats 4000000 in
set_option maxRecDepth 100000 in
theorem c_X5_viewClear (l : Launch) (G : xG) {M : HM} {a va oa wa ya : Nat} {wk : Option Nat} {th : Int} {rfd : Int32} {br re la ha : Int} {kp kv : Int32} {qv qw : Nat → Nat} {fa fb : Nat → Option Nat} {V : BW} {O : OW} {fy : Nat → Option Nat} {Wv : VW} {wt : Option VT} {S : Nat → Bool} (hR : MGx G M a va oa wa ya wk th rfd br re la ha kp kv qv qw fa fb V O fy Wv wt S) {K : WA} (hK : abM O wt br re la ha K) {p0 : Int} (hp0 : -2147483648 ≤ p0 ∧ p0 ≤ 2147483647) : xMet l G yX5_viewClear wsX5_viewClear 4 90 0 0 [.ref a, .int (iN (p0))] M (fun r M1 => ∃ (z th1 : Int), r = some (.int (iN z)) ∧ (-2147483648 ≤ z ∧ z ≤ 2147483647) ∧ ((th1 = 0 ∧ ((0 ≤ p0 ∧ p0 ≤ 3 ∧ opN (Wv p0.toNat) = 1)) ∧ z = A_viewClear (O, V, Wv, K, kp, kv, rfd) p0 ∧ MGm G M1 a S th1 (S_viewClear (O, V, Wv, K, kp, kv, rfd) p0)) ∨ (th1 ≠ 0 ∧ ((th1 = 1 ∧ ¬ (0 ≤ p0 ∧ p0 ≤ 3 ∧ opN (Wv p0.toNat) = 1))) ∧ MGm G M1 a S th1 (O, V, Wv, K, kp, kv, rfd)))) := by
  refine x_intro (cc := cX5_viewClear) (maxL := 2) (ret := (some .int)) (by exact pln_RX5) rfl (Nat.le_of_ble_eq_true rfl) ?_
  intro p e R s m args below meth c ls hRf hRc hRs hRl hC hw hl
  have hsc0 := hR.sc.1
  have hinX5 : ∀ w ∈ wsX50, w ∈ wsX5_viewClear := fun w h => (List.mem_cons_of_mem _ (List.mem_append_right _ h))
  have hl : lv_has ls 2 [(0, .ref a), (1, .int (iN (p0)))] := hl
  refine lv_aload_n hC.1 hC.2.1 dX5_viewClear_0 rfl (lv_at hl 0 rfl) ?_
  refine lv_aload_n hC.1 hC.2.1 dX5_viewClear_1 rfl (lv_at hl 0 rfl) ?_
  refine lv_iload_n hC.1 hC.2.1 dX5_viewClear_2 rfl (lv_at hl 1 rfl) ?_
  refine x_callV hC hw (lv_size hl) (c_X5_isNoView l G hR (p0 := p0) (by first | assumption | omega)) gX5_viewClear_X5_isNoView rfl dv_X5_isNoView hR.1.1 rfl rfl (Nat.le_of_ble_eq_true rfl) (by rw [hRf]; decide) (by rw [hRl]; decide) (by first | (rw [hRc]; decide) | omega) (by first | (rw [hRs]; decide) | omega) dX5_viewClear_3 (fun r9 M_1 H locs hq hw => ?_)
  obtain ⟨z_2, rfl, hM9, hz_2a, hz_2b, hz_2n⟩ := hq
  rw [hM9] at hw
  show W p l e R s m args below meth c H locs _ _ _ (F0 m 6 ls [.int (iN (z_2)), .ref a])
  refine x_const hC dX5_viewClear_6 ?_
  refine x_callV hC hw (lv_size hl) (c_X5_start l G hR (p0 := z_2) (by omega) (p1 := 1) (by omega) (by omega)) gX5_viewClear_X5_start rfl dv_X5_start hR.1.1 rfl rfl (Nat.le_of_ble_eq_true rfl) (by rw [hRf]; decide) (by rw [hRl]; decide) (by first | (rw [hRc]; decide) | omega) (by first | (rw [hRs]; decide) | omega) dX5_viewClear_7 (fun r9 M_3 H locs hq hw => ?_)
  obtain ⟨z_5, thk_4, rfl, hz_5r, hx5k_4, hRk_4⟩ := hq
  have hsck_4 := hRk_4.sc.1
  show W p l e R s m args below meth c H locs _ _ _ (F0 m 10 ls [.int (iN (z_5))])
  refine x_if_eq (tgt := 15) hC ⟨by omega, by omega⟩ dX5_viewClear_10 (by decide) (fun c_6 => ?_) (fun c_6 => ?_)
  · replace hz_5r := (hz_5r.resolve_right (fun q9 => absurd (q9.1.symm.trans c_6) (by decide))).2
    replace hz_2b := hz_2b.mp hz_5r.2
    refine lv_aload_n hC.1 hC.2.1 dX5_viewClear_15 rfl (lv_at hl 0 rfl) ?_
    refine lv_aload_n hC.1 hC.2.1 dX5_viewClear_16 rfl (lv_at hl 0 rfl) ?_
    refine x_get hC hw hRk_4.1.1 rfl hinX5 5 (by decide) (List.mem_cons_of_mem _ (List.mem_append_left _ (List.mem_append_left _ (List.mem_of_getElem? (i := 0) rfl)))) rfl dX5_viewClear_17 ?_
    refine lv_iload_n hC.1 hC.2.1 dX5_viewClear_20 rfl (lv_at hl 1 rfl) ?_
    refine x_ald4 hC hw hRk_4.1.2.2.2.2.1 (by omega) (by omega) (by omega) dX5_viewClear_21 ?_
    obtain ⟨y_7, hy_8⟩ := x_some (hz_2n (by omega))
    rw [hy_8]
    obtain ⟨ti_9, fi_9, hui_9, hIi_9⟩ := (hRk_4.vw (show (p0).toNat < 4 from tn_lt (by omega) (by decide))).yes hy_8
    obtain ⟨htat_10, htbt_10, htct_10, htdt_10, htet_10⟩ := id hIi_9.2.1
    show W p l e R s m args below meth c _ _ _ _ _ (F0 m 22 ls [.ref y_7, .ref a])
    refine x_const hC dX5_viewClear_22 ?_
    refine x_ialdE (x := ((ti_9.b : Nat) : Int)) hC hw hIi_9.1 (by omega) (by omega) (by omega) dX5_viewClear_23 hIi_9.2.2.1 ?_
    refine x_callV hC hw (lv_size hl) (c_X5_touch l G hRk_4 (p0 := ((ti_9.b : Nat) : Int)) (by omega) (by omega)) gX5_viewClear_X5_touch rfl dv_X5_touch hRk_4.1.1 rfl rfl (Nat.le_of_ble_eq_true rfl) (by rw [hRf]; decide) (by rw [hRl]; decide) (by first | (rw [hRc]; decide) | omega) (by first | (rw [hRs]; decide) | omega) dX5_viewClear_24 (fun r9 M_11 H locs hq hw => ?_)
    rw [Int.toNat_natCast] at hq
    obtain ⟨hak_12, rfl, he0k_12, hx5k_12, hRk_12⟩ := hq
    have h_13 := hIi_9.x5 hx5k_12
    have hsck_12 := hRk_12.sc.1
    show W p l e R s m args below meth c H locs _ _ _ (F0 m 27 ls [])
    refine lv_aload_n hC.1 hC.2.1 dX5_viewClear_27 rfl (lv_at hl 0 rfl) ?_
    refine lv_aload_n hC.1 hC.2.1 dX5_viewClear_28 rfl (lv_at hl 0 rfl) ?_
    refine x_get hC hw hRk_12.1.1 rfl hinX5 5 (by decide) (List.mem_cons_of_mem _ (List.mem_append_left _ (List.mem_append_left _ (List.mem_of_getElem? (i := 0) rfl)))) rfl dX5_viewClear_29 ?_
    refine lv_iload_n hC.1 hC.2.1 dX5_viewClear_32 rfl (lv_at hl 1 rfl) ?_
    refine x_ald4 hC hw hRk_12.1.2.2.2.2.1 (by omega) (by omega) (by omega) dX5_viewClear_33 ?_
    rw [hy_8]
    show W p l e R s m args below meth c _ _ _ _ _ (F0 m 34 ls [.ref y_7, .ref a])
    refine x_callV hC hw (lv_size hl) (c_X5_strikeAll l G hRk_12 h_13) gX5_viewClear_X5_strikeAll rfl dv_X5_strikeAll hRk_12.1.1 rfl rfl (Nat.le_of_ble_eq_true rfl) (by rw [hRf]; decide) (by rw [hRl]; decide) (by first | (rw [hRc]; decide) | omega) (by first | (rw [hRs]; decide) | omega) dX5_viewClear_34 (fun r9 M_14 H locs hq hw => ?_)
    obtain ⟨z_16, brk_15, Vk_15, rfl, hz_16a, hz_16m, he0k_15, he1k_15, hx5k_15, hRk_15⟩ := hq
    have h_17 := h_13.x5 hx5k_15
    have hsck_15 := hRk_15.sc.1
    show W p l e R s m args below meth c H locs _ _ _ (F0 m 37 ls [.int (iN (z_16))])
    exact x_iret hC hw dX5_viewClear_37 (by first | decide | omega) (by first | decide | omega) ⟨z_16, thk_4, rfl, ⟨by omega, by omega⟩, Or.inl ⟨by omega, ⟨(by first | omega | trivial), (by first | omega | trivial), (by first | omega | trivial)⟩, (by rw [A_viewClear, show tvW (ST.W (O, V, Wv, K, kp, kv, rfd)) p0.toNat = ti_9 from tvW_some hui_9]; exact hz_16m), (by rw [S_viewClear, show tvW (ST.W (O, V, Wv, K, kp, kv, rfd)) p0.toNat = ti_9 from tvW_some hui_9]; exact MGm.mut he1k_15 hRk_15 hK (bl_map he0k_15) he0k_12 rfl)⟩⟩
  · replace hz_5r := (hz_5r.resolve_left (fun q9 => c_6 q9.1)).2
    replace hz_2b := mt hz_2b.mpr hz_5r.1
    refine x_const hC dX5_viewClear_13 ?_
    exact x_iret hC hw dX5_viewClear_14 (by first | decide | omega) (by first | decide | omega) ⟨0, thk_4, rfl, by omega, Or.inr ⟨by omega, by omega, MGm.of hRk_4 hK⟩⟩
set_option maxHeartbeats 4000000 in
set_option maxRecDepth 100000 in
theorem c_X5_walk (l : Launch) (G : xG) {M : HM} {a va oa wa ya : Nat} {wk : Option Nat} {th : Int} {rfd : Int32} {br re la ha : Int} {kp kv : Int32} {qv qw : Nat → Nat} {fa fb : Nat → Option Nat} {V : BW} {O : OW} {fy : Nat → Option Nat} {Wv : VW} {wt : Option VT} {S : Nat → Bool} (hR : MGx G M a va oa wa ya wk th rfd br re la ha kp kv qv qw fa fb V O fy Wv wt S) {K : WA} (hK : abM O wt br re la ha K) {p0 : Int} (hp0 : -2147483648 ≤ p0 ∧ p0 ≤ 2147483647) : xMet l G yX5_walk wsX5_walk 4 90 1 5 [.ref a, .int (iN (p0))] M (fun r M1 => ∃ (z th1 : Int), r = some (.int (iN z)) ∧ (-2147483648 ≤ z ∧ z ≤ 2147483647) ∧ ((th1 = 0 ∧ ((0 ≤ p0 ∧ p0 ≤ 2)) ∧ z = A_walk (O, V, Wv, K, kp, kv, rfd) p0 ∧ MGm G M1 a S th1 (S_walk (O, V, Wv, K, kp, kv, rfd) p0)) ∨ (th1 ≠ 0 ∧ ((th1 = 1 ∧ ¬ (0 ≤ p0 ∧ p0 ≤ 2))) ∧ MGm G M1 a S th1 (O, V, Wv, K, kp, kv, rfd)))) := by
  refine x_intro (cc := cX5_walk) (maxL := 2) (ret := (some .int)) (by exact pln_RX5) rfl (Nat.le_of_ble_eq_true rfl) ?_
  intro p e R s m args below meth c ls hRf hRc hRs hRl hC hw hl
  have hsc0 := hR.sc.1
  have hinX5 : ∀ w ∈ wsX50, w ∈ wsX5_walk := fun w h => (List.mem_cons_of_mem _ (List.mem_append_right _ h))
  have hl : lv_has ls 2 [(0, .ref a), (1, .int (iN (p0)))] := hl
  refine lv_aload_n hC.1 hC.2.1 dX5_walk_0 rfl (lv_at hl 0 rfl) ?_
  refine lv_iload_n hC.1 hC.2.1 dX5_walk_1 rfl (lv_at hl 1 rfl) ?_
  refine x_callS hC hw (lv_size hl) (c_X5_isNoBook l G (M := M) (p0 := p0) (by first | assumption | omega)) gX5_walk_X5_isNoBook rfl dv_X5_isNoBook_s rfl (Nat.le_of_ble_eq_true rfl) (by rw [hRf]; decide) (by rw [hRl]; decide) (by first | (rw [hRc]; decide) | omega) (by first | (rw [hRs]; decide) | omega) dX5_walk_2 (fun r9 M_1 H locs hq hw => ?_)
  obtain ⟨z_2, rfl, hM9, hz_2a, hz_2b⟩ := hq
  rw [hM9] at hw
  show W p l e R s m args below meth c H locs _ _ _ (F0 m 5 ls [.int (iN (z_2)), .ref a])
  refine x_const hC dX5_walk_5 ?_
  refine x_callV hC hw (lv_size hl) (c_X5_start l G hR (p0 := z_2) (by omega) (p1 := 1) (by omega) (by omega)) gX5_walk_X5_start rfl dv_X5_start hR.1.1 rfl rfl (Nat.le_of_ble_eq_true rfl) (by rw [hRf]; decide) (by rw [hRl]; decide) (by first | (rw [hRc]; decide) | omega) (by first | (rw [hRs]; decide) | omega) dX5_walk_6 (fun r9 M_3 H locs hq hw => ?_)
  obtain ⟨z_5, thk_4, rfl, hz_5r, hx5k_4, hRk_4⟩ := hq
  have hsck_4 := hRk_4.sc.1
  show W p l e R s m args below meth c H locs _ _ _ (F0 m 9 ls [.int (iN (z_5))])
  refine x_if_eq (tgt := 14) hC ⟨by omega, by omega⟩ dX5_walk_9 (by decide) (fun c_6 => ?_) (fun c_6 => ?_)
  · replace hz_5r := (hz_5r.resolve_right (fun q9 => absurd (q9.1.symm.trans c_6) (by decide))).2
    replace hz_2b := hz_2b.mp hz_5r.2
    refine lv_aload_n hC.1 hC.2.1 dX5_walk_14 rfl (lv_at hl 0 rfl) ?_
    refine lv_iload_n hC.1 hC.2.1 dX5_walk_15 rfl (lv_at hl 1 rfl) ?_
    refine x_callS hC hw (lv_size hl) (c_X5_whole l G (M := M_3) (p0 := p0) (by first | assumption | omega) (by omega)) gX5_walk_X5_whole rfl dv_X5_whole_s rfl (Nat.le_of_ble_eq_true rfl) (by rw [hRf]; decide) (by rw [hRl]; decide) (by first | (rw [hRc]; decide) | omega) (by first | (rw [hRs]; decide) | omega) dX5_walk_16 (fun r9 M_7 H locs hq hw => ?_)
    obtain ⟨qk_8, fk_8, rfl, hxk_8, hIk_8⟩ := hq
    have h_9 := hRk_4.ext hxk_8
    obtain ⟨htat_10, htbt_10, htct_10, htdt_10, htet_10⟩ := id hIk_8.2.1
    have holk_8 := h_9.or' hIk_8.2.1.1
    show W p l e R s m args below meth c H locs _ _ _ (F0 m 19 ls [.ref qk_8, .ref a])
    refine x_callV hC hw (lv_size hl) (c_X5_begin l G h_9 hIk_8) gX5_walk_X5_begin rfl dv_X5_begin h_9.1.1 rfl rfl (Nat.le_of_ble_eq_true rfl) (by rw [hRf]; decide) (by rw [hRl]; decide) (by first | (rw [hRc]; decide) | omega) (by first | (rw [hRs]; decide) | omega) dX5_walk_19 (fun r9 M_11 H locs hq hw => ?_)
    obtain ⟨rfl, hx5k_12, hRk_12⟩ := hq
    have h_13 := hIk_8.x5 hx5k_12
    show W p l e R s m args below meth c H locs _ _ _ (F0 m 22 ls [])
    refine lv_aload_n hC.1 hC.2.1 dX5_walk_22 rfl (lv_at hl 0 rfl) ?_
    refine lv_aload_n hC.1 hC.2.1 dX5_walk_23 rfl (lv_at hl 0 rfl) ?_
    refine x_get hC hw hRk_12.1.1 rfl hinX5 6 (by decide) (List.mem_cons_of_mem _ (List.mem_append_left _ (List.mem_append_left _ (List.mem_of_getElem? (i := 0) rfl)))) rfl dX5_walk_24 ?_
    show W p l e R s m args below meth c _ _ _ _ _ (F0 m 27 ls [.ref qk_8, .ref a])
    refine x_callV hC hw (lv_size hl) (c_X5_many l G hRk_12 h_13) gX5_walk_X5_many rfl dv_X5_many hRk_12.1.1 rfl rfl (Nat.le_of_ble_eq_true rfl) (by rw [hRf]; decide) (by rw [hRl]; decide) (by first | (rw [hRc]; decide) | omega) (by first | (rw [hRs]; decide) | omega) dX5_walk_27 (fun r9 M_14 H locs hq hw => ?_)
    obtain ⟨z_15, rfl, hM9, hz_15a, hz_15m⟩ := hq
    rw [hM9] at hw
    show W p l e R s m args below meth c H locs _ _ _ (F0 m 30 ls [.int (iN (z_15))])
    exact x_iret hC hw dX5_walk_30 (by first | decide | omega) (by first | decide | omega) ⟨z_15, thk_4, rfl, ⟨by omega, by omega⟩, Or.inl ⟨by omega, ⟨(by first | omega | trivial), (by first | omega | trivial)⟩, hz_15m, (MGm.of hRk_12 abM_new)⟩⟩
  · replace hz_5r := (hz_5r.resolve_left (fun q9 => c_6 q9.1)).2
    replace hz_2b := mt hz_2b.mpr hz_5r.1
    refine x_const hC dX5_walk_12 ?_
    exact x_iret hC hw dX5_walk_13 (by first | decide | omega) (by first | decide | omega) ⟨0, thk_4, rfl, by omega, Or.inr ⟨by omega, by omega, MGm.of hRk_4 hK⟩⟩
set_option maxHeartbeats 4000000 in
set_option maxRecDepth 100000 in
theorem c_X5_viewWalk (l : Launch) (G : xG) {M : HM} {a va oa wa ya : Nat} {wk : Option Nat} {th : Int} {rfd : Int32} {br re la ha : Int} {kp kv : Int32} {qv qw : Nat → Nat} {fa fb : Nat → Option Nat} {V : BW} {O : OW} {fy : Nat → Option Nat} {Wv : VW} {wt : Option VT} {S : Nat → Bool} (hR : MGx G M a va oa wa ya wk th rfd br re la ha kp kv qv qw fa fb V O fy Wv wt S) {K : WA} (hK : abM O wt br re la ha K) {p0 : Int} (hp0 : -2147483648 ≤ p0 ∧ p0 ≤ 2147483647) : xMet l G yX5_viewWalk wsX5_viewWalk 4 90 1 5 [.ref a, .int (iN (p0))] M (fun r M1 => ∃ (z th1 : Int), r = some (.int (iN z)) ∧ (-2147483648 ≤ z ∧ z ≤ 2147483647) ∧ ((th1 = 0 ∧ ((0 ≤ p0 ∧ p0 ≤ 3 ∧ opN (Wv p0.toNat) = 1)) ∧ z = A_viewWalk (O, V, Wv, K, kp, kv, rfd) p0 ∧ MGm G M1 a S th1 (S_viewWalk (O, V, Wv, K, kp, kv, rfd) p0)) ∨ (th1 ≠ 0 ∧ ((th1 = 1 ∧ ¬ (0 ≤ p0 ∧ p0 ≤ 3 ∧ opN (Wv p0.toNat) = 1))) ∧ MGm G M1 a S th1 (O, V, Wv, K, kp, kv, rfd)))) := by
  refine x_intro (cc := cX5_viewWalk) (maxL := 2) (ret := (some .int)) (by exact pln_RX5) rfl (Nat.le_of_ble_eq_true rfl) ?_
  intro p e R s m args below meth c ls hRf hRc hRs hRl hC hw hl
  have hsc0 := hR.sc.1
  have hinX5 : ∀ w ∈ wsX50, w ∈ wsX5_viewWalk := fun w h => (List.mem_cons_of_mem _ (List.mem_append_right _ h))
  have hl : lv_has ls 2 [(0, .ref a), (1, .int (iN (p0)))] := hl
  refine lv_aload_n hC.1 hC.2.1 dX5_viewWalk_0 rfl (lv_at hl 0 rfl) ?_
  refine lv_aload_n hC.1 hC.2.1 dX5_viewWalk_1 rfl (lv_at hl 0 rfl) ?_
  refine lv_iload_n hC.1 hC.2.1 dX5_viewWalk_2 rfl (lv_at hl 1 rfl) ?_
  refine x_callV hC hw (lv_size hl) (c_X5_isNoView l G hR (p0 := p0) (by first | assumption | omega)) gX5_viewWalk_X5_isNoView rfl dv_X5_isNoView hR.1.1 rfl rfl (Nat.le_of_ble_eq_true rfl) (by rw [hRf]; decide) (by rw [hRl]; decide) (by first | (rw [hRc]; decide) | omega) (by first | (rw [hRs]; decide) | omega) dX5_viewWalk_3 (fun r9 M_1 H locs hq hw => ?_)
  obtain ⟨z_2, rfl, hM9, hz_2a, hz_2b, hz_2n⟩ := hq
  rw [hM9] at hw
  show W p l e R s m args below meth c H locs _ _ _ (F0 m 6 ls [.int (iN (z_2)), .ref a])
  refine x_const hC dX5_viewWalk_6 ?_
  refine x_callV hC hw (lv_size hl) (c_X5_start l G hR (p0 := z_2) (by omega) (p1 := 1) (by omega) (by omega)) gX5_viewWalk_X5_start rfl dv_X5_start hR.1.1 rfl rfl (Nat.le_of_ble_eq_true rfl) (by rw [hRf]; decide) (by rw [hRl]; decide) (by first | (rw [hRc]; decide) | omega) (by first | (rw [hRs]; decide) | omega) dX5_viewWalk_7 (fun r9 M_3 H locs hq hw => ?_)
  obtain ⟨z_5, thk_4, rfl, hz_5r, hx5k_4, hRk_4⟩ := hq
  have hsck_4 := hRk_4.sc.1
  show W p l e R s m args below meth c H locs _ _ _ (F0 m 10 ls [.int (iN (z_5))])
  refine x_if_eq (tgt := 15) hC ⟨by omega, by omega⟩ dX5_viewWalk_10 (by decide) (fun c_6 => ?_) (fun c_6 => ?_)
  · replace hz_5r := (hz_5r.resolve_right (fun q9 => absurd (q9.1.symm.trans c_6) (by decide))).2
    replace hz_2b := hz_2b.mp hz_5r.2
    refine lv_aload_n hC.1 hC.2.1 dX5_viewWalk_15 rfl (lv_at hl 0 rfl) ?_
    refine lv_aload_n hC.1 hC.2.1 dX5_viewWalk_16 rfl (lv_at hl 0 rfl) ?_
    refine x_get hC hw hRk_4.1.1 rfl hinX5 5 (by decide) (List.mem_cons_of_mem _ (List.mem_append_left _ (List.mem_append_left _ (List.mem_of_getElem? (i := 0) rfl)))) rfl dX5_viewWalk_17 ?_
    refine lv_iload_n hC.1 hC.2.1 dX5_viewWalk_20 rfl (lv_at hl 1 rfl) ?_
    refine x_ald4 hC hw hRk_4.1.2.2.2.2.1 (by omega) (by omega) (by omega) dX5_viewWalk_21 ?_
    obtain ⟨y_7, hy_8⟩ := x_some (hz_2n (by omega))
    rw [hy_8]
    obtain ⟨ti_9, fi_9, hui_9, hIi_9⟩ := (hRk_4.vw (show (p0).toNat < 4 from tn_lt (by omega) (by decide))).yes hy_8
    obtain ⟨htat_10, htbt_10, htct_10, htdt_10, htet_10⟩ := id hIi_9.2.1
    show W p l e R s m args below meth c _ _ _ _ _ (F0 m 22 ls [.ref y_7, .ref a])
    refine x_clone1 hC hw (lv_size hl) hIi_9.1 (by decide +kernel) (by decide +kernel) (by decide +kernel) (by decide +kernel) (by decide +kernel) (by rw [hRf]; decide) (by rw [hRl]; exact Nat.le_of_ble_eq_true rfl) (by first | (rw [hRc]; decide) | omega) (by first | (rw [hRs]; decide) | omega) dX5_viewWalk_22 (fun q_11 H hq_12 hw => ?_)
    obtain ⟨M_13, hM_14⟩ : ∃ z, z = va_up M_3 q_11 (some (.inl (G.2 1, 5, .inl fi_9))) := ⟨_, rfl⟩
    rw [← hM_14] at hw
    have hx_15 : xExt M_3 M_13 := by rw [hM_14]; exact xExt.new hq_12
    have hI_16 : Its G M_13 q_11 fi_9 ti_9 := ⟨by rw [hM_14, va_up_self], hIi_9.2⟩
    have h_17 := hRk_4.ext hx_15
    have h_18 := hIi_9.x5 (xExt.x5 hx_15)
    refine x_castI hC hw hI_16.1 (by decide +kernel) dX5_viewWalk_25 ?_
    refine x_callV hC hw (lv_size hl) (c_X5_begin l G h_17 hI_16) gX5_viewWalk_X5_begin rfl dv_X5_begin h_17.1.1 rfl rfl (Nat.le_of_ble_eq_true rfl) (by rw [hRf]; decide) (by rw [hRl]; decide) (by first | (rw [hRc]; decide) | omega) (by first | (rw [hRs]; decide) | omega) dX5_viewWalk_28 (fun r9 M_19 H locs hq hw => ?_)
    obtain ⟨rfl, hx5k_20, hRk_20⟩ := hq
    have h_21 := h_18.x5 hx5k_20
    have h_22 := hI_16.x5 hx5k_20
    show W p l e R s m args below meth c H locs _ _ _ (F0 m 31 ls [])
    refine lv_aload_n hC.1 hC.2.1 dX5_viewWalk_31 rfl (lv_at hl 0 rfl) ?_
    refine lv_aload_n hC.1 hC.2.1 dX5_viewWalk_32 rfl (lv_at hl 0 rfl) ?_
    refine x_get hC hw hRk_20.1.1 rfl hinX5 6 (by decide) (List.mem_cons_of_mem _ (List.mem_append_left _ (List.mem_append_left _ (List.mem_of_getElem? (i := 7) rfl)))) rfl dX5_viewWalk_33 ?_
    show W p l e R s m args below meth c _ _ _ _ _ (F0 m 36 ls [.ref q_11, .ref a])
    refine x_callV hC hw (lv_size hl) (c_X5_many l G hRk_20 h_22) gX5_viewWalk_X5_many rfl dv_X5_many hRk_20.1.1 rfl rfl (Nat.le_of_ble_eq_true rfl) (by rw [hRf]; decide) (by rw [hRl]; decide) (by first | (rw [hRc]; decide) | omega) (by first | (rw [hRs]; decide) | omega) dX5_viewWalk_36 (fun r9 M_23 H locs hq hw => ?_)
    obtain ⟨z_24, rfl, hM9, hz_24a, hz_24m⟩ := hq
    rw [hM9] at hw
    show W p l e R s m args below meth c H locs _ _ _ (F0 m 39 ls [.int (iN (z_24))])
    exact x_iret hC hw dX5_viewWalk_39 (by first | decide | omega) (by first | decide | omega) ⟨z_24, thk_4, rfl, ⟨by omega, by omega⟩, Or.inl ⟨by omega, ⟨(by first | omega | trivial), (by first | omega | trivial), (by first | omega | trivial)⟩, (by rw [A_viewWalk, show tvW (ST.W (O, V, Wv, K, kp, kv, rfd)) p0.toNat = ti_9 from tvW_some hui_9]; exact hz_24m), (by rw [S_viewWalk, show tvW (ST.W (O, V, Wv, K, kp, kv, rfd)) p0.toNat = ti_9 from tvW_some hui_9]; exact MGm.of hRk_20 abM_new)⟩⟩
  · replace hz_5r := (hz_5r.resolve_left (fun q9 => c_6 q9.1)).2
    replace hz_2b := mt hz_2b.mpr hz_5r.1
    refine x_const hC dX5_viewWalk_13 ?_
    exact x_iret hC hw dX5_viewWalk_14 (by first | decide | omega) (by first | decide | omega) ⟨0, thk_4, rfl, by omega, Or.inr ⟨by omega, by omega, MGm.of hRk_4 hK⟩⟩
set_option maxHeartbeats 4000000 in
set_option maxRecDepth 100000 in
theorem c_X5_step (l : Launch) (G : xG) {M : HM} {a va oa wa ya : Nat} {wk : Option Nat} {th : Int} {rfd : Int32} {br re la ha : Int} {kp kv : Int32} {qv qw : Nat → Nat} {fa fb : Nat → Option Nat} {V : BW} {O : OW} {fy : Nat → Option Nat} {Wv : VW} {wt : Option VT} {S : Nat → Bool} (hR : MGx G M a va oa wa ya wk th rfd br re la ha kp kv qv qw fa fb V O fy Wv wt S) {K : WA} (hK : abM O wt br re la ha K) : xMet l G yX5_step wsX5_step 4 93 0 0 [.ref a] M (fun r M1 => ∃ (z th1 : Int), r = some (.int (iN z)) ∧ (-2147483648 ≤ z ∧ z ≤ 2147483647) ∧ ((th1 = 0 ∧ ((kS (K) = 1)) ∧ z = A_step (O, V, Wv, K, kp, kv, rfd) ∧ MGm G M1 a S th1 (S_step (O, V, Wv, K, kp, kv, rfd))) ∨ (th1 ≠ 0 ∧ ((th1 = 1 ∧ ¬ (kS (K) = 1))) ∧ MGm G M1 a S th1 (O, V, Wv, K, kp, kv, rfd)))) := by
  refine x_intro (cc := cX5_step) (maxL := 2) (ret := (some .int)) (by exact pln_RX5) rfl (Nat.le_of_ble_eq_true rfl) ?_
  intro p e R s m args below meth c ls hRf hRc hRs hRl hC hw hl
  have hsc0 := hR.sc.1
  have hinX5 : ∀ w ∈ wsX50, w ∈ wsX5_step := fun w h => (List.mem_cons_of_mem _ (List.mem_append_right _ h))
  have hl : lv_has ls 2 [(0, .ref a)] := hl
  refine lv_aload_n hC.1 hC.2.1 dX5_step_0 rfl (lv_at hl 0 rfl) ?_
  refine lv_aload_n hC.1 hC.2.1 dX5_step_1 rfl (lv_at hl 0 rfl) ?_
  refine x_get hC hw hR.1.1 rfl hinX5 6 (by decide) (List.mem_cons_of_mem _ (List.mem_append_left _ (List.mem_append_left _ (List.mem_of_getElem? (i := 0) rfl)))) rfl dX5_step_2 ?_
  rcases wk with _ | w_1
  · have hwt_2 := hR.wk'.nil rfl
    subst hwt_2
    have hkn := abM_none hK
    subst hkn
    have hks0 := kS_nil
    show W p l e R s m args below meth c _ _ _ _ _ (F0 m 5 ls [.null, .ref a])
    refine lv_ifnullN (tgt := 15) hC.1 hC.2.1 dX5_step_5 (by decide) ?_
    refine x_const hC dX5_step_15 ?_
    refine lv_goto (tgt := 20) hC.1 hC.2.1 dX5_step_16 (by decide) ?_
    refine x_const hC dX5_step_20 ?_
    refine x_callV hC hw (lv_size hl) (c_X5_start l G hR (p0 := 1) (by omega) (p1 := 1) (by omega) (by omega)) gX5_step_X5_start rfl dv_X5_start hR.1.1 rfl rfl (Nat.le_of_ble_eq_true rfl) (by rw [hRf]; decide) (by rw [hRl]; decide) (by first | (rw [hRc]; decide) | omega) (by first | (rw [hRs]; decide) | omega) dX5_step_21 (fun r9 M_3 H locs hq hw => ?_)
    obtain ⟨z_5, thk_4, rfl, hz_5r, hx5k_4, hRk_4⟩ := hq
    have hsck_4 := hRk_4.sc.1
    show W p l e R s m args below meth c H locs _ _ _ (F0 m 24 ls [.int (iN (z_5))])
    refine x_if_eq (tgt := 29) hC ⟨by omega, by omega⟩ dX5_step_24 (by decide) (fun c_6 => ?_) (fun c_6 => ?_)
    · replace hz_5r := (hz_5r.resolve_right (fun q9 => absurd (q9.1.symm.trans c_6) (by decide))).2
      exact absurd hz_5r.2 (by decide)
    · replace hz_5r := (hz_5r.resolve_left (fun q9 => c_6 q9.1)).2
      refine x_const hC dX5_step_27 ?_
      exact x_iret hC hw dX5_step_28 (by first | decide | omega) (by first | decide | omega) ⟨0, thk_4, rfl, by omega, Or.inr ⟨by omega, by omega, MGm.of hRk_4 hK⟩⟩
  · obtain ⟨ti_7, fi_7, hui_7, hIi_7⟩ := hR.wk'.yes rfl
    obtain ⟨htat_8, htbt_8, htct_8, htdt_8, htet_8⟩ := id hIi_7.2.1
    subst hui_7
    obtain ⟨ps9, cd9, hd9, hkn, hre9, hla9, hha9, hcd9, hhd9, hhc9, hcp9, hps9⟩ := abM_some hK
    subst hkn
    have hks9 := kS_some (t := ti_7) (ps := ps9) (cd := cd9) (hd := hd9) (br := br)
    have hkh9 : kH (some (ti_7, ps9, cd9, hd9, br)) = hd9 := rfl
    have hkc9 : kC (some (ti_7, ps9, cd9, hd9, br)) = cd9 := rfl
    show W p l e R s m args below meth c _ _ _ _ _ (F0 m 5 ls [.ref w_1, .ref a])
    refine lv_ifnull hC.1 hC.2.1 dX5_step_5 ?_
    refine lv_aload_n hC.1 hC.2.1 dX5_step_8 rfl (lv_at hl 0 rfl) ?_
    refine x_get hC hw hR.1.1 rfl hinX5 7 (by decide) (List.mem_cons_of_mem _ (List.mem_append_left _ (List.mem_append_left _ (List.mem_of_getElem? (i := 1) rfl)))) rfl dX5_step_9 ?_
    have sc_9 := hR.sc.2.1
    refine x_if_eq (tgt := 19) hC ⟨by omega, by omega⟩ dX5_step_12 (by decide) (fun c_10 => ?_) (fun c_10 => ?_)
    · refine x_const hC dX5_step_19 ?_
      refine x_const hC dX5_step_20 ?_
      refine x_callV hC hw (lv_size hl) (c_X5_start l G hR (p0 := 0) (by omega) (p1 := 1) (by omega) (by omega)) gX5_step_X5_start rfl dv_X5_start hR.1.1 rfl rfl (Nat.le_of_ble_eq_true rfl) (by rw [hRf]; decide) (by rw [hRl]; decide) (by first | (rw [hRc]; decide) | omega) (by first | (rw [hRs]; decide) | omega) dX5_step_21 (fun r9 M_11 H locs hq hw => ?_)
      obtain ⟨z_13, thk_12, rfl, hz_13r, hx5k_12, hRk_12⟩ := hq
      have h_14 := hIi_7.x5 hx5k_12
      have hsck_12 := hRk_12.sc.1
      show W p l e R s m args below meth c H locs _ _ _ (F0 m 24 ls [.int (iN (z_13))])
      refine x_if_eq (tgt := 29) hC ⟨by omega, by omega⟩ dX5_step_24 (by decide) (fun c_15 => ?_) (fun c_15 => ?_)
      · replace hz_13r := (hz_13r.resolve_right (fun q9 => absurd (q9.1.symm.trans c_15) (by decide))).2
        refine lv_aload_n hC.1 hC.2.1 dX5_step_29 rfl (lv_at hl 0 rfl) ?_
        refine lv_aload_n hC.1 hC.2.1 dX5_step_30 rfl (lv_at hl 0 rfl) ?_
        refine x_get hC hw hRk_12.1.1 rfl hinX5 6 (by decide) (List.mem_cons_of_mem _ (List.mem_append_left _ (List.mem_append_left _ (List.mem_of_getElem? (i := 0) rfl)))) rfl dX5_step_31 ?_
        show W p l e R s m args below meth c _ _ _ _ _ (F0 m 34 ls [.ref w_1, .ref a])
        refine lv_aload_n hC.1 hC.2.1 dX5_step_34 rfl (lv_at hl 0 rfl) ?_
        refine x_get hC hw hRk_12.1.1 rfl hinX5 8 (by decide) (List.mem_cons_of_mem _ (List.mem_append_left _ (List.mem_append_left _ (List.mem_of_getElem? (i := 2) rfl)))) rfl dX5_step_35 ?_
        have sc_16 := hRk_12.sc.2.2.1
        refine x_const hC dX5_step_38 ?_
        refine x_callV hC hw (lv_size hl) (c_X5_closest l G hRk_12 h_14 (p0 := re) (by omega) (p1 := 1) (by omega) (by omega)) gX5_step_X5_closest rfl dv_X5_closest hRk_12.1.1 rfl rfl (Nat.le_of_ble_eq_true rfl) (by rw [hRf]; decide) (by rw [hRl]; decide) (by first | (rw [hRc]; decide) | omega) (by first | (rw [hRs]; decide) | omega) dX5_step_39 (fun r9 M_17 H locs hq hw => ?_)
        obtain ⟨z_18, rfl, hM9, hz_18a, hz_18S, hz_18c⟩ := hq
        rw [hM9] at hw
        show W p l e R s m args below meth c H locs _ _ _ (F0 m 42 ls [.int (iN (z_18))])
        refine lv_istore_n (lv' := [(1, .int (iN (z_18))), (0, .ref a)]) hC.1 hC.2.1 dX5_step_42 rfl hl (by decide) rfl (fun ls hl => ?_)
        refine lv_iload_n hC.1 hC.2.1 dX5_step_43 rfl (lv_at hl 0 rfl) ?_
        refine x_sipush hC dX5_step_44 (by decide +kernel) ?_
        refine x_icmp_ne (tgt := 54) hC ⟨by omega, by omega⟩ ⟨by omega, by omega⟩ dX5_step_47 (by decide) (fun c_19 => ?_) (fun c_19 => ?_)
        · refine lv_aload_n hC.1 hC.2.1 dX5_step_54 rfl (lv_at hl 1 rfl) ?_
          refine lv_aload_n hC.1 hC.2.1 dX5_step_55 rfl (lv_at hl 1 rfl) ?_
          refine lv_aload_n hC.1 hC.2.1 dX5_step_56 rfl (lv_at hl 1 rfl) ?_
          refine x_get hC hw hRk_12.1.1 rfl hinX5 6 (by decide) (List.mem_cons_of_mem _ (List.mem_append_left _ (List.mem_append_left _ (List.mem_of_getElem? (i := 0) rfl)))) rfl dX5_step_57 ?_
          show W p l e R s m args below meth c _ _ _ _ _ (F0 m 60 ls [.ref w_1, .ref a, .ref a])
          refine lv_iload_n hC.1 hC.2.1 dX5_step_60 rfl (lv_at hl 0 rfl) ?_
          refine x_callV hC hw (lv_size hl) (c_X5_weight l G hRk_12 h_14 (p0 := z_18) (by omega) (by omega)) gX5_step_X5_weight rfl dv_X5_weight hRk_12.1.1 rfl rfl (Nat.le_of_ble_eq_true rfl) (by rw [hRf]; decide) (by rw [hRl]; decide) (by first | (rw [hRc]; decide) | omega) (by first | (rw [hRs]; decide) | omega) dX5_step_61 (fun r9 M_20 H locs hq hw => ?_)
          obtain ⟨z_21, rfl, hM9, hz_21a, hz_21b⟩ := hq
          rw [hM9] at hw
          show W p l e R s m args below meth c H locs _ _ _ (F0 m 64 ls [.int (iN (z_21)), .ref a])
          refine x_put (fs2 := [.int (iN (thk_12)), .int rfd, .ref va, .ref oa, .ref wa, .ref ya, .ref w_1, .int (iN (br)), .int (iN (z_21)), .int (iN (la)), .int (iN (ha)), .int kp, .int kv]) hC hw hRk_12.1.1 rfl hinX5 tyX5 tyX5_ok nmX5 8 (by decide) (List.mem_cons_of_mem _ (List.mem_append_left _ (List.mem_append_left _ (List.mem_of_getElem? (i := 2) rfl)))) rfl rfl rfl (Nat.le_of_ble_eq_true rfl) rfl dX5_step_64 (fun H locs hw => ?_)
          obtain ⟨M_22, hM_23⟩ : ∃ z, z = va_up M_11 a (some (.inr (7, [.int (iN (thk_12)), .int rfd, .ref va, .ref oa, .ref wa, .ref ya, .ref w_1, .int (iN (br)), .int (iN (z_21)), .int (iN (la)), .int (iN (ha)), .int kp, .int kv]))) := ⟨_, rfl⟩
          rw [← hM_23] at hw
          have hR_24 : MGx G M_22 a va oa wa ya (some w_1) thk_12 rfd br z_21 la ha kp kv qv qw fa fb V O fy Wv (some ti_7) S := hRk_12.obj hM_23 ⟨hRk_12.sc.1, hRk_12.sc.2.1, (by omega), hRk_12.sc.2.2.2.1, hRk_12.sc.2.2.2.2⟩ hRk_12.wk'
          have h_25 := h_14.x5 (hRk_12.obj5 hM_23)
          refine lv_aload_n hC.1 hC.2.1 dX5_step_67 rfl (lv_at hl 1 rfl) ?_
          refine lv_iload_n hC.1 hC.2.1 dX5_step_68 rfl (lv_at hl 0 rfl) ?_
          refine x_put (fs2 := [.int (iN (thk_12)), .int rfd, .ref va, .ref oa, .ref wa, .ref ya, .ref w_1, .int (iN (br)), .int (iN (z_21)), .int (iN (z_18)), .int (iN (ha)), .int kp, .int kv]) hC hw hR_24.1.1 rfl hinX5 tyX5 tyX5_ok nmX5 9 (by decide) (List.mem_cons_of_mem _ (List.mem_append_left _ (List.mem_append_left _ (List.mem_of_getElem? (i := 3) rfl)))) rfl rfl rfl (Nat.le_of_ble_eq_true rfl) rfl dX5_step_69 (fun H locs hw => ?_)
          obtain ⟨M_26, hM_27⟩ : ∃ z, z = va_up M_22 a (some (.inr (7, [.int (iN (thk_12)), .int rfd, .ref va, .ref oa, .ref wa, .ref ya, .ref w_1, .int (iN (br)), .int (iN (z_21)), .int (iN (z_18)), .int (iN (ha)), .int kp, .int kv]))) := ⟨_, rfl⟩
          rw [← hM_27] at hw
          have hR_28 : MGx G M_26 a va oa wa ya (some w_1) thk_12 rfd br z_21 z_18 ha kp kv qv qw fa fb V O fy Wv (some ti_7) S := hR_24.obj hM_27 ⟨hR_24.sc.1, hR_24.sc.2.1, hR_24.sc.2.2.1, (by omega), hR_24.sc.2.2.2.2⟩ hR_24.wk'
          have h_29 := h_25.x5 (hR_24.obj5 hM_27)
          refine lv_aload_n hC.1 hC.2.1 dX5_step_72 rfl (lv_at hl 1 rfl) ?_
          refine lv_iload_n hC.1 hC.2.1 dX5_step_73 rfl (lv_at hl 0 rfl) ?_
          refine x_put (fs2 := [.int (iN (thk_12)), .int rfd, .ref va, .ref oa, .ref wa, .ref ya, .ref w_1, .int (iN (br)), .int (iN (z_21)), .int (iN (z_18)), .int (iN (z_18)), .int kp, .int kv]) hC hw hR_28.1.1 rfl hinX5 tyX5 tyX5_ok nmX5 10 (by decide) (List.mem_cons_of_mem _ (List.mem_append_left _ (List.mem_append_left _ (List.mem_of_getElem? (i := 4) rfl)))) rfl rfl rfl (Nat.le_of_ble_eq_true rfl) rfl dX5_step_74 (fun H locs hw => ?_)
          obtain ⟨M_30, hM_31⟩ : ∃ z, z = va_up M_26 a (some (.inr (7, [.int (iN (thk_12)), .int rfd, .ref va, .ref oa, .ref wa, .ref ya, .ref w_1, .int (iN (br)), .int (iN (z_21)), .int (iN (z_18)), .int (iN (z_18)), .int kp, .int kv]))) := ⟨_, rfl⟩
          rw [← hM_31] at hw
          have hR_32 : MGx G M_30 a va oa wa ya (some w_1) thk_12 rfd br z_21 z_18 z_18 kp kv qv qw fa fb V O fy Wv (some ti_7) S := hR_28.obj hM_31 ⟨hR_28.sc.1, hR_28.sc.2.1, hR_28.sc.2.2.1, hR_28.sc.2.2.2.1, (by omega)⟩ hR_28.wk'
          have h_33 := h_29.x5 (hR_28.obj5 hM_31)
          refine lv_iload_n hC.1 hC.2.1 dX5_step_77 rfl (lv_at hl 0 rfl) ?_
          exact x_iret hC hw dX5_step_78 (by first | decide | omega) (by first | decide | omega) ⟨z_18, thk_12, rfl, ⟨by omega, by omega⟩, Or.inl ⟨by omega, (by first | omega | trivial), (show z_18 = clF O V ti_7 (rcW O ti_7 ps9) 1 100 by have e9 := hz_18c; rw [hre9] at e9; exact e9), (by rw [S_step, (show A_step (O, V, Wv, (some (ti_7, ps9, cd9, hd9, br)), kp, kv, rfd) = z_18 from by have e9 := hz_18c; rw [hre9] at e9; exact e9.symm), if_neg (by omega)]; exact MGm.of (K := some (ti_7, z_18, 1, 1, br)) hR_32 ⟨rfl, rfl, by rw [rcW, if_neg (by omega)]; exact hz_21b, (if_pos rfl).symm, (if_pos rfl).symm, Or.inr rfl, Or.inr rfl, fun _ => rfl, fun _ => by omega, by omega, by omega⟩)⟩⟩
        · refine x_sipush hC dX5_step_50 (by decide +kernel) ?_
          exact x_iret hC hw dX5_step_53 (by first | decide | omega) (by first | decide | omega) ⟨(-10000), thk_12, rfl, ⟨by omega, by omega⟩, Or.inl ⟨by omega, (by first | omega | trivial), (show _ = clF O V ti_7 (rcW O ti_7 ps9) 1 100 by have e9 := hz_18c; rw [hre9] at e9; omega), (by rw [S_step, if_pos ((show A_step (O, V, Wv, (some (ti_7, ps9, cd9, hd9, br)), kp, kv, rfd) = z_18 from by have e9 := hz_18c; rw [hre9] at e9; exact e9.symm).trans (by omega))]; exact MGm.of hRk_12 hK)⟩⟩
      · replace hz_13r := (hz_13r.resolve_left (fun q9 => c_15 q9.1)).2
        refine x_const hC dX5_step_27 ?_
        exact x_iret hC hw dX5_step_28 (by first | decide | omega) (by first | decide | omega) ⟨0, thk_12, rfl, by omega, Or.inr ⟨by omega, by omega, MGm.of hRk_12 hK⟩⟩
    · refine x_const hC dX5_step_15 ?_
      refine lv_goto (tgt := 20) hC.1 hC.2.1 dX5_step_16 (by decide) ?_
      refine x_const hC dX5_step_20 ?_
      refine x_callV hC hw (lv_size hl) (c_X5_start l G hR (p0 := 1) (by omega) (p1 := 1) (by omega) (by omega)) gX5_step_X5_start rfl dv_X5_start hR.1.1 rfl rfl (Nat.le_of_ble_eq_true rfl) (by rw [hRf]; decide) (by rw [hRl]; decide) (by first | (rw [hRc]; decide) | omega) (by first | (rw [hRs]; decide) | omega) dX5_step_21 (fun r9 M_34 H locs hq hw => ?_)
      obtain ⟨z_36, thk_35, rfl, hz_36r, hx5k_35, hRk_35⟩ := hq
      have h_37 := hIi_7.x5 hx5k_35
      have hsck_35 := hRk_35.sc.1
      show W p l e R s m args below meth c H locs _ _ _ (F0 m 24 ls [.int (iN (z_36))])
      refine x_if_eq (tgt := 29) hC ⟨by omega, by omega⟩ dX5_step_24 (by decide) (fun c_38 => ?_) (fun c_38 => ?_)
      · replace hz_36r := (hz_36r.resolve_right (fun q9 => absurd (q9.1.symm.trans c_38) (by decide))).2
        exact absurd hz_36r.2 (by decide)
      · replace hz_36r := (hz_36r.resolve_left (fun q9 => c_38 q9.1)).2
        refine x_const hC dX5_step_27 ?_
        exact x_iret hC hw dX5_step_28 (by first | decide | omega) (by first | decide | omega) ⟨0, thk_35, rfl, by omega, Or.inr ⟨by omega, by omega, MGm.of hRk_35 hK⟩⟩
set_option maxHeartbeats 4000000 in
set_option maxRecDepth 100000 in
theorem c_X5_write (l : Launch) (G : xG) {M : HM} {a va oa wa ya : Nat} {wk : Option Nat} {th : Int} {rfd : Int32} {br re la ha : Int} {kp kv : Int32} {qv qw : Nat → Nat} {fa fb : Nat → Option Nat} {V : BW} {O : OW} {fy : Nat → Option Nat} {Wv : VW} {wt : Option VT} {S : Nat → Bool} (hR : MGx G M a va oa wa ya wk th rfd br re la ha kp kv qv qw fa fb V O fy Wv wt S) {K : WA} (hK : abM O wt br re la ha K) {p0 : Int} (hp0 : -2147483648 ≤ p0 ∧ p0 ≤ 2147483647) (hSk : ha ≠ -10000 → S ha.toNat = true) : xMet l G yX5_write wsX5_write 2 44 0 0 [.ref a, .int (iN (p0))] M (fun r M1 => ∃ (z th1 : Int), r = some (.int (iN z)) ∧ (-2147483648 ≤ z ∧ z ≤ 2147483647) ∧ ((th1 = 0 ∧ ((-9999 ≤ p0 ∧ p0 ≤ 9999) ∧ (kS (K) = 1 ∧ kH (K) = 1)) ∧ z = A_write (O, V, Wv, K, kp, kv, rfd) p0 ∧ MGm G M1 a S th1 (S_write (O, V, Wv, K, kp, kv, rfd) p0)) ∨ (th1 ≠ 0 ∧ ((th1 = 1 ∧ ¬ (-9999 ≤ p0 ∧ p0 ≤ 9999)) ∨ (th1 = 2 ∧ (-9999 ≤ p0 ∧ p0 ≤ 9999) ∧ ¬ (kS (K) = 1 ∧ kH (K) = 1))) ∧ MGm G M1 a S th1 (O, V, Wv, K, kp, kv, rfd)))) := by
  refine x_intro (cc := cX5_write) (maxL := 2) (ret := (some .int)) (by exact pln_RX5) rfl (Nat.le_of_ble_eq_true rfl) ?_
  intro p e R s m args below meth c ls hRf hRc hRs hRl hC hw hl
  have hsc0 := hR.sc.1
  have hinX5 : ∀ w ∈ wsX50, w ∈ wsX5_write := fun w h => (List.mem_cons_of_mem _ (List.mem_append_right _ h))
  have hl : lv_has ls 2 [(0, .ref a), (1, .int (iN (p0)))] := hl
  refine lv_aload_n hC.1 hC.2.1 dX5_write_0 rfl (lv_at hl 0 rfl) ?_
  refine lv_iload_n hC.1 hC.2.1 dX5_write_1 rfl (lv_at hl 1 rfl) ?_
  refine x_callS hC hw (lv_size hl) (c_X5_isNoValue l G (M := M) (p0 := p0) (by first | assumption | omega)) gX5_write_X5_isNoValue rfl dv_X5_isNoValue_s rfl (Nat.le_of_ble_eq_true rfl) (by rw [hRf]; decide) (by rw [hRl]; decide) (by first | (rw [hRc]; decide) | omega) (by first | (rw [hRs]; decide) | omega) dX5_write_2 (fun r9 M_1 H locs hq hw => ?_)
  obtain ⟨z_2, rfl, hM9, hz_2a, hz_2b⟩ := hq
  rw [hM9] at hw
  show W p l e R s m args below meth c H locs _ _ _ (F0 m 5 ls [.int (iN (z_2)), .ref a])
  refine x_const hC dX5_write_5 ?_
  refine x_callV hC hw (lv_size hl) (c_X5_start l G hR (p0 := z_2) (by omega) (p1 := 1) (by omega) (by omega)) gX5_write_X5_start rfl dv_X5_start hR.1.1 rfl rfl (Nat.le_of_ble_eq_true rfl) (by rw [hRf]; decide) (by rw [hRl]; decide) (by first | (rw [hRc]; decide) | omega) (by first | (rw [hRs]; decide) | omega) dX5_write_6 (fun r9 M_3 H locs hq hw => ?_)
  obtain ⟨z_5, thk_4, rfl, hz_5r, hx5k_4, hRk_4⟩ := hq
  have hsck_4 := hRk_4.sc.1
  show W p l e R s m args below meth c H locs _ _ _ (F0 m 9 ls [.int (iN (z_5))])
  refine x_if_ne (tgt := 49) hC ⟨by omega, by omega⟩ dX5_write_9 (by decide) (fun c_6 => ?_) (fun c_6 => ?_)
  · replace hz_5r := (hz_5r.resolve_left (fun q9 => c_6 q9.1)).2
    replace hz_2b := mt hz_2b.mpr hz_5r.1
    refine x_const hC dX5_write_49 ?_
    exact x_iret hC hw dX5_write_50 (by first | decide | omega) (by first | decide | omega) ⟨0, thk_4, rfl, by omega, Or.inr ⟨by omega, by omega, MGm.of hRk_4 hK⟩⟩
  · replace hz_5r := (hz_5r.resolve_right (fun q9 => absurd (q9.1.symm.trans c_6) (by decide))).2
    replace hz_2b := hz_2b.mp hz_5r.2
    refine lv_aload_n hC.1 hC.2.1 dX5_write_12 rfl (lv_at hl 0 rfl) ?_
    refine lv_aload_n hC.1 hC.2.1 dX5_write_13 rfl (lv_at hl 0 rfl) ?_
    refine x_get hC hw hRk_4.1.1 rfl hinX5 6 (by decide) (List.mem_cons_of_mem _ (List.mem_append_left _ (List.mem_of_getElem? (i := 0) rfl))) rfl dX5_write_14 ?_
    rcases wk with _ | w_7
    · have hwt_8 := hRk_4.wk'.nil rfl
      subst hwt_8
      have hkn := abM_none hK
      subst hkn
      have hks0 := kS_nil
      show W p l e R s m args below meth c _ _ _ _ _ (F0 m 17 ls [.null, .ref a])
      refine lv_ifnullN (tgt := 37) hC.1 hC.2.1 dX5_write_17 (by decide) ?_
      refine x_const hC dX5_write_37 ?_
      refine lv_goto (tgt := 42) hC.1 hC.2.1 dX5_write_38 (by decide) ?_
      refine x_const hC dX5_write_42 ?_
      refine x_callV hC hw (lv_size hl) (c_X5_refuse l G hRk_4 (p0 := 1) (by omega) (p1 := 2) (by omega) (by omega)) gX5_write_X5_refuse rfl dv_X5_refuse hRk_4.1.1 rfl rfl (Nat.le_of_ble_eq_true rfl) (by rw [hRf]; decide) (by rw [hRl]; decide) (by first | (rw [hRc]; decide) | omega) (by first | (rw [hRs]; decide) | omega) dX5_write_43 (fun r9 M_9 H locs hq hw => ?_)
      obtain ⟨z_11, thk_10, rfl, hz_11r, hx5k_10, hRk_10⟩ := hq
      have hsck_10 := hRk_10.sc.1
      show W p l e R s m args below meth c H locs _ _ _ (F0 m 46 ls [.int (iN (z_11))])
      refine x_if_eq (tgt := 51) hC ⟨by omega, by omega⟩ dX5_write_46 (by decide) (fun c_12 => ?_) (fun c_12 => ?_)
      · replace hz_11r := (hz_11r.resolve_right (fun q9 => absurd (q9.1.symm.trans c_12) (by decide))).2
        exact absurd hz_11r.2.2 (by decide)
      · replace hz_11r := (hz_11r.resolve_left (fun q9 => c_12 q9.1)).2
        refine x_const hC dX5_write_49 ?_
        exact x_iret hC hw dX5_write_50 (by first | decide | omega) (by first | decide | omega) ⟨0, thk_10, rfl, by omega, Or.inr ⟨by omega, by omega, MGm.of hRk_10 hK⟩⟩
    · obtain ⟨ti_13, fi_13, hui_13, hIi_13⟩ := hRk_4.wk'.yes rfl
      obtain ⟨htat_14, htbt_14, htct_14, htdt_14, htet_14⟩ := id hIi_13.2.1
      subst hui_13
      obtain ⟨ps9, cd9, hd9, hkn, hre9, hla9, hha9, hcd9, hhd9, hhc9, hcp9, hps9⟩ := abM_some hK
      subst hkn
      have hks9 := kS_some (t := ti_13) (ps := ps9) (cd := cd9) (hd := hd9) (br := br)
      have hkh9 : kH (some (ti_13, ps9, cd9, hd9, br)) = hd9 := rfl
      have hkc9 : kC (some (ti_13, ps9, cd9, hd9, br)) = cd9 := rfl
      show W p l e R s m args below meth c _ _ _ _ _ (F0 m 17 ls [.ref w_7, .ref a])
      refine lv_ifnull hC.1 hC.2.1 dX5_write_17 ?_
      refine lv_aload_n hC.1 hC.2.1 dX5_write_20 rfl (lv_at hl 0 rfl) ?_
      refine x_get hC hw hRk_4.1.1 rfl hinX5 7 (by decide) (List.mem_cons_of_mem _ (List.mem_append_left _ (List.mem_of_getElem? (i := 1) rfl))) rfl dX5_write_21 ?_
      have sc_15 := hRk_4.sc.2.1
      refine x_if_ne (tgt := 37) hC ⟨by omega, by omega⟩ dX5_write_24 (by decide) (fun c_16 => ?_) (fun c_16 => ?_)
      · refine x_const hC dX5_write_37 ?_
        refine lv_goto (tgt := 42) hC.1 hC.2.1 dX5_write_38 (by decide) ?_
        refine x_const hC dX5_write_42 ?_
        refine x_callV hC hw (lv_size hl) (c_X5_refuse l G hRk_4 (p0 := 1) (by omega) (p1 := 2) (by omega) (by omega)) gX5_write_X5_refuse rfl dv_X5_refuse hRk_4.1.1 rfl rfl (Nat.le_of_ble_eq_true rfl) (by rw [hRf]; decide) (by rw [hRl]; decide) (by first | (rw [hRc]; decide) | omega) (by first | (rw [hRs]; decide) | omega) dX5_write_43 (fun r9 M_17 H locs hq hw => ?_)
        obtain ⟨z_19, thk_18, rfl, hz_19r, hx5k_18, hRk_18⟩ := hq
        have h_20 := hIi_13.x5 hx5k_18
        have hsck_18 := hRk_18.sc.1
        show W p l e R s m args below meth c H locs _ _ _ (F0 m 46 ls [.int (iN (z_19))])
        refine x_if_eq (tgt := 51) hC ⟨by omega, by omega⟩ dX5_write_46 (by decide) (fun c_21 => ?_) (fun c_21 => ?_)
        · replace hz_19r := (hz_19r.resolve_right (fun q9 => absurd (q9.1.symm.trans c_21) (by decide))).2
          exact absurd hz_19r.2.2 (by decide)
        · replace hz_19r := (hz_19r.resolve_left (fun q9 => c_21 q9.1)).2
          refine x_const hC dX5_write_49 ?_
          exact x_iret hC hw dX5_write_50 (by first | decide | omega) (by first | decide | omega) ⟨0, thk_18, rfl, by omega, Or.inr ⟨by omega, by omega, MGm.of hRk_18 hK⟩⟩
      · refine lv_aload_n hC.1 hC.2.1 dX5_write_27 rfl (lv_at hl 0 rfl) ?_
        refine x_get hC hw hRk_4.1.1 rfl hinX5 10 (by decide) (List.mem_cons_of_mem _ (List.mem_append_left _ (List.mem_of_getElem? (i := 2) rfl))) rfl dX5_write_28 ?_
        have sc_22 := hRk_4.sc.2.2.2.2
        refine x_sipush hC dX5_write_31 (by decide +kernel) ?_
        refine x_icmp_ne (tgt := 41) hC ⟨by omega, by omega⟩ ⟨by omega, by omega⟩ dX5_write_34 (by decide) (fun c_23 => ?_) (fun c_23 => ?_)
        · refine x_const hC dX5_write_41 ?_
          refine x_const hC dX5_write_42 ?_
          refine x_callV hC hw (lv_size hl) (c_X5_refuse l G hRk_4 (p0 := 0) (by omega) (p1 := 2) (by omega) (by omega)) gX5_write_X5_refuse rfl dv_X5_refuse hRk_4.1.1 rfl rfl (Nat.le_of_ble_eq_true rfl) (by rw [hRf]; decide) (by rw [hRl]; decide) (by first | (rw [hRc]; decide) | omega) (by first | (rw [hRs]; decide) | omega) dX5_write_43 (fun r9 M_24 H locs hq hw => ?_)
          obtain ⟨z_26, thk_25, rfl, hz_26r, hx5k_25, hRk_25⟩ := hq
          have h_27 := hIi_13.x5 hx5k_25
          have hsck_25 := hRk_25.sc.1
          show W p l e R s m args below meth c H locs _ _ _ (F0 m 46 ls [.int (iN (z_26))])
          refine x_if_eq (tgt := 51) hC ⟨by omega, by omega⟩ dX5_write_46 (by decide) (fun c_28 => ?_) (fun c_28 => ?_)
          · replace hz_26r := (hz_26r.resolve_right (fun q9 => absurd (q9.1.symm.trans c_28) (by decide))).2
            refine lv_aload_n hC.1 hC.2.1 dX5_write_51 rfl (lv_at hl 0 rfl) ?_
            refine lv_aload_n hC.1 hC.2.1 dX5_write_52 rfl (lv_at hl 0 rfl) ?_
            refine x_get hC hw hRk_25.1.1 rfl hinX5 6 (by decide) (List.mem_cons_of_mem _ (List.mem_append_left _ (List.mem_of_getElem? (i := 0) rfl))) rfl dX5_write_53 ?_
            show W p l e R s m args below meth c _ _ _ _ _ (F0 m 56 ls [.ref w_7, .ref a])
            refine x_const hC dX5_write_56 ?_
            refine x_ialdE (x := ((ti_13.b : Nat) : Int)) hC hw h_27.1 (by omega) (by omega) (by omega) dX5_write_57 h_27.2.2.1 ?_
            refine lv_aload_n hC.1 hC.2.1 dX5_write_58 rfl (lv_at hl 0 rfl) ?_
            refine x_get hC hw hRk_25.1.1 rfl hinX5 10 (by decide) (List.mem_cons_of_mem _ (List.mem_append_left _ (List.mem_of_getElem? (i := 2) rfl))) rfl dX5_write_59 ?_
            have sc_29 := hRk_25.sc.2.2.2.2
            refine lv_iload_n hC.1 hC.2.1 dX5_write_62 rfl (lv_at hl 1 rfl) ?_
            refine x_callV hC hw (lv_size hl) (c_X5_set l G hRk_25 (p0 := ((ti_13.b : Nat) : Int)) (by omega) (p1 := ha) (by omega) (p2 := p0) (by first | assumption | omega) (by omega) (by omega) (by omega) (by intro q9; first | exact absurd rfl q9 | assumption | exact hSk (by omega))) gX5_write_X5_set rfl dv_X5_set hRk_25.1.1 rfl rfl (Nat.le_of_ble_eq_true rfl) (by rw [hRf]; decide) (by rw [hRl]; decide) (by first | (rw [hRc]; decide) | omega) (by first | (rw [hRs]; decide) | omega) dX5_write_63 (fun r9 M_30 H locs hq hw => ?_)
            rw [Int.toNat_natCast] at hq
            obtain ⟨z_32, brk_31, Vk_31, rfl, hz_32a, hz_32v, hz_32b, he0k_31, he1k_31, hx5k_31, hRk_31⟩ := hq
            have h_33 := h_27.x5 hx5k_31
            have hsck_31 := hRk_31.sc.1
            show W p l e R s m args below meth c H locs _ _ _ (F0 m 66 ls [.int (iN (z_32))])
            exact x_iret hC hw dX5_write_66 (by first | decide | omega) (by first | decide | omega) ⟨z_32, thk_25, rfl, ⟨by omega, by omega⟩, Or.inl ⟨by omega, ⟨⟨(by first | omega | trivial), (by first | omega | trivial)⟩, ⟨(by first | omega | trivial), (by first | omega | trivial)⟩⟩, (show z_32 = V ti_13.b (ps9).toNat by have e9 := hz_32v; rw [show ha = ps9 by omega] at e9; exact e9), (MGm.write (ps := ps9) (cd := cd9) (hd := hd9) hRk_31 (by have e9 := he1k_31; rw [show ha = ps9 by omega] at e9; exact e9) (by have e9 := he0k_31; rw [show ha = ps9 by omega] at e9; exact e9) hK (by omega) (by omega))⟩⟩
          · replace hz_26r := (hz_26r.resolve_left (fun q9 => c_28 q9.1)).2
            refine x_const hC dX5_write_49 ?_
            exact x_iret hC hw dX5_write_50 (by first | decide | omega) (by first | decide | omega) ⟨0, thk_25, rfl, by omega, Or.inr ⟨by omega, by omega, MGm.of hRk_25 hK⟩⟩
        · refine x_const hC dX5_write_37 ?_
          refine lv_goto (tgt := 42) hC.1 hC.2.1 dX5_write_38 (by decide) ?_
          refine x_const hC dX5_write_42 ?_
          refine x_callV hC hw (lv_size hl) (c_X5_refuse l G hRk_4 (p0 := 1) (by omega) (p1 := 2) (by omega) (by omega)) gX5_write_X5_refuse rfl dv_X5_refuse hRk_4.1.1 rfl rfl (Nat.le_of_ble_eq_true rfl) (by rw [hRf]; decide) (by rw [hRl]; decide) (by first | (rw [hRc]; decide) | omega) (by first | (rw [hRs]; decide) | omega) dX5_write_43 (fun r9 M_34 H locs hq hw => ?_)
          obtain ⟨z_36, thk_35, rfl, hz_36r, hx5k_35, hRk_35⟩ := hq
          have h_37 := hIi_13.x5 hx5k_35
          have hsck_35 := hRk_35.sc.1
          show W p l e R s m args below meth c H locs _ _ _ (F0 m 46 ls [.int (iN (z_36))])
          refine x_if_eq (tgt := 51) hC ⟨by omega, by omega⟩ dX5_write_46 (by decide) (fun c_38 => ?_) (fun c_38 => ?_)
          · replace hz_36r := (hz_36r.resolve_right (fun q9 => absurd (q9.1.symm.trans c_38) (by decide))).2
            exact absurd hz_36r.2.2 (by decide)
          · replace hz_36r := (hz_36r.resolve_left (fun q9 => c_38 q9.1)).2
            refine x_const hC dX5_write_49 ?_
            exact x_iret hC hw dX5_write_50 (by first | decide | omega) (by first | decide | omega) ⟨0, thk_35, rfl, by omega, Or.inr ⟨by omega, by omega, MGm.of hRk_35 hK⟩⟩
set_option maxHeartbeats 4000000 in
set_option maxRecDepth 100000 in
theorem c_X5_drop (l : Launch) (G : xG) {M : HM} {a va oa wa ya : Nat} {wk : Option Nat} {th : Int} {rfd : Int32} {br re la ha : Int} {kp kv : Int32} {qv qw : Nat → Nat} {fa fb : Nat → Option Nat} {V : BW} {O : OW} {fy : Nat → Option Nat} {Wv : VW} {wt : Option VT} {S : Nat → Bool} (hR : MGx G M a va oa wa ya wk th rfd br re la ha kp kv qv qw fa fb V O fy Wv wt S) {K : WA} (hK : abM O wt br re la ha K) : xMet l G yX5_drop wsX5_drop 4 90 1 5 [.ref a] M (fun r M1 => ∃ (z th1 : Int), r = some (.int (iN z)) ∧ (-2147483648 ≤ z ∧ z ≤ 2147483647) ∧ ((th1 = 0 ∧ ((kS (K) = 1 ∧ kC (K) = 1)) ∧ z = A_drop (O, V, Wv, K, kp, kv, rfd) ∧ MGm G M1 a S th1 (S_drop (O, V, Wv, K, kp, kv, rfd))) ∨ (th1 ≠ 0 ∧ ((th1 = 1 ∧ ¬ (kS (K) = 1 ∧ kC (K) = 1))) ∧ MGm G M1 a S th1 (O, V, Wv, K, kp, kv, rfd)))) := by
  refine x_intro (cc := cX5_drop) (maxL := 1) (ret := (some .int)) (by exact pln_RX5) rfl (Nat.le_of_ble_eq_true rfl) ?_
  intro p e R s m args below meth c ls hRf hRc hRs hRl hC hw hl
  have hsc0 := hR.sc.1
  have hinX5 : ∀ w ∈ wsX50, w ∈ wsX5_drop := fun w h => (List.mem_cons_of_mem _ (List.mem_append_right _ h))
  have hl : lv_has ls 1 [(0, .ref a)] := hl
  refine lv_aload_n hC.1 hC.2.1 dX5_drop_0 rfl (lv_at hl 0 rfl) ?_
  refine lv_aload_n hC.1 hC.2.1 dX5_drop_1 rfl (lv_at hl 0 rfl) ?_
  refine x_get hC hw hR.1.1 rfl hinX5 6 (by decide) (List.mem_cons_of_mem _ (List.mem_append_left _ (List.mem_append_left _ (List.mem_of_getElem? (i := 0) rfl)))) rfl dX5_drop_2 ?_
  rcases wk with _ | w_1
  · have hwt_2 := hR.wk'.nil rfl
    subst hwt_2
    have hkn := abM_none hK
    subst hkn
    have hks0 := kS_nil
    show W p l e R s m args below meth c _ _ _ _ _ (F0 m 5 ls [.null, .ref a])
    refine lv_ifnullN (tgt := 25) hC.1 hC.2.1 dX5_drop_5 (by decide) ?_
    refine x_const hC dX5_drop_25 ?_
    refine lv_goto (tgt := 30) hC.1 hC.2.1 dX5_drop_26 (by decide) ?_
    refine x_const hC dX5_drop_30 ?_
    refine x_callV hC hw (lv_size hl) (c_X5_start l G hR (p0 := 1) (by omega) (p1 := 1) (by omega) (by omega)) gX5_drop_X5_start rfl dv_X5_start hR.1.1 rfl rfl (Nat.le_of_ble_eq_true rfl) (by rw [hRf]; decide) (by rw [hRl]; decide) (by first | (rw [hRc]; decide) | omega) (by first | (rw [hRs]; decide) | omega) dX5_drop_31 (fun r9 M_3 H locs hq hw => ?_)
    obtain ⟨z_5, thk_4, rfl, hz_5r, hx5k_4, hRk_4⟩ := hq
    have hsck_4 := hRk_4.sc.1
    show W p l e R s m args below meth c H locs _ _ _ (F0 m 34 ls [.int (iN (z_5))])
    refine x_if_eq (tgt := 39) hC ⟨by omega, by omega⟩ dX5_drop_34 (by decide) (fun c_6 => ?_) (fun c_6 => ?_)
    · replace hz_5r := (hz_5r.resolve_right (fun q9 => absurd (q9.1.symm.trans c_6) (by decide))).2
      exact absurd hz_5r.2 (by decide)
    · replace hz_5r := (hz_5r.resolve_left (fun q9 => c_6 q9.1)).2
      refine x_const hC dX5_drop_37 ?_
      exact x_iret hC hw dX5_drop_38 (by first | decide | omega) (by first | decide | omega) ⟨0, thk_4, rfl, by omega, Or.inr ⟨by omega, by omega, MGm.of hRk_4 hK⟩⟩
  · obtain ⟨ti_7, fi_7, hui_7, hIi_7⟩ := hR.wk'.yes rfl
    obtain ⟨htat_8, htbt_8, htct_8, htdt_8, htet_8⟩ := id hIi_7.2.1
    subst hui_7
    obtain ⟨ps9, cd9, hd9, hkn, hre9, hla9, hha9, hcd9, hhd9, hhc9, hcp9, hps9⟩ := abM_some hK
    subst hkn
    have hks9 := kS_some (t := ti_7) (ps := ps9) (cd := cd9) (hd := hd9) (br := br)
    have hkh9 : kH (some (ti_7, ps9, cd9, hd9, br)) = hd9 := rfl
    have hkc9 : kC (some (ti_7, ps9, cd9, hd9, br)) = cd9 := rfl
    show W p l e R s m args below meth c _ _ _ _ _ (F0 m 5 ls [.ref w_1, .ref a])
    refine lv_ifnull hC.1 hC.2.1 dX5_drop_5 ?_
    refine lv_aload_n hC.1 hC.2.1 dX5_drop_8 rfl (lv_at hl 0 rfl) ?_
    refine x_get hC hw hR.1.1 rfl hinX5 7 (by decide) (List.mem_cons_of_mem _ (List.mem_append_left _ (List.mem_append_left _ (List.mem_of_getElem? (i := 1) rfl)))) rfl dX5_drop_9 ?_
    have sc_9 := hR.sc.2.1
    refine x_if_ne (tgt := 25) hC ⟨by omega, by omega⟩ dX5_drop_12 (by decide) (fun c_10 => ?_) (fun c_10 => ?_)
    · refine x_const hC dX5_drop_25 ?_
      refine lv_goto (tgt := 30) hC.1 hC.2.1 dX5_drop_26 (by decide) ?_
      refine x_const hC dX5_drop_30 ?_
      refine x_callV hC hw (lv_size hl) (c_X5_start l G hR (p0 := 1) (by omega) (p1 := 1) (by omega) (by omega)) gX5_drop_X5_start rfl dv_X5_start hR.1.1 rfl rfl (Nat.le_of_ble_eq_true rfl) (by rw [hRf]; decide) (by rw [hRl]; decide) (by first | (rw [hRc]; decide) | omega) (by first | (rw [hRs]; decide) | omega) dX5_drop_31 (fun r9 M_11 H locs hq hw => ?_)
      obtain ⟨z_13, thk_12, rfl, hz_13r, hx5k_12, hRk_12⟩ := hq
      have h_14 := hIi_7.x5 hx5k_12
      have hsck_12 := hRk_12.sc.1
      show W p l e R s m args below meth c H locs _ _ _ (F0 m 34 ls [.int (iN (z_13))])
      refine x_if_eq (tgt := 39) hC ⟨by omega, by omega⟩ dX5_drop_34 (by decide) (fun c_15 => ?_) (fun c_15 => ?_)
      · replace hz_13r := (hz_13r.resolve_right (fun q9 => absurd (q9.1.symm.trans c_15) (by decide))).2
        exact absurd hz_13r.2 (by decide)
      · replace hz_13r := (hz_13r.resolve_left (fun q9 => c_15 q9.1)).2
        refine x_const hC dX5_drop_37 ?_
        exact x_iret hC hw dX5_drop_38 (by first | decide | omega) (by first | decide | omega) ⟨0, thk_12, rfl, by omega, Or.inr ⟨by omega, by omega, MGm.of hRk_12 hK⟩⟩
    · refine lv_aload_n hC.1 hC.2.1 dX5_drop_15 rfl (lv_at hl 0 rfl) ?_
      refine x_get hC hw hR.1.1 rfl hinX5 9 (by decide) (List.mem_cons_of_mem _ (List.mem_append_left _ (List.mem_append_left _ (List.mem_of_getElem? (i := 2) rfl)))) rfl dX5_drop_16 ?_
      have sc_16 := hR.sc.2.2.2.1
      refine x_sipush hC dX5_drop_19 (by decide +kernel) ?_
      refine x_icmp_ne (tgt := 29) hC ⟨by omega, by omega⟩ ⟨by omega, by omega⟩ dX5_drop_22 (by decide) (fun c_17 => ?_) (fun c_17 => ?_)
      · refine x_const hC dX5_drop_29 ?_
        refine x_const hC dX5_drop_30 ?_
        refine x_callV hC hw (lv_size hl) (c_X5_start l G hR (p0 := 0) (by omega) (p1 := 1) (by omega) (by omega)) gX5_drop_X5_start rfl dv_X5_start hR.1.1 rfl rfl (Nat.le_of_ble_eq_true rfl) (by rw [hRf]; decide) (by rw [hRl]; decide) (by first | (rw [hRc]; decide) | omega) (by first | (rw [hRs]; decide) | omega) dX5_drop_31 (fun r9 M_18 H locs hq hw => ?_)
        obtain ⟨z_20, thk_19, rfl, hz_20r, hx5k_19, hRk_19⟩ := hq
        have h_21 := hIi_7.x5 hx5k_19
        have hsck_19 := hRk_19.sc.1
        show W p l e R s m args below meth c H locs _ _ _ (F0 m 34 ls [.int (iN (z_20))])
        refine x_if_eq (tgt := 39) hC ⟨by omega, by omega⟩ dX5_drop_34 (by decide) (fun c_22 => ?_) (fun c_22 => ?_)
        · replace hz_20r := (hz_20r.resolve_right (fun q9 => absurd (q9.1.symm.trans c_22) (by decide))).2
          refine lv_aload_n hC.1 hC.2.1 dX5_drop_39 rfl (lv_at hl 0 rfl) ?_
          refine x_get hC hw hRk_19.1.1 rfl hinX5 2 (by decide) (List.mem_cons_of_mem _ (List.mem_append_left _ (List.mem_append_left _ (List.mem_of_getElem? (i := 3) rfl)))) rfl dX5_drop_40 ?_
          refine lv_aload_n hC.1 hC.2.1 dX5_drop_43 rfl (lv_at hl 0 rfl) ?_
          refine x_get hC hw hRk_19.1.1 rfl hinX5 6 (by decide) (List.mem_cons_of_mem _ (List.mem_append_left _ (List.mem_append_left _ (List.mem_of_getElem? (i := 0) rfl)))) rfl dX5_drop_44 ?_
          show W p l e R s m args below meth c _ _ _ _ _ (F0 m 47 ls [.ref w_1, .ref va])
          refine x_const hC dX5_drop_47 ?_
          refine x_ialdE (x := ((ti_7.b : Nat) : Int)) hC hw h_21.1 (by omega) (by omega) (by omega) dX5_drop_48 h_21.2.2.1 ?_
          refine x_ald4 hC hw hRk_19.1.2.1 (by omega) (by omega) (by omega) dX5_drop_49 ?_
          rw [Int.toNat_natCast]
          rw [hRk_19.fa' (show ti_7.b < 3 by omega)]
          show W p l e R s m args below meth c _ _ _ _ _ (F0 m 50 ls [.ref (qv ti_7.b)])
          refine lv_aload_n hC.1 hC.2.1 dX5_drop_50 rfl (lv_at hl 0 rfl) ?_
          refine x_get hC hw hRk_19.1.1 rfl hinX5 9 (by decide) (List.mem_cons_of_mem _ (List.mem_append_left _ (List.mem_append_left _ (List.mem_of_getElem? (i := 2) rfl)))) rfl dX5_drop_51 ?_
          have sc_23 := hRk_19.sc.2.2.2.1
          refine x_sipush hC dX5_drop_54 (by decide +kernel) ?_
          refine x_iast hC hw (hRk_19.rv (show ti_7.b < 3 by omega)) (by omega) (by omega) (by omega) dX5_drop_57 (fun H locs hw => ?_)
          obtain ⟨M_24, hM_25⟩ : ∃ z, z = va_up M_18 (qv ti_7.b) (some (.inl (G.2 1, 100, .inl (upd (fun k9 => iN (V ti_7.b k9)) (la).toNat (iN ((-10000))))))) := ⟨_, rfl⟩
          rw [← hM_25] at hw
          have hR_26 := hRk_19.val (j := ti_7.b) (v := (-10000)) (by omega) hM_25 (by omega) (fun q9 => absurd rfl q9)
          obtain ⟨V_27, hV_27⟩ : ∃ z, z = (upB V ti_7.b (upV (V ti_7.b) ((la).toNat) (-10000))) := ⟨_, rfl⟩
          rw [← hV_27] at hR_26
          have h_28 := h_21.x5 (hRk_19.val5 (show ti_7.b < 3 by omega) hM_25)
          refine lv_aload_n hC.1 hC.2.1 dX5_drop_58 rfl (lv_at hl 0 rfl) ?_
          refine x_sipush hC dX5_drop_59 (by decide +kernel) ?_
          refine x_put (fs2 := [.int (iN (thk_19)), .int rfd, .ref va, .ref oa, .ref wa, .ref ya, .ref w_1, .int (iN (br)), .int (iN (re)), .int (iN ((-10000))), .int (iN (ha)), .int kp, .int kv]) hC hw hR_26.1.1 rfl hinX5 tyX5 tyX5_ok nmX5 9 (by decide) (List.mem_cons_of_mem _ (List.mem_append_left _ (List.mem_append_left _ (List.mem_of_getElem? (i := 2) rfl)))) rfl rfl rfl (Nat.le_of_ble_eq_true rfl) rfl dX5_drop_62 (fun H locs hw => ?_)
          obtain ⟨M_29, hM_30⟩ : ∃ z, z = va_up M_24 a (some (.inr (7, [.int (iN (thk_19)), .int rfd, .ref va, .ref oa, .ref wa, .ref ya, .ref w_1, .int (iN (br)), .int (iN (re)), .int (iN ((-10000))), .int (iN (ha)), .int kp, .int kv]))) := ⟨_, rfl⟩
          rw [← hM_30] at hw
          have hR_31 : MGx G M_29 a va oa wa ya (some w_1) thk_19 rfd br re (-10000) ha kp kv qv qw fa fb V_27 O fy Wv (some ti_7) S := hR_26.obj hM_30 ⟨hR_26.sc.1, hR_26.sc.2.1, hR_26.sc.2.2.1, (by omega), hR_26.sc.2.2.2.2⟩ hR_26.wk'
          have h_32 := h_28.x5 (hR_26.obj5 hM_30)
          refine lv_aload_n hC.1 hC.2.1 dX5_drop_65 rfl (lv_at hl 0 rfl) ?_
          refine x_sipush hC dX5_drop_66 (by decide +kernel) ?_
          refine x_put (fs2 := [.int (iN (thk_19)), .int rfd, .ref va, .ref oa, .ref wa, .ref ya, .ref w_1, .int (iN (br)), .int (iN (re)), .int (iN ((-10000))), .int (iN ((-10000))), .int kp, .int kv]) hC hw hR_31.1.1 rfl hinX5 tyX5 tyX5_ok nmX5 10 (by decide) (List.mem_cons_of_mem _ (List.mem_append_left _ (List.mem_append_left _ (List.mem_of_getElem? (i := 4) rfl)))) rfl rfl rfl (Nat.le_of_ble_eq_true rfl) rfl dX5_drop_69 (fun H locs hw => ?_)
          obtain ⟨M_33, hM_34⟩ : ∃ z, z = va_up M_29 a (some (.inr (7, [.int (iN (thk_19)), .int rfd, .ref va, .ref oa, .ref wa, .ref ya, .ref w_1, .int (iN (br)), .int (iN (re)), .int (iN ((-10000))), .int (iN ((-10000))), .int kp, .int kv]))) := ⟨_, rfl⟩
          rw [← hM_34] at hw
          have hR_35 : MGx G M_33 a va oa wa ya (some w_1) thk_19 rfd br re (-10000) (-10000) kp kv qv qw fa fb V_27 O fy Wv (some ti_7) S := hR_31.obj hM_34 ⟨hR_31.sc.1, hR_31.sc.2.1, hR_31.sc.2.2.1, hR_31.sc.2.2.2.1, (by omega)⟩ hR_31.wk'
          have h_36 := h_32.x5 (hR_31.obj5 hM_34)
          refine lv_aload_n hC.1 hC.2.1 dX5_drop_72 rfl (lv_at hl 0 rfl) ?_
          refine lv_aload_n hC.1 hC.2.1 dX5_drop_73 rfl (lv_at hl 0 rfl) ?_
          refine x_get hC hw hR_35.1.1 rfl hinX5 6 (by decide) (List.mem_cons_of_mem _ (List.mem_append_left _ (List.mem_append_left _ (List.mem_of_getElem? (i := 0) rfl)))) rfl dX5_drop_74 ?_
          show W p l e R s m args below meth c _ _ _ _ _ (F0 m 77 ls [.ref w_1, .ref a])
          refine x_const hC dX5_drop_77 ?_
          refine x_ialdE (x := ((ti_7.b : Nat) : Int)) hC hw h_36.1 (by omega) (by omega) (by omega) dX5_drop_78 h_36.2.2.1 ?_
          refine x_callS hC hw (lv_size hl) (c_X5_whole l G (M := M_33) (p0 := ((ti_7.b : Nat) : Int)) (by omega) (by omega)) gX5_drop_X5_whole rfl dv_X5_whole_s rfl (Nat.le_of_ble_eq_true rfl) (by rw [hRf]; decide) (by rw [hRl]; decide) (by first | (rw [hRc]; decide) | omega) (by first | (rw [hRs]; decide) | omega) dX5_drop_79 (fun r9 M_37 H locs hq hw => ?_)
          rw [Int.toNat_natCast] at hq
          obtain ⟨qk_38, fk_38, rfl, hxk_38, hIk_38⟩ := hq
          have h_39 := hR_35.ext hxk_38
          have h_40 := h_36.x5 (xExt.x5 hxk_38)
          obtain ⟨htat_41, htbt_41, htct_41, htdt_41, htet_41⟩ := id hIk_38.2.1
          have holk_38 := h_39.or' hIk_38.2.1.1
          show W p l e R s m args below meth c H locs _ _ _ (F0 m 82 ls [.ref qk_38, .ref a])
          refine x_callV hC hw (lv_size hl) (c_X5_many l G h_39 hIk_38) gX5_drop_X5_many rfl dv_X5_many h_39.1.1 rfl rfl (Nat.le_of_ble_eq_true rfl) (by rw [hRf]; decide) (by rw [hRl]; decide) (by first | (rw [hRc]; decide) | omega) (by first | (rw [hRs]; decide) | omega) dX5_drop_82 (fun r9 M_42 H locs hq hw => ?_)
          obtain ⟨z_43, rfl, hM9, hz_43a, hz_43m⟩ := hq
          rw [hM9] at hw
          show W p l e R s m args below meth c H locs _ _ _ (F0 m 85 ls [.int (iN (z_43))])
          exact x_iret hC hw dX5_drop_85 (by first | decide | omega) (by first | decide | omega) ⟨z_43, thk_19, rfl, ⟨by omega, by omega⟩, Or.inl ⟨by omega, ⟨(by first | omega | trivial), (by first | omega | trivial)⟩, (by have e8 := hz_43m; rw [mn_cnt, hV_27, upB_s, show la = ps9 by omega] at e8; exact e8), (by have e9 := h_39; rw [hV_27, show la = ps9 by omega] at e9; exact MGm.of (K := some (ti_7, ps9, 0, 0, 0)) e9 ⟨rfl, by omega, hre9, (if_neg (by omega)).symm, (if_neg (by omega)).symm, Or.inl rfl, Or.inl rfl, fun q9 => by omega, fun q9 => by omega, by omega, by omega⟩)⟩⟩
        · replace hz_20r := (hz_20r.resolve_left (fun q9 => c_22 q9.1)).2
          refine x_const hC dX5_drop_37 ?_
          exact x_iret hC hw dX5_drop_38 (by first | decide | omega) (by first | decide | omega) ⟨0, thk_19, rfl, by omega, Or.inr ⟨by omega, by omega, MGm.of hRk_19 hK⟩⟩
      · refine x_const hC dX5_drop_25 ?_
        refine lv_goto (tgt := 30) hC.1 hC.2.1 dX5_drop_26 (by decide) ?_
        refine x_const hC dX5_drop_30 ?_
        refine x_callV hC hw (lv_size hl) (c_X5_start l G hR (p0 := 1) (by omega) (p1 := 1) (by omega) (by omega)) gX5_drop_X5_start rfl dv_X5_start hR.1.1 rfl rfl (Nat.le_of_ble_eq_true rfl) (by rw [hRf]; decide) (by rw [hRl]; decide) (by first | (rw [hRc]; decide) | omega) (by first | (rw [hRs]; decide) | omega) dX5_drop_31 (fun r9 M_44 H locs hq hw => ?_)
        obtain ⟨z_46, thk_45, rfl, hz_46r, hx5k_45, hRk_45⟩ := hq
        have h_47 := hIi_7.x5 hx5k_45
        have hsck_45 := hRk_45.sc.1
        show W p l e R s m args below meth c H locs _ _ _ (F0 m 34 ls [.int (iN (z_46))])
        refine x_if_eq (tgt := 39) hC ⟨by omega, by omega⟩ dX5_drop_34 (by decide) (fun c_48 => ?_) (fun c_48 => ?_)
        · replace hz_46r := (hz_46r.resolve_right (fun q9 => absurd (q9.1.symm.trans c_48) (by decide))).2
          exact absurd hz_46r.2 (by decide)
        · replace hz_46r := (hz_46r.resolve_left (fun q9 => c_48 q9.1)).2
          refine x_const hC dX5_drop_37 ?_
          exact x_iret hC hw dX5_drop_38 (by first | decide | omega) (by first | decide | omega) ⟨0, thk_45, rfl, by omega, Or.inr ⟨by omega, by omega, MGm.of hRk_45 hK⟩⟩
set_option maxHeartbeats 4000000 in
set_option maxRecDepth 100000 in
theorem c_X5_keep (l : Launch) (G : xG) {M : HM} {a va oa wa ya : Nat} {wk : Option Nat} {th : Int} {rfd : Int32} {br re la ha : Int} {kp kv : Int32} {qv qw : Nat → Nat} {fa fb : Nat → Option Nat} {V : BW} {O : OW} {fy : Nat → Option Nat} {Wv : VW} {wt : Option VT} {S : Nat → Bool} (hR : MGx G M a va oa wa ya wk th rfd br re la ha kp kv qv qw fa fb V O fy Wv wt S) {K : WA} (hK : abM O wt br re la ha K) {p0 : Int} (hp0 : -2147483648 ≤ p0 ∧ p0 ≤ 2147483647) {p1 : Int} (hp1 : -2147483648 ≤ p1 ∧ p1 ≤ 2147483647) : xMet l G yX5_keep wsX5_keep 5 115 1 5 [.ref a, .int (iN (p0)), .int (iN (p1))] M (fun r M1 => ∃ (z th1 : Int), r = some (.int (iN z)) ∧ (-2147483648 ≤ z ∧ z ≤ 2147483647) ∧ ((th1 = 0 ∧ ((0 ≤ p0 ∧ p0 ≤ 2)) ∧ z = A_keep (O, V, Wv, K, kp, kv, rfd) p0 p1 ∧ MGm G M1 a S th1 (S_keep (O, V, Wv, K, kp, kv, rfd) p0 p1)) ∨ (th1 ≠ 0 ∧ ((th1 = 1 ∧ ¬ (0 ≤ p0 ∧ p0 ≤ 2))) ∧ MGm G M1 a S th1 (O, V, Wv, K, kp, kv, rfd)))) := by
  refine x_intro (cc := cX5_keep) (maxL := 4) (ret := (some .int)) (by exact pln_RX5) rfl (Nat.le_of_ble_eq_true rfl) ?_
  intro p e R s m args below meth c ls hRf hRc hRs hRl hC hw hl
  have hsc0 := hR.sc.1
  have hinX5 : ∀ w ∈ wsX50, w ∈ wsX5_keep := fun w h => (List.mem_cons_of_mem _ (List.mem_append_right _ h))
  have hl : lv_has ls 4 [(0, .ref a), (1, .int (iN (p0))), (2, .int (iN (p1)))] := hl
  refine lv_aload_n hC.1 hC.2.1 dX5_keep_0 rfl (lv_at hl 0 rfl) ?_
  refine lv_iload_n hC.1 hC.2.1 dX5_keep_1 rfl (lv_at hl 1 rfl) ?_
  refine x_callS hC hw (lv_size hl) (c_X5_isNoBook l G (M := M) (p0 := p0) (by first | assumption | omega)) gX5_keep_X5_isNoBook rfl dv_X5_isNoBook_s rfl (Nat.le_of_ble_eq_true rfl) (by rw [hRf]; decide) (by rw [hRl]; decide) (by first | (rw [hRc]; decide) | omega) (by first | (rw [hRs]; decide) | omega) dX5_keep_2 (fun r9 M_1 H locs hq hw => ?_)
  obtain ⟨z_2, rfl, hM9, hz_2a, hz_2b⟩ := hq
  rw [hM9] at hw
  show W p l e R s m args below meth c H locs _ _ _ (F0 m 5 ls [.int (iN (z_2)), .ref a])
  refine x_const hC dX5_keep_5 ?_
  refine x_callV hC hw (lv_size hl) (c_X5_start l G hR (p0 := z_2) (by omega) (p1 := 1) (by omega) (by omega)) gX5_keep_X5_start rfl dv_X5_start hR.1.1 rfl rfl (Nat.le_of_ble_eq_true rfl) (by rw [hRf]; decide) (by rw [hRl]; decide) (by first | (rw [hRc]; decide) | omega) (by first | (rw [hRs]; decide) | omega) dX5_keep_6 (fun r9 M_3 H locs hq hw => ?_)
  obtain ⟨z_5, thk_4, rfl, hz_5r, hx5k_4, hRk_4⟩ := hq
  have hsck_4 := hRk_4.sc.1
  show W p l e R s m args below meth c H locs _ _ _ (F0 m 9 ls [.int (iN (z_5))])
  refine x_if_eq (tgt := 14) hC ⟨by omega, by omega⟩ dX5_keep_9 (by decide) (fun c_6 => ?_) (fun c_6 => ?_)
  · replace hz_5r := (hz_5r.resolve_right (fun q9 => absurd (q9.1.symm.trans c_6) (by decide))).2
    replace hz_2b := hz_2b.mp hz_5r.2
    refine lv_aload_n hC.1 hC.2.1 dX5_keep_14 rfl (lv_at hl 0 rfl) ?_
    refine lv_iload_n hC.1 hC.2.1 dX5_keep_15 rfl (lv_at hl 1 rfl) ?_
    refine x_callS hC hw (lv_size hl) (c_X5_whole l G (M := M_3) (p0 := p0) (by first | assumption | omega) (by omega)) gX5_keep_X5_whole rfl dv_X5_whole_s rfl (Nat.le_of_ble_eq_true rfl) (by rw [hRf]; decide) (by rw [hRl]; decide) (by first | (rw [hRc]; decide) | omega) (by first | (rw [hRs]; decide) | omega) dX5_keep_16 (fun r9 M_7 H locs hq hw => ?_)
    obtain ⟨qk_8, fk_8, rfl, hxk_8, hIk_8⟩ := hq
    have h_9 := hRk_4.ext hxk_8
    obtain ⟨htat_10, htbt_10, htct_10, htdt_10, htet_10⟩ := id hIk_8.2.1
    have holk_8 := h_9.or' hIk_8.2.1.1
    show W p l e R s m args below meth c H locs _ _ _ (F0 m 19 ls [.ref qk_8, .ref a])
    refine lv_iload_n hC.1 hC.2.1 dX5_keep_19 rfl (lv_at hl 2 rfl) ?_
    refine x_callV hC hw (lv_size hl) (c_X5_end l G h_9 hIk_8 (p0 := p1) (by first | assumption | omega)) gX5_keep_X5_end rfl dv_X5_end h_9.1.1 rfl rfl (Nat.le_of_ble_eq_true rfl) (by rw [hRf]; decide) (by rw [hRl]; decide) (by first | (rw [hRc]; decide) | omega) (by first | (rw [hRs]; decide) | omega) dX5_keep_20 (fun r9 M_11 H locs hq hw => ?_)
    obtain ⟨z_12, rfl, hM9, hz_12a, hz_12S, hz_12e⟩ := hq
    rw [hM9] at hw
    show W p l e R s m args below meth c H locs _ _ _ (F0 m 23 ls [.int (iN (z_12))])
    refine lv_istore_n (lv' := [(3, .int (iN (z_12))), (0, .ref a), (1, .int (iN (p0))), (2, .int (iN (p1)))]) hC.1 hC.2.1 dX5_keep_23 rfl hl (by decide) rfl (fun ls hl => ?_)
    refine lv_iload_n hC.1 hC.2.1 dX5_keep_24 rfl (lv_at hl 0 rfl) ?_
    refine x_sipush hC dX5_keep_25 (by decide +kernel) ?_
    refine x_icmp_ne (tgt := 35) hC ⟨by omega, by omega⟩ ⟨by omega, by omega⟩ dX5_keep_28 (by decide) (fun c_13 => ?_) (fun c_13 => ?_)
    · refine lv_aload_n hC.1 hC.2.1 dX5_keep_35 rfl (lv_at hl 1 rfl) ?_
      refine lv_iload_n hC.1 hC.2.1 dX5_keep_36 rfl (lv_at hl 0 rfl) ?_
      refine x_put (fs2 := [.int (iN (thk_4)), .int rfd, .ref va, .ref oa, .ref wa, .ref ya, va_rf (wk), .int (iN (br)), .int (iN (re)), .int (iN (la)), .int (iN (ha)), .int (iN (z_12)), .int kv]) hC hw h_9.1.1 rfl hinX5 tyX5 tyX5_ok nmX5 11 (by decide) (List.mem_cons_of_mem _ (List.mem_append_left _ (List.mem_append_left _ (List.mem_of_getElem? (i := 0) rfl)))) rfl rfl rfl (Nat.le_of_ble_eq_true rfl) rfl dX5_keep_37 (fun H locs hw => ?_)
      obtain ⟨M_14, hM_15⟩ : ∃ z, z = va_up M_7 a (some (.inr (7, [.int (iN (thk_4)), .int rfd, .ref va, .ref oa, .ref wa, .ref ya, va_rf (wk), .int (iN (br)), .int (iN (re)), .int (iN (la)), .int (iN (ha)), .int (iN (z_12)), .int kv]))) := ⟨_, rfl⟩
      rw [← hM_15] at hw
      have hR_16 : MGx G M_14 a va oa wa ya wk thk_4 rfd br re la ha (iN (z_12)) kv qv qw fa fb V O fy Wv wt S := h_9.obj hM_15 ⟨h_9.sc.1, h_9.sc.2.1, h_9.sc.2.2.1, h_9.sc.2.2.2.1, h_9.sc.2.2.2.2⟩ h_9.wk'
      have h_17 := hIk_8.x5 (h_9.obj5 hM_15)
      refine lv_aload_n hC.1 hC.2.1 dX5_keep_40 rfl (lv_at hl 1 rfl) ?_
      refine lv_aload_n hC.1 hC.2.1 dX5_keep_41 rfl (lv_at hl 1 rfl) ?_
      refine x_get hC hw hR_16.1.1 rfl hinX5 2 (by decide) (List.mem_cons_of_mem _ (List.mem_append_left _ (List.mem_append_left _ (List.mem_of_getElem? (i := 1) rfl)))) rfl dX5_keep_42 ?_
      refine lv_iload_n hC.1 hC.2.1 dX5_keep_45 rfl (lv_at hl 2 rfl) ?_
      refine x_ald4 hC hw hR_16.1.2.1 (by omega) (by omega) (by omega) dX5_keep_46 ?_
      rw [hR_16.fa' (show (p0).toNat < 3 from tn_lt (by omega) (by decide))]
      show W p l e R s m args below meth c _ _ _ _ _ (F0 m 47 ls [.ref (qv ((p0).toNat)), .ref a])
      refine lv_iload_n hC.1 hC.2.1 dX5_keep_47 rfl (lv_at hl 0 rfl) ?_
      refine x_ialdE (x := (V ((p0).toNat) ((z_12).toNat))) hC hw (hR_16.rv (show ((p0).toNat) < 3 from tn_lt (by omega) (by decide))) (by omega) (by omega) (by omega) dX5_keep_48 rfl ?_
      have hrv_18 := hR_16.vr (show ((p0).toNat) < 3 from tn_lt (by omega) (by decide)) (show (z_12).toNat < 100 from tn_lt (by omega) (by decide))
      have hpv_18 := hR_16.vs (show ((p0).toNat) < 3 from tn_lt (by omega) (by decide)) (show (z_12).toNat < 100 from tn_lt (by omega) (by decide))
      refine x_put (fs2 := [.int (iN (thk_4)), .int rfd, .ref va, .ref oa, .ref wa, .ref ya, va_rf (wk), .int (iN (br)), .int (iN (re)), .int (iN (la)), .int (iN (ha)), .int (iN (z_12)), .int (iN ((V ((p0).toNat) ((z_12).toNat))))]) hC hw hR_16.1.1 rfl hinX5 tyX5 tyX5_ok nmX5 12 (by decide) (List.mem_cons_of_mem _ (List.mem_append_left _ (List.mem_append_left _ (List.mem_of_getElem? (i := 2) rfl)))) rfl rfl rfl (Nat.le_of_ble_eq_true rfl) rfl dX5_keep_49 (fun H locs hw => ?_)
      obtain ⟨M_19, hM_20⟩ : ∃ z, z = va_up M_14 a (some (.inr (7, [.int (iN (thk_4)), .int rfd, .ref va, .ref oa, .ref wa, .ref ya, va_rf (wk), .int (iN (br)), .int (iN (re)), .int (iN (la)), .int (iN (ha)), .int (iN (z_12)), .int (iN ((V ((p0).toNat) ((z_12).toNat))))]))) := ⟨_, rfl⟩
      rw [← hM_20] at hw
      have hR_21 : MGx G M_19 a va oa wa ya wk thk_4 rfd br re la ha (iN (z_12)) (iN ((V ((p0).toNat) ((z_12).toNat)))) qv qw fa fb V O fy Wv wt S := hR_16.obj hM_20 ⟨hR_16.sc.1, hR_16.sc.2.1, hR_16.sc.2.2.1, hR_16.sc.2.2.2.1, hR_16.sc.2.2.2.2⟩ hR_16.wk'
      have h_22 := h_17.x5 (hR_16.obj5 hM_20)
      refine lv_iload_n hC.1 hC.2.1 dX5_keep_52 rfl (lv_at hl 0 rfl) ?_
      exact x_iret hC hw dX5_keep_53 (by first | decide | omega) (by first | decide | omega) ⟨z_12, thk_4, rfl, ⟨by omega, by omega⟩, Or.inl ⟨by omega, ⟨(by first | omega | trivial), (by first | omega | trivial)⟩, hz_12e, (by rw [S_keep, (show A_keep (O, V, Wv, K, kp, kv, rfd) p0 p1 = z_12 from (hz_12e).symm), if_neg (by omega)]; exact MGm.of hR_21 hK)⟩⟩
    · refine x_sipush hC dX5_keep_31 (by decide +kernel) ?_
      exact x_iret hC hw dX5_keep_34 (by first | decide | omega) (by first | decide | omega) ⟨(-10000), thk_4, rfl, ⟨by omega, by omega⟩, Or.inl ⟨by omega, ⟨(by first | omega | trivial), (by first | omega | trivial)⟩, (show _ = endF O V (whT (p0).toNat) p1 by have e9 := hz_12e; omega), (by rw [S_keep, if_pos ((show A_keep (O, V, Wv, K, kp, kv, rfd) p0 p1 = z_12 from (hz_12e).symm).trans (by omega))]; exact MGm.of h_9 hK)⟩⟩
  · replace hz_5r := (hz_5r.resolve_left (fun q9 => c_6 q9.1)).2
    replace hz_2b := mt hz_2b.mpr hz_5r.1
    refine x_const hC dX5_keep_12 ?_
    exact x_iret hC hw dX5_keep_13 (by first | decide | omega) (by first | decide | omega) ⟨0, thk_4, rfl, by omega, Or.inr ⟨by omega, by omega, MGm.of hRk_4 hK⟩⟩
set_option maxHeartbeats 4000000 in
set_option maxRecDepth 100000 in
theorem c_X5_brand (l : Launch) (G : xG) {M : HM} {a va oa wa ya : Nat} {wk : Option Nat} {th : Int} {rfd : Int32} {br re la ha : Int} {kp kv : Int32} {qv qw : Nat → Nat} {fa fb : Nat → Option Nat} {V : BW} {O : OW} {fy : Nat → Option Nat} {Wv : VW} {wt : Option VT} {S : Nat → Bool} (hR : MGx G M a va oa wa ya wk th rfd br re la ha kp kv qv qw fa fb V O fy Wv wt S) {K : WA} (hK : abM O wt br re la ha K) {p0 : Int} (hp0 : -2147483648 ≤ p0 ∧ p0 ≤ 2147483647) : xMet l G yX5_brand wsX5_brand 2 44 0 0 [.ref a, .int (iN (p0))] M (fun r M1 => ∃ (z th1 : Int), r = some (.int (iN z)) ∧ (-2147483648 ≤ z ∧ z ≤ 2147483647) ∧ ((th1 = 0 ∧ ((-9999 ≤ p0 ∧ p0 ≤ 9999)) ∧ z = A_brand (O, V, Wv, K, kp, kv, rfd) p0 ∧ MGm G M1 a S th1 (S_brand (O, V, Wv, K, kp, kv, rfd) p0)) ∨ (th1 ≠ 0 ∧ ((th1 = 1 ∧ ¬ (-9999 ≤ p0 ∧ p0 ≤ 9999))) ∧ MGm G M1 a S th1 (O, V, Wv, K, kp, kv, rfd)))) := by
  refine x_intro (cc := cX5_brand) (maxL := 2) (ret := (some .int)) (by exact pln_RX5) rfl (Nat.le_of_ble_eq_true rfl) ?_
  intro p e R s m args below meth c ls hRf hRc hRs hRl hC hw hl
  have hsc0 := hR.sc.1
  have hinX5 : ∀ w ∈ wsX50, w ∈ wsX5_brand := fun w h => (List.mem_cons_of_mem _ (List.mem_append_right _ h))
  have hl : lv_has ls 2 [(0, .ref a), (1, .int (iN (p0)))] := hl
  refine lv_aload_n hC.1 hC.2.1 dX5_brand_0 rfl (lv_at hl 0 rfl) ?_
  refine lv_iload_n hC.1 hC.2.1 dX5_brand_1 rfl (lv_at hl 1 rfl) ?_
  refine x_callS hC hw (lv_size hl) (c_X5_isNoValue l G (M := M) (p0 := p0) (by first | assumption | omega)) gX5_brand_X5_isNoValue rfl dv_X5_isNoValue_s rfl (Nat.le_of_ble_eq_true rfl) (by rw [hRf]; decide) (by rw [hRl]; decide) (by first | (rw [hRc]; decide) | omega) (by first | (rw [hRs]; decide) | omega) dX5_brand_2 (fun r9 M_1 H locs hq hw => ?_)
  obtain ⟨z_2, rfl, hM9, hz_2a, hz_2b⟩ := hq
  rw [hM9] at hw
  show W p l e R s m args below meth c H locs _ _ _ (F0 m 5 ls [.int (iN (z_2)), .ref a])
  refine x_const hC dX5_brand_5 ?_
  refine x_callV hC hw (lv_size hl) (c_X5_start l G hR (p0 := z_2) (by omega) (p1 := 1) (by omega) (by omega)) gX5_brand_X5_start rfl dv_X5_start hR.1.1 rfl rfl (Nat.le_of_ble_eq_true rfl) (by rw [hRf]; decide) (by rw [hRl]; decide) (by first | (rw [hRc]; decide) | omega) (by first | (rw [hRs]; decide) | omega) dX5_brand_6 (fun r9 M_3 H locs hq hw => ?_)
  obtain ⟨z_5, thk_4, rfl, hz_5r, hx5k_4, hRk_4⟩ := hq
  have hsck_4 := hRk_4.sc.1
  show W p l e R s m args below meth c H locs _ _ _ (F0 m 9 ls [.int (iN (z_5))])
  refine x_if_eq (tgt := 14) hC ⟨by omega, by omega⟩ dX5_brand_9 (by decide) (fun c_6 => ?_) (fun c_6 => ?_)
  · replace hz_5r := (hz_5r.resolve_right (fun q9 => absurd (q9.1.symm.trans c_6) (by decide))).2
    replace hz_2b := hz_2b.mp hz_5r.2
    refine lv_aload_n hC.1 hC.2.1 dX5_brand_14 rfl (lv_at hl 0 rfl) ?_
    refine x_getR hC hw hRk_4.1.1 rfl hinX5 11 (by decide) (List.mem_cons_of_mem _ (List.mem_append_left _ (List.mem_of_getElem? (i := 0) rfl))) rfl dX5_brand_15 ?_
    have hrr_7 := iN_rng kp
    refine x_sipush hC dX5_brand_18 (by decide +kernel) ?_
    refine x_icmp_ne (tgt := 30) hC ⟨by omega, by omega⟩ ⟨by omega, by omega⟩ dX5_brand_21 (by decide) (fun c_8 => ?_) (fun c_8 => ?_)
    · refine x_sipush hC dX5_brand_30 (by decide +kernel) ?_
      exact x_iret hC hw dX5_brand_33 (by first | decide | omega) (by first | decide | omega) ⟨(-20000), thk_4, rfl, ⟨by omega, by omega⟩, Or.inl ⟨by omega, ⟨(by first | omega | trivial), (by first | omega | trivial)⟩, (show _ = (if kp.toInt = -10000 then -10000 else -20000) by omega), MGm.of hRk_4 hK⟩⟩
    · refine x_sipush hC dX5_brand_24 (by decide +kernel) ?_
      refine lv_goto (tgt := 33) hC.1 hC.2.1 dX5_brand_27 (by decide) ?_
      exact x_iret hC hw dX5_brand_33 (by first | decide | omega) (by first | decide | omega) ⟨(-10000), thk_4, rfl, ⟨by omega, by omega⟩, Or.inl ⟨by omega, ⟨(by first | omega | trivial), (by first | omega | trivial)⟩, (show _ = (if kp.toInt = -10000 then -10000 else -20000) by omega), MGm.of hRk_4 hK⟩⟩
  · replace hz_5r := (hz_5r.resolve_left (fun q9 => c_6 q9.1)).2
    replace hz_2b := mt hz_2b.mpr hz_5r.1
    refine x_const hC dX5_brand_12 ?_
    exact x_iret hC hw dX5_brand_13 (by first | decide | omega) (by first | decide | omega) ⟨0, thk_4, rfl, by omega, Or.inr ⟨by omega, by omega, MGm.of hRk_4 hK⟩⟩
set_option maxHeartbeats 4000000 in
set_option maxRecDepth 100000 in
theorem c_X5_knock (l : Launch) (G : xG) {M : HM} {a va oa wa ya : Nat} {wk : Option Nat} {th : Int} {rfd : Int32} {br re la ha : Int} {kp kv : Int32} {qv qw : Nat → Nat} {fa fb : Nat → Option Nat} {V : BW} {O : OW} {fy : Nat → Option Nat} {Wv : VW} {wt : Option VT} {S : Nat → Bool} (hR : MGx G M a va oa wa ya wk th rfd br re la ha kp kv qv qw fa fb V O fy Wv wt S) {K : WA} (hK : abM O wt br re la ha K) : xMet l G yX5_knock wsX5_knock 0 0 0 0 [.ref a] M (fun r M1 => r = some (.int (iN (rfd.toInt + 1))) ∧ MGm G M1 a S 0 (S_knock (O, V, Wv, K, kp, kv, rfd))) := by
  refine x_intro (cc := cX5_knock) (maxL := 1) (ret := (some .int)) (by exact pln_RX5) rfl (Nat.le_of_ble_eq_true rfl) ?_
  intro p e R s m args below meth c ls hRf hRc hRs hRl hC hw hl
  have hsc0 := hR.sc.1
  have hinX5 : ∀ w ∈ wsX50, w ∈ wsX5_knock := fun w h => (List.mem_cons_of_mem _ (List.mem_append_right _ h))
  have hl : lv_has ls 1 [(0, .ref a)] := hl
  refine lv_aload_n hC.1 hC.2.1 dX5_knock_0 rfl (lv_at hl 0 rfl) ?_
  refine x_const hC dX5_knock_1 ?_
  refine x_put (fs2 := [.int (iN (0)), .int rfd, .ref va, .ref oa, .ref wa, .ref ya, va_rf (wk), .int (iN (br)), .int (iN (re)), .int (iN (la)), .int (iN (ha)), .int kp, .int kv]) hC hw hR.1.1 rfl hinX5 tyX5 tyX5_ok nmX5 0 (by decide) (List.mem_cons_of_mem _ (List.mem_append_left _ (List.mem_of_getElem? (i := 0) rfl))) rfl rfl rfl (Nat.le_of_ble_eq_true rfl) rfl dX5_knock_2 (fun H locs hw => ?_)
  obtain ⟨M_1, hM_2⟩ : ∃ z, z = va_up M a (some (.inr (7, [.int (iN (0)), .int rfd, .ref va, .ref oa, .ref wa, .ref ya, va_rf (wk), .int (iN (br)), .int (iN (re)), .int (iN (la)), .int (iN (ha)), .int kp, .int kv]))) := ⟨_, rfl⟩
  rw [← hM_2] at hw
  have hR_3 : MGx G M_1 a va oa wa ya wk 0 rfd br re la ha kp kv qv qw fa fb V O fy Wv wt S := hR.obj hM_2 ⟨(by omega), hR.sc.2.1, hR.sc.2.2.1, hR.sc.2.2.2.1, hR.sc.2.2.2.2⟩ hR.wk'
  refine lv_aload_n hC.1 hC.2.1 dX5_knock_5 rfl (lv_at hl 0 rfl) ?_
  refine lv_dup hC.1 hC.2.1 dX5_knock_6 rfl ?_
  refine x_getR hC hw hR_3.1.1 rfl hinX5 1 (by decide) (List.mem_cons_of_mem _ (List.mem_append_left _ (List.mem_of_getElem? (i := 1) rfl))) rfl dX5_knock_7 ?_
  have hrr_4 := iN_rng rfd
  refine x_const hC dX5_knock_10 ?_
  refine x_iadd hC dX5_knock_11 ?_
  refine x_put (fs2 := [.int (iN (0)), .int (iN (rfd.toInt + 1)), .ref va, .ref oa, .ref wa, .ref ya, va_rf (wk), .int (iN (br)), .int (iN (re)), .int (iN (la)), .int (iN (ha)), .int kp, .int kv]) hC hw hR_3.1.1 rfl hinX5 tyX5 tyX5_ok nmX5 1 (by decide) (List.mem_cons_of_mem _ (List.mem_append_left _ (List.mem_of_getElem? (i := 1) rfl))) rfl rfl rfl (Nat.le_of_ble_eq_true rfl) rfl dX5_knock_12 (fun H locs hw => ?_)
  obtain ⟨M_5, hM_6⟩ : ∃ z, z = va_up M_1 a (some (.inr (7, [.int (iN (0)), .int (iN (rfd.toInt + 1)), .ref va, .ref oa, .ref wa, .ref ya, va_rf (wk), .int (iN (br)), .int (iN (re)), .int (iN (la)), .int (iN (ha)), .int kp, .int kv]))) := ⟨_, rfl⟩
  rw [← hM_6] at hw
  have hR_7 : MGx G M_5 a va oa wa ya wk 0 (iN (rfd.toInt + 1)) br re la ha kp kv qv qw fa fb V O fy Wv wt S := hR_3.obj hM_6 ⟨hR_3.sc.1, hR_3.sc.2.1, hR_3.sc.2.2.1, hR_3.sc.2.2.2.1, hR_3.sc.2.2.2.2⟩ hR_3.wk'
  refine lv_aload_n hC.1 hC.2.1 dX5_knock_15 rfl (lv_at hl 0 rfl) ?_
  refine x_getR hC hw hR_7.1.1 rfl hinX5 1 (by decide) (List.mem_cons_of_mem _ (List.mem_append_left _ (List.mem_of_getElem? (i := 1) rfl))) rfl dX5_knock_16 ?_
  have hrr_8 := iN_rng (iN (rfd.toInt + 1))
  exact x_iret hC hw dX5_knock_19 (by first | decide | omega) (by first | decide | omega) ⟨by simp only [iN_asI], MGm.of hR_7 hK⟩
