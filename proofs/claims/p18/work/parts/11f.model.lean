/-! the methods of the model, by program -/
set_option maxHeartbeats 4000000 in
set_option maxRecDepth 100000 in
theorem c_X5_get (l : Launch) (G : xG) {M : HM} {a va oa wa ya : Nat} {wk : Option Nat} {th : Int} {rfd : Int32} {br re la ha : Int} {kp kv : Int32} {qv qw : Nat → Nat} {fa fb : Nat → Option Nat} {V : BW} {O : OW} {fy : Nat → Option Nat} {Wv : VW} {wt : Option VT} {S : Nat → Bool} (hR : MGx G M a va oa wa ya wk th rfd br re la ha kp kv qv qw fa fb V O fy Wv wt S) {K : WA} (hK : abM O wt br re la ha K) {p0 : Int} (hp0 : -2147483648 ≤ p0 ∧ p0 ≤ 2147483647) {p1 : Int} (hp1 : -2147483648 ≤ p1 ∧ p1 ≤ 2147483647) : xMet l G yX5_get wsX5_get 3 66 0 0 [.ref a, .int (iN (p0)), .int (iN (p1))] M (fun r M1 => ∃ (z th1 : Int), r = some (.int (iN z)) ∧ (-2147483648 ≤ z ∧ z ≤ 2147483647) ∧ ((th1 = 0 ∧ ((0 ≤ p0 ∧ p0 ≤ 2) ∧ (0 ≤ p1 ∧ p1 ≤ 99)) ∧ z = A_get (O, V, Wv, K, kp, kv, rfd) p0 p1 ∧ MGm G M1 a S th1 (O, V, Wv, K, kp, kv, rfd)) ∨ (th1 ≠ 0 ∧ ((th1 = 1 ∧ ¬ (0 ≤ p0 ∧ p0 ≤ 2)) ∨ (th1 = 2 ∧ (0 ≤ p0 ∧ p0 ≤ 2) ∧ ¬ (0 ≤ p1 ∧ p1 ≤ 99))) ∧ MGm G M1 a S th1 (O, V, Wv, K, kp, kv, rfd)))) := by
  refine x_intro (cc := cX5_get) (maxL := 3) (ret := (some .int)) (by exact pln_RX5) rfl (Nat.le_of_ble_eq_true rfl) ?_
  intro p e R s m args below meth c ls hRf hRc hRs hRl hC hw hl
  have hsc0 := hR.sc.1
  have hinX5 : ∀ w ∈ wsX50, w ∈ wsX5_get := fun w h => (List.mem_cons_of_mem _ (List.mem_append_right _ h))
  have hl : lv_has ls 3 [(0, .ref a), (1, .int (iN (p0))), (2, .int (iN (p1)))] := hl
  refine lv_aload_n hC.1 hC.2.1 dX5_get_0 rfl (lv_at hl 0 rfl) ?_
  refine lv_iload_n hC.1 hC.2.1 dX5_get_1 rfl (lv_at hl 1 rfl) ?_
  refine lv_iload_n hC.1 hC.2.1 dX5_get_2 rfl (lv_at hl 2 rfl) ?_
  refine x_callV hC hw (lv_size hl) (c_X5_isBad l G hR (p0 := p0) (by first | assumption | omega) (p1 := p1) (by first | assumption | omega)) gX5_get_X5_isBad rfl dv_X5_isBad hR.1.1 rfl rfl (Nat.le_of_ble_eq_true rfl) (by rw [hRf]; decide) (by rw [hRl]; decide) (by first | (rw [hRc]; decide) | omega) (by first | (rw [hRs]; decide) | omega) dX5_get_3 (fun r9 M_1 H locs hq hw => ?_)
  obtain ⟨z_3, thk_2, rfl, hz_3r, hx5k_2, hRk_2⟩ := hq
  have hsck_2 := hRk_2.sc.1
  show W p l e R s m args below meth c H locs _ _ _ (F0 m 6 ls [.int (iN (z_3))])
  refine x_if_eq (tgt := 13) hC ⟨by omega, by omega⟩ dX5_get_6 (by decide) (fun c_4 => ?_) (fun c_4 => ?_)
  · replace hz_3r := (hz_3r.resolve_right (fun q9 => absurd (q9.1.symm.trans c_4) (by decide))).2
    refine lv_aload_n hC.1 hC.2.1 dX5_get_13 rfl (lv_at hl 0 rfl) ?_
    refine x_get hC hw hRk_2.1.1 rfl hinX5 2 (by decide) (List.mem_cons_of_mem _ (List.mem_append_left _ (List.mem_of_getElem? (i := 0) rfl))) rfl dX5_get_14 ?_
    refine lv_iload_n hC.1 hC.2.1 dX5_get_17 rfl (lv_at hl 1 rfl) ?_
    refine x_ald4 hC hw hRk_2.1.2.1 (by omega) (by omega) (by omega) dX5_get_18 ?_
    rw [hRk_2.fa' (show (p0).toNat < 3 from tn_lt (by omega) (by decide))]
    show W p l e R s m args below meth c _ _ _ _ _ (F0 m 19 ls [.ref (qv ((p0).toNat))])
    refine lv_iload_n hC.1 hC.2.1 dX5_get_19 rfl (lv_at hl 2 rfl) ?_
    refine x_ialdE (x := (V ((p0).toNat) ((p1).toNat))) hC hw (hRk_2.rv (show ((p0).toNat) < 3 from tn_lt (by omega) (by decide))) (by omega) (by omega) (by omega) dX5_get_20 rfl ?_
    have hrv_5 := hRk_2.vr (show ((p0).toNat) < 3 from tn_lt (by omega) (by decide)) (show (p1).toNat < 100 from tn_lt (by omega) (by decide))
    have hpv_5 := hRk_2.vs (show ((p0).toNat) < 3 from tn_lt (by omega) (by decide)) (show (p1).toNat < 100 from tn_lt (by omega) (by decide))
    exact x_iret hC hw dX5_get_21 (by first | decide | omega) (by first | decide | omega) ⟨(V ((p0).toNat) ((p1).toNat)), thk_2, rfl, ⟨by omega, by omega⟩, Or.inl ⟨by omega, ⟨⟨(by first | omega | trivial), (by first | omega | trivial)⟩, ⟨(by first | omega | trivial), (by first | omega | trivial)⟩⟩, (show _ = V (p0).toNat (p1).toNat by rfl), MGm.of hRk_2 hK⟩⟩
  · replace hz_3r := (hz_3r.resolve_left (fun q9 => c_4 q9.1)).2
    refine x_const hC dX5_get_9 ?_
    refine lv_goto (tgt := 21) hC.1 hC.2.1 dX5_get_10 (by decide) ?_
    exact x_iret hC hw dX5_get_21 (by first | decide | omega) (by first | decide | omega) ⟨0, thk_2, rfl, by omega, Or.inr ⟨by omega, by omega, MGm.of hRk_2 hK⟩⟩
set_option maxHeartbeats 4000000 in
set_option maxRecDepth 100000 in
theorem c_X5_getOr (l : Launch) (G : xG) {M : HM} {a va oa wa ya : Nat} {wk : Option Nat} {th : Int} {rfd : Int32} {br re la ha : Int} {kp kv : Int32} {qv qw : Nat → Nat} {fa fb : Nat → Option Nat} {V : BW} {O : OW} {fy : Nat → Option Nat} {Wv : VW} {wt : Option VT} {S : Nat → Bool} (hR : MGx G M a va oa wa ya wk th rfd br re la ha kp kv qv qw fa fb V O fy Wv wt S) {K : WA} (hK : abM O wt br re la ha K) {p0 : Int} (hp0 : -2147483648 ≤ p0 ∧ p0 ≤ 2147483647) {p1 : Int} (hp1 : -2147483648 ≤ p1 ∧ p1 ≤ 2147483647) {p2 : Int} (hp2 : -2147483648 ≤ p2 ∧ p2 ≤ 2147483647) : xMet l G yX5_getOr wsX5_getOr 3 67 0 0 [.ref a, .int (iN (p0)), .int (iN (p1)), .int (iN (p2))] M (fun r M1 => ∃ (z th1 : Int), r = some (.int (iN z)) ∧ (-2147483648 ≤ z ∧ z ≤ 2147483647) ∧ ((th1 = 0 ∧ ((0 ≤ p0 ∧ p0 ≤ 2) ∧ ((0 ≤ p1 ∧ p1 ≤ 99) ∧ (-9999 ≤ p2 ∧ p2 ≤ 9999))) ∧ z = A_getOr (O, V, Wv, K, kp, kv, rfd) p0 p1 p2 ∧ MGm G M1 a S th1 (O, V, Wv, K, kp, kv, rfd)) ∨ (th1 ≠ 0 ∧ ((th1 = 1 ∧ ¬ (0 ≤ p0 ∧ p0 ≤ 2)) ∨ (th1 = 2 ∧ (0 ≤ p0 ∧ p0 ≤ 2) ∧ ¬ ((0 ≤ p1 ∧ p1 ≤ 99) ∧ (-9999 ≤ p2 ∧ p2 ≤ 9999)))) ∧ MGm G M1 a S th1 (O, V, Wv, K, kp, kv, rfd)))) := by
  refine x_intro (cc := cX5_getOr) (maxL := 4) (ret := (some .int)) (by exact pln_RX5) rfl (Nat.le_of_ble_eq_true rfl) ?_
  intro p e R s m args below meth c ls hRf hRc hRs hRl hC hw hl
  have hsc0 := hR.sc.1
  have hinX5 : ∀ w ∈ wsX50, w ∈ wsX5_getOr := fun w h => (List.mem_cons_of_mem _ (List.mem_append_right _ h))
  have hl : lv_has ls 4 [(0, .ref a), (1, .int (iN (p0))), (2, .int (iN (p1))), (3, .int (iN (p2)))] := hl
  refine lv_aload_n hC.1 hC.2.1 dX5_getOr_0 rfl (lv_at hl 0 rfl) ?_
  refine lv_iload_n hC.1 hC.2.1 dX5_getOr_1 rfl (lv_at hl 1 rfl) ?_
  refine lv_iload_n hC.1 hC.2.1 dX5_getOr_2 rfl (lv_at hl 2 rfl) ?_
  refine lv_iload_n hC.1 hC.2.1 dX5_getOr_3 rfl (lv_at hl 3 rfl) ?_
  refine x_callV hC hw (lv_size hl) (c_X5_isBad_ l G hR (p0 := p0) (by first | assumption | omega) (p1 := p1) (by first | assumption | omega) (p2 := p2) (by first | assumption | omega)) gX5_getOr_X5_isBad_ rfl dv_X5_isBad_ hR.1.1 rfl rfl (Nat.le_of_ble_eq_true rfl) (by rw [hRf]; decide) (by rw [hRl]; decide) (by first | (rw [hRc]; decide) | omega) (by first | (rw [hRs]; decide) | omega) dX5_getOr_4 (fun r9 M_1 H locs hq hw => ?_)
  obtain ⟨z_3, thk_2, rfl, hz_3r, hx5k_2, hRk_2⟩ := hq
  have hsck_2 := hRk_2.sc.1
  show W p l e R s m args below meth c H locs _ _ _ (F0 m 7 ls [.int (iN (z_3))])
  refine x_if_eq (tgt := 12) hC ⟨by omega, by omega⟩ dX5_getOr_7 (by decide) (fun c_4 => ?_) (fun c_4 => ?_)
  · replace hz_3r := (hz_3r.resolve_right (fun q9 => absurd (q9.1.symm.trans c_4) (by decide))).2
    refine lv_aload_n hC.1 hC.2.1 dX5_getOr_12 rfl (lv_at hl 0 rfl) ?_
    refine x_get hC hw hRk_2.1.1 rfl hinX5 2 (by decide) (List.mem_cons_of_mem _ (List.mem_append_left _ (List.mem_append_left _ (List.mem_of_getElem? (i := 0) rfl)))) rfl dX5_getOr_13 ?_
    refine lv_iload_n hC.1 hC.2.1 dX5_getOr_16 rfl (lv_at hl 1 rfl) ?_
    refine x_ald4 hC hw hRk_2.1.2.1 (by omega) (by omega) (by omega) dX5_getOr_17 ?_
    rw [hRk_2.fa' (show (p0).toNat < 3 from tn_lt (by omega) (by decide))]
    show W p l e R s m args below meth c _ _ _ _ _ (F0 m 18 ls [.ref (qv ((p0).toNat))])
    refine lv_iload_n hC.1 hC.2.1 dX5_getOr_18 rfl (lv_at hl 2 rfl) ?_
    refine x_ialdE (x := (V ((p0).toNat) ((p1).toNat))) hC hw (hRk_2.rv (show ((p0).toNat) < 3 from tn_lt (by omega) (by decide))) (by omega) (by omega) (by omega) dX5_getOr_19 rfl ?_
    have hrv_5 := hRk_2.vr (show ((p0).toNat) < 3 from tn_lt (by omega) (by decide)) (show (p1).toNat < 100 from tn_lt (by omega) (by decide))
    have hpv_5 := hRk_2.vs (show ((p0).toNat) < 3 from tn_lt (by omega) (by decide)) (show (p1).toNat < 100 from tn_lt (by omega) (by decide))
    refine x_sipush hC dX5_getOr_20 (by decide +kernel) ?_
    refine x_icmp_ne (tgt := 30) hC ⟨by omega, by omega⟩ ⟨by omega, by omega⟩ dX5_getOr_23 (by decide) (fun c_6 => ?_) (fun c_6 => ?_)
    · refine lv_aload_n hC.1 hC.2.1 dX5_getOr_30 rfl (lv_at hl 0 rfl) ?_
      refine x_get hC hw hRk_2.1.1 rfl hinX5 2 (by decide) (List.mem_cons_of_mem _ (List.mem_append_left _ (List.mem_append_left _ (List.mem_of_getElem? (i := 0) rfl)))) rfl dX5_getOr_31 ?_
      refine lv_iload_n hC.1 hC.2.1 dX5_getOr_34 rfl (lv_at hl 1 rfl) ?_
      refine x_ald4 hC hw hRk_2.1.2.1 (by omega) (by omega) (by omega) dX5_getOr_35 ?_
      rw [hRk_2.fa' (show (p0).toNat < 3 from tn_lt (by omega) (by decide))]
      show W p l e R s m args below meth c _ _ _ _ _ (F0 m 36 ls [.ref (qv ((p0).toNat))])
      refine lv_iload_n hC.1 hC.2.1 dX5_getOr_36 rfl (lv_at hl 2 rfl) ?_
      refine x_ialdE (x := (V ((p0).toNat) ((p1).toNat))) hC hw (hRk_2.rv (show ((p0).toNat) < 3 from tn_lt (by omega) (by decide))) (by omega) (by omega) (by omega) dX5_getOr_37 rfl ?_
      have hrv_7 := hRk_2.vr (show ((p0).toNat) < 3 from tn_lt (by omega) (by decide)) (show (p1).toNat < 100 from tn_lt (by omega) (by decide))
      have hpv_7 := hRk_2.vs (show ((p0).toNat) < 3 from tn_lt (by omega) (by decide)) (show (p1).toNat < 100 from tn_lt (by omega) (by decide))
      exact x_iret hC hw dX5_getOr_38 (by first | decide | omega) (by first | decide | omega) ⟨(V ((p0).toNat) ((p1).toNat)), thk_2, rfl, ⟨by omega, by omega⟩, Or.inl ⟨by omega, ⟨⟨(by first | omega | trivial), (by first | omega | trivial)⟩, ⟨⟨(by first | omega | trivial), (by first | omega | trivial)⟩, ⟨(by first | omega | trivial), (by first | omega | trivial)⟩⟩⟩, (show _ = (if V (p0).toNat (p1).toNat = -10000 then p2 else V (p0).toNat (p1).toNat) by omega), MGm.of hRk_2 hK⟩⟩
    · refine lv_iload_n hC.1 hC.2.1 dX5_getOr_26 rfl (lv_at hl 3 rfl) ?_
      refine lv_goto (tgt := 38) hC.1 hC.2.1 dX5_getOr_27 (by decide) ?_
      exact x_iret hC hw dX5_getOr_38 (by first | decide | omega) (by first | decide | omega) ⟨p2, thk_2, rfl, ⟨by omega, by omega⟩, Or.inl ⟨by omega, ⟨⟨(by first | omega | trivial), (by first | omega | trivial)⟩, ⟨⟨(by first | omega | trivial), (by first | omega | trivial)⟩, ⟨(by first | omega | trivial), (by first | omega | trivial)⟩⟩⟩, (show _ = (if V (p0).toNat (p1).toNat = -10000 then p2 else V (p0).toNat (p1).toNat) by omega), MGm.of hRk_2 hK⟩⟩
  · replace hz_3r := (hz_3r.resolve_left (fun q9 => c_4 q9.1)).2
    refine x_const hC dX5_getOr_10 ?_
    exact x_iret hC hw dX5_getOr_11 (by first | decide | omega) (by first | decide | omega) ⟨0, thk_2, rfl, by omega, Or.inr ⟨by omega, by omega, MGm.of hRk_2 hK⟩⟩
set_option maxHeartbeats 4000000 in
set_option maxRecDepth 100000 in
theorem c_X5_has (l : Launch) (G : xG) {M : HM} {a va oa wa ya : Nat} {wk : Option Nat} {th : Int} {rfd : Int32} {br re la ha : Int} {kp kv : Int32} {qv qw : Nat → Nat} {fa fb : Nat → Option Nat} {V : BW} {O : OW} {fy : Nat → Option Nat} {Wv : VW} {wt : Option VT} {S : Nat → Bool} (hR : MGx G M a va oa wa ya wk th rfd br re la ha kp kv qv qw fa fb V O fy Wv wt S) {K : WA} (hK : abM O wt br re la ha K) {p0 : Int} (hp0 : -2147483648 ≤ p0 ∧ p0 ≤ 2147483647) {p1 : Int} (hp1 : -2147483648 ≤ p1 ∧ p1 ≤ 2147483647) : xMet l G yX5_has wsX5_has 3 66 0 0 [.ref a, .int (iN (p0)), .int (iN (p1))] M (fun r M1 => ∃ (z th1 : Int), r = some (.int (iN z)) ∧ (z = 0 ∨ z = 1) ∧ ((th1 = 0 ∧ ((0 ≤ p0 ∧ p0 ≤ 2) ∧ (0 ≤ p1 ∧ p1 ≤ 99)) ∧ z = A_has (O, V, Wv, K, kp, kv, rfd) p0 p1 ∧ MGm G M1 a S th1 (O, V, Wv, K, kp, kv, rfd)) ∨ (th1 ≠ 0 ∧ ((th1 = 1 ∧ ¬ (0 ≤ p0 ∧ p0 ≤ 2)) ∨ (th1 = 2 ∧ (0 ≤ p0 ∧ p0 ≤ 2) ∧ ¬ (0 ≤ p1 ∧ p1 ≤ 99))) ∧ MGm G M1 a S th1 (O, V, Wv, K, kp, kv, rfd)))) := by
  refine x_intro (cc := cX5_has) (maxL := 3) (ret := (some .boolean)) (by exact pln_RX5) rfl (Nat.le_of_ble_eq_true rfl) ?_
  intro p e R s m args below meth c ls hRf hRc hRs hRl hC hw hl
  have hsc0 := hR.sc.1
  have hinX5 : ∀ w ∈ wsX50, w ∈ wsX5_has := fun w h => (List.mem_cons_of_mem _ (List.mem_append_right _ h))
  have hl : lv_has ls 3 [(0, .ref a), (1, .int (iN (p0))), (2, .int (iN (p1)))] := hl
  refine lv_aload_n hC.1 hC.2.1 dX5_has_0 rfl (lv_at hl 0 rfl) ?_
  refine lv_iload_n hC.1 hC.2.1 dX5_has_1 rfl (lv_at hl 1 rfl) ?_
  refine lv_iload_n hC.1 hC.2.1 dX5_has_2 rfl (lv_at hl 2 rfl) ?_
  refine x_callV hC hw (lv_size hl) (c_X5_isBad l G hR (p0 := p0) (by first | assumption | omega) (p1 := p1) (by first | assumption | omega)) gX5_has_X5_isBad rfl dv_X5_isBad hR.1.1 rfl rfl (Nat.le_of_ble_eq_true rfl) (by rw [hRf]; decide) (by rw [hRl]; decide) (by first | (rw [hRc]; decide) | omega) (by first | (rw [hRs]; decide) | omega) dX5_has_3 (fun r9 M_1 H locs hq hw => ?_)
  obtain ⟨z_3, thk_2, rfl, hz_3r, hx5k_2, hRk_2⟩ := hq
  have hsck_2 := hRk_2.sc.1
  show W p l e R s m args below meth c H locs _ _ _ (F0 m 6 ls [.int (iN (z_3))])
  refine x_if_ne (tgt := 27) hC ⟨by omega, by omega⟩ dX5_has_6 (by decide) (fun c_4 => ?_) (fun c_4 => ?_)
  · replace hz_3r := (hz_3r.resolve_left (fun q9 => c_4 q9.1)).2
    refine x_const hC dX5_has_27 ?_
    exact x_zret hC hw (by omega) dX5_has_28 (by first | decide | omega) (by first | decide | omega) ⟨0, thk_2, rfl, by omega, Or.inr ⟨by omega, by omega, MGm.of hRk_2 hK⟩⟩
  · replace hz_3r := (hz_3r.resolve_right (fun q9 => absurd (q9.1.symm.trans c_4) (by decide))).2
    refine lv_aload_n hC.1 hC.2.1 dX5_has_9 rfl (lv_at hl 0 rfl) ?_
    refine x_get hC hw hRk_2.1.1 rfl hinX5 2 (by decide) (List.mem_cons_of_mem _ (List.mem_append_left _ (List.mem_of_getElem? (i := 0) rfl))) rfl dX5_has_10 ?_
    refine lv_iload_n hC.1 hC.2.1 dX5_has_13 rfl (lv_at hl 1 rfl) ?_
    refine x_ald4 hC hw hRk_2.1.2.1 (by omega) (by omega) (by omega) dX5_has_14 ?_
    rw [hRk_2.fa' (show (p0).toNat < 3 from tn_lt (by omega) (by decide))]
    show W p l e R s m args below meth c _ _ _ _ _ (F0 m 15 ls [.ref (qv ((p0).toNat))])
    refine lv_iload_n hC.1 hC.2.1 dX5_has_15 rfl (lv_at hl 2 rfl) ?_
    refine x_ialdE (x := (V ((p0).toNat) ((p1).toNat))) hC hw (hRk_2.rv (show ((p0).toNat) < 3 from tn_lt (by omega) (by decide))) (by omega) (by omega) (by omega) dX5_has_16 rfl ?_
    have hrv_5 := hRk_2.vr (show ((p0).toNat) < 3 from tn_lt (by omega) (by decide)) (show (p1).toNat < 100 from tn_lt (by omega) (by decide))
    have hpv_5 := hRk_2.vs (show ((p0).toNat) < 3 from tn_lt (by omega) (by decide)) (show (p1).toNat < 100 from tn_lt (by omega) (by decide))
    refine x_sipush hC dX5_has_17 (by decide +kernel) ?_
    refine x_icmp_eq (tgt := 27) hC ⟨by omega, by omega⟩ ⟨by omega, by omega⟩ dX5_has_20 (by decide) (fun c_6 => ?_) (fun c_6 => ?_)
    · refine x_const hC dX5_has_27 ?_
      exact x_zret hC hw (by omega) dX5_has_28 (by first | decide | omega) (by first | decide | omega) ⟨0, thk_2, rfl, by omega, Or.inl ⟨by omega, ⟨⟨(by first | omega | trivial), (by first | omega | trivial)⟩, ⟨(by first | omega | trivial), (by first | omega | trivial)⟩⟩, (show _ = (if V (p0).toNat (p1).toNat = -10000 then 0 else 1) by omega), MGm.of hRk_2 hK⟩⟩
    · refine x_const hC dX5_has_23 ?_
      refine lv_goto (tgt := 28) hC.1 hC.2.1 dX5_has_24 (by decide) ?_
      exact x_zret hC hw (by omega) dX5_has_28 (by first | decide | omega) (by first | decide | omega) ⟨1, thk_2, rfl, by omega, Or.inl ⟨by omega, ⟨⟨(by first | omega | trivial), (by first | omega | trivial)⟩, ⟨(by first | omega | trivial), (by first | omega | trivial)⟩⟩, (show _ = (if V (p0).toNat (p1).toNat = -10000 then 0 else 1) by omega), MGm.of hRk_2 hK⟩⟩
set_option maxHeartbeats 4000000 in
set_option maxRecDepth 100000 in
theorem c_X5_hasValue (l : Launch) (G : xG) {M : HM} {a va oa wa ya : Nat} {wk : Option Nat} {th : Int} {rfd : Int32} {br re la ha : Int} {kp kv : Int32} {qv qw : Nat → Nat} {fa fb : Nat → Option Nat} {V : BW} {O : OW} {fy : Nat → Option Nat} {Wv : VW} {wt : Option VT} {S : Nat → Bool} (hR : MGx G M a va oa wa ya wk th rfd br re la ha kp kv qv qw fa fb V O fy Wv wt S) {K : WA} (hK : abM O wt br re la ha K) {p0 : Int} (hp0 : -2147483648 ≤ p0 ∧ p0 ≤ 2147483647) {p1 : Int} (hp1 : -2147483648 ≤ p1 ∧ p1 ≤ 2147483647) : xMet l G yX5_hasValue wsX5_hasValue 2 47 0 0 [.ref a, .int (iN (p0)), .int (iN (p1))] M (fun r M1 => ∃ (z th1 : Int), r = some (.int (iN z)) ∧ (z = 0 ∨ z = 1) ∧ ((th1 = 0 ∧ ((0 ≤ p0 ∧ p0 ≤ 2) ∧ (-9999 ≤ p1 ∧ p1 ≤ 9999)) ∧ z = A_hasValue (O, V, Wv, K, kp, kv, rfd) p0 p1 ∧ MGm G M1 a S th1 (O, V, Wv, K, kp, kv, rfd)) ∨ (th1 ≠ 0 ∧ ((th1 = 1 ∧ ¬ (0 ≤ p0 ∧ p0 ≤ 2)) ∨ (th1 = 2 ∧ (0 ≤ p0 ∧ p0 ≤ 2) ∧ ¬ (-9999 ≤ p1 ∧ p1 ≤ 9999))) ∧ MGm G M1 a S th1 (O, V, Wv, K, kp, kv, rfd)))) := by
  refine x_intro (cc := cX5_hasValue) (maxL := 3) (ret := (some .boolean)) (by exact pln_RX5) rfl (Nat.le_of_ble_eq_true rfl) ?_
  intro p e R s m args below meth c ls hRf hRc hRs hRl hC hw hl
  have hsc0 := hR.sc.1
  have hl : lv_has ls 3 [(0, .ref a), (1, .int (iN (p0))), (2, .int (iN (p1)))] := hl
  refine lv_aload_n hC.1 hC.2.1 dX5_hasValue_0 rfl (lv_at hl 0 rfl) ?_
  refine lv_iload_n hC.1 hC.2.1 dX5_hasValue_1 rfl (lv_at hl 1 rfl) ?_
  refine x_callS hC hw (lv_size hl) (c_X5_isNoBook l G (M := M) (p0 := p0) (by first | assumption | omega)) gX5_hasValue_X5_isNoBook rfl dv_X5_isNoBook_s rfl (Nat.le_of_ble_eq_true rfl) (by rw [hRf]; decide) (by rw [hRl]; decide) (by first | (rw [hRc]; decide) | omega) (by first | (rw [hRs]; decide) | omega) dX5_hasValue_2 (fun r9 M_1 H locs hq hw => ?_)
  obtain ⟨z_2, rfl, hM9, hz_2a, hz_2b⟩ := hq
  rw [hM9] at hw
  show W p l e R s m args below meth c H locs _ _ _ (F0 m 5 ls [.int (iN (z_2)), .ref a])
  refine x_const hC dX5_hasValue_5 ?_
  refine x_callV hC hw (lv_size hl) (c_X5_start l G hR (p0 := z_2) (by omega) (p1 := 1) (by omega) (by omega)) gX5_hasValue_X5_start rfl dv_X5_start hR.1.1 rfl rfl (Nat.le_of_ble_eq_true rfl) (by rw [hRf]; decide) (by rw [hRl]; decide) (by first | (rw [hRc]; decide) | omega) (by first | (rw [hRs]; decide) | omega) dX5_hasValue_6 (fun r9 M_3 H locs hq hw => ?_)
  obtain ⟨z_5, thk_4, rfl, hz_5r, hx5k_4, hRk_4⟩ := hq
  have hsck_4 := hRk_4.sc.1
  show W p l e R s m args below meth c H locs _ _ _ (F0 m 9 ls [.int (iN (z_5))])
  refine x_if_ne (tgt := 37) hC ⟨by omega, by omega⟩ dX5_hasValue_9 (by decide) (fun c_6 => ?_) (fun c_6 => ?_)
  · replace hz_5r := (hz_5r.resolve_left (fun q9 => c_6 q9.1)).2
    replace hz_2b := mt hz_2b.mpr hz_5r.1
    refine x_const hC dX5_hasValue_37 ?_
    exact x_zret hC hw (by omega) dX5_hasValue_38 (by first | decide | omega) (by first | decide | omega) ⟨0, thk_4, rfl, by omega, Or.inr ⟨by omega, by omega, MGm.of hRk_4 hK⟩⟩
  · replace hz_5r := (hz_5r.resolve_right (fun q9 => absurd (q9.1.symm.trans c_6) (by decide))).2
    replace hz_2b := hz_2b.mp hz_5r.2
    refine lv_aload_n hC.1 hC.2.1 dX5_hasValue_12 rfl (lv_at hl 0 rfl) ?_
    refine lv_iload_n hC.1 hC.2.1 dX5_hasValue_13 rfl (lv_at hl 2 rfl) ?_
    refine x_callS hC hw (lv_size hl) (c_X5_isNoValue l G (M := M_3) (p0 := p1) (by first | assumption | omega)) gX5_hasValue_X5_isNoValue rfl dv_X5_isNoValue_s rfl (Nat.le_of_ble_eq_true rfl) (by rw [hRf]; decide) (by rw [hRl]; decide) (by first | (rw [hRc]; decide) | omega) (by first | (rw [hRs]; decide) | omega) dX5_hasValue_14 (fun r9 M_7 H locs hq hw => ?_)
    obtain ⟨z_8, rfl, hM9, hz_8a, hz_8b⟩ := hq
    rw [hM9] at hw
    show W p l e R s m args below meth c H locs _ _ _ (F0 m 17 ls [.int (iN (z_8)), .ref a])
    refine x_const hC dX5_hasValue_17 ?_
    refine x_callV hC hw (lv_size hl) (c_X5_refuse l G hRk_4 (p0 := z_8) (by omega) (p1 := 2) (by omega) (by omega)) gX5_hasValue_X5_refuse rfl dv_X5_refuse hRk_4.1.1 rfl rfl (Nat.le_of_ble_eq_true rfl) (by rw [hRf]; decide) (by rw [hRl]; decide) (by first | (rw [hRc]; decide) | omega) (by first | (rw [hRs]; decide) | omega) dX5_hasValue_18 (fun r9 M_9 H locs hq hw => ?_)
    obtain ⟨z_11, thk_10, rfl, hz_11r, hx5k_10, hRk_10⟩ := hq
    have hsck_10 := hRk_10.sc.1
    show W p l e R s m args below meth c H locs _ _ _ (F0 m 21 ls [.int (iN (z_11))])
    refine x_if_ne (tgt := 37) hC ⟨by omega, by omega⟩ dX5_hasValue_21 (by decide) (fun c_12 => ?_) (fun c_12 => ?_)
    · replace hz_11r := (hz_11r.resolve_left (fun q9 => c_12 q9.1)).2
      refine x_const hC dX5_hasValue_37 ?_
      exact x_zret hC hw (by omega) dX5_hasValue_38 (by first | decide | omega) (by first | decide | omega) ⟨0, thk_10, rfl, by omega, Or.inr ⟨by omega, by omega, MGm.of hRk_10 hK⟩⟩
    · replace hz_11r := (hz_11r.resolve_right (fun q9 => absurd (q9.1.symm.trans c_12) (by decide))).2
      replace hz_8b := hz_8b.mp hz_11r.2.2
      refine lv_aload_n hC.1 hC.2.1 dX5_hasValue_24 rfl (lv_at hl 0 rfl) ?_
      refine lv_iload_n hC.1 hC.2.1 dX5_hasValue_25 rfl (lv_at hl 1 rfl) ?_
      refine lv_iload_n hC.1 hC.2.1 dX5_hasValue_26 rfl (lv_at hl 2 rfl) ?_
      refine x_callV hC hw (lv_size hl) (c_X5_having l G hRk_10 (p0 := p0) (by first | assumption | omega) (p1 := p1) (by first | assumption | omega) (by omega)) gX5_hasValue_X5_having rfl dv_X5_having hRk_10.1.1 rfl rfl (Nat.le_of_ble_eq_true rfl) (by rw [hRf]; decide) (by rw [hRl]; decide) (by first | (rw [hRc]; decide) | omega) (by first | (rw [hRs]; decide) | omega) dX5_hasValue_27 (fun r9 M_13 H locs hq hw => ?_)
      obtain ⟨z_14, rfl, hM9, hz_14a, hz_14c⟩ := hq
      rw [hM9] at hw
      show W p l e R s m args below meth c H locs _ _ _ (F0 m 30 ls [.int (iN (z_14))])
      refine x_if_le (tgt := 37) hC ⟨by omega, by omega⟩ dX5_hasValue_30 (by decide) (fun c_15 => ?_) (fun c_15 => ?_)
      · refine x_const hC dX5_hasValue_37 ?_
        exact x_zret hC hw (by omega) dX5_hasValue_38 (by first | decide | omega) (by first | decide | omega) ⟨0, thk_10, rfl, by omega, Or.inl ⟨by omega, ⟨⟨(by first | omega | trivial), (by first | omega | trivial)⟩, ⟨(by first | omega | trivial), (by first | omega | trivial)⟩⟩, (show _ = (if cvN (V (p0).toNat) p1 100 = 0 then 0 else 1) by have e9 := hz_14c; omega), MGm.of hRk_10 hK⟩⟩
      · refine x_const hC dX5_hasValue_33 ?_
        refine lv_goto (tgt := 38) hC.1 hC.2.1 dX5_hasValue_34 (by decide) ?_
        exact x_zret hC hw (by omega) dX5_hasValue_38 (by first | decide | omega) (by first | decide | omega) ⟨1, thk_10, rfl, by omega, Or.inl ⟨by omega, ⟨⟨(by first | omega | trivial), (by first | omega | trivial)⟩, ⟨(by first | omega | trivial), (by first | omega | trivial)⟩⟩, (show _ = (if cvN (V (p0).toNat) p1 100 = 0 then 0 else 1) by have e9 := hz_14c; omega), MGm.of hRk_10 hK⟩⟩
set_option maxHeartbeats 4000000 in
set_option maxRecDepth 100000 in
theorem c_X5_valueOf (l : Launch) (G : xG) {M : HM} {a va oa wa ya : Nat} {wk : Option Nat} {th : Int} {rfd : Int32} {br re la ha : Int} {kp kv : Int32} {qv qw : Nat → Nat} {fa fb : Nat → Option Nat} {V : BW} {O : OW} {fy : Nat → Option Nat} {Wv : VW} {wt : Option VT} {S : Nat → Bool} (hR : MGx G M a va oa wa ya wk th rfd br re la ha kp kv qv qw fa fb V O fy Wv wt S) {p0 : Int} (hp0 : -2147483648 ≤ p0 ∧ p0 ≤ 2147483647) {p1 : Int} (hp1 : -2147483648 ≤ p1 ∧ p1 ≤ 2147483647) (hob : 0 ≤ p0 ∧ p0 ≤ 2) (hok : p1 = -10000 ∨ (0 ≤ p1 ∧ p1 ≤ 99)) : xMet l G yX5_valueOf wsX5_valueOf 0 0 0 0 [.ref a, .int (iN (p0)), .int (iN (p1))] M (fun r M1 => ∃ z : Int, r = some (.int (iN z)) ∧ M1 = M ∧ (-10000 ≤ z ∧ z ≤ 9999) ∧ z = vlF (V p0.toNat) p1) := by
  refine x_intro (cc := cX5_valueOf) (maxL := 3) (ret := (some .int)) (by exact pln_RX5) rfl (Nat.le_of_ble_eq_true rfl) ?_
  intro p e R s m args below meth c ls hRf hRc hRs hRl hC hw hl
  have hsc0 := hR.sc.1
  have hinX5 : ∀ w ∈ wsX50, w ∈ wsX5_valueOf := fun w h => (List.mem_cons_of_mem _ (List.mem_append_right _ h))
  have hl : lv_has ls 3 [(0, .ref a), (1, .int (iN (p0))), (2, .int (iN (p1)))] := hl
  refine lv_iload_n hC.1 hC.2.1 dX5_valueOf_0 rfl (lv_at hl 2 rfl) ?_
  refine x_sipush hC dX5_valueOf_1 (by decide +kernel) ?_
  refine x_icmp_ne (tgt := 13) hC ⟨by omega, by omega⟩ ⟨by omega, by omega⟩ dX5_valueOf_4 (by decide) (fun c_1 => ?_) (fun c_1 => ?_)
  · refine lv_aload_n hC.1 hC.2.1 dX5_valueOf_13 rfl (lv_at hl 0 rfl) ?_
    refine x_get hC hw hR.1.1 rfl hinX5 2 (by decide) (List.mem_cons_of_mem _ (List.mem_append_left _ (List.mem_of_getElem? (i := 0) rfl))) rfl dX5_valueOf_14 ?_
    refine lv_iload_n hC.1 hC.2.1 dX5_valueOf_17 rfl (lv_at hl 1 rfl) ?_
    refine x_ald4 hC hw hR.1.2.1 (by omega) (by omega) (by omega) dX5_valueOf_18 ?_
    rw [hR.fa' (show (p0).toNat < 3 from tn_lt (by omega) (by decide))]
    show W p l e R s m args below meth c _ _ _ _ _ (F0 m 19 ls [.ref (qv ((p0).toNat))])
    refine lv_iload_n hC.1 hC.2.1 dX5_valueOf_19 rfl (lv_at hl 2 rfl) ?_
    refine x_ialdE (x := (V ((p0).toNat) ((p1).toNat))) hC hw (hR.rv (show ((p0).toNat) < 3 from tn_lt (by omega) (by decide))) (by omega) (by omega) (by omega) dX5_valueOf_20 rfl ?_
    have hrv_2 := hR.vr (show ((p0).toNat) < 3 from tn_lt (by omega) (by decide)) (show (p1).toNat < 100 from tn_lt (by omega) (by decide))
    have hpv_2 := hR.vs (show ((p0).toNat) < 3 from tn_lt (by omega) (by decide)) (show (p1).toNat < 100 from tn_lt (by omega) (by decide))
    exact x_iret hC hw dX5_valueOf_21 (by first | decide | omega) (by first | decide | omega) ⟨(V ((p0).toNat) ((p1).toNat)), rfl, rfl, by omega, (by rw [vlF]; first | (rw [if_pos (by omega)]; done) | (rw [if_neg (by omega)]; done))⟩
  · refine x_sipush hC dX5_valueOf_7 (by decide +kernel) ?_
    refine lv_goto (tgt := 21) hC.1 hC.2.1 dX5_valueOf_10 (by decide) ?_
    exact x_iret hC hw dX5_valueOf_21 (by first | decide | omega) (by first | decide | omega) ⟨(-10000), rfl, rfl, by omega, (by rw [vlF]; first | (rw [if_pos (by omega)]; done) | (rw [if_neg (by omega)]; done))⟩
set_option maxHeartbeats 4000000 in
set_option maxRecDepth 100000 in
theorem c_X5_unlike (l : Launch) (G : xG) {M : HM} {a va oa wa ya : Nat} {wk : Option Nat} {th : Int} {rfd : Int32} {br re la ha : Int} {kp kv : Int32} {qv qw : Nat → Nat} {fa fb : Nat → Option Nat} {V : BW} {O : OW} {fy : Nat → Option Nat} {Wv : VW} {wt : Option VT} {S : Nat → Bool} (hR : MGx G M a va oa wa ya wk th rfd br re la ha kp kv qv qw fa fb V O fy Wv wt S) {p0 : Int} (hp0 : -2147483648 ≤ p0 ∧ p0 ≤ 2147483647) (hob : 0 ≤ p0 ∧ p0 ≤ 2) : xMet l G yX5_unlike wsX5_unlike 1 20 0 0 [.ref a, .int (iN (p0))] M (fun r M1 => ∃ z : Int, r = some (.int (iN z)) ∧ M1 = M ∧ (0 ≤ z ∧ z ≤ 100) ∧ z = unF (V p0.toNat) 100) := by
  refine x_intro (cc := cX5_unlike) (maxL := 6) (ret := (some .int)) (by exact pln_RX5) rfl (Nat.le_of_ble_eq_true rfl) ?_
  intro p e R s m args below meth c ls hRf hRc hRs hRl hC hw hl
  have hsc0 := hR.sc.1
  have hinX5 : ∀ w ∈ wsX50, w ∈ wsX5_unlike := fun w h => (List.mem_cons_of_mem _ (List.mem_append_right _ h))
  have hl : lv_has ls 6 [(0, .ref a), (1, .int (iN (p0)))] := hl
  refine x_const hC dX5_unlike_0 ?_
  refine lv_istore_n (lv' := [(2, .int (iN (0))), (0, .ref a), (1, .int (iN (p0)))]) hC.1 hC.2.1 dX5_unlike_1 rfl hl (by decide) rfl (fun ls hl => ?_)
  refine x_const hC dX5_unlike_2 ?_
  refine lv_istore_n (lv' := [(3, .int (iN (0))), (2, .int (iN (0))), (0, .ref a), (1, .int (iN (p0)))]) hC.1 hC.2.1 dX5_unlike_3 rfl hl (by decide) rfl (fun ls hl => ?_)
  suffices hloop4 : ∀ (n9 : Nat) (n : Int) (j : Int) (H : Heap) (locs : List Loc) (ls : Array Slot), (hmz4 : (100 - j).toNat < n9) → (hi0 : 0 ≤ j ∧ j ≤ 100) → (hi1 : 0 ≤ n ∧ n ≤ j) → (hcn : n = unF (V (p0).toNat) (j).toNat) → xD G (xA M s.heap.size) s M H locs → lv_has ls 6 [(0, .ref a), (1, .int (iN (p0))), (2, .int (iN (n))), (3, .int (iN (j)))] → W p l e R s m args below meth c H locs _ _ _ (F0 m 4 ls []) by
    exact hloop4 _ 0 0  _ _ _ (Nat.lt_succ_self _) (by omega) (by omega) (rfl) hw (lv_sub hl [2, 3, 1, 0] rfl)
  intro n9
  induction n9 with
  | zero => intro n j  H locs ls hmz; exact absurd hmz (Nat.not_lt_zero _)
  | succ n9 ih4 =>
    intro n j  H locs ls hmz4 hi0 hi1 hcn hw hl
    refine lv_iload_n hC.1 hC.2.1 dX5_unlike_4 rfl (lv_at hl 3 rfl) ?_
    refine x_bipush hC dX5_unlike_5 (by decide +kernel) ?_
    refine x_icmp_ge (tgt := 97) hC ⟨by omega, by omega⟩ ⟨by omega, by omega⟩ dX5_unlike_7 (by decide) (fun c_1 => ?_) (fun c_1 => ?_)
    · refine lv_iload_n hC.1 hC.2.1 dX5_unlike_97 rfl (lv_at hl 2 rfl) ?_
      exact x_iret hC hw dX5_unlike_98 (by first | decide | omega) (by first | decide | omega) ⟨n, rfl, rfl, by omega, by rw [show (100 : Nat) = (j).toNat from (tn_eq (by omega)).symm]; exact hcn⟩
    · refine x_const hC dX5_unlike_10 ?_
      refine lv_istore (lv' := [(4, .int (iN (0))), (0, .ref a), (1, .int (iN (p0))), (2, .int (iN (n))), (3, .int (iN (j)))]) hC.1 hC.2.1 dX5_unlike_11 hl (by decide) rfl (fun ls hl => ?_)
      refine lv_iload_n hC.1 hC.2.1 dX5_unlike_13 rfl (lv_at hl 4 rfl) ?_
      refine x_const hC dX5_unlike_14 ?_
      refine x_iadd hC dX5_unlike_15 ?_
      refine lv_istore (lv' := [(5, .int (iN (j + 1))), (4, .int (iN (0))), (0, .ref a), (1, .int (iN (p0))), (2, .int (iN (n))), (3, .int (iN (j)))]) hC.1 hC.2.1 dX5_unlike_16 hl (by decide) rfl (fun ls hl => ?_)
      suffices hloop18 : ∀ (n9 : Nat) (mo : Int) (h : Int) (H : Heap) (locs : List Loc) (ls : Array Slot), (hmz18 : (100 - h).toNat < n9) → (hi2 : 0 ≤ h ∧ h ≤ 100 ∧ j < h) → (hi3 : mo = 0 ∨ mo = 1) → (hla : mo = 0 ↔ laF (V (p0).toNat) (j).toNat (h).toNat = 0) → xD G (xA M s.heap.size) s M H locs → lv_has ls 6 [(0, .ref a), (1, .int (iN (p0))), (2, .int (iN (n))), (3, .int (iN (j))), (4, .int (iN (mo))), (5, .int (iN (h)))] → W p l e R s m args below meth c H locs _ _ _ (F0 m 18 ls []) by
        exact hloop18 _ 0 (j + 1)  _ _ _ (Nat.lt_succ_self _) (by omega) (by omega) (by rw [laF_init (by omega)]; first | done | omega) hw (lv_sub hl [2, 3, 4, 5, 1, 0] rfl)
      intro n9
      induction n9 with
      | zero => intro mo h  H locs ls hmz; exact absurd hmz (Nat.not_lt_zero _)
      | succ n9 ih18 =>
        intro mo h  H locs ls hmz18 hi2 hi3 hla hw hl
        refine lv_iload hC.1 hC.2.1 dX5_unlike_18 (lv_at hl 5 rfl) ?_
        refine x_bipush hC dX5_unlike_20 (by decide +kernel) ?_
        refine x_icmp_ge (tgt := 61) hC ⟨by omega, by omega⟩ ⟨by omega, by omega⟩ dX5_unlike_22 (by decide) (fun c_2 => ?_) (fun c_2 => ?_)
        · refine lv_iload_n hC.1 hC.2.1 dX5_unlike_61 rfl (lv_at hl 2 rfl) ?_
          refine lv_aload_n hC.1 hC.2.1 dX5_unlike_62 rfl (lv_at hl 0 rfl) ?_
          refine x_get hC hw hR.1.1 rfl hinX5 2 (by decide) (List.mem_cons_of_mem _ (List.mem_append_left _ (List.mem_of_getElem? (i := 0) rfl))) rfl dX5_unlike_63 ?_
          refine lv_iload_n hC.1 hC.2.1 dX5_unlike_66 rfl (lv_at hl 1 rfl) ?_
          refine x_ald4 hC hw hR.1.2.1 (by omega) (by omega) (by omega) dX5_unlike_67 ?_
          rw [hR.fa' (show (p0).toNat < 3 from tn_lt (by omega) (by decide))]
          show W p l e R s m args below meth c _ _ _ _ _ (F0 m 68 ls [.ref (qv ((p0).toNat)), .int (iN (n))])
          refine lv_iload_n hC.1 hC.2.1 dX5_unlike_68 rfl (lv_at hl 3 rfl) ?_
          refine x_ialdE (x := (V ((p0).toNat) ((j).toNat))) hC hw (hR.rv (show ((p0).toNat) < 3 from tn_lt (by omega) (by decide))) (by omega) (by omega) (by omega) dX5_unlike_69 rfl ?_
          have hrv_3 := hR.vr (show ((p0).toNat) < 3 from tn_lt (by omega) (by decide)) (show (j).toNat < 100 from tn_lt (by omega) (by decide))
          have hpv_3 := hR.vs (show ((p0).toNat) < 3 from tn_lt (by omega) (by decide)) (show (j).toNat < 100 from tn_lt (by omega) (by decide))
          refine x_sipush hC dX5_unlike_70 (by decide +kernel) ?_
          refine x_icmp_eq (tgt := 85) hC ⟨by omega, by omega⟩ ⟨by omega, by omega⟩ dX5_unlike_73 (by decide) (fun c_4 => ?_) (fun c_4 => ?_)
          · refine x_const hC dX5_unlike_85 ?_
            refine x_callS hC hw (lv_size hl) (c_X5_one l G (M := M) (p0 := 0) (by omega)) gX5_unlike_X5_one rfl dv_X5_one_s rfl (Nat.le_of_ble_eq_true rfl) (by rw [hRf]; decide) (by rw [hRl]; decide) (by first | (rw [hRc]; decide) | omega) (by first | (rw [hRs]; decide) | omega) dX5_unlike_86 (fun r9 M_5 H locs hq hw => ?_)
            obtain ⟨z_6, rfl, hM9, hz_6a, hz_6b⟩ := hq
            rw [hM9] at hw
            show W p l e R s m args below meth c H locs _ _ _ (F0 m 89 ls [.int (iN (z_6)), .int (iN (n))])
            refine x_iadd hC dX5_unlike_89 ?_
            refine lv_istore_n (lv' := [(2, .int (iN (n + z_6))), (0, .ref a), (1, .int (iN (p0))), (3, .int (iN (j))), (4, .int (iN (mo))), (5, .int (iN (h)))]) hC.1 hC.2.1 dX5_unlike_90 rfl hl (by decide) rfl (fun ls hl => ?_)
            refine x_iinc (lv' := [(3, .int (iN (j + 1))), (2, .int (iN (n + z_6))), (0, .ref a), (1, .int (iN (p0))), (4, .int (iN (mo))), (5, .int (iN (h)))]) hC dX5_unlike_91 hl (k := 3) rfl (by decide) rfl (fun ls hl => ?_)
            refine lv_goto (tgt := 4) hC.1 hC.2.1 dX5_unlike_94 (by decide) ?_
            exact ih4 (n + z_6) (j + 1)  _ _ _ (by first | exact mu_s hmz4 (by omega) | omega) (by omega) (by omega) (by rw [unF_s (by omega) rfl, show (100 : Nat) = (h).toNat from (tn_eq (by omega)).symm]; have e8 := laF_nn (V (p0).toNat) (j).toNat (h).toNat; omega) hw (lv_sub hl [2, 3, 1, 0] rfl)
          · refine lv_iload hC.1 hC.2.1 dX5_unlike_76 (lv_at hl 4 rfl) ?_
            refine x_if_ne (tgt := 85) hC ⟨by omega, by omega⟩ dX5_unlike_78 (by decide) (fun c_7 => ?_) (fun c_7 => ?_)
            · refine x_const hC dX5_unlike_85 ?_
              refine x_callS hC hw (lv_size hl) (c_X5_one l G (M := M) (p0 := 0) (by omega)) gX5_unlike_X5_one rfl dv_X5_one_s rfl (Nat.le_of_ble_eq_true rfl) (by rw [hRf]; decide) (by rw [hRl]; decide) (by first | (rw [hRc]; decide) | omega) (by first | (rw [hRs]; decide) | omega) dX5_unlike_86 (fun r9 M_8 H locs hq hw => ?_)
              obtain ⟨z_9, rfl, hM9, hz_9a, hz_9b⟩ := hq
              rw [hM9] at hw
              show W p l e R s m args below meth c H locs _ _ _ (F0 m 89 ls [.int (iN (z_9)), .int (iN (n))])
              refine x_iadd hC dX5_unlike_89 ?_
              refine lv_istore_n (lv' := [(2, .int (iN (n + z_9))), (0, .ref a), (1, .int (iN (p0))), (3, .int (iN (j))), (4, .int (iN (mo))), (5, .int (iN (h)))]) hC.1 hC.2.1 dX5_unlike_90 rfl hl (by decide) rfl (fun ls hl => ?_)
              refine x_iinc (lv' := [(3, .int (iN (j + 1))), (2, .int (iN (n + z_9))), (0, .ref a), (1, .int (iN (p0))), (4, .int (iN (mo))), (5, .int (iN (h)))]) hC dX5_unlike_91 hl (k := 3) rfl (by decide) rfl (fun ls hl => ?_)
              refine lv_goto (tgt := 4) hC.1 hC.2.1 dX5_unlike_94 (by decide) ?_
              exact ih4 (n + z_9) (j + 1)  _ _ _ (by first | exact mu_s hmz4 (by omega) | omega) (by omega) (by omega) (by rw [unF_s (by omega) rfl, show (100 : Nat) = (h).toNat from (tn_eq (by omega)).symm]; have e8 := laF_nn (V (p0).toNat) (j).toNat (h).toNat; omega) hw (lv_sub hl [2, 3, 1, 0] rfl)
            · refine x_const hC dX5_unlike_81 ?_
              refine lv_goto (tgt := 86) hC.1 hC.2.1 dX5_unlike_82 (by decide) ?_
              refine x_callS hC hw (lv_size hl) (c_X5_one l G (M := M) (p0 := 1) (by omega)) gX5_unlike_X5_one rfl dv_X5_one_s rfl (Nat.le_of_ble_eq_true rfl) (by rw [hRf]; decide) (by rw [hRl]; decide) (by first | (rw [hRc]; decide) | omega) (by first | (rw [hRs]; decide) | omega) dX5_unlike_86 (fun r9 M_10 H locs hq hw => ?_)
              obtain ⟨z_11, rfl, hM9, hz_11a, hz_11b⟩ := hq
              rw [hM9] at hw
              show W p l e R s m args below meth c H locs _ _ _ (F0 m 89 ls [.int (iN (z_11)), .int (iN (n))])
              refine x_iadd hC dX5_unlike_89 ?_
              refine lv_istore_n (lv' := [(2, .int (iN (n + z_11))), (0, .ref a), (1, .int (iN (p0))), (3, .int (iN (j))), (4, .int (iN (mo))), (5, .int (iN (h)))]) hC.1 hC.2.1 dX5_unlike_90 rfl hl (by decide) rfl (fun ls hl => ?_)
              refine x_iinc (lv' := [(3, .int (iN (j + 1))), (2, .int (iN (n + z_11))), (0, .ref a), (1, .int (iN (p0))), (4, .int (iN (mo))), (5, .int (iN (h)))]) hC dX5_unlike_91 hl (k := 3) rfl (by decide) rfl (fun ls hl => ?_)
              refine lv_goto (tgt := 4) hC.1 hC.2.1 dX5_unlike_94 (by decide) ?_
              exact ih4 (n + z_11) (j + 1)  _ _ _ (by first | exact mu_s hmz4 (by omega) | omega) (by omega) (by omega) (by rw [unF_s (by omega) rfl, show (100 : Nat) = (h).toNat from (tn_eq (by omega)).symm]; have e8 := laF_nn (V (p0).toNat) (j).toNat (h).toNat; omega) hw (lv_sub hl [2, 3, 1, 0] rfl)
        · refine lv_iload hC.1 hC.2.1 dX5_unlike_25 (lv_at hl 4 rfl) ?_
          refine lv_aload_n hC.1 hC.2.1 dX5_unlike_27 rfl (lv_at hl 0 rfl) ?_
          refine x_get hC hw hR.1.1 rfl hinX5 2 (by decide) (List.mem_cons_of_mem _ (List.mem_append_left _ (List.mem_of_getElem? (i := 0) rfl))) rfl dX5_unlike_28 ?_
          refine lv_iload_n hC.1 hC.2.1 dX5_unlike_31 rfl (lv_at hl 1 rfl) ?_
          refine x_ald4 hC hw hR.1.2.1 (by omega) (by omega) (by omega) dX5_unlike_32 ?_
          rw [hR.fa' (show (p0).toNat < 3 from tn_lt (by omega) (by decide))]
          show W p l e R s m args below meth c _ _ _ _ _ (F0 m 33 ls [.ref (qv ((p0).toNat)), .int (iN (mo))])
          refine lv_iload hC.1 hC.2.1 dX5_unlike_33 (lv_at hl 5 rfl) ?_
          refine x_ialdE (x := (V ((p0).toNat) ((h).toNat))) hC hw (hR.rv (show ((p0).toNat) < 3 from tn_lt (by omega) (by decide))) (by omega) (by omega) (by omega) dX5_unlike_35 rfl ?_
          have hrv_12 := hR.vr (show ((p0).toNat) < 3 from tn_lt (by omega) (by decide)) (show (h).toNat < 100 from tn_lt (by omega) (by decide))
          have hpv_12 := hR.vs (show ((p0).toNat) < 3 from tn_lt (by omega) (by decide)) (show (h).toNat < 100 from tn_lt (by omega) (by decide))
          refine lv_aload_n hC.1 hC.2.1 dX5_unlike_36 rfl (lv_at hl 0 rfl) ?_
          refine x_get hC hw hR.1.1 rfl hinX5 2 (by decide) (List.mem_cons_of_mem _ (List.mem_append_left _ (List.mem_of_getElem? (i := 0) rfl))) rfl dX5_unlike_37 ?_
          refine lv_iload_n hC.1 hC.2.1 dX5_unlike_40 rfl (lv_at hl 1 rfl) ?_
          refine x_ald4 hC hw hR.1.2.1 (by omega) (by omega) (by omega) dX5_unlike_41 ?_
          rw [hR.fa' (show (p0).toNat < 3 from tn_lt (by omega) (by decide))]
          show W p l e R s m args below meth c _ _ _ _ _ (F0 m 42 ls [.ref (qv ((p0).toNat)), .int (iN ((V ((p0).toNat) ((h).toNat)))), .int (iN (mo))])
          refine lv_iload_n hC.1 hC.2.1 dX5_unlike_42 rfl (lv_at hl 3 rfl) ?_
          refine x_ialdE (x := (V ((p0).toNat) ((j).toNat))) hC hw (hR.rv (show ((p0).toNat) < 3 from tn_lt (by omega) (by decide))) (by omega) (by omega) (by omega) dX5_unlike_43 rfl ?_
          have hrv_13 := hR.vr (show ((p0).toNat) < 3 from tn_lt (by omega) (by decide)) (show (j).toNat < 100 from tn_lt (by omega) (by decide))
          have hpv_13 := hR.vs (show ((p0).toNat) < 3 from tn_lt (by omega) (by decide)) (show (j).toNat < 100 from tn_lt (by omega) (by decide))
          refine x_icmp_ne (tgt := 51) hC ⟨by omega, by omega⟩ ⟨by omega, by omega⟩ dX5_unlike_44 (by decide) (fun c_14 => ?_) (fun c_14 => ?_)
          · refine x_const hC dX5_unlike_51 ?_
            refine x_iorB hC (by omega) (by omega) dX5_unlike_52 (fun z_15 hrz_15 => ?_)
            refine lv_istore (lv' := [(4, .int (iN (z_15))), (0, .ref a), (1, .int (iN (p0))), (2, .int (iN (n))), (3, .int (iN (j))), (5, .int (iN (h)))]) hC.1 hC.2.1 dX5_unlike_53 hl (by decide) rfl (fun ls hl => ?_)
            refine x_iinc (lv' := [(5, .int (iN (h + 1))), (4, .int (iN (z_15))), (0, .ref a), (1, .int (iN (p0))), (2, .int (iN (n))), (3, .int (iN (j)))]) hC dX5_unlike_55 hl (k := 5) rfl (by decide) rfl (fun ls hl => ?_)
            refine lv_goto (tgt := 18) hC.1 hC.2.1 dX5_unlike_58 (by decide) ?_
            exact ih18 z_15 (h + 1)  _ _ _ (by first | exact mu_s hmz18 (by omega) | omega) (by omega) (by omega) (by have e9 := laF_nn (V (p0).toNat) (j).toNat (h).toNat; rw [laF_s (by omega) rfl]; omega) hw (lv_sub hl [2, 3, 4, 5, 1, 0] rfl)
          · refine x_const hC dX5_unlike_47 ?_
            refine lv_goto (tgt := 52) hC.1 hC.2.1 dX5_unlike_48 (by decide) ?_
            refine x_iorB hC (by omega) (by omega) dX5_unlike_52 (fun z_16 hrz_16 => ?_)
            refine lv_istore (lv' := [(4, .int (iN (z_16))), (0, .ref a), (1, .int (iN (p0))), (2, .int (iN (n))), (3, .int (iN (j))), (5, .int (iN (h)))]) hC.1 hC.2.1 dX5_unlike_53 hl (by decide) rfl (fun ls hl => ?_)
            refine x_iinc (lv' := [(5, .int (iN (h + 1))), (4, .int (iN (z_16))), (0, .ref a), (1, .int (iN (p0))), (2, .int (iN (n))), (3, .int (iN (j)))]) hC dX5_unlike_55 hl (k := 5) rfl (by decide) rfl (fun ls hl => ?_)
            refine lv_goto (tgt := 18) hC.1 hC.2.1 dX5_unlike_58 (by decide) ?_
            exact ih18 z_16 (h + 1)  _ _ _ (by first | exact mu_s hmz18 (by omega) | omega) (by omega) (by omega) (by have e9 := laF_nn (V (p0).toNat) (j).toNat (h).toNat; rw [laF_s (by omega) rfl]; omega) hw (lv_sub hl [2, 3, 4, 5, 1, 0] rfl)
set_option maxHeartbeats 4000000 in
set_option maxRecDepth 100000 in
theorem c_X5_viewsOf (l : Launch) (G : xG) {M : HM} {a va oa wa ya : Nat} {wk : Option Nat} {th : Int} {rfd : Int32} {br re la ha : Int} {kp kv : Int32} {qv qw : Nat → Nat} {fa fb : Nat → Option Nat} {V : BW} {O : OW} {fy : Nat → Option Nat} {Wv : VW} {wt : Option VT} {S : Nat → Bool} (hR : MGx G M a va oa wa ya wk th rfd br re la ha kp kv qv qw fa fb V O fy Wv wt S) {p0 : Int} (hp0 : -2147483648 ≤ p0 ∧ p0 ≤ 2147483647) (hob : 0 ≤ p0 ∧ p0 ≤ 2) : xMet l G yX5_viewsOf wsX5_viewsOf 1 20 0 0 [.ref a, .int (iN (p0))] M (fun r M1 => ∃ z : Int, r = some (.int (iN z)) ∧ M1 = M ∧ (0 ≤ z ∧ z ≤ 4) ∧ z = vwN Wv p0.toNat 4) := by
  refine x_intro (cc := cX5_viewsOf) (maxL := 7) (ret := (some .int)) (by exact pln_RX5) rfl (Nat.le_of_ble_eq_true rfl) ?_
  intro p e R s m args below meth c ls hRf hRc hRs hRl hC hw hl
  have hsc0 := hR.sc.1
  have hinX5 : ∀ w ∈ wsX50, w ∈ wsX5_viewsOf := fun w h => (List.mem_cons_of_mem _ (List.mem_append_right _ h))
  have hl : lv_has ls 7 [(0, .ref a), (1, .int (iN (p0)))] := hl
  refine x_const hC dX5_viewsOf_0 ?_
  refine lv_istore_n (lv' := [(2, .int (iN (0))), (0, .ref a), (1, .int (iN (p0)))]) hC.1 hC.2.1 dX5_viewsOf_1 rfl hl (by decide) rfl (fun ls hl => ?_)
  refine lv_aload_n hC.1 hC.2.1 dX5_viewsOf_2 rfl (lv_at hl 1 rfl) ?_
  refine x_get hC hw hR.1.1 rfl hinX5 5 (by decide) (List.mem_cons_of_mem _ (List.mem_append_left _ (List.mem_of_getElem? (i := 0) rfl))) rfl dX5_viewsOf_3 ?_
  refine lv_astore_n (lv' := [(3, .ref ya), (2, .int (iN (0))), (0, .ref a), (1, .int (iN (p0)))]) hC.1 hC.2.1 dX5_viewsOf_6 rfl hl (by decide) rfl (fun ls hl => ?_)
  refine lv_aload_n hC.1 hC.2.1 dX5_viewsOf_7 rfl (lv_at hl 0 rfl) ?_
  refine x_alen hC hw 4 hR.1.2.2.2.2.1 rfl dX5_viewsOf_8 ?_
  refine lv_istore (lv' := [(4, .int (iN (4))), (3, .ref ya), (2, .int (iN (0))), (0, .ref a), (1, .int (iN (p0)))]) hC.1 hC.2.1 dX5_viewsOf_9 hl (by decide) rfl (fun ls hl => ?_)
  refine x_const hC dX5_viewsOf_11 ?_
  refine lv_istore (lv' := [(5, .int (iN (0))), (4, .int (iN (4))), (3, .ref ya), (2, .int (iN (0))), (0, .ref a), (1, .int (iN (p0)))]) hC.1 hC.2.1 dX5_viewsOf_12 hl (by decide) rfl (fun ls hl => ?_)
  suffices hloop14 : ∀ (n9 : Nat) (n : Int) (j : Int) (H : Heap) (locs : List Loc) (ls : Array Slot), (hmz14 : (4 - j).toNat < n9) → (hi0 : 0 ≤ j ∧ j ≤ 4) → (hi1 : 0 ≤ n ∧ n ≤ j) → (hcn : n = vwN Wv (p0).toNat (j).toNat) → xD G (xA M s.heap.size) s M H locs → lv_has ls 7 [(0, .ref a), (1, .int (iN (p0))), (2, .int (iN (n))), (3, .ref ya), (4, .int (iN (4))), (5, .int (iN (j)))] → W p l e R s m args below meth c H locs _ _ _ (F0 m 14 ls []) by
    exact hloop14 _ 0 0  _ _ _ (Nat.lt_succ_self _) (by omega) (by omega) (rfl) hw (lv_sub hl [4, 5, 3, 2, 1, 0] rfl)
  intro n9
  induction n9 with
  | zero => intro n j  H locs ls hmz; exact absurd hmz (Nat.not_lt_zero _)
  | succ n9 ih14 =>
    intro n j  H locs ls hmz14 hi0 hi1 hcn hw hl
    refine lv_iload hC.1 hC.2.1 dX5_viewsOf_14 (lv_at hl 5 rfl) ?_
    refine lv_iload hC.1 hC.2.1 dX5_viewsOf_16 (lv_at hl 4 rfl) ?_
    refine x_icmp_ge (tgt := 57) hC ⟨by omega, by omega⟩ ⟨by omega, by omega⟩ dX5_viewsOf_18 (by decide) (fun c_1 => ?_) (fun c_1 => ?_)
    · refine lv_iload_n hC.1 hC.2.1 dX5_viewsOf_57 rfl (lv_at hl 2 rfl) ?_
      exact x_iret hC hw dX5_viewsOf_58 (by first | decide | omega) (by first | decide | omega) ⟨n, rfl, rfl, by omega, by rw [show (4 : Nat) = (j).toNat from (tn_eq (by omega)).symm]; exact hcn⟩
    · refine lv_aload_n hC.1 hC.2.1 dX5_viewsOf_21 rfl (lv_at hl 3 rfl) ?_
      refine lv_iload hC.1 hC.2.1 dX5_viewsOf_22 (lv_at hl 5 rfl) ?_
      refine x_ald4 hC hw hR.1.2.2.2.2.1 (by omega) (by omega) (by omega) dX5_viewsOf_24 ?_
      rcases hy_3 : fy ((j).toNat) with _ | y_2
      · have hnhy_3 : Wv ((j).toNat) = none := (hR.vw (show (j).toNat < 4 from tn_lt (by omega) (by decide))).nil hy_3
        have hohy_3 := opN_none hnhy_3
        show W p l e R s m args below meth c _ _ _ _ _ (F0 m 25 ls [.null])
        refine lv_astoreN (lv' := [(6, .null), (0, .ref a), (1, .int (iN (p0))), (2, .int (iN (n))), (3, .ref ya), (4, .int (iN (4))), (5, .int (iN (j)))]) hC.1 hC.2.1 dX5_viewsOf_25 hl (by decide) rfl (fun ls hl => ?_)
        refine lv_iload_n hC.1 hC.2.1 dX5_viewsOf_27 rfl (lv_at hl 3 rfl) ?_
        refine lv_aloadN hC.1 hC.2.1 dX5_viewsOf_28 (lv_at hl 0 rfl) ?_
        refine lv_ifnullN (tgt := 45) hC.1 hC.2.1 dX5_viewsOf_30 (by decide) ?_
        refine x_const hC dX5_viewsOf_45 ?_
        refine x_callS hC hw (lv_size hl) (c_X5_one l G (M := M) (p0 := 0) (by omega)) gX5_viewsOf_X5_one rfl dv_X5_one_s rfl (Nat.le_of_ble_eq_true rfl) (by rw [hRf]; decide) (by rw [hRl]; decide) (by first | (rw [hRc]; decide) | omega) (by first | (rw [hRs]; decide) | omega) dX5_viewsOf_46 (fun r9 M_4 H locs hq hw => ?_)
        obtain ⟨z_5, rfl, hM9, hz_5a, hz_5b⟩ := hq
        rw [hM9] at hw
        show W p l e R s m args below meth c H locs _ _ _ (F0 m 49 ls [.int (iN (z_5)), .int (iN (n))])
        refine x_iadd hC dX5_viewsOf_49 ?_
        refine lv_istore_n (lv' := [(2, .int (iN (n + z_5))), (6, .null), (0, .ref a), (1, .int (iN (p0))), (3, .ref ya), (4, .int (iN (4))), (5, .int (iN (j)))]) hC.1 hC.2.1 dX5_viewsOf_50 rfl hl (by decide) rfl (fun ls hl => ?_)
        refine x_iinc (lv' := [(5, .int (iN (j + 1))), (2, .int (iN (n + z_5))), (6, .null), (0, .ref a), (1, .int (iN (p0))), (3, .ref ya), (4, .int (iN (4)))]) hC dX5_viewsOf_51 hl (k := 6) rfl (by decide) rfl (fun ls hl => ?_)
        refine lv_goto (tgt := 14) hC.1 hC.2.1 dX5_viewsOf_54 (by decide) ?_
        exact ih14 (n + z_5) (j + 1)  _ _ _ (by first | exact mu_s hmz14 (by omega) | omega) (by omega) (by omega) (by rw [vwN_s (by omega) (vbN_nil hnhy_3)]; omega) hw (lv_sub hl [3, 4, 1, 5, 6, 0] rfl)
      · obtain ⟨ti_6, fi_6, hui_6, hIi_6⟩ := (hR.vw (show (j).toNat < 4 from tn_lt (by omega) (by decide))).yes hy_3
        obtain ⟨htat_7, htbt_7, htct_7, htdt_7, htet_7⟩ := id hIi_6.2.1
        have hohy_3 := opN_some hui_6
        show W p l e R s m args below meth c _ _ _ _ _ (F0 m 25 ls [.ref y_2])
        refine lv_astore (lv' := [(6, .ref y_2), (0, .ref a), (1, .int (iN (p0))), (2, .int (iN (n))), (3, .ref ya), (4, .int (iN (4))), (5, .int (iN (j)))]) hC.1 hC.2.1 dX5_viewsOf_25 hl (by decide) rfl (fun ls hl => ?_)
        refine lv_iload_n hC.1 hC.2.1 dX5_viewsOf_27 rfl (lv_at hl 3 rfl) ?_
        refine lv_aload hC.1 hC.2.1 dX5_viewsOf_28 (lv_at hl 0 rfl) ?_
        refine lv_ifnull hC.1 hC.2.1 dX5_viewsOf_30 ?_
        refine lv_aload hC.1 hC.2.1 dX5_viewsOf_33 (lv_at hl 0 rfl) ?_
        refine x_const hC dX5_viewsOf_35 ?_
        refine x_ialdE (x := ((ti_6.b : Nat) : Int)) hC hw hIi_6.1 (by omega) (by omega) (by omega) dX5_viewsOf_36 hIi_6.2.2.1 ?_
        refine lv_iload_n hC.1 hC.2.1 dX5_viewsOf_37 rfl (lv_at hl 2 rfl) ?_
        refine x_icmp_ne (tgt := 45) hC ⟨by omega, by omega⟩ ⟨by omega, by omega⟩ dX5_viewsOf_38 (by decide) (fun c_8 => ?_) (fun c_8 => ?_)
        · refine x_const hC dX5_viewsOf_45 ?_
          refine x_callS hC hw (lv_size hl) (c_X5_one l G (M := M) (p0 := 0) (by omega)) gX5_viewsOf_X5_one rfl dv_X5_one_s rfl (Nat.le_of_ble_eq_true rfl) (by rw [hRf]; decide) (by rw [hRl]; decide) (by first | (rw [hRc]; decide) | omega) (by first | (rw [hRs]; decide) | omega) dX5_viewsOf_46 (fun r9 M_9 H locs hq hw => ?_)
          obtain ⟨z_10, rfl, hM9, hz_10a, hz_10b⟩ := hq
          rw [hM9] at hw
          show W p l e R s m args below meth c H locs _ _ _ (F0 m 49 ls [.int (iN (z_10)), .int (iN (n))])
          refine x_iadd hC dX5_viewsOf_49 ?_
          refine lv_istore_n (lv' := [(2, .int (iN (n + z_10))), (6, .ref y_2), (0, .ref a), (1, .int (iN (p0))), (3, .ref ya), (4, .int (iN (4))), (5, .int (iN (j)))]) hC.1 hC.2.1 dX5_viewsOf_50 rfl hl (by decide) rfl (fun ls hl => ?_)
          refine x_iinc (lv' := [(5, .int (iN (j + 1))), (2, .int (iN (n + z_10))), (6, .ref y_2), (0, .ref a), (1, .int (iN (p0))), (3, .ref ya), (4, .int (iN (4)))]) hC dX5_viewsOf_51 hl (k := 6) rfl (by decide) rfl (fun ls hl => ?_)
          refine lv_goto (tgt := 14) hC.1 hC.2.1 dX5_viewsOf_54 (by decide) ?_
          exact ih14 (n + z_10) (j + 1)  _ _ _ (by first | exact mu_s hmz14 (by omega) | omega) (by omega) (by omega) (by rw [vwN_s (by omega) (vbN_ne hui_6 (by omega))]; omega) hw (lv_sub hl [3, 4, 1, 5, 6, 0] rfl)
        · refine x_const hC dX5_viewsOf_41 ?_
          refine lv_goto (tgt := 46) hC.1 hC.2.1 dX5_viewsOf_42 (by decide) ?_
          refine x_callS hC hw (lv_size hl) (c_X5_one l G (M := M) (p0 := 1) (by omega)) gX5_viewsOf_X5_one rfl dv_X5_one_s rfl (Nat.le_of_ble_eq_true rfl) (by rw [hRf]; decide) (by rw [hRl]; decide) (by first | (rw [hRc]; decide) | omega) (by first | (rw [hRs]; decide) | omega) dX5_viewsOf_46 (fun r9 M_11 H locs hq hw => ?_)
          obtain ⟨z_12, rfl, hM9, hz_12a, hz_12b⟩ := hq
          rw [hM9] at hw
          show W p l e R s m args below meth c H locs _ _ _ (F0 m 49 ls [.int (iN (z_12)), .int (iN (n))])
          refine x_iadd hC dX5_viewsOf_49 ?_
          refine lv_istore_n (lv' := [(2, .int (iN (n + z_12))), (6, .ref y_2), (0, .ref a), (1, .int (iN (p0))), (3, .ref ya), (4, .int (iN (4))), (5, .int (iN (j)))]) hC.1 hC.2.1 dX5_viewsOf_50 rfl hl (by decide) rfl (fun ls hl => ?_)
          refine x_iinc (lv' := [(5, .int (iN (j + 1))), (2, .int (iN (n + z_12))), (6, .ref y_2), (0, .ref a), (1, .int (iN (p0))), (3, .ref ya), (4, .int (iN (4)))]) hC dX5_viewsOf_51 hl (k := 6) rfl (by decide) rfl (fun ls hl => ?_)
          refine lv_goto (tgt := 14) hC.1 hC.2.1 dX5_viewsOf_54 (by decide) ?_
          exact ih14 (n + z_12) (j + 1)  _ _ _ (by first | exact mu_s hmz14 (by omega) | omega) (by omega) (by omega) (by rw [vwN_s (by omega) (vbN_eq hui_6 (by omega))]; omega) hw (lv_sub hl [3, 4, 1, 5, 6, 0] rfl)
set_option maxHeartbeats 4000000 in
set_option maxRecDepth 100000 in
theorem c_X5_bookTold (l : Launch) (G : xG) {M : HM} {a va oa wa ya : Nat} {wk : Option Nat} {th : Int} {rfd : Int32} {br re la ha : Int} {kp kv : Int32} {qv qw : Nat → Nat} {fa fb : Nat → Option Nat} {V : BW} {O : OW} {fy : Nat → Option Nat} {Wv : VW} {wt : Option VT} {S : Nat → Bool} (hR : MGx G M a va oa wa ya wk th rfd br re la ha kp kv qv qw fa fb V O fy Wv wt S) {p0 : Int} (hp0 : -2147483648 ≤ p0 ∧ p0 ≤ 2147483647) {p1 : Int} (hp1 : -2147483648 ≤ p1 ∧ p1 ≤ 2147483647) (hob : 0 ≤ p0 ∧ p0 ≤ 2) (how : 0 ≤ p1 ∧ p1 ≤ 8) : xMet l G yX5_bookTold wsX5_bookTold 5 115 1 5 [.ref a, .int (iN (p0)), .int (iN (p1))] M (fun r M1 => ∃ z : Int, r = some (.int (iN z)) ∧ xExt M M1 ∧ (-2147483648 ≤ z ∧ z ≤ 2147483647) ∧ z = A_ofBook (O, V, Wv, (none : WA), kp, kv, rfd) p0 p1) := by
  refine x_intro (cc := cX5_bookTold) (maxL := 4) (ret := (some .int)) (by exact pln_RX5) rfl (Nat.le_of_ble_eq_true rfl) ?_
  intro p e R s m args below meth c ls hRf hRc hRs hRl hC hw hl
  have hsc0 := hR.sc.1
  have hinX5 : ∀ w ∈ wsX50, w ∈ wsX5_bookTold := fun w h => (List.mem_cons_of_mem _ (List.mem_append_right _ h))
  have hl : lv_has ls 4 [(0, .ref a), (1, .int (iN (p0))), (2, .int (iN (p1)))] := hl
  refine lv_iload_n hC.1 hC.2.1 dX5_bookTold_0 rfl (lv_at hl 1 rfl) ?_
  refine x_callS hC hw (lv_size hl) (c_X5_whole l G (M := M) (p0 := p0) (by first | assumption | omega) (by omega)) gX5_bookTold_X5_whole rfl dv_X5_whole_s rfl (Nat.le_of_ble_eq_true rfl) (by rw [hRf]; decide) (by rw [hRl]; decide) (by first | (rw [hRc]; decide) | omega) (by first | (rw [hRs]; decide) | omega) dX5_bookTold_1 (fun r9 M_1 H locs hq hw => ?_)
  obtain ⟨qk_2, fk_2, rfl, hxk_2, hIk_2⟩ := hq
  have h_3 := hR.ext hxk_2
  obtain ⟨htat_4, htbt_4, htct_4, htdt_4, htet_4⟩ := id hIk_2.2.1
  have holk_2 := h_3.or' hIk_2.2.1.1
  show W p l e R s m args below meth c H locs _ _ _ (F0 m 4 ls [.ref qk_2])
  refine lv_astore_n (lv' := [(3, .ref qk_2), (0, .ref a), (1, .int (iN (p0))), (2, .int (iN (p1)))]) hC.1 hC.2.1 dX5_bookTold_4 rfl hl (by decide) rfl (fun ls hl => ?_)
  refine lv_iload_n hC.1 hC.2.1 dX5_bookTold_5 rfl (lv_at hl 3 rfl) ?_
  by_cases c_5 : p1 = 0
  · refine x_tsw (off := 46) (tgt := 52) (k := 0) hC (by omega) dX5_bookTold_6 (by decide) (by decide) rfl (by decide) ?_
    refine lv_aload_n hC.1 hC.2.1 dX5_bookTold_52 rfl (lv_at hl 1 rfl) ?_
    refine lv_aload_n hC.1 hC.2.1 dX5_bookTold_53 rfl (lv_at hl 0 rfl) ?_
    refine x_callV hC hw (lv_size hl) (c_X5_many l G h_3 hIk_2) gX5_bookTold_X5_many rfl dv_X5_many h_3.1.1 rfl rfl (Nat.le_of_ble_eq_true rfl) (by rw [hRf]; decide) (by rw [hRl]; decide) (by first | (rw [hRc]; decide) | omega) (by first | (rw [hRs]; decide) | omega) dX5_bookTold_54 (fun r9 M_6 H locs hq hw => ?_)
    obtain ⟨z_7, rfl, hM9, hz_7a, hz_7m⟩ := hq
    rw [hM9] at hw
    show W p l e R s m args below meth c H locs _ _ _ (F0 m 57 ls [.int (iN (z_7))])
    exact x_iret hC hw dX5_bookTold_57 (by first | decide | omega) (by first | decide | omega) ⟨z_7, rfl, hxk_2, by omega, (by have e5 : p1 = 0 := (by omega); rw [A_ofBook, e5, if_pos rfl]; first | done | exact hz_7m)⟩
  have hgec_5 : 1 ≤ p1 := by omega
  clear c_5
  by_cases c_8 : p1 = 1
  · refine x_tsw (off := 52) (tgt := 58) (k := 1) hC (by omega) dX5_bookTold_6 (by decide) (by decide) rfl (by decide) ?_
    refine lv_aload_n hC.1 hC.2.1 dX5_bookTold_58 rfl (lv_at hl 1 rfl) ?_
    refine x_get hC hw h_3.1.1 rfl hinX5 3 (by decide) (List.mem_cons_of_mem _ (List.mem_append_left _ (List.mem_append_left _ (List.mem_of_getElem? (i := 0) rfl)))) rfl dX5_bookTold_59 ?_
    refine lv_iload_n hC.1 hC.2.1 dX5_bookTold_62 rfl (lv_at hl 2 rfl) ?_
    refine x_ialdE (x := ((O ((p0).toNat) : Nat) : Int)) hC hw h_3.1.2.2.1 (by omega) (by omega) (by omega) dX5_bookTold_63 rfl ?_
    have hro_9 : O ((p0).toNat) < 3 := h_3.or' (by omega)
    exact x_iret hC hw dX5_bookTold_64 (by first | decide | omega) (by first | decide | omega) ⟨((O ((p0).toNat) : Nat) : Int), rfl, hxk_2, by omega, (by have e5 : p1 = 1 := (by omega); rw [A_ofBook, e5, if_neg (by decide), if_pos rfl]; first | done | exact rfl)⟩
  have hgec_8 : 2 ≤ p1 := by omega
  clear c_8
  by_cases c_10 : p1 = 2
  · refine x_tsw (off := 59) (tgt := 65) (k := 2) hC (by omega) dX5_bookTold_6 (by decide) (by decide) rfl (by decide) ?_
    refine lv_aload_n hC.1 hC.2.1 dX5_bookTold_65 rfl (lv_at hl 1 rfl) ?_
    refine lv_aload_n hC.1 hC.2.1 dX5_bookTold_66 rfl (lv_at hl 0 rfl) ?_
    refine x_const hC dX5_bookTold_67 ?_
    refine x_callV hC hw (lv_size hl) (c_X5_end l G h_3 hIk_2 (p0 := 0) (by omega)) gX5_bookTold_X5_end rfl dv_X5_end h_3.1.1 rfl rfl (Nat.le_of_ble_eq_true rfl) (by rw [hRf]; decide) (by rw [hRl]; decide) (by first | (rw [hRc]; decide) | omega) (by first | (rw [hRs]; decide) | omega) dX5_bookTold_68 (fun r9 M_11 H locs hq hw => ?_)
    obtain ⟨z_12, rfl, hM9, hz_12a, hz_12S, hz_12e⟩ := hq
    rw [hM9] at hw
    show W p l e R s m args below meth c H locs _ _ _ (F0 m 71 ls [.int (iN (z_12))])
    exact x_iret hC hw dX5_bookTold_71 (by first | decide | omega) (by first | decide | omega) ⟨z_12, rfl, hxk_2, by omega, (by have e5 : p1 = 2 := (by omega); rw [A_ofBook, e5, if_neg (by decide), if_neg (by decide), if_pos rfl]; first | done | exact hz_12e)⟩
  have hgec_10 : 3 ≤ p1 := by omega
  clear c_10
  by_cases c_13 : p1 = 3
  · refine x_tsw (off := 66) (tgt := 72) (k := 3) hC (by omega) dX5_bookTold_6 (by decide) (by decide) rfl (by decide) ?_
    refine lv_aload_n hC.1 hC.2.1 dX5_bookTold_72 rfl (lv_at hl 1 rfl) ?_
    refine lv_iload_n hC.1 hC.2.1 dX5_bookTold_73 rfl (lv_at hl 2 rfl) ?_
    refine lv_aload_n hC.1 hC.2.1 dX5_bookTold_74 rfl (lv_at hl 1 rfl) ?_
    refine lv_aload_n hC.1 hC.2.1 dX5_bookTold_75 rfl (lv_at hl 0 rfl) ?_
    refine x_const hC dX5_bookTold_76 ?_
    refine x_callV hC hw (lv_size hl) (c_X5_end l G h_3 hIk_2 (p0 := 0) (by omega)) gX5_bookTold_X5_end rfl dv_X5_end h_3.1.1 rfl rfl (Nat.le_of_ble_eq_true rfl) (by rw [hRf]; decide) (by rw [hRl]; decide) (by first | (rw [hRc]; decide) | omega) (by first | (rw [hRs]; decide) | omega) dX5_bookTold_77 (fun r9 M_14 H locs hq hw => ?_)
    obtain ⟨z_15, rfl, hM9, hz_15a, hz_15S, hz_15e⟩ := hq
    rw [hM9] at hw
    show W p l e R s m args below meth c H locs _ _ _ (F0 m 80 ls [.int (iN (z_15)), .int (iN (p0)), .ref a])
    refine x_callV hC hw (lv_size hl) (c_X5_valueOf l G h_3 (p0 := p0) (by first | assumption | omega) (p1 := z_15) (by omega) (by omega) (by omega)) gX5_bookTold_X5_valueOf rfl dv_X5_valueOf h_3.1.1 rfl rfl (Nat.le_of_ble_eq_true rfl) (by rw [hRf]; decide) (by rw [hRl]; decide) (by first | (rw [hRc]; decide) | omega) (by first | (rw [hRs]; decide) | omega) dX5_bookTold_80 (fun r9 M_16 H locs hq hw => ?_)
    obtain ⟨z_17, rfl, hM9, hz_17a, hz_17l⟩ := hq
    rw [hM9] at hw
    show W p l e R s m args below meth c H locs _ _ _ (F0 m 83 ls [.int (iN (z_17))])
    exact x_iret hC hw dX5_bookTold_83 (by first | decide | omega) (by first | decide | omega) ⟨z_17, rfl, hxk_2, by omega, (by have e5 : p1 = 3 := (by omega); rw [A_ofBook, e5, if_neg (by decide), if_neg (by decide), if_neg (by decide), if_pos rfl]; first | done | exact (by have e9 := hz_17l; rw [hz_15e] at e9; exact e9))⟩
  have hgec_13 : 4 ≤ p1 := by omega
  clear c_13
  by_cases c_18 : p1 = 4
  · refine x_tsw (off := 78) (tgt := 84) (k := 4) hC (by omega) dX5_bookTold_6 (by decide) (by decide) rfl (by decide) ?_
    refine lv_aload_n hC.1 hC.2.1 dX5_bookTold_84 rfl (lv_at hl 1 rfl) ?_
    refine lv_aload_n hC.1 hC.2.1 dX5_bookTold_85 rfl (lv_at hl 0 rfl) ?_
    refine x_const hC dX5_bookTold_86 ?_
    refine x_callV hC hw (lv_size hl) (c_X5_end l G h_3 hIk_2 (p0 := 1) (by omega)) gX5_bookTold_X5_end rfl dv_X5_end h_3.1.1 rfl rfl (Nat.le_of_ble_eq_true rfl) (by rw [hRf]; decide) (by rw [hRl]; decide) (by first | (rw [hRc]; decide) | omega) (by first | (rw [hRs]; decide) | omega) dX5_bookTold_87 (fun r9 M_19 H locs hq hw => ?_)
    obtain ⟨z_20, rfl, hM9, hz_20a, hz_20S, hz_20e⟩ := hq
    rw [hM9] at hw
    show W p l e R s m args below meth c H locs _ _ _ (F0 m 90 ls [.int (iN (z_20))])
    exact x_iret hC hw dX5_bookTold_90 (by first | decide | omega) (by first | decide | omega) ⟨z_20, rfl, hxk_2, by omega, (by have e5 : p1 = 4 := (by omega); rw [A_ofBook, e5, if_neg (by decide), if_neg (by decide), if_neg (by decide), if_neg (by decide), if_pos rfl]; first | done | exact hz_20e)⟩
  have hgec_18 : 5 ≤ p1 := by omega
  clear c_18
  by_cases c_21 : p1 = 5
  · refine x_tsw (off := 85) (tgt := 91) (k := 5) hC (by omega) dX5_bookTold_6 (by decide) (by decide) rfl (by decide) ?_
    refine lv_aload_n hC.1 hC.2.1 dX5_bookTold_91 rfl (lv_at hl 1 rfl) ?_
    refine lv_iload_n hC.1 hC.2.1 dX5_bookTold_92 rfl (lv_at hl 2 rfl) ?_
    refine lv_aload_n hC.1 hC.2.1 dX5_bookTold_93 rfl (lv_at hl 1 rfl) ?_
    refine lv_aload_n hC.1 hC.2.1 dX5_bookTold_94 rfl (lv_at hl 0 rfl) ?_
    refine x_const hC dX5_bookTold_95 ?_
    refine x_callV hC hw (lv_size hl) (c_X5_end l G h_3 hIk_2 (p0 := 1) (by omega)) gX5_bookTold_X5_end rfl dv_X5_end h_3.1.1 rfl rfl (Nat.le_of_ble_eq_true rfl) (by rw [hRf]; decide) (by rw [hRl]; decide) (by first | (rw [hRc]; decide) | omega) (by first | (rw [hRs]; decide) | omega) dX5_bookTold_96 (fun r9 M_22 H locs hq hw => ?_)
    obtain ⟨z_23, rfl, hM9, hz_23a, hz_23S, hz_23e⟩ := hq
    rw [hM9] at hw
    show W p l e R s m args below meth c H locs _ _ _ (F0 m 99 ls [.int (iN (z_23)), .int (iN (p0)), .ref a])
    refine x_callV hC hw (lv_size hl) (c_X5_valueOf l G h_3 (p0 := p0) (by first | assumption | omega) (p1 := z_23) (by omega) (by omega) (by omega)) gX5_bookTold_X5_valueOf rfl dv_X5_valueOf h_3.1.1 rfl rfl (Nat.le_of_ble_eq_true rfl) (by rw [hRf]; decide) (by rw [hRl]; decide) (by first | (rw [hRc]; decide) | omega) (by first | (rw [hRs]; decide) | omega) dX5_bookTold_99 (fun r9 M_24 H locs hq hw => ?_)
    obtain ⟨z_25, rfl, hM9, hz_25a, hz_25l⟩ := hq
    rw [hM9] at hw
    show W p l e R s m args below meth c H locs _ _ _ (F0 m 102 ls [.int (iN (z_25))])
    exact x_iret hC hw dX5_bookTold_102 (by first | decide | omega) (by first | decide | omega) ⟨z_25, rfl, hxk_2, by omega, (by have e5 : p1 = 5 := (by omega); rw [A_ofBook, e5, if_neg (by decide), if_neg (by decide), if_neg (by decide), if_neg (by decide), if_neg (by decide), if_pos rfl]; first | done | exact (by have e9 := hz_25l; rw [hz_23e] at e9; exact e9))⟩
  have hgec_21 : 6 ≤ p1 := by omega
  clear c_21
  by_cases c_26 : p1 = 6
  · refine x_tsw (off := 97) (tgt := 103) (k := 6) hC (by omega) dX5_bookTold_6 (by decide) (by decide) rfl (by decide) ?_
    refine lv_aload_n hC.1 hC.2.1 dX5_bookTold_103 rfl (lv_at hl 1 rfl) ?_
    refine lv_aload_n hC.1 hC.2.1 dX5_bookTold_104 rfl (lv_at hl 0 rfl) ?_
    refine x_callV hC hw (lv_size hl) (c_X5_sum l G h_3 hIk_2) gX5_bookTold_X5_sum rfl dv_X5_sum h_3.1.1 rfl rfl (Nat.le_of_ble_eq_true rfl) (by rw [hRf]; decide) (by rw [hRl]; decide) (by first | (rw [hRc]; decide) | omega) (by first | (rw [hRs]; decide) | omega) dX5_bookTold_105 (fun r9 M_27 H locs hq hw => ?_)
    obtain ⟨z_28, rfl, hM9, hz_28a, hz_28m⟩ := hq
    rw [hM9] at hw
    show W p l e R s m args below meth c H locs _ _ _ (F0 m 108 ls [.int (iN (z_28))])
    exact x_iret hC hw dX5_bookTold_108 (by first | decide | omega) (by first | decide | omega) ⟨z_28, rfl, hxk_2, by omega, (by have e5 : p1 = 6 := (by omega); rw [A_ofBook, e5, if_neg (by decide), if_neg (by decide), if_neg (by decide), if_neg (by decide), if_neg (by decide), if_neg (by decide), if_pos rfl]; first | done | exact hz_28m)⟩
  have hgec_26 : 7 ≤ p1 := by omega
  clear c_26
  by_cases c_29 : p1 = 7
  · refine x_tsw (off := 103) (tgt := 109) (k := 7) hC (by omega) dX5_bookTold_6 (by decide) (by decide) rfl (by decide) ?_
    refine lv_aload_n hC.1 hC.2.1 dX5_bookTold_109 rfl (lv_at hl 1 rfl) ?_
    refine lv_iload_n hC.1 hC.2.1 dX5_bookTold_110 rfl (lv_at hl 2 rfl) ?_
    refine x_callV hC hw (lv_size hl) (c_X5_unlike l G h_3 (p0 := p0) (by first | assumption | omega) (by omega)) gX5_bookTold_X5_unlike rfl dv_X5_unlike h_3.1.1 rfl rfl (Nat.le_of_ble_eq_true rfl) (by rw [hRf]; decide) (by rw [hRl]; decide) (by first | (rw [hRc]; decide) | omega) (by first | (rw [hRs]; decide) | omega) dX5_bookTold_111 (fun r9 M_30 H locs hq hw => ?_)
    obtain ⟨z_31, rfl, hM9, hz_31a, hz_31u⟩ := hq
    rw [hM9] at hw
    show W p l e R s m args below meth c H locs _ _ _ (F0 m 114 ls [.int (iN (z_31))])
    exact x_iret hC hw dX5_bookTold_114 (by first | decide | omega) (by first | decide | omega) ⟨z_31, rfl, hxk_2, by omega, (by have e5 : p1 = 7 := (by omega); rw [A_ofBook, e5, if_neg (by decide), if_neg (by decide), if_neg (by decide), if_neg (by decide), if_neg (by decide), if_neg (by decide), if_neg (by decide), if_pos rfl]; first | done | exact hz_31u)⟩
  have hgec_29 : 8 ≤ p1 := by omega
  clear c_29
  refine x_tswd (tgt := 115) hC ⟨by omega, by omega⟩ dX5_bookTold_6 (by omega) (by decide) ?_
  refine lv_aload_n hC.1 hC.2.1 dX5_bookTold_115 rfl (lv_at hl 1 rfl) ?_
  refine lv_iload_n hC.1 hC.2.1 dX5_bookTold_116 rfl (lv_at hl 2 rfl) ?_
  refine x_callV hC hw (lv_size hl) (c_X5_viewsOf l G h_3 (p0 := p0) (by first | assumption | omega) (by omega)) gX5_bookTold_X5_viewsOf rfl dv_X5_viewsOf h_3.1.1 rfl rfl (Nat.le_of_ble_eq_true rfl) (by rw [hRf]; decide) (by rw [hRl]; decide) (by first | (rw [hRc]; decide) | omega) (by first | (rw [hRs]; decide) | omega) dX5_bookTold_117 (fun r9 M_32 H locs hq hw => ?_)
  obtain ⟨z_33, rfl, hM9, hz_33a, hz_33v⟩ := hq
  rw [hM9] at hw
  show W p l e R s m args below meth c H locs _ _ _ (F0 m 120 ls [.int (iN (z_33))])
  exact x_iret hC hw dX5_bookTold_120 (by first | decide | omega) (by first | decide | omega) ⟨z_33, rfl, hxk_2, by omega, (by have e5 : p1 = 8 := (by omega); rw [A_ofBook, e5, if_neg (by decide), if_neg (by decide), if_neg (by decide), if_neg (by decide), if_neg (by decide), if_neg (by decide), if_neg (by decide), if_neg (by decide)]; first | done | exact hz_33v)⟩
set_option maxHeartbeats 4000000 in
set_option maxRecDepth 100000 in
theorem c_X5_ofBook (l : Launch) (G : xG) {M : HM} {a va oa wa ya : Nat} {wk : Option Nat} {th : Int} {rfd : Int32} {br re la ha : Int} {kp kv : Int32} {qv qw : Nat → Nat} {fa fb : Nat → Option Nat} {V : BW} {O : OW} {fy : Nat → Option Nat} {Wv : VW} {wt : Option VT} {S : Nat → Bool} (hR : MGx G M a va oa wa ya wk th rfd br re la ha kp kv qv qw fa fb V O fy Wv wt S) {K : WA} (hK : abM O wt br re la ha K) {p0 : Int} (hp0 : -2147483648 ≤ p0 ∧ p0 ≤ 2147483647) {p1 : Int} (hp1 : -2147483648 ≤ p1 ∧ p1 ≤ 2147483647) : xMet l G yX5_ofBook wsX5_ofBook 6 138 1 5 [.ref a, .int (iN (p0)), .int (iN (p1))] M (fun r M1 => ∃ (z th1 : Int), r = some (.int (iN z)) ∧ (-2147483648 ≤ z ∧ z ≤ 2147483647) ∧ ((th1 = 0 ∧ ((0 ≤ p0 ∧ p0 ≤ 2) ∧ (0 ≤ p1 ∧ p1 ≤ 8)) ∧ z = A_ofBook (O, V, Wv, K, kp, kv, rfd) p0 p1 ∧ MGm G M1 a S th1 (O, V, Wv, K, kp, kv, rfd)) ∨ (th1 ≠ 0 ∧ ((th1 = 1 ∧ ¬ (0 ≤ p0 ∧ p0 ≤ 2)) ∨ (th1 = 2 ∧ (0 ≤ p0 ∧ p0 ≤ 2) ∧ ¬ (0 ≤ p1 ∧ p1 ≤ 8))) ∧ MGm G M1 a S th1 (O, V, Wv, K, kp, kv, rfd)))) := by
  refine x_intro (cc := cX5_ofBook) (maxL := 3) (ret := (some .int)) (by exact pln_RX5) rfl (Nat.le_of_ble_eq_true rfl) ?_
  intro p e R s m args below meth c ls hRf hRc hRs hRl hC hw hl
  have hsc0 := hR.sc.1
  have hl : lv_has ls 3 [(0, .ref a), (1, .int (iN (p0))), (2, .int (iN (p1)))] := hl
  refine lv_aload_n hC.1 hC.2.1 dX5_ofBook_0 rfl (lv_at hl 0 rfl) ?_
  refine lv_iload_n hC.1 hC.2.1 dX5_ofBook_1 rfl (lv_at hl 1 rfl) ?_
  refine x_callS hC hw (lv_size hl) (c_X5_isNoBook l G (M := M) (p0 := p0) (by first | assumption | omega)) gX5_ofBook_X5_isNoBook rfl dv_X5_isNoBook_s rfl (Nat.le_of_ble_eq_true rfl) (by rw [hRf]; decide) (by rw [hRl]; decide) (by first | (rw [hRc]; decide) | omega) (by first | (rw [hRs]; decide) | omega) dX5_ofBook_2 (fun r9 M_1 H locs hq hw => ?_)
  obtain ⟨z_2, rfl, hM9, hz_2a, hz_2b⟩ := hq
  rw [hM9] at hw
  show W p l e R s m args below meth c H locs _ _ _ (F0 m 5 ls [.int (iN (z_2)), .ref a])
  refine x_const hC dX5_ofBook_5 ?_
  refine x_callV hC hw (lv_size hl) (c_X5_start l G hR (p0 := z_2) (by omega) (p1 := 1) (by omega) (by omega)) gX5_ofBook_X5_start rfl dv_X5_start hR.1.1 rfl rfl (Nat.le_of_ble_eq_true rfl) (by rw [hRf]; decide) (by rw [hRl]; decide) (by first | (rw [hRc]; decide) | omega) (by first | (rw [hRs]; decide) | omega) dX5_ofBook_6 (fun r9 M_3 H locs hq hw => ?_)
  obtain ⟨z_5, thk_4, rfl, hz_5r, hx5k_4, hRk_4⟩ := hq
  have hsck_4 := hRk_4.sc.1
  show W p l e R s m args below meth c H locs _ _ _ (F0 m 9 ls [.int (iN (z_5))])
  refine x_if_ne (tgt := 35) hC ⟨by omega, by omega⟩ dX5_ofBook_9 (by decide) (fun c_6 => ?_) (fun c_6 => ?_)
  · replace hz_5r := (hz_5r.resolve_left (fun q9 => c_6 q9.1)).2
    replace hz_2b := mt hz_2b.mpr hz_5r.1
    refine x_const hC dX5_ofBook_35 ?_
    refine lv_goto (tgt := 45) hC.1 hC.2.1 dX5_ofBook_36 (by decide) ?_
    exact x_iret hC hw dX5_ofBook_45 (by first | decide | omega) (by first | decide | omega) ⟨0, thk_4, rfl, by omega, Or.inr ⟨by omega, by omega, MGm.of hRk_4 hK⟩⟩
  · replace hz_5r := (hz_5r.resolve_right (fun q9 => absurd (q9.1.symm.trans c_6) (by decide))).2
    replace hz_2b := hz_2b.mp hz_5r.2
    refine lv_aload_n hC.1 hC.2.1 dX5_ofBook_12 rfl (lv_at hl 0 rfl) ?_
    refine lv_iload_n hC.1 hC.2.1 dX5_ofBook_13 rfl (lv_at hl 2 rfl) ?_
    refine x_const hC dX5_ofBook_14 ?_
    refine x_bipush hC dX5_ofBook_15 (by decide +kernel) ?_
    refine x_callS hC hw (lv_size hl) (c_X5_isIn l G (M := M_3) (p0 := p1) (by first | assumption | omega) (p1 := 0) (by omega) (p2 := 8) (by omega)) gX5_ofBook_X5_isIn rfl dv_X5_isIn_s rfl (Nat.le_of_ble_eq_true rfl) (by rw [hRf]; decide) (by rw [hRl]; decide) (by first | (rw [hRc]; decide) | omega) (by first | (rw [hRs]; decide) | omega) dX5_ofBook_17 (fun r9 M_7 H locs hq hw => ?_)
    obtain ⟨z_8, rfl, hM9, hz_8a, hz_8b, hz_8c⟩ := hq
    rw [hM9] at hw
    show W p l e R s m args below meth c H locs _ _ _ (F0 m 20 ls [.int (iN (z_8)), .ref a])
    refine x_if_ne (tgt := 27) hC ⟨by omega, by omega⟩ dX5_ofBook_20 (by decide) (fun c_9 => ?_) (fun c_9 => ?_)
    · refine x_const hC dX5_ofBook_27 ?_
      refine x_const hC dX5_ofBook_28 ?_
      refine x_callV hC hw (lv_size hl) (c_X5_refuse l G hRk_4 (p0 := 0) (by omega) (p1 := 2) (by omega) (by omega)) gX5_ofBook_X5_refuse rfl dv_X5_refuse hRk_4.1.1 rfl rfl (Nat.le_of_ble_eq_true rfl) (by rw [hRf]; decide) (by rw [hRl]; decide) (by first | (rw [hRc]; decide) | omega) (by first | (rw [hRs]; decide) | omega) dX5_ofBook_29 (fun r9 M_10 H locs hq hw => ?_)
      obtain ⟨z_12, thk_11, rfl, hz_12r, hx5k_11, hRk_11⟩ := hq
      have hsck_11 := hRk_11.sc.1
      show W p l e R s m args below meth c H locs _ _ _ (F0 m 32 ls [.int (iN (z_12))])
      refine x_if_eq (tgt := 39) hC ⟨by omega, by omega⟩ dX5_ofBook_32 (by decide) (fun c_13 => ?_) (fun c_13 => ?_)
      · replace hz_12r := (hz_12r.resolve_right (fun q9 => absurd (q9.1.symm.trans c_13) (by decide))).2
        refine lv_aload_n hC.1 hC.2.1 dX5_ofBook_39 rfl (lv_at hl 0 rfl) ?_
        refine lv_iload_n hC.1 hC.2.1 dX5_ofBook_40 rfl (lv_at hl 1 rfl) ?_
        refine lv_iload_n hC.1 hC.2.1 dX5_ofBook_41 rfl (lv_at hl 2 rfl) ?_
        refine x_callV hC hw (lv_size hl) (c_X5_bookTold l G hRk_11 (p0 := p0) (by first | assumption | omega) (p1 := p1) (by first | assumption | omega) (by omega) (by omega)) gX5_ofBook_X5_bookTold rfl dv_X5_bookTold hRk_11.1.1 rfl rfl (Nat.le_of_ble_eq_true rfl) (by rw [hRf]; decide) (by rw [hRl]; decide) (by first | (rw [hRc]; decide) | omega) (by first | (rw [hRs]; decide) | omega) dX5_ofBook_42 (fun r9 M_14 H locs hq hw => ?_)
        obtain ⟨z_15, rfl, hxz_15, hz_15a, hz_15o⟩ := hq
        have h_16 := hRk_11.ext hxz_15
        show W p l e R s m args below meth c H locs _ _ _ (F0 m 45 ls [.int (iN (z_15))])
        exact x_iret hC hw dX5_ofBook_45 (by first | decide | omega) (by first | decide | omega) ⟨z_15, thk_11, rfl, ⟨by omega, by omega⟩, Or.inl ⟨by omega, ⟨⟨(by first | omega | trivial), (by first | omega | trivial)⟩, ⟨(by first | omega | trivial), (by first | omega | trivial)⟩⟩, hz_15o, MGm.of h_16 hK⟩⟩
      · replace hz_12r := (hz_12r.resolve_left (fun q9 => c_13 q9.1)).2
        refine x_const hC dX5_ofBook_35 ?_
        refine lv_goto (tgt := 45) hC.1 hC.2.1 dX5_ofBook_36 (by decide) ?_
        exact x_iret hC hw dX5_ofBook_45 (by first | decide | omega) (by first | decide | omega) ⟨0, thk_11, rfl, by omega, Or.inr ⟨by omega, by omega, MGm.of hRk_11 hK⟩⟩
    · refine x_const hC dX5_ofBook_23 ?_
      refine lv_goto (tgt := 28) hC.1 hC.2.1 dX5_ofBook_24 (by decide) ?_
      refine x_const hC dX5_ofBook_28 ?_
      refine x_callV hC hw (lv_size hl) (c_X5_refuse l G hRk_4 (p0 := 1) (by omega) (p1 := 2) (by omega) (by omega)) gX5_ofBook_X5_refuse rfl dv_X5_refuse hRk_4.1.1 rfl rfl (Nat.le_of_ble_eq_true rfl) (by rw [hRf]; decide) (by rw [hRl]; decide) (by first | (rw [hRc]; decide) | omega) (by first | (rw [hRs]; decide) | omega) dX5_ofBook_29 (fun r9 M_17 H locs hq hw => ?_)
      obtain ⟨z_19, thk_18, rfl, hz_19r, hx5k_18, hRk_18⟩ := hq
      have hsck_18 := hRk_18.sc.1
      show W p l e R s m args below meth c H locs _ _ _ (F0 m 32 ls [.int (iN (z_19))])
      refine x_if_eq (tgt := 39) hC ⟨by omega, by omega⟩ dX5_ofBook_32 (by decide) (fun c_20 => ?_) (fun c_20 => ?_)
      · replace hz_19r := (hz_19r.resolve_right (fun q9 => absurd (q9.1.symm.trans c_20) (by decide))).2
        exact absurd hz_19r.2.2 (by decide)
      · replace hz_19r := (hz_19r.resolve_left (fun q9 => c_20 q9.1)).2
        refine x_const hC dX5_ofBook_35 ?_
        refine lv_goto (tgt := 45) hC.1 hC.2.1 dX5_ofBook_36 (by decide) ?_
        exact x_iret hC hw dX5_ofBook_45 (by first | decide | omega) (by first | decide | omega) ⟨0, thk_18, rfl, by omega, Or.inr ⟨by omega, by omega, MGm.of hRk_18 hK⟩⟩
set_option maxHeartbeats 4000000 in
set_option maxRecDepth 100000 in
theorem c_X5_nearTold (l : Launch) (G : xG) {M : HM} {a va oa wa ya : Nat} {wk : Option Nat} {th : Int} {rfd : Int32} {br re la ha : Int} {kp kv : Int32} {qv qw : Nat → Nat} {fa fb : Nat → Option Nat} {V : BW} {O : OW} {fy : Nat → Option Nat} {Wv : VW} {wt : Option VT} {S : Nat → Bool} (hR : MGx G M a va oa wa ya wk th rfd br re la ha kp kv qv qw fa fb V O fy Wv wt S) {p0 : Int} (hp0 : -2147483648 ≤ p0 ∧ p0 ≤ 2147483647) {p1 : Int} (hp1 : -2147483648 ≤ p1 ∧ p1 ≤ 2147483647) {p2 : Int} (hp2 : -2147483648 ≤ p2 ∧ p2 ≤ 2147483647) (hob : 0 ≤ p0 ∧ p0 ≤ 2) (hok : 0 ≤ p1 ∧ p1 ≤ 99) (how : 0 ≤ p2 ∧ p2 ≤ 7) : xMet l G yX5_nearTold wsX5_nearTold 5 117 1 5 [.ref a, .int (iN (p0)), .int (iN (p1)), .int (iN (p2))] M (fun r M1 => ∃ z : Int, r = some (.int (iN z)) ∧ xExt M M1 ∧ (-2147483648 ≤ z ∧ z ≤ 2147483647) ∧ z = A_near (O, V, Wv, (none : WA), kp, kv, rfd) p0 p1 p2) := by
  refine x_intro (cc := cX5_nearTold) (maxL := 5) (ret := (some .int)) (by exact pln_RX5) rfl (Nat.le_of_ble_eq_true rfl) ?_
  intro p e R s m args below meth c ls hRf hRc hRs hRl hC hw hl
  have hsc0 := hR.sc.1
  have hl : lv_has ls 5 [(0, .ref a), (1, .int (iN (p0))), (2, .int (iN (p1))), (3, .int (iN (p2)))] := hl
  refine lv_aload_n hC.1 hC.2.1 dX5_nearTold_0 rfl (lv_at hl 0 rfl) ?_
  refine lv_iload_n hC.1 hC.2.1 dX5_nearTold_1 rfl (lv_at hl 1 rfl) ?_
  refine x_callS hC hw (lv_size hl) (c_X5_whole l G (M := M) (p0 := p0) (by first | assumption | omega) (by omega)) gX5_nearTold_X5_whole rfl dv_X5_whole_s rfl (Nat.le_of_ble_eq_true rfl) (by rw [hRf]; decide) (by rw [hRl]; decide) (by first | (rw [hRc]; decide) | omega) (by first | (rw [hRs]; decide) | omega) dX5_nearTold_2 (fun r9 M_1 H locs hq hw => ?_)
  obtain ⟨qk_2, fk_2, rfl, hxk_2, hIk_2⟩ := hq
  have h_3 := hR.ext hxk_2
  obtain ⟨htat_4, htbt_4, htct_4, htdt_4, htet_4⟩ := id hIk_2.2.1
  have holk_2 := h_3.or' hIk_2.2.1.1
  show W p l e R s m args below meth c H locs _ _ _ (F0 m 5 ls [.ref qk_2, .ref a])
  refine lv_iload_n hC.1 hC.2.1 dX5_nearTold_5 rfl (lv_at hl 2 rfl) ?_
  refine lv_iload_n hC.1 hC.2.1 dX5_nearTold_6 rfl (lv_at hl 3 rfl) ?_
  refine x_const hC dX5_nearTold_7 ?_
  refine x_iremN hC (by omega) (by omega) (by omega) (by omega) dX5_nearTold_8 ?_
  refine x_callV hC hw (lv_size hl) (c_X5_nearOf l G h_3 hIk_2 (p0 := p1) (by first | assumption | omega) (p1 := (p2 % 4)) (by omega) (by omega)) gX5_nearTold_X5_nearOf rfl dv_X5_nearOf h_3.1.1 rfl rfl (Nat.le_of_ble_eq_true rfl) (by rw [hRf]; decide) (by rw [hRl]; decide) (by first | (rw [hRc]; decide) | omega) (by first | (rw [hRs]; decide) | omega) dX5_nearTold_9 (fun r9 M_5 H locs hq hw => ?_)
  obtain ⟨z_6, rfl, hM9, hz_6a, hz_6S, hz_6n⟩ := hq
  rw [hM9] at hw
  show W p l e R s m args below meth c H locs _ _ _ (F0 m 12 ls [.int (iN (z_6))])
  refine lv_istore (lv' := [(4, .int (iN (z_6))), (0, .ref a), (1, .int (iN (p0))), (2, .int (iN (p1))), (3, .int (iN (p2)))]) hC.1 hC.2.1 dX5_nearTold_12 hl (by decide) rfl (fun ls hl => ?_)
  refine lv_iload_n hC.1 hC.2.1 dX5_nearTold_14 rfl (lv_at hl 4 rfl) ?_
  refine x_const hC dX5_nearTold_15 ?_
  refine x_icmp_ge (tgt := 24) hC ⟨by omega, by omega⟩ ⟨by omega, by omega⟩ dX5_nearTold_16 (by decide) (fun c_7 => ?_) (fun c_7 => ?_)
  · refine lv_aload_n hC.1 hC.2.1 dX5_nearTold_24 rfl (lv_at hl 1 rfl) ?_
    refine lv_iload_n hC.1 hC.2.1 dX5_nearTold_25 rfl (lv_at hl 2 rfl) ?_
    refine lv_iload hC.1 hC.2.1 dX5_nearTold_26 (lv_at hl 0 rfl) ?_
    refine x_callV hC hw (lv_size hl) (c_X5_valueOf l G h_3 (p0 := p0) (by first | assumption | omega) (p1 := z_6) (by omega) (by omega) (by omega)) gX5_nearTold_X5_valueOf rfl dv_X5_valueOf h_3.1.1 rfl rfl (Nat.le_of_ble_eq_true rfl) (by rw [hRf]; decide) (by rw [hRl]; decide) (by first | (rw [hRc]; decide) | omega) (by first | (rw [hRs]; decide) | omega) dX5_nearTold_28 (fun r9 M_8 H locs hq hw => ?_)
    obtain ⟨z_9, rfl, hM9, hz_9a, hz_9l⟩ := hq
    rw [hM9] at hw
    show W p l e R s m args below meth c H locs _ _ _ (F0 m 31 ls [.int (iN (z_9))])
    exact x_iret hC hw dX5_nearTold_31 (by first | decide | omega) (by first | decide | omega) ⟨z_9, rfl, hxk_2, by omega, (by have e9 := hz_6n; rw [A_near, if_neg (by omega)]; rw [show p2 % 4 = p2 - 4 by omega] at e9; have e8 := hz_9l; rw [e9] at e8; exact e8)⟩
  · refine lv_iload hC.1 hC.2.1 dX5_nearTold_19 (lv_at hl 0 rfl) ?_
    refine lv_goto (tgt := 31) hC.1 hC.2.1 dX5_nearTold_21 (by decide) ?_
    exact x_iret hC hw dX5_nearTold_31 (by first | decide | omega) (by first | decide | omega) ⟨z_6, rfl, hxk_2, by omega, (by have e9 := hz_6n; rw [A_near, if_pos (by omega)]; rw [show p2 % 4 = p2 by omega] at e9; exact e9)⟩
set_option maxHeartbeats 4000000 in
set_option maxRecDepth 100000 in
theorem c_X5_near (l : Launch) (G : xG) {M : HM} {a va oa wa ya : Nat} {wk : Option Nat} {th : Int} {rfd : Int32} {br re la ha : Int} {kp kv : Int32} {qv qw : Nat → Nat} {fa fb : Nat → Option Nat} {V : BW} {O : OW} {fy : Nat → Option Nat} {Wv : VW} {wt : Option VT} {S : Nat → Bool} (hR : MGx G M a va oa wa ya wk th rfd br re la ha kp kv qv qw fa fb V O fy Wv wt S) {K : WA} (hK : abM O wt br re la ha K) {p0 : Int} (hp0 : -2147483648 ≤ p0 ∧ p0 ≤ 2147483647) {p1 : Int} (hp1 : -2147483648 ≤ p1 ∧ p1 ≤ 2147483647) {p2 : Int} (hp2 : -2147483648 ≤ p2 ∧ p2 ≤ 2147483647) : xMet l G yX5_near wsX5_near 6 141 1 5 [.ref a, .int (iN (p0)), .int (iN (p1)), .int (iN (p2))] M (fun r M1 => ∃ (z th1 : Int), r = some (.int (iN z)) ∧ (-2147483648 ≤ z ∧ z ≤ 2147483647) ∧ ((th1 = 0 ∧ ((0 ≤ p0 ∧ p0 ≤ 2) ∧ ((0 ≤ p1 ∧ p1 ≤ 99) ∧ (0 ≤ p2 ∧ p2 ≤ 7))) ∧ z = A_near (O, V, Wv, K, kp, kv, rfd) p0 p1 p2 ∧ MGm G M1 a S th1 (O, V, Wv, K, kp, kv, rfd)) ∨ (th1 ≠ 0 ∧ ((th1 = 1 ∧ ¬ (0 ≤ p0 ∧ p0 ≤ 2)) ∨ (th1 = 2 ∧ (0 ≤ p0 ∧ p0 ≤ 2) ∧ ¬ ((0 ≤ p1 ∧ p1 ≤ 99) ∧ (0 ≤ p2 ∧ p2 ≤ 7)))) ∧ MGm G M1 a S th1 (O, V, Wv, K, kp, kv, rfd)))) := by
  refine x_intro (cc := cX5_near) (maxL := 4) (ret := (some .int)) (by exact pln_RX5) rfl (Nat.le_of_ble_eq_true rfl) ?_
  intro p e R s m args below meth c ls hRf hRc hRs hRl hC hw hl
  have hsc0 := hR.sc.1
  have hl : lv_has ls 4 [(0, .ref a), (1, .int (iN (p0))), (2, .int (iN (p1))), (3, .int (iN (p2)))] := hl
  refine lv_aload_n hC.1 hC.2.1 dX5_near_0 rfl (lv_at hl 0 rfl) ?_
  refine lv_iload_n hC.1 hC.2.1 dX5_near_1 rfl (lv_at hl 1 rfl) ?_
  refine lv_iload_n hC.1 hC.2.1 dX5_near_2 rfl (lv_at hl 2 rfl) ?_
  refine x_callV hC hw (lv_size hl) (c_X5_isBad l G hR (p0 := p0) (by first | assumption | omega) (p1 := p1) (by first | assumption | omega)) gX5_near_X5_isBad rfl dv_X5_isBad hR.1.1 rfl rfl (Nat.le_of_ble_eq_true rfl) (by rw [hRf]; decide) (by rw [hRl]; decide) (by first | (rw [hRc]; decide) | omega) (by first | (rw [hRs]; decide) | omega) dX5_near_3 (fun r9 M_1 H locs hq hw => ?_)
  obtain ⟨z_3, thk_2, rfl, hz_3r, hx5k_2, hRk_2⟩ := hq
  have hsck_2 := hRk_2.sc.1
  show W p l e R s m args below meth c H locs _ _ _ (F0 m 6 ls [.int (iN (z_3))])
  refine x_if_ne (tgt := 32) hC ⟨by omega, by omega⟩ dX5_near_6 (by decide) (fun c_4 => ?_) (fun c_4 => ?_)
  · replace hz_3r := (hz_3r.resolve_left (fun q9 => c_4 q9.1)).2
    refine x_const hC dX5_near_32 ?_
    refine lv_goto (tgt := 43) hC.1 hC.2.1 dX5_near_33 (by decide) ?_
    exact x_iret hC hw dX5_near_43 (by first | decide | omega) (by first | decide | omega) ⟨0, thk_2, rfl, by omega, Or.inr ⟨by omega, by omega, MGm.of hRk_2 hK⟩⟩
  · replace hz_3r := (hz_3r.resolve_right (fun q9 => absurd (q9.1.symm.trans c_4) (by decide))).2
    refine lv_aload_n hC.1 hC.2.1 dX5_near_9 rfl (lv_at hl 0 rfl) ?_
    refine lv_iload_n hC.1 hC.2.1 dX5_near_10 rfl (lv_at hl 3 rfl) ?_
    refine x_const hC dX5_near_11 ?_
    refine x_bipush hC dX5_near_12 (by decide +kernel) ?_
    refine x_callS hC hw (lv_size hl) (c_X5_isIn l G (M := M_1) (p0 := p2) (by first | assumption | omega) (p1 := 0) (by omega) (p2 := 7) (by omega)) gX5_near_X5_isIn rfl dv_X5_isIn_s rfl (Nat.le_of_ble_eq_true rfl) (by rw [hRf]; decide) (by rw [hRl]; decide) (by first | (rw [hRc]; decide) | omega) (by first | (rw [hRs]; decide) | omega) dX5_near_14 (fun r9 M_5 H locs hq hw => ?_)
    obtain ⟨z_6, rfl, hM9, hz_6a, hz_6b, hz_6c⟩ := hq
    rw [hM9] at hw
    show W p l e R s m args below meth c H locs _ _ _ (F0 m 17 ls [.int (iN (z_6)), .ref a])
    refine x_if_ne (tgt := 24) hC ⟨by omega, by omega⟩ dX5_near_17 (by decide) (fun c_7 => ?_) (fun c_7 => ?_)
    · refine x_const hC dX5_near_24 ?_
      refine x_const hC dX5_near_25 ?_
      refine x_callV hC hw (lv_size hl) (c_X5_refuse l G hRk_2 (p0 := 0) (by omega) (p1 := 2) (by omega) (by omega)) gX5_near_X5_refuse rfl dv_X5_refuse hRk_2.1.1 rfl rfl (Nat.le_of_ble_eq_true rfl) (by rw [hRf]; decide) (by rw [hRl]; decide) (by first | (rw [hRc]; decide) | omega) (by first | (rw [hRs]; decide) | omega) dX5_near_26 (fun r9 M_8 H locs hq hw => ?_)
      obtain ⟨z_10, thk_9, rfl, hz_10r, hx5k_9, hRk_9⟩ := hq
      have hsck_9 := hRk_9.sc.1
      show W p l e R s m args below meth c H locs _ _ _ (F0 m 29 ls [.int (iN (z_10))])
      refine x_if_eq (tgt := 36) hC ⟨by omega, by omega⟩ dX5_near_29 (by decide) (fun c_11 => ?_) (fun c_11 => ?_)
      · replace hz_10r := (hz_10r.resolve_right (fun q9 => absurd (q9.1.symm.trans c_11) (by decide))).2
        refine lv_aload_n hC.1 hC.2.1 dX5_near_36 rfl (lv_at hl 0 rfl) ?_
        refine lv_iload_n hC.1 hC.2.1 dX5_near_37 rfl (lv_at hl 1 rfl) ?_
        refine lv_iload_n hC.1 hC.2.1 dX5_near_38 rfl (lv_at hl 2 rfl) ?_
        refine lv_iload_n hC.1 hC.2.1 dX5_near_39 rfl (lv_at hl 3 rfl) ?_
        refine x_callV hC hw (lv_size hl) (c_X5_nearTold l G hRk_9 (p0 := p0) (by first | assumption | omega) (p1 := p1) (by first | assumption | omega) (p2 := p2) (by first | assumption | omega) (by omega) (by omega) (by omega)) gX5_near_X5_nearTold rfl dv_X5_nearTold hRk_9.1.1 rfl rfl (Nat.le_of_ble_eq_true rfl) (by rw [hRf]; decide) (by rw [hRl]; decide) (by first | (rw [hRc]; decide) | omega) (by first | (rw [hRs]; decide) | omega) dX5_near_40 (fun r9 M_12 H locs hq hw => ?_)
        obtain ⟨z_13, rfl, hxz_13, hz_13a, hz_13n⟩ := hq
        have h_14 := hRk_9.ext hxz_13
        show W p l e R s m args below meth c H locs _ _ _ (F0 m 43 ls [.int (iN (z_13))])
        exact x_iret hC hw dX5_near_43 (by first | decide | omega) (by first | decide | omega) ⟨z_13, thk_9, rfl, ⟨by omega, by omega⟩, Or.inl ⟨by omega, ⟨⟨(by first | omega | trivial), (by first | omega | trivial)⟩, ⟨⟨(by first | omega | trivial), (by first | omega | trivial)⟩, ⟨(by first | omega | trivial), (by first | omega | trivial)⟩⟩⟩, hz_13n, MGm.of h_14 hK⟩⟩
      · replace hz_10r := (hz_10r.resolve_left (fun q9 => c_11 q9.1)).2
        refine x_const hC dX5_near_32 ?_
        refine lv_goto (tgt := 43) hC.1 hC.2.1 dX5_near_33 (by decide) ?_
        exact x_iret hC hw dX5_near_43 (by first | decide | omega) (by first | decide | omega) ⟨0, thk_9, rfl, by omega, Or.inr ⟨by omega, by omega, MGm.of hRk_9 hK⟩⟩
    · refine x_const hC dX5_near_20 ?_
      refine lv_goto (tgt := 25) hC.1 hC.2.1 dX5_near_21 (by decide) ?_
      refine x_const hC dX5_near_25 ?_
      refine x_callV hC hw (lv_size hl) (c_X5_refuse l G hRk_2 (p0 := 1) (by omega) (p1 := 2) (by omega) (by omega)) gX5_near_X5_refuse rfl dv_X5_refuse hRk_2.1.1 rfl rfl (Nat.le_of_ble_eq_true rfl) (by rw [hRf]; decide) (by rw [hRl]; decide) (by first | (rw [hRc]; decide) | omega) (by first | (rw [hRs]; decide) | omega) dX5_near_26 (fun r9 M_15 H locs hq hw => ?_)
      obtain ⟨z_17, thk_16, rfl, hz_17r, hx5k_16, hRk_16⟩ := hq
      have hsck_16 := hRk_16.sc.1
      show W p l e R s m args below meth c H locs _ _ _ (F0 m 29 ls [.int (iN (z_17))])
      refine x_if_eq (tgt := 36) hC ⟨by omega, by omega⟩ dX5_near_29 (by decide) (fun c_18 => ?_) (fun c_18 => ?_)
      · replace hz_17r := (hz_17r.resolve_right (fun q9 => absurd (q9.1.symm.trans c_18) (by decide))).2
        exact absurd hz_17r.2.2 (by decide)
      · replace hz_17r := (hz_17r.resolve_left (fun q9 => c_18 q9.1)).2
        refine x_const hC dX5_near_32 ?_
        refine lv_goto (tgt := 43) hC.1 hC.2.1 dX5_near_33 (by decide) ?_
        exact x_iret hC hw dX5_near_43 (by first | decide | omega) (by first | decide | omega) ⟨0, thk_16, rfl, by omega, Or.inr ⟨by omega, by omega, MGm.of hRk_16 hK⟩⟩
set_option maxHeartbeats 4000000 in
set_option maxRecDepth 100000 in
theorem c_X5_place (l : Launch) (G : xG) {M : HM} {a va oa wa ya : Nat} {wk : Option Nat} {th : Int} {rfd : Int32} {br re la ha : Int} {kp kv : Int32} {qv qw : Nat → Nat} {fa fb : Nat → Option Nat} {V : BW} {O : OW} {fy : Nat → Option Nat} {Wv : VW} {wt : Option VT} {S : Nat → Bool} (hR : MGx G M a va oa wa ya wk th rfd br re la ha kp kv qv qw fa fb V O fy Wv wt S) {K : WA} (hK : abM O wt br re la ha K) {p0 : Int} (hp0 : -2147483648 ≤ p0 ∧ p0 ≤ 2147483647) {p1 : Int} (hp1 : -2147483648 ≤ p1 ∧ p1 ≤ 2147483647) : xMet l G yX5_place wsX5_place 4 92 1 5 [.ref a, .int (iN (p0)), .int (iN (p1))] M (fun r M1 => ∃ (z th1 : Int), r = some (.int (iN z)) ∧ (-2147483648 ≤ z ∧ z ≤ 2147483647) ∧ ((th1 = 0 ∧ ((0 ≤ p0 ∧ p0 ≤ 2) ∧ (0 ≤ p1 ∧ p1 ≤ 99)) ∧ z = A_place (O, V, Wv, K, kp, kv, rfd) p0 p1 ∧ MGm G M1 a S th1 (O, V, Wv, K, kp, kv, rfd)) ∨ (th1 ≠ 0 ∧ ((th1 = 1 ∧ ¬ (0 ≤ p0 ∧ p0 ≤ 2)) ∨ (th1 = 2 ∧ (0 ≤ p0 ∧ p0 ≤ 2) ∧ ¬ (0 ≤ p1 ∧ p1 ≤ 99))) ∧ MGm G M1 a S th1 (O, V, Wv, K, kp, kv, rfd)))) := by
  refine x_intro (cc := cX5_place) (maxL := 3) (ret := (some .int)) (by exact pln_RX5) rfl (Nat.le_of_ble_eq_true rfl) ?_
  intro p e R s m args below meth c ls hRf hRc hRs hRl hC hw hl
  have hsc0 := hR.sc.1
  have hl : lv_has ls 3 [(0, .ref a), (1, .int (iN (p0))), (2, .int (iN (p1)))] := hl
  refine lv_aload_n hC.1 hC.2.1 dX5_place_0 rfl (lv_at hl 0 rfl) ?_
  refine lv_iload_n hC.1 hC.2.1 dX5_place_1 rfl (lv_at hl 1 rfl) ?_
  refine lv_iload_n hC.1 hC.2.1 dX5_place_2 rfl (lv_at hl 2 rfl) ?_
  refine x_callV hC hw (lv_size hl) (c_X5_isBad l G hR (p0 := p0) (by first | assumption | omega) (p1 := p1) (by first | assumption | omega)) gX5_place_X5_isBad rfl dv_X5_isBad hR.1.1 rfl rfl (Nat.le_of_ble_eq_true rfl) (by rw [hRf]; decide) (by rw [hRl]; decide) (by first | (rw [hRc]; decide) | omega) (by first | (rw [hRs]; decide) | omega) dX5_place_3 (fun r9 M_1 H locs hq hw => ?_)
  obtain ⟨z_3, thk_2, rfl, hz_3r, hx5k_2, hRk_2⟩ := hq
  have hsck_2 := hRk_2.sc.1
  show W p l e R s m args below meth c H locs _ _ _ (F0 m 6 ls [.int (iN (z_3))])
  refine x_if_eq (tgt := 13) hC ⟨by omega, by omega⟩ dX5_place_6 (by decide) (fun c_4 => ?_) (fun c_4 => ?_)
  · replace hz_3r := (hz_3r.resolve_right (fun q9 => absurd (q9.1.symm.trans c_4) (by decide))).2
    refine lv_aload_n hC.1 hC.2.1 dX5_place_13 rfl (lv_at hl 0 rfl) ?_
    refine lv_iload_n hC.1 hC.2.1 dX5_place_14 rfl (lv_at hl 1 rfl) ?_
    refine lv_iload_n hC.1 hC.2.1 dX5_place_15 rfl (lv_at hl 2 rfl) ?_
    refine x_callV hC hw (lv_size hl) (c_X5_ahead l G hRk_2 (p0 := p0) (by first | assumption | omega) (p1 := p1) (by first | assumption | omega) (by omega) (by omega)) gX5_place_X5_ahead rfl dv_X5_ahead hRk_2.1.1 rfl rfl (Nat.le_of_ble_eq_true rfl) (by rw [hRf]; decide) (by rw [hRl]; decide) (by first | (rw [hRc]; decide) | omega) (by first | (rw [hRs]; decide) | omega) dX5_place_16 (fun r9 M_5 H locs hq hw => ?_)
    obtain ⟨z_6, rfl, hxz_6, hz_6a, hz_6h⟩ := hq
    have h_7 := hRk_2.ext hxz_6
    show W p l e R s m args below meth c H locs _ _ _ (F0 m 19 ls [.int (iN (z_6))])
    exact x_iret hC hw dX5_place_19 (by first | decide | omega) (by first | decide | omega) ⟨z_6, thk_2, rfl, ⟨by omega, by omega⟩, Or.inl ⟨by omega, ⟨⟨(by first | omega | trivial), (by first | omega | trivial)⟩, ⟨(by first | omega | trivial), (by first | omega | trivial)⟩⟩, hz_6h, MGm.of h_7 hK⟩⟩
  · replace hz_3r := (hz_3r.resolve_left (fun q9 => c_4 q9.1)).2
    refine x_const hC dX5_place_9 ?_
    refine lv_goto (tgt := 19) hC.1 hC.2.1 dX5_place_10 (by decide) ?_
    exact x_iret hC hw dX5_place_19 (by first | decide | omega) (by first | decide | omega) ⟨0, thk_2, rfl, by omega, Or.inr ⟨by omega, by omega, MGm.of hRk_2 hK⟩⟩
set_option maxHeartbeats 4000000 in
set_option maxRecDepth 100000 in
theorem c_X5_at (l : Launch) (G : xG) {M : HM} {a va oa wa ya : Nat} {wk : Option Nat} {th : Int} {rfd : Int32} {br re la ha : Int} {kp kv : Int32} {qv qw : Nat → Nat} {fa fb : Nat → Option Nat} {V : BW} {O : OW} {fy : Nat → Option Nat} {Wv : VW} {wt : Option VT} {S : Nat → Bool} (hR : MGx G M a va oa wa ya wk th rfd br re la ha kp kv qv qw fa fb V O fy Wv wt S) {K : WA} (hK : abM O wt br re la ha K) {p0 : Int} (hp0 : -2147483648 ≤ p0 ∧ p0 ≤ 2147483647) {p1 : Int} (hp1 : -2147483648 ≤ p1 ∧ p1 ≤ 2147483647) : xMet l G yX5_at wsX5_at 4 92 100 500 [.ref a, .int (iN (p0)), .int (iN (p1))] M (fun r M1 => ∃ (z th1 : Int), r = some (.int (iN z)) ∧ (-2147483648 ≤ z ∧ z ≤ 2147483647) ∧ ((th1 = 0 ∧ ((0 ≤ p0 ∧ p0 ≤ 2) ∧ (0 ≤ p1)) ∧ atQ O V p0.toNat p1 z ∧ MGm G M1 a S th1 (O, V, Wv, K, kp, kv, rfd)) ∨ (th1 ≠ 0 ∧ ((th1 = 1 ∧ ¬ (0 ≤ p0 ∧ p0 ≤ 2)) ∨ (th1 = 2 ∧ (0 ≤ p0 ∧ p0 ≤ 2) ∧ ¬ (0 ≤ p1))) ∧ MGm G M1 a S th1 (O, V, Wv, K, kp, kv, rfd)))) := by
  refine x_intro (cc := cX5_at) (maxL := 4) (ret := (some .int)) (by exact pln_RX5) rfl (Nat.le_of_ble_eq_true rfl) ?_
  intro p e R s m args below meth c ls hRf hRc hRs hRl hC hw hl
  have hsc0 := hR.sc.1
  have hinX5 : ∀ w ∈ wsX50, w ∈ wsX5_at := fun w h => (List.mem_cons_of_mem _ (List.mem_append_right _ h))
  have hl : lv_has ls 4 [(0, .ref a), (1, .int (iN (p0))), (2, .int (iN (p1)))] := hl
  refine lv_aload_n hC.1 hC.2.1 dX5_at_0 rfl (lv_at hl 0 rfl) ?_
  refine lv_iload_n hC.1 hC.2.1 dX5_at_1 rfl (lv_at hl 1 rfl) ?_
  refine x_callS hC hw (lv_size hl) (c_X5_isNoBook l G (M := M) (p0 := p0) (by first | assumption | omega)) gX5_at_X5_isNoBook rfl dv_X5_isNoBook_s rfl (Nat.le_of_ble_eq_true rfl) (by rw [hRf]; decide) (by rw [hRl]; decide) (by first | (rw [hRc]; decide) | omega) (by first | (rw [hRs]; decide) | omega) dX5_at_2 (fun r9 M_1 H locs hq hw => ?_)
  obtain ⟨z_2, rfl, hM9, hz_2a, hz_2b⟩ := hq
  rw [hM9] at hw
  show W p l e R s m args below meth c H locs _ _ _ (F0 m 5 ls [.int (iN (z_2)), .ref a])
  refine x_const hC dX5_at_5 ?_
  refine x_callV hC hw (lv_size hl) (c_X5_start l G hR (p0 := z_2) (by omega) (p1 := 1) (by omega) (by omega)) gX5_at_X5_start rfl dv_X5_start hR.1.1 rfl rfl (Nat.le_of_ble_eq_true rfl) (by rw [hRf]; decide) (by rw [hRl]; decide) (by first | (rw [hRc]; decide) | omega) (by first | (rw [hRs]; decide) | omega) dX5_at_6 (fun r9 M_3 H locs hq hw => ?_)
  obtain ⟨z_5, thk_4, rfl, hz_5r, hx5k_4, hRk_4⟩ := hq
  have hsck_4 := hRk_4.sc.1
  show W p l e R s m args below meth c H locs _ _ _ (F0 m 9 ls [.int (iN (z_5))])
  refine x_if_ne (tgt := 29) hC ⟨by omega, by omega⟩ dX5_at_9 (by decide) (fun c_6 => ?_) (fun c_6 => ?_)
  · replace hz_5r := (hz_5r.resolve_left (fun q9 => c_6 q9.1)).2
    replace hz_2b := mt hz_2b.mpr hz_5r.1
    refine x_const hC dX5_at_29 ?_
    exact x_iret hC hw dX5_at_30 (by first | decide | omega) (by first | decide | omega) ⟨0, thk_4, rfl, by omega, Or.inr ⟨by omega, by omega, MGm.of hRk_4 hK⟩⟩
  · replace hz_5r := (hz_5r.resolve_right (fun q9 => absurd (q9.1.symm.trans c_6) (by decide))).2
    replace hz_2b := hz_2b.mp hz_5r.2
    refine lv_aload_n hC.1 hC.2.1 dX5_at_12 rfl (lv_at hl 0 rfl) ?_
    refine lv_iload_n hC.1 hC.2.1 dX5_at_13 rfl (lv_at hl 2 rfl) ?_
    refine x_if_ge (tgt := 21) hC ⟨by omega, by omega⟩ dX5_at_14 (by decide) (fun c_7 => ?_) (fun c_7 => ?_)
    · refine x_const hC dX5_at_21 ?_
      refine x_const hC dX5_at_22 ?_
      refine x_callV hC hw (lv_size hl) (c_X5_refuse l G hRk_4 (p0 := 0) (by omega) (p1 := 2) (by omega) (by omega)) gX5_at_X5_refuse rfl dv_X5_refuse hRk_4.1.1 rfl rfl (Nat.le_of_ble_eq_true rfl) (by rw [hRf]; decide) (by rw [hRl]; decide) (by first | (rw [hRc]; decide) | omega) (by first | (rw [hRs]; decide) | omega) dX5_at_23 (fun r9 M_8 H locs hq hw => ?_)
      obtain ⟨z_10, thk_9, rfl, hz_10r, hx5k_9, hRk_9⟩ := hq
      have hsck_9 := hRk_9.sc.1
      show W p l e R s m args below meth c H locs _ _ _ (F0 m 26 ls [.int (iN (z_10))])
      refine x_if_eq (tgt := 31) hC ⟨by omega, by omega⟩ dX5_at_26 (by decide) (fun c_11 => ?_) (fun c_11 => ?_)
      · replace hz_10r := (hz_10r.resolve_right (fun q9 => absurd (q9.1.symm.trans c_11) (by decide))).2
        refine x_const hC dX5_at_31 ?_
        refine lv_istore_n (lv' := [(3, .int (iN (0))), (0, .ref a), (1, .int (iN (p0))), (2, .int (iN (p1)))]) hC.1 hC.2.1 dX5_at_32 rfl hl (by decide) rfl (fun ls hl => ?_)
        suffices hloop33 : ∀ (n9 : Nat) (j : Int) (cu33 : Nat) (su33 : Nat) (Ma : HM) (hxa : xExt M_8 Ma) (H : Heap) (locs : List Loc) (ls : Array Slot), (hmz33 : (100 - j).toNat < n9) → (hi0 : 0 ≤ j ∧ j ≤ 100) → (hno : ∀ k : Nat, (k : Int) < j → V (p0).toNat k ≠ -10000 → ahF O V (p0).toNat k 100 ≠ p1) → (hcu33 : (cu33 : Int) ≤ j) → (hsu33 : (su33 : Int) ≤ 5 * j) → xD G (xA M s.heap.size) s Ma H locs → lv_has ls 4 [(0, .ref a), (1, .int (iN (p0))), (2, .int (iN (p1))), (3, .int (iN (j)))] → W p l e R s m args below meth c H locs cu33 su33 _ (F0 m 33 ls []) by
          exact hloop33 _ 0 0 0 _ xExt.rf _ _ _ (Nat.lt_succ_self _) (by omega) (fun k9 hk9 => absurd hk9 (by omega)) (by omega) (by omega) hw (lv_sub hl [1, 2, 3, 0] rfl)
        intro n9
        induction n9 with
        | zero => intro j cu33 su33 Ma hxa H locs ls hmz; exact absurd hmz (Nat.not_lt_zero _)
        | succ n9 ih33 =>
          intro j cu33 su33 Ma hxa H locs ls hmz33 hi0 hno hcu33 hsu33 hw hl
          have h_12 := hRk_9.ext hxa
          refine lv_iload_n hC.1 hC.2.1 dX5_at_33 rfl (lv_at hl 3 rfl) ?_
          refine x_bipush hC dX5_at_34 (by decide +kernel) ?_
          refine x_icmp_ge (tgt := 71) hC ⟨by omega, by omega⟩ ⟨by omega, by omega⟩ dX5_at_36 (by decide) (fun c_13 => ?_) (fun c_13 => ?_)
          · refine x_sipush hC dX5_at_71 (by decide +kernel) ?_
            exact x_iret hC hw dX5_at_74 (by first | decide | omega) (by first | decide | omega) ⟨(-10000), thk_9, rfl, ⟨by omega, by omega⟩, Or.inl ⟨by omega, ⟨⟨(by first | omega | trivial), (by first | omega | trivial)⟩, (by first | omega | trivial)⟩, (Or.inl ⟨rfl, fun k9 hk9 hv9 => hno k9 (by omega) hv9⟩), MGm.of h_12 hK⟩⟩
          · refine lv_aload_n hC.1 hC.2.1 dX5_at_39 rfl (lv_at hl 0 rfl) ?_
            refine x_get hC hw h_12.1.1 rfl hinX5 2 (by decide) (List.mem_cons_of_mem _ (List.mem_append_left _ (List.mem_append_left _ (List.mem_of_getElem? (i := 0) rfl)))) rfl dX5_at_40 ?_
            refine lv_iload_n hC.1 hC.2.1 dX5_at_43 rfl (lv_at hl 1 rfl) ?_
            refine x_ald4 hC hw h_12.1.2.1 (by omega) (by omega) (by omega) dX5_at_44 ?_
            rw [h_12.fa' (show (p0).toNat < 3 from tn_lt (by omega) (by decide))]
            show W p l e R s m args below meth c _ _ _ _ _ (F0 m 45 ls [.ref (qv ((p0).toNat))])
            refine lv_iload_n hC.1 hC.2.1 dX5_at_45 rfl (lv_at hl 3 rfl) ?_
            refine x_ialdE (x := (V ((p0).toNat) ((j).toNat))) hC hw (h_12.rv (show ((p0).toNat) < 3 from tn_lt (by omega) (by decide))) (by omega) (by omega) (by omega) dX5_at_46 rfl ?_
            have hrv_14 := h_12.vr (show ((p0).toNat) < 3 from tn_lt (by omega) (by decide)) (show (j).toNat < 100 from tn_lt (by omega) (by decide))
            have hpv_14 := h_12.vs (show ((p0).toNat) < 3 from tn_lt (by omega) (by decide)) (show (j).toNat < 100 from tn_lt (by omega) (by decide))
            refine x_sipush hC dX5_at_47 (by decide +kernel) ?_
            refine x_icmp_eq (tgt := 65) hC ⟨by omega, by omega⟩ ⟨by omega, by omega⟩ dX5_at_50 (by decide) (fun c_15 => ?_) (fun c_15 => ?_)
            · refine x_iinc (lv' := [(3, .int (iN (j + 1))), (0, .ref a), (1, .int (iN (p0))), (2, .int (iN (p1)))]) hC dX5_at_65 hl (k := 3) rfl (by decide) rfl (fun ls hl => ?_)
              refine lv_goto (tgt := 33) hC.1 hC.2.1 dX5_at_68 (by decide) ?_
              exact ih33 (j + 1) cu33 su33 _ (hxa) _ _ _ (by first | exact mu_s hmz33 (by omega) | omega) (by omega) (fun k9 hk9 hv9 => by by_cases e9 : (k9 : Int) < j; (· exact hno k9 e9 hv9); (· rw [show k9 = (j).toNat by omega] at hv9 ⊢; intro q8; omega)) (by omega) (by omega) hw (lv_sub hl [1, 2, 3, 0] rfl)
            · refine lv_aload_n hC.1 hC.2.1 dX5_at_53 rfl (lv_at hl 0 rfl) ?_
              refine lv_iload_n hC.1 hC.2.1 dX5_at_54 rfl (lv_at hl 1 rfl) ?_
              refine lv_iload_n hC.1 hC.2.1 dX5_at_55 rfl (lv_at hl 3 rfl) ?_
              refine x_callV hC hw (lv_size hl) (c_X5_ahead l G h_12 (p0 := p0) (by first | assumption | omega) (p1 := j) (by omega) (by omega) (by omega)) gX5_at_X5_ahead rfl dv_X5_ahead h_12.1.1 rfl rfl (Nat.le_of_ble_eq_true rfl) (by rw [hRf]; decide) (by rw [hRl]; decide) (by first | (rw [hRc]; decide) | omega) (by first | (rw [hRs]; decide) | omega) dX5_at_56 (fun r9 M_16 H locs hq hw => ?_)
              obtain ⟨z_17, rfl, hxz_17, hz_17a, hz_17h⟩ := hq
              have h_18 := h_12.ext hxz_17
              show W p l e R s m args below meth c H locs _ _ _ (F0 m 59 ls [.int (iN (z_17))])
              refine lv_iload_n hC.1 hC.2.1 dX5_at_59 rfl (lv_at hl 2 rfl) ?_
              refine x_icmp_ne (tgt := 65) hC ⟨by omega, by omega⟩ ⟨by omega, by omega⟩ dX5_at_60 (by decide) (fun c_19 => ?_) (fun c_19 => ?_)
              · refine x_iinc (lv' := [(3, .int (iN (j + 1))), (0, .ref a), (1, .int (iN (p0))), (2, .int (iN (p1)))]) hC dX5_at_65 hl (k := 3) rfl (by decide) rfl (fun ls hl => ?_)
                refine lv_goto (tgt := 33) hC.1 hC.2.1 dX5_at_68 (by decide) ?_
                exact ih33 (j + 1) (cu33 + 1) (su33 + 5) _ ((xExt.tr hxa hxz_17)) _ _ _ (by first | exact mu_s hmz33 (by omega) | omega) (by omega) (fun k9 hk9 hv9 => by by_cases e9 : (k9 : Int) < j; (· exact hno k9 e9 hv9); (· rw [show k9 = (j).toNat by omega] at hv9 ⊢; rw [show (j).toNat = (j).toNat from rfl]; intro q8; have e8 := hz_17h; omega)) (by omega) (by omega) hw (lv_sub hl [1, 2, 3, 0] rfl)
              · refine lv_iload_n hC.1 hC.2.1 dX5_at_63 rfl (lv_at hl 3 rfl) ?_
                exact x_iret hC hw dX5_at_64 (by first | decide | omega) (by first | decide | omega) ⟨j, thk_9, rfl, ⟨by omega, by omega⟩, Or.inl ⟨by omega, ⟨⟨(by first | omega | trivial), (by first | omega | trivial)⟩, (by first | omega | trivial)⟩, (Or.inr ⟨by omega, by omega, by have e9 := hz_17h; omega⟩), MGm.of h_18 hK⟩⟩
      · replace hz_10r := (hz_10r.resolve_left (fun q9 => c_11 q9.1)).2
        refine x_const hC dX5_at_29 ?_
        exact x_iret hC hw dX5_at_30 (by first | decide | omega) (by first | decide | omega) ⟨0, thk_9, rfl, by omega, Or.inr ⟨by omega, by omega, MGm.of hRk_9 hK⟩⟩
    · refine x_const hC dX5_at_17 ?_
      refine lv_goto (tgt := 22) hC.1 hC.2.1 dX5_at_18 (by decide) ?_
      refine x_const hC dX5_at_22 ?_
      refine x_callV hC hw (lv_size hl) (c_X5_refuse l G hRk_4 (p0 := 1) (by omega) (p1 := 2) (by omega) (by omega)) gX5_at_X5_refuse rfl dv_X5_refuse hRk_4.1.1 rfl rfl (Nat.le_of_ble_eq_true rfl) (by rw [hRf]; decide) (by rw [hRl]; decide) (by first | (rw [hRc]; decide) | omega) (by first | (rw [hRs]; decide) | omega) dX5_at_23 (fun r9 M_20 H locs hq hw => ?_)
      obtain ⟨z_22, thk_21, rfl, hz_22r, hx5k_21, hRk_21⟩ := hq
      have hsck_21 := hRk_21.sc.1
      show W p l e R s m args below meth c H locs _ _ _ (F0 m 26 ls [.int (iN (z_22))])
      refine x_if_eq (tgt := 31) hC ⟨by omega, by omega⟩ dX5_at_26 (by decide) (fun c_23 => ?_) (fun c_23 => ?_)
      · replace hz_22r := (hz_22r.resolve_right (fun q9 => absurd (q9.1.symm.trans c_23) (by decide))).2
        exact absurd hz_22r.2.2 (by decide)
      · replace hz_22r := (hz_22r.resolve_left (fun q9 => c_23 q9.1)).2
        refine x_const hC dX5_at_29 ?_
        exact x_iret hC hw dX5_at_30 (by first | decide | omega) (by first | decide | omega) ⟨0, thk_21, rfl, by omega, Or.inr ⟨by omega, by omega, MGm.of hRk_21 hK⟩⟩
