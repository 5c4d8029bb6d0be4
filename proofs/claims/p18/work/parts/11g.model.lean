/-! the methods of the model, by program -/
set_option maxHeartbeats 4000000 in
set_option maxRecDepth 100000 in
theorem c_X5_areSame (l : Launch) (G : xG) {M : HM} {a va oa wa ya : Nat} {wk : Option Nat} {th : Int} {rfd : Int32} {br re la ha : Int} {kp kv : Int32} {qv qw : Nat → Nat} {fa fb : Nat → Option Nat} {V : BW} {O : OW} {fy : Nat → Option Nat} {Wv : VW} {wt : Option VT} {S : Nat → Bool} (hR : MGx G M a va oa wa ya wk th rfd br re la ha kp kv qv qw fa fb V O fy Wv wt S) {p0 : Int} (hp0 : -2147483648 ≤ p0 ∧ p0 ≤ 2147483647) {p1 : Int} (hp1 : -2147483648 ≤ p1 ∧ p1 ≤ 2147483647) (hob : 0 ≤ p0 ∧ p0 ≤ 2) (hoc : 0 ≤ p1 ∧ p1 ≤ 2) : xMet l G yX5_areSame wsX5_areSame 0 0 0 0 [.ref a, .int (iN (p0)), .int (iN (p1))] M (fun r M1 => ∃ z : Int, r = some (.int (iN z)) ∧ M1 = M ∧ (z = 0 ∨ z = 1) ∧ z = (if dfF (V p0.toNat) (V p1.toNat) 100 = 0 then 1 else 0)) := by
  refine x_intro (cc := cX5_areSame) (maxL := 4) (ret := (some .boolean)) (by exact pln_RX5) rfl (Nat.le_of_ble_eq_true rfl) ?_
  intro p e R s m args below meth c ls hRf hRc hRs hRl hC hw hl
  have hsc0 := hR.sc.1
  have hinX5 : ∀ w ∈ wsX50, w ∈ wsX5_areSame := fun w h => (List.mem_cons_of_mem _ (List.mem_append_right _ h))
  have hl : lv_has ls 4 [(0, .ref a), (1, .int (iN (p0))), (2, .int (iN (p1)))] := hl
  refine x_const hC dX5_areSame_0 ?_
  refine lv_istore_n (lv' := [(3, .int (iN (0))), (0, .ref a), (1, .int (iN (p0))), (2, .int (iN (p1)))]) hC.1 hC.2.1 dX5_areSame_1 rfl hl (by decide) rfl (fun ls hl => ?_)
  suffices hloop2 : ∀ (n9 : Nat) (j : Int) (H : Heap) (locs : List Loc) (ls : Array Slot), (hmz2 : (100 - j).toNat < n9) → (hi0 : 0 ≤ j ∧ j ≤ 100) → (hdf : dfF (V (p0).toNat) (V (p1).toNat) (j).toNat = 0) → xD G (xA M s.heap.size) s M H locs → lv_has ls 4 [(0, .ref a), (1, .int (iN (p0))), (2, .int (iN (p1))), (3, .int (iN (j)))] → W p l e R s m args below meth c H locs _ _ _ (F0 m 2 ls []) by
    exact hloop2 _ 0  _ _ _ (Nat.lt_succ_self _) (by omega) (rfl) hw (lv_sub hl [1, 2, 3, 0] rfl)
  intro n9
  induction n9 with
  | zero => intro j  H locs ls hmz; exact absurd hmz (Nat.not_lt_zero _)
  | succ n9 ih2 =>
    intro j  H locs ls hmz2 hi0 hdf hw hl
    refine lv_iload_n hC.1 hC.2.1 dX5_areSame_2 rfl (lv_at hl 3 rfl) ?_
    refine x_bipush hC dX5_areSame_3 (by decide +kernel) ?_
    refine x_icmp_ge (tgt := 35) hC ⟨by omega, by omega⟩ ⟨by omega, by omega⟩ dX5_areSame_5 (by decide) (fun c_1 => ?_) (fun c_1 => ?_)
    · refine x_const hC dX5_areSame_35 ?_
      exact x_zret hC hw (by omega) dX5_areSame_36 (by first | decide | omega) (by first | decide | omega) ⟨1, rfl, rfl, by omega, (by rw [show (100 : Nat) = (j).toNat from (tn_eq (by omega)).symm, hdf]; rfl)⟩
    · refine lv_aload_n hC.1 hC.2.1 dX5_areSame_8 rfl (lv_at hl 0 rfl) ?_
      refine x_get hC hw hR.1.1 rfl hinX5 2 (by decide) (List.mem_cons_of_mem _ (List.mem_append_left _ (List.mem_of_getElem? (i := 0) rfl))) rfl dX5_areSame_9 ?_
      refine lv_iload_n hC.1 hC.2.1 dX5_areSame_12 rfl (lv_at hl 1 rfl) ?_
      refine x_ald4 hC hw hR.1.2.1 (by omega) (by omega) (by omega) dX5_areSame_13 ?_
      rw [hR.fa' (show (p0).toNat < 3 from tn_lt (by omega) (by decide))]
      show W p l e R s m args below meth c _ _ _ _ _ (F0 m 14 ls [.ref (qv ((p0).toNat))])
      refine lv_iload_n hC.1 hC.2.1 dX5_areSame_14 rfl (lv_at hl 3 rfl) ?_
      refine x_ialdE (x := (V ((p0).toNat) ((j).toNat))) hC hw (hR.rv (show ((p0).toNat) < 3 from tn_lt (by omega) (by decide))) (by omega) (by omega) (by omega) dX5_areSame_15 rfl ?_
      have hrv_2 := hR.vr (show ((p0).toNat) < 3 from tn_lt (by omega) (by decide)) (show (j).toNat < 100 from tn_lt (by omega) (by decide))
      have hpv_2 := hR.vs (show ((p0).toNat) < 3 from tn_lt (by omega) (by decide)) (show (j).toNat < 100 from tn_lt (by omega) (by decide))
      refine lv_aload_n hC.1 hC.2.1 dX5_areSame_16 rfl (lv_at hl 0 rfl) ?_
      refine x_get hC hw hR.1.1 rfl hinX5 2 (by decide) (List.mem_cons_of_mem _ (List.mem_append_left _ (List.mem_of_getElem? (i := 0) rfl))) rfl dX5_areSame_17 ?_
      refine lv_iload_n hC.1 hC.2.1 dX5_areSame_20 rfl (lv_at hl 2 rfl) ?_
      refine x_ald4 hC hw hR.1.2.1 (by omega) (by omega) (by omega) dX5_areSame_21 ?_
      rw [hR.fa' (show (p1).toNat < 3 from tn_lt (by omega) (by decide))]
      show W p l e R s m args below meth c _ _ _ _ _ (F0 m 22 ls [.ref (qv ((p1).toNat)), .int (iN ((V ((p0).toNat) ((j).toNat))))])
      refine lv_iload_n hC.1 hC.2.1 dX5_areSame_22 rfl (lv_at hl 3 rfl) ?_
      refine x_ialdE (x := (V ((p1).toNat) ((j).toNat))) hC hw (hR.rv (show ((p1).toNat) < 3 from tn_lt (by omega) (by decide))) (by omega) (by omega) (by omega) dX5_areSame_23 rfl ?_
      have hrv_3 := hR.vr (show ((p1).toNat) < 3 from tn_lt (by omega) (by decide)) (show (j).toNat < 100 from tn_lt (by omega) (by decide))
      have hpv_3 := hR.vs (show ((p1).toNat) < 3 from tn_lt (by omega) (by decide)) (show (j).toNat < 100 from tn_lt (by omega) (by decide))
      refine x_icmp_eq (tgt := 29) hC ⟨by omega, by omega⟩ ⟨by omega, by omega⟩ dX5_areSame_24 (by decide) (fun c_4 => ?_) (fun c_4 => ?_)
      · refine x_iinc (lv' := [(3, .int (iN (j + 1))), (0, .ref a), (1, .int (iN (p0))), (2, .int (iN (p1)))]) hC dX5_areSame_29 hl (k := 3) rfl (by decide) rfl (fun ls hl => ?_)
        refine lv_goto (tgt := 2) hC.1 hC.2.1 dX5_areSame_32 (by decide) ?_
        exact ih2 (j + 1)  _ _ _ (by first | exact mu_s hmz2 (by omega) | omega) (by omega) (by rw [dfF_s (by omega) rfl, if_pos (by omega), hdf]; rfl) hw (lv_sub hl [1, 2, 3, 0] rfl)
      · refine x_const hC dX5_areSame_27 ?_
        exact x_zret hC hw (by omega) dX5_areSame_28 (by first | decide | omega) (by first | decide | omega) ⟨0, rfl, rfl, by omega, (by have e9 := dfF_ne (X := V (p0).toNat) (Y := V (p1).toNat) (show (j).toNat < 100 from tn_lt (by omega) (by decide)) (by omega); rw [if_neg e9])⟩
set_option maxHeartbeats 4000000 in
set_option maxRecDepth 100000 in
theorem c_X5_same (l : Launch) (G : xG) {M : HM} {a va oa wa ya : Nat} {wk : Option Nat} {th : Int} {rfd : Int32} {br re la ha : Int} {kp kv : Int32} {qv qw : Nat → Nat} {fa fb : Nat → Option Nat} {V : BW} {O : OW} {fy : Nat → Option Nat} {Wv : VW} {wt : Option VT} {S : Nat → Bool} (hR : MGx G M a va oa wa ya wk th rfd br re la ha kp kv qv qw fa fb V O fy Wv wt S) {K : WA} (hK : abM O wt br re la ha K) {p0 : Int} (hp0 : -2147483648 ≤ p0 ∧ p0 ≤ 2147483647) {p1 : Int} (hp1 : -2147483648 ≤ p1 ∧ p1 ≤ 2147483647) : xMet l G yX5_same wsX5_same 2 44 0 0 [.ref a, .int (iN (p0)), .int (iN (p1))] M (fun r M1 => ∃ (z th1 : Int), r = some (.int (iN z)) ∧ (z = 0 ∨ z = 1) ∧ ((th1 = 0 ∧ (((0 ≤ p0 ∧ p0 ≤ 2) ∧ (0 ≤ p1 ∧ p1 ≤ 2))) ∧ z = A_same (O, V, Wv, K, kp, kv, rfd) p0 p1 ∧ MGm G M1 a S th1 (O, V, Wv, K, kp, kv, rfd)) ∨ (th1 ≠ 0 ∧ ((th1 = 1 ∧ ¬ ((0 ≤ p0 ∧ p0 ≤ 2) ∧ (0 ≤ p1 ∧ p1 ≤ 2)))) ∧ MGm G M1 a S th1 (O, V, Wv, K, kp, kv, rfd)))) := by
  refine x_intro (cc := cX5_same) (maxL := 3) (ret := (some .boolean)) (by exact pln_RX5) rfl (Nat.le_of_ble_eq_true rfl) ?_
  intro p e R s m args below meth c ls hRf hRc hRs hRl hC hw hl
  have hsc0 := hR.sc.1
  have hl : lv_has ls 3 [(0, .ref a), (1, .int (iN (p0))), (2, .int (iN (p1)))] := hl
  refine lv_aload_n hC.1 hC.2.1 dX5_same_0 rfl (lv_at hl 0 rfl) ?_
  refine lv_iload_n hC.1 hC.2.1 dX5_same_1 rfl (lv_at hl 1 rfl) ?_
  refine x_callS hC hw (lv_size hl) (c_X5_isNoBook l G (M := M) (p0 := p0) (by first | assumption | omega)) gX5_same_X5_isNoBook rfl dv_X5_isNoBook_s rfl (Nat.le_of_ble_eq_true rfl) (by rw [hRf]; decide) (by rw [hRl]; decide) (by first | (rw [hRc]; decide) | omega) (by first | (rw [hRs]; decide) | omega) dX5_same_2 (fun r9 M_1 H locs hq hw => ?_)
  obtain ⟨z_2, rfl, hM9, hz_2a, hz_2b⟩ := hq
  rw [hM9] at hw
  show W p l e R s m args below meth c H locs _ _ _ (F0 m 5 ls [.int (iN (z_2)), .ref a])
  refine x_if_ne (tgt := 15) hC ⟨by omega, by omega⟩ dX5_same_5 (by decide) (fun c_3 => ?_) (fun c_3 => ?_)
  · replace hz_2b := mt hz_2b.mpr c_3
    refine x_const hC dX5_same_15 ?_
    refine lv_goto (tgt := 20) hC.1 hC.2.1 dX5_same_16 (by decide) ?_
    refine x_const hC dX5_same_20 ?_
    refine x_callV hC hw (lv_size hl) (c_X5_start l G hR (p0 := 1) (by omega) (p1 := 1) (by omega) (by omega)) gX5_same_X5_start rfl dv_X5_start hR.1.1 rfl rfl (Nat.le_of_ble_eq_true rfl) (by rw [hRf]; decide) (by rw [hRl]; decide) (by first | (rw [hRc]; decide) | omega) (by first | (rw [hRs]; decide) | omega) dX5_same_21 (fun r9 M_4 H locs hq hw => ?_)
    obtain ⟨z_6, thk_5, rfl, hz_6r, hx5k_5, hRk_5⟩ := hq
    have hsck_5 := hRk_5.sc.1
    show W p l e R s m args below meth c H locs _ _ _ (F0 m 24 ls [.int (iN (z_6))])
    refine x_if_ne (tgt := 40) hC ⟨by omega, by omega⟩ dX5_same_24 (by decide) (fun c_7 => ?_) (fun c_7 => ?_)
    · replace hz_6r := (hz_6r.resolve_left (fun q9 => c_7 q9.1)).2
      refine x_const hC dX5_same_40 ?_
      exact x_zret hC hw (by omega) dX5_same_41 (by first | decide | omega) (by first | decide | omega) ⟨0, thk_5, rfl, by omega, Or.inr ⟨by omega, by omega, MGm.of hRk_5 hK⟩⟩
    · replace hz_6r := (hz_6r.resolve_right (fun q9 => absurd (q9.1.symm.trans c_7) (by decide))).2
      exact absurd hz_6r.2 (by decide)
  · replace hz_2b := hz_2b.mp c_3
    refine lv_iload_n hC.1 hC.2.1 dX5_same_8 rfl (lv_at hl 2 rfl) ?_
    refine x_callS hC hw (lv_size hl) (c_X5_isNoBook l G (M := M) (p0 := p1) (by first | assumption | omega)) gX5_same_X5_isNoBook rfl dv_X5_isNoBook_s rfl (Nat.le_of_ble_eq_true rfl) (by rw [hRf]; decide) (by rw [hRl]; decide) (by first | (rw [hRc]; decide) | omega) (by first | (rw [hRs]; decide) | omega) dX5_same_9 (fun r9 M_8 H locs hq hw => ?_)
    obtain ⟨z_9, rfl, hM9, hz_9a, hz_9b⟩ := hq
    rw [hM9] at hw
    show W p l e R s m args below meth c H locs _ _ _ (F0 m 12 ls [.int (iN (z_9)), .ref a])
    refine x_if_eq (tgt := 19) hC ⟨by omega, by omega⟩ dX5_same_12 (by decide) (fun c_10 => ?_) (fun c_10 => ?_)
    · replace hz_9b := hz_9b.mp c_10
      refine x_const hC dX5_same_19 ?_
      refine x_const hC dX5_same_20 ?_
      refine x_callV hC hw (lv_size hl) (c_X5_start l G hR (p0 := 0) (by omega) (p1 := 1) (by omega) (by omega)) gX5_same_X5_start rfl dv_X5_start hR.1.1 rfl rfl (Nat.le_of_ble_eq_true rfl) (by rw [hRf]; decide) (by rw [hRl]; decide) (by first | (rw [hRc]; decide) | omega) (by first | (rw [hRs]; decide) | omega) dX5_same_21 (fun r9 M_11 H locs hq hw => ?_)
      obtain ⟨z_13, thk_12, rfl, hz_13r, hx5k_12, hRk_12⟩ := hq
      have hsck_12 := hRk_12.sc.1
      show W p l e R s m args below meth c H locs _ _ _ (F0 m 24 ls [.int (iN (z_13))])
      refine x_if_ne (tgt := 40) hC ⟨by omega, by omega⟩ dX5_same_24 (by decide) (fun c_14 => ?_) (fun c_14 => ?_)
      · replace hz_13r := (hz_13r.resolve_left (fun q9 => c_14 q9.1)).2
        refine x_const hC dX5_same_40 ?_
        exact x_zret hC hw (by omega) dX5_same_41 (by first | decide | omega) (by first | decide | omega) ⟨0, thk_12, rfl, by omega, Or.inr ⟨by omega, by omega, MGm.of hRk_12 hK⟩⟩
      · replace hz_13r := (hz_13r.resolve_right (fun q9 => absurd (q9.1.symm.trans c_14) (by decide))).2
        refine lv_aload_n hC.1 hC.2.1 dX5_same_27 rfl (lv_at hl 0 rfl) ?_
        refine lv_iload_n hC.1 hC.2.1 dX5_same_28 rfl (lv_at hl 1 rfl) ?_
        refine lv_iload_n hC.1 hC.2.1 dX5_same_29 rfl (lv_at hl 2 rfl) ?_
        refine x_callV hC hw (lv_size hl) (c_X5_areSame l G hRk_12 (p0 := p0) (by first | assumption | omega) (p1 := p1) (by first | assumption | omega) (by omega) (by omega)) gX5_same_X5_areSame rfl dv_X5_areSame hRk_12.1.1 rfl rfl (Nat.le_of_ble_eq_true rfl) (by rw [hRf]; decide) (by rw [hRl]; decide) (by first | (rw [hRc]; decide) | omega) (by first | (rw [hRs]; decide) | omega) dX5_same_30 (fun r9 M_15 H locs hq hw => ?_)
        obtain ⟨z_16, rfl, hM9, hz_16a, hz_16d⟩ := hq
        rw [hM9] at hw
        show W p l e R s m args below meth c H locs _ _ _ (F0 m 33 ls [.int (iN (z_16))])
        refine x_if_eq (tgt := 40) hC ⟨by omega, by omega⟩ dX5_same_33 (by decide) (fun c_17 => ?_) (fun c_17 => ?_)
        · refine x_const hC dX5_same_40 ?_
          exact x_zret hC hw (by omega) dX5_same_41 (by first | decide | omega) (by first | decide | omega) ⟨0, thk_12, rfl, by omega, Or.inl ⟨by omega, ⟨⟨(by first | omega | trivial), (by first | omega | trivial)⟩, ⟨(by first | omega | trivial), (by first | omega | trivial)⟩⟩, (show _ = (if dfF (V (p0).toNat) (V (p1).toNat) 100 = 0 then 1 else 0) by have e9 := hz_16d; omega), MGm.of hRk_12 hK⟩⟩
        · refine x_const hC dX5_same_36 ?_
          refine lv_goto (tgt := 41) hC.1 hC.2.1 dX5_same_37 (by decide) ?_
          exact x_zret hC hw (by omega) dX5_same_41 (by first | decide | omega) (by first | decide | omega) ⟨1, thk_12, rfl, by omega, Or.inl ⟨by omega, ⟨⟨(by first | omega | trivial), (by first | omega | trivial)⟩, ⟨(by first | omega | trivial), (by first | omega | trivial)⟩⟩, (show _ = (if dfF (V (p0).toNat) (V (p1).toNat) 100 = 0 then 1 else 0) by have e9 := hz_16d; omega), MGm.of hRk_12 hK⟩⟩
    · replace hz_9b := mt hz_9b.mpr c_10
      refine x_const hC dX5_same_15 ?_
      refine lv_goto (tgt := 20) hC.1 hC.2.1 dX5_same_16 (by decide) ?_
      refine x_const hC dX5_same_20 ?_
      refine x_callV hC hw (lv_size hl) (c_X5_start l G hR (p0 := 1) (by omega) (p1 := 1) (by omega) (by omega)) gX5_same_X5_start rfl dv_X5_start hR.1.1 rfl rfl (Nat.le_of_ble_eq_true rfl) (by rw [hRf]; decide) (by rw [hRl]; decide) (by first | (rw [hRc]; decide) | omega) (by first | (rw [hRs]; decide) | omega) dX5_same_21 (fun r9 M_18 H locs hq hw => ?_)
      obtain ⟨z_20, thk_19, rfl, hz_20r, hx5k_19, hRk_19⟩ := hq
      have hsck_19 := hRk_19.sc.1
      show W p l e R s m args below meth c H locs _ _ _ (F0 m 24 ls [.int (iN (z_20))])
      refine x_if_ne (tgt := 40) hC ⟨by omega, by omega⟩ dX5_same_24 (by decide) (fun c_21 => ?_) (fun c_21 => ?_)
      · replace hz_20r := (hz_20r.resolve_left (fun q9 => c_21 q9.1)).2
        refine x_const hC dX5_same_40 ?_
        exact x_zret hC hw (by omega) dX5_same_41 (by first | decide | omega) (by first | decide | omega) ⟨0, thk_19, rfl, by omega, Or.inr ⟨by omega, by omega, MGm.of hRk_19 hK⟩⟩
      · replace hz_20r := (hz_20r.resolve_right (fun q9 => absurd (q9.1.symm.trans c_21) (by decide))).2
        exact absurd hz_20r.2 (by decide)
set_option maxHeartbeats 4000000 in
set_option maxRecDepth 100000 in
theorem c_X5_viewGet (l : Launch) (G : xG) {M : HM} {a va oa wa ya : Nat} {wk : Option Nat} {th : Int} {rfd : Int32} {br re la ha : Int} {kp kv : Int32} {qv qw : Nat → Nat} {fa fb : Nat → Option Nat} {V : BW} {O : OW} {fy : Nat → Option Nat} {Wv : VW} {wt : Option VT} {S : Nat → Bool} (hR : MGx G M a va oa wa ya wk th rfd br re la ha kp kv qv qw fa fb V O fy Wv wt S) {K : WA} (hK : abM O wt br re la ha K) {p0 : Int} (hp0 : -2147483648 ≤ p0 ∧ p0 ≤ 2147483647) {p1 : Int} (hp1 : -2147483648 ≤ p1 ∧ p1 ≤ 2147483647) : xMet l G yX5_viewGet wsX5_viewGet 3 67 0 0 [.ref a, .int (iN (p0)), .int (iN (p1))] M (fun r M1 => ∃ (z th1 : Int), r = some (.int (iN z)) ∧ (-2147483648 ≤ z ∧ z ≤ 2147483647) ∧ ((th1 = 0 ∧ ((0 ≤ p0 ∧ p0 ≤ 3 ∧ opN (Wv p0.toNat) = 1) ∧ (0 ≤ p1 ∧ p1 ≤ 99)) ∧ z = A_viewGet (O, V, Wv, K, kp, kv, rfd) p0 p1 ∧ MGm G M1 a S th1 (O, V, Wv, K, kp, kv, rfd)) ∨ (th1 ≠ 0 ∧ ((th1 = 1 ∧ ¬ (0 ≤ p0 ∧ p0 ≤ 3 ∧ opN (Wv p0.toNat) = 1)) ∨ (th1 = 2 ∧ (0 ≤ p0 ∧ p0 ≤ 3 ∧ opN (Wv p0.toNat) = 1) ∧ ¬ (0 ≤ p1 ∧ p1 ≤ 99))) ∧ MGm G M1 a S th1 (O, V, Wv, K, kp, kv, rfd)))) := by
  refine x_intro (cc := cX5_viewGet) (maxL := 3) (ret := (some .int)) (by exact pln_RX5) rfl (Nat.le_of_ble_eq_true rfl) ?_
  intro p e R s m args below meth c ls hRf hRc hRs hRl hC hw hl
  have hsc0 := hR.sc.1
  have hinX5 : ∀ w ∈ wsX50, w ∈ wsX5_viewGet := fun w h => (List.mem_cons_of_mem _ (List.mem_append_right _ h))
  have hl : lv_has ls 3 [(0, .ref a), (1, .int (iN (p0))), (2, .int (iN (p1)))] := hl
  refine lv_aload_n hC.1 hC.2.1 dX5_viewGet_0 rfl (lv_at hl 0 rfl) ?_
  refine lv_aload_n hC.1 hC.2.1 dX5_viewGet_1 rfl (lv_at hl 0 rfl) ?_
  refine lv_iload_n hC.1 hC.2.1 dX5_viewGet_2 rfl (lv_at hl 1 rfl) ?_
  refine x_callV hC hw (lv_size hl) (c_X5_isNoView l G hR (p0 := p0) (by first | assumption | omega)) gX5_viewGet_X5_isNoView rfl dv_X5_isNoView hR.1.1 rfl rfl (Nat.le_of_ble_eq_true rfl) (by rw [hRf]; decide) (by rw [hRl]; decide) (by first | (rw [hRc]; decide) | omega) (by first | (rw [hRs]; decide) | omega) dX5_viewGet_3 (fun r9 M_1 H locs hq hw => ?_)
  obtain ⟨z_2, rfl, hM9, hz_2a, hz_2b, hz_2n⟩ := hq
  rw [hM9] at hw
  show W p l e R s m args below meth c H locs _ _ _ (F0 m 6 ls [.int (iN (z_2)), .ref a])
  refine x_const hC dX5_viewGet_6 ?_
  refine x_callV hC hw (lv_size hl) (c_X5_start l G hR (p0 := z_2) (by omega) (p1 := 1) (by omega) (by omega)) gX5_viewGet_X5_start rfl dv_X5_start hR.1.1 rfl rfl (Nat.le_of_ble_eq_true rfl) (by rw [hRf]; decide) (by rw [hRl]; decide) (by first | (rw [hRc]; decide) | omega) (by first | (rw [hRs]; decide) | omega) dX5_viewGet_7 (fun r9 M_3 H locs hq hw => ?_)
  obtain ⟨z_5, thk_4, rfl, hz_5r, hx5k_4, hRk_4⟩ := hq
  have hsck_4 := hRk_4.sc.1
  show W p l e R s m args below meth c H locs _ _ _ (F0 m 10 ls [.int (iN (z_5))])
  refine x_if_ne (tgt := 25) hC ⟨by omega, by omega⟩ dX5_viewGet_10 (by decide) (fun c_6 => ?_) (fun c_6 => ?_)
  · replace hz_5r := (hz_5r.resolve_left (fun q9 => c_6 q9.1)).2
    replace hz_2b := mt hz_2b.mpr hz_5r.1
    refine x_const hC dX5_viewGet_25 ?_
    exact x_iret hC hw dX5_viewGet_26 (by first | decide | omega) (by first | decide | omega) ⟨0, thk_4, rfl, by omega, Or.inr ⟨by omega, by omega, MGm.of hRk_4 hK⟩⟩
  · replace hz_5r := (hz_5r.resolve_right (fun q9 => absurd (q9.1.symm.trans c_6) (by decide))).2
    replace hz_2b := hz_2b.mp hz_5r.2
    refine lv_aload_n hC.1 hC.2.1 dX5_viewGet_13 rfl (lv_at hl 0 rfl) ?_
    refine lv_iload_n hC.1 hC.2.1 dX5_viewGet_14 rfl (lv_at hl 2 rfl) ?_
    refine x_callS hC hw (lv_size hl) (c_X5_isNoKey l G (M := M_3) (p0 := p1) (by first | assumption | omega)) gX5_viewGet_X5_isNoKey rfl dv_X5_isNoKey_s rfl (Nat.le_of_ble_eq_true rfl) (by rw [hRf]; decide) (by rw [hRl]; decide) (by first | (rw [hRc]; decide) | omega) (by first | (rw [hRs]; decide) | omega) dX5_viewGet_15 (fun r9 M_7 H locs hq hw => ?_)
    obtain ⟨z_8, rfl, hM9, hz_8a, hz_8b⟩ := hq
    rw [hM9] at hw
    show W p l e R s m args below meth c H locs _ _ _ (F0 m 18 ls [.int (iN (z_8)), .ref a])
    refine x_const hC dX5_viewGet_18 ?_
    refine x_callV hC hw (lv_size hl) (c_X5_refuse l G hRk_4 (p0 := z_8) (by omega) (p1 := 2) (by omega) (by omega)) gX5_viewGet_X5_refuse rfl dv_X5_refuse hRk_4.1.1 rfl rfl (Nat.le_of_ble_eq_true rfl) (by rw [hRf]; decide) (by rw [hRl]; decide) (by first | (rw [hRc]; decide) | omega) (by first | (rw [hRs]; decide) | omega) dX5_viewGet_19 (fun r9 M_9 H locs hq hw => ?_)
    obtain ⟨z_11, thk_10, rfl, hz_11r, hx5k_10, hRk_10⟩ := hq
    have hsck_10 := hRk_10.sc.1
    show W p l e R s m args below meth c H locs _ _ _ (F0 m 22 ls [.int (iN (z_11))])
    refine x_if_eq (tgt := 27) hC ⟨by omega, by omega⟩ dX5_viewGet_22 (by decide) (fun c_12 => ?_) (fun c_12 => ?_)
    · replace hz_11r := (hz_11r.resolve_right (fun q9 => absurd (q9.1.symm.trans c_12) (by decide))).2
      replace hz_8b := hz_8b.mp hz_11r.2.2
      refine lv_aload_n hC.1 hC.2.1 dX5_viewGet_27 rfl (lv_at hl 0 rfl) ?_
      refine lv_aload_n hC.1 hC.2.1 dX5_viewGet_28 rfl (lv_at hl 0 rfl) ?_
      refine x_get hC hw hRk_10.1.1 rfl hinX5 5 (by decide) (List.mem_cons_of_mem _ (List.mem_append_left _ (List.mem_append_left _ (List.mem_of_getElem? (i := 0) rfl)))) rfl dX5_viewGet_29 ?_
      refine lv_iload_n hC.1 hC.2.1 dX5_viewGet_32 rfl (lv_at hl 1 rfl) ?_
      refine x_ald4 hC hw hRk_10.1.2.2.2.2.1 (by omega) (by omega) (by omega) dX5_viewGet_33 ?_
      obtain ⟨y_13, hy_14⟩ := x_some (hz_2n (by omega))
      rw [hy_14]
      obtain ⟨ti_15, fi_15, hui_15, hIi_15⟩ := (hRk_10.vw (show (p0).toNat < 4 from tn_lt (by omega) (by decide))).yes hy_14
      obtain ⟨htat_16, htbt_16, htct_16, htdt_16, htet_16⟩ := id hIi_15.2.1
      show W p l e R s m args below meth c _ _ _ _ _ (F0 m 34 ls [.ref y_13, .ref a])
      refine lv_iload_n hC.1 hC.2.1 dX5_viewGet_34 rfl (lv_at hl 2 rfl) ?_
      refine x_callV hC hw (lv_size hl) (c_X5_shows l G hRk_10 hIi_15 (p0 := p1) (by first | assumption | omega) (by omega)) gX5_viewGet_X5_shows rfl dv_X5_shows hRk_10.1.1 rfl rfl (Nat.le_of_ble_eq_true rfl) (by rw [hRf]; decide) (by rw [hRl]; decide) (by first | (rw [hRc]; decide) | omega) (by first | (rw [hRs]; decide) | omega) dX5_viewGet_35 (fun r9 M_17 H locs hq hw => ?_)
      obtain ⟨z_18, rfl, hM9, hz_18a, hz_18s, hz_18S⟩ := hq
      rw [hM9] at hw
      have hz_18i := shI_iff (O := O) (V := V) (t := ti_15) (k := (p1).toNat)
      show W p l e R s m args below meth c H locs _ _ _ (F0 m 38 ls [.int (iN (z_18))])
      refine x_if_eq (tgt := 59) hC ⟨by omega, by omega⟩ dX5_viewGet_38 (by decide) (fun c_19 => ?_) (fun c_19 => ?_)
      · refine x_sipush hC dX5_viewGet_59 (by decide +kernel) ?_
        exact x_iret hC hw dX5_viewGet_62 (by first | decide | omega) (by first | decide | omega) ⟨(-10000), thk_10, rfl, ⟨by omega, by omega⟩, Or.inl ⟨by omega, ⟨⟨(by first | omega | trivial), (by first | omega | trivial), (by first | omega | trivial)⟩, ⟨(by first | omega | trivial), (by first | omega | trivial)⟩⟩, (by have i9 := inI_01 (O ti_15.b) (p1).toNat ti_15; rw [A_viewGet, (wiB_eq (s := (O, V, Wv, K, kp, kv, rfd)) (p0 := p0) (p1 := p1) hui_15), (vwV_eq (s := (O, V, Wv, K, kp, kv, rfd)) (p0 := p0) (p1 := p1) hui_15)]; show _ = (if inI (O ti_15.b) ti_15 (p1).toNat = 1 then V ti_15.b (p1).toNat else -10000); omega), MGm.of hRk_10 hK⟩⟩
      · refine lv_aload_n hC.1 hC.2.1 dX5_viewGet_41 rfl (lv_at hl 0 rfl) ?_
        refine x_get hC hw hRk_10.1.1 rfl hinX5 2 (by decide) (List.mem_cons_of_mem _ (List.mem_append_left _ (List.mem_append_left _ (List.mem_of_getElem? (i := 1) rfl)))) rfl dX5_viewGet_42 ?_
        refine lv_aload_n hC.1 hC.2.1 dX5_viewGet_45 rfl (lv_at hl 0 rfl) ?_
        refine x_get hC hw hRk_10.1.1 rfl hinX5 5 (by decide) (List.mem_cons_of_mem _ (List.mem_append_left _ (List.mem_append_left _ (List.mem_of_getElem? (i := 0) rfl)))) rfl dX5_viewGet_46 ?_
        refine lv_iload_n hC.1 hC.2.1 dX5_viewGet_49 rfl (lv_at hl 1 rfl) ?_
        refine x_ald4 hC hw hRk_10.1.2.2.2.2.1 (by omega) (by omega) (by omega) dX5_viewGet_50 ?_
        rw [hy_14]
        show W p l e R s m args below meth c _ _ _ _ _ (F0 m 51 ls [.ref y_13, .ref va])
        refine x_const hC dX5_viewGet_51 ?_
        refine x_ialdE (x := ((ti_15.b : Nat) : Int)) hC hw hIi_15.1 (by omega) (by omega) (by omega) dX5_viewGet_52 hIi_15.2.2.1 ?_
        refine x_ald4 hC hw hRk_10.1.2.1 (by omega) (by omega) (by omega) dX5_viewGet_53 ?_
        rw [Int.toNat_natCast]
        rw [hRk_10.fa' (show ti_15.b < 3 by omega)]
        show W p l e R s m args below meth c _ _ _ _ _ (F0 m 54 ls [.ref (qv ti_15.b)])
        refine lv_iload_n hC.1 hC.2.1 dX5_viewGet_54 rfl (lv_at hl 2 rfl) ?_
        refine x_ialdE (x := (V ti_15.b ((p1).toNat))) hC hw (hRk_10.rv (show ti_15.b < 3 by omega)) (by omega) (by omega) (by omega) dX5_viewGet_55 rfl ?_
        have hrv_20 := hRk_10.vr (show ti_15.b < 3 by omega) (show (p1).toNat < 100 from tn_lt (by omega) (by decide))
        have hpv_20 := hRk_10.vs (show ti_15.b < 3 by omega) (show (p1).toNat < 100 from tn_lt (by omega) (by decide))
        refine lv_goto (tgt := 62) hC.1 hC.2.1 dX5_viewGet_56 (by decide) ?_
        exact x_iret hC hw dX5_viewGet_62 (by first | decide | omega) (by first | decide | omega) ⟨(V ti_15.b ((p1).toNat)), thk_10, rfl, ⟨by omega, by omega⟩, Or.inl ⟨by omega, ⟨⟨(by first | omega | trivial), (by first | omega | trivial), (by first | omega | trivial)⟩, ⟨(by first | omega | trivial), (by first | omega | trivial)⟩⟩, (by have i9 := inI_01 (O ti_15.b) (p1).toNat ti_15; rw [A_viewGet, (wiB_eq (s := (O, V, Wv, K, kp, kv, rfd)) (p0 := p0) (p1 := p1) hui_15), (vwV_eq (s := (O, V, Wv, K, kp, kv, rfd)) (p0 := p0) (p1 := p1) hui_15)]; show _ = (if inI (O ti_15.b) ti_15 (p1).toNat = 1 then V ti_15.b (p1).toNat else -10000); omega), MGm.of hRk_10 hK⟩⟩
    · replace hz_11r := (hz_11r.resolve_left (fun q9 => c_12 q9.1)).2
      refine x_const hC dX5_viewGet_25 ?_
      exact x_iret hC hw dX5_viewGet_26 (by first | decide | omega) (by first | decide | omega) ⟨0, thk_10, rfl, by omega, Or.inr ⟨by omega, by omega, MGm.of hRk_10 hK⟩⟩
set_option maxHeartbeats 4000000 in
set_option maxRecDepth 100000 in
theorem c_X5_viewTold (l : Launch) (G : xG) {M : HM} {a va oa wa ya : Nat} {wk : Option Nat} {th : Int} {rfd : Int32} {br re la ha : Int} {kp kv : Int32} {qv qw : Nat → Nat} {fa fb : Nat → Option Nat} {V : BW} {O : OW} {fy : Nat → Option Nat} {Wv : VW} {wt : Option VT} {S : Nat → Bool} (hR : MGx G M a va oa wa ya wk th rfd br re la ha kp kv qv qw fa fb V O fy Wv wt S) {p0 : Int} (hp0 : -2147483648 ≤ p0 ∧ p0 ≤ 2147483647) {p1 : Int} (hp1 : -2147483648 ≤ p1 ∧ p1 ≤ 2147483647) (hob : 0 ≤ p0 ∧ p0 ≤ 3) (how : 0 ≤ p1 ∧ p1 ≤ 8) (hnn : fy p0.toNat ≠ none) : xMet l G yX5_viewTold wsX5_viewTold 5 115 0 0 [.ref a, .int (iN (p0)), .int (iN (p1))] M (fun r M1 => ∃ z : Int, r = some (.int (iN z)) ∧ M1 = M ∧ (-2147483648 ≤ z ∧ z ≤ 2147483647) ∧ z = A_ofView (O, V, Wv, (none : WA), kp, kv, rfd) p0 p1) := by
  refine x_intro (cc := cX5_viewTold) (maxL := 4) (ret := (some .int)) (by exact pln_RX5) rfl (Nat.le_of_ble_eq_true rfl) ?_
  intro p e R s m args below meth c ls hRf hRc hRs hRl hC hw hl
  have hsc0 := hR.sc.1
  have hn0 : (0 : Int) = 0 → fy (p0).toNat ≠ none := fun _ => hnn
  have hinX5 : ∀ w ∈ wsX50, w ∈ wsX5_viewTold := fun w h => (List.mem_cons_of_mem _ (List.mem_append_right _ h))
  have hl : lv_has ls 4 [(0, .ref a), (1, .int (iN (p0))), (2, .int (iN (p1)))] := hl
  refine lv_aload_n hC.1 hC.2.1 dX5_viewTold_0 rfl (lv_at hl 0 rfl) ?_
  refine x_get hC hw hR.1.1 rfl hinX5 5 (by decide) (List.mem_cons_of_mem _ (List.mem_append_left _ (List.mem_append_left _ (List.mem_of_getElem? (i := 0) rfl)))) rfl dX5_viewTold_1 ?_
  refine lv_iload_n hC.1 hC.2.1 dX5_viewTold_4 rfl (lv_at hl 1 rfl) ?_
  refine x_ald4 hC hw hR.1.2.2.2.2.1 (by omega) (by omega) (by omega) dX5_viewTold_5 ?_
  obtain ⟨y_1, hy_2⟩ := x_some (hn0 (by omega))
  rw [hy_2]
  obtain ⟨ti_3, fi_3, hui_3, hIi_3⟩ := (hR.vw (show (p0).toNat < 4 from tn_lt (by omega) (by decide))).yes hy_2
  obtain ⟨htat_4, htbt_4, htct_4, htdt_4, htet_4⟩ := id hIi_3.2.1
  show W p l e R s m args below meth c _ _ _ _ _ (F0 m 6 ls [.ref y_1])
  refine lv_astore_n (lv' := [(3, .ref y_1), (0, .ref a), (1, .int (iN (p0))), (2, .int (iN (p1)))]) hC.1 hC.2.1 dX5_viewTold_6 rfl hl (by decide) rfl (fun ls hl => ?_)
  refine lv_iload_n hC.1 hC.2.1 dX5_viewTold_7 rfl (lv_at hl 3 rfl) ?_
  by_cases c_5 : p1 = 0
  · refine x_tsw (off := 48) (tgt := 56) (k := 0) hC (by omega) dX5_viewTold_8 (by decide) (by decide) rfl (by decide) ?_
    refine lv_aload_n hC.1 hC.2.1 dX5_viewTold_56 rfl (lv_at hl 1 rfl) ?_
    refine lv_aload_n hC.1 hC.2.1 dX5_viewTold_57 rfl (lv_at hl 0 rfl) ?_
    refine x_callV hC hw (lv_size hl) (c_X5_many l G hR hIi_3) gX5_viewTold_X5_many rfl dv_X5_many hR.1.1 rfl rfl (Nat.le_of_ble_eq_true rfl) (by rw [hRf]; decide) (by rw [hRl]; decide) (by first | (rw [hRc]; decide) | omega) (by first | (rw [hRs]; decide) | omega) dX5_viewTold_58 (fun r9 M_6 H locs hq hw => ?_)
    obtain ⟨z_7, rfl, hM9, hz_7a, hz_7m⟩ := hq
    rw [hM9] at hw
    show W p l e R s m args below meth c H locs _ _ _ (F0 m 61 ls [.int (iN (z_7))])
    exact x_iret hC hw dX5_viewTold_61 (by first | decide | omega) (by first | decide | omega) ⟨z_7, rfl, rfl, by omega, (by have e5 : p1 = 0 := (by omega); rw [A_ofView, e5, show tvW (ST.W (O, V, Wv, (none : WA), kp, kv, rfd)) p0.toNat = ti_3 from tvW_some hui_3, if_pos rfl]; first | done | exact hz_7m)⟩
  have hgec_5 : 1 ≤ p1 := by omega
  clear c_5
  by_cases c_8 : p1 = 1
  · refine x_tsw (off := 54) (tgt := 62) (k := 1) hC (by omega) dX5_viewTold_8 (by decide) (by decide) rfl (by decide) ?_
    refine lv_aload_n hC.1 hC.2.1 dX5_viewTold_62 rfl (lv_at hl 0 rfl) ?_
    refine x_const hC dX5_viewTold_63 ?_
    refine x_ialdE (x := ((ti_3.b : Nat) : Int)) hC hw hIi_3.1 (by omega) (by omega) (by omega) dX5_viewTold_64 hIi_3.2.2.1 ?_
    exact x_iret hC hw dX5_viewTold_65 (by first | decide | omega) (by first | decide | omega) ⟨((ti_3.b : Nat) : Int), rfl, rfl, by omega, (by have e5 : p1 = 1 := (by omega); rw [A_ofView, e5, show tvW (ST.W (O, V, Wv, (none : WA), kp, kv, rfd)) p0.toNat = ti_3 from tvW_some hui_3, if_neg (by decide), if_pos rfl]; first | done | exact rfl)⟩
  have hgec_8 : 2 ≤ p1 := by omega
  clear c_8
  by_cases c_9 : p1 = 2
  · refine x_tsw (off := 58) (tgt := 66) (k := 2) hC (by omega) dX5_viewTold_8 (by decide) (by decide) rfl (by decide) ?_
    refine lv_aload_n hC.1 hC.2.1 dX5_viewTold_66 rfl (lv_at hl 0 rfl) ?_
    refine x_const hC dX5_viewTold_67 ?_
    refine x_ialdE (x := ti_3.lo) hC hw hIi_3.1 (by omega) (by omega) (by omega) dX5_viewTold_68 hIi_3.2.2.2.1 ?_
    exact x_iret hC hw dX5_viewTold_69 (by first | decide | omega) (by first | decide | omega) ⟨ti_3.lo, rfl, rfl, by omega, (by have e5 : p1 = 2 := (by omega); rw [A_ofView, e5, show tvW (ST.W (O, V, Wv, (none : WA), kp, kv, rfd)) p0.toNat = ti_3 from tvW_some hui_3, if_neg (by decide), if_neg (by decide), if_pos rfl]; first | done | exact rfl)⟩
  have hgec_9 : 3 ≤ p1 := by omega
  clear c_9
  by_cases c_10 : p1 = 3
  · refine x_tsw (off := 62) (tgt := 70) (k := 3) hC (by omega) dX5_viewTold_8 (by decide) (by decide) rfl (by decide) ?_
    refine lv_aload_n hC.1 hC.2.1 dX5_viewTold_70 rfl (lv_at hl 0 rfl) ?_
    refine x_const hC dX5_viewTold_71 ?_
    refine x_ialdE (x := ti_3.up) hC hw hIi_3.1 (by omega) (by omega) (by omega) dX5_viewTold_72 hIi_3.2.2.2.2.2.1 ?_
    exact x_iret hC hw dX5_viewTold_73 (by first | decide | omega) (by first | decide | omega) ⟨ti_3.up, rfl, rfl, by omega, (by have e5 : p1 = 3 := (by omega); rw [A_ofView, e5, show tvW (ST.W (O, V, Wv, (none : WA), kp, kv, rfd)) p0.toNat = ti_3 from tvW_some hui_3, if_neg (by decide), if_neg (by decide), if_neg (by decide), if_pos rfl]; first | done | exact rfl)⟩
  have hgec_10 : 4 ≤ p1 := by omega
  clear c_10
  by_cases c_11 : p1 = 4
  · refine x_tsw (off := 66) (tgt := 74) (k := 4) hC (by omega) dX5_viewTold_8 (by decide) (by decide) rfl (by decide) ?_
    refine lv_aload_n hC.1 hC.2.1 dX5_viewTold_74 rfl (lv_at hl 0 rfl) ?_
    refine x_const hC dX5_viewTold_75 ?_
    refine x_ialdE (x := ti_3.li) hC hw hIi_3.1 (by omega) (by omega) (by omega) dX5_viewTold_76 hIi_3.2.2.2.2.1 ?_
    exact x_iret hC hw dX5_viewTold_77 (by first | decide | omega) (by first | decide | omega) ⟨ti_3.li, rfl, rfl, by omega, (by have e5 : p1 = 4 := (by omega); rw [A_ofView, e5, show tvW (ST.W (O, V, Wv, (none : WA), kp, kv, rfd)) p0.toNat = ti_3 from tvW_some hui_3, if_neg (by decide), if_neg (by decide), if_neg (by decide), if_neg (by decide), if_pos rfl]; first | done | exact rfl)⟩
  have hgec_11 : 5 ≤ p1 := by omega
  clear c_11
  by_cases c_12 : p1 = 5
  · refine x_tsw (off := 70) (tgt := 78) (k := 5) hC (by omega) dX5_viewTold_8 (by decide) (by decide) rfl (by decide) ?_
    refine lv_aload_n hC.1 hC.2.1 dX5_viewTold_78 rfl (lv_at hl 0 rfl) ?_
    refine x_const hC dX5_viewTold_79 ?_
    refine x_ialdE (x := ti_3.ui) hC hw hIi_3.1 (by omega) (by omega) (by omega) dX5_viewTold_80 hIi_3.2.2.2.2.2.2 ?_
    exact x_iret hC hw dX5_viewTold_81 (by first | decide | omega) (by first | decide | omega) ⟨ti_3.ui, rfl, rfl, by omega, (by have e5 : p1 = 5 := (by omega); rw [A_ofView, e5, show tvW (ST.W (O, V, Wv, (none : WA), kp, kv, rfd)) p0.toNat = ti_3 from tvW_some hui_3, if_neg (by decide), if_neg (by decide), if_neg (by decide), if_neg (by decide), if_neg (by decide), if_pos rfl]; first | done | exact rfl)⟩
  have hgec_12 : 6 ≤ p1 := by omega
  clear c_12
  by_cases c_13 : p1 = 6
  · refine x_tsw (off := 74) (tgt := 82) (k := 6) hC (by omega) dX5_viewTold_8 (by decide) (by decide) rfl (by decide) ?_
    refine lv_aload_n hC.1 hC.2.1 dX5_viewTold_82 rfl (lv_at hl 1 rfl) ?_
    refine lv_aload_n hC.1 hC.2.1 dX5_viewTold_83 rfl (lv_at hl 0 rfl) ?_
    refine x_const hC dX5_viewTold_84 ?_
    refine x_callV hC hw (lv_size hl) (c_X5_end l G hR hIi_3 (p0 := 0) (by omega)) gX5_viewTold_X5_end rfl dv_X5_end hR.1.1 rfl rfl (Nat.le_of_ble_eq_true rfl) (by rw [hRf]; decide) (by rw [hRl]; decide) (by first | (rw [hRc]; decide) | omega) (by first | (rw [hRs]; decide) | omega) dX5_viewTold_85 (fun r9 M_14 H locs hq hw => ?_)
    obtain ⟨z_15, rfl, hM9, hz_15a, hz_15S, hz_15e⟩ := hq
    rw [hM9] at hw
    show W p l e R s m args below meth c H locs _ _ _ (F0 m 88 ls [.int (iN (z_15))])
    exact x_iret hC hw dX5_viewTold_88 (by first | decide | omega) (by first | decide | omega) ⟨z_15, rfl, rfl, by omega, (by have e5 : p1 = 6 := (by omega); rw [A_ofView, e5, show tvW (ST.W (O, V, Wv, (none : WA), kp, kv, rfd)) p0.toNat = ti_3 from tvW_some hui_3, if_neg (by decide), if_neg (by decide), if_neg (by decide), if_neg (by decide), if_neg (by decide), if_neg (by decide), if_pos rfl]; first | done | exact hz_15e)⟩
  have hgec_13 : 7 ≤ p1 := by omega
  clear c_13
  by_cases c_16 : p1 = 7
  · refine x_tsw (off := 81) (tgt := 89) (k := 7) hC (by omega) dX5_viewTold_8 (by decide) (by decide) rfl (by decide) ?_
    refine lv_aload_n hC.1 hC.2.1 dX5_viewTold_89 rfl (lv_at hl 1 rfl) ?_
    refine lv_aload_n hC.1 hC.2.1 dX5_viewTold_90 rfl (lv_at hl 0 rfl) ?_
    refine x_const hC dX5_viewTold_91 ?_
    refine x_callV hC hw (lv_size hl) (c_X5_end l G hR hIi_3 (p0 := 1) (by omega)) gX5_viewTold_X5_end rfl dv_X5_end hR.1.1 rfl rfl (Nat.le_of_ble_eq_true rfl) (by rw [hRf]; decide) (by rw [hRl]; decide) (by first | (rw [hRc]; decide) | omega) (by first | (rw [hRs]; decide) | omega) dX5_viewTold_92 (fun r9 M_17 H locs hq hw => ?_)
    obtain ⟨z_18, rfl, hM9, hz_18a, hz_18S, hz_18e⟩ := hq
    rw [hM9] at hw
    show W p l e R s m args below meth c H locs _ _ _ (F0 m 95 ls [.int (iN (z_18))])
    exact x_iret hC hw dX5_viewTold_95 (by first | decide | omega) (by first | decide | omega) ⟨z_18, rfl, rfl, by omega, (by have e5 : p1 = 7 := (by omega); rw [A_ofView, e5, show tvW (ST.W (O, V, Wv, (none : WA), kp, kv, rfd)) p0.toNat = ti_3 from tvW_some hui_3, if_neg (by decide), if_neg (by decide), if_neg (by decide), if_neg (by decide), if_neg (by decide), if_neg (by decide), if_neg (by decide), if_pos rfl]; first | done | exact hz_18e)⟩
  have hgec_16 : 8 ≤ p1 := by omega
  clear c_16
  refine x_tswd (tgt := 96) hC ⟨by omega, by omega⟩ dX5_viewTold_8 (by omega) (by decide) ?_
  refine lv_aload_n hC.1 hC.2.1 dX5_viewTold_96 rfl (lv_at hl 1 rfl) ?_
  refine lv_aload_n hC.1 hC.2.1 dX5_viewTold_97 rfl (lv_at hl 0 rfl) ?_
  refine x_callV hC hw (lv_size hl) (c_X5_sum l G hR hIi_3) gX5_viewTold_X5_sum rfl dv_X5_sum hR.1.1 rfl rfl (Nat.le_of_ble_eq_true rfl) (by rw [hRf]; decide) (by rw [hRl]; decide) (by first | (rw [hRc]; decide) | omega) (by first | (rw [hRs]; decide) | omega) dX5_viewTold_98 (fun r9 M_19 H locs hq hw => ?_)
  obtain ⟨z_20, rfl, hM9, hz_20a, hz_20m⟩ := hq
  rw [hM9] at hw
  show W p l e R s m args below meth c H locs _ _ _ (F0 m 101 ls [.int (iN (z_20))])
  exact x_iret hC hw dX5_viewTold_101 (by first | decide | omega) (by first | decide | omega) ⟨z_20, rfl, rfl, by omega, (by have e5 : p1 = 8 := (by omega); rw [A_ofView, e5, show tvW (ST.W (O, V, Wv, (none : WA), kp, kv, rfd)) p0.toNat = ti_3 from tvW_some hui_3, if_neg (by decide), if_neg (by decide), if_neg (by decide), if_neg (by decide), if_neg (by decide), if_neg (by decide), if_neg (by decide), if_neg (by decide)]; first | done | exact hz_20m)⟩
set_option maxHeartbeats 4000000 in
set_option maxRecDepth 100000 in
theorem c_X5_ofView (l : Launch) (G : xG) {M : HM} {a va oa wa ya : Nat} {wk : Option Nat} {th : Int} {rfd : Int32} {br re la ha : Int} {kp kv : Int32} {qv qw : Nat → Nat} {fa fb : Nat → Option Nat} {V : BW} {O : OW} {fy : Nat → Option Nat} {Wv : VW} {wt : Option VT} {S : Nat → Bool} (hR : MGx G M a va oa wa ya wk th rfd br re la ha kp kv qv qw fa fb V O fy Wv wt S) {K : WA} (hK : abM O wt br re la ha K) {p0 : Int} (hp0 : -2147483648 ≤ p0 ∧ p0 ≤ 2147483647) {p1 : Int} (hp1 : -2147483648 ≤ p1 ∧ p1 ≤ 2147483647) : xMet l G yX5_ofView wsX5_ofView 6 138 0 0 [.ref a, .int (iN (p0)), .int (iN (p1))] M (fun r M1 => ∃ (z th1 : Int), r = some (.int (iN z)) ∧ (-2147483648 ≤ z ∧ z ≤ 2147483647) ∧ ((th1 = 0 ∧ ((0 ≤ p0 ∧ p0 ≤ 3 ∧ opN (Wv p0.toNat) = 1) ∧ (0 ≤ p1 ∧ p1 ≤ 8)) ∧ z = A_ofView (O, V, Wv, K, kp, kv, rfd) p0 p1 ∧ MGm G M1 a S th1 (O, V, Wv, K, kp, kv, rfd)) ∨ (th1 ≠ 0 ∧ ((th1 = 1 ∧ ¬ (0 ≤ p0 ∧ p0 ≤ 3 ∧ opN (Wv p0.toNat) = 1)) ∨ (th1 = 2 ∧ (0 ≤ p0 ∧ p0 ≤ 3 ∧ opN (Wv p0.toNat) = 1) ∧ ¬ (0 ≤ p1 ∧ p1 ≤ 8))) ∧ MGm G M1 a S th1 (O, V, Wv, K, kp, kv, rfd)))) := by
  refine x_intro (cc := cX5_ofView) (maxL := 3) (ret := (some .int)) (by exact pln_RX5) rfl (Nat.le_of_ble_eq_true rfl) ?_
  intro p e R s m args below meth c ls hRf hRc hRs hRl hC hw hl
  have hsc0 := hR.sc.1
  have hl : lv_has ls 3 [(0, .ref a), (1, .int (iN (p0))), (2, .int (iN (p1)))] := hl
  refine lv_aload_n hC.1 hC.2.1 dX5_ofView_0 rfl (lv_at hl 0 rfl) ?_
  refine lv_aload_n hC.1 hC.2.1 dX5_ofView_1 rfl (lv_at hl 0 rfl) ?_
  refine lv_iload_n hC.1 hC.2.1 dX5_ofView_2 rfl (lv_at hl 1 rfl) ?_
  refine x_callV hC hw (lv_size hl) (c_X5_isNoView l G hR (p0 := p0) (by first | assumption | omega)) gX5_ofView_X5_isNoView rfl dv_X5_isNoView hR.1.1 rfl rfl (Nat.le_of_ble_eq_true rfl) (by rw [hRf]; decide) (by rw [hRl]; decide) (by first | (rw [hRc]; decide) | omega) (by first | (rw [hRs]; decide) | omega) dX5_ofView_3 (fun r9 M_1 H locs hq hw => ?_)
  obtain ⟨z_2, rfl, hM9, hz_2a, hz_2b, hz_2n⟩ := hq
  rw [hM9] at hw
  show W p l e R s m args below meth c H locs _ _ _ (F0 m 6 ls [.int (iN (z_2)), .ref a])
  refine x_const hC dX5_ofView_6 ?_
  refine x_callV hC hw (lv_size hl) (c_X5_start l G hR (p0 := z_2) (by omega) (p1 := 1) (by omega) (by omega)) gX5_ofView_X5_start rfl dv_X5_start hR.1.1 rfl rfl (Nat.le_of_ble_eq_true rfl) (by rw [hRf]; decide) (by rw [hRl]; decide) (by first | (rw [hRc]; decide) | omega) (by first | (rw [hRs]; decide) | omega) dX5_ofView_7 (fun r9 M_3 H locs hq hw => ?_)
  obtain ⟨z_5, thk_4, rfl, hz_5r, hx5k_4, hRk_4⟩ := hq
  have hsck_4 := hRk_4.sc.1
  show W p l e R s m args below meth c H locs _ _ _ (F0 m 10 ls [.int (iN (z_5))])
  refine x_if_ne (tgt := 36) hC ⟨by omega, by omega⟩ dX5_ofView_10 (by decide) (fun c_6 => ?_) (fun c_6 => ?_)
  · replace hz_5r := (hz_5r.resolve_left (fun q9 => c_6 q9.1)).2
    replace hz_2b := mt hz_2b.mpr hz_5r.1
    refine x_const hC dX5_ofView_36 ?_
    refine lv_goto (tgt := 46) hC.1 hC.2.1 dX5_ofView_37 (by decide) ?_
    exact x_iret hC hw dX5_ofView_46 (by first | decide | omega) (by first | decide | omega) ⟨0, thk_4, rfl, by omega, Or.inr ⟨by omega, by omega, MGm.of hRk_4 hK⟩⟩
  · replace hz_5r := (hz_5r.resolve_right (fun q9 => absurd (q9.1.symm.trans c_6) (by decide))).2
    replace hz_2b := hz_2b.mp hz_5r.2
    refine lv_aload_n hC.1 hC.2.1 dX5_ofView_13 rfl (lv_at hl 0 rfl) ?_
    refine lv_iload_n hC.1 hC.2.1 dX5_ofView_14 rfl (lv_at hl 2 rfl) ?_
    refine x_const hC dX5_ofView_15 ?_
    refine x_bipush hC dX5_ofView_16 (by decide +kernel) ?_
    refine x_callS hC hw (lv_size hl) (c_X5_isIn l G (M := M_3) (p0 := p1) (by first | assumption | omega) (p1 := 0) (by omega) (p2 := 8) (by omega)) gX5_ofView_X5_isIn rfl dv_X5_isIn_s rfl (Nat.le_of_ble_eq_true rfl) (by rw [hRf]; decide) (by rw [hRl]; decide) (by first | (rw [hRc]; decide) | omega) (by first | (rw [hRs]; decide) | omega) dX5_ofView_18 (fun r9 M_7 H locs hq hw => ?_)
    obtain ⟨z_8, rfl, hM9, hz_8a, hz_8b, hz_8c⟩ := hq
    rw [hM9] at hw
    show W p l e R s m args below meth c H locs _ _ _ (F0 m 21 ls [.int (iN (z_8)), .ref a])
    refine x_if_ne (tgt := 28) hC ⟨by omega, by omega⟩ dX5_ofView_21 (by decide) (fun c_9 => ?_) (fun c_9 => ?_)
    · refine x_const hC dX5_ofView_28 ?_
      refine x_const hC dX5_ofView_29 ?_
      refine x_callV hC hw (lv_size hl) (c_X5_refuse l G hRk_4 (p0 := 0) (by omega) (p1 := 2) (by omega) (by omega)) gX5_ofView_X5_refuse rfl dv_X5_refuse hRk_4.1.1 rfl rfl (Nat.le_of_ble_eq_true rfl) (by rw [hRf]; decide) (by rw [hRl]; decide) (by first | (rw [hRc]; decide) | omega) (by first | (rw [hRs]; decide) | omega) dX5_ofView_30 (fun r9 M_10 H locs hq hw => ?_)
      obtain ⟨z_12, thk_11, rfl, hz_12r, hx5k_11, hRk_11⟩ := hq
      have hsck_11 := hRk_11.sc.1
      show W p l e R s m args below meth c H locs _ _ _ (F0 m 33 ls [.int (iN (z_12))])
      refine x_if_eq (tgt := 40) hC ⟨by omega, by omega⟩ dX5_ofView_33 (by decide) (fun c_13 => ?_) (fun c_13 => ?_)
      · replace hz_12r := (hz_12r.resolve_right (fun q9 => absurd (q9.1.symm.trans c_13) (by decide))).2
        refine lv_aload_n hC.1 hC.2.1 dX5_ofView_40 rfl (lv_at hl 0 rfl) ?_
        refine lv_iload_n hC.1 hC.2.1 dX5_ofView_41 rfl (lv_at hl 1 rfl) ?_
        refine lv_iload_n hC.1 hC.2.1 dX5_ofView_42 rfl (lv_at hl 2 rfl) ?_
        refine x_callV hC hw (lv_size hl) (c_X5_viewTold l G hRk_11 (p0 := p0) (by first | assumption | omega) (p1 := p1) (by first | assumption | omega) (by omega) (by omega) (hz_2n (by omega))) gX5_ofView_X5_viewTold rfl dv_X5_viewTold hRk_11.1.1 rfl rfl (Nat.le_of_ble_eq_true rfl) (by rw [hRf]; decide) (by rw [hRl]; decide) (by first | (rw [hRc]; decide) | omega) (by first | (rw [hRs]; decide) | omega) dX5_ofView_43 (fun r9 M_14 H locs hq hw => ?_)
        obtain ⟨z_15, rfl, hM9, hz_15a, hz_15w⟩ := hq
        rw [hM9] at hw
        show W p l e R s m args below meth c H locs _ _ _ (F0 m 46 ls [.int (iN (z_15))])
        exact x_iret hC hw dX5_ofView_46 (by first | decide | omega) (by first | decide | omega) ⟨z_15, thk_11, rfl, ⟨by omega, by omega⟩, Or.inl ⟨by omega, ⟨⟨(by first | omega | trivial), (by first | omega | trivial), (by first | omega | trivial)⟩, ⟨(by first | omega | trivial), (by first | omega | trivial)⟩⟩, hz_15w, MGm.of hRk_11 hK⟩⟩
      · replace hz_12r := (hz_12r.resolve_left (fun q9 => c_13 q9.1)).2
        refine x_const hC dX5_ofView_36 ?_
        refine lv_goto (tgt := 46) hC.1 hC.2.1 dX5_ofView_37 (by decide) ?_
        exact x_iret hC hw dX5_ofView_46 (by first | decide | omega) (by first | decide | omega) ⟨0, thk_11, rfl, by omega, Or.inr ⟨by omega, by omega, MGm.of hRk_11 hK⟩⟩
    · refine x_const hC dX5_ofView_24 ?_
      refine lv_goto (tgt := 29) hC.1 hC.2.1 dX5_ofView_25 (by decide) ?_
      refine x_const hC dX5_ofView_29 ?_
      refine x_callV hC hw (lv_size hl) (c_X5_refuse l G hRk_4 (p0 := 1) (by omega) (p1 := 2) (by omega) (by omega)) gX5_ofView_X5_refuse rfl dv_X5_refuse hRk_4.1.1 rfl rfl (Nat.le_of_ble_eq_true rfl) (by rw [hRf]; decide) (by rw [hRl]; decide) (by first | (rw [hRc]; decide) | omega) (by first | (rw [hRs]; decide) | omega) dX5_ofView_30 (fun r9 M_16 H locs hq hw => ?_)
      obtain ⟨z_18, thk_17, rfl, hz_18r, hx5k_17, hRk_17⟩ := hq
      have hsck_17 := hRk_17.sc.1
      show W p l e R s m args below meth c H locs _ _ _ (F0 m 33 ls [.int (iN (z_18))])
      refine x_if_eq (tgt := 40) hC ⟨by omega, by omega⟩ dX5_ofView_33 (by decide) (fun c_19 => ?_) (fun c_19 => ?_)
      · replace hz_18r := (hz_18r.resolve_right (fun q9 => absurd (q9.1.symm.trans c_19) (by decide))).2
        exact absurd hz_18r.2.2 (by decide)
      · replace hz_18r := (hz_18r.resolve_left (fun q9 => c_19 q9.1)).2
        refine x_const hC dX5_ofView_36 ?_
        refine lv_goto (tgt := 46) hC.1 hC.2.1 dX5_ofView_37 (by decide) ?_
        exact x_iret hC hw dX5_ofView_46 (by first | decide | omega) (by first | decide | omega) ⟨0, thk_17, rfl, by omega, Or.inr ⟨by omega, by omega, MGm.of hRk_17 hK⟩⟩
set_option maxHeartbeats 4000000 in
set_option maxRecDepth 100000 in
theorem c_X5_viewNear (l : Launch) (G : xG) {M : HM} {a va oa wa ya : Nat} {wk : Option Nat} {th : Int} {rfd : Int32} {br re la ha : Int} {kp kv : Int32} {qv qw : Nat → Nat} {fa fb : Nat → Option Nat} {V : BW} {O : OW} {fy : Nat → Option Nat} {Wv : VW} {wt : Option VT} {S : Nat → Bool} (hR : MGx G M a va oa wa ya wk th rfd br re la ha kp kv qv qw fa fb V O fy Wv wt S) {K : WA} (hK : abM O wt br re la ha K) {p0 : Int} (hp0 : -2147483648 ≤ p0 ∧ p0 ≤ 2147483647) {p1 : Int} (hp1 : -2147483648 ≤ p1 ∧ p1 ≤ 2147483647) {p2 : Int} (hp2 : -2147483648 ≤ p2 ∧ p2 ≤ 2147483647) : xMet l G yX5_viewNear wsX5_viewNear 5 117 0 0 [.ref a, .int (iN (p0)), .int (iN (p1)), .int (iN (p2))] M (fun r M1 => ∃ (z th1 : Int), r = some (.int (iN z)) ∧ (-2147483648 ≤ z ∧ z ≤ 2147483647) ∧ ((th1 = 0 ∧ ((0 ≤ p0 ∧ p0 ≤ 3 ∧ opN (Wv p0.toNat) = 1) ∧ ((0 ≤ p1 ∧ p1 ≤ 99) ∧ (0 ≤ p2 ∧ p2 ≤ 3))) ∧ z = A_viewNear (O, V, Wv, K, kp, kv, rfd) p0 p1 p2 ∧ MGm G M1 a S th1 (O, V, Wv, K, kp, kv, rfd)) ∨ (th1 ≠ 0 ∧ ((th1 = 1 ∧ ¬ (0 ≤ p0 ∧ p0 ≤ 3 ∧ opN (Wv p0.toNat) = 1)) ∨ (th1 = 2 ∧ (0 ≤ p0 ∧ p0 ≤ 3 ∧ opN (Wv p0.toNat) = 1) ∧ ¬ ((0 ≤ p1 ∧ p1 ≤ 99) ∧ (0 ≤ p2 ∧ p2 ≤ 3)))) ∧ MGm G M1 a S th1 (O, V, Wv, K, kp, kv, rfd)))) := by
  refine x_intro (cc := cX5_viewNear) (maxL := 4) (ret := (some .int)) (by exact pln_RX5) rfl (Nat.le_of_ble_eq_true rfl) ?_
  intro p e R s m args below meth c ls hRf hRc hRs hRl hC hw hl
  have hsc0 := hR.sc.1
  have hinX5 : ∀ w ∈ wsX50, w ∈ wsX5_viewNear := fun w h => (List.mem_cons_of_mem _ (List.mem_append_right _ h))
  have hl : lv_has ls 4 [(0, .ref a), (1, .int (iN (p0))), (2, .int (iN (p1))), (3, .int (iN (p2)))] := hl
  refine lv_aload_n hC.1 hC.2.1 dX5_viewNear_0 rfl (lv_at hl 0 rfl) ?_
  refine lv_aload_n hC.1 hC.2.1 dX5_viewNear_1 rfl (lv_at hl 0 rfl) ?_
  refine lv_iload_n hC.1 hC.2.1 dX5_viewNear_2 rfl (lv_at hl 1 rfl) ?_
  refine x_callV hC hw (lv_size hl) (c_X5_isNoView l G hR (p0 := p0) (by first | assumption | omega)) gX5_viewNear_X5_isNoView rfl dv_X5_isNoView hR.1.1 rfl rfl (Nat.le_of_ble_eq_true rfl) (by rw [hRf]; decide) (by rw [hRl]; decide) (by first | (rw [hRc]; decide) | omega) (by first | (rw [hRs]; decide) | omega) dX5_viewNear_3 (fun r9 M_1 H locs hq hw => ?_)
  obtain ⟨z_2, rfl, hM9, hz_2a, hz_2b, hz_2n⟩ := hq
  rw [hM9] at hw
  show W p l e R s m args below meth c H locs _ _ _ (F0 m 6 ls [.int (iN (z_2)), .ref a])
  refine x_const hC dX5_viewNear_6 ?_
  refine x_callV hC hw (lv_size hl) (c_X5_start l G hR (p0 := z_2) (by omega) (p1 := 1) (by omega) (by omega)) gX5_viewNear_X5_start rfl dv_X5_start hR.1.1 rfl rfl (Nat.le_of_ble_eq_true rfl) (by rw [hRf]; decide) (by rw [hRl]; decide) (by first | (rw [hRc]; decide) | omega) (by first | (rw [hRs]; decide) | omega) dX5_viewNear_7 (fun r9 M_3 H locs hq hw => ?_)
  obtain ⟨z_5, thk_4, rfl, hz_5r, hx5k_4, hRk_4⟩ := hq
  have hsck_4 := hRk_4.sc.1
  show W p l e R s m args below meth c H locs _ _ _ (F0 m 10 ls [.int (iN (z_5))])
  refine x_if_ne (tgt := 42) hC ⟨by omega, by omega⟩ dX5_viewNear_10 (by decide) (fun c_6 => ?_) (fun c_6 => ?_)
  · replace hz_5r := (hz_5r.resolve_left (fun q9 => c_6 q9.1)).2
    replace hz_2b := mt hz_2b.mpr hz_5r.1
    refine x_const hC dX5_viewNear_42 ?_
    refine lv_goto (tgt := 58) hC.1 hC.2.1 dX5_viewNear_43 (by decide) ?_
    exact x_iret hC hw dX5_viewNear_58 (by first | decide | omega) (by first | decide | omega) ⟨0, thk_4, rfl, by omega, Or.inr ⟨by omega, by omega, MGm.of hRk_4 hK⟩⟩
  · replace hz_5r := (hz_5r.resolve_right (fun q9 => absurd (q9.1.symm.trans c_6) (by decide))).2
    replace hz_2b := hz_2b.mp hz_5r.2
    refine lv_aload_n hC.1 hC.2.1 dX5_viewNear_13 rfl (lv_at hl 0 rfl) ?_
    refine lv_iload_n hC.1 hC.2.1 dX5_viewNear_14 rfl (lv_at hl 2 rfl) ?_
    refine x_callS hC hw (lv_size hl) (c_X5_isNoKey l G (M := M_3) (p0 := p1) (by first | assumption | omega)) gX5_viewNear_X5_isNoKey rfl dv_X5_isNoKey_s rfl (Nat.le_of_ble_eq_true rfl) (by rw [hRf]; decide) (by rw [hRl]; decide) (by first | (rw [hRc]; decide) | omega) (by first | (rw [hRs]; decide) | omega) dX5_viewNear_15 (fun r9 M_7 H locs hq hw => ?_)
    obtain ⟨z_8, rfl, hM9, hz_8a, hz_8b⟩ := hq
    rw [hM9] at hw
    show W p l e R s m args below meth c H locs _ _ _ (F0 m 18 ls [.int (iN (z_8)), .ref a])
    refine x_if_ne (tgt := 30) hC ⟨by omega, by omega⟩ dX5_viewNear_18 (by decide) (fun c_9 => ?_) (fun c_9 => ?_)
    · replace hz_8b := mt hz_8b.mpr c_9
      refine x_const hC dX5_viewNear_30 ?_
      refine lv_goto (tgt := 35) hC.1 hC.2.1 dX5_viewNear_31 (by decide) ?_
      refine x_const hC dX5_viewNear_35 ?_
      refine x_callV hC hw (lv_size hl) (c_X5_refuse l G hRk_4 (p0 := 1) (by omega) (p1 := 2) (by omega) (by omega)) gX5_viewNear_X5_refuse rfl dv_X5_refuse hRk_4.1.1 rfl rfl (Nat.le_of_ble_eq_true rfl) (by rw [hRf]; decide) (by rw [hRl]; decide) (by first | (rw [hRc]; decide) | omega) (by first | (rw [hRs]; decide) | omega) dX5_viewNear_36 (fun r9 M_10 H locs hq hw => ?_)
      obtain ⟨z_12, thk_11, rfl, hz_12r, hx5k_11, hRk_11⟩ := hq
      have hsck_11 := hRk_11.sc.1
      show W p l e R s m args below meth c H locs _ _ _ (F0 m 39 ls [.int (iN (z_12))])
      refine x_if_eq (tgt := 46) hC ⟨by omega, by omega⟩ dX5_viewNear_39 (by decide) (fun c_13 => ?_) (fun c_13 => ?_)
      · replace hz_12r := (hz_12r.resolve_right (fun q9 => absurd (q9.1.symm.trans c_13) (by decide))).2
        exact absurd hz_12r.2.2 (by decide)
      · replace hz_12r := (hz_12r.resolve_left (fun q9 => c_13 q9.1)).2
        refine x_const hC dX5_viewNear_42 ?_
        refine lv_goto (tgt := 58) hC.1 hC.2.1 dX5_viewNear_43 (by decide) ?_
        exact x_iret hC hw dX5_viewNear_58 (by first | decide | omega) (by first | decide | omega) ⟨0, thk_11, rfl, by omega, Or.inr ⟨by omega, by omega, MGm.of hRk_11 hK⟩⟩
    · replace hz_8b := hz_8b.mp c_9
      refine lv_iload_n hC.1 hC.2.1 dX5_viewNear_21 rfl (lv_at hl 3 rfl) ?_
      refine x_const hC dX5_viewNear_22 ?_
      refine x_const hC dX5_viewNear_23 ?_
      refine x_callS hC hw (lv_size hl) (c_X5_isIn l G (M := M_3) (p0 := p2) (by first | assumption | omega) (p1 := 0) (by omega) (p2 := 3) (by omega)) gX5_viewNear_X5_isIn rfl dv_X5_isIn_s rfl (Nat.le_of_ble_eq_true rfl) (by rw [hRf]; decide) (by rw [hRl]; decide) (by first | (rw [hRc]; decide) | omega) (by first | (rw [hRs]; decide) | omega) dX5_viewNear_24 (fun r9 M_14 H locs hq hw => ?_)
      obtain ⟨z_15, rfl, hM9, hz_15a, hz_15b, hz_15c⟩ := hq
      rw [hM9] at hw
      show W p l e R s m args below meth c H locs _ _ _ (F0 m 27 ls [.int (iN (z_15)), .ref a])
      refine x_if_ne (tgt := 34) hC ⟨by omega, by omega⟩ dX5_viewNear_27 (by decide) (fun c_16 => ?_) (fun c_16 => ?_)
      · refine x_const hC dX5_viewNear_34 ?_
        refine x_const hC dX5_viewNear_35 ?_
        refine x_callV hC hw (lv_size hl) (c_X5_refuse l G hRk_4 (p0 := 0) (by omega) (p1 := 2) (by omega) (by omega)) gX5_viewNear_X5_refuse rfl dv_X5_refuse hRk_4.1.1 rfl rfl (Nat.le_of_ble_eq_true rfl) (by rw [hRf]; decide) (by rw [hRl]; decide) (by first | (rw [hRc]; decide) | omega) (by first | (rw [hRs]; decide) | omega) dX5_viewNear_36 (fun r9 M_17 H locs hq hw => ?_)
        obtain ⟨z_19, thk_18, rfl, hz_19r, hx5k_18, hRk_18⟩ := hq
        have hsck_18 := hRk_18.sc.1
        show W p l e R s m args below meth c H locs _ _ _ (F0 m 39 ls [.int (iN (z_19))])
        refine x_if_eq (tgt := 46) hC ⟨by omega, by omega⟩ dX5_viewNear_39 (by decide) (fun c_20 => ?_) (fun c_20 => ?_)
        · replace hz_19r := (hz_19r.resolve_right (fun q9 => absurd (q9.1.symm.trans c_20) (by decide))).2
          refine lv_aload_n hC.1 hC.2.1 dX5_viewNear_46 rfl (lv_at hl 0 rfl) ?_
          refine lv_aload_n hC.1 hC.2.1 dX5_viewNear_47 rfl (lv_at hl 0 rfl) ?_
          refine x_get hC hw hRk_18.1.1 rfl hinX5 5 (by decide) (List.mem_cons_of_mem _ (List.mem_append_left _ (List.mem_append_left _ (List.mem_of_getElem? (i := 0) rfl)))) rfl dX5_viewNear_48 ?_
          refine lv_iload_n hC.1 hC.2.1 dX5_viewNear_51 rfl (lv_at hl 1 rfl) ?_
          refine x_ald4 hC hw hRk_18.1.2.2.2.2.1 (by omega) (by omega) (by omega) dX5_viewNear_52 ?_
          obtain ⟨y_21, hy_22⟩ := x_some (hz_2n (by omega))
          rw [hy_22]
          obtain ⟨ti_23, fi_23, hui_23, hIi_23⟩ := (hRk_18.vw (show (p0).toNat < 4 from tn_lt (by omega) (by decide))).yes hy_22
          obtain ⟨htat_24, htbt_24, htct_24, htdt_24, htet_24⟩ := id hIi_23.2.1
          show W p l e R s m args below meth c _ _ _ _ _ (F0 m 53 ls [.ref y_21, .ref a])
          refine lv_iload_n hC.1 hC.2.1 dX5_viewNear_53 rfl (lv_at hl 2 rfl) ?_
          refine lv_iload_n hC.1 hC.2.1 dX5_viewNear_54 rfl (lv_at hl 3 rfl) ?_
          refine x_callV hC hw (lv_size hl) (c_X5_nearOf l G hRk_18 hIi_23 (p0 := p1) (by first | assumption | omega) (p1 := p2) (by first | assumption | omega) (by omega)) gX5_viewNear_X5_nearOf rfl dv_X5_nearOf hRk_18.1.1 rfl rfl (Nat.le_of_ble_eq_true rfl) (by rw [hRf]; decide) (by rw [hRl]; decide) (by first | (rw [hRc]; decide) | omega) (by first | (rw [hRs]; decide) | omega) dX5_viewNear_55 (fun r9 M_25 H locs hq hw => ?_)
          obtain ⟨z_26, rfl, hM9, hz_26a, hz_26S, hz_26n⟩ := hq
          rw [hM9] at hw
          show W p l e R s m args below meth c H locs _ _ _ (F0 m 58 ls [.int (iN (z_26))])
          exact x_iret hC hw dX5_viewNear_58 (by first | decide | omega) (by first | decide | omega) ⟨z_26, thk_18, rfl, ⟨by omega, by omega⟩, Or.inl ⟨by omega, ⟨⟨(by first | omega | trivial), (by first | omega | trivial), (by first | omega | trivial)⟩, ⟨⟨(by first | omega | trivial), (by first | omega | trivial)⟩, ⟨(by first | omega | trivial), (by first | omega | trivial)⟩⟩⟩, (by rw [A_viewNear, show tvW (ST.W (O, V, Wv, K, kp, kv, rfd)) p0.toNat = ti_23 from tvW_some hui_23]; exact hz_26n), MGm.of hRk_18 hK⟩⟩
        · replace hz_19r := (hz_19r.resolve_left (fun q9 => c_20 q9.1)).2
          refine x_const hC dX5_viewNear_42 ?_
          refine lv_goto (tgt := 58) hC.1 hC.2.1 dX5_viewNear_43 (by decide) ?_
          exact x_iret hC hw dX5_viewNear_58 (by first | decide | omega) (by first | decide | omega) ⟨0, thk_18, rfl, by omega, Or.inr ⟨by omega, by omega, MGm.of hRk_18 hK⟩⟩
      · refine x_const hC dX5_viewNear_30 ?_
        refine lv_goto (tgt := 35) hC.1 hC.2.1 dX5_viewNear_31 (by decide) ?_
        refine x_const hC dX5_viewNear_35 ?_
        refine x_callV hC hw (lv_size hl) (c_X5_refuse l G hRk_4 (p0 := 1) (by omega) (p1 := 2) (by omega) (by omega)) gX5_viewNear_X5_refuse rfl dv_X5_refuse hRk_4.1.1 rfl rfl (Nat.le_of_ble_eq_true rfl) (by rw [hRf]; decide) (by rw [hRl]; decide) (by first | (rw [hRc]; decide) | omega) (by first | (rw [hRs]; decide) | omega) dX5_viewNear_36 (fun r9 M_27 H locs hq hw => ?_)
        obtain ⟨z_29, thk_28, rfl, hz_29r, hx5k_28, hRk_28⟩ := hq
        have hsck_28 := hRk_28.sc.1
        show W p l e R s m args below meth c H locs _ _ _ (F0 m 39 ls [.int (iN (z_29))])
        refine x_if_eq (tgt := 46) hC ⟨by omega, by omega⟩ dX5_viewNear_39 (by decide) (fun c_30 => ?_) (fun c_30 => ?_)
        · replace hz_29r := (hz_29r.resolve_right (fun q9 => absurd (q9.1.symm.trans c_30) (by decide))).2
          exact absurd hz_29r.2.2 (by decide)
        · replace hz_29r := (hz_29r.resolve_left (fun q9 => c_30 q9.1)).2
          refine x_const hC dX5_viewNear_42 ?_
          refine lv_goto (tgt := 58) hC.1 hC.2.1 dX5_viewNear_43 (by decide) ?_
          exact x_iret hC hw dX5_viewNear_58 (by first | decide | omega) (by first | decide | omega) ⟨0, thk_28, rfl, by omega, Or.inr ⟨by omega, by omega, MGm.of hRk_28 hK⟩⟩
