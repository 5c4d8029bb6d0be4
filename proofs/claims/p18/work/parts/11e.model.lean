/-! the methods of the model, by program -/
set_option maxHeartbeats 4000000 in
set_option maxRecDepth 100000 in
theorem c_X5_copy (l : Launch) (G : xG) {M : HM} {a va oa wa ya : Nat} {wk : Option Nat} {th : Int} {rfd : Int32} {br re la ha : Int} {kp kv : Int32} {qv qw : Nat → Nat} {fa fb : Nat → Option Nat} {V : BW} {O : OW} {fy : Nat → Option Nat} {Wv : VW} {wt : Option VT} {S : Nat → Bool} (hR : MGx G M a va oa wa ya wk th rfd br re la ha kp kv qv qw fa fb V O fy Wv wt S) {K : WA} (hK : abM O wt br re la ha K) {p0 : Int} (hp0 : -2147483648 ≤ p0 ∧ p0 ≤ 2147483647) {p1 : Int} (hp1 : -2147483648 ≤ p1 ∧ p1 ≤ 2147483647) : xMet l G yX5_copy wsX5_copy 3 66 0 0 [.ref a, .int (iN (p0)), .int (iN (p1))] M (fun r M1 => ∃ (z th1 : Int), r = some (.int (iN z)) ∧ (-2147483648 ≤ z ∧ z ≤ 2147483647) ∧ ((th1 = 0 ∧ (((0 ≤ p0 ∧ p0 ≤ 2) ∧ (0 ≤ p1 ∧ p1 ≤ 2)) ∧ (p0 ≠ p1)) ∧ z = A_copy (O, V, Wv, K, kp, kv, rfd) p0 p1 ∧ MGm G M1 a S th1 (S_copy (O, V, Wv, K, kp, kv, rfd) p0 p1)) ∨ (th1 ≠ 0 ∧ ((th1 = 1 ∧ ¬ ((0 ≤ p0 ∧ p0 ≤ 2) ∧ (0 ≤ p1 ∧ p1 ≤ 2))) ∨ (th1 = 2 ∧ ((0 ≤ p0 ∧ p0 ≤ 2) ∧ (0 ≤ p1 ∧ p1 ≤ 2)) ∧ ¬ (p0 ≠ p1))) ∧ MGm G M1 a S th1 (O, V, Wv, K, kp, kv, rfd)))) := by
  refine x_intro (cc := cX5_copy) (maxL := 5) (ret := (some .int)) (by exact pln_RX5) rfl (Nat.le_of_ble_eq_true rfl) ?_
  intro p e R s m args below meth c ls hRf hRc hRs hRl hC hw hl
  have hsc0 := hR.sc.1
  have hinX5 : ∀ w ∈ wsX50, w ∈ wsX5_copy := fun w h => (List.mem_cons_of_mem _ (List.mem_append_right _ h))
  have hl : lv_has ls 5 [(0, .ref a), (1, .int (iN (p0))), (2, .int (iN (p1)))] := hl
  refine lv_aload_n hC.1 hC.2.1 dX5_copy_0 rfl (lv_at hl 0 rfl) ?_
  refine lv_iload_n hC.1 hC.2.1 dX5_copy_1 rfl (lv_at hl 1 rfl) ?_
  refine lv_iload_n hC.1 hC.2.1 dX5_copy_2 rfl (lv_at hl 2 rfl) ?_
  refine x_callV hC hw (lv_size hl) (c_X5_areBad l G hR (p0 := p0) (by first | assumption | omega) (p1 := p1) (by first | assumption | omega)) gX5_copy_X5_areBad rfl dv_X5_areBad hR.1.1 rfl rfl (Nat.le_of_ble_eq_true rfl) (by rw [hRf]; decide) (by rw [hRl]; decide) (by first | (rw [hRc]; decide) | omega) (by first | (rw [hRs]; decide) | omega) dX5_copy_3 (fun r9 M_1 H locs hq hw => ?_)
  obtain ⟨z_3, thk_2, rfl, hz_3r, hx5k_2, hRk_2⟩ := hq
  have hsck_2 := hRk_2.sc.1
  show W p l e R s m args below meth c H locs _ _ _ (F0 m 6 ls [.int (iN (z_3))])
  refine x_if_eq (tgt := 11) hC ⟨by omega, by omega⟩ dX5_copy_6 (by decide) (fun c_4 => ?_) (fun c_4 => ?_)
  · replace hz_3r := (hz_3r.resolve_right (fun q9 => absurd (q9.1.symm.trans c_4) (by decide))).2
    have hnez_3 := hz_3r.2.2
    refine lv_aload_n hC.1 hC.2.1 dX5_copy_11 rfl (lv_at hl 0 rfl) ?_
    refine x_get hC hw hRk_2.1.1 rfl hinX5 6 (by decide) (List.mem_cons_of_mem _ (List.mem_append_left _ (List.mem_append_left _ (List.mem_of_getElem? (i := 0) rfl)))) rfl dX5_copy_12 ?_
    rcases wk with _ | w_5
    · have hwt_6 := hRk_2.wk'.nil rfl
      subst hwt_6
      have hkn := abM_none hK
      subst hkn
      have hks0 := kS_nil
      show W p l e R s m args below meth c _ _ _ _ _ (F0 m 15 ls [.null])
      refine lv_ifnullN (tgt := 33) hC.1 hC.2.1 dX5_copy_15 (by decide) ?_
      refine x_const hC dX5_copy_33 ?_
      refine lv_istore_n (lv' := [(3, .int (iN (0))), (0, .ref a), (1, .int (iN (p0))), (2, .int (iN (p1)))]) hC.1 hC.2.1 dX5_copy_34 rfl hl (by decide) rfl (fun ls hl => ?_)
      refine x_const hC dX5_copy_35 ?_
      refine lv_istore (lv' := [(4, .int (iN (0))), (3, .int (iN (0))), (0, .ref a), (1, .int (iN (p0))), (2, .int (iN (p1)))]) hC.1 hC.2.1 dX5_copy_36 hl (by decide) rfl (fun ls hl => ?_)
      suffices hloop38 : ∀ (n9 : Nat) (n : Int) (j : Int) (M1 : HM) (fy1 : Nat → Option Nat) (Wv1 : VW) (hR1 : MGx G M1 a va oa wa ya none thk_2 rfd br re la ha kp kv qv qw fa fb V O fy1 Wv1 none S) (hW1 : Wv1 = shN Wv (p1).toNat (j).toNat) (hx0 : xI5 G M M1) (H : Heap) (locs : List Loc) (ls : Array Slot), (hmz38 : (4 - j).toNat < n9) → (hi0 : 0 ≤ j ∧ j ≤ 4) → (hi1 : 0 ≤ n ∧ n ≤ j) → (hcn : n = vwN Wv (p1).toNat (j).toNat) → xD G (xA M s.heap.size) s M1 H locs → lv_has ls 5 [(0, .ref a), (1, .int (iN (p0))), (2, .int (iN (p1))), (3, .int (iN (n))), (4, .int (iN (j)))] → W p l e R s m args below meth c H locs _ _ _ (F0 m 38 ls []) by
        exact hloop38 _ 0 0 _ _ _ hRk_2 (shN_0 Wv (p1).toNat) (hx5k_2) _ _ _ (Nat.lt_succ_self _) (by omega) (by omega) (rfl) hw (lv_sub hl [2, 3, 4, 1, 0] rfl)
      intro n9
      induction n9 with
      | zero => intro n j M1 fy1 Wv1 hR1 hW1 hx0 H locs ls hmz; exact absurd hmz (Nat.not_lt_zero _)
      | succ n9 ih38 =>
        intro n j M1 fy1 Wv1 hR1 hW1 hx0 H locs ls hmz38 hi0 hi1 hcn hw hl
        have hsc1 := hR1.sc.1
        refine lv_iload hC.1 hC.2.1 dX5_copy_38 (lv_at hl 4 rfl) ?_
        refine x_const hC dX5_copy_40 ?_
        refine x_icmp_ge (tgt := 87) hC ⟨by omega, by omega⟩ ⟨by omega, by omega⟩ dX5_copy_41 (by decide) (fun c_7 => ?_) (fun c_7 => ?_)
        · have hW9 : Wv1 = shN Wv (p1).toNat 4 := by rw [hW1, show (j).toNat = 4 from tn_eq (by omega)]
          have hcn9 : n = vwN Wv (p1).toNat 4 := by rw [show (4 : Nat) = (j).toNat from (tn_eq (by omega)).symm]; exact hcn
          refine lv_aload_n hC.1 hC.2.1 dX5_copy_87 rfl (lv_at hl 0 rfl) ?_
          refine x_get hC hw hR1.1.1 rfl hinX5 3 (by decide) (List.mem_cons_of_mem _ (List.mem_append_left _ (List.mem_append_left _ (List.mem_of_getElem? (i := 2) rfl)))) rfl dX5_copy_88 ?_
          refine lv_iload_n hC.1 hC.2.1 dX5_copy_91 rfl (lv_at hl 2 rfl) ?_
          refine lv_aload_n hC.1 hC.2.1 dX5_copy_92 rfl (lv_at hl 0 rfl) ?_
          refine x_get hC hw hR1.1.1 rfl hinX5 3 (by decide) (List.mem_cons_of_mem _ (List.mem_append_left _ (List.mem_append_left _ (List.mem_of_getElem? (i := 2) rfl)))) rfl dX5_copy_93 ?_
          refine lv_iload_n hC.1 hC.2.1 dX5_copy_96 rfl (lv_at hl 1 rfl) ?_
          refine x_ialdE (x := ((O ((p0).toNat) : Nat) : Int)) hC hw hR1.1.2.2.1 (by omega) (by omega) (by omega) dX5_copy_97 rfl ?_
          have hro_8 : O ((p0).toNat) < 3 := hR1.or' (by omega)
          refine x_iast hC hw hR1.1.2.2.1 (by omega) (by omega) (by omega) dX5_copy_98 (fun H locs hw => ?_)
          obtain ⟨M_9, hM_10⟩ : ∃ z, z = va_up M1 oa (some (.inl (G.2 1, 3, .inl (upd (fun j9 => iN ((O j9 : Nat) : Int)) (p1).toNat (iN (((O ((p0).toNat) : Nat) : Int))))))) := ⟨_, rfl⟩
          rw [← hM_10] at hw
          have hR_11 := hR1.ord (o := O ((p0).toNat)) hM_10 (by omega) (by omega)
          obtain ⟨O_12, hO_12⟩ : ∃ z, z = (upO O ((p1).toNat) (O ((p0).toNat))) := ⟨_, rfl⟩
          rw [← hO_12] at hR_11
          refine x_const hC dX5_copy_99 ?_
          refine lv_istore (lv' := [(4, .int (iN (0))), (0, .ref a), (1, .int (iN (p0))), (2, .int (iN (p1))), (3, .int (iN (n)))]) hC.1 hC.2.1 dX5_copy_100 hl (by decide) rfl (fun ls hl => ?_)
          suffices hloop102 : ∀ (n9 : Nat) (j : Int) (M1 : HM) (br1 : Int) (V1 : BW) (hR1 : MGx G M1 a va oa wa ya none thk_2 rfd br1 re la ha kp kv qv qw fa fb V1 O_12 fy1 Wv1 none S) (hx1 : xI5 G M M1) (hV1 : V1 = upB V ((p1).toNat) (mapN (V ((p1).toNat)) (V (p0).toNat) (j).toNat)) (hbr1 : br1 = brL none ((p1).toNat) (V ((p1).toNat)) (V (p0).toNat) (j).toNat br) (H : Heap) (locs : List Loc) (ls : Array Slot), (hmz102 : (100 - j).toNat < n9) → (hi0 : 0 ≤ j ∧ j ≤ 100) → xD G (xA M s.heap.size) s M1 H locs → lv_has ls 5 [(0, .ref a), (1, .int (iN (p0))), (2, .int (iN (p1))), (3, .int (iN (n))), (4, .int (iN (j)))] → W p l e R s m args below meth c H locs _ _ _ (F0 m 102 ls []) by
            exact hloop102 _ 0 _ _ _ hR_11 (xI5.tr hx0 ((hR1.ord5 hM_10))) ml_0 bl_0 _ _ _ (Nat.lt_succ_self _) (by omega) hw (lv_sub hl [1, 2, 3, 4, 0] rfl)
          intro n9
          induction n9 with
          | zero => intro j M1 br1 V1 hR1 hx1 hV1 hbr1 H locs ls hmz; exact absurd hmz (Nat.not_lt_zero _)
          | succ n9 ih102 =>
            intro j M1 br1 V1 hR1 hx1 hV1 hbr1 H locs ls hmz102 hi0 hw hl
            have hvj : V1 ((p1).toNat) (j).toNat = V ((p1).toNat) (j).toNat := ml_at hV1
            have hsc1 := hR1.sc.1
            have hvo : V1 (p0).toNat (j).toNat = V (p0).toNat (j).toNat := by rw [hV1, upB_n _ _ (by first | exact tn_ne (by omega) (by omega) (by assumption) | exact (tn_ne (by omega) (by omega) (by assumption)).symm | omega)]
            refine lv_iload hC.1 hC.2.1 dX5_copy_102 (lv_at hl 4 rfl) ?_
            refine x_bipush hC dX5_copy_104 (by decide +kernel) ?_
            refine x_icmp_ge (tgt := 132) hC ⟨by omega, by omega⟩ ⟨by omega, by omega⟩ dX5_copy_106 (by decide) (fun c_13 => ?_) (fun c_13 => ?_)
            · refine lv_iload_n hC.1 hC.2.1 dX5_copy_132 rfl (lv_at hl 3 rfl) ?_
              exact x_iret hC hw dX5_copy_133 (by first | decide | omega) (by first | decide | omega) ⟨n, thk_2, rfl, ⟨by omega, by omega⟩, Or.inl ⟨by omega, ⟨⟨⟨(by first | omega | trivial), (by first | omega | trivial)⟩, ⟨(by first | omega | trivial), (by first | omega | trivial)⟩⟩, (by first | assumption | omega | trivial)⟩, hcn9, (by have e9 : (j).toNat = 100 := (tn_eq (by omega)); rw [e9] at hV1 hbr1; have e8 := hR1; rw [hV1, hW9, hO_12] at e8; exact MGm.of e8 (by rw [brL_no (inB_none _)] at hbr1; rw [hbr1]; exact abM_cp0 hK))⟩⟩
            · refine lv_aload_n hC.1 hC.2.1 dX5_copy_109 rfl (lv_at hl 0 rfl) ?_
              refine lv_iload_n hC.1 hC.2.1 dX5_copy_110 rfl (lv_at hl 2 rfl) ?_
              refine lv_iload hC.1 hC.2.1 dX5_copy_111 (lv_at hl 4 rfl) ?_
              refine lv_aload_n hC.1 hC.2.1 dX5_copy_113 rfl (lv_at hl 0 rfl) ?_
              refine x_get hC hw hR1.1.1 rfl hinX5 2 (by decide) (List.mem_cons_of_mem _ (List.mem_append_left _ (List.mem_append_left _ (List.mem_of_getElem? (i := 3) rfl)))) rfl dX5_copy_114 ?_
              refine lv_iload_n hC.1 hC.2.1 dX5_copy_117 rfl (lv_at hl 1 rfl) ?_
              refine x_ald4 hC hw hR1.1.2.1 (by omega) (by omega) (by omega) dX5_copy_118 ?_
              rw [hR1.fa' (show (p0).toNat < 3 from tn_lt (by omega) (by decide))]
              show W p l e R s m args below meth c _ _ _ _ _ (F0 m 119 ls [.ref (qv ((p0).toNat)), .int (iN (j)), .int (iN (p1)), .ref a])
              refine lv_iload hC.1 hC.2.1 dX5_copy_119 (lv_at hl 4 rfl) ?_
              refine x_ialdE (x := (V1 ((p0).toNat) ((j).toNat))) hC hw (hR1.rv (show ((p0).toNat) < 3 from tn_lt (by omega) (by decide))) (by omega) (by omega) (by omega) dX5_copy_121 rfl ?_
              have hrv_14 := hR1.vr (show ((p0).toNat) < 3 from tn_lt (by omega) (by decide)) (show (j).toNat < 100 from tn_lt (by omega) (by decide))
              have hpv_14 := hR1.vs (show ((p0).toNat) < 3 from tn_lt (by omega) (by decide)) (show (j).toNat < 100 from tn_lt (by omega) (by decide))
              refine x_callV hC hw (lv_size hl) (c_X5_set l G hR1 (p0 := p1) (by first | assumption | omega) (p1 := j) (by omega) (p2 := (V1 ((p0).toNat) ((j).toNat))) (by omega) (by omega) (by omega) (by omega) (by intro q9; first | exact absurd rfl q9 | assumption | exact hpv_14 q9 | exact hpv_14 (by omega))) gX5_copy_X5_set rfl dv_X5_set hR1.1.1 rfl rfl (Nat.le_of_ble_eq_true rfl) (by rw [hRf]; decide) (by rw [hRl]; decide) (by first | (rw [hRc]; decide) | omega) (by first | (rw [hRs]; decide) | omega) dX5_copy_122 (fun r9 M_15 H locs hq hw => ?_)
              obtain ⟨z_17, brk_16, Vk_16, rfl, hz_17a, hz_17v, hz_17b, he0k_16, he1k_16, hx5k_16, hRk_16⟩ := hq
              have hsck_16 := hRk_16.sc.1
              show W p l e R s m args below meth c H locs _ _ _ (F0 m 125 ls [.int (iN (z_17))])
              refine lv_pop hC.1 hC.2.1 dX5_copy_125 rfl ?_
              refine x_iinc (lv' := [(4, .int (iN (j + 1))), (0, .ref a), (1, .int (iN (p0))), (2, .int (iN (p1))), (3, .int (iN (n)))]) hC dX5_copy_126 hl (k := 4) rfl (by decide) rfl (fun ls hl => ?_)
              refine lv_goto (tgt := 102) hC.1 hC.2.1 dX5_copy_129 (by decide) ?_
              have hF9 : (V1 ((p0).toNat) ((j).toNat)) = (V (p0).toNat) (j).toNat := (by exact hvo)
              exact ih102 (j + 1) _ _ _ hRk_16 (xI5.tr hx1 (hx5k_16)) (ml_set (by omega) hV1 he1k_16 hF9) (bl_set (by omega) hV1 hbr1 hF9 he0k_16) _ _ _ (by first | exact mu_s hmz102 (by omega) | omega) (by omega) hw (lv_sub hl [1, 2, 3, 4, 0] rfl)
        · refine lv_aload_n hC.1 hC.2.1 dX5_copy_44 rfl (lv_at hl 0 rfl) ?_
          refine x_get hC hw hR1.1.1 rfl hinX5 5 (by decide) (List.mem_cons_of_mem _ (List.mem_append_left _ (List.mem_append_left _ (List.mem_of_getElem? (i := 1) rfl)))) rfl dX5_copy_45 ?_
          refine lv_iload hC.1 hC.2.1 dX5_copy_48 (lv_at hl 4 rfl) ?_
          refine x_ald4 hC hw hR1.1.2.2.2.2.1 (by omega) (by omega) (by omega) dX5_copy_50 ?_
          rcases hy_19 : fy1 ((j).toNat) with _ | y_18
          · have hnhy_19 : Wv1 ((j).toNat) = none := (hR1.vw (show (j).toNat < 4 from tn_lt (by omega) (by decide))).nil hy_19
            have hohy_19 := opN_none hnhy_19
            show W p l e R s m args below meth c _ _ _ _ _ (F0 m 51 ls [.null])
            refine lv_ifnullN (tgt := 81) hC.1 hC.2.1 dX5_copy_51 (by decide) ?_
            refine x_iinc (lv' := [(4, .int (iN (j + 1))), (0, .ref a), (1, .int (iN (p0))), (2, .int (iN (p1))), (3, .int (iN (n)))]) hC dX5_copy_81 hl (k := 4) rfl (by decide) rfl (fun ls hl => ?_)
            refine lv_goto (tgt := 38) hC.1 hC.2.1 dX5_copy_84 (by decide) ?_
            exact ih38 n (j + 1) _ _ _ hR1 (by rw [show (j + 1).toNat = (j).toNat + 1 from tn_s (by omega)]; exact shN_nil hW1 hnhy_19) hx0 _ _ _ (by first | exact mu_s hmz38 (by omega) | omega) (by omega) (by omega) (by rw [vwN_s (by omega) (vbN_nil (show Wv (j).toNat = none by rw [← shN_at hW1]; exact hnhy_19))]; omega) hw (lv_sub hl [1, 2, 3, 4, 0] rfl)
          · obtain ⟨ti_20, fi_20, hui_20, hIi_20⟩ := (hR1.vw (show (j).toNat < 4 from tn_lt (by omega) (by decide))).yes hy_19
            obtain ⟨htat_21, htbt_21, htct_21, htdt_21, htet_21⟩ := id hIi_20.2.1
            have hohy_19 := opN_some hui_20
            show W p l e R s m args below meth c _ _ _ _ _ (F0 m 51 ls [.ref y_18])
            refine lv_ifnull hC.1 hC.2.1 dX5_copy_51 ?_
            refine lv_aload_n hC.1 hC.2.1 dX5_copy_54 rfl (lv_at hl 0 rfl) ?_
            refine x_get hC hw hR1.1.1 rfl hinX5 5 (by decide) (List.mem_cons_of_mem _ (List.mem_append_left _ (List.mem_append_left _ (List.mem_of_getElem? (i := 1) rfl)))) rfl dX5_copy_55 ?_
            refine lv_iload hC.1 hC.2.1 dX5_copy_58 (lv_at hl 4 rfl) ?_
            refine x_ald4 hC hw hR1.1.2.2.2.2.1 (by omega) (by omega) (by omega) dX5_copy_60 ?_
            rw [hy_19]
            show W p l e R s m args below meth c _ _ _ _ _ (F0 m 61 ls [.ref y_18])
            refine x_const hC dX5_copy_61 ?_
            refine x_ialdE (x := ((ti_20.b : Nat) : Int)) hC hw hIi_20.1 (by omega) (by omega) (by omega) dX5_copy_62 hIi_20.2.2.1 ?_
            refine lv_iload_n hC.1 hC.2.1 dX5_copy_63 rfl (lv_at hl 2 rfl) ?_
            refine x_icmp_eq (tgt := 70) hC ⟨by omega, by omega⟩ ⟨by omega, by omega⟩ dX5_copy_64 (by decide) (fun c_22 => ?_) (fun c_22 => ?_)
            · refine lv_aload_n hC.1 hC.2.1 dX5_copy_70 rfl (lv_at hl 0 rfl) ?_
              refine x_get hC hw hR1.1.1 rfl hinX5 5 (by decide) (List.mem_cons_of_mem _ (List.mem_append_left _ (List.mem_append_left _ (List.mem_of_getElem? (i := 1) rfl)))) rfl dX5_copy_71 ?_
              refine lv_iload hC.1 hC.2.1 dX5_copy_74 (lv_at hl 4 rfl) ?_
              refine lv_null hC.1 hC.2.1 dX5_copy_76 ?_
              refine x_ast4N hC hw hR1.1.2.2.2.2.1 (by omega) (by omega) (by omega) dX5_copy_77 (fun H locs hw => ?_)
              obtain ⟨M_23, hM_24⟩ : ∃ z, z = va_up M1 ya (some (.inl (G.2 4, 4, .inr (.inr (.inr (.inr (va_up fy1 (j).toNat none))))))) := ⟨_, rfl⟩
              rw [← hM_24] at hw
              have hR_25 := hR1.vws (W2 := (upW Wv1 ((j).toNat) none)) hM_24 (fun j9 hj => by by_cases e9 : j9 = (j).toNat; (· subst e9; rw [va_up_self, upW_s]; trivial); (· rw [va_up_ne _ _ e9, upW_n _ _ e9]; exact hR1.vw hj))
              obtain ⟨fy_26, hfy_26⟩ : ∃ z, z = (va_up fy1 (j).toNat none) := ⟨_, rfl⟩
              rw [← hfy_26] at hR_25
              obtain ⟨Wv_27, hWv_27⟩ : ∃ z, z = (upW Wv1 ((j).toNat) none) := ⟨_, rfl⟩
              rw [← hWv_27] at hR_25
              have h_28 := hIi_20.x5 (hR1.vws5 hM_24)
              refine x_iinc (lv' := [(3, .int (iN (n + 1))), (0, .ref a), (1, .int (iN (p0))), (2, .int (iN (p1))), (4, .int (iN (j)))]) hC dX5_copy_78 hl (k := 3) rfl (by decide) rfl (fun ls hl => ?_)
              refine x_iinc (lv' := [(4, .int (iN (j + 1))), (3, .int (iN (n + 1))), (0, .ref a), (1, .int (iN (p0))), (2, .int (iN (p1)))]) hC dX5_copy_81 hl (k := 4) rfl (by decide) rfl (fun ls hl => ?_)
              refine lv_goto (tgt := 38) hC.1 hC.2.1 dX5_copy_84 (by decide) ?_
              exact ih38 (n + 1) (j + 1) _ _ _ hR_25 (by rw [show (j + 1).toNat = (j).toNat + 1 from tn_s (by omega)]; exact (by rw [hWv_27]; exact shN_drop hW1 hui_20 (by first | exact eq_tn (by assumption) | exact ne_tn (by omega) (by assumption) | omega))) (xI5.tr hx0 ((hR1.vws5 hM_24))) _ _ _ (by first | exact mu_s hmz38 (by omega) | omega) (by omega) (by omega) (by rw [vwN_s (by omega) (vbN_eq (show Wv (j).toNat = some ti_20 by rw [← shN_at hW1]; exact hui_20) (by first | exact eq_tn (by assumption) | exact ne_tn (by omega) (by assumption) | omega))]; omega) hw (lv_sub hl [2, 3, 4, 1, 0] rfl)
            · refine lv_goto (tgt := 81) hC.1 hC.2.1 dX5_copy_67 (by decide) ?_
              refine x_iinc (lv' := [(4, .int (iN (j + 1))), (0, .ref a), (1, .int (iN (p0))), (2, .int (iN (p1))), (3, .int (iN (n)))]) hC dX5_copy_81 hl (k := 4) rfl (by decide) rfl (fun ls hl => ?_)
              refine lv_goto (tgt := 38) hC.1 hC.2.1 dX5_copy_84 (by decide) ?_
              exact ih38 n (j + 1) _ _ _ hR1 (by rw [show (j + 1).toNat = (j).toNat + 1 from tn_s (by omega)]; exact shN_keep hW1 hui_20 (by first | exact eq_tn (by assumption) | exact ne_tn (by omega) (by assumption) | omega)) hx0 _ _ _ (by first | exact mu_s hmz38 (by omega) | omega) (by omega) (by omega) (by rw [vwN_s (by omega) (vbN_ne (show Wv (j).toNat = some ti_20 by rw [← shN_at hW1]; exact hui_20) (by first | exact eq_tn (by assumption) | exact ne_tn (by omega) (by assumption) | omega))]; omega) hw (lv_sub hl [1, 2, 3, 4, 0] rfl)
    · obtain ⟨ti_29, fi_29, hui_29, hIi_29⟩ := hRk_2.wk'.yes rfl
      obtain ⟨htat_30, htbt_30, htct_30, htdt_30, htet_30⟩ := id hIi_29.2.1
      subst hui_29
      obtain ⟨ps9, cd9, hd9, hkn, hre9, hla9, hha9, hcd9, hhd9, hhc9, hcp9, hps9⟩ := abM_some hK
      subst hkn
      have hks9 := kS_some (t := ti_29) (ps := ps9) (cd := cd9) (hd := hd9) (br := br)
      have hkh9 : kH (some (ti_29, ps9, cd9, hd9, br)) = hd9 := rfl
      have hkc9 : kC (some (ti_29, ps9, cd9, hd9, br)) = cd9 := rfl
      show W p l e R s m args below meth c _ _ _ _ _ (F0 m 15 ls [.ref w_5])
      refine lv_ifnull hC.1 hC.2.1 dX5_copy_15 ?_
      refine lv_aload_n hC.1 hC.2.1 dX5_copy_18 rfl (lv_at hl 0 rfl) ?_
      refine x_get hC hw hRk_2.1.1 rfl hinX5 6 (by decide) (List.mem_cons_of_mem _ (List.mem_append_left _ (List.mem_append_left _ (List.mem_of_getElem? (i := 0) rfl)))) rfl dX5_copy_19 ?_
      show W p l e R s m args below meth c _ _ _ _ _ (F0 m 22 ls [.ref w_5])
      refine x_const hC dX5_copy_22 ?_
      refine x_ialdE (x := ((ti_29.b : Nat) : Int)) hC hw hIi_29.1 (by omega) (by omega) (by omega) dX5_copy_23 hIi_29.2.2.1 ?_
      refine lv_iload_n hC.1 hC.2.1 dX5_copy_24 rfl (lv_at hl 2 rfl) ?_
      refine x_icmp_ne (tgt := 33) hC ⟨by omega, by omega⟩ ⟨by omega, by omega⟩ dX5_copy_25 (by decide) (fun c_31 => ?_) (fun c_31 => ?_)
      · refine x_const hC dX5_copy_33 ?_
        refine lv_istore_n (lv' := [(3, .int (iN (0))), (0, .ref a), (1, .int (iN (p0))), (2, .int (iN (p1)))]) hC.1 hC.2.1 dX5_copy_34 rfl hl (by decide) rfl (fun ls hl => ?_)
        refine x_const hC dX5_copy_35 ?_
        refine lv_istore (lv' := [(4, .int (iN (0))), (3, .int (iN (0))), (0, .ref a), (1, .int (iN (p0))), (2, .int (iN (p1)))]) hC.1 hC.2.1 dX5_copy_36 hl (by decide) rfl (fun ls hl => ?_)
        suffices hloop38 : ∀ (n9 : Nat) (n : Int) (j : Int) (M1 : HM) (fy1 : Nat → Option Nat) (Wv1 : VW) (hR1 : MGx G M1 a va oa wa ya (some w_5) thk_2 rfd br re la ha kp kv qv qw fa fb V O fy1 Wv1 (some ti_29) S) (hW1 : Wv1 = shN Wv (p1).toNat (j).toNat) (hx0 : xI5 G M M1) (H : Heap) (locs : List Loc) (ls : Array Slot), (hmz38 : (4 - j).toNat < n9) → (hi0 : 0 ≤ j ∧ j ≤ 4) → (hi1 : 0 ≤ n ∧ n ≤ j) → (hcn : n = vwN Wv (p1).toNat (j).toNat) → xD G (xA M s.heap.size) s M1 H locs → lv_has ls 5 [(0, .ref a), (1, .int (iN (p0))), (2, .int (iN (p1))), (3, .int (iN (n))), (4, .int (iN (j)))] → W p l e R s m args below meth c H locs _ _ _ (F0 m 38 ls []) by
          exact hloop38 _ 0 0 _ _ _ hRk_2 (shN_0 Wv (p1).toNat) (hx5k_2) _ _ _ (Nat.lt_succ_self _) (by omega) (by omega) (rfl) hw (lv_sub hl [2, 3, 4, 1, 0] rfl)
        intro n9
        induction n9 with
        | zero => intro n j M1 fy1 Wv1 hR1 hW1 hx0 H locs ls hmz; exact absurd hmz (Nat.not_lt_zero _)
        | succ n9 ih38 =>
          intro n j M1 fy1 Wv1 hR1 hW1 hx0 H locs ls hmz38 hi0 hi1 hcn hw hl
          have hsc1 := hR1.sc.1
          refine lv_iload hC.1 hC.2.1 dX5_copy_38 (lv_at hl 4 rfl) ?_
          refine x_const hC dX5_copy_40 ?_
          refine x_icmp_ge (tgt := 87) hC ⟨by omega, by omega⟩ ⟨by omega, by omega⟩ dX5_copy_41 (by decide) (fun c_32 => ?_) (fun c_32 => ?_)
          · have hW9 : Wv1 = shN Wv (p1).toNat 4 := by rw [hW1, show (j).toNat = 4 from tn_eq (by omega)]
            have hcn9 : n = vwN Wv (p1).toNat 4 := by rw [show (4 : Nat) = (j).toNat from (tn_eq (by omega)).symm]; exact hcn
            refine lv_aload_n hC.1 hC.2.1 dX5_copy_87 rfl (lv_at hl 0 rfl) ?_
            refine x_get hC hw hR1.1.1 rfl hinX5 3 (by decide) (List.mem_cons_of_mem _ (List.mem_append_left _ (List.mem_append_left _ (List.mem_of_getElem? (i := 2) rfl)))) rfl dX5_copy_88 ?_
            refine lv_iload_n hC.1 hC.2.1 dX5_copy_91 rfl (lv_at hl 2 rfl) ?_
            refine lv_aload_n hC.1 hC.2.1 dX5_copy_92 rfl (lv_at hl 0 rfl) ?_
            refine x_get hC hw hR1.1.1 rfl hinX5 3 (by decide) (List.mem_cons_of_mem _ (List.mem_append_left _ (List.mem_append_left _ (List.mem_of_getElem? (i := 2) rfl)))) rfl dX5_copy_93 ?_
            refine lv_iload_n hC.1 hC.2.1 dX5_copy_96 rfl (lv_at hl 1 rfl) ?_
            refine x_ialdE (x := ((O ((p0).toNat) : Nat) : Int)) hC hw hR1.1.2.2.1 (by omega) (by omega) (by omega) dX5_copy_97 rfl ?_
            have hro_33 : O ((p0).toNat) < 3 := hR1.or' (by omega)
            refine x_iast hC hw hR1.1.2.2.1 (by omega) (by omega) (by omega) dX5_copy_98 (fun H locs hw => ?_)
            obtain ⟨M_34, hM_35⟩ : ∃ z, z = va_up M1 oa (some (.inl (G.2 1, 3, .inl (upd (fun j9 => iN ((O j9 : Nat) : Int)) (p1).toNat (iN (((O ((p0).toNat) : Nat) : Int))))))) := ⟨_, rfl⟩
            rw [← hM_35] at hw
            have hR_36 := hR1.ord (o := O ((p0).toNat)) hM_35 (by omega) (by omega)
            obtain ⟨O_37, hO_37⟩ : ∃ z, z = (upO O ((p1).toNat) (O ((p0).toNat))) := ⟨_, rfl⟩
            rw [← hO_37] at hR_36
            refine x_const hC dX5_copy_99 ?_
            refine lv_istore (lv' := [(4, .int (iN (0))), (0, .ref a), (1, .int (iN (p0))), (2, .int (iN (p1))), (3, .int (iN (n)))]) hC.1 hC.2.1 dX5_copy_100 hl (by decide) rfl (fun ls hl => ?_)
            suffices hloop102 : ∀ (n9 : Nat) (j : Int) (M1 : HM) (br1 : Int) (V1 : BW) (hR1 : MGx G M1 a va oa wa ya (some w_5) thk_2 rfd br1 re la ha kp kv qv qw fa fb V1 O_37 fy1 Wv1 (some ti_29) S) (hx1 : xI5 G M M1) (hV1 : V1 = upB V ((p1).toNat) (mapN (V ((p1).toNat)) (V (p0).toNat) (j).toNat)) (hbr1 : br1 = brL (some ti_29) ((p1).toNat) (V ((p1).toNat)) (V (p0).toNat) (j).toNat br) (H : Heap) (locs : List Loc) (ls : Array Slot), (hmz102 : (100 - j).toNat < n9) → (hi0 : 0 ≤ j ∧ j ≤ 100) → xD G (xA M s.heap.size) s M1 H locs → lv_has ls 5 [(0, .ref a), (1, .int (iN (p0))), (2, .int (iN (p1))), (3, .int (iN (n))), (4, .int (iN (j)))] → W p l e R s m args below meth c H locs _ _ _ (F0 m 102 ls []) by
              exact hloop102 _ 0 _ _ _ hR_36 (xI5.tr hx0 ((hR1.ord5 hM_35))) ml_0 bl_0 _ _ _ (Nat.lt_succ_self _) (by omega) hw (lv_sub hl [1, 2, 3, 4, 0] rfl)
            intro n9
            induction n9 with
            | zero => intro j M1 br1 V1 hR1 hx1 hV1 hbr1 H locs ls hmz; exact absurd hmz (Nat.not_lt_zero _)
            | succ n9 ih102 =>
              intro j M1 br1 V1 hR1 hx1 hV1 hbr1 H locs ls hmz102 hi0 hw hl
              have hvj : V1 ((p1).toNat) (j).toNat = V ((p1).toNat) (j).toNat := ml_at hV1
              have hsc1 := hR1.sc.1
              have hvo : V1 (p0).toNat (j).toNat = V (p0).toNat (j).toNat := by rw [hV1, upB_n _ _ (by first | exact tn_ne (by omega) (by omega) (by assumption) | exact (tn_ne (by omega) (by omega) (by assumption)).symm | omega)]
              refine lv_iload hC.1 hC.2.1 dX5_copy_102 (lv_at hl 4 rfl) ?_
              refine x_bipush hC dX5_copy_104 (by decide +kernel) ?_
              refine x_icmp_ge (tgt := 132) hC ⟨by omega, by omega⟩ ⟨by omega, by omega⟩ dX5_copy_106 (by decide) (fun c_38 => ?_) (fun c_38 => ?_)
              · refine lv_iload_n hC.1 hC.2.1 dX5_copy_132 rfl (lv_at hl 3 rfl) ?_
                exact x_iret hC hw dX5_copy_133 (by first | decide | omega) (by first | decide | omega) ⟨n, thk_2, rfl, ⟨by omega, by omega⟩, Or.inl ⟨by omega, ⟨⟨⟨(by first | omega | trivial), (by first | omega | trivial)⟩, ⟨(by first | omega | trivial), (by first | omega | trivial)⟩⟩, (by first | assumption | omega | trivial)⟩, hcn9, (by have e9 : (j).toNat = 100 := (tn_eq (by omega)); rw [e9] at hV1 hbr1; have e8 := hR1; rw [hV1, hW9, hO_37] at e8; exact MGm.of e8 (by rw [brL_no (inB_ne (by first | exact eq_tn (by assumption) | exact ne_tn (by omega) (by assumption) | omega))] at hbr1; rw [hbr1]; exact abM_cpn hK (by first | exact eq_tn (by assumption) | exact ne_tn (by omega) (by assumption) | omega)))⟩⟩
              · refine lv_aload_n hC.1 hC.2.1 dX5_copy_109 rfl (lv_at hl 0 rfl) ?_
                refine lv_iload_n hC.1 hC.2.1 dX5_copy_110 rfl (lv_at hl 2 rfl) ?_
                refine lv_iload hC.1 hC.2.1 dX5_copy_111 (lv_at hl 4 rfl) ?_
                refine lv_aload_n hC.1 hC.2.1 dX5_copy_113 rfl (lv_at hl 0 rfl) ?_
                refine x_get hC hw hR1.1.1 rfl hinX5 2 (by decide) (List.mem_cons_of_mem _ (List.mem_append_left _ (List.mem_append_left _ (List.mem_of_getElem? (i := 3) rfl)))) rfl dX5_copy_114 ?_
                refine lv_iload_n hC.1 hC.2.1 dX5_copy_117 rfl (lv_at hl 1 rfl) ?_
                refine x_ald4 hC hw hR1.1.2.1 (by omega) (by omega) (by omega) dX5_copy_118 ?_
                rw [hR1.fa' (show (p0).toNat < 3 from tn_lt (by omega) (by decide))]
                show W p l e R s m args below meth c _ _ _ _ _ (F0 m 119 ls [.ref (qv ((p0).toNat)), .int (iN (j)), .int (iN (p1)), .ref a])
                refine lv_iload hC.1 hC.2.1 dX5_copy_119 (lv_at hl 4 rfl) ?_
                refine x_ialdE (x := (V1 ((p0).toNat) ((j).toNat))) hC hw (hR1.rv (show ((p0).toNat) < 3 from tn_lt (by omega) (by decide))) (by omega) (by omega) (by omega) dX5_copy_121 rfl ?_
                have hrv_39 := hR1.vr (show ((p0).toNat) < 3 from tn_lt (by omega) (by decide)) (show (j).toNat < 100 from tn_lt (by omega) (by decide))
                have hpv_39 := hR1.vs (show ((p0).toNat) < 3 from tn_lt (by omega) (by decide)) (show (j).toNat < 100 from tn_lt (by omega) (by decide))
                refine x_callV hC hw (lv_size hl) (c_X5_set l G hR1 (p0 := p1) (by first | assumption | omega) (p1 := j) (by omega) (p2 := (V1 ((p0).toNat) ((j).toNat))) (by omega) (by omega) (by omega) (by omega) (by intro q9; first | exact absurd rfl q9 | assumption | exact hpv_39 q9 | exact hpv_39 (by omega))) gX5_copy_X5_set rfl dv_X5_set hR1.1.1 rfl rfl (Nat.le_of_ble_eq_true rfl) (by rw [hRf]; decide) (by rw [hRl]; decide) (by first | (rw [hRc]; decide) | omega) (by first | (rw [hRs]; decide) | omega) dX5_copy_122 (fun r9 M_40 H locs hq hw => ?_)
                obtain ⟨z_42, brk_41, Vk_41, rfl, hz_42a, hz_42v, hz_42b, he0k_41, he1k_41, hx5k_41, hRk_41⟩ := hq
                have hsck_41 := hRk_41.sc.1
                show W p l e R s m args below meth c H locs _ _ _ (F0 m 125 ls [.int (iN (z_42))])
                refine lv_pop hC.1 hC.2.1 dX5_copy_125 rfl ?_
                refine x_iinc (lv' := [(4, .int (iN (j + 1))), (0, .ref a), (1, .int (iN (p0))), (2, .int (iN (p1))), (3, .int (iN (n)))]) hC dX5_copy_126 hl (k := 4) rfl (by decide) rfl (fun ls hl => ?_)
                refine lv_goto (tgt := 102) hC.1 hC.2.1 dX5_copy_129 (by decide) ?_
                have hF9 : (V1 ((p0).toNat) ((j).toNat)) = (V (p0).toNat) (j).toNat := (by exact hvo)
                exact ih102 (j + 1) _ _ _ hRk_41 (xI5.tr hx1 (hx5k_41)) (ml_set (by omega) hV1 he1k_41 hF9) (bl_set (by omega) hV1 hbr1 hF9 he0k_41) _ _ _ (by first | exact mu_s hmz102 (by omega) | omega) (by omega) hw (lv_sub hl [1, 2, 3, 4, 0] rfl)
          · refine lv_aload_n hC.1 hC.2.1 dX5_copy_44 rfl (lv_at hl 0 rfl) ?_
            refine x_get hC hw hR1.1.1 rfl hinX5 5 (by decide) (List.mem_cons_of_mem _ (List.mem_append_left _ (List.mem_append_left _ (List.mem_of_getElem? (i := 1) rfl)))) rfl dX5_copy_45 ?_
            refine lv_iload hC.1 hC.2.1 dX5_copy_48 (lv_at hl 4 rfl) ?_
            refine x_ald4 hC hw hR1.1.2.2.2.2.1 (by omega) (by omega) (by omega) dX5_copy_50 ?_
            rcases hy_44 : fy1 ((j).toNat) with _ | y_43
            · have hnhy_44 : Wv1 ((j).toNat) = none := (hR1.vw (show (j).toNat < 4 from tn_lt (by omega) (by decide))).nil hy_44
              have hohy_44 := opN_none hnhy_44
              show W p l e R s m args below meth c _ _ _ _ _ (F0 m 51 ls [.null])
              refine lv_ifnullN (tgt := 81) hC.1 hC.2.1 dX5_copy_51 (by decide) ?_
              refine x_iinc (lv' := [(4, .int (iN (j + 1))), (0, .ref a), (1, .int (iN (p0))), (2, .int (iN (p1))), (3, .int (iN (n)))]) hC dX5_copy_81 hl (k := 4) rfl (by decide) rfl (fun ls hl => ?_)
              refine lv_goto (tgt := 38) hC.1 hC.2.1 dX5_copy_84 (by decide) ?_
              exact ih38 n (j + 1) _ _ _ hR1 (by rw [show (j + 1).toNat = (j).toNat + 1 from tn_s (by omega)]; exact shN_nil hW1 hnhy_44) hx0 _ _ _ (by first | exact mu_s hmz38 (by omega) | omega) (by omega) (by omega) (by rw [vwN_s (by omega) (vbN_nil (show Wv (j).toNat = none by rw [← shN_at hW1]; exact hnhy_44))]; omega) hw (lv_sub hl [1, 2, 3, 4, 0] rfl)
            · obtain ⟨ti_45, fi_45, hui_45, hIi_45⟩ := (hR1.vw (show (j).toNat < 4 from tn_lt (by omega) (by decide))).yes hy_44
              obtain ⟨htat_46, htbt_46, htct_46, htdt_46, htet_46⟩ := id hIi_45.2.1
              have hohy_44 := opN_some hui_45
              show W p l e R s m args below meth c _ _ _ _ _ (F0 m 51 ls [.ref y_43])
              refine lv_ifnull hC.1 hC.2.1 dX5_copy_51 ?_
              refine lv_aload_n hC.1 hC.2.1 dX5_copy_54 rfl (lv_at hl 0 rfl) ?_
              refine x_get hC hw hR1.1.1 rfl hinX5 5 (by decide) (List.mem_cons_of_mem _ (List.mem_append_left _ (List.mem_append_left _ (List.mem_of_getElem? (i := 1) rfl)))) rfl dX5_copy_55 ?_
              refine lv_iload hC.1 hC.2.1 dX5_copy_58 (lv_at hl 4 rfl) ?_
              refine x_ald4 hC hw hR1.1.2.2.2.2.1 (by omega) (by omega) (by omega) dX5_copy_60 ?_
              rw [hy_44]
              show W p l e R s m args below meth c _ _ _ _ _ (F0 m 61 ls [.ref y_43])
              refine x_const hC dX5_copy_61 ?_
              refine x_ialdE (x := ((ti_45.b : Nat) : Int)) hC hw hIi_45.1 (by omega) (by omega) (by omega) dX5_copy_62 hIi_45.2.2.1 ?_
              refine lv_iload_n hC.1 hC.2.1 dX5_copy_63 rfl (lv_at hl 2 rfl) ?_
              refine x_icmp_eq (tgt := 70) hC ⟨by omega, by omega⟩ ⟨by omega, by omega⟩ dX5_copy_64 (by decide) (fun c_47 => ?_) (fun c_47 => ?_)
              · refine lv_aload_n hC.1 hC.2.1 dX5_copy_70 rfl (lv_at hl 0 rfl) ?_
                refine x_get hC hw hR1.1.1 rfl hinX5 5 (by decide) (List.mem_cons_of_mem _ (List.mem_append_left _ (List.mem_append_left _ (List.mem_of_getElem? (i := 1) rfl)))) rfl dX5_copy_71 ?_
                refine lv_iload hC.1 hC.2.1 dX5_copy_74 (lv_at hl 4 rfl) ?_
                refine lv_null hC.1 hC.2.1 dX5_copy_76 ?_
                refine x_ast4N hC hw hR1.1.2.2.2.2.1 (by omega) (by omega) (by omega) dX5_copy_77 (fun H locs hw => ?_)
                obtain ⟨M_48, hM_49⟩ : ∃ z, z = va_up M1 ya (some (.inl (G.2 4, 4, .inr (.inr (.inr (.inr (va_up fy1 (j).toNat none))))))) := ⟨_, rfl⟩
                rw [← hM_49] at hw
                have hR_50 := hR1.vws (W2 := (upW Wv1 ((j).toNat) none)) hM_49 (fun j9 hj => by by_cases e9 : j9 = (j).toNat; (· subst e9; rw [va_up_self, upW_s]; trivial); (· rw [va_up_ne _ _ e9, upW_n _ _ e9]; exact hR1.vw hj))
                obtain ⟨fy_51, hfy_51⟩ : ∃ z, z = (va_up fy1 (j).toNat none) := ⟨_, rfl⟩
                rw [← hfy_51] at hR_50
                obtain ⟨Wv_52, hWv_52⟩ : ∃ z, z = (upW Wv1 ((j).toNat) none) := ⟨_, rfl⟩
                rw [← hWv_52] at hR_50
                have h_53 := hIi_45.x5 (hR1.vws5 hM_49)
                refine x_iinc (lv' := [(3, .int (iN (n + 1))), (0, .ref a), (1, .int (iN (p0))), (2, .int (iN (p1))), (4, .int (iN (j)))]) hC dX5_copy_78 hl (k := 3) rfl (by decide) rfl (fun ls hl => ?_)
                refine x_iinc (lv' := [(4, .int (iN (j + 1))), (3, .int (iN (n + 1))), (0, .ref a), (1, .int (iN (p0))), (2, .int (iN (p1)))]) hC dX5_copy_81 hl (k := 4) rfl (by decide) rfl (fun ls hl => ?_)
                refine lv_goto (tgt := 38) hC.1 hC.2.1 dX5_copy_84 (by decide) ?_
                exact ih38 (n + 1) (j + 1) _ _ _ hR_50 (by rw [show (j + 1).toNat = (j).toNat + 1 from tn_s (by omega)]; exact (by rw [hWv_52]; exact shN_drop hW1 hui_45 (by first | exact eq_tn (by assumption) | exact ne_tn (by omega) (by assumption) | omega))) (xI5.tr hx0 ((hR1.vws5 hM_49))) _ _ _ (by first | exact mu_s hmz38 (by omega) | omega) (by omega) (by omega) (by rw [vwN_s (by omega) (vbN_eq (show Wv (j).toNat = some ti_45 by rw [← shN_at hW1]; exact hui_45) (by first | exact eq_tn (by assumption) | exact ne_tn (by omega) (by assumption) | omega))]; omega) hw (lv_sub hl [2, 3, 4, 1, 0] rfl)
              · refine lv_goto (tgt := 81) hC.1 hC.2.1 dX5_copy_67 (by decide) ?_
                refine x_iinc (lv' := [(4, .int (iN (j + 1))), (0, .ref a), (1, .int (iN (p0))), (2, .int (iN (p1))), (3, .int (iN (n)))]) hC dX5_copy_81 hl (k := 4) rfl (by decide) rfl (fun ls hl => ?_)
                refine lv_goto (tgt := 38) hC.1 hC.2.1 dX5_copy_84 (by decide) ?_
                exact ih38 n (j + 1) _ _ _ hR1 (by rw [show (j + 1).toNat = (j).toNat + 1 from tn_s (by omega)]; exact shN_keep hW1 hui_45 (by first | exact eq_tn (by assumption) | exact ne_tn (by omega) (by assumption) | omega)) hx0 _ _ _ (by first | exact mu_s hmz38 (by omega) | omega) (by omega) (by omega) (by rw [vwN_s (by omega) (vbN_ne (show Wv (j).toNat = some ti_45 by rw [← shN_at hW1]; exact hui_45) (by first | exact eq_tn (by assumption) | exact ne_tn (by omega) (by assumption) | omega))]; omega) hw (lv_sub hl [1, 2, 3, 4, 0] rfl)
      · refine lv_aload_n hC.1 hC.2.1 dX5_copy_28 rfl (lv_at hl 0 rfl) ?_
        refine lv_null hC.1 hC.2.1 dX5_copy_29 ?_
        refine x_callV hC hw (lv_size hl) (c_X5_begin0 l G hRk_2) gX5_copy_X5_begin rfl dv_X5_begin hRk_2.1.1 rfl rfl (Nat.le_of_ble_eq_true rfl) (by rw [hRf]; decide) (by rw [hRl]; decide) (by first | (rw [hRc]; decide) | omega) (by first | (rw [hRs]; decide) | omega) dX5_copy_30 (fun r9 M_54 H locs hq hw => ?_)
        obtain ⟨rfl, hx5k_55, hRk_55⟩ := hq
        have h_56 := hIi_29.x5 hx5k_55
        show W p l e R s m args below meth c H locs _ _ _ (F0 m 33 ls [])
        refine x_const hC dX5_copy_33 ?_
        refine lv_istore_n (lv' := [(3, .int (iN (0))), (0, .ref a), (1, .int (iN (p0))), (2, .int (iN (p1)))]) hC.1 hC.2.1 dX5_copy_34 rfl hl (by decide) rfl (fun ls hl => ?_)
        refine x_const hC dX5_copy_35 ?_
        refine lv_istore (lv' := [(4, .int (iN (0))), (3, .int (iN (0))), (0, .ref a), (1, .int (iN (p0))), (2, .int (iN (p1)))]) hC.1 hC.2.1 dX5_copy_36 hl (by decide) rfl (fun ls hl => ?_)
        suffices hloop38 : ∀ (n9 : Nat) (n : Int) (j : Int) (M1 : HM) (fy1 : Nat → Option Nat) (Wv1 : VW) (hR1 : MGx G M1 a va oa wa ya none thk_2 rfd 0 (-1) (-10000) (-10000) kp kv qv qw fa fb V O fy1 Wv1 none S) (hW1 : Wv1 = shN Wv (p1).toNat (j).toNat) (hx0 : xI5 G M M1) (H : Heap) (locs : List Loc) (ls : Array Slot), (hmz38 : (4 - j).toNat < n9) → (hi0 : 0 ≤ j ∧ j ≤ 4) → (hi1 : 0 ≤ n ∧ n ≤ j) → (hcn : n = vwN Wv (p1).toNat (j).toNat) → xD G (xA M s.heap.size) s M1 H locs → lv_has ls 5 [(0, .ref a), (1, .int (iN (p0))), (2, .int (iN (p1))), (3, .int (iN (n))), (4, .int (iN (j)))] → W p l e R s m args below meth c H locs _ _ _ (F0 m 38 ls []) by
          exact hloop38 _ 0 0 _ _ _ hRk_55 (shN_0 Wv (p1).toNat) (xI5.tr (hx5k_2) (hx5k_55)) _ _ _ (Nat.lt_succ_self _) (by omega) (by omega) (rfl) hw (lv_sub hl [2, 3, 4, 1, 0] rfl)
        intro n9
        induction n9 with
        | zero => intro n j M1 fy1 Wv1 hR1 hW1 hx0 H locs ls hmz; exact absurd hmz (Nat.not_lt_zero _)
        | succ n9 ih38 =>
          intro n j M1 fy1 Wv1 hR1 hW1 hx0 H locs ls hmz38 hi0 hi1 hcn hw hl
          have hsc1 := hR1.sc.1
          refine lv_iload hC.1 hC.2.1 dX5_copy_38 (lv_at hl 4 rfl) ?_
          refine x_const hC dX5_copy_40 ?_
          refine x_icmp_ge (tgt := 87) hC ⟨by omega, by omega⟩ ⟨by omega, by omega⟩ dX5_copy_41 (by decide) (fun c_57 => ?_) (fun c_57 => ?_)
          · have hW9 : Wv1 = shN Wv (p1).toNat 4 := by rw [hW1, show (j).toNat = 4 from tn_eq (by omega)]
            have hcn9 : n = vwN Wv (p1).toNat 4 := by rw [show (4 : Nat) = (j).toNat from (tn_eq (by omega)).symm]; exact hcn
            refine lv_aload_n hC.1 hC.2.1 dX5_copy_87 rfl (lv_at hl 0 rfl) ?_
            refine x_get hC hw hR1.1.1 rfl hinX5 3 (by decide) (List.mem_cons_of_mem _ (List.mem_append_left _ (List.mem_append_left _ (List.mem_of_getElem? (i := 2) rfl)))) rfl dX5_copy_88 ?_
            refine lv_iload_n hC.1 hC.2.1 dX5_copy_91 rfl (lv_at hl 2 rfl) ?_
            refine lv_aload_n hC.1 hC.2.1 dX5_copy_92 rfl (lv_at hl 0 rfl) ?_
            refine x_get hC hw hR1.1.1 rfl hinX5 3 (by decide) (List.mem_cons_of_mem _ (List.mem_append_left _ (List.mem_append_left _ (List.mem_of_getElem? (i := 2) rfl)))) rfl dX5_copy_93 ?_
            refine lv_iload_n hC.1 hC.2.1 dX5_copy_96 rfl (lv_at hl 1 rfl) ?_
            refine x_ialdE (x := ((O ((p0).toNat) : Nat) : Int)) hC hw hR1.1.2.2.1 (by omega) (by omega) (by omega) dX5_copy_97 rfl ?_
            have hro_58 : O ((p0).toNat) < 3 := hR1.or' (by omega)
            refine x_iast hC hw hR1.1.2.2.1 (by omega) (by omega) (by omega) dX5_copy_98 (fun H locs hw => ?_)
            obtain ⟨M_59, hM_60⟩ : ∃ z, z = va_up M1 oa (some (.inl (G.2 1, 3, .inl (upd (fun j9 => iN ((O j9 : Nat) : Int)) (p1).toNat (iN (((O ((p0).toNat) : Nat) : Int))))))) := ⟨_, rfl⟩
            rw [← hM_60] at hw
            have hR_61 := hR1.ord (o := O ((p0).toNat)) hM_60 (by omega) (by omega)
            obtain ⟨O_62, hO_62⟩ : ∃ z, z = (upO O ((p1).toNat) (O ((p0).toNat))) := ⟨_, rfl⟩
            rw [← hO_62] at hR_61
            refine x_const hC dX5_copy_99 ?_
            refine lv_istore (lv' := [(4, .int (iN (0))), (0, .ref a), (1, .int (iN (p0))), (2, .int (iN (p1))), (3, .int (iN (n)))]) hC.1 hC.2.1 dX5_copy_100 hl (by decide) rfl (fun ls hl => ?_)
            suffices hloop102 : ∀ (n9 : Nat) (j : Int) (M1 : HM) (br1 : Int) (V1 : BW) (hR1 : MGx G M1 a va oa wa ya none thk_2 rfd br1 (-1) (-10000) (-10000) kp kv qv qw fa fb V1 O_62 fy1 Wv1 none S) (hx1 : xI5 G M M1) (hV1 : V1 = upB V ((p1).toNat) (mapN (V ((p1).toNat)) (V (p0).toNat) (j).toNat)) (hbr1 : br1 = brL none ((p1).toNat) (V ((p1).toNat)) (V (p0).toNat) (j).toNat 0) (H : Heap) (locs : List Loc) (ls : Array Slot), (hmz102 : (100 - j).toNat < n9) → (hi0 : 0 ≤ j ∧ j ≤ 100) → xD G (xA M s.heap.size) s M1 H locs → lv_has ls 5 [(0, .ref a), (1, .int (iN (p0))), (2, .int (iN (p1))), (3, .int (iN (n))), (4, .int (iN (j)))] → W p l e R s m args below meth c H locs _ _ _ (F0 m 102 ls []) by
              exact hloop102 _ 0 _ _ _ hR_61 (xI5.tr hx0 ((hR1.ord5 hM_60))) ml_0 bl_0 _ _ _ (Nat.lt_succ_self _) (by omega) hw (lv_sub hl [1, 2, 3, 4, 0] rfl)
            intro n9
            induction n9 with
            | zero => intro j M1 br1 V1 hR1 hx1 hV1 hbr1 H locs ls hmz; exact absurd hmz (Nat.not_lt_zero _)
            | succ n9 ih102 =>
              intro j M1 br1 V1 hR1 hx1 hV1 hbr1 H locs ls hmz102 hi0 hw hl
              have hvj : V1 ((p1).toNat) (j).toNat = V ((p1).toNat) (j).toNat := ml_at hV1
              have hsc1 := hR1.sc.1
              have hvo : V1 (p0).toNat (j).toNat = V (p0).toNat (j).toNat := by rw [hV1, upB_n _ _ (by first | exact tn_ne (by omega) (by omega) (by assumption) | exact (tn_ne (by omega) (by omega) (by assumption)).symm | omega)]
              refine lv_iload hC.1 hC.2.1 dX5_copy_102 (lv_at hl 4 rfl) ?_
              refine x_bipush hC dX5_copy_104 (by decide +kernel) ?_
              refine x_icmp_ge (tgt := 132) hC ⟨by omega, by omega⟩ ⟨by omega, by omega⟩ dX5_copy_106 (by decide) (fun c_63 => ?_) (fun c_63 => ?_)
              · refine lv_iload_n hC.1 hC.2.1 dX5_copy_132 rfl (lv_at hl 3 rfl) ?_
                exact x_iret hC hw dX5_copy_133 (by first | decide | omega) (by first | decide | omega) ⟨n, thk_2, rfl, ⟨by omega, by omega⟩, Or.inl ⟨by omega, ⟨⟨⟨(by first | omega | trivial), (by first | omega | trivial)⟩, ⟨(by first | omega | trivial), (by first | omega | trivial)⟩⟩, (by first | assumption | omega | trivial)⟩, hcn9, (by have e9 : (j).toNat = 100 := (tn_eq (by omega)); rw [e9] at hV1 hbr1; have e8 := hR1; rw [hV1, hW9, hO_62] at e8; exact MGm.of e8 (by rw [brL_no (inB_none _)] at hbr1; rw [hbr1]; exact abM_cpe (by first | exact eq_tn (by assumption) | exact ne_tn (by omega) (by assumption) | omega)))⟩⟩
              · refine lv_aload_n hC.1 hC.2.1 dX5_copy_109 rfl (lv_at hl 0 rfl) ?_
                refine lv_iload_n hC.1 hC.2.1 dX5_copy_110 rfl (lv_at hl 2 rfl) ?_
                refine lv_iload hC.1 hC.2.1 dX5_copy_111 (lv_at hl 4 rfl) ?_
                refine lv_aload_n hC.1 hC.2.1 dX5_copy_113 rfl (lv_at hl 0 rfl) ?_
                refine x_get hC hw hR1.1.1 rfl hinX5 2 (by decide) (List.mem_cons_of_mem _ (List.mem_append_left _ (List.mem_append_left _ (List.mem_of_getElem? (i := 3) rfl)))) rfl dX5_copy_114 ?_
                refine lv_iload_n hC.1 hC.2.1 dX5_copy_117 rfl (lv_at hl 1 rfl) ?_
                refine x_ald4 hC hw hR1.1.2.1 (by omega) (by omega) (by omega) dX5_copy_118 ?_
                rw [hR1.fa' (show (p0).toNat < 3 from tn_lt (by omega) (by decide))]
                show W p l e R s m args below meth c _ _ _ _ _ (F0 m 119 ls [.ref (qv ((p0).toNat)), .int (iN (j)), .int (iN (p1)), .ref a])
                refine lv_iload hC.1 hC.2.1 dX5_copy_119 (lv_at hl 4 rfl) ?_
                refine x_ialdE (x := (V1 ((p0).toNat) ((j).toNat))) hC hw (hR1.rv (show ((p0).toNat) < 3 from tn_lt (by omega) (by decide))) (by omega) (by omega) (by omega) dX5_copy_121 rfl ?_
                have hrv_64 := hR1.vr (show ((p0).toNat) < 3 from tn_lt (by omega) (by decide)) (show (j).toNat < 100 from tn_lt (by omega) (by decide))
                have hpv_64 := hR1.vs (show ((p0).toNat) < 3 from tn_lt (by omega) (by decide)) (show (j).toNat < 100 from tn_lt (by omega) (by decide))
                refine x_callV hC hw (lv_size hl) (c_X5_set l G hR1 (p0 := p1) (by first | assumption | omega) (p1 := j) (by omega) (p2 := (V1 ((p0).toNat) ((j).toNat))) (by omega) (by omega) (by omega) (by omega) (by intro q9; first | exact absurd rfl q9 | assumption | exact hpv_64 q9 | exact hpv_64 (by omega))) gX5_copy_X5_set rfl dv_X5_set hR1.1.1 rfl rfl (Nat.le_of_ble_eq_true rfl) (by rw [hRf]; decide) (by rw [hRl]; decide) (by first | (rw [hRc]; decide) | omega) (by first | (rw [hRs]; decide) | omega) dX5_copy_122 (fun r9 M_65 H locs hq hw => ?_)
                obtain ⟨z_67, brk_66, Vk_66, rfl, hz_67a, hz_67v, hz_67b, he0k_66, he1k_66, hx5k_66, hRk_66⟩ := hq
                have hsck_66 := hRk_66.sc.1
                show W p l e R s m args below meth c H locs _ _ _ (F0 m 125 ls [.int (iN (z_67))])
                refine lv_pop hC.1 hC.2.1 dX5_copy_125 rfl ?_
                refine x_iinc (lv' := [(4, .int (iN (j + 1))), (0, .ref a), (1, .int (iN (p0))), (2, .int (iN (p1))), (3, .int (iN (n)))]) hC dX5_copy_126 hl (k := 4) rfl (by decide) rfl (fun ls hl => ?_)
                refine lv_goto (tgt := 102) hC.1 hC.2.1 dX5_copy_129 (by decide) ?_
                have hF9 : (V1 ((p0).toNat) ((j).toNat)) = (V (p0).toNat) (j).toNat := (by exact hvo)
                exact ih102 (j + 1) _ _ _ hRk_66 (xI5.tr hx1 (hx5k_66)) (ml_set (by omega) hV1 he1k_66 hF9) (bl_set (by omega) hV1 hbr1 hF9 he0k_66) _ _ _ (by first | exact mu_s hmz102 (by omega) | omega) (by omega) hw (lv_sub hl [1, 2, 3, 4, 0] rfl)
          · refine lv_aload_n hC.1 hC.2.1 dX5_copy_44 rfl (lv_at hl 0 rfl) ?_
            refine x_get hC hw hR1.1.1 rfl hinX5 5 (by decide) (List.mem_cons_of_mem _ (List.mem_append_left _ (List.mem_append_left _ (List.mem_of_getElem? (i := 1) rfl)))) rfl dX5_copy_45 ?_
            refine lv_iload hC.1 hC.2.1 dX5_copy_48 (lv_at hl 4 rfl) ?_
            refine x_ald4 hC hw hR1.1.2.2.2.2.1 (by omega) (by omega) (by omega) dX5_copy_50 ?_
            rcases hy_69 : fy1 ((j).toNat) with _ | y_68
            · have hnhy_69 : Wv1 ((j).toNat) = none := (hR1.vw (show (j).toNat < 4 from tn_lt (by omega) (by decide))).nil hy_69
              have hohy_69 := opN_none hnhy_69
              show W p l e R s m args below meth c _ _ _ _ _ (F0 m 51 ls [.null])
              refine lv_ifnullN (tgt := 81) hC.1 hC.2.1 dX5_copy_51 (by decide) ?_
              refine x_iinc (lv' := [(4, .int (iN (j + 1))), (0, .ref a), (1, .int (iN (p0))), (2, .int (iN (p1))), (3, .int (iN (n)))]) hC dX5_copy_81 hl (k := 4) rfl (by decide) rfl (fun ls hl => ?_)
              refine lv_goto (tgt := 38) hC.1 hC.2.1 dX5_copy_84 (by decide) ?_
              exact ih38 n (j + 1) _ _ _ hR1 (by rw [show (j + 1).toNat = (j).toNat + 1 from tn_s (by omega)]; exact shN_nil hW1 hnhy_69) hx0 _ _ _ (by first | exact mu_s hmz38 (by omega) | omega) (by omega) (by omega) (by rw [vwN_s (by omega) (vbN_nil (show Wv (j).toNat = none by rw [← shN_at hW1]; exact hnhy_69))]; omega) hw (lv_sub hl [1, 2, 3, 4, 0] rfl)
            · obtain ⟨ti_70, fi_70, hui_70, hIi_70⟩ := (hR1.vw (show (j).toNat < 4 from tn_lt (by omega) (by decide))).yes hy_69
              obtain ⟨htat_71, htbt_71, htct_71, htdt_71, htet_71⟩ := id hIi_70.2.1
              have hohy_69 := opN_some hui_70
              show W p l e R s m args below meth c _ _ _ _ _ (F0 m 51 ls [.ref y_68])
              refine lv_ifnull hC.1 hC.2.1 dX5_copy_51 ?_
              refine lv_aload_n hC.1 hC.2.1 dX5_copy_54 rfl (lv_at hl 0 rfl) ?_
              refine x_get hC hw hR1.1.1 rfl hinX5 5 (by decide) (List.mem_cons_of_mem _ (List.mem_append_left _ (List.mem_append_left _ (List.mem_of_getElem? (i := 1) rfl)))) rfl dX5_copy_55 ?_
              refine lv_iload hC.1 hC.2.1 dX5_copy_58 (lv_at hl 4 rfl) ?_
              refine x_ald4 hC hw hR1.1.2.2.2.2.1 (by omega) (by omega) (by omega) dX5_copy_60 ?_
              rw [hy_69]
              show W p l e R s m args below meth c _ _ _ _ _ (F0 m 61 ls [.ref y_68])
              refine x_const hC dX5_copy_61 ?_
              refine x_ialdE (x := ((ti_70.b : Nat) : Int)) hC hw hIi_70.1 (by omega) (by omega) (by omega) dX5_copy_62 hIi_70.2.2.1 ?_
              refine lv_iload_n hC.1 hC.2.1 dX5_copy_63 rfl (lv_at hl 2 rfl) ?_
              refine x_icmp_eq (tgt := 70) hC ⟨by omega, by omega⟩ ⟨by omega, by omega⟩ dX5_copy_64 (by decide) (fun c_72 => ?_) (fun c_72 => ?_)
              · refine lv_aload_n hC.1 hC.2.1 dX5_copy_70 rfl (lv_at hl 0 rfl) ?_
                refine x_get hC hw hR1.1.1 rfl hinX5 5 (by decide) (List.mem_cons_of_mem _ (List.mem_append_left _ (List.mem_append_left _ (List.mem_of_getElem? (i := 1) rfl)))) rfl dX5_copy_71 ?_
                refine lv_iload hC.1 hC.2.1 dX5_copy_74 (lv_at hl 4 rfl) ?_
                refine lv_null hC.1 hC.2.1 dX5_copy_76 ?_
                refine x_ast4N hC hw hR1.1.2.2.2.2.1 (by omega) (by omega) (by omega) dX5_copy_77 (fun H locs hw => ?_)
                obtain ⟨M_73, hM_74⟩ : ∃ z, z = va_up M1 ya (some (.inl (G.2 4, 4, .inr (.inr (.inr (.inr (va_up fy1 (j).toNat none))))))) := ⟨_, rfl⟩
                rw [← hM_74] at hw
                have hR_75 := hR1.vws (W2 := (upW Wv1 ((j).toNat) none)) hM_74 (fun j9 hj => by by_cases e9 : j9 = (j).toNat; (· subst e9; rw [va_up_self, upW_s]; trivial); (· rw [va_up_ne _ _ e9, upW_n _ _ e9]; exact hR1.vw hj))
                obtain ⟨fy_76, hfy_76⟩ : ∃ z, z = (va_up fy1 (j).toNat none) := ⟨_, rfl⟩
                rw [← hfy_76] at hR_75
                obtain ⟨Wv_77, hWv_77⟩ : ∃ z, z = (upW Wv1 ((j).toNat) none) := ⟨_, rfl⟩
                rw [← hWv_77] at hR_75
                have h_78 := hIi_70.x5 (hR1.vws5 hM_74)
                refine x_iinc (lv' := [(3, .int (iN (n + 1))), (0, .ref a), (1, .int (iN (p0))), (2, .int (iN (p1))), (4, .int (iN (j)))]) hC dX5_copy_78 hl (k := 3) rfl (by decide) rfl (fun ls hl => ?_)
                refine x_iinc (lv' := [(4, .int (iN (j + 1))), (3, .int (iN (n + 1))), (0, .ref a), (1, .int (iN (p0))), (2, .int (iN (p1)))]) hC dX5_copy_81 hl (k := 4) rfl (by decide) rfl (fun ls hl => ?_)
                refine lv_goto (tgt := 38) hC.1 hC.2.1 dX5_copy_84 (by decide) ?_
                exact ih38 (n + 1) (j + 1) _ _ _ hR_75 (by rw [show (j + 1).toNat = (j).toNat + 1 from tn_s (by omega)]; exact (by rw [hWv_77]; exact shN_drop hW1 hui_70 (by first | exact eq_tn (by assumption) | exact ne_tn (by omega) (by assumption) | omega))) (xI5.tr hx0 ((hR1.vws5 hM_74))) _ _ _ (by first | exact mu_s hmz38 (by omega) | omega) (by omega) (by omega) (by rw [vwN_s (by omega) (vbN_eq (show Wv (j).toNat = some ti_70 by rw [← shN_at hW1]; exact hui_70) (by first | exact eq_tn (by assumption) | exact ne_tn (by omega) (by assumption) | omega))]; omega) hw (lv_sub hl [2, 3, 4, 1, 0] rfl)
              · refine lv_goto (tgt := 81) hC.1 hC.2.1 dX5_copy_67 (by decide) ?_
                refine x_iinc (lv' := [(4, .int (iN (j + 1))), (0, .ref a), (1, .int (iN (p0))), (2, .int (iN (p1))), (3, .int (iN (n)))]) hC dX5_copy_81 hl (k := 4) rfl (by decide) rfl (fun ls hl => ?_)
                refine lv_goto (tgt := 38) hC.1 hC.2.1 dX5_copy_84 (by decide) ?_
                exact ih38 n (j + 1) _ _ _ hR1 (by rw [show (j + 1).toNat = (j).toNat + 1 from tn_s (by omega)]; exact shN_keep hW1 hui_70 (by first | exact eq_tn (by assumption) | exact ne_tn (by omega) (by assumption) | omega)) hx0 _ _ _ (by first | exact mu_s hmz38 (by omega) | omega) (by omega) (by omega) (by rw [vwN_s (by omega) (vbN_ne (show Wv (j).toNat = some ti_70 by rw [← shN_at hW1]; exact hui_70) (by first | exact eq_tn (by assumption) | exact ne_tn (by omega) (by assumption) | omega))]; omega) hw (lv_sub hl [1, 2, 3, 4, 0] rfl)
  · replace hz_3r := (hz_3r.resolve_left (fun q9 => c_4 q9.1)).2
    refine x_const hC dX5_copy_9 ?_
    exact x_iret hC hw dX5_copy_10 (by first | decide | omega) (by first | decide | omega) ⟨0, thk_2, rfl, by omega, Or.inr ⟨by omega, by omega, MGm.of hRk_2 hK⟩⟩
