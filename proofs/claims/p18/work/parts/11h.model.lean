/-! the methods of the model, by program -/
set_option maxHeartbeats 4000000 in
set_option maxRecDepth 100000 in
theorem c_X5_ledgerTold (l : Launch) (G : xG) {M : HM} {a va oa wa ya : Nat} {wk : Option Nat} {th : Int} {rfd : Int32} {br re la ha : Int} {kp kv : Int32} {qv qw : Nat → Nat} {fa fb : Nat → Option Nat} {V : BW} {O : OW} {fy : Nat → Option Nat} {Wv : VW} {wt : Option VT} {S : Nat → Bool} (hR : MGx G M a va oa wa ya wk th rfd br re la ha kp kv qv qw fa fb V O fy Wv wt S) {p0 : Int} (hp0 : -2147483648 ≤ p0 ∧ p0 ≤ 2147483647) (hob : 0 ≤ p0 ∧ p0 ≤ 6) : xMet l G yX5_ledgerTold wsX5_ledgerTold 1 20 1 7 [.ref a, .int (iN (p0))] M (fun r M1 => ∃ z : Int, r = some (.int (iN z)) ∧ xExt M M1 ∧ (-2147483648 ≤ z ∧ z ≤ 2147483647) ∧ ((p0 = 0 ∧ z = opC Wv 4) ∨ (p0 = 1 ∧ z = bkO wt) ∨ (p0 = 2 ∧ z = br) ∨ (p0 = 3 ∧ z = ha) ∨ (p0 = 4 ∧ z = kp.toInt) ∨ (p0 = 5 ∧ z = kv.toInt) ∨ (p0 = 6 ∧ z = rfd.toInt))) := by
  refine x_intro (cc := cX5_ledgerTold) (maxL := 7) (ret := (some .int)) (by exact pln_RX5) rfl (Nat.le_of_ble_eq_true rfl) ?_
  intro p e R s m args below meth c ls hRf hRc hRs hRl hC hw hl
  have hsc0 := hR.sc.1
  have hinX5 : ∀ w ∈ wsX50, w ∈ wsX5_ledgerTold := fun w h => (List.mem_cons_of_mem _ (List.mem_append_right _ h))
  have hl : lv_has ls 7 [(0, .ref a), (1, .int (iN (p0)))] := hl
  refine x_const hC dX5_ledgerTold_0 ?_
  refine lv_istore_n (lv' := [(2, .int (iN (0))), (0, .ref a), (1, .int (iN (p0)))]) hC.1 hC.2.1 dX5_ledgerTold_1 rfl hl (by decide) rfl (fun ls hl => ?_)
  refine lv_aload_n hC.1 hC.2.1 dX5_ledgerTold_2 rfl (lv_at hl 1 rfl) ?_
  refine x_get hC hw hR.1.1 rfl hinX5 5 (by decide) (List.mem_cons_of_mem _ (List.mem_append_left _ (List.mem_of_getElem? (i := 0) rfl))) rfl dX5_ledgerTold_3 ?_
  refine lv_astore_n (lv' := [(3, .ref ya), (2, .int (iN (0))), (0, .ref a), (1, .int (iN (p0)))]) hC.1 hC.2.1 dX5_ledgerTold_6 rfl hl (by decide) rfl (fun ls hl => ?_)
  refine lv_aload_n hC.1 hC.2.1 dX5_ledgerTold_7 rfl (lv_at hl 0 rfl) ?_
  refine x_alen hC hw 4 hR.1.2.2.2.2.1 rfl dX5_ledgerTold_8 ?_
  refine lv_istore (lv' := [(4, .int (iN (4))), (3, .ref ya), (2, .int (iN (0))), (0, .ref a), (1, .int (iN (p0)))]) hC.1 hC.2.1 dX5_ledgerTold_9 hl (by decide) rfl (fun ls hl => ?_)
  refine x_const hC dX5_ledgerTold_11 ?_
  refine lv_istore (lv' := [(5, .int (iN (0))), (4, .int (iN (4))), (3, .ref ya), (2, .int (iN (0))), (0, .ref a), (1, .int (iN (p0)))]) hC.1 hC.2.1 dX5_ledgerTold_12 hl (by decide) rfl (fun ls hl => ?_)
  suffices hloop14 : ∀ (n9 : Nat) (n : Int) (j : Int) (H : Heap) (locs : List Loc) (ls : Array Slot), (hmz14 : (4 - j).toNat < n9) → (hi0 : 0 ≤ j ∧ j ≤ 4) → (hi1 : 0 ≤ n ∧ n ≤ j) → (hcn : n = opC Wv (j).toNat) → xD G (xA M s.heap.size) s M H locs → lv_has ls 7 [(0, .ref a), (1, .int (iN (p0))), (2, .int (iN (n))), (3, .ref ya), (4, .int (iN (4))), (5, .int (iN (j)))] → W p l e R s m args below meth c H locs _ _ _ (F0 m 14 ls []) by
    exact hloop14 _ 0 0  _ _ _ (Nat.lt_succ_self _) (by omega) (by omega) (rfl) hw (lv_sub hl [4, 5, 3, 2, 1, 0] rfl)
  intro n9
  induction n9 with
  | zero => intro n j  H locs ls hmz; exact absurd hmz (Nat.not_lt_zero _)
  | succ n9 ih14 =>
    intro n j  H locs ls hmz14 hi0 hi1 hcn hw hl
    refine lv_iload hC.1 hC.2.1 dX5_ledgerTold_14 (lv_at hl 5 rfl) ?_
    refine lv_iload hC.1 hC.2.1 dX5_ledgerTold_16 (lv_at hl 4 rfl) ?_
    refine x_icmp_ge (tgt := 49) hC ⟨by omega, by omega⟩ ⟨by omega, by omega⟩ dX5_ledgerTold_18 (by decide) (fun c_1 => ?_) (fun c_1 => ?_)
    · refine x_bipush hC dX5_ledgerTold_49 (by decide +kernel) ?_
      refine x_newI hC hw (by decide +kernel) 7 rfl (by decide) (by omega) (by omega) dX5_ledgerTold_51 (fun q_2 H hq_3 hw => ?_)
      obtain ⟨M_4, hM_5⟩ : ∃ z, z = va_up M q_2 (some (.inl (G.2 1, 7, .inl (fun _ => 0)))) := ⟨_, rfl⟩
      rw [← hM_5] at hw
      have hx_6 : xExt M M_4 := by rw [hM_5]; exact xExt.new hq_3
      have hA_7 : M_4 q_2 = some (.inl (G.2 1, 7, .inl (fun _ => 0))) := by rw [hM_5, va_up_self]
      have h_8 := hR.ext hx_6
      refine lv_dup hC.1 hC.2.1 dX5_ledgerTold_53 rfl ?_
      refine x_const hC dX5_ledgerTold_54 ?_
      refine lv_iload_n hC.1 hC.2.1 dX5_ledgerTold_55 rfl (lv_at hl 2 rfl) ?_
      refine x_iast hC hw hA_7 (by omega) (by omega) (by omega) dX5_ledgerTold_56 (fun H locs hw => ?_)
      obtain ⟨M_9, hM_10⟩ : ∃ z, z = va_up M_4 q_2 (some (.inl (G.2 1, 7, .inl (upd (fun _ => 0) (0 : Int).toNat (iN (n)))))) := ⟨_, rfl⟩
      rw [← hM_10] at hw
      have hA_11 : M_9 q_2 = some (.inl (G.2 1, 7, .inl (upd (fun _ => 0) (0 : Int).toNat (iN (n))))) := by rw [hM_10, va_up_self]
      have hx_12 := xExt.upd hq_3 hx_6 hM_10
      have h_13 := hR.ext hx_12
      refine lv_dup hC.1 hC.2.1 dX5_ledgerTold_57 rfl ?_
      refine x_const hC dX5_ledgerTold_58 ?_
      refine lv_aload_n hC.1 hC.2.1 dX5_ledgerTold_59 rfl (lv_at hl 0 rfl) ?_
      refine x_get hC hw h_13.1.1 rfl hinX5 6 (by decide) (List.mem_cons_of_mem _ (List.mem_append_left _ (List.mem_of_getElem? (i := 2) rfl))) rfl dX5_ledgerTold_60 ?_
      rcases wk with _ | w_14
      · have hwt_15 := h_13.wk'.nil rfl
        subst hwt_15
        show W p l e R s m args below meth c _ _ _ _ _ (F0 m 63 ls [.null, .int (iN (1)), .ref q_2, .ref q_2])
        refine lv_ifnonnullN hC.1 hC.2.1 dX5_ledgerTold_63 ?_
        refine x_sipush hC dX5_ledgerTold_66 (by decide +kernel) ?_
        refine lv_goto (tgt := 78) hC.1 hC.2.1 dX5_ledgerTold_69 (by decide) ?_
        refine x_iast hC hw hA_11 (by omega) (by omega) (by omega) dX5_ledgerTold_78 (fun H locs hw => ?_)
        obtain ⟨M_16, hM_17⟩ : ∃ z, z = va_up M_9 q_2 (some (.inl (G.2 1, 7, .inl (upd (upd (fun _ => 0) (0 : Int).toNat (iN (n))) (1 : Int).toNat (iN ((-10000))))))) := ⟨_, rfl⟩
        rw [← hM_17] at hw
        have hA_18 : M_16 q_2 = some (.inl (G.2 1, 7, .inl (upd (upd (fun _ => 0) (0 : Int).toNat (iN (n))) (1 : Int).toNat (iN ((-10000)))))) := by rw [hM_17, va_up_self]
        have hx_19 := xExt.upd hq_3 hx_12 hM_17
        have h_20 := hR.ext hx_19
        refine lv_dup hC.1 hC.2.1 dX5_ledgerTold_79 rfl ?_
        refine x_const hC dX5_ledgerTold_80 ?_
        refine lv_aload_n hC.1 hC.2.1 dX5_ledgerTold_81 rfl (lv_at hl 0 rfl) ?_
        refine x_get hC hw h_20.1.1 rfl hinX5 7 (by decide) (List.mem_cons_of_mem _ (List.mem_append_left _ (List.mem_of_getElem? (i := 3) rfl))) rfl dX5_ledgerTold_82 ?_
        have sc_21 := h_20.sc.2.1
        refine x_callS hC hw (lv_size hl) (c_X5_one l G (M := M_16) (p0 := br) (by omega)) gX5_ledgerTold_X5_one rfl dv_X5_one_s rfl (Nat.le_of_ble_eq_true rfl) (by rw [hRf]; decide) (by rw [hRl]; decide) (by first | (rw [hRc]; decide) | omega) (by first | (rw [hRs]; decide) | omega) dX5_ledgerTold_85 (fun r9 M_22 H locs hq hw => ?_)
        obtain ⟨z_23, rfl, hM9, hz_23a, hz_23b⟩ := hq
        rw [hM9] at hw
        show W p l e R s m args below meth c H locs _ _ _ (F0 m 88 ls [.int (iN (z_23)), .int (iN (2)), .ref q_2, .ref q_2])
        refine x_iast hC hw hA_18 (by omega) (by omega) (by omega) dX5_ledgerTold_88 (fun H locs hw => ?_)
        obtain ⟨M_24, hM_25⟩ : ∃ z, z = va_up M_16 q_2 (some (.inl (G.2 1, 7, .inl (upd (upd (upd (fun _ => 0) (0 : Int).toNat (iN (n))) (1 : Int).toNat (iN ((-10000)))) (2 : Int).toNat (iN (z_23)))))) := ⟨_, rfl⟩
        rw [← hM_25] at hw
        have hA_26 : M_24 q_2 = some (.inl (G.2 1, 7, .inl (upd (upd (upd (fun _ => 0) (0 : Int).toNat (iN (n))) (1 : Int).toNat (iN ((-10000)))) (2 : Int).toNat (iN (z_23))))) := by rw [hM_25, va_up_self]
        have hx_27 := xExt.upd hq_3 hx_19 hM_25
        have h_28 := hR.ext hx_27
        refine lv_dup hC.1 hC.2.1 dX5_ledgerTold_89 rfl ?_
        refine x_const hC dX5_ledgerTold_90 ?_
        refine lv_aload_n hC.1 hC.2.1 dX5_ledgerTold_91 rfl (lv_at hl 0 rfl) ?_
        refine x_get hC hw h_28.1.1 rfl hinX5 10 (by decide) (List.mem_cons_of_mem _ (List.mem_append_left _ (List.mem_of_getElem? (i := 4) rfl))) rfl dX5_ledgerTold_92 ?_
        have sc_29 := h_28.sc.2.2.2.2
        refine x_iast hC hw hA_26 (by omega) (by omega) (by omega) dX5_ledgerTold_95 (fun H locs hw => ?_)
        obtain ⟨M_30, hM_31⟩ : ∃ z, z = va_up M_24 q_2 (some (.inl (G.2 1, 7, .inl (upd (upd (upd (upd (fun _ => 0) (0 : Int).toNat (iN (n))) (1 : Int).toNat (iN ((-10000)))) (2 : Int).toNat (iN (z_23))) (3 : Int).toNat (iN (ha)))))) := ⟨_, rfl⟩
        rw [← hM_31] at hw
        have hA_32 : M_30 q_2 = some (.inl (G.2 1, 7, .inl (upd (upd (upd (upd (fun _ => 0) (0 : Int).toNat (iN (n))) (1 : Int).toNat (iN ((-10000)))) (2 : Int).toNat (iN (z_23))) (3 : Int).toNat (iN (ha))))) := by rw [hM_31, va_up_self]
        have hx_33 := xExt.upd hq_3 hx_27 hM_31
        have h_34 := hR.ext hx_33
        refine lv_dup hC.1 hC.2.1 dX5_ledgerTold_96 rfl ?_
        refine x_const hC dX5_ledgerTold_97 ?_
        refine lv_aload_n hC.1 hC.2.1 dX5_ledgerTold_98 rfl (lv_at hl 0 rfl) ?_
        refine x_getR hC hw h_34.1.1 rfl hinX5 11 (by decide) (List.mem_cons_of_mem _ (List.mem_append_left _ (List.mem_of_getElem? (i := 5) rfl))) rfl dX5_ledgerTold_99 ?_
        have hrr_35 := iN_rng kp
        refine x_iast hC hw hA_32 (by omega) (by omega) (by omega) dX5_ledgerTold_102 (fun H locs hw => ?_)
        obtain ⟨M_36, hM_37⟩ : ∃ z, z = va_up M_30 q_2 (some (.inl (G.2 1, 7, .inl (upd (upd (upd (upd (upd (fun _ => 0) (0 : Int).toNat (iN (n))) (1 : Int).toNat (iN ((-10000)))) (2 : Int).toNat (iN (z_23))) (3 : Int).toNat (iN (ha))) (4 : Int).toNat (iN (kp.toInt)))))) := ⟨_, rfl⟩
        rw [← hM_37] at hw
        have hA_38 : M_36 q_2 = some (.inl (G.2 1, 7, .inl (upd (upd (upd (upd (upd (fun _ => 0) (0 : Int).toNat (iN (n))) (1 : Int).toNat (iN ((-10000)))) (2 : Int).toNat (iN (z_23))) (3 : Int).toNat (iN (ha))) (4 : Int).toNat (iN (kp.toInt))))) := by rw [hM_37, va_up_self]
        have hx_39 := xExt.upd hq_3 hx_33 hM_37
        have h_40 := hR.ext hx_39
        refine lv_dup hC.1 hC.2.1 dX5_ledgerTold_103 rfl ?_
        refine x_const hC dX5_ledgerTold_104 ?_
        refine lv_aload_n hC.1 hC.2.1 dX5_ledgerTold_105 rfl (lv_at hl 0 rfl) ?_
        refine x_getR hC hw h_40.1.1 rfl hinX5 12 (by decide) (List.mem_cons_of_mem _ (List.mem_append_left _ (List.mem_of_getElem? (i := 6) rfl))) rfl dX5_ledgerTold_106 ?_
        have hrr_41 := iN_rng kv
        refine x_iast hC hw hA_38 (by omega) (by omega) (by omega) dX5_ledgerTold_109 (fun H locs hw => ?_)
        obtain ⟨M_42, hM_43⟩ : ∃ z, z = va_up M_36 q_2 (some (.inl (G.2 1, 7, .inl (upd (upd (upd (upd (upd (upd (fun _ => 0) (0 : Int).toNat (iN (n))) (1 : Int).toNat (iN ((-10000)))) (2 : Int).toNat (iN (z_23))) (3 : Int).toNat (iN (ha))) (4 : Int).toNat (iN (kp.toInt))) (5 : Int).toNat (iN (kv.toInt)))))) := ⟨_, rfl⟩
        rw [← hM_43] at hw
        have hA_44 : M_42 q_2 = some (.inl (G.2 1, 7, .inl (upd (upd (upd (upd (upd (upd (fun _ => 0) (0 : Int).toNat (iN (n))) (1 : Int).toNat (iN ((-10000)))) (2 : Int).toNat (iN (z_23))) (3 : Int).toNat (iN (ha))) (4 : Int).toNat (iN (kp.toInt))) (5 : Int).toNat (iN (kv.toInt))))) := by rw [hM_43, va_up_self]
        have hx_45 := xExt.upd hq_3 hx_39 hM_43
        have h_46 := hR.ext hx_45
        refine lv_dup hC.1 hC.2.1 dX5_ledgerTold_110 rfl ?_
        refine x_bipush hC dX5_ledgerTold_111 (by decide +kernel) ?_
        refine lv_aload_n hC.1 hC.2.1 dX5_ledgerTold_113 rfl (lv_at hl 0 rfl) ?_
        refine x_getR hC hw h_46.1.1 rfl hinX5 1 (by decide) (List.mem_cons_of_mem _ (List.mem_append_left _ (List.mem_of_getElem? (i := 7) rfl))) rfl dX5_ledgerTold_114 ?_
        have hrr_47 := iN_rng rfd
        refine x_iast hC hw hA_44 (by omega) (by omega) (by omega) dX5_ledgerTold_117 (fun H locs hw => ?_)
        obtain ⟨M_48, hM_49⟩ : ∃ z, z = va_up M_42 q_2 (some (.inl (G.2 1, 7, .inl (upd (upd (upd (upd (upd (upd (upd (fun _ => 0) (0 : Int).toNat (iN (n))) (1 : Int).toNat (iN ((-10000)))) (2 : Int).toNat (iN (z_23))) (3 : Int).toNat (iN (ha))) (4 : Int).toNat (iN (kp.toInt))) (5 : Int).toNat (iN (kv.toInt))) (6 : Int).toNat (iN (rfd.toInt)))))) := ⟨_, rfl⟩
        rw [← hM_49] at hw
        have hA_50 : M_48 q_2 = some (.inl (G.2 1, 7, .inl (upd (upd (upd (upd (upd (upd (upd (fun _ => 0) (0 : Int).toNat (iN (n))) (1 : Int).toNat (iN ((-10000)))) (2 : Int).toNat (iN (z_23))) (3 : Int).toNat (iN (ha))) (4 : Int).toNat (iN (kp.toInt))) (5 : Int).toNat (iN (kv.toInt))) (6 : Int).toNat (iN (rfd.toInt))))) := by rw [hM_49, va_up_self]
        have hx_51 := xExt.upd hq_3 hx_45 hM_49
        have h_52 := hR.ext hx_51
        refine lv_astore_n (lv' := [(3, .ref q_2), (0, .ref a), (1, .int (iN (p0))), (2, .int (iN (n))), (4, .int (iN (4))), (5, .int (iN (j)))]) hC.1 hC.2.1 dX5_ledgerTold_118 rfl hl (by decide) rfl (fun ls hl => ?_)
        refine lv_aload_n hC.1 hC.2.1 dX5_ledgerTold_119 rfl (lv_at hl 0 rfl) ?_
        refine lv_iload_n hC.1 hC.2.1 dX5_ledgerTold_120 rfl (lv_at hl 2 rfl) ?_
        refine x_iald hC hw hA_50 (by omega) (by omega) (by omega) dX5_ledgerTold_121 ?_
        obtain ⟨z_53, hz_53⟩ : ∃ z : Int, z = ((upd (upd (upd (upd (upd (upd (upd (fun _ => 0) (0 : Int).toNat (iN (n))) (1 : Int).toNat (iN ((-10000)))) (2 : Int).toNat (iN (z_23))) (3 : Int).toNat (iN (ha))) (4 : Int).toNat (iN (kp.toInt))) (5 : Int).toNat (iN (kv.toInt))) (6 : Int).toNat (iN (rfd.toInt))) (p0).toNat).toInt := ⟨_, rfl⟩
        rw [← hz_53]
        have hrz_53 : -2147483648 ≤ z_53 ∧ z_53 ≤ 2147483647 := by rw [hz_53]; exact iN_rng _
        exact x_iret hC hw dX5_ledgerTold_122 (by first | decide | omega) (by first | decide | omega) ⟨z_53, rfl, hx_51, by omega, (by have e7 : bkO none = -10000 := rfl; have e6 : n = opC Wv 4 := (by rw [show (4 : Nat) = (j).toNat from (tn_eq (by omega)).symm]; exact hcn); have e9 := led_sel (by omega) (by omega) (by omega) (by omega) (by omega) (by omega) (by omega) (by omega) hz_53; rcases e9 with ⟨u1, u2⟩ | ⟨u1, u2⟩ | ⟨u1, u2⟩ | ⟨u1, u2⟩ | ⟨u1, u2⟩ | ⟨u1, u2⟩ | ⟨u1, u2⟩; (· exact Or.inl ⟨u1, u2.trans e6⟩); (· exact Or.inr (Or.inl ⟨u1, u2.trans e7.symm⟩)); (· exact Or.inr (Or.inr (Or.inl ⟨u1, u2.trans (by omega)⟩))); (· exact Or.inr (Or.inr (Or.inr (Or.inl ⟨u1, u2⟩)))); (· exact Or.inr (Or.inr (Or.inr (Or.inr (Or.inl ⟨u1, u2⟩))))); (· exact Or.inr (Or.inr (Or.inr (Or.inr (Or.inr (Or.inl ⟨u1, u2⟩)))))); (· exact Or.inr (Or.inr (Or.inr (Or.inr (Or.inr (Or.inr ⟨u1, u2⟩)))))))⟩
      · obtain ⟨ti_54, fi_54, hui_54, hIi_54⟩ := h_13.wk'.yes rfl
        obtain ⟨htat_55, htbt_55, htct_55, htdt_55, htet_55⟩ := id hIi_54.2.1
        subst hui_54
        show W p l e R s m args below meth c _ _ _ _ _ (F0 m 63 ls [.ref w_14, .int (iN (1)), .ref q_2, .ref q_2])
        refine lv_ifnonnull (tgt := 72) hC.1 hC.2.1 dX5_ledgerTold_63 (by decide) ?_
        refine lv_aload_n hC.1 hC.2.1 dX5_ledgerTold_72 rfl (lv_at hl 0 rfl) ?_
        refine x_get hC hw h_13.1.1 rfl hinX5 6 (by decide) (List.mem_cons_of_mem _ (List.mem_append_left _ (List.mem_of_getElem? (i := 2) rfl))) rfl dX5_ledgerTold_73 ?_
        show W p l e R s m args below meth c _ _ _ _ _ (F0 m 76 ls [.ref w_14, .int (iN (1)), .ref q_2, .ref q_2])
        refine x_const hC dX5_ledgerTold_76 ?_
        refine x_ialdE (x := ((ti_54.b : Nat) : Int)) hC hw hIi_54.1 (by omega) (by omega) (by omega) dX5_ledgerTold_77 hIi_54.2.2.1 ?_
        refine x_iast hC hw hA_11 (by omega) (by omega) (by omega) dX5_ledgerTold_78 (fun H locs hw => ?_)
        obtain ⟨M_56, hM_57⟩ : ∃ z, z = va_up M_9 q_2 (some (.inl (G.2 1, 7, .inl (upd (upd (fun _ => 0) (0 : Int).toNat (iN (n))) (1 : Int).toNat (iN (((ti_54.b : Nat) : Int))))))) := ⟨_, rfl⟩
        rw [← hM_57] at hw
        have hA_58 : M_56 q_2 = some (.inl (G.2 1, 7, .inl (upd (upd (fun _ => 0) (0 : Int).toNat (iN (n))) (1 : Int).toNat (iN (((ti_54.b : Nat) : Int)))))) := by rw [hM_57, va_up_self]
        have hx_59 := xExt.upd hq_3 hx_12 hM_57
        have h_60 := hR.ext hx_59
        refine lv_dup hC.1 hC.2.1 dX5_ledgerTold_79 rfl ?_
        refine x_const hC dX5_ledgerTold_80 ?_
        refine lv_aload_n hC.1 hC.2.1 dX5_ledgerTold_81 rfl (lv_at hl 0 rfl) ?_
        refine x_get hC hw h_60.1.1 rfl hinX5 7 (by decide) (List.mem_cons_of_mem _ (List.mem_append_left _ (List.mem_of_getElem? (i := 3) rfl))) rfl dX5_ledgerTold_82 ?_
        have sc_61 := h_60.sc.2.1
        refine x_callS hC hw (lv_size hl) (c_X5_one l G (M := M_56) (p0 := br) (by omega)) gX5_ledgerTold_X5_one rfl dv_X5_one_s rfl (Nat.le_of_ble_eq_true rfl) (by rw [hRf]; decide) (by rw [hRl]; decide) (by first | (rw [hRc]; decide) | omega) (by first | (rw [hRs]; decide) | omega) dX5_ledgerTold_85 (fun r9 M_62 H locs hq hw => ?_)
        obtain ⟨z_63, rfl, hM9, hz_63a, hz_63b⟩ := hq
        rw [hM9] at hw
        show W p l e R s m args below meth c H locs _ _ _ (F0 m 88 ls [.int (iN (z_63)), .int (iN (2)), .ref q_2, .ref q_2])
        refine x_iast hC hw hA_58 (by omega) (by omega) (by omega) dX5_ledgerTold_88 (fun H locs hw => ?_)
        obtain ⟨M_64, hM_65⟩ : ∃ z, z = va_up M_56 q_2 (some (.inl (G.2 1, 7, .inl (upd (upd (upd (fun _ => 0) (0 : Int).toNat (iN (n))) (1 : Int).toNat (iN (((ti_54.b : Nat) : Int)))) (2 : Int).toNat (iN (z_63)))))) := ⟨_, rfl⟩
        rw [← hM_65] at hw
        have hA_66 : M_64 q_2 = some (.inl (G.2 1, 7, .inl (upd (upd (upd (fun _ => 0) (0 : Int).toNat (iN (n))) (1 : Int).toNat (iN (((ti_54.b : Nat) : Int)))) (2 : Int).toNat (iN (z_63))))) := by rw [hM_65, va_up_self]
        have hx_67 := xExt.upd hq_3 hx_59 hM_65
        have h_68 := hR.ext hx_67
        refine lv_dup hC.1 hC.2.1 dX5_ledgerTold_89 rfl ?_
        refine x_const hC dX5_ledgerTold_90 ?_
        refine lv_aload_n hC.1 hC.2.1 dX5_ledgerTold_91 rfl (lv_at hl 0 rfl) ?_
        refine x_get hC hw h_68.1.1 rfl hinX5 10 (by decide) (List.mem_cons_of_mem _ (List.mem_append_left _ (List.mem_of_getElem? (i := 4) rfl))) rfl dX5_ledgerTold_92 ?_
        have sc_69 := h_68.sc.2.2.2.2
        refine x_iast hC hw hA_66 (by omega) (by omega) (by omega) dX5_ledgerTold_95 (fun H locs hw => ?_)
        obtain ⟨M_70, hM_71⟩ : ∃ z, z = va_up M_64 q_2 (some (.inl (G.2 1, 7, .inl (upd (upd (upd (upd (fun _ => 0) (0 : Int).toNat (iN (n))) (1 : Int).toNat (iN (((ti_54.b : Nat) : Int)))) (2 : Int).toNat (iN (z_63))) (3 : Int).toNat (iN (ha)))))) := ⟨_, rfl⟩
        rw [← hM_71] at hw
        have hA_72 : M_70 q_2 = some (.inl (G.2 1, 7, .inl (upd (upd (upd (upd (fun _ => 0) (0 : Int).toNat (iN (n))) (1 : Int).toNat (iN (((ti_54.b : Nat) : Int)))) (2 : Int).toNat (iN (z_63))) (3 : Int).toNat (iN (ha))))) := by rw [hM_71, va_up_self]
        have hx_73 := xExt.upd hq_3 hx_67 hM_71
        have h_74 := hR.ext hx_73
        refine lv_dup hC.1 hC.2.1 dX5_ledgerTold_96 rfl ?_
        refine x_const hC dX5_ledgerTold_97 ?_
        refine lv_aload_n hC.1 hC.2.1 dX5_ledgerTold_98 rfl (lv_at hl 0 rfl) ?_
        refine x_getR hC hw h_74.1.1 rfl hinX5 11 (by decide) (List.mem_cons_of_mem _ (List.mem_append_left _ (List.mem_of_getElem? (i := 5) rfl))) rfl dX5_ledgerTold_99 ?_
        have hrr_75 := iN_rng kp
        refine x_iast hC hw hA_72 (by omega) (by omega) (by omega) dX5_ledgerTold_102 (fun H locs hw => ?_)
        obtain ⟨M_76, hM_77⟩ : ∃ z, z = va_up M_70 q_2 (some (.inl (G.2 1, 7, .inl (upd (upd (upd (upd (upd (fun _ => 0) (0 : Int).toNat (iN (n))) (1 : Int).toNat (iN (((ti_54.b : Nat) : Int)))) (2 : Int).toNat (iN (z_63))) (3 : Int).toNat (iN (ha))) (4 : Int).toNat (iN (kp.toInt)))))) := ⟨_, rfl⟩
        rw [← hM_77] at hw
        have hA_78 : M_76 q_2 = some (.inl (G.2 1, 7, .inl (upd (upd (upd (upd (upd (fun _ => 0) (0 : Int).toNat (iN (n))) (1 : Int).toNat (iN (((ti_54.b : Nat) : Int)))) (2 : Int).toNat (iN (z_63))) (3 : Int).toNat (iN (ha))) (4 : Int).toNat (iN (kp.toInt))))) := by rw [hM_77, va_up_self]
        have hx_79 := xExt.upd hq_3 hx_73 hM_77
        have h_80 := hR.ext hx_79
        refine lv_dup hC.1 hC.2.1 dX5_ledgerTold_103 rfl ?_
        refine x_const hC dX5_ledgerTold_104 ?_
        refine lv_aload_n hC.1 hC.2.1 dX5_ledgerTold_105 rfl (lv_at hl 0 rfl) ?_
        refine x_getR hC hw h_80.1.1 rfl hinX5 12 (by decide) (List.mem_cons_of_mem _ (List.mem_append_left _ (List.mem_of_getElem? (i := 6) rfl))) rfl dX5_ledgerTold_106 ?_
        have hrr_81 := iN_rng kv
        refine x_iast hC hw hA_78 (by omega) (by omega) (by omega) dX5_ledgerTold_109 (fun H locs hw => ?_)
        obtain ⟨M_82, hM_83⟩ : ∃ z, z = va_up M_76 q_2 (some (.inl (G.2 1, 7, .inl (upd (upd (upd (upd (upd (upd (fun _ => 0) (0 : Int).toNat (iN (n))) (1 : Int).toNat (iN (((ti_54.b : Nat) : Int)))) (2 : Int).toNat (iN (z_63))) (3 : Int).toNat (iN (ha))) (4 : Int).toNat (iN (kp.toInt))) (5 : Int).toNat (iN (kv.toInt)))))) := ⟨_, rfl⟩
        rw [← hM_83] at hw
        have hA_84 : M_82 q_2 = some (.inl (G.2 1, 7, .inl (upd (upd (upd (upd (upd (upd (fun _ => 0) (0 : Int).toNat (iN (n))) (1 : Int).toNat (iN (((ti_54.b : Nat) : Int)))) (2 : Int).toNat (iN (z_63))) (3 : Int).toNat (iN (ha))) (4 : Int).toNat (iN (kp.toInt))) (5 : Int).toNat (iN (kv.toInt))))) := by rw [hM_83, va_up_self]
        have hx_85 := xExt.upd hq_3 hx_79 hM_83
        have h_86 := hR.ext hx_85
        refine lv_dup hC.1 hC.2.1 dX5_ledgerTold_110 rfl ?_
        refine x_bipush hC dX5_ledgerTold_111 (by decide +kernel) ?_
        refine lv_aload_n hC.1 hC.2.1 dX5_ledgerTold_113 rfl (lv_at hl 0 rfl) ?_
        refine x_getR hC hw h_86.1.1 rfl hinX5 1 (by decide) (List.mem_cons_of_mem _ (List.mem_append_left _ (List.mem_of_getElem? (i := 7) rfl))) rfl dX5_ledgerTold_114 ?_
        have hrr_87 := iN_rng rfd
        refine x_iast hC hw hA_84 (by omega) (by omega) (by omega) dX5_ledgerTold_117 (fun H locs hw => ?_)
        obtain ⟨M_88, hM_89⟩ : ∃ z, z = va_up M_82 q_2 (some (.inl (G.2 1, 7, .inl (upd (upd (upd (upd (upd (upd (upd (fun _ => 0) (0 : Int).toNat (iN (n))) (1 : Int).toNat (iN (((ti_54.b : Nat) : Int)))) (2 : Int).toNat (iN (z_63))) (3 : Int).toNat (iN (ha))) (4 : Int).toNat (iN (kp.toInt))) (5 : Int).toNat (iN (kv.toInt))) (6 : Int).toNat (iN (rfd.toInt)))))) := ⟨_, rfl⟩
        rw [← hM_89] at hw
        have hA_90 : M_88 q_2 = some (.inl (G.2 1, 7, .inl (upd (upd (upd (upd (upd (upd (upd (fun _ => 0) (0 : Int).toNat (iN (n))) (1 : Int).toNat (iN (((ti_54.b : Nat) : Int)))) (2 : Int).toNat (iN (z_63))) (3 : Int).toNat (iN (ha))) (4 : Int).toNat (iN (kp.toInt))) (5 : Int).toNat (iN (kv.toInt))) (6 : Int).toNat (iN (rfd.toInt))))) := by rw [hM_89, va_up_self]
        have hx_91 := xExt.upd hq_3 hx_85 hM_89
        have h_92 := hR.ext hx_91
        refine lv_astore_n (lv' := [(3, .ref q_2), (0, .ref a), (1, .int (iN (p0))), (2, .int (iN (n))), (4, .int (iN (4))), (5, .int (iN (j)))]) hC.1 hC.2.1 dX5_ledgerTold_118 rfl hl (by decide) rfl (fun ls hl => ?_)
        refine lv_aload_n hC.1 hC.2.1 dX5_ledgerTold_119 rfl (lv_at hl 0 rfl) ?_
        refine lv_iload_n hC.1 hC.2.1 dX5_ledgerTold_120 rfl (lv_at hl 2 rfl) ?_
        refine x_iald hC hw hA_90 (by omega) (by omega) (by omega) dX5_ledgerTold_121 ?_
        obtain ⟨z_93, hz_93⟩ : ∃ z : Int, z = ((upd (upd (upd (upd (upd (upd (upd (fun _ => 0) (0 : Int).toNat (iN (n))) (1 : Int).toNat (iN (((ti_54.b : Nat) : Int)))) (2 : Int).toNat (iN (z_63))) (3 : Int).toNat (iN (ha))) (4 : Int).toNat (iN (kp.toInt))) (5 : Int).toNat (iN (kv.toInt))) (6 : Int).toNat (iN (rfd.toInt))) (p0).toNat).toInt := ⟨_, rfl⟩
        rw [← hz_93]
        have hrz_93 : -2147483648 ≤ z_93 ∧ z_93 ≤ 2147483647 := by rw [hz_93]; exact iN_rng _
        exact x_iret hC hw dX5_ledgerTold_122 (by first | decide | omega) (by first | decide | omega) ⟨z_93, rfl, hx_91, by omega, (by have e7 : bkO (some ti_54) = ((ti_54.b : Nat) : Int) := rfl; have e6 : n = opC Wv 4 := (by rw [show (4 : Nat) = (j).toNat from (tn_eq (by omega)).symm]; exact hcn); have e9 := led_sel (by omega) (by omega) (by omega) (by omega) (by omega) (by omega) (by omega) (by omega) hz_93; rcases e9 with ⟨u1, u2⟩ | ⟨u1, u2⟩ | ⟨u1, u2⟩ | ⟨u1, u2⟩ | ⟨u1, u2⟩ | ⟨u1, u2⟩ | ⟨u1, u2⟩; (· exact Or.inl ⟨u1, u2.trans e6⟩); (· exact Or.inr (Or.inl ⟨u1, u2.trans e7.symm⟩)); (· exact Or.inr (Or.inr (Or.inl ⟨u1, u2.trans (by omega)⟩))); (· exact Or.inr (Or.inr (Or.inr (Or.inl ⟨u1, u2⟩)))); (· exact Or.inr (Or.inr (Or.inr (Or.inr (Or.inl ⟨u1, u2⟩))))); (· exact Or.inr (Or.inr (Or.inr (Or.inr (Or.inr (Or.inl ⟨u1, u2⟩)))))); (· exact Or.inr (Or.inr (Or.inr (Or.inr (Or.inr (Or.inr ⟨u1, u2⟩)))))))⟩
    · refine lv_aload_n hC.1 hC.2.1 dX5_ledgerTold_21 rfl (lv_at hl 3 rfl) ?_
      refine lv_iload hC.1 hC.2.1 dX5_ledgerTold_22 (lv_at hl 5 rfl) ?_
      refine x_ald4 hC hw hR.1.2.2.2.2.1 (by omega) (by omega) (by omega) dX5_ledgerTold_24 ?_
      rcases hy_95 : fy ((j).toNat) with _ | y_94
      · have hnhy_95 : Wv ((j).toNat) = none := (hR.vw (show (j).toNat < 4 from tn_lt (by omega) (by decide))).nil hy_95
        have hohy_95 := opN_none hnhy_95
        show W p l e R s m args below meth c _ _ _ _ _ (F0 m 25 ls [.null])
        refine lv_astoreN (lv' := [(6, .null), (0, .ref a), (1, .int (iN (p0))), (2, .int (iN (n))), (3, .ref ya), (4, .int (iN (4))), (5, .int (iN (j)))]) hC.1 hC.2.1 dX5_ledgerTold_25 hl (by decide) rfl (fun ls hl => ?_)
        refine lv_iload_n hC.1 hC.2.1 dX5_ledgerTold_27 rfl (lv_at hl 3 rfl) ?_
        refine lv_aloadN hC.1 hC.2.1 dX5_ledgerTold_28 (lv_at hl 0 rfl) ?_
        refine lv_ifnullN (tgt := 37) hC.1 hC.2.1 dX5_ledgerTold_30 (by decide) ?_
        refine x_const hC dX5_ledgerTold_37 ?_
        refine x_callS hC hw (lv_size hl) (c_X5_one l G (M := M) (p0 := 0) (by omega)) gX5_ledgerTold_X5_one rfl dv_X5_one_s rfl (Nat.le_of_ble_eq_true rfl) (by rw [hRf]; decide) (by rw [hRl]; decide) (by first | (rw [hRc]; decide) | omega) (by first | (rw [hRs]; decide) | omega) dX5_ledgerTold_38 (fun r9 M_96 H locs hq hw => ?_)
        obtain ⟨z_97, rfl, hM9, hz_97a, hz_97b⟩ := hq
        rw [hM9] at hw
        show W p l e R s m args below meth c H locs _ _ _ (F0 m 41 ls [.int (iN (z_97)), .int (iN (n))])
        refine x_iadd hC dX5_ledgerTold_41 ?_
        refine lv_istore_n (lv' := [(2, .int (iN (n + z_97))), (6, .null), (0, .ref a), (1, .int (iN (p0))), (3, .ref ya), (4, .int (iN (4))), (5, .int (iN (j)))]) hC.1 hC.2.1 dX5_ledgerTold_42 rfl hl (by decide) rfl (fun ls hl => ?_)
        refine x_iinc (lv' := [(5, .int (iN (j + 1))), (2, .int (iN (n + z_97))), (6, .null), (0, .ref a), (1, .int (iN (p0))), (3, .ref ya), (4, .int (iN (4)))]) hC dX5_ledgerTold_43 hl (k := 6) rfl (by decide) rfl (fun ls hl => ?_)
        refine lv_goto (tgt := 14) hC.1 hC.2.1 dX5_ledgerTold_46 (by decide) ?_
        exact ih14 (n + z_97) (j + 1)  _ _ _ (by first | exact mu_s hmz14 (by omega) | omega) (by omega) (by omega) (by rw [opC_s (by omega) (by rw [opN_none hnhy_95]; first | done | rfl)]; omega) hw (lv_sub hl [3, 4, 1, 5, 6, 0] rfl)
      · obtain ⟨ti_98, fi_98, hui_98, hIi_98⟩ := (hR.vw (show (j).toNat < 4 from tn_lt (by omega) (by decide))).yes hy_95
        obtain ⟨htat_99, htbt_99, htct_99, htdt_99, htet_99⟩ := id hIi_98.2.1
        have hohy_95 := opN_some hui_98
        show W p l e R s m args below meth c _ _ _ _ _ (F0 m 25 ls [.ref y_94])
        refine lv_astore (lv' := [(6, .ref y_94), (0, .ref a), (1, .int (iN (p0))), (2, .int (iN (n))), (3, .ref ya), (4, .int (iN (4))), (5, .int (iN (j)))]) hC.1 hC.2.1 dX5_ledgerTold_25 hl (by decide) rfl (fun ls hl => ?_)
        refine lv_iload_n hC.1 hC.2.1 dX5_ledgerTold_27 rfl (lv_at hl 3 rfl) ?_
        refine lv_aload hC.1 hC.2.1 dX5_ledgerTold_28 (lv_at hl 0 rfl) ?_
        refine lv_ifnull hC.1 hC.2.1 dX5_ledgerTold_30 ?_
        refine x_const hC dX5_ledgerTold_33 ?_
        refine lv_goto (tgt := 38) hC.1 hC.2.1 dX5_ledgerTold_34 (by decide) ?_
        refine x_callS hC hw (lv_size hl) (c_X5_one l G (M := M) (p0 := 1) (by omega)) gX5_ledgerTold_X5_one rfl dv_X5_one_s rfl (Nat.le_of_ble_eq_true rfl) (by rw [hRf]; decide) (by rw [hRl]; decide) (by first | (rw [hRc]; decide) | omega) (by first | (rw [hRs]; decide) | omega) dX5_ledgerTold_38 (fun r9 M_100 H locs hq hw => ?_)
        obtain ⟨z_101, rfl, hM9, hz_101a, hz_101b⟩ := hq
        rw [hM9] at hw
        show W p l e R s m args below meth c H locs _ _ _ (F0 m 41 ls [.int (iN (z_101)), .int (iN (n))])
        refine x_iadd hC dX5_ledgerTold_41 ?_
        refine lv_istore_n (lv' := [(2, .int (iN (n + z_101))), (6, .ref y_94), (0, .ref a), (1, .int (iN (p0))), (3, .ref ya), (4, .int (iN (4))), (5, .int (iN (j)))]) hC.1 hC.2.1 dX5_ledgerTold_42 rfl hl (by decide) rfl (fun ls hl => ?_)
        refine x_iinc (lv' := [(5, .int (iN (j + 1))), (2, .int (iN (n + z_101))), (6, .ref y_94), (0, .ref a), (1, .int (iN (p0))), (3, .ref ya), (4, .int (iN (4)))]) hC dX5_ledgerTold_43 hl (k := 6) rfl (by decide) rfl (fun ls hl => ?_)
        refine lv_goto (tgt := 14) hC.1 hC.2.1 dX5_ledgerTold_46 (by decide) ?_
        exact ih14 (n + z_101) (j + 1)  _ _ _ (by first | exact mu_s hmz14 (by omega) | omega) (by omega) (by omega) (by rw [opC_s (by omega) (by rw [opN_some hui_98]; first | done | rfl)]; omega) hw (lv_sub hl [3, 4, 1, 5, 6, 0] rfl)
set_option maxHeartbeats 4000000 in
set_option maxRecDepth 100000 in
theorem c_X5_ledger (l : Launch) (G : xG) {M : HM} {a va oa wa ya : Nat} {wk : Option Nat} {th : Int} {rfd : Int32} {br re la ha : Int} {kp kv : Int32} {qv qw : Nat → Nat} {fa fb : Nat → Option Nat} {V : BW} {O : OW} {fy : Nat → Option Nat} {Wv : VW} {wt : Option VT} {S : Nat → Bool} (hR : MGx G M a va oa wa ya wk th rfd br re la ha kp kv qv qw fa fb V O fy Wv wt S) {K : WA} (hK : abM O wt br re la ha K) {p0 : Int} (hp0 : -2147483648 ≤ p0 ∧ p0 ≤ 2147483647) : xMet l G yX5_ledger wsX5_ledger 2 46 1 7 [.ref a, .int (iN (p0))] M (fun r M1 => ∃ (z th1 : Int), r = some (.int (iN z)) ∧ (-2147483648 ≤ z ∧ z ≤ 2147483647) ∧ ((th1 = 0 ∧ ((0 ≤ p0 ∧ p0 ≤ 6)) ∧ z = A_ledger (O, V, Wv, K, kp, kv, rfd) p0 ∧ MGm G M1 a S th1 (O, V, Wv, K, kp, kv, rfd)) ∨ (th1 ≠ 0 ∧ ((th1 = 1 ∧ ¬ (0 ≤ p0 ∧ p0 ≤ 6))) ∧ MGm G M1 a S th1 (O, V, Wv, K, kp, kv, rfd)))) := by
  refine x_intro (cc := cX5_ledger) (maxL := 2) (ret := (some .int)) (by exact pln_RX5) rfl (Nat.le_of_ble_eq_true rfl) ?_
  intro p e R s m args below meth c ls hRf hRc hRs hRl hC hw hl
  have hsc0 := hR.sc.1
  have hl : lv_has ls 2 [(0, .ref a), (1, .int (iN (p0)))] := hl
  refine lv_aload_n hC.1 hC.2.1 dX5_ledger_0 rfl (lv_at hl 0 rfl) ?_
  refine lv_iload_n hC.1 hC.2.1 dX5_ledger_1 rfl (lv_at hl 1 rfl) ?_
  refine x_const hC dX5_ledger_2 ?_
  refine x_bipush hC dX5_ledger_3 (by decide +kernel) ?_
  refine x_callS hC hw (lv_size hl) (c_X5_isIn l G (M := M) (p0 := p0) (by first | assumption | omega) (p1 := 0) (by omega) (p2 := 6) (by omega)) gX5_ledger_X5_isIn rfl dv_X5_isIn_s rfl (Nat.le_of_ble_eq_true rfl) (by rw [hRf]; decide) (by rw [hRl]; decide) (by first | (rw [hRc]; decide) | omega) (by first | (rw [hRs]; decide) | omega) dX5_ledger_5 (fun r9 M_1 H locs hq hw => ?_)
  obtain ⟨z_2, rfl, hM9, hz_2a, hz_2b, hz_2c⟩ := hq
  rw [hM9] at hw
  show W p l e R s m args below meth c H locs _ _ _ (F0 m 8 ls [.int (iN (z_2)), .ref a])
  refine x_if_ne (tgt := 15) hC ⟨by omega, by omega⟩ dX5_ledger_8 (by decide) (fun c_3 => ?_) (fun c_3 => ?_)
  · refine x_const hC dX5_ledger_15 ?_
    refine x_const hC dX5_ledger_16 ?_
    refine x_callV hC hw (lv_size hl) (c_X5_start l G hR (p0 := 0) (by omega) (p1 := 1) (by omega) (by omega)) gX5_ledger_X5_start rfl dv_X5_start hR.1.1 rfl rfl (Nat.le_of_ble_eq_true rfl) (by rw [hRf]; decide) (by rw [hRl]; decide) (by first | (rw [hRc]; decide) | omega) (by first | (rw [hRs]; decide) | omega) dX5_ledger_17 (fun r9 M_4 H locs hq hw => ?_)
    obtain ⟨z_6, thk_5, rfl, hz_6r, hx5k_5, hRk_5⟩ := hq
    have hsck_5 := hRk_5.sc.1
    show W p l e R s m args below meth c H locs _ _ _ (F0 m 20 ls [.int (iN (z_6))])
    refine x_if_eq (tgt := 27) hC ⟨by omega, by omega⟩ dX5_ledger_20 (by decide) (fun c_7 => ?_) (fun c_7 => ?_)
    · replace hz_6r := (hz_6r.resolve_right (fun q9 => absurd (q9.1.symm.trans c_7) (by decide))).2
      refine lv_aload_n hC.1 hC.2.1 dX5_ledger_27 rfl (lv_at hl 0 rfl) ?_
      refine lv_iload_n hC.1 hC.2.1 dX5_ledger_28 rfl (lv_at hl 1 rfl) ?_
      refine x_callV hC hw (lv_size hl) (c_X5_ledgerTold l G hRk_5 (p0 := p0) (by first | assumption | omega) (by omega)) gX5_ledger_X5_ledgerTold rfl dv_X5_ledgerTold hRk_5.1.1 rfl rfl (Nat.le_of_ble_eq_true rfl) (by rw [hRf]; decide) (by rw [hRl]; decide) (by first | (rw [hRc]; decide) | omega) (by first | (rw [hRs]; decide) | omega) dX5_ledger_29 (fun r9 M_8 H locs hq hw => ?_)
      obtain ⟨z_9, rfl, hxz_9, hz_9a, hz_9l⟩ := hq
      have h_10 := hRk_5.ext hxz_9
      show W p l e R s m args below meth c H locs _ _ _ (F0 m 32 ls [.int (iN (z_9))])
      exact x_iret hC hw dX5_ledger_32 (by first | decide | omega) (by first | decide | omega) ⟨z_9, thk_5, rfl, ⟨by omega, by omega⟩, Or.inl ⟨by omega, ⟨(by first | omega | trivial), (by first | omega | trivial)⟩, (led_A hK (by omega) hz_9l), MGm.of h_10 hK⟩⟩
    · replace hz_6r := (hz_6r.resolve_left (fun q9 => c_7 q9.1)).2
      refine x_const hC dX5_ledger_23 ?_
      refine lv_goto (tgt := 32) hC.1 hC.2.1 dX5_ledger_24 (by decide) ?_
      exact x_iret hC hw dX5_ledger_32 (by first | decide | omega) (by first | decide | omega) ⟨0, thk_5, rfl, by omega, Or.inr ⟨by omega, by omega, MGm.of hRk_5 hK⟩⟩
  · refine x_const hC dX5_ledger_11 ?_
    refine lv_goto (tgt := 16) hC.1 hC.2.1 dX5_ledger_12 (by decide) ?_
    refine x_const hC dX5_ledger_16 ?_
    refine x_callV hC hw (lv_size hl) (c_X5_start l G hR (p0 := 1) (by omega) (p1 := 1) (by omega) (by omega)) gX5_ledger_X5_start rfl dv_X5_start hR.1.1 rfl rfl (Nat.le_of_ble_eq_true rfl) (by rw [hRf]; decide) (by rw [hRl]; decide) (by first | (rw [hRc]; decide) | omega) (by first | (rw [hRs]; decide) | omega) dX5_ledger_17 (fun r9 M_11 H locs hq hw => ?_)
    obtain ⟨z_13, thk_12, rfl, hz_13r, hx5k_12, hRk_12⟩ := hq
    have hsck_12 := hRk_12.sc.1
    show W p l e R s m args below meth c H locs _ _ _ (F0 m 20 ls [.int (iN (z_13))])
    refine x_if_eq (tgt := 27) hC ⟨by omega, by omega⟩ dX5_ledger_20 (by decide) (fun c_14 => ?_) (fun c_14 => ?_)
    · replace hz_13r := (hz_13r.resolve_right (fun q9 => absurd (q9.1.symm.trans c_14) (by decide))).2
      exact absurd hz_13r.2 (by decide)
    · replace hz_13r := (hz_13r.resolve_left (fun q9 => c_14 q9.1)).2
      refine x_const hC dX5_ledger_23 ?_
      refine lv_goto (tgt := 32) hC.1 hC.2.1 dX5_ledger_24 (by decide) ?_
      exact x_iret hC hw dX5_ledger_32 (by first | decide | omega) (by first | decide | omega) ⟨0, thk_12, rfl, by omega, Or.inr ⟨by omega, by omega, MGm.of hRk_12 hK⟩⟩
